/-! ===== days, pulls, stops, combs, taps, gives, sheet, year: the class over the whole state ===== -/
def actN (k : Int32) : Nat := if k.toInt = 99 ∨ k.toInt = 110 ∨ k.toInt = 112 ∨ k.toInt = 115 then 2 else if k.toInt = 103 ∨ k.toInt = 116 then 3 else 0
def yrF (tx : Nat → Nat) (tl : Nat) : Nat → Nat → Option Nat
  | 0, _ => none
  | f + 1, p => if tl ≤ p then none else if actN (sgn tx tl 60 p) = 0 then some p else if eX9_isDigit (sgn tx tl 60 (p + 1)) = 0 then some (p + 1) else if actN (sgn tx tl 60 p) = 3 ∧ (if sgn tx tl 60 p = 103 then eX9_isKingSign (sgn tx tl 60 (p + 2)) = 0 else eX9_isDigit (sgn tx tl 60 (p + 2)) = 0) then some (p + 2) else yrF tx tl f (p + actN (sgn tx tl 60 p))
section SP
variable (rv : pRV) (br dn : Nat → Int32) (n : Nat) (tx : Nat → Nat) (tl : Nat)
def yrA (p : Nat) (W : pW) : Int32 × pW := actW rv br dn n (sgn tx tl 60 p) (sgn tx tl 80 (p + 1) - 48) (if sgn tx tl 60 p = 103 then sgn tx tl 60 (p + 2) - 97 else sgn tx tl 60 (p + 2) - 48) W
def yrX : Nat → Nat → pW → Nat → Nat × Bool × pW
  | 0, _, W, dn_ => (dn_, false, W)
  | f + 1, p, W, dn_ => if tl ≤ p then (dn_, false, W) else if (yrA rv br dn n tx tl p W).1 < 0 then (dn_, true, (yrA rv br dn n tx tl p W).2) else yrX f (p + actN (sgn tx tl 60 p)) (yrA rv br dn n tx tl p W).2 (dn_ + 1)
end SP
def yrE (S : pS) (r : Nat × Bool × pW) : pR := (nI r.1, ((if r.1 = 0 then (S.sW r.2.2).sTl 0 else (((S.sW r.2.2).sTl 0).sU (pushU S.U S.W)))).sRw [if r.2.1 = true then 1 else 0, (sumI r.2.2.lv S.n).toInt64])
def o_year (S : pS) : pR := match yrF S.tx S.tl 61 0 with
  | some p => (-1 - nI p, S.sTl 0)
  | none => yrE S (yrX S.rv S.br S.dn S.n S.tx S.tl 60 0 S.W 0)
section CY
variable {Ex : State → Nat → Prop} {Q : Option Value → pz_H → Prop} {d bc bs : Nat} {h h' : pz_H} {x rF rO n : Nat} {td : Option Nat} {dw : Int32} {S : pS} {br dn : Nat → Int32} {W T : pW} {rv : pRV} {rw : List Int64}
theorem al_in {b : Nat} (hb : b ∈ AL x rF) : (x + 3 ≤ b ∧ b < x + 16 ∨ x + 22 ≤ b ∧ b < x + 28 ∨ rF ≤ b ∧ b < rF + 4) := by
  simp at hb
  omega
theorem CRest.sW {V : pW} (H : CRest h x rF rO td dw S) : CRest h x rF rO td dw (S.sW V) := H
theorem CRest.sRw {v : List Int64} (H : CRest h x rF rO td dw S) : CRest h x rF rO td dw (S.sRw v) := H
theorem q_before (C : CQ h x rF S.n S.br S.dn S.W T S.rv S.rw) (H : CRest h x rF rO td dw S) (hd : 1 ≤ d) (hq : ∀ h', CQ h' x rF S.n S.br S.dn S.W T S.rv S.rw → CRest h' x rF rO td dw S → WatT h' (x + 16) S.W → FC x h h' → Q none h') : pz_V mX8_copy Ex Q d bc bs 0 [(0, .ref (x + 16)), (1, .ref (x + 10))] [] h := by
  obtain ⟨hr0, hn0, hWo0, hTo0, ⟨rO0, td0, ks0, dw0, HTop0⟩, ⟨ru0, nx0, HL0⟩, HW0, HT0, ⟨pa0, sk0, th0, len0, src0, at0, HR0, hv0⟩, ⟨nu0, HRow0, hrow0⟩⟩ := id C
  obtain ⟨hh1, hh2, ⟨zhsg, hh3, hh3'⟩, ⟨zhB, hh4, hh4'⟩, hh5, hh6, ⟨zhch, zhne, zhof, hh7⟩, ⟨zhg, hh8, hh8'⟩, hh9, hh10, ⟨zhb1, hh11⟩, ⟨zhb2, hh12⟩, ⟨zhpa, zhsk, zhth, zhlen, zhsrc, zhat, hh13⟩, hh14⟩ := id H
  refine t_copy2 hh4 HW0 hh4' hWo0 (by omega) hd (fun h1 HB1 hF1 => hq h1 (C.frX hF1 (by intro b hb; simp at hb; omega)) ⟨hh1, hh2.fr hF1 (by simp <;> omega), ⟨zhsg, hh3.fr hF1 (by intro b hb; simp at hb; omega), hh3'⟩, ⟨S.W, HB1, hWo0⟩, hh5.fr hF1 (by intro b hb; simp at hb; omega), hh6.fr hF1 (by intro b hb; simp at hb; omega), ⟨zhch, zhne, zhof, hh7.fr hF1 (by intro b hb; simp at hb; omega)⟩, ⟨zhg, (hF1.2 _ (by simp <;> omega)).trans hh8, hh8'⟩, ⟨hh9.1.fr hF1 (by intro b hb; simp at hb; omega), hh9.2⟩, ⟨hh10.1.fr hF1 (by intro b hb; simp at hb; omega), hh10.2⟩, ⟨zhb1, (hF1.2 _ (by simp <;> omega)).trans hh11⟩, ⟨zhb2, (hF1.2 _ (by simp <;> omega)).trans hh12⟩, ⟨zhpa, zhsk, zhth, zhlen, zhsrc, zhat, hh13.fr hF1 (by intro b hb; simp at hb; omega)⟩, tdFr hh14 hF1 (by intro b hb; simp at hb; omega)⟩ HB1 (FC.of hF1 (by intro b hb; simp at hb; omega)))
theorem q_push {V : pW} (C : CQ h x rF S.n S.br S.dn S.W T S.rv S.rw) (H : CRest h x rF rO td dw S) (HB : WatT h (x + 16) V) (hV : Wok V) (hU : S.U.length ≤ 12) (hd : 2 ≤ d) (hq : ∀ h', CQ h' x rF S.n S.br S.dn S.W T S.rv S.rw → CRest h' x rF rO td dw (S.sU (pushU S.U V)) → WatT h' (x + 16) V → FC x h h' → Q none h') : pz_V mX2_add Ex Q d bc bs 0 [(0, .ref (x + 28)), (1, .ref (x + 16))] [] h := by
  obtain ⟨hr0, hn0, hWo0, hTo0, ⟨rO0, td0, ks0, dw0, HTop0⟩, ⟨ru0, nx0, HL0⟩, HW0, HT0, ⟨pa0, sk0, th0, len0, src0, at0, HR0, hv0⟩, ⟨nu0, HRow0, hrow0⟩⟩ := id C
  obtain ⟨hh1, hh2, ⟨zhsg, hh3, hh3'⟩, ⟨zhB, hh4, hh4'⟩, hh5, hh6, ⟨zhch, zhne, zhof, hh7⟩, ⟨zhg, hh8, hh8'⟩, hh9, hh10, ⟨zhb1, hh11⟩, ⟨zhb2, hh12⟩, ⟨zhpa, zhsk, zhth, zhlen, zhsrc, zhat, hh13⟩, hh14⟩ := id H
  refine t_past hh5 hU HB hV hd (fun h1 hP1 hF1 => ?_)
  have hl : ∀ b ∈ PL x, x + 28 ≤ b ∧ b < x + 102 := fun b hb => pl_mem.mp hb
  refine hq h1 (C.frX hF1 (fun b hb => by have := hl b hb; omega)) ?_ (HB.fr hF1 (fun b hb => by have := hl b hb; omega)) (FC.of hF1 (fun b hb => by have := hl b hb; omega))
  have fr : ∀ {a k : Nat}, (a + k ≤ x + 28 ∨ x + 102 ≤ a) → ∀ b ∈ PL x, b < a ∨ a + k ≤ b := fun h1 b hb => by have := hl b hb; omega
  have ne : ∀ {a : Nat}, (a < x + 28 ∨ x + 102 ≤ a) → a ∉ PL x := fun h1 hb => by have := hl _ hb; omega
  exact ⟨hh1, hh2.fr hF1 (ne (by omega)), ⟨zhsg, hh3.fr hF1 (fr (by omega)), hh3'⟩, ⟨V, HB.fr hF1 (fr (by omega)), hV⟩, hP1, hh6.fr hF1 (fr (by omega)), ⟨zhch, zhne, zhof, hh7.fr hF1 (fr (by omega))⟩, ⟨zhg, (hF1.2 _ (ne (by omega))).trans hh8, hh8'⟩, ⟨hh9.1.fr hF1 (fr (by omega)), hh9.2⟩, ⟨hh10.1.fr hF1 (fr (by omega)), hh10.2⟩, ⟨zhb1, (hF1.2 _ (ne (by omega))).trans hh11⟩, ⟨zhb2, (hF1.2 _ (ne (by omega))).trans hh12⟩, ⟨zhpa, zhsk, zhth, zhlen, zhsrc, zhat, hh13.fr hF1 (fr (by omega))⟩, tdFr hh14 hF1 (fun b hb => by have := hl b hb; omega)⟩
theorem C_rem {kind which v : Int32} (I : CInv h x S) (O : SOk S) (hd : 6 ≤ d) (hq : ∀ h' rF rO td dw T, CQ h' x rF (o_act kind which v S).2.n (o_act kind which v S).2.br (o_act kind which v S).2.dn (o_act kind which v S).2.W T (o_act kind which v S).2.rv (o_act kind which v S).2.rw → CRest h' x rF rO td dw (o_act kind which v S).2 → WatT h' (x + 16) S.W → FC x h h' → Q (some (.int (o_act kind which v S).1)) h') : pz_V mX9_doAndRemember Ex Q d bc bs 0 [(0, .ref x), (1, .int kind), (2, .int which), (3, .int v)] [] h := by
  obtain ⟨rF, rO, td, dw, T, C, H⟩ := I
  obtain ⟨hr0, hn0, hWo0, hTo0, ⟨rO0, td0, ks0, dw0, HTop0⟩, ⟨ru0, nx0, HL0⟩, HW0, HT0, ⟨pa0, sk0, th0, len0, src0, at0, HR0, hv0⟩, ⟨nu0, HRow0, hrow0⟩⟩ := id C
  obtain ⟨hh1, hh2, ⟨zhsg, hh3, hh3'⟩, ⟨zhB, hh4, hh4'⟩, hh5, hh6, ⟨zhch, zhne, zhof, hh7⟩, ⟨zhg, hh8, hh8'⟩, hh9, hh10, ⟨zhb1, hh11⟩, ⟨zhb2, hh12⟩, ⟨zhpa, zhsk, zhth, zhlen, zhsrc, zhat, hh13⟩, hh14⟩ := id H
  unfold o_act at hq
  dsimp only at hq
  refine wX9_doAndRemember_0 hd (HTop0.g4.mpr (HTop0.g3.mpr ⟨hh4.i.mpr trivial, q_before C H (Nat.le_refl _) (fun h1 C1 H1 HB1 f1 => ⟨rfl, ?_⟩)⟩))
  obtain ⟨hr1, hn1, hWo1, hTo1, ⟨rO1, td1, ks1, dw1, HTop1⟩, ⟨ru1, nx1, HL1⟩, HW1, HT1, ⟨pa1, sk1, th1, len1, src1, at1, HR1, hv1⟩, ⟨nu1, HRow1, hrow1⟩⟩ := id C1
  refine ⟨HTop1.i.mpr trivial, t_doAct C1 (by omega) (fun h2 C2 hF2 => ⟨_, rfl, ?_⟩)⟩
  have H2 : CRest h2 x rF rO td dw (S.sW (actW S.rv S.br S.dn S.n kind which v S.W).2) := (H1.fr hF2 (fun b hb => al_in hb)).sW
  have HB2 := HB1.fr hF2 (by intro b hb; simp at hb; omega)
  have f2 := f1.tr (FC.of hF2 (fun b hb => by have := al_in hb; omega))
  have push : ¬ (actW S.rv S.br S.dn S.n kind which v S.W).1 < 0 → ¬ (kind = 110 ∧ which = 0) → pz_gR h2 x 9 6 (fun (a6 : Nat) => pz_gR h2 x 9 4 (fun (a7 : Nat) => pz_is h2 a6 2 ∧ (pz_kv mX2_add 2 0 0 (.ref a6 :: [.ref a7]) h2 (fun (h8 : pz_H) => Q (some (.int (actW S.rv S.br S.dn S.n kind which v S.W).1)) h8)))) := by
    intro hn0 hne
    rw [if_neg (by rintro (q | q); exact hn0 q; exact hne q)] at hq
    have HT2 := H2.2.1
    have hP2 := H2.2.2.2.2.1
    exact HT2.g6.mpr (HT2.g4.mpr ⟨hP2.st.i.mpr trivial, q_push (S := S.sW (actW S.rv S.br S.dn S.n kind which v S.W).2) C2 H2 HB2 hWo0 O.2.2.2.2.2.1 (Nat.le_refl _) (fun h3 C3 H3 HB3 f3 => ⟨rfl, hq h3 rF rO td dw T C3 H3 HB3 (f2.tr f3)⟩)⟩)
  have noPush : ((actW S.rv S.br S.dn S.n kind which v S.W).1 < 0 ∨ (kind = 110 ∧ which = 0)) → Q (some (.int (actW S.rv S.br S.dn S.n kind which v S.W).1)) h2 := by
    intro hc
    rw [if_pos hc] at hq
    exact hq h2 rF rO td dw T C2 H2 HB2 f2
  refine ⟨fun hk => ⟨fun hlt => noPush (Or.inl hlt), fun hnl => push hnl (fun q => hk q.1)⟩, fun hk => ⟨fun hw => ⟨fun hlt => noPush (Or.inl hlt), fun hnl => push hnl (fun q => hw q.2)⟩, fun hw => ⟨fun hlt => noPush (Or.inl hlt), fun _ => noPush (Or.inr ⟨hk, hw⟩)⟩⟩⟩
theorem C_days {m : Int32} (I : CInv h x S) (O : SOk S) (hd : 7 ≤ d) (hq : ∀ h', CInv h' x (o_days m S).2 → FC x h h' → Q (some (.int (o_days m S).1)) h') : pz_V mX9_days Ex Q d bc bs 0 [(0, .ref x), (1, .int m)] [] h := by
  have hT := I
  obtain ⟨rF0, rO0, td0, dw0, T0, C0, H0⟩ := hT
  unfold o_days at hq
  dsimp only at hq
  refine wX9_days_0 hd ⟨H0.2.1.i.mpr trivial, C_rem I O (by omega) (fun h1 rF rO td dw T C1 H1 HB1 f1 => ⟨_, rfl, ⟨fun hlt => ?_, fun hnl => ?_⟩⟩)⟩
  · rw [if_pos hlt] at hq
    exact hq h1 ⟨rF, rO, td, dw, T, C1, H1⟩ f1
  · rw [if_neg hnl] at hq
    obtain ⟨hr1, hn1, hWo1, hTo1, ⟨rO1, td1, ks1, dw1, HTop1⟩, ⟨ru1, nx1, HL1⟩, HW1, HT1, ⟨pa1, sk1, th1, len1, src1, at1, HR1, hv1⟩, ⟨nu1, HRow1, hrow1⟩⟩ := id C1
    simp only [HTop1.g0, HTop1.g1, HTop1.g2, HTop1.g3, HTop1.g4, HTop1.g5, HTop1.g6, HTop1.g7, HTop1.g8, HTop1.g9, HTop1.g10, HTop1.g11, HTop1.g12, HTop1.g13, HTop1.g15, HTop1.g16, HTop1.i, HL1.g0, HL1.g1, HL1.g2, HL1.g3, HL1.g4, HL1.i, HL1.r0, HL1.r1, HW1.g0, HW1.g1, HW1.g2, HW1.g3, HW1.g4, HW1.g5, HW1.g6, HW1.g7, HW1.g8, HW1.i, HW1.r0, HW1.r1, HW1.r2, HW1.r3, HW1.r4, HT1.g0, HT1.g1, HT1.g2, HT1.g3, HT1.g4, HT1.g5, HT1.g6, HT1.g7, HT1.g8, HT1.i, HT1.r0, HT1.r1, HT1.r2, HT1.r3, HT1.r4, HR1.i, HRow1.i, HB1.g7, HB1.g8, true_and]
    refine q_tell2 C1 (by omega) (fun h2 C2 hF2 => ⟨rfl, ?_⟩)
    have hr := C1.1
    exact hq h2 ⟨rF, rO, td, dw, T, C2, (H1.fr hF2 (fun b hb => sc_in hb)).sRw⟩ (f1.tr (FC.of hF2 (fun b hb => by have := sc_in hb; omega)))
theorem C_pulls {l : Int32} (I : CInv h x S) (O : SOk S) (hd : 7 ≤ d) (hq : ∀ h', CInv h' x (o_act 112 l 0 S).2 → FC x h h' → Q (some (.int (o_act 112 l 0 S).1)) h') : pz_V mX9_pulls Ex Q d bc bs 0 [(0, .ref x), (1, .int l)] [] h := by
  have hT := I
  obtain ⟨rF0, rO0, td0, dw0, T0, C0, H0⟩ := hT
  exact wX9_pulls_0 hd ⟨H0.2.1.i.mpr trivial, C_rem I O (by omega) (fun h1 rF rO td dw T C1 H1 HB1 f1 => ⟨_, rfl, hq h1 ⟨rF, rO, td, dw, T, C1, H1⟩ f1⟩)⟩
theorem C_stops {l : Int32} (I : CInv h x S) (O : SOk S) (hd : 7 ≤ d) (hq : ∀ h', CInv h' x (o_act 115 l 0 S).2 → FC x h h' → Q (some (.int (o_act 115 l 0 S).1)) h') : pz_V mX9_stops Ex Q d bc bs 0 [(0, .ref x), (1, .int l)] [] h := by
  have hT := I
  obtain ⟨rF0, rO0, td0, dw0, T0, C0, H0⟩ := hT
  exact wX9_stops_0 hd ⟨H0.2.1.i.mpr trivial, C_rem I O (by omega) (fun h1 rF rO td dw T C1 H1 HB1 f1 => ⟨_, rfl, hq h1 ⟨rF, rO, td, dw, T, C1, H1⟩ f1⟩)⟩
theorem C_combs {l : Int32} (I : CInv h x S) (O : SOk S) (hd : 7 ≤ d) (hq : ∀ h', CInv h' x (o_act 99 l 0 S).2 → FC x h h' → Q (some (.int (o_act 99 l 0 S).1)) h') : pz_V mX9_combs Ex Q d bc bs 0 [(0, .ref x), (1, .int l)] [] h := by
  have hT := I
  obtain ⟨rF0, rO0, td0, dw0, T0, C0, H0⟩ := hT
  exact wX9_combs_0 hd ⟨H0.2.1.i.mpr trivial, C_rem I O (by omega) (fun h1 rF rO td dw T C1 H1 HB1 f1 => ⟨_, rfl, hq h1 ⟨rF, rO, td, dw, T, C1, H1⟩ f1⟩)⟩
theorem C_taps {l v : Int32} (I : CInv h x S) (O : SOk S) (hd : 7 ≤ d) (hq : ∀ h', CInv h' x (o_act 116 l v S).2 → FC x h h' → Q (some (.int (o_act 116 l v S).1)) h') : pz_V mX9_taps Ex Q d bc bs 0 [(0, .ref x), (1, .int l), (2, .int v)] [] h := by
  have hT := I
  obtain ⟨rF0, rO0, td0, dw0, T0, C0, H0⟩ := hT
  exact wX9_taps_0 hd ⟨H0.2.1.i.mpr trivial, C_rem I O (by omega) (fun h1 rF rO td dw T C1 H1 HB1 f1 => ⟨_, rfl, hq h1 ⟨rF, rO, td, dw, T, C1, H1⟩ f1⟩)⟩
theorem C_gives {l v : Int32} (I : CInv h x S) (O : SOk S) (hd : 7 ≤ d) (hq : ∀ h', CInv h' x (o_act 103 l v S).2 → FC x h h' → Q (some (.int (o_act 103 l v S).1)) h') : pz_V mX9_gives Ex Q d bc bs 0 [(0, .ref x), (1, .int l), (2, .int v)] [] h := by
  have hT := I
  obtain ⟨rF0, rO0, td0, dw0, T0, C0, H0⟩ := hT
  exact wX9_gives_0 hd ⟨H0.2.1.i.mpr trivial, C_rem I O (by omega) (fun h1 rF rO td dw T C1 H1 HB1 f1 => ⟨_, rfl, hq h1 ⟨rF, rO, td, dw, T, C1, H1⟩ f1⟩)⟩
theorem q_fill {kind m f st : Int32} (C : CQ h x rF n br dn W T rv rw) (hd : 1 ≤ d) (hq : ∀ h', CQ h' x rF n br dn (W.sLv (fa_fill (shV kind m f st br) W.lv n)) T rv rw → Fr (AL x rF) h h' → Q none h') : pz_V mX9_fillFromSheet Ex Q d bc bs 0 [(0, .ref x), (1, .int kind), (2, .int m), (3, .int f), (4, .int st)] [] h := by
  have hn := C.2.1
  refine wX9_fillFromSheet_0 hd ?_
  suffices H : ∀ q i (h1 : pz_H), i + q = n → CQ h1 x rF n br dn (W.sLv (fa_fill (shV kind m f st br) W.lv i)) T rv rw → Fr (AL x rF) h h1 → pz_V mX9_fillFromSheet Ex Q d bc bs 3 [(0, .ref x), (1, .int kind), (2, .int m), (3, .int f), (4, .int st), (5, .int (nI i))] [] h1 from H n 0 h (Nat.zero_add _) (by rw [fa_fill_0]; exact C) Fr.rf
  intro q
  induction q with
  | zero =>
    intro i h1 hi C1 hF1
    have e : i = n := hi
    subst e
    obtain ⟨hr1, hn1, hWo1, hTo1, ⟨rO1, td1, ks1, dw1, HTop1⟩, ⟨ru1, nx1, HL1⟩, HW1, HT1, ⟨pa1, sk1, th1, len1, src1, at1, HR1, hv1⟩, ⟨nu1, HRow1, hrow1⟩⟩ := id C1
    refine wX9_fillFromSheet_3 hd ?_
    simp only [HTop1.g0, HTop1.g1, HTop1.g2, HTop1.g3, HTop1.g4, HTop1.g5, HTop1.g6, HTop1.g7, HTop1.g8, HTop1.g9, HTop1.g10, HTop1.g11, HTop1.g12, HTop1.g13, HTop1.g15, HTop1.g16, HTop1.i, HL1.g0, HL1.g1, HL1.g2, HL1.g3, HL1.g4, HL1.i, HL1.r0, HL1.r1, HW1.g0, HW1.g1, HW1.g2, HW1.g3, HW1.g4, HW1.g5, HW1.g6, HW1.g7, HW1.g8, HW1.i, HW1.r0, HW1.r1, HW1.r2, HW1.r3, HW1.r4, HT1.g0, HT1.g1, HT1.g2, HT1.g3, HT1.g4, HT1.g5, HT1.g6, HT1.g7, HT1.g8, HT1.i, HT1.r0, HT1.r1, HT1.r2, HT1.r3, HT1.r4, HR1.i, HRow1.i, true_and]
    exact ⟨fun _ => hq h1 C1 hF1, fun hc => absurd (nI_le (Nat.le_refl _) (by omega)) hc⟩
  | succ q ih =>
    intro i h1 hi C1 hF1
    obtain ⟨hr1, hn1, hWo1, hTo1, ⟨rO1, td1, ks1, dw1, HTop1⟩, ⟨ru1, nx1, HL1⟩, HW1, HT1, ⟨pa1, sk1, th1, len1, src1, at1, HR1, hv1⟩, ⟨nu1, HRow1, hrow1⟩⟩ := id C1
    have v6 : vp_in (nI i) 6 := vin (by omega) (by decide)
    have g := fun h' => ih (i + 1) h' (by omega)
    rw [← fa_fill_succ] at g
    unfold shV at g
    dsimp only at g
    refine wX9_fillFromSheet_3 hd ?_
    simp only [HTop1.g0, HTop1.g1, HTop1.g2, HTop1.g3, HTop1.g4, HTop1.g5, HTop1.g6, HTop1.g7, HTop1.g8, HTop1.g9, HTop1.g10, HTop1.g11, HTop1.g12, HTop1.g13, HTop1.g15, HTop1.g16, HTop1.i, HL1.g0, HL1.g1, HL1.g2, HL1.g3, HL1.g4, HL1.i, HL1.r0, HL1.r1, HW1.g0, HW1.g1, HW1.g2, HW1.g3, HW1.g4, HW1.g5, HW1.g6, HW1.g7, HW1.g8, HW1.i, HW1.r0, HW1.r1, HW1.r2, HW1.r3, HW1.r4, HT1.g0, HT1.g1, HT1.g2, HT1.g3, HT1.g4, HT1.g5, HT1.g6, HT1.g7, HT1.g8, HT1.i, HT1.r0, HT1.r1, HT1.r2, HT1.r3, HT1.r4, HR1.i, HRow1.i, v6, clamp (i := i) (by omega), nI_1, true_and]
    refine ⟨fun hc => absurd hc (nI_ge (by omega) (by omega)), fun _ => ⟨fun hle => n_lv C1 (by omega) (fun h2 C2 hF2 => g h2 ?_ (hF1.tt hF2)), fun hgt => n_lv C1 (by omega) (fun h2 C2 hF2 => g h2 ?_ (hF1.tt hF2))⟩⟩
    · rw [if_pos hle]; exact C2
    · rw [if_neg hgt]; exact C2
theorem C_sheet {kind m f st : Int32} (I : CInv h x S) (O : SOk S) (hd : 3 ≤ d) (hq : ∀ h', CInv h' x (o_sheet kind m f st S).2 → FC x h h' → Q (some (.int (o_sheet kind m f st S).1)) h') : pz_V mX9_sheet Ex Q d bc bs 0 [(0, .ref x), (1, .int kind), (2, .int m), (3, .int f), (4, .int st)] [] h := by
  have I' := I
  obtain ⟨rF, rO, td, dw, T, C, H⟩ := I
  have hr := C.1
  have HT := H.2.1
  unfold o_sheet at hq
  refine wX9_sheet_0 hd ⟨fun c1 => by rw [if_pos c1] at hq; exact hq h I' FC.rf, fun c1 => ⟨fun c2 => by rw [if_neg c1, if_pos c2] at hq; exact hq h I' FC.rf, fun c2 => ⟨fun c3 => ⟨fun c4 => ⟨fun c5 => ⟨HT.i.mpr trivial, q_fill C (by omega) (fun h1 C1 hF1 => ⟨rfl, ?_⟩)⟩, fun c5 => by rw [if_neg c1, if_neg c2, if_neg (fun q => q c3), if_neg c4, if_pos c5] at hq; exact hq h I' FC.rf⟩, fun c4 => ⟨HT.i.mpr trivial, q_fill C (by omega) (fun h1 C1 hF1 => ⟨rfl, ?_⟩)⟩⟩, fun c3 => by rw [if_neg c1, if_neg c2, if_pos c3] at hq; exact hq h I' FC.rf⟩⟩⟩
  · rw [if_neg c1, if_neg c2, if_neg (fun q => q c3), if_neg c4, if_neg (fun q => q c5)] at hq
    obtain ⟨hr1, hn1, hWo1, hTo1, ⟨rO1, td1, ks1, dw1, HTop1⟩, ⟨ru1, nx1, HL1⟩, HW1, HT1, ⟨pa1, sk1, th1, len1, src1, at1, HR1, hv1⟩, ⟨nu1, HRow1, hrow1⟩⟩ := id C1
    simp only [HTop1.g0, HTop1.g1, HTop1.g2, HTop1.g3, HTop1.g4, HTop1.g5, HTop1.g6, HTop1.g7, HTop1.g8, HTop1.g9, HTop1.g10, HTop1.g11, HTop1.g12, HTop1.g13, HTop1.g15, HTop1.g16, HTop1.i, HL1.g0, HL1.g1, HL1.g2, HL1.g3, HL1.g4, HL1.i, HL1.r0, HL1.r1, HW1.g0, HW1.g1, HW1.g2, HW1.g3, HW1.g4, HW1.g5, HW1.g6, HW1.g7, HW1.g8, HW1.i, HW1.r0, HW1.r1, HW1.r2, HW1.r3, HW1.r4, HT1.g0, HT1.g1, HT1.g2, HT1.g3, HT1.g4, HT1.g5, HT1.g6, HT1.g7, HT1.g8, HT1.i, HT1.r0, HT1.r1, HT1.r2, HT1.r3, HT1.r4, HR1.i, HRow1.i, true_and]
    exact q_totalN C1 (by omega) ⟨_, rfl, hq h1 ⟨rF, rO, td, dw, T, C1, (H.fr hF1 (fun b hb => al_in hb)).sW⟩ (FC.of hF1 (fun b hb => by have := al_in hb; omega))⟩
  · rw [if_neg c1, if_neg c2, if_neg (fun q => q c3), if_pos c4] at hq
    exact hq h1 ⟨rF, rO, td, dw, T, C1, (H.fr hF1 (fun b hb => al_in hb)).sW⟩ (FC.of hF1 (fun b hb => by have := al_in hb; omega))
theorem t_actSigns {k : Int32} (hq : Q (some (.int (nI (actN k)))) h) : pz_V mX9_actSigns Ex Q d bc bs 0 [(0, .int k)] [] h := by
  unfold actN at hq
  refine wX9_actSigns_0 ⟨fun e => ?_, fun e => ?_, fun e => ?_⟩
  · rw [if_pos e] at hq; exact hq
  · rw [if_neg (by omega), if_pos e] at hq; exact hq
  · rw [if_neg (by omega), if_neg (by omega)] at hq; exact hq
theorem actN_le (k : Int32) : actN k ≤ 3 := by
  unfold actN
  split
  · decide
  · split <;> decide
theorem t_yearFault {sg : Nat → Int32} {tx : Nat → Nat} {tl : Nat} (C : CQ h x rF n br dn W T rv rw) (HX : Txt h (x + 1) sg tl) (hx : TxR sg tx) (ht : tl ≤ 80) (hd : 1 ≤ d) (hq : Q (some (.int (match yrF tx tl 61 0 with | some p => nI p | none => -1))) h) : pz_V mX9_yearFault Ex Q d bc bs 0 [(0, .ref x)] [] h := by
  obtain ⟨hr0, hn0, hWo0, hTo0, ⟨rO0, td0, ks0, dw0, HTop0⟩, ⟨ru0, nx0, HL0⟩, HW0, HT0, ⟨pa0, sk0, th0, len0, src0, at0, HR0, hv0⟩, ⟨nu0, HRow0, hrow0⟩⟩ := id C
  refine wX9_yearFault_0 hd ?_
  suffices H : ∀ f i p, i + f = 61 → p ≤ 3 * i → Q (some (.int (match yrF tx tl f p with | some p => nI p | none => -1))) h → pz_V mX9_yearFault Ex Q d bc bs 4 [(0, .ref x), (1, .int (nI p)), (2, .int (nI i))] [] h from H 61 0 0 rfl (Nat.le_refl _) hq
  clear hq
  intro f
  induction f with
  | zero =>
    intro i p hi hp hq
    have e : i = 61 := hi
    subst e
    exact wX9_yearFault_4 hd ⟨fun _ => hq, fun hc => absurd (nI_lt (a := 60) (b := 61) (by decide) (by decide)) hc⟩
  | succ f ih =>
    intro i p hi hp hq
    unfold yrF at hq
    have hle := actN_le (sgn tx tl 60 p)
    have e2 : nI p + (2 : Int32) = nI (p + 2) := nI_add p 2
    have go : ∀ {z : Prop}, (tl ≤ p → z) → (¬ tl ≤ p → z) → z := fun a b => by
      by_cases q : tl ≤ p
      · exact a q
      · exact b q
    refine wX9_yearFault_4 hd ⟨fun hc => absurd hc (nI_nlt (a := 60) (by omega) (by decide)), fun _ => ?_⟩
    simp only [HTop0.g0, HTop0.g1, HTop0.g2, HTop0.g3, HTop0.g4, HTop0.g5, HTop0.g6, HTop0.g7, HTop0.g8, HTop0.g9, HTop0.g10, HTop0.g11, HTop0.g12, HTop0.g13, HTop0.g15, HTop0.g16, HTop0.i, HL0.g0, HL0.g1, HL0.g2, HL0.g3, HL0.g4, HL0.i, HL0.r0, HL0.r1, HW0.g0, HW0.g1, HW0.g2, HW0.g3, HW0.g4, HW0.g5, HW0.g6, HW0.g7, HW0.g8, HW0.i, HW0.r0, HW0.r1, HW0.r2, HW0.r3, HW0.r4, HT0.g0, HT0.g1, HT0.g2, HT0.g3, HT0.g4, HT0.g5, HT0.g6, HT0.g7, HT0.g8, HT0.i, HT0.r0, HT0.r1, HT0.r2, HT0.r3, HT0.r4, HR0.i, HRow0.i, HX.i, HX.g1, nI_1, e2, true_and]
    refine ⟨fun hc => ?_, fun hc => t_at (lim := 60) HX hx ht (by omega) (by omega) ⟨_, rfl, t_actSigns ⟨_, rfl, ⟨fun hne => ?_, fun he => ?_⟩⟩⟩⟩
    · have h1 : tl ≤ p := by
        rcases Nat.lt_or_ge p tl with q | q
        · exact absurd hc (nI_ge q (by omega))
        · exact q
      rw [if_pos h1] at hq
      exact hq
    · have h1 : ¬ tl ≤ p := fun q => hc (nI_le q (by omega))
      have h0 : ¬ actN (sgn tx tl 60 p) = 0 := fun q => hne (by rw [q]; rfl)
      rw [if_neg h1, if_neg h0] at hq
      simp only [HTop0.g0, HTop0.g1, HTop0.g2, HTop0.g3, HTop0.g4, HTop0.g5, HTop0.g6, HTop0.g7, HTop0.g8, HTop0.g9, HTop0.g10, HTop0.g11, HTop0.g12, HTop0.g13, HTop0.g15, HTop0.g16, HTop0.i, HL0.g0, HL0.g1, HL0.g2, HL0.g3, HL0.g4, HL0.i, HL0.r0, HL0.r1, HW0.g0, HW0.g1, HW0.g2, HW0.g3, HW0.g4, HW0.g5, HW0.g6, HW0.g7, HW0.g8, HW0.i, HW0.r0, HW0.r1, HW0.r2, HW0.r3, HW0.r4, HT0.g0, HT0.g1, HT0.g2, HT0.g3, HT0.g4, HT0.g5, HT0.g6, HT0.g7, HT0.g8, HT0.i, HT0.r0, HT0.r1, HT0.r2, HT0.r3, HT0.r4, HR0.i, HRow0.i, HX.i, true_and]
      refine t_at (lim := 60) HX hx ht (by omega) (by omega) ⟨_, rfl, ⟨fun hd1 => ?_, fun hd1 => ?_⟩⟩
      · rw [if_neg hd1] at hq
        simp only [HTop0.g0, HTop0.g1, HTop0.g2, HTop0.g3, HTop0.g4, HTop0.g5, HTop0.g6, HTop0.g7, HTop0.g8, HTop0.g9, HTop0.g10, HTop0.g11, HTop0.g12, HTop0.g13, HTop0.g15, HTop0.g16, HTop0.i, HL0.g0, HL0.g1, HL0.g2, HL0.g3, HL0.g4, HL0.i, HL0.r0, HL0.r1, HW0.g0, HW0.g1, HW0.g2, HW0.g3, HW0.g4, HW0.g5, HW0.g6, HW0.g7, HW0.g8, HW0.i, HW0.r0, HW0.r1, HW0.r2, HW0.r3, HW0.r4, HT0.g0, HT0.g1, HT0.g2, HT0.g3, HT0.g4, HT0.g5, HT0.g6, HT0.g7, HT0.g8, HT0.i, HT0.r0, HT0.r1, HT0.r2, HT0.r3, HT0.r4, HR0.i, HRow0.i, HX.i, true_and]
        refine t_at (lim := 60) HX hx ht (by omega) (by omega) ⟨_, rfl, ?_⟩
        have next : ¬ (actN (sgn tx tl 60 p) = 3 ∧ (if sgn tx tl 60 p = 103 then eX9_isKingSign (sgn tx tl 60 (p + 2)) = 0 else eX9_isDigit (sgn tx tl 60 (p + 2)) = 0)) → pz_V mX9_yearFault Ex Q d bc bs 4 [(0, .ref x), (1, .int (nI p + nI (actN (sgn tx tl 60 p)))), (2, .int (nI (i + 1)))] [] h := by
          intro hno
          rw [if_neg hno] at hq
          rw [nI_add]
          exact ih (i + 1) _ (by omega) (by omega) hq
        have e3 : nI (actN (sgn tx tl 60 p)) = (3 : Int32) ↔ actN (sgn tx tl 60 p) = 3 := nI_inj' (b := 3) (by omega) (by decide)
        refine ⟨fun hn3 => next (fun q => hn3 (e3.mpr q.1)), fun h3 => ⟨fun hg => ⟨fun hdd => next (fun q => ?_), fun hdd => ?_⟩, fun hg => ⟨fun hdd => ?_, fun hdd => next (fun q => ?_)⟩⟩⟩
        · rw [if_neg hg] at q; exact hdd q.2
        · rw [if_pos ⟨e3.mp h3, by rw [if_neg hg]; exact hdd⟩] at hq
          exact hq
        · rw [if_pos ⟨e3.mp h3, by rw [if_pos hg]; exact hdd⟩] at hq
          exact hq
        · rw [if_pos hg] at q; exact hdd q.2
      · rw [if_pos hd1] at hq
        exact hq
    · have h1 : ¬ tl ≤ p := fun q => hc (nI_le q (by omega))
      have h0 : actN (sgn tx tl 60 p) = 0 := (nI_inj' (b := 0) (by omega) (by decide)).mp he
      rw [if_neg h1, if_pos h0] at hq
      exact hq
theorem t_doTold {sg : Nat → Int32} {tx : Nat → Nat} {tl p : Nat} (C : CQ h x rF n br dn W T rv rw) (HX : Txt h (x + 1) sg tl) (hx : TxR sg tx) (ht : tl ≤ 80) (hp : p < 900) (hd : 6 ≤ d) (hq : ∀ h', CQ h' x rF n br dn (yrA rv br dn n tx tl p W).2 T rv rw → Fr (AL x rF) h h' → Q (some (.int (yrA rv br dn n tx tl p W).1)) h') : pz_V mX9_doTold Ex Q d bc bs 0 [(0, .ref x), (1, .int (nI p))] [] h := by
  obtain ⟨hr0, hn0, hWo0, hTo0, ⟨rO0, td0, ks0, dw0, HTop0⟩, ⟨ru0, nx0, HL0⟩, HW0, HT0, ⟨pa0, sk0, th0, len0, src0, at0, HR0, hv0⟩, ⟨nu0, HRow0, hrow0⟩⟩ := id C
  unfold yrA at hq
  have e2 : nI p + (2 : Int32) = nI (p + 2) := nI_add p 2
  refine wX9_doTold_0 hd ?_
  simp only [HTop0.g0, HTop0.g1, HTop0.g2, HTop0.g3, HTop0.g4, HTop0.g5, HTop0.g6, HTop0.g7, HTop0.g8, HTop0.g9, HTop0.g10, HTop0.g11, HTop0.g12, HTop0.g13, HTop0.g15, HTop0.g16, HTop0.i, HL0.g0, HL0.g1, HL0.g2, HL0.g3, HL0.g4, HL0.i, HL0.r0, HL0.r1, HW0.g0, HW0.g1, HW0.g2, HW0.g3, HW0.g4, HW0.g5, HW0.g6, HW0.g7, HW0.g8, HW0.i, HW0.r0, HW0.r1, HW0.r2, HW0.r3, HW0.r4, HT0.g0, HT0.g1, HT0.g2, HT0.g3, HT0.g4, HT0.g5, HT0.g6, HT0.g7, HT0.g8, HT0.i, HT0.r0, HT0.r1, HT0.r2, HT0.r3, HT0.r4, HR0.i, HRow0.i, HX.i, e2, nI_1, true_and]
  refine t_at (lim := 60) HX hx ht (by omega) (by omega) ⟨_, rfl, ?_⟩
  simp only [HTop0.g0, HTop0.g1, HTop0.g2, HTop0.g3, HTop0.g4, HTop0.g5, HTop0.g6, HTop0.g7, HTop0.g8, HTop0.g9, HTop0.g10, HTop0.g11, HTop0.g12, HTop0.g13, HTop0.g15, HTop0.g16, HTop0.i, HL0.g0, HL0.g1, HL0.g2, HL0.g3, HL0.g4, HL0.i, HL0.r0, HL0.r1, HW0.g0, HW0.g1, HW0.g2, HW0.g3, HW0.g4, HW0.g5, HW0.g6, HW0.g7, HW0.g8, HW0.i, HW0.r0, HW0.r1, HW0.r2, HW0.r3, HW0.r4, HT0.g0, HT0.g1, HT0.g2, HT0.g3, HT0.g4, HT0.g5, HT0.g6, HT0.g7, HT0.g8, HT0.i, HT0.r0, HT0.r1, HT0.r2, HT0.r3, HT0.r4, HR0.i, HRow0.i, HX.i, true_and]
  refine t_at (lim := 60) HX hx ht (by omega) (by omega) ⟨_, rfl, ?_⟩
  refine ⟨HTop0.i.mpr trivial, wX9_digitAt_0 (by omega) ?_⟩
  simp only [HTop0.g0, HTop0.g1, HTop0.g2, HTop0.g3, HTop0.g4, HTop0.g5, HTop0.g6, HTop0.g7, HTop0.g8, HTop0.g9, HTop0.g10, HTop0.g11, HTop0.g12, HTop0.g13, HTop0.g15, HTop0.g16, HTop0.i, HL0.g0, HL0.g1, HL0.g2, HL0.g3, HL0.g4, HL0.i, HL0.r0, HL0.r1, HW0.g0, HW0.g1, HW0.g2, HW0.g3, HW0.g4, HW0.g5, HW0.g6, HW0.g7, HW0.g8, HW0.i, HW0.r0, HW0.r1, HW0.r2, HW0.r3, HW0.r4, HT0.g0, HT0.g1, HT0.g2, HT0.g3, HT0.g4, HT0.g5, HT0.g6, HT0.g7, HT0.g8, HT0.i, HT0.r0, HT0.r1, HT0.r2, HT0.r3, HT0.r4, HR0.i, HRow0.i, HX.i, true_and]
  refine t_at (lim := 80) HX hx ht (by omega) (by omega) ⟨_, rfl, ⟨_, rfl, ⟨fun hne => ⟨HTop0.i.mpr trivial, t_doAct C (by omega) (fun h1 C1 hF1 => ⟨_, rfl, ?_⟩)⟩, fun he => ⟨HTop0.i.mpr trivial, t_doAct C (by omega) (fun h1 C1 hF1 => ⟨_, rfl, ?_⟩)⟩⟩⟩⟩
  · rw [if_neg hne] at hq; exact hq h1 C1 hF1
  · rw [if_pos he] at hq; exact hq h1 C1 hF1
theorem q_clrT (C : CQ h x rF S.n S.br S.dn S.W T S.rv S.rw) (H : CRest h x rF rO td dw S) {K : pz_H → Prop} (hq : ∀ h', CQ h' x rF S.n S.br S.dn S.W T S.rv S.rw → CRest h' x rF rO td dw (S.sTl 0) → FC x h h' → Fr [x + 1] h h' → K h') : pz_gR h x 9 0 (fun (a1 : Nat) => pz_is h a1 6 ∧ (pz_pF h a1 6 1 (.int 0) K)) := by
  obtain ⟨hr0, hn0, hWo0, hTo0, ⟨rO0, td0, ks0, dw0, HTop0⟩, ⟨ru0, nx0, HL0⟩, HW0, HT0, ⟨pa0, sk0, th0, len0, src0, at0, HR0, hv0⟩, ⟨nu0, HRow0, hrow0⟩⟩ := id C
  obtain ⟨hh1, hh2, ⟨zhsg, hh3, hh3'⟩, ⟨zhB, hh4, hh4'⟩, hh5, hh6, ⟨zhch, zhne, zhof, hh7⟩, ⟨zhg, hh8, hh8'⟩, hh9, hh10, ⟨zhb1, hh11⟩, ⟨zhb2, hh12⟩, ⟨zhpa, zhsk, zhth, zhlen, zhsrc, zhat, hh13⟩, hh14⟩ := id H
  refine hh2.g0.mpr ⟨hh3.i.mpr trivial, hh3.p1.mpr ?_⟩
  have hF1 : Fr [x + 1] h (pz_put h (x + 1) (aO 6 [.ref (x + 1 + 1), .int (nI 0)])) := fr_1 (by simp)
  exact hq _ (C.frX hF1 (by intro b hb; simp at hb; omega)) ⟨hh1, hh2.fr hF1 (by simp <;> omega), ⟨zhsg, hh3.u1 0, hh3'⟩, ⟨zhB, hh4.fr hF1 (by intro b hb; simp at hb; omega), hh4'⟩, hh5.fr hF1 (by intro b hb; simp at hb; omega), hh6.fr hF1 (by intro b hb; simp at hb; omega), ⟨zhch, zhne, zhof, hh7.fr hF1 (by intro b hb; simp at hb; omega)⟩, ⟨zhg, (hF1.2 _ (by simp <;> omega)).trans hh8, hh8'⟩, ⟨hh9.1.fr hF1 (by intro b hb; simp at hb; omega), hh9.2⟩, ⟨hh10.1.fr hF1 (by intro b hb; simp at hb; omega), hh10.2⟩, ⟨zhb1, (hF1.2 _ (by simp <;> omega)).trans hh11⟩, ⟨zhb2, (hF1.2 _ (by simp <;> omega)).trans hh12⟩, ⟨zhpa, zhsk, zhth, zhlen, zhsrc, zhat, hh13.fr hF1 (by intro b hb; simp at hb; omega)⟩, tdFr hh14 hF1 (by intro b hb; simp at hb; omega)⟩ (FC.of hF1 (by intro b hb; simp at hb; omega)) hF1
theorem C_year (I : CInv h x S) (O : SOk S) (hd : 7 ≤ d) (hq : ∀ h', CInv h' x (o_year S).2 → FC x h h' → Q (some (.int (o_year S).1)) h') : pz_V mX9_year Ex Q d bc bs 0 [(0, .ref x)] [] h := by
  obtain ⟨rF, rO, td, dw, T, C, H⟩ := I
  obtain ⟨hh1, hh2, ⟨zhsg, hh3, hh3'⟩, ⟨zhB, hh4, hh4'⟩, hh5, hh6, ⟨zhch, zhne, zhof, hh7⟩, ⟨zhg, hh8, hh8'⟩, hh9, hh10, ⟨zhb1, hh11⟩, ⟨zhb2, hh12⟩, ⟨zhpa, zhsk, zhth, zhlen, zhsrc, zhat, hh13⟩, hh14⟩ := id H
  have hr := C.1
  unfold o_year at hq
  refine wX9_year_0 hd ⟨hh2.i.mpr trivial, t_yearFault C hh3 hh3' O.2.1 (by omega) ⟨_, rfl, ?_⟩⟩
  cases hf : yrF S.tx S.tl 61 0 with
  | some p =>
    rw [hf] at hq
    have hp : p < 2 ^ 31 := by
      have : ∀ f p0 q, p0 ≤ 3 * (61 - f) → f ≤ 61 → yrF S.tx S.tl f p0 = some q → q ≤ 200 := by
        intro f
        induction f with
        | zero => intro p0 q _ _ e; cases e
        | succ f ih =>
          intro p0 q h1 h2 e
          unfold yrF at e
          have := actN_le (sgn S.tx S.tl 60 p0)
          by_cases c1 : S.tl ≤ p0
          · rw [if_pos c1] at e; cases e
          · rw [if_neg c1] at e
            by_cases c2 : actN (sgn S.tx S.tl 60 p0) = 0
            · rw [if_pos c2] at e; cases e; omega
            · rw [if_neg c2] at e
              by_cases c3 : eX9_isDigit (sgn S.tx S.tl 60 (p0 + 1)) = 0
              · rw [if_pos c3] at e; cases e; omega
              · rw [if_neg c3] at e
                by_cases c4 : actN (sgn S.tx S.tl 60 p0) = 3 ∧ (if sgn S.tx S.tl 60 p0 = 103 then eX9_isKingSign (sgn S.tx S.tl 60 (p0 + 2)) = 0 else eX9_isDigit (sgn S.tx S.tl 60 (p0 + 2)) = 0)
                · rw [if_pos c4] at e; cases e; omega
                · rw [if_neg c4] at e
                  exact ih _ q (by omega) (by omega) e
      have := this 61 0 p (by omega) (by omega) hf
      omega
    refine ⟨fun hc => absurd hc (nI_pos hp), fun _ => q_clrT C H (fun h1 C1 H1 f1 _ => hq h1 ⟨rF, rO, td, dw, T, C1, H1⟩ f1)⟩
  | none =>
    rw [hf] at hq
    refine ⟨fun _ => hh2.g4.mpr (hh2.g3.mpr ⟨hh4.i.mpr trivial, q_before C H (Nat.le_refl _) (fun h1 C1 H1 HB1 f1 => ⟨rfl, ?_⟩)⟩), fun hc => absurd (by decide) hc⟩
    have hWok := C.2.2.1
    -- the end
    have fin : ∀ (h2 : pz_H) (W2 : pW) (dn_ : Nat) (st : Bool), dn_ ≤ 60 → (∀ h', CInv h' x (yrE S (dn_, st, W2)).2 → FC x h h' → Q (some (.int (yrE S (dn_, st, W2)).1)) h') → CQ h2 x rF S.n S.br S.dn W2 T S.rv S.rw → CRest h2 x rF rO td dw S → WatT h2 (x + 16) S.W → FC x h h2 → pz_V mX9_year Ex Q d bc bs 116 [(0, .ref x), (2, .int (nI dn_)), (3, .int (if st = true then 1 else 0))] [] h2 := by
      intro h2 W2 dn_ st hdn hq2 C2 H2 HB2 f2
      refine wX9_year_116 hd (q_clrT (S := S.sW W2) C2 H2.sW (fun h3 C3 H3 f3 hF3 => ?_))
      have HB3 := HB2.fr hF3 (by intro b hb; simp at hb; omega)
      have tail : ∀ (h4 : pz_H) (U4 : List pW), U4 = (if dn_ = 0 then S.U else pushU S.U S.W) → CQ h4 x rF S.n S.br S.dn W2 T S.rv S.rw → CRest h4 x rF rO td dw (((S.sW W2).sTl 0).sU U4) → FC x h h4 → pz_gR h4 x 9 1 (fun (a3 : Nat) => ((if st = true then (1 : Int32) else 0) = 0 → pz_gR h4 x 9 2 (fun (a4 : Nat) => pz_gR h4 x 9 3 (fun (a5 : Nat) => pz_is h4 a4 1 ∧ (pz_ki mX1_total 2 0 0 (.ref a4 :: [.ref a5]) h4 (fun (x7 : Int32) (h6 : pz_H) => pz_is h6 a3 4 ∧ (pz_kv mX4_tell_ 2 0 0 (.ref a3 :: [.long 0, .long x7.toInt64]) h6 (fun (h8 : pz_H) => Q (some (.int (nI dn_))) h8))))))) ∧ (¬ (if st = true then (1 : Int32) else 0) = 0 → pz_gR h4 x 9 2 (fun (a9 : Nat) => pz_gR h4 x 9 3 (fun (a10 : Nat) => pz_is h4 a9 1 ∧ (pz_ki mX1_total 2 0 0 (.ref a9 :: [.ref a10]) h4 (fun (x12 : Int32) (h11 : pz_H) => pz_is h11 a3 4 ∧ (pz_kv mX4_tell_ 2 0 0 (.ref a3 :: [.long 1, .long x12.toInt64]) h11 (fun (h13 : pz_H) => Q (some (.int (nI dn_))) h13)))))))) := by
        intro h4 U4 hU4 C4 H4 f4
        obtain ⟨hr4, hn4, hWo4, hTo4, ⟨rO4, td4, ks4, dw4, HTop4⟩, ⟨ru4, nx4, HL4⟩, HW4, HT4, ⟨pa4, sk4, th4, len4, src4, at4, HR4, hv4⟩, ⟨nu4, HRow4, hrow4⟩⟩ := id C4
        have done : ∀ (h5 : pz_H), CQ h5 x rF S.n S.br S.dn W2 T S.rv [if st = true then 1 else 0, (sumI W2.lv S.n).toInt64] → Fr (SC x rF) h4 h5 → Q (some (.int (nI dn_))) h5 := by
          intro h5 C5 hF5
          refine hq2 h5 ⟨rF, rO, td, dw, T, ?_, ?_⟩ (f4.tr (FC.of hF5 (fun b hb => by have := sc_in hb; omega)))
          · unfold yrE
            by_cases e : dn_ = 0
            · simp only [e, if_true]; exact C5
            · simp only [e, if_false]; exact C5
          · have H5 := (H4.fr hF5 (fun b hb => sc_in hb)).sRw (v := [if st = true then 1 else 0, (sumI W2.lv S.n).toInt64])
            unfold yrE
            by_cases e : dn_ = 0
            · rw [if_pos e] at hU4
              subst hU4
              simp only [e, if_true]
              exact H5
            · rw [if_neg e] at hU4
              subst hU4
              simp only [e, if_false]
              exact H5
        simp only [HTop4.g0, HTop4.g1, HTop4.g2, HTop4.g3, HTop4.g4, HTop4.g5, HTop4.g6, HTop4.g7, HTop4.g8, HTop4.g9, HTop4.g10, HTop4.g11, HTop4.g12, HTop4.g13, HTop4.g15, HTop4.g16, HTop4.i, HL4.g0, HL4.g1, HL4.g2, HL4.g3, HL4.g4, HL4.i, HL4.r0, HL4.r1, HW4.g0, HW4.g1, HW4.g2, HW4.g3, HW4.g4, HW4.g5, HW4.g6, HW4.g7, HW4.g8, HW4.i, HW4.r0, HW4.r1, HW4.r2, HW4.r3, HW4.r4, HT4.g0, HT4.g1, HT4.g2, HT4.g3, HT4.g4, HT4.g5, HT4.g6, HT4.g7, HT4.g8, HT4.i, HT4.r0, HT4.r1, HT4.r2, HT4.r3, HT4.r4, HR4.i, HRow4.i, true_and]
        cases st with
        | false => exact ⟨fun _ => q_totalN C4 (by omega) ⟨_, rfl, HRow4.i.mpr trivial, q_tell2 C4 (by omega) (fun h5 C5 hF5 => ⟨rfl, done h5 C5 hF5⟩)⟩, fun hc => absurd rfl hc⟩
        | true => exact ⟨fun hc => absurd hc (by decide), fun _ => q_totalN C4 (by omega) ⟨_, rfl, HRow4.i.mpr trivial, q_tell2 C4 (by omega) (fun h5 C5 hF5 => ⟨rfl, done h5 C5 hF5⟩)⟩⟩
      refine ⟨fun hle => ?_, fun hgt => ?_⟩
      · have e : dn_ = 0 := by
          rcases Nat.eq_zero_or_pos dn_ with q | q
          · exact q
          · exact absurd hle (nI_nle q (by omega))
        exact tail h3 S.U (by rw [if_pos e]) C3 H3 (f2.tr f3)
      · have e : ¬ dn_ = 0 := fun q => hgt (by rw [q]; decide)
        have HT3 := H3.2.1
        exact HT3.g6.mpr (HT3.g4.mpr ⟨H3.2.2.2.2.1.st.i.mpr trivial, q_push (S := (S.sW W2).sTl 0) C3 H3 HB3 hWok O.2.2.2.2.2.1 (Nat.le_refl _) (fun h4 C4 H4 HB4 f4 => ⟨rfl, tail h4 _ (by rw [if_neg e]) C4 H4 ((f2.tr f3).tr f4)⟩)⟩)
    suffices L : ∀ f i p (h2 : pz_H) (W2 : pW) (dn_ : Nat), i + f = 60 → p ≤ 3 * i → dn_ ≤ i → CQ h2 x rF S.n S.br S.dn W2 T S.rv S.rw → CRest h2 x rF rO td dw S → WatT h2 (x + 16) S.W → FC x h h2 → (∀ h', CInv h' x (yrE S (yrX S.rv S.br S.dn S.n S.tx S.tl f p W2 dn_)).2 → FC x h h' → Q (some (.int (yrE S (yrX S.rv S.br S.dn S.n S.tx S.tl f p W2 dn_)).1)) h') → pz_V mX9_year Ex Q d bc bs 41 [(0, .ref x), (2, .int (nI dn_)), (3, .int 0), (4, .int (nI p)), (5, .int (nI i))] [] h2 from L 60 0 0 h1 S.W 0 rfl (Nat.le_refl _) (Nat.le_refl _) C1 H1 HB1 f1 hq
    clear hq
    intro f
    induction f with
    | zero =>
      intro i p h2 W2 dn_ hi hp hdn C2 H2 HB2 f2 hq
      have e : i = 60 := hi
      subst e
      exact wX9_year_41 hd ⟨fun _ => fin h2 W2 dn_ false (by omega) hq C2 H2 HB2 f2, fun hc => absurd (nI_le (a := 60) (b := 60) (by decide) (by decide)) hc⟩
    | succ f ih =>
      intro i p h2 W2 dn_ hi hp hdn C2 H2 HB2 f2 hq
      unfold yrX at hq
      have hle := actN_le (sgn S.tx S.tl 60 p)
      have ht := O.2.1
      obtain ⟨sg2, HX2, hx2⟩ := H2.2.2.1
      have HT2 := H2.2.1
      refine wX9_year_41 hd ⟨fun hc => absurd hc (nI_ge (b := 60) (by omega) (by decide)), fun _ => HT2.g0.mpr ⟨HX2.i.mpr trivial, HX2.g1.mpr ⟨fun hc => ?_, fun hc => ⟨fun hc2 => absurd rfl hc2, fun _ => ⟨HT2.i.mpr trivial, t_doTold C2 HX2 hx2 ht (by omega) (by omega) (fun h3 C3 hF3 => ⟨_, rfl, ?_⟩)⟩⟩⟩⟩⟩
      · have h1 : S.tl ≤ p := by
          rcases Nat.lt_or_ge p S.tl with q | q
          · exact absurd hc (nI_ge q (by omega))
          · exact q
        rw [if_pos h1] at hq
        exact fin h2 W2 dn_ false (by omega) hq C2 H2 HB2 f2
      · have h1 : ¬ S.tl ≤ p := fun q => hc (nI_le q (by omega))
        rw [if_neg h1] at hq
        have H3 := H2.fr hF3 (fun b hb => al_in hb)
        have HB3 := HB2.fr hF3 (by intro b hb; simp at hb; omega)
        have f3 := f2.tr (FC.of hF3 (fun b hb => by have := al_in hb; omega))
        obtain ⟨sg3, HX3, hx3⟩ := H3.2.2.1
        have HT3 := H3.2.1
        refine ⟨fun h0 => ?_, fun h0 => ?_⟩
        · rw [if_neg (Int32.not_lt.mpr h0)] at hq
          refine wX9_year_78 hd ⟨fun _ => HT3.g0.mpr ⟨HX3.i.mpr trivial, t_at (lim := 60) HX3 hx3 ht (by omega) (by omega) ⟨_, rfl, t_actSigns ⟨_, rfl, ?_⟩⟩⟩, fun hc => absurd rfl hc⟩
          dsimp only
          rw [nI_1, nI_1, nI_add]
          exact ih (i + 1) _ h3 _ (dn_ + 1) (by omega) (by omega) (by omega) C3 H3 HB3 f3 hq
        · rw [if_pos (Int32.not_le.mp h0)] at hq
          refine wX9_year_78 hd ⟨fun hc => absurd hc (by decide), fun _ => HT3.g0.mpr ⟨HX3.i.mpr trivial, t_at (lim := 60) HX3 hx3 ht (by omega) (by omega) ⟨_, rfl, t_actSigns ⟨_, rfl, ?_⟩⟩⟩⟩
          dsimp only
          rw [Int32.add_zero, nI_1, nI_add]
          have ff := fin h3 _ dn_ true (by omega) hq C3 H3 HB3 f3
          refine wX9_year_41 hd ⟨fun _ => ff, fun _ => HT3.g0.mpr ⟨HX3.i.mpr trivial, HX3.g1.mpr ⟨fun _ => ff, fun _ => ⟨fun _ => ff, fun hc => absurd hc (by decide)⟩⟩⟩⟩
end CY
