/-! ===== the text; heirs: spec, and the class ===== -/
def TxR (sg : Nat → Int32) (tx : Nat → Nat) : Prop := ∀ j, j < 80 → sg j = nI (tx j) ∧ tx j < 256
/-- the sign at a place; -1 behind the end -/
def sgn (tx : Nat → Nat) (tl lim p : Nat) : Int32 := if p < tl ∧ p < lim then nI (tx p) else -1
theorem kingSign_0 {v : Int32} : ¬ eX9_isKingSign v = 0 ↔ ∃ j, j < 4 ∧ v = nI (97 + j) := by
  unfold eX9_isKingSign
  constructor
  · intro hq
    split at hq
    · exact absurd rfl hq
    · rename_i h0
      split at hq
      · exact absurd rfl hq
      · rename_i h1
        have h0 := Int32.not_lt.mp h0
        have h1 := Int32.not_le.mp h1
        rw [le_i] at h0
        rw [lt_i] at h1
        have e1 : (97 : Int32).toInt = 97 := by decide
        have e2 : (101 : Int32).toInt = 101 := by decide
        refine ⟨(v.toInt - 97).toNat, by omega, ?_⟩
        rw [eq_i]
        have := Bt.lit (n := 97 + (v.toInt - 97).toNat) (by omega)
        have h3 := this.1
        have h4 := this.2
        omega
  · rintro ⟨j, hj, rfl⟩
    rcases (by omega : j = 0 ∨ j = 1 ∨ j = 2 ∨ j = 3) with rfl | rfl | rfl | rfl <;> decide
section SP
variable (tx : Nat → Nat) (n : Nat) (W : pW)
def hrCan (i : Nat) (hh s : Nat) : Bool := !s.testBit i && decide (¬ W.kg i = nI (tx hh) - 97)
/-- best of the heirs from hh on; f of them -/
def hrI (g : Nat → Int32) (hh s : Nat) : Nat → Int32
  | 0 => g s
  | i + 1 => if hrCan tx W i hh s = true then (if hrI g hh s i < W.lv i + g (s ||| 2 ^ i) then W.lv i + g (s ||| 2 ^ i) else hrI g hh s i) else hrI g hh s i
def hrB (m : Nat) : Nat → Nat → Int32
  | 0, _ => 0
  | r + 1, s => hrI tx W (hrB m r) (m - (r + 1)) s n
def hrT (m hh s : Nat) : Option Nat := if hrB tx n W m (m - (hh + 1)) s = hrB tx n W m (m - hh) s then none else firstDay (fun i => hrCan tx W i hh s = true ∧ W.lv i + hrB tx n W m (m - (hh + 1)) (s ||| 2 ^ i) = hrB tx n W m (m - hh) s) n 0
def hrStep (m hh : Nat) (s : Nat × List Int64) : Nat × List Int64 := match hrT tx n W m hh s.1 with
  | none => (s.1, s.2 ++ [(-1 : Int32).toInt64])
  | some i => (s.1 ||| 2 ^ i, s.2 ++ [(nI i).toInt64])
def hrS (m : Nat) : Nat → Nat × List Int64
  | 0 => (0, [])
  | hh + 1 => hrStep tx n W m hh (hrS m hh)
def hrFault (tl : Nat) : Option Nat := if tl = 0 then some 0 else firstDay (fun p => eX9_isKingSign (sgn tx tl 6 p) = 0) tl 0
def s_heirs (tl : Nat) (rw : List Int64) : pA := match hrFault tx tl with
  | some p => (-1 - nI p, rw)
  | none => (hrB tx n W tl tl 0, (hrS tx n W tl tl).2)
end SP
theorem firstDay_none {p : Nat → Prop} [DecidablePred p] : ∀ {f k : Nat}, firstDay p f k = none → ∀ j, k ≤ j → j < k + f → ¬ p j
  | 0, k, _, j, h1, h2 => by omega
  | f + 1, k, h, j, h1, h2 => by
    unfold firstDay at h
    by_cases hp : p k
    · rw [if_pos hp] at h; cases h
    · rw [if_neg hp] at h
      rcases Nat.lt_or_ge k j with q | q
      · exact firstDay_none h j q (by omega)
      · have : j = k := by omega
        subst this
        exact hp
theorem firstDay_some {p : Nat → Prop} [DecidablePred p] : ∀ {f k i : Nat}, firstDay p f k = some i → k ≤ i ∧ i < k + f ∧ p i ∧ ∀ j, k ≤ j → j < i → ¬ p j
  | 0, k, i, h => by unfold firstDay at h; cases h
  | f + 1, k, i, h => by
    unfold firstDay at h
    by_cases hp : p k
    · rw [if_pos hp] at h
      cases h
      exact ⟨Nat.le_refl _, by omega, hp, fun j h1 h2 => by omega⟩
    · rw [if_neg hp] at h
      obtain ⟨g1, g2, g3, g4⟩ := firstDay_some h
      refine ⟨by omega, by omega, g3, fun j h1 h2 => ?_⟩
      rcases Nat.lt_or_ge k j with q | q
      · exact g4 j q h2
      · have : j = k := by omega
        subst this
        exact hp
theorem orn {n : Nat} {s i : Nat} (hs : s < 2 ^ n) (hi : i < n) : s ||| 2 ^ i < 2 ^ n := Nat.or_lt_two_pow hs (Nat.pow_lt_pow_right (by decide) hi)
theorem hrS_lt {tx : Nat → Nat} {n : Nat} {W : pW} {m : Nat} : ∀ hh, (hrS tx n W m hh).1 < 2 ^ n ∧ (hrS tx n W m hh).2.length = hh
  | 0 => ⟨Nat.two_pow_pos n, rfl⟩
  | hh + 1 => by
    obtain ⟨g1, g2⟩ := hrS_lt (tx := tx) (n := n) (W := W) (m := m) hh
    show (hrStep tx n W m hh (hrS tx n W m hh)).1 < 2 ^ n ∧ (hrStep tx n W m hh (hrS tx n W m hh)).2.length = hh + 1
    unfold hrStep
    split
    · exact ⟨g1, by rw [List.length_append, g2]; rfl⟩
    · rename_i i e
      refine ⟨orn g1 ?_, by rw [List.length_append, g2]; rfl⟩
      unfold hrT at e
      split at e
      · cases e
      · have := (firstDay_some e).2.1
        omega
section CH
variable {Ex : State → Nat → Prop} {Q : Option Value → pz_H → Prop} {d bc bs : Nat} {h : pz_H} {x rF n : Nat} {br dn : Nat → Int32} {W T : pW} {rv : pRV} {rw : List Int64} {tx : Nat → Nat} {sg : Nat → Int32} {tl : Nat} {bt : Nat → Int32}
theorem t_at {a p lim : Nat} (H : Txt h a sg tl) (hx : TxR sg tx) (ht : tl ≤ 80) (hp : p < 1000) (hl : lim < 1000) (hq : Q (some (.int (sgn tx tl lim p))) h) : pz_V mX6_at Ex Q d bc bs 0 [(0, .ref a), (1, .int (nI p)), (2, .int (nI lim))] [] h := by
  unfold sgn at hq
  refine wX6_at_0 ⟨fun hc => absurd hc (nI_pos (by omega)), fun _ => H.g1.mpr ⟨fun hc => ?_, fun hc => ⟨fun hc2 => ?_, fun hc2 => ⟨fun hc3 => ?_, fun hc3 => ?_⟩⟩⟩⟩
  · rw [if_neg (fun q => absurd hc (nI_ge q.1 (by omega)))] at hq; exact hq
  · rw [if_neg (fun q => absurd hc2 (nI_ge q.2 (by omega)))] at hq; exact hq
  · have h1 : p < tl := by
      rcases Nat.lt_or_ge p tl with q | q
      · exact q
      · exact absurd (nI_le q (by omega)) hc
    have h2 : p < lim := by
      rcases Nat.lt_or_ge p lim with q | q
      · exact q
      · exact absurd (nI_le q (by omega)) hc2
    rw [if_pos ⟨h1, h2⟩] at hq
    refine H.g0.mpr (H.r0.mpr ⟨vin (by omega) (by decide), ?_⟩)
    rw [clamp (by omega), (hx p (by omega)).1]
    exact hq
  · have h1 : p < tl := by
      rcases Nat.lt_or_ge p tl with q | q
      · exact q
      · exact absurd (nI_le q (by omega)) hc
    exact absurd (nI_lt (b := 80) (by omega) (by decide)) hc3
theorem t_bestOf {a s : Nat} (C : CQ h x rF n br dn W T rv rw) (HB : h.2 (x + 111) = some (aI 448 bt)) (ha : a < 7) (hs : s < 64) (hq : Q (some (.int (bt (64 * a + s)))) h) : pz_V mX9_bestOf Ex Q d bc bs 0 [(0, .ref x), (1, .int (nI a)), (2, .int (nI s))] [] h := by
  obtain ⟨hr0, hn0, hWo0, hTo0, ⟨rO0, td0, ks0, dw0, HTop0⟩, ⟨ru0, nx0, HL0⟩, HW0, HT0, ⟨pa0, sk0, th0, len0, src0, at0, HR0, hv0⟩, ⟨nu0, HRow0, hrow0⟩⟩ := id C
  have e : nI a * (64 : Int32) + nI s = nI (64 * a + s) := by
    rw [show (64 : Int32) = nI 64 from rfl, mul_nI, nI_add]
    congr 1
    omega
  refine wX9_bestOf_0 ?_
  rw [e]
  simp only [HTop0.g0, HTop0.g1, HTop0.g2, HTop0.g3, HTop0.g4, HTop0.g5, HTop0.g6, HTop0.g7, HTop0.g8, HTop0.g9, HTop0.g10, HTop0.g11, HTop0.g12, HTop0.g13, HTop0.g15, HTop0.g16, HTop0.i, HL0.g0, HL0.g1, HL0.g2, HL0.g3, HL0.g4, HL0.i, HL0.r0, HL0.r1, HW0.g0, HW0.g1, HW0.g2, HW0.g3, HW0.g4, HW0.g5, HW0.g6, HW0.g7, HW0.g8, HW0.i, HW0.r0, HW0.r1, HW0.r2, HW0.r3, HW0.r4, HT0.g0, HT0.g1, HT0.g2, HT0.g3, HT0.g4, HT0.g5, HT0.g6, HT0.g7, HT0.g8, HT0.i, HT0.r0, HT0.r1, HT0.r2, HT0.r3, HT0.r4, HR0.i, HRow0.i, lI_eq HB, rI_eq HB, vin (i := 64 * a + s) (N := 448) (by omega) (by decide), clamp (i := 64 * a + s) (by omega), true_and]
  exact ⟨fun hc => absurd hc (nI_pos (by omega)), fun _ => ⟨fun hc => absurd hc (nI_ge (by omega) (by decide)), fun _ => hq⟩⟩
theorem t_setBest {a s : Nat} {v : Int32} (C : CQ h x rF n br dn W T rv rw) (HB : h.2 (x + 111) = some (aI 448 bt)) (ha : a < 7) (hs : s < 64) (hq : ∀ h', CQ h' x rF n br dn W T rv rw → h'.2 (x + 111) = some (aI 448 (upd bt (64 * a + s) v)) → Fr [x + 111] h h' → Q none h') : pz_V mX9_setBest Ex Q d bc bs 0 [(0, .ref x), (1, .int (nI a)), (2, .int (nI s)), (3, .int v)] [] h := by
  obtain ⟨hr0, hn0, hWo0, hTo0, ⟨rO0, td0, ks0, dw0, HTop0⟩, ⟨ru0, nx0, HL0⟩, HW0, HT0, ⟨pa0, sk0, th0, len0, src0, at0, HR0, hv0⟩, ⟨nu0, HRow0, hrow0⟩⟩ := id C
  have e : nI a * (64 : Int32) + nI s = nI (64 * a + s) := by
    rw [show (64 : Int32) = nI 64 from rfl, mul_nI, nI_add]
    congr 1
    omega
  refine wX9_setBest_0 ?_
  rw [e]
  simp only [HTop0.g0, HTop0.g1, HTop0.g2, HTop0.g3, HTop0.g4, HTop0.g5, HTop0.g6, HTop0.g7, HTop0.g8, HTop0.g9, HTop0.g10, HTop0.g11, HTop0.g12, HTop0.g13, HTop0.g15, HTop0.g16, HTop0.i, HL0.g0, HL0.g1, HL0.g2, HL0.g3, HL0.g4, HL0.i, HL0.r0, HL0.r1, HW0.g0, HW0.g1, HW0.g2, HW0.g3, HW0.g4, HW0.g5, HW0.g6, HW0.g7, HW0.g8, HW0.i, HW0.r0, HW0.r1, HW0.r2, HW0.r3, HW0.r4, HT0.g0, HT0.g1, HT0.g2, HT0.g3, HT0.g4, HT0.g5, HT0.g6, HT0.g7, HT0.g8, HT0.i, HT0.r0, HT0.r1, HT0.r2, HT0.r3, HT0.r4, HR0.i, HRow0.i, lI_eq HB, sI_eq HB, vin (i := 64 * a + s) (N := 448) (by omega) (by decide), clamp (i := 64 * a + s) (by omega), true_and]
  refine ⟨fun hc => absurd hc (nI_pos (by omega)), fun _ => ⟨fun hc => absurd hc (nI_ge (by omega) (by decide)), fun _ => ?_⟩⟩
  have hF : Fr [x + 111] h (pz_put h (x + 111) (aI 448 (upd bt (64 * a + s) v))) := fr_1 (by simp)
  exact hq _ (C.fr hF (fun b hb => by simp at hb; omega)) (put_at _ _ _) hF
theorem t_canHave {hh i s : Nat} (C : CQ h x rF n br dn W T rv rw) (HX : Txt h (x + 1) sg tl) (hx : TxR sg tx) (ht : tl ≤ 6) (hh1 : hh < tl) (hi : i < n) (hs : s < 64) (hd : 1 ≤ d) (hq : ∀ r : Int32, (r = 0 ↔ hrCan tx W i hh s = false) → Q (some (.int r)) h) : pz_V mX9_canHave Ex Q d bc bs 0 [(0, .ref x), (1, .int (nI hh)), (2, .int (nI i)), (3, .int (nI s))] [] h := by
  obtain ⟨hr0, hn0, hWo0, hTo0, ⟨rO0, td0, ks0, dw0, HTop0⟩, ⟨ru0, nx0, HL0⟩, HW0, HT0, ⟨pa0, sk0, th0, len0, src0, at0, HR0, hv0⟩, ⟨nu0, HRow0, hrow0⟩⟩ := id C
  have v6 : vp_in (nI i) 6 := vin (by omega) (by decide)
  refine wX9_canHave_0 hd ⟨fun hb => hq 0 ⟨fun _ => ?_, fun _ => rfl⟩, fun hb => ?_⟩
  · unfold hrCan
    rw [(isIn_neg hs (by omega)).mp hb]
    rfl
  · simp only [HTop0.g0, HTop0.g1, HTop0.g2, HTop0.g3, HTop0.g4, HTop0.g5, HTop0.g6, HTop0.g7, HTop0.g8, HTop0.g9, HTop0.g10, HTop0.g11, HTop0.g12, HTop0.g13, HTop0.g15, HTop0.g16, HTop0.i, HL0.g0, HL0.g1, HL0.g2, HL0.g3, HL0.g4, HL0.i, HL0.r0, HL0.r1, HW0.g0, HW0.g1, HW0.g2, HW0.g3, HW0.g4, HW0.g5, HW0.g6, HW0.g7, HW0.g8, HW0.i, HW0.r0, HW0.r1, HW0.r2, HW0.r3, HW0.r4, HT0.g0, HT0.g1, HT0.g2, HT0.g3, HT0.g4, HT0.g5, HT0.g6, HT0.g7, HT0.g8, HT0.i, HT0.r0, HT0.r1, HT0.r2, HT0.r3, HT0.r4, HR0.i, HRow0.i, HX.i, v6, clamp (i := i) (by omega), true_and]
    refine t_at (lim := 6) HX hx (by omega) (by omega) (by omega) ⟨_, rfl, ?_⟩
    have e : sgn tx tl 6 hh = nI (tx hh) := by
      unfold sgn
      rw [if_pos ⟨hh1, by omega⟩]
    rw [e]
    have eb := (isIn_0 hs (by omega)).mp hb
    refine ⟨fun he => hq 0 ⟨fun _ => ?_, fun _ => rfl⟩, fun hne => hq 1 ⟨fun q => absurd q (by decide), fun q => ?_⟩⟩
    · simp [hrCan, eb, he]
    · simp [hrCan, eb, hne] at q
theorem t_heirsFault (C : CQ h x rF n br dn W T rv rw) (HX : Txt h (x + 1) sg tl) (hx : TxR sg tx) (ht : tl ≤ 80) (hd : 1 ≤ d) (hq : Q (some (.int (match hrFault tx tl with | some p => nI p | none => -1))) h) : pz_V mX9_heirsFault Ex Q d bc bs 0 [(0, .ref x)] [] h := by
  obtain ⟨hr0, hn0, hWo0, hTo0, ⟨rO0, td0, ks0, dw0, HTop0⟩, ⟨ru0, nx0, HL0⟩, HW0, HT0, ⟨pa0, sk0, th0, len0, src0, at0, HR0, hv0⟩, ⟨nu0, HRow0, hrow0⟩⟩ := id C
  unfold hrFault at hq
  refine wX9_heirsFault_0 hd ?_
  simp only [HTop0.g0, HTop0.g1, HTop0.g2, HTop0.g3, HTop0.g4, HTop0.g5, HTop0.g6, HTop0.g7, HTop0.g8, HTop0.g9, HTop0.g10, HTop0.g11, HTop0.g12, HTop0.g13, HTop0.g15, HTop0.g16, HTop0.i, HL0.g0, HL0.g1, HL0.g2, HL0.g3, HL0.g4, HL0.i, HL0.r0, HL0.r1, HW0.g0, HW0.g1, HW0.g2, HW0.g3, HW0.g4, HW0.g5, HW0.g6, HW0.g7, HW0.g8, HW0.i, HW0.r0, HW0.r1, HW0.r2, HW0.r3, HW0.r4, HT0.g0, HT0.g1, HT0.g2, HT0.g3, HT0.g4, HT0.g5, HT0.g6, HT0.g7, HT0.g8, HT0.i, HT0.r0, HT0.r1, HT0.r2, HT0.r3, HT0.r4, HR0.i, HRow0.i, HX.i, HX.g1, true_and]
  refine ⟨fun hne => ?_, fun he => ?_⟩
  · have h0 : ¬ tl = 0 := fun q => hne (by rw [q]; rfl)
    rw [if_neg h0] at hq
    refine firstN_run (N := tl) (p := fun p => eX9_isKingSign (sgn tx tl 6 p) = 0) (Z := fun o => Q (some (.int (match o with | some p => nI p | none => -1))) h)
      (V := fun p hh => hh = h → pz_V mX9_heirsFault Ex Q d bc bs 14 [(0, .ref x), (1, .int (nI p))] [] hh) (Ck := fun _ _ => True) ?_ ?_ ?_ tl 0 h (Nat.zero_add _) trivial hq rfl
    · intro hh _ hz e
      subst e
      refine wX9_heirsFault_14 hd ?_
      simp only [HTop0.g0, HTop0.g1, HTop0.g2, HTop0.g3, HTop0.g4, HTop0.g5, HTop0.g6, HTop0.g7, HTop0.g8, HTop0.g9, HTop0.g10, HTop0.g11, HTop0.g12, HTop0.g13, HTop0.g15, HTop0.g16, HTop0.i, HL0.g0, HL0.g1, HL0.g2, HL0.g3, HL0.g4, HL0.i, HL0.r0, HL0.r1, HW0.g0, HW0.g1, HW0.g2, HW0.g3, HW0.g4, HW0.g5, HW0.g6, HW0.g7, HW0.g8, HW0.i, HW0.r0, HW0.r1, HW0.r2, HW0.r3, HW0.r4, HT0.g0, HT0.g1, HT0.g2, HT0.g3, HT0.g4, HT0.g5, HT0.g6, HT0.g7, HT0.g8, HT0.i, HT0.r0, HT0.r1, HT0.r2, HT0.r3, HT0.r4, HR0.i, HRow0.i, HX.i, HX.g1, true_and]
      exact ⟨fun _ => hz, fun hc => absurd (nI_le (Nat.le_refl _) (by omega)) hc⟩
    · intro p hh hp _ hb hz e
      subst e
      refine wX9_heirsFault_14 hd ?_
      simp only [HTop0.g0, HTop0.g1, HTop0.g2, HTop0.g3, HTop0.g4, HTop0.g5, HTop0.g6, HTop0.g7, HTop0.g8, HTop0.g9, HTop0.g10, HTop0.g11, HTop0.g12, HTop0.g13, HTop0.g15, HTop0.g16, HTop0.i, HL0.g0, HL0.g1, HL0.g2, HL0.g3, HL0.g4, HL0.i, HL0.r0, HL0.r1, HW0.g0, HW0.g1, HW0.g2, HW0.g3, HW0.g4, HW0.g5, HW0.g6, HW0.g7, HW0.g8, HW0.i, HW0.r0, HW0.r1, HW0.r2, HW0.r3, HW0.r4, HT0.g0, HT0.g1, HT0.g2, HT0.g3, HT0.g4, HT0.g5, HT0.g6, HT0.g7, HT0.g8, HT0.i, HT0.r0, HT0.r1, HT0.r2, HT0.r3, HT0.r4, HR0.i, HRow0.i, HX.i, HX.g1, true_and]
      exact ⟨fun hc => absurd hc (nI_ge hp (by omega)), fun _ => t_at (lim := 6) HX hx ht (by omega) (by omega) ⟨_, rfl, ⟨fun hc => absurd hb hc, fun _ => hz⟩⟩⟩
    · intro p hh hp _ hb hz e
      subst e
      refine wX9_heirsFault_14 hd ?_
      simp only [HTop0.g0, HTop0.g1, HTop0.g2, HTop0.g3, HTop0.g4, HTop0.g5, HTop0.g6, HTop0.g7, HTop0.g8, HTop0.g9, HTop0.g10, HTop0.g11, HTop0.g12, HTop0.g13, HTop0.g15, HTop0.g16, HTop0.i, HL0.g0, HL0.g1, HL0.g2, HL0.g3, HL0.g4, HL0.i, HL0.r0, HL0.r1, HW0.g0, HW0.g1, HW0.g2, HW0.g3, HW0.g4, HW0.g5, HW0.g6, HW0.g7, HW0.g8, HW0.i, HW0.r0, HW0.r1, HW0.r2, HW0.r3, HW0.r4, HT0.g0, HT0.g1, HT0.g2, HT0.g3, HT0.g4, HT0.g5, HT0.g6, HT0.g7, HT0.g8, HT0.i, HT0.r0, HT0.r1, HT0.r2, HT0.r3, HT0.r4, HR0.i, HRow0.i, HX.i, HX.g1, nI_1, true_and]
      exact ⟨fun hc => absurd hc (nI_ge hp (by omega)), fun _ => t_at (lim := 6) HX hx ht (by omega) (by omega) ⟨_, rfl, ⟨fun _ => hz _ trivial rfl, fun hc => absurd hc hb⟩⟩⟩
  · have h0 : tl = 0 := by
      rcases Nat.eq_zero_or_pos tl with q | q
      · exact q
      · exact absurd he (nI_ne0 q (by omega))
    rw [if_pos h0] at hq
    exact hq
/-- the table: from the heir a on -/
def HrTab (tx : Nat → Nat) (n : Nat) (W : pW) (m a : Nat) (bt : Nat → Int32) : Prop := ∀ k, a ≤ k → k ≤ m → ∀ s, s < 2 ^ n → bt (64 * k + s) = hrB tx n W m (m - k) s
theorem t_weigh (C : CQ h x rF n br dn W T rv rw) (HX : Txt h (x + 1) sg tl) (hx : TxR sg tx) (ht : tl ≤ 6) (ht0 : 0 < tl) (HB : h.2 (x + 111) = some (aI 448 bt)) (hd : 2 ≤ d) (hq : ∀ h' bt', CQ h' x rF n br dn W T rv rw → h'.2 (x + 111) = some (aI 448 bt') → Fr [x + 111] h h' → HrTab tx n W tl 0 bt' → Q none h') : pz_V mX9_weighHeirs Ex Q d bc bs 0 [(0, .ref x), (1, .int (nI tl))] [] h := by
  have hn := C.2.1
  have h64 := pow_le64 hn
  have hp2 := Nat.two_pow_pos n
  have HXf : ∀ {h1 : pz_H}, Fr [x + 111] h h1 → Txt h1 (x + 1) sg tl := fun hF => HX.fr hF (by intro b hb; simp at hb; omega)
  refine wX9_weighHeirs_0 hd ?_
  -- an heir's row, set by set
  have rowL : ∀ a, a < tl → (∀ (h1 : pz_H) (bt1 : Nat → Int32), CQ h1 x rF n br dn W T rv rw → h1.2 (x + 111) = some (aI 448 bt1) → Fr [x + 111] h h1 → HrTab tx n W tl a bt1 → pz_V mX9_weighHeirs Ex Q d bc bs 25 [(0, .ref x), (2, .int (nI a + (-1 : Int32)))] [] h1) →
      ∀ q s (h1 : pz_H) (bt1 : Nat → Int32), s + q = 2 ^ n → CQ h1 x rF n br dn W T rv rw → h1.2 (x + 111) = some (aI 448 bt1) → Fr [x + 111] h h1 → HrTab tx n W tl (a + 1) bt1 → (∀ t, t < s → bt1 (64 * a + t) = hrB tx n W tl (tl - a) t) → pz_V mX9_weighHeirs Ex Q d bc bs 31 [(0, .ref x), (2, .int (nI a)), (3, .int (nI s))] [] h1 := by
    intro a ha hnext q
    induction q with
    | zero =>
      intro s h1 bt1 hs C1 HB1 hF1 hT hrow
      obtain ⟨hr1, hn1, hWo1, hTo1, ⟨rO1, td1, ks1, dw1, HTop1⟩, ⟨ru1, nx1, HL1⟩, HW1, HT1, ⟨pa1, sk1, th1, len1, src1, at1, HR1, hv1⟩, ⟨nu1, HRow1, hrow1⟩⟩ := id C1
      refine wX9_weighHeirs_31 hd ?_
      simp only [HTop1.g0, HTop1.g1, HTop1.g2, HTop1.g3, HTop1.g4, HTop1.g5, HTop1.g6, HTop1.g7, HTop1.g8, HTop1.g9, HTop1.g10, HTop1.g11, HTop1.g12, HTop1.g13, HTop1.g15, HTop1.g16, HTop1.i, HL1.g0, HL1.g1, HL1.g2, HL1.g3, HL1.g4, HL1.i, HL1.r0, HL1.r1, HW1.g0, HW1.g1, HW1.g2, HW1.g3, HW1.g4, HW1.g5, HW1.g6, HW1.g7, HW1.g8, HW1.i, HW1.r0, HW1.r1, HW1.r2, HW1.r3, HW1.r4, HT1.g0, HT1.g1, HT1.g2, HT1.g3, HT1.g4, HT1.g5, HT1.g6, HT1.g7, HT1.g8, HT1.i, HT1.r0, HT1.r1, HT1.r2, HT1.r3, HT1.r4, HR1.i, HRow1.i, all_eq n hn, true_and]
      refine ⟨fun _ => hnext h1 bt1 C1 HB1 hF1 (fun k hk1 hk2 t ht => ?_), fun hc => absurd (nI_lt (by omega) (by omega)) hc⟩
      rcases Nat.lt_or_ge a k with z | z
      · exact hT k z hk2 t ht
      · have : k = a := by omega
        subst this
        exact hrow t (by omega)
    | succ q ih =>
      intro s h1 bt1 hs C1 HB1 hF1 hT hrow
      obtain ⟨hr1, hn1, hWo1, hTo1, ⟨rO1, td1, ks1, dw1, HTop1⟩, ⟨ru1, nx1, HL1⟩, HW1, HT1, ⟨pa1, sk1, th1, len1, src1, at1, HR1, hv1⟩, ⟨nu1, HRow1, hrow1⟩⟩ := id C1
      have e1 : tl - a = (tl - (a + 1)) + 1 := by omega
      have e2 : tl - ((tl - (a + 1)) + 1) = a := by omega
      have eB : hrB tx n W tl (tl - a) s = hrI tx W (hrB tx n W tl (tl - (a + 1))) a s n := by
        rw [e1]
        show hrI tx W (hrB tx n W tl (tl - (a + 1))) (tl - ((tl - (a + 1)) + 1)) s n = _
        rw [e2]
      have hS : s < 2 ^ n := by omega
      refine wX9_weighHeirs_31 hd ?_
      simp only [HTop1.g0, HTop1.g1, HTop1.g2, HTop1.g3, HTop1.g4, HTop1.g5, HTop1.g6, HTop1.g7, HTop1.g8, HTop1.g9, HTop1.g10, HTop1.g11, HTop1.g12, HTop1.g13, HTop1.g15, HTop1.g16, HTop1.i, HL1.g0, HL1.g1, HL1.g2, HL1.g3, HL1.g4, HL1.i, HL1.r0, HL1.r1, HW1.g0, HW1.g1, HW1.g2, HW1.g3, HW1.g4, HW1.g5, HW1.g6, HW1.g7, HW1.g8, HW1.i, HW1.r0, HW1.r1, HW1.r2, HW1.r3, HW1.r4, HT1.g0, HT1.g1, HT1.g2, HT1.g3, HT1.g4, HT1.g5, HT1.g6, HT1.g7, HT1.g8, HT1.i, HT1.r0, HT1.r1, HT1.r2, HT1.r3, HT1.r4, HR1.i, HRow1.i, all_eq n hn, nI_1, true_and]
      refine ⟨fun hc => absurd hc (nI_nlt (by omega) (by omega)), fun _ => t_bestOf C1 HB1 (by omega) (by omega) ⟨_, rfl, ?_⟩⟩
      rw [hT (a + 1) (Nat.le_refl _) (by omega) s hS]
      suffices H : ∀ r i, i + r = n → pz_V mX9_weighHeirs Ex Q d bc bs 55 [(0, .ref x), (2, .int (nI a)), (3, .int (nI s)), (4, .int (hrI tx W (hrB tx n W tl (tl - (a + 1))) a s i)), (5, .int (nI i))] [] h1 from H n 0 (Nat.zero_add _)
      intro r
      induction r with
      | zero =>
        intro i hi
        have e : i = n := hi
        subst e
        refine wX9_weighHeirs_55 hd ?_
        simp only [HTop1.g0, HTop1.g1, HTop1.g2, HTop1.g3, HTop1.g4, HTop1.g5, HTop1.g6, HTop1.g7, HTop1.g8, HTop1.g9, HTop1.g10, HTop1.g11, HTop1.g12, HTop1.g13, HTop1.g15, HTop1.g16, HTop1.i, HL1.g0, HL1.g1, HL1.g2, HL1.g3, HL1.g4, HL1.i, HL1.r0, HL1.r1, HW1.g0, HW1.g1, HW1.g2, HW1.g3, HW1.g4, HW1.g5, HW1.g6, HW1.g7, HW1.g8, HW1.i, HW1.r0, HW1.r1, HW1.r2, HW1.r3, HW1.r4, HT1.g0, HT1.g1, HT1.g2, HT1.g3, HT1.g4, HT1.g5, HT1.g6, HT1.g7, HT1.g8, HT1.i, HT1.r0, HT1.r1, HT1.r2, HT1.r3, HT1.r4, HR1.i, HRow1.i, nI_1, true_and]
        refine ⟨fun _ => t_setBest C1 HB1 (by omega) (by omega) (fun h2 C2 HB2 hF2 => ⟨rfl, ?_⟩), fun hc => absurd (nI_le (Nat.le_refl _) (by omega)) hc⟩
        refine ih (s + 1) h2 _ (by omega) C2 HB2 (hF1.tt hF2) (fun k hk1 hk2 t ht => ?_) (fun t ht => ?_)
        · unfold upd
          rw [if_neg (by omega)]
          exact hT k hk1 hk2 t ht
        · unfold upd
          by_cases e : t = s
          · subst e
            rw [if_pos rfl, eB]
          · rw [if_neg (by omega)]
            exact hrow t (by omega)
      | succ r ih2 =>
        intro i hi
        have g := ih2 (i + 1) (by omega)
        have ec : hrI tx W (hrB tx n W tl (tl - (a + 1))) a s (i + 1) = if hrCan tx W i a s = true then (if hrI tx W (hrB tx n W tl (tl - (a + 1))) a s i < W.lv i + hrB tx n W tl (tl - (a + 1)) (s ||| 2 ^ i) then W.lv i + hrB tx n W tl (tl - (a + 1)) (s ||| 2 ^ i) else hrI tx W (hrB tx n W tl (tl - (a + 1))) a s i) else hrI tx W (hrB tx n W tl (tl - (a + 1))) a s i := rfl
        rw [ec] at g
        have v6 : vp_in (nI i) 6 := vin (by omega) (by decide)
        refine wX9_weighHeirs_55 hd ?_
        simp only [HTop1.g0, HTop1.g1, HTop1.g2, HTop1.g3, HTop1.g4, HTop1.g5, HTop1.g6, HTop1.g7, HTop1.g8, HTop1.g9, HTop1.g10, HTop1.g11, HTop1.g12, HTop1.g13, HTop1.g15, HTop1.g16, HTop1.i, HL1.g0, HL1.g1, HL1.g2, HL1.g3, HL1.g4, HL1.i, HL1.r0, HL1.r1, HW1.g0, HW1.g1, HW1.g2, HW1.g3, HW1.g4, HW1.g5, HW1.g6, HW1.g7, HW1.g8, HW1.i, HW1.r0, HW1.r1, HW1.r2, HW1.r3, HW1.r4, HT1.g0, HT1.g1, HT1.g2, HT1.g3, HT1.g4, HT1.g5, HT1.g6, HT1.g7, HT1.g8, HT1.i, HT1.r0, HT1.r1, HT1.r2, HT1.r3, HT1.r4, HR1.i, HRow1.i, nI_1, true_and]
        refine ⟨fun hc => absurd hc (nI_ge (by omega) (by omega)), fun _ => t_canHave C1 (HXf hF1) hx ht ha (by omega) (by omega) (by omega) (fun w hw => ⟨_, rfl, ⟨fun h0 => ?_, fun h0 => ?_⟩⟩)⟩
        · rw [if_neg (by rw [hw.mp h0]; decide)] at g
          exact g
        · have hcan : hrCan tx W i a s = true := by
            cases e : hrCan tx W i a s
            · exact absurd (hw.mpr e) h0
            · rfl
          rw [if_pos hcan] at g
          simp only [HTop1.g0, HTop1.g1, HTop1.g2, HTop1.g3, HTop1.g4, HTop1.g5, HTop1.g6, HTop1.g7, HTop1.g8, HTop1.g9, HTop1.g10, HTop1.g11, HTop1.g12, HTop1.g13, HTop1.g15, HTop1.g16, HTop1.i, HL1.g0, HL1.g1, HL1.g2, HL1.g3, HL1.g4, HL1.i, HL1.r0, HL1.r1, HW1.g0, HW1.g1, HW1.g2, HW1.g3, HW1.g4, HW1.g5, HW1.g6, HW1.g7, HW1.g8, HW1.i, HW1.r0, HW1.r1, HW1.r2, HW1.r3, HW1.r4, HT1.g0, HT1.g1, HT1.g2, HT1.g3, HT1.g4, HT1.g5, HT1.g6, HT1.g7, HT1.g8, HT1.i, HT1.r0, HT1.r1, HT1.r2, HT1.r3, HT1.r4, HR1.i, HRow1.i, v6, clamp (i := i) (by omega), shl1 i (by omega), or_nI, true_and]
          have ho := orn hS (show i < n by omega)
          refine t_bestOf C1 HB1 (by omega) (by omega) ⟨_, rfl, ?_⟩
          rw [hT (a + 1) (Nat.le_refl _) (by omega) _ ho]
          exact g
  have heirL : ∀ q a (h1 : pz_H) (bt1 : Nat → Int32), a + q = tl + 1 → q ≤ tl + 1 → 0 < q → CQ h1 x rF n br dn W T rv rw → h1.2 (x + 111) = some (aI 448 bt1) → Fr [x + 111] h h1 → HrTab tx n W tl a bt1 → pz_V mX9_weighHeirs Ex Q d bc bs 25 [(0, .ref x), (2, .int (nI a + (-1 : Int32)))] [] h1 := by
    intro q a
    induction a generalizing q with
    | zero =>
      intro h1 bt1 hq1 hq2 hq3 C1 HB1 hF1 hT
      exact wX9_weighHeirs_25 hd ⟨fun _ => hq h1 bt1 C1 HB1 hF1 hT, fun hc => absurd (by decide) hc⟩
    | succ a iha =>
      intro h1 bt1 hq1 hq2 hq3 C1 HB1 hF1 hT
      have em : nI (a + 1) + (-1 : Int32) = nI a := pk_m1 a
      rw [em]
      refine wX9_weighHeirs_25 hd ⟨fun hc => absurd hc (nI_pos (by omega)), fun _ => ?_⟩
      exact rowL a (by omega) (fun h2 bt2 C2 HB2 hF2 hT2 => iha (q + 1) h2 bt2 (by omega) (by omega) (by omega) C2 HB2 hF2 hT2) (2 ^ n) 0 h1 bt1 (Nat.zero_add _) C1 HB1 hF1 hT (fun t ht => absurd ht (Nat.not_lt_zero t))
  suffices H : ∀ q s (h1 : pz_H) (bt1 : Nat → Int32), s + q = 64 → CQ h1 x rF n br dn W T rv rw → h1.2 (x + 111) = some (aI 448 bt1) → Fr [x + 111] h h1 → (∀ t, t < s → bt1 (64 * tl + t) = 0) → pz_V mX9_weighHeirs Ex Q d bc bs 2 [(0, .ref x), (1, .int (nI tl)), (2, .int (nI s))] [] h1 from H 64 0 h bt rfl C HB Fr.rf (fun t ht => absurd ht (Nat.not_lt_zero t))
  intro q
  induction q with
  | zero =>
    intro s h1 bt1 hs C1 HB1 hF1 hz
    have e : s = 64 := hs
    subst e
    refine wX9_weighHeirs_2 hd ⟨fun _ => ?_, fun hc => absurd (nI_le (a := 64) (b := 64) (by decide) (by decide)) hc⟩
    have em : nI tl - (1 : Int32) = nI tl + (-1 : Int32) := by rw [Int32.sub_eq_add_neg]
    rw [em]
    refine heirL 1 tl h1 bt1 rfl (by omega) (by decide) C1 HB1 hF1 (fun k hk1 hk2 t ht => ?_)
    have : k = tl := by omega
    subst this
    rw [hz t (by omega), Nat.sub_self]
    rfl
  | succ q ih =>
    intro s h1 bt1 hs C1 HB1 hF1 hz
    obtain ⟨hr1, hn1, hWo1, hTo1, ⟨rO1, td1, ks1, dw1, HTop1⟩, ⟨ru1, nx1, HL1⟩, HW1, HT1, ⟨pa1, sk1, th1, len1, src1, at1, HR1, hv1⟩, ⟨nu1, HRow1, hrow1⟩⟩ := id C1
    refine wX9_weighHeirs_2 hd ⟨fun hc => absurd hc (nI_ge (b := 64) (by omega) (by decide)), fun _ => ⟨HTop1.i.mpr trivial, t_setBest C1 HB1 (by omega) (by omega) (fun h2 C2 HB2 hF2 => ⟨rfl, ?_⟩)⟩⟩
    rw [nI_1]
    refine ih (s + 1) h2 _ (by omega) C2 HB2 (hF1.tt hF2) (fun t ht => ?_)
    unfold upd
    by_cases e : t = s
    · subst e; rw [if_pos rfl]
    · rw [if_neg (by omega)]; exact hz t (by omega)
theorem t_tellHeirs (C : CQ h x rF n br dn W T rv rw) (HX : Txt h (x + 1) sg tl) (hx : TxR sg tx) (ht : tl ≤ 6) (HB : h.2 (x + 111) = some (aI 448 bt)) (hT : HrTab tx n W tl 0 bt) (hd : 2 ≤ d) (hq : ∀ h', CQ h' x rF n br dn W T rv (hrS tx n W tl tl).2 → Fr (SC x rF) h h' → Q none h') : pz_V mX9_tellHeirs Ex Q d bc bs 0 [(0, .ref x), (1, .int (nI tl))] [] h := by
  have hn := C.2.1
  have hr := C.1
  have h64 := pow_le64 hn
  obtain ⟨hr0, hn0, hWo0, hTo0, ⟨rO0, td0, ks0, dw0, HTop0⟩, ⟨ru0, nx0, HL0⟩, HW0, HT0, ⟨pa0, sk0, th0, len0, src0, at0, HR0, hv0⟩, ⟨nu0, HRow0, hrow0⟩⟩ := id C
  refine wX9_tellHeirs_0 hd ?_
  simp only [HTop0.g0, HTop0.g1, HTop0.g2, HTop0.g3, HTop0.g4, HTop0.g5, HTop0.g6, HTop0.g7, HTop0.g8, HTop0.g9, HTop0.g10, HTop0.g11, HTop0.g12, HTop0.g13, HTop0.g15, HTop0.g16, HTop0.i, HL0.g0, HL0.g1, HL0.g2, HL0.g3, HL0.g4, HL0.i, HL0.r0, HL0.r1, HW0.g0, HW0.g1, HW0.g2, HW0.g3, HW0.g4, HW0.g5, HW0.g6, HW0.g7, HW0.g8, HW0.i, HW0.r0, HW0.r1, HW0.r2, HW0.r3, HW0.r4, HT0.g0, HT0.g1, HT0.g2, HT0.g3, HT0.g4, HT0.g5, HT0.g6, HT0.g7, HT0.g8, HT0.i, HT0.r0, HT0.r1, HT0.r2, HT0.r3, HT0.r4, HR0.i, HRow0.i, true_and]
  refine (q_clear C (fun h1 C1 hF1 => ?_)).2
  have HXf : ∀ {h1 : pz_H}, Fr (SC x rF) h h1 → Txt h1 (x + 1) sg tl := fun hF => HX.fr hF (by intro b hb; simp at hb; omega)
  have HBf : ∀ {h1 : pz_H}, Fr (SC x rF) h h1 → h1.2 (x + 111) = some (aI 448 bt) := fun hF => (hF.2 _ (by simp; omega)).trans HB
  suffices H : ∀ q a (h1 : pz_H), a + q = tl → CQ h1 x rF n br dn W T rv (hrS tx n W tl a).2 → Fr (SC x rF) h h1 → pz_V mX9_tellHeirs Ex Q d bc bs 11 [(0, .ref x), (1, .int (nI tl)), (2, .int (nI (hrS tx n W tl a).1)), (3, .int (nI a))] [] h1 from H tl 0 h1 (Nat.zero_add _) C1 hF1
  intro q
  induction q with
  | zero =>
    intro a h1 ha C1 hF1
    have e : a = tl := ha
    subst e
    exact wX9_tellHeirs_11 hd ⟨fun _ => hq h1 C1 hF1, fun hc => absurd (nI_le (Nat.le_refl _) (by omega)) hc⟩
  | succ q ih =>
    intro a h1 ha C1 hF1
    obtain ⟨l1, l2⟩ := hrS_lt (tx := tx) (n := n) (W := W) (m := tl) a
    have eS : hrS tx n W tl (a + 1) = hrStep tx n W tl a (hrS tx n W tl a) := rfl
    have g := fun h' => ih (a + 1) h' (by omega)
    rw [eS] at g
    unfold hrStep at g
    generalize hrS tx n W tl a = st at C1 l1 l2 g ⊢
    obtain ⟨s, r⟩ := st
    dsimp only at C1 l1 l2 g ⊢
    obtain ⟨hr1, hn1, hWo1, hTo1, ⟨rO1, td1, ks1, dw1, HTop1⟩, ⟨ru1, nx1, HL1⟩, HW1, HT1, ⟨pa1, sk1, th1, len1, src1, at1, HR1, hv1⟩, ⟨nu1, HRow1, hrow1⟩⟩ := id C1
    have HB1 := HBf hF1
    refine wX9_tellHeirs_11 hd ⟨fun hc => absurd hc (nI_ge (by omega) (by omega)), fun _ => ⟨HTop1.i.mpr trivial, t_bestOf C1 HB1 (by omega) (by omega) ⟨_, rfl, ?_⟩⟩⟩
    rw [hT a (Nat.zero_le _) (by omega) s l1]
    -- the end: the heir is told
    have fin0 : hrT tx n W tl a s = none → pz_gR h1 x 9 1 (fun (a3 : Nat) => pz_is h1 a3 4 ∧ (pz_kv mX4_add 0 0 0 (.ref a3 :: [.long (-1 : Int32).toInt64]) h1 (fun (h4 : pz_H) => ((-1 : Int32) = ((-1 : Int32)) → pz_V mX9_tellHeirs Ex Q d bc bs 11 [(0, .ref x), (1, .int (nI tl)), (2, .int (nI s)), (3, .int (nI a + (1 : Int32)))] [] h4) ∧ (¬ (-1 : Int32) = ((-1 : Int32)) → pz_V mX9_tellHeirs Ex Q d bc bs 11 [(0, .ref x), (1, .int (nI tl)), (2, .int (nI s ||| (((1 : Int32)) <<< ((-1 : Int32) &&& 31)))), (3, .int (nI a + (1 : Int32)))] [] h4)))) := by
      intro e
      rw [e] at g
      dsimp only at g
      refine HTop1.g1.mpr ⟨HRow1.i.mpr trivial, q_add C1 (by omega) (fun h2 C2 hF2 => ⟨rfl, ⟨fun _ => ?_, fun hc => absurd rfl hc⟩⟩)⟩
      rw [nI_1]
      exact g h2 C2 (hF1.tt hF2)
    have fin1 : ∀ i, hrT tx n W tl a s = some i → i < n → pz_gR h1 x 9 1 (fun (a3 : Nat) => pz_is h1 a3 4 ∧ (pz_kv mX4_add 0 0 0 (.ref a3 :: [.long (nI i).toInt64]) h1 (fun (h4 : pz_H) => (nI i = ((-1 : Int32)) → pz_V mX9_tellHeirs Ex Q d bc bs 11 [(0, .ref x), (1, .int (nI tl)), (2, .int (nI s)), (3, .int (nI a + (1 : Int32)))] [] h4) ∧ (¬ nI i = ((-1 : Int32)) → pz_V mX9_tellHeirs Ex Q d bc bs 11 [(0, .ref x), (1, .int (nI tl)), (2, .int (nI s ||| (((1 : Int32)) <<< (nI i &&& 31)))), (3, .int (nI a + (1 : Int32)))] [] h4)))) := by
      intro i e hi
      rw [e] at g
      dsimp only at g
      refine HTop1.g1.mpr ⟨HRow1.i.mpr trivial, q_add C1 (by omega) (fun h2 C2 hF2 => ⟨rfl, ⟨fun hc => ?_, fun _ => ?_⟩⟩)⟩
      · have hp : (0 : Int32) ≤ nI i := nI_pos' (by omega)
        rw [hc] at hp
        exact absurd hp (by decide)
      · rw [nI_1, shl1 i (by omega), or_nI]
        exact g h2 C2 (hF1.tt hF2)
    -- the search
    by_cases hdue : hrB tx n W tl (tl - (a + 1)) s = hrB tx n W tl (tl - a) s
    · have eT : hrT tx n W tl a s = none := by unfold hrT; rw [if_pos hdue]
      refine wX9_tellHeirs_30 hd (HTop1.g2.mpr ⟨HL1.i.mpr trivial, HL1.g4.mpr ⟨fun _ => fin0 eT, fun _ => ⟨HTop1.i.mpr trivial, ?_⟩⟩⟩)
      rw [nI_1]
      refine t_bestOf C1 HB1 (by omega) (by omega) ⟨_, rfl, ?_⟩
      rw [hT (a + 1) (Nat.zero_le _) (by omega) s l1]
      have ff := fin0 eT
      rw [nI_1] at ff
      exact ⟨fun _ => ff, fun hc => absurd hdue hc⟩
    · have eT : hrT tx n W tl a s = firstDay (fun i => hrCan tx W i a s = true ∧ W.lv i + hrB tx n W tl (tl - (a + 1)) (s ||| 2 ^ i) = hrB tx n W tl (tl - a) s) n 0 := by unfold hrT; rw [if_neg hdue]
      -- found: the next look ends the search
      have found : ∀ i j, hrT tx n W tl a s = some i → i < n → j ≤ n → pz_V mX9_tellHeirs Ex Q d bc bs 30 [(0, .ref x), (1, .int (nI tl)), (2, .int (nI s)), (3, .int (nI a)), (4, .int (hrB tx n W tl (tl - a) s)), (5, .int (nI i)), (6, .int (nI j))] [] h1 := by
        intro i j e hi hj
        have ff := fin1 i e hi
        refine wX9_tellHeirs_30 hd (HTop1.g2.mpr ⟨HL1.i.mpr trivial, HL1.g4.mpr ⟨fun _ => ff, fun _ => ⟨HTop1.i.mpr trivial, ?_⟩⟩⟩)
        have e1 : nI a + (1 : Int32) = nI (a + 1) := nI_1 a
        rw [e1] at ff ⊢
        refine t_bestOf C1 HB1 (by omega) (by omega) ⟨_, rfl, ?_⟩
        rw [hT (a + 1) (Nat.zero_le _) (by omega) s l1]
        refine ⟨fun _ => ff, fun _ => ⟨fun _ => ff, fun hc => ?_⟩⟩
        have hp : (0 : Int32) ≤ nI i := nI_pos' (by omega)
        rw [hc] at hp
        exact absurd hp (by decide)
      refine firstN_run (N := n) (p := fun i => hrCan tx W i a s = true ∧ W.lv i + hrB tx n W tl (tl - (a + 1)) (s ||| 2 ^ i) = hrB tx n W tl (tl - a) s) (Z := fun o => hrT tx n W tl a s = o)
        (V := fun i hh => hh = h1 → pz_V mX9_tellHeirs Ex Q d bc bs 30 [(0, .ref x), (1, .int (nI tl)), (2, .int (nI s)), (3, .int (nI a)), (4, .int (hrB tx n W tl (tl - a) s)), (5, .int (-1)), (6, .int (nI i))] [] hh) (Ck := fun _ _ => True) ?_ ?_ ?_ n 0 h1 (Nat.zero_add _) trivial eT rfl
      · intro hh _ hz e
        subst e
        exact wX9_tellHeirs_30 hd (HTop1.g2.mpr ⟨HL1.i.mpr trivial, HL1.g4.mpr ⟨fun _ => fin0 hz, fun hc => absurd (nI_le (Nat.le_refl _) (by omega)) hc⟩⟩)
      all_goals
        intro i hh hi _ hp hz e
        subst e
        have v6 : vp_in (nI i) 6 := vin (by omega) (by decide)
        have ho := orn l1 hi
        refine wX9_tellHeirs_30 hd (HTop1.g2.mpr ⟨HL1.i.mpr trivial, HL1.g4.mpr ⟨fun hc => absurd hc (nI_ge (by omega) (by omega)), fun _ => ⟨HTop1.i.mpr trivial, ?_⟩⟩⟩)
        have e1 : nI a + (1 : Int32) = nI (a + 1) := nI_1 a
        rw [e1]
        refine t_bestOf C1 HB1 (by omega) (by omega) ⟨_, rfl, ?_⟩
        rw [hT (a + 1) (Nat.zero_le _) (by omega) s l1]
        refine ⟨fun hc => absurd hc hdue, fun _ => ⟨fun hc => absurd rfl hc, fun _ => ⟨HTop1.i.mpr trivial, t_canHave C1 (HXf hF1) hx ht (by omega) hi (by omega) (by omega) (fun w hw => ⟨_, rfl, ?_⟩)⟩⟩⟩
        simp only [HTop1.g0, HTop1.g1, HTop1.g2, HTop1.g3, HTop1.g4, HTop1.g5, HTop1.g6, HTop1.g7, HTop1.g8, HTop1.g9, HTop1.g10, HTop1.g11, HTop1.g12, HTop1.g13, HTop1.g15, HTop1.g16, HTop1.i, HL1.g0, HL1.g1, HL1.g2, HL1.g3, HL1.g4, HL1.i, HL1.r0, HL1.r1, HW1.g0, HW1.g1, HW1.g2, HW1.g3, HW1.g4, HW1.g5, HW1.g6, HW1.g7, HW1.g8, HW1.i, HW1.r0, HW1.r1, HW1.r2, HW1.r3, HW1.r4, HT1.g0, HT1.g1, HT1.g2, HT1.g3, HT1.g4, HT1.g5, HT1.g6, HT1.g7, HT1.g8, HT1.i, HT1.r0, HT1.r1, HT1.r2, HT1.r3, HT1.r4, HR1.i, HRow1.i, v6, clamp (i := i) (by omega), shl1 i (by omega), or_nI, nI_1, true_and]
      · refine ⟨fun h0 => by rw [hw.mp h0] at hp; exact absurd hp.1 (by decide), fun h0 => t_bestOf C1 HB1 (by omega) (by omega) ⟨_, rfl, ?_⟩⟩
        rw [hT (a + 1) (Nat.zero_le _) (by omega) _ ho]
        exact ⟨fun hc => absurd hp.2 hc, fun _ => found i (i + 1) hz hi (by omega)⟩
      · refine ⟨fun h0 => hz _ trivial rfl, fun h0 => t_bestOf C1 HB1 (by omega) (by omega) ⟨_, rfl, ?_⟩⟩
        rw [hT (a + 1) (Nat.zero_le _) (by omega) _ ho]
        have hcan : hrCan tx W i a s = true := by
          cases e : hrCan tx W i a s
          · exact absurd (hw.mpr e) h0
          · rfl
        exact ⟨fun _ => hz _ trivial rfl, fun he => absurd ⟨hcan, he⟩ hp⟩
theorem c_heirs (C : CQ h x rF n br dn W T rv rw) (HX : Txt h (x + 1) sg tl) (hx : TxR sg tx) (ht : tl ≤ 80) (HB : h.2 (x + 111) = some (aI 448 bt)) (hd : 3 ≤ d) (hq : ∀ h' bt', CQ h' x rF n br dn W T rv (s_heirs tx n W tl rw).2 → Txt h' (x + 1) sg 0 → h'.2 (x + 111) = some (aI 448 bt') → Fr ((x + 1) :: (x + 111) :: SC x rF) h h' → Q (some (.int (s_heirs tx n W tl rw).1)) h') : pz_V mX9_heirs Ex Q d bc bs 0 [(0, .ref x)] [] h := by
  obtain ⟨hr0, hn0, hWo0, hTo0, ⟨rO0, td0, ks0, dw0, HTop0⟩, ⟨ru0, nx0, HL0⟩, HW0, HT0, ⟨pa0, sk0, th0, len0, src0, at0, HR0, hv0⟩, ⟨nu0, HRow0, hrow0⟩⟩ := id C
  have clr : ∀ {h1 : pz_H} {r : List Int64} {K : pz_H → Prop}, CQ h1 x rF n br dn W T rv r → Txt h1 (x + 1) sg tl → (∀ h2, CQ h2 x rF n br dn W T rv r → Txt h2 (x + 1) sg 0 → Fr [x + 1] h1 h2 → K h2) → pz_pF h1 (x + 1) 6 1 (.int 0) K := by
    intro h1 r K C1 HX1 hk
    have hF : Fr [x + 1] h1 (pz_put h1 (x + 1) (aO 6 [.ref (x + 1 + 1), .int (nI 0)])) := fr_1 (by simp)
    obtain ⟨hr1, hn1, hWo1, hTo1, ⟨rO1, td1, ks1, dw1, HTop1⟩, ⟨ru1, nx1, HL1⟩, HW1, HT1, ⟨pa1, sk1, th1, len1, src1, at1, HR1, hv1⟩, ⟨nu1, HRow1, hrow1⟩⟩ := id C1
    refine HX1.p1.mpr (hk _ ?_ (HX1.u1 0) hF)
    exact ⟨hr1, hn1, hWo1, hTo1, ⟨rO1, td1, ks1, dw1, HTop1.fr hF (by simp)⟩, ⟨ru1, nx1, HL1.fr hF (by intro b hb; simp at hb; omega)⟩, HW1.fr hF (by intro b hb; simp at hb; omega), HT1.fr hF (by intro b hb; simp at hb; omega), ⟨pa1, sk1, th1, len1, src1, at1, HR1.fr hF (by intro b hb; simp at hb; omega), hv1⟩, ⟨nu1, HRow1.fr hF (by intro b hb; simp at hb; omega), hrow1⟩⟩
  unfold s_heirs at hq
  refine wX9_heirs_0 hd ?_
  simp only [HTop0.g0, HTop0.g1, HTop0.g2, HTop0.g3, HTop0.g4, HTop0.g5, HTop0.g6, HTop0.g7, HTop0.g8, HTop0.g9, HTop0.g10, HTop0.g11, HTop0.g12, HTop0.g13, HTop0.g15, HTop0.g16, HTop0.i, HL0.g0, HL0.g1, HL0.g2, HL0.g3, HL0.g4, HL0.i, HL0.r0, HL0.r1, HW0.g0, HW0.g1, HW0.g2, HW0.g3, HW0.g4, HW0.g5, HW0.g6, HW0.g7, HW0.g8, HW0.i, HW0.r0, HW0.r1, HW0.r2, HW0.r3, HW0.r4, HT0.g0, HT0.g1, HT0.g2, HT0.g3, HT0.g4, HT0.g5, HT0.g6, HT0.g7, HT0.g8, HT0.i, HT0.r0, HT0.r1, HT0.r2, HT0.r3, HT0.r4, HR0.i, HRow0.i, HX.i, HX.g1, true_and]
  refine t_heirsFault C HX hx ht (by omega) ⟨_, rfl, ?_⟩
  cases hf : hrFault tx tl with
  | some p =>
    rw [hf] at hq
    have hp : p < 2 ^ 31 := by
      unfold hrFault at hf
      split at hf
      · cases hf; decide
      · have := (firstDay_some hf).2.1; omega
    refine ⟨fun hc => absurd hc (nI_pos hp), fun _ => ?_⟩
    simp only [HTop0.g0, HTop0.g1, HTop0.g2, HTop0.g3, HTop0.g4, HTop0.g5, HTop0.g6, HTop0.g7, HTop0.g8, HTop0.g9, HTop0.g10, HTop0.g11, HTop0.g12, HTop0.g13, HTop0.g15, HTop0.g16, HTop0.i, HL0.g0, HL0.g1, HL0.g2, HL0.g3, HL0.g4, HL0.i, HL0.r0, HL0.r1, HW0.g0, HW0.g1, HW0.g2, HW0.g3, HW0.g4, HW0.g5, HW0.g6, HW0.g7, HW0.g8, HW0.i, HW0.r0, HW0.r1, HW0.r2, HW0.r3, HW0.r4, HT0.g0, HT0.g1, HT0.g2, HT0.g3, HT0.g4, HT0.g5, HT0.g6, HT0.g7, HT0.g8, HT0.i, HT0.r0, HT0.r1, HT0.r2, HT0.r3, HT0.r4, HR0.i, HRow0.i, HX.i, true_and]
    refine clr C HX (fun h2 C2 HX2 hF2 => hq h2 bt C2 HX2 ?_ (hF2.mono (by simp)))
    exact (hF2.2 _ (by simp)).trans HB
  | none =>
    rw [hf] at hq
    have ht0 : 0 < tl := by
      rcases Nat.eq_zero_or_pos tl with q | q
      · unfold hrFault at hf; rw [if_pos q] at hf; cases hf
      · exact q
    have ht6 : tl ≤ 6 := by
      rcases Nat.lt_or_ge 6 tl with q | q
      · unfold hrFault at hf
        rw [if_neg (by omega)] at hf
        have := firstDay_none hf 6 (Nat.zero_le _) (by omega)
        exfalso
        apply this
        unfold sgn
        rw [if_neg (by omega)]
        decide
      · exact q
    refine ⟨fun _ => ⟨HTop0.i.mpr trivial, ?_⟩, fun hc => absurd (by decide) hc⟩
    refine t_weigh C HX hx ht6 ht0 HB (by omega) (fun h1 bt1 C1 HB1 hF1 hT1 => ⟨rfl, ?_⟩)
    obtain ⟨hr1, hn1, hWo1, hTo1, ⟨rO1, td1, ks1, dw1, HTop1⟩, ⟨ru1, nx1, HL1⟩, HW1, HT1, ⟨pa1, sk1, th1, len1, src1, at1, HR1, hv1⟩, ⟨nu1, HRow1, hrow1⟩⟩ := id C1
    have HX1 := HX.fr hF1 (by intro b hb; simp at hb; omega)
    refine ⟨HTop1.i.mpr trivial, t_tellHeirs C1 HX1 hx ht6 HB1 hT1 (by omega) (fun h2 C2 hF2 => ⟨rfl, ?_⟩)⟩
    have HX2 := HX1.fr hF2 (by intro b hb; simp at hb; omega)
    have HB2 : h2.2 (x + 111) = some (aI 448 bt1) := (hF2.2 _ (by simp; omega)).trans HB1
    obtain ⟨hr2, hn2, hWo2, hTo2, ⟨rO2, td2, ks2, dw2, HTop2⟩, ⟨ru2, nx2, HL2⟩, HW2, HT2, ⟨pa2, sk2, th2, len2, src2, at2, HR2, hv2⟩, ⟨nu2, HRow2, hrow2⟩⟩ := id C2
    simp only [HTop2.g0, HTop2.g1, HTop2.g2, HTop2.g3, HTop2.g4, HTop2.g5, HTop2.g6, HTop2.g7, HTop2.g8, HTop2.g9, HTop2.g10, HTop2.g11, HTop2.g12, HTop2.g13, HTop2.g15, HTop2.g16, HTop2.i, HL2.g0, HL2.g1, HL2.g2, HL2.g3, HL2.g4, HL2.i, HL2.r0, HL2.r1, HW2.g0, HW2.g1, HW2.g2, HW2.g3, HW2.g4, HW2.g5, HW2.g6, HW2.g7, HW2.g8, HW2.i, HW2.r0, HW2.r1, HW2.r2, HW2.r3, HW2.r4, HT2.g0, HT2.g1, HT2.g2, HT2.g3, HT2.g4, HT2.g5, HT2.g6, HT2.g7, HT2.g8, HT2.i, HT2.r0, HT2.r1, HT2.r2, HT2.r3, HT2.r4, HR2.i, HRow2.i, HX2.i, true_and]
    refine clr C2 HX2 (fun h3 C3 HX3 hF3 => ?_)
    have HB3 : h3.2 (x + 111) = some (aI 448 bt1) := (hF3.2 _ (by simp)).trans HB2
    obtain ⟨hr3, hn3, hWo3, hTo3, ⟨rO3, td3, ks3, dw3, HTop3⟩, ⟨ru3, nx3, HL3⟩, HW3, HT3, ⟨pa3, sk3, th3, len3, src3, at3, HR3, hv3⟩, ⟨nu3, HRow3, hrow3⟩⟩ := id C3
    simp only [HTop3.g0, HTop3.g1, HTop3.g2, HTop3.g3, HTop3.g4, HTop3.g5, HTop3.g6, HTop3.g7, HTop3.g8, HTop3.g9, HTop3.g10, HTop3.g11, HTop3.g12, HTop3.g13, HTop3.g15, HTop3.g16, HTop3.i, HL3.g0, HL3.g1, HL3.g2, HL3.g3, HL3.g4, HL3.i, HL3.r0, HL3.r1, HW3.g0, HW3.g1, HW3.g2, HW3.g3, HW3.g4, HW3.g5, HW3.g6, HW3.g7, HW3.g8, HW3.i, HW3.r0, HW3.r1, HW3.r2, HW3.r3, HW3.r4, HT3.g0, HT3.g1, HT3.g2, HT3.g3, HT3.g4, HT3.g5, HT3.g6, HT3.g7, HT3.g8, HT3.i, HT3.r0, HT3.r1, HT3.r2, HT3.r3, HT3.r4, HR3.i, HRow3.i, rI_eq HB3, true_and]
    have e0 : bt1 (0 : Int32).toNatClampNeg = hrB tx n W tl tl 0 := by
      have := hT1 0 (Nat.le_refl _) (Nat.zero_le _) 0 (Nat.two_pow_pos n)
      exact this
    rw [e0]
    refine ⟨vin (i := 0) (by decide) (by decide), hq h3 bt1 C3 HX3 HB3 (((hF1.mono (by simp)).tr hF2 (fun b hb => List.mem_cons_of_mem _ (List.mem_cons_of_mem _ hb))).tr hF3 (by simp))⟩
end CH
