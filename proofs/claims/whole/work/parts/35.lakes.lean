/-! ===== lakes: spec, and the class ===== -/
section SP
variable (tx : Nat → Nat) (tl : Nat)
abbrev sL (p : Nat) : Int32 := sgn tx tl 41 p
def lineF (p num : Nat) : Option Nat :=
  if 6 ≤ num then some p else if eX9_isDigit (sL tx tl p) = 0 then some p
  else if eX9_isDigit (sL tx tl (p + 1)) = 0 ∨ (sL tx tl p = 48 ∧ sL tx tl (p + 1) = 48) then some (p + 1)
  else if eX9_isDigit (sL tx tl (p + 2)) = 0 then some (p + 2) else if eX9_isDigit (sL tx tl (p + 3)) = 0 then some (p + 3)
  else if eX9_isKingSign (sL tx tl (p + 4)) = 0 then some (p + 4)
  else if ¬ (sL tx tl (p + 5) = 45 ∨ (¬ eX9_isDigit (sL tx tl (p + 5)) = 0 ∧ ¬ nI num ≤ sL tx tl (p + 5) - 48)) then some (p + 5) else none
/-- lines told: (true, how many) or (false, the sign at fault) -/
def lnS (n : Nat) : Nat → Nat → Bool × Nat
  | 0, _ => (false, 41)
  | f + 1, k => match lineF tx tl (7 * k) (n + k) with
    | some q => (false, q)
    | none => if tl = 7 * k + 6 then (true, k + 1) else if ¬ sL tx tl (7 * k + 6) = 59 then (false, 7 * k + 6) else lnS n f (k + 1)
def lnBr (p : Nat) : Int32 := 10 * (sgn tx tl 80 p - 48) + (sgn tx tl 80 (p + 1) - 48)
def lnDn (p : Nat) : Int32 := if sL tx tl (p + 5) = 45 then -1 else sL tx tl (p + 5) - 48
def lnW (p i : Nat) (W : pW) : pW := (upd W.lv i (lnBr tx tl p), upd W.hr i 0, upd W.tp i (sgn tx tl 80 (p + 2) - 48), upd W.lk i (sgn tx tl 80 (p + 3) - 48), upd W.kg i (sL tx tl (p + 4) - 97), W.ou, W.dy, W.sp, W.dr)
end SP
def addL (k : Nat) (S : pS) : pS := if S.n < 6 then (((S.sN (S.n + 1)).sBr (upd S.br S.n (lnBr S.tx S.tl (7 * k)))).sDn (upd S.dn S.n (lnDn S.tx S.tl (7 * k)))).sW (lnW S.tx S.tl (7 * k) S.n S.W) else S
def addLs : Nat → pS → pS
  | 0, S => S
  | k + 1, S => addL k (addLs k S)
def o_lakes (S : pS) : pR := if S.tl = 0 then (0, S) else
  let r := lnS S.tx S.tl S.n 6 0
  if r.1 = true then (nI r.2, (((addLs r.2 S).sTl 0).sU []).sKs 0) else (-1 - nI r.2, S.sTl 0)
section CL
variable {Ex : State → Nat → Prop} {Q : Option Value → pz_H → Prop} {d bc bs : Nat} {h h' : pz_H} {x rF rO n : Nat} {td : Option Nat} {dw : Int32} {S : pS} {br dn : Nat → Int32} {W T : pW} {rv : pRV} {rw : List Int64} {sg : Nat → Int32} {tx : Nat → Nat} {tl : Nat}
theorem t_lineFault {p num : Nat} (C : CQ h x rF n br dn W T rv rw) (HX : Txt h (x + 1) sg tl) (hx : TxR sg tx) (ht : tl ≤ 80) (hp : p < 900) (hnum : num < 100) (hd : 1 ≤ d) (hq : Q (some (.int (match lineF tx tl p num with | some q => nI q | none => -1))) h) : pz_V mX9_lineFault Ex Q d bc bs 0 [(0, .ref x), (1, .int (nI p)), (2, .int (nI num))] [] h := by
  obtain ⟨hr0, hn0, hWo0, hTo0, ⟨rO0, td0, ks0, dw0, HTop0⟩, ⟨ru0, nx0, HL0⟩, HW0, HT0, ⟨pa0, sk0, th0, len0, src0, at0, HR0, hv0⟩, ⟨nu0, HRow0, hrow0⟩⟩ := id C
  unfold lineF at hq
  have sn : ∀ i, nI p + nI i = nI (p + i) := fun i => nI_add p i
  -- one sign
  have look : ∀ (i : Nat) (l3 : Int32), i < 6 → ∀ {K : Int32 → pz_H → Prop}, K (sL tx tl (p + i)) h → pz_gR h x 9 0 (fun (a1 : Nat) => pz_is h a1 6 ∧ (pz_ki mX6_at 0 0 0 (.ref a1 :: [.int (nI p + nI i), .int 41]) h K)) := by
    intro i l3 hi K hk
    refine HTop0.g0.mpr ⟨HX.i.mpr trivial, ?_⟩
    rw [sn]
    exact t_at (lim := 41) HX hx ht (by omega) (by omega) ⟨_, rfl, hk⟩
  refine wX9_lineFault_0 hd ⟨fun hlt => ?_, fun hnl => ?_⟩
  · have h6 : ¬ 6 ≤ num := fun q => absurd hlt (nI_nlt (b := 6) q (by omega))
    rw [if_neg h6] at hq
    -- sign 0
    refine wX9_lineFault_13 hd ⟨fun hc => absurd hc (by decide), fun _ => look 0 1 (by decide) ⟨fun hc => absurd hc (by decide), fun _ => ⟨fun hc => absurd hc (by decide), fun _ => ?_⟩⟩⟩
    have go0 : ∀ s0 : Int32, (¬ s0 = 0 ↔ sL tx tl p = 48) → pz_V mX9_lineFault Ex Q d bc bs 64 [(0, .ref x), (1, .int (nI p)), (2, .int (nI num)), (4, .int (nI 0)), (6, .int (eX9_isDigit (sL tx tl p)))] [.int s0] h := by
      intro s0 hs0
      refine wX9_lineFault_64 hd ⟨fun hd0 => ?_, fun hd0 => ⟨fun _ => ?_, fun hc => absurd hc (by decide)⟩⟩
      · rw [if_pos hd0] at hq
        rw [sn]
        exact hq
      · rw [if_neg hd0] at hq
        -- sign 1
        refine wX9_lineFault_13 hd ⟨fun hc => absurd hc (by decide), fun _ => look 1 s0 (by decide) ⟨fun hc => absurd hc (by decide), fun _ => ?_⟩⟩
        have go1 : ∀ s1 : Int32, (¬ s1 = 0 ↔ sL tx tl p = 48 ∧ sL tx tl (p + 1) = 48) → pz_V mX9_lineFault Ex Q d bc bs 64 [(0, .ref x), (1, .int (nI p)), (2, .int (nI num)), (4, .int (nI 1)), (6, .int (eX9_isDigit (sL tx tl (p + 1))))] [.int s1] h := by
          intro s1 hs1
          have bad : (eX9_isDigit (sL tx tl (p + 1)) = 0 ∨ (sL tx tl p = 48 ∧ sL tx tl (p + 1) = 48)) → Q (some (.int (nI p + nI 1))) h := by
            intro hb
            rw [if_pos hb] at hq
            rw [sn]
            exact hq
          refine wX9_lineFault_64 hd ⟨fun hd1 => bad (Or.inl hd1), fun hd1 => ⟨fun hc => absurd rfl hc, fun _ => ⟨fun h1 => bad (Or.inr (hs1.mp h1)), fun h1 => ?_⟩⟩⟩
          rw [if_neg (by rintro (q | q); exact hd1 q; exact absurd h1 (hs1.mpr q))] at hq
          -- signs 2, 3
          refine wX9_lineFault_13 hd ⟨fun hc => absurd hc (by decide), fun _ => look 2 s1 (by decide) ⟨fun _ => ⟨fun _ => ⟨fun _ => ⟨fun hd2 => ?_, fun hd2 => ?_⟩, fun hc => absurd hc (by decide)⟩, fun hc => absurd hc (by decide)⟩, fun hc => absurd (by decide) hc⟩⟩
          · rw [if_neg hd2] at hq
            refine wX9_lineFault_13 hd ⟨fun hc => absurd hc (by decide), fun _ => look 3 s1 (by decide) ⟨fun _ => ⟨fun _ => ⟨fun _ => ⟨fun hd3 => ?_, fun hd3 => ?_⟩, fun hc => absurd hc (by decide)⟩, fun hc => absurd hc (by decide)⟩, fun hc => absurd (by decide) hc⟩⟩
            · rw [if_neg hd3] at hq
              -- sign 4
              refine wX9_lineFault_13 hd ⟨fun hc => absurd hc (by decide), fun _ => look 4 s1 (by decide) ⟨fun _ => ⟨fun hc => absurd rfl hc, fun _ => ⟨fun hk => ?_, fun hk => ?_⟩⟩, fun hc => absurd (by decide) hc⟩⟩
              · rw [if_neg hk] at hq
                -- sign 5
                have ok : (sL tx tl (p + 5) = 45 ∨ (¬ eX9_isDigit (sL tx tl (p + 5)) = 0 ∧ ¬ nI num ≤ sL tx tl (p + 5) - 48)) → pz_V mX9_lineFault Ex Q d bc bs 13 [(0, .ref x), (1, .int (nI p)), (2, .int (nI num)), (3, .int s1), (4, .int (nI 5 + 1))] [] h := by
                  intro hk5
                  rw [if_neg (fun q => q hk5)] at hq
                  exact wX9_lineFault_13 hd ⟨fun _ => hq, fun hc => absurd (by decide) hc⟩
                have no : ¬ (sL tx tl (p + 5) = 45 ∨ (¬ eX9_isDigit (sL tx tl (p + 5)) = 0 ∧ ¬ nI num ≤ sL tx tl (p + 5) - 48)) → Q (some (.int (nI p + nI 5))) h := by
                  intro hk5
                  rw [if_pos hk5] at hq
                  rw [sn]
                  exact hq
                refine wX9_lineFault_13 hd ⟨fun hc => absurd hc (by decide), fun _ => look 5 s1 (by decide) ⟨fun _ => ⟨fun _ => ⟨fun hc => absurd rfl hc, fun _ => ⟨fun h45 => ok (Or.inl h45), fun h45 => ⟨fun hd5 => no (by rintro (q | q); exact h45 q; exact q.1 hd5), fun hd5 => ⟨fun hle => no (by rintro (q | q); exact h45 q; exact q.2 hle), fun hgt => ok (Or.inr ⟨hd5, hgt⟩)⟩⟩⟩⟩, fun hc => absurd hc (by decide)⟩, fun hc => absurd (by decide) hc⟩⟩
              · rw [if_pos hk] at hq
                show Q (some (.int (nI p + nI 4))) h
                rw [sn]
                exact hq
            · rw [if_pos hd3] at hq
              show Q (some (.int (nI p + nI 3))) h
              rw [sn]
              exact hq
          · rw [if_pos hd2] at hq
            show Q (some (.int (nI p + nI 2))) h
            rw [sn]
            exact hq
        refine ⟨fun h0 => go1 0 ⟨fun q => absurd rfl q, fun q => absurd h0 (hs0.mpr q.1)⟩, fun h0 => ⟨fun hne => go1 0 ⟨fun q => absurd rfl q, fun q => absurd q.2 hne⟩, fun he => go1 1 ⟨fun _ => ⟨hs0.mp h0, he⟩, fun _ => by decide⟩⟩⟩
    exact ⟨fun hne => go0 0 ⟨fun q => absurd rfl q, fun q => absurd q hne⟩, fun he => go0 1 ⟨fun _ => he, fun _ => by decide⟩⟩
  · have h6 : 6 ≤ num := by
      rcases Nat.lt_or_ge num 6 with q | q
      · exact absurd (nI_lt (b := 6) q (by decide)) hnl
      · exact q
    rw [if_pos h6] at hq
    exact hq
theorem lineF_lt {p num q : Nat} (h : lineF tx tl p num = some q) : q ≤ p + 5 := by
  unfold lineF at h
  by_cases c0 : 6 ≤ num
  · rw [if_pos c0] at h; cases h; omega
  rw [if_neg c0] at h
  by_cases c1 : eX9_isDigit (sL tx tl p) = 0
  · rw [if_pos c1] at h; cases h; omega
  rw [if_neg c1] at h
  by_cases c2 : eX9_isDigit (sL tx tl (p + 1)) = 0 ∨ (sL tx tl p = 48 ∧ sL tx tl (p + 1) = 48)
  · rw [if_pos c2] at h; cases h; omega
  rw [if_neg c2] at h
  by_cases c3 : eX9_isDigit (sL tx tl (p + 2)) = 0
  · rw [if_pos c3] at h; cases h; omega
  rw [if_neg c3] at h
  by_cases c4 : eX9_isDigit (sL tx tl (p + 3)) = 0
  · rw [if_pos c4] at h; cases h; omega
  rw [if_neg c4] at h
  by_cases c5 : eX9_isKingSign (sL tx tl (p + 4)) = 0
  · rw [if_pos c5] at h; cases h; omega
  rw [if_neg c5] at h
  by_cases c6 : ¬ (sL tx tl (p + 5) = 45 ∨ (¬ eX9_isDigit (sL tx tl (p + 5)) = 0 ∧ ¬ nI num ≤ sL tx tl (p + 5) - 48))
  · rw [if_pos c6] at h; cases h; omega
  · rw [if_neg c6] at h; cases h
def lnV (r : Bool × Nat) : Int32 := if r.1 = true then nI r.2 else -1 - nI r.2
theorem t_linesTold (C : CQ h x rF n br dn W T rv rw) (HX : Txt h (x + 1) sg tl) (hx : TxR sg tx) (ht : tl ≤ 80) (hd : 2 ≤ d) (hq : Q (some (.int (if tl = 0 then 0 else lnV (lnS tx tl n 6 0)))) h) : pz_V mX9_linesTold Ex Q d bc bs 0 [(0, .ref x)] [] h := by
  obtain ⟨hr0, hn0, hWo0, hTo0, ⟨rO0, td0, ks0, dw0, HTop0⟩, ⟨ru0, nx0, HL0⟩, HW0, HT0, ⟨pa0, sk0, th0, len0, src0, at0, HR0, hv0⟩, ⟨nu0, HRow0, hrow0⟩⟩ := id C
  refine wX9_linesTold_0 hd ?_
  simp only [HTop0.g0, HTop0.g1, HTop0.g2, HTop0.g3, HTop0.g4, HTop0.g5, HTop0.g6, HTop0.g7, HTop0.g8, HTop0.g9, HTop0.g10, HTop0.g11, HTop0.g12, HTop0.g13, HTop0.g15, HTop0.g16, HTop0.i, HL0.g0, HL0.g1, HL0.g2, HL0.g3, HL0.g4, HL0.i, HL0.r0, HL0.r1, HW0.g0, HW0.g1, HW0.g2, HW0.g3, HW0.g4, HW0.g5, HW0.g6, HW0.g7, HW0.g8, HW0.i, HW0.r0, HW0.r1, HW0.r2, HW0.r3, HW0.r4, HT0.g0, HT0.g1, HT0.g2, HT0.g3, HT0.g4, HT0.g5, HT0.g6, HT0.g7, HT0.g8, HT0.i, HT0.r0, HT0.r1, HT0.r2, HT0.r3, HT0.r4, HR0.i, HRow0.i, HX.i, HX.g1, true_and]
  refine ⟨fun hne => ?_, fun he => ?_⟩
  · have h0 : ¬ tl = 0 := fun q => hne (by rw [q]; rfl)
    rw [if_neg h0] at hq
    suffices H : ∀ f k, k + f = 6 → Q (some (.int (lnV (lnS tx tl n f k)))) h → pz_V mX9_linesTold Ex Q d bc bs 16 [(0, .ref x), (1, .int (nI k)), (2, .int (nI (7 * k)))] [] h from H 6 0 rfl hq
    clear hq
    intro f
    induction f with
    | zero =>
      intro k hk hq
      have e : k = 6 := hk
      subst e
      have hq : Q (some (.int (lnV (false, 41)))) h := hq
      rw [show lnV (false, 41) = (-42 : Int32) from by decide] at hq
      exact wX9_linesTold_16 hd ⟨fun _ => hq, fun hc => absurd (nI_le (a := 41) (b := 42) (by decide) (by decide)) hc⟩
    | succ f ih =>
      intro k hk hq
      unfold lnS at hq
      have e6 : nI (7 * k) + (6 : Int32) = nI (7 * k + 6) := nI_add (7 * k) 6
      have e7 : nI (7 * k) + (7 : Int32) = nI (7 * (k + 1)) := nI_add (7 * k) 7
      refine wX9_linesTold_16 hd ⟨fun hc => absurd hc (nI_ge (b := 41) (by omega) (by decide)), fun _ => ?_⟩
      simp only [HTop0.g0, HTop0.g1, HTop0.g2, HTop0.g3, HTop0.g4, HTop0.g5, HTop0.g6, HTop0.g7, HTop0.g8, HTop0.g9, HTop0.g10, HTop0.g11, HTop0.g12, HTop0.g13, HTop0.g15, HTop0.g16, HTop0.i, HL0.g0, HL0.g1, HL0.g2, HL0.g3, HL0.g4, HL0.i, HL0.r0, HL0.r1, HW0.g0, HW0.g1, HW0.g2, HW0.g3, HW0.g4, HW0.g5, HW0.g6, HW0.g7, HW0.g8, HW0.i, HW0.r0, HW0.r1, HW0.r2, HW0.r3, HW0.r4, HT0.g0, HT0.g1, HT0.g2, HT0.g3, HT0.g4, HT0.g5, HT0.g6, HT0.g7, HT0.g8, HT0.i, HT0.r0, HT0.r1, HT0.r2, HT0.r3, HT0.r4, HR0.i, HRow0.i, nI_add, e6, e7, nI_1, true_and]
      refine t_lineFault C HX hx ht (by omega) (by omega) (by omega) ⟨_, rfl, ?_⟩
      cases hf : lineF tx tl (7 * k) (n + k) with
      | some q =>
        rw [hf] at hq
        have := lineF_lt hf
        exact ⟨fun hc => absurd hc (nI_pos (by omega)), fun _ => hq⟩
      | none =>
        rw [hf] at hq
        dsimp only at hq
        refine ⟨fun _ => ?_, fun hc => absurd (by decide) hc⟩
        simp only [HTop0.g0, HTop0.g1, HTop0.g2, HTop0.g3, HTop0.g4, HTop0.g5, HTop0.g6, HTop0.g7, HTop0.g8, HTop0.g9, HTop0.g10, HTop0.g11, HTop0.g12, HTop0.g13, HTop0.g15, HTop0.g16, HTop0.i, HL0.g0, HL0.g1, HL0.g2, HL0.g3, HL0.g4, HL0.i, HL0.r0, HL0.r1, HW0.g0, HW0.g1, HW0.g2, HW0.g3, HW0.g4, HW0.g5, HW0.g6, HW0.g7, HW0.g8, HW0.i, HW0.r0, HW0.r1, HW0.r2, HW0.r3, HW0.r4, HT0.g0, HT0.g1, HT0.g2, HT0.g3, HT0.g4, HT0.g5, HT0.g6, HT0.g7, HT0.g8, HT0.i, HT0.r0, HT0.r1, HT0.r2, HT0.r3, HT0.r4, HR0.i, HRow0.i, HX.i, HX.g1, true_and]
        refine ⟨fun hne6 => ?_, fun he6 => ?_⟩
        · have h6 : ¬ tl = 7 * k + 6 := fun q => hne6 (by rw [q])
          rw [if_neg h6] at hq
          refine t_at (lim := 41) HX hx ht (by omega) (by omega) ⟨_, rfl, ⟨fun h59 => ?_, fun h59 => ?_⟩⟩
          · rw [if_neg (fun q => q h59)] at hq
            exact ih (k + 1) (by omega) hq
          · rw [if_pos h59] at hq
            exact hq
        · have h6 : tl = 7 * k + 6 := (nI_inj' (by omega) (by omega)).mp he6
          rw [if_pos h6] at hq
          exact hq
  · have h0 : tl = 0 := (nI_inj' (b := 0) (by omega) (by decide)).mp he
    rw [if_pos h0] at hq
    exact hq
abbrev LL (x : Nat) : List Nat := [x + 5, x + 6, x + 7, x + 10, x + 11, x + 12, x + 13, x + 14, x + 15]
theorem CQ.setL {br' dn' : Nat → Int32} {n' : Nat} (C : CQ h x rF n br dn W T rv rw) (hF : Fr [x + 5, x + 6, x + 7] h h') (HL' : ∃ ru nx, Lnd h' (x + 5) br' dn' ru nx n') (hn' : n' ≤ 6) : CQ h' x rF n' br' dn' W T rv rw := by
  obtain ⟨hr_, hn_, hWo_, hTo_, ⟨rO_, td_, ks_, dw_, HTop_⟩, ⟨ru_, nx_, HL_⟩, HW_, HT_, ⟨pa_, sk_, th_, len_, src_, at_, HR_, hv_⟩, ⟨nu_, HRow_, hrow_⟩⟩ := id C
  exact ⟨hr_, hn', hWo_, hTo_, ⟨rO_, td_, ks_, dw_, HTop_.fr hF (by simp <;> omega)⟩, HL', HW_.fr hF (by intro b hb; simp at hb; omega), HT_.fr hF (by intro b hb; simp at hb; omega), ⟨pa_, sk_, th_, len_, src_, at_, HR_.fr hF (by intro b hb; simp at hb; omega), hv_⟩, ⟨nu_, HRow_.fr hF (by intro b hb; simp at hb; omega), hrow_⟩⟩
theorem t_addLake {k : Nat} (C : CQ h x rF n br dn W T rv rw) (HX : Txt h (x + 1) sg tl) (hx : TxR sg tx) (ht : tl ≤ 80) (hk : k < 6) (hn6 : n < 6) (hd : 2 ≤ d) (hq : ∀ h', CQ h' x rF (n + 1) (upd br n (lnBr tx tl (7 * k))) (upd dn n (lnDn tx tl (7 * k))) (lnW tx tl (7 * k) n W) T rv rw → Fr (LL x) h h' → Q none h') : pz_V mX9_addLake Ex Q d bc bs 0 [(0, .ref x), (1, .int (nI (7 * k)))] [] h := by
  have v6 : vp_in (nI n) 6 := vin hn6 (by decide)
  have nXw : ∀ {b : Nat}, b ∈ [x + 10, x + 11, x + 12, x + 13, x + 14, x + 15] → b < x + 1 ∨ x + 1 + 2 ≤ b := by intro b hb; simp at hb; omega
  have dig : ∀ {h1 : pz_H} {W1 : pW} (i : Nat), i < 6 → CQ h1 x rF n br dn W1 T rv rw → Txt h1 (x + 1) sg tl → ∀ {K : Int32 → pz_H → Prop}, K (sgn tx tl 80 (7 * k + i) - 48) h1 → pz_is h1 x 9 ∧ (pz_ki mX9_digitAt 1 0 0 (.ref x :: [.int (nI (7 * k) + nI i)]) h1 K) := by
    intro h1 W1 i hi C1 HX1 K hk1
    obtain ⟨hr1, hn1, hWo1, hTo1, ⟨rO1, td1, ks1, dw1, HTop1⟩, ⟨ru1, nx1, HL1⟩, HW1, HT1, ⟨pa1, sk1, th1, len1, src1, at1, HR1, hv1⟩, ⟨nu1, HRow1, hrow1⟩⟩ := id C1
    refine ⟨HTop1.i.mpr trivial, wX9_digitAt_0 (Nat.le_refl _) (HTop1.g0.mpr ⟨HX1.i.mpr trivial, ?_⟩)⟩
    rw [nI_add]
    exact t_at (lim := 80) HX1 hx ht (by omega) (by omega) ⟨_, rfl, ⟨_, rfl, hk1⟩⟩
  have sgt : ∀ {h1 : pz_H} {W1 : pW} (i : Nat), i < 6 → CQ h1 x rF n br dn W1 T rv rw → Txt h1 (x + 1) sg tl → ∀ {K : Int32 → pz_H → Prop}, K (sL tx tl (7 * k + i)) h1 → pz_gR h1 x 9 0 (fun (a1 : Nat) => pz_is h1 a1 6 ∧ (pz_ki mX6_at 0 0 0 (.ref a1 :: [.int (nI (7 * k) + nI i), .int 41]) h1 K)) := by
    intro h1 W1 i hi C1 HX1 K hk1
    obtain ⟨hr1, hn1, hWo1, hTo1, ⟨rO1, td1, ks1, dw1, HTop1⟩, ⟨ru1, nx1, HL1⟩, HW1, HT1, ⟨pa1, sk1, th1, len1, src1, at1, HR1, hv1⟩, ⟨nu1, HRow1, hrow1⟩⟩ := id C1
    refine HTop1.g0.mpr ⟨HX1.i.mpr trivial, ?_⟩
    rw [nI_add]
    exact t_at (lim := 41) HX1 hx ht (by omega) (by omega) ⟨_, rfl, hk1⟩
  have e0 : nI (7 * k) = nI (7 * k) + nI 0 := (nI_add (7 * k) 0).symm
  obtain ⟨hr0, hn0, hWo0, hTo0, ⟨rO0, td0, ks0, dw0, HTop0⟩, ⟨ru0, nx0, HL0⟩, HW0, HT0, ⟨pa0, sk0, th0, len0, src0, at0, HR0, hv0⟩, ⟨nu0, HRow0, hrow0⟩⟩ := id C
  refine wX9_addLake_0 hd ?_
  simp only [HTop0.g0, HTop0.g1, HTop0.g2, HTop0.g3, HTop0.g4, HTop0.g5, HTop0.g6, HTop0.g7, HTop0.g8, HTop0.g9, HTop0.g10, HTop0.g11, HTop0.g12, HTop0.g13, HTop0.g15, HTop0.g16, HTop0.i, HL0.g0, HL0.g1, HL0.g2, HL0.g3, HL0.g4, HL0.i, HL0.r0, HL0.r1, HW0.g0, HW0.g1, HW0.g2, HW0.g3, HW0.g4, HW0.g5, HW0.g6, HW0.g7, HW0.g8, HW0.i, HW0.r0, HW0.r1, HW0.r2, HW0.r3, HW0.r4, HT0.g0, HT0.g1, HT0.g2, HT0.g3, HT0.g4, HT0.g5, HT0.g6, HT0.g7, HT0.g8, HT0.i, HT0.r0, HT0.r1, HT0.r2, HT0.r3, HT0.r4, HR0.i, HRow0.i, true_and]
  refine ⟨fun _ => ?_, fun hc => absurd (nI_lt (b := 6) hn6 (by decide)) hc⟩
  have D0 := fun {K : Int32 → pz_H → Prop} (hK : K (sgn tx tl 80 (7 * k + 0) - 48) h) => dig 0 (by decide) C HX (K := K) hK
  rw [← e0] at D0
  refine (D0 ⟨HTop0.i.mpr trivial, (dig 1 (by decide) C HX (sgt 5 (by decide) C HX (HTop0.g3.mpr (HW0.g2.mpr ⟨HTop0.i.mpr trivial, (dig 2 (by decide) C HX (HW0.s2.mpr ⟨v6, ?_⟩)).2⟩)))).2⟩).2
  rw [clamp (by omega)]
  have fT : ∀ {h1 : pz_H} {l : List Nat}, Fr l h h1 → (∀ b ∈ l, b ∈ [x + 10, x + 11, x + 12, x + 13, x + 14, x + 15]) → Txt h1 (x + 1) sg tl := fun hF hl => HX.fr hF (fun b hb => nXw (hl b hb))
  have HW1 := HW0.v2 (upd W.tp n (sgn tx tl 80 (7 * k + 2) - 48))
  have hF1 : Fr [x + 10, x + 11, x + 12, x + 13, x + 14, x + 15] h (pz_put h (x + 10 + 3) (aI 6 (upd W.tp n (sgn tx tl 80 (7 * k + 2) - 48)))) := fr_1 (by simp)
  have ok1 := hWo0.sTp (v := sgn tx tl 80 (7 * k + 2) - 48) hn6
  have C1 := C.setW hF1 HW1 ok1
  have HX1 := fT hF1 (fun b hb => hb)
  generalize pz_put h (x + 10 + 3) (aI 6 (upd W.tp n (sgn tx tl 80 (7 * k + 2) - 48))) = h1 at HW1 hF1 C1 HX1 ⊢
  have HT1 : Top h1 x rF rO0 td0 ks0 dw0 := HTop0.fr hF1 (by simp <;> omega)
  refine HT1.g3.mpr (HW1.g3.mpr ⟨HT1.i.mpr trivial, (dig 3 (by decide) C1 HX1 (HW1.s3.mpr ⟨v6, ?_⟩)).2⟩)
  rw [clamp (by omega)]
  have HW2 := HW1.v3 (upd W.lk n (sgn tx tl 80 (7 * k + 3) - 48))
  have hF2 : Fr [x + 10, x + 11, x + 12, x + 13, x + 14, x + 15] h (pz_put h1 (x + 10 + 4) (aI 6 (upd W.lk n (sgn tx tl 80 (7 * k + 3) - 48)))) := hF1.put (by simp)
  have ok2 := ok1.sLk (v := sgn tx tl 80 (7 * k + 3) - 48) hn6
  have C2 := C.setW hF2 HW2 ok2
  have HX2 := fT hF2 (fun b hb => hb)
  generalize pz_put h1 (x + 10 + 4) (aI 6 (upd W.lk n (sgn tx tl 80 (7 * k + 3) - 48))) = h2 at HW2 hF2 C2 HX2 ⊢
  have HT2 : Top h2 x rF rO0 td0 ks0 dw0 := HTop0.fr hF2 (by simp <;> omega)
  refine HT2.g3.mpr (HW2.g4.mpr (sgt 4 (by decide) C2 HX2 (HW2.s4.mpr ⟨v6, ?_⟩)))
  rw [clamp (by omega)]
  have HW3 := HW2.v4 (upd W.kg n (sL tx tl (7 * k + 4) - 97))
  have hF3 : Fr [x + 10, x + 11, x + 12, x + 13, x + 14, x + 15] h (pz_put h2 (x + 10 + 5) (aI 6 (upd W.kg n (sL tx tl (7 * k + 4) - 97)))) := hF2.put (by simp)
  have ok3 := ok2.sKg (v := sL tx tl (7 * k + 4) - 97) hn6
  generalize pz_put h2 (x + 10 + 5) (aI 6 (upd W.kg n (sL tx tl (7 * k + 4) - 97))) = h3 at HW3 hF3 ⊢
  have HT3 : Top h3 x rF rO0 td0 ks0 dw0 := HTop0.fr hF3 (by simp <;> omega)
  refine HT3.g3.mpr (HW3.g0.mpr (HW3.s0.mpr ⟨v6, ?_⟩))
  rw [clamp (by omega)]
  have HW4 := HW3.v0 (upd W.lv n (lnBr tx tl (7 * k)))
  have hF4 : Fr [x + 10, x + 11, x + 12, x + 13, x + 14, x + 15] h (pz_put h3 (x + 10 + 1) (aI 6 (upd W.lv n (lnBr tx tl (7 * k))))) := hF3.put (by simp)
  have ok4 := ok3.sLv (v := lnBr tx tl (7 * k)) hn6
  have eb : (10 : Int32) * (sgn tx tl 80 (7 * k + 0) - 48) + (sgn tx tl 80 (7 * k + 1) - 48) = lnBr tx tl (7 * k) := rfl
  rw [eb]
  generalize pz_put h3 (x + 10 + 1) (aI 6 (upd W.lv n (lnBr tx tl (7 * k)))) = h4 at HW4 hF4 ⊢
  have HT4 : Top h4 x rF rO0 td0 ks0 dw0 := HTop0.fr hF4 (by simp <;> omega)
  refine HT4.g3.mpr (HW4.g1.mpr (HW4.s1.mpr ⟨v6, ?_⟩))
  rw [clamp (by omega)]
  have HW5 := HW4.v1 (upd W.hr n 0)
  have hF5 : Fr [x + 10, x + 11, x + 12, x + 13, x + 14, x + 15] h (pz_put h4 (x + 10 + 2) (aI 6 (upd W.hr n 0))) := hF4.put (by simp)
  have ok5 := ok4.sHr (v := 0) hn6
  have C5 := C.setW (W' := lnW tx tl (7 * k) n W) hF5 HW5 ok5
  generalize pz_put h4 (x + 10 + 2) (aI 6 (upd W.hr n 0)) = h5 at HW5 hF5 C5 ⊢
  have HT5 : Top h5 x rF rO0 td0 ks0 dw0 := HTop0.fr hF5 (by simp <;> omega)
  have HL5 := HL0.fr hF5 (by intro b hb; simp at hb; omega)
  have add : ∀ (v : Int32), v = lnDn tx tl (7 * k) → pz_kv mX1_add 0 0 0 (.ref (x + 5) :: [.int (lnBr tx tl (7 * k)), .int v]) h5 (fun (h33 : pz_H) => Q none h33) := by
    intro v hv
    subst hv
    refine wX1_add_0 ?_
    simp only [HL5.g4, HL5.g0, HL5.s0, v6, true_and, clamp (i := n) (by omega)]
    refine ⟨fun hc => absurd hc (nI_ge (b := 6) hn6 (by decide)), fun _ => ?_⟩
    have HL6 := HL5.v0 (upd br n (lnBr tx tl (7 * k)))
    simp only [HL6.g4, HL6.g1, HL6.s1, v6, true_and, clamp (i := n) (by omega)]
    have HL7 := HL6.v1 (upd dn n (lnDn tx tl (7 * k)))
    simp only [HL7.g4, HL7.p4, nI_1]
    have HL8 := HL7.u4 (n + 1)
    have hF8 : Fr [x + 5, x + 6, x + 7] h5 _ := (((Fr.rf (h := h5)).put (b := x + 5 + 1) (e := aI 6 (upd br n (lnBr tx tl (7 * k)))) (by simp)).put (b := x + 5 + 2) (e := aI 6 (upd dn n (lnDn tx tl (7 * k)))) (by simp)).put (b := x + 5) (e := aO 1 [.ref (x + 5 + 1), .ref (x + 5 + 2), .ref (x + 5 + 3), .ref (x + 5 + 4), .int (nI (n + 1))]) (by simp)
    refine hq _ (C5.setL hF8 ⟨_, _, HL8⟩ (by omega)) ?_
    exact (hF5.mono (l2 := LL x) (by intro b hb; simp at hb ⊢; omega)).tr hF8 (by intro b hb; simp at hb ⊢; omega)
  refine HT5.g2.mpr ⟨fun hne => ⟨HL5.i.mpr trivial, add _ ?_⟩, fun he => ⟨HL5.i.mpr trivial, add _ ?_⟩⟩
  · unfold lnDn; rw [if_neg hne]
  · unfold lnDn; rw [if_pos he]
theorem CRest.nbd {n' : Nat} {br' dn' : Nat → Int32} {W' : pW} (H : CRest h x rF rO td dw S) : CRest h x rF rO td dw ((((S.sN n').sBr br').sDn dn').sW W') := H
theorem lnS_ok {n : Nat} (hn : n ≤ 6) : ∀ f k r, lnS tx tl n f k = r → k + f = 6 → (r.1 = true → n + r.2 ≤ 6 ∧ r.2 ≤ 6 ∧ 0 < r.2 ∧ tl = 7 * r.2 - 1) ∧ r.2 ≤ 60
  | 0, k, r, h, hk => by
    subst h
    exact ⟨fun q => (Bool.noConfusion q), by show 41 ≤ 60; decide⟩
  | f + 1, k, r, h, hk => by
    unfold lnS at h
    cases hf : lineF tx tl (7 * k) (n + k) with
    | some q =>
      rw [hf] at h
      subst h
      have := lineF_lt hf
      exact ⟨fun q => (Bool.noConfusion q), by show q ≤ 60; omega⟩
    | none =>
      rw [hf] at h
      dsimp only at h
      have h6 : ¬ 6 ≤ n + k := fun q => by
        unfold lineF at hf
        rw [if_pos q] at hf
        cases hf
      by_cases c1 : tl = 7 * k + 6
      · rw [if_pos c1] at h
        subst h
        exact ⟨fun _ => ⟨by show n + (k + 1) ≤ 6; omega, by show k + 1 ≤ 6; omega, Nat.succ_pos k, by show tl = 7 * (k + 1) - 1; omega⟩, by show k + 1 ≤ 60; omega⟩
      · rw [if_neg c1] at h
        by_cases c2 : ¬ sL tx tl (7 * k + 6) = 59
        · rw [if_pos c2] at h
          subst h
          exact ⟨fun q => (Bool.noConfusion q), by show 7 * k + 6 ≤ 60; omega⟩
        · rw [if_neg c2] at h
          exact lnS_ok hn f (k + 1) r h (by omega)
theorem addLs_n {S : pS} : ∀ k, S.n + k ≤ 6 → (addLs k S).n = S.n + k ∧ (addLs k S).tx = S.tx ∧ (addLs k S).tl = S.tl ∧ (addLs k S).rv = S.rv ∧ (addLs k S).rw = S.rw ∧ (addLs k S).R = S.R ∧ (addLs k S).U = S.U ∧ (addLs k S).K = S.K ∧ (addLs k S).ks = S.ks
  | 0, _ => ⟨rfl, rfl, rfl, rfl, rfl, rfl, rfl, rfl, rfl⟩
  | k + 1, h => by
    obtain ⟨g1, g2, g3, g4, g5, g6, g7, g8, g9⟩ := addLs_n (S := S) k (by omega)
    have e : addLs (k + 1) S = addL k (addLs k S) := rfl
    rw [e]
    unfold addL
    rw [if_pos (by omega)]
    exact ⟨by show (addLs k S).n + 1 = _; omega, g2, g3, g4, g5, g6, g7, g8, g9⟩
theorem C_lakes (I : CInv h x S) (O : SOk S) (hd : 3 ≤ d) (hq : ∀ h', CInv h' x (o_lakes S).2 → FC x h h' → Q (some (.int (o_lakes S).1)) h') : pz_V mX9_lakes Ex Q d bc bs 0 [(0, .ref x)] [] h := by
  obtain ⟨rF, rO, td, dw, T, C, H⟩ := I
  have hr := C.1
  have hn := C.2.1
  have ht := O.2.1
  obtain ⟨sg, HX, hx⟩ := H.2.2.1
  unfold o_lakes at hq
  refine wX9_lakes_0 hd ⟨H.2.1.i.mpr trivial, t_linesTold C HX hx ht (by omega) ⟨_, rfl, ?_⟩⟩
  have none_ : ∀ v : Int32, v ≤ 0 → (∀ h', CInv h' x (S.sTl 0) → FC x h h' → Q (some (.int v)) h') → pz_V mX9_lakes Ex Q d bc bs 7 [(0, .ref x), (1, .int v), (2, .int 0)] [] h := by
    intro v hv hq2
    exact wX9_lakes_7 hd ⟨fun _ => q_clrT C H (fun h1 C1 H1 f1 _ => ⟨fun _ => hq2 h1 ⟨rF, rO, td, dw, T, C1, H1⟩ f1, fun hc => absurd hv hc⟩), fun hc => absurd hv hc⟩
  by_cases h0 : S.tl = 0
  · rw [if_pos h0] at hq ⊢
    refine none_ 0 (by decide) (fun h' I' f' => hq h' ?_ f')
    have e : S.sTl 0 = S := by
      obtain ⟨a1, a2, a3, a4, a5, a6, a7⟩ := S
      have : a6 = 0 := h0
      subst this
      rfl
    rw [e] at I'
    exact I'
  · rw [if_neg h0] at hq ⊢
    dsimp only at hq
    obtain ⟨k1, k2⟩ := lnS_ok (tx := S.tx) (tl := S.tl) hn 6 0 _ rfl rfl
    generalize lnS S.tx S.tl S.n 6 0 = r at hq k1 k2 ⊢
    obtain ⟨b, m⟩ := r
    cases b with
    | false =>
      have hq : ∀ h', CInv h' x (S.sTl 0) → FC x h h' → Q (some (.int (-1 - nI m))) h' := hq
      have k2 : m ≤ 60 := k2
      refine none_ (-1 - nI m) ?_ hq
      have := (Bt.lit (n := m) (by omega))
      have hb := Bt.sub (x := -1) (y := nI m) (a := -1) (b := -1) ⟨by decide, by decide⟩ this (by omega) (by omega)
      rw [le_i]
      have h2 := hb.2
      have e0 : (0 : Int32).toInt = 0 := by decide
      omega
    | true =>
      have hq : ∀ h', CInv h' x ((((addLs m S).sTl 0).sU []).sKs 0) → FC x h h' → Q (some (.int (nI m))) h' := hq
      obtain ⟨m1, m2, m3, m4⟩ : S.n + m ≤ 6 ∧ m ≤ 6 ∧ 0 < m ∧ S.tl = 7 * m - 1 := k1 rfl
      suffices L : ∀ q k (h1 : pz_H), k + q = m → CQ h1 x rF (addLs k S).n (addLs k S).br (addLs k S).dn (addLs k S).W T (addLs k S).rv (addLs k S).rw → CRest h1 x rF rO td dw (addLs k S) → FC x h h1 → pz_V mX9_lakes Ex Q d bc bs 7 [(0, .ref x), (1, .int (nI m)), (2, .int (nI k))] [] h1 from L m 0 h (Nat.zero_add _) C H FC.rf
      intro q
      induction q with
      | zero =>
        intro k h1 hk C1 H1 f1
        have e : k = m := hk
        subst e
        refine wX9_lakes_7 hd ⟨fun _ => q_clrT (S := addLs k S) C1 H1 (fun h2 C2 H2 f2 _ => ⟨fun hc => absurd hc (nI_nle m3 (by omega)), fun _ => ?_⟩), fun hc => absurd (nI_le (Nat.le_refl _) (by omega)) hc⟩
        have HT2 := H2.2.1
        have hP2 := H2.2.2.2.2.1
        refine HT2.g6.mpr ⟨hP2.st.i.mpr trivial, hP2.st.p1.mpr ?_⟩
        have hF3 : Fr [x + 28] h2 (pz_put h2 (x + 28) (aO 2 [.ref (x + 28 + 1), .int (nI 0)])) := fr_1 (by simp)
        have C3 := C2.frX hF3 (by intro b hb; simp at hb; omega)
        have H3 : CRest (pz_put h2 (x + 28) (aO 2 [.ref (x + 28 + 1), .int (nI 0)])) x rF rO td dw (((addLs k S).sTl 0).sU []) := by
          obtain ⟨hh1, hh2, ⟨zhsg, hh3, hh3'⟩, ⟨zhB, hh4, hh4'⟩, hh5, hh6, ⟨zhch, zhne, zhof, hh7⟩, ⟨zhg, hh8, hh8'⟩, hh9, hh10, ⟨zhb1, hh11⟩, ⟨zhb2, hh12⟩, ⟨zhpa, zhsk, zhth, zhlen, zhsrc, zhat, hh13⟩, hh14⟩ := id H2
          exact ⟨hh1, hh2.fr hF3 (by simp <;> omega), ⟨zhsg, hh3.fr hF3 (by intro b hb; simp at hb; omega), hh3'⟩, ⟨zhB, hh4.fr hF3 (by intro b hb; simp at hb; omega), hh4'⟩, hh5.len0, hh6.fr hF3 (by intro b hb; simp at hb; omega), ⟨zhch, zhne, zhof, hh7.fr hF3 (by intro b hb; simp at hb; omega)⟩, ⟨zhg, (hF3.2 _ (by simp <;> omega)).trans hh8, hh8'⟩, ⟨hh9.1.fr hF3 (by intro b hb; simp at hb; omega), hh9.2⟩, ⟨hh10.1.fr hF3 (by intro b hb; simp at hb; omega), hh10.2⟩, ⟨zhb1, (hF3.2 _ (by simp <;> omega)).trans hh11⟩, ⟨zhb2, (hF3.2 _ (by simp <;> omega)).trans hh12⟩, ⟨zhpa, zhsk, zhth, zhlen, zhsrc, zhat, hh13.fr hF3 (by intro b hb; simp at hb; omega)⟩, tdFr hh14 hF3 (by intro b hb; simp at hb; omega)⟩
        show pz_pF (pz_put h2 (x + 28) (aO 2 [.ref (x + 28 + 1), .int (nI 0)])) x 9 15 (.int 0) _
        generalize pz_put h2 (x + 28) (aO 2 [.ref (x + 28 + 1), .int (nI 0)]) = h3 at hF3 C3 H3 ⊢
        have HT3 := H3.2.1
        refine HT3.p15.mpr ?_
        have HT4 := HT3.u15 0
        have hF4 : Fr [x] h3 (pz_put h3 x (aO 9 [.ref (x + 1), .ref (x + 3), .ref (x + 5), .ref (x + 10), .ref (x + 16), .ref (x + 22), .ref (x + 28), .ref (x + 102), .ref (x + 106), .ref (x + 109), .ref (x + 110), .ref (x + 111), .ref rF, .ref rO, va_rf td, .int (nI 0), .int dw])) := fr_1 (by simp)
        have C4 := C3.top hF4 HT4
        have H4 : CRest (pz_put h3 x (aO 9 [.ref (x + 1), .ref (x + 3), .ref (x + 5), .ref (x + 10), .ref (x + 16), .ref (x + 22), .ref (x + 28), .ref (x + 102), .ref (x + 106), .ref (x + 109), .ref (x + 110), .ref (x + 111), .ref rF, .ref rO, va_rf td, .int (nI 0), .int dw])) x rF rO td dw ((((addLs k S).sTl 0).sU []).sKs 0) := by
          obtain ⟨hh1, hh2, ⟨zhsg, hh3, hh3'⟩, ⟨zhB, hh4, hh4'⟩, hh5, hh6, ⟨zhch, zhne, zhof, hh7⟩, ⟨zhg, hh8, hh8'⟩, hh9, hh10, ⟨zhb1, hh11⟩, ⟨zhb2, hh12⟩, ⟨zhpa, zhsk, zhth, zhlen, zhsrc, zhat, hh13⟩, hh14⟩ := id H3
          exact ⟨hh1, HT4, ⟨zhsg, hh3.fr hF4 (by intro b hb; simp at hb; omega), hh3'⟩, ⟨zhB, hh4.fr hF4 (by intro b hb; simp at hb; omega), hh4'⟩, hh5.fr hF4 (by intro b hb; simp at hb; omega), hh6.fr hF4 (by intro b hb; simp at hb; omega), ⟨zhch, zhne, zhof, hh7.fr hF4 (by intro b hb; simp at hb; omega)⟩, ⟨zhg, (hF4.2 _ (by simp <;> omega)).trans hh8, hh8'⟩, ⟨hh9.1.fr hF4 (by intro b hb; simp at hb; omega), hh9.2⟩, ⟨hh10.1.fr hF4 (by intro b hb; simp at hb; omega), hh10.2⟩, ⟨zhb1, (hF4.2 _ (by simp <;> omega)).trans hh11⟩, ⟨zhb2, (hF4.2 _ (by simp <;> omega)).trans hh12⟩, ⟨zhpa, zhsk, zhth, zhlen, zhsrc, zhat, hh13.fr hF4 (by intro b hb; simp at hb; omega)⟩, tdFr hh14 hF4 (by intro b hb; simp at hb; omega)⟩
        exact hq _ ⟨rF, rO, td, dw, T, C4, H4⟩ (((f1.tr f2).tr (FC.of hF3 (by intro b hb; simp at hb; omega))).tr (FC.of hF4 (by intro b hb; simp at hb; omega)))
      | succ q ih =>
        intro k h1 hk C1 H1 f1
        obtain ⟨g1, g2, g3, g4, g5, -⟩ := addLs_n (S := S) k (by omega)
        have eA : addLs (k + 1) S = ((((addLs k S).sN ((addLs k S).n + 1)).sBr (upd (addLs k S).br (addLs k S).n (lnBr (addLs k S).tx (addLs k S).tl (7 * k)))).sDn (upd (addLs k S).dn (addLs k S).n (lnDn (addLs k S).tx (addLs k S).tl (7 * k)))).sW (lnW (addLs k S).tx (addLs k S).tl (7 * k) (addLs k S).n (addLs k S).W) := by
          show addL k (addLs k S) = _
          unfold addL
          rw [if_pos (by omega)]
        have g := fun h' => ih (k + 1) h' (by omega)
        rw [eA] at g
        obtain ⟨sg1, HX1, hx1⟩ := H1.2.2.1
        refine wX9_lakes_7 hd ⟨fun hc => absurd hc (nI_ge (by omega) (by omega)), fun _ => ⟨H1.2.1.i.mpr trivial, ?_⟩⟩
        have e7 : nI k * (7 : Int32) = nI (7 * k) := by
          rw [show (7 : Int32) = nI 7 from rfl, mul_nI]
          congr 1
          omega
        rw [e7, nI_1]
        refine t_addLake C1 HX1 hx1 (by rw [g3]; exact ht) (by omega) (by omega) (by omega) (fun h2 C2 hF2 => ⟨rfl, ?_⟩)
        exact g h2 C2 ((H1.fr hF2 (by intro b hb; simp at hb; omega)).nbd) (f1.tr (FC.of hF2 (by intro b hb; simp at hb; omega)))
end CL
