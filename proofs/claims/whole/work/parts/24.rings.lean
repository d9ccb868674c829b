/-! ===== rings; leaks: spec, and the class ===== -/
/-- rings that were read: lakes, days, levels, how many -/
abbrev pG : Type := (Nat → Int32) × (Nat → Int32) × (Nat → Int32) × Nat
abbrev pG.la (R : pG) : Nat → Int32 := R.1
abbrev pG.da (R : pG) : Nat → Int32 := R.2.1
abbrev pG.le (R : pG) : Nat → Int32 := R.2.2.1
abbrev pG.len (R : pG) : Nat := R.2.2.2
abbrev RngT (h : pz_H) (a : Nat) (R : pG) : Prop := Rng h a R.la R.da R.le R.len
def RgsOk (n : Nat) (R : pG) : Prop := R.len ≤ 10 ∧ ∀ j, j < R.len → (∃ a, a < n ∧ R.la j = nI a) ∧ (∃ t, t ≤ 20 ∧ R.da j = nI t)
def fitD (R : pG) (t : Nat) (lv : Nat → Int32) : Bool := (List.range R.len).all (fun j => decide (¬ R.da j = nI t) || decide (lv (R.la j).toNatClampNeg = R.le j))
theorem fitD_t {R : pG} {t : Nat} {lv : Nat → Int32} : fitD R t lv = true ↔ ∀ j, j < R.len → R.da j = nI t → lv (R.la j).toNatClampNeg = R.le j := by
  unfold fitD
  rw [List.all_eq_true]
  refine ⟨fun H j hj hd => ?_, fun H j hj => ?_⟩
  · have := H j (List.mem_range.mpr hj)
    simpa [hd] using this
  · have := H j (List.mem_range.mp hj)
    by_cases hd : R.da j = nI t
    · simp [this hd]
    · simp [hd]
section SP
variable (rv : pRV) (br dn : Nat → Int32) (n : Nat) (R : pG) (W : pW)
def fitAll (T : pW) : Bool := (List.range 21).all (fun t => fitD R t (daysW rv br dn n t T).lv)
def leakW (i m : Nat) : pW := W.sLk (upd W.lk i (W.lk i + nI m))
/-- the leak of number k: lake k / 9, 1 + k % 9 more -/
def leakK (k : Nat) : pW := leakW W (k / 9) (k % 9 + 1)
def lkS : Nat → pA
  | 0 => (0, [if fitAll rv br dn n R W = true then 1 else 0])
  | k + 1 => if fitAll rv br dn n R (leakK W k) = true then ((lkS k).1 + 1, if (lkS k).1 = 0 then (lkS k).2 ++ [(nI (k / 9)).toInt64] ++ [(nI (k % 9 + 1)).toInt64] else (lkS k).2) else lkS k
def s_leaks : pA := lkS rv br dn n R W (9 * n)
end SP
theorem fitAll_t {rv : pRV} {br dn : Nat → Int32} {n : Nat} {R : pG} {T : pW} : fitAll rv br dn n R T = true ↔ ∀ t, t < 21 → fitD R t (daysW rv br dn n t T).lv = true := by
  unfold fitAll
  rw [List.all_eq_true]
  exact ⟨fun H t ht => H t (List.mem_range.mpr ht), fun H t ht => H t (List.mem_range.mp ht)⟩
theorem lkS_ok {rv : pRV} {br dn : Nat → Int32} {n : Nat} {R : pG} {W : pW} : ∀ k, k < 1000 → ∃ c, c ≤ k ∧ (lkS rv br dn n R W k).1 = nI c ∧ (c = 0 → (lkS rv br dn n R W k).2.length = 1) ∧ (lkS rv br dn n R W k).2.length ≤ 3
  | 0, _ => ⟨0, Nat.le_refl _, rfl, fun _ => rfl, by show 1 ≤ 3; decide⟩
  | k + 1, hk => by
    obtain ⟨c, h1, h2, h3, h4⟩ := lkS_ok (rv := rv) (br := br) (dn := dn) (n := n) (R := R) (W := W) k (by omega)
    unfold lkS
    split
    · refine ⟨c + 1, by omega, by rw [h2, nI_1], fun q => by omega, ?_⟩
      dsimp only
      split
      · rename_i h0
        rw [h2] at h0
        have hc : c = 0 := by
          rcases Nat.eq_zero_or_pos c with q | q
          · exact q
          · exact absurd h0 (nI_ne0 q (by omega))
        rw [List.length_append, List.length_append, h3 hc]
        exact Nat.le_refl 3
      · exact h4
    · exact ⟨c, by omega, h2, h3, h4⟩
section CL
variable {Ex : State → Nat → Prop} {Q : Option Value → pz_H → Prop} {d bc bs : Nat} {h : pz_H} {x rF n : Nat} {br dn : Nat → Int32} {W T : pW} {rv : pRV} {rw : List Int64} {R : pG}
/-- the last day of a ring; -1 without rings -/
def lastR (R : pG) : Nat → Int32
  | 0 => -1
  | j + 1 => if lastR R j < R.da j then R.da j else lastR R j
theorem lastR_ok {R : pG} (hR : RgsOk n R) : ∀ j, j ≤ R.len → (lastR R j = -1 ∨ ∃ t, t ≤ 20 ∧ lastR R j = nI t) ∧ ∀ i, i < j → R.da i ≤ lastR R j
  | 0, _ => ⟨Or.inl rfl, fun i hi => absurd hi (Nat.not_lt_zero i)⟩
  | j + 1, hj => by
    obtain ⟨g1, g2⟩ := lastR_ok hR j (by omega)
    obtain ⟨t, ht, e⟩ := (hR.2 j (by omega)).2
    unfold lastR
    split
    · rename_i hlt
      refine ⟨Or.inr ⟨t, ht, e⟩, fun i hi => ?_⟩
      rcases Nat.lt_or_ge i j with q | q
      · exact Int32.le_trans (g2 i q) (Int32.le_of_lt hlt)
      · have : i = j := by omega
        subst this
        exact Int32.le_refl _
    · rename_i hlt
      refine ⟨g1, fun i hi => ?_⟩
      rcases Nat.lt_or_ge i j with q | q
      · exact g2 i q
      · have : i = j := by omega
        subst this
        exact Int32.not_lt.mp hlt
theorem t_last {a : Nat} (HG : RngT h a R) (hR : RgsOk n R) (hd : 1 ≤ d) (hq : Q (some (.int (lastR R R.len))) h) : pz_V mX3_lastDay Ex Q d bc bs 0 [(0, .ref a)] [] h := by
  refine wX3_lastDay_0 hd ?_
  suffices H : ∀ q j, j + q = R.len → pz_V mX3_lastDay Ex Q d bc bs 4 [(0, .ref a), (1, .int (lastR R j)), (2, .int (nI j))] [] h from H R.len 0 (Nat.zero_add _)
  have hl := hR.1
  intro q
  induction q with
  | zero =>
    intro j hj
    have e : j = R.len := hj
    subst e
    exact wX3_lastDay_4 hd (HG.g3.mpr ⟨fun _ => hq, fun hc => absurd (nI_le (Nat.le_refl _) (by omega)) hc⟩)
  | succ q ih =>
    intro j hj
    have g := ih (j + 1) (by omega)
    unfold lastR at g
    refine wX3_lastDay_4 hd (HG.g3.mpr ⟨fun hc => absurd hc (nI_ge (by omega) (by omega)), fun _ => HG.g1.mpr (HG.r1.mpr ⟨vin (by omega) (by decide), ?_⟩)⟩)
    rw [clamp (by omega), nI_1]
    exact g
theorem t_fit {a v t : Nat} {lv : Nat → Int32} (HG : RngT h a R) (HV : h.2 v = some (aI 6 lv)) (hR : RgsOk n R) (hn : n ≤ 6) (ht : t < 100) (hq : ∀ r : Int32, (r = 0 ↔ fitD R t lv = false) → Q (some (.int r)) h) : pz_V mX3_fit Ex Q d bc bs 0 [(0, .ref a), (1, .int (nI t)), (2, .ref v)] [] h := by
  refine wX3_fit_0 ?_
  have hl := hR.1
  suffices H : ∀ q j, j + q = R.len → (∀ i, i < j → R.da i = nI t → lv (R.la i).toNatClampNeg = R.le i) → pz_V mX3_fit Ex Q d bc bs 2 [(0, .ref a), (1, .int (nI t)), (2, .ref v), (3, .int (nI j))] [] h from H R.len 0 (Nat.zero_add _) (fun i hi => absurd hi (Nat.not_lt_zero i))
  intro q
  induction q with
  | zero =>
    intro j hj hall
    have e : j = R.len := hj
    subst e
    refine wX3_fit_2 (HG.g3.mpr ⟨fun _ => hq 1 ⟨fun e => absurd e (by decide), fun e => ?_⟩, fun hc => absurd (nI_le (Nat.le_refl _) (by omega)) hc⟩)
    rw [fitD_t.mpr hall] at e
    exact absurd e (by decide)
  | succ q ih =>
    intro j hj hall
    obtain ⟨⟨b, hb, eb⟩, -⟩ := hR.2 j (by omega)
    have v10 : vp_in (nI j) 10 := vin (by omega) (by decide)
    have v6 : vp_in (nI b) 6 := vin (by omega) (by decide)
    have hstep : (R.da j = nI t → lv (R.la j).toNatClampNeg = R.le j) → pz_V mX3_fit Ex Q d bc bs 2 [(0, .ref a), (1, .int (nI t)), (2, .ref v), (3, .int (nI (j + 1)))] [] h := fun hj2 => ih (j + 1) (by omega) (fun i hi hb => by
      rcases Nat.lt_or_ge i j with q | q
      · exact hall i q hb
      · have : i = j := by omega
        subst this
        exact hj2 hb)
    refine wX3_fit_2 ?_
    simp only [HG.g0, HG.g1, HG.g2, HG.g3, HG.r0, HG.r1, HG.r2, v10, true_and, clamp (i := j) (by omega), eb, lI_eq HV, rI_eq HV, v6, nI_1]
    refine ⟨fun hc => absurd hc (nI_ge (by omega) (by omega)), fun _ => ⟨fun hc => absurd hc (nI_pos (by omega)), fun _ => ⟨fun hc => absurd hc (nI_ge (b := 6) (by omega) (by decide)), fun _ => ⟨fun hne => hstep (fun q => absurd q hne), fun he => ⟨fun hx => hstep (fun _ => by rw [eb]; exact hx), fun hx => hq 0 ⟨fun _ => bool_f (fun H => hx (by have := fitD_t.mp H j (by omega) he; rw [eb] at this; exact this)), fun _ => rfl⟩⟩⟩⟩⟩⟩
/-- a trial that fits the rings -/
theorem q_fits (C : CQ h x rF n br dn W T rv rw) (HG : RngT h (x + 102) R) (hR : RgsOk n R) (hd : 4 ≤ d) (hq : ∀ (r : Int32) h' T', (r = 0 ↔ fitAll rv br dn n R T = false) → CQ h' x rF n br dn W T' rv rw → Fr (SC x rF) h h' → Q (some (.int r)) h') : pz_V mX9_trialFitsRings Ex Q d bc bs 0 [(0, .ref x)] [] h := by
  obtain ⟨hr0, hn0, hWo0, hTo0, ⟨rO0, td0, ks0, dw0, HTop0⟩, ⟨ru0, nx0, HL0⟩, HW0, HT0, ⟨pa0, sk0, th0, len0, src0, at0, HR0, hv0⟩, ⟨nu0, HRow0, hrow0⟩⟩ := id C
  have nG : ∀ b ∈ SC x rF, b < x + 102 ∨ x + 102 + 4 ≤ b := by intro b hb; simp at hb; omega
  refine wX9_trialFitsRings_0 hd ?_
  simp only [HTop0.g0, HTop0.g1, HTop0.g2, HTop0.g3, HTop0.g4, HTop0.g5, HTop0.g6, HTop0.g7, HTop0.g8, HTop0.g9, HTop0.g10, HTop0.g11, HTop0.g12, HTop0.g13, HTop0.g15, HTop0.g16, HTop0.i, HL0.g0, HL0.g1, HL0.g2, HL0.g3, HL0.g4, HL0.i, HL0.r0, HL0.r1, HW0.g0, HW0.g1, HW0.g2, HW0.g3, HW0.g4, HW0.g5, HW0.g6, HW0.g7, HW0.g8, HW0.i, HW0.r0, HW0.r1, HW0.r2, HW0.r3, HW0.r4, HT0.g0, HT0.g1, HT0.g2, HT0.g3, HT0.g4, HT0.g5, HT0.g6, HT0.g7, HT0.g8, HT0.i, HT0.r0, HT0.r1, HT0.r2, HT0.r3, HT0.r4, HR0.i, HRow0.i, HG.i, true_and]
  refine t_last HG hR (by omega) ⟨_, rfl, ?_⟩
  obtain ⟨l1, l2⟩ := lastR_ok hR R.len (Nat.le_refl _)
  have yes : ∀ (h' : pz_H) (T' : pW), CQ h' x rF n br dn W T' rv rw → Fr (SC x rF) h h' → (∀ t, t < 21 → fitD R t (daysW rv br dn n t T).lv = true) → Q (some (.int 1)) h' := fun h' T' C' hF' hall => hq 1 h' T' ⟨fun e => absurd e (by decide), fun e => by rw [fitAll_t.mpr hall] at e; exact absurd e (by decide)⟩ C' hF'
  have rest : ∀ k, lastR R R.len < nI k → k < 100 → (∀ t, t < k → fitD R t (daysW rv br dn n t T).lv = true) → ∀ t, t < 21 → fitD R t (daysW rv br dn n t T).lv = true := by
    intro k hk hk2 hall t ht
    rcases Nat.lt_or_ge t k with q | q
    · exact hall t q
    · refine fitD_t.mpr (fun j hj hd => ?_)
      have g := l2 j hj
      rw [hd] at g
      have : nI t < nI k := by rw [lt_i]; rw [lt_i] at hk; rw [le_i] at g; omega
      exact absurd this (nI_nlt q (by omega))
  suffices H : ∀ q k (h' : pz_H), k + q = 21 → CQ h' x rF n br dn W (daysW rv br dn n k T) rv rw → Fr (SC x rF) h h' → (∀ t, t < k → fitD R t (daysW rv br dn n t T).lv = true) → pz_V mX9_trialFitsRings Ex Q d bc bs 10 [(0, .ref x), (1, .int (lastR R R.len)), (2, .int (nI k))] [] h' from H 21 0 h rfl C Fr.rf (fun t ht => absurd ht (Nat.not_lt_zero t))
  intro q
  induction q with
  | zero =>
    intro k h' hk C' hF' hall
    have e : k = 21 := hk
    subst e
    exact wX9_trialFitsRings_10 hd ⟨fun hlt => yes h' _ C' hF' hall, fun _ => ⟨fun _ => yes h' _ C' hF' hall, fun hc => absurd (nI_lt (a := 20) (b := 21) (by decide) (by decide)) hc⟩⟩
  | succ q ih =>
    intro k h' hk C' hF' hall
    obtain ⟨hr1, hn1, hWo1, hTo1, ⟨rO1, td1, ks1, dw1, HTop1⟩, ⟨ru1, nx1, HL1⟩, HW1, HT1, ⟨pa1, sk1, th1, len1, src1, at1, HR1, hv1⟩, ⟨nu1, HRow1, hrow1⟩⟩ := id C'
    have HG1 := HG.fr hF' nG
    refine wX9_trialFitsRings_10 hd ⟨fun hlt => yes h' _ C' hF' (rest k hlt (by omega) hall), fun hnl => ⟨fun hc => absurd hc (nI_nlt (a := 20) (by omega) (by decide)), fun _ => ?_⟩⟩
    simp only [HTop1.g0, HTop1.g1, HTop1.g2, HTop1.g3, HTop1.g4, HTop1.g5, HTop1.g6, HTop1.g7, HTop1.g8, HTop1.g9, HTop1.g10, HTop1.g11, HTop1.g12, HTop1.g13, HTop1.g15, HTop1.g16, HTop1.i, HL1.g0, HL1.g1, HL1.g2, HL1.g3, HL1.g4, HL1.i, HL1.r0, HL1.r1, HW1.g0, HW1.g1, HW1.g2, HW1.g3, HW1.g4, HW1.g5, HW1.g6, HW1.g7, HW1.g8, HW1.i, HW1.r0, HW1.r1, HW1.r2, HW1.r3, HW1.r4, HT1.g0, HT1.g1, HT1.g2, HT1.g3, HT1.g4, HT1.g5, HT1.g6, HT1.g7, HT1.g8, HT1.i, HT1.r0, HT1.r1, HT1.r2, HT1.r3, HT1.r4, HR1.i, HRow1.i, HG1.i, nI_1, true_and]
    refine t_fit HG1 HT1.2.1 hR hn0 (by omega) (fun r hr => ⟨_, rfl, ⟨fun h0 => ?_, fun h0 => ?_⟩⟩)
    · have hf : fitD R k (daysW rv br dn n k T).lv = true := by
        cases e : fitD R k (daysW rv br dn n k T).lv
        · exact absurd (hr.mpr e) h0
        · rfl
      have hall2 : ∀ t, t < k + 1 → fitD R t (daysW rv br dn n t T).lv = true := fun t ht => by
        rcases Nat.lt_or_ge t k with q | q
        · exact hall t q
        · have : t = k := by omega
          subst this
          exact hf
      refine ⟨fun hle => ?_, fun hgt => ?_⟩
      · have hlt : lastR R R.len < nI (k + 1) := by
          have := nI_lt (a := k) (b := k + 1) (by omega) (by omega)
          rw [lt_i] at this ⊢
          rw [le_i] at hle
          omega
        exact wX9_trialFitsRings_10 hd ⟨fun _ => yes h' _ C' hF' (rest (k + 1) hlt (by omega) hall2), fun hc => absurd hlt hc⟩
      · simp only [HTop1.g0, HTop1.g1, HTop1.g2, HTop1.g3, HTop1.g4, HTop1.g5, HTop1.g6, HTop1.g7, HTop1.g8, HTop1.g9, HTop1.g10, HTop1.g11, HTop1.g12, HTop1.g13, HTop1.g15, HTop1.g16, HTop1.i, HL1.g0, HL1.g1, HL1.g2, HL1.g3, HL1.g4, HL1.i, HL1.r0, HL1.r1, HW1.g0, HW1.g1, HW1.g2, HW1.g3, HW1.g4, HW1.g5, HW1.g6, HW1.g7, HW1.g8, HW1.i, HW1.r0, HW1.r1, HW1.r2, HW1.r3, HW1.r4, HT1.g0, HT1.g1, HT1.g2, HT1.g3, HT1.g4, HT1.g5, HT1.g6, HT1.g7, HT1.g8, HT1.i, HT1.r0, HT1.r1, HT1.r2, HT1.r3, HT1.r4, HR1.i, HRow1.i, true_and]
        exact q_day C' (by omega) (fun h2 C2 hF2 => ⟨rfl, ih (k + 1) h2 (by omega) C2 (hF'.tt hF2) hall2⟩)
    · exact hq 0 h' _ ⟨fun _ => bool_f (fun H => by rw [fitAll_t.mp H k (by omega)] at hr; exact absurd (hr.mp h0) (by decide)), fun _ => rfl⟩ C' hF'
theorem q_leakT {i m : Nat} (C : CQ h x rF n br dn W T rv rw) (hi : i < n) (hd : 3 ≤ d) (hq : ∀ h', CQ h' x rF n br dn W (leakW W i m) rv rw → Fr (SC x rF) h h' → Q none h') : pz_V mX9_startLeakTrial Ex Q d bc bs 0 [(0, .ref x), (1, .int (nI i)), (2, .int (nI m))] [] h := by
  obtain ⟨hr0, hn0, hWo0, hTo0, ⟨rO0, td0, ks0, dw0, HTop0⟩, ⟨ru0, nx0, HL0⟩, HW0, HT0, ⟨pa0, sk0, th0, len0, src0, at0, HR0, hv0⟩, ⟨nu0, HRow0, hrow0⟩⟩ := id C
  have v6 : vp_in (nI i) 6 := vin (by omega) (by decide)
  refine wX9_startLeakTrial_0 hd ⟨HTop0.i.mpr trivial, q_start C (by omega) (fun h1 C1 hF1 => ⟨rfl, ?_⟩)⟩
  obtain ⟨hr1, hn1, hWo1, hTo1, ⟨rO1, td1, ks1, dw1, HTop1⟩, ⟨ru1, nx1, HL1⟩, HW1, HT1, ⟨pa1, sk1, th1, len1, src1, at1, HR1, hv1⟩, ⟨nu1, HRow1, hrow1⟩⟩ := id C1
  simp only [HTop1.g0, HTop1.g1, HTop1.g2, HTop1.g3, HTop1.g4, HTop1.g5, HTop1.g6, HTop1.g7, HTop1.g8, HTop1.g9, HTop1.g10, HTop1.g11, HTop1.g12, HTop1.g13, HTop1.g15, HTop1.g16, HTop1.i, HL1.g0, HL1.g1, HL1.g2, HL1.g3, HL1.g4, HL1.i, HL1.r0, HL1.r1, HW1.g0, HW1.g1, HW1.g2, HW1.g3, HW1.g4, HW1.g5, HW1.g6, HW1.g7, HW1.g8, HW1.i, HW1.r0, HW1.r1, HW1.r2, HW1.r3, HW1.r4, HT1.g0, HT1.g1, HT1.g2, HT1.g3, HT1.g4, HT1.g5, HT1.g6, HT1.g7, HT1.g8, HT1.i, HT1.r0, HT1.r1, HT1.r2, HT1.r3, HT1.r4, HR1.i, HRow1.i, v6, clamp (i := i) (by omega), true_and]
  exact ⟨fun hc => absurd hc (has_i hn0 hi), fun _ => q_lk C1 (by omega) (fun h2 C2 hF2 => hq h2 C2 (hF1.tt hF2))⟩
theorem c_leaks (C : CQ h x rF n br dn W T rv rw) (HG : RngT h (x + 102) R) (hR : RgsOk n R) (hd : 5 ≤ d) (hq : ∀ h' T', CQ h' x rF n br dn W T' rv (s_leaks rv br dn n R W).2 → Fr (SC x rF) h h' → Q (some (.int (s_leaks rv br dn n R W).1)) h') : pz_V mX9_leaks Ex Q d bc bs 0 [(0, .ref x)] [] h := by
  obtain ⟨hr0, hn0, hWo0, hTo0, ⟨rO0, td0, ks0, dw0, HTop0⟩, ⟨ru0, nx0, HL0⟩, HW0, HT0, ⟨pa0, sk0, th0, len0, src0, at0, HR0, hv0⟩, ⟨nu0, HRow0, hrow0⟩⟩ := id C
  have nG : ∀ b ∈ SC x rF, b < x + 102 ∨ x + 102 + 4 ≤ b := by intro b hb; simp at hb; omega
  unfold s_leaks at hq
  refine wX9_leaks_0 hd ⟨HTop0.i.mpr trivial, q_start C (by omega) (fun h1 C1 hF1 => ⟨rfl, ?_⟩)⟩
  obtain ⟨hr1, hn1, hWo1, hTo1, ⟨rO1, td1, ks1, dw1, HTop1⟩, ⟨ru1, nx1, HL1⟩, HW1, HT1, ⟨pa1, sk1, th1, len1, src1, at1, HR1, hv1⟩, ⟨nu1, HRow1, hrow1⟩⟩ := id C1
  simp only [HTop1.g0, HTop1.g1, HTop1.g2, HTop1.g3, HTop1.g4, HTop1.g5, HTop1.g6, HTop1.g7, HTop1.g8, HTop1.g9, HTop1.g10, HTop1.g11, HTop1.g12, HTop1.g13, HTop1.g15, HTop1.g16, HTop1.i, HL1.g0, HL1.g1, HL1.g2, HL1.g3, HL1.g4, HL1.i, HL1.r0, HL1.r1, HW1.g0, HW1.g1, HW1.g2, HW1.g3, HW1.g4, HW1.g5, HW1.g6, HW1.g7, HW1.g8, HW1.i, HW1.r0, HW1.r1, HW1.r2, HW1.r3, HW1.r4, HT1.g0, HT1.g1, HT1.g2, HT1.g3, HT1.g4, HT1.g5, HT1.g6, HT1.g7, HT1.g8, HT1.i, HT1.r0, HT1.r1, HT1.r2, HT1.r3, HT1.r4, HR1.i, HRow1.i, true_and]
  refine (q_clear C1 (fun h2 C2 hF2 => ?_)).2
  obtain ⟨hr2, hn2, hWo2, hTo2, ⟨rO2, td2, ks2, dw2, HTop2⟩, ⟨ru2, nx2, HL2⟩, HW2, HT2, ⟨pa2, sk2, th2, len2, src2, at2, HR2, hv2⟩, ⟨nu2, HRow2, hrow2⟩⟩ := id C2
  simp only [HTop2.g0, HTop2.g1, HTop2.g2, HTop2.g3, HTop2.g4, HTop2.g5, HTop2.g6, HTop2.g7, HTop2.g8, HTop2.g9, HTop2.g10, HTop2.g11, HTop2.g12, HTop2.g13, HTop2.g15, HTop2.g16, HTop2.i, HL2.g0, HL2.g1, HL2.g2, HL2.g3, HL2.g4, HL2.i, HL2.r0, HL2.r1, HW2.g0, HW2.g1, HW2.g2, HW2.g3, HW2.g4, HW2.g5, HW2.g6, HW2.g7, HW2.g8, HW2.i, HW2.r0, HW2.r1, HW2.r2, HW2.r3, HW2.r4, HT2.g0, HT2.g1, HT2.g2, HT2.g3, HT2.g4, HT2.g5, HT2.g6, HT2.g7, HT2.g8, HT2.i, HT2.r0, HT2.r1, HT2.r2, HT2.r3, HT2.r4, HR2.i, HRow2.i, true_and]
  have key : ∀ (h4 : pz_H) (T4 : pW), CQ h4 x rF n br dn W T4 rv (lkS rv br dn n R W 0).2 → Fr (SC x rF) h h4 → pz_V mX9_leaks Ex Q d bc bs 34 [(0, .ref x), (1, .int 0), (2, .int 0)] [] h4 := by
    intro h4 T4 C4 hF4
    have inner : ∀ i, i < n → (∀ (h5 : pz_H) (T5 : pW), CQ h5 x rF n br dn W T5 rv (lkS rv br dn n R W (9 * i + 9)).2 → Fr (SC x rF) h h5 → pz_V mX9_leaks Ex Q d bc bs 34 [(0, .ref x), (1, .int (lkS rv br dn n R W (9 * i + 9)).1), (2, .int (nI (i + 1)))] [] h5) →
        ∀ q m (h5 : pz_H) (T5 : pW), m + q = 9 → CQ h5 x rF n br dn W T5 rv (lkS rv br dn n R W (9 * i + m)).2 → Fr (SC x rF) h h5 → pz_V mX9_leaks Ex Q d bc bs 47 [(0, .ref x), (1, .int (lkS rv br dn n R W (9 * i + m)).1), (2, .int (nI i)), (3, .int (nI (m + 1)))] [] h5 := by
      intro i hi hnext q
      induction q with
      | zero =>
        intro m h5 T5 hm C5 hF5
        have e : m = 9 := hm
        subst e
        refine wX9_leaks_47 hd ⟨fun _ => ?_, fun hc => absurd (nI_lt (a := 9) (b := 10) (by decide) (by decide)) hc⟩
        rw [nI_1]
        exact hnext h5 T5 C5 hF5
      | succ q ih =>
        intro m h5 T5 hm C5 hF5
        have ec : lkS rv br dn n R W (9 * i + (m + 1)) = if fitAll rv br dn n R (leakK W (9 * i + m)) = true then ((lkS rv br dn n R W (9 * i + m)).1 + 1, if (lkS rv br dn n R W (9 * i + m)).1 = 0 then (lkS rv br dn n R W (9 * i + m)).2 ++ [(nI ((9 * i + m) / 9)).toInt64] ++ [(nI ((9 * i + m) % 9 + 1)).toInt64] else (lkS rv br dn n R W (9 * i + m)).2) else lkS rv br dn n R W (9 * i + m) := rfl
        unfold leakK at ec
        rw [show (9 * i + m) / 9 = i by omega, show (9 * i + m) % 9 = m by omega] at ec
        have g := ih (m + 1)
        rw [ec] at g
        obtain ⟨c, c1, c2, c3, c4⟩ := lkS_ok (rv := rv) (br := br) (dn := dn) (n := n) (R := R) (W := W) (9 * i + m) (by omega)
        obtain ⟨hr5, hn5, hWo5, hTo5, ⟨rO5, td5, ks5, dw5, HTop5⟩, ⟨ru5, nx5, HL5⟩, HW5, HT5, ⟨pa5, sk5, th5, len5, src5, at5, HR5, hv5⟩, ⟨nu5, HRow5, hrow5⟩⟩ := id C5
        refine wX9_leaks_47 hd ⟨fun hc => absurd hc (nI_nlt (a := 9) (by omega) (by decide)), fun _ => ⟨HTop5.i.mpr trivial, q_leakT C5 hi (by omega) (fun h6 C6 hF6 => ⟨rfl, ?_⟩)⟩⟩
        obtain ⟨hr6, hn6, hWo6, hTo6, ⟨rO6, td6, ks6, dw6, HTop6⟩, ⟨ru6, nx6, HL6⟩, HW6, HT6, ⟨pa6, sk6, th6, len6, src6, at6, HR6, hv6⟩, ⟨nu6, HRow6, hrow6⟩⟩ := id C6
        have hF := hF5.tt hF6
        refine ⟨HTop6.i.mpr trivial, q_fits C6 (HG.fr hF nG) hR (by omega) (fun r h7 T7 hr C7 hF7 => ⟨_, rfl, ?_⟩)⟩
        have hF := hF.tt hF7
        rw [nI_1]
        refine ⟨fun h0 => ?_, fun h0 => ?_⟩
        · rw [if_neg (by rw [hr.mp h0]; decide)] at g
          exact g h7 T7 (by omega) C7 hF
        · have hf : fitAll rv br dn n R (leakW W i (m + 1)) = true := by
            cases e : fitAll rv br dn n R (leakW W i (m + 1))
            · exact absurd (hr.mpr e) h0
            · rfl
          rw [if_pos hf] at g
          refine ⟨fun hne => ?_, fun he => ?_⟩
          · rw [if_neg hne] at g
            exact g h7 T7 (by omega) C7 hF
          · rw [if_pos he] at g
            obtain ⟨hr7, hn7, hWo7, hTo7, ⟨rO7, td7, ks7, dw7, HTop7⟩, ⟨ru7, nx7, HL7⟩, HW7, HT7, ⟨pa7, sk7, th7, len7, src7, at7, HR7, hv7⟩, ⟨nu7, HRow7, hrow7⟩⟩ := id C7
            simp only [HTop7.g0, HTop7.g1, HTop7.g2, HTop7.g3, HTop7.g4, HTop7.g5, HTop7.g6, HTop7.g7, HTop7.g8, HTop7.g9, HTop7.g10, HTop7.g11, HTop7.g12, HTop7.g13, HTop7.g15, HTop7.g16, HTop7.i, HL7.g0, HL7.g1, HL7.g2, HL7.g3, HL7.g4, HL7.i, HL7.r0, HL7.r1, HW7.g0, HW7.g1, HW7.g2, HW7.g3, HW7.g4, HW7.g5, HW7.g6, HW7.g7, HW7.g8, HW7.i, HW7.r0, HW7.r1, HW7.r2, HW7.r3, HW7.r4, HT7.g0, HT7.g1, HT7.g2, HT7.g3, HT7.g4, HT7.g5, HT7.g6, HT7.g7, HT7.g8, HT7.i, HT7.r0, HT7.r1, HT7.r2, HT7.r3, HT7.r4, HR7.i, HRow7.i, true_and]
            refine q_add C7 (by omega) (fun h8 C8 hF8 => ⟨rfl, ?_⟩)
            obtain ⟨hr8, hn8, hWo8, hTo8, ⟨rO8, td8, ks8, dw8, HTop8⟩, ⟨ru8, nx8, HL8⟩, HW8, HT8, ⟨pa8, sk8, th8, len8, src8, at8, HR8, hv8⟩, ⟨nu8, HRow8, hrow8⟩⟩ := id C8
            simp only [HTop8.g0, HTop8.g1, HTop8.g2, HTop8.g3, HTop8.g4, HTop8.g5, HTop8.g6, HTop8.g7, HTop8.g8, HTop8.g9, HTop8.g10, HTop8.g11, HTop8.g12, HTop8.g13, HTop8.g15, HTop8.g16, HTop8.i, HL8.g0, HL8.g1, HL8.g2, HL8.g3, HL8.g4, HL8.i, HL8.r0, HL8.r1, HW8.g0, HW8.g1, HW8.g2, HW8.g3, HW8.g4, HW8.g5, HW8.g6, HW8.g7, HW8.g8, HW8.i, HW8.r0, HW8.r1, HW8.r2, HW8.r3, HW8.r4, HT8.g0, HT8.g1, HT8.g2, HT8.g3, HT8.g4, HT8.g5, HT8.g6, HT8.g7, HT8.g8, HT8.i, HT8.r0, HT8.r1, HT8.r2, HT8.r3, HT8.r4, HR8.i, HRow8.i, true_and]
            exact q_add C8 (by simp; omega) (fun h9 C9 hF9 => ⟨rfl, g h9 T7 (by omega) C9 ((hF.tt hF8).tt hF9)⟩)
    suffices H : ∀ q i (h5 : pz_H) (T5 : pW), i + q = n → CQ h5 x rF n br dn W T5 rv (lkS rv br dn n R W (9 * i)).2 → Fr (SC x rF) h h5 → pz_V mX9_leaks Ex Q d bc bs 34 [(0, .ref x), (1, .int (lkS rv br dn n R W (9 * i)).1), (2, .int (nI i))] [] h5 from H n 0 h4 T4 (Nat.zero_add _) C4 hF4
    intro q
    induction q with
    | zero =>
      intro i h5 T5 hi C5 hF5
      have e : i = n := hi
      subst e
      obtain ⟨hr5, hn5, hWo5, hTo5, ⟨rO5, td5, ks5, dw5, HTop5⟩, ⟨ru5, nx5, HL5⟩, HW5, HT5, ⟨pa5, sk5, th5, len5, src5, at5, HR5, hv5⟩, ⟨nu5, HRow5, hrow5⟩⟩ := id C5
      refine wX9_leaks_34 hd ?_
      simp only [HTop5.g0, HTop5.g1, HTop5.g2, HTop5.g3, HTop5.g4, HTop5.g5, HTop5.g6, HTop5.g7, HTop5.g8, HTop5.g9, HTop5.g10, HTop5.g11, HTop5.g12, HTop5.g13, HTop5.g15, HTop5.g16, HTop5.i, HL5.g0, HL5.g1, HL5.g2, HL5.g3, HL5.g4, HL5.i, HL5.r0, HL5.r1, HW5.g0, HW5.g1, HW5.g2, HW5.g3, HW5.g4, HW5.g5, HW5.g6, HW5.g7, HW5.g8, HW5.i, HW5.r0, HW5.r1, HW5.r2, HW5.r3, HW5.r4, HT5.g0, HT5.g1, HT5.g2, HT5.g3, HT5.g4, HT5.g5, HT5.g6, HT5.g7, HT5.g8, HT5.i, HT5.r0, HT5.r1, HT5.r2, HT5.r3, HT5.r4, HR5.i, HRow5.i, true_and]
      exact ⟨fun _ => hq h5 T5 C5 hF5, fun hc => absurd (nI_le (Nat.le_refl _) (by omega)) hc⟩
    | succ q ih =>
      intro i h5 T5 hi C5 hF5
      obtain ⟨hr5, hn5, hWo5, hTo5, ⟨rO5, td5, ks5, dw5, HTop5⟩, ⟨ru5, nx5, HL5⟩, HW5, HT5, ⟨pa5, sk5, th5, len5, src5, at5, HR5, hv5⟩, ⟨nu5, HRow5, hrow5⟩⟩ := id C5
      refine wX9_leaks_34 hd ?_
      simp only [HTop5.g0, HTop5.g1, HTop5.g2, HTop5.g3, HTop5.g4, HTop5.g5, HTop5.g6, HTop5.g7, HTop5.g8, HTop5.g9, HTop5.g10, HTop5.g11, HTop5.g12, HTop5.g13, HTop5.g15, HTop5.g16, HTop5.i, HL5.g0, HL5.g1, HL5.g2, HL5.g3, HL5.g4, HL5.i, HL5.r0, HL5.r1, HW5.g0, HW5.g1, HW5.g2, HW5.g3, HW5.g4, HW5.g5, HW5.g6, HW5.g7, HW5.g8, HW5.i, HW5.r0, HW5.r1, HW5.r2, HW5.r3, HW5.r4, HT5.g0, HT5.g1, HT5.g2, HT5.g3, HT5.g4, HT5.g5, HT5.g6, HT5.g7, HT5.g8, HT5.i, HT5.r0, HT5.r1, HT5.r2, HT5.r3, HT5.r4, HR5.i, HRow5.i, true_and]
      exact ⟨fun hc => absurd hc (nI_ge (by omega) (by omega)), fun _ => inner i (by omega) (fun h6 T6 C6 hF6 => ih (i + 1) h6 T6 (by omega) C6 hF6) 9 0 h5 T5 rfl C5 hF5⟩
  have hF := hF1.tt hF2
  refine q_fits C2 (HG.fr hF nG) hR (by omega) (fun r h3 T3 hr C3 hF3 => ⟨_, rfl, ?_⟩)
  obtain ⟨hr3, hn3, hWo3, hTo3, ⟨rO3, td3, ks3, dw3, HTop3⟩, ⟨ru3, nx3, HL3⟩, HW3, HT3, ⟨pa3, sk3, th3, len3, src3, at3, HR3, hv3⟩, ⟨nu3, HRow3, hrow3⟩⟩ := id C3
  simp only [HTop3.g0, HTop3.g1, HTop3.g2, HTop3.g3, HTop3.g4, HTop3.g5, HTop3.g6, HTop3.g7, HTop3.g8, HTop3.g9, HTop3.g10, HTop3.g11, HTop3.g12, HTop3.g13, HTop3.g15, HTop3.g16, HTop3.i, HL3.g0, HL3.g1, HL3.g2, HL3.g3, HL3.g4, HL3.i, HL3.r0, HL3.r1, HW3.g0, HW3.g1, HW3.g2, HW3.g3, HW3.g4, HW3.g5, HW3.g6, HW3.g7, HW3.g8, HW3.i, HW3.r0, HW3.r1, HW3.r2, HW3.r3, HW3.r4, HT3.g0, HT3.g1, HT3.g2, HT3.g3, HT3.g4, HT3.g5, HT3.g6, HT3.g7, HT3.g8, HT3.i, HT3.r0, HT3.r1, HT3.r2, HT3.r3, HT3.r4, HR3.i, HRow3.i, true_and]
  have hF := hF.tt hF3
  refine ⟨fun h0 => q_add C3 (by show 0 < 6; decide) (fun h4 C4 hF4 => ⟨rfl, key h4 T3 ?_ (hF.tt hF4)⟩), fun h0 => q_add C3 (by show 0 < 6; decide) (fun h4 C4 hF4 => ⟨rfl, key h4 T3 ?_ (hF.tt hF4)⟩)⟩
  · unfold lkS
    rw [if_neg (by rw [hr.mp h0]; decide)]
    exact C4
  · have hf : fitAll rv br dn n R W = true := by
      cases e : fitAll rv br dn n R W
      · exact absurd (hr.mpr e) h0
      · rfl
    unfold lkS
    rw [if_pos hf]
    exact C4
end CL
