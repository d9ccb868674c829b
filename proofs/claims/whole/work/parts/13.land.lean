/-! ===== contracts: Land's questions ===== -/
section LQ
variable {Ex : State → Nat → Prop} {Q : Option Value → pz_H → Prop} {d bc bs : Nat} {h : pz_H} {ld w n ou : Nat} {br dn ru nx lv hr tp lk kg : Nat → Int32} {dy sp dr : Int32}
theorem t_totalOf {s : Nat} (HL : Lnd h ld br dn ru nx n) (HW : Wat h w lv hr tp lk kg ou dy sp dr) (hn : n ≤ 6) (hs : s < 64) (hd : 1 ≤ d) (hq : Q (some (.int (totS lv s n))) h) : pz_V mX1_totalOf Ex Q d bc bs 0 [(0, .ref ld), (1, .ref w), (2, .int (nI s))] [] h := by
  refine wX1_totalOf_0 hd ?_
  suffices H : ∀ k i, i + k = n → pz_V mX1_totalOf Ex Q d bc bs 5 [(0, .ref ld), (1, .ref w), (2, .int (nI s)), (3, .int (totS lv s i)), (4, .int (nI i))] [] h from H n 0 (Nat.zero_add n)
  intro k
  induction k with
  | zero =>
    intro i hi
    have e : i = n := hi
    subst e
    exact wX1_totalOf_5 hd (HL.g4.mpr ⟨fun _ => hq, fun hc => absurd (nI_le (Nat.le_refl _) (by omega)) hc⟩)
  | succ k ih =>
    intro i hi
    have g := ih (i + 1) (by omega)
    refine wX1_totalOf_5 hd (HL.g4.mpr ⟨fun hc => absurd hc (nI_ge (by omega) (by omega)), fun _ => ⟨fun hb => ?_, fun hb => HW.g0.mpr (HW.r0.mpr ⟨vin (by omega) (by decide), ?_⟩)⟩⟩)
    · have e := (isIn_0 hs (by omega)).mp hb
      have e2 : totS lv s (i + 1) = totS lv s i + 0 := by
        show totS lv s i + (if s.testBit i then lv i else 0) = _
        rw [e]; rfl
      rw [← e2, nI_1]
      exact g
    · have e : s.testBit i = true := by
        cases q : s.testBit i
        · exact absurd ((isIn_0 hs (by omega)).mpr q) hb
        · rfl
      have e2 : totS lv s (i + 1) = totS lv s i + lv i := by
        show totS lv s i + (if s.testBit i then lv i else 0) = _
        rw [e]; rfl
      rw [clamp (by omega), ← e2, nI_1]
      exact g
theorem t_total (HL : Lnd h ld br dn ru nx n) (HW : Wat h w lv hr tp lk kg ou dy sp dr) (hn : n ≤ 6) (hd : 2 ≤ d) (hq : Q (some (.int (sumI lv n))) h) : pz_V mX1_total Ex Q d bc bs 0 [(0, .ref ld), (1, .ref w)] [] h := by
  refine wX1_total_0 hd ⟨HL.i.mpr trivial, HL.g4.mpr ⟨HL.i.mpr trivial, ?_⟩⟩
  rw [all_eq n hn]
  exact t_totalOf HL HW hn (by have := pow_le64 hn; omega) (Nat.le_refl _) ⟨_, rfl, by rw [totS_all hn]; exact hq⟩
/-- a loop that gathers a set of lakes, bit by bit -/
theorem t_dry (HL : Lnd h ld br dn ru nx n) (HW : Wat h w lv hr tp lk kg ou dy sp dr) (hn : n ≤ 6) (hq : Q (some (.int (nI (bitsOf (fun i => decide (lv i = 0)) n)))) h) : pz_V mX1_dry Ex Q d bc bs 0 [(0, .ref ld), (1, .ref w)] [] h := by
  refine wX1_dry_0 ?_
  suffices H : ∀ k i, i + k = n → pz_V mX1_dry Ex Q d bc bs 4 [(0, .ref ld), (1, .ref w), (2, .int (nI (bitsOf (fun i => decide (lv i = 0)) i))), (3, .int (nI i))] [] h from H n 0 (Nat.zero_add n)
  intro k
  induction k with
  | zero =>
    intro i hi
    have e : i = n := hi
    subst e
    exact wX1_dry_4 (HL.g4.mpr ⟨fun _ => hq, fun hc => absurd (nI_le (Nat.le_refl _) (by omega)) hc⟩)
  | succ k ih =>
    intro i hi
    have g := ih (i + 1) (by omega)
    refine wX1_dry_4 (HL.g4.mpr ⟨fun hc => absurd hc (nI_ge (by omega) (by omega)), fun _ => HW.g0.mpr (HW.r0.mpr ⟨vin (by omega) (by decide), ?_⟩)⟩)
    rw [clamp (by omega), nI_1, shl1 i (by omega), or_nI]
    refine ⟨fun hb => ?_, fun hb => ?_⟩
    · rw [or_nI0]
      rw [bitsOf, if_neg (by simpa using hb), Nat.or_zero] at g
      exact g
    · rw [bitsOf, if_pos (by simpa using hb)] at g
      exact g
theorem t_brimming (HL : Lnd h ld br dn ru nx n) (HW : Wat h w lv hr tp lk kg ou dy sp dr) (hn : n ≤ 6) (hq : Q (some (.int (nI (bitsOf (fun i => decide (lv i = br i)) n)))) h) : pz_V mX1_brimming Ex Q d bc bs 0 [(0, .ref ld), (1, .ref w)] [] h := by
  refine wX1_brimming_0 ?_
  suffices H : ∀ k i, i + k = n → pz_V mX1_brimming Ex Q d bc bs 4 [(0, .ref ld), (1, .ref w), (2, .int (nI (bitsOf (fun i => decide (lv i = br i)) i))), (3, .int (nI i))] [] h from H n 0 (Nat.zero_add n)
  intro k
  induction k with
  | zero =>
    intro i hi
    have e : i = n := hi
    subst e
    exact wX1_brimming_4 (HL.g4.mpr ⟨fun _ => hq, fun hc => absurd (nI_le (Nat.le_refl _) (by omega)) hc⟩)
  | succ k ih =>
    intro i hi
    have g := ih (i + 1) (by omega)
    refine wX1_brimming_4 (HL.g4.mpr ⟨fun hc => absurd hc (nI_ge (by omega) (by omega)), fun _ => HW.g0.mpr (HW.r0.mpr ⟨vin (by omega) (by decide), HL.g0.mpr (HL.r0.mpr ⟨vin (by omega) (by decide), ?_⟩)⟩)⟩)
    rw [clamp (by omega), nI_1, shl1 i (by omega), or_nI]
    refine ⟨fun hb => ?_, fun hb => ?_⟩
    · rw [or_nI0]
      rw [bitsOf, if_neg (by simpa using hb), Nat.or_zero] at g
      exact g
    · rw [bitsOf, if_pos (by simpa using hb)] at g
      exact g
theorem t_heldBy {kn : Int32} (HL : Lnd h ld br dn ru nx n) (HW : Wat h w lv hr tp lk kg ou dy sp dr) (hn : n ≤ 6) (hq : Q (some (.int (nI (bitsOf (fun i => decide (kg i = kn)) n)))) h) : pz_V mX1_heldBy Ex Q d bc bs 0 [(0, .ref ld), (1, .ref w), (2, .int kn)] [] h := by
  refine wX1_heldBy_0 ?_
  suffices H : ∀ k i, i + k = n → pz_V mX1_heldBy Ex Q d bc bs 5 [(0, .ref ld), (1, .ref w), (2, .int kn), (3, .int (nI (bitsOf (fun i => decide (kg i = kn)) i))), (4, .int (nI i))] [] h from H n 0 (Nat.zero_add n)
  intro k
  induction k with
  | zero =>
    intro i hi
    have e : i = n := hi
    subst e
    exact wX1_heldBy_5 (HL.g4.mpr ⟨fun _ => hq, fun hc => absurd (nI_le (Nat.le_refl _) (by omega)) hc⟩)
  | succ k ih =>
    intro i hi
    have g := ih (i + 1) (by omega)
    refine wX1_heldBy_5 (HL.g4.mpr ⟨fun hc => absurd hc (nI_ge (by omega) (by omega)), fun _ => HW.g4.mpr (HW.r4.mpr ⟨vin (by omega) (by decide), ?_⟩)⟩)
    rw [clamp (by omega), nI_1, shl1 i (by omega), or_nI]
    refine ⟨fun hb => ?_, fun hb => ?_⟩
    · rw [or_nI0]
      rw [bitsOf, if_neg (by simpa using hb), Nat.or_zero] at g
      exact g
    · rw [bitsOf, if_pos (by simpa using hb)] at g
      exact g
theorem t_hairOfAll (HL : Lnd h ld br dn ru nx n) (HW : Wat h w lv hr tp lk kg ou dy sp dr) (hn : n ≤ 6) (hq : Q (some (.int (sumI hr n))) h) : pz_V mX1_hairOfAll Ex Q d bc bs 0 [(0, .ref ld), (1, .ref w)] [] h := by
  refine wX1_hairOfAll_0 ?_
  suffices H : ∀ k i, i + k = n → pz_V mX1_hairOfAll Ex Q d bc bs 4 [(0, .ref ld), (1, .ref w), (2, .int (sumI hr i)), (3, .int (nI i))] [] h from H n 0 (Nat.zero_add n)
  intro k
  induction k with
  | zero =>
    intro i hi
    have e : i = n := hi
    subst e
    exact wX1_hairOfAll_4 (HL.g4.mpr ⟨fun _ => hq, fun hc => absurd (nI_le (Nat.le_refl _) (by omega)) hc⟩)
  | succ k ih =>
    intro i hi
    have g := ih (i + 1) (by omega)
    refine wX1_hairOfAll_4 (HL.g4.mpr ⟨fun hc => absurd hc (nI_ge (by omega) (by omega)), fun _ => HW.g1.mpr (HW.r1.mpr ⟨vin (by omega) (by decide), ?_⟩)⟩)
    rw [clamp (by omega), nI_1]
    exact g
end LQ
