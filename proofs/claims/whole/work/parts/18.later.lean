/-! ===== later, dries, brims, marks, meets, swims: what they answer (specs), and that the class does ===== -/
abbrev pA : Type := Int32 × List Int64
def noL (l : Int32) (n : Nat) : Prop := eX1_has l (nI n) = 0
def rowL (f : Nat → Int32) (k : Nat) : List Int64 := (List.range k).map (fun i => (f i).toInt64)
theorem rowL_len (f : Nat → Int32) (k : Nat) : (rowL f k).length = k := by simp [rowL]
theorem rowL_succ (f : Nat → Int32) (k : Nat) : rowL f (k + 1) = rowL f k ++ [(f k).toInt64] := by simp [rowL, List.range_succ]
section SP
variable (rv : pRV) (br dn : Nat → Int32) (n : Nat) (W : pW) (rw : List Int64)
def s_later (l m : Int32) : pA := if eX1_has l (nI n) = 0 then (-1, rw) else if eX9_isWithin m 0 99 = 0 then (-1, rw) else ((daysW rv br dn n m.toNatClampNeg W).lv l.toNatClampNeg, rowL (daysW rv br dn n m.toNatClampNeg W).lv n)
/-- the first of the days k .. 99 (by fuel) on which p holds -/
def firstDay (p : Nat → Prop) [DecidablePred p] : Nat → Nat → Option Nat
  | 0, _ => none
  | f + 1, k => if p k then some k else firstDay p f (k + 1)
def s_dries (l : Int32) : pA := if eX1_has l (nI n) = 0 then (-1, rw) else match firstDay (fun k => (daysW rv br dn n k W).lv l.toNatClampNeg = 0) 100 0 with
  | none => (-2, rw)
  | some k => (nI k, [(sumI (daysW rv br dn n k W).lv n).toInt64])
def s_brims (l : Int32) : pA := if eX1_has l (nI n) = 0 then (-1, rw) else match firstDay (fun k => (daysW rv br dn n k W).lv l.toNatClampNeg = br l.toNatClampNeg) 100 0 with
  | none => (-2, rw)
  | some k => (nI k, [((daysW rv br dn n k W).sp - W.sp).toInt64])
def s_meets (l m : Int32) : pA := if eX1_has l (nI n) = 0 then (-1, rw) else if eX1_has m (nI n) = 0 then (-1, rw) else if l = m then (-1, rw) else match firstDay (fun k => (daysW rv br dn n k W).lv l.toNatClampNeg = (daysW rv br dn n k W).lv m.toNatClampNeg) 100 0 with
  | none => (-2, rw)
  | some k => (nI k, [((daysW rv br dn n k W).lv l.toNatClampNeg).toInt64])
/-- least, most, and their days -/
def mkS (f : Nat → Int32) : Nat → Int32 × Int32 × Int32 × Int32
  | 0 => (f 0, f 0, 0, 0)
  | k + 1 => (if (mkS f k).1 ≤ f (k + 1) then (mkS f k).1 else f (k + 1), if f (k + 1) ≤ (mkS f k).2.1 then (mkS f k).2.1 else f (k + 1), if (mkS f k).1 ≤ f (k + 1) then (mkS f k).2.2.1 else nI (k + 1), if f (k + 1) ≤ (mkS f k).2.1 then (mkS f k).2.2.2 else nI (k + 1))
def s_marks (l m : Int32) : pA := if eX1_has l (nI n) = 0 then (-1, rw) else if eX9_isWithin m 0 99 = 0 then (-1, rw) else
  let r := mkS (fun k => (daysW rv br dn n k W).lv l.toNatClampNeg) m.toNatClampNeg
  (r.1, [r.2.2.1.toInt64, r.2.1.toInt64, r.2.2.2.toInt64])
/-- how many, together, longest, first -/
def swS (f : Nat → Int32) (v : Int32) : Nat → Int32 × Int32 × Int32 × Int32
  | 0 => (0, 0, 0, 0)
  | k + 1 => if f (k + 1) < v then ((swS f v k).1, 0, (swS f v k).2.2.1, (swS f v k).2.2.2) else ((swS f v k).1 + 1, (swS f v k).2.1 + 1, (if (swS f v k).2.2.1 < (swS f v k).2.1 + 1 then (swS f v k).2.1 + 1 else (swS f v k).2.2.1), if (swS f v k).2.2.2 = 0 then nI (k + 1) else (swS f v k).2.2.2)
def s_swims (l v m : Int32) : pA := if eX1_has l (nI n) = 0 then (-1, rw) else if eX9_isWithin v 0 99 = 0 then (-1, rw) else if eX9_isWithin m 1 99 = 0 then (-1, rw) else
  let r := swS (fun k => (daysW rv br dn n k W).lv l.toNatClampNeg) v m.toNatClampNeg
  (r.1, [r.2.2.1.toInt64, r.2.2.2.toInt64])
end SP
section CL
variable {Ex : State → Nat → Prop} {Q : Option Value → pz_H → Prop} {d bc bs : Nat} {h : pz_H} {x rF n : Nat} {br dn : Nat → Int32} {W T : pW} {rv : pRV} {rw : List Int64}
theorem c_later {l m : Int32} (C : CQ h x rF n br dn W T rv rw) (hd : 5 ≤ d) (hq : ∀ h' T', CQ h' x rF n br dn W T' rv (s_later rv br dn n W rw l m).2 → Fr (SC x rF) h h' → Q (some (.int (s_later rv br dn n W rw l m).1)) h') : pz_V mX9_later Ex Q d bc bs 0 [(0, .ref x), (1, .int l), (2, .int m)] [] h := by
  obtain ⟨hr, hn, hW, hT, ⟨rO, td, ks, dw, HTop⟩, ⟨ru, nx, HL⟩, HW, HT, HRul, HRow⟩ := id C
  unfold s_later at hq
  refine wX9_later_0 hd (HTop.g2.mpr ⟨HL.i.mpr trivial, HL.g4.mpr ⟨fun hc => ?_, fun hc => ⟨fun hc2 => ?_, fun hc2 => ?_⟩⟩⟩)
  · rw [if_pos hc] at hq
    exact hq h T C Fr.rf
  · rw [if_neg hc, if_neg hc2] at hq
    obtain ⟨i, hi, rfl⟩ := (has_0 hn).mp hc
    obtain ⟨k, hk, rfl⟩ := (within_0 (hi := 99) (by decide)).mp hc2
    rw [clamp (by omega), clamp (by omega)] at hq
    refine ⟨HTop.i.mpr trivial, q_start C (Nat.le_refl _) (fun h1 C1 hF1 => ⟨rfl, ?_⟩)⟩
    obtain ⟨-, -, -, -, ⟨rO1, td1, ks1, dw1, HTop1⟩, ⟨ru1, nx1, HL1⟩, HW1, HT1, -, -⟩ := id C1
    refine HTop1.g2.mpr (HTop1.g5.mpr (HTop1.g12.mpr ⟨HL1.i.mpr trivial, q_days C1 (Nat.le_refl _) (by omega) (fun h2 C2 hF2 => ⟨rfl, ?_⟩)⟩))
    obtain ⟨-, -, -, -, ⟨rO2, td2, ks2, dw2, HTop2⟩, -, -, -, -, -⟩ := id C2
    refine HTop2.g1.mpr (q_clear C2 (fun h3 C3 hF3 => ?_))
    have hF : Fr (SC x rF) h h3 := (hF1.tr hF2 (fun _ hb => hb)).tr hF3 (fun _ hb => hb)
    clear hF1 hF2 hF3 C1 C2
    suffices H : ∀ (q j : Nat) (h4 : pz_H), j + q = n → CQ h4 x rF n br dn W (daysW rv br dn n k W) rv (rowL (daysW rv br dn n k W).lv j) → Fr (SC x rF) h h4 → pz_V mX9_later Ex Q d bc bs 52 [(0, .ref x), (1, .int (nI i)), (3, .int (nI j))] [] h4 from H n 0 h3 (Nat.zero_add _) C3 hF
    intro q
    induction q with
    | zero =>
      intro j h4 hj C4 hF4
      have e : j = n := hj
      subst e
      obtain ⟨-, -, -, -, ⟨rO4, td4, ks4, dw4, HTop4⟩, ⟨ru4, nx4, HL4⟩, HW4, HT4, -, -⟩ := id C4
      refine wX9_later_52 hd (HTop4.g2.mpr ⟨HL4.i.mpr trivial, HL4.g4.mpr ⟨fun _ => HTop4.g5.mpr (HT4.g0.mpr (HT4.r0.mpr ⟨vin (by omega) (by decide), ?_⟩)), fun hc => absurd (nI_le (Nat.le_refl _) (by omega)) hc⟩⟩)
      rw [clamp (by omega)]
      exact hq h4 _ C4 hF4
    | succ q ih =>
      intro j h4 hj C4 hF4
      obtain ⟨-, -, -, -, ⟨rO4, td4, ks4, dw4, HTop4⟩, ⟨ru4, nx4, HL4⟩, HW4, HT4, -, ⟨nu4, HRow4, -⟩⟩ := id C4
      refine wX9_later_52 hd (HTop4.g2.mpr ⟨HL4.i.mpr trivial, HL4.g4.mpr ⟨fun hc => absurd hc (nI_ge (by omega) (by omega)), fun _ => HTop4.g1.mpr (HTop4.g5.mpr (HT4.g0.mpr (HT4.r0.mpr ⟨vin (by omega) (by decide), HRow4.i.mpr trivial, ?_⟩)))⟩⟩)
      rw [clamp (by omega), nI_1]
      refine q_add C4 (by rw [rowL_len]; omega) (fun h5 C5 hF5 => ⟨rfl, ?_⟩)
      rw [← rowL_succ] at C5
      exact ih (j + 1) h5 (by omega) C5 (hF4.tr hF5 (fun _ hb => hb))
  · rw [if_neg hc, if_pos hc2] at hq
    exact hq h T C Fr.rf
/-- the loop of dries, brims and meets: the days one by one till p holds -/
theorem firstDay_run {p : Nat → Prop} [DecidablePred p] {Z : Option Nat → Prop} {V : Nat → pz_H → Prop} {Ck : Nat → pz_H → Prop}
    (hend : ∀ hh, Ck 100 hh → Z none → V 100 hh) (hhit : ∀ k hh, k < 100 → Ck k hh → p k → Z (some k) → V k hh) (hstep : ∀ k hh, k < 100 → Ck k hh → ¬ p k → (∀ h2, Ck (k + 1) h2 → V (k + 1) h2) → V k hh) :
    ∀ (f k : Nat) (hh : pz_H), k + f = 100 → Ck k hh → Z (firstDay p f k) → V k hh
  | 0, k, hh, hk, hC, hz => by
    have e : k = 100 := hk
    subst e
    exact hend hh hC hz
  | f + 1, k, hh, hk, hC, hz => by
    unfold firstDay at hz
    by_cases hp : p k
    · rw [if_pos hp] at hz
      exact hhit k hh (by omega) hC hp hz
    · rw [if_neg hp] at hz
      exact hstep k hh (by omega) hC hp (fun h2 hC2 => firstDay_run hend hhit hstep f (k + 1) h2 (by omega) hC2 hz)
theorem c_dries {l : Int32} (C : CQ h x rF n br dn W T rv rw) (hd : 4 ≤ d) (hq : ∀ h' T', CQ h' x rF n br dn W T' rv (s_dries rv br dn n W rw l).2 → Fr (SC x rF) h h' → Q (some (.int (s_dries rv br dn n W rw l).1)) h') : pz_V mX9_dries Ex Q d bc bs 0 [(0, .ref x), (1, .int l)] [] h := by
  obtain ⟨hr, hn, hW, hT, ⟨rO, td, ks, dw, HTop⟩, ⟨ru, nx, HL⟩, HW, HT, HRul, HRow⟩ := id C
  unfold s_dries at hq
  refine wX9_dries_0 hd (HTop.g2.mpr ⟨HL.i.mpr trivial, HL.g4.mpr ⟨fun hc => ?_, fun hc => ?_⟩⟩)
  · rw [if_neg hc] at hq
    obtain ⟨i, hi, rfl⟩ := (has_0 hn).mp hc
    rw [clamp (by omega)] at hq
    refine ⟨HTop.i.mpr trivial, q_start C (by omega) (fun h1 C1 hF1 => ⟨rfl, ?_⟩)⟩
    refine firstDay_run (p := fun k => (daysW rv br dn n k W).lv i = 0) (Z := fun o => ∀ h' T', CQ h' x rF n br dn W T' rv ((match o with | none => ((-2 : Int32), rw) | some k => (nI k, [(sumI (daysW rv br dn n k W).lv n).toInt64])) : pA).2 → Fr (SC x rF) h h' → Q (some (.int ((match o with | none => ((-2 : Int32), rw) | some k => (nI k, [(sumI (daysW rv br dn n k W).lv n).toInt64])) : pA).1)) h')
      (V := fun k hh => pz_V mX9_dries Ex Q d bc bs 19 [(0, .ref x), (1, .int (nI i)), (2, .int (nI k))] [] hh) (Ck := fun k hh => CQ hh x rF n br dn W (daysW rv br dn n k W) rv rw ∧ Fr (SC x rF) h hh) ?_ ?_ ?_ 100 0 h1 rfl ⟨C1, hF1⟩ hq
    · intro hh hC hz
      exact wX9_dries_19 hd ⟨fun _ => hz hh _ hC.1 hC.2, fun hc => absurd (nI_lt (a := 99) (b := 100) (by decide) (by decide)) hc⟩
    · intro k hh hk hC hp hz
      obtain ⟨-, -, -, -, ⟨rO2, td2, ks2, dw2, HTop2⟩, ⟨ru2, nx2, HL2⟩, HW2, HT2, -, ⟨nu2, HRow2, -⟩⟩ := id hC.1
      refine wX9_dries_19 hd ⟨fun hc => absurd hc (nI_nlt (a := 99) (by omega) (by decide)), fun _ => HTop2.g5.mpr (HT2.g0.mpr (HT2.r0.mpr ⟨vin (by omega) (by decide), ?_⟩))⟩
      rw [clamp (by omega)]
      refine ⟨fun hc => absurd hp hc, fun _ => HTop2.g1.mpr (HTop2.g2.mpr (HTop2.g5.mpr ⟨HL2.i.mpr trivial, q_total hC.1 (Nat.le_refl _) ⟨_, rfl, HRow2.i.mpr trivial, ?_⟩⟩))⟩
      exact q_tell hC.1 (Nat.le_refl _) (fun h3 C3 hF3 => ⟨rfl, hz h3 _ C3 (hC.2.tr hF3 (fun _ hb => hb))⟩)
    · intro k hh hk hC hp ih
      obtain ⟨-, -, -, -, ⟨rO2, td2, ks2, dw2, HTop2⟩, ⟨ru2, nx2, HL2⟩, HW2, HT2, -, -⟩ := id hC.1
      refine wX9_dries_19 hd ⟨fun hc => absurd hc (nI_nlt (a := 99) (by omega) (by decide)), fun _ => HTop2.g5.mpr (HT2.g0.mpr (HT2.r0.mpr ⟨vin (by omega) (by decide), ?_⟩))⟩
      rw [clamp (by omega), nI_1]
      refine ⟨fun _ => HTop2.g2.mpr (HTop2.g5.mpr (HTop2.g12.mpr ⟨HL2.i.mpr trivial, q_day hC.1 (Nat.le_refl _) (fun h3 C3 hF3 => ⟨rfl, ih h3 ⟨C3, hC.2.tr hF3 (fun _ hb => hb)⟩⟩)⟩)), fun hc => absurd hc hp⟩
  · rw [if_pos hc] at hq
    exact hq h T C Fr.rf
theorem c_brims {l : Int32} (C : CQ h x rF n br dn W T rv rw) (hd : 4 ≤ d) (hq : ∀ h' T', CQ h' x rF n br dn W T' rv (s_brims rv br dn n W rw l).2 → Fr (SC x rF) h h' → Q (some (.int (s_brims rv br dn n W rw l).1)) h') : pz_V mX9_brims Ex Q d bc bs 0 [(0, .ref x), (1, .int l)] [] h := by
  obtain ⟨hr, hn, hW, hT, ⟨rO, td, ks, dw, HTop⟩, ⟨ru, nx, HL⟩, HW, HT, HRul, HRow⟩ := id C
  unfold s_brims at hq
  refine wX9_brims_0 hd (HTop.g2.mpr ⟨HL.i.mpr trivial, HL.g4.mpr ⟨fun hc => ?_, fun hc => ?_⟩⟩)
  · rw [if_neg hc] at hq
    obtain ⟨i, hi, rfl⟩ := (has_0 hn).mp hc
    rw [clamp (by omega)] at hq
    refine ⟨HTop.i.mpr trivial, q_start C (by omega) (fun h1 C1 hF1 => ⟨rfl, ?_⟩)⟩
    refine firstDay_run (p := fun k => (daysW rv br dn n k W).lv i = br i) (Z := fun o => ∀ h' T', CQ h' x rF n br dn W T' rv ((match o with | none => ((-2 : Int32), rw) | some k => (nI k, [((daysW rv br dn n k W).sp - W.sp).toInt64])) : pA).2 → Fr (SC x rF) h h' → Q (some (.int ((match o with | none => ((-2 : Int32), rw) | some k => (nI k, [((daysW rv br dn n k W).sp - W.sp).toInt64])) : pA).1)) h')
      (V := fun k hh => pz_V mX9_brims Ex Q d bc bs 19 [(0, .ref x), (1, .int (nI i)), (2, .int (nI k))] [] hh) (Ck := fun k hh => CQ hh x rF n br dn W (daysW rv br dn n k W) rv rw ∧ Fr (SC x rF) h hh) ?_ ?_ ?_ 100 0 h1 rfl ⟨C1, hF1⟩ hq
    · intro hh hC hz
      exact wX9_brims_19 hd ⟨fun _ => hz hh _ hC.1 hC.2, fun hc => absurd (nI_lt (a := 99) (b := 100) (by decide) (by decide)) hc⟩
    · intro k hh hk hC hp hz
      obtain ⟨-, -, -, -, ⟨rO2, td2, ks2, dw2, HTop2⟩, ⟨ru2, nx2, HL2⟩, HW2, HT2, -, ⟨nu2, HRow2, -⟩⟩ := id hC.1
      refine wX9_brims_19 hd ⟨fun hc => absurd hc (nI_nlt (a := 99) (by omega) (by decide)), fun _ => HTop2.g5.mpr (HT2.g0.mpr (HT2.r0.mpr ⟨vin (by omega) (by decide), HTop2.g2.mpr (HL2.g0.mpr (HL2.r0.mpr ⟨vin (by omega) (by decide), ?_⟩))⟩))⟩
      rw [clamp (by omega)]
      refine ⟨fun hc => absurd hp hc, fun _ => HTop2.g1.mpr (HTop2.g5.mpr (HT2.g7.mpr (HTop2.g3.mpr (HW2.g7.mpr ⟨HRow2.i.mpr trivial, ?_⟩))))⟩
      exact q_tell hC.1 (Nat.le_refl _) (fun h3 C3 hF3 => ⟨rfl, hz h3 _ C3 (hC.2.tr hF3 (fun _ hb => hb))⟩)
    · intro k hh hk hC hp ih
      obtain ⟨-, -, -, -, ⟨rO2, td2, ks2, dw2, HTop2⟩, ⟨ru2, nx2, HL2⟩, HW2, HT2, -, -⟩ := id hC.1
      refine wX9_brims_19 hd ⟨fun hc => absurd hc (nI_nlt (a := 99) (by omega) (by decide)), fun _ => HTop2.g5.mpr (HT2.g0.mpr (HT2.r0.mpr ⟨vin (by omega) (by decide), HTop2.g2.mpr (HL2.g0.mpr (HL2.r0.mpr ⟨vin (by omega) (by decide), ?_⟩))⟩))⟩
      rw [clamp (by omega), nI_1]
      refine ⟨fun _ => HTop2.g2.mpr (HTop2.g5.mpr (HTop2.g12.mpr ⟨HL2.i.mpr trivial, q_day hC.1 (Nat.le_refl _) (fun h3 C3 hF3 => ⟨rfl, ih h3 ⟨C3, hC.2.tr hF3 (fun _ hb => hb)⟩⟩)⟩)), fun hc => absurd hc hp⟩
  · rw [if_pos hc] at hq
    exact hq h T C Fr.rf
theorem c_meets {l m : Int32} (C : CQ h x rF n br dn W T rv rw) (hd : 4 ≤ d) (hq : ∀ h' T', CQ h' x rF n br dn W T' rv (s_meets rv br dn n W rw l m).2 → Fr (SC x rF) h h' → Q (some (.int (s_meets rv br dn n W rw l m).1)) h') : pz_V mX9_meets Ex Q d bc bs 0 [(0, .ref x), (1, .int l), (2, .int m)] [] h := by
  obtain ⟨hr, hn, hW, hT, ⟨rO, td, ks, dw, HTop⟩, ⟨ru, nx, HL⟩, HW, HT, HRul, HRow⟩ := id C
  unfold s_meets at hq
  refine wX9_meets_0 hd (HTop.g2.mpr ⟨HL.i.mpr trivial, HL.g4.mpr ⟨fun hc => by rw [if_pos hc] at hq; exact hq h T C Fr.rf, fun hc => HTop.g2.mpr ⟨HL.i.mpr trivial, HL.g4.mpr ⟨fun hc2 => by rw [if_neg hc, if_pos hc2] at hq; exact hq h T C Fr.rf, fun hc2 => ⟨fun hc3 => ?_, fun hc3 => by rw [if_neg hc, if_neg hc2, if_pos hc3] at hq; exact hq h T C Fr.rf⟩⟩⟩⟩⟩)
  rw [if_neg hc, if_neg hc2, if_neg hc3] at hq
  obtain ⟨i, hi, rfl⟩ := (has_0 hn).mp hc
  obtain ⟨j, hj, rfl⟩ := (has_0 hn).mp hc2
  rw [clamp (by omega), clamp (by omega)] at hq
  refine ⟨HTop.i.mpr trivial, q_start C (by omega) (fun h1 C1 hF1 => ⟨rfl, ?_⟩)⟩
  refine firstDay_run (p := fun k => (daysW rv br dn n k W).lv i = (daysW rv br dn n k W).lv j) (Z := fun o => ∀ h' T', CQ h' x rF n br dn W T' rv ((match o with | none => ((-2 : Int32), rw) | some k => (nI k, [((daysW rv br dn n k W).lv i).toInt64])) : pA).2 → Fr (SC x rF) h h' → Q (some (.int ((match o with | none => ((-2 : Int32), rw) | some k => (nI k, [((daysW rv br dn n k W).lv i).toInt64])) : pA).1)) h')
    (V := fun k hh => pz_V mX9_meets Ex Q d bc bs 35 [(0, .ref x), (1, .int (nI i)), (2, .int (nI j)), (3, .int (nI k))] [] hh) (Ck := fun k hh => CQ hh x rF n br dn W (daysW rv br dn n k W) rv rw ∧ Fr (SC x rF) h hh) ?_ ?_ ?_ 100 0 h1 rfl ⟨C1, hF1⟩ hq
  · intro hh hC hz
    exact wX9_meets_35 hd ⟨fun _ => hz hh _ hC.1 hC.2, fun hc => absurd (nI_lt (a := 99) (b := 100) (by decide) (by decide)) hc⟩
  · intro k hh hk hC hp hz
    obtain ⟨-, -, -, -, ⟨rO2, td2, ks2, dw2, HTop2⟩, ⟨ru2, nx2, HL2⟩, HW2, HT2, -, ⟨nu2, HRow2, -⟩⟩ := id hC.1
    refine wX9_meets_35 hd ⟨fun hc => absurd hc (nI_nlt (a := 99) (by omega) (by decide)), fun _ => HTop2.g5.mpr (HT2.g0.mpr (HT2.r0.mpr ⟨vin (by omega) (by decide), HTop2.g5.mpr (HT2.g0.mpr (HT2.r0.mpr ⟨vin (by omega) (by decide), ?_⟩))⟩))⟩
    rw [clamp (by omega), clamp (by omega)]
    refine ⟨fun hc => absurd hp hc, fun _ => HTop2.g1.mpr (HTop2.g5.mpr (HT2.g0.mpr (HT2.r0.mpr ⟨vin (by omega) (by decide), HRow2.i.mpr trivial, ?_⟩)))⟩
    rw [clamp (by omega)]
    exact q_tell hC.1 (Nat.le_refl _) (fun h3 C3 hF3 => ⟨rfl, hz h3 _ C3 (hC.2.tr hF3 (fun _ hb => hb))⟩)
  · intro k hh hk hC hp ih
    obtain ⟨-, -, -, -, ⟨rO2, td2, ks2, dw2, HTop2⟩, ⟨ru2, nx2, HL2⟩, HW2, HT2, -, -⟩ := id hC.1
    refine wX9_meets_35 hd ⟨fun hc => absurd hc (nI_nlt (a := 99) (by omega) (by decide)), fun _ => HTop2.g5.mpr (HT2.g0.mpr (HT2.r0.mpr ⟨vin (by omega) (by decide), HTop2.g5.mpr (HT2.g0.mpr (HT2.r0.mpr ⟨vin (by omega) (by decide), ?_⟩))⟩))⟩
    rw [clamp (by omega), clamp (by omega), nI_1]
    refine ⟨fun _ => HTop2.g2.mpr (HTop2.g5.mpr (HTop2.g12.mpr ⟨HL2.i.mpr trivial, q_day hC.1 (Nat.le_refl _) (fun h3 C3 hF3 => ⟨rfl, ih h3 ⟨C3, hC.2.tr hF3 (fun _ hb => hb)⟩⟩)⟩)), fun hc => absurd hc hp⟩
theorem c_marks {l m : Int32} (C : CQ h x rF n br dn W T rv rw) (hd : 4 ≤ d) (hq : ∀ h' T', CQ h' x rF n br dn W T' rv (s_marks rv br dn n W rw l m).2 → Fr (SC x rF) h h' → Q (some (.int (s_marks rv br dn n W rw l m).1)) h') : pz_V mX9_marks Ex Q d bc bs 0 [(0, .ref x), (1, .int l), (2, .int m)] [] h := by
  obtain ⟨hr, hn, hW, hT, ⟨rO, td, ks, dw, HTop⟩, ⟨ru, nx, HL⟩, HW, HT, HRul, HRow⟩ := id C
  unfold s_marks at hq
  refine wX9_marks_0 hd (HTop.g2.mpr ⟨HL.i.mpr trivial, HL.g4.mpr ⟨fun hc => by rw [if_pos hc] at hq; exact hq h T C Fr.rf, fun hc => ⟨fun hc2 => ?_, fun hc2 => by rw [if_neg hc, if_pos hc2] at hq; exact hq h T C Fr.rf⟩⟩⟩)
  rw [if_neg hc, if_neg hc2] at hq
  obtain ⟨i, hi, rfl⟩ := (has_0 hn).mp hc
  obtain ⟨k, hk, rfl⟩ := (within_0 (hi := 99) (by decide)).mp hc2
  rw [clamp (by omega), clamp (by omega)] at hq
  dsimp only at hq
  refine ⟨HTop.i.mpr trivial, q_start C (by omega) (fun h1 C1 hF1 => ⟨rfl, ?_⟩)⟩
  obtain ⟨-, -, -, -, ⟨rO1, td1, ks1, dw1, HTop1⟩, ⟨ru1, nx1, HL1⟩, HW1, HT1, -, -⟩ := id C1
  refine HTop1.g5.mpr (HT1.g0.mpr (HT1.r0.mpr ⟨vin (by omega) (by decide), ?_⟩))
  rw [clamp (by omega)]
  generalize hf : (fun k => (daysW rv br dn n k W).lv i) = f at hq
  have hf' : ∀ k, (daysW rv br dn n k W).lv i = f k := fun k => congrFun hf k
  suffices H : ∀ (q j : Nat) (h4 : pz_H), j + q = k → CQ h4 x rF n br dn W (daysW rv br dn n j W) rv rw → Fr (SC x rF) h h4 → pz_V mX9_marks Ex Q d bc bs 49 [(0, .ref x), (1, .int (nI i)), (2, .int (nI k)), (3, .int (mkS f j).1), (4, .int (mkS f j).2.1), (5, .int (mkS f j).2.2.1), (6, .int (mkS f j).2.2.2), (7, .int (nI (j + 1)))] [] h4 by
    have := H k 0 h1 (Nat.zero_add _) C1 hF1
    rw [show (mkS f 0).1 = W.lv i from (hf' 0).symm, show (mkS f 0).2.1 = W.lv i from (hf' 0).symm] at this
    exact this
  intro q
  induction q with
  | zero =>
    intro j h4 hj C4 hF4
    have e : j = k := hj
    subst e
    obtain ⟨-, -, -, -, ⟨rO4, td4, ks4, dw4, HTop4⟩, ⟨ru4, nx4, HL4⟩, HW4, HT4, -, ⟨nu4, HRow4, -⟩⟩ := id C4
    refine wX9_marks_49 hd ⟨fun _ => HTop4.g1.mpr ⟨HRow4.i.mpr trivial, ?_⟩, fun hc => absurd (nI_lt (Nat.lt_succ_self _) (by omega)) hc⟩
    exact q_tell3 C4 (Nat.le_refl _) (fun h5 C5 hF5 => ⟨rfl, hq h5 _ C5 (hF4.tr hF5 (fun _ hb => hb))⟩)
  | succ q ih =>
    intro j h4 hj C4 hF4
    obtain ⟨-, -, -, -, ⟨rO4, td4, ks4, dw4, HTop4⟩, ⟨ru4, nx4, HL4⟩, HW4, HT4, -, -⟩ := id C4
    refine wX9_marks_49 hd ⟨fun hc => absurd hc (nI_nlt (by omega) (by omega)), fun _ => HTop4.g2.mpr (HTop4.g5.mpr (HTop4.g12.mpr ⟨HL4.i.mpr trivial, q_day C4 (Nat.le_refl _) (fun h5 C5 hF5 => ⟨rfl, ?_⟩)⟩))⟩
    obtain ⟨-, -, -, -, ⟨rO5, td5, ks5, dw5, HTop5⟩, -, -, HT5, -, -⟩ := id C5
    refine HTop5.g5.mpr (HT5.g0.mpr (HT5.r0.mpr ⟨vin (by omega) (by decide), ?_⟩))
    rw [clamp (by omega), nI_1]
    have g := ih (j + 1) h5 (by omega) C5 (hF4.tr hF5 (fun _ hb => hb))
    rw [show (dayW rv br dn n (daysW rv br dn n j W)).lv i = f (j + 1) from hf' (j + 1)]
    simp only [mkS] at g
    refine ⟨fun c1 => ⟨fun c2 => ?_, fun c2 => ?_⟩, fun c1 => ⟨fun c2 => ?_, fun c2 => ?_⟩⟩
    · rw [if_pos c1, if_pos c2, if_pos c1, if_pos c2] at g; exact g
    · rw [if_pos c1, if_neg c2, if_pos c1, if_neg c2] at g; exact g
    · rw [if_neg c1, if_pos c2, if_neg c1, if_pos c2] at g; exact g
    · rw [if_neg c1, if_neg c2, if_neg c1, if_neg c2] at g; exact g
theorem c_swims {l v m : Int32} (C : CQ h x rF n br dn W T rv rw) (hd : 4 ≤ d) (hq : ∀ h' T', CQ h' x rF n br dn W T' rv (s_swims rv br dn n W rw l v m).2 → Fr (SC x rF) h h' → Q (some (.int (s_swims rv br dn n W rw l v m).1)) h') : pz_V mX9_swims Ex Q d bc bs 0 [(0, .ref x), (1, .int l), (2, .int v), (3, .int m)] [] h := by
  obtain ⟨hr, hn, hW, hT, ⟨rO, td, ks, dw, HTop⟩, ⟨ru, nx, HL⟩, HW, HT, HRul, HRow⟩ := id C
  unfold s_swims at hq
  refine wX9_swims_0 hd (HTop.g2.mpr ⟨HL.i.mpr trivial, HL.g4.mpr ⟨fun hc => by rw [if_pos hc] at hq; exact hq h T C Fr.rf, fun hc => ⟨fun hc2 => by rw [if_neg hc, if_pos hc2] at hq; exact hq h T C Fr.rf, fun hc2 => ⟨fun hc3 => ?_, fun hc3 => by rw [if_neg hc, if_neg hc2, if_pos hc3] at hq; exact hq h T C Fr.rf⟩⟩⟩⟩)
  rw [if_neg hc, if_neg hc2, if_neg hc3] at hq
  obtain ⟨i, hi, rfl⟩ := (has_0 hn).mp hc
  obtain ⟨k, hk1, hk, rfl⟩ := (within_1 (lo := 1) (hi := 99) (by decide) (by decide)).mp hc3
  rw [clamp (by omega), clamp (by omega)] at hq
  dsimp only at hq
  refine ⟨HTop.i.mpr trivial, q_start C (by omega) (fun h1 C1 hF1 => ⟨rfl, ?_⟩)⟩
  generalize hf : (fun k => (daysW rv br dn n k W).lv i) = f at hq
  have hf' : ∀ k, (daysW rv br dn n k W).lv i = f k := fun k => congrFun hf k
  suffices H : ∀ (q j : Nat) (h4 : pz_H), j + q = k → CQ h4 x rF n br dn W (daysW rv br dn n j W) rv rw → Fr (SC x rF) h h4 → pz_V mX9_swims Ex Q d bc bs 52 [(0, .ref x), (1, .int (nI i)), (2, .int v), (3, .int (nI k)), (4, .int (swS f v j).1), (5, .int (swS f v j).2.1), (6, .int (swS f v j).2.2.1), (7, .int (swS f v j).2.2.2), (8, .int (nI (j + 1)))] [] h4 from H k 0 h1 (Nat.zero_add _) C1 hF1
  intro q
  induction q with
  | zero =>
    intro j h4 hj C4 hF4
    have e : j = k := hj
    subst e
    obtain ⟨-, -, -, -, ⟨rO4, td4, ks4, dw4, HTop4⟩, ⟨ru4, nx4, HL4⟩, HW4, HT4, -, ⟨nu4, HRow4, -⟩⟩ := id C4
    refine wX9_swims_52 hd ⟨fun _ => HTop4.g1.mpr ⟨HRow4.i.mpr trivial, ?_⟩, fun hc => absurd (nI_lt (Nat.lt_succ_self _) (by omega)) hc⟩
    exact q_tell2 C4 (Nat.le_refl _) (fun h5 C5 hF5 => ⟨rfl, hq h5 _ C5 (hF4.tr hF5 (fun _ hb => hb))⟩)
  | succ q ih =>
    intro j h4 hj C4 hF4
    obtain ⟨-, -, -, -, ⟨rO4, td4, ks4, dw4, HTop4⟩, ⟨ru4, nx4, HL4⟩, HW4, HT4, -, -⟩ := id C4
    refine wX9_swims_52 hd ⟨fun hc => absurd hc (nI_nlt (by omega) (by omega)), fun _ => HTop4.g2.mpr (HTop4.g5.mpr (HTop4.g12.mpr ⟨HL4.i.mpr trivial, q_day C4 (Nat.le_refl _) (fun h5 C5 hF5 => ⟨rfl, ?_⟩)⟩))⟩
    obtain ⟨-, -, -, -, ⟨rO5, td5, ks5, dw5, HTop5⟩, -, -, HT5, -, -⟩ := id C5
    refine HTop5.g5.mpr (HT5.g0.mpr (HT5.r0.mpr ⟨vin (by omega) (by decide), ?_⟩))
    rw [clamp (by omega), nI_1]
    have g := ih (j + 1) h5 (by omega) C5 (hF4.tr hF5 (fun _ hb => hb))
    rw [show (dayW rv br dn n (daysW rv br dn n j W)).lv i = f (j + 1) from hf' (j + 1)]
    unfold swS at g
    refine ⟨fun c1 => ?_, fun c1 => ⟨fun c2 => ?_, fun c2 => ?_⟩⟩
    · rw [if_pos c1] at g; exact g
    · rw [if_neg c1] at g
      dsimp only at g
      rw [if_neg c2] at g; exact g
    · rw [if_neg c1] at g
      dsimp only at g
      rw [if_pos c2] at g; exact g
end CL
