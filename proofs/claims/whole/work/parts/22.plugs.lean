/-! ===== fills, needs, crosses, spoon, course, basin, order: specs, and the class ===== -/
def DnOk (n : Nat) (dn : Nat → Int32) : Prop := ∀ i, i < n → dn i = -1 ∨ ∃ j, j < i ∧ dn i = nI j
theorem firstN_run {N : Nat} {p : Nat → Prop} [DecidablePred p] {Z : Option Nat → Prop} {V : Nat → pz_H → Prop} {Ck : Nat → pz_H → Prop}
    (hend : ∀ hh, Ck N hh → Z none → V N hh) (hhit : ∀ k hh, k < N → Ck k hh → p k → Z (some k) → V k hh) (hstep : ∀ k hh, k < N → Ck k hh → ¬ p k → (∀ h2, Ck (k + 1) h2 → V (k + 1) h2) → V k hh) :
    ∀ (f k : Nat) (hh : pz_H), k + f = N → Ck k hh → Z (firstDay p f k) → V k hh
  | 0, k, hh, hk, hC, hz => by
    have e : k = N := hk
    subst e
    exact hend hh hC hz
  | f + 1, k, hh, hk, hC, hz => by
    unfold firstDay at hz
    by_cases hp : p k
    · rw [if_pos hp] at hz
      exact hhit k hh (by omega) hC hp hz
    · rw [if_neg hp] at hz
      exact hstep k hh (by omega) hC hp (fun h2 hC2 => firstN_run hend hhit hstep f (k + 1) h2 (by omega) hC2 hz)
section SP
variable (rv : pRV) (br dn : Nat → Int32) (n : Nat) (W : pW) (rw : List Int64)
/-- best set, most, of the sets so far with so many bits -/
def flS (f : Nat → Int32) (many : Nat) : Nat → Int32 × Int32
  | 0 => (-1, -1)
  | s + 1 => if popc s = many ∧ ¬ f s ≤ (flS f many s).2 then (nI s, f s) else flS f many s
def flF (m : Nat) (s : Nat) : Int32 := sumI (daysW rv br dn n m (W.sOu s)).lv n
def s_fills (many m : Int32) : pA := if eX9_isWithin many 0 6 = 0 then (-1, rw) else if eX9_isWithin m 0 40 = 0 then (-1, rw) else
  let r := flS (flF rv br dn n W m.toNatClampNeg) many.toNatClampNeg (2 ^ n)
  if r.1 = -1 then (-2, rw) else (r.2, [r.1.toInt64])
def neF (i m t : Nat) : Int32 := (daysW rv br dn n m (W.sTp (upd W.tp i (nI t)))).lv i
def neA (i m : Nat) (o : Option Nat) : pA := match o with
  | none => (-2, rw)
  | some t => (nI t, [(neF rv br dn n W i m t).toInt64])
def s_needs (l v m : Int32) : pA := if eX1_has l (nI n) = 0 then (-1, rw) else if eX9_isWithin v 0 99 = 0 then (-1, rw) else if eX9_isWithin m 0 60 = 0 then (-1, rw) else
  neA rv br dn n W rw l.toNatClampNeg m.toNatClampNeg (firstDay (fun t => ¬ neF rv br dn n W l.toNatClampNeg m.toNatClampNeg t < v) 10 0)
def crossW (i : Nat) : pW := if W.ou.testBit i then W.sHr (upd W.hr i 0) else W.sOu (W.ou ||| 2 ^ i)
def crS (f : Nat → Int32) : Nat → Option (Nat × Int32)
  | 0 => none
  | i + 1 => match crS f i with
    | none => some (i, f i)
    | some (b, v) => if f i < v then some (i, f i) else some (b, v)
def crF (m : Nat) (i : Nat) : Int32 := sumI (daysW rv br dn n m (crossW W i)).lv n
def s_crosses (m : Int32) : pA := if eX9_isWithin m 1 40 = 0 then (-1, rw) else match crS (crF rv br dn n W m.toNatClampNeg) n with
  | none => (-2, rw)
  | some (b, v) => (nI b, [(1000 + sumI (daysW rv br dn n m.toNatClampNeg W).lv n - v).toInt64])
def spS (i : Nat) (v : Int32) : Nat → pW × Int32
  | 0 => (W, 0)
  | k + 1 =>
    let s := spS i v k
    let t := if s.1.lv i < v then s.1.lv i else v
    (dayW rv br dn n (s.1.sLv (upd s.1.lv i (s.1.lv i - t))), s.2 + t)
def s_spoon (l v m : Int32) : pA := if eX1_has l (nI n) = 0 then (-1, rw) else if eX9_isWithin v 1 9 = 0 then (-1, rw) else if eX9_isWithin m 0 60 = 0 then (-1, rw) else
  let r := spS rv br dn n W l.toNatClampNeg v m.toNatClampNeg
  (r.1.lv l.toNatClampNeg, [r.2.toInt64])
def crsS : Nat → Int32 → List Int64
  | 0, _ => []
  | f + 1, a => if eX1_has a (nI n) = 0 then [] else a.toInt64 :: crsS f (dn a.toNatClampNeg)
def s_course (l : Int32) : pA := if eX1_has l (nI n) = 0 then (-1, rw) else (nI (crsS dn n 6 l).length, crsS dn n 6 l)
def bsS (l : Nat) : Nat → Nat × Int32
  | 0 => (0, 0)
  | k + 1 =>
    let s := bsS l k
    if dn (l + 1 + k) = nI l then (s.1 ||| 2 ^ (l + 1 + k), s.2 + 1) else if ¬ dn (l + 1 + k) ≤ nI l ∧ s.1.testBit (dn (l + 1 + k)).toNatClampNeg then (s.1 ||| 2 ^ (l + 1 + k), s.2) else s
def s_basin (l : Int32) : pA := if eX1_has l (nI n) = 0 then (-1, rw) else
  let r := bsS dn l.toNatClampNeg (n - 1 - l.toNatClampNeg)
  (nI r.1, [(totS W.lv r.1 n).toInt64, r.2.toInt64])
/-- a day's dry ones, told: from (dried, row) on -/
def orI (lv : Nat → Int32) (s : Nat × List Int64) : Nat → Nat × List Int64
  | 0 => s
  | i + 1 => if lv i = 0 ∧ (orI lv s i).1.testBit i = false then ((orI lv s i).1 ||| 2 ^ i, (orI lv s i).2 ++ [(nI i).toInt64]) else orI lv s i
def orS : Nat → Nat × List Int64
  | 0 => (0, [])
  | k + 1 => orI (daysW rv br dn n k W).lv (orS k) n
def s_order (m : Int32) : pA := if eX9_isWithin m 0 99 = 0 then (-1, rw) else
  let r := orS rv br dn n W (m.toNatClampNeg + 1)
  (nI (popc r.1), r.2)
end SP
section CP
variable {Ex : State → Nat → Prop} {Q : Option Value → pz_H → Prop} {d bc bs : Nat} {h : pz_H} {x rF n : Nat} {br dn : Nat → Int32} {W T : pW} {rv : pRV} {rw : List Int64}
theorem c_needs {l v m : Int32} (C : CQ h x rF n br dn W T rv rw) (hd : 5 ≤ d) (hq : ∀ h' T', CQ h' x rF n br dn W T' rv (s_needs rv br dn n W rw l v m).2 → Fr (SC x rF) h h' → Q (some (.int (s_needs rv br dn n W rw l v m).1)) h') : pz_V mX9_needs Ex Q d bc bs 0 [(0, .ref x), (1, .int l), (2, .int v), (3, .int m)] [] h := by
  obtain ⟨hr0, hn0, hWo0, hTo0, ⟨rO0, td0, ks0, dw0, HTop0⟩, ⟨ru0, nx0, HL0⟩, HW0, HT0, ⟨pa0, sk0, th0, len0, src0, at0, HR0, hv0⟩, ⟨nu0, HRow0, hrow0⟩⟩ := id C
  unfold s_needs at hq
  refine wX9_needs_0 hd ?_
  simp only [HTop0.g0, HTop0.g1, HTop0.g2, HTop0.g3, HTop0.g4, HTop0.g5, HTop0.g6, HTop0.g7, HTop0.g8, HTop0.g9, HTop0.g10, HTop0.g11, HTop0.g12, HTop0.g13, HTop0.g15, HTop0.g16, HTop0.i, HL0.g0, HL0.g1, HL0.g2, HL0.g3, HL0.g4, HL0.i, HL0.r0, HL0.r1, HW0.g0, HW0.g1, HW0.g2, HW0.g3, HW0.g4, HW0.g5, HW0.g6, HW0.g7, HW0.g8, HW0.i, HW0.r0, HW0.r1, HW0.r2, HW0.r3, HW0.r4, HT0.g0, HT0.g1, HT0.g2, HT0.g3, HT0.g4, HT0.g5, HT0.g6, HT0.g7, HT0.g8, HT0.i, HT0.r0, HT0.r1, HT0.r2, HT0.r3, HT0.r4, HR0.i, HRow0.i, true_and]
  refine ⟨fun hc => by rw [if_pos hc] at hq; exact hq h T C Fr.rf, fun hc => ⟨fun hc2 => by rw [if_neg hc, if_pos hc2] at hq; exact hq h T C Fr.rf, fun hc2 => ⟨fun hc3 => ?_, fun hc3 => by rw [if_neg hc, if_neg hc2, if_pos hc3] at hq; exact hq h T C Fr.rf⟩⟩⟩
  rw [if_neg hc, if_neg hc2, if_neg hc3] at hq
  obtain ⟨i, hi, rfl⟩ := (has_0 hn0).mp hc
  obtain ⟨k, hk, rfl⟩ := (within_0 (hi := 60) (by decide)).mp hc3
  rw [clamp (by omega), clamp (by omega)] at hq
  refine firstN_run (N := 10) (p := fun t => ¬ neF rv br dn n W i k t < v) (Z := fun o => ∀ h' T', CQ h' x rF n br dn W T' rv (neA rv br dn n W rw i k o).2 → Fr (SC x rF) h h' → Q (some (.int (neA rv br dn n W rw i k o).1)) h')
    (V := fun t hh => pz_V mX9_needs Ex Q d bc bs 36 [(0, .ref x), (1, .int (nI i)), (2, .int v), (3, .int (nI k)), (4, .int (nI t))] [] hh) (Ck := fun t hh => (∃ T', CQ hh x rF n br dn W T' rv rw) ∧ Fr (SC x rF) h hh) ?_ ?_ ?_ 10 0 h rfl ⟨⟨T, C⟩, Fr.rf⟩ hq
  · intro hh hC hz
    obtain ⟨⟨T1, C1⟩, hF1⟩ := hC
    exact wX9_needs_36 hd ⟨fun _ => hz hh T1 C1 hF1, fun hc => absurd (nI_lt (a := 9) (b := 10) (by decide) (by decide)) hc⟩
  all_goals
    intro t hh ht hC hp hz
    obtain ⟨⟨T1, C1⟩, hF1⟩ := hC
    obtain ⟨hr1, hn1, hWo1, hTo1, ⟨rO1, td1, ks1, dw1, HTop1⟩, ⟨ru1, nx1, HL1⟩, HW1, HT1, ⟨pa1, sk1, th1, len1, src1, at1, HR1, hv1⟩, ⟨nu1, HRow1, hrow1⟩⟩ := id C1
    refine wX9_needs_36 hd ⟨fun hc => absurd hc (nI_nlt (a := 9) (by omega) (by decide)), fun _ => ⟨HTop1.i.mpr trivial, q_start C1 (by omega) (fun h2 C2 hF2 => ⟨rfl, ?_⟩)⟩⟩
    obtain ⟨hr2, hn2, hWo2, hTo2, ⟨rO2, td2, ks2, dw2, HTop2⟩, ⟨ru2, nx2, HL2⟩, HW2, HT2, ⟨pa2, sk2, th2, len2, src2, at2, HR2, hv2⟩, ⟨nu2, HRow2, hrow2⟩⟩ := id C2
    simp only [HTop2.g0, HTop2.g1, HTop2.g2, HTop2.g3, HTop2.g4, HTop2.g5, HTop2.g6, HTop2.g7, HTop2.g8, HTop2.g9, HTop2.g10, HTop2.g11, HTop2.g12, HTop2.g13, HTop2.g15, HTop2.g16, HTop2.i, HL2.g0, HL2.g1, HL2.g2, HL2.g3, HL2.g4, HL2.i, HL2.r0, HL2.r1, HW2.g0, HW2.g1, HW2.g2, HW2.g3, HW2.g4, HW2.g5, HW2.g6, HW2.g7, HW2.g8, HW2.i, HW2.r0, HW2.r1, HW2.r2, HW2.r3, HW2.r4, HT2.g0, HT2.g1, HT2.g2, HT2.g3, HT2.g4, HT2.g5, HT2.g6, HT2.g7, HT2.g8, HT2.i, HT2.r0, HT2.r1, HT2.r2, HT2.r3, HT2.r4, HR2.i, HRow2.i, true_and]
    refine q_tp C2 (by omega) (fun h3 C3 hF3 => ?_)
    obtain ⟨hr3, hn3, hWo3, hTo3, ⟨rO3, td3, ks3, dw3, HTop3⟩, ⟨ru3, nx3, HL3⟩, HW3, HT3, ⟨pa3, sk3, th3, len3, src3, at3, HR3, hv3⟩, ⟨nu3, HRow3, hrow3⟩⟩ := id C3
    simp only [HTop3.g0, HTop3.g1, HTop3.g2, HTop3.g3, HTop3.g4, HTop3.g5, HTop3.g6, HTop3.g7, HTop3.g8, HTop3.g9, HTop3.g10, HTop3.g11, HTop3.g12, HTop3.g13, HTop3.g15, HTop3.g16, HTop3.i, HL3.g0, HL3.g1, HL3.g2, HL3.g3, HL3.g4, HL3.i, HL3.r0, HL3.r1, HW3.g0, HW3.g1, HW3.g2, HW3.g3, HW3.g4, HW3.g5, HW3.g6, HW3.g7, HW3.g8, HW3.i, HW3.r0, HW3.r1, HW3.r2, HW3.r3, HW3.r4, HT3.g0, HT3.g1, HT3.g2, HT3.g3, HT3.g4, HT3.g5, HT3.g6, HT3.g7, HT3.g8, HT3.i, HT3.r0, HT3.r1, HT3.r2, HT3.r3, HT3.r4, HR3.i, HRow3.i, true_and]
    refine q_days C3 (by omega) (by omega) (fun h4 C4 hF4 => ⟨rfl, ?_⟩)
    obtain ⟨hr4, hn4, hWo4, hTo4, ⟨rO4, td4, ks4, dw4, HTop4⟩, ⟨ru4, nx4, HL4⟩, HW4, HT4, ⟨pa4, sk4, th4, len4, src4, at4, HR4, hv4⟩, ⟨nu4, HRow4, hrow4⟩⟩ := id C4
    have v6 : vp_in (nI i) 6 := vin (by omega) (by decide)
    have hF := ((hF1.tt hF2).tt hF3).tt hF4
    simp only [HTop4.g0, HTop4.g1, HTop4.g2, HTop4.g3, HTop4.g4, HTop4.g5, HTop4.g6, HTop4.g7, HTop4.g8, HTop4.g9, HTop4.g10, HTop4.g11, HTop4.g12, HTop4.g13, HTop4.g15, HTop4.g16, HTop4.i, HL4.g0, HL4.g1, HL4.g2, HL4.g3, HL4.g4, HL4.i, HL4.r0, HL4.r1, HW4.g0, HW4.g1, HW4.g2, HW4.g3, HW4.g4, HW4.g5, HW4.g6, HW4.g7, HW4.g8, HW4.i, HW4.r0, HW4.r1, HW4.r2, HW4.r3, HW4.r4, HT4.g0, HT4.g1, HT4.g2, HT4.g3, HT4.g4, HT4.g5, HT4.g6, HT4.g7, HT4.g8, HT4.i, HT4.r0, HT4.r1, HT4.r2, HT4.r3, HT4.r4, HR4.i, HRow4.i, v6, clamp (i := i) (by omega), nI_1, true_and]
  · exact ⟨fun hlt => absurd hlt hp, fun _ => q_tell C4 (by omega) (fun h5 C5 hF5 => ⟨rfl, hz h5 _ C5 (hF.tt hF5)⟩)⟩
  · exact ⟨fun _ => hz h4 ⟨⟨_, C4⟩, hF⟩, fun hlt => absurd hlt hp⟩
theorem c_spoon {l v m : Int32} (C : CQ h x rF n br dn W T rv rw) (hd : 4 ≤ d) (hq : ∀ h' T', CQ h' x rF n br dn W T' rv (s_spoon rv br dn n W rw l v m).2 → Fr (SC x rF) h h' → Q (some (.int (s_spoon rv br dn n W rw l v m).1)) h') : pz_V mX9_spoon Ex Q d bc bs 0 [(0, .ref x), (1, .int l), (2, .int v), (3, .int m)] [] h := by
  obtain ⟨hr0, hn0, hWo0, hTo0, ⟨rO0, td0, ks0, dw0, HTop0⟩, ⟨ru0, nx0, HL0⟩, HW0, HT0, ⟨pa0, sk0, th0, len0, src0, at0, HR0, hv0⟩, ⟨nu0, HRow0, hrow0⟩⟩ := id C
  unfold s_spoon at hq
  refine wX9_spoon_0 hd ?_
  simp only [HTop0.g0, HTop0.g1, HTop0.g2, HTop0.g3, HTop0.g4, HTop0.g5, HTop0.g6, HTop0.g7, HTop0.g8, HTop0.g9, HTop0.g10, HTop0.g11, HTop0.g12, HTop0.g13, HTop0.g15, HTop0.g16, HTop0.i, HL0.g0, HL0.g1, HL0.g2, HL0.g3, HL0.g4, HL0.i, HL0.r0, HL0.r1, HW0.g0, HW0.g1, HW0.g2, HW0.g3, HW0.g4, HW0.g5, HW0.g6, HW0.g7, HW0.g8, HW0.i, HW0.r0, HW0.r1, HW0.r2, HW0.r3, HW0.r4, HT0.g0, HT0.g1, HT0.g2, HT0.g3, HT0.g4, HT0.g5, HT0.g6, HT0.g7, HT0.g8, HT0.i, HT0.r0, HT0.r1, HT0.r2, HT0.r3, HT0.r4, HR0.i, HRow0.i, true_and]
  refine ⟨fun hc => by rw [if_pos hc] at hq; exact hq h T C Fr.rf, fun hc => ⟨fun hc2 => by rw [if_neg hc, if_pos hc2] at hq; exact hq h T C Fr.rf, fun hc2 => ⟨fun hc3 => ?_, fun hc3 => by rw [if_neg hc, if_neg hc2, if_pos hc3] at hq; exact hq h T C Fr.rf⟩⟩⟩
  rw [if_neg hc, if_neg hc2, if_neg hc3] at hq
  obtain ⟨i, hi, rfl⟩ := (has_0 hn0).mp hc
  obtain ⟨k, hk, rfl⟩ := (within_0 (hi := 60) (by decide)).mp hc3
  rw [clamp (by omega), clamp (by omega)] at hq
  dsimp only at hq
  have v6 : vp_in (nI i) 6 := vin (by omega) (by decide)
  refine q_start C (by omega) (fun h1 C1 hF1 => ⟨rfl, ?_⟩)
  suffices H : ∀ (q j : Nat) (h2 : pz_H), j + q = k → CQ h2 x rF n br dn W (spS rv br dn n W i v j).1 rv rw → Fr (SC x rF) h h2 → pz_V mX9_spoon Ex Q d bc bs 43 [(0, .ref x), (1, .int (nI i)), (2, .int v), (3, .int (nI k)), (4, .int (spS rv br dn n W i v j).2), (5, .int (nI j))] [] h2 from H k 0 h1 (Nat.zero_add _) C1 hF1
  intro q
  induction q with
  | zero =>
    intro j h2 hj C2 hF2
    have e : j = k := hj
    subst e
    obtain ⟨hr2, hn2, hWo2, hTo2, ⟨rO2, td2, ks2, dw2, HTop2⟩, ⟨ru2, nx2, HL2⟩, HW2, HT2, ⟨pa2, sk2, th2, len2, src2, at2, HR2, hv2⟩, ⟨nu2, HRow2, hrow2⟩⟩ := id C2
    refine wX9_spoon_43 hd ?_
    simp only [HTop2.g0, HTop2.g1, HTop2.g2, HTop2.g3, HTop2.g4, HTop2.g5, HTop2.g6, HTop2.g7, HTop2.g8, HTop2.g9, HTop2.g10, HTop2.g11, HTop2.g12, HTop2.g13, HTop2.g15, HTop2.g16, HTop2.i, HL2.g0, HL2.g1, HL2.g2, HL2.g3, HL2.g4, HL2.i, HL2.r0, HL2.r1, HW2.g0, HW2.g1, HW2.g2, HW2.g3, HW2.g4, HW2.g5, HW2.g6, HW2.g7, HW2.g8, HW2.i, HW2.r0, HW2.r1, HW2.r2, HW2.r3, HW2.r4, HT2.g0, HT2.g1, HT2.g2, HT2.g3, HT2.g4, HT2.g5, HT2.g6, HT2.g7, HT2.g8, HT2.i, HT2.r0, HT2.r1, HT2.r2, HT2.r3, HT2.r4, HR2.i, HRow2.i, true_and]
    refine ⟨fun _ => q_tell C2 (by omega) (fun h3 C3 hF3 => ⟨rfl, ?_⟩), fun hc => absurd (nI_le (Nat.le_refl _) (by omega)) hc⟩
    obtain ⟨hr3, hn3, hWo3, hTo3, ⟨rO3, td3, ks3, dw3, HTop3⟩, ⟨ru3, nx3, HL3⟩, HW3, HT3, ⟨pa3, sk3, th3, len3, src3, at3, HR3, hv3⟩, ⟨nu3, HRow3, hrow3⟩⟩ := id C3
    simp only [HTop3.g0, HTop3.g1, HTop3.g2, HTop3.g3, HTop3.g4, HTop3.g5, HTop3.g6, HTop3.g7, HTop3.g8, HTop3.g9, HTop3.g10, HTop3.g11, HTop3.g12, HTop3.g13, HTop3.g15, HTop3.g16, HTop3.i, HL3.g0, HL3.g1, HL3.g2, HL3.g3, HL3.g4, HL3.i, HL3.r0, HL3.r1, HW3.g0, HW3.g1, HW3.g2, HW3.g3, HW3.g4, HW3.g5, HW3.g6, HW3.g7, HW3.g8, HW3.i, HW3.r0, HW3.r1, HW3.r2, HW3.r3, HW3.r4, HT3.g0, HT3.g1, HT3.g2, HT3.g3, HT3.g4, HT3.g5, HT3.g6, HT3.g7, HT3.g8, HT3.i, HT3.r0, HT3.r1, HT3.r2, HT3.r3, HT3.r4, HR3.i, HRow3.i, v6, clamp (i := i) (by omega), true_and]
    exact hq h3 _ C3 (hF2.tt hF3)
  | succ q ih =>
    intro j h2 hj C2 hF2
    obtain ⟨hr2, hn2, hWo2, hTo2, ⟨rO2, td2, ks2, dw2, HTop2⟩, ⟨ru2, nx2, HL2⟩, HW2, HT2, ⟨pa2, sk2, th2, len2, src2, at2, HR2, hv2⟩, ⟨nu2, HRow2, hrow2⟩⟩ := id C2
    refine wX9_spoon_43 hd ?_
    simp only [HTop2.g0, HTop2.g1, HTop2.g2, HTop2.g3, HTop2.g4, HTop2.g5, HTop2.g6, HTop2.g7, HTop2.g8, HTop2.g9, HTop2.g10, HTop2.g11, HTop2.g12, HTop2.g13, HTop2.g15, HTop2.g16, HTop2.i, HL2.g0, HL2.g1, HL2.g2, HL2.g3, HL2.g4, HL2.i, HL2.r0, HL2.r1, HW2.g0, HW2.g1, HW2.g2, HW2.g3, HW2.g4, HW2.g5, HW2.g6, HW2.g7, HW2.g8, HW2.i, HW2.r0, HW2.r1, HW2.r2, HW2.r3, HW2.r4, HT2.g0, HT2.g1, HT2.g2, HT2.g3, HT2.g4, HT2.g5, HT2.g6, HT2.g7, HT2.g8, HT2.i, HT2.r0, HT2.r1, HT2.r2, HT2.r3, HT2.r4, HR2.i, HRow2.i, v6, clamp (i := i) (by omega), nI_1, true_and]
    refine ⟨fun hc => absurd hc (nI_ge (by omega) (by omega)), fun _ => q_lv C2 (by omega) (fun h3 C3 hF3 => ?_)⟩
    obtain ⟨hr3, hn3, hWo3, hTo3, ⟨rO3, td3, ks3, dw3, HTop3⟩, ⟨ru3, nx3, HL3⟩, HW3, HT3, ⟨pa3, sk3, th3, len3, src3, at3, HR3, hv3⟩, ⟨nu3, HRow3, hrow3⟩⟩ := id C3
    simp only [HTop3.g0, HTop3.g1, HTop3.g2, HTop3.g3, HTop3.g4, HTop3.g5, HTop3.g6, HTop3.g7, HTop3.g8, HTop3.g9, HTop3.g10, HTop3.g11, HTop3.g12, HTop3.g13, HTop3.g15, HTop3.g16, HTop3.i, HL3.g0, HL3.g1, HL3.g2, HL3.g3, HL3.g4, HL3.i, HL3.r0, HL3.r1, HW3.g0, HW3.g1, HW3.g2, HW3.g3, HW3.g4, HW3.g5, HW3.g6, HW3.g7, HW3.g8, HW3.i, HW3.r0, HW3.r1, HW3.r2, HW3.r3, HW3.r4, HT3.g0, HT3.g1, HT3.g2, HT3.g3, HT3.g4, HT3.g5, HT3.g6, HT3.g7, HT3.g8, HT3.i, HT3.r0, HT3.r1, HT3.r2, HT3.r3, HT3.r4, HR3.i, HRow3.i, true_and]
    exact q_day C3 (by omega) (fun h4 C4 hF4 => ⟨rfl, ih (j + 1) h4 (by omega) C4 ((hF2.tt hF3).tt hF4)⟩)
theorem c_course {l : Int32} (C : CQ h x rF n br dn W T rv rw) (hd : 1 ≤ d) (hq : ∀ h' T', CQ h' x rF n br dn W T' rv (s_course dn n rw l).2 → Fr (SC x rF) h h' → Q (some (.int (s_course dn n rw l).1)) h') : pz_V mX9_course Ex Q d bc bs 0 [(0, .ref x), (1, .int l)] [] h := by
  obtain ⟨hr0, hn0, hWo0, hTo0, ⟨rO0, td0, ks0, dw0, HTop0⟩, ⟨ru0, nx0, HL0⟩, HW0, HT0, ⟨pa0, sk0, th0, len0, src0, at0, HR0, hv0⟩, ⟨nu0, HRow0, hrow0⟩⟩ := id C
  unfold s_course at hq
  refine wX9_course_0 hd ?_
  simp only [HTop0.g0, HTop0.g1, HTop0.g2, HTop0.g3, HTop0.g4, HTop0.g5, HTop0.g6, HTop0.g7, HTop0.g8, HTop0.g9, HTop0.g10, HTop0.g11, HTop0.g12, HTop0.g13, HTop0.g15, HTop0.g16, HTop0.i, HL0.g0, HL0.g1, HL0.g2, HL0.g3, HL0.g4, HL0.i, HL0.r0, HL0.r1, HW0.g0, HW0.g1, HW0.g2, HW0.g3, HW0.g4, HW0.g5, HW0.g6, HW0.g7, HW0.g8, HW0.i, HW0.r0, HW0.r1, HW0.r2, HW0.r3, HW0.r4, HT0.g0, HT0.g1, HT0.g2, HT0.g3, HT0.g4, HT0.g5, HT0.g6, HT0.g7, HT0.g8, HT0.i, HT0.r0, HT0.r1, HT0.r2, HT0.r3, HT0.r4, HR0.i, HRow0.i, true_and]
  refine ⟨fun hc => ?_, fun hc => by rw [if_pos hc] at hq; exact hq h T C Fr.rf⟩
  rw [if_neg hc] at hq
  obtain ⟨-, K⟩ := q_clear (K := fun h7 => pz_V mX9_course Ex Q d bc bs 24 [(0, .ref x), (2, .int 0), (3, .int l)] [] h7) C (fun h1 C1 hF1 => by
    suffices H : ∀ (f : Nat) (a : Int32) (h2 : pz_H) (r2 : List Int64), r2.length + f = 6 → r2 ++ crsS dn n f a = crsS dn n 6 l → CQ h2 x rF n br dn W T rv r2 → Fr (SC x rF) h h2 → pz_V mX9_course Ex Q d bc bs 24 [(0, .ref x), (2, .int (nI r2.length)), (3, .int a)] [] h2 from H 6 l h1 [] rfl rfl C1 hF1
    intro f
    induction f with
    | zero =>
      intro a h2 r2 hl he C2 hF2
      have e : r2 = crsS dn n 6 l := by rw [← he]; simp [crsS]
      refine wX9_course_24 hd ⟨fun _ => ?_, fun hc => absurd (nI_le (a := 6) (b := r2.length) (by omega) (by omega)) hc⟩
      rw [e] at C2 ⊢
      exact hq h2 _ C2 hF2
    | succ f ih =>
      intro a h2 r2 hl he C2 hF2
      obtain ⟨hr2, hn2, hWo2, hTo2, ⟨rO2, td2, ks2, dw2, HTop2⟩, ⟨ru2, nx2, HL2⟩, HW2, HT2, ⟨pa2, sk2, th2, len2, src2, at2, HR2, hv2⟩, ⟨nu2, HRow2, hrow2⟩⟩ := id C2
      refine wX9_course_24 hd ⟨fun hc => absurd hc (nI_ge (b := 6) (by omega) (by decide)), fun _ => ?_⟩
      simp only [HTop2.g0, HTop2.g1, HTop2.g2, HTop2.g3, HTop2.g4, HTop2.g5, HTop2.g6, HTop2.g7, HTop2.g8, HTop2.g9, HTop2.g10, HTop2.g11, HTop2.g12, HTop2.g13, HTop2.g15, HTop2.g16, HTop2.i, HL2.g0, HL2.g1, HL2.g2, HL2.g3, HL2.g4, HL2.i, HL2.r0, HL2.r1, HW2.g0, HW2.g1, HW2.g2, HW2.g3, HW2.g4, HW2.g5, HW2.g6, HW2.g7, HW2.g8, HW2.i, HW2.r0, HW2.r1, HW2.r2, HW2.r3, HW2.r4, HT2.g0, HT2.g1, HT2.g2, HT2.g3, HT2.g4, HT2.g5, HT2.g6, HT2.g7, HT2.g8, HT2.i, HT2.r0, HT2.r1, HT2.r2, HT2.r3, HT2.r4, HR2.i, HRow2.i, nI_1, true_and]
      have ec : crsS dn n (f + 1) a = if eX1_has a (nI n) = 0 then [] else a.toInt64 :: crsS dn n f (dn a.toNatClampNeg) := rfl
      rw [ec] at he
      refine ⟨fun hb => ?_, fun hb => q_add C2 (by omega) (fun h3 C3 hF3 => ⟨rfl, ?_⟩)⟩
      · rw [if_pos hb, List.append_nil] at he
        rw [he] at C2 ⊢
        exact hq h2 _ C2 hF2
      · rw [if_neg hb] at he
        obtain ⟨i, hi, rfl⟩ := (has_0 hn0).mp hb
        have v6 : vp_in (nI i) 6 := vin (by omega) (by decide)
        obtain ⟨hr3, hn3, hWo3, hTo3, ⟨rO3, td3, ks3, dw3, HTop3⟩, ⟨ru3, nx3, HL3⟩, HW3, HT3, ⟨pa3, sk3, th3, len3, src3, at3, HR3, hv3⟩, ⟨nu3, HRow3, hrow3⟩⟩ := id C3
        simp only [HTop3.g0, HTop3.g1, HTop3.g2, HTop3.g3, HTop3.g4, HTop3.g5, HTop3.g6, HTop3.g7, HTop3.g8, HTop3.g9, HTop3.g10, HTop3.g11, HTop3.g12, HTop3.g13, HTop3.g15, HTop3.g16, HTop3.i, HL3.g0, HL3.g1, HL3.g2, HL3.g3, HL3.g4, HL3.i, HL3.r0, HL3.r1, HW3.g0, HW3.g1, HW3.g2, HW3.g3, HW3.g4, HW3.g5, HW3.g6, HW3.g7, HW3.g8, HW3.i, HW3.r0, HW3.r1, HW3.r2, HW3.r3, HW3.r4, HT3.g0, HT3.g1, HT3.g2, HT3.g3, HT3.g4, HT3.g5, HT3.g6, HT3.g7, HT3.g8, HT3.i, HT3.r0, HT3.r1, HT3.r2, HT3.r3, HT3.r4, HR3.i, HRow3.i, v6, clamp (i := i) (by omega), true_and]
        have g := ih (dn i) h3 (r2 ++ [(nI i).toInt64]) (by simp; omega) (by rw [← he, clamp (by omega)]; simp) C3 (hF2.tt hF3)
        rw [List.length_append] at g
        exact g)
  exact K
theorem c_crosses {m : Int32} (C : CQ h x rF n br dn W T rv rw) (hd : 5 ≤ d) (hq : ∀ h' T', CQ h' x rF n br dn W T' rv (s_crosses rv br dn n W rw m).2 → Fr (SC x rF) h h' → Q (some (.int (s_crosses rv br dn n W rw m).1)) h') : pz_V mX9_crosses Ex Q d bc bs 0 [(0, .ref x), (1, .int m)] [] h := by
  obtain ⟨hr0, hn0, hWo0, hTo0, ⟨rO0, td0, ks0, dw0, HTop0⟩, ⟨ru0, nx0, HL0⟩, HW0, HT0, ⟨pa0, sk0, th0, len0, src0, at0, HR0, hv0⟩, ⟨nu0, HRow0, hrow0⟩⟩ := id C
  unfold s_crosses at hq
  refine wX9_crosses_0 hd ?_
  simp only [HTop0.g0, HTop0.g1, HTop0.g2, HTop0.g3, HTop0.g4, HTop0.g5, HTop0.g6, HTop0.g7, HTop0.g8, HTop0.g9, HTop0.g10, HTop0.g11, HTop0.g12, HTop0.g13, HTop0.g15, HTop0.g16, HTop0.i, HL0.g0, HL0.g1, HL0.g2, HL0.g3, HL0.g4, HL0.i, HL0.r0, HL0.r1, HW0.g0, HW0.g1, HW0.g2, HW0.g3, HW0.g4, HW0.g5, HW0.g6, HW0.g7, HW0.g8, HW0.i, HW0.r0, HW0.r1, HW0.r2, HW0.r3, HW0.r4, HT0.g0, HT0.g1, HT0.g2, HT0.g3, HT0.g4, HT0.g5, HT0.g6, HT0.g7, HT0.g8, HT0.i, HT0.r0, HT0.r1, HT0.r2, HT0.r3, HT0.r4, HR0.i, HRow0.i, true_and]
  refine ⟨fun hc => ?_, fun hc => by rw [if_pos hc] at hq; exact hq h T C Fr.rf⟩
  rw [if_neg hc] at hq
  obtain ⟨k, hk, hk2, rfl⟩ := (within_1 (lo := 1) (hi := 40) (by decide) (by decide)).mp hc
  rw [clamp (by omega)] at hq
  refine ⟨fun h0 => ?_, fun h0 => ?_⟩
  · have hn1 : 0 < n := by
      rcases Nat.eq_zero_or_pos n with q | q
      · exact absurd (by rw [q]; rfl) h0
      · exact q
    have key : ∀ i, crS (crF rv br dn n W k) (i + 1) ≠ none := by
      intro i
      unfold crS
      split
      · simp
      · split <;> simp
    suffices H : ∀ (q i : Nat) (le lo : Int32) (h2 : pz_H) (T2 : pW), i + q = n → CQ h2 x rF n br dn W T2 rv rw → Fr (SC x rF) h h2 → ((crS (crF rv br dn n W k) i = none ∧ lo = -1) ∨ ∃ b, b < n ∧ crS (crF rv br dn n W k) i = some (b, le) ∧ lo = nI b) → pz_V mX9_crosses Ex Q d bc bs 32 [(0, .ref x), (1, .int (nI k)), (2, .int le), (3, .int lo), (4, .int (nI i))] [] h2 from H n 0 0 (-1) h T (Nat.zero_add _) C Fr.rf (Or.inl ⟨rfl, rfl⟩)
    intro q
    induction q with
    | zero =>
      intro i le lo h2 T2 hi C2 hF2 hst
      have e : i = n := hi
      subst e
      obtain ⟨hr2, hn2, hWo2, hTo2, ⟨rO2, td2, ks2, dw2, HTop2⟩, ⟨ru2, nx2, HL2⟩, HW2, HT2, ⟨pa2, sk2, th2, len2, src2, at2, HR2, hv2⟩, ⟨nu2, HRow2, hrow2⟩⟩ := id C2
      refine wX9_crosses_32 hd ?_
      simp only [HTop2.g0, HTop2.g1, HTop2.g2, HTop2.g3, HTop2.g4, HTop2.g5, HTop2.g6, HTop2.g7, HTop2.g8, HTop2.g9, HTop2.g10, HTop2.g11, HTop2.g12, HTop2.g13, HTop2.g15, HTop2.g16, HTop2.i, HL2.g0, HL2.g1, HL2.g2, HL2.g3, HL2.g4, HL2.i, HL2.r0, HL2.r1, HW2.g0, HW2.g1, HW2.g2, HW2.g3, HW2.g4, HW2.g5, HW2.g6, HW2.g7, HW2.g8, HW2.i, HW2.r0, HW2.r1, HW2.r2, HW2.r3, HW2.r4, HT2.g0, HT2.g1, HT2.g2, HT2.g3, HT2.g4, HT2.g5, HT2.g6, HT2.g7, HT2.g8, HT2.i, HT2.r0, HT2.r1, HT2.r2, HT2.r3, HT2.r4, HR2.i, HRow2.i, true_and]
      refine ⟨fun _ => q_start C2 (by omega) (fun h3 C3 hF3 => ⟨rfl, ?_⟩), fun hc => absurd (nI_le (Nat.le_refl _) (by omega)) hc⟩
      obtain ⟨hr3, hn3, hWo3, hTo3, ⟨rO3, td3, ks3, dw3, HTop3⟩, ⟨ru3, nx3, HL3⟩, HW3, HT3, ⟨pa3, sk3, th3, len3, src3, at3, HR3, hv3⟩, ⟨nu3, HRow3, hrow3⟩⟩ := id C3
      simp only [HTop3.g0, HTop3.g1, HTop3.g2, HTop3.g3, HTop3.g4, HTop3.g5, HTop3.g6, HTop3.g7, HTop3.g8, HTop3.g9, HTop3.g10, HTop3.g11, HTop3.g12, HTop3.g13, HTop3.g15, HTop3.g16, HTop3.i, HL3.g0, HL3.g1, HL3.g2, HL3.g3, HL3.g4, HL3.i, HL3.r0, HL3.r1, HW3.g0, HW3.g1, HW3.g2, HW3.g3, HW3.g4, HW3.g5, HW3.g6, HW3.g7, HW3.g8, HW3.i, HW3.r0, HW3.r1, HW3.r2, HW3.r3, HW3.r4, HT3.g0, HT3.g1, HT3.g2, HT3.g3, HT3.g4, HT3.g5, HT3.g6, HT3.g7, HT3.g8, HT3.i, HT3.r0, HT3.r1, HT3.r2, HT3.r3, HT3.r4, HR3.i, HRow3.i, true_and]
      refine q_days C3 (by omega) (by omega) (fun h4 C4 hF4 => ⟨rfl, ?_⟩)
      obtain ⟨hr4, hn4, hWo4, hTo4, ⟨rO4, td4, ks4, dw4, HTop4⟩, ⟨ru4, nx4, HL4⟩, HW4, HT4, ⟨pa4, sk4, th4, len4, src4, at4, HR4, hv4⟩, ⟨nu4, HRow4, hrow4⟩⟩ := id C4
      simp only [HTop4.g0, HTop4.g1, HTop4.g2, HTop4.g3, HTop4.g4, HTop4.g5, HTop4.g6, HTop4.g7, HTop4.g8, HTop4.g9, HTop4.g10, HTop4.g11, HTop4.g12, HTop4.g13, HTop4.g15, HTop4.g16, HTop4.i, HL4.g0, HL4.g1, HL4.g2, HL4.g3, HL4.g4, HL4.i, HL4.r0, HL4.r1, HW4.g0, HW4.g1, HW4.g2, HW4.g3, HW4.g4, HW4.g5, HW4.g6, HW4.g7, HW4.g8, HW4.i, HW4.r0, HW4.r1, HW4.r2, HW4.r3, HW4.r4, HT4.g0, HT4.g1, HT4.g2, HT4.g3, HT4.g4, HT4.g5, HT4.g6, HT4.g7, HT4.g8, HT4.i, HT4.r0, HT4.r1, HT4.r2, HT4.r3, HT4.r4, HR4.i, HRow4.i, true_and]
      refine q_total C4 (by omega) ⟨_, rfl, ?_⟩
      simp only [HTop4.g0, HTop4.g1, HTop4.g2, HTop4.g3, HTop4.g4, HTop4.g5, HTop4.g6, HTop4.g7, HTop4.g8, HTop4.g9, HTop4.g10, HTop4.g11, HTop4.g12, HTop4.g13, HTop4.g15, HTop4.g16, HTop4.i, HL4.g0, HL4.g1, HL4.g2, HL4.g3, HL4.g4, HL4.i, HL4.r0, HL4.r1, HW4.g0, HW4.g1, HW4.g2, HW4.g3, HW4.g4, HW4.g5, HW4.g6, HW4.g7, HW4.g8, HW4.i, HW4.r0, HW4.r1, HW4.r2, HW4.r3, HW4.r4, HT4.g0, HT4.g1, HT4.g2, HT4.g3, HT4.g4, HT4.g5, HT4.g6, HT4.g7, HT4.g8, HT4.i, HT4.r0, HT4.r1, HT4.r2, HT4.r3, HT4.r4, HR4.i, HRow4.i, true_and]
      refine q_tell C4 (by omega) (fun h5 C5 hF5 => ⟨rfl, ?_⟩)
      rcases hst with ⟨e1, e2⟩ | ⟨b, hb, e1, e2⟩
      · obtain ⟨j, rfl⟩ : ∃ j, i = j + 1 := ⟨i - 1, by omega⟩
        exact absurd e1 (key j)
      · rw [e1] at hq
        subst e2
        exact hq h5 _ C5 (((hF2.tt hF3).tt hF4).tt hF5)
    | succ q ih =>
      intro i le lo h2 T2 hi C2 hF2 hst
      obtain ⟨hr2, hn2, hWo2, hTo2, ⟨rO2, td2, ks2, dw2, HTop2⟩, ⟨ru2, nx2, HL2⟩, HW2, HT2, ⟨pa2, sk2, th2, len2, src2, at2, HR2, hv2⟩, ⟨nu2, HRow2, hrow2⟩⟩ := id C2
      have tail : ∀ (h3 : pz_H), CQ h3 x rF n br dn W (crossW W i) rv rw → Fr (SC x rF) h h3 → pz_V mX9_crosses Ex Q d bc bs 90 [(0, .ref x), (1, .int (nI k)), (2, .int le), (3, .int lo), (4, .int (nI i))] [] h3 := by
        intro h3 C3 hF3
        obtain ⟨hr3, hn3, hWo3, hTo3, ⟨rO3, td3, ks3, dw3, HTop3⟩, ⟨ru3, nx3, HL3⟩, HW3, HT3, ⟨pa3, sk3, th3, len3, src3, at3, HR3, hv3⟩, ⟨nu3, HRow3, hrow3⟩⟩ := id C3
        refine wX9_crosses_90 hd ?_
        simp only [HTop3.g0, HTop3.g1, HTop3.g2, HTop3.g3, HTop3.g4, HTop3.g5, HTop3.g6, HTop3.g7, HTop3.g8, HTop3.g9, HTop3.g10, HTop3.g11, HTop3.g12, HTop3.g13, HTop3.g15, HTop3.g16, HTop3.i, HL3.g0, HL3.g1, HL3.g2, HL3.g3, HL3.g4, HL3.i, HL3.r0, HL3.r1, HW3.g0, HW3.g1, HW3.g2, HW3.g3, HW3.g4, HW3.g5, HW3.g6, HW3.g7, HW3.g8, HW3.i, HW3.r0, HW3.r1, HW3.r2, HW3.r3, HW3.r4, HT3.g0, HT3.g1, HT3.g2, HT3.g3, HT3.g4, HT3.g5, HT3.g6, HT3.g7, HT3.g8, HT3.i, HT3.r0, HT3.r1, HT3.r2, HT3.r3, HT3.r4, HR3.i, HRow3.i, nI_1, true_and]
        refine q_days C3 (by omega) (by omega) (fun h4 C4 hF4 => ⟨rfl, ?_⟩)
        obtain ⟨hr4, hn4, hWo4, hTo4, ⟨rO4, td4, ks4, dw4, HTop4⟩, ⟨ru4, nx4, HL4⟩, HW4, HT4, ⟨pa4, sk4, th4, len4, src4, at4, HR4, hv4⟩, ⟨nu4, HRow4, hrow4⟩⟩ := id C4
        simp only [HTop4.g0, HTop4.g1, HTop4.g2, HTop4.g3, HTop4.g4, HTop4.g5, HTop4.g6, HTop4.g7, HTop4.g8, HTop4.g9, HTop4.g10, HTop4.g11, HTop4.g12, HTop4.g13, HTop4.g15, HTop4.g16, HTop4.i, HL4.g0, HL4.g1, HL4.g2, HL4.g3, HL4.g4, HL4.i, HL4.r0, HL4.r1, HW4.g0, HW4.g1, HW4.g2, HW4.g3, HW4.g4, HW4.g5, HW4.g6, HW4.g7, HW4.g8, HW4.i, HW4.r0, HW4.r1, HW4.r2, HW4.r3, HW4.r4, HT4.g0, HT4.g1, HT4.g2, HT4.g3, HT4.g4, HT4.g5, HT4.g6, HT4.g7, HT4.g8, HT4.i, HT4.r0, HT4.r1, HT4.r2, HT4.r3, HT4.r4, HR4.i, HRow4.i, true_and]
        refine q_total C4 (by omega) ⟨_, rfl, ?_⟩
        have ec : crS (crF rv br dn n W k) (i + 1) = match crS (crF rv br dn n W k) i with | none => some (i, crF rv br dn n W k i) | some (b, v) => if crF rv br dn n W k i < v then some (i, crF rv br dn n W k i) else some (b, v) := rfl
        have take : crS (crF rv br dn n W k) (i + 1) = some (i, crF rv br dn n W k i) → pz_V mX9_crosses Ex Q d bc bs 32 [(0, .ref x), (1, .int (nI k)), (2, .int (crF rv br dn n W k i)), (3, .int (nI i)), (4, .int (nI (i + 1)))] [] h4 := fun e => ih (i + 1) _ _ h4 _ (by omega) C4 (hF3.tt hF4) (Or.inr ⟨i, by omega, e, rfl⟩)
        rcases hst with ⟨e1, e2⟩ | ⟨b, hb, e1, e2⟩
        · rw [e1] at ec
          exact ⟨fun _ => take ec, fun hne => absurd e2 hne⟩
        · rw [e1] at ec
          dsimp only at ec
          refine ⟨fun he => ?_, fun _ => ⟨fun hle => ?_, fun hgt => ?_⟩⟩
          · rw [e2] at he
            have hp : (0 : Int32) ≤ nI b := nI_pos' (by omega)
            rw [he] at hp
            exact absurd hp (by decide)
          · have hnl : ¬ crF rv br dn n W k i < le := Int32.not_lt.mpr hle
            rw [if_neg hnl] at ec
            exact ih (i + 1) le lo h4 _ (by omega) C4 (hF3.tt hF4) (Or.inr ⟨b, hb, ec, e2⟩)
          · have hlt : crF rv br dn n W k i < le := Int32.not_le.mp hgt
            rw [if_pos hlt] at ec
            exact take ec
      refine wX9_crosses_32 hd ?_
      simp only [HTop2.g0, HTop2.g1, HTop2.g2, HTop2.g3, HTop2.g4, HTop2.g5, HTop2.g6, HTop2.g7, HTop2.g8, HTop2.g9, HTop2.g10, HTop2.g11, HTop2.g12, HTop2.g13, HTop2.g15, HTop2.g16, HTop2.i, HL2.g0, HL2.g1, HL2.g2, HL2.g3, HL2.g4, HL2.i, HL2.r0, HL2.r1, HW2.g0, HW2.g1, HW2.g2, HW2.g3, HW2.g4, HW2.g5, HW2.g6, HW2.g7, HW2.g8, HW2.i, HW2.r0, HW2.r1, HW2.r2, HW2.r3, HW2.r4, HT2.g0, HT2.g1, HT2.g2, HT2.g3, HT2.g4, HT2.g5, HT2.g6, HT2.g7, HT2.g8, HT2.i, HT2.r0, HT2.r1, HT2.r2, HT2.r3, HT2.r4, HR2.i, HRow2.i, true_and]
      refine ⟨fun hc => absurd hc (nI_ge (by omega) (by omega)), fun _ => q_start C2 (by omega) (fun h3 C3 hF3 => ⟨rfl, ?_⟩)⟩
      obtain ⟨hr3, hn3, hWo3, hTo3, ⟨rO3, td3, ks3, dw3, HTop3⟩, ⟨ru3, nx3, HL3⟩, HW3, HT3, ⟨pa3, sk3, th3, len3, src3, at3, HR3, hv3⟩, ⟨nu3, HRow3, hrow3⟩⟩ := id C3
      simp only [HTop3.g0, HTop3.g1, HTop3.g2, HTop3.g3, HTop3.g4, HTop3.g5, HTop3.g6, HTop3.g7, HTop3.g8, HTop3.g9, HTop3.g10, HTop3.g11, HTop3.g12, HTop3.g13, HTop3.g15, HTop3.g16, HTop3.i, HL3.g0, HL3.g1, HL3.g2, HL3.g3, HL3.g4, HL3.i, HL3.r0, HL3.r1, HW3.g0, HW3.g1, HW3.g2, HW3.g3, HW3.g4, HW3.g5, HW3.g6, HW3.g7, HW3.g8, HW3.i, HW3.r0, HW3.r1, HW3.r2, HW3.r3, HW3.r4, HT3.g0, HT3.g1, HT3.g2, HT3.g3, HT3.g4, HT3.g5, HT3.g6, HT3.g7, HT3.g8, HT3.i, HT3.r0, HT3.r1, HT3.r2, HT3.r3, HT3.r4, HR3.i, HRow3.i, shl1 i (by omega), or_nI, true_and]
      have hW := C.2.2.1
      refine ⟨fun hb => ?_, fun hb => ?_⟩
      · have e := (isIn_0 hW.1 (by omega)).mp hb
        have ew : crossW W i = W.sOu (W.ou ||| 2 ^ i) := by unfold crossW; rw [e]; rfl
        have h2i : 2 ^ i < 64 := by
          have := Nat.pow_lt_pow_right (a := 2) (m := i) (n := 6) (by decide) (by omega)
          omega
        refine q_ou C3 (or64 hW.1 h2i) (fun h4 C4 hF4 => tail h4 (by rw [ew]; exact C4) ((hF2.tt hF3).tt hF4))
      · have e : W.ou.testBit i = true := by
          cases q : W.ou.testBit i
          · exact absurd ((isIn_0 hW.1 (by omega)).mpr q) hb
          · rfl
        have ew : crossW W i = W.sHr (upd W.hr i 0) := by unfold crossW; rw [e]; rfl
        exact q_hr C3 (by omega) (fun h4 C4 hF4 => tail h4 (by rw [ew]; exact C4) ((hF2.tt hF3).tt hF4))
  · have e : n = 0 := by
      rcases Nat.eq_zero_or_pos n with q | q
      · exact q
      · exact absurd h0 (nI_ne0 q (by omega))
    subst e
    exact hq h T C Fr.rf
theorem flS_hit {f : Nat → Int32} {many N s : Nat} (hs : s < N) (hp : popc s = many) (hN : N ≤ 64) (hf : ∀ t, t < N → 0 ≤ f t) : ¬ (flS f many N).1 = -1 ∧ 0 ≤ (flS f many N).2 := by
  have all : ∀ M, M ≤ N → (¬ (flS f many M).1 = -1 ∧ 0 ≤ (flS f many M).2) ∨ (flS f many M = (-1, -1) ∧ ∀ t, t < M → ¬ popc t = many) := by
    intro M
    induction M with
    | zero => intro _; exact Or.inr ⟨rfl, fun t ht => absurd ht (Nat.not_lt_zero t)⟩
    | succ M ih =>
      intro hM
      unfold flS
      by_cases hc : popc M = many ∧ ¬ f M ≤ (flS f many M).2
      · rw [if_pos hc]
        refine Or.inl ⟨fun e => ?_, hf M (by omega)⟩
        have hp : (0 : Int32) ≤ nI M := nI_pos' (by omega)
        dsimp only at e
        rw [e] at hp
        exact absurd hp (by decide)
      · rw [if_neg hc]
        rcases ih (by omega) with h1 | ⟨h1, h2⟩
        · exact Or.inl h1
        · refine Or.inr ⟨h1, fun t ht => ?_⟩
          rcases Nat.lt_or_ge t M with q | q
          · exact h2 t q
          · have : t = M := by omega
            subst this
            intro e
            refine hc ⟨e, fun q => ?_⟩
            rw [h1] at q
            have := hf t (by omega)
            exact absurd (Int32.le_trans this q) (by decide)
  rcases all N (Nat.le_refl _) with h1 | ⟨h1, h2⟩
  · exact h1
  · exact absurd hp (h2 s hs)
theorem flS_no {f : Nat → Int32} {many : Nat} : ∀ {N : Nat}, (∀ t, t < N → ¬ popc t = many) → flS f many N = (-1, -1)
  | 0, _ => rfl
  | N + 1, h => by
    unfold flS
    rw [if_neg (fun q => h N (by omega) q.1)]
    exact flS_no (fun t ht => h t (by omega))
theorem popc_all : ∀ n, n ≤ 6 → ∀ k, k ≤ n → popc (2 ^ k - 1) = k ∧ 2 ^ k - 1 < 2 ^ n := by decide +kernel
theorem Rg.sOu {br : Nat → Int32} {W : pW} {o : Nat} (h : Rg n br W) : Rg n br (W.sOu o) := h
theorem c_fills {many m : Int32} (C : CQ h x rF n br dn W T rv rw) (hRg : Rg n br W) (hd : 5 ≤ d) (hq : ∀ h' T', CQ h' x rF n br dn W T' rv (s_fills rv br dn n W rw many m).2 → Fr (SC x rF) h h' → Q (some (.int (s_fills rv br dn n W rw many m).1)) h') : pz_V mX9_fills Ex Q d bc bs 0 [(0, .ref x), (1, .int many), (2, .int m)] [] h := by
  obtain ⟨hr0, hn0, hWo0, hTo0, ⟨rO0, td0, ks0, dw0, HTop0⟩, ⟨ru0, nx0, HL0⟩, HW0, HT0, ⟨pa0, sk0, th0, len0, src0, at0, HR0, hv0⟩, ⟨nu0, HRow0, hrow0⟩⟩ := id C
  unfold s_fills at hq
  have h64 := pow_le64 hn0
  have hp2 := Nat.two_pow_pos n
  refine wX9_fills_0 hd ?_
  simp only [HTop0.g0, HTop0.g1, HTop0.g2, HTop0.g3, HTop0.g4, HTop0.g5, HTop0.g6, HTop0.g7, HTop0.g8, HTop0.g9, HTop0.g10, HTop0.g11, HTop0.g12, HTop0.g13, HTop0.g15, HTop0.g16, HTop0.i, HL0.g0, HL0.g1, HL0.g2, HL0.g3, HL0.g4, HL0.i, HL0.r0, HL0.r1, HW0.g0, HW0.g1, HW0.g2, HW0.g3, HW0.g4, HW0.g5, HW0.g6, HW0.g7, HW0.g8, HW0.i, HW0.r0, HW0.r1, HW0.r2, HW0.r3, HW0.r4, HT0.g0, HT0.g1, HT0.g2, HT0.g3, HT0.g4, HT0.g5, HT0.g6, HT0.g7, HT0.g8, HT0.i, HT0.r0, HT0.r1, HT0.r2, HT0.r3, HT0.r4, HR0.i, HRow0.i, true_and]
  refine ⟨fun hc => by rw [if_pos hc] at hq; exact hq h T C Fr.rf, fun hc => ⟨fun hc2 => ?_, fun hc2 => by rw [if_neg hc, if_pos hc2] at hq; exact hq h T C Fr.rf⟩⟩
  rw [if_neg hc, if_neg hc2] at hq
  obtain ⟨c, hcc, rfl⟩ := (within_0 (hi := 6) (by decide)).mp hc
  obtain ⟨k, hk, rfl⟩ := (within_0 (hi := 40) (by decide)).mp hc2
  rw [clamp (by omega), clamp (by omega)] at hq
  dsimp only at hq
  have hf : ∀ t, 0 ≤ flF rv br dn n W k t := fun t => by
    have := (sumI_Bt hn0 (fun i hi => ((hRg.sOu (o := t)).days (rv := rv) (dn := dn) hn0 k).lv hi) n (Nat.le_refl _)).1
    rw [le_i]
    exact this
  refine ⟨fun hle => ?_, fun hgt => ?_⟩
  · have hcn : c ≤ n := by
      rcases Nat.lt_or_ge n c with q | q
      · exact absurd hle (nI_ge q (by omega))
      · exact q
    suffices H : ∀ (q s : Nat) (be : Int32) (h2 : pz_H) (T2 : pW), s + q = 2 ^ n → CQ h2 x rF n br dn W T2 rv rw → Fr (SC x rF) h h2 → (¬ (flS (flF rv br dn n W k) c s).1 = -1 → be = (flS (flF rv br dn n W k) c s).1) → pz_V mX9_fills Ex Q d bc bs 44 [(0, .ref x), (1, .int (nI c)), (2, .int (nI k)), (3, .int (flS (flF rv br dn n W k) c s).2), (4, .int be), (5, .int (nI s))] [] h2 from H (2 ^ n) 0 0 h T (Nat.zero_add _) C Fr.rf (fun q => absurd rfl q)
    intro q
    induction q with
    | zero =>
      intro s be h2 T2 hs C2 hF2 hbe
      have e : s = 2 ^ n := hs
      subst e
      obtain ⟨hr2, hn2, hWo2, hTo2, ⟨rO2, td2, ks2, dw2, HTop2⟩, ⟨ru2, nx2, HL2⟩, HW2, HT2, ⟨pa2, sk2, th2, len2, src2, at2, HR2, hv2⟩, ⟨nu2, HRow2, hrow2⟩⟩ := id C2
      refine wX9_fills_44 hd ?_
      simp only [HTop2.g0, HTop2.g1, HTop2.g2, HTop2.g3, HTop2.g4, HTop2.g5, HTop2.g6, HTop2.g7, HTop2.g8, HTop2.g9, HTop2.g10, HTop2.g11, HTop2.g12, HTop2.g13, HTop2.g15, HTop2.g16, HTop2.i, HL2.g0, HL2.g1, HL2.g2, HL2.g3, HL2.g4, HL2.i, HL2.r0, HL2.r1, HW2.g0, HW2.g1, HW2.g2, HW2.g3, HW2.g4, HW2.g5, HW2.g6, HW2.g7, HW2.g8, HW2.i, HW2.r0, HW2.r1, HW2.r2, HW2.r3, HW2.r4, HT2.g0, HT2.g1, HT2.g2, HT2.g3, HT2.g4, HT2.g5, HT2.g6, HT2.g7, HT2.g8, HT2.i, HT2.r0, HT2.r1, HT2.r2, HT2.r3, HT2.r4, HR2.i, HRow2.i, all_eq n hn0, true_and]
      refine ⟨fun _ => q_tell C2 (by omega) (fun h3 C3 hF3 => ⟨rfl, ?_⟩), fun hc => absurd (nI_lt (by omega) (by omega)) hc⟩
      obtain ⟨g1, g2⟩ := popc_all n hn0 c hcn
      have g3 := (flS_hit (f := flF rv br dn n W k) g2 g1 h64 (fun t _ => hf t)).1
      rw [hbe g3] at C3
      rw [if_neg g3] at hq
      exact hq h3 _ C3 (hF2.tt hF3)
    | succ q ih =>
      intro s be h2 T2 hs C2 hF2 hbe
      have ec : flS (flF rv br dn n W k) c (s + 1) = if popc s = c ∧ ¬ flF rv br dn n W k s ≤ (flS (flF rv br dn n W k) c s).2 then (nI s, flF rv br dn n W k s) else flS (flF rv br dn n W k) c s := rfl
      obtain ⟨hr2, hn2, hWo2, hTo2, ⟨rO2, td2, ks2, dw2, HTop2⟩, ⟨ru2, nx2, HL2⟩, HW2, HT2, ⟨pa2, sk2, th2, len2, src2, at2, HR2, hv2⟩, ⟨nu2, HRow2, hrow2⟩⟩ := id C2
      refine wX9_fills_44 hd ?_
      simp only [HTop2.g0, HTop2.g1, HTop2.g2, HTop2.g3, HTop2.g4, HTop2.g5, HTop2.g6, HTop2.g7, HTop2.g8, HTop2.g9, HTop2.g10, HTop2.g11, HTop2.g12, HTop2.g13, HTop2.g15, HTop2.g16, HTop2.i, HL2.g0, HL2.g1, HL2.g2, HL2.g3, HL2.g4, HL2.i, HL2.r0, HL2.r1, HW2.g0, HW2.g1, HW2.g2, HW2.g3, HW2.g4, HW2.g5, HW2.g6, HW2.g7, HW2.g8, HW2.i, HW2.r0, HW2.r1, HW2.r2, HW2.r3, HW2.r4, HT2.g0, HT2.g1, HT2.g2, HT2.g3, HT2.g4, HT2.g5, HT2.g6, HT2.g7, HT2.g8, HT2.i, HT2.r0, HT2.r1, HT2.r2, HT2.r3, HT2.r4, HR2.i, HRow2.i, all_eq n hn0, nI_1, true_and]
      refine ⟨fun hc => absurd hc (nI_nlt (by omega) (by omega)), fun _ => t_bitCount (by omega) ⟨_, rfl, ?_⟩⟩
      dsimp only
      rw [nI_inj' (a := popc s) (b := c) (by have := popc_le n hn0 s (by omega); omega) (by omega)]
      have g := ih (s + 1)
      rw [ec] at g
      refine ⟨fun hne => ?_, fun he => ?_⟩
      · rw [if_neg (fun q => hne q.1)] at g
        exact g be h2 T2 (by omega) C2 hF2 hbe
      · simp only [HTop2.g0, HTop2.g1, HTop2.g2, HTop2.g3, HTop2.g4, HTop2.g5, HTop2.g6, HTop2.g7, HTop2.g8, HTop2.g9, HTop2.g10, HTop2.g11, HTop2.g12, HTop2.g13, HTop2.g15, HTop2.g16, HTop2.i, HL2.g0, HL2.g1, HL2.g2, HL2.g3, HL2.g4, HL2.i, HL2.r0, HL2.r1, HW2.g0, HW2.g1, HW2.g2, HW2.g3, HW2.g4, HW2.g5, HW2.g6, HW2.g7, HW2.g8, HW2.i, HW2.r0, HW2.r1, HW2.r2, HW2.r3, HW2.r4, HT2.g0, HT2.g1, HT2.g2, HT2.g3, HT2.g4, HT2.g5, HT2.g6, HT2.g7, HT2.g8, HT2.i, HT2.r0, HT2.r1, HT2.r2, HT2.r3, HT2.r4, HR2.i, HRow2.i, true_and]
        refine q_start C2 (by omega) (fun h3 C3 hF3 => ⟨rfl, ?_⟩)
        obtain ⟨hr3, hn3, hWo3, hTo3, ⟨rO3, td3, ks3, dw3, HTop3⟩, ⟨ru3, nx3, HL3⟩, HW3, HT3, ⟨pa3, sk3, th3, len3, src3, at3, HR3, hv3⟩, ⟨nu3, HRow3, hrow3⟩⟩ := id C3
        simp only [HTop3.g0, HTop3.g1, HTop3.g2, HTop3.g3, HTop3.g4, HTop3.g5, HTop3.g6, HTop3.g7, HTop3.g8, HTop3.g9, HTop3.g10, HTop3.g11, HTop3.g12, HTop3.g13, HTop3.g15, HTop3.g16, HTop3.i, HL3.g0, HL3.g1, HL3.g2, HL3.g3, HL3.g4, HL3.i, HL3.r0, HL3.r1, HW3.g0, HW3.g1, HW3.g2, HW3.g3, HW3.g4, HW3.g5, HW3.g6, HW3.g7, HW3.g8, HW3.i, HW3.r0, HW3.r1, HW3.r2, HW3.r3, HW3.r4, HT3.g0, HT3.g1, HT3.g2, HT3.g3, HT3.g4, HT3.g5, HT3.g6, HT3.g7, HT3.g8, HT3.i, HT3.r0, HT3.r1, HT3.r2, HT3.r3, HT3.r4, HR3.i, HRow3.i, true_and]
        refine q_ou C3 (by omega) (fun h4 C4 hF4 => ?_)
        obtain ⟨hr4, hn4, hWo4, hTo4, ⟨rO4, td4, ks4, dw4, HTop4⟩, ⟨ru4, nx4, HL4⟩, HW4, HT4, ⟨pa4, sk4, th4, len4, src4, at4, HR4, hv4⟩, ⟨nu4, HRow4, hrow4⟩⟩ := id C4
        simp only [HTop4.g0, HTop4.g1, HTop4.g2, HTop4.g3, HTop4.g4, HTop4.g5, HTop4.g6, HTop4.g7, HTop4.g8, HTop4.g9, HTop4.g10, HTop4.g11, HTop4.g12, HTop4.g13, HTop4.g15, HTop4.g16, HTop4.i, HL4.g0, HL4.g1, HL4.g2, HL4.g3, HL4.g4, HL4.i, HL4.r0, HL4.r1, HW4.g0, HW4.g1, HW4.g2, HW4.g3, HW4.g4, HW4.g5, HW4.g6, HW4.g7, HW4.g8, HW4.i, HW4.r0, HW4.r1, HW4.r2, HW4.r3, HW4.r4, HT4.g0, HT4.g1, HT4.g2, HT4.g3, HT4.g4, HT4.g5, HT4.g6, HT4.g7, HT4.g8, HT4.i, HT4.r0, HT4.r1, HT4.r2, HT4.r3, HT4.r4, HR4.i, HRow4.i, true_and]
        refine q_days C4 (by omega) (by omega) (fun h5 C5 hF5 => ⟨rfl, ?_⟩)
        obtain ⟨hr5, hn5, hWo5, hTo5, ⟨rO5, td5, ks5, dw5, HTop5⟩, ⟨ru5, nx5, HL5⟩, HW5, HT5, ⟨pa5, sk5, th5, len5, src5, at5, HR5, hv5⟩, ⟨nu5, HRow5, hrow5⟩⟩ := id C5
        simp only [HTop5.g0, HTop5.g1, HTop5.g2, HTop5.g3, HTop5.g4, HTop5.g5, HTop5.g6, HTop5.g7, HTop5.g8, HTop5.g9, HTop5.g10, HTop5.g11, HTop5.g12, HTop5.g13, HTop5.g15, HTop5.g16, HTop5.i, HL5.g0, HL5.g1, HL5.g2, HL5.g3, HL5.g4, HL5.i, HL5.r0, HL5.r1, HW5.g0, HW5.g1, HW5.g2, HW5.g3, HW5.g4, HW5.g5, HW5.g6, HW5.g7, HW5.g8, HW5.i, HW5.r0, HW5.r1, HW5.r2, HW5.r3, HW5.r4, HT5.g0, HT5.g1, HT5.g2, HT5.g3, HT5.g4, HT5.g5, HT5.g6, HT5.g7, HT5.g8, HT5.i, HT5.r0, HT5.r1, HT5.r2, HT5.r3, HT5.r4, HR5.i, HRow5.i, true_and]
        refine q_total C5 (by omega) ⟨_, rfl, ?_⟩
        have hF := ((hF2.tt hF3).tt hF4).tt hF5
        refine ⟨fun hle2 => ?_, fun hgt => ?_⟩
        · rw [if_neg (fun q => q.2 hle2)] at g
          exact g be h5 _ (by omega) C5 hF hbe
        · rw [if_pos (c := popc s = c ∧ ¬ flF rv br dn n W k s ≤ (flS (flF rv br dn n W k) c s).2) ⟨he, hgt⟩] at g
          exact g (nI s) h5 _ (by omega) C5 hF (fun _ => rfl)
  · have hcn : n < c := by
      rcases Nat.lt_or_ge n c with q | q
      · exact q
      · exact absurd (nI_le q (by omega)) hgt
    have e := flS_no (f := flF rv br dn n W k) (many := c) (N := 2 ^ n) (fun t ht q => by
      have := popc_le n hn0 t ht
      omega)
    rw [e] at hq
    exact hq h T C Fr.rf
theorem isIn_neg {s : Nat} (hs : s < 64) {k : Nat} (hk : k < 6) : ¬ eX9_isIn (nI s) (nI k) = 0 ↔ s.testBit k = true := by
  rw [isIn_0 hs hk]
  cases s.testBit k <;> simp
theorem two_lt {i : Nat} (hi : i < 6) : 2 ^ i < 64 := by
  have := Nat.pow_lt_pow_right (a := 2) (m := i) (n := 6) (by decide) (by omega)
  omega
theorem bsS_lt (l : Nat) : ∀ k, l + k < 6 → (bsS dn l k).1 < 64
  | 0, _ => by show (0 : Nat) < 64; decide
  | k + 1, h => by
    have ih := bsS_lt l k (by omega)
    unfold bsS
    dsimp only
    split
    · exact or64 ih (two_lt (by omega))
    · split
      · exact or64 ih (two_lt (by omega))
      · exact ih
theorem c_basin {l : Int32} (C : CQ h x rF n br dn W T rv rw) (hDn : DnOk n dn) (hd : 3 ≤ d) (hq : ∀ h' T', CQ h' x rF n br dn W T' rv (s_basin dn n W rw l).2 → Fr (SC x rF) h h' → Q (some (.int (s_basin dn n W rw l).1)) h') : pz_V mX9_basin Ex Q d bc bs 0 [(0, .ref x), (1, .int l)] [] h := by
  obtain ⟨hr0, hn0, hWo0, hTo0, ⟨rO0, td0, ks0, dw0, HTop0⟩, ⟨ru0, nx0, HL0⟩, HW0, HT0, ⟨pa0, sk0, th0, len0, src0, at0, HR0, hv0⟩, ⟨nu0, HRow0, hrow0⟩⟩ := id C
  unfold s_basin at hq
  refine wX9_basin_0 hd ?_
  simp only [HTop0.g0, HTop0.g1, HTop0.g2, HTop0.g3, HTop0.g4, HTop0.g5, HTop0.g6, HTop0.g7, HTop0.g8, HTop0.g9, HTop0.g10, HTop0.g11, HTop0.g12, HTop0.g13, HTop0.g15, HTop0.g16, HTop0.i, HL0.g0, HL0.g1, HL0.g2, HL0.g3, HL0.g4, HL0.i, HL0.r0, HL0.r1, HW0.g0, HW0.g1, HW0.g2, HW0.g3, HW0.g4, HW0.g5, HW0.g6, HW0.g7, HW0.g8, HW0.i, HW0.r0, HW0.r1, HW0.r2, HW0.r3, HW0.r4, HT0.g0, HT0.g1, HT0.g2, HT0.g3, HT0.g4, HT0.g5, HT0.g6, HT0.g7, HT0.g8, HT0.i, HT0.r0, HT0.r1, HT0.r2, HT0.r3, HT0.r4, HR0.i, HRow0.i, true_and]
  refine ⟨fun hc => ?_, fun hc => by rw [if_pos hc] at hq; exact hq h T C Fr.rf⟩
  rw [if_neg hc] at hq
  obtain ⟨i, hi, rfl⟩ := (has_0 hn0).mp hc
  rw [clamp (by omega), nI_1] at *
  dsimp only at hq
  suffices H : ∀ (q k : Nat), k + q = n - 1 - i → pz_V mX9_basin Ex Q d bc bs 22 [(0, .ref x), (1, .int (nI i)), (2, .int (nI (bsS dn i k).1)), (3, .int (bsS dn i k).2), (4, .int (nI (i + 1 + k)))] [] h from H (n - 1 - i) 0 (Nat.zero_add _)
  intro q
  induction q with
  | zero =>
    intro k hk
    have e : k = n - 1 - i := hk
    rw [← e] at hq
    refine wX9_basin_22 hd ?_
    simp only [HTop0.g0, HTop0.g1, HTop0.g2, HTop0.g3, HTop0.g4, HTop0.g5, HTop0.g6, HTop0.g7, HTop0.g8, HTop0.g9, HTop0.g10, HTop0.g11, HTop0.g12, HTop0.g13, HTop0.g15, HTop0.g16, HTop0.i, HL0.g0, HL0.g1, HL0.g2, HL0.g3, HL0.g4, HL0.i, HL0.r0, HL0.r1, HW0.g0, HW0.g1, HW0.g2, HW0.g3, HW0.g4, HW0.g5, HW0.g6, HW0.g7, HW0.g8, HW0.i, HW0.r0, HW0.r1, HW0.r2, HW0.r3, HW0.r4, HT0.g0, HT0.g1, HT0.g2, HT0.g3, HT0.g4, HT0.g5, HT0.g6, HT0.g7, HT0.g8, HT0.i, HT0.r0, HT0.r1, HT0.r2, HT0.r3, HT0.r4, HR0.i, HRow0.i, true_and]
    refine ⟨fun _ => t_totalOf HL0 HW0 hn0 (bsS_lt i k (by omega)) (by omega) ⟨_, rfl, ?_⟩, fun hc => absurd (nI_le (by omega) (by omega)) hc⟩
    simp only [HTop0.g0, HTop0.g1, HTop0.g2, HTop0.g3, HTop0.g4, HTop0.g5, HTop0.g6, HTop0.g7, HTop0.g8, HTop0.g9, HTop0.g10, HTop0.g11, HTop0.g12, HTop0.g13, HTop0.g15, HTop0.g16, HTop0.i, HL0.g0, HL0.g1, HL0.g2, HL0.g3, HL0.g4, HL0.i, HL0.r0, HL0.r1, HW0.g0, HW0.g1, HW0.g2, HW0.g3, HW0.g4, HW0.g5, HW0.g6, HW0.g7, HW0.g8, HW0.i, HW0.r0, HW0.r1, HW0.r2, HW0.r3, HW0.r4, HT0.g0, HT0.g1, HT0.g2, HT0.g3, HT0.g4, HT0.g5, HT0.g6, HT0.g7, HT0.g8, HT0.i, HT0.r0, HT0.r1, HT0.r2, HT0.r3, HT0.r4, HR0.i, HRow0.i, true_and]
    exact q_tell2 C (by omega) (fun h5 C5 hF5 => ⟨rfl, hq h5 _ C5 hF5⟩)
  | succ q ih =>
    intro k hk
    have g := ih (k + 1) (by omega)
    have hs := bsS_lt (dn := dn) i k (by omega)
    have ec : bsS dn i (k + 1) = if dn (i + 1 + k) = nI i then ((bsS dn i k).1 ||| 2 ^ (i + 1 + k), (bsS dn i k).2 + 1) else if ¬ dn (i + 1 + k) ≤ nI i ∧ (bsS dn i k).1.testBit (dn (i + 1 + k)).toNatClampNeg then ((bsS dn i k).1 ||| 2 ^ (i + 1 + k), (bsS dn i k).2) else bsS dn i k := rfl
    rw [ec] at g
    have v6 : vp_in (nI (i + 1 + k)) 6 := vin (by omega) (by decide)
    refine wX9_basin_22 hd ?_
    simp only [HTop0.g0, HTop0.g1, HTop0.g2, HTop0.g3, HTop0.g4, HTop0.g5, HTop0.g6, HTop0.g7, HTop0.g8, HTop0.g9, HTop0.g10, HTop0.g11, HTop0.g12, HTop0.g13, HTop0.g15, HTop0.g16, HTop0.i, HL0.g0, HL0.g1, HL0.g2, HL0.g3, HL0.g4, HL0.i, HL0.r0, HL0.r1, HW0.g0, HW0.g1, HW0.g2, HW0.g3, HW0.g4, HW0.g5, HW0.g6, HW0.g7, HW0.g8, HW0.i, HW0.r0, HW0.r1, HW0.r2, HW0.r3, HW0.r4, HT0.g0, HT0.g1, HT0.g2, HT0.g3, HT0.g4, HT0.g5, HT0.g6, HT0.g7, HT0.g8, HT0.i, HT0.r0, HT0.r1, HT0.r2, HT0.r3, HT0.r4, HR0.i, HRow0.i, v6, clamp (i := i + 1 + k) (by omega), nI_1, shl1 (i + 1 + k) (by omega), or_nI, true_and]
    refine ⟨fun hc => absurd hc (nI_ge (by omega) (by omega)), fun _ => ⟨fun hne => ?_, fun he => ?_⟩⟩
    · rw [if_neg hne] at g
      refine ⟨fun hle => ?_, fun hgt => ?_⟩
      · rw [if_neg (fun q => q.1 hle)] at g
        exact g
      · have hdn : ∃ j, j < 6 ∧ dn (i + 1 + k) = nI j := by
          rcases hDn (i + 1 + k) (by omega) with e | ⟨j, hj, e⟩
          · rw [e] at hgt
            exact absurd (Int32.le_trans (by decide : (-1 : Int32) ≤ 0) (nI_pos' (n := i) (by omega))) hgt
          · exact ⟨j, by omega, e⟩
        obtain ⟨j, hj, e⟩ := hdn
        rw [e] at g hgt ⊢
        rw [clamp (by omega)] at g
        refine ⟨fun hb => ?_, fun hb => ?_⟩
        · rw [if_neg (fun q => by rw [(isIn_0 hs hj).mp hb] at q; exact absurd q.2 (by decide))] at g
          exact g
        · rw [if_pos ⟨hgt, (isIn_neg hs hj).mp hb⟩] at g
          exact g
    · rw [if_pos he] at g
      exact g
theorem orI_ok {lv : Nat → Int32} {s : Nat × List Int64} (h1 : s.1 < 64) (h2 : s.2.length = popc s.1) : ∀ i, i ≤ 6 → (orI lv s i).1 < 64 ∧ (orI lv s i).2.length = popc (orI lv s i).1
  | 0, _ => ⟨h1, h2⟩
  | i + 1, hi => by
    obtain ⟨g1, g2⟩ := orI_ok (lv := lv) h1 h2 i (by omega)
    unfold orI
    split
    · rename_i hc
      refine ⟨or64 g1 (two_lt (by omega)), ?_⟩
      have key : ∀ s, s < 64 → ∀ i, i < 6 → s.testBit i = false → popc (s ||| 2 ^ i) = popc s + 1 := by decide +kernel
      dsimp only
      rw [key _ g1 i (by omega) hc.2, List.length_append, g2]
      rfl
    · exact ⟨g1, g2⟩
theorem orS_ok (hn : n ≤ 6) : ∀ k, (orS rv br dn n W k).1 < 64 ∧ (orS rv br dn n W k).2.length = popc (orS rv br dn n W k).1
  | 0 => ⟨by show (0 : Nat) < 64; decide, by show ([] : List Int64).length = popc 0; decide⟩
  | k + 1 => orI_ok (orS_ok hn k).1 (orS_ok hn k).2 n hn
theorem orI_fst {lv : Nat → Int32} {s : Nat × List Int64} : ∀ i, (orI lv s i).1 = s.1 ||| dryOf lv i
  | 0 => by show s.1 = s.1 ||| 0; simp
  | i + 1 => by
    have ih := orI_fst (lv := lv) (s := s) i
    have e : dryOf lv (i + 1) = dryOf lv i ||| (if decide (lv i = 0) = true then 2 ^ i else 0) := rfl
    rw [e]
    unfold orI
    split
    · rename_i hc
      dsimp only
      rw [if_pos (decide_eq_true hc.1), ih, Nat.or_assoc]
    · rename_i hc
      rw [ih]
      by_cases hz : lv i = 0
      · rw [if_pos (decide_eq_true hz)]
        have hb : (orI lv s i).1.testBit i = true := by
          cases q : (orI lv s i).1.testBit i
          · exact absurd ⟨hz, q⟩ hc
          · rfl
        rw [ih] at hb
        apply Nat.eq_of_testBit_eq
        intro j
        rw [Nat.testBit_or, Nat.testBit_or, Nat.testBit_or, Nat.testBit_two_pow]
        rw [Nat.testBit_or] at hb
        by_cases hj : i = j
        · subst hj
          simp [hb]
        · simp [hj]
      · rw [if_neg (by simpa using hz), Nat.or_zero]
theorem c_order {m : Int32} (C : CQ h x rF n br dn W T rv rw) (hd : 4 ≤ d) (hq : ∀ h' T', CQ h' x rF n br dn W T' rv (s_order rv br dn n W rw m).2 → Fr (SC x rF) h h' → Q (some (.int (s_order rv br dn n W rw m).1)) h') : pz_V mX9_order Ex Q d bc bs 0 [(0, .ref x), (1, .int m)] [] h := by
  obtain ⟨hr0, hn0, hWo0, hTo0, ⟨rO0, td0, ks0, dw0, HTop0⟩, ⟨ru0, nx0, HL0⟩, HW0, HT0, ⟨pa0, sk0, th0, len0, src0, at0, HR0, hv0⟩, ⟨nu0, HRow0, hrow0⟩⟩ := id C
  unfold s_order at hq
  refine wX9_order_0 hd ?_
  simp only [HTop0.g0, HTop0.g1, HTop0.g2, HTop0.g3, HTop0.g4, HTop0.g5, HTop0.g6, HTop0.g7, HTop0.g8, HTop0.g9, HTop0.g10, HTop0.g11, HTop0.g12, HTop0.g13, HTop0.g15, HTop0.g16, HTop0.i, HL0.g0, HL0.g1, HL0.g2, HL0.g3, HL0.g4, HL0.i, HL0.r0, HL0.r1, HW0.g0, HW0.g1, HW0.g2, HW0.g3, HW0.g4, HW0.g5, HW0.g6, HW0.g7, HW0.g8, HW0.i, HW0.r0, HW0.r1, HW0.r2, HW0.r3, HW0.r4, HT0.g0, HT0.g1, HT0.g2, HT0.g3, HT0.g4, HT0.g5, HT0.g6, HT0.g7, HT0.g8, HT0.i, HT0.r0, HT0.r1, HT0.r2, HT0.r3, HT0.r4, HR0.i, HRow0.i, true_and]
  refine ⟨fun hc => ?_, fun hc => by rw [if_pos hc] at hq; exact hq h T C Fr.rf⟩
  rw [if_neg hc] at hq
  obtain ⟨k, hk, rfl⟩ := (within_0 (hi := 99) (by decide)).mp hc
  rw [clamp (by omega)] at hq
  dsimp only at hq
  refine q_start C (by omega) (fun h1 C1 hF1 => ⟨rfl, ?_⟩)
  obtain ⟨hr1, hn1, hWo1, hTo1, ⟨rO1, td1, ks1, dw1, HTop1⟩, ⟨ru1, nx1, HL1⟩, HW1, HT1, ⟨pa1, sk1, th1, len1, src1, at1, HR1, hv1⟩, ⟨nu1, HRow1, hrow1⟩⟩ := id C1
  simp only [HTop1.g0, HTop1.g1, HTop1.g2, HTop1.g3, HTop1.g4, HTop1.g5, HTop1.g6, HTop1.g7, HTop1.g8, HTop1.g9, HTop1.g10, HTop1.g11, HTop1.g12, HTop1.g13, HTop1.g15, HTop1.g16, HTop1.i, HL1.g0, HL1.g1, HL1.g2, HL1.g3, HL1.g4, HL1.i, HL1.r0, HL1.r1, HW1.g0, HW1.g1, HW1.g2, HW1.g3, HW1.g4, HW1.g5, HW1.g6, HW1.g7, HW1.g8, HW1.i, HW1.r0, HW1.r1, HW1.r2, HW1.r3, HW1.r4, HT1.g0, HT1.g1, HT1.g2, HT1.g3, HT1.g4, HT1.g5, HT1.g6, HT1.g7, HT1.g8, HT1.i, HT1.r0, HT1.r1, HT1.r2, HT1.r3, HT1.r4, HR1.i, HRow1.i, true_and]
  refine (q_clear C1 (fun h2 C2 hF2 => ?_)).2
  suffices H : ∀ (q j : Nat) (h3 : pz_H), j + q = k + 1 → CQ h3 x rF n br dn W (daysW rv br dn n j W) rv (orS rv br dn n W j).2 → Fr (SC x rF) h h3 → pz_V mX9_order Ex Q d bc bs 27 [(0, .ref x), (1, .int (nI k)), (2, .int (nI (orS rv br dn n W j).1)), (3, .int (nI j))] [] h3 from H (k + 1) 0 h2 (Nat.zero_add _) C2 (hF1.tt hF2)
  intro q
  induction q with
  | zero =>
    intro j h3 hj C3 hF3
    have e : j = k + 1 := hj
    rw [← e] at hq
    refine wX9_order_27 hd ⟨fun _ => t_bitCount (orS_ok hn0 j).1 ⟨_, rfl, hq h3 _ C3 hF3⟩, fun hc => absurd (nI_lt (by omega) (by omega)) hc⟩
  | succ q ih =>
    intro j h3 hj C3 hF3
    obtain ⟨o1, o2⟩ := orS_ok (rv := rv) (br := br) (dn := dn) (W := W) hn0 j
    obtain ⟨hr3, hn3, hWo3, hTo3, ⟨rO3, td3, ks3, dw3, HTop3⟩, ⟨ru3, nx3, HL3⟩, HW3, HT3, ⟨pa3, sk3, th3, len3, src3, at3, HR3, hv3⟩, ⟨nu3, HRow3, hrow3⟩⟩ := id C3
    refine wX9_order_27 hd ?_
    simp only [HTop3.g0, HTop3.g1, HTop3.g2, HTop3.g3, HTop3.g4, HTop3.g5, HTop3.g6, HTop3.g7, HTop3.g8, HTop3.g9, HTop3.g10, HTop3.g11, HTop3.g12, HTop3.g13, HTop3.g15, HTop3.g16, HTop3.i, HL3.g0, HL3.g1, HL3.g2, HL3.g3, HL3.g4, HL3.i, HL3.r0, HL3.r1, HW3.g0, HW3.g1, HW3.g2, HW3.g3, HW3.g4, HW3.g5, HW3.g6, HW3.g7, HW3.g8, HW3.i, HW3.r0, HW3.r1, HW3.r2, HW3.r3, HW3.r4, HT3.g0, HT3.g1, HT3.g2, HT3.g3, HT3.g4, HT3.g5, HT3.g6, HT3.g7, HT3.g8, HT3.i, HT3.r0, HT3.r1, HT3.r2, HT3.r3, HT3.r4, HR3.i, HRow3.i, true_and]
    refine ⟨fun hc => absurd hc (nI_nlt (by omega) (by omega)), fun _ => t_dry HL3 HT3 hn0 ⟨_, rfl, ?_⟩⟩
    have hdl : dryOf (daysW rv br dn n j W).lv n < 64 := bitsOf_64 _ hn0
    have nd : ∀ a, a < 64 → ∀ b, b < 64 → nI a &&& (nI b ^^^ (-1 : Int32)) = nI (a ^^^ (a &&& b)) := by decide +kernel
    show pz_V mX9_order Ex Q d bc bs 52 [(0, .ref x), (1, .int (nI k)), (2, .int (nI (orS rv br dn n W j).1)), (3, .int (nI j)), (4, .int (nI (dryOf (daysW rv br dn n j W).lv n) &&& (nI (orS rv br dn n W j).1 ^^^ (-1 : Int32)))), (5, .int (nI 0))] [] h3
    rw [nd _ hdl _ o1]
    have o3 : ∀ i, i < 6 → (dryOf (daysW rv br dn n j W).lv n ^^^ (dryOf (daysW rv br dn n j W).lv n &&& (orS rv br dn n W j).1)).testBit i = (decide (i < n) && decide ((daysW rv br dn n j W).lv i = 0) && !(orS rv br dn n W j).1.testBit i) := by
      intro i hi
      have e : (dryOf (daysW rv br dn n j W).lv n).testBit i = (decide (i < n) && decide ((daysW rv br dn n j W).lv i = 0)) := bitsOf_tb _ n i
      rw [Nat.testBit_xor, Nat.testBit_and, e]
      cases (decide (i < n) && decide ((daysW rv br dn n j W).lv i = 0)) <;> cases (orS rv br dn n W j).1.testBit i <;> rfl
    have o4 : dryOf (daysW rv br dn n j W).lv n ^^^ (dryOf (daysW rv br dn n j W).lv n &&& (orS rv br dn n W j).1) < 64 := xor64 hdl (and64 hdl)
    suffices H : ∀ (q i : Nat) (h4 : pz_H), i + q = n → CQ h4 x rF n br dn W (daysW rv br dn n j W) rv (orI (daysW rv br dn n j W).lv (orS rv br dn n W j) i).2 → Fr (SC x rF) h h4 → pz_V mX9_order Ex Q d bc bs 52 [(0, .ref x), (1, .int (nI k)), (2, .int (nI (orS rv br dn n W j).1)), (3, .int (nI j)), (4, .int (nI (dryOf (daysW rv br dn n j W).lv n ^^^ (dryOf (daysW rv br dn n j W).lv n &&& (orS rv br dn n W j).1)))), (5, .int (nI i))] [] h4 from H n 0 h3 (Nat.zero_add _) C3 hF3
    intro q2
    induction q2 with
    | zero =>
      intro i h4 hi C4 hF4
      have e : i = n := hi
      subst e
      obtain ⟨hr4, hn4, hWo4, hTo4, ⟨rO4, td4, ks4, dw4, HTop4⟩, ⟨ru4, nx4, HL4⟩, HW4, HT4, ⟨pa4, sk4, th4, len4, src4, at4, HR4, hv4⟩, ⟨nu4, HRow4, hrow4⟩⟩ := id C4
      refine wX9_order_52 hd ?_
      simp only [HTop4.g0, HTop4.g1, HTop4.g2, HTop4.g3, HTop4.g4, HTop4.g5, HTop4.g6, HTop4.g7, HTop4.g8, HTop4.g9, HTop4.g10, HTop4.g11, HTop4.g12, HTop4.g13, HTop4.g15, HTop4.g16, HTop4.i, HL4.g0, HL4.g1, HL4.g2, HL4.g3, HL4.g4, HL4.i, HL4.r0, HL4.r1, HW4.g0, HW4.g1, HW4.g2, HW4.g3, HW4.g4, HW4.g5, HW4.g6, HW4.g7, HW4.g8, HW4.i, HW4.r0, HW4.r1, HW4.r2, HW4.r3, HW4.r4, HT4.g0, HT4.g1, HT4.g2, HT4.g3, HT4.g4, HT4.g5, HT4.g6, HT4.g7, HT4.g8, HT4.i, HT4.r0, HT4.r1, HT4.r2, HT4.r3, HT4.r4, HR4.i, HRow4.i, or_nI, nI_1, true_and]
      refine ⟨fun _ => q_day C4 (by omega) (fun h5 C5 hF5 => ⟨rfl, ?_⟩), fun hc => absurd (nI_le (Nat.le_refl _) (by omega)) hc⟩
      have g := ih (j + 1) h5 (by omega) C5 (hF4.tt hF5)
      have ee : (orS rv br dn i W (j + 1)).1 = (orS rv br dn i W j).1 ||| (dryOf (daysW rv br dn i j W).lv i ^^^ (dryOf (daysW rv br dn i j W).lv i &&& (orS rv br dn i W j).1)) := by
        show (orI (daysW rv br dn i j W).lv (orS rv br dn i W j) i).1 = _
        rw [orI_fst]
        apply Nat.eq_of_testBit_eq
        intro z
        simp only [Nat.testBit_or, Nat.testBit_xor, Nat.testBit_and]
        cases (orS rv br dn i W j).1.testBit z <;> cases (dryOf (daysW rv br dn i j W).lv i).testBit z <;> rfl
      rw [ee] at g
      exact g
    | succ q2 ih2 =>
      intro i h4 hi C4 hF4
      obtain ⟨g1, g2⟩ := orI_ok (lv := (daysW rv br dn n j W).lv) o1 o2 i (by omega)
      have gf : (orI (daysW rv br dn n j W).lv (orS rv br dn n W j) i).1.testBit i = (orS rv br dn n W j).1.testBit i := by
        rw [orI_fst, Nat.testBit_or]
        have : (dryOf (daysW rv br dn n j W).lv i).testBit i = false := Nat.testBit_lt_two_pow (bitsOf_lt _ i)
        rw [this, Bool.or_false]
      have ec : orI (daysW rv br dn n j W).lv (orS rv br dn n W j) (i + 1) = if (daysW rv br dn n j W).lv i = 0 ∧ (orI (daysW rv br dn n j W).lv (orS rv br dn n W j) i).1.testBit i = false then ((orI (daysW rv br dn n j W).lv (orS rv br dn n W j) i).1 ||| 2 ^ i, (orI (daysW rv br dn n j W).lv (orS rv br dn n W j) i).2 ++ [(nI i).toInt64]) else orI (daysW rv br dn n j W).lv (orS rv br dn n W j) i := rfl
      rw [gf] at ec
      have g := ih2 (i + 1)
      rw [ec] at g
      obtain ⟨hr4, hn4, hWo4, hTo4, ⟨rO4, td4, ks4, dw4, HTop4⟩, ⟨ru4, nx4, HL4⟩, HW4, HT4, ⟨pa4, sk4, th4, len4, src4, at4, HR4, hv4⟩, ⟨nu4, HRow4, hrow4⟩⟩ := id C4
      refine wX9_order_52 hd ?_
      simp only [HTop4.g0, HTop4.g1, HTop4.g2, HTop4.g3, HTop4.g4, HTop4.g5, HTop4.g6, HTop4.g7, HTop4.g8, HTop4.g9, HTop4.g10, HTop4.g11, HTop4.g12, HTop4.g13, HTop4.g15, HTop4.g16, HTop4.i, HL4.g0, HL4.g1, HL4.g2, HL4.g3, HL4.g4, HL4.i, HL4.r0, HL4.r1, HW4.g0, HW4.g1, HW4.g2, HW4.g3, HW4.g4, HW4.g5, HW4.g6, HW4.g7, HW4.g8, HW4.i, HW4.r0, HW4.r1, HW4.r2, HW4.r3, HW4.r4, HT4.g0, HT4.g1, HT4.g2, HT4.g3, HT4.g4, HT4.g5, HT4.g6, HT4.g7, HT4.g8, HT4.i, HT4.r0, HT4.r1, HT4.r2, HT4.r3, HT4.r4, HR4.i, HRow4.i, nI_1, true_and]
      refine ⟨fun hc => absurd hc (nI_ge (by omega) (by omega)), fun _ => ⟨fun hb => ?_, fun hb => ?_⟩⟩
      · have hb2 := (isIn_0 o4 (by omega)).mp hb
        rw [o3 i (by omega)] at hb2
        rw [if_neg (fun q => by
          rw [q.2, decide_eq_true q.1, decide_eq_true (by omega : i < n)] at hb2
          exact absurd hb2 (by decide))] at g
        exact g h4 (by omega) C4 hF4
      · have hb2 := (isIn_neg o4 (by omega)).mp hb
        rw [o3 i (by omega)] at hb2
        simp only [Bool.and_eq_true, decide_eq_true_eq, Bool.not_eq_true'] at hb2
        rw [if_pos ⟨hb2.1.2, hb2.2⟩] at g
        refine q_add C4 ?_ (fun h5 C5 hF5 => ⟨rfl, g h5 (by omega) C5 (hF4.tt hF5)⟩)
        rw [g2]
        have key : ∀ s, s < 64 → ∀ i, i < 6 → s.testBit i = false → popc s < 6 := by decide +kernel
        exact key _ g1 i (by omega) (gf.trans hb2.2)
end CP
