/-! ===== treaty, rests, years: specs, and the class ===== -/
def drawN (w : Int32) : Int32 := w * 1103515245 + 12345
def drV (w m : Int32) : Int32 := ((w.toUInt32 >>> (((16 : Int32)).toUInt32 &&& Int32.toUInt32 31)).toInt32) - ((w.toUInt32 >>> (((16 : Int32)).toUInt32 &&& Int32.toUInt32 31)).toInt32) / m * m
def drW (w : Int32) (m : Nat) : Nat := w.toBitVec.toNat / 2 ^ 16 % m
theorem drV_eq (w : Int32) {m : Nat} (h0 : 0 < m) (hm : m < 2 ^ 31) : drV w (nI m) = nI (drW w m) := by
  have e : (w.toUInt32 >>> (((16 : Int32)).toUInt32 &&& Int32.toUInt32 31)).toInt32 = nI (w.toBitVec.toNat / 2 ^ 16) := by
    apply Int32.toBitVec_inj.mp
    apply BitVec.eq_of_toNat_eq
    rw [pk_ushr w 16 16 (by decide), pk_tn (by have := w.toBitVec.isLt; omega)]
  unfold drV
  rw [e, pk_rem (by have := w.toBitVec.isLt; omega) h0 hm]
  rfl
theorem drW_lt (w : Int32) {m : Nat} (h0 : 0 < m) : drW w m < m := Nat.mod_lt _ h0
section SP
variable (rv : pRV) (br dn : Nat → Int32) (n : Nat) (W : pW) (rw : List Int64)
def bkF (k : Nat) : Int32 := ktot W n (nI k)
def leastT (b : Nat → Int32) (q : Int32) (s : Nat) : Bool := decide (q ≤ totS b s 4) && (List.range 4).all (fun k => !s.testBit k || decide (totS b s 4 - b k < q))
def trS (b : Nat → Int32) (q : Int32) : Nat → Int32 × Nat × Nat
  | 0 => (0, 0, 15)
  | s + 1 => if leastT b q s = true then ((trS b q s).1 + 1, (trS b q s).2.1 ||| s, (trS b q s).2.2 &&& s) else trS b q s
def s_treaty (q : Int32) : pA := if eX9_isWithin q 0 999 = 0 then (-1, rw) else
  let r := trS (bkF n W) q 16
  (r.1, [(nI r.2.1).toInt64, if r.1 = 0 then 0 else (nI r.2.2).toInt64])
def bestA (v : Int32) (a b : Nat) : Bool := (List.range 10).all (fun z => decide (eX9_gain (nI z) (nI b) v ≤ eX9_gain (nI a) (nI b) v))
def rsS (v : Int32) : Nat → pA
  | 0 => (0, [])
  | k + 1 => if bestA v (k / 10) (k % 10) = true ∧ bestA v (k % 10) (k / 10) = true then ((rsS v k).1 + 1, if (rsS v k).1 = 0 then [(nI (k / 10)).toInt64, (nI (k % 10)).toInt64] else (rsS v k).2) else rsS v k
def s_rests (v : Int32) : pA := if eX9_isWithin v 0 20 = 0 then (-1, rw) else rsS v 100
def yrStep (s : pW × Int32) : pW × Int32 :=
  if ¬ 2 ≤ drV (drawN s.2) 4 then (dayW rv br dn n s.1, drawN s.2) else if n = 0 then (s.1, drawN s.2)
  else if drV (drawN s.2) 4 = 2 then (s.1.sOu (s.1.ou ^^^ 2 ^ drW (drawN (drawN s.2)) n), drawN (drawN s.2))
  else (s.1.sTp (upd s.1.tp (drW (drawN (drawN s.2)) n) (drV (drawN (drawN (drawN s.2))) 10)), drawN (drawN (drawN s.2)))
def yrS (w : Int32) : Nat → pW × Int32
  | 0 => (W, w)
  | k + 1 => yrStep rv br dn n (yrS w k)
def s_years (w m : Int32) : pA := if eX9_isWithin m 1 60 = 0 then (-1, rw) else
  let T := (yrS rv br dn n W w m.toNatClampNeg).1
  (sumI T.lv n, [(T.sp - W.sp).toInt64, (T.dr - W.dr).toInt64])
end SP
theorem bestA_t {v : Int32} {a b : Nat} : bestA v a b = true ↔ ∀ z, z < 10 → eX9_gain (nI z) (nI b) v ≤ eX9_gain (nI a) (nI b) v := by
  unfold bestA
  rw [List.all_eq_true]
  exact ⟨fun H z hz => of_decide_eq_true (H z (List.mem_range.mpr hz)), fun H z hz => decide_eq_true (H z (List.mem_range.mp hz))⟩
theorem leastT_t {b : Nat → Int32} {q : Int32} {s : Nat} : leastT b q s = true ↔ q ≤ totS b s 4 ∧ ∀ k, k < 4 → s.testBit k = true → totS b s 4 - b k < q := by
  unfold leastT
  rw [Bool.and_eq_true, List.all_eq_true]
  refine ⟨fun H => ⟨of_decide_eq_true H.1, fun k hk hb => ?_⟩, fun H => ⟨decide_eq_true H.1, fun k hk => ?_⟩⟩
  · have := H.2 k (List.mem_range.mpr hk)
    rw [hb] at this
    exact of_decide_eq_true (by simpa using this)
  · cases hb : s.testBit k
    · rfl
    · have := H.2 k (List.mem_range.mp hk) hb
      simpa using this
theorem bool_f {b : Bool} (h : ¬ b = true) : b = false := by cases b <;> simp_all
section CT
variable {Ex : State → Nat → Prop} {Q : Option Value → pz_H → Prop} {d bc bs : Nat} {h : pz_H} {x rF n : Nat} {br dn : Nat → Int32} {W T : pW} {rv : pRV} {rw : List Int64}
theorem CQ.fr {h' : pz_H} {l : List Nat} (C : CQ h x rF n br dn W T rv rw) (hF : Fr l h h') (hl : ∀ b ∈ l, x + 28 ≤ b ∧ (b < rF ∨ rF + 4 ≤ b)) : CQ h' x rF n br dn W T rv rw := by
  obtain ⟨hr_, hn_, hWo_, hTo_, ⟨rO_, td_, ks_, dw_, HTop_⟩, ⟨ru_, nx_, HL_⟩, HW_, HT_, ⟨pa_, sk_, th_, len_, src_, at_, HR_, hv_⟩, ⟨nu_, HRow_, hrow_⟩⟩ := id C
  exact ⟨hr_, hn_, hWo_, hTo_, ⟨rO_, td_, ks_, dw_, HTop_.fr hF (fun q => by have := hl _ q; omega)⟩, ⟨ru_, nx_, HL_.fr hF (fun b hb => by have := hl b hb; omega)⟩, HW_.fr hF (fun b hb => by have := hl b hb; omega), HT_.fr hF (fun b hb => by have := hl b hb; omega), ⟨pa_, sk_, th_, len_, src_, at_, HR_.fr hF (fun b hb => by have := hl b hb; omega), hv_⟩, ⟨nu_, HRow_.fr hF (fun b hb => by have := hl b hb; omega), hrow_⟩⟩
theorem t_isLeast {s : Nat} {b : Nat → Int32} {q : Int32} (C : CQ h x rF n br dn W T rv rw) (HB : h.2 (x + 110) = some (aI 4 b)) (hs : s < 16) (hd : 1 ≤ d) (hq : ∀ v : Int32, (v = 0 ↔ leastT b q s = false) → Q (some (.int v)) h) : pz_V mX9_isLeastTreaty Ex Q d bc bs 0 [(0, .ref x), (1, .int (nI s)), (2, .int q)] [] h := by
  obtain ⟨hr0, hn0, hWo0, hTo0, ⟨rO0, td0, ks0, dw0, HTop0⟩, ⟨ru0, nx0, HL0⟩, HW0, HT0, ⟨pa0, sk0, th0, len0, src0, at0, HR0, hv0⟩, ⟨nu0, HRow0, hrow0⟩⟩ := id C
  have v4 : ∀ k, k < 4 → vp_in (nI k) 4 := fun k hk => vin hk (by decide)
  refine wX9_isLeastTreaty_0 hd ?_
  have loop2 : q ≤ totS b s 4 → ∀ f k, k + f = 4 → (∀ j, j < k → s.testBit j = true → totS b s 4 - b j < q) → pz_V mX9_isLeastTreaty Ex Q d bc bs 50 [(0, .ref x), (1, .int (nI s)), (2, .int q), (3, .int (totS b s 4)), (4, .int (nI k))] [] h := by
    intro hle f
    induction f with
    | zero =>
      intro k hk hall
      have e : k = 4 := hk
      subst e
      refine wX9_isLeastTreaty_50 hd ⟨fun _ => hq 1 ⟨fun e => absurd e (by decide), fun e => ?_⟩, fun hc => absurd (nI_le (a := 4) (b := 4) (by decide) (by decide)) hc⟩
      rw [leastT_t.mpr ⟨hle, hall⟩] at e
      exact absurd e (by decide)
    | succ f ih =>
      intro k hk hall
      refine wX9_isLeastTreaty_50 hd ⟨fun hc => absurd hc (nI_ge (b := 4) (by omega) (by decide)), fun _ => ?_⟩
      have hstep : (s.testBit k = true → totS b s 4 - b k < q) → pz_V mX9_isLeastTreaty Ex Q d bc bs 50 [(0, .ref x), (1, .int (nI s)), (2, .int q), (3, .int (totS b s 4)), (4, .int (nI (k + 1)))] [] h := fun hk2 => ih (k + 1) (by omega) (fun j hj hb => by
        rcases Nat.lt_or_ge j k with q | q
        · exact hall j q hb
        · have : j = k := by omega
          subst this
          exact hk2 hb)
      simp only [HTop0.g0, HTop0.g1, HTop0.g2, HTop0.g3, HTop0.g4, HTop0.g5, HTop0.g6, HTop0.g7, HTop0.g8, HTop0.g9, HTop0.g10, HTop0.g11, HTop0.g12, HTop0.g13, HTop0.g15, HTop0.g16, HTop0.i, HL0.g0, HL0.g1, HL0.g2, HL0.g3, HL0.g4, HL0.i, HL0.r0, HL0.r1, HW0.g0, HW0.g1, HW0.g2, HW0.g3, HW0.g4, HW0.g5, HW0.g6, HW0.g7, HW0.g8, HW0.i, HW0.r0, HW0.r1, HW0.r2, HW0.r3, HW0.r4, HT0.g0, HT0.g1, HT0.g2, HT0.g3, HT0.g4, HT0.g5, HT0.g6, HT0.g7, HT0.g8, HT0.i, HT0.r0, HT0.r1, HT0.r2, HT0.r3, HT0.r4, HR0.i, HRow0.i, nI_1, rI_eq HB, v4 k (by omega), clamp (i := k) (by omega), true_and]
      refine ⟨fun hb => hstep (fun q => by rw [(isIn_0 (s := s) (by omega) (by omega)).mp hb] at q; exact absurd q (by decide)), fun hb => ⟨fun hlt => hstep (fun _ => hlt), fun hnl => hq 0 ⟨fun _ => ?_, fun _ => rfl⟩⟩⟩
      exact bool_f (fun q => hnl ((leastT_t.mp q).2 k (by omega) ((isIn_neg (s := s) (by omega) (by omega)).mp hb)))
  suffices H : ∀ f k, k + f = 4 → pz_V mX9_isLeastTreaty Ex Q d bc bs 5 [(0, .ref x), (1, .int (nI s)), (2, .int q), (3, .int (totS b s k)), (4, .int (nI k))] [] h from H 4 0 rfl
  intro f
  induction f with
  | zero =>
    intro k hk
    have e : k = 4 := hk
    subst e
    refine wX9_isLeastTreaty_5 hd ⟨fun _ => ⟨fun hle => loop2 hle 4 0 rfl (fun j hj => absurd hj (Nat.not_lt_zero j)), fun hnl => hq 0 ⟨fun _ => ?_, fun _ => rfl⟩⟩, fun hc => absurd (nI_le (a := 4) (b := 4) (by decide) (by decide)) hc⟩
    exact bool_f (fun q => hnl (leastT_t.mp q).1)
  | succ f ih =>
    intro k hk
    have g := ih (k + 1) (by omega)
    have unf : totS b s (k + 1) = totS b s k + (if s.testBit k then b k else 0) := rfl
    refine wX9_isLeastTreaty_5 hd ⟨fun hc => absurd hc (nI_ge (b := 4) (by omega) (by decide)), fun _ => ?_⟩
    simp only [HTop0.g0, HTop0.g1, HTop0.g2, HTop0.g3, HTop0.g4, HTop0.g5, HTop0.g6, HTop0.g7, HTop0.g8, HTop0.g9, HTop0.g10, HTop0.g11, HTop0.g12, HTop0.g13, HTop0.g15, HTop0.g16, HTop0.i, HL0.g0, HL0.g1, HL0.g2, HL0.g3, HL0.g4, HL0.i, HL0.r0, HL0.r1, HW0.g0, HW0.g1, HW0.g2, HW0.g3, HW0.g4, HW0.g5, HW0.g6, HW0.g7, HW0.g8, HW0.i, HW0.r0, HW0.r1, HW0.r2, HW0.r3, HW0.r4, HT0.g0, HT0.g1, HT0.g2, HT0.g3, HT0.g4, HT0.g5, HT0.g6, HT0.g7, HT0.g8, HT0.i, HT0.r0, HT0.r1, HT0.r2, HT0.r3, HT0.r4, HR0.i, HRow0.i, nI_1, rI_eq HB, v4 k (by omega), clamp (i := k) (by omega), true_and]
    refine ⟨fun hb => ?_, fun hb => ?_⟩
    · rw [unf, if_neg (by rw [(isIn_0 (s := s) (by omega) (by omega)).mp hb]; decide)] at g
      exact g
    · rw [unf, if_pos ((isIn_neg (s := s) (by omega) (by omega)).mp hb)] at g
      exact g
theorem trS_lt (b : Nat → Int32) (q : Int32) : ∀ s, s ≤ 16 → (trS b q s).2.1 < 16 ∧ (trS b q s).2.2 < 16
  | 0, _ => ⟨by show (0 : Nat) < 16; decide, by show (15 : Nat) < 16; decide⟩
  | s + 1, hs => by
    obtain ⟨g1, g2⟩ := trS_lt b q s (by omega)
    unfold trS
    split
    · exact ⟨Nat.or_lt_two_pow (n := 4) g1 (by omega), Nat.lt_of_le_of_lt Nat.and_le_left g2⟩
    · exact ⟨g1, g2⟩
theorem c_treaty {q : Int32} {b0 : Nat → Int32} (C : CQ h x rF n br dn W T rv rw) (HB : h.2 (x + 110) = some (aI 4 b0)) (hd : 3 ≤ d) (hq : ∀ h' T' b', CQ h' x rF n br dn W T' rv (s_treaty n W rw q).2 → h'.2 (x + 110) = some (aI 4 b') → Fr ((x + 110) :: SC x rF) h h' → Q (some (.int (s_treaty n W rw q).1)) h') : pz_V mX9_treaty Ex Q d bc bs 0 [(0, .ref x), (1, .int q)] [] h := by
  obtain ⟨hr0, hn0, hWo0, hTo0, ⟨rO0, td0, ks0, dw0, HTop0⟩, ⟨ru0, nx0, HL0⟩, HW0, HT0, ⟨pa0, sk0, th0, len0, src0, at0, HR0, hv0⟩, ⟨nu0, HRow0, hrow0⟩⟩ := id C
  unfold s_treaty at hq
  refine wX9_treaty_0 hd ?_
  simp only [HTop0.g0, HTop0.g1, HTop0.g2, HTop0.g3, HTop0.g4, HTop0.g5, HTop0.g6, HTop0.g7, HTop0.g8, HTop0.g9, HTop0.g10, HTop0.g11, HTop0.g12, HTop0.g13, HTop0.g15, HTop0.g16, HTop0.i, HL0.g0, HL0.g1, HL0.g2, HL0.g3, HL0.g4, HL0.i, HL0.r0, HL0.r1, HW0.g0, HW0.g1, HW0.g2, HW0.g3, HW0.g4, HW0.g5, HW0.g6, HW0.g7, HW0.g8, HW0.i, HW0.r0, HW0.r1, HW0.r2, HW0.r3, HW0.r4, HT0.g0, HT0.g1, HT0.g2, HT0.g3, HT0.g4, HT0.g5, HT0.g6, HT0.g7, HT0.g8, HT0.i, HT0.r0, HT0.r1, HT0.r2, HT0.r3, HT0.r4, HR0.i, HRow0.i, true_and]
  refine ⟨fun hc => ?_, fun hc => by rw [if_pos hc] at hq; exact hq h T b0 C HB Fr.rf⟩
  rw [if_neg hc] at hq
  dsimp only at hq
  have key : ∀ (h1 : pz_H) (b1 : Nat → Int32), (∀ k, k < 4 → b1 k = bkF n W k) → CQ h1 x rF n br dn W T rv rw → h1.2 (x + 110) = some (aI 4 b1) → Fr [x + 110] h h1 → pz_V mX9_treaty Ex Q d bc bs 32 [(0, .ref x), (1, .int q), (2, .int 0), (3, .int 0), (4, .int 15), (5, .int 0)] [] h1 := by
    intro h1 b1 hb1 C1 HB1 hF1
    obtain ⟨hr1, hn1, hWo1, hTo1, ⟨rO1, td1, ks1, dw1, HTop1⟩, ⟨ru1, nx1, HL1⟩, HW1, HT1, ⟨pa1, sk1, th1, len1, src1, at1, HR1, hv1⟩, ⟨nu1, HRow1, hrow1⟩⟩ := id C1
    have el : ∀ s, s < 16 → leastT b1 q s = leastT (bkF n W) q s := by
      intro s hs
      have et : totS b1 s 4 = totS (bkF n W) s 4 := sumI_congr (fun i hi => by rw [hb1 i hi])
      rw [Bool.eq_iff_iff, leastT_t, leastT_t, et]
      constructor
      · intro H; exact ⟨H.1, fun k hk hb => by rw [← hb1 k hk]; exact H.2 k hk hb⟩
      · intro H; exact ⟨H.1, fun k hk hb => by rw [hb1 k hk]; exact H.2 k hk hb⟩
    suffices H : ∀ f s, s + f = 16 → pz_V mX9_treaty Ex Q d bc bs 32 [(0, .ref x), (1, .int q), (2, .int (trS (bkF n W) q s).1), (3, .int (nI (trS (bkF n W) q s).2.1)), (4, .int (nI (trS (bkF n W) q s).2.2)), (5, .int (nI s))] [] h1 from H 16 0 rfl
    intro f
    induction f with
    | zero =>
      intro s hs
      have e : s = 16 := hs
      subst e
      have fin : ∀ (h5 : pz_H) (r : List Int64), CQ h5 x rF n br dn W T rv r → Fr (SC x rF) h1 h5 → h5.2 (x + 110) = some (aI 4 b1) ∧ Fr ((x + 110) :: SC x rF) h h5 := fun h5 r C5 hF5 => ⟨(hF5.2 _ (by simp <;> omega)).trans HB1, (hF1.mono (by simp)).tr hF5 (fun b hb => List.mem_cons_of_mem _ hb)⟩
      refine wX9_treaty_32 hd ?_
      simp only [HTop1.g0, HTop1.g1, HTop1.g2, HTop1.g3, HTop1.g4, HTop1.g5, HTop1.g6, HTop1.g7, HTop1.g8, HTop1.g9, HTop1.g10, HTop1.g11, HTop1.g12, HTop1.g13, HTop1.g15, HTop1.g16, HTop1.i, HL1.g0, HL1.g1, HL1.g2, HL1.g3, HL1.g4, HL1.i, HL1.r0, HL1.r1, HW1.g0, HW1.g1, HW1.g2, HW1.g3, HW1.g4, HW1.g5, HW1.g6, HW1.g7, HW1.g8, HW1.i, HW1.r0, HW1.r1, HW1.r2, HW1.r3, HW1.r4, HT1.g0, HT1.g1, HT1.g2, HT1.g3, HT1.g4, HT1.g5, HT1.g6, HT1.g7, HT1.g8, HT1.i, HT1.r0, HT1.r1, HT1.r2, HT1.r3, HT1.r4, HR1.i, HRow1.i, true_and]
      refine ⟨fun _ => ⟨fun hne => q_tell2 C1 (by omega) (fun h5 C5 hF5 => ⟨rfl, ?_⟩), fun he => q_tell2 C1 (by omega) (fun h5 C5 hF5 => ⟨rfl, ?_⟩)⟩, fun hc => absurd (nI_le (a := 16) (b := 16) (by decide) (by decide)) hc⟩
      · rw [if_neg hne] at hq
        exact hq h5 T b1 C5 (fin h5 _ C5 hF5).1 (fin h5 _ C5 hF5).2
      · rw [if_pos he] at hq
        exact hq h5 T b1 C5 (fin h5 _ C5 hF5).1 (fin h5 _ C5 hF5).2
    | succ f ih =>
      intro s hs
      have g := ih (s + 1) (by omega)
      have ec : trS (bkF n W) q (s + 1) = if leastT (bkF n W) q s = true then ((trS (bkF n W) q s).1 + 1, (trS (bkF n W) q s).2.1 ||| s, (trS (bkF n W) q s).2.2 &&& s) else trS (bkF n W) q s := rfl
      rw [ec] at g
      refine wX9_treaty_32 hd ?_
      simp only [HTop1.g0, HTop1.g1, HTop1.g2, HTop1.g3, HTop1.g4, HTop1.g5, HTop1.g6, HTop1.g7, HTop1.g8, HTop1.g9, HTop1.g10, HTop1.g11, HTop1.g12, HTop1.g13, HTop1.g15, HTop1.g16, HTop1.i, HL1.g0, HL1.g1, HL1.g2, HL1.g3, HL1.g4, HL1.i, HL1.r0, HL1.r1, HW1.g0, HW1.g1, HW1.g2, HW1.g3, HW1.g4, HW1.g5, HW1.g6, HW1.g7, HW1.g8, HW1.i, HW1.r0, HW1.r1, HW1.r2, HW1.r3, HW1.r4, HT1.g0, HT1.g1, HT1.g2, HT1.g3, HT1.g4, HT1.g5, HT1.g6, HT1.g7, HT1.g8, HT1.i, HT1.r0, HT1.r1, HT1.r2, HT1.r3, HT1.r4, HR1.i, HRow1.i, nI_1, or_nI, fa_and, true_and]
      refine ⟨fun hc => absurd hc (nI_ge (b := 16) (by omega) (by decide)), fun _ => t_isLeast C1 HB1 (by omega) (by omega) (fun v hv => ⟨_, rfl, ?_⟩)⟩
      rw [el s (by omega)] at hv
      refine ⟨fun h0 => ?_, fun h0 => ?_⟩
      · rw [if_neg (by rw [hv.mp h0]; decide)] at g
        exact g
      · have : leastT (bkF n W) q s = true := by
          cases e : leastT (bkF n W) q s
          · exact absurd (hv.mpr e) h0
          · rfl
        rw [if_pos this] at g
        exact g
  refine wX9_countByKing_0 (by omega) ?_
  suffices H : ∀ f k (h1 : pz_H) (b1 : Nat → Int32), k + f = 4 → (∀ j, j < k → b1 j = bkF n W j) → CQ h1 x rF n br dn W T rv rw → h1.2 (x + 110) = some (aI 4 b1) → Fr [x + 110] h h1 → pz_V mX9_countByKing pz_T (fun r h2 => r = none ∧ pz_V mX9_treaty Ex Q d bc bs 32 [(0, .ref x), (1, .int q), (2, .int 0), (3, .int 0), (4, .int 15), (5, .int 0)] [] h2) 2 0 0 2 [(0, .ref x), (1, .ref (x + 10)), (2, .int (nI k))] [] h1 from H 4 0 h b0 rfl (fun j hj => absurd hj (Nat.not_lt_zero j)) C HB Fr.rf
  intro f
  induction f with
  | zero =>
    intro k h1 b1 hk hb1 C1 HB1 hF1
    have e : k = 4 := hk
    subst e
    exact wX9_countByKing_2 (by omega) ⟨fun _ => ⟨rfl, key h1 b1 hb1 C1 HB1 hF1⟩, fun hc => absurd (nI_le (a := 4) (b := 4) (by decide) (by decide)) hc⟩
  | succ f ih =>
    intro k h1 b1 hk hb1 C1 HB1 hF1
    obtain ⟨hr1, hn1, hWo1, hTo1, ⟨rO1, td1, ks1, dw1, HTop1⟩, ⟨ru1, nx1, HL1⟩, HW1, HT1, ⟨pa1, sk1, th1, len1, src1, at1, HR1, hv1⟩, ⟨nu1, HRow1, hrow1⟩⟩ := id C1
    refine wX9_countByKing_2 (by omega) ?_
    simp only [HTop1.g0, HTop1.g1, HTop1.g2, HTop1.g3, HTop1.g4, HTop1.g5, HTop1.g6, HTop1.g7, HTop1.g8, HTop1.g9, HTop1.g10, HTop1.g11, HTop1.g12, HTop1.g13, HTop1.g15, HTop1.g16, HTop1.i, HL1.g0, HL1.g1, HL1.g2, HL1.g3, HL1.g4, HL1.i, HL1.r0, HL1.r1, HW1.g0, HW1.g1, HW1.g2, HW1.g3, HW1.g4, HW1.g5, HW1.g6, HW1.g7, HW1.g8, HW1.i, HW1.r0, HW1.r1, HW1.r2, HW1.r3, HW1.r4, HT1.g0, HT1.g1, HT1.g2, HT1.g3, HT1.g4, HT1.g5, HT1.g6, HT1.g7, HT1.g8, HT1.i, HT1.r0, HT1.r1, HT1.r2, HT1.r3, HT1.r4, HR1.i, HRow1.i, true_and]
    refine ⟨fun hc => absurd hc (nI_ge (b := 4) (by omega) (by decide)), fun _ => t_heldBy HL1 HW1 hn0 ⟨_, rfl, ?_⟩⟩
    simp only [HTop1.g0, HTop1.g1, HTop1.g2, HTop1.g3, HTop1.g4, HTop1.g5, HTop1.g6, HTop1.g7, HTop1.g8, HTop1.g9, HTop1.g10, HTop1.g11, HTop1.g12, HTop1.g13, HTop1.g15, HTop1.g16, HTop1.i, HL1.g0, HL1.g1, HL1.g2, HL1.g3, HL1.g4, HL1.i, HL1.r0, HL1.r1, HW1.g0, HW1.g1, HW1.g2, HW1.g3, HW1.g4, HW1.g5, HW1.g6, HW1.g7, HW1.g8, HW1.i, HW1.r0, HW1.r1, HW1.r2, HW1.r3, HW1.r4, HT1.g0, HT1.g1, HT1.g2, HT1.g3, HT1.g4, HT1.g5, HT1.g6, HT1.g7, HT1.g8, HT1.i, HT1.r0, HT1.r1, HT1.r2, HT1.r3, HT1.r4, HR1.i, HRow1.i, true_and]
    refine t_totalOf HL1 HW1 hn0 (bitsOf_64 _ hn0) (by omega) ⟨_, rfl, (sI_eq HB1).mpr ⟨vin (by omega) (by decide), ?_⟩⟩
    rw [clamp (by omega), nI_1]
    have hF2 : Fr [x + 110] h1 (pz_put h1 (x + 110) (aI 4 (upd b1 k (totS W.lv (bitsOf (fun i => decide (W.kg i = nI k)) n) n)))) := fr_1 (by simp)
    refine ih (k + 1) _ _ (by omega) (fun j hj => ?_) (C1.fr hF2 (fun b hb => by simp at hb; omega)) (put_at _ _ _) (hF1.tt hF2)
    unfold upd
    split
    · rename_i e; subst e; rfl
    · rename_i e; exact hb1 j (by omega)
theorem t_isBest {a b : Nat} {v : Int32} (ha : a < 10) (hd : 1 ≤ d) (hq : ∀ r : Int32, (r = 0 ↔ bestA v a b = false) → Q (some (.int r)) h) : pz_V mX9_isBestAnswer Ex Q d bc bs 0 [(0, .int (nI a)), (1, .int (nI b)), (2, .int v)] [] h := by
  refine wX9_isBestAnswer_0 hd ?_
  suffices H : ∀ f k, k + f = 10 → (∀ z, z < k → eX9_gain (nI z) (nI b) v ≤ eX9_gain (nI a) (nI b) v) → pz_V mX9_isBestAnswer Ex Q d bc bs 10 [(1, .int (nI b)), (2, .int v), (3, .int (eX9_gain (nI a) (nI b) v)), (4, .int (nI k))] [] h from H 10 0 rfl (fun z hz => absurd hz (Nat.not_lt_zero z))
  intro f
  induction f with
  | zero =>
    intro k hk hall
    have e : k = 10 := hk
    subst e
    refine wX9_isBestAnswer_10 hd ⟨fun _ => hq 1 ⟨fun e => absurd e (by decide), fun e => ?_⟩, fun hc => absurd (nI_le (a := 10) (b := 10) (by decide) (by decide)) hc⟩
    rw [bestA_t.mpr hall] at e
    exact absurd e (by decide)
  | succ f ih =>
    intro k hk hall
    refine wX9_isBestAnswer_10 hd ⟨fun hc => absurd hc (nI_ge (b := 10) (by omega) (by decide)), fun _ => ⟨fun hle => ?_, fun hnl => hq 0 ⟨fun _ => bool_f (fun H => hnl (bestA_t.mp H k (by omega))), fun _ => rfl⟩⟩⟩
    rw [nI_1]
    refine ih (k + 1) (by omega) (fun z hz => ?_)
    rcases Nat.lt_or_ge z k with q | q
    · exact hall z q
    · have : z = k := by omega
      subst this
      exact hle
theorem c_rests {v : Int32} (C : CQ h x rF n br dn W T rv rw) (hd : 3 ≤ d) (hq : ∀ h' T', CQ h' x rF n br dn W T' rv (s_rests rw v).2 → Fr (SC x rF) h h' → Q (some (.int (s_rests rw v).1)) h') : pz_V mX9_rests Ex Q d bc bs 0 [(0, .ref x), (1, .int v)] [] h := by
  obtain ⟨hr0, hn0, hWo0, hTo0, ⟨rO0, td0, ks0, dw0, HTop0⟩, ⟨ru0, nx0, HL0⟩, HW0, HT0, ⟨pa0, sk0, th0, len0, src0, at0, HR0, hv0⟩, ⟨nu0, HRow0, hrow0⟩⟩ := id C
  unfold s_rests at hq
  refine wX9_rests_0 hd ?_
  simp only [HTop0.g0, HTop0.g1, HTop0.g2, HTop0.g3, HTop0.g4, HTop0.g5, HTop0.g6, HTop0.g7, HTop0.g8, HTop0.g9, HTop0.g10, HTop0.g11, HTop0.g12, HTop0.g13, HTop0.g15, HTop0.g16, HTop0.i, HL0.g0, HL0.g1, HL0.g2, HL0.g3, HL0.g4, HL0.i, HL0.r0, HL0.r1, HW0.g0, HW0.g1, HW0.g2, HW0.g3, HW0.g4, HW0.g5, HW0.g6, HW0.g7, HW0.g8, HW0.i, HW0.r0, HW0.r1, HW0.r2, HW0.r3, HW0.r4, HT0.g0, HT0.g1, HT0.g2, HT0.g3, HT0.g4, HT0.g5, HT0.g6, HT0.g7, HT0.g8, HT0.i, HT0.r0, HT0.r1, HT0.r2, HT0.r3, HT0.r4, HR0.i, HRow0.i, true_and]
  refine ⟨fun hc => ?_, fun hc => by rw [if_pos hc] at hq; exact hq h T C Fr.rf⟩
  rw [if_neg hc] at hq
  refine (q_clear C (fun h1 C1 hF1 => ?_)).2
  have inner : ∀ a, a < 10 → (∀ (h2 : pz_H), CQ h2 x rF n br dn W T rv (rsS v (10 * a + 10)).2 → Fr (SC x rF) h h2 → pz_V mX9_rests Ex Q d bc bs 23 [(0, .ref x), (1, .int v), (2, .int (rsS v (10 * a + 10)).1), (3, .int (nI (a + 1)))] [] h2) →
      ∀ f b (h2 : pz_H), b + f = 10 → CQ h2 x rF n br dn W T rv (rsS v (10 * a + b)).2 → Fr (SC x rF) h h2 → pz_V mX9_rests Ex Q d bc bs 32 [(0, .ref x), (1, .int v), (2, .int (rsS v (10 * a + b)).1), (3, .int (nI a)), (4, .int (nI b))] [] h2 := by
    intro a ha hnext f
    induction f with
    | zero =>
      intro b h2 hb C2 hF2
      have e : b = 10 := hb
      subst e
      refine wX9_rests_32 hd ⟨fun _ => ?_, fun hc => absurd (nI_le (a := 10) (b := 10) (by decide) (by decide)) hc⟩
      rw [nI_1]
      exact hnext h2 C2 hF2
    | succ f ih =>
      intro b h2 hb C2 hF2
      have ec : rsS v (10 * a + (b + 1)) = if bestA v ((10 * a + b) / 10) ((10 * a + b) % 10) = true ∧ bestA v ((10 * a + b) % 10) ((10 * a + b) / 10) = true then ((rsS v (10 * a + b)).1 + 1, if (rsS v (10 * a + b)).1 = 0 then [(nI ((10 * a + b) / 10)).toInt64, (nI ((10 * a + b) % 10)).toInt64] else (rsS v (10 * a + b)).2) else rsS v (10 * a + b) := rfl
      rw [show (10 * a + b) / 10 = a by omega, show (10 * a + b) % 10 = b by omega] at ec
      have g := ih (b + 1)
      rw [ec] at g
      obtain ⟨hr2, hn2, hWo2, hTo2, ⟨rO2, td2, ks2, dw2, HTop2⟩, ⟨ru2, nx2, HL2⟩, HW2, HT2, ⟨pa2, sk2, th2, len2, src2, at2, HR2, hv2⟩, ⟨nu2, HRow2, hrow2⟩⟩ := id C2
      refine wX9_rests_32 hd ?_
      simp only [HTop2.g0, HTop2.g1, HTop2.g2, HTop2.g3, HTop2.g4, HTop2.g5, HTop2.g6, HTop2.g7, HTop2.g8, HTop2.g9, HTop2.g10, HTop2.g11, HTop2.g12, HTop2.g13, HTop2.g15, HTop2.g16, HTop2.i, HL2.g0, HL2.g1, HL2.g2, HL2.g3, HL2.g4, HL2.i, HL2.r0, HL2.r1, HW2.g0, HW2.g1, HW2.g2, HW2.g3, HW2.g4, HW2.g5, HW2.g6, HW2.g7, HW2.g8, HW2.i, HW2.r0, HW2.r1, HW2.r2, HW2.r3, HW2.r4, HT2.g0, HT2.g1, HT2.g2, HT2.g3, HT2.g4, HT2.g5, HT2.g6, HT2.g7, HT2.g8, HT2.i, HT2.r0, HT2.r1, HT2.r2, HT2.r3, HT2.r4, HR2.i, HRow2.i, nI_1, true_and]
      refine ⟨fun hc => absurd hc (nI_ge (b := 10) (by omega) (by decide)), fun _ => t_isBest ha (by omega) (fun r1 hr1 => ⟨_, rfl, ⟨fun h0 => ?_, fun h0 => t_isBest (by omega) (by omega) (fun r2 hr2 => ⟨_, rfl, ⟨fun h0' => ?_, fun h0' => ?_⟩⟩)⟩⟩)⟩
      · rw [if_neg (fun q => by rw [hr1.mp h0] at q; exact absurd q.1 (by decide))] at g
        exact g h2 (by omega) C2 hF2
      · rw [if_neg (fun q => by rw [hr2.mp h0'] at q; exact absurd q.2 (by decide))] at g
        exact g h2 (by omega) C2 hF2
      · have e1 : bestA v a b = true := by
          cases e : bestA v a b
          · exact absurd (hr1.mpr e) h0
          · rfl
        have e2 : bestA v b a = true := by
          cases e : bestA v b a
          · exact absurd (hr2.mpr e) h0'
          · rfl
        rw [if_pos ⟨e1, e2⟩] at g
        refine ⟨fun hne => ?_, fun he => ?_⟩
        · rw [if_neg hne] at g
          exact g h2 (by omega) C2 hF2
        · rw [if_pos he] at g
          simp only [HTop2.g0, HTop2.g1, HTop2.g2, HTop2.g3, HTop2.g4, HTop2.g5, HTop2.g6, HTop2.g7, HTop2.g8, HTop2.g9, HTop2.g10, HTop2.g11, HTop2.g12, HTop2.g13, HTop2.g15, HTop2.g16, HTop2.i, HL2.g0, HL2.g1, HL2.g2, HL2.g3, HL2.g4, HL2.i, HL2.r0, HL2.r1, HW2.g0, HW2.g1, HW2.g2, HW2.g3, HW2.g4, HW2.g5, HW2.g6, HW2.g7, HW2.g8, HW2.i, HW2.r0, HW2.r1, HW2.r2, HW2.r3, HW2.r4, HT2.g0, HT2.g1, HT2.g2, HT2.g3, HT2.g4, HT2.g5, HT2.g6, HT2.g7, HT2.g8, HT2.i, HT2.r0, HT2.r1, HT2.r2, HT2.r3, HT2.r4, HR2.i, HRow2.i, true_and]
          exact q_tell2 C2 (by omega) (fun h5 C5 hF5 => ⟨rfl, g h5 (by omega) C5 (hF2.tt hF5)⟩)
  suffices H : ∀ f a (h2 : pz_H), a + f = 10 → CQ h2 x rF n br dn W T rv (rsS v (10 * a)).2 → Fr (SC x rF) h h2 → pz_V mX9_rests Ex Q d bc bs 23 [(0, .ref x), (1, .int v), (2, .int (rsS v (10 * a)).1), (3, .int (nI a))] [] h2 from H 10 0 h1 rfl C1 hF1
  intro f
  induction f with
  | zero =>
    intro a h2 ha C2 hF2
    have e : a = 10 := ha
    subst e
    exact wX9_rests_23 hd ⟨fun _ => hq h2 T C2 hF2, fun hc => absurd (nI_le (a := 10) (b := 10) (by decide) (by decide)) hc⟩
  | succ f ih =>
    intro a h2 ha C2 hF2
    refine wX9_rests_23 hd ⟨fun hc => absurd hc (nI_ge (b := 10) (by omega) (by decide)), fun _ => ?_⟩
    exact inner a (by omega) (fun h3 C3 hF3 => ih (a + 1) h3 (by omega) C3 hF3) 10 0 h2 rfl C2 hF2
theorem CQ.dwT {rO : Nat} {td : Option Nat} {ks : Nat} {dw dw' : Int32} {h' : pz_H} (C : CQ h x rF n br dn W T rv rw) (hF : Fr [x] h h') (H : Top h' x rF rO td ks dw') : CQ h' x rF n br dn W T rv rw := by
  obtain ⟨hr_, hn_, hWo_, hTo_, ⟨rO_, td_, ks_, dw_, HTop_⟩, ⟨ru_, nx_, HL_⟩, HW_, HT_, ⟨pa_, sk_, th_, len_, src_, at_, HR_, hv_⟩, ⟨nu_, HRow_, hrow_⟩⟩ := id C
  exact ⟨hr_, hn_, hWo_, hTo_, ⟨rO, td, ks, dw', H⟩, ⟨ru_, nx_, HL_.fr hF (by intro b hb; simp at hb; omega)⟩, HW_.fr hF (by intro b hb; simp at hb; omega), HT_.fr hF (by intro b hb; simp at hb; omega), ⟨pa_, sk_, th_, len_, src_, at_, HR_.fr hF (by intro b hb; simp at hb; omega), hv_⟩, ⟨nu_, HRow_.fr hF (by intro b hb; simp at hb; omega), hrow_⟩⟩
theorem t_draw {rO : Nat} {td : Option Nat} {ks : Nat} {dw : Int32} {m : Nat} (C : CQ h x rF n br dn W T rv rw) (H : Top h x rF rO td ks dw) (h0 : 0 < m) (hm : m < 2 ^ 31) (hq : ∀ h', CQ h' x rF n br dn W T rv rw → Top h' x rF rO td ks (drawN dw) → Fr (x :: SC x rF) h h' → Q (some (.int (nI (drW (drawN dw) m)))) h') : pz_V mX9_draw Ex Q d bc bs 0 [(0, .ref x), (1, .int (nI m))] [] h := by
  refine wX9_draw_0 (H.g16.mpr (H.p16.mpr ?_))
  have H2 := H.u16 (drawN dw)
  have hF2 : Fr [x] h (pz_put h x (aO 9 [.ref (x + 1), .ref (x + 3), .ref (x + 5), .ref (x + 10), .ref (x + 16), .ref (x + 22), .ref (x + 28), .ref (x + 102), .ref (x + 106), .ref (x + 109), .ref (x + 110), .ref (x + 111), .ref rF, .ref rO, va_rf td, .int (nI ks), .int (drawN dw)])) := fr_1 (by simp)
  refine ⟨fun hc => absurd hc (nI_nle h0 hm), fun _ => H2.g16.mpr ⟨nI_ne0 h0 hm, ?_⟩⟩
  have e : drV (drawN dw) (nI m) = nI (drW (drawN dw) m) := drV_eq _ h0 hm
  unfold drV at e
  rw [e]
  exact hq _ (C.dwT (dw := dw) hF2 H2) H2 (hF2.mono (by simp))
theorem c_years {w m : Int32} {rO : Nat} {td : Option Nat} {ks : Nat} {dw : Int32} (C : CQ h x rF n br dn W T rv rw) (HTop : Top h x rF rO td ks dw) (hd : 5 ≤ d) (hq : ∀ h' T' dw', CQ h' x rF n br dn W T' rv (s_years rv br dn n W rw w m).2 → Top h' x rF rO td ks dw' → Fr (x :: SC x rF) h h' → Q (some (.int (s_years rv br dn n W rw w m).1)) h') : pz_V mX9_years Ex Q d bc bs 0 [(0, .ref x), (1, .int w), (2, .int m)] [] h := by
  unfold s_years at hq
  refine wX9_years_0 hd ⟨fun hc => ?_, fun hc => by rw [if_pos hc] at hq; exact hq h T dw C HTop Fr.rf⟩
  rw [if_neg hc] at hq
  obtain ⟨k, hk, hk2, rfl⟩ := (within_1 (lo := 1) (hi := 60) (by decide) (by decide)).mp hc
  rw [clamp (by omega)] at hq
  dsimp only at hq
  have hn := C.2.1
  have hr := C.1
  have hW := C.2.2.1
  have sub : ∀ {h1 h2 : pz_H}, Fr (SC x rF) h1 h2 → Fr (x :: SC x rF) h1 h2 := fun hF => hF.mono (fun b hb => List.mem_cons_of_mem _ hb)
  have nx_ : x ∉ SC x rF := by simp; omega
  refine ⟨HTop.i.mpr trivial, q_start C (by omega) (fun h1 C1 hF1 => ⟨rfl, ?_⟩)⟩
  have HTop1 := HTop.fr hF1 nx_
  refine HTop1.p16.mpr ?_
  have HTop2 := HTop1.u16 w
  have hF2 : Fr [x] h1 (pz_put h1 x (aO 9 [.ref (x + 1), .ref (x + 3), .ref (x + 5), .ref (x + 10), .ref (x + 16), .ref (x + 22), .ref (x + 28), .ref (x + 102), .ref (x + 106), .ref (x + 109), .ref (x + 110), .ref (x + 111), .ref rF, .ref rO, va_rf td, .int (nI ks), .int w])) := fr_1 (by simp)
  have C2 := C1.dwT (dw := dw) hF2 HTop2
  suffices H : ∀ (q j : Nat) (h2 : pz_H), j + q = k → CQ h2 x rF n br dn W (yrS rv br dn n W w j).1 rv rw → Top h2 x rF rO td ks (yrS rv br dn n W w j).2 → Fr (x :: SC x rF) h h2 → pz_V mX9_years Ex Q d bc bs 23 [(0, .ref x), (2, .int (nI k)), (3, .int (nI j))] [] h2 from H k 0 _ (Nat.zero_add _) C2 HTop2 ((sub hF1).tt (hF2.mono (by simp)))
  clear HTop2 hF2 C2 HTop1 hF1 C1
  intro q
  induction q with
  | zero =>
    intro j h2 hj C2 HTop2 hF2
    have e : j = k := hj
    subst e
    refine wX9_years_23 hd ?_
    obtain ⟨hr3, hn3, hWo3, hTo3, ⟨rO3, td3, ks3, dw3, HTop3⟩, ⟨ru3, nx3, HL3⟩, HW3, HT3, ⟨pa3, sk3, th3, len3, src3, at3, HR3, hv3⟩, ⟨nu3, HRow3, hrow3⟩⟩ := id C2
    simp only [HTop3.g0, HTop3.g1, HTop3.g2, HTop3.g3, HTop3.g4, HTop3.g5, HTop3.g6, HTop3.g7, HTop3.g8, HTop3.g9, HTop3.g10, HTop3.g11, HTop3.g12, HTop3.g13, HTop3.g15, HTop3.g16, HTop3.i, HL3.g0, HL3.g1, HL3.g2, HL3.g3, HL3.g4, HL3.i, HL3.r0, HL3.r1, HW3.g0, HW3.g1, HW3.g2, HW3.g3, HW3.g4, HW3.g5, HW3.g6, HW3.g7, HW3.g8, HW3.i, HW3.r0, HW3.r1, HW3.r2, HW3.r3, HW3.r4, HT3.g0, HT3.g1, HT3.g2, HT3.g3, HT3.g4, HT3.g5, HT3.g6, HT3.g7, HT3.g8, HT3.i, HT3.r0, HT3.r1, HT3.r2, HT3.r3, HT3.r4, HR3.i, HRow3.i, true_and]
    refine ⟨fun _ => q_tell2 C2 (by omega) (fun h5 C5 hF5 => ⟨rfl, ?_⟩), fun hc => absurd (nI_le (Nat.le_refl _) (by omega)) hc⟩
    obtain ⟨hr5, hn5, hWo5, hTo5, ⟨rO5, td5, ks5, dw5, HTop5⟩, ⟨ru5, nx5, HL5⟩, HW5, HT5, ⟨pa5, sk5, th5, len5, src5, at5, HR5, hv5⟩, ⟨nu5, HRow5, hrow5⟩⟩ := id C5
    simp only [HTop5.g0, HTop5.g1, HTop5.g2, HTop5.g3, HTop5.g4, HTop5.g5, HTop5.g6, HTop5.g7, HTop5.g8, HTop5.g9, HTop5.g10, HTop5.g11, HTop5.g12, HTop5.g13, HTop5.g15, HTop5.g16, HTop5.i, HL5.g0, HL5.g1, HL5.g2, HL5.g3, HL5.g4, HL5.i, HL5.r0, HL5.r1, HW5.g0, HW5.g1, HW5.g2, HW5.g3, HW5.g4, HW5.g5, HW5.g6, HW5.g7, HW5.g8, HW5.i, HW5.r0, HW5.r1, HW5.r2, HW5.r3, HW5.r4, HT5.g0, HT5.g1, HT5.g2, HT5.g3, HT5.g4, HT5.g5, HT5.g6, HT5.g7, HT5.g8, HT5.i, HT5.r0, HT5.r1, HT5.r2, HT5.r3, HT5.r4, HR5.i, HRow5.i, true_and]
    exact q_total C5 (by omega) ⟨_, rfl, hq h5 _ _ C5 (HTop2.fr hF5 nx_) (hF2.tt (sub hF5))⟩
  | succ q ih =>
    intro j h2 hj C2 HTop2 hF2
    have g := fun h' => ih (j + 1) h' (by omega)
    have ec : yrS rv br dn n W w (j + 1) = yrStep rv br dn n (yrS rv br dn n W w j) := rfl
    rw [ec] at g
    generalize yrS rv br dn n W w j = s at C2 HTop2 g
    obtain ⟨T2, w2⟩ := s
    dsimp only at C2 HTop2
    refine wX9_years_23 hd ⟨fun hc => absurd hc (nI_ge (by omega) (by omega)), fun _ => ⟨HTop2.i.mpr trivial, ?_⟩⟩
    refine t_draw (m := 4) C2 HTop2 (by decide) (by decide) (fun h3 C3 HTop3 hF3 => ⟨_, rfl, HTop3.i.mpr trivial, ?_⟩)
    rw [nI_1]
    have e4 : drV (drawN w2) 4 = nI (drW (drawN w2) 4) := drV_eq (drawN w2) (m := 4) (by decide) (by decide)
    have g4 := drW_lt (drawN w2) (m := 4) (by decide)
    have hF := hF2.tt hF3
    unfold yrStep at g
    dsimp only at g
    rw [e4] at g
    obtain ⟨hr3b, hn3b, hWo3b, hTo3b, ⟨rO3b, td3b, ks3b, dw3b, HTop3b⟩, ⟨ru3b, nx3b, HL3b⟩, HW3b, HT3b, ⟨pa3b, sk3b, th3b, len3b, src3b, at3b, HR3b, hv3b⟩, ⟨nu3b, HRow3b, hrow3b⟩⟩ := id C3
    refine wX9_doDrawn_0 (by omega) ?_
    simp only [HTop3b.g0, HTop3b.g1, HTop3b.g2, HTop3b.g3, HTop3b.g4, HTop3b.g5, HTop3b.g6, HTop3b.g7, HTop3b.g8, HTop3b.g9, HTop3b.g10, HTop3b.g11, HTop3b.g12, HTop3b.g13, HTop3b.g15, HTop3b.g16, HTop3b.i, HL3b.g0, HL3b.g1, HL3b.g2, HL3b.g3, HL3b.g4, HL3b.i, HL3b.r0, HL3b.r1, HW3b.g0, HW3b.g1, HW3b.g2, HW3b.g3, HW3b.g4, HW3b.g5, HW3b.g6, HW3b.g7, HW3b.g8, HW3b.i, HW3b.r0, HW3b.r1, HW3b.r2, HW3b.r3, HW3b.r4, HT3b.g0, HT3b.g1, HT3b.g2, HT3b.g3, HT3b.g4, HT3b.g5, HT3b.g6, HT3b.g7, HT3b.g8, HT3b.i, HT3b.r0, HT3b.r1, HT3b.r2, HT3b.r3, HT3b.r4, HR3b.i, HRow3b.i, true_and]
    refine ⟨fun h2le => ⟨fun hne => ?_, fun hz => ?_⟩, fun h2nle => q_day C3 (by omega) (fun h4 C4 hF4 => ⟨rfl, ?_⟩)⟩
    · have hn0 : 0 < n := by
        rcases Nat.eq_zero_or_pos n with q | q
        · exact absurd (by rw [q]; rfl) hne
        · exact q
      rw [if_neg (fun q => q h2le), if_neg (by omega)] at g
      refine t_draw (m := n) C3 HTop3 hn0 (by omega) (fun h4 C4 HTop4 hF4 => ⟨_, rfl, ?_⟩)
      have gn := drW_lt (drawN (drawN w2)) hn0
      have hF := hF.tt hF4
      obtain ⟨hr4b, hn4b, hWo4b, hTo4b, ⟨rO4b, td4b, ks4b, dw4b, HTop4b⟩, ⟨ru4b, nx4b, HL4b⟩, HW4b, HT4b, ⟨pa4b, sk4b, th4b, len4b, src4b, at4b, HR4b, hv4b⟩, ⟨nu4b, HRow4b, hrow4b⟩⟩ := id C4
      refine ⟨fun hne2 => ?_, fun he2 => ?_⟩
      · rw [if_neg hne2] at g
        simp only [HTop4b.g0, HTop4b.g1, HTop4b.g2, HTop4b.g3, HTop4b.g4, HTop4b.g5, HTop4b.g6, HTop4b.g7, HTop4b.g8, HTop4b.g9, HTop4b.g10, HTop4b.g11, HTop4b.g12, HTop4b.g13, HTop4b.g15, HTop4b.g16, HTop4b.i, HL4b.g0, HL4b.g1, HL4b.g2, HL4b.g3, HL4b.g4, HL4b.i, HL4b.r0, HL4b.r1, HW4b.g0, HW4b.g1, HW4b.g2, HW4b.g3, HW4b.g4, HW4b.g5, HW4b.g6, HW4b.g7, HW4b.g8, HW4b.i, HW4b.r0, HW4b.r1, HW4b.r2, HW4b.r3, HW4b.r4, HT4b.g0, HT4b.g1, HT4b.g2, HT4b.g3, HT4b.g4, HT4b.g5, HT4b.g6, HT4b.g7, HT4b.g8, HT4b.i, HT4b.r0, HT4b.r1, HT4b.r2, HT4b.r3, HT4b.r4, HR4b.i, HRow4b.i, true_and]
        refine ⟨fun hc => absurd hc (has_i hn gn), fun _ => t_draw (m := 10) C4 HTop4 (by decide) (by decide) (fun h5 C5 HTop5 hF5 => ⟨_, rfl, ?_⟩)⟩
        have e10 : drV (drawN (drawN (drawN w2))) 10 = nI (drW (drawN (drawN (drawN w2))) 10) := drV_eq _ (m := 10) (by decide) (by decide)
        rw [e10] at g
        exact q_tp C5 (by omega) (fun h6 C6 hF6 => g h6 C6 (HTop5.fr hF6 nx_) ((hF.tt hF5).tt (sub hF6)))
      · rw [if_pos he2] at g
        simp only [HTop4b.g0, HTop4b.g1, HTop4b.g2, HTop4b.g3, HTop4b.g4, HTop4b.g5, HTop4b.g6, HTop4b.g7, HTop4b.g8, HTop4b.g9, HTop4b.g10, HTop4b.g11, HTop4b.g12, HTop4b.g13, HTop4b.g15, HTop4b.g16, HTop4b.i, HL4b.g0, HL4b.g1, HL4b.g2, HL4b.g3, HL4b.g4, HL4b.i, HL4b.r0, HL4b.r1, HW4b.g0, HW4b.g1, HW4b.g2, HW4b.g3, HW4b.g4, HW4b.g5, HW4b.g6, HW4b.g7, HW4b.g8, HW4b.i, HW4b.r0, HW4b.r1, HW4b.r2, HW4b.r3, HW4b.r4, HT4b.g0, HT4b.g1, HT4b.g2, HT4b.g3, HT4b.g4, HT4b.g5, HT4b.g6, HT4b.g7, HT4b.g8, HT4b.i, HT4b.r0, HT4b.r1, HT4b.r2, HT4b.r3, HT4b.r4, HR4b.i, HRow4b.i, shl1 (drW (drawN (drawN w2)) n) (by omega), xor_nI, true_and]
        exact q_ou C4 (xor64 C4.2.2.2.1.1 (two_lt (by omega))) (fun h6 C6 hF6 => g h6 C6 (HTop4.fr hF6 nx_) (hF.tt (sub hF6)))
    · have hn0 : n = 0 := by
        rcases Nat.eq_zero_or_pos n with q | q
        · exact q
        · exact absurd hz (nI_ne0 q (by omega))
      rw [if_neg (fun q => q h2le), if_pos hn0] at g
      exact g h3 C3 HTop3 hF
    · rw [if_pos h2nle] at g
      exact g h4 C4 (HTop3.fr hF4 nx_) (hF.tt (sub hF4))
end CT
