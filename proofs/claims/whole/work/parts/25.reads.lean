/-! ===== reads: spec, and the class ===== -/
/-- of how many of the list g is v -/
def cn (g : Nat → Nat) (L : List Nat) (v : Nat) : Nat := (L.filter (fun k => g k == v)).length
theorem cn_app (g : Nat → Nat) (L : List Nat) (k v : Nat) : cn g (L ++ [k]) v = cn g L v + if g k = v then 1 else 0 := by
  unfold cn
  rw [List.filter_append, List.length_append]
  by_cases e : g k = v
  · simp [e]
  · simp [e]
theorem cn_le (g : Nat → Nat) (L : List Nat) (v : Nat) : cn g L v ≤ L.length := List.length_filter_le _ _
def mxV (f : Nat → Nat) : Nat → Nat
  | 0 => 0
  | v + 1 => if mxV f v < f v then f v else mxV f v
theorem mxV_ge {f : Nat → Nat} : ∀ {N v : Nat}, v < N → f v ≤ mxV f N
  | 0, v, h => absurd h (Nat.not_lt_zero v)
  | N + 1, v, h => by
    unfold mxV
    rcases Nat.lt_or_ge v N with q | q
    · have := mxV_ge (f := f) q
      split <;> omega
    · have : v = N := by omega
      subst this
      split <;> omega
theorem mxV_le {f : Nat → Nat} {b : Nat} : ∀ {N : Nat}, (∀ v, v < N → f v ≤ b) → mxV f N ≤ b
  | 0, _ => Nat.zero_le _
  | N + 1, h => by
    unfold mxV
    have := mxV_le (f := f) (b := b) (N := N) (fun v hv => h v (by omega))
    have := h N (by omega)
    split <;> omega
theorem mxV_at {f : Nat → Nat} : ∀ {N : Nat}, mxV f N = 0 ∨ ∃ v, v < N ∧ mxV f N = f v
  | 0 => Or.inl rfl
  | N + 1 => by
    unfold mxV
    split
    · exact Or.inr ⟨N, by omega, rfl⟩
    · rcases mxV_at (f := f) (N := N) with e | ⟨v, hv, e⟩
      · exact Or.inl e
      · exact Or.inr ⟨v, by omega, e⟩
theorem mxV_app {g : Nat → Nat} {L : List Nat} {k N : Nat} (hk : g k < N) : mxV (cn g (L ++ [k])) N = if mxV (cn g L) N < cn g L (g k) + 1 then cn g L (g k) + 1 else mxV (cn g L) N := by
  have h1 : cn g L (g k) + 1 ≤ mxV (cn g (L ++ [k])) N := by
    have := mxV_ge (f := cn g (L ++ [k])) hk
    rw [cn_app, if_pos rfl] at this
    exact this
  have h2 : mxV (cn g L) N ≤ mxV (cn g (L ++ [k])) N := mxV_le (fun v hv => by
    have := mxV_ge (f := cn g (L ++ [k])) hv
    rw [cn_app] at this
    omega)
  have h3 : mxV (cn g (L ++ [k])) N ≤ (if mxV (cn g L) N < cn g L (g k) + 1 then cn g L (g k) + 1 else mxV (cn g L) N) := mxV_le (fun v hv => by
    rw [cn_app]
    have := mxV_ge (f := cn g L) hv
    by_cases e : g k = v
    · subst e
      rw [if_pos rfl]
      split <;> omega
    · rw [if_neg e]
      split <;> omega)
  split at h3
  · rename_i hc
    rw [if_pos hc]
    omega
  · rename_i hc
    rw [if_neg hc]
    omega
def FL (p : Nat → Bool) : Nat → List Nat
  | 0 => []
  | k + 1 => if p k = true then FL p k ++ [k] else FL p k
theorem FL_len (p : Nat → Bool) : ∀ k, (FL p k).length ≤ k
  | 0 => Nat.le_refl _
  | k + 1 => by
    have := FL_len p k
    unfold FL
    split
    · rw [List.length_append]; simp; exact this
    · omega
def rdS (f : Nat → Nat) : Nat → Option (Nat × Nat)
  | 0 => none
  | j + 1 => match rdS f j with
    | none => some (j, f j)
    | some (b, v) => if f j < v then some (j, f j) else some (b, v)
section SP
variable (rv : pRV) (br dn : Nat → Int32) (n : Nat) (R : pG) (W : pW) (rw : List Int64)
def lvK (o t k : Nat) : Nat := ((daysW rv br dn n t (leakK W k)).lv o).toNatClampNeg
def fitK (k : Nat) : Bool := fitAll rv br dn n R (leakK W k)
def mostS (j : Nat) : Nat := mxV (cn (lvK rv br dn n W (j / 21) (j % 21)) (FL (fitK rv br dn n R W) (9 * n))) 100
def s_reads : pA := if FL (fitK rv br dn n R W) (9 * n) = [] then (-2, rw) else match rdS (mostS rv br dn n R W) (21 * n) with
  | none => (-2, rw)
  | some (j, v) => (nI j, [(nI v).toInt64])
end SP
theorem Rg.leakW {n : Nat} {br : Nat → Int32} {W : pW} (h : Rg n br W) (hl : ∀ i, i < n → Bt (W.lk i) 0 9) {i m : Nat} (hm : m ≤ 9) : Rg n br (leakW W i m) := by
  intro j hj
  obtain ⟨h1, h2, h3, h4, h5⟩ := h j hj
  refine ⟨h1, h2, h3, ?_, h5⟩
  show Bt (upd W.lk i (W.lk i + nI m) j) 0 18
  unfold upd
  split
  · rename_i e
    subst e
    have := Bt.add (hl j hj) (Bt.lit (n := m) (by omega)) (by omega) (by omega)
    exact this.mono (by omega) (by omega)
  · exact h4
theorem mul_nI (a b : Nat) : nI a * nI b = nI (a * b) := by
  apply Int32.toBitVec_inj.mp
  simp [nI]
section CR
variable {Ex : State → Nat → Prop} {Q : Option Value → pz_H → Prop} {d bc bs : Nat} {h : pz_H} {x rF n t : Nat} {br dn : Nat → Int32} {W T : pW} {rv : pRV} {rw : List Int64} {R : pG} {mk al : Nat → Int32} {len : Nat}
abbrev TL (x rF t : Nat) : List Nat := t :: (t + 1) :: (t + 2) :: SC x rF
theorem CQ.frT {h' : pz_H} (C : CQ h x rF n br dn W T rv rw) (ht : x + 132 ≤ t) (hF : Fr [t, t + 1, t + 2] h h') : CQ h' x rF n br dn W T rv rw := C.fr hF (fun b hb => by
  have := C.1
  simp at hb
  omega)
theorem t_mark {v k : Nat} {lv : Nat → Int32} (HD : Tid h t mk al len) (HV : h.2 v = some (aI 6 lv)) (hl : len < 54) (hk : k < 21) (hd : 1 ≤ d) (hq : ∀ h' mk', Tid h' t mk' al len → Fr [t, t + 1, t + 2] h h' → (∀ j, ¬ (126 * len + 6 * k ≤ j ∧ j < 126 * len + 6 * k + 6) → mk' j = mk j) → (∀ o, o < 6 → mk' (126 * len + 6 * k + o) = lv o) → Q none h') : pz_V mX7_mark Ex Q d bc bs 0 [(0, .ref t), (1, .int (nI k)), (2, .ref v)] [] h := by
  refine wX7_mark_0 hd ?_
  have e : nI len * (126 : Int32) + nI k * (6 : Int32) = nI (126 * len + 6 * k) := by
    rw [show (126 : Int32) = nI 126 from rfl, show (6 : Int32) = nI 6 from rfl, mul_nI, mul_nI, nI_add]
    congr 1
    omega
  have e2 : nI 6804 - (6 : Int32) = nI 6798 := by decide
  simp only [HD.g0, HD.g1, HD.g2, HD.l0, lI_eq HV, e, e2]
  refine ⟨fun hc => absurd hc (nI_pos (by omega)), fun _ => ⟨fun hc => absurd hc (nI_nlt (by omega) (by omega)), fun _ => ⟨fun hc => absurd rfl hc, fun _ => ⟨6, 6804, lv, mk, HV, HD.2.1, by decide, nI_pos (by omega), by decide, by decide, ?_, ?_⟩⟩⟩⟩
  · rw [clamp (by omega)]
    show _ + 6 ≤ 6804
    omega
  · rw [clamp (by omega)]
    refine hq _ _ (HD.v0 _) (fr_1 (by simp)) (fun j hj => ?_) (fun o ho => ?_)
    · show (if 126 * len + 6 * k ≤ j ∧ j < 126 * len + 6 * k + 6 then lv (0 + (j - (126 * len + 6 * k))) else mk j) = _
      rw [if_neg hj]
    · show (if _ then _ else _) = _
      rw [if_pos ⟨by omega, by show _ < _ + 6; omega⟩]
      show lv (0 + (126 * len + 6 * k + o - (126 * len + 6 * k))) = lv o
      congr 1
      omega
theorem q_mark {rO : Nat} {ks : Nat} {dw : Int32} (C : CQ h x rF n br dn W T rv rw) (HTop : Top h x rF rO (some t) ks dw) (HD : Tid h t mk al len) (ht : x + 132 ≤ t) (hl : len < 54) (HG : RngT h (x + 102) R) (hR : RgsOk n R) (hd : 4 ≤ d)
    (hq : ∀ (r : Int32) h' T' mk', (r = 0 ↔ fitAll rv br dn n R T = false) → CQ h' x rF n br dn W T' rv rw → Tid h' t mk' al len → Fr (TL x rF t) h h' → (∀ j, j < 126 * len → mk' j = mk j) → (¬ r = 0 → ∀ k, k < 21 → ∀ o, o < 6 → mk' (126 * len + 6 * k + o) = (daysW rv br dn n k T).lv o) → Q (some (.int r)) h') : pz_V mX9_markTrial Ex Q d bc bs 0 [(0, .ref x), (1, .ref t)] [] h := by
  have hr := C.1
  have hn := C.2.1
  have nG : ∀ b ∈ TL x rF t, b < x + 102 ∨ x + 102 + 4 ≤ b := by intro b hb; simp at hb; omega
  have nX : x ∉ TL x rF t := by simp; omega
  have sub : ∀ {h1 h2 : pz_H}, Fr (SC x rF) h1 h2 → Fr (TL x rF t) h1 h2 := fun hF => hF.mono (fun b hb => List.mem_cons_of_mem _ (List.mem_cons_of_mem _ (List.mem_cons_of_mem _ hb)))
  have sub2 : ∀ {h1 h2 : pz_H}, Fr [t, t + 1, t + 2] h1 h2 → Fr (TL x rF t) h1 h2 := fun hF => hF.mono (fun b hb => by simp at hb ⊢; omega)
  refine wX9_markTrial_0 hd ?_
  suffices H : ∀ q k (h' : pz_H) (mk' : Nat → Int32), k + q = 21 → CQ h' x rF n br dn W (daysW rv br dn n k T) rv rw → Tid h' t mk' al len → Fr (TL x rF t) h h' → (∀ j, j < 126 * len → mk' j = mk j) → (∀ s, s < k → fitD R s (daysW rv br dn n s T).lv = true) → (∀ s, s < k → ∀ o, o < 6 → mk' (126 * len + 6 * s + o) = (daysW rv br dn n s T).lv o) → pz_V mX9_markTrial Ex Q d bc bs 2 [(0, .ref x), (1, .ref t), (2, .int (nI k))] [] h' from H 21 0 h mk rfl C HD Fr.rf (fun _ _ => rfl) (fun s hs => absurd hs (Nat.not_lt_zero s)) (fun s hs => absurd hs (Nat.not_lt_zero s))
  intro q
  induction q with
  | zero =>
    intro k h' mk' hk C' HD' hF' hmk hall hmm
    have e : k = 21 := hk
    subst e
    exact wX9_markTrial_2 hd ⟨fun _ => hq 1 h' _ mk' ⟨fun e => absurd e (by decide), fun e => by rw [fitAll_t.mpr hall] at e; exact absurd e (by decide)⟩ C' HD' hF' hmk (fun _ => hmm), fun hc => absurd (nI_lt (a := 20) (b := 21) (by decide) (by decide)) hc⟩
  | succ q ih =>
    intro k h' mk' hk C' HD' hF' hmk hall hmm
    obtain ⟨hr1, hn1, hWo1, hTo1, ⟨rO1, td1, ks1, dw1, HTop1⟩, ⟨ru1, nx1, HL1⟩, HW1, HT1, ⟨pa1, sk1, th1, len1, src1, at1, HR1, hv1⟩, ⟨nu1, HRow1, hrow1⟩⟩ := id C'
    have HG1 := HG.fr hF' nG
    refine wX9_markTrial_2 hd ⟨fun hc => absurd hc (nI_nlt (a := 20) (by omega) (by decide)), fun _ => ?_⟩
    simp only [HTop1.g0, HTop1.g1, HTop1.g2, HTop1.g3, HTop1.g4, HTop1.g5, HTop1.g6, HTop1.g7, HTop1.g8, HTop1.g9, HTop1.g10, HTop1.g11, HTop1.g12, HTop1.g13, HTop1.g15, HTop1.g16, HTop1.i, HL1.g0, HL1.g1, HL1.g2, HL1.g3, HL1.g4, HL1.i, HL1.r0, HL1.r1, HW1.g0, HW1.g1, HW1.g2, HW1.g3, HW1.g4, HW1.g5, HW1.g6, HW1.g7, HW1.g8, HW1.i, HW1.r0, HW1.r1, HW1.r2, HW1.r3, HW1.r4, HT1.g0, HT1.g1, HT1.g2, HT1.g3, HT1.g4, HT1.g5, HT1.g6, HT1.g7, HT1.g8, HT1.i, HT1.r0, HT1.r1, HT1.r2, HT1.r3, HT1.r4, HR1.i, HRow1.i, HG1.i, nI_1, true_and]
    refine t_fit HG1 HT1.2.1 hR hn (by omega) (fun r hr => ⟨_, rfl, ⟨fun h0 => ?_, fun h0 => ?_⟩⟩)
    · have hf : fitD R k (daysW rv br dn n k T).lv = true := by
        cases e : fitD R k (daysW rv br dn n k T).lv
        · exact absurd (hr.mpr e) h0
        · rfl
      simp only [HTop1.g0, HTop1.g1, HTop1.g2, HTop1.g3, HTop1.g4, HTop1.g5, HTop1.g6, HTop1.g7, HTop1.g8, HTop1.g9, HTop1.g10, HTop1.g11, HTop1.g12, HTop1.g13, HTop1.g15, HTop1.g16, HTop1.i, HL1.g0, HL1.g1, HL1.g2, HL1.g3, HL1.g4, HL1.i, HL1.r0, HL1.r1, HW1.g0, HW1.g1, HW1.g2, HW1.g3, HW1.g4, HW1.g5, HW1.g6, HW1.g7, HW1.g8, HW1.i, HW1.r0, HW1.r1, HW1.r2, HW1.r3, HW1.r4, HT1.g0, HT1.g1, HT1.g2, HT1.g3, HT1.g4, HT1.g5, HT1.g6, HT1.g7, HT1.g8, HT1.i, HT1.r0, HT1.r1, HT1.r2, HT1.r3, HT1.r4, HR1.i, HRow1.i, HD'.i, true_and]
      refine t_mark HD' HT1.2.1 hl (by omega) (by omega) (fun h2 mk2 HD2 hF2 e1 e2 => ⟨rfl, ?_⟩)
      have C2 := C'.frT ht hF2
      obtain ⟨hr2, hn2, hWo2, hTo2, ⟨rO2, td2, ks2, dw2, HTop2⟩, ⟨ru2, nx2, HL2⟩, HW2, HT2, ⟨pa2, sk2, th2, len2, src2, at2, HR2, hv2⟩, ⟨nu2, HRow2, hrow2⟩⟩ := id C2
      simp only [HTop2.g0, HTop2.g1, HTop2.g2, HTop2.g3, HTop2.g4, HTop2.g5, HTop2.g6, HTop2.g7, HTop2.g8, HTop2.g9, HTop2.g10, HTop2.g11, HTop2.g12, HTop2.g13, HTop2.g15, HTop2.g16, HTop2.i, HL2.g0, HL2.g1, HL2.g2, HL2.g3, HL2.g4, HL2.i, HL2.r0, HL2.r1, HW2.g0, HW2.g1, HW2.g2, HW2.g3, HW2.g4, HW2.g5, HW2.g6, HW2.g7, HW2.g8, HW2.i, HW2.r0, HW2.r1, HW2.r2, HW2.r3, HW2.r4, HT2.g0, HT2.g1, HT2.g2, HT2.g3, HT2.g4, HT2.g5, HT2.g6, HT2.g7, HT2.g8, HT2.i, HT2.r0, HT2.r1, HT2.r2, HT2.r3, HT2.r4, HR2.i, HRow2.i, true_and]
      refine q_day C2 (by omega) (fun h3 C3 hF3 => ⟨rfl, ?_⟩)
      refine ih (k + 1) h3 mk2 (by omega) C3 (HD2.fr hF3 (by intro b hb; simp at hb; omega)) ((hF'.tt (sub2 hF2)).tt (sub hF3)) (fun j hj => by rw [e1 j (by omega)]; exact hmk j hj) (fun s hs => ?_) (fun s hs o ho => ?_)
      · rcases Nat.lt_or_ge s k with q | q
        · exact hall s q
        · have : s = k := by omega
          subst this
          exact hf
      · rcases Nat.lt_or_ge s k with q | q
        · rw [e1 _ (by omega)]
          exact hmm s q o ho
        · have : s = k := by omega
          subst this
          exact e2 o ho
    · exact hq 0 h' _ mk' ⟨fun _ => bool_f (fun H => by rw [fitAll_t.mp H k (by omega)] at hr; exact absurd (hr.mp h0) (by decide)), fun _ => rfl⟩ C' HD' hF' hmk (fun q => absurd rfl q)
/-- the marks of the leaks so far -/
def MkOk (rv : pRV) (br dn : Nat → Int32) (n : Nat) (W : pW) (mk : Nat → Int32) (L : List Nat) : Prop := ∀ q, q < L.length → ∀ k, k < 21 → ∀ o, o < 6 → mk (126 * q + 6 * k + o) = (daysW rv br dn n k (leakK W (L.getD q 0))).lv o
theorem q_tide {rO : Nat} {ks : Nat} {dw : Int32} {Kp : pz_H → Prop} (C : CQ h x rF n br dn W T rv rw) (HTop : Top h x rF rO (some t) ks dw) (HD : Tid h t mk al 0) (ht : x + 132 ≤ t) (HG : RngT h (x + 102) R) (hR : RgsOk n R) (hd : 5 ≤ d)
    (hq : ∀ h' T' mk', CQ h' x rF n br dn W T' rv rw → Tid h' t mk' al (FL (fitK rv br dn n R W) (9 * n)).length → Fr (TL x rF t) h h' → MkOk rv br dn n W mk' (FL (fitK rv br dn n R W) (9 * n)) → Q (some (.ref t)) h') : pz_V mX9_takeTidemarks Ex Q d bc bs 33 [(0, .ref x), (1, .ref t), (2, .int 0)] [] h := by
  have hr := C.1
  have hn := C.2.1
  have nG : ∀ b ∈ TL x rF t, b < x + 102 ∨ x + 102 + 4 ≤ b := by intro b hb; simp at hb; omega
  have nX : x ∉ TL x rF t := by simp; omega
  have sub : ∀ {h1 h2 : pz_H}, Fr (SC x rF) h1 h2 → Fr (TL x rF t) h1 h2 := fun hF => hF.mono (fun b hb => List.mem_cons_of_mem _ (List.mem_cons_of_mem _ (List.mem_cons_of_mem _ hb)))
  have sub2 : ∀ {h1 h2 : pz_H}, Fr [t, t + 1, t + 2] h1 h2 → Fr (TL x rF t) h1 h2 := fun hF => hF.mono (fun b hb => by simp at hb ⊢; omega)
  generalize hp : fitK rv br dn n R W = p at hq
  have inner : ∀ i, i < n → (∀ (h5 : pz_H) (T5 : pW) (mk5 : Nat → Int32), CQ h5 x rF n br dn W T5 rv rw → Tid h5 t mk5 al (FL p (9 * i + 9)).length → Fr (TL x rF t) h h5 → MkOk rv br dn n W mk5 (FL p (9 * i + 9)) → pz_V mX9_takeTidemarks Ex Q d bc bs 33 [(0, .ref x), (1, .ref t), (2, .int (nI (i + 1)))] [] h5) →
      ∀ q m (h5 : pz_H) (T5 : pW) (mk5 : Nat → Int32), m + q = 9 → CQ h5 x rF n br dn W T5 rv rw → Tid h5 t mk5 al (FL p (9 * i + m)).length → Fr (TL x rF t) h h5 → MkOk rv br dn n W mk5 (FL p (9 * i + m)) → pz_V mX9_takeTidemarks Ex Q d bc bs 46 [(0, .ref x), (1, .ref t), (2, .int (nI i)), (3, .int (nI (m + 1)))] [] h5 := by
    intro i hi hnext q
    induction q with
    | zero =>
      intro m h5 T5 mk5 hm C5 HD5 hF5 hM5
      have e : m = 9 := hm
      subst e
      refine wX9_takeTidemarks_46 hd ⟨fun _ => ?_, fun hc => absurd (nI_lt (a := 9) (b := 10) (by decide) (by decide)) hc⟩
      rw [nI_1]
      exact hnext h5 T5 mk5 C5 HD5 hF5 hM5
    | succ q ih =>
      intro m h5 T5 mk5 hm C5 HD5 hF5 hM5
      have hlen := FL_len p (9 * i + m)
      have ec : FL p (9 * i + (m + 1)) = if p (9 * i + m) = true then FL p (9 * i + m) ++ [9 * i + m] else FL p (9 * i + m) := rfl
      have g := ih (m + 1)
      rw [ec] at g
      have epk : p (9 * i + m) = fitAll rv br dn n R (leakW W i (m + 1)) := by
        rw [← hp]
        unfold fitK leakK
        rw [show (9 * i + m) / 9 = i by omega, show (9 * i + m) % 9 = m by omega]
      have elk : leakK W (9 * i + m) = leakW W i (m + 1) := by
        unfold leakK
        rw [show (9 * i + m) / 9 = i by omega, show (9 * i + m) % 9 = m by omega]
      obtain ⟨hr5, hn5, hWo5, hTo5, ⟨rO5, td5, ks5, dw5, HTop5⟩, ⟨ru5, nx5, HL5⟩, HW5, HT5, ⟨pa5, sk5, th5, len5, src5, at5, HR5, hv5⟩, ⟨nu5, HRow5, hrow5⟩⟩ := id C5
      refine wX9_takeTidemarks_46 hd ⟨fun hc => absurd hc (nI_nlt (a := 9) (by omega) (by decide)), fun _ => ⟨HTop5.i.mpr trivial, q_leakT C5 hi (by omega) (fun h6 C6 hF6 => ⟨rfl, ?_⟩)⟩⟩
      obtain ⟨hr6, hn6, hWo6, hTo6, ⟨rO6, td6, ks6, dw6, HTop6⟩, ⟨ru6, nx6, HL6⟩, HW6, HT6, ⟨pa6, sk6, th6, len6, src6, at6, HR6, hv6⟩, ⟨nu6, HRow6, hrow6⟩⟩ := id C6
      have hF := hF5.tt (sub hF6)
      have HD6 := HD5.fr hF6 (by intro b hb; simp at hb; omega)
      refine ⟨HTop6.i.mpr trivial, q_mark C6 (HTop.fr hF nX) HD6 ht (by omega) (HG.fr hF nG) hR (by omega) (fun r h7 T7 mk7 hr C7 HD7 hF7 e1 e2 => ⟨_, rfl, ?_⟩)⟩
      have hF := hF.tt hF7
      rw [nI_1]
      rw [← epk] at hr
      refine ⟨fun h0 => ?_, fun h0 => ?_⟩
      · rw [if_neg (by rw [hr.mp h0]; decide)] at g
        exact g h7 T7 mk7 (by omega) C7 HD7 hF (fun z hz k hk o ho => by rw [e1 _ (by omega)]; exact hM5 z hz k hk o ho)
      · have hf : p (9 * i + m) = true := by
          cases e : p (9 * i + m)
          · exact absurd (hr.mpr e) h0
          · rfl
        rw [if_pos hf] at g
        refine ⟨HD7.i.mpr trivial, HD7.g2.mpr (HD7.p2.mpr ?_)⟩
        rw [nI_1]
        have hF8 : Fr [t, t + 1, t + 2] h7 (pz_put h7 t (aO 7 [.ref (t + 1), .ref (t + 2), .int (nI ((FL p (9 * i + m)).length + 1))])) := fr_1 (by simp)
        refine g _ T7 mk7 (by omega) (C7.frT ht hF8) (by rw [List.length_append]; exact HD7.u2 _) (hF.tt (sub2 hF8)) (fun z hz k hk o ho => ?_)
        rw [List.length_append] at hz
        have hz : z < (FL p (9 * i + m)).length + 1 := hz
        rcases Nat.lt_or_ge z (FL p (9 * i + m)).length with q | q
        · rw [e1 _ (by omega), List.getD_eq_getElem?_getD, List.getElem?_append_left q, ← List.getD_eq_getElem?_getD]
          exact hM5 z q k hk o ho
        · have : z = (FL p (9 * i + m)).length := by omega
          subst this
          rw [e2 h0 k hk o ho, List.getD_eq_getElem?_getD, List.getElem?_append_right (Nat.le_refl _), Nat.sub_self]
          rw [← elk]
          rfl
  suffices H : ∀ q i (h5 : pz_H) (T5 : pW) (mk5 : Nat → Int32), i + q = n → CQ h5 x rF n br dn W T5 rv rw → Tid h5 t mk5 al (FL p (9 * i)).length → Fr (TL x rF t) h h5 → MkOk rv br dn n W mk5 (FL p (9 * i)) → pz_V mX9_takeTidemarks Ex Q d bc bs 33 [(0, .ref x), (1, .ref t), (2, .int (nI i))] [] h5 from H n 0 h T mk (Nat.zero_add _) C HD Fr.rf (fun z hz => absurd hz (Nat.not_lt_zero z))
  intro q
  induction q with
  | zero =>
    intro i h5 T5 mk5 hi C5 HD5 hF5 hM5
    have e : i = n := hi
    subst e
    obtain ⟨hr5, hn5, hWo5, hTo5, ⟨rO5, td5, ks5, dw5, HTop5⟩, ⟨ru5, nx5, HL5⟩, HW5, HT5, ⟨pa5, sk5, th5, len5, src5, at5, HR5, hv5⟩, ⟨nu5, HRow5, hrow5⟩⟩ := id C5
    refine wX9_takeTidemarks_33 hd ?_
    simp only [HTop5.g0, HTop5.g1, HTop5.g2, HTop5.g3, HTop5.g4, HTop5.g5, HTop5.g6, HTop5.g7, HTop5.g8, HTop5.g9, HTop5.g10, HTop5.g11, HTop5.g12, HTop5.g13, HTop5.g15, HTop5.g16, HTop5.i, HL5.g0, HL5.g1, HL5.g2, HL5.g3, HL5.g4, HL5.i, HL5.r0, HL5.r1, HW5.g0, HW5.g1, HW5.g2, HW5.g3, HW5.g4, HW5.g5, HW5.g6, HW5.g7, HW5.g8, HW5.i, HW5.r0, HW5.r1, HW5.r2, HW5.r3, HW5.r4, HT5.g0, HT5.g1, HT5.g2, HT5.g3, HT5.g4, HT5.g5, HT5.g6, HT5.g7, HT5.g8, HT5.i, HT5.r0, HT5.r1, HT5.r2, HT5.r3, HT5.r4, HR5.i, HRow5.i, true_and]
    exact ⟨fun _ => hq h5 T5 mk5 C5 HD5 hF5 hM5, fun hc => absurd (nI_le (Nat.le_refl _) (by omega)) hc⟩
  | succ q ih =>
    intro i h5 T5 mk5 hi C5 HD5 hF5 hM5
    obtain ⟨hr5, hn5, hWo5, hTo5, ⟨rO5, td5, ks5, dw5, HTop5⟩, ⟨ru5, nx5, HL5⟩, HW5, HT5, ⟨pa5, sk5, th5, len5, src5, at5, HR5, hv5⟩, ⟨nu5, HRow5, hrow5⟩⟩ := id C5
    refine wX9_takeTidemarks_33 hd ?_
    simp only [HTop5.g0, HTop5.g1, HTop5.g2, HTop5.g3, HTop5.g4, HTop5.g5, HTop5.g6, HTop5.g7, HTop5.g8, HTop5.g9, HTop5.g10, HTop5.g11, HTop5.g12, HTop5.g13, HTop5.g15, HTop5.g16, HTop5.i, HL5.g0, HL5.g1, HL5.g2, HL5.g3, HL5.g4, HL5.i, HL5.r0, HL5.r1, HW5.g0, HW5.g1, HW5.g2, HW5.g3, HW5.g4, HW5.g5, HW5.g6, HW5.g7, HW5.g8, HW5.i, HW5.r0, HW5.r1, HW5.r2, HW5.r3, HW5.r4, HT5.g0, HT5.g1, HT5.g2, HT5.g3, HT5.g4, HT5.g5, HT5.g6, HT5.g7, HT5.g8, HT5.i, HT5.r0, HT5.r1, HT5.r2, HT5.r3, HT5.r4, HR5.i, HRow5.i, true_and]
    exact ⟨fun hc => absurd hc (nI_ge (by omega) (by omega)), fun _ => inner i (by omega) (fun h6 T6 mk6 C6 HD6 hF6 hM6 => ih (i + 1) h6 T6 mk6 (by omega) C6 HD6 hF6 hM6) 9 0 h5 T5 mk5 rfl C5 HD5 hF5 hM5⟩
theorem t_alike {L : List Nat} {g : Nat → Nat} {o k : Nat} (HD : Tid h t mk al L.length) (ho : o < 6) (hk : k < 21) (hL : L.length ≤ 54) (hg : ∀ q, q < L.length → mk (126 * q + 6 * k + o) = nI (g (L.getD q 0)) ∧ g (L.getD q 0) < 100) (hd : 1 ≤ d) (hq : ∀ h' al', Tid h' t mk al' L.length → Fr [t, t + 1, t + 2] h h' → Q (some (.int (nI (mxV (cn g L) 100)))) h') : pz_V mX7_mostAlike Ex Q d bc bs 0 [(0, .ref t), (1, .int (nI o)), (2, .int (nI k))] [] h := by
  refine wX7_mostAlike_0 hd ?_
  have second : ∀ (h1 : pz_H) (al1 : Nat → Int32), Tid h1 t mk al1 L.length → Fr [t, t + 1, t + 2] h h1 → (∀ v, v < 100 → al1 v = 0) → pz_V mX7_mostAlike Ex Q d bc bs 37 [(0, .ref t), (3, .int 0), (4, .int (nI (6 * k + o))), (5, .int 0)] [] h1 := by
    intro h1 al1 HD1 hF1 hz
    suffices H : ∀ r q (h2 : pz_H) (al2 : Nat → Int32), q + r = L.length → Tid h2 t mk al2 L.length → Fr [t, t + 1, t + 2] h h2 → (∀ v, v < 100 → al2 v = nI (cn g (L.take q) v)) → pz_V mX7_mostAlike Ex Q d bc bs 37 [(0, .ref t), (3, .int (nI (mxV (cn g (L.take q)) 100))), (4, .int (nI (126 * q + 6 * k + o))), (5, .int (nI q))] [] h2 by
      have g0 := H L.length 0 h1 al1 (Nat.zero_add _) HD1 hF1 (fun v hv => by rw [hz v hv]; rfl)
      have e : mxV (cn g (L.take 0)) 100 = 0 := by
        have := mxV_le (f := cn g (L.take 0)) (b := 0) (N := 100) (fun v _ => Nat.le_refl _)
        omega
      rw [e, show 126 * 0 + 6 * k + o = 6 * k + o by omega] at g0
      exact g0
    intro r
    induction r with
    | zero =>
      intro q h2 al2 hq2 HD2 hF2 hal
      have e : q = L.length := hq2
      rw [e, List.take_length]
      exact wX7_mostAlike_37 hd (HD2.g2.mpr ⟨fun _ => hq h2 al2 HD2 hF2, fun hc => absurd (nI_le (Nat.le_refl _) (by omega)) hc⟩)
    | succ r ih =>
      intro q h2 al2 hq2 HD2 hF2 hal
      obtain ⟨g1, g2⟩ := hg q (by omega)
      have et : L.take (q + 1) = L.take q ++ [L.getD q 0] := by
        rw [List.take_succ, List.getD_eq_getElem?_getD, List.getElem?_eq_getElem (by omega)]
        rfl
      have em := mxV_app (g := g) (L := L.take q) (k := L.getD q 0) g2
      rw [← et] at em
      have vp : vp_in (nI (126 * q + 6 * k + o)) 6804 := vin (by omega) (by decide)
      have v1 : vp_in (nI (g (L.getD q 0))) 100 := vin g2 (by decide)
      have hcl := cn_le g (L.take q) (g (L.getD q 0))
      have hcl2 : (L.take q).length ≤ q := List.length_take_le _ _
      have hml : mxV (cn g (L.take q)) 100 ≤ q := mxV_le (fun v _ => Nat.le_trans (cn_le g (L.take q) v) hcl2)
      have e126 : nI (126 * q + 6 * k + o) + (126 : Int32) = nI (126 * (q + 1) + 6 * k + o) := by
        rw [show (126 : Int32) = nI 126 from rfl, nI_add]
        congr 1
        omega
      refine wX7_mostAlike_37 hd ?_
      simp only [HD2.g0, HD2.g1, HD2.g2, HD2.l0, HD2.l1, HD2.r0, HD2.r1, HD2.s1, vp, true_and, clamp (i := 126 * q + 6 * k + o) (by omega), g1, v1, clamp (i := g (L.getD q 0)) (by omega), nI_1, e126, hal _ g2]
      refine ⟨fun hc => absurd hc (nI_ge (by omega) (by omega)), fun _ => ⟨fun hc => absurd hc (nI_pos (by omega)), fun _ => ⟨fun hc => absurd hc (nI_ge (by omega) (by decide)), fun _ => ⟨fun hc => absurd hc (nI_pos (by omega)), fun _ => ⟨fun hc => absurd hc (nI_ge g2 (by decide)), fun _ => ?_⟩⟩⟩⟩⟩
      have HD3 := HD2.v1 (upd al2 (g (L.getD q 0)) (nI (cn g (L.take q) (g (L.getD q 0)) + 1)))
      simp only [HD3.g1, HD3.r1, v1, true_and, clamp (i := g (L.getD q 0)) (by omega)]
      have eu : upd al2 (g (L.getD q 0)) (nI (cn g (L.take q) (g (L.getD q 0)) + 1)) (g (L.getD q 0)) = nI (cn g (L.take q) (g (L.getD q 0)) + 1) := by
        unfold upd
        rw [if_pos rfl]
      rw [eu]
      have ei : (if nI (mxV (cn g (L.take q)) 100) < nI (cn g (L.take q) (g (L.getD q 0)) + 1) then nI (cn g (L.take q) (g (L.getD q 0)) + 1) else nI (mxV (cn g (L.take q)) 100)) = nI (mxV (cn g (L.take (q + 1))) 100) := by
        rw [em]
        by_cases hc : mxV (cn g (L.take q)) 100 < cn g (L.take q) (g (L.getD q 0)) + 1
        · rw [if_pos hc, if_pos (nI_lt hc (by omega))]
        · rw [if_neg hc, if_neg (nI_nlt (by omega) (by omega))]
      rw [ei]
      refine ih (q + 1) _ _ (by omega) HD3 (hF2.put (by simp)) (fun v hv => ?_)
      rw [et, cn_app]
      unfold upd
      by_cases ev : v = g (L.getD q 0)
      · subst ev
        rw [if_pos rfl, if_pos rfl]
      · rw [if_neg ev, if_neg (fun q => ev q.symm), hal v hv]
        rfl
  suffices H : ∀ q v (h1 : pz_H) (al1 : Nat → Int32), v + q = 100 → Tid h1 t mk al1 L.length → Fr [t, t + 1, t + 2] h h1 → (∀ u, u < v → al1 u = 0) → pz_V mX7_mostAlike Ex Q d bc bs 2 [(0, .ref t), (1, .int (nI o)), (2, .int (nI k)), (3, .int (nI v))] [] h1 from H 100 0 h al rfl HD Fr.rf (fun u hu => absurd hu (Nat.not_lt_zero u))
  intro q
  induction q with
  | zero =>
    intro v h1 al1 hv HD1 hF1 hz
    have e : v = 100 := hv
    subst e
    refine wX7_mostAlike_2 hd (HD1.g1.mpr (HD1.l1.mpr ⟨fun _ => ?_, fun hc => absurd (nI_le (Nat.le_refl 100) (by omega)) hc⟩))
    have e6 : nI k * (6 : Int32) + nI o = nI (6 * k + o) := by
      rw [show (6 : Int32) = nI 6 from rfl, mul_nI, nI_add]
      congr 1
      omega
    rw [e6]
    exact second h1 al1 HD1 hF1 hz
  | succ q ih =>
    intro v h1 al1 hv HD1 hF1 hz
    refine wX7_mostAlike_2 hd (HD1.g1.mpr (HD1.l1.mpr ⟨fun hc => absurd hc (nI_ge (by omega) (by decide)), fun _ => HD1.g1.mpr (HD1.s1.mpr ⟨vin (by omega) (by decide), ?_⟩)⟩))
    rw [clamp (by omega), nI_1]
    refine ih (v + 1) _ _ (by omega) (HD1.v1 _) (hF1.put (by simp)) (fun u hu => ?_)
    unfold upd
    split
    · rfl
    · exact hz u (by omega)
end CR
