/-! ===== lake and row: the class's, and the law's catching ===== -/
section LKR
variable {Ex : State → Nat → Prop} {Q : Option Value → pz_H → Prop} {d bc bs : Nat} {h h' : pz_H} {x : Nat} {S : pS} {l : Launch}
theorem C_lake {a w v : Int32} (I : CInv h x S) (O : SOk S) (hd : 3 ≤ d) (hs : s_lake S a w = some v) (hq : ∀ h', CInv h' x S → FC x h h' → Q (some (.int v)) h') : pz_V mX9_lake Ex Q d bc bs 0 [(0, .ref x), (1, .int a), (2, .int w)] [] h := by
  have hq0 := hq h I FC.rf
  obtain ⟨rF, rO, td, dw, T, C, H⟩ := I
  obtain ⟨hr0, hn0, hWo0, hTo0, ⟨rO0, td0, ks0, dw0, HTop0⟩, ⟨ru0, nx0, HL0⟩, HW0, HT0, ⟨pa0, sk0, th0, len0, src0, at0, HR0, hv0⟩, ⟨nu0, HRow0, hrow0⟩⟩ := id C
  unfold s_lake at hs
  by_cases hc : eX1_has a (nI S.n) = 0
  · rw [if_pos hc] at hs; cases hs
  by_cases hw : eX9_isWithin w 0 8 = 0
  · rw [if_neg hc, if_pos hw] at hs; cases hs
  rw [if_neg hc, if_neg hw] at hs
  have hv := Option.some.inj hs
  obtain ⟨i, hi, rfl⟩ := (has_0 O.1).mp hc
  obtain ⟨k, hk, rfl⟩ := (within_0 (hi := 8) (by decide)).mp hw
  have hn := O.1
  have ci : (nI i).toNatClampNeg = i := clamp (by omega)
  have vi : vp_in (nI i) 6 := vin (by omega) (by decide)
  rw [ci] at hv
  have ho : S.W.ou < 64 := Nat.lt_of_lt_of_le O.2.2.1.2.2.1 (Nat.pow_le_pow_right (by decide) hn)
  have tk : (nI k).toInt = k := nI_toInt (by omega)
  refine wX9_lake_0 hd (HTop0.g2.mpr ⟨HL0.i.mpr trivial, HL0.g4.mpr ⟨fun z => absurd z hc, fun _ => ⟨fun z => absurd z (Int32.not_lt.mpr (nI_le (Nat.zero_le k) (by omega))), fun _ => ⟨fun _ => ?_, fun z => absurd (nI_le hk (by decide)) z⟩⟩⟩⟩)
  refine ⟨fun e => ?_, fun e => ?_, fun e => ?_, fun e => ?_, fun e => ?_, fun e => ?_, fun e => ?_, fun e => ?_, fun e => ?_⟩
  · rw [if_pos e] at hv
    refine HTop0.g2.mpr (HL0.g0.mpr (HL0.r0.mpr ⟨vi, ?_⟩))
    rw [ci, hv]; exact hq0
  · rw [if_neg (by omega), if_pos e] at hv
    refine HTop0.g3.mpr (HW0.g2.mpr (HW0.r2.mpr ⟨vi, ?_⟩))
    rw [ci, hv]; exact hq0
  · rw [if_neg (by omega), if_neg (by omega), if_pos e] at hv
    refine HTop0.g3.mpr (HW0.g3.mpr (HW0.r3.mpr ⟨vi, ?_⟩))
    rw [ci, hv]; exact hq0
  · rw [if_neg (by omega), if_neg (by omega), if_neg (by omega), if_pos e] at hv
    refine HTop0.g3.mpr (HW0.g4.mpr (HW0.r4.mpr ⟨vi, ?_⟩))
    rw [ci, hv]; exact hq0
  · rw [if_neg (by omega), if_neg (by omega), if_neg (by omega), if_neg (by omega), if_pos e] at hv
    refine HTop0.g2.mpr (HL0.g1.mpr (HL0.r1.mpr ⟨vi, ?_⟩))
    rw [ci, hv]; exact hq0
  · rw [if_neg (by omega), if_neg (by omega), if_neg (by omega), if_neg (by omega), if_neg (by omega), if_pos e] at hv
    refine HTop0.g3.mpr (HW0.g0.mpr (HW0.r0.mpr ⟨vi, ?_⟩))
    rw [ci, hv]; exact hq0
  · rw [if_neg (by omega), if_neg (by omega), if_neg (by omega), if_neg (by omega), if_neg (by omega), if_neg (by omega), if_pos e] at hv
    refine HTop0.g3.mpr ⟨HW0.i.mpr trivial, HW0.g5.mpr ⟨fun z => ?_, fun z => ?_⟩⟩
    · rw [if_neg (by rw [(isIn_0 ho (by omega)).mp z]; decide)] at hv
      rw [← hv] at hq0
      exact hq0
    · rw [if_pos (by
        cases q : S.W.ou.testBit i
        · exact absurd ((isIn_0 ho (by omega)).mpr q) z
        · rfl)] at hv
      rw [← hv] at hq0
      exact hq0
  · rw [if_neg (by omega), if_neg (by omega), if_neg (by omega), if_neg (by omega), if_neg (by omega), if_neg (by omega), if_neg (by omega), if_pos e] at hv
    refine HTop0.g3.mpr (HW0.g1.mpr (HW0.r1.mpr ⟨vi, ?_⟩))
    rw [ci, hv]; exact hq0
  · rw [if_neg (by omega), if_neg (by omega), if_neg (by omega), if_neg (by omega), if_neg (by omega), if_neg (by omega), if_neg (by omega), if_neg (by omega)] at hv
    refine HTop0.g2.mpr (HTop0.g3.mpr (HTop0.g12.mpr ⟨HL0.i.mpr trivial, t_runOf HL0 HW0 HR0 hn hi ho hv0 (by unfold Ap3; omega) (Nat.le_refl _) (fun h1 sk' th' HR' hF => ⟨_, rfl, ?_⟩)⟩))
    rw [hv]
    have CQ1 : CQ h1 x rF S.n S.br S.dn S.W T S.rv S.rw := ⟨hr0, hn0, hWo0, hTo0, ⟨_, _, _, _, HTop0.fr hF (by simp <;> omega)⟩, ⟨_, _, HL0.fr hF (by intro b hb; simp at hb; omega)⟩, HW0.fr hF (by intro b hb; simp at hb; omega), HT0.fr hF (by intro b hb; simp at hb; omega), ⟨_, _, _, _, _, _, HR', hv0⟩, ⟨_, HRow0.fr hF (by intro b hb; simp at hb; omega), hrow0⟩⟩
    obtain ⟨g1, g2⟩ := CInv.back H CQ1 (hF.mono (by intro b hb; simp at hb ⊢; omega))
    exact hq h1 g1 g2
theorem C_row {a : Int32} {v : Int64} (I : CInv h x S) (O : SOk S) (hd : 2 ≤ d) (hs : s_row S a = some v) (hq : Q (some (.long v)) h) : pz_V mX9_row Ex Q d bc bs 0 [(0, .ref x), (1, .int a)] [] h := by
  obtain ⟨rF, rO, td, dw, T, C, H⟩ := I
  obtain ⟨hr0, hn0, hWo0, hTo0, ⟨rO0, td0, ks0, dw0, HTop0⟩, ⟨ru0, nx0, HL0⟩, HW0, HT0, ⟨pa0, sk0, th0, len0, src0, at0, HR0, hv0⟩, ⟨nu0, HRow0, hrow0⟩⟩ := id C
  unfold s_row at hs
  by_cases hc : eX1_has a (nI S.rw.length) = 0
  · rw [if_pos hc] at hs; cases hs
  rw [if_neg hc] at hs
  have hv := Option.some.inj hs
  obtain ⟨i, hi, rfl⟩ := (has_0 O.len).mp hc
  have ol := O.len
  rw [clamp (by omega)] at hv
  have hc4 : ¬ eX4_has (nI i) (nI S.rw.length) = 0 := hc
  refine wX9_row_0 hd (HTop0.g1.mpr ⟨HRow0.i.mpr trivial, HRow0.g1.mpr ⟨fun _ => HTop0.g1.mpr ⟨HRow0.i.mpr trivial, wX4_get_0 (Nat.le_refl _) ⟨HRow0.i.mpr trivial, HRow0.g1.mpr ⟨fun z => absurd z hc4, fun _ => HRow0.g0.mpr (HRow0.r0.mpr ⟨vin (by omega) (by decide), _, rfl, ?_⟩)⟩⟩⟩, fun z => absurd z hc4⟩⟩)
  rw [clamp (by omega), hrow0.2 i hi, hv]
  exact hq
theorem T_lake {a w : Int32} (hl : l.stackTraces = false) (I : CInv h x S) (hd : 6 ≤ d) (hs : s_lake S a w = none) : py_V l mX9_lake (py_EX h) (fun _ _ => False) d 1 6 0 [(0, .ref x), (1, .int a), (2, .int w)] [] h := by
  have thr : ∀ lv, py_V l mX9_lake (py_EX h) (fun _ _ => False) d 1 6 21 lv [] h := fun lv => py_throw rfl hl hd (pz_dc dX9_lake 10 rfl) (pz_dc dX9_lake 11 rfl) (pz_dc dX9_lake 12 rfl) (pz_dc dX9_lake 13 rfl)
  obtain ⟨rF, rO, td, dw, T, C, H⟩ := I
  obtain ⟨hr0, hn0, hWo0, hTo0, ⟨rO0, td0, ks0, dw0, HTop0⟩, ⟨ru0, nx0, HL0⟩, HW0, HT0, ⟨pa0, sk0, th0, len0, src0, at0, HR0, hv0⟩, ⟨nu0, HRow0, hrow0⟩⟩ := id C
  refine py_aload_n (pc' := 1) (x := x) 0 rfl (pz_dc dX9_lake 0 rfl) rfl ?_
  refine py_getR (M := mX9_lake) (K := fun q => q = x + 5) (HTop0.g2.mpr rfl) fX9_26 (pc' := 4) rfl (pz_dc dX9_lake 1 rfl) (fun a1 e1 => ?_)
  subst e1
  refine py_iload_n (pc' := 5) (x := a) 1 rfl (pz_dc dX9_lake 2 rfl) rfl ?_
  refine py_callV (M := mX9_lake) (N := mX1_has) (d' := 0) (bc1 := 0) (bs1 := 0) (bc2 := 1) (bs2 := 6) (pc' := 8) [.int a] vX9_115 rfl (pz_dc dX9_lake 3 rfl) rfl (Nat.le_of_ble_eq_true rfl) (Nat.le_of_ble_eq_true rfl) rfl (by omega) (by omega) (by omega) HL0.1 ?_
  refine cX1_has (HL0.g4.mpr ?_)
  show py_V l mX9_lake _ _ _ _ _ 8 [(0, .ref x), (1, .int a), (2, .int w)] [.int (eX1_has a (nI S.n))] h
  refine py_if_eq (pc' := 11) (tgt := 21) rfl (pz_dc dX9_lake 4 rfl) (by decide) (fun _ => thr _) (fun hc => ?_)
  refine py_iload_n (pc' := 12) (x := w) 2 rfl (pz_dc dX9_lake 5 rfl) rfl ?_
  refine py_if_lt (pc' := 15) (tgt := 21) rfl (pz_dc dX9_lake 6 rfl) (by decide) (fun _ => thr _) (fun hc2 => ?_)
  refine py_iload_n (pc' := 16) (x := w) 2 rfl (pz_dc dX9_lake 7 rfl) rfl ?_
  refine py_bipush (pc' := 18) (v := 8) rfl (pz_dc dX9_lake 8 rfl) kb_8 ?_
  refine py_icmp_le (pc' := 21) (tgt := 29) rfl (pz_dc dX9_lake 9 rfl) (by decide) (fun hc3 => ?_) (fun _ => thr _)
  unfold s_lake at hs
  rw [if_neg hc] at hs
  have hw : ¬ eX9_isWithin w 0 8 = 0 := by
    unfold eX9_isWithin
    rw [if_neg hc2, if_neg (fun z => absurd z (Int32.not_lt.mpr hc3))]
    decide
  rw [if_neg hw] at hs
  cases hs
theorem T_row {a : Int32} (hl : l.stackTraces = false) (I : CInv h x S) (hd : 6 ≤ d) (hs : s_row S a = none) : py_V l mX9_row (py_EX h) (fun _ _ => False) d 1 6 0 [(0, .ref x), (1, .int a)] [] h := by
  obtain ⟨rF, rO, td, dw, T, C, H⟩ := I
  obtain ⟨hr0, hn0, hWo0, hTo0, ⟨rO0, td0, ks0, dw0, HTop0⟩, ⟨ru0, nx0, HL0⟩, HW0, HT0, ⟨pa0, sk0, th0, len0, src0, at0, HR0, hv0⟩, ⟨nu0, HRow0, hrow0⟩⟩ := id C
  refine py_aload_n (pc' := 1) (x := x) 0 rfl (pz_dc dX9_row 0 rfl) rfl ?_
  refine py_getR (M := mX9_row) (K := fun q => q = x + 3) (HTop0.g1.mpr rfl) fX9_19 (pc' := 4) rfl (pz_dc dX9_row 1 rfl) (fun a1 e1 => ?_)
  subst e1
  refine py_iload_n (pc' := 5) (x := a) 1 rfl (pz_dc dX9_row 2 rfl) rfl ?_
  refine py_callV (M := mX9_row) (N := mX4_has) (d' := 0) (bc1 := 0) (bs1 := 0) (bc2 := 1) (bs2 := 6) (pc' := 8) [.int a] vX9_347 rfl (pz_dc dX9_row 3 rfl) rfl (Nat.le_of_ble_eq_true rfl) (Nat.le_of_ble_eq_true rfl) rfl (by omega) (by omega) (by omega) HRow0.1 ?_
  refine cX4_has (HRow0.g1.mpr ?_)
  show py_V l mX9_row _ _ _ _ _ 8 [(0, .ref x), (1, .int a)] [.int (eX4_has a (nI S.rw.length))] h
  refine py_if_ne (pc' := 11) (tgt := 19) rfl (pz_dc dX9_row 4 rfl) (by decide) (fun hc => ?_) (fun _ => py_throw rfl hl hd (pz_dc dX9_row 5 rfl) (pz_dc dX9_row 6 rfl) (pz_dc dX9_row 7 rfl) (pz_dc dX9_row 8 rfl))
  have hc1 : ¬ eX1_has a (nI S.rw.length) = 0 := hc
  unfold s_row at hs
  rw [if_neg hc1] at hs
  cases hs
theorem put_FC {f : Nat → Int64} (I : CInv h x S) : CInv (pz_put h (x + 159) (aJ 1 f)) x S ∧ (∀ b, b ≠ x + 159 → (pz_put h (x + 159) (aJ 1 f)).2 b = h.2 b) ∧ (pz_put h (x + 159) (aJ 1 f)).2 (x + 159) = some (aJ 1 f) := by
  have e : ∀ b, b ≠ x + 159 → (pz_put h (x + 159) (aJ 1 f)).2 b = h.2 b := fun b hb => pz_set_ne hb
  exact ⟨I.fr2 (l := [x + 159]) ⟨rfl, fun b hb => e b (fun z => hb (by rw [z]; exact List.mem_cons_self))⟩ (fun b hb => by simp at hb; omega), e, pz_set_eq _ _ _⟩
/-- the law's lake -/
theorem P_lake {a w : Int32} {f : Nat → Int64} (hl : l.stackTraces = false) (I : CInv h x S) (O : SOk S) (hO : h.2 (x + 159) = some (aJ 1 f)) (hd : 7 ≤ d) (hno : s_lake S a w = none → ∀ n, h.1 ≤ n → Q (some (.int 1)) (n, h.2))
    (hyes : ∀ v, s_lake S a w = some v → ∀ h' f', CInv h' x S → h.1 ≤ h'.1 → (∀ b, x + 132 ≤ b → b < x + 159 → h'.2 b = h.2 b) → h'.2 (x + 159) = some (aJ 1 f') → f' 0 = v.toInt64 → Q (some (.int 0)) h') : py_V l mL_lake (py_EL [(0, 10, 13, 13)]) Q d 1 6 0 [(0, .ref x), (1, .int a), (2, .int w), (3, .ref (x + 159))] [] h := by
  obtain ⟨fs, hx⟩ := I.obj
  refine py_aload_n (pc' := 1) (x := x + 159) 3 rfl (pz_dc dL_lake 0 rfl) rfl ?_
  refine py_iconst (pc' := 2) (v := 0) rfl (pz_dc dL_lake 1 rfl) (by decide) ?_
  refine py_aload_n (pc' := 3) (x := x) 0 rfl (pz_dc dL_lake 2 rfl) rfl ?_
  refine py_iload_n (pc' := 4) (x := a) 1 rfl (pz_dc dL_lake 3 rfl) rfl ?_
  refine py_iload_n (pc' := 5) (x := w) 2 rfl (pz_dc dL_lake 4 rfl) rfl ?_
  cases hs : s_lake S a w with
  | none =>
    refine py_callX (M := mL_lake) (N := mX9_lake) (d' := 6) (bc2 := 0) (bs2 := 0) (st := [.int 0, .ref (x + 159)]) (x0 := { startPc := 0, endPc := 10, handlerPc := 13, catchType := 13 }) [.int a, .int w] (fun E => E) vL_7.1 (pz_t4 179 rfl rfl) vL_7.2.2.1 vL_7.2.2.2.1 (T0 := TX9) (k0 := 17) rfl (pz_dc dL_lake 5 rfl) rfl (Nat.le_of_ble_eq_true rfl) (Nat.le_of_ble_eq_true rfl) rfl (by omega) (by omega) (by omega) hx (by decide) (by decide) (pz_t4 178 rfl rfl) (T_lake hl I (Nat.le_refl _) hs) (fun q n hn => ?_)
    show py_V l mL_lake _ Q d 0 0 13 _ [.ref q] (n, h.2)
    refine py_astore (pc' := 15) rfl (pz_dc dL_lake 9 rfl) (by decide) rfl ?_
    refine py_iconst (pc' := 16) (v := 1) rfl (pz_dc dL_lake 10 rfl) (by decide) ?_
    exact py_iret (pz_dc dL_lake 11 rfl) rfl (hno hs n hn)
  | some v =>
    refine py_callV (M := mL_lake) (N := mX9_lake) (d' := 3) (bc1 := 0) (bs1 := 0) (bc2 := 1) (bs2 := 6) (pc' := 8) (st := [.int 0, .ref (x + 159)]) [.int a, .int w] vL_7 rfl (pz_dc dL_lake 5 rfl) rfl (Nat.le_of_ble_eq_true rfl) (Nat.le_of_ble_eq_true rfl) rfl (by omega) (by omega) (by omega) hx ?_
    refine C_lake I O (Nat.le_refl _) hs (fun h1 I1 F1 => ?_)
    show py_V l mL_lake _ Q d 1 6 8 _ [.int v, .int 0, .ref (x + 159)] h1
    refine py_i2l (pc' := 9) rfl (pz_dc dL_lake 6 rfl) ?_
    obtain ⟨k1, k2, k3⟩ := put_FC (f := vp_updL f (0 : Int32).toNatClampNeg v.toInt64) I1
    refine py_stJ (K := fun q => q = pz_put h1 (x + 159) (aJ 1 (vp_updL f (0 : Int32).toNatClampNeg v.toInt64))) ⟨1, f, (F1.2 _ (by omega) (by omega)).trans hO, vin (i := 0) (by decide) (by decide), rfl⟩ (pc' := 10) rfl (pz_dc dL_lake 7 rfl) (fun h2 e2 => ?_)
    subst e2
    refine py_goto (pc' := 17) (pz_dc dL_lake 8 rfl) (by decide) ?_
    refine py_iconst (pc' := 18) (v := 0) rfl (pz_dc dL_lake 12 rfl) (by decide) ?_
    exact py_iret (pz_dc dL_lake 13 rfl) rfl (hyes v hs _ _ k1 F1.1 (fun b b1 b2 => (k2 b (by omega)).trans (F1.2 b b1 (by omega))) k3 (if_pos rfl))
theorem P_row {a : Int32} {f : Nat → Int64} (hl : l.stackTraces = false) (I : CInv h x S) (O : SOk S) (hO : h.2 (x + 159) = some (aJ 1 f)) (hd : 7 ≤ d) (hno : s_row S a = none → ∀ n, h.1 ≤ n → Q (some (.int 1)) (n, h.2))
    (hyes : ∀ v, s_row S a = some v → ∀ h' f', CInv h' x S → h.1 ≤ h'.1 → (∀ b, x + 132 ≤ b → b < x + 159 → h'.2 b = h.2 b) → h'.2 (x + 159) = some (aJ 1 f') → f' 0 = v → Q (some (.int 0)) h') : py_V l mL_row (py_EL [(0, 8, 11, 13)]) Q d 1 6 0 [(0, .ref x), (1, .int a), (2, .ref (x + 159))] [] h := by
  obtain ⟨fs, hx⟩ := I.obj
  refine py_aload_n (pc' := 1) (x := x + 159) 2 rfl (pz_dc dL_row 0 rfl) rfl ?_
  refine py_iconst (pc' := 2) (v := 0) rfl (pz_dc dL_row 1 rfl) (by decide) ?_
  refine py_aload_n (pc' := 3) (x := x) 0 rfl (pz_dc dL_row 2 rfl) rfl ?_
  refine py_iload_n (pc' := 4) (x := a) 1 rfl (pz_dc dL_row 3 rfl) rfl ?_
  cases hs : s_row S a with
  | none =>
    refine py_callX (M := mL_row) (N := mX9_row) (d' := 6) (bc2 := 0) (bs2 := 0) (st := [.int 0, .ref (x + 159)]) (x0 := { startPc := 0, endPc := 8, handlerPc := 11, catchType := 13 }) [.int a] (fun E => E) vL_15.1 (pz_t5 8 rfl rfl) vL_15.2.2.1 vL_15.2.2.2.1 (T0 := TX9) (k0 := 17) rfl (pz_dc dL_row 4 rfl) rfl (Nat.le_of_ble_eq_true rfl) (Nat.le_of_ble_eq_true rfl) rfl (by omega) (by omega) (by omega) hx (by decide) (by decide) (pz_t4 178 rfl rfl) (T_row hl I (Nat.le_refl _) hs) (fun q n hn => ?_)
    show py_V l mL_row _ Q d 0 0 11 _ [.ref q] (n, h.2)
    refine py_astore_n (pc' := 12) rfl (pz_dc dL_row 7 rfl) (by decide) rfl ?_
    refine py_iconst (pc' := 13) (v := 1) rfl (pz_dc dL_row 8 rfl) (by decide) ?_
    exact py_iret (pz_dc dL_row 9 rfl) rfl (hno hs n hn)
  | some v =>
    refine py_callV (M := mL_row) (N := mX9_row) (d' := 2) (bc1 := 0) (bs1 := 0) (bc2 := 1) (bs2 := 6) (pc' := 7) (st := [.int 0, .ref (x + 159)]) [.int a] vL_15 rfl (pz_dc dL_row 4 rfl) rfl (Nat.le_of_ble_eq_true rfl) (Nat.le_of_ble_eq_true rfl) rfl (by omega) (by omega) (by omega) hx ?_
    refine C_row I O (Nat.le_refl _) hs ?_
    show py_V l mL_row _ Q d 1 6 7 _ [.long v, .int 0, .ref (x + 159)] h
    obtain ⟨k1, k2, k3⟩ := put_FC (f := vp_updL f (0 : Int32).toNatClampNeg v) I
    refine py_stJ (K := fun q => q = pz_put h (x + 159) (aJ 1 (vp_updL f (0 : Int32).toNatClampNeg v))) ⟨1, f, hO, vin (i := 0) (by decide) (by decide), rfl⟩ (pc' := 8) rfl (pz_dc dL_row 5 rfl) (fun h2 e2 => ?_)
    subst e2
    refine py_goto (pc' := 14) (pz_dc dL_row 6 rfl) (by decide) ?_
    refine py_iconst (pc' := 15) (v := 0) rfl (pz_dc dL_row 10 rfl) (by decide) ?_
    exact py_iret (pz_dc dL_row 11 rfl) rfl (hyes v hs _ _ k1 (Nat.le_refl _) (fun b b1 b2 => k2 b (by omega)) k3 (if_pos rfl))
end LKR
