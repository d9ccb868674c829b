/-! ===== the reference: later, dries, brims, meets, marks, swims, order, richest, spoon ===== -/
section ML
variable {Ex : State → Nat → Prop} {Q : Option Value → pz_H → Prop} {d bc bs : Nat} {h0 h h' : pz_H} {m : Nat} {S : pS} {oT : Option pW} {T : pW} {lo lm : Int32} {rw : List Int64} {zz : pX}
theorem M_later {l k : Int32} (H : MW h0 h m S zz oT (-1) lm S.rw) (O : SOk S) (hd : 85 ≤ d) (hq : ∀ h' T' lm' zz', MW h0 h' m S zz' T' (-1) lm' (s_later S.rv S.br S.dn S.n S.W S.rw l k).2 → Q (some (.int (s_later S.rv S.br S.dn S.n S.W S.rw l k).1)) h') : pz_V mX10_later Ex Q d bc bs 0 [(0, .ref m), (1, .int l), (2, .int k)] [] h := by
  have hn := O.1
  unfold s_later at hq
  refine wX10_later_0 hd (H.th (fun h1 H1 => ⟨H1.is, H1.n.mpr ?_⟩))
  rw [isLake_eq hn, in_eq]
  refine ⟨fun hc => ?_, fun hc => ⟨fun hc2 => ?_, fun hc2 => ?_⟩⟩
  · rw [if_pos hc] at hq
    exact hq h1 _ _ _ H1
  · rw [if_neg hc, if_neg hc2] at hq
    obtain ⟨i, hi, rfl⟩ := (has_0 hn).mp hc
    obtain ⟨k, hk, rfl⟩ := (within_0 (hi := 99) (by decide)).mp hc2
    rw [clamp (by omega), clamp (by omega)] at hq
    refine ⟨H1.is, H1.goThen O (by omega) (Nat.le_refl _) (fun h2 H2 => ⟨rfl, H2.row0 (fun h3 H3 => ?_)⟩)⟩
    suffices G : ∀ (q j : Nat) (h4 : pz_H), j + q = S.n → MW h0 h4 m S zz (some (daysW S.rv S.br S.dn S.n k S.W)) (-1) lm (rowL (daysW S.rv S.br S.dn S.n k S.W).lv j) → pz_V mX10_later Ex Q d bc bs 37 [(0, .ref m), (1, .int (nI i)), (3, .int (nI j))] [] h4 from G S.n 0 h3 (Nat.zero_add _) H3
    intro q
    induction q with
    | zero =>
      intro j h4 hj H4
      have e : j = S.n := hj
      subst e
      exact wX10_later_37 hd (H4.n.mpr ⟨fun _ => (H4.g rfl).mpr ((H4.rT O hi).mpr (hq h4 _ _ _ H4)), fun hc => absurd (nI_le (Nat.le_refl _) (by omega)) hc⟩)
    | succ q ih =>
      intro j h4 hj H4
      refine wX10_later_37 hd (H4.n.mpr ⟨fun hc => absurd hc (nI_ge (by omega) (by omega)), fun _ => (H4.g rfl).mpr ((H4.rT O (by omega)).mpr ⟨H4.is, H4.tell (by rw [rowL_len]; omega) (fun h5 H5 => ⟨rfl, ?_⟩)⟩)⟩)
      rw [← rowL_succ] at H5
      rw [nI_1]
      exact ih (j + 1) h5 (by omega) H5
  · rw [if_neg hc, if_pos hc2] at hq
    exact hq h1 _ _ _ H1
theorem M_dries {l : Int32} (H : MW h0 h m S zz oT (-1) lm S.rw) (O : SOk S) (hd : 83 ≤ d) (hq : ∀ h' T' lm' zz', MW h0 h' m S zz' T' (-1) lm' (s_dries S.rv S.br S.dn S.n S.W S.rw l).2 → Q (some (.int (s_dries S.rv S.br S.dn S.n S.W S.rw l).1)) h') : pz_V mX10_dries Ex Q d bc bs 0 [(0, .ref m), (1, .int l)] [] h := by
  have hn := O.1
  unfold s_dries at hq
  refine wX10_dries_0 hd (H.th (fun h1 H1 => ⟨H1.is, H1.n.mpr ?_⟩))
  rw [isLake_eq hn]
  refine ⟨fun hc => ?_, fun hc => ?_⟩
  · rw [if_neg hc] at hq
    obtain ⟨i, hi, rfl⟩ := (has_0 hn).mp hc
    rw [clamp (by omega)] at hq
    refine (H1.g rfl).mpr ((H1.g rfl).mpr (H1.lay0 O (fun h2 H2 => ⟨rfl, ?_⟩)))
    refine firstDay_run (p := fun k => (daysW S.rv S.br S.dn S.n k S.W).lv i = 0) (Z := fun o => ∀ h' T' lm' zz', MW h0 h' m S zz' T' (-1) lm' ((match o with | none => ((-2 : Int32), S.rw) | some k => (nI k, [(sumI (daysW S.rv S.br S.dn S.n k S.W).lv S.n).toInt64])) : pA).2 → Q (some (.int ((match o with | none => ((-2 : Int32), S.rw) | some k => (nI k, [(sumI (daysW S.rv S.br S.dn S.n k S.W).lv S.n).toInt64])) : pA).1)) h')
      (V := fun k hh => pz_V mX10_dries Ex Q d bc bs 29 [(0, .ref m), (1, .int (nI i)), (2, .int (nI k))] [] hh) (Ck := fun k hh => MW h0 hh m S zz (some (daysW S.rv S.br S.dn S.n k S.W)) (-1) lm S.rw) ?_ ?_ ?_ 100 0 h2 rfl H2 hq
    · intro hh hC hz
      exact wX10_dries_29 hd ⟨fun _ => hz hh _ _ _ hC, fun hc => absurd (nI_lt (a := 99) (b := 100) (by decide) (by decide)) hc⟩
    · intro k hh hk hC hp hz
      exact wX10_dries_29 hd ⟨fun hc => absurd hc (nI_nlt (a := 99) (by omega) (by decide)), fun _ => (hC.g rfl).mpr ((hC.rT O hi).mpr ⟨fun hc => absurd hp hc, fun _ => hC.row0 (fun h3 H3 => (H3.g rfl).mpr ⟨H3.is, H3.sum O ⟨_, rfl, H3.is, H3.tell (by decide) (fun h4 H4 => ⟨rfl, hz h4 _ _ _ H4⟩)⟩⟩)⟩)⟩
    · intro k hh hk hC hp ih
      refine wX10_dries_29 hd ⟨fun hc => absurd hc (nI_nlt (a := 99) (by omega) (by decide)), fun _ => (hC.g rfl).mpr ((hC.rT O hi).mpr ⟨fun _ => (hC.g rfl).mpr ⟨hC.is, hC.day O (Nat.le_refl _) (fun h3 H3 => ⟨rfl, ?_⟩)⟩, fun hc => absurd hc hp⟩)⟩
      rw [nI_1]
      exact ih h3 H3
  · rw [if_pos hc] at hq
    exact hq h1 _ _ _ H1
theorem M_brims {l : Int32} (H : MW h0 h m S zz oT (-1) lm S.rw) (O : SOk S) (hd : 83 ≤ d) (hq : ∀ h' T' lm' zz', MW h0 h' m S zz' T' (-1) lm' (s_brims S.rv S.br S.dn S.n S.W S.rw l).2 → Q (some (.int (s_brims S.rv S.br S.dn S.n S.W S.rw l).1)) h') : pz_V mX10_brims Ex Q d bc bs 0 [(0, .ref m), (1, .int l)] [] h := by
  have hn := O.1
  unfold s_brims at hq
  refine wX10_brims_0 hd (H.th (fun h1 H1 => ⟨H1.is, H1.n.mpr ?_⟩))
  rw [isLake_eq hn]
  refine ⟨fun hc => ?_, fun hc => ?_⟩
  · rw [if_neg hc] at hq
    obtain ⟨i, hi, rfl⟩ := (has_0 hn).mp hc
    rw [clamp (by omega)] at hq
    refine (H1.g rfl).mpr ((H1.g rfl).mpr (H1.lay0 O (fun h2 H2 => ⟨rfl, ?_⟩)))
    refine firstDay_run (p := fun k => (daysW S.rv S.br S.dn S.n k S.W).lv i = S.br i) (Z := fun o => ∀ h' T' lm' zz', MW h0 h' m S zz' T' (-1) lm' ((match o with | none => ((-2 : Int32), S.rw) | some k => (nI k, [((daysW S.rv S.br S.dn S.n k S.W).sp - S.W.sp).toInt64])) : pA).2 → Q (some (.int ((match o with | none => ((-2 : Int32), S.rw) | some k => (nI k, [((daysW S.rv S.br S.dn S.n k S.W).sp - S.W.sp).toInt64])) : pA).1)) h')
      (V := fun k hh => pz_V mX10_brims Ex Q d bc bs 29 [(0, .ref m), (1, .int (nI i)), (2, .int (nI k))] [] hh) (Ck := fun k hh => MW h0 hh m S zz (some (daysW S.rv S.br S.dn S.n k S.W)) (-1) lm S.rw) ?_ ?_ ?_ 100 0 h2 rfl H2 hq
    · intro hh hC hz
      exact wX10_brims_29 hd ⟨fun _ => hz hh _ _ _ hC, fun hc => absurd (nI_lt (a := 99) (b := 100) (by decide) (by decide)) hc⟩
    · intro k hh hk hC hp hz
      exact wX10_brims_29 hd ⟨fun hc => absurd hc (nI_nlt (a := 99) (by omega) (by decide)), fun _ => (hC.g rfl).mpr ((hC.rT O hi).mpr ((hC.g rfl).mpr ((hC.rB O hi).mpr ⟨fun hc => absurd hp hc, fun _ => hC.row0 (fun h3 H3 => (H3.g rfl).mpr (H3.rTs.mpr ((H3.g rfl).mpr (H3.rNs.mpr ⟨H3.is, H3.tell (by decide) (fun h4 H4 => ⟨rfl, hz h4 _ _ _ H4⟩)⟩))))⟩)))⟩
    · intro k hh hk hC hp ih
      refine wX10_brims_29 hd ⟨fun hc => absurd hc (nI_nlt (a := 99) (by omega) (by decide)), fun _ => (hC.g rfl).mpr ((hC.rT O hi).mpr ((hC.g rfl).mpr ((hC.rB O hi).mpr ⟨fun _ => (hC.g rfl).mpr ⟨hC.is, hC.day O (Nat.le_refl _) (fun h3 H3 => ⟨rfl, ?_⟩)⟩, fun hc => absurd hc hp⟩)))⟩
      rw [nI_1]
      exact ih h3 H3
  · rw [if_pos hc] at hq
    exact hq h1 _ _ _ H1
theorem M_meets {l k : Int32} (H : MW h0 h m S zz oT (-1) lm S.rw) (O : SOk S) (hd : 83 ≤ d) (hq : ∀ h' T' lm' zz', MW h0 h' m S zz' T' (-1) lm' (s_meets S.rv S.br S.dn S.n S.W S.rw l k).2 → Q (some (.int (s_meets S.rv S.br S.dn S.n S.W S.rw l k).1)) h') : pz_V mX10_meets Ex Q d bc bs 0 [(0, .ref m), (1, .int l), (2, .int k)] [] h := by
  have hn := O.1
  unfold s_meets at hq
  refine wX10_meets_0 hd (H.th (fun h1 H1 => ⟨H1.is, H1.n.mpr (H1.n.mpr ?_)⟩))
  unfold eX10_areTwo
  rw [isLake_eq hn, isLake_eq hn]
  by_cases hc : eX1_has l (nI S.n) = 0
  · rw [if_pos hc] at hq ⊢
    exact ⟨fun z => absurd rfl z, fun _ => hq h1 _ _ _ H1⟩
  rw [if_neg hc] at hq ⊢
  by_cases hc2 : eX1_has k (nI S.n) = 0
  · rw [if_pos hc2] at hq ⊢
    exact ⟨fun z => absurd rfl z, fun _ => hq h1 _ _ _ H1⟩
  rw [if_neg hc2] at hq ⊢
  by_cases hc3 : l = k
  · rw [if_pos hc3] at hq ⊢
    exact ⟨fun z => absurd rfl z, fun _ => hq h1 _ _ _ H1⟩
  rw [if_neg hc3] at hq ⊢
  refine ⟨fun _ => ?_, fun z => absurd z (by decide)⟩
  obtain ⟨i, hi, rfl⟩ := (has_0 hn).mp hc
  obtain ⟨j, hj, rfl⟩ := (has_0 hn).mp hc2
  rw [clamp (by omega), clamp (by omega)] at hq
  refine (H1.g rfl).mpr ((H1.g rfl).mpr (H1.lay0 O (fun h2 H2 => ⟨rfl, ?_⟩)))
  refine firstDay_run (p := fun k => (daysW S.rv S.br S.dn S.n k S.W).lv i = (daysW S.rv S.br S.dn S.n k S.W).lv j) (Z := fun o => ∀ h' T' lm' zz', MW h0 h' m S zz' T' (-1) lm' ((match o with | none => ((-2 : Int32), S.rw) | some k => (nI k, [((daysW S.rv S.br S.dn S.n k S.W).lv i).toInt64])) : pA).2 → Q (some (.int ((match o with | none => ((-2 : Int32), S.rw) | some k => (nI k, [((daysW S.rv S.br S.dn S.n k S.W).lv i).toInt64])) : pA).1)) h')
    (V := fun k hh => pz_V mX10_meets Ex Q d bc bs 30 [(0, .ref m), (1, .int (nI i)), (2, .int (nI j)), (3, .int (nI k))] [] hh) (Ck := fun k hh => MW h0 hh m S zz (some (daysW S.rv S.br S.dn S.n k S.W)) (-1) lm S.rw) ?_ ?_ ?_ 100 0 h2 rfl H2 hq
  · intro hh hC hz
    exact wX10_meets_30 hd ⟨fun _ => hz hh _ _ _ hC, fun hc => absurd (nI_lt (a := 99) (b := 100) (by decide) (by decide)) hc⟩
  · intro k hh hk hC hp hz
    exact wX10_meets_30 hd ⟨fun hc => absurd hc (nI_nlt (a := 99) (by omega) (by decide)), fun _ => (hC.g rfl).mpr ((hC.rT O hi).mpr ((hC.g rfl).mpr ((hC.rT O hj).mpr ⟨fun hc => absurd hp hc, fun _ => hC.row0 (fun h3 H3 => (H3.g rfl).mpr ((H3.rT O hi).mpr ⟨H3.is, H3.tell (by decide) (fun h4 H4 => ⟨rfl, hz h4 _ _ _ H4⟩)⟩))⟩)))⟩
  · intro k hh hk hC hp ih
    refine wX10_meets_30 hd ⟨fun hc => absurd hc (nI_nlt (a := 99) (by omega) (by decide)), fun _ => (hC.g rfl).mpr ((hC.rT O hi).mpr ((hC.g rfl).mpr ((hC.rT O hj).mpr ⟨fun _ => (hC.g rfl).mpr ⟨hC.is, hC.day O (Nat.le_refl _) (fun h3 H3 => ⟨rfl, ?_⟩)⟩, fun hc => absurd hc hp⟩)))⟩
    rw [nI_1]
    exact ih h3 H3
theorem M_marks {l k : Int32} (H : MW h0 h m S zz oT (-1) lm S.rw) (O : SOk S) (hd : 83 ≤ d) (hq : ∀ h' T' lm' zz', MW h0 h' m S zz' T' (-1) lm' (s_marks S.rv S.br S.dn S.n S.W S.rw l k).2 → Q (some (.int (s_marks S.rv S.br S.dn S.n S.W S.rw l k).1)) h') : pz_V mX10_marks Ex Q d bc bs 0 [(0, .ref m), (1, .int l), (2, .int k)] [] h := by
  have hn := O.1
  unfold s_marks at hq
  refine wX10_marks_0 hd (H.th (fun h1 H1 => ⟨H1.is, H1.n.mpr ?_⟩))
  rw [isLake_eq hn, in_eq]
  refine ⟨fun hc => by rw [if_pos hc] at hq; exact hq h1 _ _ _ H1, fun hc => ⟨fun hc2 => ?_, fun hc2 => by rw [if_neg hc, if_pos hc2] at hq; exact hq h1 _ _ _ H1⟩⟩
  rw [if_neg hc, if_neg hc2] at hq
  obtain ⟨i, hi, rfl⟩ := (has_0 hn).mp hc
  obtain ⟨k, hk, rfl⟩ := (within_0 (hi := 99) (by decide)).mp hc2
  rw [clamp (by omega), clamp (by omega)] at hq
  dsimp only at hq
  refine (H1.g rfl).mpr ((H1.g rfl).mpr (H1.lay0 O (fun h2 H2 => ⟨rfl, (H2.g rfl).mpr ((H2.rN O hi).mpr ((H2.g rfl).mpr ((H2.rN O hi).mpr ?_)))⟩)))
  generalize hf : (fun k => (daysW S.rv S.br S.dn S.n k S.W).lv i) = f at hq
  have hf' : ∀ k, (daysW S.rv S.br S.dn S.n k S.W).lv i = f k := fun k => congrFun hf k
  suffices G : ∀ (q j : Nat) (h4 : pz_H), j + q = k → MW h0 h4 m S zz (some (daysW S.rv S.br S.dn S.n j S.W)) (-1) lm S.rw → pz_V mX10_marks Ex Q d bc bs 61 [(0, .ref m), (1, .int (nI i)), (2, .int (nI k)), (3, .int (mkS f j).1), (4, .int (mkS f j).2.1), (5, .int (mkS f j).2.2.1), (6, .int (mkS f j).2.2.2), (7, .int (nI (j + 1)))] [] h4 by
    have := G k 0 h2 (Nat.zero_add _) H2
    rw [show (mkS f 0).1 = S.W.lv i from (hf' 0).symm, show (mkS f 0).2.1 = S.W.lv i from (hf' 0).symm] at this
    exact this
  intro q
  induction q with
  | zero =>
    intro j h4 hj H4
    have e : j = k := hj
    subst e
    exact wX10_marks_61 hd ⟨fun _ => H4.row0 (fun h5 H5 => ⟨H5.is, H5.tell (by decide) (fun h6 H6 => ⟨rfl, H6.is, H6.tell (by simp) (fun h7 H7 => ⟨rfl, H7.is, H7.tell (by simp) (fun h8 H8 => ⟨rfl, hq h8 _ _ _ H8⟩)⟩)⟩)⟩), fun hc => absurd (nI_lt (Nat.lt_succ_self _) (by omega)) hc⟩
  | succ q ih =>
    intro j h4 hj H4
    refine wX10_marks_61 hd ⟨fun hc => absurd hc (nI_nlt (by omega) (by omega)), fun _ => (H4.g rfl).mpr ⟨H4.is, H4.day O (Nat.le_refl _) (fun h5 H5 => ⟨rfl, (H5.g rfl).mpr ((H5.rT O hi).mpr ?_)⟩)⟩⟩
    have g := ih (j + 1) h5 (by omega) H5
    have ef : (dayW S.rv S.br S.dn S.n (daysW S.rv S.br S.dn S.n j S.W)).lv i = f (j + 1) := hf' (j + 1)
    rw [nI_1]
    simp only [mkS] at g
    refine ⟨fun c1 => (H5.g rfl).mpr ((H5.rT O hi).mpr ⟨fun c2 => ?_, fun c2 => (H5.g rfl).mpr ((H5.rT O hi).mpr ?_)⟩), fun c1 => (H5.g rfl).mpr ((H5.rT O hi).mpr ((H5.g rfl).mpr ((H5.rT O hi).mpr ⟨fun c2 => ?_, fun c2 => (H5.g rfl).mpr ((H5.rT O hi).mpr ?_)⟩)))⟩
    all_goals rw [ef] at c1 c2
    · rw [if_pos c1, if_pos c2, if_pos c1, if_pos c2] at g; exact g
    · rw [if_pos c1, if_neg c2, if_pos c1, if_neg c2] at g; rw [ef]; exact g
    · rw [if_neg c1, if_pos c2, if_neg c1, if_pos c2] at g; rw [ef]; exact g
    · rw [if_neg c1, if_neg c2, if_neg c1, if_neg c2] at g; rw [ef]; exact g
theorem swS_bd (f : Nat → Int32) (v : Int32) : ∀ k : Nat, k ≤ 99 → Bt (swS f v k).2.1 0 k ∧ Bt (swS f v k).2.2.1 0 k
  | 0, _ => ⟨Bt.z, Bt.z⟩
  | k + 1, hk => by
    obtain ⟨a, b⟩ := swS_bd f v k (by omega)
    unfold swS
    split
    · exact ⟨Bt.z.mono (by omega) (by omega), b.mono (by omega) (by omega)⟩
    · have c : Bt ((swS f v k).2.1 + 1) 0 (k + 1 : Nat) := (a.add (Bt.lit (n := 1) (by decide)) (by omega) (by omega)).mono (by omega) (by omega)
      refine ⟨c, ?_⟩
      dsimp only
      split
      · exact c
      · exact b.mono (by omega) (by omega)
theorem M_swims {l v k : Int32} (H : MW h0 h m S zz oT (-1) lm S.rw) (O : SOk S) (hd : 83 ≤ d) (hq : ∀ h' T' lm' zz', MW h0 h' m S zz' T' (-1) lm' (s_swims S.rv S.br S.dn S.n S.W S.rw l v k).2 → Q (some (.int (s_swims S.rv S.br S.dn S.n S.W S.rw l v k).1)) h') : pz_V mX10_swims Ex Q d bc bs 0 [(0, .ref m), (1, .int l), (2, .int v), (3, .int k)] [] h := by
  have hn := O.1
  unfold s_swims at hq
  refine wX10_swims_0 hd (H.th (fun h1 H1 => ⟨H1.is, H1.n.mpr ?_⟩))
  rw [isLake_eq hn, in_eq, in_eq]
  refine ⟨fun hc => by rw [if_pos hc] at hq; exact hq h1 _ _ _ H1, fun hc => ⟨fun hc2 => by rw [if_neg hc, if_pos hc2] at hq; exact hq h1 _ _ _ H1, fun hc2 => ⟨fun hc3 => ?_, fun hc3 => by rw [if_neg hc, if_neg hc2, if_pos hc3] at hq; exact hq h1 _ _ _ H1⟩⟩⟩
  rw [if_neg hc, if_neg hc2, if_neg hc3] at hq
  obtain ⟨i, hi, rfl⟩ := (has_0 hn).mp hc
  obtain ⟨k, hk1, hk, rfl⟩ := (within_1 (lo := 1) (hi := 99) (by decide) (by decide)).mp hc3
  rw [clamp (by omega), clamp (by omega)] at hq
  dsimp only at hq
  refine (H1.g rfl).mpr ((H1.g rfl).mpr (H1.lay0 O (fun h2 H2 => ⟨rfl, ?_⟩)))
  generalize hf : (fun k => (daysW S.rv S.br S.dn S.n k S.W).lv i) = f at hq
  have hf' : ∀ k, (daysW S.rv S.br S.dn S.n k S.W).lv i = f k := fun k => congrFun hf k
  suffices G : ∀ (q j : Nat) (h4 : pz_H), j + q = k → MW h0 h4 m S zz (some (daysW S.rv S.br S.dn S.n j S.W)) (-1) lm S.rw → pz_V mX10_swims Ex Q d bc bs 62 [(0, .ref m), (1, .int (nI i)), (2, .int v), (3, .int (nI k)), (4, .int (swS f v j).1), (5, .int (swS f v j).2.2.2), (6, .int (swS f v j).2.1), (7, .int (swS f v j).2.2.1), (8, .int (nI (j + 1)))] [] h4 from G k 0 h2 (Nat.zero_add _) H2
  intro q
  induction q with
  | zero =>
    intro j h4 hj H4
    have e : j = k := hj
    subst e
    exact wX10_swims_62 hd ⟨fun _ => H4.row0 (fun h5 H5 => ⟨H5.is, H5.tell (by decide) (fun h6 H6 => ⟨rfl, H6.is, H6.tell (by simp) (fun h7 H7 => ⟨rfl, hq h7 _ _ _ H7⟩)⟩)⟩), fun hc => absurd (nI_lt (Nat.lt_succ_self _) (by omega)) hc⟩
  | succ q ih =>
    intro j h4 hj H4
    refine wX10_swims_62 hd ⟨fun hc => absurd hc (nI_nlt (by omega) (by omega)), fun _ => (H4.g rfl).mpr ⟨H4.is, H4.day O (Nat.le_refl _) (fun h5 H5 => ⟨rfl, (H5.g rfl).mpr ((H5.rT O hi).mpr ?_)⟩)⟩⟩
    have g := ih (j + 1) h5 (by omega) H5
    rw [show (dayW S.rv S.br S.dn S.n (daysW S.rv S.br S.dn S.n j S.W)).lv i = f (j + 1) from hf' (j + 1)]
    obtain ⟨b1, b2⟩ := swS_bd f v j (by omega)
    unfold swS at g
    rw [nI_1]
    refine ⟨fun c1 => ?_, fun c1 => ⟨fun c2 => ⟨fun c3 => ?_, fun c3 => ?_⟩, fun c2 => ?_⟩⟩
    · rw [if_pos c1] at g
      have nn : ¬ (swS f v j).2.2.1 < 0 := by
        rw [lt_i]
        have := b2.1
        have e0 : (0 : Int32).toInt = 0 := by decide
        omega
      rw [if_neg nn]
      exact g
    · rw [if_neg c1] at g
      dsimp only at g
      rw [if_neg c3] at g; exact g
    · rw [if_neg c1] at g
      dsimp only at g
      rw [if_pos c3] at g; exact g
    · exfalso
      have b3 : Bt ((swS f v j).2.1 + 1) 1 (j + 1 : Nat) := (b1.add (Bt.lit (n := 1) (by decide)) (by omega) (by omega)).mono (by omega) (by omega)
      have := b3.1
      rw [c2] at this
      exact absurd this (by decide)
theorem z_le {x : Int32} {b : Int} (h : Bt x 0 b) : ¬ 0 < x ↔ x = 0 := by
  rw [lt_i, eq_i]
  have := h.1
  have e0 : (0 : Int32).toInt = 0 := by decide
  omega
theorem M_order {k : Int32} (H : MW h0 h m S zz oT (-1) lm S.rw) (O : SOk S) (hd : 83 ≤ d) (hq : ∀ h' T' lm' zz', MW h0 h' m S zz' T' (-1) lm' (s_order S.rv S.br S.dn S.n S.W S.rw k).2 → Q (some (.int (s_order S.rv S.br S.dn S.n S.W S.rw k).1)) h') : pz_V mX10_order Ex Q d bc bs 0 [(0, .ref m), (1, .int k)] [] h := by
  have hn := O.1
  unfold s_order at hq
  refine wX10_order_0 hd (H.th (fun h1 H1 => ?_))
  rw [in_eq]
  refine ⟨fun hc => ?_, fun hc => by rw [if_pos hc] at hq; exact hq h1 _ _ _ H1⟩
  rw [if_neg hc] at hq
  obtain ⟨k, hk, rfl⟩ := (within_0 (hi := 99) (by decide)).mp hc
  rw [clamp (by omega)] at hq
  dsimp only at hq
  refine (H1.g rfl).mpr ((H1.g rfl).mpr (H1.lay0 O (fun h2 H2 => ⟨rfl, H2.row0 (fun h3 H3 => ?_)⟩)))
  have hok := fun j => orS_ok (rv := S.rv) (br := S.br) (dn := S.dn) (W := S.W) hn j
  suffices G : ∀ (q j : Nat) (h4 : pz_H), j + q = k + 1 → MW h0 h4 m S zz (some (daysW S.rv S.br S.dn S.n j S.W)) (-1) lm (orS S.rv S.br S.dn S.n S.W j).2 → pz_V mX10_order Ex Q d bc bs 38 [(0, .ref m), (1, .int (nI k)), (2, .int (nI (orS S.rv S.br S.dn S.n S.W j).1)), (3, .int (nI j))] [] h4 from G (k + 1) 0 h3 (Nat.zero_add _) H3
  intro q
  induction q with
  | zero =>
    intro j h4 hj H4
    have e : j = k + 1 := hj
    subst e
    refine wX10_order_38 hd ⟨fun _ => H4.rm.mpr ?_, fun hc => absurd (nI_lt (Nat.lt_succ_self _) (by omega)) hc⟩
    rw [(hok (k + 1)).2]
    exact hq h4 _ _ _ H4
  | succ q ih =>
    intro j h4 hj H4
    have hR : Rg S.n S.br (daysW S.rv S.br S.dn S.n j S.W) := O.2.2.1.2.1.days hn j
    refine wX10_order_38 hd ⟨fun hc => absurd hc (nI_nlt (by omega) (by omega)), fun _ => ?_⟩
    suffices G2 : ∀ (q2 i : Nat) (h5 : pz_H), i + q2 = S.n → MW h0 h5 m S zz (some (daysW S.rv S.br S.dn S.n j S.W)) (-1) lm (orI (daysW S.rv S.br S.dn S.n j S.W).lv (orS S.rv S.br S.dn S.n S.W j) i).2 → pz_V mX10_order Ex Q d bc bs 46 [(0, .ref m), (1, .int (nI k)), (2, .int (nI (orI (daysW S.rv S.br S.dn S.n j S.W).lv (orS S.rv S.br S.dn S.n S.W j) i).1)), (3, .int (nI j)), (4, .int (nI i))] [] h5 from G2 S.n 0 h4 (Nat.zero_add _) H4
    intro q2
    induction q2 with
    | zero =>
      intro i h5 hi H5
      have e : i = S.n := hi
      subst e
      refine wX10_order_46 hd (H5.n.mpr ⟨fun _ => (H5.g rfl).mpr ⟨H5.is, H5.day O (Nat.le_refl _) (fun h6 H6 => ⟨rfl, ?_⟩)⟩, fun hc => absurd (nI_le (Nat.le_refl _) (by omega)) hc⟩)
      rw [nI_1]
      exact ih (j + 1) h6 (by omega) H6
    | succ q2 ih2 =>
      intro i h5 hi H5
      obtain ⟨k1, k2⟩ := orI_ok (lv := (daysW S.rv S.br S.dn S.n j S.W).lv) (hok j).1 (hok j).2 i (by omega)
      have k3 := popc_le 6 (by decide) _ k1
      refine wX10_order_46 hd (H5.n.mpr ⟨fun hc => absurd hc (nI_ge (by omega) (by omega)), fun _ => (H5.g rfl).mpr ((H5.rT O (by omega)).mpr ?_)⟩)
      rw [nI_1]
      have g := ih2 (i + 1)
      unfold orI at g
      refine ⟨fun c1 => ?_, fun c1 => ⟨fun c2 => ⟨H5.is, H5.tell (by omega) (fun h6 H6 => ⟨rfl, ?_⟩)⟩, fun c2 => ?_⟩⟩
      · rw [if_neg (fun z => (z_le (hR.lv (by omega))).mpr z.1 c1)] at g
        exact g h5 (by omega) H5
      · rw [if_pos ⟨(z_le (hR.lv (by omega))).mp c1, (has10_0 k1 (by omega)).mp c2⟩] at g
        rw [shl1 i (by omega), or_nI]
        exact g h6 (by omega) H6
      · rw [if_neg (fun z => by rw [(has10_t k1 (by omega)).mp c2] at z; exact absurd z.2 (by decide))] at g
        exact g h5 (by omega) H5
theorem kset64 {kg : Nat → Int32} {n : Nat} {k : Int32} (hn : n ≤ 6) : kset kg n k < 64 := bitsOf_64 _ hn
theorem M_richest {k : Int32} (H : MW h0 h m S zz oT (-1) lm S.rw) (O : SOk S) (hd : 85 ≤ d) (hq : ∀ h' T' lm' zz', MW h0 h' m S zz' T' (-1) lm' (s_richest S.rv S.br S.dn S.n S.W S.rw k).2 → Q (some (.int (s_richest S.rv S.br S.dn S.n S.W S.rw k).1)) h') : pz_V mX10_richest Ex Q d bc bs 0 [(0, .ref m), (1, .int k)] [] h := by
  have hn := O.1
  unfold s_richest at hq
  refine wX10_richest_0 hd (H.th (fun h1 H1 => ?_))
  rw [in_eq]
  refine ⟨fun hc => ?_, fun hc => by rw [if_pos hc] at hq; exact hq h1 _ _ _ H1⟩
  rw [if_neg hc] at hq
  obtain ⟨k, hk, rfl⟩ := (within_0 (hi := 99) (by decide)).mp hc
  rw [clamp (by omega)] at hq
  dsimp only at hq
  refine ⟨H1.is, H1.goThen O (by omega) (Nat.le_refl _) (fun h2 H2 => ⟨rfl, ?_⟩)⟩
  generalize daysW S.rv S.br S.dn S.n k S.W = T at H2 hq
  suffices G : ∀ q j, j + q = 3 → pz_V mX10_richest Ex Q d bc bs 26 [(0, .ref m), (2, .int (nI (bestK (fun k => ktot T S.n (nI k)) j))), (3, .int (nI (j + 1)))] [] h2 from G 3 0 rfl
  intro q
  induction q with
  | zero =>
    intro j hj
    have e : j = 3 := hj
    subst e
    refine wX10_richest_26 hd ⟨fun _ => (H2.g rfl).mpr ((H2.g rfl).mpr ⟨H2.is, H2.own O ⟨_, rfl, H2.is, H2.lvl O (kset64 hn) (Nat.le_refl _) ⟨_, rfl, H2.row0 (fun h3 H3 => ⟨H3.is, H3.tell (by decide) (fun h4 H4 => ⟨rfl, (H4.g rfl).mpr ⟨H4.is, H4.sum O ⟨_, rfl, H4.is, H4.tell (by simp) (fun h5 H5 => ⟨rfl, hq h5 _ _ _ H5⟩)⟩⟩⟩)⟩)⟩⟩⟩), fun hc => absurd (by decide) hc⟩
  | succ q ih =>
    intro j hj
    have g := ih (j + 1) (by omega)
    unfold bestK at g
    refine wX10_richest_26 hd ⟨fun hc => absurd hc (nI_ge (b := 4) (by omega) (by decide)), fun _ => (H2.g rfl).mpr ((H2.g rfl).mpr ⟨H2.is, H2.own O ⟨_, rfl, H2.is, H2.lvl O (kset64 hn) (Nat.le_refl _) ⟨_, rfl, (H2.g rfl).mpr ((H2.g rfl).mpr ⟨H2.is, H2.own O ⟨_, rfl, H2.is, H2.lvl O (kset64 hn) (Nat.le_refl _) ⟨_, rfl, ?_⟩⟩⟩)⟩⟩⟩)⟩
    rw [nI_1]
    refine ⟨fun c => ?_, fun c => ?_⟩
    · rw [if_neg (show ¬ ktot T S.n (nI (bestK (fun k => ktot T S.n (nI k)) j)) < ktot T S.n (nI (j + 1)) from Int32.not_lt.mpr c)] at g
      exact g
    · rw [if_pos (show ktot T S.n (nI (bestK (fun k => ktot T S.n (nI k)) j)) < ktot T S.n (nI (j + 1)) from Int32.not_le.mp c)] at g
      exact g
theorem M_spoon {l v k : Int32} (H : MW h0 h m S zz oT (-1) lm S.rw) (O : SOk S) (hd : 83 ≤ d) (hq : ∀ h' T' lm' zz', MW h0 h' m S zz' T' (-1) lm' (s_spoon S.rv S.br S.dn S.n S.W S.rw l v k).2 → Q (some (.int (s_spoon S.rv S.br S.dn S.n S.W S.rw l v k).1)) h') : pz_V mX10_spoon Ex Q d bc bs 0 [(0, .ref m), (1, .int l), (2, .int v), (3, .int k)] [] h := by
  have hn := O.1
  unfold s_spoon at hq
  refine wX10_spoon_0 hd (H.th (fun h1 H1 => ⟨H1.is, H1.n.mpr ?_⟩))
  rw [isLake_eq hn, in_eq, in_eq]
  refine ⟨fun hc => by rw [if_pos hc] at hq; exact hq h1 _ _ _ H1, fun hc => ⟨fun hc2 => by rw [if_neg hc, if_pos hc2] at hq; exact hq h1 _ _ _ H1, fun hc2 => ⟨fun hc3 => ?_, fun hc3 => by rw [if_neg hc, if_neg hc2, if_pos hc3] at hq; exact hq h1 _ _ _ H1⟩⟩⟩
  rw [if_neg hc, if_neg hc2, if_neg hc3] at hq
  obtain ⟨i, hi, rfl⟩ := (has_0 hn).mp hc
  obtain ⟨v, hv1, hv, rfl⟩ := (within_1 (lo := 1) (hi := 9) (by decide) (by decide)).mp hc2
  obtain ⟨k, hk, rfl⟩ := (within_0 (hi := 60) (by decide)).mp hc3
  rw [clamp (by omega), clamp (by omega)] at hq
  dsimp only at hq
  refine (H1.g rfl).mpr ((H1.g rfl).mpr (H1.lay0 O (fun h2 H2 => ⟨rfl, ?_⟩)))
  suffices G : ∀ (q j : Nat) (h4 : pz_H), j + q = k → MW h0 h4 m S zz (some (spS S.rv S.br S.dn S.n S.W i (nI v) j).1) (-1) lm S.rw → pz_V mX10_spoon Ex Q d bc bs 53 [(0, .ref m), (1, .int (nI i)), (2, .int (nI v)), (3, .int (nI k)), (4, .int (spS S.rv S.br S.dn S.n S.W i (nI v) j).2), (5, .int (nI j))] [] h4 from G k 0 h2 (Nat.zero_add _) H2
  intro q
  induction q with
  | zero =>
    intro j h4 hj H4
    have e : j = k := hj
    subst e
    exact wX10_spoon_53 hd ⟨fun _ => H4.row0 (fun h5 H5 => ⟨H5.is, H5.tell (by decide) (fun h6 H6 => ⟨rfl, (H6.g rfl).mpr ((H6.rT O hi).mpr (hq h6 _ _ _ H6))⟩)⟩), fun hc => absurd (nI_le (Nat.le_refl _) (by omega)) hc⟩
  | succ q ih =>
    intro j h4 hj H4
    have g := ih (j + 1)
    unfold spS at g
    dsimp only at g
    generalize spS S.rv S.br S.dn S.n S.W i (nI v) j = s at H4 g
    obtain ⟨s1, s2⟩ := s
    dsimp only at H4 g ⊢
    have hR : Rg S.n S.br s1 := by
      obtain ⟨P, -, -, h3, -⟩ := H4
      exact h3.2.2
    refine wX10_spoon_53 hd ⟨fun hc => absurd hc (nI_ge (by omega) (by omega)), fun _ => (H4.g rfl).mpr ((H4.rT O hi).mpr ((H4.g rfl).mpr ((H4.rT O hi).mpr ?_)))⟩
    generalize ht : (if s1.lv i < nI v then s1.lv i else nI v) = t at g ⊢
    refine H4.sT (q := i) (T' := s1.sLv (upd s1.lv i (s1.lv i - t))) rfl (by omega) (fun a ha => ha.sLv hn hi) (fun _ _ => rfl) ?_ (fun h5 H5 => (H5.g rfl).mpr ⟨H5.is, H5.day O (Nat.le_refl _) (fun h6 H6 => ⟨rfl, ?_⟩)⟩)
    · intro o ho
      obtain ⟨r1, r2, r3, r4, r5⟩ := hR o ho
      refine ⟨r1, ?_, r3, r4, r5⟩
      show Bt (upd s1.lv i (s1.lv i - t) o) 0 (S.br o).toInt
      unfold upd
      split
      · rename_i e
        subst e
        have bt : Bt t 0 (s1.lv o).toInt := by
          rw [← ht]
          have bv := Bt.lit (n := v) (by omega)
          split
          · exact ⟨r2.1, Int.le_refl _⟩
          · rename_i z
            rw [lt_i] at z
            have := bv.1
            have := bv.2
            exact ⟨by omega, by omega⟩
        have := r1.2
        have := r2.2
        refine (Bt.sub (x := s1.lv o) (y := t) ⟨r2.1, r2.2⟩ ⟨bt.1, Int.le_trans bt.2 r2.2⟩ (by omega) (by omega)) |> fun z => ?_
        have b1 := bt.1
        have b2 := bt.2
        have e1 : (s1.lv o - t).toInt = (s1.lv o).toInt - t.toInt := by
          have := Bt.sub (x := s1.lv o) (y := t) (a := (s1.lv o).toInt) (b := (s1.lv o).toInt) (c := t.toInt) (d := t.toInt) ⟨Int.le_refl _, Int.le_refl _⟩ ⟨Int.le_refl _, Int.le_refl _⟩ (by have := r2.1; omega) (by omega)
          exact Int.le_antisymm this.2 this.1
        refine ⟨?_, ?_⟩
        · rw [e1]; omega
        · rw [e1]; omega
      · exact r2
    · rw [nI_1]
      exact g h6 (by omega) H6
end ML
