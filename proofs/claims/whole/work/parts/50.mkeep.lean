/-! ===== the reference: undo, keep, again, count, row, lake, sheet ===== -/
theorem sI_self (P : pM) (j : Nat) : P.sI j (P.I j) = P := by
  show (up1 P.I j (P.I j), P.A, P.J, P.rd, P.ru) = P
  have : up1 P.I j (P.I j) = P.I := funext fun k => by
    unfold up1
    split
    · rename_i e; rw [e]
    · rfl
  rw [this]
section MK2
variable {Ex : State → Nat → Prop} {Q : Option Value → pz_H → Prop} {d bc bs : Nat} {h0 h h' : pz_H} {m : Nat} {S : pS} {oT : Option pW} {T : pW} {lo lm : Int32} {rw : List Int64} {zz : pX}
variable {P : pM}
theorem MB.s9 {v : Int32} (H : MB m P S) : MB m (P.sI 9 v) S := H.kp (li := [9]) (la := []) (Kp.rf.sI (by simp)) (by intro k hk; simp; omega) (by simp)
theorem getLast_at {U : List pW} {V : pW} (h : U.getLast? = some V) : U[U.length - 1]? = some V := by
  rw [← h, List.getLast?_eq_getElem?]
theorem M_undo (H : MInv h0 h m S) (O : SOk S) (hq : ∀ h', MInv h0 h' m (o_undo S).2 → Q (some (.int (o_undo S).1)) h') : pz_V mX10_undo Ex Q d bc bs 0 [(0, .ref m)] [] h := by
  obtain ⟨t, P, h1, h2, h3, h4, -⟩ := H
  have hn := O.1
  have hU := h2.2.2.2.2.2.2.1
  have hl := O.2.2.2.2.2.1
  unfold o_undo at hq
  refine wX10_undo_0 (h1.pI rfl (fun ha Ha => (Ha.gI rfl).mpr ?_))
  have e22 : (P.sI 9 0).I 22 = nI S.U.length := hU.1
  rw [e22]
  refine ⟨fun hc => (Ha.gI rfl).mpr (Ha.pI rfl (fun hb Hb => ?_)), fun hc => ?_⟩
  · have hne : 0 < S.U.length := by
      rcases Nat.eq_zero_or_pos S.U.length with z | z
      · rw [z] at hc; exact absurd rfl hc
      · exact z
    obtain ⟨V, hV⟩ : ∃ V, S.U.getLast? = some V := by
      cases e : S.U.getLast? with
      | none =>
        rw [List.getLast?_eq_none_iff] at e
        rw [e] at hne
        exact absurd hne (Nat.lt_irrefl _)
      | some V => exact ⟨V, rfl⟩
    rw [hV] at hq
    dsimp only at hq
    have hVm : V ∈ S.U := List.mem_of_getLast? hV
    have hG := O.2.2.2.2.2.2.1 V hVm
    obtain ⟨c, ec⟩ : ∃ c, S.U.length = c + 1 := ⟨S.U.length - 1, by omega⟩
    have hVN := hU.2 c V (by have := getLast_at hV; rw [ec] at this; exact this)
    have e22b : P.I 22 - 1 = nI c := by rw [show P.I 22 = nI (c + 1) by rw [hU.1, ec]]; exact nI_pred c
    suffices G : ∀ f i (h' : pz_H), i + f = 33 → MI h0 h' m (((P.sI 9 0).sI 22 (P.I 22 - 1)).sA 1 (fa_fill (fun q => P.A 11 (33 * c + q)) (P.A 1) i)) → pz_V mX10_undo Ex Q d bc bs 26 [(0, .ref m), (1, .int (nI i))] [] h' from G 33 0 hb rfl (by rw [fa_fill_0]; exact (sA_self ((P.sI 9 0).sI 22 (P.I 22 - 1)) 1).symm ▸ Hb)
    intro f
    induction f with
    | zero =>
      intro i h' hi H'
      have e : i = 33 := hi
      subst e
      refine wX10_undo_26 ⟨fun _ => (H'.gI rfl).mpr ?_, fun y => absurd (nI_le (a := 33) (Nat.le_refl _) (by decide)) y⟩
      rw [show (((P.sI 9 0).sI 22 (P.I 22 - 1)).sA 1 (fa_fill (fun q => P.A 11 (33 * c + q)) (P.A 1) 33)).I 22 = nI c from e22b]
      rw [show S.U.length - 1 = c by omega] at hq
      refine hq h' (MInv.of H' ?_ h3 h4)
      obtain ⟨b1, b2, b3, b4, b5, b6, b7, b8, b9⟩ := h2
      refine ⟨b1, fun i hi => ?_, ?_, b4, b5, b6.kp (li := [9, 22]) (la := [1]) (((Kp.rf.sI (by simp)).sI (by simp)).sA (by simp)) (by simp) (by simp) (by simp), ⟨?_, fun k V' hk => ?_⟩, b8, b9⟩
      · obtain ⟨c1, c2, c3⟩ := b2 i hi
        exact ⟨c1, c2.trans (hG.2.2.2 i hi).1.symm, c3⟩
      · refine NowR.cg hVN hn (fun i hi => ?_)
        exact fa_fill_in (f := fun q => P.A 11 (33 * c + q)) (g := P.A 1) hi
      · show P.I 22 - 1 = nI S.U.dropLast.length
        rw [e22b, List.length_dropLast, ec]
        rfl
      · have hk2 : k < S.U.length - 1 := by
          rcases Nat.lt_or_ge k (S.U.length - 1) with z | z
          · exact z
          · rw [List.getElem?_eq_none (by rw [List.length_dropLast]; exact z)] at hk
            cases hk
        have : S.U[k]? = some V' := by
          rw [← hk, List.getElem?_dropLast, if_pos hk2]
        exact hU.2 k V' this
    | succ f ih =>
      intro i h' hi H'
      refine wX10_undo_26 ⟨fun y => absurd y (nI_ge (b := 33) (by omega) (by decide)), fun _ => (H'.gR rfl).mpr ((H'.gR rfl).mpr ((H'.gI rfl).mpr ((H'.rI (j := 11) (q := 33 * c + i) rfl ?_ (by omega)).mpr (H'.sI (j := 1) (q := i) rfl rfl (by omega) (fun h2 H2 => ?_)))))⟩
      · show (33 : Int32) * (P.I 22 - 1) + nI i = _
        rw [e22b, show (33 : Int32) * nI c = nI (33 * c) from pk_mul 33 c, nI_add]
      · rw [nI_1]
        refine ih (i + 1) h2 (by omega) ?_
        rw [sA_sA] at H2
        rw [← fa_fill_succ]
        exact H2
  · have h0l : S.U.length = 0 := by
      rcases Nat.eq_zero_or_pos S.U.length with z | z
      · exact z
      · exact absurd hc (nI_ne0 z (by omega))
    rw [List.eq_nil_of_length_eq_zero h0l] at hq
    exact hq ha (MInv.of Ha h2.s9 h3 h4)
theorem keep_tb : ∀ ks, ks < 4 → ∀ i, i < 2 → ∀ j, j < 2 → (ks ||| 2 ^ i).testBit j = (decide (j = i) || ks.testBit j) := by decide +kernel
theorem M_keep {k : Int32} (H : MInv h0 h m S) (O : SOk S) (hd : 1 ≤ d) (hq : ∀ h', MInv h0 h' m (o_keep k S).2 → Q (some (.int (o_keep k S).1)) h') : pz_V mX10_keep Ex Q d bc bs 0 [(0, .ref m), (1, .int k)] [] h := by
  obtain ⟨t, P, h1, h2, h3, h4, -⟩ := H
  have hn := O.1
  unfold o_keep at hq
  refine wX10_keep_0 hd (h1.pI rfl (fun ha Ha => ?_))
  rw [in_eq]
  refine ⟨fun hc => ?_, fun hc => by rw [if_pos hc] at hq; exact hq ha (MInv.of Ha h2.s9 h3 h4)⟩
  rw [if_neg hc] at hq
  obtain ⟨i, hi, rfl⟩ := (within_0 (hi := 1) (by decide)).mp hc
  rw [clamp (by omega)] at hq
  have hi2 : i < 2 := by omega
  obtain ⟨b1, b2, b3, b4, b5, b6, b7, b8, b9⟩ := h2
  obtain ⟨c, e39, hcn, hk⟩ := b9
  refine (Ha.gR rfl).mpr (Ha.sZ (q := i) rfl hi2 (fun hb Hb => (Hb.gR rfl).mpr ((Hb.gI rfl).mpr (Hb.sI (j := 26) (q := i) rfl rfl hi2 (fun hc Hc => (Hc.gR rfl).mpr ((Hc.gR rfl).mpr ?_))))))
  rw [show (33 : Int32) * nI i = nI (33 * i) from pk_mul 33 i]
  refine m_lay (j1 := 1) (j2 := 24) (N2 := 66) (off := 33 * i) Hc rfl rfl (by decide) (by omega) (fun he He => ⟨rfl, hq he (MInv.of He ?_ h3 h4)⟩)
  refine ⟨b1, b2, b3, b4, b5, b6.kp (li := [9]) (la := [24, 25, 26]) ((((Kp.rf.sI (by simp)).sA (by simp)).sA (by simp)).sA (by simp)) (by simp) (by simp) (by simp), b7, b8, ⟨c, e39, hcn, fun j hj => ?_⟩⟩
  obtain ⟨b, ci, k1, k2, k3, k4, k5⟩ := hk j hj
  by_cases e : j = i
  · subst e
    refine ⟨true, c, ?_, ?_, Nat.le_refl _, ?_, fun _ => ?_⟩
    · show upd (P.A 25) j (vp_nar .boolean 1) j = 1
      rw [upd_at]; rfl
    · show upd (P.A 26) j (P.I 39) j = nI c
      rw [upd_at, e39]
    · show (S.ks ||| 2 ^ j).testBit j = _
      rw [keep_tb S.ks O.2.2.2.2.2.2.2.2.1 j hi2 j hi2]
      simp
    · show NowR S.n (fun q => va_cpy (P.A 1) (P.A 24) 0 (33 * j) 33 (33 * j + q)) (updK S.K j S.W j)
      unfold updK
      rw [if_pos rfl]
      exact NowR.cg b3 hn (fun q hq => cpy_in hq)
  · refine ⟨b, ci, ?_, ?_, k3, ?_, fun hb2 => ?_⟩
    · show upd (P.A 25) i _ j = _
      rw [upd_ne e]; exact k1
    · show upd (P.A 26) i _ j = _
      rw [upd_ne e]; exact k2
    · show (S.ks ||| 2 ^ i).testBit j = _
      rw [keep_tb S.ks O.2.2.2.2.2.2.2.2.1 i hi2 j hj, ← k4]
      simp [e]
    · have hb2 : (S.ks ||| 2 ^ i).testBit j = true := hb2
      rw [keep_tb S.ks O.2.2.2.2.2.2.2.2.1 i hi2 j hj] at hb2
      have hb3 : S.ks.testBit j = true := by simpa [e] using hb2
      show NowR S.n (fun q => va_cpy (P.A 1) (P.A 24) 0 (33 * i) 33 (33 * j + q)) (updK S.K i S.W j)
      unfold updK
      rw [if_neg e]
      exact NowR.cg (k5 hb3) hn (fun q hq => pk_cpy_out (by omega))
theorem M_again {k : Int32} (H : MInv h0 h m S) (O : SOk S) (hd : 1 ≤ d) (hq : ∀ h', MInv h0 h' m (o_again k S).2 → Q (some (.int (o_again k S).1)) h') : pz_V mX10_again Ex Q d bc bs 0 [(0, .ref m), (1, .int k)] [] h := by
  obtain ⟨t, P, h1, h2, h3, h4, -⟩ := H
  have hn := O.1
  have hB9 := h2.s9 (v := 0)
  unfold o_again at hq
  refine wX10_again_0 hd (h1.pI rfl (fun ha Ha => ?_))
  rw [in_eq]
  refine ⟨fun hc => by rw [if_pos hc] at hq; exact hq ha (MInv.of Ha hB9 h3 h4), fun hc => (Ha.gR rfl).mpr ?_⟩
  rw [if_neg hc] at hq
  obtain ⟨i, hi, rfl⟩ := (within_0 (hi := 1) (by decide)).mp hc
  rw [clamp (by omega)] at hq
  have hi2 : i < 2 := by omega
  obtain ⟨b1, b2, b3, b4, b5, b6, b7, b8, b9⟩ := h2
  obtain ⟨c, e39, hcn, hk⟩ := id b9
  obtain ⟨b, ci, k1, k2, k3, k4, k5⟩ := hk i hi2
  refine (Ha.rZ (q := i) rfl hi2).mpr ?_
  rw [show (P.sI 9 0).A 25 i = (if b = true then 1 else 0) from k1]
  cases b with
  | false =>
    rw [if_pos (by rw [k4]; rfl)] at hq
    exact ⟨fun _ => hq ha (MInv.of Ha hB9 h3 h4), fun z => absurd rfl z⟩
  | true =>
    refine ⟨fun z => absurd z (by decide), fun _ => (Ha.gR rfl).mpr ((Ha.rI (j := 26) (q := i) rfl rfl hi2).mpr ((Ha.gI rfl).mpr ?_))⟩
    rw [show (P.sI 9 0).A 26 i = nI ci from k2, show (P.sI 9 0).I 39 = nI c from e39]
    refine ⟨fun he => ?_, fun he => ?_⟩
    · have ecc : ci = c := (nI_inj' (by omega) (by omega)).mp he
      have kt : S.ks.testBit i = true := by rw [k4, ecc]; simp
      rw [if_neg (by rw [kt]; decide)] at hq
      have hG := O.2.2.2.2.2.2.2.1 i hi2 kt
      suffices G : ∀ f q (h' : pz_H), q + f = 33 → MI h0 h' m ((P.sI 9 0).sA 1 (fa_fill (fun z => P.A 24 (33 * i + z)) (P.A 1) q)) → pz_V mX10_again Ex Q d bc bs 40 [(0, .ref m), (1, .int (nI i)), (2, .int (nI q))] [] h' from G 33 0 ha rfl (by rw [fa_fill_0]; exact (sA_self (P.sI 9 0) 1).symm ▸ Ha)
      intro f
      induction f with
      | zero =>
        intro q h' hq2 H'
        have e : q = 33 := hq2
        subst e
        refine wX10_again_40 hd ⟨fun _ => H'.pI rfl (fun h2 H2 => hq h2 (MInv.of H2 ?_ h3 h4)), fun y => absurd (nI_le (a := 33) (Nat.le_refl _) (by decide)) y⟩
        refine ⟨b1, fun i2 hi3 => ?_, NowR.cg (k5 kt) hn (fun q hq => fa_fill_in (f := fun z => P.A 24 (33 * i + z)) (g := P.A 1) hq), b4, b5, b6.kp (li := [9, 22]) (la := [1]) (((Kp.rf.sI (by simp)).sA (by simp)).sI (by simp)) (by simp) (by simp) (by simp), ⟨rfl, fun k V hk => by cases hk⟩, b8, b9⟩
        obtain ⟨c1, c2, c3⟩ := b2 i2 hi3
        exact ⟨c1, c2.trans (hG.2.2.2 i2 hi3).1.symm, c3⟩
      | succ f ih =>
        intro q h' hq2 H'
        refine wX10_again_40 hd ⟨fun y => absurd y (nI_ge (b := 33) (by omega) (by decide)), fun _ => (H'.gR rfl).mpr ((H'.gR rfl).mpr ((H'.rI (j := 24) (q := 33 * i + q) rfl ?_ (by omega)).mpr (H'.sI (j := 1) (q := q) rfl rfl (by omega) (fun h2 H2 => ?_))))⟩
        · rw [show (33 : Int32) * nI i = nI (33 * i) from pk_mul 33 i, nI_add]
        · rw [nI_1]
          refine ih (q + 1) h2 (by omega) ?_
          rw [sA_sA] at H2
          rw [← fa_fill_succ]
          exact H2
    · have kf : S.ks.testBit i = false := by
        rw [k4, decide_eq_false (fun z => he (by rw [z]))]
        rfl
      rw [if_pos kf] at hq
      exact hq ha (MInv.of Ha hB9 h3 h4)
theorem MW.full (H : MW h0 h m S zz oT lo lm rw) (O : SOk S) (hq : Q (some (.int (nI (bitsOf (fun i => decide (S.W.lv i = S.br i)) S.n)))) h) : pz_V mX10_fullOnes Ex Q d bc bs 0 [(0, .ref m)] [] h := by
  have hn := O.1
  refine wX10_fullOnes_0 ?_
  suffices G : ∀ k i, i + k = S.n → pz_V mX10_fullOnes Ex Q d bc bs 4 [(0, .ref m), (1, .int (nI (bitsOf (fun i => decide (S.W.lv i = S.br i)) i))), (2, .int (nI i))] [] h from G S.n 0 (Nat.zero_add _)
  intro k
  induction k with
  | zero =>
    intro i hi
    have e : i = S.n := hi
    subst e
    exact wX10_fullOnes_4 (H.n.mpr ⟨fun _ => hq, fun hc => absurd (nI_le (Nat.le_refl _) (by omega)) hc⟩)
  | succ k ih =>
    intro i hi
    have g := ih (i + 1) (by omega)
    refine wX10_fullOnes_4 (H.n.mpr ⟨fun hc => absurd hc (nI_ge (by omega) (by omega)), fun _ => (H.g rfl).mpr ((H.rN O (by omega)).mpr ((H.g rfl).mpr ((H.rB O (by omega)).mpr ?_)))⟩)
    rw [nI_1, shl1 i (by omega), or_nI, or_nI0]
    refine ⟨fun hb => ?_, fun hb => ?_⟩
    · rw [bitsOf, if_neg (by simpa using hb), Nat.or_zero] at g
      exact g
    · rw [bitsOf, if_pos (by simpa using hb)] at g
      exact g
theorem M_count {w : Int32} (H : MInv h0 h m S) (O : SOk S) (hd : 1 ≤ d) (hq : ∀ h', MInv h0 h' m S → Q (some (.int (s_count w S))) h') : pz_V mX10_count Ex Q d bc bs 0 [(0, .ref m), (1, .int w)] [] h := by
  obtain ⟨lm, zz, Hw⟩ := H.w
  unfold s_count at hq
  refine wX10_count_0 hd (Hw.th (fun h1 H1 => ?_))
  have I1 : MInv h0 h1 m S := H1.inv
  have e6 : ∀ {K : Int32 → Prop}, pz_gI h1 m 10 6 K ↔ K (nI S.tl) := by
    intro K
    obtain ⟨P, g1, g2, -⟩ := H1
    rw [g1.gI rfl, g2.2.2.2.2.1]
  have e22 : ∀ {K : Int32 → Prop}, pz_gI h1 m 10 22 K ↔ K (nI S.U.length) := by
    intro K
    obtain ⟨P, g1, g2, -⟩ := H1
    rw [g1.gI rfl, g2.2.2.2.2.2.2.1.1]
  refine ⟨fun e => ?_, fun e => ?_, fun e => ?_, fun e => ?_, fun e => ?_, fun e => ?_, fun e => ?_, fun e => ?_, fun e => ?_, fun e => ?_, fun e => ?_, fun e => ?_, fun e => ?_, fun e => ?_⟩
  · rw [if_pos e] at hq
    exact H1.n.mpr (hq h1 I1)
  · rw [if_neg (by omega), if_pos e] at hq
    exact (H1.g rfl).mpr (H1.rNd.mpr (hq h1 I1))
  · rw [if_neg (by omega), if_neg (by omega), if_pos e] at hq
    exact (H1.g rfl).mpr (H1.rNs.mpr (hq h1 I1))
  · rw [if_neg (by omega), if_neg (by omega), if_neg (by omega), if_pos e] at hq
    exact (H1.g rfl).mpr (H1.rNr.mpr (hq h1 I1))
  · rw [if_neg (by omega), if_neg (by omega), if_neg (by omega), if_neg (by omega), if_pos e] at hq
    exact (H1.g rfl).mpr ⟨H1.is, H1.sumN O ⟨_, rfl, hq h1 I1⟩⟩
  · rw [if_neg (by omega), if_neg (by omega), if_neg (by omega), if_neg (by omega), if_neg (by omega), if_pos e] at hq
    exact (H1.g rfl).mpr ⟨H1.is, H1.outN O ⟨_, rfl, hq h1 I1⟩⟩
  · rw [if_neg (by omega), if_neg (by omega), if_neg (by omega), if_neg (by omega), if_neg (by omega), if_neg (by omega), if_pos e] at hq
    exact (H1.g rfl).mpr ⟨H1.is, H1.sumH O ⟨_, rfl, hq h1 I1⟩⟩
  · rw [if_neg (by omega), if_neg (by omega), if_neg (by omega), if_neg (by omega), if_neg (by omega), if_neg (by omega), if_neg (by omega), if_pos e] at hq
    exact (H1.g rfl).mpr ⟨H1.is, H1.dryN O ⟨_, rfl, hq h1 I1⟩⟩
  · rw [if_neg (by omega), if_neg (by omega), if_neg (by omega), if_neg (by omega), if_neg (by omega), if_neg (by omega), if_neg (by omega), if_neg (by omega), if_pos e] at hq
    exact H1.rg.mpr (hq h1 I1)
  · rw [if_neg (by omega), if_neg (by omega), if_neg (by omega), if_neg (by omega), if_neg (by omega), if_neg (by omega), if_neg (by omega), if_neg (by omega), if_neg (by omega), if_pos e] at hq
    exact e22.mpr (hq h1 I1)
  · rw [if_neg (by omega), if_neg (by omega), if_neg (by omega), if_neg (by omega), if_neg (by omega), if_neg (by omega), if_neg (by omega), if_neg (by omega), if_neg (by omega), if_neg (by omega), if_pos e] at hq
    exact H1.rm.mpr (hq h1 I1)
  · rw [if_neg (by omega), if_neg (by omega), if_neg (by omega), if_neg (by omega), if_neg (by omega), if_neg (by omega), if_neg (by omega), if_neg (by omega), if_neg (by omega), if_neg (by omega), if_neg (by omega), if_pos e] at hq
    exact e6.mpr (hq h1 I1)
  · rw [if_neg (by omega), if_neg (by omega), if_neg (by omega), if_neg (by omega), if_neg (by omega), if_neg (by omega), if_neg (by omega), if_neg (by omega), if_neg (by omega), if_neg (by omega), if_neg (by omega), if_neg (by omega), if_pos e] at hq
    exact ⟨H1.is, H1.full O ⟨_, rfl, hq h1 I1⟩⟩
  · rw [if_neg (by omega), if_neg (by omega), if_neg (by omega), if_neg (by omega), if_neg (by omega), if_neg (by omega), if_neg (by omega), if_neg (by omega), if_neg (by omega), if_neg (by omega), if_neg (by omega), if_neg (by omega), if_neg (by omega)] at hq
    exact hq h1 I1
theorem row_in {i : Int32} {len : Nat} (hl : len ≤ 6) : eX10_in i 0 (nI len - 1) = eX1_has i (nI len) := isLake_eq (l := i) hl
theorem M_row {k : Int32} (H : MInv h0 h m S) (O : SOk S) (hd : 1 ≤ d) (hno : s_row S k = none → ∀ h' v, MIt h0 h' m S 1 → Q (some (.long v)) h') (hyes : ∀ v, s_row S k = some v → ∀ h', MIt h0 h' m S 0 → Q (some (.long v)) h') : pz_V mX10_row Ex Q d bc bs 0 [(0, .ref m), (1, .int k)] [] h := by
  obtain ⟨t, P, h1, h2, h3, h4, -⟩ := H
  have hl := O.2.2.2.2.2.2.2.2.2
  unfold s_row at hno hyes
  refine wX10_row_0 hd (h1.pI rfl (fun ha Ha => (Ha.gI rfl).mpr ?_))
  rw [show (P.sI 9 0).I 8 = nI S.rw.length from h4.1, row_in hl]
  refine ⟨fun hc => ⟨Ha.is, Ha.pI rfl (fun hb Hb => ?_)⟩, fun hc => (Ha.gR rfl).mpr ?_⟩
  · rw [if_pos hc] at hno
    refine hno rfl hb _ ⟨_, Hb, h2.s9.s9, h3, h4, rfl⟩
  · obtain ⟨i, hi, rfl⟩ := (has_0 hl).mp hc
    rw [if_neg hc, clamp (by omega)] at hyes
    refine (Ha.rJ (j := 6) (q := i) rfl rfl (by omega)).mpr ?_
    rw [show (P.sI 9 0).J 6 i = S.rw.getD i 0 from h4.2 i hi]
    exact hyes _ rfl ha ⟨_, Ha, h2.s9, h3, h4, rfl⟩
theorem M_lake {l w : Int32} (H : MInv h0 h m S) (O : SOk S) (hd : 82 ≤ d) (hno : s_lake S l w = none → ∀ h' v, MIt h0 h' m S 1 → Q (some (.int v)) h') (hyes : ∀ v, s_lake S l w = some v → ∀ h', MIt h0 h' m S 0 → Q (some (.int v)) h') : pz_V mX10_lake Ex Q d bc bs 0 [(0, .ref m), (1, .int l), (2, .int w)] [] h := by
  obtain ⟨t, P, h1, h2, h3, h4, -⟩ := H
  have hn := O.1
  unfold s_lake at hno hyes
  refine wX10_lake_0 hd (h1.pI rfl (fun ha Ha => ⟨Ha.is, (Ha.gI rfl).mpr ?_⟩))
  have B9 := h2.s9 (v := 0)
  rw [B9.1, isLake_eq hn, in_eq]
  refine ⟨fun hc => ⟨Ha.is, Ha.pI rfl (fun hb Hb => ?_)⟩, fun hc => ⟨fun hc2 => ?_, fun hc2 => ⟨Ha.is, Ha.pI rfl (fun hb Hb => ?_)⟩⟩⟩
  · rw [if_pos hc] at hno
    exact hno rfl hb _ ⟨_, Hb, B9.s9, h3, h4, rfl⟩
  · obtain ⟨i, hi, rfl⟩ := (has_0 hn).mp hc
    rw [if_neg hc, if_neg hc2, clamp (by omega)] at hyes
    have hy := hyes _ rfl
    have It : MIt h0 ha m S 0 := ⟨_, Ha, B9, h3, h4, rfl⟩
    obtain ⟨t1, t2, t3, t4, t5⟩ := B9.2.2.1.1 i hi
    obtain ⟨u1, u2, u3⟩ := B9.2.1 i hi
    refine ⟨fun e => ?_, fun e => ?_, fun e => ?_, fun e => ?_, fun e => ?_, fun e => ?_, fun e => ?_, fun e => ?_, fun e => ?_⟩
    · rw [if_pos e] at hy
      refine (Ha.gR rfl).mpr ((Ha.rI (j := 2) (q := i) rfl rfl (by omega)).mpr ?_)
      rw [u1]; exact hy ha It
    · rw [if_neg (by omega), if_pos e] at hy
      refine (Ha.gR rfl).mpr ((Ha.rI (j := 1) (i := 18 + nI i) (q := 18 + i) rfl (nI_add 18 i) (by omega)).mpr ?_)
      rw [t4]; exact hy ha It
    · rw [if_neg (by omega), if_neg (by omega), if_pos e] at hy
      refine (Ha.gR rfl).mpr ((Ha.rI (j := 3) (q := i) rfl rfl (by omega)).mpr ?_)
      rw [u2]; exact hy ha It
    · rw [if_neg (by omega), if_neg (by omega), if_neg (by omega), if_pos e] at hy
      refine (Ha.gR rfl).mpr ((Ha.rI (j := 1) (i := 24 + nI i) (q := 24 + i) rfl (nI_add 24 i) (by omega)).mpr ?_)
      rw [t5]; exact hy ha It
    · rw [if_neg (by omega), if_neg (by omega), if_neg (by omega), if_neg (by omega), if_pos e] at hy
      refine (Ha.gR rfl).mpr ((Ha.rI (j := 4) (q := i) rfl rfl (by omega)).mpr ?_)
      rw [u3]; exact hy ha It
    · rw [if_neg (by omega), if_neg (by omega), if_neg (by omega), if_neg (by omega), if_neg (by omega), if_pos e] at hy
      refine (Ha.gR rfl).mpr ((Ha.rI (j := 1) (q := i) rfl rfl (by omega)).mpr ?_)
      rw [t1]; exact hy ha It
    · rw [if_neg (by omega), if_neg (by omega), if_neg (by omega), if_neg (by omega), if_neg (by omega), if_neg (by omega), if_pos e] at hy
      refine (Ha.gR rfl).mpr ((Ha.rI (j := 1) (i := 6 + nI i) (q := 6 + i) rfl (nI_add 6 i) (by omega)).mpr ?_)
      rw [t2]; exact hy ha It
    · rw [if_neg (by omega), if_neg (by omega), if_neg (by omega), if_neg (by omega), if_neg (by omega), if_neg (by omega), if_neg (by omega), if_pos e] at hy
      refine (Ha.gR rfl).mpr ((Ha.rI (j := 1) (i := 12 + nI i) (q := 12 + i) rfl (nI_add 12 i) (by omega)).mpr ?_)
      rw [t3]; exact hy ha It
    · rw [if_neg (by omega), if_neg (by omega), if_neg (by omega), if_neg (by omega), if_neg (by omega), if_neg (by omega), if_neg (by omega), if_neg (by omega)] at hy
      refine (Ha.gR rfl).mpr ⟨Ha.is, m_runOf (j := 1) (br := S.br) (T := S.W) (rv := S.rv) (n := S.n) rfl (by decide) Ha B9.1 hn hi u1 B9.2.2.1 B9.2.2.2.2.2.1 (Nat.le_refl _) (fun h6 P6 H6 K6 _ => ⟨_, rfl, hy h6 ⟨P6, H6, B9.kp K6 (by intro k hk; simp; omega) (by intro k hk; simp; omega), ⟨(K6.1 27 (by decide)).trans h3.1, K6.2.2.2.trans h3.2⟩, h4.kp (li := [9, 10, 11, 12, 13, 14, 19]) (la := [10]) ((Kp.rf.sI (by simp)).tr (K6.mono (by simp) (by simp))) (by simp) (by simp), (K6.1 9 (by decide))⟩⟩)⟩
  · rw [if_neg hc, if_pos hc2] at hno
    exact hno rfl hb _ ⟨_, Hb, B9.s9, h3, h4, rfl⟩
theorem M_sheet {kind k f st : Int32} (H : MInv h0 h m S) (O : SOk S) (hd : 1 ≤ d) (hq : ∀ h', MInv h0 h' m (o_sheet kind k f st S).2 → Q (some (.int (o_sheet kind k f st S).1)) h') : pz_V mX10_sheet Ex Q d bc bs 0 [(0, .ref m), (1, .int kind), (2, .int k), (3, .int f), (4, .int st)] [] h := by
  obtain ⟨t, P, h1, h2, h3, h4, -⟩ := H
  have hn := O.1
  have hR := O.2.2.1.2.1
  have B9 := h2.s9 (v := 0)
  unfold o_sheet at hq
  refine wX10_sheet_0 hd (h1.pI rfl (fun ha Ha => ?_))
  -- the loop, to its end
  have loop : ∀ (m2 : Int32), (kind = 3 → m2 = 0) → (¬ kind = 3 → m2 = k) → (∀ h', MInv h0 h' m (S.sW (S.W.sLv (fa_fill (shV kind m2 f st S.br) S.W.lv S.n))) → Q (some (.int (if kind = 3 then -3 else sumI (fa_fill (shV kind m2 f st S.br) S.W.lv S.n) S.n))) h') → pz_V mX10_sheet Ex Q d bc bs 40 [(0, .ref m), (1, .int kind), (2, .int k), (4, .int st), (5, .int f), (6, .int 0)] [] ha := by
    intro m2 hm3 hmk hq2
    have sv : ∀ i, i < S.n → shV kind m2 f st S.br i = if kind = 3 then 0 else if nI i < k then (if (0 : Int32) < (if eX9_entryOf kind (f + nI i * st) < S.br i then eX9_entryOf kind (f + nI i * st) else S.br i) then (if eX9_entryOf kind (f + nI i * st) < S.br i then eX9_entryOf kind (f + nI i * st) else S.br i) else 0) else 0 := by
      intro i hi
      have b1 := (hR i hi).1
      have z0 : (if (0 : Int32) < (if S.br i < 0 then S.br i else 0) then (if S.br i < 0 then S.br i else 0) else 0) = 0 := by
        have : ¬ S.br i < 0 := i0le (b1.mono (c := 0) (by omega) (Int.le_refl _))
        rw [if_neg this, if_neg (by decide)]
      unfold shV
      dsimp only
      by_cases c : kind = 3
      · rw [if_pos c, hm3 c, if_pos (nI_pos' (by omega)), z0]
      · rw [if_neg c, hmk c]
        by_cases c2 : nI i < k
        · rw [if_pos c2, if_neg (Int32.not_le.mpr c2), min_sw (S.br i)]
        · rw [if_neg c2, if_pos (Int32.not_lt.mp c2), z0]
    suffices G : ∀ q i (h' : pz_H) (a : Nat → Int32), i + q = S.n → MI h0 h' m ((P.sI 9 0).sA 1 a) → NowR S.n a (S.W.sLv (fa_fill (shV kind m2 f st S.br) S.W.lv i)) → pz_V mX10_sheet Ex Q d bc bs 40 [(0, .ref m), (1, .int kind), (2, .int k), (4, .int st), (5, .int (f + nI i * st)), (6, .int (nI i))] [] h' by
      have g := G S.n 0 ha (P.A 1) (Nat.zero_add _) ((sA_self (P.sI 9 0) 1).symm ▸ Ha) (by rw [fa_fill_0]; exact B9.2.2.1)
      rw [show f + nI 0 * st = f by rw [show nI 0 = (0 : Int32) from rfl, Int32.zero_mul, Int32.add_zero]] at g
      exact g
    intro q
    induction q with
    | zero =>
      intro i h' a hi H' N'
      have e : i = S.n := hi
      subst e
      have B' := B9.now N' (fun _ _ => rfl)
      refine wX10_sheet_40 hd ((H'.gI rfl).mpr ?_)
      rw [show ((P.sI 9 0).sA 1 a).I 1 = nI S.n from B9.1]
      refine ⟨fun _ => ⟨fun c => (H'.gR rfl).mpr ⟨H'.is, ?_⟩, fun c => ?_⟩, fun y => absurd (nI_le (Nat.le_refl _) (by omega)) y⟩
      · refine m_sumOf (j := 1) (N := 33) (o := 0) (n := S.n) H' rfl B9.1 (by omega) ⟨_, rfl, ?_⟩
        rw [sumI_congr (g := fa_fill (shV kind m2 f st S.br) S.W.lv S.n) (fun i hi => by rw [Nat.zero_add]; exact (N'.1 i hi).1)]
        rw [if_neg c] at hq2
        exact hq2 h' (MInv.of H' B' h3 h4)
      · rw [if_pos c] at hq2
        exact hq2 h' (MInv.of H' B' h3 h4)
    | succ q ih =>
      intro i h' a hi H' N'
      have hin : i < S.n := by omega
      have g := ih (i + 1)
      have ev : (f + nI i * st) + st = f + nI (i + 1) * st := by
        rw [← nI_1, Int32.add_mul, Int32.one_mul, Int32.add_assoc]
      have nx : ∀ (h5 : pz_H) (x : Int32), x = shV kind m2 f st S.br i → MI h0 h5 m (((P.sI 9 0).sA 1 a).sA 1 (upd a i x)) → pz_V mX10_sheet Ex Q d bc bs 40 [(0, .ref m), (1, .int kind), (2, .int k), (4, .int st), (5, .int ((f + nI i * st) + st)), (6, .int (nI i + 1))] [] h5 := by
        intro h5 x hx H5
        rw [ev, nI_1]
        rw [sA_sA] at H5
        refine g h5 (upd a i x) (by omega) H5 ?_
        have := N'.sLv (x := x) hn hin
        rw [hx] at this ⊢
        rw [← fa_fill_succ]
        exact this
      have body : ∀ (s0 : Int32), (¬ kind = 3 → s0 = eX9_entryOf kind (f + nI i * st)) → pz_V mX10_sheet Ex Q d bc bs 72 [(0, .ref m), (1, .int kind), (2, .int k), (4, .int st), (5, .int (f + nI i * st)), (6, .int (nI i))] [.int s0] h' := by
        intro s0 hs0
        refine wX10_sheet_72 hd ((H'.gR rfl).mpr ⟨fun c => H'.sI (j := 1) (q := i) rfl rfl (by omega) (fun h5 H5 => nx h5 0 ?_ H5), fun c => ⟨fun c2 => (H'.gR rfl).mpr ((H'.rI (j := 2) (q := i) rfl rfl (by omega)).mpr (H'.sI (j := 1) (q := i) rfl rfl (by omega) (fun h5 H5 => nx h5 _ ?_ H5))), fun c2 => H'.sI (j := 1) (q := i) rfl rfl (by omega) (fun h5 H5 => nx h5 0 ?_ H5)⟩⟩)
        · rw [sv i hin, if_pos c]
        · rw [sv i hin, if_neg c, if_pos c2, hs0 c, show ((P.sI 9 0).sA 1 a).A 2 i = S.br i from (B9.2.1 i hin).1]
        · rw [sv i hin, if_neg c, if_neg c2]
      refine wX10_sheet_40 hd ((H'.gI rfl).mpr ?_)
      rw [show ((P.sI 9 0).sA 1 a).I 1 = nI S.n from B9.1]
      refine ⟨fun y => absurd y (nI_ge (by omega) (by omega)), fun _ => ⟨fun c => ⟨fun c2 => body _ (fun _ => ?_), fun c2 => body _ (fun _ => ?_)⟩, fun c => body _ (fun _ => ?_)⟩⟩
      · unfold eX9_entryOf; rw [if_neg c, if_neg c2]
      · unfold eX9_entryOf; rw [if_neg c, if_pos c2]
      · unfold eX9_entryOf; rw [if_pos c]
  unfold eX10_in
  by_cases c1 : kind < 0
  · rw [if_pos c1] at hq ⊢
    exact ⟨fun _ => hq ha (MInv.of Ha B9 h3 h4), fun z => absurd rfl z⟩
  rw [if_neg c1] at hq ⊢
  by_cases c2 : (3 : Int32) < kind
  · rw [if_pos c2] at hq ⊢
    exact ⟨fun _ => hq ha (MInv.of Ha B9 h3 h4), fun z => absurd rfl z⟩
  rw [if_neg c2] at hq ⊢
  refine ⟨fun z => absurd z (by decide), fun _ => ⟨fun c3 => ?_, fun c3 => by rw [if_pos c3] at hq; exact hq ha (MInv.of Ha B9 h3 h4)⟩⟩
  rw [if_neg (fun z => z c3)] at hq
  by_cases c4 : kind = 3
  · rw [if_pos c4] at hq
    refine ⟨fun _ => loop 0 (fun _ => rfl) (fun z => absurd c4 z) (fun h' H' => ?_), fun z => absurd (by rw [c4]; exact Int32.le_refl _) z⟩
    rw [if_pos c4]
    exact hq h' H'
  · rw [if_neg c4] at hq
    have c5 : ¬ (3 : Int32) ≤ kind := fun z => by
      rw [le_i] at z
      rw [lt_i] at c2
      exact c4 (eq_i.mpr (by omega))
    refine ⟨fun z => absurd z c5, fun _ => ⟨fun c6 => ?_, fun c6 => by rw [if_pos c6] at hq; exact hq ha (MInv.of Ha B9 h3 h4)⟩⟩
    rw [if_neg (fun z => z c6)] at hq
    refine loop k (fun z => absurd z c4) (fun _ => rfl) (fun h' H' => ?_)
    rw [if_neg c4]
    exact hq h' H'
end MK2
