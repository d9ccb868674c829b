/-! ===== the reference: rule, law ===== -/
theorem nar_and (x : Int32) : x.toInt8.toInt32 &&& 255 = x &&& 255 := by
  have e : (x.toInt8.toInt32).toInt = x.toInt.bmod 256 := by
    rw [Int8.toInt_toInt32, Int32.toInt_toInt8]
  have i1 := i32_nat x
  have i2 := i32_nat x.toInt8.toInt32
  have l1 := x.toBitVec.isLt
  have l2 := (x.toInt8.toInt32).toBitVec.isLt
  rw [pk_and x.toInt8.toInt32 8 (by decide), pk_and x 8 (by decide)]
  congr 1
  show (x.toInt8.toInt32).toBitVec.toNat % 256 = x.toBitVec.toNat % 256
  rw [e] at i2
  rcases bmod256 x.toInt with ⟨c1, c2⟩ | ⟨c1, c2⟩
  · rw [c1] at i2
    split at i1 <;> split at i2 <;> omega
  · rw [c1] at i2
    split at i1 <;> split at i2 <;> omega
theorem TxB.nar {fb : Nat → Int32} {tx : Nat → Nat} {N j : Nat} (h : TxB N fb tx) (hj : j < N) : vp_nar .byte (fb j) &&& 255 = nI (tx j) ∧ (tx j < 128 → vp_nar .byte (fb j) = nI (tx j)) ∧ tx j < 256 := by
  obtain ⟨h1, h2, h3⟩ := h j hj
  rw [vp_nar_byte]
  exact ⟨by rw [nar_and]; exact h1, fun z => by rw [h2 z]; exact fa_byte_small z, h3⟩
theorem rdR_len {tx : Nat → Nat} {tl : Nat} (h : (rdR tx tl).1 = none) : tl ≤ 40 := by
  unfold rdR at h
  by_cases c : tl = 0
  · omega
  · rw [if_neg c] at h
    by_cases c2 : (parseS (sgn tx tl 40)).ok = true ∧ (parseS (sgn tx tl 40)).ps = tl
    · have pos := prs_pos (sgk tx tl) 334 0 0 0 [] pZ _ (by decide) (by decide) (parse_eq (sgk tx tl))
      have := pos.1
      omega
    · rw [if_neg c2] at h
      cases h
theorem MI.sw {h0 h0' h : pz_H} {m : Nat} {P : pM} (H : MI h0 h m P) (h1 : h0'.1 = h0.1) (h2 : ∀ b, b ≠ m → h0'.2 b = h0.2 b) : MI h0' h m P := by
  refine ⟨⟨H.1.1.trans h1.symm, fun b hb => (H.1.2 b hb).trans (h2 b (by omega)).symm⟩, H.2⟩
def ghp (h0 : pz_H) (m v : Nat) : pz_H := pz_put h0 m (aW v (fun _ => none))
theorem gh_ghp (h0 : pz_H) (m v : Nat) : gh (ghp h0 m v) m = v := by
  unfold gh ghp
  rw [put_at]
theorem SOk.tl0 {S : pS} (O : SOk S) : SOk (S.sTl 0) := ⟨O.1, Nat.zero_le _, O.2.2⟩
theorem SOk.rv_ {S : pS} (O : SOk S) (rv : pRV) : SOk (S.sRv rv) := O
section MRU
variable {Ex : State → Nat → Prop} {Q : Option Value → pz_H → Prop} {d bc bs : Nat} {h0 h h' : pz_H} {m : Nat} {S : pS} {oT : Option pW} {T : pW} {lo lm : Int32} {rw : List Int64} {zz : pX}
variable {P : pM}
theorem M_rule (H : MInv h0 h m S) (O : SOk S) (hg : gh h0 m = m + 8) (hd : 82 ≤ d) (hq : ∀ h', MInv h0 h' m (o_rule S).2 → Q (some (.int (o_rule S).1)) h') : pz_V mX10_rule Ex Q d bc bs 0 [(0, .ref m)] [] h := by
  obtain ⟨t, P, h1, h2, h3, h4, -⟩ := H
  have B9 := h2.s9 (v := 0)
  have htl := O.2.1
  unfold o_rule at hq
  refine wX10_rule_0 hd (h1.pI rfl (fun ha Ha => (Ha.gI rfl).mpr ⟨Ha.is, m_readRule Ha B9 O (Nat.le_refl _) (fun hb Pb Hb Kb e6 => ⟨fun p hp e14 => ⟨_, rfl, ⟨fun z => absurd rfl z, fun _ => (Hb.gI rfl).mpr ?_⟩⟩, fun hn => ⟨_, rfl, ⟨fun _ => ?_, fun z => absurd z (by decide)⟩⟩⟩)⟩))
  · rw [e14]
    rw [hp] at hq
    exact hq hb (MInv.of Hb (B9.text Kb (by intro k hk; simp; omega) (by intro k hk; simp; omega) e6) ⟨(Kb.1 27 (by decide)).trans h3.1, Kb.2.2.2.trans h3.2⟩ (h4.kp (li := [6, 9, 11, 12, 13, 14, 19]) (la := [7, 16]) ((Kp.rf.sI (by simp)).tr Kb) (by decide) (by decide)))
  · rw [hn] at hq
    dsimp only at hq
    have h40 := rdR_len hn
    rw [show (P.sI 9 0).I 6 = nI S.tl from h2.2.2.2.2.1]
    have B1 : MB m Pb (S.sTl 0) := B9.text Kb (by intro k hk; simp; omega) (by intro k hk; simp; omega) e6
    have hru : Pb.ru = m + 8 := (Kb.2.2.2.trans h3.2).trans hg
    have h5 : TxB 80 (Pb.A 5) S.tx := B1.2.2.2.1
    suffices G : ∀ f k (h' : pz_H) (a : Nat → Int32), k + f = S.tl → MI h0 h' m (Pb.sA 8 a) → TxB k a S.tx → pz_V mX10_rule Ex Q d bc bs 26 [(0, .ref m), (1, .int (nI S.tl)), (2, .int (nI k))] [] h' from G S.tl 0 hb (Pb.A 8) (Nat.zero_add _) (by rw [sA_self]; exact Hb) (fun j hj => absurd hj (Nat.not_lt_zero _))
    intro f
    induction f with
    | zero =>
      intro k h' a hk H' hT
      have e : k = S.tl := hk
      subst e
      refine wX10_rule_26 hd ⟨fun _ => H'.pI rfl (fun hc Hc => hq hc (MInv.of Hc ?_ ⟨(Kb.1 27 (by decide)).trans h3.1, Kb.2.2.2.trans h3.2⟩ ?_)), fun y => absurd (nI_le (Nat.le_refl _) (by omega)) y⟩
      · obtain ⟨b1, b2, b3, b4, b5, b6, b7, b8, b9⟩ := B1
        refine ⟨b1, b2, b3, b4, b5, ⟨8, S.tl, S.tx, rfl, hru, rfl, h40, hT, ?_⟩, b7, b8, b9⟩
        exact Prod.ext hn rfl
      · exact h4.kp (li := [6, 9, 11, 12, 13, 14, 18, 19]) (la := [7, 8, 16]) ((((Kp.rf.sI (by simp)).tr (Kb.mono (by simp) (by simp))).sA (by simp)).sI (by simp)) (by decide) (by decide)
    | succ f ih =>
      intro k h' a hk H' hT
      refine wX10_rule_26 hd ⟨fun y => absurd y (nI_ge (by omega) (by omega)), fun _ => H'.gU.mpr ((H'.gR rfl).mpr ((H'.rB (j := 5) (q := k) rfl rfl (by omega)).mpr ?_))⟩
      rw [show (Pb.sA 8 a).ru = m + 8 from hru]
      refine H'.sB (j := 8) (N := 40) (q := k) rfl rfl (by omega) (fun h2 H2 => ?_)
      rw [nI_1]
      rw [sA_sA] at H2
      refine ih (k + 1) h2 _ (by omega) H2 (fun j hj => ?_)
      show (upd a k (vp_nar .byte (Pb.A 5 k)) j &&& 255 = _) ∧ (_ → upd a k (vp_nar .byte (Pb.A 5 k)) j = _) ∧ _
      unfold upd
      by_cases e : j = k
      · subst e
        rw [if_pos rfl]
        exact h5.nar (by omega)
      · rw [if_neg e]
        exact hT j (by omega)
theorem MW.in12 (H : MW h0 h m S zz oT (-1) lm rw) (O : SOk S) (hd : 85 ≤ d) (hq : ∀ h' T', MW h0 h' m S zz T' (-1) lm rw → Q (some (.int (sumI (daysW S.rv S.br S.dn S.n 12 S.W).lv S.n))) h') : pz_V mX10_levelIn12 Ex Q d bc bs 0 [(0, .ref m)] [] h :=
  wX10_levelIn12_0 hd ⟨H.is, H.goThen (k := 12) O (by decide) (Nat.le_refl _) (fun h1 H1 => ⟨rfl, (H1.g rfl).mpr ⟨H1.is, H1.sum O ⟨_, rfl, hq h1 _ H1⟩⟩⟩)⟩
theorem M_law (H : MInv h0 h m S) (O : SOk S) (hg : gh h0 m = m + 8) (hd : 86 ≤ d) (hq : ∀ h', MInv h0 h' m (o_law S).2 → Q (some (.int (o_law S).1)) h') : pz_V mX10_law Ex Q d bc bs 0 [(0, .ref m)] [] h := by
  obtain ⟨t, P, h1, h2, h3, h4, -⟩ := H
  have B9 := h2.s9 (v := 0)
  have htl := O.2.1
  have O1 := O.tl0
  unfold o_law at hq
  refine wX10_law_0 hd (h1.pI rfl (fun ha Ha => (Ha.gI rfl).mpr ⟨Ha.is, m_readRule Ha B9 O (Nat.le_refl _) (fun hb Pb Hb Kb e6 => ⟨fun p hp e14 => ⟨_, rfl, ⟨fun z => absurd rfl z, fun _ => (Hb.gI rfl).mpr ?_⟩⟩, fun hn => ⟨_, rfl, ⟨fun _ => ?_, fun z => absurd z (by decide)⟩⟩⟩)⟩))
  · rw [e14]
    rw [hp] at hq
    exact hq hb (MInv.of Hb (B9.text Kb (by intro k hk; simp; omega) (by intro k hk; simp; omega) e6) ⟨(Kb.1 27 (by decide)).trans h3.1, Kb.2.2.2.trans h3.2⟩ (h4.kp (li := [6, 9, 11, 12, 13, 14, 19]) (la := [7, 16]) ((Kp.rf.sI (by simp)).tr Kb) (by decide) (by decide)))
  · rw [hn] at hq
    dsimp only at hq
    have h40 := rdR_len hn
    rw [show (P.sI 9 0).I 6 = nI S.tl from h2.2.2.2.2.1]
    have B1 : MB m Pb (S.sTl 0) := B9.text Kb (by intro k hk; simp; omega) (by intro k hk; simp; omega) e6
    have R1 : RowM Pb S.rw := h4.kp (li := [6, 9, 11, 12, 13, 14, 19]) (la := [7, 16]) ((Kp.rf.sI (by simp)).tr Kb) (by decide) (by decide)
    have W1 : MW h0 hb m (S.sTl 0) (scr Pb) none (-1) (Pb.I 28) S.rw := ⟨Pb, Hb, B1, trivial, (Kb.1 27 (by decide)).trans h3.1, rfl, R1, rfl, Kb.2.2.2.trans h3.2⟩
    refine ⟨W1.is, W1.in12 O1 (Nat.le_refl _) (fun hc T' W2 => ⟨_, rfl, ?_⟩)⟩
    obtain ⟨Pc, g1, g2, g3, g4, g5, g6, g7, g8⟩ := W2
    have hru : Pc.ru = m + 8 := g8.trans hg
    refine g1.gU.mpr ((g1.gI rfl).mpr ((g1.gR rfl).mpr (g1.pU (fun he He => He.pI rfl (fun hf Hf => ?_)))))
    rw [hru]
    have h5 : TxB 80 (Pc.A 5) S.tx := g2.2.2.2.1
    have w1 : sumI (daysW (S.sTl 0).rv (S.sTl 0).br (S.sTl 0).dn (S.sTl 0).n 12 (S.sTl 0).W).lv (S.sTl 0).n = lawA S S.rv := rfl
    rw [w1]
    generalize hrv : (rdR S.tx S.tl).2 = rv' at hq
    have hrd : rdR S.tx S.tl = (none, rv') := Prod.ext hn hrv
    suffices G : ∀ f k (h' : pz_H) (a : Nat → Int32), k + f = S.tl → MI h0 h' m ((((Pc.sU (m + 9)).sI 18 (nI S.tl))).sA 9 a) → TxB k a S.tx → pz_V mX10_law Ex Q d bc bs 58 [(0, .ref m), (1, .int (nI S.tl)), (2, .int (lawA S S.rv)), (3, .ref (m + 8)), (4, .int (Pc.I 18)), (5, .int (nI k))] [] h' from G S.tl 0 hf (Pc.A 9) (Nat.zero_add _) ((sA_self ((Pc.sU (m + 9)).sI 18 (nI S.tl)) 9).symm ▸ Hf) (fun j hj => absurd hj (Nat.not_lt_zero _))
    intro f
    induction f with
    | zero =>
      intro k h' a hk H' hT
      have e : k = S.tl := hk
      subst e
      obtain ⟨b1, b2, b3, b4, b5, b6, b7, b8, b9⟩ := g2
      have MB2 : MB m ((((Pc.sU (m + 9)).sI 18 (nI S.tl))).sA 9 a) ((S.sTl 0).sRv rv') := ⟨b1, b2, b3, b4, b5, ⟨9, S.tl, S.tx, rfl, rfl, rfl, h40, hT, hrd⟩, b7, b8, b9⟩
      have W3 : MW (ghp h0 m (m + 9)) h' m ((S.sTl 0).sRv rv') (scr ((((Pc.sU (m + 9)).sI 18 (nI S.tl))).sA 9 a)) none (-1) (Pc.I 28) S.rw := ⟨_, H'.sw rfl (fun b hb => put_ne hb), MB2, trivial, g4, rfl, g6, rfl, (gh_ghp _ _ _).symm⟩
      refine wX10_law_58 hd ⟨fun _ => ⟨W3.is, W3.in12 (O1.rv_ rv') (Nat.le_refl _) (fun hi T'' W4 => ⟨_, rfl, ?_⟩)⟩, fun y => absurd (nI_le (Nat.le_refl _) (by omega)) y⟩
      obtain ⟨Pd, q1, q2, q3, q4, q5, q6, q7, q8⟩ := W4
      have q1' : MI h0 hi m Pd := q1.sw rfl (fun b hb => (put_ne hb).symm)
      refine q1'.pU (fun hj Hj => Hj.pI rfl (fun hk2 Hk => ?_))
      have e8 : Pd.A 8 = Pc.A 8 := congrArg pX.r8 q7
      have MB3 : MB m ((Pd.sU (m + 8)).sI 18 (Pc.I 18)) (S.sTl 0) := by
        obtain ⟨d1, d2, d3, d4, d5, d6, d7, d8, d9⟩ := q2
        obtain ⟨j, rs, rt, j1, j2, j3, j4, j5, j6⟩ := b6
        have j8 : j = 8 := by omega
        subst j8
        refine ⟨d1, d2, d3, d4, d5, ⟨8, rs, rt, rfl, rfl, j3, j4, ?_, j6⟩, d7, d8, d9⟩
        show TxB rs (Pd.A 8) rt
        rw [e8]
        exact j5
      have W5 : MW h0 hk2 m (S.sTl 0) (scr ((Pd.sU (m + 8)).sI 18 (Pc.I 18))) none (-1) (Pd.I 28) S.rw := ⟨_, Hk, MB3, trivial, q4, rfl, q6, rfl, hg.symm⟩
      refine W5.row0 (fun hl W6 => ⟨W6.is, W6.tell (by decide) (fun hm2 W7 => ⟨rfl, W7.is, W7.tell (by simp) (fun hn2 W8 => ⟨rfl, hq hn2 W8.inv⟩)⟩)⟩)
    | succ f ih =>
      intro k h' a hk H' hT
      refine wX10_law_58 hd ⟨fun y => absurd y (nI_ge (by omega) (by omega)), fun _ => H'.gU.mpr ((H'.gR rfl).mpr ((H'.rB (j := 5) (q := k) rfl rfl (by omega)).mpr ?_))⟩
      refine H'.sB (j := 9) (N := 40) (q := k) rfl rfl (by omega) (fun h2 H2 => ?_)
      rw [nI_1]
      rw [sA_sA] at H2
      refine ih (k + 1) h2 _ (by omega) H2 (fun j hj => ?_)
      show (upd a k (vp_nar .byte (Pc.A 5 k)) j &&& 255 = _) ∧ (_ → upd a k (vp_nar .byte (Pc.A 5 k)) j = _) ∧ _
      unfold upd
      by_cases e : j = k
      · subst e
        rw [if_pos rfl]
        exact h5.nar (by omega)
      · rw [if_neg e]
        exact hT j (by omega)
end MRU
