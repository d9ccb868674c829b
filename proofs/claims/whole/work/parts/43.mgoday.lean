/-! ===== a day of the reference ===== -/
def DayOk (m : Nat) (P : pM) (n : Nat) (br dn : Nat → Int32) (rv : pRV) (T : pW) : Prop := P.I 1 = nI n ∧ n ≤ 6 ∧ (∀ i, i < n → P.A 2 i = br i ∧ P.A 4 i = dn i ∧ T.lk i = P.A 3 i + (if nI i = P.I 27 then P.I 28 else 0)) ∧ DnOk n dn ∧ RuR m P rv
theorem addDn_base {dn ru c g : Nat → Int32} {n : Nat} : ∀ (i q : Nat), addDn dn ru n (fun q => c q + g q) i q = c q + addDn dn ru n g i q
  | 0, q => rfl
  | i + 1, q => by
    unfold addDn
    split
    · exact addDn_base i q
    · unfold upd
      split
      · rename_i e
        subst e
        rw [addDn_base i, Int32.add_assoc]
      · exact addDn_base i q
theorem RuR.kp {m : Nat} {P P' : pM} {rv : pRV} {li la : List Nat} (H : RuR m P rv) (K : Kp li la P P') (h1 : 18 ∉ li) (h2 : 8 ∉ la) (h3 : 9 ∉ la) : RuR m P' rv := by
  obtain ⟨j, rs, rt, a1, a2, a3, a4, a5, a6⟩ := H
  have hj : j = 8 ∨ j = 9 := by
    unfold arrB at a1
    split at a1 <;> first | (cases a1; done) | (cases a1; simp)
  refine ⟨j, rs, rt, a1, K.2.2.2.trans a2, (K.1 18 h1).trans a3, a4, ?_, a6⟩
  rw [K.2.1 j (by rcases hj with rfl | rfl; exact h2; exact h3)]
  exact a5
theorem DayOk.kp {m : Nat} {P P' : pM} {n : Nat} {br dn : Nat → Int32} {rv : pRV} {T : pW} {li la : List Nat} (H : DayOk m P n br dn rv T) (K : Kp li la P P') (hi : ∀ k, k = 1 ∨ k = 18 ∨ k = 27 ∨ k = 28 → k ∉ li) (ha : ∀ k, k = 2 ∨ k = 3 ∨ k = 4 ∨ k = 8 ∨ k = 9 → k ∉ la) : DayOk m P' n br dn rv T := by
  obtain ⟨h1, h2, h3, h4, h5⟩ := H
  refine ⟨(K.1 1 (hi 1 (by simp))).trans h1, h2, fun i hi2 => ?_, h4, h5.kp K (hi _ (by simp)) (ha _ (by simp)) (ha _ (by simp))⟩
  rw [K.2.1 2 (ha _ (by simp)), K.2.1 3 (ha _ (by simp)), K.2.1 4 (ha _ (by simp)), K.1 27 (hi _ (by simp)), K.1 28 (hi _ (by simp))]
  exact h3 i hi2
theorem NowR.step {n i : Nat} {a a' nx br : Nat → Int32} {T : pW} (h : NowR n a (endW nx br T i)) (hn : n ≤ 6) (hi : i < n) (e1 : a' i = lvN nx br i) (e2 : a' (12 + i) = hrN T.hr T.ou i) (e3 : a' 31 = spA nx br T.sp (i + 1)) (e4 : a' 32 = drA nx br T.lv T.dr (i + 1)) (e5 : ∀ q, q ≠ i → q ≠ 12 + i → q ≠ 31 → q ≠ 32 → a' q = a q) : NowR n a' (endW nx br T (i + 1)) := by
  obtain ⟨h1, h2, h3, h4, h5⟩ := h
  refine ⟨fun q hq => ?_, by rw [e5 30 (by omega) (by omega) (by omega) (by omega)]; exact h2, e3, e4, h5⟩
  obtain ⟨t1, t2, t3, t4, t5⟩ := h1 q hq
  refine ⟨?_, by rw [e5 (6 + q) (by omega) (by omega) (by omega) (by omega)]; exact t2, ?_, by rw [e5 (18 + q) (by omega) (by omega) (by omega) (by omega)]; exact t4, by rw [e5 (24 + q) (by omega) (by omega) (by omega) (by omega)]; exact t5⟩
  · show a' q = fa_fill (lvN nx br) T.lv (i + 1) q
    by_cases e : q = i
    · subst e
      rw [e1, fa_fill_in (by omega)]
    · rw [e5 q e (by omega) (by omega) (by omega), t1]
      show fa_fill (lvN nx br) T.lv i q = _
      unfold fa_fill
      by_cases c : q < i
      · rw [if_pos c, if_pos (by omega)]
      · rw [if_neg c, if_neg (by omega)]
  · show a' (12 + q) = fa_fill (hrN T.hr T.ou) T.hr (i + 1) q
    by_cases e : q = i
    · subst e
      rw [e2, fa_fill_in (by omega)]
    · rw [e5 (12 + q) (by omega) (by omega) (by omega) (by omega), t3]
      show fa_fill (hrN T.hr T.ou) T.hr i q = _
      unfold fa_fill
      by_cases c : q < i
      · rw [if_pos c, if_pos (by omega)]
      · rw [if_neg c, if_neg (by omega)]
section MG
variable {Ex : State → Nat → Prop} {Q : Option Value → pz_H → Prop} {d bc bs : Nat} {h0 h h' : pz_H} {m n : Nat} {P : pM} {rv : pRV} {br dn : Nat → Int32} {T : pW}
theorem m_goDay {j : Nat} (hj : arrN j = some 33) (hjc : j = 1 ∨ j = 13) (H : MI h0 h m P) (D : DayOk m P n br dn rv T) (HT : NowR n (P.A j) T) (hR : Rg n br T) (hd : 82 ≤ d)
    (hq : ∀ h' P', MI h0 h' m P' → Kp [10, 11, 12, 13, 14, 19] [10, 14, 15, j] P P' → (P.I 19 = 0 → P'.I 19 = 0) → NowR n (P'.A j) (dayW rv br dn n T) → Q none h') : pz_V mX10_goDay Ex Q d bc bs 0 [(0, .ref m), (1, .ref (m + j))] [] h := by
  have hn6 := D.2.1
  have nm : ∀ k, k = 1 ∨ k = 18 ∨ k = 27 ∨ k = 28 → k ∉ [10, 11, 12, 13, 14, 19] := fun k hk => by
    simp only [List.mem_cons, List.not_mem_nil, or_false]; omega
  have nm3 : ∀ k, k = 2 ∨ k = 3 ∨ k = 4 ∨ k = 8 ∨ k = 9 → k ∉ [10, 14, 15] := fun k hk => by
    simp only [List.mem_cons, List.not_mem_nil, or_false]; omega
  have nm4 : ∀ k, k = 2 ∨ k = 3 ∨ k = 4 ∨ k = 8 ∨ k = 9 → k ∉ [10, 14, 15, j] := fun k hk => by
    simp only [List.mem_cons, List.not_mem_nil, or_false]; omega
  have nj : j ∉ [10, 14, 15] := by simp only [List.mem_cons, List.not_mem_nil, or_false]; omega
  -- what is left, run out, and comes
  generalize hcc : (fun q => (T.lv q - runI rv br T q) - (if T.lk q < (T.lv q - runI rv br T q) then T.lk q else (T.lv q - runI rv br T q))) = c
  have hnx : ∀ q, nxF rv br dn n T q = c q + addDn dn (runI rv br T) n T.tp n q := fun q => by
    rw [← addDn_base, ← hcc]
    rfl
  -- the third loop
  have loop3 : ∀ k i h' P', i + k = n → MI h0 h' m P' → Kp [10, 11, 12, 13, 14, 19] [10, 14, 15, j] P P' → (P.I 19 = 0 → P'.I 19 = 0) → (∀ q, q < n → P'.A 14 q = runI rv br T q) → (∀ q, q < n → P'.A 15 q = addDn dn (runI rv br T) n T.tp n q) → NowR n (P'.A j) (endW (nxF rv br dn n T) br T i) → pz_V mX10_goDay Ex Q d bc bs 88 [(0, .ref m), (1, .ref (m + j)), (2, .int (nI i))] [] h' := by
    intro k
    induction k with
    | zero =>
      intro i h' P' hi H' K' h19 hrun hget hN
      have e : i = n := hi
      subst e
      have D' := D.kp K' nm nm4
      refine wX10_goDay_88 hd ((H'.gI rfl).mpr ?_)
      rw [D'.1]
      refine ⟨fun _ => (H'.rI (q := 30) hj rfl (by decide)).mpr (H'.sI (q := 30) hj rfl (by decide) (fun h2 H2 => ?_)), fun hc => absurd (nI_le (Nat.le_refl _) (by omega)) hc⟩
      refine hq h2 _ H2 (K'.sA (by simp)) h19 ?_
      rw [show (P'.sA j (upd (P'.A j) 30 (P'.A j 30 + 1))).A j = _ from up1_at _ _ _]
      obtain ⟨t1, t2, t3, t4, t5⟩ := hN
      refine ⟨fun q hq2 => ?_, ?_, ?_, ?_, t5⟩
      · rw [upd_ne (by omega), upd_ne (by omega), upd_ne (by omega), upd_ne (by omega), upd_ne (by omega)]
        exact t1 q hq2
      · rw [upd_at, t2]; rfl
      · rw [upd_ne (by decide)]; exact t3
      · rw [upd_ne (by decide)]; exact t4
    | succ k ih =>
      intro i h' P' hi H' K' h19 hrun hget hN
      have D' := D.kp K' nm nm4
      have hin : i < n := by omega
      obtain ⟨b1, b2, b3⟩ := D'.2.2.1 i hin
      obtain ⟨t1, t2, t3, t4, t5⟩ := hN.1 i hin
      have t1' : P'.A j i = T.lv i := by rw [t1]; exact fa_fill_out (Nat.le_refl _)
      have t3' : P'.A j (12 + i) = T.hr i := by rw [t3]; exact fa_fill_out (Nat.le_refl _)
      have Hnx : Bt (nxF rv br dn n T i) 0 702 := nxF_Bt hn6 hR hin
      -- behind the join: what the leak takes is known
      have body : ∀ (s0 s1 : Int32), s1 + s0 = T.lk i → pz_V mX10_goDay Ex Q d bc bs 136 [(0, .ref m), (1, .ref (m + j)), (2, .int (nI i)), (3, .int (T.lv i))] [.int s0, .int s1, .int (T.lv i - runI rv br T i), .int (T.lv i - runI rv br T i)] h' := by
        intro s0 s1 es
        refine wX10_goDay_136 hd ((H'.gR rfl).mpr ((H'.rI (q := i) rfl rfl (by omega)).mpr ((H'.rI (q := 31) hj rfl (by decide)).mpr ((H'.gR rfl).mpr ((H'.rI (q := i) rfl rfl (by omega)).mpr ?_)))))
        have enx : ((T.lv i - runI rv br T i) - (if (s1 + s0) < (T.lv i - runI rv br T i) then (s1 + s0) else (T.lv i - runI rv br T i))) + P'.A 15 i = nxF rv br dn n T i := by
          rw [es, hget i hin, hnx i, ← hcc]
        rw [enx, b1]
        have eov : (if ((0 : Int32)) < (nxF rv br dn n T i - br i) then (nxF rv br dn n T i - br i) else ((0 : Int32))) = ovr (nxF rv br dn n T) br i := rfl
        rw [eov]
        generalize hs9 : (if P'.A j 31 + ovr (nxF rv br dn n T) br i < 9999 then P'.A j 31 + ovr (nxF rv br dn n T) br i else (9999 : Int32)) = s9
        have es9 : s9 = spA (nxF rv br dn n T) br T.sp (i + 1) := by
          rw [← hs9, hN.2.2.1]
          rfl
        refine H'.sI (q := 31) hj rfl (by decide) (fun h6 H6 => (H6.gR rfl).mpr ((H6.rI (q := i) rfl rfl (by omega)).mpr ?_))
        have ne2 : ∀ (f : Nat → Int32), (P'.sA j f).A 2 = P'.A 2 := fun f => up1_ne (by omega)
        have atj : ∀ (f : Nat → Int32), (P'.sA j f).A j = f := fun f => up1_at P'.A j f
        rw [ne2, b1, ← lvN_min Hnx (hR i hin).1]
        refine H6.sI (q := i) hj rfl (by omega) (fun h9 H9 => ?_)
        rw [sA_sA, atj] at H9
        refine (H9.rI (q := 6 + i) hj (nI_add 6 i) (by omega)).mpr ?_
        rw [atj, upd_ne (show 6 + i ≠ i by omega), upd_ne (show 6 + i ≠ 31 by omega), t2]
        rw [nI_1]
        -- the end: dried
        have fin : ∀ (h15 : pz_H) (a : Nat → Int32), MI h0 h15 m (P'.sA j a) → a i = lvN (nxF rv br dn n T) br i → a (12 + i) = hrN T.hr T.ou i → a 31 = s9 → a 32 = P'.A j 32 → (∀ q, q ≠ i → q ≠ 12 + i → q ≠ 31 → q ≠ 32 → a q = P'.A j q) →
            ((T.lv i ≤ 0 → pz_V mX10_goDay Ex Q d bc bs 88 [(0, .ref m), (1, .ref (m + j)), (2, .int (nI (i + 1)))] [] h15) ∧ (¬ T.lv i ≤ 0 → pz_rI h15 (m + j) (nI i) (fun (x16 : Int32) => (¬ x16 = 0 → pz_V mX10_goDay Ex Q d bc bs 88 [(0, .ref m), (1, .ref (m + j)), (2, .int (nI (i + 1)))] [] h15) ∧ (x16 = 0 → pz_rI h15 (m + j) 32 (fun (x17 : Int32) => pz_sI h15 (m + j) 32 (if (x17 + ((1 : Int32))) < ((999 : Int32)) then (x17 + ((1 : Int32))) else ((999 : Int32))) (fun (h18 : pz_H) => pz_V mX10_goDay Ex Q d bc bs 88 [(0, .ref m), (1, .ref (m + j)), (2, .int (nI (i + 1)))] [] h18)))))) := by
          intro h15 a H15 a1 a2 a3 a4 a5
          have go : ∀ (h18 : pz_H) (a' : Nat → Int32), MI h0 h18 m (P'.sA j a') → (∀ q, q ≠ 32 → a' q = a q) → a' 32 = drA (nxF rv br dn n T) br T.lv T.dr (i + 1) → pz_V mX10_goDay Ex Q d bc bs 88 [(0, .ref m), (1, .ref (m + j)), (2, .int (nI (i + 1)))] [] h18 := by
            intro h18 a' H18 c1 c2
            have n14 : (P'.sA j a').A 14 = P'.A 14 := up1_ne (by omega)
            have n15 : (P'.sA j a').A 15 = P'.A 15 := up1_ne (by omega)
            refine ih (i + 1) h18 _ (by omega) H18 (K'.sA (by simp)) h19 (fun q hq2 => by rw [n14]; exact hrun q hq2) (fun q hq2 => by rw [n15]; exact hget q hq2) ?_
            rw [atj]
            refine hN.step hn6 hin ?_ ?_ ?_ c2 (fun q q1 q2 q3 q4 => ?_)
            · rw [c1 i (by omega), a1]
            · rw [c1 (12 + i) (by omega), a2]
            · rw [c1 31 (by decide), a3, es9]
            · rw [c1 q q4, a5 q q1 q2 q3 q4]
          have edr : P'.A j 32 = drA (nxF rv br dn n T) br T.lv T.dr i := hN.2.2.2.1
          have edr1 : drA (nxF rv br dn n T) br T.lv T.dr (i + 1) = if ¬ T.lv i ≤ 0 ∧ lvN (nxF rv br dn n T) br i = 0 then (if drA (nxF rv br dn n T) br T.lv T.dr i + 1 < 999 then drA (nxF rv br dn n T) br T.lv T.dr i + 1 else 999) else drA (nxF rv br dn n T) br T.lv T.dr i := rfl
          refine ⟨fun hle => go h15 a H15 (fun _ _ => rfl) (by rw [a4, edr, edr1, if_neg (fun z => z.1 hle)]), fun hle => (H15.rI (q := i) hj rfl (by omega)).mpr ?_⟩
          rw [atj, a1]
          refine ⟨fun hne => go h15 a H15 (fun _ _ => rfl) (by rw [a4, edr, edr1, if_neg (fun z => hne z.2)]), fun hez => (H15.rI (q := 32) hj rfl (by decide)).mpr (H15.sI (q := 32) hj rfl (by decide) (fun h18 H18 => ?_))⟩
          rw [sA_sA, atj] at H18
          refine go h18 _ H18 (fun q hq2 => upd_ne hq2) ?_
          rw [upd_at, a4, edr, edr1, if_pos (c := ¬ T.lv i ≤ 0 ∧ lvN (nxF rv br dn n T) br i = 0) ⟨hle, hez⟩]
        refine ⟨fun hno => ?_, fun hyes => (H9.rI (q := 12 + i) hj (nI_add 12 i) (by omega)).mpr (H9.sI (q := 12 + i) hj (nI_add 12 i) (by omega) (fun h15 H15 => ?_))⟩
        · have ob : T.ou.testBit i = false := by
            cases cb : T.ou.testBit i
            · rfl
            · exact absurd (by show (if T.ou.testBit i then (1 : Int32) else 0) = 1; rw [cb]; rfl) hno
          refine fin h9 _ H9 (upd_at _ _ _) ?_ ?_ ?_ (fun q q1 q2 q3 q4 => ?_)
          · rw [upd_ne (by omega), upd_ne (by omega), t3']
            unfold hrN
            rw [ob]; rfl
          · rw [upd_ne (by omega), upd_at]
          · rw [upd_ne (by omega), upd_ne (by decide)]
          · rw [upd_ne q1, upd_ne q3]
        · have ob : T.ou.testBit i = true := by
            cases cb : T.ou.testBit i
            · exact absurd hyes (by show ¬ (if T.ou.testBit i then (1 : Int32) else 0) = 1; rw [cb]; decide)
            · rfl
          rw [sA_sA, atj] at H15
          refine fin h15 _ H15 ?_ ?_ ?_ ?_ (fun q q1 q2 q3 q4 => ?_)
          · rw [upd_ne (by omega), upd_at]
          · rw [upd_at, upd_ne (by omega), upd_ne (by omega), t3']
            unfold hrN
            rw [ob]; rfl
          · rw [upd_ne (by omega), upd_ne (by omega), upd_at]
          · rw [upd_ne (by omega), upd_ne (by omega), upd_ne (by decide)]
          · rw [upd_ne q2, upd_ne q1, upd_ne q3]
      refine wX10_goDay_88 hd ((H'.gI rfl).mpr ?_)
      rw [D'.1]
      refine ⟨fun hc => absurd hc (nI_ge (by omega) (by omega)), fun _ => (H'.rI (q := i) hj rfl (by omega)).mpr ((H'.gR rfl).mpr ((H'.rI (q := i) rfl rfl (by omega)).mpr ((H'.gR rfl).mpr ((H'.rI (q := i) rfl rfl (by omega)).mpr ((H'.gI rfl).mpr ?_)))))⟩
      rw [t1', hrun i hin]
      refine ⟨fun hne => body 0 _ ?_, fun heq => (H'.gI rfl).mpr (body _ _ ?_)⟩
      · rw [b3, if_neg hne]
      · rw [b3, if_pos heq]
  -- the second loop
  have loop2 : ∀ k i h' P', i + k = n → MI h0 h' m P' → Kp [10, 11, 12, 13, 14, 19] [10, 14, 15] P P' → (P.I 19 = 0 → P'.I 19 = 0) → (∀ q, q < n → P'.A 14 q = runI rv br T q) → (∀ q, q < n → P'.A 15 q = addDn dn (runI rv br T) n T.tp i q) → pz_V mX10_goDay Ex Q d bc bs 42 [(0, .ref m), (1, .ref (m + j)), (2, .int (nI i))] [] h' := by
    intro k
    induction k with
    | zero =>
      intro i h' P' hi H' K' h19 hrun hget
      have e : i = n := hi
      subst e
      have D' := D.kp K' nm nm3
      refine wX10_goDay_42 hd ((H'.gI rfl).mpr ?_)
      rw [D'.1]
      refine ⟨fun _ => loop3 i 0 h' P' (Nat.zero_add _) H' (K'.mono (fun k hk => hk) (fun k hk => by simp only [List.mem_cons, List.not_mem_nil, or_false] at hk ⊢; omega)) h19 hrun hget ?_, fun hc => absurd (nI_le (Nat.le_refl _) (by omega)) hc⟩
      rw [K'.2.1 j nj]
      refine ⟨fun q hq2 => ?_, HT.2⟩
      obtain ⟨t1, t2, t3, t4, t5⟩ := HT.1 q hq2
      refine ⟨?_, t2, ?_, t4, t5⟩
      · rw [t1]
        exact (congrFun (fa_fill_0 (lvN (nxF rv br dn i T) br) T.lv) q).symm
      · rw [t3]
        exact (congrFun (fa_fill_0 (hrN T.hr T.ou) T.hr) q).symm
    | succ k ih =>
      intro i h' P' hi H' K' h19 hrun hget
      have D' := D.kp K' nm nm3
      have hin : i < n := by omega
      obtain ⟨b1, b2, b3⟩ := D'.2.2.1 i hin
      refine wX10_goDay_42 hd ((H'.gI rfl).mpr ?_)
      rw [D'.1]
      refine ⟨fun hc => absurd hc (nI_ge (by omega) (by omega)), fun _ => (H'.gR rfl).mpr ((H'.rI (q := i) rfl rfl (by omega)).mpr ?_)⟩
      rw [b2, nI_1]
      have ea : addDn dn (runI rv br T) n T.tp (i + 1) = if eX1_has (dn i) (nI n) = 0 then addDn dn (runI rv br T) n T.tp i else upd (addDn dn (runI rv br T) n T.tp i) (dn i).toNatClampNeg (addDn dn (runI rv br T) n T.tp i (dn i).toNatClampNeg + runI rv br T i) := rfl
      rcases D.2.2.2.1 i hin with e | ⟨k2, hk2, e⟩
      · refine ⟨fun _ => ih (i + 1) h' P' (by omega) H' K' h19 hrun (fun q hq2 => ?_), fun hc => absurd e hc⟩
        rw [ea, if_pos (by rw [e]; rcases (by omega : n = 1 ∨ n = 2 ∨ n = 3 ∨ n = 4 ∨ n = 5 ∨ n = 6) with rfl | rfl | rfl | rfl | rfl | rfl <;> decide)]
        exact hget q hq2
      · have hne : ¬ dn i = -1 := by
          rw [e]
          intro z
          have h1 : (0 : Int32) ≤ nI k2 := nI_pos' (by omega)
          rw [z] at h1
          exact absurd h1 (by decide)
        refine ⟨fun hc => absurd hc hne, fun _ => (H'.gR rfl).mpr ((H'.gR rfl).mpr ((H'.rI (q := i) rfl rfl (by omega)).mpr ?_))⟩
        rw [b2, e]
        refine (H'.rI (q := k2) rfl rfl (by omega)).mpr ((H'.gR rfl).mpr ((H'.rI (q := i) rfl rfl (by omega)).mpr (H'.sI (q := k2) rfl rfl (by omega) (fun h2 H2 => ?_))))
        refine ih (i + 1) h2 _ (by omega) H2 (K'.sA (by simp)) h19 (fun q hq2 => ?_) (fun q hq2 => ?_)
        · exact hrun q hq2
        · show upd (P'.A 15) k2 _ q = _
          rw [ea, if_neg (by rw [e]; exact has_i hn6 (by omega)), e, clamp (by omega), hget k2 (by omega), hrun i hin]
          unfold upd
          split
          · rfl
          · exact hget q hq2
  -- the first loop
  refine wX10_goDay_0 hd ?_
  suffices loop1 : ∀ k i h' P', i + k = n → MI h0 h' m P' → Kp [10, 11, 12, 13, 14, 19] [10, 14, 15] P P' → (P.I 19 = 0 → P'.I 19 = 0) → (∀ q, q < i → P'.A 14 q = runI rv br T q) → (∀ q, q < i → P'.A 15 q = T.tp q) → pz_V mX10_goDay Ex Q d bc bs 2 [(0, .ref m), (1, .ref (m + j)), (2, .int (nI i))] [] h' from loop1 n 0 h P (Nat.zero_add n) H Kp.rf (fun z => z) (fun q hq2 => absurd hq2 (Nat.not_lt_zero q)) (fun q hq2 => absurd hq2 (Nat.not_lt_zero q))
  intro k
  induction k with
  | zero =>
    intro i h' P' hi H' K' h19 hrun hget
    have e : i = n := hi
    subst e
    have D' := D.kp K' nm nm3
    refine wX10_goDay_2 hd ((H'.gI rfl).mpr ?_)
    rw [D'.1]
    exact ⟨fun _ => loop2 i 0 h' P' (Nat.zero_add _) H' K' h19 hrun hget, fun hc => absurd (nI_le (Nat.le_refl _) (by omega)) hc⟩
  | succ k ih =>
    intro i h' P' hi H' K' h19 hrun hget
    have D' := D.kp K' nm nm3
    have hin : i < n := by omega
    obtain ⟨b1, b2, b3⟩ := D'.2.2.1 i hin
    refine wX10_goDay_2 hd ((H'.gI rfl).mpr ?_)
    rw [D'.1]
    refine ⟨fun hc => absurd hc (nI_ge (by omega) (by omega)), fun _ => (H'.gR rfl).mpr ⟨H'.is, ?_⟩⟩
    have HT' : NowR n (P'.A j) T := by rw [K'.2.1 j nj]; exact HT
    refine m_runOf hj (by omega) H' D'.1 hn6 hin b1 HT' D'.2.2.2.2 (Nat.le_refl _) (fun h3 P3 H3 K3 g19 => ⟨_, rfl, H3.sI (q := i) rfl rfl (by omega) (fun h5 H5 => (H5.gR rfl).mpr ((H5.rI (q := 18 + i) hj (nI_add 18 i) (by omega)).mpr (H5.sI (q := i) rfl rfl (by omega) (fun h8 H8 => ?_))))⟩)
    rw [nI_1]
    have K4 : Kp [10, 11, 12, 13, 14, 19] [10, 14, 15] P P3 := K'.tr (K3.mono (fun k hk => hk) (fun k hk => by simp only [List.mem_cons, List.not_mem_nil, or_false] at hk ⊢; omega))
    refine ih (i + 1) h8 _ (by omega) H8 ((K4.sA (by simp)).sA (by simp)) (fun z => g19 (h19 z)) (fun q hq2 => ?_) (fun q hq2 => ?_)
    · show upd (P3.A 14) i _ q = _
      unfold upd
      split
      · rename_i e; rw [e]
      · rename_i e
        rw [K3.2.1 14 (by decide)]
        exact hrun q (by omega)
    · show upd (P3.A 15) i (up1 P3.A 14 _ j (18 + i)) q = _
      rw [show ∀ (f : Nat → Int32), up1 P3.A 14 f j = P3.A j from fun f => up1_ne (by omega), K3.2.1 j (by simp; omega)]
      unfold upd
      split
      · rename_i e; rw [e, (HT'.1 i hin).2.2.2.1]
      · rename_i e
        rw [K3.2.1 15 (by decide)]
        exact hget q (by omega)
end MG
