/-! ===== the reference: sign, end, rings, acts, undo, keep, again, count, row, lake, sheet ===== -/
def MIt (h0 h : pz_H) (m : Nat) (S : pS) (t : Int32) : Prop := ∃ P, MI h0 h m P ∧ MB m P S ∧ (P.I 27 = -1 ∧ P.ru = gh h0 m) ∧ RowM P S.rw ∧ P.I 9 = t
def MInv (h0 h : pz_H) (m : Nat) (S : pS) : Prop := ∃ t, MIt h0 h m S t
theorem MInv.w {h0 h : pz_H} {m : Nat} {S : pS} (H : MInv h0 h m S) : ∃ lm zz, MW h0 h m S zz none (-1) lm S.rw := by
  obtain ⟨t, P, h1, h2, h3, h4, -⟩ := H
  exact ⟨_, _, P, h1, h2, trivial, h3.1, rfl, h4, rfl, h3.2⟩
theorem MW.inv {h0 h : pz_H} {m : Nat} {S : pS} {zz : pX} {oT : Option pW} {lm : Int32} {rw : List Int64} (H : MW h0 h m S zz oT (-1) lm rw) : MInv h0 h m (S.sRw rw) := by
  obtain ⟨P, h1, h2, -, h4, -, h6, -, h7⟩ := H
  exact ⟨_, P, h1, h2, ⟨h4, h7⟩, h6, rfl⟩
theorem MInv.of {h0 h : pz_H} {m : Nat} {S : pS} {P : pM} (h1 : MI h0 h m P) (h2 : MB m P S) (h3 : P.I 27 = -1 ∧ P.ru = gh h0 m) (h4 : RowM P S.rw) : MInv h0 h m S := ⟨_, P, h1, h2, h3, h4, rfl⟩
theorem MB.now {m : Nat} {P : pM} {S : pS} {f : Nat → Int32} {W' : pW} (H : MB m P S) (hN : NowR S.n f W') (hl : ∀ i, i < S.n → W'.lk i = S.W.lk i) : MB m (P.sA 1 f) (S.sW W') := by
  obtain ⟨b1, b2, b3, b4, b5, b6, b7, b8, b9⟩ := H
  refine ⟨b1, fun i hi => ?_, hN, b4, b5, b6.kp (li := []) (la := [1]) (Kp.rf.sA (by simp)) (by simp) (by simp) (by simp), b7, b8, b9⟩
  obtain ⟨c1, c2, c3⟩ := b2 i hi
  exact ⟨c1, c2.trans (hl i hi).symm, c3⟩
theorem MB.und {m : Nat} {P P' : pM} {S : pS} {U' : List pW} (H : MB m P S) (K : Kp [22] [11] P P') (hU : UndR P' S.n U') : MB m P' (S.sU U') := by
  obtain ⟨b1, b2, b3, b4, b5, b6, b7, b8, b9⟩ := H
  have eI : ∀ k, k ≠ 22 → P'.I k = P.I k := fun k hk => K.1 k (by simpa using hk)
  have eA : ∀ k, k ≠ 11 → P'.A k = P.A k := fun k hk => K.2.1 k (by simpa using hk)
  refine ⟨(eI 1 (by decide)).trans b1, ?_, ?_, ?_, (eI 6 (by decide)).trans b5, b6.kp K (by simp) (by simp) (by simp), hU, ?_, ?_⟩
  · rw [eA 2 (by decide), eA 3 (by decide), eA 4 (by decide)]; exact b2
  · rw [eA 1 (by decide)]; exact b3
  · rw [eA 5 (by decide)]; exact b4
  · unfold RgR
    rw [eI 33 (by decide), eA 17 (by decide), eA 18 (by decide), eA 19 (by decide)]; exact b8
  · unfold KeR
    rw [eI 39 (by decide), eA 24 (by decide), eA 25 (by decide), eA 26 (by decide)]; exact b9
/-! a byte of an int -/
def byv (v : Int32) (k : Nat) : Int32 := (v >>> ((8 : Int32) * nI k &&& 31)).toInt8.toInt32
theorem i32_nat (x : Int32) : x.toInt = if x.toBitVec.toNat < 2147483648 then (x.toBitVec.toNat : Int) else (x.toBitVec.toNat : Int) - 4294967296 := by
  show x.toBitVec.toInt = _
  rw [BitVec.toInt_eq_toNat_cond]
  by_cases c : x.toBitVec.toNat < 2147483648
  · rw [if_pos c, if_pos (by omega)]
  · rw [if_neg c, if_neg (by omega)]
    rfl
theorem byv_toInt {v : Int32} {k : Nat} (hk : k < 4) : ∃ s : Nat, s = 8 * k ∧ (byv v k).toInt = (v.toInt >>> s).bmod 256 := by
  refine ⟨8 * k, rfl, ?_⟩
  unfold byv
  rw [Int8.toInt_toInt32, Int32.toInt_toInt8]
  have : ∀ k, k < 4 → (((8 : Int32) * nI k &&& 31).toBitVec.smod 32).toNat = 8 * k := by decide +kernel
  rw [pk_shr v _ (8 * k) (this k hk)]
theorem bmod256 (x : Int) : (x.bmod 256 = x % 256 ∧ x % 256 < 128) ∨ (x.bmod 256 = x % 256 - 256 ∧ 128 ≤ x % 256) := by
  unfold Int.bmod
  by_cases c : x % 256 < 128
  · exact Or.inl ⟨by simp; omega, c⟩
  · exact Or.inr ⟨by simp; omega, by omega⟩
theorem byv_ok {v : Int32} {k : Nat} (hk : k < 4) : byv v k &&& 255 = nI (byteOf v k) ∧ (byteOf v k < 128 → byv v k = nI (byteOf v k)) ∧ byteOf v k < 256 := by
  obtain ⟨s, hs, e⟩ := byv_toInt (v := v) hk
  have hv := v.toBitVec.isLt
  have iv := i32_nat v
  have ib := i32_nat (byv v k)
  have hb := (byv v k).toBitVec.isLt
  have hby : byteOf v k < 256 := Nat.mod_lt _ (by decide)
  have key : (v.toInt >>> s) % 256 = (byteOf v k : Int) := by
    unfold byteOf
    rw [Int.shiftRight_eq_div_pow, hs]
    rcases (by omega : k = 0 ∨ k = 1 ∨ k = 2 ∨ k = 3) with rfl | rfl | rfl | rfl
    · simp only [Nat.mul_zero, Nat.pow_zero, Nat.div_one]
      split at iv <;> omega
    · simp only [show 8 * 1 = 8 from rfl]
      rw [show ((2 ^ 8 : Nat) : Int) = 256 from rfl, show (2 : Nat) ^ 8 = 256 from rfl]
      split at iv <;> omega
    · simp only [show 8 * 2 = 16 from rfl]
      rw [show ((2 ^ 16 : Nat) : Int) = 65536 from rfl, show (2 : Nat) ^ 16 = 65536 from rfl]
      split at iv <;> omega
    · simp only [show 8 * 3 = 24 from rfl]
      rw [show ((2 ^ 24 : Nat) : Int) = 16777216 from rfl, show (2 : Nat) ^ 24 = 16777216 from rfl]
      split at iv <;> omega
  refine ⟨?_, fun hl => ?_, hby⟩
  · rw [pk_and (byv v k) 8 (by decide)]
    congr 1
    show (byv v k).toBitVec.toNat % 256 = byteOf v k
    rcases bmod256 (v.toInt >>> s) with ⟨c1, c2⟩ | ⟨c1, c2⟩
    · rw [e, c1, key] at ib
      split at ib <;> omega
    · rw [e, c1, key] at ib
      split at ib <;> omega
  · rw [eq_i, nI_toInt (by omega), e]
    rcases bmod256 (v.toInt >>> s) with ⟨c1, c2⟩ | ⟨c1, c2⟩
    · omega
    · omega
def s_lake (S : pS) (l w : Int32) : Option Int32 := if eX1_has l (nI S.n) = 0 then none else if eX9_isWithin w 0 8 = 0 then none else
  some (if w.toInt = 0 then S.br l.toNatClampNeg else if w.toInt = 1 then S.W.tp l.toNatClampNeg else if w.toInt = 2 then S.W.lk l.toNatClampNeg else if w.toInt = 3 then S.W.kg l.toNatClampNeg else if w.toInt = 4 then S.dn l.toNatClampNeg else if w.toInt = 5 then S.W.lv l.toNatClampNeg else if w.toInt = 6 then (if S.W.ou.testBit l.toNatClampNeg then 1 else 0) else if w.toInt = 7 then S.W.hr l.toNatClampNeg else runI S.rv S.br S.W l.toNatClampNeg)
def s_row (S : pS) (i : Int32) : Option Int64 := if eX1_has i (nI S.rw.length) = 0 then none else some (S.rw.getD i.toNatClampNeg 0)
section MS
variable {Ex : State → Nat → Prop} {Q : Option Value → pz_H → Prop} {d bc bs : Nat} {h0 h h' : pz_H} {m : Nat} {S : pS} {oT : Option pW} {T : pW} {lo lm : Int32} {rw : List Int64} {zz : pX}
variable {P : pM}
theorem MIt.w {t : Int32} (H : MIt h0 h m S t) : MInv h0 h m S := ⟨t, H⟩
theorem M_thrown {t : Int32} (H : MIt h0 h m S t) (hq : Q (some (.int t)) h) : pz_V mX10_thrown Ex Q d bc bs 0 [(0, .ref m)] [] h := by
  obtain ⟨P, h1, -, -, -, h5⟩ := H
  refine wX10_thrown_0 ((h1.gI rfl).mpr ?_)
  rw [h5]
  exact hq
theorem M_sign {v : Int32} (H : MInv h0 h m S) (O : SOk S) (hq : ∀ h', MInv h0 h' m (o_sign v S).2 → Q (some (.int (o_sign v S).1)) h') : pz_V mX10_sign Ex Q d bc bs 0 [(0, .ref m), (1, .int v)] [] h := by
  obtain ⟨t, P, h1, h2, h3, h4, -⟩ := H
  have htl := O.2.1
  unfold o_sign at hq
  refine wX10_sign_0 (h1.pI rfl (fun ha Ha => (Ha.gI rfl).mpr ?_))
  rw [show (P.sI 9 0).I 6 = nI S.tl from h2.2.2.2.2.1, show nI S.tl + (4 : Int32) = nI (S.tl + 4) from nI_add S.tl 4]
  refine ⟨fun hc => ?_, fun hc => ?_⟩
  · have hc : S.tl ≤ 76 := by
      have : S.tl + 4 ≤ 80 := (nI_leI (b := 80) (by omega) (by decide)).mp hc
      omega
    rw [if_pos hc] at hq
    suffices G : ∀ k (h' : pz_H) (P' : pM), k ≤ 4 → MI h0 h' m P' → Kp [6, 9] [5] P P' → P'.I 6 = nI (S.tl + (4 - k)) → (∀ j, P'.A 5 j = if S.tl ≤ j ∧ j < S.tl + (4 - k) then byv v (3 - (j - S.tl)) else P.A 5 j) → pz_V mX10_sign Ex Q d bc bs 20 [(0, .ref m), (1, .int v), (2, .int (nI k + (-1)))] [] h' from G 4 ha _ (Nat.le_refl _) Ha (Kp.rf.sI (by simp)) h2.2.2.2.2.1 (fun j => by rw [if_neg (by omega)])
    intro k
    induction k with
    | zero =>
      intro h' P' hk H' K' e6 e5
      refine wX10_sign_20 ⟨fun _ => (H'.gI rfl).mpr ?_, fun y => absurd (by decide) y⟩
      rw [e6]
      refine hq h' (MInv.of H' ?_ ⟨(K'.1 27 (by decide)).trans h3.1, K'.2.2.2.trans h3.2⟩ ⟨(K'.1 8 (by decide)).trans h4.1, by rw [K'.2.2.1 6 (by decide)]; exact h4.2⟩)
      obtain ⟨b1, b2, b3, b4, b5, b6, b7, b8, b9⟩ := h2
      refine ⟨(K'.1 1 (by decide)).trans b1, by rw [K'.2.1 2 (by decide), K'.2.1 3 (by decide), K'.2.1 4 (by decide)]; exact b2, by rw [K'.2.1 1 (by decide)]; exact b3, ?_, e6, b6.kp K' (by decide) (by decide) (by decide), ?_, ?_, ?_⟩
      · intro j hj
        suffices hx : ∀ fv : Int32, fv = (if S.tl ≤ j ∧ j < S.tl + 4 then byv v (3 - (j - S.tl)) else P.A 5 j) → fv &&& 255 = nI (txSign S.tx S.tl v j) ∧ (txSign S.tx S.tl v j < 128 → fv = nI (txSign S.tx S.tl v j)) ∧ txSign S.tx S.tl v j < 256 from hx _ (e5 j)
        intro fv hfv
        rw [hfv]
        unfold txSign
        by_cases c : S.tl ≤ j ∧ j < S.tl + 4
        · rw [if_pos c]
          rcases (by omega : j = S.tl ∨ j = S.tl + 1 ∨ j = S.tl + 2 ∨ j = S.tl + 3) with e | e | e | e
          · rw [if_pos e, show 3 - (j - S.tl) = 3 by omega]; exact byv_ok (k := 3) (by decide)
          · rw [if_neg (by omega), if_pos e, show 3 - (j - S.tl) = 2 by omega]; exact byv_ok (k := 2) (by decide)
          · rw [if_neg (by omega), if_neg (by omega), if_pos e, show 3 - (j - S.tl) = 1 by omega]; exact byv_ok (k := 1) (by decide)
          · rw [if_neg (by omega), if_neg (by omega), if_neg (by omega), if_pos e, show 3 - (j - S.tl) = 0 by omega]; exact byv_ok (k := 0) (by decide)
        · rw [if_neg c, if_neg (by omega), if_neg (by omega), if_neg (by omega), if_neg (by omega)]
          exact b4 j hj
      · unfold UndR
        rw [K'.1 22 (by decide), K'.2.1 11 (by decide)]; exact b7
      · unfold RgR
        rw [K'.1 33 (by decide), K'.2.1 17 (by decide), K'.2.1 18 (by decide), K'.2.1 19 (by decide)]; exact b8
      · unfold KeR
        rw [K'.1 39 (by decide), K'.2.1 24 (by decide), K'.2.1 25 (by decide), K'.2.1 26 (by decide)]; exact b9
    | succ k ih =>
      intro h' P' hk H' K' e6 e5
      rw [pk_m1 k]
      refine wX10_sign_20 ⟨fun y => absurd y (nI_pos (by omega)), fun _ => (H'.gR rfl).mpr ((H'.gI rfl).mpr (H'.pI rfl (fun h2 H2 => H2.sB (j := 5) (N := 80) (q := S.tl + (4 - (k + 1))) rfl e6 (by omega) (fun h3 H3 => ?_))))⟩
      refine ih h3 _ (by omega) H3 ((K'.sI (by simp)).sA (by simp)) ?_ (fun j => ?_)
      · show P'.I 6 + 1 = _
        rw [e6, nI_1]
        congr 1
        omega
      · show upd (P'.A 5) (S.tl + (4 - (k + 1))) (vp_nar .byte _) j = _
        rw [pk_vb]
        unfold upd
        by_cases c : j = S.tl + (4 - (k + 1))
        · rw [if_pos c, if_pos (by omega), show 3 - (j - S.tl) = k by omega]
          rfl
        · rw [if_neg c, e5 j]
          by_cases c2 : S.tl ≤ j ∧ j < S.tl + (4 - (k + 1))
          · rw [if_pos c2, if_pos (by omega)]
          · rw [if_neg c2, if_neg (by omega)]
  · have hc : ¬ S.tl ≤ 76 := fun z => hc (nI_le (b := 80) (by omega) (by decide))
    rw [if_neg hc] at hq
    exact hq ha (MInv.of Ha (h2.kp (li := [9]) (la := []) (Kp.rf.sI (by simp)) (by intro k hk; simp; omega) (by simp)) h3 h4)
theorem M_end {k : Int32} (H : MInv h0 h m S) (O : SOk S) (hd : 1 ≤ d) (hq : ∀ h', MInv h0 h' m (o_end k S).2 → Q (some (.int (o_end k S).1)) h') : pz_V mX10_end Ex Q d bc bs 0 [(0, .ref m), (1, .int k)] [] h := by
  obtain ⟨t, P, h1, h2, h3, h4, -⟩ := H
  have htl := O.2.1
  unfold o_end at hq
  refine wX10_end_0 hd (h1.pI rfl (fun ha Ha => (Ha.gI rfl).mpr ?_))
  rw [show (P.sI 9 0).I 6 = nI S.tl from h2.2.2.2.2.1]
  have B9 : MB m (P.sI 9 0) S := h2.kp (li := [9]) (la := []) (Kp.rf.sI (by simp)) (by intro k hk; simp; omega) (by simp)
  unfold eX10_in
  by_cases c1 : k < 0
  · rw [if_pos c1] at hq ⊢
    exact ⟨fun z => absurd rfl z, fun _ => hq ha (MInv.of Ha B9 h3 h4)⟩
  · rw [if_neg c1] at hq ⊢
    by_cases c2 : nI S.tl < k
    · rw [if_neg (Int32.not_le.mpr c2)] at hq
      rw [if_pos c2]
      exact ⟨fun z => absurd rfl z, fun _ => hq ha (MInv.of Ha B9 h3 h4)⟩
    · rw [if_pos (Int32.not_lt.mp c2)] at hq
      rw [if_neg c2]
      refine ⟨fun _ => Ha.pI rfl (fun hb Hb => hq hb (MInv.of Hb ?_ h3 h4)), fun z => absurd z (by decide)⟩
      obtain ⟨j, hj, rfl⟩ := nI_of c1
      obtain ⟨b1, b2, b3, b4, b5, b6, b7, b8, b9⟩ := B9
      exact ⟨b1, b2, b3, b4, by rw [clamp hj]; rfl, b6.kp (li := [6]) (la := []) (Kp.rf.sI (by simp)) (by simp) (by simp) (by simp), b7, b8, b9⟩
theorem M_washes (H : MInv h0 h m S) (O : SOk S) (hq : ∀ h', MInv h0 h' m (o_washes S).2 → Q (some (.int (o_washes S).1)) h') : pz_V mX10_washes Ex Q d bc bs 0 [(0, .ref m)] [] h := by
  obtain ⟨t, P, h1, h2, h3, h4, -⟩ := H
  refine wX10_washes_0 (h1.pI rfl (fun ha Ha => (Ha.gI rfl).mpr (Ha.pI rfl (fun hb Hb => ?_))))
  rw [show (P.sI 9 0).I 33 = nI S.R.len from h2.2.2.2.2.2.2.2.1.1]
  refine hq hb (MInv.of Hb ?_ h3 h4)
  obtain ⟨b1, b2, b3, b4, b5, b6, b7, b8, b9⟩ := h2
  exact ⟨b1, b2, b3, b4, b5, b6.kp (li := [9, 33]) (la := []) ((Kp.rf.sI (by simp)).sI (by simp)) (by simp) (by simp) (by simp), b7, ⟨rfl, fun j hj => absurd hj (Nat.not_lt_zero j)⟩, b9⟩
theorem M_ring {l k v : Int32} (H : MInv h0 h m S) (O : SOk S) (hd : 2 ≤ d) (hq : ∀ h', MInv h0 h' m (o_ring l k v S).2 → Q (some (.int (o_ring l k v S).1)) h') : pz_V mX10_ring Ex Q d bc bs 0 [(0, .ref m), (1, .int l), (2, .int k), (3, .int v)] [] h := by
  obtain ⟨t, P, h1, h2, h3, h4, -⟩ := H
  have hn := O.1
  have h10 := O.2.2.2.1.1
  unfold o_ring at hq
  have B9 : MB m (P.sI 9 0) S := h2.kp (li := [9]) (la := []) (Kp.rf.sI (by simp)) (by intro k hk; simp; omega) (by simp)
  refine wX10_ring_0 hd (h1.pI rfl (fun ha Ha => ⟨Ha.is, (Ha.gI rfl).mpr ?_⟩))
  rw [B9.1, isLake_eq hn, in_eq, in_eq]
  refine ⟨fun c => by rw [if_pos c] at hq; exact hq ha (MInv.of Ha B9 h3 h4), fun c => ?_⟩
  rw [if_neg c] at hq
  refine ⟨fun c => by rw [if_pos c] at hq; exact hq ha (MInv.of Ha B9 h3 h4), fun c => ?_⟩
  rw [if_neg c] at hq
  refine ⟨fun c => by rw [if_pos c] at hq; exact hq ha (MInv.of Ha B9 h3 h4), fun c => (Ha.gI rfl).mpr ?_⟩
  rw [if_neg c] at hq
  have eL : (P.sI 9 0).I 33 = nI S.R.len := B9.2.2.2.2.2.2.2.1.1
  rw [eL]
  refine ⟨fun c => ?_, fun c => ?_⟩
  · have hlt : S.R.len < 10 := by
      rcases Nat.lt_or_ge S.R.len 10 with z | z
      · exact z
      · exact absurd (by rw [show S.R.len = 10 by omega]; rfl) c
    rw [if_pos hlt] at hq
    refine (Ha.gR rfl).mpr ((Ha.gI rfl).mpr (Ha.sI (j := 17) (q := S.R.len) rfl eL (by omega) (fun hb Hb => ?_)))
    refine (Hb.gR rfl).mpr ((Hb.gI rfl).mpr (Hb.sI (j := 18) (q := S.R.len) rfl eL (by omega) (fun hc Hc => ?_)))
    refine (Hc.gR rfl).mpr ((Hc.gI rfl).mpr (Hc.sI (j := 19) (q := S.R.len) rfl eL (by omega) (fun he He => ?_)))
    refine (He.gI rfl).mpr (He.pI rfl (fun hf Hf => (Hf.gI rfl).mpr ?_))
    have e2 : nI S.R.len + 1 = nI (S.R.len + 1) := nI_1 _
    have eF : ((P.sI 9 0).sA 17 (upd (P.A 17) S.R.len l) |>.sA 18 (upd (P.A 18) S.R.len k) |>.sA 19 (upd (P.A 19) S.R.len v) |>.sI 33 ((P.I 33) + 1)).I 33 = nI (S.R.len + 1) := by
      show P.I 33 + 1 = _
      rw [show P.I 33 = nI S.R.len from eL, e2]
    refine (congrArg (fun z => Q (some (.int z)) hf) eF).mpr (hq hf (MInv.of Hf ?_ h3 h4))
    obtain ⟨b1, b2, b3, b4, b5, b6, b7, b8, b9⟩ := B9
    refine ⟨b1, b2, b3, b4, b5, b6.kp (li := [33]) (la := [17, 18, 19]) ((((Kp.rf.sA (by simp)).sA (by simp)).sA (by simp)).sI (by simp)) (by simp) (by simp) (by simp), b7, ⟨eF, fun j hj => ?_⟩, b9⟩
    show upd (P.A 17) S.R.len l j = upd S.R.la S.R.len l j ∧ upd (P.A 18) S.R.len k j = upd S.R.da S.R.len k j ∧ upd (P.A 19) S.R.len v j = upd S.R.le S.R.len v j
    unfold upd
    by_cases e : j = S.R.len
    · rw [if_pos e, if_pos e, if_pos e, if_pos e, if_pos e, if_pos e]
      exact ⟨rfl, rfl, rfl⟩
    · rw [if_neg e, if_neg e, if_neg e, if_neg e, if_neg e, if_neg e]
      have hj : j < S.R.len + 1 := hj
      exact b8.2 j (by omega)
  · have hlt : ¬ S.R.len < 10 := fun z => by
      have := (nI_inj' (b := 10) (by omega) (by decide)).mp c
      omega
    rw [if_neg hlt] at hq
    exact hq ha (MInv.of Ha B9 h3 h4)
/-! what is kept for undo -/
theorem m_remember {j n : Nat} {V : pW} {U : List pW} (hj : arrN j = some 33) (hj11 : j ≠ 11) (H : MI h0 h m P) (hU : UndR P n U) (hl : U.length ≤ 12) (hn : n ≤ 6) (hV : NowR n (P.A j) V) (hd : 1 ≤ d) (hq : ∀ h' P', MI h0 h' m P' → Kp [22] [11] P P' → UndR P' n (pushU U V) → Q none h') : pz_V mX10_remember Ex Q d bc bs 0 [(0, .ref m), (1, .ref (m + j))] [] h := by
  have tail : ∀ (h1 : pz_H) (P1 : pM) (U1 : List pW), MI h0 h1 m P1 → Kp [22] [11] P P1 → P1.I 22 = nI U1.length → U1.length ≤ 11 → (∀ k W, U1[k]? = some W → NowR n (fun i => P1.A 11 (33 * k + i)) W) → U1 ++ [V] = pushU U V →
      pz_gR h1 m 10 21 (fun (a2 : Nat) => pz_gI h1 m 10 22 (fun (x3 : Int32) => pz_kv mX10_lay 0 0 0 ([.ref (m + j), .ref a2, .int (((33 : Int32)) * x3)]) h1 (fun (h4 : pz_H) => pz_gI h4 m 10 22 (fun (x5 : Int32) => pz_pF h4 m 10 22 (.int (x5 + ((1 : Int32)))) (fun (h6 : pz_H) => Q none h6))))) := by
    intro h1 P1 U1 H1 K1 e22 hl1 hU1 ep
    refine (H1.gR rfl).mpr ((H1.gI rfl).mpr ?_)
    rw [e22, show (33 : Int32) * nI U1.length = nI (33 * U1.length) from pk_mul 33 _]
    refine m_lay (j1 := j) (j2 := 11) (N2 := 396) (off := 33 * U1.length) H1 hj rfl hj11 (by omega) (fun h2 H2 => ⟨rfl, (H2.gI rfl).mpr (H2.pI rfl (fun h3 H3 => hq h3 _ H3 ((K1.sA (by simp)).sI (by simp)) ?_))⟩)
    rw [← ep]
    have ej : P1.A j = P.A j := K1.2.1 j (by simpa using hj11)
    refine ⟨?_, fun k W hk => ?_⟩
    · show P1.I 22 + 1 = _
      rw [e22, nI_1, List.length_append]
      rfl
    · show NowR n (fun i => va_cpy (P1.A j) (P1.A 11) 0 (33 * U1.length) 33 (33 * k + i)) W
      rcases Nat.lt_or_ge k U1.length with c | c
      · rw [List.getElem?_append_left c] at hk
        refine NowR.cg (hU1 k W hk) hn (fun i hi => ?_)
        exact pk_cpy_out (by omega)
      · rw [List.getElem?_append_right c] at hk
        have c2 : k = U1.length := by
          rcases Nat.eq_zero_or_pos (k - U1.length) with z | z
          · omega
          · rw [List.getElem?_eq_none (by simp; omega)] at hk
            cases hk
        subst c2
        rw [Nat.sub_self] at hk
        have hk : some V = some W := hk
        cases hk
        refine NowR.cg hV hn (fun i hi => ?_)
        show va_cpy (P1.A j) (P1.A 11) 0 (33 * U1.length) 33 (33 * U1.length + i) = P.A j i
        rw [cpy_in hi, ej]
  refine wX10_remember_0 hd ((H.gI rfl).mpr ?_)
  rw [hU.1]
  refine ⟨fun hc => tail h P U H Kp.rf hU.1 ?_ hU.2 ?_, fun hc => ?_⟩
  · rcases Nat.lt_or_ge U.length 12 with z | z
    · omega
    · exact absurd (by rw [show U.length = 12 by omega]; rfl) hc
  · unfold pushU
    rw [if_neg (fun z => hc (by rw [z]; rfl))]
  · have h12 : U.length = 12 := (nI_inj' (b := 12) (by omega) (by decide)).mp hc
    suffices G : ∀ f i (h1 : pz_H), i + f = 363 → MI h0 h1 m (P.sA 11 (fa_fill (fun q => P.A 11 (q + 33)) (P.A 11) i)) → pz_V mX10_remember Ex Q d bc bs 11 [(0, .ref m), (1, .ref (m + j)), (2, .int (nI i))] [] h1 from G 363 0 h rfl (by rw [fa_fill_0, sA_self]; exact H)
    intro f
    induction f with
    | zero =>
      intro i h1 hi H1
      have e : i = 363 := hi
      subst e
      refine wX10_remember_11 hd ⟨fun _ => (H1.gI rfl).mpr (H1.pI rfl (fun h2 H2 => ?_)), fun y => absurd (nI_le (a := 363) (Nat.le_refl _) (by decide)) y⟩
      have ht : U.tail.length = 11 := by rw [List.length_tail]; omega
      refine tail h2 _ U.tail H2 ((Kp.rf.sA (by simp)).sI (by simp)) ?_ (by omega) (fun k W hk => ?_) ?_
      · show P.I 22 - 1 = _
        rw [hU.1, h12, ht]
        rfl
      · have hk11 : k < 11 := by
          rcases Nat.lt_or_ge k 11 with z | z
          · exact z
          · rw [List.getElem?_eq_none (by omega)] at hk
            cases hk
        rw [List.getElem?_tail] at hk
        refine NowR.cg (hU.2 (k + 1) W hk) hn (fun i hi => ?_)
        show fa_fill (fun q => P.A 11 (q + 33)) (P.A 11) 363 (33 * k + i) = P.A 11 (33 * (k + 1) + i)
        rw [fa_fill_in (by omega)]
        congr 1
        omega
      · unfold pushU
        rw [if_pos h12]
    | succ f ih =>
      intro i h1 hi H1
      refine wX10_remember_11 hd ⟨fun y => absurd y (nI_ge (b := 363) (by omega) (by decide)), fun _ => (H1.gR rfl).mpr ((H1.gR rfl).mpr ((H1.rI (j := 11) (q := i + 33) rfl (nI_add i 33) (by omega)).mpr (H1.sI (j := 11) (q := i) rfl rfl (by omega) (fun h2 H2 => ?_))))⟩
      rw [nI_1]
      refine ih (i + 1) h2 (by omega) ?_
      rw [sA_sA] at H2
      have e : upd (fa_fill (fun q => P.A 11 (q + 33)) (P.A 11) i) i (fa_fill (fun q => P.A 11 (q + 33)) (P.A 11) i (i + 33)) = fa_fill (fun q => P.A 11 (q + 33)) (P.A 11) (i + 1) := by
        rw [fa_fill_out (show i ≤ i + 33 by omega)]
        exact fa_fill_succ (fun q => P.A 11 (q + 33)) (P.A 11) i
      have H2 : MI h0 h2 m (P.sA 11 (upd (fa_fill (fun q => P.A 11 (q + 33)) (P.A 11) i) i (fa_fill (fun q => P.A 11 (q + 33)) (P.A 11) i (i + 33)))) := H2
      rw [e] at H2
      exact H2
/-! days of the water itself -/
theorem m_nday (H : MI h0 h m P) (B : MB m P S) (h3 : P.I 27 = -1) (hn : S.n ≤ 6) (hD : DnOk S.n S.dn) (hR : Rg S.n S.br S.W) (hd : 82 ≤ d) (q : ∀ h' P', MI h0 h' m P' → MB m P' (S.sW (dayW S.rv S.br S.dn S.n S.W)) → Kp [10, 11, 12, 13, 14, 19] [10, 14, 15, 1] P P' → Q none h') : pz_V mX10_goDay Ex Q d bc bs 0 [(0, .ref m), (1, .ref (m + 1))] [] h := by
  have D : DayOk m P S.n S.br S.dn S.rv S.W := by
    refine ⟨B.1, hn, fun i hi => ?_, hD, B.2.2.2.2.2.1⟩
    obtain ⟨b1, b2, b3⟩ := B.2.1 i hi
    rw [b1, b2, b3, h3, if_neg (ni_m1 (by omega)), Int32.add_zero]
    exact ⟨rfl, rfl, rfl⟩
  refine m_goDay (j := 1) rfl (Or.inl rfl) H D B.2.2.1 hR hd (fun h' P' H' K' _ HN => q h' P' H' ?_ K')
  have K2 := K'
  obtain ⟨b1, b2, b3, b4, b5, b6, b7, b8, b9⟩ := B
  refine ⟨(K'.1 1 (by decide)).trans b1, ?_, HN, ?_, (K'.1 6 (by decide)).trans b5, b6.kp K' (by decide) (by decide) (by decide), ?_, ?_, ?_⟩
  · rw [K'.2.1 2 (by decide), K'.2.1 3 (by decide), K'.2.1 4 (by decide)]; exact b2
  · rw [K'.2.1 5 (by decide)]; exact b4
  · unfold UndR
    rw [K'.1 22 (by decide), K'.2.1 11 (by decide)]; exact b7
  · unfold RgR
    rw [K'.1 33 (by decide), K'.2.1 17 (by decide), K'.2.1 18 (by decide), K'.2.1 19 (by decide)]; exact b8
  · unfold KeR
    rw [K'.1 39 (by decide), K'.2.1 24 (by decide), K'.2.1 25 (by decide), K'.2.1 26 (by decide)]; exact b9
theorem m_ndays {k : Nat} (H : MI h0 h m P) (B : MB m P S) (h3 : P.I 27 = -1) (hn : S.n ≤ 6) (hD : DnOk S.n S.dn) (hR : Rg S.n S.br S.W) (hk : k < 2 ^ 31) (hd : 83 ≤ d) (q : ∀ h' P', MI h0 h' m P' → MB m P' (S.sW (daysW S.rv S.br S.dn S.n k S.W)) → Kp [10, 11, 12, 13, 14, 19] [10, 14, 15, 1] P P' → Q none h') : pz_V mX10_goDays Ex Q d bc bs 0 [(0, .ref m), (1, .ref (m + 1)), (2, .int (nI k))] [] h := by
  refine wX10_goDays_0 hd ?_
  suffices G : ∀ f i (h' : pz_H) (P' : pM), i + f = k → MI h0 h' m P' → MB m P' (S.sW (daysW S.rv S.br S.dn S.n i S.W)) → Kp [10, 11, 12, 13, 14, 19] [10, 14, 15, 1] P P' → pz_V mX10_goDays Ex Q d bc bs 2 [(0, .ref m), (1, .ref (m + 1)), (2, .int (nI k)), (3, .int (nI i))] [] h' from G k 0 h P (Nat.zero_add _) H B Kp.rf
  intro f
  induction f with
  | zero =>
    intro i h' P' hi H' B' K'
    have e : i = k := hi
    subst e
    exact wX10_goDays_2 hd ⟨fun _ => q h' P' H' B' K', fun hc => absurd (nI_le (Nat.le_refl _) (by omega)) hc⟩
  | succ f ih =>
    intro i h' P' hi H' B' K'
    refine wX10_goDays_2 hd ⟨fun hc => absurd hc (nI_ge (by omega) (by omega)), fun _ => ⟨H'.is, m_nday (S := S.sW (daysW S.rv S.br S.dn S.n i S.W)) H' B' ((K'.1 27 (by decide)).trans h3) hn hD (hR.days hn i) (Nat.le_refl _) (fun h2 P2 H2 B2 K2 => ⟨rfl, ?_⟩)⟩⟩
    rw [nI_1]
    exact ih (i + 1) h2 P2 (by omega) H2 B2 (K'.tr K2)
theorem i0le {x : Int32} {b : Int} (h : Bt x 0 b) : ¬ x < 0 := by
  rw [lt_i]
  have := h.1
  have e0 : (0 : Int32).toInt = 0 := by decide
  omega
theorem nI_popc (s : Nat) : ¬ nI (popc s) < 0 := nI_pos (by
  have : popc s ≤ 6 := by
    unfold popc
    exact Nat.le_trans (List.length_filter_le _ _) (by simp)
  omega)
theorem M_days {k : Int32} (H : MInv h0 h m S) (O : SOk S) (hd : 84 ≤ d) (hq : ∀ h', MInv h0 h' m (o_days k S).2 → Q (some (.int (o_days k S).1)) h') : pz_V mX10_days Ex Q d bc bs 0 [(0, .ref m), (1, .int k)] [] h := by
  obtain ⟨t, P, h1, h2, h3, h4, -⟩ := H
  have hn := O.1
  have hR := O.2.2.1.2.1
  have hD := O.2.2.2.2.1
  have B9 : MB m (P.sI 9 0) S := h2.kp (li := [9]) (la := []) (Kp.rf.sI (by simp)) (by intro k hk; simp; omega) (by simp)
  unfold o_days o_act actW at hq
  rw [if_pos (show (110 : Int32).toInt = 110 by decide)] at hq
  dsimp only at hq
  refine wX10_days_0 hd (h1.pI rfl (fun ha Ha => ?_))
  rw [in_eq]
  refine ⟨fun hc => ?_, fun hc => ?_⟩
  · rw [if_neg hc] at hq
    obtain ⟨k, hk, rfl⟩ := (within_0 (hi := 60) (by decide)).mp hc
    rw [clamp (by omega)] at hq
    dsimp only at hq
    have bs_ : Bt (sumI (daysW S.rv S.br S.dn S.n k S.W).lv S.n) 0 594 := (sumI_Bt hn (fun i hi => (hR.days (rv := S.rv) (dn := S.dn) hn k).lv hi) S.n (Nat.le_refl _)).mono (by omega) (by omega)
    -- behind the remembering
    have fin : ∀ (h5 : pz_H) (P5 : pM) (U' : List pW), MI h0 h5 m P5 → MB m P5 (S.sU U') → (P5.I 27 = -1 ∧ P5.ru = gh h0 m) → (∀ h', MInv h0 h' m (((S.sU U').sW (daysW S.rv S.br S.dn S.n k S.W)).sRw [((daysW S.rv S.br S.dn S.n k S.W).sp - S.W.sp).toInt64, ((daysW S.rv S.br S.dn S.n k S.W).dr - S.W.dr).toInt64]) → Q (some (.int (sumI (daysW S.rv S.br S.dn S.n k S.W).lv S.n))) h') → pz_V mX10_days Ex Q d bc bs 29 [(0, .ref m), (1, .int (nI k))] [] h5 := by
      intro h5 P5 U' H5 B5 e27 hq5
      have eN := B5.2.2.1
      refine wX10_days_29 hd ((H5.gR rfl).mpr ((H5.rI (j := 1) (i := 31) (q := 31) rfl rfl (by decide)).mpr ((H5.gR rfl).mpr ((H5.rI (j := 1) (i := 32) (q := 32) rfl rfl (by decide)).mpr ((H5.gR rfl).mpr ⟨H5.is, m_ndays (S := S.sU U') H5 B5 e27.1 hn hD hR (by omega) (Nat.le_refl _) (fun h6 P6 H6 B6 K6 => ⟨rfl, ?_⟩)⟩)))))
      rw [show P5.A 1 31 = S.W.sp from eN.2.2.1, show P5.A 1 32 = S.W.dr from eN.2.2.2.1]
      refine H6.pI rfl (fun h7 H7 => ?_)
      have W7 : MW h0 h7 m ((S.sU U').sW (daysW S.rv S.br S.dn S.n k S.W)) (scr (P6.sI 8 0)) none (-1) (P6.I 28) [] := ⟨_, H7, B6.kp (li := [8]) (la := []) (Kp.rf.sI (by simp)) (by intro k hk; simp; omega) (by simp), trivial, (K6.1 27 (by decide)).trans e27.1, rfl, ⟨rfl, fun i hi => absurd hi (Nat.not_lt_zero i)⟩, rfl, K6.2.2.2.trans e27.2⟩
      refine (W7.g rfl).mpr (W7.rNs.mpr ⟨W7.is, W7.tell (by decide) (fun h8 W8 => ⟨rfl, (W8.g rfl).mpr (W8.rNr.mpr ⟨W8.is, W8.tell (by simp) (fun h9 W9 => ⟨rfl, (W9.g rfl).mpr ⟨W9.is, ?_⟩⟩)⟩)⟩)⟩)
      obtain ⟨P9, g1, g2, g3, g4, g5, g6, g7⟩ := W9
      refine m_sumOf (j := 1) (N := 33) (o := 0) g1 rfl g2.1 (by show 0 + S.n ≤ 33; omega) ⟨_, rfl, ?_⟩
      rw [sumI_congr (g := (daysW S.rv S.br S.dn S.n k S.W).lv) (fun i hi => by rw [Nat.zero_add]; exact (g2.2.2.1.1 i hi).1)]
      exact hq5 h9 (MInv.of g1 g2 ⟨g4, g7.2⟩ g6)
    refine ⟨fun hz => ?_, fun hz => ?_⟩
    · have k0 : k = 0 := by
        rcases Nat.eq_zero_or_pos k with z | z
        · exact z
        · exact absurd hz (nI_nle z (by omega))
      subst k0
      rw [if_pos (Or.inr ⟨rfl, rfl⟩)] at hq
      dsimp only at hq
      rw [if_neg (i0le bs_)] at hq
      exact fin ha _ S.U Ha B9 h3 hq
    · have k0 : 0 < k := by
        rcases Nat.eq_zero_or_pos k with z | z
        · exact absurd (by rw [z]; decide) hz
        · exact z
      rw [if_neg (show ¬ (sumI (daysW S.rv S.br S.dn S.n k S.W).lv S.n < 0 ∨ (110 : Int32) = 110 ∧ nI k = 0) from fun z => z.elim (i0le bs_) (fun y => nI_ne0 k0 (by omega) y.2))] at hq
      dsimp only at hq
      rw [if_neg (i0le bs_)] at hq
      refine (Ha.gR rfl).mpr ⟨Ha.is, m_remember (j := 1) (n := S.n) (V := S.W) (U := S.U) rfl (by decide) Ha B9.2.2.2.2.2.2.1 O.2.2.2.2.2.1 hn B9.2.2.1 (Nat.le_refl _) (fun h5 P5 H5 K5 U5 => ⟨rfl, fin h5 P5 _ H5 (B9.und K5 U5) ⟨(K5.1 27 (by decide)).trans h3.1, K5.2.2.2.trans h3.2⟩ hq⟩)⟩
  · rw [if_pos hc] at hq
    dsimp only at hq
    rw [if_pos (Or.inl (by decide))] at hq
    dsimp only at hq
    rw [if_pos (by decide)] at hq
    exact hq ha (MInv.of Ha B9 h3 h4)
/-- a row that is untouched -/
theorem RowM.kp {P P' : pM} {rw : List Int64} {li la : List Nat} (H : RowM P rw) (K : Kp li la P P') (h1 : 8 ∉ li) (h2 : 6 ∉ la) : RowM P' rw := ⟨(K.1 8 h1).trans H.1, by rw [K.2.2.1 6 h2]; exact H.2⟩
theorem M_touch {l out kind : Int32} (H : MInv h0 h m S) (O : SOk S) (hd : 3 ≤ d) (hk : kind = 112 ∧ out = 1 ∨ kind = 115 ∧ out = 0) (hq : ∀ h', MInv h0 h' m (o_act kind l 0 S).2 → Q (some (.int (o_act kind l 0 S).1)) h') : pz_V mX10_touches Ex Q d bc bs 0 [(0, .ref m), (1, .int l), (2, .int out)] [] h := by
  obtain ⟨t, P, h1, h2, h3, h4, -⟩ := H
  have hn := O.1
  have ho := O.2.2.1.2.2.1
  have B9 : MB m (P.sI 9 0) S := h2.kp (li := [9]) (la := []) (Kp.rf.sI (by simp)) (by intro k hk; simp; omega) (by simp)
  have spec : actW S.rv S.br S.dn S.n kind l 0 S.W = if eX1_has l (nI S.n) = 0 then (-1, S.W) else if (if S.W.ou.testBit l.toNatClampNeg then (1 : Int32) else 0) = out then (-2, S.W) else (nI (popc (S.W.ou ^^^ 2 ^ l.toNatClampNeg)), S.W.sOu (S.W.ou ^^^ 2 ^ l.toNatClampNeg)) := by
    unfold actW
    rcases hk with ⟨e1, e2⟩ | ⟨e1, e2⟩
    · subst e1 e2
      rw [if_neg (by decide), if_pos (show (112 : Int32).toInt = 112 by decide)]
      cases S.W.ou.testBit l.toNatClampNeg <;> simp
    · subst e1 e2
      rw [if_neg (by decide), if_neg (show ¬ (115 : Int32).toInt = 112 by decide), if_pos (show (115 : Int32).toInt = 115 by decide)]
      cases S.W.ou.testBit l.toNatClampNeg <;> simp
  have nk : ¬ (kind = 110 ∧ l = 0) := fun z => by
    rcases hk with ⟨e1, e2⟩ | ⟨e1, e2⟩
    · rw [e1] at z; exact absurd z.1 (by decide)
    · rw [e1] at z; exact absurd z.1 (by decide)
  unfold o_act at hq
  dsimp only at hq
  rw [spec] at hq
  refine wX10_touches_0 hd (h1.pI rfl (fun ha Ha => ⟨Ha.is, wX10_refusesPlug_0 (Nat.le_refl _) ⟨Ha.is, (Ha.gI rfl).mpr ?_⟩⟩))
  rw [B9.1, isLake_eq hn]
  refine ⟨fun hc => ?_, fun hc => ⟨_, rfl, ⟨fun z => absurd z (by decide), fun _ => ?_⟩⟩⟩
  · rw [if_neg hc] at hq
    obtain ⟨i, hi, rfl⟩ := (has_0 hn).mp hc
    rw [clamp (by omega)] at hq
    refine (Ha.gR rfl).mpr ((Ha.rI (j := 1) (i := 6 + nI i) (q := 6 + i) rfl (nI_add 6 i) (by omega)).mpr ?_)
    rw [(B9.2.2.1.1 i hi).2.1]
    refine ⟨fun hx => ⟨_, rfl, ⟨fun _ => ?_, fun z => absurd (by decide) z⟩⟩, fun hx => ⟨_, rfl, ⟨fun z => absurd z (by decide), fun _ => ?_⟩⟩⟩
    · rw [if_neg hx] at hq
      dsimp only at hq
      rw [if_neg (fun z => z.elim (nI_popc _) nk)] at hq
      dsimp only at hq
      refine (Ha.gR rfl).mpr ⟨Ha.is, m_remember (j := 1) (n := S.n) (V := S.W) (U := S.U) rfl (by decide) Ha B9.2.2.2.2.2.2.1 O.2.2.2.2.2.1 hn B9.2.2.1 (Nat.le_refl _) (fun h5 P5 H5 K5 U5 => ⟨rfl, (H5.gR rfl).mpr (H5.sI (j := 1) (i := 6 + nI i) (q := 6 + i) rfl (nI_add 6 i) (by omega) (fun h7 H7 => (H7.gR rfl).mpr ⟨H7.is, ?_⟩))⟩)⟩
      have B5 := B9.und K5 U5
      have B7 : MB m (P5.sA 1 (upd (P5.A 1) (6 + i) out)) ((S.sU (pushU S.U S.W)).sW (S.W.sOu (S.W.ou ^^^ 2 ^ i))) := by
        refine B5.now (B5.2.2.1.sOu (o := S.W.ou ^^^ 2 ^ i) hn hi (Nat.xor_lt_two_pow ho (Nat.pow_lt_pow_right (by decide) hi)) ?_ (fun q hq => ?_)) (fun _ _ => rfl)
        · rw [Nat.testBit_xor, Nat.testBit_two_pow]
          rcases hk with ⟨e1, e2⟩ | ⟨e1, e2⟩
          · rw [e2] at hx ⊢
            cases hb : S.W.ou.testBit i
            · simp
            · rw [hb] at hx; exact absurd rfl hx
          · rw [e2] at hx ⊢
            cases hb : S.W.ou.testBit i
            · rw [hb] at hx; exact absurd rfl hx
            · simp
        · show (S.W.ou ^^^ 2 ^ i).testBit q = S.W.ou.testBit q
          rw [Nat.testBit_xor, Nat.testBit_two_pow]
          simp [show ¬ i = q by omega]
      have hlt : S.W.ou ^^^ 2 ^ i < 2 ^ S.n := Nat.xor_lt_two_pow ho (Nat.pow_lt_pow_right (by decide) hi)
      refine m_outOnes (j := 1) (n := S.n) H7 rfl B7.1 hn (ou := S.W.ou ^^^ 2 ^ i) hlt (fun q hq => (B7.2.2.1.1 q hq).2.1) ⟨_, rfl, t_bitCount (Nat.lt_of_lt_of_le hlt (pow_le64 hn)) ⟨_, rfl, hq h7 (MInv.of H7 B7 ⟨(K5.1 27 (by decide)).trans h3.1, K5.2.2.2.trans h3.2⟩ ?_)⟩⟩
      exact h4.kp (li := [9, 22]) (la := [1, 11]) (((Kp.rf.sI (by simp)).tr (K5.mono (by simp) (by simp))).sA (by simp)) (by simp) (by simp)
    · rw [if_pos hx] at hq
      dsimp only at hq
      rw [if_pos (Or.inl (by decide))] at hq
      exact hq ha (MInv.of Ha B9 h3 h4)
  · rw [if_pos hc] at hq
    dsimp only at hq
    rw [if_pos (Or.inl (by decide))] at hq
    exact hq ha (MInv.of Ha B9 h3 h4)
theorem M_pulls {l : Int32} (H : MInv h0 h m S) (O : SOk S) (hd : 4 ≤ d) (hq : ∀ h', MInv h0 h' m (o_act 112 l 0 S).2 → Q (some (.int (o_act 112 l 0 S).1)) h') : pz_V mX10_pulls Ex Q d bc bs 0 [(0, .ref m), (1, .int l)] [] h := by
  have hi := H
  obtain ⟨t, P, h1, -⟩ := hi
  exact wX10_pulls_0 hd ⟨h1.is, M_touch H O (Nat.le_refl _) (Or.inl ⟨rfl, rfl⟩) (fun h' H' => ⟨_, rfl, hq h' H'⟩)⟩
theorem M_stops {l : Int32} (H : MInv h0 h m S) (O : SOk S) (hd : 4 ≤ d) (hq : ∀ h', MInv h0 h' m (o_act 115 l 0 S).2 → Q (some (.int (o_act 115 l 0 S).1)) h') : pz_V mX10_stops Ex Q d bc bs 0 [(0, .ref m), (1, .int l)] [] h := by
  have hi := H
  obtain ⟨t, P, h1, -⟩ := hi
  exact wX10_stops_0 hd ⟨h1.is, M_touch H O (Nat.le_refl _) (Or.inr ⟨rfl, rfl⟩) (fun h' H' => ⟨_, rfl, hq h' H'⟩)⟩
theorem M_combs {l : Int32} (H : MInv h0 h m S) (O : SOk S) (hd : 3 ≤ d) (hq : ∀ h', MInv h0 h' m (o_act 99 l 0 S).2 → Q (some (.int (o_act 99 l 0 S).1)) h') : pz_V mX10_combs Ex Q d bc bs 0 [(0, .ref m), (1, .int l)] [] h := by
  obtain ⟨t, P, h1, h2, h3, h4, -⟩ := H
  have hn := O.1
  have hR := O.2.2.1.2.1
  have B9 : MB m (P.sI 9 0) S := h2.kp (li := [9]) (la := []) (Kp.rf.sI (by simp)) (by intro k hk; simp; omega) (by simp)
  have spec : actW S.rv S.br S.dn S.n 99 l 0 S.W = if eX1_has l (nI S.n) = 0 then (-1, S.W) else if S.W.hr l.toNatClampNeg = 0 then (-2, S.W) else (S.W.hr l.toNatClampNeg, S.W.sHr (upd S.W.hr l.toNatClampNeg 0)) := by
    unfold actW
    rw [if_neg (by decide), if_neg (show ¬ (99 : Int32).toInt = 112 by decide), if_neg (show ¬ (99 : Int32).toInt = 115 by decide), if_pos (show (99 : Int32).toInt = 99 by decide)]
  have nk : ¬ ((99 : Int32) = 110 ∧ l = 0) := fun z => absurd z.1 (by decide)
  unfold o_act at hq
  dsimp only at hq
  rw [spec] at hq
  refine wX10_combs_0 hd (h1.pI rfl (fun ha Ha => ⟨Ha.is, wX10_refusesComb_0 (Nat.le_refl _) ⟨Ha.is, (Ha.gI rfl).mpr ?_⟩⟩))
  rw [B9.1, isLake_eq hn]
  refine ⟨fun hc => ?_, fun hc => ⟨_, rfl, ⟨fun z => absurd z (by decide), fun _ => ?_⟩⟩⟩
  · rw [if_neg hc] at hq
    obtain ⟨i, hi, rfl⟩ := (has_0 hn).mp hc
    rw [clamp (by omega)] at hq
    refine (Ha.gR rfl).mpr ((Ha.rI (j := 1) (i := 12 + nI i) (q := 12 + i) rfl (nI_add 12 i) (by omega)).mpr ?_)
    rw [(B9.2.2.1.1 i hi).2.2.1]
    refine ⟨fun hx => ⟨_, rfl, ⟨fun _ => ?_, fun z => absurd (by decide) z⟩⟩, fun hx => ⟨_, rfl, ⟨fun z => absurd z (by decide), fun _ => ?_⟩⟩⟩
    · rw [if_neg hx] at hq
      dsimp only at hq
      rw [if_neg (fun z => z.elim (i0le (hR i hi).2.2.2.2) nk)] at hq
      dsimp only at hq
      refine (Ha.gR rfl).mpr ⟨Ha.is, m_remember (j := 1) (n := S.n) (V := S.W) (U := S.U) rfl (by decide) Ha B9.2.2.2.2.2.2.1 O.2.2.2.2.2.1 hn B9.2.2.1 (Nat.le_refl _) (fun h5 P5 H5 K5 U5 => ⟨rfl, (H5.gR rfl).mpr ((H5.rI (j := 1) (i := 12 + nI i) (q := 12 + i) rfl (nI_add 12 i) (by omega)).mpr ((H5.gR rfl).mpr (H5.sI (j := 1) (i := 12 + nI i) (q := 12 + i) rfl (nI_add 12 i) (by omega) (fun h7 H7 => ?_))))⟩)⟩
      have B5 := B9.und K5 U5
      rw [(B5.2.2.1.1 i hi).2.2.1]
      exact hq h7 (MInv.of H7 (B5.now (B5.2.2.1.sHr hn hi) (fun _ _ => rfl)) ⟨(K5.1 27 (by decide)).trans h3.1, K5.2.2.2.trans h3.2⟩ (h4.kp (li := [9, 22]) (la := [1, 11]) (((Kp.rf.sI (by simp)).tr (K5.mono (by simp) (by simp))).sA (by simp)) (by simp) (by simp)))
    · rw [if_pos hx] at hq
      dsimp only at hq
      rw [if_pos (Or.inl (by decide))] at hq
      exact hq ha (MInv.of Ha B9 h3 h4)
  · rw [if_pos hc] at hq
    dsimp only at hq
    rw [if_pos (Or.inl (by decide))] at hq
    exact hq ha (MInv.of Ha B9 h3 h4)
theorem ten_ge {x : Int32} {b : Int} (h : Bt x 0 b) (hb : b < 1000) : ¬ 10 + x < 0 := i0le (b := 10 + b) (((Bt.lit (n := 10) (by decide)).add h (by omega) (by omega)).mono (by omega) (by omega))
theorem M_taps {l v : Int32} (H : MInv h0 h m S) (O : SOk S) (hd : 4 ≤ d) (hq : ∀ h', MInv h0 h' m (o_act 116 l v S).2 → Q (some (.int (o_act 116 l v S).1)) h') : pz_V mX10_taps Ex Q d bc bs 0 [(0, .ref m), (1, .int l), (2, .int v)] [] h := by
  obtain ⟨t, P, h1, h2, h3, h4, -⟩ := H
  have hn := O.1
  have hR := O.2.2.1.2.1
  have B9 : MB m (P.sI 9 0) S := h2.kp (li := [9]) (la := []) (Kp.rf.sI (by simp)) (by intro k hk; simp; omega) (by simp)
  have spec : actW S.rv S.br S.dn S.n 116 l v S.W = if eX1_has l (nI S.n) = 0 then (-1, S.W) else if eX9_isWithin v 0 9 = 0 then (-1, S.W) else if S.W.tp l.toNatClampNeg = v then (-2, S.W) else (10 + S.W.tp l.toNatClampNeg, S.W.sTp (upd S.W.tp l.toNatClampNeg v)) := by
    unfold actW
    rw [if_neg (by decide), if_neg (show ¬ (116 : Int32).toInt = 112 by decide), if_neg (show ¬ (116 : Int32).toInt = 115 by decide), if_neg (show ¬ (116 : Int32).toInt = 99 by decide), if_pos (show (116 : Int32).toInt = 116 by decide)]
  have nk : ¬ ((116 : Int32) = 110 ∧ l = 0) := fun z => absurd z.1 (by decide)
  unfold o_act at hq
  dsimp only at hq
  rw [spec] at hq
  refine wX10_taps_0 hd ⟨h1.is, wX10_becomes_0 (Nat.le_refl _) (h1.pI rfl (fun ha Ha => ⟨Ha.is, wX10_refusesCell_0 (Nat.le_refl _) ⟨Ha.is, (Ha.gI rfl).mpr ?_⟩⟩))⟩
  rw [B9.1, isLake_eq hn, in_eq]
  refine ⟨fun hc => ⟨_, rfl, ⟨fun z => absurd z (by decide), fun _ => ⟨_, rfl, ?_⟩⟩⟩, fun hc => ⟨fun hc2 => ?_, fun hc2 => ⟨_, rfl, ⟨fun z => absurd z (by decide), fun _ => ⟨_, rfl, ?_⟩⟩⟩⟩⟩
  · rw [if_pos hc] at hq
    dsimp only at hq
    rw [if_pos (Or.inl (by decide))] at hq
    exact hq ha (MInv.of Ha B9 h3 h4)
  · rw [if_neg hc, if_neg hc2] at hq
    obtain ⟨i, hi, rfl⟩ := (has_0 hn).mp hc
    rw [clamp (by omega)] at hq
    refine (Ha.gR rfl).mpr ((Ha.rI (j := 1) (i := 18 + nI i) (q := 18 + i) rfl (nI_add 18 i) (by omega)).mpr ?_)
    rw [(B9.2.2.1.1 i hi).2.2.2.1]
    refine ⟨fun hx => ⟨_, rfl, ⟨fun _ => ?_, fun z => absurd (by decide) z⟩⟩, fun hx => ⟨_, rfl, ⟨fun z => absurd z (by decide), fun _ => ⟨_, rfl, ?_⟩⟩⟩⟩
    · rw [if_neg hx] at hq
      dsimp only at hq
      rw [if_neg (fun z => z.elim (ten_ge (hR i hi).2.2.1 (by decide)) nk)] at hq
      dsimp only at hq
      refine (Ha.gR rfl).mpr ⟨Ha.is, m_remember (j := 1) (n := S.n) (V := S.W) (U := S.U) rfl (by decide) Ha B9.2.2.2.2.2.2.1 O.2.2.2.2.2.1 hn B9.2.2.1 (Nat.le_refl _) (fun h5 P5 H5 K5 U5 => ⟨rfl, (H5.gR rfl).mpr ((H5.rI (j := 1) (i := 18 + nI i) (q := 18 + i) rfl (nI_add 18 i) (by omega)).mpr ((H5.gR rfl).mpr (H5.sI (j := 1) (i := 18 + nI i) (q := 18 + i) rfl (nI_add 18 i) (by omega) (fun h7 H7 => ⟨_, rfl, ?_⟩))))⟩)⟩
      have B5 := B9.und K5 U5
      rw [(B5.2.2.1.1 i hi).2.2.2.1]
      exact hq h7 (MInv.of H7 (B5.now (B5.2.2.1.sTp hn hi) (fun _ _ => rfl)) ⟨(K5.1 27 (by decide)).trans h3.1, K5.2.2.2.trans h3.2⟩ (h4.kp (li := [9, 22]) (la := [1, 11]) (((Kp.rf.sI (by simp)).tr (K5.mono (by simp) (by simp))).sA (by simp)) (by simp) (by simp)))
    · rw [if_pos hx] at hq
      dsimp only at hq
      rw [if_pos (Or.inl (by decide))] at hq
      exact hq ha (MInv.of Ha B9 h3 h4)
  · rw [if_neg hc, if_pos hc2] at hq
    dsimp only at hq
    rw [if_pos (Or.inl (by decide))] at hq
    exact hq ha (MInv.of Ha B9 h3 h4)
theorem M_gives {l v : Int32} (H : MInv h0 h m S) (O : SOk S) (hd : 4 ≤ d) (hq : ∀ h', MInv h0 h' m (o_act 103 l v S).2 → Q (some (.int (o_act 103 l v S).1)) h') : pz_V mX10_gives Ex Q d bc bs 0 [(0, .ref m), (1, .int l), (2, .int v)] [] h := by
  obtain ⟨t, P, h1, h2, h3, h4, -⟩ := H
  have hn := O.1
  have B9 : MB m (P.sI 9 0) S := h2.kp (li := [9]) (la := []) (Kp.rf.sI (by simp)) (by intro k hk; simp; omega) (by simp)
  have spec : actW S.rv S.br S.dn S.n 103 l v S.W = if eX1_has l (nI S.n) = 0 then (-1, S.W) else if eX9_isKing v = 0 then (-1, S.W) else if S.W.kg l.toNatClampNeg = v then (-2, S.W) else (10 + S.W.kg l.toNatClampNeg, S.W.sKg (upd S.W.kg l.toNatClampNeg v)) := by
    unfold actW
    rw [if_neg (by decide), if_neg (show ¬ (103 : Int32).toInt = 112 by decide), if_neg (show ¬ (103 : Int32).toInt = 115 by decide), if_neg (show ¬ (103 : Int32).toInt = 99 by decide), if_neg (show ¬ (103 : Int32).toInt = 116 by decide), if_pos (show (103 : Int32).toInt = 103 by decide)]
  have nk : ¬ ((103 : Int32) = 110 ∧ l = 0) := fun z => absurd z.1 (by decide)
  unfold o_act at hq
  dsimp only at hq
  rw [spec] at hq
  refine wX10_gives_0 hd ⟨h1.is, wX10_becomes_0 (Nat.le_refl _) (h1.pI rfl (fun ha Ha => ⟨Ha.is, wX10_refusesCell_0 (Nat.le_refl _) ⟨Ha.is, (Ha.gI rfl).mpr ?_⟩⟩))⟩
  rw [B9.1, isLake_eq hn, show eX10_in v 0 3 = eX9_isKing v from isKing_eq v]
  refine ⟨fun hc => ⟨_, rfl, ⟨fun z => absurd z (by decide), fun _ => ⟨_, rfl, ?_⟩⟩⟩, fun hc => ⟨fun hc2 => ?_, fun hc2 => ⟨_, rfl, ⟨fun z => absurd z (by decide), fun _ => ⟨_, rfl, ?_⟩⟩⟩⟩⟩
  · rw [if_pos hc] at hq
    dsimp only at hq
    rw [if_pos (Or.inl (by decide))] at hq
    exact hq ha (MInv.of Ha B9 h3 h4)
  · rw [if_neg hc, if_neg hc2] at hq
    obtain ⟨i, hi, rfl⟩ := (has_0 hn).mp hc
    rw [clamp (by omega)] at hq
    have bk : Bt (S.W.kg i) 0 3 := by
      obtain ⟨k, hk, e⟩ := (O.2.2.1.2.2.2 i hi).2.2
      rw [e]
      exact (Bt.lit (by omega)).mono (by omega) (by omega)
    refine (Ha.gR rfl).mpr ((Ha.rI (j := 1) (i := 24 + nI i) (q := 24 + i) rfl (nI_add 24 i) (by omega)).mpr ?_)
    rw [(B9.2.2.1.1 i hi).2.2.2.2]
    refine ⟨fun hx => ⟨_, rfl, ⟨fun _ => ?_, fun z => absurd (by decide) z⟩⟩, fun hx => ⟨_, rfl, ⟨fun z => absurd z (by decide), fun _ => ⟨_, rfl, ?_⟩⟩⟩⟩
    · rw [if_neg hx] at hq
      dsimp only at hq
      rw [if_neg (fun z => z.elim (ten_ge bk (by decide)) nk)] at hq
      dsimp only at hq
      refine (Ha.gR rfl).mpr ⟨Ha.is, m_remember (j := 1) (n := S.n) (V := S.W) (U := S.U) rfl (by decide) Ha B9.2.2.2.2.2.2.1 O.2.2.2.2.2.1 hn B9.2.2.1 (Nat.le_refl _) (fun h5 P5 H5 K5 U5 => ⟨rfl, (H5.gR rfl).mpr ((H5.rI (j := 1) (i := 24 + nI i) (q := 24 + i) rfl (nI_add 24 i) (by omega)).mpr ((H5.gR rfl).mpr (H5.sI (j := 1) (i := 24 + nI i) (q := 24 + i) rfl (nI_add 24 i) (by omega) (fun h7 H7 => ⟨_, rfl, ?_⟩))))⟩)⟩
      have B5 := B9.und K5 U5
      rw [(B5.2.2.1.1 i hi).2.2.2.2]
      exact hq h7 (MInv.of H7 (B5.now (B5.2.2.1.sKg hn hi) (fun _ _ => rfl)) ⟨(K5.1 27 (by decide)).trans h3.1, K5.2.2.2.trans h3.2⟩ (h4.kp (li := [9, 22]) (la := [1, 11]) (((Kp.rf.sI (by simp)).tr (K5.mono (by simp) (by simp))).sA (by simp)) (by simp) (by simp)))
    · rw [if_pos hx] at hq
      dsimp only at hq
      rw [if_pos (Or.inl (by decide))] at hq
      exact hq ha (MInv.of Ha B9 h3 h4)
  · rw [if_neg hc, if_pos hc2] at hq
    dsimp only at hq
    rw [if_pos (Or.inl (by decide))] at hq
    exact hq ha (MInv.of Ha B9 h3 h4)
end MS
