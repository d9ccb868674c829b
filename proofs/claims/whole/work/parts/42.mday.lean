/-! ===== the reference's small helpers, and a day ===== -/
theorem sA_self (P : pM) (j : Nat) : P.sA j (P.A j) = P := by
  show (P.I, up1 P.A j (P.A j), P.J, P.rd, P.ru) = P
  have : up1 P.A j (P.A j) = P.A := funext fun k => by
    unfold up1
    split
    · rename_i e; rw [e]
    · rfl
  rw [this]
theorem sA_sA (P : pM) (j : Nat) (f g : Nat → Int32) : (P.sA j f).sA j g = P.sA j g := by
  show (P.I, up1 (up1 P.A j f) j g, P.J, P.rd, P.ru) = (P.I, up1 P.A j g, P.J, P.rd, P.ru)
  have : up1 (up1 P.A j f) j g = up1 P.A j g := funext fun k => by
    unfold up1
    split <;> rfl
  rw [this]
theorem cpy_0 {f g : Nat → Int32} {o : Nat} : va_cpy f g 0 o 0 = g := funext fun k => if_neg (by omega)
theorem cpy_s {f g : Nat → Int32} {o i : Nat} : upd (va_cpy f g 0 o i) (o + i) (f i) = va_cpy f g 0 o (i + 1) := funext fun k => by
  unfold upd va_cpy
  by_cases e : k = o + i
  · subst e
    rw [if_pos rfl, if_pos (by omega)]
    congr 1
    omega
  · rw [if_neg e]
    by_cases c : o ≤ k ∧ k < o + i
    · rw [if_pos c, if_pos (by omega)]
    · rw [if_neg c, if_neg (by omega)]
theorem cpy_in {f g : Nat → Int32} {o i N : Nat} (h : i < N) : va_cpy f g 0 o N (o + i) = f i := by
  unfold va_cpy
  rw [if_pos (by omega)]
  congr 1
  omega
def NowR (n : Nat) (a : Nat → Int32) (W : pW) : Prop := (∀ i, i < n → a i = W.lv i ∧ a (6 + i) = (if W.ou.testBit i then 1 else 0) ∧ a (12 + i) = W.hr i ∧ a (18 + i) = W.tp i ∧ a (24 + i) = W.kg i) ∧ a 30 = W.dy ∧ a 31 = W.sp ∧ a 32 = W.dr ∧ W.ou < 2 ^ n
def RowM (P : pM) (rw : List Int64) : Prop := P.I 8 = nI rw.length ∧ ∀ i, i < rw.length → P.J 6 i = rw.getD i 0
/-- the rule in force is worth rv -/
def RuR (m : Nat) (P : pM) (rv : pRV) : Prop := ∃ (j rs : Nat) (rt : Nat → Nat), arrB j = some 40 ∧ P.ru = m + j ∧ P.I 18 = nI rs ∧ rs ≤ 40 ∧ TxB rs (P.A j) rt ∧ rdR rt rs = (none, rv)
theorem NowR.cg {n : Nat} {a b : Nat → Int32} {W : pW} (h : NowR n a W) (hn : n ≤ 6) (e : ∀ i, i < 33 → b i = a i) : NowR n b W := by
  obtain ⟨h1, h2, h3, h4, h5⟩ := h
  refine ⟨fun i hi => ?_, by rw [e _ (by decide), h2], by rw [e _ (by decide), h3], by rw [e _ (by decide), h4], h5⟩
  rw [e i (by omega), e (6 + i) (by omega), e (12 + i) (by omega), e (18 + i) (by omega), e (24 + i) (by omega)]
  exact h1 i hi
theorem vl_congr {sg : Nat → Int32} {f dp p : Nat} {r : pP} (h : prs sg f 0 dp p [] pZ = some r) (hok : r.ok = true) (hl : r.pt.length ≤ 40) {e e' : pEnv} (he : ∀ j, j < 6 → e j = e' j) : r.vl e = r.vl e' := by
  obtain ⟨s1, a1, a2, -⟩ := prs_ev e f 0 dp p [] pZ r (by decide) h hok (fun z => absurd z (by decide)) (fun _ => 0) 0 (by omega)
  obtain ⟨s2, b1, b2, -⟩ := prs_ev e' f 0 dp p [] pZ r (by decide) h hok (fun z => absurd z (by decide)) (fun _ => 0) 0 (by omega)
  have : ∀ L s, wlist e L s = wlist e' L s := by
    intro L
    induction L with
    | nil => intro s; rfl
    | cons q L ih =>
      intro s
      show wlist e L (wstep e q s) = wlist e' L (wstep e' q s)
      rw [wstep_congr he, ih]
  rw [this, b1] at a1
  have e9 : s2 = s1 := congrArg Prod.fst a1
  rw [← a2, ← b2, e9]
theorem any_nI (x : Int32) : ∃ k, x = nI k := ⟨x.toBitVec.toNat, by
  apply Int32.toBitVec_inj.mp
  apply BitVec.eq_of_toNat_eq
  simp [nI]⟩
theorem min_sw (a b : Int32) : (if a < b then a else b) = (if b < a then b else a) := by
  by_cases h1 : a < b
  · rw [if_pos h1, if_neg (by rw [lt_i] at h1 ⊢; omega)]
  · rw [if_neg h1]
    by_cases h2 : b < a
    · rw [if_pos h2]
    · rw [if_neg h2, eq_i]
      rw [lt_i] at h1 h2
      omega
section MH
variable {Ex : State → Nat → Prop} {Q : Option Value → pz_H → Prop} {d bc bs : Nat} {h0 h h' : pz_H} {m n : Nat} {P : pM} {rv : pRV} {br dn : Nat → Int32} {T : pW}
theorem m_lay {j1 j2 N2 off : Nat} (H : MI h0 h m P) (h1 : arrN j1 = some 33) (h2 : arrN j2 = some N2) (hne : j1 ≠ j2) (ho : off + 33 ≤ N2) (hq : ∀ h', MI h0 h' m (P.sA j2 (va_cpy (P.A j1) (P.A j2) 0 off 33)) → Q none h') : pz_V mX10_lay Ex Q d bc bs 0 [(0, .ref (m + j1)), (1, .ref (m + j2)), (2, .int (nI off))] [] h := by
  refine wX10_lay_0 ?_
  suffices G : ∀ k i h', i + k = 33 → MI h0 h' m (P.sA j2 (va_cpy (P.A j1) (P.A j2) 0 off i)) → pz_V mX10_lay Ex Q d bc bs 2 [(0, .ref (m + j1)), (1, .ref (m + j2)), (2, .int (nI off)), (3, .int (nI i))] [] h' from G 33 0 h rfl (by rw [cpy_0, sA_self]; exact H)
  intro k
  induction k with
  | zero =>
    intro i h' hi H'
    have e : i = 33 := hi
    subst e
    exact wX10_lay_2 ⟨fun _ => hq h' H', fun hc => absurd (nI_le (a := 33) (Nat.le_refl _) (by decide)) hc⟩
  | succ k ih =>
    intro i h' hi H'
    have b := arrN_b h2
    refine wX10_lay_2 ⟨fun hc => absurd hc (nI_ge (b := 33) (by omega) (by decide)), fun _ => (H'.rI (q := i) h1 rfl (by omega)).mpr ?_⟩
    refine H'.sI (q := off + i) h2 (nI_add off i) (by omega) (fun h2 H2 => ?_)
    rw [nI_1]
    refine ih (i + 1) h2 (by omega) ?_
    rw [sA_sA, show (P.sA j2 (va_cpy (P.A j1) (P.A j2) 0 off i)).A j2 = _ from up1_at _ _ _, show (P.sA j2 (va_cpy (P.A j1) (P.A j2) 0 off i)).A j1 = P.A j1 from up1_ne hne, cpy_s] at H2
    exact H2
theorem m_tell {len : Nat} {v : Int64} (H : MI h0 h m P) (hl : P.I 8 = nI len) (hlt : len < 16) (hq : ∀ h', MI h0 h' m ((P.sJ 6 (vp_updL (P.J 6) len v)).sI 8 (nI (len + 1))) → Q none h') : pz_V mX10_tell Ex Q d bc bs 0 [(0, .ref m), (1, .long v)] [] h := by
  refine wX10_tell_0 ((H.gR rfl).mpr ((H.gI rfl).mpr (H.sJ (q := len) rfl hl (by omega) (fun h1 H1 => (H1.gI rfl).mpr ?_))))
  rw [show (P.sJ 6 (vp_updL (P.J 6) len v)).I 8 = nI len from hl, nI_1]
  exact H1.pI rfl hq
theorem RowM.add {rw : List Int64} {v : Int64} (h : RowM P rw) : RowM ((P.sJ 6 (vp_updL (P.J 6) rw.length v)).sI 8 (nI (rw.length + 1))) (rw ++ [v]) := by
  refine ⟨by rw [List.length_append]; rfl, fun i hi => ?_⟩
  show vp_updL (P.J 6) rw.length v i = _
  simp at hi
  unfold vp_updL
  by_cases e : i = rw.length
  · subst e; simp
  · rw [if_neg e, h.2 i (by omega), List.getD_eq_getElem?_getD, List.getD_eq_getElem?_getD, List.getElem?_append_left (by omega)]
theorem m_sumOf {j N o : Nat} (H : MI h0 h m P) (hj : arrN j = some N) (hn : P.I 1 = nI n) (hN : o + n ≤ N) (hq : Q (some (.int (sumI (fun i => P.A j (o + i)) n))) h) : pz_V mX10_sumOf Ex Q d bc bs 0 [(0, .ref m), (1, .ref (m + j)), (2, .int (nI o))] [] h := by
  have b := arrN_b hj
  refine wX10_sumOf_0 ?_
  suffices G : ∀ k i, i + k = n → pz_V mX10_sumOf Ex Q d bc bs 5 [(0, .ref m), (1, .ref (m + j)), (2, .int (nI o)), (3, .int (sumI (fun i => P.A j (o + i)) i)), (4, .int (nI i))] [] h from G n 0 (Nat.zero_add n)
  intro k
  induction k with
  | zero =>
    intro i hi
    have e : i = n := hi
    subst e
    refine wX10_sumOf_5 ((H.gI rfl).mpr ?_)
    rw [hn]
    exact ⟨fun _ => hq, fun hc => absurd (nI_le (Nat.le_refl _) (by omega)) hc⟩
  | succ k ih =>
    intro i hi
    refine wX10_sumOf_5 ((H.gI rfl).mpr ?_)
    rw [hn]
    refine ⟨fun hc => absurd hc (nI_ge (by omega) (by omega)), fun _ => (H.rI (q := o + i) hj (nI_add o i) (by omega)).mpr ?_⟩
    rw [nI_1]
    exact ih (i + 1) (by omega)
theorem has10 : ∀ s, s < 64 → ∀ k, k < 6 → eX10_has (nI s) (nI k) = if s.testBit k then 1 else 0 := by decide +kernel
theorem has10_0 {s k : Nat} (hs : s < 64) (hk : k < 6) : eX10_has (nI s) (nI k) = 0 ↔ s.testBit k = false := by
  rw [has10 s hs k hk]
  cases s.testBit k <;> simp
theorem has10_t {s k : Nat} (hs : s < 64) (hk : k < 6) : ¬ eX10_has (nI s) (nI k) = 0 ↔ s.testBit k = true := by
  rw [has10_0 hs hk]
  cases s.testBit k <;> simp
theorem m_levelOf {j s : Nat} (H : MI h0 h m P) (hj : arrN j = some 33) (hn : P.I 1 = nI n) (hN : n ≤ 6) (hs : s < 64) (hd : 1 ≤ d) (hq : Q (some (.int (totS (P.A j) s n))) h) : pz_V mX10_levelOf Ex Q d bc bs 0 [(0, .ref m), (1, .ref (m + j)), (2, .int (nI s))] [] h := by
  refine wX10_levelOf_0 hd ?_
  suffices G : ∀ k i, i + k = n → pz_V mX10_levelOf Ex Q d bc bs 5 [(0, .ref m), (1, .ref (m + j)), (2, .int (nI s)), (3, .int (totS (P.A j) s i)), (4, .int (nI i))] [] h from G n 0 (Nat.zero_add n)
  intro k
  induction k with
  | zero =>
    intro i hi
    have e : i = n := hi
    subst e
    refine wX10_levelOf_5 hd ((H.gI rfl).mpr ?_)
    rw [hn]
    exact ⟨fun _ => hq, fun hc => absurd (nI_le (Nat.le_refl _) (by omega)) hc⟩
  | succ k ih =>
    intro i hi
    have g := ih (i + 1) (by omega)
    have e2 : totS (P.A j) s (i + 1) = totS (P.A j) s i + (if s.testBit i then P.A j i else 0) := rfl
    rw [e2] at g
    refine wX10_levelOf_5 hd ((H.gI rfl).mpr ?_)
    rw [hn]
    refine ⟨fun hc => absurd hc (nI_ge (by omega) (by omega)), fun _ => ⟨fun hb => ?_, fun hb => (H.rI (q := i) hj rfl (by omega)).mpr ?_⟩⟩
    · rw [(has10_0 hs (by omega)).mp hb] at g
      rw [nI_1]
      exact g
    · rw [(has10_t hs (by omega)).mp hb] at g
      rw [nI_1]
      exact g
theorem m_ownOf {j : Nat} {kn : Int32} (H : MI h0 h m P) (hj : arrN j = some 33) (hn : P.I 1 = nI n) (hN : n ≤ 6) (hq : Q (some (.int (nI (bitsOf (fun i => decide (P.A j (24 + i) = kn)) n)))) h) : pz_V mX10_ownOf Ex Q d bc bs 0 [(0, .ref m), (1, .ref (m + j)), (2, .int kn)] [] h := by
  refine wX10_ownOf_0 ?_
  suffices G : ∀ k i, i + k = n → pz_V mX10_ownOf Ex Q d bc bs 5 [(0, .ref m), (1, .ref (m + j)), (2, .int kn), (3, .int (nI (bitsOf (fun i => decide (P.A j (24 + i) = kn)) i))), (4, .int (nI i))] [] h from G n 0 (Nat.zero_add n)
  intro k
  induction k with
  | zero =>
    intro i hi
    have e : i = n := hi
    subst e
    refine wX10_ownOf_5 ((H.gI rfl).mpr ?_)
    rw [hn]
    exact ⟨fun _ => hq, fun hc => absurd (nI_le (Nat.le_refl _) (by omega)) hc⟩
  | succ k ih =>
    intro i hi
    have g := ih (i + 1) (by omega)
    refine wX10_ownOf_5 ((H.gI rfl).mpr ?_)
    rw [hn]
    refine ⟨fun hc => absurd hc (nI_ge (by omega) (by omega)), fun _ => (H.rI (q := 24 + i) hj (nI_add 24 i) (by omega)).mpr ?_⟩
    rw [nI_1, shl1 i (by omega), or_nI, or_nI0]
    refine ⟨fun hb => ?_, fun hb => ?_⟩
    · rw [bitsOf, if_neg (by simpa using hb), Nat.or_zero] at g
      exact g
    · rw [bitsOf, if_pos (by simpa using hb)] at g
      exact g
theorem m_dryOnes {j : Nat} (H : MI h0 h m P) (hj : arrN j = some 33) (hn : P.I 1 = nI n) (hN : n ≤ 6) (hq : Q (some (.int (nI (dryOf (P.A j) n)))) h) : pz_V mX10_dryOnes Ex Q d bc bs 0 [(0, .ref m), (1, .ref (m + j))] [] h := by
  refine wX10_dryOnes_0 ?_
  suffices G : ∀ k i, i + k = n → pz_V mX10_dryOnes Ex Q d bc bs 4 [(0, .ref m), (1, .ref (m + j)), (2, .int (nI (dryOf (P.A j) i))), (3, .int (nI i))] [] h from G n 0 (Nat.zero_add n)
  intro k
  induction k with
  | zero =>
    intro i hi
    have e : i = n := hi
    subst e
    refine wX10_dryOnes_4 ((H.gI rfl).mpr ?_)
    rw [hn]
    exact ⟨fun _ => hq, fun hc => absurd (nI_le (Nat.le_refl _) (by omega)) hc⟩
  | succ k ih =>
    intro i hi
    have g := ih (i + 1) (by omega)
    refine wX10_dryOnes_4 ((H.gI rfl).mpr ?_)
    rw [hn]
    refine ⟨fun hc => absurd hc (nI_ge (by omega) (by omega)), fun _ => (H.rI (q := i) hj rfl (by omega)).mpr ?_⟩
    rw [nI_1, shl1 i (by omega), or_nI, or_nI0]
    unfold dryOf at g ⊢
    refine ⟨fun hb => ?_, fun hb => ?_⟩
    · rw [bitsOf, if_neg (by simpa using hb), Nat.or_zero] at g
      exact g
    · rw [bitsOf, if_pos (by simpa using hb)] at g
      exact g
theorem shl01 : ∀ k, k < 31 → (0 : Int32) <<< (nI k &&& 31) = 0 := by decide +kernel
theorem bitsOf_ou {o n : Nat} (h : o < 2 ^ n) : bitsOf (fun i => o.testBit i) n = o := by
  apply Nat.eq_of_testBit_eq
  intro i
  rw [bitsOf_tb]
  by_cases hi : i < n
  · simp [hi]
  · simp [hi]
    rw [Nat.testBit_lt_two_pow (Nat.lt_of_lt_of_le h (Nat.pow_le_pow_right (by decide) (by omega)))]
theorem m_outOnes {j : Nat} (H : MI h0 h m P) (hj : arrN j = some 33) (hn : P.I 1 = nI n) (hN : n ≤ 6) {ou : Nat} (ho : ou < 2 ^ n) (hb : ∀ i, i < n → P.A j (6 + i) = if ou.testBit i then 1 else 0) (hq : Q (some (.int (nI ou))) h) : pz_V mX10_outOnes Ex Q d bc bs 0 [(0, .ref m), (1, .ref (m + j))] [] h := by
  refine wX10_outOnes_0 ?_
  suffices G : ∀ k i, i + k = n → pz_V mX10_outOnes Ex Q d bc bs 4 [(0, .ref m), (1, .ref (m + j)), (2, .int (nI (bitsOf (fun i => ou.testBit i) i))), (3, .int (nI i))] [] h from G n 0 (Nat.zero_add n)
  intro k
  induction k with
  | zero =>
    intro i hi
    have e : i = n := hi
    subst e
    refine wX10_outOnes_4 ((H.gI rfl).mpr ?_)
    rw [hn, bitsOf_ou ho]
    exact ⟨fun _ => hq, fun hc => absurd (nI_le (Nat.le_refl _) (by omega)) hc⟩
  | succ k ih =>
    intro i hi
    have g := ih (i + 1) (by omega)
    refine wX10_outOnes_4 ((H.gI rfl).mpr ?_)
    rw [hn]
    refine ⟨fun hc => absurd hc (nI_ge (by omega) (by omega)), fun _ => (H.rI (q := 6 + i) hj (nI_add 6 i) (by omega)).mpr ?_⟩
    rw [nI_1, hb i (by omega)]
    cases c : ou.testBit i
    · rw [if_neg (by decide), shl01 i (by omega), or_nI0]
      rw [bitsOf, c, if_neg (by decide), Nat.or_zero] at g
      exact g
    · rw [if_pos rfl, shl1 i (by omega), or_nI]
      rw [bitsOf, c, if_pos rfl] at g
      exact g
/-! the reader, over all cells -/
theorem m_begin {q : Nat} {le tp : Int32} (H : MI h0 h m P) (hq : ∀ h', MI h0 h' m (((((P.sD q).sI 11 le).sI 12 tp).sI 13 0).sI 14 (-1)) → Q none h') : pz_V mX10_begin Ex Q d bc bs 0 [(0, .ref m), (1, .ref q), (2, .int le), (3, .int tp)] [] h :=
  wX10_begin_0 (H.pD (fun _ H => H.pI rfl (fun _ H => H.pI rfl (fun _ H => H.pI rfl (fun _ H => H.pI rfl hq)))))
theorem MI.mob {q le p : Nat} (H : MI h0 h m P) (hd : P.rd = some q) (hl : P.I 11 = nI le) (ha : P.I 13 = nI p) : ∃ n ty rm rs um gm, (P.I 1 = nI n ∧ P.I 6 = nI ty ∧ P.I 8 = nI rm ∧ P.I 18 = nI rs ∧ P.I 22 = nI um ∧ P.I 33 = nI gm) ∧ Mob h m n ty rm (P.I 9) (some q) le (P.I 12) p (P.I 14) P.ru (m + 9) rs (P.I 19) um (P.I 27) (P.I 28) gm (P.I 38) (P.I 39) := by
  obtain ⟨n, e1⟩ := any_nI (P.I 1)
  obtain ⟨ty, e2⟩ := any_nI (P.I 6)
  obtain ⟨rm, e3⟩ := any_nI (P.I 8)
  obtain ⟨rs, e4⟩ := any_nI (P.I 18)
  obtain ⟨um, e5⟩ := any_nI (P.I 22)
  obtain ⟨gm, e6⟩ := any_nI (P.I 33)
  refine ⟨n, ty, rm, rs, um, gm, ⟨e1, e2, e3, e4, e5, e6⟩, ?_⟩
  have hh := H.2.1
  unfold mF at hh
  rw [e1, e2, e3, e4, e5, e6, hd, hl, ha] at hh
  exact hh
theorem MI.back {q le p n ty rm rs um gm : Nat} {w : Int32} (H : MI h0 h m P) (hd : P.rd = some q) (hl : P.I 11 = nI le) (he : P.I 1 = nI n ∧ P.I 6 = nI ty ∧ P.I 8 = nI rm ∧ P.I 18 = nI rs ∧ P.I 22 = nI um ∧ P.I 33 = nI gm) (hM : Mob h' m n ty rm (P.I 9) (some q) le (P.I 12) p w P.ru (m + 9) rs (P.I 19) um (P.I 27) (P.I 28) gm (P.I 38) (P.I 39)) (hF : Fr [m] h h') : MI h0 h' m ((P.sI 13 (nI p)).sI 14 w) := by
  obtain ⟨e1, e2, e3, e4, e5, e6⟩ := he
  refine ⟨⟨hF.1.trans H.1.1, fun b hb => (hF.2 b (by simp; omega)).trans (H.1.2 b hb)⟩, ?_, fun j h1 h2 => (hF.2 _ (by simp; omega)).trans (H.2.2 j h1 h2)⟩
  show h'.2 m = some (aO 10 (mF m ((P.sI 13 (nI p)).sI 14 w)))
  have : mF m ((P.sI 13 (nI p)).sI 14 w) = [.ref (m + 1), .int (P.I 1), .ref (m + 2), .ref (m + 3), .ref (m + 4), .ref (m + 5), .int (P.I 6), .ref (m + 6), .int (P.I 8), .int (P.I 9), va_rf P.rd, .int (P.I 11), .int (P.I 12), .int (nI p), .int w, .ref (m + 7), .ref P.ru, .ref (m + 9), .int (P.I 18), .int (P.I 19), .ref (m + 10), .ref (m + 11), .int (P.I 22), .ref (m + 12), .ref (m + 13), .ref (m + 14), .ref (m + 15), .int (P.I 27), .int (P.I 28), .ref (m + 16), .ref (m + 17), .ref (m + 18), .ref (m + 19), .int (P.I 33), .ref (m + 20), .ref (m + 21), .ref (m + 22), .ref (m + 23), .int (P.I 38), .int (P.I 39), .ref (m + 24), .ref (m + 25), .ref (m + 26)] := rfl
  rw [this, e1, e2, e3, e4, e5, e6, hd, hl]
  exact hM
theorem m_held {j N le : Nat} {tx : Nat → Nat} (H : MI h0 h m P) (hj : arrB j = some N) (hrd : P.rd = some (m + j)) (hl : P.I 11 = nI le) (hle : le ≤ N) (h12 : P.I 12 = 40) (h13 : P.I 13 = 0) (h14 : P.I 14 = -1) (hx : TxB le (P.A j) tx) (hd : 65 ≤ d)
    (hq : ∀ h' p' w' v, MI h0 h' m ((P.sI 13 (nI p')).sI 14 w') → ((parseS (sgn tx le 40)).ok = true → w' = -1 ∧ p' = (parseS (sgn tx le 40)).ps ∧ v = (parseS (sgn tx le 40)).vl (fun j => if P.I 19 = 0 then 0 else P.A 10 j)) → ((parseS (sgn tx le 40)).ok = false → w' = nI (parseS (sgn tx le 40)).ps ∧ p' ≤ 1000) → Q (some (.int v)) h') : pz_V mX10_held pz_T Q d bc bs 0 [(0, .ref m), (1, .int 0)] [] h := by
  have b := mC_B (P := P) hj
  have hN : N ≤ 80 := by
    unfold arrB at hj
    split at hj <;> first | (cases hj; decide) | cases hj
  obtain ⟨n, ty, rm, rs, um, gm, he, hM⟩ := H.mob (p := 0) hrd hl h13
  rw [h12, h14] at hM
  refine (m_read (tx := tx) (le := le) (N := N) (fb := P.A j) (as_ := P.A 10) (q := m + j) (m := m) hx hle hN (by omega) 334).1 0 0 h (parseS (sgn tx le 40)) Q d bc bs (parse_eq (sgk tx le)) (by decide) (by decide) hM (H.cB hj) (H.cI rfl) (by unfold costM; simp; omega) (fun h' p' w' v H' g1 g2 hF' => ?_)
  refine hq h' p' w' v (H.back (le := le) hrd hl he ?_ hF') g1 g2
  rw [h12]
  exact H'
theorem cl_lem (x l : Int32) : (if (0 : Int32) < (if x < l then x else l) then (if x < l then x else l) else 0) = cl0 l x := by
  unfold cl0
  rw [min_sw x l]
theorem m_runOf {j i : Nat} (hj : arrN j = some 33) (hj10 : j ≠ 10) (H : MI h0 h m P) (hn : P.I 1 = nI n) (hN : n ≤ 6) (hi : i < n) (hb : P.A 2 i = br i) (HT : NowR n (P.A j) T) (HR : RuR m P rv) (hd : 81 ≤ d)
    (hq : ∀ h' P', MI h0 h' m P' → Kp [10, 11, 12, 13, 14, 19] [10] P P' → (P.I 19 = 0 → P'.I 19 = 0) → Q (some (.int (runI rv br T i))) h') : pz_V mX10_runOf Ex Q d bc bs 0 [(0, .ref m), (1, .ref (m + j)), (2, .int (nI i))] [] h := by
  obtain ⟨j8, rs, rt, hj8, hru, hrs, hrs40, htx, hrd⟩ := HR
  obtain ⟨t1, t2, t3, t4, t5⟩ := HT.1 i hi
  have ho64 : T.ou < 64 := Nat.lt_of_lt_of_le HT.2.2.2.2 (pow_le64 hN)
  have hj8c : j8 = 8 ∨ j8 = 9 := by
    unfold arrB at hj8
    split at hj8 <;> first | (cases hj8; done) | (cases hj8; simp)
  refine wX10_runOf_0 hd ((H.rI (q := 6 + i) hj (nI_add 6 i) (by omega)).mpr ⟨fun ho => ?_, fun ho => ?_⟩)
  · rw [t2] at ho
    have ob : T.ou.testBit i = true := by
      cases c : T.ou.testBit i
      · rw [c] at ho; exact absurd rfl ho
      · rfl
    have er : runI rv br T i = cl0 (T.lv i) (rv (T.lv i) (br i) (T.hr i) (T.tp i) (nI (popc T.ou)) (T.dy - T.dy / 7 * 7)) := by
      unfold runI
      rw [if_pos ob]
    rw [er] at hq
    refine (H.rI (q := i) hj rfl (by omega)).mpr ((H.rI (q := 12 + i) hj (nI_add 12 i) (by omega)).mpr ((H.gI rfl).mpr ?_))
    rw [hrs]
    refine ⟨fun hz => (H.rI (q := i) hj rfl (by omega)).mpr ?_, fun hz => (H.gR rfl).mpr ((H.rI (q := i) hj rfl (by omega)).mpr (H.sI (q := 0) rfl rfl (by decide) (fun h1 H1 => ?_)))⟩
    · have e0 : rs = 0 := by
        rcases Nat.eq_zero_or_pos rs with z | z
        · exact z
        · exact absurd hz (nI_nle z (by omega))
      unfold rdR at hrd
      rw [if_pos e0] at hrd
      have erv : rv0 = rv := congrArg Prod.snd hrd
      rw [t1, t3, cl_lem, ]
      rw [← erv] at hq
      exact hq h P H Kp.rf (fun z => z)
    · have e0 : ¬ rs = 0 := fun z => hz (by rw [z]; decide)
      have ne : ∀ {f : Nat → Int32}, (P.sA 10 f).A j = P.A j := up1_ne hj10
      have ne2 : ∀ {f : Nat → Int32}, (P.sA 10 f).A 2 = P.A 2 := rfl
      have at10 : ∀ {f : Nat → Int32}, (P.sA 10 f).A 10 = f := rfl
      refine (H1.gR rfl).mpr ((H1.gR rfl).mpr ((H1.rI (q := i) rfl rfl (by omega)).mpr (H1.sI (q := 1) rfl rfl (by decide) (fun h1 H1 => ?_))))
      rw [sA_sA, ne2, at10] at H1
      refine (H1.gR rfl).mpr ((H1.rI (q := 12 + i) hj (nI_add 12 i) (by omega)).mpr (H1.sI (q := 2) rfl rfl (by decide) (fun h1 H1 => ?_)))
      rw [sA_sA, ne, at10] at H1
      refine (H1.gR rfl).mpr ((H1.rI (q := 18 + i) hj (nI_add 18 i) (by omega)).mpr (H1.sI (q := 3) rfl rfl (by decide) (fun h1 H1 => ?_)))
      rw [sA_sA, ne, at10] at H1
      refine (H1.gR rfl).mpr ⟨H1.is, m_outOnes H1 hj hn hN HT.2.2.2.2 (fun q hq2 => by rw [ne]; exact (HT.1 q hq2).2.1) ⟨_, rfl, t_bitCount ho64 ⟨_, rfl, H1.sI (q := 4) rfl rfl (by decide) (fun h1 H1 => ?_)⟩⟩⟩
      rw [sA_sA, at10] at H1
      refine (H1.gR rfl).mpr ((H1.rI (q := 30) hj rfl (by decide)).mpr (H1.sI (q := 5) rfl rfl (by decide) (fun h1 H1 => ?_)))
      rw [sA_sA, ne, at10] at H1
      refine H1.gU.mpr ((H1.gI rfl).mpr ⟨H1.is, m_begin H1 (fun h2 H2 => ⟨rfl, H2.pI rfl (fun h3 H3 => ⟨H3.is, ?_⟩)⟩)⟩)
      refine m_held (j := j8) (le := rs) (tx := rt) H3 hj8 (by show some P.ru = _; rw [hru]) (by show P.I 18 = _; exact hrs) hrs40 rfl rfl rfl (by show TxB rs (up1 P.A 10 _ j8) rt; rw [up1_ne (by omega)]; exact htx) (by decide) (fun h4 p4 w4 v4 H4 g1 g2 => ⟨_, rfl, H4.pI rfl (fun h5 H5 => (H5.rI (q := i) hj rfl (by omega)).mpr ?_)⟩)
      unfold rdR at hrd
      rw [if_neg e0] at hrd
      by_cases hok : (parseS (sgn rt rs 40)).ok = true ∧ (parseS (sgn rt rs 40)).ps = rs
      · rw [if_pos hok] at hrd
        have erv : rvOf (parseS (sgn rt rs 40)).vl = rv := congrArg Prod.snd hrd
        obtain ⟨y1, y2, y3⟩ := g1 hok.1
        have pos := prs_pos (sgk rt rs) 334 0 0 0 [] pZ _ (by decide) (by decide) (parse_eq (sgk rt rs))
        have hlen := (pos.2.2 hok.1).2 (by decide)
        have ev : v4 = rv (T.lv i) (br i) (T.hr i) (T.tp i) (nI (popc T.ou)) (T.dy - T.dy / 7 * 7) := by
          rw [y3, ← erv]
          unfold rvOf
          refine vl_congr (parse_eq (sgk rt rs)) hok.1 (by omega) (fun k hk => ?_)
          show (if (1 : Int32) = 0 then (0 : Int32) else (upd (upd (upd (upd (upd (upd (P.A 10) 0 (P.A j i)) 1 (P.A 2 i)) 2 (P.A j (12 + i))) 3 (P.A j (18 + i))) 4 (nI (popc T.ou))) 5 (P.A j 30 - P.A j 30 / 7 * 7)) k) = _
          rw [if_neg (show ¬ (1 : Int32) = 0 by decide), ← t1, ← t3, ← t4, ← hb, ← HT.2.1]
          rcases (by omega : k = 0 ∨ k = 1 ∨ k = 2 ∨ k = 3 ∨ k = 4 ∨ k = 5) with rfl | rfl | rfl | rfl | rfl | rfl <;> rfl
        have el : ∀ (f : Nat → Int32), up1 P.A 10 f j i = T.lv i := fun f => by rw [show up1 P.A 10 f j = P.A j from up1_ne hj10, t1]
        rw [cl_lem]
        rw [← ev] at hq
        have := hq h5 _ H5 (((((((((Kp.rf.sA (by simp)).sD).sI (by simp)).sI (by simp)).sI (by simp)).sI (by simp)).sI (by simp)).sI (by simp)).sI (by simp) |>.sI (by simp)) (fun _ => rfl)
        rw [← el] at this
        exact this
      · rw [if_neg hok] at hrd
        exact absurd (congrArg Prod.fst hrd) (by simp)
  · rw [t2] at ho
    have ob : T.ou.testBit i = false := by
      cases c : T.ou.testBit i
      · rfl
      · rw [c, if_pos rfl] at ho; exact absurd ho (by decide)
    have er : runI rv br T i = 0 := by
      unfold runI
      rw [ob]
      rfl
    rw [er] at hq
    exact hq h P H Kp.rf (fun z => z)
end MH
