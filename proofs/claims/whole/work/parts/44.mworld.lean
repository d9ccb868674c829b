/-! ===== the reference's whole state, and its world ===== -/
def UndR (P : pM) (n : Nat) (U : List pW) : Prop := P.I 22 = nI U.length ∧ ∀ k V, U[k]? = some V → NowR n (fun i => P.A 11 (33 * k + i)) V
def RgR (P : pM) (R : pG) : Prop := P.I 33 = nI R.len ∧ ∀ j, j < R.len → P.A 17 j = R.la j ∧ P.A 18 j = R.da j ∧ P.A 19 j = R.le j
def KeR (P : pM) (n ks : Nat) (K : Nat → pW) : Prop := ∃ c, P.I 39 = nI c ∧ c ≤ n ∧ ∀ i, i < 2 → ∃ (b : Bool) (ci : Nat), P.A 25 i = (if b = true then 1 else 0) ∧ P.A 26 i = nI ci ∧ ci ≤ c ∧ (ks.testBit i = (b && decide (ci = c))) ∧ (ks.testBit i = true → NowR n (fun q => P.A 24 (33 * i + q)) (K i))
def MB (m : Nat) (P : pM) (S : pS) : Prop := P.I 1 = nI S.n ∧ (∀ i, i < S.n → P.A 2 i = S.br i ∧ P.A 3 i = S.W.lk i ∧ P.A 4 i = S.dn i) ∧ NowR S.n (P.A 1) S.W ∧ TxB 80 (P.A 5) S.tx ∧ P.I 6 = nI S.tl ∧ RuR m P S.rv ∧ UndR P S.n S.U ∧ RgR P S.R ∧ KeR P S.n S.ks S.K
def TR (P : pM) (S : pS) (lo lm : Int32) : Option pW → Prop
  | none => True
  | some T => NowR S.n (P.A 13) T ∧ (∀ i, i < S.n → T.lk i = S.W.lk i + (if nI i = lo then lm else 0)) ∧ Rg S.n S.br T
/-- scratch cells that a day, a row, a copy leave alone -/
abbrev pX : Type := (Nat → Int32) × (Nat → Int32) × (Nat → Int32) × (Nat → Int32) × (Nat → Int64) × (Nat → Int64) × Int32 × (Nat → Int32)
def scr (P : pM) : pX := (P.A 7, P.A 16, P.A 20, P.A 21, P.J 22, P.J 23, P.I 38, P.A 8)
/-- which rule's row the reference must hold: told by the frame's own (unused) cell -/
def gh (h0 : pz_H) (m : Nat) : Nat := match h0.2 m with
  | some (.inr (.inr (.inr (.inr (.inl p))))) => p.1
  | _ => 0
def MW (h0 h : pz_H) (m : Nat) (S : pS) (zz : pX) (T : Option pW) (lo lm : Int32) (rw : List Int64) : Prop := ∃ P, MI h0 h m P ∧ MB m P S ∧ TR P S lo lm T ∧ P.I 27 = lo ∧ P.I 28 = lm ∧ RowM P rw ∧ scr P = zz ∧ P.ru = gh h0 m
theorem scr_kp {P P' : pM} {li la : List Nat} (K : Kp li la P P') (hi : 38 ∉ li) (ha : ∀ k, k = 7 ∨ k = 8 ∨ k = 16 ∨ k = 20 ∨ k = 21 ∨ k = 22 ∨ k = 23 → k ∉ la) : scr P' = scr P := by
  unfold scr
  rw [K.1 38 hi, K.2.1 7 (ha _ (by simp)), K.2.1 8 (ha _ (by simp)), K.2.1 16 (ha _ (by simp)), K.2.1 20 (ha _ (by simp)), K.2.1 21 (ha _ (by simp)), K.2.2.1 22 (ha _ (by simp)), K.2.2.1 23 (ha _ (by simp))]
theorem MB.kp {m : Nat} {P P' : pM} {S : pS} {li la : List Nat} (H : MB m P S) (K : Kp li la P P') (hi : ∀ k, k = 1 ∨ k = 6 ∨ k = 18 ∨ k = 22 ∨ k = 33 ∨ k = 39 → k ∉ li) (ha : ∀ k, k ≤ 5 ∨ k = 8 ∨ k = 9 ∨ k = 11 ∨ k = 17 ∨ k = 18 ∨ k = 19 ∨ k = 24 ∨ k = 25 ∨ k = 26 → k ∉ la) : MB m P' S := by
  obtain ⟨h1, h2, h3, h4, h5, h6, h7, h8, h9⟩ := H
  have eI : ∀ k, k = 1 ∨ k = 6 ∨ k = 18 ∨ k = 22 ∨ k = 33 ∨ k = 39 → P'.I k = P.I k := fun k hk => K.1 k (hi k hk)
  have eA : ∀ k, k ≤ 5 ∨ k = 8 ∨ k = 9 ∨ k = 11 ∨ k = 17 ∨ k = 18 ∨ k = 19 ∨ k = 24 ∨ k = 25 ∨ k = 26 → P'.A k = P.A k := fun k hk => K.2.1 k (ha k hk)
  refine ⟨(eI 1 (by simp)).trans h1, ?_, ?_, ?_, (eI 6 (by simp)).trans h5, h6.kp K (hi _ (by simp)) (ha _ (by simp)) (ha _ (by simp)), ?_, ?_, ?_⟩
  · rw [eA 2 (by simp), eA 3 (by simp), eA 4 (by simp)]; exact h2
  · rw [eA 1 (by simp)]; exact h3
  · rw [eA 5 (by simp)]; exact h4
  · unfold UndR
    rw [eI 22 (by simp), eA 11 (by simp)]; exact h7
  · unfold RgR
    rw [eI 33 (by simp), eA 17 (by simp), eA 18 (by simp), eA 19 (by simp)]; exact h8
  · unfold KeR
    rw [eI 39 (by simp), eA 24 (by simp), eA 25 (by simp), eA 26 (by simp)]; exact h9
theorem TR.cg {P P' : pM} {S : pS} {lo lm : Int32} {T : Option pW} (H : TR P S lo lm T) (e : P'.A 13 = P.A 13) : TR P' S lo lm T := by
  cases T with
  | none => trivial
  | some T =>
    refine ⟨?_, H.2⟩
    rw [e]; exact H.1
theorem NowR.lk {n : Nat} {a : Nat → Int32} {W : pW} {f : Nat → Int32} (h : NowR n a W) : NowR n a (W.sLk f) := h
theorem isLake_eq {l : Int32} {n : Nat} (hn : n ≤ 6) : eX10_isLake l (nI n) = eX1_has l (nI n) := by
  unfold eX10_isLake eX10_in eX1_has
  by_cases h0 : l < 0
  · rw [if_pos h0, if_pos h0]
  · rw [if_neg h0, if_neg h0]
    by_cases h1 : nI n ≤ l
    · rw [if_pos h1, if_pos]
      rw [lt_i]
      rw [le_i] at h1
      have e : (nI n).toInt = n := nI_toInt (by omega)
      rcases Nat.eq_zero_or_pos n with z | z
      · subst z
        have e2 : (nI 0 - 1 : Int32).toInt = -1 := by decide
        rw [e2]
        omega
      · obtain ⟨k, rfl⟩ : ∃ k, n = k + 1 := ⟨n - 1, by omega⟩
        rw [nI_pred, nI_toInt (by omega)]
        omega
    · rw [if_neg h1, if_neg]
      rw [lt_i]
      rw [le_i, nI_toInt (by omega)] at h1
      rw [lt_i] at h0
      have e0 : (0 : Int32).toInt = 0 := by decide
      rw [e0] at h0
      obtain ⟨k, rfl⟩ : ∃ k, n = k + 1 := ⟨n - 1, by omega⟩
      rw [nI_pred, nI_toInt (by omega)]
      omega
theorem in_eq (a b c : Int32) : eX10_in a b c = eX9_isWithin a b c := rfl
theorem all10_eq {n : Nat} (h : n ≤ 6) : eX10_all (nI n) = nI (2 ^ n - 1) := all_eq n h
theorem isKing_eq (k : Int32) : eX10_isKing k = eX9_isKing k := by
  unfold eX10_isKing eX10_in eX9_isKing
  by_cases h0 : k < 0
  · rw [if_pos h0, if_pos h0]
  · rw [if_neg h0, if_neg h0]
    by_cases h1 : (4 : Int32) ≤ k
    · rw [if_pos h1, if_pos]
      rw [le_i] at h1
      rw [lt_i]
      have e4 : (4 : Int32).toInt = 4 := by decide
      have e3 : (3 : Int32).toInt = 3 := by decide
      omega
    · rw [if_neg h1, if_neg]
      rw [le_i] at h1
      rw [lt_i]
      have e4 : (4 : Int32).toInt = 4 := by decide
      have e3 : (3 : Int32).toInt = 3 := by decide
      omega
theorem ni_m1 {i : Nat} (h : i < 2 ^ 31) : ¬ nI i = -1 := by
  intro z
  have h1 : (0 : Int32) ≤ nI i := nI_pos' h
  rw [z] at h1
  exact absurd h1 (by decide)
/-! updates of a water, and the array that tells it -/
theorem NowR.sLv {n i : Nat} {a : Nat → Int32} {W : pW} {x : Int32} (h : NowR n a W) (hn : n ≤ 6) (hi : i < n) : NowR n (upd a i x) (W.sLv (upd W.lv i x)) := by
  obtain ⟨h1, h2, h3, h4, h5⟩ := h
  refine ⟨fun q hq => ?_, by rw [upd_ne (by omega)]; exact h2, by rw [upd_ne (by omega)]; exact h3, by rw [upd_ne (by omega)]; exact h4, h5⟩
  obtain ⟨t1, t2, t3, t4, t5⟩ := h1 q hq
  rw [upd_ne (show 6 + q ≠ i by omega), upd_ne (show 12 + q ≠ i by omega), upd_ne (show 18 + q ≠ i by omega), upd_ne (show 24 + q ≠ i by omega)]
  refine ⟨?_, t2, t3, t4, t5⟩
  show upd a i x q = upd W.lv i x q
  unfold upd
  split
  · rfl
  · exact t1
theorem NowR.sHr {n i : Nat} {a : Nat → Int32} {W : pW} {x : Int32} (h : NowR n a W) (hn : n ≤ 6) (hi : i < n) : NowR n (upd a (12 + i) x) (W.sHr (upd W.hr i x)) := by
  obtain ⟨h1, h2, h3, h4, h5⟩ := h
  refine ⟨fun q hq => ?_, by rw [upd_ne (by omega)]; exact h2, by rw [upd_ne (by omega)]; exact h3, by rw [upd_ne (by omega)]; exact h4, h5⟩
  obtain ⟨t1, t2, t3, t4, t5⟩ := h1 q hq
  rw [upd_ne (show q ≠ 12 + i by omega), upd_ne (show 6 + q ≠ 12 + i by omega), upd_ne (show 18 + q ≠ 12 + i by omega), upd_ne (show 24 + q ≠ 12 + i by omega)]
  refine ⟨t1, t2, ?_, t4, t5⟩
  show upd a (12 + i) x (12 + q) = upd W.hr i x q
  unfold upd
  by_cases e : q = i
  · rw [if_pos (by omega), if_pos e]
  · rw [if_neg (by omega), if_neg e]; exact t3
theorem NowR.sTp {n i : Nat} {a : Nat → Int32} {W : pW} {x : Int32} (h : NowR n a W) (hn : n ≤ 6) (hi : i < n) : NowR n (upd a (18 + i) x) (W.sTp (upd W.tp i x)) := by
  obtain ⟨h1, h2, h3, h4, h5⟩ := h
  refine ⟨fun q hq => ?_, by rw [upd_ne (by omega)]; exact h2, by rw [upd_ne (by omega)]; exact h3, by rw [upd_ne (by omega)]; exact h4, h5⟩
  obtain ⟨t1, t2, t3, t4, t5⟩ := h1 q hq
  rw [upd_ne (show q ≠ 18 + i by omega), upd_ne (show 6 + q ≠ 18 + i by omega), upd_ne (show 12 + q ≠ 18 + i by omega), upd_ne (show 24 + q ≠ 18 + i by omega)]
  refine ⟨t1, t2, t3, ?_, t5⟩
  show upd a (18 + i) x (18 + q) = upd W.tp i x q
  unfold upd
  by_cases e : q = i
  · rw [if_pos (by omega), if_pos e]
  · rw [if_neg (by omega), if_neg e]; exact t4
theorem NowR.sKg {n i : Nat} {a : Nat → Int32} {W : pW} {x : Int32} (h : NowR n a W) (hn : n ≤ 6) (hi : i < n) : NowR n (upd a (24 + i) x) (W.sKg (upd W.kg i x)) := by
  obtain ⟨h1, h2, h3, h4, h5⟩ := h
  refine ⟨fun q hq => ?_, by rw [upd_ne (by omega)]; exact h2, by rw [upd_ne (by omega)]; exact h3, by rw [upd_ne (by omega)]; exact h4, h5⟩
  obtain ⟨t1, t2, t3, t4, t5⟩ := h1 q hq
  rw [upd_ne (show q ≠ 24 + i by omega), upd_ne (show 6 + q ≠ 24 + i by omega), upd_ne (show 12 + q ≠ 24 + i by omega), upd_ne (show 18 + q ≠ 24 + i by omega)]
  refine ⟨t1, t2, t3, t4, ?_⟩
  show upd a (24 + i) x (24 + q) = upd W.kg i x q
  unfold upd
  by_cases e : q = i
  · rw [if_pos (by omega), if_pos e]
  · rw [if_neg (by omega), if_neg e]; exact t5
theorem NowR.sOu {n i o : Nat} {a : Nat → Int32} {W : pW} {x : Int32} (h : NowR n a W) (hn : n ≤ 6) (hi : i < n) (ho : o < 2 ^ n) (hx : x = if o.testBit i then 1 else 0) (hb : ∀ q, q ≠ i → o.testBit q = W.ou.testBit q) : NowR n (upd a (6 + i) x) (W.sOu o) := by
  obtain ⟨h1, h2, h3, h4, h5⟩ := h
  refine ⟨fun q hq => ?_, by rw [upd_ne (by omega)]; exact h2, by rw [upd_ne (by omega)]; exact h3, by rw [upd_ne (by omega)]; exact h4, ho⟩
  obtain ⟨t1, t2, t3, t4, t5⟩ := h1 q hq
  rw [upd_ne (show q ≠ 6 + i by omega), upd_ne (show 12 + q ≠ 6 + i by omega), upd_ne (show 18 + q ≠ 6 + i by omega), upd_ne (show 24 + q ≠ 6 + i by omega)]
  refine ⟨t1, ?_, t3, t4, t5⟩
  show upd a (6 + i) x (6 + q) = if o.testBit q then 1 else 0
  unfold upd
  by_cases e : q = i
  · subst e
    rw [if_pos rfl, hx]
  · rw [if_neg (by omega), hb q e]; exact t2
section MWS
variable {Ex : State → Nat → Prop} {Q : Option Value → pz_H → Prop} {d bc bs : Nat} {h0 h h' : pz_H} {m : Nat} {S : pS} {oT : Option pW} {T : pW} {lo lm : Int32} {rw : List Int64} {zz : pX}
theorem MW.is (H : MW h0 h m S zz oT lo lm rw) : pz_is h m 10 := by
  obtain ⟨P, h1, -⟩ := H
  exact h1.is
theorem MW.n (H : MW h0 h m S zz oT lo lm rw) {K : Int32 → Prop} : pz_gI h m 10 1 K ↔ K (nI S.n) := by
  obtain ⟨P, h1, h2, -⟩ := H
  rw [h1.gI rfl, h2.1]
theorem MW.g {k j : Nat} (H : MW h0 h m S zz oT lo lm rw) (hk : refO k = some j) {K : Nat → Prop} : pz_gR h m 10 k K ↔ K (m + j) := by
  obtain ⟨P, h1, -⟩ := H
  exact h1.gR hk
theorem MW.rm (H : MW h0 h m S zz oT lo lm rw) {K : Int32 → Prop} : pz_gI h m 10 8 K ↔ K (nI rw.length) := by
  obtain ⟨P, h1, -, -, -, -, h6, -⟩ := H
  rw [h1.gI rfl, h6.1]
theorem MW.th {v : Int32} (H : MW h0 h m S zz oT lo lm rw) {K : pz_H → Prop} (f : ∀ h', MW h0 h' m S zz oT lo lm rw → K h') : pz_pF h m 10 9 (.int v) K := by
  obtain ⟨P, h1, h2, h3, h4, h5, h6, h7⟩ := H
  refine h1.pI rfl (fun h' H' => f h' ⟨_, H', h2.kp (li := [9]) (la := []) (Kp.rf.sI (by simp)) (by intro k hk; simp; omega) (by simp), h3.cg rfl, h4, h5, h6, h7⟩)
theorem MW.row0 (H : MW h0 h m S zz oT lo lm rw) {K : pz_H → Prop} (f : ∀ h', MW h0 h' m S zz oT lo lm [] → K h') : pz_pF h m 10 8 (.int 0) K := by
  obtain ⟨P, h1, h2, h3, h4, h5, h6, h7⟩ := H
  exact h1.pI rfl (fun h' H' => f h' ⟨_, H', h2.kp (li := [8]) (la := []) (Kp.rf.sI (by simp)) (by intro k hk; simp; omega) (by simp), h3.cg rfl, h4, h5, ⟨rfl, fun i hi => absurd hi (Nat.not_lt_zero i)⟩, h7⟩)
theorem MW.tell {v : Int64} (H : MW h0 h m S zz oT lo lm rw) (hl : rw.length < 16) (f : ∀ h', MW h0 h' m S zz oT lo lm (rw ++ [v]) → Q none h') : pz_V mX10_tell Ex Q d bc bs 0 [(0, .ref m), (1, .long v)] [] h := by
  obtain ⟨P, h1, h2, h3, h4, h5, h6, h7⟩ := H
  exact m_tell h1 h6.1 hl (fun h' H' => f h' ⟨_, H', h2.kp (li := [8]) (la := [6]) ((Kp.rf.sJ (by simp)).sI (by simp)) (by intro k hk; simp; omega) (by intro k hk; simp; omega), h3.cg rfl, h4, h5, h6.add, h7⟩)
theorem MW.lay {f : Nat → Int32} (H : MW h0 h m S zz oT lo lm rw) (O : SOk S) (hf : ∀ i, i < S.n → f i = S.W.lk i + (if nI i = lo then lm else 0)) (hb : ∀ i, i < S.n → Bt (f i) 0 18) (q : ∀ h', MW h0 h' m S zz (some (S.W.sLk f)) lo lm rw → Q none h') : pz_V mX10_lay Ex Q d bc bs 0 [(0, .ref (m + 1)), (1, .ref (m + 13)), (2, .int 0)] [] h := by
  obtain ⟨P, h1, h2, h3, h4, h5, h6, h7⟩ := H
  refine m_lay (j1 := 1) (j2 := 13) (N2 := 33) (off := 0) h1 rfl rfl (by decide) (by decide) (fun h' H' => q h' ⟨_, H', h2.kp (li := []) (la := [13]) (Kp.rf.sA (by simp)) (by simp) (by intro k hk; simp; omega), ⟨?_, hf, ?_⟩, h4, h5, h6, h7⟩)
  · show NowR S.n (va_cpy (P.A 1) (P.A 13) 0 0 33) _
    refine NowR.lk (NowR.cg h2.2.2.1 O.1 (fun i hi => ?_))
    have := cpy_in (f := P.A 1) (g := P.A 13) (o := 0) hi
    rw [Nat.zero_add] at this
    exact this
  · intro i hi
    obtain ⟨a1, a2, a3, a4, a5⟩ := O.2.2.1.2.1 i hi
    exact ⟨a1, a2, a3, hb i hi, a5⟩
theorem MW.lay0 (H : MW h0 h m S zz oT (-1) lm rw) (O : SOk S) (q : ∀ h', MW h0 h' m S zz (some S.W) (-1) lm rw → Q none h') : pz_V mX10_lay Ex Q d bc bs 0 [(0, .ref (m + 1)), (1, .ref (m + 13)), (2, .int 0)] [] h :=
  H.lay (f := S.W.lk) O (fun i hi => by rw [if_neg (ni_m1 (by have := O.1; omega))]; simp) (fun i hi => (O.2.2.1.2.1 i hi).2.2.2.1) q
theorem MW.dok {P : pM} (h2 : MB m P S) (h3 : TR P S lo lm (some T)) (h4 : P.I 27 = lo) (h5 : P.I 28 = lm) (O : SOk S) : DayOk m P S.n S.br S.dn S.rv T := by
  refine ⟨h2.1, O.1, fun i hi => ?_, O.2.2.2.2.1, h2.2.2.2.2.2.1⟩
  obtain ⟨b1, b2, b3⟩ := h2.2.1 i hi
  rw [b1, b2, b3, h4, h5]
  exact ⟨rfl, rfl, h3.2.1 i hi⟩
theorem MW.day (H : MW h0 h m S zz (some T) lo lm rw) (O : SOk S) (hd : 82 ≤ d) (q : ∀ h', MW h0 h' m S zz (some (dayW S.rv S.br S.dn S.n T)) lo lm rw → Q none h') : pz_V mX10_goDay Ex Q d bc bs 0 [(0, .ref m), (1, .ref (m + 13))] [] h := by
  obtain ⟨P, h1, h2, h3, h4, h5, h6, h7⟩ := H
  refine m_goDay (j := 13) rfl (Or.inr rfl) h1 (MW.dok h2 h3 h4 h5 O) h3.1 h3.2.2 hd (fun h' P' H' K' _ HN => q h' ⟨P', H', h2.kp K' (by intro k hk; simp; omega) (by intro k hk; simp; omega), ⟨HN, h3.2.1, h3.2.2.day O.1⟩, (K'.1 27 (by decide)).trans h4, (K'.1 28 (by decide)).trans h5, ⟨(K'.1 8 (by decide)).trans h6.1, ?_⟩, (scr_kp K' (by decide) (by intro k hk; simp; omega)).trans h7.1, K'.2.2.2.trans h7.2⟩)
  rw [K'.2.2.1 6 (by decide)]
  exact h6.2
theorem MW.days {k : Nat} (H : MW h0 h m S zz (some T) lo lm rw) (O : SOk S) (hk : k < 2 ^ 31) (hd : 83 ≤ d) (q : ∀ h', MW h0 h' m S zz (some (daysW S.rv S.br S.dn S.n k T)) lo lm rw → Q none h') : pz_V mX10_goDays Ex Q d bc bs 0 [(0, .ref m), (1, .ref (m + 13)), (2, .int (nI k))] [] h := by
  refine wX10_goDays_0 hd ?_
  suffices G : ∀ f i h', i + f = k → MW h0 h' m S zz (some (daysW S.rv S.br S.dn S.n i T)) lo lm rw → pz_V mX10_goDays Ex Q d bc bs 2 [(0, .ref m), (1, .ref (m + 13)), (2, .int (nI k)), (3, .int (nI i))] [] h' from G k 0 h (Nat.zero_add _) H
  intro f
  induction f with
  | zero =>
    intro i h' hi H'
    have e : i = k := hi
    subst e
    exact wX10_goDays_2 hd ⟨fun _ => q h' H', fun hc => absurd (nI_le (Nat.le_refl _) (by omega)) hc⟩
  | succ f ih =>
    intro i h' hi H'
    refine wX10_goDays_2 hd ⟨fun hc => absurd hc (nI_ge (by omega) (by omega)), fun _ => ⟨H'.is, H'.day O (Nat.le_refl _) (fun h2 H2 => ⟨rfl, ?_⟩)⟩⟩
    rw [nI_1]
    exact ih (i + 1) h2 (by omega) H2
theorem MW.goThen {k : Nat} (H : MW h0 h m S zz oT (-1) lm rw) (O : SOk S) (hk : k < 2 ^ 31) (hd : 84 ≤ d) (q : ∀ h', MW h0 h' m S zz (some (daysW S.rv S.br S.dn S.n k S.W)) (-1) lm rw → Q none h') : pz_V mX10_goThen Ex Q d bc bs 0 [(0, .ref m), (1, .int (nI k))] [] h :=
  wX10_goThen_0 hd ((H.g rfl).mpr ((H.g rfl).mpr (H.lay0 O (fun h1 H1 => ⟨rfl, (H1.g rfl).mpr ⟨H1.is, H1.days O hk (Nat.le_refl _) (fun h2 H2 => ⟨rfl, q h2 H2⟩)⟩⟩))))
/-! reading then, now -/
theorem MW.rT {i : Nat} (H : MW h0 h m S zz (some T) lo lm rw) (O : SOk S) (hi : i < S.n) {K : Int32 → Prop} : pz_rI h (m + 13) (nI i) K ↔ K (T.lv i) := by
  obtain ⟨P, h1, h2, h3, -⟩ := H
  have := O.1
  rw [h1.rI (q := i) rfl rfl (by omega), (h3.1.1 i hi).1]
theorem MW.rTo {i : Nat} (H : MW h0 h m S zz (some T) lo lm rw) (O : SOk S) (hi : i < S.n) {K : Int32 → Prop} : pz_rI h (m + 13) (6 + nI i) K ↔ K (if T.ou.testBit i then 1 else 0) := by
  obtain ⟨P, h1, h2, h3, -⟩ := H
  have := O.1
  rw [h1.rI (i := 6 + nI i) (q := 6 + i) rfl (nI_add 6 i) (by omega), (h3.1.1 i hi).2.1]
theorem MW.rTs (H : MW h0 h m S zz (some T) lo lm rw) {K : Int32 → Prop} : pz_rI h (m + 13) 31 K ↔ K T.sp := by
  obtain ⟨P, h1, h2, h3, -⟩ := H
  rw [h1.rI (i := 31) (q := 31) rfl rfl (by decide), h3.1.2.2.1]
theorem MW.rTd (H : MW h0 h m S zz (some T) lo lm rw) {K : Int32 → Prop} : pz_rI h (m + 13) 32 K ↔ K T.dr := by
  obtain ⟨P, h1, h2, h3, -⟩ := H
  rw [h1.rI (i := 32) (q := 32) rfl rfl (by decide), h3.1.2.2.2.1]
theorem MW.rN {i : Nat} (H : MW h0 h m S zz oT lo lm rw) (O : SOk S) (hi : i < S.n) {K : Int32 → Prop} : pz_rI h (m + 1) (nI i) K ↔ K (S.W.lv i) := by
  obtain ⟨P, h1, h2, -⟩ := H
  have := O.1
  rw [h1.rI (q := i) rfl rfl (by omega), (h2.2.2.1.1 i hi).1]
theorem MW.rNo {i : Nat} (H : MW h0 h m S zz oT lo lm rw) (O : SOk S) (hi : i < S.n) {K : Int32 → Prop} : pz_rI h (m + 1) (6 + nI i) K ↔ K (if S.W.ou.testBit i then 1 else 0) := by
  obtain ⟨P, h1, h2, -⟩ := H
  have := O.1
  rw [h1.rI (i := 6 + nI i) (q := 6 + i) rfl (nI_add 6 i) (by omega), (h2.2.2.1.1 i hi).2.1]
theorem MW.rNh {i : Nat} (H : MW h0 h m S zz oT lo lm rw) (O : SOk S) (hi : i < S.n) {K : Int32 → Prop} : pz_rI h (m + 1) (12 + nI i) K ↔ K (S.W.hr i) := by
  obtain ⟨P, h1, h2, -⟩ := H
  have := O.1
  rw [h1.rI (i := 12 + nI i) (q := 12 + i) rfl (nI_add 12 i) (by omega), (h2.2.2.1.1 i hi).2.2.1]
theorem MW.rNt {i : Nat} (H : MW h0 h m S zz oT lo lm rw) (O : SOk S) (hi : i < S.n) {K : Int32 → Prop} : pz_rI h (m + 1) (18 + nI i) K ↔ K (S.W.tp i) := by
  obtain ⟨P, h1, h2, -⟩ := H
  have := O.1
  rw [h1.rI (i := 18 + nI i) (q := 18 + i) rfl (nI_add 18 i) (by omega), (h2.2.2.1.1 i hi).2.2.2.1]
theorem MW.rNk {i : Nat} (H : MW h0 h m S zz oT lo lm rw) (O : SOk S) (hi : i < S.n) {K : Int32 → Prop} : pz_rI h (m + 1) (24 + nI i) K ↔ K (S.W.kg i) := by
  obtain ⟨P, h1, h2, -⟩ := H
  have := O.1
  rw [h1.rI (i := 24 + nI i) (q := 24 + i) rfl (nI_add 24 i) (by omega), (h2.2.2.1.1 i hi).2.2.2.2]
theorem MW.rNd (H : MW h0 h m S zz oT lo lm rw) {K : Int32 → Prop} : pz_rI h (m + 1) 30 K ↔ K S.W.dy := by
  obtain ⟨P, h1, h2, -⟩ := H
  rw [h1.rI (i := 30) (q := 30) rfl rfl (by decide), h2.2.2.1.2.1]
theorem MW.rNs (H : MW h0 h m S zz oT lo lm rw) {K : Int32 → Prop} : pz_rI h (m + 1) 31 K ↔ K S.W.sp := by
  obtain ⟨P, h1, h2, -⟩ := H
  rw [h1.rI (i := 31) (q := 31) rfl rfl (by decide), h2.2.2.1.2.2.1]
theorem MW.rNr (H : MW h0 h m S zz oT lo lm rw) {K : Int32 → Prop} : pz_rI h (m + 1) 32 K ↔ K S.W.dr := by
  obtain ⟨P, h1, h2, -⟩ := H
  rw [h1.rI (i := 32) (q := 32) rfl rfl (by decide), h2.2.2.1.2.2.2.1]
theorem MW.rB {i : Nat} (H : MW h0 h m S zz oT lo lm rw) (O : SOk S) (hi : i < S.n) {K : Int32 → Prop} : pz_rI h (m + 2) (nI i) K ↔ K (S.br i) := by
  obtain ⟨P, h1, h2, -⟩ := H
  have := O.1
  rw [h1.rI (q := i) rfl rfl (by omega), (h2.2.1 i hi).1]
theorem MW.rL {i : Nat} (H : MW h0 h m S zz oT lo lm rw) (O : SOk S) (hi : i < S.n) {K : Int32 → Prop} : pz_rI h (m + 3) (nI i) K ↔ K (S.W.lk i) := by
  obtain ⟨P, h1, h2, -⟩ := H
  have := O.1
  rw [h1.rI (q := i) rfl rfl (by omega), (h2.2.1 i hi).2.1]
theorem MW.rD {i : Nat} (H : MW h0 h m S zz oT lo lm rw) (O : SOk S) (hi : i < S.n) {K : Int32 → Prop} : pz_rI h (m + 4) (nI i) K ↔ K (S.dn i) := by
  obtain ⟨P, h1, h2, -⟩ := H
  have := O.1
  rw [h1.rI (q := i) rfl rfl (by omega), (h2.2.1 i hi).2.2]
/-! sums, sets -/
theorem MW.sum (H : MW h0 h m S zz (some T) lo lm rw) (O : SOk S) (hq : Q (some (.int (sumI T.lv S.n))) h) : pz_V mX10_sumOf Ex Q d bc bs 0 [(0, .ref m), (1, .ref (m + 13)), (2, .int 0)] [] h := by
  obtain ⟨P, h1, h2, h3, -⟩ := H
  have := O.1
  refine m_sumOf (j := 13) (N := 33) (o := 0) h1 rfl h2.1 (by omega) ?_
  rw [sumI_congr (g := T.lv) (fun i hi => by rw [Nat.zero_add]; exact (h3.1.1 i hi).1)]
  exact hq
theorem MW.sumN (H : MW h0 h m S zz oT lo lm rw) (O : SOk S) (hq : Q (some (.int (sumI S.W.lv S.n))) h) : pz_V mX10_sumOf Ex Q d bc bs 0 [(0, .ref m), (1, .ref (m + 1)), (2, .int 0)] [] h := by
  obtain ⟨P, h1, h2, -⟩ := H
  have := O.1
  refine m_sumOf (j := 1) (N := 33) (o := 0) h1 rfl h2.1 (by omega) ?_
  rw [sumI_congr (g := S.W.lv) (fun i hi => by rw [Nat.zero_add]; exact (h2.2.2.1.1 i hi).1)]
  exact hq
theorem MW.sumH (H : MW h0 h m S zz oT lo lm rw) (O : SOk S) (hq : Q (some (.int (sumI S.W.hr S.n))) h) : pz_V mX10_sumOf Ex Q d bc bs 0 [(0, .ref m), (1, .ref (m + 1)), (2, .int 12)] [] h := by
  obtain ⟨P, h1, h2, -⟩ := H
  have := O.1
  refine m_sumOf (j := 1) (N := 33) (o := 12) h1 rfl h2.1 (by omega) ?_
  rw [sumI_congr (g := S.W.hr) (fun i hi => (h2.2.2.1.1 i hi).2.2.1)]
  exact hq
theorem bitsOf_cg {p q : Nat → Bool} : ∀ {n : Nat}, (∀ i, i < n → p i = q i) → bitsOf p n = bitsOf q n
  | 0, _ => rfl
  | n + 1, h => by rw [bitsOf, bitsOf, bitsOf_cg (fun i hi => h i (by omega)), h n (by omega)]
theorem totS_cg {f g : Nat → Int32} {s n : Nat} (h : ∀ i, i < n → f i = g i) : totS f s n = totS g s n := sumI_congr (fun i hi => by rw [h i hi])
theorem MW.dry (H : MW h0 h m S zz (some T) lo lm rw) (O : SOk S) (hq : Q (some (.int (nI (dryOf T.lv S.n)))) h) : pz_V mX10_dryOnes Ex Q d bc bs 0 [(0, .ref m), (1, .ref (m + 13))] [] h := by
  obtain ⟨P, h1, h2, h3, -⟩ := H
  refine m_dryOnes (j := 13) h1 rfl h2.1 O.1 ?_
  unfold dryOf at hq ⊢
  rw [bitsOf_cg (q := fun i => decide (T.lv i = 0)) (fun i hi => by rw [(h3.1.1 i hi).1])]
  exact hq
theorem MW.dryN (H : MW h0 h m S zz oT lo lm rw) (O : SOk S) (hq : Q (some (.int (nI (dryOf S.W.lv S.n)))) h) : pz_V mX10_dryOnes Ex Q d bc bs 0 [(0, .ref m), (1, .ref (m + 1))] [] h := by
  obtain ⟨P, h1, h2, -⟩ := H
  refine m_dryOnes (j := 1) h1 rfl h2.1 O.1 ?_
  unfold dryOf at hq ⊢
  rw [bitsOf_cg (q := fun i => decide (S.W.lv i = 0)) (fun i hi => by rw [(h2.2.2.1.1 i hi).1])]
  exact hq
theorem MW.own {k : Int32} (H : MW h0 h m S zz (some T) lo lm rw) (O : SOk S) (hq : Q (some (.int (nI (kset T.kg S.n k)))) h) : pz_V mX10_ownOf Ex Q d bc bs 0 [(0, .ref m), (1, .ref (m + 13)), (2, .int k)] [] h := by
  obtain ⟨P, h1, h2, h3, -⟩ := H
  refine m_ownOf (j := 13) h1 rfl h2.1 O.1 ?_
  unfold kset at hq
  rw [bitsOf_cg (q := fun i => decide (T.kg i = k)) (fun i hi => by rw [(h3.1.1 i hi).2.2.2.2])]
  exact hq
theorem MW.ownN {k : Int32} (H : MW h0 h m S zz oT lo lm rw) (O : SOk S) (hq : Q (some (.int (nI (kset S.W.kg S.n k)))) h) : pz_V mX10_ownOf Ex Q d bc bs 0 [(0, .ref m), (1, .ref (m + 1)), (2, .int k)] [] h := by
  obtain ⟨P, h1, h2, -⟩ := H
  refine m_ownOf (j := 1) h1 rfl h2.1 O.1 ?_
  unfold kset at hq
  rw [bitsOf_cg (q := fun i => decide (S.W.kg i = k)) (fun i hi => by rw [(h2.2.2.1.1 i hi).2.2.2.2])]
  exact hq
theorem MW.lvl {s : Nat} (H : MW h0 h m S zz (some T) lo lm rw) (O : SOk S) (hs : s < 64) (hd : 1 ≤ d) (hq : Q (some (.int (totS T.lv s S.n))) h) : pz_V mX10_levelOf Ex Q d bc bs 0 [(0, .ref m), (1, .ref (m + 13)), (2, .int (nI s))] [] h := by
  obtain ⟨P, h1, h2, h3, -⟩ := H
  refine m_levelOf (j := 13) h1 rfl h2.1 O.1 hs hd ?_
  rw [totS_cg (fun i hi => (h3.1.1 i hi).1)]
  exact hq
theorem MW.lvlN {s : Nat} (H : MW h0 h m S zz oT lo lm rw) (O : SOk S) (hs : s < 64) (hd : 1 ≤ d) (hq : Q (some (.int (totS S.W.lv s S.n))) h) : pz_V mX10_levelOf Ex Q d bc bs 0 [(0, .ref m), (1, .ref (m + 1)), (2, .int (nI s))] [] h := by
  obtain ⟨P, h1, h2, -⟩ := H
  refine m_levelOf (j := 1) h1 rfl h2.1 O.1 hs hd ?_
  rw [totS_cg (fun i hi => (h2.2.2.1.1 i hi).1)]
  exact hq
theorem MW.outN (H : MW h0 h m S zz oT lo lm rw) (O : SOk S) (hq : Q (some (.int (nI S.W.ou))) h) : pz_V mX10_outOnes Ex Q d bc bs 0 [(0, .ref m), (1, .ref (m + 1))] [] h := by
  obtain ⟨P, h1, h2, -⟩ := H
  exact m_outOnes (j := 1) h1 rfl h2.1 O.1 h2.2.2.1.2.2.2.2 (fun i hi => (h2.2.2.1.1 i hi).2.1) hq
/-- a store into then -/
theorem MW.sT {q : Nat} {ix x : Int32} {T' : pW} (H : MW h0 h m S zz (some T) lo lm rw) (hix : ix = nI q) (hq : q < 33) (he : ∀ a, NowR S.n a T → NowR S.n (upd a q x) T') (hl : ∀ i, i < S.n → T'.lk i = T.lk i) (hr : Rg S.n S.br T') {K : pz_H → Prop} (f : ∀ h', MW h0 h' m S zz (some T') lo lm rw → K h') : pz_sI h (m + 13) ix x K := by
  obtain ⟨P, h1, h2, h3, h4, h5, h6, h7⟩ := H
  refine h1.sI (q := q) rfl hix hq (fun h' H' => f h' ⟨_, H', h2.kp (li := []) (la := [13]) (Kp.rf.sA (by simp)) (by simp) (by intro k hk; simp; omega), ⟨he _ h3.1, fun i hi => (hl i hi).trans (h3.2.1 i hi), hr⟩, h4, h5, h6, h7⟩)
end MWS
