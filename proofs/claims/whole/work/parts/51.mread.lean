/-! ===== the reference reads: the reader over all cells; rule, law ===== -/
theorem mnS_le' {sg : Nat → Int32} {e : Nat} (hs : ∀ p, e ≤ p → sg p = -1) : ∀ f p, p ≤ e → p + mnS sg f p ≤ e
  | 0, p, h => by rw [mnS]; omega
  | f + 1, p, h => by
    rw [mnS]
    split
    · rename_i c
      have hlt : p < e := by
        rcases Nat.lt_or_ge p e with q | q
        · exact q
        · rw [hs p q] at c; exact absurd c (by decide)
      have := mnS_le' hs f (p + 1) (by omega)
      omega
    · omega
theorem numN_le' {sg : Nat → Int32} {e : Nat} (hs : ∀ p, e ≤ p → sg p = -1) : ∀ f p a, p ≤ e → (numN sg f p a).1 ≤ e
  | 0, p, a, h => h
  | f + 1, p, a, h => by
    rw [numN]
    split
    · rename_i c
      have hlt : p < e := by
        rcases Nat.lt_or_ge p e with q | q
        · exact q
        · rw [hs p q] at c; exact absurd (by decide) c
      exact numN_le' hs f (p + 1) _ (by omega)
    · exact h
theorem prs_le {sg : Nat → Int32} {e : Nat} (hs : ∀ p, e ≤ p → sg p = -1) : ∀ (f m dp p : Nat) (L : List Int32) (v : pEnv → Int32) (r : pP), m ≤ 6 → p ≤ e → prs sg f m dp p L v = some r → r.ps ≤ e := by
  intro f
  induction f with
  | zero => intro m dp p L v r _ _ h; rw [prs] at h; cases h
  | succ f ih =>
    intro m dp p L v r hm hp h
    have nx : ∀ {q : Nat} {c : Int32}, sg q = c → ¬ c = -1 → q < e := fun {q c} h1 h2 => by
      rcases Nat.lt_or_ge q e with z | z
      · exact z
      · rw [hs q z] at h1; exact absurd h1.symm h2
    rcases m_cases hm with rfl | rfl | rfl | rfl | rfl | rfl | rfl
    · rw [prs_e0] at h
      rcases pBind_t h with ⟨r1, h1, c1, rfl⟩ | ⟨r1, h1, c1, h2⟩
      · exact ih 1 dp p _ _ r (by decide) hp h1
      · have g := ih 1 dp p _ _ r1 (by decide) hp h1
        by_cases c2 : ¬ (sg r1.ps = 60 ∨ sg r1.ps = 62 ∨ sg r1.ps = 61)
        · rw [if_pos c2] at h2; cases h2
          exact g
        · rw [if_neg c2] at h2
          have hlt : r1.ps < e := by
            rcases Nat.lt_or_ge r1.ps e with q | q
            · exact q
            · exact absurd (by rw [hs _ q]; decide) c2
          rcases pBind_t h2 with ⟨r2, h3, c3, rfl⟩ | ⟨r2, h3, c3, h4⟩
          · exact ih 1 dp (r1.ps + 1) _ _ r (by decide) (by omega) h3
          · have k := ih 1 dp (r1.ps + 1) _ _ r2 (by decide) (by omega) h3
            cases h4
            exact k
    · rw [prs_e1] at h
      rcases pBind_t h with ⟨r1, h1, c1, rfl⟩ | ⟨r1, h1, c1, h2⟩
      · exact ih 3 dp p _ _ r (by decide) hp h1
      · exact ih 2 dp _ _ _ r (by decide) (ih 3 dp p _ _ r1 (by decide) hp h1) h2
    · rw [prs_e2] at h
      by_cases c0 : ¬ (sg p = 43 ∨ sg p = 45)
      · rw [if_pos c0] at h; cases h
        exact hp
      · rw [if_neg c0] at h
        have hlt : p < e := by
          rcases Nat.lt_or_ge p e with q | q
          · exact q
          · exact absurd (by rw [hs _ q]; decide) c0
        rcases pBind_t h with ⟨r1, h1, c1, rfl⟩ | ⟨r1, h1, c1, h2⟩
        · exact ih 3 dp (p + 1) _ _ r (by decide) (by omega) h1
        · exact ih 2 dp _ _ _ r (by decide) (ih 3 dp (p + 1) _ _ r1 (by decide) (by omega) h1) h2
    · rw [prs_e3] at h
      rcases pBind_t h with ⟨r1, h1, c1, rfl⟩ | ⟨r1, h1, c1, h2⟩
      · exact ih 5 dp p _ _ r (by decide) hp h1
      · exact ih 4 dp _ _ _ r (by decide) (ih 5 dp p _ _ r1 (by decide) hp h1) h2
    · rw [prs_e4] at h
      by_cases c0 : ¬ (sg p = 42 ∨ sg p = 47)
      · rw [if_pos c0] at h; cases h
        exact hp
      · rw [if_neg c0] at h
        have hlt : p < e := by
          rcases Nat.lt_or_ge p e with q | q
          · exact q
          · exact absurd (by rw [hs _ q]; decide) c0
        rcases pBind_t h with ⟨r1, h1, c1, rfl⟩ | ⟨r1, h1, c1, h2⟩
        · exact ih 5 dp (p + 1) _ _ r (by decide) (by omega) h1
        · exact ih 4 dp _ _ _ r (by decide) (ih 5 dp (p + 1) _ _ r1 (by decide) (by omega) h1) h2
    · rw [prs_e5] at h
      have hm2 := mnS_le' hs 40 p hp
      rcases pBind_t h with ⟨r1, h1, c1, rfl⟩ | ⟨r1, h1, c1, h2⟩
      · exact ih 6 dp _ _ _ r (by decide) hm2 h1
      · have g := ih 6 dp _ _ _ r1 (by decide) hm2 h1
        split at h2
        · cases h2; exact g
        · cases h2; exact g
    · rw [prs_e6] at h
      split at h
      · cases h
        exact numN_le' hs 3 p 0 hp
      · split at h
        · rename_i c
          have hlt := nx c (by decide)
          split at h
          · cases h; exact hp
          · rcases pBind_t h with ⟨r1, h1, c1, rfl⟩ | ⟨r1, h1, c1, h2⟩
            · exact ih 0 (dp + 1) (p + 1) _ _ r (by decide) (by omega) h1
            · have g := ih 0 (dp + 1) (p + 1) _ _ r1 (by decide) (by omega) h1
              split at h2
              · rename_i c2
                have := nx c2 (by decide)
                cases h2
                show r1.ps + 1 ≤ e
                omega
              · cases h2; exact g
        · split at h
          · cases h; exact hp
          · rename_i c
            have hlt : p < e := by
              rcases Nat.lt_or_ge p e with q | q
              · exact q
              · rw [hs p q] at c; exact absurd (by decide) c
            cases h
            show p + 1 ≤ e
            omega
theorem parse_le (tx : Nat → Nat) (tl : Nat) : (parseS (sgn tx tl 40)).ps ≤ tl := by
  have h1 := parse_eq (sgk tx tl)
  refine prs_le (e := tl) (fun p hp => ?_) 334 0 0 0 [] pZ _ (by decide) (Nat.zero_le _) h1
  unfold sgn
  rw [if_neg (fun z => by omega)]
theorem MB.text {m : Nat} {P P' : pM} {S : pS} {li la : List Nat} (H : MB m P S) (K : Kp li la P P') (hi : ∀ k, k = 1 ∨ k = 18 ∨ k = 22 ∨ k = 33 ∨ k = 39 → k ∉ li) (ha : ∀ k, k ≤ 5 ∨ k = 8 ∨ k = 9 ∨ k = 11 ∨ k = 17 ∨ k = 18 ∨ k = 19 ∨ k = 24 ∨ k = 25 ∨ k = 26 → k ∉ la) {v : Nat} (h6 : P'.I 6 = nI v) : MB m P' (S.sTl v) := by
  obtain ⟨b1, b2, b3, b4, b5, b6, b7, b8, b9⟩ := H
  have eI : ∀ k, k = 1 ∨ k = 18 ∨ k = 22 ∨ k = 33 ∨ k = 39 → P'.I k = P.I k := fun k hk => K.1 k (hi k hk)
  have eA : ∀ k, k ≤ 5 ∨ k = 8 ∨ k = 9 ∨ k = 11 ∨ k = 17 ∨ k = 18 ∨ k = 19 ∨ k = 24 ∨ k = 25 ∨ k = 26 → P'.A k = P.A k := fun k hk => K.2.1 k (ha k hk)
  refine ⟨(eI 1 (by simp)).trans b1, ?_, ?_, ?_, h6, b6.kp K (hi _ (by simp)) (ha _ (by simp)) (ha _ (by simp)), ?_, ?_, ?_⟩
  · rw [eA 2 (by simp), eA 3 (by simp), eA 4 (by simp)]; exact b2
  · rw [eA 1 (by simp)]; exact b3
  · rw [eA 5 (by simp)]; exact b4
  · unfold UndR
    rw [eI 22 (by simp), eA 11 (by simp)]; exact b7
  · unfold RgR
    rw [eI 33 (by simp), eA 17 (by simp), eA 18 (by simp), eA 19 (by simp)]; exact b8
  · unfold KeR
    rw [eI 39 (by simp), eA 24 (by simp), eA 25 (by simp), eA 26 (by simp)]; exact b9
theorem TxB.le {N N' : Nat} {fb : Nat → Int32} {tx : Nat → Nat} (h : TxB N fb tx) (hl : N' ≤ N) : TxB N' fb tx := fun j hj => h j (by omega)
/-- the outcome of reading: at, wrong, answer -/
def rdO (sg : Int32) (c k p : Nat) (w : Int32) : Nat × Int32 × Int32 := if eX10_fine w = 0 then (p, w, 0) else if eX10_in sg (nI c) (nI c + nI k - 1) = 0 then (p, nI p, 0) else (p + 1, w, sg - nI c)
def RD (h0 h : pz_H) (m : Nat) (P0 : pM) (le tp p : Nat) (w : Int32) (cm ac : Nat → Int32) : Prop := ∃ P, MI h0 h m P ∧ Kp [6, 9, 11, 12, 13, 14, 19] [7, 16] P0 P ∧ P.rd = some (m + 5) ∧ P.I 6 = 0 ∧ P.I 11 = nI le ∧ P.I 12 = nI tp ∧ P.I 13 = nI p ∧ P.I 14 = w ∧ P.A 7 = cm ∧ P.A 16 = ac
section RDS
variable {Ex : State → Nat → Prop} {Q : Option Value → pz_H → Prop} {d bc bs : Nat} {h0 h h' : pz_H} {m : Nat} {S : pS} {oT : Option pW} {T : pW} {lo lm : Int32} {rw : List Int64} {zz : pX}
variable {P P0 : pM} {le tp p : Nat} {w : Int32} {cm ac : Nat → Int32} {tx : Nat → Nat}
theorem RD.is (H : RD h0 h m P0 le tp p w cm ac) : pz_is h m 10 := by
  obtain ⟨P, h1, -⟩ := H
  exact h1.is
theorem RD.g {k j : Nat} (H : RD h0 h m P0 le tp p w cm ac) (hk : refO k = some j) {K : Nat → Prop} : pz_gR h m 10 k K ↔ K (m + j) := by
  obtain ⟨P, h1, -⟩ := H
  exact h1.gR hk
theorem RD.n (H : RD h0 h m P0 le tp p w cm ac) {K : Int32 → Prop} : pz_gI h m 10 1 K ↔ K (P0.I 1) := by
  obtain ⟨P, h1, K1, -⟩ := H
  rw [h1.gI rfl, K1.1 1 (by decide)]
theorem RD.le_ (H : RD h0 h m P0 le tp p w cm ac) {K : Int32 → Prop} : pz_gI h m 10 11 K ↔ K (nI le) := by
  obtain ⟨P, h1, -, -, -, e, -⟩ := H
  rw [h1.gI rfl, e]
theorem RD.at_ (H : RD h0 h m P0 le tp p w cm ac) {K : Int32 → Prop} : pz_gI h m 10 13 K ↔ K (nI p) := by
  obtain ⟨P, h1, -, -, -, -, -, e, -⟩ := H
  rw [h1.gI rfl, e]
theorem RD.wr (H : RD h0 h m P0 le tp p w cm ac) {K : Int32 → Prop} : pz_gI h m 10 14 K ↔ K w := by
  obtain ⟨P, h1, -, -, -, -, -, -, e, -⟩ := H
  rw [h1.gI rfl, e]
theorem RD.s13 {p' : Nat} {v : Int32} (H : RD h0 h m P0 le tp p w cm ac) (hv : v = nI p') {K : pz_H → Prop} (f : ∀ h', RD h0 h' m P0 le tp p' w cm ac → K h') : pz_pF h m 10 13 (.int v) K := by
  obtain ⟨P, h1, K1, e1, e2, e3, e4, e5, e6, e7, e8⟩ := H
  exact h1.pI rfl (fun h' H' => f h' ⟨_, H', K1.sI (by simp), e1, e2, e3, e4, hv, e6, e7, e8⟩)
theorem RD.s14 {v : Int32} (H : RD h0 h m P0 le tp p w cm ac) {K : pz_H → Prop} (f : ∀ h', RD h0 h' m P0 le tp p v cm ac → K h') : pz_pF h m 10 14 (.int v) K := by
  obtain ⟨P, h1, K1, e1, e2, e3, e4, e5, e6, e7, e8⟩ := H
  exact h1.pI rfl (fun h' H' => f h' ⟨_, H', K1.sI (by simp), e1, e2, e3, e4, e5, rfl, e7, e8⟩)
theorem RD.rC {q : Nat} {ix : Int32} (H : RD h0 h m P0 le tp p w cm ac) (hix : ix = nI q) (hq : q < 30) {K : Int32 → Prop} : pz_rI h (m + 7) ix K ↔ K (cm q) := by
  obtain ⟨P, h1, -, -, -, -, -, -, -, rfl, -⟩ := H
  exact h1.rI (j := 7) rfl hix hq
theorem RD.sC {q : Nat} {ix x : Int32} (H : RD h0 h m P0 le tp p w cm ac) (hix : ix = nI q) (hq : q < 30) {K : pz_H → Prop} (f : ∀ h', RD h0 h' m P0 le tp p w (upd cm q x) ac → K h') : pz_sI h (m + 7) ix x K := by
  obtain ⟨P, h1, K1, e1, e2, e3, e4, e5, e6, rfl, e8⟩ := H
  exact h1.sI (j := 7) rfl hix hq (fun h' H' => f h' ⟨_, H', K1.sA (by simp), e1, e2, e3, e4, e5, e6, rfl, e8⟩)
theorem RD.sAc {q : Nat} {ix x : Int32} (H : RD h0 h m P0 le tp p w cm ac) (hix : ix = nI q) (hq : q < 240) {K : pz_H → Prop} (f : ∀ h', RD h0 h' m P0 le tp p w cm (upd ac q x) → K h') : pz_sI h (m + 16) ix x K := by
  obtain ⟨P, h1, K1, e1, e2, e3, e4, e5, e6, e7, rfl⟩ := H
  exact h1.sI (j := 16) rfl hix hq (fun h' H' => f h' ⟨_, H', K1.sA (by simp), e1, e2, e3, e4, e5, e6, e7, rfl⟩)
theorem RD.here (H : RD h0 h m P0 le tp p w cm ac) (hx : TxB le (P0.A 5) tx) (hle : le ≤ 80) (htp : tp < 1000) (hp : p < 2000) (hq : Q (some (.int (sgn tx le tp p))) h) : pz_V mX10_here Ex Q d bc bs 0 [(0, .ref m)] [] h := by
  have H0 := H
  obtain ⟨P, h1, K1, e1, e2, e3, e4, e5, e6, e7, e8⟩ := H
  unfold sgn at hq
  refine wX10_here_0 (H0.at_.mpr (H0.le_.mpr ⟨fun hc => ?_, fun hc => H0.at_.mpr ((h1.gI rfl).mpr ?_)⟩))
  · rw [if_neg (fun z => absurd hc (nI_ge z.1 (by omega)))] at hq; exact hq
  · rw [e4]
    refine ⟨fun hc2 => ?_, fun hc2 => ?_⟩
    · rw [if_neg (fun z => absurd hc2 (nI_ge z.2 (by omega)))] at hq; exact hq
    · have g1 : p < le := by
        rcases Nat.lt_or_ge p le with z | z
        · exact z
        · exact absurd (nI_le z (by omega)) hc
      have g2 : p < tp := by
        rcases Nat.lt_or_ge p tp with z | z
        · exact z
        · exact absurd (nI_le z (by omega)) hc2
      rw [if_pos ⟨g1, g2⟩] at hq
      refine (h1.gD e1).mpr (H0.at_.mpr ((h1.rB (j := 5) (q := p) rfl rfl (by omega)).mpr ?_))
      rw [K1.2.1 5 (by decide), (hx p g1).1]
      exact hq
theorem RD.fault {v : Int32} (H : RD h0 h m P0 le tp p w cm ac) (hd : 1 ≤ d) (hq : ∀ h', RD h0 h' m P0 le tp p (if eX10_fine w = 0 then w else v) cm ac → Q none h') : pz_V mX10_fault Ex Q d bc bs 0 [(0, .ref m), (1, .int v)] [] h := by
  refine wX10_fault_0 hd ⟨H.is, H.wr.mpr ⟨fun hf => ?_, fun hf => H.s14 (fun h' H' => ?_)⟩⟩
  · rw [if_pos hf] at hq; exact hq h H
  · rw [if_neg hf] at hq; exact hq h' H'
theorem RD.passes {c : Int32} (H : RD h0 h m P0 le tp p w cm ac) (hx : TxB le (P0.A 5) tx) (hle : le ≤ 80) (htp : tp < 1000) (hp : p < 2000) (hd : 1 ≤ d) (hq : ∀ h', RD h0 h' m P0 le tp (if eX10_fine w = 0 then p else if sgn tx le tp p = c then p + 1 else p) w cm ac → Q (some (.int (if eX10_fine w = 0 then 0 else if sgn tx le tp p = c then 1 else 0))) h') : pz_V mX10_passes Ex Q d bc bs 0 [(0, .ref m), (1, .int c)] [] h := by
  refine wX10_passes_0 hd ⟨H.is, H.wr.mpr ⟨fun hf => ?_, fun hf => ⟨H.is, H.here hx hle htp hp ⟨_, rfl, ⟨fun he => H.at_.mpr (H.s13 (nI_1 p) (fun h' H' => ?_)), fun hne => ?_⟩⟩⟩⟩⟩
  · rw [if_pos hf, if_pos hf] at hq; exact hq h H
  · rw [if_neg hf, if_neg hf, if_pos he, if_pos he] at hq; exact hq h' H'
  · rw [if_neg hf, if_neg hf, if_neg hne, if_neg hne] at hq; exact hq h H
theorem in_le {sg : Int32} {c k : Nat} (hck : c + k ≤ 128) (h : ¬ eX10_in sg (nI c) (nI c + nI k - 1) = 0) : ∃ j, j < k ∧ sg = nI (c + j) := by
  rcases Nat.eq_zero_or_pos k with z | z
  · subst z
    exfalso
    apply h
    unfold eX10_in
    by_cases c1 : sg < nI c
    · rw [if_pos c1]
    · rw [if_neg c1, if_pos]
      rw [lt_i] at c1 ⊢
      rw [nI_toInt (by omega)] at c1
      rw [show nI c + nI 0 - 1 = nI c - 1 by rw [nI_add]; rfl]
      rcases Nat.eq_zero_or_pos c with y | y
      · subst y
        have : (nI 0 - 1 : Int32).toInt = -1 := by decide
        omega
      · obtain ⟨c', rfl⟩ : ∃ c', c = c' + 1 := ⟨c - 1, by omega⟩
        rw [nI_pred, nI_toInt (by omega)]
        omega
  · have ec : nI c + nI k - (1 : Int32) = nI (c + k - 1) := by
      rw [nI_add]
      obtain ⟨y, hy⟩ : ∃ y, c + k = y + 1 := ⟨c + k - 1, by omega⟩
      rw [hy]
      exact nI_pred y
    rw [ec] at h
    obtain ⟨y, h1, h2, h3⟩ := (within_1 (v := sg) (lo := c) (hi := c + k - 1) (by omega) (by omega)).mp h
    exact ⟨y - c, by omega, by rw [h3]; congr 1; omega⟩
theorem RD.one {c k : Nat} (H : RD h0 h m P0 le tp p w cm ac) (hx : TxB le (P0.A 5) tx) (hle : le ≤ 80) (htp : tp < 1000) (hp : p < 2000) (hck : c + k ≤ 128) (hd : 2 ≤ d) (hq : ∀ h', RD h0 h' m P0 le tp (rdO (sgn tx le tp p) c k p w).1 (rdO (sgn tx le tp p) c k p w).2.1 cm ac → Q (some (.int (rdO (sgn tx le tp p) c k p w).2.2)) h') : pz_V mX10_oneOf Ex Q d bc bs 0 [(0, .ref m), (1, .int (nI c)), (2, .int (nI k))] [] h := by
  unfold rdO at hq
  refine wX10_oneOf_0 hd ⟨H.is, H.wr.mpr ⟨fun hf => ⟨H.is, H.here hx hle htp hp ⟨_, rfl, ⟨fun hy => H.at_.mpr (H.s13 (nI_1 p) (fun h' H' => ?_)), fun hno => H.at_.mpr ⟨H.is, H.fault (Nat.le_refl _) (fun h' H' => ⟨rfl, ?_⟩)⟩⟩⟩⟩, fun hf => ?_⟩⟩
  · rw [if_neg hf, if_neg hy] at hq
    obtain ⟨j, hj, ej⟩ := in_le hck hy
    have hpl : p < le ∧ p < tp := by
      by_cases z : p < le ∧ p < tp
      · exact z
      · exfalso
        unfold sgn at ej
        rw [if_neg z] at ej
        exact ni_m1 (i := c + j) (by omega) ej.symm
    have et : sgn tx le tp p = nI (tx p) := by unfold sgn; rw [if_pos hpl]
    have htx : tx p = c + j := by
      rw [et] at ej
      exact (nI_inj' (by have := (hx p hpl.1).2.2; omega) (by omega)).mp ej
    have H0 := H'
    obtain ⟨P, h1, K1, e1, e2, e3, e4, e5, e6, e7, e8⟩ := H'
    refine (h1.gD e1).mpr (H0.at_.mpr ((h1.rB (j := 5) (q := p) rfl (nI_pred p) (by omega)).mpr ?_))
    rw [K1.2.1 5 (by decide), (hx p hpl.1).2.1 (by omega), ← et]
    exact hq h' H0
  · rw [if_neg hf, if_pos hno] at hq
    rw [if_neg hf] at H'
    exact hq h' H'
  · rw [if_pos hf] at hq
    exact hq h H
theorem RD.wasRight (H : RD h0 h m P0 le tp p w cm ac) (hle : le ≤ 80) (hp : p < 2000) (hd : 2 ≤ d) (hq : ∀ h', RD h0 h' m P0 le tp p (if le ≤ p then w else if eX10_fine w = 0 then w else nI p) cm ac → Q (some (.int (eX10_fine (if le ≤ p then w else if eX10_fine w = 0 then w else nI p)))) h') : pz_V mX10_wasRight Ex Q d bc bs 0 [(0, .ref m)] [] h := by
  refine wX10_wasRight_0 hd (H.at_.mpr (H.le_.mpr ⟨fun hc => ⟨H.is, H.wr.mpr ?_⟩, fun hc => H.at_.mpr ⟨H.is, H.fault (Nat.le_refl _) (fun h' H' => ⟨rfl, H'.is, H'.wr.mpr ?_⟩)⟩⟩))
  · rw [if_pos ((nI_leI (by omega) (by omega)).mp hc)] at hq
    exact hq h H
  · rw [if_neg (fun z => hc (nI_le z (by omega)))] at hq
    exact hq h' H'
theorem m_beginText {k : Nat} (H : MI h0 h m P) (h6 : P.I 6 = nI le) (hd : 1 ≤ d) (hq : ∀ h', RD h0 h' m P le k 0 (-1) (P.A 7) (P.A 16) → Q none h') : pz_V mX10_beginText Ex Q d bc bs 0 [(0, .ref m), (1, .int (nI k))] [] h := by
  refine wX10_beginText_0 hd ((H.gR rfl).mpr ((H.gI rfl).mpr ⟨H.is, m_begin H (fun h1 H1 => ⟨rfl, H1.pI rfl (fun h2 H2 => hq h2 ⟨_, H2, ((((((Kp.rf.sD).sI (by simp)).sI (by simp)).sI (by simp)).sI (by simp)).sI (by simp)), rfl, rfl, ?_, rfl, rfl, rfl, rfl, rfl⟩)⟩)⟩))
  exact h6
/-- the text read: it stands empty, all else as before -/
theorem RD.inv (H : RD h0 h m P0 le tp p w cm ac) (B : MB m P0 S) (h3 : P0.I 27 = -1 ∧ P0.ru = gh h0 m) (h4 : RowM P0 S.rw) : MInv h0 h m (S.sTl 0) := by
  obtain ⟨P, h1, K1, e1, e2, e3, e4, e5, e6, e7, e8⟩ := H
  exact MInv.of h1 (B.text K1 (by intro k hk; simp; omega) (by intro k hk; simp; omega) e2) ⟨(K1.1 27 (by decide)).trans h3.1, K1.2.2.2.trans h3.2⟩ (h4.kp K1 (by decide) (by decide))
/-! a rule is read -/
theorem m_readRule (H : MI h0 h m P) (B : MB m P S) (O : SOk S) (hd : 81 ≤ d) (hres : ∀ h' P', MI h0 h' m P' → Kp [6, 9, 11, 12, 13, 14, 19] [7, 16] P P' → P'.I 6 = 0 → (∀ p, (rdR S.tx S.tl).1 = some p → P'.I 14 = nI p → Q (some (.int 0)) h') ∧ ((rdR S.tx S.tl).1 = none → Q (some (.int 1)) h')) : pz_V mX10_readRule Ex Q d bc bs 0 [(0, .ref m)] [] h := by
  have htl := O.2.1
  have hx : TxB S.tl (P.A 5) S.tx := B.2.2.2.1.le htl
  refine wX10_readRule_0 hd ⟨H.is, m_beginText (k := 40) H B.2.2.2.2.1 (by decide) (fun h1 H1 => ⟨rfl, ?_⟩)⟩
  obtain ⟨P1, g1, K1, e1, e2, e3, e4, e5, e6, e7, e8⟩ := H1
  refine g1.pI rfl (fun h2 H2 => (H2.gI rfl).mpr ?_)
  rw [show (P1.sI 19 0).I 11 = nI S.tl from e3]
  have K2 : Kp [6, 9, 11, 12, 13, 14, 19] [7, 16] P (P1.sI 19 0) := K1.sI (by simp)
  refine ⟨fun hz => ?_, fun hz => ?_⟩
  · have t0 : S.tl = 0 := by
      rcases Nat.eq_zero_or_pos S.tl with z | z
      · exact z
      · exact absurd hz (nI_nle z (by omega))
    have er : (rdR S.tx S.tl).1 = none := by unfold rdR; rw [if_pos t0]
    have R2 : RD h0 h2 m P S.tl 40 0 (-1) (P.A 7) (P.A 16) := ⟨_, H2, K2, e1, e2, e3, e4, e5, e6, e7, e8⟩
    refine ⟨R2.is, R2.wasRight htl (by decide) (Nat.le_refl _) (fun h3 R3 => ⟨_, rfl, ?_⟩)⟩
    rw [if_pos (by omega)] at R3 ⊢
    obtain ⟨P3, q1, L1, f1, f2, -⟩ := R3
    exact ⟨Or.inr rfl, (hres h3 P3 q1 L1 f2).2 er⟩
  · have t0 : ¬ S.tl = 0 := fun z => hz (by rw [z]; decide)
    refine ⟨H2.is, m_held (j := 5) (N := 80) (le := S.tl) (tx := S.tx) H2 rfl (by exact e1) e3 htl e4 e5 e6 (by show TxB S.tl (P1.A 5) S.tx; rw [K1.2.1 5 (by decide)]; exact hx) (by decide) (fun h3 p3 w3 v3 H3 a1 a2 => ⟨_, rfl, ?_⟩)⟩
    have R3 : RD h0 h3 m P S.tl 40 p3 w3 (P.A 7) (P.A 16) := ⟨_, H3, (K2.sI (by simp)).sI (by simp), e1, e2, e3, e4, rfl, rfl, e7, e8⟩
    have pl := parse_le S.tx S.tl
    cases ok : (parseS (sgn S.tx S.tl 40)).ok with
    | true =>
      obtain ⟨z1, z2, -⟩ := a1 ok
      subst z1 z2
      refine ⟨R3.is, R3.wasRight htl (by omega) (Nat.le_refl _) (fun h4 R4 => ⟨_, rfl, ?_⟩)⟩
      by_cases c : (parseS (sgn S.tx S.tl 40)).ps = S.tl
      · have er : (rdR S.tx S.tl).1 = none := by unfold rdR; rw [if_neg t0, if_pos ⟨ok, c⟩]
        rw [if_pos (by omega)] at R4 ⊢
        obtain ⟨P4, q1, L1, f1, f2, -⟩ := R4
        exact ⟨Or.inr rfl, (hres h4 P4 q1 L1 f2).2 er⟩
      · have er : (rdR S.tx S.tl).1 = some (parseS (sgn S.tx S.tl 40)).ps := by unfold rdR; rw [if_neg t0, if_neg (fun z => c z.2)]
        rw [if_neg (by omega), if_neg fine_1] at R4 ⊢
        rw [fine_0 (by omega)]
        obtain ⟨P4, q1, L1, f1, f2, -, -, -, f6, -⟩ := R4
        exact ⟨Or.inl rfl, (hres h4 P4 q1 L1 f2).1 _ er f6⟩
    | false =>
      obtain ⟨z1, z2⟩ := a2 ok
      subst z1
      have er : (rdR S.tx S.tl).1 = some (parseS (sgn S.tx S.tl 40)).ps := by unfold rdR; rw [if_neg t0, if_neg (fun z => by rw [ok] at z; exact absurd z.1 (by decide))]
      have fz : eX10_fine (nI (parseS (sgn S.tx S.tl 40)).ps) = 0 := fine_0 (by omega)
      have ew : (if S.tl ≤ p3 then nI (parseS (sgn S.tx S.tl 40)).ps else if eX10_fine (nI (parseS (sgn S.tx S.tl 40)).ps) = 0 then nI (parseS (sgn S.tx S.tl 40)).ps else nI p3) = nI (parseS (sgn S.tx S.tl 40)).ps := by
        rw [if_pos fz]
        split <;> rfl
      refine ⟨R3.is, R3.wasRight htl (by omega) (Nat.le_refl _) (fun h4 R4 => ⟨_, rfl, ?_⟩)⟩
      rw [ew] at R4 ⊢
      rw [fz]
      obtain ⟨P4, q1, L1, f1, f2, -, -, -, f6, -⟩ := R4
      exact ⟨Or.inl rfl, (hres h4 P4 q1 L1 f2).1 _ er f6⟩
end RDS
