/-! ===== the reference: scratch cells; isRight, leaks, reads, years, duck ===== -/
abbrev pX.cm (z : pX) : Nat → Int32 := z.1
abbrev pX.ac (z : pX) : Nat → Int32 := z.2.1
abbrev pX.mn (z : pX) : Nat → Int32 := z.2.2.1
abbrev pX.he (z : pX) : Nat → Int32 := z.2.2.2.1
abbrev pX.pa (z : pX) : Nat → Int64 := z.2.2.2.2.1
abbrev pX.np (z : pX) : Nat → Int64 := z.2.2.2.2.2.1
abbrev pX.dw (z : pX) : Int32 := z.2.2.2.2.2.2.1
abbrev pX.r8 (z : pX) : Nat → Int32 := z.2.2.2.2.2.2.2
abbrev pX.sCm (z : pX) (f : Nat → Int32) : pX := (f, z.ac, z.mn, z.he, z.pa, z.np, z.dw, z.r8)
abbrev pX.sAc (z : pX) (f : Nat → Int32) : pX := (z.cm, f, z.mn, z.he, z.pa, z.np, z.dw, z.r8)
abbrev pX.sMn (z : pX) (f : Nat → Int32) : pX := (z.cm, z.ac, f, z.he, z.pa, z.np, z.dw, z.r8)
abbrev pX.sHe (z : pX) (f : Nat → Int32) : pX := (z.cm, z.ac, z.mn, f, z.pa, z.np, z.dw, z.r8)
abbrev pX.sPa (z : pX) (f : Nat → Int64) : pX := (z.cm, z.ac, z.mn, z.he, f, z.np, z.dw, z.r8)
abbrev pX.sNp (z : pX) (f : Nat → Int64) : pX := (z.cm, z.ac, z.mn, z.he, z.pa, f, z.dw, z.r8)
abbrev pX.sDw (z : pX) (v : Int32) : pX := (z.cm, z.ac, z.mn, z.he, z.pa, z.np, v, z.r8)
section MR2
variable {Ex : State → Nat → Prop} {Q : Option Value → pz_H → Prop} {d bc bs : Nat} {h0 h h' : pz_H} {m : Nat} {S : pS} {oT : Option pW} {T : pW} {lo lm : Int32} {rw : List Int64} {zz : pX}
theorem MW.sLo {v : Int32} (H : MW h0 h m S zz oT lo lm rw) {K : pz_H → Prop} (f : ∀ h', MW h0 h' m S zz none v lm rw → K h') : pz_pF h m 10 27 (.int v) K := by
  obtain ⟨P, h1, h2, h3, h4, h5, h6, h7⟩ := H
  exact h1.pI rfl (fun h' H' => f h' ⟨_, H', h2.kp (li := [27]) (la := []) (Kp.rf.sI (by simp)) (by intro k hk; simp; omega) (by simp), trivial, rfl, h5, h6, h7⟩)
theorem MW.sLm {v : Int32} (H : MW h0 h m S zz oT lo lm rw) {K : pz_H → Prop} (f : ∀ h', MW h0 h' m S zz none lo v rw → K h') : pz_pF h m 10 28 (.int v) K := by
  obtain ⟨P, h1, h2, h3, h4, h5, h6, h7⟩ := H
  exact h1.pI rfl (fun h' H' => f h' ⟨_, H', h2.kp (li := [28]) (la := []) (Kp.rf.sI (by simp)) (by intro k hk; simp; omega) (by simp), trivial, h4, rfl, h6, h7⟩)
theorem MW.gDw (H : MW h0 h m S zz oT lo lm rw) {K : Int32 → Prop} : pz_gI h m 10 38 K ↔ K zz.dw := by
  obtain ⟨P, h1, -, -, -, -, -, rfl, -⟩ := H
  exact h1.gI rfl
theorem MW.sDw {v : Int32} (H : MW h0 h m S zz oT lo lm rw) {K : pz_H → Prop} (f : ∀ h', MW h0 h' m S (zz.sDw v) oT lo lm rw → K h') : pz_pF h m 10 38 (.int v) K := by
  obtain ⟨P, h1, h2, h3, h4, h5, h6, rfl, hg⟩ := H
  exact h1.pI rfl (fun h' H' => f h' ⟨_, H', h2.kp (li := [38]) (la := []) (Kp.rf.sI (by simp)) (by intro k hk; simp; omega) (by simp), h3.cg rfl, h4, h5, h6, rfl, hg⟩)
theorem MW.rMn {q : Nat} {ix : Int32} (H : MW h0 h m S zz oT lo lm rw) (hix : ix = nI q) (hq : q < 12600) {K : Int32 → Prop} : pz_rI h (m + 20) ix K ↔ K (zz.mn q) := by
  obtain ⟨P, h1, -, -, -, -, -, rfl, -⟩ := H
  exact h1.rI (j := 20) rfl hix hq
theorem MW.sMn {q : Nat} {ix x : Int32} (H : MW h0 h m S zz oT lo lm rw) (hix : ix = nI q) (hq : q < 12600) {K : pz_H → Prop} (f : ∀ h', MW h0 h' m S (zz.sMn (upd zz.mn q x)) oT lo lm rw → K h') : pz_sI h (m + 20) ix x K := by
  obtain ⟨P, h1, h2, h3, h4, h5, h6, rfl, hg⟩ := H
  exact h1.sI (j := 20) rfl hix hq (fun h' H' => f h' ⟨_, H', h2.kp (li := []) (la := [20]) (Kp.rf.sA (by simp)) (by simp) (by intro k hk; simp; omega), h3.cg rfl, h4, h5, h6, rfl, hg⟩)
theorem MW.rPa {q : Nat} (H : MW h0 h m S zz oT lo lm rw) (hq : q < 6) {K : Int64 → Prop} : pz_rJ h (m + 22) (nI q) K ↔ K (zz.pa q) := by
  obtain ⟨P, h1, -, -, -, -, -, rfl, -⟩ := H
  exact h1.rJ (j := 22) rfl rfl hq
theorem MW.rNp {q : Nat} (H : MW h0 h m S zz oT lo lm rw) (hq : q < 6) {K : Int64 → Prop} : pz_rJ h (m + 23) (nI q) K ↔ K (zz.np q) := by
  obtain ⟨P, h1, -, -, -, -, -, rfl, -⟩ := H
  exact h1.rJ (j := 23) rfl rfl hq
theorem MW.sPa {q : Nat} {x : Int64} (H : MW h0 h m S zz oT lo lm rw) (hq : q < 6) {K : pz_H → Prop} (f : ∀ h', MW h0 h' m S (zz.sPa (vp_updL zz.pa q x)) oT lo lm rw → K h') : pz_sJ h (m + 22) (nI q) x K := by
  obtain ⟨P, h1, h2, h3, h4, h5, h6, rfl, hg⟩ := H
  exact h1.sJ (j := 22) rfl rfl hq (fun h' H' => f h' ⟨_, H', h2.kp (li := []) (la := [22]) (Kp.rf.sJ (by simp)) (by simp) (by intro k hk; simp; omega), h3.cg rfl, h4, h5, h6, rfl, hg⟩)
theorem MW.sNp {q : Nat} {x : Int64} (H : MW h0 h m S zz oT lo lm rw) (hq : q < 6) {K : pz_H → Prop} (f : ∀ h', MW h0 h' m S (zz.sNp (vp_updL zz.np q x)) oT lo lm rw → K h') : pz_sJ h (m + 23) (nI q) x K := by
  obtain ⟨P, h1, h2, h3, h4, h5, h6, rfl, hg⟩ := H
  exact h1.sJ (j := 23) rfl rfl hq (fun h' H' => f h' ⟨_, H', h2.kp (li := []) (la := [23]) (Kp.rf.sJ (by simp)) (by simp) (by intro k hk; simp; omega), h3.cg rfl, h4, h5, h6, rfl, hg⟩)
/-! rings -/
theorem MW.rg (H : MW h0 h m S zz oT lo lm rw) {K : Int32 → Prop} : pz_gI h m 10 33 K ↔ K (nI S.R.len) := by
  obtain ⟨P, h1, h2, -⟩ := H
  rw [h1.gI rfl, h2.2.2.2.2.2.2.2.1.1]
theorem MW.rgA {j : Nat} (H : MW h0 h m S zz oT lo lm rw) (O : SOk S) (hj : j < S.R.len) {K : Int32 → Prop} : pz_rI h (m + 17) (nI j) K ↔ K (S.R.la j) := by
  obtain ⟨P, h1, h2, -⟩ := H
  have := O.2.2.2.1.1
  rw [h1.rI (j := 17) (q := j) rfl rfl (by omega), (h2.2.2.2.2.2.2.2.1.2 j hj).1]
theorem MW.rgD {j : Nat} (H : MW h0 h m S zz oT lo lm rw) (O : SOk S) (hj : j < S.R.len) {K : Int32 → Prop} : pz_rI h (m + 18) (nI j) K ↔ K (S.R.da j) := by
  obtain ⟨P, h1, h2, -⟩ := H
  have := O.2.2.2.1.1
  rw [h1.rI (j := 18) (q := j) rfl rfl (by omega), (h2.2.2.2.2.2.2.2.1.2 j hj).2.1]
theorem MW.rgL {j : Nat} (H : MW h0 h m S zz oT lo lm rw) (O : SOk S) (hj : j < S.R.len) {K : Int32 → Prop} : pz_rI h (m + 19) (nI j) K ↔ K (S.R.le j) := by
  obtain ⟨P, h1, h2, -⟩ := H
  have := O.2.2.2.1.1
  rw [h1.rI (j := 19) (q := j) rfl rfl (by omega), (h2.2.2.2.2.2.2.2.1.2 j hj).2.2]
theorem MW.right {f : Nat → Int32} {a b : Int32} (H : MW h0 h m S zz oT (-1) lm rw) (O : SOk S) (hf : ∀ i, i < S.n → f i = S.W.lk i + (if nI i = a then b else 0)) (hb : ∀ i, i < S.n → Bt (f i) 0 18) (hd : 83 ≤ d) (hq : ∀ (r : Int32) h', (r = 0 ↔ fitAll S.rv S.br S.dn S.n S.R (S.W.sLk f) = false) → MW h0 h' m S zz none (-1) b rw → Q (some (.int r)) h') : pz_V mX10_isRight Ex Q d bc bs 0 [(0, .ref m), (1, .int a), (2, .int b)] [] h := by
  have hR := O.2.2.2.1
  refine wX10_isRight_0 hd (H.sLo (fun h1 H1 => H1.sLm (fun h2 H2 => (H2.g rfl).mpr ((H2.g rfl).mpr (H2.lay O hf hb (fun h3 H3 => ⟨rfl, ?_⟩))))))
  generalize S.W.sLk f = T at H3 hq
  suffices G : ∀ (q t : Nat) (r : Int32) (h4 : pz_H), t + q = 21 → MW h0 h4 m S zz (some (daysW S.rv S.br S.dn S.n t T)) a b rw → (r = 0 ∨ r = 1) → (r = 1 ↔ ∀ t', t' < t → fitD S.R t' (daysW S.rv S.br S.dn S.n t' T).lv = true) → pz_V mX10_isRight Ex Q d bc bs 27 [(0, .ref m), (3, .int r), (4, .int (nI t))] [] h4 from G 21 0 1 h3 rfl H3 (Or.inr rfl) ⟨fun _ t' ht' => absurd ht' (Nat.not_lt_zero _), fun _ => rfl⟩
  intro q
  induction q with
  | zero =>
    intro t r h4 ht H4 hr hrr
    have e : t = 21 := ht
    subst e
    refine wX10_isRight_27 hd ⟨fun _ => H4.sLo (fun h5 H5 => ⟨hr, hq r h5 ⟨fun z => bool_f (fun y => ?_), fun z => ?_⟩ H5⟩), fun z => absurd (nI_lt (a := 20) (b := 21) (by decide) (by decide)) z⟩
    · have := hrr.mpr (fitAll_t.mp y)
      rw [z] at this
      exact absurd this (by decide)
    · rcases hr with y | y
      · exact y
      · rw [fitAll_t.mpr (hrr.mp y)] at z
        cases z
  | succ q ih =>
    intro t r h4 ht H4 hr hrr
    refine wX10_isRight_27 hd ⟨fun z => absurd z (nI_nlt (a := 20) (by omega) (by decide)), fun _ => ?_⟩
    suffices G2 : ∀ (q2 k : Nat) (r : Int32), k + q2 = S.R.len → (r = 0 ∨ r = 1) → (r = 1 ↔ (∀ t', t' < t → fitD S.R t' (daysW S.rv S.br S.dn S.n t' T).lv = true) ∧ ∀ j, j < k → S.R.da j = nI t → (daysW S.rv S.br S.dn S.n t T).lv (S.R.la j).toNatClampNeg = S.R.le j) → pz_V mX10_isRight Ex Q d bc bs 37 [(0, .ref m), (3, .int r), (4, .int (nI t)), (5, .int (nI k))] [] h4 from G2 S.R.len 0 r (Nat.zero_add _) hr ⟨fun y => ⟨hrr.mp y, fun j hj => absurd hj (Nat.not_lt_zero _)⟩, fun y => hrr.mpr y.1⟩
    intro q2
    induction q2 with
    | zero =>
      intro k r hk hr hrr
      have e : k = S.R.len := hk
      subst e
      refine wX10_isRight_37 hd (H4.rg.mpr ⟨fun _ => (H4.g rfl).mpr ⟨H4.is, H4.day O (Nat.le_refl _) (fun h5 H5 => ⟨rfl, ?_⟩)⟩, fun z => absurd (nI_le (Nat.le_refl _) (by have := hR.1; omega)) z⟩)
      rw [nI_1]
      refine ih (t + 1) r h5 (by omega) H5 hr ⟨fun y t' ht' => ?_, fun y => hrr.mpr ⟨fun t' ht' => y t' (by omega), fun j hj => fitD_t.mp (y t (by omega)) j hj⟩⟩
      obtain ⟨y1, y2⟩ := hrr.mp y
      by_cases e : t' = t
      · subst e
        exact fitD_t.mpr y2
      · exact y1 t' (by omega)
    | succ q2 ih2 =>
      intro k r hk hr hrr
      have hk2 : k < S.R.len := by omega
      have h10 := hR.1
      obtain ⟨⟨la, hla, ela⟩, -⟩ := hR.2 k hk2
      refine wX10_isRight_37 hd (H4.rg.mpr ⟨fun z => absurd z (nI_ge hk2 (by omega)), fun _ => ⟨fun z => ?_, fun z => ?_⟩⟩)
      · rw [nI_1]
        refine ih2 (k + 1) 0 (by omega) (Or.inl rfl) ⟨fun y => absurd y (by decide), fun y => ?_⟩
        have := hrr.mpr ⟨y.1, fun j hj => y.2 j (by omega)⟩
        rw [z] at this
        exact absurd this (by decide)
      · have r1 : r = 1 := hr.resolve_left z
        obtain ⟨y1, y2⟩ := hrr.mp r1
        refine (H4.g rfl).mpr ((H4.rgD O hk2).mpr ⟨fun hne => ?_, fun heq => (H4.g rfl).mpr ((H4.g rfl).mpr ((H4.rgA O hk2).mpr ?_))⟩)
        · rw [nI_1]
          refine ih2 (k + 1) 1 (by omega) (Or.inr rfl) ⟨fun _ => ⟨y1, fun j hj hd2 => ?_⟩, fun _ => rfl⟩
          by_cases e : j = k
          · subst e; exact absurd hd2 hne
          · exact y2 j (by omega) hd2
        · have ecl : (S.R.la k).toNatClampNeg = la := by rw [ela, clamp (by have := O.1; omega)]
          rw [ela]
          refine (H4.rT O hla).mpr ((H4.g rfl).mpr ((H4.rgL O hk2).mpr ⟨fun hne => ?_, fun he => ?_⟩))
          · rw [nI_1]
            refine ih2 (k + 1) 0 (by omega) (Or.inl rfl) ⟨fun y => absurd y (by decide), fun y => ?_⟩
            have := y.2 k (by omega) heq
            rw [ecl] at this
            exact absurd this hne
          · rw [nI_1]
            refine ih2 (k + 1) 1 (by omega) (Or.inr rfl) ⟨fun _ => ⟨y1, fun j hj hd2 => ?_⟩, fun _ => rfl⟩
            by_cases e : j = k
            · subst e
              rw [ecl]; exact he
            · exact y2 j (by omega) hd2
/-- with the leak k -/
theorem leak_f {k : Nat} (O : SOk S) (hk : k < 9 * S.n) : (∀ i, i < S.n → (leakK S.W k).lk i = S.W.lk i + (if nI i = nI (k / 9) then nI (k % 9 + 1) else 0)) ∧ (∀ i, i < S.n → Bt ((leakK S.W k).lk i) 0 18) := by
  have hn := O.1
  have e : ∀ i, i < S.n → (leakK S.W k).lk i = S.W.lk i + (if nI i = nI (k / 9) then nI (k % 9 + 1) else 0) := fun i hi => by
    show upd S.W.lk (k / 9) (S.W.lk (k / 9) + nI (k % 9 + 1)) i = _
    unfold upd
    by_cases c : i = k / 9
    · rw [if_pos c, c, if_pos rfl]
    · rw [if_neg c, if_neg (fun z => c ((nI_inj' (by omega) (by omega)).mp z)), Int32.add_zero]
  refine ⟨e, fun i hi => ?_⟩
  rw [e i hi]
  have b1 := (O.2.2.1.2.2.2 i hi).2.1
  split
  · exact (b1.add (Bt.lit (n := k % 9 + 1) (by omega)) (by omega) (by omega)).mono (by omega) (by omega)
  · rw [Int32.add_zero]; exact b1.mono (by omega) (by omega)
theorem M_leaks (H : MW h0 h m S zz oT (-1) lm S.rw) (O : SOk S) (hd : 84 ≤ d) (hq : ∀ h' T' lm' zz', MW h0 h' m S zz' T' (-1) lm' (s_leaks S.rv S.br S.dn S.n S.R S.W).2 → Q (some (.int (s_leaks S.rv S.br S.dn S.n S.R S.W).1)) h') : pz_V mX10_leaks Ex Q d bc bs 0 [(0, .ref m)] [] h := by
  have hn := O.1
  unfold s_leaks at hq
  refine wX10_leaks_0 hd (H.th (fun h1 H1 => H1.row0 (fun h2 H2 => ⟨H2.is, ?_⟩)))
  have main : ∀ (h3 : pz_H) (lm : Int32), MW h0 h3 m S zz none (-1) lm (lkS S.rv S.br S.dn S.n S.R S.W 0).2 → pz_V mX10_leaks Ex Q d bc bs 32 [(0, .ref m), (1, .int 0), (2, .int 0)] [] h3 := by
    intro h3 lm H3
    suffices G : ∀ f i h4 lm, i + f = S.n → MW h0 h4 m S zz none (-1) lm (lkS S.rv S.br S.dn S.n S.R S.W (9 * i)).2 → pz_V mX10_leaks Ex Q d bc bs 32 [(0, .ref m), (1, .int (lkS S.rv S.br S.dn S.n S.R S.W (9 * i)).1), (2, .int (nI i))] [] h4 from G S.n 0 h3 lm (Nat.zero_add _) H3
    intro f
    induction f with
    | zero =>
      intro i h4 lm hi H4
      have e : i = S.n := hi
      subst e
      exact wX10_leaks_32 hd (H4.n.mpr ⟨fun _ => hq h4 _ _ _ H4, fun z => absurd (nI_le (Nat.le_refl _) (by omega)) z⟩)
    | succ f ih =>
      intro i h4 lm hi H4
      refine wX10_leaks_32 hd (H4.n.mpr ⟨fun z => absurd z (nI_ge (by omega) (by omega)), fun _ => ?_⟩)
      suffices G2 : ∀ f2 mo h5 lm, mo + f2 = 9 → MW h0 h5 m S zz none (-1) lm (lkS S.rv S.br S.dn S.n S.R S.W (9 * i + mo)).2 → pz_V mX10_leaks Ex Q d bc bs 42 [(0, .ref m), (1, .int (lkS S.rv S.br S.dn S.n S.R S.W (9 * i + mo)).1), (2, .int (nI i)), (3, .int (nI (mo + 1)))] [] h5 from G2 9 0 h4 lm rfl H4
      intro f2
      induction f2 with
      | zero =>
        intro mo h5 lm hm H5
        have e : mo = 9 := hm
        subst e
        refine wX10_leaks_42 hd ⟨fun _ => ?_, fun z => absurd (nI_lt (a := 9) (b := 10) (by decide) (by decide)) z⟩
        rw [nI_1]
        exact ih (i + 1) h5 lm (by omega) H5
      | succ f2 ih2 =>
        intro mo h5 lm hm H5
        have g := ih2 (mo + 1)
        have hk : 9 * i + mo < 9 * S.n := by omega
        have e1 : (9 * i + mo) / 9 = i := by omega
        have e2 : (9 * i + mo) % 9 = mo := by omega
        obtain ⟨lf1, lf2⟩ := leak_f O hk
        rw [e1, e2] at lf1
        rw [show 9 * i + (mo + 1) = (9 * i + mo) + 1 from rfl, lkS, e1, e2] at g
        obtain ⟨c, c1, c2, c3, c4⟩ := lkS_ok (rv := S.rv) (br := S.br) (dn := S.dn) (n := S.n) (R := S.R) (W := S.W) (9 * i + mo) (by omega)
        refine wX10_leaks_42 hd ⟨fun z => absurd z (nI_nlt (a := 9) (by omega) (by decide)), fun _ => ⟨H5.is, H5.right (f := (leakK S.W (9 * i + mo)).lk) O lf1 lf2 (Nat.le_refl _) (fun r h6 hr H6 => ⟨_, rfl, ⟨fun z => ⟨fun z2 => ?_, fun z2 => ⟨H6.is, H6.tell (by omega) (fun h7 H7 => ⟨rfl, H7.is, H7.tell (by simp; omega) (fun h8 H8 => ⟨rfl, ?_⟩)⟩)⟩⟩, fun z => ?_⟩⟩)⟩⟩
        · have ft : fitAll S.rv S.br S.dn S.n S.R (leakK S.W (9 * i + mo)) = true := by
            cases y : fitAll S.rv S.br S.dn S.n S.R (leakK S.W (9 * i + mo))
            · exact absurd (hr.mpr y) z
            · rfl
          rw [if_pos ft] at g
          dsimp only at g
          rw [if_neg z2] at g
          rw [nI_1]
          exact g h6 _ (by omega) H6
        · have ft : fitAll S.rv S.br S.dn S.n S.R (leakK S.W (9 * i + mo)) = true := by
            cases y : fitAll S.rv S.br S.dn S.n S.R (leakK S.W (9 * i + mo))
            · exact absurd (hr.mpr y) z
            · rfl
          rw [if_pos ft] at g
          dsimp only at g
          rw [if_pos z2] at g
          rw [nI_1]
          exact g h8 _ (by omega) H8
        · have ff : ¬ fitAll S.rv S.br S.dn S.n S.R (leakK S.W (9 * i + mo)) = true := fun y => by
            have := hr.mp z
            rw [show fitAll S.rv S.br S.dn S.n S.R (S.W.sLk (leakK S.W (9 * i + mo)).lk) = true from y] at this
            cases this
          rw [if_neg ff] at g
          rw [nI_1]
          exact g h6 _ (by omega) H6
  refine H2.right (f := S.W.lk) (a := -1) (b := 0) O (fun i hi => by rw [if_neg (ni_m1 (by omega)), Int32.add_zero]) (fun i hi => (O.2.2.1.2.1 i hi).2.2.2.1) (Nat.le_refl _) (fun r h3 hr H3 => ⟨_, rfl, ⟨fun z => ⟨H3.is, H3.tell (by decide) (fun h4 H4 => ⟨rfl, main h4 0 ?_⟩)⟩, fun z => ⟨H3.is, H3.tell (by decide) (fun h4 H4 => ⟨rfl, main h4 0 ?_⟩)⟩⟩⟩)
  · rw [lkS, if_neg (fun y => by have := hr.mp z; rw [show fitAll S.rv S.br S.dn S.n S.R (S.W.sLk S.W.lk) = true from y] at this; cases this)]
    exact H4
  · rw [lkS, if_pos (show fitAll S.rv S.br S.dn S.n S.R S.W = true by
      cases y : fitAll S.rv S.br S.dn S.n S.R S.W
      · exact absurd (hr.mpr y) z
      · rfl)]
    exact H4
/-! reads -/
def encR : Option (Nat × Nat) → Int32 × Int32
  | none => (-1, 1000000)
  | some (b, v) => (nI b, nI v)
def fl01 (L : List Nat) : Int32 := if L = [] then 0 else 1
theorem M_reads (H : MW h0 h m S zz oT (-1) lm S.rw) (O : SOk S) (hd : 84 ≤ d) (hq : ∀ h' T' lm' zz', MW h0 h' m S zz' T' (-1) lm' (s_reads S.rv S.br S.dn S.n S.R S.W S.rw).2 → Q (some (.int (s_reads S.rv S.br S.dn S.n S.R S.W S.rw).1)) h') : pz_V mX10_reads Ex Q d bc bs 0 [(0, .ref m)] [] h := by
  have hn := O.1
  unfold s_reads at hq
  refine wX10_reads_0 hd (H.th (fun h1 H1 => ?_))
  generalize hfit : fitK S.rv S.br S.dn S.n S.R S.W = fitp at hq
  have hfl : ∀ k, (FL fitp k).length ≤ k := fun k => FL_len fitp k
  have hlv : ∀ k, k < 9 * S.n → ∀ t o, o < S.n → lvK S.rv S.br S.dn S.n S.W o t k < 100 ∧ (daysW S.rv S.br S.dn S.n t (leakK S.W k)).lv o = nI (lvK S.rv S.br S.dn S.n S.W o t k) := by
    intro k hk t o ho
    have hRg : Rg S.n S.br (leakK S.W k) := by
      have := leak_f O hk
      intro i hi
      obtain ⟨a1, a2, a3, a4, a5⟩ := O.2.2.1.2.1 i hi
      exact ⟨a1, a2, a3, this.2 i hi, a5⟩
    have b := (hRg.days (rv := S.rv) (dn := S.dn) hn t).lv ho
    obtain ⟨v, hv, ev⟩ := bt_nI b (by decide)
    unfold lvK
    rw [ev, clamp (by omega)]
    exact ⟨by omega, rfl⟩
  -- the choice of the ring
  have pick : ∀ (L : List Nat) (h3 : pz_H) (zz : pX) (oT : Option pW) (lm : Int32), L = FL fitp (9 * S.n) → ¬ L = [] → MW h0 h3 m S zz oT (-1) lm S.rw → (∀ o, o < S.n → ∀ t, t < 21 → ∀ v, v < 100 → zz.mn (100 * (21 * o + t) + v) = nI (cn (lvK S.rv S.br S.dn S.n S.W o t) L v)) → pz_V mX10_reads Ex Q d bc bs 182 [(0, .ref m), (2, .int (-1)), (3, .int 1000000), (4, .int 0)] [] h3 := by
    intro L h3 zz oT lm eL hL H3 hT
    rw [← eL, if_neg hL] at hq
    have hL54 : L.length ≤ 54 := by rw [eL]; have := hfl (9 * S.n); omega
    have hn0 : 0 < S.n := by
      rcases Nat.eq_zero_or_pos S.n with y | y
      · exfalso
        apply hL
        rw [eL, y]
        rfl
      · exact y
    have em : ∀ j, mostS S.rv S.br S.dn S.n S.R S.W j = mxV (cn (lvK S.rv S.br S.dn S.n S.W (j / 21) (j % 21)) L) 100 := fun j => by
      unfold mostS
      rw [hfit, eL]
    generalize mostS S.rv S.br S.dn S.n S.R S.W = mo at hq em
    have mo54 : ∀ j, mo j ≤ 54 := fun j => by
      rw [em j]
      exact mxV_le (fun v _ => Nat.le_trans (cn_le _ _ _) hL54)
    suffices G : ∀ f i, i + f = S.n → pz_V mX10_reads Ex Q d bc bs 182 [(0, .ref m), (2, .int (encR (rdS mo (21 * i))).1), (3, .int (encR (rdS mo (21 * i))).2), (4, .int (nI i))] [] h3 from G S.n 0 (Nat.zero_add _)
    intro f
    induction f with
    | zero =>
      intro i hi
      have e : i = S.n := hi
      subst e
      obtain ⟨q, eq⟩ : ∃ q, 21 * S.n = q + 1 := ⟨21 * S.n - 1, by omega⟩
      obtain ⟨b, v, er⟩ : ∃ b v, rdS mo (21 * S.n) = some (b, v) := by
        rw [eq, rdS]
        cases rdS mo q with
        | none => exact ⟨_, _, rfl⟩
        | some p =>
          obtain ⟨b, v⟩ := p
          dsimp only
          split
          · exact ⟨_, _, rfl⟩
          · exact ⟨_, _, rfl⟩
      rw [er] at hq ⊢
      exact wX10_reads_182 hd (H3.n.mpr ⟨fun _ => H3.row0 (fun h4 H4 => ⟨H4.is, H4.tell (by decide) (fun h5 H5 => ⟨rfl, hq h5 _ _ _ H5⟩)⟩), fun y => absurd (nI_le (Nat.le_refl _) (by omega)) y⟩)
    | succ f ih =>
      intro i hi
      refine wX10_reads_182 hd (H3.n.mpr ⟨fun y => absurd y (nI_ge (by omega) (by omega)), fun _ => ?_⟩)
      suffices G2 : ∀ f2 t, t + f2 = 21 → pz_V mX10_reads Ex Q d bc bs 194 [(0, .ref m), (2, .int (encR (rdS mo (21 * i + t))).1), (3, .int (encR (rdS mo (21 * i + t))).2), (4, .int (nI i)), (5, .int (nI t))] [] h3 from G2 21 0 rfl
      intro f2
      induction f2 with
      | zero =>
        intro t ht
        have e : t = 21 := ht
        subst e
        refine wX10_reads_194 hd ⟨fun _ => ?_, fun y => absurd (nI_lt (a := 20) (b := 21) (by decide) (by decide)) y⟩
        rw [nI_1]
        exact ih (i + 1) (by omega)
      | succ f2 ih2 =>
        intro t ht
        have g := ih2 (t + 1) (by omega)
        have ej : mo (21 * i + t) = mxV (cn (lvK S.rv S.br S.dn S.n S.W i t) L) 100 := by
          rw [em, show (21 * i + t) / 21 = i by omega, show (21 * i + t) % 21 = t by omega]
        refine wX10_reads_194 hd ⟨fun y => absurd y (nI_nlt (a := 20) (by omega) (by decide)), fun _ => ?_⟩
        suffices G3 : ∀ f3 v, v + f3 = 100 → pz_V mX10_reads Ex Q d bc bs 207 [(0, .ref m), (2, .int (encR (rdS mo (21 * i + t))).1), (3, .int (encR (rdS mo (21 * i + t))).2), (4, .int (nI i)), (5, .int (nI t)), (6, .int (nI (mxV (cn (lvK S.rv S.br S.dn S.n S.W i t) L) v))), (7, .int (nI v))] [] h3 from G3 100 0 rfl
        intro f3
        induction f3 with
        | zero =>
          intro v hv
          have e : v = 100 := hv
          subst e
          rw [← ej]
          have m54 := mo54 (21 * i + t)
          rw [show 21 * i + (t + 1) = (21 * i + t) + 1 from rfl, rdS] at g
          refine wX10_reads_207 hd ⟨fun _ => ?_, fun y => absurd (nI_lt (a := 99) (b := 100) (by decide) (by decide)) y⟩
          rw [show (21 : Int32) * nI i + nI t = nI (21 * i + t) from by rw [show (21 : Int32) * nI i = nI (21 * i) from pk_mul 21 i, nI_add], nI_1]
          cases er : rdS mo (21 * i + t) with
          | none =>
            rw [er] at g
            refine ⟨fun _ => g, fun y => absurd ?_ y⟩
            exact nI_lt (b := 1000000) (by omega) (by decide)
          | some p =>
            obtain ⟨b, v⟩ := p
            rw [er] at g
            dsimp only at g
            have hv54 : v ≤ 54 := by
              have : ∀ N, ∀ b v, rdS mo N = some (b, v) → v ≤ 54 := by
                intro N
                induction N with
                | zero => intro b v y; rw [rdS] at y; cases y
                | succ N ihN =>
                  intro b v y
                  rw [rdS] at y
                  cases eN : rdS mo N with
                  | none =>
                    rw [eN] at y
                    cases y
                    exact mo54 N
                  | some p =>
                    obtain ⟨b', v'⟩ := p
                    rw [eN] at y
                    dsimp only at y
                    split at y
                    · cases y; exact mo54 N
                    · cases y; exact ihN _ _ eN
              exact this _ _ _ er
            refine ⟨fun y => ?_, fun y => ?_⟩
            · have y : mo (21 * i + t) < v := (nI_ltI (by omega) (by omega)).mp y
              rw [if_pos y] at g
              exact g
            · have y : ¬ mo (21 * i + t) < v := fun w => y ((nI_ltI (by omega) (by omega)).mpr w)
              rw [if_neg y] at g
              exact g
        | succ f3 ih3 =>
          intro v hv
          have g3 := ih3 (v + 1) (by omega)
          rw [mxV] at g3
          refine wX10_reads_207 hd ⟨fun y => absurd y (nI_nlt (a := 99) (by omega) (by decide)), fun _ => (H3.g rfl).mpr ((H3.rMn (q := 100 * (21 * i + t) + v) ?_ (by omega)).mpr ?_)⟩
          · rw [show (21 : Int32) * nI i + nI t = nI (21 * i + t) from by rw [show (21 : Int32) * nI i = nI (21 * i) from pk_mul 21 i, nI_add], show nI (21 * i + t) * (100 : Int32) = nI ((21 * i + t) * 100) from pk_mul _ 100, nI_add, Nat.mul_comm]
          · rw [hT i (by omega) t (by omega) v (by omega), nI_1]
            have b1 : mxV (cn (lvK S.rv S.br S.dn S.n S.W i t) L) v ≤ 54 := mxV_le (fun v _ => Nat.le_trans (cn_le _ _ _) hL54)
            have b2 : cn (lvK S.rv S.br S.dn S.n S.W i t) L v ≤ 54 := Nat.le_trans (cn_le _ _ _) hL54
            have : (if nI (mxV (cn (lvK S.rv S.br S.dn S.n S.W i t) L) v) < nI (cn (lvK S.rv S.br S.dn S.n S.W i t) L v) then nI (cn (lvK S.rv S.br S.dn S.n S.W i t) L v) else nI (mxV (cn (lvK S.rv S.br S.dn S.n S.W i t) L) v)) = nI (if mxV (cn (lvK S.rv S.br S.dn S.n S.W i t) L) v < cn (lvK S.rv S.br S.dn S.n S.W i t) L v then cn (lvK S.rv S.br S.dn S.n S.W i t) L v else mxV (cn (lvK S.rv S.br S.dn S.n S.W i t) L) v) := by
              by_cases c : mxV (cn (lvK S.rv S.br S.dn S.n S.W i t) L) v < cn (lvK S.rv S.br S.dn S.n S.W i t) L v
              · rw [if_pos c, if_pos ((nI_ltI (by omega) (by omega)).mpr c)]
              · rw [if_neg c, if_neg (fun w => c ((nI_ltI (by omega) (by omega)).mp w))]
            rw [this]
            exact g3
  -- the leaks, one by one
  have scan : ∀ (h3 : pz_H) (zz : pX) (oT : Option pW) (lm : Int32), MW h0 h3 m S zz oT (-1) lm S.rw → (∀ j, j < 12600 → zz.mn j = 0) → pz_V mX10_reads Ex Q d bc bs 31 [(0, .ref m), (1, .int 0), (2, .int 0)] [] h3 := by
    intro h3 zz oT lm H3 hz
    suffices G : ∀ f i (h4 : pz_H) (zz : pX) (oT : Option pW) (lm : Int32), i + f = S.n → MW h0 h4 m S zz oT (-1) lm S.rw → (∀ o, o < S.n → ∀ t, t < 21 → ∀ v, v < 100 → zz.mn (100 * (21 * o + t) + v) = nI (cn (lvK S.rv S.br S.dn S.n S.W o t) (FL fitp (9 * i)) v)) → pz_V mX10_reads Ex Q d bc bs 31 [(0, .ref m), (1, .int (fl01 (FL fitp (9 * i)))), (2, .int (nI i))] [] h4 from G S.n 0 h3 zz oT lm (Nat.zero_add _) H3 (fun o ho t ht v hv => by rw [hz _ (by omega)]; rfl)
    intro f
    induction f with
    | zero =>
      intro i h4 zz oT lm hi H4 hT
      have e : i = S.n := hi
      subst e
      refine wX10_reads_31 hd (H4.n.mpr ⟨fun _ => ⟨fun y => ?_, fun y => ?_⟩, fun y => absurd (nI_le (Nat.le_refl _) (by omega)) y⟩)
      · have hL : ¬ FL fitp (9 * S.n) = [] := fun w => by rw [w] at y; exact y rfl
        exact pick _ h4 zz oT lm rfl hL H4 hT
      · have hL : FL fitp (9 * S.n) = [] := by
          by_cases w : FL fitp (9 * S.n) = []
          · exact w
          · unfold fl01 at y; rw [if_neg w] at y; exact absurd y (by decide)
        rw [if_pos hL] at hq
        exact hq h4 _ _ _ H4
    | succ f ih =>
      intro i h4 zz oT lm hi H4 hT
      refine wX10_reads_31 hd (H4.n.mpr ⟨fun y => absurd y (nI_ge (by omega) (by omega)), fun _ => ?_⟩)
      suffices G2 : ∀ f2 mo (h5 : pz_H) (zz : pX) (oT : Option pW) (lm : Int32), mo + f2 = 9 → MW h0 h5 m S zz oT (-1) lm S.rw → (∀ o, o < S.n → ∀ t, t < 21 → ∀ v, v < 100 → zz.mn (100 * (21 * o + t) + v) = nI (cn (lvK S.rv S.br S.dn S.n S.W o t) (FL fitp (9 * i + mo)) v)) → pz_V mX10_reads Ex Q d bc bs 41 [(0, .ref m), (1, .int (fl01 (FL fitp (9 * i + mo)))), (2, .int (nI i)), (3, .int (nI (mo + 1)))] [] h5 from G2 9 0 h4 zz oT lm rfl H4 hT
      intro f2
      induction f2 with
      | zero =>
        intro mo h5 zz oT lm hm H5 hT
        have e : mo = 9 := hm
        subst e
        refine wX10_reads_41 hd ⟨fun _ => ?_, fun y => absurd (nI_lt (a := 9) (b := 10) (by decide) (by decide)) y⟩
        rw [nI_1]
        exact ih (i + 1) h5 zz oT lm (by omega) H5 hT
      | succ f2 ih2 =>
        intro mo h5 zz oT lm hm H5 hT
        have g := ih2 (mo + 1)
        have hk : 9 * i + mo < 9 * S.n := by omega
        have e1 : (9 * i + mo) / 9 = i := by omega
        have e2 : (9 * i + mo) % 9 = mo := by omega
        obtain ⟨lf1, lf2⟩ := leak_f O hk
        rw [e1, e2] at lf1
        rw [show 9 * i + (mo + 1) = (9 * i + mo) + 1 from rfl, FL] at g
        have hfk : fitp (9 * i + mo) = fitAll S.rv S.br S.dn S.n S.R (leakK S.W (9 * i + mo)) := by rw [← hfit]; rfl
        refine wX10_reads_41 hd ⟨fun y => absurd y (nI_nlt (a := 9) (by omega) (by decide)), fun _ => ⟨H5.is, H5.right (f := (leakK S.W (9 * i + mo)).lk) O lf1 lf2 (Nat.le_refl _) (fun r h6 hr H6 => ⟨_, rfl, ⟨fun y => H6.sLo (fun h7 H7 => H7.sLm (fun h8 H8 => (H8.g rfl).mpr ((H8.g rfl).mpr (H8.lay (f := (leakK S.W (9 * i + mo)).lk) O lf1 lf2 (fun h9 H9 => ⟨rfl, ?_⟩))))), fun y => ?_⟩⟩)⟩⟩
        · have ft : fitp (9 * i + mo) = true := by
            rw [hfk]
            cases w : fitAll S.rv S.br S.dn S.n S.R (leakK S.W (9 * i + mo))
            · exact absurd (hr.mpr w) y
            · rfl
          rw [if_pos ft] at g
          have H9 : MW h0 h9 m S zz (some (leakK S.W (9 * i + mo))) (nI i) (nI (mo + 1)) S.rw := H9
          have hlk := hlv (9 * i + mo) hk
          generalize hkk : 9 * i + mo = k at hT g H9 hlk
          generalize FL fitp k = L at hT g
          have hne : ¬ L ++ [k] = [] := by simp
          rw [show fl01 (L ++ [k]) = 1 from if_neg hne] at g
          -- its days
          suffices G3 : ∀ f3 t (h10 : pz_H) (zz : pX), t + f3 = 21 → MW h0 h10 m S zz (some (daysW S.rv S.br S.dn S.n t (leakK S.W k))) (nI i) (nI (mo + 1)) S.rw → (∀ o, o < S.n → ∀ t', t' < 21 → ∀ v, v < 100 → zz.mn (100 * (21 * o + t') + v) = nI (cn (lvK S.rv S.br S.dn S.n S.W o t') (if t' < t then L ++ [k] else L) v)) → pz_V mX10_reads Ex Q d bc bs 86 [(0, .ref m), (1, .int 1), (2, .int (nI i)), (3, .int (nI (mo + 1))), (4, .int (nI t))] [] h10 from G3 21 0 h9 zz rfl H9 (fun o ho t' ht' v hv => by rw [if_neg (Nat.not_lt_zero _)]; exact hT o ho t' ht' v hv)
          intro f3
          induction f3 with
          | zero =>
            intro t h10 zz ht H10 hT2
            have e : t = 21 := ht
            subst e
            refine wX10_reads_86 hd ⟨fun _ => H10.sLo (fun h11 H11 => ?_), fun y => absurd (nI_lt (a := 20) (b := 21) (by decide) (by decide)) y⟩
            rw [nI_1]
            refine g h11 zz _ _ (by omega) H11 (fun o ho t' ht' v hv => ?_)
            have := hT2 o ho t' ht' v hv
            rw [if_pos ht'] at this
            exact this
          | succ f3 ih3 =>
            intro t h10 zz ht H10 hT2
            refine wX10_reads_86 hd ⟨fun y => absurd y (nI_nlt (a := 20) (by omega) (by decide)), fun _ => ?_⟩
            suffices G4 : ∀ f4 o (h11 : pz_H) (zz : pX), o + f4 = S.n → MW h0 h11 m S zz (some (daysW S.rv S.br S.dn S.n t (leakK S.W k))) (nI i) (nI (mo + 1)) S.rw → (∀ o', o' < S.n → ∀ t', t' < 21 → ∀ v, v < 100 → zz.mn (100 * (21 * o' + t') + v) = nI (cn (lvK S.rv S.br S.dn S.n S.W o' t') (if t' < t ∨ (t' = t ∧ o' < o) then L ++ [k] else L) v)) → pz_V mX10_reads Ex Q d bc bs 96 [(0, .ref m), (1, .int 1), (2, .int (nI i)), (3, .int (nI (mo + 1))), (4, .int (nI t)), (5, .int (nI o))] [] h11 from G4 S.n 0 h10 zz (Nat.zero_add _) H10 (fun o' ho' t' ht' v hv => by
              rw [hT2 o' ho' t' ht' v hv]
              by_cases c : t' < t
              · rw [if_pos c, if_pos (Or.inl c)]
              · rw [if_neg c, if_neg (fun w => by omega)])
            intro f4
            induction f4 with
            | zero =>
              intro o h11 zz ho H11 hT3
              have e : o = S.n := ho
              subst e
              refine wX10_reads_96 hd (H11.n.mpr ⟨fun _ => (H11.g rfl).mpr ⟨H11.is, H11.day O (Nat.le_refl _) (fun h12 H12 => ⟨rfl, ?_⟩)⟩, fun y => absurd (nI_le (Nat.le_refl _) (by omega)) y⟩)
              rw [nI_1]
              refine ih3 (t + 1) h12 zz (by omega) H12 (fun o' ho' t' ht' v hv => ?_)
              rw [hT3 o' ho' t' ht' v hv]
              by_cases c : t' < t + 1
              · rw [if_pos c, if_pos (by omega)]
              · rw [if_neg c, if_neg (by omega)]
            | succ f4 ih4 =>
              intro o h11 zz ho H11 hT3
              have hos : o < S.n := by omega
              obtain ⟨l1, l2⟩ := hlk t o hos
              have eix : ((21 : Int32) * nI o + nI t) * 100 + nI (lvK S.rv S.br S.dn S.n S.W o t k) = nI (100 * (21 * o + t) + lvK S.rv S.br S.dn S.n S.W o t k) := by
                rw [show (21 : Int32) * nI o = nI (21 * o) from pk_mul 21 o, nI_add, show nI (21 * o + t) * (100 : Int32) = nI ((21 * o + t) * 100) from pk_mul _ 100, nI_add, Nat.mul_comm]
              refine wX10_reads_96 hd (H11.n.mpr ⟨fun y => absurd y (nI_ge (by omega) (by omega)), fun _ => (H11.g rfl).mpr ((H11.g rfl).mpr ((H11.rT O hos).mpr ?_))⟩)
              rw [l2]
              refine (H11.rMn eix (by omega)).mpr (H11.sMn eix (by omega) (fun h12 H12 => ?_))
              rw [nI_1]
              refine ih4 (o + 1) h12 _ (by omega) H12 (fun o' ho' t' ht' v hv => ?_)
              show upd zz.mn (100 * (21 * o + t) + lvK S.rv S.br S.dn S.n S.W o t k) _ (100 * (21 * o' + t') + v) = _
              unfold upd
              by_cases c : o' = o ∧ t' = t
              · obtain ⟨c1, c2⟩ := c
                subst c1 c2
                rw [if_pos (show t' < t' ∨ t' = t' ∧ o' < o' + 1 by omega), cn_app, hT3 o' hos t' (by omega) _ l1, if_neg (show ¬ (t' < t' ∨ t' = t' ∧ o' < o') by omega)]
                by_cases c3 : lvK S.rv S.br S.dn S.n S.W o' t' k = v
                · rw [if_pos (by omega), if_pos c3, c3]
                  exact nI_1 _
                · rw [if_neg (by omega), if_neg c3, Nat.add_zero, hT3 o' hos t' (by omega) v hv, if_neg (show ¬ (t' < t' ∨ t' = t' ∧ o' < o') by omega)]
              · rw [if_neg (by omega), hT3 o' ho' t' ht' v hv]
                by_cases c2 : t' < t ∨ t' = t ∧ o' < o
                · rw [if_pos c2, if_pos (by omega)]
                · rw [if_neg c2, if_neg (by omega)]
        · have ff : ¬ fitp (9 * i + mo) = true := fun w => by
            rw [hfk] at w
            have := hr.mp y
            rw [show fitAll S.rv S.br S.dn S.n S.R (S.W.sLk (leakK S.W (9 * i + mo)).lk) = true from w] at this
            cases this
          rw [if_neg ff] at g
          rw [nI_1]
          exact g h6 zz _ _ (by omega) H6 hT
  -- the table is cleared
  suffices G : ∀ f j (h3 : pz_H) (zz : pX), j + f = 12600 → MW h0 h3 m S zz oT (-1) lm S.rw → (∀ q, q < j → zz.mn q = 0) → pz_V mX10_reads Ex Q d bc bs 7 [(0, .ref m), (1, .int (nI j))] [] h3 from G 12600 0 h1 zz rfl H1 (fun q hq => absurd hq (Nat.not_lt_zero _))
  intro f
  induction f with
  | zero =>
    intro j h3 zz hj H3 hz
    have e : j = 12600 := hj
    subst e
    exact wX10_reads_7 hd ⟨fun _ => scan h3 zz oT lm H3 hz, fun y => absurd (nI_le (a := 12600) (Nat.le_refl _) (by decide)) y⟩
  | succ f ih =>
    intro j h3 zz hj H3 hz
    refine wX10_reads_7 hd ⟨fun y => absurd y (nI_ge (b := 12600) (by omega) (by decide)), fun _ => (H3.g rfl).mpr (H3.sMn (q := j) rfl (by omega) (fun h4 H4 => ?_))⟩
    rw [nI_1]
    refine ih (j + 1) h4 _ (by omega) H4 (fun q hq => ?_)
    show upd zz.mn j 0 q = 0
    unfold upd
    split
    · rfl
    · exact hz q (by omega)
/-! years -/
theorem MW.draw {c : Nat} (H : MW h0 h m S zz oT lo lm rw) (h0c : 0 < c) (hc : c < 2 ^ 31) (hq : ∀ h', MW h0 h' m S (zz.sDw (drawN zz.dw)) oT lo lm rw → Q (some (.int (drV (drawN zz.dw) (nI c)))) h') : pz_V mX10_draw Ex Q d bc bs 0 [(0, .ref m), (1, .int (nI c))] [] h :=
  wX10_draw_0 (H.gDw.mpr (H.sDw (fun h1 H1 => H1.gDw.mpr ⟨nI_ne0 h0c hc, hq h1 H1⟩)))
theorem M_years {w k : Int32} (H : MW h0 h m S zz oT (-1) lm S.rw) (O : SOk S) (hd : 83 ≤ d) (hq : ∀ h' T' lm' zz', MW h0 h' m S zz' T' (-1) lm' (s_years S.rv S.br S.dn S.n S.W S.rw w k).2 → Q (some (.int (s_years S.rv S.br S.dn S.n S.W S.rw w k).1)) h') : pz_V mX10_years Ex Q d bc bs 0 [(0, .ref m), (1, .int w), (2, .int k)] [] h := by
  have hn := O.1
  unfold s_years at hq
  refine wX10_years_0 hd (H.th (fun h1 H1 => ?_))
  rw [in_eq]
  refine ⟨fun hc => H1.sDw (fun h2 H2 => (H2.g rfl).mpr ((H2.g rfl).mpr (H2.lay0 O (fun h3 H3 => ⟨rfl, ?_⟩)))), fun hc => by rw [if_pos hc] at hq; exact hq h1 _ _ _ H1⟩
  rw [if_neg hc] at hq
  obtain ⟨k, hk1, hk, rfl⟩ := (within_1 (lo := 1) (hi := 60) (by decide) (by decide)).mp hc
  rw [clamp (by omega)] at hq
  dsimp only at hq
  suffices G : ∀ f j (h4 : pz_H) (zz : pX), j + f = k → MW h0 h4 m S zz (some (yrS S.rv S.br S.dn S.n S.W w j).1) (-1) lm S.rw → zz.dw = (yrS S.rv S.br S.dn S.n S.W w j).2 → pz_V mX10_years Ex Q d bc bs 36 [(0, .ref m), (2, .int (nI k)), (3, .int (nI j))] [] h4 from G k 0 h3 _ (Nat.zero_add _) H3 rfl
  intro f
  induction f with
  | zero =>
    intro j h4 zz hj H4 hw
    have e : j = k := hj
    subst e
    exact wX10_years_36 hd ⟨fun _ => H4.row0 (fun h5 H5 => (H5.g rfl).mpr (H5.rTs.mpr ((H5.g rfl).mpr (H5.rNs.mpr ⟨H5.is, H5.tell (by decide) (fun h6 H6 => ⟨rfl, (H6.g rfl).mpr (H6.rTd.mpr ((H6.g rfl).mpr (H6.rNr.mpr ⟨H6.is, H6.tell (by simp) (fun h7 H7 => ⟨rfl, (H7.g rfl).mpr ⟨H7.is, H7.sum O ⟨_, rfl, hq h7 _ _ _ H7⟩⟩⟩)⟩)))⟩)⟩)))), fun y => absurd (nI_le (Nat.le_refl _) (by omega)) y⟩
  | succ f ih =>
    intro j h4 zz hj H4 hw
    have g := ih (j + 1)
    rw [yrS] at g
    generalize yrS S.rv S.br S.dn S.n S.W w j = s at H4 hw g
    obtain ⟨T, ww⟩ := s
    dsimp only at H4 hw g
    subst hw
    have hR : Rg S.n S.br T := by
      obtain ⟨P, -, -, h3, -⟩ := H4
      exact h3.2.2
    have ho : T.ou < 2 ^ S.n := by
      obtain ⟨P, -, -, h3, -⟩ := H4
      exact h3.1.2.2.2.2
    refine wX10_years_36 hd ⟨fun y => absurd y (nI_ge (by omega) (by omega)), fun _ => ⟨H4.is, H4.draw (c := 4) (by decide) (by decide) (fun h5 H5 => ⟨_, rfl, ?_⟩)⟩⟩
    have e4 : drV (drawN zz.dw) (nI 4) = drV (drawN zz.dw) 4 := rfl
    rw [e4]
    unfold yrStep at g
    dsimp only at g
    refine ⟨fun y => ?_, fun y => (H5.g rfl).mpr ⟨H5.is, H5.day O (Nat.le_refl _) (fun h6 H6 => ⟨rfl, ?_⟩)⟩⟩
    · rw [if_neg (fun w => w y)] at g
      have y2 : ¬ drV (drawN zz.dw) 4 < 2 := Int32.not_lt.mpr y
      refine wX10_years_62 hd ⟨fun w => absurd w y2, fun _ => H5.n.mpr ⟨fun hz => H5.n.mpr ⟨H5.is, ?_⟩, fun hz => ?_⟩⟩
      · have hn0 : 0 < S.n := by
          rcases Nat.eq_zero_or_pos S.n with c | c
          · rw [c] at hz; exact absurd rfl hz
          · exact c
        rw [if_neg (show ¬ S.n = 0 by omega)] at g
        refine H5.draw (c := S.n) hn0 (by omega) (fun h6 H6 => ⟨_, rfl, ?_⟩)
        have H6 : MW h0 h6 m S ((zz.sDw (drawN zz.dw)).sDw (drawN (drawN zz.dw))) (some T) (-1) lm S.rw := H6
        have el : drV (drawN (zz.sDw (drawN zz.dw)).dw) (nI S.n) = nI (drW (drawN (drawN zz.dw)) S.n) := drV_eq _ hn0 (by omega)
        rw [el]
        have hl := drW_lt (drawN (drawN zz.dw)) hn0
        generalize drW (drawN (drawN zz.dw)) S.n = l at hl g
        refine ⟨fun hy => (H6.g rfl).mpr ⟨H6.is, H6.draw (c := 10) (by decide) (by decide) (fun h7 H7 => ⟨_, rfl, ?_⟩)⟩, fun hy => (H6.g rfl).mpr ((H6.g rfl).mpr ((H6.rTo O hl).mpr ?_))⟩
        · rw [if_neg hy] at g
          have e10 : drV (drawN ((zz.sDw (drawN zz.dw)).sDw (drawN (drawN zz.dw))).dw) (nI 10) = drV (drawN (drawN (drawN zz.dw))) 10 := rfl
          rw [e10]
          have b10 : Bt (drV (drawN (drawN (drawN zz.dw))) 10) 0 9 := by
            have e := drV_eq (drawN (drawN (drawN zz.dw))) (m := 10) (by decide) (by decide)
            have hlt := drW_lt (drawN (drawN (drawN zz.dw))) (m := 10) (by decide)
            rw [show drV (drawN (drawN (drawN zz.dw))) 10 = nI (drW (drawN (drawN (drawN zz.dw))) 10) from e]
            exact (Bt.lit (by omega)).mono (by omega) (by omega)
          refine H7.sT (q := 18 + l) (T' := T.sTp (upd T.tp l (drV (drawN (drawN (drawN zz.dw))) 10))) (nI_add 18 l) (by omega) (fun a ha => ha.sTp hn hl) (fun _ _ => rfl) (hR.sTp b10) (fun h8 H8 => ?_)
          rw [nI_1]
          exact g h8 _ (by omega) H8 rfl
        · rw [if_pos hy] at g
          refine H6.sT (q := 6 + l) (T' := T.sOu (T.ou ^^^ 2 ^ l)) (nI_add 6 l) (by omega) (fun a ha => ?_) (fun _ _ => rfl) hR (fun h8 H8 => ?_)
          · refine ha.sOu (o := T.ou ^^^ 2 ^ l) hn hl (Nat.xor_lt_two_pow ho (Nat.pow_lt_pow_right (by decide) hl)) ?_ (fun q hq => ?_)
            · rw [Nat.testBit_xor, Nat.testBit_two_pow]
              cases T.ou.testBit l <;> simp
            · rw [Nat.testBit_xor, Nat.testBit_two_pow]
              simp [show ¬ l = q by omega]
          · rw [nI_1]
            exact g h8 _ (by omega) H8 rfl
      · have hn0 : S.n = 0 := by
          rcases Nat.eq_zero_or_pos S.n with c | c
          · exact c
          · exact absurd hz (nI_ne0 c (by omega))
        rw [if_pos hn0] at g
        rw [nI_1]
        exact g h5 _ (by omega) H5 rfl
    · rw [if_pos y] at g
      refine wX10_years_62 hd ⟨fun _ => ?_, fun w => absurd (Int32.not_le.mp y) w⟩
      rw [nI_1]
      exact g h6 _ (by omega) H6 rfl
/-! duck -/
theorem m_gcd : ∀ (f a b d : Nat) {Ex : State → Nat → Prop} {Q : Option Value → pz_H → Prop} {bc bs : Nat}, b < 2 ^ f → a < 2 ^ 63 → b < 2 ^ 63 → 2 * f + 1 ≤ d → Q (some (.long (lN (Nat.gcd a b)))) h → pz_V mX10_common Ex Q d bc bs 0 [(0, .long (lN a)), (2, .long (lN b))] [] h
  | 0, a, b, d, Ex, Q, bc, bs, hf, ha, hb, hi, hq => by
    have e : b = 0 := by omega
    subst e
    rw [Nat.gcd_zero_right] at hq
    obtain ⟨d', rfl⟩ : ∃ d', d = d' + 1 := ⟨d - 1, by omega⟩
    exact wX10_common_0 ⟨fun hc => absurd ((lg_cmp_eq _ _).mpr rfl) hc, fun _ => hq⟩
  | f + 1, a, b, d, Ex, Q, bc, bs, hf, ha, hb, hi, hq => by
    have b63 : ∀ {z : Nat}, z < b → z < 2 ^ 63 := fun hz => Nat.lt_trans hz hb
    obtain ⟨d', rfl⟩ : ∃ d', d = d' + 1 + 1 := ⟨d - 2, by omega⟩
    refine wX10_common_0 ⟨fun h0 => ?_, fun h0 => ?_⟩
    · have hb0 : 0 < b := by
        rcases Nat.eq_zero_or_pos b with q | q
        · exact absurd ((lg_cmp_eq _ _).mpr (by rw [q]; rfl)) h0
        · exact q
      refine ⟨fun q => by have := (pk_lEQ hb (by decide : 0 < 2 ^ 63)).mp q; omega, ?_⟩
      rw [pk_lRem ha hb0 hb]
      have hr := Nat.mod_lt a hb0
      refine wX10_common_0 ⟨fun h1 => ?_, fun h1 => ?_⟩
      · have hr0 : 0 < a % b := by
          rcases Nat.eq_zero_or_pos (a % b) with q | q
          · exact absurd ((lg_cmp_eq _ _).mpr (by rw [q]; rfl)) h1
          · exact q
        refine ⟨fun q => by have := (pk_lEQ (b63 hr) (by decide : 0 < 2 ^ 63)).mp q; omega, ?_⟩
        rw [pk_lRem hb hr0 (b63 hr)]
        have h2 := half_mod hr0 hr
        have h3 := Nat.mod_lt b hr0
        refine m_gcd f (a % b) (b % (a % b)) d' (by rw [Nat.pow_succ] at hf; omega) (b63 hr) (b63 (by omega)) (by omega) ⟨_, rfl, ⟨_, rfl, ?_⟩⟩
        rw [gcd_step hr0, gcd_step hb0]
        exact hq
      · have e := (lg_cmp_eq _ _).mp h1
        have e : a % b = 0 := (pk_lEQ (b63 hr) (by decide)).mp e
        rw [← gcd_step hb0, e, Nat.gcd_zero_right] at hq
        exact ⟨_, rfl, hq⟩
    · have e := (lg_cmp_eq _ _).mp h0
      have e : b = 0 := (pk_lEQ hb (by decide)).mp e
      subst e
      rw [Nat.gcd_zero_right] at hq
      exact hq
theorem MW.beside {i o : Nat} (H : MW h0 h m S zz oT lo lm rw) (O : SOk S) (hi : i < S.n) (ho : o < S.n) (hq : ∀ r : Int32, (r = 0 ↔ wayB S.dn i o = false) → Q (some (.int r)) h) : pz_V mX10_areBeside Ex Q d bc bs 0 [(0, .ref m), (1, .int (nI i)), (2, .int (nI o))] [] h := by
  refine wX10_areBeside_0 ((H.g rfl).mpr ((H.rD O hi).mpr ⟨fun e => hq 1 ⟨fun q => absurd q (by decide), fun q => ?_⟩, fun e => (H.g rfl).mpr ((H.rD O ho).mpr ⟨fun e2 => hq 0 ⟨fun _ => ?_, fun _ => rfl⟩, fun e2 => hq 1 ⟨fun q => absurd q (by decide), fun q => ?_⟩⟩)⟩))
  · simp [wayB, e] at q
  · unfold wayB; rw [decide_eq_false e, decide_eq_false e2]; rfl
  · simp [wayB, e2] at q
theorem MW.goDuck {p : Nat → Nat} (H : MW h0 h m S zz oT lo lm rw) (O : SOk S) (hp : ∀ j, j < S.n → zz.pa j = lN (p j)) (hd : 1 ≤ d) (hq : ∀ h' zz', MW h0 h' m S zz' oT lo lm rw → (∀ j, j < S.n → zz'.pa j = lN (dkN S.dn S.n p S.n j)) → Q none h') : pz_V mX10_goDuck Ex Q d bc bs 0 [(0, .ref m)] [] h := by
  have hn := O.1
  refine wX10_goDuck_0 hd ?_
  have third : ∀ f i (h1 : pz_H) (zz : pX), i + f = S.n → MW h0 h1 m S zz oT lo lm rw → (∀ j, j < S.n → zz.np j = lN (dkN S.dn S.n p S.n j)) → (∀ j, j < i → zz.pa j = lN (dkN S.dn S.n p S.n j)) → pz_V mX10_goDuck Ex Q d bc bs 145 [(0, .ref m), (1, .int (nI i))] [] h1 := by
    intro f
    induction f with
    | zero =>
      intro i h1 zz hi H1 hnp hpa
      have e : i = S.n := hi
      subst e
      exact wX10_goDuck_145 hd (H1.n.mpr ⟨fun _ => hq h1 zz H1 hpa, fun y => absurd (nI_le (Nat.le_refl _) (by omega)) y⟩)
    | succ f ih =>
      intro i h1 zz hi H1 hnp hpa
      refine wX10_goDuck_145 hd (H1.n.mpr ⟨fun y => absurd y (nI_ge (by omega) (by omega)), fun _ => (H1.g rfl).mpr ((H1.g rfl).mpr ((H1.rNp (by omega)).mpr (H1.sPa (by omega) (fun h2 H2 => ?_))))⟩)
      rw [nI_1]
      refine ih (i + 1) h2 _ (by omega) H2 hnp (fun j hj => ?_)
      show vp_updL zz.pa i (zz.np i) j = _
      rw [updL_fun]
      by_cases e : j = i
      · rw [if_pos e, hnp i (by omega), e]
      · rw [if_neg e]; exact hpa j (by omega)
  have second : ∀ f i (h1 : pz_H) (zz : pX), i + f = S.n → MW h0 h1 m S zz oT lo lm rw → (∀ j, j < S.n → zz.pa j = lN (p j)) → (∀ j, j < S.n → zz.np j = lN (dkN S.dn S.n p i j)) → pz_V mX10_goDuck Ex Q d bc bs 25 [(0, .ref m), (1, .int (nI i))] [] h1 := by
    intro f
    induction f with
    | zero =>
      intro i h1 zz hi H1 hpa hnp
      have e : i = S.n := hi
      subst e
      exact wX10_goDuck_25 hd (H1.n.mpr ⟨fun _ => third S.n 0 h1 zz (Nat.zero_add _) H1 hnp (fun j hj => absurd hj (Nat.not_lt_zero _)), fun y => absurd (nI_le (Nat.le_refl _) (by omega)) y⟩)
    | succ f ih =>
      intro i h1 zz hi H1 hpa hnp
      have hin : i < S.n := by omega
      have hwl : ways S.dn S.n i ≤ S.n := fa_cnt_le _ S.n
      generalize hf : dkN S.dn S.n p i = g at hnp
      have hg1 : dkN S.dn S.n p (i + 1) = dkStep S.dn S.n p i g := by rw [← hf]; rfl
      -- the share to each
      have share : ∀ f2 o (h2 : pz_H) (zz : pX), o + f2 = S.n → MW h0 h2 m S zz oT lo lm rw → (∀ j, j < S.n → zz.pa j = lN (p j)) → (∀ j, j < S.n → zz.np j = lN (if ways S.dn S.n i = 0 then (if j = i then g j + p i * 60 else g j) else (if j < o ∧ wayB S.dn i j = true then g j + p i * (60 / ways S.dn S.n i) else g j))) → pz_V mX10_goDuck Ex Q d bc bs 93 [(0, .ref m), (1, .int (nI i)), (2, .int (nI (ways S.dn S.n i))), (3, .int (nI o))] [] h2 := by
        intro f2
        induction f2 with
        | zero =>
          intro o h2 zz ho H2 hpa hnp
          have e : o = S.n := ho
          subst e
          refine wX10_goDuck_93 hd (H2.n.mpr ⟨fun _ => ?_, fun y => absurd (nI_le (Nat.le_refl _) (by omega)) y⟩)
          rw [nI_1]
          refine ih (i + 1) h2 zz (by omega) H2 hpa (fun j hj => ?_)
          rw [hnp j hj, hg1]
          rfl
        | succ f2 ih2 =>
          intro o h2 zz ho H2 hpa hnp
          have hos : o < S.n := by omega
          refine wX10_goDuck_93 hd (H2.n.mpr ⟨fun y => absurd y (nI_ge (by omega) (by omega)), fun _ => ⟨H2.is, H2.beside O hin hos (fun r hr => ⟨_, rfl, ⟨fun y => ?_, fun y => ?_⟩⟩)⟩⟩)
          · rw [nI_1]
            refine ih2 (o + 1) h2 zz (by omega) H2 hpa (fun j hj => ?_)
            rw [hnp j hj]
            have hb := hr.mp y
            have : (j < o + 1 ∧ wayB S.dn i j = true) = (j < o ∧ wayB S.dn i j = true) := by
              apply propext
              constructor
              · rintro ⟨a, b⟩
                refine ⟨?_, b⟩
                rcases Nat.lt_or_ge j o with q | q
                · exact q
                · have : j = o := by omega
                  rw [this, hb] at b
                  cases b
              · rintro ⟨a, b⟩
                exact ⟨by omega, b⟩
            simp only [this]
          · have hb : wayB S.dn i o = true := by
              cases e : wayB S.dn i o
              · exact absurd (hr.mpr e) y
              · rfl
            have hw : 0 < ways S.dn S.n i := by
              rcases Nat.eq_zero_or_pos (ways S.dn S.n i) with q | q
              · exfalso
                have : ∀ N, o < N → 0 < fa_cnt (wayB S.dn i) N := by
                  intro N
                  induction N with
                  | zero => intro z; omega
                  | succ N ihN =>
                    intro z
                    cases e : wayB S.dn i N
                    · rw [fa_cnt_no e]
                      refine ihN ?_
                      rcases Nat.lt_or_ge o N with w | w
                      · exact w
                      · have : o = N := by omega
                        rw [← this, hb] at e
                        cases e
                    · rw [fa_cnt_yes e]; omega
                have := this S.n hos
                unfold ways at q
                omega
              · exact q
            refine (H2.g rfl).mpr ((H2.rNp (by omega)).mpr ((H2.g rfl).mpr ((H2.rPa (by omega)).mpr ⟨nI_ne0 hw (by omega), H2.sNp (by omega) (fun h3 H3 => ?_)⟩)))
            rw [nI_1]
            refine ih2 (o + 1) h3 _ (by omega) H3 hpa (fun j hj => ?_)
            show vp_updL zz.np o (zz.np o + zz.pa i * ((60 : Int32) / nI (ways S.dn S.n i)).toInt64) j = _
            rw [updL_fun, if_neg (show ¬ ways S.dn S.n i = 0 by omega)]
            by_cases e : j = o
            · subst e
              rw [if_pos rfl, if_pos ⟨by omega, hb⟩, hnp j hj, if_neg (show ¬ ways S.dn S.n i = 0 by omega), if_neg (fun q => by omega), hpa i hin, shr60 _ (by omega) hw, lN_mul, lN_add]
            · rw [if_neg e, hnp j hj, if_neg (show ¬ ways S.dn S.n i = 0 by omega)]
              congr 1
              by_cases q : j < o
              · simp only [q, show j < o + 1 from by omega, true_and]
              · rw [if_neg (fun z => q z.1), if_neg (fun z => by omega)]
      refine wX10_goDuck_25 hd (H1.n.mpr ⟨fun y => absurd y (nI_ge (by omega) (by omega)), fun _ => ?_⟩)
      suffices G : ∀ f2 o, o + f2 = S.n → pz_V mX10_goDuck Ex Q d bc bs 37 [(0, .ref m), (1, .int (nI i)), (2, .int (nI (fa_cnt (wayB S.dn i) o))), (3, .int (nI o))] [] h1 from G S.n 0 (Nat.zero_add _)
      intro f2
      induction f2 with
      | zero =>
        intro o ho
        have e : o = S.n := ho
        subst e
        refine wX10_goDuck_37 hd (H1.n.mpr ⟨fun _ => ⟨fun y => ?_, fun y => ?_⟩, fun y => absurd (nI_le (Nat.le_refl _) (by omega)) y⟩)
        · have hw : ¬ ways S.dn S.n i = 0 := fun q => y (by show nI (ways S.dn S.n i) = 0; rw [q]; rfl)
          refine share S.n 0 h1 zz (Nat.zero_add _) H1 hpa (fun j hj => ?_)
          rw [hnp j hj, if_neg hw, if_neg (fun q => absurd q.1 (Nat.not_lt_zero _))]
        · have hw : ways S.dn S.n i = 0 := by
            rcases Nat.eq_zero_or_pos (ways S.dn S.n i) with q | q
            · exact q
            · exact absurd y (nI_ne0 (n := ways S.dn S.n i) q (by omega))
          refine (H1.g rfl).mpr ((H1.rNp (by omega)).mpr ((H1.g rfl).mpr ((H1.rPa (by omega)).mpr (H1.sNp (by omega) (fun h2 H2 => ?_)))))
          refine share S.n 0 h2 _ (Nat.zero_add _) H2 hpa (fun j hj => ?_)
          show vp_updL zz.np i (zz.np i + zz.pa i * 60) j = _
          rw [updL_fun, if_pos hw]
          by_cases e : j = i
          · subst e
            rw [if_pos rfl, if_pos rfl, hnp j hj, hpa j hj, lpos 60, lN_mul, lN_add]
          · rw [if_neg e, if_neg e, hnp j hj]
      | succ f2 ih2 =>
        intro o ho
        have g2 := ih2 (o + 1) (by omega)
        refine wX10_goDuck_37 hd (H1.n.mpr ⟨fun y => absurd y (nI_ge (by omega) (by omega)), fun _ => ⟨H1.is, H1.beside O hin (by omega) (fun r hr => ⟨_, rfl, ⟨fun y => ?_, fun y => ?_⟩⟩)⟩⟩)
        · rw [fa_cnt_no (hr.mp y)] at g2
          rw [nI_1, Int32.add_zero]
          exact g2
        · have hb : wayB S.dn i o = true := by
            cases e : wayB S.dn i o
            · exact absurd (hr.mpr e) y
            · rfl
          rw [fa_cnt_yes hb] at g2
          rw [nI_1, nI_1]
          exact g2
  suffices G : ∀ f i (h1 : pz_H) (zz : pX), i + f = S.n → MW h0 h1 m S zz oT lo lm rw → (∀ j, j < S.n → zz.pa j = lN (p j)) → (∀ j, j < i → zz.np j = 0) → pz_V mX10_goDuck Ex Q d bc bs 2 [(0, .ref m), (1, .int (nI i))] [] h1 from G S.n 0 h zz (Nat.zero_add _) H hp (fun j hj => absurd hj (Nat.not_lt_zero _))
  intro f
  induction f with
  | zero =>
    intro i h1 zz hi H1 hpa hnp
    have e : i = S.n := hi
    subst e
    exact wX10_goDuck_2 hd (H1.n.mpr ⟨fun _ => second S.n 0 h1 zz (Nat.zero_add _) H1 hpa (fun j hj => hnp j hj), fun y => absurd (nI_le (Nat.le_refl _) (by omega)) y⟩)
  | succ f ih =>
    intro i h1 zz hi H1 hpa hnp
    refine wX10_goDuck_2 hd (H1.n.mpr ⟨fun y => absurd y (nI_ge (by omega) (by omega)), fun _ => (H1.g rfl).mpr (H1.sNp (by omega) (fun h2 H2 => ?_))⟩)
    rw [nI_1]
    refine ih (i + 1) h2 _ (by omega) H2 hpa (fun j hj => ?_)
    show vp_updL zz.np i 0 j = 0
    rw [updL_fun]
    by_cases e : j = i
    · rw [if_pos e]
    · rw [if_neg e]; exact hnp j (by omega)
theorem M_duck {fr to k : Int32} (H : MW h0 h m S zz oT (-1) lm S.rw) (O : SOk S) (hd : 201 ≤ d) (hq : ∀ h' T' lm' zz', MW h0 h' m S zz' T' (-1) lm' (s_duck S.dn S.n S.rw fr to k).2 → Q (some (.int (s_duck S.dn S.n S.rw fr to k).1)) h') : pz_V mX10_duck Ex Q d bc bs 0 [(0, .ref m), (1, .int fr), (2, .int to), (3, .int k)] [] h := by
  have hn := O.1
  unfold s_duck at hq
  refine wX10_duck_0 hd (H.th (fun h1 H1 => ⟨H1.is, H1.n.mpr ?_⟩))
  rw [isLake_eq hn, in_eq]
  refine ⟨fun hc => by rw [if_pos hc] at hq; exact hq h1 _ _ _ H1, fun hc => ⟨H1.is, H1.n.mpr ?_⟩⟩
  rw [isLake_eq hn]
  refine ⟨fun hc2 => by rw [if_neg hc, if_pos hc2] at hq; exact hq h1 _ _ _ H1, fun hc2 => ⟨fun hc3 => ?_, fun hc3 => by rw [if_neg hc, if_neg hc2, if_pos hc3] at hq; exact hq h1 _ _ _ H1⟩⟩
  rw [if_neg hc, if_neg hc2, if_neg hc3] at hq
  obtain ⟨fr, hfr, rfl⟩ := (has_0 hn).mp hc
  obtain ⟨to, hto, rfl⟩ := (has_0 hn).mp hc2
  obtain ⟨k, hk, rfl⟩ := (within_0 (hi := 10) (by decide)).mp hc3
  rw [clamp (by omega), clamp (by omega), clamp (by omega)] at hq
  dsimp only at hq
  have swim : ∀ f j (h2 : pz_H) (zz : pX), j + f = k → MW h0 h2 m S zz oT (-1) lm S.rw → (∀ i, i < S.n → zz.pa i = lN (dkS S.dn S.n fr j i)) → pz_V mX10_duck Ex Q d bc bs 75 [(0, .ref m), (2, .int (nI to)), (3, .int (nI k)), (4, .long (lN (60 ^ j))), (6, .int (nI j))] [] h2 := by
    intro f
    induction f with
    | zero =>
      intro j h2 zz hj H2 hpa
      have e : j = k := hj
      subst e
      have b1 : dkS S.dn S.n fr j to ≤ 60 ^ j := dkS_lt hn hfr hto
      have b2 := pow60 hk
      have p63 : (2 : Nat) ^ 60 < 2 ^ 63 := by decide
      generalize hu : dkS S.dn S.n fr j to = u at hq b1
      have ep : zz.pa to = lN u := by rw [← hu]; exact hpa to hto
      generalize hl : 60 ^ j = l at hq b1 b2
      have l0 : 0 < l := by rw [← hl]; exact Nat.pow_pos (by decide)
      have g0 : 0 < Nat.gcd u l := Nat.gcd_pos_of_pos_right u l0
      have gl : Nat.gcd u l ≤ l := Nat.gcd_le_right u l0
      refine wX10_duck_75 hd ⟨fun _ => (H2.g rfl).mpr ((H2.rPa (by omega)).mpr ?_), fun y => absurd (nI_le (Nat.le_refl _) (by omega)) y⟩
      rw [ep]
      refine m_gcd 60 u l 200 b2 (by omega) (by omega) (by decide) ⟨_, rfl, H2.row0 (fun h3 H3 => (H3.g rfl).mpr ((H3.rPa (by omega)).mpr ?_))⟩
      rw [ep]
      have gne : ¬ lN (Nat.gcd u l) = 0 := fun q => by
        have := (pk_lEQ (by omega) (by decide : 0 < 2 ^ 63)).mp q
        omega
      refine ⟨gne, H3.is, H3.tell (by decide) (fun h4 H4 => ⟨rfl, gne, H4.is, H4.tell (by simp) (fun h5 H5 => ⟨rfl, ?_⟩)⟩)⟩
      rw [pk_lDiv (by omega) g0 (by omega), pk_lDiv (by omega) g0 (by omega)] at H5
      exact hq h5 _ _ _ H5
    | succ f ih =>
      intro j h2 zz hj H2 hpa
      refine wX10_duck_75 hd ⟨fun y => absurd y (nI_ge (by omega) (by omega)), fun _ => ⟨H2.is, H2.goDuck O hpa (Nat.le_refl _) (fun h3 zz3 H3 hpa3 => ⟨rfl, ?_⟩)⟩⟩
      rw [nI_1, lpos 60, lN_mul, ← Nat.pow_succ]
      exact ih (j + 1) h3 zz3 (by omega) H3 hpa3
  suffices G : ∀ f i (h2 : pz_H) (zz : pX), i + f = S.n → MW h0 h2 m S zz oT (-1) lm S.rw → (∀ j, j < i → zz.pa j = lN (dkS S.dn S.n fr 0 j)) → pz_V mX10_duck Ex Q d bc bs 36 [(0, .ref m), (1, .int (nI fr)), (2, .int (nI to)), (3, .int (nI k)), (4, .int (nI i))] [] h2 from G S.n 0 h1 zz (Nat.zero_add _) H1 (fun j hj => absurd hj (Nat.not_lt_zero _))
  intro f
  induction f with
  | zero =>
    intro i h2 zz hi H2 hpa
    have e : i = S.n := hi
    subst e
    exact wX10_duck_36 hd (H2.n.mpr ⟨fun _ => swim k 0 h2 zz (Nat.zero_add _) H2 hpa, fun y => absurd (nI_le (Nat.le_refl _) (by omega)) y⟩)
  | succ f ih =>
    intro i h2 zz hi H2 hpa
    refine wX10_duck_36 hd (H2.n.mpr ⟨fun y => absurd y (nI_ge (by omega) (by omega)), fun _ => (H2.g rfl).mpr ⟨fun y => H2.sPa (by omega) (fun h3 H3 => ?_), fun y => H2.sPa (by omega) (fun h3 H3 => ?_)⟩⟩)
    · rw [nI_1]
      refine ih (i + 1) h3 _ (by omega) H3 (fun j hj => ?_)
      show vp_updL zz.pa i 0 j = lN (if j = fr then 1 else 0)
      rw [updL_fun]
      by_cases e : j = i
      · rw [if_pos e, if_neg (fun z => y (by rw [← z, e]))]; rfl
      · rw [if_neg e]; exact hpa j (by omega)
    · rw [nI_1]
      refine ih (i + 1) h3 _ (by omega) H3 (fun j hj => ?_)
      have hif : i = fr := (nI_inj' (by omega) (by omega)).mp y
      show vp_updL zz.pa i 1 j = lN (if j = fr then 1 else 0)
      rw [updL_fun]
      by_cases e : j = i
      · rw [if_pos e, if_pos (by omega)]; rfl
      · rw [if_neg e]; exact hpa j (by omega)
end MR2
