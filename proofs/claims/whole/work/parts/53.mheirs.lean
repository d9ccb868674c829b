/-! ===== the reference: heirs ===== -/
theorem king_in (sg : Int32) : eX10_in sg (nI 97) (nI 97 + nI 4 - 1) = eX9_isKingSign sg := by
  have e : nI 97 + nI 4 - 1 = (100 : Int32) := by decide
  rw [e]
  unfold eX10_in eX9_isKingSign
  by_cases h0 : sg < nI 97
  · rw [if_pos h0, if_pos (show sg < 97 from h0)]
  · rw [if_neg h0, if_neg (show ¬ sg < 97 from h0)]
    by_cases h1 : (101 : Int32) ≤ sg
    · rw [if_pos h1, if_pos]
      rw [le_i] at h1
      rw [lt_i]
      have e1 : (101 : Int32).toInt = 101 := by decide
      have e2 : (100 : Int32).toInt = 100 := by decide
      omega
    · rw [if_neg h1, if_neg]
      rw [le_i] at h1
      rw [lt_i]
      have e1 : (101 : Int32).toInt = 101 := by decide
      have e2 : (100 : Int32).toInt = 100 := by decide
      omega
theorem he_ix : ∀ k, k < 8 → ∀ s, s < 64 → (nI k <<< ((6 : Int32) &&& 31)) ||| nI s = nI (64 * k + s) := by decide +kernel
theorem he_ix2 : ∀ k, k < 8 → ∀ s, s < 64 → ∀ i, i < 6 → nI (64 * k + s) ||| ((1 : Int32) <<< (nI i &&& 31)) = nI (64 * k + (s ||| 2 ^ i)) := by decide +kernel
theorem hrI_at {tx : Nat → Nat} {W : pW} {g : Nat → Int32} {hh s : Nat} : ∀ i, hrI tx W g hh s i = g s ∨ ∃ j, j < i ∧ hrCan tx W j hh s = true ∧ hrI tx W g hh s i = W.lv j + g (s ||| 2 ^ j)
  | 0 => Or.inl rfl
  | i + 1 => by
    have ih := hrI_at (tx := tx) (W := W) (g := g) (hh := hh) (s := s) i
    rw [hrI]
    split
    · rename_i c
      split
      · exact Or.inr ⟨i, by omega, c, rfl⟩
      · rcases ih with z | ⟨j, h1, h2, h3⟩
        · exact Or.inl z
        · exact Or.inr ⟨j, by omega, h2, h3⟩
    · rcases ih with z | ⟨j, h1, h2, h3⟩
      · exact Or.inl z
      · exact Or.inr ⟨j, by omega, h2, h3⟩
theorem fday_some {p : Nat → Prop} [DecidablePred p] : ∀ {f k j : Nat}, k ≤ j → j < k + f → p j → ∃ i, firstDay p f k = some i ∧ k ≤ i ∧ i ≤ j ∧ p i ∧ ∀ q, k ≤ q → q < i → ¬ p q
  | 0, k, j, h1, h2, _ => by omega
  | f + 1, k, j, h1, h2, hp => by
    unfold firstDay
    by_cases c : p k
    · rw [if_pos c]
      exact ⟨k, rfl, Nat.le_refl _, h1, c, fun q h3 h4 => by omega⟩
    · rw [if_neg c]
      have hkj : k ≠ j := fun e => c (by rw [e]; exact hp)
      obtain ⟨i, e1, e2, e3, e4, e5⟩ := fday_some (f := f) (k := k + 1) (j := j) (by omega) (by omega) hp
      refine ⟨i, e1, by omega, e3, e4, fun q h3 h4 => ?_⟩
      by_cases e : q = k
      · rw [e]; exact c
      · exact e5 q (by omega) h4
theorem fday_none {p : Nat → Prop} [DecidablePred p] : ∀ {f k : Nat}, (∀ j, k ≤ j → j < k + f → ¬ p j) → firstDay p f k = none
  | 0, k, _ => rfl
  | f + 1, k, h => by
    unfold firstDay
    rw [if_neg (h k (Nat.le_refl _) (by omega))]
    exact fday_none (fun j h1 h2 => h j (by omega) (by omega))
theorem or_pow {s n i : Nat} (hs : s < 2 ^ n) (hi : i < n) : s ||| 2 ^ i < 2 ^ n := Nat.or_lt_two_pow hs (Nat.pow_lt_pow_right (by decide) hi)
section MHE
variable {Ex : State → Nat → Prop} {Q : Option Value → pz_H → Prop} {d bc bs : Nat} {h0 h h' : pz_H} {m : Nat} {S : pS} {oT : Option pW} {T : pW} {lo lm : Int32} {rw : List Int64} {zz : pX}
variable {P : pM}
theorem MW.rHe {q : Nat} {ix : Int32} (H : MW h0 h m S zz oT lo lm rw) (hix : ix = nI q) (hq : q < 448) {K : Int32 → Prop} : pz_rI h (m + 21) ix K ↔ K (zz.he q) := by
  obtain ⟨P, h1, -, -, -, -, -, rfl, -⟩ := H
  exact h1.rI (j := 21) rfl hix hq
theorem MW.sHe {q : Nat} {ix x : Int32} (H : MW h0 h m S zz oT lo lm rw) (hix : ix = nI q) (hq : q < 448) {K : pz_H → Prop} (f : ∀ h', MW h0 h' m S (zz.sHe (upd zz.he q x)) oT lo lm rw → K h') : pz_sI h (m + 21) ix x K := by
  obtain ⟨P, h1, h2, h3, h4, h5, h6, rfl, hg⟩ := H
  exact h1.sI (j := 21) rfl hix hq (fun h' H' => f h' ⟨_, H', h2.kp (li := []) (la := [21]) (Kp.rf.sA (by simp)) (by simp) (by intro k hk; simp; omega), h3.cg rfl, h4, h5, h6, rfl, hg⟩)
theorem MW.rCm {q : Nat} {ix : Int32} (H : MW h0 h m S zz oT lo lm rw) (hix : ix = nI q) (hq : q < 30) {K : Int32 → Prop} : pz_rI h (m + 7) ix K ↔ K (zz.cm q) := by
  obtain ⟨P, h1, -, -, -, -, -, rfl, -⟩ := H
  exact h1.rI (j := 7) rfl hix hq
theorem MW.can {tx : Nat → Nat} {hh i s : Nat} (H : MW h0 h m S zz oT lo lm rw) (O : SOk S) (hh6 : hh < 6) (hi : i < S.n) (hs : s < 64) (hc : zz.cm hh = nI (tx hh) - 97) (hd : 1 ≤ d) (hq : ∀ r : Int32, (r = 0 ↔ hrCan tx S.W i hh s = false) → Q (some (.int r)) h) : pz_V mX10_canHave Ex Q d bc bs 0 [(0, .ref m), (1, .int (nI hh)), (2, .int (nI i)), (3, .int (nI s))] [] h := by
  have hn := O.1
  refine wX10_canHave_0 hd ⟨fun c => hq 0 ⟨fun _ => ?_, fun _ => rfl⟩, fun c => (H.g rfl).mpr ((H.rNk O hi).mpr ((H.g rfl).mpr ((H.rCm rfl (by omega)).mpr ?_)))⟩
  · unfold hrCan
    rw [(has10_t hs (by omega)).mp c]
    rfl
  · have tb := (has10_0 hs (by omega)).mp c
    rw [hc]
    refine ⟨fun e => hq 0 ⟨fun _ => ?_, fun _ => rfl⟩, fun e => hq 1 ⟨fun z => absurd z (by decide), fun z => ?_⟩⟩
    · unfold hrCan
      rw [tb, decide_eq_false (fun z => z e)]
      rfl
    · unfold hrCan at z
      rw [tb, decide_eq_true e] at z
      cases z
theorem M_heirs (H : MInv h0 h m S) (O : SOk S) (hd : 3 ≤ d) (hq : ∀ h', MInv h0 h' m ((S.sRw (s_heirs S.tx S.n S.W S.tl S.rw).2).sTl 0) → Q (some (.int (s_heirs S.tx S.n S.W S.tl S.rw).1)) h') : pz_V mX10_heirs Ex Q d bc bs 0 [(0, .ref m)] [] h := by
  obtain ⟨t, P, h1, h2, h3, h4, -⟩ := H
  have B9 := h2.s9 (v := 0)
  have htl := O.2.1
  have hn := O.1
  have h64 := pow_le64 hn
  have p0 := Nat.two_pow_pos S.n
  have O1 := O.tl0
  have hnn : (S.sTl 0).n = S.n := rfl
  have hx : TxB S.tl ((P.sI 9 0).A 5) S.tx := B9.2.2.2.1.le htl
  unfold s_heirs at hq
  -- behind the reading
  have main : ∀ (h5 : pz_H) (cm ac : Nat → Int32) (c : Nat), hrFault S.tx S.tl = none → c = S.tl → 0 < c → c ≤ 6 → (∀ j, j < c → cm j = nI (S.tx j) - 97) → RD h0 h5 m (P.sI 9 0) S.tl 6 c (-1) cm ac → pz_V mX10_heirs Ex Q d bc bs 67 [(0, .ref m), (1, .int (nI c)), (2, .int 0)] [] h5 := by
    intro h5 cm ac c hf ec c0 c6 hcm R5
    rw [hf] at hq
    dsimp only at hq
    rw [← ec] at hq
    have W5 : ∃ zz lm, MW h0 h5 m (S.sTl 0) zz none (-1) lm S.rw ∧ zz.cm = cm := by
      obtain ⟨P5, g1, K1, e1, e2, e3, e4, e5, e6, e7, e8⟩ := R5
      exact ⟨scr P5, P5.I 28, ⟨P5, g1, B9.text K1 (by intro k hk; simp; omega) (by intro k hk; simp; omega) e2, trivial, (K1.1 27 (by decide)).trans h3.1, rfl, h4.kp (li := [6, 9, 11, 12, 13, 14, 19]) (la := [7, 16]) ((Kp.rf.sI (by simp)).tr K1) (by decide) (by decide), rfl, K1.2.2.2.trans h3.2⟩, e7⟩
    obtain ⟨zz, lm, W5, ecm⟩ := W5
    -- the heirs' lakes told
    have tellL : ∀ f hh (h6 : pz_H) (zz : pX), hh + f = c → MW h0 h6 m (S.sTl 0) zz none (-1) lm (hrS S.tx S.n S.W c hh).2 → zz.cm = cm → HrTab S.tx S.n S.W c 0 zz.he → (hrS S.tx S.n S.W c hh).2.length = hh → (hrS S.tx S.n S.W c hh).1 < 2 ^ S.n → pz_V mX10_heirs Ex Q d bc bs 222 [(0, .ref m), (1, .int (nI c)), (2, .int (nI (hrS S.tx S.n S.W c hh).1)), (3, .int (nI hh))] [] h6 := by
      intro f
      induction f with
      | zero =>
        intro hh h6 zz hf2 W6 ecm hT hlen hs
        have e : hh = c := hf2
        subst e
        refine wX10_heirs_222 hd ⟨fun _ => (W6.g rfl).mpr ((W6.rHe (q := 0) rfl (by decide)).mpr ?_), fun y => absurd (nI_le (Nat.le_refl _) (by omega)) y⟩
        have := hT 0 (Nat.le_refl _) (Nat.zero_le _) 0 p0
        rw [show 64 * 0 + 0 = 0 from rfl, Nat.sub_zero] at this
        rw [this]
        exact hq h6 W6.inv
      | succ f ih =>
        intro hh h6 zz hf2 W6 ecm hT hlen hs
        have hhc : hh < c := by omega
        have g := ih (hh + 1)
        rw [hrS, hrStep] at g
        generalize hrS S.tx S.n S.W c hh = st at W6 hlen hs g
        obtain ⟨s, rw⟩ := st
        dsimp only at W6 hlen hs g ⊢
        have hs64 : s < 64 := by omega
        have t1 := hT hh (Nat.zero_le _) (by omega) s hs
        have t2 := hT (hh + 1) (Nat.zero_le _) (by omega) s hs
        refine wX10_heirs_222 hd ⟨fun y => absurd y (nI_ge (by omega) (by omega)), fun _ => (W6.g rfl).mpr ((W6.rHe (q := 64 * hh + s) (he_ix hh (by omega) s hs64) (by omega)).mpr ((W6.g rfl).mpr ?_))⟩
        rw [show nI hh + (1 : Int32) = nI (hh + 1) from nI_1 hh]
        refine (W6.rHe (q := 64 * (hh + 1) + s) (he_ix (hh + 1) (by omega) s hs64) (by omega)).mpr ?_
        rw [t1, t2]
        unfold hrT at g
        refine ⟨fun e => ⟨W6.is, W6.tell (by omega) (fun h7 W7 => ⟨rfl, ?_⟩)⟩, fun e => ?_⟩
        · rw [if_pos e] at g
          dsimp only at g
          exact g h7 zz (by omega) W7 ecm hT (by simp [hlen]) hs
        · rw [if_neg e] at g
          -- such a lake is there
          obtain ⟨r, er⟩ : ∃ r, c - hh = r + 1 := ⟨c - hh - 1, by omega⟩
          have er2 : c - (hh + 1) = r := by omega
          rw [er, er2] at e g
          have ehb : hrB S.tx S.n S.W c (r + 1) s = hrI S.tx S.W (hrB S.tx S.n S.W c r) hh s S.n := by rw [hrB, show c - (r + 1) = hh by omega]
          have hex : ∃ j, j < S.n ∧ (hrCan S.tx S.W j hh s = true ∧ S.W.lv j + hrB S.tx S.n S.W c r (s ||| 2 ^ j) = hrB S.tx S.n S.W c (r + 1) s) := by
            rcases hrI_at (tx := S.tx) (W := S.W) (g := hrB S.tx S.n S.W c r) (hh := hh) (s := s) S.n with z | ⟨j, z1, z2, z3⟩
            · exact absurd (by rw [ehb, z]) e
            · exact ⟨j, z1, z2, by rw [ehb, z3]⟩
          obtain ⟨j, hj1, hj2⟩ := hex
          obtain ⟨i, i1, i2, i3, i4, i5⟩ := fday_some (p := fun i => hrCan S.tx S.W i hh s = true ∧ S.W.lv i + hrB S.tx S.n S.W c r (s ||| 2 ^ i) = hrB S.tx S.n S.W c (r + 1) s) (f := S.n) (k := 0) (j := j) (Nat.zero_le _) (by omega) hj2
          rw [i1] at g
          dsimp only at g
          rw [er]
          have hin : i < S.n := by omega
          suffices G : ∀ f2 q, q + f2 = i → pz_V mX10_heirs Ex Q d bc bs 264 [(0, .ref m), (1, .int (nI c)), (2, .int (nI s)), (3, .int (nI hh)), (4, .int (hrB S.tx S.n S.W c (r + 1) s)), (5, .int (nI q))] [] h6 from G i 0 (Nat.zero_add _)
          have rd2 : ∀ q, q < S.n → zz.he (64 * (hh + 1) + (s ||| 2 ^ q)) = hrB S.tx S.n S.W c r (s ||| 2 ^ q) := fun q hq2 => by
            have := hT (hh + 1) (Nat.zero_le _) (by omega) (s ||| 2 ^ q) (or_pow hs hq2)
            rw [er2] at this
            exact this
          have cmh : zz.cm hh = nI (S.tx hh) - 97 := by rw [ecm]; exact hcm hh hhc
          intro f2
          induction f2 with
          | zero =>
            intro q hq2
            have e2 : q = i := hq2
            subst e2
            have l64 : s ||| 2 ^ q < 64 := Nat.lt_of_lt_of_le (or_pow hs hin) h64
            refine wX10_heirs_264 hd ⟨W6.is, W6.can (tx := S.tx) O1 (by omega) hin hs64 cmh (Nat.le_refl _) (fun rr hrr => ⟨_, rfl, ⟨fun y => ?_, fun y => (W6.g rfl).mpr ((W6.rN O1 hin).mpr ((W6.g rfl).mpr ((W6.rHe (q := 64 * (hh + 1) + (s ||| 2 ^ q)) ?_ (by omega)).mpr ?_)))⟩⟩)⟩
            · have : hrCan S.tx S.W q hh s = false := hrr.mp y
              rw [i4.1] at this
              cases this
            · rw [show nI hh + (1 : Int32) = nI (hh + 1) from nI_1 hh, he_ix (hh + 1) (by omega) s hs64, he_ix2 (hh + 1) (by omega) s hs64 q (by omega)]
            · rw [rd2 q hin]
              refine ⟨fun _ => ⟨W6.is, W6.tell (by omega) (fun h7 W7 => ⟨rfl, ?_⟩)⟩, fun y => absurd i4.2 y⟩
              rw [shl1 q (by omega), or_nI, nI_1]
              exact g h7 zz (by omega) W7 ecm hT (by simp [hlen]) (or_pow hs hin)
          | succ f2 ih2 =>
            intro q hq2
            have hqn : q < S.n := by omega
            have l64 : s ||| 2 ^ q < 64 := Nat.lt_of_lt_of_le (or_pow hs hqn) h64
            have np := i5 q (Nat.zero_le _) (by omega)
            refine wX10_heirs_264 hd ⟨W6.is, W6.can (tx := S.tx) O1 (by omega) hqn hs64 cmh (Nat.le_refl _) (fun rr hrr => ⟨_, rfl, ⟨fun y => ?_, fun y => (W6.g rfl).mpr ((W6.rN O1 hqn).mpr ((W6.g rfl).mpr ((W6.rHe (q := 64 * (hh + 1) + (s ||| 2 ^ q)) ?_ (by omega)).mpr ?_)))⟩⟩)⟩
            · rw [nI_1]
              exact ih2 (q + 1) (by omega)
            · rw [show nI hh + (1 : Int32) = nI (hh + 1) from nI_1 hh, he_ix (hh + 1) (by omega) s hs64, he_ix2 (hh + 1) (by omega) s hs64 q (by omega)]
            · rw [rd2 q hqn]
              refine ⟨fun e3 => ?_, fun _ => ?_⟩
              · have cn : hrCan S.tx S.W q hh s = true := by
                  cases w : hrCan S.tx S.W q hh s
                  · exact absurd (hrr.mpr w) y
                  · rfl
                exact absurd ⟨cn, e3⟩ np
              · rw [nI_1]
                exact ih2 (q + 1) (by omega)
    -- the table, from the last heir on
    have tab : ∀ a (h6 : pz_H) (zz : pX), a ≤ c → MW h0 h6 m (S.sTl 0) zz none (-1) lm S.rw → zz.cm = cm → HrTab S.tx S.n S.W c a zz.he → pz_V mX10_heirs Ex Q d bc bs 97 [(0, .ref m), (1, .int (nI c)), (2, .int (nI a + (-1)))] [] h6 := by
      intro a
      induction a with
      | zero =>
        intro h6 zz ha W6 ecm hT
        exact wX10_heirs_97 hd ⟨fun _ => W6.row0 (fun h7 W7 => tellL c 0 h7 zz (Nat.zero_add _) W7 ecm hT rfl p0), fun y => absurd (by decide) y⟩
      | succ a iha =>
        intro h6 zz ha W6 ecm hT
        rw [pk_m1 a]
        have cma : zz.cm a = nI (S.tx a) - 97 := by rw [ecm]; exact hcm a (by omega)
        refine wX10_heirs_97 hd ⟨fun y => absurd y (nI_pos (by omega)), fun _ => ?_⟩
        suffices G : ∀ f s (h7 : pz_H) (zz : pX), s + f = 2 ^ S.n → MW h0 h7 m (S.sTl 0) zz none (-1) lm S.rw → zz.cm = cm → HrTab S.tx S.n S.W c (a + 1) zz.he → (∀ s', s' < s → zz.he (64 * a + s') = hrB S.tx S.n S.W c (c - a) s') → pz_V mX10_heirs Ex Q d bc bs 103 [(0, .ref m), (1, .int (nI c)), (2, .int (nI a)), (3, .int (nI s))] [] h7 from G (2 ^ S.n) 0 h6 zz (Nat.zero_add _) W6 ecm hT (fun s' hs' => absurd hs' (Nat.not_lt_zero _))
        intro f
        induction f with
        | zero =>
          intro s h7 zz hs W7 ecm hT hA
          have e : s = 2 ^ S.n := hs
          subst e
          refine wX10_heirs_103 hd ⟨W7.is, W7.n.mpr ?_⟩
          rw [all10_eq hn]
          refine ⟨fun _ => iha h7 zz (by omega) W7 ecm (fun k h8 h9 s' hs' => ?_), fun y => absurd (nI_lt (by omega) (by omega)) y⟩
          by_cases e : k = a
          · subst e; exact hA s' hs'
          · exact hT k (by omega) h9 s' hs'
        | succ f ihf =>
          intro s h7 zz hs W7 ecm hT hA
          have hs2 : s < 2 ^ S.n := by omega
          have hs64 : s < 64 := by omega
          have cma : zz.cm a = nI (S.tx a) - 97 := by rw [ecm]; exact hcm a (by omega)
          refine wX10_heirs_103 hd ⟨W7.is, W7.n.mpr ?_⟩
          rw [all10_eq hn]
          refine ⟨fun y => absurd y (nI_nlt (by omega) (by omega)), fun _ => (W7.g rfl).mpr ?_⟩
          rw [show nI a + (1 : Int32) = nI (a + 1) from nI_1 a]
          refine (W7.rHe (q := 64 * (a + 1) + s) (he_ix (a + 1) (by omega) s hs64) (by omega)).mpr ?_
          rw [hT (a + 1) (Nat.le_refl _) (by omega) s hs2]
          obtain ⟨r, er⟩ : ∃ r, c - a = r + 1 := ⟨c - a - 1, by omega⟩
          have er2 : c - (a + 1) = r := by omega
          rw [er2]
          suffices G2 : ∀ f2 i, i + f2 = S.n → pz_V mX10_heirs Ex Q d bc bs 129 [(0, .ref m), (1, .int (nI c)), (2, .int (nI a)), (3, .int (nI s)), (4, .int (hrI S.tx S.W (hrB S.tx S.n S.W c r) a s i)), (5, .int (nI i))] [] h7 from G2 S.n 0 (Nat.zero_add _)
          intro f2
          induction f2 with
          | zero =>
            intro i hi
            have e : i = S.n := hi
            subst e
            refine wX10_heirs_129 hd (W7.n.mpr ⟨fun _ => (W7.g rfl).mpr (W7.sHe (q := 64 * a + s) (he_ix a (by omega) s hs64) (by omega) (fun h8 W8 => ?_)), fun y => absurd (nI_le (Nat.le_refl _) (by omega)) y⟩)
            rw [nI_1]
            refine ihf (s + 1) h8 _ (by omega) W8 ecm (fun k h9 h10 s' hs' => ?_) (fun s' hs' => ?_)
            · show upd zz.he (64 * a + s) _ (64 * k + s') = _
              rw [upd_ne (by omega)]
              exact hT k h9 h10 s' hs'
            · show upd zz.he (64 * a + s) _ (64 * a + s') = _
              by_cases e : s' = s
              · subst e
                rw [upd_at, er, hrB, show c - (r + 1) = a by omega]
              · rw [upd_ne (by omega)]
                exact hA s' (by omega)
          | succ f2 ih2 =>
            intro i hi
            have g := ih2 (i + 1) (by omega)
            have hin : i < S.n := by omega
            have l64 : s ||| 2 ^ i < 64 := Nat.lt_of_lt_of_le (or_pow hs2 hin) h64
            rw [hrI] at g
            refine wX10_heirs_129 hd (W7.n.mpr ⟨fun y => absurd y (nI_ge (by omega) (by omega)), fun _ => ⟨W7.is, W7.can (tx := S.tx) O1 (by omega) hin hs64 cma (Nat.le_refl _) (fun rr hrr => ⟨_, rfl, ⟨fun y => ?_, fun y => (W7.g rfl).mpr ((W7.rN O1 hin).mpr ((W7.g rfl).mpr ((W7.rHe (q := 64 * (a + 1) + (s ||| 2 ^ i)) ?_ (by omega)).mpr ?_)))⟩⟩)⟩⟩)
            · have cf : hrCan S.tx S.W i a s = false := hrr.mp y
              rw [if_neg (by rw [cf]; decide)] at g
              rw [nI_1]
              exact g
            · rw [show nI a + (1 : Int32) = nI (a + 1) from nI_1 a, he_ix (a + 1) (by omega) s hs64, he_ix2 (a + 1) (by omega) s hs64 i (by omega)]
            · have cn : hrCan S.tx S.W i a s = true := by
                cases w : hrCan S.tx S.W i a s
                · exact absurd (hrr.mpr w) y
                · rfl
              rw [if_pos cn] at g
              have := hT (a + 1) (Nat.le_refl _) (by omega) (s ||| 2 ^ i) (or_pow hs2 hin)
              rw [this, er2, nI_1]
              exact g
    -- the last row is 0
    suffices G : ∀ f s (h6 : pz_H) (zz : pX), s + f = 2 ^ S.n → MW h0 h6 m (S.sTl 0) zz none (-1) lm S.rw → zz.cm = cm → (∀ s', s' < s → zz.he (64 * c + s') = 0) → pz_V mX10_heirs Ex Q d bc bs 67 [(0, .ref m), (1, .int (nI c)), (2, .int (nI s))] [] h6 from G (2 ^ S.n) 0 h5 zz (Nat.zero_add _) W5 ecm (fun s' hs' => absurd hs' (Nat.not_lt_zero _))
    intro f
    induction f with
    | zero =>
      intro s h6 zz hs W6 ecm hA
      have e : s = 2 ^ S.n := hs
      subst e
      refine wX10_heirs_67 hd ⟨W6.is, W6.n.mpr ?_⟩
      rw [all10_eq hn]
      refine ⟨fun _ => ?_, fun y => absurd (nI_lt (by omega) (by omega)) y⟩
      have := tab c h6 zz (Nat.le_refl _) W6 ecm (fun k h8 h9 s' hs' => by
        have : k = c := by omega
        rw [this, Nat.sub_self, hrB]
        exact hA s' hs')
      rw [show nI c - (1 : Int32) = nI c + (-1) from Int32.sub_eq_add_neg _ _]
      exact this
    | succ f ihf =>
      intro s h6 zz hs W6 ecm hA
      refine wX10_heirs_67 hd ⟨W6.is, W6.n.mpr ?_⟩
      rw [all10_eq hn]
      refine ⟨fun y => absurd y (nI_nlt (by omega) (by omega)), fun _ => (W6.g rfl).mpr (W6.sHe (q := 64 * c + s) (he_ix c (by omega) s (by omega)) (by omega) (fun h8 W8 => ?_))⟩
      rw [nI_1]
      refine ihf (s + 1) h8 _ (by omega) W8 ecm (fun s' hs' => ?_)
      show upd zz.he (64 * c + s) 0 (64 * c + s') = 0
      unfold upd
      split
      · rfl
      · exact hA s' (by omega)
  -- a fault
  have bad : ∀ (h5 : pz_H) (cm ac : Nat → Int32) (p q : Nat) (w : Int32), hrFault S.tx S.tl = some q → p < 100 → q < 100 → RD h0 h5 m (P.sI 9 0) S.tl 6 p w cm ac → (if S.tl ≤ p then w else if eX10_fine w = 0 then w else nI p) = nI q → ∀ (c1 : Int32), pz_is h5 m 10 ∧ (pz_ki mX10_wasRight 2 0 0 (.ref m :: []) h5 (fun (x6 : Int32) (h5 : pz_H) => (¬ x6 = 0 → pz_V mX10_heirs Ex Q d bc bs 67 [(0, .ref m), (1, .int c1), (2, .int 0)] [] h5) ∧ (x6 = 0 → pz_gI h5 m 10 14 (fun (x7 : Int32) => Q (some (.int (((-1 : Int32)) - x7))) h5)))) := by
    intro h5 cm ac p q w hf hp hq100 R5 ew c1
    rw [hf] at hq
    refine ⟨R5.is, R5.wasRight htl (by omega) (Nat.le_refl _) (fun h6 R6 => ⟨_, rfl, ?_⟩)⟩
    rw [ew] at R6 ⊢
    rw [fine_0 (by omega)]
    exact ⟨fun z => absurd rfl z, fun _ => R6.wr.mpr (hq h6 (R6.inv B9 h3 h4))⟩
  refine wX10_heirs_0 hd (h1.pI rfl (fun ha Ha => ⟨Ha.is, m_beginText (k := 6) Ha B9.2.2.2.2.1 (by decide) (fun hb Rb => ⟨rfl, ?_⟩)⟩))
  -- reading one by one
  have step : ∀ (c : Nat) (h5 : pz_H) (cm ac : Nat → Int32), c ≤ 6 → RD h0 h5 m (P.sI 9 0) S.tl 6 c (-1) cm ac → (∀ h6, RD h0 h6 m (P.sI 9 0) S.tl 6 (rdO (sgn S.tx S.tl 6 c) 97 4 c (-1)).1 (rdO (sgn S.tx S.tl 6 c) 97 4 c (-1)).2.1 (upd cm c (rdO (sgn S.tx S.tl 6 c) 97 4 c (-1)).2.2) ac → pz_V mX10_heirs Ex Q d bc bs 13 [(0, .ref m), (1, .int (nI (c + 1)))] [] h6) → pz_gR h5 m 10 15 (fun (a8 : Nat) => pz_is h5 m 10 ∧ (pz_ki mX10_oneOf 2 0 0 (.ref m :: [.int 97, .int 4]) h5 (fun (x10 : Int32) (h9 : pz_H) => pz_sI h9 a8 (nI c) x10 (fun (h11 : pz_H) => pz_V mX10_heirs Ex Q d bc bs 13 [(0, .ref m), (1, .int (nI c + (1 : Int32)))] [] h11)))) := by
    intro c h5 cm ac hc R5 hk
    refine (R5.g rfl).mpr ⟨R5.is, R5.one (c := 97) (k := 4) hx htl (by decide) (by omega) (by decide) (Nat.le_refl _) (fun h6 R6 => ⟨_, rfl, R6.sC (q := c) rfl (by omega) (fun h7 R7 => ?_)⟩)⟩
    rw [nI_1]
    exact hk h7 R7
  have fst : ∀ {q : Nat}, q < S.tl → (∀ j, j < q → ¬ eX9_isKingSign (sgn S.tx S.tl 6 j) = 0) → eX9_isKingSign (sgn S.tx S.tl 6 q) = 0 → hrFault S.tx S.tl = some q := by
    intro q hq2 hall hb
    unfold hrFault
    rw [if_neg (by omega)]
    obtain ⟨i, i1, i2, i3, i4, i5⟩ := fday_some (p := fun p => eX9_isKingSign (sgn S.tx S.tl 6 p) = 0) (f := S.tl) (k := 0) (j := q) (Nat.zero_le _) (by omega) hb
    rw [i1]
    congr 1
    rcases Nat.lt_or_ge i q with z | z
    · exact absurd i4 (hall i z)
    · omega
  suffices G : ∀ f c (h5 : pz_H) (cm ac : Nat → Int32), c + f = 7 → c ≤ S.tl → RD h0 h5 m (P.sI 9 0) S.tl 6 c (-1) cm ac → (∀ j, j < c → ¬ eX9_isKingSign (sgn S.tx S.tl 6 j) = 0) → (∀ j, j < c → cm j = nI (S.tx j) - 97) → pz_V mX10_heirs Ex Q d bc bs 13 [(0, .ref m), (1, .int (nI c))] [] h5 from G 7 0 hb _ _ rfl (Nat.zero_le _) Rb (fun j hj => absurd hj (Nat.not_lt_zero _)) (fun j hj => absurd hj (Nat.not_lt_zero _))
  intro f
  induction f with
  | zero =>
    intro c h5 cm ac hc hcl R5 hall hcm
    exfalso
    have c6 := hall 6 (by omega)
    apply c6
    unfold sgn
    rw [if_neg (fun z => by omega)]
    decide
  | succ f ih =>
    intro c h5 cm ac hc hcl R5 hall hcm
    -- behind a sign that stands there, or not
    have nxt : ∀ h6, RD h0 h6 m (P.sI 9 0) S.tl 6 (rdO (sgn S.tx S.tl 6 c) 97 4 c (-1)).1 (rdO (sgn S.tx S.tl 6 c) 97 4 c (-1)).2.1 (upd cm c (rdO (sgn S.tx S.tl 6 c) 97 4 c (-1)).2.2) ac → (c < S.tl ∨ c = 0) → pz_V mX10_heirs Ex Q d bc bs 13 [(0, .ref m), (1, .int (nI (c + 1)))] [] h6 := by
      intro h6 R6 hlt
      unfold rdO at R6
      rw [if_neg fine_1, king_in] at R6
      by_cases k0 : eX9_isKingSign (sgn S.tx S.tl 6 c) = 0
      · rw [if_pos k0] at R6
        dsimp only at R6
        have hf : hrFault S.tx S.tl = some c := by
          rcases Nat.lt_or_ge c S.tl with z | z
          · exact fst z hall k0
          · have c0 : c = 0 := by omega
            subst c0
            unfold hrFault
            rw [if_pos (by omega)]
        refine wX10_heirs_13 hd ⟨R6.is, R6.wr.mpr ⟨fun _ => bad h6 _ _ c c _ hf (by omega) (by omega) R6 ?_ _, fun z => absurd (fine_0 (by omega)) z⟩⟩
        rw [if_pos (fine_0 (by omega))]
        split <;> rfl
      · rw [if_neg k0] at R6
        dsimp only at R6
        have hpl : c < S.tl ∧ c < 6 := by
          by_cases z : c < S.tl ∧ c < 6
          · exact z
          · exfalso
            apply k0
            unfold sgn
            rw [if_neg z]
            decide
        refine ih (c + 1) h6 _ _ (by omega) (by omega) R6 (fun j hj => ?_) (fun j hj => ?_)
        · by_cases e : j = c
          · rw [e]; exact k0
          · exact hall j (by omega)
        · unfold upd
          by_cases e : j = c
          · rw [if_pos e]
            subst e
            unfold sgn
            rw [if_pos hpl]
            rfl
          · rw [if_neg e]
            exact hcm j (by omega)
    refine wX10_heirs_13 hd ⟨R5.is, R5.wr.mpr ⟨fun z => absurd z fine_1, fun _ => ⟨fun z => ?_, fun z => ⟨R5.is, R5.here hx htl (by decide) (by omega) ⟨_, rfl, ⟨fun e => ?_, fun e => ?_⟩⟩⟩⟩⟩⟩
    · have c0 : c = 0 := by
        rcases Nat.eq_zero_or_pos c with y | y
        · exact y
        · exact absurd z (nI_ne0 y (by omega))
      exact step c h5 cm ac (by omega) R5 (fun h6 R6 => nxt h6 R6 (Or.inr c0))
    · have c0 : 0 < c := by
        rcases Nat.eq_zero_or_pos c with y | y
        · rw [y] at z; exact absurd rfl z
        · exact y
      -- at the end
      rcases Nat.lt_or_ge c S.tl with hlt | hge
      · have c6 : ¬ c < 6 := fun y => by
          unfold sgn at e
          rw [if_pos ⟨hlt, y⟩] at e
          exact ni_m1 (by have := (hx c hlt).2.2; omega) e
        have hf : hrFault S.tx S.tl = some c := fst hlt hall (by rw [e]; decide)
        refine bad h5 cm ac c c _ hf (by omega) (by omega) R5 ?_ _
        rw [if_neg (by omega), if_neg fine_1]
      · have ec : c = S.tl := by omega
        have hf : hrFault S.tx S.tl = none := by
          unfold hrFault
          rw [if_neg (by omega)]
          exact fday_none (fun j h8 h9 => hall j (by omega))
        have c6 : c ≤ 6 := by
          rcases Nat.lt_or_ge 6 c with y | y
          · exfalso
            apply hall 6 y
            unfold sgn
            rw [if_neg (fun w => by omega)]
            decide
          · exact y
        refine ⟨R5.is, R5.wasRight htl (by omega) (Nat.le_refl _) (fun h6 R6 => ⟨_, rfl, ?_⟩)⟩
        rw [if_pos (by omega)] at R6 ⊢
        exact ⟨fun _ => main h6 cm ac c hf ec c0 c6 hcm R6, fun y => absurd y fine_1⟩
    · have hlt : c < S.tl := by
        rcases Nat.lt_or_ge c S.tl with y | y
        · exact y
        · exfalso
          apply e
          unfold sgn
          rw [if_neg (fun w => by omega)]
      exact step c h5 cm ac (by omega) R5 (fun h6 R6 => nxt h6 R6 (Or.inl hlt))
end MHE
