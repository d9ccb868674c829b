/-! ===== the reference: lets, just, fills, needs, crosses ===== -/
theorem mod_tb (s i j : Nat) : (s % 2 ^ i).testBit j = (decide (j < i) && s.testBit j) := Nat.testBit_mod_two_pow s i j
theorem mod_succ_f {s i : Nat} (h : s.testBit i = false) : s % 2 ^ (i + 1) = s % 2 ^ i := by
  apply Nat.eq_of_testBit_eq
  intro j
  rw [mod_tb, mod_tb]
  by_cases e : j = i
  · subst e
    rw [h]
    simp
  · have : decide (j < i + 1) = decide (j < i) := by
      by_cases q : j < i
      · simp [q, Nat.lt_succ_of_lt q]
      · simp [q]; omega
    rw [this]
def encO : Option Nat → Int32
  | none => -1
  | some b => nI b
theorem fewS_lt {p : Nat → Bool} : ∀ {N b : Nat}, fewS p N = some b → b < N
  | 0, b, h => by rw [fewS] at h; cases h
  | N + 1, b, h => by
    rw [fewS] at h
    split at h
    · split at h
      · cases h; omega
      · cases h
    · rename_i b' e
      have := fewS_lt e
      split at h
      · cases h; omega
      · cases h; omega
section MP
variable {Ex : State → Nat → Prop} {Q : Option Value → pz_H → Prop} {d bc bs : Nat} {h0 h h' : pz_H} {m : Nat} {S : pS} {oT : Option pW} {T : pW} {lo lm : Int32} {rw : List Int64} {zz : pX}
theorem MW.goTouched {s k : Nat} (H : MW h0 h m S zz oT (-1) lm rw) (O : SOk S) (hs : s < 2 ^ S.n) (hk : k < 2 ^ 31) (hd : 84 ≤ d) (q : ∀ h', MW h0 h' m S zz (some (daysW S.rv S.br S.dn S.n k (S.W.sOu (S.W.ou ^^^ s)))) (-1) lm rw → Q none h') : pz_V mX10_goTouched Ex Q d bc bs 0 [(0, .ref m), (1, .int (nI s)), (2, .int (nI k))] [] h := by
  have hn := O.1
  have hs64 : s < 64 := Nat.lt_of_lt_of_le hs (pow_le64 hn)
  have ho := O.2.2.1.2.2.1
  refine wX10_goTouched_0 hd ((H.g rfl).mpr ((H.g rfl).mpr (H.lay0 O (fun h1 H1 => ⟨rfl, ?_⟩))))
  suffices G : ∀ q2 i h2, i + q2 = S.n → MW h0 h2 m S zz (some (S.W.sOu (S.W.ou ^^^ (s % 2 ^ i)))) (-1) lm rw → pz_V mX10_goTouched Ex Q d bc bs 14 [(0, .ref m), (1, .int (nI s)), (2, .int (nI k)), (3, .int (nI i))] [] h2 from G S.n 0 h1 (Nat.zero_add _) (by rw [Nat.pow_zero, Nat.mod_one, Nat.xor_zero]; exact H1)
  intro q2
  induction q2 with
  | zero =>
    intro i h2 hi H2
    have e : i = S.n := hi
    subst e
    rw [Nat.mod_eq_of_lt hs] at H2
    exact wX10_goTouched_14 hd (H2.n.mpr ⟨fun _ => (H2.g rfl).mpr ⟨H2.is, H2.days O hk (Nat.le_refl _) (fun h3 H3 => ⟨rfl, q h3 H3⟩)⟩, fun hc => absurd (nI_le (Nat.le_refl _) (by omega)) hc⟩)
  | succ q2 ih =>
    intro i h2 hi H2
    have hin : i < S.n := by omega
    refine wX10_goTouched_14 hd (H2.n.mpr ⟨fun hc => absurd hc (nI_ge (by omega) (by omega)), fun _ => ⟨fun hb => ?_, fun hb => (H2.g rfl).mpr ((H2.g rfl).mpr ((H2.rTo O hin).mpr ?_))⟩⟩)
    · have hb := (has10_0 hs64 (by omega)).mp hb
      rw [nI_1]
      refine ih (i + 1) h2 (by omega) ?_
      rw [mod_succ_f hb]
      exact H2
    · have hb := (has10_t hs64 (by omega)).mp hb
      have ob : (S.W.ou ^^^ (s % 2 ^ i)).testBit i = S.W.ou.testBit i := by
        rw [Nat.testBit_xor, mod_tb]
        simp
      have ob2 : (S.W.ou ^^^ (s % 2 ^ (i + 1))).testBit i = !S.W.ou.testBit i := by
        rw [Nat.testBit_xor, mod_tb, hb]
        simp
      refine H2.sT (q := 6 + i) (T' := S.W.sOu (S.W.ou ^^^ (s % 2 ^ (i + 1)))) (nI_add 6 i) (by omega) (fun a ha => ?_) (fun _ _ => rfl) O.2.2.1.2.1 (fun h3 H3 => ?_)
      · refine ha.sOu (o := S.W.ou ^^^ (s % 2 ^ (i + 1))) hn hin (Nat.xor_lt_two_pow ho (Nat.lt_of_le_of_lt (Nat.mod_le _ _) hs)) ?_ (fun j hj => ?_)
        · show (1 : Int32) - (if (S.W.ou ^^^ (s % 2 ^ i)).testBit i then 1 else 0) = _
          rw [ob, ob2]
          cases S.W.ou.testBit i <;> decide
        · show (S.W.ou ^^^ (s % 2 ^ (i + 1))).testBit j = (S.W.ou ^^^ (s % 2 ^ i)).testBit j
          rw [Nat.testBit_xor, Nat.testBit_xor, mod_tb, mod_tb]
          have : decide (j < i + 1) = decide (j < i) := by
            by_cases z : j < i
            · simp [z, Nat.lt_succ_of_lt z]
            · simp [z]; omega
          rw [this]
      · rw [nI_1]
        exact ih (i + 1) h3 (by omega) H3
theorem MW.few {so dr k : Nat} (H : MW h0 h m S zz oT (-1) lm S.rw) (O : SOk S) (hso : so < 64) (hdr : dr < 64) (hk : k < 100) (hd : 85 ≤ d) (hq : ∀ h' T' lm' zz', MW h0 h' m S zz' T' (-1) lm' (s_few S.rv S.br S.dn S.n S.W S.rw so dr k).2 → Q (some (.int (s_few S.rv S.br S.dn S.n S.W S.rw so dr k).1)) h') : pz_V mX10_fewest Ex Q d bc bs 0 [(0, .ref m), (1, .int (nI so)), (2, .int (nI dr)), (3, .int (nI k))] [] h := by
  have hn := O.1
  have h64 := pow_le64 hn
  unfold s_few at hq
  refine wX10_fewest_0 hd ?_
  suffices G : ∀ (q j : Nat) (h4 : pz_H) (oT : Option pW), j + q = 2 ^ S.n → MW h0 h4 m S zz oT (-1) lm S.rw → pz_V mX10_fewest Ex Q d bc bs 6 [(0, .ref m), (1, .int (nI so)), (2, .int (nI dr)), (3, .int (nI k)), (4, .int (encO (fewS (fewP S.rv S.br S.dn S.n S.W so dr k) j))), (5, .int (nI j))] [] h4 from G (2 ^ S.n) 0 h oT (Nat.zero_add _) H
  intro q
  induction q with
  | zero =>
    intro j h4 oT hj H4
    have e : j = 2 ^ S.n := hj
    subst e
    refine wX10_fewest_6 hd ⟨H4.is, H4.n.mpr ?_⟩
    rw [all10_eq hn]
    have p0 := Nat.two_pow_pos S.n
    refine ⟨fun _ => ?_, fun hc => absurd (nI_lt (by omega) (by omega)) hc⟩
    cases ef : fewS (fewP S.rv S.br S.dn S.n S.W so dr k) (2 ^ S.n) with
    | none =>
      rw [ef] at hq
      exact ⟨fun hc => absurd rfl hc, fun _ => hq h4 _ _ _ H4⟩
    | some b =>
      rw [ef] at hq
      have hb := fewS_lt ef
      refine ⟨fun _ => H4.row0 (fun h5 H5 => ⟨H5.is, H5.tell (by decide) (fun h6 H6 => ⟨rfl, t_bitCount (by omega) ⟨_, rfl, hq h6 _ _ _ H6⟩⟩)⟩), fun hc => absurd hc (ni_m1 (by omega))⟩
  | succ q ih =>
    intro j h4 oT hj H4
    have hj2 : j < 2 ^ S.n := by omega
    -- what the touched plugs give
    have go : ∀ (h5 : pz_H) (oT : Option pW), MW h0 h5 m S zz oT (-1) lm S.rw → ∀ (a b : Int32),
        (∀ (h6 : pz_H) (oT : Option pW), MW h0 h6 m S zz oT (-1) lm S.rw → fewP S.rv S.br S.dn S.n S.W so dr k j = false → pz_V mX10_fewest Ex Q d bc bs 6 [(0, .ref m), (1, .int (nI so)), (2, .int (nI dr)), (3, .int (nI k)), (4, .int a), (5, .int (nI (j + 1)))] [] h6) →
        (∀ (h6 : pz_H) (oT : Option pW), MW h0 h6 m S zz oT (-1) lm S.rw → fewP S.rv S.br S.dn S.n S.W so dr k j = true → pz_V mX10_fewest Ex Q d bc bs 6 [(0, .ref m), (1, .int (nI so)), (2, .int (nI dr)), (3, .int (nI k)), (4, .int b), (5, .int (nI (j + 1)))] [] h6) →
        pz_is h5 m 10 ∧ (pz_kv mX10_goTouched 84 0 0 (.ref m :: [.int (nI j), .int (nI k)]) h5 (fun (h9 : pz_H) => pz_gR h9 m 10 24 (fun (a10 : Nat) => pz_is h9 m 10 ∧ (pz_ki mX10_dryOnes 0 0 0 (.ref m :: [.ref a10]) h9 (fun (x12 : Int32) (h11 : pz_H) => (¬ (x12 &&& (nI so)) = (nI dr) → pz_V mX10_fewest Ex Q d bc bs 6 [(0, .ref m), (1, .int (nI so)), (2, .int (nI dr)), (3, .int (nI k)), (4, .int a), (5, .int (nI (j + 1)))] [] h11) ∧ ((x12 &&& (nI so)) = (nI dr) → pz_V mX10_fewest Ex Q d bc bs 6 [(0, .ref m), (1, .int (nI so)), (2, .int (nI dr)), (3, .int (nI k)), (4, .int b), (5, .int (nI (j + 1)))] [] h11)))))) := by
      intro h5 oT H5 a b g1 g2
      refine ⟨H5.is, H5.goTouched O hj2 (by omega) (Nat.le_refl _) (fun h6 H6 => ⟨rfl, (H6.g rfl).mpr ⟨H6.is, H6.dry O ⟨_, rfl, ?_⟩⟩⟩)⟩
      have h641 : dryOf (daysW S.rv S.br S.dn S.n k (S.W.sOu (S.W.ou ^^^ j))).lv S.n < 64 := bitsOf_64 _ hn
      dsimp only
      rw [fa_and, nI_inj' (by have := and64 (b := so) h641; omega) (by omega)]
      refine ⟨fun hc => g1 h6 _ H6 ?_, fun hc => g2 h6 _ H6 ?_⟩
      · unfold fewP
        exact decide_eq_false hc
      · unfold fewP
        exact decide_eq_true hc
    refine wX10_fewest_6 hd ⟨H4.is, H4.n.mpr ?_⟩
    rw [all10_eq hn, nI_1]
    have p0 := Nat.two_pow_pos S.n
    refine ⟨fun hc => absurd hc (nI_nlt (by omega) (by omega)), fun _ => ?_⟩
    have g := ih (j + 1)
    rw [fewS] at g
    cases ef : fewS (fewP S.rv S.br S.dn S.n S.W so dr k) j with
    | none =>
      rw [ef] at g
      dsimp only at g
      refine ⟨fun _ => go h4 oT H4 _ _ (fun h6 oT H6 hp => ?_) (fun h6 oT H6 hp => ?_), fun hc => absurd rfl hc⟩
      · rw [hp] at g
        exact g h6 oT (by omega) H6
      · rw [hp] at g
        exact g h6 oT (by omega) H6
    | some b =>
      rw [ef] at g
      dsimp only at g
      have hb := fewS_lt ef
      have c1 := popc_le S.n hn j hj2
      have c2 := popc_le S.n hn b (by omega)
      refine ⟨fun hc => absurd hc (ni_m1 (i := b) (by omega)), fun _ => t_bitCount (by omega) ⟨_, rfl, t_bitCount (s := b) (by omega) ⟨_, rfl, ?_⟩⟩⟩
      dsimp only
      rw [nI_ltI (by omega) (by omega)]
      refine ⟨fun hl => go h4 oT H4 _ _ (fun h6 oT H6 hp => ?_) (fun h6 oT H6 hp => ?_), fun hl => ?_⟩
      · rw [if_neg (fun z => by rw [hp] at z; exact absurd z.2 (by decide))] at g
        exact g h6 oT (by omega) H6
      · rw [if_pos ⟨hl, hp⟩] at g
        exact g h6 oT (by omega) H6
      · rw [if_neg (fun z => hl z.1)] at g
        exact g h4 oT (by omega) H4
theorem M_lets {l k : Int32} (H : MW h0 h m S zz oT (-1) lm S.rw) (O : SOk S) (hd : 86 ≤ d) (hq : ∀ h' T' lm' zz', MW h0 h' m S zz' T' (-1) lm' (s_lets S.rv S.br S.dn S.n S.W S.rw l k).2 → Q (some (.int (s_lets S.rv S.br S.dn S.n S.W S.rw l k).1)) h') : pz_V mX10_lets Ex Q d bc bs 0 [(0, .ref m), (1, .int l), (2, .int k)] [] h := by
  have hn := O.1
  unfold s_lets at hq
  refine wX10_lets_0 hd (H.th (fun h1 H1 => ⟨H1.is, H1.n.mpr ?_⟩))
  rw [isLake_eq hn, in_eq]
  refine ⟨fun hc => by rw [if_pos hc] at hq; exact hq h1 _ _ _ H1, fun hc => ⟨fun hc2 => by rw [if_neg hc, if_pos hc2] at hq; exact hq h1 _ _ _ H1, fun hc2 => ?_⟩⟩
  rw [if_neg hc, if_neg hc2] at hq
  obtain ⟨i, hi, rfl⟩ := (has_0 hn).mp hc
  obtain ⟨k, hk, rfl⟩ := (within_0 (hi := 40) (by decide)).mp hc2
  rw [clamp (by omega), clamp (by omega)] at hq
  rw [shl1 i (by omega)]
  exact ⟨H1.is, H1.few O (two_lt (by omega)) (two_lt (by omega)) (by omega) (Nat.le_refl _) (fun h2 T2 lm2 z2 H2 => ⟨_, rfl, hq h2 T2 lm2 z2 H2⟩)⟩
theorem sub_in {n : Nat} (hn : n ≤ 6) {x : Int32} : eX9_isWithin x 0 (nI (2 ^ n - 1)) = 0 ↔ ¬ (x &&& (nI (2 ^ n - 1) ^^^ (-1 : Int32))) = 0 := by
  have h64 := pow_le64 hn
  have p0 := Nat.two_pow_pos n
  have key : ¬ eX9_isWithin x 0 (nI (2 ^ n - 1)) = 0 ↔ (x &&& (nI (2 ^ n - 1) ^^^ (-1 : Int32))) = 0 := by
    rw [within_0 (by omega)]
    constructor
    · rintro ⟨k, hk, rfl⟩
      have : ∀ n, n ≤ 6 → ∀ k, k < 2 ^ n → nI k &&& (nI (2 ^ n - 1) ^^^ (-1 : Int32)) = 0 := by decide +kernel
      exact this n hn k (by omega)
    · intro z
      obtain ⟨s, hs, e⟩ := sub_all hn z
      exact ⟨s, by omega, e⟩
  constructor
  · intro z1 z2
    exact (key.mpr z2) z1
  · intro z1
    exact Decidable.byContradiction (fun z2 => z1 (key.mp z2))
theorem M_just {so k : Int32} (H : MW h0 h m S zz oT (-1) lm S.rw) (O : SOk S) (hd : 86 ≤ d) (hq : ∀ h' T' lm' zz', MW h0 h' m S zz' T' (-1) lm' (s_just S.rv S.br S.dn S.n S.W S.rw so k).2 → Q (some (.int (s_just S.rv S.br S.dn S.n S.W S.rw so k).1)) h') : pz_V mX10_just Ex Q d bc bs 0 [(0, .ref m), (1, .int so), (2, .int k)] [] h := by
  have hn := O.1
  have h64 := pow_le64 hn
  have p0 := Nat.two_pow_pos S.n
  unfold s_just at hq
  refine wX10_just_0 hd (H.th (fun h1 H1 => ⟨H1.is, H1.n.mpr ?_⟩))
  rw [all10_eq hn, in_eq, in_eq]
  refine ⟨fun hc => by rw [if_pos ((sub_in hn).mp hc)] at hq; exact hq h1 _ _ _ H1, fun hc => ?_⟩
  have hc' : ¬ ¬ (so &&& (nI (2 ^ S.n - 1) ^^^ (-1 : Int32))) = 0 := fun z => hc ((sub_in hn).mpr z)
  rw [if_neg hc'] at hq
  refine ⟨fun hc2 => by rw [if_pos hc2] at hq; exact hq h1 _ _ _ H1, fun hc2 => ⟨H1.is, H1.n.mpr ?_⟩⟩
  rw [if_neg hc2] at hq
  obtain ⟨s, hs, rfl⟩ := sub_all hn (Decidable.byContradiction hc')
  obtain ⟨k, hk, rfl⟩ := (within_0 (hi := 40) (by decide)).mp hc2
  rw [clamp (by omega), clamp (by omega)] at hq
  rw [all10_eq hn]
  exact ⟨H1.is, H1.few O (by omega) (by omega) (by omega) (Nat.le_refl _) (fun h2 T2 lm2 z2 H2 => ⟨_, rfl, hq h2 T2 lm2 z2 H2⟩)⟩
theorem flS_cg {f g : Nat → Int32} {many : Nat} : ∀ {N : Nat}, (∀ t, t < N → f t = g t) → flS f many N = flS g many N
  | 0, _ => rfl
  | N + 1, h => by rw [flS, flS, flS_cg (fun t ht => h t (by omega)), h N (by omega)]
theorem M_fills {c k : Int32} (H : MW h0 h m S zz oT (-1) lm S.rw) (O : SOk S) (hd : 85 ≤ d) (hq : ∀ h' T' lm' zz', MW h0 h' m S zz' T' (-1) lm' (s_fills S.rv S.br S.dn S.n S.W S.rw c k).2 → Q (some (.int (s_fills S.rv S.br S.dn S.n S.W S.rw c k).1)) h') : pz_V mX10_fills Ex Q d bc bs 0 [(0, .ref m), (1, .int c), (2, .int k)] [] h := by
  have hn := O.1
  have h64 := pow_le64 hn
  have p0 := Nat.two_pow_pos S.n
  have ho := O.2.2.1.2.2.1
  unfold s_fills at hq
  refine wX10_fills_0 hd (H.th (fun h1 H1 => ?_))
  rw [in_eq, in_eq]
  refine ⟨fun hc => by rw [if_pos hc] at hq; exact hq h1 _ _ _ H1, fun hc => ⟨fun hc2 => ?_, fun hc2 => by rw [if_neg hc, if_pos hc2] at hq; exact hq h1 _ _ _ H1⟩⟩
  rw [if_neg hc, if_neg hc2] at hq
  obtain ⟨c, hc6, rfl⟩ := (within_0 (hi := 6) (by decide)).mp hc
  obtain ⟨k, hk, rfl⟩ := (within_0 (hi := 40) (by decide)).mp hc2
  rw [clamp (by omega), clamp (by omega)] at hq
  dsimp only at hq
  suffices G : ∀ (q j : Nat) (h4 : pz_H) (oT : Option pW), j + q = 2 ^ S.n → MW h0 h4 m S zz oT (-1) lm S.rw → pz_V mX10_fills Ex Q d bc bs 35 [(0, .ref m), (1, .int (nI c)), (2, .int (nI k)), (3, .int (flS (flF S.rv S.br S.dn S.n S.W k) c j).1), (4, .int (flS (flF S.rv S.br S.dn S.n S.W k) c j).2), (5, .int (nI j))] [] h4 from G (2 ^ S.n) 0 h1 oT (Nat.zero_add _) H1
  intro q
  induction q with
  | zero =>
    intro j h4 oT hj H4
    have e : j = 2 ^ S.n := hj
    subst e
    refine wX10_fills_35 hd ⟨H4.is, H4.n.mpr ?_⟩
    rw [all10_eq hn]
    refine ⟨fun _ => ⟨fun hx => ?_, fun hx => ?_⟩, fun hz => absurd (nI_lt (by omega) (by omega)) hz⟩
    · rw [if_neg hx] at hq
      exact H4.row0 (fun h5 H5 => ⟨H5.is, H5.tell (by decide) (fun h6 H6 => ⟨rfl, hq h6 _ _ _ H6⟩)⟩)
    · rw [if_pos hx] at hq
      exact hq h4 _ _ _ H4
  | succ q ih =>
    intro j h4 oT hj H4
    have hj2 : j < 2 ^ S.n := by omega
    have c1 := popc_le S.n hn j hj2
    have g := ih (j + 1)
    rw [flS] at g
    refine wX10_fills_35 hd ⟨H4.is, H4.n.mpr ?_⟩
    rw [all10_eq hn, nI_1]
    refine ⟨fun hz => absurd hz (nI_nlt (by omega) (by omega)), fun _ => t_bitCount (by omega) ⟨_, rfl, ?_⟩⟩
    dsimp only
    rw [nI_inj' (by omega) (by omega)]
    refine ⟨fun he => (H4.g rfl).mpr ⟨H4.is, H4.outN O ⟨_, rfl, H4.is, ?_⟩⟩, fun he => ?_⟩
    · have ex : S.W.ou ^^^ (j ^^^ S.W.ou) = j := by
        rw [Nat.xor_comm j, ← Nat.xor_assoc, Nat.xor_self, Nat.zero_xor]
      rw [xor_nI]
      refine H4.goTouched O (Nat.xor_lt_two_pow hj2 ho) (by omega) (Nat.le_refl _) (fun h5 H5 => ⟨rfl, (H5.g rfl).mpr ⟨H5.is, H5.sum O ⟨_, rfl, ?_⟩⟩⟩)
      rw [ex] at H5 ⊢
      refine ⟨fun hl => (H5.g rfl).mpr ⟨H5.is, H5.sum O ⟨_, rfl, ?_⟩⟩, fun hl => ?_⟩
      · rw [if_pos ⟨he, Int32.not_le.mpr hl⟩] at g
        exact g h5 _ (by omega) H5
      · rw [if_neg (fun z => hl (Int32.not_le.mp z.2))] at g
        exact g h5 _ (by omega) H5
    · rw [if_neg (fun z => he z.1)] at g
      exact g h4 oT (by omega) H4
theorem Rg.sTp {n i : Nat} {br : Nat → Int32} {W : pW} {v : Int32} (h : Rg n br W) (hv : Bt v 0 9) : Rg n br (W.sTp (upd W.tp i v)) := fun o ho => by
  obtain ⟨r1, r2, r3, r4, r5⟩ := h o ho
  refine ⟨r1, r2, ?_, r4, r5⟩
  show Bt (upd W.tp i v o) 0 9
  unfold upd
  split
  · exact hv
  · exact r3
theorem Rg.sHr {n i : Nat} {br : Nat → Int32} {W : pW} {v : Int32} (h : Rg n br W) (hv : Bt v 0 9) : Rg n br (W.sHr (upd W.hr i v)) := fun o ho => by
  obtain ⟨r1, r2, r3, r4, r5⟩ := h o ho
  refine ⟨r1, r2, r3, r4, ?_⟩
  show Bt (upd W.hr i v o) 0 9
  unfold upd
  split
  · exact hv
  · exact r5
theorem M_needs {l v k : Int32} (H : MW h0 h m S zz oT (-1) lm S.rw) (O : SOk S) (hd : 84 ≤ d) (hq : ∀ h' T' lm' zz', MW h0 h' m S zz' T' (-1) lm' (s_needs S.rv S.br S.dn S.n S.W S.rw l v k).2 → Q (some (.int (s_needs S.rv S.br S.dn S.n S.W S.rw l v k).1)) h') : pz_V mX10_needs Ex Q d bc bs 0 [(0, .ref m), (1, .int l), (2, .int v), (3, .int k)] [] h := by
  have hn := O.1
  unfold s_needs at hq
  refine wX10_needs_0 hd (H.th (fun h1 H1 => ⟨H1.is, H1.n.mpr ?_⟩))
  rw [isLake_eq hn, in_eq, in_eq]
  refine ⟨fun hc => by rw [if_pos hc] at hq; exact hq h1 _ _ _ H1, fun hc => ⟨fun hc2 => by rw [if_neg hc, if_pos hc2] at hq; exact hq h1 _ _ _ H1, fun hc2 => ⟨fun hc3 => ?_, fun hc3 => by rw [if_neg hc, if_neg hc2, if_pos hc3] at hq; exact hq h1 _ _ _ H1⟩⟩⟩
  rw [if_neg hc, if_neg hc2, if_neg hc3] at hq
  obtain ⟨i, hi, rfl⟩ := (has_0 hn).mp hc
  obtain ⟨k, hk, rfl⟩ := (within_0 (hi := 60) (by decide)).mp hc3
  rw [clamp (by omega), clamp (by omega)] at hq
  -- one tap tried
  have one : ∀ (t : Nat) (h4 : pz_H) (oT : Option pW), t < 10 → MW h0 h4 m S zz oT (-1) lm S.rw → (∀ h5, MW h0 h5 m S zz (some (daysW S.rv S.br S.dn S.n k (S.W.sTp (upd S.W.tp i (nI t))))) (-1) lm S.rw → ((v ≤ neF S.rv S.br S.dn S.n S.W i k t → pz_pF h5 m 10 8 (.int 0) (fun (h10 : pz_H) => pz_gR h10 m 10 24 (fun (a11 : Nat) => pz_rI h10 a11 (nI i) (fun (x12 : Int32) => pz_is h10 m 10 ∧ (pz_kv mX10_tell 0 0 0 (.ref m :: [.long x12.toInt64]) h10 (fun (h13 : pz_H) => Q (some (.int (nI t))) h13)))))) ∧ (¬ v ≤ neF S.rv S.br S.dn S.n S.W i k t → pz_V mX10_needs Ex Q d bc bs 38 [(0, .ref m), (1, .int (nI i)), (2, .int v), (3, .int (nI k)), (4, .int (nI (t + 1)))] [] h5))) → pz_V mX10_needs Ex Q d bc bs 38 [(0, .ref m), (1, .int (nI i)), (2, .int v), (3, .int (nI k)), (4, .int (nI t))] [] h4 := by
    intro t h4 oT ht H4 hk2
    have bt := Bt.lit (n := t) (by omega)
    refine wX10_needs_38 hd ⟨fun hc => absurd hc (nI_nlt (a := 9) (by omega) (by decide)), fun _ => (H4.g rfl).mpr ((H4.g rfl).mpr (H4.lay0 O (fun h5 H5 => ⟨rfl, (H5.g rfl).mpr (H5.sT (q := 18 + i) (T' := S.W.sTp (upd S.W.tp i (nI t))) (nI_add 18 i) (by omega) (fun a ha => ha.sTp hn hi) (fun _ _ => rfl) (O.2.2.1.2.1.sTp (bt.mono (by omega) (by omega))) (fun h6 H6 => (H6.g rfl).mpr ⟨H6.is, H6.days O (by omega) (Nat.le_refl _) (fun h7 H7 => ⟨rfl, (H7.g rfl).mpr ((H7.rT O hi).mpr ?_)⟩)⟩))⟩)))⟩
    rw [nI_1]
    exact hk2 h7 H7
  refine firstN_run (N := 10) (p := fun t => ¬ neF S.rv S.br S.dn S.n S.W i k t < v) (Z := fun o => ∀ h' T' lm' zz', MW h0 h' m S zz' T' (-1) lm' (neA S.rv S.br S.dn S.n S.W S.rw i k o).2 → Q (some (.int (neA S.rv S.br S.dn S.n S.W S.rw i k o).1)) h')
    (V := fun t hh => pz_V mX10_needs Ex Q d bc bs 38 [(0, .ref m), (1, .int (nI i)), (2, .int v), (3, .int (nI k)), (4, .int (nI t))] [] hh) (Ck := fun t hh => ∃ oT, MW h0 hh m S zz oT (-1) lm S.rw) ?_ ?_ ?_ 10 0 h1 rfl ⟨_, H1⟩ hq
  · rintro hh ⟨oT, hC⟩ hz
    exact wX10_needs_38 hd ⟨fun _ => hz hh _ _ _ hC, fun hc => absurd (nI_lt (a := 9) (b := 10) (by decide) (by decide)) hc⟩
  · rintro t hh ht ⟨oT, hC⟩ hp hz
    exact one t hh oT ht hC (fun h5 H5 => ⟨fun _ => H5.row0 (fun h6 H6 => (H6.g rfl).mpr ((H6.rT O hi).mpr ⟨H6.is, H6.tell (by decide) (fun h7 H7 => ⟨rfl, hz h7 _ _ _ H7⟩)⟩)), fun hc => absurd (Int32.not_lt.mp hp) hc⟩)
  · rintro t hh ht ⟨oT, hC⟩ hp ih
    exact one t hh oT ht hC (fun h5 H5 => ⟨fun hc => absurd (Int32.not_lt.mpr hc) hp, fun _ => ih h5 ⟨_, H5⟩⟩)
def encC : Option (Nat × Int32) → Int32 × Int32
  | none => (-1, 1000000)
  | some (b, v) => (nI b, v)
theorem M_crosses {k : Int32} (H : MW h0 h m S zz oT (-1) lm S.rw) (O : SOk S) (hd : 85 ≤ d) (hq : ∀ h' T' lm' zz', MW h0 h' m S zz' T' (-1) lm' (s_crosses S.rv S.br S.dn S.n S.W S.rw k).2 → Q (some (.int (s_crosses S.rv S.br S.dn S.n S.W S.rw k).1)) h') : pz_V mX10_crosses Ex Q d bc bs 0 [(0, .ref m), (1, .int k)] [] h := by
  have hn := O.1
  have ho := O.2.2.1.2.2.1
  have hR := O.2.2.1.2.1
  unfold s_crosses at hq
  refine wX10_crosses_0 hd (H.th (fun h1 H1 => ?_))
  rw [in_eq]
  refine ⟨fun hc => H1.n.mpr ⟨fun hz => ?_, fun hz => ?_⟩, fun hc => by rw [if_pos hc] at hq; exact hq h1 _ _ _ H1⟩
  · rw [if_neg hc] at hq
    obtain ⟨k, hk1, hk, rfl⟩ := (within_1 (lo := 1) (hi := 40) (by decide) (by decide)).mp hc
    rw [clamp (by omega)] at hq
    have hn0 : 0 < S.n := by
      rcases Nat.eq_zero_or_pos S.n with z | z
      · rw [z] at hz; exact absurd rfl hz
      · exact z
    have bf : ∀ i, i < S.n → Bt (crF S.rv S.br S.dn S.n S.W k i) 0 594 := by
      intro i hi
      unfold crF
      have hRc : Rg S.n S.br (crossW S.W i) := by
        unfold crossW
        split
        · exact hR.sHr ((Bt.z).mono (by omega) (by omega))
        · exact hR
      have := sumI_Bt hn (fun i hi => (hRc.days (rv := S.rv) (dn := S.dn) hn k).lv hi) S.n (Nat.le_refl _)
      exact this.mono (by omega) (by omega)
    suffices G : ∀ (q j : Nat) (h4 : pz_H) (oT : Option pW), j + q = S.n → MW h0 h4 m S zz oT (-1) lm S.rw → pz_V mX10_crosses Ex Q d bc bs 36 [(0, .ref m), (1, .int (nI k)), (2, .int (encC (crS (crF S.rv S.br S.dn S.n S.W k) j)).1), (3, .int (encC (crS (crF S.rv S.br S.dn S.n S.W k) j)).2), (4, .int (nI j))] [] h4 from G S.n 0 h1 oT (Nat.zero_add _) H1
    intro q
    induction q with
    | zero =>
      intro j h4 oT hj H4
      have e : j = S.n := hj
      subst e
      obtain ⟨n', en⟩ : ∃ n', S.n = n' + 1 := ⟨S.n - 1, by omega⟩
      obtain ⟨b, v, ecr⟩ : ∃ b v, crS (crF S.rv S.br S.dn S.n S.W k) S.n = some (b, v) := by
        rw [show crS (crF S.rv S.br S.dn S.n S.W k) S.n = crS (crF S.rv S.br S.dn S.n S.W k) (n' + 1) by rw [← en], crS]
        cases crS (crF S.rv S.br S.dn S.n S.W k) n' with
        | none => exact ⟨_, _, rfl⟩
        | some p =>
          obtain ⟨b, v⟩ := p
          dsimp only
          split
          · exact ⟨_, _, rfl⟩
          · exact ⟨_, _, rfl⟩
      rw [ecr] at hq ⊢
      exact wX10_crosses_36 hd (H4.n.mpr ⟨fun _ => ⟨H4.is, H4.goThen O (by omega) (Nat.le_refl _) (fun h5 H5 => ⟨rfl, H5.row0 (fun h6 H6 => (H6.g rfl).mpr ⟨H6.is, H6.sum O ⟨_, rfl, H6.is, H6.tell (by decide) (fun h7 H7 => ⟨rfl, hq h7 _ _ _ H7⟩)⟩⟩)⟩)⟩, fun hz => absurd (nI_le (Nat.le_refl _) (by omega)) hz⟩)
    | succ q ih =>
      intro j h4 oT hj H4
      have hin : j < S.n := by omega
      have g := ih (j + 1)
      have bj := bf j hin
      -- behind the days
      have fin : ∀ (h16 : pz_H), MW h0 h16 m S zz (some (daysW S.rv S.br S.dn S.n k (crossW S.W j))) (-1) lm S.rw → pz_gR h16 m 10 24 (fun (a17 : Nat) => pz_is h16 m 10 ∧ (pz_ki mX10_sumOf 0 0 0 (.ref m :: [.ref a17, .int 0]) h16 (fun (x19 : Int32) (h18 : pz_H) => (x19 < (encC (crS (crF S.rv S.br S.dn S.n S.W k) j)).2 → pz_gR h18 m 10 24 (fun (a20 : Nat) => pz_is h18 m 10 ∧ (pz_ki mX10_sumOf 0 0 0 (.ref m :: [.ref a20, .int 0]) h18 (fun (x22 : Int32) (h21 : pz_H) => pz_V mX10_crosses Ex Q d bc bs 36 [(0, .ref m), (1, .int (nI k)), (2, .int (nI j)), (3, .int x22), (4, .int (nI (j + 1)))] [] h21)))) ∧ (¬ x19 < (encC (crS (crF S.rv S.br S.dn S.n S.W k) j)).2 → pz_V mX10_crosses Ex Q d bc bs 36 [(0, .ref m), (1, .int (nI k)), (2, .int (encC (crS (crF S.rv S.br S.dn S.n S.W k) j)).1), (3, .int (encC (crS (crF S.rv S.br S.dn S.n S.W k) j)).2), (4, .int (nI (j + 1)))] [] h18)))) := by
        intro h16 H16
        rw [crS] at g
        refine (H16.g rfl).mpr ⟨H16.is, H16.sum O ⟨_, rfl, ⟨fun hl => (H16.g rfl).mpr ⟨H16.is, H16.sum O ⟨_, rfl, ?_⟩⟩, fun hl => ?_⟩⟩⟩
        · cases ec : crS (crF S.rv S.br S.dn S.n S.W k) j with
          | none =>
            rw [ec] at g
            exact g h16 _ (by omega) H16
          | some p =>
            obtain ⟨b, v⟩ := p
            rw [ec] at g hl
            dsimp only at g
            rw [if_pos (show crF S.rv S.br S.dn S.n S.W k j < v from hl)] at g
            exact g h16 _ (by omega) H16
        · cases ec : crS (crF S.rv S.br S.dn S.n S.W k) j with
          | none =>
            rw [ec] at hl
            exfalso
            apply hl
            show crF S.rv S.br S.dn S.n S.W k j < 1000000
            rw [lt_i]
            have e1 : (1000000 : Int32).toInt = 1000000 := by decide
            have := bj.2
            omega
          | some p =>
            obtain ⟨b, v⟩ := p
            rw [ec] at g hl
            dsimp only at g
            rw [if_neg (show ¬ crF S.rv S.br S.dn S.n S.W k j < v from hl)] at g
            exact g h16 _ (by omega) H16
      refine wX10_crosses_36 hd (H4.n.mpr ⟨fun hz => absurd hz (nI_ge (by omega) (by omega)), fun _ => (H4.g rfl).mpr ((H4.g rfl).mpr (H4.lay0 O (fun h5 H5 => ⟨rfl, (H5.g rfl).mpr ((H5.rTo O hin).mpr ?_)⟩)))⟩)
      rw [nI_1]
      cases ob : S.W.ou.testBit j
      · have ecw : crossW S.W j = S.W.sOu (S.W.ou ||| 2 ^ j) := by unfold crossW; rw [ob]; rfl
        rw [ecw] at fin
        refine ⟨fun hz => absurd rfl hz, fun _ => (H5.g rfl).mpr (H5.sT (q := 6 + j) (T' := S.W.sOu (S.W.ou ||| 2 ^ j)) (nI_add 6 j) (by omega) (fun a ha => ?_) (fun _ _ => rfl) hR (fun h6 H6 => (H6.g rfl).mpr ⟨H6.is, H6.days O (by omega) (Nat.le_refl _) (fun h7 H7 => ⟨rfl, fin h7 H7⟩)⟩))⟩
        refine ha.sOu (o := S.W.ou ||| 2 ^ j) hn hin (Nat.or_lt_two_pow ho (Nat.pow_lt_pow_right (by decide) hin)) ?_ (fun z hz => ?_)
        · rw [Nat.testBit_or, Nat.testBit_two_pow]
          simp
        · rw [Nat.testBit_or, Nat.testBit_two_pow]
          simp [show ¬ j = z by omega]
      · have ecw : crossW S.W j = S.W.sHr (upd S.W.hr j 0) := by unfold crossW; rw [ob]; rfl
        rw [ecw] at fin
        refine ⟨fun _ => (H5.g rfl).mpr (H5.sT (q := 12 + j) (T' := S.W.sHr (upd S.W.hr j 0)) (nI_add 12 j) (by omega) (fun a ha => ha.sHr hn hin) (fun _ _ => rfl) (hR.sHr ((Bt.z).mono (by omega) (by omega))) (fun h6 H6 => (H6.g rfl).mpr ⟨H6.is, H6.days O (by omega) (Nat.le_refl _) (fun h7 H7 => ⟨rfl, fin h7 H7⟩)⟩)), fun hz => absurd hz (by decide)⟩
  · rw [if_neg hc] at hq
    have hn0 : S.n = 0 := by
      rcases Nat.eq_zero_or_pos S.n with z | z
      · exact z
      · exact absurd hz (nI_ne0 z (by omega))
    rw [hn0] at hq
    exact hq h1 _ _ _ H1
end MP
