/-! ===== the reference: wants, evens, feared, threat, treaty, realm, course, basin, rests ===== -/
theorem fewS_f {p : Nat → Bool} {j : Nat} (hp : p j = false) : fewS p (j + 1) = fewS p j := by
  rw [fewS]
  cases fewS p j with
  | none => dsimp only; rw [hp]; rfl
  | some b => dsimp only; rw [if_neg (fun z => by rw [hp] at z; exact absurd z.2 (by decide))]
theorem sub_sub32 (a b c : Int32) : a - b - c = a - (b + c) := by
  rw [Int32.sub_eq_add_neg, Int32.sub_eq_add_neg, Int32.sub_eq_add_neg, Int32.neg_add, Int32.add_assoc, ← Int32.sub_eq_add_neg (-b) c]
theorem add_lc32 (a b c : Int32) : a + (b + c) = b + (a + c) := by
  rw [← Int32.add_assoc, Int32.add_comm a b, Int32.add_assoc]
theorem bt_nI {x : Int32} {b : Int} (h : Bt x 0 b) (hb : b < 2147483648) : ∃ k : Nat, (k : Int) ≤ b ∧ x = nI k := by
  have h0 : ¬ x < 0 := by
    rw [lt_i]
    have e0 : (0 : Int32).toInt = 0 := by decide
    have := h.1
    omega
  obtain ⟨j, hj, rfl⟩ := nI_of h0
  refine ⟨j, ?_, rfl⟩
  have := h.2
  rw [nI_toInt hj] at this
  exact this
theorem apart_eq {tot v : Int32} (ht : Bt tot 0 594) (hv : Bt v 0 594) : (if 0 ≤ (2 * v - tot) then (2 * v - tot) else 0 - (2 * v - tot)) = apart tot v := by
  obtain ⟨t, ht, rfl⟩ := bt_nI ht (by decide)
  obtain ⟨k, hk, rfl⟩ := bt_nI hv (by decide)
  have e2 : (2 : Int32) * nI k = nI (2 * k) := pk_mul 2 k
  unfold apart
  rw [e2]
  have nle : ∀ {a b : Nat}, a < b → b < 2 ^ 30 → ¬ (0 : Int32) ≤ nI a - nI b := fun h1 h2 z => by
    have := pk_sneg h2 h1
    rw [lt_i] at this
    rw [le_i] at z
    omega
  rcases Nat.lt_trichotomy t (2 * k) with c | c | c
  · rw [if_neg (nle c (by omega)), pk_sub (by omega), if_pos (nI_pos' (by omega)), Int32.zero_sub, Int32.neg_sub, pk_sub (by omega)]
  · rw [c, pk_sub (Nat.le_refl _), Nat.sub_self, if_pos (nI_pos' (by decide))]
  · rw [if_neg (nle c (by omega)), Int32.zero_sub, Int32.neg_sub, pk_sub (show 2 * k ≤ t by omega), if_pos (nI_pos' (by omega))]
theorem evS_ok {g : Nat → Int32} {tot : Int32} (hg : g 0 = 0) (ht : Bt tot 0 594) : ∀ j, (evS g tot j).1 = apart tot (g (evS g tot j).2) ∧ (evS g tot j).2 ≤ 2 * j
  | 0 => by
    refine ⟨?_, Nat.le_refl _⟩
    show tot = apart tot (g 0)
    rw [hg]
    unfold apart
    have e : (2 : Int32) * 0 = 0 := by decide
    rw [e, Int32.sub_zero, if_pos]
    rw [le_i]
    exact ht.1
  | j + 1 => by
    obtain ⟨a, b⟩ := evS_ok hg ht j
    rw [evS]
    split
    · exact ⟨a, by omega⟩
    · exact ⟨rfl, by dsimp only; omega⟩
theorem totS_0 (lv : Nat → Int32) : ∀ n, totS lv 0 n = 0
  | 0 => rfl
  | n + 1 => by
    show totS lv 0 n + (if (0 : Nat).testBit n then lv n else 0) = 0
    rw [totS_0 lv n, Nat.zero_testBit]
    rfl
theorem thS_0 {lv : Nat → Int32} {s : Nat} : ∀ f i, thS lv s 0 f i = none
  | 0, _ => rfl
  | f + 1, i => by
    rw [thS, if_neg (fun z => z.2 (by rw [Int32.xor_zero]; exact Int32.le_refl _)), thS_0 f]
section MK
variable {Ex : State → Nat → Prop} {Q : Option Value → pz_H → Prop} {d bc bs : Nat} {h0 h h' : pz_H} {m : Nat} {S : pS} {oT : Option pW} {T : pW} {lo lm : Int32} {rw : List Int64} {zz : pX}
theorem M_wants {k : Int32} (H : MW h0 h m S zz oT (-1) lm S.rw) (O : SOk S) (hd : 2 ≤ d) (hq : ∀ h' T' lm' zz', MW h0 h' m S zz' T' (-1) lm' (s_wants S.n S.W S.rw k).2 → Q (some (.int (s_wants S.n S.W S.rw k).1)) h') : pz_V mX10_wants Ex Q d bc bs 0 [(0, .ref m), (1, .int k)] [] h := by
  have hn := O.1
  have h64 := pow_le64 hn
  have p0 := Nat.two_pow_pos S.n
  unfold s_wants at hq
  refine wX10_wants_0 hd (H.th (fun h1 H1 => ?_))
  rw [isKing_eq]
  refine ⟨fun hc => ?_, fun hc => by rw [if_pos hc] at hq; exact hq h1 _ _ _ H1⟩
  rw [if_neg hc] at hq
  refine (H1.g rfl).mpr ⟨H1.is, H1.ownN O ⟨_, rfl, ?_⟩⟩
  have hown := kset64 (kg := S.W.kg) (k := k) hn
  have hw : ∀ j, wantP S.n S.W k j = (decide (j &&& kset S.W.kg S.n k = 0) && decide (sumI S.W.lv S.n < 2 * totS S.W.lv (kset S.W.kg S.n k ||| j) S.n)) := fun j => rfl
  generalize hp : wantP S.n S.W k = p at hq hw
  generalize kset S.W.kg S.n k = own at hown hw
  suffices G : ∀ q j, j + q = 2 ^ S.n → pz_V mX10_wants Ex Q d bc bs 29 [(0, .ref m), (2, .int (nI own)), (3, .int (encO (fewS p j))), (4, .int (nI j))] [] h1 from G (2 ^ S.n) 0 (Nat.zero_add _)
  intro q
  induction q with
  | zero =>
    intro j hj
    have e : j = 2 ^ S.n := hj
    subst e
    refine wX10_wants_29 hd ⟨H1.is, H1.n.mpr ?_⟩
    rw [all10_eq hn]
    refine ⟨fun _ => ?_, fun hz => absurd (nI_lt (by omega) (by omega)) hz⟩
    cases ef : fewS p (2 ^ S.n) with
    | none =>
      rw [ef] at hq
      exact ⟨fun hz => absurd rfl hz, fun _ => hq h1 _ _ _ H1⟩
    | some b =>
      rw [ef] at hq
      have hb := fewS_lt ef
      exact ⟨fun _ => H1.row0 (fun h5 H5 => ⟨H5.is, H5.tell (by decide) (fun h6 H6 => ⟨rfl, t_bitCount (by omega) ⟨_, rfl, hq h6 _ _ _ H6⟩⟩)⟩), fun hz => absurd hz (ni_m1 (by omega))⟩
  | succ q ih =>
    intro j hj
    have g := ih (j + 1) (by omega)
    have hj2 : j < 2 ^ S.n := by omega
    refine wX10_wants_29 hd ⟨H1.is, H1.n.mpr ?_⟩
    rw [all10_eq hn, nI_1, fa_and, or_nI]
    refine ⟨fun hz => absurd hz (nI_nlt (by omega) (by omega)), fun _ => ⟨fun hz => ?_, fun hz => (H1.g rfl).mpr ⟨H1.is, H1.lvlN O (or64 hown (by omega)) (Nat.le_refl _) ⟨_, rfl, (H1.g rfl).mpr ⟨H1.is, H1.sumN O ⟨_, rfl, ?_⟩⟩⟩⟩⟩⟩
    · have pf : p j = false := by
        rw [hw j, decide_eq_false (fun z => hz (by rw [z]; rfl))]
        rfl
      rw [fewS_f pf] at g
      exact g
    · have hz0 : j &&& own = 0 := (nI_inj' (b := 0) (by have := and64 (a := j) (b := own) (by omega); omega) (by decide)).mp hz
      refine ⟨fun hl => ?_, fun hl => ?_⟩
      · have pt : p j = true := by
          rw [hw j, decide_eq_true hz0, decide_eq_true hl]
          rfl
        rw [fewS] at g
        cases ef : fewS p j with
        | none =>
          rw [ef] at g
          dsimp only at g
          rw [pt] at g
          exact ⟨fun _ => g, fun z => absurd rfl z⟩
        | some b =>
          rw [ef] at g
          dsimp only at g
          have hb := fewS_lt ef
          have c1 := popc_le S.n hn j hj2
          have c2 := popc_le S.n hn b (by omega)
          refine ⟨fun z => absurd z (ni_m1 (i := b) (by omega)), fun _ => t_bitCount (by omega) ⟨_, rfl, t_bitCount (s := b) (by omega) ⟨_, rfl, ?_⟩⟩⟩
          dsimp only
          rw [nI_leI (by omega) (by omega)]
          refine ⟨fun hle => ?_, fun hle => ?_⟩
          · rw [if_neg (fun z => by omega)] at g
            exact g
          · rw [if_pos ⟨by omega, pt⟩] at g
            exact g
      · have pf : p j = false := by
          rw [hw j, decide_eq_false hl, Bool.and_false]
        rw [fewS_f pf] at g
        exact g
theorem M_evens (H : MW h0 h m S zz oT (-1) lm S.rw) (O : SOk S) (hd : 2 ≤ d) (hq : ∀ h' T' lm' zz', MW h0 h' m S zz' T' (-1) lm' (s_evens S.n S.W).2 → Q (some (.int (s_evens S.n S.W).1)) h') : pz_V mX10_evens Ex Q d bc bs 0 [(0, .ref m)] [] h := by
  have hn := O.1
  have h64 := pow_le64 hn
  have p0 := Nat.two_pow_pos S.n
  have hR := O.2.2.1.2.1
  unfold s_evens at hq
  dsimp only at hq
  have bt : Bt (sumI S.W.lv S.n) 0 594 := (sumI_Bt hn (fun i hi => hR.lv hi) S.n (Nat.le_refl _)).mono (by omega) (by omega)
  have bs_ : ∀ s, Bt (totS S.W.lv s S.n) 0 594 := fun s => (totS_Bt hn (fun i hi => hR.lv hi)).mono (by omega) (by omega)
  refine wX10_evens_0 hd (H.th (fun h1 H1 => (H1.g rfl).mpr ⟨H1.is, H1.sumN O ⟨_, rfl, ?_⟩⟩))
  generalize htot : sumI S.W.lv S.n = tot at hq bt
  have ok := fun j => evS_ok (g := fun s => totS S.W.lv s S.n) (tot := tot) (totS_0 _ _) bt j
  suffices G : ∀ q j, j + q = (2 ^ S.n - 1) / 2 → pz_V mX10_evens Ex Q d bc bs 19 [(0, .ref m), (1, .int tot), (2, .int (nI (evS (fun s => totS S.W.lv s S.n) tot j).2)), (3, .int (nI (2 * (j + 1))))] [] h1 from G _ 0 (Nat.zero_add _)
  intro q
  induction q with
  | zero =>
    intro j hj
    have e : j = (2 ^ S.n - 1) / 2 := hj
    subst e
    obtain ⟨o1, o2⟩ := ok ((2 ^ S.n - 1) / 2)
    refine wX10_evens_19 hd ⟨H1.is, H1.n.mpr ?_⟩
    rw [all10_eq hn]
    refine ⟨fun _ => H1.row0 (fun h5 H5 => ⟨H5.is, H5.tell (by decide) (fun h6 H6 => ⟨rfl, (H6.g rfl).mpr ⟨H6.is, H6.lvlN O (by omega) (Nat.le_refl _) ⟨_, rfl, ?_⟩⟩⟩)⟩), fun hz => absurd (nI_lt (by omega) (by omega)) hz⟩
    dsimp only
    rw [apart_eq bt (bs_ _), ← o1]
    exact hq h6 _ _ _ H6
  | succ q ih =>
    intro j hj
    have g := ih (j + 1) (by omega)
    obtain ⟨o1, o2⟩ := ok j
    rw [evS] at g
    refine wX10_evens_19 hd ⟨H1.is, H1.n.mpr ?_⟩
    rw [all10_eq hn]
    refine ⟨fun hz => absurd hz (nI_nlt (by omega) (by omega)), fun _ => (H1.g rfl).mpr ⟨H1.is, H1.lvlN O (by omega) (Nat.le_refl _) ⟨_, rfl, (H1.g rfl).mpr ⟨H1.is, H1.lvlN O (by omega) (Nat.le_refl _) ⟨_, rfl, ?_⟩⟩⟩⟩⟩
    dsimp only
    rw [apart_eq bt (bs_ _), apart_eq bt (bs_ _), ← o1, show nI (2 * (j + 1)) + 2 = nI (2 * (j + 1 + 1)) from nI_add (2 * (j + 1)) 2]
    refine ⟨fun hl => ?_, fun hl => ?_⟩
    · rw [if_pos hl] at g
      exact g
    · rw [if_neg hl] at g
      exact g
theorem M_feared (H : MW h0 h m S zz oT (-1) lm S.rw) (O : SOk S) (hd : 2 ≤ d) (hq : ∀ h' T' lm' zz', MW h0 h' m S zz' T' (-1) lm' (s_feared S.n S.W).2 → Q (some (.int (s_feared S.n S.W).1)) h') : pz_V mX10_feared Ex Q d bc bs 0 [(0, .ref m)] [] h := by
  have hn := O.1
  unfold s_feared at hq
  refine wX10_feared_0 hd (H.th (fun h1 H1 => ?_))
  suffices G : ∀ q j, j + q = 3 → pz_V mX10_feared Ex Q d bc bs 9 [(0, .ref m), (1, .int (nI (bestK (fun k => ktot S.W S.n (nI k)) j))), (2, .int (nI (j + 1)))] [] h1 from G 3 0 rfl
  intro q
  induction q with
  | zero =>
    intro j hj
    have e : j = 3 := hj
    subst e
    exact wX10_feared_9 hd ⟨fun _ => H1.row0 (fun h3 H3 => (H3.g rfl).mpr ⟨H3.is, H3.sumN O ⟨_, rfl, (H3.g rfl).mpr ((H3.g rfl).mpr ⟨H3.is, H3.ownN O ⟨_, rfl, H3.is, H3.lvlN O (kset64 hn) (Nat.le_refl _) ⟨_, rfl, H3.is, H3.tell (by decide) (fun h4 H4 => ⟨rfl, hq h4 _ _ _ H4⟩)⟩⟩⟩)⟩⟩), fun hc => absurd (by decide) hc⟩
  | succ q ih =>
    intro j hj
    have g := ih (j + 1) (by omega)
    unfold bestK at g
    refine wX10_feared_9 hd ⟨fun hc => absurd hc (nI_ge (b := 4) (by omega) (by decide)), fun _ => (H1.g rfl).mpr ((H1.g rfl).mpr ⟨H1.is, H1.ownN O ⟨_, rfl, H1.is, H1.lvlN O (kset64 hn) (Nat.le_refl _) ⟨_, rfl, (H1.g rfl).mpr ((H1.g rfl).mpr ⟨H1.is, H1.ownN O ⟨_, rfl, H1.is, H1.lvlN O (kset64 hn) (Nat.le_refl _) ⟨_, rfl, ?_⟩⟩⟩)⟩⟩⟩)⟩
    rw [nI_1]
    refine ⟨fun c => ?_, fun c => ?_⟩
    · rw [if_neg (show ¬ ktot S.W S.n (nI (bestK (fun k => ktot S.W S.n (nI k)) j)) < ktot S.W S.n (nI (j + 1)) from Int32.not_lt.mpr c)] at g
      exact g
    · rw [if_pos (show ktot S.W S.n (nI (bestK (fun k => ktot S.W S.n (nI k)) j)) < ktot S.W S.n (nI (j + 1)) from Int32.not_le.mp c)] at g
      exact g
theorem M_threat {so : Int32} (H : MW h0 h m S zz oT (-1) lm S.rw) (O : SOk S) (hd : 1 ≤ d) (hq : ∀ h' T' lm' zz', MW h0 h' m S zz' T' (-1) lm' (s_threat S.n S.W S.rw so).2 → Q (some (.int (s_threat S.n S.W S.rw so).1)) h') : pz_V mX10_threat Ex Q d bc bs 0 [(0, .ref m), (1, .int so)] [] h := by
  have hn := O.1
  have h64 := pow_le64 hn
  have p0 := Nat.two_pow_pos S.n
  unfold s_threat at hq
  refine wX10_threat_0 hd (H.th (fun h1 H1 => ⟨H1.is, H1.n.mpr ?_⟩))
  rw [all10_eq hn, in_eq]
  refine ⟨fun hc => ?_, fun hc => by rw [if_pos ((sub_in hn).mp hc)] at hq; exact hq h1 _ _ _ H1⟩
  have hc' : ¬ ¬ (so &&& (nI (2 ^ S.n - 1) ^^^ (-1 : Int32))) = 0 := fun z => hc ((sub_in hn).mpr z)
  rw [if_neg hc'] at hq
  obtain ⟨s, hs, rfl⟩ := sub_all hn (Decidable.byContradiction hc')
  rw [clamp (by omega)] at hq
  have hs64 : s < 64 := by omega
  have loop2 : ∀ (o : Int32) (h3 : pz_H), xorS S.W.lv s S.n = o → MW h0 h3 m S zz oT (-1) lm [] → pz_V mX10_threat Ex Q d bc bs 65 [(0, .ref m), (1, .int (nI s)), (2, .int o), (3, .int 0)] [] h3 := by
    intro o h3 ho H3
    rw [ho] at hq
    suffices G : ∀ f i, i + f = S.n → thS S.W.lv s o S.n 0 = thS S.W.lv s o f i → pz_V mX10_threat Ex Q d bc bs 65 [(0, .ref m), (1, .int (nI s)), (2, .int o), (3, .int (nI i))] [] h3 from G S.n 0 (Nat.zero_add _) rfl
    intro f
    induction f with
    | zero =>
      intro i hi et
      have e : i = S.n := hi
      subst e
      rw [et] at hq
      exact wX10_threat_65 hd (H3.n.mpr ⟨fun _ => hq h3 _ _ _ H3, fun hz => absurd (nI_le (Nat.le_refl _) (by omega)) hz⟩)
    | succ f ih =>
      intro i hi et
      refine wX10_threat_65 hd (H3.n.mpr ⟨fun hz => absurd hz (nI_ge (by omega) (by omega)), fun _ => ⟨fun hz => ?_, fun hz => ⟨fun hb => ?_, fun hb => (H3.g rfl).mpr ((H3.rN O (by omega)).mpr ((H3.g rfl).mpr ((H3.rN O (by omega)).mpr ⟨fun hl => ⟨H3.is, H3.tell (by decide) (fun h4 H4 => ⟨rfl, (H4.g rfl).mpr ((H4.rN O (by omega)).mpr ((H4.g rfl).mpr ((H4.rN O (by omega)).mpr ⟨H4.is, H4.tell (by simp) (fun h5 H5 => ⟨rfl, ?_⟩)⟩)))⟩)⟩, fun hl => ?_⟩)))⟩⟩⟩)
      · rw [hz, thS_0] at hq
        exact hq h3 _ _ _ H3
      · rw [nI_1]
        refine ih (i + 1) (by omega) ?_
        rw [et, thS, if_neg (fun z => by rw [(has10_0 hs64 (by omega)).mp hb] at z; exact absurd z.1 (by decide))]
      · rw [thS, if_pos ⟨(has10_t hs64 (by omega)).mp hb, Int32.not_le.mpr hl⟩] at et
        rw [et] at hq
        exact hq h5 _ _ _ H5
      · rw [nI_1]
        refine ih (i + 1) (by omega) ?_
        rw [et, thS, if_neg (fun z => hl (Int32.not_le.mp z.2))]
  suffices G : ∀ q i, i + q = S.n → pz_V mX10_threat Ex Q d bc bs 23 [(0, .ref m), (1, .int (nI s)), (2, .int (xorS S.W.lv s i)), (3, .int (nI i))] [] h1 from G S.n 0 (Nat.zero_add _)
  intro q
  induction q with
  | zero =>
    intro i hi
    have e : i = S.n := hi
    subst e
    exact wX10_threat_23 hd (H1.n.mpr ⟨fun _ => H1.row0 (fun h3 H3 => loop2 _ h3 rfl H3), fun hz => absurd (nI_le (Nat.le_refl _) (by omega)) hz⟩)
  | succ q ih =>
    intro i hi
    have g := ih (i + 1) (by omega)
    rw [xorS] at g
    refine wX10_threat_23 hd (H1.n.mpr ⟨fun hz => absurd hz (nI_ge (by omega) (by omega)), fun _ => ⟨fun hb => ?_, fun hb => (H1.g rfl).mpr ((H1.rN O (by omega)).mpr ?_)⟩⟩)
    · rw [nI_1, Int32.xor_zero]
      rw [(has10_0 hs64 (by omega)).mp hb] at g
      exact g
    · rw [nI_1]
      rw [(has10_t hs64 (by omega)).mp hb] at g
      exact g
theorem M_realm {k : Int32} (H : MW h0 h m S zz oT (-1) lm S.rw) (O : SOk S) (hd : 2 ≤ d) (hq : ∀ h' T' lm' zz', MW h0 h' m S zz' T' (-1) lm' (s_realm S.br S.n S.W S.rw k).2 → Q (some (.int (s_realm S.br S.n S.W S.rw k).1)) h') : pz_V mX10_realm Ex Q d bc bs 0 [(0, .ref m), (1, .int k)] [] h := by
  have hn := O.1
  unfold s_realm at hq
  refine wX10_realm_0 hd (H.th (fun h1 H1 => ?_))
  rw [isKing_eq]
  refine ⟨fun hc => ?_, fun hc => by rw [if_pos hc] at hq; exact hq h1 _ _ _ H1⟩
  rw [if_neg hc] at hq
  refine (H1.g rfl).mpr ⟨H1.is, H1.ownN O ⟨_, rfl, ?_⟩⟩
  have hown := kset64 (kg := S.W.kg) (k := k) hn
  unfold ktot at hq
  generalize kset S.W.kg S.n k = own at hq hown
  suffices G : ∀ q i, i + q = S.n → pz_V mX10_realm Ex Q d bc bs 29 [(0, .ref m), (2, .int (nI own)), (3, .int (totS S.br own i)), (4, .int (nI i))] [] h1 from G S.n 0 (Nat.zero_add _)
  intro q
  induction q with
  | zero =>
    intro i hi
    have e : i = S.n := hi
    subst e
    exact wX10_realm_29 hd (H1.n.mpr ⟨fun _ => H1.row0 (fun h3 H3 => (H3.g rfl).mpr ⟨H3.is, H3.lvlN O hown (Nat.le_refl _) ⟨_, rfl, H3.is, H3.tell (by decide) (fun h4 H4 => ⟨rfl, H4.is, H4.tell (by simp) (fun h5 H5 => ⟨rfl, hq h5 _ _ _ H5⟩)⟩)⟩⟩), fun hz => absurd (nI_le (Nat.le_refl _) (by omega)) hz⟩)
  | succ q ih =>
    intro i hi
    have g := ih (i + 1) (by omega)
    have e2 : totS S.br own (i + 1) = totS S.br own i + (if own.testBit i then S.br i else 0) := rfl
    rw [e2] at g
    refine wX10_realm_29 hd (H1.n.mpr ⟨fun hz => absurd hz (nI_ge (by omega) (by omega)), fun _ => ⟨fun hb => ?_, fun hb => (H1.g rfl).mpr ((H1.rB O (by omega)).mpr ?_)⟩⟩)
    · rw [nI_1]
      rw [(has10_0 hown (by omega)).mp hb] at g
      exact g
    · rw [nI_1]
      rw [(has10_t hown (by omega)).mp hb] at g
      exact g
theorem M_course {l : Int32} (H : MW h0 h m S zz oT (-1) lm S.rw) (O : SOk S) (hd : 2 ≤ d) (hq : ∀ h' T' lm' zz', MW h0 h' m S zz' T' (-1) lm' (s_course S.dn S.n S.rw l).2 → Q (some (.int (s_course S.dn S.n S.rw l).1)) h') : pz_V mX10_course Ex Q d bc bs 0 [(0, .ref m), (1, .int l)] [] h := by
  have hn := O.1
  have hD := O.2.2.2.2.1
  unfold s_course at hq
  refine wX10_course_0 hd (H.th (fun h1 H1 => ⟨H1.is, H1.n.mpr ?_⟩))
  rw [isLake_eq hn]
  refine ⟨fun hc => H1.row0 (fun h2 H2 => ?_), fun hc => by rw [if_pos hc] at hq; exact hq h1 _ _ _ H1⟩
  rw [if_neg hc] at hq
  obtain ⟨i, hi, rfl⟩ := (has_0 hn).mp hc
  have hm1 : eX1_has (-1) (nI S.n) = 0 := by
    unfold eX1_has
    rw [if_pos (by decide)]
  suffices G : ∀ f (o : Int32) (rw : List Int64) (h3 : pz_H), (o = -1 ∨ ∃ j, j < f ∧ j < S.n ∧ o = nI j) → rw.length + f ≤ 12 → MW h0 h3 m S zz oT (-1) lm rw → rw ++ crsS S.dn S.n f o = crsS S.dn S.n 6 (nI i) → pz_V mX10_course Ex Q d bc bs 22 [(0, .ref m), (2, .int o)] [] h3 from G 6 (nI i) [] h2 (Or.inr ⟨i, by omega, hi, rfl⟩) (by simp) H2 rfl
  intro f
  induction f with
  | zero =>
    intro o rw h3 ho hl H3 e
    rcases ho with rfl | ⟨j, h1, -⟩
    · refine wX10_course_22 hd ⟨fun _ => H3.rm.mpr ?_, fun z => absurd rfl z⟩
      rw [crsS, List.append_nil] at e
      rw [← e] at hq
      exact hq h3 _ _ _ H3
    · omega
  | succ f ih =>
    intro o rw h3 ho hl H3 e
    rcases ho with rfl | ⟨j, h1, h2, rfl⟩
    · refine wX10_course_22 hd ⟨fun _ => H3.rm.mpr ?_, fun z => absurd rfl z⟩
      rw [crsS, if_pos hm1, List.append_nil] at e
      rw [← e] at hq
      exact hq h3 _ _ _ H3
    · refine wX10_course_22 hd ⟨fun z => absurd z (ni_m1 (by omega)), fun _ => ⟨H3.is, H3.tell (by omega) (fun h4 H4 => ⟨rfl, (H4.g rfl).mpr ((H4.rD O h2).mpr ?_)⟩)⟩⟩
      refine ih (S.dn j) _ h4 ?_ (by simp; omega) H4 ?_
      · rcases hD j h2 with z | ⟨j2, z1, z2⟩
        · exact Or.inl z
        · exact Or.inr ⟨j2, by omega, by omega, z2⟩
      · rw [crsS, if_neg (has_i hn h2), clamp (by omega)] at e
        rw [List.append_assoc]
        exact e
/-! the basin -/
theorem bsS_step (dn : Nat → Int32) (l k : Nat) : bsS dn l (k + 1) = (if dn (l + 1 + k) = nI l then ((bsS dn l k).1 ||| 2 ^ (l + 1 + k), (bsS dn l k).2 + 1) else if ¬ dn (l + 1 + k) ≤ nI l ∧ (bsS dn l k).1.testBit (dn (l + 1 + k)).toNatClampNeg then ((bsS dn l k).1 ||| 2 ^ (l + 1 + k), (bsS dn l k).2) else bsS dn l k) := rfl
theorem bsS_tb {dn : Nat → Int32} {n l : Nat} (hn : n ≤ 6) (hD : DnOk n dn) : ∀ k, l + 1 + k ≤ n → ((bsS dn l k).1 < 2 ^ (l + 1 + k) ∧ (∀ o, o ≤ l → (bsS dn l k).1.testBit o = false) ∧ (∀ o, o < l + 1 + k → ((bsS dn l k).1.testBit o = true ↔ dn o = nI l ∨ ∃ j, j < o ∧ dn o = nI j ∧ (bsS dn l k).1.testBit j = true)) ∧ (bsS dn l k).2 = sumI (fun o => if dn o = nI l then 1 else 0) (l + 1 + k))
  | 0, hk => by
    have low : ∀ o, o ≤ l → ¬ dn o = nI l := fun o ho z => by
      rcases hD o (by omega) with e | ⟨j, h1, e⟩
      · rw [e] at z; exact ni_m1 (i := l) (by omega) z.symm
      · rw [e] at z
        have := (nI_inj' (by omega) (by omega)).mp z
        omega
    have z0 : ∀ o, (0 : Nat).testBit o = false := fun o => Nat.zero_testBit o
    refine ⟨Nat.two_pow_pos _, fun o _ => z0 o, fun o ho => ?_, ?_⟩
    · constructor
      · intro z
        rw [show (bsS dn l 0).1 = 0 from rfl, z0] at z
        cases z
      · rintro (z | ⟨j, -, -, z⟩)
        · exact absurd z (low o (by omega))
        · rw [show (bsS dn l 0).1 = 0 from rfl, z0] at z
          cases z
    · show (0 : Int32) = _
      have : ∀ q, q ≤ l + 1 → sumI (fun o => if dn o = nI l then (1 : Int32) else 0) q = 0 := by
        intro q
        induction q with
        | zero => intro _; rfl
        | succ q ih =>
          intro hq
          rw [sumI, ih (by omega), if_neg (low q (by omega))]
          rfl
      exact (this _ (Nat.le_refl _)).symm
  | k + 1, hk => by
    obtain ⟨a1, a2, a3, a4⟩ := bsS_tb (l := l) hn hD k (by omega)
    have lt2 : 2 ^ (l + 1 + k) < 2 ^ (l + 1 + (k + 1)) := Nat.pow_lt_pow_right (by decide) (by omega)
    have top : (bsS dn l k).1.testBit (l + 1 + k) = false := Nat.testBit_lt_two_pow a1
    have hdo := hD (l + 1 + k) (by omega)
    have cnt : sumI (fun o => if dn o = nI l then (1 : Int32) else 0) (l + 1 + (k + 1)) = sumI (fun o => if dn o = nI l then (1 : Int32) else 0) (l + 1 + k) + (if dn (l + 1 + k) = nI l then 1 else 0) := rfl
    rw [bsS_step, cnt]
    generalize bsS dn l k = s at a1 a2 a3 a4 top
    obtain ⟨s1, s2⟩ := s
    dsimp only at a1 a2 a3 a4 top ⊢
    have orb : ∀ o, o ≠ l + 1 + k → (s1 ||| 2 ^ (l + 1 + k)).testBit o = s1.testBit o := fun o ho => by
      rw [Nat.testBit_or, Nat.testBit_two_pow]
      simp [show ¬ l + 1 + k = o by omega]
    have orb1 : (s1 ||| 2 ^ (l + 1 + k)).testBit (l + 1 + k) = true := by
      rw [Nat.testBit_or, Nat.testBit_two_pow]
      simp
    -- the case in which the new bit comes
    have yes : (dn (l + 1 + k) = nI l ∨ ∃ j, j < l + 1 + k ∧ dn (l + 1 + k) = nI j ∧ s1.testBit j = true) → (s1 ||| 2 ^ (l + 1 + k)) < 2 ^ (l + 1 + (k + 1)) ∧ (∀ o, o ≤ l → (s1 ||| 2 ^ (l + 1 + k)).testBit o = false) ∧ (∀ o, o < l + 1 + (k + 1) → ((s1 ||| 2 ^ (l + 1 + k)).testBit o = true ↔ dn o = nI l ∨ ∃ j, j < o ∧ dn o = nI j ∧ (s1 ||| 2 ^ (l + 1 + k)).testBit j = true)) := by
      intro hy
      refine ⟨Nat.or_lt_two_pow (Nat.lt_trans a1 lt2) lt2, fun o ho => by rw [orb o (by omega)]; exact a2 o ho, fun o ho => ?_⟩
      by_cases e : o = l + 1 + k
      · subst e
        constructor
        · intro _
          rcases hy with z | ⟨j, z1, z2, z3⟩
          · exact Or.inl z
          · exact Or.inr ⟨j, z1, z2, by rw [orb j (by omega)]; exact z3⟩
        · intro _; exact orb1
      · rw [orb o e, a3 o (by omega)]
        constructor
        · rintro (z | ⟨j, z1, z2, z3⟩)
          · exact Or.inl z
          · exact Or.inr ⟨j, z1, z2, by rw [orb j (by omega)]; exact z3⟩
        · rintro (z | ⟨j, z1, z2, z3⟩)
          · exact Or.inl z
          · exact Or.inr ⟨j, z1, z2, by rw [orb j (by omega)] at z3; exact z3⟩
    have no : ¬ (dn (l + 1 + k) = nI l ∨ ∃ j, j < l + 1 + k ∧ dn (l + 1 + k) = nI j ∧ s1.testBit j = true) → s1 < 2 ^ (l + 1 + (k + 1)) ∧ (∀ o, o ≤ l → s1.testBit o = false) ∧ (∀ o, o < l + 1 + (k + 1) → (s1.testBit o = true ↔ dn o = nI l ∨ ∃ j, j < o ∧ dn o = nI j ∧ s1.testBit j = true)) := by
      intro hy
      refine ⟨Nat.lt_trans a1 lt2, a2, fun o ho => ?_⟩
      by_cases e : o = l + 1 + k
      · subst e
        rw [top]
        exact ⟨fun z => absurd z (by decide), fun z => absurd z hy⟩
      · exact a3 o (by omega)
    by_cases c1 : dn (l + 1 + k) = nI l
    · rw [if_pos c1, if_pos c1]
      obtain ⟨y1, y2, y3⟩ := yes (Or.inl c1)
      exact ⟨y1, y2, y3, by rw [← a4]⟩
    · rw [if_neg c1, if_neg c1]
      rw [show ∀ x : Int32, x + 0 = x from fun x => Int32.add_zero x]
      rcases hdo with e | ⟨j, hj, e⟩
      · have nn : ¬ (dn (l + 1 + k) = nI l ∨ ∃ j, j < l + 1 + k ∧ dn (l + 1 + k) = nI j ∧ s1.testBit j = true) := by
          rintro (z | ⟨j, z1, z2, z3⟩)
          · exact c1 z
          · rw [e] at z2; exact ni_m1 (i := j) (by omega) z2.symm
        have lm1 : dn (l + 1 + k) ≤ nI l := by
          rw [e, le_i, nI_toInt (by omega)]
          have e1 : (-1 : Int32).toInt = -1 := by decide
          omega
        rw [if_neg (fun z => z.1 lm1)]
        obtain ⟨y1, y2, y3⟩ := no nn
        exact ⟨y1, y2, y3, a4⟩
      · rw [e, clamp (by omega)]
        by_cases c2 : ¬ nI j ≤ nI l ∧ s1.testBit j = true
        · rw [if_pos c2]
          obtain ⟨y1, y2, y3⟩ := yes (Or.inr ⟨j, hj, e, c2.2⟩)
          exact ⟨y1, y2, y3, a4⟩
        · rw [if_neg c2]
          have nn : ¬ (dn (l + 1 + k) = nI l ∨ ∃ j, j < l + 1 + k ∧ dn (l + 1 + k) = nI j ∧ s1.testBit j = true) := by
            rintro (z | ⟨j', z1, z2, z3⟩)
            · exact c1 z
            · rw [e] at z2
              have := (nI_inj' (by omega) (by omega)).mp z2
              subst this
              refine c2 ⟨fun z => ?_, z3⟩
              rw [a2 j ((nI_leI (by omega) (by omega)).mp z)] at z3
              cases z3
          obtain ⟨y1, y2, y3⟩ := no nn
          exact ⟨y1, y2, y3, a4⟩
theorem M_basin {l : Int32} (H : MW h0 h m S zz oT (-1) lm S.rw) (O : SOk S) (hd : 2 ≤ d) (hq : ∀ h' T' lm' zz', MW h0 h' m S zz' T' (-1) lm' (s_basin S.dn S.n S.W S.rw l).2 → Q (some (.int (s_basin S.dn S.n S.W S.rw l).1)) h') : pz_V mX10_basin Ex Q d bc bs 0 [(0, .ref m), (1, .int l)] [] h := by
  have hn := O.1
  have hD := O.2.2.2.2.1
  unfold s_basin at hq
  refine wX10_basin_0 hd (H.th (fun h1 H1 => ⟨H1.is, H1.n.mpr ?_⟩))
  rw [isLake_eq hn]
  refine ⟨fun hc => ?_, fun hc => by rw [if_pos hc] at hq; exact hq h1 _ _ _ H1⟩
  rw [if_neg hc] at hq
  obtain ⟨l, hl, rfl⟩ := (has_0 hn).mp hc
  rw [clamp (by omega)] at hq
  dsimp only at hq
  obtain ⟨a1, a2, a3, a4⟩ := bsS_tb (l := l) hn hD (S.n - 1 - l) (by omega)
  rw [show l + 1 + (S.n - 1 - l) = S.n by omega] at a1 a3 a4
  generalize bsS S.dn l (S.n - 1 - l) = r at hq a1 a2 a3 a4
  obtain ⟨B, c⟩ := r
  dsimp only at hq a1 a2 a3 a4
  have hB : B < 64 := Nat.lt_of_lt_of_le a1 (pow_le64 hn)
  suffices G : ∀ q i, i + q = S.n → pz_V mX10_basin Ex Q d bc bs 22 [(0, .ref m), (1, .int (nI l)), (2, .int (nI (bitsOf (fun i => B.testBit i) i))), (3, .int (sumI (fun o => if S.dn o = nI l then 1 else 0) i)), (4, .int (nI i))] [] h1 from G S.n 0 (Nat.zero_add _)
  intro q
  induction q with
  | zero =>
    intro i hi
    have e : i = S.n := hi
    subst e
    rw [bitsOf_ou a1, ← a4]
    exact wX10_basin_22 hd (H1.n.mpr ⟨fun _ => H1.row0 (fun h3 H3 => (H3.g rfl).mpr ⟨H3.is, H3.lvlN O hB (Nat.le_refl _) ⟨_, rfl, H3.is, H3.tell (by decide) (fun h4 H4 => ⟨rfl, H4.is, H4.tell (by simp) (fun h5 H5 => ⟨rfl, hq h5 _ _ _ H5⟩)⟩)⟩⟩), fun hz => absurd (nI_le (Nat.le_refl _) (by omega)) hz⟩)
  | succ q ih =>
    intro i hi
    have g := ih (i + 1) (by omega)
    have hin : i < S.n := by omega
    rw [bitsOf] at g
    -- the way down
    have walk : ∀ (k : Nat) (c3 : Int32), k ≤ i → ∀ dd : Int32, (dd = -1 ∨ ∃ j, j < k ∧ dd = nI j) → (B.testBit i = true ↔ dd = nI l ∨ ∃ j, dd = nI j ∧ j < S.n ∧ B.testBit j = true) → pz_V mX10_basin Ex Q d bc bs 22 [(0, .ref m), (1, .int (nI l)), (2, .int (nI (bitsOf (fun i => B.testBit i) i ||| if B.testBit i = true then 2 ^ i else 0))), (3, .int c3), (4, .int (nI (i + 1)))] [] h1 → pz_V mX10_basin Ex Q d bc bs 54 [(0, .ref m), (1, .int (nI l)), (2, .int (nI (bitsOf (fun i => B.testBit i) i))), (3, .int c3), (4, .int (nI i)), (5, .int dd)] [] h1 := by
      intro k c3
      induction k with
      | zero =>
        intro hk dd hdd hB2 g
        rcases hdd with rfl | ⟨j, hj, -⟩
        · refine wX10_basin_54 hd ⟨fun _ => ⟨fun _ => ?_, fun z => absurd z.symm (ni_m1 (by omega))⟩, fun z => absurd rfl z⟩
          have bf : B.testBit i = false := by
            cases hb : B.testBit i
            · rfl
            · rcases hB2.mp hb with z | ⟨j, z, hj, -⟩
              · exact absurd z.symm (ni_m1 (by omega))
              · exact absurd z.symm (ni_m1 (by omega))
          rw [bf] at g
          rw [nI_1, or_nI0]
          simpa using g
        · omega
      | succ k ihk =>
        intro hk dd hdd hB2 g
        rcases hdd with rfl | ⟨j, hj, rfl⟩
        · exact ihk (by omega) (-1) (Or.inl rfl) hB2 g
        · refine wX10_basin_54 hd ⟨fun z => absurd z (ni_m1 (by omega)), fun _ => ⟨fun z => ⟨fun z2 => absurd z z2, fun _ => ?_⟩, fun z => (H1.g rfl).mpr ((H1.rD O (by omega)).mpr ?_)⟩⟩
          · rw [hB2.mpr (Or.inl z), if_pos rfl] at g
            rw [nI_1, shl1 i (by omega), or_nI]
            exact g
          · have hjl : ¬ j = l := fun e => z (by rw [e])
            refine ihk (by omega) (S.dn j) ?_ ?_ g
            · rcases hD j (by omega) with e | ⟨j2, e1, e2⟩
              · exact Or.inl e
              · exact Or.inr ⟨j2, by omega, e2⟩
            · rw [hB2]
              constructor
              · rintro (y | ⟨j3, y1, y2, y3⟩)
                · exact absurd y z
                · have := (nI_inj' (by omega) (by omega)).mp y1
                  subst this
                  rcases (a3 j (by omega)).mp y3 with w | ⟨j4, w1, w2, w3⟩
                  · exact Or.inl w
                  · exact Or.inr ⟨j4, w2, by omega, w3⟩
              · rintro (y | ⟨j3, y1, y2, y3⟩)
                · exact Or.inr ⟨j, rfl, by omega, (a3 j (by omega)).mpr (Or.inl y)⟩
                · refine Or.inr ⟨j, rfl, by omega, (a3 j (by omega)).mpr (Or.inr ⟨j3, ?_, y1, y3⟩)⟩
                  rcases hD j (by omega) with e | ⟨j2, e1, e2⟩
                  · rw [e] at y1; exact absurd y1.symm (ni_m1 (by omega))
                  · rw [e2] at y1
                    have := (nI_inj' (by omega) (by omega)).mp y1
                    omega
    have hd0 : S.dn i = -1 ∨ ∃ j, j < i ∧ S.dn i = nI j := hD i hin
    have hB3 : B.testBit i = true ↔ S.dn i = nI l ∨ ∃ j, S.dn i = nI j ∧ j < S.n ∧ B.testBit j = true := by
      rw [a3 i hin]
      constructor
      · rintro (y | ⟨j, y1, y2, y3⟩)
        · exact Or.inl y
        · exact Or.inr ⟨j, y2, by omega, y3⟩
      · rintro (y | ⟨j, y1, y2, y3⟩)
        · exact Or.inl y
        · refine Or.inr ⟨j, ?_, y1, y3⟩
          rcases hd0 with e | ⟨j2, e1, e2⟩
          · rw [e] at y1; exact absurd y1.symm (ni_m1 (by omega))
          · rw [e2] at y1
            have := (nI_inj' (by omega) (by omega)).mp y1
            omega
    refine wX10_basin_22 hd (H1.n.mpr ⟨fun hz => absurd hz (nI_ge (by omega) (by omega)), fun _ => (H1.g rfl).mpr ((H1.rD O hin).mpr ⟨fun z => walk i _ (Nat.le_refl _) _ hd0 hB3 ?_, fun z => walk i _ (Nat.le_refl _) _ hd0 hB3 ?_⟩)⟩)
    · rw [show sumI (fun o => if S.dn o = nI l then (1 : Int32) else 0) (i + 1) = sumI (fun o => if S.dn o = nI l then (1 : Int32) else 0) i + 0 by rw [sumI, if_neg z]] at g
      exact g
    · rw [show sumI (fun o => if S.dn o = nI l then (1 : Int32) else 0) (i + 1) = sumI (fun o => if S.dn o = nI l then (1 : Int32) else 0) i + 1 by rw [sumI, if_pos z]] at g
      exact g
/-! treaty -/
theorem clr_eq : ∀ s, s < 16 → ∀ k, k < 4 → nI s &&& (((1 : Int32) <<< (nI k &&& 31)) ^^^ (-1 : Int32)) = nI (s &&& (15 ^^^ 2 ^ k)) := by decide +kernel
theorem clr_tb : ∀ s, s < 16 → ∀ k, k < 4 → ∀ j, j < 4 → (s &&& (15 ^^^ 2 ^ k)).testBit j = (s.testBit j && decide (¬ j = k)) := by decide +kernel
theorem tot4 (b : Nat → Int32) (s : Nat) : totS b s 4 = (if s.testBit 0 then b 0 else 0) + ((if s.testBit 1 then b 1 else 0) + ((if s.testBit 2 then b 2 else 0) + (if s.testBit 3 then b 3 else 0))) := by
  show (((0 + (if s.testBit 0 then b 0 else 0)) + (if s.testBit 1 then b 1 else 0)) + (if s.testBit 2 then b 2 else 0)) + (if s.testBit 3 then b 3 else 0) = _
  rw [Int32.zero_add, Int32.add_assoc, Int32.add_assoc]
theorem tot_clr {b : Nat → Int32} {s k : Nat} (hs : s < 16) (hk : k < 4) (hb : s.testBit k = true) : totS b (s &&& (15 ^^^ 2 ^ k)) 4 = totS b s 4 - b k := by
  have e : totS b (s &&& (15 ^^^ 2 ^ k)) 4 + b k = totS b s 4 := by
    rw [tot4, tot4, clr_tb s hs k hk 0 (by decide), clr_tb s hs k hk 1 (by decide), clr_tb s hs k hk 2 (by decide), clr_tb s hs k hk 3 (by decide)]
    rcases (by omega : k = 0 ∨ k = 1 ∨ k = 2 ∨ k = 3) with rfl | rfl | rfl | rfl
    · rw [hb]; simp [Int32.add_comm]
    · rw [hb]; simp [Int32.add_assoc, Int32.add_comm, add_lc32]
    · rw [hb]; simp [Int32.add_assoc, Int32.add_comm, add_lc32]
    · rw [hb]; simp [Int32.add_assoc]
  rw [← e, Int32.add_sub_cancel]
theorem ac4_0 (a b c e x : Int32) : (a + x) + (b + (c + e)) = (a + (b + (c + e))) + x := by rw [Int32.add_assoc, Int32.add_assoc, Int32.add_comm x]
theorem ac4_1 (a b c e x : Int32) : a + ((b + x) + (c + e)) = (a + (b + (c + e))) + x := by rw [Int32.add_assoc a, Int32.add_assoc b, Int32.add_assoc b, Int32.add_comm x]
theorem ac4_2 (a b c e x : Int32) : a + (b + ((c + x) + e)) = (a + (b + (c + e))) + x := by rw [Int32.add_assoc a, Int32.add_assoc b, Int32.add_assoc c, Int32.add_assoc c, Int32.add_comm x]
theorem ac4_3 (a b c e x : Int32) : a + (b + (c + (e + x))) = (a + (b + (c + e))) + x := by rw [Int32.add_assoc a, Int32.add_assoc b, Int32.add_assoc c]
theorem lok_eq {n : Nat} {W : pW} {s : Nat} {kn : Nat → Nat} (hk : ∀ i, i < n → kn i < 4 ∧ W.kg i = nI (kn i)) : totS (bkF n W) s 4 = sumI (fun i => if s.testBit (kn i) then W.lv i else 0) n := by
  have e : ∀ k, k < 4 → bkF n W k = sumI (fun i => if W.kg i = nI k then W.lv i else 0) n := by
    intro k hk2
    show totS W.lv (kset W.kg n (nI k)) n = _
    refine sumI_congr (fun i hi => ?_)
    unfold kset
    rw [bitsOf_tb]
    simp [hi]
  rw [tot4, e 0 (by decide), e 1 (by decide), e 2 (by decide), e 3 (by decide)]
  clear e
  induction n with
  | zero => simp [sumI]
  | succ n ih =>
    have ih := ih (fun i hi => hk i (by omega))
    obtain ⟨h1, h2⟩ := hk n (by omega)
    simp only [sumI]
    rw [← ih, h2]
    rcases (by omega : kn n = 0 ∨ kn n = 1 ∨ kn n = 2 ∨ kn n = 3) with e | e | e | e
    · rw [e, if_pos (show nI 0 = nI 0 from rfl), if_neg (show ¬ nI 0 = nI 1 by decide), if_neg (show ¬ nI 0 = nI 2 by decide), if_neg (show ¬ nI 0 = nI 3 by decide)]
      simp only [Int32.add_zero]
      cases s.testBit 0
      · simp only [Bool.false_eq_true, ↓reduceIte, Int32.add_zero]
      · simp only [↓reduceIte]
        exact ac4_0 _ _ _ _ _
    · rw [e, if_neg (show ¬ nI 1 = nI 0 by decide), if_pos (show nI 1 = nI 1 from rfl), if_neg (show ¬ nI 1 = nI 2 by decide), if_neg (show ¬ nI 1 = nI 3 by decide)]
      simp only [Int32.add_zero]
      cases s.testBit 1
      · simp only [Bool.false_eq_true, ↓reduceIte, Int32.add_zero]
      · simp only [↓reduceIte]
        exact ac4_1 _ _ _ _ _
    · rw [e, if_neg (show ¬ nI 2 = nI 0 by decide), if_neg (show ¬ nI 2 = nI 1 by decide), if_pos (show nI 2 = nI 2 from rfl), if_neg (show ¬ nI 2 = nI 3 by decide)]
      simp only [Int32.add_zero]
      cases s.testBit 2
      · simp only [Bool.false_eq_true, ↓reduceIte, Int32.add_zero]
      · simp only [↓reduceIte]
        exact ac4_2 _ _ _ _ _
    · rw [e, if_neg (show ¬ nI 3 = nI 0 by decide), if_neg (show ¬ nI 3 = nI 1 by decide), if_neg (show ¬ nI 3 = nI 2 by decide), if_pos (show nI 3 = nI 3 from rfl)]
      simp only [Int32.add_zero]
      cases s.testBit 3
      · simp only [Bool.false_eq_true, ↓reduceIte, Int32.add_zero]
      · simp only [↓reduceIte]
        exact ac4_3 _ _ _ _ _
theorem MW.lok {s : Nat} (H : MW h0 h m S zz oT lo lm rw) (O : SOk S) (hs : s < 16) (hd : 1 ≤ d) (hq : Q (some (.int (totS (bkF S.n S.W) s 4))) h) : pz_V mX10_levelOfKings Ex Q d bc bs 0 [(0, .ref m), (1, .int (nI s))] [] h := by
  have hn := O.1
  have hkg : ∀ i, ∃ k, i < S.n → k < 4 ∧ S.W.kg i = nI k := fun i => by
    by_cases c : i < S.n
    · obtain ⟨k, h1, h2⟩ := (O.2.2.1.2.2.2 i c).2.2
      exact ⟨k, fun _ => ⟨h1, h2⟩⟩
    · exact ⟨0, fun z => absurd z c⟩
  obtain ⟨kn, hkn⟩ := Classical.axiomOfChoice hkg
  rw [lok_eq (kn := kn) hkn] at hq
  refine wX10_levelOfKings_0 hd ?_
  suffices G : ∀ q i, i + q = S.n → pz_V mX10_levelOfKings Ex Q d bc bs 4 [(0, .ref m), (1, .int (nI s)), (2, .int (sumI (fun i => if s.testBit (kn i) then S.W.lv i else 0) i)), (3, .int (nI i))] [] h from G S.n 0 (Nat.zero_add _)
  intro q
  induction q with
  | zero =>
    intro i hi
    have e : i = S.n := hi
    subst e
    exact wX10_levelOfKings_4 hd (H.n.mpr ⟨fun _ => hq, fun hz => absurd (nI_le (Nat.le_refl _) (by omega)) hz⟩)
  | succ q ih =>
    intro i hi
    have g := ih (i + 1) (by omega)
    have hin : i < S.n := by omega
    obtain ⟨k1, k2⟩ := hkn i hin
    rw [sumI] at g
    refine wX10_levelOfKings_4 hd (H.n.mpr ⟨fun hz => absurd hz (nI_ge (by omega) (by omega)), fun _ => (H.g rfl).mpr ((H.rNk O hin).mpr ?_)⟩)
    rw [k2, nI_1]
    refine ⟨fun hb => ?_, fun hb => (H.g rfl).mpr ((H.rN O hin).mpr ?_)⟩
    · rw [(has10_0 (by omega) (by omega)).mp hb] at g
      exact g
    · rw [(has10_t (by omega) (by omega)).mp hb] at g
      exact g
theorem M_treaty {q : Int32} (H : MW h0 h m S zz oT (-1) lm S.rw) (O : SOk S) (hd : 2 ≤ d) (hq : ∀ h' T' lm' zz', MW h0 h' m S zz' T' (-1) lm' (s_treaty S.n S.W S.rw q).2 → Q (some (.int (s_treaty S.n S.W S.rw q).1)) h') : pz_V mX10_treaty Ex Q d bc bs 0 [(0, .ref m), (1, .int q)] [] h := by
  have hn := O.1
  unfold s_treaty at hq
  refine wX10_treaty_0 hd (H.th (fun h1 H1 => ?_))
  rw [in_eq]
  refine ⟨fun hc => ?_, fun hc => by rw [if_pos hc] at hq; exact hq h1 _ _ _ H1⟩
  rw [if_neg hc] at hq
  dsimp only at hq
  generalize hb : bkF S.n S.W = b at hq
  have lok : ∀ {s : Nat} {Q : Option Value → pz_H → Prop}, s < 16 → Q (some (.int (totS b s 4))) h1 → pz_V mX10_levelOfKings pz_T Q 1 0 0 0 [(0, .ref m), (1, .int (nI s))] [] h1 := fun hs hQ => H1.lok O hs (Nat.le_refl _) (by rw [hb]; exact hQ)
  suffices G : ∀ f s, s + f = 16 → pz_V mX10_treaty Ex Q d bc bs 29 [(0, .ref m), (1, .int q), (2, .int (trS b q s).1), (3, .int (nI (trS b q s).2.1)), (4, .int (nI (trS b q s).2.2)), (5, .int (nI s))] [] h1 from G 16 0 rfl
  intro f
  induction f with
  | zero =>
    intro s hs
    have e : s = 16 := hs
    subst e
    refine wX10_treaty_29 hd ⟨fun _ => H1.row0 (fun h3 H3 => ⟨H3.is, H3.tell (by decide) (fun h4 H4 => ⟨rfl, ⟨fun hz => ⟨H4.is, H4.tell (by simp) (fun h5 H5 => ⟨rfl, ?_⟩)⟩, fun hz => ⟨H4.is, H4.tell (by simp) (fun h5 H5 => ⟨rfl, ?_⟩)⟩⟩⟩)⟩), fun hz => absurd (nI_le (a := 16) (Nat.le_refl _) (by decide)) hz⟩
    · rw [if_neg hz] at hq
      exact hq h5 _ _ _ H5
    · rw [if_pos hz] at hq
      exact hq h5 _ _ _ H5
  | succ f ih =>
    intro s hs
    have g := ih (s + 1) (by omega)
    rw [trS] at g
    have hs16 : s < 16 := by omega
    -- the kings of the set, one by one
    have loop : ∀ (f2 k : Nat) (r : Int32), k + f2 = 4 → (r = 0 ∨ r = 1) → (r = 1 ↔ q ≤ totS b s 4 ∧ ∀ k', k' < k → s.testBit k' = true → totS b s 4 - b k' < q) → pz_V mX10_treaty Ex Q d bc bs 56 [(0, .ref m), (1, .int q), (2, .int (trS b q s).1), (3, .int (nI (trS b q s).2.1)), (4, .int (nI (trS b q s).2.2)), (5, .int (nI s)), (6, .int r), (7, .int (nI k))] [] h1 := by
      intro f2
      induction f2 with
      | zero =>
        intro k r hk hr hrr
        have e : k = 4 := hk
        subst e
        refine wX10_treaty_56 hd ⟨fun _ => ⟨fun hz => ?_, fun hz => ?_⟩, fun hz => absurd (nI_le (a := 4) (Nat.le_refl _) (by decide)) hz⟩
        · have r1 : r = 1 := hr.resolve_left hz
          rw [if_pos (leastT_t.mpr (hrr.mp r1))] at g
          rw [nI_1, or_nI, fa_and]
          exact g
        · have : ¬ leastT b q s = true := fun z => by
            have := hrr.mpr (leastT_t.mp z)
            rw [hz] at this
            exact absurd this (by decide)
          rw [if_neg this] at g
          rw [nI_1]
          exact g
      | succ f2 ih2 =>
        intro k r hk hr hrr
        have hk4 : k < 4 := by omega
        refine wX10_treaty_56 hd ⟨fun hz => absurd hz (nI_ge (b := 4) (by omega) (by decide)), fun _ => ⟨fun hz => ?_, fun hz => ?_⟩⟩
        · rw [nI_1]
          refine ih2 (k + 1) 0 (by omega) (Or.inl rfl) ⟨fun z => absurd z (by decide), fun z => ?_⟩
          have := hrr.mpr ⟨z.1, fun k' hk' => z.2 k' (by omega)⟩
          rw [hz] at this
          exact absurd this (by decide)
        · have r1 : r = 1 := hr.resolve_left hz
          have rr := hrr.mp r1
          refine ⟨fun hb2 => ?_, fun hb2 => ⟨H1.is, ?_⟩⟩
          · rw [nI_1]
            refine ih2 (k + 1) 1 (by omega) (Or.inr rfl) ⟨fun _ => ⟨rr.1, fun k' hk' ht => ?_⟩, fun _ => rfl⟩
            by_cases e : k' = k
            · subst e
              rw [(has10_0 (by omega) (by omega)).mp hb2] at ht
              cases ht
            · exact rr.2 k' (by omega) ht
          · have tb := (has10_t (by omega) (by omega)).mp hb2
            rw [clr_eq s hs16 k hk4]
            refine lok (Nat.lt_of_le_of_lt Nat.and_le_left hs16) ⟨_, rfl, ?_⟩
            dsimp only
            rw [tot_clr hs16 hk4 tb, nI_1]
            refine ⟨fun hle => ih2 (k + 1) 0 (by omega) (Or.inl rfl) ⟨fun z => absurd z (by decide), fun z => ?_⟩, fun hle => ih2 (k + 1) 1 (by omega) (Or.inr rfl) ⟨fun _ => ⟨rr.1, fun k' hk' ht => ?_⟩, fun _ => rfl⟩⟩
            · exact absurd (z.2 k (by omega) tb) (Int32.not_lt.mpr hle)
            · by_cases e : k' = k
              · subst e
                exact Int32.not_le.mp hle
              · exact rr.2 k' (by omega) ht
    refine wX10_treaty_29 hd ⟨fun hz => absurd hz (nI_ge (b := 16) (by omega) (by decide)), fun _ => ⟨H1.is, lok hs16 ⟨_, rfl, ⟨fun hl => loop 4 0 0 rfl (Or.inl rfl) ⟨fun z => absurd z (by decide), fun z => absurd z.1 (Int32.not_le.mpr hl)⟩, fun hl => loop 4 0 1 rfl (Or.inr rfl) ⟨fun _ => ⟨Int32.not_lt.mp hl, fun k' hk' => absurd hk' (Nat.not_lt_zero _)⟩, fun _ => rfl⟩⟩⟩⟩⟩
/-! rests -/
theorem gets_eq (a b v : Int32) : eX10_getsBy a b v = eX9_gain a b v := by
  unfold eX10_getsBy eX9_gain
  simp only [sub_sub32]
theorem m_isBest {a b : Nat} {v : Int32} (hd : 1 ≤ d) (hq : ∀ r : Int32, (r = 0 ↔ bestA v a b = false) → Q (some (.int r)) h) : pz_V mX10_isBest Ex Q d bc bs 0 [(0, .int (nI a)), (1, .int (nI b)), (2, .int v)] [] h := by
  refine wX10_isBest_0 hd ?_
  suffices G : ∀ f z, z + f = 10 → (∀ z', z' < z → eX9_gain (nI z') (nI b) v ≤ eX9_gain (nI a) (nI b) v) → pz_V mX10_isBest Ex Q d bc bs 2 [(0, .int (nI a)), (1, .int (nI b)), (2, .int v), (3, .int (nI z))] [] h from G 10 0 rfl (fun z' hz' => absurd hz' (Nat.not_lt_zero _))
  intro f
  induction f with
  | zero =>
    intro z hz hall
    have e : z = 10 := hz
    subst e
    refine wX10_isBest_2 hd ⟨fun _ => hq 1 ⟨fun y => absurd y (by decide), fun y => ?_⟩, fun y => absurd (nI_lt (a := 9) (b := 10) (by decide) (by decide)) y⟩
    rw [bestA_t.mpr hall] at y
    cases y
  | succ f ih =>
    intro z hz hall
    refine wX10_isBest_2 hd ⟨fun y => absurd y (nI_nlt (a := 9) (by omega) (by decide)), fun _ => ?_⟩
    rw [gets_eq, gets_eq, nI_1]
    refine ⟨fun hl => ih (z + 1) (by omega) (fun z' hz' => ?_), fun hl => hq 0 ⟨fun _ => bool_f (fun y => ?_), fun _ => rfl⟩⟩
    · by_cases e : z' = z
      · rw [e]; exact hl
      · exact hall z' (by omega)
    · exact hl (bestA_t.mp y z (by omega))
theorem rsS_ok (v : Int32) : ∀ k : Nat, ∃ c, c ≤ k ∧ (rsS v k).1 = nI c ∧ (c = 0 → (rsS v k).2 = [])
  | 0 => ⟨0, Nat.le_refl _, rfl, fun _ => rfl⟩
  | k + 1 => by
    obtain ⟨c, h1, h2, h3⟩ := rsS_ok v k
    rw [rsS]
    split
    · exact ⟨c + 1, by omega, by rw [h2]; exact nI_1 c, fun z => absurd z (by omega)⟩
    · exact ⟨c, by omega, h2, h3⟩
theorem M_rests {v : Int32} (H : MW h0 h m S zz oT (-1) lm S.rw) (O : SOk S) (hd : 2 ≤ d) (hq : ∀ h' T' lm' zz', MW h0 h' m S zz' T' (-1) lm' (s_rests S.rw v).2 → Q (some (.int (s_rests S.rw v).1)) h') : pz_V mX10_rests Ex Q d bc bs 0 [(0, .ref m), (1, .int v)] [] h := by
  unfold s_rests at hq
  refine wX10_rests_0 hd (H.th (fun h1 H1 => ?_))
  rw [in_eq]
  refine ⟨fun hc => H1.row0 (fun h2 H2 => ?_), fun hc => by rw [if_pos hc] at hq; exact hq h1 _ _ _ H1⟩
  rw [if_neg hc] at hq
  suffices G : ∀ f x h3, x + f = 10 → MW h0 h3 m S zz oT (-1) lm (rsS v (10 * x)).2 → pz_V mX10_rests Ex Q d bc bs 26 [(0, .ref m), (1, .int v), (2, .int (rsS v (10 * x)).1), (3, .int (nI x))] [] h3 from G 10 0 h2 rfl H2
  intro f
  induction f with
  | zero =>
    intro x h3 hx H3
    have e : x = 10 := hx
    subst e
    exact wX10_rests_26 hd ⟨fun _ => hq h3 _ _ _ H3, fun y => absurd (nI_lt (a := 9) (b := 10) (by decide) (by decide)) y⟩
  | succ f ih =>
    intro x h3 hx H3
    refine wX10_rests_26 hd ⟨fun y => absurd y (nI_nlt (a := 9) (by omega) (by decide)), fun _ => ?_⟩
    suffices G2 : ∀ f2 y h4, y + f2 = 10 → MW h0 h4 m S zz oT (-1) lm (rsS v (10 * x + y)).2 → pz_V mX10_rests Ex Q d bc bs 35 [(0, .ref m), (1, .int v), (2, .int (rsS v (10 * x + y)).1), (3, .int (nI x)), (4, .int (nI y))] [] h4 from G2 10 0 h3 rfl H3
    intro f2
    induction f2 with
    | zero =>
      intro y h4 hy H4
      have e : y = 10 := hy
      subst e
      refine wX10_rests_35 hd ⟨fun _ => ?_, fun z => absurd (nI_lt (a := 9) (b := 10) (by decide) (by decide)) z⟩
      rw [nI_1]
      exact ih (x + 1) h4 (by omega) H4
    | succ f2 ih2 =>
      intro y h4 hy H4
      have g := ih2 (y + 1)
      rw [show 10 * x + (y + 1) = (10 * x + y) + 1 from rfl, rsS, show (10 * x + y) / 10 = x by omega, show (10 * x + y) % 10 = y by omega] at g
      obtain ⟨c, c1, c2, c3⟩ := rsS_ok v (10 * x + y)
      refine wX10_rests_35 hd ⟨fun z => absurd z (nI_nlt (a := 9) (by omega) (by decide)), fun _ => m_isBest (Nat.le_refl _) (fun r1 hr1 => ⟨_, rfl, ⟨fun z1 => ?_, fun z1 => m_isBest (Nat.le_refl _) (fun r2 hr2 => ⟨_, rfl, ⟨fun z2 => ⟨fun z3 => ?_, fun z3 => ?_⟩, fun z2 => ?_⟩⟩)⟩⟩)⟩
      · rw [if_neg (fun w => by rw [hr1.mp z1] at w; exact absurd w.1 (by decide))] at g
        rw [nI_1]
        exact g h4 (by omega) H4
      · have t1 : bestA v x y = true := by
          cases w : bestA v x y
          · exact absurd (hr1.mpr w) z1
          · rfl
        have t2 : bestA v y x = true := by
          cases w : bestA v y x
          · exact absurd (hr2.mpr w) z2
          · rfl
        rw [if_pos ⟨t1, t2⟩] at g
        dsimp only at g
        rw [if_neg z3] at g
        rw [nI_1]
        exact g h4 (by omega) H4
      · have t1 : bestA v x y = true := by
          cases w : bestA v x y
          · exact absurd (hr1.mpr w) z1
          · rfl
        have t2 : bestA v y x = true := by
          cases w : bestA v y x
          · exact absurd (hr2.mpr w) z2
          · rfl
        rw [if_pos ⟨t1, t2⟩] at g
        dsimp only at g
        rw [if_pos z3] at g
        have c0 : c = 0 := by
          rw [c2] at z3
          rcases Nat.eq_zero_or_pos c with w | w
          · exact w
          · exact absurd z3 (nI_ne0 w (by omega))
        rw [c3 c0] at H4
        rw [nI_1]
        exact ⟨H4.is, H4.tell (by decide) (fun h5 H5 => ⟨rfl, H5.is, H5.tell (by simp) (fun h6 H6 => ⟨rfl, g h6 (by omega) H6⟩)⟩)⟩
      · rw [if_neg (fun w => by rw [hr2.mp z2] at w; exact absurd w.2 (by decide))] at g
        rw [nI_1]
        exact g h4 (by omega) H4
end MK
