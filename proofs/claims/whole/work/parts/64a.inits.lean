/-! ===== the constructors ===== -/
section INI
variable {Ex : State → Nat → Prop} {Q : Option Value → pz_H → Prop} {d bc bs : Nat} {h : pz_H} {a t ci x m : Nat}
theorem mkI {N k : Nat} {fs : List Value} {K : pz_H → Prop} (fs' : List Value) (he : fs.set k (.ref t) = fs') (e1 : h.1 = t) (hat : a < t) (ea : h.2 a = some (aO ci fs)) (hk : k < fs.length) (hbc : 1 ≤ bc) (hbs : N ≤ bs) (kk : ∀ h', h'.1 = t + 1 → h'.2 a = some (aO ci fs') → h'.2 t = some (aI N (fun _ => 0)) → (∀ b, b < t → b ≠ a → h'.2 b = h.2 b) → K h') : pz_nI h N bc bs (fun q h2 => pz_pF h2 a ci k (.ref q) K) := by
  subst e1
  subst he
  exact ⟨hbc, hbs, fs, (pz_set_ne (by omega)).trans ea, hk, kk _ rfl (pz_set_eq _ _ _) ((pz_set_ne (by omega)).trans (pz_set_eq _ _ _)) (fun b hb hne => (pz_set_ne hne).trans (pz_set_ne (by omega)))⟩
theorem mkJ {N k : Nat} {fs : List Value} {K : pz_H → Prop} (fs' : List Value) (he : fs.set k (.ref t) = fs') (e1 : h.1 = t) (hat : a < t) (ea : h.2 a = some (aO ci fs)) (hk : k < fs.length) (hbc : 1 ≤ bc) (hbs : N ≤ bs) (kk : ∀ h', h'.1 = t + 1 → h'.2 a = some (aO ci fs') → h'.2 t = some (aJ N (fun _ => 0)) → (∀ b, b < t → b ≠ a → h'.2 b = h.2 b) → K h') : pz_nJ h N bc bs (fun q h2 => pz_pF h2 a ci k (.ref q) K) := by
  subst e1
  subst he
  exact ⟨hbc, hbs, fs, (pz_set_ne (by omega)).trans ea, hk, kk _ rfl (pz_set_eq _ _ _) ((pz_set_ne (by omega)).trans (pz_set_eq _ _ _)) (fun b hb hne => (pz_set_ne hne).trans (pz_set_ne (by omega)))⟩
theorem mkB {N k : Nat} {fs : List Value} {K : pz_H → Prop} (fs' : List Value) (he : fs.set k (.ref t) = fs') (e1 : h.1 = t) (hat : a < t) (ea : h.2 a = some (aO ci fs)) (hk : k < fs.length) (hbc : 1 ≤ bc) (hbs : N ≤ bs) (kk : ∀ h', h'.1 = t + 1 → h'.2 a = some (aO ci fs') → h'.2 t = some (aB N (fun _ => 0)) → (∀ b, b < t → b ≠ a → h'.2 b = h.2 b) → K h') : pz_nB h N bc bs (fun q h2 => pz_pF h2 a ci k (.ref q) K) := by
  subst e1
  subst he
  exact ⟨hbc, hbs, fs, (pz_set_ne (by omega)).trans ea, hk, kk _ rfl (pz_set_eq _ _ _) ((pz_set_ne (by omega)).trans (pz_set_eq _ _ _)) (fun b hb hne => (pz_set_ne hne).trans (pz_set_ne (by omega)))⟩
theorem mkZ {N k : Nat} {fs : List Value} {K : pz_H → Prop} (fs' : List Value) (he : fs.set k (.ref t) = fs') (e1 : h.1 = t) (hat : a < t) (ea : h.2 a = some (aO ci fs)) (hk : k < fs.length) (hbc : 1 ≤ bc) (hbs : N ≤ bs) (kk : ∀ h', h'.1 = t + 1 → h'.2 a = some (aO ci fs') → h'.2 t = some (aZ N (fun _ => 0)) → (∀ b, b < t → b ≠ a → h'.2 b = h.2 b) → K h') : pz_nZ h N bc bs (fun q h2 => pz_pF h2 a ci k (.ref q) K) := by
  subst e1
  subst he
  exact ⟨hbc, hbs, fs, (pz_set_ne (by omega)).trans ea, hk, kk _ rfl (pz_set_eq _ _ _) ((pz_set_ne (by omega)).trans (pz_set_eq _ _ _)) (fun b hb hne => (pz_set_ne hne).trans (pz_set_ne (by omega)))⟩
theorem mkWt {N k : Nat} {fs : List Value} {K : pz_H → Prop} (fs' : List Value) (he : fs.set k (.ref t) = fs') (e1 : h.1 = t) (hat : a < t) (ea : h.2 a = some (aO ci fs)) (hk : k < fs.length) (hbc : 1 ≤ bc) (hbs : N ≤ bs) (kk : ∀ h', h'.1 = t + 1 → h'.2 a = some (aO ci fs') → h'.2 t = some (aW N (fun _ => none)) → (∀ b, b < t → b ≠ a → h'.2 b = h.2 b) → K h') : pz_nWt h N bc bs (fun q h2 => pz_pF h2 a ci k (.ref q) K) := by
  subst e1
  subst he
  exact ⟨hbc, hbs, fs, (pz_set_ne (by omega)).trans ea, hk, kk _ rfl (pz_set_eq _ _ _) ((pz_set_ne (by omega)).trans (pz_set_eq _ _ _)) (fun b hb hne => (pz_set_ne hne).trans (pz_set_ne (by omega)))⟩
theorem mkO {N k ci' c s bc' bs' : Nat} {fs fs' : List Value} {I : pz_M} {dd : Nat} {K : pz_H → Prop} (Comp : pz_H → Prop) (fs0 : List Value) (he : fs.set k (.ref t) = fs0) (e1 : h.1 = t) (hat : a < t) (ea : h.2 a = some (aO ci fs)) (hk : k < fs.length) (hbc : 1 ≤ bc) (hbs : N ≤ bs) (hb2 : c ≤ bc') (hs2 : s ≤ bs')
    (hI : ∀ (h2 : pz_H) (Q : Option Value → pz_H → Prop), h2.1 = t + 1 → h2.2 t = some (aO ci' fs') → (∀ h', h'.1 = t + 1 + c → Comp h' → (∀ b, b < t → h'.2 b = h2.2 b) → Q none h') → pz_V I pz_T Q dd c s 0 [(0, .ref t)] [] h2)
    (hC : ∀ h' h'' : pz_H, Comp h' → (∀ b, b ≠ a → h''.2 b = h'.2 b) → Comp h'')
    (kk : ∀ h', h'.1 = t + 1 + c → h'.2 a = some (aO ci fs0) → Comp h' → (∀ b, b < t → b ≠ a → h'.2 b = h.2 b) → K h') : pz_nO h ci' fs' N bc bs (fun q h2 => (c ≤ bc' ∧ s ≤ bs') ∧ (pz_kv I dd c s (.ref q :: []) h2 (fun h3 => pz_pF h3 a ci k (.ref q) K))) := by
  subst e1
  subst he
  refine ⟨hbc, hbs, ⟨hb2, hs2⟩, hI _ _ rfl (pz_set_eq _ _ _) (fun h' z1 z2 z3 => ⟨rfl, fs, (z3 _ hat).trans ((pz_set_ne (by omega)).trans ea), hk, kk _ z1 (pz_set_eq _ _ _) (hC h' _ z2 (fun b hb => pz_set_ne hb)) (fun b hb hne => (pz_set_ne hne).trans ((z3 b hb).trans (pz_set_ne (by omega))))⟩)⟩
theorem i_X0 (e1 : h.1 = a + 1) (ea : h.2 a = some (aO 0 [.null, .null, .long 0])) (hd : 1 ≤ d) (hbc : 2 ≤ bc) (hbs : 12 ≤ bs) (hq : ∀ h', h'.1 = a + 1 + 2 → Dck h' a (fun _ => 0) (fun _ => 0) 0 → (∀ b, b < a → h'.2 b = h.2 b) → Q none h') : pz_V mX0_init Ex Q d bc bs 0 [(0, .ref a)] [] h := by
  refine wX0_init_0 hd ?_
  refine mkJ (t := a + 1) [.ref (a + 1), .null, .long 0] rfl e1 (by omega) ea (Nat.le_of_ble_eq_true rfl) (by omega) (by omega) (fun h1 z1 o1 c1 f1 => ?_)
  refine mkJ (t := a + 2) [.ref (a + 1), .ref (a + 2), .long 0] rfl z1 (by omega) o1 (Nat.le_of_ble_eq_true rfl) (by omega) (by omega) (fun h2 z2 o2 c2 f2 => ?_)
  have F2 : ∀ b, b < a + 3 → b ≠ a → h2.2 b = h2.2 b := fun _ _ _ => rfl
  have F1 : ∀ b, b < a + 2 → b ≠ a → h2.2 b = h1.2 b := fun b q1 q2 => (F2 b (by omega) q2).trans (f2 b (by omega) q2)
  have F0 : ∀ b, b < a + 1 → b ≠ a → h2.2 b = h.2 b := fun b q1 q2 => (F1 b (by omega) q2).trans (f1 b (by omega) q2)
  exact hq h2 z2 ⟨o2, (F1 _ (by omega) (by omega)).trans c1, (F2 _ (by omega) (by omega)).trans c2⟩ (fun b q => F0 b (by omega) (by omega))
theorem i_X1 (e1 : h.1 = a + 1) (ea : h.2 a = some (aO 1 [.null, .null, .null, .null, .int 0])) (hd : 1 ≤ d) (hbc : 4 ≤ bc) (hbs : 24 ≤ bs) (hq : ∀ h', h'.1 = a + 1 + 4 → Lnd h' a (fun _ => 0) (fun _ => 0) (fun _ => 0) (fun _ => 0) 0 → (∀ b, b < a → h'.2 b = h.2 b) → Q none h') : pz_V mX1_init Ex Q d bc bs 0 [(0, .ref a)] [] h := by
  refine wX1_init_0 hd ?_
  refine mkI (t := a + 1) [.ref (a + 1), .null, .null, .null, .int 0] rfl e1 (by omega) ea (Nat.le_of_ble_eq_true rfl) (by omega) (by omega) (fun h1 z1 o1 c1 f1 => ?_)
  refine mkI (t := a + 2) [.ref (a + 1), .ref (a + 2), .null, .null, .int 0] rfl z1 (by omega) o1 (Nat.le_of_ble_eq_true rfl) (by omega) (by omega) (fun h2 z2 o2 c2 f2 => ?_)
  refine mkI (t := a + 3) [.ref (a + 1), .ref (a + 2), .ref (a + 3), .null, .int 0] rfl z2 (by omega) o2 (Nat.le_of_ble_eq_true rfl) (by omega) (by omega) (fun h3 z3 o3 c3 f3 => ?_)
  refine mkI (t := a + 4) [.ref (a + 1), .ref (a + 2), .ref (a + 3), .ref (a + 4), .int 0] rfl z3 (by omega) o3 (Nat.le_of_ble_eq_true rfl) (by omega) (by omega) (fun h4 z4 o4 c4 f4 => ?_)
  have F4 : ∀ b, b < a + 5 → b ≠ a → h4.2 b = h4.2 b := fun _ _ _ => rfl
  have F3 : ∀ b, b < a + 4 → b ≠ a → h4.2 b = h3.2 b := fun b q1 q2 => (F4 b (by omega) q2).trans (f4 b (by omega) q2)
  have F2 : ∀ b, b < a + 3 → b ≠ a → h4.2 b = h2.2 b := fun b q1 q2 => (F3 b (by omega) q2).trans (f3 b (by omega) q2)
  have F1 : ∀ b, b < a + 2 → b ≠ a → h4.2 b = h1.2 b := fun b q1 q2 => (F2 b (by omega) q2).trans (f2 b (by omega) q2)
  have F0 : ∀ b, b < a + 1 → b ≠ a → h4.2 b = h.2 b := fun b q1 q2 => (F1 b (by omega) q2).trans (f1 b (by omega) q2)
  exact hq h4 z4 ⟨o4, (F1 _ (by omega) (by omega)).trans c1, (F2 _ (by omega) (by omega)).trans c2, (F3 _ (by omega) (by omega)).trans c3, (F4 _ (by omega) (by omega)).trans c4⟩ (fun b q => F0 b (by omega) (by omega))
theorem i_X3 (e1 : h.1 = a + 1) (ea : h.2 a = some (aO 3 [.null, .null, .null, .int 0])) (hd : 1 ≤ d) (hbc : 3 ≤ bc) (hbs : 30 ≤ bs) (hq : ∀ h', h'.1 = a + 1 + 3 → Rng h' a (fun _ => 0) (fun _ => 0) (fun _ => 0) 0 → (∀ b, b < a → h'.2 b = h.2 b) → Q none h') : pz_V mX3_init Ex Q d bc bs 0 [(0, .ref a)] [] h := by
  refine wX3_init_0 hd ?_
  refine mkI (t := a + 1) [.ref (a + 1), .null, .null, .int 0] rfl e1 (by omega) ea (Nat.le_of_ble_eq_true rfl) (by omega) (by omega) (fun h1 z1 o1 c1 f1 => ?_)
  refine mkI (t := a + 2) [.ref (a + 1), .ref (a + 2), .null, .int 0] rfl z1 (by omega) o1 (Nat.le_of_ble_eq_true rfl) (by omega) (by omega) (fun h2 z2 o2 c2 f2 => ?_)
  refine mkI (t := a + 3) [.ref (a + 1), .ref (a + 2), .ref (a + 3), .int 0] rfl z2 (by omega) o2 (Nat.le_of_ble_eq_true rfl) (by omega) (by omega) (fun h3 z3 o3 c3 f3 => ?_)
  have F3 : ∀ b, b < a + 4 → b ≠ a → h3.2 b = h3.2 b := fun _ _ _ => rfl
  have F2 : ∀ b, b < a + 3 → b ≠ a → h3.2 b = h2.2 b := fun b q1 q2 => (F3 b (by omega) q2).trans (f3 b (by omega) q2)
  have F1 : ∀ b, b < a + 2 → b ≠ a → h3.2 b = h1.2 b := fun b q1 q2 => (F2 b (by omega) q2).trans (f2 b (by omega) q2)
  have F0 : ∀ b, b < a + 1 → b ≠ a → h3.2 b = h.2 b := fun b q1 q2 => (F1 b (by omega) q2).trans (f1 b (by omega) q2)
  exact hq h3 z3 ⟨o3, (F1 _ (by omega) (by omega)).trans c1, (F2 _ (by omega) (by omega)).trans c2, (F3 _ (by omega) (by omega)).trans c3⟩ (fun b q => F0 b (by omega) (by omega))
theorem i_X4 (e1 : h.1 = a + 1) (ea : h.2 a = some (aO 4 [.null, .int 0])) (hd : 1 ≤ d) (hbc : 1 ≤ bc) (hbs : 6 ≤ bs) (hq : ∀ h', h'.1 = a + 1 + 1 → Row h' a (fun _ => 0) 0 → (∀ b, b < a → h'.2 b = h.2 b) → Q none h') : pz_V mX4_init Ex Q d bc bs 0 [(0, .ref a)] [] h := by
  refine wX4_init_0 hd ?_
  refine mkJ (t := a + 1) [.ref (a + 1), .int 0] rfl e1 (by omega) ea (Nat.le_of_ble_eq_true rfl) (by omega) (by omega) (fun h1 z1 o1 c1 f1 => ?_)
  have F1 : ∀ b, b < a + 2 → b ≠ a → h1.2 b = h1.2 b := fun _ _ _ => rfl
  have F0 : ∀ b, b < a + 1 → b ≠ a → h1.2 b = h.2 b := fun b q1 q2 => (F1 b (by omega) q2).trans (f1 b (by omega) q2)
  exact hq h1 z1 ⟨o1, (F1 _ (by omega) (by omega)).trans c1⟩ (fun b q => F0 b (by omega) (by omega))
theorem i_X5 (e1 : h.1 = a + 1) (ea : h.2 a = some (aO 5 [.null, .null, .null, .int 0, .null, .int 0])) (hd : 1 ≤ d) (hbc : 3 ≤ bc) (hbs : 86 ≤ bs) (hq : ∀ h', h'.1 = a + 1 + 3 → Rul h' a (fun _ => 0) (fun _ => 0) (fun _ => 0) 0 none 0 → (∀ b, b < a → h'.2 b = h.2 b) → Q none h') : pz_V mX5_init Ex Q d bc bs 0 [(0, .ref a)] [] h := by
  refine wX5_init_0 hd ?_
  refine mkI (t := a + 1) [.ref (a + 1), .null, .null, .int 0, .null, .int 0] rfl e1 (by omega) ea (Nat.le_of_ble_eq_true rfl) (by omega) (by omega) (fun h1 z1 o1 c1 f1 => ?_)
  refine mkI (t := a + 2) [.ref (a + 1), .ref (a + 2), .null, .int 0, .null, .int 0] rfl z1 (by omega) o1 (Nat.le_of_ble_eq_true rfl) (by omega) (by omega) (fun h2 z2 o2 c2 f2 => ?_)
  refine mkI (t := a + 3) [.ref (a + 1), .ref (a + 2), .ref (a + 3), .int 0, .null, .int 0] rfl z2 (by omega) o2 (Nat.le_of_ble_eq_true rfl) (by omega) (by omega) (fun h3 z3 o3 c3 f3 => ?_)
  have F3 : ∀ b, b < a + 4 → b ≠ a → h3.2 b = h3.2 b := fun _ _ _ => rfl
  have F2 : ∀ b, b < a + 3 → b ≠ a → h3.2 b = h2.2 b := fun b q1 q2 => (F3 b (by omega) q2).trans (f3 b (by omega) q2)
  have F1 : ∀ b, b < a + 2 → b ≠ a → h3.2 b = h1.2 b := fun b q1 q2 => (F2 b (by omega) q2).trans (f2 b (by omega) q2)
  have F0 : ∀ b, b < a + 1 → b ≠ a → h3.2 b = h.2 b := fun b q1 q2 => (F1 b (by omega) q2).trans (f1 b (by omega) q2)
  exact hq h3 z3 ⟨o3, (F1 _ (by omega) (by omega)).trans c1, (F2 _ (by omega) (by omega)).trans c2, (F3 _ (by omega) (by omega)).trans c3⟩ (fun b q => F0 b (by omega) (by omega))
theorem i_X6 (e1 : h.1 = a + 1) (ea : h.2 a = some (aO 6 [.null, .int 0])) (hd : 1 ≤ d) (hbc : 1 ≤ bc) (hbs : 80 ≤ bs) (hq : ∀ h', h'.1 = a + 1 + 1 → Txt h' a (fun _ => 0) 0 → (∀ b, b < a → h'.2 b = h.2 b) → Q none h') : pz_V mX6_init Ex Q d bc bs 0 [(0, .ref a)] [] h := by
  refine wX6_init_0 hd ?_
  refine mkI (t := a + 1) [.ref (a + 1), .int 0] rfl e1 (by omega) ea (Nat.le_of_ble_eq_true rfl) (by omega) (by omega) (fun h1 z1 o1 c1 f1 => ?_)
  have F1 : ∀ b, b < a + 2 → b ≠ a → h1.2 b = h1.2 b := fun _ _ _ => rfl
  have F0 : ∀ b, b < a + 1 → b ≠ a → h1.2 b = h.2 b := fun b q1 q2 => (F1 b (by omega) q2).trans (f1 b (by omega) q2)
  exact hq h1 z1 ⟨o1, (F1 _ (by omega) (by omega)).trans c1⟩ (fun b q => F0 b (by omega) (by omega))
theorem i_X8 (e1 : h.1 = a + 1) (ea : h.2 a = some (aO 8 [.null, .null, .null, .null, .null, .int 0, .int 0, .int 0, .int 0])) (hd : 1 ≤ d) (hbc : 5 ≤ bc) (hbs : 30 ≤ bs) (hq : ∀ h', h'.1 = a + 1 + 5 → Wat h' a (fun _ => 0) (fun _ => 0) (fun _ => 0) (fun _ => 0) (fun _ => 0) 0 0 0 0 → (∀ b, b < a → h'.2 b = h.2 b) → Q none h') : pz_V mX8_init Ex Q d bc bs 0 [(0, .ref a)] [] h := by
  refine wX8_init_0 hd ?_
  refine mkI (t := a + 1) [.ref (a + 1), .null, .null, .null, .null, .int 0, .int 0, .int 0, .int 0] rfl e1 (by omega) ea (Nat.le_of_ble_eq_true rfl) (by omega) (by omega) (fun h1 z1 o1 c1 f1 => ?_)
  refine mkI (t := a + 2) [.ref (a + 1), .ref (a + 2), .null, .null, .null, .int 0, .int 0, .int 0, .int 0] rfl z1 (by omega) o1 (Nat.le_of_ble_eq_true rfl) (by omega) (by omega) (fun h2 z2 o2 c2 f2 => ?_)
  refine mkI (t := a + 3) [.ref (a + 1), .ref (a + 2), .ref (a + 3), .null, .null, .int 0, .int 0, .int 0, .int 0] rfl z2 (by omega) o2 (Nat.le_of_ble_eq_true rfl) (by omega) (by omega) (fun h3 z3 o3 c3 f3 => ?_)
  refine mkI (t := a + 4) [.ref (a + 1), .ref (a + 2), .ref (a + 3), .ref (a + 4), .null, .int 0, .int 0, .int 0, .int 0] rfl z3 (by omega) o3 (Nat.le_of_ble_eq_true rfl) (by omega) (by omega) (fun h4 z4 o4 c4 f4 => ?_)
  refine mkI (t := a + 5) [.ref (a + 1), .ref (a + 2), .ref (a + 3), .ref (a + 4), .ref (a + 5), .int 0, .int 0, .int 0, .int 0] rfl z4 (by omega) o4 (Nat.le_of_ble_eq_true rfl) (by omega) (by omega) (fun h5 z5 o5 c5 f5 => ?_)
  have F5 : ∀ b, b < a + 6 → b ≠ a → h5.2 b = h5.2 b := fun _ _ _ => rfl
  have F4 : ∀ b, b < a + 5 → b ≠ a → h5.2 b = h4.2 b := fun b q1 q2 => (F5 b (by omega) q2).trans (f5 b (by omega) q2)
  have F3 : ∀ b, b < a + 4 → b ≠ a → h5.2 b = h3.2 b := fun b q1 q2 => (F4 b (by omega) q2).trans (f4 b (by omega) q2)
  have F2 : ∀ b, b < a + 3 → b ≠ a → h5.2 b = h2.2 b := fun b q1 q2 => (F3 b (by omega) q2).trans (f3 b (by omega) q2)
  have F1 : ∀ b, b < a + 2 → b ≠ a → h5.2 b = h1.2 b := fun b q1 q2 => (F2 b (by omega) q2).trans (f2 b (by omega) q2)
  have F0 : ∀ b, b < a + 1 → b ≠ a → h5.2 b = h.2 b := fun b q1 q2 => (F1 b (by omega) q2).trans (f1 b (by omega) q2)
  exact hq h5 z5 ⟨o5, (F1 _ (by omega) (by omega)).trans c1, (F2 _ (by omega) (by omega)).trans c2, (F3 _ (by omega) (by omega)).trans c3, (F4 _ (by omega) (by omega)).trans c4, (F5 _ (by omega) (by omega)).trans c5⟩ (fun b q => F0 b (by omega) (by omega))
def W0 : pW := ((fun _ => 0), (fun _ => 0), (fun _ => 0), (fun _ => 0), (fun _ => 0), 0, 0, 0, 0)
theorem W0_ok : Wok W0 := ⟨by decide, fun _ _ => ⟨rfl, rfl, rfl, rfl, rfl⟩⟩
def PsT (h : pz_H) (a : Nat) : Prop := Pst h a 0 ∧ ∃ g : Nat → Option Nat, h.2 (a + 1) = some (aW 12 g) ∧ ∀ j, j < 12 → g j = some (a + 2 + 6 * j) ∧ WatT h (a + 2 + 6 * j) W0
/-- an array of waters, being filled -/
theorem i_X2 (e1 : h.1 = a + 1) (ea : h.2 a = some (aO 2 [.null, .int 0])) (hd : 2 ≤ d) (hbc : 73 ≤ bc) (hbs : 480 ≤ bs) (hq : ∀ h', h'.1 = a + 1 + 73 → PsT h' a → (∀ b, b < a → h'.2 b = h.2 b) → Q none h') : pz_V mX2_init Ex Q d bc bs 0 [(0, .ref a)] [] h := by
  refine wX2_init_0 hd ?_
  refine mkWt (t := a + 1) [.ref (a + 1), .int 0] rfl e1 (by omega) ea (Nat.le_of_ble_eq_true rfl) (by omega) (by omega) (fun h1 z1 o1 c1 f1 => ?_)
  suffices G : ∀ f i (h2 : pz_H) (bc2 bs2 : Nat) (g : Nat → Option Nat), i + f = 12 → 6 * f ≤ bc2 → 39 * f ≤ bs2 → h2.1 = a + 2 + 6 * i → Pst h2 a 0 → h2.2 (a + 1) = some (aW 12 g) → (∀ j, j < i → g j = some (a + 2 + 6 * j) ∧ WatT h2 (a + 2 + 6 * j) W0) → (∀ b, b < a → h2.2 b = h.2 b) → pz_V mX2_init Ex Q d bc2 bs2 15 [(0, .ref a), (1, .int (nI i))] [] h2 from
    G 12 0 h1 _ _ _ rfl (by omega) (by omega) z1 o1 c1 (fun j hj => absurd hj (Nat.not_lt_zero _)) (fun b q => f1 b (by omega) (by omega))
  intro f
  induction f with
  | zero =>
    intro i h2 bc2 bs2 g hi _ _ q1 q2 q3 q4 q5
    obtain rfl : i = 12 := hi
    exact wX2_init_15 hd ⟨fun _ => hq h2 q1 ⟨q2, g, q3, q4⟩ q5, fun z => absurd (nI_le (a := 12) (Nat.le_refl _) (by decide)) z⟩
  | succ f ih =>
    intro i h2 bc2 bs2 g hi g1 g2 q1 q2 q3 q4 q5
    refine wX2_init_15 hd ⟨fun z => absurd z (show ¬ nI 12 ≤ nI i from nI_ge (by omega) (by decide)), fun _ => ⟨_, _, q2, rfl, by omega, by omega, ⟨by omega, by omega⟩, i_X8 (a := h2.1) rfl (pz_set_eq _ _ _) (Nat.le_refl _) (Nat.le_refl _) (Nat.le_refl _) (fun h3 y1 y2 y3 => ⟨rfl, 12, g, _, (y3 _ (by omega)).trans ((pz_set_ne (by omega)).trans q3), vin (by omega) (by decide), y2.1, ?_⟩)⟩⟩
    rw [clamp (by omega), nI_1]
    have e : ∀ b, b < a + 2 + 6 * i → b ≠ a + 1 → (pz_put h3 (a + 1) (aW 12 (va_up g i (some h2.1)))).2 b = h2.2 b := fun b k1 k2 => (pz_set_ne k2).trans ((y3 b (by omega)).trans (pz_set_ne (by omega)))
    have e2 : ∀ b, a + 2 ≤ b → (pz_put h3 (a + 1) (aW 12 (va_up g i (some h2.1)))).2 b = h3.2 b := fun b k1 => pz_set_ne (by omega)
    refine ih (i + 1) _ _ _ (va_up g i (some h2.1)) (by omega) (by omega) (by omega) (y1.trans (by omega)) ((e a (by omega) (by omega)).trans q2) (pz_set_eq _ _ _) (fun j hj => ?_) (fun b q => (e b (by omega) (by omega)).trans (q5 b q))
    by_cases ej : j = i
    · subst ej
      refine ⟨(if_pos rfl).trans (by rw [q1]), ?_⟩
      rw [← q1]
      exact y2.mv (fun c k1 k2 => e2 c (by omega))
    · obtain ⟨k1, k2⟩ := q4 j (by omega)
      exact ⟨(if_neg ej).trans k1, k2.mv (fun c j1 j2 => e c (by omega) (by omega))⟩
end INI
