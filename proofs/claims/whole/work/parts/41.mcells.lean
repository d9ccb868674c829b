/-! ===== the reference's cells, all at once ===== -/
abbrev pM : Type := (Nat → Int32) × (Nat → Nat → Int32) × (Nat → Nat → Int64) × Option Nat × Nat
abbrev pM.I (P : pM) : Nat → Int32 := P.1
abbrev pM.A (P : pM) : Nat → Nat → Int32 := P.2.1
abbrev pM.J (P : pM) : Nat → Nat → Int64 := P.2.2.1
abbrev pM.rd (P : pM) : Option Nat := P.2.2.2.1
abbrev pM.ru (P : pM) : Nat := P.2.2.2.2
def up1 {α : Type} (f : Nat → α) (k : Nat) (v : α) : Nat → α := fun j => if j = k then v else f j
abbrev pM.sI (P : pM) (k : Nat) (v : Int32) : pM := (up1 P.I k v, P.A, P.J, P.rd, P.ru)
abbrev pM.sA (P : pM) (k : Nat) (f : Nat → Int32) : pM := (P.I, up1 P.A k f, P.J, P.rd, P.ru)
abbrev pM.sJ (P : pM) (k : Nat) (f : Nat → Int64) : pM := (P.I, P.A, up1 P.J k f, P.rd, P.ru)
abbrev pM.sD (P : pM) (v : Nat) : pM := (P.I, P.A, P.J, some v, P.ru)
abbrev pM.sU (P : pM) (v : Nat) : pM := (P.I, P.A, P.J, P.rd, v)
theorem up1_at {α : Type} (f : Nat → α) (k : Nat) (v : α) : up1 f k v k = v := if_pos rfl
theorem up1_ne {α : Type} {f : Nat → α} {k j : Nat} {v : α} (h : j ≠ k) : up1 f k v j = f j := if_neg h
theorem upd_at (f : Nat → Int32) (k : Nat) (v : Int32) : upd f k v k = v := if_pos rfl
theorem upd_ne {f : Nat → Int32} {k j : Nat} {v : Int32} (h : j ≠ k) : upd f k v j = f j := if_neg h
def mF (m : Nat) (P : pM) : List Value := [.ref (m + 1), .int (P.I 1), .ref (m + 2), .ref (m + 3), .ref (m + 4), .ref (m + 5), .int (P.I 6), .ref (m + 6), .int (P.I 8), .int (P.I 9), va_rf P.rd, .int (P.I 11), .int (P.I 12), .int (P.I 13), .int (P.I 14), .ref (m + 7), .ref P.ru, .ref (m + 9), .int (P.I 18), .int (P.I 19), .ref (m + 10), .ref (m + 11), .int (P.I 22), .ref (m + 12), .ref (m + 13), .ref (m + 14), .ref (m + 15), .int (P.I 27), .int (P.I 28), .ref (m + 16), .ref (m + 17), .ref (m + 18), .ref (m + 19), .int (P.I 33), .ref (m + 20), .ref (m + 21), .ref (m + 22), .ref (m + 23), .int (P.I 38), .int (P.I 39), .ref (m + 24), .ref (m + 25), .ref (m + 26)]
def intF (k : Nat) : Bool := decide (k ∈ [1, 6, 8, 9, 11, 12, 13, 14, 18, 19, 22, 27, 28, 33, 38, 39])
def refO : Nat → Option Nat
  | 0 => some 1
  | 2 => some 2
  | 3 => some 3
  | 4 => some 4
  | 5 => some 5
  | 7 => some 6
  | 15 => some 7
  | 17 => some 9
  | 20 => some 10
  | 21 => some 11
  | 23 => some 12
  | 24 => some 13
  | 25 => some 14
  | 26 => some 15
  | 29 => some 16
  | 30 => some 17
  | 31 => some 18
  | 32 => some 19
  | 34 => some 20
  | 35 => some 21
  | 36 => some 22
  | 37 => some 23
  | 40 => some 24
  | 41 => some 25
  | 42 => some 26
  | _ => none
def arrN : Nat → Option Nat
  | 1 => some 33
  | 2 => some 6
  | 3 => some 6
  | 4 => some 6
  | 7 => some 30
  | 10 => some 6
  | 11 => some 396
  | 12 => some 33
  | 13 => some 33
  | 14 => some 6
  | 15 => some 6
  | 16 => some 240
  | 17 => some 10
  | 18 => some 10
  | 19 => some 10
  | 20 => some 12600
  | 21 => some 448
  | 24 => some 66
  | 26 => some 2
  | _ => none
def arrB : Nat → Option Nat
  | 5 => some 80
  | 8 => some 40
  | 9 => some 40
  | _ => none
def arrJ : Nat → Option Nat
  | 6 => some 16
  | 22 => some 6
  | 23 => some 6
  | _ => none
def mC (P : pM) (j : Nat) : pz_E := match arrN j, arrB j, arrJ j with
  | some N, _, _ => aI N (P.A j)
  | _, some N, _ => aB N (P.A j)
  | _, _, some N => aJ N (P.J j)
  | _, _, _ => aZ 2 (P.A j)
theorem mC_I {P : pM} {j N : Nat} (hj : arrN j = some N) : mC P j = aI N (P.A j) := by unfold mC; rw [hj]
theorem arrN_b {j N : Nat} (hj : arrN j = some N) : 0 < j ∧ j < 27 ∧ N < 2 ^ 31 := by
  unfold arrN at hj
  split at hj <;> first | (cases hj; decide) | cases hj
theorem mC_B {P : pM} {j N : Nat} (hj : arrB j = some N) : mC P j = aB N (P.A j) ∧ 0 < j ∧ j < 27 ∧ N < 2 ^ 31 := by
  unfold arrB at hj
  split at hj <;> first | (cases hj; exact ⟨rfl, by decide⟩) | cases hj
theorem mC_J {P : pM} {j N : Nat} (hj : arrJ j = some N) : mC P j = aJ N (P.J j) ∧ 0 < j ∧ j < 27 ∧ N < 2 ^ 31 := by
  unfold arrJ at hj
  split at hj <;> first | (cases hj; exact ⟨rfl, by decide⟩) | cases hj
def MI (h0 h : pz_H) (m : Nat) (P : pM) : Prop := (h.1 = h0.1 ∧ ∀ b, (b < m ∨ m + 27 ≤ b) → h.2 b = h0.2 b) ∧ h.2 m = some (aO 10 (mF m P)) ∧ ∀ j, 0 < j → j < 27 → h.2 (m + j) = some (mC P j)
section MC
variable {h0 h h' : pz_H} {m : Nat} {P : pM}
theorem intF_c {k : Nat} (hk : intF k = true) : k = 1 ∨ k = 6 ∨ k = 8 ∨ k = 9 ∨ k = 11 ∨ k = 12 ∨ k = 13 ∨ k = 14 ∨ k = 18 ∨ k = 19 ∨ k = 22 ∨ k = 27 ∨ k = 28 ∨ k = 33 ∨ k = 38 ∨ k = 39 := by
  unfold intF at hk
  have := of_decide_eq_true hk
  simp only [List.mem_cons, List.not_mem_nil, or_false] at this
  exact this
theorem mF_int {k : Nat} (hk : intF k = true) : (mF m P)[k]? = some (.int (P.I k)) := by
  rcases intF_c hk with rfl | rfl | rfl | rfl | rfl | rfl | rfl | rfl | rfl | rfl | rfl | rfl | rfl | rfl | rfl | rfl <;> rfl
theorem mF_set {k : Nat} {v : Int32} (hk : intF k = true) : (mF m P).set k (.int v) = mF m (P.sI k v) := by
  rcases intF_c hk with rfl | rfl | rfl | rfl | rfl | rfl | rfl | rfl | rfl | rfl | rfl | rfl | rfl | rfl | rfl | rfl <;> rfl
theorem intF_lt {k : Nat} (hk : intF k = true) : k < (mF m P).length := by
  show k < 43
  rcases intF_c hk with rfl | rfl | rfl | rfl | rfl | rfl | rfl | rfl | rfl | rfl | rfl | rfl | rfl | rfl | rfl | rfl <;> decide
theorem mF_ref {k j : Nat} (hk : refO k = some j) : (mF m P)[k]? = some (.ref (m + j)) := by
  unfold refO at hk
  split at hk <;> first | (cases hk; rfl) | cases hk
theorem MI.gI {k : Nat} (H : MI h0 h m P) (hk : intF k = true) {K : Int32 → Prop} : pz_gI h m 10 k K ↔ K (P.I k) := gI_eq H.2.1 (mF_int hk)
theorem MI.gR {k j : Nat} (H : MI h0 h m P) (hk : refO k = some j) {K : Nat → Prop} : pz_gR h m 10 k K ↔ K (m + j) := gR_eq H.2.1 (mF_ref hk)
theorem MI.gU (H : MI h0 h m P) {K : Nat → Prop} : pz_gR h m 10 16 K ↔ K P.ru := gR_eq H.2.1 rfl
theorem MI.gD {v : Nat} (H : MI h0 h m P) (hv : P.rd = some v) {K : Nat → Prop} : pz_gR h m 10 10 K ↔ K v := gR_eq H.2.1 (by show some (va_rf P.rd) = _; rw [hv]; rfl)
theorem MI.is (H : MI h0 h m P) : pz_is h m 10 := ⟨_, H.2.1⟩
theorem MI.obj {fs : List Value} {P' : pM} (H : MI h0 h m P) (hf : fs = mF m P') (hc : ∀ j, 0 < j → j < 27 → mC P' j = mC P j) : MI h0 (pz_put h m (aO 10 fs)) m P' := by
  refine ⟨⟨H.1.1, fun b hb => (put_ne (by omega)).trans (H.1.2 b hb)⟩, by rw [put_at, hf], fun j h1 h2 => ?_⟩
  rw [put_ne (by omega), hc j h1 h2]
  exact H.2.2 j h1 h2
theorem MI.pI {k : Nat} {v : Int32} (H : MI h0 h m P) (hk : intF k = true) {K : pz_H → Prop} (f : ∀ h', MI h0 h' m (P.sI k v) → K h') : pz_pF h m 10 k (.int v) K :=
  (pF_eq H.2.1 (intF_lt hk)).mpr (f _ (H.obj (mF_set hk) (fun _ _ _ => rfl)))
theorem MI.pD {v : Nat} (H : MI h0 h m P) {K : pz_H → Prop} (f : ∀ h', MI h0 h' m (P.sD v) → K h') : pz_pF h m 10 10 (.ref v) K :=
  (pF_eq H.2.1 (show 10 < 43 by decide)).mpr (f _ (H.obj rfl (fun _ _ _ => rfl)))
theorem MI.pU {v : Nat} (H : MI h0 h m P) {K : pz_H → Prop} (f : ∀ h', MI h0 h' m (P.sU v) → K h') : pz_pF h m 10 16 (.ref v) K :=
  (pF_eq H.2.1 (show 16 < 43 by decide)).mpr (f _ (H.obj rfl (fun _ _ _ => rfl)))
theorem MI.cI {j N : Nat} (H : MI h0 h m P) (hj : arrN j = some N) : h.2 (m + j) = some (aI N (P.A j)) := by
  have b := arrN_b hj
  rw [H.2.2 j b.1 b.2.1, mC_I hj]
theorem MI.cB {j N : Nat} (H : MI h0 h m P) (hj : arrB j = some N) : h.2 (m + j) = some (aB N (P.A j)) := by
  have b := mC_B (P := P) hj
  rw [H.2.2 j b.2.1 b.2.2.1, b.1]
theorem MI.cJ {j N : Nat} (H : MI h0 h m P) (hj : arrJ j = some N) : h.2 (m + j) = some (aJ N (P.J j)) := by
  have b := mC_J (P := P) hj
  rw [H.2.2 j b.2.1 b.2.2.1, b.1]
theorem MI.cZ (H : MI h0 h m P) : h.2 (m + 25) = some (aZ 2 (P.A 25)) := H.2.2 25 (by decide) (by decide)
theorem MI.cel {j : Nat} {e : pz_E} {P' : pM} (H : MI h0 h m P) (h1 : 0 < j) (h2 : j < 27) (hf : mF m P' = mF m P) (he : e = mC P' j) (hc : ∀ k, 0 < k → k < 27 → k ≠ j → mC P' k = mC P k) : MI h0 (pz_put h (m + j) e) m P' := by
  refine ⟨⟨H.1.1, fun b hb => (put_ne (by omega)).trans (H.1.2 b hb)⟩, by rw [put_ne (by omega), hf]; exact H.2.1, fun k h3 h4 => ?_⟩
  by_cases e1 : k = j
  · subst e1
    rw [put_at, he]
  · rw [put_ne (by omega), hc k h3 h4 e1]
    exact H.2.2 k h3 h4
theorem mC_ne {j k : Nat} {f : Nat → Int32} (h : k ≠ j) : mC (P.sA j f) k = mC P k := by
  unfold mC
  rw [show (P.sA j f).A k = P.A k from up1_ne h]
theorem mC_neJ {j k : Nat} {f : Nat → Int64} (h : k ≠ j) : mC (P.sJ j f) k = mC P k := by
  unfold mC
  rw [show (P.sJ j f).J k = P.J k from up1_ne h]
theorem MI.wI {j N : Nat} {f : Nat → Int32} (H : MI h0 h m P) (hj : arrN j = some N) : MI h0 (pz_put h (m + j) (aI N f)) m (P.sA j f) := by
  have b := arrN_b hj
  refine H.cel b.1 b.2.1 rfl ?_ (fun k _ _ hk => mC_ne hk)
  rw [mC_I hj, show (P.sA j f).A j = f from up1_at _ _ _]
theorem MI.wB {j N : Nat} {f : Nat → Int32} (H : MI h0 h m P) (hj : arrB j = some N) : MI h0 (pz_put h (m + j) (aB N f)) m (P.sA j f) := by
  have b := mC_B (P := P.sA j f) hj
  refine H.cel b.2.1 b.2.2.1 rfl ?_ (fun k _ _ hk => mC_ne hk)
  rw [b.1, show (P.sA j f).A j = f from up1_at _ _ _]
theorem MI.wJ {j N : Nat} {f : Nat → Int64} (H : MI h0 h m P) (hj : arrJ j = some N) : MI h0 (pz_put h (m + j) (aJ N f)) m (P.sJ j f) := by
  have b := mC_J (P := P.sJ j f) hj
  refine H.cel b.2.1 b.2.2.1 rfl ?_ (fun k _ _ hk => mC_neJ hk)
  rw [b.1, show (P.sJ j f).J j = f from up1_at _ _ _]
theorem MI.wZ {f : Nat → Int32} (H : MI h0 h m P) : MI h0 (pz_put h (m + 25) (aZ 2 f)) m (P.sA 25 f) := H.cel (by decide) (by decide) rfl rfl (fun k _ _ hk => mC_ne hk)
theorem MI.rI {j N q : Nat} {i : Int32} (H : MI h0 h m P) (hj : arrN j = some N) (hi : i = nI q) (hq : q < N) {K : Int32 → Prop} : pz_rI h (m + j) i K ↔ K (P.A j q) := by
  have b := arrN_b hj
  rw [rI_eq (H.cI hj), hi, clamp (by omega)]
  exact ⟨fun z => z.2, fun z => ⟨vin hq b.2.2, z⟩⟩
theorem MI.rB {j N q : Nat} {i : Int32} (H : MI h0 h m P) (hj : arrB j = some N) (hi : i = nI q) (hq : q < N) {K : Int32 → Prop} : pz_rB h (m + j) i K ↔ K (P.A j q) := by
  have b := (mC_B (P := P) hj).2
  rw [rB_eq (H.cB hj), hi, clamp (by omega)]
  exact ⟨fun z => z.2, fun z => ⟨vin hq b.2.2, z⟩⟩
theorem MI.rJ {j N q : Nat} {i : Int32} (H : MI h0 h m P) (hj : arrJ j = some N) (hi : i = nI q) (hq : q < N) {K : Int64 → Prop} : pz_rJ h (m + j) i K ↔ K (P.J j q) := by
  have b := (mC_J (P := P) hj).2
  rw [rJ_eq (H.cJ hj), hi, clamp (by omega)]
  exact ⟨fun z => z.2, fun z => ⟨vin hq b.2.2, z⟩⟩
theorem MI.rZ {q : Nat} {i : Int32} (H : MI h0 h m P) (hi : i = nI q) (hq : q < 2) {K : Int32 → Prop} : pz_rZ h (m + 25) i K ↔ K (P.A 25 q) := by
  rw [rZ_eq H.cZ, hi, clamp (by omega)]
  exact ⟨fun z => z.2, fun z => ⟨vin hq (by decide), z⟩⟩
theorem MI.sI {j N q : Nat} {i x : Int32} (H : MI h0 h m P) (hj : arrN j = some N) (hi : i = nI q) (hq : q < N) {K : pz_H → Prop} (f : ∀ h', MI h0 h' m (P.sA j (upd (P.A j) q x)) → K h') : pz_sI h (m + j) i x K := by
  have b := arrN_b hj
  refine (sI_eq (H.cI hj)).mpr ⟨by rw [hi]; exact vin hq b.2.2, ?_⟩
  rw [hi, clamp (by omega)]
  exact f _ (H.wI hj)
theorem MI.sB {j N q : Nat} {i x : Int32} (H : MI h0 h m P) (hj : arrB j = some N) (hi : i = nI q) (hq : q < N) {K : pz_H → Prop} (f : ∀ h', MI h0 h' m (P.sA j (upd (P.A j) q (vp_nar .byte x))) → K h') : pz_sB h (m + j) i x K := by
  have b := (mC_B (P := P) hj).2
  refine (sB_eq (H.cB hj)).mpr ⟨by rw [hi]; exact vin hq b.2.2, ?_⟩
  rw [hi, clamp (by omega)]
  exact f _ (H.wB hj)
theorem MI.sJ {j N q : Nat} {i : Int32} {x : Int64} (H : MI h0 h m P) (hj : arrJ j = some N) (hi : i = nI q) (hq : q < N) {K : pz_H → Prop} (f : ∀ h', MI h0 h' m (P.sJ j (vp_updL (P.J j) q x)) → K h') : pz_sJ h (m + j) i x K := by
  have b := (mC_J (P := P) hj).2
  refine (sJ_eq (H.cJ hj)).mpr ⟨by rw [hi]; exact vin hq b.2.2, ?_⟩
  rw [hi, clamp (by omega)]
  exact f _ (H.wJ hj)
theorem MI.sZ {q : Nat} {i x : Int32} (H : MI h0 h m P) (hi : i = nI q) (hq : q < 2) {K : pz_H → Prop} (f : ∀ h', MI h0 h' m (P.sA 25 (upd (P.A 25) q (vp_nar .boolean x))) → K h') : pz_sZ h (m + 25) i x K := by
  refine (sZ_eq H.cZ).mpr ⟨by rw [hi]; exact vin hq (by decide), ?_⟩
  rw [hi, clamp (by omega)]
  exact f _ H.wZ
/-! what a method may change -/
def Kp (li la : List Nat) (P P' : pM) : Prop := (∀ k, k ∉ li → P'.I k = P.I k) ∧ (∀ k, k ∉ la → P'.A k = P.A k) ∧ (∀ k, k ∉ la → P'.J k = P.J k) ∧ P'.ru = P.ru
variable {li la : List Nat} {P1 P2 : pM}
theorem Kp.rf : Kp li la P P := ⟨fun _ _ => rfl, fun _ _ => rfl, fun _ _ => rfl, rfl⟩
theorem Kp.tr (H1 : Kp li la P P1) (H2 : Kp li la P1 P2) : Kp li la P P2 := ⟨fun k hk => (H2.1 k hk).trans (H1.1 k hk), fun k hk => (H2.2.1 k hk).trans (H1.2.1 k hk), fun k hk => (H2.2.2.1 k hk).trans (H1.2.2.1 k hk), H2.2.2.2.trans H1.2.2.2⟩
theorem Kp.mono {li' la' : List Nat} (H : Kp li la P P1) (h1 : ∀ k ∈ li, k ∈ li') (h2 : ∀ k ∈ la, k ∈ la') : Kp li' la' P P1 := ⟨fun k hk => H.1 k (fun q => hk (h1 k q)), fun k hk => H.2.1 k (fun q => hk (h2 k q)), fun k hk => H.2.2.1 k (fun q => hk (h2 k q)), H.2.2.2⟩
theorem Kp.sI {k : Nat} {v : Int32} (H : Kp li la P P1) (hk : k ∈ li) : Kp li la P (P1.sI k v) := ⟨fun q hq => (up1_ne (fun e => hq (by rw [e]; exact hk))).trans (H.1 q hq), H.2⟩
theorem Kp.sA {k : Nat} {v : Nat → Int32} (H : Kp li la P P1) (hk : k ∈ la) : Kp li la P (P1.sA k v) := ⟨H.1, fun q hq => (up1_ne (fun e => hq (by rw [e]; exact hk))).trans (H.2.1 q hq), H.2.2⟩
theorem Kp.sJ {k : Nat} {v : Nat → Int64} (H : Kp li la P P1) (hk : k ∈ la) : Kp li la P (P1.sJ k v) := ⟨H.1, H.2.1, fun q hq => (up1_ne (fun e => hq (by rw [e]; exact hk))).trans (H.2.2.1 q hq), H.2.2.2⟩
theorem Kp.sD {v : Nat} (H : Kp li la P P1) : Kp li la P (P1.sD v) := H
end MC
