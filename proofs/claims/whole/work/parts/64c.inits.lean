/-! ===== the constructors ===== -/
section INI
variable {Ex : State → Nat → Prop} {Q : Option Value → pz_H → Prop} {d bc bs : Nat} {h : pz_H} {a t ci x m : Nat}
def M0 (m : Nat) : pM := (fun k => if k = 27 then -1 else 0, fun _ _ => 0, fun _ _ => 0, none, m + 8)
theorem M0_ok (m : Nat) : MB m (M0 m) S0 := by
  refine ⟨rfl, fun i hi => absurd hi (Nat.not_lt_zero _), ⟨fun i hi => absurd hi (Nat.not_lt_zero _), rfl, rfl, rfl, by decide⟩, fun j _ => ⟨(by decide : (0 : Int32) &&& 255 = nI 0), fun _ => rfl, (by decide : (0 : Nat) < 256)⟩, rfl, ⟨8, 0, fun _ => 0, rfl, rfl, rfl, by decide, fun j hj => absurd hj (Nat.not_lt_zero _), rfl⟩, ⟨rfl, fun k V hV => ?_⟩, ⟨rfl, fun j hj => absurd hj (Nat.not_lt_zero _)⟩, ⟨0, rfl, Nat.le_refl _, fun i _ => ⟨false, 0, rfl, rfl, Nat.le_refl _, ?_, fun ht => ?_⟩⟩⟩
  · cases hV
  · exact Nat.zero_testBit i
  · have := Nat.zero_testBit i
    rw [show S0.ks = 0 from rfl, this] at ht
    cases ht
set_option maxHeartbeats 16000000 in
theorem i_X10 (e1 : h.1 = m + 1) (ea : h.2 m = some (aO 10 [.null, .int 0, .null, .null, .null, .null, .int 0, .null, .int 0, .int 0, .null, .int 0, .int 0, .int 0, .int 0, .null, .null, .null, .int 0, .int 0, .null, .null, .int 0, .null, .null, .null, .null, .int 0, .int 0, .null, .null, .null, .null, .int 0, .null, .null, .null, .null, .int 0, .int 0, .null, .null, .null])) (hd : 1 ≤ d) (hq : ∀ h', h'.1 = m + 27 → (∃ h0, MInv h0 h' m S0 ∧ gh h0 m = m + 8) → (∀ b, b < m → h'.2 b = h.2 b) → Q none h') : pz_V mX10_init Ex Q d 26 20000 0 [(0, .ref m)] [] h := by
  refine wX10_init_0 hd ?_
  refine mkI (t := m + 1) [.ref (m + 1), .int 0, .null, .null, .null, .null, .int 0, .null, .int 0, .int 0, .null, .int 0, .int 0, .int 0, .int 0, .null, .null, .null, .int 0, .int 0, .null, .null, .int 0, .null, .null, .null, .null, .int 0, .int 0, .null, .null, .null, .null, .int 0, .null, .null, .null, .null, .int 0, .int 0, .null, .null, .null] rfl e1 (by omega) ea (Nat.le_of_ble_eq_true rfl) (Nat.le_of_ble_eq_true rfl) (Nat.le_of_ble_eq_true rfl) (fun h1 z1 o1 c1 f1 => ?_)
  clear e1
  refine mkI (t := m + 2) [.ref (m + 1), .int 0, .ref (m + 2), .null, .null, .null, .int 0, .null, .int 0, .int 0, .null, .int 0, .int 0, .int 0, .int 0, .null, .null, .null, .int 0, .int 0, .null, .null, .int 0, .null, .null, .null, .null, .int 0, .int 0, .null, .null, .null, .null, .int 0, .null, .null, .null, .null, .int 0, .int 0, .null, .null, .null] rfl z1 (by omega) o1 (Nat.le_of_ble_eq_true rfl) (Nat.le_of_ble_eq_true rfl) (Nat.le_of_ble_eq_true rfl) (fun h2 z2 o2 c2 f2 => ?_)
  clear z1
  refine mkI (t := m + 3) [.ref (m + 1), .int 0, .ref (m + 2), .ref (m + 3), .null, .null, .int 0, .null, .int 0, .int 0, .null, .int 0, .int 0, .int 0, .int 0, .null, .null, .null, .int 0, .int 0, .null, .null, .int 0, .null, .null, .null, .null, .int 0, .int 0, .null, .null, .null, .null, .int 0, .null, .null, .null, .null, .int 0, .int 0, .null, .null, .null] rfl z2 (by omega) o2 (Nat.le_of_ble_eq_true rfl) (Nat.le_of_ble_eq_true rfl) (Nat.le_of_ble_eq_true rfl) (fun h3 z3 o3 c3 f3 => ?_)
  clear z2
  refine mkI (t := m + 4) [.ref (m + 1), .int 0, .ref (m + 2), .ref (m + 3), .ref (m + 4), .null, .int 0, .null, .int 0, .int 0, .null, .int 0, .int 0, .int 0, .int 0, .null, .null, .null, .int 0, .int 0, .null, .null, .int 0, .null, .null, .null, .null, .int 0, .int 0, .null, .null, .null, .null, .int 0, .null, .null, .null, .null, .int 0, .int 0, .null, .null, .null] rfl z3 (by omega) o3 (Nat.le_of_ble_eq_true rfl) (Nat.le_of_ble_eq_true rfl) (Nat.le_of_ble_eq_true rfl) (fun h4 z4 o4 c4 f4 => ?_)
  clear z3
  refine mkB (t := m + 5) [.ref (m + 1), .int 0, .ref (m + 2), .ref (m + 3), .ref (m + 4), .ref (m + 5), .int 0, .null, .int 0, .int 0, .null, .int 0, .int 0, .int 0, .int 0, .null, .null, .null, .int 0, .int 0, .null, .null, .int 0, .null, .null, .null, .null, .int 0, .int 0, .null, .null, .null, .null, .int 0, .null, .null, .null, .null, .int 0, .int 0, .null, .null, .null] rfl z4 (by omega) o4 (Nat.le_of_ble_eq_true rfl) (Nat.le_of_ble_eq_true rfl) (Nat.le_of_ble_eq_true rfl) (fun h5 z5 o5 c5 f5 => ?_)
  clear z4
  refine mkJ (t := m + 6) [.ref (m + 1), .int 0, .ref (m + 2), .ref (m + 3), .ref (m + 4), .ref (m + 5), .int 0, .ref (m + 6), .int 0, .int 0, .null, .int 0, .int 0, .int 0, .int 0, .null, .null, .null, .int 0, .int 0, .null, .null, .int 0, .null, .null, .null, .null, .int 0, .int 0, .null, .null, .null, .null, .int 0, .null, .null, .null, .null, .int 0, .int 0, .null, .null, .null] rfl z5 (by omega) o5 (Nat.le_of_ble_eq_true rfl) (Nat.le_of_ble_eq_true rfl) (Nat.le_of_ble_eq_true rfl) (fun h6 z6 o6 c6 f6 => ?_)
  clear z5
  refine mkI (t := m + 7) [.ref (m + 1), .int 0, .ref (m + 2), .ref (m + 3), .ref (m + 4), .ref (m + 5), .int 0, .ref (m + 6), .int 0, .int 0, .null, .int 0, .int 0, .int 0, .int 0, .ref (m + 7), .null, .null, .int 0, .int 0, .null, .null, .int 0, .null, .null, .null, .null, .int 0, .int 0, .null, .null, .null, .null, .int 0, .null, .null, .null, .null, .int 0, .int 0, .null, .null, .null] rfl z6 (by omega) o6 (Nat.le_of_ble_eq_true rfl) (Nat.le_of_ble_eq_true rfl) (Nat.le_of_ble_eq_true rfl) (fun h7 z7 o7 c7 f7 => ?_)
  clear z6
  refine mkB (t := m + 8) [.ref (m + 1), .int 0, .ref (m + 2), .ref (m + 3), .ref (m + 4), .ref (m + 5), .int 0, .ref (m + 6), .int 0, .int 0, .null, .int 0, .int 0, .int 0, .int 0, .ref (m + 7), .ref (m + 8), .null, .int 0, .int 0, .null, .null, .int 0, .null, .null, .null, .null, .int 0, .int 0, .null, .null, .null, .null, .int 0, .null, .null, .null, .null, .int 0, .int 0, .null, .null, .null] rfl z7 (by omega) o7 (Nat.le_of_ble_eq_true rfl) (Nat.le_of_ble_eq_true rfl) (Nat.le_of_ble_eq_true rfl) (fun h8 z8 o8 c8 f8 => ?_)
  clear z7
  refine mkB (t := m + 9) [.ref (m + 1), .int 0, .ref (m + 2), .ref (m + 3), .ref (m + 4), .ref (m + 5), .int 0, .ref (m + 6), .int 0, .int 0, .null, .int 0, .int 0, .int 0, .int 0, .ref (m + 7), .ref (m + 8), .ref (m + 9), .int 0, .int 0, .null, .null, .int 0, .null, .null, .null, .null, .int 0, .int 0, .null, .null, .null, .null, .int 0, .null, .null, .null, .null, .int 0, .int 0, .null, .null, .null] rfl z8 (by omega) o8 (Nat.le_of_ble_eq_true rfl) (Nat.le_of_ble_eq_true rfl) (Nat.le_of_ble_eq_true rfl) (fun h9 z9 o9 c9 f9 => ?_)
  clear z8
  refine mkI (t := m + 10) [.ref (m + 1), .int 0, .ref (m + 2), .ref (m + 3), .ref (m + 4), .ref (m + 5), .int 0, .ref (m + 6), .int 0, .int 0, .null, .int 0, .int 0, .int 0, .int 0, .ref (m + 7), .ref (m + 8), .ref (m + 9), .int 0, .int 0, .ref (m + 10), .null, .int 0, .null, .null, .null, .null, .int 0, .int 0, .null, .null, .null, .null, .int 0, .null, .null, .null, .null, .int 0, .int 0, .null, .null, .null] rfl z9 (by omega) o9 (Nat.le_of_ble_eq_true rfl) (Nat.le_of_ble_eq_true rfl) (Nat.le_of_ble_eq_true rfl) (fun h10 z10 o10 c10 f10 => ?_)
  clear z9
  refine mkI (t := m + 11) [.ref (m + 1), .int 0, .ref (m + 2), .ref (m + 3), .ref (m + 4), .ref (m + 5), .int 0, .ref (m + 6), .int 0, .int 0, .null, .int 0, .int 0, .int 0, .int 0, .ref (m + 7), .ref (m + 8), .ref (m + 9), .int 0, .int 0, .ref (m + 10), .ref (m + 11), .int 0, .null, .null, .null, .null, .int 0, .int 0, .null, .null, .null, .null, .int 0, .null, .null, .null, .null, .int 0, .int 0, .null, .null, .null] rfl z10 (by omega) o10 (Nat.le_of_ble_eq_true rfl) (Nat.le_of_ble_eq_true rfl) (Nat.le_of_ble_eq_true rfl) (fun h11 z11 o11 c11 f11 => ?_)
  clear z10
  refine mkI (t := m + 12) [.ref (m + 1), .int 0, .ref (m + 2), .ref (m + 3), .ref (m + 4), .ref (m + 5), .int 0, .ref (m + 6), .int 0, .int 0, .null, .int 0, .int 0, .int 0, .int 0, .ref (m + 7), .ref (m + 8), .ref (m + 9), .int 0, .int 0, .ref (m + 10), .ref (m + 11), .int 0, .ref (m + 12), .null, .null, .null, .int 0, .int 0, .null, .null, .null, .null, .int 0, .null, .null, .null, .null, .int 0, .int 0, .null, .null, .null] rfl z11 (by omega) o11 (Nat.le_of_ble_eq_true rfl) (Nat.le_of_ble_eq_true rfl) (Nat.le_of_ble_eq_true rfl) (fun h12 z12 o12 c12 f12 => ?_)
  clear z11
  refine mkI (t := m + 13) [.ref (m + 1), .int 0, .ref (m + 2), .ref (m + 3), .ref (m + 4), .ref (m + 5), .int 0, .ref (m + 6), .int 0, .int 0, .null, .int 0, .int 0, .int 0, .int 0, .ref (m + 7), .ref (m + 8), .ref (m + 9), .int 0, .int 0, .ref (m + 10), .ref (m + 11), .int 0, .ref (m + 12), .ref (m + 13), .null, .null, .int 0, .int 0, .null, .null, .null, .null, .int 0, .null, .null, .null, .null, .int 0, .int 0, .null, .null, .null] rfl z12 (by omega) o12 (Nat.le_of_ble_eq_true rfl) (Nat.le_of_ble_eq_true rfl) (Nat.le_of_ble_eq_true rfl) (fun h13 z13 o13 c13 f13 => ?_)
  clear z12
  refine mkI (t := m + 14) [.ref (m + 1), .int 0, .ref (m + 2), .ref (m + 3), .ref (m + 4), .ref (m + 5), .int 0, .ref (m + 6), .int 0, .int 0, .null, .int 0, .int 0, .int 0, .int 0, .ref (m + 7), .ref (m + 8), .ref (m + 9), .int 0, .int 0, .ref (m + 10), .ref (m + 11), .int 0, .ref (m + 12), .ref (m + 13), .ref (m + 14), .null, .int 0, .int 0, .null, .null, .null, .null, .int 0, .null, .null, .null, .null, .int 0, .int 0, .null, .null, .null] rfl z13 (by omega) o13 (Nat.le_of_ble_eq_true rfl) (Nat.le_of_ble_eq_true rfl) (Nat.le_of_ble_eq_true rfl) (fun h14 z14 o14 c14 f14 => ?_)
  clear z13
  refine mkI (t := m + 15) [.ref (m + 1), .int 0, .ref (m + 2), .ref (m + 3), .ref (m + 4), .ref (m + 5), .int 0, .ref (m + 6), .int 0, .int 0, .null, .int 0, .int 0, .int 0, .int 0, .ref (m + 7), .ref (m + 8), .ref (m + 9), .int 0, .int 0, .ref (m + 10), .ref (m + 11), .int 0, .ref (m + 12), .ref (m + 13), .ref (m + 14), .ref (m + 15), .int 0, .int 0, .null, .null, .null, .null, .int 0, .null, .null, .null, .null, .int 0, .int 0, .null, .null, .null] rfl z14 (by omega) o14 (Nat.le_of_ble_eq_true rfl) (Nat.le_of_ble_eq_true rfl) (Nat.le_of_ble_eq_true rfl) (fun h15 z15 o15 c15 f15 => ?_)
  clear z14
  refine ⟨_, o15, Nat.le_of_ble_eq_true rfl, ?_⟩
  generalize hg16 : pz_put h15 m _ = h16
  have z16 : h16.1 = m + 16 := by rw [← hg16]; exact z15
  clear z15
  have o16 : h16.2 m = some (aO 10 [.ref (m + 1), .int 0, .ref (m + 2), .ref (m + 3), .ref (m + 4), .ref (m + 5), .int 0, .ref (m + 6), .int 0, .int 0, .null, .int 0, .int 0, .int 0, .int 0, .ref (m + 7), .ref (m + 8), .ref (m + 9), .int 0, .int 0, .ref (m + 10), .ref (m + 11), .int 0, .ref (m + 12), .ref (m + 13), .ref (m + 14), .ref (m + 15), .int (-1), .int 0, .null, .null, .null, .null, .int 0, .null, .null, .null, .null, .int 0, .int 0, .null, .null, .null]) := by rw [← hg16]; exact pz_set_eq _ _ _
  have f16 : ∀ b, b < m + 16 → b ≠ m → h16.2 b = h15.2 b := fun b _ k2 => by rw [← hg16]; exact pz_set_ne k2
  refine mkI (t := m + 16) [.ref (m + 1), .int 0, .ref (m + 2), .ref (m + 3), .ref (m + 4), .ref (m + 5), .int 0, .ref (m + 6), .int 0, .int 0, .null, .int 0, .int 0, .int 0, .int 0, .ref (m + 7), .ref (m + 8), .ref (m + 9), .int 0, .int 0, .ref (m + 10), .ref (m + 11), .int 0, .ref (m + 12), .ref (m + 13), .ref (m + 14), .ref (m + 15), .int (-1), .int 0, .ref (m + 16), .null, .null, .null, .int 0, .null, .null, .null, .null, .int 0, .int 0, .null, .null, .null] rfl z16 (by omega) o16 (Nat.le_of_ble_eq_true rfl) (Nat.le_of_ble_eq_true rfl) (Nat.le_of_ble_eq_true rfl) (fun h17 z17 o17 c17 f17 => ?_)
  clear z16
  refine mkI (t := m + 17) [.ref (m + 1), .int 0, .ref (m + 2), .ref (m + 3), .ref (m + 4), .ref (m + 5), .int 0, .ref (m + 6), .int 0, .int 0, .null, .int 0, .int 0, .int 0, .int 0, .ref (m + 7), .ref (m + 8), .ref (m + 9), .int 0, .int 0, .ref (m + 10), .ref (m + 11), .int 0, .ref (m + 12), .ref (m + 13), .ref (m + 14), .ref (m + 15), .int (-1), .int 0, .ref (m + 16), .ref (m + 17), .null, .null, .int 0, .null, .null, .null, .null, .int 0, .int 0, .null, .null, .null] rfl z17 (by omega) o17 (Nat.le_of_ble_eq_true rfl) (Nat.le_of_ble_eq_true rfl) (Nat.le_of_ble_eq_true rfl) (fun h18 z18 o18 c18 f18 => ?_)
  clear z17
  refine mkI (t := m + 18) [.ref (m + 1), .int 0, .ref (m + 2), .ref (m + 3), .ref (m + 4), .ref (m + 5), .int 0, .ref (m + 6), .int 0, .int 0, .null, .int 0, .int 0, .int 0, .int 0, .ref (m + 7), .ref (m + 8), .ref (m + 9), .int 0, .int 0, .ref (m + 10), .ref (m + 11), .int 0, .ref (m + 12), .ref (m + 13), .ref (m + 14), .ref (m + 15), .int (-1), .int 0, .ref (m + 16), .ref (m + 17), .ref (m + 18), .null, .int 0, .null, .null, .null, .null, .int 0, .int 0, .null, .null, .null] rfl z18 (by omega) o18 (Nat.le_of_ble_eq_true rfl) (Nat.le_of_ble_eq_true rfl) (Nat.le_of_ble_eq_true rfl) (fun h19 z19 o19 c19 f19 => ?_)
  clear z18
  refine mkI (t := m + 19) [.ref (m + 1), .int 0, .ref (m + 2), .ref (m + 3), .ref (m + 4), .ref (m + 5), .int 0, .ref (m + 6), .int 0, .int 0, .null, .int 0, .int 0, .int 0, .int 0, .ref (m + 7), .ref (m + 8), .ref (m + 9), .int 0, .int 0, .ref (m + 10), .ref (m + 11), .int 0, .ref (m + 12), .ref (m + 13), .ref (m + 14), .ref (m + 15), .int (-1), .int 0, .ref (m + 16), .ref (m + 17), .ref (m + 18), .ref (m + 19), .int 0, .null, .null, .null, .null, .int 0, .int 0, .null, .null, .null] rfl z19 (by omega) o19 (Nat.le_of_ble_eq_true rfl) (Nat.le_of_ble_eq_true rfl) (Nat.le_of_ble_eq_true rfl) (fun h20 z20 o20 c20 f20 => ?_)
  clear z19
  refine mkI (t := m + 20) [.ref (m + 1), .int 0, .ref (m + 2), .ref (m + 3), .ref (m + 4), .ref (m + 5), .int 0, .ref (m + 6), .int 0, .int 0, .null, .int 0, .int 0, .int 0, .int 0, .ref (m + 7), .ref (m + 8), .ref (m + 9), .int 0, .int 0, .ref (m + 10), .ref (m + 11), .int 0, .ref (m + 12), .ref (m + 13), .ref (m + 14), .ref (m + 15), .int (-1), .int 0, .ref (m + 16), .ref (m + 17), .ref (m + 18), .ref (m + 19), .int 0, .ref (m + 20), .null, .null, .null, .int 0, .int 0, .null, .null, .null] rfl z20 (by omega) o20 (Nat.le_of_ble_eq_true rfl) (Nat.le_of_ble_eq_true rfl) (Nat.le_of_ble_eq_true rfl) (fun h21 z21 o21 c21 f21 => ?_)
  clear z20
  refine mkI (t := m + 21) [.ref (m + 1), .int 0, .ref (m + 2), .ref (m + 3), .ref (m + 4), .ref (m + 5), .int 0, .ref (m + 6), .int 0, .int 0, .null, .int 0, .int 0, .int 0, .int 0, .ref (m + 7), .ref (m + 8), .ref (m + 9), .int 0, .int 0, .ref (m + 10), .ref (m + 11), .int 0, .ref (m + 12), .ref (m + 13), .ref (m + 14), .ref (m + 15), .int (-1), .int 0, .ref (m + 16), .ref (m + 17), .ref (m + 18), .ref (m + 19), .int 0, .ref (m + 20), .ref (m + 21), .null, .null, .int 0, .int 0, .null, .null, .null] rfl z21 (by omega) o21 (Nat.le_of_ble_eq_true rfl) (Nat.le_of_ble_eq_true rfl) (Nat.le_of_ble_eq_true rfl) (fun h22 z22 o22 c22 f22 => ?_)
  clear z21
  refine mkJ (t := m + 22) [.ref (m + 1), .int 0, .ref (m + 2), .ref (m + 3), .ref (m + 4), .ref (m + 5), .int 0, .ref (m + 6), .int 0, .int 0, .null, .int 0, .int 0, .int 0, .int 0, .ref (m + 7), .ref (m + 8), .ref (m + 9), .int 0, .int 0, .ref (m + 10), .ref (m + 11), .int 0, .ref (m + 12), .ref (m + 13), .ref (m + 14), .ref (m + 15), .int (-1), .int 0, .ref (m + 16), .ref (m + 17), .ref (m + 18), .ref (m + 19), .int 0, .ref (m + 20), .ref (m + 21), .ref (m + 22), .null, .int 0, .int 0, .null, .null, .null] rfl z22 (by omega) o22 (Nat.le_of_ble_eq_true rfl) (Nat.le_of_ble_eq_true rfl) (Nat.le_of_ble_eq_true rfl) (fun h23 z23 o23 c23 f23 => ?_)
  clear z22
  refine mkJ (t := m + 23) [.ref (m + 1), .int 0, .ref (m + 2), .ref (m + 3), .ref (m + 4), .ref (m + 5), .int 0, .ref (m + 6), .int 0, .int 0, .null, .int 0, .int 0, .int 0, .int 0, .ref (m + 7), .ref (m + 8), .ref (m + 9), .int 0, .int 0, .ref (m + 10), .ref (m + 11), .int 0, .ref (m + 12), .ref (m + 13), .ref (m + 14), .ref (m + 15), .int (-1), .int 0, .ref (m + 16), .ref (m + 17), .ref (m + 18), .ref (m + 19), .int 0, .ref (m + 20), .ref (m + 21), .ref (m + 22), .ref (m + 23), .int 0, .int 0, .null, .null, .null] rfl z23 (by omega) o23 (Nat.le_of_ble_eq_true rfl) (Nat.le_of_ble_eq_true rfl) (Nat.le_of_ble_eq_true rfl) (fun h24 z24 o24 c24 f24 => ?_)
  clear z23
  refine mkI (t := m + 24) [.ref (m + 1), .int 0, .ref (m + 2), .ref (m + 3), .ref (m + 4), .ref (m + 5), .int 0, .ref (m + 6), .int 0, .int 0, .null, .int 0, .int 0, .int 0, .int 0, .ref (m + 7), .ref (m + 8), .ref (m + 9), .int 0, .int 0, .ref (m + 10), .ref (m + 11), .int 0, .ref (m + 12), .ref (m + 13), .ref (m + 14), .ref (m + 15), .int (-1), .int 0, .ref (m + 16), .ref (m + 17), .ref (m + 18), .ref (m + 19), .int 0, .ref (m + 20), .ref (m + 21), .ref (m + 22), .ref (m + 23), .int 0, .int 0, .ref (m + 24), .null, .null] rfl z24 (by omega) o24 (Nat.le_of_ble_eq_true rfl) (Nat.le_of_ble_eq_true rfl) (Nat.le_of_ble_eq_true rfl) (fun h25 z25 o25 c25 f25 => ?_)
  clear z24
  refine mkZ (t := m + 25) [.ref (m + 1), .int 0, .ref (m + 2), .ref (m + 3), .ref (m + 4), .ref (m + 5), .int 0, .ref (m + 6), .int 0, .int 0, .null, .int 0, .int 0, .int 0, .int 0, .ref (m + 7), .ref (m + 8), .ref (m + 9), .int 0, .int 0, .ref (m + 10), .ref (m + 11), .int 0, .ref (m + 12), .ref (m + 13), .ref (m + 14), .ref (m + 15), .int (-1), .int 0, .ref (m + 16), .ref (m + 17), .ref (m + 18), .ref (m + 19), .int 0, .ref (m + 20), .ref (m + 21), .ref (m + 22), .ref (m + 23), .int 0, .int 0, .ref (m + 24), .ref (m + 25), .null] rfl z25 (by omega) o25 (Nat.le_of_ble_eq_true rfl) (Nat.le_of_ble_eq_true rfl) (Nat.le_of_ble_eq_true rfl) (fun h26 z26 o26 c26 f26 => ?_)
  clear z25
  refine mkI (t := m + 26) [.ref (m + 1), .int 0, .ref (m + 2), .ref (m + 3), .ref (m + 4), .ref (m + 5), .int 0, .ref (m + 6), .int 0, .int 0, .null, .int 0, .int 0, .int 0, .int 0, .ref (m + 7), .ref (m + 8), .ref (m + 9), .int 0, .int 0, .ref (m + 10), .ref (m + 11), .int 0, .ref (m + 12), .ref (m + 13), .ref (m + 14), .ref (m + 15), .int (-1), .int 0, .ref (m + 16), .ref (m + 17), .ref (m + 18), .ref (m + 19), .int 0, .ref (m + 20), .ref (m + 21), .ref (m + 22), .ref (m + 23), .int 0, .int 0, .ref (m + 24), .ref (m + 25), .ref (m + 26)] rfl z26 (by omega) o26 (Nat.le_of_ble_eq_true rfl) (Nat.le_of_ble_eq_true rfl) (Nat.le_of_ble_eq_true rfl) (fun h27 z27 o27 c27 f27 => ?_)
  clear z26
  have F27 : ∀ b, b < m + 27 → b ≠ m → h27.2 b = h27.2 b := fun _ _ _ => rfl
  have F26 : ∀ b, b < m + 26 → b ≠ m → h27.2 b = h26.2 b := fun b q1 q2 => (F27 b (by omega) q2).trans (f27 b (by omega) q2)
  have F25 : ∀ b, b < m + 25 → b ≠ m → h27.2 b = h25.2 b := fun b q1 q2 => (F26 b (by omega) q2).trans (f26 b (by omega) q2)
  have F24 : ∀ b, b < m + 24 → b ≠ m → h27.2 b = h24.2 b := fun b q1 q2 => (F25 b (by omega) q2).trans (f25 b (by omega) q2)
  have F23 : ∀ b, b < m + 23 → b ≠ m → h27.2 b = h23.2 b := fun b q1 q2 => (F24 b (by omega) q2).trans (f24 b (by omega) q2)
  have F22 : ∀ b, b < m + 22 → b ≠ m → h27.2 b = h22.2 b := fun b q1 q2 => (F23 b (by omega) q2).trans (f23 b (by omega) q2)
  have F21 : ∀ b, b < m + 21 → b ≠ m → h27.2 b = h21.2 b := fun b q1 q2 => (F22 b (by omega) q2).trans (f22 b (by omega) q2)
  have F20 : ∀ b, b < m + 20 → b ≠ m → h27.2 b = h20.2 b := fun b q1 q2 => (F21 b (by omega) q2).trans (f21 b (by omega) q2)
  have F19 : ∀ b, b < m + 19 → b ≠ m → h27.2 b = h19.2 b := fun b q1 q2 => (F20 b (by omega) q2).trans (f20 b (by omega) q2)
  have F18 : ∀ b, b < m + 18 → b ≠ m → h27.2 b = h18.2 b := fun b q1 q2 => (F19 b (by omega) q2).trans (f19 b (by omega) q2)
  have F17 : ∀ b, b < m + 17 → b ≠ m → h27.2 b = h17.2 b := fun b q1 q2 => (F18 b (by omega) q2).trans (f18 b (by omega) q2)
  have F16 : ∀ b, b < m + 16 → b ≠ m → h27.2 b = h16.2 b := fun b q1 q2 => (F17 b (by omega) q2).trans (f17 b (by omega) q2)
  have F15 : ∀ b, b < m + 16 → b ≠ m → h27.2 b = h15.2 b := fun b q1 q2 => (F16 b (by omega) q2).trans (f16 b (by omega) q2)
  have F14 : ∀ b, b < m + 15 → b ≠ m → h27.2 b = h14.2 b := fun b q1 q2 => (F15 b (by omega) q2).trans (f15 b (by omega) q2)
  have F13 : ∀ b, b < m + 14 → b ≠ m → h27.2 b = h13.2 b := fun b q1 q2 => (F14 b (by omega) q2).trans (f14 b (by omega) q2)
  have F12 : ∀ b, b < m + 13 → b ≠ m → h27.2 b = h12.2 b := fun b q1 q2 => (F13 b (by omega) q2).trans (f13 b (by omega) q2)
  have F11 : ∀ b, b < m + 12 → b ≠ m → h27.2 b = h11.2 b := fun b q1 q2 => (F12 b (by omega) q2).trans (f12 b (by omega) q2)
  have F10 : ∀ b, b < m + 11 → b ≠ m → h27.2 b = h10.2 b := fun b q1 q2 => (F11 b (by omega) q2).trans (f11 b (by omega) q2)
  have F9 : ∀ b, b < m + 10 → b ≠ m → h27.2 b = h9.2 b := fun b q1 q2 => (F10 b (by omega) q2).trans (f10 b (by omega) q2)
  have F8 : ∀ b, b < m + 9 → b ≠ m → h27.2 b = h8.2 b := fun b q1 q2 => (F9 b (by omega) q2).trans (f9 b (by omega) q2)
  have F7 : ∀ b, b < m + 8 → b ≠ m → h27.2 b = h7.2 b := fun b q1 q2 => (F8 b (by omega) q2).trans (f8 b (by omega) q2)
  have F6 : ∀ b, b < m + 7 → b ≠ m → h27.2 b = h6.2 b := fun b q1 q2 => (F7 b (by omega) q2).trans (f7 b (by omega) q2)
  have F5 : ∀ b, b < m + 6 → b ≠ m → h27.2 b = h5.2 b := fun b q1 q2 => (F6 b (by omega) q2).trans (f6 b (by omega) q2)
  have F4 : ∀ b, b < m + 5 → b ≠ m → h27.2 b = h4.2 b := fun b q1 q2 => (F5 b (by omega) q2).trans (f5 b (by omega) q2)
  have F3 : ∀ b, b < m + 4 → b ≠ m → h27.2 b = h3.2 b := fun b q1 q2 => (F4 b (by omega) q2).trans (f4 b (by omega) q2)
  have F2 : ∀ b, b < m + 3 → b ≠ m → h27.2 b = h2.2 b := fun b q1 q2 => (F3 b (by omega) q2).trans (f3 b (by omega) q2)
  have F1 : ∀ b, b < m + 2 → b ≠ m → h27.2 b = h1.2 b := fun b q1 q2 => (F2 b (by omega) q2).trans (f2 b (by omega) q2)
  have F0 : ∀ b, b < m + 1 → b ≠ m → h27.2 b = h.2 b := fun b q1 q2 => (F1 b (by omega) q2).trans (f1 b (by omega) q2)
  refine hq h27 z27 ⟨ghp h27 m (m + 8), ⟨0, M0 m, ⟨⟨rfl, fun b hb => (pz_set_ne (by omega)).symm⟩, o27, fun j j1 j2 => ?_⟩, M0_ok m, ⟨rfl, (gh_ghp _ _ _).symm⟩, ⟨rfl, fun i hi => absurd hi (Nat.not_lt_zero _)⟩, rfl⟩, gh_ghp _ _ _⟩ (fun b q => F0 b (by omega) (by omega))
  match j, j1, j2 with
  | 1, _, _ => exact (F1 _ (by omega) (by omega)).trans c1
  | 2, _, _ => exact (F2 _ (by omega) (by omega)).trans c2
  | 3, _, _ => exact (F3 _ (by omega) (by omega)).trans c3
  | 4, _, _ => exact (F4 _ (by omega) (by omega)).trans c4
  | 5, _, _ => exact (F5 _ (by omega) (by omega)).trans c5
  | 6, _, _ => exact (F6 _ (by omega) (by omega)).trans c6
  | 7, _, _ => exact (F7 _ (by omega) (by omega)).trans c7
  | 8, _, _ => exact (F8 _ (by omega) (by omega)).trans c8
  | 9, _, _ => exact (F9 _ (by omega) (by omega)).trans c9
  | 10, _, _ => exact (F10 _ (by omega) (by omega)).trans c10
  | 11, _, _ => exact (F11 _ (by omega) (by omega)).trans c11
  | 12, _, _ => exact (F12 _ (by omega) (by omega)).trans c12
  | 13, _, _ => exact (F13 _ (by omega) (by omega)).trans c13
  | 14, _, _ => exact (F14 _ (by omega) (by omega)).trans c14
  | 15, _, _ => exact (F15 _ (by omega) (by omega)).trans c15
  | 16, _, _ => exact (F17 _ (by omega) (by omega)).trans c17
  | 17, _, _ => exact (F18 _ (by omega) (by omega)).trans c18
  | 18, _, _ => exact (F19 _ (by omega) (by omega)).trans c19
  | 19, _, _ => exact (F20 _ (by omega) (by omega)).trans c20
  | 20, _, _ => exact (F21 _ (by omega) (by omega)).trans c21
  | 21, _, _ => exact (F22 _ (by omega) (by omega)).trans c22
  | 22, _, _ => exact (F23 _ (by omega) (by omega)).trans c23
  | 23, _, _ => exact (F24 _ (by omega) (by omega)).trans c24
  | 24, _, _ => exact (F25 _ (by omega) (by omega)).trans c25
  | 25, _, _ => exact (F26 _ (by omega) (by omega)).trans c26
  | 26, _, _ => exact (F27 _ (by omega) (by omega)).trans c27
  | j + 27, _, j2 => exact absurd j2 (by omega)
end INI
