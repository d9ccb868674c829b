/-! ===== the constructors ===== -/
section INI
variable {Ex : State → Nat → Prop} {Q : Option Value → pz_H → Prop} {d bc bs : Nat} {h : pz_H} {a t ci x m : Nat}
def S0 : pS := (0, (fun _ => 0), (fun _ => 0), W0, (fun _ => 0), 0, ((fun _ => 0), (fun _ => 0), (fun _ => 0), 0), [], fun _ => W0, 0, rv0, [])
theorem S0_ok : SOk S0 := by
  have hU : ∀ V, V ∈ S0.U → WGood S0.n S0.br S0.W.lk V := fun V hV => by cases hV
  refine ⟨by decide, by decide, ⟨W0_ok, fun i hi => absurd hi (Nat.not_lt_zero _), by decide, fun i hi => absurd hi (Nat.not_lt_zero _)⟩, ⟨by decide, fun j hj => absurd hj (Nat.not_lt_zero _)⟩, fun i hi => absurd hi (Nat.not_lt_zero _), by decide, hU, fun i _ ht => ?_, by decide, by decide⟩
  have : Nat.testBit 0 i = false := Nat.zero_testBit i
  rw [show S0.ks = 0 from rfl, this] at ht
  cases ht
theorem PsT.mvP {h' : pz_H} (H : PsT h a) (e : ∀ c, a ≤ c → c < a + 74 → h'.2 c = h.2 c) : PsT h' a := by
  obtain ⟨g0, g, g1, g2⟩ := H
  exact ⟨(e a (by omega) (by omega)).trans g0, g, (e _ (by omega) (by omega)).trans g1, fun j hj => ⟨(g2 j hj).1, (g2 j hj).2.mv (fun c k1 k2 => e c (by omega) (by omega))⟩⟩
set_option maxHeartbeats 16000000 in
theorem i_X9 (e1 : h.1 = x + 1) (ea : h.2 x = some (aO 9 [.null, .null, .null, .null, .null, .null, .null, .null, .null, .null, .null, .null, .null, .null, .null, .int 0, .int 0])) (hd : 3 ≤ d) (hq : ∀ h', h'.1 = x + 132 → (∀ w : pz_H, (∀ b, b < x + 132 → w.2 b = h'.2 b) → CInv w x S0) → (∀ b, b < x → h'.2 b = h.2 b) → Q none h') : pz_V mX9_init Ex Q d 131 2000 0 [(0, .ref x)] [] h := by
  refine wX9_init_0 hd ?_
  refine mkO (fun q => Txt q (x + 1) (fun _ => 0) 0) (t := x + 1) [.ref (x + 1), .null, .null, .null, .null, .null, .null, .null, .null, .null, .null, .null, .null, .null, .null, .int 0, .int 0] rfl e1 (by omega) ea (Nat.le_of_ble_eq_true rfl) (Nat.le_of_ble_eq_true rfl) (Nat.le_of_ble_eq_true rfl) (Nat.le_of_ble_eq_true rfl) (Nat.le_of_ble_eq_true rfl) (fun h2 Q y1 y2 y3 => i_X6 y1 y2 (Nat.le_refl _) (Nat.le_refl _) (Nat.le_refl _) y3) (fun h' h'' H e => H.mv (fun c k1 k2 => e c (by omega))) (fun h1 z1 o1 c1 f1 => ?_)
  clear e1
  refine mkO (fun q => Row q (x + 3) (fun _ => 0) 0) (t := x + 3) [.ref (x + 1), .ref (x + 3), .null, .null, .null, .null, .null, .null, .null, .null, .null, .null, .null, .null, .null, .int 0, .int 0] rfl z1 (by omega) o1 (Nat.le_of_ble_eq_true rfl) (Nat.le_of_ble_eq_true rfl) (Nat.le_of_ble_eq_true rfl) (Nat.le_of_ble_eq_true rfl) (Nat.le_of_ble_eq_true rfl) (fun h2 Q y1 y2 y3 => i_X4 y1 y2 (Nat.le_refl _) (Nat.le_refl _) (Nat.le_refl _) y3) (fun h' h'' H e => H.mv (fun c k1 k2 => e c (by omega))) (fun h2 z2 o2 c2 f2 => ?_)
  clear z1
  refine mkO (fun q => Lnd q (x + 5) (fun _ => 0) (fun _ => 0) (fun _ => 0) (fun _ => 0) 0) (t := x + 5) [.ref (x + 1), .ref (x + 3), .ref (x + 5), .null, .null, .null, .null, .null, .null, .null, .null, .null, .null, .null, .null, .int 0, .int 0] rfl z2 (by omega) o2 (Nat.le_of_ble_eq_true rfl) (Nat.le_of_ble_eq_true rfl) (Nat.le_of_ble_eq_true rfl) (Nat.le_of_ble_eq_true rfl) (Nat.le_of_ble_eq_true rfl) (fun h2 Q y1 y2 y3 => i_X1 y1 y2 (Nat.le_refl _) (Nat.le_refl _) (Nat.le_refl _) y3) (fun h' h'' H e => H.mv (fun c k1 k2 => e c (by omega))) (fun h3 z3 o3 c3 f3 => ?_)
  clear z2
  refine mkO (fun q => WatT q (x + 10) W0) (t := x + 10) [.ref (x + 1), .ref (x + 3), .ref (x + 5), .ref (x + 10), .null, .null, .null, .null, .null, .null, .null, .null, .null, .null, .null, .int 0, .int 0] rfl z3 (by omega) o3 (Nat.le_of_ble_eq_true rfl) (Nat.le_of_ble_eq_true rfl) (Nat.le_of_ble_eq_true rfl) (Nat.le_of_ble_eq_true rfl) (Nat.le_of_ble_eq_true rfl) (fun h2 Q y1 y2 y3 => i_X8 y1 y2 (Nat.le_refl _) (Nat.le_refl _) (Nat.le_refl _) y3) (fun h' h'' H e => H.mv (fun c k1 k2 => e c (by omega))) (fun h4 z4 o4 c4 f4 => ?_)
  clear z3
  refine mkO (fun q => WatT q (x + 16) W0) (t := x + 16) [.ref (x + 1), .ref (x + 3), .ref (x + 5), .ref (x + 10), .ref (x + 16), .null, .null, .null, .null, .null, .null, .null, .null, .null, .null, .int 0, .int 0] rfl z4 (by omega) o4 (Nat.le_of_ble_eq_true rfl) (Nat.le_of_ble_eq_true rfl) (Nat.le_of_ble_eq_true rfl) (Nat.le_of_ble_eq_true rfl) (Nat.le_of_ble_eq_true rfl) (fun h2 Q y1 y2 y3 => i_X8 y1 y2 (Nat.le_refl _) (Nat.le_refl _) (Nat.le_refl _) y3) (fun h' h'' H e => H.mv (fun c k1 k2 => e c (by omega))) (fun h5 z5 o5 c5 f5 => ?_)
  clear z4
  refine mkO (fun q => WatT q (x + 22) W0) (t := x + 22) [.ref (x + 1), .ref (x + 3), .ref (x + 5), .ref (x + 10), .ref (x + 16), .ref (x + 22), .null, .null, .null, .null, .null, .null, .null, .null, .null, .int 0, .int 0] rfl z5 (by omega) o5 (Nat.le_of_ble_eq_true rfl) (Nat.le_of_ble_eq_true rfl) (Nat.le_of_ble_eq_true rfl) (Nat.le_of_ble_eq_true rfl) (Nat.le_of_ble_eq_true rfl) (fun h2 Q y1 y2 y3 => i_X8 y1 y2 (Nat.le_refl _) (Nat.le_refl _) (Nat.le_refl _) y3) (fun h' h'' H e => H.mv (fun c k1 k2 => e c (by omega))) (fun h6 z6 o6 c6 f6 => ?_)
  clear z5
  refine mkO (fun q => PsT q (x + 28)) (t := x + 28) [.ref (x + 1), .ref (x + 3), .ref (x + 5), .ref (x + 10), .ref (x + 16), .ref (x + 22), .ref (x + 28), .null, .null, .null, .null, .null, .null, .null, .null, .int 0, .int 0] rfl z6 (by omega) o6 (Nat.le_of_ble_eq_true rfl) (Nat.le_of_ble_eq_true rfl) (Nat.le_of_ble_eq_true rfl) (Nat.le_of_ble_eq_true rfl) (Nat.le_of_ble_eq_true rfl) (fun h2 Q y1 y2 y3 => i_X2 y1 y2 (Nat.le_refl _) (Nat.le_refl _) (Nat.le_refl _) y3) (fun h' h'' H e => H.mvP (fun c k1 k2 => e c (by omega))) (fun h7 z7 o7 c7 f7 => ?_)
  clear z6
  refine mkO (fun q => Rng q (x + 102) (fun _ => 0) (fun _ => 0) (fun _ => 0) 0) (t := x + 102) [.ref (x + 1), .ref (x + 3), .ref (x + 5), .ref (x + 10), .ref (x + 16), .ref (x + 22), .ref (x + 28), .ref (x + 102), .null, .null, .null, .null, .null, .null, .null, .int 0, .int 0] rfl z7 (by omega) o7 (Nat.le_of_ble_eq_true rfl) (Nat.le_of_ble_eq_true rfl) (Nat.le_of_ble_eq_true rfl) (Nat.le_of_ble_eq_true rfl) (Nat.le_of_ble_eq_true rfl) (fun h2 Q y1 y2 y3 => i_X3 y1 y2 (Nat.le_refl _) (Nat.le_refl _) (Nat.le_refl _) y3) (fun h' h'' H e => H.mv (fun c k1 k2 => e c (by omega))) (fun h8 z8 o8 c8 f8 => ?_)
  clear z7
  refine mkO (fun q => Dck q (x + 106) (fun _ => 0) (fun _ => 0) 0) (t := x + 106) [.ref (x + 1), .ref (x + 3), .ref (x + 5), .ref (x + 10), .ref (x + 16), .ref (x + 22), .ref (x + 28), .ref (x + 102), .ref (x + 106), .null, .null, .null, .null, .null, .null, .int 0, .int 0] rfl z8 (by omega) o8 (Nat.le_of_ble_eq_true rfl) (Nat.le_of_ble_eq_true rfl) (Nat.le_of_ble_eq_true rfl) (Nat.le_of_ble_eq_true rfl) (Nat.le_of_ble_eq_true rfl) (fun h2 Q y1 y2 y3 => i_X0 y1 y2 (Nat.le_refl _) (Nat.le_refl _) (Nat.le_refl _) y3) (fun h' h'' H e => H.mv (fun c k1 k2 => e c (by omega))) (fun h9 z9 o9 c9 f9 => ?_)
  clear z8
  refine mkWt (t := x + 109) [.ref (x + 1), .ref (x + 3), .ref (x + 5), .ref (x + 10), .ref (x + 16), .ref (x + 22), .ref (x + 28), .ref (x + 102), .ref (x + 106), .ref (x + 109), .null, .null, .null, .null, .null, .int 0, .int 0] rfl z9 (by omega) o9 (Nat.le_of_ble_eq_true rfl) (Nat.le_of_ble_eq_true rfl) (Nat.le_of_ble_eq_true rfl) (fun h10 z10 o10 c10 f10 => ?_)
  clear z9
  refine mkI (t := x + 110) [.ref (x + 1), .ref (x + 3), .ref (x + 5), .ref (x + 10), .ref (x + 16), .ref (x + 22), .ref (x + 28), .ref (x + 102), .ref (x + 106), .ref (x + 109), .ref (x + 110), .null, .null, .null, .null, .int 0, .int 0] rfl z10 (by omega) o10 (Nat.le_of_ble_eq_true rfl) (Nat.le_of_ble_eq_true rfl) (Nat.le_of_ble_eq_true rfl) (fun h11 z11 o11 c11 f11 => ?_)
  clear z10
  refine mkI (t := x + 111) [.ref (x + 1), .ref (x + 3), .ref (x + 5), .ref (x + 10), .ref (x + 16), .ref (x + 22), .ref (x + 28), .ref (x + 102), .ref (x + 106), .ref (x + 109), .ref (x + 110), .ref (x + 111), .null, .null, .null, .int 0, .int 0] rfl z11 (by omega) o11 (Nat.le_of_ble_eq_true rfl) (Nat.le_of_ble_eq_true rfl) (Nat.le_of_ble_eq_true rfl) (fun h12 z12 o12 c12 f12 => ?_)
  clear z11
  refine mkO (fun q => Rul q (x + 112) (fun _ => 0) (fun _ => 0) (fun _ => 0) 0 none 0) (t := x + 112) [.ref (x + 1), .ref (x + 3), .ref (x + 5), .ref (x + 10), .ref (x + 16), .ref (x + 22), .ref (x + 28), .ref (x + 102), .ref (x + 106), .ref (x + 109), .ref (x + 110), .ref (x + 111), .ref (x + 112), .null, .null, .int 0, .int 0] rfl z12 (by omega) o12 (Nat.le_of_ble_eq_true rfl) (Nat.le_of_ble_eq_true rfl) (Nat.le_of_ble_eq_true rfl) (Nat.le_of_ble_eq_true rfl) (Nat.le_of_ble_eq_true rfl) (fun h2 Q y1 y2 y3 => i_X5 y1 y2 (Nat.le_refl _) (Nat.le_refl _) (Nat.le_refl _) y3) (fun h' h'' H e => H.mv (fun c k1 k2 => e c (by omega))) (fun h13 z13 o13 c13 f13 => ?_)
  clear z12
  refine mkO (fun q => Rul q (x + 116) (fun _ => 0) (fun _ => 0) (fun _ => 0) 0 none 0) (t := x + 116) [.ref (x + 1), .ref (x + 3), .ref (x + 5), .ref (x + 10), .ref (x + 16), .ref (x + 22), .ref (x + 28), .ref (x + 102), .ref (x + 106), .ref (x + 109), .ref (x + 110), .ref (x + 111), .ref (x + 112), .ref (x + 116), .null, .int 0, .int 0] rfl z13 (by omega) o13 (Nat.le_of_ble_eq_true rfl) (Nat.le_of_ble_eq_true rfl) (Nat.le_of_ble_eq_true rfl) (Nat.le_of_ble_eq_true rfl) (Nat.le_of_ble_eq_true rfl) (fun h2 Q y1 y2 y3 => i_X5 y1 y2 (Nat.le_refl _) (Nat.le_refl _) (Nat.le_refl _) y3) (fun h' h'' H e => H.mv (fun c k1 k2 => e c (by omega))) (fun h14 z14 o14 c14 f14 => ?_)
  clear z13
  refine wX9_init_151 hd ⟨fun z => absurd z (by decide), fun _ => ⟨_, _, o14, rfl, (Nat.le_of_ble_eq_true rfl), (Nat.le_of_ble_eq_true rfl), ⟨(Nat.le_of_ble_eq_true rfl), (Nat.le_of_ble_eq_true rfl)⟩, i_X8 (a := h14.1) rfl (pz_set_eq _ _ _) (Nat.le_refl _) (Nat.le_refl _) (Nat.le_refl _) (fun u1 y1 y2 y3 => ⟨rfl, 2, fun _ => none, _, ?_, vin (i := 0) (by decide) (by decide), y2.1, ?_⟩)⟩⟩
  · exact (y3 _ (by omega)).trans ((pz_set_ne (by omega)).trans ((f14 _ (by omega) (by omega)).trans ((f13 _ (by omega) (by omega)).trans ((f12 _ (by omega) (by omega)).trans ((f11 _ (by omega) (by omega)).trans c10)))))
  generalize hv1 : pz_put u1 (x + 109) (aW 2 (va_up (fun _ => none) (0 : Int32).toNatClampNeg (some h14.1))) = v1
  have a1 : v1.1 = x + 126 := by rw [← hv1]; exact y1.trans (by omega)
  have b1 : v1.2 (x + 109) = some (aW 2 (va_up (fun _ => none) 0 (some (x + 120)))) := by rw [← hv1, z14]; exact pz_set_eq _ _ _
  have d1 : ∀ b, b < x + 120 → b ≠ x + 109 → v1.2 b = h14.2 b := fun b k1 k2 => by rw [← hv1]; exact (pz_set_ne k2).trans ((y3 b (by omega)).trans (pz_set_ne (by omega)))
  have w1 : WatT v1 (x + 120) W0 := by
    rw [← hv1]
    rw [z14] at y2
    exact y2.mv (fun c k1 k2 => pz_set_ne (by omega))
  refine wX9_init_151 hd ⟨fun z => absurd z (by decide), fun _ => ⟨_, _, (d1 x (by omega) (by omega)).trans o14, rfl, (Nat.le_of_ble_eq_true rfl), (Nat.le_of_ble_eq_true rfl), ⟨(Nat.le_of_ble_eq_true rfl), (Nat.le_of_ble_eq_true rfl)⟩, i_X8 (a := v1.1) rfl (pz_set_eq _ _ _) (Nat.le_refl _) (Nat.le_refl _) (Nat.le_refl _) (fun u2 y1' y2' y3' => ⟨rfl, 2, va_up (fun _ => none) 0 (some (x + 120)), _, (y3' _ (by omega)).trans ((pz_set_ne (by omega)).trans b1), (show vp_in (nI 1) 2 from vin (by decide) (by decide)), y2'.1, ?_⟩)⟩⟩
  generalize hv2 : pz_put u2 (x + 109) (aW 2 (va_up (va_up (fun _ => none) 0 (some (x + 120))) (0 + 1 : Int32).toNatClampNeg (some v1.1))) = v2
  have a2 : v2.1 = x + 132 := by rw [← hv2]; exact y1'.trans (by omega)
  have b2 : v2.2 (x + 109) = some (aW 2 (va_up (va_up (fun _ => none) 0 (some (x + 120))) 1 (some (x + 126)))) := by rw [← hv2, a1]; exact pz_set_eq _ _ _
  have d2 : ∀ b, b < x + 126 → b ≠ x + 109 → v2.2 b = v1.2 b := fun b k1 k2 => by rw [← hv2]; exact (pz_set_ne k2).trans ((y3' b (by omega)).trans (pz_set_ne (by omega)))
  have w2 : WatT v2 (x + 126) W0 := by
    rw [← hv2]
    rw [a1] at y2'
    exact y2'.mv (fun c k1 k2 => pz_set_ne (by omega))
  refine wX9_init_151 hd ⟨fun _ => ?_, fun z => absurd (by decide) z⟩
  have F14 : ∀ b, b < x + 120 → b ≠ x + 109 → v2.2 b = h14.2 b := fun b k1 k2 => (d2 b (by omega) k2).trans (d1 b k1 k2)
  have F13 : ∀ b, b < x + 116 → b ≠ x → b ≠ x + 109 → v2.2 b = h13.2 b := fun b k1 k2 k3 => (F14 b (by omega) k3).trans (f14 b (by omega) k2)
  have F12 : ∀ b, b < x + 112 → b ≠ x → b ≠ x + 109 → v2.2 b = h12.2 b := fun b k1 k2 k3 => (F13 b (by omega) k2 k3).trans (f13 b (by omega) k2)
  have F11 : ∀ b, b < x + 111 → b ≠ x → b ≠ x + 109 → v2.2 b = h11.2 b := fun b k1 k2 k3 => (F12 b (by omega) k2 k3).trans (f12 b (by omega) k2)
  have F10 : ∀ b, b < x + 110 → b ≠ x → b ≠ x + 109 → v2.2 b = h10.2 b := fun b k1 k2 k3 => (F11 b (by omega) k2 k3).trans (f11 b (by omega) k2)
  have F9 : ∀ b, b < x + 109 → b ≠ x → b ≠ x + 109 → v2.2 b = h9.2 b := fun b k1 k2 k3 => (F10 b (by omega) k2 k3).trans (f10 b (by omega) k2)
  have F8 : ∀ b, b < x + 106 → b ≠ x → b ≠ x + 109 → v2.2 b = h8.2 b := fun b k1 k2 k3 => (F9 b (by omega) k2 k3).trans (f9 b (by omega) k2)
  have F7 : ∀ b, b < x + 102 → b ≠ x → b ≠ x + 109 → v2.2 b = h7.2 b := fun b k1 k2 k3 => (F8 b (by omega) k2 k3).trans (f8 b (by omega) k2)
  have F6 : ∀ b, b < x + 28 → b ≠ x → b ≠ x + 109 → v2.2 b = h6.2 b := fun b k1 k2 k3 => (F7 b (by omega) k2 k3).trans (f7 b (by omega) k2)
  have F5 : ∀ b, b < x + 22 → b ≠ x → b ≠ x + 109 → v2.2 b = h5.2 b := fun b k1 k2 k3 => (F6 b (by omega) k2 k3).trans (f6 b (by omega) k2)
  have F4 : ∀ b, b < x + 16 → b ≠ x → b ≠ x + 109 → v2.2 b = h4.2 b := fun b k1 k2 k3 => (F5 b (by omega) k2 k3).trans (f5 b (by omega) k2)
  have F3 : ∀ b, b < x + 10 → b ≠ x → b ≠ x + 109 → v2.2 b = h3.2 b := fun b k1 k2 k3 => (F4 b (by omega) k2 k3).trans (f4 b (by omega) k2)
  have F2 : ∀ b, b < x + 5 → b ≠ x → b ≠ x + 109 → v2.2 b = h2.2 b := fun b k1 k2 k3 => (F3 b (by omega) k2 k3).trans (f3 b (by omega) k2)
  have F1 : ∀ b, b < x + 3 → b ≠ x → b ≠ x + 109 → v2.2 b = h1.2 b := fun b k1 k2 k3 => (F2 b (by omega) k2 k3).trans (f2 b (by omega) k2)
  have F0 : ∀ b, b < x + 1 → b ≠ x → b ≠ x + 109 → v2.2 b = h.2 b := fun b k1 k2 k3 => (F1 b (by omega) k2 k3).trans (f1 b (by omega) k2)
  have C1 : Txt v2 (x + 1) (fun _ => 0) 0 := c1.mv (fun c k1 k2 => F1 c (by omega) (by omega) (by omega))
  have C2 : Row v2 (x + 3) (fun _ => 0) 0 := c2.mv (fun c k1 k2 => F2 c (by omega) (by omega) (by omega))
  have C3 : Lnd v2 (x + 5) (fun _ => 0) (fun _ => 0) (fun _ => 0) (fun _ => 0) 0 := c3.mv (fun c k1 k2 => F3 c (by omega) (by omega) (by omega))
  have C4 : WatT v2 (x + 10) W0 := c4.mv (fun c k1 k2 => F4 c (by omega) (by omega) (by omega))
  have C5 : WatT v2 (x + 16) W0 := c5.mv (fun c k1 k2 => F5 c (by omega) (by omega) (by omega))
  have C6 : WatT v2 (x + 22) W0 := c6.mv (fun c k1 k2 => F6 c (by omega) (by omega) (by omega))
  have C7 : PsT v2 (x + 28) := c7.mvP (fun c k1 k2 => F7 c (by omega) (by omega) (by omega))
  have C8 : Rng v2 (x + 102) (fun _ => 0) (fun _ => 0) (fun _ => 0) 0 := c8.mv (fun c k1 k2 => F8 c (by omega) (by omega) (by omega))
  have C9 : Dck v2 (x + 106) (fun _ => 0) (fun _ => 0) 0 := c9.mv (fun c k1 k2 => F9 c (by omega) (by omega) (by omega))
  have C11 := (F11 (x + 110) (by omega) (by omega) (by omega)).trans c11
  have C12 := (F12 (x + 111) (by omega) (by omega) (by omega)).trans c12
  have C13 : Rul v2 (x + 112) (fun _ => 0) (fun _ => 0) (fun _ => 0) 0 none 0 := c13.mv (fun c k1 k2 => F13 c (by omega) (by omega) (by omega))
  have C14 : Rul v2 (x + 116) (fun _ => 0) (fun _ => 0) (fun _ => 0) 0 none 0 := c14.mv (fun c k1 k2 => F14 c (by omega) (by omega))
  have TP : Top v2 x (x + 112) (x + 116) none 0 0 := (F14 x (by omega) (by omega)).trans o14
  have rv : RVal (fun _ => 0) 0 rv0 := ⟨by decide, fun sk l1 l2 l3 l4 l5 l6 => by unfold wval; rw [if_pos rfl]; rfl⟩
  obtain ⟨p1, g, p2, p3⟩ := C7
  refine hq v2 a2 (fun w ew => ⟨x + 112, x + 116, none, 0, W0, ⟨Or.inl rfl, by decide, W0_ok, W0_ok, ⟨_, _, _, _, (ew x (by omega)).trans TP⟩, ⟨_, _, C3.mv (fun c k1 k2 => ew c (by omega))⟩, C4.mv (fun c k1 k2 => ew c (by omega)), C6.mv (fun c k1 k2 => ew c (by omega)), ⟨_, _, _, _, _, _, C13.mv (fun c k1 k2 => ew c (by omega)), rv⟩, ⟨_, C2.mv (fun c k1 k2 => ew c (by omega)), by decide, fun i hi => absurd hi (Nat.not_lt_zero _)⟩⟩, Or.inl ⟨rfl, rfl⟩, (ew x (by omega)).trans TP, ⟨_, C1.mv (fun c k1 k2 => ew c (by omega)), fun j _ => ⟨rfl, (by decide : (0 : Nat) < 256)⟩⟩, ⟨W0, C5.mv (fun c k1 k2 => ew c (by omega)), W0_ok⟩, ⟨0, fun _ => W0, g, (ew _ (by omega)).trans p1, (ew _ (by omega)).trans p2, fun j hj => ?_, fun j hj => ?_, fun j hj => absurd hj (Nat.not_lt_zero _)⟩, C8.mv (fun c k1 k2 => ew c (by omega)), ⟨_, _, _, C9.mv (fun c k1 k2 => ew c (by omega))⟩, ⟨_, (ew _ (by omega)).trans b2, rfl, rfl⟩, ⟨w1.mv (fun c k1 k2 => (ew c (by omega)).trans (d2 c (by omega) (by omega))), W0_ok⟩, ⟨w2.mv (fun c k1 k2 => ew c (by omega)), W0_ok⟩, ⟨_, (ew _ (by omega)).trans C11⟩, ⟨_, (ew _ (by omega)).trans C12⟩, ⟨_, _, _, _, _, _, C14.mv (fun c k1 k2 => ew c (by omega))⟩, Or.inl rfl⟩) (fun b k => F0 b (by omega) (by omega) (by omega))
  · rw [show (j + 0) % 12 = j from Nat.mod_eq_of_lt hj]
    exact (p3 j hj).1
  · rw [show (j + 0) % 12 = j from Nat.mod_eq_of_lt hj]
    exact ⟨(p3 j hj).2.mv (fun c k1 k2 => ew c (by omega)), W0_ok⟩
end INI
