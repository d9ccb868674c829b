/-! ===== the law ===== -/
section LAW
variable {l : Launch} {Ex : py_X} {d bc bs pc : Nat} {h : pz_H} {x b L : Nat} {xs : Nat → Int32} {lv : List (Nat × Value)} {st : List Value}
theorem py_tableN {M : pz_M} {Q : Option Value → pz_H → Prop} {dflt lo hi : Int} {offs : Array Int} {len tgt : Nat} {x : Int32} (hd : decode M.2.1 pc = .ok (.tableswitch dflt lo hi offs, len)) (hsz : hi = lo + (offs.size : Int) - 1)
    (k1 : ∀ i : Nat, i < offs.size → x.toInt = lo + (i : Int) → ∃ (off : Int) (tg : Nat), offs[i]? = some off ∧ (pc : Int) + off = (tg : Int) ∧ py_V l M Ex Q d bc bs tg lv st h) (ht : (pc : Int) + dflt = (tgt : Int)) (k2 : x.toInt < lo ∨ hi < x.toInt → py_V l M Ex Q d bc bs tgt lv st h) : py_V l M Ex Q d bc bs pc lv (.int x :: st) h := by
  refine py_table hd (fun off h1 h2 ho => ?_) (fun h1 h2 => ?_) ht k2
  · obtain ⟨off', tg, e1, e2, kk⟩ := k1 (x.toInt - lo).toNat (by omega) (by omega)
    cases ho.symm.trans e1
    exact ⟨tg, e2, kk⟩
  · obtain ⟨off', tg, e1, e2, kk⟩ := k1 (x.toInt - lo).toNat (by omega) (by omega)
    exact ⟨off', e1⟩
abbrev LQ : Option Value → pz_H → Prop := fun r _ => r = some (.int 1)
theorem sub5 (hL : L ≤ 2560) : (Int32.ofNat L - 5).toInt = (L : Int) - 5 := by
  rw [Int32.toInt_sub, show (Int32.ofNat L).toInt = L from nI_toInt (by omega), show (5 : Int32).toInt = 5 by decide]
  exact Int.bmod_eq_of_le (by omega) (by omega)
/-- one turn -/
theorem law_turn {i : Nat} {S : pS} {Q : Option Value → pz_H → Prop} (hl : l.stackTraces = false) (hE2 : ∀ {p e R s m args below meth c G B Z}, Ex p e R s m args below meth c G B Z → py_st s s.heap B) (hE : ∀ {p e R s m args below meth c G B Z}, Ex p e R s m args below meth c G B Z → py_S b L xs s B) (I : LI h x S) (hi : i + 5 ≤ L) (hL : L ≤ 2560) (hd : 203 ≤ d) (hbc : 3 ≤ bc) (hbs : 6907 ≤ bs) (kk : ∀ h' S', LI h' x S' → py_V l mL_law Ex Q d (bc - 3) (bs - 6907) 1678 (LV b x i) [] h') : py_V l mL_law Ex Q d bc bs 32 (LV b x i) [] h := by
  refine py_aload_n (pc' := 33) (x := b) 4 rfl (pz_dc dL_law_0 19 rfl) rfl ?_
  refine py_iload (pc' := 35) (x := nI i) 0 rfl (pz_dc dL_law_0 20 rfl) rfl ?_
  refine py_sld hE (pc' := 36) rfl (pz_dc dL_law_0 21 rfl) (vin (by omega) (by omega)) ?_
  refine py_bipush (pc' := 38) (v := 63) rfl (pz_dc dL_law_0 22 rfl) (by decide) ?_
  refine py_iand (pc' := 39) rfl (pz_dc dL_law_0 23 rfl) ?_
  refine py_tableN (tgt := 1678) (pz_dc dL_law_0 24 rfl) (by decide) (fun j hj hx => ?_) (by decide) (fun _ => py_mono (Nat.le_refl _) (Nat.sub_le _ _) (Nat.sub_le _ _) (kk h S I))
  · match j, hj, hx with
    | 0, _, _ => exact ⟨_, 248, rfl, by decide, LC_0 hE I hi hL hd (by omega) (by omega) kk⟩
    | 1, _, _ => exact ⟨_, 273, rfl, by decide, LC_1 hE I hi hL hd (by omega) (by omega) kk⟩
    | 2, _, _ => exact ⟨_, 298, rfl, by decide, LC_2 hE I hi hL hd (by omega) (by omega) kk⟩
    | 3, _, _ => exact ⟨_, 311, rfl, by decide, LC_3 hE I hi hL hd (by omega) (by omega) kk⟩
    | 4, _, _ => exact ⟨_, 324, rfl, by decide, LC_4 hl hE2 hE I hi hL hd (by omega) (by omega) kk⟩
    | 5, _, _ => exact ⟨_, 392, rfl, by decide, LC_5 hE I hi hL hd (by omega) (by omega) kk⟩
    | 6, _, _ => exact ⟨_, 453, rfl, by decide, LC_6 hE I hi hL hd (by omega) (by omega) kk⟩
    | 7, _, _ => exact ⟨_, 478, rfl, by decide, LC_7 hE I hi hL hd (by omega) (by omega) kk⟩
    | 8, _, _ => exact ⟨_, 503, rfl, by decide, LC_8 hE I hi hL hd (by omega) (by omega) kk⟩
    | 9, _, _ => exact ⟨_, 528, rfl, by decide, LC_9 hE I hi hL hd (by omega) (by omega) kk⟩
    | 10, _, _ => exact ⟨_, 553, rfl, by decide, LC_10 hE I hi hL hd (by omega) (by omega) kk⟩
    | 11, _, _ => exact ⟨_, 590, rfl, by decide, LC_11 hE I hi hL hd (by omega) (by omega) kk⟩
    | 12, _, _ => exact ⟨_, 627, rfl, by decide, LC_12 hE I hi hL hd (by omega) (by omega) kk⟩
    | 13, _, _ => exact ⟨_, 640, rfl, by decide, LC_13 hE I hi hL hd (by omega) (by omega) kk⟩
    | 14, _, _ => exact ⟨_, 653, rfl, by decide, LC_14 hE I hi hL hd (by omega) (by omega) kk⟩
    | 15, _, _ => exact ⟨_, 690, rfl, by decide, LC_15 hE I hi hL hd (by omega) (by omega) kk⟩
    | 16, _, _ => exact ⟨_, 715, rfl, by decide, LC_16 hE I hi hL hd (by omega) (by omega) kk⟩
    | 17, _, _ => exact ⟨_, 740, rfl, by decide, LC_17 hE I hi hL hd (by omega) (by omega) kk⟩
    | 18, _, _ => exact ⟨_, 777, rfl, by decide, LC_18 hE I hi hL hd (by omega) (by omega) kk⟩
    | 19, _, _ => exact ⟨_, 802, rfl, by decide, LC_19 hE I hi hL hd (by omega) (by omega) kk⟩
    | 20, _, _ => exact ⟨_, 827, rfl, by decide, LC_20 hE I hi hL hd (by omega) (by omega) kk⟩
    | 21, _, _ => exact ⟨_, 852, rfl, by decide, LC_21 hE I hi hL hd (by omega) (by omega) kk⟩
    | 22, _, _ => exact ⟨_, 877, rfl, by decide, LC_22 hE I hi hL hd (by omega) (by omega) kk⟩
    | 23, _, _ => exact ⟨_, 914, rfl, by decide, LC_23 hE I hi hL hd (by omega) (by omega) kk⟩
    | 24, _, _ => exact ⟨_, 939, rfl, by decide, LC_24 hE I hi hL hd (by omega) (by omega) kk⟩
    | 25, _, _ => exact ⟨_, 988, rfl, by decide, LC_25 hE I hi hL hd (by omega) (by omega) kk⟩
    | 26, _, _ => exact ⟨_, 1025, rfl, by decide, LC_26 hE I hi hL hd (by omega) (by omega) kk⟩
    | 27, _, _ => exact ⟨_, 1062, rfl, by decide, LC_27 hE I hi hL hd (by omega) (by omega) kk⟩
    | 28, _, _ => exact ⟨_, 1099, rfl, by decide, LC_28 hE I hi hL hd (by omega) (by omega) kk⟩
    | 29, _, _ => exact ⟨_, 1148, rfl, by decide, LC_29 hE I hi hL hd (by omega) (by omega) kk⟩
    | 30, _, _ => exact ⟨_, 1173, rfl, by decide, LC_30 hE I hi hL hd (by omega) (by omega) kk⟩
    | 31, _, _ => exact ⟨_, 1222, rfl, by decide, LC_31 hE I hi hL hd (by omega) (by omega) kk⟩
    | 32, _, _ => exact ⟨_, 1235, rfl, by decide, LC_32 hE I hi hL hd (by omega) (by omega) kk⟩
    | 33, _, _ => exact ⟨_, 1248, rfl, by decide, LC_33 hE I hi hL hd (by omega) (by omega) kk⟩
    | 34, _, _ => exact ⟨_, 1261, rfl, by decide, LC_34 hE I hi hL hd (by omega) (by omega) kk⟩
    | 35, _, _ => exact ⟨_, 1286, rfl, by decide, LC_35 hE I hi hL hd (by omega) (by omega) kk⟩
    | 36, _, _ => exact ⟨_, 1311, rfl, by decide, LC_36 hE I hi hL hd (by omega) (by omega) kk⟩
    | 37, _, _ => exact ⟨_, 1336, rfl, by decide, LC_37 hE I hi hL hd (by omega) (by omega) kk⟩
    | 38, _, _ => exact ⟨_, 1349, rfl, by decide, LC_38 hE I hi hL hd (by omega) (by omega) kk⟩
    | 39, _, _ => exact ⟨_, 1362, rfl, by decide, LC_39 hE I hi hL hd (by omega) (by omega) kk⟩
    | 40, _, _ => exact ⟨_, 1375, rfl, by decide, LC_40 hE I hi hL hd (by omega) (by omega) kk⟩
    | 41, _, _ => exact ⟨_, 1424, rfl, by decide, LC_41 hE I hi hL hd (by omega) (by omega) kk⟩
    | 42, _, _ => exact ⟨_, 1473, rfl, by decide, LC_42 hE I hi hL hd (by omega) (by omega) kk⟩
    | 43, _, _ => exact ⟨_, 1498, rfl, by decide, LC_43 hE I hi hL hd (by omega) (by omega) kk⟩
    | 44, _, _ => exact ⟨_, 1511, rfl, by decide, LC_44 hE I hi hL hd (by omega) (by omega) kk⟩
    | 45, _, _ => exact ⟨_, 1548, rfl, by decide, LC_45 hE I hi hL hd (by omega) (by omega) kk⟩
    | 46, _, _ => exact ⟨_, 1573, rfl, by decide, LC_46 hE I hi hL hd (by omega) (by omega) kk⟩
    | 47, _, _ => exact ⟨_, 1598, rfl, by decide, LC_47 hE I hi hL hd (by omega) (by omega) kk⟩
    | 48, _, _ => exact ⟨_, 1623, rfl, by decide, LC_48 hl hE2 hE I hi hL hd (by omega) (by omega) kk⟩
    | j + 49, hj, _ => exact absurd hj (Nat.not_lt.mpr (Nat.le_add_left _ _))
theorem law_loop (hl : l.stackTraces = false) (hE2 : ∀ {p e R s m args below meth c G B Z}, Ex p e R s m args below meth c G B Z → py_st s s.heap B) (hE : ∀ {p e R s m args below meth c G B Z}, Ex p e R s m args below meth c G B Z → py_S b L xs s B) (hL : L ≤ 2560) (hd : 203 ≤ d) : ∀ (f i : Nat) (h : pz_H) (S : pS) (bc bs : Nat), LI h x S → L < i + 5 * (f + 1) → i ≤ 2565 → 3 * f ≤ bc → 6907 * f ≤ bs → py_V l mL_law Ex LQ d bc bs 23 (LV b x i) [] h := by
  intro f
  induction f with
  | zero =>
    intro i h S bc bs I hi hi2 h1 h2
    refine py_iload (pc' := 25) (x := nI i) 0 rfl (pz_dc dL_law_0 13 rfl) rfl ?_
    refine py_aload_n (pc' := 26) (x := b) 4 rfl (pz_dc dL_law_0 14 rfl) rfl ?_
    refine py_slen hE (pc' := 27) rfl (pz_dc dL_law_0 15 rfl) ?_
    refine py_iconst (pc' := 28) (v := 5) rfl (pz_dc dL_law_0 16 rfl) (by decide) ?_
    refine py_isub (pc' := 29) rfl (pz_dc dL_law_0 17 rfl) ?_
    refine py_icmp_gt (pc' := 32) (tgt := 1684) rfl (pz_dc dL_law_0 18 rfl) (by decide) (fun _ => ?_) (fun z => absurd ?_ z)
    · refine py_iconst (pc' := 1685) (v := 1) rfl (pz_dc dL_law_25 15 rfl) (by decide) ?_
      exact py_zret (pz_dc dL_law_25 16 rfl) rfl ⟨Or.inr rfl, rfl⟩
    · rw [Int32.lt_iff_toInt_lt, sub5 hL, nI_toInt (by omega)]
      omega
  | succ f ih =>
    intro i h S bc bs I hi hi2 h1 h2
    refine py_iload (pc' := 25) (x := nI i) 0 rfl (pz_dc dL_law_0 13 rfl) rfl ?_
    refine py_aload_n (pc' := 26) (x := b) 4 rfl (pz_dc dL_law_0 14 rfl) rfl ?_
    refine py_slen hE (pc' := 27) rfl (pz_dc dL_law_0 15 rfl) ?_
    refine py_iconst (pc' := 28) (v := 5) rfl (pz_dc dL_law_0 16 rfl) (by decide) ?_
    refine py_isub (pc' := 29) rfl (pz_dc dL_law_0 17 rfl) ?_
    refine py_icmp_gt (pc' := 32) (tgt := 1684) rfl (pz_dc dL_law_0 18 rfl) (by decide) (fun _ => ?_) (fun z => ?_)
    · refine py_iconst (pc' := 1685) (v := 1) rfl (pz_dc dL_law_25 15 rfl) (by decide) ?_
      exact py_zret (pz_dc dL_law_25 16 rfl) rfl ⟨Or.inr rfl, rfl⟩
    · rw [Int32.lt_iff_toInt_lt, sub5 hL, nI_toInt (by omega)] at z
      refine law_turn hl hE2 hE I (by omega) hL hd (by omega) (by omega) (fun h' S' I' => ?_)
      refine py_iinc (pc' := 1681) (v := nI (i + 5)) 0 rfl (pz_dc dL_law_25 13 rfl) rfl (nI_add i 5) (by decide) rfl ?_
      refine py_goto (pc' := 23) (pz_dc dL_law_25 14 rfl) (by decide) ?_
      exact ih (i + 5) h' S' _ _ I' (by omega) (by omega) (by omega) (by omega)
set_option maxHeartbeats 4000000 in
theorem law_body (hl : l.stackTraces = false) (hE2 : ∀ {p e R s m args below meth c G B Z}, Ex p e R s m args below meth c G B Z → py_st s s.heap B) (hE : ∀ {p e R s m args below meth c G B Z}, Ex p e R s m args below meth c G B Z → py_S b L xs s B) (hL : L ≤ 2560) : py_V l mL_law Ex LQ 2048 475462 7669720 0 [(0, .ref b)] [] (x, fun _ => none) := by
  refine py_newO nL_8 (pc' := 3) rfl (pz_dc dL_law_0 0 rfl) (by decide) (by decide) ?_
  refine py_dup (pc' := 4) rfl (pz_dc dL_law_0 1 rfl) rfl ?_
  refine py_callI (M := mL_law) (N := mX9_init) (d' := 3) (bc1 := 131) (bs1 := 2000) (bc2 := 475330) (bs2 := 7667700) (pc' := 7) (st := [.ref x]) [] iL_19 rfl (pz_dc dL_law_0 2 rfl) rfl (Nat.le_of_ble_eq_true rfl) (Nat.le_of_ble_eq_true rfl) rfl (by decide) (by decide) (by decide) ?_
  refine i_X9 (x := x) rfl (pz_set_eq _ _ _) (Nat.le_refl _) (fun h1 z1 C1 _ => ?_)
  show py_V l mL_law Ex LQ 2048 475330 7667700 7 [(0, .ref b)] [.ref x] h1
  refine py_astore_n (pc' := 8) rfl (pz_dc dL_law_0 3 rfl) (by decide) rfl ?_
  refine py_newO nL_20 (pc' := 11) rfl (pz_dc dL_law_0 4 rfl) (by decide) (by decide) ?_
  refine py_dup (pc' := 12) rfl (pz_dc dL_law_0 5 rfl) rfl ?_
  rw [z1]
  refine py_callI (M := mL_law) (N := mX10_init) (d' := 1) (bc1 := 26) (bs1 := 20000) (bc2 := 475300) (bs2 := 7647600) (pc' := 15) (st := [.ref (x + 132)]) [] iL_22 rfl (pz_dc dL_law_0 6 rfl) rfl (Nat.le_of_ble_eq_true rfl) (Nat.le_of_ble_eq_true rfl) rfl (by decide) (by decide) (by decide) ?_
  refine i_X10 (m := x + 132) (show h1.1 + 1 = x + 132 + 1 by rw [z1]) (by rw [← z1]; exact pz_set_eq _ _ _) (Nat.le_refl _) (fun h2 z2 M2 f2 => ?_)
  show py_V l mL_law Ex LQ 2048 475300 7647600 15 [(1, .ref x), (0, .ref b)] [.ref (x + 132)] h2
  refine py_astore_n (pc' := 16) rfl (pz_dc dL_law_0 7 rfl) (by decide) rfl ?_
  refine py_iconst (pc' := 17) (v := 1) rfl (pz_dc dL_law_0 8 rfl) (by decide) ?_
  refine py_newJ (N := 1) pz_ac_long (pc' := 19) rfl (pz_dc dL_law_0 9 rfl) (by decide) (by decide) (by decide) (by decide) (by decide) ?_
  refine py_astore_n (pc' := 20) rfl (pz_dc dL_law_0 10 rfl) (by decide) rfl ?_
  refine py_iconst (pc' := 21) (v := 0) rfl (pz_dc dL_law_0 11 rfl) (by decide) ?_
  refine py_istore (pc' := 23) rfl (pz_dc dL_law_0 12 rfl) (by decide) rfl ?_
  rw [show h2.1 = x + 159 from z2]
  refine law_loop hl hE2 hE hL (by decide) 512 0 _ S0 _ _ ?_ (by omega) (by decide) (by decide) (by decide)
  have e3 : ∀ b, b ≠ x + 159 → (pz_new h2 (aJ 1 (fun _ => 0))).2 b = h2.2 b := fun b hb => pz_set_ne (by rw [z2]; exact hb)
  have e2 : ∀ b, b < x + 132 → h2.2 b = h1.2 b := fun b hb => (f2 b hb).trans (pz_set_ne (by omega))
  have C3 : CInv (pz_new h2 (aJ 1 (fun _ => 0))) x S0 := C1 _ (fun b hb => (e3 b (by omega)).trans (e2 b hb))
  obtain ⟨h0, M3, g3⟩ := M2
  obtain ⟨h0', k1, k2⟩ := M3.mv (h' := pz_new h2 (aJ 1 (fun _ => 0))) (fun b a1 a2 => e3 b (by omega))
  refine ⟨C3, ⟨h0', k1, k2.trans g3⟩, S0_ok, ?_, fun _ => 0, ?_⟩
  · show x + 160 ≤ h2.1 + 1
    omega
  · rw [← z2]
    exact pz_set_eq _ _ _
end LAW
