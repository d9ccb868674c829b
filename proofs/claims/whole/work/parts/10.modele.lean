set_option maxRecDepth 20000 in
set_option maxHeartbeats 4000000 in
theorem wX10_feared_0 {Ex : State → Nat → Prop} {Q : Option Value → pz_H → Prop} {d bc bs : Nat} {l0 : Nat}  {h : pz_H} (hD : 2 ≤ d) (hb : pz_pF h l0 10 9 (.int 0) (fun (h1 : pz_H) => pz_V mX10_feared Ex Q d bc bs 9 [(0, .ref l0), (1, .int 0), (2, .int 1)] [] h1)) : pz_V mX10_feared Ex Q d bc bs 0 [(0, .ref l0)] [] h := by
  refine pz_aload_n (pc' := 1) (x := l0) 0 rfl (pz_dc dX10_feared 0 rfl) rfl ?_
  refine pz_iconst (pc' := 2) (v := 0) rfl (pz_dc dX10_feared 1 rfl) ki_0 ?_
  refine pz_putv (M := mX10_feared) hb (pX10_95 _ rfl) rfl rfl (pc' := 5) rfl (pz_dc dX10_feared 2 rfl) (fun h1 hb => ?_)
  refine pz_iconst (pc' := 6) (v := 0) rfl (pz_dc dX10_feared 3 rfl) ki_0 ?_
  refine pz_istore_n (pc' := 7) (lv' := [(1, .int 0), (0, .ref l0)]) rfl (pz_dc dX10_feared 4 rfl) (by decide) rfl ?_
  refine pz_iconst (pc' := 8) (v := 1) rfl (pz_dc dX10_feared 5 rfl) ki_1 ?_
  refine pz_istore_n (pc' := 9) (lv' := [(2, .int 1), (1, .int 0), (0, .ref l0)]) rfl (pz_dc dX10_feared 6 rfl) (by decide) rfl ?_
  refine pz_lv (lv' := [(0, .ref l0), (1, .int 0), (2, .int 1)]) [2, 1, 0] rfl ?_
  exact hb
set_option maxRecDepth 20000 in
set_option maxHeartbeats 4000000 in
theorem wX10_feared_9 {Ex : State → Nat → Prop} {Q : Option Value → pz_H → Prop} {d bc bs : Nat} {l0 : Nat} {l1 : Int32} {l2 : Int32}  {h : pz_H} (hD : 2 ≤ d) (hb : (((4 : Int32)) ≤ l2 → pz_pF h l0 10 8 (.int 0) (fun (h1 : pz_H) => pz_gR h1 l0 10 0 (fun (a2 : Nat) => pz_is h1 l0 10 ∧ (pz_ki mX10_sumOf 0 0 0 (.ref l0 :: [.ref a2, .int 0]) h1 (fun (x4 : Int32) (h3 : pz_H) => pz_gR h3 l0 10 0 (fun (a5 : Nat) => pz_gR h3 l0 10 0 (fun (a6 : Nat) => pz_is h3 l0 10 ∧ (pz_ki mX10_ownOf 0 0 0 (.ref l0 :: [.ref a6, .int l1]) h3 (fun (x8 : Int32) (h7 : pz_H) => pz_is h7 l0 10 ∧ (pz_ki mX10_levelOf 1 0 0 (.ref l0 :: [.ref a5, .int x8]) h7 (fun (x10 : Int32) (h9 : pz_H) => pz_is h9 l0 10 ∧ (pz_kv mX10_tell 0 0 0 (.ref l0 :: [.long ((x4 - x10).toInt64)]) h9 (fun (h11 : pz_H) => Q (some (.int l1)) h11))))))))))))) ∧ (¬ ((4 : Int32)) ≤ l2 → pz_gR h l0 10 0 (fun (a12 : Nat) => pz_gR h l0 10 0 (fun (a13 : Nat) => pz_is h l0 10 ∧ (pz_ki mX10_ownOf 0 0 0 (.ref l0 :: [.ref a13, .int l2]) h (fun (x15 : Int32) (h14 : pz_H) => pz_is h14 l0 10 ∧ (pz_ki mX10_levelOf 1 0 0 (.ref l0 :: [.ref a12, .int x15]) h14 (fun (x17 : Int32) (h16 : pz_H) => pz_gR h16 l0 10 0 (fun (a18 : Nat) => pz_gR h16 l0 10 0 (fun (a19 : Nat) => pz_is h16 l0 10 ∧ (pz_ki mX10_ownOf 0 0 0 (.ref l0 :: [.ref a19, .int l1]) h16 (fun (x21 : Int32) (h20 : pz_H) => pz_is h20 l0 10 ∧ (pz_ki mX10_levelOf 1 0 0 (.ref l0 :: [.ref a18, .int x21]) h20 (fun (x23 : Int32) (h22 : pz_H) => (x17 ≤ x23 → pz_V mX10_feared Ex Q d bc bs 9 [(0, .ref l0), (1, .int l1), (2, .int (l2 + (1 : Int32)))] [] h22) ∧ (¬ x17 ≤ x23 → pz_V mX10_feared Ex Q d bc bs 9 [(0, .ref l0), (1, .int l2), (2, .int (l2 + (1 : Int32)))] [] h22))))))))))))))) : pz_V mX10_feared Ex Q d bc bs 9 [(0, .ref l0), (1, .int l1), (2, .int l2)] [] h := by
  refine pz_iload_n (pc' := 10) (x := l2) 2 rfl (pz_dc dX10_feared 7 rfl) rfl ?_
  refine pz_iconst (pc' := 11) (v := 4) rfl (pz_dc dX10_feared 8 rfl) ki_4 ?_
  refine pz_icmp_ge (pc' := 14) (tgt := 63) rfl (pz_dc dX10_feared 9 rfl) (by decide) (fun hc => ?_) (fun hc => ?_)
  · replace hb := hb.1 hc
    refine pz_aload_n (pc' := 64) (x := l0) 0 rfl (pz_dc dX10_feared 35 rfl) rfl ?_
    refine pz_iconst (pc' := 65) (v := 0) rfl (pz_dc dX10_feared 36 rfl) ki_0 ?_
    refine pz_putv (M := mX10_feared) hb (pX10_98 _ rfl) rfl rfl (pc' := 68) rfl (pz_dc dX10_feared 37 rfl) (fun h1 hb => ?_)
    refine pz_aload_n (pc' := 69) (x := l0) 0 rfl (pz_dc dX10_feared 38 rfl) rfl ?_
    refine pz_aload_n (pc' := 70) (x := l0) 0 rfl (pz_dc dX10_feared 39 rfl) rfl ?_
    refine pz_aload_n (pc' := 71) (x := l0) 0 rfl (pz_dc dX10_feared 40 rfl) rfl ?_
    refine pz_getR (M := mX10_feared) hb fX10_9 (pc' := 74) rfl (pz_dc dX10_feared 41 rfl) (fun a2 hb => ?_)
    refine pz_iconst (pc' := 75) (v := 0) rfl (pz_dc dX10_feared 42 rfl) ki_0 ?_
    refine pz_cVi (M := mX10_feared) (N := mX10_sumOf) (d' := 0) (bc1 := 0) (bs1 := 0) (bc2 := bc) (bs2 := bs) (pc' := 78) [.ref a2, .int 0] hb vX10_227 rfl (pz_dc dX10_feared 43 rfl) rfl (Nat.le_of_ble_eq_true rfl) (Nat.le_of_ble_eq_true rfl) rfl (by omega) (by omega) (by omega) (fun x4 h3 hb => ?_)
    refine pz_aload_n (pc' := 79) (x := l0) 0 rfl (pz_dc dX10_feared 44 rfl) rfl ?_
    refine pz_aload_n (pc' := 80) (x := l0) 0 rfl (pz_dc dX10_feared 45 rfl) rfl ?_
    refine pz_getR (M := mX10_feared) hb fX10_9 (pc' := 83) rfl (pz_dc dX10_feared 46 rfl) (fun a5 hb => ?_)
    refine pz_aload_n (pc' := 84) (x := l0) 0 rfl (pz_dc dX10_feared 47 rfl) rfl ?_
    refine pz_aload_n (pc' := 85) (x := l0) 0 rfl (pz_dc dX10_feared 48 rfl) rfl ?_
    refine pz_getR (M := mX10_feared) hb fX10_9 (pc' := 88) rfl (pz_dc dX10_feared 49 rfl) (fun a6 hb => ?_)
    refine pz_iload_n (pc' := 89) (x := l1) 1 rfl (pz_dc dX10_feared 50 rfl) rfl ?_
    refine pz_cVi (M := mX10_feared) (N := mX10_ownOf) (d' := 0) (bc1 := 0) (bs1 := 0) (bc2 := bc) (bs2 := bs) (pc' := 92) [.ref a6, .int l1] hb vX10_284 rfl (pz_dc dX10_feared 51 rfl) rfl (Nat.le_of_ble_eq_true rfl) (Nat.le_of_ble_eq_true rfl) rfl (by omega) (by omega) (by omega) (fun x8 h7 hb => ?_)
    refine pz_cVi (M := mX10_feared) (N := mX10_levelOf) (d' := 1) (bc1 := 0) (bs1 := 0) (bc2 := bc) (bs2 := bs) (pc' := 95) [.ref a5, .int x8] hb vX10_287 rfl (pz_dc dX10_feared 52 rfl) rfl (Nat.le_of_ble_eq_true rfl) (Nat.le_of_ble_eq_true rfl) rfl (by omega) (by omega) (by omega) (fun x10 h9 hb => ?_)
    refine pz_isub (pc' := 96) rfl (pz_dc dX10_feared 53 rfl) ?_
    refine pz_i2l (pc' := 97) rfl (pz_dc dX10_feared 54 rfl) ?_
    refine pz_cVv (M := mX10_feared) (N := mX10_tell) (d' := 0) (bc1 := 0) (bs1 := 0) (bc2 := bc) (bs2 := bs) (pc' := 100) [.long ((x4 - x10).toInt64)] hb vX10_248 rfl (pz_dc dX10_feared 55 rfl) rfl (Nat.le_of_ble_eq_true rfl) (Nat.le_of_ble_eq_true rfl) rfl (by omega) (by omega) (by omega) (fun h11 hb => ?_)
    refine pz_iload_n (pc' := 101) (x := l1) 1 rfl (pz_dc dX10_feared 56 rfl) rfl ?_
    exact pz_iret (pz_dc dX10_feared 57 rfl) rfl hb
  · replace hb := hb.2 hc
    refine pz_aload_n (pc' := 15) (x := l0) 0 rfl (pz_dc dX10_feared 10 rfl) rfl ?_
    refine pz_aload_n (pc' := 16) (x := l0) 0 rfl (pz_dc dX10_feared 11 rfl) rfl ?_
    refine pz_getR (M := mX10_feared) hb fX10_9 (pc' := 19) rfl (pz_dc dX10_feared 12 rfl) (fun a12 hb => ?_)
    refine pz_aload_n (pc' := 20) (x := l0) 0 rfl (pz_dc dX10_feared 13 rfl) rfl ?_
    refine pz_aload_n (pc' := 21) (x := l0) 0 rfl (pz_dc dX10_feared 14 rfl) rfl ?_
    refine pz_getR (M := mX10_feared) hb fX10_9 (pc' := 24) rfl (pz_dc dX10_feared 15 rfl) (fun a13 hb => ?_)
    refine pz_iload_n (pc' := 25) (x := l2) 2 rfl (pz_dc dX10_feared 16 rfl) rfl ?_
    refine pz_cVi (M := mX10_feared) (N := mX10_ownOf) (d' := 0) (bc1 := 0) (bs1 := 0) (bc2 := bc) (bs2 := bs) (pc' := 28) [.ref a13, .int l2] hb vX10_284 rfl (pz_dc dX10_feared 17 rfl) rfl (Nat.le_of_ble_eq_true rfl) (Nat.le_of_ble_eq_true rfl) rfl (by omega) (by omega) (by omega) (fun x15 h14 hb => ?_)
    refine pz_cVi (M := mX10_feared) (N := mX10_levelOf) (d' := 1) (bc1 := 0) (bs1 := 0) (bc2 := bc) (bs2 := bs) (pc' := 31) [.ref a12, .int x15] hb vX10_287 rfl (pz_dc dX10_feared 18 rfl) rfl (Nat.le_of_ble_eq_true rfl) (Nat.le_of_ble_eq_true rfl) rfl (by omega) (by omega) (by omega) (fun x17 h16 hb => ?_)
    refine pz_aload_n (pc' := 32) (x := l0) 0 rfl (pz_dc dX10_feared 19 rfl) rfl ?_
    refine pz_aload_n (pc' := 33) (x := l0) 0 rfl (pz_dc dX10_feared 20 rfl) rfl ?_
    refine pz_getR (M := mX10_feared) hb fX10_9 (pc' := 36) rfl (pz_dc dX10_feared 21 rfl) (fun a18 hb => ?_)
    refine pz_aload_n (pc' := 37) (x := l0) 0 rfl (pz_dc dX10_feared 22 rfl) rfl ?_
    refine pz_aload_n (pc' := 38) (x := l0) 0 rfl (pz_dc dX10_feared 23 rfl) rfl ?_
    refine pz_getR (M := mX10_feared) hb fX10_9 (pc' := 41) rfl (pz_dc dX10_feared 24 rfl) (fun a19 hb => ?_)
    refine pz_iload_n (pc' := 42) (x := l1) 1 rfl (pz_dc dX10_feared 25 rfl) rfl ?_
    refine pz_cVi (M := mX10_feared) (N := mX10_ownOf) (d' := 0) (bc1 := 0) (bs1 := 0) (bc2 := bc) (bs2 := bs) (pc' := 45) [.ref a19, .int l1] hb vX10_284 rfl (pz_dc dX10_feared 26 rfl) rfl (Nat.le_of_ble_eq_true rfl) (Nat.le_of_ble_eq_true rfl) rfl (by omega) (by omega) (by omega) (fun x21 h20 hb => ?_)
    refine pz_cVi (M := mX10_feared) (N := mX10_levelOf) (d' := 1) (bc1 := 0) (bs1 := 0) (bc2 := bc) (bs2 := bs) (pc' := 48) [.ref a18, .int x21] hb vX10_287 rfl (pz_dc dX10_feared 27 rfl) rfl (Nat.le_of_ble_eq_true rfl) (Nat.le_of_ble_eq_true rfl) rfl (by omega) (by omega) (by omega) (fun x23 h22 hb => ?_)
    refine pz_icmp_le (pc' := 51) (tgt := 55) rfl (pz_dc dX10_feared 28 rfl) (by decide) (fun hc => ?_) (fun hc => ?_)
    · replace hb := hb.1 hc
      refine pz_iload_n (pc' := 56) (x := l1) 1 rfl (pz_dc dX10_feared 31 rfl) rfl ?_
      refine pz_istore_n (pc' := 57) (lv' := [(1, .int l1), (0, .ref l0), (2, .int l2)]) rfl (pz_dc dX10_feared 32 rfl) (by decide) rfl ?_
      refine pz_iinc (pc' := 60) (x := l2) (v := l2 + (1 : Int32)) (lv' := [(2, .int (l2 + (1 : Int32))), (1, .int l1), (0, .ref l0)]) 2 rfl (pz_dc dX10_feared 33 rfl) rfl rfl (by decide) rfl ?_
      refine pz_goto (pc' := 9) (pz_dc dX10_feared 34 rfl) (by decide) ?_
      refine pz_lv (lv' := [(0, .ref l0), (1, .int l1), (2, .int (l2 + (1 : Int32)))]) [2, 1, 0] rfl ?_
      exact hb
    · replace hb := hb.2 hc
      refine pz_iload_n (pc' := 52) (x := l2) 2 rfl (pz_dc dX10_feared 29 rfl) rfl ?_
      refine pz_goto (pc' := 56) (pz_dc dX10_feared 30 rfl) (by decide) ?_
      refine pz_istore_n (pc' := 57) (lv' := [(1, .int l2), (0, .ref l0), (2, .int l2)]) rfl (pz_dc dX10_feared 32 rfl) (by decide) rfl ?_
      refine pz_iinc (pc' := 60) (x := l2) (v := l2 + (1 : Int32)) (lv' := [(2, .int (l2 + (1 : Int32))), (1, .int l2), (0, .ref l0)]) 2 rfl (pz_dc dX10_feared 33 rfl) rfl rfl (by decide) rfl ?_
      refine pz_goto (pc' := 9) (pz_dc dX10_feared 34 rfl) (by decide) ?_
      refine pz_lv (lv' := [(0, .ref l0), (1, .int l2), (2, .int (l2 + (1 : Int32)))]) [2, 1, 0] rfl ?_
      exact hb
set_option maxRecDepth 20000 in
set_option maxHeartbeats 4000000 in
theorem wX10_canHave_0 {Ex : State → Nat → Prop} {Q : Option Value → pz_H → Prop} {d bc bs : Nat} {l0 : Nat} {l1 : Int32} {l2 : Int32} {l3 : Int32}  {h : pz_H} (hD : 1 ≤ d) (hb : (¬ (eX10_has l3 l2) = 0 → Q (some (.int 0)) h) ∧ ((eX10_has l3 l2) = 0 → pz_gR h l0 10 0 (fun (a1 : Nat) => pz_rI h a1 (((24 : Int32)) + l2) (fun (x2 : Int32) => pz_gR h l0 10 15 (fun (a3 : Nat) => pz_rI h a3 l1 (fun (x4 : Int32) => (x2 = x4 → Q (some (.int 0)) h) ∧ (¬ x2 = x4 → Q (some (.int 1)) h))))))) : pz_V mX10_canHave Ex Q d bc bs 0 [(0, .ref l0), (1, .int l1), (2, .int l2), (3, .int l3)] [] h := by
  refine pz_iload_n (pc' := 1) (x := l3) 3 rfl (pz_dc dX10_canHave 0 rfl) rfl ?_
  refine pz_iload_n (pc' := 2) (x := l2) 2 rfl (pz_dc dX10_canHave 1 rfl) rfl ?_
  refine pz_callS (M := mX10_canHave) (N := mX10_has) (d' := 0) (bc1 := 0) (bs1 := 0) (bc2 := bc) (bs2 := bs) (pc' := 5) [.int l3, .int l2] sX10_277 rfl (pz_dc dX10_canHave 2 rfl) rfl (Nat.le_of_ble_eq_true rfl) (Nat.le_of_ble_eq_true rfl) rfl (by omega) (by omega) (by omega) ?_
  refine cX10_has ?_
  show pz_V mX10_canHave _ _ _ _ _ 5 [(0, .ref l0), (1, .int l1), (2, .int l2), (3, .int l3)] [.int (eX10_has l3 l2)] h
  refine pz_if_ne (pc' := 8) (tgt := 30) rfl (pz_dc dX10_canHave 3 rfl) (by decide) (fun hc => ?_) (fun hc => ?_)
  · replace hb := hb.1 hc
    refine pz_iconst (pc' := 31) (v := 0) rfl (pz_dc dX10_canHave 17 rfl) ki_0 ?_
    exact pz_zret (pz_dc dX10_canHave 18 rfl) rfl ⟨by decide, hb⟩
  · replace hb := hb.2 hc
    refine pz_aload_n (pc' := 9) (x := l0) 0 rfl (pz_dc dX10_canHave 4 rfl) rfl ?_
    refine pz_getR (M := mX10_canHave) hb fX10_9 (pc' := 12) rfl (pz_dc dX10_canHave 5 rfl) (fun a1 hb => ?_)
    refine pz_bipush (pc' := 14) (v := 24) rfl (pz_dc dX10_canHave 6 rfl) kb_24 ?_
    refine pz_iload_n (pc' := 15) (x := l2) 2 rfl (pz_dc dX10_canHave 7 rfl) rfl ?_
    refine pz_iadd (pc' := 16) rfl (pz_dc dX10_canHave 8 rfl) ?_
    refine pz_ldI hb (pc' := 17) rfl (pz_dc dX10_canHave 9 rfl) (fun x2 hb => ?_)
    refine pz_aload_n (pc' := 18) (x := l0) 0 rfl (pz_dc dX10_canHave 10 rfl) rfl ?_
    refine pz_getR (M := mX10_canHave) hb fX10_30 (pc' := 21) rfl (pz_dc dX10_canHave 11 rfl) (fun a3 hb => ?_)
    refine pz_iload_n (pc' := 22) (x := l1) 1 rfl (pz_dc dX10_canHave 12 rfl) rfl ?_
    refine pz_ldI hb (pc' := 23) rfl (pz_dc dX10_canHave 13 rfl) (fun x4 hb => ?_)
    refine pz_icmp_eq (pc' := 26) (tgt := 30) rfl (pz_dc dX10_canHave 14 rfl) (by decide) (fun hc => ?_) (fun hc => ?_)
    · replace hb := hb.1 hc
      refine pz_iconst (pc' := 31) (v := 0) rfl (pz_dc dX10_canHave 17 rfl) ki_0 ?_
      exact pz_zret (pz_dc dX10_canHave 18 rfl) rfl ⟨by decide, hb⟩
    · replace hb := hb.2 hc
      refine pz_iconst (pc' := 27) (v := 1) rfl (pz_dc dX10_canHave 15 rfl) ki_1 ?_
      refine pz_goto (pc' := 31) (pz_dc dX10_canHave 16 rfl) (by decide) ?_
      exact pz_zret (pz_dc dX10_canHave 18 rfl) rfl ⟨by decide, hb⟩
set_option maxRecDepth 20000 in
set_option maxHeartbeats 4000000 in
theorem wX10_heirs_0 {Ex : State → Nat → Prop} {Q : Option Value → pz_H → Prop} {d bc bs : Nat} {l0 : Nat}  {h : pz_H} (hD : 3 ≤ d) (hb : pz_pF h l0 10 9 (.int 0) (fun (h1 : pz_H) => pz_is h1 l0 10 ∧ (pz_kv mX10_beginText 1 0 0 (.ref l0 :: [.int 6]) h1 (fun (h2 : pz_H) => pz_V mX10_heirs Ex Q d bc bs 13 [(0, .ref l0), (1, .int 0)] [] h2)))) : pz_V mX10_heirs Ex Q d bc bs 0 [(0, .ref l0)] [] h := by
  refine pz_aload_n (pc' := 1) (x := l0) 0 rfl (pz_dc dX10_heirs 0 rfl) rfl ?_
  refine pz_iconst (pc' := 2) (v := 0) rfl (pz_dc dX10_heirs 1 rfl) ki_0 ?_
  refine pz_putv (M := mX10_heirs) hb (pX10_95 _ rfl) rfl rfl (pc' := 5) rfl (pz_dc dX10_heirs 2 rfl) (fun h1 hb => ?_)
  refine pz_aload_n (pc' := 6) (x := l0) 0 rfl (pz_dc dX10_heirs 3 rfl) rfl ?_
  refine pz_bipush (pc' := 8) (v := 6) rfl (pz_dc dX10_heirs 4 rfl) kb_6 ?_
  refine pz_cVv (M := mX10_heirs) (N := mX10_beginText) (d' := 1) (bc1 := 0) (bs1 := 0) (bc2 := bc) (bs2 := bs) (pc' := 11) [.int 6] hb vX10_154 rfl (pz_dc dX10_heirs 5 rfl) rfl (Nat.le_of_ble_eq_true rfl) (Nat.le_of_ble_eq_true rfl) rfl (by omega) (by omega) (by omega) (fun h2 hb => ?_)
  refine pz_iconst (pc' := 12) (v := 0) rfl (pz_dc dX10_heirs 6 rfl) ki_0 ?_
  refine pz_istore_n (pc' := 13) (lv' := [(1, .int 0), (0, .ref l0)]) rfl (pz_dc dX10_heirs 7 rfl) (by decide) rfl ?_
  refine pz_lv (lv' := [(0, .ref l0), (1, .int 0)]) [1, 0] rfl ?_
  exact hb
set_option maxRecDepth 20000 in
set_option maxHeartbeats 4000000 in
theorem wX10_heirs_13 {Ex : State → Nat → Prop} {Q : Option Value → pz_H → Prop} {d bc bs : Nat} {l0 : Nat} {l1 : Int32}  {h : pz_H} (hD : 3 ≤ d) (hb : pz_is h l0 10 ∧ (pz_gI h l0 10 14 (fun (x1 : Int32) => ((eX10_fine x1) = 0 → pz_is h l0 10 ∧ (pz_ki mX10_wasRight 2 0 0 (.ref l0 :: []) h (fun (x6 : Int32) (h5 : pz_H) => (¬ x6 = 0 → pz_V mX10_heirs Ex Q d bc bs 67 [(0, .ref l0), (1, .int l1), (2, .int 0)] [] h5) ∧ (x6 = 0 → pz_gI h5 l0 10 14 (fun (x7 : Int32) => Q (some (.int (((-1 : Int32)) - x7))) h5))))) ∧ (¬ (eX10_fine x1) = 0 → (l1 = 0 → pz_gR h l0 10 15 (fun (a8 : Nat) => pz_is h l0 10 ∧ (pz_ki mX10_oneOf 2 0 0 (.ref l0 :: [.int 97, .int 4]) h (fun (x10 : Int32) (h9 : pz_H) => pz_sI h9 a8 l1 x10 (fun (h11 : pz_H) => pz_V mX10_heirs Ex Q d bc bs 13 [(0, .ref l0), (1, .int (l1 + (1 : Int32)))] [] h11))))) ∧ (¬ l1 = 0 → pz_is h l0 10 ∧ (pz_ki mX10_here 0 0 0 (.ref l0 :: []) h (fun (x13 : Int32) (h12 : pz_H) => (x13 = ((-1 : Int32)) → pz_is h12 l0 10 ∧ (pz_ki mX10_wasRight 2 0 0 (.ref l0 :: []) h12 (fun (x15 : Int32) (h14 : pz_H) => (¬ x15 = 0 → pz_V mX10_heirs Ex Q d bc bs 67 [(0, .ref l0), (1, .int l1), (2, .int 0)] [] h14) ∧ (x15 = 0 → pz_gI h14 l0 10 14 (fun (x16 : Int32) => Q (some (.int (((-1 : Int32)) - x16))) h14))))) ∧ (¬ x13 = ((-1 : Int32)) → pz_gR h12 l0 10 15 (fun (a17 : Nat) => pz_is h12 l0 10 ∧ (pz_ki mX10_oneOf 2 0 0 (.ref l0 :: [.int 97, .int 4]) h12 (fun (x19 : Int32) (h18 : pz_H) => pz_sI h18 a17 l1 x19 (fun (h20 : pz_H) => pz_V mX10_heirs Ex Q d bc bs 13 [(0, .ref l0), (1, .int (l1 + (1 : Int32)))] [] h20)))))))))))) : pz_V mX10_heirs Ex Q d bc bs 13 [(0, .ref l0), (1, .int l1)] [] h := by
  refine pz_aload_n (pc' := 14) (x := l0) 0 rfl (pz_dc dX10_heirs 8 rfl) rfl ?_
  obtain ⟨⟨fs21, hf22⟩, hb⟩ := hb
  obtain ⟨fs2, x1, g3, g4, hb⟩ := hb
  refine pz_callV (M := mX10_heirs) (N := mX10_fine) (d' := 0) (bc1 := 0) (bs1 := 0) (bc2 := bc) (bs2 := bs) (pc' := 17) [] vX10_134 rfl (pz_dc dX10_heirs 9 rfl) rfl (Nat.le_of_ble_eq_true rfl) (Nat.le_of_ble_eq_true rfl) rfl (by omega) (by omega) (by omega) hf22 ?_
  refine cX10_fine ⟨fs2, x1, g3, g4, ?_⟩
  show pz_V mX10_heirs _ _ _ _ _ 17 [(0, .ref l0), (1, .int l1)] [.int (eX10_fine x1)] h
  refine pz_if_eq (pc' := 20) (tgt := 51) rfl (pz_dc dX10_heirs 10 rfl) (by decide) (fun hc => ?_) (fun hc => ?_)
  · replace hb := hb.1 hc
    refine pz_aload_n (pc' := 52) (x := l0) 0 rfl (pz_dc dX10_heirs 27 rfl) rfl ?_
    refine pz_cVi (M := mX10_heirs) (N := mX10_wasRight) (d' := 2) (bc1 := 0) (bs1 := 0) (bc2 := bc) (bs2 := bs) (pc' := 55) [] hb vX10_160 rfl (pz_dc dX10_heirs 28 rfl) rfl (Nat.le_of_ble_eq_true rfl) (Nat.le_of_ble_eq_true rfl) rfl (by omega) (by omega) (by omega) (fun x6 h5 hb => ?_)
    refine pz_if_ne (pc' := 58) (tgt := 65) rfl (pz_dc dX10_heirs 29 rfl) (by decide) (fun hc => ?_) (fun hc => ?_)
    · replace hb := hb.1 hc
      refine pz_iconst (pc' := 66) (v := 0) rfl (pz_dc dX10_heirs 35 rfl) ki_0 ?_
      refine pz_istore_n (pc' := 67) (lv' := [(2, .int 0), (0, .ref l0), (1, .int l1)]) rfl (pz_dc dX10_heirs 36 rfl) (by decide) rfl ?_
      refine pz_lv (lv' := [(0, .ref l0), (1, .int l1), (2, .int 0)]) [1, 2, 0] rfl ?_
      exact hb
    · replace hb := hb.2 hc
      refine pz_iconst (pc' := 59) (v := (-1)) rfl (pz_dc dX10_heirs 30 rfl) ki_m1 ?_
      refine pz_aload_n (pc' := 60) (x := l0) 0 rfl (pz_dc dX10_heirs 31 rfl) rfl ?_
      refine pz_getI (M := mX10_heirs) hb fX10_127 (pc' := 63) rfl (pz_dc dX10_heirs 32 rfl) (fun x7 hb => ?_)
      refine pz_isub (pc' := 64) rfl (pz_dc dX10_heirs 33 rfl) ?_
      exact pz_iret (pz_dc dX10_heirs 34 rfl) rfl hb
  · replace hb := hb.2 hc
    refine pz_iload_n (pc' := 21) (x := l1) 1 rfl (pz_dc dX10_heirs 11 rfl) rfl ?_
    refine pz_if_eq (pc' := 24) (tgt := 32) rfl (pz_dc dX10_heirs 12 rfl) (by decide) (fun hc => ?_) (fun hc => ?_)
    · replace hb := hb.1 hc
      refine pz_aload_n (pc' := 33) (x := l0) 0 rfl (pz_dc dX10_heirs 17 rfl) rfl ?_
      refine pz_getR (M := mX10_heirs) hb fX10_30 (pc' := 36) rfl (pz_dc dX10_heirs 18 rfl) (fun a8 hb => ?_)
      refine pz_iload_n (pc' := 37) (x := l1) 1 rfl (pz_dc dX10_heirs 19 rfl) rfl ?_
      refine pz_aload_n (pc' := 38) (x := l0) 0 rfl (pz_dc dX10_heirs 20 rfl) rfl ?_
      refine pz_bipush (pc' := 40) (v := 97) rfl (pz_dc dX10_heirs 21 rfl) kb_97 ?_
      refine pz_iconst (pc' := 41) (v := 4) rfl (pz_dc dX10_heirs 22 rfl) ki_4 ?_
      refine pz_cVi (M := mX10_heirs) (N := mX10_oneOf) (d' := 2) (bc1 := 0) (bs1 := 0) (bc2 := bc) (bs2 := bs) (pc' := 44) [.int 97, .int 4] hb vX10_150 rfl (pz_dc dX10_heirs 23 rfl) rfl (Nat.le_of_ble_eq_true rfl) (Nat.le_of_ble_eq_true rfl) rfl (by omega) (by omega) (by omega) (fun x10 h9 hb => ?_)
      refine pz_stI hb (pc' := 45) rfl (pz_dc dX10_heirs 24 rfl) (fun h11 hb => ?_)
      refine pz_iinc (pc' := 48) (x := l1) (v := l1 + (1 : Int32)) (lv' := [(1, .int (l1 + (1 : Int32))), (0, .ref l0)]) 1 rfl (pz_dc dX10_heirs 25 rfl) rfl rfl (by decide) rfl ?_
      refine pz_goto (pc' := 13) (pz_dc dX10_heirs 26 rfl) (by decide) ?_
      refine pz_lv (lv' := [(0, .ref l0), (1, .int (l1 + (1 : Int32)))]) [1, 0] rfl ?_
      exact hb
    · replace hb := hb.2 hc
      refine pz_aload_n (pc' := 25) (x := l0) 0 rfl (pz_dc dX10_heirs 13 rfl) rfl ?_
      refine pz_cVi (M := mX10_heirs) (N := mX10_here) (d' := 0) (bc1 := 0) (bs1 := 0) (bc2 := bc) (bs2 := bs) (pc' := 28) [] hb vX10_138 rfl (pz_dc dX10_heirs 14 rfl) rfl (Nat.le_of_ble_eq_true rfl) (Nat.le_of_ble_eq_true rfl) rfl (by omega) (by omega) (by omega) (fun x13 h12 hb => ?_)
      refine pz_iconst (pc' := 29) (v := (-1)) rfl (pz_dc dX10_heirs 15 rfl) ki_m1 ?_
      refine pz_icmp_eq (pc' := 32) (tgt := 51) rfl (pz_dc dX10_heirs 16 rfl) (by decide) (fun hc => ?_) (fun hc => ?_)
      · replace hb := hb.1 hc
        refine pz_aload_n (pc' := 52) (x := l0) 0 rfl (pz_dc dX10_heirs 27 rfl) rfl ?_
        refine pz_cVi (M := mX10_heirs) (N := mX10_wasRight) (d' := 2) (bc1 := 0) (bs1 := 0) (bc2 := bc) (bs2 := bs) (pc' := 55) [] hb vX10_160 rfl (pz_dc dX10_heirs 28 rfl) rfl (Nat.le_of_ble_eq_true rfl) (Nat.le_of_ble_eq_true rfl) rfl (by omega) (by omega) (by omega) (fun x15 h14 hb => ?_)
        refine pz_if_ne (pc' := 58) (tgt := 65) rfl (pz_dc dX10_heirs 29 rfl) (by decide) (fun hc => ?_) (fun hc => ?_)
        · replace hb := hb.1 hc
          refine pz_iconst (pc' := 66) (v := 0) rfl (pz_dc dX10_heirs 35 rfl) ki_0 ?_
          refine pz_istore_n (pc' := 67) (lv' := [(2, .int 0), (0, .ref l0), (1, .int l1)]) rfl (pz_dc dX10_heirs 36 rfl) (by decide) rfl ?_
          refine pz_lv (lv' := [(0, .ref l0), (1, .int l1), (2, .int 0)]) [1, 2, 0] rfl ?_
          exact hb
        · replace hb := hb.2 hc
          refine pz_iconst (pc' := 59) (v := (-1)) rfl (pz_dc dX10_heirs 30 rfl) ki_m1 ?_
          refine pz_aload_n (pc' := 60) (x := l0) 0 rfl (pz_dc dX10_heirs 31 rfl) rfl ?_
          refine pz_getI (M := mX10_heirs) hb fX10_127 (pc' := 63) rfl (pz_dc dX10_heirs 32 rfl) (fun x16 hb => ?_)
          refine pz_isub (pc' := 64) rfl (pz_dc dX10_heirs 33 rfl) ?_
          exact pz_iret (pz_dc dX10_heirs 34 rfl) rfl hb
      · replace hb := hb.2 hc
        refine pz_aload_n (pc' := 33) (x := l0) 0 rfl (pz_dc dX10_heirs 17 rfl) rfl ?_
        refine pz_getR (M := mX10_heirs) hb fX10_30 (pc' := 36) rfl (pz_dc dX10_heirs 18 rfl) (fun a17 hb => ?_)
        refine pz_iload_n (pc' := 37) (x := l1) 1 rfl (pz_dc dX10_heirs 19 rfl) rfl ?_
        refine pz_aload_n (pc' := 38) (x := l0) 0 rfl (pz_dc dX10_heirs 20 rfl) rfl ?_
        refine pz_bipush (pc' := 40) (v := 97) rfl (pz_dc dX10_heirs 21 rfl) kb_97 ?_
        refine pz_iconst (pc' := 41) (v := 4) rfl (pz_dc dX10_heirs 22 rfl) ki_4 ?_
        refine pz_cVi (M := mX10_heirs) (N := mX10_oneOf) (d' := 2) (bc1 := 0) (bs1 := 0) (bc2 := bc) (bs2 := bs) (pc' := 44) [.int 97, .int 4] hb vX10_150 rfl (pz_dc dX10_heirs 23 rfl) rfl (Nat.le_of_ble_eq_true rfl) (Nat.le_of_ble_eq_true rfl) rfl (by omega) (by omega) (by omega) (fun x19 h18 hb => ?_)
        refine pz_stI hb (pc' := 45) rfl (pz_dc dX10_heirs 24 rfl) (fun h20 hb => ?_)
        refine pz_iinc (pc' := 48) (x := l1) (v := l1 + (1 : Int32)) (lv' := [(1, .int (l1 + (1 : Int32))), (0, .ref l0)]) 1 rfl (pz_dc dX10_heirs 25 rfl) rfl rfl (by decide) rfl ?_
        refine pz_goto (pc' := 13) (pz_dc dX10_heirs 26 rfl) (by decide) ?_
        refine pz_lv (lv' := [(0, .ref l0), (1, .int (l1 + (1 : Int32)))]) [1, 0] rfl ?_
        exact hb
set_option maxRecDepth 20000 in
set_option maxHeartbeats 4000000 in
theorem wX10_heirs_67 {Ex : State → Nat → Prop} {Q : Option Value → pz_H → Prop} {d bc bs : Nat} {l0 : Nat} {l1 : Int32} {l2 : Int32}  {h : pz_H} (hD : 3 ≤ d) (hb : pz_is h l0 10 ∧ (pz_gI h l0 10 1 (fun (x1 : Int32) => ((eX10_all x1) < l2 → pz_V mX10_heirs Ex Q d bc bs 97 [(0, .ref l0), (1, .int l1), (2, .int (l1 - ((1 : Int32))))] [] h) ∧ (¬ (eX10_all x1) < l2 → pz_gR h l0 10 35 (fun (a5 : Nat) => pz_sI h a5 ((l1 <<< (((6 : Int32)) &&& 31)) ||| l2) 0 (fun (h6 : pz_H) => pz_V mX10_heirs Ex Q d bc bs 67 [(0, .ref l0), (1, .int l1), (2, .int (l2 + (1 : Int32)))] [] h6)))))) : pz_V mX10_heirs Ex Q d bc bs 67 [(0, .ref l0), (1, .int l1), (2, .int l2)] [] h := by
  refine pz_iload_n (pc' := 68) (x := l2) 2 rfl (pz_dc dX10_heirs 37 rfl) rfl ?_
  refine pz_aload_n (pc' := 69) (x := l0) 0 rfl (pz_dc dX10_heirs 38 rfl) rfl ?_
  obtain ⟨⟨fs7, hf8⟩, hb⟩ := hb
  obtain ⟨fs2, x1, g3, g4, hb⟩ := hb
  refine pz_callV (M := mX10_heirs) (N := mX10_all) (d' := 0) (bc1 := 0) (bs1 := 0) (bc2 := bc) (bs2 := bs) (pc' := 72) [] vX10_293 rfl (pz_dc dX10_heirs 39 rfl) rfl (Nat.le_of_ble_eq_true rfl) (Nat.le_of_ble_eq_true rfl) rfl (by omega) (by omega) (by omega) hf8 ?_
  refine cX10_all ⟨fs2, x1, g3, g4, ?_⟩
  show pz_V mX10_heirs _ _ _ _ _ 72 [(0, .ref l0), (1, .int l1), (2, .int l2)] [.int (eX10_all x1), .int l2] h
  refine pz_icmp_gt (pc' := 75) (tgt := 93) rfl (pz_dc dX10_heirs 40 rfl) (by decide) (fun hc => ?_) (fun hc => ?_)
  · replace hb := hb.1 hc
    refine pz_iload_n (pc' := 94) (x := l1) 1 rfl (pz_dc dX10_heirs 52 rfl) rfl ?_
    refine pz_iconst (pc' := 95) (v := 1) rfl (pz_dc dX10_heirs 53 rfl) ki_1 ?_
    refine pz_isub (pc' := 96) rfl (pz_dc dX10_heirs 54 rfl) ?_
    refine pz_istore_n (pc' := 97) (lv' := [(2, .int (l1 - ((1 : Int32)))), (0, .ref l0), (1, .int l1)]) rfl (pz_dc dX10_heirs 55 rfl) (by decide) rfl ?_
    refine pz_lv (lv' := [(0, .ref l0), (1, .int l1), (2, .int (l1 - ((1 : Int32))))]) [1, 2, 0] rfl ?_
    exact hb
  · replace hb := hb.2 hc
    refine pz_aload_n (pc' := 76) (x := l0) 0 rfl (pz_dc dX10_heirs 41 rfl) rfl ?_
    refine pz_getR (M := mX10_heirs) hb fX10_76 (pc' := 79) rfl (pz_dc dX10_heirs 42 rfl) (fun a5 hb => ?_)
    refine pz_iload_n (pc' := 80) (x := l1) 1 rfl (pz_dc dX10_heirs 43 rfl) rfl ?_
    refine pz_bipush (pc' := 82) (v := 6) rfl (pz_dc dX10_heirs 44 rfl) kb_6 ?_
    refine pz_ishl (pc' := 83) rfl (pz_dc dX10_heirs 45 rfl) ?_
    refine pz_iload_n (pc' := 84) (x := l2) 2 rfl (pz_dc dX10_heirs 46 rfl) rfl ?_
    refine pz_ior (pc' := 85) rfl (pz_dc dX10_heirs 47 rfl) ?_
    refine pz_iconst (pc' := 86) (v := 0) rfl (pz_dc dX10_heirs 48 rfl) ki_0 ?_
    refine pz_stI hb (pc' := 87) rfl (pz_dc dX10_heirs 49 rfl) (fun h6 hb => ?_)
    refine pz_iinc (pc' := 90) (x := l2) (v := l2 + (1 : Int32)) (lv' := [(2, .int (l2 + (1 : Int32))), (0, .ref l0), (1, .int l1)]) 2 rfl (pz_dc dX10_heirs 50 rfl) rfl rfl (by decide) rfl ?_
    refine pz_goto (pc' := 67) (pz_dc dX10_heirs 51 rfl) (by decide) ?_
    refine pz_lv (lv' := [(0, .ref l0), (1, .int l1), (2, .int (l2 + (1 : Int32)))]) [1, 2, 0] rfl ?_
    exact hb
set_option maxRecDepth 20000 in
set_option maxHeartbeats 4000000 in
theorem wX10_heirs_97 {Ex : State → Nat → Prop} {Q : Option Value → pz_H → Prop} {d bc bs : Nat} {l0 : Nat} {l1 : Int32} {l2 : Int32}  {h : pz_H} (hD : 3 ≤ d) (hb : (l2 < 0 → pz_pF h l0 10 8 (.int 0) (fun (h1 : pz_H) => pz_V mX10_heirs Ex Q d bc bs 222 [(0, .ref l0), (1, .int l1), (2, .int 0), (3, .int 0)] [] h1)) ∧ (¬ l2 < 0 → pz_V mX10_heirs Ex Q d bc bs 103 [(0, .ref l0), (1, .int l1), (2, .int l2), (3, .int 0)] [] h)) : pz_V mX10_heirs Ex Q d bc bs 97 [(0, .ref l0), (1, .int l1), (2, .int l2)] [] h := by
  refine pz_iload_n (pc' := 98) (x := l2) 2 rfl (pz_dc dX10_heirs 56 rfl) rfl ?_
  refine pz_if_lt (pc' := 101) (tgt := 213) rfl (pz_dc dX10_heirs 57 rfl) (by decide) (fun hc => ?_) (fun hc => ?_)
  · replace hb := hb.1 hc
    refine pz_aload_n (pc' := 214) (x := l0) 0 rfl (pz_dc dX10_heirs 124 rfl) rfl ?_
    refine pz_iconst (pc' := 215) (v := 0) rfl (pz_dc dX10_heirs 125 rfl) ki_0 ?_
    refine pz_putv (M := mX10_heirs) hb (pX10_98 _ rfl) rfl rfl (pc' := 218) rfl (pz_dc dX10_heirs 126 rfl) (fun h1 hb => ?_)
    refine pz_iconst (pc' := 219) (v := 0) rfl (pz_dc dX10_heirs 127 rfl) ki_0 ?_
    refine pz_istore_n (pc' := 220) (lv' := [(2, .int 0), (0, .ref l0), (1, .int l1)]) rfl (pz_dc dX10_heirs 128 rfl) (by decide) rfl ?_
    refine pz_iconst (pc' := 221) (v := 0) rfl (pz_dc dX10_heirs 129 rfl) ki_0 ?_
    refine pz_istore_n (pc' := 222) (lv' := [(3, .int 0), (2, .int 0), (0, .ref l0), (1, .int l1)]) rfl (pz_dc dX10_heirs 130 rfl) (by decide) rfl ?_
    refine pz_lv (lv' := [(0, .ref l0), (1, .int l1), (2, .int 0), (3, .int 0)]) [2, 3, 1, 0] rfl ?_
    exact hb
  · replace hb := hb.2 hc
    refine pz_iconst (pc' := 102) (v := 0) rfl (pz_dc dX10_heirs 58 rfl) ki_0 ?_
    refine pz_istore_n (pc' := 103) (lv' := [(3, .int 0), (0, .ref l0), (1, .int l1), (2, .int l2)]) rfl (pz_dc dX10_heirs 59 rfl) (by decide) rfl ?_
    refine pz_lv (lv' := [(0, .ref l0), (1, .int l1), (2, .int l2), (3, .int 0)]) [1, 2, 3, 0] rfl ?_
    exact hb
set_option maxRecDepth 20000 in
set_option maxHeartbeats 4000000 in
theorem wX10_heirs_222 {Ex : State → Nat → Prop} {Q : Option Value → pz_H → Prop} {d bc bs : Nat} {l0 : Nat} {l1 : Int32} {l2 : Int32} {l3 : Int32}  {h : pz_H} (hD : 3 ≤ d) (hb : (l1 ≤ l3 → pz_gR h l0 10 35 (fun (a1 : Nat) => pz_rI h a1 0 (fun (x2 : Int32) => Q (some (.int x2)) h))) ∧ (¬ l1 ≤ l3 → pz_gR h l0 10 35 (fun (a3 : Nat) => pz_rI h a3 ((l3 <<< (((6 : Int32)) &&& 31)) ||| l2) (fun (x4 : Int32) => pz_gR h l0 10 35 (fun (a5 : Nat) => pz_rI h a5 (((l3 + ((1 : Int32))) <<< (((6 : Int32)) &&& 31)) ||| l2) (fun (x6 : Int32) => (x6 = x4 → pz_is h l0 10 ∧ (pz_kv mX10_tell 0 0 0 (.ref l0 :: [.long (((-1 : Int32)).toInt64)]) h (fun (h7 : pz_H) => pz_V mX10_heirs Ex Q d bc bs 222 [(0, .ref l0), (1, .int l1), (2, .int l2), (3, .int (l3 + (1 : Int32)))] [] h7))) ∧ (¬ x6 = x4 → pz_V mX10_heirs Ex Q d bc bs 264 [(0, .ref l0), (1, .int l1), (2, .int l2), (3, .int l3), (4, .int x4), (5, .int 0)] [] h))))))) : pz_V mX10_heirs Ex Q d bc bs 222 [(0, .ref l0), (1, .int l1), (2, .int l2), (3, .int l3)] [] h := by
  refine pz_iload_n (pc' := 223) (x := l3) 3 rfl (pz_dc dX10_heirs 131 rfl) rfl ?_
  refine pz_iload_n (pc' := 224) (x := l1) 1 rfl (pz_dc dX10_heirs 132 rfl) rfl ?_
  refine pz_icmp_ge (pc' := 227) (tgt := 332) rfl (pz_dc dX10_heirs 133 rfl) (by decide) (fun hc => ?_) (fun hc => ?_)
  · replace hb := hb.1 hc
    refine pz_aload_n (pc' := 333) (x := l0) 0 rfl (pz_dc dX10_heirs 200 rfl) rfl ?_
    refine pz_getR (M := mX10_heirs) hb fX10_76 (pc' := 336) rfl (pz_dc dX10_heirs 201 rfl) (fun a1 hb => ?_)
    refine pz_iconst (pc' := 337) (v := 0) rfl (pz_dc dX10_heirs 202 rfl) ki_0 ?_
    refine pz_ldI hb (pc' := 338) rfl (pz_dc dX10_heirs 203 rfl) (fun x2 hb => ?_)
    exact pz_iret (pz_dc dX10_heirs 204 rfl) rfl hb
  · replace hb := hb.2 hc
    refine pz_aload_n (pc' := 228) (x := l0) 0 rfl (pz_dc dX10_heirs 134 rfl) rfl ?_
    refine pz_getR (M := mX10_heirs) hb fX10_76 (pc' := 231) rfl (pz_dc dX10_heirs 135 rfl) (fun a3 hb => ?_)
    refine pz_iload_n (pc' := 232) (x := l3) 3 rfl (pz_dc dX10_heirs 136 rfl) rfl ?_
    refine pz_bipush (pc' := 234) (v := 6) rfl (pz_dc dX10_heirs 137 rfl) kb_6 ?_
    refine pz_ishl (pc' := 235) rfl (pz_dc dX10_heirs 138 rfl) ?_
    refine pz_iload_n (pc' := 236) (x := l2) 2 rfl (pz_dc dX10_heirs 139 rfl) rfl ?_
    refine pz_ior (pc' := 237) rfl (pz_dc dX10_heirs 140 rfl) ?_
    refine pz_ldI hb (pc' := 238) rfl (pz_dc dX10_heirs 141 rfl) (fun x4 hb => ?_)
    refine pz_istore (pc' := 240) (lv' := [(4, .int x4), (0, .ref l0), (1, .int l1), (2, .int l2), (3, .int l3)]) rfl (pz_dc dX10_heirs 142 rfl) (by decide) rfl ?_
    refine pz_iconst (pc' := 241) (v := (-1)) rfl (pz_dc dX10_heirs 143 rfl) ki_m1 ?_
    refine pz_istore (pc' := 243) (lv' := [(5, .int ((-1))), (4, .int x4), (0, .ref l0), (1, .int l1), (2, .int l2), (3, .int l3)]) rfl (pz_dc dX10_heirs 144 rfl) (by decide) rfl ?_
    refine pz_aload_n (pc' := 244) (x := l0) 2 rfl (pz_dc dX10_heirs 145 rfl) rfl ?_
    refine pz_getR (M := mX10_heirs) hb fX10_76 (pc' := 247) rfl (pz_dc dX10_heirs 146 rfl) (fun a5 hb => ?_)
    refine pz_iload_n (pc' := 248) (x := l3) 5 rfl (pz_dc dX10_heirs 147 rfl) rfl ?_
    refine pz_iconst (pc' := 249) (v := 1) rfl (pz_dc dX10_heirs 148 rfl) ki_1 ?_
    refine pz_iadd (pc' := 250) rfl (pz_dc dX10_heirs 149 rfl) ?_
    refine pz_bipush (pc' := 252) (v := 6) rfl (pz_dc dX10_heirs 150 rfl) kb_6 ?_
    refine pz_ishl (pc' := 253) rfl (pz_dc dX10_heirs 151 rfl) ?_
    refine pz_iload_n (pc' := 254) (x := l2) 4 rfl (pz_dc dX10_heirs 152 rfl) rfl ?_
    refine pz_ior (pc' := 255) rfl (pz_dc dX10_heirs 153 rfl) ?_
    refine pz_ldI hb (pc' := 256) rfl (pz_dc dX10_heirs 154 rfl) (fun x6 hb => ?_)
    refine pz_iload (pc' := 258) (x := x4) 1 rfl (pz_dc dX10_heirs 155 rfl) rfl ?_
    refine pz_icmp_eq (pc' := 261) (tgt := 319) rfl (pz_dc dX10_heirs 156 rfl) (by decide) (fun hc => ?_) (fun hc => ?_)
    · replace hb := hb.1 hc
      refine pz_aload_n (pc' := 320) (x := l0) 2 rfl (pz_dc dX10_heirs 194 rfl) rfl ?_
      refine pz_iload (pc' := 322) (x := (-1)) 0 rfl (pz_dc dX10_heirs 195 rfl) rfl ?_
      refine pz_i2l (pc' := 323) rfl (pz_dc dX10_heirs 196 rfl) ?_
      refine pz_cVv (M := mX10_heirs) (N := mX10_tell) (d' := 0) (bc1 := 0) (bs1 := 0) (bc2 := bc) (bs2 := bs) (pc' := 326) [.long (((-1 : Int32)).toInt64)] hb vX10_248 rfl (pz_dc dX10_heirs 197 rfl) rfl (Nat.le_of_ble_eq_true rfl) (Nat.le_of_ble_eq_true rfl) rfl (by omega) (by omega) (by omega) (fun h7 hb => ?_)
      refine pz_iinc (pc' := 329) (x := l3) (v := l3 + (1 : Int32)) (lv' := [(3, .int (l3 + (1 : Int32))), (5, .int ((-1))), (4, .int x4), (0, .ref l0), (1, .int l1), (2, .int l2)]) 5 rfl (pz_dc dX10_heirs 198 rfl) rfl rfl (by decide) rfl ?_
      refine pz_goto (pc' := 222) (pz_dc dX10_heirs 199 rfl) (by decide) ?_
      refine pz_lv (lv' := [(0, .ref l0), (1, .int l1), (2, .int l2), (3, .int (l3 + (1 : Int32)))]) [3, 4, 5, 0] rfl ?_
      exact hb
    · replace hb := hb.2 hc
      refine pz_iconst (pc' := 262) (v := 0) rfl (pz_dc dX10_heirs 157 rfl) ki_0 ?_
      refine pz_istore (pc' := 264) (lv' := [(5, .int 0), (4, .int x4), (0, .ref l0), (1, .int l1), (2, .int l2), (3, .int l3)]) rfl (pz_dc dX10_heirs 158 rfl) (by decide) rfl ?_
      refine pz_lv (lv' := [(0, .ref l0), (1, .int l1), (2, .int l2), (3, .int l3), (4, .int x4), (5, .int 0)]) [2, 3, 4, 5, 1, 0] rfl ?_
      exact hb
set_option maxRecDepth 20000 in
set_option maxHeartbeats 4000000 in
theorem wX10_heirs_103 {Ex : State → Nat → Prop} {Q : Option Value → pz_H → Prop} {d bc bs : Nat} {l0 : Nat} {l1 : Int32} {l2 : Int32} {l3 : Int32}  {h : pz_H} (hD : 3 ≤ d) (hb : pz_is h l0 10 ∧ (pz_gI h l0 10 1 (fun (x1 : Int32) => ((eX10_all x1) < l3 → pz_V mX10_heirs Ex Q d bc bs 97 [(0, .ref l0), (1, .int l1), (2, .int (l2 + (-1 : Int32)))] [] h) ∧ (¬ (eX10_all x1) < l3 → pz_gR h l0 10 35 (fun (a5 : Nat) => pz_rI h a5 (((l2 + ((1 : Int32))) <<< (((6 : Int32)) &&& 31)) ||| l3) (fun (x6 : Int32) => pz_V mX10_heirs Ex Q d bc bs 129 [(0, .ref l0), (1, .int l1), (2, .int l2), (3, .int l3), (4, .int x6), (5, .int 0)] [] h)))))) : pz_V mX10_heirs Ex Q d bc bs 103 [(0, .ref l0), (1, .int l1), (2, .int l2), (3, .int l3)] [] h := by
  refine pz_iload_n (pc' := 104) (x := l3) 3 rfl (pz_dc dX10_heirs 60 rfl) rfl ?_
  refine pz_aload_n (pc' := 105) (x := l0) 0 rfl (pz_dc dX10_heirs 61 rfl) rfl ?_
  obtain ⟨⟨fs7, hf8⟩, hb⟩ := hb
  obtain ⟨fs2, x1, g3, g4, hb⟩ := hb
  refine pz_callV (M := mX10_heirs) (N := mX10_all) (d' := 0) (bc1 := 0) (bs1 := 0) (bc2 := bc) (bs2 := bs) (pc' := 108) [] vX10_293 rfl (pz_dc dX10_heirs 62 rfl) rfl (Nat.le_of_ble_eq_true rfl) (Nat.le_of_ble_eq_true rfl) rfl (by omega) (by omega) (by omega) hf8 ?_
  refine cX10_all ⟨fs2, x1, g3, g4, ?_⟩
  show pz_V mX10_heirs _ _ _ _ _ 108 [(0, .ref l0), (1, .int l1), (2, .int l2), (3, .int l3)] [.int (eX10_all x1), .int l3] h
  refine pz_icmp_gt (pc' := 111) (tgt := 207) rfl (pz_dc dX10_heirs 63 rfl) (by decide) (fun hc => ?_) (fun hc => ?_)
  · replace hb := hb.1 hc
    refine pz_iinc (pc' := 210) (x := l2) (v := l2 + (-1 : Int32)) (lv' := [(2, .int (l2 + (-1 : Int32))), (0, .ref l0), (1, .int l1), (3, .int l3)]) 2 rfl (pz_dc dX10_heirs 122 rfl) rfl rfl (by decide) rfl ?_
    refine pz_goto (pc' := 97) (pz_dc dX10_heirs 123 rfl) (by decide) ?_
    refine pz_lv (lv' := [(0, .ref l0), (1, .int l1), (2, .int (l2 + (-1 : Int32)))]) [1, 2, 0] rfl ?_
    exact hb
  · replace hb := hb.2 hc
    refine pz_aload_n (pc' := 112) (x := l0) 0 rfl (pz_dc dX10_heirs 64 rfl) rfl ?_
    refine pz_getR (M := mX10_heirs) hb fX10_76 (pc' := 115) rfl (pz_dc dX10_heirs 65 rfl) (fun a5 hb => ?_)
    refine pz_iload_n (pc' := 116) (x := l2) 2 rfl (pz_dc dX10_heirs 66 rfl) rfl ?_
    refine pz_iconst (pc' := 117) (v := 1) rfl (pz_dc dX10_heirs 67 rfl) ki_1 ?_
    refine pz_iadd (pc' := 118) rfl (pz_dc dX10_heirs 68 rfl) ?_
    refine pz_bipush (pc' := 120) (v := 6) rfl (pz_dc dX10_heirs 69 rfl) kb_6 ?_
    refine pz_ishl (pc' := 121) rfl (pz_dc dX10_heirs 70 rfl) ?_
    refine pz_iload_n (pc' := 122) (x := l3) 3 rfl (pz_dc dX10_heirs 71 rfl) rfl ?_
    refine pz_ior (pc' := 123) rfl (pz_dc dX10_heirs 72 rfl) ?_
    refine pz_ldI hb (pc' := 124) rfl (pz_dc dX10_heirs 73 rfl) (fun x6 hb => ?_)
    refine pz_istore (pc' := 126) (lv' := [(4, .int x6), (0, .ref l0), (1, .int l1), (2, .int l2), (3, .int l3)]) rfl (pz_dc dX10_heirs 74 rfl) (by decide) rfl ?_
    refine pz_iconst (pc' := 127) (v := 0) rfl (pz_dc dX10_heirs 75 rfl) ki_0 ?_
    refine pz_istore (pc' := 129) (lv' := [(5, .int 0), (4, .int x6), (0, .ref l0), (1, .int l1), (2, .int l2), (3, .int l3)]) rfl (pz_dc dX10_heirs 76 rfl) (by decide) rfl ?_
    refine pz_lv (lv' := [(0, .ref l0), (1, .int l1), (2, .int l2), (3, .int l3), (4, .int x6), (5, .int 0)]) [2, 3, 4, 5, 1, 0] rfl ?_
    exact hb
set_option maxRecDepth 20000 in
set_option maxHeartbeats 4000000 in
theorem wX10_heirs_264 {Ex : State → Nat → Prop} {Q : Option Value → pz_H → Prop} {d bc bs : Nat} {l0 : Nat} {l1 : Int32} {l2 : Int32} {l3 : Int32} {l4 : Int32} {l5 : Int32}  {h : pz_H} (hD : 3 ≤ d) (hb : pz_is h l0 10 ∧ (pz_ki mX10_canHave 1 0 0 (.ref l0 :: [.int l3, .int l5, .int l2]) h (fun (x2 : Int32) (h1 : pz_H) => (x2 = 0 → pz_V mX10_heirs Ex Q d bc bs 264 [(0, .ref l0), (1, .int l1), (2, .int l2), (3, .int l3), (4, .int l4), (5, .int (l5 + (1 : Int32)))] [] h1) ∧ (¬ x2 = 0 → pz_gR h1 l0 10 0 (fun (a3 : Nat) => pz_rI h1 a3 l5 (fun (x4 : Int32) => pz_gR h1 l0 10 35 (fun (a5 : Nat) => pz_rI h1 a5 ((((l3 + ((1 : Int32))) <<< (((6 : Int32)) &&& 31)) ||| l2) ||| (((1 : Int32)) <<< (l5 &&& 31))) (fun (x6 : Int32) => ((x4 + x6) = l4 → pz_is h1 l0 10 ∧ (pz_kv mX10_tell 0 0 0 (.ref l0 :: [.long l5.toInt64]) h1 (fun (h7 : pz_H) => pz_V mX10_heirs Ex Q d bc bs 222 [(0, .ref l0), (1, .int l1), (2, .int (l2 ||| (((1 : Int32)) <<< (l5 &&& 31)))), (3, .int (l3 + (1 : Int32)))] [] h7))) ∧ (¬ (x4 + x6) = l4 → pz_V mX10_heirs Ex Q d bc bs 264 [(0, .ref l0), (1, .int l1), (2, .int l2), (3, .int l3), (4, .int l4), (5, .int (l5 + (1 : Int32)))] [] h1))))))))) : pz_V mX10_heirs Ex Q d bc bs 264 [(0, .ref l0), (1, .int l1), (2, .int l2), (3, .int l3), (4, .int l4), (5, .int l5)] [] h := by
  refine pz_aload_n (pc' := 265) (x := l0) 0 rfl (pz_dc dX10_heirs 159 rfl) rfl ?_
  refine pz_iload_n (pc' := 266) (x := l3) 3 rfl (pz_dc dX10_heirs 160 rfl) rfl ?_
  refine pz_iload (pc' := 268) (x := l5) 5 rfl (pz_dc dX10_heirs 161 rfl) rfl ?_
  refine pz_iload_n (pc' := 269) (x := l2) 2 rfl (pz_dc dX10_heirs 162 rfl) rfl ?_
  refine pz_cVi (M := mX10_heirs) (N := mX10_canHave) (d' := 1) (bc1 := 0) (bs1 := 0) (bc2 := bc) (bs2 := bs) (pc' := 272) [.int l3, .int l5, .int l2] hb vX10_323 rfl (pz_dc dX10_heirs 163 rfl) rfl (Nat.le_of_ble_eq_true rfl) (Nat.le_of_ble_eq_true rfl) rfl (by omega) (by omega) (by omega) (fun x2 h1 hb => ?_)
  refine pz_if_eq (pc' := 275) (tgt := 306) rfl (pz_dc dX10_heirs 164 rfl) (by decide) (fun hc => ?_) (fun hc => ?_)
  · replace hb := hb.1 hc
    refine pz_iinc (pc' := 309) (x := l5) (v := l5 + (1 : Int32)) (lv' := [(5, .int (l5 + (1 : Int32))), (0, .ref l0), (1, .int l1), (2, .int l2), (3, .int l3), (4, .int l4)]) 5 rfl (pz_dc dX10_heirs 186 rfl) rfl rfl (by decide) rfl ?_
    refine pz_goto (pc' := 264) (pz_dc dX10_heirs 187 rfl) (by decide) ?_
    refine pz_lv (lv' := [(0, .ref l0), (1, .int l1), (2, .int l2), (3, .int l3), (4, .int l4), (5, .int (l5 + (1 : Int32)))]) [1, 2, 3, 4, 5, 0] rfl ?_
    exact hb
  · replace hb := hb.2 hc
    refine pz_aload_n (pc' := 276) (x := l0) 0 rfl (pz_dc dX10_heirs 165 rfl) rfl ?_
    refine pz_getR (M := mX10_heirs) hb fX10_9 (pc' := 279) rfl (pz_dc dX10_heirs 166 rfl) (fun a3 hb => ?_)
    refine pz_iload (pc' := 281) (x := l5) 5 rfl (pz_dc dX10_heirs 167 rfl) rfl ?_
    refine pz_ldI hb (pc' := 282) rfl (pz_dc dX10_heirs 168 rfl) (fun x4 hb => ?_)
    refine pz_aload_n (pc' := 283) (x := l0) 0 rfl (pz_dc dX10_heirs 169 rfl) rfl ?_
    refine pz_getR (M := mX10_heirs) hb fX10_76 (pc' := 286) rfl (pz_dc dX10_heirs 170 rfl) (fun a5 hb => ?_)
    refine pz_iload_n (pc' := 287) (x := l3) 3 rfl (pz_dc dX10_heirs 171 rfl) rfl ?_
    refine pz_iconst (pc' := 288) (v := 1) rfl (pz_dc dX10_heirs 172 rfl) ki_1 ?_
    refine pz_iadd (pc' := 289) rfl (pz_dc dX10_heirs 173 rfl) ?_
    refine pz_bipush (pc' := 291) (v := 6) rfl (pz_dc dX10_heirs 174 rfl) kb_6 ?_
    refine pz_ishl (pc' := 292) rfl (pz_dc dX10_heirs 175 rfl) ?_
    refine pz_iload_n (pc' := 293) (x := l2) 2 rfl (pz_dc dX10_heirs 176 rfl) rfl ?_
    refine pz_ior (pc' := 294) rfl (pz_dc dX10_heirs 177 rfl) ?_
    refine pz_iconst (pc' := 295) (v := 1) rfl (pz_dc dX10_heirs 178 rfl) ki_1 ?_
    refine pz_iload (pc' := 297) (x := l5) 5 rfl (pz_dc dX10_heirs 179 rfl) rfl ?_
    refine pz_ishl (pc' := 298) rfl (pz_dc dX10_heirs 180 rfl) ?_
    refine pz_ior (pc' := 299) rfl (pz_dc dX10_heirs 181 rfl) ?_
    refine pz_ldI hb (pc' := 300) rfl (pz_dc dX10_heirs 182 rfl) (fun x6 hb => ?_)
    refine pz_iadd (pc' := 301) rfl (pz_dc dX10_heirs 183 rfl) ?_
    refine pz_iload (pc' := 303) (x := l4) 4 rfl (pz_dc dX10_heirs 184 rfl) rfl ?_
    refine pz_icmp_eq (pc' := 306) (tgt := 312) rfl (pz_dc dX10_heirs 185 rfl) (by decide) (fun hc => ?_) (fun hc => ?_)
    · replace hb := hb.1 hc
      refine pz_iload_n (pc' := 313) (x := l2) 2 rfl (pz_dc dX10_heirs 188 rfl) rfl ?_
      refine pz_iconst (pc' := 314) (v := 1) rfl (pz_dc dX10_heirs 189 rfl) ki_1 ?_
      refine pz_iload (pc' := 316) (x := l5) 5 rfl (pz_dc dX10_heirs 190 rfl) rfl ?_
      refine pz_ishl (pc' := 317) rfl (pz_dc dX10_heirs 191 rfl) ?_
      refine pz_ior (pc' := 318) rfl (pz_dc dX10_heirs 192 rfl) ?_
      refine pz_istore_n (pc' := 319) (lv' := [(2, .int (l2 ||| (((1 : Int32)) <<< (l5 &&& 31)))), (0, .ref l0), (1, .int l1), (3, .int l3), (4, .int l4), (5, .int l5)]) rfl (pz_dc dX10_heirs 193 rfl) (by decide) rfl ?_
      refine pz_aload_n (pc' := 320) (x := l0) 1 rfl (pz_dc dX10_heirs 194 rfl) rfl ?_
      refine pz_iload (pc' := 322) (x := l5) 5 rfl (pz_dc dX10_heirs 195 rfl) rfl ?_
      refine pz_i2l (pc' := 323) rfl (pz_dc dX10_heirs 196 rfl) ?_
      refine pz_cVv (M := mX10_heirs) (N := mX10_tell) (d' := 0) (bc1 := 0) (bs1 := 0) (bc2 := bc) (bs2 := bs) (pc' := 326) [.long l5.toInt64] hb vX10_248 rfl (pz_dc dX10_heirs 197 rfl) rfl (Nat.le_of_ble_eq_true rfl) (Nat.le_of_ble_eq_true rfl) rfl (by omega) (by omega) (by omega) (fun h7 hb => ?_)
      refine pz_iinc (pc' := 329) (x := l3) (v := l3 + (1 : Int32)) (lv' := [(3, .int (l3 + (1 : Int32))), (2, .int (l2 ||| (((1 : Int32)) <<< (l5 &&& 31)))), (0, .ref l0), (1, .int l1), (4, .int l4), (5, .int l5)]) 3 rfl (pz_dc dX10_heirs 198 rfl) rfl rfl (by decide) rfl ?_
      refine pz_goto (pc' := 222) (pz_dc dX10_heirs 199 rfl) (by decide) ?_
      refine pz_lv (lv' := [(0, .ref l0), (1, .int l1), (2, .int (l2 ||| (((1 : Int32)) <<< (l5 &&& 31)))), (3, .int (l3 + (1 : Int32)))]) [2, 3, 1, 0] rfl ?_
      exact hb
    · replace hb := hb.2 hc
      refine pz_iinc (pc' := 309) (x := l5) (v := l5 + (1 : Int32)) (lv' := [(5, .int (l5 + (1 : Int32))), (0, .ref l0), (1, .int l1), (2, .int l2), (3, .int l3), (4, .int l4)]) 5 rfl (pz_dc dX10_heirs 186 rfl) rfl rfl (by decide) rfl ?_
      refine pz_goto (pc' := 264) (pz_dc dX10_heirs 187 rfl) (by decide) ?_
      refine pz_lv (lv' := [(0, .ref l0), (1, .int l1), (2, .int l2), (3, .int l3), (4, .int l4), (5, .int (l5 + (1 : Int32)))]) [1, 2, 3, 4, 5, 0] rfl ?_
      exact hb
set_option maxRecDepth 20000 in
set_option maxHeartbeats 4000000 in
theorem wX10_heirs_129 {Ex : State → Nat → Prop} {Q : Option Value → pz_H → Prop} {d bc bs : Nat} {l0 : Nat} {l1 : Int32} {l2 : Int32} {l3 : Int32} {l4 : Int32} {l5 : Int32}  {h : pz_H} (hD : 3 ≤ d) (hb : pz_gI h l0 10 1 (fun (x1 : Int32) => (x1 ≤ l5 → pz_gR h l0 10 35 (fun (a2 : Nat) => pz_sI h a2 ((l2 <<< (((6 : Int32)) &&& 31)) ||| l3) l4 (fun (h3 : pz_H) => pz_V mX10_heirs Ex Q d bc bs 103 [(0, .ref l0), (1, .int l1), (2, .int l2), (3, .int (l3 + (1 : Int32)))] [] h3))) ∧ (¬ x1 ≤ l5 → pz_is h l0 10 ∧ (pz_ki mX10_canHave 1 0 0 (.ref l0 :: [.int l2, .int l5, .int l3]) h (fun (x5 : Int32) (h4 : pz_H) => (x5 = 0 → pz_V mX10_heirs Ex Q d bc bs 129 [(0, .ref l0), (1, .int l1), (2, .int l2), (3, .int l3), (4, .int l4), (5, .int (l5 + (1 : Int32)))] [] h4) ∧ (¬ x5 = 0 → pz_gR h4 l0 10 0 (fun (a6 : Nat) => pz_rI h4 a6 l5 (fun (x7 : Int32) => pz_gR h4 l0 10 35 (fun (a8 : Nat) => pz_rI h4 a8 ((((l2 + ((1 : Int32))) <<< (((6 : Int32)) &&& 31)) ||| l3) ||| (((1 : Int32)) <<< (l5 &&& 31))) (fun (x9 : Int32) => pz_V mX10_heirs Ex Q d bc bs 129 [(0, .ref l0), (1, .int l1), (2, .int l2), (3, .int l3), (4, .int (if l4 < (x7 + x9) then (x7 + x9) else l4)), (5, .int (l5 + (1 : Int32)))] [] h4)))))))))) : pz_V mX10_heirs Ex Q d bc bs 129 [(0, .ref l0), (1, .int l1), (2, .int l2), (3, .int l3), (4, .int l4), (5, .int l5)] [] h := by
  refine pz_iload (pc' := 131) (x := l5) 5 rfl (pz_dc dX10_heirs 77 rfl) rfl ?_
  refine pz_aload_n (pc' := 132) (x := l0) 0 rfl (pz_dc dX10_heirs 78 rfl) rfl ?_
  refine pz_getI (M := mX10_heirs) hb fX10_101 (pc' := 135) rfl (pz_dc dX10_heirs 79 rfl) (fun x1 hb => ?_)
  refine pz_icmp_ge (pc' := 138) (tgt := 188) rfl (pz_dc dX10_heirs 80 rfl) (by decide) (fun hc => ?_) (fun hc => ?_)
  · replace hb := hb.1 hc
    refine pz_aload_n (pc' := 189) (x := l0) 0 rfl (pz_dc dX10_heirs 111 rfl) rfl ?_
    refine pz_getR (M := mX10_heirs) hb fX10_76 (pc' := 192) rfl (pz_dc dX10_heirs 112 rfl) (fun a2 hb => ?_)
    refine pz_iload_n (pc' := 193) (x := l2) 2 rfl (pz_dc dX10_heirs 113 rfl) rfl ?_
    refine pz_bipush (pc' := 195) (v := 6) rfl (pz_dc dX10_heirs 114 rfl) kb_6 ?_
    refine pz_ishl (pc' := 196) rfl (pz_dc dX10_heirs 115 rfl) ?_
    refine pz_iload_n (pc' := 197) (x := l3) 3 rfl (pz_dc dX10_heirs 116 rfl) rfl ?_
    refine pz_ior (pc' := 198) rfl (pz_dc dX10_heirs 117 rfl) ?_
    refine pz_iload (pc' := 200) (x := l4) 4 rfl (pz_dc dX10_heirs 118 rfl) rfl ?_
    refine pz_stI hb (pc' := 201) rfl (pz_dc dX10_heirs 119 rfl) (fun h3 hb => ?_)
    refine pz_iinc (pc' := 204) (x := l3) (v := l3 + (1 : Int32)) (lv' := [(3, .int (l3 + (1 : Int32))), (0, .ref l0), (1, .int l1), (2, .int l2), (4, .int l4), (5, .int l5)]) 3 rfl (pz_dc dX10_heirs 120 rfl) rfl rfl (by decide) rfl ?_
    refine pz_goto (pc' := 103) (pz_dc dX10_heirs 121 rfl) (by decide) ?_
    refine pz_lv (lv' := [(0, .ref l0), (1, .int l1), (2, .int l2), (3, .int (l3 + (1 : Int32)))]) [1, 2, 3, 0] rfl ?_
    exact hb
  · replace hb := hb.2 hc
    refine pz_aload_n (pc' := 139) (x := l0) 0 rfl (pz_dc dX10_heirs 81 rfl) rfl ?_
    refine pz_iload_n (pc' := 140) (x := l2) 2 rfl (pz_dc dX10_heirs 82 rfl) rfl ?_
    refine pz_iload (pc' := 142) (x := l5) 5 rfl (pz_dc dX10_heirs 83 rfl) rfl ?_
    refine pz_iload_n (pc' := 143) (x := l3) 3 rfl (pz_dc dX10_heirs 84 rfl) rfl ?_
    refine pz_cVi (M := mX10_heirs) (N := mX10_canHave) (d' := 1) (bc1 := 0) (bs1 := 0) (bc2 := bc) (bs2 := bs) (pc' := 146) [.int l2, .int l5, .int l3] hb vX10_323 rfl (pz_dc dX10_heirs 85 rfl) rfl (Nat.le_of_ble_eq_true rfl) (Nat.le_of_ble_eq_true rfl) rfl (by omega) (by omega) (by omega) (fun x5 h4 hb => ?_)
    refine pz_if_eq (pc' := 149) (tgt := 182) rfl (pz_dc dX10_heirs 86 rfl) (by decide) (fun hc => ?_) (fun hc => ?_)
    · replace hb := hb.1 hc
      refine pz_iinc (pc' := 185) (x := l5) (v := l5 + (1 : Int32)) (lv' := [(5, .int (l5 + (1 : Int32))), (0, .ref l0), (1, .int l1), (2, .int l2), (3, .int l3), (4, .int l4)]) 5 rfl (pz_dc dX10_heirs 109 rfl) rfl rfl (by decide) rfl ?_
      refine pz_goto (pc' := 129) (pz_dc dX10_heirs 110 rfl) (by decide) ?_
      refine pz_lv (lv' := [(0, .ref l0), (1, .int l1), (2, .int l2), (3, .int l3), (4, .int l4), (5, .int (l5 + (1 : Int32)))]) [1, 2, 3, 4, 5, 0] rfl ?_
      exact hb
    · replace hb := hb.2 hc
      refine pz_iload (pc' := 151) (x := l4) 4 rfl (pz_dc dX10_heirs 87 rfl) rfl ?_
      refine pz_aload_n (pc' := 152) (x := l0) 0 rfl (pz_dc dX10_heirs 88 rfl) rfl ?_
      refine pz_getR (M := mX10_heirs) hb fX10_9 (pc' := 155) rfl (pz_dc dX10_heirs 89 rfl) (fun a6 hb => ?_)
      refine pz_iload (pc' := 157) (x := l5) 5 rfl (pz_dc dX10_heirs 90 rfl) rfl ?_
      refine pz_ldI hb (pc' := 158) rfl (pz_dc dX10_heirs 91 rfl) (fun x7 hb => ?_)
      refine pz_aload_n (pc' := 159) (x := l0) 0 rfl (pz_dc dX10_heirs 92 rfl) rfl ?_
      refine pz_getR (M := mX10_heirs) hb fX10_76 (pc' := 162) rfl (pz_dc dX10_heirs 93 rfl) (fun a8 hb => ?_)
      refine pz_iload_n (pc' := 163) (x := l2) 2 rfl (pz_dc dX10_heirs 94 rfl) rfl ?_
      refine pz_iconst (pc' := 164) (v := 1) rfl (pz_dc dX10_heirs 95 rfl) ki_1 ?_
      refine pz_iadd (pc' := 165) rfl (pz_dc dX10_heirs 96 rfl) ?_
      refine pz_bipush (pc' := 167) (v := 6) rfl (pz_dc dX10_heirs 97 rfl) kb_6 ?_
      refine pz_ishl (pc' := 168) rfl (pz_dc dX10_heirs 98 rfl) ?_
      refine pz_iload_n (pc' := 169) (x := l3) 3 rfl (pz_dc dX10_heirs 99 rfl) rfl ?_
      refine pz_ior (pc' := 170) rfl (pz_dc dX10_heirs 100 rfl) ?_
      refine pz_iconst (pc' := 171) (v := 1) rfl (pz_dc dX10_heirs 101 rfl) ki_1 ?_
      refine pz_iload (pc' := 173) (x := l5) 5 rfl (pz_dc dX10_heirs 102 rfl) rfl ?_
      refine pz_ishl (pc' := 174) rfl (pz_dc dX10_heirs 103 rfl) ?_
      refine pz_ior (pc' := 175) rfl (pz_dc dX10_heirs 104 rfl) ?_
      refine pz_ldI hb (pc' := 176) rfl (pz_dc dX10_heirs 105 rfl) (fun x9 hb => ?_)
      refine pz_iadd (pc' := 177) rfl (pz_dc dX10_heirs 106 rfl) ?_
      refine pz_max (M := mX10_heirs) (pc' := 180) wX10_217 rfl (pz_dc dX10_heirs 107 rfl) (Nat.le_of_ble_eq_true rfl) (by omega) ?_
      refine pz_istore (pc' := 182) (lv' := [(4, .int (if l4 < (x7 + x9) then (x7 + x9) else l4)), (0, .ref l0), (1, .int l1), (2, .int l2), (3, .int l3), (5, .int l5)]) rfl (pz_dc dX10_heirs 108 rfl) (by decide) rfl ?_
      refine pz_iinc (pc' := 185) (x := l5) (v := l5 + (1 : Int32)) (lv' := [(5, .int (l5 + (1 : Int32))), (4, .int (if l4 < (x7 + x9) then (x7 + x9) else l4)), (0, .ref l0), (1, .int l1), (2, .int l2), (3, .int l3)]) 5 rfl (pz_dc dX10_heirs 109 rfl) rfl rfl (by decide) rfl ?_
      refine pz_goto (pc' := 129) (pz_dc dX10_heirs 110 rfl) (by decide) ?_
      refine pz_lv (lv' := [(0, .ref l0), (1, .int l1), (2, .int l2), (3, .int l3), (4, .int (if l4 < (x7 + x9) then (x7 + x9) else l4)), (5, .int (l5 + (1 : Int32)))]) [2, 3, 4, 5, 1, 0] rfl ?_
      exact hb
set_option maxRecDepth 20000 in
set_option maxHeartbeats 4000000 in
theorem wX10_common_0 {Ex : State → Nat → Prop} {Q : Option Value → pz_H → Prop} {d bc bs : Nat} {l0 : Int64} {l2 : Int64}  {h : pz_H}  (hb : (¬ (lg_cmp l2 ((0 : Int64))) = 0 → ¬ l2 = 0 ∧ (pz_kl mX10_common d 0 0 ([.long l2, .long (l0 - l0 / l2 * l2)]) h (fun (x2 : Int64) (h1 : pz_H) => Q (some (.long x2)) h1))) ∧ ((lg_cmp l2 ((0 : Int64))) = 0 → Q (some (.long l0)) h)) : pz_V mX10_common Ex Q (d + 1) bc bs 0 [(0, .long l0), (2, .long l2)] [] h := by
  refine pz_lload_n (pc' := 1) (x := l2) 1 rfl (pz_dc dX10_common 0 rfl) rfl ?_
  refine pz_lconst (pc' := 2) (v := 0) rfl (pz_dc dX10_common 1 rfl) rfl ?_
  refine pz_lcmp (pc' := 3) rfl (pz_dc dX10_common 2 rfl) ?_
  refine pz_if_ne (pc' := 6) (tgt := 10) rfl (pz_dc dX10_common 3 rfl) (by decide) (fun hc => ?_) (fun hc => ?_)
  · replace hb := hb.1 hc
    refine pz_lload_n (pc' := 11) (x := l2) 1 rfl (pz_dc dX10_common 6 rfl) rfl ?_
    refine pz_lload_n (pc' := 12) (x := l0) 0 rfl (pz_dc dX10_common 7 rfl) rfl ?_
    refine pz_lload_n (pc' := 13) (x := l2) 1 rfl (pz_dc dX10_common 8 rfl) rfl ?_
    refine pz_lrem (pc' := 14) rfl (pz_dc dX10_common 9 rfl) hb.1 ?_
    replace hb := hb.2
    refine pz_cSl (M := mX10_common) (N := mX10_common) (d' := d) (bc1 := 0) (bs1 := 0) (bc2 := bc) (bs2 := bs) (pc' := 17) [.long l2, .long (l0 - l0 / l2 * l2)] hb sX10_326 rfl (pz_dc dX10_common 10 rfl) rfl (Nat.le_of_ble_eq_true rfl) (Nat.le_of_ble_eq_true rfl) rfl (by omega) (by omega) (by omega) (fun x2 h1 hb => ?_)
    exact pz_lret (pz_dc dX10_common 11 rfl) rfl hb
  · replace hb := hb.2 hc
    refine pz_lload_n (pc' := 7) (x := l0) 0 rfl (pz_dc dX10_common 4 rfl) rfl ?_
    refine pz_goto (pc' := 17) (pz_dc dX10_common 5 rfl) (by decide) ?_
    exact pz_lret (pz_dc dX10_common 11 rfl) rfl hb
set_option maxRecDepth 20000 in
set_option maxHeartbeats 4000000 in
theorem wX10_areBeside_0 {Ex : State → Nat → Prop} {Q : Option Value → pz_H → Prop} {d bc bs : Nat} {l0 : Nat} {l1 : Int32} {l2 : Int32}  {h : pz_H}  (hb : pz_gR h l0 10 4 (fun (a1 : Nat) => pz_rI h a1 l1 (fun (x2 : Int32) => (x2 = l2 → Q (some (.int 1)) h) ∧ (¬ x2 = l2 → pz_gR h l0 10 4 (fun (a3 : Nat) => pz_rI h a3 l2 (fun (x4 : Int32) => (¬ x4 = l1 → Q (some (.int 0)) h) ∧ (x4 = l1 → Q (some (.int 1)) h))))))) : pz_V mX10_areBeside Ex Q d bc bs 0 [(0, .ref l0), (1, .int l1), (2, .int l2)] [] h := by
  refine pz_aload_n (pc' := 1) (x := l0) 0 rfl (pz_dc dX10_areBeside 0 rfl) rfl ?_
  refine pz_getR (M := mX10_areBeside) hb fX10_19 (pc' := 4) rfl (pz_dc dX10_areBeside 1 rfl) (fun a1 hb => ?_)
  refine pz_iload_n (pc' := 5) (x := l1) 1 rfl (pz_dc dX10_areBeside 2 rfl) rfl ?_
  refine pz_ldI hb (pc' := 6) rfl (pz_dc dX10_areBeside 3 rfl) (fun x2 hb => ?_)
  refine pz_iload_n (pc' := 7) (x := l2) 2 rfl (pz_dc dX10_areBeside 4 rfl) rfl ?_
  refine pz_icmp_eq (pc' := 10) (tgt := 20) rfl (pz_dc dX10_areBeside 5 rfl) (by decide) (fun hc => ?_) (fun hc => ?_)
  · replace hb := hb.1 hc
    refine pz_iconst (pc' := 21) (v := 1) rfl (pz_dc dX10_areBeside 12 rfl) ki_1 ?_
    refine pz_goto (pc' := 25) (pz_dc dX10_areBeside 13 rfl) (by decide) ?_
    exact pz_zret (pz_dc dX10_areBeside 15 rfl) rfl ⟨by decide, hb⟩
  · replace hb := hb.2 hc
    refine pz_aload_n (pc' := 11) (x := l0) 0 rfl (pz_dc dX10_areBeside 6 rfl) rfl ?_
    refine pz_getR (M := mX10_areBeside) hb fX10_19 (pc' := 14) rfl (pz_dc dX10_areBeside 7 rfl) (fun a3 hb => ?_)
    refine pz_iload_n (pc' := 15) (x := l2) 2 rfl (pz_dc dX10_areBeside 8 rfl) rfl ?_
    refine pz_ldI hb (pc' := 16) rfl (pz_dc dX10_areBeside 9 rfl) (fun x4 hb => ?_)
    refine pz_iload_n (pc' := 17) (x := l1) 1 rfl (pz_dc dX10_areBeside 10 rfl) rfl ?_
    refine pz_icmp_ne (pc' := 20) (tgt := 24) rfl (pz_dc dX10_areBeside 11 rfl) (by decide) (fun hc => ?_) (fun hc => ?_)
    · replace hb := hb.1 hc
      refine pz_iconst (pc' := 25) (v := 0) rfl (pz_dc dX10_areBeside 14 rfl) ki_0 ?_
      exact pz_zret (pz_dc dX10_areBeside 15 rfl) rfl ⟨by decide, hb⟩
    · replace hb := hb.2 hc
      refine pz_iconst (pc' := 21) (v := 1) rfl (pz_dc dX10_areBeside 12 rfl) ki_1 ?_
      refine pz_goto (pc' := 25) (pz_dc dX10_areBeside 13 rfl) (by decide) ?_
      exact pz_zret (pz_dc dX10_areBeside 15 rfl) rfl ⟨by decide, hb⟩
set_option maxRecDepth 20000 in
set_option maxHeartbeats 4000000 in
theorem wX10_goDuck_0 {Ex : State → Nat → Prop} {Q : Option Value → pz_H → Prop} {d bc bs : Nat} {l0 : Nat}  {h : pz_H} (hD : 1 ≤ d) (hb : pz_V mX10_goDuck Ex Q d bc bs 2 [(0, .ref l0), (1, .int 0)] [] h) : pz_V mX10_goDuck Ex Q d bc bs 0 [(0, .ref l0)] [] h := by
  refine pz_iconst (pc' := 1) (v := 0) rfl (pz_dc dX10_goDuck 0 rfl) ki_0 ?_
  refine pz_istore_n (pc' := 2) (lv' := [(1, .int 0), (0, .ref l0)]) rfl (pz_dc dX10_goDuck 1 rfl) (by decide) rfl ?_
  refine pz_lv (lv' := [(0, .ref l0), (1, .int 0)]) [1, 0] rfl ?_
  exact hb
set_option maxRecDepth 20000 in
set_option maxHeartbeats 4000000 in
theorem wX10_goDuck_2 {Ex : State → Nat → Prop} {Q : Option Value → pz_H → Prop} {d bc bs : Nat} {l0 : Nat} {l1 : Int32}  {h : pz_H} (hD : 1 ≤ d) (hb : pz_gI h l0 10 1 (fun (x1 : Int32) => (x1 ≤ l1 → pz_V mX10_goDuck Ex Q d bc bs 25 [(0, .ref l0), (1, .int 0)] [] h) ∧ (¬ x1 ≤ l1 → pz_gR h l0 10 37 (fun (a2 : Nat) => pz_sJ h a2 l1 0 (fun (h3 : pz_H) => pz_V mX10_goDuck Ex Q d bc bs 2 [(0, .ref l0), (1, .int (l1 + (1 : Int32)))] [] h3))))) : pz_V mX10_goDuck Ex Q d bc bs 2 [(0, .ref l0), (1, .int l1)] [] h := by
  refine pz_iload_n (pc' := 3) (x := l1) 1 rfl (pz_dc dX10_goDuck 2 rfl) rfl ?_
  refine pz_aload_n (pc' := 4) (x := l0) 0 rfl (pz_dc dX10_goDuck 3 rfl) rfl ?_
  refine pz_getI (M := mX10_goDuck) hb fX10_101 (pc' := 7) rfl (pz_dc dX10_goDuck 4 rfl) (fun x1 hb => ?_)
  refine pz_icmp_ge (pc' := 10) (tgt := 23) rfl (pz_dc dX10_goDuck 5 rfl) (by decide) (fun hc => ?_) (fun hc => ?_)
  · replace hb := hb.1 hc
    refine pz_iconst (pc' := 24) (v := 0) rfl (pz_dc dX10_goDuck 13 rfl) ki_0 ?_
    refine pz_istore_n (pc' := 25) (lv' := [(1, .int 0), (0, .ref l0)]) rfl (pz_dc dX10_goDuck 14 rfl) (by decide) rfl ?_
    refine pz_lv (lv' := [(0, .ref l0), (1, .int 0)]) [1, 0] rfl ?_
    exact hb
  · replace hb := hb.2 hc
    refine pz_aload_n (pc' := 11) (x := l0) 0 rfl (pz_dc dX10_goDuck 6 rfl) rfl ?_
    refine pz_getR (M := mX10_goDuck) hb fX10_82 (pc' := 14) rfl (pz_dc dX10_goDuck 7 rfl) (fun a2 hb => ?_)
    refine pz_iload_n (pc' := 15) (x := l1) 1 rfl (pz_dc dX10_goDuck 8 rfl) rfl ?_
    refine pz_lconst (pc' := 16) (v := 0) rfl (pz_dc dX10_goDuck 9 rfl) rfl ?_
    refine pz_stJ hb (pc' := 17) rfl (pz_dc dX10_goDuck 10 rfl) (fun h3 hb => ?_)
    refine pz_iinc (pc' := 20) (x := l1) (v := l1 + (1 : Int32)) (lv' := [(1, .int (l1 + (1 : Int32))), (0, .ref l0)]) 1 rfl (pz_dc dX10_goDuck 11 rfl) rfl rfl (by decide) rfl ?_
    refine pz_goto (pc' := 2) (pz_dc dX10_goDuck 12 rfl) (by decide) ?_
    refine pz_lv (lv' := [(0, .ref l0), (1, .int (l1 + (1 : Int32)))]) [1, 0] rfl ?_
    exact hb
set_option maxRecDepth 20000 in
set_option maxHeartbeats 4000000 in
theorem wX10_goDuck_25 {Ex : State → Nat → Prop} {Q : Option Value → pz_H → Prop} {d bc bs : Nat} {l0 : Nat} {l1 : Int32}  {h : pz_H} (hD : 1 ≤ d) (hb : pz_gI h l0 10 1 (fun (x1 : Int32) => (x1 ≤ l1 → pz_V mX10_goDuck Ex Q d bc bs 145 [(0, .ref l0), (1, .int 0)] [] h) ∧ (¬ x1 ≤ l1 → pz_V mX10_goDuck Ex Q d bc bs 37 [(0, .ref l0), (1, .int l1), (2, .int 0), (3, .int 0)] [] h))) : pz_V mX10_goDuck Ex Q d bc bs 25 [(0, .ref l0), (1, .int l1)] [] h := by
  refine pz_iload_n (pc' := 26) (x := l1) 1 rfl (pz_dc dX10_goDuck 15 rfl) rfl ?_
  refine pz_aload_n (pc' := 27) (x := l0) 0 rfl (pz_dc dX10_goDuck 16 rfl) rfl ?_
  refine pz_getI (M := mX10_goDuck) hb fX10_101 (pc' := 30) rfl (pz_dc dX10_goDuck 17 rfl) (fun x1 hb => ?_)
  refine pz_icmp_ge (pc' := 33) (tgt := 143) rfl (pz_dc dX10_goDuck 18 rfl) (by decide) (fun hc => ?_) (fun hc => ?_)
  · replace hb := hb.1 hc
    refine pz_iconst (pc' := 144) (v := 0) rfl (pz_dc dX10_goDuck 86 rfl) ki_0 ?_
    refine pz_istore_n (pc' := 145) (lv' := [(1, .int 0), (0, .ref l0)]) rfl (pz_dc dX10_goDuck 87 rfl) (by decide) rfl ?_
    refine pz_lv (lv' := [(0, .ref l0), (1, .int 0)]) [1, 0] rfl ?_
    exact hb
  · replace hb := hb.2 hc
    refine pz_iconst (pc' := 34) (v := 0) rfl (pz_dc dX10_goDuck 19 rfl) ki_0 ?_
    refine pz_istore_n (pc' := 35) (lv' := [(2, .int 0), (0, .ref l0), (1, .int l1)]) rfl (pz_dc dX10_goDuck 20 rfl) (by decide) rfl ?_
    refine pz_iconst (pc' := 36) (v := 0) rfl (pz_dc dX10_goDuck 21 rfl) ki_0 ?_
    refine pz_istore_n (pc' := 37) (lv' := [(3, .int 0), (2, .int 0), (0, .ref l0), (1, .int l1)]) rfl (pz_dc dX10_goDuck 22 rfl) (by decide) rfl ?_
    refine pz_lv (lv' := [(0, .ref l0), (1, .int l1), (2, .int 0), (3, .int 0)]) [2, 3, 1, 0] rfl ?_
    exact hb
set_option maxRecDepth 20000 in
set_option maxHeartbeats 4000000 in
theorem wX10_goDuck_145 {Ex : State → Nat → Prop} {Q : Option Value → pz_H → Prop} {d bc bs : Nat} {l0 : Nat} {l1 : Int32}  {h : pz_H} (hD : 1 ≤ d) (hb : pz_gI h l0 10 1 (fun (x1 : Int32) => (x1 ≤ l1 → Q none h) ∧ (¬ x1 ≤ l1 → pz_gR h l0 10 36 (fun (a2 : Nat) => pz_gR h l0 10 37 (fun (a3 : Nat) => pz_rJ h a3 l1 (fun (x4 : Int64) => pz_sJ h a2 l1 x4 (fun (h5 : pz_H) => pz_V mX10_goDuck Ex Q d bc bs 145 [(0, .ref l0), (1, .int (l1 + (1 : Int32)))] [] h5))))))) : pz_V mX10_goDuck Ex Q d bc bs 145 [(0, .ref l0), (1, .int l1)] [] h := by
  refine pz_iload_n (pc' := 146) (x := l1) 1 rfl (pz_dc dX10_goDuck 88 rfl) rfl ?_
  refine pz_aload_n (pc' := 147) (x := l0) 0 rfl (pz_dc dX10_goDuck 89 rfl) rfl ?_
  refine pz_getI (M := mX10_goDuck) hb fX10_101 (pc' := 150) rfl (pz_dc dX10_goDuck 90 rfl) (fun x1 hb => ?_)
  refine pz_icmp_ge (pc' := 153) (tgt := 171) rfl (pz_dc dX10_goDuck 91 rfl) (by decide) (fun hc => ?_) (fun hc => ?_)
  · replace hb := hb.1 hc
    exact pz_vret (pz_dc dX10_goDuck 102 rfl) rfl hb
  · replace hb := hb.2 hc
    refine pz_aload_n (pc' := 154) (x := l0) 0 rfl (pz_dc dX10_goDuck 92 rfl) rfl ?_
    refine pz_getR (M := mX10_goDuck) hb fX10_79 (pc' := 157) rfl (pz_dc dX10_goDuck 93 rfl) (fun a2 hb => ?_)
    refine pz_iload_n (pc' := 158) (x := l1) 1 rfl (pz_dc dX10_goDuck 94 rfl) rfl ?_
    refine pz_aload_n (pc' := 159) (x := l0) 0 rfl (pz_dc dX10_goDuck 95 rfl) rfl ?_
    refine pz_getR (M := mX10_goDuck) hb fX10_82 (pc' := 162) rfl (pz_dc dX10_goDuck 96 rfl) (fun a3 hb => ?_)
    refine pz_iload_n (pc' := 163) (x := l1) 1 rfl (pz_dc dX10_goDuck 97 rfl) rfl ?_
    refine pz_ldJ hb (pc' := 164) rfl (pz_dc dX10_goDuck 98 rfl) (fun x4 hb => ?_)
    refine pz_stJ hb (pc' := 165) rfl (pz_dc dX10_goDuck 99 rfl) (fun h5 hb => ?_)
    refine pz_iinc (pc' := 168) (x := l1) (v := l1 + (1 : Int32)) (lv' := [(1, .int (l1 + (1 : Int32))), (0, .ref l0)]) 1 rfl (pz_dc dX10_goDuck 100 rfl) rfl rfl (by decide) rfl ?_
    refine pz_goto (pc' := 145) (pz_dc dX10_goDuck 101 rfl) (by decide) ?_
    refine pz_lv (lv' := [(0, .ref l0), (1, .int (l1 + (1 : Int32)))]) [1, 0] rfl ?_
    exact hb
set_option maxRecDepth 20000 in
set_option maxHeartbeats 4000000 in
theorem wX10_goDuck_37 {Ex : State → Nat → Prop} {Q : Option Value → pz_H → Prop} {d bc bs : Nat} {l0 : Nat} {l1 : Int32} {l2 : Int32} {l3 : Int32}  {h : pz_H} (hD : 1 ≤ d) (hb : pz_gI h l0 10 1 (fun (x1 : Int32) => (x1 ≤ l3 → (¬ l2 = 0 → pz_V mX10_goDuck Ex Q d bc bs 93 [(0, .ref l0), (1, .int l1), (2, .int l2), (3, .int 0)] [] h) ∧ (l2 = 0 → pz_gR h l0 10 37 (fun (a2 : Nat) => pz_rJ h a2 l1 (fun (x3 : Int64) => pz_gR h l0 10 36 (fun (a4 : Nat) => pz_rJ h a4 l1 (fun (x5 : Int64) => pz_sJ h a2 l1 (x3 + (x5 * ((60 : Int64)))) (fun (h6 : pz_H) => pz_V mX10_goDuck Ex Q d bc bs 93 [(0, .ref l0), (1, .int l1), (2, .int l2), (3, .int 0)] [] h6))))))) ∧ (¬ x1 ≤ l3 → pz_is h l0 10 ∧ (pz_ki mX10_areBeside 0 0 0 (.ref l0 :: [.int l1, .int l3]) h (fun (x8 : Int32) (h7 : pz_H) => (x8 = 0 → pz_V mX10_goDuck Ex Q d bc bs 37 [(0, .ref l0), (1, .int l1), (2, .int (l2 + ((0 : Int32)))), (3, .int (l3 + (1 : Int32)))] [] h7) ∧ (¬ x8 = 0 → pz_V mX10_goDuck Ex Q d bc bs 37 [(0, .ref l0), (1, .int l1), (2, .int (l2 + ((1 : Int32)))), (3, .int (l3 + (1 : Int32)))] [] h7)))))) : pz_V mX10_goDuck Ex Q d bc bs 37 [(0, .ref l0), (1, .int l1), (2, .int l2), (3, .int l3)] [] h := by
  refine pz_iload_n (pc' := 38) (x := l3) 3 rfl (pz_dc dX10_goDuck 23 rfl) rfl ?_
  refine pz_aload_n (pc' := 39) (x := l0) 0 rfl (pz_dc dX10_goDuck 24 rfl) rfl ?_
  refine pz_getI (M := mX10_goDuck) hb fX10_101 (pc' := 42) rfl (pz_dc dX10_goDuck 25 rfl) (fun x1 hb => ?_)
  refine pz_icmp_ge (pc' := 45) (tgt := 68) rfl (pz_dc dX10_goDuck 26 rfl) (by decide) (fun hc => ?_) (fun hc => ?_)
  · replace hb := hb.1 hc
    refine pz_iload_n (pc' := 69) (x := l2) 2 rfl (pz_dc dX10_goDuck 40 rfl) rfl ?_
    refine pz_if_ne (pc' := 72) (tgt := 91) rfl (pz_dc dX10_goDuck 41 rfl) (by decide) (fun hc => ?_) (fun hc => ?_)
    · replace hb := hb.1 hc
      refine pz_iconst (pc' := 92) (v := 0) rfl (pz_dc dX10_goDuck 55 rfl) ki_0 ?_
      refine pz_istore_n (pc' := 93) (lv' := [(3, .int 0), (0, .ref l0), (1, .int l1), (2, .int l2)]) rfl (pz_dc dX10_goDuck 56 rfl) (by decide) rfl ?_
      refine pz_lv (lv' := [(0, .ref l0), (1, .int l1), (2, .int l2), (3, .int 0)]) [1, 2, 3, 0] rfl ?_
      exact hb
    · replace hb := hb.2 hc
      refine pz_aload_n (pc' := 73) (x := l0) 0 rfl (pz_dc dX10_goDuck 42 rfl) rfl ?_
      refine pz_getR (M := mX10_goDuck) hb fX10_82 (pc' := 76) rfl (pz_dc dX10_goDuck 43 rfl) (fun a2 hb => ?_)
      refine pz_iload_n (pc' := 77) (x := l1) 1 rfl (pz_dc dX10_goDuck 44 rfl) rfl ?_
      refine pz_dup2 (pc' := 78) rfl (pz_dc dX10_goDuck 45 rfl) rfl rfl ?_
      refine pz_ldJ hb (pc' := 79) rfl (pz_dc dX10_goDuck 46 rfl) (fun x3 hb => ?_)
      refine pz_aload_n (pc' := 80) (x := l0) 0 rfl (pz_dc dX10_goDuck 47 rfl) rfl ?_
      refine pz_getR (M := mX10_goDuck) hb fX10_79 (pc' := 83) rfl (pz_dc dX10_goDuck 48 rfl) (fun a4 hb => ?_)
      refine pz_iload_n (pc' := 84) (x := l1) 1 rfl (pz_dc dX10_goDuck 49 rfl) rfl ?_
      refine pz_ldJ hb (pc' := 85) rfl (pz_dc dX10_goDuck 50 rfl) (fun x5 hb => ?_)
      refine pz_ldc2 (M := mX10_goDuck) (pc' := 88) cX10_333 rfl (pz_dc dX10_goDuck 51 rfl) ?_
      refine pz_lmul (pc' := 89) rfl (pz_dc dX10_goDuck 52 rfl) ?_
      refine pz_ladd (pc' := 90) rfl (pz_dc dX10_goDuck 53 rfl) ?_
      refine pz_stJ hb (pc' := 91) rfl (pz_dc dX10_goDuck 54 rfl) (fun h6 hb => ?_)
      refine pz_iconst (pc' := 92) (v := 0) rfl (pz_dc dX10_goDuck 55 rfl) ki_0 ?_
      refine pz_istore_n (pc' := 93) (lv' := [(3, .int 0), (0, .ref l0), (1, .int l1), (2, .int l2)]) rfl (pz_dc dX10_goDuck 56 rfl) (by decide) rfl ?_
      refine pz_lv (lv' := [(0, .ref l0), (1, .int l1), (2, .int l2), (3, .int 0)]) [1, 2, 3, 0] rfl ?_
      exact hb
  · replace hb := hb.2 hc
    refine pz_iload_n (pc' := 46) (x := l2) 2 rfl (pz_dc dX10_goDuck 27 rfl) rfl ?_
    refine pz_aload_n (pc' := 47) (x := l0) 0 rfl (pz_dc dX10_goDuck 28 rfl) rfl ?_
    refine pz_iload_n (pc' := 48) (x := l1) 1 rfl (pz_dc dX10_goDuck 29 rfl) rfl ?_
    refine pz_iload_n (pc' := 49) (x := l3) 3 rfl (pz_dc dX10_goDuck 30 rfl) rfl ?_
    refine pz_cVi (M := mX10_goDuck) (N := mX10_areBeside) (d' := 0) (bc1 := 0) (bs1 := 0) (bc2 := bc) (bs2 := bs) (pc' := 52) [.int l1, .int l3] hb vX10_330 rfl (pz_dc dX10_goDuck 31 rfl) rfl (Nat.le_of_ble_eq_true rfl) (Nat.le_of_ble_eq_true rfl) rfl (by omega) (by omega) (by omega) (fun x8 h7 hb => ?_)
    refine pz_if_eq (pc' := 55) (tgt := 59) rfl (pz_dc dX10_goDuck 32 rfl) (by decide) (fun hc => ?_) (fun hc => ?_)
    · replace hb := hb.1 hc
      refine pz_iconst (pc' := 60) (v := 0) rfl (pz_dc dX10_goDuck 35 rfl) ki_0 ?_
      refine pz_iadd (pc' := 61) rfl (pz_dc dX10_goDuck 36 rfl) ?_
      refine pz_istore_n (pc' := 62) (lv' := [(2, .int (l2 + ((0 : Int32)))), (0, .ref l0), (1, .int l1), (3, .int l3)]) rfl (pz_dc dX10_goDuck 37 rfl) (by decide) rfl ?_
      refine pz_iinc (pc' := 65) (x := l3) (v := l3 + (1 : Int32)) (lv' := [(3, .int (l3 + (1 : Int32))), (2, .int (l2 + ((0 : Int32)))), (0, .ref l0), (1, .int l1)]) 3 rfl (pz_dc dX10_goDuck 38 rfl) rfl rfl (by decide) rfl ?_
      refine pz_goto (pc' := 37) (pz_dc dX10_goDuck 39 rfl) (by decide) ?_
      refine pz_lv (lv' := [(0, .ref l0), (1, .int l1), (2, .int (l2 + ((0 : Int32)))), (3, .int (l3 + (1 : Int32)))]) [2, 3, 1, 0] rfl ?_
      exact hb
    · replace hb := hb.2 hc
      refine pz_iconst (pc' := 56) (v := 1) rfl (pz_dc dX10_goDuck 33 rfl) ki_1 ?_
      refine pz_goto (pc' := 60) (pz_dc dX10_goDuck 34 rfl) (by decide) ?_
      refine pz_iadd (pc' := 61) rfl (pz_dc dX10_goDuck 36 rfl) ?_
      refine pz_istore_n (pc' := 62) (lv' := [(2, .int (l2 + ((1 : Int32)))), (0, .ref l0), (1, .int l1), (3, .int l3)]) rfl (pz_dc dX10_goDuck 37 rfl) (by decide) rfl ?_
      refine pz_iinc (pc' := 65) (x := l3) (v := l3 + (1 : Int32)) (lv' := [(3, .int (l3 + (1 : Int32))), (2, .int (l2 + ((1 : Int32)))), (0, .ref l0), (1, .int l1)]) 3 rfl (pz_dc dX10_goDuck 38 rfl) rfl rfl (by decide) rfl ?_
      refine pz_goto (pc' := 37) (pz_dc dX10_goDuck 39 rfl) (by decide) ?_
      refine pz_lv (lv' := [(0, .ref l0), (1, .int l1), (2, .int (l2 + ((1 : Int32)))), (3, .int (l3 + (1 : Int32)))]) [2, 3, 1, 0] rfl ?_
      exact hb
set_option maxRecDepth 20000 in
set_option maxHeartbeats 4000000 in
theorem wX10_goDuck_93 {Ex : State → Nat → Prop} {Q : Option Value → pz_H → Prop} {d bc bs : Nat} {l0 : Nat} {l1 : Int32} {l2 : Int32} {l3 : Int32}  {h : pz_H} (hD : 1 ≤ d) (hb : pz_gI h l0 10 1 (fun (x1 : Int32) => (x1 ≤ l3 → pz_V mX10_goDuck Ex Q d bc bs 25 [(0, .ref l0), (1, .int (l1 + (1 : Int32)))] [] h) ∧ (¬ x1 ≤ l3 → pz_is h l0 10 ∧ (pz_ki mX10_areBeside 0 0 0 (.ref l0 :: [.int l1, .int l3]) h (fun (x3 : Int32) (h2 : pz_H) => (x3 = 0 → pz_V mX10_goDuck Ex Q d bc bs 93 [(0, .ref l0), (1, .int l1), (2, .int l2), (3, .int (l3 + (1 : Int32)))] [] h2) ∧ (¬ x3 = 0 → pz_gR h2 l0 10 37 (fun (a4 : Nat) => pz_rJ h2 a4 l3 (fun (x5 : Int64) => pz_gR h2 l0 10 36 (fun (a6 : Nat) => pz_rJ h2 a6 l1 (fun (x7 : Int64) => ¬ l2 = 0 ∧ (pz_sJ h2 a4 l3 (x5 + (x7 * ((((60 : Int32)) / l2).toInt64))) (fun (h8 : pz_H) => pz_V mX10_goDuck Ex Q d bc bs 93 [(0, .ref l0), (1, .int l1), (2, .int l2), (3, .int (l3 + (1 : Int32)))] [] h8)))))))))))) : pz_V mX10_goDuck Ex Q d bc bs 93 [(0, .ref l0), (1, .int l1), (2, .int l2), (3, .int l3)] [] h := by
  refine pz_iload_n (pc' := 94) (x := l3) 3 rfl (pz_dc dX10_goDuck 57 rfl) rfl ?_
  refine pz_aload_n (pc' := 95) (x := l0) 0 rfl (pz_dc dX10_goDuck 58 rfl) rfl ?_
  refine pz_getI (M := mX10_goDuck) hb fX10_101 (pc' := 98) rfl (pz_dc dX10_goDuck 59 rfl) (fun x1 hb => ?_)
  refine pz_icmp_ge (pc' := 101) (tgt := 137) rfl (pz_dc dX10_goDuck 60 rfl) (by decide) (fun hc => ?_) (fun hc => ?_)
  · replace hb := hb.1 hc
    refine pz_iinc (pc' := 140) (x := l1) (v := l1 + (1 : Int32)) (lv' := [(1, .int (l1 + (1 : Int32))), (0, .ref l0), (2, .int l2), (3, .int l3)]) 1 rfl (pz_dc dX10_goDuck 84 rfl) rfl rfl (by decide) rfl ?_
    refine pz_goto (pc' := 25) (pz_dc dX10_goDuck 85 rfl) (by decide) ?_
    refine pz_lv (lv' := [(0, .ref l0), (1, .int (l1 + (1 : Int32)))]) [1, 0] rfl ?_
    exact hb
  · replace hb := hb.2 hc
    refine pz_aload_n (pc' := 102) (x := l0) 0 rfl (pz_dc dX10_goDuck 61 rfl) rfl ?_
    refine pz_iload_n (pc' := 103) (x := l1) 1 rfl (pz_dc dX10_goDuck 62 rfl) rfl ?_
    refine pz_iload_n (pc' := 104) (x := l3) 3 rfl (pz_dc dX10_goDuck 63 rfl) rfl ?_
    refine pz_cVi (M := mX10_goDuck) (N := mX10_areBeside) (d' := 0) (bc1 := 0) (bs1 := 0) (bc2 := bc) (bs2 := bs) (pc' := 107) [.int l1, .int l3] hb vX10_330 rfl (pz_dc dX10_goDuck 64 rfl) rfl (Nat.le_of_ble_eq_true rfl) (Nat.le_of_ble_eq_true rfl) rfl (by omega) (by omega) (by omega) (fun x3 h2 hb => ?_)
    refine pz_if_eq (pc' := 110) (tgt := 131) rfl (pz_dc dX10_goDuck 65 rfl) (by decide) (fun hc => ?_) (fun hc => ?_)
    · replace hb := hb.1 hc
      refine pz_iinc (pc' := 134) (x := l3) (v := l3 + (1 : Int32)) (lv' := [(3, .int (l3 + (1 : Int32))), (0, .ref l0), (1, .int l1), (2, .int l2)]) 3 rfl (pz_dc dX10_goDuck 82 rfl) rfl rfl (by decide) rfl ?_
      refine pz_goto (pc' := 93) (pz_dc dX10_goDuck 83 rfl) (by decide) ?_
      refine pz_lv (lv' := [(0, .ref l0), (1, .int l1), (2, .int l2), (3, .int (l3 + (1 : Int32)))]) [1, 2, 3, 0] rfl ?_
      exact hb
    · replace hb := hb.2 hc
      refine pz_aload_n (pc' := 111) (x := l0) 0 rfl (pz_dc dX10_goDuck 66 rfl) rfl ?_
      refine pz_getR (M := mX10_goDuck) hb fX10_82 (pc' := 114) rfl (pz_dc dX10_goDuck 67 rfl) (fun a4 hb => ?_)
      refine pz_iload_n (pc' := 115) (x := l3) 3 rfl (pz_dc dX10_goDuck 68 rfl) rfl ?_
      refine pz_dup2 (pc' := 116) rfl (pz_dc dX10_goDuck 69 rfl) rfl rfl ?_
      refine pz_ldJ hb (pc' := 117) rfl (pz_dc dX10_goDuck 70 rfl) (fun x5 hb => ?_)
      refine pz_aload_n (pc' := 118) (x := l0) 0 rfl (pz_dc dX10_goDuck 71 rfl) rfl ?_
      refine pz_getR (M := mX10_goDuck) hb fX10_79 (pc' := 121) rfl (pz_dc dX10_goDuck 72 rfl) (fun a6 hb => ?_)
      refine pz_iload_n (pc' := 122) (x := l1) 1 rfl (pz_dc dX10_goDuck 73 rfl) rfl ?_
      refine pz_ldJ hb (pc' := 123) rfl (pz_dc dX10_goDuck 74 rfl) (fun x7 hb => ?_)
      refine pz_bipush (pc' := 125) (v := 60) rfl (pz_dc dX10_goDuck 75 rfl) kb_60 ?_
      refine pz_iload_n (pc' := 126) (x := l2) 2 rfl (pz_dc dX10_goDuck 76 rfl) rfl ?_
      refine pz_idiv (pc' := 127) rfl (pz_dc dX10_goDuck 77 rfl) hb.1 ?_
      replace hb := hb.2
      refine pz_i2l (pc' := 128) rfl (pz_dc dX10_goDuck 78 rfl) ?_
      refine pz_lmul (pc' := 129) rfl (pz_dc dX10_goDuck 79 rfl) ?_
      refine pz_ladd (pc' := 130) rfl (pz_dc dX10_goDuck 80 rfl) ?_
      refine pz_stJ hb (pc' := 131) rfl (pz_dc dX10_goDuck 81 rfl) (fun h8 hb => ?_)
      refine pz_iinc (pc' := 134) (x := l3) (v := l3 + (1 : Int32)) (lv' := [(3, .int (l3 + (1 : Int32))), (0, .ref l0), (1, .int l1), (2, .int l2)]) 3 rfl (pz_dc dX10_goDuck 82 rfl) rfl rfl (by decide) rfl ?_
      refine pz_goto (pc' := 93) (pz_dc dX10_goDuck 83 rfl) (by decide) ?_
      refine pz_lv (lv' := [(0, .ref l0), (1, .int l1), (2, .int l2), (3, .int (l3 + (1 : Int32)))]) [1, 2, 3, 0] rfl ?_
      exact hb
set_option maxRecDepth 20000 in
set_option maxHeartbeats 4000000 in
theorem wX10_duck_0 {Ex : State → Nat → Prop} {Q : Option Value → pz_H → Prop} {d bc bs : Nat} {l0 : Nat} {l1 : Int32} {l2 : Int32} {l3 : Int32}  {h : pz_H} (hD : 201 ≤ d) (hb : pz_pF h l0 10 9 (.int 0) (fun (h1 : pz_H) => pz_is h1 l0 10 ∧ (pz_gI h1 l0 10 1 (fun (x2 : Int32) => ((eX10_isLake l1 x2) = 0 → Q (some (.int ((-1)))) h1) ∧ (¬ (eX10_isLake l1 x2) = 0 → pz_is h1 l0 10 ∧ (pz_gI h1 l0 10 1 (fun (x6 : Int32) => ((eX10_isLake l2 x6) = 0 → Q (some (.int ((-1)))) h1) ∧ (¬ (eX10_isLake l2 x6) = 0 → (¬ (eX10_in l3 ((0 : Int32)) ((10 : Int32))) = 0 → pz_V mX10_duck Ex Q d bc bs 36 [(0, .ref l0), (1, .int l1), (2, .int l2), (3, .int l3), (4, .int 0)] [] h1) ∧ ((eX10_in l3 ((0 : Int32)) ((10 : Int32))) = 0 → Q (some (.int ((-1)))) h1))))))))) : pz_V mX10_duck Ex Q d bc bs 0 [(0, .ref l0), (1, .int l1), (2, .int l2), (3, .int l3)] [] h := by
  refine pz_aload_n (pc' := 1) (x := l0) 0 rfl (pz_dc dX10_duck 0 rfl) rfl ?_
  refine pz_iconst (pc' := 2) (v := 0) rfl (pz_dc dX10_duck 1 rfl) ki_0 ?_
  refine pz_putv (M := mX10_duck) hb (pX10_95 _ rfl) rfl rfl (pc' := 5) rfl (pz_dc dX10_duck 2 rfl) (fun h1 hb => ?_)
  refine pz_aload_n (pc' := 6) (x := l0) 0 rfl (pz_dc dX10_duck 3 rfl) rfl ?_
  refine pz_iload_n (pc' := 7) (x := l1) 1 rfl (pz_dc dX10_duck 4 rfl) rfl ?_
  obtain ⟨⟨fs12, hf13⟩, hb⟩ := hb
  obtain ⟨fs3, x2, g4, g5, hb⟩ := hb
  refine pz_callV (M := mX10_duck) (N := mX10_isLake) (d' := 1) (bc1 := 0) (bs1 := 0) (bc2 := bc) (bs2 := bs) (pc' := 10) [.int l1] vX10_108 rfl (pz_dc dX10_duck 5 rfl) rfl (Nat.le_of_ble_eq_true rfl) (Nat.le_of_ble_eq_true rfl) rfl (by omega) (by omega) (by omega) hf13 ?_
  refine cX10_isLake ⟨fs3, x2, g4, g5, ?_⟩
  show pz_V mX10_duck _ _ _ _ _ 10 [(0, .ref l0), (1, .int l1), (2, .int l2), (3, .int l3)] [.int (eX10_isLake l1 x2)] h1
  refine pz_if_eq (pc' := 13) (tgt := 31) rfl (pz_dc dX10_duck 6 rfl) (by decide) (fun hc => ?_) (fun hc => ?_)
  · replace hb := hb.1 hc
    refine pz_iconst (pc' := 32) (v := (-1)) rfl (pz_dc dX10_duck 16 rfl) ki_m1 ?_
    exact pz_iret (pz_dc dX10_duck 17 rfl) rfl hb
  · replace hb := hb.2 hc
    refine pz_aload_n (pc' := 14) (x := l0) 0 rfl (pz_dc dX10_duck 7 rfl) rfl ?_
    refine pz_iload_n (pc' := 15) (x := l2) 2 rfl (pz_dc dX10_duck 8 rfl) rfl ?_
    obtain ⟨⟨fs10, hf11⟩, hb⟩ := hb
    obtain ⟨fs7, x6, g8, g9, hb⟩ := hb
    refine pz_callV (M := mX10_duck) (N := mX10_isLake) (d' := 1) (bc1 := 0) (bs1 := 0) (bc2 := bc) (bs2 := bs) (pc' := 18) [.int l2] vX10_108 rfl (pz_dc dX10_duck 9 rfl) rfl (Nat.le_of_ble_eq_true rfl) (Nat.le_of_ble_eq_true rfl) rfl (by omega) (by omega) (by omega) hf11 ?_
    refine cX10_isLake ⟨fs7, x6, g8, g9, ?_⟩
    show pz_V mX10_duck _ _ _ _ _ 18 [(0, .ref l0), (1, .int l1), (2, .int l2), (3, .int l3)] [.int (eX10_isLake l2 x6)] h1
    refine pz_if_eq (pc' := 21) (tgt := 31) rfl (pz_dc dX10_duck 10 rfl) (by decide) (fun hc => ?_) (fun hc => ?_)
    · replace hb := hb.1 hc
      refine pz_iconst (pc' := 32) (v := (-1)) rfl (pz_dc dX10_duck 16 rfl) ki_m1 ?_
      exact pz_iret (pz_dc dX10_duck 17 rfl) rfl hb
    · replace hb := hb.2 hc
      refine pz_iload_n (pc' := 22) (x := l3) 3 rfl (pz_dc dX10_duck 11 rfl) rfl ?_
      refine pz_iconst (pc' := 23) (v := 0) rfl (pz_dc dX10_duck 12 rfl) ki_0 ?_
      refine pz_bipush (pc' := 25) (v := 10) rfl (pz_dc dX10_duck 13 rfl) kb_10 ?_
      refine pz_callS (M := mX10_duck) (N := mX10_in) (d' := 0) (bc1 := 0) (bs1 := 0) (bc2 := bc) (bs2 := bs) (pc' := 28) [.int l3, .int 0, .int 10] sX10_104 rfl (pz_dc dX10_duck 14 rfl) rfl (Nat.le_of_ble_eq_true rfl) (Nat.le_of_ble_eq_true rfl) rfl (by omega) (by omega) (by omega) ?_
      refine cX10_in ?_
      show pz_V mX10_duck _ _ _ _ _ 28 [(0, .ref l0), (1, .int l1), (2, .int l2), (3, .int l3)] [.int (eX10_in l3 ((0 : Int32)) ((10 : Int32)))] h1
      refine pz_if_ne (pc' := 31) (tgt := 33) rfl (pz_dc dX10_duck 15 rfl) (by decide) (fun hc => ?_) (fun hc => ?_)
      · replace hb := hb.1 hc
        refine pz_iconst (pc' := 34) (v := 0) rfl (pz_dc dX10_duck 18 rfl) ki_0 ?_
        refine pz_istore (pc' := 36) (lv' := [(4, .int 0), (0, .ref l0), (1, .int l1), (2, .int l2), (3, .int l3)]) rfl (pz_dc dX10_duck 19 rfl) (by decide) rfl ?_
        refine pz_lv (lv' := [(0, .ref l0), (1, .int l1), (2, .int l2), (3, .int l3), (4, .int 0)]) [1, 2, 3, 4, 0] rfl ?_
        exact hb
      · replace hb := hb.2 hc
        refine pz_iconst (pc' := 32) (v := (-1)) rfl (pz_dc dX10_duck 16 rfl) ki_m1 ?_
        exact pz_iret (pz_dc dX10_duck 17 rfl) rfl hb
set_option maxRecDepth 20000 in
set_option maxHeartbeats 4000000 in
theorem wX10_duck_36 {Ex : State → Nat → Prop} {Q : Option Value → pz_H → Prop} {d bc bs : Nat} {l0 : Nat} {l1 : Int32} {l2 : Int32} {l3 : Int32} {l4 : Int32}  {h : pz_H} (hD : 201 ≤ d) (hb : pz_gI h l0 10 1 (fun (x1 : Int32) => (x1 ≤ l4 → pz_V mX10_duck Ex Q d bc bs 75 [(0, .ref l0), (2, .int l2), (3, .int l3), (4, .long 1), (6, .int 0)] [] h) ∧ (¬ x1 ≤ l4 → pz_gR h l0 10 36 (fun (a2 : Nat) => (¬ l4 = l1 → pz_sJ h a2 l4 0 (fun (h3 : pz_H) => pz_V mX10_duck Ex Q d bc bs 36 [(0, .ref l0), (1, .int l1), (2, .int l2), (3, .int l3), (4, .int (l4 + (1 : Int32)))] [] h3)) ∧ (l4 = l1 → pz_sJ h a2 l4 1 (fun (h4 : pz_H) => pz_V mX10_duck Ex Q d bc bs 36 [(0, .ref l0), (1, .int l1), (2, .int l2), (3, .int l3), (4, .int (l4 + (1 : Int32)))] [] h4)))))) : pz_V mX10_duck Ex Q d bc bs 36 [(0, .ref l0), (1, .int l1), (2, .int l2), (3, .int l3), (4, .int l4)] [] h := by
  refine pz_iload (pc' := 38) (x := l4) 4 rfl (pz_dc dX10_duck 20 rfl) rfl ?_
  refine pz_aload_n (pc' := 39) (x := l0) 0 rfl (pz_dc dX10_duck 21 rfl) rfl ?_
  refine pz_getI (M := mX10_duck) hb fX10_101 (pc' := 42) rfl (pz_dc dX10_duck 22 rfl) (fun x1 hb => ?_)
  refine pz_icmp_ge (pc' := 45) (tgt := 69) rfl (pz_dc dX10_duck 23 rfl) (by decide) (fun hc => ?_) (fun hc => ?_)
  · replace hb := hb.1 hc
    refine pz_lconst (pc' := 70) (v := 1) rfl (pz_dc dX10_duck 36 rfl) rfl ?_
    refine pz_lstore (pc' := 72) (lv' := [(4, .long 1), (0, .ref l0), (1, .int l1), (2, .int l2), (3, .int l3)]) rfl (pz_dc dX10_duck 37 rfl) (by decide) rfl ?_
    refine pz_iconst (pc' := 73) (v := 0) rfl (pz_dc dX10_duck 38 rfl) ki_0 ?_
    refine pz_istore (pc' := 75) (lv' := [(6, .int 0), (4, .long 1), (0, .ref l0), (1, .int l1), (2, .int l2), (3, .int l3)]) rfl (pz_dc dX10_duck 39 rfl) (by decide) rfl ?_
    refine pz_lv (lv' := [(0, .ref l0), (2, .int l2), (3, .int l3), (4, .long 1), (6, .int 0)]) [2, 4, 5, 1, 0] rfl ?_
    exact hb
  · replace hb := hb.2 hc
    refine pz_aload_n (pc' := 46) (x := l0) 0 rfl (pz_dc dX10_duck 24 rfl) rfl ?_
    refine pz_getR (M := mX10_duck) hb fX10_79 (pc' := 49) rfl (pz_dc dX10_duck 25 rfl) (fun a2 hb => ?_)
    refine pz_iload (pc' := 51) (x := l4) 4 rfl (pz_dc dX10_duck 26 rfl) rfl ?_
    refine pz_iload (pc' := 53) (x := l4) 4 rfl (pz_dc dX10_duck 27 rfl) rfl ?_
    refine pz_iload_n (pc' := 54) (x := l1) 1 rfl (pz_dc dX10_duck 28 rfl) rfl ?_
    refine pz_icmp_ne (pc' := 57) (tgt := 61) rfl (pz_dc dX10_duck 29 rfl) (by decide) (fun hc => ?_) (fun hc => ?_)
    · replace hb := hb.1 hc
      refine pz_lconst (pc' := 62) (v := 0) rfl (pz_dc dX10_duck 32 rfl) rfl ?_
      refine pz_stJ hb (pc' := 63) rfl (pz_dc dX10_duck 33 rfl) (fun h3 hb => ?_)
      refine pz_iinc (pc' := 66) (x := l4) (v := l4 + (1 : Int32)) (lv' := [(4, .int (l4 + (1 : Int32))), (0, .ref l0), (1, .int l1), (2, .int l2), (3, .int l3)]) 4 rfl (pz_dc dX10_duck 34 rfl) rfl rfl (by decide) rfl ?_
      refine pz_goto (pc' := 36) (pz_dc dX10_duck 35 rfl) (by decide) ?_
      refine pz_lv (lv' := [(0, .ref l0), (1, .int l1), (2, .int l2), (3, .int l3), (4, .int (l4 + (1 : Int32)))]) [1, 2, 3, 4, 0] rfl ?_
      exact hb
    · replace hb := hb.2 hc
      refine pz_lconst (pc' := 58) (v := 1) rfl (pz_dc dX10_duck 30 rfl) rfl ?_
      refine pz_goto (pc' := 62) (pz_dc dX10_duck 31 rfl) (by decide) ?_
      refine pz_stJ hb (pc' := 63) rfl (pz_dc dX10_duck 33 rfl) (fun h4 hb => ?_)
      refine pz_iinc (pc' := 66) (x := l4) (v := l4 + (1 : Int32)) (lv' := [(4, .int (l4 + (1 : Int32))), (0, .ref l0), (1, .int l1), (2, .int l2), (3, .int l3)]) 4 rfl (pz_dc dX10_duck 34 rfl) rfl rfl (by decide) rfl ?_
      refine pz_goto (pc' := 36) (pz_dc dX10_duck 35 rfl) (by decide) ?_
      refine pz_lv (lv' := [(0, .ref l0), (1, .int l1), (2, .int l2), (3, .int l3), (4, .int (l4 + (1 : Int32)))]) [1, 2, 3, 4, 0] rfl ?_
      exact hb
set_option maxRecDepth 20000 in
set_option maxHeartbeats 4000000 in
theorem wX10_duck_75 {Ex : State → Nat → Prop} {Q : Option Value → pz_H → Prop} {d bc bs : Nat} {l0 : Nat} {l2 : Int32} {l3 : Int32} {l4 : Int64} {l6 : Int32}  {h : pz_H} (hD : 201 ≤ d) (hb : (l3 ≤ l6 → pz_gR h l0 10 36 (fun (a1 : Nat) => pz_rJ h a1 l2 (fun (x2 : Int64) => pz_kl mX10_common 200 0 0 ([.long x2, .long l4]) h (fun (x4 : Int64) (h3 : pz_H) => pz_pF h3 l0 10 8 (.int 0) (fun (h5 : pz_H) => pz_gR h5 l0 10 36 (fun (a6 : Nat) => pz_rJ h5 a6 l2 (fun (x7 : Int64) => ¬ x4 = 0 ∧ (pz_is h5 l0 10 ∧ (pz_kv mX10_tell 0 0 0 (.ref l0 :: [.long (x7 / x4)]) h5 (fun (h8 : pz_H) => ¬ x4 = 0 ∧ (pz_is h8 l0 10 ∧ (pz_kv mX10_tell 0 0 0 (.ref l0 :: [.long (l4 / x4)]) h8 (fun (h9 : pz_H) => Q (some (.int 0)) h9))))))))))))) ∧ (¬ l3 ≤ l6 → pz_is h l0 10 ∧ (pz_kv mX10_goDuck 1 0 0 (.ref l0 :: []) h (fun (h10 : pz_H) => pz_V mX10_duck Ex Q d bc bs 75 [(0, .ref l0), (2, .int l2), (3, .int l3), (4, .long (l4 * ((60 : Int64)))), (6, .int (l6 + (1 : Int32)))] [] h10)))) : pz_V mX10_duck Ex Q d bc bs 75 [(0, .ref l0), (2, .int l2), (3, .int l3), (4, .long l4), (6, .int l6)] [] h := by
  refine pz_iload (pc' := 77) (x := l6) 4 rfl (pz_dc dX10_duck 40 rfl) rfl ?_
  refine pz_iload_n (pc' := 78) (x := l3) 2 rfl (pz_dc dX10_duck 41 rfl) rfl ?_
  refine pz_icmp_ge (pc' := 81) (tgt := 99) rfl (pz_dc dX10_duck 42 rfl) (by decide) (fun hc => ?_) (fun hc => ?_)
  · replace hb := hb.1 hc
    refine pz_aload_n (pc' := 100) (x := l0) 0 rfl (pz_dc dX10_duck 51 rfl) rfl ?_
    refine pz_getR (M := mX10_duck) hb fX10_79 (pc' := 103) rfl (pz_dc dX10_duck 52 rfl) (fun a1 hb => ?_)
    refine pz_iload_n (pc' := 104) (x := l2) 1 rfl (pz_dc dX10_duck 53 rfl) rfl ?_
    refine pz_ldJ hb (pc' := 105) rfl (pz_dc dX10_duck 54 rfl) (fun x2 hb => ?_)
    refine pz_lload (pc' := 107) (x := l4) 3 rfl (pz_dc dX10_duck 55 rfl) rfl ?_
    refine pz_cSl (M := mX10_duck) (N := mX10_common) (d' := 200) (bc1 := 0) (bs1 := 0) (bc2 := bc) (bs2 := bs) (pc' := 110) [.long x2, .long l4] hb sX10_326 rfl (pz_dc dX10_duck 56 rfl) rfl (Nat.le_of_ble_eq_true rfl) (Nat.le_of_ble_eq_true rfl) rfl (by omega) (by omega) (by omega) (fun x4 h3 hb => ?_)
    refine pz_lstore (pc' := 112) (lv' := [(6, .long x4), (0, .ref l0), (2, .int l2), (3, .int l3), (4, .long l4)]) rfl (pz_dc dX10_duck 57 rfl) (by decide) rfl ?_
    refine pz_aload_n (pc' := 113) (x := l0) 1 rfl (pz_dc dX10_duck 58 rfl) rfl ?_
    refine pz_iconst (pc' := 114) (v := 0) rfl (pz_dc dX10_duck 59 rfl) ki_0 ?_
    refine pz_putv (M := mX10_duck) hb (pX10_98 _ rfl) rfl rfl (pc' := 117) rfl (pz_dc dX10_duck 60 rfl) (fun h5 hb => ?_)
    refine pz_aload_n (pc' := 118) (x := l0) 1 rfl (pz_dc dX10_duck 61 rfl) rfl ?_
    refine pz_aload_n (pc' := 119) (x := l0) 1 rfl (pz_dc dX10_duck 62 rfl) rfl ?_
    refine pz_getR (M := mX10_duck) hb fX10_79 (pc' := 122) rfl (pz_dc dX10_duck 63 rfl) (fun a6 hb => ?_)
    refine pz_iload_n (pc' := 123) (x := l2) 2 rfl (pz_dc dX10_duck 64 rfl) rfl ?_
    refine pz_ldJ hb (pc' := 124) rfl (pz_dc dX10_duck 65 rfl) (fun x7 hb => ?_)
    refine pz_lload (pc' := 126) (x := x4) 0 rfl (pz_dc dX10_duck 66 rfl) rfl ?_
    refine pz_ldiv (pc' := 127) rfl (pz_dc dX10_duck 67 rfl) hb.1 ?_
    replace hb := hb.2
    refine pz_cVv (M := mX10_duck) (N := mX10_tell) (d' := 0) (bc1 := 0) (bs1 := 0) (bc2 := bc) (bs2 := bs) (pc' := 130) [.long (x7 / x4)] hb vX10_248 rfl (pz_dc dX10_duck 68 rfl) rfl (Nat.le_of_ble_eq_true rfl) (Nat.le_of_ble_eq_true rfl) rfl (by omega) (by omega) (by omega) (fun h8 hb => ?_)
    refine pz_aload_n (pc' := 131) (x := l0) 1 rfl (pz_dc dX10_duck 69 rfl) rfl ?_
    refine pz_lload (pc' := 133) (x := l4) 4 rfl (pz_dc dX10_duck 70 rfl) rfl ?_
    refine pz_lload (pc' := 135) (x := x4) 0 rfl (pz_dc dX10_duck 71 rfl) rfl ?_
    refine pz_ldiv (pc' := 136) rfl (pz_dc dX10_duck 72 rfl) hb.1 ?_
    replace hb := hb.2
    refine pz_cVv (M := mX10_duck) (N := mX10_tell) (d' := 0) (bc1 := 0) (bs1 := 0) (bc2 := bc) (bs2 := bs) (pc' := 139) [.long (l4 / x4)] hb vX10_248 rfl (pz_dc dX10_duck 73 rfl) rfl (Nat.le_of_ble_eq_true rfl) (Nat.le_of_ble_eq_true rfl) rfl (by omega) (by omega) (by omega) (fun h9 hb => ?_)
    refine pz_iconst (pc' := 140) (v := 0) rfl (pz_dc dX10_duck 74 rfl) ki_0 ?_
    exact pz_iret (pz_dc dX10_duck 75 rfl) rfl hb
  · replace hb := hb.2 hc
    refine pz_aload_n (pc' := 82) (x := l0) 0 rfl (pz_dc dX10_duck 43 rfl) rfl ?_
    refine pz_cVv (M := mX10_duck) (N := mX10_goDuck) (d' := 1) (bc1 := 0) (bs1 := 0) (bc2 := bc) (bs2 := bs) (pc' := 85) [] hb vX10_335 rfl (pz_dc dX10_duck 44 rfl) rfl (Nat.le_of_ble_eq_true rfl) (Nat.le_of_ble_eq_true rfl) rfl (by omega) (by omega) (by omega) (fun h10 hb => ?_)
    refine pz_lload (pc' := 87) (x := l4) 3 rfl (pz_dc dX10_duck 45 rfl) rfl ?_
    refine pz_ldc2 (M := mX10_duck) (pc' := 90) cX10_333 rfl (pz_dc dX10_duck 46 rfl) ?_
    refine pz_lmul (pc' := 91) rfl (pz_dc dX10_duck 47 rfl) ?_
    refine pz_lstore (pc' := 93) (lv' := [(4, .long (l4 * ((60 : Int64)))), (0, .ref l0), (2, .int l2), (3, .int l3), (6, .int l6)]) rfl (pz_dc dX10_duck 48 rfl) (by decide) rfl ?_
    refine pz_iinc (pc' := 96) (x := l6) (v := l6 + (1 : Int32)) (lv' := [(6, .int (l6 + (1 : Int32))), (4, .long (l4 * ((60 : Int64)))), (0, .ref l0), (2, .int l2), (3, .int l3)]) 4 rfl (pz_dc dX10_duck 49 rfl) rfl rfl (by decide) rfl ?_
    refine pz_goto (pc' := 75) (pz_dc dX10_duck 50 rfl) (by decide) ?_
    refine pz_lv (lv' := [(0, .ref l0), (2, .int l2), (3, .int l3), (4, .long (l4 * ((60 : Int64)))), (6, .int (l6 + (1 : Int32)))]) [2, 3, 4, 1, 0] rfl ?_
    exact hb
set_option maxRecDepth 20000 in
set_option maxHeartbeats 4000000 in
theorem wX10_spoon_0 {Ex : State → Nat → Prop} {Q : Option Value → pz_H → Prop} {d bc bs : Nat} {l0 : Nat} {l1 : Int32} {l2 : Int32} {l3 : Int32}  {h : pz_H} (hD : 83 ≤ d) (hb : pz_pF h l0 10 9 (.int 0) (fun (h1 : pz_H) => pz_is h1 l0 10 ∧ (pz_gI h1 l0 10 1 (fun (x2 : Int32) => ((eX10_isLake l1 x2) = 0 → Q (some (.int ((-1)))) h1) ∧ (¬ (eX10_isLake l1 x2) = 0 → ((eX10_in l2 ((1 : Int32)) ((9 : Int32))) = 0 → Q (some (.int ((-1)))) h1) ∧ (¬ (eX10_in l2 ((1 : Int32)) ((9 : Int32))) = 0 → (¬ (eX10_in l3 ((0 : Int32)) ((60 : Int32))) = 0 → pz_gR h1 l0 10 0 (fun (a6 : Nat) => pz_gR h1 l0 10 24 (fun (a7 : Nat) => pz_kv mX10_lay 0 0 0 ([.ref a6, .ref a7, .int 0]) h1 (fun (h8 : pz_H) => pz_V mX10_spoon Ex Q d bc bs 53 [(0, .ref l0), (1, .int l1), (2, .int l2), (3, .int l3), (4, .int 0), (5, .int 0)] [] h8)))) ∧ ((eX10_in l3 ((0 : Int32)) ((60 : Int32))) = 0 → Q (some (.int ((-1)))) h1))))))) : pz_V mX10_spoon Ex Q d bc bs 0 [(0, .ref l0), (1, .int l1), (2, .int l2), (3, .int l3)] [] h := by
  refine pz_aload_n (pc' := 1) (x := l0) 0 rfl (pz_dc dX10_spoon 0 rfl) rfl ?_
  refine pz_iconst (pc' := 2) (v := 0) rfl (pz_dc dX10_spoon 1 rfl) ki_0 ?_
  refine pz_putv (M := mX10_spoon) hb (pX10_95 _ rfl) rfl rfl (pc' := 5) rfl (pz_dc dX10_spoon 2 rfl) (fun h1 hb => ?_)
  refine pz_aload_n (pc' := 6) (x := l0) 0 rfl (pz_dc dX10_spoon 3 rfl) rfl ?_
  refine pz_iload_n (pc' := 7) (x := l1) 1 rfl (pz_dc dX10_spoon 4 rfl) rfl ?_
  obtain ⟨⟨fs9, hf10⟩, hb⟩ := hb
  obtain ⟨fs3, x2, g4, g5, hb⟩ := hb
  refine pz_callV (M := mX10_spoon) (N := mX10_isLake) (d' := 1) (bc1 := 0) (bs1 := 0) (bc2 := bc) (bs2 := bs) (pc' := 10) [.int l1] vX10_108 rfl (pz_dc dX10_spoon 5 rfl) rfl (Nat.le_of_ble_eq_true rfl) (Nat.le_of_ble_eq_true rfl) rfl (by omega) (by omega) (by omega) hf10 ?_
  refine cX10_isLake ⟨fs3, x2, g4, g5, ?_⟩
  show pz_V mX10_spoon _ _ _ _ _ 10 [(0, .ref l0), (1, .int l1), (2, .int l2), (3, .int l3)] [.int (eX10_isLake l1 x2)] h1
  refine pz_if_eq (pc' := 13) (tgt := 33) rfl (pz_dc dX10_spoon 6 rfl) (by decide) (fun hc => ?_) (fun hc => ?_)
  · replace hb := hb.1 hc
    refine pz_iconst (pc' := 34) (v := (-1)) rfl (pz_dc dX10_spoon 17 rfl) ki_m1 ?_
    exact pz_iret (pz_dc dX10_spoon 18 rfl) rfl hb
  · replace hb := hb.2 hc
    refine pz_iload_n (pc' := 14) (x := l2) 2 rfl (pz_dc dX10_spoon 7 rfl) rfl ?_
    refine pz_iconst (pc' := 15) (v := 1) rfl (pz_dc dX10_spoon 8 rfl) ki_1 ?_
    refine pz_bipush (pc' := 17) (v := 9) rfl (pz_dc dX10_spoon 9 rfl) kb_9 ?_
    refine pz_callS (M := mX10_spoon) (N := mX10_in) (d' := 0) (bc1 := 0) (bs1 := 0) (bc2 := bc) (bs2 := bs) (pc' := 20) [.int l2, .int 1, .int 9] sX10_104 rfl (pz_dc dX10_spoon 10 rfl) rfl (Nat.le_of_ble_eq_true rfl) (Nat.le_of_ble_eq_true rfl) rfl (by omega) (by omega) (by omega) ?_
    refine cX10_in ?_
    show pz_V mX10_spoon _ _ _ _ _ 20 [(0, .ref l0), (1, .int l1), (2, .int l2), (3, .int l3)] [.int (eX10_in l2 ((1 : Int32)) ((9 : Int32)))] h1
    refine pz_if_eq (pc' := 23) (tgt := 33) rfl (pz_dc dX10_spoon 11 rfl) (by decide) (fun hc => ?_) (fun hc => ?_)
    · replace hb := hb.1 hc
      refine pz_iconst (pc' := 34) (v := (-1)) rfl (pz_dc dX10_spoon 17 rfl) ki_m1 ?_
      exact pz_iret (pz_dc dX10_spoon 18 rfl) rfl hb
    · replace hb := hb.2 hc
      refine pz_iload_n (pc' := 24) (x := l3) 3 rfl (pz_dc dX10_spoon 12 rfl) rfl ?_
      refine pz_iconst (pc' := 25) (v := 0) rfl (pz_dc dX10_spoon 13 rfl) ki_0 ?_
      refine pz_bipush (pc' := 27) (v := 60) rfl (pz_dc dX10_spoon 14 rfl) kb_60 ?_
      refine pz_callS (M := mX10_spoon) (N := mX10_in) (d' := 0) (bc1 := 0) (bs1 := 0) (bc2 := bc) (bs2 := bs) (pc' := 30) [.int l3, .int 0, .int 60] sX10_104 rfl (pz_dc dX10_spoon 15 rfl) rfl (Nat.le_of_ble_eq_true rfl) (Nat.le_of_ble_eq_true rfl) rfl (by omega) (by omega) (by omega) ?_
      refine cX10_in ?_
      show pz_V mX10_spoon _ _ _ _ _ 30 [(0, .ref l0), (1, .int l1), (2, .int l2), (3, .int l3)] [.int (eX10_in l3 ((0 : Int32)) ((60 : Int32)))] h1
      refine pz_if_ne (pc' := 33) (tgt := 35) rfl (pz_dc dX10_spoon 16 rfl) (by decide) (fun hc => ?_) (fun hc => ?_)
      · replace hb := hb.1 hc
        refine pz_iconst (pc' := 36) (v := 0) rfl (pz_dc dX10_spoon 19 rfl) ki_0 ?_
        refine pz_istore (pc' := 38) (lv' := [(4, .int 0), (0, .ref l0), (1, .int l1), (2, .int l2), (3, .int l3)]) rfl (pz_dc dX10_spoon 20 rfl) (by decide) rfl ?_
        refine pz_aload_n (pc' := 39) (x := l0) 1 rfl (pz_dc dX10_spoon 21 rfl) rfl ?_
        refine pz_getR (M := mX10_spoon) hb fX10_9 (pc' := 42) rfl (pz_dc dX10_spoon 22 rfl) (fun a6 hb => ?_)
        refine pz_aload_n (pc' := 43) (x := l0) 1 rfl (pz_dc dX10_spoon 23 rfl) rfl ?_
        refine pz_getR (M := mX10_spoon) hb fX10_48 (pc' := 46) rfl (pz_dc dX10_spoon 24 rfl) (fun a7 hb => ?_)
        refine pz_iconst (pc' := 47) (v := 0) rfl (pz_dc dX10_spoon 25 rfl) ki_0 ?_
        refine pz_cSv (M := mX10_spoon) (N := mX10_lay) (d' := 0) (bc1 := 0) (bs1 := 0) (bc2 := bc) (bs2 := bs) (pc' := 50) [.ref a6, .ref a7, .int 0] hb sX10_230 rfl (pz_dc dX10_spoon 26 rfl) rfl (Nat.le_of_ble_eq_true rfl) (Nat.le_of_ble_eq_true rfl) rfl (by omega) (by omega) (by omega) (fun h8 hb => ?_)
        refine pz_iconst (pc' := 51) (v := 0) rfl (pz_dc dX10_spoon 27 rfl) ki_0 ?_
        refine pz_istore (pc' := 53) (lv' := [(5, .int 0), (4, .int 0), (0, .ref l0), (1, .int l1), (2, .int l2), (3, .int l3)]) rfl (pz_dc dX10_spoon 28 rfl) (by decide) rfl ?_
        refine pz_lv (lv' := [(0, .ref l0), (1, .int l1), (2, .int l2), (3, .int l3), (4, .int 0), (5, .int 0)]) [2, 3, 4, 5, 1, 0] rfl ?_
        exact hb
      · replace hb := hb.2 hc
        refine pz_iconst (pc' := 34) (v := (-1)) rfl (pz_dc dX10_spoon 17 rfl) ki_m1 ?_
        exact pz_iret (pz_dc dX10_spoon 18 rfl) rfl hb
set_option maxRecDepth 20000 in
set_option maxHeartbeats 4000000 in
theorem wX10_spoon_53 {Ex : State → Nat → Prop} {Q : Option Value → pz_H → Prop} {d bc bs : Nat} {l0 : Nat} {l1 : Int32} {l2 : Int32} {l3 : Int32} {l4 : Int32} {l5 : Int32}  {h : pz_H} (hD : 83 ≤ d) (hb : (l3 ≤ l5 → pz_pF h l0 10 8 (.int 0) (fun (h1 : pz_H) => pz_is h1 l0 10 ∧ (pz_kv mX10_tell 0 0 0 (.ref l0 :: [.long l4.toInt64]) h1 (fun (h2 : pz_H) => pz_gR h2 l0 10 24 (fun (a3 : Nat) => pz_rI h2 a3 l1 (fun (x4 : Int32) => Q (some (.int x4)) h2)))))) ∧ (¬ l3 ≤ l5 → pz_gR h l0 10 24 (fun (a5 : Nat) => pz_rI h a5 l1 (fun (x6 : Int32) => pz_gR h l0 10 24 (fun (a7 : Nat) => pz_rI h a7 l1 (fun (x8 : Int32) => pz_sI h a7 l1 (x8 - (if x6 < l2 then x6 else l2)) (fun (h9 : pz_H) => pz_gR h9 l0 10 24 (fun (a10 : Nat) => pz_is h9 l0 10 ∧ (pz_kv mX10_goDay 82 0 0 (.ref l0 :: [.ref a10]) h9 (fun (h11 : pz_H) => pz_V mX10_spoon Ex Q d bc bs 53 [(0, .ref l0), (1, .int l1), (2, .int l2), (3, .int l3), (4, .int (l4 + (if x6 < l2 then x6 else l2))), (5, .int (l5 + (1 : Int32)))] [] h11)))))))))) : pz_V mX10_spoon Ex Q d bc bs 53 [(0, .ref l0), (1, .int l1), (2, .int l2), (3, .int l3), (4, .int l4), (5, .int l5)] [] h := by
  refine pz_iload (pc' := 55) (x := l5) 5 rfl (pz_dc dX10_spoon 29 rfl) rfl ?_
  refine pz_iload_n (pc' := 56) (x := l3) 3 rfl (pz_dc dX10_spoon 30 rfl) rfl ?_
  refine pz_icmp_ge (pc' := 59) (tgt := 103) rfl (pz_dc dX10_spoon 31 rfl) (by decide) (fun hc => ?_) (fun hc => ?_)
  · replace hb := hb.1 hc
    refine pz_aload_n (pc' := 104) (x := l0) 0 rfl (pz_dc dX10_spoon 57 rfl) rfl ?_
    refine pz_iconst (pc' := 105) (v := 0) rfl (pz_dc dX10_spoon 58 rfl) ki_0 ?_
    refine pz_putv (M := mX10_spoon) hb (pX10_98 _ rfl) rfl rfl (pc' := 108) rfl (pz_dc dX10_spoon 59 rfl) (fun h1 hb => ?_)
    refine pz_aload_n (pc' := 109) (x := l0) 0 rfl (pz_dc dX10_spoon 60 rfl) rfl ?_
    refine pz_iload (pc' := 111) (x := l4) 4 rfl (pz_dc dX10_spoon 61 rfl) rfl ?_
    refine pz_i2l (pc' := 112) rfl (pz_dc dX10_spoon 62 rfl) ?_
    refine pz_cVv (M := mX10_spoon) (N := mX10_tell) (d' := 0) (bc1 := 0) (bs1 := 0) (bc2 := bc) (bs2 := bs) (pc' := 115) [.long l4.toInt64] hb vX10_248 rfl (pz_dc dX10_spoon 63 rfl) rfl (Nat.le_of_ble_eq_true rfl) (Nat.le_of_ble_eq_true rfl) rfl (by omega) (by omega) (by omega) (fun h2 hb => ?_)
    refine pz_aload_n (pc' := 116) (x := l0) 0 rfl (pz_dc dX10_spoon 64 rfl) rfl ?_
    refine pz_getR (M := mX10_spoon) hb fX10_48 (pc' := 119) rfl (pz_dc dX10_spoon 65 rfl) (fun a3 hb => ?_)
    refine pz_iload_n (pc' := 120) (x := l1) 1 rfl (pz_dc dX10_spoon 66 rfl) rfl ?_
    refine pz_ldI hb (pc' := 121) rfl (pz_dc dX10_spoon 67 rfl) (fun x4 hb => ?_)
    exact pz_iret (pz_dc dX10_spoon 68 rfl) rfl hb
  · replace hb := hb.2 hc
    refine pz_iload_n (pc' := 60) (x := l2) 2 rfl (pz_dc dX10_spoon 32 rfl) rfl ?_
    refine pz_aload_n (pc' := 61) (x := l0) 0 rfl (pz_dc dX10_spoon 33 rfl) rfl ?_
    refine pz_getR (M := mX10_spoon) hb fX10_48 (pc' := 64) rfl (pz_dc dX10_spoon 34 rfl) (fun a5 hb => ?_)
    refine pz_iload_n (pc' := 65) (x := l1) 1 rfl (pz_dc dX10_spoon 35 rfl) rfl ?_
    refine pz_ldI hb (pc' := 66) rfl (pz_dc dX10_spoon 36 rfl) (fun x6 hb => ?_)
    refine pz_min (M := mX10_spoon) (pc' := 69) wX10_211 rfl (pz_dc dX10_spoon 37 rfl) (Nat.le_of_ble_eq_true rfl) (by omega) ?_
    refine pz_istore (pc' := 71) (lv' := [(6, .int (if x6 < l2 then x6 else l2)), (0, .ref l0), (1, .int l1), (2, .int l2), (3, .int l3), (4, .int l4), (5, .int l5)]) rfl (pz_dc dX10_spoon 38 rfl) (by decide) rfl ?_
    refine pz_iload (pc' := 73) (x := l4) 5 rfl (pz_dc dX10_spoon 39 rfl) rfl ?_
    refine pz_iload (pc' := 75) (x := if x6 < l2 then x6 else l2) 0 rfl (pz_dc dX10_spoon 40 rfl) rfl ?_
    refine pz_iadd (pc' := 76) rfl (pz_dc dX10_spoon 41 rfl) ?_
    refine pz_istore (pc' := 78) (lv' := [(4, .int (l4 + (if x6 < l2 then x6 else l2))), (6, .int (if x6 < l2 then x6 else l2)), (0, .ref l0), (1, .int l1), (2, .int l2), (3, .int l3), (5, .int l5)]) rfl (pz_dc dX10_spoon 42 rfl) (by decide) rfl ?_
    refine pz_aload_n (pc' := 79) (x := l0) 2 rfl (pz_dc dX10_spoon 43 rfl) rfl ?_
    refine pz_getR (M := mX10_spoon) hb fX10_48 (pc' := 82) rfl (pz_dc dX10_spoon 44 rfl) (fun a7 hb => ?_)
    refine pz_iload_n (pc' := 83) (x := l1) 3 rfl (pz_dc dX10_spoon 45 rfl) rfl ?_
    refine pz_dup2 (pc' := 84) rfl (pz_dc dX10_spoon 46 rfl) rfl rfl ?_
    refine pz_ldI hb (pc' := 85) rfl (pz_dc dX10_spoon 47 rfl) (fun x8 hb => ?_)
    refine pz_iload (pc' := 87) (x := if x6 < l2 then x6 else l2) 1 rfl (pz_dc dX10_spoon 48 rfl) rfl ?_
    refine pz_isub (pc' := 88) rfl (pz_dc dX10_spoon 49 rfl) ?_
    refine pz_stI hb (pc' := 89) rfl (pz_dc dX10_spoon 50 rfl) (fun h9 hb => ?_)
    refine pz_aload_n (pc' := 90) (x := l0) 2 rfl (pz_dc dX10_spoon 51 rfl) rfl ?_
    refine pz_aload_n (pc' := 91) (x := l0) 2 rfl (pz_dc dX10_spoon 52 rfl) rfl ?_
    refine pz_getR (M := mX10_spoon) hb fX10_48 (pc' := 94) rfl (pz_dc dX10_spoon 53 rfl) (fun a10 hb => ?_)
    refine pz_cVv (M := mX10_spoon) (N := mX10_goDay) (d' := 82) (bc1 := 0) (bs1 := 0) (bc2 := bc) (bs2 := bs) (pc' := 97) [.ref a10] hb vX10_237 rfl (pz_dc dX10_spoon 54 rfl) rfl (Nat.le_of_ble_eq_true rfl) (Nat.le_of_ble_eq_true rfl) rfl (by omega) (by omega) (by omega) (fun h11 hb => ?_)
    refine pz_iinc (pc' := 100) (x := l5) (v := l5 + (1 : Int32)) (lv' := [(5, .int (l5 + (1 : Int32))), (4, .int (l4 + (if x6 < l2 then x6 else l2))), (6, .int (if x6 < l2 then x6 else l2)), (0, .ref l0), (1, .int l1), (2, .int l2), (3, .int l3)]) 6 rfl (pz_dc dX10_spoon 55 rfl) rfl rfl (by decide) rfl ?_
    refine pz_goto (pc' := 53) (pz_dc dX10_spoon 56 rfl) (by decide) ?_
    refine pz_lv (lv' := [(0, .ref l0), (1, .int l1), (2, .int l2), (3, .int l3), (4, .int (l4 + (if x6 < l2 then x6 else l2))), (5, .int (l5 + (1 : Int32)))]) [3, 4, 5, 6, 1, 0] rfl ?_
    exact hb
set_option maxRecDepth 20000 in
set_option maxHeartbeats 4000000 in
theorem wX10_isBest_0 {Ex : State → Nat → Prop} {Q : Option Value → pz_H → Prop} {d bc bs : Nat} {l0 : Int32} {l1 : Int32} {l2 : Int32}  {h : pz_H} (hD : 1 ≤ d) (hb : pz_V mX10_isBest Ex Q d bc bs 2 [(0, .int l0), (1, .int l1), (2, .int l2), (3, .int 0)] [] h) : pz_V mX10_isBest Ex Q d bc bs 0 [(0, .int l0), (1, .int l1), (2, .int l2)] [] h := by
  refine pz_iconst (pc' := 1) (v := 0) rfl (pz_dc dX10_isBest 0 rfl) ki_0 ?_
  refine pz_istore_n (pc' := 2) (lv' := [(3, .int 0), (0, .int l0), (1, .int l1), (2, .int l2)]) rfl (pz_dc dX10_isBest 1 rfl) (by decide) rfl ?_
  refine pz_lv (lv' := [(0, .int l0), (1, .int l1), (2, .int l2), (3, .int 0)]) [1, 2, 3, 0] rfl ?_
  exact hb
set_option maxRecDepth 20000 in
set_option maxHeartbeats 4000000 in
theorem wX10_isBest_2 {Ex : State → Nat → Prop} {Q : Option Value → pz_H → Prop} {d bc bs : Nat} {l0 : Int32} {l1 : Int32} {l2 : Int32} {l3 : Int32}  {h : pz_H} (hD : 1 ≤ d) (hb : (((9 : Int32)) < l3 → Q (some (.int 1)) h) ∧ (¬ ((9 : Int32)) < l3 → ((eX10_getsBy l3 l1 l2) ≤ (eX10_getsBy l0 l1 l2) → pz_V mX10_isBest Ex Q d bc bs 2 [(0, .int l0), (1, .int l1), (2, .int l2), (3, .int (l3 + (1 : Int32)))] [] h) ∧ (¬ (eX10_getsBy l3 l1 l2) ≤ (eX10_getsBy l0 l1 l2) → Q (some (.int 0)) h))) : pz_V mX10_isBest Ex Q d bc bs 2 [(0, .int l0), (1, .int l1), (2, .int l2), (3, .int l3)] [] h := by
  refine pz_iload_n (pc' := 3) (x := l3) 3 rfl (pz_dc dX10_isBest 2 rfl) rfl ?_
  refine pz_bipush (pc' := 5) (v := 9) rfl (pz_dc dX10_isBest 3 rfl) kb_9 ?_
  refine pz_icmp_gt (pc' := 8) (tgt := 31) rfl (pz_dc dX10_isBest 4 rfl) (by decide) (fun hc => ?_) (fun hc => ?_)
  · replace hb := hb.1 hc
    refine pz_iconst (pc' := 32) (v := 1) rfl (pz_dc dX10_isBest 18 rfl) ki_1 ?_
    exact pz_zret (pz_dc dX10_isBest 19 rfl) rfl ⟨by decide, hb⟩
  · replace hb := hb.2 hc
    refine pz_iload_n (pc' := 9) (x := l3) 3 rfl (pz_dc dX10_isBest 5 rfl) rfl ?_
    refine pz_iload_n (pc' := 10) (x := l1) 1 rfl (pz_dc dX10_isBest 6 rfl) rfl ?_
    refine pz_iload_n (pc' := 11) (x := l2) 2 rfl (pz_dc dX10_isBest 7 rfl) rfl ?_
    refine pz_callS (M := mX10_isBest) (N := mX10_getsBy) (d' := 0) (bc1 := 0) (bs1 := 0) (bc2 := bc) (bs2 := bs) (pc' := 14) [.int l3, .int l1, .int l2] sX10_338 rfl (pz_dc dX10_isBest 8 rfl) rfl (Nat.le_of_ble_eq_true rfl) (Nat.le_of_ble_eq_true rfl) rfl (by omega) (by omega) (by omega) ?_
    refine cX10_getsBy ?_
    show pz_V mX10_isBest _ _ _ _ _ 14 [(0, .int l0), (1, .int l1), (2, .int l2), (3, .int l3)] [.int (eX10_getsBy l3 l1 l2)] h
    refine pz_iload_n (pc' := 15) (x := l0) 0 rfl (pz_dc dX10_isBest 9 rfl) rfl ?_
    refine pz_iload_n (pc' := 16) (x := l1) 1 rfl (pz_dc dX10_isBest 10 rfl) rfl ?_
    refine pz_iload_n (pc' := 17) (x := l2) 2 rfl (pz_dc dX10_isBest 11 rfl) rfl ?_
    refine pz_callS (M := mX10_isBest) (N := mX10_getsBy) (d' := 0) (bc1 := 0) (bs1 := 0) (bc2 := bc) (bs2 := bs) (pc' := 20) [.int l0, .int l1, .int l2] sX10_338 rfl (pz_dc dX10_isBest 12 rfl) rfl (Nat.le_of_ble_eq_true rfl) (Nat.le_of_ble_eq_true rfl) rfl (by omega) (by omega) (by omega) ?_
    refine cX10_getsBy ?_
    show pz_V mX10_isBest _ _ _ _ _ 20 [(0, .int l0), (1, .int l1), (2, .int l2), (3, .int l3)] [.int (eX10_getsBy l0 l1 l2), .int (eX10_getsBy l3 l1 l2)] h
    refine pz_icmp_le (pc' := 23) (tgt := 25) rfl (pz_dc dX10_isBest 13 rfl) (by decide) (fun hc => ?_) (fun hc => ?_)
    · replace hb := hb.1 hc
      refine pz_iinc (pc' := 28) (x := l3) (v := l3 + (1 : Int32)) (lv' := [(3, .int (l3 + (1 : Int32))), (0, .int l0), (1, .int l1), (2, .int l2)]) 3 rfl (pz_dc dX10_isBest 16 rfl) rfl rfl (by decide) rfl ?_
      refine pz_goto (pc' := 2) (pz_dc dX10_isBest 17 rfl) (by decide) ?_
      refine pz_lv (lv' := [(0, .int l0), (1, .int l1), (2, .int l2), (3, .int (l3 + (1 : Int32)))]) [1, 2, 3, 0] rfl ?_
      exact hb
    · replace hb := hb.2 hc
      refine pz_iconst (pc' := 24) (v := 0) rfl (pz_dc dX10_isBest 14 rfl) ki_0 ?_
      exact pz_zret (pz_dc dX10_isBest 15 rfl) rfl ⟨by decide, hb⟩
set_option maxRecDepth 20000 in
set_option maxHeartbeats 4000000 in
theorem wX10_rests_0 {Ex : State → Nat → Prop} {Q : Option Value → pz_H → Prop} {d bc bs : Nat} {l0 : Nat} {l1 : Int32}  {h : pz_H} (hD : 2 ≤ d) (hb : pz_pF h l0 10 9 (.int 0) (fun (h1 : pz_H) => (¬ (eX10_in l1 ((0 : Int32)) ((20 : Int32))) = 0 → pz_pF h1 l0 10 8 (.int 0) (fun (h2 : pz_H) => pz_V mX10_rests Ex Q d bc bs 26 [(0, .ref l0), (1, .int l1), (2, .int 0), (3, .int 0)] [] h2)) ∧ ((eX10_in l1 ((0 : Int32)) ((20 : Int32))) = 0 → Q (some (.int ((-1)))) h1))) : pz_V mX10_rests Ex Q d bc bs 0 [(0, .ref l0), (1, .int l1)] [] h := by
  refine pz_aload_n (pc' := 1) (x := l0) 0 rfl (pz_dc dX10_rests 0 rfl) rfl ?_
  refine pz_iconst (pc' := 2) (v := 0) rfl (pz_dc dX10_rests 1 rfl) ki_0 ?_
  refine pz_putv (M := mX10_rests) hb (pX10_95 _ rfl) rfl rfl (pc' := 5) rfl (pz_dc dX10_rests 2 rfl) (fun h1 hb => ?_)
  refine pz_iload_n (pc' := 6) (x := l1) 1 rfl (pz_dc dX10_rests 3 rfl) rfl ?_
  refine pz_iconst (pc' := 7) (v := 0) rfl (pz_dc dX10_rests 4 rfl) ki_0 ?_
  refine pz_bipush (pc' := 9) (v := 20) rfl (pz_dc dX10_rests 5 rfl) kb_20 ?_
  refine pz_callS (M := mX10_rests) (N := mX10_in) (d' := 0) (bc1 := 0) (bs1 := 0) (bc2 := bc) (bs2 := bs) (pc' := 12) [.int l1, .int 0, .int 20] sX10_104 rfl (pz_dc dX10_rests 6 rfl) rfl (Nat.le_of_ble_eq_true rfl) (Nat.le_of_ble_eq_true rfl) rfl (by omega) (by omega) (by omega) ?_
  refine cX10_in ?_
  show pz_V mX10_rests _ _ _ _ _ 12 [(0, .ref l0), (1, .int l1)] [.int (eX10_in l1 ((0 : Int32)) ((20 : Int32)))] h1
  refine pz_if_ne (pc' := 15) (tgt := 17) rfl (pz_dc dX10_rests 7 rfl) (by decide) (fun hc => ?_) (fun hc => ?_)
  · replace hb := hb.1 hc
    refine pz_iconst (pc' := 18) (v := 0) rfl (pz_dc dX10_rests 10 rfl) ki_0 ?_
    refine pz_istore_n (pc' := 19) (lv' := [(2, .int 0), (0, .ref l0), (1, .int l1)]) rfl (pz_dc dX10_rests 11 rfl) (by decide) rfl ?_
    refine pz_aload_n (pc' := 20) (x := l0) 1 rfl (pz_dc dX10_rests 12 rfl) rfl ?_
    refine pz_iconst (pc' := 21) (v := 0) rfl (pz_dc dX10_rests 13 rfl) ki_0 ?_
    refine pz_putv (M := mX10_rests) hb (pX10_98 _ rfl) rfl rfl (pc' := 24) rfl (pz_dc dX10_rests 14 rfl) (fun h2 hb => ?_)
    refine pz_iconst (pc' := 25) (v := 0) rfl (pz_dc dX10_rests 15 rfl) ki_0 ?_
    refine pz_istore_n (pc' := 26) (lv' := [(3, .int 0), (2, .int 0), (0, .ref l0), (1, .int l1)]) rfl (pz_dc dX10_rests 16 rfl) (by decide) rfl ?_
    refine pz_lv (lv' := [(0, .ref l0), (1, .int l1), (2, .int 0), (3, .int 0)]) [2, 3, 1, 0] rfl ?_
    exact hb
  · replace hb := hb.2 hc
    refine pz_iconst (pc' := 16) (v := (-1)) rfl (pz_dc dX10_rests 8 rfl) ki_m1 ?_
    exact pz_iret (pz_dc dX10_rests 9 rfl) rfl hb
set_option maxRecDepth 20000 in
set_option maxHeartbeats 4000000 in
theorem wX10_rests_26 {Ex : State → Nat → Prop} {Q : Option Value → pz_H → Prop} {d bc bs : Nat} {l0 : Nat} {l1 : Int32} {l2 : Int32} {l3 : Int32}  {h : pz_H} (hD : 2 ≤ d) (hb : (((9 : Int32)) < l3 → Q (some (.int l2)) h) ∧ (¬ ((9 : Int32)) < l3 → pz_V mX10_rests Ex Q d bc bs 35 [(0, .ref l0), (1, .int l1), (2, .int l2), (3, .int l3), (4, .int 0)] [] h)) : pz_V mX10_rests Ex Q d bc bs 26 [(0, .ref l0), (1, .int l1), (2, .int l2), (3, .int l3)] [] h := by
  refine pz_iload_n (pc' := 27) (x := l3) 3 rfl (pz_dc dX10_rests 17 rfl) rfl ?_
  refine pz_bipush (pc' := 29) (v := 9) rfl (pz_dc dX10_rests 18 rfl) kb_9 ?_
  refine pz_icmp_gt (pc' := 32) (tgt := 97) rfl (pz_dc dX10_rests 19 rfl) (by decide) (fun hc => ?_) (fun hc => ?_)
  · replace hb := hb.1 hc
    refine pz_iload_n (pc' := 98) (x := l2) 2 rfl (pz_dc dX10_rests 51 rfl) rfl ?_
    exact pz_iret (pz_dc dX10_rests 52 rfl) rfl hb
  · replace hb := hb.2 hc
    refine pz_iconst (pc' := 33) (v := 0) rfl (pz_dc dX10_rests 20 rfl) ki_0 ?_
    refine pz_istore (pc' := 35) (lv' := [(4, .int 0), (0, .ref l0), (1, .int l1), (2, .int l2), (3, .int l3)]) rfl (pz_dc dX10_rests 21 rfl) (by decide) rfl ?_
    refine pz_lv (lv' := [(0, .ref l0), (1, .int l1), (2, .int l2), (3, .int l3), (4, .int 0)]) [1, 2, 3, 4, 0] rfl ?_
    exact hb
set_option maxRecDepth 20000 in
set_option maxHeartbeats 4000000 in
theorem wX10_rests_35 {Ex : State → Nat → Prop} {Q : Option Value → pz_H → Prop} {d bc bs : Nat} {l0 : Nat} {l1 : Int32} {l2 : Int32} {l3 : Int32} {l4 : Int32}  {h : pz_H} (hD : 2 ≤ d) (hb : (((9 : Int32)) < l4 → pz_V mX10_rests Ex Q d bc bs 26 [(0, .ref l0), (1, .int l1), (2, .int l2), (3, .int (l3 + (1 : Int32)))] [] h) ∧ (¬ ((9 : Int32)) < l4 → pz_ki mX10_isBest 1 0 0 ([.int l3, .int l4, .int l1]) h (fun (x2 : Int32) (h1 : pz_H) => (x2 = 0 → pz_V mX10_rests Ex Q d bc bs 35 [(0, .ref l0), (1, .int l1), (2, .int l2), (3, .int l3), (4, .int (l4 + (1 : Int32)))] [] h1) ∧ (¬ x2 = 0 → pz_ki mX10_isBest 1 0 0 ([.int l4, .int l3, .int l1]) h1 (fun (x4 : Int32) (h3 : pz_H) => (¬ x4 = 0 → (¬ l2 = 0 → pz_V mX10_rests Ex Q d bc bs 35 [(0, .ref l0), (1, .int l1), (2, .int (l2 + (1 : Int32))), (3, .int l3), (4, .int (l4 + (1 : Int32)))] [] h3) ∧ (l2 = 0 → pz_is h3 l0 10 ∧ (pz_kv mX10_tell 0 0 0 (.ref l0 :: [.long l3.toInt64]) h3 (fun (h5 : pz_H) => pz_is h5 l0 10 ∧ (pz_kv mX10_tell 0 0 0 (.ref l0 :: [.long l4.toInt64]) h5 (fun (h6 : pz_H) => pz_V mX10_rests Ex Q d bc bs 35 [(0, .ref l0), (1, .int l1), (2, .int (l2 + (1 : Int32))), (3, .int l3), (4, .int (l4 + (1 : Int32)))] [] h6)))))) ∧ (x4 = 0 → pz_V mX10_rests Ex Q d bc bs 35 [(0, .ref l0), (1, .int l1), (2, .int l2), (3, .int l3), (4, .int (l4 + (1 : Int32)))] [] h3)))))) : pz_V mX10_rests Ex Q d bc bs 35 [(0, .ref l0), (1, .int l1), (2, .int l2), (3, .int l3), (4, .int l4)] [] h := by
  refine pz_iload (pc' := 37) (x := l4) 4 rfl (pz_dc dX10_rests 22 rfl) rfl ?_
  refine pz_bipush (pc' := 39) (v := 9) rfl (pz_dc dX10_rests 23 rfl) kb_9 ?_
  refine pz_icmp_gt (pc' := 42) (tgt := 91) rfl (pz_dc dX10_rests 24 rfl) (by decide) (fun hc => ?_) (fun hc => ?_)
  · replace hb := hb.1 hc
    refine pz_iinc (pc' := 94) (x := l3) (v := l3 + (1 : Int32)) (lv' := [(3, .int (l3 + (1 : Int32))), (0, .ref l0), (1, .int l1), (2, .int l2), (4, .int l4)]) 3 rfl (pz_dc dX10_rests 49 rfl) rfl rfl (by decide) rfl ?_
    refine pz_goto (pc' := 26) (pz_dc dX10_rests 50 rfl) (by decide) ?_
    refine pz_lv (lv' := [(0, .ref l0), (1, .int l1), (2, .int l2), (3, .int (l3 + (1 : Int32)))]) [1, 2, 3, 0] rfl ?_
    exact hb
  · replace hb := hb.2 hc
    refine pz_iload_n (pc' := 43) (x := l3) 3 rfl (pz_dc dX10_rests 25 rfl) rfl ?_
    refine pz_iload (pc' := 45) (x := l4) 4 rfl (pz_dc dX10_rests 26 rfl) rfl ?_
    refine pz_iload_n (pc' := 46) (x := l1) 1 rfl (pz_dc dX10_rests 27 rfl) rfl ?_
    refine pz_cSi (M := mX10_rests) (N := mX10_isBest) (d' := 1) (bc1 := 0) (bs1 := 0) (bc2 := bc) (bs2 := bs) (pc' := 49) [.int l3, .int l4, .int l1] hb sX10_341 rfl (pz_dc dX10_rests 28 rfl) rfl (Nat.le_of_ble_eq_true rfl) (Nat.le_of_ble_eq_true rfl) rfl (by omega) (by omega) (by omega) (fun x2 h1 hb => ?_)
    refine pz_if_eq (pc' := 52) (tgt := 85) rfl (pz_dc dX10_rests 29 rfl) (by decide) (fun hc => ?_) (fun hc => ?_)
    · replace hb := hb.1 hc
      refine pz_iinc (pc' := 88) (x := l4) (v := l4 + (1 : Int32)) (lv' := [(4, .int (l4 + (1 : Int32))), (0, .ref l0), (1, .int l1), (2, .int l2), (3, .int l3)]) 4 rfl (pz_dc dX10_rests 47 rfl) rfl rfl (by decide) rfl ?_
      refine pz_goto (pc' := 35) (pz_dc dX10_rests 48 rfl) (by decide) ?_
      refine pz_lv (lv' := [(0, .ref l0), (1, .int l1), (2, .int l2), (3, .int l3), (4, .int (l4 + (1 : Int32)))]) [1, 2, 3, 4, 0] rfl ?_
      exact hb
    · replace hb := hb.2 hc
      refine pz_iload (pc' := 54) (x := l4) 4 rfl (pz_dc dX10_rests 30 rfl) rfl ?_
      refine pz_iload_n (pc' := 55) (x := l3) 3 rfl (pz_dc dX10_rests 31 rfl) rfl ?_
      refine pz_iload_n (pc' := 56) (x := l1) 1 rfl (pz_dc dX10_rests 32 rfl) rfl ?_
      refine pz_cSi (M := mX10_rests) (N := mX10_isBest) (d' := 1) (bc1 := 0) (bs1 := 0) (bc2 := bc) (bs2 := bs) (pc' := 59) [.int l4, .int l3, .int l1] hb sX10_341 rfl (pz_dc dX10_rests 33 rfl) rfl (Nat.le_of_ble_eq_true rfl) (Nat.le_of_ble_eq_true rfl) rfl (by omega) (by omega) (by omega) (fun x4 h3 hb => ?_)
      refine pz_if_ne (pc' := 62) (tgt := 65) rfl (pz_dc dX10_rests 34 rfl) (by decide) (fun hc => ?_) (fun hc => ?_)
      · replace hb := hb.1 hc
        refine pz_iload_n (pc' := 66) (x := l2) 2 rfl (pz_dc dX10_rests 36 rfl) rfl ?_
        refine pz_if_ne (pc' := 69) (tgt := 82) rfl (pz_dc dX10_rests 37 rfl) (by decide) (fun hc => ?_) (fun hc => ?_)
        · replace hb := hb.1 hc
          refine pz_iinc (pc' := 85) (x := l2) (v := l2 + (1 : Int32)) (lv' := [(2, .int (l2 + (1 : Int32))), (0, .ref l0), (1, .int l1), (3, .int l3), (4, .int l4)]) 2 rfl (pz_dc dX10_rests 46 rfl) rfl rfl (by decide) rfl ?_
          refine pz_iinc (pc' := 88) (x := l4) (v := l4 + (1 : Int32)) (lv' := [(4, .int (l4 + (1 : Int32))), (2, .int (l2 + (1 : Int32))), (0, .ref l0), (1, .int l1), (3, .int l3)]) 4 rfl (pz_dc dX10_rests 47 rfl) rfl rfl (by decide) rfl ?_
          refine pz_goto (pc' := 35) (pz_dc dX10_rests 48 rfl) (by decide) ?_
          refine pz_lv (lv' := [(0, .ref l0), (1, .int l1), (2, .int (l2 + (1 : Int32))), (3, .int l3), (4, .int (l4 + (1 : Int32)))]) [2, 3, 1, 4, 0] rfl ?_
          exact hb
        · replace hb := hb.2 hc
          refine pz_aload_n (pc' := 70) (x := l0) 0 rfl (pz_dc dX10_rests 38 rfl) rfl ?_
          refine pz_iload_n (pc' := 71) (x := l3) 3 rfl (pz_dc dX10_rests 39 rfl) rfl ?_
          refine pz_i2l (pc' := 72) rfl (pz_dc dX10_rests 40 rfl) ?_
          refine pz_cVv (M := mX10_rests) (N := mX10_tell) (d' := 0) (bc1 := 0) (bs1 := 0) (bc2 := bc) (bs2 := bs) (pc' := 75) [.long l3.toInt64] hb vX10_248 rfl (pz_dc dX10_rests 41 rfl) rfl (Nat.le_of_ble_eq_true rfl) (Nat.le_of_ble_eq_true rfl) rfl (by omega) (by omega) (by omega) (fun h5 hb => ?_)
          refine pz_aload_n (pc' := 76) (x := l0) 0 rfl (pz_dc dX10_rests 42 rfl) rfl ?_
          refine pz_iload (pc' := 78) (x := l4) 4 rfl (pz_dc dX10_rests 43 rfl) rfl ?_
          refine pz_i2l (pc' := 79) rfl (pz_dc dX10_rests 44 rfl) ?_
          refine pz_cVv (M := mX10_rests) (N := mX10_tell) (d' := 0) (bc1 := 0) (bs1 := 0) (bc2 := bc) (bs2 := bs) (pc' := 82) [.long l4.toInt64] hb vX10_248 rfl (pz_dc dX10_rests 45 rfl) rfl (Nat.le_of_ble_eq_true rfl) (Nat.le_of_ble_eq_true rfl) rfl (by omega) (by omega) (by omega) (fun h6 hb => ?_)
          refine pz_iinc (pc' := 85) (x := l2) (v := l2 + (1 : Int32)) (lv' := [(2, .int (l2 + (1 : Int32))), (0, .ref l0), (1, .int l1), (3, .int l3), (4, .int l4)]) 2 rfl (pz_dc dX10_rests 46 rfl) rfl rfl (by decide) rfl ?_
          refine pz_iinc (pc' := 88) (x := l4) (v := l4 + (1 : Int32)) (lv' := [(4, .int (l4 + (1 : Int32))), (2, .int (l2 + (1 : Int32))), (0, .ref l0), (1, .int l1), (3, .int l3)]) 4 rfl (pz_dc dX10_rests 47 rfl) rfl rfl (by decide) rfl ?_
          refine pz_goto (pc' := 35) (pz_dc dX10_rests 48 rfl) (by decide) ?_
          refine pz_lv (lv' := [(0, .ref l0), (1, .int l1), (2, .int (l2 + (1 : Int32))), (3, .int l3), (4, .int (l4 + (1 : Int32)))]) [2, 3, 1, 4, 0] rfl ?_
          exact hb
      · replace hb := hb.2 hc
        refine pz_goto (pc' := 85) (pz_dc dX10_rests 35 rfl) (by decide) ?_
        refine pz_iinc (pc' := 88) (x := l4) (v := l4 + (1 : Int32)) (lv' := [(4, .int (l4 + (1 : Int32))), (0, .ref l0), (1, .int l1), (2, .int l2), (3, .int l3)]) 4 rfl (pz_dc dX10_rests 47 rfl) rfl rfl (by decide) rfl ?_
        refine pz_goto (pc' := 35) (pz_dc dX10_rests 48 rfl) (by decide) ?_
        refine pz_lv (lv' := [(0, .ref l0), (1, .int l1), (2, .int l2), (3, .int l3), (4, .int (l4 + (1 : Int32)))]) [1, 2, 3, 4, 0] rfl ?_
        exact hb
set_option maxRecDepth 20000 in
set_option maxHeartbeats 4000000 in
theorem wX10_levelIn12_0 {Ex : State → Nat → Prop} {Q : Option Value → pz_H → Prop} {d bc bs : Nat} {l0 : Nat}  {h : pz_H} (hD : 85 ≤ d) (hb : pz_is h l0 10 ∧ (pz_kv mX10_goThen 84 0 0 (.ref l0 :: [.int 12]) h (fun (h1 : pz_H) => pz_gR h1 l0 10 24 (fun (a2 : Nat) => pz_is h1 l0 10 ∧ (pz_ki mX10_sumOf 0 0 0 (.ref l0 :: [.ref a2, .int 0]) h1 (fun (x4 : Int32) (h3 : pz_H) => Q (some (.int x4)) h3)))))) : pz_V mX10_levelIn12 Ex Q d bc bs 0 [(0, .ref l0)] [] h := by
  refine pz_aload_n (pc' := 1) (x := l0) 0 rfl (pz_dc dX10_levelIn12 0 rfl) rfl ?_
  refine pz_bipush (pc' := 3) (v := 12) rfl (pz_dc dX10_levelIn12 1 rfl) kb_12 ?_
  refine pz_cVv (M := mX10_levelIn12) (N := mX10_goThen) (d' := 84) (bc1 := 0) (bs1 := 0) (bc2 := bc) (bs2 := bs) (pc' := 6) [.int 12] hb vX10_274 rfl (pz_dc dX10_levelIn12 2 rfl) rfl (Nat.le_of_ble_eq_true rfl) (Nat.le_of_ble_eq_true rfl) rfl (by omega) (by omega) (by omega) (fun h1 hb => ?_)
  refine pz_aload_n (pc' := 7) (x := l0) 0 rfl (pz_dc dX10_levelIn12 3 rfl) rfl ?_
  refine pz_aload_n (pc' := 8) (x := l0) 0 rfl (pz_dc dX10_levelIn12 4 rfl) rfl ?_
  refine pz_getR (M := mX10_levelIn12) hb fX10_48 (pc' := 11) rfl (pz_dc dX10_levelIn12 5 rfl) (fun a2 hb => ?_)
  refine pz_iconst (pc' := 12) (v := 0) rfl (pz_dc dX10_levelIn12 6 rfl) ki_0 ?_
  refine pz_cVi (M := mX10_levelIn12) (N := mX10_sumOf) (d' := 0) (bc1 := 0) (bs1 := 0) (bc2 := bc) (bs2 := bs) (pc' := 15) [.ref a2, .int 0] hb vX10_227 rfl (pz_dc dX10_levelIn12 7 rfl) rfl (Nat.le_of_ble_eq_true rfl) (Nat.le_of_ble_eq_true rfl) rfl (by omega) (by omega) (by omega) (fun x4 h3 hb => ?_)
  exact pz_iret (pz_dc dX10_levelIn12 8 rfl) rfl hb
set_option maxRecDepth 20000 in
set_option maxHeartbeats 4000000 in
theorem wX10_law_0 {Ex : State → Nat → Prop} {Q : Option Value → pz_H → Prop} {d bc bs : Nat} {l0 : Nat}  {h : pz_H} (hD : 86 ≤ d) (hb : pz_pF h l0 10 9 (.int 0) (fun (h1 : pz_H) => pz_gI h1 l0 10 6 (fun (x2 : Int32) => pz_is h1 l0 10 ∧ (pz_ki mX10_readRule 81 0 0 (.ref l0 :: []) h1 (fun (x4 : Int32) (h3 : pz_H) => (¬ x4 = 0 → pz_is h3 l0 10 ∧ (pz_ki mX10_levelIn12 85 0 0 (.ref l0 :: []) h3 (fun (x6 : Int32) (h5 : pz_H) => pz_gR h5 l0 10 16 (fun (a7 : Nat) => pz_gI h5 l0 10 18 (fun (x8 : Int32) => pz_gR h5 l0 10 17 (fun (a9 : Nat) => pz_pF h5 l0 10 16 (.ref a9) (fun (h10 : pz_H) => pz_pF h10 l0 10 18 (.int x2) (fun (h11 : pz_H) => pz_V mX10_law Ex Q d bc bs 58 [(0, .ref l0), (1, .int x2), (2, .int x6), (3, .ref a7), (4, .int x8), (5, .int 0)] [] h11)))))))) ∧ (x4 = 0 → pz_gI h3 l0 10 14 (fun (x12 : Int32) => Q (some (.int (((-10000 : Int32)) - x12))) h3))))))) : pz_V mX10_law Ex Q d bc bs 0 [(0, .ref l0)] [] h := by
  refine pz_aload_n (pc' := 1) (x := l0) 0 rfl (pz_dc dX10_law 0 rfl) rfl ?_
  refine pz_iconst (pc' := 2) (v := 0) rfl (pz_dc dX10_law 1 rfl) ki_0 ?_
  refine pz_putv (M := mX10_law) hb (pX10_95 _ rfl) rfl rfl (pc' := 5) rfl (pz_dc dX10_law 2 rfl) (fun h1 hb => ?_)
  refine pz_aload_n (pc' := 6) (x := l0) 0 rfl (pz_dc dX10_law 3 rfl) rfl ?_
  refine pz_getI (M := mX10_law) hb fX10_112 (pc' := 9) rfl (pz_dc dX10_law 4 rfl) (fun x2 hb => ?_)
  refine pz_istore_n (pc' := 10) (lv' := [(1, .int x2), (0, .ref l0)]) rfl (pz_dc dX10_law 5 rfl) (by decide) rfl ?_
  refine pz_aload_n (pc' := 11) (x := l0) 1 rfl (pz_dc dX10_law 6 rfl) rfl ?_
  refine pz_cVi (M := mX10_law) (N := mX10_readRule) (d' := 81) (bc1 := 0) (bs1 := 0) (bc2 := bc) (bs2 := bs) (pc' := 14) [] hb vX10_196 rfl (pz_dc dX10_law 7 rfl) rfl (Nat.le_of_ble_eq_true rfl) (Nat.le_of_ble_eq_true rfl) rfl (by omega) (by omega) (by omega) (fun x4 h3 hb => ?_)
  refine pz_if_ne (pc' := 17) (tgt := 26) rfl (pz_dc dX10_law 8 rfl) (by decide) (fun hc => ?_) (fun hc => ?_)
  · replace hb := hb.1 hc
    refine pz_aload_n (pc' := 27) (x := l0) 1 rfl (pz_dc dX10_law 14 rfl) rfl ?_
    refine pz_cVi (M := mX10_law) (N := mX10_levelIn12) (d' := 85) (bc1 := 0) (bs1 := 0) (bc2 := bc) (bs2 := bs) (pc' := 30) [] hb vX10_344 rfl (pz_dc dX10_law 15 rfl) rfl (Nat.le_of_ble_eq_true rfl) (Nat.le_of_ble_eq_true rfl) rfl (by omega) (by omega) (by omega) (fun x6 h5 hb => ?_)
    refine pz_istore_n (pc' := 31) (lv' := [(2, .int x6), (1, .int x2), (0, .ref l0)]) rfl (pz_dc dX10_law 16 rfl) (by decide) rfl ?_
    refine pz_aload_n (pc' := 32) (x := l0) 2 rfl (pz_dc dX10_law 17 rfl) rfl ?_
    refine pz_getR (M := mX10_law) hb fX10_33 (pc' := 35) rfl (pz_dc dX10_law 18 rfl) (fun a7 hb => ?_)
    refine pz_astore_n (pc' := 36) (lv' := [(3, .ref a7), (2, .int x6), (1, .int x2), (0, .ref l0)]) rfl (pz_dc dX10_law 19 rfl) (by decide) rfl ?_
    refine pz_aload_n (pc' := 37) (x := l0) 3 rfl (pz_dc dX10_law 20 rfl) rfl ?_
    refine pz_getI (M := mX10_law) hb fX10_199 (pc' := 40) rfl (pz_dc dX10_law 21 rfl) (fun x8 hb => ?_)
    refine pz_istore (pc' := 42) (lv' := [(4, .int x8), (3, .ref a7), (2, .int x6), (1, .int x2), (0, .ref l0)]) rfl (pz_dc dX10_law 22 rfl) (by decide) rfl ?_
    refine pz_aload_n (pc' := 43) (x := l0) 4 rfl (pz_dc dX10_law 23 rfl) rfl ?_
    refine pz_aload_n (pc' := 44) (x := l0) 4 rfl (pz_dc dX10_law 24 rfl) rfl ?_
    refine pz_getR (M := mX10_law) hb fX10_36 (pc' := 47) rfl (pz_dc dX10_law 25 rfl) (fun a9 hb => ?_)
    refine pz_putv (M := mX10_law) hb (pX10_33 _ rfl) rfl rfl (pc' := 50) rfl (pz_dc dX10_law 26 rfl) (fun h10 hb => ?_)
    refine pz_aload_n (pc' := 51) (x := l0) 4 rfl (pz_dc dX10_law 27 rfl) rfl ?_
    refine pz_iload_n (pc' := 52) (x := x2) 3 rfl (pz_dc dX10_law 28 rfl) rfl ?_
    refine pz_putv (M := mX10_law) hb (pX10_199 _ rfl) rfl rfl (pc' := 55) rfl (pz_dc dX10_law 29 rfl) (fun h11 hb => ?_)
    refine pz_iconst (pc' := 56) (v := 0) rfl (pz_dc dX10_law 30 rfl) ki_0 ?_
    refine pz_istore (pc' := 58) (lv' := [(5, .int 0), (4, .int x8), (3, .ref a7), (2, .int x6), (1, .int x2), (0, .ref l0)]) rfl (pz_dc dX10_law 31 rfl) (by decide) rfl ?_
    refine pz_lv (lv' := [(0, .ref l0), (1, .int x2), (2, .int x6), (3, .ref a7), (4, .int x8), (5, .int 0)]) [5, 4, 3, 2, 1, 0] rfl ?_
    exact hb
  · replace hb := hb.2 hc
    refine pz_sipush (pc' := 20) (v := (-10000)) rfl (pz_dc dX10_law 9 rfl) ks_m10000 ?_
    refine pz_aload_n (pc' := 21) (x := l0) 1 rfl (pz_dc dX10_law 10 rfl) rfl ?_
    refine pz_getI (M := mX10_law) hb fX10_127 (pc' := 24) rfl (pz_dc dX10_law 11 rfl) (fun x12 hb => ?_)
    refine pz_isub (pc' := 25) rfl (pz_dc dX10_law 12 rfl) ?_
    exact pz_iret (pz_dc dX10_law 13 rfl) rfl hb
set_option maxRecDepth 20000 in
set_option maxHeartbeats 4000000 in
theorem wX10_law_58 {Ex : State → Nat → Prop} {Q : Option Value → pz_H → Prop} {d bc bs : Nat} {l0 : Nat} {l1 : Int32} {l2 : Int32} {l3 : Nat} {l4 : Int32} {l5 : Int32}  {h : pz_H} (hD : 86 ≤ d) (hb : (l1 ≤ l5 → pz_is h l0 10 ∧ (pz_ki mX10_levelIn12 85 0 0 (.ref l0 :: []) h (fun (x2 : Int32) (h1 : pz_H) => pz_pF h1 l0 10 16 (.ref l3) (fun (h3 : pz_H) => pz_pF h3 l0 10 18 (.int l4) (fun (h4 : pz_H) => pz_pF h4 l0 10 8 (.int 0) (fun (h5 : pz_H) => pz_is h5 l0 10 ∧ (pz_kv mX10_tell 0 0 0 (.ref l0 :: [.long x2.toInt64]) h5 (fun (h6 : pz_H) => pz_is h6 l0 10 ∧ (pz_kv mX10_tell 0 0 0 (.ref l0 :: [.long l2.toInt64]) h6 (fun (h7 : pz_H) => Q (some (.int (x2 - l2))) h7)))))))))) ∧ (¬ l1 ≤ l5 → pz_gR h l0 10 16 (fun (a8 : Nat) => pz_gR h l0 10 5 (fun (a9 : Nat) => pz_rB h a9 l5 (fun (x10 : Int32) => pz_sB h a8 l5 x10 (fun (h11 : pz_H) => pz_V mX10_law Ex Q d bc bs 58 [(0, .ref l0), (1, .int l1), (2, .int l2), (3, .ref l3), (4, .int l4), (5, .int (l5 + (1 : Int32)))] [] h11)))))) : pz_V mX10_law Ex Q d bc bs 58 [(0, .ref l0), (1, .int l1), (2, .int l2), (3, .ref l3), (4, .int l4), (5, .int l5)] [] h := by
  refine pz_iload (pc' := 60) (x := l5) 5 rfl (pz_dc dX10_law 32 rfl) rfl ?_
  refine pz_iload_n (pc' := 61) (x := l1) 1 rfl (pz_dc dX10_law 33 rfl) rfl ?_
  refine pz_icmp_ge (pc' := 64) (tgt := 84) rfl (pz_dc dX10_law 34 rfl) (by decide) (fun hc => ?_) (fun hc => ?_)
  · replace hb := hb.1 hc
    refine pz_aload_n (pc' := 85) (x := l0) 0 rfl (pz_dc dX10_law 45 rfl) rfl ?_
    refine pz_cVi (M := mX10_law) (N := mX10_levelIn12) (d' := 85) (bc1 := 0) (bs1 := 0) (bc2 := bc) (bs2 := bs) (pc' := 88) [] hb vX10_344 rfl (pz_dc dX10_law 46 rfl) rfl (Nat.le_of_ble_eq_true rfl) (Nat.le_of_ble_eq_true rfl) rfl (by omega) (by omega) (by omega) (fun x2 h1 hb => ?_)
    refine pz_istore (pc' := 90) (lv' := [(5, .int x2), (0, .ref l0), (1, .int l1), (2, .int l2), (3, .ref l3), (4, .int l4)]) rfl (pz_dc dX10_law 47 rfl) (by decide) rfl ?_
    refine pz_aload_n (pc' := 91) (x := l0) 1 rfl (pz_dc dX10_law 48 rfl) rfl ?_
    refine pz_aload_n (pc' := 92) (x := l3) 4 rfl (pz_dc dX10_law 49 rfl) rfl ?_
    refine pz_putv (M := mX10_law) hb (pX10_33 _ rfl) rfl rfl (pc' := 95) rfl (pz_dc dX10_law 50 rfl) (fun h3 hb => ?_)
    refine pz_aload_n (pc' := 96) (x := l0) 1 rfl (pz_dc dX10_law 51 rfl) rfl ?_
    refine pz_iload (pc' := 98) (x := l4) 5 rfl (pz_dc dX10_law 52 rfl) rfl ?_
    refine pz_putv (M := mX10_law) hb (pX10_199 _ rfl) rfl rfl (pc' := 101) rfl (pz_dc dX10_law 53 rfl) (fun h4 hb => ?_)
    refine pz_aload_n (pc' := 102) (x := l0) 1 rfl (pz_dc dX10_law 54 rfl) rfl ?_
    refine pz_iconst (pc' := 103) (v := 0) rfl (pz_dc dX10_law 55 rfl) ki_0 ?_
    refine pz_putv (M := mX10_law) hb (pX10_98 _ rfl) rfl rfl (pc' := 106) rfl (pz_dc dX10_law 56 rfl) (fun h5 hb => ?_)
    refine pz_aload_n (pc' := 107) (x := l0) 1 rfl (pz_dc dX10_law 57 rfl) rfl ?_
    refine pz_iload (pc' := 109) (x := x2) 0 rfl (pz_dc dX10_law 58 rfl) rfl ?_
    refine pz_i2l (pc' := 110) rfl (pz_dc dX10_law 59 rfl) ?_
    refine pz_cVv (M := mX10_law) (N := mX10_tell) (d' := 0) (bc1 := 0) (bs1 := 0) (bc2 := bc) (bs2 := bs) (pc' := 113) [.long x2.toInt64] hb vX10_248 rfl (pz_dc dX10_law 60 rfl) rfl (Nat.le_of_ble_eq_true rfl) (Nat.le_of_ble_eq_true rfl) rfl (by omega) (by omega) (by omega) (fun h6 hb => ?_)
    refine pz_aload_n (pc' := 114) (x := l0) 1 rfl (pz_dc dX10_law 61 rfl) rfl ?_
    refine pz_iload_n (pc' := 115) (x := l2) 3 rfl (pz_dc dX10_law 62 rfl) rfl ?_
    refine pz_i2l (pc' := 116) rfl (pz_dc dX10_law 63 rfl) ?_
    refine pz_cVv (M := mX10_law) (N := mX10_tell) (d' := 0) (bc1 := 0) (bs1 := 0) (bc2 := bc) (bs2 := bs) (pc' := 119) [.long l2.toInt64] hb vX10_248 rfl (pz_dc dX10_law 64 rfl) rfl (Nat.le_of_ble_eq_true rfl) (Nat.le_of_ble_eq_true rfl) rfl (by omega) (by omega) (by omega) (fun h7 hb => ?_)
    refine pz_iload (pc' := 121) (x := x2) 0 rfl (pz_dc dX10_law 65 rfl) rfl ?_
    refine pz_iload_n (pc' := 122) (x := l2) 3 rfl (pz_dc dX10_law 66 rfl) rfl ?_
    refine pz_isub (pc' := 123) rfl (pz_dc dX10_law 67 rfl) ?_
    exact pz_iret (pz_dc dX10_law 68 rfl) rfl hb
  · replace hb := hb.2 hc
    refine pz_aload_n (pc' := 65) (x := l0) 0 rfl (pz_dc dX10_law 35 rfl) rfl ?_
    refine pz_getR (M := mX10_law) hb fX10_33 (pc' := 68) rfl (pz_dc dX10_law 36 rfl) (fun a8 hb => ?_)
    refine pz_iload (pc' := 70) (x := l5) 5 rfl (pz_dc dX10_law 37 rfl) rfl ?_
    refine pz_aload_n (pc' := 71) (x := l0) 0 rfl (pz_dc dX10_law 38 rfl) rfl ?_
    refine pz_getR (M := mX10_law) hb fX10_22 (pc' := 74) rfl (pz_dc dX10_law 39 rfl) (fun a9 hb => ?_)
    refine pz_iload (pc' := 76) (x := l5) 5 rfl (pz_dc dX10_law 40 rfl) rfl ?_
    refine pz_ldB hb (pc' := 77) rfl (pz_dc dX10_law 41 rfl) (fun x10 hb => ?_)
    refine pz_stB hb (pc' := 78) rfl (pz_dc dX10_law 42 rfl) (fun h11 hb => ?_)
    refine pz_iinc (pc' := 81) (x := l5) (v := l5 + (1 : Int32)) (lv' := [(5, .int (l5 + (1 : Int32))), (0, .ref l0), (1, .int l1), (2, .int l2), (3, .ref l3), (4, .int l4)]) 5 rfl (pz_dc dX10_law 43 rfl) rfl rfl (by decide) rfl ?_
    refine pz_goto (pc' := 58) (pz_dc dX10_law 44 rfl) (by decide) ?_
    refine pz_lv (lv' := [(0, .ref l0), (1, .int l1), (2, .int l2), (3, .ref l3), (4, .int l4), (5, .int (l5 + (1 : Int32)))]) [1, 2, 3, 4, 5, 0] rfl ?_
    exact hb
set_option maxRecDepth 20000 in
set_option maxHeartbeats 4000000 in
theorem wX10_draw_0 {Ex : State → Nat → Prop} {Q : Option Value → pz_H → Prop} {d bc bs : Nat} {l0 : Nat} {l1 : Int32}  {h : pz_H}  (hb : pz_gI h l0 10 38 (fun (x1 : Int32) => pz_pF h l0 10 38 (.int ((x1 * ((1103515245 : Int32))) + ((12345 : Int32)))) (fun (h2 : pz_H) => pz_gI h2 l0 10 38 (fun (x3 : Int32) => ¬ l1 = 0 ∧ (Q (some (.int (((x3.toUInt32 >>> (((16 : Int32)).toUInt32 &&& Int32.toUInt32 31)).toInt32) - ((x3.toUInt32 >>> (((16 : Int32)).toUInt32 &&& Int32.toUInt32 31)).toInt32) / l1 * l1))) h2))))) : pz_V mX10_draw Ex Q d bc bs 0 [(0, .ref l0), (1, .int l1)] [] h := by
  refine pz_aload_n (pc' := 1) (x := l0) 0 rfl (pz_dc dX10_draw 0 rfl) rfl ?_
  refine pz_aload_n (pc' := 2) (x := l0) 0 rfl (pz_dc dX10_draw 1 rfl) rfl ?_
  refine pz_getI (M := mX10_draw) hb fX10_347 (pc' := 5) rfl (pz_dc dX10_draw 2 rfl) (fun x1 hb => ?_)
  refine pz_ldcw (M := mX10_draw) (pc' := 8) cX10_350 rfl (pz_dc dX10_draw 3 rfl) ?_
  refine pz_imul (pc' := 9) rfl (pz_dc dX10_draw 4 rfl) ?_
  refine pz_sipush (pc' := 12) (v := 12345) rfl (pz_dc dX10_draw 5 rfl) ks_12345 ?_
  refine pz_iadd (pc' := 13) rfl (pz_dc dX10_draw 6 rfl) ?_
  refine pz_putv (M := mX10_draw) hb (pX10_347 _ rfl) rfl rfl (pc' := 16) rfl (pz_dc dX10_draw 7 rfl) (fun h2 hb => ?_)
  refine pz_aload_n (pc' := 17) (x := l0) 0 rfl (pz_dc dX10_draw 8 rfl) rfl ?_
  refine pz_getI (M := mX10_draw) hb fX10_347 (pc' := 20) rfl (pz_dc dX10_draw 9 rfl) (fun x3 hb => ?_)
  refine pz_bipush (pc' := 22) (v := 16) rfl (pz_dc dX10_draw 10 rfl) kb_16 ?_
  refine pz_iushr (pc' := 23) rfl (pz_dc dX10_draw 11 rfl) ?_
  refine pz_iload_n (pc' := 24) (x := l1) 1 rfl (pz_dc dX10_draw 12 rfl) rfl ?_
  refine pz_irem (pc' := 25) rfl (pz_dc dX10_draw 13 rfl) hb.1 ?_
  replace hb := hb.2
  exact pz_iret (pz_dc dX10_draw 14 rfl) rfl hb
set_option maxRecDepth 20000 in
set_option maxHeartbeats 4000000 in
theorem wX10_years_0 {Ex : State → Nat → Prop} {Q : Option Value → pz_H → Prop} {d bc bs : Nat} {l0 : Nat} {l1 : Int32} {l2 : Int32}  {h : pz_H} (hD : 83 ≤ d) (hb : pz_pF h l0 10 9 (.int 0) (fun (h1 : pz_H) => (¬ (eX10_in l2 ((1 : Int32)) ((60 : Int32))) = 0 → pz_pF h1 l0 10 38 (.int l1) (fun (h2 : pz_H) => pz_gR h2 l0 10 0 (fun (a3 : Nat) => pz_gR h2 l0 10 24 (fun (a4 : Nat) => pz_kv mX10_lay 0 0 0 ([.ref a3, .ref a4, .int 0]) h2 (fun (h5 : pz_H) => pz_V mX10_years Ex Q d bc bs 36 [(0, .ref l0), (2, .int l2), (3, .int 0)] [] h5))))) ∧ ((eX10_in l2 ((1 : Int32)) ((60 : Int32))) = 0 → Q (some (.int ((-1)))) h1))) : pz_V mX10_years Ex Q d bc bs 0 [(0, .ref l0), (1, .int l1), (2, .int l2)] [] h := by
  refine pz_aload_n (pc' := 1) (x := l0) 0 rfl (pz_dc dX10_years 0 rfl) rfl ?_
  refine pz_iconst (pc' := 2) (v := 0) rfl (pz_dc dX10_years 1 rfl) ki_0 ?_
  refine pz_putv (M := mX10_years) hb (pX10_95 _ rfl) rfl rfl (pc' := 5) rfl (pz_dc dX10_years 2 rfl) (fun h1 hb => ?_)
  refine pz_iload_n (pc' := 6) (x := l2) 2 rfl (pz_dc dX10_years 3 rfl) rfl ?_
  refine pz_iconst (pc' := 7) (v := 1) rfl (pz_dc dX10_years 4 rfl) ki_1 ?_
  refine pz_bipush (pc' := 9) (v := 60) rfl (pz_dc dX10_years 5 rfl) kb_60 ?_
  refine pz_callS (M := mX10_years) (N := mX10_in) (d' := 0) (bc1 := 0) (bs1 := 0) (bc2 := bc) (bs2 := bs) (pc' := 12) [.int l2, .int 1, .int 60] sX10_104 rfl (pz_dc dX10_years 6 rfl) rfl (Nat.le_of_ble_eq_true rfl) (Nat.le_of_ble_eq_true rfl) rfl (by omega) (by omega) (by omega) ?_
  refine cX10_in ?_
  show pz_V mX10_years _ _ _ _ _ 12 [(0, .ref l0), (1, .int l1), (2, .int l2)] [.int (eX10_in l2 ((1 : Int32)) ((60 : Int32)))] h1
  refine pz_if_ne (pc' := 15) (tgt := 17) rfl (pz_dc dX10_years 7 rfl) (by decide) (fun hc => ?_) (fun hc => ?_)
  · replace hb := hb.1 hc
    refine pz_aload_n (pc' := 18) (x := l0) 0 rfl (pz_dc dX10_years 10 rfl) rfl ?_
    refine pz_iload_n (pc' := 19) (x := l1) 1 rfl (pz_dc dX10_years 11 rfl) rfl ?_
    refine pz_putv (M := mX10_years) hb (pX10_347 _ rfl) rfl rfl (pc' := 22) rfl (pz_dc dX10_years 12 rfl) (fun h2 hb => ?_)
    refine pz_aload_n (pc' := 23) (x := l0) 0 rfl (pz_dc dX10_years 13 rfl) rfl ?_
    refine pz_getR (M := mX10_years) hb fX10_9 (pc' := 26) rfl (pz_dc dX10_years 14 rfl) (fun a3 hb => ?_)
    refine pz_aload_n (pc' := 27) (x := l0) 0 rfl (pz_dc dX10_years 15 rfl) rfl ?_
    refine pz_getR (M := mX10_years) hb fX10_48 (pc' := 30) rfl (pz_dc dX10_years 16 rfl) (fun a4 hb => ?_)
    refine pz_iconst (pc' := 31) (v := 0) rfl (pz_dc dX10_years 17 rfl) ki_0 ?_
    refine pz_cSv (M := mX10_years) (N := mX10_lay) (d' := 0) (bc1 := 0) (bs1 := 0) (bc2 := bc) (bs2 := bs) (pc' := 34) [.ref a3, .ref a4, .int 0] hb sX10_230 rfl (pz_dc dX10_years 18 rfl) rfl (Nat.le_of_ble_eq_true rfl) (Nat.le_of_ble_eq_true rfl) rfl (by omega) (by omega) (by omega) (fun h5 hb => ?_)
    refine pz_iconst (pc' := 35) (v := 0) rfl (pz_dc dX10_years 19 rfl) ki_0 ?_
    refine pz_istore_n (pc' := 36) (lv' := [(3, .int 0), (0, .ref l0), (1, .int l1), (2, .int l2)]) rfl (pz_dc dX10_years 20 rfl) (by decide) rfl ?_
    refine pz_lv (lv' := [(0, .ref l0), (2, .int l2), (3, .int 0)]) [1, 3, 0] rfl ?_
    exact hb
  · replace hb := hb.2 hc
    refine pz_iconst (pc' := 16) (v := (-1)) rfl (pz_dc dX10_years 8 rfl) ki_m1 ?_
    exact pz_iret (pz_dc dX10_years 9 rfl) rfl hb
set_option maxRecDepth 20000 in
set_option maxHeartbeats 4000000 in
theorem wX10_years_36 {Ex : State → Nat → Prop} {Q : Option Value → pz_H → Prop} {d bc bs : Nat} {l0 : Nat} {l2 : Int32} {l3 : Int32}  {h : pz_H} (hD : 83 ≤ d) (hb : (l2 ≤ l3 → pz_pF h l0 10 8 (.int 0) (fun (h1 : pz_H) => pz_gR h1 l0 10 24 (fun (a2 : Nat) => pz_rI h1 a2 31 (fun (x3 : Int32) => pz_gR h1 l0 10 0 (fun (a4 : Nat) => pz_rI h1 a4 31 (fun (x5 : Int32) => pz_is h1 l0 10 ∧ (pz_kv mX10_tell 0 0 0 (.ref l0 :: [.long ((x3 - x5).toInt64)]) h1 (fun (h6 : pz_H) => pz_gR h6 l0 10 24 (fun (a7 : Nat) => pz_rI h6 a7 32 (fun (x8 : Int32) => pz_gR h6 l0 10 0 (fun (a9 : Nat) => pz_rI h6 a9 32 (fun (x10 : Int32) => pz_is h6 l0 10 ∧ (pz_kv mX10_tell 0 0 0 (.ref l0 :: [.long ((x8 - x10).toInt64)]) h6 (fun (h11 : pz_H) => pz_gR h11 l0 10 24 (fun (a12 : Nat) => pz_is h11 l0 10 ∧ (pz_ki mX10_sumOf 0 0 0 (.ref l0 :: [.ref a12, .int 0]) h11 (fun (x14 : Int32) (h13 : pz_H) => Q (some (.int x14)) h13))))))))))))))))) ∧ (¬ l2 ≤ l3 → pz_is h l0 10 ∧ (pz_ki mX10_draw 0 0 0 (.ref l0 :: [.int 4]) h (fun (x16 : Int32) (h15 : pz_H) => (((2 : Int32)) ≤ x16 → pz_V mX10_years Ex Q d bc bs 62 [(0, .ref l0), (2, .int l2), (3, .int l3), (4, .int x16)] [] h15) ∧ (¬ ((2 : Int32)) ≤ x16 → pz_gR h15 l0 10 24 (fun (a17 : Nat) => pz_is h15 l0 10 ∧ (pz_kv mX10_goDay 82 0 0 (.ref l0 :: [.ref a17]) h15 (fun (h18 : pz_H) => pz_V mX10_years Ex Q d bc bs 62 [(0, .ref l0), (2, .int l2), (3, .int l3), (4, .int x16)] [] h18)))))))) : pz_V mX10_years Ex Q d bc bs 36 [(0, .ref l0), (2, .int l2), (3, .int l3)] [] h := by
  refine pz_iload_n (pc' := 37) (x := l3) 2 rfl (pz_dc dX10_years 21 rfl) rfl ?_
  refine pz_iload_n (pc' := 38) (x := l2) 1 rfl (pz_dc dX10_years 22 rfl) rfl ?_
  refine pz_icmp_ge (pc' := 41) (tgt := 141) rfl (pz_dc dX10_years 23 rfl) (by decide) (fun hc => ?_) (fun hc => ?_)
  · replace hb := hb.1 hc
    refine pz_aload_n (pc' := 142) (x := l0) 0 rfl (pz_dc dX10_years 76 rfl) rfl ?_
    refine pz_iconst (pc' := 143) (v := 0) rfl (pz_dc dX10_years 77 rfl) ki_0 ?_
    refine pz_putv (M := mX10_years) hb (pX10_98 _ rfl) rfl rfl (pc' := 146) rfl (pz_dc dX10_years 78 rfl) (fun h1 hb => ?_)
    refine pz_aload_n (pc' := 147) (x := l0) 0 rfl (pz_dc dX10_years 79 rfl) rfl ?_
    refine pz_aload_n (pc' := 148) (x := l0) 0 rfl (pz_dc dX10_years 80 rfl) rfl ?_
    refine pz_getR (M := mX10_years) hb fX10_48 (pc' := 151) rfl (pz_dc dX10_years 81 rfl) (fun a2 hb => ?_)
    refine pz_bipush (pc' := 153) (v := 31) rfl (pz_dc dX10_years 82 rfl) kb_31 ?_
    refine pz_ldI hb (pc' := 154) rfl (pz_dc dX10_years 83 rfl) (fun x3 hb => ?_)
    refine pz_aload_n (pc' := 155) (x := l0) 0 rfl (pz_dc dX10_years 84 rfl) rfl ?_
    refine pz_getR (M := mX10_years) hb fX10_9 (pc' := 158) rfl (pz_dc dX10_years 85 rfl) (fun a4 hb => ?_)
    refine pz_bipush (pc' := 160) (v := 31) rfl (pz_dc dX10_years 86 rfl) kb_31 ?_
    refine pz_ldI hb (pc' := 161) rfl (pz_dc dX10_years 87 rfl) (fun x5 hb => ?_)
    refine pz_isub (pc' := 162) rfl (pz_dc dX10_years 88 rfl) ?_
    refine pz_i2l (pc' := 163) rfl (pz_dc dX10_years 89 rfl) ?_
    refine pz_cVv (M := mX10_years) (N := mX10_tell) (d' := 0) (bc1 := 0) (bs1 := 0) (bc2 := bc) (bs2 := bs) (pc' := 166) [.long ((x3 - x5).toInt64)] hb vX10_248 rfl (pz_dc dX10_years 90 rfl) rfl (Nat.le_of_ble_eq_true rfl) (Nat.le_of_ble_eq_true rfl) rfl (by omega) (by omega) (by omega) (fun h6 hb => ?_)
    refine pz_aload_n (pc' := 167) (x := l0) 0 rfl (pz_dc dX10_years 91 rfl) rfl ?_
    refine pz_aload_n (pc' := 168) (x := l0) 0 rfl (pz_dc dX10_years 92 rfl) rfl ?_
    refine pz_getR (M := mX10_years) hb fX10_48 (pc' := 171) rfl (pz_dc dX10_years 93 rfl) (fun a7 hb => ?_)
    refine pz_bipush (pc' := 173) (v := 32) rfl (pz_dc dX10_years 94 rfl) kb_32 ?_
    refine pz_ldI hb (pc' := 174) rfl (pz_dc dX10_years 95 rfl) (fun x8 hb => ?_)
    refine pz_aload_n (pc' := 175) (x := l0) 0 rfl (pz_dc dX10_years 96 rfl) rfl ?_
    refine pz_getR (M := mX10_years) hb fX10_9 (pc' := 178) rfl (pz_dc dX10_years 97 rfl) (fun a9 hb => ?_)
    refine pz_bipush (pc' := 180) (v := 32) rfl (pz_dc dX10_years 98 rfl) kb_32 ?_
    refine pz_ldI hb (pc' := 181) rfl (pz_dc dX10_years 99 rfl) (fun x10 hb => ?_)
    refine pz_isub (pc' := 182) rfl (pz_dc dX10_years 100 rfl) ?_
    refine pz_i2l (pc' := 183) rfl (pz_dc dX10_years 101 rfl) ?_
    refine pz_cVv (M := mX10_years) (N := mX10_tell) (d' := 0) (bc1 := 0) (bs1 := 0) (bc2 := bc) (bs2 := bs) (pc' := 186) [.long ((x8 - x10).toInt64)] hb vX10_248 rfl (pz_dc dX10_years 102 rfl) rfl (Nat.le_of_ble_eq_true rfl) (Nat.le_of_ble_eq_true rfl) rfl (by omega) (by omega) (by omega) (fun h11 hb => ?_)
    refine pz_aload_n (pc' := 187) (x := l0) 0 rfl (pz_dc dX10_years 103 rfl) rfl ?_
    refine pz_aload_n (pc' := 188) (x := l0) 0 rfl (pz_dc dX10_years 104 rfl) rfl ?_
    refine pz_getR (M := mX10_years) hb fX10_48 (pc' := 191) rfl (pz_dc dX10_years 105 rfl) (fun a12 hb => ?_)
    refine pz_iconst (pc' := 192) (v := 0) rfl (pz_dc dX10_years 106 rfl) ki_0 ?_
    refine pz_cVi (M := mX10_years) (N := mX10_sumOf) (d' := 0) (bc1 := 0) (bs1 := 0) (bc2 := bc) (bs2 := bs) (pc' := 195) [.ref a12, .int 0] hb vX10_227 rfl (pz_dc dX10_years 107 rfl) rfl (Nat.le_of_ble_eq_true rfl) (Nat.le_of_ble_eq_true rfl) rfl (by omega) (by omega) (by omega) (fun x14 h13 hb => ?_)
    exact pz_iret (pz_dc dX10_years 108 rfl) rfl hb
  · replace hb := hb.2 hc
    refine pz_aload_n (pc' := 42) (x := l0) 0 rfl (pz_dc dX10_years 24 rfl) rfl ?_
    refine pz_iconst (pc' := 43) (v := 4) rfl (pz_dc dX10_years 25 rfl) ki_4 ?_
    refine pz_cVi (M := mX10_years) (N := mX10_draw) (d' := 0) (bc1 := 0) (bs1 := 0) (bc2 := bc) (bs2 := bs) (pc' := 46) [.int 4] hb vX10_351 rfl (pz_dc dX10_years 26 rfl) rfl (Nat.le_of_ble_eq_true rfl) (Nat.le_of_ble_eq_true rfl) rfl (by omega) (by omega) (by omega) (fun x16 h15 hb => ?_)
    refine pz_istore (pc' := 48) (lv' := [(4, .int x16), (0, .ref l0), (2, .int l2), (3, .int l3)]) rfl (pz_dc dX10_years 27 rfl) (by decide) rfl ?_
    refine pz_iload (pc' := 50) (x := x16) 0 rfl (pz_dc dX10_years 28 rfl) rfl ?_
    refine pz_iconst (pc' := 51) (v := 2) rfl (pz_dc dX10_years 29 rfl) ki_2 ?_
    refine pz_icmp_ge (pc' := 54) (tgt := 62) rfl (pz_dc dX10_years 30 rfl) (by decide) (fun hc => ?_) (fun hc => ?_)
    · replace hb := hb.1 hc
      refine pz_lv (lv' := [(0, .ref l0), (2, .int l2), (3, .int l3), (4, .int x16)]) [1, 2, 3, 0] rfl ?_
      exact hb
    · replace hb := hb.2 hc
      refine pz_aload_n (pc' := 55) (x := l0) 1 rfl (pz_dc dX10_years 31 rfl) rfl ?_
      refine pz_aload_n (pc' := 56) (x := l0) 1 rfl (pz_dc dX10_years 32 rfl) rfl ?_
      refine pz_getR (M := mX10_years) hb fX10_48 (pc' := 59) rfl (pz_dc dX10_years 33 rfl) (fun a17 hb => ?_)
      refine pz_cVv (M := mX10_years) (N := mX10_goDay) (d' := 82) (bc1 := 0) (bs1 := 0) (bc2 := bc) (bs2 := bs) (pc' := 62) [.ref a17] hb vX10_237 rfl (pz_dc dX10_years 34 rfl) rfl (Nat.le_of_ble_eq_true rfl) (Nat.le_of_ble_eq_true rfl) rfl (by omega) (by omega) (by omega) (fun h18 hb => ?_)
      refine pz_lv (lv' := [(0, .ref l0), (2, .int l2), (3, .int l3), (4, .int x16)]) [1, 2, 3, 0] rfl ?_
      exact hb
set_option maxRecDepth 20000 in
set_option maxHeartbeats 4000000 in
theorem wX10_years_62 {Ex : State → Nat → Prop} {Q : Option Value → pz_H → Prop} {d bc bs : Nat} {l0 : Nat} {l2 : Int32} {l3 : Int32} {l4 : Int32}  {h : pz_H} (hD : 83 ≤ d) (hb : (l4 < ((2 : Int32)) → pz_V mX10_years Ex Q d bc bs 36 [(0, .ref l0), (2, .int l2), (3, .int (l3 + (1 : Int32)))] [] h) ∧ (¬ l4 < ((2 : Int32)) → pz_gI h l0 10 1 (fun (x1 : Int32) => (¬ x1 = 0 → pz_gI h l0 10 1 (fun (x2 : Int32) => pz_is h l0 10 ∧ (pz_ki mX10_draw 0 0 0 (.ref l0 :: [.int x2]) h (fun (x4 : Int32) (h3 : pz_H) => (¬ l4 = ((2 : Int32)) → pz_gR h3 l0 10 24 (fun (a5 : Nat) => pz_is h3 l0 10 ∧ (pz_ki mX10_draw 0 0 0 (.ref l0 :: [.int 10]) h3 (fun (x7 : Int32) (h6 : pz_H) => pz_sI h6 a5 (((18 : Int32)) + x4) x7 (fun (h8 : pz_H) => pz_V mX10_years Ex Q d bc bs 36 [(0, .ref l0), (2, .int l2), (3, .int (l3 + (1 : Int32)))] [] h8))))) ∧ (l4 = ((2 : Int32)) → pz_gR h3 l0 10 24 (fun (a9 : Nat) => pz_gR h3 l0 10 24 (fun (a10 : Nat) => pz_rI h3 a10 (((6 : Int32)) + x4) (fun (x11 : Int32) => pz_sI h3 a9 (((6 : Int32)) + x4) (((1 : Int32)) - x11) (fun (h12 : pz_H) => pz_V mX10_years Ex Q d bc bs 36 [(0, .ref l0), (2, .int l2), (3, .int (l3 + (1 : Int32)))] [] h12))))))))) ∧ (x1 = 0 → pz_V mX10_years Ex Q d bc bs 36 [(0, .ref l0), (2, .int l2), (3, .int (l3 + (1 : Int32)))] [] h)))) : pz_V mX10_years Ex Q d bc bs 62 [(0, .ref l0), (2, .int l2), (3, .int l3), (4, .int l4)] [] h := by
  refine pz_iload (pc' := 64) (x := l4) 3 rfl (pz_dc dX10_years 35 rfl) rfl ?_
  refine pz_iconst (pc' := 65) (v := 2) rfl (pz_dc dX10_years 36 rfl) ki_2 ?_
  refine pz_icmp_lt (pc' := 68) (tgt := 135) rfl (pz_dc dX10_years 37 rfl) (by decide) (fun hc => ?_) (fun hc => ?_)
  · replace hb := hb.1 hc
    refine pz_iinc (pc' := 138) (x := l3) (v := l3 + (1 : Int32)) (lv' := [(3, .int (l3 + (1 : Int32))), (0, .ref l0), (2, .int l2), (4, .int l4)]) 2 rfl (pz_dc dX10_years 74 rfl) rfl rfl (by decide) rfl ?_
    refine pz_goto (pc' := 36) (pz_dc dX10_years 75 rfl) (by decide) ?_
    refine pz_lv (lv' := [(0, .ref l0), (2, .int l2), (3, .int (l3 + (1 : Int32)))]) [1, 2, 0] rfl ?_
    exact hb
  · replace hb := hb.2 hc
    refine pz_aload_n (pc' := 69) (x := l0) 0 rfl (pz_dc dX10_years 38 rfl) rfl ?_
    refine pz_getI (M := mX10_years) hb fX10_101 (pc' := 72) rfl (pz_dc dX10_years 39 rfl) (fun x1 hb => ?_)
    refine pz_if_ne (pc' := 75) (tgt := 78) rfl (pz_dc dX10_years 40 rfl) (by decide) (fun hc => ?_) (fun hc => ?_)
    · replace hb := hb.1 hc
      refine pz_aload_n (pc' := 79) (x := l0) 0 rfl (pz_dc dX10_years 42 rfl) rfl ?_
      refine pz_aload_n (pc' := 80) (x := l0) 0 rfl (pz_dc dX10_years 43 rfl) rfl ?_
      refine pz_getI (M := mX10_years) hb fX10_101 (pc' := 83) rfl (pz_dc dX10_years 44 rfl) (fun x2 hb => ?_)
      refine pz_cVi (M := mX10_years) (N := mX10_draw) (d' := 0) (bc1 := 0) (bs1 := 0) (bc2 := bc) (bs2 := bs) (pc' := 86) [.int x2] hb vX10_351 rfl (pz_dc dX10_years 45 rfl) rfl (Nat.le_of_ble_eq_true rfl) (Nat.le_of_ble_eq_true rfl) rfl (by omega) (by omega) (by omega) (fun x4 h3 hb => ?_)
      refine pz_istore (pc' := 88) (lv' := [(5, .int x4), (0, .ref l0), (2, .int l2), (3, .int l3), (4, .int l4)]) rfl (pz_dc dX10_years 46 rfl) (by decide) rfl ?_
      refine pz_iload (pc' := 90) (x := l4) 4 rfl (pz_dc dX10_years 47 rfl) rfl ?_
      refine pz_iconst (pc' := 91) (v := 2) rfl (pz_dc dX10_years 48 rfl) ki_2 ?_
      refine pz_icmp_ne (pc' := 94) (tgt := 119) rfl (pz_dc dX10_years 49 rfl) (by decide) (fun hc => ?_) (fun hc => ?_)
      · replace hb := hb.1 hc
        refine pz_aload_n (pc' := 120) (x := l0) 1 rfl (pz_dc dX10_years 65 rfl) rfl ?_
        refine pz_getR (M := mX10_years) hb fX10_48 (pc' := 123) rfl (pz_dc dX10_years 66 rfl) (fun a5 hb => ?_)
        refine pz_bipush (pc' := 125) (v := 18) rfl (pz_dc dX10_years 67 rfl) kb_18 ?_
        refine pz_iload (pc' := 127) (x := x4) 0 rfl (pz_dc dX10_years 68 rfl) rfl ?_
        refine pz_iadd (pc' := 128) rfl (pz_dc dX10_years 69 rfl) ?_
        refine pz_aload_n (pc' := 129) (x := l0) 1 rfl (pz_dc dX10_years 70 rfl) rfl ?_
        refine pz_bipush (pc' := 131) (v := 10) rfl (pz_dc dX10_years 71 rfl) kb_10 ?_
        refine pz_cVi (M := mX10_years) (N := mX10_draw) (d' := 0) (bc1 := 0) (bs1 := 0) (bc2 := bc) (bs2 := bs) (pc' := 134) [.int 10] hb vX10_351 rfl (pz_dc dX10_years 72 rfl) rfl (Nat.le_of_ble_eq_true rfl) (Nat.le_of_ble_eq_true rfl) rfl (by omega) (by omega) (by omega) (fun x7 h6 hb => ?_)
        refine pz_stI hb (pc' := 135) rfl (pz_dc dX10_years 73 rfl) (fun h8 hb => ?_)
        refine pz_iinc (pc' := 138) (x := l3) (v := l3 + (1 : Int32)) (lv' := [(3, .int (l3 + (1 : Int32))), (5, .int x4), (0, .ref l0), (2, .int l2), (4, .int l4)]) 3 rfl (pz_dc dX10_years 74 rfl) rfl rfl (by decide) rfl ?_
        refine pz_goto (pc' := 36) (pz_dc dX10_years 75 rfl) (by decide) ?_
        refine pz_lv (lv' := [(0, .ref l0), (2, .int l2), (3, .int (l3 + (1 : Int32)))]) [2, 3, 0] rfl ?_
        exact hb
      · replace hb := hb.2 hc
        refine pz_aload_n (pc' := 95) (x := l0) 1 rfl (pz_dc dX10_years 50 rfl) rfl ?_
        refine pz_getR (M := mX10_years) hb fX10_48 (pc' := 98) rfl (pz_dc dX10_years 51 rfl) (fun a9 hb => ?_)
        refine pz_bipush (pc' := 100) (v := 6) rfl (pz_dc dX10_years 52 rfl) kb_6 ?_
        refine pz_iload (pc' := 102) (x := x4) 0 rfl (pz_dc dX10_years 53 rfl) rfl ?_
        refine pz_iadd (pc' := 103) rfl (pz_dc dX10_years 54 rfl) ?_
        refine pz_iconst (pc' := 104) (v := 1) rfl (pz_dc dX10_years 55 rfl) ki_1 ?_
        refine pz_aload_n (pc' := 105) (x := l0) 1 rfl (pz_dc dX10_years 56 rfl) rfl ?_
        refine pz_getR (M := mX10_years) hb fX10_48 (pc' := 108) rfl (pz_dc dX10_years 57 rfl) (fun a10 hb => ?_)
        refine pz_bipush (pc' := 110) (v := 6) rfl (pz_dc dX10_years 58 rfl) kb_6 ?_
        refine pz_iload (pc' := 112) (x := x4) 0 rfl (pz_dc dX10_years 59 rfl) rfl ?_
        refine pz_iadd (pc' := 113) rfl (pz_dc dX10_years 60 rfl) ?_
        refine pz_ldI hb (pc' := 114) rfl (pz_dc dX10_years 61 rfl) (fun x11 hb => ?_)
        refine pz_isub (pc' := 115) rfl (pz_dc dX10_years 62 rfl) ?_
        refine pz_stI hb (pc' := 116) rfl (pz_dc dX10_years 63 rfl) (fun h12 hb => ?_)
        refine pz_goto (pc' := 135) (pz_dc dX10_years 64 rfl) (by decide) ?_
        refine pz_iinc (pc' := 138) (x := l3) (v := l3 + (1 : Int32)) (lv' := [(3, .int (l3 + (1 : Int32))), (5, .int x4), (0, .ref l0), (2, .int l2), (4, .int l4)]) 3 rfl (pz_dc dX10_years 74 rfl) rfl rfl (by decide) rfl ?_
        refine pz_goto (pc' := 36) (pz_dc dX10_years 75 rfl) (by decide) ?_
        refine pz_lv (lv' := [(0, .ref l0), (2, .int l2), (3, .int (l3 + (1 : Int32)))]) [2, 3, 0] rfl ?_
        exact hb
    · replace hb := hb.2 hc
      refine pz_goto (pc' := 135) (pz_dc dX10_years 41 rfl) (by decide) ?_
      refine pz_iinc (pc' := 138) (x := l3) (v := l3 + (1 : Int32)) (lv' := [(3, .int (l3 + (1 : Int32))), (0, .ref l0), (2, .int l2), (4, .int l4)]) 2 rfl (pz_dc dX10_years 74 rfl) rfl rfl (by decide) rfl ?_
      refine pz_goto (pc' := 36) (pz_dc dX10_years 75 rfl) (by decide) ?_
      refine pz_lv (lv' := [(0, .ref l0), (2, .int l2), (3, .int (l3 + (1 : Int32)))]) [1, 2, 0] rfl ?_
      exact hb
set_option maxRecDepth 20000 in
set_option maxHeartbeats 4000000 in
theorem wX10_keep_0 {Ex : State → Nat → Prop} {Q : Option Value → pz_H → Prop} {d bc bs : Nat} {l0 : Nat} {l1 : Int32}  {h : pz_H} (hD : 1 ≤ d) (hb : pz_pF h l0 10 9 (.int 0) (fun (h1 : pz_H) => (¬ (eX10_in l1 ((0 : Int32)) ((1 : Int32))) = 0 → pz_gR h1 l0 10 41 (fun (a2 : Nat) => pz_sZ h1 a2 l1 1 (fun (h3 : pz_H) => pz_gR h3 l0 10 42 (fun (a4 : Nat) => pz_gI h3 l0 10 39 (fun (x5 : Int32) => pz_sI h3 a4 l1 x5 (fun (h6 : pz_H) => pz_gR h6 l0 10 0 (fun (a7 : Nat) => pz_gR h6 l0 10 40 (fun (a8 : Nat) => pz_kv mX10_lay 0 0 0 ([.ref a7, .ref a8, .int (((33 : Int32)) * l1)]) h6 (fun (h9 : pz_H) => Q (some (.int 1)) h9))))))))) ∧ ((eX10_in l1 ((0 : Int32)) ((1 : Int32))) = 0 → Q (some (.int 0)) h1))) : pz_V mX10_keep Ex Q d bc bs 0 [(0, .ref l0), (1, .int l1)] [] h := by
  refine pz_aload_n (pc' := 1) (x := l0) 0 rfl (pz_dc dX10_keep 0 rfl) rfl ?_
  refine pz_iconst (pc' := 2) (v := 0) rfl (pz_dc dX10_keep 1 rfl) ki_0 ?_
  refine pz_putv (M := mX10_keep) hb (pX10_95 _ rfl) rfl rfl (pc' := 5) rfl (pz_dc dX10_keep 2 rfl) (fun h1 hb => ?_)
  refine pz_iload_n (pc' := 6) (x := l1) 1 rfl (pz_dc dX10_keep 3 rfl) rfl ?_
  refine pz_iconst (pc' := 7) (v := 0) rfl (pz_dc dX10_keep 4 rfl) ki_0 ?_
  refine pz_iconst (pc' := 8) (v := 1) rfl (pz_dc dX10_keep 5 rfl) ki_1 ?_
  refine pz_callS (M := mX10_keep) (N := mX10_in) (d' := 0) (bc1 := 0) (bs1 := 0) (bc2 := bc) (bs2 := bs) (pc' := 11) [.int l1, .int 0, .int 1] sX10_104 rfl (pz_dc dX10_keep 6 rfl) rfl (Nat.le_of_ble_eq_true rfl) (Nat.le_of_ble_eq_true rfl) rfl (by omega) (by omega) (by omega) ?_
  refine cX10_in ?_
  show pz_V mX10_keep _ _ _ _ _ 11 [(0, .ref l0), (1, .int l1)] [.int (eX10_in l1 ((0 : Int32)) ((1 : Int32)))] h1
  refine pz_if_ne (pc' := 14) (tgt := 16) rfl (pz_dc dX10_keep 7 rfl) (by decide) (fun hc => ?_) (fun hc => ?_)
  · replace hb := hb.1 hc
    refine pz_aload_n (pc' := 17) (x := l0) 0 rfl (pz_dc dX10_keep 10 rfl) rfl ?_
    refine pz_getR (M := mX10_keep) hb fX10_88 (pc' := 20) rfl (pz_dc dX10_keep 11 rfl) (fun a2 hb => ?_)
    refine pz_iload_n (pc' := 21) (x := l1) 1 rfl (pz_dc dX10_keep 12 rfl) rfl ?_
    refine pz_iconst (pc' := 22) (v := 1) rfl (pz_dc dX10_keep 13 rfl) ki_1 ?_
    refine pz_stZ hb (pc' := 23) rfl (pz_dc dX10_keep 14 rfl) (fun h3 hb => ?_)
    refine pz_aload_n (pc' := 24) (x := l0) 0 rfl (pz_dc dX10_keep 15 rfl) rfl ?_
    refine pz_getR (M := mX10_keep) hb fX10_92 (pc' := 27) rfl (pz_dc dX10_keep 16 rfl) (fun a4 hb => ?_)
    refine pz_iload_n (pc' := 28) (x := l1) 1 rfl (pz_dc dX10_keep 17 rfl) rfl ?_
    refine pz_aload_n (pc' := 29) (x := l0) 0 rfl (pz_dc dX10_keep 18 rfl) rfl ?_
    refine pz_getI (M := mX10_keep) hb fX10_166 (pc' := 32) rfl (pz_dc dX10_keep 19 rfl) (fun x5 hb => ?_)
    refine pz_stI hb (pc' := 33) rfl (pz_dc dX10_keep 20 rfl) (fun h6 hb => ?_)
    refine pz_aload_n (pc' := 34) (x := l0) 0 rfl (pz_dc dX10_keep 21 rfl) rfl ?_
    refine pz_getR (M := mX10_keep) hb fX10_9 (pc' := 37) rfl (pz_dc dX10_keep 22 rfl) (fun a7 hb => ?_)
    refine pz_aload_n (pc' := 38) (x := l0) 0 rfl (pz_dc dX10_keep 23 rfl) rfl ?_
    refine pz_getR (M := mX10_keep) hb fX10_85 (pc' := 41) rfl (pz_dc dX10_keep 24 rfl) (fun a8 hb => ?_)
    refine pz_bipush (pc' := 43) (v := 33) rfl (pz_dc dX10_keep 25 rfl) kb_33 ?_
    refine pz_iload_n (pc' := 44) (x := l1) 1 rfl (pz_dc dX10_keep 26 rfl) rfl ?_
    refine pz_imul (pc' := 45) rfl (pz_dc dX10_keep 27 rfl) ?_
    refine pz_cSv (M := mX10_keep) (N := mX10_lay) (d' := 0) (bc1 := 0) (bs1 := 0) (bc2 := bc) (bs2 := bs) (pc' := 48) [.ref a7, .ref a8, .int (((33 : Int32)) * l1)] hb sX10_230 rfl (pz_dc dX10_keep 28 rfl) rfl (Nat.le_of_ble_eq_true rfl) (Nat.le_of_ble_eq_true rfl) rfl (by omega) (by omega) (by omega) (fun h9 hb => ?_)
    refine pz_iconst (pc' := 49) (v := 1) rfl (pz_dc dX10_keep 29 rfl) ki_1 ?_
    exact pz_zret (pz_dc dX10_keep 30 rfl) rfl ⟨by decide, hb⟩
  · replace hb := hb.2 hc
    refine pz_iconst (pc' := 15) (v := 0) rfl (pz_dc dX10_keep 8 rfl) ki_0 ?_
    exact pz_zret (pz_dc dX10_keep 9 rfl) rfl ⟨by decide, hb⟩
set_option maxRecDepth 20000 in
set_option maxHeartbeats 4000000 in
theorem wX10_again_0 {Ex : State → Nat → Prop} {Q : Option Value → pz_H → Prop} {d bc bs : Nat} {l0 : Nat} {l1 : Int32}  {h : pz_H} (hD : 1 ≤ d) (hb : pz_pF h l0 10 9 (.int 0) (fun (h1 : pz_H) => ((eX10_in l1 ((0 : Int32)) ((1 : Int32))) = 0 → Q (some (.int 0)) h1) ∧ (¬ (eX10_in l1 ((0 : Int32)) ((1 : Int32))) = 0 → pz_gR h1 l0 10 41 (fun (a2 : Nat) => pz_rZ h1 a2 l1 (fun (x3 : Int32) => (x3 = 0 → Q (some (.int 0)) h1) ∧ (¬ x3 = 0 → pz_gR h1 l0 10 42 (fun (a4 : Nat) => pz_rI h1 a4 l1 (fun (x5 : Int32) => pz_gI h1 l0 10 39 (fun (x6 : Int32) => (x5 = x6 → pz_V mX10_again Ex Q d bc bs 40 [(0, .ref l0), (1, .int l1), (2, .int 0)] [] h1) ∧ (¬ x5 = x6 → Q (some (.int 0)) h1)))))))))) : pz_V mX10_again Ex Q d bc bs 0 [(0, .ref l0), (1, .int l1)] [] h := by
  refine pz_aload_n (pc' := 1) (x := l0) 0 rfl (pz_dc dX10_again 0 rfl) rfl ?_
  refine pz_iconst (pc' := 2) (v := 0) rfl (pz_dc dX10_again 1 rfl) ki_0 ?_
  refine pz_putv (M := mX10_again) hb (pX10_95 _ rfl) rfl rfl (pc' := 5) rfl (pz_dc dX10_again 2 rfl) (fun h1 hb => ?_)
  refine pz_iload_n (pc' := 6) (x := l1) 1 rfl (pz_dc dX10_again 3 rfl) rfl ?_
  refine pz_iconst (pc' := 7) (v := 0) rfl (pz_dc dX10_again 4 rfl) ki_0 ?_
  refine pz_iconst (pc' := 8) (v := 1) rfl (pz_dc dX10_again 5 rfl) ki_1 ?_
  refine pz_callS (M := mX10_again) (N := mX10_in) (d' := 0) (bc1 := 0) (bs1 := 0) (bc2 := bc) (bs2 := bs) (pc' := 11) [.int l1, .int 0, .int 1] sX10_104 rfl (pz_dc dX10_again 6 rfl) rfl (Nat.le_of_ble_eq_true rfl) (Nat.le_of_ble_eq_true rfl) rfl (by omega) (by omega) (by omega) ?_
  refine cX10_in ?_
  show pz_V mX10_again _ _ _ _ _ 11 [(0, .ref l0), (1, .int l1)] [.int (eX10_in l1 ((0 : Int32)) ((1 : Int32)))] h1
  refine pz_if_eq (pc' := 14) (tgt := 36) rfl (pz_dc dX10_again 7 rfl) (by decide) (fun hc => ?_) (fun hc => ?_)
  · replace hb := hb.1 hc
    refine pz_iconst (pc' := 37) (v := 0) rfl (pz_dc dX10_again 20 rfl) ki_0 ?_
    exact pz_zret (pz_dc dX10_again 21 rfl) rfl ⟨by decide, hb⟩
  · replace hb := hb.2 hc
    refine pz_aload_n (pc' := 15) (x := l0) 0 rfl (pz_dc dX10_again 8 rfl) rfl ?_
    refine pz_getR (M := mX10_again) hb fX10_88 (pc' := 18) rfl (pz_dc dX10_again 9 rfl) (fun a2 hb => ?_)
    refine pz_iload_n (pc' := 19) (x := l1) 1 rfl (pz_dc dX10_again 10 rfl) rfl ?_
    refine pz_ldZ hb (pc' := 20) rfl (pz_dc dX10_again 11 rfl) (fun x3 hb => ?_)
    refine pz_if_eq (pc' := 23) (tgt := 36) rfl (pz_dc dX10_again 12 rfl) (by decide) (fun hc => ?_) (fun hc => ?_)
    · replace hb := hb.1 hc
      refine pz_iconst (pc' := 37) (v := 0) rfl (pz_dc dX10_again 20 rfl) ki_0 ?_
      exact pz_zret (pz_dc dX10_again 21 rfl) rfl ⟨by decide, hb⟩
    · replace hb := hb.2 hc
      refine pz_aload_n (pc' := 24) (x := l0) 0 rfl (pz_dc dX10_again 13 rfl) rfl ?_
      refine pz_getR (M := mX10_again) hb fX10_92 (pc' := 27) rfl (pz_dc dX10_again 14 rfl) (fun a4 hb => ?_)
      refine pz_iload_n (pc' := 28) (x := l1) 1 rfl (pz_dc dX10_again 15 rfl) rfl ?_
      refine pz_ldI hb (pc' := 29) rfl (pz_dc dX10_again 16 rfl) (fun x5 hb => ?_)
      refine pz_aload_n (pc' := 30) (x := l0) 0 rfl (pz_dc dX10_again 17 rfl) rfl ?_
      refine pz_getI (M := mX10_again) hb fX10_166 (pc' := 33) rfl (pz_dc dX10_again 18 rfl) (fun x6 hb => ?_)
      refine pz_icmp_eq (pc' := 36) (tgt := 38) rfl (pz_dc dX10_again 19 rfl) (by decide) (fun hc => ?_) (fun hc => ?_)
      · replace hb := hb.1 hc
        refine pz_iconst (pc' := 39) (v := 0) rfl (pz_dc dX10_again 22 rfl) ki_0 ?_
        refine pz_istore_n (pc' := 40) (lv' := [(2, .int 0), (0, .ref l0), (1, .int l1)]) rfl (pz_dc dX10_again 23 rfl) (by decide) rfl ?_
        refine pz_lv (lv' := [(0, .ref l0), (1, .int l1), (2, .int 0)]) [1, 2, 0] rfl ?_
        exact hb
      · replace hb := hb.2 hc
        refine pz_iconst (pc' := 37) (v := 0) rfl (pz_dc dX10_again 20 rfl) ki_0 ?_
        exact pz_zret (pz_dc dX10_again 21 rfl) rfl ⟨by decide, hb⟩
set_option maxRecDepth 20000 in
set_option maxHeartbeats 4000000 in
theorem wX10_again_40 {Ex : State → Nat → Prop} {Q : Option Value → pz_H → Prop} {d bc bs : Nat} {l0 : Nat} {l1 : Int32} {l2 : Int32}  {h : pz_H} (hD : 1 ≤ d) (hb : (((33 : Int32)) ≤ l2 → pz_pF h l0 10 22 (.int 0) (fun (h1 : pz_H) => Q (some (.int 1)) h1)) ∧ (¬ ((33 : Int32)) ≤ l2 → pz_gR h l0 10 0 (fun (a2 : Nat) => pz_gR h l0 10 40 (fun (a3 : Nat) => pz_rI h a3 ((((33 : Int32)) * l1) + l2) (fun (x4 : Int32) => pz_sI h a2 l2 x4 (fun (h5 : pz_H) => pz_V mX10_again Ex Q d bc bs 40 [(0, .ref l0), (1, .int l1), (2, .int (l2 + (1 : Int32)))] [] h5)))))) : pz_V mX10_again Ex Q d bc bs 40 [(0, .ref l0), (1, .int l1), (2, .int l2)] [] h := by
  refine pz_iload_n (pc' := 41) (x := l2) 2 rfl (pz_dc dX10_again 24 rfl) rfl ?_
  refine pz_bipush (pc' := 43) (v := 33) rfl (pz_dc dX10_again 25 rfl) kb_33 ?_
  refine pz_icmp_ge (pc' := 46) (tgt := 69) rfl (pz_dc dX10_again 26 rfl) (by decide) (fun hc => ?_) (fun hc => ?_)
  · replace hb := hb.1 hc
    refine pz_aload_n (pc' := 70) (x := l0) 0 rfl (pz_dc dX10_again 41 rfl) rfl ?_
    refine pz_iconst (pc' := 71) (v := 0) rfl (pz_dc dX10_again 42 rfl) ki_0 ?_
    refine pz_putv (M := mX10_again) hb (pX10_163 _ rfl) rfl rfl (pc' := 74) rfl (pz_dc dX10_again 43 rfl) (fun h1 hb => ?_)
    refine pz_iconst (pc' := 75) (v := 1) rfl (pz_dc dX10_again 44 rfl) ki_1 ?_
    exact pz_zret (pz_dc dX10_again 45 rfl) rfl ⟨by decide, hb⟩
  · replace hb := hb.2 hc
    refine pz_aload_n (pc' := 47) (x := l0) 0 rfl (pz_dc dX10_again 27 rfl) rfl ?_
    refine pz_getR (M := mX10_again) hb fX10_9 (pc' := 50) rfl (pz_dc dX10_again 28 rfl) (fun a2 hb => ?_)
    refine pz_iload_n (pc' := 51) (x := l2) 2 rfl (pz_dc dX10_again 29 rfl) rfl ?_
    refine pz_aload_n (pc' := 52) (x := l0) 0 rfl (pz_dc dX10_again 30 rfl) rfl ?_
    refine pz_getR (M := mX10_again) hb fX10_85 (pc' := 55) rfl (pz_dc dX10_again 31 rfl) (fun a3 hb => ?_)
    refine pz_bipush (pc' := 57) (v := 33) rfl (pz_dc dX10_again 32 rfl) kb_33 ?_
    refine pz_iload_n (pc' := 58) (x := l1) 1 rfl (pz_dc dX10_again 33 rfl) rfl ?_
    refine pz_imul (pc' := 59) rfl (pz_dc dX10_again 34 rfl) ?_
    refine pz_iload_n (pc' := 60) (x := l2) 2 rfl (pz_dc dX10_again 35 rfl) rfl ?_
    refine pz_iadd (pc' := 61) rfl (pz_dc dX10_again 36 rfl) ?_
    refine pz_ldI hb (pc' := 62) rfl (pz_dc dX10_again 37 rfl) (fun x4 hb => ?_)
    refine pz_stI hb (pc' := 63) rfl (pz_dc dX10_again 38 rfl) (fun h5 hb => ?_)
    refine pz_iinc (pc' := 66) (x := l2) (v := l2 + (1 : Int32)) (lv' := [(2, .int (l2 + (1 : Int32))), (0, .ref l0), (1, .int l1)]) 2 rfl (pz_dc dX10_again 39 rfl) rfl rfl (by decide) rfl ?_
    refine pz_goto (pc' := 40) (pz_dc dX10_again 40 rfl) (by decide) ?_
    refine pz_lv (lv' := [(0, .ref l0), (1, .int l1), (2, .int (l2 + (1 : Int32)))]) [1, 2, 0] rfl ?_
    exact hb
set_option maxRecDepth 20000 in
set_option maxHeartbeats 4000000 in
theorem wX10_fullOnes_0 {Ex : State → Nat → Prop} {Q : Option Value → pz_H → Prop} {d bc bs : Nat} {l0 : Nat}  {h : pz_H}  (hb : pz_V mX10_fullOnes Ex Q d bc bs 4 [(0, .ref l0), (1, .int 0), (2, .int 0)] [] h) : pz_V mX10_fullOnes Ex Q d bc bs 0 [(0, .ref l0)] [] h := by
  refine pz_iconst (pc' := 1) (v := 0) rfl (pz_dc dX10_fullOnes 0 rfl) ki_0 ?_
  refine pz_istore_n (pc' := 2) (lv' := [(1, .int 0), (0, .ref l0)]) rfl (pz_dc dX10_fullOnes 1 rfl) (by decide) rfl ?_
  refine pz_iconst (pc' := 3) (v := 0) rfl (pz_dc dX10_fullOnes 2 rfl) ki_0 ?_
  refine pz_istore_n (pc' := 4) (lv' := [(2, .int 0), (1, .int 0), (0, .ref l0)]) rfl (pz_dc dX10_fullOnes 3 rfl) (by decide) rfl ?_
  refine pz_lv (lv' := [(0, .ref l0), (1, .int 0), (2, .int 0)]) [2, 1, 0] rfl ?_
  exact hb
set_option maxRecDepth 20000 in
set_option maxHeartbeats 4000000 in
theorem wX10_fullOnes_4 {Ex : State → Nat → Prop} {Q : Option Value → pz_H → Prop} {d bc bs : Nat} {l0 : Nat} {l1 : Int32} {l2 : Int32}  {h : pz_H}  (hb : pz_gI h l0 10 1 (fun (x1 : Int32) => (x1 ≤ l2 → Q (some (.int l1)) h) ∧ (¬ x1 ≤ l2 → pz_gR h l0 10 0 (fun (a2 : Nat) => pz_rI h a2 l2 (fun (x3 : Int32) => pz_gR h l0 10 2 (fun (a4 : Nat) => pz_rI h a4 l2 (fun (x5 : Int32) => (¬ x3 = x5 → pz_V mX10_fullOnes Ex Q d bc bs 4 [(0, .ref l0), (1, .int (l1 ||| ((0 : Int32)))), (2, .int (l2 + (1 : Int32)))] [] h) ∧ (x3 = x5 → pz_V mX10_fullOnes Ex Q d bc bs 4 [(0, .ref l0), (1, .int (l1 ||| (((1 : Int32)) <<< (l2 &&& 31)))), (2, .int (l2 + (1 : Int32)))] [] h)))))))) : pz_V mX10_fullOnes Ex Q d bc bs 4 [(0, .ref l0), (1, .int l1), (2, .int l2)] [] h := by
  refine pz_iload_n (pc' := 5) (x := l2) 2 rfl (pz_dc dX10_fullOnes 4 rfl) rfl ?_
  refine pz_aload_n (pc' := 6) (x := l0) 0 rfl (pz_dc dX10_fullOnes 5 rfl) rfl ?_
  refine pz_getI (M := mX10_fullOnes) hb fX10_101 (pc' := 9) rfl (pz_dc dX10_fullOnes 6 rfl) (fun x1 hb => ?_)
  refine pz_icmp_ge (pc' := 12) (tgt := 43) rfl (pz_dc dX10_fullOnes 7 rfl) (by decide) (fun hc => ?_) (fun hc => ?_)
  · replace hb := hb.1 hc
    refine pz_iload_n (pc' := 44) (x := l1) 1 rfl (pz_dc dX10_fullOnes 27 rfl) rfl ?_
    exact pz_iret (pz_dc dX10_fullOnes 28 rfl) rfl hb
  · replace hb := hb.2 hc
    refine pz_iload_n (pc' := 13) (x := l1) 1 rfl (pz_dc dX10_fullOnes 8 rfl) rfl ?_
    refine pz_aload_n (pc' := 14) (x := l0) 0 rfl (pz_dc dX10_fullOnes 9 rfl) rfl ?_
    refine pz_getR (M := mX10_fullOnes) hb fX10_9 (pc' := 17) rfl (pz_dc dX10_fullOnes 10 rfl) (fun a2 hb => ?_)
    refine pz_iload_n (pc' := 18) (x := l2) 2 rfl (pz_dc dX10_fullOnes 11 rfl) rfl ?_
    refine pz_ldI hb (pc' := 19) rfl (pz_dc dX10_fullOnes 12 rfl) (fun x3 hb => ?_)
    refine pz_aload_n (pc' := 20) (x := l0) 0 rfl (pz_dc dX10_fullOnes 13 rfl) rfl ?_
    refine pz_getR (M := mX10_fullOnes) hb fX10_13 (pc' := 23) rfl (pz_dc dX10_fullOnes 14 rfl) (fun a4 hb => ?_)
    refine pz_iload_n (pc' := 24) (x := l2) 2 rfl (pz_dc dX10_fullOnes 15 rfl) rfl ?_
    refine pz_ldI hb (pc' := 25) rfl (pz_dc dX10_fullOnes 16 rfl) (fun x5 hb => ?_)
    refine pz_icmp_ne (pc' := 28) (tgt := 34) rfl (pz_dc dX10_fullOnes 17 rfl) (by decide) (fun hc => ?_) (fun hc => ?_)
    · replace hb := hb.1 hc
      refine pz_iconst (pc' := 35) (v := 0) rfl (pz_dc dX10_fullOnes 22 rfl) ki_0 ?_
      refine pz_ior (pc' := 36) rfl (pz_dc dX10_fullOnes 23 rfl) ?_
      refine pz_istore_n (pc' := 37) (lv' := [(1, .int (l1 ||| ((0 : Int32)))), (0, .ref l0), (2, .int l2)]) rfl (pz_dc dX10_fullOnes 24 rfl) (by decide) rfl ?_
      refine pz_iinc (pc' := 40) (x := l2) (v := l2 + (1 : Int32)) (lv' := [(2, .int (l2 + (1 : Int32))), (1, .int (l1 ||| ((0 : Int32)))), (0, .ref l0)]) 2 rfl (pz_dc dX10_fullOnes 25 rfl) rfl rfl (by decide) rfl ?_
      refine pz_goto (pc' := 4) (pz_dc dX10_fullOnes 26 rfl) (by decide) ?_
      refine pz_lv (lv' := [(0, .ref l0), (1, .int (l1 ||| ((0 : Int32)))), (2, .int (l2 + (1 : Int32)))]) [2, 1, 0] rfl ?_
      exact hb
    · replace hb := hb.2 hc
      refine pz_iconst (pc' := 29) (v := 1) rfl (pz_dc dX10_fullOnes 18 rfl) ki_1 ?_
      refine pz_iload_n (pc' := 30) (x := l2) 2 rfl (pz_dc dX10_fullOnes 19 rfl) rfl ?_
      refine pz_ishl (pc' := 31) rfl (pz_dc dX10_fullOnes 20 rfl) ?_
      refine pz_goto (pc' := 35) (pz_dc dX10_fullOnes 21 rfl) (by decide) ?_
      refine pz_ior (pc' := 36) rfl (pz_dc dX10_fullOnes 23 rfl) ?_
      refine pz_istore_n (pc' := 37) (lv' := [(1, .int (l1 ||| (((1 : Int32)) <<< (l2 &&& 31)))), (0, .ref l0), (2, .int l2)]) rfl (pz_dc dX10_fullOnes 24 rfl) (by decide) rfl ?_
      refine pz_iinc (pc' := 40) (x := l2) (v := l2 + (1 : Int32)) (lv' := [(2, .int (l2 + (1 : Int32))), (1, .int (l1 ||| (((1 : Int32)) <<< (l2 &&& 31)))), (0, .ref l0)]) 2 rfl (pz_dc dX10_fullOnes 25 rfl) rfl rfl (by decide) rfl ?_
      refine pz_goto (pc' := 4) (pz_dc dX10_fullOnes 26 rfl) (by decide) ?_
      refine pz_lv (lv' := [(0, .ref l0), (1, .int (l1 ||| (((1 : Int32)) <<< (l2 &&& 31)))), (2, .int (l2 + (1 : Int32)))]) [2, 1, 0] rfl ?_
      exact hb
set_option maxRecDepth 20000 in
set_option maxHeartbeats 4000000 in
theorem wX10_count_0 {Ex : State → Nat → Prop} {Q : Option Value → pz_H → Prop} {d bc bs : Nat} {l0 : Nat} {l1 : Int32}  {h : pz_H} (hD : 1 ≤ d) (hb : pz_pF h l0 10 9 (.int 0) (fun (h1 : pz_H) => (l1.toInt = 0 → pz_gI h1 l0 10 1 (fun (x2 : Int32) => Q (some (.int x2)) h1)) ∧ (l1.toInt = 1 → pz_gR h1 l0 10 0 (fun (a3 : Nat) => pz_rI h1 a3 30 (fun (x4 : Int32) => Q (some (.int x4)) h1))) ∧ (l1.toInt = 2 → pz_gR h1 l0 10 0 (fun (a5 : Nat) => pz_rI h1 a5 31 (fun (x6 : Int32) => Q (some (.int x6)) h1))) ∧ (l1.toInt = 3 → pz_gR h1 l0 10 0 (fun (a7 : Nat) => pz_rI h1 a7 32 (fun (x8 : Int32) => Q (some (.int x8)) h1))) ∧ (l1.toInt = 4 → pz_gR h1 l0 10 0 (fun (a9 : Nat) => pz_is h1 l0 10 ∧ (pz_ki mX10_sumOf 0 0 0 (.ref l0 :: [.ref a9, .int 0]) h1 (fun (x11 : Int32) (h10 : pz_H) => Q (some (.int x11)) h10)))) ∧ (l1.toInt = 5 → pz_gR h1 l0 10 0 (fun (a12 : Nat) => pz_is h1 l0 10 ∧ (pz_ki mX10_outOnes 0 0 0 (.ref l0 :: [.ref a12]) h1 (fun (x14 : Int32) (h13 : pz_H) => Q (some (.int x14)) h13)))) ∧ (l1.toInt = 6 → pz_gR h1 l0 10 0 (fun (a15 : Nat) => pz_is h1 l0 10 ∧ (pz_ki mX10_sumOf 0 0 0 (.ref l0 :: [.ref a15, .int 12]) h1 (fun (x17 : Int32) (h16 : pz_H) => Q (some (.int x17)) h16)))) ∧ (l1.toInt = 7 → pz_gR h1 l0 10 0 (fun (a18 : Nat) => pz_is h1 l0 10 ∧ (pz_ki mX10_dryOnes 0 0 0 (.ref l0 :: [.ref a18]) h1 (fun (x20 : Int32) (h19 : pz_H) => Q (some (.int x20)) h19)))) ∧ (l1.toInt = 8 → pz_gI h1 l0 10 33 (fun (x21 : Int32) => Q (some (.int x21)) h1)) ∧ (l1.toInt = 9 → pz_gI h1 l0 10 22 (fun (x22 : Int32) => Q (some (.int x22)) h1)) ∧ (l1.toInt = 10 → pz_gI h1 l0 10 8 (fun (x23 : Int32) => Q (some (.int x23)) h1)) ∧ (l1.toInt = 11 → pz_gI h1 l0 10 6 (fun (x24 : Int32) => Q (some (.int x24)) h1)) ∧ (l1.toInt = 12 → pz_is h1 l0 10 ∧ (pz_ki mX10_fullOnes 0 0 0 (.ref l0 :: []) h1 (fun (x26 : Int32) (h25 : pz_H) => Q (some (.int x26)) h25))) ∧ (l1.toInt ≠ 0 ∧ l1.toInt ≠ 1 ∧ l1.toInt ≠ 2 ∧ l1.toInt ≠ 3 ∧ l1.toInt ≠ 4 ∧ l1.toInt ≠ 5 ∧ l1.toInt ≠ 6 ∧ l1.toInt ≠ 7 ∧ l1.toInt ≠ 8 ∧ l1.toInt ≠ 9 ∧ l1.toInt ≠ 10 ∧ l1.toInt ≠ 11 ∧ l1.toInt ≠ 12 → Q (some (.int ((-1)))) h1))) : pz_V mX10_count Ex Q d bc bs 0 [(0, .ref l0), (1, .int l1)] [] h := by
  refine pz_aload_n (pc' := 1) (x := l0) 0 rfl (pz_dc dX10_count 0 rfl) rfl ?_
  refine pz_iconst (pc' := 2) (v := 0) rfl (pz_dc dX10_count 1 rfl) ki_0 ?_
  refine pz_putv (M := mX10_count) hb (pX10_95 _ rfl) rfl rfl (pc' := 5) rfl (pz_dc dX10_count 2 rfl) (fun h1 hb => ?_)
  refine pz_iload_n (pc' := 6) (x := l1) 1 rfl (pz_dc dX10_count 3 rfl) rfl ?_
  refine pz_tableN (tgt := 165) (pz_dc dX10_count 4 rfl) (by decide) (fun i hi hx => ?_) (by decide) (fun hc => ?_)
  · match i, hi, hx with
    | 0, _, hx =>
      refine ⟨_, 72, rfl, by decide, ?_⟩
      replace hb := hb.1 (by omega)
      refine pz_aload_n (pc' := 73) (x := l0) 0 rfl (pz_dc dX10_count 5 rfl) rfl ?_
      refine pz_getI (M := mX10_count) hb fX10_101 (pc' := 76) rfl (pz_dc dX10_count 6 rfl) (fun x2 hb => ?_)
      exact pz_iret (pz_dc dX10_count 7 rfl) rfl hb
    | 1, _, hx =>
      refine ⟨_, 77, rfl, by decide, ?_⟩
      replace hb := hb.2.1 (by omega)
      refine pz_aload_n (pc' := 78) (x := l0) 0 rfl (pz_dc dX10_count 8 rfl) rfl ?_
      refine pz_getR (M := mX10_count) hb fX10_9 (pc' := 81) rfl (pz_dc dX10_count 9 rfl) (fun a3 hb => ?_)
      refine pz_bipush (pc' := 83) (v := 30) rfl (pz_dc dX10_count 10 rfl) kb_30 ?_
      refine pz_ldI hb (pc' := 84) rfl (pz_dc dX10_count 11 rfl) (fun x4 hb => ?_)
      exact pz_iret (pz_dc dX10_count 12 rfl) rfl hb
    | 2, _, hx =>
      refine ⟨_, 85, rfl, by decide, ?_⟩
      replace hb := hb.2.2.1 (by omega)
      refine pz_aload_n (pc' := 86) (x := l0) 0 rfl (pz_dc dX10_count 13 rfl) rfl ?_
      refine pz_getR (M := mX10_count) hb fX10_9 (pc' := 89) rfl (pz_dc dX10_count 14 rfl) (fun a5 hb => ?_)
      refine pz_bipush (pc' := 91) (v := 31) rfl (pz_dc dX10_count 15 rfl) kb_31 ?_
      refine pz_ldI hb (pc' := 92) rfl (pz_dc dX10_count 16 rfl) (fun x6 hb => ?_)
      exact pz_iret (pz_dc dX10_count 17 rfl) rfl hb
    | 3, _, hx =>
      refine ⟨_, 93, rfl, by decide, ?_⟩
      replace hb := hb.2.2.2.1 (by omega)
      refine pz_aload_n (pc' := 94) (x := l0) 0 rfl (pz_dc dX10_count 18 rfl) rfl ?_
      refine pz_getR (M := mX10_count) hb fX10_9 (pc' := 97) rfl (pz_dc dX10_count 19 rfl) (fun a7 hb => ?_)
      refine pz_bipush (pc' := 99) (v := 32) rfl (pz_dc dX10_count 20 rfl) kb_32 ?_
      refine pz_ldI hb (pc' := 100) rfl (pz_dc dX10_count 21 rfl) (fun x8 hb => ?_)
      exact pz_iret (pz_dc dX10_count 22 rfl) rfl hb
    | 4, _, hx =>
      refine ⟨_, 101, rfl, by decide, ?_⟩
      replace hb := hb.2.2.2.2.1 (by omega)
      refine pz_aload_n (pc' := 102) (x := l0) 0 rfl (pz_dc dX10_count 23 rfl) rfl ?_
      refine pz_aload_n (pc' := 103) (x := l0) 0 rfl (pz_dc dX10_count 24 rfl) rfl ?_
      refine pz_getR (M := mX10_count) hb fX10_9 (pc' := 106) rfl (pz_dc dX10_count 25 rfl) (fun a9 hb => ?_)
      refine pz_iconst (pc' := 107) (v := 0) rfl (pz_dc dX10_count 26 rfl) ki_0 ?_
      refine pz_cVi (M := mX10_count) (N := mX10_sumOf) (d' := 0) (bc1 := 0) (bs1 := 0) (bc2 := bc) (bs2 := bs) (pc' := 110) [.ref a9, .int 0] hb vX10_227 rfl (pz_dc dX10_count 27 rfl) rfl (Nat.le_of_ble_eq_true rfl) (Nat.le_of_ble_eq_true rfl) rfl (by omega) (by omega) (by omega) (fun x11 h10 hb => ?_)
      exact pz_iret (pz_dc dX10_count 28 rfl) rfl hb
    | 5, _, hx =>
      refine ⟨_, 111, rfl, by decide, ?_⟩
      replace hb := hb.2.2.2.2.2.1 (by omega)
      refine pz_aload_n (pc' := 112) (x := l0) 0 rfl (pz_dc dX10_count 29 rfl) rfl ?_
      refine pz_aload_n (pc' := 113) (x := l0) 0 rfl (pz_dc dX10_count 30 rfl) rfl ?_
      refine pz_getR (M := mX10_count) hb fX10_9 (pc' := 116) rfl (pz_dc dX10_count 31 rfl) (fun a12 hb => ?_)
      refine pz_cVi (M := mX10_count) (N := mX10_outOnes) (d' := 0) (bc1 := 0) (bs1 := 0) (bc2 := bc) (bs2 := bs) (pc' := 119) [.ref a12] hb vX10_202 rfl (pz_dc dX10_count 32 rfl) rfl (Nat.le_of_ble_eq_true rfl) (Nat.le_of_ble_eq_true rfl) rfl (by omega) (by omega) (by omega) (fun x14 h13 hb => ?_)
      exact pz_iret (pz_dc dX10_count 33 rfl) rfl hb
    | 6, _, hx =>
      refine ⟨_, 120, rfl, by decide, ?_⟩
      replace hb := hb.2.2.2.2.2.2.1 (by omega)
      refine pz_aload_n (pc' := 121) (x := l0) 0 rfl (pz_dc dX10_count 34 rfl) rfl ?_
      refine pz_aload_n (pc' := 122) (x := l0) 0 rfl (pz_dc dX10_count 35 rfl) rfl ?_
      refine pz_getR (M := mX10_count) hb fX10_9 (pc' := 125) rfl (pz_dc dX10_count 36 rfl) (fun a15 hb => ?_)
      refine pz_bipush (pc' := 127) (v := 12) rfl (pz_dc dX10_count 37 rfl) kb_12 ?_
      refine pz_cVi (M := mX10_count) (N := mX10_sumOf) (d' := 0) (bc1 := 0) (bs1 := 0) (bc2 := bc) (bs2 := bs) (pc' := 130) [.ref a15, .int 12] hb vX10_227 rfl (pz_dc dX10_count 38 rfl) rfl (Nat.le_of_ble_eq_true rfl) (Nat.le_of_ble_eq_true rfl) rfl (by omega) (by omega) (by omega) (fun x17 h16 hb => ?_)
      exact pz_iret (pz_dc dX10_count 39 rfl) rfl hb
    | 7, _, hx =>
      refine ⟨_, 131, rfl, by decide, ?_⟩
      replace hb := hb.2.2.2.2.2.2.2.1 (by omega)
      refine pz_aload_n (pc' := 132) (x := l0) 0 rfl (pz_dc dX10_count 40 rfl) rfl ?_
      refine pz_aload_n (pc' := 133) (x := l0) 0 rfl (pz_dc dX10_count 41 rfl) rfl ?_
      refine pz_getR (M := mX10_count) hb fX10_9 (pc' := 136) rfl (pz_dc dX10_count 42 rfl) (fun a18 hb => ?_)
      refine pz_cVi (M := mX10_count) (N := mX10_dryOnes) (d' := 0) (bc1 := 0) (bs1 := 0) (bc2 := bc) (bs2 := bs) (pc' := 139) [.ref a18] hb vX10_300 rfl (pz_dc dX10_count 43 rfl) rfl (Nat.le_of_ble_eq_true rfl) (Nat.le_of_ble_eq_true rfl) rfl (by omega) (by omega) (by omega) (fun x20 h19 hb => ?_)
      exact pz_iret (pz_dc dX10_count 44 rfl) rfl hb
    | 8, _, hx =>
      refine ⟨_, 140, rfl, by decide, ?_⟩
      replace hb := hb.2.2.2.2.2.2.2.2.1 (by omega)
      refine pz_aload_n (pc' := 141) (x := l0) 0 rfl (pz_dc dX10_count 45 rfl) rfl ?_
      refine pz_getI (M := mX10_count) hb fX10_308 (pc' := 144) rfl (pz_dc dX10_count 46 rfl) (fun x21 hb => ?_)
      exact pz_iret (pz_dc dX10_count 47 rfl) rfl hb
    | 9, _, hx =>
      refine ⟨_, 145, rfl, by decide, ?_⟩
      replace hb := hb.2.2.2.2.2.2.2.2.2.1 (by omega)
      refine pz_aload_n (pc' := 146) (x := l0) 0 rfl (pz_dc dX10_count 48 rfl) rfl ?_
      refine pz_getI (M := mX10_count) hb fX10_163 (pc' := 149) rfl (pz_dc dX10_count 49 rfl) (fun x22 hb => ?_)
      exact pz_iret (pz_dc dX10_count 50 rfl) rfl hb
    | 10, _, hx =>
      refine ⟨_, 150, rfl, by decide, ?_⟩
      replace hb := hb.2.2.2.2.2.2.2.2.2.2.1 (by omega)
      refine pz_aload_n (pc' := 151) (x := l0) 0 rfl (pz_dc dX10_count 51 rfl) rfl ?_
      refine pz_getI (M := mX10_count) hb fX10_98 (pc' := 154) rfl (pz_dc dX10_count 52 rfl) (fun x23 hb => ?_)
      exact pz_iret (pz_dc dX10_count 53 rfl) rfl hb
    | 11, _, hx =>
      refine ⟨_, 155, rfl, by decide, ?_⟩
      replace hb := hb.2.2.2.2.2.2.2.2.2.2.2.1 (by omega)
      refine pz_aload_n (pc' := 156) (x := l0) 0 rfl (pz_dc dX10_count 54 rfl) rfl ?_
      refine pz_getI (M := mX10_count) hb fX10_112 (pc' := 159) rfl (pz_dc dX10_count 55 rfl) (fun x24 hb => ?_)
      exact pz_iret (pz_dc dX10_count 56 rfl) rfl hb
    | 12, _, hx =>
      refine ⟨_, 160, rfl, by decide, ?_⟩
      replace hb := hb.2.2.2.2.2.2.2.2.2.2.2.2.1 (by omega)
      refine pz_aload_n (pc' := 161) (x := l0) 0 rfl (pz_dc dX10_count 57 rfl) rfl ?_
      refine pz_cVi (M := mX10_count) (N := mX10_fullOnes) (d' := 0) (bc1 := 0) (bs1 := 0) (bc2 := bc) (bs2 := bs) (pc' := 164) [] hb vX10_354 rfl (pz_dc dX10_count 58 rfl) rfl (Nat.le_of_ble_eq_true rfl) (Nat.le_of_ble_eq_true rfl) rfl (by omega) (by omega) (by omega) (fun x26 h25 hb => ?_)
      exact pz_iret (pz_dc dX10_count 59 rfl) rfl hb
    | k + 13, hi, _ => exact absurd hi (by simp only [List.size_toArray, List.length_cons, List.length_nil]; omega)
  · replace hb := hb.2.2.2.2.2.2.2.2.2.2.2.2.2 (by omega)
    refine pz_iconst (pc' := 166) (v := (-1)) rfl (pz_dc dX10_count 60 rfl) ki_m1 ?_
    exact pz_iret (pz_dc dX10_count 61 rfl) rfl hb
set_option maxRecDepth 20000 in
set_option maxHeartbeats 4000000 in
theorem wX10_row_0 {Ex : State → Nat → Prop} {Q : Option Value → pz_H → Prop} {d bc bs : Nat} {l0 : Nat} {l1 : Int32}  {h : pz_H} (hD : 1 ≤ d) (hb : pz_pF h l0 10 9 (.int 0) (fun (h1 : pz_H) => pz_gI h1 l0 10 8 (fun (x2 : Int32) => ((eX10_in l1 ((0 : Int32)) (x2 - ((1 : Int32)))) = 0 → pz_is h1 l0 10 ∧ (pz_pF h1 l0 10 9 (.int 1) (fun (h3 : pz_H) => Q (some (.long (((0 : Int32)).toInt64))) h3))) ∧ (¬ (eX10_in l1 ((0 : Int32)) (x2 - ((1 : Int32)))) = 0 → pz_gR h1 l0 10 7 (fun (a6 : Nat) => pz_rJ h1 a6 l1 (fun (x7 : Int64) => Q (some (.long x7)) h1)))))) : pz_V mX10_row Ex Q d bc bs 0 [(0, .ref l0), (1, .int l1)] [] h := by
  refine pz_aload_n (pc' := 1) (x := l0) 0 rfl (pz_dc dX10_row 0 rfl) rfl ?_
  refine pz_iconst (pc' := 2) (v := 0) rfl (pz_dc dX10_row 1 rfl) ki_0 ?_
  refine pz_putv (M := mX10_row) hb (pX10_95 _ rfl) rfl rfl (pc' := 5) rfl (pz_dc dX10_row 2 rfl) (fun h1 hb => ?_)
  refine pz_iload_n (pc' := 6) (x := l1) 1 rfl (pz_dc dX10_row 3 rfl) rfl ?_
  refine pz_iconst (pc' := 7) (v := 0) rfl (pz_dc dX10_row 4 rfl) ki_0 ?_
  refine pz_aload_n (pc' := 8) (x := l0) 0 rfl (pz_dc dX10_row 5 rfl) rfl ?_
  refine pz_getI (M := mX10_row) hb fX10_98 (pc' := 11) rfl (pz_dc dX10_row 6 rfl) (fun x2 hb => ?_)
  refine pz_iconst (pc' := 12) (v := 1) rfl (pz_dc dX10_row 7 rfl) ki_1 ?_
  refine pz_isub (pc' := 13) rfl (pz_dc dX10_row 8 rfl) ?_
  refine pz_callS (M := mX10_row) (N := mX10_in) (d' := 0) (bc1 := 0) (bs1 := 0) (bc2 := bc) (bs2 := bs) (pc' := 16) [.int l1, .int 0, .int (x2 - ((1 : Int32)))] sX10_104 rfl (pz_dc dX10_row 9 rfl) rfl (Nat.le_of_ble_eq_true rfl) (Nat.le_of_ble_eq_true rfl) rfl (by omega) (by omega) (by omega) ?_
  refine cX10_in ?_
  show pz_V mX10_row _ _ _ _ _ 16 [(0, .ref l0), (1, .int l1)] [.int (eX10_in l1 ((0 : Int32)) (x2 - ((1 : Int32))))] h1
  refine pz_if_eq (pc' := 19) (tgt := 28) rfl (pz_dc dX10_row 10 rfl) (by decide) (fun hc => ?_) (fun hc => ?_)
  · replace hb := hb.1 hc
    refine pz_aload_n (pc' := 29) (x := l0) 0 rfl (pz_dc dX10_row 16 rfl) rfl ?_
    obtain ⟨⟨fs4, hf5⟩, hb⟩ := hb
    refine pz_callV (M := mX10_row) (N := mX10_lost) (d' := 0) (bc1 := 0) (bs1 := 0) (bc2 := bc) (bs2 := bs) (pc' := 32) [] vX10_220 rfl (pz_dc dX10_row 17 rfl) rfl (Nat.le_of_ble_eq_true rfl) (Nat.le_of_ble_eq_true rfl) rfl (by omega) (by omega) (by omega) hf5 ?_
    refine pz_aload_n (pc' := 1) (x := l0) 0 rfl (pz_dc dX10_lost 0 rfl) rfl ?_
    refine pz_iconst (pc' := 2) (v := 1) rfl (pz_dc dX10_lost 1 rfl) ki_1 ?_
    refine pz_putv (M := mX10_lost) hb (pX10_95 _ rfl) rfl rfl (pc' := 5) rfl (pz_dc dX10_lost 2 rfl) (fun h3 hb => ?_)
    refine pz_iconst (pc' := 6) (v := 0) rfl (pz_dc dX10_lost 3 rfl) ki_0 ?_
    refine pz_iret (pz_dc dX10_lost 4 rfl) rfl ?_
    show pz_V mX10_row _ _ _ _ _ 32 [(0, .ref l0), (1, .int l1)] [.int 0] h3
    refine pz_i2l (pc' := 33) rfl (pz_dc dX10_row 18 rfl) ?_
    exact pz_lret (pz_dc dX10_row 19 rfl) rfl hb
  · replace hb := hb.2 hc
    refine pz_aload_n (pc' := 20) (x := l0) 0 rfl (pz_dc dX10_row 11 rfl) rfl ?_
    refine pz_getR (M := mX10_row) hb fX10_26 (pc' := 23) rfl (pz_dc dX10_row 12 rfl) (fun a6 hb => ?_)
    refine pz_iload_n (pc' := 24) (x := l1) 1 rfl (pz_dc dX10_row 13 rfl) rfl ?_
    refine pz_ldJ hb (pc' := 25) rfl (pz_dc dX10_row 14 rfl) (fun x7 hb => ?_)
    refine pz_goto (pc' := 33) (pz_dc dX10_row 15 rfl) (by decide) ?_
    exact pz_lret (pz_dc dX10_row 19 rfl) rfl hb
