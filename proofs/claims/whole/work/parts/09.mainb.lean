set_option maxRecDepth 20000 in
set_option maxHeartbeats 4000000 in
theorem wX9_basin_0 {Ex : State → Nat → Prop} {Q : Option Value → pz_H → Prop} {d bc bs : Nat} {l0 : Nat} {l1 : Int32}  {h : pz_H} (hD : 3 ≤ d) (hb : pz_gR h l0 9 2 (fun (a1 : Nat) => pz_is h a1 1 ∧ (pz_gI h a1 1 4 (fun (x2 : Int32) => (¬ (eX1_has l1 x2) = 0 → pz_V mX9_basin Ex Q d bc bs 22 [(0, .ref l0), (1, .int l1), (2, .int 0), (3, .int 0), (4, .int (l1 + ((1 : Int32))))] [] h) ∧ ((eX1_has l1 x2) = 0 → Q (some (.int ((-1)))) h))))) : pz_V mX9_basin Ex Q d bc bs 0 [(0, .ref l0), (1, .int l1)] [] h := by
  refine pz_aload_n (pc' := 1) (x := l0) 0 rfl (pz_dc dX9_basin 0 rfl) rfl ?_
  refine pz_getR (M := mX9_basin) hb fX9_26 (pc' := 4) rfl (pz_dc dX9_basin 1 rfl) (fun a1 hb => ?_)
  refine pz_iload_n (pc' := 5) (x := l1) 1 rfl (pz_dc dX9_basin 2 rfl) rfl ?_
  obtain ⟨⟨fs6, hf7⟩, hb⟩ := hb
  obtain ⟨fs3, x2, g4, g5, hb⟩ := hb
  refine pz_callV (M := mX9_basin) (N := mX1_has) (d' := 0) (bc1 := 0) (bs1 := 0) (bc2 := bc) (bs2 := bs) (pc' := 8) [.int l1] vX9_115 rfl (pz_dc dX9_basin 3 rfl) rfl (Nat.le_of_ble_eq_true rfl) (Nat.le_of_ble_eq_true rfl) rfl (by omega) (by omega) (by omega) hf7 ?_
  refine cX1_has ⟨fs3, x2, g4, g5, ?_⟩
  show pz_V mX9_basin _ _ _ _ _ 8 [(0, .ref l0), (1, .int l1)] [.int (eX1_has l1 x2)] h
  refine pz_if_ne (pc' := 11) (tgt := 13) rfl (pz_dc dX9_basin 4 rfl) (by decide) (fun hc => ?_) (fun hc => ?_)
  · replace hb := hb.1 hc
    refine pz_iconst (pc' := 14) (v := 0) rfl (pz_dc dX9_basin 7 rfl) ki_0 ?_
    refine pz_istore_n (pc' := 15) (lv' := [(2, .int 0), (0, .ref l0), (1, .int l1)]) rfl (pz_dc dX9_basin 8 rfl) (by decide) rfl ?_
    refine pz_iconst (pc' := 16) (v := 0) rfl (pz_dc dX9_basin 9 rfl) ki_0 ?_
    refine pz_istore_n (pc' := 17) (lv' := [(3, .int 0), (2, .int 0), (0, .ref l0), (1, .int l1)]) rfl (pz_dc dX9_basin 10 rfl) (by decide) rfl ?_
    refine pz_iload_n (pc' := 18) (x := l1) 3 rfl (pz_dc dX9_basin 11 rfl) rfl ?_
    refine pz_iconst (pc' := 19) (v := 1) rfl (pz_dc dX9_basin 12 rfl) ki_1 ?_
    refine pz_iadd (pc' := 20) rfl (pz_dc dX9_basin 13 rfl) ?_
    refine pz_istore (pc' := 22) (lv' := [(4, .int (l1 + ((1 : Int32)))), (3, .int 0), (2, .int 0), (0, .ref l0), (1, .int l1)]) rfl (pz_dc dX9_basin 14 rfl) (by decide) rfl ?_
    refine pz_lv (lv' := [(0, .ref l0), (1, .int l1), (2, .int 0), (3, .int 0), (4, .int (l1 + ((1 : Int32))))]) [3, 4, 2, 1, 0] rfl ?_
    exact hb
  · replace hb := hb.2 hc
    refine pz_iconst (pc' := 12) (v := (-1)) rfl (pz_dc dX9_basin 5 rfl) ki_m1 ?_
    exact pz_iret (pz_dc dX9_basin 6 rfl) rfl hb
set_option maxRecDepth 20000 in
set_option maxHeartbeats 4000000 in
theorem wX9_basin_22 {Ex : State → Nat → Prop} {Q : Option Value → pz_H → Prop} {d bc bs : Nat} {l0 : Nat} {l1 : Int32} {l2 : Int32} {l3 : Int32} {l4 : Int32}  {h : pz_H} (hD : 3 ≤ d) (hb : pz_gR h l0 9 2 (fun (a1 : Nat) => pz_is h a1 1 ∧ (pz_gI h a1 1 4 (fun (x2 : Int32) => (x2 ≤ l4 → pz_gR h l0 9 1 (fun (a3 : Nat) => pz_gR h l0 9 2 (fun (a4 : Nat) => pz_gR h l0 9 3 (fun (a5 : Nat) => pz_is h a4 1 ∧ (pz_ki mX1_totalOf 1 0 0 (.ref a4 :: [.ref a5, .int l2]) h (fun (x7 : Int32) (h6 : pz_H) => pz_is h6 a3 4 ∧ (pz_kv mX4_tell_ 2 0 0 (.ref a3 :: [.long x7.toInt64, .long l3.toInt64]) h6 (fun (h8 : pz_H) => Q (some (.int l2)) h8)))))))) ∧ (¬ x2 ≤ l4 → pz_gR h l0 9 2 (fun (a9 : Nat) => pz_gR h a9 1 1 (fun (a10 : Nat) => pz_rI h a10 l4 (fun (x11 : Int32) => (¬ x11 = l1 → (x11 ≤ l1 → pz_V mX9_basin Ex Q d bc bs 22 [(0, .ref l0), (1, .int l1), (2, .int l2), (3, .int l3), (4, .int (l4 + (1 : Int32)))] [] h) ∧ (¬ x11 ≤ l1 → ((eX9_isIn l2 x11) = 0 → pz_V mX9_basin Ex Q d bc bs 22 [(0, .ref l0), (1, .int l1), (2, .int l2), (3, .int l3), (4, .int (l4 + (1 : Int32)))] [] h) ∧ (¬ (eX9_isIn l2 x11) = 0 → pz_V mX9_basin Ex Q d bc bs 22 [(0, .ref l0), (1, .int l1), (2, .int (l2 ||| (((1 : Int32)) <<< (l4 &&& 31)))), (3, .int l3), (4, .int (l4 + (1 : Int32)))] [] h))) ∧ (x11 = l1 → pz_V mX9_basin Ex Q d bc bs 22 [(0, .ref l0), (1, .int l1), (2, .int (l2 ||| (((1 : Int32)) <<< (l4 &&& 31)))), (3, .int (l3 + (1 : Int32))), (4, .int (l4 + (1 : Int32)))] [] h))))))))) : pz_V mX9_basin Ex Q d bc bs 22 [(0, .ref l0), (1, .int l1), (2, .int l2), (3, .int l3), (4, .int l4)] [] h := by
  refine pz_iload (pc' := 24) (x := l4) 4 rfl (pz_dc dX9_basin 15 rfl) rfl ?_
  refine pz_aload_n (pc' := 25) (x := l0) 0 rfl (pz_dc dX9_basin 16 rfl) rfl ?_
  refine pz_getR (M := mX9_basin) hb fX9_26 (pc' := 28) rfl (pz_dc dX9_basin 17 rfl) (fun a1 hb => ?_)
  obtain ⟨⟨fs12, hf13⟩, hb⟩ := hb
  refine pz_callV (M := mX9_basin) (N := mX1_size) (d' := 0) (bc1 := 0) (bs1 := 0) (bc2 := bc) (bs2 := bs) (pc' := 31) [] vX9_208 rfl (pz_dc dX9_basin 18 rfl) rfl (Nat.le_of_ble_eq_true rfl) (Nat.le_of_ble_eq_true rfl) rfl (by omega) (by omega) (by omega) hf13 ?_
  refine pz_aload_n (pc' := 1) (x := a1) 0 rfl (pz_dc dX1_size 0 rfl) rfl ?_
  refine pz_getI (M := mX1_size) hb fX1_24 (pc' := 4) rfl (pz_dc dX1_size 1 rfl) (fun x2 hb => ?_)
  refine pz_iret (pz_dc dX1_size 2 rfl) rfl ?_
  show pz_V mX9_basin _ _ _ _ _ 31 [(0, .ref l0), (1, .int l1), (2, .int l2), (3, .int l3), (4, .int l4)] [.int x2, .int l4] h
  refine pz_icmp_ge (pc' := 34) (tgt := 93) rfl (pz_dc dX9_basin 19 rfl) (by decide) (fun hc => ?_) (fun hc => ?_)
  · replace hb := hb.1 hc
    refine pz_aload_n (pc' := 94) (x := l0) 0 rfl (pz_dc dX9_basin 52 rfl) rfl ?_
    refine pz_getR (M := mX9_basin) hb fX9_19 (pc' := 97) rfl (pz_dc dX9_basin 53 rfl) (fun a3 hb => ?_)
    refine pz_aload_n (pc' := 98) (x := l0) 0 rfl (pz_dc dX9_basin 54 rfl) rfl ?_
    refine pz_getR (M := mX9_basin) hb fX9_26 (pc' := 101) rfl (pz_dc dX9_basin 55 rfl) (fun a4 hb => ?_)
    refine pz_aload_n (pc' := 102) (x := l0) 0 rfl (pz_dc dX9_basin 56 rfl) rfl ?_
    refine pz_getR (M := mX9_basin) hb fX9_33 (pc' := 105) rfl (pz_dc dX9_basin 57 rfl) (fun a5 hb => ?_)
    refine pz_iload_n (pc' := 106) (x := l2) 2 rfl (pz_dc dX9_basin 58 rfl) rfl ?_
    refine pz_cVi (M := mX9_basin) (N := mX1_totalOf) (d' := 1) (bc1 := 0) (bs1 := 0) (bc2 := bc) (bs2 := bs) (pc' := 109) [.ref a5, .int l2] hb vX9_232 rfl (pz_dc dX9_basin 59 rfl) rfl (Nat.le_of_ble_eq_true rfl) (Nat.le_of_ble_eq_true rfl) rfl (by omega) (by omega) (by omega) (fun x7 h6 hb => ?_)
    refine pz_i2l (pc' := 110) rfl (pz_dc dX9_basin 60 rfl) ?_
    refine pz_iload_n (pc' := 111) (x := l3) 3 rfl (pz_dc dX9_basin 61 rfl) rfl ?_
    refine pz_i2l (pc' := 112) rfl (pz_dc dX9_basin 62 rfl) ?_
    refine pz_cVv (M := mX9_basin) (N := mX4_tell_) (d' := 2) (bc1 := 0) (bs1 := 0) (bc2 := bc) (bs2 := bs) (pc' := 115) [.long x7.toInt64, .long l3.toInt64] hb vX9_167 rfl (pz_dc dX9_basin 63 rfl) rfl (Nat.le_of_ble_eq_true rfl) (Nat.le_of_ble_eq_true rfl) rfl (by omega) (by omega) (by omega) (fun h8 hb => ?_)
    refine pz_iload_n (pc' := 116) (x := l2) 2 rfl (pz_dc dX9_basin 64 rfl) rfl ?_
    exact pz_iret (pz_dc dX9_basin 65 rfl) rfl hb
  · replace hb := hb.2 hc
    refine pz_aload_n (pc' := 35) (x := l0) 0 rfl (pz_dc dX9_basin 20 rfl) rfl ?_
    refine pz_getR (M := mX9_basin) hb fX9_26 (pc' := 38) rfl (pz_dc dX9_basin 21 rfl) (fun a9 hb => ?_)
    refine pz_getR (M := mX9_basin) hb fX9_133 (pc' := 41) rfl (pz_dc dX9_basin 22 rfl) (fun a10 hb => ?_)
    refine pz_iload (pc' := 43) (x := l4) 4 rfl (pz_dc dX9_basin 23 rfl) rfl ?_
    refine pz_ldI hb (pc' := 44) rfl (pz_dc dX9_basin 24 rfl) (fun x11 hb => ?_)
    refine pz_istore (pc' := 46) (lv' := [(5, .int x11), (0, .ref l0), (1, .int l1), (2, .int l2), (3, .int l3), (4, .int l4)]) rfl (pz_dc dX9_basin 25 rfl) (by decide) rfl ?_
    refine pz_iload (pc' := 48) (x := x11) 0 rfl (pz_dc dX9_basin 26 rfl) rfl ?_
    refine pz_iload_n (pc' := 49) (x := l1) 2 rfl (pz_dc dX9_basin 27 rfl) rfl ?_
    refine pz_icmp_ne (pc' := 52) (tgt := 65) rfl (pz_dc dX9_basin 28 rfl) (by decide) (fun hc => ?_) (fun hc => ?_)
    · replace hb := hb.1 hc
      refine pz_iload (pc' := 67) (x := x11) 0 rfl (pz_dc dX9_basin 37 rfl) rfl ?_
      refine pz_iload_n (pc' := 68) (x := l1) 2 rfl (pz_dc dX9_basin 38 rfl) rfl ?_
      refine pz_icmp_le (pc' := 71) (tgt := 87) rfl (pz_dc dX9_basin 39 rfl) (by decide) (fun hc => ?_) (fun hc => ?_)
      · replace hb := hb.1 hc
        refine pz_iinc (pc' := 90) (x := l4) (v := l4 + (1 : Int32)) (lv' := [(4, .int (l4 + (1 : Int32))), (5, .int x11), (0, .ref l0), (1, .int l1), (2, .int l2), (3, .int l3)]) 5 rfl (pz_dc dX9_basin 50 rfl) rfl rfl (by decide) rfl ?_
        refine pz_goto (pc' := 22) (pz_dc dX9_basin 51 rfl) (by decide) ?_
        refine pz_lv (lv' := [(0, .ref l0), (1, .int l1), (2, .int l2), (3, .int l3), (4, .int (l4 + (1 : Int32)))]) [2, 3, 4, 5, 0] rfl ?_
        exact hb
      · replace hb := hb.2 hc
        refine pz_iload_n (pc' := 72) (x := l2) 3 rfl (pz_dc dX9_basin 40 rfl) rfl ?_
        refine pz_iload (pc' := 74) (x := x11) 0 rfl (pz_dc dX9_basin 41 rfl) rfl ?_
        refine pz_callS (M := mX9_basin) (N := mX9_isIn) (d' := 0) (bc1 := 0) (bs1 := 0) (bc2 := bc) (bs2 := bs) (pc' := 77) [.int l2, .int x11] sX9_228 rfl (pz_dc dX9_basin 42 rfl) rfl (Nat.le_of_ble_eq_true rfl) (Nat.le_of_ble_eq_true rfl) rfl (by omega) (by omega) (by omega) ?_
        refine cX9_isIn ?_
        show pz_V mX9_basin _ _ _ _ _ 77 [(5, .int x11), (0, .ref l0), (1, .int l1), (2, .int l2), (3, .int l3), (4, .int l4)] [.int (eX9_isIn l2 x11)] h
        refine pz_if_eq (pc' := 80) (tgt := 87) rfl (pz_dc dX9_basin 43 rfl) (by decide) (fun hc => ?_) (fun hc => ?_)
        · replace hb := hb.1 hc
          refine pz_iinc (pc' := 90) (x := l4) (v := l4 + (1 : Int32)) (lv' := [(4, .int (l4 + (1 : Int32))), (5, .int x11), (0, .ref l0), (1, .int l1), (2, .int l2), (3, .int l3)]) 5 rfl (pz_dc dX9_basin 50 rfl) rfl rfl (by decide) rfl ?_
          refine pz_goto (pc' := 22) (pz_dc dX9_basin 51 rfl) (by decide) ?_
          refine pz_lv (lv' := [(0, .ref l0), (1, .int l1), (2, .int l2), (3, .int l3), (4, .int (l4 + (1 : Int32)))]) [2, 3, 4, 5, 0] rfl ?_
          exact hb
        · replace hb := hb.2 hc
          refine pz_iload_n (pc' := 81) (x := l2) 3 rfl (pz_dc dX9_basin 44 rfl) rfl ?_
          refine pz_iconst (pc' := 82) (v := 1) rfl (pz_dc dX9_basin 45 rfl) ki_1 ?_
          refine pz_iload (pc' := 84) (x := l4) 5 rfl (pz_dc dX9_basin 46 rfl) rfl ?_
          refine pz_ishl (pc' := 85) rfl (pz_dc dX9_basin 47 rfl) ?_
          refine pz_ior (pc' := 86) rfl (pz_dc dX9_basin 48 rfl) ?_
          refine pz_istore_n (pc' := 87) (lv' := [(2, .int (l2 ||| (((1 : Int32)) <<< (l4 &&& 31)))), (5, .int x11), (0, .ref l0), (1, .int l1), (3, .int l3), (4, .int l4)]) rfl (pz_dc dX9_basin 49 rfl) (by decide) rfl ?_
          refine pz_iinc (pc' := 90) (x := l4) (v := l4 + (1 : Int32)) (lv' := [(4, .int (l4 + (1 : Int32))), (2, .int (l2 ||| (((1 : Int32)) <<< (l4 &&& 31)))), (5, .int x11), (0, .ref l0), (1, .int l1), (3, .int l3)]) 5 rfl (pz_dc dX9_basin 50 rfl) rfl rfl (by decide) rfl ?_
          refine pz_goto (pc' := 22) (pz_dc dX9_basin 51 rfl) (by decide) ?_
          refine pz_lv (lv' := [(0, .ref l0), (1, .int l1), (2, .int (l2 ||| (((1 : Int32)) <<< (l4 &&& 31)))), (3, .int l3), (4, .int (l4 + (1 : Int32)))]) [3, 4, 1, 5, 0] rfl ?_
          exact hb
    · replace hb := hb.2 hc
      refine pz_iinc (pc' := 55) (x := l3) (v := l3 + (1 : Int32)) (lv' := [(3, .int (l3 + (1 : Int32))), (5, .int x11), (0, .ref l0), (1, .int l1), (2, .int l2), (4, .int l4)]) 4 rfl (pz_dc dX9_basin 29 rfl) rfl rfl (by decide) rfl ?_
      refine pz_iload_n (pc' := 56) (x := l2) 4 rfl (pz_dc dX9_basin 30 rfl) rfl ?_
      refine pz_iconst (pc' := 57) (v := 1) rfl (pz_dc dX9_basin 31 rfl) ki_1 ?_
      refine pz_iload (pc' := 59) (x := l4) 5 rfl (pz_dc dX9_basin 32 rfl) rfl ?_
      refine pz_ishl (pc' := 60) rfl (pz_dc dX9_basin 33 rfl) ?_
      refine pz_ior (pc' := 61) rfl (pz_dc dX9_basin 34 rfl) ?_
      refine pz_istore_n (pc' := 62) (lv' := [(2, .int (l2 ||| (((1 : Int32)) <<< (l4 &&& 31)))), (3, .int (l3 + (1 : Int32))), (5, .int x11), (0, .ref l0), (1, .int l1), (4, .int l4)]) rfl (pz_dc dX9_basin 35 rfl) (by decide) rfl ?_
      refine pz_goto (pc' := 87) (pz_dc dX9_basin 36 rfl) (by decide) ?_
      refine pz_iinc (pc' := 90) (x := l4) (v := l4 + (1 : Int32)) (lv' := [(4, .int (l4 + (1 : Int32))), (2, .int (l2 ||| (((1 : Int32)) <<< (l4 &&& 31)))), (3, .int (l3 + (1 : Int32))), (5, .int x11), (0, .ref l0), (1, .int l1)]) 5 rfl (pz_dc dX9_basin 50 rfl) rfl rfl (by decide) rfl ?_
      refine pz_goto (pc' := 22) (pz_dc dX9_basin 51 rfl) (by decide) ?_
      refine pz_lv (lv' := [(0, .ref l0), (1, .int l1), (2, .int (l2 ||| (((1 : Int32)) <<< (l4 &&& 31)))), (3, .int (l3 + (1 : Int32))), (4, .int (l4 + (1 : Int32)))]) [4, 5, 1, 2, 0] rfl ?_
      exact hb
set_option maxRecDepth 20000 in
set_option maxHeartbeats 4000000 in
theorem wX9_order_0 {Ex : State → Nat → Prop} {Q : Option Value → pz_H → Prop} {d bc bs : Nat} {l0 : Nat} {l1 : Int32}  {h : pz_H} (hD : 4 ≤ d) (hb : (¬ (eX9_isWithin l1 ((0 : Int32)) ((99 : Int32))) = 0 → pz_is h l0 9 ∧ (pz_kv mX9_startTrial 2 0 0 (.ref l0 :: []) h (fun (h1 : pz_H) => pz_gR h1 l0 9 1 (fun (a2 : Nat) => pz_is h1 a2 4 ∧ (pz_pF h1 a2 4 1 (.int 0) (fun (h3 : pz_H) => pz_V mX9_order Ex Q d bc bs 27 [(0, .ref l0), (1, .int l1), (2, .int 0), (3, .int 0)] [] h3)))))) ∧ ((eX9_isWithin l1 ((0 : Int32)) ((99 : Int32))) = 0 → Q (some (.int ((-1)))) h)) : pz_V mX9_order Ex Q d bc bs 0 [(0, .ref l0), (1, .int l1)] [] h := by
  refine pz_iload_n (pc' := 1) (x := l1) 1 rfl (pz_dc dX9_order 0 rfl) rfl ?_
  refine pz_iconst (pc' := 2) (v := 0) rfl (pz_dc dX9_order 1 rfl) ki_0 ?_
  refine pz_bipush (pc' := 4) (v := 99) rfl (pz_dc dX9_order 2 rfl) kb_99 ?_
  refine pz_callS (M := mX9_order) (N := mX9_isWithin) (d' := 0) (bc1 := 0) (bs1 := 0) (bc2 := bc) (bs2 := bs) (pc' := 7) [.int l1, .int 0, .int 99] sX9_196 rfl (pz_dc dX9_order 3 rfl) rfl (Nat.le_of_ble_eq_true rfl) (Nat.le_of_ble_eq_true rfl) rfl (by omega) (by omega) (by omega) ?_
  refine cX9_isWithin ?_
  show pz_V mX9_order _ _ _ _ _ 7 [(0, .ref l0), (1, .int l1)] [.int (eX9_isWithin l1 ((0 : Int32)) ((99 : Int32)))] h
  refine pz_if_ne (pc' := 10) (tgt := 12) rfl (pz_dc dX9_order 4 rfl) (by decide) (fun hc => ?_) (fun hc => ?_)
  · replace hb := hb.1 hc
    refine pz_aload_n (pc' := 13) (x := l0) 0 rfl (pz_dc dX9_order 7 rfl) rfl ?_
    refine pz_cVv (M := mX9_order) (N := mX9_startTrial) (d' := 2) (bc1 := 0) (bs1 := 0) (bc2 := bc) (bs2 := bs) (pc' := 16) [] hb vX9_200 rfl (pz_dc dX9_order 8 rfl) rfl (Nat.le_of_ble_eq_true rfl) (Nat.le_of_ble_eq_true rfl) rfl (by omega) (by omega) (by omega) (fun h1 hb => ?_)
    refine pz_aload_n (pc' := 17) (x := l0) 0 rfl (pz_dc dX9_order 9 rfl) rfl ?_
    refine pz_getR (M := mX9_order) hb fX9_19 (pc' := 20) rfl (pz_dc dX9_order 10 rfl) (fun a2 hb => ?_)
    obtain ⟨⟨fs4, hf5⟩, hb⟩ := hb
    refine pz_callV (M := mX9_order) (N := mX4_clear) (d' := 0) (bc1 := 0) (bs1 := 0) (bc2 := bc) (bs2 := bs) (pc' := 23) [] vX9_207 rfl (pz_dc dX9_order 11 rfl) rfl (Nat.le_of_ble_eq_true rfl) (Nat.le_of_ble_eq_true rfl) rfl (by omega) (by omega) (by omega) hf5 ?_
    refine pz_aload_n (pc' := 1) (x := a2) 0 rfl (pz_dc dX4_clear 0 rfl) rfl ?_
    refine pz_iconst (pc' := 2) (v := 0) rfl (pz_dc dX4_clear 1 rfl) ki_0 ?_
    refine pz_putv (M := mX4_clear) hb (pX4_15 _ rfl) rfl rfl (pc' := 5) rfl (pz_dc dX4_clear 2 rfl) (fun h3 hb => ?_)
    refine pz_vret (pz_dc dX4_clear 3 rfl) rfl ?_
    show pz_V mX9_order _ _ _ _ _ 23 [(0, .ref l0), (1, .int l1)] [] h3
    refine pz_iconst (pc' := 24) (v := 0) rfl (pz_dc dX9_order 12 rfl) ki_0 ?_
    refine pz_istore_n (pc' := 25) (lv' := [(2, .int 0), (0, .ref l0), (1, .int l1)]) rfl (pz_dc dX9_order 13 rfl) (by decide) rfl ?_
    refine pz_iconst (pc' := 26) (v := 0) rfl (pz_dc dX9_order 14 rfl) ki_0 ?_
    refine pz_istore_n (pc' := 27) (lv' := [(3, .int 0), (2, .int 0), (0, .ref l0), (1, .int l1)]) rfl (pz_dc dX9_order 15 rfl) (by decide) rfl ?_
    refine pz_lv (lv' := [(0, .ref l0), (1, .int l1), (2, .int 0), (3, .int 0)]) [2, 3, 1, 0] rfl ?_
    exact hb
  · replace hb := hb.2 hc
    refine pz_iconst (pc' := 11) (v := (-1)) rfl (pz_dc dX9_order 5 rfl) ki_m1 ?_
    exact pz_iret (pz_dc dX9_order 6 rfl) rfl hb
set_option maxRecDepth 20000 in
set_option maxHeartbeats 4000000 in
theorem wX9_order_27 {Ex : State → Nat → Prop} {Q : Option Value → pz_H → Prop} {d bc bs : Nat} {l0 : Nat} {l1 : Int32} {l2 : Int32} {l3 : Int32}  {h : pz_H} (hD : 4 ≤ d) (hb : (l1 < l3 → pz_ki mJ6_bitCount_0f7a4 0 0 0 ([.int l2]) h (fun (x2 : Int32) (h1 : pz_H) => Q (some (.int x2)) h1)) ∧ (¬ l1 < l3 → pz_gR h l0 9 2 (fun (a3 : Nat) => pz_gR h l0 9 5 (fun (a4 : Nat) => pz_is h a3 1 ∧ (pz_ki mX1_dry 0 0 0 (.ref a3 :: [.ref a4]) h (fun (x6 : Int32) (h5 : pz_H) => pz_V mX9_order Ex Q d bc bs 52 [(0, .ref l0), (1, .int l1), (2, .int l2), (3, .int l3), (4, .int (x6 &&& (l2 ^^^ ((-1 : Int32))))), (5, .int 0)] [] h5)))))) : pz_V mX9_order Ex Q d bc bs 27 [(0, .ref l0), (1, .int l1), (2, .int l2), (3, .int l3)] [] h := by
  refine pz_iload_n (pc' := 28) (x := l3) 3 rfl (pz_dc dX9_order 16 rfl) rfl ?_
  refine pz_iload_n (pc' := 29) (x := l1) 1 rfl (pz_dc dX9_order 17 rfl) rfl ?_
  refine pz_icmp_gt (pc' := 32) (tgt := 116) rfl (pz_dc dX9_order 18 rfl) (by decide) (fun hc => ?_) (fun hc => ?_)
  · replace hb := hb.1 hc
    refine pz_iload_n (pc' := 117) (x := l2) 2 rfl (pz_dc dX9_order 60 rfl) rfl ?_
    refine pz_cSi (M := mX9_order) (N := mJ6_bitCount_0f7a4) (d' := 0) (bc1 := 0) (bs1 := 0) (bc2 := bc) (bs2 := bs) (pc' := 120) [.int l2] hb sX9_238 rfl (pz_dc dX9_order 61 rfl) rfl (Nat.le_of_ble_eq_true rfl) (Nat.le_of_ble_eq_true rfl) rfl (by omega) (by omega) (by omega) (fun x2 h1 hb => ?_)
    exact pz_iret (pz_dc dX9_order 62 rfl) rfl hb
  · replace hb := hb.2 hc
    refine pz_aload_n (pc' := 33) (x := l0) 0 rfl (pz_dc dX9_order 19 rfl) rfl ?_
    refine pz_getR (M := mX9_order) hb fX9_26 (pc' := 36) rfl (pz_dc dX9_order 20 rfl) (fun a3 hb => ?_)
    refine pz_aload_n (pc' := 37) (x := l0) 0 rfl (pz_dc dX9_order 21 rfl) rfl ?_
    refine pz_getR (M := mX9_order) hb fX9_40 (pc' := 40) rfl (pz_dc dX9_order 22 rfl) (fun a4 hb => ?_)
    refine pz_cVi (M := mX9_order) (N := mX1_dry) (d' := 0) (bc1 := 0) (bs1 := 0) (bc2 := bc) (bs2 := bs) (pc' := 43) [.ref a4] hb vX9_235 rfl (pz_dc dX9_order 23 rfl) rfl (Nat.le_of_ble_eq_true rfl) (Nat.le_of_ble_eq_true rfl) rfl (by omega) (by omega) (by omega) (fun x6 h5 hb => ?_)
    refine pz_iload_n (pc' := 44) (x := l2) 2 rfl (pz_dc dX9_order 24 rfl) rfl ?_
    refine pz_iconst (pc' := 45) (v := (-1)) rfl (pz_dc dX9_order 25 rfl) ki_m1 ?_
    refine pz_ixor (pc' := 46) rfl (pz_dc dX9_order 26 rfl) ?_
    refine pz_iand (pc' := 47) rfl (pz_dc dX9_order 27 rfl) ?_
    refine pz_istore (pc' := 49) (lv' := [(4, .int (x6 &&& (l2 ^^^ ((-1 : Int32))))), (0, .ref l0), (1, .int l1), (2, .int l2), (3, .int l3)]) rfl (pz_dc dX9_order 28 rfl) (by decide) rfl ?_
    refine pz_iconst (pc' := 50) (v := 0) rfl (pz_dc dX9_order 29 rfl) ki_0 ?_
    refine pz_istore (pc' := 52) (lv' := [(5, .int 0), (4, .int (x6 &&& (l2 ^^^ ((-1 : Int32))))), (0, .ref l0), (1, .int l1), (2, .int l2), (3, .int l3)]) rfl (pz_dc dX9_order 30 rfl) (by decide) rfl ?_
    refine pz_lv (lv' := [(0, .ref l0), (1, .int l1), (2, .int l2), (3, .int l3), (4, .int (x6 &&& (l2 ^^^ ((-1 : Int32))))), (5, .int 0)]) [2, 3, 4, 5, 1, 0] rfl ?_
    exact hb
set_option maxRecDepth 20000 in
set_option maxHeartbeats 4000000 in
theorem wX9_order_52 {Ex : State → Nat → Prop} {Q : Option Value → pz_H → Prop} {d bc bs : Nat} {l0 : Nat} {l1 : Int32} {l2 : Int32} {l3 : Int32} {l4 : Int32} {l5 : Int32}  {h : pz_H} (hD : 4 ≤ d) (hb : pz_gR h l0 9 2 (fun (a1 : Nat) => pz_is h a1 1 ∧ (pz_gI h a1 1 4 (fun (x2 : Int32) => (x2 ≤ l5 → pz_gR h l0 9 2 (fun (a3 : Nat) => pz_gR h l0 9 5 (fun (a4 : Nat) => pz_gR h l0 9 12 (fun (a5 : Nat) => pz_is h a3 1 ∧ (pz_kv mX1_passDay 3 0 0 (.ref a3 :: [.ref a4, .ref a5]) h (fun (h6 : pz_H) => pz_V mX9_order Ex Q d bc bs 27 [(0, .ref l0), (1, .int l1), (2, .int (l2 ||| l4)), (3, .int (l3 + (1 : Int32)))] [] h6)))))) ∧ (¬ x2 ≤ l5 → ((eX9_isIn l4 l5) = 0 → pz_V mX9_order Ex Q d bc bs 52 [(0, .ref l0), (1, .int l1), (2, .int l2), (3, .int l3), (4, .int l4), (5, .int (l5 + (1 : Int32)))] [] h) ∧ (¬ (eX9_isIn l4 l5) = 0 → pz_gR h l0 9 1 (fun (a7 : Nat) => pz_is h a7 4 ∧ (pz_kv mX4_add 0 0 0 (.ref a7 :: [.long l5.toInt64]) h (fun (h8 : pz_H) => pz_V mX9_order Ex Q d bc bs 52 [(0, .ref l0), (1, .int l1), (2, .int l2), (3, .int l3), (4, .int l4), (5, .int (l5 + (1 : Int32)))] [] h8))))))))) : pz_V mX9_order Ex Q d bc bs 52 [(0, .ref l0), (1, .int l1), (2, .int l2), (3, .int l3), (4, .int l4), (5, .int l5)] [] h := by
  refine pz_iload (pc' := 54) (x := l5) 5 rfl (pz_dc dX9_order 31 rfl) rfl ?_
  refine pz_aload_n (pc' := 55) (x := l0) 0 rfl (pz_dc dX9_order 32 rfl) rfl ?_
  refine pz_getR (M := mX9_order) hb fX9_26 (pc' := 58) rfl (pz_dc dX9_order 33 rfl) (fun a1 hb => ?_)
  obtain ⟨⟨fs9, hf10⟩, hb⟩ := hb
  refine pz_callV (M := mX9_order) (N := mX1_size) (d' := 0) (bc1 := 0) (bs1 := 0) (bc2 := bc) (bs2 := bs) (pc' := 61) [] vX9_208 rfl (pz_dc dX9_order 34 rfl) rfl (Nat.le_of_ble_eq_true rfl) (Nat.le_of_ble_eq_true rfl) rfl (by omega) (by omega) (by omega) hf10 ?_
  refine pz_aload_n (pc' := 1) (x := a1) 0 rfl (pz_dc dX1_size 0 rfl) rfl ?_
  refine pz_getI (M := mX1_size) hb fX1_24 (pc' := 4) rfl (pz_dc dX1_size 1 rfl) (fun x2 hb => ?_)
  refine pz_iret (pz_dc dX1_size 2 rfl) rfl ?_
  show pz_V mX9_order _ _ _ _ _ 61 [(0, .ref l0), (1, .int l1), (2, .int l2), (3, .int l3), (4, .int l4), (5, .int l5)] [.int x2, .int l5] h
  refine pz_icmp_ge (pc' := 64) (tgt := 90) rfl (pz_dc dX9_order 35 rfl) (by decide) (fun hc => ?_) (fun hc => ?_)
  · replace hb := hb.1 hc
    refine pz_iload_n (pc' := 91) (x := l2) 2 rfl (pz_dc dX9_order 47 rfl) rfl ?_
    refine pz_iload (pc' := 93) (x := l4) 4 rfl (pz_dc dX9_order 48 rfl) rfl ?_
    refine pz_ior (pc' := 94) rfl (pz_dc dX9_order 49 rfl) ?_
    refine pz_istore_n (pc' := 95) (lv' := [(2, .int (l2 ||| l4)), (0, .ref l0), (1, .int l1), (3, .int l3), (4, .int l4), (5, .int l5)]) rfl (pz_dc dX9_order 50 rfl) (by decide) rfl ?_
    refine pz_aload_n (pc' := 96) (x := l0) 1 rfl (pz_dc dX9_order 51 rfl) rfl ?_
    refine pz_getR (M := mX9_order) hb fX9_26 (pc' := 99) rfl (pz_dc dX9_order 52 rfl) (fun a3 hb => ?_)
    refine pz_aload_n (pc' := 100) (x := l0) 1 rfl (pz_dc dX9_order 53 rfl) rfl ?_
    refine pz_getR (M := mX9_order) hb fX9_40 (pc' := 103) rfl (pz_dc dX9_order 54 rfl) (fun a4 hb => ?_)
    refine pz_aload_n (pc' := 104) (x := l0) 1 rfl (pz_dc dX9_order 55 rfl) rfl ?_
    refine pz_getR (M := mX9_order) hb fX9_78 (pc' := 107) rfl (pz_dc dX9_order 56 rfl) (fun a5 hb => ?_)
    refine pz_cVv (M := mX9_order) (N := mX1_passDay) (d' := 3) (bc1 := 0) (bs1 := 0) (bc2 := bc) (bs2 := bs) (pc' := 110) [.ref a4, .ref a5] hb vX9_214 rfl (pz_dc dX9_order 57 rfl) rfl (Nat.le_of_ble_eq_true rfl) (Nat.le_of_ble_eq_true rfl) rfl (by omega) (by omega) (by omega) (fun h6 hb => ?_)
    refine pz_iinc (pc' := 113) (x := l3) (v := l3 + (1 : Int32)) (lv' := [(3, .int (l3 + (1 : Int32))), (2, .int (l2 ||| l4)), (0, .ref l0), (1, .int l1), (4, .int l4), (5, .int l5)]) 3 rfl (pz_dc dX9_order 58 rfl) rfl rfl (by decide) rfl ?_
    refine pz_goto (pc' := 27) (pz_dc dX9_order 59 rfl) (by decide) ?_
    refine pz_lv (lv' := [(0, .ref l0), (1, .int l1), (2, .int (l2 ||| l4)), (3, .int (l3 + (1 : Int32)))]) [2, 3, 1, 0] rfl ?_
    exact hb
  · replace hb := hb.2 hc
    refine pz_iload (pc' := 66) (x := l4) 4 rfl (pz_dc dX9_order 36 rfl) rfl ?_
    refine pz_iload (pc' := 68) (x := l5) 5 rfl (pz_dc dX9_order 37 rfl) rfl ?_
    refine pz_callS (M := mX9_order) (N := mX9_isIn) (d' := 0) (bc1 := 0) (bs1 := 0) (bc2 := bc) (bs2 := bs) (pc' := 71) [.int l4, .int l5] sX9_228 rfl (pz_dc dX9_order 38 rfl) rfl (Nat.le_of_ble_eq_true rfl) (Nat.le_of_ble_eq_true rfl) rfl (by omega) (by omega) (by omega) ?_
    refine cX9_isIn ?_
    show pz_V mX9_order _ _ _ _ _ 71 [(0, .ref l0), (1, .int l1), (2, .int l2), (3, .int l3), (4, .int l4), (5, .int l5)] [.int (eX9_isIn l4 l5)] h
    refine pz_if_eq (pc' := 74) (tgt := 84) rfl (pz_dc dX9_order 39 rfl) (by decide) (fun hc => ?_) (fun hc => ?_)
    · replace hb := hb.1 hc
      refine pz_iinc (pc' := 87) (x := l5) (v := l5 + (1 : Int32)) (lv' := [(5, .int (l5 + (1 : Int32))), (0, .ref l0), (1, .int l1), (2, .int l2), (3, .int l3), (4, .int l4)]) 5 rfl (pz_dc dX9_order 45 rfl) rfl rfl (by decide) rfl ?_
      refine pz_goto (pc' := 52) (pz_dc dX9_order 46 rfl) (by decide) ?_
      refine pz_lv (lv' := [(0, .ref l0), (1, .int l1), (2, .int l2), (3, .int l3), (4, .int l4), (5, .int (l5 + (1 : Int32)))]) [1, 2, 3, 4, 5, 0] rfl ?_
      exact hb
    · replace hb := hb.2 hc
      refine pz_aload_n (pc' := 75) (x := l0) 0 rfl (pz_dc dX9_order 40 rfl) rfl ?_
      refine pz_getR (M := mX9_order) hb fX9_19 (pc' := 78) rfl (pz_dc dX9_order 41 rfl) (fun a7 hb => ?_)
      refine pz_iload (pc' := 80) (x := l5) 5 rfl (pz_dc dX9_order 42 rfl) rfl ?_
      refine pz_i2l (pc' := 81) rfl (pz_dc dX9_order 43 rfl) ?_
      refine pz_cVv (M := mX9_order) (N := mX4_add) (d' := 0) (bc1 := 0) (bs1 := 0) (bc2 := bc) (bs2 := bs) (pc' := 84) [.long l5.toInt64] hb vX9_209 rfl (pz_dc dX9_order 44 rfl) rfl (Nat.le_of_ble_eq_true rfl) (Nat.le_of_ble_eq_true rfl) rfl (by omega) (by omega) (by omega) (fun h8 hb => ?_)
      refine pz_iinc (pc' := 87) (x := l5) (v := l5 + (1 : Int32)) (lv' := [(5, .int (l5 + (1 : Int32))), (0, .ref l0), (1, .int l1), (2, .int l2), (3, .int l3), (4, .int l4)]) 5 rfl (pz_dc dX9_order 45 rfl) rfl rfl (by decide) rfl ?_
      refine pz_goto (pc' := 52) (pz_dc dX9_order 46 rfl) (by decide) ?_
      refine pz_lv (lv' := [(0, .ref l0), (1, .int l1), (2, .int l2), (3, .int l3), (4, .int l4), (5, .int (l5 + (1 : Int32)))]) [1, 2, 3, 4, 5, 0] rfl ?_
      exact hb
set_option maxRecDepth 20000 in
set_option maxHeartbeats 4000000 in
theorem wX9_meets_0 {Ex : State → Nat → Prop} {Q : Option Value → pz_H → Prop} {d bc bs : Nat} {l0 : Nat} {l1 : Int32} {l2 : Int32}  {h : pz_H} (hD : 4 ≤ d) (hb : pz_gR h l0 9 2 (fun (a1 : Nat) => pz_is h a1 1 ∧ (pz_gI h a1 1 4 (fun (x2 : Int32) => ((eX1_has l1 x2) = 0 → Q (some (.int ((-1)))) h) ∧ (¬ (eX1_has l1 x2) = 0 → pz_gR h l0 9 2 (fun (a6 : Nat) => pz_is h a6 1 ∧ (pz_gI h a6 1 4 (fun (x7 : Int32) => ((eX1_has l2 x7) = 0 → Q (some (.int ((-1)))) h) ∧ (¬ (eX1_has l2 x7) = 0 → (¬ l1 = l2 → pz_is h l0 9 ∧ (pz_kv mX9_startTrial 2 0 0 (.ref l0 :: []) h (fun (h11 : pz_H) => pz_V mX9_meets Ex Q d bc bs 35 [(0, .ref l0), (1, .int l1), (2, .int l2), (3, .int 0)] [] h11))) ∧ (l1 = l2 → Q (some (.int ((-1)))) h)))))))))) : pz_V mX9_meets Ex Q d bc bs 0 [(0, .ref l0), (1, .int l1), (2, .int l2)] [] h := by
  refine pz_aload_n (pc' := 1) (x := l0) 0 rfl (pz_dc dX9_meets 0 rfl) rfl ?_
  refine pz_getR (M := mX9_meets) hb fX9_26 (pc' := 4) rfl (pz_dc dX9_meets 1 rfl) (fun a1 hb => ?_)
  refine pz_iload_n (pc' := 5) (x := l1) 1 rfl (pz_dc dX9_meets 2 rfl) rfl ?_
  obtain ⟨⟨fs14, hf15⟩, hb⟩ := hb
  obtain ⟨fs3, x2, g4, g5, hb⟩ := hb
  refine pz_callV (M := mX9_meets) (N := mX1_has) (d' := 0) (bc1 := 0) (bs1 := 0) (bc2 := bc) (bs2 := bs) (pc' := 8) [.int l1] vX9_115 rfl (pz_dc dX9_meets 3 rfl) rfl (Nat.le_of_ble_eq_true rfl) (Nat.le_of_ble_eq_true rfl) rfl (by omega) (by omega) (by omega) hf15 ?_
  refine cX1_has ⟨fs3, x2, g4, g5, ?_⟩
  show pz_V mX9_meets _ _ _ _ _ 8 [(0, .ref l0), (1, .int l1), (2, .int l2)] [.int (eX1_has l1 x2)] h
  refine pz_if_eq (pc' := 11) (tgt := 27) rfl (pz_dc dX9_meets 4 rfl) (by decide) (fun hc => ?_) (fun hc => ?_)
  · replace hb := hb.1 hc
    refine pz_iconst (pc' := 28) (v := (-1)) rfl (pz_dc dX9_meets 13 rfl) ki_m1 ?_
    exact pz_iret (pz_dc dX9_meets 14 rfl) rfl hb
  · replace hb := hb.2 hc
    refine pz_aload_n (pc' := 12) (x := l0) 0 rfl (pz_dc dX9_meets 5 rfl) rfl ?_
    refine pz_getR (M := mX9_meets) hb fX9_26 (pc' := 15) rfl (pz_dc dX9_meets 6 rfl) (fun a6 hb => ?_)
    refine pz_iload_n (pc' := 16) (x := l2) 2 rfl (pz_dc dX9_meets 7 rfl) rfl ?_
    obtain ⟨⟨fs12, hf13⟩, hb⟩ := hb
    obtain ⟨fs8, x7, g9, g10, hb⟩ := hb
    refine pz_callV (M := mX9_meets) (N := mX1_has) (d' := 0) (bc1 := 0) (bs1 := 0) (bc2 := bc) (bs2 := bs) (pc' := 19) [.int l2] vX9_115 rfl (pz_dc dX9_meets 8 rfl) rfl (Nat.le_of_ble_eq_true rfl) (Nat.le_of_ble_eq_true rfl) rfl (by omega) (by omega) (by omega) hf13 ?_
    refine cX1_has ⟨fs8, x7, g9, g10, ?_⟩
    show pz_V mX9_meets _ _ _ _ _ 19 [(0, .ref l0), (1, .int l1), (2, .int l2)] [.int (eX1_has l2 x7)] h
    refine pz_if_eq (pc' := 22) (tgt := 27) rfl (pz_dc dX9_meets 9 rfl) (by decide) (fun hc => ?_) (fun hc => ?_)
    · replace hb := hb.1 hc
      refine pz_iconst (pc' := 28) (v := (-1)) rfl (pz_dc dX9_meets 13 rfl) ki_m1 ?_
      exact pz_iret (pz_dc dX9_meets 14 rfl) rfl hb
    · replace hb := hb.2 hc
      refine pz_iload_n (pc' := 23) (x := l1) 1 rfl (pz_dc dX9_meets 10 rfl) rfl ?_
      refine pz_iload_n (pc' := 24) (x := l2) 2 rfl (pz_dc dX9_meets 11 rfl) rfl ?_
      refine pz_icmp_ne (pc' := 27) (tgt := 29) rfl (pz_dc dX9_meets 12 rfl) (by decide) (fun hc => ?_) (fun hc => ?_)
      · replace hb := hb.1 hc
        refine pz_aload_n (pc' := 30) (x := l0) 0 rfl (pz_dc dX9_meets 15 rfl) rfl ?_
        refine pz_cVv (M := mX9_meets) (N := mX9_startTrial) (d' := 2) (bc1 := 0) (bs1 := 0) (bc2 := bc) (bs2 := bs) (pc' := 33) [] hb vX9_200 rfl (pz_dc dX9_meets 16 rfl) rfl (Nat.le_of_ble_eq_true rfl) (Nat.le_of_ble_eq_true rfl) rfl (by omega) (by omega) (by omega) (fun h11 hb => ?_)
        refine pz_iconst (pc' := 34) (v := 0) rfl (pz_dc dX9_meets 17 rfl) ki_0 ?_
        refine pz_istore_n (pc' := 35) (lv' := [(3, .int 0), (0, .ref l0), (1, .int l1), (2, .int l2)]) rfl (pz_dc dX9_meets 18 rfl) (by decide) rfl ?_
        refine pz_lv (lv' := [(0, .ref l0), (1, .int l1), (2, .int l2), (3, .int 0)]) [1, 2, 3, 0] rfl ?_
        exact hb
      · replace hb := hb.2 hc
        refine pz_iconst (pc' := 28) (v := (-1)) rfl (pz_dc dX9_meets 13 rfl) ki_m1 ?_
        exact pz_iret (pz_dc dX9_meets 14 rfl) rfl hb
set_option maxRecDepth 20000 in
set_option maxHeartbeats 4000000 in
theorem wX9_meets_35 {Ex : State → Nat → Prop} {Q : Option Value → pz_H → Prop} {d bc bs : Nat} {l0 : Nat} {l1 : Int32} {l2 : Int32} {l3 : Int32}  {h : pz_H} (hD : 4 ≤ d) (hb : (((99 : Int32)) < l3 → Q (some (.int ((-2)))) h) ∧ (¬ ((99 : Int32)) < l3 → pz_gR h l0 9 5 (fun (a1 : Nat) => pz_gR h a1 8 0 (fun (a2 : Nat) => pz_rI h a2 l1 (fun (x3 : Int32) => pz_gR h l0 9 5 (fun (a4 : Nat) => pz_gR h a4 8 0 (fun (a5 : Nat) => pz_rI h a5 l2 (fun (x6 : Int32) => (¬ x3 = x6 → pz_gR h l0 9 2 (fun (a7 : Nat) => pz_gR h l0 9 5 (fun (a8 : Nat) => pz_gR h l0 9 12 (fun (a9 : Nat) => pz_is h a7 1 ∧ (pz_kv mX1_passDay 3 0 0 (.ref a7 :: [.ref a8, .ref a9]) h (fun (h10 : pz_H) => pz_V mX9_meets Ex Q d bc bs 35 [(0, .ref l0), (1, .int l1), (2, .int l2), (3, .int (l3 + (1 : Int32)))] [] h10)))))) ∧ (x3 = x6 → pz_gR h l0 9 1 (fun (a11 : Nat) => pz_gR h l0 9 5 (fun (a12 : Nat) => pz_gR h a12 8 0 (fun (a13 : Nat) => pz_rI h a13 l1 (fun (x14 : Int32) => pz_is h a11 4 ∧ (pz_kv mX4_tell 1 0 0 (.ref a11 :: [.long x14.toInt64]) h (fun (h15 : pz_H) => Q (some (.int l3)) h15))))))))))))))) : pz_V mX9_meets Ex Q d bc bs 35 [(0, .ref l0), (1, .int l1), (2, .int l2), (3, .int l3)] [] h := by
  refine pz_iload_n (pc' := 36) (x := l3) 3 rfl (pz_dc dX9_meets 19 rfl) rfl ?_
  refine pz_bipush (pc' := 38) (v := 99) rfl (pz_dc dX9_meets 20 rfl) kb_99 ?_
  refine pz_icmp_gt (pc' := 41) (tgt := 102) rfl (pz_dc dX9_meets 21 rfl) (by decide) (fun hc => ?_) (fun hc => ?_)
  · replace hb := hb.1 hc
    refine pz_bipush (pc' := 104) (v := (-2)) rfl (pz_dc dX9_meets 53 rfl) kb_m2 ?_
    exact pz_iret (pz_dc dX9_meets 54 rfl) rfl hb
  · replace hb := hb.2 hc
    refine pz_aload_n (pc' := 42) (x := l0) 0 rfl (pz_dc dX9_meets 22 rfl) rfl ?_
    refine pz_getR (M := mX9_meets) hb fX9_40 (pc' := 45) rfl (pz_dc dX9_meets 23 rfl) (fun a1 hb => ?_)
    refine pz_getR (M := mX9_meets) hb fX9_136 (pc' := 48) rfl (pz_dc dX9_meets 24 rfl) (fun a2 hb => ?_)
    refine pz_iload_n (pc' := 49) (x := l1) 1 rfl (pz_dc dX9_meets 25 rfl) rfl ?_
    refine pz_ldI hb (pc' := 50) rfl (pz_dc dX9_meets 26 rfl) (fun x3 hb => ?_)
    refine pz_aload_n (pc' := 51) (x := l0) 0 rfl (pz_dc dX9_meets 27 rfl) rfl ?_
    refine pz_getR (M := mX9_meets) hb fX9_40 (pc' := 54) rfl (pz_dc dX9_meets 28 rfl) (fun a4 hb => ?_)
    refine pz_getR (M := mX9_meets) hb fX9_136 (pc' := 57) rfl (pz_dc dX9_meets 29 rfl) (fun a5 hb => ?_)
    refine pz_iload_n (pc' := 58) (x := l2) 2 rfl (pz_dc dX9_meets 30 rfl) rfl ?_
    refine pz_ldI hb (pc' := 59) rfl (pz_dc dX9_meets 31 rfl) (fun x6 hb => ?_)
    refine pz_icmp_ne (pc' := 62) (tgt := 81) rfl (pz_dc dX9_meets 32 rfl) (by decide) (fun hc => ?_) (fun hc => ?_)
    · replace hb := hb.1 hc
      refine pz_aload_n (pc' := 82) (x := l0) 0 rfl (pz_dc dX9_meets 44 rfl) rfl ?_
      refine pz_getR (M := mX9_meets) hb fX9_26 (pc' := 85) rfl (pz_dc dX9_meets 45 rfl) (fun a7 hb => ?_)
      refine pz_aload_n (pc' := 86) (x := l0) 0 rfl (pz_dc dX9_meets 46 rfl) rfl ?_
      refine pz_getR (M := mX9_meets) hb fX9_40 (pc' := 89) rfl (pz_dc dX9_meets 47 rfl) (fun a8 hb => ?_)
      refine pz_aload_n (pc' := 90) (x := l0) 0 rfl (pz_dc dX9_meets 48 rfl) rfl ?_
      refine pz_getR (M := mX9_meets) hb fX9_78 (pc' := 93) rfl (pz_dc dX9_meets 49 rfl) (fun a9 hb => ?_)
      refine pz_cVv (M := mX9_meets) (N := mX1_passDay) (d' := 3) (bc1 := 0) (bs1 := 0) (bc2 := bc) (bs2 := bs) (pc' := 96) [.ref a8, .ref a9] hb vX9_214 rfl (pz_dc dX9_meets 50 rfl) rfl (Nat.le_of_ble_eq_true rfl) (Nat.le_of_ble_eq_true rfl) rfl (by omega) (by omega) (by omega) (fun h10 hb => ?_)
      refine pz_iinc (pc' := 99) (x := l3) (v := l3 + (1 : Int32)) (lv' := [(3, .int (l3 + (1 : Int32))), (0, .ref l0), (1, .int l1), (2, .int l2)]) 3 rfl (pz_dc dX9_meets 51 rfl) rfl rfl (by decide) rfl ?_
      refine pz_goto (pc' := 35) (pz_dc dX9_meets 52 rfl) (by decide) ?_
      refine pz_lv (lv' := [(0, .ref l0), (1, .int l1), (2, .int l2), (3, .int (l3 + (1 : Int32)))]) [1, 2, 3, 0] rfl ?_
      exact hb
    · replace hb := hb.2 hc
      refine pz_aload_n (pc' := 63) (x := l0) 0 rfl (pz_dc dX9_meets 33 rfl) rfl ?_
      refine pz_getR (M := mX9_meets) hb fX9_19 (pc' := 66) rfl (pz_dc dX9_meets 34 rfl) (fun a11 hb => ?_)
      refine pz_aload_n (pc' := 67) (x := l0) 0 rfl (pz_dc dX9_meets 35 rfl) rfl ?_
      refine pz_getR (M := mX9_meets) hb fX9_40 (pc' := 70) rfl (pz_dc dX9_meets 36 rfl) (fun a12 hb => ?_)
      refine pz_getR (M := mX9_meets) hb fX9_136 (pc' := 73) rfl (pz_dc dX9_meets 37 rfl) (fun a13 hb => ?_)
      refine pz_iload_n (pc' := 74) (x := l1) 1 rfl (pz_dc dX9_meets 38 rfl) rfl ?_
      refine pz_ldI hb (pc' := 75) rfl (pz_dc dX9_meets 39 rfl) (fun x14 hb => ?_)
      refine pz_i2l (pc' := 76) rfl (pz_dc dX9_meets 40 rfl) ?_
      refine pz_cVv (M := mX9_meets) (N := mX4_tell) (d' := 1) (bc1 := 0) (bs1 := 0) (bc2 := bc) (bs2 := bs) (pc' := 79) [.long x14.toInt64] hb vX9_212 rfl (pz_dc dX9_meets 41 rfl) rfl (Nat.le_of_ble_eq_true rfl) (Nat.le_of_ble_eq_true rfl) rfl (by omega) (by omega) (by omega) (fun h15 hb => ?_)
      refine pz_iload_n (pc' := 80) (x := l3) 3 rfl (pz_dc dX9_meets 42 rfl) rfl ?_
      exact pz_iret (pz_dc dX9_meets 43 rfl) rfl hb
set_option maxRecDepth 20000 in
set_option maxHeartbeats 4000000 in
theorem wX9_richest_0 {Ex : State → Nat → Prop} {Q : Option Value → pz_H → Prop} {d bc bs : Nat} {l0 : Nat} {l1 : Int32}  {h : pz_H} (hD : 5 ≤ d) (hb : (¬ (eX9_isWithin l1 ((0 : Int32)) ((99 : Int32))) = 0 → pz_is h l0 9 ∧ (pz_kv mX9_startTrial 2 0 0 (.ref l0 :: []) h (fun (h1 : pz_H) => pz_gR h1 l0 9 2 (fun (a2 : Nat) => pz_gR h1 l0 9 5 (fun (a3 : Nat) => pz_gR h1 l0 9 12 (fun (a4 : Nat) => pz_is h1 a2 1 ∧ (pz_kv mX1_passDays 4 0 0 (.ref a2 :: [.ref a3, .ref a4, .int l1]) h1 (fun (h5 : pz_H) => pz_gR h5 l0 9 2 (fun (a6 : Nat) => pz_gR h5 l0 9 5 (fun (a7 : Nat) => pz_is h5 a6 1 ∧ (pz_ki mX1_richestKing 2 0 0 (.ref a6 :: [.ref a7]) h5 (fun (x9 : Int32) (h8 : pz_H) => pz_gR h8 l0 9 2 (fun (a10 : Nat) => pz_gR h8 l0 9 5 (fun (a11 : Nat) => pz_gR h8 l0 9 2 (fun (a12 : Nat) => pz_gR h8 l0 9 5 (fun (a13 : Nat) => pz_is h8 a12 1 ∧ (pz_ki mX1_heldBy 0 0 0 (.ref a12 :: [.ref a13, .int x9]) h8 (fun (x15 : Int32) (h14 : pz_H) => pz_is h14 a10 1 ∧ (pz_ki mX1_totalOf 1 0 0 (.ref a10 :: [.ref a11, .int x15]) h14 (fun (x17 : Int32) (h16 : pz_H) => pz_gR h16 l0 9 1 (fun (a18 : Nat) => pz_gR h16 l0 9 2 (fun (a19 : Nat) => pz_gR h16 l0 9 5 (fun (a20 : Nat) => pz_is h16 a19 1 ∧ (pz_ki mX1_total 2 0 0 (.ref a19 :: [.ref a20]) h16 (fun (x22 : Int32) (h21 : pz_H) => pz_is h21 a18 4 ∧ (pz_kv mX4_tell_ 2 0 0 (.ref a18 :: [.long x17.toInt64, .long ((x22 - x17).toInt64)]) h21 (fun (h23 : pz_H) => Q (some (.int x9)) h23))))))))))))))))))))))))))) ∧ ((eX9_isWithin l1 ((0 : Int32)) ((99 : Int32))) = 0 → Q (some (.int ((-1)))) h)) : pz_V mX9_richest Ex Q d bc bs 0 [(0, .ref l0), (1, .int l1)] [] h := by
  refine pz_iload_n (pc' := 1) (x := l1) 1 rfl (pz_dc dX9_richest 0 rfl) rfl ?_
  refine pz_iconst (pc' := 2) (v := 0) rfl (pz_dc dX9_richest 1 rfl) ki_0 ?_
  refine pz_bipush (pc' := 4) (v := 99) rfl (pz_dc dX9_richest 2 rfl) kb_99 ?_
  refine pz_callS (M := mX9_richest) (N := mX9_isWithin) (d' := 0) (bc1 := 0) (bs1 := 0) (bc2 := bc) (bs2 := bs) (pc' := 7) [.int l1, .int 0, .int 99] sX9_196 rfl (pz_dc dX9_richest 3 rfl) rfl (Nat.le_of_ble_eq_true rfl) (Nat.le_of_ble_eq_true rfl) rfl (by omega) (by omega) (by omega) ?_
  refine cX9_isWithin ?_
  show pz_V mX9_richest _ _ _ _ _ 7 [(0, .ref l0), (1, .int l1)] [.int (eX9_isWithin l1 ((0 : Int32)) ((99 : Int32)))] h
  refine pz_if_ne (pc' := 10) (tgt := 12) rfl (pz_dc dX9_richest 4 rfl) (by decide) (fun hc => ?_) (fun hc => ?_)
  · replace hb := hb.1 hc
    refine pz_aload_n (pc' := 13) (x := l0) 0 rfl (pz_dc dX9_richest 7 rfl) rfl ?_
    refine pz_cVv (M := mX9_richest) (N := mX9_startTrial) (d' := 2) (bc1 := 0) (bs1 := 0) (bc2 := bc) (bs2 := bs) (pc' := 16) [] hb vX9_200 rfl (pz_dc dX9_richest 8 rfl) rfl (Nat.le_of_ble_eq_true rfl) (Nat.le_of_ble_eq_true rfl) rfl (by omega) (by omega) (by omega) (fun h1 hb => ?_)
    refine pz_aload_n (pc' := 17) (x := l0) 0 rfl (pz_dc dX9_richest 9 rfl) rfl ?_
    refine pz_getR (M := mX9_richest) hb fX9_26 (pc' := 20) rfl (pz_dc dX9_richest 10 rfl) (fun a2 hb => ?_)
    refine pz_aload_n (pc' := 21) (x := l0) 0 rfl (pz_dc dX9_richest 11 rfl) rfl ?_
    refine pz_getR (M := mX9_richest) hb fX9_40 (pc' := 24) rfl (pz_dc dX9_richest 12 rfl) (fun a3 hb => ?_)
    refine pz_aload_n (pc' := 25) (x := l0) 0 rfl (pz_dc dX9_richest 13 rfl) rfl ?_
    refine pz_getR (M := mX9_richest) hb fX9_78 (pc' := 28) rfl (pz_dc dX9_richest 14 rfl) (fun a4 hb => ?_)
    refine pz_iload_n (pc' := 29) (x := l1) 1 rfl (pz_dc dX9_richest 15 rfl) rfl ?_
    refine pz_cVv (M := mX9_richest) (N := mX1_passDays) (d' := 4) (bc1 := 0) (bs1 := 0) (bc2 := bc) (bs2 := bs) (pc' := 32) [.ref a3, .ref a4, .int l1] hb vX9_203 rfl (pz_dc dX9_richest 16 rfl) rfl (Nat.le_of_ble_eq_true rfl) (Nat.le_of_ble_eq_true rfl) rfl (by omega) (by omega) (by omega) (fun h5 hb => ?_)
    refine pz_aload_n (pc' := 33) (x := l0) 0 rfl (pz_dc dX9_richest 17 rfl) rfl ?_
    refine pz_getR (M := mX9_richest) hb fX9_26 (pc' := 36) rfl (pz_dc dX9_richest 18 rfl) (fun a6 hb => ?_)
    refine pz_aload_n (pc' := 37) (x := l0) 0 rfl (pz_dc dX9_richest 19 rfl) rfl ?_
    refine pz_getR (M := mX9_richest) hb fX9_40 (pc' := 40) rfl (pz_dc dX9_richest 20 rfl) (fun a7 hb => ?_)
    refine pz_cVi (M := mX9_richest) (N := mX1_richestKing) (d' := 2) (bc1 := 0) (bs1 := 0) (bc2 := bc) (bs2 := bs) (pc' := 43) [.ref a7] hb vX9_243 rfl (pz_dc dX9_richest 21 rfl) rfl (Nat.le_of_ble_eq_true rfl) (Nat.le_of_ble_eq_true rfl) rfl (by omega) (by omega) (by omega) (fun x9 h8 hb => ?_)
    refine pz_istore_n (pc' := 44) (lv' := [(2, .int x9), (0, .ref l0), (1, .int l1)]) rfl (pz_dc dX9_richest 22 rfl) (by decide) rfl ?_
    refine pz_aload_n (pc' := 45) (x := l0) 1 rfl (pz_dc dX9_richest 23 rfl) rfl ?_
    refine pz_getR (M := mX9_richest) hb fX9_26 (pc' := 48) rfl (pz_dc dX9_richest 24 rfl) (fun a10 hb => ?_)
    refine pz_aload_n (pc' := 49) (x := l0) 1 rfl (pz_dc dX9_richest 25 rfl) rfl ?_
    refine pz_getR (M := mX9_richest) hb fX9_40 (pc' := 52) rfl (pz_dc dX9_richest 26 rfl) (fun a11 hb => ?_)
    refine pz_aload_n (pc' := 53) (x := l0) 1 rfl (pz_dc dX9_richest 27 rfl) rfl ?_
    refine pz_getR (M := mX9_richest) hb fX9_26 (pc' := 56) rfl (pz_dc dX9_richest 28 rfl) (fun a12 hb => ?_)
    refine pz_aload_n (pc' := 57) (x := l0) 1 rfl (pz_dc dX9_richest 29 rfl) rfl ?_
    refine pz_getR (M := mX9_richest) hb fX9_40 (pc' := 60) rfl (pz_dc dX9_richest 30 rfl) (fun a13 hb => ?_)
    refine pz_iload_n (pc' := 61) (x := x9) 0 rfl (pz_dc dX9_richest 31 rfl) rfl ?_
    refine pz_cVi (M := mX9_richest) (N := mX1_heldBy) (d' := 0) (bc1 := 0) (bs1 := 0) (bc2 := bc) (bs2 := bs) (pc' := 64) [.ref a13, .int x9] hb vX9_224 rfl (pz_dc dX9_richest 32 rfl) rfl (Nat.le_of_ble_eq_true rfl) (Nat.le_of_ble_eq_true rfl) rfl (by omega) (by omega) (by omega) (fun x15 h14 hb => ?_)
    refine pz_cVi (M := mX9_richest) (N := mX1_totalOf) (d' := 1) (bc1 := 0) (bs1 := 0) (bc2 := bc) (bs2 := bs) (pc' := 67) [.ref a11, .int x15] hb vX9_232 rfl (pz_dc dX9_richest 33 rfl) rfl (Nat.le_of_ble_eq_true rfl) (Nat.le_of_ble_eq_true rfl) rfl (by omega) (by omega) (by omega) (fun x17 h16 hb => ?_)
    refine pz_istore_n (pc' := 68) (lv' := [(3, .int x17), (2, .int x9), (0, .ref l0), (1, .int l1)]) rfl (pz_dc dX9_richest 34 rfl) (by decide) rfl ?_
    refine pz_aload_n (pc' := 69) (x := l0) 2 rfl (pz_dc dX9_richest 35 rfl) rfl ?_
    refine pz_getR (M := mX9_richest) hb fX9_19 (pc' := 72) rfl (pz_dc dX9_richest 36 rfl) (fun a18 hb => ?_)
    refine pz_iload_n (pc' := 73) (x := x17) 0 rfl (pz_dc dX9_richest 37 rfl) rfl ?_
    refine pz_i2l (pc' := 74) rfl (pz_dc dX9_richest 38 rfl) ?_
    refine pz_aload_n (pc' := 75) (x := l0) 2 rfl (pz_dc dX9_richest 39 rfl) rfl ?_
    refine pz_getR (M := mX9_richest) hb fX9_26 (pc' := 78) rfl (pz_dc dX9_richest 40 rfl) (fun a19 hb => ?_)
    refine pz_aload_n (pc' := 79) (x := l0) 2 rfl (pz_dc dX9_richest 41 rfl) rfl ?_
    refine pz_getR (M := mX9_richest) hb fX9_40 (pc' := 82) rfl (pz_dc dX9_richest 42 rfl) (fun a20 hb => ?_)
    refine pz_cVi (M := mX9_richest) (N := mX1_total) (d' := 2) (bc1 := 0) (bs1 := 0) (bc2 := bc) (bs2 := bs) (pc' := 85) [.ref a20] hb vX9_153 rfl (pz_dc dX9_richest 43 rfl) rfl (Nat.le_of_ble_eq_true rfl) (Nat.le_of_ble_eq_true rfl) rfl (by omega) (by omega) (by omega) (fun x22 h21 hb => ?_)
    refine pz_iload_n (pc' := 86) (x := x17) 0 rfl (pz_dc dX9_richest 44 rfl) rfl ?_
    refine pz_isub (pc' := 87) rfl (pz_dc dX9_richest 45 rfl) ?_
    refine pz_i2l (pc' := 88) rfl (pz_dc dX9_richest 46 rfl) ?_
    refine pz_cVv (M := mX9_richest) (N := mX4_tell_) (d' := 2) (bc1 := 0) (bs1 := 0) (bc2 := bc) (bs2 := bs) (pc' := 91) [.long x17.toInt64, .long ((x22 - x17).toInt64)] hb vX9_167 rfl (pz_dc dX9_richest 47 rfl) rfl (Nat.le_of_ble_eq_true rfl) (Nat.le_of_ble_eq_true rfl) rfl (by omega) (by omega) (by omega) (fun h23 hb => ?_)
    refine pz_iload_n (pc' := 92) (x := x9) 1 rfl (pz_dc dX9_richest 48 rfl) rfl ?_
    exact pz_iret (pz_dc dX9_richest 49 rfl) rfl hb
  · replace hb := hb.2 hc
    refine pz_iconst (pc' := 11) (v := (-1)) rfl (pz_dc dX9_richest 5 rfl) ki_m1 ?_
    exact pz_iret (pz_dc dX9_richest 6 rfl) rfl hb
set_option maxRecDepth 20000 in
set_option maxHeartbeats 4000000 in
theorem wX9_swims_0 {Ex : State → Nat → Prop} {Q : Option Value → pz_H → Prop} {d bc bs : Nat} {l0 : Nat} {l1 : Int32} {l2 : Int32} {l3 : Int32}  {h : pz_H} (hD : 4 ≤ d) (hb : pz_gR h l0 9 2 (fun (a1 : Nat) => pz_is h a1 1 ∧ (pz_gI h a1 1 4 (fun (x2 : Int32) => ((eX1_has l1 x2) = 0 → Q (some (.int ((-1)))) h) ∧ (¬ (eX1_has l1 x2) = 0 → ((eX9_isWithin l2 ((0 : Int32)) ((99 : Int32))) = 0 → Q (some (.int ((-1)))) h) ∧ (¬ (eX9_isWithin l2 ((0 : Int32)) ((99 : Int32))) = 0 → (¬ (eX9_isWithin l3 ((1 : Int32)) ((99 : Int32))) = 0 → pz_is h l0 9 ∧ (pz_kv mX9_startTrial 2 0 0 (.ref l0 :: []) h (fun (h6 : pz_H) => pz_V mX9_swims Ex Q d bc bs 52 [(0, .ref l0), (1, .int l1), (2, .int l2), (3, .int l3), (4, .int 0), (5, .int 0), (6, .int 0), (7, .int 0), (8, .int 1)] [] h6))) ∧ ((eX9_isWithin l3 ((1 : Int32)) ((99 : Int32))) = 0 → Q (some (.int ((-1)))) h))))))) : pz_V mX9_swims Ex Q d bc bs 0 [(0, .ref l0), (1, .int l1), (2, .int l2), (3, .int l3)] [] h := by
  refine pz_aload_n (pc' := 1) (x := l0) 0 rfl (pz_dc dX9_swims 0 rfl) rfl ?_
  refine pz_getR (M := mX9_swims) hb fX9_26 (pc' := 4) rfl (pz_dc dX9_swims 1 rfl) (fun a1 hb => ?_)
  refine pz_iload_n (pc' := 5) (x := l1) 1 rfl (pz_dc dX9_swims 2 rfl) rfl ?_
  obtain ⟨⟨fs7, hf8⟩, hb⟩ := hb
  obtain ⟨fs3, x2, g4, g5, hb⟩ := hb
  refine pz_callV (M := mX9_swims) (N := mX1_has) (d' := 0) (bc1 := 0) (bs1 := 0) (bc2 := bc) (bs2 := bs) (pc' := 8) [.int l1] vX9_115 rfl (pz_dc dX9_swims 3 rfl) rfl (Nat.le_of_ble_eq_true rfl) (Nat.le_of_ble_eq_true rfl) rfl (by omega) (by omega) (by omega) hf8 ?_
  refine cX1_has ⟨fs3, x2, g4, g5, ?_⟩
  show pz_V mX9_swims _ _ _ _ _ 8 [(0, .ref l0), (1, .int l1), (2, .int l2), (3, .int l3)] [.int (eX1_has l1 x2)] h
  refine pz_if_eq (pc' := 11) (tgt := 31) rfl (pz_dc dX9_swims 4 rfl) (by decide) (fun hc => ?_) (fun hc => ?_)
  · replace hb := hb.1 hc
    refine pz_iconst (pc' := 32) (v := (-1)) rfl (pz_dc dX9_swims 15 rfl) ki_m1 ?_
    exact pz_iret (pz_dc dX9_swims 16 rfl) rfl hb
  · replace hb := hb.2 hc
    refine pz_iload_n (pc' := 12) (x := l2) 2 rfl (pz_dc dX9_swims 5 rfl) rfl ?_
    refine pz_iconst (pc' := 13) (v := 0) rfl (pz_dc dX9_swims 6 rfl) ki_0 ?_
    refine pz_bipush (pc' := 15) (v := 99) rfl (pz_dc dX9_swims 7 rfl) kb_99 ?_
    refine pz_callS (M := mX9_swims) (N := mX9_isWithin) (d' := 0) (bc1 := 0) (bs1 := 0) (bc2 := bc) (bs2 := bs) (pc' := 18) [.int l2, .int 0, .int 99] sX9_196 rfl (pz_dc dX9_swims 8 rfl) rfl (Nat.le_of_ble_eq_true rfl) (Nat.le_of_ble_eq_true rfl) rfl (by omega) (by omega) (by omega) ?_
    refine cX9_isWithin ?_
    show pz_V mX9_swims _ _ _ _ _ 18 [(0, .ref l0), (1, .int l1), (2, .int l2), (3, .int l3)] [.int (eX9_isWithin l2 ((0 : Int32)) ((99 : Int32)))] h
    refine pz_if_eq (pc' := 21) (tgt := 31) rfl (pz_dc dX9_swims 9 rfl) (by decide) (fun hc => ?_) (fun hc => ?_)
    · replace hb := hb.1 hc
      refine pz_iconst (pc' := 32) (v := (-1)) rfl (pz_dc dX9_swims 15 rfl) ki_m1 ?_
      exact pz_iret (pz_dc dX9_swims 16 rfl) rfl hb
    · replace hb := hb.2 hc
      refine pz_iload_n (pc' := 22) (x := l3) 3 rfl (pz_dc dX9_swims 10 rfl) rfl ?_
      refine pz_iconst (pc' := 23) (v := 1) rfl (pz_dc dX9_swims 11 rfl) ki_1 ?_
      refine pz_bipush (pc' := 25) (v := 99) rfl (pz_dc dX9_swims 12 rfl) kb_99 ?_
      refine pz_callS (M := mX9_swims) (N := mX9_isWithin) (d' := 0) (bc1 := 0) (bs1 := 0) (bc2 := bc) (bs2 := bs) (pc' := 28) [.int l3, .int 1, .int 99] sX9_196 rfl (pz_dc dX9_swims 13 rfl) rfl (Nat.le_of_ble_eq_true rfl) (Nat.le_of_ble_eq_true rfl) rfl (by omega) (by omega) (by omega) ?_
      refine cX9_isWithin ?_
      show pz_V mX9_swims _ _ _ _ _ 28 [(0, .ref l0), (1, .int l1), (2, .int l2), (3, .int l3)] [.int (eX9_isWithin l3 ((1 : Int32)) ((99 : Int32)))] h
      refine pz_if_ne (pc' := 31) (tgt := 33) rfl (pz_dc dX9_swims 14 rfl) (by decide) (fun hc => ?_) (fun hc => ?_)
      · replace hb := hb.1 hc
        refine pz_aload_n (pc' := 34) (x := l0) 0 rfl (pz_dc dX9_swims 17 rfl) rfl ?_
        refine pz_cVv (M := mX9_swims) (N := mX9_startTrial) (d' := 2) (bc1 := 0) (bs1 := 0) (bc2 := bc) (bs2 := bs) (pc' := 37) [] hb vX9_200 rfl (pz_dc dX9_swims 18 rfl) rfl (Nat.le_of_ble_eq_true rfl) (Nat.le_of_ble_eq_true rfl) rfl (by omega) (by omega) (by omega) (fun h6 hb => ?_)
        refine pz_iconst (pc' := 38) (v := 0) rfl (pz_dc dX9_swims 19 rfl) ki_0 ?_
        refine pz_istore (pc' := 40) (lv' := [(4, .int 0), (0, .ref l0), (1, .int l1), (2, .int l2), (3, .int l3)]) rfl (pz_dc dX9_swims 20 rfl) (by decide) rfl ?_
        refine pz_iconst (pc' := 41) (v := 0) rfl (pz_dc dX9_swims 21 rfl) ki_0 ?_
        refine pz_istore (pc' := 43) (lv' := [(5, .int 0), (4, .int 0), (0, .ref l0), (1, .int l1), (2, .int l2), (3, .int l3)]) rfl (pz_dc dX9_swims 22 rfl) (by decide) rfl ?_
        refine pz_iconst (pc' := 44) (v := 0) rfl (pz_dc dX9_swims 23 rfl) ki_0 ?_
        refine pz_istore (pc' := 46) (lv' := [(6, .int 0), (5, .int 0), (4, .int 0), (0, .ref l0), (1, .int l1), (2, .int l2), (3, .int l3)]) rfl (pz_dc dX9_swims 24 rfl) (by decide) rfl ?_
        refine pz_iconst (pc' := 47) (v := 0) rfl (pz_dc dX9_swims 25 rfl) ki_0 ?_
        refine pz_istore (pc' := 49) (lv' := [(7, .int 0), (6, .int 0), (5, .int 0), (4, .int 0), (0, .ref l0), (1, .int l1), (2, .int l2), (3, .int l3)]) rfl (pz_dc dX9_swims 26 rfl) (by decide) rfl ?_
        refine pz_iconst (pc' := 50) (v := 1) rfl (pz_dc dX9_swims 27 rfl) ki_1 ?_
        refine pz_istore (pc' := 52) (lv' := [(8, .int 1), (7, .int 0), (6, .int 0), (5, .int 0), (4, .int 0), (0, .ref l0), (1, .int l1), (2, .int l2), (3, .int l3)]) rfl (pz_dc dX9_swims 28 rfl) (by decide) rfl ?_
        refine pz_lv (lv' := [(0, .ref l0), (1, .int l1), (2, .int l2), (3, .int l3), (4, .int 0), (5, .int 0), (6, .int 0), (7, .int 0), (8, .int 1)]) [5, 6, 7, 8, 4, 3, 2, 1, 0] rfl ?_
        exact hb
      · replace hb := hb.2 hc
        refine pz_iconst (pc' := 32) (v := (-1)) rfl (pz_dc dX9_swims 15 rfl) ki_m1 ?_
        exact pz_iret (pz_dc dX9_swims 16 rfl) rfl hb
set_option maxRecDepth 20000 in
set_option maxHeartbeats 4000000 in
theorem wX9_swims_52 {Ex : State → Nat → Prop} {Q : Option Value → pz_H → Prop} {d bc bs : Nat} {l0 : Nat} {l1 : Int32} {l2 : Int32} {l3 : Int32} {l4 : Int32} {l5 : Int32} {l6 : Int32} {l7 : Int32} {l8 : Int32}  {h : pz_H} (hD : 4 ≤ d) (hb : (l3 < l8 → pz_gR h l0 9 1 (fun (a1 : Nat) => pz_is h a1 4 ∧ (pz_kv mX4_tell_ 2 0 0 (.ref a1 :: [.long l6.toInt64, .long l7.toInt64]) h (fun (h2 : pz_H) => Q (some (.int l4)) h2)))) ∧ (¬ l3 < l8 → pz_gR h l0 9 2 (fun (a3 : Nat) => pz_gR h l0 9 5 (fun (a4 : Nat) => pz_gR h l0 9 12 (fun (a5 : Nat) => pz_is h a3 1 ∧ (pz_kv mX1_passDay 3 0 0 (.ref a3 :: [.ref a4, .ref a5]) h (fun (h6 : pz_H) => pz_gR h6 l0 9 5 (fun (a7 : Nat) => pz_gR h6 a7 8 0 (fun (a8 : Nat) => pz_rI h6 a8 l1 (fun (x9 : Int32) => (x9 < l2 → pz_V mX9_swims Ex Q d bc bs 52 [(0, .ref l0), (1, .int l1), (2, .int l2), (3, .int l3), (4, .int l4), (5, .int 0), (6, .int l6), (7, .int l7), (8, .int (l8 + (1 : Int32)))] [] h6) ∧ (¬ x9 < l2 → (¬ l7 = 0 → pz_V mX9_swims Ex Q d bc bs 52 [(0, .ref l0), (1, .int l1), (2, .int l2), (3, .int l3), (4, .int (l4 + (1 : Int32))), (5, .int (l5 + (1 : Int32))), (6, .int (if l6 < (l5 + (1 : Int32)) then (l5 + (1 : Int32)) else l6)), (7, .int l7), (8, .int (l8 + (1 : Int32)))] [] h6) ∧ (l7 = 0 → pz_V mX9_swims Ex Q d bc bs 52 [(0, .ref l0), (1, .int l1), (2, .int l2), (3, .int l3), (4, .int (l4 + (1 : Int32))), (5, .int (l5 + (1 : Int32))), (6, .int (if l6 < (l5 + (1 : Int32)) then (l5 + (1 : Int32)) else l6)), (7, .int l8), (8, .int (l8 + (1 : Int32)))] [] h6)))))))))))) : pz_V mX9_swims Ex Q d bc bs 52 [(0, .ref l0), (1, .int l1), (2, .int l2), (3, .int l3), (4, .int l4), (5, .int l5), (6, .int l6), (7, .int l7), (8, .int l8)] [] h := by
  refine pz_iload (pc' := 54) (x := l8) 8 rfl (pz_dc dX9_swims 29 rfl) rfl ?_
  refine pz_iload_n (pc' := 55) (x := l3) 3 rfl (pz_dc dX9_swims 30 rfl) rfl ?_
  refine pz_icmp_gt (pc' := 58) (tgt := 127) rfl (pz_dc dX9_swims 31 rfl) (by decide) (fun hc => ?_) (fun hc => ?_)
  · replace hb := hb.1 hc
    refine pz_aload_n (pc' := 128) (x := l0) 0 rfl (pz_dc dX9_swims 63 rfl) rfl ?_
    refine pz_getR (M := mX9_swims) hb fX9_19 (pc' := 131) rfl (pz_dc dX9_swims 64 rfl) (fun a1 hb => ?_)
    refine pz_iload (pc' := 133) (x := l6) 6 rfl (pz_dc dX9_swims 65 rfl) rfl ?_
    refine pz_i2l (pc' := 134) rfl (pz_dc dX9_swims 66 rfl) ?_
    refine pz_iload (pc' := 136) (x := l7) 7 rfl (pz_dc dX9_swims 67 rfl) rfl ?_
    refine pz_i2l (pc' := 137) rfl (pz_dc dX9_swims 68 rfl) ?_
    refine pz_cVv (M := mX9_swims) (N := mX4_tell_) (d' := 2) (bc1 := 0) (bs1 := 0) (bc2 := bc) (bs2 := bs) (pc' := 140) [.long l6.toInt64, .long l7.toInt64] hb vX9_167 rfl (pz_dc dX9_swims 69 rfl) rfl (Nat.le_of_ble_eq_true rfl) (Nat.le_of_ble_eq_true rfl) rfl (by omega) (by omega) (by omega) (fun h2 hb => ?_)
    refine pz_iload (pc' := 142) (x := l4) 4 rfl (pz_dc dX9_swims 70 rfl) rfl ?_
    exact pz_iret (pz_dc dX9_swims 71 rfl) rfl hb
  · replace hb := hb.2 hc
    refine pz_aload_n (pc' := 59) (x := l0) 0 rfl (pz_dc dX9_swims 32 rfl) rfl ?_
    refine pz_getR (M := mX9_swims) hb fX9_26 (pc' := 62) rfl (pz_dc dX9_swims 33 rfl) (fun a3 hb => ?_)
    refine pz_aload_n (pc' := 63) (x := l0) 0 rfl (pz_dc dX9_swims 34 rfl) rfl ?_
    refine pz_getR (M := mX9_swims) hb fX9_40 (pc' := 66) rfl (pz_dc dX9_swims 35 rfl) (fun a4 hb => ?_)
    refine pz_aload_n (pc' := 67) (x := l0) 0 rfl (pz_dc dX9_swims 36 rfl) rfl ?_
    refine pz_getR (M := mX9_swims) hb fX9_78 (pc' := 70) rfl (pz_dc dX9_swims 37 rfl) (fun a5 hb => ?_)
    refine pz_cVv (M := mX9_swims) (N := mX1_passDay) (d' := 3) (bc1 := 0) (bs1 := 0) (bc2 := bc) (bs2 := bs) (pc' := 73) [.ref a4, .ref a5] hb vX9_214 rfl (pz_dc dX9_swims 38 rfl) rfl (Nat.le_of_ble_eq_true rfl) (Nat.le_of_ble_eq_true rfl) rfl (by omega) (by omega) (by omega) (fun h6 hb => ?_)
    refine pz_aload_n (pc' := 74) (x := l0) 0 rfl (pz_dc dX9_swims 39 rfl) rfl ?_
    refine pz_getR (M := mX9_swims) hb fX9_40 (pc' := 77) rfl (pz_dc dX9_swims 40 rfl) (fun a7 hb => ?_)
    refine pz_getR (M := mX9_swims) hb fX9_136 (pc' := 80) rfl (pz_dc dX9_swims 41 rfl) (fun a8 hb => ?_)
    refine pz_iload_n (pc' := 81) (x := l1) 1 rfl (pz_dc dX9_swims 42 rfl) rfl ?_
    refine pz_ldI hb (pc' := 82) rfl (pz_dc dX9_swims 43 rfl) (fun x9 hb => ?_)
    refine pz_iload_n (pc' := 83) (x := l2) 2 rfl (pz_dc dX9_swims 44 rfl) rfl ?_
    refine pz_icmp_lt (pc' := 86) (tgt := 118) rfl (pz_dc dX9_swims 45 rfl) (by decide) (fun hc => ?_) (fun hc => ?_)
    · replace hb := hb.1 hc
      refine pz_iconst (pc' := 119) (v := 0) rfl (pz_dc dX9_swims 59 rfl) ki_0 ?_
      refine pz_istore (pc' := 121) (lv' := [(5, .int 0), (0, .ref l0), (1, .int l1), (2, .int l2), (3, .int l3), (4, .int l4), (6, .int l6), (7, .int l7), (8, .int l8)]) rfl (pz_dc dX9_swims 60 rfl) (by decide) rfl ?_
      refine pz_iinc (pc' := 124) (x := l8) (v := l8 + (1 : Int32)) (lv' := [(8, .int (l8 + (1 : Int32))), (5, .int 0), (0, .ref l0), (1, .int l1), (2, .int l2), (3, .int l3), (4, .int l4), (6, .int l6), (7, .int l7)]) 8 rfl (pz_dc dX9_swims 61 rfl) rfl rfl (by decide) rfl ?_
      refine pz_goto (pc' := 52) (pz_dc dX9_swims 62 rfl) (by decide) ?_
      refine pz_lv (lv' := [(0, .ref l0), (1, .int l1), (2, .int l2), (3, .int l3), (4, .int l4), (5, .int 0), (6, .int l6), (7, .int l7), (8, .int (l8 + (1 : Int32)))]) [2, 3, 4, 5, 6, 1, 7, 8, 0] rfl ?_
      exact hb
    · replace hb := hb.2 hc
      refine pz_iinc (pc' := 89) (x := l4) (v := l4 + (1 : Int32)) (lv' := [(4, .int (l4 + (1 : Int32))), (0, .ref l0), (1, .int l1), (2, .int l2), (3, .int l3), (5, .int l5), (6, .int l6), (7, .int l7), (8, .int l8)]) 4 rfl (pz_dc dX9_swims 46 rfl) rfl rfl (by decide) rfl ?_
      refine pz_iinc (pc' := 92) (x := l5) (v := l5 + (1 : Int32)) (lv' := [(5, .int (l5 + (1 : Int32))), (4, .int (l4 + (1 : Int32))), (0, .ref l0), (1, .int l1), (2, .int l2), (3, .int l3), (6, .int l6), (7, .int l7), (8, .int l8)]) 5 rfl (pz_dc dX9_swims 47 rfl) rfl rfl (by decide) rfl ?_
      refine pz_iload (pc' := 94) (x := l6) 6 rfl (pz_dc dX9_swims 48 rfl) rfl ?_
      refine pz_iload (pc' := 96) (x := l5 + (1 : Int32)) 0 rfl (pz_dc dX9_swims 49 rfl) rfl ?_
      refine pz_max (M := mX9_swims) (pc' := 99) wX9_246 rfl (pz_dc dX9_swims 50 rfl) (Nat.le_of_ble_eq_true rfl) (by omega) ?_
      refine pz_istore (pc' := 101) (lv' := [(6, .int (if l6 < (l5 + (1 : Int32)) then (l5 + (1 : Int32)) else l6)), (5, .int (l5 + (1 : Int32))), (4, .int (l4 + (1 : Int32))), (0, .ref l0), (1, .int l1), (2, .int l2), (3, .int l3), (7, .int l7), (8, .int l8)]) rfl (pz_dc dX9_swims 51 rfl) (by decide) rfl ?_
      refine pz_iload (pc' := 103) (x := l7) 7 rfl (pz_dc dX9_swims 52 rfl) rfl ?_
      refine pz_if_ne (pc' := 106) (tgt := 111) rfl (pz_dc dX9_swims 53 rfl) (by decide) (fun hc => ?_) (fun hc => ?_)
      · replace hb := hb.1 hc
        refine pz_iload (pc' := 113) (x := l7) 7 rfl (pz_dc dX9_swims 56 rfl) rfl ?_
        refine pz_istore (pc' := 115) (lv' := [(7, .int l7), (6, .int (if l6 < (l5 + (1 : Int32)) then (l5 + (1 : Int32)) else l6)), (5, .int (l5 + (1 : Int32))), (4, .int (l4 + (1 : Int32))), (0, .ref l0), (1, .int l1), (2, .int l2), (3, .int l3), (8, .int l8)]) rfl (pz_dc dX9_swims 57 rfl) (by decide) rfl ?_
        refine pz_goto (pc' := 121) (pz_dc dX9_swims 58 rfl) (by decide) ?_
        refine pz_iinc (pc' := 124) (x := l8) (v := l8 + (1 : Int32)) (lv' := [(8, .int (l8 + (1 : Int32))), (7, .int l7), (6, .int (if l6 < (l5 + (1 : Int32)) then (l5 + (1 : Int32)) else l6)), (5, .int (l5 + (1 : Int32))), (4, .int (l4 + (1 : Int32))), (0, .ref l0), (1, .int l1), (2, .int l2), (3, .int l3)]) 8 rfl (pz_dc dX9_swims 61 rfl) rfl rfl (by decide) rfl ?_
        refine pz_goto (pc' := 52) (pz_dc dX9_swims 62 rfl) (by decide) ?_
        refine pz_lv (lv' := [(0, .ref l0), (1, .int l1), (2, .int l2), (3, .int l3), (4, .int (l4 + (1 : Int32))), (5, .int (l5 + (1 : Int32))), (6, .int (if l6 < (l5 + (1 : Int32)) then (l5 + (1 : Int32)) else l6)), (7, .int l7), (8, .int (l8 + (1 : Int32)))]) [5, 6, 7, 8, 4, 3, 2, 1, 0] rfl ?_
        exact hb
      · replace hb := hb.2 hc
        refine pz_iload (pc' := 108) (x := l8) 8 rfl (pz_dc dX9_swims 54 rfl) rfl ?_
        refine pz_goto (pc' := 113) (pz_dc dX9_swims 55 rfl) (by decide) ?_
        refine pz_istore (pc' := 115) (lv' := [(7, .int l8), (6, .int (if l6 < (l5 + (1 : Int32)) then (l5 + (1 : Int32)) else l6)), (5, .int (l5 + (1 : Int32))), (4, .int (l4 + (1 : Int32))), (0, .ref l0), (1, .int l1), (2, .int l2), (3, .int l3), (8, .int l8)]) rfl (pz_dc dX9_swims 57 rfl) (by decide) rfl ?_
        refine pz_goto (pc' := 121) (pz_dc dX9_swims 58 rfl) (by decide) ?_
        refine pz_iinc (pc' := 124) (x := l8) (v := l8 + (1 : Int32)) (lv' := [(8, .int (l8 + (1 : Int32))), (7, .int l8), (6, .int (if l6 < (l5 + (1 : Int32)) then (l5 + (1 : Int32)) else l6)), (5, .int (l5 + (1 : Int32))), (4, .int (l4 + (1 : Int32))), (0, .ref l0), (1, .int l1), (2, .int l2), (3, .int l3)]) 8 rfl (pz_dc dX9_swims 61 rfl) rfl rfl (by decide) rfl ?_
        refine pz_goto (pc' := 52) (pz_dc dX9_swims 62 rfl) (by decide) ?_
        refine pz_lv (lv' := [(0, .ref l0), (1, .int l1), (2, .int l2), (3, .int l3), (4, .int (l4 + (1 : Int32))), (5, .int (l5 + (1 : Int32))), (6, .int (if l6 < (l5 + (1 : Int32)) then (l5 + (1 : Int32)) else l6)), (7, .int l8), (8, .int (l8 + (1 : Int32)))]) [5, 6, 7, 8, 4, 3, 2, 1, 0] rfl ?_
        exact hb
set_option maxRecDepth 20000 in
set_option maxHeartbeats 4000000 in
theorem wX9_lets_0 {Ex : State → Nat → Prop} {Q : Option Value → pz_H → Prop} {d bc bs : Nat} {l0 : Nat} {l1 : Int32} {l2 : Int32}  {h : pz_H} (hD : 6 ≤ d) (hb : pz_gR h l0 9 2 (fun (a1 : Nat) => pz_is h a1 1 ∧ (pz_gI h a1 1 4 (fun (x2 : Int32) => ((eX1_has l1 x2) = 0 → Q (some (.int ((-1)))) h) ∧ (¬ (eX1_has l1 x2) = 0 → (¬ (eX9_isWithin l2 ((0 : Int32)) ((40 : Int32))) = 0 → pz_is h l0 9 ∧ (pz_ki mX9_fewestTouched 5 0 0 (.ref l0 :: [.int (((1 : Int32)) <<< (l1 &&& 31)), .int (((1 : Int32)) <<< (l1 &&& 31)), .int l2]) h (fun (x7 : Int32) (h6 : pz_H) => Q (some (.int x7)) h6))) ∧ ((eX9_isWithin l2 ((0 : Int32)) ((40 : Int32))) = 0 → Q (some (.int ((-1)))) h)))))) : pz_V mX9_lets Ex Q d bc bs 0 [(0, .ref l0), (1, .int l1), (2, .int l2)] [] h := by
  refine pz_aload_n (pc' := 1) (x := l0) 0 rfl (pz_dc dX9_lets 0 rfl) rfl ?_
  refine pz_getR (M := mX9_lets) hb fX9_26 (pc' := 4) rfl (pz_dc dX9_lets 1 rfl) (fun a1 hb => ?_)
  refine pz_iload_n (pc' := 5) (x := l1) 1 rfl (pz_dc dX9_lets 2 rfl) rfl ?_
  obtain ⟨⟨fs8, hf9⟩, hb⟩ := hb
  obtain ⟨fs3, x2, g4, g5, hb⟩ := hb
  refine pz_callV (M := mX9_lets) (N := mX1_has) (d' := 0) (bc1 := 0) (bs1 := 0) (bc2 := bc) (bs2 := bs) (pc' := 8) [.int l1] vX9_115 rfl (pz_dc dX9_lets 3 rfl) rfl (Nat.le_of_ble_eq_true rfl) (Nat.le_of_ble_eq_true rfl) rfl (by omega) (by omega) (by omega) hf9 ?_
  refine cX1_has ⟨fs3, x2, g4, g5, ?_⟩
  show pz_V mX9_lets _ _ _ _ _ 8 [(0, .ref l0), (1, .int l1), (2, .int l2)] [.int (eX1_has l1 x2)] h
  refine pz_if_eq (pc' := 11) (tgt := 21) rfl (pz_dc dX9_lets 4 rfl) (by decide) (fun hc => ?_) (fun hc => ?_)
  · replace hb := hb.1 hc
    refine pz_iconst (pc' := 22) (v := (-1)) rfl (pz_dc dX9_lets 10 rfl) ki_m1 ?_
    exact pz_iret (pz_dc dX9_lets 11 rfl) rfl hb
  · replace hb := hb.2 hc
    refine pz_iload_n (pc' := 12) (x := l2) 2 rfl (pz_dc dX9_lets 5 rfl) rfl ?_
    refine pz_iconst (pc' := 13) (v := 0) rfl (pz_dc dX9_lets 6 rfl) ki_0 ?_
    refine pz_bipush (pc' := 15) (v := 40) rfl (pz_dc dX9_lets 7 rfl) kb_40 ?_
    refine pz_callS (M := mX9_lets) (N := mX9_isWithin) (d' := 0) (bc1 := 0) (bs1 := 0) (bc2 := bc) (bs2 := bs) (pc' := 18) [.int l2, .int 0, .int 40] sX9_196 rfl (pz_dc dX9_lets 8 rfl) rfl (Nat.le_of_ble_eq_true rfl) (Nat.le_of_ble_eq_true rfl) rfl (by omega) (by omega) (by omega) ?_
    refine cX9_isWithin ?_
    show pz_V mX9_lets _ _ _ _ _ 18 [(0, .ref l0), (1, .int l1), (2, .int l2)] [.int (eX9_isWithin l2 ((0 : Int32)) ((40 : Int32)))] h
    refine pz_if_ne (pc' := 21) (tgt := 23) rfl (pz_dc dX9_lets 9 rfl) (by decide) (fun hc => ?_) (fun hc => ?_)
    · replace hb := hb.1 hc
      refine pz_aload_n (pc' := 24) (x := l0) 0 rfl (pz_dc dX9_lets 12 rfl) rfl ?_
      refine pz_iconst (pc' := 25) (v := 1) rfl (pz_dc dX9_lets 13 rfl) ki_1 ?_
      refine pz_iload_n (pc' := 26) (x := l1) 1 rfl (pz_dc dX9_lets 14 rfl) rfl ?_
      refine pz_ishl (pc' := 27) rfl (pz_dc dX9_lets 15 rfl) ?_
      refine pz_iconst (pc' := 28) (v := 1) rfl (pz_dc dX9_lets 16 rfl) ki_1 ?_
      refine pz_iload_n (pc' := 29) (x := l1) 1 rfl (pz_dc dX9_lets 17 rfl) rfl ?_
      refine pz_ishl (pc' := 30) rfl (pz_dc dX9_lets 18 rfl) ?_
      refine pz_iload_n (pc' := 31) (x := l2) 2 rfl (pz_dc dX9_lets 19 rfl) rfl ?_
      refine pz_cVi (M := mX9_lets) (N := mX9_fewestTouched) (d' := 5) (bc1 := 0) (bs1 := 0) (bc2 := bc) (bs2 := bs) (pc' := 34) [.int (((1 : Int32)) <<< (l1 &&& 31)), .int (((1 : Int32)) <<< (l1 &&& 31)), .int l2] hb vX9_251 rfl (pz_dc dX9_lets 20 rfl) rfl (Nat.le_of_ble_eq_true rfl) (Nat.le_of_ble_eq_true rfl) rfl (by omega) (by omega) (by omega) (fun x7 h6 hb => ?_)
      exact pz_iret (pz_dc dX9_lets 21 rfl) rfl hb
    · replace hb := hb.2 hc
      refine pz_iconst (pc' := 22) (v := (-1)) rfl (pz_dc dX9_lets 10 rfl) ki_m1 ?_
      exact pz_iret (pz_dc dX9_lets 11 rfl) rfl hb
set_option maxRecDepth 20000 in
set_option maxHeartbeats 4000000 in
theorem wX9_just_0 {Ex : State → Nat → Prop} {Q : Option Value → pz_H → Prop} {d bc bs : Nat} {l0 : Nat} {l1 : Int32} {l2 : Int32}  {h : pz_H} (hD : 6 ≤ d) (hb : pz_gR h l0 9 2 (fun (a1 : Nat) => pz_is h a1 1 ∧ (pz_is h a1 1 ∧ (pz_gI h a1 1 4 (fun (x2 : Int32) => (¬ (l1 &&& ((eX1_all x2) ^^^ ((-1 : Int32)))) = 0 → Q (some (.int ((-1)))) h) ∧ ((l1 &&& ((eX1_all x2) ^^^ ((-1 : Int32)))) = 0 → (¬ (eX9_isWithin l2 ((0 : Int32)) ((40 : Int32))) = 0 → pz_gR h l0 9 2 (fun (a6 : Nat) => pz_is h a6 1 ∧ (pz_gI h a6 1 4 (fun (x7 : Int32) => pz_is h l0 9 ∧ (pz_ki mX9_fewestTouched 5 0 0 (.ref l0 :: [.int (eX1_all x7), .int l1, .int l2]) h (fun (x12 : Int32) (h11 : pz_H) => Q (some (.int x12)) h11)))))) ∧ ((eX9_isWithin l2 ((0 : Int32)) ((40 : Int32))) = 0 → Q (some (.int ((-1)))) h))))))) : pz_V mX9_just Ex Q d bc bs 0 [(0, .ref l0), (1, .int l1), (2, .int l2)] [] h := by
  refine pz_aload_n (pc' := 1) (x := l0) 0 rfl (pz_dc dX9_just 0 rfl) rfl ?_
  refine pz_getR (M := mX9_just) hb fX9_26 (pc' := 4) rfl (pz_dc dX9_just 1 rfl) (fun a1 hb => ?_)
  refine pz_iload_n (pc' := 5) (x := l1) 1 rfl (pz_dc dX9_just 2 rfl) rfl ?_
  obtain ⟨⟨fs17, hf18⟩, hb⟩ := hb
  refine pz_callV (M := mX9_just) (N := mX1_hasAll) (d' := 1) (bc1 := 0) (bs1 := 0) (bc2 := bc) (bs2 := bs) (pc' := 8) [.int l1] vX9_254 rfl (pz_dc dX9_just 3 rfl) rfl (Nat.le_of_ble_eq_true rfl) (Nat.le_of_ble_eq_true rfl) rfl (by omega) (by omega) (by omega) hf18 ?_
  refine pz_iload_n (pc' := 1) (x := l1) 1 rfl (pz_dc dX1_hasAll 0 rfl) rfl ?_
  refine pz_aload_n (pc' := 2) (x := a1) 0 rfl (pz_dc dX1_hasAll 1 rfl) rfl ?_
  obtain ⟨⟨fs15, hf16⟩, hb⟩ := hb
  obtain ⟨fs3, x2, g4, g5, hb⟩ := hb
  refine pz_callV (M := mX1_hasAll) (N := mX1_all) (d' := 0) (bc1 := 0) (bs1 := 0) (bc2 := 0) (bs2 := 0) (pc' := 5) [] vX1_28 rfl (pz_dc dX1_hasAll 2 rfl) rfl (Nat.le_of_ble_eq_true rfl) (Nat.le_of_ble_eq_true rfl) rfl (by omega) (by omega) (by omega) hf16 ?_
  refine cX1_all ⟨fs3, x2, g4, g5, ?_⟩
  show pz_V mX1_hasAll _ _ _ _ _ 5 [(0, .ref a1), (1, .int l1)] [.int (eX1_all x2), .int l1] h
  refine pz_iconst (pc' := 6) (v := (-1)) rfl (pz_dc dX1_hasAll 3 rfl) ki_m1 ?_
  refine pz_ixor (pc' := 7) rfl (pz_dc dX1_hasAll 4 rfl) ?_
  refine pz_iand (pc' := 8) rfl (pz_dc dX1_hasAll 5 rfl) ?_
  refine pz_if_ne (pc' := 11) (tgt := 15) rfl (pz_dc dX1_hasAll 6 rfl) (by decide) (fun hc => ?_) (fun hc => ?_)
  · replace hb := hb.1 hc
    refine pz_iconst (pc' := 16) (v := 0) rfl (pz_dc dX1_hasAll 9 rfl) ki_0 ?_
    refine pz_zret (pz_dc dX1_hasAll 10 rfl) rfl ⟨by decide, ?_⟩
    show pz_V mX9_just _ _ _ _ _ 8 [(0, .ref l0), (1, .int l1), (2, .int l2)] [.int 0] h
    refine pz_if_eq (pc' := 11) (tgt := 21) rfl (pz_dc dX9_just 4 rfl) (by decide) (fun _ => ?_) (fun hc => absurd hc (by decide))
    refine pz_iconst (pc' := 22) (v := (-1)) rfl (pz_dc dX9_just 10 rfl) ki_m1 ?_
    exact pz_iret (pz_dc dX9_just 11 rfl) rfl hb
  · replace hb := hb.2 hc
    refine pz_iconst (pc' := 12) (v := 1) rfl (pz_dc dX1_hasAll 7 rfl) ki_1 ?_
    refine pz_goto (pc' := 16) (pz_dc dX1_hasAll 8 rfl) (by decide) ?_
    refine pz_zret (pz_dc dX1_hasAll 10 rfl) rfl ⟨by decide, ?_⟩
    show pz_V mX9_just _ _ _ _ _ 8 [(0, .ref l0), (1, .int l1), (2, .int l2)] [.int 1] h
    refine pz_if_eq (pc' := 11) (tgt := 21) rfl (pz_dc dX9_just 4 rfl) (by decide) (fun hc => absurd hc (by decide)) (fun _ => ?_)
    refine pz_iload_n (pc' := 12) (x := l2) 2 rfl (pz_dc dX9_just 5 rfl) rfl ?_
    refine pz_iconst (pc' := 13) (v := 0) rfl (pz_dc dX9_just 6 rfl) ki_0 ?_
    refine pz_bipush (pc' := 15) (v := 40) rfl (pz_dc dX9_just 7 rfl) kb_40 ?_
    refine pz_callS (M := mX9_just) (N := mX9_isWithin) (d' := 0) (bc1 := 0) (bs1 := 0) (bc2 := bc) (bs2 := bs) (pc' := 18) [.int l2, .int 0, .int 40] sX9_196 rfl (pz_dc dX9_just 8 rfl) rfl (Nat.le_of_ble_eq_true rfl) (Nat.le_of_ble_eq_true rfl) rfl (by omega) (by omega) (by omega) ?_
    refine cX9_isWithin ?_
    show pz_V mX9_just _ _ _ _ _ 18 [(0, .ref l0), (1, .int l1), (2, .int l2)] [.int (eX9_isWithin l2 ((0 : Int32)) ((40 : Int32)))] h
    refine pz_if_ne (pc' := 21) (tgt := 23) rfl (pz_dc dX9_just 9 rfl) (by decide) (fun hc => ?_) (fun hc => ?_)
    · replace hb := hb.1 hc
      refine pz_aload_n (pc' := 24) (x := l0) 0 rfl (pz_dc dX9_just 12 rfl) rfl ?_
      refine pz_aload_n (pc' := 25) (x := l0) 0 rfl (pz_dc dX9_just 13 rfl) rfl ?_
      refine pz_getR (M := mX9_just) hb fX9_26 (pc' := 28) rfl (pz_dc dX9_just 14 rfl) (fun a6 hb => ?_)
      obtain ⟨⟨fs13, hf14⟩, hb⟩ := hb
      obtain ⟨fs8, x7, g9, g10, hb⟩ := hb
      refine pz_callV (M := mX9_just) (N := mX1_all) (d' := 0) (bc1 := 0) (bs1 := 0) (bc2 := bc) (bs2 := bs) (pc' := 31) [] vX9_257 rfl (pz_dc dX9_just 15 rfl) rfl (Nat.le_of_ble_eq_true rfl) (Nat.le_of_ble_eq_true rfl) rfl (by omega) (by omega) (by omega) hf14 ?_
      refine cX1_all ⟨fs8, x7, g9, g10, ?_⟩
      show pz_V mX9_just _ _ _ _ _ 31 [(0, .ref l0), (1, .int l1), (2, .int l2)] [.int (eX1_all x7), .ref l0] h
      refine pz_iload_n (pc' := 32) (x := l1) 1 rfl (pz_dc dX9_just 16 rfl) rfl ?_
      refine pz_iload_n (pc' := 33) (x := l2) 2 rfl (pz_dc dX9_just 17 rfl) rfl ?_
      refine pz_cVi (M := mX9_just) (N := mX9_fewestTouched) (d' := 5) (bc1 := 0) (bs1 := 0) (bc2 := bc) (bs2 := bs) (pc' := 36) [.int (eX1_all x7), .int l1, .int l2] hb vX9_251 rfl (pz_dc dX9_just 18 rfl) rfl (Nat.le_of_ble_eq_true rfl) (Nat.le_of_ble_eq_true rfl) rfl (by omega) (by omega) (by omega) (fun x12 h11 hb => ?_)
      exact pz_iret (pz_dc dX9_just 19 rfl) rfl hb
    · replace hb := hb.2 hc
      refine pz_iconst (pc' := 22) (v := (-1)) rfl (pz_dc dX9_just 10 rfl) ki_m1 ?_
      exact pz_iret (pz_dc dX9_just 11 rfl) rfl hb
set_option maxRecDepth 20000 in
set_option maxHeartbeats 4000000 in
theorem wX9_fills_0 {Ex : State → Nat → Prop} {Q : Option Value → pz_H → Prop} {d bc bs : Nat} {l0 : Nat} {l1 : Int32} {l2 : Int32}  {h : pz_H} (hD : 5 ≤ d) (hb : ((eX9_isWithin l1 ((0 : Int32)) ((6 : Int32))) = 0 → Q (some (.int ((-1)))) h) ∧ (¬ (eX9_isWithin l1 ((0 : Int32)) ((6 : Int32))) = 0 → (¬ (eX9_isWithin l2 ((0 : Int32)) ((40 : Int32))) = 0 → pz_gR h l0 9 2 (fun (a1 : Nat) => pz_is h a1 1 ∧ (pz_gI h a1 1 4 (fun (x2 : Int32) => (l1 ≤ x2 → pz_V mX9_fills Ex Q d bc bs 44 [(0, .ref l0), (1, .int l1), (2, .int l2), (3, .int ((-1))), (4, .int 0), (5, .int 0)] [] h) ∧ (¬ l1 ≤ x2 → Q (some (.int ((-2)))) h))))) ∧ ((eX9_isWithin l2 ((0 : Int32)) ((40 : Int32))) = 0 → Q (some (.int ((-1)))) h))) : pz_V mX9_fills Ex Q d bc bs 0 [(0, .ref l0), (1, .int l1), (2, .int l2)] [] h := by
  refine pz_iload_n (pc' := 1) (x := l1) 1 rfl (pz_dc dX9_fills 0 rfl) rfl ?_
  refine pz_iconst (pc' := 2) (v := 0) rfl (pz_dc dX9_fills 1 rfl) ki_0 ?_
  refine pz_bipush (pc' := 4) (v := 6) rfl (pz_dc dX9_fills 2 rfl) kb_6 ?_
  refine pz_callS (M := mX9_fills) (N := mX9_isWithin) (d' := 0) (bc1 := 0) (bs1 := 0) (bc2 := bc) (bs2 := bs) (pc' := 7) [.int l1, .int 0, .int 6] sX9_196 rfl (pz_dc dX9_fills 3 rfl) rfl (Nat.le_of_ble_eq_true rfl) (Nat.le_of_ble_eq_true rfl) rfl (by omega) (by omega) (by omega) ?_
  refine cX9_isWithin ?_
  show pz_V mX9_fills _ _ _ _ _ 7 [(0, .ref l0), (1, .int l1), (2, .int l2)] [.int (eX9_isWithin l1 ((0 : Int32)) ((6 : Int32)))] h
  refine pz_if_eq (pc' := 10) (tgt := 20) rfl (pz_dc dX9_fills 4 rfl) (by decide) (fun hc => ?_) (fun hc => ?_)
  · replace hb := hb.1 hc
    refine pz_iconst (pc' := 21) (v := (-1)) rfl (pz_dc dX9_fills 10 rfl) ki_m1 ?_
    exact pz_iret (pz_dc dX9_fills 11 rfl) rfl hb
  · replace hb := hb.2 hc
    refine pz_iload_n (pc' := 11) (x := l2) 2 rfl (pz_dc dX9_fills 5 rfl) rfl ?_
    refine pz_iconst (pc' := 12) (v := 0) rfl (pz_dc dX9_fills 6 rfl) ki_0 ?_
    refine pz_bipush (pc' := 14) (v := 40) rfl (pz_dc dX9_fills 7 rfl) kb_40 ?_
    refine pz_callS (M := mX9_fills) (N := mX9_isWithin) (d' := 0) (bc1 := 0) (bs1 := 0) (bc2 := bc) (bs2 := bs) (pc' := 17) [.int l2, .int 0, .int 40] sX9_196 rfl (pz_dc dX9_fills 8 rfl) rfl (Nat.le_of_ble_eq_true rfl) (Nat.le_of_ble_eq_true rfl) rfl (by omega) (by omega) (by omega) ?_
    refine cX9_isWithin ?_
    show pz_V mX9_fills _ _ _ _ _ 17 [(0, .ref l0), (1, .int l1), (2, .int l2)] [.int (eX9_isWithin l2 ((0 : Int32)) ((40 : Int32)))] h
    refine pz_if_ne (pc' := 20) (tgt := 22) rfl (pz_dc dX9_fills 9 rfl) (by decide) (fun hc => ?_) (fun hc => ?_)
    · replace hb := hb.1 hc
      refine pz_iload_n (pc' := 23) (x := l1) 1 rfl (pz_dc dX9_fills 12 rfl) rfl ?_
      refine pz_aload_n (pc' := 24) (x := l0) 0 rfl (pz_dc dX9_fills 13 rfl) rfl ?_
      refine pz_getR (M := mX9_fills) hb fX9_26 (pc' := 27) rfl (pz_dc dX9_fills 14 rfl) (fun a1 hb => ?_)
      obtain ⟨⟨fs3, hf4⟩, hb⟩ := hb
      refine pz_callV (M := mX9_fills) (N := mX1_size) (d' := 0) (bc1 := 0) (bs1 := 0) (bc2 := bc) (bs2 := bs) (pc' := 30) [] vX9_208 rfl (pz_dc dX9_fills 15 rfl) rfl (Nat.le_of_ble_eq_true rfl) (Nat.le_of_ble_eq_true rfl) rfl (by omega) (by omega) (by omega) hf4 ?_
      refine pz_aload_n (pc' := 1) (x := a1) 0 rfl (pz_dc dX1_size 0 rfl) rfl ?_
      refine pz_getI (M := mX1_size) hb fX1_24 (pc' := 4) rfl (pz_dc dX1_size 1 rfl) (fun x2 hb => ?_)
      refine pz_iret (pz_dc dX1_size 2 rfl) rfl ?_
      show pz_V mX9_fills _ _ _ _ _ 30 [(0, .ref l0), (1, .int l1), (2, .int l2)] [.int x2, .int l1] h
      refine pz_icmp_le (pc' := 33) (tgt := 36) rfl (pz_dc dX9_fills 16 rfl) (by decide) (fun hc => ?_) (fun hc => ?_)
      · replace hb := hb.1 hc
        refine pz_iconst (pc' := 37) (v := (-1)) rfl (pz_dc dX9_fills 19 rfl) ki_m1 ?_
        refine pz_istore_n (pc' := 38) (lv' := [(3, .int ((-1))), (0, .ref l0), (1, .int l1), (2, .int l2)]) rfl (pz_dc dX9_fills 20 rfl) (by decide) rfl ?_
        refine pz_iconst (pc' := 39) (v := 0) rfl (pz_dc dX9_fills 21 rfl) ki_0 ?_
        refine pz_istore (pc' := 41) (lv' := [(4, .int 0), (3, .int ((-1))), (0, .ref l0), (1, .int l1), (2, .int l2)]) rfl (pz_dc dX9_fills 22 rfl) (by decide) rfl ?_
        refine pz_iconst (pc' := 42) (v := 0) rfl (pz_dc dX9_fills 23 rfl) ki_0 ?_
        refine pz_istore (pc' := 44) (lv' := [(5, .int 0), (4, .int 0), (3, .int ((-1))), (0, .ref l0), (1, .int l1), (2, .int l2)]) rfl (pz_dc dX9_fills 24 rfl) (by decide) rfl ?_
        refine pz_lv (lv' := [(0, .ref l0), (1, .int l1), (2, .int l2), (3, .int ((-1))), (4, .int 0), (5, .int 0)]) [3, 4, 5, 2, 1, 0] rfl ?_
        exact hb
      · replace hb := hb.2 hc
        refine pz_bipush (pc' := 35) (v := (-2)) rfl (pz_dc dX9_fills 17 rfl) kb_m2 ?_
        exact pz_iret (pz_dc dX9_fills 18 rfl) rfl hb
    · replace hb := hb.2 hc
      refine pz_iconst (pc' := 21) (v := (-1)) rfl (pz_dc dX9_fills 10 rfl) ki_m1 ?_
      exact pz_iret (pz_dc dX9_fills 11 rfl) rfl hb
set_option maxRecDepth 20000 in
set_option maxHeartbeats 4000000 in
theorem wX9_fills_44 {Ex : State → Nat → Prop} {Q : Option Value → pz_H → Prop} {d bc bs : Nat} {l0 : Nat} {l1 : Int32} {l2 : Int32} {l3 : Int32} {l4 : Int32} {l5 : Int32}  {h : pz_H} (hD : 5 ≤ d) (hb : pz_gR h l0 9 2 (fun (a1 : Nat) => pz_is h a1 1 ∧ (pz_gI h a1 1 4 (fun (x2 : Int32) => ((eX1_all x2) < l5 → pz_gR h l0 9 1 (fun (a6 : Nat) => pz_is h a6 4 ∧ (pz_kv mX4_tell 1 0 0 (.ref a6 :: [.long l4.toInt64]) h (fun (h7 : pz_H) => Q (some (.int l3)) h7)))) ∧ (¬ (eX1_all x2) < l5 → pz_ki mJ6_bitCount_0f7a4 0 0 0 ([.int l5]) h (fun (x9 : Int32) (h8 : pz_H) => (¬ x9 = l1 → pz_V mX9_fills Ex Q d bc bs 44 [(0, .ref l0), (1, .int l1), (2, .int l2), (3, .int l3), (4, .int l4), (5, .int (l5 + (1 : Int32)))] [] h8) ∧ (x9 = l1 → pz_is h8 l0 9 ∧ (pz_kv mX9_startTrial 2 0 0 (.ref l0 :: []) h8 (fun (h10 : pz_H) => pz_gR h10 l0 9 5 (fun (a11 : Nat) => pz_pF h10 a11 8 5 (.int l5) (fun (h12 : pz_H) => pz_gR h12 l0 9 2 (fun (a13 : Nat) => pz_gR h12 l0 9 5 (fun (a14 : Nat) => pz_gR h12 l0 9 12 (fun (a15 : Nat) => pz_is h12 a13 1 ∧ (pz_kv mX1_passDays 4 0 0 (.ref a13 :: [.ref a14, .ref a15, .int l2]) h12 (fun (h16 : pz_H) => pz_gR h16 l0 9 2 (fun (a17 : Nat) => pz_gR h16 l0 9 5 (fun (a18 : Nat) => pz_is h16 a17 1 ∧ (pz_ki mX1_total 2 0 0 (.ref a17 :: [.ref a18]) h16 (fun (x20 : Int32) (h19 : pz_H) => (x20 ≤ l3 → pz_V mX9_fills Ex Q d bc bs 44 [(0, .ref l0), (1, .int l1), (2, .int l2), (3, .int l3), (4, .int l4), (5, .int (l5 + (1 : Int32)))] [] h19) ∧ (¬ x20 ≤ l3 → pz_V mX9_fills Ex Q d bc bs 44 [(0, .ref l0), (1, .int l1), (2, .int l2), (3, .int x20), (4, .int l5), (5, .int (l5 + (1 : Int32)))] [] h19))))))))))))))))))))) : pz_V mX9_fills Ex Q d bc bs 44 [(0, .ref l0), (1, .int l1), (2, .int l2), (3, .int l3), (4, .int l4), (5, .int l5)] [] h := by
  refine pz_iload (pc' := 46) (x := l5) 5 rfl (pz_dc dX9_fills 25 rfl) rfl ?_
  refine pz_aload_n (pc' := 47) (x := l0) 0 rfl (pz_dc dX9_fills 26 rfl) rfl ?_
  refine pz_getR (M := mX9_fills) hb fX9_26 (pc' := 50) rfl (pz_dc dX9_fills 27 rfl) (fun a1 hb => ?_)
  obtain ⟨⟨fs21, hf22⟩, hb⟩ := hb
  obtain ⟨fs3, x2, g4, g5, hb⟩ := hb
  refine pz_callV (M := mX9_fills) (N := mX1_all) (d' := 0) (bc1 := 0) (bs1 := 0) (bc2 := bc) (bs2 := bs) (pc' := 53) [] vX9_257 rfl (pz_dc dX9_fills 28 rfl) rfl (Nat.le_of_ble_eq_true rfl) (Nat.le_of_ble_eq_true rfl) rfl (by omega) (by omega) (by omega) hf22 ?_
  refine cX1_all ⟨fs3, x2, g4, g5, ?_⟩
  show pz_V mX9_fills _ _ _ _ _ 53 [(0, .ref l0), (1, .int l1), (2, .int l2), (3, .int l3), (4, .int l4), (5, .int l5)] [.int (eX1_all x2), .int l5] h
  refine pz_icmp_gt (pc' := 56) (tgt := 126) rfl (pz_dc dX9_fills 29 rfl) (by decide) (fun hc => ?_) (fun hc => ?_)
  · replace hb := hb.1 hc
    refine pz_aload_n (pc' := 127) (x := l0) 0 rfl (pz_dc dX9_fills 63 rfl) rfl ?_
    refine pz_getR (M := mX9_fills) hb fX9_19 (pc' := 130) rfl (pz_dc dX9_fills 64 rfl) (fun a6 hb => ?_)
    refine pz_iload (pc' := 132) (x := l4) 4 rfl (pz_dc dX9_fills 65 rfl) rfl ?_
    refine pz_i2l (pc' := 133) rfl (pz_dc dX9_fills 66 rfl) ?_
    refine pz_cVv (M := mX9_fills) (N := mX4_tell) (d' := 1) (bc1 := 0) (bs1 := 0) (bc2 := bc) (bs2 := bs) (pc' := 136) [.long l4.toInt64] hb vX9_212 rfl (pz_dc dX9_fills 67 rfl) rfl (Nat.le_of_ble_eq_true rfl) (Nat.le_of_ble_eq_true rfl) rfl (by omega) (by omega) (by omega) (fun h7 hb => ?_)
    refine pz_iload_n (pc' := 137) (x := l3) 3 rfl (pz_dc dX9_fills 68 rfl) rfl ?_
    exact pz_iret (pz_dc dX9_fills 69 rfl) rfl hb
  · replace hb := hb.2 hc
    refine pz_iload (pc' := 58) (x := l5) 5 rfl (pz_dc dX9_fills 30 rfl) rfl ?_
    refine pz_cSi (M := mX9_fills) (N := mJ6_bitCount_0f7a4) (d' := 0) (bc1 := 0) (bs1 := 0) (bc2 := bc) (bs2 := bs) (pc' := 61) [.int l5] hb sX9_238 rfl (pz_dc dX9_fills 31 rfl) rfl (Nat.le_of_ble_eq_true rfl) (Nat.le_of_ble_eq_true rfl) rfl (by omega) (by omega) (by omega) (fun x9 h8 hb => ?_)
    refine pz_iload_n (pc' := 62) (x := l1) 1 rfl (pz_dc dX9_fills 32 rfl) rfl ?_
    refine pz_icmp_ne (pc' := 65) (tgt := 120) rfl (pz_dc dX9_fills 33 rfl) (by decide) (fun hc => ?_) (fun hc => ?_)
    · replace hb := hb.1 hc
      refine pz_iinc (pc' := 123) (x := l5) (v := l5 + (1 : Int32)) (lv' := [(5, .int (l5 + (1 : Int32))), (0, .ref l0), (1, .int l1), (2, .int l2), (3, .int l3), (4, .int l4)]) 5 rfl (pz_dc dX9_fills 61 rfl) rfl rfl (by decide) rfl ?_
      refine pz_goto (pc' := 44) (pz_dc dX9_fills 62 rfl) (by decide) ?_
      refine pz_lv (lv' := [(0, .ref l0), (1, .int l1), (2, .int l2), (3, .int l3), (4, .int l4), (5, .int (l5 + (1 : Int32)))]) [1, 2, 3, 4, 5, 0] rfl ?_
      exact hb
    · replace hb := hb.2 hc
      refine pz_aload_n (pc' := 66) (x := l0) 0 rfl (pz_dc dX9_fills 34 rfl) rfl ?_
      refine pz_cVv (M := mX9_fills) (N := mX9_startTrial) (d' := 2) (bc1 := 0) (bs1 := 0) (bc2 := bc) (bs2 := bs) (pc' := 69) [] hb vX9_200 rfl (pz_dc dX9_fills 35 rfl) rfl (Nat.le_of_ble_eq_true rfl) (Nat.le_of_ble_eq_true rfl) rfl (by omega) (by omega) (by omega) (fun h10 hb => ?_)
      refine pz_aload_n (pc' := 70) (x := l0) 0 rfl (pz_dc dX9_fills 36 rfl) rfl ?_
      refine pz_getR (M := mX9_fills) hb fX9_40 (pc' := 73) rfl (pz_dc dX9_fills 37 rfl) (fun a11 hb => ?_)
      refine pz_iload (pc' := 75) (x := l5) 5 rfl (pz_dc dX9_fills 38 rfl) rfl ?_
      refine pz_putv (M := mX9_fills) hb (pX9_260 _ rfl) rfl rfl (pc' := 78) rfl (pz_dc dX9_fills 39 rfl) (fun h12 hb => ?_)
      refine pz_aload_n (pc' := 79) (x := l0) 0 rfl (pz_dc dX9_fills 40 rfl) rfl ?_
      refine pz_getR (M := mX9_fills) hb fX9_26 (pc' := 82) rfl (pz_dc dX9_fills 41 rfl) (fun a13 hb => ?_)
      refine pz_aload_n (pc' := 83) (x := l0) 0 rfl (pz_dc dX9_fills 42 rfl) rfl ?_
      refine pz_getR (M := mX9_fills) hb fX9_40 (pc' := 86) rfl (pz_dc dX9_fills 43 rfl) (fun a14 hb => ?_)
      refine pz_aload_n (pc' := 87) (x := l0) 0 rfl (pz_dc dX9_fills 44 rfl) rfl ?_
      refine pz_getR (M := mX9_fills) hb fX9_78 (pc' := 90) rfl (pz_dc dX9_fills 45 rfl) (fun a15 hb => ?_)
      refine pz_iload_n (pc' := 91) (x := l2) 2 rfl (pz_dc dX9_fills 46 rfl) rfl ?_
      refine pz_cVv (M := mX9_fills) (N := mX1_passDays) (d' := 4) (bc1 := 0) (bs1 := 0) (bc2 := bc) (bs2 := bs) (pc' := 94) [.ref a14, .ref a15, .int l2] hb vX9_203 rfl (pz_dc dX9_fills 47 rfl) rfl (Nat.le_of_ble_eq_true rfl) (Nat.le_of_ble_eq_true rfl) rfl (by omega) (by omega) (by omega) (fun h16 hb => ?_)
      refine pz_aload_n (pc' := 95) (x := l0) 0 rfl (pz_dc dX9_fills 48 rfl) rfl ?_
      refine pz_getR (M := mX9_fills) hb fX9_26 (pc' := 98) rfl (pz_dc dX9_fills 49 rfl) (fun a17 hb => ?_)
      refine pz_aload_n (pc' := 99) (x := l0) 0 rfl (pz_dc dX9_fills 50 rfl) rfl ?_
      refine pz_getR (M := mX9_fills) hb fX9_40 (pc' := 102) rfl (pz_dc dX9_fills 51 rfl) (fun a18 hb => ?_)
      refine pz_cVi (M := mX9_fills) (N := mX1_total) (d' := 2) (bc1 := 0) (bs1 := 0) (bc2 := bc) (bs2 := bs) (pc' := 105) [.ref a18] hb vX9_153 rfl (pz_dc dX9_fills 52 rfl) rfl (Nat.le_of_ble_eq_true rfl) (Nat.le_of_ble_eq_true rfl) rfl (by omega) (by omega) (by omega) (fun x20 h19 hb => ?_)
      refine pz_istore (pc' := 107) (lv' := [(6, .int x20), (0, .ref l0), (1, .int l1), (2, .int l2), (3, .int l3), (4, .int l4), (5, .int l5)]) rfl (pz_dc dX9_fills 53 rfl) (by decide) rfl ?_
      refine pz_iload (pc' := 109) (x := x20) 0 rfl (pz_dc dX9_fills 54 rfl) rfl ?_
      refine pz_iload_n (pc' := 110) (x := l3) 4 rfl (pz_dc dX9_fills 55 rfl) rfl ?_
      refine pz_icmp_le (pc' := 113) (tgt := 120) rfl (pz_dc dX9_fills 56 rfl) (by decide) (fun hc => ?_) (fun hc => ?_)
      · replace hb := hb.1 hc
        refine pz_iinc (pc' := 123) (x := l5) (v := l5 + (1 : Int32)) (lv' := [(5, .int (l5 + (1 : Int32))), (6, .int x20), (0, .ref l0), (1, .int l1), (2, .int l2), (3, .int l3), (4, .int l4)]) 6 rfl (pz_dc dX9_fills 61 rfl) rfl rfl (by decide) rfl ?_
        refine pz_goto (pc' := 44) (pz_dc dX9_fills 62 rfl) (by decide) ?_
        refine pz_lv (lv' := [(0, .ref l0), (1, .int l1), (2, .int l2), (3, .int l3), (4, .int l4), (5, .int (l5 + (1 : Int32)))]) [2, 3, 4, 5, 6, 0] rfl ?_
        exact hb
      · replace hb := hb.2 hc
        refine pz_iload (pc' := 115) (x := x20) 0 rfl (pz_dc dX9_fills 57 rfl) rfl ?_
        refine pz_istore_n (pc' := 116) (lv' := [(3, .int x20), (6, .int x20), (0, .ref l0), (1, .int l1), (2, .int l2), (4, .int l4), (5, .int l5)]) rfl (pz_dc dX9_fills 58 rfl) (by decide) rfl ?_
        refine pz_iload (pc' := 118) (x := l5) 6 rfl (pz_dc dX9_fills 59 rfl) rfl ?_
        refine pz_istore (pc' := 120) (lv' := [(4, .int l5), (3, .int x20), (6, .int x20), (0, .ref l0), (1, .int l1), (2, .int l2), (5, .int l5)]) rfl (pz_dc dX9_fills 60 rfl) (by decide) rfl ?_
        refine pz_iinc (pc' := 123) (x := l5) (v := l5 + (1 : Int32)) (lv' := [(5, .int (l5 + (1 : Int32))), (4, .int l5), (3, .int x20), (6, .int x20), (0, .ref l0), (1, .int l1), (2, .int l2)]) 6 rfl (pz_dc dX9_fills 61 rfl) rfl rfl (by decide) rfl ?_
        refine pz_goto (pc' := 44) (pz_dc dX9_fills 62 rfl) (by decide) ?_
        refine pz_lv (lv' := [(0, .ref l0), (1, .int l1), (2, .int l2), (3, .int x20), (4, .int l5), (5, .int (l5 + (1 : Int32)))]) [4, 5, 6, 2, 1, 0] rfl ?_
        exact hb
set_option maxRecDepth 20000 in
set_option maxHeartbeats 4000000 in
theorem wX9_needs_0 {Ex : State → Nat → Prop} {Q : Option Value → pz_H → Prop} {d bc bs : Nat} {l0 : Nat} {l1 : Int32} {l2 : Int32} {l3 : Int32}  {h : pz_H} (hD : 5 ≤ d) (hb : pz_gR h l0 9 2 (fun (a1 : Nat) => pz_is h a1 1 ∧ (pz_gI h a1 1 4 (fun (x2 : Int32) => ((eX1_has l1 x2) = 0 → Q (some (.int ((-1)))) h) ∧ (¬ (eX1_has l1 x2) = 0 → ((eX9_isWithin l2 ((0 : Int32)) ((99 : Int32))) = 0 → Q (some (.int ((-1)))) h) ∧ (¬ (eX9_isWithin l2 ((0 : Int32)) ((99 : Int32))) = 0 → (¬ (eX9_isWithin l3 ((0 : Int32)) ((60 : Int32))) = 0 → pz_V mX9_needs Ex Q d bc bs 36 [(0, .ref l0), (1, .int l1), (2, .int l2), (3, .int l3), (4, .int 0)] [] h) ∧ ((eX9_isWithin l3 ((0 : Int32)) ((60 : Int32))) = 0 → Q (some (.int ((-1)))) h))))))) : pz_V mX9_needs Ex Q d bc bs 0 [(0, .ref l0), (1, .int l1), (2, .int l2), (3, .int l3)] [] h := by
  refine pz_aload_n (pc' := 1) (x := l0) 0 rfl (pz_dc dX9_needs 0 rfl) rfl ?_
  refine pz_getR (M := mX9_needs) hb fX9_26 (pc' := 4) rfl (pz_dc dX9_needs 1 rfl) (fun a1 hb => ?_)
  refine pz_iload_n (pc' := 5) (x := l1) 1 rfl (pz_dc dX9_needs 2 rfl) rfl ?_
  obtain ⟨⟨fs6, hf7⟩, hb⟩ := hb
  obtain ⟨fs3, x2, g4, g5, hb⟩ := hb
  refine pz_callV (M := mX9_needs) (N := mX1_has) (d' := 0) (bc1 := 0) (bs1 := 0) (bc2 := bc) (bs2 := bs) (pc' := 8) [.int l1] vX9_115 rfl (pz_dc dX9_needs 3 rfl) rfl (Nat.le_of_ble_eq_true rfl) (Nat.le_of_ble_eq_true rfl) rfl (by omega) (by omega) (by omega) hf7 ?_
  refine cX1_has ⟨fs3, x2, g4, g5, ?_⟩
  show pz_V mX9_needs _ _ _ _ _ 8 [(0, .ref l0), (1, .int l1), (2, .int l2), (3, .int l3)] [.int (eX1_has l1 x2)] h
  refine pz_if_eq (pc' := 11) (tgt := 31) rfl (pz_dc dX9_needs 4 rfl) (by decide) (fun hc => ?_) (fun hc => ?_)
  · replace hb := hb.1 hc
    refine pz_iconst (pc' := 32) (v := (-1)) rfl (pz_dc dX9_needs 15 rfl) ki_m1 ?_
    exact pz_iret (pz_dc dX9_needs 16 rfl) rfl hb
  · replace hb := hb.2 hc
    refine pz_iload_n (pc' := 12) (x := l2) 2 rfl (pz_dc dX9_needs 5 rfl) rfl ?_
    refine pz_iconst (pc' := 13) (v := 0) rfl (pz_dc dX9_needs 6 rfl) ki_0 ?_
    refine pz_bipush (pc' := 15) (v := 99) rfl (pz_dc dX9_needs 7 rfl) kb_99 ?_
    refine pz_callS (M := mX9_needs) (N := mX9_isWithin) (d' := 0) (bc1 := 0) (bs1 := 0) (bc2 := bc) (bs2 := bs) (pc' := 18) [.int l2, .int 0, .int 99] sX9_196 rfl (pz_dc dX9_needs 8 rfl) rfl (Nat.le_of_ble_eq_true rfl) (Nat.le_of_ble_eq_true rfl) rfl (by omega) (by omega) (by omega) ?_
    refine cX9_isWithin ?_
    show pz_V mX9_needs _ _ _ _ _ 18 [(0, .ref l0), (1, .int l1), (2, .int l2), (3, .int l3)] [.int (eX9_isWithin l2 ((0 : Int32)) ((99 : Int32)))] h
    refine pz_if_eq (pc' := 21) (tgt := 31) rfl (pz_dc dX9_needs 9 rfl) (by decide) (fun hc => ?_) (fun hc => ?_)
    · replace hb := hb.1 hc
      refine pz_iconst (pc' := 32) (v := (-1)) rfl (pz_dc dX9_needs 15 rfl) ki_m1 ?_
      exact pz_iret (pz_dc dX9_needs 16 rfl) rfl hb
    · replace hb := hb.2 hc
      refine pz_iload_n (pc' := 22) (x := l3) 3 rfl (pz_dc dX9_needs 10 rfl) rfl ?_
      refine pz_iconst (pc' := 23) (v := 0) rfl (pz_dc dX9_needs 11 rfl) ki_0 ?_
      refine pz_bipush (pc' := 25) (v := 60) rfl (pz_dc dX9_needs 12 rfl) kb_60 ?_
      refine pz_callS (M := mX9_needs) (N := mX9_isWithin) (d' := 0) (bc1 := 0) (bs1 := 0) (bc2 := bc) (bs2 := bs) (pc' := 28) [.int l3, .int 0, .int 60] sX9_196 rfl (pz_dc dX9_needs 13 rfl) rfl (Nat.le_of_ble_eq_true rfl) (Nat.le_of_ble_eq_true rfl) rfl (by omega) (by omega) (by omega) ?_
      refine cX9_isWithin ?_
      show pz_V mX9_needs _ _ _ _ _ 28 [(0, .ref l0), (1, .int l1), (2, .int l2), (3, .int l3)] [.int (eX9_isWithin l3 ((0 : Int32)) ((60 : Int32)))] h
      refine pz_if_ne (pc' := 31) (tgt := 33) rfl (pz_dc dX9_needs 14 rfl) (by decide) (fun hc => ?_) (fun hc => ?_)
      · replace hb := hb.1 hc
        refine pz_iconst (pc' := 34) (v := 0) rfl (pz_dc dX9_needs 17 rfl) ki_0 ?_
        refine pz_istore (pc' := 36) (lv' := [(4, .int 0), (0, .ref l0), (1, .int l1), (2, .int l2), (3, .int l3)]) rfl (pz_dc dX9_needs 18 rfl) (by decide) rfl ?_
        refine pz_lv (lv' := [(0, .ref l0), (1, .int l1), (2, .int l2), (3, .int l3), (4, .int 0)]) [1, 2, 3, 4, 0] rfl ?_
        exact hb
      · replace hb := hb.2 hc
        refine pz_iconst (pc' := 32) (v := (-1)) rfl (pz_dc dX9_needs 15 rfl) ki_m1 ?_
        exact pz_iret (pz_dc dX9_needs 16 rfl) rfl hb
set_option maxRecDepth 20000 in
set_option maxHeartbeats 4000000 in
theorem wX9_needs_36 {Ex : State → Nat → Prop} {Q : Option Value → pz_H → Prop} {d bc bs : Nat} {l0 : Nat} {l1 : Int32} {l2 : Int32} {l3 : Int32} {l4 : Int32}  {h : pz_H} (hD : 5 ≤ d) (hb : (((9 : Int32)) < l4 → Q (some (.int ((-2)))) h) ∧ (¬ ((9 : Int32)) < l4 → pz_is h l0 9 ∧ (pz_kv mX9_startTrial 2 0 0 (.ref l0 :: []) h (fun (h1 : pz_H) => pz_gR h1 l0 9 5 (fun (a2 : Nat) => pz_gR h1 a2 8 2 (fun (a3 : Nat) => pz_sI h1 a3 l1 l4 (fun (h4 : pz_H) => pz_gR h4 l0 9 2 (fun (a5 : Nat) => pz_gR h4 l0 9 5 (fun (a6 : Nat) => pz_gR h4 l0 9 12 (fun (a7 : Nat) => pz_is h4 a5 1 ∧ (pz_kv mX1_passDays 4 0 0 (.ref a5 :: [.ref a6, .ref a7, .int l3]) h4 (fun (h8 : pz_H) => pz_gR h8 l0 9 5 (fun (a9 : Nat) => pz_gR h8 a9 8 0 (fun (a10 : Nat) => pz_rI h8 a10 l1 (fun (x11 : Int32) => (x11 < l2 → pz_V mX9_needs Ex Q d bc bs 36 [(0, .ref l0), (1, .int l1), (2, .int l2), (3, .int l3), (4, .int (l4 + (1 : Int32)))] [] h8) ∧ (¬ x11 < l2 → pz_gR h8 l0 9 1 (fun (a12 : Nat) => pz_gR h8 l0 9 5 (fun (a13 : Nat) => pz_gR h8 a13 8 0 (fun (a14 : Nat) => pz_rI h8 a14 l1 (fun (x15 : Int32) => pz_is h8 a12 4 ∧ (pz_kv mX4_tell 1 0 0 (.ref a12 :: [.long x15.toInt64]) h8 (fun (h16 : pz_H) => Q (some (.int l4)) h16)))))))))))))))))))))) : pz_V mX9_needs Ex Q d bc bs 36 [(0, .ref l0), (1, .int l1), (2, .int l2), (3, .int l3), (4, .int l4)] [] h := by
  refine pz_iload (pc' := 38) (x := l4) 4 rfl (pz_dc dX9_needs 19 rfl) rfl ?_
  refine pz_bipush (pc' := 40) (v := 9) rfl (pz_dc dX9_needs 20 rfl) kb_9 ?_
  refine pz_icmp_gt (pc' := 43) (tgt := 113) rfl (pz_dc dX9_needs 21 rfl) (by decide) (fun hc => ?_) (fun hc => ?_)
  · replace hb := hb.1 hc
    refine pz_bipush (pc' := 115) (v := (-2)) rfl (pz_dc dX9_needs 58 rfl) kb_m2 ?_
    exact pz_iret (pz_dc dX9_needs 59 rfl) rfl hb
  · replace hb := hb.2 hc
    refine pz_aload_n (pc' := 44) (x := l0) 0 rfl (pz_dc dX9_needs 22 rfl) rfl ?_
    refine pz_cVv (M := mX9_needs) (N := mX9_startTrial) (d' := 2) (bc1 := 0) (bs1 := 0) (bc2 := bc) (bs2 := bs) (pc' := 47) [] hb vX9_200 rfl (pz_dc dX9_needs 23 rfl) rfl (Nat.le_of_ble_eq_true rfl) (Nat.le_of_ble_eq_true rfl) rfl (by omega) (by omega) (by omega) (fun h1 hb => ?_)
    refine pz_aload_n (pc' := 48) (x := l0) 0 rfl (pz_dc dX9_needs 24 rfl) rfl ?_
    refine pz_getR (M := mX9_needs) hb fX9_40 (pc' := 51) rfl (pz_dc dX9_needs 25 rfl) (fun a2 hb => ?_)
    refine pz_getR (M := mX9_needs) hb fX9_124 (pc' := 54) rfl (pz_dc dX9_needs 26 rfl) (fun a3 hb => ?_)
    refine pz_iload_n (pc' := 55) (x := l1) 1 rfl (pz_dc dX9_needs 27 rfl) rfl ?_
    refine pz_iload (pc' := 57) (x := l4) 4 rfl (pz_dc dX9_needs 28 rfl) rfl ?_
    refine pz_stI hb (pc' := 58) rfl (pz_dc dX9_needs 29 rfl) (fun h4 hb => ?_)
    refine pz_aload_n (pc' := 59) (x := l0) 0 rfl (pz_dc dX9_needs 30 rfl) rfl ?_
    refine pz_getR (M := mX9_needs) hb fX9_26 (pc' := 62) rfl (pz_dc dX9_needs 31 rfl) (fun a5 hb => ?_)
    refine pz_aload_n (pc' := 63) (x := l0) 0 rfl (pz_dc dX9_needs 32 rfl) rfl ?_
    refine pz_getR (M := mX9_needs) hb fX9_40 (pc' := 66) rfl (pz_dc dX9_needs 33 rfl) (fun a6 hb => ?_)
    refine pz_aload_n (pc' := 67) (x := l0) 0 rfl (pz_dc dX9_needs 34 rfl) rfl ?_
    refine pz_getR (M := mX9_needs) hb fX9_78 (pc' := 70) rfl (pz_dc dX9_needs 35 rfl) (fun a7 hb => ?_)
    refine pz_iload_n (pc' := 71) (x := l3) 3 rfl (pz_dc dX9_needs 36 rfl) rfl ?_
    refine pz_cVv (M := mX9_needs) (N := mX1_passDays) (d' := 4) (bc1 := 0) (bs1 := 0) (bc2 := bc) (bs2 := bs) (pc' := 74) [.ref a6, .ref a7, .int l3] hb vX9_203 rfl (pz_dc dX9_needs 37 rfl) rfl (Nat.le_of_ble_eq_true rfl) (Nat.le_of_ble_eq_true rfl) rfl (by omega) (by omega) (by omega) (fun h8 hb => ?_)
    refine pz_aload_n (pc' := 75) (x := l0) 0 rfl (pz_dc dX9_needs 38 rfl) rfl ?_
    refine pz_getR (M := mX9_needs) hb fX9_40 (pc' := 78) rfl (pz_dc dX9_needs 39 rfl) (fun a9 hb => ?_)
    refine pz_getR (M := mX9_needs) hb fX9_136 (pc' := 81) rfl (pz_dc dX9_needs 40 rfl) (fun a10 hb => ?_)
    refine pz_iload_n (pc' := 82) (x := l1) 1 rfl (pz_dc dX9_needs 41 rfl) rfl ?_
    refine pz_ldI hb (pc' := 83) rfl (pz_dc dX9_needs 42 rfl) (fun x11 hb => ?_)
    refine pz_iload_n (pc' := 84) (x := l2) 2 rfl (pz_dc dX9_needs 43 rfl) rfl ?_
    refine pz_icmp_lt (pc' := 87) (tgt := 107) rfl (pz_dc dX9_needs 44 rfl) (by decide) (fun hc => ?_) (fun hc => ?_)
    · replace hb := hb.1 hc
      refine pz_iinc (pc' := 110) (x := l4) (v := l4 + (1 : Int32)) (lv' := [(4, .int (l4 + (1 : Int32))), (0, .ref l0), (1, .int l1), (2, .int l2), (3, .int l3)]) 4 rfl (pz_dc dX9_needs 56 rfl) rfl rfl (by decide) rfl ?_
      refine pz_goto (pc' := 36) (pz_dc dX9_needs 57 rfl) (by decide) ?_
      refine pz_lv (lv' := [(0, .ref l0), (1, .int l1), (2, .int l2), (3, .int l3), (4, .int (l4 + (1 : Int32)))]) [1, 2, 3, 4, 0] rfl ?_
      exact hb
    · replace hb := hb.2 hc
      refine pz_aload_n (pc' := 88) (x := l0) 0 rfl (pz_dc dX9_needs 45 rfl) rfl ?_
      refine pz_getR (M := mX9_needs) hb fX9_19 (pc' := 91) rfl (pz_dc dX9_needs 46 rfl) (fun a12 hb => ?_)
      refine pz_aload_n (pc' := 92) (x := l0) 0 rfl (pz_dc dX9_needs 47 rfl) rfl ?_
      refine pz_getR (M := mX9_needs) hb fX9_40 (pc' := 95) rfl (pz_dc dX9_needs 48 rfl) (fun a13 hb => ?_)
      refine pz_getR (M := mX9_needs) hb fX9_136 (pc' := 98) rfl (pz_dc dX9_needs 49 rfl) (fun a14 hb => ?_)
      refine pz_iload_n (pc' := 99) (x := l1) 1 rfl (pz_dc dX9_needs 50 rfl) rfl ?_
      refine pz_ldI hb (pc' := 100) rfl (pz_dc dX9_needs 51 rfl) (fun x15 hb => ?_)
      refine pz_i2l (pc' := 101) rfl (pz_dc dX9_needs 52 rfl) ?_
      refine pz_cVv (M := mX9_needs) (N := mX4_tell) (d' := 1) (bc1 := 0) (bs1 := 0) (bc2 := bc) (bs2 := bs) (pc' := 104) [.long x15.toInt64] hb vX9_212 rfl (pz_dc dX9_needs 53 rfl) rfl (Nat.le_of_ble_eq_true rfl) (Nat.le_of_ble_eq_true rfl) rfl (by omega) (by omega) (by omega) (fun h16 hb => ?_)
      refine pz_iload (pc' := 106) (x := l4) 4 rfl (pz_dc dX9_needs 54 rfl) rfl ?_
      exact pz_iret (pz_dc dX9_needs 55 rfl) rfl hb
set_option maxRecDepth 20000 in
set_option maxHeartbeats 4000000 in
theorem wX9_crosses_0 {Ex : State → Nat → Prop} {Q : Option Value → pz_H → Prop} {d bc bs : Nat} {l0 : Nat} {l1 : Int32}  {h : pz_H} (hD : 5 ≤ d) (hb : (¬ (eX9_isWithin l1 ((1 : Int32)) ((40 : Int32))) = 0 → pz_gR h l0 9 2 (fun (a1 : Nat) => pz_is h a1 1 ∧ (pz_gI h a1 1 4 (fun (x2 : Int32) => (¬ x2 = 0 → pz_V mX9_crosses Ex Q d bc bs 32 [(0, .ref l0), (1, .int l1), (2, .int 0), (3, .int ((-1))), (4, .int 0)] [] h) ∧ (x2 = 0 → Q (some (.int ((-2)))) h))))) ∧ ((eX9_isWithin l1 ((1 : Int32)) ((40 : Int32))) = 0 → Q (some (.int ((-1)))) h)) : pz_V mX9_crosses Ex Q d bc bs 0 [(0, .ref l0), (1, .int l1)] [] h := by
  refine pz_iload_n (pc' := 1) (x := l1) 1 rfl (pz_dc dX9_crosses 0 rfl) rfl ?_
  refine pz_iconst (pc' := 2) (v := 1) rfl (pz_dc dX9_crosses 1 rfl) ki_1 ?_
  refine pz_bipush (pc' := 4) (v := 40) rfl (pz_dc dX9_crosses 2 rfl) kb_40 ?_
  refine pz_callS (M := mX9_crosses) (N := mX9_isWithin) (d' := 0) (bc1 := 0) (bs1 := 0) (bc2 := bc) (bs2 := bs) (pc' := 7) [.int l1, .int 1, .int 40] sX9_196 rfl (pz_dc dX9_crosses 3 rfl) rfl (Nat.le_of_ble_eq_true rfl) (Nat.le_of_ble_eq_true rfl) rfl (by omega) (by omega) (by omega) ?_
  refine cX9_isWithin ?_
  show pz_V mX9_crosses _ _ _ _ _ 7 [(0, .ref l0), (1, .int l1)] [.int (eX9_isWithin l1 ((1 : Int32)) ((40 : Int32)))] h
  refine pz_if_ne (pc' := 10) (tgt := 12) rfl (pz_dc dX9_crosses 4 rfl) (by decide) (fun hc => ?_) (fun hc => ?_)
  · replace hb := hb.1 hc
    refine pz_aload_n (pc' := 13) (x := l0) 0 rfl (pz_dc dX9_crosses 7 rfl) rfl ?_
    refine pz_getR (M := mX9_crosses) hb fX9_26 (pc' := 16) rfl (pz_dc dX9_crosses 8 rfl) (fun a1 hb => ?_)
    obtain ⟨⟨fs3, hf4⟩, hb⟩ := hb
    refine pz_callV (M := mX9_crosses) (N := mX1_size) (d' := 0) (bc1 := 0) (bs1 := 0) (bc2 := bc) (bs2 := bs) (pc' := 19) [] vX9_208 rfl (pz_dc dX9_crosses 9 rfl) rfl (Nat.le_of_ble_eq_true rfl) (Nat.le_of_ble_eq_true rfl) rfl (by omega) (by omega) (by omega) hf4 ?_
    refine pz_aload_n (pc' := 1) (x := a1) 0 rfl (pz_dc dX1_size 0 rfl) rfl ?_
    refine pz_getI (M := mX1_size) hb fX1_24 (pc' := 4) rfl (pz_dc dX1_size 1 rfl) (fun x2 hb => ?_)
    refine pz_iret (pz_dc dX1_size 2 rfl) rfl ?_
    show pz_V mX9_crosses _ _ _ _ _ 19 [(0, .ref l0), (1, .int l1)] [.int x2] h
    refine pz_if_ne (pc' := 22) (tgt := 25) rfl (pz_dc dX9_crosses 10 rfl) (by decide) (fun hc => ?_) (fun hc => ?_)
    · replace hb := hb.1 hc
      refine pz_iconst (pc' := 26) (v := 0) rfl (pz_dc dX9_crosses 13 rfl) ki_0 ?_
      refine pz_istore_n (pc' := 27) (lv' := [(2, .int 0), (0, .ref l0), (1, .int l1)]) rfl (pz_dc dX9_crosses 14 rfl) (by decide) rfl ?_
      refine pz_iconst (pc' := 28) (v := (-1)) rfl (pz_dc dX9_crosses 15 rfl) ki_m1 ?_
      refine pz_istore_n (pc' := 29) (lv' := [(3, .int ((-1))), (2, .int 0), (0, .ref l0), (1, .int l1)]) rfl (pz_dc dX9_crosses 16 rfl) (by decide) rfl ?_
      refine pz_iconst (pc' := 30) (v := 0) rfl (pz_dc dX9_crosses 17 rfl) ki_0 ?_
      refine pz_istore (pc' := 32) (lv' := [(4, .int 0), (3, .int ((-1))), (2, .int 0), (0, .ref l0), (1, .int l1)]) rfl (pz_dc dX9_crosses 18 rfl) (by decide) rfl ?_
      refine pz_lv (lv' := [(0, .ref l0), (1, .int l1), (2, .int 0), (3, .int ((-1))), (4, .int 0)]) [3, 4, 2, 1, 0] rfl ?_
      exact hb
    · replace hb := hb.2 hc
      refine pz_bipush (pc' := 24) (v := (-2)) rfl (pz_dc dX9_crosses 11 rfl) kb_m2 ?_
      exact pz_iret (pz_dc dX9_crosses 12 rfl) rfl hb
  · replace hb := hb.2 hc
    refine pz_iconst (pc' := 11) (v := (-1)) rfl (pz_dc dX9_crosses 5 rfl) ki_m1 ?_
    exact pz_iret (pz_dc dX9_crosses 6 rfl) rfl hb
set_option maxRecDepth 20000 in
set_option maxHeartbeats 4000000 in
theorem wX9_crosses_32 {Ex : State → Nat → Prop} {Q : Option Value → pz_H → Prop} {d bc bs : Nat} {l0 : Nat} {l1 : Int32} {l2 : Int32} {l3 : Int32} {l4 : Int32}  {h : pz_H} (hD : 5 ≤ d) (hb : pz_gR h l0 9 2 (fun (a1 : Nat) => pz_is h a1 1 ∧ (pz_gI h a1 1 4 (fun (x2 : Int32) => (x2 ≤ l4 → pz_is h l0 9 ∧ (pz_kv mX9_startTrial 2 0 0 (.ref l0 :: []) h (fun (h3 : pz_H) => pz_gR h3 l0 9 2 (fun (a4 : Nat) => pz_gR h3 l0 9 5 (fun (a5 : Nat) => pz_gR h3 l0 9 12 (fun (a6 : Nat) => pz_is h3 a4 1 ∧ (pz_kv mX1_passDays 4 0 0 (.ref a4 :: [.ref a5, .ref a6, .int l1]) h3 (fun (h7 : pz_H) => pz_gR h7 l0 9 1 (fun (a8 : Nat) => pz_gR h7 l0 9 2 (fun (a9 : Nat) => pz_gR h7 l0 9 5 (fun (a10 : Nat) => pz_is h7 a9 1 ∧ (pz_ki mX1_total 2 0 0 (.ref a9 :: [.ref a10]) h7 (fun (x12 : Int32) (h11 : pz_H) => pz_is h11 a8 4 ∧ (pz_kv mX4_tell 1 0 0 (.ref a8 :: [.long (((((1000 : Int32)) + x12) - l2).toInt64)]) h11 (fun (h13 : pz_H) => Q (some (.int l3)) h13))))))))))))))) ∧ (¬ x2 ≤ l4 → pz_is h l0 9 ∧ (pz_kv mX9_startTrial 2 0 0 (.ref l0 :: []) h (fun (h14 : pz_H) => pz_gR h14 l0 9 5 (fun (a15 : Nat) => pz_is h14 a15 8 ∧ (pz_gI h14 a15 8 5 (fun (x16 : Int32) => ((eX9_isIn x16 l4) = 0 → pz_gR h14 l0 9 5 (fun (a17 : Nat) => pz_gI h14 a17 8 5 (fun (x18 : Int32) => pz_pF h14 a17 8 5 (.int (x18 ||| (((1 : Int32)) <<< (l4 &&& 31)))) (fun (h19 : pz_H) => pz_V mX9_crosses Ex Q d bc bs 90 [(0, .ref l0), (1, .int l1), (2, .int l2), (3, .int l3), (4, .int l4)] [] h19)))) ∧ (¬ (eX9_isIn x16 l4) = 0 → pz_gR h14 l0 9 5 (fun (a20 : Nat) => pz_gR h14 a20 8 1 (fun (a21 : Nat) => pz_sI h14 a21 l4 0 (fun (h22 : pz_H) => pz_V mX9_crosses Ex Q d bc bs 90 [(0, .ref l0), (1, .int l1), (2, .int l2), (3, .int l3), (4, .int l4)] [] h22)))))))))))))) : pz_V mX9_crosses Ex Q d bc bs 32 [(0, .ref l0), (1, .int l1), (2, .int l2), (3, .int l3), (4, .int l4)] [] h := by
  refine pz_iload (pc' := 34) (x := l4) 4 rfl (pz_dc dX9_crosses 19 rfl) rfl ?_
  refine pz_aload_n (pc' := 35) (x := l0) 0 rfl (pz_dc dX9_crosses 20 rfl) rfl ?_
  refine pz_getR (M := mX9_crosses) hb fX9_26 (pc' := 38) rfl (pz_dc dX9_crosses 21 rfl) (fun a1 hb => ?_)
  obtain ⟨⟨fs25, hf26⟩, hb⟩ := hb
  refine pz_callV (M := mX9_crosses) (N := mX1_size) (d' := 0) (bc1 := 0) (bs1 := 0) (bc2 := bc) (bs2 := bs) (pc' := 41) [] vX9_208 rfl (pz_dc dX9_crosses 22 rfl) rfl (Nat.le_of_ble_eq_true rfl) (Nat.le_of_ble_eq_true rfl) rfl (by omega) (by omega) (by omega) hf26 ?_
  refine pz_aload_n (pc' := 1) (x := a1) 0 rfl (pz_dc dX1_size 0 rfl) rfl ?_
  refine pz_getI (M := mX1_size) hb fX1_24 (pc' := 4) rfl (pz_dc dX1_size 1 rfl) (fun x2 hb => ?_)
  refine pz_iret (pz_dc dX1_size 2 rfl) rfl ?_
  show pz_V mX9_crosses _ _ _ _ _ 41 [(0, .ref l0), (1, .int l1), (2, .int l2), (3, .int l3), (4, .int l4)] [.int x2, .int l4] h
  refine pz_icmp_ge (pc' := 44) (tgt := 142) rfl (pz_dc dX9_crosses 23 rfl) (by decide) (fun hc => ?_) (fun hc => ?_)
  · replace hb := hb.1 hc
    refine pz_aload_n (pc' := 143) (x := l0) 0 rfl (pz_dc dX9_crosses 73 rfl) rfl ?_
    refine pz_cVv (M := mX9_crosses) (N := mX9_startTrial) (d' := 2) (bc1 := 0) (bs1 := 0) (bc2 := bc) (bs2 := bs) (pc' := 146) [] hb vX9_200 rfl (pz_dc dX9_crosses 74 rfl) rfl (Nat.le_of_ble_eq_true rfl) (Nat.le_of_ble_eq_true rfl) rfl (by omega) (by omega) (by omega) (fun h3 hb => ?_)
    refine pz_aload_n (pc' := 147) (x := l0) 0 rfl (pz_dc dX9_crosses 75 rfl) rfl ?_
    refine pz_getR (M := mX9_crosses) hb fX9_26 (pc' := 150) rfl (pz_dc dX9_crosses 76 rfl) (fun a4 hb => ?_)
    refine pz_aload_n (pc' := 151) (x := l0) 0 rfl (pz_dc dX9_crosses 77 rfl) rfl ?_
    refine pz_getR (M := mX9_crosses) hb fX9_40 (pc' := 154) rfl (pz_dc dX9_crosses 78 rfl) (fun a5 hb => ?_)
    refine pz_aload_n (pc' := 155) (x := l0) 0 rfl (pz_dc dX9_crosses 79 rfl) rfl ?_
    refine pz_getR (M := mX9_crosses) hb fX9_78 (pc' := 158) rfl (pz_dc dX9_crosses 80 rfl) (fun a6 hb => ?_)
    refine pz_iload_n (pc' := 159) (x := l1) 1 rfl (pz_dc dX9_crosses 81 rfl) rfl ?_
    refine pz_cVv (M := mX9_crosses) (N := mX1_passDays) (d' := 4) (bc1 := 0) (bs1 := 0) (bc2 := bc) (bs2 := bs) (pc' := 162) [.ref a5, .ref a6, .int l1] hb vX9_203 rfl (pz_dc dX9_crosses 82 rfl) rfl (Nat.le_of_ble_eq_true rfl) (Nat.le_of_ble_eq_true rfl) rfl (by omega) (by omega) (by omega) (fun h7 hb => ?_)
    refine pz_aload_n (pc' := 163) (x := l0) 0 rfl (pz_dc dX9_crosses 83 rfl) rfl ?_
    refine pz_getR (M := mX9_crosses) hb fX9_19 (pc' := 166) rfl (pz_dc dX9_crosses 84 rfl) (fun a8 hb => ?_)
    refine pz_sipush (pc' := 169) (v := 1000) rfl (pz_dc dX9_crosses 85 rfl) ks_1000 ?_
    refine pz_aload_n (pc' := 170) (x := l0) 0 rfl (pz_dc dX9_crosses 86 rfl) rfl ?_
    refine pz_getR (M := mX9_crosses) hb fX9_26 (pc' := 173) rfl (pz_dc dX9_crosses 87 rfl) (fun a9 hb => ?_)
    refine pz_aload_n (pc' := 174) (x := l0) 0 rfl (pz_dc dX9_crosses 88 rfl) rfl ?_
    refine pz_getR (M := mX9_crosses) hb fX9_40 (pc' := 177) rfl (pz_dc dX9_crosses 89 rfl) (fun a10 hb => ?_)
    refine pz_cVi (M := mX9_crosses) (N := mX1_total) (d' := 2) (bc1 := 0) (bs1 := 0) (bc2 := bc) (bs2 := bs) (pc' := 180) [.ref a10] hb vX9_153 rfl (pz_dc dX9_crosses 90 rfl) rfl (Nat.le_of_ble_eq_true rfl) (Nat.le_of_ble_eq_true rfl) rfl (by omega) (by omega) (by omega) (fun x12 h11 hb => ?_)
    refine pz_iadd (pc' := 181) rfl (pz_dc dX9_crosses 91 rfl) ?_
    refine pz_iload_n (pc' := 182) (x := l2) 2 rfl (pz_dc dX9_crosses 92 rfl) rfl ?_
    refine pz_isub (pc' := 183) rfl (pz_dc dX9_crosses 93 rfl) ?_
    refine pz_i2l (pc' := 184) rfl (pz_dc dX9_crosses 94 rfl) ?_
    refine pz_cVv (M := mX9_crosses) (N := mX4_tell) (d' := 1) (bc1 := 0) (bs1 := 0) (bc2 := bc) (bs2 := bs) (pc' := 187) [.long (((((1000 : Int32)) + x12) - l2).toInt64)] hb vX9_212 rfl (pz_dc dX9_crosses 95 rfl) rfl (Nat.le_of_ble_eq_true rfl) (Nat.le_of_ble_eq_true rfl) rfl (by omega) (by omega) (by omega) (fun h13 hb => ?_)
    refine pz_iload_n (pc' := 188) (x := l3) 3 rfl (pz_dc dX9_crosses 96 rfl) rfl ?_
    exact pz_iret (pz_dc dX9_crosses 97 rfl) rfl hb
  · replace hb := hb.2 hc
    refine pz_aload_n (pc' := 45) (x := l0) 0 rfl (pz_dc dX9_crosses 24 rfl) rfl ?_
    refine pz_cVv (M := mX9_crosses) (N := mX9_startTrial) (d' := 2) (bc1 := 0) (bs1 := 0) (bc2 := bc) (bs2 := bs) (pc' := 48) [] hb vX9_200 rfl (pz_dc dX9_crosses 25 rfl) rfl (Nat.le_of_ble_eq_true rfl) (Nat.le_of_ble_eq_true rfl) rfl (by omega) (by omega) (by omega) (fun h14 hb => ?_)
    refine pz_aload_n (pc' := 49) (x := l0) 0 rfl (pz_dc dX9_crosses 26 rfl) rfl ?_
    refine pz_getR (M := mX9_crosses) hb fX9_40 (pc' := 52) rfl (pz_dc dX9_crosses 27 rfl) (fun a15 hb => ?_)
    refine pz_iload (pc' := 54) (x := l4) 4 rfl (pz_dc dX9_crosses 28 rfl) rfl ?_
    obtain ⟨⟨fs23, hf24⟩, hb⟩ := hb
    refine pz_callV (M := mX9_crosses) (N := mX8_isOut) (d' := 1) (bc1 := 0) (bs1 := 0) (bc2 := bc) (bs2 := bs) (pc' := 57) [.int l4] vX9_139 rfl (pz_dc dX9_crosses 29 rfl) rfl (Nat.le_of_ble_eq_true rfl) (Nat.le_of_ble_eq_true rfl) rfl (by omega) (by omega) (by omega) hf24 ?_
    refine pz_aload_n (pc' := 1) (x := a15) 0 rfl (pz_dc dX8_isOut 0 rfl) rfl ?_
    refine pz_getI (M := mX8_isOut) hb fX8_33 (pc' := 4) rfl (pz_dc dX8_isOut 1 rfl) (fun x16 hb => ?_)
    refine pz_iload_n (pc' := 5) (x := l4) 1 rfl (pz_dc dX8_isOut 2 rfl) rfl ?_
    refine pz_callS (M := mX8_isOut) (N := mX9_isIn) (d' := 0) (bc1 := 0) (bs1 := 0) (bc2 := 0) (bs2 := 0) (pc' := 8) [.int x16, .int l4] sX8_46 rfl (pz_dc dX8_isOut 3 rfl) rfl (Nat.le_of_ble_eq_true rfl) (Nat.le_of_ble_eq_true rfl) rfl (by omega) (by omega) (by omega) ?_
    refine cX9_isIn ?_
    show pz_V mX8_isOut _ _ _ _ _ 8 [(0, .ref a15), (1, .int l4)] [.int (eX9_isIn x16 l4)] h14
    refine pz_zret (pz_dc dX8_isOut 4 rfl) rfl ⟨zX9_isIn _ _, ?_⟩
    show pz_V mX9_crosses _ _ _ _ _ 57 [(0, .ref l0), (1, .int l1), (2, .int l2), (3, .int l3), (4, .int l4)] [.int (eX9_isIn x16 l4)] h14
    refine pz_if_eq (pc' := 60) (tgt := 74) rfl (pz_dc dX9_crosses 30 rfl) (by decide) (fun hc => ?_) (fun hc => ?_)
    · replace hb := hb.1 hc
      refine pz_aload_n (pc' := 75) (x := l0) 0 rfl (pz_dc dX9_crosses 38 rfl) rfl ?_
      refine pz_getR (M := mX9_crosses) hb fX9_40 (pc' := 78) rfl (pz_dc dX9_crosses 39 rfl) (fun a17 hb => ?_)
      refine pz_dup (pc' := 79) rfl (pz_dc dX9_crosses 40 rfl) rfl ?_
      refine pz_getI (M := mX9_crosses) hb fX9_260 (pc' := 82) rfl (pz_dc dX9_crosses 41 rfl) (fun x18 hb => ?_)
      refine pz_iconst (pc' := 83) (v := 1) rfl (pz_dc dX9_crosses 42 rfl) ki_1 ?_
      refine pz_iload (pc' := 85) (x := l4) 4 rfl (pz_dc dX9_crosses 43 rfl) rfl ?_
      refine pz_ishl (pc' := 86) rfl (pz_dc dX9_crosses 44 rfl) ?_
      refine pz_ior (pc' := 87) rfl (pz_dc dX9_crosses 45 rfl) ?_
      refine pz_putv (M := mX9_crosses) hb (pX9_260 _ rfl) rfl rfl (pc' := 90) rfl (pz_dc dX9_crosses 46 rfl) (fun h19 hb => ?_)
      exact hb
    · replace hb := hb.2 hc
      refine pz_aload_n (pc' := 61) (x := l0) 0 rfl (pz_dc dX9_crosses 31 rfl) rfl ?_
      refine pz_getR (M := mX9_crosses) hb fX9_40 (pc' := 64) rfl (pz_dc dX9_crosses 32 rfl) (fun a20 hb => ?_)
      refine pz_getR (M := mX9_crosses) hb fX9_142 (pc' := 67) rfl (pz_dc dX9_crosses 33 rfl) (fun a21 hb => ?_)
      refine pz_iload (pc' := 69) (x := l4) 4 rfl (pz_dc dX9_crosses 34 rfl) rfl ?_
      refine pz_iconst (pc' := 70) (v := 0) rfl (pz_dc dX9_crosses 35 rfl) ki_0 ?_
      refine pz_stI hb (pc' := 71) rfl (pz_dc dX9_crosses 36 rfl) (fun h22 hb => ?_)
      refine pz_goto (pc' := 90) (pz_dc dX9_crosses 37 rfl) (by decide) ?_
      exact hb
set_option maxRecDepth 20000 in
set_option maxHeartbeats 4000000 in
theorem wX9_crosses_90 {Ex : State → Nat → Prop} {Q : Option Value → pz_H → Prop} {d bc bs : Nat} {l0 : Nat} {l1 : Int32} {l2 : Int32} {l3 : Int32} {l4 : Int32}  {h : pz_H} (hD : 5 ≤ d) (hb : pz_gR h l0 9 2 (fun (a1 : Nat) => pz_gR h l0 9 5 (fun (a2 : Nat) => pz_gR h l0 9 12 (fun (a3 : Nat) => pz_is h a1 1 ∧ (pz_kv mX1_passDays 4 0 0 (.ref a1 :: [.ref a2, .ref a3, .int l1]) h (fun (h4 : pz_H) => pz_gR h4 l0 9 2 (fun (a5 : Nat) => pz_gR h4 l0 9 5 (fun (a6 : Nat) => pz_is h4 a5 1 ∧ (pz_ki mX1_total 2 0 0 (.ref a5 :: [.ref a6]) h4 (fun (x8 : Int32) (h7 : pz_H) => (l3 = ((-1 : Int32)) → pz_V mX9_crosses Ex Q d bc bs 32 [(0, .ref l0), (1, .int l1), (2, .int x8), (3, .int l4), (4, .int (l4 + (1 : Int32)))] [] h7) ∧ (¬ l3 = ((-1 : Int32)) → (l2 ≤ x8 → pz_V mX9_crosses Ex Q d bc bs 32 [(0, .ref l0), (1, .int l1), (2, .int l2), (3, .int l3), (4, .int (l4 + (1 : Int32)))] [] h7) ∧ (¬ l2 ≤ x8 → pz_V mX9_crosses Ex Q d bc bs 32 [(0, .ref l0), (1, .int l1), (2, .int x8), (3, .int l4), (4, .int (l4 + (1 : Int32)))] [] h7)))))))))))) : pz_V mX9_crosses Ex Q d bc bs 90 [(0, .ref l0), (1, .int l1), (2, .int l2), (3, .int l3), (4, .int l4)] [] h := by
  refine pz_aload_n (pc' := 91) (x := l0) 0 rfl (pz_dc dX9_crosses 47 rfl) rfl ?_
  refine pz_getR (M := mX9_crosses) hb fX9_26 (pc' := 94) rfl (pz_dc dX9_crosses 48 rfl) (fun a1 hb => ?_)
  refine pz_aload_n (pc' := 95) (x := l0) 0 rfl (pz_dc dX9_crosses 49 rfl) rfl ?_
  refine pz_getR (M := mX9_crosses) hb fX9_40 (pc' := 98) rfl (pz_dc dX9_crosses 50 rfl) (fun a2 hb => ?_)
  refine pz_aload_n (pc' := 99) (x := l0) 0 rfl (pz_dc dX9_crosses 51 rfl) rfl ?_
  refine pz_getR (M := mX9_crosses) hb fX9_78 (pc' := 102) rfl (pz_dc dX9_crosses 52 rfl) (fun a3 hb => ?_)
  refine pz_iload_n (pc' := 103) (x := l1) 1 rfl (pz_dc dX9_crosses 53 rfl) rfl ?_
  refine pz_cVv (M := mX9_crosses) (N := mX1_passDays) (d' := 4) (bc1 := 0) (bs1 := 0) (bc2 := bc) (bs2 := bs) (pc' := 106) [.ref a2, .ref a3, .int l1] hb vX9_203 rfl (pz_dc dX9_crosses 54 rfl) rfl (Nat.le_of_ble_eq_true rfl) (Nat.le_of_ble_eq_true rfl) rfl (by omega) (by omega) (by omega) (fun h4 hb => ?_)
  refine pz_aload_n (pc' := 107) (x := l0) 0 rfl (pz_dc dX9_crosses 55 rfl) rfl ?_
  refine pz_getR (M := mX9_crosses) hb fX9_26 (pc' := 110) rfl (pz_dc dX9_crosses 56 rfl) (fun a5 hb => ?_)
  refine pz_aload_n (pc' := 111) (x := l0) 0 rfl (pz_dc dX9_crosses 57 rfl) rfl ?_
  refine pz_getR (M := mX9_crosses) hb fX9_40 (pc' := 114) rfl (pz_dc dX9_crosses 58 rfl) (fun a6 hb => ?_)
  refine pz_cVi (M := mX9_crosses) (N := mX1_total) (d' := 2) (bc1 := 0) (bs1 := 0) (bc2 := bc) (bs2 := bs) (pc' := 117) [.ref a6] hb vX9_153 rfl (pz_dc dX9_crosses 59 rfl) rfl (Nat.le_of_ble_eq_true rfl) (Nat.le_of_ble_eq_true rfl) rfl (by omega) (by omega) (by omega) (fun x8 h7 hb => ?_)
  refine pz_istore (pc' := 119) (lv' := [(5, .int x8), (0, .ref l0), (1, .int l1), (2, .int l2), (3, .int l3), (4, .int l4)]) rfl (pz_dc dX9_crosses 60 rfl) (by decide) rfl ?_
  refine pz_iload_n (pc' := 120) (x := l3) 4 rfl (pz_dc dX9_crosses 61 rfl) rfl ?_
  refine pz_iconst (pc' := 121) (v := (-1)) rfl (pz_dc dX9_crosses 62 rfl) ki_m1 ?_
  refine pz_icmp_eq (pc' := 124) (tgt := 130) rfl (pz_dc dX9_crosses 63 rfl) (by decide) (fun hc => ?_) (fun hc => ?_)
  · replace hb := hb.1 hc
    refine pz_iload (pc' := 132) (x := x8) 0 rfl (pz_dc dX9_crosses 67 rfl) rfl ?_
    refine pz_istore_n (pc' := 133) (lv' := [(2, .int x8), (5, .int x8), (0, .ref l0), (1, .int l1), (3, .int l3), (4, .int l4)]) rfl (pz_dc dX9_crosses 68 rfl) (by decide) rfl ?_
    refine pz_iload (pc' := 135) (x := l4) 5 rfl (pz_dc dX9_crosses 69 rfl) rfl ?_
    refine pz_istore_n (pc' := 136) (lv' := [(3, .int l4), (2, .int x8), (5, .int x8), (0, .ref l0), (1, .int l1), (4, .int l4)]) rfl (pz_dc dX9_crosses 70 rfl) (by decide) rfl ?_
    refine pz_iinc (pc' := 139) (x := l4) (v := l4 + (1 : Int32)) (lv' := [(4, .int (l4 + (1 : Int32))), (3, .int l4), (2, .int x8), (5, .int x8), (0, .ref l0), (1, .int l1)]) 5 rfl (pz_dc dX9_crosses 71 rfl) rfl rfl (by decide) rfl ?_
    refine pz_goto (pc' := 32) (pz_dc dX9_crosses 72 rfl) (by decide) ?_
    refine pz_lv (lv' := [(0, .ref l0), (1, .int l1), (2, .int x8), (3, .int l4), (4, .int (l4 + (1 : Int32)))]) [4, 5, 2, 1, 0] rfl ?_
    exact hb
  · replace hb := hb.2 hc
    refine pz_iload (pc' := 126) (x := x8) 0 rfl (pz_dc dX9_crosses 64 rfl) rfl ?_
    refine pz_iload_n (pc' := 127) (x := l2) 3 rfl (pz_dc dX9_crosses 65 rfl) rfl ?_
    refine pz_icmp_ge (pc' := 130) (tgt := 136) rfl (pz_dc dX9_crosses 66 rfl) (by decide) (fun hc => ?_) (fun hc => ?_)
    · replace hb := hb.1 hc
      refine pz_iinc (pc' := 139) (x := l4) (v := l4 + (1 : Int32)) (lv' := [(4, .int (l4 + (1 : Int32))), (5, .int x8), (0, .ref l0), (1, .int l1), (2, .int l2), (3, .int l3)]) 5 rfl (pz_dc dX9_crosses 71 rfl) rfl rfl (by decide) rfl ?_
      refine pz_goto (pc' := 32) (pz_dc dX9_crosses 72 rfl) (by decide) ?_
      refine pz_lv (lv' := [(0, .ref l0), (1, .int l1), (2, .int l2), (3, .int l3), (4, .int (l4 + (1 : Int32)))]) [2, 3, 4, 5, 0] rfl ?_
      exact hb
    · replace hb := hb.2 hc
      refine pz_iload (pc' := 132) (x := x8) 0 rfl (pz_dc dX9_crosses 67 rfl) rfl ?_
      refine pz_istore_n (pc' := 133) (lv' := [(2, .int x8), (5, .int x8), (0, .ref l0), (1, .int l1), (3, .int l3), (4, .int l4)]) rfl (pz_dc dX9_crosses 68 rfl) (by decide) rfl ?_
      refine pz_iload (pc' := 135) (x := l4) 5 rfl (pz_dc dX9_crosses 69 rfl) rfl ?_
      refine pz_istore_n (pc' := 136) (lv' := [(3, .int l4), (2, .int x8), (5, .int x8), (0, .ref l0), (1, .int l1), (4, .int l4)]) rfl (pz_dc dX9_crosses 70 rfl) (by decide) rfl ?_
      refine pz_iinc (pc' := 139) (x := l4) (v := l4 + (1 : Int32)) (lv' := [(4, .int (l4 + (1 : Int32))), (3, .int l4), (2, .int x8), (5, .int x8), (0, .ref l0), (1, .int l1)]) 5 rfl (pz_dc dX9_crosses 71 rfl) rfl rfl (by decide) rfl ?_
      refine pz_goto (pc' := 32) (pz_dc dX9_crosses 72 rfl) (by decide) ?_
      refine pz_lv (lv' := [(0, .ref l0), (1, .int l1), (2, .int x8), (3, .int l4), (4, .int (l4 + (1 : Int32)))]) [4, 5, 2, 1, 0] rfl ?_
      exact hb
set_option maxRecDepth 20000 in
set_option maxHeartbeats 4000000 in
theorem wX9_ring_0 {Ex : State → Nat → Prop} {Q : Option Value → pz_H → Prop} {d bc bs : Nat} {l0 : Nat} {l1 : Int32} {l2 : Int32} {l3 : Int32}  {h : pz_H} (hD : 1 ≤ d) (hb : pz_gR h l0 9 2 (fun (a1 : Nat) => pz_is h a1 1 ∧ (pz_gI h a1 1 4 (fun (x2 : Int32) => ((eX1_has l1 x2) = 0 → Q (some (.int ((-1)))) h) ∧ (¬ (eX1_has l1 x2) = 0 → ((eX9_isWithin l2 ((0 : Int32)) ((20 : Int32))) = 0 → Q (some (.int ((-1)))) h) ∧ (¬ (eX9_isWithin l2 ((0 : Int32)) ((20 : Int32))) = 0 → (¬ (eX9_isWithin l3 ((0 : Int32)) ((99 : Int32))) = 0 → pz_gR h l0 9 7 (fun (a6 : Nat) => pz_is h a6 3 ∧ (pz_ki mX3_add 0 0 0 (.ref a6 :: [.int l1, .int l2, .int l3]) h (fun (x8 : Int32) (h7 : pz_H) => (x8 = 0 → Q (some (.int ((-1)))) h7) ∧ (¬ x8 = 0 → pz_gR h7 l0 9 7 (fun (a9 : Nat) => pz_is h7 a9 3 ∧ (pz_gI h7 a9 3 3 (fun (x10 : Int32) => Q (some (.int x10)) h7)))))))) ∧ ((eX9_isWithin l3 ((0 : Int32)) ((99 : Int32))) = 0 → Q (some (.int ((-1)))) h))))))) : pz_V mX9_ring Ex Q d bc bs 0 [(0, .ref l0), (1, .int l1), (2, .int l2), (3, .int l3)] [] h := by
  refine pz_aload_n (pc' := 1) (x := l0) 0 rfl (pz_dc dX9_ring 0 rfl) rfl ?_
  refine pz_getR (M := mX9_ring) hb fX9_26 (pc' := 4) rfl (pz_dc dX9_ring 1 rfl) (fun a1 hb => ?_)
  refine pz_iload_n (pc' := 5) (x := l1) 1 rfl (pz_dc dX9_ring 2 rfl) rfl ?_
  obtain ⟨⟨fs13, hf14⟩, hb⟩ := hb
  obtain ⟨fs3, x2, g4, g5, hb⟩ := hb
  refine pz_callV (M := mX9_ring) (N := mX1_has) (d' := 0) (bc1 := 0) (bs1 := 0) (bc2 := bc) (bs2 := bs) (pc' := 8) [.int l1] vX9_115 rfl (pz_dc dX9_ring 3 rfl) rfl (Nat.le_of_ble_eq_true rfl) (Nat.le_of_ble_eq_true rfl) rfl (by omega) (by omega) (by omega) hf14 ?_
  refine cX1_has ⟨fs3, x2, g4, g5, ?_⟩
  show pz_V mX9_ring _ _ _ _ _ 8 [(0, .ref l0), (1, .int l1), (2, .int l2), (3, .int l3)] [.int (eX1_has l1 x2)] h
  refine pz_if_eq (pc' := 11) (tgt := 31) rfl (pz_dc dX9_ring 4 rfl) (by decide) (fun hc => ?_) (fun hc => ?_)
  · replace hb := hb.1 hc
    refine pz_iconst (pc' := 32) (v := (-1)) rfl (pz_dc dX9_ring 15 rfl) ki_m1 ?_
    exact pz_iret (pz_dc dX9_ring 16 rfl) rfl hb
  · replace hb := hb.2 hc
    refine pz_iload_n (pc' := 12) (x := l2) 2 rfl (pz_dc dX9_ring 5 rfl) rfl ?_
    refine pz_iconst (pc' := 13) (v := 0) rfl (pz_dc dX9_ring 6 rfl) ki_0 ?_
    refine pz_bipush (pc' := 15) (v := 20) rfl (pz_dc dX9_ring 7 rfl) kb_20 ?_
    refine pz_callS (M := mX9_ring) (N := mX9_isWithin) (d' := 0) (bc1 := 0) (bs1 := 0) (bc2 := bc) (bs2 := bs) (pc' := 18) [.int l2, .int 0, .int 20] sX9_196 rfl (pz_dc dX9_ring 8 rfl) rfl (Nat.le_of_ble_eq_true rfl) (Nat.le_of_ble_eq_true rfl) rfl (by omega) (by omega) (by omega) ?_
    refine cX9_isWithin ?_
    show pz_V mX9_ring _ _ _ _ _ 18 [(0, .ref l0), (1, .int l1), (2, .int l2), (3, .int l3)] [.int (eX9_isWithin l2 ((0 : Int32)) ((20 : Int32)))] h
    refine pz_if_eq (pc' := 21) (tgt := 31) rfl (pz_dc dX9_ring 9 rfl) (by decide) (fun hc => ?_) (fun hc => ?_)
    · replace hb := hb.1 hc
      refine pz_iconst (pc' := 32) (v := (-1)) rfl (pz_dc dX9_ring 15 rfl) ki_m1 ?_
      exact pz_iret (pz_dc dX9_ring 16 rfl) rfl hb
    · replace hb := hb.2 hc
      refine pz_iload_n (pc' := 22) (x := l3) 3 rfl (pz_dc dX9_ring 10 rfl) rfl ?_
      refine pz_iconst (pc' := 23) (v := 0) rfl (pz_dc dX9_ring 11 rfl) ki_0 ?_
      refine pz_bipush (pc' := 25) (v := 99) rfl (pz_dc dX9_ring 12 rfl) kb_99 ?_
      refine pz_callS (M := mX9_ring) (N := mX9_isWithin) (d' := 0) (bc1 := 0) (bs1 := 0) (bc2 := bc) (bs2 := bs) (pc' := 28) [.int l3, .int 0, .int 99] sX9_196 rfl (pz_dc dX9_ring 13 rfl) rfl (Nat.le_of_ble_eq_true rfl) (Nat.le_of_ble_eq_true rfl) rfl (by omega) (by omega) (by omega) ?_
      refine cX9_isWithin ?_
      show pz_V mX9_ring _ _ _ _ _ 28 [(0, .ref l0), (1, .int l1), (2, .int l2), (3, .int l3)] [.int (eX9_isWithin l3 ((0 : Int32)) ((99 : Int32)))] h
      refine pz_if_ne (pc' := 31) (tgt := 33) rfl (pz_dc dX9_ring 14 rfl) (by decide) (fun hc => ?_) (fun hc => ?_)
      · replace hb := hb.1 hc
        refine pz_aload_n (pc' := 34) (x := l0) 0 rfl (pz_dc dX9_ring 17 rfl) rfl ?_
        refine pz_getR (M := mX9_ring) hb fX9_53 (pc' := 37) rfl (pz_dc dX9_ring 18 rfl) (fun a6 hb => ?_)
        refine pz_iload_n (pc' := 38) (x := l1) 1 rfl (pz_dc dX9_ring 19 rfl) rfl ?_
        refine pz_iload_n (pc' := 39) (x := l2) 2 rfl (pz_dc dX9_ring 20 rfl) rfl ?_
        refine pz_iload_n (pc' := 40) (x := l3) 3 rfl (pz_dc dX9_ring 21 rfl) rfl ?_
        refine pz_cVi (M := mX9_ring) (N := mX3_add) (d' := 0) (bc1 := 0) (bs1 := 0) (bc2 := bc) (bs2 := bs) (pc' := 43) [.int l1, .int l2, .int l3] hb vX9_263 rfl (pz_dc dX9_ring 22 rfl) rfl (Nat.le_of_ble_eq_true rfl) (Nat.le_of_ble_eq_true rfl) rfl (by omega) (by omega) (by omega) (fun x8 h7 hb => ?_)
        refine pz_if_eq (pc' := 46) (tgt := 56) rfl (pz_dc dX9_ring 23 rfl) (by decide) (fun hc => ?_) (fun hc => ?_)
        · replace hb := hb.1 hc
          refine pz_iconst (pc' := 57) (v := (-1)) rfl (pz_dc dX9_ring 28 rfl) ki_m1 ?_
          exact pz_iret (pz_dc dX9_ring 29 rfl) rfl hb
        · replace hb := hb.2 hc
          refine pz_aload_n (pc' := 47) (x := l0) 0 rfl (pz_dc dX9_ring 24 rfl) rfl ?_
          refine pz_getR (M := mX9_ring) hb fX9_53 (pc' := 50) rfl (pz_dc dX9_ring 25 rfl) (fun a9 hb => ?_)
          obtain ⟨⟨fs11, hf12⟩, hb⟩ := hb
          refine pz_callV (M := mX9_ring) (N := mX3_size) (d' := 0) (bc1 := 0) (bs1 := 0) (bc2 := bc) (bs2 := bs) (pc' := 53) [] vX9_265 rfl (pz_dc dX9_ring 26 rfl) rfl (Nat.le_of_ble_eq_true rfl) (Nat.le_of_ble_eq_true rfl) rfl (by omega) (by omega) (by omega) hf12 ?_
          refine pz_aload_n (pc' := 1) (x := a9) 0 rfl (pz_dc dX3_size 0 rfl) rfl ?_
          refine pz_getI (M := mX3_size) hb fX3_21 (pc' := 4) rfl (pz_dc dX3_size 1 rfl) (fun x10 hb => ?_)
          refine pz_iret (pz_dc dX3_size 2 rfl) rfl ?_
          show pz_V mX9_ring _ _ _ _ _ 53 [(0, .ref l0), (1, .int l1), (2, .int l2), (3, .int l3)] [.int x10] h7
          refine pz_goto (pc' := 57) (pz_dc dX9_ring 27 rfl) (by decide) ?_
          exact pz_iret (pz_dc dX9_ring 29 rfl) rfl hb
      · replace hb := hb.2 hc
        refine pz_iconst (pc' := 32) (v := (-1)) rfl (pz_dc dX9_ring 15 rfl) ki_m1 ?_
        exact pz_iret (pz_dc dX9_ring 16 rfl) rfl hb
set_option maxRecDepth 20000 in
set_option maxHeartbeats 4000000 in
theorem wX9_washes_0 {Ex : State → Nat → Prop} {Q : Option Value → pz_H → Prop} {d bc bs : Nat} {l0 : Nat}  {h : pz_H} (hD : 1 ≤ d) (hb : pz_gR h l0 9 7 (fun (a1 : Nat) => pz_is h a1 3 ∧ (pz_gI h a1 3 3 (fun (x2 : Int32) => pz_gR h l0 9 7 (fun (a3 : Nat) => pz_is h a3 3 ∧ (pz_pF h a3 3 3 (.int 0) (fun (h4 : pz_H) => Q (some (.int x2)) h4))))))) : pz_V mX9_washes Ex Q d bc bs 0 [(0, .ref l0)] [] h := by
  refine pz_aload_n (pc' := 1) (x := l0) 0 rfl (pz_dc dX9_washes 0 rfl) rfl ?_
  refine pz_getR (M := mX9_washes) hb fX9_53 (pc' := 4) rfl (pz_dc dX9_washes 1 rfl) (fun a1 hb => ?_)
  obtain ⟨⟨fs7, hf8⟩, hb⟩ := hb
  refine pz_callV (M := mX9_washes) (N := mX3_size) (d' := 0) (bc1 := 0) (bs1 := 0) (bc2 := bc) (bs2 := bs) (pc' := 7) [] vX9_265 rfl (pz_dc dX9_washes 2 rfl) rfl (Nat.le_of_ble_eq_true rfl) (Nat.le_of_ble_eq_true rfl) rfl (by omega) (by omega) (by omega) hf8 ?_
  refine pz_aload_n (pc' := 1) (x := a1) 0 rfl (pz_dc dX3_size 0 rfl) rfl ?_
  refine pz_getI (M := mX3_size) hb fX3_21 (pc' := 4) rfl (pz_dc dX3_size 1 rfl) (fun x2 hb => ?_)
  refine pz_iret (pz_dc dX3_size 2 rfl) rfl ?_
  show pz_V mX9_washes _ _ _ _ _ 7 [(0, .ref l0)] [.int x2] h
  refine pz_istore_n (pc' := 8) (lv' := [(1, .int x2), (0, .ref l0)]) rfl (pz_dc dX9_washes 3 rfl) (by decide) rfl ?_
  refine pz_aload_n (pc' := 9) (x := l0) 1 rfl (pz_dc dX9_washes 4 rfl) rfl ?_
  refine pz_getR (M := mX9_washes) hb fX9_53 (pc' := 12) rfl (pz_dc dX9_washes 5 rfl) (fun a3 hb => ?_)
  obtain ⟨⟨fs5, hf6⟩, hb⟩ := hb
  refine pz_callV (M := mX9_washes) (N := mX3_clear) (d' := 0) (bc1 := 0) (bs1 := 0) (bc2 := bc) (bs2 := bs) (pc' := 15) [] vX9_266 rfl (pz_dc dX9_washes 6 rfl) rfl (Nat.le_of_ble_eq_true rfl) (Nat.le_of_ble_eq_true rfl) rfl (by omega) (by omega) (by omega) hf6 ?_
  refine pz_aload_n (pc' := 1) (x := a3) 0 rfl (pz_dc dX3_clear 0 rfl) rfl ?_
  refine pz_iconst (pc' := 2) (v := 0) rfl (pz_dc dX3_clear 1 rfl) ki_0 ?_
  refine pz_putv (M := mX3_clear) hb (pX3_21 _ rfl) rfl rfl (pc' := 5) rfl (pz_dc dX3_clear 2 rfl) (fun h4 hb => ?_)
  refine pz_vret (pz_dc dX3_clear 3 rfl) rfl ?_
  show pz_V mX9_washes _ _ _ _ _ 15 [(1, .int x2), (0, .ref l0)] [] h4
  refine pz_iload_n (pc' := 16) (x := x2) 0 rfl (pz_dc dX9_washes 7 rfl) rfl ?_
  exact pz_iret (pz_dc dX9_washes 8 rfl) rfl hb
set_option maxRecDepth 20000 in
set_option maxHeartbeats 4000000 in
theorem wX9_leaks_0 {Ex : State → Nat → Prop} {Q : Option Value → pz_H → Prop} {d bc bs : Nat} {l0 : Nat}  {h : pz_H} (hD : 5 ≤ d) (hb : pz_is h l0 9 ∧ (pz_kv mX9_startTrial 2 0 0 (.ref l0 :: []) h (fun (h1 : pz_H) => pz_gR h1 l0 9 1 (fun (a2 : Nat) => pz_is h1 a2 4 ∧ (pz_pF h1 a2 4 1 (.int 0) (fun (h3 : pz_H) => pz_gR h3 l0 9 1 (fun (a4 : Nat) => pz_is h3 l0 9 ∧ (pz_ki mX9_trialFitsRings 4 0 0 (.ref l0 :: []) h3 (fun (x6 : Int32) (h5 : pz_H) => (x6 = 0 → pz_is h5 a4 4 ∧ (pz_kv mX4_add 0 0 0 (.ref a4 :: [.long 0]) h5 (fun (h7 : pz_H) => pz_V mX9_leaks Ex Q d bc bs 34 [(0, .ref l0), (1, .int 0), (2, .int 0)] [] h7))) ∧ (¬ x6 = 0 → pz_is h5 a4 4 ∧ (pz_kv mX4_add 0 0 0 (.ref a4 :: [.long 1]) h5 (fun (h8 : pz_H) => pz_V mX9_leaks Ex Q d bc bs 34 [(0, .ref l0), (1, .int 0), (2, .int 0)] [] h8)))))))))))) : pz_V mX9_leaks Ex Q d bc bs 0 [(0, .ref l0)] [] h := by
  refine pz_aload_n (pc' := 1) (x := l0) 0 rfl (pz_dc dX9_leaks 0 rfl) rfl ?_
  refine pz_cVv (M := mX9_leaks) (N := mX9_startTrial) (d' := 2) (bc1 := 0) (bs1 := 0) (bc2 := bc) (bs2 := bs) (pc' := 4) [] hb vX9_200 rfl (pz_dc dX9_leaks 1 rfl) rfl (Nat.le_of_ble_eq_true rfl) (Nat.le_of_ble_eq_true rfl) rfl (by omega) (by omega) (by omega) (fun h1 hb => ?_)
  refine pz_aload_n (pc' := 5) (x := l0) 0 rfl (pz_dc dX9_leaks 2 rfl) rfl ?_
  refine pz_getR (M := mX9_leaks) hb fX9_19 (pc' := 8) rfl (pz_dc dX9_leaks 3 rfl) (fun a2 hb => ?_)
  obtain ⟨⟨fs9, hf10⟩, hb⟩ := hb
  refine pz_callV (M := mX9_leaks) (N := mX4_clear) (d' := 0) (bc1 := 0) (bs1 := 0) (bc2 := bc) (bs2 := bs) (pc' := 11) [] vX9_207 rfl (pz_dc dX9_leaks 4 rfl) rfl (Nat.le_of_ble_eq_true rfl) (Nat.le_of_ble_eq_true rfl) rfl (by omega) (by omega) (by omega) hf10 ?_
  refine pz_aload_n (pc' := 1) (x := a2) 0 rfl (pz_dc dX4_clear 0 rfl) rfl ?_
  refine pz_iconst (pc' := 2) (v := 0) rfl (pz_dc dX4_clear 1 rfl) ki_0 ?_
  refine pz_putv (M := mX4_clear) hb (pX4_15 _ rfl) rfl rfl (pc' := 5) rfl (pz_dc dX4_clear 2 rfl) (fun h3 hb => ?_)
  refine pz_vret (pz_dc dX4_clear 3 rfl) rfl ?_
  show pz_V mX9_leaks _ _ _ _ _ 11 [(0, .ref l0)] [] h3
  refine pz_aload_n (pc' := 12) (x := l0) 0 rfl (pz_dc dX9_leaks 5 rfl) rfl ?_
  refine pz_getR (M := mX9_leaks) hb fX9_19 (pc' := 15) rfl (pz_dc dX9_leaks 6 rfl) (fun a4 hb => ?_)
  refine pz_aload_n (pc' := 16) (x := l0) 0 rfl (pz_dc dX9_leaks 7 rfl) rfl ?_
  refine pz_cVi (M := mX9_leaks) (N := mX9_trialFitsRings) (d' := 4) (bc1 := 0) (bs1 := 0) (bc2 := bc) (bs2 := bs) (pc' := 19) [] hb vX9_267 rfl (pz_dc dX9_leaks 8 rfl) rfl (Nat.le_of_ble_eq_true rfl) (Nat.le_of_ble_eq_true rfl) rfl (by omega) (by omega) (by omega) (fun x6 h5 hb => ?_)
  refine pz_if_eq (pc' := 22) (tgt := 26) rfl (pz_dc dX9_leaks 9 rfl) (by decide) (fun hc => ?_) (fun hc => ?_)
  · replace hb := hb.1 hc
    refine pz_lconst (pc' := 27) (v := 0) rfl (pz_dc dX9_leaks 12 rfl) rfl ?_
    refine pz_cVv (M := mX9_leaks) (N := mX4_add) (d' := 0) (bc1 := 0) (bs1 := 0) (bc2 := bc) (bs2 := bs) (pc' := 30) [.long 0] hb vX9_209 rfl (pz_dc dX9_leaks 13 rfl) rfl (Nat.le_of_ble_eq_true rfl) (Nat.le_of_ble_eq_true rfl) rfl (by omega) (by omega) (by omega) (fun h7 hb => ?_)
    refine pz_iconst (pc' := 31) (v := 0) rfl (pz_dc dX9_leaks 14 rfl) ki_0 ?_
    refine pz_istore_n (pc' := 32) (lv' := [(1, .int 0), (0, .ref l0)]) rfl (pz_dc dX9_leaks 15 rfl) (by decide) rfl ?_
    refine pz_iconst (pc' := 33) (v := 0) rfl (pz_dc dX9_leaks 16 rfl) ki_0 ?_
    refine pz_istore_n (pc' := 34) (lv' := [(2, .int 0), (1, .int 0), (0, .ref l0)]) rfl (pz_dc dX9_leaks 17 rfl) (by decide) rfl ?_
    refine pz_lv (lv' := [(0, .ref l0), (1, .int 0), (2, .int 0)]) [2, 1, 0] rfl ?_
    exact hb
  · replace hb := hb.2 hc
    refine pz_lconst (pc' := 23) (v := 1) rfl (pz_dc dX9_leaks 10 rfl) rfl ?_
    refine pz_goto (pc' := 27) (pz_dc dX9_leaks 11 rfl) (by decide) ?_
    refine pz_cVv (M := mX9_leaks) (N := mX4_add) (d' := 0) (bc1 := 0) (bs1 := 0) (bc2 := bc) (bs2 := bs) (pc' := 30) [.long 1] hb vX9_209 rfl (pz_dc dX9_leaks 13 rfl) rfl (Nat.le_of_ble_eq_true rfl) (Nat.le_of_ble_eq_true rfl) rfl (by omega) (by omega) (by omega) (fun h8 hb => ?_)
    refine pz_iconst (pc' := 31) (v := 0) rfl (pz_dc dX9_leaks 14 rfl) ki_0 ?_
    refine pz_istore_n (pc' := 32) (lv' := [(1, .int 0), (0, .ref l0)]) rfl (pz_dc dX9_leaks 15 rfl) (by decide) rfl ?_
    refine pz_iconst (pc' := 33) (v := 0) rfl (pz_dc dX9_leaks 16 rfl) ki_0 ?_
    refine pz_istore_n (pc' := 34) (lv' := [(2, .int 0), (1, .int 0), (0, .ref l0)]) rfl (pz_dc dX9_leaks 17 rfl) (by decide) rfl ?_
    refine pz_lv (lv' := [(0, .ref l0), (1, .int 0), (2, .int 0)]) [2, 1, 0] rfl ?_
    exact hb
set_option maxRecDepth 20000 in
set_option maxHeartbeats 4000000 in
theorem wX9_leaks_34 {Ex : State → Nat → Prop} {Q : Option Value → pz_H → Prop} {d bc bs : Nat} {l0 : Nat} {l1 : Int32} {l2 : Int32}  {h : pz_H} (hD : 5 ≤ d) (hb : pz_gR h l0 9 2 (fun (a1 : Nat) => pz_is h a1 1 ∧ (pz_gI h a1 1 4 (fun (x2 : Int32) => (x2 ≤ l2 → Q (some (.int l1)) h) ∧ (¬ x2 ≤ l2 → pz_V mX9_leaks Ex Q d bc bs 47 [(0, .ref l0), (1, .int l1), (2, .int l2), (3, .int 1)] [] h))))) : pz_V mX9_leaks Ex Q d bc bs 34 [(0, .ref l0), (1, .int l1), (2, .int l2)] [] h := by
  refine pz_iload_n (pc' := 35) (x := l2) 2 rfl (pz_dc dX9_leaks 18 rfl) rfl ?_
  refine pz_aload_n (pc' := 36) (x := l0) 0 rfl (pz_dc dX9_leaks 19 rfl) rfl ?_
  refine pz_getR (M := mX9_leaks) hb fX9_26 (pc' := 39) rfl (pz_dc dX9_leaks 20 rfl) (fun a1 hb => ?_)
  obtain ⟨⟨fs3, hf4⟩, hb⟩ := hb
  refine pz_callV (M := mX9_leaks) (N := mX1_size) (d' := 0) (bc1 := 0) (bs1 := 0) (bc2 := bc) (bs2 := bs) (pc' := 42) [] vX9_208 rfl (pz_dc dX9_leaks 21 rfl) rfl (Nat.le_of_ble_eq_true rfl) (Nat.le_of_ble_eq_true rfl) rfl (by omega) (by omega) (by omega) hf4 ?_
  refine pz_aload_n (pc' := 1) (x := a1) 0 rfl (pz_dc dX1_size 0 rfl) rfl ?_
  refine pz_getI (M := mX1_size) hb fX1_24 (pc' := 4) rfl (pz_dc dX1_size 1 rfl) (fun x2 hb => ?_)
  refine pz_iret (pz_dc dX1_size 2 rfl) rfl ?_
  show pz_V mX9_leaks _ _ _ _ _ 42 [(0, .ref l0), (1, .int l1), (2, .int l2)] [.int x2, .int l2] h
  refine pz_icmp_ge (pc' := 45) (tgt := 103) rfl (pz_dc dX9_leaks 22 rfl) (by decide) (fun hc => ?_) (fun hc => ?_)
  · replace hb := hb.1 hc
    refine pz_iload_n (pc' := 104) (x := l1) 1 rfl (pz_dc dX9_leaks 52 rfl) rfl ?_
    exact pz_iret (pz_dc dX9_leaks 53 rfl) rfl hb
  · replace hb := hb.2 hc
    refine pz_iconst (pc' := 46) (v := 1) rfl (pz_dc dX9_leaks 23 rfl) ki_1 ?_
    refine pz_istore_n (pc' := 47) (lv' := [(3, .int 1), (0, .ref l0), (1, .int l1), (2, .int l2)]) rfl (pz_dc dX9_leaks 24 rfl) (by decide) rfl ?_
    refine pz_lv (lv' := [(0, .ref l0), (1, .int l1), (2, .int l2), (3, .int 1)]) [1, 2, 3, 0] rfl ?_
    exact hb
set_option maxRecDepth 20000 in
set_option maxHeartbeats 4000000 in
theorem wX9_leaks_47 {Ex : State → Nat → Prop} {Q : Option Value → pz_H → Prop} {d bc bs : Nat} {l0 : Nat} {l1 : Int32} {l2 : Int32} {l3 : Int32}  {h : pz_H} (hD : 5 ≤ d) (hb : (((9 : Int32)) < l3 → pz_V mX9_leaks Ex Q d bc bs 34 [(0, .ref l0), (1, .int l1), (2, .int (l2 + (1 : Int32)))] [] h) ∧ (¬ ((9 : Int32)) < l3 → pz_is h l0 9 ∧ (pz_kv mX9_startLeakTrial 3 0 0 (.ref l0 :: [.int l2, .int l3]) h (fun (h1 : pz_H) => pz_is h1 l0 9 ∧ (pz_ki mX9_trialFitsRings 4 0 0 (.ref l0 :: []) h1 (fun (x3 : Int32) (h2 : pz_H) => (x3 = 0 → pz_V mX9_leaks Ex Q d bc bs 47 [(0, .ref l0), (1, .int l1), (2, .int l2), (3, .int (l3 + (1 : Int32)))] [] h2) ∧ (¬ x3 = 0 → (¬ l1 = 0 → pz_V mX9_leaks Ex Q d bc bs 47 [(0, .ref l0), (1, .int (l1 + (1 : Int32))), (2, .int l2), (3, .int (l3 + (1 : Int32)))] [] h2) ∧ (l1 = 0 → pz_gR h2 l0 9 1 (fun (a4 : Nat) => pz_is h2 a4 4 ∧ (pz_kv mX4_add 0 0 0 (.ref a4 :: [.long l2.toInt64]) h2 (fun (h5 : pz_H) => pz_gR h5 l0 9 1 (fun (a6 : Nat) => pz_is h5 a6 4 ∧ (pz_kv mX4_add 0 0 0 (.ref a6 :: [.long l3.toInt64]) h5 (fun (h7 : pz_H) => pz_V mX9_leaks Ex Q d bc bs 47 [(0, .ref l0), (1, .int (l1 + (1 : Int32))), (2, .int l2), (3, .int (l3 + (1 : Int32)))] [] h7)))))))))))))) : pz_V mX9_leaks Ex Q d bc bs 47 [(0, .ref l0), (1, .int l1), (2, .int l2), (3, .int l3)] [] h := by
  refine pz_iload_n (pc' := 48) (x := l3) 3 rfl (pz_dc dX9_leaks 25 rfl) rfl ?_
  refine pz_bipush (pc' := 50) (v := 9) rfl (pz_dc dX9_leaks 26 rfl) kb_9 ?_
  refine pz_icmp_gt (pc' := 53) (tgt := 97) rfl (pz_dc dX9_leaks 27 rfl) (by decide) (fun hc => ?_) (fun hc => ?_)
  · replace hb := hb.1 hc
    refine pz_iinc (pc' := 100) (x := l2) (v := l2 + (1 : Int32)) (lv' := [(2, .int (l2 + (1 : Int32))), (0, .ref l0), (1, .int l1), (3, .int l3)]) 2 rfl (pz_dc dX9_leaks 50 rfl) rfl rfl (by decide) rfl ?_
    refine pz_goto (pc' := 34) (pz_dc dX9_leaks 51 rfl) (by decide) ?_
    refine pz_lv (lv' := [(0, .ref l0), (1, .int l1), (2, .int (l2 + (1 : Int32)))]) [1, 2, 0] rfl ?_
    exact hb
  · replace hb := hb.2 hc
    refine pz_aload_n (pc' := 54) (x := l0) 0 rfl (pz_dc dX9_leaks 28 rfl) rfl ?_
    refine pz_iload_n (pc' := 55) (x := l2) 2 rfl (pz_dc dX9_leaks 29 rfl) rfl ?_
    refine pz_iload_n (pc' := 56) (x := l3) 3 rfl (pz_dc dX9_leaks 30 rfl) rfl ?_
    refine pz_cVv (M := mX9_leaks) (N := mX9_startLeakTrial) (d' := 3) (bc1 := 0) (bs1 := 0) (bc2 := bc) (bs2 := bs) (pc' := 59) [.int l2, .int l3] hb vX9_271 rfl (pz_dc dX9_leaks 31 rfl) rfl (Nat.le_of_ble_eq_true rfl) (Nat.le_of_ble_eq_true rfl) rfl (by omega) (by omega) (by omega) (fun h1 hb => ?_)
    refine pz_aload_n (pc' := 60) (x := l0) 0 rfl (pz_dc dX9_leaks 32 rfl) rfl ?_
    refine pz_cVi (M := mX9_leaks) (N := mX9_trialFitsRings) (d' := 4) (bc1 := 0) (bs1 := 0) (bc2 := bc) (bs2 := bs) (pc' := 63) [] hb vX9_267 rfl (pz_dc dX9_leaks 33 rfl) rfl (Nat.le_of_ble_eq_true rfl) (Nat.le_of_ble_eq_true rfl) rfl (by omega) (by omega) (by omega) (fun x3 h2 hb => ?_)
    refine pz_if_eq (pc' := 66) (tgt := 91) rfl (pz_dc dX9_leaks 34 rfl) (by decide) (fun hc => ?_) (fun hc => ?_)
    · replace hb := hb.1 hc
      refine pz_iinc (pc' := 94) (x := l3) (v := l3 + (1 : Int32)) (lv' := [(3, .int (l3 + (1 : Int32))), (0, .ref l0), (1, .int l1), (2, .int l2)]) 3 rfl (pz_dc dX9_leaks 48 rfl) rfl rfl (by decide) rfl ?_
      refine pz_goto (pc' := 47) (pz_dc dX9_leaks 49 rfl) (by decide) ?_
      refine pz_lv (lv' := [(0, .ref l0), (1, .int l1), (2, .int l2), (3, .int (l3 + (1 : Int32)))]) [1, 2, 3, 0] rfl ?_
      exact hb
    · replace hb := hb.2 hc
      refine pz_iload_n (pc' := 67) (x := l1) 1 rfl (pz_dc dX9_leaks 35 rfl) rfl ?_
      refine pz_if_ne (pc' := 70) (tgt := 88) rfl (pz_dc dX9_leaks 36 rfl) (by decide) (fun hc => ?_) (fun hc => ?_)
      · replace hb := hb.1 hc
        refine pz_iinc (pc' := 91) (x := l1) (v := l1 + (1 : Int32)) (lv' := [(1, .int (l1 + (1 : Int32))), (0, .ref l0), (2, .int l2), (3, .int l3)]) 1 rfl (pz_dc dX9_leaks 47 rfl) rfl rfl (by decide) rfl ?_
        refine pz_iinc (pc' := 94) (x := l3) (v := l3 + (1 : Int32)) (lv' := [(3, .int (l3 + (1 : Int32))), (1, .int (l1 + (1 : Int32))), (0, .ref l0), (2, .int l2)]) 3 rfl (pz_dc dX9_leaks 48 rfl) rfl rfl (by decide) rfl ?_
        refine pz_goto (pc' := 47) (pz_dc dX9_leaks 49 rfl) (by decide) ?_
        refine pz_lv (lv' := [(0, .ref l0), (1, .int (l1 + (1 : Int32))), (2, .int l2), (3, .int (l3 + (1 : Int32)))]) [2, 1, 3, 0] rfl ?_
        exact hb
      · replace hb := hb.2 hc
        refine pz_aload_n (pc' := 71) (x := l0) 0 rfl (pz_dc dX9_leaks 37 rfl) rfl ?_
        refine pz_getR (M := mX9_leaks) hb fX9_19 (pc' := 74) rfl (pz_dc dX9_leaks 38 rfl) (fun a4 hb => ?_)
        refine pz_iload_n (pc' := 75) (x := l2) 2 rfl (pz_dc dX9_leaks 39 rfl) rfl ?_
        refine pz_i2l (pc' := 76) rfl (pz_dc dX9_leaks 40 rfl) ?_
        refine pz_cVv (M := mX9_leaks) (N := mX4_add) (d' := 0) (bc1 := 0) (bs1 := 0) (bc2 := bc) (bs2 := bs) (pc' := 79) [.long l2.toInt64] hb vX9_209 rfl (pz_dc dX9_leaks 41 rfl) rfl (Nat.le_of_ble_eq_true rfl) (Nat.le_of_ble_eq_true rfl) rfl (by omega) (by omega) (by omega) (fun h5 hb => ?_)
        refine pz_aload_n (pc' := 80) (x := l0) 0 rfl (pz_dc dX9_leaks 42 rfl) rfl ?_
        refine pz_getR (M := mX9_leaks) hb fX9_19 (pc' := 83) rfl (pz_dc dX9_leaks 43 rfl) (fun a6 hb => ?_)
        refine pz_iload_n (pc' := 84) (x := l3) 3 rfl (pz_dc dX9_leaks 44 rfl) rfl ?_
        refine pz_i2l (pc' := 85) rfl (pz_dc dX9_leaks 45 rfl) ?_
        refine pz_cVv (M := mX9_leaks) (N := mX4_add) (d' := 0) (bc1 := 0) (bs1 := 0) (bc2 := bc) (bs2 := bs) (pc' := 88) [.long l3.toInt64] hb vX9_209 rfl (pz_dc dX9_leaks 46 rfl) rfl (Nat.le_of_ble_eq_true rfl) (Nat.le_of_ble_eq_true rfl) rfl (by omega) (by omega) (by omega) (fun h7 hb => ?_)
        refine pz_iinc (pc' := 91) (x := l1) (v := l1 + (1 : Int32)) (lv' := [(1, .int (l1 + (1 : Int32))), (0, .ref l0), (2, .int l2), (3, .int l3)]) 1 rfl (pz_dc dX9_leaks 47 rfl) rfl rfl (by decide) rfl ?_
        refine pz_iinc (pc' := 94) (x := l3) (v := l3 + (1 : Int32)) (lv' := [(3, .int (l3 + (1 : Int32))), (1, .int (l1 + (1 : Int32))), (0, .ref l0), (2, .int l2)]) 3 rfl (pz_dc dX9_leaks 48 rfl) rfl rfl (by decide) rfl ?_
        refine pz_goto (pc' := 47) (pz_dc dX9_leaks 49 rfl) (by decide) ?_
        refine pz_lv (lv' := [(0, .ref l0), (1, .int (l1 + (1 : Int32))), (2, .int l2), (3, .int (l3 + (1 : Int32)))]) [2, 1, 3, 0] rfl ?_
        exact hb
set_option maxRecDepth 20000 in
set_option maxHeartbeats 4000000 in
theorem wX9_reads_0 {Ex : State → Nat → Prop} {Q : Option Value → pz_H → Prop} {d bc bs : Nat} {l0 : Nat}  {h : pz_H} (hD : 6 ≤ d) (hb : (3 ≤ bc ∧ 6907 ≤ bs) ∧ (pz_is h l0 9 ∧ (pz_kr mX9_takeTidemarks 5 3 6907 (.ref l0 :: []) h (fun (a2 : Nat) (h1 : pz_H) => pz_is h1 a2 7 ∧ (pz_gI h1 a2 7 2 (fun (x3 : Int32) => (¬ x3 = 0 → pz_is h1 a2 7 ∧ (pz_gI h1 a2 7 2 (fun (x4 : Int32) => pz_V mX9_reads Ex Q d (bc - 3) (bs - 6907) 27 [(0, .ref l0), (1, .ref a2), (2, .int (x4 + ((1 : Int32)))), (3, .int 0), (4, .int 0)] [] h1))) ∧ (x3 = 0 → Q (some (.int ((-2)))) h1))))))) : pz_V mX9_reads Ex Q d bc bs 0 [(0, .ref l0)] [] h := by
  refine pz_aload_n (pc' := 1) (x := l0) 0 rfl (pz_dc dX9_reads 0 rfl) rfl ?_
  obtain ⟨hq9, hb⟩ := hb
  refine pz_cVr (M := mX9_reads) (N := mX9_takeTidemarks) (d' := 5) (bc1 := 3) (bs1 := 6907) (bc2 := bc - 3) (bs2 := bs - 6907) (pc' := 4) [] hb vX9_275 rfl (pz_dc dX9_reads 1 rfl) rfl (Nat.le_of_ble_eq_true rfl) (Nat.le_of_ble_eq_true rfl) rfl (by omega) (by omega) (by omega) (fun a2 h1 hb => ?_)
  refine pz_astore_n (pc' := 5) (lv' := [(1, .ref a2), (0, .ref l0)]) rfl (pz_dc dX9_reads 2 rfl) (by decide) rfl ?_
  refine pz_aload_n (pc' := 6) (x := a2) 0 rfl (pz_dc dX9_reads 3 rfl) rfl ?_
  obtain ⟨⟨fs7, hf8⟩, hb⟩ := hb
  refine pz_callV (M := mX9_reads) (N := mX7_size) (d' := 0) (bc1 := 0) (bs1 := 0) (bc2 := bc - 3) (bs2 := bs - 6907) (pc' := 9) [] vX9_279 rfl (pz_dc dX9_reads 4 rfl) rfl (Nat.le_of_ble_eq_true rfl) (Nat.le_of_ble_eq_true rfl) rfl (by omega) (by omega) (by omega) hf8 ?_
  refine pz_aload_n (pc' := 1) (x := a2) 0 rfl (pz_dc dX7_size 0 rfl) rfl ?_
  refine pz_getI (M := mX7_size) hb fX7_18 (pc' := 4) rfl (pz_dc dX7_size 1 rfl) (fun x3 hb => ?_)
  refine pz_iret (pz_dc dX7_size 2 rfl) rfl ?_
  show pz_V mX9_reads _ _ _ _ _ 9 [(1, .ref a2), (0, .ref l0)] [.int x3] h1
  refine pz_if_ne (pc' := 12) (tgt := 15) rfl (pz_dc dX9_reads 5 rfl) (by decide) (fun hc => ?_) (fun hc => ?_)
  · replace hb := hb.1 hc
    refine pz_aload_n (pc' := 16) (x := a2) 0 rfl (pz_dc dX9_reads 8 rfl) rfl ?_
    obtain ⟨⟨fs5, hf6⟩, hb⟩ := hb
    refine pz_callV (M := mX9_reads) (N := mX7_size) (d' := 0) (bc1 := 0) (bs1 := 0) (bc2 := bc - 3) (bs2 := bs - 6907) (pc' := 19) [] vX9_279 rfl (pz_dc dX9_reads 9 rfl) rfl (Nat.le_of_ble_eq_true rfl) (Nat.le_of_ble_eq_true rfl) rfl (by omega) (by omega) (by omega) hf6 ?_
    refine pz_aload_n (pc' := 1) (x := a2) 0 rfl (pz_dc dX7_size 0 rfl) rfl ?_
    refine pz_getI (M := mX7_size) hb fX7_18 (pc' := 4) rfl (pz_dc dX7_size 1 rfl) (fun x4 hb => ?_)
    refine pz_iret (pz_dc dX7_size 2 rfl) rfl ?_
    show pz_V mX9_reads _ _ _ _ _ 19 [(1, .ref a2), (0, .ref l0)] [.int x4] h1
    refine pz_iconst (pc' := 20) (v := 1) rfl (pz_dc dX9_reads 10 rfl) ki_1 ?_
    refine pz_iadd (pc' := 21) rfl (pz_dc dX9_reads 11 rfl) ?_
    refine pz_istore_n (pc' := 22) (lv' := [(2, .int (x4 + ((1 : Int32)))), (1, .ref a2), (0, .ref l0)]) rfl (pz_dc dX9_reads 12 rfl) (by decide) rfl ?_
    refine pz_iconst (pc' := 23) (v := 0) rfl (pz_dc dX9_reads 13 rfl) ki_0 ?_
    refine pz_istore_n (pc' := 24) (lv' := [(3, .int 0), (2, .int (x4 + ((1 : Int32)))), (1, .ref a2), (0, .ref l0)]) rfl (pz_dc dX9_reads 14 rfl) (by decide) rfl ?_
    refine pz_iconst (pc' := 25) (v := 0) rfl (pz_dc dX9_reads 15 rfl) ki_0 ?_
    refine pz_istore (pc' := 27) (lv' := [(4, .int 0), (3, .int 0), (2, .int (x4 + ((1 : Int32)))), (1, .ref a2), (0, .ref l0)]) rfl (pz_dc dX9_reads 16 rfl) (by decide) rfl ?_
    refine pz_lv (lv' := [(0, .ref l0), (1, .ref a2), (2, .int (x4 + ((1 : Int32)))), (3, .int 0), (4, .int 0)]) [4, 3, 2, 1, 0] rfl ?_
    exact hb
  · replace hb := hb.2 hc
    refine pz_bipush (pc' := 14) (v := (-2)) rfl (pz_dc dX9_reads 6 rfl) kb_m2 ?_
    exact pz_iret (pz_dc dX9_reads 7 rfl) rfl hb
set_option maxRecDepth 20000 in
set_option maxHeartbeats 4000000 in
theorem wX9_reads_27 {Ex : State → Nat → Prop} {Q : Option Value → pz_H → Prop} {d bc bs : Nat} {l0 : Nat} {l1 : Nat} {l2 : Int32} {l3 : Int32} {l4 : Int32}  {h : pz_H} (hD : 6 ≤ d) (hb : pz_gR h l0 9 2 (fun (a1 : Nat) => pz_is h a1 1 ∧ (pz_gI h a1 1 4 (fun (x2 : Int32) => (x2 ≤ l4 → pz_gR h l0 9 1 (fun (a3 : Nat) => pz_is h a3 4 ∧ (pz_kv mX4_tell 1 0 0 (.ref a3 :: [.long l2.toInt64]) h (fun (h4 : pz_H) => Q (some (.int l3)) h4)))) ∧ (¬ x2 ≤ l4 → pz_V mX9_reads Ex Q d bc bs 42 [(0, .ref l0), (1, .ref l1), (2, .int l2), (3, .int l3), (4, .int l4), (5, .int 0)] [] h))))) : pz_V mX9_reads Ex Q d bc bs 27 [(0, .ref l0), (1, .ref l1), (2, .int l2), (3, .int l3), (4, .int l4)] [] h := by
  refine pz_iload (pc' := 29) (x := l4) 4 rfl (pz_dc dX9_reads 17 rfl) rfl ?_
  refine pz_aload_n (pc' := 30) (x := l0) 0 rfl (pz_dc dX9_reads 18 rfl) rfl ?_
  refine pz_getR (M := mX9_reads) hb fX9_26 (pc' := 33) rfl (pz_dc dX9_reads 19 rfl) (fun a1 hb => ?_)
  obtain ⟨⟨fs5, hf6⟩, hb⟩ := hb
  refine pz_callV (M := mX9_reads) (N := mX1_size) (d' := 0) (bc1 := 0) (bs1 := 0) (bc2 := bc) (bs2 := bs) (pc' := 36) [] vX9_208 rfl (pz_dc dX9_reads 20 rfl) rfl (Nat.le_of_ble_eq_true rfl) (Nat.le_of_ble_eq_true rfl) rfl (by omega) (by omega) (by omega) hf6 ?_
  refine pz_aload_n (pc' := 1) (x := a1) 0 rfl (pz_dc dX1_size 0 rfl) rfl ?_
  refine pz_getI (M := mX1_size) hb fX1_24 (pc' := 4) rfl (pz_dc dX1_size 1 rfl) (fun x2 hb => ?_)
  refine pz_iret (pz_dc dX1_size 2 rfl) rfl ?_
  show pz_V mX9_reads _ _ _ _ _ 36 [(0, .ref l0), (1, .ref l1), (2, .int l2), (3, .int l3), (4, .int l4)] [.int x2, .int l4] h
  refine pz_icmp_ge (pc' := 39) (tgt := 89) rfl (pz_dc dX9_reads 21 rfl) (by decide) (fun hc => ?_) (fun hc => ?_)
  · replace hb := hb.1 hc
    refine pz_aload_n (pc' := 90) (x := l0) 0 rfl (pz_dc dX9_reads 47 rfl) rfl ?_
    refine pz_getR (M := mX9_reads) hb fX9_19 (pc' := 93) rfl (pz_dc dX9_reads 48 rfl) (fun a3 hb => ?_)
    refine pz_iload_n (pc' := 94) (x := l2) 2 rfl (pz_dc dX9_reads 49 rfl) rfl ?_
    refine pz_i2l (pc' := 95) rfl (pz_dc dX9_reads 50 rfl) ?_
    refine pz_cVv (M := mX9_reads) (N := mX4_tell) (d' := 1) (bc1 := 0) (bs1 := 0) (bc2 := bc) (bs2 := bs) (pc' := 98) [.long l2.toInt64] hb vX9_212 rfl (pz_dc dX9_reads 51 rfl) rfl (Nat.le_of_ble_eq_true rfl) (Nat.le_of_ble_eq_true rfl) rfl (by omega) (by omega) (by omega) (fun h4 hb => ?_)
    refine pz_iload_n (pc' := 99) (x := l3) 3 rfl (pz_dc dX9_reads 52 rfl) rfl ?_
    exact pz_iret (pz_dc dX9_reads 53 rfl) rfl hb
  · replace hb := hb.2 hc
    refine pz_iconst (pc' := 40) (v := 0) rfl (pz_dc dX9_reads 22 rfl) ki_0 ?_
    refine pz_istore (pc' := 42) (lv' := [(5, .int 0), (0, .ref l0), (1, .ref l1), (2, .int l2), (3, .int l3), (4, .int l4)]) rfl (pz_dc dX9_reads 23 rfl) (by decide) rfl ?_
    refine pz_lv (lv' := [(0, .ref l0), (1, .ref l1), (2, .int l2), (3, .int l3), (4, .int l4), (5, .int 0)]) [1, 2, 3, 4, 5, 0] rfl ?_
    exact hb
set_option maxRecDepth 20000 in
set_option maxHeartbeats 4000000 in
theorem wX9_reads_42 {Ex : State → Nat → Prop} {Q : Option Value → pz_H → Prop} {d bc bs : Nat} {l0 : Nat} {l1 : Nat} {l2 : Int32} {l3 : Int32} {l4 : Int32} {l5 : Int32}  {h : pz_H} (hD : 6 ≤ d) (hb : (((20 : Int32)) < l5 → pz_V mX9_reads Ex Q d bc bs 27 [(0, .ref l0), (1, .ref l1), (2, .int l2), (3, .int l3), (4, .int (l4 + (1 : Int32)))] [] h) ∧ (¬ ((20 : Int32)) < l5 → pz_is h l1 7 ∧ (pz_ki mX7_mostAlike 1 0 0 (.ref l1 :: [.int l4, .int l5]) h (fun (x2 : Int32) (h1 : pz_H) => (l2 ≤ x2 → pz_V mX9_reads Ex Q d bc bs 42 [(0, .ref l0), (1, .ref l1), (2, .int l2), (3, .int l3), (4, .int l4), (5, .int (l5 + (1 : Int32)))] [] h1) ∧ (¬ l2 ≤ x2 → pz_V mX9_reads Ex Q d bc bs 42 [(0, .ref l0), (1, .ref l1), (2, .int x2), (3, .int ((((21 : Int32)) * l4) + l5)), (4, .int l4), (5, .int (l5 + (1 : Int32)))] [] h1))))) : pz_V mX9_reads Ex Q d bc bs 42 [(0, .ref l0), (1, .ref l1), (2, .int l2), (3, .int l3), (4, .int l4), (5, .int l5)] [] h := by
  refine pz_iload (pc' := 44) (x := l5) 5 rfl (pz_dc dX9_reads 24 rfl) rfl ?_
  refine pz_bipush (pc' := 46) (v := 20) rfl (pz_dc dX9_reads 25 rfl) kb_20 ?_
  refine pz_icmp_gt (pc' := 49) (tgt := 83) rfl (pz_dc dX9_reads 26 rfl) (by decide) (fun hc => ?_) (fun hc => ?_)
  · replace hb := hb.1 hc
    refine pz_iinc (pc' := 86) (x := l4) (v := l4 + (1 : Int32)) (lv' := [(4, .int (l4 + (1 : Int32))), (0, .ref l0), (1, .ref l1), (2, .int l2), (3, .int l3), (5, .int l5)]) 4 rfl (pz_dc dX9_reads 45 rfl) rfl rfl (by decide) rfl ?_
    refine pz_goto (pc' := 27) (pz_dc dX9_reads 46 rfl) (by decide) ?_
    refine pz_lv (lv' := [(0, .ref l0), (1, .ref l1), (2, .int l2), (3, .int l3), (4, .int (l4 + (1 : Int32)))]) [1, 2, 3, 4, 0] rfl ?_
    exact hb
  · replace hb := hb.2 hc
    refine pz_aload_n (pc' := 50) (x := l1) 1 rfl (pz_dc dX9_reads 27 rfl) rfl ?_
    refine pz_iload (pc' := 52) (x := l4) 4 rfl (pz_dc dX9_reads 28 rfl) rfl ?_
    refine pz_iload (pc' := 54) (x := l5) 5 rfl (pz_dc dX9_reads 29 rfl) rfl ?_
    refine pz_cVi (M := mX9_reads) (N := mX7_mostAlike) (d' := 1) (bc1 := 0) (bs1 := 0) (bc2 := bc) (bs2 := bs) (pc' := 57) [.int l4, .int l5] hb vX9_282 rfl (pz_dc dX9_reads 30 rfl) rfl (Nat.le_of_ble_eq_true rfl) (Nat.le_of_ble_eq_true rfl) rfl (by omega) (by omega) (by omega) (fun x2 h1 hb => ?_)
    refine pz_istore (pc' := 59) (lv' := [(6, .int x2), (0, .ref l0), (1, .ref l1), (2, .int l2), (3, .int l3), (4, .int l4), (5, .int l5)]) rfl (pz_dc dX9_reads 31 rfl) (by decide) rfl ?_
    refine pz_iload (pc' := 61) (x := x2) 0 rfl (pz_dc dX9_reads 32 rfl) rfl ?_
    refine pz_iload_n (pc' := 62) (x := l2) 3 rfl (pz_dc dX9_reads 33 rfl) rfl ?_
    refine pz_icmp_ge (pc' := 65) (tgt := 77) rfl (pz_dc dX9_reads 34 rfl) (by decide) (fun hc => ?_) (fun hc => ?_)
    · replace hb := hb.1 hc
      refine pz_iinc (pc' := 80) (x := l5) (v := l5 + (1 : Int32)) (lv' := [(5, .int (l5 + (1 : Int32))), (6, .int x2), (0, .ref l0), (1, .ref l1), (2, .int l2), (3, .int l3), (4, .int l4)]) 6 rfl (pz_dc dX9_reads 43 rfl) rfl rfl (by decide) rfl ?_
      refine pz_goto (pc' := 42) (pz_dc dX9_reads 44 rfl) (by decide) ?_
      refine pz_lv (lv' := [(0, .ref l0), (1, .ref l1), (2, .int l2), (3, .int l3), (4, .int l4), (5, .int (l5 + (1 : Int32)))]) [2, 3, 4, 5, 6, 0] rfl ?_
      exact hb
    · replace hb := hb.2 hc
      refine pz_iload (pc' := 67) (x := x2) 0 rfl (pz_dc dX9_reads 35 rfl) rfl ?_
      refine pz_istore_n (pc' := 68) (lv' := [(2, .int x2), (6, .int x2), (0, .ref l0), (1, .ref l1), (3, .int l3), (4, .int l4), (5, .int l5)]) rfl (pz_dc dX9_reads 36 rfl) (by decide) rfl ?_
      refine pz_bipush (pc' := 70) (v := 21) rfl (pz_dc dX9_reads 37 rfl) kb_21 ?_
      refine pz_iload (pc' := 72) (x := l4) 5 rfl (pz_dc dX9_reads 38 rfl) rfl ?_
      refine pz_imul (pc' := 73) rfl (pz_dc dX9_reads 39 rfl) ?_
      refine pz_iload (pc' := 75) (x := l5) 6 rfl (pz_dc dX9_reads 40 rfl) rfl ?_
      refine pz_iadd (pc' := 76) rfl (pz_dc dX9_reads 41 rfl) ?_
      refine pz_istore_n (pc' := 77) (lv' := [(3, .int ((((21 : Int32)) * l4) + l5)), (2, .int x2), (6, .int x2), (0, .ref l0), (1, .ref l1), (4, .int l4), (5, .int l5)]) rfl (pz_dc dX9_reads 42 rfl) (by decide) rfl ?_
      refine pz_iinc (pc' := 80) (x := l5) (v := l5 + (1 : Int32)) (lv' := [(5, .int (l5 + (1 : Int32))), (3, .int ((((21 : Int32)) * l4) + l5)), (2, .int x2), (6, .int x2), (0, .ref l0), (1, .ref l1), (4, .int l4)]) 6 rfl (pz_dc dX9_reads 43 rfl) rfl rfl (by decide) rfl ?_
      refine pz_goto (pc' := 42) (pz_dc dX9_reads 44 rfl) (by decide) ?_
      refine pz_lv (lv' := [(0, .ref l0), (1, .ref l1), (2, .int x2), (3, .int ((((21 : Int32)) * l4) + l5)), (4, .int l4), (5, .int (l5 + (1 : Int32)))]) [4, 5, 2, 1, 6, 0] rfl ?_
      exact hb
set_option maxRecDepth 20000 in
set_option maxHeartbeats 4000000 in
theorem wX9_threat_0 {Ex : State → Nat → Prop} {Q : Option Value → pz_H → Prop} {d bc bs : Nat} {l0 : Nat} {l1 : Int32}  {h : pz_H} (hD : 3 ≤ d) (hb : pz_gR h l0 9 2 (fun (a1 : Nat) => pz_is h a1 1 ∧ (pz_is h a1 1 ∧ (pz_gI h a1 1 4 (fun (x2 : Int32) => (¬ (l1 &&& ((eX1_all x2) ^^^ ((-1 : Int32)))) = 0 → Q (some (.int ((-1)))) h) ∧ ((l1 &&& ((eX1_all x2) ^^^ ((-1 : Int32)))) = 0 → pz_V mX9_threat Ex Q d bc bs 17 [(0, .ref l0), (1, .int l1), (2, .int 0), (3, .int 0)] [] h)))))) : pz_V mX9_threat Ex Q d bc bs 0 [(0, .ref l0), (1, .int l1)] [] h := by
  refine pz_aload_n (pc' := 1) (x := l0) 0 rfl (pz_dc dX9_threat 0 rfl) rfl ?_
  refine pz_getR (M := mX9_threat) hb fX9_26 (pc' := 4) rfl (pz_dc dX9_threat 1 rfl) (fun a1 hb => ?_)
  refine pz_iload_n (pc' := 5) (x := l1) 1 rfl (pz_dc dX9_threat 2 rfl) rfl ?_
  obtain ⟨⟨fs8, hf9⟩, hb⟩ := hb
  refine pz_callV (M := mX9_threat) (N := mX1_hasAll) (d' := 1) (bc1 := 0) (bs1 := 0) (bc2 := bc) (bs2 := bs) (pc' := 8) [.int l1] vX9_254 rfl (pz_dc dX9_threat 3 rfl) rfl (Nat.le_of_ble_eq_true rfl) (Nat.le_of_ble_eq_true rfl) rfl (by omega) (by omega) (by omega) hf9 ?_
  refine pz_iload_n (pc' := 1) (x := l1) 1 rfl (pz_dc dX1_hasAll 0 rfl) rfl ?_
  refine pz_aload_n (pc' := 2) (x := a1) 0 rfl (pz_dc dX1_hasAll 1 rfl) rfl ?_
  obtain ⟨⟨fs6, hf7⟩, hb⟩ := hb
  obtain ⟨fs3, x2, g4, g5, hb⟩ := hb
  refine pz_callV (M := mX1_hasAll) (N := mX1_all) (d' := 0) (bc1 := 0) (bs1 := 0) (bc2 := 0) (bs2 := 0) (pc' := 5) [] vX1_28 rfl (pz_dc dX1_hasAll 2 rfl) rfl (Nat.le_of_ble_eq_true rfl) (Nat.le_of_ble_eq_true rfl) rfl (by omega) (by omega) (by omega) hf7 ?_
  refine cX1_all ⟨fs3, x2, g4, g5, ?_⟩
  show pz_V mX1_hasAll _ _ _ _ _ 5 [(0, .ref a1), (1, .int l1)] [.int (eX1_all x2), .int l1] h
  refine pz_iconst (pc' := 6) (v := (-1)) rfl (pz_dc dX1_hasAll 3 rfl) ki_m1 ?_
  refine pz_ixor (pc' := 7) rfl (pz_dc dX1_hasAll 4 rfl) ?_
  refine pz_iand (pc' := 8) rfl (pz_dc dX1_hasAll 5 rfl) ?_
  refine pz_if_ne (pc' := 11) (tgt := 15) rfl (pz_dc dX1_hasAll 6 rfl) (by decide) (fun hc => ?_) (fun hc => ?_)
  · replace hb := hb.1 hc
    refine pz_iconst (pc' := 16) (v := 0) rfl (pz_dc dX1_hasAll 9 rfl) ki_0 ?_
    refine pz_zret (pz_dc dX1_hasAll 10 rfl) rfl ⟨by decide, ?_⟩
    show pz_V mX9_threat _ _ _ _ _ 8 [(0, .ref l0), (1, .int l1)] [.int 0] h
    refine pz_if_ne (pc' := 11) (tgt := 13) rfl (pz_dc dX9_threat 4 rfl) (by decide) (fun hc => absurd hc (by decide)) (fun _ => ?_)
    refine pz_iconst (pc' := 12) (v := (-1)) rfl (pz_dc dX9_threat 5 rfl) ki_m1 ?_
    exact pz_iret (pz_dc dX9_threat 6 rfl) rfl hb
  · replace hb := hb.2 hc
    refine pz_iconst (pc' := 12) (v := 1) rfl (pz_dc dX1_hasAll 7 rfl) ki_1 ?_
    refine pz_goto (pc' := 16) (pz_dc dX1_hasAll 8 rfl) (by decide) ?_
    refine pz_zret (pz_dc dX1_hasAll 10 rfl) rfl ⟨by decide, ?_⟩
    show pz_V mX9_threat _ _ _ _ _ 8 [(0, .ref l0), (1, .int l1)] [.int 1] h
    refine pz_if_ne (pc' := 11) (tgt := 13) rfl (pz_dc dX9_threat 4 rfl) (by decide) (fun _ => ?_) (fun hc => absurd hc (by decide))
    refine pz_iconst (pc' := 14) (v := 0) rfl (pz_dc dX9_threat 7 rfl) ki_0 ?_
    refine pz_istore_n (pc' := 15) (lv' := [(2, .int 0), (0, .ref l0), (1, .int l1)]) rfl (pz_dc dX9_threat 8 rfl) (by decide) rfl ?_
    refine pz_iconst (pc' := 16) (v := 0) rfl (pz_dc dX9_threat 9 rfl) ki_0 ?_
    refine pz_istore_n (pc' := 17) (lv' := [(3, .int 0), (2, .int 0), (0, .ref l0), (1, .int l1)]) rfl (pz_dc dX9_threat 10 rfl) (by decide) rfl ?_
    refine pz_lv (lv' := [(0, .ref l0), (1, .int l1), (2, .int 0), (3, .int 0)]) [2, 3, 1, 0] rfl ?_
    exact hb
set_option maxRecDepth 20000 in
set_option maxHeartbeats 4000000 in
theorem wX9_threat_17 {Ex : State → Nat → Prop} {Q : Option Value → pz_H → Prop} {d bc bs : Nat} {l0 : Nat} {l1 : Int32} {l2 : Int32} {l3 : Int32}  {h : pz_H} (hD : 3 ≤ d) (hb : pz_gR h l0 9 2 (fun (a1 : Nat) => pz_is h a1 1 ∧ (pz_gI h a1 1 4 (fun (x2 : Int32) => (x2 ≤ l3 → pz_gR h l0 9 1 (fun (a3 : Nat) => pz_is h a3 4 ∧ (pz_pF h a3 4 1 (.int 0) (fun (h4 : pz_H) => pz_V mX9_threat Ex Q d bc bs 63 [(0, .ref l0), (1, .int l1), (2, .int l2), (3, .int 0)] [] h4)))) ∧ (¬ x2 ≤ l3 → ((eX9_isIn l1 l3) = 0 → pz_V mX9_threat Ex Q d bc bs 17 [(0, .ref l0), (1, .int l1), (2, .int l2), (3, .int (l3 + (1 : Int32)))] [] h) ∧ (¬ (eX9_isIn l1 l3) = 0 → pz_gR h l0 9 3 (fun (a7 : Nat) => pz_gR h a7 8 0 (fun (a8 : Nat) => pz_rI h a8 l3 (fun (x9 : Int32) => pz_V mX9_threat Ex Q d bc bs 17 [(0, .ref l0), (1, .int l1), (2, .int (l2 ^^^ x9)), (3, .int (l3 + (1 : Int32)))] [] h))))))))) : pz_V mX9_threat Ex Q d bc bs 17 [(0, .ref l0), (1, .int l1), (2, .int l2), (3, .int l3)] [] h := by
  refine pz_iload_n (pc' := 18) (x := l3) 3 rfl (pz_dc dX9_threat 11 rfl) rfl ?_
  refine pz_aload_n (pc' := 19) (x := l0) 0 rfl (pz_dc dX9_threat 12 rfl) rfl ?_
  refine pz_getR (M := mX9_threat) hb fX9_26 (pc' := 22) rfl (pz_dc dX9_threat 13 rfl) (fun a1 hb => ?_)
  obtain ⟨⟨fs10, hf11⟩, hb⟩ := hb
  refine pz_callV (M := mX9_threat) (N := mX1_size) (d' := 0) (bc1 := 0) (bs1 := 0) (bc2 := bc) (bs2 := bs) (pc' := 25) [] vX9_208 rfl (pz_dc dX9_threat 14 rfl) rfl (Nat.le_of_ble_eq_true rfl) (Nat.le_of_ble_eq_true rfl) rfl (by omega) (by omega) (by omega) hf11 ?_
  refine pz_aload_n (pc' := 1) (x := a1) 0 rfl (pz_dc dX1_size 0 rfl) rfl ?_
  refine pz_getI (M := mX1_size) hb fX1_24 (pc' := 4) rfl (pz_dc dX1_size 1 rfl) (fun x2 hb => ?_)
  refine pz_iret (pz_dc dX1_size 2 rfl) rfl ?_
  show pz_V mX9_threat _ _ _ _ _ 25 [(0, .ref l0), (1, .int l1), (2, .int l2), (3, .int l3)] [.int x2, .int l3] h
  refine pz_icmp_ge (pc' := 28) (tgt := 54) rfl (pz_dc dX9_threat 15 rfl) (by decide) (fun hc => ?_) (fun hc => ?_)
  · replace hb := hb.1 hc
    refine pz_aload_n (pc' := 55) (x := l0) 0 rfl (pz_dc dX9_threat 30 rfl) rfl ?_
    refine pz_getR (M := mX9_threat) hb fX9_19 (pc' := 58) rfl (pz_dc dX9_threat 31 rfl) (fun a3 hb => ?_)
    obtain ⟨⟨fs5, hf6⟩, hb⟩ := hb
    refine pz_callV (M := mX9_threat) (N := mX4_clear) (d' := 0) (bc1 := 0) (bs1 := 0) (bc2 := bc) (bs2 := bs) (pc' := 61) [] vX9_207 rfl (pz_dc dX9_threat 32 rfl) rfl (Nat.le_of_ble_eq_true rfl) (Nat.le_of_ble_eq_true rfl) rfl (by omega) (by omega) (by omega) hf6 ?_
    refine pz_aload_n (pc' := 1) (x := a3) 0 rfl (pz_dc dX4_clear 0 rfl) rfl ?_
    refine pz_iconst (pc' := 2) (v := 0) rfl (pz_dc dX4_clear 1 rfl) ki_0 ?_
    refine pz_putv (M := mX4_clear) hb (pX4_15 _ rfl) rfl rfl (pc' := 5) rfl (pz_dc dX4_clear 2 rfl) (fun h4 hb => ?_)
    refine pz_vret (pz_dc dX4_clear 3 rfl) rfl ?_
    show pz_V mX9_threat _ _ _ _ _ 61 [(0, .ref l0), (1, .int l1), (2, .int l2), (3, .int l3)] [] h4
    refine pz_iconst (pc' := 62) (v := 0) rfl (pz_dc dX9_threat 33 rfl) ki_0 ?_
    refine pz_istore_n (pc' := 63) (lv' := [(3, .int 0), (0, .ref l0), (1, .int l1), (2, .int l2)]) rfl (pz_dc dX9_threat 34 rfl) (by decide) rfl ?_
    refine pz_lv (lv' := [(0, .ref l0), (1, .int l1), (2, .int l2), (3, .int 0)]) [1, 2, 3, 0] rfl ?_
    exact hb
  · replace hb := hb.2 hc
    refine pz_iload_n (pc' := 29) (x := l1) 1 rfl (pz_dc dX9_threat 16 rfl) rfl ?_
    refine pz_iload_n (pc' := 30) (x := l3) 3 rfl (pz_dc dX9_threat 17 rfl) rfl ?_
    refine pz_callS (M := mX9_threat) (N := mX9_isIn) (d' := 0) (bc1 := 0) (bs1 := 0) (bc2 := bc) (bs2 := bs) (pc' := 33) [.int l1, .int l3] sX9_228 rfl (pz_dc dX9_threat 18 rfl) rfl (Nat.le_of_ble_eq_true rfl) (Nat.le_of_ble_eq_true rfl) rfl (by omega) (by omega) (by omega) ?_
    refine cX9_isIn ?_
    show pz_V mX9_threat _ _ _ _ _ 33 [(0, .ref l0), (1, .int l1), (2, .int l2), (3, .int l3)] [.int (eX9_isIn l1 l3)] h
    refine pz_if_eq (pc' := 36) (tgt := 48) rfl (pz_dc dX9_threat 19 rfl) (by decide) (fun hc => ?_) (fun hc => ?_)
    · replace hb := hb.1 hc
      refine pz_iinc (pc' := 51) (x := l3) (v := l3 + (1 : Int32)) (lv' := [(3, .int (l3 + (1 : Int32))), (0, .ref l0), (1, .int l1), (2, .int l2)]) 3 rfl (pz_dc dX9_threat 28 rfl) rfl rfl (by decide) rfl ?_
      refine pz_goto (pc' := 17) (pz_dc dX9_threat 29 rfl) (by decide) ?_
      refine pz_lv (lv' := [(0, .ref l0), (1, .int l1), (2, .int l2), (3, .int (l3 + (1 : Int32)))]) [1, 2, 3, 0] rfl ?_
      exact hb
    · replace hb := hb.2 hc
      refine pz_iload_n (pc' := 37) (x := l2) 2 rfl (pz_dc dX9_threat 20 rfl) rfl ?_
      refine pz_aload_n (pc' := 38) (x := l0) 0 rfl (pz_dc dX9_threat 21 rfl) rfl ?_
      refine pz_getR (M := mX9_threat) hb fX9_33 (pc' := 41) rfl (pz_dc dX9_threat 22 rfl) (fun a7 hb => ?_)
      refine pz_getR (M := mX9_threat) hb fX9_136 (pc' := 44) rfl (pz_dc dX9_threat 23 rfl) (fun a8 hb => ?_)
      refine pz_iload_n (pc' := 45) (x := l3) 3 rfl (pz_dc dX9_threat 24 rfl) rfl ?_
      refine pz_ldI hb (pc' := 46) rfl (pz_dc dX9_threat 25 rfl) (fun x9 hb => ?_)
      refine pz_ixor (pc' := 47) rfl (pz_dc dX9_threat 26 rfl) ?_
      refine pz_istore_n (pc' := 48) (lv' := [(2, .int (l2 ^^^ x9)), (0, .ref l0), (1, .int l1), (3, .int l3)]) rfl (pz_dc dX9_threat 27 rfl) (by decide) rfl ?_
      refine pz_iinc (pc' := 51) (x := l3) (v := l3 + (1 : Int32)) (lv' := [(3, .int (l3 + (1 : Int32))), (2, .int (l2 ^^^ x9)), (0, .ref l0), (1, .int l1)]) 3 rfl (pz_dc dX9_threat 28 rfl) rfl rfl (by decide) rfl ?_
      refine pz_goto (pc' := 17) (pz_dc dX9_threat 29 rfl) (by decide) ?_
      refine pz_lv (lv' := [(0, .ref l0), (1, .int l1), (2, .int (l2 ^^^ x9)), (3, .int (l3 + (1 : Int32)))]) [2, 3, 1, 0] rfl ?_
      exact hb
set_option maxRecDepth 20000 in
set_option maxHeartbeats 4000000 in
theorem wX9_threat_63 {Ex : State → Nat → Prop} {Q : Option Value → pz_H → Prop} {d bc bs : Nat} {l0 : Nat} {l1 : Int32} {l2 : Int32} {l3 : Int32}  {h : pz_H} (hD : 3 ≤ d) (hb : pz_gR h l0 9 2 (fun (a1 : Nat) => pz_is h a1 1 ∧ (pz_gI h a1 1 4 (fun (x2 : Int32) => (x2 ≤ l3 → Q (some (.int 0)) h) ∧ (¬ x2 ≤ l3 → pz_gR h l0 9 3 (fun (a3 : Nat) => pz_gR h a3 8 0 (fun (a4 : Nat) => pz_rI h a4 l3 (fun (x5 : Int32) => ((eX9_isIn l1 l3) = 0 → pz_V mX9_threat Ex Q d bc bs 63 [(0, .ref l0), (1, .int l1), (2, .int l2), (3, .int (l3 + (1 : Int32)))] [] h) ∧ (¬ (eX9_isIn l1 l3) = 0 → pz_gR h l0 9 3 (fun (a6 : Nat) => pz_gR h a6 8 0 (fun (a7 : Nat) => pz_rI h a7 l3 (fun (x8 : Int32) => (x8 ≤ (x5 ^^^ l2) → pz_V mX9_threat Ex Q d bc bs 63 [(0, .ref l0), (1, .int l1), (2, .int l2), (3, .int (l3 + (1 : Int32)))] [] h) ∧ (¬ x8 ≤ (x5 ^^^ l2) → pz_gR h l0 9 1 (fun (a9 : Nat) => pz_gR h l0 9 3 (fun (a10 : Nat) => pz_gR h a10 8 0 (fun (a11 : Nat) => pz_rI h a11 l3 (fun (x12 : Int32) => pz_is h a9 4 ∧ (pz_kv mX4_tell_ 2 0 0 (.ref a9 :: [.long l3.toInt64, .long ((x12 - (x5 ^^^ l2)).toInt64)]) h (fun (h13 : pz_H) => Q (some (.int 1)) h13))))))))))))))))))) : pz_V mX9_threat Ex Q d bc bs 63 [(0, .ref l0), (1, .int l1), (2, .int l2), (3, .int l3)] [] h := by
  refine pz_iload_n (pc' := 64) (x := l3) 3 rfl (pz_dc dX9_threat 35 rfl) rfl ?_
  refine pz_aload_n (pc' := 65) (x := l0) 0 rfl (pz_dc dX9_threat 36 rfl) rfl ?_
  refine pz_getR (M := mX9_threat) hb fX9_26 (pc' := 68) rfl (pz_dc dX9_threat 37 rfl) (fun a1 hb => ?_)
  obtain ⟨⟨fs14, hf15⟩, hb⟩ := hb
  refine pz_callV (M := mX9_threat) (N := mX1_size) (d' := 0) (bc1 := 0) (bs1 := 0) (bc2 := bc) (bs2 := bs) (pc' := 71) [] vX9_208 rfl (pz_dc dX9_threat 38 rfl) rfl (Nat.le_of_ble_eq_true rfl) (Nat.le_of_ble_eq_true rfl) rfl (by omega) (by omega) (by omega) hf15 ?_
  refine pz_aload_n (pc' := 1) (x := a1) 0 rfl (pz_dc dX1_size 0 rfl) rfl ?_
  refine pz_getI (M := mX1_size) hb fX1_24 (pc' := 4) rfl (pz_dc dX1_size 1 rfl) (fun x2 hb => ?_)
  refine pz_iret (pz_dc dX1_size 2 rfl) rfl ?_
  show pz_V mX9_threat _ _ _ _ _ 71 [(0, .ref l0), (1, .int l1), (2, .int l2), (3, .int l3)] [.int x2, .int l3] h
  refine pz_icmp_ge (pc' := 74) (tgt := 139) rfl (pz_dc dX9_threat 39 rfl) (by decide) (fun hc => ?_) (fun hc => ?_)
  · replace hb := hb.1 hc
    refine pz_iconst (pc' := 140) (v := 0) rfl (pz_dc dX9_threat 76 rfl) ki_0 ?_
    exact pz_iret (pz_dc dX9_threat 77 rfl) rfl hb
  · replace hb := hb.2 hc
    refine pz_aload_n (pc' := 75) (x := l0) 0 rfl (pz_dc dX9_threat 40 rfl) rfl ?_
    refine pz_getR (M := mX9_threat) hb fX9_33 (pc' := 78) rfl (pz_dc dX9_threat 41 rfl) (fun a3 hb => ?_)
    refine pz_getR (M := mX9_threat) hb fX9_136 (pc' := 81) rfl (pz_dc dX9_threat 42 rfl) (fun a4 hb => ?_)
    refine pz_iload_n (pc' := 82) (x := l3) 3 rfl (pz_dc dX9_threat 43 rfl) rfl ?_
    refine pz_ldI hb (pc' := 83) rfl (pz_dc dX9_threat 44 rfl) (fun x5 hb => ?_)
    refine pz_iload_n (pc' := 84) (x := l2) 2 rfl (pz_dc dX9_threat 45 rfl) rfl ?_
    refine pz_ixor (pc' := 85) rfl (pz_dc dX9_threat 46 rfl) ?_
    refine pz_istore (pc' := 87) (lv' := [(4, .int (x5 ^^^ l2)), (0, .ref l0), (1, .int l1), (2, .int l2), (3, .int l3)]) rfl (pz_dc dX9_threat 47 rfl) (by decide) rfl ?_
    refine pz_iload_n (pc' := 88) (x := l1) 2 rfl (pz_dc dX9_threat 48 rfl) rfl ?_
    refine pz_iload_n (pc' := 89) (x := l3) 4 rfl (pz_dc dX9_threat 49 rfl) rfl ?_
    refine pz_callS (M := mX9_threat) (N := mX9_isIn) (d' := 0) (bc1 := 0) (bs1 := 0) (bc2 := bc) (bs2 := bs) (pc' := 92) [.int l1, .int l3] sX9_228 rfl (pz_dc dX9_threat 50 rfl) rfl (Nat.le_of_ble_eq_true rfl) (Nat.le_of_ble_eq_true rfl) rfl (by omega) (by omega) (by omega) ?_
    refine cX9_isIn ?_
    show pz_V mX9_threat _ _ _ _ _ 92 [(4, .int (x5 ^^^ l2)), (0, .ref l0), (1, .int l1), (2, .int l2), (3, .int l3)] [.int (eX9_isIn l1 l3)] h
    refine pz_if_eq (pc' := 95) (tgt := 133) rfl (pz_dc dX9_threat 51 rfl) (by decide) (fun hc => ?_) (fun hc => ?_)
    · replace hb := hb.1 hc
      refine pz_iinc (pc' := 136) (x := l3) (v := l3 + (1 : Int32)) (lv' := [(3, .int (l3 + (1 : Int32))), (4, .int (x5 ^^^ l2)), (0, .ref l0), (1, .int l1), (2, .int l2)]) 4 rfl (pz_dc dX9_threat 74 rfl) rfl rfl (by decide) rfl ?_
      refine pz_goto (pc' := 63) (pz_dc dX9_threat 75 rfl) (by decide) ?_
      refine pz_lv (lv' := [(0, .ref l0), (1, .int l1), (2, .int l2), (3, .int (l3 + (1 : Int32)))]) [2, 3, 4, 0] rfl ?_
      exact hb
    · replace hb := hb.2 hc
      refine pz_iload (pc' := 97) (x := x5 ^^^ l2) 0 rfl (pz_dc dX9_threat 52 rfl) rfl ?_
      refine pz_aload_n (pc' := 98) (x := l0) 1 rfl (pz_dc dX9_threat 53 rfl) rfl ?_
      refine pz_getR (M := mX9_threat) hb fX9_33 (pc' := 101) rfl (pz_dc dX9_threat 54 rfl) (fun a6 hb => ?_)
      refine pz_getR (M := mX9_threat) hb fX9_136 (pc' := 104) rfl (pz_dc dX9_threat 55 rfl) (fun a7 hb => ?_)
      refine pz_iload_n (pc' := 105) (x := l3) 4 rfl (pz_dc dX9_threat 56 rfl) rfl ?_
      refine pz_ldI hb (pc' := 106) rfl (pz_dc dX9_threat 57 rfl) (fun x8 hb => ?_)
      refine pz_icmp_ge (pc' := 109) (tgt := 133) rfl (pz_dc dX9_threat 58 rfl) (by decide) (fun hc => ?_) (fun hc => ?_)
      · replace hb := hb.1 hc
        refine pz_iinc (pc' := 136) (x := l3) (v := l3 + (1 : Int32)) (lv' := [(3, .int (l3 + (1 : Int32))), (4, .int (x5 ^^^ l2)), (0, .ref l0), (1, .int l1), (2, .int l2)]) 4 rfl (pz_dc dX9_threat 74 rfl) rfl rfl (by decide) rfl ?_
        refine pz_goto (pc' := 63) (pz_dc dX9_threat 75 rfl) (by decide) ?_
        refine pz_lv (lv' := [(0, .ref l0), (1, .int l1), (2, .int l2), (3, .int (l3 + (1 : Int32)))]) [2, 3, 4, 0] rfl ?_
        exact hb
      · replace hb := hb.2 hc
        refine pz_aload_n (pc' := 110) (x := l0) 1 rfl (pz_dc dX9_threat 59 rfl) rfl ?_
        refine pz_getR (M := mX9_threat) hb fX9_19 (pc' := 113) rfl (pz_dc dX9_threat 60 rfl) (fun a9 hb => ?_)
        refine pz_iload_n (pc' := 114) (x := l3) 4 rfl (pz_dc dX9_threat 61 rfl) rfl ?_
        refine pz_i2l (pc' := 115) rfl (pz_dc dX9_threat 62 rfl) ?_
        refine pz_aload_n (pc' := 116) (x := l0) 1 rfl (pz_dc dX9_threat 63 rfl) rfl ?_
        refine pz_getR (M := mX9_threat) hb fX9_33 (pc' := 119) rfl (pz_dc dX9_threat 64 rfl) (fun a10 hb => ?_)
        refine pz_getR (M := mX9_threat) hb fX9_136 (pc' := 122) rfl (pz_dc dX9_threat 65 rfl) (fun a11 hb => ?_)
        refine pz_iload_n (pc' := 123) (x := l3) 4 rfl (pz_dc dX9_threat 66 rfl) rfl ?_
        refine pz_ldI hb (pc' := 124) rfl (pz_dc dX9_threat 67 rfl) (fun x12 hb => ?_)
        refine pz_iload (pc' := 126) (x := x5 ^^^ l2) 0 rfl (pz_dc dX9_threat 68 rfl) rfl ?_
        refine pz_isub (pc' := 127) rfl (pz_dc dX9_threat 69 rfl) ?_
        refine pz_i2l (pc' := 128) rfl (pz_dc dX9_threat 70 rfl) ?_
        refine pz_cVv (M := mX9_threat) (N := mX4_tell_) (d' := 2) (bc1 := 0) (bs1 := 0) (bc2 := bc) (bs2 := bs) (pc' := 131) [.long l3.toInt64, .long ((x12 - (x5 ^^^ l2)).toInt64)] hb vX9_167 rfl (pz_dc dX9_threat 71 rfl) rfl (Nat.le_of_ble_eq_true rfl) (Nat.le_of_ble_eq_true rfl) rfl (by omega) (by omega) (by omega) (fun h13 hb => ?_)
        refine pz_iconst (pc' := 132) (v := 1) rfl (pz_dc dX9_threat 72 rfl) ki_1 ?_
        exact pz_iret (pz_dc dX9_threat 73 rfl) rfl hb
set_option maxRecDepth 20000 in
set_option maxHeartbeats 4000000 in
theorem wX9_treaty_0 {Ex : State → Nat → Prop} {Q : Option Value → pz_H → Prop} {d bc bs : Nat} {l0 : Nat} {l1 : Int32}  {h : pz_H} (hD : 3 ≤ d) (hb : (¬ (eX9_isWithin l1 ((0 : Int32)) ((999 : Int32))) = 0 → pz_gR h l0 9 3 (fun (a1 : Nat) => pz_is h l0 9 ∧ (pz_kv mX9_countByKing 2 0 0 (.ref l0 :: [.ref a1]) h (fun (h2 : pz_H) => pz_V mX9_treaty Ex Q d bc bs 32 [(0, .ref l0), (1, .int l1), (2, .int 0), (3, .int 0), (4, .int 15), (5, .int 0)] [] h2)))) ∧ ((eX9_isWithin l1 ((0 : Int32)) ((999 : Int32))) = 0 → Q (some (.int ((-1)))) h)) : pz_V mX9_treaty Ex Q d bc bs 0 [(0, .ref l0), (1, .int l1)] [] h := by
  refine pz_iload_n (pc' := 1) (x := l1) 1 rfl (pz_dc dX9_treaty 0 rfl) rfl ?_
  refine pz_iconst (pc' := 2) (v := 0) rfl (pz_dc dX9_treaty 1 rfl) ki_0 ?_
  refine pz_sipush (pc' := 5) (v := 999) rfl (pz_dc dX9_treaty 2 rfl) ks_999 ?_
  refine pz_callS (M := mX9_treaty) (N := mX9_isWithin) (d' := 0) (bc1 := 0) (bs1 := 0) (bc2 := bc) (bs2 := bs) (pc' := 8) [.int l1, .int 0, .int 999] sX9_196 rfl (pz_dc dX9_treaty 3 rfl) rfl (Nat.le_of_ble_eq_true rfl) (Nat.le_of_ble_eq_true rfl) rfl (by omega) (by omega) (by omega) ?_
  refine cX9_isWithin ?_
  show pz_V mX9_treaty _ _ _ _ _ 8 [(0, .ref l0), (1, .int l1)] [.int (eX9_isWithin l1 ((0 : Int32)) ((999 : Int32)))] h
  refine pz_if_ne (pc' := 11) (tgt := 13) rfl (pz_dc dX9_treaty 4 rfl) (by decide) (fun hc => ?_) (fun hc => ?_)
  · replace hb := hb.1 hc
    refine pz_aload_n (pc' := 14) (x := l0) 0 rfl (pz_dc dX9_treaty 7 rfl) rfl ?_
    refine pz_aload_n (pc' := 15) (x := l0) 0 rfl (pz_dc dX9_treaty 8 rfl) rfl ?_
    refine pz_getR (M := mX9_treaty) hb fX9_33 (pc' := 18) rfl (pz_dc dX9_treaty 9 rfl) (fun a1 hb => ?_)
    refine pz_cVv (M := mX9_treaty) (N := mX9_countByKing) (d' := 2) (bc1 := 0) (bs1 := 0) (bc2 := bc) (bs2 := bs) (pc' := 21) [.ref a1] hb vX9_285 rfl (pz_dc dX9_treaty 10 rfl) rfl (Nat.le_of_ble_eq_true rfl) (Nat.le_of_ble_eq_true rfl) rfl (by omega) (by omega) (by omega) (fun h2 hb => ?_)
    refine pz_iconst (pc' := 22) (v := 0) rfl (pz_dc dX9_treaty 11 rfl) ki_0 ?_
    refine pz_istore_n (pc' := 23) (lv' := [(2, .int 0), (0, .ref l0), (1, .int l1)]) rfl (pz_dc dX9_treaty 12 rfl) (by decide) rfl ?_
    refine pz_iconst (pc' := 24) (v := 0) rfl (pz_dc dX9_treaty 13 rfl) ki_0 ?_
    refine pz_istore_n (pc' := 25) (lv' := [(3, .int 0), (2, .int 0), (0, .ref l0), (1, .int l1)]) rfl (pz_dc dX9_treaty 14 rfl) (by decide) rfl ?_
    refine pz_bipush (pc' := 27) (v := 15) rfl (pz_dc dX9_treaty 15 rfl) kb_15 ?_
    refine pz_istore (pc' := 29) (lv' := [(4, .int 15), (3, .int 0), (2, .int 0), (0, .ref l0), (1, .int l1)]) rfl (pz_dc dX9_treaty 16 rfl) (by decide) rfl ?_
    refine pz_iconst (pc' := 30) (v := 0) rfl (pz_dc dX9_treaty 17 rfl) ki_0 ?_
    refine pz_istore (pc' := 32) (lv' := [(5, .int 0), (4, .int 15), (3, .int 0), (2, .int 0), (0, .ref l0), (1, .int l1)]) rfl (pz_dc dX9_treaty 18 rfl) (by decide) rfl ?_
    refine pz_lv (lv' := [(0, .ref l0), (1, .int l1), (2, .int 0), (3, .int 0), (4, .int 15), (5, .int 0)]) [4, 5, 3, 2, 1, 0] rfl ?_
    exact hb
  · replace hb := hb.2 hc
    refine pz_iconst (pc' := 12) (v := (-1)) rfl (pz_dc dX9_treaty 5 rfl) ki_m1 ?_
    exact pz_iret (pz_dc dX9_treaty 6 rfl) rfl hb
set_option maxRecDepth 20000 in
set_option maxHeartbeats 4000000 in
theorem wX9_treaty_32 {Ex : State → Nat → Prop} {Q : Option Value → pz_H → Prop} {d bc bs : Nat} {l0 : Nat} {l1 : Int32} {l2 : Int32} {l3 : Int32} {l4 : Int32} {l5 : Int32}  {h : pz_H} (hD : 3 ≤ d) (hb : (((16 : Int32)) ≤ l5 → pz_gR h l0 9 1 (fun (a1 : Nat) => (¬ l2 = 0 → pz_is h a1 4 ∧ (pz_kv mX4_tell_ 2 0 0 (.ref a1 :: [.long l3.toInt64, .long l4.toInt64]) h (fun (h2 : pz_H) => Q (some (.int l2)) h2))) ∧ (l2 = 0 → pz_is h a1 4 ∧ (pz_kv mX4_tell_ 2 0 0 (.ref a1 :: [.long l3.toInt64, .long 0]) h (fun (h3 : pz_H) => Q (some (.int l2)) h3))))) ∧ (¬ ((16 : Int32)) ≤ l5 → pz_is h l0 9 ∧ (pz_ki mX9_isLeastTreaty 1 0 0 (.ref l0 :: [.int l5, .int l1]) h (fun (x5 : Int32) (h4 : pz_H) => (x5 = 0 → pz_V mX9_treaty Ex Q d bc bs 32 [(0, .ref l0), (1, .int l1), (2, .int l2), (3, .int l3), (4, .int l4), (5, .int (l5 + (1 : Int32)))] [] h4) ∧ (¬ x5 = 0 → pz_V mX9_treaty Ex Q d bc bs 32 [(0, .ref l0), (1, .int l1), (2, .int (l2 + (1 : Int32))), (3, .int (l3 ||| l5)), (4, .int (l4 &&& l5)), (5, .int (l5 + (1 : Int32)))] [] h4))))) : pz_V mX9_treaty Ex Q d bc bs 32 [(0, .ref l0), (1, .int l1), (2, .int l2), (3, .int l3), (4, .int l4), (5, .int l5)] [] h := by
  refine pz_iload (pc' := 34) (x := l5) 5 rfl (pz_dc dX9_treaty 19 rfl) rfl ?_
  refine pz_bipush (pc' := 36) (v := 16) rfl (pz_dc dX9_treaty 20 rfl) kb_16 ?_
  refine pz_icmp_ge (pc' := 39) (tgt := 70) rfl (pz_dc dX9_treaty 21 rfl) (by decide) (fun hc => ?_) (fun hc => ?_)
  · replace hb := hb.1 hc
    refine pz_aload_n (pc' := 71) (x := l0) 0 rfl (pz_dc dX9_treaty 38 rfl) rfl ?_
    refine pz_getR (M := mX9_treaty) hb fX9_19 (pc' := 74) rfl (pz_dc dX9_treaty 39 rfl) (fun a1 hb => ?_)
    refine pz_iload_n (pc' := 75) (x := l3) 3 rfl (pz_dc dX9_treaty 40 rfl) rfl ?_
    refine pz_i2l (pc' := 76) rfl (pz_dc dX9_treaty 41 rfl) ?_
    refine pz_iload_n (pc' := 77) (x := l2) 2 rfl (pz_dc dX9_treaty 42 rfl) rfl ?_
    refine pz_if_ne (pc' := 80) (tgt := 84) rfl (pz_dc dX9_treaty 43 rfl) (by decide) (fun hc => ?_) (fun hc => ?_)
    · replace hb := hb.1 hc
      refine pz_iload (pc' := 86) (x := l4) 4 rfl (pz_dc dX9_treaty 46 rfl) rfl ?_
      refine pz_i2l (pc' := 87) rfl (pz_dc dX9_treaty 47 rfl) ?_
      refine pz_cVv (M := mX9_treaty) (N := mX4_tell_) (d' := 2) (bc1 := 0) (bs1 := 0) (bc2 := bc) (bs2 := bs) (pc' := 90) [.long l3.toInt64, .long l4.toInt64] hb vX9_167 rfl (pz_dc dX9_treaty 48 rfl) rfl (Nat.le_of_ble_eq_true rfl) (Nat.le_of_ble_eq_true rfl) rfl (by omega) (by omega) (by omega) (fun h2 hb => ?_)
      refine pz_iload_n (pc' := 91) (x := l2) 2 rfl (pz_dc dX9_treaty 49 rfl) rfl ?_
      exact pz_iret (pz_dc dX9_treaty 50 rfl) rfl hb
    · replace hb := hb.2 hc
      refine pz_lconst (pc' := 81) (v := 0) rfl (pz_dc dX9_treaty 44 rfl) rfl ?_
      refine pz_goto (pc' := 87) (pz_dc dX9_treaty 45 rfl) (by decide) ?_
      refine pz_cVv (M := mX9_treaty) (N := mX4_tell_) (d' := 2) (bc1 := 0) (bs1 := 0) (bc2 := bc) (bs2 := bs) (pc' := 90) [.long l3.toInt64, .long 0] hb vX9_167 rfl (pz_dc dX9_treaty 48 rfl) rfl (Nat.le_of_ble_eq_true rfl) (Nat.le_of_ble_eq_true rfl) rfl (by omega) (by omega) (by omega) (fun h3 hb => ?_)
      refine pz_iload_n (pc' := 91) (x := l2) 2 rfl (pz_dc dX9_treaty 49 rfl) rfl ?_
      exact pz_iret (pz_dc dX9_treaty 50 rfl) rfl hb
  · replace hb := hb.2 hc
    refine pz_aload_n (pc' := 40) (x := l0) 0 rfl (pz_dc dX9_treaty 22 rfl) rfl ?_
    refine pz_iload (pc' := 42) (x := l5) 5 rfl (pz_dc dX9_treaty 23 rfl) rfl ?_
    refine pz_iload_n (pc' := 43) (x := l1) 1 rfl (pz_dc dX9_treaty 24 rfl) rfl ?_
    refine pz_cVi (M := mX9_treaty) (N := mX9_isLeastTreaty) (d' := 1) (bc1 := 0) (bs1 := 0) (bc2 := bc) (bs2 := bs) (pc' := 46) [.int l5, .int l1] hb vX9_288 rfl (pz_dc dX9_treaty 25 rfl) rfl (Nat.le_of_ble_eq_true rfl) (Nat.le_of_ble_eq_true rfl) rfl (by omega) (by omega) (by omega) (fun x5 h4 hb => ?_)
    refine pz_if_eq (pc' := 49) (tgt := 64) rfl (pz_dc dX9_treaty 26 rfl) (by decide) (fun hc => ?_) (fun hc => ?_)
    · replace hb := hb.1 hc
      refine pz_iinc (pc' := 67) (x := l5) (v := l5 + (1 : Int32)) (lv' := [(5, .int (l5 + (1 : Int32))), (0, .ref l0), (1, .int l1), (2, .int l2), (3, .int l3), (4, .int l4)]) 5 rfl (pz_dc dX9_treaty 36 rfl) rfl rfl (by decide) rfl ?_
      refine pz_goto (pc' := 32) (pz_dc dX9_treaty 37 rfl) (by decide) ?_
      refine pz_lv (lv' := [(0, .ref l0), (1, .int l1), (2, .int l2), (3, .int l3), (4, .int l4), (5, .int (l5 + (1 : Int32)))]) [1, 2, 3, 4, 5, 0] rfl ?_
      exact hb
    · replace hb := hb.2 hc
      refine pz_iinc (pc' := 52) (x := l2) (v := l2 + (1 : Int32)) (lv' := [(2, .int (l2 + (1 : Int32))), (0, .ref l0), (1, .int l1), (3, .int l3), (4, .int l4), (5, .int l5)]) 2 rfl (pz_dc dX9_treaty 27 rfl) rfl rfl (by decide) rfl ?_
      refine pz_iload_n (pc' := 53) (x := l3) 3 rfl (pz_dc dX9_treaty 28 rfl) rfl ?_
      refine pz_iload (pc' := 55) (x := l5) 5 rfl (pz_dc dX9_treaty 29 rfl) rfl ?_
      refine pz_ior (pc' := 56) rfl (pz_dc dX9_treaty 30 rfl) ?_
      refine pz_istore_n (pc' := 57) (lv' := [(3, .int (l3 ||| l5)), (2, .int (l2 + (1 : Int32))), (0, .ref l0), (1, .int l1), (4, .int l4), (5, .int l5)]) rfl (pz_dc dX9_treaty 31 rfl) (by decide) rfl ?_
      refine pz_iload (pc' := 59) (x := l4) 4 rfl (pz_dc dX9_treaty 32 rfl) rfl ?_
      refine pz_iload (pc' := 61) (x := l5) 5 rfl (pz_dc dX9_treaty 33 rfl) rfl ?_
      refine pz_iand (pc' := 62) rfl (pz_dc dX9_treaty 34 rfl) ?_
      refine pz_istore (pc' := 64) (lv' := [(4, .int (l4 &&& l5)), (3, .int (l3 ||| l5)), (2, .int (l2 + (1 : Int32))), (0, .ref l0), (1, .int l1), (5, .int l5)]) rfl (pz_dc dX9_treaty 35 rfl) (by decide) rfl ?_
      refine pz_iinc (pc' := 67) (x := l5) (v := l5 + (1 : Int32)) (lv' := [(5, .int (l5 + (1 : Int32))), (4, .int (l4 &&& l5)), (3, .int (l3 ||| l5)), (2, .int (l2 + (1 : Int32))), (0, .ref l0), (1, .int l1)]) 5 rfl (pz_dc dX9_treaty 36 rfl) rfl rfl (by decide) rfl ?_
      refine pz_goto (pc' := 32) (pz_dc dX9_treaty 37 rfl) (by decide) ?_
      refine pz_lv (lv' := [(0, .ref l0), (1, .int l1), (2, .int (l2 + (1 : Int32))), (3, .int (l3 ||| l5)), (4, .int (l4 &&& l5)), (5, .int (l5 + (1 : Int32)))]) [4, 5, 3, 2, 1, 0] rfl ?_
      exact hb
set_option maxRecDepth 20000 in
set_option maxHeartbeats 4000000 in
theorem wX9_wants_0 {Ex : State → Nat → Prop} {Q : Option Value → pz_H → Prop} {d bc bs : Nat} {l0 : Nat} {l1 : Int32}  {h : pz_H} (hD : 3 ≤ d) (hb : (¬ (eX9_isKing l1) = 0 → pz_gR h l0 9 2 (fun (a1 : Nat) => pz_gR h l0 9 3 (fun (a2 : Nat) => pz_is h a1 1 ∧ (pz_ki mX1_heldBy 0 0 0 (.ref a1 :: [.ref a2, .int l1]) h (fun (x4 : Int32) (h3 : pz_H) => pz_gR h3 l0 9 2 (fun (a5 : Nat) => pz_gR h3 l0 9 3 (fun (a6 : Nat) => pz_is h3 a5 1 ∧ (pz_ki mX1_total 2 0 0 (.ref a5 :: [.ref a6]) h3 (fun (x8 : Int32) (h7 : pz_H) => pz_V mX9_wants Ex Q d bc bs 37 [(0, .ref l0), (2, .int x4), (3, .int x8), (4, .int 0)] [] h7))))))))) ∧ ((eX9_isKing l1) = 0 → Q (some (.int ((-1)))) h)) : pz_V mX9_wants Ex Q d bc bs 0 [(0, .ref l0), (1, .int l1)] [] h := by
  refine pz_iload_n (pc' := 1) (x := l1) 1 rfl (pz_dc dX9_wants 0 rfl) rfl ?_
  refine pz_callS (M := mX9_wants) (N := mX9_isKing) (d' := 0) (bc1 := 0) (bs1 := 0) (bc2 := bc) (bs2 := bs) (pc' := 4) [.int l1] sX9_221 rfl (pz_dc dX9_wants 1 rfl) rfl (Nat.le_of_ble_eq_true rfl) (Nat.le_of_ble_eq_true rfl) rfl (by omega) (by omega) (by omega) ?_
  refine cX9_isKing ?_
  show pz_V mX9_wants _ _ _ _ _ 4 [(0, .ref l0), (1, .int l1)] [.int (eX9_isKing l1)] h
  refine pz_if_ne (pc' := 7) (tgt := 9) rfl (pz_dc dX9_wants 2 rfl) (by decide) (fun hc => ?_) (fun hc => ?_)
  · replace hb := hb.1 hc
    refine pz_aload_n (pc' := 10) (x := l0) 0 rfl (pz_dc dX9_wants 5 rfl) rfl ?_
    refine pz_getR (M := mX9_wants) hb fX9_26 (pc' := 13) rfl (pz_dc dX9_wants 6 rfl) (fun a1 hb => ?_)
    refine pz_aload_n (pc' := 14) (x := l0) 0 rfl (pz_dc dX9_wants 7 rfl) rfl ?_
    refine pz_getR (M := mX9_wants) hb fX9_33 (pc' := 17) rfl (pz_dc dX9_wants 8 rfl) (fun a2 hb => ?_)
    refine pz_iload_n (pc' := 18) (x := l1) 1 rfl (pz_dc dX9_wants 9 rfl) rfl ?_
    refine pz_cVi (M := mX9_wants) (N := mX1_heldBy) (d' := 0) (bc1 := 0) (bs1 := 0) (bc2 := bc) (bs2 := bs) (pc' := 21) [.ref a2, .int l1] hb vX9_224 rfl (pz_dc dX9_wants 10 rfl) rfl (Nat.le_of_ble_eq_true rfl) (Nat.le_of_ble_eq_true rfl) rfl (by omega) (by omega) (by omega) (fun x4 h3 hb => ?_)
    refine pz_istore_n (pc' := 22) (lv' := [(2, .int x4), (0, .ref l0), (1, .int l1)]) rfl (pz_dc dX9_wants 11 rfl) (by decide) rfl ?_
    refine pz_aload_n (pc' := 23) (x := l0) 1 rfl (pz_dc dX9_wants 12 rfl) rfl ?_
    refine pz_getR (M := mX9_wants) hb fX9_26 (pc' := 26) rfl (pz_dc dX9_wants 13 rfl) (fun a5 hb => ?_)
    refine pz_aload_n (pc' := 27) (x := l0) 1 rfl (pz_dc dX9_wants 14 rfl) rfl ?_
    refine pz_getR (M := mX9_wants) hb fX9_33 (pc' := 30) rfl (pz_dc dX9_wants 15 rfl) (fun a6 hb => ?_)
    refine pz_cVi (M := mX9_wants) (N := mX1_total) (d' := 2) (bc1 := 0) (bs1 := 0) (bc2 := bc) (bs2 := bs) (pc' := 33) [.ref a6] hb vX9_153 rfl (pz_dc dX9_wants 16 rfl) rfl (Nat.le_of_ble_eq_true rfl) (Nat.le_of_ble_eq_true rfl) rfl (by omega) (by omega) (by omega) (fun x8 h7 hb => ?_)
    refine pz_istore_n (pc' := 34) (lv' := [(3, .int x8), (2, .int x4), (0, .ref l0), (1, .int l1)]) rfl (pz_dc dX9_wants 17 rfl) (by decide) rfl ?_
    refine pz_iconst (pc' := 35) (v := 0) rfl (pz_dc dX9_wants 18 rfl) ki_0 ?_
    refine pz_istore (pc' := 37) (lv' := [(4, .int 0), (3, .int x8), (2, .int x4), (0, .ref l0), (1, .int l1)]) rfl (pz_dc dX9_wants 19 rfl) (by decide) rfl ?_
    refine pz_lv (lv' := [(0, .ref l0), (2, .int x4), (3, .int x8), (4, .int 0)]) [3, 2, 1, 0] rfl ?_
    exact hb
  · replace hb := hb.2 hc
    refine pz_iconst (pc' := 8) (v := (-1)) rfl (pz_dc dX9_wants 3 rfl) ki_m1 ?_
    exact pz_iret (pz_dc dX9_wants 4 rfl) rfl hb
set_option maxRecDepth 20000 in
set_option maxHeartbeats 4000000 in
theorem wX9_wants_37 {Ex : State → Nat → Prop} {Q : Option Value → pz_H → Prop} {d bc bs : Nat} {l0 : Nat} {l2 : Int32} {l3 : Int32} {l4 : Int32}  {h : pz_H} (hD : 3 ≤ d) (hb : pz_gR h l0 9 2 (fun (a1 : Nat) => pz_is h a1 1 ∧ (pz_gI h a1 1 4 (fun (x2 : Int32) => (x2 < l4 → Q (some (.int ((-2)))) h) ∧ (¬ x2 < l4 → pz_V mX9_wants Ex Q d bc bs 52 [(0, .ref l0), (2, .int l2), (3, .int l3), (4, .int l4), (5, .int 0)] [] h))))) : pz_V mX9_wants Ex Q d bc bs 37 [(0, .ref l0), (2, .int l2), (3, .int l3), (4, .int l4)] [] h := by
  refine pz_iload (pc' := 39) (x := l4) 3 rfl (pz_dc dX9_wants 20 rfl) rfl ?_
  refine pz_aload_n (pc' := 40) (x := l0) 0 rfl (pz_dc dX9_wants 21 rfl) rfl ?_
  refine pz_getR (M := mX9_wants) hb fX9_26 (pc' := 43) rfl (pz_dc dX9_wants 22 rfl) (fun a1 hb => ?_)
  obtain ⟨⟨fs3, hf4⟩, hb⟩ := hb
  refine pz_callV (M := mX9_wants) (N := mX1_size) (d' := 0) (bc1 := 0) (bs1 := 0) (bc2 := bc) (bs2 := bs) (pc' := 46) [] vX9_208 rfl (pz_dc dX9_wants 23 rfl) rfl (Nat.le_of_ble_eq_true rfl) (Nat.le_of_ble_eq_true rfl) rfl (by omega) (by omega) (by omega) hf4 ?_
  refine pz_aload_n (pc' := 1) (x := a1) 0 rfl (pz_dc dX1_size 0 rfl) rfl ?_
  refine pz_getI (M := mX1_size) hb fX1_24 (pc' := 4) rfl (pz_dc dX1_size 1 rfl) (fun x2 hb => ?_)
  refine pz_iret (pz_dc dX1_size 2 rfl) rfl ?_
  show pz_V mX9_wants _ _ _ _ _ 46 [(0, .ref l0), (2, .int l2), (3, .int l3), (4, .int l4)] [.int x2, .int l4] h
  refine pz_icmp_gt (pc' := 49) (tgt := 120) rfl (pz_dc dX9_wants 24 rfl) (by decide) (fun hc => ?_) (fun hc => ?_)
  · replace hb := hb.1 hc
    refine pz_bipush (pc' := 122) (v := (-2)) rfl (pz_dc dX9_wants 59 rfl) kb_m2 ?_
    exact pz_iret (pz_dc dX9_wants 60 rfl) rfl hb
  · replace hb := hb.2 hc
    refine pz_iconst (pc' := 50) (v := 0) rfl (pz_dc dX9_wants 25 rfl) ki_0 ?_
    refine pz_istore (pc' := 52) (lv' := [(5, .int 0), (0, .ref l0), (2, .int l2), (3, .int l3), (4, .int l4)]) rfl (pz_dc dX9_wants 26 rfl) (by decide) rfl ?_
    refine pz_lv (lv' := [(0, .ref l0), (2, .int l2), (3, .int l3), (4, .int l4), (5, .int 0)]) [1, 2, 3, 4, 0] rfl ?_
    exact hb
set_option maxRecDepth 20000 in
set_option maxHeartbeats 4000000 in
theorem wX9_wants_52 {Ex : State → Nat → Prop} {Q : Option Value → pz_H → Prop} {d bc bs : Nat} {l0 : Nat} {l2 : Int32} {l3 : Int32} {l4 : Int32} {l5 : Int32}  {h : pz_H} (hD : 3 ≤ d) (hb : pz_gR h l0 9 2 (fun (a1 : Nat) => pz_is h a1 1 ∧ (pz_gI h a1 1 4 (fun (x2 : Int32) => ((eX1_all x2) < l5 → pz_V mX9_wants Ex Q d bc bs 37 [(0, .ref l0), (2, .int l2), (3, .int l3), (4, .int (l4 + (1 : Int32)))] [] h) ∧ (¬ (eX1_all x2) < l5 → pz_ki mJ6_bitCount_0f7a4 0 0 0 ([.int l5]) h (fun (x7 : Int32) (h6 : pz_H) => (¬ x7 = l4 → pz_V mX9_wants Ex Q d bc bs 52 [(0, .ref l0), (2, .int l2), (3, .int l3), (4, .int l4), (5, .int (l5 + (1 : Int32)))] [] h6) ∧ (x7 = l4 → pz_gR h6 l0 9 2 (fun (a8 : Nat) => pz_gR h6 l0 9 3 (fun (a9 : Nat) => pz_is h6 a8 1 ∧ (pz_ki mX1_totalOf 1 0 0 (.ref a8 :: [.ref a9, .int (l2 ||| l5)]) h6 (fun (x11 : Int32) (h10 : pz_H) => ((((2 : Int32)) * x11) ≤ l3 → pz_V mX9_wants Ex Q d bc bs 52 [(0, .ref l0), (2, .int l2), (3, .int l3), (4, .int l4), (5, .int (l5 + (1 : Int32)))] [] h10) ∧ (¬ (((2 : Int32)) * x11) ≤ l3 → pz_gR h10 l0 9 1 (fun (a12 : Nat) => pz_is h10 a12 4 ∧ (pz_kv mX4_tell 1 0 0 (.ref a12 :: [.long l5.toInt64]) h10 (fun (h13 : pz_H) => Q (some (.int l4)) h13))))))))))))))) : pz_V mX9_wants Ex Q d bc bs 52 [(0, .ref l0), (2, .int l2), (3, .int l3), (4, .int l4), (5, .int l5)] [] h := by
  refine pz_iload (pc' := 54) (x := l5) 4 rfl (pz_dc dX9_wants 27 rfl) rfl ?_
  refine pz_aload_n (pc' := 55) (x := l0) 0 rfl (pz_dc dX9_wants 28 rfl) rfl ?_
  refine pz_getR (M := mX9_wants) hb fX9_26 (pc' := 58) rfl (pz_dc dX9_wants 29 rfl) (fun a1 hb => ?_)
  obtain ⟨⟨fs14, hf15⟩, hb⟩ := hb
  obtain ⟨fs3, x2, g4, g5, hb⟩ := hb
  refine pz_callV (M := mX9_wants) (N := mX1_all) (d' := 0) (bc1 := 0) (bs1 := 0) (bc2 := bc) (bs2 := bs) (pc' := 61) [] vX9_257 rfl (pz_dc dX9_wants 30 rfl) rfl (Nat.le_of_ble_eq_true rfl) (Nat.le_of_ble_eq_true rfl) rfl (by omega) (by omega) (by omega) hf15 ?_
  refine cX1_all ⟨fs3, x2, g4, g5, ?_⟩
  show pz_V mX9_wants _ _ _ _ _ 61 [(0, .ref l0), (2, .int l2), (3, .int l3), (4, .int l4), (5, .int l5)] [.int (eX1_all x2), .int l5] h
  refine pz_icmp_gt (pc' := 64) (tgt := 114) rfl (pz_dc dX9_wants 31 rfl) (by decide) (fun hc => ?_) (fun hc => ?_)
  · replace hb := hb.1 hc
    refine pz_iinc (pc' := 117) (x := l4) (v := l4 + (1 : Int32)) (lv' := [(4, .int (l4 + (1 : Int32))), (0, .ref l0), (2, .int l2), (3, .int l3), (5, .int l5)]) 3 rfl (pz_dc dX9_wants 57 rfl) rfl rfl (by decide) rfl ?_
    refine pz_goto (pc' := 37) (pz_dc dX9_wants 58 rfl) (by decide) ?_
    refine pz_lv (lv' := [(0, .ref l0), (2, .int l2), (3, .int l3), (4, .int (l4 + (1 : Int32)))]) [1, 2, 3, 0] rfl ?_
    exact hb
  · replace hb := hb.2 hc
    refine pz_iload (pc' := 66) (x := l5) 4 rfl (pz_dc dX9_wants 32 rfl) rfl ?_
    refine pz_cSi (M := mX9_wants) (N := mJ6_bitCount_0f7a4) (d' := 0) (bc1 := 0) (bs1 := 0) (bc2 := bc) (bs2 := bs) (pc' := 69) [.int l5] hb sX9_238 rfl (pz_dc dX9_wants 33 rfl) rfl (Nat.le_of_ble_eq_true rfl) (Nat.le_of_ble_eq_true rfl) rfl (by omega) (by omega) (by omega) (fun x7 h6 hb => ?_)
    refine pz_iload (pc' := 71) (x := l4) 3 rfl (pz_dc dX9_wants 34 rfl) rfl ?_
    refine pz_icmp_ne (pc' := 74) (tgt := 108) rfl (pz_dc dX9_wants 35 rfl) (by decide) (fun hc => ?_) (fun hc => ?_)
    · replace hb := hb.1 hc
      refine pz_iinc (pc' := 111) (x := l5) (v := l5 + (1 : Int32)) (lv' := [(5, .int (l5 + (1 : Int32))), (0, .ref l0), (2, .int l2), (3, .int l3), (4, .int l4)]) 4 rfl (pz_dc dX9_wants 55 rfl) rfl rfl (by decide) rfl ?_
      refine pz_goto (pc' := 52) (pz_dc dX9_wants 56 rfl) (by decide) ?_
      refine pz_lv (lv' := [(0, .ref l0), (2, .int l2), (3, .int l3), (4, .int l4), (5, .int (l5 + (1 : Int32)))]) [1, 2, 3, 4, 0] rfl ?_
      exact hb
    · replace hb := hb.2 hc
      refine pz_iconst (pc' := 75) (v := 2) rfl (pz_dc dX9_wants 36 rfl) ki_2 ?_
      refine pz_aload_n (pc' := 76) (x := l0) 0 rfl (pz_dc dX9_wants 37 rfl) rfl ?_
      refine pz_getR (M := mX9_wants) hb fX9_26 (pc' := 79) rfl (pz_dc dX9_wants 38 rfl) (fun a8 hb => ?_)
      refine pz_aload_n (pc' := 80) (x := l0) 0 rfl (pz_dc dX9_wants 39 rfl) rfl ?_
      refine pz_getR (M := mX9_wants) hb fX9_33 (pc' := 83) rfl (pz_dc dX9_wants 40 rfl) (fun a9 hb => ?_)
      refine pz_iload_n (pc' := 84) (x := l2) 1 rfl (pz_dc dX9_wants 41 rfl) rfl ?_
      refine pz_iload (pc' := 86) (x := l5) 4 rfl (pz_dc dX9_wants 42 rfl) rfl ?_
      refine pz_ior (pc' := 87) rfl (pz_dc dX9_wants 43 rfl) ?_
      refine pz_cVi (M := mX9_wants) (N := mX1_totalOf) (d' := 1) (bc1 := 0) (bs1 := 0) (bc2 := bc) (bs2 := bs) (pc' := 90) [.ref a9, .int (l2 ||| l5)] hb vX9_232 rfl (pz_dc dX9_wants 44 rfl) rfl (Nat.le_of_ble_eq_true rfl) (Nat.le_of_ble_eq_true rfl) rfl (by omega) (by omega) (by omega) (fun x11 h10 hb => ?_)
      refine pz_imul (pc' := 91) rfl (pz_dc dX9_wants 45 rfl) ?_
      refine pz_iload_n (pc' := 92) (x := l3) 2 rfl (pz_dc dX9_wants 46 rfl) rfl ?_
      refine pz_icmp_le (pc' := 95) (tgt := 108) rfl (pz_dc dX9_wants 47 rfl) (by decide) (fun hc => ?_) (fun hc => ?_)
      · replace hb := hb.1 hc
        refine pz_iinc (pc' := 111) (x := l5) (v := l5 + (1 : Int32)) (lv' := [(5, .int (l5 + (1 : Int32))), (0, .ref l0), (2, .int l2), (3, .int l3), (4, .int l4)]) 4 rfl (pz_dc dX9_wants 55 rfl) rfl rfl (by decide) rfl ?_
        refine pz_goto (pc' := 52) (pz_dc dX9_wants 56 rfl) (by decide) ?_
        refine pz_lv (lv' := [(0, .ref l0), (2, .int l2), (3, .int l3), (4, .int l4), (5, .int (l5 + (1 : Int32)))]) [1, 2, 3, 4, 0] rfl ?_
        exact hb
      · replace hb := hb.2 hc
        refine pz_aload_n (pc' := 96) (x := l0) 0 rfl (pz_dc dX9_wants 48 rfl) rfl ?_
        refine pz_getR (M := mX9_wants) hb fX9_19 (pc' := 99) rfl (pz_dc dX9_wants 49 rfl) (fun a12 hb => ?_)
        refine pz_iload (pc' := 101) (x := l5) 4 rfl (pz_dc dX9_wants 50 rfl) rfl ?_
        refine pz_i2l (pc' := 102) rfl (pz_dc dX9_wants 51 rfl) ?_
        refine pz_cVv (M := mX9_wants) (N := mX4_tell) (d' := 1) (bc1 := 0) (bs1 := 0) (bc2 := bc) (bs2 := bs) (pc' := 105) [.long l5.toInt64] hb vX9_212 rfl (pz_dc dX9_wants 52 rfl) rfl (Nat.le_of_ble_eq_true rfl) (Nat.le_of_ble_eq_true rfl) rfl (by omega) (by omega) (by omega) (fun h13 hb => ?_)
        refine pz_iload (pc' := 107) (x := l4) 3 rfl (pz_dc dX9_wants 53 rfl) rfl ?_
        exact pz_iret (pz_dc dX9_wants 54 rfl) rfl hb
set_option maxRecDepth 20000 in
set_option maxHeartbeats 4000000 in
theorem wX9_evens_0 {Ex : State → Nat → Prop} {Q : Option Value → pz_H → Prop} {d bc bs : Nat} {l0 : Nat}  {h : pz_H} (hD : 3 ≤ d) (hb : pz_gR h l0 9 2 (fun (a1 : Nat) => pz_gR h l0 9 3 (fun (a2 : Nat) => pz_is h a1 1 ∧ (pz_ki mX1_total 2 0 0 (.ref a1 :: [.ref a2]) h (fun (x4 : Int32) (h3 : pz_H) => pz_V mX9_evens Ex Q d bc bs 19 [(0, .ref l0), (1, .int x4), (2, .int x4), (3, .int 0), (4, .int 2)] [] h3))))) : pz_V mX9_evens Ex Q d bc bs 0 [(0, .ref l0)] [] h := by
  refine pz_aload_n (pc' := 1) (x := l0) 0 rfl (pz_dc dX9_evens 0 rfl) rfl ?_
  refine pz_getR (M := mX9_evens) hb fX9_26 (pc' := 4) rfl (pz_dc dX9_evens 1 rfl) (fun a1 hb => ?_)
  refine pz_aload_n (pc' := 5) (x := l0) 0 rfl (pz_dc dX9_evens 2 rfl) rfl ?_
  refine pz_getR (M := mX9_evens) hb fX9_33 (pc' := 8) rfl (pz_dc dX9_evens 3 rfl) (fun a2 hb => ?_)
  refine pz_cVi (M := mX9_evens) (N := mX1_total) (d' := 2) (bc1 := 0) (bs1 := 0) (bc2 := bc) (bs2 := bs) (pc' := 11) [.ref a2] hb vX9_153 rfl (pz_dc dX9_evens 4 rfl) rfl (Nat.le_of_ble_eq_true rfl) (Nat.le_of_ble_eq_true rfl) rfl (by omega) (by omega) (by omega) (fun x4 h3 hb => ?_)
  refine pz_istore_n (pc' := 12) (lv' := [(1, .int x4), (0, .ref l0)]) rfl (pz_dc dX9_evens 5 rfl) (by decide) rfl ?_
  refine pz_iload_n (pc' := 13) (x := x4) 0 rfl (pz_dc dX9_evens 6 rfl) rfl ?_
  refine pz_istore_n (pc' := 14) (lv' := [(2, .int x4), (1, .int x4), (0, .ref l0)]) rfl (pz_dc dX9_evens 7 rfl) (by decide) rfl ?_
  refine pz_iconst (pc' := 15) (v := 0) rfl (pz_dc dX9_evens 8 rfl) ki_0 ?_
  refine pz_istore_n (pc' := 16) (lv' := [(3, .int 0), (2, .int x4), (1, .int x4), (0, .ref l0)]) rfl (pz_dc dX9_evens 9 rfl) (by decide) rfl ?_
  refine pz_iconst (pc' := 17) (v := 2) rfl (pz_dc dX9_evens 10 rfl) ki_2 ?_
  refine pz_istore (pc' := 19) (lv' := [(4, .int 2), (3, .int 0), (2, .int x4), (1, .int x4), (0, .ref l0)]) rfl (pz_dc dX9_evens 11 rfl) (by decide) rfl ?_
  refine pz_lv (lv' := [(0, .ref l0), (1, .int x4), (2, .int x4), (3, .int 0), (4, .int 2)]) [4, 3, 2, 1, 0] rfl ?_
  exact hb
set_option maxRecDepth 20000 in
set_option maxHeartbeats 4000000 in
theorem wX9_evens_19 {Ex : State → Nat → Prop} {Q : Option Value → pz_H → Prop} {d bc bs : Nat} {l0 : Nat} {l1 : Int32} {l2 : Int32} {l3 : Int32} {l4 : Int32}  {h : pz_H} (hD : 3 ≤ d) (hb : pz_gR h l0 9 2 (fun (a1 : Nat) => pz_is h a1 1 ∧ (pz_gI h a1 1 4 (fun (x2 : Int32) => ((eX1_all x2) < l4 → pz_gR h l0 9 1 (fun (a6 : Nat) => pz_is h a6 4 ∧ (pz_kv mX4_tell 1 0 0 (.ref a6 :: [.long l3.toInt64]) h (fun (h7 : pz_H) => Q (some (.int l2)) h7)))) ∧ (¬ (eX1_all x2) < l4 → pz_gR h l0 9 2 (fun (a8 : Nat) => pz_gR h l0 9 3 (fun (a9 : Nat) => pz_is h a8 1 ∧ (pz_ki mX1_totalOf 1 0 0 (.ref a8 :: [.ref a9, .int l4]) h (fun (x11 : Int32) (h10 : pz_H) => (l2 ≤ (if 0 ≤ (l1 - (((2 : Int32)) * x11)) then (l1 - (((2 : Int32)) * x11)) else 0 - (l1 - (((2 : Int32)) * x11))) → pz_V mX9_evens Ex Q d bc bs 19 [(0, .ref l0), (1, .int l1), (2, .int l2), (3, .int l3), (4, .int (l4 + (2 : Int32)))] [] h10) ∧ (¬ l2 ≤ (if 0 ≤ (l1 - (((2 : Int32)) * x11)) then (l1 - (((2 : Int32)) * x11)) else 0 - (l1 - (((2 : Int32)) * x11))) → pz_V mX9_evens Ex Q d bc bs 19 [(0, .ref l0), (1, .int l1), (2, .int (if 0 ≤ (l1 - (((2 : Int32)) * x11)) then (l1 - (((2 : Int32)) * x11)) else 0 - (l1 - (((2 : Int32)) * x11)))), (3, .int l4), (4, .int (l4 + (2 : Int32)))] [] h10)))))))))) : pz_V mX9_evens Ex Q d bc bs 19 [(0, .ref l0), (1, .int l1), (2, .int l2), (3, .int l3), (4, .int l4)] [] h := by
  refine pz_iload (pc' := 21) (x := l4) 4 rfl (pz_dc dX9_evens 12 rfl) rfl ?_
  refine pz_aload_n (pc' := 22) (x := l0) 0 rfl (pz_dc dX9_evens 13 rfl) rfl ?_
  refine pz_getR (M := mX9_evens) hb fX9_26 (pc' := 25) rfl (pz_dc dX9_evens 14 rfl) (fun a1 hb => ?_)
  obtain ⟨⟨fs12, hf13⟩, hb⟩ := hb
  obtain ⟨fs3, x2, g4, g5, hb⟩ := hb
  refine pz_callV (M := mX9_evens) (N := mX1_all) (d' := 0) (bc1 := 0) (bs1 := 0) (bc2 := bc) (bs2 := bs) (pc' := 28) [] vX9_257 rfl (pz_dc dX9_evens 15 rfl) rfl (Nat.le_of_ble_eq_true rfl) (Nat.le_of_ble_eq_true rfl) rfl (by omega) (by omega) (by omega) hf13 ?_
  refine cX1_all ⟨fs3, x2, g4, g5, ?_⟩
  show pz_V mX9_evens _ _ _ _ _ 28 [(0, .ref l0), (1, .int l1), (2, .int l2), (3, .int l3), (4, .int l4)] [.int (eX1_all x2), .int l4] h
  refine pz_icmp_gt (pc' := 31) (tgt := 71) rfl (pz_dc dX9_evens 16 rfl) (by decide) (fun hc => ?_) (fun hc => ?_)
  · replace hb := hb.1 hc
    refine pz_aload_n (pc' := 72) (x := l0) 0 rfl (pz_dc dX9_evens 38 rfl) rfl ?_
    refine pz_getR (M := mX9_evens) hb fX9_19 (pc' := 75) rfl (pz_dc dX9_evens 39 rfl) (fun a6 hb => ?_)
    refine pz_iload_n (pc' := 76) (x := l3) 3 rfl (pz_dc dX9_evens 40 rfl) rfl ?_
    refine pz_i2l (pc' := 77) rfl (pz_dc dX9_evens 41 rfl) ?_
    refine pz_cVv (M := mX9_evens) (N := mX4_tell) (d' := 1) (bc1 := 0) (bs1 := 0) (bc2 := bc) (bs2 := bs) (pc' := 80) [.long l3.toInt64] hb vX9_212 rfl (pz_dc dX9_evens 42 rfl) rfl (Nat.le_of_ble_eq_true rfl) (Nat.le_of_ble_eq_true rfl) rfl (by omega) (by omega) (by omega) (fun h7 hb => ?_)
    refine pz_iload_n (pc' := 81) (x := l2) 2 rfl (pz_dc dX9_evens 43 rfl) rfl ?_
    exact pz_iret (pz_dc dX9_evens 44 rfl) rfl hb
  · replace hb := hb.2 hc
    refine pz_iload_n (pc' := 32) (x := l1) 1 rfl (pz_dc dX9_evens 17 rfl) rfl ?_
    refine pz_iconst (pc' := 33) (v := 2) rfl (pz_dc dX9_evens 18 rfl) ki_2 ?_
    refine pz_aload_n (pc' := 34) (x := l0) 0 rfl (pz_dc dX9_evens 19 rfl) rfl ?_
    refine pz_getR (M := mX9_evens) hb fX9_26 (pc' := 37) rfl (pz_dc dX9_evens 20 rfl) (fun a8 hb => ?_)
    refine pz_aload_n (pc' := 38) (x := l0) 0 rfl (pz_dc dX9_evens 21 rfl) rfl ?_
    refine pz_getR (M := mX9_evens) hb fX9_33 (pc' := 41) rfl (pz_dc dX9_evens 22 rfl) (fun a9 hb => ?_)
    refine pz_iload (pc' := 43) (x := l4) 4 rfl (pz_dc dX9_evens 23 rfl) rfl ?_
    refine pz_cVi (M := mX9_evens) (N := mX1_totalOf) (d' := 1) (bc1 := 0) (bs1 := 0) (bc2 := bc) (bs2 := bs) (pc' := 46) [.ref a9, .int l4] hb vX9_232 rfl (pz_dc dX9_evens 24 rfl) rfl (Nat.le_of_ble_eq_true rfl) (Nat.le_of_ble_eq_true rfl) rfl (by omega) (by omega) (by omega) (fun x11 h10 hb => ?_)
    refine pz_imul (pc' := 47) rfl (pz_dc dX9_evens 25 rfl) ?_
    refine pz_isub (pc' := 48) rfl (pz_dc dX9_evens 26 rfl) ?_
    refine pz_abs (M := mX9_evens) (pc' := 51) wX9_291 rfl (pz_dc dX9_evens 27 rfl) (Nat.le_of_ble_eq_true rfl) (by omega) ?_
    refine pz_istore (pc' := 53) (lv' := [(5, .int (if 0 ≤ (l1 - (((2 : Int32)) * x11)) then (l1 - (((2 : Int32)) * x11)) else 0 - (l1 - (((2 : Int32)) * x11)))), (0, .ref l0), (1, .int l1), (2, .int l2), (3, .int l3), (4, .int l4)]) rfl (pz_dc dX9_evens 28 rfl) (by decide) rfl ?_
    refine pz_iload (pc' := 55) (x := if 0 ≤ (l1 - (((2 : Int32)) * x11)) then (l1 - (((2 : Int32)) * x11)) else 0 - (l1 - (((2 : Int32)) * x11))) 0 rfl (pz_dc dX9_evens 29 rfl) rfl ?_
    refine pz_iload_n (pc' := 56) (x := l2) 3 rfl (pz_dc dX9_evens 30 rfl) rfl ?_
    refine pz_icmp_ge (pc' := 59) (tgt := 65) rfl (pz_dc dX9_evens 31 rfl) (by decide) (fun hc => ?_) (fun hc => ?_)
    · replace hb := hb.1 hc
      refine pz_iinc (pc' := 68) (x := l4) (v := l4 + (2 : Int32)) (lv' := [(4, .int (l4 + (2 : Int32))), (5, .int (if 0 ≤ (l1 - (((2 : Int32)) * x11)) then (l1 - (((2 : Int32)) * x11)) else 0 - (l1 - (((2 : Int32)) * x11)))), (0, .ref l0), (1, .int l1), (2, .int l2), (3, .int l3)]) 5 rfl (pz_dc dX9_evens 36 rfl) rfl rfl (by decide) rfl ?_
      refine pz_goto (pc' := 19) (pz_dc dX9_evens 37 rfl) (by decide) ?_
      refine pz_lv (lv' := [(0, .ref l0), (1, .int l1), (2, .int l2), (3, .int l3), (4, .int (l4 + (2 : Int32)))]) [2, 3, 4, 5, 0] rfl ?_
      exact hb
    · replace hb := hb.2 hc
      refine pz_iload (pc' := 61) (x := if 0 ≤ (l1 - (((2 : Int32)) * x11)) then (l1 - (((2 : Int32)) * x11)) else 0 - (l1 - (((2 : Int32)) * x11))) 0 rfl (pz_dc dX9_evens 32 rfl) rfl ?_
      refine pz_istore_n (pc' := 62) (lv' := [(2, .int (if 0 ≤ (l1 - (((2 : Int32)) * x11)) then (l1 - (((2 : Int32)) * x11)) else 0 - (l1 - (((2 : Int32)) * x11)))), (5, .int (if 0 ≤ (l1 - (((2 : Int32)) * x11)) then (l1 - (((2 : Int32)) * x11)) else 0 - (l1 - (((2 : Int32)) * x11)))), (0, .ref l0), (1, .int l1), (3, .int l3), (4, .int l4)]) rfl (pz_dc dX9_evens 33 rfl) (by decide) rfl ?_
      refine pz_iload (pc' := 64) (x := l4) 5 rfl (pz_dc dX9_evens 34 rfl) rfl ?_
      refine pz_istore_n (pc' := 65) (lv' := [(3, .int l4), (2, .int (if 0 ≤ (l1 - (((2 : Int32)) * x11)) then (l1 - (((2 : Int32)) * x11)) else 0 - (l1 - (((2 : Int32)) * x11)))), (5, .int (if 0 ≤ (l1 - (((2 : Int32)) * x11)) then (l1 - (((2 : Int32)) * x11)) else 0 - (l1 - (((2 : Int32)) * x11)))), (0, .ref l0), (1, .int l1), (4, .int l4)]) rfl (pz_dc dX9_evens 35 rfl) (by decide) rfl ?_
      refine pz_iinc (pc' := 68) (x := l4) (v := l4 + (2 : Int32)) (lv' := [(4, .int (l4 + (2 : Int32))), (3, .int l4), (2, .int (if 0 ≤ (l1 - (((2 : Int32)) * x11)) then (l1 - (((2 : Int32)) * x11)) else 0 - (l1 - (((2 : Int32)) * x11)))), (5, .int (if 0 ≤ (l1 - (((2 : Int32)) * x11)) then (l1 - (((2 : Int32)) * x11)) else 0 - (l1 - (((2 : Int32)) * x11)))), (0, .ref l0), (1, .int l1)]) 5 rfl (pz_dc dX9_evens 36 rfl) rfl rfl (by decide) rfl ?_
      refine pz_goto (pc' := 19) (pz_dc dX9_evens 37 rfl) (by decide) ?_
      refine pz_lv (lv' := [(0, .ref l0), (1, .int l1), (2, .int (if 0 ≤ (l1 - (((2 : Int32)) * x11)) then (l1 - (((2 : Int32)) * x11)) else 0 - (l1 - (((2 : Int32)) * x11)))), (3, .int l4), (4, .int (l4 + (2 : Int32)))]) [4, 5, 2, 1, 0] rfl ?_
      exact hb
set_option maxRecDepth 20000 in
set_option maxHeartbeats 4000000 in
theorem wX9_feared_0 {Ex : State → Nat → Prop} {Q : Option Value → pz_H → Prop} {d bc bs : Nat} {l0 : Nat}  {h : pz_H} (hD : 3 ≤ d) (hb : pz_gR h l0 9 2 (fun (a1 : Nat) => pz_gR h l0 9 3 (fun (a2 : Nat) => pz_is h a1 1 ∧ (pz_ki mX1_richestKing 2 0 0 (.ref a1 :: [.ref a2]) h (fun (x4 : Int32) (h3 : pz_H) => pz_gR h3 l0 9 1 (fun (a5 : Nat) => pz_gR h3 l0 9 2 (fun (a6 : Nat) => pz_gR h3 l0 9 3 (fun (a7 : Nat) => pz_is h3 a6 1 ∧ (pz_ki mX1_total 2 0 0 (.ref a6 :: [.ref a7]) h3 (fun (x9 : Int32) (h8 : pz_H) => pz_gR h8 l0 9 2 (fun (a10 : Nat) => pz_gR h8 l0 9 3 (fun (a11 : Nat) => pz_gR h8 l0 9 2 (fun (a12 : Nat) => pz_gR h8 l0 9 3 (fun (a13 : Nat) => pz_is h8 a12 1 ∧ (pz_ki mX1_heldBy 0 0 0 (.ref a12 :: [.ref a13, .int x4]) h8 (fun (x15 : Int32) (h14 : pz_H) => pz_is h14 a10 1 ∧ (pz_ki mX1_totalOf 1 0 0 (.ref a10 :: [.ref a11, .int x15]) h14 (fun (x17 : Int32) (h16 : pz_H) => pz_is h16 a5 4 ∧ (pz_kv mX4_tell 1 0 0 (.ref a5 :: [.long ((x9 - x17).toInt64)]) h16 (fun (h18 : pz_H) => Q (some (.int x4)) h18)))))))))))))))))))) : pz_V mX9_feared Ex Q d bc bs 0 [(0, .ref l0)] [] h := by
  refine pz_aload_n (pc' := 1) (x := l0) 0 rfl (pz_dc dX9_feared 0 rfl) rfl ?_
  refine pz_getR (M := mX9_feared) hb fX9_26 (pc' := 4) rfl (pz_dc dX9_feared 1 rfl) (fun a1 hb => ?_)
  refine pz_aload_n (pc' := 5) (x := l0) 0 rfl (pz_dc dX9_feared 2 rfl) rfl ?_
  refine pz_getR (M := mX9_feared) hb fX9_33 (pc' := 8) rfl (pz_dc dX9_feared 3 rfl) (fun a2 hb => ?_)
  refine pz_cVi (M := mX9_feared) (N := mX1_richestKing) (d' := 2) (bc1 := 0) (bs1 := 0) (bc2 := bc) (bs2 := bs) (pc' := 11) [.ref a2] hb vX9_243 rfl (pz_dc dX9_feared 4 rfl) rfl (Nat.le_of_ble_eq_true rfl) (Nat.le_of_ble_eq_true rfl) rfl (by omega) (by omega) (by omega) (fun x4 h3 hb => ?_)
  refine pz_istore_n (pc' := 12) (lv' := [(1, .int x4), (0, .ref l0)]) rfl (pz_dc dX9_feared 5 rfl) (by decide) rfl ?_
  refine pz_aload_n (pc' := 13) (x := l0) 1 rfl (pz_dc dX9_feared 6 rfl) rfl ?_
  refine pz_getR (M := mX9_feared) hb fX9_19 (pc' := 16) rfl (pz_dc dX9_feared 7 rfl) (fun a5 hb => ?_)
  refine pz_aload_n (pc' := 17) (x := l0) 1 rfl (pz_dc dX9_feared 8 rfl) rfl ?_
  refine pz_getR (M := mX9_feared) hb fX9_26 (pc' := 20) rfl (pz_dc dX9_feared 9 rfl) (fun a6 hb => ?_)
  refine pz_aload_n (pc' := 21) (x := l0) 1 rfl (pz_dc dX9_feared 10 rfl) rfl ?_
  refine pz_getR (M := mX9_feared) hb fX9_33 (pc' := 24) rfl (pz_dc dX9_feared 11 rfl) (fun a7 hb => ?_)
  refine pz_cVi (M := mX9_feared) (N := mX1_total) (d' := 2) (bc1 := 0) (bs1 := 0) (bc2 := bc) (bs2 := bs) (pc' := 27) [.ref a7] hb vX9_153 rfl (pz_dc dX9_feared 12 rfl) rfl (Nat.le_of_ble_eq_true rfl) (Nat.le_of_ble_eq_true rfl) rfl (by omega) (by omega) (by omega) (fun x9 h8 hb => ?_)
  refine pz_aload_n (pc' := 28) (x := l0) 1 rfl (pz_dc dX9_feared 13 rfl) rfl ?_
  refine pz_getR (M := mX9_feared) hb fX9_26 (pc' := 31) rfl (pz_dc dX9_feared 14 rfl) (fun a10 hb => ?_)
  refine pz_aload_n (pc' := 32) (x := l0) 1 rfl (pz_dc dX9_feared 15 rfl) rfl ?_
  refine pz_getR (M := mX9_feared) hb fX9_33 (pc' := 35) rfl (pz_dc dX9_feared 16 rfl) (fun a11 hb => ?_)
  refine pz_aload_n (pc' := 36) (x := l0) 1 rfl (pz_dc dX9_feared 17 rfl) rfl ?_
  refine pz_getR (M := mX9_feared) hb fX9_26 (pc' := 39) rfl (pz_dc dX9_feared 18 rfl) (fun a12 hb => ?_)
  refine pz_aload_n (pc' := 40) (x := l0) 1 rfl (pz_dc dX9_feared 19 rfl) rfl ?_
  refine pz_getR (M := mX9_feared) hb fX9_33 (pc' := 43) rfl (pz_dc dX9_feared 20 rfl) (fun a13 hb => ?_)
  refine pz_iload_n (pc' := 44) (x := x4) 0 rfl (pz_dc dX9_feared 21 rfl) rfl ?_
  refine pz_cVi (M := mX9_feared) (N := mX1_heldBy) (d' := 0) (bc1 := 0) (bs1 := 0) (bc2 := bc) (bs2 := bs) (pc' := 47) [.ref a13, .int x4] hb vX9_224 rfl (pz_dc dX9_feared 22 rfl) rfl (Nat.le_of_ble_eq_true rfl) (Nat.le_of_ble_eq_true rfl) rfl (by omega) (by omega) (by omega) (fun x15 h14 hb => ?_)
  refine pz_cVi (M := mX9_feared) (N := mX1_totalOf) (d' := 1) (bc1 := 0) (bs1 := 0) (bc2 := bc) (bs2 := bs) (pc' := 50) [.ref a11, .int x15] hb vX9_232 rfl (pz_dc dX9_feared 23 rfl) rfl (Nat.le_of_ble_eq_true rfl) (Nat.le_of_ble_eq_true rfl) rfl (by omega) (by omega) (by omega) (fun x17 h16 hb => ?_)
  refine pz_isub (pc' := 51) rfl (pz_dc dX9_feared 24 rfl) ?_
  refine pz_i2l (pc' := 52) rfl (pz_dc dX9_feared 25 rfl) ?_
  refine pz_cVv (M := mX9_feared) (N := mX4_tell) (d' := 1) (bc1 := 0) (bs1 := 0) (bc2 := bc) (bs2 := bs) (pc' := 55) [.long ((x9 - x17).toInt64)] hb vX9_212 rfl (pz_dc dX9_feared 26 rfl) rfl (Nat.le_of_ble_eq_true rfl) (Nat.le_of_ble_eq_true rfl) rfl (by omega) (by omega) (by omega) (fun h18 hb => ?_)
  refine pz_iload_n (pc' := 56) (x := x4) 0 rfl (pz_dc dX9_feared 27 rfl) rfl ?_
  exact pz_iret (pz_dc dX9_feared 28 rfl) rfl hb
set_option maxRecDepth 20000 in
set_option maxHeartbeats 4000000 in
theorem wX9_heirs_0 {Ex : State → Nat → Prop} {Q : Option Value → pz_H → Prop} {d bc bs : Nat} {l0 : Nat}  {h : pz_H} (hD : 3 ≤ d) (hb : pz_gR h l0 9 0 (fun (a1 : Nat) => pz_is h a1 6 ∧ (pz_gI h a1 6 1 (fun (x2 : Int32) => pz_is h l0 9 ∧ (pz_ki mX9_heirsFault 1 0 0 (.ref l0 :: []) h (fun (x4 : Int32) (h3 : pz_H) => (x4 < 0 → pz_is h3 l0 9 ∧ (pz_kv mX9_weighHeirs 2 0 0 (.ref l0 :: [.int x2]) h3 (fun (h5 : pz_H) => pz_is h5 l0 9 ∧ (pz_kv mX9_tellHeirs 2 0 0 (.ref l0 :: [.int x2]) h5 (fun (h6 : pz_H) => pz_gR h6 l0 9 0 (fun (a7 : Nat) => pz_is h6 a7 6 ∧ (pz_pF h6 a7 6 1 (.int 0) (fun (h8 : pz_H) => pz_gR h8 l0 9 11 (fun (a9 : Nat) => pz_rI h8 a9 0 (fun (x10 : Int32) => Q (some (.int x10)) h8)))))))))) ∧ (¬ x4 < 0 → pz_gR h3 l0 9 0 (fun (a13 : Nat) => pz_is h3 a13 6 ∧ (pz_pF h3 a13 6 1 (.int 0) (fun (h14 : pz_H) => Q (some (.int (((-1 : Int32)) - x4))) h14)))))))))) : pz_V mX9_heirs Ex Q d bc bs 0 [(0, .ref l0)] [] h := by
  refine pz_aload_n (pc' := 1) (x := l0) 0 rfl (pz_dc dX9_heirs 0 rfl) rfl ?_
  refine pz_getR (M := mX9_heirs) hb fX9_10 (pc' := 4) rfl (pz_dc dX9_heirs 1 rfl) (fun a1 hb => ?_)
  obtain ⟨⟨fs17, hf18⟩, hb⟩ := hb
  refine pz_callV (M := mX9_heirs) (N := mX6_size) (d' := 0) (bc1 := 0) (bs1 := 0) (bc2 := bc) (bs2 := bs) (pc' := 7) [] vX9_89 rfl (pz_dc dX9_heirs 2 rfl) rfl (Nat.le_of_ble_eq_true rfl) (Nat.le_of_ble_eq_true rfl) rfl (by omega) (by omega) (by omega) hf18 ?_
  refine pz_aload_n (pc' := 1) (x := a1) 0 rfl (pz_dc dX6_size 0 rfl) rfl ?_
  refine pz_getI (M := mX6_size) hb fX6_13 (pc' := 4) rfl (pz_dc dX6_size 1 rfl) (fun x2 hb => ?_)
  refine pz_iret (pz_dc dX6_size 2 rfl) rfl ?_
  show pz_V mX9_heirs _ _ _ _ _ 7 [(0, .ref l0)] [.int x2] h
  refine pz_istore_n (pc' := 8) (lv' := [(1, .int x2), (0, .ref l0)]) rfl (pz_dc dX9_heirs 3 rfl) (by decide) rfl ?_
  refine pz_aload_n (pc' := 9) (x := l0) 1 rfl (pz_dc dX9_heirs 4 rfl) rfl ?_
  refine pz_cVi (M := mX9_heirs) (N := mX9_heirsFault) (d' := 1) (bc1 := 0) (bs1 := 0) (bc2 := bc) (bs2 := bs) (pc' := 12) [] hb vX9_294 rfl (pz_dc dX9_heirs 5 rfl) rfl (Nat.le_of_ble_eq_true rfl) (Nat.le_of_ble_eq_true rfl) rfl (by omega) (by omega) (by omega) (fun x4 h3 hb => ?_)
  refine pz_istore_n (pc' := 13) (lv' := [(2, .int x4), (1, .int x2), (0, .ref l0)]) rfl (pz_dc dX9_heirs 6 rfl) (by decide) rfl ?_
  refine pz_iload_n (pc' := 14) (x := x4) 0 rfl (pz_dc dX9_heirs 7 rfl) rfl ?_
  refine pz_if_lt (pc' := 17) (tgt := 28) rfl (pz_dc dX9_heirs 8 rfl) (by decide) (fun hc => ?_) (fun hc => ?_)
  · replace hb := hb.1 hc
    refine pz_aload_n (pc' := 29) (x := l0) 2 rfl (pz_dc dX9_heirs 16 rfl) rfl ?_
    refine pz_iload_n (pc' := 30) (x := x2) 1 rfl (pz_dc dX9_heirs 17 rfl) rfl ?_
    refine pz_cVv (M := mX9_heirs) (N := mX9_weighHeirs) (d' := 2) (bc1 := 0) (bs1 := 0) (bc2 := bc) (bs2 := bs) (pc' := 33) [.int x2] hb vX9_297 rfl (pz_dc dX9_heirs 18 rfl) rfl (Nat.le_of_ble_eq_true rfl) (Nat.le_of_ble_eq_true rfl) rfl (by omega) (by omega) (by omega) (fun h5 hb => ?_)
    refine pz_aload_n (pc' := 34) (x := l0) 2 rfl (pz_dc dX9_heirs 19 rfl) rfl ?_
    refine pz_iload_n (pc' := 35) (x := x2) 1 rfl (pz_dc dX9_heirs 20 rfl) rfl ?_
    refine pz_cVv (M := mX9_heirs) (N := mX9_tellHeirs) (d' := 2) (bc1 := 0) (bs1 := 0) (bc2 := bc) (bs2 := bs) (pc' := 38) [.int x2] hb vX9_300 rfl (pz_dc dX9_heirs 21 rfl) rfl (Nat.le_of_ble_eq_true rfl) (Nat.le_of_ble_eq_true rfl) rfl (by omega) (by omega) (by omega) (fun h6 hb => ?_)
    refine pz_aload_n (pc' := 39) (x := l0) 2 rfl (pz_dc dX9_heirs 22 rfl) rfl ?_
    refine pz_getR (M := mX9_heirs) hb fX9_10 (pc' := 42) rfl (pz_dc dX9_heirs 23 rfl) (fun a7 hb => ?_)
    obtain ⟨⟨fs11, hf12⟩, hb⟩ := hb
    refine pz_callV (M := mX9_heirs) (N := mX6_clear) (d' := 0) (bc1 := 0) (bs1 := 0) (bc2 := bc) (bs2 := bs) (pc' := 45) [] vX9_103 rfl (pz_dc dX9_heirs 24 rfl) rfl (Nat.le_of_ble_eq_true rfl) (Nat.le_of_ble_eq_true rfl) rfl (by omega) (by omega) (by omega) hf12 ?_
    refine pz_aload_n (pc' := 1) (x := a7) 0 rfl (pz_dc dX6_clear 0 rfl) rfl ?_
    refine pz_iconst (pc' := 2) (v := 0) rfl (pz_dc dX6_clear 1 rfl) ki_0 ?_
    refine pz_putv (M := mX6_clear) hb (pX6_13 _ rfl) rfl rfl (pc' := 5) rfl (pz_dc dX6_clear 2 rfl) (fun h8 hb => ?_)
    refine pz_vret (pz_dc dX6_clear 3 rfl) rfl ?_
    show pz_V mX9_heirs _ _ _ _ _ 45 [(2, .int x4), (1, .int x2), (0, .ref l0)] [] h8
    refine pz_aload_n (pc' := 46) (x := l0) 2 rfl (pz_dc dX9_heirs 25 rfl) rfl ?_
    refine pz_getR (M := mX9_heirs) hb fX9_72 (pc' := 49) rfl (pz_dc dX9_heirs 26 rfl) (fun a9 hb => ?_)
    refine pz_iconst (pc' := 50) (v := 0) rfl (pz_dc dX9_heirs 27 rfl) ki_0 ?_
    refine pz_ldI hb (pc' := 51) rfl (pz_dc dX9_heirs 28 rfl) (fun x10 hb => ?_)
    exact pz_iret (pz_dc dX9_heirs 29 rfl) rfl hb
  · replace hb := hb.2 hc
    refine pz_aload_n (pc' := 18) (x := l0) 2 rfl (pz_dc dX9_heirs 9 rfl) rfl ?_
    refine pz_getR (M := mX9_heirs) hb fX9_10 (pc' := 21) rfl (pz_dc dX9_heirs 10 rfl) (fun a13 hb => ?_)
    obtain ⟨⟨fs15, hf16⟩, hb⟩ := hb
    refine pz_callV (M := mX9_heirs) (N := mX6_clear) (d' := 0) (bc1 := 0) (bs1 := 0) (bc2 := bc) (bs2 := bs) (pc' := 24) [] vX9_103 rfl (pz_dc dX9_heirs 11 rfl) rfl (Nat.le_of_ble_eq_true rfl) (Nat.le_of_ble_eq_true rfl) rfl (by omega) (by omega) (by omega) hf16 ?_
    refine pz_aload_n (pc' := 1) (x := a13) 0 rfl (pz_dc dX6_clear 0 rfl) rfl ?_
    refine pz_iconst (pc' := 2) (v := 0) rfl (pz_dc dX6_clear 1 rfl) ki_0 ?_
    refine pz_putv (M := mX6_clear) hb (pX6_13 _ rfl) rfl rfl (pc' := 5) rfl (pz_dc dX6_clear 2 rfl) (fun h14 hb => ?_)
    refine pz_vret (pz_dc dX6_clear 3 rfl) rfl ?_
    show pz_V mX9_heirs _ _ _ _ _ 24 [(2, .int x4), (1, .int x2), (0, .ref l0)] [] h14
    refine pz_iconst (pc' := 25) (v := (-1)) rfl (pz_dc dX9_heirs 12 rfl) ki_m1 ?_
    refine pz_iload_n (pc' := 26) (x := x4) 0 rfl (pz_dc dX9_heirs 13 rfl) rfl ?_
    refine pz_isub (pc' := 27) rfl (pz_dc dX9_heirs 14 rfl) ?_
    exact pz_iret (pz_dc dX9_heirs 15 rfl) rfl hb
set_option maxRecDepth 20000 in
set_option maxHeartbeats 4000000 in
theorem wX9_duck_0 {Ex : State → Nat → Prop} {Q : Option Value → pz_H → Prop} {d bc bs : Nat} {l0 : Nat} {l1 : Int32} {l2 : Int32} {l3 : Int32}  {h : pz_H} (hD : 3 ≤ d) (hb : pz_gR h l0 9 2 (fun (a1 : Nat) => pz_is h a1 1 ∧ (pz_gI h a1 1 4 (fun (x2 : Int32) => ((eX1_has l1 x2) = 0 → Q (some (.int ((-1)))) h) ∧ (¬ (eX1_has l1 x2) = 0 → pz_gR h l0 9 2 (fun (a6 : Nat) => pz_is h a6 1 ∧ (pz_gI h a6 1 4 (fun (x7 : Int32) => ((eX1_has l2 x7) = 0 → Q (some (.int ((-1)))) h) ∧ (¬ (eX1_has l2 x7) = 0 → (¬ (eX9_isWithin l3 ((0 : Int32)) ((10 : Int32))) = 0 → pz_gR h l0 9 8 (fun (a11 : Nat) => pz_is h a11 0 ∧ (pz_kv mX0_sitOn 0 0 0 (.ref a11 :: [.int l1]) h (fun (h12 : pz_H) => pz_V mX9_duck Ex Q d bc bs 45 [(0, .ref l0), (2, .int l2), (3, .int l3), (4, .int 0)] [] h12)))) ∧ ((eX9_isWithin l3 ((0 : Int32)) ((10 : Int32))) = 0 → Q (some (.int ((-1)))) h)))))))))) : pz_V mX9_duck Ex Q d bc bs 0 [(0, .ref l0), (1, .int l1), (2, .int l2), (3, .int l3)] [] h := by
  refine pz_aload_n (pc' := 1) (x := l0) 0 rfl (pz_dc dX9_duck 0 rfl) rfl ?_
  refine pz_getR (M := mX9_duck) hb fX9_26 (pc' := 4) rfl (pz_dc dX9_duck 1 rfl) (fun a1 hb => ?_)
  refine pz_iload_n (pc' := 5) (x := l1) 1 rfl (pz_dc dX9_duck 2 rfl) rfl ?_
  obtain ⟨⟨fs15, hf16⟩, hb⟩ := hb
  obtain ⟨fs3, x2, g4, g5, hb⟩ := hb
  refine pz_callV (M := mX9_duck) (N := mX1_has) (d' := 0) (bc1 := 0) (bs1 := 0) (bc2 := bc) (bs2 := bs) (pc' := 8) [.int l1] vX9_115 rfl (pz_dc dX9_duck 3 rfl) rfl (Nat.le_of_ble_eq_true rfl) (Nat.le_of_ble_eq_true rfl) rfl (by omega) (by omega) (by omega) hf16 ?_
  refine cX1_has ⟨fs3, x2, g4, g5, ?_⟩
  show pz_V mX9_duck _ _ _ _ _ 8 [(0, .ref l0), (1, .int l1), (2, .int l2), (3, .int l3)] [.int (eX1_has l1 x2)] h
  refine pz_if_eq (pc' := 11) (tgt := 32) rfl (pz_dc dX9_duck 4 rfl) (by decide) (fun hc => ?_) (fun hc => ?_)
  · replace hb := hb.1 hc
    refine pz_iconst (pc' := 33) (v := (-1)) rfl (pz_dc dX9_duck 15 rfl) ki_m1 ?_
    exact pz_iret (pz_dc dX9_duck 16 rfl) rfl hb
  · replace hb := hb.2 hc
    refine pz_aload_n (pc' := 12) (x := l0) 0 rfl (pz_dc dX9_duck 5 rfl) rfl ?_
    refine pz_getR (M := mX9_duck) hb fX9_26 (pc' := 15) rfl (pz_dc dX9_duck 6 rfl) (fun a6 hb => ?_)
    refine pz_iload_n (pc' := 16) (x := l2) 2 rfl (pz_dc dX9_duck 7 rfl) rfl ?_
    obtain ⟨⟨fs13, hf14⟩, hb⟩ := hb
    obtain ⟨fs8, x7, g9, g10, hb⟩ := hb
    refine pz_callV (M := mX9_duck) (N := mX1_has) (d' := 0) (bc1 := 0) (bs1 := 0) (bc2 := bc) (bs2 := bs) (pc' := 19) [.int l2] vX9_115 rfl (pz_dc dX9_duck 8 rfl) rfl (Nat.le_of_ble_eq_true rfl) (Nat.le_of_ble_eq_true rfl) rfl (by omega) (by omega) (by omega) hf14 ?_
    refine cX1_has ⟨fs8, x7, g9, g10, ?_⟩
    show pz_V mX9_duck _ _ _ _ _ 19 [(0, .ref l0), (1, .int l1), (2, .int l2), (3, .int l3)] [.int (eX1_has l2 x7)] h
    refine pz_if_eq (pc' := 22) (tgt := 32) rfl (pz_dc dX9_duck 9 rfl) (by decide) (fun hc => ?_) (fun hc => ?_)
    · replace hb := hb.1 hc
      refine pz_iconst (pc' := 33) (v := (-1)) rfl (pz_dc dX9_duck 15 rfl) ki_m1 ?_
      exact pz_iret (pz_dc dX9_duck 16 rfl) rfl hb
    · replace hb := hb.2 hc
      refine pz_iload_n (pc' := 23) (x := l3) 3 rfl (pz_dc dX9_duck 10 rfl) rfl ?_
      refine pz_iconst (pc' := 24) (v := 0) rfl (pz_dc dX9_duck 11 rfl) ki_0 ?_
      refine pz_bipush (pc' := 26) (v := 10) rfl (pz_dc dX9_duck 12 rfl) kb_10 ?_
      refine pz_callS (M := mX9_duck) (N := mX9_isWithin) (d' := 0) (bc1 := 0) (bs1 := 0) (bc2 := bc) (bs2 := bs) (pc' := 29) [.int l3, .int 0, .int 10] sX9_196 rfl (pz_dc dX9_duck 13 rfl) rfl (Nat.le_of_ble_eq_true rfl) (Nat.le_of_ble_eq_true rfl) rfl (by omega) (by omega) (by omega) ?_
      refine cX9_isWithin ?_
      show pz_V mX9_duck _ _ _ _ _ 29 [(0, .ref l0), (1, .int l1), (2, .int l2), (3, .int l3)] [.int (eX9_isWithin l3 ((0 : Int32)) ((10 : Int32)))] h
      refine pz_if_ne (pc' := 32) (tgt := 34) rfl (pz_dc dX9_duck 14 rfl) (by decide) (fun hc => ?_) (fun hc => ?_)
      · replace hb := hb.1 hc
        refine pz_aload_n (pc' := 35) (x := l0) 0 rfl (pz_dc dX9_duck 17 rfl) rfl ?_
        refine pz_getR (M := mX9_duck) hb fX9_60 (pc' := 38) rfl (pz_dc dX9_duck 18 rfl) (fun a11 hb => ?_)
        refine pz_iload_n (pc' := 39) (x := l1) 1 rfl (pz_dc dX9_duck 19 rfl) rfl ?_
        refine pz_cVv (M := mX9_duck) (N := mX0_sitOn) (d' := 0) (bc1 := 0) (bs1 := 0) (bc2 := bc) (bs2 := bs) (pc' := 42) [.int l1] hb vX9_303 rfl (pz_dc dX9_duck 20 rfl) rfl (Nat.le_of_ble_eq_true rfl) (Nat.le_of_ble_eq_true rfl) rfl (by omega) (by omega) (by omega) (fun h12 hb => ?_)
        refine pz_iconst (pc' := 43) (v := 0) rfl (pz_dc dX9_duck 21 rfl) ki_0 ?_
        refine pz_istore (pc' := 45) (lv' := [(4, .int 0), (0, .ref l0), (1, .int l1), (2, .int l2), (3, .int l3)]) rfl (pz_dc dX9_duck 22 rfl) (by decide) rfl ?_
        refine pz_lv (lv' := [(0, .ref l0), (2, .int l2), (3, .int l3), (4, .int 0)]) [1, 3, 4, 0] rfl ?_
        exact hb
      · replace hb := hb.2 hc
        refine pz_iconst (pc' := 33) (v := (-1)) rfl (pz_dc dX9_duck 15 rfl) ki_m1 ?_
        exact pz_iret (pz_dc dX9_duck 16 rfl) rfl hb
set_option maxRecDepth 20000 in
set_option maxHeartbeats 4000000 in
theorem wX9_duck_45 {Ex : State → Nat → Prop} {Q : Option Value → pz_H → Prop} {d bc bs : Nat} {l0 : Nat} {l2 : Int32} {l3 : Int32} {l4 : Int32}  {h : pz_H} (hD : 3 ≤ d) (hb : (l3 ≤ l4 → pz_gR h l0 9 8 (fun (a1 : Nat) => pz_gR h a1 0 0 (fun (a2 : Nat) => pz_rJ h a2 l2 (fun (x3 : Int64) => pz_gR h l0 9 8 (fun (a4 : Nat) => pz_gL h a4 0 2 (fun (x5 : Int64) => pz_kl mX9_commonDivisor 0 0 0 ([.long x5, .long x3]) h (fun (x7 : Int64) (h6 : pz_H) => ((lg_cmp x7 ((0 : Int64))) ≤ 0 → Q (some (.int 0)) h6) ∧ (¬ (lg_cmp x7 ((0 : Int64))) ≤ 0 → pz_gR h6 l0 9 1 (fun (a8 : Nat) => ¬ x7 = 0 ∧ (pz_gR h6 l0 9 8 (fun (a9 : Nat) => pz_gL h6 a9 0 2 (fun (x10 : Int64) => ¬ x7 = 0 ∧ (pz_is h6 a8 4 ∧ (pz_kv mX4_tell_ 2 0 0 (.ref a8 :: [.long (x3 / x7), .long (x10 / x7)]) h6 (fun (h11 : pz_H) => Q (some (.int 0)) h11))))))))))))))) ∧ (¬ l3 ≤ l4 → pz_gR h l0 9 8 (fun (a12 : Nat) => pz_gR h l0 9 2 (fun (a13 : Nat) => pz_is h a12 0 ∧ (pz_kv mX0_swim 2 0 0 (.ref a12 :: [.ref a13]) h (fun (h14 : pz_H) => pz_V mX9_duck Ex Q d bc bs 45 [(0, .ref l0), (2, .int l2), (3, .int l3), (4, .int (l4 + (1 : Int32)))] [] h14)))))) : pz_V mX9_duck Ex Q d bc bs 45 [(0, .ref l0), (2, .int l2), (3, .int l3), (4, .int l4)] [] h := by
  refine pz_iload (pc' := 47) (x := l4) 3 rfl (pz_dc dX9_duck 23 rfl) rfl ?_
  refine pz_iload_n (pc' := 48) (x := l3) 2 rfl (pz_dc dX9_duck 24 rfl) rfl ?_
  refine pz_icmp_ge (pc' := 51) (tgt := 68) rfl (pz_dc dX9_duck 25 rfl) (by decide) (fun hc => ?_) (fun hc => ?_)
  · replace hb := hb.1 hc
    refine pz_aload_n (pc' := 69) (x := l0) 0 rfl (pz_dc dX9_duck 33 rfl) rfl ?_
    refine pz_getR (M := mX9_duck) hb fX9_60 (pc' := 72) rfl (pz_dc dX9_duck 34 rfl) (fun a1 hb => ?_)
    refine pz_getR (M := mX9_duck) hb fX9_310 (pc' := 75) rfl (pz_dc dX9_duck 35 rfl) (fun a2 hb => ?_)
    refine pz_iload_n (pc' := 76) (x := l2) 1 rfl (pz_dc dX9_duck 36 rfl) rfl ?_
    refine pz_ldJ hb (pc' := 77) rfl (pz_dc dX9_duck 37 rfl) (fun x3 hb => ?_)
    refine pz_lstore (pc' := 79) (lv' := [(4, .long x3), (0, .ref l0), (2, .int l2), (3, .int l3)]) rfl (pz_dc dX9_duck 38 rfl) (by decide) rfl ?_
    refine pz_aload_n (pc' := 80) (x := l0) 1 rfl (pz_dc dX9_duck 39 rfl) rfl ?_
    refine pz_getR (M := mX9_duck) hb fX9_60 (pc' := 83) rfl (pz_dc dX9_duck 40 rfl) (fun a4 hb => ?_)
    refine pz_getL (M := mX9_duck) hb fX9_314 (pc' := 86) rfl (pz_dc dX9_duck 41 rfl) (fun x5 hb => ?_)
    refine pz_lload (pc' := 88) (x := x3) 0 rfl (pz_dc dX9_duck 42 rfl) rfl ?_
    refine pz_cSl (M := mX9_duck) (N := mX9_commonDivisor) (d' := 0) (bc1 := 0) (bs1 := 0) (bc2 := bc) (bs2 := bs) (pc' := 91) [.long x5, .long x3] hb sX9_318 rfl (pz_dc dX9_duck 43 rfl) rfl (Nat.le_of_ble_eq_true rfl) (Nat.le_of_ble_eq_true rfl) rfl (by omega) (by omega) (by omega) (fun x7 h6 hb => ?_)
    refine pz_lstore (pc' := 93) (lv' := [(6, .long x7), (4, .long x3), (0, .ref l0), (2, .int l2), (3, .int l3)]) rfl (pz_dc dX9_duck 44 rfl) (by decide) rfl ?_
    refine pz_lload (pc' := 95) (x := x7) 0 rfl (pz_dc dX9_duck 45 rfl) rfl ?_
    refine pz_lconst (pc' := 96) (v := 0) rfl (pz_dc dX9_duck 46 rfl) rfl ?_
    refine pz_lcmp (pc' := 97) rfl (pz_dc dX9_duck 47 rfl) ?_
    refine pz_if_le (pc' := 100) (tgt := 122) rfl (pz_dc dX9_duck 48 rfl) (by decide) (fun hc => ?_) (fun hc => ?_)
    · replace hb := hb.1 hc
      refine pz_iconst (pc' := 123) (v := 0) rfl (pz_dc dX9_duck 60 rfl) ki_0 ?_
      exact pz_iret (pz_dc dX9_duck 61 rfl) rfl hb
    · replace hb := hb.2 hc
      refine pz_aload_n (pc' := 101) (x := l0) 2 rfl (pz_dc dX9_duck 49 rfl) rfl ?_
      refine pz_getR (M := mX9_duck) hb fX9_19 (pc' := 104) rfl (pz_dc dX9_duck 50 rfl) (fun a8 hb => ?_)
      refine pz_lload (pc' := 106) (x := x3) 1 rfl (pz_dc dX9_duck 51 rfl) rfl ?_
      refine pz_lload (pc' := 108) (x := x7) 0 rfl (pz_dc dX9_duck 52 rfl) rfl ?_
      refine pz_ldiv (pc' := 109) rfl (pz_dc dX9_duck 53 rfl) hb.1 ?_
      replace hb := hb.2
      refine pz_aload_n (pc' := 110) (x := l0) 2 rfl (pz_dc dX9_duck 54 rfl) rfl ?_
      refine pz_getR (M := mX9_duck) hb fX9_60 (pc' := 113) rfl (pz_dc dX9_duck 55 rfl) (fun a9 hb => ?_)
      refine pz_getL (M := mX9_duck) hb fX9_314 (pc' := 116) rfl (pz_dc dX9_duck 56 rfl) (fun x10 hb => ?_)
      refine pz_lload (pc' := 118) (x := x7) 0 rfl (pz_dc dX9_duck 57 rfl) rfl ?_
      refine pz_ldiv (pc' := 119) rfl (pz_dc dX9_duck 58 rfl) hb.1 ?_
      replace hb := hb.2
      refine pz_cVv (M := mX9_duck) (N := mX4_tell_) (d' := 2) (bc1 := 0) (bs1 := 0) (bc2 := bc) (bs2 := bs) (pc' := 122) [.long (x3 / x7), .long (x10 / x7)] hb vX9_167 rfl (pz_dc dX9_duck 59 rfl) rfl (Nat.le_of_ble_eq_true rfl) (Nat.le_of_ble_eq_true rfl) rfl (by omega) (by omega) (by omega) (fun h11 hb => ?_)
      refine pz_iconst (pc' := 123) (v := 0) rfl (pz_dc dX9_duck 60 rfl) ki_0 ?_
      exact pz_iret (pz_dc dX9_duck 61 rfl) rfl hb
  · replace hb := hb.2 hc
    refine pz_aload_n (pc' := 52) (x := l0) 0 rfl (pz_dc dX9_duck 26 rfl) rfl ?_
    refine pz_getR (M := mX9_duck) hb fX9_60 (pc' := 55) rfl (pz_dc dX9_duck 27 rfl) (fun a12 hb => ?_)
    refine pz_aload_n (pc' := 56) (x := l0) 0 rfl (pz_dc dX9_duck 28 rfl) rfl ?_
    refine pz_getR (M := mX9_duck) hb fX9_26 (pc' := 59) rfl (pz_dc dX9_duck 29 rfl) (fun a13 hb => ?_)
    refine pz_cVv (M := mX9_duck) (N := mX0_swim) (d' := 2) (bc1 := 0) (bs1 := 0) (bc2 := bc) (bs2 := bs) (pc' := 62) [.ref a13] hb vX9_306 rfl (pz_dc dX9_duck 30 rfl) rfl (Nat.le_of_ble_eq_true rfl) (Nat.le_of_ble_eq_true rfl) rfl (by omega) (by omega) (by omega) (fun h14 hb => ?_)
    refine pz_iinc (pc' := 65) (x := l4) (v := l4 + (1 : Int32)) (lv' := [(4, .int (l4 + (1 : Int32))), (0, .ref l0), (2, .int l2), (3, .int l3)]) 3 rfl (pz_dc dX9_duck 31 rfl) rfl rfl (by decide) rfl ?_
    refine pz_goto (pc' := 45) (pz_dc dX9_duck 32 rfl) (by decide) ?_
    refine pz_lv (lv' := [(0, .ref l0), (2, .int l2), (3, .int l3), (4, .int (l4 + (1 : Int32)))]) [1, 2, 3, 0] rfl ?_
    exact hb
