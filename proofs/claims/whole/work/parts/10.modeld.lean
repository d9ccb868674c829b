set_option maxRecDepth 20000 in
set_option maxHeartbeats 4000000 in
theorem wX10_swims_0 {Ex : State → Nat → Prop} {Q : Option Value → pz_H → Prop} {d bc bs : Nat} {l0 : Nat} {l1 : Int32} {l2 : Int32} {l3 : Int32}  {h : pz_H} (hD : 83 ≤ d) (hb : pz_pF h l0 10 9 (.int 0) (fun (h1 : pz_H) => pz_is h1 l0 10 ∧ (pz_gI h1 l0 10 1 (fun (x2 : Int32) => ((eX10_isLake l1 x2) = 0 → Q (some (.int ((-1)))) h1) ∧ (¬ (eX10_isLake l1 x2) = 0 → ((eX10_in l2 ((0 : Int32)) ((99 : Int32))) = 0 → Q (some (.int ((-1)))) h1) ∧ (¬ (eX10_in l2 ((0 : Int32)) ((99 : Int32))) = 0 → (¬ (eX10_in l3 ((1 : Int32)) ((99 : Int32))) = 0 → pz_gR h1 l0 10 0 (fun (a6 : Nat) => pz_gR h1 l0 10 24 (fun (a7 : Nat) => pz_kv mX10_lay 0 0 0 ([.ref a6, .ref a7, .int 0]) h1 (fun (h8 : pz_H) => pz_V mX10_swims Ex Q d bc bs 62 [(0, .ref l0), (1, .int l1), (2, .int l2), (3, .int l3), (4, .int 0), (5, .int 0), (6, .int 0), (7, .int 0), (8, .int 1)] [] h8)))) ∧ ((eX10_in l3 ((1 : Int32)) ((99 : Int32))) = 0 → Q (some (.int ((-1)))) h1))))))) : pz_V mX10_swims Ex Q d bc bs 0 [(0, .ref l0), (1, .int l1), (2, .int l2), (3, .int l3)] [] h := by
  refine pz_aload_n (pc' := 1) (x := l0) 0 rfl (pz_dc dX10_swims 0 rfl) rfl ?_
  refine pz_iconst (pc' := 2) (v := 0) rfl (pz_dc dX10_swims 1 rfl) ki_0 ?_
  refine pz_putv (M := mX10_swims) hb (pX10_95 _ rfl) rfl rfl (pc' := 5) rfl (pz_dc dX10_swims 2 rfl) (fun h1 hb => ?_)
  refine pz_aload_n (pc' := 6) (x := l0) 0 rfl (pz_dc dX10_swims 3 rfl) rfl ?_
  refine pz_iload_n (pc' := 7) (x := l1) 1 rfl (pz_dc dX10_swims 4 rfl) rfl ?_
  obtain ⟨⟨fs9, hf10⟩, hb⟩ := hb
  obtain ⟨fs3, x2, g4, g5, hb⟩ := hb
  refine pz_callV (M := mX10_swims) (N := mX10_isLake) (d' := 1) (bc1 := 0) (bs1 := 0) (bc2 := bc) (bs2 := bs) (pc' := 10) [.int l1] vX10_108 rfl (pz_dc dX10_swims 5 rfl) rfl (Nat.le_of_ble_eq_true rfl) (Nat.le_of_ble_eq_true rfl) rfl (by omega) (by omega) (by omega) hf10 ?_
  refine cX10_isLake ⟨fs3, x2, g4, g5, ?_⟩
  show pz_V mX10_swims _ _ _ _ _ 10 [(0, .ref l0), (1, .int l1), (2, .int l2), (3, .int l3)] [.int (eX10_isLake l1 x2)] h1
  refine pz_if_eq (pc' := 13) (tgt := 33) rfl (pz_dc dX10_swims 6 rfl) (by decide) (fun hc => ?_) (fun hc => ?_)
  · replace hb := hb.1 hc
    refine pz_iconst (pc' := 34) (v := (-1)) rfl (pz_dc dX10_swims 17 rfl) ki_m1 ?_
    exact pz_iret (pz_dc dX10_swims 18 rfl) rfl hb
  · replace hb := hb.2 hc
    refine pz_iload_n (pc' := 14) (x := l2) 2 rfl (pz_dc dX10_swims 7 rfl) rfl ?_
    refine pz_iconst (pc' := 15) (v := 0) rfl (pz_dc dX10_swims 8 rfl) ki_0 ?_
    refine pz_bipush (pc' := 17) (v := 99) rfl (pz_dc dX10_swims 9 rfl) kb_99 ?_
    refine pz_callS (M := mX10_swims) (N := mX10_in) (d' := 0) (bc1 := 0) (bs1 := 0) (bc2 := bc) (bs2 := bs) (pc' := 20) [.int l2, .int 0, .int 99] sX10_104 rfl (pz_dc dX10_swims 10 rfl) rfl (Nat.le_of_ble_eq_true rfl) (Nat.le_of_ble_eq_true rfl) rfl (by omega) (by omega) (by omega) ?_
    refine cX10_in ?_
    show pz_V mX10_swims _ _ _ _ _ 20 [(0, .ref l0), (1, .int l1), (2, .int l2), (3, .int l3)] [.int (eX10_in l2 ((0 : Int32)) ((99 : Int32)))] h1
    refine pz_if_eq (pc' := 23) (tgt := 33) rfl (pz_dc dX10_swims 11 rfl) (by decide) (fun hc => ?_) (fun hc => ?_)
    · replace hb := hb.1 hc
      refine pz_iconst (pc' := 34) (v := (-1)) rfl (pz_dc dX10_swims 17 rfl) ki_m1 ?_
      exact pz_iret (pz_dc dX10_swims 18 rfl) rfl hb
    · replace hb := hb.2 hc
      refine pz_iload_n (pc' := 24) (x := l3) 3 rfl (pz_dc dX10_swims 12 rfl) rfl ?_
      refine pz_iconst (pc' := 25) (v := 1) rfl (pz_dc dX10_swims 13 rfl) ki_1 ?_
      refine pz_bipush (pc' := 27) (v := 99) rfl (pz_dc dX10_swims 14 rfl) kb_99 ?_
      refine pz_callS (M := mX10_swims) (N := mX10_in) (d' := 0) (bc1 := 0) (bs1 := 0) (bc2 := bc) (bs2 := bs) (pc' := 30) [.int l3, .int 1, .int 99] sX10_104 rfl (pz_dc dX10_swims 15 rfl) rfl (Nat.le_of_ble_eq_true rfl) (Nat.le_of_ble_eq_true rfl) rfl (by omega) (by omega) (by omega) ?_
      refine cX10_in ?_
      show pz_V mX10_swims _ _ _ _ _ 30 [(0, .ref l0), (1, .int l1), (2, .int l2), (3, .int l3)] [.int (eX10_in l3 ((1 : Int32)) ((99 : Int32)))] h1
      refine pz_if_ne (pc' := 33) (tgt := 35) rfl (pz_dc dX10_swims 16 rfl) (by decide) (fun hc => ?_) (fun hc => ?_)
      · replace hb := hb.1 hc
        refine pz_aload_n (pc' := 36) (x := l0) 0 rfl (pz_dc dX10_swims 19 rfl) rfl ?_
        refine pz_getR (M := mX10_swims) hb fX10_9 (pc' := 39) rfl (pz_dc dX10_swims 20 rfl) (fun a6 hb => ?_)
        refine pz_aload_n (pc' := 40) (x := l0) 0 rfl (pz_dc dX10_swims 21 rfl) rfl ?_
        refine pz_getR (M := mX10_swims) hb fX10_48 (pc' := 43) rfl (pz_dc dX10_swims 22 rfl) (fun a7 hb => ?_)
        refine pz_iconst (pc' := 44) (v := 0) rfl (pz_dc dX10_swims 23 rfl) ki_0 ?_
        refine pz_cSv (M := mX10_swims) (N := mX10_lay) (d' := 0) (bc1 := 0) (bs1 := 0) (bc2 := bc) (bs2 := bs) (pc' := 47) [.ref a6, .ref a7, .int 0] hb sX10_230 rfl (pz_dc dX10_swims 24 rfl) rfl (Nat.le_of_ble_eq_true rfl) (Nat.le_of_ble_eq_true rfl) rfl (by omega) (by omega) (by omega) (fun h8 hb => ?_)
        refine pz_iconst (pc' := 48) (v := 0) rfl (pz_dc dX10_swims 25 rfl) ki_0 ?_
        refine pz_istore (pc' := 50) (lv' := [(4, .int 0), (0, .ref l0), (1, .int l1), (2, .int l2), (3, .int l3)]) rfl (pz_dc dX10_swims 26 rfl) (by decide) rfl ?_
        refine pz_iconst (pc' := 51) (v := 0) rfl (pz_dc dX10_swims 27 rfl) ki_0 ?_
        refine pz_istore (pc' := 53) (lv' := [(5, .int 0), (4, .int 0), (0, .ref l0), (1, .int l1), (2, .int l2), (3, .int l3)]) rfl (pz_dc dX10_swims 28 rfl) (by decide) rfl ?_
        refine pz_iconst (pc' := 54) (v := 0) rfl (pz_dc dX10_swims 29 rfl) ki_0 ?_
        refine pz_istore (pc' := 56) (lv' := [(6, .int 0), (5, .int 0), (4, .int 0), (0, .ref l0), (1, .int l1), (2, .int l2), (3, .int l3)]) rfl (pz_dc dX10_swims 30 rfl) (by decide) rfl ?_
        refine pz_iconst (pc' := 57) (v := 0) rfl (pz_dc dX10_swims 31 rfl) ki_0 ?_
        refine pz_istore (pc' := 59) (lv' := [(7, .int 0), (6, .int 0), (5, .int 0), (4, .int 0), (0, .ref l0), (1, .int l1), (2, .int l2), (3, .int l3)]) rfl (pz_dc dX10_swims 32 rfl) (by decide) rfl ?_
        refine pz_iconst (pc' := 60) (v := 1) rfl (pz_dc dX10_swims 33 rfl) ki_1 ?_
        refine pz_istore (pc' := 62) (lv' := [(8, .int 1), (7, .int 0), (6, .int 0), (5, .int 0), (4, .int 0), (0, .ref l0), (1, .int l1), (2, .int l2), (3, .int l3)]) rfl (pz_dc dX10_swims 34 rfl) (by decide) rfl ?_
        refine pz_lv (lv' := [(0, .ref l0), (1, .int l1), (2, .int l2), (3, .int l3), (4, .int 0), (5, .int 0), (6, .int 0), (7, .int 0), (8, .int 1)]) [5, 6, 7, 8, 4, 3, 2, 1, 0] rfl ?_
        exact hb
      · replace hb := hb.2 hc
        refine pz_iconst (pc' := 34) (v := (-1)) rfl (pz_dc dX10_swims 17 rfl) ki_m1 ?_
        exact pz_iret (pz_dc dX10_swims 18 rfl) rfl hb
set_option maxRecDepth 20000 in
set_option maxHeartbeats 4000000 in
theorem wX10_swims_62 {Ex : State → Nat → Prop} {Q : Option Value → pz_H → Prop} {d bc bs : Nat} {l0 : Nat} {l1 : Int32} {l2 : Int32} {l3 : Int32} {l4 : Int32} {l5 : Int32} {l6 : Int32} {l7 : Int32} {l8 : Int32}  {h : pz_H} (hD : 83 ≤ d) (hb : (l3 < l8 → pz_pF h l0 10 8 (.int 0) (fun (h1 : pz_H) => pz_is h1 l0 10 ∧ (pz_kv mX10_tell 0 0 0 (.ref l0 :: [.long l7.toInt64]) h1 (fun (h2 : pz_H) => pz_is h2 l0 10 ∧ (pz_kv mX10_tell 0 0 0 (.ref l0 :: [.long l5.toInt64]) h2 (fun (h3 : pz_H) => Q (some (.int l4)) h3)))))) ∧ (¬ l3 < l8 → pz_gR h l0 10 24 (fun (a4 : Nat) => pz_is h l0 10 ∧ (pz_kv mX10_goDay 82 0 0 (.ref l0 :: [.ref a4]) h (fun (h5 : pz_H) => pz_gR h5 l0 10 24 (fun (a6 : Nat) => pz_rI h5 a6 l1 (fun (x7 : Int32) => (x7 < l2 → pz_V mX10_swims Ex Q d bc bs 62 [(0, .ref l0), (1, .int l1), (2, .int l2), (3, .int l3), (4, .int l4), (5, .int l5), (6, .int 0), (7, .int (if l7 < ((0 : Int32)) then ((0 : Int32)) else l7)), (8, .int (l8 + (1 : Int32)))] [] h5) ∧ (¬ x7 < l2 → (¬ (l6 + ((1 : Int32))) = 0 → (¬ l5 = 0 → pz_V mX10_swims Ex Q d bc bs 62 [(0, .ref l0), (1, .int l1), (2, .int l2), (3, .int l3), (4, .int (l4 + (1 : Int32))), (5, .int l5), (6, .int (l6 + ((1 : Int32)))), (7, .int (if l7 < (l6 + ((1 : Int32))) then (l6 + ((1 : Int32))) else l7)), (8, .int (l8 + (1 : Int32)))] [] h5) ∧ (l5 = 0 → pz_V mX10_swims Ex Q d bc bs 62 [(0, .ref l0), (1, .int l1), (2, .int l2), (3, .int l3), (4, .int (l4 + (1 : Int32))), (5, .int l8), (6, .int (l6 + ((1 : Int32)))), (7, .int (if l7 < (l6 + ((1 : Int32))) then (l6 + ((1 : Int32))) else l7)), (8, .int (l8 + (1 : Int32)))] [] h5)) ∧ ((l6 + ((1 : Int32))) = 0 → pz_V mX10_swims Ex Q d bc bs 62 [(0, .ref l0), (1, .int l1), (2, .int l2), (3, .int l3), (4, .int l4), (5, .int l5), (6, .int (l6 + ((1 : Int32)))), (7, .int (if l7 < (l6 + ((1 : Int32))) then (l6 + ((1 : Int32))) else l7)), (8, .int (l8 + (1 : Int32)))] [] h5))))))))) : pz_V mX10_swims Ex Q d bc bs 62 [(0, .ref l0), (1, .int l1), (2, .int l2), (3, .int l3), (4, .int l4), (5, .int l5), (6, .int l6), (7, .int l7), (8, .int l8)] [] h := by
  refine pz_iload (pc' := 64) (x := l8) 8 rfl (pz_dc dX10_swims 35 rfl) rfl ?_
  refine pz_iload_n (pc' := 65) (x := l3) 3 rfl (pz_dc dX10_swims 36 rfl) rfl ?_
  refine pz_icmp_gt (pc' := 68) (tgt := 136) rfl (pz_dc dX10_swims 37 rfl) (by decide) (fun hc => ?_) (fun hc => ?_)
  · replace hb := hb.1 hc
    refine pz_aload_n (pc' := 137) (x := l0) 0 rfl (pz_dc dX10_swims 70 rfl) rfl ?_
    refine pz_iconst (pc' := 138) (v := 0) rfl (pz_dc dX10_swims 71 rfl) ki_0 ?_
    refine pz_putv (M := mX10_swims) hb (pX10_98 _ rfl) rfl rfl (pc' := 141) rfl (pz_dc dX10_swims 72 rfl) (fun h1 hb => ?_)
    refine pz_aload_n (pc' := 142) (x := l0) 0 rfl (pz_dc dX10_swims 73 rfl) rfl ?_
    refine pz_iload (pc' := 144) (x := l7) 7 rfl (pz_dc dX10_swims 74 rfl) rfl ?_
    refine pz_i2l (pc' := 145) rfl (pz_dc dX10_swims 75 rfl) ?_
    refine pz_cVv (M := mX10_swims) (N := mX10_tell) (d' := 0) (bc1 := 0) (bs1 := 0) (bc2 := bc) (bs2 := bs) (pc' := 148) [.long l7.toInt64] hb vX10_248 rfl (pz_dc dX10_swims 76 rfl) rfl (Nat.le_of_ble_eq_true rfl) (Nat.le_of_ble_eq_true rfl) rfl (by omega) (by omega) (by omega) (fun h2 hb => ?_)
    refine pz_aload_n (pc' := 149) (x := l0) 0 rfl (pz_dc dX10_swims 77 rfl) rfl ?_
    refine pz_iload (pc' := 151) (x := l5) 5 rfl (pz_dc dX10_swims 78 rfl) rfl ?_
    refine pz_i2l (pc' := 152) rfl (pz_dc dX10_swims 79 rfl) ?_
    refine pz_cVv (M := mX10_swims) (N := mX10_tell) (d' := 0) (bc1 := 0) (bs1 := 0) (bc2 := bc) (bs2 := bs) (pc' := 155) [.long l5.toInt64] hb vX10_248 rfl (pz_dc dX10_swims 80 rfl) rfl (Nat.le_of_ble_eq_true rfl) (Nat.le_of_ble_eq_true rfl) rfl (by omega) (by omega) (by omega) (fun h3 hb => ?_)
    refine pz_iload (pc' := 157) (x := l4) 4 rfl (pz_dc dX10_swims 81 rfl) rfl ?_
    exact pz_iret (pz_dc dX10_swims 82 rfl) rfl hb
  · replace hb := hb.2 hc
    refine pz_aload_n (pc' := 69) (x := l0) 0 rfl (pz_dc dX10_swims 38 rfl) rfl ?_
    refine pz_aload_n (pc' := 70) (x := l0) 0 rfl (pz_dc dX10_swims 39 rfl) rfl ?_
    refine pz_getR (M := mX10_swims) hb fX10_48 (pc' := 73) rfl (pz_dc dX10_swims 40 rfl) (fun a4 hb => ?_)
    refine pz_cVv (M := mX10_swims) (N := mX10_goDay) (d' := 82) (bc1 := 0) (bs1 := 0) (bc2 := bc) (bs2 := bs) (pc' := 76) [.ref a4] hb vX10_237 rfl (pz_dc dX10_swims 41 rfl) rfl (Nat.le_of_ble_eq_true rfl) (Nat.le_of_ble_eq_true rfl) rfl (by omega) (by omega) (by omega) (fun h5 hb => ?_)
    refine pz_aload_n (pc' := 77) (x := l0) 0 rfl (pz_dc dX10_swims 42 rfl) rfl ?_
    refine pz_getR (M := mX10_swims) hb fX10_48 (pc' := 80) rfl (pz_dc dX10_swims 43 rfl) (fun a6 hb => ?_)
    refine pz_iload_n (pc' := 81) (x := l1) 1 rfl (pz_dc dX10_swims 44 rfl) rfl ?_
    refine pz_ldI hb (pc' := 82) rfl (pz_dc dX10_swims 45 rfl) (fun x7 hb => ?_)
    refine pz_iload_n (pc' := 83) (x := l2) 2 rfl (pz_dc dX10_swims 46 rfl) rfl ?_
    refine pz_icmp_lt (pc' := 86) (tgt := 93) rfl (pz_dc dX10_swims 47 rfl) (by decide) (fun hc => ?_) (fun hc => ?_)
    · replace hb := hb.1 hc
      refine pz_iconst (pc' := 94) (v := 0) rfl (pz_dc dX10_swims 52 rfl) ki_0 ?_
      refine pz_istore (pc' := 96) (lv' := [(6, .int 0), (0, .ref l0), (1, .int l1), (2, .int l2), (3, .int l3), (4, .int l4), (5, .int l5), (7, .int l7), (8, .int l8)]) rfl (pz_dc dX10_swims 53 rfl) (by decide) rfl ?_
      refine pz_iload (pc' := 98) (x := l7) 7 rfl (pz_dc dX10_swims 54 rfl) rfl ?_
      refine pz_iload (pc' := 100) (x := 0) 0 rfl (pz_dc dX10_swims 55 rfl) rfl ?_
      refine pz_max (M := mX10_swims) (pc' := 103) wX10_217 rfl (pz_dc dX10_swims 56 rfl) (Nat.le_of_ble_eq_true rfl) (by omega) ?_
      refine pz_istore (pc' := 105) (lv' := [(7, .int (if l7 < ((0 : Int32)) then ((0 : Int32)) else l7)), (6, .int 0), (0, .ref l0), (1, .int l1), (2, .int l2), (3, .int l3), (4, .int l4), (5, .int l5), (8, .int l8)]) rfl (pz_dc dX10_swims 57 rfl) (by decide) rfl ?_
      refine pz_iload (pc' := 107) (x := 0) 1 rfl (pz_dc dX10_swims 58 rfl) rfl ?_
      refine pz_if_ne (pc' := 110) (tgt := 113) rfl (pz_dc dX10_swims 59 rfl) (by decide) (fun hc => absurd hc (by decide)) (fun _ => ?_)
      refine pz_goto (pc' := 130) (pz_dc dX10_swims 60 rfl) (by decide) ?_
      refine pz_iinc (pc' := 133) (x := l8) (v := l8 + (1 : Int32)) (lv' := [(8, .int (l8 + (1 : Int32))), (7, .int (if l7 < ((0 : Int32)) then ((0 : Int32)) else l7)), (6, .int 0), (0, .ref l0), (1, .int l1), (2, .int l2), (3, .int l3), (4, .int l4), (5, .int l5)]) 8 rfl (pz_dc dX10_swims 68 rfl) rfl rfl (by decide) rfl ?_
      refine pz_goto (pc' := 62) (pz_dc dX10_swims 69 rfl) (by decide) ?_
      refine pz_lv (lv' := [(0, .ref l0), (1, .int l1), (2, .int l2), (3, .int l3), (4, .int l4), (5, .int l5), (6, .int 0), (7, .int (if l7 < ((0 : Int32)) then ((0 : Int32)) else l7)), (8, .int (l8 + (1 : Int32)))]) [3, 4, 5, 6, 7, 8, 2, 1, 0] rfl ?_
      exact hb
    · replace hb := hb.2 hc
      refine pz_iload (pc' := 88) (x := l6) 6 rfl (pz_dc dX10_swims 48 rfl) rfl ?_
      refine pz_iconst (pc' := 89) (v := 1) rfl (pz_dc dX10_swims 49 rfl) ki_1 ?_
      refine pz_iadd (pc' := 90) rfl (pz_dc dX10_swims 50 rfl) ?_
      refine pz_goto (pc' := 94) (pz_dc dX10_swims 51 rfl) (by decide) ?_
      refine pz_istore (pc' := 96) (lv' := [(6, .int (l6 + ((1 : Int32)))), (0, .ref l0), (1, .int l1), (2, .int l2), (3, .int l3), (4, .int l4), (5, .int l5), (7, .int l7), (8, .int l8)]) rfl (pz_dc dX10_swims 53 rfl) (by decide) rfl ?_
      refine pz_iload (pc' := 98) (x := l7) 7 rfl (pz_dc dX10_swims 54 rfl) rfl ?_
      refine pz_iload (pc' := 100) (x := l6 + ((1 : Int32))) 0 rfl (pz_dc dX10_swims 55 rfl) rfl ?_
      refine pz_max (M := mX10_swims) (pc' := 103) wX10_217 rfl (pz_dc dX10_swims 56 rfl) (Nat.le_of_ble_eq_true rfl) (by omega) ?_
      refine pz_istore (pc' := 105) (lv' := [(7, .int (if l7 < (l6 + ((1 : Int32))) then (l6 + ((1 : Int32))) else l7)), (6, .int (l6 + ((1 : Int32)))), (0, .ref l0), (1, .int l1), (2, .int l2), (3, .int l3), (4, .int l4), (5, .int l5), (8, .int l8)]) rfl (pz_dc dX10_swims 57 rfl) (by decide) rfl ?_
      refine pz_iload (pc' := 107) (x := l6 + ((1 : Int32))) 1 rfl (pz_dc dX10_swims 58 rfl) rfl ?_
      refine pz_if_ne (pc' := 110) (tgt := 113) rfl (pz_dc dX10_swims 59 rfl) (by decide) (fun hc => ?_) (fun hc => ?_)
      · replace hb := hb.1 hc
        refine pz_iload (pc' := 115) (x := l5) 7 rfl (pz_dc dX10_swims 61 rfl) rfl ?_
        refine pz_if_ne (pc' := 118) (tgt := 123) rfl (pz_dc dX10_swims 62 rfl) (by decide) (fun hc => ?_) (fun hc => ?_)
        · replace hb := hb.1 hc
          refine pz_iload (pc' := 125) (x := l5) 7 rfl (pz_dc dX10_swims 65 rfl) rfl ?_
          refine pz_istore (pc' := 127) (lv' := [(5, .int l5), (7, .int (if l7 < (l6 + ((1 : Int32))) then (l6 + ((1 : Int32))) else l7)), (6, .int (l6 + ((1 : Int32)))), (0, .ref l0), (1, .int l1), (2, .int l2), (3, .int l3), (4, .int l4), (8, .int l8)]) rfl (pz_dc dX10_swims 66 rfl) (by decide) rfl ?_
          refine pz_iinc (pc' := 130) (x := l4) (v := l4 + (1 : Int32)) (lv' := [(4, .int (l4 + (1 : Int32))), (5, .int l5), (7, .int (if l7 < (l6 + ((1 : Int32))) then (l6 + ((1 : Int32))) else l7)), (6, .int (l6 + ((1 : Int32)))), (0, .ref l0), (1, .int l1), (2, .int l2), (3, .int l3), (8, .int l8)]) 7 rfl (pz_dc dX10_swims 67 rfl) rfl rfl (by decide) rfl ?_
          refine pz_iinc (pc' := 133) (x := l8) (v := l8 + (1 : Int32)) (lv' := [(8, .int (l8 + (1 : Int32))), (4, .int (l4 + (1 : Int32))), (5, .int l5), (7, .int (if l7 < (l6 + ((1 : Int32))) then (l6 + ((1 : Int32))) else l7)), (6, .int (l6 + ((1 : Int32)))), (0, .ref l0), (1, .int l1), (2, .int l2), (3, .int l3)]) 8 rfl (pz_dc dX10_swims 68 rfl) rfl rfl (by decide) rfl ?_
          refine pz_goto (pc' := 62) (pz_dc dX10_swims 69 rfl) (by decide) ?_
          refine pz_lv (lv' := [(0, .ref l0), (1, .int l1), (2, .int l2), (3, .int l3), (4, .int (l4 + (1 : Int32))), (5, .int l5), (6, .int (l6 + ((1 : Int32)))), (7, .int (if l7 < (l6 + ((1 : Int32))) then (l6 + ((1 : Int32))) else l7)), (8, .int (l8 + (1 : Int32)))]) [5, 6, 7, 8, 1, 2, 4, 3, 0] rfl ?_
          exact hb
        · replace hb := hb.2 hc
          refine pz_iload (pc' := 120) (x := l8) 8 rfl (pz_dc dX10_swims 63 rfl) rfl ?_
          refine pz_goto (pc' := 125) (pz_dc dX10_swims 64 rfl) (by decide) ?_
          refine pz_istore (pc' := 127) (lv' := [(5, .int l8), (7, .int (if l7 < (l6 + ((1 : Int32))) then (l6 + ((1 : Int32))) else l7)), (6, .int (l6 + ((1 : Int32)))), (0, .ref l0), (1, .int l1), (2, .int l2), (3, .int l3), (4, .int l4), (8, .int l8)]) rfl (pz_dc dX10_swims 66 rfl) (by decide) rfl ?_
          refine pz_iinc (pc' := 130) (x := l4) (v := l4 + (1 : Int32)) (lv' := [(4, .int (l4 + (1 : Int32))), (5, .int l8), (7, .int (if l7 < (l6 + ((1 : Int32))) then (l6 + ((1 : Int32))) else l7)), (6, .int (l6 + ((1 : Int32)))), (0, .ref l0), (1, .int l1), (2, .int l2), (3, .int l3), (8, .int l8)]) 7 rfl (pz_dc dX10_swims 67 rfl) rfl rfl (by decide) rfl ?_
          refine pz_iinc (pc' := 133) (x := l8) (v := l8 + (1 : Int32)) (lv' := [(8, .int (l8 + (1 : Int32))), (4, .int (l4 + (1 : Int32))), (5, .int l8), (7, .int (if l7 < (l6 + ((1 : Int32))) then (l6 + ((1 : Int32))) else l7)), (6, .int (l6 + ((1 : Int32)))), (0, .ref l0), (1, .int l1), (2, .int l2), (3, .int l3)]) 8 rfl (pz_dc dX10_swims 68 rfl) rfl rfl (by decide) rfl ?_
          refine pz_goto (pc' := 62) (pz_dc dX10_swims 69 rfl) (by decide) ?_
          refine pz_lv (lv' := [(0, .ref l0), (1, .int l1), (2, .int l2), (3, .int l3), (4, .int (l4 + (1 : Int32))), (5, .int l8), (6, .int (l6 + ((1 : Int32)))), (7, .int (if l7 < (l6 + ((1 : Int32))) then (l6 + ((1 : Int32))) else l7)), (8, .int (l8 + (1 : Int32)))]) [5, 6, 7, 8, 1, 2, 4, 3, 0] rfl ?_
          exact hb
      · replace hb := hb.2 hc
        refine pz_goto (pc' := 130) (pz_dc dX10_swims 60 rfl) (by decide) ?_
        refine pz_iinc (pc' := 133) (x := l8) (v := l8 + (1 : Int32)) (lv' := [(8, .int (l8 + (1 : Int32))), (7, .int (if l7 < (l6 + ((1 : Int32))) then (l6 + ((1 : Int32))) else l7)), (6, .int (l6 + ((1 : Int32)))), (0, .ref l0), (1, .int l1), (2, .int l2), (3, .int l3), (4, .int l4), (5, .int l5)]) 8 rfl (pz_dc dX10_swims 68 rfl) rfl rfl (by decide) rfl ?_
        refine pz_goto (pc' := 62) (pz_dc dX10_swims 69 rfl) (by decide) ?_
        refine pz_lv (lv' := [(0, .ref l0), (1, .int l1), (2, .int l2), (3, .int l3), (4, .int l4), (5, .int l5), (6, .int (l6 + ((1 : Int32)))), (7, .int (if l7 < (l6 + ((1 : Int32))) then (l6 + ((1 : Int32))) else l7)), (8, .int (l8 + (1 : Int32)))]) [3, 4, 5, 6, 7, 8, 2, 1, 0] rfl ?_
        exact hb
set_option maxRecDepth 20000 in
set_option maxHeartbeats 4000000 in
theorem wX10_dryOnes_0 {Ex : State → Nat → Prop} {Q : Option Value → pz_H → Prop} {d bc bs : Nat} {l0 : Nat} {l1 : Nat}  {h : pz_H}  (hb : pz_V mX10_dryOnes Ex Q d bc bs 4 [(0, .ref l0), (1, .ref l1), (2, .int 0), (3, .int 0)] [] h) : pz_V mX10_dryOnes Ex Q d bc bs 0 [(0, .ref l0), (1, .ref l1)] [] h := by
  refine pz_iconst (pc' := 1) (v := 0) rfl (pz_dc dX10_dryOnes 0 rfl) ki_0 ?_
  refine pz_istore_n (pc' := 2) (lv' := [(2, .int 0), (0, .ref l0), (1, .ref l1)]) rfl (pz_dc dX10_dryOnes 1 rfl) (by decide) rfl ?_
  refine pz_iconst (pc' := 3) (v := 0) rfl (pz_dc dX10_dryOnes 2 rfl) ki_0 ?_
  refine pz_istore_n (pc' := 4) (lv' := [(3, .int 0), (2, .int 0), (0, .ref l0), (1, .ref l1)]) rfl (pz_dc dX10_dryOnes 3 rfl) (by decide) rfl ?_
  refine pz_lv (lv' := [(0, .ref l0), (1, .ref l1), (2, .int 0), (3, .int 0)]) [2, 3, 1, 0] rfl ?_
  exact hb
set_option maxRecDepth 20000 in
set_option maxHeartbeats 4000000 in
theorem wX10_dryOnes_4 {Ex : State → Nat → Prop} {Q : Option Value → pz_H → Prop} {d bc bs : Nat} {l0 : Nat} {l1 : Nat} {l2 : Int32} {l3 : Int32}  {h : pz_H}  (hb : pz_gI h l0 10 1 (fun (x1 : Int32) => (x1 ≤ l3 → Q (some (.int l2)) h) ∧ (¬ x1 ≤ l3 → pz_rI h l1 l3 (fun (x2 : Int32) => (¬ x2 = 0 → pz_V mX10_dryOnes Ex Q d bc bs 4 [(0, .ref l0), (1, .ref l1), (2, .int (l2 ||| ((0 : Int32)))), (3, .int (l3 + (1 : Int32)))] [] h) ∧ (x2 = 0 → pz_V mX10_dryOnes Ex Q d bc bs 4 [(0, .ref l0), (1, .ref l1), (2, .int (l2 ||| (((1 : Int32)) <<< (l3 &&& 31)))), (3, .int (l3 + (1 : Int32)))] [] h))))) : pz_V mX10_dryOnes Ex Q d bc bs 4 [(0, .ref l0), (1, .ref l1), (2, .int l2), (3, .int l3)] [] h := by
  refine pz_iload_n (pc' := 5) (x := l3) 3 rfl (pz_dc dX10_dryOnes 4 rfl) rfl ?_
  refine pz_aload_n (pc' := 6) (x := l0) 0 rfl (pz_dc dX10_dryOnes 5 rfl) rfl ?_
  refine pz_getI (M := mX10_dryOnes) hb fX10_101 (pc' := 9) rfl (pz_dc dX10_dryOnes 6 rfl) (fun x1 hb => ?_)
  refine pz_icmp_ge (pc' := 12) (tgt := 34) rfl (pz_dc dX10_dryOnes 7 rfl) (by decide) (fun hc => ?_) (fun hc => ?_)
  · replace hb := hb.1 hc
    refine pz_iload_n (pc' := 35) (x := l2) 2 rfl (pz_dc dX10_dryOnes 22 rfl) rfl ?_
    exact pz_iret (pz_dc dX10_dryOnes 23 rfl) rfl hb
  · replace hb := hb.2 hc
    refine pz_iload_n (pc' := 13) (x := l2) 2 rfl (pz_dc dX10_dryOnes 8 rfl) rfl ?_
    refine pz_aload_n (pc' := 14) (x := l1) 1 rfl (pz_dc dX10_dryOnes 9 rfl) rfl ?_
    refine pz_iload_n (pc' := 15) (x := l3) 3 rfl (pz_dc dX10_dryOnes 10 rfl) rfl ?_
    refine pz_ldI hb (pc' := 16) rfl (pz_dc dX10_dryOnes 11 rfl) (fun x2 hb => ?_)
    refine pz_if_ne (pc' := 19) (tgt := 25) rfl (pz_dc dX10_dryOnes 12 rfl) (by decide) (fun hc => ?_) (fun hc => ?_)
    · replace hb := hb.1 hc
      refine pz_iconst (pc' := 26) (v := 0) rfl (pz_dc dX10_dryOnes 17 rfl) ki_0 ?_
      refine pz_ior (pc' := 27) rfl (pz_dc dX10_dryOnes 18 rfl) ?_
      refine pz_istore_n (pc' := 28) (lv' := [(2, .int (l2 ||| ((0 : Int32)))), (0, .ref l0), (1, .ref l1), (3, .int l3)]) rfl (pz_dc dX10_dryOnes 19 rfl) (by decide) rfl ?_
      refine pz_iinc (pc' := 31) (x := l3) (v := l3 + (1 : Int32)) (lv' := [(3, .int (l3 + (1 : Int32))), (2, .int (l2 ||| ((0 : Int32)))), (0, .ref l0), (1, .ref l1)]) 3 rfl (pz_dc dX10_dryOnes 20 rfl) rfl rfl (by decide) rfl ?_
      refine pz_goto (pc' := 4) (pz_dc dX10_dryOnes 21 rfl) (by decide) ?_
      refine pz_lv (lv' := [(0, .ref l0), (1, .ref l1), (2, .int (l2 ||| ((0 : Int32)))), (3, .int (l3 + (1 : Int32)))]) [2, 3, 1, 0] rfl ?_
      exact hb
    · replace hb := hb.2 hc
      refine pz_iconst (pc' := 20) (v := 1) rfl (pz_dc dX10_dryOnes 13 rfl) ki_1 ?_
      refine pz_iload_n (pc' := 21) (x := l3) 3 rfl (pz_dc dX10_dryOnes 14 rfl) rfl ?_
      refine pz_ishl (pc' := 22) rfl (pz_dc dX10_dryOnes 15 rfl) ?_
      refine pz_goto (pc' := 26) (pz_dc dX10_dryOnes 16 rfl) (by decide) ?_
      refine pz_ior (pc' := 27) rfl (pz_dc dX10_dryOnes 18 rfl) ?_
      refine pz_istore_n (pc' := 28) (lv' := [(2, .int (l2 ||| (((1 : Int32)) <<< (l3 &&& 31)))), (0, .ref l0), (1, .ref l1), (3, .int l3)]) rfl (pz_dc dX10_dryOnes 19 rfl) (by decide) rfl ?_
      refine pz_iinc (pc' := 31) (x := l3) (v := l3 + (1 : Int32)) (lv' := [(3, .int (l3 + (1 : Int32))), (2, .int (l2 ||| (((1 : Int32)) <<< (l3 &&& 31)))), (0, .ref l0), (1, .ref l1)]) 3 rfl (pz_dc dX10_dryOnes 20 rfl) rfl rfl (by decide) rfl ?_
      refine pz_goto (pc' := 4) (pz_dc dX10_dryOnes 21 rfl) (by decide) ?_
      refine pz_lv (lv' := [(0, .ref l0), (1, .ref l1), (2, .int (l2 ||| (((1 : Int32)) <<< (l3 &&& 31)))), (3, .int (l3 + (1 : Int32)))]) [2, 3, 1, 0] rfl ?_
      exact hb
set_option maxRecDepth 20000 in
set_option maxHeartbeats 4000000 in
theorem wX10_goTouched_0 {Ex : State → Nat → Prop} {Q : Option Value → pz_H → Prop} {d bc bs : Nat} {l0 : Nat} {l1 : Int32} {l2 : Int32}  {h : pz_H} (hD : 84 ≤ d) (hb : pz_gR h l0 10 0 (fun (a1 : Nat) => pz_gR h l0 10 24 (fun (a2 : Nat) => pz_kv mX10_lay 0 0 0 ([.ref a1, .ref a2, .int 0]) h (fun (h3 : pz_H) => pz_V mX10_goTouched Ex Q d bc bs 14 [(0, .ref l0), (1, .int l1), (2, .int l2), (3, .int 0)] [] h3)))) : pz_V mX10_goTouched Ex Q d bc bs 0 [(0, .ref l0), (1, .int l1), (2, .int l2)] [] h := by
  refine pz_aload_n (pc' := 1) (x := l0) 0 rfl (pz_dc dX10_goTouched 0 rfl) rfl ?_
  refine pz_getR (M := mX10_goTouched) hb fX10_9 (pc' := 4) rfl (pz_dc dX10_goTouched 1 rfl) (fun a1 hb => ?_)
  refine pz_aload_n (pc' := 5) (x := l0) 0 rfl (pz_dc dX10_goTouched 2 rfl) rfl ?_
  refine pz_getR (M := mX10_goTouched) hb fX10_48 (pc' := 8) rfl (pz_dc dX10_goTouched 3 rfl) (fun a2 hb => ?_)
  refine pz_iconst (pc' := 9) (v := 0) rfl (pz_dc dX10_goTouched 4 rfl) ki_0 ?_
  refine pz_cSv (M := mX10_goTouched) (N := mX10_lay) (d' := 0) (bc1 := 0) (bs1 := 0) (bc2 := bc) (bs2 := bs) (pc' := 12) [.ref a1, .ref a2, .int 0] hb sX10_230 rfl (pz_dc dX10_goTouched 5 rfl) rfl (Nat.le_of_ble_eq_true rfl) (Nat.le_of_ble_eq_true rfl) rfl (by omega) (by omega) (by omega) (fun h3 hb => ?_)
  refine pz_iconst (pc' := 13) (v := 0) rfl (pz_dc dX10_goTouched 6 rfl) ki_0 ?_
  refine pz_istore_n (pc' := 14) (lv' := [(3, .int 0), (0, .ref l0), (1, .int l1), (2, .int l2)]) rfl (pz_dc dX10_goTouched 7 rfl) (by decide) rfl ?_
  refine pz_lv (lv' := [(0, .ref l0), (1, .int l1), (2, .int l2), (3, .int 0)]) [1, 2, 3, 0] rfl ?_
  exact hb
set_option maxRecDepth 20000 in
set_option maxHeartbeats 4000000 in
theorem wX10_goTouched_14 {Ex : State → Nat → Prop} {Q : Option Value → pz_H → Prop} {d bc bs : Nat} {l0 : Nat} {l1 : Int32} {l2 : Int32} {l3 : Int32}  {h : pz_H} (hD : 84 ≤ d) (hb : pz_gI h l0 10 1 (fun (x1 : Int32) => (x1 ≤ l3 → pz_gR h l0 10 24 (fun (a2 : Nat) => pz_is h l0 10 ∧ (pz_kv mX10_goDays 83 0 0 (.ref l0 :: [.ref a2, .int l2]) h (fun (h3 : pz_H) => Q none h3)))) ∧ (¬ x1 ≤ l3 → ((eX10_has l1 l3) = 0 → pz_V mX10_goTouched Ex Q d bc bs 14 [(0, .ref l0), (1, .int l1), (2, .int l2), (3, .int (l3 + (1 : Int32)))] [] h) ∧ (¬ (eX10_has l1 l3) = 0 → pz_gR h l0 10 24 (fun (a4 : Nat) => pz_gR h l0 10 24 (fun (a5 : Nat) => pz_rI h a5 (((6 : Int32)) + l3) (fun (x6 : Int32) => pz_sI h a4 (((6 : Int32)) + l3) (((1 : Int32)) - x6) (fun (h7 : pz_H) => pz_V mX10_goTouched Ex Q d bc bs 14 [(0, .ref l0), (1, .int l1), (2, .int l2), (3, .int (l3 + (1 : Int32)))] [] h7)))))))) : pz_V mX10_goTouched Ex Q d bc bs 14 [(0, .ref l0), (1, .int l1), (2, .int l2), (3, .int l3)] [] h := by
  refine pz_iload_n (pc' := 15) (x := l3) 3 rfl (pz_dc dX10_goTouched 8 rfl) rfl ?_
  refine pz_aload_n (pc' := 16) (x := l0) 0 rfl (pz_dc dX10_goTouched 9 rfl) rfl ?_
  refine pz_getI (M := mX10_goTouched) hb fX10_101 (pc' := 19) rfl (pz_dc dX10_goTouched 10 rfl) (fun x1 hb => ?_)
  refine pz_icmp_ge (pc' := 22) (tgt := 56) rfl (pz_dc dX10_goTouched 11 rfl) (by decide) (fun hc => ?_) (fun hc => ?_)
  · replace hb := hb.1 hc
    refine pz_aload_n (pc' := 57) (x := l0) 0 rfl (pz_dc dX10_goTouched 32 rfl) rfl ?_
    refine pz_aload_n (pc' := 58) (x := l0) 0 rfl (pz_dc dX10_goTouched 33 rfl) rfl ?_
    refine pz_getR (M := mX10_goTouched) hb fX10_48 (pc' := 61) rfl (pz_dc dX10_goTouched 34 rfl) (fun a2 hb => ?_)
    refine pz_iload_n (pc' := 62) (x := l2) 2 rfl (pz_dc dX10_goTouched 35 rfl) rfl ?_
    refine pz_cVv (M := mX10_goTouched) (N := mX10_goDays) (d' := 83) (bc1 := 0) (bs1 := 0) (bc2 := bc) (bs2 := bs) (pc' := 65) [.ref a2, .int l2] hb vX10_244 rfl (pz_dc dX10_goTouched 36 rfl) rfl (Nat.le_of_ble_eq_true rfl) (Nat.le_of_ble_eq_true rfl) rfl (by omega) (by omega) (by omega) (fun h3 hb => ?_)
    exact pz_vret (pz_dc dX10_goTouched 37 rfl) rfl hb
  · replace hb := hb.2 hc
    refine pz_iload_n (pc' := 23) (x := l1) 1 rfl (pz_dc dX10_goTouched 12 rfl) rfl ?_
    refine pz_iload_n (pc' := 24) (x := l3) 3 rfl (pz_dc dX10_goTouched 13 rfl) rfl ?_
    refine pz_callS (M := mX10_goTouched) (N := mX10_has) (d' := 0) (bc1 := 0) (bs1 := 0) (bc2 := bc) (bs2 := bs) (pc' := 27) [.int l1, .int l3] sX10_277 rfl (pz_dc dX10_goTouched 14 rfl) rfl (Nat.le_of_ble_eq_true rfl) (Nat.le_of_ble_eq_true rfl) rfl (by omega) (by omega) (by omega) ?_
    refine cX10_has ?_
    show pz_V mX10_goTouched _ _ _ _ _ 27 [(0, .ref l0), (1, .int l1), (2, .int l2), (3, .int l3)] [.int (eX10_has l1 l3)] h
    refine pz_if_eq (pc' := 30) (tgt := 50) rfl (pz_dc dX10_goTouched 15 rfl) (by decide) (fun hc => ?_) (fun hc => ?_)
    · replace hb := hb.1 hc
      refine pz_iinc (pc' := 53) (x := l3) (v := l3 + (1 : Int32)) (lv' := [(3, .int (l3 + (1 : Int32))), (0, .ref l0), (1, .int l1), (2, .int l2)]) 3 rfl (pz_dc dX10_goTouched 30 rfl) rfl rfl (by decide) rfl ?_
      refine pz_goto (pc' := 14) (pz_dc dX10_goTouched 31 rfl) (by decide) ?_
      refine pz_lv (lv' := [(0, .ref l0), (1, .int l1), (2, .int l2), (3, .int (l3 + (1 : Int32)))]) [1, 2, 3, 0] rfl ?_
      exact hb
    · replace hb := hb.2 hc
      refine pz_aload_n (pc' := 31) (x := l0) 0 rfl (pz_dc dX10_goTouched 16 rfl) rfl ?_
      refine pz_getR (M := mX10_goTouched) hb fX10_48 (pc' := 34) rfl (pz_dc dX10_goTouched 17 rfl) (fun a4 hb => ?_)
      refine pz_bipush (pc' := 36) (v := 6) rfl (pz_dc dX10_goTouched 18 rfl) kb_6 ?_
      refine pz_iload_n (pc' := 37) (x := l3) 3 rfl (pz_dc dX10_goTouched 19 rfl) rfl ?_
      refine pz_iadd (pc' := 38) rfl (pz_dc dX10_goTouched 20 rfl) ?_
      refine pz_iconst (pc' := 39) (v := 1) rfl (pz_dc dX10_goTouched 21 rfl) ki_1 ?_
      refine pz_aload_n (pc' := 40) (x := l0) 0 rfl (pz_dc dX10_goTouched 22 rfl) rfl ?_
      refine pz_getR (M := mX10_goTouched) hb fX10_48 (pc' := 43) rfl (pz_dc dX10_goTouched 23 rfl) (fun a5 hb => ?_)
      refine pz_bipush (pc' := 45) (v := 6) rfl (pz_dc dX10_goTouched 24 rfl) kb_6 ?_
      refine pz_iload_n (pc' := 46) (x := l3) 3 rfl (pz_dc dX10_goTouched 25 rfl) rfl ?_
      refine pz_iadd (pc' := 47) rfl (pz_dc dX10_goTouched 26 rfl) ?_
      refine pz_ldI hb (pc' := 48) rfl (pz_dc dX10_goTouched 27 rfl) (fun x6 hb => ?_)
      refine pz_isub (pc' := 49) rfl (pz_dc dX10_goTouched 28 rfl) ?_
      refine pz_stI hb (pc' := 50) rfl (pz_dc dX10_goTouched 29 rfl) (fun h7 hb => ?_)
      refine pz_iinc (pc' := 53) (x := l3) (v := l3 + (1 : Int32)) (lv' := [(3, .int (l3 + (1 : Int32))), (0, .ref l0), (1, .int l1), (2, .int l2)]) 3 rfl (pz_dc dX10_goTouched 30 rfl) rfl rfl (by decide) rfl ?_
      refine pz_goto (pc' := 14) (pz_dc dX10_goTouched 31 rfl) (by decide) ?_
      refine pz_lv (lv' := [(0, .ref l0), (1, .int l1), (2, .int l2), (3, .int (l3 + (1 : Int32)))]) [1, 2, 3, 0] rfl ?_
      exact hb
set_option maxRecDepth 20000 in
set_option maxHeartbeats 4000000 in
theorem wX10_fewest_0 {Ex : State → Nat → Prop} {Q : Option Value → pz_H → Prop} {d bc bs : Nat} {l0 : Nat} {l1 : Int32} {l2 : Int32} {l3 : Int32}  {h : pz_H} (hD : 85 ≤ d) (hb : pz_V mX10_fewest Ex Q d bc bs 6 [(0, .ref l0), (1, .int l1), (2, .int l2), (3, .int l3), (4, .int ((-1))), (5, .int 0)] [] h) : pz_V mX10_fewest Ex Q d bc bs 0 [(0, .ref l0), (1, .int l1), (2, .int l2), (3, .int l3)] [] h := by
  refine pz_iconst (pc' := 1) (v := (-1)) rfl (pz_dc dX10_fewest 0 rfl) ki_m1 ?_
  refine pz_istore (pc' := 3) (lv' := [(4, .int ((-1))), (0, .ref l0), (1, .int l1), (2, .int l2), (3, .int l3)]) rfl (pz_dc dX10_fewest 1 rfl) (by decide) rfl ?_
  refine pz_iconst (pc' := 4) (v := 0) rfl (pz_dc dX10_fewest 2 rfl) ki_0 ?_
  refine pz_istore (pc' := 6) (lv' := [(5, .int 0), (4, .int ((-1))), (0, .ref l0), (1, .int l1), (2, .int l2), (3, .int l3)]) rfl (pz_dc dX10_fewest 3 rfl) (by decide) rfl ?_
  refine pz_lv (lv' := [(0, .ref l0), (1, .int l1), (2, .int l2), (3, .int l3), (4, .int ((-1))), (5, .int 0)]) [2, 3, 4, 5, 1, 0] rfl ?_
  exact hb
set_option maxRecDepth 20000 in
set_option maxHeartbeats 4000000 in
theorem wX10_fewest_6 {Ex : State → Nat → Prop} {Q : Option Value → pz_H → Prop} {d bc bs : Nat} {l0 : Nat} {l1 : Int32} {l2 : Int32} {l3 : Int32} {l4 : Int32} {l5 : Int32}  {h : pz_H} (hD : 85 ≤ d) (hb : pz_is h l0 10 ∧ (pz_gI h l0 10 1 (fun (x1 : Int32) => ((eX10_all x1) < l5 → (¬ l4 = ((-1 : Int32)) → pz_pF h l0 10 8 (.int 0) (fun (h5 : pz_H) => pz_is h5 l0 10 ∧ (pz_kv mX10_tell 0 0 0 (.ref l0 :: [.long l4.toInt64]) h5 (fun (h6 : pz_H) => pz_ki mJ6_bitCount_0f7a4 0 0 0 ([.int l4]) h6 (fun (x8 : Int32) (h7 : pz_H) => Q (some (.int x8)) h7))))) ∧ (l4 = ((-1 : Int32)) → Q (some (.int ((-2)))) h)) ∧ (¬ (eX10_all x1) < l5 → (l4 = ((-1 : Int32)) → pz_is h l0 10 ∧ (pz_kv mX10_goTouched 84 0 0 (.ref l0 :: [.int l5, .int l3]) h (fun (h9 : pz_H) => pz_gR h9 l0 10 24 (fun (a10 : Nat) => pz_is h9 l0 10 ∧ (pz_ki mX10_dryOnes 0 0 0 (.ref l0 :: [.ref a10]) h9 (fun (x12 : Int32) (h11 : pz_H) => (¬ (x12 &&& l1) = l2 → pz_V mX10_fewest Ex Q d bc bs 6 [(0, .ref l0), (1, .int l1), (2, .int l2), (3, .int l3), (4, .int l4), (5, .int (l5 + (1 : Int32)))] [] h11) ∧ ((x12 &&& l1) = l2 → pz_V mX10_fewest Ex Q d bc bs 6 [(0, .ref l0), (1, .int l1), (2, .int l2), (3, .int l3), (4, .int l5), (5, .int (l5 + (1 : Int32)))] [] h11))))))) ∧ (¬ l4 = ((-1 : Int32)) → pz_ki mJ6_bitCount_0f7a4 0 0 0 ([.int l5]) h (fun (x14 : Int32) (h13 : pz_H) => pz_ki mJ6_bitCount_0f7a4 0 0 0 ([.int l4]) h13 (fun (x16 : Int32) (h15 : pz_H) => (x14 < x16 → pz_is h15 l0 10 ∧ (pz_kv mX10_goTouched 84 0 0 (.ref l0 :: [.int l5, .int l3]) h15 (fun (h17 : pz_H) => pz_gR h17 l0 10 24 (fun (a18 : Nat) => pz_is h17 l0 10 ∧ (pz_ki mX10_dryOnes 0 0 0 (.ref l0 :: [.ref a18]) h17 (fun (x20 : Int32) (h19 : pz_H) => (¬ (x20 &&& l1) = l2 → pz_V mX10_fewest Ex Q d bc bs 6 [(0, .ref l0), (1, .int l1), (2, .int l2), (3, .int l3), (4, .int l4), (5, .int (l5 + (1 : Int32)))] [] h19) ∧ ((x20 &&& l1) = l2 → pz_V mX10_fewest Ex Q d bc bs 6 [(0, .ref l0), (1, .int l1), (2, .int l2), (3, .int l3), (4, .int l5), (5, .int (l5 + (1 : Int32)))] [] h19))))))) ∧ (¬ x14 < x16 → pz_V mX10_fewest Ex Q d bc bs 6 [(0, .ref l0), (1, .int l1), (2, .int l2), (3, .int l3), (4, .int l4), (5, .int (l5 + (1 : Int32)))] [] h15)))))))) : pz_V mX10_fewest Ex Q d bc bs 6 [(0, .ref l0), (1, .int l1), (2, .int l2), (3, .int l3), (4, .int l4), (5, .int l5)] [] h := by
  refine pz_iload (pc' := 8) (x := l5) 5 rfl (pz_dc dX10_fewest 4 rfl) rfl ?_
  refine pz_aload_n (pc' := 9) (x := l0) 0 rfl (pz_dc dX10_fewest 5 rfl) rfl ?_
  obtain ⟨⟨fs21, hf22⟩, hb⟩ := hb
  obtain ⟨fs2, x1, g3, g4, hb⟩ := hb
  refine pz_callV (M := mX10_fewest) (N := mX10_all) (d' := 0) (bc1 := 0) (bs1 := 0) (bc2 := bc) (bs2 := bs) (pc' := 12) [] vX10_293 rfl (pz_dc dX10_fewest 6 rfl) rfl (Nat.le_of_ble_eq_true rfl) (Nat.le_of_ble_eq_true rfl) rfl (by omega) (by omega) (by omega) hf22 ?_
  refine cX10_all ⟨fs2, x1, g3, g4, ?_⟩
  show pz_V mX10_fewest _ _ _ _ _ 12 [(0, .ref l0), (1, .int l1), (2, .int l2), (3, .int l3), (4, .int l4), (5, .int l5)] [.int (eX10_all x1), .int l5] h
  refine pz_icmp_gt (pc' := 15) (tgt := 68) rfl (pz_dc dX10_fewest 7 rfl) (by decide) (fun hc => ?_) (fun hc => ?_)
  · replace hb := hb.1 hc
    refine pz_iload (pc' := 70) (x := l4) 4 rfl (pz_dc dX10_fewest 33 rfl) rfl ?_
    refine pz_iconst (pc' := 71) (v := (-1)) rfl (pz_dc dX10_fewest 34 rfl) ki_m1 ?_
    refine pz_icmp_ne (pc' := 74) (tgt := 77) rfl (pz_dc dX10_fewest 35 rfl) (by decide) (fun hc => ?_) (fun hc => ?_)
    · replace hb := hb.1 hc
      refine pz_aload_n (pc' := 78) (x := l0) 0 rfl (pz_dc dX10_fewest 38 rfl) rfl ?_
      refine pz_iconst (pc' := 79) (v := 0) rfl (pz_dc dX10_fewest 39 rfl) ki_0 ?_
      refine pz_putv (M := mX10_fewest) hb (pX10_98 _ rfl) rfl rfl (pc' := 82) rfl (pz_dc dX10_fewest 40 rfl) (fun h5 hb => ?_)
      refine pz_aload_n (pc' := 83) (x := l0) 0 rfl (pz_dc dX10_fewest 41 rfl) rfl ?_
      refine pz_iload (pc' := 85) (x := l4) 4 rfl (pz_dc dX10_fewest 42 rfl) rfl ?_
      refine pz_i2l (pc' := 86) rfl (pz_dc dX10_fewest 43 rfl) ?_
      refine pz_cVv (M := mX10_fewest) (N := mX10_tell) (d' := 0) (bc1 := 0) (bs1 := 0) (bc2 := bc) (bs2 := bs) (pc' := 89) [.long l4.toInt64] hb vX10_248 rfl (pz_dc dX10_fewest 44 rfl) rfl (Nat.le_of_ble_eq_true rfl) (Nat.le_of_ble_eq_true rfl) rfl (by omega) (by omega) (by omega) (fun h6 hb => ?_)
      refine pz_iload (pc' := 91) (x := l4) 4 rfl (pz_dc dX10_fewest 45 rfl) rfl ?_
      refine pz_cSi (M := mX10_fewest) (N := mJ6_bitCount_0f7a4) (d' := 0) (bc1 := 0) (bs1 := 0) (bc2 := bc) (bs2 := bs) (pc' := 94) [.int l4] hb sX10_206 rfl (pz_dc dX10_fewest 46 rfl) rfl (Nat.le_of_ble_eq_true rfl) (Nat.le_of_ble_eq_true rfl) rfl (by omega) (by omega) (by omega) (fun x8 h7 hb => ?_)
      exact pz_iret (pz_dc dX10_fewest 47 rfl) rfl hb
    · replace hb := hb.2 hc
      refine pz_bipush (pc' := 76) (v := (-2)) rfl (pz_dc dX10_fewest 36 rfl) kb_m2 ?_
      exact pz_iret (pz_dc dX10_fewest 37 rfl) rfl hb
  · replace hb := hb.2 hc
    refine pz_iload (pc' := 17) (x := l4) 4 rfl (pz_dc dX10_fewest 8 rfl) rfl ?_
    refine pz_iconst (pc' := 18) (v := (-1)) rfl (pz_dc dX10_fewest 9 rfl) ki_m1 ?_
    refine pz_icmp_eq (pc' := 21) (tgt := 37) rfl (pz_dc dX10_fewest 10 rfl) (by decide) (fun hc => ?_) (fun hc => ?_)
    · replace hb := hb.1 hc
      refine pz_aload_n (pc' := 38) (x := l0) 0 rfl (pz_dc dX10_fewest 17 rfl) rfl ?_
      refine pz_iload (pc' := 40) (x := l5) 5 rfl (pz_dc dX10_fewest 18 rfl) rfl ?_
      refine pz_iload_n (pc' := 41) (x := l3) 3 rfl (pz_dc dX10_fewest 19 rfl) rfl ?_
      refine pz_cVv (M := mX10_fewest) (N := mX10_goTouched) (d' := 84) (bc1 := 0) (bs1 := 0) (bc2 := bc) (bs2 := bs) (pc' := 44) [.int l5, .int l3] hb vX10_296 rfl (pz_dc dX10_fewest 20 rfl) rfl (Nat.le_of_ble_eq_true rfl) (Nat.le_of_ble_eq_true rfl) rfl (by omega) (by omega) (by omega) (fun h9 hb => ?_)
      refine pz_aload_n (pc' := 45) (x := l0) 0 rfl (pz_dc dX10_fewest 21 rfl) rfl ?_
      refine pz_aload_n (pc' := 46) (x := l0) 0 rfl (pz_dc dX10_fewest 22 rfl) rfl ?_
      refine pz_getR (M := mX10_fewest) hb fX10_48 (pc' := 49) rfl (pz_dc dX10_fewest 23 rfl) (fun a10 hb => ?_)
      refine pz_cVi (M := mX10_fewest) (N := mX10_dryOnes) (d' := 0) (bc1 := 0) (bs1 := 0) (bc2 := bc) (bs2 := bs) (pc' := 52) [.ref a10] hb vX10_300 rfl (pz_dc dX10_fewest 24 rfl) rfl (Nat.le_of_ble_eq_true rfl) (Nat.le_of_ble_eq_true rfl) rfl (by omega) (by omega) (by omega) (fun x12 h11 hb => ?_)
      refine pz_iload_n (pc' := 53) (x := l1) 1 rfl (pz_dc dX10_fewest 25 rfl) rfl ?_
      refine pz_iand (pc' := 54) rfl (pz_dc dX10_fewest 26 rfl) ?_
      refine pz_iload_n (pc' := 55) (x := l2) 2 rfl (pz_dc dX10_fewest 27 rfl) rfl ?_
      refine pz_icmp_ne (pc' := 58) (tgt := 62) rfl (pz_dc dX10_fewest 28 rfl) (by decide) (fun hc => ?_) (fun hc => ?_)
      · replace hb := hb.1 hc
        refine pz_iinc (pc' := 65) (x := l5) (v := l5 + (1 : Int32)) (lv' := [(5, .int (l5 + (1 : Int32))), (0, .ref l0), (1, .int l1), (2, .int l2), (3, .int l3), (4, .int l4)]) 5 rfl (pz_dc dX10_fewest 31 rfl) rfl rfl (by decide) rfl ?_
        refine pz_goto (pc' := 6) (pz_dc dX10_fewest 32 rfl) (by decide) ?_
        refine pz_lv (lv' := [(0, .ref l0), (1, .int l1), (2, .int l2), (3, .int l3), (4, .int l4), (5, .int (l5 + (1 : Int32)))]) [1, 2, 3, 4, 5, 0] rfl ?_
        exact hb
      · replace hb := hb.2 hc
        refine pz_iload (pc' := 60) (x := l5) 5 rfl (pz_dc dX10_fewest 29 rfl) rfl ?_
        refine pz_istore (pc' := 62) (lv' := [(4, .int l5), (0, .ref l0), (1, .int l1), (2, .int l2), (3, .int l3), (5, .int l5)]) rfl (pz_dc dX10_fewest 30 rfl) (by decide) rfl ?_
        refine pz_iinc (pc' := 65) (x := l5) (v := l5 + (1 : Int32)) (lv' := [(5, .int (l5 + (1 : Int32))), (4, .int l5), (0, .ref l0), (1, .int l1), (2, .int l2), (3, .int l3)]) 5 rfl (pz_dc dX10_fewest 31 rfl) rfl rfl (by decide) rfl ?_
        refine pz_goto (pc' := 6) (pz_dc dX10_fewest 32 rfl) (by decide) ?_
        refine pz_lv (lv' := [(0, .ref l0), (1, .int l1), (2, .int l2), (3, .int l3), (4, .int l5), (5, .int (l5 + (1 : Int32)))]) [2, 3, 4, 5, 1, 0] rfl ?_
        exact hb
    · replace hb := hb.2 hc
      refine pz_iload (pc' := 23) (x := l5) 5 rfl (pz_dc dX10_fewest 11 rfl) rfl ?_
      refine pz_cSi (M := mX10_fewest) (N := mJ6_bitCount_0f7a4) (d' := 0) (bc1 := 0) (bs1 := 0) (bc2 := bc) (bs2 := bs) (pc' := 26) [.int l5] hb sX10_206 rfl (pz_dc dX10_fewest 12 rfl) rfl (Nat.le_of_ble_eq_true rfl) (Nat.le_of_ble_eq_true rfl) rfl (by omega) (by omega) (by omega) (fun x14 h13 hb => ?_)
      refine pz_iload (pc' := 28) (x := l4) 4 rfl (pz_dc dX10_fewest 13 rfl) rfl ?_
      refine pz_cSi (M := mX10_fewest) (N := mJ6_bitCount_0f7a4) (d' := 0) (bc1 := 0) (bs1 := 0) (bc2 := bc) (bs2 := bs) (pc' := 31) [.int l4] hb sX10_206 rfl (pz_dc dX10_fewest 14 rfl) rfl (Nat.le_of_ble_eq_true rfl) (Nat.le_of_ble_eq_true rfl) rfl (by omega) (by omega) (by omega) (fun x16 h15 hb => ?_)
      refine pz_icmp_lt (pc' := 34) (tgt := 37) rfl (pz_dc dX10_fewest 15 rfl) (by decide) (fun hc => ?_) (fun hc => ?_)
      · replace hb := hb.1 hc
        refine pz_aload_n (pc' := 38) (x := l0) 0 rfl (pz_dc dX10_fewest 17 rfl) rfl ?_
        refine pz_iload (pc' := 40) (x := l5) 5 rfl (pz_dc dX10_fewest 18 rfl) rfl ?_
        refine pz_iload_n (pc' := 41) (x := l3) 3 rfl (pz_dc dX10_fewest 19 rfl) rfl ?_
        refine pz_cVv (M := mX10_fewest) (N := mX10_goTouched) (d' := 84) (bc1 := 0) (bs1 := 0) (bc2 := bc) (bs2 := bs) (pc' := 44) [.int l5, .int l3] hb vX10_296 rfl (pz_dc dX10_fewest 20 rfl) rfl (Nat.le_of_ble_eq_true rfl) (Nat.le_of_ble_eq_true rfl) rfl (by omega) (by omega) (by omega) (fun h17 hb => ?_)
        refine pz_aload_n (pc' := 45) (x := l0) 0 rfl (pz_dc dX10_fewest 21 rfl) rfl ?_
        refine pz_aload_n (pc' := 46) (x := l0) 0 rfl (pz_dc dX10_fewest 22 rfl) rfl ?_
        refine pz_getR (M := mX10_fewest) hb fX10_48 (pc' := 49) rfl (pz_dc dX10_fewest 23 rfl) (fun a18 hb => ?_)
        refine pz_cVi (M := mX10_fewest) (N := mX10_dryOnes) (d' := 0) (bc1 := 0) (bs1 := 0) (bc2 := bc) (bs2 := bs) (pc' := 52) [.ref a18] hb vX10_300 rfl (pz_dc dX10_fewest 24 rfl) rfl (Nat.le_of_ble_eq_true rfl) (Nat.le_of_ble_eq_true rfl) rfl (by omega) (by omega) (by omega) (fun x20 h19 hb => ?_)
        refine pz_iload_n (pc' := 53) (x := l1) 1 rfl (pz_dc dX10_fewest 25 rfl) rfl ?_
        refine pz_iand (pc' := 54) rfl (pz_dc dX10_fewest 26 rfl) ?_
        refine pz_iload_n (pc' := 55) (x := l2) 2 rfl (pz_dc dX10_fewest 27 rfl) rfl ?_
        refine pz_icmp_ne (pc' := 58) (tgt := 62) rfl (pz_dc dX10_fewest 28 rfl) (by decide) (fun hc => ?_) (fun hc => ?_)
        · replace hb := hb.1 hc
          refine pz_iinc (pc' := 65) (x := l5) (v := l5 + (1 : Int32)) (lv' := [(5, .int (l5 + (1 : Int32))), (0, .ref l0), (1, .int l1), (2, .int l2), (3, .int l3), (4, .int l4)]) 5 rfl (pz_dc dX10_fewest 31 rfl) rfl rfl (by decide) rfl ?_
          refine pz_goto (pc' := 6) (pz_dc dX10_fewest 32 rfl) (by decide) ?_
          refine pz_lv (lv' := [(0, .ref l0), (1, .int l1), (2, .int l2), (3, .int l3), (4, .int l4), (5, .int (l5 + (1 : Int32)))]) [1, 2, 3, 4, 5, 0] rfl ?_
          exact hb
        · replace hb := hb.2 hc
          refine pz_iload (pc' := 60) (x := l5) 5 rfl (pz_dc dX10_fewest 29 rfl) rfl ?_
          refine pz_istore (pc' := 62) (lv' := [(4, .int l5), (0, .ref l0), (1, .int l1), (2, .int l2), (3, .int l3), (5, .int l5)]) rfl (pz_dc dX10_fewest 30 rfl) (by decide) rfl ?_
          refine pz_iinc (pc' := 65) (x := l5) (v := l5 + (1 : Int32)) (lv' := [(5, .int (l5 + (1 : Int32))), (4, .int l5), (0, .ref l0), (1, .int l1), (2, .int l2), (3, .int l3)]) 5 rfl (pz_dc dX10_fewest 31 rfl) rfl rfl (by decide) rfl ?_
          refine pz_goto (pc' := 6) (pz_dc dX10_fewest 32 rfl) (by decide) ?_
          refine pz_lv (lv' := [(0, .ref l0), (1, .int l1), (2, .int l2), (3, .int l3), (4, .int l5), (5, .int (l5 + (1 : Int32)))]) [2, 3, 4, 5, 1, 0] rfl ?_
          exact hb
      · replace hb := hb.2 hc
        refine pz_goto (pc' := 62) (pz_dc dX10_fewest 16 rfl) (by decide) ?_
        refine pz_iinc (pc' := 65) (x := l5) (v := l5 + (1 : Int32)) (lv' := [(5, .int (l5 + (1 : Int32))), (0, .ref l0), (1, .int l1), (2, .int l2), (3, .int l3), (4, .int l4)]) 5 rfl (pz_dc dX10_fewest 31 rfl) rfl rfl (by decide) rfl ?_
        refine pz_goto (pc' := 6) (pz_dc dX10_fewest 32 rfl) (by decide) ?_
        refine pz_lv (lv' := [(0, .ref l0), (1, .int l1), (2, .int l2), (3, .int l3), (4, .int l4), (5, .int (l5 + (1 : Int32)))]) [1, 2, 3, 4, 5, 0] rfl ?_
        exact hb
set_option maxRecDepth 20000 in
set_option maxHeartbeats 4000000 in
theorem wX10_lets_0 {Ex : State → Nat → Prop} {Q : Option Value → pz_H → Prop} {d bc bs : Nat} {l0 : Nat} {l1 : Int32} {l2 : Int32}  {h : pz_H} (hD : 86 ≤ d) (hb : pz_pF h l0 10 9 (.int 0) (fun (h1 : pz_H) => pz_is h1 l0 10 ∧ (pz_gI h1 l0 10 1 (fun (x2 : Int32) => ((eX10_isLake l1 x2) = 0 → Q (some (.int ((-1)))) h1) ∧ (¬ (eX10_isLake l1 x2) = 0 → ((eX10_in l2 ((0 : Int32)) ((40 : Int32))) = 0 → Q (some (.int ((-1)))) h1) ∧ (¬ (eX10_in l2 ((0 : Int32)) ((40 : Int32))) = 0 → pz_is h1 l0 10 ∧ (pz_ki mX10_fewest 85 0 0 (.ref l0 :: [.int (((1 : Int32)) <<< (l1 &&& 31)), .int (((1 : Int32)) <<< (l1 &&& 31)), .int l2]) h1 (fun (x7 : Int32) (h6 : pz_H) => Q (some (.int x7)) h6)))))))) : pz_V mX10_lets Ex Q d bc bs 0 [(0, .ref l0), (1, .int l1), (2, .int l2)] [] h := by
  refine pz_aload_n (pc' := 1) (x := l0) 0 rfl (pz_dc dX10_lets 0 rfl) rfl ?_
  refine pz_iconst (pc' := 2) (v := 0) rfl (pz_dc dX10_lets 1 rfl) ki_0 ?_
  refine pz_putv (M := mX10_lets) hb (pX10_95 _ rfl) rfl rfl (pc' := 5) rfl (pz_dc dX10_lets 2 rfl) (fun h1 hb => ?_)
  refine pz_aload_n (pc' := 6) (x := l0) 0 rfl (pz_dc dX10_lets 3 rfl) rfl ?_
  refine pz_iload_n (pc' := 7) (x := l1) 1 rfl (pz_dc dX10_lets 4 rfl) rfl ?_
  obtain ⟨⟨fs8, hf9⟩, hb⟩ := hb
  obtain ⟨fs3, x2, g4, g5, hb⟩ := hb
  refine pz_callV (M := mX10_lets) (N := mX10_isLake) (d' := 1) (bc1 := 0) (bs1 := 0) (bc2 := bc) (bs2 := bs) (pc' := 10) [.int l1] vX10_108 rfl (pz_dc dX10_lets 5 rfl) rfl (Nat.le_of_ble_eq_true rfl) (Nat.le_of_ble_eq_true rfl) rfl (by omega) (by omega) (by omega) hf9 ?_
  refine cX10_isLake ⟨fs3, x2, g4, g5, ?_⟩
  show pz_V mX10_lets _ _ _ _ _ 10 [(0, .ref l0), (1, .int l1), (2, .int l2)] [.int (eX10_isLake l1 x2)] h1
  refine pz_if_eq (pc' := 13) (tgt := 37) rfl (pz_dc dX10_lets 6 rfl) (by decide) (fun hc => ?_) (fun hc => ?_)
  · replace hb := hb.1 hc
    refine pz_iconst (pc' := 38) (v := (-1)) rfl (pz_dc dX10_lets 22 rfl) ki_m1 ?_
    exact pz_iret (pz_dc dX10_lets 23 rfl) rfl hb
  · replace hb := hb.2 hc
    refine pz_iload_n (pc' := 14) (x := l2) 2 rfl (pz_dc dX10_lets 7 rfl) rfl ?_
    refine pz_iconst (pc' := 15) (v := 0) rfl (pz_dc dX10_lets 8 rfl) ki_0 ?_
    refine pz_bipush (pc' := 17) (v := 40) rfl (pz_dc dX10_lets 9 rfl) kb_40 ?_
    refine pz_callS (M := mX10_lets) (N := mX10_in) (d' := 0) (bc1 := 0) (bs1 := 0) (bc2 := bc) (bs2 := bs) (pc' := 20) [.int l2, .int 0, .int 40] sX10_104 rfl (pz_dc dX10_lets 10 rfl) rfl (Nat.le_of_ble_eq_true rfl) (Nat.le_of_ble_eq_true rfl) rfl (by omega) (by omega) (by omega) ?_
    refine cX10_in ?_
    show pz_V mX10_lets _ _ _ _ _ 20 [(0, .ref l0), (1, .int l1), (2, .int l2)] [.int (eX10_in l2 ((0 : Int32)) ((40 : Int32)))] h1
    refine pz_if_eq (pc' := 23) (tgt := 37) rfl (pz_dc dX10_lets 11 rfl) (by decide) (fun hc => ?_) (fun hc => ?_)
    · replace hb := hb.1 hc
      refine pz_iconst (pc' := 38) (v := (-1)) rfl (pz_dc dX10_lets 22 rfl) ki_m1 ?_
      exact pz_iret (pz_dc dX10_lets 23 rfl) rfl hb
    · replace hb := hb.2 hc
      refine pz_aload_n (pc' := 24) (x := l0) 0 rfl (pz_dc dX10_lets 12 rfl) rfl ?_
      refine pz_iconst (pc' := 25) (v := 1) rfl (pz_dc dX10_lets 13 rfl) ki_1 ?_
      refine pz_iload_n (pc' := 26) (x := l1) 1 rfl (pz_dc dX10_lets 14 rfl) rfl ?_
      refine pz_ishl (pc' := 27) rfl (pz_dc dX10_lets 15 rfl) ?_
      refine pz_iconst (pc' := 28) (v := 1) rfl (pz_dc dX10_lets 16 rfl) ki_1 ?_
      refine pz_iload_n (pc' := 29) (x := l1) 1 rfl (pz_dc dX10_lets 17 rfl) rfl ?_
      refine pz_ishl (pc' := 30) rfl (pz_dc dX10_lets 18 rfl) ?_
      refine pz_iload_n (pc' := 31) (x := l2) 2 rfl (pz_dc dX10_lets 19 rfl) rfl ?_
      refine pz_cVi (M := mX10_lets) (N := mX10_fewest) (d' := 85) (bc1 := 0) (bs1 := 0) (bc2 := bc) (bs2 := bs) (pc' := 34) [.int (((1 : Int32)) <<< (l1 &&& 31)), .int (((1 : Int32)) <<< (l1 &&& 31)), .int l2] hb vX10_303 rfl (pz_dc dX10_lets 20 rfl) rfl (Nat.le_of_ble_eq_true rfl) (Nat.le_of_ble_eq_true rfl) rfl (by omega) (by omega) (by omega) (fun x7 h6 hb => ?_)
      refine pz_goto (pc' := 38) (pz_dc dX10_lets 21 rfl) (by decide) ?_
      exact pz_iret (pz_dc dX10_lets 23 rfl) rfl hb
set_option maxRecDepth 20000 in
set_option maxHeartbeats 4000000 in
theorem wX10_just_0 {Ex : State → Nat → Prop} {Q : Option Value → pz_H → Prop} {d bc bs : Nat} {l0 : Nat} {l1 : Int32} {l2 : Int32}  {h : pz_H} (hD : 86 ≤ d) (hb : pz_pF h l0 10 9 (.int 0) (fun (h1 : pz_H) => pz_is h1 l0 10 ∧ (pz_gI h1 l0 10 1 (fun (x2 : Int32) => ((eX10_in l1 ((0 : Int32)) (eX10_all x2)) = 0 → Q (some (.int ((-1)))) h1) ∧ (¬ (eX10_in l1 ((0 : Int32)) (eX10_all x2)) = 0 → ((eX10_in l2 ((0 : Int32)) ((40 : Int32))) = 0 → Q (some (.int ((-1)))) h1) ∧ (¬ (eX10_in l2 ((0 : Int32)) ((40 : Int32))) = 0 → pz_is h1 l0 10 ∧ (pz_gI h1 l0 10 1 (fun (x6 : Int32) => pz_is h1 l0 10 ∧ (pz_ki mX10_fewest 85 0 0 (.ref l0 :: [.int (eX10_all x6), .int l1, .int l2]) h1 (fun (x11 : Int32) (h10 : pz_H) => Q (some (.int x11)) h10)))))))))) : pz_V mX10_just Ex Q d bc bs 0 [(0, .ref l0), (1, .int l1), (2, .int l2)] [] h := by
  refine pz_aload_n (pc' := 1) (x := l0) 0 rfl (pz_dc dX10_just 0 rfl) rfl ?_
  refine pz_iconst (pc' := 2) (v := 0) rfl (pz_dc dX10_just 1 rfl) ki_0 ?_
  refine pz_putv (M := mX10_just) hb (pX10_95 _ rfl) rfl rfl (pc' := 5) rfl (pz_dc dX10_just 2 rfl) (fun h1 hb => ?_)
  refine pz_iload_n (pc' := 6) (x := l1) 1 rfl (pz_dc dX10_just 3 rfl) rfl ?_
  refine pz_iconst (pc' := 7) (v := 0) rfl (pz_dc dX10_just 4 rfl) ki_0 ?_
  refine pz_aload_n (pc' := 8) (x := l0) 0 rfl (pz_dc dX10_just 5 rfl) rfl ?_
  obtain ⟨⟨fs14, hf15⟩, hb⟩ := hb
  obtain ⟨fs3, x2, g4, g5, hb⟩ := hb
  refine pz_callV (M := mX10_just) (N := mX10_all) (d' := 0) (bc1 := 0) (bs1 := 0) (bc2 := bc) (bs2 := bs) (pc' := 11) [] vX10_293 rfl (pz_dc dX10_just 6 rfl) rfl (Nat.le_of_ble_eq_true rfl) (Nat.le_of_ble_eq_true rfl) rfl (by omega) (by omega) (by omega) hf15 ?_
  refine cX10_all ⟨fs3, x2, g4, g5, ?_⟩
  show pz_V mX10_just _ _ _ _ _ 11 [(0, .ref l0), (1, .int l1), (2, .int l2)] [.int (eX10_all x2), .int 0, .int l1] h1
  refine pz_callS (M := mX10_just) (N := mX10_in) (d' := 0) (bc1 := 0) (bs1 := 0) (bc2 := bc) (bs2 := bs) (pc' := 14) [.int l1, .int 0, .int (eX10_all x2)] sX10_104 rfl (pz_dc dX10_just 7 rfl) rfl (Nat.le_of_ble_eq_true rfl) (Nat.le_of_ble_eq_true rfl) rfl (by omega) (by omega) (by omega) ?_
  refine cX10_in ?_
  show pz_V mX10_just _ _ _ _ _ 14 [(0, .ref l0), (1, .int l1), (2, .int l2)] [.int (eX10_in l1 ((0 : Int32)) (eX10_all x2))] h1
  refine pz_if_eq (pc' := 17) (tgt := 40) rfl (pz_dc dX10_just 8 rfl) (by decide) (fun hc => ?_) (fun hc => ?_)
  · replace hb := hb.1 hc
    refine pz_iconst (pc' := 41) (v := (-1)) rfl (pz_dc dX10_just 21 rfl) ki_m1 ?_
    exact pz_iret (pz_dc dX10_just 22 rfl) rfl hb
  · replace hb := hb.2 hc
    refine pz_iload_n (pc' := 18) (x := l2) 2 rfl (pz_dc dX10_just 9 rfl) rfl ?_
    refine pz_iconst (pc' := 19) (v := 0) rfl (pz_dc dX10_just 10 rfl) ki_0 ?_
    refine pz_bipush (pc' := 21) (v := 40) rfl (pz_dc dX10_just 11 rfl) kb_40 ?_
    refine pz_callS (M := mX10_just) (N := mX10_in) (d' := 0) (bc1 := 0) (bs1 := 0) (bc2 := bc) (bs2 := bs) (pc' := 24) [.int l2, .int 0, .int 40] sX10_104 rfl (pz_dc dX10_just 12 rfl) rfl (Nat.le_of_ble_eq_true rfl) (Nat.le_of_ble_eq_true rfl) rfl (by omega) (by omega) (by omega) ?_
    refine cX10_in ?_
    show pz_V mX10_just _ _ _ _ _ 24 [(0, .ref l0), (1, .int l1), (2, .int l2)] [.int (eX10_in l2 ((0 : Int32)) ((40 : Int32)))] h1
    refine pz_if_eq (pc' := 27) (tgt := 40) rfl (pz_dc dX10_just 13 rfl) (by decide) (fun hc => ?_) (fun hc => ?_)
    · replace hb := hb.1 hc
      refine pz_iconst (pc' := 41) (v := (-1)) rfl (pz_dc dX10_just 21 rfl) ki_m1 ?_
      exact pz_iret (pz_dc dX10_just 22 rfl) rfl hb
    · replace hb := hb.2 hc
      refine pz_aload_n (pc' := 28) (x := l0) 0 rfl (pz_dc dX10_just 14 rfl) rfl ?_
      refine pz_aload_n (pc' := 29) (x := l0) 0 rfl (pz_dc dX10_just 15 rfl) rfl ?_
      obtain ⟨⟨fs12, hf13⟩, hb⟩ := hb
      obtain ⟨fs7, x6, g8, g9, hb⟩ := hb
      refine pz_callV (M := mX10_just) (N := mX10_all) (d' := 0) (bc1 := 0) (bs1 := 0) (bc2 := bc) (bs2 := bs) (pc' := 32) [] vX10_293 rfl (pz_dc dX10_just 16 rfl) rfl (Nat.le_of_ble_eq_true rfl) (Nat.le_of_ble_eq_true rfl) rfl (by omega) (by omega) (by omega) hf13 ?_
      refine cX10_all ⟨fs7, x6, g8, g9, ?_⟩
      show pz_V mX10_just _ _ _ _ _ 32 [(0, .ref l0), (1, .int l1), (2, .int l2)] [.int (eX10_all x6), .ref l0] h1
      refine pz_iload_n (pc' := 33) (x := l1) 1 rfl (pz_dc dX10_just 17 rfl) rfl ?_
      refine pz_iload_n (pc' := 34) (x := l2) 2 rfl (pz_dc dX10_just 18 rfl) rfl ?_
      refine pz_cVi (M := mX10_just) (N := mX10_fewest) (d' := 85) (bc1 := 0) (bs1 := 0) (bc2 := bc) (bs2 := bs) (pc' := 37) [.int (eX10_all x6), .int l1, .int l2] hb vX10_303 rfl (pz_dc dX10_just 19 rfl) rfl (Nat.le_of_ble_eq_true rfl) (Nat.le_of_ble_eq_true rfl) rfl (by omega) (by omega) (by omega) (fun x11 h10 hb => ?_)
      refine pz_goto (pc' := 41) (pz_dc dX10_just 20 rfl) (by decide) ?_
      exact pz_iret (pz_dc dX10_just 22 rfl) rfl hb
set_option maxRecDepth 20000 in
set_option maxHeartbeats 4000000 in
theorem wX10_fills_0 {Ex : State → Nat → Prop} {Q : Option Value → pz_H → Prop} {d bc bs : Nat} {l0 : Nat} {l1 : Int32} {l2 : Int32}  {h : pz_H} (hD : 85 ≤ d) (hb : pz_pF h l0 10 9 (.int 0) (fun (h1 : pz_H) => ((eX10_in l1 ((0 : Int32)) ((6 : Int32))) = 0 → Q (some (.int ((-1)))) h1) ∧ (¬ (eX10_in l1 ((0 : Int32)) ((6 : Int32))) = 0 → (¬ (eX10_in l2 ((0 : Int32)) ((40 : Int32))) = 0 → pz_V mX10_fills Ex Q d bc bs 35 [(0, .ref l0), (1, .int l1), (2, .int l2), (3, .int ((-1))), (4, .int ((-1))), (5, .int 0)] [] h1) ∧ ((eX10_in l2 ((0 : Int32)) ((40 : Int32))) = 0 → Q (some (.int ((-1)))) h1)))) : pz_V mX10_fills Ex Q d bc bs 0 [(0, .ref l0), (1, .int l1), (2, .int l2)] [] h := by
  refine pz_aload_n (pc' := 1) (x := l0) 0 rfl (pz_dc dX10_fills 0 rfl) rfl ?_
  refine pz_iconst (pc' := 2) (v := 0) rfl (pz_dc dX10_fills 1 rfl) ki_0 ?_
  refine pz_putv (M := mX10_fills) hb (pX10_95 _ rfl) rfl rfl (pc' := 5) rfl (pz_dc dX10_fills 2 rfl) (fun h1 hb => ?_)
  refine pz_iload_n (pc' := 6) (x := l1) 1 rfl (pz_dc dX10_fills 3 rfl) rfl ?_
  refine pz_iconst (pc' := 7) (v := 0) rfl (pz_dc dX10_fills 4 rfl) ki_0 ?_
  refine pz_bipush (pc' := 9) (v := 6) rfl (pz_dc dX10_fills 5 rfl) kb_6 ?_
  refine pz_callS (M := mX10_fills) (N := mX10_in) (d' := 0) (bc1 := 0) (bs1 := 0) (bc2 := bc) (bs2 := bs) (pc' := 12) [.int l1, .int 0, .int 6] sX10_104 rfl (pz_dc dX10_fills 6 rfl) rfl (Nat.le_of_ble_eq_true rfl) (Nat.le_of_ble_eq_true rfl) rfl (by omega) (by omega) (by omega) ?_
  refine cX10_in ?_
  show pz_V mX10_fills _ _ _ _ _ 12 [(0, .ref l0), (1, .int l1), (2, .int l2)] [.int (eX10_in l1 ((0 : Int32)) ((6 : Int32)))] h1
  refine pz_if_eq (pc' := 15) (tgt := 25) rfl (pz_dc dX10_fills 7 rfl) (by decide) (fun hc => ?_) (fun hc => ?_)
  · replace hb := hb.1 hc
    refine pz_iconst (pc' := 26) (v := (-1)) rfl (pz_dc dX10_fills 13 rfl) ki_m1 ?_
    exact pz_iret (pz_dc dX10_fills 14 rfl) rfl hb
  · replace hb := hb.2 hc
    refine pz_iload_n (pc' := 16) (x := l2) 2 rfl (pz_dc dX10_fills 8 rfl) rfl ?_
    refine pz_iconst (pc' := 17) (v := 0) rfl (pz_dc dX10_fills 9 rfl) ki_0 ?_
    refine pz_bipush (pc' := 19) (v := 40) rfl (pz_dc dX10_fills 10 rfl) kb_40 ?_
    refine pz_callS (M := mX10_fills) (N := mX10_in) (d' := 0) (bc1 := 0) (bs1 := 0) (bc2 := bc) (bs2 := bs) (pc' := 22) [.int l2, .int 0, .int 40] sX10_104 rfl (pz_dc dX10_fills 11 rfl) rfl (Nat.le_of_ble_eq_true rfl) (Nat.le_of_ble_eq_true rfl) rfl (by omega) (by omega) (by omega) ?_
    refine cX10_in ?_
    show pz_V mX10_fills _ _ _ _ _ 22 [(0, .ref l0), (1, .int l1), (2, .int l2)] [.int (eX10_in l2 ((0 : Int32)) ((40 : Int32)))] h1
    refine pz_if_ne (pc' := 25) (tgt := 27) rfl (pz_dc dX10_fills 12 rfl) (by decide) (fun hc => ?_) (fun hc => ?_)
    · replace hb := hb.1 hc
      refine pz_iconst (pc' := 28) (v := (-1)) rfl (pz_dc dX10_fills 15 rfl) ki_m1 ?_
      refine pz_istore_n (pc' := 29) (lv' := [(3, .int ((-1))), (0, .ref l0), (1, .int l1), (2, .int l2)]) rfl (pz_dc dX10_fills 16 rfl) (by decide) rfl ?_
      refine pz_iconst (pc' := 30) (v := (-1)) rfl (pz_dc dX10_fills 17 rfl) ki_m1 ?_
      refine pz_istore (pc' := 32) (lv' := [(4, .int ((-1))), (3, .int ((-1))), (0, .ref l0), (1, .int l1), (2, .int l2)]) rfl (pz_dc dX10_fills 18 rfl) (by decide) rfl ?_
      refine pz_iconst (pc' := 33) (v := 0) rfl (pz_dc dX10_fills 19 rfl) ki_0 ?_
      refine pz_istore (pc' := 35) (lv' := [(5, .int 0), (4, .int ((-1))), (3, .int ((-1))), (0, .ref l0), (1, .int l1), (2, .int l2)]) rfl (pz_dc dX10_fills 20 rfl) (by decide) rfl ?_
      refine pz_lv (lv' := [(0, .ref l0), (1, .int l1), (2, .int l2), (3, .int ((-1))), (4, .int ((-1))), (5, .int 0)]) [3, 4, 5, 2, 1, 0] rfl ?_
      exact hb
    · replace hb := hb.2 hc
      refine pz_iconst (pc' := 26) (v := (-1)) rfl (pz_dc dX10_fills 13 rfl) ki_m1 ?_
      exact pz_iret (pz_dc dX10_fills 14 rfl) rfl hb
set_option maxRecDepth 20000 in
set_option maxHeartbeats 4000000 in
theorem wX10_fills_35 {Ex : State → Nat → Prop} {Q : Option Value → pz_H → Prop} {d bc bs : Nat} {l0 : Nat} {l1 : Int32} {l2 : Int32} {l3 : Int32} {l4 : Int32} {l5 : Int32}  {h : pz_H} (hD : 85 ≤ d) (hb : pz_is h l0 10 ∧ (pz_gI h l0 10 1 (fun (x1 : Int32) => ((eX10_all x1) < l5 → (¬ l3 = ((-1 : Int32)) → pz_pF h l0 10 8 (.int 0) (fun (h5 : pz_H) => pz_is h5 l0 10 ∧ (pz_kv mX10_tell 0 0 0 (.ref l0 :: [.long l3.toInt64]) h5 (fun (h6 : pz_H) => Q (some (.int l4)) h6)))) ∧ (l3 = ((-1 : Int32)) → Q (some (.int ((-2)))) h)) ∧ (¬ (eX10_all x1) < l5 → pz_ki mJ6_bitCount_0f7a4 0 0 0 ([.int l5]) h (fun (x8 : Int32) (h7 : pz_H) => (x8 = l1 → pz_gR h7 l0 10 0 (fun (a9 : Nat) => pz_is h7 l0 10 ∧ (pz_ki mX10_outOnes 0 0 0 (.ref l0 :: [.ref a9]) h7 (fun (x11 : Int32) (h10 : pz_H) => pz_is h10 l0 10 ∧ (pz_kv mX10_goTouched 84 0 0 (.ref l0 :: [.int (l5 ^^^ x11), .int l2]) h10 (fun (h12 : pz_H) => pz_gR h12 l0 10 24 (fun (a13 : Nat) => pz_is h12 l0 10 ∧ (pz_ki mX10_sumOf 0 0 0 (.ref l0 :: [.ref a13, .int 0]) h12 (fun (x15 : Int32) (h14 : pz_H) => (l4 < x15 → pz_gR h14 l0 10 24 (fun (a16 : Nat) => pz_is h14 l0 10 ∧ (pz_ki mX10_sumOf 0 0 0 (.ref l0 :: [.ref a16, .int 0]) h14 (fun (x18 : Int32) (h17 : pz_H) => pz_V mX10_fills Ex Q d bc bs 35 [(0, .ref l0), (1, .int l1), (2, .int l2), (3, .int l5), (4, .int x18), (5, .int (l5 + (1 : Int32)))] [] h17)))) ∧ (¬ l4 < x15 → pz_V mX10_fills Ex Q d bc bs 35 [(0, .ref l0), (1, .int l1), (2, .int l2), (3, .int l3), (4, .int l4), (5, .int (l5 + (1 : Int32)))] [] h14)))))))))) ∧ (¬ x8 = l1 → pz_V mX10_fills Ex Q d bc bs 35 [(0, .ref l0), (1, .int l1), (2, .int l2), (3, .int l3), (4, .int l4), (5, .int (l5 + (1 : Int32)))] [] h7)))))) : pz_V mX10_fills Ex Q d bc bs 35 [(0, .ref l0), (1, .int l1), (2, .int l2), (3, .int l3), (4, .int l4), (5, .int l5)] [] h := by
  refine pz_iload (pc' := 37) (x := l5) 5 rfl (pz_dc dX10_fills 21 rfl) rfl ?_
  refine pz_aload_n (pc' := 38) (x := l0) 0 rfl (pz_dc dX10_fills 22 rfl) rfl ?_
  obtain ⟨⟨fs19, hf20⟩, hb⟩ := hb
  obtain ⟨fs2, x1, g3, g4, hb⟩ := hb
  refine pz_callV (M := mX10_fills) (N := mX10_all) (d' := 0) (bc1 := 0) (bs1 := 0) (bc2 := bc) (bs2 := bs) (pc' := 41) [] vX10_293 rfl (pz_dc dX10_fills 23 rfl) rfl (Nat.le_of_ble_eq_true rfl) (Nat.le_of_ble_eq_true rfl) rfl (by omega) (by omega) (by omega) hf20 ?_
  refine cX10_all ⟨fs2, x1, g3, g4, ?_⟩
  show pz_V mX10_fills _ _ _ _ _ 41 [(0, .ref l0), (1, .int l1), (2, .int l2), (3, .int l3), (4, .int l4), (5, .int l5)] [.int (eX10_all x1), .int l5] h
  refine pz_icmp_gt (pc' := 44) (tgt := 109) rfl (pz_dc dX10_fills 24 rfl) (by decide) (fun hc => ?_) (fun hc => ?_)
  · replace hb := hb.1 hc
    refine pz_iload_n (pc' := 110) (x := l3) 3 rfl (pz_dc dX10_fills 57 rfl) rfl ?_
    refine pz_iconst (pc' := 111) (v := (-1)) rfl (pz_dc dX10_fills 58 rfl) ki_m1 ?_
    refine pz_icmp_ne (pc' := 114) (tgt := 117) rfl (pz_dc dX10_fills 59 rfl) (by decide) (fun hc => ?_) (fun hc => ?_)
    · replace hb := hb.1 hc
      refine pz_aload_n (pc' := 118) (x := l0) 0 rfl (pz_dc dX10_fills 62 rfl) rfl ?_
      refine pz_iconst (pc' := 119) (v := 0) rfl (pz_dc dX10_fills 63 rfl) ki_0 ?_
      refine pz_putv (M := mX10_fills) hb (pX10_98 _ rfl) rfl rfl (pc' := 122) rfl (pz_dc dX10_fills 64 rfl) (fun h5 hb => ?_)
      refine pz_aload_n (pc' := 123) (x := l0) 0 rfl (pz_dc dX10_fills 65 rfl) rfl ?_
      refine pz_iload_n (pc' := 124) (x := l3) 3 rfl (pz_dc dX10_fills 66 rfl) rfl ?_
      refine pz_i2l (pc' := 125) rfl (pz_dc dX10_fills 67 rfl) ?_
      refine pz_cVv (M := mX10_fills) (N := mX10_tell) (d' := 0) (bc1 := 0) (bs1 := 0) (bc2 := bc) (bs2 := bs) (pc' := 128) [.long l3.toInt64] hb vX10_248 rfl (pz_dc dX10_fills 68 rfl) rfl (Nat.le_of_ble_eq_true rfl) (Nat.le_of_ble_eq_true rfl) rfl (by omega) (by omega) (by omega) (fun h6 hb => ?_)
      refine pz_iload (pc' := 130) (x := l4) 4 rfl (pz_dc dX10_fills 69 rfl) rfl ?_
      exact pz_iret (pz_dc dX10_fills 70 rfl) rfl hb
    · replace hb := hb.2 hc
      refine pz_bipush (pc' := 116) (v := (-2)) rfl (pz_dc dX10_fills 60 rfl) kb_m2 ?_
      exact pz_iret (pz_dc dX10_fills 61 rfl) rfl hb
  · replace hb := hb.2 hc
    refine pz_iload (pc' := 46) (x := l5) 5 rfl (pz_dc dX10_fills 25 rfl) rfl ?_
    refine pz_cSi (M := mX10_fills) (N := mJ6_bitCount_0f7a4) (d' := 0) (bc1 := 0) (bs1 := 0) (bc2 := bc) (bs2 := bs) (pc' := 49) [.int l5] hb sX10_206 rfl (pz_dc dX10_fills 26 rfl) rfl (Nat.le_of_ble_eq_true rfl) (Nat.le_of_ble_eq_true rfl) rfl (by omega) (by omega) (by omega) (fun x8 h7 hb => ?_)
    refine pz_iload_n (pc' := 50) (x := l1) 1 rfl (pz_dc dX10_fills 27 rfl) rfl ?_
    refine pz_icmp_eq (pc' := 53) (tgt := 56) rfl (pz_dc dX10_fills 28 rfl) (by decide) (fun hc => ?_) (fun hc => ?_)
    · replace hb := hb.1 hc
      refine pz_aload_n (pc' := 57) (x := l0) 0 rfl (pz_dc dX10_fills 30 rfl) rfl ?_
      refine pz_iload (pc' := 59) (x := l5) 5 rfl (pz_dc dX10_fills 31 rfl) rfl ?_
      refine pz_aload_n (pc' := 60) (x := l0) 0 rfl (pz_dc dX10_fills 32 rfl) rfl ?_
      refine pz_aload_n (pc' := 61) (x := l0) 0 rfl (pz_dc dX10_fills 33 rfl) rfl ?_
      refine pz_getR (M := mX10_fills) hb fX10_9 (pc' := 64) rfl (pz_dc dX10_fills 34 rfl) (fun a9 hb => ?_)
      refine pz_cVi (M := mX10_fills) (N := mX10_outOnes) (d' := 0) (bc1 := 0) (bs1 := 0) (bc2 := bc) (bs2 := bs) (pc' := 67) [.ref a9] hb vX10_202 rfl (pz_dc dX10_fills 35 rfl) rfl (Nat.le_of_ble_eq_true rfl) (Nat.le_of_ble_eq_true rfl) rfl (by omega) (by omega) (by omega) (fun x11 h10 hb => ?_)
      refine pz_ixor (pc' := 68) rfl (pz_dc dX10_fills 36 rfl) ?_
      refine pz_iload_n (pc' := 69) (x := l2) 2 rfl (pz_dc dX10_fills 37 rfl) rfl ?_
      refine pz_cVv (M := mX10_fills) (N := mX10_goTouched) (d' := 84) (bc1 := 0) (bs1 := 0) (bc2 := bc) (bs2 := bs) (pc' := 72) [.int (l5 ^^^ x11), .int l2] hb vX10_296 rfl (pz_dc dX10_fills 38 rfl) rfl (Nat.le_of_ble_eq_true rfl) (Nat.le_of_ble_eq_true rfl) rfl (by omega) (by omega) (by omega) (fun h12 hb => ?_)
      refine pz_aload_n (pc' := 73) (x := l0) 0 rfl (pz_dc dX10_fills 39 rfl) rfl ?_
      refine pz_aload_n (pc' := 74) (x := l0) 0 rfl (pz_dc dX10_fills 40 rfl) rfl ?_
      refine pz_getR (M := mX10_fills) hb fX10_48 (pc' := 77) rfl (pz_dc dX10_fills 41 rfl) (fun a13 hb => ?_)
      refine pz_iconst (pc' := 78) (v := 0) rfl (pz_dc dX10_fills 42 rfl) ki_0 ?_
      refine pz_cVi (M := mX10_fills) (N := mX10_sumOf) (d' := 0) (bc1 := 0) (bs1 := 0) (bc2 := bc) (bs2 := bs) (pc' := 81) [.ref a13, .int 0] hb vX10_227 rfl (pz_dc dX10_fills 43 rfl) rfl (Nat.le_of_ble_eq_true rfl) (Nat.le_of_ble_eq_true rfl) rfl (by omega) (by omega) (by omega) (fun x15 h14 hb => ?_)
      refine pz_iload (pc' := 83) (x := l4) 4 rfl (pz_dc dX10_fills 44 rfl) rfl ?_
      refine pz_icmp_gt (pc' := 86) (tgt := 89) rfl (pz_dc dX10_fills 45 rfl) (by decide) (fun hc => ?_) (fun hc => ?_)
      · replace hb := hb.1 hc
        refine pz_iload (pc' := 91) (x := l5) 5 rfl (pz_dc dX10_fills 47 rfl) rfl ?_
        refine pz_istore_n (pc' := 92) (lv' := [(3, .int l5), (0, .ref l0), (1, .int l1), (2, .int l2), (4, .int l4), (5, .int l5)]) rfl (pz_dc dX10_fills 48 rfl) (by decide) rfl ?_
        refine pz_aload_n (pc' := 93) (x := l0) 1 rfl (pz_dc dX10_fills 49 rfl) rfl ?_
        refine pz_aload_n (pc' := 94) (x := l0) 1 rfl (pz_dc dX10_fills 50 rfl) rfl ?_
        refine pz_getR (M := mX10_fills) hb fX10_48 (pc' := 97) rfl (pz_dc dX10_fills 51 rfl) (fun a16 hb => ?_)
        refine pz_iconst (pc' := 98) (v := 0) rfl (pz_dc dX10_fills 52 rfl) ki_0 ?_
        refine pz_cVi (M := mX10_fills) (N := mX10_sumOf) (d' := 0) (bc1 := 0) (bs1 := 0) (bc2 := bc) (bs2 := bs) (pc' := 101) [.ref a16, .int 0] hb vX10_227 rfl (pz_dc dX10_fills 53 rfl) rfl (Nat.le_of_ble_eq_true rfl) (Nat.le_of_ble_eq_true rfl) rfl (by omega) (by omega) (by omega) (fun x18 h17 hb => ?_)
        refine pz_istore (pc' := 103) (lv' := [(4, .int x18), (3, .int l5), (0, .ref l0), (1, .int l1), (2, .int l2), (5, .int l5)]) rfl (pz_dc dX10_fills 54 rfl) (by decide) rfl ?_
        refine pz_iinc (pc' := 106) (x := l5) (v := l5 + (1 : Int32)) (lv' := [(5, .int (l5 + (1 : Int32))), (4, .int x18), (3, .int l5), (0, .ref l0), (1, .int l1), (2, .int l2)]) 5 rfl (pz_dc dX10_fills 55 rfl) rfl rfl (by decide) rfl ?_
        refine pz_goto (pc' := 35) (pz_dc dX10_fills 56 rfl) (by decide) ?_
        refine pz_lv (lv' := [(0, .ref l0), (1, .int l1), (2, .int l2), (3, .int l5), (4, .int x18), (5, .int (l5 + (1 : Int32)))]) [3, 4, 5, 2, 1, 0] rfl ?_
        exact hb
      · replace hb := hb.2 hc
        refine pz_goto (pc' := 103) (pz_dc dX10_fills 46 rfl) (by decide) ?_
        refine pz_iinc (pc' := 106) (x := l5) (v := l5 + (1 : Int32)) (lv' := [(5, .int (l5 + (1 : Int32))), (0, .ref l0), (1, .int l1), (2, .int l2), (3, .int l3), (4, .int l4)]) 5 rfl (pz_dc dX10_fills 55 rfl) rfl rfl (by decide) rfl ?_
        refine pz_goto (pc' := 35) (pz_dc dX10_fills 56 rfl) (by decide) ?_
        refine pz_lv (lv' := [(0, .ref l0), (1, .int l1), (2, .int l2), (3, .int l3), (4, .int l4), (5, .int (l5 + (1 : Int32)))]) [1, 2, 3, 4, 5, 0] rfl ?_
        exact hb
    · replace hb := hb.2 hc
      refine pz_goto (pc' := 103) (pz_dc dX10_fills 29 rfl) (by decide) ?_
      refine pz_iinc (pc' := 106) (x := l5) (v := l5 + (1 : Int32)) (lv' := [(5, .int (l5 + (1 : Int32))), (0, .ref l0), (1, .int l1), (2, .int l2), (3, .int l3), (4, .int l4)]) 5 rfl (pz_dc dX10_fills 55 rfl) rfl rfl (by decide) rfl ?_
      refine pz_goto (pc' := 35) (pz_dc dX10_fills 56 rfl) (by decide) ?_
      refine pz_lv (lv' := [(0, .ref l0), (1, .int l1), (2, .int l2), (3, .int l3), (4, .int l4), (5, .int (l5 + (1 : Int32)))]) [1, 2, 3, 4, 5, 0] rfl ?_
      exact hb
set_option maxRecDepth 20000 in
set_option maxHeartbeats 4000000 in
theorem wX10_needs_0 {Ex : State → Nat → Prop} {Q : Option Value → pz_H → Prop} {d bc bs : Nat} {l0 : Nat} {l1 : Int32} {l2 : Int32} {l3 : Int32}  {h : pz_H} (hD : 84 ≤ d) (hb : pz_pF h l0 10 9 (.int 0) (fun (h1 : pz_H) => pz_is h1 l0 10 ∧ (pz_gI h1 l0 10 1 (fun (x2 : Int32) => ((eX10_isLake l1 x2) = 0 → Q (some (.int ((-1)))) h1) ∧ (¬ (eX10_isLake l1 x2) = 0 → ((eX10_in l2 ((0 : Int32)) ((99 : Int32))) = 0 → Q (some (.int ((-1)))) h1) ∧ (¬ (eX10_in l2 ((0 : Int32)) ((99 : Int32))) = 0 → (¬ (eX10_in l3 ((0 : Int32)) ((60 : Int32))) = 0 → pz_V mX10_needs Ex Q d bc bs 38 [(0, .ref l0), (1, .int l1), (2, .int l2), (3, .int l3), (4, .int 0)] [] h1) ∧ ((eX10_in l3 ((0 : Int32)) ((60 : Int32))) = 0 → Q (some (.int ((-1)))) h1))))))) : pz_V mX10_needs Ex Q d bc bs 0 [(0, .ref l0), (1, .int l1), (2, .int l2), (3, .int l3)] [] h := by
  refine pz_aload_n (pc' := 1) (x := l0) 0 rfl (pz_dc dX10_needs 0 rfl) rfl ?_
  refine pz_iconst (pc' := 2) (v := 0) rfl (pz_dc dX10_needs 1 rfl) ki_0 ?_
  refine pz_putv (M := mX10_needs) hb (pX10_95 _ rfl) rfl rfl (pc' := 5) rfl (pz_dc dX10_needs 2 rfl) (fun h1 hb => ?_)
  refine pz_aload_n (pc' := 6) (x := l0) 0 rfl (pz_dc dX10_needs 3 rfl) rfl ?_
  refine pz_iload_n (pc' := 7) (x := l1) 1 rfl (pz_dc dX10_needs 4 rfl) rfl ?_
  obtain ⟨⟨fs6, hf7⟩, hb⟩ := hb
  obtain ⟨fs3, x2, g4, g5, hb⟩ := hb
  refine pz_callV (M := mX10_needs) (N := mX10_isLake) (d' := 1) (bc1 := 0) (bs1 := 0) (bc2 := bc) (bs2 := bs) (pc' := 10) [.int l1] vX10_108 rfl (pz_dc dX10_needs 5 rfl) rfl (Nat.le_of_ble_eq_true rfl) (Nat.le_of_ble_eq_true rfl) rfl (by omega) (by omega) (by omega) hf7 ?_
  refine cX10_isLake ⟨fs3, x2, g4, g5, ?_⟩
  show pz_V mX10_needs _ _ _ _ _ 10 [(0, .ref l0), (1, .int l1), (2, .int l2), (3, .int l3)] [.int (eX10_isLake l1 x2)] h1
  refine pz_if_eq (pc' := 13) (tgt := 33) rfl (pz_dc dX10_needs 6 rfl) (by decide) (fun hc => ?_) (fun hc => ?_)
  · replace hb := hb.1 hc
    refine pz_iconst (pc' := 34) (v := (-1)) rfl (pz_dc dX10_needs 17 rfl) ki_m1 ?_
    exact pz_iret (pz_dc dX10_needs 18 rfl) rfl hb
  · replace hb := hb.2 hc
    refine pz_iload_n (pc' := 14) (x := l2) 2 rfl (pz_dc dX10_needs 7 rfl) rfl ?_
    refine pz_iconst (pc' := 15) (v := 0) rfl (pz_dc dX10_needs 8 rfl) ki_0 ?_
    refine pz_bipush (pc' := 17) (v := 99) rfl (pz_dc dX10_needs 9 rfl) kb_99 ?_
    refine pz_callS (M := mX10_needs) (N := mX10_in) (d' := 0) (bc1 := 0) (bs1 := 0) (bc2 := bc) (bs2 := bs) (pc' := 20) [.int l2, .int 0, .int 99] sX10_104 rfl (pz_dc dX10_needs 10 rfl) rfl (Nat.le_of_ble_eq_true rfl) (Nat.le_of_ble_eq_true rfl) rfl (by omega) (by omega) (by omega) ?_
    refine cX10_in ?_
    show pz_V mX10_needs _ _ _ _ _ 20 [(0, .ref l0), (1, .int l1), (2, .int l2), (3, .int l3)] [.int (eX10_in l2 ((0 : Int32)) ((99 : Int32)))] h1
    refine pz_if_eq (pc' := 23) (tgt := 33) rfl (pz_dc dX10_needs 11 rfl) (by decide) (fun hc => ?_) (fun hc => ?_)
    · replace hb := hb.1 hc
      refine pz_iconst (pc' := 34) (v := (-1)) rfl (pz_dc dX10_needs 17 rfl) ki_m1 ?_
      exact pz_iret (pz_dc dX10_needs 18 rfl) rfl hb
    · replace hb := hb.2 hc
      refine pz_iload_n (pc' := 24) (x := l3) 3 rfl (pz_dc dX10_needs 12 rfl) rfl ?_
      refine pz_iconst (pc' := 25) (v := 0) rfl (pz_dc dX10_needs 13 rfl) ki_0 ?_
      refine pz_bipush (pc' := 27) (v := 60) rfl (pz_dc dX10_needs 14 rfl) kb_60 ?_
      refine pz_callS (M := mX10_needs) (N := mX10_in) (d' := 0) (bc1 := 0) (bs1 := 0) (bc2 := bc) (bs2 := bs) (pc' := 30) [.int l3, .int 0, .int 60] sX10_104 rfl (pz_dc dX10_needs 15 rfl) rfl (Nat.le_of_ble_eq_true rfl) (Nat.le_of_ble_eq_true rfl) rfl (by omega) (by omega) (by omega) ?_
      refine cX10_in ?_
      show pz_V mX10_needs _ _ _ _ _ 30 [(0, .ref l0), (1, .int l1), (2, .int l2), (3, .int l3)] [.int (eX10_in l3 ((0 : Int32)) ((60 : Int32)))] h1
      refine pz_if_ne (pc' := 33) (tgt := 35) rfl (pz_dc dX10_needs 16 rfl) (by decide) (fun hc => ?_) (fun hc => ?_)
      · replace hb := hb.1 hc
        refine pz_iconst (pc' := 36) (v := 0) rfl (pz_dc dX10_needs 19 rfl) ki_0 ?_
        refine pz_istore (pc' := 38) (lv' := [(4, .int 0), (0, .ref l0), (1, .int l1), (2, .int l2), (3, .int l3)]) rfl (pz_dc dX10_needs 20 rfl) (by decide) rfl ?_
        refine pz_lv (lv' := [(0, .ref l0), (1, .int l1), (2, .int l2), (3, .int l3), (4, .int 0)]) [1, 2, 3, 4, 0] rfl ?_
        exact hb
      · replace hb := hb.2 hc
        refine pz_iconst (pc' := 34) (v := (-1)) rfl (pz_dc dX10_needs 17 rfl) ki_m1 ?_
        exact pz_iret (pz_dc dX10_needs 18 rfl) rfl hb
set_option maxRecDepth 20000 in
set_option maxHeartbeats 4000000 in
theorem wX10_needs_38 {Ex : State → Nat → Prop} {Q : Option Value → pz_H → Prop} {d bc bs : Nat} {l0 : Nat} {l1 : Int32} {l2 : Int32} {l3 : Int32} {l4 : Int32}  {h : pz_H} (hD : 84 ≤ d) (hb : (((9 : Int32)) < l4 → Q (some (.int ((-2)))) h) ∧ (¬ ((9 : Int32)) < l4 → pz_gR h l0 10 0 (fun (a1 : Nat) => pz_gR h l0 10 24 (fun (a2 : Nat) => pz_kv mX10_lay 0 0 0 ([.ref a1, .ref a2, .int 0]) h (fun (h3 : pz_H) => pz_gR h3 l0 10 24 (fun (a4 : Nat) => pz_sI h3 a4 (((18 : Int32)) + l1) l4 (fun (h5 : pz_H) => pz_gR h5 l0 10 24 (fun (a6 : Nat) => pz_is h5 l0 10 ∧ (pz_kv mX10_goDays 83 0 0 (.ref l0 :: [.ref a6, .int l3]) h5 (fun (h7 : pz_H) => pz_gR h7 l0 10 24 (fun (a8 : Nat) => pz_rI h7 a8 l1 (fun (x9 : Int32) => (l2 ≤ x9 → pz_pF h7 l0 10 8 (.int 0) (fun (h10 : pz_H) => pz_gR h10 l0 10 24 (fun (a11 : Nat) => pz_rI h10 a11 l1 (fun (x12 : Int32) => pz_is h10 l0 10 ∧ (pz_kv mX10_tell 0 0 0 (.ref l0 :: [.long x12.toInt64]) h10 (fun (h13 : pz_H) => Q (some (.int l4)) h13)))))) ∧ (¬ l2 ≤ x9 → pz_V mX10_needs Ex Q d bc bs 38 [(0, .ref l0), (1, .int l1), (2, .int l2), (3, .int l3), (4, .int (l4 + (1 : Int32)))] [] h7))))))))))))) : pz_V mX10_needs Ex Q d bc bs 38 [(0, .ref l0), (1, .int l1), (2, .int l2), (3, .int l3), (4, .int l4)] [] h := by
  refine pz_iload (pc' := 40) (x := l4) 4 rfl (pz_dc dX10_needs 21 rfl) rfl ?_
  refine pz_bipush (pc' := 42) (v := 9) rfl (pz_dc dX10_needs 22 rfl) kb_9 ?_
  refine pz_icmp_gt (pc' := 45) (tgt := 115) rfl (pz_dc dX10_needs 23 rfl) (by decide) (fun hc => ?_) (fun hc => ?_)
  · replace hb := hb.1 hc
    refine pz_bipush (pc' := 117) (v := (-2)) rfl (pz_dc dX10_needs 63 rfl) kb_m2 ?_
    exact pz_iret (pz_dc dX10_needs 64 rfl) rfl hb
  · replace hb := hb.2 hc
    refine pz_aload_n (pc' := 46) (x := l0) 0 rfl (pz_dc dX10_needs 24 rfl) rfl ?_
    refine pz_getR (M := mX10_needs) hb fX10_9 (pc' := 49) rfl (pz_dc dX10_needs 25 rfl) (fun a1 hb => ?_)
    refine pz_aload_n (pc' := 50) (x := l0) 0 rfl (pz_dc dX10_needs 26 rfl) rfl ?_
    refine pz_getR (M := mX10_needs) hb fX10_48 (pc' := 53) rfl (pz_dc dX10_needs 27 rfl) (fun a2 hb => ?_)
    refine pz_iconst (pc' := 54) (v := 0) rfl (pz_dc dX10_needs 28 rfl) ki_0 ?_
    refine pz_cSv (M := mX10_needs) (N := mX10_lay) (d' := 0) (bc1 := 0) (bs1 := 0) (bc2 := bc) (bs2 := bs) (pc' := 57) [.ref a1, .ref a2, .int 0] hb sX10_230 rfl (pz_dc dX10_needs 29 rfl) rfl (Nat.le_of_ble_eq_true rfl) (Nat.le_of_ble_eq_true rfl) rfl (by omega) (by omega) (by omega) (fun h3 hb => ?_)
    refine pz_aload_n (pc' := 58) (x := l0) 0 rfl (pz_dc dX10_needs 30 rfl) rfl ?_
    refine pz_getR (M := mX10_needs) hb fX10_48 (pc' := 61) rfl (pz_dc dX10_needs 31 rfl) (fun a4 hb => ?_)
    refine pz_bipush (pc' := 63) (v := 18) rfl (pz_dc dX10_needs 32 rfl) kb_18 ?_
    refine pz_iload_n (pc' := 64) (x := l1) 1 rfl (pz_dc dX10_needs 33 rfl) rfl ?_
    refine pz_iadd (pc' := 65) rfl (pz_dc dX10_needs 34 rfl) ?_
    refine pz_iload (pc' := 67) (x := l4) 4 rfl (pz_dc dX10_needs 35 rfl) rfl ?_
    refine pz_stI hb (pc' := 68) rfl (pz_dc dX10_needs 36 rfl) (fun h5 hb => ?_)
    refine pz_aload_n (pc' := 69) (x := l0) 0 rfl (pz_dc dX10_needs 37 rfl) rfl ?_
    refine pz_aload_n (pc' := 70) (x := l0) 0 rfl (pz_dc dX10_needs 38 rfl) rfl ?_
    refine pz_getR (M := mX10_needs) hb fX10_48 (pc' := 73) rfl (pz_dc dX10_needs 39 rfl) (fun a6 hb => ?_)
    refine pz_iload_n (pc' := 74) (x := l3) 3 rfl (pz_dc dX10_needs 40 rfl) rfl ?_
    refine pz_cVv (M := mX10_needs) (N := mX10_goDays) (d' := 83) (bc1 := 0) (bs1 := 0) (bc2 := bc) (bs2 := bs) (pc' := 77) [.ref a6, .int l3] hb vX10_244 rfl (pz_dc dX10_needs 41 rfl) rfl (Nat.le_of_ble_eq_true rfl) (Nat.le_of_ble_eq_true rfl) rfl (by omega) (by omega) (by omega) (fun h7 hb => ?_)
    refine pz_aload_n (pc' := 78) (x := l0) 0 rfl (pz_dc dX10_needs 42 rfl) rfl ?_
    refine pz_getR (M := mX10_needs) hb fX10_48 (pc' := 81) rfl (pz_dc dX10_needs 43 rfl) (fun a8 hb => ?_)
    refine pz_iload_n (pc' := 82) (x := l1) 1 rfl (pz_dc dX10_needs 44 rfl) rfl ?_
    refine pz_ldI hb (pc' := 83) rfl (pz_dc dX10_needs 45 rfl) (fun x9 hb => ?_)
    refine pz_iload_n (pc' := 84) (x := l2) 2 rfl (pz_dc dX10_needs 46 rfl) rfl ?_
    refine pz_icmp_ge (pc' := 87) (tgt := 90) rfl (pz_dc dX10_needs 47 rfl) (by decide) (fun hc => ?_) (fun hc => ?_)
    · replace hb := hb.1 hc
      refine pz_aload_n (pc' := 91) (x := l0) 0 rfl (pz_dc dX10_needs 49 rfl) rfl ?_
      refine pz_iconst (pc' := 92) (v := 0) rfl (pz_dc dX10_needs 50 rfl) ki_0 ?_
      refine pz_putv (M := mX10_needs) hb (pX10_98 _ rfl) rfl rfl (pc' := 95) rfl (pz_dc dX10_needs 51 rfl) (fun h10 hb => ?_)
      refine pz_aload_n (pc' := 96) (x := l0) 0 rfl (pz_dc dX10_needs 52 rfl) rfl ?_
      refine pz_aload_n (pc' := 97) (x := l0) 0 rfl (pz_dc dX10_needs 53 rfl) rfl ?_
      refine pz_getR (M := mX10_needs) hb fX10_48 (pc' := 100) rfl (pz_dc dX10_needs 54 rfl) (fun a11 hb => ?_)
      refine pz_iload_n (pc' := 101) (x := l1) 1 rfl (pz_dc dX10_needs 55 rfl) rfl ?_
      refine pz_ldI hb (pc' := 102) rfl (pz_dc dX10_needs 56 rfl) (fun x12 hb => ?_)
      refine pz_i2l (pc' := 103) rfl (pz_dc dX10_needs 57 rfl) ?_
      refine pz_cVv (M := mX10_needs) (N := mX10_tell) (d' := 0) (bc1 := 0) (bs1 := 0) (bc2 := bc) (bs2 := bs) (pc' := 106) [.long x12.toInt64] hb vX10_248 rfl (pz_dc dX10_needs 58 rfl) rfl (Nat.le_of_ble_eq_true rfl) (Nat.le_of_ble_eq_true rfl) rfl (by omega) (by omega) (by omega) (fun h13 hb => ?_)
      refine pz_iload (pc' := 108) (x := l4) 4 rfl (pz_dc dX10_needs 59 rfl) rfl ?_
      exact pz_iret (pz_dc dX10_needs 60 rfl) rfl hb
    · replace hb := hb.2 hc
      refine pz_goto (pc' := 109) (pz_dc dX10_needs 48 rfl) (by decide) ?_
      refine pz_iinc (pc' := 112) (x := l4) (v := l4 + (1 : Int32)) (lv' := [(4, .int (l4 + (1 : Int32))), (0, .ref l0), (1, .int l1), (2, .int l2), (3, .int l3)]) 4 rfl (pz_dc dX10_needs 61 rfl) rfl rfl (by decide) rfl ?_
      refine pz_goto (pc' := 38) (pz_dc dX10_needs 62 rfl) (by decide) ?_
      refine pz_lv (lv' := [(0, .ref l0), (1, .int l1), (2, .int l2), (3, .int l3), (4, .int (l4 + (1 : Int32)))]) [1, 2, 3, 4, 0] rfl ?_
      exact hb
set_option maxRecDepth 20000 in
set_option maxHeartbeats 4000000 in
theorem wX10_crosses_0 {Ex : State → Nat → Prop} {Q : Option Value → pz_H → Prop} {d bc bs : Nat} {l0 : Nat} {l1 : Int32}  {h : pz_H} (hD : 85 ≤ d) (hb : pz_pF h l0 10 9 (.int 0) (fun (h1 : pz_H) => (¬ (eX10_in l1 ((1 : Int32)) ((40 : Int32))) = 0 → pz_gI h1 l0 10 1 (fun (x2 : Int32) => (¬ x2 = 0 → pz_V mX10_crosses Ex Q d bc bs 36 [(0, .ref l0), (1, .int l1), (2, .int ((-1))), (3, .int 1000000), (4, .int 0)] [] h1) ∧ (x2 = 0 → Q (some (.int ((-2)))) h1))) ∧ ((eX10_in l1 ((1 : Int32)) ((40 : Int32))) = 0 → Q (some (.int ((-1)))) h1))) : pz_V mX10_crosses Ex Q d bc bs 0 [(0, .ref l0), (1, .int l1)] [] h := by
  refine pz_aload_n (pc' := 1) (x := l0) 0 rfl (pz_dc dX10_crosses 0 rfl) rfl ?_
  refine pz_iconst (pc' := 2) (v := 0) rfl (pz_dc dX10_crosses 1 rfl) ki_0 ?_
  refine pz_putv (M := mX10_crosses) hb (pX10_95 _ rfl) rfl rfl (pc' := 5) rfl (pz_dc dX10_crosses 2 rfl) (fun h1 hb => ?_)
  refine pz_iload_n (pc' := 6) (x := l1) 1 rfl (pz_dc dX10_crosses 3 rfl) rfl ?_
  refine pz_iconst (pc' := 7) (v := 1) rfl (pz_dc dX10_crosses 4 rfl) ki_1 ?_
  refine pz_bipush (pc' := 9) (v := 40) rfl (pz_dc dX10_crosses 5 rfl) kb_40 ?_
  refine pz_callS (M := mX10_crosses) (N := mX10_in) (d' := 0) (bc1 := 0) (bs1 := 0) (bc2 := bc) (bs2 := bs) (pc' := 12) [.int l1, .int 1, .int 40] sX10_104 rfl (pz_dc dX10_crosses 6 rfl) rfl (Nat.le_of_ble_eq_true rfl) (Nat.le_of_ble_eq_true rfl) rfl (by omega) (by omega) (by omega) ?_
  refine cX10_in ?_
  show pz_V mX10_crosses _ _ _ _ _ 12 [(0, .ref l0), (1, .int l1)] [.int (eX10_in l1 ((1 : Int32)) ((40 : Int32)))] h1
  refine pz_if_ne (pc' := 15) (tgt := 17) rfl (pz_dc dX10_crosses 7 rfl) (by decide) (fun hc => ?_) (fun hc => ?_)
  · replace hb := hb.1 hc
    refine pz_aload_n (pc' := 18) (x := l0) 0 rfl (pz_dc dX10_crosses 10 rfl) rfl ?_
    refine pz_getI (M := mX10_crosses) hb fX10_101 (pc' := 21) rfl (pz_dc dX10_crosses 11 rfl) (fun x2 hb => ?_)
    refine pz_if_ne (pc' := 24) (tgt := 27) rfl (pz_dc dX10_crosses 12 rfl) (by decide) (fun hc => ?_) (fun hc => ?_)
    · replace hb := hb.1 hc
      refine pz_iconst (pc' := 28) (v := (-1)) rfl (pz_dc dX10_crosses 15 rfl) ki_m1 ?_
      refine pz_istore_n (pc' := 29) (lv' := [(2, .int ((-1))), (0, .ref l0), (1, .int l1)]) rfl (pz_dc dX10_crosses 16 rfl) (by decide) rfl ?_
      refine pz_ldcw (M := mX10_crosses) (pc' := 32) cX10_307 rfl (pz_dc dX10_crosses 17 rfl) ?_
      refine pz_istore_n (pc' := 33) (lv' := [(3, .int 1000000), (2, .int ((-1))), (0, .ref l0), (1, .int l1)]) rfl (pz_dc dX10_crosses 18 rfl) (by decide) rfl ?_
      refine pz_iconst (pc' := 34) (v := 0) rfl (pz_dc dX10_crosses 19 rfl) ki_0 ?_
      refine pz_istore (pc' := 36) (lv' := [(4, .int 0), (3, .int 1000000), (2, .int ((-1))), (0, .ref l0), (1, .int l1)]) rfl (pz_dc dX10_crosses 20 rfl) (by decide) rfl ?_
      refine pz_lv (lv' := [(0, .ref l0), (1, .int l1), (2, .int ((-1))), (3, .int 1000000), (4, .int 0)]) [3, 4, 2, 1, 0] rfl ?_
      exact hb
    · replace hb := hb.2 hc
      refine pz_bipush (pc' := 26) (v := (-2)) rfl (pz_dc dX10_crosses 13 rfl) kb_m2 ?_
      exact pz_iret (pz_dc dX10_crosses 14 rfl) rfl hb
  · replace hb := hb.2 hc
    refine pz_iconst (pc' := 16) (v := (-1)) rfl (pz_dc dX10_crosses 8 rfl) ki_m1 ?_
    exact pz_iret (pz_dc dX10_crosses 9 rfl) rfl hb
set_option maxRecDepth 20000 in
set_option maxHeartbeats 4000000 in
theorem wX10_crosses_36 {Ex : State → Nat → Prop} {Q : Option Value → pz_H → Prop} {d bc bs : Nat} {l0 : Nat} {l1 : Int32} {l2 : Int32} {l3 : Int32} {l4 : Int32}  {h : pz_H} (hD : 85 ≤ d) (hb : pz_gI h l0 10 1 (fun (x1 : Int32) => (x1 ≤ l4 → pz_is h l0 10 ∧ (pz_kv mX10_goThen 84 0 0 (.ref l0 :: [.int l1]) h (fun (h2 : pz_H) => pz_pF h2 l0 10 8 (.int 0) (fun (h3 : pz_H) => pz_gR h3 l0 10 24 (fun (a4 : Nat) => pz_is h3 l0 10 ∧ (pz_ki mX10_sumOf 0 0 0 (.ref l0 :: [.ref a4, .int 0]) h3 (fun (x6 : Int32) (h5 : pz_H) => pz_is h5 l0 10 ∧ (pz_kv mX10_tell 0 0 0 (.ref l0 :: [.long (((((1000 : Int32)) + x6) - l3).toInt64)]) h5 (fun (h7 : pz_H) => Q (some (.int l2)) h7))))))))) ∧ (¬ x1 ≤ l4 → pz_gR h l0 10 0 (fun (a8 : Nat) => pz_gR h l0 10 24 (fun (a9 : Nat) => pz_kv mX10_lay 0 0 0 ([.ref a8, .ref a9, .int 0]) h (fun (h10 : pz_H) => pz_gR h10 l0 10 24 (fun (a11 : Nat) => pz_rI h10 a11 (((6 : Int32)) + l4) (fun (x12 : Int32) => (¬ x12 = 0 → pz_gR h10 l0 10 24 (fun (a13 : Nat) => pz_sI h10 a13 (((12 : Int32)) + l4) 0 (fun (h14 : pz_H) => pz_gR h14 l0 10 24 (fun (a15 : Nat) => pz_is h14 l0 10 ∧ (pz_kv mX10_goDays 83 0 0 (.ref l0 :: [.ref a15, .int l1]) h14 (fun (h16 : pz_H) => pz_gR h16 l0 10 24 (fun (a17 : Nat) => pz_is h16 l0 10 ∧ (pz_ki mX10_sumOf 0 0 0 (.ref l0 :: [.ref a17, .int 0]) h16 (fun (x19 : Int32) (h18 : pz_H) => (x19 < l3 → pz_gR h18 l0 10 24 (fun (a20 : Nat) => pz_is h18 l0 10 ∧ (pz_ki mX10_sumOf 0 0 0 (.ref l0 :: [.ref a20, .int 0]) h18 (fun (x22 : Int32) (h21 : pz_H) => pz_V mX10_crosses Ex Q d bc bs 36 [(0, .ref l0), (1, .int l1), (2, .int l4), (3, .int x22), (4, .int (l4 + (1 : Int32)))] [] h21)))) ∧ (¬ x19 < l3 → pz_V mX10_crosses Ex Q d bc bs 36 [(0, .ref l0), (1, .int l1), (2, .int l2), (3, .int l3), (4, .int (l4 + (1 : Int32)))] [] h18)))))))))) ∧ (x12 = 0 → pz_gR h10 l0 10 24 (fun (a23 : Nat) => pz_sI h10 a23 (((6 : Int32)) + l4) 1 (fun (h24 : pz_H) => pz_gR h24 l0 10 24 (fun (a25 : Nat) => pz_is h24 l0 10 ∧ (pz_kv mX10_goDays 83 0 0 (.ref l0 :: [.ref a25, .int l1]) h24 (fun (h26 : pz_H) => pz_gR h26 l0 10 24 (fun (a27 : Nat) => pz_is h26 l0 10 ∧ (pz_ki mX10_sumOf 0 0 0 (.ref l0 :: [.ref a27, .int 0]) h26 (fun (x29 : Int32) (h28 : pz_H) => (x29 < l3 → pz_gR h28 l0 10 24 (fun (a30 : Nat) => pz_is h28 l0 10 ∧ (pz_ki mX10_sumOf 0 0 0 (.ref l0 :: [.ref a30, .int 0]) h28 (fun (x32 : Int32) (h31 : pz_H) => pz_V mX10_crosses Ex Q d bc bs 36 [(0, .ref l0), (1, .int l1), (2, .int l4), (3, .int x32), (4, .int (l4 + (1 : Int32)))] [] h31)))) ∧ (¬ x29 < l3 → pz_V mX10_crosses Ex Q d bc bs 36 [(0, .ref l0), (1, .int l1), (2, .int l2), (3, .int l3), (4, .int (l4 + (1 : Int32)))] [] h28)))))))))))))))))) : pz_V mX10_crosses Ex Q d bc bs 36 [(0, .ref l0), (1, .int l1), (2, .int l2), (3, .int l3), (4, .int l4)] [] h := by
  refine pz_iload (pc' := 38) (x := l4) 4 rfl (pz_dc dX10_crosses 21 rfl) rfl ?_
  refine pz_aload_n (pc' := 39) (x := l0) 0 rfl (pz_dc dX10_crosses 22 rfl) rfl ?_
  refine pz_getI (M := mX10_crosses) hb fX10_101 (pc' := 42) rfl (pz_dc dX10_crosses 23 rfl) (fun x1 hb => ?_)
  refine pz_icmp_ge (pc' := 45) (tgt := 139) rfl (pz_dc dX10_crosses 24 rfl) (by decide) (fun hc => ?_) (fun hc => ?_)
  · replace hb := hb.1 hc
    refine pz_aload_n (pc' := 140) (x := l0) 0 rfl (pz_dc dX10_crosses 76 rfl) rfl ?_
    refine pz_iload_n (pc' := 141) (x := l1) 1 rfl (pz_dc dX10_crosses 77 rfl) rfl ?_
    refine pz_cVv (M := mX10_crosses) (N := mX10_goThen) (d' := 84) (bc1 := 0) (bs1 := 0) (bc2 := bc) (bs2 := bs) (pc' := 144) [.int l1] hb vX10_274 rfl (pz_dc dX10_crosses 78 rfl) rfl (Nat.le_of_ble_eq_true rfl) (Nat.le_of_ble_eq_true rfl) rfl (by omega) (by omega) (by omega) (fun h2 hb => ?_)
    refine pz_aload_n (pc' := 145) (x := l0) 0 rfl (pz_dc dX10_crosses 79 rfl) rfl ?_
    refine pz_iconst (pc' := 146) (v := 0) rfl (pz_dc dX10_crosses 80 rfl) ki_0 ?_
    refine pz_putv (M := mX10_crosses) hb (pX10_98 _ rfl) rfl rfl (pc' := 149) rfl (pz_dc dX10_crosses 81 rfl) (fun h3 hb => ?_)
    refine pz_aload_n (pc' := 150) (x := l0) 0 rfl (pz_dc dX10_crosses 82 rfl) rfl ?_
    refine pz_sipush (pc' := 153) (v := 1000) rfl (pz_dc dX10_crosses 83 rfl) ks_1000 ?_
    refine pz_aload_n (pc' := 154) (x := l0) 0 rfl (pz_dc dX10_crosses 84 rfl) rfl ?_
    refine pz_aload_n (pc' := 155) (x := l0) 0 rfl (pz_dc dX10_crosses 85 rfl) rfl ?_
    refine pz_getR (M := mX10_crosses) hb fX10_48 (pc' := 158) rfl (pz_dc dX10_crosses 86 rfl) (fun a4 hb => ?_)
    refine pz_iconst (pc' := 159) (v := 0) rfl (pz_dc dX10_crosses 87 rfl) ki_0 ?_
    refine pz_cVi (M := mX10_crosses) (N := mX10_sumOf) (d' := 0) (bc1 := 0) (bs1 := 0) (bc2 := bc) (bs2 := bs) (pc' := 162) [.ref a4, .int 0] hb vX10_227 rfl (pz_dc dX10_crosses 88 rfl) rfl (Nat.le_of_ble_eq_true rfl) (Nat.le_of_ble_eq_true rfl) rfl (by omega) (by omega) (by omega) (fun x6 h5 hb => ?_)
    refine pz_iadd (pc' := 163) rfl (pz_dc dX10_crosses 89 rfl) ?_
    refine pz_iload_n (pc' := 164) (x := l3) 3 rfl (pz_dc dX10_crosses 90 rfl) rfl ?_
    refine pz_isub (pc' := 165) rfl (pz_dc dX10_crosses 91 rfl) ?_
    refine pz_i2l (pc' := 166) rfl (pz_dc dX10_crosses 92 rfl) ?_
    refine pz_cVv (M := mX10_crosses) (N := mX10_tell) (d' := 0) (bc1 := 0) (bs1 := 0) (bc2 := bc) (bs2 := bs) (pc' := 169) [.long (((((1000 : Int32)) + x6) - l3).toInt64)] hb vX10_248 rfl (pz_dc dX10_crosses 93 rfl) rfl (Nat.le_of_ble_eq_true rfl) (Nat.le_of_ble_eq_true rfl) rfl (by omega) (by omega) (by omega) (fun h7 hb => ?_)
    refine pz_iload_n (pc' := 170) (x := l2) 2 rfl (pz_dc dX10_crosses 94 rfl) rfl ?_
    exact pz_iret (pz_dc dX10_crosses 95 rfl) rfl hb
  · replace hb := hb.2 hc
    refine pz_aload_n (pc' := 46) (x := l0) 0 rfl (pz_dc dX10_crosses 25 rfl) rfl ?_
    refine pz_getR (M := mX10_crosses) hb fX10_9 (pc' := 49) rfl (pz_dc dX10_crosses 26 rfl) (fun a8 hb => ?_)
    refine pz_aload_n (pc' := 50) (x := l0) 0 rfl (pz_dc dX10_crosses 27 rfl) rfl ?_
    refine pz_getR (M := mX10_crosses) hb fX10_48 (pc' := 53) rfl (pz_dc dX10_crosses 28 rfl) (fun a9 hb => ?_)
    refine pz_iconst (pc' := 54) (v := 0) rfl (pz_dc dX10_crosses 29 rfl) ki_0 ?_
    refine pz_cSv (M := mX10_crosses) (N := mX10_lay) (d' := 0) (bc1 := 0) (bs1 := 0) (bc2 := bc) (bs2 := bs) (pc' := 57) [.ref a8, .ref a9, .int 0] hb sX10_230 rfl (pz_dc dX10_crosses 30 rfl) rfl (Nat.le_of_ble_eq_true rfl) (Nat.le_of_ble_eq_true rfl) rfl (by omega) (by omega) (by omega) (fun h10 hb => ?_)
    refine pz_aload_n (pc' := 58) (x := l0) 0 rfl (pz_dc dX10_crosses 31 rfl) rfl ?_
    refine pz_getR (M := mX10_crosses) hb fX10_48 (pc' := 61) rfl (pz_dc dX10_crosses 32 rfl) (fun a11 hb => ?_)
    refine pz_bipush (pc' := 63) (v := 6) rfl (pz_dc dX10_crosses 33 rfl) kb_6 ?_
    refine pz_iload (pc' := 65) (x := l4) 4 rfl (pz_dc dX10_crosses 34 rfl) rfl ?_
    refine pz_iadd (pc' := 66) rfl (pz_dc dX10_crosses 35 rfl) ?_
    refine pz_ldI hb (pc' := 67) rfl (pz_dc dX10_crosses 36 rfl) (fun x12 hb => ?_)
    refine pz_if_ne (pc' := 70) (tgt := 84) rfl (pz_dc dX10_crosses 37 rfl) (by decide) (fun hc => ?_) (fun hc => ?_)
    · replace hb := hb.1 hc
      refine pz_aload_n (pc' := 85) (x := l0) 0 rfl (pz_dc dX10_crosses 46 rfl) rfl ?_
      refine pz_getR (M := mX10_crosses) hb fX10_48 (pc' := 88) rfl (pz_dc dX10_crosses 47 rfl) (fun a13 hb => ?_)
      refine pz_bipush (pc' := 90) (v := 12) rfl (pz_dc dX10_crosses 48 rfl) kb_12 ?_
      refine pz_iload (pc' := 92) (x := l4) 4 rfl (pz_dc dX10_crosses 49 rfl) rfl ?_
      refine pz_iadd (pc' := 93) rfl (pz_dc dX10_crosses 50 rfl) ?_
      refine pz_iconst (pc' := 94) (v := 0) rfl (pz_dc dX10_crosses 51 rfl) ki_0 ?_
      refine pz_stI hb (pc' := 95) rfl (pz_dc dX10_crosses 52 rfl) (fun h14 hb => ?_)
      refine pz_aload_n (pc' := 96) (x := l0) 0 rfl (pz_dc dX10_crosses 53 rfl) rfl ?_
      refine pz_aload_n (pc' := 97) (x := l0) 0 rfl (pz_dc dX10_crosses 54 rfl) rfl ?_
      refine pz_getR (M := mX10_crosses) hb fX10_48 (pc' := 100) rfl (pz_dc dX10_crosses 55 rfl) (fun a15 hb => ?_)
      refine pz_iload_n (pc' := 101) (x := l1) 1 rfl (pz_dc dX10_crosses 56 rfl) rfl ?_
      refine pz_cVv (M := mX10_crosses) (N := mX10_goDays) (d' := 83) (bc1 := 0) (bs1 := 0) (bc2 := bc) (bs2 := bs) (pc' := 104) [.ref a15, .int l1] hb vX10_244 rfl (pz_dc dX10_crosses 57 rfl) rfl (Nat.le_of_ble_eq_true rfl) (Nat.le_of_ble_eq_true rfl) rfl (by omega) (by omega) (by omega) (fun h16 hb => ?_)
      refine pz_aload_n (pc' := 105) (x := l0) 0 rfl (pz_dc dX10_crosses 58 rfl) rfl ?_
      refine pz_aload_n (pc' := 106) (x := l0) 0 rfl (pz_dc dX10_crosses 59 rfl) rfl ?_
      refine pz_getR (M := mX10_crosses) hb fX10_48 (pc' := 109) rfl (pz_dc dX10_crosses 60 rfl) (fun a17 hb => ?_)
      refine pz_iconst (pc' := 110) (v := 0) rfl (pz_dc dX10_crosses 61 rfl) ki_0 ?_
      refine pz_cVi (M := mX10_crosses) (N := mX10_sumOf) (d' := 0) (bc1 := 0) (bs1 := 0) (bc2 := bc) (bs2 := bs) (pc' := 113) [.ref a17, .int 0] hb vX10_227 rfl (pz_dc dX10_crosses 62 rfl) rfl (Nat.le_of_ble_eq_true rfl) (Nat.le_of_ble_eq_true rfl) rfl (by omega) (by omega) (by omega) (fun x19 h18 hb => ?_)
      refine pz_iload_n (pc' := 114) (x := l3) 3 rfl (pz_dc dX10_crosses 63 rfl) rfl ?_
      refine pz_icmp_lt (pc' := 117) (tgt := 120) rfl (pz_dc dX10_crosses 64 rfl) (by decide) (fun hc => ?_) (fun hc => ?_)
      · replace hb := hb.1 hc
        refine pz_iload (pc' := 122) (x := l4) 4 rfl (pz_dc dX10_crosses 66 rfl) rfl ?_
        refine pz_istore_n (pc' := 123) (lv' := [(2, .int l4), (0, .ref l0), (1, .int l1), (3, .int l3), (4, .int l4)]) rfl (pz_dc dX10_crosses 67 rfl) (by decide) rfl ?_
        refine pz_aload_n (pc' := 124) (x := l0) 1 rfl (pz_dc dX10_crosses 68 rfl) rfl ?_
        refine pz_aload_n (pc' := 125) (x := l0) 1 rfl (pz_dc dX10_crosses 69 rfl) rfl ?_
        refine pz_getR (M := mX10_crosses) hb fX10_48 (pc' := 128) rfl (pz_dc dX10_crosses 70 rfl) (fun a20 hb => ?_)
        refine pz_iconst (pc' := 129) (v := 0) rfl (pz_dc dX10_crosses 71 rfl) ki_0 ?_
        refine pz_cVi (M := mX10_crosses) (N := mX10_sumOf) (d' := 0) (bc1 := 0) (bs1 := 0) (bc2 := bc) (bs2 := bs) (pc' := 132) [.ref a20, .int 0] hb vX10_227 rfl (pz_dc dX10_crosses 72 rfl) rfl (Nat.le_of_ble_eq_true rfl) (Nat.le_of_ble_eq_true rfl) rfl (by omega) (by omega) (by omega) (fun x22 h21 hb => ?_)
        refine pz_istore_n (pc' := 133) (lv' := [(3, .int x22), (2, .int l4), (0, .ref l0), (1, .int l1), (4, .int l4)]) rfl (pz_dc dX10_crosses 73 rfl) (by decide) rfl ?_
        refine pz_iinc (pc' := 136) (x := l4) (v := l4 + (1 : Int32)) (lv' := [(4, .int (l4 + (1 : Int32))), (3, .int x22), (2, .int l4), (0, .ref l0), (1, .int l1)]) 4 rfl (pz_dc dX10_crosses 74 rfl) rfl rfl (by decide) rfl ?_
        refine pz_goto (pc' := 36) (pz_dc dX10_crosses 75 rfl) (by decide) ?_
        refine pz_lv (lv' := [(0, .ref l0), (1, .int l1), (2, .int l4), (3, .int x22), (4, .int (l4 + (1 : Int32)))]) [3, 4, 2, 1, 0] rfl ?_
        exact hb
      · replace hb := hb.2 hc
        refine pz_goto (pc' := 133) (pz_dc dX10_crosses 65 rfl) (by decide) ?_
        refine pz_iinc (pc' := 136) (x := l4) (v := l4 + (1 : Int32)) (lv' := [(4, .int (l4 + (1 : Int32))), (0, .ref l0), (1, .int l1), (2, .int l2), (3, .int l3)]) 4 rfl (pz_dc dX10_crosses 74 rfl) rfl rfl (by decide) rfl ?_
        refine pz_goto (pc' := 36) (pz_dc dX10_crosses 75 rfl) (by decide) ?_
        refine pz_lv (lv' := [(0, .ref l0), (1, .int l1), (2, .int l2), (3, .int l3), (4, .int (l4 + (1 : Int32)))]) [1, 2, 3, 4, 0] rfl ?_
        exact hb
    · replace hb := hb.2 hc
      refine pz_aload_n (pc' := 71) (x := l0) 0 rfl (pz_dc dX10_crosses 38 rfl) rfl ?_
      refine pz_getR (M := mX10_crosses) hb fX10_48 (pc' := 74) rfl (pz_dc dX10_crosses 39 rfl) (fun a23 hb => ?_)
      refine pz_bipush (pc' := 76) (v := 6) rfl (pz_dc dX10_crosses 40 rfl) kb_6 ?_
      refine pz_iload (pc' := 78) (x := l4) 4 rfl (pz_dc dX10_crosses 41 rfl) rfl ?_
      refine pz_iadd (pc' := 79) rfl (pz_dc dX10_crosses 42 rfl) ?_
      refine pz_iconst (pc' := 80) (v := 1) rfl (pz_dc dX10_crosses 43 rfl) ki_1 ?_
      refine pz_stI hb (pc' := 81) rfl (pz_dc dX10_crosses 44 rfl) (fun h24 hb => ?_)
      refine pz_goto (pc' := 95) (pz_dc dX10_crosses 45 rfl) (by decide) ?_
      refine pz_aload_n (pc' := 96) (x := l0) 0 rfl (pz_dc dX10_crosses 53 rfl) rfl ?_
      refine pz_aload_n (pc' := 97) (x := l0) 0 rfl (pz_dc dX10_crosses 54 rfl) rfl ?_
      refine pz_getR (M := mX10_crosses) hb fX10_48 (pc' := 100) rfl (pz_dc dX10_crosses 55 rfl) (fun a25 hb => ?_)
      refine pz_iload_n (pc' := 101) (x := l1) 1 rfl (pz_dc dX10_crosses 56 rfl) rfl ?_
      refine pz_cVv (M := mX10_crosses) (N := mX10_goDays) (d' := 83) (bc1 := 0) (bs1 := 0) (bc2 := bc) (bs2 := bs) (pc' := 104) [.ref a25, .int l1] hb vX10_244 rfl (pz_dc dX10_crosses 57 rfl) rfl (Nat.le_of_ble_eq_true rfl) (Nat.le_of_ble_eq_true rfl) rfl (by omega) (by omega) (by omega) (fun h26 hb => ?_)
      refine pz_aload_n (pc' := 105) (x := l0) 0 rfl (pz_dc dX10_crosses 58 rfl) rfl ?_
      refine pz_aload_n (pc' := 106) (x := l0) 0 rfl (pz_dc dX10_crosses 59 rfl) rfl ?_
      refine pz_getR (M := mX10_crosses) hb fX10_48 (pc' := 109) rfl (pz_dc dX10_crosses 60 rfl) (fun a27 hb => ?_)
      refine pz_iconst (pc' := 110) (v := 0) rfl (pz_dc dX10_crosses 61 rfl) ki_0 ?_
      refine pz_cVi (M := mX10_crosses) (N := mX10_sumOf) (d' := 0) (bc1 := 0) (bs1 := 0) (bc2 := bc) (bs2 := bs) (pc' := 113) [.ref a27, .int 0] hb vX10_227 rfl (pz_dc dX10_crosses 62 rfl) rfl (Nat.le_of_ble_eq_true rfl) (Nat.le_of_ble_eq_true rfl) rfl (by omega) (by omega) (by omega) (fun x29 h28 hb => ?_)
      refine pz_iload_n (pc' := 114) (x := l3) 3 rfl (pz_dc dX10_crosses 63 rfl) rfl ?_
      refine pz_icmp_lt (pc' := 117) (tgt := 120) rfl (pz_dc dX10_crosses 64 rfl) (by decide) (fun hc => ?_) (fun hc => ?_)
      · replace hb := hb.1 hc
        refine pz_iload (pc' := 122) (x := l4) 4 rfl (pz_dc dX10_crosses 66 rfl) rfl ?_
        refine pz_istore_n (pc' := 123) (lv' := [(2, .int l4), (0, .ref l0), (1, .int l1), (3, .int l3), (4, .int l4)]) rfl (pz_dc dX10_crosses 67 rfl) (by decide) rfl ?_
        refine pz_aload_n (pc' := 124) (x := l0) 1 rfl (pz_dc dX10_crosses 68 rfl) rfl ?_
        refine pz_aload_n (pc' := 125) (x := l0) 1 rfl (pz_dc dX10_crosses 69 rfl) rfl ?_
        refine pz_getR (M := mX10_crosses) hb fX10_48 (pc' := 128) rfl (pz_dc dX10_crosses 70 rfl) (fun a30 hb => ?_)
        refine pz_iconst (pc' := 129) (v := 0) rfl (pz_dc dX10_crosses 71 rfl) ki_0 ?_
        refine pz_cVi (M := mX10_crosses) (N := mX10_sumOf) (d' := 0) (bc1 := 0) (bs1 := 0) (bc2 := bc) (bs2 := bs) (pc' := 132) [.ref a30, .int 0] hb vX10_227 rfl (pz_dc dX10_crosses 72 rfl) rfl (Nat.le_of_ble_eq_true rfl) (Nat.le_of_ble_eq_true rfl) rfl (by omega) (by omega) (by omega) (fun x32 h31 hb => ?_)
        refine pz_istore_n (pc' := 133) (lv' := [(3, .int x32), (2, .int l4), (0, .ref l0), (1, .int l1), (4, .int l4)]) rfl (pz_dc dX10_crosses 73 rfl) (by decide) rfl ?_
        refine pz_iinc (pc' := 136) (x := l4) (v := l4 + (1 : Int32)) (lv' := [(4, .int (l4 + (1 : Int32))), (3, .int x32), (2, .int l4), (0, .ref l0), (1, .int l1)]) 4 rfl (pz_dc dX10_crosses 74 rfl) rfl rfl (by decide) rfl ?_
        refine pz_goto (pc' := 36) (pz_dc dX10_crosses 75 rfl) (by decide) ?_
        refine pz_lv (lv' := [(0, .ref l0), (1, .int l1), (2, .int l4), (3, .int x32), (4, .int (l4 + (1 : Int32)))]) [3, 4, 2, 1, 0] rfl ?_
        exact hb
      · replace hb := hb.2 hc
        refine pz_goto (pc' := 133) (pz_dc dX10_crosses 65 rfl) (by decide) ?_
        refine pz_iinc (pc' := 136) (x := l4) (v := l4 + (1 : Int32)) (lv' := [(4, .int (l4 + (1 : Int32))), (0, .ref l0), (1, .int l1), (2, .int l2), (3, .int l3)]) 4 rfl (pz_dc dX10_crosses 74 rfl) rfl rfl (by decide) rfl ?_
        refine pz_goto (pc' := 36) (pz_dc dX10_crosses 75 rfl) (by decide) ?_
        refine pz_lv (lv' := [(0, .ref l0), (1, .int l1), (2, .int l2), (3, .int l3), (4, .int (l4 + (1 : Int32)))]) [1, 2, 3, 4, 0] rfl ?_
        exact hb
set_option maxRecDepth 20000 in
set_option maxHeartbeats 4000000 in
theorem wX10_ring_0 {Ex : State → Nat → Prop} {Q : Option Value → pz_H → Prop} {d bc bs : Nat} {l0 : Nat} {l1 : Int32} {l2 : Int32} {l3 : Int32}  {h : pz_H} (hD : 2 ≤ d) (hb : pz_pF h l0 10 9 (.int 0) (fun (h1 : pz_H) => pz_is h1 l0 10 ∧ (pz_gI h1 l0 10 1 (fun (x2 : Int32) => ((eX10_isLake l1 x2) = 0 → Q (some (.int ((-1)))) h1) ∧ (¬ (eX10_isLake l1 x2) = 0 → ((eX10_in l2 ((0 : Int32)) ((20 : Int32))) = 0 → Q (some (.int ((-1)))) h1) ∧ (¬ (eX10_in l2 ((0 : Int32)) ((20 : Int32))) = 0 → ((eX10_in l3 ((0 : Int32)) ((99 : Int32))) = 0 → Q (some (.int ((-1)))) h1) ∧ (¬ (eX10_in l3 ((0 : Int32)) ((99 : Int32))) = 0 → pz_gI h1 l0 10 33 (fun (x6 : Int32) => (¬ x6 = ((10 : Int32)) → pz_gR h1 l0 10 30 (fun (a7 : Nat) => pz_gI h1 l0 10 33 (fun (x8 : Int32) => pz_sI h1 a7 x8 l1 (fun (h9 : pz_H) => pz_gR h9 l0 10 31 (fun (a10 : Nat) => pz_gI h9 l0 10 33 (fun (x11 : Int32) => pz_sI h9 a10 x11 l2 (fun (h12 : pz_H) => pz_gR h12 l0 10 32 (fun (a13 : Nat) => pz_gI h12 l0 10 33 (fun (x14 : Int32) => pz_sI h12 a13 x14 l3 (fun (h15 : pz_H) => pz_gI h15 l0 10 33 (fun (x16 : Int32) => pz_pF h15 l0 10 33 (.int (x16 + ((1 : Int32)))) (fun (h17 : pz_H) => pz_gI h17 l0 10 33 (fun (x18 : Int32) => Q (some (.int x18)) h17))))))))))))) ∧ (x6 = ((10 : Int32)) → Q (some (.int ((-1)))) h1))))))))) : pz_V mX10_ring Ex Q d bc bs 0 [(0, .ref l0), (1, .int l1), (2, .int l2), (3, .int l3)] [] h := by
  refine pz_aload_n (pc' := 1) (x := l0) 0 rfl (pz_dc dX10_ring 0 rfl) rfl ?_
  refine pz_iconst (pc' := 2) (v := 0) rfl (pz_dc dX10_ring 1 rfl) ki_0 ?_
  refine pz_putv (M := mX10_ring) hb (pX10_95 _ rfl) rfl rfl (pc' := 5) rfl (pz_dc dX10_ring 2 rfl) (fun h1 hb => ?_)
  refine pz_aload_n (pc' := 6) (x := l0) 0 rfl (pz_dc dX10_ring 3 rfl) rfl ?_
  refine pz_iload_n (pc' := 7) (x := l1) 1 rfl (pz_dc dX10_ring 4 rfl) rfl ?_
  obtain ⟨⟨fs19, hf20⟩, hb⟩ := hb
  obtain ⟨fs3, x2, g4, g5, hb⟩ := hb
  refine pz_callV (M := mX10_ring) (N := mX10_isLake) (d' := 1) (bc1 := 0) (bs1 := 0) (bc2 := bc) (bs2 := bs) (pc' := 10) [.int l1] vX10_108 rfl (pz_dc dX10_ring 5 rfl) rfl (Nat.le_of_ble_eq_true rfl) (Nat.le_of_ble_eq_true rfl) rfl (by omega) (by omega) (by omega) hf20 ?_
  refine cX10_isLake ⟨fs3, x2, g4, g5, ?_⟩
  show pz_V mX10_ring _ _ _ _ _ 10 [(0, .ref l0), (1, .int l1), (2, .int l2), (3, .int l3)] [.int (eX10_isLake l1 x2)] h1
  refine pz_if_eq (pc' := 13) (tgt := 42) rfl (pz_dc dX10_ring 6 rfl) (by decide) (fun hc => ?_) (fun hc => ?_)
  · replace hb := hb.1 hc
    refine pz_iconst (pc' := 43) (v := (-1)) rfl (pz_dc dX10_ring 21 rfl) ki_m1 ?_
    exact pz_iret (pz_dc dX10_ring 22 rfl) rfl hb
  · replace hb := hb.2 hc
    refine pz_iload_n (pc' := 14) (x := l2) 2 rfl (pz_dc dX10_ring 7 rfl) rfl ?_
    refine pz_iconst (pc' := 15) (v := 0) rfl (pz_dc dX10_ring 8 rfl) ki_0 ?_
    refine pz_bipush (pc' := 17) (v := 20) rfl (pz_dc dX10_ring 9 rfl) kb_20 ?_
    refine pz_callS (M := mX10_ring) (N := mX10_in) (d' := 0) (bc1 := 0) (bs1 := 0) (bc2 := bc) (bs2 := bs) (pc' := 20) [.int l2, .int 0, .int 20] sX10_104 rfl (pz_dc dX10_ring 10 rfl) rfl (Nat.le_of_ble_eq_true rfl) (Nat.le_of_ble_eq_true rfl) rfl (by omega) (by omega) (by omega) ?_
    refine cX10_in ?_
    show pz_V mX10_ring _ _ _ _ _ 20 [(0, .ref l0), (1, .int l1), (2, .int l2), (3, .int l3)] [.int (eX10_in l2 ((0 : Int32)) ((20 : Int32)))] h1
    refine pz_if_eq (pc' := 23) (tgt := 42) rfl (pz_dc dX10_ring 11 rfl) (by decide) (fun hc => ?_) (fun hc => ?_)
    · replace hb := hb.1 hc
      refine pz_iconst (pc' := 43) (v := (-1)) rfl (pz_dc dX10_ring 21 rfl) ki_m1 ?_
      exact pz_iret (pz_dc dX10_ring 22 rfl) rfl hb
    · replace hb := hb.2 hc
      refine pz_iload_n (pc' := 24) (x := l3) 3 rfl (pz_dc dX10_ring 12 rfl) rfl ?_
      refine pz_iconst (pc' := 25) (v := 0) rfl (pz_dc dX10_ring 13 rfl) ki_0 ?_
      refine pz_bipush (pc' := 27) (v := 99) rfl (pz_dc dX10_ring 14 rfl) kb_99 ?_
      refine pz_callS (M := mX10_ring) (N := mX10_in) (d' := 0) (bc1 := 0) (bs1 := 0) (bc2 := bc) (bs2 := bs) (pc' := 30) [.int l3, .int 0, .int 99] sX10_104 rfl (pz_dc dX10_ring 15 rfl) rfl (Nat.le_of_ble_eq_true rfl) (Nat.le_of_ble_eq_true rfl) rfl (by omega) (by omega) (by omega) ?_
      refine cX10_in ?_
      show pz_V mX10_ring _ _ _ _ _ 30 [(0, .ref l0), (1, .int l1), (2, .int l2), (3, .int l3)] [.int (eX10_in l3 ((0 : Int32)) ((99 : Int32)))] h1
      refine pz_if_eq (pc' := 33) (tgt := 42) rfl (pz_dc dX10_ring 16 rfl) (by decide) (fun hc => ?_) (fun hc => ?_)
      · replace hb := hb.1 hc
        refine pz_iconst (pc' := 43) (v := (-1)) rfl (pz_dc dX10_ring 21 rfl) ki_m1 ?_
        exact pz_iret (pz_dc dX10_ring 22 rfl) rfl hb
      · replace hb := hb.2 hc
        refine pz_aload_n (pc' := 34) (x := l0) 0 rfl (pz_dc dX10_ring 17 rfl) rfl ?_
        refine pz_getI (M := mX10_ring) hb fX10_308 (pc' := 37) rfl (pz_dc dX10_ring 18 rfl) (fun x6 hb => ?_)
        refine pz_bipush (pc' := 39) (v := 10) rfl (pz_dc dX10_ring 19 rfl) kb_10 ?_
        refine pz_icmp_ne (pc' := 42) (tgt := 44) rfl (pz_dc dX10_ring 20 rfl) (by decide) (fun hc => ?_) (fun hc => ?_)
        · replace hb := hb.1 hc
          refine pz_aload_n (pc' := 45) (x := l0) 0 rfl (pz_dc dX10_ring 23 rfl) rfl ?_
          refine pz_getR (M := mX10_ring) hb fX10_64 (pc' := 48) rfl (pz_dc dX10_ring 24 rfl) (fun a7 hb => ?_)
          refine pz_aload_n (pc' := 49) (x := l0) 0 rfl (pz_dc dX10_ring 25 rfl) rfl ?_
          refine pz_getI (M := mX10_ring) hb fX10_308 (pc' := 52) rfl (pz_dc dX10_ring 26 rfl) (fun x8 hb => ?_)
          refine pz_iload_n (pc' := 53) (x := l1) 1 rfl (pz_dc dX10_ring 27 rfl) rfl ?_
          refine pz_stI hb (pc' := 54) rfl (pz_dc dX10_ring 28 rfl) (fun h9 hb => ?_)
          refine pz_aload_n (pc' := 55) (x := l0) 0 rfl (pz_dc dX10_ring 29 rfl) rfl ?_
          refine pz_getR (M := mX10_ring) hb fX10_67 (pc' := 58) rfl (pz_dc dX10_ring 30 rfl) (fun a10 hb => ?_)
          refine pz_aload_n (pc' := 59) (x := l0) 0 rfl (pz_dc dX10_ring 31 rfl) rfl ?_
          refine pz_getI (M := mX10_ring) hb fX10_308 (pc' := 62) rfl (pz_dc dX10_ring 32 rfl) (fun x11 hb => ?_)
          refine pz_iload_n (pc' := 63) (x := l2) 2 rfl (pz_dc dX10_ring 33 rfl) rfl ?_
          refine pz_stI hb (pc' := 64) rfl (pz_dc dX10_ring 34 rfl) (fun h12 hb => ?_)
          refine pz_aload_n (pc' := 65) (x := l0) 0 rfl (pz_dc dX10_ring 35 rfl) rfl ?_
          refine pz_getR (M := mX10_ring) hb fX10_70 (pc' := 68) rfl (pz_dc dX10_ring 36 rfl) (fun a13 hb => ?_)
          refine pz_aload_n (pc' := 69) (x := l0) 0 rfl (pz_dc dX10_ring 37 rfl) rfl ?_
          refine pz_getI (M := mX10_ring) hb fX10_308 (pc' := 72) rfl (pz_dc dX10_ring 38 rfl) (fun x14 hb => ?_)
          refine pz_iload_n (pc' := 73) (x := l3) 3 rfl (pz_dc dX10_ring 39 rfl) rfl ?_
          refine pz_stI hb (pc' := 74) rfl (pz_dc dX10_ring 40 rfl) (fun h15 hb => ?_)
          refine pz_aload_n (pc' := 75) (x := l0) 0 rfl (pz_dc dX10_ring 41 rfl) rfl ?_
          refine pz_dup (pc' := 76) rfl (pz_dc dX10_ring 42 rfl) rfl ?_
          refine pz_getI (M := mX10_ring) hb fX10_308 (pc' := 79) rfl (pz_dc dX10_ring 43 rfl) (fun x16 hb => ?_)
          refine pz_iconst (pc' := 80) (v := 1) rfl (pz_dc dX10_ring 44 rfl) ki_1 ?_
          refine pz_iadd (pc' := 81) rfl (pz_dc dX10_ring 45 rfl) ?_
          refine pz_putv (M := mX10_ring) hb (pX10_308 _ rfl) rfl rfl (pc' := 84) rfl (pz_dc dX10_ring 46 rfl) (fun h17 hb => ?_)
          refine pz_aload_n (pc' := 85) (x := l0) 0 rfl (pz_dc dX10_ring 47 rfl) rfl ?_
          refine pz_getI (M := mX10_ring) hb fX10_308 (pc' := 88) rfl (pz_dc dX10_ring 48 rfl) (fun x18 hb => ?_)
          exact pz_iret (pz_dc dX10_ring 49 rfl) rfl hb
        · replace hb := hb.2 hc
          refine pz_iconst (pc' := 43) (v := (-1)) rfl (pz_dc dX10_ring 21 rfl) ki_m1 ?_
          exact pz_iret (pz_dc dX10_ring 22 rfl) rfl hb
set_option maxRecDepth 20000 in
set_option maxHeartbeats 4000000 in
theorem wX10_washes_0 {Ex : State → Nat → Prop} {Q : Option Value → pz_H → Prop} {d bc bs : Nat} {l0 : Nat}  {h : pz_H}  (hb : pz_pF h l0 10 9 (.int 0) (fun (h1 : pz_H) => pz_gI h1 l0 10 33 (fun (x2 : Int32) => pz_pF h1 l0 10 33 (.int 0) (fun (h3 : pz_H) => Q (some (.int x2)) h3)))) : pz_V mX10_washes Ex Q d bc bs 0 [(0, .ref l0)] [] h := by
  refine pz_aload_n (pc' := 1) (x := l0) 0 rfl (pz_dc dX10_washes 0 rfl) rfl ?_
  refine pz_iconst (pc' := 2) (v := 0) rfl (pz_dc dX10_washes 1 rfl) ki_0 ?_
  refine pz_putv (M := mX10_washes) hb (pX10_95 _ rfl) rfl rfl (pc' := 5) rfl (pz_dc dX10_washes 2 rfl) (fun h1 hb => ?_)
  refine pz_aload_n (pc' := 6) (x := l0) 0 rfl (pz_dc dX10_washes 3 rfl) rfl ?_
  refine pz_getI (M := mX10_washes) hb fX10_308 (pc' := 9) rfl (pz_dc dX10_washes 4 rfl) (fun x2 hb => ?_)
  refine pz_istore_n (pc' := 10) (lv' := [(1, .int x2), (0, .ref l0)]) rfl (pz_dc dX10_washes 5 rfl) (by decide) rfl ?_
  refine pz_aload_n (pc' := 11) (x := l0) 1 rfl (pz_dc dX10_washes 6 rfl) rfl ?_
  refine pz_iconst (pc' := 12) (v := 0) rfl (pz_dc dX10_washes 7 rfl) ki_0 ?_
  refine pz_putv (M := mX10_washes) hb (pX10_308 _ rfl) rfl rfl (pc' := 15) rfl (pz_dc dX10_washes 8 rfl) (fun h3 hb => ?_)
  refine pz_iload_n (pc' := 16) (x := x2) 0 rfl (pz_dc dX10_washes 9 rfl) rfl ?_
  exact pz_iret (pz_dc dX10_washes 10 rfl) rfl hb
set_option maxRecDepth 20000 in
set_option maxHeartbeats 4000000 in
theorem wX10_isRight_0 {Ex : State → Nat → Prop} {Q : Option Value → pz_H → Prop} {d bc bs : Nat} {l0 : Nat} {l1 : Int32} {l2 : Int32}  {h : pz_H} (hD : 83 ≤ d) (hb : pz_pF h l0 10 27 (.int l1) (fun (h1 : pz_H) => pz_pF h1 l0 10 28 (.int l2) (fun (h2 : pz_H) => pz_gR h2 l0 10 0 (fun (a3 : Nat) => pz_gR h2 l0 10 24 (fun (a4 : Nat) => pz_kv mX10_lay 0 0 0 ([.ref a3, .ref a4, .int 0]) h2 (fun (h5 : pz_H) => pz_V mX10_isRight Ex Q d bc bs 27 [(0, .ref l0), (3, .int 1), (4, .int 0)] [] h5)))))) : pz_V mX10_isRight Ex Q d bc bs 0 [(0, .ref l0), (1, .int l1), (2, .int l2)] [] h := by
  refine pz_aload_n (pc' := 1) (x := l0) 0 rfl (pz_dc dX10_isRight 0 rfl) rfl ?_
  refine pz_iload_n (pc' := 2) (x := l1) 1 rfl (pz_dc dX10_isRight 1 rfl) rfl ?_
  refine pz_putv (M := mX10_isRight) hb (pX10_57 _ rfl) rfl rfl (pc' := 5) rfl (pz_dc dX10_isRight 2 rfl) (fun h1 hb => ?_)
  refine pz_aload_n (pc' := 6) (x := l0) 0 rfl (pz_dc dX10_isRight 3 rfl) rfl ?_
  refine pz_iload_n (pc' := 7) (x := l2) 2 rfl (pz_dc dX10_isRight 4 rfl) rfl ?_
  refine pz_putv (M := mX10_isRight) hb (pX10_234 _ rfl) rfl rfl (pc' := 10) rfl (pz_dc dX10_isRight 5 rfl) (fun h2 hb => ?_)
  refine pz_aload_n (pc' := 11) (x := l0) 0 rfl (pz_dc dX10_isRight 6 rfl) rfl ?_
  refine pz_getR (M := mX10_isRight) hb fX10_9 (pc' := 14) rfl (pz_dc dX10_isRight 7 rfl) (fun a3 hb => ?_)
  refine pz_aload_n (pc' := 15) (x := l0) 0 rfl (pz_dc dX10_isRight 8 rfl) rfl ?_
  refine pz_getR (M := mX10_isRight) hb fX10_48 (pc' := 18) rfl (pz_dc dX10_isRight 9 rfl) (fun a4 hb => ?_)
  refine pz_iconst (pc' := 19) (v := 0) rfl (pz_dc dX10_isRight 10 rfl) ki_0 ?_
  refine pz_cSv (M := mX10_isRight) (N := mX10_lay) (d' := 0) (bc1 := 0) (bs1 := 0) (bc2 := bc) (bs2 := bs) (pc' := 22) [.ref a3, .ref a4, .int 0] hb sX10_230 rfl (pz_dc dX10_isRight 11 rfl) rfl (Nat.le_of_ble_eq_true rfl) (Nat.le_of_ble_eq_true rfl) rfl (by omega) (by omega) (by omega) (fun h5 hb => ?_)
  refine pz_iconst (pc' := 23) (v := 1) rfl (pz_dc dX10_isRight 12 rfl) ki_1 ?_
  refine pz_istore_n (pc' := 24) (lv' := [(3, .int 1), (0, .ref l0), (1, .int l1), (2, .int l2)]) rfl (pz_dc dX10_isRight 13 rfl) (by decide) rfl ?_
  refine pz_iconst (pc' := 25) (v := 0) rfl (pz_dc dX10_isRight 14 rfl) ki_0 ?_
  refine pz_istore (pc' := 27) (lv' := [(4, .int 0), (3, .int 1), (0, .ref l0), (1, .int l1), (2, .int l2)]) rfl (pz_dc dX10_isRight 15 rfl) (by decide) rfl ?_
  refine pz_lv (lv' := [(0, .ref l0), (3, .int 1), (4, .int 0)]) [2, 1, 0] rfl ?_
  exact hb
set_option maxRecDepth 20000 in
set_option maxHeartbeats 4000000 in
theorem wX10_isRight_27 {Ex : State → Nat → Prop} {Q : Option Value → pz_H → Prop} {d bc bs : Nat} {l0 : Nat} {l3 : Int32} {l4 : Int32}  {h : pz_H} (hD : 83 ≤ d) (hb : (((20 : Int32)) < l4 → pz_pF h l0 10 27 (.int (-1)) (fun (h1 : pz_H) => (l3 = 0 ∨ l3 = 1) ∧ Q (some (.int l3)) h1)) ∧ (¬ ((20 : Int32)) < l4 → pz_V mX10_isRight Ex Q d bc bs 37 [(0, .ref l0), (3, .int l3), (4, .int l4), (5, .int 0)] [] h)) : pz_V mX10_isRight Ex Q d bc bs 27 [(0, .ref l0), (3, .int l3), (4, .int l4)] [] h := by
  refine pz_iload (pc' := 29) (x := l4) 2 rfl (pz_dc dX10_isRight 16 rfl) rfl ?_
  refine pz_bipush (pc' := 31) (v := 20) rfl (pz_dc dX10_isRight 17 rfl) kb_20 ?_
  refine pz_icmp_gt (pc' := 34) (tgt := 110) rfl (pz_dc dX10_isRight 18 rfl) (by decide) (fun hc => ?_) (fun hc => ?_)
  · replace hb := hb.1 hc
    refine pz_aload_n (pc' := 111) (x := l0) 0 rfl (pz_dc dX10_isRight 57 rfl) rfl ?_
    refine pz_iconst (pc' := 112) (v := (-1)) rfl (pz_dc dX10_isRight 58 rfl) ki_m1 ?_
    refine pz_putv (M := mX10_isRight) hb (pX10_57 _ rfl) rfl rfl (pc' := 115) rfl (pz_dc dX10_isRight 59 rfl) (fun h1 hb => ?_)
    refine pz_iload_n (pc' := 116) (x := l3) 1 rfl (pz_dc dX10_isRight 60 rfl) rfl ?_
    exact pz_zret (pz_dc dX10_isRight 61 rfl) rfl hb
  · replace hb := hb.2 hc
    refine pz_iconst (pc' := 35) (v := 0) rfl (pz_dc dX10_isRight 19 rfl) ki_0 ?_
    refine pz_istore (pc' := 37) (lv' := [(5, .int 0), (0, .ref l0), (3, .int l3), (4, .int l4)]) rfl (pz_dc dX10_isRight 20 rfl) (by decide) rfl ?_
    refine pz_lv (lv' := [(0, .ref l0), (3, .int l3), (4, .int l4), (5, .int 0)]) [1, 2, 3, 0] rfl ?_
    exact hb
set_option maxRecDepth 20000 in
set_option maxHeartbeats 4000000 in
theorem wX10_isRight_37 {Ex : State → Nat → Prop} {Q : Option Value → pz_H → Prop} {d bc bs : Nat} {l0 : Nat} {l3 : Int32} {l4 : Int32} {l5 : Int32}  {h : pz_H} (hD : 83 ≤ d) (hb : pz_gI h l0 10 33 (fun (x1 : Int32) => (x1 ≤ l5 → pz_gR h l0 10 24 (fun (a2 : Nat) => pz_is h l0 10 ∧ (pz_kv mX10_goDay 82 0 0 (.ref l0 :: [.ref a2]) h (fun (h3 : pz_H) => pz_V mX10_isRight Ex Q d bc bs 27 [(0, .ref l0), (3, .int l3), (4, .int (l4 + (1 : Int32)))] [] h3)))) ∧ (¬ x1 ≤ l5 → (l3 = 0 → pz_V mX10_isRight Ex Q d bc bs 37 [(0, .ref l0), (3, .int 0), (4, .int l4), (5, .int (l5 + (1 : Int32)))] [] h) ∧ (¬ l3 = 0 → pz_gR h l0 10 31 (fun (a4 : Nat) => pz_rI h a4 l5 (fun (x5 : Int32) => (¬ x5 = l4 → pz_V mX10_isRight Ex Q d bc bs 37 [(0, .ref l0), (3, .int 1), (4, .int l4), (5, .int (l5 + (1 : Int32)))] [] h) ∧ (x5 = l4 → pz_gR h l0 10 24 (fun (a6 : Nat) => pz_gR h l0 10 30 (fun (a7 : Nat) => pz_rI h a7 l5 (fun (x8 : Int32) => pz_rI h a6 x8 (fun (x9 : Int32) => pz_gR h l0 10 32 (fun (a10 : Nat) => pz_rI h a10 l5 (fun (x11 : Int32) => (¬ x9 = x11 → pz_V mX10_isRight Ex Q d bc bs 37 [(0, .ref l0), (3, .int 0), (4, .int l4), (5, .int (l5 + (1 : Int32)))] [] h) ∧ (x9 = x11 → pz_V mX10_isRight Ex Q d bc bs 37 [(0, .ref l0), (3, .int 1), (4, .int l4), (5, .int (l5 + (1 : Int32)))] [] h)))))))))))))) : pz_V mX10_isRight Ex Q d bc bs 37 [(0, .ref l0), (3, .int l3), (4, .int l4), (5, .int l5)] [] h := by
  refine pz_iload (pc' := 39) (x := l5) 3 rfl (pz_dc dX10_isRight 21 rfl) rfl ?_
  refine pz_aload_n (pc' := 40) (x := l0) 0 rfl (pz_dc dX10_isRight 22 rfl) rfl ?_
  refine pz_getI (M := mX10_isRight) hb fX10_308 (pc' := 43) rfl (pz_dc dX10_isRight 23 rfl) (fun x1 hb => ?_)
  refine pz_icmp_ge (pc' := 46) (tgt := 96) rfl (pz_dc dX10_isRight 24 rfl) (by decide) (fun hc => ?_) (fun hc => ?_)
  · replace hb := hb.1 hc
    refine pz_aload_n (pc' := 97) (x := l0) 0 rfl (pz_dc dX10_isRight 51 rfl) rfl ?_
    refine pz_aload_n (pc' := 98) (x := l0) 0 rfl (pz_dc dX10_isRight 52 rfl) rfl ?_
    refine pz_getR (M := mX10_isRight) hb fX10_48 (pc' := 101) rfl (pz_dc dX10_isRight 53 rfl) (fun a2 hb => ?_)
    refine pz_cVv (M := mX10_isRight) (N := mX10_goDay) (d' := 82) (bc1 := 0) (bs1 := 0) (bc2 := bc) (bs2 := bs) (pc' := 104) [.ref a2] hb vX10_237 rfl (pz_dc dX10_isRight 54 rfl) rfl (Nat.le_of_ble_eq_true rfl) (Nat.le_of_ble_eq_true rfl) rfl (by omega) (by omega) (by omega) (fun h3 hb => ?_)
    refine pz_iinc (pc' := 107) (x := l4) (v := l4 + (1 : Int32)) (lv' := [(4, .int (l4 + (1 : Int32))), (0, .ref l0), (3, .int l3), (5, .int l5)]) 2 rfl (pz_dc dX10_isRight 55 rfl) rfl rfl (by decide) rfl ?_
    refine pz_goto (pc' := 27) (pz_dc dX10_isRight 56 rfl) (by decide) ?_
    refine pz_lv (lv' := [(0, .ref l0), (3, .int l3), (4, .int (l4 + (1 : Int32)))]) [1, 2, 0] rfl ?_
    exact hb
  · replace hb := hb.2 hc
    refine pz_iload_n (pc' := 47) (x := l3) 1 rfl (pz_dc dX10_isRight 25 rfl) rfl ?_
    refine pz_if_eq (pc' := 50) (tgt := 88) rfl (pz_dc dX10_isRight 26 rfl) (by decide) (fun hc => ?_) (fun hc => ?_)
    · replace hb := hb.1 hc
      refine pz_iconst (pc' := 89) (v := 0) rfl (pz_dc dX10_isRight 47 rfl) ki_0 ?_
      refine pz_istore_n (pc' := 90) (lv' := [(3, .int 0), (0, .ref l0), (4, .int l4), (5, .int l5)]) rfl (pz_dc dX10_isRight 48 rfl) (by decide) rfl ?_
      refine pz_iinc (pc' := 93) (x := l5) (v := l5 + (1 : Int32)) (lv' := [(5, .int (l5 + (1 : Int32))), (3, .int 0), (0, .ref l0), (4, .int l4)]) 3 rfl (pz_dc dX10_isRight 49 rfl) rfl rfl (by decide) rfl ?_
      refine pz_goto (pc' := 37) (pz_dc dX10_isRight 50 rfl) (by decide) ?_
      refine pz_lv (lv' := [(0, .ref l0), (3, .int 0), (4, .int l4), (5, .int (l5 + (1 : Int32)))]) [2, 1, 3, 0] rfl ?_
      exact hb
    · replace hb := hb.2 hc
      refine pz_aload_n (pc' := 51) (x := l0) 0 rfl (pz_dc dX10_isRight 27 rfl) rfl ?_
      refine pz_getR (M := mX10_isRight) hb fX10_67 (pc' := 54) rfl (pz_dc dX10_isRight 28 rfl) (fun a4 hb => ?_)
      refine pz_iload (pc' := 56) (x := l5) 3 rfl (pz_dc dX10_isRight 29 rfl) rfl ?_
      refine pz_ldI hb (pc' := 57) rfl (pz_dc dX10_isRight 30 rfl) (fun x5 hb => ?_)
      refine pz_iload (pc' := 59) (x := l4) 2 rfl (pz_dc dX10_isRight 31 rfl) rfl ?_
      refine pz_icmp_ne (pc' := 62) (tgt := 84) rfl (pz_dc dX10_isRight 32 rfl) (by decide) (fun hc => ?_) (fun hc => ?_)
      · replace hb := hb.1 hc
        refine pz_iconst (pc' := 85) (v := 1) rfl (pz_dc dX10_isRight 45 rfl) ki_1 ?_
        refine pz_goto (pc' := 89) (pz_dc dX10_isRight 46 rfl) (by decide) ?_
        refine pz_istore_n (pc' := 90) (lv' := [(3, .int 1), (0, .ref l0), (4, .int l4), (5, .int l5)]) rfl (pz_dc dX10_isRight 48 rfl) (by decide) rfl ?_
        refine pz_iinc (pc' := 93) (x := l5) (v := l5 + (1 : Int32)) (lv' := [(5, .int (l5 + (1 : Int32))), (3, .int 1), (0, .ref l0), (4, .int l4)]) 3 rfl (pz_dc dX10_isRight 49 rfl) rfl rfl (by decide) rfl ?_
        refine pz_goto (pc' := 37) (pz_dc dX10_isRight 50 rfl) (by decide) ?_
        refine pz_lv (lv' := [(0, .ref l0), (3, .int 1), (4, .int l4), (5, .int (l5 + (1 : Int32)))]) [2, 1, 3, 0] rfl ?_
        exact hb
      · replace hb := hb.2 hc
        refine pz_aload_n (pc' := 63) (x := l0) 0 rfl (pz_dc dX10_isRight 33 rfl) rfl ?_
        refine pz_getR (M := mX10_isRight) hb fX10_48 (pc' := 66) rfl (pz_dc dX10_isRight 34 rfl) (fun a6 hb => ?_)
        refine pz_aload_n (pc' := 67) (x := l0) 0 rfl (pz_dc dX10_isRight 35 rfl) rfl ?_
        refine pz_getR (M := mX10_isRight) hb fX10_64 (pc' := 70) rfl (pz_dc dX10_isRight 36 rfl) (fun a7 hb => ?_)
        refine pz_iload (pc' := 72) (x := l5) 3 rfl (pz_dc dX10_isRight 37 rfl) rfl ?_
        refine pz_ldI hb (pc' := 73) rfl (pz_dc dX10_isRight 38 rfl) (fun x8 hb => ?_)
        refine pz_ldI hb (pc' := 74) rfl (pz_dc dX10_isRight 39 rfl) (fun x9 hb => ?_)
        refine pz_aload_n (pc' := 75) (x := l0) 0 rfl (pz_dc dX10_isRight 40 rfl) rfl ?_
        refine pz_getR (M := mX10_isRight) hb fX10_70 (pc' := 78) rfl (pz_dc dX10_isRight 41 rfl) (fun a10 hb => ?_)
        refine pz_iload (pc' := 80) (x := l5) 3 rfl (pz_dc dX10_isRight 42 rfl) rfl ?_
        refine pz_ldI hb (pc' := 81) rfl (pz_dc dX10_isRight 43 rfl) (fun x11 hb => ?_)
        refine pz_icmp_ne (pc' := 84) (tgt := 88) rfl (pz_dc dX10_isRight 44 rfl) (by decide) (fun hc => ?_) (fun hc => ?_)
        · replace hb := hb.1 hc
          refine pz_iconst (pc' := 89) (v := 0) rfl (pz_dc dX10_isRight 47 rfl) ki_0 ?_
          refine pz_istore_n (pc' := 90) (lv' := [(3, .int 0), (0, .ref l0), (4, .int l4), (5, .int l5)]) rfl (pz_dc dX10_isRight 48 rfl) (by decide) rfl ?_
          refine pz_iinc (pc' := 93) (x := l5) (v := l5 + (1 : Int32)) (lv' := [(5, .int (l5 + (1 : Int32))), (3, .int 0), (0, .ref l0), (4, .int l4)]) 3 rfl (pz_dc dX10_isRight 49 rfl) rfl rfl (by decide) rfl ?_
          refine pz_goto (pc' := 37) (pz_dc dX10_isRight 50 rfl) (by decide) ?_
          refine pz_lv (lv' := [(0, .ref l0), (3, .int 0), (4, .int l4), (5, .int (l5 + (1 : Int32)))]) [2, 1, 3, 0] rfl ?_
          exact hb
        · replace hb := hb.2 hc
          refine pz_iconst (pc' := 85) (v := 1) rfl (pz_dc dX10_isRight 45 rfl) ki_1 ?_
          refine pz_goto (pc' := 89) (pz_dc dX10_isRight 46 rfl) (by decide) ?_
          refine pz_istore_n (pc' := 90) (lv' := [(3, .int 1), (0, .ref l0), (4, .int l4), (5, .int l5)]) rfl (pz_dc dX10_isRight 48 rfl) (by decide) rfl ?_
          refine pz_iinc (pc' := 93) (x := l5) (v := l5 + (1 : Int32)) (lv' := [(5, .int (l5 + (1 : Int32))), (3, .int 1), (0, .ref l0), (4, .int l4)]) 3 rfl (pz_dc dX10_isRight 49 rfl) rfl rfl (by decide) rfl ?_
          refine pz_goto (pc' := 37) (pz_dc dX10_isRight 50 rfl) (by decide) ?_
          refine pz_lv (lv' := [(0, .ref l0), (3, .int 1), (4, .int l4), (5, .int (l5 + (1 : Int32)))]) [2, 1, 3, 0] rfl ?_
          exact hb
set_option maxRecDepth 20000 in
set_option maxHeartbeats 4000000 in
theorem wX10_leaks_0 {Ex : State → Nat → Prop} {Q : Option Value → pz_H → Prop} {d bc bs : Nat} {l0 : Nat}  {h : pz_H} (hD : 84 ≤ d) (hb : pz_pF h l0 10 9 (.int 0) (fun (h1 : pz_H) => pz_pF h1 l0 10 8 (.int 0) (fun (h2 : pz_H) => pz_is h2 l0 10 ∧ (pz_ki mX10_isRight 83 0 0 (.ref l0 :: [.int ((-1)), .int 0]) h2 (fun (x4 : Int32) (h3 : pz_H) => (x4 = 0 → pz_is h3 l0 10 ∧ (pz_kv mX10_tell 0 0 0 (.ref l0 :: [.long 0]) h3 (fun (h5 : pz_H) => pz_V mX10_leaks Ex Q d bc bs 32 [(0, .ref l0), (1, .int 0), (2, .int 0)] [] h5))) ∧ (¬ x4 = 0 → pz_is h3 l0 10 ∧ (pz_kv mX10_tell 0 0 0 (.ref l0 :: [.long 1]) h3 (fun (h6 : pz_H) => pz_V mX10_leaks Ex Q d bc bs 32 [(0, .ref l0), (1, .int 0), (2, .int 0)] [] h6)))))))) : pz_V mX10_leaks Ex Q d bc bs 0 [(0, .ref l0)] [] h := by
  refine pz_aload_n (pc' := 1) (x := l0) 0 rfl (pz_dc dX10_leaks 0 rfl) rfl ?_
  refine pz_iconst (pc' := 2) (v := 0) rfl (pz_dc dX10_leaks 1 rfl) ki_0 ?_
  refine pz_putv (M := mX10_leaks) hb (pX10_95 _ rfl) rfl rfl (pc' := 5) rfl (pz_dc dX10_leaks 2 rfl) (fun h1 hb => ?_)
  refine pz_iconst (pc' := 6) (v := 0) rfl (pz_dc dX10_leaks 3 rfl) ki_0 ?_
  refine pz_istore_n (pc' := 7) (lv' := [(1, .int 0), (0, .ref l0)]) rfl (pz_dc dX10_leaks 4 rfl) (by decide) rfl ?_
  refine pz_aload_n (pc' := 8) (x := l0) 1 rfl (pz_dc dX10_leaks 5 rfl) rfl ?_
  refine pz_iconst (pc' := 9) (v := 0) rfl (pz_dc dX10_leaks 6 rfl) ki_0 ?_
  refine pz_putv (M := mX10_leaks) hb (pX10_98 _ rfl) rfl rfl (pc' := 12) rfl (pz_dc dX10_leaks 7 rfl) (fun h2 hb => ?_)
  refine pz_aload_n (pc' := 13) (x := l0) 1 rfl (pz_dc dX10_leaks 8 rfl) rfl ?_
  refine pz_aload_n (pc' := 14) (x := l0) 1 rfl (pz_dc dX10_leaks 9 rfl) rfl ?_
  refine pz_iconst (pc' := 15) (v := (-1)) rfl (pz_dc dX10_leaks 10 rfl) ki_m1 ?_
  refine pz_iconst (pc' := 16) (v := 0) rfl (pz_dc dX10_leaks 11 rfl) ki_0 ?_
  refine pz_cVi (M := mX10_leaks) (N := mX10_isRight) (d' := 83) (bc1 := 0) (bs1 := 0) (bc2 := bc) (bs2 := bs) (pc' := 19) [.int ((-1)), .int 0] hb vX10_311 rfl (pz_dc dX10_leaks 12 rfl) rfl (Nat.le_of_ble_eq_true rfl) (Nat.le_of_ble_eq_true rfl) rfl (by omega) (by omega) (by omega) (fun x4 h3 hb => ?_)
  refine pz_if_eq (pc' := 22) (tgt := 26) rfl (pz_dc dX10_leaks 13 rfl) (by decide) (fun hc => ?_) (fun hc => ?_)
  · replace hb := hb.1 hc
    refine pz_lconst (pc' := 27) (v := 0) rfl (pz_dc dX10_leaks 16 rfl) rfl ?_
    refine pz_cVv (M := mX10_leaks) (N := mX10_tell) (d' := 0) (bc1 := 0) (bs1 := 0) (bc2 := bc) (bs2 := bs) (pc' := 30) [.long 0] hb vX10_248 rfl (pz_dc dX10_leaks 17 rfl) rfl (Nat.le_of_ble_eq_true rfl) (Nat.le_of_ble_eq_true rfl) rfl (by omega) (by omega) (by omega) (fun h5 hb => ?_)
    refine pz_iconst (pc' := 31) (v := 0) rfl (pz_dc dX10_leaks 18 rfl) ki_0 ?_
    refine pz_istore_n (pc' := 32) (lv' := [(2, .int 0), (1, .int 0), (0, .ref l0)]) rfl (pz_dc dX10_leaks 19 rfl) (by decide) rfl ?_
    refine pz_lv (lv' := [(0, .ref l0), (1, .int 0), (2, .int 0)]) [2, 1, 0] rfl ?_
    exact hb
  · replace hb := hb.2 hc
    refine pz_lconst (pc' := 23) (v := 1) rfl (pz_dc dX10_leaks 14 rfl) rfl ?_
    refine pz_goto (pc' := 27) (pz_dc dX10_leaks 15 rfl) (by decide) ?_
    refine pz_cVv (M := mX10_leaks) (N := mX10_tell) (d' := 0) (bc1 := 0) (bs1 := 0) (bc2 := bc) (bs2 := bs) (pc' := 30) [.long 1] hb vX10_248 rfl (pz_dc dX10_leaks 17 rfl) rfl (Nat.le_of_ble_eq_true rfl) (Nat.le_of_ble_eq_true rfl) rfl (by omega) (by omega) (by omega) (fun h6 hb => ?_)
    refine pz_iconst (pc' := 31) (v := 0) rfl (pz_dc dX10_leaks 18 rfl) ki_0 ?_
    refine pz_istore_n (pc' := 32) (lv' := [(2, .int 0), (1, .int 0), (0, .ref l0)]) rfl (pz_dc dX10_leaks 19 rfl) (by decide) rfl ?_
    refine pz_lv (lv' := [(0, .ref l0), (1, .int 0), (2, .int 0)]) [2, 1, 0] rfl ?_
    exact hb
set_option maxRecDepth 20000 in
set_option maxHeartbeats 4000000 in
theorem wX10_leaks_32 {Ex : State → Nat → Prop} {Q : Option Value → pz_H → Prop} {d bc bs : Nat} {l0 : Nat} {l1 : Int32} {l2 : Int32}  {h : pz_H} (hD : 84 ≤ d) (hb : pz_gI h l0 10 1 (fun (x1 : Int32) => (x1 ≤ l2 → Q (some (.int l1)) h) ∧ (¬ x1 ≤ l2 → pz_V mX10_leaks Ex Q d bc bs 42 [(0, .ref l0), (1, .int l1), (2, .int l2), (3, .int 1)] [] h))) : pz_V mX10_leaks Ex Q d bc bs 32 [(0, .ref l0), (1, .int l1), (2, .int l2)] [] h := by
  refine pz_iload_n (pc' := 33) (x := l2) 2 rfl (pz_dc dX10_leaks 20 rfl) rfl ?_
  refine pz_aload_n (pc' := 34) (x := l0) 0 rfl (pz_dc dX10_leaks 21 rfl) rfl ?_
  refine pz_getI (M := mX10_leaks) hb fX10_101 (pc' := 37) rfl (pz_dc dX10_leaks 22 rfl) (fun x1 hb => ?_)
  refine pz_icmp_ge (pc' := 40) (tgt := 91) rfl (pz_dc dX10_leaks 23 rfl) (by decide) (fun hc => ?_) (fun hc => ?_)
  · replace hb := hb.1 hc
    refine pz_iload_n (pc' := 92) (x := l1) 1 rfl (pz_dc dX10_leaks 50 rfl) rfl ?_
    exact pz_iret (pz_dc dX10_leaks 51 rfl) rfl hb
  · replace hb := hb.2 hc
    refine pz_iconst (pc' := 41) (v := 1) rfl (pz_dc dX10_leaks 24 rfl) ki_1 ?_
    refine pz_istore_n (pc' := 42) (lv' := [(3, .int 1), (0, .ref l0), (1, .int l1), (2, .int l2)]) rfl (pz_dc dX10_leaks 25 rfl) (by decide) rfl ?_
    refine pz_lv (lv' := [(0, .ref l0), (1, .int l1), (2, .int l2), (3, .int 1)]) [1, 2, 3, 0] rfl ?_
    exact hb
set_option maxRecDepth 20000 in
set_option maxHeartbeats 4000000 in
theorem wX10_leaks_42 {Ex : State → Nat → Prop} {Q : Option Value → pz_H → Prop} {d bc bs : Nat} {l0 : Nat} {l1 : Int32} {l2 : Int32} {l3 : Int32}  {h : pz_H} (hD : 84 ≤ d) (hb : (((9 : Int32)) < l3 → pz_V mX10_leaks Ex Q d bc bs 32 [(0, .ref l0), (1, .int l1), (2, .int (l2 + (1 : Int32)))] [] h) ∧ (¬ ((9 : Int32)) < l3 → pz_is h l0 10 ∧ (pz_ki mX10_isRight 83 0 0 (.ref l0 :: [.int l2, .int l3]) h (fun (x2 : Int32) (h1 : pz_H) => (¬ x2 = 0 → (¬ l1 = 0 → pz_V mX10_leaks Ex Q d bc bs 42 [(0, .ref l0), (1, .int (l1 + (1 : Int32))), (2, .int l2), (3, .int (l3 + (1 : Int32)))] [] h1) ∧ (l1 = 0 → pz_is h1 l0 10 ∧ (pz_kv mX10_tell 0 0 0 (.ref l0 :: [.long l2.toInt64]) h1 (fun (h3 : pz_H) => pz_is h3 l0 10 ∧ (pz_kv mX10_tell 0 0 0 (.ref l0 :: [.long l3.toInt64]) h3 (fun (h4 : pz_H) => pz_V mX10_leaks Ex Q d bc bs 42 [(0, .ref l0), (1, .int (l1 + (1 : Int32))), (2, .int l2), (3, .int (l3 + (1 : Int32)))] [] h4)))))) ∧ (x2 = 0 → pz_V mX10_leaks Ex Q d bc bs 42 [(0, .ref l0), (1, .int l1), (2, .int l2), (3, .int (l3 + (1 : Int32)))] [] h1))))) : pz_V mX10_leaks Ex Q d bc bs 42 [(0, .ref l0), (1, .int l1), (2, .int l2), (3, .int l3)] [] h := by
  refine pz_iload_n (pc' := 43) (x := l3) 3 rfl (pz_dc dX10_leaks 26 rfl) rfl ?_
  refine pz_bipush (pc' := 45) (v := 9) rfl (pz_dc dX10_leaks 27 rfl) kb_9 ?_
  refine pz_icmp_gt (pc' := 48) (tgt := 85) rfl (pz_dc dX10_leaks 28 rfl) (by decide) (fun hc => ?_) (fun hc => ?_)
  · replace hb := hb.1 hc
    refine pz_iinc (pc' := 88) (x := l2) (v := l2 + (1 : Int32)) (lv' := [(2, .int (l2 + (1 : Int32))), (0, .ref l0), (1, .int l1), (3, .int l3)]) 2 rfl (pz_dc dX10_leaks 48 rfl) rfl rfl (by decide) rfl ?_
    refine pz_goto (pc' := 32) (pz_dc dX10_leaks 49 rfl) (by decide) ?_
    refine pz_lv (lv' := [(0, .ref l0), (1, .int l1), (2, .int (l2 + (1 : Int32)))]) [1, 2, 0] rfl ?_
    exact hb
  · replace hb := hb.2 hc
    refine pz_aload_n (pc' := 49) (x := l0) 0 rfl (pz_dc dX10_leaks 29 rfl) rfl ?_
    refine pz_iload_n (pc' := 50) (x := l2) 2 rfl (pz_dc dX10_leaks 30 rfl) rfl ?_
    refine pz_iload_n (pc' := 51) (x := l3) 3 rfl (pz_dc dX10_leaks 31 rfl) rfl ?_
    refine pz_cVi (M := mX10_leaks) (N := mX10_isRight) (d' := 83) (bc1 := 0) (bs1 := 0) (bc2 := bc) (bs2 := bs) (pc' := 54) [.int l2, .int l3] hb vX10_311 rfl (pz_dc dX10_leaks 32 rfl) rfl (Nat.le_of_ble_eq_true rfl) (Nat.le_of_ble_eq_true rfl) rfl (by omega) (by omega) (by omega) (fun x2 h1 hb => ?_)
    refine pz_if_ne (pc' := 57) (tgt := 60) rfl (pz_dc dX10_leaks 33 rfl) (by decide) (fun hc => ?_) (fun hc => ?_)
    · replace hb := hb.1 hc
      refine pz_iload_n (pc' := 61) (x := l1) 1 rfl (pz_dc dX10_leaks 35 rfl) rfl ?_
      refine pz_if_ne (pc' := 64) (tgt := 76) rfl (pz_dc dX10_leaks 36 rfl) (by decide) (fun hc => ?_) (fun hc => ?_)
      · replace hb := hb.1 hc
        refine pz_iinc (pc' := 79) (x := l1) (v := l1 + (1 : Int32)) (lv' := [(1, .int (l1 + (1 : Int32))), (0, .ref l0), (2, .int l2), (3, .int l3)]) 1 rfl (pz_dc dX10_leaks 45 rfl) rfl rfl (by decide) rfl ?_
        refine pz_iinc (pc' := 82) (x := l3) (v := l3 + (1 : Int32)) (lv' := [(3, .int (l3 + (1 : Int32))), (1, .int (l1 + (1 : Int32))), (0, .ref l0), (2, .int l2)]) 3 rfl (pz_dc dX10_leaks 46 rfl) rfl rfl (by decide) rfl ?_
        refine pz_goto (pc' := 42) (pz_dc dX10_leaks 47 rfl) (by decide) ?_
        refine pz_lv (lv' := [(0, .ref l0), (1, .int (l1 + (1 : Int32))), (2, .int l2), (3, .int (l3 + (1 : Int32)))]) [2, 1, 3, 0] rfl ?_
        exact hb
      · replace hb := hb.2 hc
        refine pz_aload_n (pc' := 65) (x := l0) 0 rfl (pz_dc dX10_leaks 37 rfl) rfl ?_
        refine pz_iload_n (pc' := 66) (x := l2) 2 rfl (pz_dc dX10_leaks 38 rfl) rfl ?_
        refine pz_i2l (pc' := 67) rfl (pz_dc dX10_leaks 39 rfl) ?_
        refine pz_cVv (M := mX10_leaks) (N := mX10_tell) (d' := 0) (bc1 := 0) (bs1 := 0) (bc2 := bc) (bs2 := bs) (pc' := 70) [.long l2.toInt64] hb vX10_248 rfl (pz_dc dX10_leaks 40 rfl) rfl (Nat.le_of_ble_eq_true rfl) (Nat.le_of_ble_eq_true rfl) rfl (by omega) (by omega) (by omega) (fun h3 hb => ?_)
        refine pz_aload_n (pc' := 71) (x := l0) 0 rfl (pz_dc dX10_leaks 41 rfl) rfl ?_
        refine pz_iload_n (pc' := 72) (x := l3) 3 rfl (pz_dc dX10_leaks 42 rfl) rfl ?_
        refine pz_i2l (pc' := 73) rfl (pz_dc dX10_leaks 43 rfl) ?_
        refine pz_cVv (M := mX10_leaks) (N := mX10_tell) (d' := 0) (bc1 := 0) (bs1 := 0) (bc2 := bc) (bs2 := bs) (pc' := 76) [.long l3.toInt64] hb vX10_248 rfl (pz_dc dX10_leaks 44 rfl) rfl (Nat.le_of_ble_eq_true rfl) (Nat.le_of_ble_eq_true rfl) rfl (by omega) (by omega) (by omega) (fun h4 hb => ?_)
        refine pz_iinc (pc' := 79) (x := l1) (v := l1 + (1 : Int32)) (lv' := [(1, .int (l1 + (1 : Int32))), (0, .ref l0), (2, .int l2), (3, .int l3)]) 1 rfl (pz_dc dX10_leaks 45 rfl) rfl rfl (by decide) rfl ?_
        refine pz_iinc (pc' := 82) (x := l3) (v := l3 + (1 : Int32)) (lv' := [(3, .int (l3 + (1 : Int32))), (1, .int (l1 + (1 : Int32))), (0, .ref l0), (2, .int l2)]) 3 rfl (pz_dc dX10_leaks 46 rfl) rfl rfl (by decide) rfl ?_
        refine pz_goto (pc' := 42) (pz_dc dX10_leaks 47 rfl) (by decide) ?_
        refine pz_lv (lv' := [(0, .ref l0), (1, .int (l1 + (1 : Int32))), (2, .int l2), (3, .int (l3 + (1 : Int32)))]) [2, 1, 3, 0] rfl ?_
        exact hb
    · replace hb := hb.2 hc
      refine pz_goto (pc' := 79) (pz_dc dX10_leaks 34 rfl) (by decide) ?_
      refine pz_iinc (pc' := 82) (x := l3) (v := l3 + (1 : Int32)) (lv' := [(3, .int (l3 + (1 : Int32))), (0, .ref l0), (1, .int l1), (2, .int l2)]) 3 rfl (pz_dc dX10_leaks 46 rfl) rfl rfl (by decide) rfl ?_
      refine pz_goto (pc' := 42) (pz_dc dX10_leaks 47 rfl) (by decide) ?_
      refine pz_lv (lv' := [(0, .ref l0), (1, .int l1), (2, .int l2), (3, .int (l3 + (1 : Int32)))]) [1, 2, 3, 0] rfl ?_
      exact hb
set_option maxRecDepth 20000 in
set_option maxHeartbeats 4000000 in
theorem wX10_cellOf_0 {Ex : State → Nat → Prop} {Q : Option Value → pz_H → Prop} {d bc bs : Nat} {l0 : Int32} {l1 : Int32}  {h : pz_H}  (hb : Q (some (.int (((((21 : Int32)) * l0) + l1) * ((100 : Int32))))) h) : pz_V mX10_cellOf Ex Q d bc bs 0 [(0, .int l0), (1, .int l1)] [] h := by
  refine pz_bipush (pc' := 2) (v := 21) rfl (pz_dc dX10_cellOf 0 rfl) kb_21 ?_
  refine pz_iload_n (pc' := 3) (x := l0) 0 rfl (pz_dc dX10_cellOf 1 rfl) rfl ?_
  refine pz_imul (pc' := 4) rfl (pz_dc dX10_cellOf 2 rfl) ?_
  refine pz_iload_n (pc' := 5) (x := l1) 1 rfl (pz_dc dX10_cellOf 3 rfl) rfl ?_
  refine pz_iadd (pc' := 6) rfl (pz_dc dX10_cellOf 4 rfl) ?_
  refine pz_bipush (pc' := 8) (v := 100) rfl (pz_dc dX10_cellOf 5 rfl) kb_100 ?_
  refine pz_imul (pc' := 9) rfl (pz_dc dX10_cellOf 6 rfl) ?_
  exact pz_iret (pz_dc dX10_cellOf 7 rfl) rfl hb
set_option maxRecDepth 20000 in
set_option maxHeartbeats 4000000 in
theorem wX10_reads_0 {Ex : State → Nat → Prop} {Q : Option Value → pz_H → Prop} {d bc bs : Nat} {l0 : Nat}  {h : pz_H} (hD : 84 ≤ d) (hb : pz_pF h l0 10 9 (.int 0) (fun (h1 : pz_H) => pz_V mX10_reads Ex Q d bc bs 7 [(0, .ref l0), (1, .int 0)] [] h1)) : pz_V mX10_reads Ex Q d bc bs 0 [(0, .ref l0)] [] h := by
  refine pz_aload_n (pc' := 1) (x := l0) 0 rfl (pz_dc dX10_reads 0 rfl) rfl ?_
  refine pz_iconst (pc' := 2) (v := 0) rfl (pz_dc dX10_reads 1 rfl) ki_0 ?_
  refine pz_putv (M := mX10_reads) hb (pX10_95 _ rfl) rfl rfl (pc' := 5) rfl (pz_dc dX10_reads 2 rfl) (fun h1 hb => ?_)
  refine pz_iconst (pc' := 6) (v := 0) rfl (pz_dc dX10_reads 3 rfl) ki_0 ?_
  refine pz_istore_n (pc' := 7) (lv' := [(1, .int 0), (0, .ref l0)]) rfl (pz_dc dX10_reads 4 rfl) (by decide) rfl ?_
  refine pz_lv (lv' := [(0, .ref l0), (1, .int 0)]) [1, 0] rfl ?_
  exact hb
set_option maxRecDepth 20000 in
set_option maxHeartbeats 4000000 in
theorem wX10_reads_7 {Ex : State → Nat → Prop} {Q : Option Value → pz_H → Prop} {d bc bs : Nat} {l0 : Nat} {l1 : Int32}  {h : pz_H} (hD : 84 ≤ d) (hb : (((12600 : Int32)) ≤ l1 → pz_V mX10_reads Ex Q d bc bs 31 [(0, .ref l0), (1, .int 0), (2, .int 0)] [] h) ∧ (¬ ((12600 : Int32)) ≤ l1 → pz_gR h l0 10 34 (fun (a1 : Nat) => pz_sI h a1 l1 0 (fun (h2 : pz_H) => pz_V mX10_reads Ex Q d bc bs 7 [(0, .ref l0), (1, .int (l1 + (1 : Int32)))] [] h2)))) : pz_V mX10_reads Ex Q d bc bs 7 [(0, .ref l0), (1, .int l1)] [] h := by
  refine pz_iload_n (pc' := 8) (x := l1) 1 rfl (pz_dc dX10_reads 5 rfl) rfl ?_
  refine pz_sipush (pc' := 11) (v := 12600) rfl (pz_dc dX10_reads 6 rfl) ks_12600 ?_
  refine pz_icmp_ge (pc' := 14) (tgt := 27) rfl (pz_dc dX10_reads 7 rfl) (by decide) (fun hc => ?_) (fun hc => ?_)
  · replace hb := hb.1 hc
    refine pz_iconst (pc' := 28) (v := 0) rfl (pz_dc dX10_reads 15 rfl) ki_0 ?_
    refine pz_istore_n (pc' := 29) (lv' := [(1, .int 0), (0, .ref l0)]) rfl (pz_dc dX10_reads 16 rfl) (by decide) rfl ?_
    refine pz_iconst (pc' := 30) (v := 0) rfl (pz_dc dX10_reads 17 rfl) ki_0 ?_
    refine pz_istore_n (pc' := 31) (lv' := [(2, .int 0), (1, .int 0), (0, .ref l0)]) rfl (pz_dc dX10_reads 18 rfl) (by decide) rfl ?_
    refine pz_lv (lv' := [(0, .ref l0), (1, .int 0), (2, .int 0)]) [2, 1, 0] rfl ?_
    exact hb
  · replace hb := hb.2 hc
    refine pz_aload_n (pc' := 15) (x := l0) 0 rfl (pz_dc dX10_reads 8 rfl) rfl ?_
    refine pz_getR (M := mX10_reads) hb fX10_73 (pc' := 18) rfl (pz_dc dX10_reads 9 rfl) (fun a1 hb => ?_)
    refine pz_iload_n (pc' := 19) (x := l1) 1 rfl (pz_dc dX10_reads 10 rfl) rfl ?_
    refine pz_iconst (pc' := 20) (v := 0) rfl (pz_dc dX10_reads 11 rfl) ki_0 ?_
    refine pz_stI hb (pc' := 21) rfl (pz_dc dX10_reads 12 rfl) (fun h2 hb => ?_)
    refine pz_iinc (pc' := 24) (x := l1) (v := l1 + (1 : Int32)) (lv' := [(1, .int (l1 + (1 : Int32))), (0, .ref l0)]) 1 rfl (pz_dc dX10_reads 13 rfl) rfl rfl (by decide) rfl ?_
    refine pz_goto (pc' := 7) (pz_dc dX10_reads 14 rfl) (by decide) ?_
    refine pz_lv (lv' := [(0, .ref l0), (1, .int (l1 + (1 : Int32)))]) [1, 0] rfl ?_
    exact hb
set_option maxRecDepth 20000 in
set_option maxHeartbeats 4000000 in
theorem wX10_reads_31 {Ex : State → Nat → Prop} {Q : Option Value → pz_H → Prop} {d bc bs : Nat} {l0 : Nat} {l1 : Int32} {l2 : Int32}  {h : pz_H} (hD : 84 ≤ d) (hb : pz_gI h l0 10 1 (fun (x1 : Int32) => (x1 ≤ l2 → (¬ l1 = 0 → pz_V mX10_reads Ex Q d bc bs 182 [(0, .ref l0), (2, .int ((-1))), (3, .int 1000000), (4, .int 0)] [] h) ∧ (l1 = 0 → Q (some (.int ((-2)))) h)) ∧ (¬ x1 ≤ l2 → pz_V mX10_reads Ex Q d bc bs 41 [(0, .ref l0), (1, .int l1), (2, .int l2), (3, .int 1)] [] h))) : pz_V mX10_reads Ex Q d bc bs 31 [(0, .ref l0), (1, .int l1), (2, .int l2)] [] h := by
  refine pz_iload_n (pc' := 32) (x := l2) 2 rfl (pz_dc dX10_reads 19 rfl) rfl ?_
  refine pz_aload_n (pc' := 33) (x := l0) 0 rfl (pz_dc dX10_reads 20 rfl) rfl ?_
  refine pz_getI (M := mX10_reads) hb fX10_101 (pc' := 36) rfl (pz_dc dX10_reads 21 rfl) (fun x1 hb => ?_)
  refine pz_icmp_ge (pc' := 39) (tgt := 166) rfl (pz_dc dX10_reads 22 rfl) (by decide) (fun hc => ?_) (fun hc => ?_)
  · replace hb := hb.1 hc
    refine pz_iload_n (pc' := 167) (x := l1) 1 rfl (pz_dc dX10_reads 89 rfl) rfl ?_
    refine pz_if_ne (pc' := 170) (tgt := 173) rfl (pz_dc dX10_reads 90 rfl) (by decide) (fun hc => ?_) (fun hc => ?_)
    · replace hb := hb.1 hc
      refine pz_iconst (pc' := 174) (v := (-1)) rfl (pz_dc dX10_reads 93 rfl) ki_m1 ?_
      refine pz_istore_n (pc' := 175) (lv' := [(2, .int ((-1))), (0, .ref l0), (1, .int l1)]) rfl (pz_dc dX10_reads 94 rfl) (by decide) rfl ?_
      refine pz_ldcw (M := mX10_reads) (pc' := 178) cX10_307 rfl (pz_dc dX10_reads 95 rfl) ?_
      refine pz_istore_n (pc' := 179) (lv' := [(3, .int 1000000), (2, .int ((-1))), (0, .ref l0), (1, .int l1)]) rfl (pz_dc dX10_reads 96 rfl) (by decide) rfl ?_
      refine pz_iconst (pc' := 180) (v := 0) rfl (pz_dc dX10_reads 97 rfl) ki_0 ?_
      refine pz_istore (pc' := 182) (lv' := [(4, .int 0), (3, .int 1000000), (2, .int ((-1))), (0, .ref l0), (1, .int l1)]) rfl (pz_dc dX10_reads 98 rfl) (by decide) rfl ?_
      refine pz_lv (lv' := [(0, .ref l0), (2, .int ((-1))), (3, .int 1000000), (4, .int 0)]) [3, 2, 1, 0] rfl ?_
      exact hb
    · replace hb := hb.2 hc
      refine pz_bipush (pc' := 172) (v := (-2)) rfl (pz_dc dX10_reads 91 rfl) kb_m2 ?_
      exact pz_iret (pz_dc dX10_reads 92 rfl) rfl hb
  · replace hb := hb.2 hc
    refine pz_iconst (pc' := 40) (v := 1) rfl (pz_dc dX10_reads 23 rfl) ki_1 ?_
    refine pz_istore_n (pc' := 41) (lv' := [(3, .int 1), (0, .ref l0), (1, .int l1), (2, .int l2)]) rfl (pz_dc dX10_reads 24 rfl) (by decide) rfl ?_
    refine pz_lv (lv' := [(0, .ref l0), (1, .int l1), (2, .int l2), (3, .int 1)]) [1, 2, 3, 0] rfl ?_
    exact hb
set_option maxRecDepth 20000 in
set_option maxHeartbeats 4000000 in
theorem wX10_reads_182 {Ex : State → Nat → Prop} {Q : Option Value → pz_H → Prop} {d bc bs : Nat} {l0 : Nat} {l2 : Int32} {l3 : Int32} {l4 : Int32}  {h : pz_H} (hD : 84 ≤ d) (hb : pz_gI h l0 10 1 (fun (x1 : Int32) => (x1 ≤ l4 → pz_pF h l0 10 8 (.int 0) (fun (h2 : pz_H) => pz_is h2 l0 10 ∧ (pz_kv mX10_tell 0 0 0 (.ref l0 :: [.long l3.toInt64]) h2 (fun (h3 : pz_H) => Q (some (.int l2)) h3)))) ∧ (¬ x1 ≤ l4 → pz_V mX10_reads Ex Q d bc bs 194 [(0, .ref l0), (2, .int l2), (3, .int l3), (4, .int l4), (5, .int 0)] [] h))) : pz_V mX10_reads Ex Q d bc bs 182 [(0, .ref l0), (2, .int l2), (3, .int l3), (4, .int l4)] [] h := by
  refine pz_iload (pc' := 184) (x := l4) 3 rfl (pz_dc dX10_reads 99 rfl) rfl ?_
  refine pz_aload_n (pc' := 185) (x := l0) 0 rfl (pz_dc dX10_reads 100 rfl) rfl ?_
  refine pz_getI (M := mX10_reads) hb fX10_101 (pc' := 188) rfl (pz_dc dX10_reads 101 rfl) (fun x1 hb => ?_)
  refine pz_icmp_ge (pc' := 191) (tgt := 275) rfl (pz_dc dX10_reads 102 rfl) (by decide) (fun hc => ?_) (fun hc => ?_)
  · replace hb := hb.1 hc
    refine pz_aload_n (pc' := 276) (x := l0) 0 rfl (pz_dc dX10_reads 144 rfl) rfl ?_
    refine pz_iconst (pc' := 277) (v := 0) rfl (pz_dc dX10_reads 145 rfl) ki_0 ?_
    refine pz_putv (M := mX10_reads) hb (pX10_98 _ rfl) rfl rfl (pc' := 280) rfl (pz_dc dX10_reads 146 rfl) (fun h2 hb => ?_)
    refine pz_aload_n (pc' := 281) (x := l0) 0 rfl (pz_dc dX10_reads 147 rfl) rfl ?_
    refine pz_iload_n (pc' := 282) (x := l3) 2 rfl (pz_dc dX10_reads 148 rfl) rfl ?_
    refine pz_i2l (pc' := 283) rfl (pz_dc dX10_reads 149 rfl) ?_
    refine pz_cVv (M := mX10_reads) (N := mX10_tell) (d' := 0) (bc1 := 0) (bs1 := 0) (bc2 := bc) (bs2 := bs) (pc' := 286) [.long l3.toInt64] hb vX10_248 rfl (pz_dc dX10_reads 150 rfl) rfl (Nat.le_of_ble_eq_true rfl) (Nat.le_of_ble_eq_true rfl) rfl (by omega) (by omega) (by omega) (fun h3 hb => ?_)
    refine pz_iload_n (pc' := 287) (x := l2) 1 rfl (pz_dc dX10_reads 151 rfl) rfl ?_
    exact pz_iret (pz_dc dX10_reads 152 rfl) rfl hb
  · replace hb := hb.2 hc
    refine pz_iconst (pc' := 192) (v := 0) rfl (pz_dc dX10_reads 103 rfl) ki_0 ?_
    refine pz_istore (pc' := 194) (lv' := [(5, .int 0), (0, .ref l0), (2, .int l2), (3, .int l3), (4, .int l4)]) rfl (pz_dc dX10_reads 104 rfl) (by decide) rfl ?_
    refine pz_lv (lv' := [(0, .ref l0), (2, .int l2), (3, .int l3), (4, .int l4), (5, .int 0)]) [1, 2, 3, 4, 0] rfl ?_
    exact hb
set_option maxRecDepth 20000 in
set_option maxHeartbeats 4000000 in
theorem wX10_reads_41 {Ex : State → Nat → Prop} {Q : Option Value → pz_H → Prop} {d bc bs : Nat} {l0 : Nat} {l1 : Int32} {l2 : Int32} {l3 : Int32}  {h : pz_H} (hD : 84 ≤ d) (hb : (((9 : Int32)) < l3 → pz_V mX10_reads Ex Q d bc bs 31 [(0, .ref l0), (1, .int l1), (2, .int (l2 + (1 : Int32)))] [] h) ∧ (¬ ((9 : Int32)) < l3 → pz_is h l0 10 ∧ (pz_ki mX10_isRight 83 0 0 (.ref l0 :: [.int l2, .int l3]) h (fun (x2 : Int32) (h1 : pz_H) => (¬ x2 = 0 → pz_pF h1 l0 10 27 (.int l2) (fun (h3 : pz_H) => pz_pF h3 l0 10 28 (.int l3) (fun (h4 : pz_H) => pz_gR h4 l0 10 0 (fun (a5 : Nat) => pz_gR h4 l0 10 24 (fun (a6 : Nat) => pz_kv mX10_lay 0 0 0 ([.ref a5, .ref a6, .int 0]) h4 (fun (h7 : pz_H) => pz_V mX10_reads Ex Q d bc bs 86 [(0, .ref l0), (1, .int 1), (2, .int l2), (3, .int l3), (4, .int 0)] [] h7)))))) ∧ (x2 = 0 → pz_V mX10_reads Ex Q d bc bs 41 [(0, .ref l0), (1, .int l1), (2, .int l2), (3, .int (l3 + (1 : Int32)))] [] h1))))) : pz_V mX10_reads Ex Q d bc bs 41 [(0, .ref l0), (1, .int l1), (2, .int l2), (3, .int l3)] [] h := by
  refine pz_iload_n (pc' := 42) (x := l3) 3 rfl (pz_dc dX10_reads 25 rfl) rfl ?_
  refine pz_bipush (pc' := 44) (v := 9) rfl (pz_dc dX10_reads 26 rfl) kb_9 ?_
  refine pz_icmp_gt (pc' := 47) (tgt := 160) rfl (pz_dc dX10_reads 27 rfl) (by decide) (fun hc => ?_) (fun hc => ?_)
  · replace hb := hb.1 hc
    refine pz_iinc (pc' := 163) (x := l2) (v := l2 + (1 : Int32)) (lv' := [(2, .int (l2 + (1 : Int32))), (0, .ref l0), (1, .int l1), (3, .int l3)]) 2 rfl (pz_dc dX10_reads 87 rfl) rfl rfl (by decide) rfl ?_
    refine pz_goto (pc' := 31) (pz_dc dX10_reads 88 rfl) (by decide) ?_
    refine pz_lv (lv' := [(0, .ref l0), (1, .int l1), (2, .int (l2 + (1 : Int32)))]) [1, 2, 0] rfl ?_
    exact hb
  · replace hb := hb.2 hc
    refine pz_aload_n (pc' := 48) (x := l0) 0 rfl (pz_dc dX10_reads 28 rfl) rfl ?_
    refine pz_iload_n (pc' := 49) (x := l2) 2 rfl (pz_dc dX10_reads 29 rfl) rfl ?_
    refine pz_iload_n (pc' := 50) (x := l3) 3 rfl (pz_dc dX10_reads 30 rfl) rfl ?_
    refine pz_cVi (M := mX10_reads) (N := mX10_isRight) (d' := 83) (bc1 := 0) (bs1 := 0) (bc2 := bc) (bs2 := bs) (pc' := 53) [.int l2, .int l3] hb vX10_311 rfl (pz_dc dX10_reads 31 rfl) rfl (Nat.le_of_ble_eq_true rfl) (Nat.le_of_ble_eq_true rfl) rfl (by omega) (by omega) (by omega) (fun x2 h1 hb => ?_)
    refine pz_if_ne (pc' := 56) (tgt := 59) rfl (pz_dc dX10_reads 32 rfl) (by decide) (fun hc => ?_) (fun hc => ?_)
    · replace hb := hb.1 hc
      refine pz_iconst (pc' := 60) (v := 1) rfl (pz_dc dX10_reads 34 rfl) ki_1 ?_
      refine pz_istore_n (pc' := 61) (lv' := [(1, .int 1), (0, .ref l0), (2, .int l2), (3, .int l3)]) rfl (pz_dc dX10_reads 35 rfl) (by decide) rfl ?_
      refine pz_aload_n (pc' := 62) (x := l0) 1 rfl (pz_dc dX10_reads 36 rfl) rfl ?_
      refine pz_iload_n (pc' := 63) (x := l2) 2 rfl (pz_dc dX10_reads 37 rfl) rfl ?_
      refine pz_putv (M := mX10_reads) hb (pX10_57 _ rfl) rfl rfl (pc' := 66) rfl (pz_dc dX10_reads 38 rfl) (fun h3 hb => ?_)
      refine pz_aload_n (pc' := 67) (x := l0) 1 rfl (pz_dc dX10_reads 39 rfl) rfl ?_
      refine pz_iload_n (pc' := 68) (x := l3) 3 rfl (pz_dc dX10_reads 40 rfl) rfl ?_
      refine pz_putv (M := mX10_reads) hb (pX10_234 _ rfl) rfl rfl (pc' := 71) rfl (pz_dc dX10_reads 41 rfl) (fun h4 hb => ?_)
      refine pz_aload_n (pc' := 72) (x := l0) 1 rfl (pz_dc dX10_reads 42 rfl) rfl ?_
      refine pz_getR (M := mX10_reads) hb fX10_9 (pc' := 75) rfl (pz_dc dX10_reads 43 rfl) (fun a5 hb => ?_)
      refine pz_aload_n (pc' := 76) (x := l0) 1 rfl (pz_dc dX10_reads 44 rfl) rfl ?_
      refine pz_getR (M := mX10_reads) hb fX10_48 (pc' := 79) rfl (pz_dc dX10_reads 45 rfl) (fun a6 hb => ?_)
      refine pz_iconst (pc' := 80) (v := 0) rfl (pz_dc dX10_reads 46 rfl) ki_0 ?_
      refine pz_cSv (M := mX10_reads) (N := mX10_lay) (d' := 0) (bc1 := 0) (bs1 := 0) (bc2 := bc) (bs2 := bs) (pc' := 83) [.ref a5, .ref a6, .int 0] hb sX10_230 rfl (pz_dc dX10_reads 47 rfl) rfl (Nat.le_of_ble_eq_true rfl) (Nat.le_of_ble_eq_true rfl) rfl (by omega) (by omega) (by omega) (fun h7 hb => ?_)
      refine pz_iconst (pc' := 84) (v := 0) rfl (pz_dc dX10_reads 48 rfl) ki_0 ?_
      refine pz_istore (pc' := 86) (lv' := [(4, .int 0), (1, .int 1), (0, .ref l0), (2, .int l2), (3, .int l3)]) rfl (pz_dc dX10_reads 49 rfl) (by decide) rfl ?_
      refine pz_lv (lv' := [(0, .ref l0), (1, .int 1), (2, .int l2), (3, .int l3), (4, .int 0)]) [2, 1, 3, 4, 0] rfl ?_
      exact hb
    · replace hb := hb.2 hc
      refine pz_goto (pc' := 154) (pz_dc dX10_reads 33 rfl) (by decide) ?_
      refine pz_iinc (pc' := 157) (x := l3) (v := l3 + (1 : Int32)) (lv' := [(3, .int (l3 + (1 : Int32))), (0, .ref l0), (1, .int l1), (2, .int l2)]) 3 rfl (pz_dc dX10_reads 85 rfl) rfl rfl (by decide) rfl ?_
      refine pz_goto (pc' := 41) (pz_dc dX10_reads 86 rfl) (by decide) ?_
      refine pz_lv (lv' := [(0, .ref l0), (1, .int l1), (2, .int l2), (3, .int (l3 + (1 : Int32)))]) [1, 2, 3, 0] rfl ?_
      exact hb
set_option maxRecDepth 20000 in
set_option maxHeartbeats 4000000 in
theorem wX10_reads_194 {Ex : State → Nat → Prop} {Q : Option Value → pz_H → Prop} {d bc bs : Nat} {l0 : Nat} {l2 : Int32} {l3 : Int32} {l4 : Int32} {l5 : Int32}  {h : pz_H} (hD : 84 ≤ d) (hb : (((20 : Int32)) < l5 → pz_V mX10_reads Ex Q d bc bs 182 [(0, .ref l0), (2, .int l2), (3, .int l3), (4, .int (l4 + (1 : Int32)))] [] h) ∧ (¬ ((20 : Int32)) < l5 → pz_V mX10_reads Ex Q d bc bs 207 [(0, .ref l0), (2, .int l2), (3, .int l3), (4, .int l4), (5, .int l5), (6, .int 0), (7, .int 0)] [] h)) : pz_V mX10_reads Ex Q d bc bs 194 [(0, .ref l0), (2, .int l2), (3, .int l3), (4, .int l4), (5, .int l5)] [] h := by
  refine pz_iload (pc' := 196) (x := l5) 4 rfl (pz_dc dX10_reads 105 rfl) rfl ?_
  refine pz_bipush (pc' := 198) (v := 20) rfl (pz_dc dX10_reads 106 rfl) kb_20 ?_
  refine pz_icmp_gt (pc' := 201) (tgt := 269) rfl (pz_dc dX10_reads 107 rfl) (by decide) (fun hc => ?_) (fun hc => ?_)
  · replace hb := hb.1 hc
    refine pz_iinc (pc' := 272) (x := l4) (v := l4 + (1 : Int32)) (lv' := [(4, .int (l4 + (1 : Int32))), (0, .ref l0), (2, .int l2), (3, .int l3), (5, .int l5)]) 3 rfl (pz_dc dX10_reads 142 rfl) rfl rfl (by decide) rfl ?_
    refine pz_goto (pc' := 182) (pz_dc dX10_reads 143 rfl) (by decide) ?_
    refine pz_lv (lv' := [(0, .ref l0), (2, .int l2), (3, .int l3), (4, .int (l4 + (1 : Int32)))]) [1, 2, 3, 0] rfl ?_
    exact hb
  · replace hb := hb.2 hc
    refine pz_iconst (pc' := 202) (v := 0) rfl (pz_dc dX10_reads 108 rfl) ki_0 ?_
    refine pz_istore (pc' := 204) (lv' := [(6, .int 0), (0, .ref l0), (2, .int l2), (3, .int l3), (4, .int l4), (5, .int l5)]) rfl (pz_dc dX10_reads 109 rfl) (by decide) rfl ?_
    refine pz_iconst (pc' := 205) (v := 0) rfl (pz_dc dX10_reads 110 rfl) ki_0 ?_
    refine pz_istore (pc' := 207) (lv' := [(7, .int 0), (6, .int 0), (0, .ref l0), (2, .int l2), (3, .int l3), (4, .int l4), (5, .int l5)]) rfl (pz_dc dX10_reads 111 rfl) (by decide) rfl ?_
    refine pz_lv (lv' := [(0, .ref l0), (2, .int l2), (3, .int l3), (4, .int l4), (5, .int l5), (6, .int 0), (7, .int 0)]) [2, 3, 4, 5, 6, 1, 0] rfl ?_
    exact hb
set_option maxRecDepth 20000 in
set_option maxHeartbeats 4000000 in
theorem wX10_reads_86 {Ex : State → Nat → Prop} {Q : Option Value → pz_H → Prop} {d bc bs : Nat} {l0 : Nat} {l1 : Int32} {l2 : Int32} {l3 : Int32} {l4 : Int32}  {h : pz_H} (hD : 84 ≤ d) (hb : (((20 : Int32)) < l4 → pz_pF h l0 10 27 (.int (-1)) (fun (h1 : pz_H) => pz_V mX10_reads Ex Q d bc bs 41 [(0, .ref l0), (1, .int l1), (2, .int l2), (3, .int (l3 + (1 : Int32)))] [] h1)) ∧ (¬ ((20 : Int32)) < l4 → pz_V mX10_reads Ex Q d bc bs 96 [(0, .ref l0), (1, .int l1), (2, .int l2), (3, .int l3), (4, .int l4), (5, .int 0)] [] h)) : pz_V mX10_reads Ex Q d bc bs 86 [(0, .ref l0), (1, .int l1), (2, .int l2), (3, .int l3), (4, .int l4)] [] h := by
  refine pz_iload (pc' := 88) (x := l4) 4 rfl (pz_dc dX10_reads 50 rfl) rfl ?_
  refine pz_bipush (pc' := 90) (v := 20) rfl (pz_dc dX10_reads 51 rfl) kb_20 ?_
  refine pz_icmp_gt (pc' := 93) (tgt := 149) rfl (pz_dc dX10_reads 52 rfl) (by decide) (fun hc => ?_) (fun hc => ?_)
  · replace hb := hb.1 hc
    refine pz_aload_n (pc' := 150) (x := l0) 0 rfl (pz_dc dX10_reads 82 rfl) rfl ?_
    refine pz_iconst (pc' := 151) (v := (-1)) rfl (pz_dc dX10_reads 83 rfl) ki_m1 ?_
    refine pz_putv (M := mX10_reads) hb (pX10_57 _ rfl) rfl rfl (pc' := 154) rfl (pz_dc dX10_reads 84 rfl) (fun h1 hb => ?_)
    refine pz_iinc (pc' := 157) (x := l3) (v := l3 + (1 : Int32)) (lv' := [(3, .int (l3 + (1 : Int32))), (0, .ref l0), (1, .int l1), (2, .int l2), (4, .int l4)]) 3 rfl (pz_dc dX10_reads 85 rfl) rfl rfl (by decide) rfl ?_
    refine pz_goto (pc' := 41) (pz_dc dX10_reads 86 rfl) (by decide) ?_
    refine pz_lv (lv' := [(0, .ref l0), (1, .int l1), (2, .int l2), (3, .int (l3 + (1 : Int32)))]) [1, 2, 3, 0] rfl ?_
    exact hb
  · replace hb := hb.2 hc
    refine pz_iconst (pc' := 94) (v := 0) rfl (pz_dc dX10_reads 53 rfl) ki_0 ?_
    refine pz_istore (pc' := 96) (lv' := [(5, .int 0), (0, .ref l0), (1, .int l1), (2, .int l2), (3, .int l3), (4, .int l4)]) rfl (pz_dc dX10_reads 54 rfl) (by decide) rfl ?_
    refine pz_lv (lv' := [(0, .ref l0), (1, .int l1), (2, .int l2), (3, .int l3), (4, .int l4), (5, .int 0)]) [1, 2, 3, 4, 5, 0] rfl ?_
    exact hb
set_option maxRecDepth 20000 in
set_option maxHeartbeats 4000000 in
theorem wX10_reads_207 {Ex : State → Nat → Prop} {Q : Option Value → pz_H → Prop} {d bc bs : Nat} {l0 : Nat} {l2 : Int32} {l3 : Int32} {l4 : Int32} {l5 : Int32} {l6 : Int32} {l7 : Int32}  {h : pz_H} (hD : 84 ≤ d) (hb : (((99 : Int32)) < l7 → (l6 < l3 → pz_V mX10_reads Ex Q d bc bs 194 [(0, .ref l0), (2, .int ((((21 : Int32)) * l4) + l5)), (3, .int l6), (4, .int l4), (5, .int (l5 + (1 : Int32)))] [] h) ∧ (¬ l6 < l3 → pz_V mX10_reads Ex Q d bc bs 194 [(0, .ref l0), (2, .int l2), (3, .int l3), (4, .int l4), (5, .int (l5 + (1 : Int32)))] [] h)) ∧ (¬ ((99 : Int32)) < l7 → pz_gR h l0 10 34 (fun (a1 : Nat) => pz_rI h a1 ((((((21 : Int32)) * l4) + l5) * ((100 : Int32))) + l7) (fun (x2 : Int32) => pz_V mX10_reads Ex Q d bc bs 207 [(0, .ref l0), (2, .int l2), (3, .int l3), (4, .int l4), (5, .int l5), (6, .int (if l6 < x2 then x2 else l6)), (7, .int (l7 + (1 : Int32)))] [] h)))) : pz_V mX10_reads Ex Q d bc bs 207 [(0, .ref l0), (2, .int l2), (3, .int l3), (4, .int l4), (5, .int l5), (6, .int l6), (7, .int l7)] [] h := by
  refine pz_iload (pc' := 209) (x := l7) 6 rfl (pz_dc dX10_reads 112 rfl) rfl ?_
  refine pz_bipush (pc' := 211) (v := 99) rfl (pz_dc dX10_reads 113 rfl) kb_99 ?_
  refine pz_icmp_gt (pc' := 214) (tgt := 242) rfl (pz_dc dX10_reads 114 rfl) (by decide) (fun hc => ?_) (fun hc => ?_)
  · replace hb := hb.1 hc
    refine pz_iload (pc' := 244) (x := l6) 5 rfl (pz_dc dX10_reads 128 rfl) rfl ?_
    refine pz_iload_n (pc' := 245) (x := l3) 2 rfl (pz_dc dX10_reads 129 rfl) rfl ?_
    refine pz_icmp_lt (pc' := 248) (tgt := 251) rfl (pz_dc dX10_reads 130 rfl) (by decide) (fun hc => ?_) (fun hc => ?_)
    · replace hb := hb.1 hc
      refine pz_bipush (pc' := 253) (v := 21) rfl (pz_dc dX10_reads 132 rfl) kb_21 ?_
      refine pz_iload (pc' := 255) (x := l4) 3 rfl (pz_dc dX10_reads 133 rfl) rfl ?_
      refine pz_imul (pc' := 256) rfl (pz_dc dX10_reads 134 rfl) ?_
      refine pz_iload (pc' := 258) (x := l5) 4 rfl (pz_dc dX10_reads 135 rfl) rfl ?_
      refine pz_iadd (pc' := 259) rfl (pz_dc dX10_reads 136 rfl) ?_
      refine pz_istore_n (pc' := 260) (lv' := [(2, .int ((((21 : Int32)) * l4) + l5)), (0, .ref l0), (3, .int l3), (4, .int l4), (5, .int l5), (6, .int l6), (7, .int l7)]) rfl (pz_dc dX10_reads 137 rfl) (by decide) rfl ?_
      refine pz_iload (pc' := 262) (x := l6) 5 rfl (pz_dc dX10_reads 138 rfl) rfl ?_
      refine pz_istore_n (pc' := 263) (lv' := [(3, .int l6), (2, .int ((((21 : Int32)) * l4) + l5)), (0, .ref l0), (4, .int l4), (5, .int l5), (6, .int l6), (7, .int l7)]) rfl (pz_dc dX10_reads 139 rfl) (by decide) rfl ?_
      refine pz_iinc (pc' := 266) (x := l5) (v := l5 + (1 : Int32)) (lv' := [(5, .int (l5 + (1 : Int32))), (3, .int l6), (2, .int ((((21 : Int32)) * l4) + l5)), (0, .ref l0), (4, .int l4), (6, .int l6), (7, .int l7)]) 4 rfl (pz_dc dX10_reads 140 rfl) rfl rfl (by decide) rfl ?_
      refine pz_goto (pc' := 194) (pz_dc dX10_reads 141 rfl) (by decide) ?_
      refine pz_lv (lv' := [(0, .ref l0), (2, .int ((((21 : Int32)) * l4) + l5)), (3, .int l6), (4, .int l4), (5, .int (l5 + (1 : Int32)))]) [3, 2, 1, 4, 0] rfl ?_
      exact hb
    · replace hb := hb.2 hc
      refine pz_goto (pc' := 263) (pz_dc dX10_reads 131 rfl) (by decide) ?_
      refine pz_iinc (pc' := 266) (x := l5) (v := l5 + (1 : Int32)) (lv' := [(5, .int (l5 + (1 : Int32))), (0, .ref l0), (2, .int l2), (3, .int l3), (4, .int l4), (6, .int l6), (7, .int l7)]) 4 rfl (pz_dc dX10_reads 140 rfl) rfl rfl (by decide) rfl ?_
      refine pz_goto (pc' := 194) (pz_dc dX10_reads 141 rfl) (by decide) ?_
      refine pz_lv (lv' := [(0, .ref l0), (2, .int l2), (3, .int l3), (4, .int l4), (5, .int (l5 + (1 : Int32)))]) [1, 2, 3, 4, 0] rfl ?_
      exact hb
  · replace hb := hb.2 hc
    refine pz_iload (pc' := 216) (x := l6) 5 rfl (pz_dc dX10_reads 115 rfl) rfl ?_
    refine pz_aload_n (pc' := 217) (x := l0) 0 rfl (pz_dc dX10_reads 116 rfl) rfl ?_
    refine pz_getR (M := mX10_reads) hb fX10_73 (pc' := 220) rfl (pz_dc dX10_reads 117 rfl) (fun a1 hb => ?_)
    refine pz_iload (pc' := 222) (x := l4) 3 rfl (pz_dc dX10_reads 118 rfl) rfl ?_
    refine pz_iload (pc' := 224) (x := l5) 4 rfl (pz_dc dX10_reads 119 rfl) rfl ?_
    refine pz_callS (M := mX10_reads) (N := mX10_cellOf) (d' := 0) (bc1 := 0) (bs1 := 0) (bc2 := bc) (bs2 := bs) (pc' := 227) [.int l4, .int l5] sX10_314 rfl (pz_dc dX10_reads 120 rfl) rfl (Nat.le_of_ble_eq_true rfl) (Nat.le_of_ble_eq_true rfl) rfl (by omega) (by omega) (by omega) ?_
    refine pz_bipush (pc' := 2) (v := 21) rfl (pz_dc dX10_cellOf 0 rfl) kb_21 ?_
    refine pz_iload_n (pc' := 3) (x := l4) 0 rfl (pz_dc dX10_cellOf 1 rfl) rfl ?_
    refine pz_imul (pc' := 4) rfl (pz_dc dX10_cellOf 2 rfl) ?_
    refine pz_iload_n (pc' := 5) (x := l5) 1 rfl (pz_dc dX10_cellOf 3 rfl) rfl ?_
    refine pz_iadd (pc' := 6) rfl (pz_dc dX10_cellOf 4 rfl) ?_
    refine pz_bipush (pc' := 8) (v := 100) rfl (pz_dc dX10_cellOf 5 rfl) kb_100 ?_
    refine pz_imul (pc' := 9) rfl (pz_dc dX10_cellOf 6 rfl) ?_
    refine pz_iret (pz_dc dX10_cellOf 7 rfl) rfl ?_
    show pz_V mX10_reads _ _ _ _ _ 227 [(0, .ref l0), (2, .int l2), (3, .int l3), (4, .int l4), (5, .int l5), (6, .int l6), (7, .int l7)] [.int (((((21 : Int32)) * l4) + l5) * ((100 : Int32))), .ref a1, .int l6] h
    refine pz_iload (pc' := 229) (x := l7) 6 rfl (pz_dc dX10_reads 121 rfl) rfl ?_
    refine pz_iadd (pc' := 230) rfl (pz_dc dX10_reads 122 rfl) ?_
    refine pz_ldI hb (pc' := 231) rfl (pz_dc dX10_reads 123 rfl) (fun x2 hb => ?_)
    refine pz_max (M := mX10_reads) (pc' := 234) wX10_217 rfl (pz_dc dX10_reads 124 rfl) (Nat.le_of_ble_eq_true rfl) (by omega) ?_
    refine pz_istore (pc' := 236) (lv' := [(6, .int (if l6 < x2 then x2 else l6)), (0, .ref l0), (2, .int l2), (3, .int l3), (4, .int l4), (5, .int l5), (7, .int l7)]) rfl (pz_dc dX10_reads 125 rfl) (by decide) rfl ?_
    refine pz_iinc (pc' := 239) (x := l7) (v := l7 + (1 : Int32)) (lv' := [(7, .int (l7 + (1 : Int32))), (6, .int (if l6 < x2 then x2 else l6)), (0, .ref l0), (2, .int l2), (3, .int l3), (4, .int l4), (5, .int l5)]) 6 rfl (pz_dc dX10_reads 126 rfl) rfl rfl (by decide) rfl ?_
    refine pz_goto (pc' := 207) (pz_dc dX10_reads 127 rfl) (by decide) ?_
    refine pz_lv (lv' := [(0, .ref l0), (2, .int l2), (3, .int l3), (4, .int l4), (5, .int l5), (6, .int (if l6 < x2 then x2 else l6)), (7, .int (l7 + (1 : Int32)))]) [2, 3, 4, 5, 6, 1, 0] rfl ?_
    exact hb
set_option maxRecDepth 20000 in
set_option maxHeartbeats 4000000 in
theorem wX10_reads_96 {Ex : State → Nat → Prop} {Q : Option Value → pz_H → Prop} {d bc bs : Nat} {l0 : Nat} {l1 : Int32} {l2 : Int32} {l3 : Int32} {l4 : Int32} {l5 : Int32}  {h : pz_H} (hD : 84 ≤ d) (hb : pz_gI h l0 10 1 (fun (x1 : Int32) => (x1 ≤ l5 → pz_gR h l0 10 24 (fun (a2 : Nat) => pz_is h l0 10 ∧ (pz_kv mX10_goDay 82 0 0 (.ref l0 :: [.ref a2]) h (fun (h3 : pz_H) => pz_V mX10_reads Ex Q d bc bs 86 [(0, .ref l0), (1, .int l1), (2, .int l2), (3, .int l3), (4, .int (l4 + (1 : Int32)))] [] h3)))) ∧ (¬ x1 ≤ l5 → pz_gR h l0 10 34 (fun (a4 : Nat) => pz_gR h l0 10 24 (fun (a5 : Nat) => pz_rI h a5 l5 (fun (x6 : Int32) => pz_rI h a4 ((((((21 : Int32)) * l5) + l4) * ((100 : Int32))) + x6) (fun (x7 : Int32) => pz_sI h a4 ((((((21 : Int32)) * l5) + l4) * ((100 : Int32))) + x6) (x7 + ((1 : Int32))) (fun (h8 : pz_H) => pz_V mX10_reads Ex Q d bc bs 96 [(0, .ref l0), (1, .int l1), (2, .int l2), (3, .int l3), (4, .int l4), (5, .int (l5 + (1 : Int32)))] [] h8)))))))) : pz_V mX10_reads Ex Q d bc bs 96 [(0, .ref l0), (1, .int l1), (2, .int l2), (3, .int l3), (4, .int l4), (5, .int l5)] [] h := by
  refine pz_iload (pc' := 98) (x := l5) 5 rfl (pz_dc dX10_reads 55 rfl) rfl ?_
  refine pz_aload_n (pc' := 99) (x := l0) 0 rfl (pz_dc dX10_reads 56 rfl) rfl ?_
  refine pz_getI (M := mX10_reads) hb fX10_101 (pc' := 102) rfl (pz_dc dX10_reads 57 rfl) (fun x1 hb => ?_)
  refine pz_icmp_ge (pc' := 105) (tgt := 135) rfl (pz_dc dX10_reads 58 rfl) (by decide) (fun hc => ?_) (fun hc => ?_)
  · replace hb := hb.1 hc
    refine pz_aload_n (pc' := 136) (x := l0) 0 rfl (pz_dc dX10_reads 76 rfl) rfl ?_
    refine pz_aload_n (pc' := 137) (x := l0) 0 rfl (pz_dc dX10_reads 77 rfl) rfl ?_
    refine pz_getR (M := mX10_reads) hb fX10_48 (pc' := 140) rfl (pz_dc dX10_reads 78 rfl) (fun a2 hb => ?_)
    refine pz_cVv (M := mX10_reads) (N := mX10_goDay) (d' := 82) (bc1 := 0) (bs1 := 0) (bc2 := bc) (bs2 := bs) (pc' := 143) [.ref a2] hb vX10_237 rfl (pz_dc dX10_reads 79 rfl) rfl (Nat.le_of_ble_eq_true rfl) (Nat.le_of_ble_eq_true rfl) rfl (by omega) (by omega) (by omega) (fun h3 hb => ?_)
    refine pz_iinc (pc' := 146) (x := l4) (v := l4 + (1 : Int32)) (lv' := [(4, .int (l4 + (1 : Int32))), (0, .ref l0), (1, .int l1), (2, .int l2), (3, .int l3), (5, .int l5)]) 4 rfl (pz_dc dX10_reads 80 rfl) rfl rfl (by decide) rfl ?_
    refine pz_goto (pc' := 86) (pz_dc dX10_reads 81 rfl) (by decide) ?_
    refine pz_lv (lv' := [(0, .ref l0), (1, .int l1), (2, .int l2), (3, .int l3), (4, .int (l4 + (1 : Int32)))]) [1, 2, 3, 4, 0] rfl ?_
    exact hb
  · replace hb := hb.2 hc
    refine pz_aload_n (pc' := 106) (x := l0) 0 rfl (pz_dc dX10_reads 59 rfl) rfl ?_
    refine pz_getR (M := mX10_reads) hb fX10_73 (pc' := 109) rfl (pz_dc dX10_reads 60 rfl) (fun a4 hb => ?_)
    refine pz_iload (pc' := 111) (x := l5) 5 rfl (pz_dc dX10_reads 61 rfl) rfl ?_
    refine pz_iload (pc' := 113) (x := l4) 4 rfl (pz_dc dX10_reads 62 rfl) rfl ?_
    refine pz_callS (M := mX10_reads) (N := mX10_cellOf) (d' := 0) (bc1 := 0) (bs1 := 0) (bc2 := bc) (bs2 := bs) (pc' := 116) [.int l5, .int l4] sX10_314 rfl (pz_dc dX10_reads 63 rfl) rfl (Nat.le_of_ble_eq_true rfl) (Nat.le_of_ble_eq_true rfl) rfl (by omega) (by omega) (by omega) ?_
    refine pz_bipush (pc' := 2) (v := 21) rfl (pz_dc dX10_cellOf 0 rfl) kb_21 ?_
    refine pz_iload_n (pc' := 3) (x := l5) 0 rfl (pz_dc dX10_cellOf 1 rfl) rfl ?_
    refine pz_imul (pc' := 4) rfl (pz_dc dX10_cellOf 2 rfl) ?_
    refine pz_iload_n (pc' := 5) (x := l4) 1 rfl (pz_dc dX10_cellOf 3 rfl) rfl ?_
    refine pz_iadd (pc' := 6) rfl (pz_dc dX10_cellOf 4 rfl) ?_
    refine pz_bipush (pc' := 8) (v := 100) rfl (pz_dc dX10_cellOf 5 rfl) kb_100 ?_
    refine pz_imul (pc' := 9) rfl (pz_dc dX10_cellOf 6 rfl) ?_
    refine pz_iret (pz_dc dX10_cellOf 7 rfl) rfl ?_
    show pz_V mX10_reads _ _ _ _ _ 116 [(0, .ref l0), (1, .int l1), (2, .int l2), (3, .int l3), (4, .int l4), (5, .int l5)] [.int (((((21 : Int32)) * l5) + l4) * ((100 : Int32))), .ref a4] h
    refine pz_aload_n (pc' := 117) (x := l0) 0 rfl (pz_dc dX10_reads 64 rfl) rfl ?_
    refine pz_getR (M := mX10_reads) hb fX10_48 (pc' := 120) rfl (pz_dc dX10_reads 65 rfl) (fun a5 hb => ?_)
    refine pz_iload (pc' := 122) (x := l5) 5 rfl (pz_dc dX10_reads 66 rfl) rfl ?_
    refine pz_ldI hb (pc' := 123) rfl (pz_dc dX10_reads 67 rfl) (fun x6 hb => ?_)
    refine pz_iadd (pc' := 124) rfl (pz_dc dX10_reads 68 rfl) ?_
    refine pz_dup2 (pc' := 125) rfl (pz_dc dX10_reads 69 rfl) rfl rfl ?_
    refine pz_ldI hb (pc' := 126) rfl (pz_dc dX10_reads 70 rfl) (fun x7 hb => ?_)
    refine pz_iconst (pc' := 127) (v := 1) rfl (pz_dc dX10_reads 71 rfl) ki_1 ?_
    refine pz_iadd (pc' := 128) rfl (pz_dc dX10_reads 72 rfl) ?_
    refine pz_stI hb (pc' := 129) rfl (pz_dc dX10_reads 73 rfl) (fun h8 hb => ?_)
    refine pz_iinc (pc' := 132) (x := l5) (v := l5 + (1 : Int32)) (lv' := [(5, .int (l5 + (1 : Int32))), (0, .ref l0), (1, .int l1), (2, .int l2), (3, .int l3), (4, .int l4)]) 5 rfl (pz_dc dX10_reads 74 rfl) rfl rfl (by decide) rfl ?_
    refine pz_goto (pc' := 96) (pz_dc dX10_reads 75 rfl) (by decide) ?_
    refine pz_lv (lv' := [(0, .ref l0), (1, .int l1), (2, .int l2), (3, .int l3), (4, .int l4), (5, .int (l5 + (1 : Int32)))]) [1, 2, 3, 4, 5, 0] rfl ?_
    exact hb
set_option maxRecDepth 20000 in
set_option maxHeartbeats 4000000 in
theorem wX10_threat_0 {Ex : State → Nat → Prop} {Q : Option Value → pz_H → Prop} {d bc bs : Nat} {l0 : Nat} {l1 : Int32}  {h : pz_H} (hD : 1 ≤ d) (hb : pz_pF h l0 10 9 (.int 0) (fun (h1 : pz_H) => pz_is h1 l0 10 ∧ (pz_gI h1 l0 10 1 (fun (x2 : Int32) => (¬ (eX10_in l1 ((0 : Int32)) (eX10_all x2)) = 0 → pz_V mX10_threat Ex Q d bc bs 23 [(0, .ref l0), (1, .int l1), (2, .int 0), (3, .int 0)] [] h1) ∧ ((eX10_in l1 ((0 : Int32)) (eX10_all x2)) = 0 → Q (some (.int ((-1)))) h1))))) : pz_V mX10_threat Ex Q d bc bs 0 [(0, .ref l0), (1, .int l1)] [] h := by
  refine pz_aload_n (pc' := 1) (x := l0) 0 rfl (pz_dc dX10_threat 0 rfl) rfl ?_
  refine pz_iconst (pc' := 2) (v := 0) rfl (pz_dc dX10_threat 1 rfl) ki_0 ?_
  refine pz_putv (M := mX10_threat) hb (pX10_95 _ rfl) rfl rfl (pc' := 5) rfl (pz_dc dX10_threat 2 rfl) (fun h1 hb => ?_)
  refine pz_iload_n (pc' := 6) (x := l1) 1 rfl (pz_dc dX10_threat 3 rfl) rfl ?_
  refine pz_iconst (pc' := 7) (v := 0) rfl (pz_dc dX10_threat 4 rfl) ki_0 ?_
  refine pz_aload_n (pc' := 8) (x := l0) 0 rfl (pz_dc dX10_threat 5 rfl) rfl ?_
  obtain ⟨⟨fs6, hf7⟩, hb⟩ := hb
  obtain ⟨fs3, x2, g4, g5, hb⟩ := hb
  refine pz_callV (M := mX10_threat) (N := mX10_all) (d' := 0) (bc1 := 0) (bs1 := 0) (bc2 := bc) (bs2 := bs) (pc' := 11) [] vX10_293 rfl (pz_dc dX10_threat 6 rfl) rfl (Nat.le_of_ble_eq_true rfl) (Nat.le_of_ble_eq_true rfl) rfl (by omega) (by omega) (by omega) hf7 ?_
  refine cX10_all ⟨fs3, x2, g4, g5, ?_⟩
  show pz_V mX10_threat _ _ _ _ _ 11 [(0, .ref l0), (1, .int l1)] [.int (eX10_all x2), .int 0, .int l1] h1
  refine pz_callS (M := mX10_threat) (N := mX10_in) (d' := 0) (bc1 := 0) (bs1 := 0) (bc2 := bc) (bs2 := bs) (pc' := 14) [.int l1, .int 0, .int (eX10_all x2)] sX10_104 rfl (pz_dc dX10_threat 7 rfl) rfl (Nat.le_of_ble_eq_true rfl) (Nat.le_of_ble_eq_true rfl) rfl (by omega) (by omega) (by omega) ?_
  refine cX10_in ?_
  show pz_V mX10_threat _ _ _ _ _ 14 [(0, .ref l0), (1, .int l1)] [.int (eX10_in l1 ((0 : Int32)) (eX10_all x2))] h1
  refine pz_if_ne (pc' := 17) (tgt := 19) rfl (pz_dc dX10_threat 8 rfl) (by decide) (fun hc => ?_) (fun hc => ?_)
  · replace hb := hb.1 hc
    refine pz_iconst (pc' := 20) (v := 0) rfl (pz_dc dX10_threat 11 rfl) ki_0 ?_
    refine pz_istore_n (pc' := 21) (lv' := [(2, .int 0), (0, .ref l0), (1, .int l1)]) rfl (pz_dc dX10_threat 12 rfl) (by decide) rfl ?_
    refine pz_iconst (pc' := 22) (v := 0) rfl (pz_dc dX10_threat 13 rfl) ki_0 ?_
    refine pz_istore_n (pc' := 23) (lv' := [(3, .int 0), (2, .int 0), (0, .ref l0), (1, .int l1)]) rfl (pz_dc dX10_threat 14 rfl) (by decide) rfl ?_
    refine pz_lv (lv' := [(0, .ref l0), (1, .int l1), (2, .int 0), (3, .int 0)]) [2, 3, 1, 0] rfl ?_
    exact hb
  · replace hb := hb.2 hc
    refine pz_iconst (pc' := 18) (v := (-1)) rfl (pz_dc dX10_threat 9 rfl) ki_m1 ?_
    exact pz_iret (pz_dc dX10_threat 10 rfl) rfl hb
set_option maxRecDepth 20000 in
set_option maxHeartbeats 4000000 in
theorem wX10_threat_23 {Ex : State → Nat → Prop} {Q : Option Value → pz_H → Prop} {d bc bs : Nat} {l0 : Nat} {l1 : Int32} {l2 : Int32} {l3 : Int32}  {h : pz_H} (hD : 1 ≤ d) (hb : pz_gI h l0 10 1 (fun (x1 : Int32) => (x1 ≤ l3 → pz_pF h l0 10 8 (.int 0) (fun (h2 : pz_H) => pz_V mX10_threat Ex Q d bc bs 65 [(0, .ref l0), (1, .int l1), (2, .int l2), (3, .int 0)] [] h2)) ∧ (¬ x1 ≤ l3 → ((eX10_has l1 l3) = 0 → pz_V mX10_threat Ex Q d bc bs 23 [(0, .ref l0), (1, .int l1), (2, .int (l2 ^^^ ((0 : Int32)))), (3, .int (l3 + (1 : Int32)))] [] h) ∧ (¬ (eX10_has l1 l3) = 0 → pz_gR h l0 10 0 (fun (a3 : Nat) => pz_rI h a3 l3 (fun (x4 : Int32) => pz_V mX10_threat Ex Q d bc bs 23 [(0, .ref l0), (1, .int l1), (2, .int (l2 ^^^ x4)), (3, .int (l3 + (1 : Int32)))] [] h)))))) : pz_V mX10_threat Ex Q d bc bs 23 [(0, .ref l0), (1, .int l1), (2, .int l2), (3, .int l3)] [] h := by
  refine pz_iload_n (pc' := 24) (x := l3) 3 rfl (pz_dc dX10_threat 15 rfl) rfl ?_
  refine pz_aload_n (pc' := 25) (x := l0) 0 rfl (pz_dc dX10_threat 16 rfl) rfl ?_
  refine pz_getI (M := mX10_threat) hb fX10_101 (pc' := 28) rfl (pz_dc dX10_threat 17 rfl) (fun x1 hb => ?_)
  refine pz_icmp_ge (pc' := 31) (tgt := 58) rfl (pz_dc dX10_threat 18 rfl) (by decide) (fun hc => ?_) (fun hc => ?_)
  · replace hb := hb.1 hc
    refine pz_aload_n (pc' := 59) (x := l0) 0 rfl (pz_dc dX10_threat 34 rfl) rfl ?_
    refine pz_iconst (pc' := 60) (v := 0) rfl (pz_dc dX10_threat 35 rfl) ki_0 ?_
    refine pz_putv (M := mX10_threat) hb (pX10_98 _ rfl) rfl rfl (pc' := 63) rfl (pz_dc dX10_threat 36 rfl) (fun h2 hb => ?_)
    refine pz_iconst (pc' := 64) (v := 0) rfl (pz_dc dX10_threat 37 rfl) ki_0 ?_
    refine pz_istore_n (pc' := 65) (lv' := [(3, .int 0), (0, .ref l0), (1, .int l1), (2, .int l2)]) rfl (pz_dc dX10_threat 38 rfl) (by decide) rfl ?_
    refine pz_lv (lv' := [(0, .ref l0), (1, .int l1), (2, .int l2), (3, .int 0)]) [1, 2, 3, 0] rfl ?_
    exact hb
  · replace hb := hb.2 hc
    refine pz_iload_n (pc' := 32) (x := l2) 2 rfl (pz_dc dX10_threat 19 rfl) rfl ?_
    refine pz_iload_n (pc' := 33) (x := l1) 1 rfl (pz_dc dX10_threat 20 rfl) rfl ?_
    refine pz_iload_n (pc' := 34) (x := l3) 3 rfl (pz_dc dX10_threat 21 rfl) rfl ?_
    refine pz_callS (M := mX10_threat) (N := mX10_has) (d' := 0) (bc1 := 0) (bs1 := 0) (bc2 := bc) (bs2 := bs) (pc' := 37) [.int l1, .int l3] sX10_277 rfl (pz_dc dX10_threat 22 rfl) rfl (Nat.le_of_ble_eq_true rfl) (Nat.le_of_ble_eq_true rfl) rfl (by omega) (by omega) (by omega) ?_
    refine cX10_has ?_
    show pz_V mX10_threat _ _ _ _ _ 37 [(0, .ref l0), (1, .int l1), (2, .int l2), (3, .int l3)] [.int (eX10_has l1 l3), .int l2] h
    refine pz_if_eq (pc' := 40) (tgt := 49) rfl (pz_dc dX10_threat 23 rfl) (by decide) (fun hc => ?_) (fun hc => ?_)
    · replace hb := hb.1 hc
      refine pz_iconst (pc' := 50) (v := 0) rfl (pz_dc dX10_threat 29 rfl) ki_0 ?_
      refine pz_ixor (pc' := 51) rfl (pz_dc dX10_threat 30 rfl) ?_
      refine pz_istore_n (pc' := 52) (lv' := [(2, .int (l2 ^^^ ((0 : Int32)))), (0, .ref l0), (1, .int l1), (3, .int l3)]) rfl (pz_dc dX10_threat 31 rfl) (by decide) rfl ?_
      refine pz_iinc (pc' := 55) (x := l3) (v := l3 + (1 : Int32)) (lv' := [(3, .int (l3 + (1 : Int32))), (2, .int (l2 ^^^ ((0 : Int32)))), (0, .ref l0), (1, .int l1)]) 3 rfl (pz_dc dX10_threat 32 rfl) rfl rfl (by decide) rfl ?_
      refine pz_goto (pc' := 23) (pz_dc dX10_threat 33 rfl) (by decide) ?_
      refine pz_lv (lv' := [(0, .ref l0), (1, .int l1), (2, .int (l2 ^^^ ((0 : Int32)))), (3, .int (l3 + (1 : Int32)))]) [2, 3, 1, 0] rfl ?_
      exact hb
    · replace hb := hb.2 hc
      refine pz_aload_n (pc' := 41) (x := l0) 0 rfl (pz_dc dX10_threat 24 rfl) rfl ?_
      refine pz_getR (M := mX10_threat) hb fX10_9 (pc' := 44) rfl (pz_dc dX10_threat 25 rfl) (fun a3 hb => ?_)
      refine pz_iload_n (pc' := 45) (x := l3) 3 rfl (pz_dc dX10_threat 26 rfl) rfl ?_
      refine pz_ldI hb (pc' := 46) rfl (pz_dc dX10_threat 27 rfl) (fun x4 hb => ?_)
      refine pz_goto (pc' := 50) (pz_dc dX10_threat 28 rfl) (by decide) ?_
      refine pz_ixor (pc' := 51) rfl (pz_dc dX10_threat 30 rfl) ?_
      refine pz_istore_n (pc' := 52) (lv' := [(2, .int (l2 ^^^ x4)), (0, .ref l0), (1, .int l1), (3, .int l3)]) rfl (pz_dc dX10_threat 31 rfl) (by decide) rfl ?_
      refine pz_iinc (pc' := 55) (x := l3) (v := l3 + (1 : Int32)) (lv' := [(3, .int (l3 + (1 : Int32))), (2, .int (l2 ^^^ x4)), (0, .ref l0), (1, .int l1)]) 3 rfl (pz_dc dX10_threat 32 rfl) rfl rfl (by decide) rfl ?_
      refine pz_goto (pc' := 23) (pz_dc dX10_threat 33 rfl) (by decide) ?_
      refine pz_lv (lv' := [(0, .ref l0), (1, .int l1), (2, .int (l2 ^^^ x4)), (3, .int (l3 + (1 : Int32)))]) [2, 3, 1, 0] rfl ?_
      exact hb
set_option maxRecDepth 20000 in
set_option maxHeartbeats 4000000 in
theorem wX10_threat_65 {Ex : State → Nat → Prop} {Q : Option Value → pz_H → Prop} {d bc bs : Nat} {l0 : Nat} {l1 : Int32} {l2 : Int32} {l3 : Int32}  {h : pz_H} (hD : 1 ≤ d) (hb : pz_gI h l0 10 1 (fun (x1 : Int32) => (x1 ≤ l3 → Q (some (.int 0)) h) ∧ (¬ x1 ≤ l3 → (l2 = 0 → Q (some (.int 0)) h) ∧ (¬ l2 = 0 → ((eX10_has l1 l3) = 0 → pz_V mX10_threat Ex Q d bc bs 65 [(0, .ref l0), (1, .int l1), (2, .int l2), (3, .int (l3 + (1 : Int32)))] [] h) ∧ (¬ (eX10_has l1 l3) = 0 → pz_gR h l0 10 0 (fun (a2 : Nat) => pz_rI h a2 l3 (fun (x3 : Int32) => pz_gR h l0 10 0 (fun (a4 : Nat) => pz_rI h a4 l3 (fun (x5 : Int32) => ((x3 ^^^ l2) < x5 → pz_is h l0 10 ∧ (pz_kv mX10_tell 0 0 0 (.ref l0 :: [.long l3.toInt64]) h (fun (h6 : pz_H) => pz_gR h6 l0 10 0 (fun (a7 : Nat) => pz_rI h6 a7 l3 (fun (x8 : Int32) => pz_gR h6 l0 10 0 (fun (a9 : Nat) => pz_rI h6 a9 l3 (fun (x10 : Int32) => pz_is h6 l0 10 ∧ (pz_kv mX10_tell 0 0 0 (.ref l0 :: [.long ((x8 - (x10 ^^^ l2)).toInt64)]) h6 (fun (h11 : pz_H) => Q (some (.int 1)) h11))))))))) ∧ (¬ (x3 ^^^ l2) < x5 → pz_V mX10_threat Ex Q d bc bs 65 [(0, .ref l0), (1, .int l1), (2, .int l2), (3, .int (l3 + (1 : Int32)))] [] h)))))))))) : pz_V mX10_threat Ex Q d bc bs 65 [(0, .ref l0), (1, .int l1), (2, .int l2), (3, .int l3)] [] h := by
  refine pz_iload_n (pc' := 66) (x := l3) 3 rfl (pz_dc dX10_threat 39 rfl) rfl ?_
  refine pz_aload_n (pc' := 67) (x := l0) 0 rfl (pz_dc dX10_threat 40 rfl) rfl ?_
  refine pz_getI (M := mX10_threat) hb fX10_101 (pc' := 70) rfl (pz_dc dX10_threat 41 rfl) (fun x1 hb => ?_)
  refine pz_icmp_ge (pc' := 73) (tgt := 139) rfl (pz_dc dX10_threat 42 rfl) (by decide) (fun hc => ?_) (fun hc => ?_)
  · replace hb := hb.1 hc
    refine pz_iconst (pc' := 140) (v := 0) rfl (pz_dc dX10_threat 83 rfl) ki_0 ?_
    exact pz_iret (pz_dc dX10_threat 84 rfl) rfl hb
  · replace hb := hb.2 hc
    refine pz_iload_n (pc' := 74) (x := l2) 2 rfl (pz_dc dX10_threat 43 rfl) rfl ?_
    refine pz_if_eq (pc' := 77) (tgt := 139) rfl (pz_dc dX10_threat 44 rfl) (by decide) (fun hc => ?_) (fun hc => ?_)
    · replace hb := hb.1 hc
      refine pz_iconst (pc' := 140) (v := 0) rfl (pz_dc dX10_threat 83 rfl) ki_0 ?_
      exact pz_iret (pz_dc dX10_threat 84 rfl) rfl hb
    · replace hb := hb.2 hc
      refine pz_iload_n (pc' := 78) (x := l1) 1 rfl (pz_dc dX10_threat 45 rfl) rfl ?_
      refine pz_iload_n (pc' := 79) (x := l3) 3 rfl (pz_dc dX10_threat 46 rfl) rfl ?_
      refine pz_callS (M := mX10_threat) (N := mX10_has) (d' := 0) (bc1 := 0) (bs1 := 0) (bc2 := bc) (bs2 := bs) (pc' := 82) [.int l1, .int l3] sX10_277 rfl (pz_dc dX10_threat 47 rfl) rfl (Nat.le_of_ble_eq_true rfl) (Nat.le_of_ble_eq_true rfl) rfl (by omega) (by omega) (by omega) ?_
      refine cX10_has ?_
      show pz_V mX10_threat _ _ _ _ _ 82 [(0, .ref l0), (1, .int l1), (2, .int l2), (3, .int l3)] [.int (eX10_has l1 l3)] h
      refine pz_if_eq (pc' := 85) (tgt := 133) rfl (pz_dc dX10_threat 48 rfl) (by decide) (fun hc => ?_) (fun hc => ?_)
      · replace hb := hb.1 hc
        refine pz_iinc (pc' := 136) (x := l3) (v := l3 + (1 : Int32)) (lv' := [(3, .int (l3 + (1 : Int32))), (0, .ref l0), (1, .int l1), (2, .int l2)]) 3 rfl (pz_dc dX10_threat 81 rfl) rfl rfl (by decide) rfl ?_
        refine pz_goto (pc' := 65) (pz_dc dX10_threat 82 rfl) (by decide) ?_
        refine pz_lv (lv' := [(0, .ref l0), (1, .int l1), (2, .int l2), (3, .int (l3 + (1 : Int32)))]) [1, 2, 3, 0] rfl ?_
        exact hb
      · replace hb := hb.2 hc
        refine pz_aload_n (pc' := 86) (x := l0) 0 rfl (pz_dc dX10_threat 49 rfl) rfl ?_
        refine pz_getR (M := mX10_threat) hb fX10_9 (pc' := 89) rfl (pz_dc dX10_threat 50 rfl) (fun a2 hb => ?_)
        refine pz_iload_n (pc' := 90) (x := l3) 3 rfl (pz_dc dX10_threat 51 rfl) rfl ?_
        refine pz_ldI hb (pc' := 91) rfl (pz_dc dX10_threat 52 rfl) (fun x3 hb => ?_)
        refine pz_iload_n (pc' := 92) (x := l2) 2 rfl (pz_dc dX10_threat 53 rfl) rfl ?_
        refine pz_ixor (pc' := 93) rfl (pz_dc dX10_threat 54 rfl) ?_
        refine pz_aload_n (pc' := 94) (x := l0) 0 rfl (pz_dc dX10_threat 55 rfl) rfl ?_
        refine pz_getR (M := mX10_threat) hb fX10_9 (pc' := 97) rfl (pz_dc dX10_threat 56 rfl) (fun a4 hb => ?_)
        refine pz_iload_n (pc' := 98) (x := l3) 3 rfl (pz_dc dX10_threat 57 rfl) rfl ?_
        refine pz_ldI hb (pc' := 99) rfl (pz_dc dX10_threat 58 rfl) (fun x5 hb => ?_)
        refine pz_icmp_lt (pc' := 102) (tgt := 105) rfl (pz_dc dX10_threat 59 rfl) (by decide) (fun hc => ?_) (fun hc => ?_)
        · replace hb := hb.1 hc
          refine pz_aload_n (pc' := 106) (x := l0) 0 rfl (pz_dc dX10_threat 61 rfl) rfl ?_
          refine pz_iload_n (pc' := 107) (x := l3) 3 rfl (pz_dc dX10_threat 62 rfl) rfl ?_
          refine pz_i2l (pc' := 108) rfl (pz_dc dX10_threat 63 rfl) ?_
          refine pz_cVv (M := mX10_threat) (N := mX10_tell) (d' := 0) (bc1 := 0) (bs1 := 0) (bc2 := bc) (bs2 := bs) (pc' := 111) [.long l3.toInt64] hb vX10_248 rfl (pz_dc dX10_threat 64 rfl) rfl (Nat.le_of_ble_eq_true rfl) (Nat.le_of_ble_eq_true rfl) rfl (by omega) (by omega) (by omega) (fun h6 hb => ?_)
          refine pz_aload_n (pc' := 112) (x := l0) 0 rfl (pz_dc dX10_threat 65 rfl) rfl ?_
          refine pz_aload_n (pc' := 113) (x := l0) 0 rfl (pz_dc dX10_threat 66 rfl) rfl ?_
          refine pz_getR (M := mX10_threat) hb fX10_9 (pc' := 116) rfl (pz_dc dX10_threat 67 rfl) (fun a7 hb => ?_)
          refine pz_iload_n (pc' := 117) (x := l3) 3 rfl (pz_dc dX10_threat 68 rfl) rfl ?_
          refine pz_ldI hb (pc' := 118) rfl (pz_dc dX10_threat 69 rfl) (fun x8 hb => ?_)
          refine pz_aload_n (pc' := 119) (x := l0) 0 rfl (pz_dc dX10_threat 70 rfl) rfl ?_
          refine pz_getR (M := mX10_threat) hb fX10_9 (pc' := 122) rfl (pz_dc dX10_threat 71 rfl) (fun a9 hb => ?_)
          refine pz_iload_n (pc' := 123) (x := l3) 3 rfl (pz_dc dX10_threat 72 rfl) rfl ?_
          refine pz_ldI hb (pc' := 124) rfl (pz_dc dX10_threat 73 rfl) (fun x10 hb => ?_)
          refine pz_iload_n (pc' := 125) (x := l2) 2 rfl (pz_dc dX10_threat 74 rfl) rfl ?_
          refine pz_ixor (pc' := 126) rfl (pz_dc dX10_threat 75 rfl) ?_
          refine pz_isub (pc' := 127) rfl (pz_dc dX10_threat 76 rfl) ?_
          refine pz_i2l (pc' := 128) rfl (pz_dc dX10_threat 77 rfl) ?_
          refine pz_cVv (M := mX10_threat) (N := mX10_tell) (d' := 0) (bc1 := 0) (bs1 := 0) (bc2 := bc) (bs2 := bs) (pc' := 131) [.long ((x8 - (x10 ^^^ l2)).toInt64)] hb vX10_248 rfl (pz_dc dX10_threat 78 rfl) rfl (Nat.le_of_ble_eq_true rfl) (Nat.le_of_ble_eq_true rfl) rfl (by omega) (by omega) (by omega) (fun h11 hb => ?_)
          refine pz_iconst (pc' := 132) (v := 1) rfl (pz_dc dX10_threat 79 rfl) ki_1 ?_
          exact pz_iret (pz_dc dX10_threat 80 rfl) rfl hb
        · replace hb := hb.2 hc
          refine pz_goto (pc' := 133) (pz_dc dX10_threat 60 rfl) (by decide) ?_
          refine pz_iinc (pc' := 136) (x := l3) (v := l3 + (1 : Int32)) (lv' := [(3, .int (l3 + (1 : Int32))), (0, .ref l0), (1, .int l1), (2, .int l2)]) 3 rfl (pz_dc dX10_threat 81 rfl) rfl rfl (by decide) rfl ?_
          refine pz_goto (pc' := 65) (pz_dc dX10_threat 82 rfl) (by decide) ?_
          refine pz_lv (lv' := [(0, .ref l0), (1, .int l1), (2, .int l2), (3, .int (l3 + (1 : Int32)))]) [1, 2, 3, 0] rfl ?_
          exact hb
set_option maxRecDepth 20000 in
set_option maxHeartbeats 4000000 in
theorem wX10_levelOfKings_0 {Ex : State → Nat → Prop} {Q : Option Value → pz_H → Prop} {d bc bs : Nat} {l0 : Nat} {l1 : Int32}  {h : pz_H} (hD : 1 ≤ d) (hb : pz_V mX10_levelOfKings Ex Q d bc bs 4 [(0, .ref l0), (1, .int l1), (2, .int 0), (3, .int 0)] [] h) : pz_V mX10_levelOfKings Ex Q d bc bs 0 [(0, .ref l0), (1, .int l1)] [] h := by
  refine pz_iconst (pc' := 1) (v := 0) rfl (pz_dc dX10_levelOfKings 0 rfl) ki_0 ?_
  refine pz_istore_n (pc' := 2) (lv' := [(2, .int 0), (0, .ref l0), (1, .int l1)]) rfl (pz_dc dX10_levelOfKings 1 rfl) (by decide) rfl ?_
  refine pz_iconst (pc' := 3) (v := 0) rfl (pz_dc dX10_levelOfKings 2 rfl) ki_0 ?_
  refine pz_istore_n (pc' := 4) (lv' := [(3, .int 0), (2, .int 0), (0, .ref l0), (1, .int l1)]) rfl (pz_dc dX10_levelOfKings 3 rfl) (by decide) rfl ?_
  refine pz_lv (lv' := [(0, .ref l0), (1, .int l1), (2, .int 0), (3, .int 0)]) [2, 3, 1, 0] rfl ?_
  exact hb
set_option maxRecDepth 20000 in
set_option maxHeartbeats 4000000 in
theorem wX10_levelOfKings_4 {Ex : State → Nat → Prop} {Q : Option Value → pz_H → Prop} {d bc bs : Nat} {l0 : Nat} {l1 : Int32} {l2 : Int32} {l3 : Int32}  {h : pz_H} (hD : 1 ≤ d) (hb : pz_gI h l0 10 1 (fun (x1 : Int32) => (x1 ≤ l3 → Q (some (.int l2)) h) ∧ (¬ x1 ≤ l3 → pz_gR h l0 10 0 (fun (a2 : Nat) => pz_rI h a2 (((24 : Int32)) + l3) (fun (x3 : Int32) => ((eX10_has l1 x3) = 0 → pz_V mX10_levelOfKings Ex Q d bc bs 4 [(0, .ref l0), (1, .int l1), (2, .int (l2 + ((0 : Int32)))), (3, .int (l3 + (1 : Int32)))] [] h) ∧ (¬ (eX10_has l1 x3) = 0 → pz_gR h l0 10 0 (fun (a4 : Nat) => pz_rI h a4 l3 (fun (x5 : Int32) => pz_V mX10_levelOfKings Ex Q d bc bs 4 [(0, .ref l0), (1, .int l1), (2, .int (l2 + x5)), (3, .int (l3 + (1 : Int32)))] [] h)))))))) : pz_V mX10_levelOfKings Ex Q d bc bs 4 [(0, .ref l0), (1, .int l1), (2, .int l2), (3, .int l3)] [] h := by
  refine pz_iload_n (pc' := 5) (x := l3) 3 rfl (pz_dc dX10_levelOfKings 4 rfl) rfl ?_
  refine pz_aload_n (pc' := 6) (x := l0) 0 rfl (pz_dc dX10_levelOfKings 5 rfl) rfl ?_
  refine pz_getI (M := mX10_levelOfKings) hb fX10_101 (pc' := 9) rfl (pz_dc dX10_levelOfKings 6 rfl) (fun x1 hb => ?_)
  refine pz_icmp_ge (pc' := 12) (tgt := 47) rfl (pz_dc dX10_levelOfKings 7 rfl) (by decide) (fun hc => ?_) (fun hc => ?_)
  · replace hb := hb.1 hc
    refine pz_iload_n (pc' := 48) (x := l2) 2 rfl (pz_dc dX10_levelOfKings 28 rfl) rfl ?_
    exact pz_iret (pz_dc dX10_levelOfKings 29 rfl) rfl hb
  · replace hb := hb.2 hc
    refine pz_iload_n (pc' := 13) (x := l2) 2 rfl (pz_dc dX10_levelOfKings 8 rfl) rfl ?_
    refine pz_iload_n (pc' := 14) (x := l1) 1 rfl (pz_dc dX10_levelOfKings 9 rfl) rfl ?_
    refine pz_aload_n (pc' := 15) (x := l0) 0 rfl (pz_dc dX10_levelOfKings 10 rfl) rfl ?_
    refine pz_getR (M := mX10_levelOfKings) hb fX10_9 (pc' := 18) rfl (pz_dc dX10_levelOfKings 11 rfl) (fun a2 hb => ?_)
    refine pz_bipush (pc' := 20) (v := 24) rfl (pz_dc dX10_levelOfKings 12 rfl) kb_24 ?_
    refine pz_iload_n (pc' := 21) (x := l3) 3 rfl (pz_dc dX10_levelOfKings 13 rfl) rfl ?_
    refine pz_iadd (pc' := 22) rfl (pz_dc dX10_levelOfKings 14 rfl) ?_
    refine pz_ldI hb (pc' := 23) rfl (pz_dc dX10_levelOfKings 15 rfl) (fun x3 hb => ?_)
    refine pz_callS (M := mX10_levelOfKings) (N := mX10_has) (d' := 0) (bc1 := 0) (bs1 := 0) (bc2 := bc) (bs2 := bs) (pc' := 26) [.int l1, .int x3] sX10_277 rfl (pz_dc dX10_levelOfKings 16 rfl) rfl (Nat.le_of_ble_eq_true rfl) (Nat.le_of_ble_eq_true rfl) rfl (by omega) (by omega) (by omega) ?_
    refine cX10_has ?_
    show pz_V mX10_levelOfKings _ _ _ _ _ 26 [(0, .ref l0), (1, .int l1), (2, .int l2), (3, .int l3)] [.int (eX10_has l1 x3), .int l2] h
    refine pz_if_eq (pc' := 29) (tgt := 38) rfl (pz_dc dX10_levelOfKings 17 rfl) (by decide) (fun hc => ?_) (fun hc => ?_)
    · replace hb := hb.1 hc
      refine pz_iconst (pc' := 39) (v := 0) rfl (pz_dc dX10_levelOfKings 23 rfl) ki_0 ?_
      refine pz_iadd (pc' := 40) rfl (pz_dc dX10_levelOfKings 24 rfl) ?_
      refine pz_istore_n (pc' := 41) (lv' := [(2, .int (l2 + ((0 : Int32)))), (0, .ref l0), (1, .int l1), (3, .int l3)]) rfl (pz_dc dX10_levelOfKings 25 rfl) (by decide) rfl ?_
      refine pz_iinc (pc' := 44) (x := l3) (v := l3 + (1 : Int32)) (lv' := [(3, .int (l3 + (1 : Int32))), (2, .int (l2 + ((0 : Int32)))), (0, .ref l0), (1, .int l1)]) 3 rfl (pz_dc dX10_levelOfKings 26 rfl) rfl rfl (by decide) rfl ?_
      refine pz_goto (pc' := 4) (pz_dc dX10_levelOfKings 27 rfl) (by decide) ?_
      refine pz_lv (lv' := [(0, .ref l0), (1, .int l1), (2, .int (l2 + ((0 : Int32)))), (3, .int (l3 + (1 : Int32)))]) [2, 3, 1, 0] rfl ?_
      exact hb
    · replace hb := hb.2 hc
      refine pz_aload_n (pc' := 30) (x := l0) 0 rfl (pz_dc dX10_levelOfKings 18 rfl) rfl ?_
      refine pz_getR (M := mX10_levelOfKings) hb fX10_9 (pc' := 33) rfl (pz_dc dX10_levelOfKings 19 rfl) (fun a4 hb => ?_)
      refine pz_iload_n (pc' := 34) (x := l3) 3 rfl (pz_dc dX10_levelOfKings 20 rfl) rfl ?_
      refine pz_ldI hb (pc' := 35) rfl (pz_dc dX10_levelOfKings 21 rfl) (fun x5 hb => ?_)
      refine pz_goto (pc' := 39) (pz_dc dX10_levelOfKings 22 rfl) (by decide) ?_
      refine pz_iadd (pc' := 40) rfl (pz_dc dX10_levelOfKings 24 rfl) ?_
      refine pz_istore_n (pc' := 41) (lv' := [(2, .int (l2 + x5)), (0, .ref l0), (1, .int l1), (3, .int l3)]) rfl (pz_dc dX10_levelOfKings 25 rfl) (by decide) rfl ?_
      refine pz_iinc (pc' := 44) (x := l3) (v := l3 + (1 : Int32)) (lv' := [(3, .int (l3 + (1 : Int32))), (2, .int (l2 + x5)), (0, .ref l0), (1, .int l1)]) 3 rfl (pz_dc dX10_levelOfKings 26 rfl) rfl rfl (by decide) rfl ?_
      refine pz_goto (pc' := 4) (pz_dc dX10_levelOfKings 27 rfl) (by decide) ?_
      refine pz_lv (lv' := [(0, .ref l0), (1, .int l1), (2, .int (l2 + x5)), (3, .int (l3 + (1 : Int32)))]) [2, 3, 1, 0] rfl ?_
      exact hb
set_option maxRecDepth 20000 in
set_option maxHeartbeats 4000000 in
theorem wX10_treaty_0 {Ex : State → Nat → Prop} {Q : Option Value → pz_H → Prop} {d bc bs : Nat} {l0 : Nat} {l1 : Int32}  {h : pz_H} (hD : 2 ≤ d) (hb : pz_pF h l0 10 9 (.int 0) (fun (h1 : pz_H) => (¬ (eX10_in l1 ((0 : Int32)) ((999 : Int32))) = 0 → pz_V mX10_treaty Ex Q d bc bs 29 [(0, .ref l0), (1, .int l1), (2, .int 0), (3, .int 0), (4, .int 15), (5, .int 0)] [] h1) ∧ ((eX10_in l1 ((0 : Int32)) ((999 : Int32))) = 0 → Q (some (.int ((-1)))) h1))) : pz_V mX10_treaty Ex Q d bc bs 0 [(0, .ref l0), (1, .int l1)] [] h := by
  refine pz_aload_n (pc' := 1) (x := l0) 0 rfl (pz_dc dX10_treaty 0 rfl) rfl ?_
  refine pz_iconst (pc' := 2) (v := 0) rfl (pz_dc dX10_treaty 1 rfl) ki_0 ?_
  refine pz_putv (M := mX10_treaty) hb (pX10_95 _ rfl) rfl rfl (pc' := 5) rfl (pz_dc dX10_treaty 2 rfl) (fun h1 hb => ?_)
  refine pz_iload_n (pc' := 6) (x := l1) 1 rfl (pz_dc dX10_treaty 3 rfl) rfl ?_
  refine pz_iconst (pc' := 7) (v := 0) rfl (pz_dc dX10_treaty 4 rfl) ki_0 ?_
  refine pz_sipush (pc' := 10) (v := 999) rfl (pz_dc dX10_treaty 5 rfl) ks_999 ?_
  refine pz_callS (M := mX10_treaty) (N := mX10_in) (d' := 0) (bc1 := 0) (bs1 := 0) (bc2 := bc) (bs2 := bs) (pc' := 13) [.int l1, .int 0, .int 999] sX10_104 rfl (pz_dc dX10_treaty 6 rfl) rfl (Nat.le_of_ble_eq_true rfl) (Nat.le_of_ble_eq_true rfl) rfl (by omega) (by omega) (by omega) ?_
  refine cX10_in ?_
  show pz_V mX10_treaty _ _ _ _ _ 13 [(0, .ref l0), (1, .int l1)] [.int (eX10_in l1 ((0 : Int32)) ((999 : Int32)))] h1
  refine pz_if_ne (pc' := 16) (tgt := 18) rfl (pz_dc dX10_treaty 7 rfl) (by decide) (fun hc => ?_) (fun hc => ?_)
  · replace hb := hb.1 hc
    refine pz_iconst (pc' := 19) (v := 0) rfl (pz_dc dX10_treaty 10 rfl) ki_0 ?_
    refine pz_istore_n (pc' := 20) (lv' := [(2, .int 0), (0, .ref l0), (1, .int l1)]) rfl (pz_dc dX10_treaty 11 rfl) (by decide) rfl ?_
    refine pz_iconst (pc' := 21) (v := 0) rfl (pz_dc dX10_treaty 12 rfl) ki_0 ?_
    refine pz_istore_n (pc' := 22) (lv' := [(3, .int 0), (2, .int 0), (0, .ref l0), (1, .int l1)]) rfl (pz_dc dX10_treaty 13 rfl) (by decide) rfl ?_
    refine pz_bipush (pc' := 24) (v := 15) rfl (pz_dc dX10_treaty 14 rfl) kb_15 ?_
    refine pz_istore (pc' := 26) (lv' := [(4, .int 15), (3, .int 0), (2, .int 0), (0, .ref l0), (1, .int l1)]) rfl (pz_dc dX10_treaty 15 rfl) (by decide) rfl ?_
    refine pz_iconst (pc' := 27) (v := 0) rfl (pz_dc dX10_treaty 16 rfl) ki_0 ?_
    refine pz_istore (pc' := 29) (lv' := [(5, .int 0), (4, .int 15), (3, .int 0), (2, .int 0), (0, .ref l0), (1, .int l1)]) rfl (pz_dc dX10_treaty 17 rfl) (by decide) rfl ?_
    refine pz_lv (lv' := [(0, .ref l0), (1, .int l1), (2, .int 0), (3, .int 0), (4, .int 15), (5, .int 0)]) [4, 5, 3, 2, 1, 0] rfl ?_
    exact hb
  · replace hb := hb.2 hc
    refine pz_iconst (pc' := 17) (v := (-1)) rfl (pz_dc dX10_treaty 8 rfl) ki_m1 ?_
    exact pz_iret (pz_dc dX10_treaty 9 rfl) rfl hb
set_option maxRecDepth 20000 in
set_option maxHeartbeats 4000000 in
theorem wX10_treaty_29 {Ex : State → Nat → Prop} {Q : Option Value → pz_H → Prop} {d bc bs : Nat} {l0 : Nat} {l1 : Int32} {l2 : Int32} {l3 : Int32} {l4 : Int32} {l5 : Int32}  {h : pz_H} (hD : 2 ≤ d) (hb : (((16 : Int32)) ≤ l5 → pz_pF h l0 10 8 (.int 0) (fun (h1 : pz_H) => pz_is h1 l0 10 ∧ (pz_kv mX10_tell 0 0 0 (.ref l0 :: [.long l3.toInt64]) h1 (fun (h2 : pz_H) => (¬ l2 = 0 → pz_is h2 l0 10 ∧ (pz_kv mX10_tell 0 0 0 (.ref l0 :: [.long l4.toInt64]) h2 (fun (h3 : pz_H) => Q (some (.int l2)) h3))) ∧ (l2 = 0 → pz_is h2 l0 10 ∧ (pz_kv mX10_tell 0 0 0 (.ref l0 :: [.long 0]) h2 (fun (h4 : pz_H) => Q (some (.int l2)) h4))))))) ∧ (¬ ((16 : Int32)) ≤ l5 → pz_is h l0 10 ∧ (pz_ki mX10_levelOfKings 1 0 0 (.ref l0 :: [.int l5]) h (fun (x6 : Int32) (h5 : pz_H) => (x6 < l1 → pz_V mX10_treaty Ex Q d bc bs 56 [(0, .ref l0), (1, .int l1), (2, .int l2), (3, .int l3), (4, .int l4), (5, .int l5), (6, .int 0), (7, .int 0)] [] h5) ∧ (¬ x6 < l1 → pz_V mX10_treaty Ex Q d bc bs 56 [(0, .ref l0), (1, .int l1), (2, .int l2), (3, .int l3), (4, .int l4), (5, .int l5), (6, .int 1), (7, .int 0)] [] h5))))) : pz_V mX10_treaty Ex Q d bc bs 29 [(0, .ref l0), (1, .int l1), (2, .int l2), (3, .int l3), (4, .int l4), (5, .int l5)] [] h := by
  refine pz_iload (pc' := 31) (x := l5) 5 rfl (pz_dc dX10_treaty 18 rfl) rfl ?_
  refine pz_bipush (pc' := 33) (v := 16) rfl (pz_dc dX10_treaty 19 rfl) kb_16 ?_
  refine pz_icmp_ge (pc' := 36) (tgt := 136) rfl (pz_dc dX10_treaty 20 rfl) (by decide) (fun hc => ?_) (fun hc => ?_)
  · replace hb := hb.1 hc
    refine pz_aload_n (pc' := 137) (x := l0) 0 rfl (pz_dc dX10_treaty 72 rfl) rfl ?_
    refine pz_iconst (pc' := 138) (v := 0) rfl (pz_dc dX10_treaty 73 rfl) ki_0 ?_
    refine pz_putv (M := mX10_treaty) hb (pX10_98 _ rfl) rfl rfl (pc' := 141) rfl (pz_dc dX10_treaty 74 rfl) (fun h1 hb => ?_)
    refine pz_aload_n (pc' := 142) (x := l0) 0 rfl (pz_dc dX10_treaty 75 rfl) rfl ?_
    refine pz_iload_n (pc' := 143) (x := l3) 3 rfl (pz_dc dX10_treaty 76 rfl) rfl ?_
    refine pz_i2l (pc' := 144) rfl (pz_dc dX10_treaty 77 rfl) ?_
    refine pz_cVv (M := mX10_treaty) (N := mX10_tell) (d' := 0) (bc1 := 0) (bs1 := 0) (bc2 := bc) (bs2 := bs) (pc' := 147) [.long l3.toInt64] hb vX10_248 rfl (pz_dc dX10_treaty 78 rfl) rfl (Nat.le_of_ble_eq_true rfl) (Nat.le_of_ble_eq_true rfl) rfl (by omega) (by omega) (by omega) (fun h2 hb => ?_)
    refine pz_aload_n (pc' := 148) (x := l0) 0 rfl (pz_dc dX10_treaty 79 rfl) rfl ?_
    refine pz_iload_n (pc' := 149) (x := l2) 2 rfl (pz_dc dX10_treaty 80 rfl) rfl ?_
    refine pz_if_ne (pc' := 152) (tgt := 156) rfl (pz_dc dX10_treaty 81 rfl) (by decide) (fun hc => ?_) (fun hc => ?_)
    · replace hb := hb.1 hc
      refine pz_iload (pc' := 158) (x := l4) 4 rfl (pz_dc dX10_treaty 84 rfl) rfl ?_
      refine pz_i2l (pc' := 159) rfl (pz_dc dX10_treaty 85 rfl) ?_
      refine pz_cVv (M := mX10_treaty) (N := mX10_tell) (d' := 0) (bc1 := 0) (bs1 := 0) (bc2 := bc) (bs2 := bs) (pc' := 162) [.long l4.toInt64] hb vX10_248 rfl (pz_dc dX10_treaty 86 rfl) rfl (Nat.le_of_ble_eq_true rfl) (Nat.le_of_ble_eq_true rfl) rfl (by omega) (by omega) (by omega) (fun h3 hb => ?_)
      refine pz_iload_n (pc' := 163) (x := l2) 2 rfl (pz_dc dX10_treaty 87 rfl) rfl ?_
      exact pz_iret (pz_dc dX10_treaty 88 rfl) rfl hb
    · replace hb := hb.2 hc
      refine pz_lconst (pc' := 153) (v := 0) rfl (pz_dc dX10_treaty 82 rfl) rfl ?_
      refine pz_goto (pc' := 159) (pz_dc dX10_treaty 83 rfl) (by decide) ?_
      refine pz_cVv (M := mX10_treaty) (N := mX10_tell) (d' := 0) (bc1 := 0) (bs1 := 0) (bc2 := bc) (bs2 := bs) (pc' := 162) [.long 0] hb vX10_248 rfl (pz_dc dX10_treaty 86 rfl) rfl (Nat.le_of_ble_eq_true rfl) (Nat.le_of_ble_eq_true rfl) rfl (by omega) (by omega) (by omega) (fun h4 hb => ?_)
      refine pz_iload_n (pc' := 163) (x := l2) 2 rfl (pz_dc dX10_treaty 87 rfl) rfl ?_
      exact pz_iret (pz_dc dX10_treaty 88 rfl) rfl hb
  · replace hb := hb.2 hc
    refine pz_aload_n (pc' := 37) (x := l0) 0 rfl (pz_dc dX10_treaty 21 rfl) rfl ?_
    refine pz_iload (pc' := 39) (x := l5) 5 rfl (pz_dc dX10_treaty 22 rfl) rfl ?_
    refine pz_cVi (M := mX10_treaty) (N := mX10_levelOfKings) (d' := 1) (bc1 := 0) (bs1 := 0) (bc2 := bc) (bs2 := bs) (pc' := 42) [.int l5] hb vX10_317 rfl (pz_dc dX10_treaty 23 rfl) rfl (Nat.le_of_ble_eq_true rfl) (Nat.le_of_ble_eq_true rfl) rfl (by omega) (by omega) (by omega) (fun x6 h5 hb => ?_)
    refine pz_iload_n (pc' := 43) (x := l1) 1 rfl (pz_dc dX10_treaty 24 rfl) rfl ?_
    refine pz_icmp_lt (pc' := 46) (tgt := 50) rfl (pz_dc dX10_treaty 25 rfl) (by decide) (fun hc => ?_) (fun hc => ?_)
    · replace hb := hb.1 hc
      refine pz_iconst (pc' := 51) (v := 0) rfl (pz_dc dX10_treaty 28 rfl) ki_0 ?_
      refine pz_istore (pc' := 53) (lv' := [(6, .int 0), (0, .ref l0), (1, .int l1), (2, .int l2), (3, .int l3), (4, .int l4), (5, .int l5)]) rfl (pz_dc dX10_treaty 29 rfl) (by decide) rfl ?_
      refine pz_iconst (pc' := 54) (v := 0) rfl (pz_dc dX10_treaty 30 rfl) ki_0 ?_
      refine pz_istore (pc' := 56) (lv' := [(7, .int 0), (6, .int 0), (0, .ref l0), (1, .int l1), (2, .int l2), (3, .int l3), (4, .int l4), (5, .int l5)]) rfl (pz_dc dX10_treaty 31 rfl) (by decide) rfl ?_
      refine pz_lv (lv' := [(0, .ref l0), (1, .int l1), (2, .int l2), (3, .int l3), (4, .int l4), (5, .int l5), (6, .int 0), (7, .int 0)]) [2, 3, 4, 5, 6, 7, 1, 0] rfl ?_
      exact hb
    · replace hb := hb.2 hc
      refine pz_iconst (pc' := 47) (v := 1) rfl (pz_dc dX10_treaty 26 rfl) ki_1 ?_
      refine pz_goto (pc' := 51) (pz_dc dX10_treaty 27 rfl) (by decide) ?_
      refine pz_istore (pc' := 53) (lv' := [(6, .int 1), (0, .ref l0), (1, .int l1), (2, .int l2), (3, .int l3), (4, .int l4), (5, .int l5)]) rfl (pz_dc dX10_treaty 29 rfl) (by decide) rfl ?_
      refine pz_iconst (pc' := 54) (v := 0) rfl (pz_dc dX10_treaty 30 rfl) ki_0 ?_
      refine pz_istore (pc' := 56) (lv' := [(7, .int 0), (6, .int 1), (0, .ref l0), (1, .int l1), (2, .int l2), (3, .int l3), (4, .int l4), (5, .int l5)]) rfl (pz_dc dX10_treaty 31 rfl) (by decide) rfl ?_
      refine pz_lv (lv' := [(0, .ref l0), (1, .int l1), (2, .int l2), (3, .int l3), (4, .int l4), (5, .int l5), (6, .int 1), (7, .int 0)]) [2, 3, 4, 5, 6, 7, 1, 0] rfl ?_
      exact hb
set_option maxRecDepth 20000 in
set_option maxHeartbeats 4000000 in
theorem wX10_treaty_56 {Ex : State → Nat → Prop} {Q : Option Value → pz_H → Prop} {d bc bs : Nat} {l0 : Nat} {l1 : Int32} {l2 : Int32} {l3 : Int32} {l4 : Int32} {l5 : Int32} {l6 : Int32} {l7 : Int32}  {h : pz_H} (hD : 2 ≤ d) (hb : (((4 : Int32)) ≤ l7 → (¬ l6 = 0 → pz_V mX10_treaty Ex Q d bc bs 29 [(0, .ref l0), (1, .int l1), (2, .int (l2 + (1 : Int32))), (3, .int (l3 ||| l5)), (4, .int (l4 &&& l5)), (5, .int (l5 + (1 : Int32)))] [] h) ∧ (l6 = 0 → pz_V mX10_treaty Ex Q d bc bs 29 [(0, .ref l0), (1, .int l1), (2, .int l2), (3, .int l3), (4, .int l4), (5, .int (l5 + (1 : Int32)))] [] h)) ∧ (¬ ((4 : Int32)) ≤ l7 → (l6 = 0 → pz_V mX10_treaty Ex Q d bc bs 56 [(0, .ref l0), (1, .int l1), (2, .int l2), (3, .int l3), (4, .int l4), (5, .int l5), (6, .int 0), (7, .int (l7 + (1 : Int32)))] [] h) ∧ (¬ l6 = 0 → ((eX10_has l5 l7) = 0 → pz_V mX10_treaty Ex Q d bc bs 56 [(0, .ref l0), (1, .int l1), (2, .int l2), (3, .int l3), (4, .int l4), (5, .int l5), (6, .int 1), (7, .int (l7 + (1 : Int32)))] [] h) ∧ (¬ (eX10_has l5 l7) = 0 → pz_is h l0 10 ∧ (pz_ki mX10_levelOfKings 1 0 0 (.ref l0 :: [.int (l5 &&& ((((1 : Int32)) <<< (l7 &&& 31)) ^^^ ((-1 : Int32))))]) h (fun (x2 : Int32) (h1 : pz_H) => (l1 ≤ x2 → pz_V mX10_treaty Ex Q d bc bs 56 [(0, .ref l0), (1, .int l1), (2, .int l2), (3, .int l3), (4, .int l4), (5, .int l5), (6, .int 0), (7, .int (l7 + (1 : Int32)))] [] h1) ∧ (¬ l1 ≤ x2 → pz_V mX10_treaty Ex Q d bc bs 56 [(0, .ref l0), (1, .int l1), (2, .int l2), (3, .int l3), (4, .int l4), (5, .int l5), (6, .int 1), (7, .int (l7 + (1 : Int32)))] [] h1))))))) : pz_V mX10_treaty Ex Q d bc bs 56 [(0, .ref l0), (1, .int l1), (2, .int l2), (3, .int l3), (4, .int l4), (5, .int l5), (6, .int l6), (7, .int l7)] [] h := by
  refine pz_iload (pc' := 58) (x := l7) 7 rfl (pz_dc dX10_treaty 32 rfl) rfl ?_
  refine pz_iconst (pc' := 59) (v := 4) rfl (pz_dc dX10_treaty 33 rfl) ki_4 ?_
  refine pz_icmp_ge (pc' := 62) (tgt := 107) rfl (pz_dc dX10_treaty 34 rfl) (by decide) (fun hc => ?_) (fun hc => ?_)
  · replace hb := hb.1 hc
    refine pz_iload (pc' := 109) (x := l6) 6 rfl (pz_dc dX10_treaty 58 rfl) rfl ?_
    refine pz_if_ne (pc' := 112) (tgt := 115) rfl (pz_dc dX10_treaty 59 rfl) (by decide) (fun hc => ?_) (fun hc => ?_)
    · replace hb := hb.1 hc
      refine pz_iinc (pc' := 118) (x := l2) (v := l2 + (1 : Int32)) (lv' := [(2, .int (l2 + (1 : Int32))), (0, .ref l0), (1, .int l1), (3, .int l3), (4, .int l4), (5, .int l5), (6, .int l6), (7, .int l7)]) 2 rfl (pz_dc dX10_treaty 61 rfl) rfl rfl (by decide) rfl ?_
      refine pz_iload_n (pc' := 119) (x := l3) 3 rfl (pz_dc dX10_treaty 62 rfl) rfl ?_
      refine pz_iload (pc' := 121) (x := l5) 5 rfl (pz_dc dX10_treaty 63 rfl) rfl ?_
      refine pz_ior (pc' := 122) rfl (pz_dc dX10_treaty 64 rfl) ?_
      refine pz_istore_n (pc' := 123) (lv' := [(3, .int (l3 ||| l5)), (2, .int (l2 + (1 : Int32))), (0, .ref l0), (1, .int l1), (4, .int l4), (5, .int l5), (6, .int l6), (7, .int l7)]) rfl (pz_dc dX10_treaty 65 rfl) (by decide) rfl ?_
      refine pz_iload (pc' := 125) (x := l4) 4 rfl (pz_dc dX10_treaty 66 rfl) rfl ?_
      refine pz_iload (pc' := 127) (x := l5) 5 rfl (pz_dc dX10_treaty 67 rfl) rfl ?_
      refine pz_iand (pc' := 128) rfl (pz_dc dX10_treaty 68 rfl) ?_
      refine pz_istore (pc' := 130) (lv' := [(4, .int (l4 &&& l5)), (3, .int (l3 ||| l5)), (2, .int (l2 + (1 : Int32))), (0, .ref l0), (1, .int l1), (5, .int l5), (6, .int l6), (7, .int l7)]) rfl (pz_dc dX10_treaty 69 rfl) (by decide) rfl ?_
      refine pz_iinc (pc' := 133) (x := l5) (v := l5 + (1 : Int32)) (lv' := [(5, .int (l5 + (1 : Int32))), (4, .int (l4 &&& l5)), (3, .int (l3 ||| l5)), (2, .int (l2 + (1 : Int32))), (0, .ref l0), (1, .int l1), (6, .int l6), (7, .int l7)]) 5 rfl (pz_dc dX10_treaty 70 rfl) rfl rfl (by decide) rfl ?_
      refine pz_goto (pc' := 29) (pz_dc dX10_treaty 71 rfl) (by decide) ?_
      refine pz_lv (lv' := [(0, .ref l0), (1, .int l1), (2, .int (l2 + (1 : Int32))), (3, .int (l3 ||| l5)), (4, .int (l4 &&& l5)), (5, .int (l5 + (1 : Int32)))]) [4, 5, 3, 2, 1, 0] rfl ?_
      exact hb
    · replace hb := hb.2 hc
      refine pz_goto (pc' := 130) (pz_dc dX10_treaty 60 rfl) (by decide) ?_
      refine pz_iinc (pc' := 133) (x := l5) (v := l5 + (1 : Int32)) (lv' := [(5, .int (l5 + (1 : Int32))), (0, .ref l0), (1, .int l1), (2, .int l2), (3, .int l3), (4, .int l4), (6, .int l6), (7, .int l7)]) 5 rfl (pz_dc dX10_treaty 70 rfl) rfl rfl (by decide) rfl ?_
      refine pz_goto (pc' := 29) (pz_dc dX10_treaty 71 rfl) (by decide) ?_
      refine pz_lv (lv' := [(0, .ref l0), (1, .int l1), (2, .int l2), (3, .int l3), (4, .int l4), (5, .int (l5 + (1 : Int32)))]) [1, 2, 3, 4, 5, 0] rfl ?_
      exact hb
  · replace hb := hb.2 hc
    refine pz_iload (pc' := 64) (x := l6) 6 rfl (pz_dc dX10_treaty 35 rfl) rfl ?_
    refine pz_if_eq (pc' := 67) (tgt := 98) rfl (pz_dc dX10_treaty 36 rfl) (by decide) (fun hc => ?_) (fun hc => ?_)
    · replace hb := hb.1 hc
      refine pz_iconst (pc' := 99) (v := 0) rfl (pz_dc dX10_treaty 54 rfl) ki_0 ?_
      refine pz_istore (pc' := 101) (lv' := [(6, .int 0), (0, .ref l0), (1, .int l1), (2, .int l2), (3, .int l3), (4, .int l4), (5, .int l5), (7, .int l7)]) rfl (pz_dc dX10_treaty 55 rfl) (by decide) rfl ?_
      refine pz_iinc (pc' := 104) (x := l7) (v := l7 + (1 : Int32)) (lv' := [(7, .int (l7 + (1 : Int32))), (6, .int 0), (0, .ref l0), (1, .int l1), (2, .int l2), (3, .int l3), (4, .int l4), (5, .int l5)]) 7 rfl (pz_dc dX10_treaty 56 rfl) rfl rfl (by decide) rfl ?_
      refine pz_goto (pc' := 56) (pz_dc dX10_treaty 57 rfl) (by decide) ?_
      refine pz_lv (lv' := [(0, .ref l0), (1, .int l1), (2, .int l2), (3, .int l3), (4, .int l4), (5, .int l5), (6, .int 0), (7, .int (l7 + (1 : Int32)))]) [2, 3, 4, 5, 6, 7, 1, 0] rfl ?_
      exact hb
    · replace hb := hb.2 hc
      refine pz_iload (pc' := 69) (x := l5) 5 rfl (pz_dc dX10_treaty 37 rfl) rfl ?_
      refine pz_iload (pc' := 71) (x := l7) 7 rfl (pz_dc dX10_treaty 38 rfl) rfl ?_
      refine pz_callS (M := mX10_treaty) (N := mX10_has) (d' := 0) (bc1 := 0) (bs1 := 0) (bc2 := bc) (bs2 := bs) (pc' := 74) [.int l5, .int l7] sX10_277 rfl (pz_dc dX10_treaty 39 rfl) rfl (Nat.le_of_ble_eq_true rfl) (Nat.le_of_ble_eq_true rfl) rfl (by omega) (by omega) (by omega) ?_
      refine cX10_has ?_
      show pz_V mX10_treaty _ _ _ _ _ 74 [(0, .ref l0), (1, .int l1), (2, .int l2), (3, .int l3), (4, .int l4), (5, .int l5), (6, .int l6), (7, .int l7)] [.int (eX10_has l5 l7)] h
      refine pz_if_eq (pc' := 77) (tgt := 94) rfl (pz_dc dX10_treaty 40 rfl) (by decide) (fun hc => ?_) (fun hc => ?_)
      · replace hb := hb.1 hc
        refine pz_iconst (pc' := 95) (v := 1) rfl (pz_dc dX10_treaty 52 rfl) ki_1 ?_
        refine pz_goto (pc' := 99) (pz_dc dX10_treaty 53 rfl) (by decide) ?_
        refine pz_istore (pc' := 101) (lv' := [(6, .int 1), (0, .ref l0), (1, .int l1), (2, .int l2), (3, .int l3), (4, .int l4), (5, .int l5), (7, .int l7)]) rfl (pz_dc dX10_treaty 55 rfl) (by decide) rfl ?_
        refine pz_iinc (pc' := 104) (x := l7) (v := l7 + (1 : Int32)) (lv' := [(7, .int (l7 + (1 : Int32))), (6, .int 1), (0, .ref l0), (1, .int l1), (2, .int l2), (3, .int l3), (4, .int l4), (5, .int l5)]) 7 rfl (pz_dc dX10_treaty 56 rfl) rfl rfl (by decide) rfl ?_
        refine pz_goto (pc' := 56) (pz_dc dX10_treaty 57 rfl) (by decide) ?_
        refine pz_lv (lv' := [(0, .ref l0), (1, .int l1), (2, .int l2), (3, .int l3), (4, .int l4), (5, .int l5), (6, .int 1), (7, .int (l7 + (1 : Int32)))]) [2, 3, 4, 5, 6, 7, 1, 0] rfl ?_
        exact hb
      · replace hb := hb.2 hc
        refine pz_aload_n (pc' := 78) (x := l0) 0 rfl (pz_dc dX10_treaty 41 rfl) rfl ?_
        refine pz_iload (pc' := 80) (x := l5) 5 rfl (pz_dc dX10_treaty 42 rfl) rfl ?_
        refine pz_iconst (pc' := 81) (v := 1) rfl (pz_dc dX10_treaty 43 rfl) ki_1 ?_
        refine pz_iload (pc' := 83) (x := l7) 7 rfl (pz_dc dX10_treaty 44 rfl) rfl ?_
        refine pz_ishl (pc' := 84) rfl (pz_dc dX10_treaty 45 rfl) ?_
        refine pz_iconst (pc' := 85) (v := (-1)) rfl (pz_dc dX10_treaty 46 rfl) ki_m1 ?_
        refine pz_ixor (pc' := 86) rfl (pz_dc dX10_treaty 47 rfl) ?_
        refine pz_iand (pc' := 87) rfl (pz_dc dX10_treaty 48 rfl) ?_
        refine pz_cVi (M := mX10_treaty) (N := mX10_levelOfKings) (d' := 1) (bc1 := 0) (bs1 := 0) (bc2 := bc) (bs2 := bs) (pc' := 90) [.int (l5 &&& ((((1 : Int32)) <<< (l7 &&& 31)) ^^^ ((-1 : Int32))))] hb vX10_317 rfl (pz_dc dX10_treaty 49 rfl) rfl (Nat.le_of_ble_eq_true rfl) (Nat.le_of_ble_eq_true rfl) rfl (by omega) (by omega) (by omega) (fun x2 h1 hb => ?_)
        refine pz_iload_n (pc' := 91) (x := l1) 1 rfl (pz_dc dX10_treaty 50 rfl) rfl ?_
        refine pz_icmp_ge (pc' := 94) (tgt := 98) rfl (pz_dc dX10_treaty 51 rfl) (by decide) (fun hc => ?_) (fun hc => ?_)
        · replace hb := hb.1 hc
          refine pz_iconst (pc' := 99) (v := 0) rfl (pz_dc dX10_treaty 54 rfl) ki_0 ?_
          refine pz_istore (pc' := 101) (lv' := [(6, .int 0), (0, .ref l0), (1, .int l1), (2, .int l2), (3, .int l3), (4, .int l4), (5, .int l5), (7, .int l7)]) rfl (pz_dc dX10_treaty 55 rfl) (by decide) rfl ?_
          refine pz_iinc (pc' := 104) (x := l7) (v := l7 + (1 : Int32)) (lv' := [(7, .int (l7 + (1 : Int32))), (6, .int 0), (0, .ref l0), (1, .int l1), (2, .int l2), (3, .int l3), (4, .int l4), (5, .int l5)]) 7 rfl (pz_dc dX10_treaty 56 rfl) rfl rfl (by decide) rfl ?_
          refine pz_goto (pc' := 56) (pz_dc dX10_treaty 57 rfl) (by decide) ?_
          refine pz_lv (lv' := [(0, .ref l0), (1, .int l1), (2, .int l2), (3, .int l3), (4, .int l4), (5, .int l5), (6, .int 0), (7, .int (l7 + (1 : Int32)))]) [2, 3, 4, 5, 6, 7, 1, 0] rfl ?_
          exact hb
        · replace hb := hb.2 hc
          refine pz_iconst (pc' := 95) (v := 1) rfl (pz_dc dX10_treaty 52 rfl) ki_1 ?_
          refine pz_goto (pc' := 99) (pz_dc dX10_treaty 53 rfl) (by decide) ?_
          refine pz_istore (pc' := 101) (lv' := [(6, .int 1), (0, .ref l0), (1, .int l1), (2, .int l2), (3, .int l3), (4, .int l4), (5, .int l5), (7, .int l7)]) rfl (pz_dc dX10_treaty 55 rfl) (by decide) rfl ?_
          refine pz_iinc (pc' := 104) (x := l7) (v := l7 + (1 : Int32)) (lv' := [(7, .int (l7 + (1 : Int32))), (6, .int 1), (0, .ref l0), (1, .int l1), (2, .int l2), (3, .int l3), (4, .int l4), (5, .int l5)]) 7 rfl (pz_dc dX10_treaty 56 rfl) rfl rfl (by decide) rfl ?_
          refine pz_goto (pc' := 56) (pz_dc dX10_treaty 57 rfl) (by decide) ?_
          refine pz_lv (lv' := [(0, .ref l0), (1, .int l1), (2, .int l2), (3, .int l3), (4, .int l4), (5, .int l5), (6, .int 1), (7, .int (l7 + (1 : Int32)))]) [2, 3, 4, 5, 6, 7, 1, 0] rfl ?_
          exact hb
set_option maxRecDepth 20000 in
set_option maxHeartbeats 4000000 in
theorem wX10_wants_0 {Ex : State → Nat → Prop} {Q : Option Value → pz_H → Prop} {d bc bs : Nat} {l0 : Nat} {l1 : Int32}  {h : pz_H} (hD : 2 ≤ d) (hb : pz_pF h l0 10 9 (.int 0) (fun (h1 : pz_H) => (¬ (eX10_isKing l1) = 0 → pz_gR h1 l0 10 0 (fun (a2 : Nat) => pz_is h1 l0 10 ∧ (pz_ki mX10_ownOf 0 0 0 (.ref l0 :: [.ref a2, .int l1]) h1 (fun (x4 : Int32) (h3 : pz_H) => pz_V mX10_wants Ex Q d bc bs 29 [(0, .ref l0), (2, .int x4), (3, .int ((-1))), (4, .int 0)] [] h3)))) ∧ ((eX10_isKing l1) = 0 → Q (some (.int ((-1)))) h1))) : pz_V mX10_wants Ex Q d bc bs 0 [(0, .ref l0), (1, .int l1)] [] h := by
  refine pz_aload_n (pc' := 1) (x := l0) 0 rfl (pz_dc dX10_wants 0 rfl) rfl ?_
  refine pz_iconst (pc' := 2) (v := 0) rfl (pz_dc dX10_wants 1 rfl) ki_0 ?_
  refine pz_putv (M := mX10_wants) hb (pX10_95 _ rfl) rfl rfl (pc' := 5) rfl (pz_dc dX10_wants 2 rfl) (fun h1 hb => ?_)
  refine pz_iload_n (pc' := 6) (x := l1) 1 rfl (pz_dc dX10_wants 3 rfl) rfl ?_
  refine pz_callS (M := mX10_wants) (N := mX10_isKing) (d' := 1) (bc1 := 0) (bs1 := 0) (bc2 := bc) (bs2 := bs) (pc' := 9) [.int l1] sX10_281 rfl (pz_dc dX10_wants 4 rfl) rfl (Nat.le_of_ble_eq_true rfl) (Nat.le_of_ble_eq_true rfl) rfl (by omega) (by omega) (by omega) ?_
  refine cX10_isKing ?_
  show pz_V mX10_wants _ _ _ _ _ 9 [(0, .ref l0), (1, .int l1)] [.int (eX10_isKing l1)] h1
  refine pz_if_ne (pc' := 12) (tgt := 14) rfl (pz_dc dX10_wants 5 rfl) (by decide) (fun hc => ?_) (fun hc => ?_)
  · replace hb := hb.1 hc
    refine pz_aload_n (pc' := 15) (x := l0) 0 rfl (pz_dc dX10_wants 8 rfl) rfl ?_
    refine pz_aload_n (pc' := 16) (x := l0) 0 rfl (pz_dc dX10_wants 9 rfl) rfl ?_
    refine pz_getR (M := mX10_wants) hb fX10_9 (pc' := 19) rfl (pz_dc dX10_wants 10 rfl) (fun a2 hb => ?_)
    refine pz_iload_n (pc' := 20) (x := l1) 1 rfl (pz_dc dX10_wants 11 rfl) rfl ?_
    refine pz_cVi (M := mX10_wants) (N := mX10_ownOf) (d' := 0) (bc1 := 0) (bs1 := 0) (bc2 := bc) (bs2 := bs) (pc' := 23) [.ref a2, .int l1] hb vX10_284 rfl (pz_dc dX10_wants 12 rfl) rfl (Nat.le_of_ble_eq_true rfl) (Nat.le_of_ble_eq_true rfl) rfl (by omega) (by omega) (by omega) (fun x4 h3 hb => ?_)
    refine pz_istore_n (pc' := 24) (lv' := [(2, .int x4), (0, .ref l0), (1, .int l1)]) rfl (pz_dc dX10_wants 13 rfl) (by decide) rfl ?_
    refine pz_iconst (pc' := 25) (v := (-1)) rfl (pz_dc dX10_wants 14 rfl) ki_m1 ?_
    refine pz_istore_n (pc' := 26) (lv' := [(3, .int ((-1))), (2, .int x4), (0, .ref l0), (1, .int l1)]) rfl (pz_dc dX10_wants 15 rfl) (by decide) rfl ?_
    refine pz_iconst (pc' := 27) (v := 0) rfl (pz_dc dX10_wants 16 rfl) ki_0 ?_
    refine pz_istore (pc' := 29) (lv' := [(4, .int 0), (3, .int ((-1))), (2, .int x4), (0, .ref l0), (1, .int l1)]) rfl (pz_dc dX10_wants 17 rfl) (by decide) rfl ?_
    refine pz_lv (lv' := [(0, .ref l0), (2, .int x4), (3, .int ((-1))), (4, .int 0)]) [3, 2, 1, 0] rfl ?_
    exact hb
  · replace hb := hb.2 hc
    refine pz_iconst (pc' := 13) (v := (-1)) rfl (pz_dc dX10_wants 6 rfl) ki_m1 ?_
    exact pz_iret (pz_dc dX10_wants 7 rfl) rfl hb
set_option maxRecDepth 20000 in
set_option maxHeartbeats 4000000 in
theorem wX10_wants_29 {Ex : State → Nat → Prop} {Q : Option Value → pz_H → Prop} {d bc bs : Nat} {l0 : Nat} {l2 : Int32} {l3 : Int32} {l4 : Int32}  {h : pz_H} (hD : 2 ≤ d) (hb : pz_is h l0 10 ∧ (pz_gI h l0 10 1 (fun (x1 : Int32) => ((eX10_all x1) < l4 → (¬ l3 = ((-1 : Int32)) → pz_pF h l0 10 8 (.int 0) (fun (h5 : pz_H) => pz_is h5 l0 10 ∧ (pz_kv mX10_tell 0 0 0 (.ref l0 :: [.long l3.toInt64]) h5 (fun (h6 : pz_H) => pz_ki mJ6_bitCount_0f7a4 0 0 0 ([.int l3]) h6 (fun (x8 : Int32) (h7 : pz_H) => Q (some (.int x8)) h7))))) ∧ (l3 = ((-1 : Int32)) → Q (some (.int ((-2)))) h)) ∧ (¬ (eX10_all x1) < l4 → (¬ (l4 &&& l2) = 0 → pz_V mX10_wants Ex Q d bc bs 29 [(0, .ref l0), (2, .int l2), (3, .int l3), (4, .int (l4 + (1 : Int32)))] [] h) ∧ ((l4 &&& l2) = 0 → pz_gR h l0 10 0 (fun (a9 : Nat) => pz_is h l0 10 ∧ (pz_ki mX10_levelOf 1 0 0 (.ref l0 :: [.ref a9, .int (l2 ||| l4)]) h (fun (x11 : Int32) (h10 : pz_H) => pz_gR h10 l0 10 0 (fun (a12 : Nat) => pz_is h10 l0 10 ∧ (pz_ki mX10_sumOf 0 0 0 (.ref l0 :: [.ref a12, .int 0]) h10 (fun (x14 : Int32) (h13 : pz_H) => (x14 < (((2 : Int32)) * x11) → (l3 = ((-1 : Int32)) → pz_V mX10_wants Ex Q d bc bs 29 [(0, .ref l0), (2, .int l2), (3, .int l4), (4, .int (l4 + (1 : Int32)))] [] h13) ∧ (¬ l3 = ((-1 : Int32)) → pz_ki mJ6_bitCount_0f7a4 0 0 0 ([.int l4]) h13 (fun (x16 : Int32) (h15 : pz_H) => pz_ki mJ6_bitCount_0f7a4 0 0 0 ([.int l3]) h15 (fun (x18 : Int32) (h17 : pz_H) => (x18 ≤ x16 → pz_V mX10_wants Ex Q d bc bs 29 [(0, .ref l0), (2, .int l2), (3, .int l3), (4, .int (l4 + (1 : Int32)))] [] h17) ∧ (¬ x18 ≤ x16 → pz_V mX10_wants Ex Q d bc bs 29 [(0, .ref l0), (2, .int l2), (3, .int l4), (4, .int (l4 + (1 : Int32)))] [] h17))))) ∧ (¬ x14 < (((2 : Int32)) * x11) → pz_V mX10_wants Ex Q d bc bs 29 [(0, .ref l0), (2, .int l2), (3, .int l3), (4, .int (l4 + (1 : Int32)))] [] h13)))))))))))) : pz_V mX10_wants Ex Q d bc bs 29 [(0, .ref l0), (2, .int l2), (3, .int l3), (4, .int l4)] [] h := by
  refine pz_iload (pc' := 31) (x := l4) 3 rfl (pz_dc dX10_wants 18 rfl) rfl ?_
  refine pz_aload_n (pc' := 32) (x := l0) 0 rfl (pz_dc dX10_wants 19 rfl) rfl ?_
  obtain ⟨⟨fs19, hf20⟩, hb⟩ := hb
  obtain ⟨fs2, x1, g3, g4, hb⟩ := hb
  refine pz_callV (M := mX10_wants) (N := mX10_all) (d' := 0) (bc1 := 0) (bs1 := 0) (bc2 := bc) (bs2 := bs) (pc' := 35) [] vX10_293 rfl (pz_dc dX10_wants 20 rfl) rfl (Nat.le_of_ble_eq_true rfl) (Nat.le_of_ble_eq_true rfl) rfl (by omega) (by omega) (by omega) hf20 ?_
  refine cX10_all ⟨fs2, x1, g3, g4, ?_⟩
  show pz_V mX10_wants _ _ _ _ _ 35 [(0, .ref l0), (2, .int l2), (3, .int l3), (4, .int l4)] [.int (eX10_all x1), .int l4] h
  refine pz_icmp_gt (pc' := 38) (tgt := 100) rfl (pz_dc dX10_wants 21 rfl) (by decide) (fun hc => ?_) (fun hc => ?_)
  · replace hb := hb.1 hc
    refine pz_iload_n (pc' := 101) (x := l3) 2 rfl (pz_dc dX10_wants 54 rfl) rfl ?_
    refine pz_iconst (pc' := 102) (v := (-1)) rfl (pz_dc dX10_wants 55 rfl) ki_m1 ?_
    refine pz_icmp_ne (pc' := 105) (tgt := 108) rfl (pz_dc dX10_wants 56 rfl) (by decide) (fun hc => ?_) (fun hc => ?_)
    · replace hb := hb.1 hc
      refine pz_aload_n (pc' := 109) (x := l0) 0 rfl (pz_dc dX10_wants 59 rfl) rfl ?_
      refine pz_iconst (pc' := 110) (v := 0) rfl (pz_dc dX10_wants 60 rfl) ki_0 ?_
      refine pz_putv (M := mX10_wants) hb (pX10_98 _ rfl) rfl rfl (pc' := 113) rfl (pz_dc dX10_wants 61 rfl) (fun h5 hb => ?_)
      refine pz_aload_n (pc' := 114) (x := l0) 0 rfl (pz_dc dX10_wants 62 rfl) rfl ?_
      refine pz_iload_n (pc' := 115) (x := l3) 2 rfl (pz_dc dX10_wants 63 rfl) rfl ?_
      refine pz_i2l (pc' := 116) rfl (pz_dc dX10_wants 64 rfl) ?_
      refine pz_cVv (M := mX10_wants) (N := mX10_tell) (d' := 0) (bc1 := 0) (bs1 := 0) (bc2 := bc) (bs2 := bs) (pc' := 119) [.long l3.toInt64] hb vX10_248 rfl (pz_dc dX10_wants 65 rfl) rfl (Nat.le_of_ble_eq_true rfl) (Nat.le_of_ble_eq_true rfl) rfl (by omega) (by omega) (by omega) (fun h6 hb => ?_)
      refine pz_iload_n (pc' := 120) (x := l3) 2 rfl (pz_dc dX10_wants 66 rfl) rfl ?_
      refine pz_cSi (M := mX10_wants) (N := mJ6_bitCount_0f7a4) (d' := 0) (bc1 := 0) (bs1 := 0) (bc2 := bc) (bs2 := bs) (pc' := 123) [.int l3] hb sX10_206 rfl (pz_dc dX10_wants 67 rfl) rfl (Nat.le_of_ble_eq_true rfl) (Nat.le_of_ble_eq_true rfl) rfl (by omega) (by omega) (by omega) (fun x8 h7 hb => ?_)
      exact pz_iret (pz_dc dX10_wants 68 rfl) rfl hb
    · replace hb := hb.2 hc
      refine pz_bipush (pc' := 107) (v := (-2)) rfl (pz_dc dX10_wants 57 rfl) kb_m2 ?_
      exact pz_iret (pz_dc dX10_wants 58 rfl) rfl hb
  · replace hb := hb.2 hc
    refine pz_iload (pc' := 40) (x := l4) 3 rfl (pz_dc dX10_wants 22 rfl) rfl ?_
    refine pz_iload_n (pc' := 41) (x := l2) 1 rfl (pz_dc dX10_wants 23 rfl) rfl ?_
    refine pz_iand (pc' := 42) rfl (pz_dc dX10_wants 24 rfl) ?_
    refine pz_if_ne (pc' := 45) (tgt := 94) rfl (pz_dc dX10_wants 25 rfl) (by decide) (fun hc => ?_) (fun hc => ?_)
    · replace hb := hb.1 hc
      refine pz_iinc (pc' := 97) (x := l4) (v := l4 + (1 : Int32)) (lv' := [(4, .int (l4 + (1 : Int32))), (0, .ref l0), (2, .int l2), (3, .int l3)]) 3 rfl (pz_dc dX10_wants 52 rfl) rfl rfl (by decide) rfl ?_
      refine pz_goto (pc' := 29) (pz_dc dX10_wants 53 rfl) (by decide) ?_
      refine pz_lv (lv' := [(0, .ref l0), (2, .int l2), (3, .int l3), (4, .int (l4 + (1 : Int32)))]) [1, 2, 3, 0] rfl ?_
      exact hb
    · replace hb := hb.2 hc
      refine pz_iconst (pc' := 46) (v := 2) rfl (pz_dc dX10_wants 26 rfl) ki_2 ?_
      refine pz_aload_n (pc' := 47) (x := l0) 0 rfl (pz_dc dX10_wants 27 rfl) rfl ?_
      refine pz_aload_n (pc' := 48) (x := l0) 0 rfl (pz_dc dX10_wants 28 rfl) rfl ?_
      refine pz_getR (M := mX10_wants) hb fX10_9 (pc' := 51) rfl (pz_dc dX10_wants 29 rfl) (fun a9 hb => ?_)
      refine pz_iload_n (pc' := 52) (x := l2) 1 rfl (pz_dc dX10_wants 30 rfl) rfl ?_
      refine pz_iload (pc' := 54) (x := l4) 3 rfl (pz_dc dX10_wants 31 rfl) rfl ?_
      refine pz_ior (pc' := 55) rfl (pz_dc dX10_wants 32 rfl) ?_
      refine pz_cVi (M := mX10_wants) (N := mX10_levelOf) (d' := 1) (bc1 := 0) (bs1 := 0) (bc2 := bc) (bs2 := bs) (pc' := 58) [.ref a9, .int (l2 ||| l4)] hb vX10_287 rfl (pz_dc dX10_wants 33 rfl) rfl (Nat.le_of_ble_eq_true rfl) (Nat.le_of_ble_eq_true rfl) rfl (by omega) (by omega) (by omega) (fun x11 h10 hb => ?_)
      refine pz_imul (pc' := 59) rfl (pz_dc dX10_wants 34 rfl) ?_
      refine pz_aload_n (pc' := 60) (x := l0) 0 rfl (pz_dc dX10_wants 35 rfl) rfl ?_
      refine pz_aload_n (pc' := 61) (x := l0) 0 rfl (pz_dc dX10_wants 36 rfl) rfl ?_
      refine pz_getR (M := mX10_wants) hb fX10_9 (pc' := 64) rfl (pz_dc dX10_wants 37 rfl) (fun a12 hb => ?_)
      refine pz_iconst (pc' := 65) (v := 0) rfl (pz_dc dX10_wants 38 rfl) ki_0 ?_
      refine pz_cVi (M := mX10_wants) (N := mX10_sumOf) (d' := 0) (bc1 := 0) (bs1 := 0) (bc2 := bc) (bs2 := bs) (pc' := 68) [.ref a12, .int 0] hb vX10_227 rfl (pz_dc dX10_wants 39 rfl) rfl (Nat.le_of_ble_eq_true rfl) (Nat.le_of_ble_eq_true rfl) rfl (by omega) (by omega) (by omega) (fun x14 h13 hb => ?_)
      refine pz_icmp_gt (pc' := 71) (tgt := 74) rfl (pz_dc dX10_wants 40 rfl) (by decide) (fun hc => ?_) (fun hc => ?_)
      · replace hb := hb.1 hc
        refine pz_iload_n (pc' := 75) (x := l3) 2 rfl (pz_dc dX10_wants 42 rfl) rfl ?_
        refine pz_iconst (pc' := 76) (v := (-1)) rfl (pz_dc dX10_wants 43 rfl) ki_m1 ?_
        refine pz_icmp_eq (pc' := 79) (tgt := 91) rfl (pz_dc dX10_wants 44 rfl) (by decide) (fun hc => ?_) (fun hc => ?_)
        · replace hb := hb.1 hc
          refine pz_iload (pc' := 93) (x := l4) 3 rfl (pz_dc dX10_wants 50 rfl) rfl ?_
          refine pz_istore_n (pc' := 94) (lv' := [(3, .int l4), (0, .ref l0), (2, .int l2), (4, .int l4)]) rfl (pz_dc dX10_wants 51 rfl) (by decide) rfl ?_
          refine pz_iinc (pc' := 97) (x := l4) (v := l4 + (1 : Int32)) (lv' := [(4, .int (l4 + (1 : Int32))), (3, .int l4), (0, .ref l0), (2, .int l2)]) 3 rfl (pz_dc dX10_wants 52 rfl) rfl rfl (by decide) rfl ?_
          refine pz_goto (pc' := 29) (pz_dc dX10_wants 53 rfl) (by decide) ?_
          refine pz_lv (lv' := [(0, .ref l0), (2, .int l2), (3, .int l4), (4, .int (l4 + (1 : Int32)))]) [2, 3, 1, 0] rfl ?_
          exact hb
        · replace hb := hb.2 hc
          refine pz_iload (pc' := 81) (x := l4) 3 rfl (pz_dc dX10_wants 45 rfl) rfl ?_
          refine pz_cSi (M := mX10_wants) (N := mJ6_bitCount_0f7a4) (d' := 0) (bc1 := 0) (bs1 := 0) (bc2 := bc) (bs2 := bs) (pc' := 84) [.int l4] hb sX10_206 rfl (pz_dc dX10_wants 46 rfl) rfl (Nat.le_of_ble_eq_true rfl) (Nat.le_of_ble_eq_true rfl) rfl (by omega) (by omega) (by omega) (fun x16 h15 hb => ?_)
          refine pz_iload_n (pc' := 85) (x := l3) 2 rfl (pz_dc dX10_wants 47 rfl) rfl ?_
          refine pz_cSi (M := mX10_wants) (N := mJ6_bitCount_0f7a4) (d' := 0) (bc1 := 0) (bs1 := 0) (bc2 := bc) (bs2 := bs) (pc' := 88) [.int l3] hb sX10_206 rfl (pz_dc dX10_wants 48 rfl) rfl (Nat.le_of_ble_eq_true rfl) (Nat.le_of_ble_eq_true rfl) rfl (by omega) (by omega) (by omega) (fun x18 h17 hb => ?_)
          refine pz_icmp_ge (pc' := 91) (tgt := 94) rfl (pz_dc dX10_wants 49 rfl) (by decide) (fun hc => ?_) (fun hc => ?_)
          · replace hb := hb.1 hc
            refine pz_iinc (pc' := 97) (x := l4) (v := l4 + (1 : Int32)) (lv' := [(4, .int (l4 + (1 : Int32))), (0, .ref l0), (2, .int l2), (3, .int l3)]) 3 rfl (pz_dc dX10_wants 52 rfl) rfl rfl (by decide) rfl ?_
            refine pz_goto (pc' := 29) (pz_dc dX10_wants 53 rfl) (by decide) ?_
            refine pz_lv (lv' := [(0, .ref l0), (2, .int l2), (3, .int l3), (4, .int (l4 + (1 : Int32)))]) [1, 2, 3, 0] rfl ?_
            exact hb
          · replace hb := hb.2 hc
            refine pz_iload (pc' := 93) (x := l4) 3 rfl (pz_dc dX10_wants 50 rfl) rfl ?_
            refine pz_istore_n (pc' := 94) (lv' := [(3, .int l4), (0, .ref l0), (2, .int l2), (4, .int l4)]) rfl (pz_dc dX10_wants 51 rfl) (by decide) rfl ?_
            refine pz_iinc (pc' := 97) (x := l4) (v := l4 + (1 : Int32)) (lv' := [(4, .int (l4 + (1 : Int32))), (3, .int l4), (0, .ref l0), (2, .int l2)]) 3 rfl (pz_dc dX10_wants 52 rfl) rfl rfl (by decide) rfl ?_
            refine pz_goto (pc' := 29) (pz_dc dX10_wants 53 rfl) (by decide) ?_
            refine pz_lv (lv' := [(0, .ref l0), (2, .int l2), (3, .int l4), (4, .int (l4 + (1 : Int32)))]) [2, 3, 1, 0] rfl ?_
            exact hb
      · replace hb := hb.2 hc
        refine pz_goto (pc' := 94) (pz_dc dX10_wants 41 rfl) (by decide) ?_
        refine pz_iinc (pc' := 97) (x := l4) (v := l4 + (1 : Int32)) (lv' := [(4, .int (l4 + (1 : Int32))), (0, .ref l0), (2, .int l2), (3, .int l3)]) 3 rfl (pz_dc dX10_wants 52 rfl) rfl rfl (by decide) rfl ?_
        refine pz_goto (pc' := 29) (pz_dc dX10_wants 53 rfl) (by decide) ?_
        refine pz_lv (lv' := [(0, .ref l0), (2, .int l2), (3, .int l3), (4, .int (l4 + (1 : Int32)))]) [1, 2, 3, 0] rfl ?_
        exact hb
set_option maxRecDepth 20000 in
set_option maxHeartbeats 4000000 in
theorem wX10_evens_0 {Ex : State → Nat → Prop} {Q : Option Value → pz_H → Prop} {d bc bs : Nat} {l0 : Nat}  {h : pz_H} (hD : 2 ≤ d) (hb : pz_pF h l0 10 9 (.int 0) (fun (h1 : pz_H) => pz_gR h1 l0 10 0 (fun (a2 : Nat) => pz_is h1 l0 10 ∧ (pz_ki mX10_sumOf 0 0 0 (.ref l0 :: [.ref a2, .int 0]) h1 (fun (x4 : Int32) (h3 : pz_H) => pz_V mX10_evens Ex Q d bc bs 19 [(0, .ref l0), (1, .int x4), (2, .int 0), (3, .int 2)] [] h3))))) : pz_V mX10_evens Ex Q d bc bs 0 [(0, .ref l0)] [] h := by
  refine pz_aload_n (pc' := 1) (x := l0) 0 rfl (pz_dc dX10_evens 0 rfl) rfl ?_
  refine pz_iconst (pc' := 2) (v := 0) rfl (pz_dc dX10_evens 1 rfl) ki_0 ?_
  refine pz_putv (M := mX10_evens) hb (pX10_95 _ rfl) rfl rfl (pc' := 5) rfl (pz_dc dX10_evens 2 rfl) (fun h1 hb => ?_)
  refine pz_aload_n (pc' := 6) (x := l0) 0 rfl (pz_dc dX10_evens 3 rfl) rfl ?_
  refine pz_aload_n (pc' := 7) (x := l0) 0 rfl (pz_dc dX10_evens 4 rfl) rfl ?_
  refine pz_getR (M := mX10_evens) hb fX10_9 (pc' := 10) rfl (pz_dc dX10_evens 5 rfl) (fun a2 hb => ?_)
  refine pz_iconst (pc' := 11) (v := 0) rfl (pz_dc dX10_evens 6 rfl) ki_0 ?_
  refine pz_cVi (M := mX10_evens) (N := mX10_sumOf) (d' := 0) (bc1 := 0) (bs1 := 0) (bc2 := bc) (bs2 := bs) (pc' := 14) [.ref a2, .int 0] hb vX10_227 rfl (pz_dc dX10_evens 7 rfl) rfl (Nat.le_of_ble_eq_true rfl) (Nat.le_of_ble_eq_true rfl) rfl (by omega) (by omega) (by omega) (fun x4 h3 hb => ?_)
  refine pz_istore_n (pc' := 15) (lv' := [(1, .int x4), (0, .ref l0)]) rfl (pz_dc dX10_evens 8 rfl) (by decide) rfl ?_
  refine pz_iconst (pc' := 16) (v := 0) rfl (pz_dc dX10_evens 9 rfl) ki_0 ?_
  refine pz_istore_n (pc' := 17) (lv' := [(2, .int 0), (1, .int x4), (0, .ref l0)]) rfl (pz_dc dX10_evens 10 rfl) (by decide) rfl ?_
  refine pz_iconst (pc' := 18) (v := 2) rfl (pz_dc dX10_evens 11 rfl) ki_2 ?_
  refine pz_istore_n (pc' := 19) (lv' := [(3, .int 2), (2, .int 0), (1, .int x4), (0, .ref l0)]) rfl (pz_dc dX10_evens 12 rfl) (by decide) rfl ?_
  refine pz_lv (lv' := [(0, .ref l0), (1, .int x4), (2, .int 0), (3, .int 2)]) [3, 2, 1, 0] rfl ?_
  exact hb
set_option maxRecDepth 20000 in
set_option maxHeartbeats 4000000 in
theorem wX10_evens_19 {Ex : State → Nat → Prop} {Q : Option Value → pz_H → Prop} {d bc bs : Nat} {l0 : Nat} {l1 : Int32} {l2 : Int32} {l3 : Int32}  {h : pz_H} (hD : 2 ≤ d) (hb : pz_is h l0 10 ∧ (pz_gI h l0 10 1 (fun (x1 : Int32) => ((eX10_all x1) < l3 → pz_pF h l0 10 8 (.int 0) (fun (h5 : pz_H) => pz_is h5 l0 10 ∧ (pz_kv mX10_tell 0 0 0 (.ref l0 :: [.long l2.toInt64]) h5 (fun (h6 : pz_H) => pz_gR h6 l0 10 0 (fun (a7 : Nat) => pz_is h6 l0 10 ∧ (pz_ki mX10_levelOf 1 0 0 (.ref l0 :: [.ref a7, .int l2]) h6 (fun (x9 : Int32) (h8 : pz_H) => Q (some (.int (if 0 ≤ ((((2 : Int32)) * x9) - l1) then ((((2 : Int32)) * x9) - l1) else 0 - ((((2 : Int32)) * x9) - l1)))) h8))))))) ∧ (¬ (eX10_all x1) < l3 → pz_gR h l0 10 0 (fun (a10 : Nat) => pz_is h l0 10 ∧ (pz_ki mX10_levelOf 1 0 0 (.ref l0 :: [.ref a10, .int l3]) h (fun (x12 : Int32) (h11 : pz_H) => pz_gR h11 l0 10 0 (fun (a13 : Nat) => pz_is h11 l0 10 ∧ (pz_ki mX10_levelOf 1 0 0 (.ref l0 :: [.ref a13, .int l2]) h11 (fun (x15 : Int32) (h14 : pz_H) => ((if 0 ≤ ((((2 : Int32)) * x15) - l1) then ((((2 : Int32)) * x15) - l1) else 0 - ((((2 : Int32)) * x15) - l1)) ≤ (if 0 ≤ ((((2 : Int32)) * x12) - l1) then ((((2 : Int32)) * x12) - l1) else 0 - ((((2 : Int32)) * x12) - l1)) → pz_V mX10_evens Ex Q d bc bs 19 [(0, .ref l0), (1, .int l1), (2, .int l2), (3, .int (l3 + (2 : Int32)))] [] h14) ∧ (¬ (if 0 ≤ ((((2 : Int32)) * x15) - l1) then ((((2 : Int32)) * x15) - l1) else 0 - ((((2 : Int32)) * x15) - l1)) ≤ (if 0 ≤ ((((2 : Int32)) * x12) - l1) then ((((2 : Int32)) * x12) - l1) else 0 - ((((2 : Int32)) * x12) - l1)) → pz_V mX10_evens Ex Q d bc bs 19 [(0, .ref l0), (1, .int l1), (2, .int l3), (3, .int (l3 + (2 : Int32)))] [] h14))))))))))) : pz_V mX10_evens Ex Q d bc bs 19 [(0, .ref l0), (1, .int l1), (2, .int l2), (3, .int l3)] [] h := by
  refine pz_iload_n (pc' := 20) (x := l3) 3 rfl (pz_dc dX10_evens 13 rfl) rfl ?_
  refine pz_aload_n (pc' := 21) (x := l0) 0 rfl (pz_dc dX10_evens 14 rfl) rfl ?_
  obtain ⟨⟨fs16, hf17⟩, hb⟩ := hb
  obtain ⟨fs2, x1, g3, g4, hb⟩ := hb
  refine pz_callV (M := mX10_evens) (N := mX10_all) (d' := 0) (bc1 := 0) (bs1 := 0) (bc2 := bc) (bs2 := bs) (pc' := 24) [] vX10_293 rfl (pz_dc dX10_evens 15 rfl) rfl (Nat.le_of_ble_eq_true rfl) (Nat.le_of_ble_eq_true rfl) rfl (by omega) (by omega) (by omega) hf17 ?_
  refine cX10_all ⟨fs2, x1, g3, g4, ?_⟩
  show pz_V mX10_evens _ _ _ _ _ 24 [(0, .ref l0), (1, .int l1), (2, .int l2), (3, .int l3)] [.int (eX10_all x1), .int l3] h
  refine pz_icmp_gt (pc' := 27) (tgt := 70) rfl (pz_dc dX10_evens 16 rfl) (by decide) (fun hc => ?_) (fun hc => ?_)
  · replace hb := hb.1 hc
    refine pz_aload_n (pc' := 71) (x := l0) 0 rfl (pz_dc dX10_evens 42 rfl) rfl ?_
    refine pz_iconst (pc' := 72) (v := 0) rfl (pz_dc dX10_evens 43 rfl) ki_0 ?_
    refine pz_putv (M := mX10_evens) hb (pX10_98 _ rfl) rfl rfl (pc' := 75) rfl (pz_dc dX10_evens 44 rfl) (fun h5 hb => ?_)
    refine pz_aload_n (pc' := 76) (x := l0) 0 rfl (pz_dc dX10_evens 45 rfl) rfl ?_
    refine pz_iload_n (pc' := 77) (x := l2) 2 rfl (pz_dc dX10_evens 46 rfl) rfl ?_
    refine pz_i2l (pc' := 78) rfl (pz_dc dX10_evens 47 rfl) ?_
    refine pz_cVv (M := mX10_evens) (N := mX10_tell) (d' := 0) (bc1 := 0) (bs1 := 0) (bc2 := bc) (bs2 := bs) (pc' := 81) [.long l2.toInt64] hb vX10_248 rfl (pz_dc dX10_evens 48 rfl) rfl (Nat.le_of_ble_eq_true rfl) (Nat.le_of_ble_eq_true rfl) rfl (by omega) (by omega) (by omega) (fun h6 hb => ?_)
    refine pz_iconst (pc' := 82) (v := 2) rfl (pz_dc dX10_evens 49 rfl) ki_2 ?_
    refine pz_aload_n (pc' := 83) (x := l0) 0 rfl (pz_dc dX10_evens 50 rfl) rfl ?_
    refine pz_aload_n (pc' := 84) (x := l0) 0 rfl (pz_dc dX10_evens 51 rfl) rfl ?_
    refine pz_getR (M := mX10_evens) hb fX10_9 (pc' := 87) rfl (pz_dc dX10_evens 52 rfl) (fun a7 hb => ?_)
    refine pz_iload_n (pc' := 88) (x := l2) 2 rfl (pz_dc dX10_evens 53 rfl) rfl ?_
    refine pz_cVi (M := mX10_evens) (N := mX10_levelOf) (d' := 1) (bc1 := 0) (bs1 := 0) (bc2 := bc) (bs2 := bs) (pc' := 91) [.ref a7, .int l2] hb vX10_287 rfl (pz_dc dX10_evens 54 rfl) rfl (Nat.le_of_ble_eq_true rfl) (Nat.le_of_ble_eq_true rfl) rfl (by omega) (by omega) (by omega) (fun x9 h8 hb => ?_)
    refine pz_imul (pc' := 92) rfl (pz_dc dX10_evens 55 rfl) ?_
    refine pz_iload_n (pc' := 93) (x := l1) 1 rfl (pz_dc dX10_evens 56 rfl) rfl ?_
    refine pz_isub (pc' := 94) rfl (pz_dc dX10_evens 57 rfl) ?_
    refine pz_abs (M := mX10_evens) (pc' := 97) wX10_320 rfl (pz_dc dX10_evens 58 rfl) (Nat.le_of_ble_eq_true rfl) (by omega) ?_
    exact pz_iret (pz_dc dX10_evens 59 rfl) rfl hb
  · replace hb := hb.2 hc
    refine pz_iconst (pc' := 28) (v := 2) rfl (pz_dc dX10_evens 17 rfl) ki_2 ?_
    refine pz_aload_n (pc' := 29) (x := l0) 0 rfl (pz_dc dX10_evens 18 rfl) rfl ?_
    refine pz_aload_n (pc' := 30) (x := l0) 0 rfl (pz_dc dX10_evens 19 rfl) rfl ?_
    refine pz_getR (M := mX10_evens) hb fX10_9 (pc' := 33) rfl (pz_dc dX10_evens 20 rfl) (fun a10 hb => ?_)
    refine pz_iload_n (pc' := 34) (x := l3) 3 rfl (pz_dc dX10_evens 21 rfl) rfl ?_
    refine pz_cVi (M := mX10_evens) (N := mX10_levelOf) (d' := 1) (bc1 := 0) (bs1 := 0) (bc2 := bc) (bs2 := bs) (pc' := 37) [.ref a10, .int l3] hb vX10_287 rfl (pz_dc dX10_evens 22 rfl) rfl (Nat.le_of_ble_eq_true rfl) (Nat.le_of_ble_eq_true rfl) rfl (by omega) (by omega) (by omega) (fun x12 h11 hb => ?_)
    refine pz_imul (pc' := 38) rfl (pz_dc dX10_evens 23 rfl) ?_
    refine pz_iload_n (pc' := 39) (x := l1) 1 rfl (pz_dc dX10_evens 24 rfl) rfl ?_
    refine pz_isub (pc' := 40) rfl (pz_dc dX10_evens 25 rfl) ?_
    refine pz_abs (M := mX10_evens) (pc' := 43) wX10_320 rfl (pz_dc dX10_evens 26 rfl) (Nat.le_of_ble_eq_true rfl) (by omega) ?_
    refine pz_iconst (pc' := 44) (v := 2) rfl (pz_dc dX10_evens 27 rfl) ki_2 ?_
    refine pz_aload_n (pc' := 45) (x := l0) 0 rfl (pz_dc dX10_evens 28 rfl) rfl ?_
    refine pz_aload_n (pc' := 46) (x := l0) 0 rfl (pz_dc dX10_evens 29 rfl) rfl ?_
    refine pz_getR (M := mX10_evens) hb fX10_9 (pc' := 49) rfl (pz_dc dX10_evens 30 rfl) (fun a13 hb => ?_)
    refine pz_iload_n (pc' := 50) (x := l2) 2 rfl (pz_dc dX10_evens 31 rfl) rfl ?_
    refine pz_cVi (M := mX10_evens) (N := mX10_levelOf) (d' := 1) (bc1 := 0) (bs1 := 0) (bc2 := bc) (bs2 := bs) (pc' := 53) [.ref a13, .int l2] hb vX10_287 rfl (pz_dc dX10_evens 32 rfl) rfl (Nat.le_of_ble_eq_true rfl) (Nat.le_of_ble_eq_true rfl) rfl (by omega) (by omega) (by omega) (fun x15 h14 hb => ?_)
    refine pz_imul (pc' := 54) rfl (pz_dc dX10_evens 33 rfl) ?_
    refine pz_iload_n (pc' := 55) (x := l1) 1 rfl (pz_dc dX10_evens 34 rfl) rfl ?_
    refine pz_isub (pc' := 56) rfl (pz_dc dX10_evens 35 rfl) ?_
    refine pz_abs (M := mX10_evens) (pc' := 59) wX10_320 rfl (pz_dc dX10_evens 36 rfl) (Nat.le_of_ble_eq_true rfl) (by omega) ?_
    refine pz_icmp_ge (pc' := 62) (tgt := 64) rfl (pz_dc dX10_evens 37 rfl) (by decide) (fun hc => ?_) (fun hc => ?_)
    · replace hb := hb.1 hc
      refine pz_iinc (pc' := 67) (x := l3) (v := l3 + (2 : Int32)) (lv' := [(3, .int (l3 + (2 : Int32))), (0, .ref l0), (1, .int l1), (2, .int l2)]) 3 rfl (pz_dc dX10_evens 40 rfl) rfl rfl (by decide) rfl ?_
      refine pz_goto (pc' := 19) (pz_dc dX10_evens 41 rfl) (by decide) ?_
      refine pz_lv (lv' := [(0, .ref l0), (1, .int l1), (2, .int l2), (3, .int (l3 + (2 : Int32)))]) [1, 2, 3, 0] rfl ?_
      exact hb
    · replace hb := hb.2 hc
      refine pz_iload_n (pc' := 63) (x := l3) 3 rfl (pz_dc dX10_evens 38 rfl) rfl ?_
      refine pz_istore_n (pc' := 64) (lv' := [(2, .int l3), (0, .ref l0), (1, .int l1), (3, .int l3)]) rfl (pz_dc dX10_evens 39 rfl) (by decide) rfl ?_
      refine pz_iinc (pc' := 67) (x := l3) (v := l3 + (2 : Int32)) (lv' := [(3, .int (l3 + (2 : Int32))), (2, .int l3), (0, .ref l0), (1, .int l1)]) 3 rfl (pz_dc dX10_evens 40 rfl) rfl rfl (by decide) rfl ?_
      refine pz_goto (pc' := 19) (pz_dc dX10_evens 41 rfl) (by decide) ?_
      refine pz_lv (lv' := [(0, .ref l0), (1, .int l1), (2, .int l3), (3, .int (l3 + (2 : Int32)))]) [2, 3, 1, 0] rfl ?_
      exact hb
