set_option maxRecDepth 20000 in
set_option maxHeartbeats 4000000 in
theorem wX9_spoon_0 {Ex : State → Nat → Prop} {Q : Option Value → pz_H → Prop} {d bc bs : Nat} {l0 : Nat} {l1 : Int32} {l2 : Int32} {l3 : Int32}  {h : pz_H} (hD : 4 ≤ d) (hb : pz_gR h l0 9 2 (fun (a1 : Nat) => pz_is h a1 1 ∧ (pz_gI h a1 1 4 (fun (x2 : Int32) => ((eX1_has l1 x2) = 0 → Q (some (.int ((-1)))) h) ∧ (¬ (eX1_has l1 x2) = 0 → ((eX9_isWithin l2 ((1 : Int32)) ((9 : Int32))) = 0 → Q (some (.int ((-1)))) h) ∧ (¬ (eX9_isWithin l2 ((1 : Int32)) ((9 : Int32))) = 0 → (¬ (eX9_isWithin l3 ((0 : Int32)) ((60 : Int32))) = 0 → pz_is h l0 9 ∧ (pz_kv mX9_startTrial 2 0 0 (.ref l0 :: []) h (fun (h6 : pz_H) => pz_V mX9_spoon Ex Q d bc bs 43 [(0, .ref l0), (1, .int l1), (2, .int l2), (3, .int l3), (4, .int 0), (5, .int 0)] [] h6))) ∧ ((eX9_isWithin l3 ((0 : Int32)) ((60 : Int32))) = 0 → Q (some (.int ((-1)))) h))))))) : pz_V mX9_spoon Ex Q d bc bs 0 [(0, .ref l0), (1, .int l1), (2, .int l2), (3, .int l3)] [] h := by
  refine pz_aload_n (pc' := 1) (x := l0) 0 rfl (pz_dc dX9_spoon 0 rfl) rfl ?_
  refine pz_getR (M := mX9_spoon) hb fX9_26 (pc' := 4) rfl (pz_dc dX9_spoon 1 rfl) (fun a1 hb => ?_)
  refine pz_iload_n (pc' := 5) (x := l1) 1 rfl (pz_dc dX9_spoon 2 rfl) rfl ?_
  obtain ⟨⟨fs7, hf8⟩, hb⟩ := hb
  obtain ⟨fs3, x2, g4, g5, hb⟩ := hb
  refine pz_callV (M := mX9_spoon) (N := mX1_has) (d' := 0) (bc1 := 0) (bs1 := 0) (bc2 := bc) (bs2 := bs) (pc' := 8) [.int l1] vX9_115 rfl (pz_dc dX9_spoon 3 rfl) rfl (Nat.le_of_ble_eq_true rfl) (Nat.le_of_ble_eq_true rfl) rfl (by omega) (by omega) (by omega) hf8 ?_
  refine cX1_has ⟨fs3, x2, g4, g5, ?_⟩
  show pz_V mX9_spoon _ _ _ _ _ 8 [(0, .ref l0), (1, .int l1), (2, .int l2), (3, .int l3)] [.int (eX1_has l1 x2)] h
  refine pz_if_eq (pc' := 11) (tgt := 31) rfl (pz_dc dX9_spoon 4 rfl) (by decide) (fun hc => ?_) (fun hc => ?_)
  · replace hb := hb.1 hc
    refine pz_iconst (pc' := 32) (v := (-1)) rfl (pz_dc dX9_spoon 15 rfl) ki_m1 ?_
    exact pz_iret (pz_dc dX9_spoon 16 rfl) rfl hb
  · replace hb := hb.2 hc
    refine pz_iload_n (pc' := 12) (x := l2) 2 rfl (pz_dc dX9_spoon 5 rfl) rfl ?_
    refine pz_iconst (pc' := 13) (v := 1) rfl (pz_dc dX9_spoon 6 rfl) ki_1 ?_
    refine pz_bipush (pc' := 15) (v := 9) rfl (pz_dc dX9_spoon 7 rfl) kb_9 ?_
    refine pz_callS (M := mX9_spoon) (N := mX9_isWithin) (d' := 0) (bc1 := 0) (bs1 := 0) (bc2 := bc) (bs2 := bs) (pc' := 18) [.int l2, .int 1, .int 9] sX9_196 rfl (pz_dc dX9_spoon 8 rfl) rfl (Nat.le_of_ble_eq_true rfl) (Nat.le_of_ble_eq_true rfl) rfl (by omega) (by omega) (by omega) ?_
    refine cX9_isWithin ?_
    show pz_V mX9_spoon _ _ _ _ _ 18 [(0, .ref l0), (1, .int l1), (2, .int l2), (3, .int l3)] [.int (eX9_isWithin l2 ((1 : Int32)) ((9 : Int32)))] h
    refine pz_if_eq (pc' := 21) (tgt := 31) rfl (pz_dc dX9_spoon 9 rfl) (by decide) (fun hc => ?_) (fun hc => ?_)
    · replace hb := hb.1 hc
      refine pz_iconst (pc' := 32) (v := (-1)) rfl (pz_dc dX9_spoon 15 rfl) ki_m1 ?_
      exact pz_iret (pz_dc dX9_spoon 16 rfl) rfl hb
    · replace hb := hb.2 hc
      refine pz_iload_n (pc' := 22) (x := l3) 3 rfl (pz_dc dX9_spoon 10 rfl) rfl ?_
      refine pz_iconst (pc' := 23) (v := 0) rfl (pz_dc dX9_spoon 11 rfl) ki_0 ?_
      refine pz_bipush (pc' := 25) (v := 60) rfl (pz_dc dX9_spoon 12 rfl) kb_60 ?_
      refine pz_callS (M := mX9_spoon) (N := mX9_isWithin) (d' := 0) (bc1 := 0) (bs1 := 0) (bc2 := bc) (bs2 := bs) (pc' := 28) [.int l3, .int 0, .int 60] sX9_196 rfl (pz_dc dX9_spoon 13 rfl) rfl (Nat.le_of_ble_eq_true rfl) (Nat.le_of_ble_eq_true rfl) rfl (by omega) (by omega) (by omega) ?_
      refine cX9_isWithin ?_
      show pz_V mX9_spoon _ _ _ _ _ 28 [(0, .ref l0), (1, .int l1), (2, .int l2), (3, .int l3)] [.int (eX9_isWithin l3 ((0 : Int32)) ((60 : Int32)))] h
      refine pz_if_ne (pc' := 31) (tgt := 33) rfl (pz_dc dX9_spoon 14 rfl) (by decide) (fun hc => ?_) (fun hc => ?_)
      · replace hb := hb.1 hc
        refine pz_aload_n (pc' := 34) (x := l0) 0 rfl (pz_dc dX9_spoon 17 rfl) rfl ?_
        refine pz_cVv (M := mX9_spoon) (N := mX9_startTrial) (d' := 2) (bc1 := 0) (bs1 := 0) (bc2 := bc) (bs2 := bs) (pc' := 37) [] hb vX9_200 rfl (pz_dc dX9_spoon 18 rfl) rfl (Nat.le_of_ble_eq_true rfl) (Nat.le_of_ble_eq_true rfl) rfl (by omega) (by omega) (by omega) (fun h6 hb => ?_)
        refine pz_iconst (pc' := 38) (v := 0) rfl (pz_dc dX9_spoon 19 rfl) ki_0 ?_
        refine pz_istore (pc' := 40) (lv' := [(4, .int 0), (0, .ref l0), (1, .int l1), (2, .int l2), (3, .int l3)]) rfl (pz_dc dX9_spoon 20 rfl) (by decide) rfl ?_
        refine pz_iconst (pc' := 41) (v := 0) rfl (pz_dc dX9_spoon 21 rfl) ki_0 ?_
        refine pz_istore (pc' := 43) (lv' := [(5, .int 0), (4, .int 0), (0, .ref l0), (1, .int l1), (2, .int l2), (3, .int l3)]) rfl (pz_dc dX9_spoon 22 rfl) (by decide) rfl ?_
        refine pz_lv (lv' := [(0, .ref l0), (1, .int l1), (2, .int l2), (3, .int l3), (4, .int 0), (5, .int 0)]) [2, 3, 4, 5, 1, 0] rfl ?_
        exact hb
      · replace hb := hb.2 hc
        refine pz_iconst (pc' := 32) (v := (-1)) rfl (pz_dc dX9_spoon 15 rfl) ki_m1 ?_
        exact pz_iret (pz_dc dX9_spoon 16 rfl) rfl hb
set_option maxRecDepth 20000 in
set_option maxHeartbeats 4000000 in
theorem wX9_spoon_43 {Ex : State → Nat → Prop} {Q : Option Value → pz_H → Prop} {d bc bs : Nat} {l0 : Nat} {l1 : Int32} {l2 : Int32} {l3 : Int32} {l4 : Int32} {l5 : Int32}  {h : pz_H} (hD : 4 ≤ d) (hb : (l3 ≤ l5 → pz_gR h l0 9 1 (fun (a1 : Nat) => pz_is h a1 4 ∧ (pz_kv mX4_tell 1 0 0 (.ref a1 :: [.long l4.toInt64]) h (fun (h2 : pz_H) => pz_gR h2 l0 9 5 (fun (a3 : Nat) => pz_gR h2 a3 8 0 (fun (a4 : Nat) => pz_rI h2 a4 l1 (fun (x5 : Int32) => Q (some (.int x5)) h2))))))) ∧ (¬ l3 ≤ l5 → pz_gR h l0 9 5 (fun (a6 : Nat) => pz_gR h a6 8 0 (fun (a7 : Nat) => pz_rI h a7 l1 (fun (x8 : Int32) => pz_gR h l0 9 5 (fun (a9 : Nat) => pz_gR h a9 8 0 (fun (a10 : Nat) => pz_rI h a10 l1 (fun (x11 : Int32) => pz_sI h a10 l1 (x11 - (if x8 < l2 then x8 else l2)) (fun (h12 : pz_H) => pz_gR h12 l0 9 2 (fun (a13 : Nat) => pz_gR h12 l0 9 5 (fun (a14 : Nat) => pz_gR h12 l0 9 12 (fun (a15 : Nat) => pz_is h12 a13 1 ∧ (pz_kv mX1_passDay 3 0 0 (.ref a13 :: [.ref a14, .ref a15]) h12 (fun (h16 : pz_H) => pz_V mX9_spoon Ex Q d bc bs 43 [(0, .ref l0), (1, .int l1), (2, .int l2), (3, .int l3), (4, .int (l4 + (if x8 < l2 then x8 else l2))), (5, .int (l5 + (1 : Int32)))] [] h16)))))))))))))) : pz_V mX9_spoon Ex Q d bc bs 43 [(0, .ref l0), (1, .int l1), (2, .int l2), (3, .int l3), (4, .int l4), (5, .int l5)] [] h := by
  refine pz_iload (pc' := 45) (x := l5) 5 rfl (pz_dc dX9_spoon 23 rfl) rfl ?_
  refine pz_iload_n (pc' := 46) (x := l3) 3 rfl (pz_dc dX9_spoon 24 rfl) rfl ?_
  refine pz_icmp_ge (pc' := 49) (tgt := 106) rfl (pz_dc dX9_spoon 25 rfl) (by decide) (fun hc => ?_) (fun hc => ?_)
  · replace hb := hb.1 hc
    refine pz_aload_n (pc' := 107) (x := l0) 0 rfl (pz_dc dX9_spoon 56 rfl) rfl ?_
    refine pz_getR (M := mX9_spoon) hb fX9_19 (pc' := 110) rfl (pz_dc dX9_spoon 57 rfl) (fun a1 hb => ?_)
    refine pz_iload (pc' := 112) (x := l4) 4 rfl (pz_dc dX9_spoon 58 rfl) rfl ?_
    refine pz_i2l (pc' := 113) rfl (pz_dc dX9_spoon 59 rfl) ?_
    refine pz_cVv (M := mX9_spoon) (N := mX4_tell) (d' := 1) (bc1 := 0) (bs1 := 0) (bc2 := bc) (bs2 := bs) (pc' := 116) [.long l4.toInt64] hb vX9_212 rfl (pz_dc dX9_spoon 60 rfl) rfl (Nat.le_of_ble_eq_true rfl) (Nat.le_of_ble_eq_true rfl) rfl (by omega) (by omega) (by omega) (fun h2 hb => ?_)
    refine pz_aload_n (pc' := 117) (x := l0) 0 rfl (pz_dc dX9_spoon 61 rfl) rfl ?_
    refine pz_getR (M := mX9_spoon) hb fX9_40 (pc' := 120) rfl (pz_dc dX9_spoon 62 rfl) (fun a3 hb => ?_)
    refine pz_getR (M := mX9_spoon) hb fX9_136 (pc' := 123) rfl (pz_dc dX9_spoon 63 rfl) (fun a4 hb => ?_)
    refine pz_iload_n (pc' := 124) (x := l1) 1 rfl (pz_dc dX9_spoon 64 rfl) rfl ?_
    refine pz_ldI hb (pc' := 125) rfl (pz_dc dX9_spoon 65 rfl) (fun x5 hb => ?_)
    exact pz_iret (pz_dc dX9_spoon 66 rfl) rfl hb
  · replace hb := hb.2 hc
    refine pz_iload_n (pc' := 50) (x := l2) 2 rfl (pz_dc dX9_spoon 26 rfl) rfl ?_
    refine pz_aload_n (pc' := 51) (x := l0) 0 rfl (pz_dc dX9_spoon 27 rfl) rfl ?_
    refine pz_getR (M := mX9_spoon) hb fX9_40 (pc' := 54) rfl (pz_dc dX9_spoon 28 rfl) (fun a6 hb => ?_)
    refine pz_getR (M := mX9_spoon) hb fX9_136 (pc' := 57) rfl (pz_dc dX9_spoon 29 rfl) (fun a7 hb => ?_)
    refine pz_iload_n (pc' := 58) (x := l1) 1 rfl (pz_dc dX9_spoon 30 rfl) rfl ?_
    refine pz_ldI hb (pc' := 59) rfl (pz_dc dX9_spoon 31 rfl) (fun x8 hb => ?_)
    refine pz_min (M := mX9_spoon) (pc' := 62) wX9_322 rfl (pz_dc dX9_spoon 32 rfl) (Nat.le_of_ble_eq_true rfl) (by omega) ?_
    refine pz_istore (pc' := 64) (lv' := [(6, .int (if x8 < l2 then x8 else l2)), (0, .ref l0), (1, .int l1), (2, .int l2), (3, .int l3), (4, .int l4), (5, .int l5)]) rfl (pz_dc dX9_spoon 33 rfl) (by decide) rfl ?_
    refine pz_aload_n (pc' := 65) (x := l0) 1 rfl (pz_dc dX9_spoon 34 rfl) rfl ?_
    refine pz_getR (M := mX9_spoon) hb fX9_40 (pc' := 68) rfl (pz_dc dX9_spoon 35 rfl) (fun a9 hb => ?_)
    refine pz_getR (M := mX9_spoon) hb fX9_136 (pc' := 71) rfl (pz_dc dX9_spoon 36 rfl) (fun a10 hb => ?_)
    refine pz_iload_n (pc' := 72) (x := l1) 2 rfl (pz_dc dX9_spoon 37 rfl) rfl ?_
    refine pz_dup2 (pc' := 73) rfl (pz_dc dX9_spoon 38 rfl) rfl rfl ?_
    refine pz_ldI hb (pc' := 74) rfl (pz_dc dX9_spoon 39 rfl) (fun x11 hb => ?_)
    refine pz_iload (pc' := 76) (x := if x8 < l2 then x8 else l2) 0 rfl (pz_dc dX9_spoon 40 rfl) rfl ?_
    refine pz_isub (pc' := 77) rfl (pz_dc dX9_spoon 41 rfl) ?_
    refine pz_stI hb (pc' := 78) rfl (pz_dc dX9_spoon 42 rfl) (fun h12 hb => ?_)
    refine pz_iload (pc' := 80) (x := l4) 5 rfl (pz_dc dX9_spoon 43 rfl) rfl ?_
    refine pz_iload (pc' := 82) (x := if x8 < l2 then x8 else l2) 0 rfl (pz_dc dX9_spoon 44 rfl) rfl ?_
    refine pz_iadd (pc' := 83) rfl (pz_dc dX9_spoon 45 rfl) ?_
    refine pz_istore (pc' := 85) (lv' := [(4, .int (l4 + (if x8 < l2 then x8 else l2))), (6, .int (if x8 < l2 then x8 else l2)), (0, .ref l0), (1, .int l1), (2, .int l2), (3, .int l3), (5, .int l5)]) rfl (pz_dc dX9_spoon 46 rfl) (by decide) rfl ?_
    refine pz_aload_n (pc' := 86) (x := l0) 2 rfl (pz_dc dX9_spoon 47 rfl) rfl ?_
    refine pz_getR (M := mX9_spoon) hb fX9_26 (pc' := 89) rfl (pz_dc dX9_spoon 48 rfl) (fun a13 hb => ?_)
    refine pz_aload_n (pc' := 90) (x := l0) 2 rfl (pz_dc dX9_spoon 49 rfl) rfl ?_
    refine pz_getR (M := mX9_spoon) hb fX9_40 (pc' := 93) rfl (pz_dc dX9_spoon 50 rfl) (fun a14 hb => ?_)
    refine pz_aload_n (pc' := 94) (x := l0) 2 rfl (pz_dc dX9_spoon 51 rfl) rfl ?_
    refine pz_getR (M := mX9_spoon) hb fX9_78 (pc' := 97) rfl (pz_dc dX9_spoon 52 rfl) (fun a15 hb => ?_)
    refine pz_cVv (M := mX9_spoon) (N := mX1_passDay) (d' := 3) (bc1 := 0) (bs1 := 0) (bc2 := bc) (bs2 := bs) (pc' := 100) [.ref a14, .ref a15] hb vX9_214 rfl (pz_dc dX9_spoon 53 rfl) rfl (Nat.le_of_ble_eq_true rfl) (Nat.le_of_ble_eq_true rfl) rfl (by omega) (by omega) (by omega) (fun h16 hb => ?_)
    refine pz_iinc (pc' := 103) (x := l5) (v := l5 + (1 : Int32)) (lv' := [(5, .int (l5 + (1 : Int32))), (4, .int (l4 + (if x8 < l2 then x8 else l2))), (6, .int (if x8 < l2 then x8 else l2)), (0, .ref l0), (1, .int l1), (2, .int l2), (3, .int l3)]) 6 rfl (pz_dc dX9_spoon 54 rfl) rfl rfl (by decide) rfl ?_
    refine pz_goto (pc' := 43) (pz_dc dX9_spoon 55 rfl) (by decide) ?_
    refine pz_lv (lv' := [(0, .ref l0), (1, .int l1), (2, .int l2), (3, .int l3), (4, .int (l4 + (if x8 < l2 then x8 else l2))), (5, .int (l5 + (1 : Int32)))]) [3, 4, 5, 6, 1, 0] rfl ?_
    exact hb
set_option maxRecDepth 20000 in
set_option maxHeartbeats 4000000 in
theorem wX9_rests_0 {Ex : State → Nat → Prop} {Q : Option Value → pz_H → Prop} {d bc bs : Nat} {l0 : Nat} {l1 : Int32}  {h : pz_H} (hD : 3 ≤ d) (hb : (¬ (eX9_isWithin l1 ((0 : Int32)) ((20 : Int32))) = 0 → pz_gR h l0 9 1 (fun (a1 : Nat) => pz_is h a1 4 ∧ (pz_pF h a1 4 1 (.int 0) (fun (h2 : pz_H) => pz_V mX9_rests Ex Q d bc bs 23 [(0, .ref l0), (1, .int l1), (2, .int 0), (3, .int 0)] [] h2)))) ∧ ((eX9_isWithin l1 ((0 : Int32)) ((20 : Int32))) = 0 → Q (some (.int ((-1)))) h)) : pz_V mX9_rests Ex Q d bc bs 0 [(0, .ref l0), (1, .int l1)] [] h := by
  refine pz_iload_n (pc' := 1) (x := l1) 1 rfl (pz_dc dX9_rests 0 rfl) rfl ?_
  refine pz_iconst (pc' := 2) (v := 0) rfl (pz_dc dX9_rests 1 rfl) ki_0 ?_
  refine pz_bipush (pc' := 4) (v := 20) rfl (pz_dc dX9_rests 2 rfl) kb_20 ?_
  refine pz_callS (M := mX9_rests) (N := mX9_isWithin) (d' := 0) (bc1 := 0) (bs1 := 0) (bc2 := bc) (bs2 := bs) (pc' := 7) [.int l1, .int 0, .int 20] sX9_196 rfl (pz_dc dX9_rests 3 rfl) rfl (Nat.le_of_ble_eq_true rfl) (Nat.le_of_ble_eq_true rfl) rfl (by omega) (by omega) (by omega) ?_
  refine cX9_isWithin ?_
  show pz_V mX9_rests _ _ _ _ _ 7 [(0, .ref l0), (1, .int l1)] [.int (eX9_isWithin l1 ((0 : Int32)) ((20 : Int32)))] h
  refine pz_if_ne (pc' := 10) (tgt := 12) rfl (pz_dc dX9_rests 4 rfl) (by decide) (fun hc => ?_) (fun hc => ?_)
  · replace hb := hb.1 hc
    refine pz_aload_n (pc' := 13) (x := l0) 0 rfl (pz_dc dX9_rests 7 rfl) rfl ?_
    refine pz_getR (M := mX9_rests) hb fX9_19 (pc' := 16) rfl (pz_dc dX9_rests 8 rfl) (fun a1 hb => ?_)
    obtain ⟨⟨fs3, hf4⟩, hb⟩ := hb
    refine pz_callV (M := mX9_rests) (N := mX4_clear) (d' := 0) (bc1 := 0) (bs1 := 0) (bc2 := bc) (bs2 := bs) (pc' := 19) [] vX9_207 rfl (pz_dc dX9_rests 9 rfl) rfl (Nat.le_of_ble_eq_true rfl) (Nat.le_of_ble_eq_true rfl) rfl (by omega) (by omega) (by omega) hf4 ?_
    refine pz_aload_n (pc' := 1) (x := a1) 0 rfl (pz_dc dX4_clear 0 rfl) rfl ?_
    refine pz_iconst (pc' := 2) (v := 0) rfl (pz_dc dX4_clear 1 rfl) ki_0 ?_
    refine pz_putv (M := mX4_clear) hb (pX4_15 _ rfl) rfl rfl (pc' := 5) rfl (pz_dc dX4_clear 2 rfl) (fun h2 hb => ?_)
    refine pz_vret (pz_dc dX4_clear 3 rfl) rfl ?_
    show pz_V mX9_rests _ _ _ _ _ 19 [(0, .ref l0), (1, .int l1)] [] h2
    refine pz_iconst (pc' := 20) (v := 0) rfl (pz_dc dX9_rests 10 rfl) ki_0 ?_
    refine pz_istore_n (pc' := 21) (lv' := [(2, .int 0), (0, .ref l0), (1, .int l1)]) rfl (pz_dc dX9_rests 11 rfl) (by decide) rfl ?_
    refine pz_iconst (pc' := 22) (v := 0) rfl (pz_dc dX9_rests 12 rfl) ki_0 ?_
    refine pz_istore_n (pc' := 23) (lv' := [(3, .int 0), (2, .int 0), (0, .ref l0), (1, .int l1)]) rfl (pz_dc dX9_rests 13 rfl) (by decide) rfl ?_
    refine pz_lv (lv' := [(0, .ref l0), (1, .int l1), (2, .int 0), (3, .int 0)]) [2, 3, 1, 0] rfl ?_
    exact hb
  · replace hb := hb.2 hc
    refine pz_iconst (pc' := 11) (v := (-1)) rfl (pz_dc dX9_rests 5 rfl) ki_m1 ?_
    exact pz_iret (pz_dc dX9_rests 6 rfl) rfl hb
set_option maxRecDepth 20000 in
set_option maxHeartbeats 4000000 in
theorem wX9_rests_23 {Ex : State → Nat → Prop} {Q : Option Value → pz_H → Prop} {d bc bs : Nat} {l0 : Nat} {l1 : Int32} {l2 : Int32} {l3 : Int32}  {h : pz_H} (hD : 3 ≤ d) (hb : (((10 : Int32)) ≤ l3 → Q (some (.int l2)) h) ∧ (¬ ((10 : Int32)) ≤ l3 → pz_V mX9_rests Ex Q d bc bs 32 [(0, .ref l0), (1, .int l1), (2, .int l2), (3, .int l3), (4, .int 0)] [] h)) : pz_V mX9_rests Ex Q d bc bs 23 [(0, .ref l0), (1, .int l1), (2, .int l2), (3, .int l3)] [] h := by
  refine pz_iload_n (pc' := 24) (x := l3) 3 rfl (pz_dc dX9_rests 14 rfl) rfl ?_
  refine pz_bipush (pc' := 26) (v := 10) rfl (pz_dc dX9_rests 15 rfl) kb_10 ?_
  refine pz_icmp_ge (pc' := 29) (tgt := 90) rfl (pz_dc dX9_rests 16 rfl) (by decide) (fun hc => ?_) (fun hc => ?_)
  · replace hb := hb.1 hc
    refine pz_iload_n (pc' := 91) (x := l2) 2 rfl (pz_dc dX9_rests 46 rfl) rfl ?_
    exact pz_iret (pz_dc dX9_rests 47 rfl) rfl hb
  · replace hb := hb.2 hc
    refine pz_iconst (pc' := 30) (v := 0) rfl (pz_dc dX9_rests 17 rfl) ki_0 ?_
    refine pz_istore (pc' := 32) (lv' := [(4, .int 0), (0, .ref l0), (1, .int l1), (2, .int l2), (3, .int l3)]) rfl (pz_dc dX9_rests 18 rfl) (by decide) rfl ?_
    refine pz_lv (lv' := [(0, .ref l0), (1, .int l1), (2, .int l2), (3, .int l3), (4, .int 0)]) [1, 2, 3, 4, 0] rfl ?_
    exact hb
set_option maxRecDepth 20000 in
set_option maxHeartbeats 4000000 in
theorem wX9_rests_32 {Ex : State → Nat → Prop} {Q : Option Value → pz_H → Prop} {d bc bs : Nat} {l0 : Nat} {l1 : Int32} {l2 : Int32} {l3 : Int32} {l4 : Int32}  {h : pz_H} (hD : 3 ≤ d) (hb : (((10 : Int32)) ≤ l4 → pz_V mX9_rests Ex Q d bc bs 23 [(0, .ref l0), (1, .int l1), (2, .int l2), (3, .int (l3 + (1 : Int32)))] [] h) ∧ (¬ ((10 : Int32)) ≤ l4 → pz_ki mX9_isBestAnswer 1 0 0 ([.int l3, .int l4, .int l1]) h (fun (x2 : Int32) (h1 : pz_H) => (x2 = 0 → pz_V mX9_rests Ex Q d bc bs 32 [(0, .ref l0), (1, .int l1), (2, .int l2), (3, .int l3), (4, .int (l4 + (1 : Int32)))] [] h1) ∧ (¬ x2 = 0 → pz_ki mX9_isBestAnswer 1 0 0 ([.int l4, .int l3, .int l1]) h1 (fun (x4 : Int32) (h3 : pz_H) => (x4 = 0 → pz_V mX9_rests Ex Q d bc bs 32 [(0, .ref l0), (1, .int l1), (2, .int l2), (3, .int l3), (4, .int (l4 + (1 : Int32)))] [] h3) ∧ (¬ x4 = 0 → (¬ l2 = 0 → pz_V mX9_rests Ex Q d bc bs 32 [(0, .ref l0), (1, .int l1), (2, .int (l2 + (1 : Int32))), (3, .int l3), (4, .int (l4 + (1 : Int32)))] [] h3) ∧ (l2 = 0 → pz_gR h3 l0 9 1 (fun (a5 : Nat) => pz_is h3 a5 4 ∧ (pz_kv mX4_tell_ 2 0 0 (.ref a5 :: [.long l3.toInt64, .long l4.toInt64]) h3 (fun (h6 : pz_H) => pz_V mX9_rests Ex Q d bc bs 32 [(0, .ref l0), (1, .int l1), (2, .int (l2 + (1 : Int32))), (3, .int l3), (4, .int (l4 + (1 : Int32)))] [] h6)))))))))) : pz_V mX9_rests Ex Q d bc bs 32 [(0, .ref l0), (1, .int l1), (2, .int l2), (3, .int l3), (4, .int l4)] [] h := by
  refine pz_iload (pc' := 34) (x := l4) 4 rfl (pz_dc dX9_rests 19 rfl) rfl ?_
  refine pz_bipush (pc' := 36) (v := 10) rfl (pz_dc dX9_rests 20 rfl) kb_10 ?_
  refine pz_icmp_ge (pc' := 39) (tgt := 84) rfl (pz_dc dX9_rests 21 rfl) (by decide) (fun hc => ?_) (fun hc => ?_)
  · replace hb := hb.1 hc
    refine pz_iinc (pc' := 87) (x := l3) (v := l3 + (1 : Int32)) (lv' := [(3, .int (l3 + (1 : Int32))), (0, .ref l0), (1, .int l1), (2, .int l2), (4, .int l4)]) 3 rfl (pz_dc dX9_rests 44 rfl) rfl rfl (by decide) rfl ?_
    refine pz_goto (pc' := 23) (pz_dc dX9_rests 45 rfl) (by decide) ?_
    refine pz_lv (lv' := [(0, .ref l0), (1, .int l1), (2, .int l2), (3, .int (l3 + (1 : Int32)))]) [1, 2, 3, 0] rfl ?_
    exact hb
  · replace hb := hb.2 hc
    refine pz_iload_n (pc' := 40) (x := l3) 3 rfl (pz_dc dX9_rests 22 rfl) rfl ?_
    refine pz_iload (pc' := 42) (x := l4) 4 rfl (pz_dc dX9_rests 23 rfl) rfl ?_
    refine pz_iload_n (pc' := 43) (x := l1) 1 rfl (pz_dc dX9_rests 24 rfl) rfl ?_
    refine pz_cSi (M := mX9_rests) (N := mX9_isBestAnswer) (d' := 1) (bc1 := 0) (bs1 := 0) (bc2 := bc) (bs2 := bs) (pc' := 46) [.int l3, .int l4, .int l1] hb sX9_325 rfl (pz_dc dX9_rests 25 rfl) rfl (Nat.le_of_ble_eq_true rfl) (Nat.le_of_ble_eq_true rfl) rfl (by omega) (by omega) (by omega) (fun x2 h1 hb => ?_)
    refine pz_if_eq (pc' := 49) (tgt := 78) rfl (pz_dc dX9_rests 26 rfl) (by decide) (fun hc => ?_) (fun hc => ?_)
    · replace hb := hb.1 hc
      refine pz_iinc (pc' := 81) (x := l4) (v := l4 + (1 : Int32)) (lv' := [(4, .int (l4 + (1 : Int32))), (0, .ref l0), (1, .int l1), (2, .int l2), (3, .int l3)]) 4 rfl (pz_dc dX9_rests 42 rfl) rfl rfl (by decide) rfl ?_
      refine pz_goto (pc' := 32) (pz_dc dX9_rests 43 rfl) (by decide) ?_
      refine pz_lv (lv' := [(0, .ref l0), (1, .int l1), (2, .int l2), (3, .int l3), (4, .int (l4 + (1 : Int32)))]) [1, 2, 3, 4, 0] rfl ?_
      exact hb
    · replace hb := hb.2 hc
      refine pz_iload (pc' := 51) (x := l4) 4 rfl (pz_dc dX9_rests 27 rfl) rfl ?_
      refine pz_iload_n (pc' := 52) (x := l3) 3 rfl (pz_dc dX9_rests 28 rfl) rfl ?_
      refine pz_iload_n (pc' := 53) (x := l1) 1 rfl (pz_dc dX9_rests 29 rfl) rfl ?_
      refine pz_cSi (M := mX9_rests) (N := mX9_isBestAnswer) (d' := 1) (bc1 := 0) (bs1 := 0) (bc2 := bc) (bs2 := bs) (pc' := 56) [.int l4, .int l3, .int l1] hb sX9_325 rfl (pz_dc dX9_rests 30 rfl) rfl (Nat.le_of_ble_eq_true rfl) (Nat.le_of_ble_eq_true rfl) rfl (by omega) (by omega) (by omega) (fun x4 h3 hb => ?_)
      refine pz_if_eq (pc' := 59) (tgt := 78) rfl (pz_dc dX9_rests 31 rfl) (by decide) (fun hc => ?_) (fun hc => ?_)
      · replace hb := hb.1 hc
        refine pz_iinc (pc' := 81) (x := l4) (v := l4 + (1 : Int32)) (lv' := [(4, .int (l4 + (1 : Int32))), (0, .ref l0), (1, .int l1), (2, .int l2), (3, .int l3)]) 4 rfl (pz_dc dX9_rests 42 rfl) rfl rfl (by decide) rfl ?_
        refine pz_goto (pc' := 32) (pz_dc dX9_rests 43 rfl) (by decide) ?_
        refine pz_lv (lv' := [(0, .ref l0), (1, .int l1), (2, .int l2), (3, .int l3), (4, .int (l4 + (1 : Int32)))]) [1, 2, 3, 4, 0] rfl ?_
        exact hb
      · replace hb := hb.2 hc
        refine pz_iload_n (pc' := 60) (x := l2) 2 rfl (pz_dc dX9_rests 32 rfl) rfl ?_
        refine pz_if_ne (pc' := 63) (tgt := 75) rfl (pz_dc dX9_rests 33 rfl) (by decide) (fun hc => ?_) (fun hc => ?_)
        · replace hb := hb.1 hc
          refine pz_iinc (pc' := 78) (x := l2) (v := l2 + (1 : Int32)) (lv' := [(2, .int (l2 + (1 : Int32))), (0, .ref l0), (1, .int l1), (3, .int l3), (4, .int l4)]) 2 rfl (pz_dc dX9_rests 41 rfl) rfl rfl (by decide) rfl ?_
          refine pz_iinc (pc' := 81) (x := l4) (v := l4 + (1 : Int32)) (lv' := [(4, .int (l4 + (1 : Int32))), (2, .int (l2 + (1 : Int32))), (0, .ref l0), (1, .int l1), (3, .int l3)]) 4 rfl (pz_dc dX9_rests 42 rfl) rfl rfl (by decide) rfl ?_
          refine pz_goto (pc' := 32) (pz_dc dX9_rests 43 rfl) (by decide) ?_
          refine pz_lv (lv' := [(0, .ref l0), (1, .int l1), (2, .int (l2 + (1 : Int32))), (3, .int l3), (4, .int (l4 + (1 : Int32)))]) [2, 3, 1, 4, 0] rfl ?_
          exact hb
        · replace hb := hb.2 hc
          refine pz_aload_n (pc' := 64) (x := l0) 0 rfl (pz_dc dX9_rests 34 rfl) rfl ?_
          refine pz_getR (M := mX9_rests) hb fX9_19 (pc' := 67) rfl (pz_dc dX9_rests 35 rfl) (fun a5 hb => ?_)
          refine pz_iload_n (pc' := 68) (x := l3) 3 rfl (pz_dc dX9_rests 36 rfl) rfl ?_
          refine pz_i2l (pc' := 69) rfl (pz_dc dX9_rests 37 rfl) ?_
          refine pz_iload (pc' := 71) (x := l4) 4 rfl (pz_dc dX9_rests 38 rfl) rfl ?_
          refine pz_i2l (pc' := 72) rfl (pz_dc dX9_rests 39 rfl) ?_
          refine pz_cVv (M := mX9_rests) (N := mX4_tell_) (d' := 2) (bc1 := 0) (bs1 := 0) (bc2 := bc) (bs2 := bs) (pc' := 75) [.long l3.toInt64, .long l4.toInt64] hb vX9_167 rfl (pz_dc dX9_rests 40 rfl) rfl (Nat.le_of_ble_eq_true rfl) (Nat.le_of_ble_eq_true rfl) rfl (by omega) (by omega) (by omega) (fun h6 hb => ?_)
          refine pz_iinc (pc' := 78) (x := l2) (v := l2 + (1 : Int32)) (lv' := [(2, .int (l2 + (1 : Int32))), (0, .ref l0), (1, .int l1), (3, .int l3), (4, .int l4)]) 2 rfl (pz_dc dX9_rests 41 rfl) rfl rfl (by decide) rfl ?_
          refine pz_iinc (pc' := 81) (x := l4) (v := l4 + (1 : Int32)) (lv' := [(4, .int (l4 + (1 : Int32))), (2, .int (l2 + (1 : Int32))), (0, .ref l0), (1, .int l1), (3, .int l3)]) 4 rfl (pz_dc dX9_rests 42 rfl) rfl rfl (by decide) rfl ?_
          refine pz_goto (pc' := 32) (pz_dc dX9_rests 43 rfl) (by decide) ?_
          refine pz_lv (lv' := [(0, .ref l0), (1, .int l1), (2, .int (l2 + (1 : Int32))), (3, .int l3), (4, .int (l4 + (1 : Int32)))]) [2, 3, 1, 4, 0] rfl ?_
          exact hb
set_option maxRecDepth 20000 in
set_option maxHeartbeats 4000000 in
theorem wX9_law_0 {Ex : State → Nat → Prop} {Q : Option Value → pz_H → Prop} {d bc bs : Nat} {l0 : Nat}  {h : pz_H} (hD : 42 ≤ d) (hb : pz_gR h l0 9 13 (fun (a1 : Nat) => pz_gR h l0 9 0 (fun (a2 : Nat) => pz_is h a1 5 ∧ (pz_ki mX5_read 41 0 0 (.ref a1 :: [.ref a2]) h (fun (x4 : Int32) (h3 : pz_H) => pz_gR h3 l0 9 0 (fun (a5 : Nat) => pz_is h3 a5 6 ∧ (pz_pF h3 a5 6 1 (.int 0) (fun (h6 : pz_H) => (x4 < 0 → pz_is h6 l0 9 ∧ (pz_kv mX9_startTrial 2 0 0 (.ref l0 :: []) h6 (fun (h7 : pz_H) => pz_gR h7 l0 9 2 (fun (a8 : Nat) => pz_gR h7 l0 9 5 (fun (a9 : Nat) => pz_gR h7 l0 9 13 (fun (a10 : Nat) => pz_is h7 a8 1 ∧ (pz_kv mX1_passDays 4 0 0 (.ref a8 :: [.ref a9, .ref a10, .int 12]) h7 (fun (h11 : pz_H) => pz_gR h11 l0 9 2 (fun (a12 : Nat) => pz_gR h11 l0 9 5 (fun (a13 : Nat) => pz_is h11 a12 1 ∧ (pz_ki mX1_total 2 0 0 (.ref a12 :: [.ref a13]) h11 (fun (x15 : Int32) (h14 : pz_H) => pz_is h14 l0 9 ∧ (pz_kv mX9_startTrial 2 0 0 (.ref l0 :: []) h14 (fun (h16 : pz_H) => pz_gR h16 l0 9 2 (fun (a17 : Nat) => pz_gR h16 l0 9 5 (fun (a18 : Nat) => pz_gR h16 l0 9 12 (fun (a19 : Nat) => pz_is h16 a17 1 ∧ (pz_kv mX1_passDays 4 0 0 (.ref a17 :: [.ref a18, .ref a19, .int 12]) h16 (fun (h20 : pz_H) => pz_gR h20 l0 9 2 (fun (a21 : Nat) => pz_gR h20 l0 9 5 (fun (a22 : Nat) => pz_is h20 a21 1 ∧ (pz_ki mX1_total 2 0 0 (.ref a21 :: [.ref a22]) h20 (fun (x24 : Int32) (h23 : pz_H) => pz_gR h23 l0 9 1 (fun (a25 : Nat) => pz_is h23 a25 4 ∧ (pz_kv mX4_tell_ 2 0 0 (.ref a25 :: [.long x15.toInt64, .long x24.toInt64]) h23 (fun (h26 : pz_H) => Q (some (.int (x15 - x24))) h26)))))))))))))))))))))))))) ∧ (¬ x4 < 0 → Q (some (.int (((-10000 : Int32)) - x4))) h6))))))))) : pz_V mX9_law Ex Q d bc bs 0 [(0, .ref l0)] [] h := by
  refine pz_aload_n (pc' := 1) (x := l0) 0 rfl (pz_dc dX9_law 0 rfl) rfl ?_
  refine pz_getR (M := mX9_law) hb fX9_82 (pc' := 4) rfl (pz_dc dX9_law 1 rfl) (fun a1 hb => ?_)
  refine pz_aload_n (pc' := 5) (x := l0) 0 rfl (pz_dc dX9_law 2 rfl) rfl ?_
  refine pz_getR (M := mX9_law) hb fX9_10 (pc' := 8) rfl (pz_dc dX9_law 3 rfl) (fun a2 hb => ?_)
  refine pz_cVi (M := mX9_law) (N := mX5_read) (d' := 41) (bc1 := 0) (bs1 := 0) (bc2 := bc) (bs2 := bs) (pc' := 11) [.ref a2] hb vX9_111 rfl (pz_dc dX9_law 4 rfl) rfl (Nat.le_of_ble_eq_true rfl) (Nat.le_of_ble_eq_true rfl) rfl (by omega) (by omega) (by omega) (fun x4 h3 hb => ?_)
  refine pz_istore_n (pc' := 12) (lv' := [(1, .int x4), (0, .ref l0)]) rfl (pz_dc dX9_law 5 rfl) (by decide) rfl ?_
  refine pz_aload_n (pc' := 13) (x := l0) 1 rfl (pz_dc dX9_law 6 rfl) rfl ?_
  refine pz_getR (M := mX9_law) hb fX9_10 (pc' := 16) rfl (pz_dc dX9_law 7 rfl) (fun a5 hb => ?_)
  obtain ⟨⟨fs27, hf28⟩, hb⟩ := hb
  refine pz_callV (M := mX9_law) (N := mX6_clear) (d' := 0) (bc1 := 0) (bs1 := 0) (bc2 := bc) (bs2 := bs) (pc' := 19) [] vX9_103 rfl (pz_dc dX9_law 8 rfl) rfl (Nat.le_of_ble_eq_true rfl) (Nat.le_of_ble_eq_true rfl) rfl (by omega) (by omega) (by omega) hf28 ?_
  refine pz_aload_n (pc' := 1) (x := a5) 0 rfl (pz_dc dX6_clear 0 rfl) rfl ?_
  refine pz_iconst (pc' := 2) (v := 0) rfl (pz_dc dX6_clear 1 rfl) ki_0 ?_
  refine pz_putv (M := mX6_clear) hb (pX6_13 _ rfl) rfl rfl (pc' := 5) rfl (pz_dc dX6_clear 2 rfl) (fun h6 hb => ?_)
  refine pz_vret (pz_dc dX6_clear 3 rfl) rfl ?_
  show pz_V mX9_law _ _ _ _ _ 19 [(1, .int x4), (0, .ref l0)] [] h6
  refine pz_iload_n (pc' := 20) (x := x4) 0 rfl (pz_dc dX9_law 9 rfl) rfl ?_
  refine pz_if_lt (pc' := 23) (tgt := 29) rfl (pz_dc dX9_law 10 rfl) (by decide) (fun hc => ?_) (fun hc => ?_)
  · replace hb := hb.1 hc
    refine pz_aload_n (pc' := 30) (x := l0) 1 rfl (pz_dc dX9_law 15 rfl) rfl ?_
    refine pz_cVv (M := mX9_law) (N := mX9_startTrial) (d' := 2) (bc1 := 0) (bs1 := 0) (bc2 := bc) (bs2 := bs) (pc' := 33) [] hb vX9_200 rfl (pz_dc dX9_law 16 rfl) rfl (Nat.le_of_ble_eq_true rfl) (Nat.le_of_ble_eq_true rfl) rfl (by omega) (by omega) (by omega) (fun h7 hb => ?_)
    refine pz_aload_n (pc' := 34) (x := l0) 1 rfl (pz_dc dX9_law 17 rfl) rfl ?_
    refine pz_getR (M := mX9_law) hb fX9_26 (pc' := 37) rfl (pz_dc dX9_law 18 rfl) (fun a8 hb => ?_)
    refine pz_aload_n (pc' := 38) (x := l0) 1 rfl (pz_dc dX9_law 19 rfl) rfl ?_
    refine pz_getR (M := mX9_law) hb fX9_40 (pc' := 41) rfl (pz_dc dX9_law 20 rfl) (fun a9 hb => ?_)
    refine pz_aload_n (pc' := 42) (x := l0) 1 rfl (pz_dc dX9_law 21 rfl) rfl ?_
    refine pz_getR (M := mX9_law) hb fX9_82 (pc' := 45) rfl (pz_dc dX9_law 22 rfl) (fun a10 hb => ?_)
    refine pz_bipush (pc' := 47) (v := 12) rfl (pz_dc dX9_law 23 rfl) kb_12 ?_
    refine pz_cVv (M := mX9_law) (N := mX1_passDays) (d' := 4) (bc1 := 0) (bs1 := 0) (bc2 := bc) (bs2 := bs) (pc' := 50) [.ref a9, .ref a10, .int 12] hb vX9_203 rfl (pz_dc dX9_law 24 rfl) rfl (Nat.le_of_ble_eq_true rfl) (Nat.le_of_ble_eq_true rfl) rfl (by omega) (by omega) (by omega) (fun h11 hb => ?_)
    refine pz_aload_n (pc' := 51) (x := l0) 1 rfl (pz_dc dX9_law 25 rfl) rfl ?_
    refine pz_getR (M := mX9_law) hb fX9_26 (pc' := 54) rfl (pz_dc dX9_law 26 rfl) (fun a12 hb => ?_)
    refine pz_aload_n (pc' := 55) (x := l0) 1 rfl (pz_dc dX9_law 27 rfl) rfl ?_
    refine pz_getR (M := mX9_law) hb fX9_40 (pc' := 58) rfl (pz_dc dX9_law 28 rfl) (fun a13 hb => ?_)
    refine pz_cVi (M := mX9_law) (N := mX1_total) (d' := 2) (bc1 := 0) (bs1 := 0) (bc2 := bc) (bs2 := bs) (pc' := 61) [.ref a13] hb vX9_153 rfl (pz_dc dX9_law 29 rfl) rfl (Nat.le_of_ble_eq_true rfl) (Nat.le_of_ble_eq_true rfl) rfl (by omega) (by omega) (by omega) (fun x15 h14 hb => ?_)
    refine pz_istore_n (pc' := 62) (lv' := [(2, .int x15), (1, .int x4), (0, .ref l0)]) rfl (pz_dc dX9_law 30 rfl) (by decide) rfl ?_
    refine pz_aload_n (pc' := 63) (x := l0) 2 rfl (pz_dc dX9_law 31 rfl) rfl ?_
    refine pz_cVv (M := mX9_law) (N := mX9_startTrial) (d' := 2) (bc1 := 0) (bs1 := 0) (bc2 := bc) (bs2 := bs) (pc' := 66) [] hb vX9_200 rfl (pz_dc dX9_law 32 rfl) rfl (Nat.le_of_ble_eq_true rfl) (Nat.le_of_ble_eq_true rfl) rfl (by omega) (by omega) (by omega) (fun h16 hb => ?_)
    refine pz_aload_n (pc' := 67) (x := l0) 2 rfl (pz_dc dX9_law 33 rfl) rfl ?_
    refine pz_getR (M := mX9_law) hb fX9_26 (pc' := 70) rfl (pz_dc dX9_law 34 rfl) (fun a17 hb => ?_)
    refine pz_aload_n (pc' := 71) (x := l0) 2 rfl (pz_dc dX9_law 35 rfl) rfl ?_
    refine pz_getR (M := mX9_law) hb fX9_40 (pc' := 74) rfl (pz_dc dX9_law 36 rfl) (fun a18 hb => ?_)
    refine pz_aload_n (pc' := 75) (x := l0) 2 rfl (pz_dc dX9_law 37 rfl) rfl ?_
    refine pz_getR (M := mX9_law) hb fX9_78 (pc' := 78) rfl (pz_dc dX9_law 38 rfl) (fun a19 hb => ?_)
    refine pz_bipush (pc' := 80) (v := 12) rfl (pz_dc dX9_law 39 rfl) kb_12 ?_
    refine pz_cVv (M := mX9_law) (N := mX1_passDays) (d' := 4) (bc1 := 0) (bs1 := 0) (bc2 := bc) (bs2 := bs) (pc' := 83) [.ref a18, .ref a19, .int 12] hb vX9_203 rfl (pz_dc dX9_law 40 rfl) rfl (Nat.le_of_ble_eq_true rfl) (Nat.le_of_ble_eq_true rfl) rfl (by omega) (by omega) (by omega) (fun h20 hb => ?_)
    refine pz_aload_n (pc' := 84) (x := l0) 2 rfl (pz_dc dX9_law 41 rfl) rfl ?_
    refine pz_getR (M := mX9_law) hb fX9_26 (pc' := 87) rfl (pz_dc dX9_law 42 rfl) (fun a21 hb => ?_)
    refine pz_aload_n (pc' := 88) (x := l0) 2 rfl (pz_dc dX9_law 43 rfl) rfl ?_
    refine pz_getR (M := mX9_law) hb fX9_40 (pc' := 91) rfl (pz_dc dX9_law 44 rfl) (fun a22 hb => ?_)
    refine pz_cVi (M := mX9_law) (N := mX1_total) (d' := 2) (bc1 := 0) (bs1 := 0) (bc2 := bc) (bs2 := bs) (pc' := 94) [.ref a22] hb vX9_153 rfl (pz_dc dX9_law 45 rfl) rfl (Nat.le_of_ble_eq_true rfl) (Nat.le_of_ble_eq_true rfl) rfl (by omega) (by omega) (by omega) (fun x24 h23 hb => ?_)
    refine pz_istore_n (pc' := 95) (lv' := [(3, .int x24), (2, .int x15), (1, .int x4), (0, .ref l0)]) rfl (pz_dc dX9_law 46 rfl) (by decide) rfl ?_
    refine pz_aload_n (pc' := 96) (x := l0) 3 rfl (pz_dc dX9_law 47 rfl) rfl ?_
    refine pz_getR (M := mX9_law) hb fX9_19 (pc' := 99) rfl (pz_dc dX9_law 48 rfl) (fun a25 hb => ?_)
    refine pz_iload_n (pc' := 100) (x := x15) 1 rfl (pz_dc dX9_law 49 rfl) rfl ?_
    refine pz_i2l (pc' := 101) rfl (pz_dc dX9_law 50 rfl) ?_
    refine pz_iload_n (pc' := 102) (x := x24) 0 rfl (pz_dc dX9_law 51 rfl) rfl ?_
    refine pz_i2l (pc' := 103) rfl (pz_dc dX9_law 52 rfl) ?_
    refine pz_cVv (M := mX9_law) (N := mX4_tell_) (d' := 2) (bc1 := 0) (bs1 := 0) (bc2 := bc) (bs2 := bs) (pc' := 106) [.long x15.toInt64, .long x24.toInt64] hb vX9_167 rfl (pz_dc dX9_law 53 rfl) rfl (Nat.le_of_ble_eq_true rfl) (Nat.le_of_ble_eq_true rfl) rfl (by omega) (by omega) (by omega) (fun h26 hb => ?_)
    refine pz_iload_n (pc' := 107) (x := x15) 1 rfl (pz_dc dX9_law 54 rfl) rfl ?_
    refine pz_iload_n (pc' := 108) (x := x24) 0 rfl (pz_dc dX9_law 55 rfl) rfl ?_
    refine pz_isub (pc' := 109) rfl (pz_dc dX9_law 56 rfl) ?_
    exact pz_iret (pz_dc dX9_law 57 rfl) rfl hb
  · replace hb := hb.2 hc
    refine pz_sipush (pc' := 26) (v := (-10000)) rfl (pz_dc dX9_law 11 rfl) ks_m10000 ?_
    refine pz_iload_n (pc' := 27) (x := x4) 0 rfl (pz_dc dX9_law 12 rfl) rfl ?_
    refine pz_isub (pc' := 28) rfl (pz_dc dX9_law 13 rfl) ?_
    exact pz_iret (pz_dc dX9_law 14 rfl) rfl hb
set_option maxRecDepth 20000 in
set_option maxHeartbeats 4000000 in
theorem wX9_years_0 {Ex : State → Nat → Prop} {Q : Option Value → pz_H → Prop} {d bc bs : Nat} {l0 : Nat} {l1 : Int32} {l2 : Int32}  {h : pz_H} (hD : 5 ≤ d) (hb : (¬ (eX9_isWithin l2 ((1 : Int32)) ((60 : Int32))) = 0 → pz_is h l0 9 ∧ (pz_kv mX9_startTrial 2 0 0 (.ref l0 :: []) h (fun (h1 : pz_H) => pz_pF h1 l0 9 16 (.int l1) (fun (h2 : pz_H) => pz_V mX9_years Ex Q d bc bs 23 [(0, .ref l0), (2, .int l2), (3, .int 0)] [] h2)))) ∧ ((eX9_isWithin l2 ((1 : Int32)) ((60 : Int32))) = 0 → Q (some (.int ((-1)))) h)) : pz_V mX9_years Ex Q d bc bs 0 [(0, .ref l0), (1, .int l1), (2, .int l2)] [] h := by
  refine pz_iload_n (pc' := 1) (x := l2) 2 rfl (pz_dc dX9_years 0 rfl) rfl ?_
  refine pz_iconst (pc' := 2) (v := 1) rfl (pz_dc dX9_years 1 rfl) ki_1 ?_
  refine pz_bipush (pc' := 4) (v := 60) rfl (pz_dc dX9_years 2 rfl) kb_60 ?_
  refine pz_callS (M := mX9_years) (N := mX9_isWithin) (d' := 0) (bc1 := 0) (bs1 := 0) (bc2 := bc) (bs2 := bs) (pc' := 7) [.int l2, .int 1, .int 60] sX9_196 rfl (pz_dc dX9_years 3 rfl) rfl (Nat.le_of_ble_eq_true rfl) (Nat.le_of_ble_eq_true rfl) rfl (by omega) (by omega) (by omega) ?_
  refine cX9_isWithin ?_
  show pz_V mX9_years _ _ _ _ _ 7 [(0, .ref l0), (1, .int l1), (2, .int l2)] [.int (eX9_isWithin l2 ((1 : Int32)) ((60 : Int32)))] h
  refine pz_if_ne (pc' := 10) (tgt := 12) rfl (pz_dc dX9_years 4 rfl) (by decide) (fun hc => ?_) (fun hc => ?_)
  · replace hb := hb.1 hc
    refine pz_aload_n (pc' := 13) (x := l0) 0 rfl (pz_dc dX9_years 7 rfl) rfl ?_
    refine pz_cVv (M := mX9_years) (N := mX9_startTrial) (d' := 2) (bc1 := 0) (bs1 := 0) (bc2 := bc) (bs2 := bs) (pc' := 16) [] hb vX9_200 rfl (pz_dc dX9_years 8 rfl) rfl (Nat.le_of_ble_eq_true rfl) (Nat.le_of_ble_eq_true rfl) rfl (by omega) (by omega) (by omega) (fun h1 hb => ?_)
    refine pz_aload_n (pc' := 17) (x := l0) 0 rfl (pz_dc dX9_years 9 rfl) rfl ?_
    refine pz_iload_n (pc' := 18) (x := l1) 1 rfl (pz_dc dX9_years 10 rfl) rfl ?_
    refine pz_putv (M := mX9_years) hb (pX9_328 _ rfl) rfl rfl (pc' := 21) rfl (pz_dc dX9_years 11 rfl) (fun h2 hb => ?_)
    refine pz_iconst (pc' := 22) (v := 0) rfl (pz_dc dX9_years 12 rfl) ki_0 ?_
    refine pz_istore_n (pc' := 23) (lv' := [(3, .int 0), (0, .ref l0), (1, .int l1), (2, .int l2)]) rfl (pz_dc dX9_years 13 rfl) (by decide) rfl ?_
    refine pz_lv (lv' := [(0, .ref l0), (2, .int l2), (3, .int 0)]) [1, 3, 0] rfl ?_
    exact hb
  · replace hb := hb.2 hc
    refine pz_iconst (pc' := 11) (v := (-1)) rfl (pz_dc dX9_years 5 rfl) ki_m1 ?_
    exact pz_iret (pz_dc dX9_years 6 rfl) rfl hb
set_option maxRecDepth 20000 in
set_option maxHeartbeats 4000000 in
theorem wX9_years_23 {Ex : State → Nat → Prop} {Q : Option Value → pz_H → Prop} {d bc bs : Nat} {l0 : Nat} {l2 : Int32} {l3 : Int32}  {h : pz_H} (hD : 5 ≤ d) (hb : (l2 ≤ l3 → pz_gR h l0 9 1 (fun (a1 : Nat) => pz_gR h l0 9 5 (fun (a2 : Nat) => pz_gI h a2 8 7 (fun (x3 : Int32) => pz_gR h l0 9 3 (fun (a4 : Nat) => pz_gI h a4 8 7 (fun (x5 : Int32) => pz_gR h l0 9 5 (fun (a6 : Nat) => pz_gI h a6 8 8 (fun (x7 : Int32) => pz_gR h l0 9 3 (fun (a8 : Nat) => pz_gI h a8 8 8 (fun (x9 : Int32) => pz_is h a1 4 ∧ (pz_kv mX4_tell_ 2 0 0 (.ref a1 :: [.long ((x3 - x5).toInt64), .long ((x7 - x9).toInt64)]) h (fun (h10 : pz_H) => pz_gR h10 l0 9 2 (fun (a11 : Nat) => pz_gR h10 l0 9 5 (fun (a12 : Nat) => pz_is h10 a11 1 ∧ (pz_ki mX1_total 2 0 0 (.ref a11 :: [.ref a12]) h10 (fun (x14 : Int32) (h13 : pz_H) => Q (some (.int x14)) h13)))))))))))))))) ∧ (¬ l2 ≤ l3 → pz_is h l0 9 ∧ (pz_ki mX9_draw 0 0 0 (.ref l0 :: [.int 4]) h (fun (x16 : Int32) (h15 : pz_H) => pz_is h15 l0 9 ∧ (pz_kv mX9_doDrawn 4 0 0 (.ref l0 :: [.int x16]) h15 (fun (h17 : pz_H) => pz_V mX9_years Ex Q d bc bs 23 [(0, .ref l0), (2, .int l2), (3, .int (l3 + (1 : Int32)))] [] h17)))))) : pz_V mX9_years Ex Q d bc bs 23 [(0, .ref l0), (2, .int l2), (3, .int l3)] [] h := by
  refine pz_iload_n (pc' := 24) (x := l3) 2 rfl (pz_dc dX9_years 14 rfl) rfl ?_
  refine pz_iload_n (pc' := 25) (x := l2) 1 rfl (pz_dc dX9_years 15 rfl) rfl ?_
  refine pz_icmp_ge (pc' := 28) (tgt := 43) rfl (pz_dc dX9_years 16 rfl) (by decide) (fun hc => ?_) (fun hc => ?_)
  · replace hb := hb.1 hc
    refine pz_aload_n (pc' := 44) (x := l0) 0 rfl (pz_dc dX9_years 24 rfl) rfl ?_
    refine pz_getR (M := mX9_years) hb fX9_19 (pc' := 47) rfl (pz_dc dX9_years 25 rfl) (fun a1 hb => ?_)
    refine pz_aload_n (pc' := 48) (x := l0) 0 rfl (pz_dc dX9_years 26 rfl) rfl ?_
    refine pz_getR (M := mX9_years) hb fX9_40 (pc' := 51) rfl (pz_dc dX9_years 27 rfl) (fun a2 hb => ?_)
    refine pz_getI (M := mX9_years) hb fX9_161 (pc' := 54) rfl (pz_dc dX9_years 28 rfl) (fun x3 hb => ?_)
    refine pz_aload_n (pc' := 55) (x := l0) 0 rfl (pz_dc dX9_years 29 rfl) rfl ?_
    refine pz_getR (M := mX9_years) hb fX9_33 (pc' := 58) rfl (pz_dc dX9_years 30 rfl) (fun a4 hb => ?_)
    refine pz_getI (M := mX9_years) hb fX9_161 (pc' := 61) rfl (pz_dc dX9_years 31 rfl) (fun x5 hb => ?_)
    refine pz_isub (pc' := 62) rfl (pz_dc dX9_years 32 rfl) ?_
    refine pz_i2l (pc' := 63) rfl (pz_dc dX9_years 33 rfl) ?_
    refine pz_aload_n (pc' := 64) (x := l0) 0 rfl (pz_dc dX9_years 34 rfl) rfl ?_
    refine pz_getR (M := mX9_years) hb fX9_40 (pc' := 67) rfl (pz_dc dX9_years 35 rfl) (fun a6 hb => ?_)
    refine pz_getI (M := mX9_years) hb fX9_164 (pc' := 70) rfl (pz_dc dX9_years 36 rfl) (fun x7 hb => ?_)
    refine pz_aload_n (pc' := 71) (x := l0) 0 rfl (pz_dc dX9_years 37 rfl) rfl ?_
    refine pz_getR (M := mX9_years) hb fX9_33 (pc' := 74) rfl (pz_dc dX9_years 38 rfl) (fun a8 hb => ?_)
    refine pz_getI (M := mX9_years) hb fX9_164 (pc' := 77) rfl (pz_dc dX9_years 39 rfl) (fun x9 hb => ?_)
    refine pz_isub (pc' := 78) rfl (pz_dc dX9_years 40 rfl) ?_
    refine pz_i2l (pc' := 79) rfl (pz_dc dX9_years 41 rfl) ?_
    refine pz_cVv (M := mX9_years) (N := mX4_tell_) (d' := 2) (bc1 := 0) (bs1 := 0) (bc2 := bc) (bs2 := bs) (pc' := 82) [.long ((x3 - x5).toInt64), .long ((x7 - x9).toInt64)] hb vX9_167 rfl (pz_dc dX9_years 42 rfl) rfl (Nat.le_of_ble_eq_true rfl) (Nat.le_of_ble_eq_true rfl) rfl (by omega) (by omega) (by omega) (fun h10 hb => ?_)
    refine pz_aload_n (pc' := 83) (x := l0) 0 rfl (pz_dc dX9_years 43 rfl) rfl ?_
    refine pz_getR (M := mX9_years) hb fX9_26 (pc' := 86) rfl (pz_dc dX9_years 44 rfl) (fun a11 hb => ?_)
    refine pz_aload_n (pc' := 87) (x := l0) 0 rfl (pz_dc dX9_years 45 rfl) rfl ?_
    refine pz_getR (M := mX9_years) hb fX9_40 (pc' := 90) rfl (pz_dc dX9_years 46 rfl) (fun a12 hb => ?_)
    refine pz_cVi (M := mX9_years) (N := mX1_total) (d' := 2) (bc1 := 0) (bs1 := 0) (bc2 := bc) (bs2 := bs) (pc' := 93) [.ref a12] hb vX9_153 rfl (pz_dc dX9_years 47 rfl) rfl (Nat.le_of_ble_eq_true rfl) (Nat.le_of_ble_eq_true rfl) rfl (by omega) (by omega) (by omega) (fun x14 h13 hb => ?_)
    exact pz_iret (pz_dc dX9_years 48 rfl) rfl hb
  · replace hb := hb.2 hc
    refine pz_aload_n (pc' := 29) (x := l0) 0 rfl (pz_dc dX9_years 17 rfl) rfl ?_
    refine pz_aload_n (pc' := 30) (x := l0) 0 rfl (pz_dc dX9_years 18 rfl) rfl ?_
    refine pz_iconst (pc' := 31) (v := 4) rfl (pz_dc dX9_years 19 rfl) ki_4 ?_
    refine pz_cVi (M := mX9_years) (N := mX9_draw) (d' := 0) (bc1 := 0) (bs1 := 0) (bc2 := bc) (bs2 := bs) (pc' := 34) [.int 4] hb vX9_331 rfl (pz_dc dX9_years 20 rfl) rfl (Nat.le_of_ble_eq_true rfl) (Nat.le_of_ble_eq_true rfl) rfl (by omega) (by omega) (by omega) (fun x16 h15 hb => ?_)
    refine pz_cVv (M := mX9_years) (N := mX9_doDrawn) (d' := 4) (bc1 := 0) (bs1 := 0) (bc2 := bc) (bs2 := bs) (pc' := 37) [.int x16] hb vX9_334 rfl (pz_dc dX9_years 21 rfl) rfl (Nat.le_of_ble_eq_true rfl) (Nat.le_of_ble_eq_true rfl) rfl (by omega) (by omega) (by omega) (fun h17 hb => ?_)
    refine pz_iinc (pc' := 40) (x := l3) (v := l3 + (1 : Int32)) (lv' := [(3, .int (l3 + (1 : Int32))), (0, .ref l0), (2, .int l2)]) 2 rfl (pz_dc dX9_years 22 rfl) rfl rfl (by decide) rfl ?_
    refine pz_goto (pc' := 23) (pz_dc dX9_years 23 rfl) (by decide) ?_
    refine pz_lv (lv' := [(0, .ref l0), (2, .int l2), (3, .int (l3 + (1 : Int32)))]) [1, 2, 0] rfl ?_
    exact hb
set_option maxRecDepth 20000 in
set_option maxHeartbeats 4000000 in
theorem wX9_keep_0 {Ex : State → Nat → Prop} {Q : Option Value → pz_H → Prop} {d bc bs : Nat} {l0 : Nat} {l1 : Int32}  {h : pz_H} (hD : 2 ≤ d) (hb : (¬ (eX9_isWithin l1 ((0 : Int32)) ((1 : Int32))) = 0 → pz_gR h l0 9 9 (fun (a1 : Nat) => pz_rW h a1 l1 (fun (a2 : Nat) => pz_gR h l0 9 3 (fun (a3 : Nat) => pz_is h a2 8 ∧ (pz_kv mX8_copy 1 0 0 (.ref a2 :: [.ref a3]) h (fun (h4 : pz_H) => pz_gI h4 l0 9 15 (fun (x5 : Int32) => pz_pF h4 l0 9 15 (.int (x5 ||| (((1 : Int32)) <<< (l1 &&& 31)))) (fun (h6 : pz_H) => Q (some (.int 1)) h6)))))))) ∧ ((eX9_isWithin l1 ((0 : Int32)) ((1 : Int32))) = 0 → Q (some (.int 0)) h)) : pz_V mX9_keep Ex Q d bc bs 0 [(0, .ref l0), (1, .int l1)] [] h := by
  refine pz_iload_n (pc' := 1) (x := l1) 1 rfl (pz_dc dX9_keep 0 rfl) rfl ?_
  refine pz_iconst (pc' := 2) (v := 0) rfl (pz_dc dX9_keep 1 rfl) ki_0 ?_
  refine pz_iconst (pc' := 3) (v := 1) rfl (pz_dc dX9_keep 2 rfl) ki_1 ?_
  refine pz_callS (M := mX9_keep) (N := mX9_isWithin) (d' := 0) (bc1 := 0) (bs1 := 0) (bc2 := bc) (bs2 := bs) (pc' := 6) [.int l1, .int 0, .int 1] sX9_196 rfl (pz_dc dX9_keep 3 rfl) rfl (Nat.le_of_ble_eq_true rfl) (Nat.le_of_ble_eq_true rfl) rfl (by omega) (by omega) (by omega) ?_
  refine cX9_isWithin ?_
  show pz_V mX9_keep _ _ _ _ _ 6 [(0, .ref l0), (1, .int l1)] [.int (eX9_isWithin l1 ((0 : Int32)) ((1 : Int32)))] h
  refine pz_if_ne (pc' := 9) (tgt := 11) rfl (pz_dc dX9_keep 4 rfl) (by decide) (fun hc => ?_) (fun hc => ?_)
  · replace hb := hb.1 hc
    refine pz_aload_n (pc' := 12) (x := l0) 0 rfl (pz_dc dX9_keep 7 rfl) rfl ?_
    refine pz_getR (M := mX9_keep) hb fX9_64 (pc' := 15) rfl (pz_dc dX9_keep 8 rfl) (fun a1 hb => ?_)
    refine pz_iload_n (pc' := 16) (x := l1) 1 rfl (pz_dc dX9_keep 9 rfl) rfl ?_
    refine pz_ldW hb (pc' := 17) rfl (pz_dc dX9_keep 10 rfl) (fun a2 hb => ?_)
    refine pz_aload_n (pc' := 18) (x := l0) 0 rfl (pz_dc dX9_keep 11 rfl) rfl ?_
    refine pz_getR (M := mX9_keep) hb fX9_33 (pc' := 21) rfl (pz_dc dX9_keep 12 rfl) (fun a3 hb => ?_)
    refine pz_cVv (M := mX9_keep) (N := mX8_copy) (d' := 1) (bc1 := 0) (bs1 := 0) (bc2 := bc) (bs2 := bs) (pc' := 24) [.ref a3] hb vX9_174 rfl (pz_dc dX9_keep 13 rfl) rfl (Nat.le_of_ble_eq_true rfl) (Nat.le_of_ble_eq_true rfl) rfl (by omega) (by omega) (by omega) (fun h4 hb => ?_)
    refine pz_aload_n (pc' := 25) (x := l0) 0 rfl (pz_dc dX9_keep 14 rfl) rfl ?_
    refine pz_dup (pc' := 26) rfl (pz_dc dX9_keep 15 rfl) rfl ?_
    refine pz_getI (M := mX9_keep) hb fX9_107 (pc' := 29) rfl (pz_dc dX9_keep 16 rfl) (fun x5 hb => ?_)
    refine pz_iconst (pc' := 30) (v := 1) rfl (pz_dc dX9_keep 17 rfl) ki_1 ?_
    refine pz_iload_n (pc' := 31) (x := l1) 1 rfl (pz_dc dX9_keep 18 rfl) rfl ?_
    refine pz_ishl (pc' := 32) rfl (pz_dc dX9_keep 19 rfl) ?_
    refine pz_ior (pc' := 33) rfl (pz_dc dX9_keep 20 rfl) ?_
    refine pz_putv (M := mX9_keep) hb (pX9_107 _ rfl) rfl rfl (pc' := 36) rfl (pz_dc dX9_keep 21 rfl) (fun h6 hb => ?_)
    refine pz_iconst (pc' := 37) (v := 1) rfl (pz_dc dX9_keep 22 rfl) ki_1 ?_
    exact pz_zret (pz_dc dX9_keep 23 rfl) rfl ⟨by decide, hb⟩
  · replace hb := hb.2 hc
    refine pz_iconst (pc' := 10) (v := 0) rfl (pz_dc dX9_keep 5 rfl) ki_0 ?_
    exact pz_zret (pz_dc dX9_keep 6 rfl) rfl ⟨by decide, hb⟩
set_option maxRecDepth 20000 in
set_option maxHeartbeats 4000000 in
theorem wX9_again_0 {Ex : State → Nat → Prop} {Q : Option Value → pz_H → Prop} {d bc bs : Nat} {l0 : Nat} {l1 : Int32}  {h : pz_H} (hD : 2 ≤ d) (hb : ((eX9_isWithin l1 ((0 : Int32)) ((1 : Int32))) = 0 → Q (some (.int 0)) h) ∧ (¬ (eX9_isWithin l1 ((0 : Int32)) ((1 : Int32))) = 0 → pz_gI h l0 9 15 (fun (x1 : Int32) => (¬ (eX9_isIn x1 l1) = 0 → pz_gR h l0 9 3 (fun (a2 : Nat) => pz_gR h l0 9 9 (fun (a3 : Nat) => pz_rW h a3 l1 (fun (a4 : Nat) => pz_is h a2 8 ∧ (pz_kv mX8_copy 1 0 0 (.ref a2 :: [.ref a4]) h (fun (h5 : pz_H) => pz_gR h5 l0 9 6 (fun (a6 : Nat) => pz_is h5 a6 2 ∧ (pz_pF h5 a6 2 1 (.int 0) (fun (h7 : pz_H) => Q (some (.int 1)) h7))))))))) ∧ ((eX9_isIn x1 l1) = 0 → Q (some (.int 0)) h)))) : pz_V mX9_again Ex Q d bc bs 0 [(0, .ref l0), (1, .int l1)] [] h := by
  refine pz_iload_n (pc' := 1) (x := l1) 1 rfl (pz_dc dX9_again 0 rfl) rfl ?_
  refine pz_iconst (pc' := 2) (v := 0) rfl (pz_dc dX9_again 1 rfl) ki_0 ?_
  refine pz_iconst (pc' := 3) (v := 1) rfl (pz_dc dX9_again 2 rfl) ki_1 ?_
  refine pz_callS (M := mX9_again) (N := mX9_isWithin) (d' := 0) (bc1 := 0) (bs1 := 0) (bc2 := bc) (bs2 := bs) (pc' := 6) [.int l1, .int 0, .int 1] sX9_196 rfl (pz_dc dX9_again 3 rfl) rfl (Nat.le_of_ble_eq_true rfl) (Nat.le_of_ble_eq_true rfl) rfl (by omega) (by omega) (by omega) ?_
  refine cX9_isWithin ?_
  show pz_V mX9_again _ _ _ _ _ 6 [(0, .ref l0), (1, .int l1)] [.int (eX9_isWithin l1 ((0 : Int32)) ((1 : Int32)))] h
  refine pz_if_eq (pc' := 9) (tgt := 20) rfl (pz_dc dX9_again 4 rfl) (by decide) (fun hc => ?_) (fun hc => ?_)
  · replace hb := hb.1 hc
    refine pz_iconst (pc' := 21) (v := 0) rfl (pz_dc dX9_again 10 rfl) ki_0 ?_
    exact pz_zret (pz_dc dX9_again 11 rfl) rfl ⟨by decide, hb⟩
  · replace hb := hb.2 hc
    refine pz_aload_n (pc' := 10) (x := l0) 0 rfl (pz_dc dX9_again 5 rfl) rfl ?_
    refine pz_getI (M := mX9_again) hb fX9_107 (pc' := 13) rfl (pz_dc dX9_again 6 rfl) (fun x1 hb => ?_)
    refine pz_iload_n (pc' := 14) (x := l1) 1 rfl (pz_dc dX9_again 7 rfl) rfl ?_
    refine pz_callS (M := mX9_again) (N := mX9_isIn) (d' := 0) (bc1 := 0) (bs1 := 0) (bc2 := bc) (bs2 := bs) (pc' := 17) [.int x1, .int l1] sX9_228 rfl (pz_dc dX9_again 8 rfl) rfl (Nat.le_of_ble_eq_true rfl) (Nat.le_of_ble_eq_true rfl) rfl (by omega) (by omega) (by omega) ?_
    refine cX9_isIn ?_
    show pz_V mX9_again _ _ _ _ _ 17 [(0, .ref l0), (1, .int l1)] [.int (eX9_isIn x1 l1)] h
    refine pz_if_ne (pc' := 20) (tgt := 22) rfl (pz_dc dX9_again 9 rfl) (by decide) (fun hc => ?_) (fun hc => ?_)
    · replace hb := hb.1 hc
      refine pz_aload_n (pc' := 23) (x := l0) 0 rfl (pz_dc dX9_again 12 rfl) rfl ?_
      refine pz_getR (M := mX9_again) hb fX9_33 (pc' := 26) rfl (pz_dc dX9_again 13 rfl) (fun a2 hb => ?_)
      refine pz_aload_n (pc' := 27) (x := l0) 0 rfl (pz_dc dX9_again 14 rfl) rfl ?_
      refine pz_getR (M := mX9_again) hb fX9_64 (pc' := 30) rfl (pz_dc dX9_again 15 rfl) (fun a3 hb => ?_)
      refine pz_iload_n (pc' := 31) (x := l1) 1 rfl (pz_dc dX9_again 16 rfl) rfl ?_
      refine pz_ldW hb (pc' := 32) rfl (pz_dc dX9_again 17 rfl) (fun a4 hb => ?_)
      refine pz_cVv (M := mX9_again) (N := mX8_copy) (d' := 1) (bc1 := 0) (bs1 := 0) (bc2 := bc) (bs2 := bs) (pc' := 35) [.ref a4] hb vX9_174 rfl (pz_dc dX9_again 18 rfl) rfl (Nat.le_of_ble_eq_true rfl) (Nat.le_of_ble_eq_true rfl) rfl (by omega) (by omega) (by omega) (fun h5 hb => ?_)
      refine pz_aload_n (pc' := 36) (x := l0) 0 rfl (pz_dc dX9_again 19 rfl) rfl ?_
      refine pz_getR (M := mX9_again) hb fX9_46 (pc' := 39) rfl (pz_dc dX9_again 20 rfl) (fun a6 hb => ?_)
      obtain ⟨⟨fs8, hf9⟩, hb⟩ := hb
      refine pz_callV (M := mX9_again) (N := mX2_clear) (d' := 0) (bc1 := 0) (bs1 := 0) (bc2 := bc) (bs2 := bs) (pc' := 42) [] vX9_106 rfl (pz_dc dX9_again 21 rfl) rfl (Nat.le_of_ble_eq_true rfl) (Nat.le_of_ble_eq_true rfl) rfl (by omega) (by omega) (by omega) hf9 ?_
      refine pz_aload_n (pc' := 1) (x := a6) 0 rfl (pz_dc dX2_clear 0 rfl) rfl ?_
      refine pz_iconst (pc' := 2) (v := 0) rfl (pz_dc dX2_clear 1 rfl) ki_0 ?_
      refine pz_putv (M := mX2_clear) hb (pX2_16 _ rfl) rfl rfl (pc' := 5) rfl (pz_dc dX2_clear 2 rfl) (fun h7 hb => ?_)
      refine pz_vret (pz_dc dX2_clear 3 rfl) rfl ?_
      show pz_V mX9_again _ _ _ _ _ 42 [(0, .ref l0), (1, .int l1)] [] h7
      refine pz_iconst (pc' := 43) (v := 1) rfl (pz_dc dX9_again 22 rfl) ki_1 ?_
      exact pz_zret (pz_dc dX9_again 23 rfl) rfl ⟨by decide, hb⟩
    · replace hb := hb.2 hc
      refine pz_iconst (pc' := 21) (v := 0) rfl (pz_dc dX9_again 10 rfl) ki_0 ?_
      exact pz_zret (pz_dc dX9_again 11 rfl) rfl ⟨by decide, hb⟩
set_option maxRecDepth 20000 in
set_option maxHeartbeats 4000000 in
theorem wX9_count_0 {Ex : State → Nat → Prop} {Q : Option Value → pz_H → Prop} {d bc bs : Nat} {l0 : Nat} {l1 : Int32}  {h : pz_H} (hD : 3 ≤ d) (hb : (l1.toInt = 0 → pz_gR h l0 9 2 (fun (a1 : Nat) => pz_is h a1 1 ∧ (pz_gI h a1 1 4 (fun (x2 : Int32) => Q (some (.int x2)) h)))) ∧ (l1.toInt = 1 → pz_gR h l0 9 3 (fun (a5 : Nat) => pz_gI h a5 8 6 (fun (x6 : Int32) => Q (some (.int x6)) h))) ∧ (l1.toInt = 2 → pz_gR h l0 9 3 (fun (a7 : Nat) => pz_gI h a7 8 7 (fun (x8 : Int32) => Q (some (.int x8)) h))) ∧ (l1.toInt = 3 → pz_gR h l0 9 3 (fun (a9 : Nat) => pz_gI h a9 8 8 (fun (x10 : Int32) => Q (some (.int x10)) h))) ∧ (l1.toInt = 4 → pz_gR h l0 9 2 (fun (a11 : Nat) => pz_gR h l0 9 3 (fun (a12 : Nat) => pz_is h a11 1 ∧ (pz_ki mX1_total 2 0 0 (.ref a11 :: [.ref a12]) h (fun (x14 : Int32) (h13 : pz_H) => Q (some (.int x14)) h13))))) ∧ (l1.toInt = 5 → pz_gR h l0 9 3 (fun (a15 : Nat) => pz_gI h a15 8 5 (fun (x16 : Int32) => Q (some (.int x16)) h))) ∧ (l1.toInt = 6 → pz_gR h l0 9 2 (fun (a17 : Nat) => pz_gR h l0 9 3 (fun (a18 : Nat) => pz_is h a17 1 ∧ (pz_ki mX1_hairOfAll 0 0 0 (.ref a17 :: [.ref a18]) h (fun (x20 : Int32) (h19 : pz_H) => Q (some (.int x20)) h19))))) ∧ (l1.toInt = 7 → pz_gR h l0 9 2 (fun (a21 : Nat) => pz_gR h l0 9 3 (fun (a22 : Nat) => pz_is h a21 1 ∧ (pz_ki mX1_dry 0 0 0 (.ref a21 :: [.ref a22]) h (fun (x24 : Int32) (h23 : pz_H) => Q (some (.int x24)) h23))))) ∧ (l1.toInt = 8 → pz_gR h l0 9 7 (fun (a25 : Nat) => pz_is h a25 3 ∧ (pz_gI h a25 3 3 (fun (x26 : Int32) => Q (some (.int x26)) h)))) ∧ (l1.toInt = 9 → pz_gR h l0 9 6 (fun (a29 : Nat) => pz_is h a29 2 ∧ (pz_gI h a29 2 1 (fun (x30 : Int32) => Q (some (.int x30)) h)))) ∧ (l1.toInt = 10 → pz_gR h l0 9 1 (fun (a33 : Nat) => pz_is h a33 4 ∧ (pz_gI h a33 4 1 (fun (x34 : Int32) => Q (some (.int x34)) h)))) ∧ (l1.toInt = 11 → pz_gR h l0 9 0 (fun (a37 : Nat) => pz_is h a37 6 ∧ (pz_gI h a37 6 1 (fun (x38 : Int32) => Q (some (.int x38)) h)))) ∧ (l1.toInt = 12 → pz_gR h l0 9 2 (fun (a41 : Nat) => pz_gR h l0 9 3 (fun (a42 : Nat) => pz_is h a41 1 ∧ (pz_ki mX1_brimming 0 0 0 (.ref a41 :: [.ref a42]) h (fun (x44 : Int32) (h43 : pz_H) => Q (some (.int x44)) h43))))) ∧ (l1.toInt ≠ 0 ∧ l1.toInt ≠ 1 ∧ l1.toInt ≠ 2 ∧ l1.toInt ≠ 3 ∧ l1.toInt ≠ 4 ∧ l1.toInt ≠ 5 ∧ l1.toInt ≠ 6 ∧ l1.toInt ≠ 7 ∧ l1.toInt ≠ 8 ∧ l1.toInt ≠ 9 ∧ l1.toInt ≠ 10 ∧ l1.toInt ≠ 11 ∧ l1.toInt ≠ 12 → Q (some (.int ((-1)))) h)) : pz_V mX9_count Ex Q d bc bs 0 [(0, .ref l0), (1, .int l1)] [] h := by
  refine pz_iload_n (pc' := 1) (x := l1) 1 rfl (pz_dc dX9_count 0 rfl) rfl ?_
  refine pz_tableN (tgt := 188) (pz_dc dX9_count 1 rfl) (by decide) (fun i hi hx => ?_) (by decide) (fun hc => ?_)
  · match i, hi, hx with
    | 0, _, hx =>
      refine ⟨_, 68, rfl, by decide, ?_⟩
      replace hb := hb.1 (by omega)
      refine pz_aload_n (pc' := 69) (x := l0) 0 rfl (pz_dc dX9_count 2 rfl) rfl ?_
      refine pz_getR (M := mX9_count) hb fX9_26 (pc' := 72) rfl (pz_dc dX9_count 3 rfl) (fun a1 hb => ?_)
      obtain ⟨⟨fs3, hf4⟩, hb⟩ := hb
      refine pz_callV (M := mX9_count) (N := mX1_size) (d' := 0) (bc1 := 0) (bs1 := 0) (bc2 := bc) (bs2 := bs) (pc' := 75) [] vX9_208 rfl (pz_dc dX9_count 4 rfl) rfl (Nat.le_of_ble_eq_true rfl) (Nat.le_of_ble_eq_true rfl) rfl (by omega) (by omega) (by omega) hf4 ?_
      refine pz_aload_n (pc' := 1) (x := a1) 0 rfl (pz_dc dX1_size 0 rfl) rfl ?_
      refine pz_getI (M := mX1_size) hb fX1_24 (pc' := 4) rfl (pz_dc dX1_size 1 rfl) (fun x2 hb => ?_)
      refine pz_iret (pz_dc dX1_size 2 rfl) rfl ?_
      show pz_V mX9_count _ _ _ _ _ 75 [(0, .ref l0), (1, .int l1)] [.int x2] h
      exact pz_iret (pz_dc dX9_count 5 rfl) rfl hb
    | 1, _, hx =>
      refine ⟨_, 76, rfl, by decide, ?_⟩
      replace hb := hb.2.1 (by omega)
      refine pz_aload_n (pc' := 77) (x := l0) 0 rfl (pz_dc dX9_count 6 rfl) rfl ?_
      refine pz_getR (M := mX9_count) hb fX9_33 (pc' := 80) rfl (pz_dc dX9_count 7 rfl) (fun a5 hb => ?_)
      refine pz_getI (M := mX9_count) hb fX9_337 (pc' := 83) rfl (pz_dc dX9_count 8 rfl) (fun x6 hb => ?_)
      exact pz_iret (pz_dc dX9_count 9 rfl) rfl hb
    | 2, _, hx =>
      refine ⟨_, 84, rfl, by decide, ?_⟩
      replace hb := hb.2.2.1 (by omega)
      refine pz_aload_n (pc' := 85) (x := l0) 0 rfl (pz_dc dX9_count 10 rfl) rfl ?_
      refine pz_getR (M := mX9_count) hb fX9_33 (pc' := 88) rfl (pz_dc dX9_count 11 rfl) (fun a7 hb => ?_)
      refine pz_getI (M := mX9_count) hb fX9_161 (pc' := 91) rfl (pz_dc dX9_count 12 rfl) (fun x8 hb => ?_)
      exact pz_iret (pz_dc dX9_count 13 rfl) rfl hb
    | 3, _, hx =>
      refine ⟨_, 92, rfl, by decide, ?_⟩
      replace hb := hb.2.2.2.1 (by omega)
      refine pz_aload_n (pc' := 93) (x := l0) 0 rfl (pz_dc dX9_count 14 rfl) rfl ?_
      refine pz_getR (M := mX9_count) hb fX9_33 (pc' := 96) rfl (pz_dc dX9_count 15 rfl) (fun a9 hb => ?_)
      refine pz_getI (M := mX9_count) hb fX9_164 (pc' := 99) rfl (pz_dc dX9_count 16 rfl) (fun x10 hb => ?_)
      exact pz_iret (pz_dc dX9_count 17 rfl) rfl hb
    | 4, _, hx =>
      refine ⟨_, 100, rfl, by decide, ?_⟩
      replace hb := hb.2.2.2.2.1 (by omega)
      refine pz_aload_n (pc' := 101) (x := l0) 0 rfl (pz_dc dX9_count 18 rfl) rfl ?_
      refine pz_getR (M := mX9_count) hb fX9_26 (pc' := 104) rfl (pz_dc dX9_count 19 rfl) (fun a11 hb => ?_)
      refine pz_aload_n (pc' := 105) (x := l0) 0 rfl (pz_dc dX9_count 20 rfl) rfl ?_
      refine pz_getR (M := mX9_count) hb fX9_33 (pc' := 108) rfl (pz_dc dX9_count 21 rfl) (fun a12 hb => ?_)
      refine pz_cVi (M := mX9_count) (N := mX1_total) (d' := 2) (bc1 := 0) (bs1 := 0) (bc2 := bc) (bs2 := bs) (pc' := 111) [.ref a12] hb vX9_153 rfl (pz_dc dX9_count 22 rfl) rfl (Nat.le_of_ble_eq_true rfl) (Nat.le_of_ble_eq_true rfl) rfl (by omega) (by omega) (by omega) (fun x14 h13 hb => ?_)
      exact pz_iret (pz_dc dX9_count 23 rfl) rfl hb
    | 5, _, hx =>
      refine ⟨_, 112, rfl, by decide, ?_⟩
      replace hb := hb.2.2.2.2.2.1 (by omega)
      refine pz_aload_n (pc' := 113) (x := l0) 0 rfl (pz_dc dX9_count 24 rfl) rfl ?_
      refine pz_getR (M := mX9_count) hb fX9_33 (pc' := 116) rfl (pz_dc dX9_count 25 rfl) (fun a15 hb => ?_)
      refine pz_getI (M := mX9_count) hb fX9_260 (pc' := 119) rfl (pz_dc dX9_count 26 rfl) (fun x16 hb => ?_)
      exact pz_iret (pz_dc dX9_count 27 rfl) rfl hb
    | 6, _, hx =>
      refine ⟨_, 120, rfl, by decide, ?_⟩
      replace hb := hb.2.2.2.2.2.2.1 (by omega)
      refine pz_aload_n (pc' := 121) (x := l0) 0 rfl (pz_dc dX9_count 28 rfl) rfl ?_
      refine pz_getR (M := mX9_count) hb fX9_26 (pc' := 124) rfl (pz_dc dX9_count 29 rfl) (fun a17 hb => ?_)
      refine pz_aload_n (pc' := 125) (x := l0) 0 rfl (pz_dc dX9_count 30 rfl) rfl ?_
      refine pz_getR (M := mX9_count) hb fX9_33 (pc' := 128) rfl (pz_dc dX9_count 31 rfl) (fun a18 hb => ?_)
      refine pz_cVi (M := mX9_count) (N := mX1_hairOfAll) (d' := 0) (bc1 := 0) (bs1 := 0) (bc2 := bc) (bs2 := bs) (pc' := 131) [.ref a18] hb vX9_340 rfl (pz_dc dX9_count 32 rfl) rfl (Nat.le_of_ble_eq_true rfl) (Nat.le_of_ble_eq_true rfl) rfl (by omega) (by omega) (by omega) (fun x20 h19 hb => ?_)
      exact pz_iret (pz_dc dX9_count 33 rfl) rfl hb
    | 7, _, hx =>
      refine ⟨_, 132, rfl, by decide, ?_⟩
      replace hb := hb.2.2.2.2.2.2.2.1 (by omega)
      refine pz_aload_n (pc' := 133) (x := l0) 0 rfl (pz_dc dX9_count 34 rfl) rfl ?_
      refine pz_getR (M := mX9_count) hb fX9_26 (pc' := 136) rfl (pz_dc dX9_count 35 rfl) (fun a21 hb => ?_)
      refine pz_aload_n (pc' := 137) (x := l0) 0 rfl (pz_dc dX9_count 36 rfl) rfl ?_
      refine pz_getR (M := mX9_count) hb fX9_33 (pc' := 140) rfl (pz_dc dX9_count 37 rfl) (fun a22 hb => ?_)
      refine pz_cVi (M := mX9_count) (N := mX1_dry) (d' := 0) (bc1 := 0) (bs1 := 0) (bc2 := bc) (bs2 := bs) (pc' := 143) [.ref a22] hb vX9_235 rfl (pz_dc dX9_count 38 rfl) rfl (Nat.le_of_ble_eq_true rfl) (Nat.le_of_ble_eq_true rfl) rfl (by omega) (by omega) (by omega) (fun x24 h23 hb => ?_)
      exact pz_iret (pz_dc dX9_count 39 rfl) rfl hb
    | 8, _, hx =>
      refine ⟨_, 144, rfl, by decide, ?_⟩
      replace hb := hb.2.2.2.2.2.2.2.2.1 (by omega)
      refine pz_aload_n (pc' := 145) (x := l0) 0 rfl (pz_dc dX9_count 40 rfl) rfl ?_
      refine pz_getR (M := mX9_count) hb fX9_53 (pc' := 148) rfl (pz_dc dX9_count 41 rfl) (fun a25 hb => ?_)
      obtain ⟨⟨fs27, hf28⟩, hb⟩ := hb
      refine pz_callV (M := mX9_count) (N := mX3_size) (d' := 0) (bc1 := 0) (bs1 := 0) (bc2 := bc) (bs2 := bs) (pc' := 151) [] vX9_265 rfl (pz_dc dX9_count 42 rfl) rfl (Nat.le_of_ble_eq_true rfl) (Nat.le_of_ble_eq_true rfl) rfl (by omega) (by omega) (by omega) hf28 ?_
      refine pz_aload_n (pc' := 1) (x := a25) 0 rfl (pz_dc dX3_size 0 rfl) rfl ?_
      refine pz_getI (M := mX3_size) hb fX3_21 (pc' := 4) rfl (pz_dc dX3_size 1 rfl) (fun x26 hb => ?_)
      refine pz_iret (pz_dc dX3_size 2 rfl) rfl ?_
      show pz_V mX9_count _ _ _ _ _ 151 [(0, .ref l0), (1, .int l1)] [.int x26] h
      exact pz_iret (pz_dc dX9_count 43 rfl) rfl hb
    | 9, _, hx =>
      refine ⟨_, 152, rfl, by decide, ?_⟩
      replace hb := hb.2.2.2.2.2.2.2.2.2.1 (by omega)
      refine pz_aload_n (pc' := 153) (x := l0) 0 rfl (pz_dc dX9_count 44 rfl) rfl ?_
      refine pz_getR (M := mX9_count) hb fX9_46 (pc' := 156) rfl (pz_dc dX9_count 45 rfl) (fun a29 hb => ?_)
      obtain ⟨⟨fs31, hf32⟩, hb⟩ := hb
      refine pz_callV (M := mX9_count) (N := mX2_size) (d' := 0) (bc1 := 0) (bs1 := 0) (bc2 := bc) (bs2 := bs) (pc' := 159) [] vX9_195 rfl (pz_dc dX9_count 46 rfl) rfl (Nat.le_of_ble_eq_true rfl) (Nat.le_of_ble_eq_true rfl) rfl (by omega) (by omega) (by omega) hf32 ?_
      refine pz_aload_n (pc' := 1) (x := a29) 0 rfl (pz_dc dX2_size 0 rfl) rfl ?_
      refine pz_getI (M := mX2_size) hb fX2_16 (pc' := 4) rfl (pz_dc dX2_size 1 rfl) (fun x30 hb => ?_)
      refine pz_iret (pz_dc dX2_size 2 rfl) rfl ?_
      show pz_V mX9_count _ _ _ _ _ 159 [(0, .ref l0), (1, .int l1)] [.int x30] h
      exact pz_iret (pz_dc dX9_count 47 rfl) rfl hb
    | 10, _, hx =>
      refine ⟨_, 160, rfl, by decide, ?_⟩
      replace hb := hb.2.2.2.2.2.2.2.2.2.2.1 (by omega)
      refine pz_aload_n (pc' := 161) (x := l0) 0 rfl (pz_dc dX9_count 48 rfl) rfl ?_
      refine pz_getR (M := mX9_count) hb fX9_19 (pc' := 164) rfl (pz_dc dX9_count 49 rfl) (fun a33 hb => ?_)
      obtain ⟨⟨fs35, hf36⟩, hb⟩ := hb
      refine pz_callV (M := mX9_count) (N := mX4_size) (d' := 0) (bc1 := 0) (bs1 := 0) (bc2 := bc) (bs2 := bs) (pc' := 167) [] vX9_343 rfl (pz_dc dX9_count 50 rfl) rfl (Nat.le_of_ble_eq_true rfl) (Nat.le_of_ble_eq_true rfl) rfl (by omega) (by omega) (by omega) hf36 ?_
      refine pz_aload_n (pc' := 1) (x := a33) 0 rfl (pz_dc dX4_size 0 rfl) rfl ?_
      refine pz_getI (M := mX4_size) hb fX4_15 (pc' := 4) rfl (pz_dc dX4_size 1 rfl) (fun x34 hb => ?_)
      refine pz_iret (pz_dc dX4_size 2 rfl) rfl ?_
      show pz_V mX9_count _ _ _ _ _ 167 [(0, .ref l0), (1, .int l1)] [.int x34] h
      exact pz_iret (pz_dc dX9_count 51 rfl) rfl hb
    | 11, _, hx =>
      refine ⟨_, 168, rfl, by decide, ?_⟩
      replace hb := hb.2.2.2.2.2.2.2.2.2.2.2.1 (by omega)
      refine pz_aload_n (pc' := 169) (x := l0) 0 rfl (pz_dc dX9_count 52 rfl) rfl ?_
      refine pz_getR (M := mX9_count) hb fX9_10 (pc' := 172) rfl (pz_dc dX9_count 53 rfl) (fun a37 hb => ?_)
      obtain ⟨⟨fs39, hf40⟩, hb⟩ := hb
      refine pz_callV (M := mX9_count) (N := mX6_size) (d' := 0) (bc1 := 0) (bs1 := 0) (bc2 := bc) (bs2 := bs) (pc' := 175) [] vX9_89 rfl (pz_dc dX9_count 54 rfl) rfl (Nat.le_of_ble_eq_true rfl) (Nat.le_of_ble_eq_true rfl) rfl (by omega) (by omega) (by omega) hf40 ?_
      refine pz_aload_n (pc' := 1) (x := a37) 0 rfl (pz_dc dX6_size 0 rfl) rfl ?_
      refine pz_getI (M := mX6_size) hb fX6_13 (pc' := 4) rfl (pz_dc dX6_size 1 rfl) (fun x38 hb => ?_)
      refine pz_iret (pz_dc dX6_size 2 rfl) rfl ?_
      show pz_V mX9_count _ _ _ _ _ 175 [(0, .ref l0), (1, .int l1)] [.int x38] h
      exact pz_iret (pz_dc dX9_count 55 rfl) rfl hb
    | 12, _, hx =>
      refine ⟨_, 176, rfl, by decide, ?_⟩
      replace hb := hb.2.2.2.2.2.2.2.2.2.2.2.2.1 (by omega)
      refine pz_aload_n (pc' := 177) (x := l0) 0 rfl (pz_dc dX9_count 56 rfl) rfl ?_
      refine pz_getR (M := mX9_count) hb fX9_26 (pc' := 180) rfl (pz_dc dX9_count 57 rfl) (fun a41 hb => ?_)
      refine pz_aload_n (pc' := 181) (x := l0) 0 rfl (pz_dc dX9_count 58 rfl) rfl ?_
      refine pz_getR (M := mX9_count) hb fX9_33 (pc' := 184) rfl (pz_dc dX9_count 59 rfl) (fun a42 hb => ?_)
      refine pz_cVi (M := mX9_count) (N := mX1_brimming) (d' := 0) (bc1 := 0) (bs1 := 0) (bc2 := bc) (bs2 := bs) (pc' := 187) [.ref a42] hb vX9_344 rfl (pz_dc dX9_count 60 rfl) rfl (Nat.le_of_ble_eq_true rfl) (Nat.le_of_ble_eq_true rfl) rfl (by omega) (by omega) (by omega) (fun x44 h43 hb => ?_)
      exact pz_iret (pz_dc dX9_count 61 rfl) rfl hb
    | k + 13, hi, _ => exact absurd hi (by simp only [List.size_toArray, List.length_cons, List.length_nil]; omega)
  · replace hb := hb.2.2.2.2.2.2.2.2.2.2.2.2.2 (by omega)
    refine pz_iconst (pc' := 189) (v := (-1)) rfl (pz_dc dX9_count 62 rfl) ki_m1 ?_
    exact pz_iret (pz_dc dX9_count 63 rfl) rfl hb
set_option maxRecDepth 20000 in
set_option maxHeartbeats 4000000 in
theorem wX9_row_0 {Ex : State → Nat → Prop} {Q : Option Value → pz_H → Prop} {d bc bs : Nat} {l0 : Nat} {l1 : Int32}  {h : pz_H} (hD : 2 ≤ d) (hb : pz_gR h l0 9 1 (fun (a1 : Nat) => pz_is h a1 4 ∧ (pz_gI h a1 4 1 (fun (x2 : Int32) => (¬ (eX4_has l1 x2) = 0 → pz_gR h l0 9 1 (fun (a6 : Nat) => pz_is h a6 4 ∧ (pz_kl mX4_get 1 0 0 (.ref a6 :: [.int l1]) h (fun (x8 : Int64) (h7 : pz_H) => Q (some (.long x8)) h7)))) ∧ ((eX4_has l1 x2) = 0 → False))))) : pz_V mX9_row Ex Q d bc bs 0 [(0, .ref l0), (1, .int l1)] [] h := by
  refine pz_aload_n (pc' := 1) (x := l0) 0 rfl (pz_dc dX9_row 0 rfl) rfl ?_
  refine pz_getR (M := mX9_row) hb fX9_19 (pc' := 4) rfl (pz_dc dX9_row 1 rfl) (fun a1 hb => ?_)
  refine pz_iload_n (pc' := 5) (x := l1) 1 rfl (pz_dc dX9_row 2 rfl) rfl ?_
  obtain ⟨⟨fs9, hf10⟩, hb⟩ := hb
  obtain ⟨fs3, x2, g4, g5, hb⟩ := hb
  refine pz_callV (M := mX9_row) (N := mX4_has) (d' := 0) (bc1 := 0) (bs1 := 0) (bc2 := bc) (bs2 := bs) (pc' := 8) [.int l1] vX9_347 rfl (pz_dc dX9_row 3 rfl) rfl (Nat.le_of_ble_eq_true rfl) (Nat.le_of_ble_eq_true rfl) rfl (by omega) (by omega) (by omega) hf10 ?_
  refine cX4_has ⟨fs3, x2, g4, g5, ?_⟩
  show pz_V mX9_row _ _ _ _ _ 8 [(0, .ref l0), (1, .int l1)] [.int (eX4_has l1 x2)] h
  refine pz_if_ne (pc' := 11) (tgt := 19) rfl (pz_dc dX9_row 4 rfl) (by decide) (fun hc => ?_) (fun hc => ?_)
  · replace hb := hb.1 hc
    refine pz_aload_n (pc' := 20) (x := l0) 0 rfl (pz_dc dX9_row 9 rfl) rfl ?_
    refine pz_getR (M := mX9_row) hb fX9_19 (pc' := 23) rfl (pz_dc dX9_row 10 rfl) (fun a6 hb => ?_)
    refine pz_iload_n (pc' := 24) (x := l1) 1 rfl (pz_dc dX9_row 11 rfl) rfl ?_
    refine pz_cVl (M := mX9_row) (N := mX4_get) (d' := 1) (bc1 := 0) (bs1 := 0) (bc2 := bc) (bs2 := bs) (pc' := 27) [.int l1] hb vX9_348 rfl (pz_dc dX9_row 12 rfl) rfl (Nat.le_of_ble_eq_true rfl) (Nat.le_of_ble_eq_true rfl) rfl (by omega) (by omega) (by omega) (fun x8 h7 hb => ?_)
    exact pz_lret (pz_dc dX9_row 13 rfl) rfl hb
  · replace hb := hb.2 hc
    exact hb.elim
set_option maxRecDepth 20000 in
set_option maxHeartbeats 4000000 in
theorem wX9_startTrial_0 {Ex : State → Nat → Prop} {Q : Option Value → pz_H → Prop} {d bc bs : Nat} {l0 : Nat}  {h : pz_H} (hD : 2 ≤ d) (hb : pz_gR h l0 9 5 (fun (a1 : Nat) => pz_gR h l0 9 3 (fun (a2 : Nat) => pz_is h a1 8 ∧ (pz_kv mX8_copy 1 0 0 (.ref a1 :: [.ref a2]) h (fun (h3 : pz_H) => Q none h3))))) : pz_V mX9_startTrial Ex Q d bc bs 0 [(0, .ref l0)] [] h := by
  refine pz_aload_n (pc' := 1) (x := l0) 0 rfl (pz_dc dX9_startTrial 0 rfl) rfl ?_
  refine pz_getR (M := mX9_startTrial) hb fX9_40 (pc' := 4) rfl (pz_dc dX9_startTrial 1 rfl) (fun a1 hb => ?_)
  refine pz_aload_n (pc' := 5) (x := l0) 0 rfl (pz_dc dX9_startTrial 2 rfl) rfl ?_
  refine pz_getR (M := mX9_startTrial) hb fX9_33 (pc' := 8) rfl (pz_dc dX9_startTrial 3 rfl) (fun a2 hb => ?_)
  refine pz_cVv (M := mX9_startTrial) (N := mX8_copy) (d' := 1) (bc1 := 0) (bs1 := 0) (bc2 := bc) (bs2 := bs) (pc' := 11) [.ref a2] hb vX9_174 rfl (pz_dc dX9_startTrial 4 rfl) rfl (Nat.le_of_ble_eq_true rfl) (Nat.le_of_ble_eq_true rfl) rfl (by omega) (by omega) (by omega) (fun h3 hb => ?_)
  exact pz_vret (pz_dc dX9_startTrial 5 rfl) rfl hb
set_option maxRecDepth 20000 in
set_option maxHeartbeats 4000000 in
theorem wX9_startLeakTrial_0 {Ex : State → Nat → Prop} {Q : Option Value → pz_H → Prop} {d bc bs : Nat} {l0 : Nat} {l1 : Int32} {l2 : Int32}  {h : pz_H} (hD : 3 ≤ d) (hb : pz_is h l0 9 ∧ (pz_kv mX9_startTrial 2 0 0 (.ref l0 :: []) h (fun (h1 : pz_H) => pz_gR h1 l0 9 2 (fun (a2 : Nat) => pz_is h1 a2 1 ∧ (pz_gI h1 a2 1 4 (fun (x3 : Int32) => ((eX1_has l1 x3) = 0 → Q none h1) ∧ (¬ (eX1_has l1 x3) = 0 → pz_gR h1 l0 9 5 (fun (a7 : Nat) => pz_gR h1 a7 8 3 (fun (a8 : Nat) => pz_rI h1 a8 l1 (fun (x9 : Int32) => pz_sI h1 a8 l1 (x9 + l2) (fun (h10 : pz_H) => Q none h10))))))))))) : pz_V mX9_startLeakTrial Ex Q d bc bs 0 [(0, .ref l0), (1, .int l1), (2, .int l2)] [] h := by
  refine pz_aload_n (pc' := 1) (x := l0) 0 rfl (pz_dc dX9_startLeakTrial 0 rfl) rfl ?_
  refine pz_cVv (M := mX9_startLeakTrial) (N := mX9_startTrial) (d' := 2) (bc1 := 0) (bs1 := 0) (bc2 := bc) (bs2 := bs) (pc' := 4) [] hb vX9_200 rfl (pz_dc dX9_startLeakTrial 1 rfl) rfl (Nat.le_of_ble_eq_true rfl) (Nat.le_of_ble_eq_true rfl) rfl (by omega) (by omega) (by omega) (fun h1 hb => ?_)
  refine pz_aload_n (pc' := 5) (x := l0) 0 rfl (pz_dc dX9_startLeakTrial 2 rfl) rfl ?_
  refine pz_getR (M := mX9_startLeakTrial) hb fX9_26 (pc' := 8) rfl (pz_dc dX9_startLeakTrial 3 rfl) (fun a2 hb => ?_)
  refine pz_iload_n (pc' := 9) (x := l1) 1 rfl (pz_dc dX9_startLeakTrial 4 rfl) rfl ?_
  obtain ⟨⟨fs11, hf12⟩, hb⟩ := hb
  obtain ⟨fs4, x3, g5, g6, hb⟩ := hb
  refine pz_callV (M := mX9_startLeakTrial) (N := mX1_has) (d' := 0) (bc1 := 0) (bs1 := 0) (bc2 := bc) (bs2 := bs) (pc' := 12) [.int l1] vX9_115 rfl (pz_dc dX9_startLeakTrial 5 rfl) rfl (Nat.le_of_ble_eq_true rfl) (Nat.le_of_ble_eq_true rfl) rfl (by omega) (by omega) (by omega) hf12 ?_
  refine cX1_has ⟨fs4, x3, g5, g6, ?_⟩
  show pz_V mX9_startLeakTrial _ _ _ _ _ 12 [(0, .ref l0), (1, .int l1), (2, .int l2)] [.int (eX1_has l1 x3)] h1
  refine pz_if_eq (pc' := 15) (tgt := 28) rfl (pz_dc dX9_startLeakTrial 6 rfl) (by decide) (fun hc => ?_) (fun hc => ?_)
  · replace hb := hb.1 hc
    exact pz_vret (pz_dc dX9_startLeakTrial 16 rfl) rfl hb
  · replace hb := hb.2 hc
    refine pz_aload_n (pc' := 16) (x := l0) 0 rfl (pz_dc dX9_startLeakTrial 7 rfl) rfl ?_
    refine pz_getR (M := mX9_startLeakTrial) hb fX9_40 (pc' := 19) rfl (pz_dc dX9_startLeakTrial 8 rfl) (fun a7 hb => ?_)
    refine pz_getR (M := mX9_startLeakTrial) hb fX9_127 (pc' := 22) rfl (pz_dc dX9_startLeakTrial 9 rfl) (fun a8 hb => ?_)
    refine pz_iload_n (pc' := 23) (x := l1) 1 rfl (pz_dc dX9_startLeakTrial 10 rfl) rfl ?_
    refine pz_dup2 (pc' := 24) rfl (pz_dc dX9_startLeakTrial 11 rfl) rfl rfl ?_
    refine pz_ldI hb (pc' := 25) rfl (pz_dc dX9_startLeakTrial 12 rfl) (fun x9 hb => ?_)
    refine pz_iload_n (pc' := 26) (x := l2) 2 rfl (pz_dc dX9_startLeakTrial 13 rfl) rfl ?_
    refine pz_iadd (pc' := 27) rfl (pz_dc dX9_startLeakTrial 14 rfl) ?_
    refine pz_stI hb (pc' := 28) rfl (pz_dc dX9_startLeakTrial 15 rfl) (fun h10 hb => ?_)
    exact pz_vret (pz_dc dX9_startLeakTrial 16 rfl) rfl hb
set_option maxRecDepth 20000 in
set_option maxHeartbeats 4000000 in
theorem wX9_linesTold_0 {Ex : State → Nat → Prop} {Q : Option Value → pz_H → Prop} {d bc bs : Nat} {l0 : Nat}  {h : pz_H} (hD : 2 ≤ d) (hb : pz_gR h l0 9 0 (fun (a1 : Nat) => pz_is h a1 6 ∧ (pz_gI h a1 6 1 (fun (x2 : Int32) => (¬ x2 = 0 → pz_V mX9_linesTold Ex Q d bc bs 16 [(0, .ref l0), (1, .int 0), (2, .int 0)] [] h) ∧ (x2 = 0 → Q (some (.int 0)) h))))) : pz_V mX9_linesTold Ex Q d bc bs 0 [(0, .ref l0)] [] h := by
  refine pz_aload_n (pc' := 1) (x := l0) 0 rfl (pz_dc dX9_linesTold 0 rfl) rfl ?_
  refine pz_getR (M := mX9_linesTold) hb fX9_10 (pc' := 4) rfl (pz_dc dX9_linesTold 1 rfl) (fun a1 hb => ?_)
  obtain ⟨⟨fs3, hf4⟩, hb⟩ := hb
  refine pz_callV (M := mX9_linesTold) (N := mX6_size) (d' := 0) (bc1 := 0) (bs1 := 0) (bc2 := bc) (bs2 := bs) (pc' := 7) [] vX9_89 rfl (pz_dc dX9_linesTold 2 rfl) rfl (Nat.le_of_ble_eq_true rfl) (Nat.le_of_ble_eq_true rfl) rfl (by omega) (by omega) (by omega) hf4 ?_
  refine pz_aload_n (pc' := 1) (x := a1) 0 rfl (pz_dc dX6_size 0 rfl) rfl ?_
  refine pz_getI (M := mX6_size) hb fX6_13 (pc' := 4) rfl (pz_dc dX6_size 1 rfl) (fun x2 hb => ?_)
  refine pz_iret (pz_dc dX6_size 2 rfl) rfl ?_
  show pz_V mX9_linesTold _ _ _ _ _ 7 [(0, .ref l0)] [.int x2] h
  refine pz_if_ne (pc' := 10) (tgt := 12) rfl (pz_dc dX9_linesTold 3 rfl) (by decide) (fun hc => ?_) (fun hc => ?_)
  · replace hb := hb.1 hc
    refine pz_iconst (pc' := 13) (v := 0) rfl (pz_dc dX9_linesTold 6 rfl) ki_0 ?_
    refine pz_istore_n (pc' := 14) (lv' := [(1, .int 0), (0, .ref l0)]) rfl (pz_dc dX9_linesTold 7 rfl) (by decide) rfl ?_
    refine pz_iconst (pc' := 15) (v := 0) rfl (pz_dc dX9_linesTold 8 rfl) ki_0 ?_
    refine pz_istore_n (pc' := 16) (lv' := [(2, .int 0), (1, .int 0), (0, .ref l0)]) rfl (pz_dc dX9_linesTold 9 rfl) (by decide) rfl ?_
    refine pz_lv (lv' := [(0, .ref l0), (1, .int 0), (2, .int 0)]) [2, 1, 0] rfl ?_
    exact hb
  · replace hb := hb.2 hc
    refine pz_iconst (pc' := 11) (v := 0) rfl (pz_dc dX9_linesTold 4 rfl) ki_0 ?_
    exact pz_iret (pz_dc dX9_linesTold 5 rfl) rfl hb
set_option maxRecDepth 20000 in
set_option maxHeartbeats 4000000 in
theorem wX9_linesTold_16 {Ex : State → Nat → Prop} {Q : Option Value → pz_H → Prop} {d bc bs : Nat} {l0 : Nat} {l1 : Int32} {l2 : Int32}  {h : pz_H} (hD : 2 ≤ d) (hb : (((41 : Int32)) ≤ l2 → Q (some (.int ((-42)))) h) ∧ (¬ ((41 : Int32)) ≤ l2 → pz_gR h l0 9 2 (fun (a1 : Nat) => pz_is h a1 1 ∧ (pz_gI h a1 1 4 (fun (x2 : Int32) => pz_is h l0 9 ∧ (pz_ki mX9_lineFault 1 0 0 (.ref l0 :: [.int l2, .int (x2 + l1)]) h (fun (x4 : Int32) (h3 : pz_H) => (x4 < 0 → pz_gR h3 l0 9 0 (fun (a5 : Nat) => pz_is h3 a5 6 ∧ (pz_gI h3 a5 6 1 (fun (x6 : Int32) => (¬ x6 = (l2 + ((6 : Int32))) → pz_gR h3 l0 9 0 (fun (a7 : Nat) => pz_is h3 a7 6 ∧ (pz_ki mX6_at 0 0 0 (.ref a7 :: [.int (l2 + ((6 : Int32))), .int 41]) h3 (fun (x9 : Int32) (h8 : pz_H) => (x9 = ((59 : Int32)) → pz_V mX9_linesTold Ex Q d bc bs 16 [(0, .ref l0), (1, .int (l1 + (1 : Int32))), (2, .int (l2 + (7 : Int32)))] [] h8) ∧ (¬ x9 = ((59 : Int32)) → Q (some (.int (((-1 : Int32)) - (l2 + ((6 : Int32)))))) h8))))) ∧ (x6 = (l2 + ((6 : Int32))) → Q (some (.int (l1 + (1 : Int32)))) h3))))) ∧ (¬ x4 < 0 → Q (some (.int (((-1 : Int32)) - x4))) h3)))))))) : pz_V mX9_linesTold Ex Q d bc bs 16 [(0, .ref l0), (1, .int l1), (2, .int l2)] [] h := by
  refine pz_iload_n (pc' := 17) (x := l2) 2 rfl (pz_dc dX9_linesTold 10 rfl) rfl ?_
  refine pz_bipush (pc' := 19) (v := 41) rfl (pz_dc dX9_linesTold 11 rfl) kb_41 ?_
  refine pz_icmp_ge (pc' := 22) (tgt := 95) rfl (pz_dc dX9_linesTold 12 rfl) (by decide) (fun hc => ?_) (fun hc => ?_)
  · replace hb := hb.1 hc
    refine pz_bipush (pc' := 97) (v := (-42)) rfl (pz_dc dX9_linesTold 53 rfl) kb_m42 ?_
    exact pz_iret (pz_dc dX9_linesTold 54 rfl) rfl hb
  · replace hb := hb.2 hc
    refine pz_aload_n (pc' := 23) (x := l0) 0 rfl (pz_dc dX9_linesTold 13 rfl) rfl ?_
    refine pz_iload_n (pc' := 24) (x := l2) 2 rfl (pz_dc dX9_linesTold 14 rfl) rfl ?_
    refine pz_aload_n (pc' := 25) (x := l0) 0 rfl (pz_dc dX9_linesTold 15 rfl) rfl ?_
    refine pz_getR (M := mX9_linesTold) hb fX9_26 (pc' := 28) rfl (pz_dc dX9_linesTold 16 rfl) (fun a1 hb => ?_)
    obtain ⟨⟨fs12, hf13⟩, hb⟩ := hb
    refine pz_callV (M := mX9_linesTold) (N := mX1_size) (d' := 0) (bc1 := 0) (bs1 := 0) (bc2 := bc) (bs2 := bs) (pc' := 31) [] vX9_208 rfl (pz_dc dX9_linesTold 17 rfl) rfl (Nat.le_of_ble_eq_true rfl) (Nat.le_of_ble_eq_true rfl) rfl (by omega) (by omega) (by omega) hf13 ?_
    refine pz_aload_n (pc' := 1) (x := a1) 0 rfl (pz_dc dX1_size 0 rfl) rfl ?_
    refine pz_getI (M := mX1_size) hb fX1_24 (pc' := 4) rfl (pz_dc dX1_size 1 rfl) (fun x2 hb => ?_)
    refine pz_iret (pz_dc dX1_size 2 rfl) rfl ?_
    show pz_V mX9_linesTold _ _ _ _ _ 31 [(0, .ref l0), (1, .int l1), (2, .int l2)] [.int x2, .int l2, .ref l0] h
    refine pz_iload_n (pc' := 32) (x := l1) 1 rfl (pz_dc dX9_linesTold 18 rfl) rfl ?_
    refine pz_iadd (pc' := 33) rfl (pz_dc dX9_linesTold 19 rfl) ?_
    refine pz_cVi (M := mX9_linesTold) (N := mX9_lineFault) (d' := 1) (bc1 := 0) (bs1 := 0) (bc2 := bc) (bs2 := bs) (pc' := 36) [.int l2, .int (x2 + l1)] hb vX9_352 rfl (pz_dc dX9_linesTold 20 rfl) rfl (Nat.le_of_ble_eq_true rfl) (Nat.le_of_ble_eq_true rfl) rfl (by omega) (by omega) (by omega) (fun x4 h3 hb => ?_)
    refine pz_istore_n (pc' := 37) (lv' := [(3, .int x4), (0, .ref l0), (1, .int l1), (2, .int l2)]) rfl (pz_dc dX9_linesTold 21 rfl) (by decide) rfl ?_
    refine pz_iload_n (pc' := 38) (x := x4) 0 rfl (pz_dc dX9_linesTold 22 rfl) rfl ?_
    refine pz_if_lt (pc' := 41) (tgt := 45) rfl (pz_dc dX9_linesTold 23 rfl) (by decide) (fun hc => ?_) (fun hc => ?_)
    · replace hb := hb.1 hc
      refine pz_iinc (pc' := 48) (x := l1) (v := l1 + (1 : Int32)) (lv' := [(1, .int (l1 + (1 : Int32))), (3, .int x4), (0, .ref l0), (2, .int l2)]) 2 rfl (pz_dc dX9_linesTold 28 rfl) rfl rfl (by decide) rfl ?_
      refine pz_iload_n (pc' := 49) (x := l2) 3 rfl (pz_dc dX9_linesTold 29 rfl) rfl ?_
      refine pz_bipush (pc' := 51) (v := 6) rfl (pz_dc dX9_linesTold 30 rfl) kb_6 ?_
      refine pz_iadd (pc' := 52) rfl (pz_dc dX9_linesTold 31 rfl) ?_
      refine pz_istore (pc' := 54) (lv' := [(4, .int (l2 + ((6 : Int32)))), (1, .int (l1 + (1 : Int32))), (3, .int x4), (0, .ref l0), (2, .int l2)]) rfl (pz_dc dX9_linesTold 32 rfl) (by decide) rfl ?_
      refine pz_aload_n (pc' := 55) (x := l0) 3 rfl (pz_dc dX9_linesTold 33 rfl) rfl ?_
      refine pz_getR (M := mX9_linesTold) hb fX9_10 (pc' := 58) rfl (pz_dc dX9_linesTold 34 rfl) (fun a5 hb => ?_)
      obtain ⟨⟨fs10, hf11⟩, hb⟩ := hb
      refine pz_callV (M := mX9_linesTold) (N := mX6_size) (d' := 0) (bc1 := 0) (bs1 := 0) (bc2 := bc) (bs2 := bs) (pc' := 61) [] vX9_89 rfl (pz_dc dX9_linesTold 35 rfl) rfl (Nat.le_of_ble_eq_true rfl) (Nat.le_of_ble_eq_true rfl) rfl (by omega) (by omega) (by omega) hf11 ?_
      refine pz_aload_n (pc' := 1) (x := a5) 0 rfl (pz_dc dX6_size 0 rfl) rfl ?_
      refine pz_getI (M := mX6_size) hb fX6_13 (pc' := 4) rfl (pz_dc dX6_size 1 rfl) (fun x6 hb => ?_)
      refine pz_iret (pz_dc dX6_size 2 rfl) rfl ?_
      show pz_V mX9_linesTold _ _ _ _ _ 61 [(4, .int (l2 + ((6 : Int32)))), (1, .int (l1 + (1 : Int32))), (3, .int x4), (0, .ref l0), (2, .int l2)] [.int x6] h3
      refine pz_iload (pc' := 63) (x := l2 + ((6 : Int32))) 0 rfl (pz_dc dX9_linesTold 36 rfl) rfl ?_
      refine pz_icmp_ne (pc' := 66) (tgt := 68) rfl (pz_dc dX9_linesTold 37 rfl) (by decide) (fun hc => ?_) (fun hc => ?_)
      · replace hb := hb.1 hc
        refine pz_aload_n (pc' := 69) (x := l0) 3 rfl (pz_dc dX9_linesTold 40 rfl) rfl ?_
        refine pz_getR (M := mX9_linesTold) hb fX9_10 (pc' := 72) rfl (pz_dc dX9_linesTold 41 rfl) (fun a7 hb => ?_)
        refine pz_iload (pc' := 74) (x := l2 + ((6 : Int32))) 0 rfl (pz_dc dX9_linesTold 42 rfl) rfl ?_
        refine pz_bipush (pc' := 76) (v := 41) rfl (pz_dc dX9_linesTold 43 rfl) kb_41 ?_
        refine pz_cVi (M := mX9_linesTold) (N := mX6_at) (d' := 0) (bc1 := 0) (bs1 := 0) (bc2 := bc) (bs2 := bs) (pc' := 79) [.int (l2 + ((6 : Int32))), .int 41] hb vX9_182 rfl (pz_dc dX9_linesTold 44 rfl) rfl (Nat.le_of_ble_eq_true rfl) (Nat.le_of_ble_eq_true rfl) rfl (by omega) (by omega) (by omega) (fun x9 h8 hb => ?_)
        refine pz_bipush (pc' := 81) (v := 59) rfl (pz_dc dX9_linesTold 45 rfl) kb_59 ?_
        refine pz_icmp_eq (pc' := 84) (tgt := 89) rfl (pz_dc dX9_linesTold 46 rfl) (by decide) (fun hc => ?_) (fun hc => ?_)
        · replace hb := hb.1 hc
          refine pz_iinc (pc' := 92) (x := l2) (v := l2 + (7 : Int32)) (lv' := [(2, .int (l2 + (7 : Int32))), (4, .int (l2 + ((6 : Int32)))), (1, .int (l1 + (1 : Int32))), (3, .int x4), (0, .ref l0)]) 4 rfl (pz_dc dX9_linesTold 51 rfl) rfl rfl (by decide) rfl ?_
          refine pz_goto (pc' := 16) (pz_dc dX9_linesTold 52 rfl) (by decide) ?_
          refine pz_lv (lv' := [(0, .ref l0), (1, .int (l1 + (1 : Int32))), (2, .int (l2 + (7 : Int32)))]) [4, 2, 0] rfl ?_
          exact hb
        · replace hb := hb.2 hc
          refine pz_iconst (pc' := 85) (v := (-1)) rfl (pz_dc dX9_linesTold 47 rfl) ki_m1 ?_
          refine pz_iload (pc' := 87) (x := l2 + ((6 : Int32))) 0 rfl (pz_dc dX9_linesTold 48 rfl) rfl ?_
          refine pz_isub (pc' := 88) rfl (pz_dc dX9_linesTold 49 rfl) ?_
          exact pz_iret (pz_dc dX9_linesTold 50 rfl) rfl hb
      · replace hb := hb.2 hc
        refine pz_iload_n (pc' := 67) (x := l1 + (1 : Int32)) 1 rfl (pz_dc dX9_linesTold 38 rfl) rfl ?_
        exact pz_iret (pz_dc dX9_linesTold 39 rfl) rfl hb
    · replace hb := hb.2 hc
      refine pz_iconst (pc' := 42) (v := (-1)) rfl (pz_dc dX9_linesTold 24 rfl) ki_m1 ?_
      refine pz_iload_n (pc' := 43) (x := x4) 0 rfl (pz_dc dX9_linesTold 25 rfl) rfl ?_
      refine pz_isub (pc' := 44) rfl (pz_dc dX9_linesTold 26 rfl) ?_
      exact pz_iret (pz_dc dX9_linesTold 27 rfl) rfl hb
set_option maxRecDepth 20000 in
set_option maxHeartbeats 4000000 in
theorem wX9_lineFault_0 {Ex : State → Nat → Prop} {Q : Option Value → pz_H → Prop} {d bc bs : Nat} {l0 : Nat} {l1 : Int32} {l2 : Int32}  {h : pz_H} (hD : 1 ≤ d) (hb : (l2 < ((6 : Int32)) → pz_V mX9_lineFault Ex Q d bc bs 13 [(0, .ref l0), (1, .int l1), (2, .int l2), (3, .int 1), (4, .int 0)] [] h) ∧ (¬ l2 < ((6 : Int32)) → Q (some (.int l1)) h)) : pz_V mX9_lineFault Ex Q d bc bs 0 [(0, .ref l0), (1, .int l1), (2, .int l2)] [] h := by
  refine pz_iload_n (pc' := 1) (x := l2) 2 rfl (pz_dc dX9_lineFault 0 rfl) rfl ?_
  refine pz_bipush (pc' := 3) (v := 6) rfl (pz_dc dX9_lineFault 1 rfl) kb_6 ?_
  refine pz_icmp_lt (pc' := 6) (tgt := 8) rfl (pz_dc dX9_lineFault 2 rfl) (by decide) (fun hc => ?_) (fun hc => ?_)
  · replace hb := hb.1 hc
    refine pz_iconst (pc' := 9) (v := 1) rfl (pz_dc dX9_lineFault 5 rfl) ki_1 ?_
    refine pz_istore_n (pc' := 10) (lv' := [(3, .int 1), (0, .ref l0), (1, .int l1), (2, .int l2)]) rfl (pz_dc dX9_lineFault 6 rfl) (by decide) rfl ?_
    refine pz_iconst (pc' := 11) (v := 0) rfl (pz_dc dX9_lineFault 7 rfl) ki_0 ?_
    refine pz_istore (pc' := 13) (lv' := [(4, .int 0), (3, .int 1), (0, .ref l0), (1, .int l1), (2, .int l2)]) rfl (pz_dc dX9_lineFault 8 rfl) (by decide) rfl ?_
    refine pz_lv (lv' := [(0, .ref l0), (1, .int l1), (2, .int l2), (3, .int 1), (4, .int 0)]) [2, 3, 4, 1, 0] rfl ?_
    exact hb
  · replace hb := hb.2 hc
    refine pz_iload_n (pc' := 7) (x := l1) 1 rfl (pz_dc dX9_lineFault 3 rfl) rfl ?_
    exact pz_iret (pz_dc dX9_lineFault 4 rfl) rfl hb
set_option maxRecDepth 20000 in
set_option maxHeartbeats 4000000 in
theorem wX9_lineFault_13 {Ex : State → Nat → Prop} {Q : Option Value → pz_H → Prop} {d bc bs : Nat} {l0 : Nat} {l1 : Int32} {l2 : Int32} {l3 : Int32} {l4 : Int32}  {h : pz_H} (hD : 1 ≤ d) (hb : (((6 : Int32)) ≤ l4 → Q (some (.int ((-1)))) h) ∧ (¬ ((6 : Int32)) ≤ l4 → pz_gR h l0 9 0 (fun (a1 : Nat) => pz_is h a1 6 ∧ (pz_ki mX6_at 0 0 0 (.ref a1 :: [.int (l1 + l4), .int 41]) h (fun (x3 : Int32) (h2 : pz_H) => (((2 : Int32)) ≤ l4 → (¬ l4 = ((4 : Int32)) → (¬ l4 = ((5 : Int32)) → (¬ (eX9_isDigit x3) = 0 → pz_V mX9_lineFault Ex Q d bc bs 13 [(0, .ref l0), (1, .int l1), (2, .int l2), (3, .int l3), (4, .int (l4 + (1 : Int32)))] [] h2) ∧ ((eX9_isDigit x3) = 0 → Q (some (.int (l1 + l4))) h2)) ∧ (l4 = ((5 : Int32)) → (x3 = ((45 : Int32)) → pz_V mX9_lineFault Ex Q d bc bs 13 [(0, .ref l0), (1, .int l1), (2, .int l2), (3, .int l3), (4, .int (l4 + (1 : Int32)))] [] h2) ∧ (¬ x3 = ((45 : Int32)) → ((eX9_isDigit x3) = 0 → Q (some (.int (l1 + l4))) h2) ∧ (¬ (eX9_isDigit x3) = 0 → (l2 ≤ (x3 - ((48 : Int32))) → Q (some (.int (l1 + l4))) h2) ∧ (¬ l2 ≤ (x3 - ((48 : Int32))) → pz_V mX9_lineFault Ex Q d bc bs 13 [(0, .ref l0), (1, .int l1), (2, .int l2), (3, .int l3), (4, .int (l4 + (1 : Int32)))] [] h2))))) ∧ (l4 = ((4 : Int32)) → (¬ (eX9_isKingSign x3) = 0 → pz_V mX9_lineFault Ex Q d bc bs 13 [(0, .ref l0), (1, .int l1), (2, .int l2), (3, .int l3), (4, .int (l4 + (1 : Int32)))] [] h2) ∧ ((eX9_isKingSign x3) = 0 → Q (some (.int (l1 + l4))) h2))) ∧ (¬ ((2 : Int32)) ≤ l4 → (l3 = 0 → pz_V mX9_lineFault Ex Q d bc bs 64 [(0, .ref l0), (1, .int l1), (2, .int l2), (4, .int l4), (6, .int (eX9_isDigit x3))] [.int 0] h2) ∧ (¬ l3 = 0 → (¬ x3 = ((48 : Int32)) → pz_V mX9_lineFault Ex Q d bc bs 64 [(0, .ref l0), (1, .int l1), (2, .int l2), (4, .int l4), (6, .int (eX9_isDigit x3))] [.int 0] h2) ∧ (x3 = ((48 : Int32)) → pz_V mX9_lineFault Ex Q d bc bs 64 [(0, .ref l0), (1, .int l1), (2, .int l2), (4, .int l4), (6, .int (eX9_isDigit x3))] [.int 1] h2)))))))) : pz_V mX9_lineFault Ex Q d bc bs 13 [(0, .ref l0), (1, .int l1), (2, .int l2), (3, .int l3), (4, .int l4)] [] h := by
  refine pz_iload (pc' := 15) (x := l4) 4 rfl (pz_dc dX9_lineFault 9 rfl) rfl ?_
  refine pz_bipush (pc' := 17) (v := 6) rfl (pz_dc dX9_lineFault 10 rfl) kb_6 ?_
  refine pz_icmp_ge (pc' := 20) (tgt := 156) rfl (pz_dc dX9_lineFault 11 rfl) (by decide) (fun hc => ?_) (fun hc => ?_)
  · replace hb := hb.1 hc
    refine pz_iconst (pc' := 157) (v := (-1)) rfl (pz_dc dX9_lineFault 79 rfl) ki_m1 ?_
    exact pz_iret (pz_dc dX9_lineFault 80 rfl) rfl hb
  · replace hb := hb.2 hc
    refine pz_aload_n (pc' := 21) (x := l0) 0 rfl (pz_dc dX9_lineFault 12 rfl) rfl ?_
    refine pz_getR (M := mX9_lineFault) hb fX9_10 (pc' := 24) rfl (pz_dc dX9_lineFault 13 rfl) (fun a1 hb => ?_)
    refine pz_iload_n (pc' := 25) (x := l1) 1 rfl (pz_dc dX9_lineFault 14 rfl) rfl ?_
    refine pz_iload (pc' := 27) (x := l4) 4 rfl (pz_dc dX9_lineFault 15 rfl) rfl ?_
    refine pz_iadd (pc' := 28) rfl (pz_dc dX9_lineFault 16 rfl) ?_
    refine pz_bipush (pc' := 30) (v := 41) rfl (pz_dc dX9_lineFault 17 rfl) kb_41 ?_
    refine pz_cVi (M := mX9_lineFault) (N := mX6_at) (d' := 0) (bc1 := 0) (bs1 := 0) (bc2 := bc) (bs2 := bs) (pc' := 33) [.int (l1 + l4), .int 41] hb vX9_182 rfl (pz_dc dX9_lineFault 18 rfl) rfl (Nat.le_of_ble_eq_true rfl) (Nat.le_of_ble_eq_true rfl) rfl (by omega) (by omega) (by omega) (fun x3 h2 hb => ?_)
    refine pz_istore (pc' := 35) (lv' := [(5, .int x3), (0, .ref l0), (1, .int l1), (2, .int l2), (3, .int l3), (4, .int l4)]) rfl (pz_dc dX9_lineFault 19 rfl) (by decide) rfl ?_
    refine pz_iload (pc' := 37) (x := x3) 0 rfl (pz_dc dX9_lineFault 20 rfl) rfl ?_
    refine pz_callS (M := mX9_lineFault) (N := mX9_isDigit) (d' := 0) (bc1 := 0) (bs1 := 0) (bc2 := bc) (bs2 := bs) (pc' := 40) [.int x3] sX9_355 rfl (pz_dc dX9_lineFault 21 rfl) rfl (Nat.le_of_ble_eq_true rfl) (Nat.le_of_ble_eq_true rfl) rfl (by omega) (by omega) (by omega) ?_
    refine cX9_isDigit ?_
    show pz_V mX9_lineFault _ _ _ _ _ 40 [(5, .int x3), (0, .ref l0), (1, .int l1), (2, .int l2), (3, .int l3), (4, .int l4)] [.int (eX9_isDigit x3)] h2
    refine pz_istore (pc' := 42) (lv' := [(6, .int (eX9_isDigit x3)), (5, .int x3), (0, .ref l0), (1, .int l1), (2, .int l2), (3, .int l3), (4, .int l4)]) rfl (pz_dc dX9_lineFault 22 rfl) (by decide) rfl ?_
    refine pz_iload (pc' := 44) (x := l4) 6 rfl (pz_dc dX9_lineFault 23 rfl) rfl ?_
    refine pz_iconst (pc' := 45) (v := 2) rfl (pz_dc dX9_lineFault 24 rfl) ki_2 ?_
    refine pz_icmp_ge (pc' := 48) (tgt := 90) rfl (pz_dc dX9_lineFault 25 rfl) (by decide) (fun hc => ?_) (fun hc => ?_)
    · replace hb := hb.1 hc
      refine pz_iload (pc' := 92) (x := l4) 6 rfl (pz_dc dX9_lineFault 47 rfl) rfl ?_
      refine pz_iconst (pc' := 93) (v := 4) rfl (pz_dc dX9_lineFault 48 rfl) ki_4 ?_
      refine pz_icmp_ne (pc' := 96) (tgt := 106) rfl (pz_dc dX9_lineFault 49 rfl) (by decide) (fun hc => ?_) (fun hc => ?_)
      · replace hb := hb.1 hc
        refine pz_iload (pc' := 108) (x := l4) 6 rfl (pz_dc dX9_lineFault 54 rfl) rfl ?_
        refine pz_iconst (pc' := 109) (v := 5) rfl (pz_dc dX9_lineFault 55 rfl) ki_5 ?_
        refine pz_icmp_ne (pc' := 112) (tgt := 140) rfl (pz_dc dX9_lineFault 56 rfl) (by decide) (fun hc => ?_) (fun hc => ?_)
        · replace hb := hb.1 hc
          refine pz_iload (pc' := 142) (x := eX9_isDigit x3) 0 rfl (pz_dc dX9_lineFault 71 rfl) rfl ?_
          refine pz_if_ne (pc' := 145) (tgt := 150) rfl (pz_dc dX9_lineFault 72 rfl) (by decide) (fun hc => ?_) (fun hc => ?_)
          · replace hb := hb.1 hc
            refine pz_iinc (pc' := 153) (x := l4) (v := l4 + (1 : Int32)) (lv' := [(4, .int (l4 + (1 : Int32))), (6, .int (eX9_isDigit x3)), (5, .int x3), (0, .ref l0), (1, .int l1), (2, .int l2), (3, .int l3)]) 6 rfl (pz_dc dX9_lineFault 77 rfl) rfl rfl (by decide) rfl ?_
            refine pz_goto (pc' := 13) (pz_dc dX9_lineFault 78 rfl) (by decide) ?_
            refine pz_lv (lv' := [(0, .ref l0), (1, .int l1), (2, .int l2), (3, .int l3), (4, .int (l4 + (1 : Int32)))]) [3, 4, 5, 6, 0] rfl ?_
            exact hb
          · replace hb := hb.2 hc
            refine pz_iload_n (pc' := 146) (x := l1) 3 rfl (pz_dc dX9_lineFault 73 rfl) rfl ?_
            refine pz_iload (pc' := 148) (x := l4) 6 rfl (pz_dc dX9_lineFault 74 rfl) rfl ?_
            refine pz_iadd (pc' := 149) rfl (pz_dc dX9_lineFault 75 rfl) ?_
            exact pz_iret (pz_dc dX9_lineFault 76 rfl) rfl hb
        · replace hb := hb.2 hc
          refine pz_iload (pc' := 114) (x := x3) 1 rfl (pz_dc dX9_lineFault 57 rfl) rfl ?_
          refine pz_bipush (pc' := 116) (v := 45) rfl (pz_dc dX9_lineFault 58 rfl) kb_45 ?_
          refine pz_icmp_eq (pc' := 119) (tgt := 133) rfl (pz_dc dX9_lineFault 59 rfl) (by decide) (fun hc => ?_) (fun hc => ?_)
          · replace hb := hb.1 hc
            refine pz_iconst (pc' := 134) (v := 1) rfl (pz_dc dX9_lineFault 67 rfl) ki_1 ?_
            refine pz_goto (pc' := 138) (pz_dc dX9_lineFault 68 rfl) (by decide) ?_
            refine pz_istore (pc' := 140) (lv' := [(6, .int 1), (5, .int x3), (0, .ref l0), (1, .int l1), (2, .int l2), (3, .int l3), (4, .int l4)]) rfl (pz_dc dX9_lineFault 70 rfl) (by decide) rfl ?_
            refine pz_iload (pc' := 142) (x := 1) 0 rfl (pz_dc dX9_lineFault 71 rfl) rfl ?_
            refine pz_if_ne (pc' := 145) (tgt := 150) rfl (pz_dc dX9_lineFault 72 rfl) (by decide) (fun _ => ?_) (fun hc => absurd hc (by decide))
            refine pz_iinc (pc' := 153) (x := l4) (v := l4 + (1 : Int32)) (lv' := [(4, .int (l4 + (1 : Int32))), (6, .int 1), (5, .int x3), (0, .ref l0), (1, .int l1), (2, .int l2), (3, .int l3)]) 6 rfl (pz_dc dX9_lineFault 77 rfl) rfl rfl (by decide) rfl ?_
            refine pz_goto (pc' := 13) (pz_dc dX9_lineFault 78 rfl) (by decide) ?_
            refine pz_lv (lv' := [(0, .ref l0), (1, .int l1), (2, .int l2), (3, .int l3), (4, .int (l4 + (1 : Int32)))]) [3, 4, 5, 6, 0] rfl ?_
            exact hb
          · replace hb := hb.2 hc
            refine pz_iload (pc' := 121) (x := eX9_isDigit x3) 0 rfl (pz_dc dX9_lineFault 60 rfl) rfl ?_
            refine pz_if_eq (pc' := 124) (tgt := 137) rfl (pz_dc dX9_lineFault 61 rfl) (by decide) (fun hc => ?_) (fun hc => ?_)
            · replace hb := hb.1 hc
              refine pz_iconst (pc' := 138) (v := 0) rfl (pz_dc dX9_lineFault 69 rfl) ki_0 ?_
              refine pz_istore (pc' := 140) (lv' := [(6, .int 0), (5, .int x3), (0, .ref l0), (1, .int l1), (2, .int l2), (3, .int l3), (4, .int l4)]) rfl (pz_dc dX9_lineFault 70 rfl) (by decide) rfl ?_
              refine pz_iload (pc' := 142) (x := 0) 0 rfl (pz_dc dX9_lineFault 71 rfl) rfl ?_
              refine pz_if_ne (pc' := 145) (tgt := 150) rfl (pz_dc dX9_lineFault 72 rfl) (by decide) (fun hc => absurd hc (by decide)) (fun _ => ?_)
              refine pz_iload_n (pc' := 146) (x := l1) 3 rfl (pz_dc dX9_lineFault 73 rfl) rfl ?_
              refine pz_iload (pc' := 148) (x := l4) 6 rfl (pz_dc dX9_lineFault 74 rfl) rfl ?_
              refine pz_iadd (pc' := 149) rfl (pz_dc dX9_lineFault 75 rfl) ?_
              exact pz_iret (pz_dc dX9_lineFault 76 rfl) rfl hb
            · replace hb := hb.2 hc
              refine pz_iload (pc' := 126) (x := x3) 1 rfl (pz_dc dX9_lineFault 62 rfl) rfl ?_
              refine pz_bipush (pc' := 128) (v := 48) rfl (pz_dc dX9_lineFault 63 rfl) kb_48 ?_
              refine pz_isub (pc' := 129) rfl (pz_dc dX9_lineFault 64 rfl) ?_
              refine pz_iload_n (pc' := 130) (x := l2) 4 rfl (pz_dc dX9_lineFault 65 rfl) rfl ?_
              refine pz_icmp_ge (pc' := 133) (tgt := 137) rfl (pz_dc dX9_lineFault 66 rfl) (by decide) (fun hc => ?_) (fun hc => ?_)
              · replace hb := hb.1 hc
                refine pz_iconst (pc' := 138) (v := 0) rfl (pz_dc dX9_lineFault 69 rfl) ki_0 ?_
                refine pz_istore (pc' := 140) (lv' := [(6, .int 0), (5, .int x3), (0, .ref l0), (1, .int l1), (2, .int l2), (3, .int l3), (4, .int l4)]) rfl (pz_dc dX9_lineFault 70 rfl) (by decide) rfl ?_
                refine pz_iload (pc' := 142) (x := 0) 0 rfl (pz_dc dX9_lineFault 71 rfl) rfl ?_
                refine pz_if_ne (pc' := 145) (tgt := 150) rfl (pz_dc dX9_lineFault 72 rfl) (by decide) (fun hc => absurd hc (by decide)) (fun _ => ?_)
                refine pz_iload_n (pc' := 146) (x := l1) 3 rfl (pz_dc dX9_lineFault 73 rfl) rfl ?_
                refine pz_iload (pc' := 148) (x := l4) 6 rfl (pz_dc dX9_lineFault 74 rfl) rfl ?_
                refine pz_iadd (pc' := 149) rfl (pz_dc dX9_lineFault 75 rfl) ?_
                exact pz_iret (pz_dc dX9_lineFault 76 rfl) rfl hb
              · replace hb := hb.2 hc
                refine pz_iconst (pc' := 134) (v := 1) rfl (pz_dc dX9_lineFault 67 rfl) ki_1 ?_
                refine pz_goto (pc' := 138) (pz_dc dX9_lineFault 68 rfl) (by decide) ?_
                refine pz_istore (pc' := 140) (lv' := [(6, .int 1), (5, .int x3), (0, .ref l0), (1, .int l1), (2, .int l2), (3, .int l3), (4, .int l4)]) rfl (pz_dc dX9_lineFault 70 rfl) (by decide) rfl ?_
                refine pz_iload (pc' := 142) (x := 1) 0 rfl (pz_dc dX9_lineFault 71 rfl) rfl ?_
                refine pz_if_ne (pc' := 145) (tgt := 150) rfl (pz_dc dX9_lineFault 72 rfl) (by decide) (fun _ => ?_) (fun hc => absurd hc (by decide))
                refine pz_iinc (pc' := 153) (x := l4) (v := l4 + (1 : Int32)) (lv' := [(4, .int (l4 + (1 : Int32))), (6, .int 1), (5, .int x3), (0, .ref l0), (1, .int l1), (2, .int l2), (3, .int l3)]) 6 rfl (pz_dc dX9_lineFault 77 rfl) rfl rfl (by decide) rfl ?_
                refine pz_goto (pc' := 13) (pz_dc dX9_lineFault 78 rfl) (by decide) ?_
                refine pz_lv (lv' := [(0, .ref l0), (1, .int l1), (2, .int l2), (3, .int l3), (4, .int (l4 + (1 : Int32)))]) [3, 4, 5, 6, 0] rfl ?_
                exact hb
      · replace hb := hb.2 hc
        refine pz_iload (pc' := 98) (x := x3) 1 rfl (pz_dc dX9_lineFault 50 rfl) rfl ?_
        refine pz_callS (M := mX9_lineFault) (N := mX9_isKingSign) (d' := 0) (bc1 := 0) (bs1 := 0) (bc2 := bc) (bs2 := bs) (pc' := 101) [.int x3] sX9_358 rfl (pz_dc dX9_lineFault 51 rfl) rfl (Nat.le_of_ble_eq_true rfl) (Nat.le_of_ble_eq_true rfl) rfl (by omega) (by omega) (by omega) ?_
        refine cX9_isKingSign ?_
        show pz_V mX9_lineFault _ _ _ _ _ 101 [(6, .int (eX9_isDigit x3)), (5, .int x3), (0, .ref l0), (1, .int l1), (2, .int l2), (3, .int l3), (4, .int l4)] [.int (eX9_isKingSign x3)] h2
        refine pz_istore (pc' := 103) (lv' := [(6, .int (eX9_isKingSign x3)), (5, .int x3), (0, .ref l0), (1, .int l1), (2, .int l2), (3, .int l3), (4, .int l4)]) rfl (pz_dc dX9_lineFault 52 rfl) (by decide) rfl ?_
        refine pz_goto (pc' := 140) (pz_dc dX9_lineFault 53 rfl) (by decide) ?_
        refine pz_iload (pc' := 142) (x := eX9_isKingSign x3) 0 rfl (pz_dc dX9_lineFault 71 rfl) rfl ?_
        refine pz_if_ne (pc' := 145) (tgt := 150) rfl (pz_dc dX9_lineFault 72 rfl) (by decide) (fun hc => ?_) (fun hc => ?_)
        · replace hb := hb.1 hc
          refine pz_iinc (pc' := 153) (x := l4) (v := l4 + (1 : Int32)) (lv' := [(4, .int (l4 + (1 : Int32))), (6, .int (eX9_isKingSign x3)), (5, .int x3), (0, .ref l0), (1, .int l1), (2, .int l2), (3, .int l3)]) 6 rfl (pz_dc dX9_lineFault 77 rfl) rfl rfl (by decide) rfl ?_
          refine pz_goto (pc' := 13) (pz_dc dX9_lineFault 78 rfl) (by decide) ?_
          refine pz_lv (lv' := [(0, .ref l0), (1, .int l1), (2, .int l2), (3, .int l3), (4, .int (l4 + (1 : Int32)))]) [3, 4, 5, 6, 0] rfl ?_
          exact hb
        · replace hb := hb.2 hc
          refine pz_iload_n (pc' := 146) (x := l1) 3 rfl (pz_dc dX9_lineFault 73 rfl) rfl ?_
          refine pz_iload (pc' := 148) (x := l4) 6 rfl (pz_dc dX9_lineFault 74 rfl) rfl ?_
          refine pz_iadd (pc' := 149) rfl (pz_dc dX9_lineFault 75 rfl) ?_
          exact pz_iret (pz_dc dX9_lineFault 76 rfl) rfl hb
    · replace hb := hb.2 hc
      refine pz_iload_n (pc' := 49) (x := l3) 5 rfl (pz_dc dX9_lineFault 26 rfl) rfl ?_
      refine pz_if_eq (pc' := 52) (tgt := 63) rfl (pz_dc dX9_lineFault 27 rfl) (by decide) (fun hc => ?_) (fun hc => ?_)
      · replace hb := hb.1 hc
        refine pz_iconst (pc' := 64) (v := 0) rfl (pz_dc dX9_lineFault 33 rfl) ki_0 ?_
        refine pz_lv (lv' := [(0, .ref l0), (1, .int l1), (2, .int l2), (4, .int l4), (6, .int (eX9_isDigit x3))]) [2, 3, 4, 6, 0] rfl ?_
        exact hb
      · replace hb := hb.2 hc
        refine pz_iload (pc' := 54) (x := x3) 1 rfl (pz_dc dX9_lineFault 28 rfl) rfl ?_
        refine pz_bipush (pc' := 56) (v := 48) rfl (pz_dc dX9_lineFault 29 rfl) kb_48 ?_
        refine pz_icmp_ne (pc' := 59) (tgt := 63) rfl (pz_dc dX9_lineFault 30 rfl) (by decide) (fun hc => ?_) (fun hc => ?_)
        · replace hb := hb.1 hc
          refine pz_iconst (pc' := 64) (v := 0) rfl (pz_dc dX9_lineFault 33 rfl) ki_0 ?_
          refine pz_lv (lv' := [(0, .ref l0), (1, .int l1), (2, .int l2), (4, .int l4), (6, .int (eX9_isDigit x3))]) [2, 3, 4, 6, 0] rfl ?_
          exact hb
        · replace hb := hb.2 hc
          refine pz_iconst (pc' := 60) (v := 1) rfl (pz_dc dX9_lineFault 31 rfl) ki_1 ?_
          refine pz_goto (pc' := 64) (pz_dc dX9_lineFault 32 rfl) (by decide) ?_
          refine pz_lv (lv' := [(0, .ref l0), (1, .int l1), (2, .int l2), (4, .int l4), (6, .int (eX9_isDigit x3))]) [2, 3, 4, 6, 0] rfl ?_
          exact hb
set_option maxRecDepth 20000 in
set_option maxHeartbeats 4000000 in
theorem wX9_lineFault_64 {Ex : State → Nat → Prop} {Q : Option Value → pz_H → Prop} {d bc bs : Nat} {l0 : Nat} {l1 : Int32} {l2 : Int32} {l4 : Int32} {l6 : Int32} {s0 : Int32} {h : pz_H} (hD : 1 ≤ d) (hb : (l6 = 0 → Q (some (.int (l1 + l4))) h) ∧ (¬ l6 = 0 → (¬ l4 = ((1 : Int32)) → pz_V mX9_lineFault Ex Q d bc bs 13 [(0, .ref l0), (1, .int l1), (2, .int l2), (3, .int s0), (4, .int (l4 + (1 : Int32)))] [] h) ∧ (l4 = ((1 : Int32)) → (¬ s0 = 0 → Q (some (.int (l1 + l4))) h) ∧ (s0 = 0 → pz_V mX9_lineFault Ex Q d bc bs 13 [(0, .ref l0), (1, .int l1), (2, .int l2), (3, .int s0), (4, .int (l4 + (1 : Int32)))] [] h)))) : pz_V mX9_lineFault Ex Q d bc bs 64 [(0, .ref l0), (1, .int l1), (2, .int l2), (4, .int l4), (6, .int l6)] [.int s0] h := by
  refine pz_istore_n (pc' := 65) (lv' := [(3, .int s0), (0, .ref l0), (1, .int l1), (2, .int l2), (4, .int l4), (6, .int l6)]) rfl (pz_dc dX9_lineFault 34 rfl) (by decide) rfl ?_
  refine pz_iload (pc' := 67) (x := l6) 5 rfl (pz_dc dX9_lineFault 35 rfl) rfl ?_
  refine pz_if_eq (pc' := 70) (tgt := 84) rfl (pz_dc dX9_lineFault 36 rfl) (by decide) (fun hc => ?_) (fun hc => ?_)
  · replace hb := hb.1 hc
    refine pz_iconst (pc' := 85) (v := 0) rfl (pz_dc dX9_lineFault 44 rfl) ki_0 ?_
    refine pz_istore (pc' := 87) (lv' := [(6, .int 0), (3, .int s0), (0, .ref l0), (1, .int l1), (2, .int l2), (4, .int l4)]) rfl (pz_dc dX9_lineFault 45 rfl) (by decide) rfl ?_
    refine pz_goto (pc' := 140) (pz_dc dX9_lineFault 46 rfl) (by decide) ?_
    refine pz_iload (pc' := 142) (x := 0) 0 rfl (pz_dc dX9_lineFault 71 rfl) rfl ?_
    refine pz_if_ne (pc' := 145) (tgt := 150) rfl (pz_dc dX9_lineFault 72 rfl) (by decide) (fun hc => absurd hc (by decide)) (fun _ => ?_)
    refine pz_iload_n (pc' := 146) (x := l1) 3 rfl (pz_dc dX9_lineFault 73 rfl) rfl ?_
    refine pz_iload (pc' := 148) (x := l4) 5 rfl (pz_dc dX9_lineFault 74 rfl) rfl ?_
    refine pz_iadd (pc' := 149) rfl (pz_dc dX9_lineFault 75 rfl) ?_
    exact pz_iret (pz_dc dX9_lineFault 76 rfl) rfl hb
  · replace hb := hb.2 hc
    refine pz_iload (pc' := 72) (x := l4) 4 rfl (pz_dc dX9_lineFault 37 rfl) rfl ?_
    refine pz_iconst (pc' := 73) (v := 1) rfl (pz_dc dX9_lineFault 38 rfl) ki_1 ?_
    refine pz_icmp_ne (pc' := 76) (tgt := 80) rfl (pz_dc dX9_lineFault 39 rfl) (by decide) (fun hc => ?_) (fun hc => ?_)
    · replace hb := hb.1 hc
      refine pz_iconst (pc' := 81) (v := 1) rfl (pz_dc dX9_lineFault 42 rfl) ki_1 ?_
      refine pz_goto (pc' := 85) (pz_dc dX9_lineFault 43 rfl) (by decide) ?_
      refine pz_istore (pc' := 87) (lv' := [(6, .int 1), (3, .int s0), (0, .ref l0), (1, .int l1), (2, .int l2), (4, .int l4)]) rfl (pz_dc dX9_lineFault 45 rfl) (by decide) rfl ?_
      refine pz_goto (pc' := 140) (pz_dc dX9_lineFault 46 rfl) (by decide) ?_
      refine pz_iload (pc' := 142) (x := 1) 0 rfl (pz_dc dX9_lineFault 71 rfl) rfl ?_
      refine pz_if_ne (pc' := 145) (tgt := 150) rfl (pz_dc dX9_lineFault 72 rfl) (by decide) (fun _ => ?_) (fun hc => absurd hc (by decide))
      refine pz_iinc (pc' := 153) (x := l4) (v := l4 + (1 : Int32)) (lv' := [(4, .int (l4 + (1 : Int32))), (6, .int 1), (3, .int s0), (0, .ref l0), (1, .int l1), (2, .int l2)]) 5 rfl (pz_dc dX9_lineFault 77 rfl) rfl rfl (by decide) rfl ?_
      refine pz_goto (pc' := 13) (pz_dc dX9_lineFault 78 rfl) (by decide) ?_
      refine pz_lv (lv' := [(0, .ref l0), (1, .int l1), (2, .int l2), (3, .int s0), (4, .int (l4 + (1 : Int32)))]) [3, 4, 5, 2, 0] rfl ?_
      exact hb
    · replace hb := hb.2 hc
      refine pz_iload_n (pc' := 77) (x := s0) 0 rfl (pz_dc dX9_lineFault 40 rfl) rfl ?_
      refine pz_if_ne (pc' := 80) (tgt := 84) rfl (pz_dc dX9_lineFault 41 rfl) (by decide) (fun hc => ?_) (fun hc => ?_)
      · replace hb := hb.1 hc
        refine pz_iconst (pc' := 85) (v := 0) rfl (pz_dc dX9_lineFault 44 rfl) ki_0 ?_
        refine pz_istore (pc' := 87) (lv' := [(6, .int 0), (3, .int s0), (0, .ref l0), (1, .int l1), (2, .int l2), (4, .int l4)]) rfl (pz_dc dX9_lineFault 45 rfl) (by decide) rfl ?_
        refine pz_goto (pc' := 140) (pz_dc dX9_lineFault 46 rfl) (by decide) ?_
        refine pz_iload (pc' := 142) (x := 0) 0 rfl (pz_dc dX9_lineFault 71 rfl) rfl ?_
        refine pz_if_ne (pc' := 145) (tgt := 150) rfl (pz_dc dX9_lineFault 72 rfl) (by decide) (fun hc => absurd hc (by decide)) (fun _ => ?_)
        refine pz_iload_n (pc' := 146) (x := l1) 3 rfl (pz_dc dX9_lineFault 73 rfl) rfl ?_
        refine pz_iload (pc' := 148) (x := l4) 5 rfl (pz_dc dX9_lineFault 74 rfl) rfl ?_
        refine pz_iadd (pc' := 149) rfl (pz_dc dX9_lineFault 75 rfl) ?_
        exact pz_iret (pz_dc dX9_lineFault 76 rfl) rfl hb
      · replace hb := hb.2 hc
        refine pz_iconst (pc' := 81) (v := 1) rfl (pz_dc dX9_lineFault 42 rfl) ki_1 ?_
        refine pz_goto (pc' := 85) (pz_dc dX9_lineFault 43 rfl) (by decide) ?_
        refine pz_istore (pc' := 87) (lv' := [(6, .int 1), (3, .int s0), (0, .ref l0), (1, .int l1), (2, .int l2), (4, .int l4)]) rfl (pz_dc dX9_lineFault 45 rfl) (by decide) rfl ?_
        refine pz_goto (pc' := 140) (pz_dc dX9_lineFault 46 rfl) (by decide) ?_
        refine pz_iload (pc' := 142) (x := 1) 0 rfl (pz_dc dX9_lineFault 71 rfl) rfl ?_
        refine pz_if_ne (pc' := 145) (tgt := 150) rfl (pz_dc dX9_lineFault 72 rfl) (by decide) (fun _ => ?_) (fun hc => absurd hc (by decide))
        refine pz_iinc (pc' := 153) (x := l4) (v := l4 + (1 : Int32)) (lv' := [(4, .int (l4 + (1 : Int32))), (6, .int 1), (3, .int s0), (0, .ref l0), (1, .int l1), (2, .int l2)]) 5 rfl (pz_dc dX9_lineFault 77 rfl) rfl rfl (by decide) rfl ?_
        refine pz_goto (pc' := 13) (pz_dc dX9_lineFault 78 rfl) (by decide) ?_
        refine pz_lv (lv' := [(0, .ref l0), (1, .int l1), (2, .int l2), (3, .int s0), (4, .int (l4 + (1 : Int32)))]) [3, 4, 5, 2, 0] rfl ?_
        exact hb
set_option maxRecDepth 20000 in
set_option maxHeartbeats 4000000 in
theorem wX9_addLake_0 {Ex : State → Nat → Prop} {Q : Option Value → pz_H → Prop} {d bc bs : Nat} {l0 : Nat} {l1 : Int32}  {h : pz_H} (hD : 2 ≤ d) (hb : pz_gR h l0 9 2 (fun (a1 : Nat) => pz_is h a1 1 ∧ (pz_gI h a1 1 4 (fun (x2 : Int32) => (x2 < ((6 : Int32)) → pz_is h l0 9 ∧ (pz_ki mX9_digitAt 1 0 0 (.ref l0 :: [.int l1]) h (fun (x4 : Int32) (h3 : pz_H) => pz_is h3 l0 9 ∧ (pz_ki mX9_digitAt 1 0 0 (.ref l0 :: [.int (l1 + ((1 : Int32)))]) h3 (fun (x6 : Int32) (h5 : pz_H) => pz_gR h5 l0 9 0 (fun (a7 : Nat) => pz_is h5 a7 6 ∧ (pz_ki mX6_at 0 0 0 (.ref a7 :: [.int (l1 + ((5 : Int32))), .int 41]) h5 (fun (x9 : Int32) (h8 : pz_H) => pz_gR h8 l0 9 3 (fun (a10 : Nat) => pz_gR h8 a10 8 2 (fun (a11 : Nat) => pz_is h8 l0 9 ∧ (pz_ki mX9_digitAt 1 0 0 (.ref l0 :: [.int (l1 + ((2 : Int32)))]) h8 (fun (x13 : Int32) (h12 : pz_H) => pz_sI h12 a11 x2 x13 (fun (h14 : pz_H) => pz_gR h14 l0 9 3 (fun (a15 : Nat) => pz_gR h14 a15 8 3 (fun (a16 : Nat) => pz_is h14 l0 9 ∧ (pz_ki mX9_digitAt 1 0 0 (.ref l0 :: [.int (l1 + ((3 : Int32)))]) h14 (fun (x18 : Int32) (h17 : pz_H) => pz_sI h17 a16 x2 x18 (fun (h19 : pz_H) => pz_gR h19 l0 9 3 (fun (a20 : Nat) => pz_gR h19 a20 8 4 (fun (a21 : Nat) => pz_gR h19 l0 9 0 (fun (a22 : Nat) => pz_is h19 a22 6 ∧ (pz_ki mX6_at 0 0 0 (.ref a22 :: [.int (l1 + ((4 : Int32))), .int 41]) h19 (fun (x24 : Int32) (h23 : pz_H) => pz_sI h23 a21 x2 (x24 - ((97 : Int32))) (fun (h25 : pz_H) => pz_gR h25 l0 9 3 (fun (a26 : Nat) => pz_gR h25 a26 8 0 (fun (a27 : Nat) => pz_sI h25 a27 x2 ((((10 : Int32)) * x4) + x6) (fun (h28 : pz_H) => pz_gR h28 l0 9 3 (fun (a29 : Nat) => pz_gR h28 a29 8 1 (fun (a30 : Nat) => pz_sI h28 a30 x2 0 (fun (h31 : pz_H) => pz_gR h31 l0 9 2 (fun (a32 : Nat) => (¬ x9 = ((45 : Int32)) → pz_is h31 a32 1 ∧ (pz_kv mX1_add 0 0 0 (.ref a32 :: [.int ((((10 : Int32)) * x4) + x6), .int (x9 - ((48 : Int32)))]) h31 (fun (h33 : pz_H) => Q none h33))) ∧ (x9 = ((45 : Int32)) → pz_is h31 a32 1 ∧ (pz_kv mX1_add 0 0 0 (.ref a32 :: [.int ((((10 : Int32)) * x4) + x6), .int ((-1))]) h31 (fun (h34 : pz_H) => Q none h34)))))))))))))))))))))))))))))))))) ∧ (¬ x2 < ((6 : Int32)) → Q none h))))) : pz_V mX9_addLake Ex Q d bc bs 0 [(0, .ref l0), (1, .int l1)] [] h := by
  refine pz_aload_n (pc' := 1) (x := l0) 0 rfl (pz_dc dX9_addLake 0 rfl) rfl ?_
  refine pz_getR (M := mX9_addLake) hb fX9_26 (pc' := 4) rfl (pz_dc dX9_addLake 1 rfl) (fun a1 hb => ?_)
  obtain ⟨⟨fs35, hf36⟩, hb⟩ := hb
  refine pz_callV (M := mX9_addLake) (N := mX1_size) (d' := 0) (bc1 := 0) (bs1 := 0) (bc2 := bc) (bs2 := bs) (pc' := 7) [] vX9_208 rfl (pz_dc dX9_addLake 2 rfl) rfl (Nat.le_of_ble_eq_true rfl) (Nat.le_of_ble_eq_true rfl) rfl (by omega) (by omega) (by omega) hf36 ?_
  refine pz_aload_n (pc' := 1) (x := a1) 0 rfl (pz_dc dX1_size 0 rfl) rfl ?_
  refine pz_getI (M := mX1_size) hb fX1_24 (pc' := 4) rfl (pz_dc dX1_size 1 rfl) (fun x2 hb => ?_)
  refine pz_iret (pz_dc dX1_size 2 rfl) rfl ?_
  show pz_V mX9_addLake _ _ _ _ _ 7 [(0, .ref l0), (1, .int l1)] [.int x2] h
  refine pz_istore_n (pc' := 8) (lv' := [(2, .int x2), (0, .ref l0), (1, .int l1)]) rfl (pz_dc dX9_addLake 3 rfl) (by decide) rfl ?_
  refine pz_iload_n (pc' := 9) (x := x2) 0 rfl (pz_dc dX9_addLake 4 rfl) rfl ?_
  refine pz_bipush (pc' := 11) (v := 6) rfl (pz_dc dX9_addLake 5 rfl) kb_6 ?_
  refine pz_icmp_lt (pc' := 14) (tgt := 15) rfl (pz_dc dX9_addLake 6 rfl) (by decide) (fun hc => ?_) (fun hc => ?_)
  · replace hb := hb.1 hc
    refine pz_bipush (pc' := 17) (v := 10) rfl (pz_dc dX9_addLake 8 rfl) kb_10 ?_
    refine pz_aload_n (pc' := 18) (x := l0) 1 rfl (pz_dc dX9_addLake 9 rfl) rfl ?_
    refine pz_iload_n (pc' := 19) (x := l1) 2 rfl (pz_dc dX9_addLake 10 rfl) rfl ?_
    refine pz_cVi (M := mX9_addLake) (N := mX9_digitAt) (d' := 1) (bc1 := 0) (bs1 := 0) (bc2 := bc) (bs2 := bs) (pc' := 22) [.int l1] hb vX9_361 rfl (pz_dc dX9_addLake 11 rfl) rfl (Nat.le_of_ble_eq_true rfl) (Nat.le_of_ble_eq_true rfl) rfl (by omega) (by omega) (by omega) (fun x4 h3 hb => ?_)
    refine pz_imul (pc' := 23) rfl (pz_dc dX9_addLake 12 rfl) ?_
    refine pz_aload_n (pc' := 24) (x := l0) 1 rfl (pz_dc dX9_addLake 13 rfl) rfl ?_
    refine pz_iload_n (pc' := 25) (x := l1) 2 rfl (pz_dc dX9_addLake 14 rfl) rfl ?_
    refine pz_iconst (pc' := 26) (v := 1) rfl (pz_dc dX9_addLake 15 rfl) ki_1 ?_
    refine pz_iadd (pc' := 27) rfl (pz_dc dX9_addLake 16 rfl) ?_
    refine pz_cVi (M := mX9_addLake) (N := mX9_digitAt) (d' := 1) (bc1 := 0) (bs1 := 0) (bc2 := bc) (bs2 := bs) (pc' := 30) [.int (l1 + ((1 : Int32)))] hb vX9_361 rfl (pz_dc dX9_addLake 17 rfl) rfl (Nat.le_of_ble_eq_true rfl) (Nat.le_of_ble_eq_true rfl) rfl (by omega) (by omega) (by omega) (fun x6 h5 hb => ?_)
    refine pz_iadd (pc' := 31) rfl (pz_dc dX9_addLake 18 rfl) ?_
    refine pz_istore_n (pc' := 32) (lv' := [(3, .int ((((10 : Int32)) * x4) + x6)), (2, .int x2), (0, .ref l0), (1, .int l1)]) rfl (pz_dc dX9_addLake 19 rfl) (by decide) rfl ?_
    refine pz_aload_n (pc' := 33) (x := l0) 2 rfl (pz_dc dX9_addLake 20 rfl) rfl ?_
    refine pz_getR (M := mX9_addLake) hb fX9_10 (pc' := 36) rfl (pz_dc dX9_addLake 21 rfl) (fun a7 hb => ?_)
    refine pz_iload_n (pc' := 37) (x := l1) 3 rfl (pz_dc dX9_addLake 22 rfl) rfl ?_
    refine pz_iconst (pc' := 38) (v := 5) rfl (pz_dc dX9_addLake 23 rfl) ki_5 ?_
    refine pz_iadd (pc' := 39) rfl (pz_dc dX9_addLake 24 rfl) ?_
    refine pz_bipush (pc' := 41) (v := 41) rfl (pz_dc dX9_addLake 25 rfl) kb_41 ?_
    refine pz_cVi (M := mX9_addLake) (N := mX6_at) (d' := 0) (bc1 := 0) (bs1 := 0) (bc2 := bc) (bs2 := bs) (pc' := 44) [.int (l1 + ((5 : Int32))), .int 41] hb vX9_182 rfl (pz_dc dX9_addLake 26 rfl) rfl (Nat.le_of_ble_eq_true rfl) (Nat.le_of_ble_eq_true rfl) rfl (by omega) (by omega) (by omega) (fun x9 h8 hb => ?_)
    refine pz_istore (pc' := 46) (lv' := [(4, .int x9), (3, .int ((((10 : Int32)) * x4) + x6)), (2, .int x2), (0, .ref l0), (1, .int l1)]) rfl (pz_dc dX9_addLake 27 rfl) (by decide) rfl ?_
    refine pz_aload_n (pc' := 47) (x := l0) 3 rfl (pz_dc dX9_addLake 28 rfl) rfl ?_
    refine pz_getR (M := mX9_addLake) hb fX9_33 (pc' := 50) rfl (pz_dc dX9_addLake 29 rfl) (fun a10 hb => ?_)
    refine pz_getR (M := mX9_addLake) hb fX9_124 (pc' := 53) rfl (pz_dc dX9_addLake 30 rfl) (fun a11 hb => ?_)
    refine pz_iload_n (pc' := 54) (x := x2) 2 rfl (pz_dc dX9_addLake 31 rfl) rfl ?_
    refine pz_aload_n (pc' := 55) (x := l0) 3 rfl (pz_dc dX9_addLake 32 rfl) rfl ?_
    refine pz_iload_n (pc' := 56) (x := l1) 4 rfl (pz_dc dX9_addLake 33 rfl) rfl ?_
    refine pz_iconst (pc' := 57) (v := 2) rfl (pz_dc dX9_addLake 34 rfl) ki_2 ?_
    refine pz_iadd (pc' := 58) rfl (pz_dc dX9_addLake 35 rfl) ?_
    refine pz_cVi (M := mX9_addLake) (N := mX9_digitAt) (d' := 1) (bc1 := 0) (bs1 := 0) (bc2 := bc) (bs2 := bs) (pc' := 61) [.int (l1 + ((2 : Int32)))] hb vX9_361 rfl (pz_dc dX9_addLake 36 rfl) rfl (Nat.le_of_ble_eq_true rfl) (Nat.le_of_ble_eq_true rfl) rfl (by omega) (by omega) (by omega) (fun x13 h12 hb => ?_)
    refine pz_stI hb (pc' := 62) rfl (pz_dc dX9_addLake 37 rfl) (fun h14 hb => ?_)
    refine pz_aload_n (pc' := 63) (x := l0) 3 rfl (pz_dc dX9_addLake 38 rfl) rfl ?_
    refine pz_getR (M := mX9_addLake) hb fX9_33 (pc' := 66) rfl (pz_dc dX9_addLake 39 rfl) (fun a15 hb => ?_)
    refine pz_getR (M := mX9_addLake) hb fX9_127 (pc' := 69) rfl (pz_dc dX9_addLake 40 rfl) (fun a16 hb => ?_)
    refine pz_iload_n (pc' := 70) (x := x2) 2 rfl (pz_dc dX9_addLake 41 rfl) rfl ?_
    refine pz_aload_n (pc' := 71) (x := l0) 3 rfl (pz_dc dX9_addLake 42 rfl) rfl ?_
    refine pz_iload_n (pc' := 72) (x := l1) 4 rfl (pz_dc dX9_addLake 43 rfl) rfl ?_
    refine pz_iconst (pc' := 73) (v := 3) rfl (pz_dc dX9_addLake 44 rfl) ki_3 ?_
    refine pz_iadd (pc' := 74) rfl (pz_dc dX9_addLake 45 rfl) ?_
    refine pz_cVi (M := mX9_addLake) (N := mX9_digitAt) (d' := 1) (bc1 := 0) (bs1 := 0) (bc2 := bc) (bs2 := bs) (pc' := 77) [.int (l1 + ((3 : Int32)))] hb vX9_361 rfl (pz_dc dX9_addLake 46 rfl) rfl (Nat.le_of_ble_eq_true rfl) (Nat.le_of_ble_eq_true rfl) rfl (by omega) (by omega) (by omega) (fun x18 h17 hb => ?_)
    refine pz_stI hb (pc' := 78) rfl (pz_dc dX9_addLake 47 rfl) (fun h19 hb => ?_)
    refine pz_aload_n (pc' := 79) (x := l0) 3 rfl (pz_dc dX9_addLake 48 rfl) rfl ?_
    refine pz_getR (M := mX9_addLake) hb fX9_33 (pc' := 82) rfl (pz_dc dX9_addLake 49 rfl) (fun a20 hb => ?_)
    refine pz_getR (M := mX9_addLake) hb fX9_130 (pc' := 85) rfl (pz_dc dX9_addLake 50 rfl) (fun a21 hb => ?_)
    refine pz_iload_n (pc' := 86) (x := x2) 2 rfl (pz_dc dX9_addLake 51 rfl) rfl ?_
    refine pz_aload_n (pc' := 87) (x := l0) 3 rfl (pz_dc dX9_addLake 52 rfl) rfl ?_
    refine pz_getR (M := mX9_addLake) hb fX9_10 (pc' := 90) rfl (pz_dc dX9_addLake 53 rfl) (fun a22 hb => ?_)
    refine pz_iload_n (pc' := 91) (x := l1) 4 rfl (pz_dc dX9_addLake 54 rfl) rfl ?_
    refine pz_iconst (pc' := 92) (v := 4) rfl (pz_dc dX9_addLake 55 rfl) ki_4 ?_
    refine pz_iadd (pc' := 93) rfl (pz_dc dX9_addLake 56 rfl) ?_
    refine pz_bipush (pc' := 95) (v := 41) rfl (pz_dc dX9_addLake 57 rfl) kb_41 ?_
    refine pz_cVi (M := mX9_addLake) (N := mX6_at) (d' := 0) (bc1 := 0) (bs1 := 0) (bc2 := bc) (bs2 := bs) (pc' := 98) [.int (l1 + ((4 : Int32))), .int 41] hb vX9_182 rfl (pz_dc dX9_addLake 58 rfl) rfl (Nat.le_of_ble_eq_true rfl) (Nat.le_of_ble_eq_true rfl) rfl (by omega) (by omega) (by omega) (fun x24 h23 hb => ?_)
    refine pz_bipush (pc' := 100) (v := 97) rfl (pz_dc dX9_addLake 59 rfl) kb_97 ?_
    refine pz_isub (pc' := 101) rfl (pz_dc dX9_addLake 60 rfl) ?_
    refine pz_stI hb (pc' := 102) rfl (pz_dc dX9_addLake 61 rfl) (fun h25 hb => ?_)
    refine pz_aload_n (pc' := 103) (x := l0) 3 rfl (pz_dc dX9_addLake 62 rfl) rfl ?_
    refine pz_getR (M := mX9_addLake) hb fX9_33 (pc' := 106) rfl (pz_dc dX9_addLake 63 rfl) (fun a26 hb => ?_)
    refine pz_getR (M := mX9_addLake) hb fX9_136 (pc' := 109) rfl (pz_dc dX9_addLake 64 rfl) (fun a27 hb => ?_)
    refine pz_iload_n (pc' := 110) (x := x2) 2 rfl (pz_dc dX9_addLake 65 rfl) rfl ?_
    refine pz_iload_n (pc' := 111) (x := (((10 : Int32)) * x4) + x6) 1 rfl (pz_dc dX9_addLake 66 rfl) rfl ?_
    refine pz_stI hb (pc' := 112) rfl (pz_dc dX9_addLake 67 rfl) (fun h28 hb => ?_)
    refine pz_aload_n (pc' := 113) (x := l0) 3 rfl (pz_dc dX9_addLake 68 rfl) rfl ?_
    refine pz_getR (M := mX9_addLake) hb fX9_33 (pc' := 116) rfl (pz_dc dX9_addLake 69 rfl) (fun a29 hb => ?_)
    refine pz_getR (M := mX9_addLake) hb fX9_142 (pc' := 119) rfl (pz_dc dX9_addLake 70 rfl) (fun a30 hb => ?_)
    refine pz_iload_n (pc' := 120) (x := x2) 2 rfl (pz_dc dX9_addLake 71 rfl) rfl ?_
    refine pz_iconst (pc' := 121) (v := 0) rfl (pz_dc dX9_addLake 72 rfl) ki_0 ?_
    refine pz_stI hb (pc' := 122) rfl (pz_dc dX9_addLake 73 rfl) (fun h31 hb => ?_)
    refine pz_aload_n (pc' := 123) (x := l0) 3 rfl (pz_dc dX9_addLake 74 rfl) rfl ?_
    refine pz_getR (M := mX9_addLake) hb fX9_26 (pc' := 126) rfl (pz_dc dX9_addLake 75 rfl) (fun a32 hb => ?_)
    refine pz_iload_n (pc' := 127) (x := (((10 : Int32)) * x4) + x6) 1 rfl (pz_dc dX9_addLake 76 rfl) rfl ?_
    refine pz_iload (pc' := 129) (x := x9) 0 rfl (pz_dc dX9_addLake 77 rfl) rfl ?_
    refine pz_bipush (pc' := 131) (v := 45) rfl (pz_dc dX9_addLake 78 rfl) kb_45 ?_
    refine pz_icmp_ne (pc' := 134) (tgt := 138) rfl (pz_dc dX9_addLake 79 rfl) (by decide) (fun hc => ?_) (fun hc => ?_)
    · replace hb := hb.1 hc
      refine pz_iload (pc' := 140) (x := x9) 0 rfl (pz_dc dX9_addLake 82 rfl) rfl ?_
      refine pz_bipush (pc' := 142) (v := 48) rfl (pz_dc dX9_addLake 83 rfl) kb_48 ?_
      refine pz_isub (pc' := 143) rfl (pz_dc dX9_addLake 84 rfl) ?_
      refine pz_cVv (M := mX9_addLake) (N := mX1_add) (d' := 0) (bc1 := 0) (bs1 := 0) (bc2 := bc) (bs2 := bs) (pc' := 146) [.int ((((10 : Int32)) * x4) + x6), .int (x9 - ((48 : Int32)))] hb vX9_364 rfl (pz_dc dX9_addLake 85 rfl) rfl (Nat.le_of_ble_eq_true rfl) (Nat.le_of_ble_eq_true rfl) rfl (by omega) (by omega) (by omega) (fun h33 hb => ?_)
      exact pz_vret (pz_dc dX9_addLake 86 rfl) rfl hb
    · replace hb := hb.2 hc
      refine pz_iconst (pc' := 135) (v := (-1)) rfl (pz_dc dX9_addLake 80 rfl) ki_m1 ?_
      refine pz_goto (pc' := 143) (pz_dc dX9_addLake 81 rfl) (by decide) ?_
      refine pz_cVv (M := mX9_addLake) (N := mX1_add) (d' := 0) (bc1 := 0) (bs1 := 0) (bc2 := bc) (bs2 := bs) (pc' := 146) [.int ((((10 : Int32)) * x4) + x6), .int ((-1))] hb vX9_364 rfl (pz_dc dX9_addLake 85 rfl) rfl (Nat.le_of_ble_eq_true rfl) (Nat.le_of_ble_eq_true rfl) rfl (by omega) (by omega) (by omega) (fun h34 hb => ?_)
      exact pz_vret (pz_dc dX9_addLake 86 rfl) rfl hb
  · replace hb := hb.2 hc
    exact pz_vret (pz_dc dX9_addLake 7 rfl) rfl hb
set_option maxRecDepth 20000 in
set_option maxHeartbeats 4000000 in
theorem wX9_digitAt_0 {Ex : State → Nat → Prop} {Q : Option Value → pz_H → Prop} {d bc bs : Nat} {l0 : Nat} {l1 : Int32}  {h : pz_H} (hD : 1 ≤ d) (hb : pz_gR h l0 9 0 (fun (a1 : Nat) => pz_is h a1 6 ∧ (pz_ki mX6_at 0 0 0 (.ref a1 :: [.int l1, .int 80]) h (fun (x3 : Int32) (h2 : pz_H) => Q (some (.int (x3 - ((48 : Int32))))) h2)))) : pz_V mX9_digitAt Ex Q d bc bs 0 [(0, .ref l0), (1, .int l1)] [] h := by
  refine pz_aload_n (pc' := 1) (x := l0) 0 rfl (pz_dc dX9_digitAt 0 rfl) rfl ?_
  refine pz_getR (M := mX9_digitAt) hb fX9_10 (pc' := 4) rfl (pz_dc dX9_digitAt 1 rfl) (fun a1 hb => ?_)
  refine pz_iload_n (pc' := 5) (x := l1) 1 rfl (pz_dc dX9_digitAt 2 rfl) rfl ?_
  refine pz_bipush (pc' := 7) (v := 80) rfl (pz_dc dX9_digitAt 3 rfl) kb_80 ?_
  refine pz_cVi (M := mX9_digitAt) (N := mX6_at) (d' := 0) (bc1 := 0) (bs1 := 0) (bc2 := bc) (bs2 := bs) (pc' := 10) [.int l1, .int 80] hb vX9_182 rfl (pz_dc dX9_digitAt 4 rfl) rfl (Nat.le_of_ble_eq_true rfl) (Nat.le_of_ble_eq_true rfl) rfl (by omega) (by omega) (by omega) (fun x3 h2 hb => ?_)
  refine pz_bipush (pc' := 12) (v := 48) rfl (pz_dc dX9_digitAt 5 rfl) kb_48 ?_
  refine pz_isub (pc' := 13) rfl (pz_dc dX9_digitAt 6 rfl) ?_
  exact pz_iret (pz_dc dX9_digitAt 7 rfl) rfl hb
set_option maxRecDepth 20000 in
set_option maxHeartbeats 4000000 in
theorem wX9_fillFromSheet_0 {Ex : State → Nat → Prop} {Q : Option Value → pz_H → Prop} {d bc bs : Nat} {l0 : Nat} {l1 : Int32} {l2 : Int32} {l3 : Int32} {l4 : Int32}  {h : pz_H} (hD : 1 ≤ d) (hb : pz_V mX9_fillFromSheet Ex Q d bc bs 3 [(0, .ref l0), (1, .int l1), (2, .int l2), (3, .int l3), (4, .int l4), (5, .int 0)] [] h) : pz_V mX9_fillFromSheet Ex Q d bc bs 0 [(0, .ref l0), (1, .int l1), (2, .int l2), (3, .int l3), (4, .int l4)] [] h := by
  refine pz_iconst (pc' := 1) (v := 0) rfl (pz_dc dX9_fillFromSheet 0 rfl) ki_0 ?_
  refine pz_istore (pc' := 3) (lv' := [(5, .int 0), (0, .ref l0), (1, .int l1), (2, .int l2), (3, .int l3), (4, .int l4)]) rfl (pz_dc dX9_fillFromSheet 1 rfl) (by decide) rfl ?_
  refine pz_lv (lv' := [(0, .ref l0), (1, .int l1), (2, .int l2), (3, .int l3), (4, .int l4), (5, .int 0)]) [1, 2, 3, 4, 5, 0] rfl ?_
  exact hb
set_option maxRecDepth 20000 in
set_option maxHeartbeats 4000000 in
theorem wX9_fillFromSheet_3 {Ex : State → Nat → Prop} {Q : Option Value → pz_H → Prop} {d bc bs : Nat} {l0 : Nat} {l1 : Int32} {l2 : Int32} {l3 : Int32} {l4 : Int32} {l5 : Int32}  {h : pz_H} (hD : 1 ≤ d) (hb : pz_gR h l0 9 2 (fun (a1 : Nat) => pz_is h a1 1 ∧ (pz_gI h a1 1 4 (fun (x2 : Int32) => (x2 ≤ l5 → Q none h) ∧ (¬ x2 ≤ l5 → (l2 ≤ l5 → pz_gR h l0 9 3 (fun (a3 : Nat) => pz_gR h a3 8 0 (fun (a4 : Nat) => pz_gR h l0 9 2 (fun (a5 : Nat) => pz_gR h a5 1 0 (fun (a6 : Nat) => pz_rI h a6 l5 (fun (x7 : Int32) => pz_sI h a4 l5 (if ((0 : Int32)) < (if x7 < ((0 : Int32)) then x7 else ((0 : Int32))) then (if x7 < ((0 : Int32)) then x7 else ((0 : Int32))) else ((0 : Int32))) (fun (h8 : pz_H) => pz_V mX9_fillFromSheet Ex Q d bc bs 3 [(0, .ref l0), (1, .int l1), (2, .int l2), (3, .int l3), (4, .int l4), (5, .int (l5 + (1 : Int32)))] [] h8))))))) ∧ (¬ l2 ≤ l5 → pz_gR h l0 9 3 (fun (a9 : Nat) => pz_gR h a9 8 0 (fun (a10 : Nat) => pz_gR h l0 9 2 (fun (a11 : Nat) => pz_gR h a11 1 0 (fun (a12 : Nat) => pz_rI h a12 l5 (fun (x13 : Int32) => pz_sI h a10 l5 (if ((0 : Int32)) < (if x13 < (eX9_entryOf l1 (l3 + (l5 * l4))) then x13 else (eX9_entryOf l1 (l3 + (l5 * l4)))) then (if x13 < (eX9_entryOf l1 (l3 + (l5 * l4))) then x13 else (eX9_entryOf l1 (l3 + (l5 * l4)))) else ((0 : Int32))) (fun (h14 : pz_H) => pz_V mX9_fillFromSheet Ex Q d bc bs 3 [(0, .ref l0), (1, .int l1), (2, .int l2), (3, .int l3), (4, .int l4), (5, .int (l5 + (1 : Int32)))] [] h14)))))))))))) : pz_V mX9_fillFromSheet Ex Q d bc bs 3 [(0, .ref l0), (1, .int l1), (2, .int l2), (3, .int l3), (4, .int l4), (5, .int l5)] [] h := by
  refine pz_iload (pc' := 5) (x := l5) 5 rfl (pz_dc dX9_fillFromSheet 2 rfl) rfl ?_
  refine pz_aload_n (pc' := 6) (x := l0) 0 rfl (pz_dc dX9_fillFromSheet 3 rfl) rfl ?_
  refine pz_getR (M := mX9_fillFromSheet) hb fX9_26 (pc' := 9) rfl (pz_dc dX9_fillFromSheet 4 rfl) (fun a1 hb => ?_)
  obtain ⟨⟨fs15, hf16⟩, hb⟩ := hb
  refine pz_callV (M := mX9_fillFromSheet) (N := mX1_size) (d' := 0) (bc1 := 0) (bs1 := 0) (bc2 := bc) (bs2 := bs) (pc' := 12) [] vX9_208 rfl (pz_dc dX9_fillFromSheet 5 rfl) rfl (Nat.le_of_ble_eq_true rfl) (Nat.le_of_ble_eq_true rfl) rfl (by omega) (by omega) (by omega) hf16 ?_
  refine pz_aload_n (pc' := 1) (x := a1) 0 rfl (pz_dc dX1_size 0 rfl) rfl ?_
  refine pz_getI (M := mX1_size) hb fX1_24 (pc' := 4) rfl (pz_dc dX1_size 1 rfl) (fun x2 hb => ?_)
  refine pz_iret (pz_dc dX1_size 2 rfl) rfl ?_
  show pz_V mX9_fillFromSheet _ _ _ _ _ 12 [(0, .ref l0), (1, .int l1), (2, .int l2), (3, .int l3), (4, .int l4), (5, .int l5)] [.int x2, .int l5] h
  refine pz_icmp_ge (pc' := 15) (tgt := 73) rfl (pz_dc dX9_fillFromSheet 6 rfl) (by decide) (fun hc => ?_) (fun hc => ?_)
  · replace hb := hb.1 hc
    exact pz_vret (pz_dc dX9_fillFromSheet 36 rfl) rfl hb
  · replace hb := hb.2 hc
    refine pz_iload (pc' := 17) (x := l5) 5 rfl (pz_dc dX9_fillFromSheet 7 rfl) rfl ?_
    refine pz_iload_n (pc' := 18) (x := l2) 2 rfl (pz_dc dX9_fillFromSheet 8 rfl) rfl ?_
    refine pz_icmp_ge (pc' := 21) (tgt := 35) rfl (pz_dc dX9_fillFromSheet 9 rfl) (by decide) (fun hc => ?_) (fun hc => ?_)
    · replace hb := hb.1 hc
      refine pz_iconst (pc' := 36) (v := 0) rfl (pz_dc dX9_fillFromSheet 18 rfl) ki_0 ?_
      refine pz_istore (pc' := 38) (lv' := [(6, .int 0), (0, .ref l0), (1, .int l1), (2, .int l2), (3, .int l3), (4, .int l4), (5, .int l5)]) rfl (pz_dc dX9_fillFromSheet 19 rfl) (by decide) rfl ?_
      refine pz_aload_n (pc' := 39) (x := l0) 1 rfl (pz_dc dX9_fillFromSheet 20 rfl) rfl ?_
      refine pz_getR (M := mX9_fillFromSheet) hb fX9_33 (pc' := 42) rfl (pz_dc dX9_fillFromSheet 21 rfl) (fun a3 hb => ?_)
      refine pz_getR (M := mX9_fillFromSheet) hb fX9_136 (pc' := 45) rfl (pz_dc dX9_fillFromSheet 22 rfl) (fun a4 hb => ?_)
      refine pz_iload (pc' := 47) (x := l5) 6 rfl (pz_dc dX9_fillFromSheet 23 rfl) rfl ?_
      refine pz_iconst (pc' := 48) (v := 0) rfl (pz_dc dX9_fillFromSheet 24 rfl) ki_0 ?_
      refine pz_iload (pc' := 50) (x := 0) 0 rfl (pz_dc dX9_fillFromSheet 25 rfl) rfl ?_
      refine pz_aload_n (pc' := 51) (x := l0) 1 rfl (pz_dc dX9_fillFromSheet 26 rfl) rfl ?_
      refine pz_getR (M := mX9_fillFromSheet) hb fX9_26 (pc' := 54) rfl (pz_dc dX9_fillFromSheet 27 rfl) (fun a5 hb => ?_)
      refine pz_getR (M := mX9_fillFromSheet) hb fX9_121 (pc' := 57) rfl (pz_dc dX9_fillFromSheet 28 rfl) (fun a6 hb => ?_)
      refine pz_iload (pc' := 59) (x := l5) 6 rfl (pz_dc dX9_fillFromSheet 29 rfl) rfl ?_
      refine pz_ldI hb (pc' := 60) rfl (pz_dc dX9_fillFromSheet 30 rfl) (fun x7 hb => ?_)
      refine pz_min (M := mX9_fillFromSheet) (pc' := 63) wX9_322 rfl (pz_dc dX9_fillFromSheet 31 rfl) (Nat.le_of_ble_eq_true rfl) (by omega) ?_
      refine pz_max (M := mX9_fillFromSheet) (pc' := 66) wX9_246 rfl (pz_dc dX9_fillFromSheet 32 rfl) (Nat.le_of_ble_eq_true rfl) (by omega) ?_
      refine pz_stI hb (pc' := 67) rfl (pz_dc dX9_fillFromSheet 33 rfl) (fun h8 hb => ?_)
      refine pz_iinc (pc' := 70) (x := l5) (v := l5 + (1 : Int32)) (lv' := [(5, .int (l5 + (1 : Int32))), (6, .int 0), (0, .ref l0), (1, .int l1), (2, .int l2), (3, .int l3), (4, .int l4)]) 6 rfl (pz_dc dX9_fillFromSheet 34 rfl) rfl rfl (by decide) rfl ?_
      refine pz_goto (pc' := 3) (pz_dc dX9_fillFromSheet 35 rfl) (by decide) ?_
      refine pz_lv (lv' := [(0, .ref l0), (1, .int l1), (2, .int l2), (3, .int l3), (4, .int l4), (5, .int (l5 + (1 : Int32)))]) [2, 3, 4, 5, 6, 0] rfl ?_
      exact hb
    · replace hb := hb.2 hc
      refine pz_iload_n (pc' := 22) (x := l1) 1 rfl (pz_dc dX9_fillFromSheet 10 rfl) rfl ?_
      refine pz_iload_n (pc' := 23) (x := l3) 3 rfl (pz_dc dX9_fillFromSheet 11 rfl) rfl ?_
      refine pz_iload (pc' := 25) (x := l5) 5 rfl (pz_dc dX9_fillFromSheet 12 rfl) rfl ?_
      refine pz_iload (pc' := 27) (x := l4) 4 rfl (pz_dc dX9_fillFromSheet 13 rfl) rfl ?_
      refine pz_imul (pc' := 28) rfl (pz_dc dX9_fillFromSheet 14 rfl) ?_
      refine pz_iadd (pc' := 29) rfl (pz_dc dX9_fillFromSheet 15 rfl) ?_
      refine pz_callS (M := mX9_fillFromSheet) (N := mX9_entryOf) (d' := 0) (bc1 := 0) (bs1 := 0) (bc2 := bc) (bs2 := bs) (pc' := 32) [.int l1, .int (l3 + (l5 * l4))] sX9_366 rfl (pz_dc dX9_fillFromSheet 16 rfl) rfl (Nat.le_of_ble_eq_true rfl) (Nat.le_of_ble_eq_true rfl) rfl (by omega) (by omega) (by omega) ?_
      refine cX9_entryOf ?_
      show pz_V mX9_fillFromSheet _ _ _ _ _ 32 [(0, .ref l0), (1, .int l1), (2, .int l2), (3, .int l3), (4, .int l4), (5, .int l5)] [.int (eX9_entryOf l1 (l3 + (l5 * l4)))] h
      refine pz_goto (pc' := 36) (pz_dc dX9_fillFromSheet 17 rfl) (by decide) ?_
      refine pz_istore (pc' := 38) (lv' := [(6, .int (eX9_entryOf l1 (l3 + (l5 * l4)))), (0, .ref l0), (1, .int l1), (2, .int l2), (3, .int l3), (4, .int l4), (5, .int l5)]) rfl (pz_dc dX9_fillFromSheet 19 rfl) (by decide) rfl ?_
      refine pz_aload_n (pc' := 39) (x := l0) 1 rfl (pz_dc dX9_fillFromSheet 20 rfl) rfl ?_
      refine pz_getR (M := mX9_fillFromSheet) hb fX9_33 (pc' := 42) rfl (pz_dc dX9_fillFromSheet 21 rfl) (fun a9 hb => ?_)
      refine pz_getR (M := mX9_fillFromSheet) hb fX9_136 (pc' := 45) rfl (pz_dc dX9_fillFromSheet 22 rfl) (fun a10 hb => ?_)
      refine pz_iload (pc' := 47) (x := l5) 6 rfl (pz_dc dX9_fillFromSheet 23 rfl) rfl ?_
      refine pz_iconst (pc' := 48) (v := 0) rfl (pz_dc dX9_fillFromSheet 24 rfl) ki_0 ?_
      refine pz_iload (pc' := 50) (x := eX9_entryOf l1 (l3 + (l5 * l4))) 0 rfl (pz_dc dX9_fillFromSheet 25 rfl) rfl ?_
      refine pz_aload_n (pc' := 51) (x := l0) 1 rfl (pz_dc dX9_fillFromSheet 26 rfl) rfl ?_
      refine pz_getR (M := mX9_fillFromSheet) hb fX9_26 (pc' := 54) rfl (pz_dc dX9_fillFromSheet 27 rfl) (fun a11 hb => ?_)
      refine pz_getR (M := mX9_fillFromSheet) hb fX9_121 (pc' := 57) rfl (pz_dc dX9_fillFromSheet 28 rfl) (fun a12 hb => ?_)
      refine pz_iload (pc' := 59) (x := l5) 6 rfl (pz_dc dX9_fillFromSheet 29 rfl) rfl ?_
      refine pz_ldI hb (pc' := 60) rfl (pz_dc dX9_fillFromSheet 30 rfl) (fun x13 hb => ?_)
      refine pz_min (M := mX9_fillFromSheet) (pc' := 63) wX9_322 rfl (pz_dc dX9_fillFromSheet 31 rfl) (Nat.le_of_ble_eq_true rfl) (by omega) ?_
      refine pz_max (M := mX9_fillFromSheet) (pc' := 66) wX9_246 rfl (pz_dc dX9_fillFromSheet 32 rfl) (Nat.le_of_ble_eq_true rfl) (by omega) ?_
      refine pz_stI hb (pc' := 67) rfl (pz_dc dX9_fillFromSheet 33 rfl) (fun h14 hb => ?_)
      refine pz_iinc (pc' := 70) (x := l5) (v := l5 + (1 : Int32)) (lv' := [(5, .int (l5 + (1 : Int32))), (6, .int (eX9_entryOf l1 (l3 + (l5 * l4)))), (0, .ref l0), (1, .int l1), (2, .int l2), (3, .int l3), (4, .int l4)]) 6 rfl (pz_dc dX9_fillFromSheet 34 rfl) rfl rfl (by decide) rfl ?_
      refine pz_goto (pc' := 3) (pz_dc dX9_fillFromSheet 35 rfl) (by decide) ?_
      refine pz_lv (lv' := [(0, .ref l0), (1, .int l1), (2, .int l2), (3, .int l3), (4, .int l4), (5, .int (l5 + (1 : Int32)))]) [2, 3, 4, 5, 6, 0] rfl ?_
      exact hb
set_option maxRecDepth 20000 in
set_option maxHeartbeats 4000000 in
theorem wX9_doAndRemember_0 {Ex : State → Nat → Prop} {Q : Option Value → pz_H → Prop} {d bc bs : Nat} {l0 : Nat} {l1 : Int32} {l2 : Int32} {l3 : Int32}  {h : pz_H} (hD : 6 ≤ d) (hb : pz_gR h l0 9 4 (fun (a1 : Nat) => pz_gR h l0 9 3 (fun (a2 : Nat) => pz_is h a1 8 ∧ (pz_kv mX8_copy 1 0 0 (.ref a1 :: [.ref a2]) h (fun (h3 : pz_H) => pz_is h3 l0 9 ∧ (pz_ki mX9_doAct 5 0 0 (.ref l0 :: [.int l1, .int l2, .int l3]) h3 (fun (x5 : Int32) (h4 : pz_H) => (¬ l1 = ((110 : Int32)) → (x5 < 0 → Q (some (.int x5)) h4) ∧ (¬ x5 < 0 → pz_gR h4 l0 9 6 (fun (a6 : Nat) => pz_gR h4 l0 9 4 (fun (a7 : Nat) => pz_is h4 a6 2 ∧ (pz_kv mX2_add 2 0 0 (.ref a6 :: [.ref a7]) h4 (fun (h8 : pz_H) => Q (some (.int x5)) h8)))))) ∧ (l1 = ((110 : Int32)) → (¬ l2 = 0 → (x5 < 0 → Q (some (.int x5)) h4) ∧ (¬ x5 < 0 → pz_gR h4 l0 9 6 (fun (a9 : Nat) => pz_gR h4 l0 9 4 (fun (a10 : Nat) => pz_is h4 a9 2 ∧ (pz_kv mX2_add 2 0 0 (.ref a9 :: [.ref a10]) h4 (fun (h11 : pz_H) => Q (some (.int x5)) h11)))))) ∧ (l2 = 0 → (x5 < 0 → Q (some (.int x5)) h4) ∧ (¬ x5 < 0 → Q (some (.int x5)) h4)))))))))) : pz_V mX9_doAndRemember Ex Q d bc bs 0 [(0, .ref l0), (1, .int l1), (2, .int l2), (3, .int l3)] [] h := by
  refine pz_aload_n (pc' := 1) (x := l0) 0 rfl (pz_dc dX9_doAndRemember 0 rfl) rfl ?_
  refine pz_getR (M := mX9_doAndRemember) hb fX9_37 (pc' := 4) rfl (pz_dc dX9_doAndRemember 1 rfl) (fun a1 hb => ?_)
  refine pz_aload_n (pc' := 5) (x := l0) 0 rfl (pz_dc dX9_doAndRemember 2 rfl) rfl ?_
  refine pz_getR (M := mX9_doAndRemember) hb fX9_33 (pc' := 8) rfl (pz_dc dX9_doAndRemember 3 rfl) (fun a2 hb => ?_)
  refine pz_cVv (M := mX9_doAndRemember) (N := mX8_copy) (d' := 1) (bc1 := 0) (bs1 := 0) (bc2 := bc) (bs2 := bs) (pc' := 11) [.ref a2] hb vX9_174 rfl (pz_dc dX9_doAndRemember 4 rfl) rfl (Nat.le_of_ble_eq_true rfl) (Nat.le_of_ble_eq_true rfl) rfl (by omega) (by omega) (by omega) (fun h3 hb => ?_)
  refine pz_aload_n (pc' := 12) (x := l0) 0 rfl (pz_dc dX9_doAndRemember 5 rfl) rfl ?_
  refine pz_iload_n (pc' := 13) (x := l1) 1 rfl (pz_dc dX9_doAndRemember 6 rfl) rfl ?_
  refine pz_iload_n (pc' := 14) (x := l2) 2 rfl (pz_dc dX9_doAndRemember 7 rfl) rfl ?_
  refine pz_iload_n (pc' := 15) (x := l3) 3 rfl (pz_dc dX9_doAndRemember 8 rfl) rfl ?_
  refine pz_cVi (M := mX9_doAndRemember) (N := mX9_doAct) (d' := 5) (bc1 := 0) (bs1 := 0) (bc2 := bc) (bs2 := bs) (pc' := 18) [.int l1, .int l2, .int l3] hb vX9_369 rfl (pz_dc dX9_doAndRemember 9 rfl) rfl (Nat.le_of_ble_eq_true rfl) (Nat.le_of_ble_eq_true rfl) rfl (by omega) (by omega) (by omega) (fun x5 h4 hb => ?_)
  refine pz_istore (pc' := 20) (lv' := [(4, .int x5), (0, .ref l0), (1, .int l1), (2, .int l2), (3, .int l3)]) rfl (pz_dc dX9_doAndRemember 10 rfl) (by decide) rfl ?_
  refine pz_iload_n (pc' := 21) (x := l1) 2 rfl (pz_dc dX9_doAndRemember 11 rfl) rfl ?_
  refine pz_bipush (pc' := 23) (v := 110) rfl (pz_dc dX9_doAndRemember 12 rfl) kb_110 ?_
  refine pz_icmp_ne (pc' := 26) (tgt := 34) rfl (pz_dc dX9_doAndRemember 13 rfl) (by decide) (fun hc => ?_) (fun hc => ?_)
  · replace hb := hb.1 hc
    refine pz_iconst (pc' := 35) (v := 0) rfl (pz_dc dX9_doAndRemember 18 rfl) ki_0 ?_
    refine pz_istore (pc' := 37) (lv' := [(5, .int 0), (4, .int x5), (0, .ref l0), (1, .int l1), (2, .int l2), (3, .int l3)]) rfl (pz_dc dX9_doAndRemember 19 rfl) (by decide) rfl ?_
    refine pz_iload (pc' := 39) (x := x5) 1 rfl (pz_dc dX9_doAndRemember 20 rfl) rfl ?_
    refine pz_if_lt (pc' := 42) (tgt := 58) rfl (pz_dc dX9_doAndRemember 21 rfl) (by decide) (fun hc => ?_) (fun hc => ?_)
    · replace hb := hb.1 hc
      refine pz_iload (pc' := 60) (x := x5) 1 rfl (pz_dc dX9_doAndRemember 29 rfl) rfl ?_
      exact pz_iret (pz_dc dX9_doAndRemember 30 rfl) rfl hb
    · replace hb := hb.2 hc
      refine pz_iload (pc' := 44) (x := 0) 0 rfl (pz_dc dX9_doAndRemember 22 rfl) rfl ?_
      refine pz_if_ne (pc' := 47) (tgt := 58) rfl (pz_dc dX9_doAndRemember 23 rfl) (by decide) (fun hc => absurd hc (by decide)) (fun _ => ?_)
      refine pz_aload_n (pc' := 48) (x := l0) 2 rfl (pz_dc dX9_doAndRemember 24 rfl) rfl ?_
      refine pz_getR (M := mX9_doAndRemember) hb fX9_46 (pc' := 51) rfl (pz_dc dX9_doAndRemember 25 rfl) (fun a6 hb => ?_)
      refine pz_aload_n (pc' := 52) (x := l0) 2 rfl (pz_dc dX9_doAndRemember 26 rfl) rfl ?_
      refine pz_getR (M := mX9_doAndRemember) hb fX9_37 (pc' := 55) rfl (pz_dc dX9_doAndRemember 27 rfl) (fun a7 hb => ?_)
      refine pz_cVv (M := mX9_doAndRemember) (N := mX2_add) (d' := 2) (bc1 := 0) (bs1 := 0) (bc2 := bc) (bs2 := bs) (pc' := 58) [.ref a7] hb vX9_189 rfl (pz_dc dX9_doAndRemember 28 rfl) rfl (Nat.le_of_ble_eq_true rfl) (Nat.le_of_ble_eq_true rfl) rfl (by omega) (by omega) (by omega) (fun h8 hb => ?_)
      refine pz_iload (pc' := 60) (x := x5) 1 rfl (pz_dc dX9_doAndRemember 29 rfl) rfl ?_
      exact pz_iret (pz_dc dX9_doAndRemember 30 rfl) rfl hb
  · replace hb := hb.2 hc
    refine pz_iload_n (pc' := 27) (x := l2) 3 rfl (pz_dc dX9_doAndRemember 14 rfl) rfl ?_
    refine pz_if_ne (pc' := 30) (tgt := 34) rfl (pz_dc dX9_doAndRemember 15 rfl) (by decide) (fun hc => ?_) (fun hc => ?_)
    · replace hb := hb.1 hc
      refine pz_iconst (pc' := 35) (v := 0) rfl (pz_dc dX9_doAndRemember 18 rfl) ki_0 ?_
      refine pz_istore (pc' := 37) (lv' := [(5, .int 0), (4, .int x5), (0, .ref l0), (1, .int l1), (2, .int l2), (3, .int l3)]) rfl (pz_dc dX9_doAndRemember 19 rfl) (by decide) rfl ?_
      refine pz_iload (pc' := 39) (x := x5) 1 rfl (pz_dc dX9_doAndRemember 20 rfl) rfl ?_
      refine pz_if_lt (pc' := 42) (tgt := 58) rfl (pz_dc dX9_doAndRemember 21 rfl) (by decide) (fun hc => ?_) (fun hc => ?_)
      · replace hb := hb.1 hc
        refine pz_iload (pc' := 60) (x := x5) 1 rfl (pz_dc dX9_doAndRemember 29 rfl) rfl ?_
        exact pz_iret (pz_dc dX9_doAndRemember 30 rfl) rfl hb
      · replace hb := hb.2 hc
        refine pz_iload (pc' := 44) (x := 0) 0 rfl (pz_dc dX9_doAndRemember 22 rfl) rfl ?_
        refine pz_if_ne (pc' := 47) (tgt := 58) rfl (pz_dc dX9_doAndRemember 23 rfl) (by decide) (fun hc => absurd hc (by decide)) (fun _ => ?_)
        refine pz_aload_n (pc' := 48) (x := l0) 2 rfl (pz_dc dX9_doAndRemember 24 rfl) rfl ?_
        refine pz_getR (M := mX9_doAndRemember) hb fX9_46 (pc' := 51) rfl (pz_dc dX9_doAndRemember 25 rfl) (fun a9 hb => ?_)
        refine pz_aload_n (pc' := 52) (x := l0) 2 rfl (pz_dc dX9_doAndRemember 26 rfl) rfl ?_
        refine pz_getR (M := mX9_doAndRemember) hb fX9_37 (pc' := 55) rfl (pz_dc dX9_doAndRemember 27 rfl) (fun a10 hb => ?_)
        refine pz_cVv (M := mX9_doAndRemember) (N := mX2_add) (d' := 2) (bc1 := 0) (bs1 := 0) (bc2 := bc) (bs2 := bs) (pc' := 58) [.ref a10] hb vX9_189 rfl (pz_dc dX9_doAndRemember 28 rfl) rfl (Nat.le_of_ble_eq_true rfl) (Nat.le_of_ble_eq_true rfl) rfl (by omega) (by omega) (by omega) (fun h11 hb => ?_)
        refine pz_iload (pc' := 60) (x := x5) 1 rfl (pz_dc dX9_doAndRemember 29 rfl) rfl ?_
        exact pz_iret (pz_dc dX9_doAndRemember 30 rfl) rfl hb
    · replace hb := hb.2 hc
      refine pz_iconst (pc' := 31) (v := 1) rfl (pz_dc dX9_doAndRemember 16 rfl) ki_1 ?_
      refine pz_goto (pc' := 35) (pz_dc dX9_doAndRemember 17 rfl) (by decide) ?_
      refine pz_istore (pc' := 37) (lv' := [(5, .int 1), (4, .int x5), (0, .ref l0), (1, .int l1), (2, .int l2), (3, .int l3)]) rfl (pz_dc dX9_doAndRemember 19 rfl) (by decide) rfl ?_
      refine pz_iload (pc' := 39) (x := x5) 1 rfl (pz_dc dX9_doAndRemember 20 rfl) rfl ?_
      refine pz_if_lt (pc' := 42) (tgt := 58) rfl (pz_dc dX9_doAndRemember 21 rfl) (by decide) (fun hc => ?_) (fun hc => ?_)
      · replace hb := hb.1 hc
        refine pz_iload (pc' := 60) (x := x5) 1 rfl (pz_dc dX9_doAndRemember 29 rfl) rfl ?_
        exact pz_iret (pz_dc dX9_doAndRemember 30 rfl) rfl hb
      · replace hb := hb.2 hc
        refine pz_iload (pc' := 44) (x := 1) 0 rfl (pz_dc dX9_doAndRemember 22 rfl) rfl ?_
        refine pz_if_ne (pc' := 47) (tgt := 58) rfl (pz_dc dX9_doAndRemember 23 rfl) (by decide) (fun _ => ?_) (fun hc => absurd hc (by decide))
        refine pz_iload (pc' := 60) (x := x5) 1 rfl (pz_dc dX9_doAndRemember 29 rfl) rfl ?_
        exact pz_iret (pz_dc dX9_doAndRemember 30 rfl) rfl hb
set_option maxRecDepth 20000 in
set_option maxHeartbeats 4000000 in
theorem wX9_doAct_0 {Ex : State → Nat → Prop} {Q : Option Value → pz_H → Prop} {d bc bs : Nat} {l0 : Nat} {l1 : Int32} {l2 : Int32} {l3 : Int32}  {h : pz_H} (hD : 5 ≤ d) (hb : (¬ l1 = ((110 : Int32)) → pz_gR h l0 9 2 (fun (a1 : Nat) => pz_is h a1 1 ∧ (pz_gI h a1 1 4 (fun (x2 : Int32) => pz_V mX9_doAct Ex Q d bc bs 24 [(0, .ref l0), (1, .int l1), (2, .int l2), (3, .int l3)] [.int (eX1_has l2 x2)] h)))) ∧ (l1 = ((110 : Int32)) → pz_V mX9_doAct Ex Q d bc bs 24 [(0, .ref l0), (1, .int l1), (2, .int l2), (3, .int l3)] [.int (eX9_isWithin l2 ((0 : Int32)) ((60 : Int32)))] h)) : pz_V mX9_doAct Ex Q d bc bs 0 [(0, .ref l0), (1, .int l1), (2, .int l2), (3, .int l3)] [] h := by
  refine pz_iload_n (pc' := 1) (x := l1) 1 rfl (pz_dc dX9_doAct 0 rfl) rfl ?_
  refine pz_bipush (pc' := 3) (v := 110) rfl (pz_dc dX9_doAct 1 rfl) kb_110 ?_
  refine pz_icmp_ne (pc' := 6) (tgt := 16) rfl (pz_dc dX9_doAct 2 rfl) (by decide) (fun hc => ?_) (fun hc => ?_)
  · replace hb := hb.1 hc
    refine pz_aload_n (pc' := 17) (x := l0) 0 rfl (pz_dc dX9_doAct 8 rfl) rfl ?_
    refine pz_getR (M := mX9_doAct) hb fX9_26 (pc' := 20) rfl (pz_dc dX9_doAct 9 rfl) (fun a1 hb => ?_)
    refine pz_iload_n (pc' := 21) (x := l2) 2 rfl (pz_dc dX9_doAct 10 rfl) rfl ?_
    obtain ⟨⟨fs6, hf7⟩, hb⟩ := hb
    obtain ⟨fs3, x2, g4, g5, hb⟩ := hb
    refine pz_callV (M := mX9_doAct) (N := mX1_has) (d' := 0) (bc1 := 0) (bs1 := 0) (bc2 := bc) (bs2 := bs) (pc' := 24) [.int l2] vX9_115 rfl (pz_dc dX9_doAct 11 rfl) rfl (Nat.le_of_ble_eq_true rfl) (Nat.le_of_ble_eq_true rfl) rfl (by omega) (by omega) (by omega) hf7 ?_
    refine cX1_has ⟨fs3, x2, g4, g5, ?_⟩
    show pz_V mX9_doAct _ _ _ _ _ 24 [(0, .ref l0), (1, .int l1), (2, .int l2), (3, .int l3)] [.int (eX1_has l2 x2)] h
    exact hb
  · replace hb := hb.2 hc
    refine pz_iload_n (pc' := 7) (x := l2) 2 rfl (pz_dc dX9_doAct 3 rfl) rfl ?_
    refine pz_iconst (pc' := 8) (v := 0) rfl (pz_dc dX9_doAct 4 rfl) ki_0 ?_
    refine pz_bipush (pc' := 10) (v := 60) rfl (pz_dc dX9_doAct 5 rfl) kb_60 ?_
    refine pz_callS (M := mX9_doAct) (N := mX9_isWithin) (d' := 0) (bc1 := 0) (bs1 := 0) (bc2 := bc) (bs2 := bs) (pc' := 13) [.int l2, .int 0, .int 60] sX9_196 rfl (pz_dc dX9_doAct 6 rfl) rfl (Nat.le_of_ble_eq_true rfl) (Nat.le_of_ble_eq_true rfl) rfl (by omega) (by omega) (by omega) ?_
    refine cX9_isWithin ?_
    show pz_V mX9_doAct _ _ _ _ _ 13 [(0, .ref l0), (1, .int l1), (2, .int l2), (3, .int l3)] [.int (eX9_isWithin l2 ((0 : Int32)) ((60 : Int32)))] h
    refine pz_goto (pc' := 24) (pz_dc dX9_doAct 7 rfl) (by decide) ?_
    exact hb
set_option maxRecDepth 20000 in
set_option maxHeartbeats 4000000 in
theorem wX9_doAct_24 {Ex : State → Nat → Prop} {Q : Option Value → pz_H → Prop} {d bc bs : Nat} {l0 : Nat} {l1 : Int32} {l2 : Int32} {l3 : Int32} {s0 : Int32} {h : pz_H} (hD : 5 ≤ d) (hb : (¬ s0 = 0 → (l1.toInt = 99 → pz_is h l0 9 ∧ (pz_ki mX9_combHair 0 0 0 (.ref l0 :: [.int l2]) h (fun (x2 : Int32) (h1 : pz_H) => Q (some (.int x2)) h1))) ∧ (l1.toInt = 103 → ((eX9_isKing l3) = 0 → Q (some (.int ((-1)))) h) ∧ (¬ (eX9_isKing l3) = 0 → pz_gR h l0 9 3 (fun (a3 : Nat) => pz_gR h a3 8 4 (fun (a4 : Nat) => pz_ki mX9_changeEntry 0 0 0 ([.ref a4, .int l2, .int l3]) h (fun (x6 : Int32) (h5 : pz_H) => Q (some (.int x6)) h5))))) ∧ (l1.toInt = 110 → pz_gR h l0 9 2 (fun (a7 : Nat) => pz_gR h l0 9 3 (fun (a8 : Nat) => pz_gR h l0 9 12 (fun (a9 : Nat) => pz_is h a7 1 ∧ (pz_kv mX1_passDays 4 0 0 (.ref a7 :: [.ref a8, .ref a9, .int l2]) h (fun (h10 : pz_H) => pz_gR h10 l0 9 2 (fun (a11 : Nat) => pz_gR h10 l0 9 3 (fun (a12 : Nat) => pz_is h10 a11 1 ∧ (pz_ki mX1_total 2 0 0 (.ref a11 :: [.ref a12]) h10 (fun (x14 : Int32) (h13 : pz_H) => Q (some (.int x14)) h13)))))))))) ∧ (l1.toInt = 112 → pz_is h l0 9 ∧ (pz_ki mX9_movePlug 2 0 0 (.ref l0 :: [.int l2, .int 1]) h (fun (x16 : Int32) (h15 : pz_H) => Q (some (.int x16)) h15))) ∧ (l1.toInt = 115 → pz_is h l0 9 ∧ (pz_ki mX9_movePlug 2 0 0 (.ref l0 :: [.int l2, .int 0]) h (fun (x18 : Int32) (h17 : pz_H) => Q (some (.int x18)) h17))) ∧ (l1.toInt = 116 → ((eX9_isWithin l3 ((0 : Int32)) ((9 : Int32))) = 0 → Q (some (.int ((-1)))) h) ∧ (¬ (eX9_isWithin l3 ((0 : Int32)) ((9 : Int32))) = 0 → pz_gR h l0 9 3 (fun (a19 : Nat) => pz_gR h a19 8 2 (fun (a20 : Nat) => pz_ki mX9_changeEntry 0 0 0 ([.ref a20, .int l2, .int l3]) h (fun (x22 : Int32) (h21 : pz_H) => Q (some (.int x22)) h21))))) ∧ (l1.toInt ≠ 99 ∧ l1.toInt ≠ 103 ∧ l1.toInt ≠ 110 ∧ l1.toInt ≠ 112 ∧ l1.toInt ≠ 115 ∧ l1.toInt ≠ 116 → Q (some (.int ((-1)))) h)) ∧ (s0 = 0 → Q (some (.int ((-1)))) h)) : pz_V mX9_doAct Ex Q d bc bs 24 [(0, .ref l0), (1, .int l1), (2, .int l2), (3, .int l3)] [.int s0] h := by
  refine pz_istore (pc' := 26) (lv' := [(4, .int s0), (0, .ref l0), (1, .int l1), (2, .int l2), (3, .int l3)]) rfl (pz_dc dX9_doAct 12 rfl) (by decide) rfl ?_
  refine pz_iload (pc' := 28) (x := s0) 0 rfl (pz_dc dX9_doAct 13 rfl) rfl ?_
  refine pz_if_ne (pc' := 31) (tgt := 33) rfl (pz_dc dX9_doAct 14 rfl) (by decide) (fun hc => ?_) (fun hc => ?_)
  · replace hb := hb.1 hc
    refine pz_iload_n (pc' := 34) (x := l1) 2 rfl (pz_dc dX9_doAct 17 rfl) rfl ?_
    refine pz_tableN (tgt := 219) (pz_dc dX9_doAct 18 rfl) (by decide) (fun i hi hx => ?_) (by decide) (fun hc => ?_)
    · match i, hi, hx with
      | 0, _, hx =>
        refine ⟨_, 162, rfl, by decide, ?_⟩
        replace hb := hb.1 (by omega)
        refine pz_aload_n (pc' := 163) (x := l0) 1 rfl (pz_dc dX9_doAct 43 rfl) rfl ?_
        refine pz_iload_n (pc' := 164) (x := l2) 3 rfl (pz_dc dX9_doAct 44 rfl) rfl ?_
        refine pz_cVi (M := mX9_doAct) (N := mX9_combHair) (d' := 0) (bc1 := 0) (bs1 := 0) (bc2 := bc) (bs2 := bs) (pc' := 167) [.int l2] hb vX9_376 rfl (pz_dc dX9_doAct 45 rfl) rfl (Nat.le_of_ble_eq_true rfl) (Nat.le_of_ble_eq_true rfl) rfl (by omega) (by omega) (by omega) (fun x2 h1 hb => ?_)
        exact pz_iret (pz_dc dX9_doAct 46 rfl) rfl hb
      | 1, _, hx =>
        refine ⟨_, 219, rfl, by decide, ?_⟩
        replace hb := hb.2.2.2.2.2.2 (by omega)
        refine pz_iconst (pc' := 220) (v := (-1)) rfl (pz_dc dX9_doAct 73 rfl) ki_m1 ?_
        exact pz_iret (pz_dc dX9_doAct 74 rfl) rfl hb
      | 2, _, hx =>
        refine ⟨_, 219, rfl, by decide, ?_⟩
        replace hb := hb.2.2.2.2.2.2 (by omega)
        refine pz_iconst (pc' := 220) (v := (-1)) rfl (pz_dc dX9_doAct 73 rfl) ki_m1 ?_
        exact pz_iret (pz_dc dX9_doAct 74 rfl) rfl hb
      | 3, _, hx =>
        refine ⟨_, 219, rfl, by decide, ?_⟩
        replace hb := hb.2.2.2.2.2.2 (by omega)
        refine pz_iconst (pc' := 220) (v := (-1)) rfl (pz_dc dX9_doAct 73 rfl) ki_m1 ?_
        exact pz_iret (pz_dc dX9_doAct 74 rfl) rfl hb
      | 4, _, hx =>
        refine ⟨_, 195, rfl, by decide, ?_⟩
        replace hb := hb.2.1 (by omega)
        refine pz_iload_n (pc' := 196) (x := l3) 4 rfl (pz_dc dX9_doAct 61 rfl) rfl ?_
        refine pz_callS (M := mX9_doAct) (N := mX9_isKing) (d' := 0) (bc1 := 0) (bs1 := 0) (bc2 := bc) (bs2 := bs) (pc' := 199) [.int l3] sX9_221 rfl (pz_dc dX9_doAct 62 rfl) rfl (Nat.le_of_ble_eq_true rfl) (Nat.le_of_ble_eq_true rfl) rfl (by omega) (by omega) (by omega) ?_
        refine cX9_isKing ?_
        show pz_V mX9_doAct _ _ _ _ _ 199 [(4, .int s0), (0, .ref l0), (1, .int l1), (2, .int l2), (3, .int l3)] [.int (eX9_isKing l3)] h
        refine pz_if_eq (pc' := 202) (tgt := 217) rfl (pz_dc dX9_doAct 63 rfl) (by decide) (fun hc => ?_) (fun hc => ?_)
        · replace hb := hb.1 hc
          refine pz_iconst (pc' := 218) (v := (-1)) rfl (pz_dc dX9_doAct 71 rfl) ki_m1 ?_
          exact pz_iret (pz_dc dX9_doAct 72 rfl) rfl hb
        · replace hb := hb.2 hc
          refine pz_aload_n (pc' := 203) (x := l0) 1 rfl (pz_dc dX9_doAct 64 rfl) rfl ?_
          refine pz_getR (M := mX9_doAct) hb fX9_33 (pc' := 206) rfl (pz_dc dX9_doAct 65 rfl) (fun a3 hb => ?_)
          refine pz_getR (M := mX9_doAct) hb fX9_130 (pc' := 209) rfl (pz_dc dX9_doAct 66 rfl) (fun a4 hb => ?_)
          refine pz_iload_n (pc' := 210) (x := l2) 3 rfl (pz_dc dX9_doAct 67 rfl) rfl ?_
          refine pz_iload_n (pc' := 211) (x := l3) 4 rfl (pz_dc dX9_doAct 68 rfl) rfl ?_
          refine pz_cSi (M := mX9_doAct) (N := mX9_changeEntry) (d' := 0) (bc1 := 0) (bs1 := 0) (bc2 := bc) (bs2 := bs) (pc' := 214) [.ref a4, .int l2, .int l3] hb sX9_379 rfl (pz_dc dX9_doAct 69 rfl) rfl (Nat.le_of_ble_eq_true rfl) (Nat.le_of_ble_eq_true rfl) rfl (by omega) (by omega) (by omega) (fun x6 h5 hb => ?_)
          refine pz_goto (pc' := 218) (pz_dc dX9_doAct 70 rfl) (by decide) ?_
          exact pz_iret (pz_dc dX9_doAct 72 rfl) rfl hb
      | 5, _, hx =>
        refine ⟨_, 219, rfl, by decide, ?_⟩
        replace hb := hb.2.2.2.2.2.2 (by omega)
        refine pz_iconst (pc' := 220) (v := (-1)) rfl (pz_dc dX9_doAct 73 rfl) ki_m1 ?_
        exact pz_iret (pz_dc dX9_doAct 74 rfl) rfl hb
      | 6, _, hx =>
        refine ⟨_, 219, rfl, by decide, ?_⟩
        replace hb := hb.2.2.2.2.2.2 (by omega)
        refine pz_iconst (pc' := 220) (v := (-1)) rfl (pz_dc dX9_doAct 73 rfl) ki_m1 ?_
        exact pz_iret (pz_dc dX9_doAct 74 rfl) rfl hb
      | 7, _, hx =>
        refine ⟨_, 219, rfl, by decide, ?_⟩
        replace hb := hb.2.2.2.2.2.2 (by omega)
        refine pz_iconst (pc' := 220) (v := (-1)) rfl (pz_dc dX9_doAct 73 rfl) ki_m1 ?_
        exact pz_iret (pz_dc dX9_doAct 74 rfl) rfl hb
      | 8, _, hx =>
        refine ⟨_, 219, rfl, by decide, ?_⟩
        replace hb := hb.2.2.2.2.2.2 (by omega)
        refine pz_iconst (pc' := 220) (v := (-1)) rfl (pz_dc dX9_doAct 73 rfl) ki_m1 ?_
        exact pz_iret (pz_dc dX9_doAct 74 rfl) rfl hb
      | 9, _, hx =>
        refine ⟨_, 219, rfl, by decide, ?_⟩
        replace hb := hb.2.2.2.2.2.2 (by omega)
        refine pz_iconst (pc' := 220) (v := (-1)) rfl (pz_dc dX9_doAct 73 rfl) ki_m1 ?_
        exact pz_iret (pz_dc dX9_doAct 74 rfl) rfl hb
      | 10, _, hx =>
        refine ⟨_, 219, rfl, by decide, ?_⟩
        replace hb := hb.2.2.2.2.2.2 (by omega)
        refine pz_iconst (pc' := 220) (v := (-1)) rfl (pz_dc dX9_doAct 73 rfl) ki_m1 ?_
        exact pz_iret (pz_dc dX9_doAct 74 rfl) rfl hb
      | 11, _, hx =>
        refine ⟨_, 120, rfl, by decide, ?_⟩
        replace hb := hb.2.2.1 (by omega)
        refine pz_aload_n (pc' := 121) (x := l0) 1 rfl (pz_dc dX9_doAct 19 rfl) rfl ?_
        refine pz_getR (M := mX9_doAct) hb fX9_26 (pc' := 124) rfl (pz_dc dX9_doAct 20 rfl) (fun a7 hb => ?_)
        refine pz_aload_n (pc' := 125) (x := l0) 1 rfl (pz_dc dX9_doAct 21 rfl) rfl ?_
        refine pz_getR (M := mX9_doAct) hb fX9_33 (pc' := 128) rfl (pz_dc dX9_doAct 22 rfl) (fun a8 hb => ?_)
        refine pz_aload_n (pc' := 129) (x := l0) 1 rfl (pz_dc dX9_doAct 23 rfl) rfl ?_
        refine pz_getR (M := mX9_doAct) hb fX9_78 (pc' := 132) rfl (pz_dc dX9_doAct 24 rfl) (fun a9 hb => ?_)
        refine pz_iload_n (pc' := 133) (x := l2) 3 rfl (pz_dc dX9_doAct 25 rfl) rfl ?_
        refine pz_cVv (M := mX9_doAct) (N := mX1_passDays) (d' := 4) (bc1 := 0) (bs1 := 0) (bc2 := bc) (bs2 := bs) (pc' := 136) [.ref a8, .ref a9, .int l2] hb vX9_203 rfl (pz_dc dX9_doAct 26 rfl) rfl (Nat.le_of_ble_eq_true rfl) (Nat.le_of_ble_eq_true rfl) rfl (by omega) (by omega) (by omega) (fun h10 hb => ?_)
        refine pz_aload_n (pc' := 137) (x := l0) 1 rfl (pz_dc dX9_doAct 27 rfl) rfl ?_
        refine pz_getR (M := mX9_doAct) hb fX9_26 (pc' := 140) rfl (pz_dc dX9_doAct 28 rfl) (fun a11 hb => ?_)
        refine pz_aload_n (pc' := 141) (x := l0) 1 rfl (pz_dc dX9_doAct 29 rfl) rfl ?_
        refine pz_getR (M := mX9_doAct) hb fX9_33 (pc' := 144) rfl (pz_dc dX9_doAct 30 rfl) (fun a12 hb => ?_)
        refine pz_cVi (M := mX9_doAct) (N := mX1_total) (d' := 2) (bc1 := 0) (bs1 := 0) (bc2 := bc) (bs2 := bs) (pc' := 147) [.ref a12] hb vX9_153 rfl (pz_dc dX9_doAct 31 rfl) rfl (Nat.le_of_ble_eq_true rfl) (Nat.le_of_ble_eq_true rfl) rfl (by omega) (by omega) (by omega) (fun x14 h13 hb => ?_)
        exact pz_iret (pz_dc dX9_doAct 32 rfl) rfl hb
      | 12, _, hx =>
        refine ⟨_, 219, rfl, by decide, ?_⟩
        replace hb := hb.2.2.2.2.2.2 (by omega)
        refine pz_iconst (pc' := 220) (v := (-1)) rfl (pz_dc dX9_doAct 73 rfl) ki_m1 ?_
        exact pz_iret (pz_dc dX9_doAct 74 rfl) rfl hb
      | 13, _, hx =>
        refine ⟨_, 148, rfl, by decide, ?_⟩
        replace hb := hb.2.2.2.1 (by omega)
        refine pz_aload_n (pc' := 149) (x := l0) 1 rfl (pz_dc dX9_doAct 33 rfl) rfl ?_
        refine pz_iload_n (pc' := 150) (x := l2) 3 rfl (pz_dc dX9_doAct 34 rfl) rfl ?_
        refine pz_iconst (pc' := 151) (v := 1) rfl (pz_dc dX9_doAct 35 rfl) ki_1 ?_
        refine pz_cVi (M := mX9_doAct) (N := mX9_movePlug) (d' := 2) (bc1 := 0) (bs1 := 0) (bc2 := bc) (bs2 := bs) (pc' := 154) [.int l2, .int 1] hb vX9_372 rfl (pz_dc dX9_doAct 36 rfl) rfl (Nat.le_of_ble_eq_true rfl) (Nat.le_of_ble_eq_true rfl) rfl (by omega) (by omega) (by omega) (fun x16 h15 hb => ?_)
        exact pz_iret (pz_dc dX9_doAct 37 rfl) rfl hb
      | 14, _, hx =>
        refine ⟨_, 219, rfl, by decide, ?_⟩
        replace hb := hb.2.2.2.2.2.2 (by omega)
        refine pz_iconst (pc' := 220) (v := (-1)) rfl (pz_dc dX9_doAct 73 rfl) ki_m1 ?_
        exact pz_iret (pz_dc dX9_doAct 74 rfl) rfl hb
      | 15, _, hx =>
        refine ⟨_, 219, rfl, by decide, ?_⟩
        replace hb := hb.2.2.2.2.2.2 (by omega)
        refine pz_iconst (pc' := 220) (v := (-1)) rfl (pz_dc dX9_doAct 73 rfl) ki_m1 ?_
        exact pz_iret (pz_dc dX9_doAct 74 rfl) rfl hb
      | 16, _, hx =>
        refine ⟨_, 155, rfl, by decide, ?_⟩
        replace hb := hb.2.2.2.2.1 (by omega)
        refine pz_aload_n (pc' := 156) (x := l0) 1 rfl (pz_dc dX9_doAct 38 rfl) rfl ?_
        refine pz_iload_n (pc' := 157) (x := l2) 3 rfl (pz_dc dX9_doAct 39 rfl) rfl ?_
        refine pz_iconst (pc' := 158) (v := 0) rfl (pz_dc dX9_doAct 40 rfl) ki_0 ?_
        refine pz_cVi (M := mX9_doAct) (N := mX9_movePlug) (d' := 2) (bc1 := 0) (bs1 := 0) (bc2 := bc) (bs2 := bs) (pc' := 161) [.int l2, .int 0] hb vX9_372 rfl (pz_dc dX9_doAct 41 rfl) rfl (Nat.le_of_ble_eq_true rfl) (Nat.le_of_ble_eq_true rfl) rfl (by omega) (by omega) (by omega) (fun x18 h17 hb => ?_)
        exact pz_iret (pz_dc dX9_doAct 42 rfl) rfl hb
      | 17, _, hx =>
        refine ⟨_, 168, rfl, by decide, ?_⟩
        replace hb := hb.2.2.2.2.2.1 (by omega)
        refine pz_iload_n (pc' := 169) (x := l3) 4 rfl (pz_dc dX9_doAct 47 rfl) rfl ?_
        refine pz_iconst (pc' := 170) (v := 0) rfl (pz_dc dX9_doAct 48 rfl) ki_0 ?_
        refine pz_bipush (pc' := 172) (v := 9) rfl (pz_dc dX9_doAct 49 rfl) kb_9 ?_
        refine pz_callS (M := mX9_doAct) (N := mX9_isWithin) (d' := 0) (bc1 := 0) (bs1 := 0) (bc2 := bc) (bs2 := bs) (pc' := 175) [.int l3, .int 0, .int 9] sX9_196 rfl (pz_dc dX9_doAct 50 rfl) rfl (Nat.le_of_ble_eq_true rfl) (Nat.le_of_ble_eq_true rfl) rfl (by omega) (by omega) (by omega) ?_
        refine cX9_isWithin ?_
        show pz_V mX9_doAct _ _ _ _ _ 175 [(4, .int s0), (0, .ref l0), (1, .int l1), (2, .int l2), (3, .int l3)] [.int (eX9_isWithin l3 ((0 : Int32)) ((9 : Int32)))] h
        refine pz_if_eq (pc' := 178) (tgt := 193) rfl (pz_dc dX9_doAct 51 rfl) (by decide) (fun hc => ?_) (fun hc => ?_)
        · replace hb := hb.1 hc
          refine pz_iconst (pc' := 194) (v := (-1)) rfl (pz_dc dX9_doAct 59 rfl) ki_m1 ?_
          exact pz_iret (pz_dc dX9_doAct 60 rfl) rfl hb
        · replace hb := hb.2 hc
          refine pz_aload_n (pc' := 179) (x := l0) 1 rfl (pz_dc dX9_doAct 52 rfl) rfl ?_
          refine pz_getR (M := mX9_doAct) hb fX9_33 (pc' := 182) rfl (pz_dc dX9_doAct 53 rfl) (fun a19 hb => ?_)
          refine pz_getR (M := mX9_doAct) hb fX9_124 (pc' := 185) rfl (pz_dc dX9_doAct 54 rfl) (fun a20 hb => ?_)
          refine pz_iload_n (pc' := 186) (x := l2) 3 rfl (pz_dc dX9_doAct 55 rfl) rfl ?_
          refine pz_iload_n (pc' := 187) (x := l3) 4 rfl (pz_dc dX9_doAct 56 rfl) rfl ?_
          refine pz_cSi (M := mX9_doAct) (N := mX9_changeEntry) (d' := 0) (bc1 := 0) (bs1 := 0) (bc2 := bc) (bs2 := bs) (pc' := 190) [.ref a20, .int l2, .int l3] hb sX9_379 rfl (pz_dc dX9_doAct 57 rfl) rfl (Nat.le_of_ble_eq_true rfl) (Nat.le_of_ble_eq_true rfl) rfl (by omega) (by omega) (by omega) (fun x22 h21 hb => ?_)
          refine pz_goto (pc' := 194) (pz_dc dX9_doAct 58 rfl) (by decide) ?_
          exact pz_iret (pz_dc dX9_doAct 60 rfl) rfl hb
      | k + 18, hi, _ => exact absurd hi (by simp only [List.size_toArray, List.length_cons, List.length_nil]; omega)
    · replace hb := hb.2.2.2.2.2.2 (by omega)
      refine pz_iconst (pc' := 220) (v := (-1)) rfl (pz_dc dX9_doAct 73 rfl) ki_m1 ?_
      exact pz_iret (pz_dc dX9_doAct 74 rfl) rfl hb
  · replace hb := hb.2 hc
    refine pz_iconst (pc' := 32) (v := (-1)) rfl (pz_dc dX9_doAct 15 rfl) ki_m1 ?_
    exact pz_iret (pz_dc dX9_doAct 16 rfl) rfl hb
set_option maxRecDepth 20000 in
set_option maxHeartbeats 4000000 in
theorem wX9_movePlug_0 {Ex : State → Nat → Prop} {Q : Option Value → pz_H → Prop} {d bc bs : Nat} {l0 : Nat} {l1 : Int32} {l2 : Int32}  {h : pz_H} (hD : 2 ≤ d) (hb : pz_gR h l0 9 3 (fun (a1 : Nat) => pz_is h a1 8 ∧ (pz_gI h a1 8 5 (fun (x2 : Int32) => (¬ (eX9_isIn x2 l1) = l2 → pz_gR h l0 9 3 (fun (a3 : Nat) => pz_gI h a3 8 5 (fun (x4 : Int32) => pz_pF h a3 8 5 (.int (x4 ^^^ (((1 : Int32)) <<< (l1 &&& 31)))) (fun (h5 : pz_H) => pz_gR h5 l0 9 3 (fun (a6 : Nat) => pz_gI h5 a6 8 5 (fun (x7 : Int32) => pz_ki mJ6_bitCount_0f7a4 0 0 0 ([.int x7]) h5 (fun (x9 : Int32) (h8 : pz_H) => Q (some (.int x9)) h8))))))) ∧ ((eX9_isIn x2 l1) = l2 → Q (some (.int ((-2)))) h))))) : pz_V mX9_movePlug Ex Q d bc bs 0 [(0, .ref l0), (1, .int l1), (2, .int l2)] [] h := by
  refine pz_aload_n (pc' := 1) (x := l0) 0 rfl (pz_dc dX9_movePlug 0 rfl) rfl ?_
  refine pz_getR (M := mX9_movePlug) hb fX9_33 (pc' := 4) rfl (pz_dc dX9_movePlug 1 rfl) (fun a1 hb => ?_)
  refine pz_iload_n (pc' := 5) (x := l1) 1 rfl (pz_dc dX9_movePlug 2 rfl) rfl ?_
  obtain ⟨⟨fs10, hf11⟩, hb⟩ := hb
  refine pz_callV (M := mX9_movePlug) (N := mX8_isOut) (d' := 1) (bc1 := 0) (bs1 := 0) (bc2 := bc) (bs2 := bs) (pc' := 8) [.int l1] vX9_139 rfl (pz_dc dX9_movePlug 3 rfl) rfl (Nat.le_of_ble_eq_true rfl) (Nat.le_of_ble_eq_true rfl) rfl (by omega) (by omega) (by omega) hf11 ?_
  refine pz_aload_n (pc' := 1) (x := a1) 0 rfl (pz_dc dX8_isOut 0 rfl) rfl ?_
  refine pz_getI (M := mX8_isOut) hb fX8_33 (pc' := 4) rfl (pz_dc dX8_isOut 1 rfl) (fun x2 hb => ?_)
  refine pz_iload_n (pc' := 5) (x := l1) 1 rfl (pz_dc dX8_isOut 2 rfl) rfl ?_
  refine pz_callS (M := mX8_isOut) (N := mX9_isIn) (d' := 0) (bc1 := 0) (bs1 := 0) (bc2 := 0) (bs2 := 0) (pc' := 8) [.int x2, .int l1] sX8_46 rfl (pz_dc dX8_isOut 3 rfl) rfl (Nat.le_of_ble_eq_true rfl) (Nat.le_of_ble_eq_true rfl) rfl (by omega) (by omega) (by omega) ?_
  refine cX9_isIn ?_
  show pz_V mX8_isOut _ _ _ _ _ 8 [(0, .ref a1), (1, .int l1)] [.int (eX9_isIn x2 l1)] h
  refine pz_zret (pz_dc dX8_isOut 4 rfl) rfl ⟨zX9_isIn _ _, ?_⟩
  show pz_V mX9_movePlug _ _ _ _ _ 8 [(0, .ref l0), (1, .int l1), (2, .int l2)] [.int (eX9_isIn x2 l1)] h
  refine pz_iload_n (pc' := 9) (x := l2) 2 rfl (pz_dc dX9_movePlug 4 rfl) rfl ?_
  refine pz_icmp_ne (pc' := 12) (tgt := 15) rfl (pz_dc dX9_movePlug 5 rfl) (by decide) (fun hc => ?_) (fun hc => ?_)
  · replace hb := hb.1 hc
    refine pz_aload_n (pc' := 16) (x := l0) 0 rfl (pz_dc dX9_movePlug 8 rfl) rfl ?_
    refine pz_getR (M := mX9_movePlug) hb fX9_33 (pc' := 19) rfl (pz_dc dX9_movePlug 9 rfl) (fun a3 hb => ?_)
    refine pz_dup (pc' := 20) rfl (pz_dc dX9_movePlug 10 rfl) rfl ?_
    refine pz_getI (M := mX9_movePlug) hb fX9_260 (pc' := 23) rfl (pz_dc dX9_movePlug 11 rfl) (fun x4 hb => ?_)
    refine pz_iconst (pc' := 24) (v := 1) rfl (pz_dc dX9_movePlug 12 rfl) ki_1 ?_
    refine pz_iload_n (pc' := 25) (x := l1) 1 rfl (pz_dc dX9_movePlug 13 rfl) rfl ?_
    refine pz_ishl (pc' := 26) rfl (pz_dc dX9_movePlug 14 rfl) ?_
    refine pz_ixor (pc' := 27) rfl (pz_dc dX9_movePlug 15 rfl) ?_
    refine pz_putv (M := mX9_movePlug) hb (pX9_260 _ rfl) rfl rfl (pc' := 30) rfl (pz_dc dX9_movePlug 16 rfl) (fun h5 hb => ?_)
    refine pz_aload_n (pc' := 31) (x := l0) 0 rfl (pz_dc dX9_movePlug 17 rfl) rfl ?_
    refine pz_getR (M := mX9_movePlug) hb fX9_33 (pc' := 34) rfl (pz_dc dX9_movePlug 18 rfl) (fun a6 hb => ?_)
    refine pz_getI (M := mX9_movePlug) hb fX9_260 (pc' := 37) rfl (pz_dc dX9_movePlug 19 rfl) (fun x7 hb => ?_)
    refine pz_cSi (M := mX9_movePlug) (N := mJ6_bitCount_0f7a4) (d' := 0) (bc1 := 0) (bs1 := 0) (bc2 := bc) (bs2 := bs) (pc' := 40) [.int x7] hb sX9_238 rfl (pz_dc dX9_movePlug 20 rfl) rfl (Nat.le_of_ble_eq_true rfl) (Nat.le_of_ble_eq_true rfl) rfl (by omega) (by omega) (by omega) (fun x9 h8 hb => ?_)
    exact pz_iret (pz_dc dX9_movePlug 21 rfl) rfl hb
  · replace hb := hb.2 hc
    refine pz_bipush (pc' := 14) (v := (-2)) rfl (pz_dc dX9_movePlug 6 rfl) kb_m2 ?_
    exact pz_iret (pz_dc dX9_movePlug 7 rfl) rfl hb
set_option maxRecDepth 20000 in
set_option maxHeartbeats 4000000 in
theorem wX9_combHair_0 {Ex : State → Nat → Prop} {Q : Option Value → pz_H → Prop} {d bc bs : Nat} {l0 : Nat} {l1 : Int32}  {h : pz_H}  (hb : pz_gR h l0 9 3 (fun (a1 : Nat) => pz_gR h a1 8 1 (fun (a2 : Nat) => pz_rI h a2 l1 (fun (x3 : Int32) => pz_gR h l0 9 3 (fun (a4 : Nat) => pz_gR h a4 8 1 (fun (a5 : Nat) => pz_sI h a5 l1 0 (fun (h6 : pz_H) => (¬ x3 = 0 → Q (some (.int x3)) h6) ∧ (x3 = 0 → Q (some (.int ((-2)))) h6)))))))) : pz_V mX9_combHair Ex Q d bc bs 0 [(0, .ref l0), (1, .int l1)] [] h := by
  refine pz_aload_n (pc' := 1) (x := l0) 0 rfl (pz_dc dX9_combHair 0 rfl) rfl ?_
  refine pz_getR (M := mX9_combHair) hb fX9_33 (pc' := 4) rfl (pz_dc dX9_combHair 1 rfl) (fun a1 hb => ?_)
  refine pz_getR (M := mX9_combHair) hb fX9_142 (pc' := 7) rfl (pz_dc dX9_combHair 2 rfl) (fun a2 hb => ?_)
  refine pz_iload_n (pc' := 8) (x := l1) 1 rfl (pz_dc dX9_combHair 3 rfl) rfl ?_
  refine pz_ldI hb (pc' := 9) rfl (pz_dc dX9_combHair 4 rfl) (fun x3 hb => ?_)
  refine pz_istore_n (pc' := 10) (lv' := [(2, .int x3), (0, .ref l0), (1, .int l1)]) rfl (pz_dc dX9_combHair 5 rfl) (by decide) rfl ?_
  refine pz_aload_n (pc' := 11) (x := l0) 1 rfl (pz_dc dX9_combHair 6 rfl) rfl ?_
  refine pz_getR (M := mX9_combHair) hb fX9_33 (pc' := 14) rfl (pz_dc dX9_combHair 7 rfl) (fun a4 hb => ?_)
  refine pz_getR (M := mX9_combHair) hb fX9_142 (pc' := 17) rfl (pz_dc dX9_combHair 8 rfl) (fun a5 hb => ?_)
  refine pz_iload_n (pc' := 18) (x := l1) 2 rfl (pz_dc dX9_combHair 9 rfl) rfl ?_
  refine pz_iconst (pc' := 19) (v := 0) rfl (pz_dc dX9_combHair 10 rfl) ki_0 ?_
  refine pz_stI hb (pc' := 20) rfl (pz_dc dX9_combHair 11 rfl) (fun h6 hb => ?_)
  refine pz_iload_n (pc' := 21) (x := x3) 0 rfl (pz_dc dX9_combHair 12 rfl) rfl ?_
  refine pz_if_ne (pc' := 24) (tgt := 29) rfl (pz_dc dX9_combHair 13 rfl) (by decide) (fun hc => ?_) (fun hc => ?_)
  · replace hb := hb.1 hc
    refine pz_iload_n (pc' := 30) (x := x3) 0 rfl (pz_dc dX9_combHair 16 rfl) rfl ?_
    exact pz_iret (pz_dc dX9_combHair 17 rfl) rfl hb
  · replace hb := hb.2 hc
    refine pz_bipush (pc' := 26) (v := (-2)) rfl (pz_dc dX9_combHair 14 rfl) kb_m2 ?_
    refine pz_goto (pc' := 30) (pz_dc dX9_combHair 15 rfl) (by decide) ?_
    exact pz_iret (pz_dc dX9_combHair 17 rfl) rfl hb
set_option maxRecDepth 20000 in
set_option maxHeartbeats 4000000 in
theorem wX9_changeEntry_0 {Ex : State → Nat → Prop} {Q : Option Value → pz_H → Prop} {d bc bs : Nat} {l0 : Nat} {l1 : Int32} {l2 : Int32}  {h : pz_H}  (hb : pz_rI h l0 l1 (fun (x1 : Int32) => (¬ x1 = l2 → pz_sI h l0 l1 l2 (fun (h2 : pz_H) => Q (some (.int (((10 : Int32)) + x1))) h2)) ∧ (x1 = l2 → Q (some (.int ((-2)))) h))) : pz_V mX9_changeEntry Ex Q d bc bs 0 [(0, .ref l0), (1, .int l1), (2, .int l2)] [] h := by
  refine pz_aload_n (pc' := 1) (x := l0) 0 rfl (pz_dc dX9_changeEntry 0 rfl) rfl ?_
  refine pz_iload_n (pc' := 2) (x := l1) 1 rfl (pz_dc dX9_changeEntry 1 rfl) rfl ?_
  refine pz_ldI hb (pc' := 3) rfl (pz_dc dX9_changeEntry 2 rfl) (fun x1 hb => ?_)
  refine pz_istore_n (pc' := 4) (lv' := [(3, .int x1), (0, .ref l0), (1, .int l1), (2, .int l2)]) rfl (pz_dc dX9_changeEntry 3 rfl) (by decide) rfl ?_
  refine pz_iload_n (pc' := 5) (x := x1) 0 rfl (pz_dc dX9_changeEntry 4 rfl) rfl ?_
  refine pz_iload_n (pc' := 6) (x := l2) 3 rfl (pz_dc dX9_changeEntry 5 rfl) rfl ?_
  refine pz_icmp_ne (pc' := 9) (tgt := 12) rfl (pz_dc dX9_changeEntry 6 rfl) (by decide) (fun hc => ?_) (fun hc => ?_)
  · replace hb := hb.1 hc
    refine pz_aload_n (pc' := 13) (x := l0) 1 rfl (pz_dc dX9_changeEntry 9 rfl) rfl ?_
    refine pz_iload_n (pc' := 14) (x := l1) 2 rfl (pz_dc dX9_changeEntry 10 rfl) rfl ?_
    refine pz_iload_n (pc' := 15) (x := l2) 3 rfl (pz_dc dX9_changeEntry 11 rfl) rfl ?_
    refine pz_stI hb (pc' := 16) rfl (pz_dc dX9_changeEntry 12 rfl) (fun h2 hb => ?_)
    refine pz_bipush (pc' := 18) (v := 10) rfl (pz_dc dX9_changeEntry 13 rfl) kb_10 ?_
    refine pz_iload_n (pc' := 19) (x := x1) 0 rfl (pz_dc dX9_changeEntry 14 rfl) rfl ?_
    refine pz_iadd (pc' := 20) rfl (pz_dc dX9_changeEntry 15 rfl) ?_
    exact pz_iret (pz_dc dX9_changeEntry 16 rfl) rfl hb
  · replace hb := hb.2 hc
    refine pz_bipush (pc' := 11) (v := (-2)) rfl (pz_dc dX9_changeEntry 7 rfl) kb_m2 ?_
    exact pz_iret (pz_dc dX9_changeEntry 8 rfl) rfl hb
set_option maxRecDepth 20000 in
set_option maxHeartbeats 4000000 in
theorem wX9_yearFault_0 {Ex : State → Nat → Prop} {Q : Option Value → pz_H → Prop} {d bc bs : Nat} {l0 : Nat}  {h : pz_H} (hD : 1 ≤ d) (hb : pz_V mX9_yearFault Ex Q d bc bs 4 [(0, .ref l0), (1, .int 0), (2, .int 0)] [] h) : pz_V mX9_yearFault Ex Q d bc bs 0 [(0, .ref l0)] [] h := by
  refine pz_iconst (pc' := 1) (v := 0) rfl (pz_dc dX9_yearFault 0 rfl) ki_0 ?_
  refine pz_istore_n (pc' := 2) (lv' := [(1, .int 0), (0, .ref l0)]) rfl (pz_dc dX9_yearFault 1 rfl) (by decide) rfl ?_
  refine pz_iconst (pc' := 3) (v := 0) rfl (pz_dc dX9_yearFault 2 rfl) ki_0 ?_
  refine pz_istore_n (pc' := 4) (lv' := [(2, .int 0), (1, .int 0), (0, .ref l0)]) rfl (pz_dc dX9_yearFault 3 rfl) (by decide) rfl ?_
  refine pz_lv (lv' := [(0, .ref l0), (1, .int 0), (2, .int 0)]) [2, 1, 0] rfl ?_
  exact hb
set_option maxRecDepth 20000 in
set_option maxHeartbeats 4000000 in
theorem wX9_yearFault_4 {Ex : State → Nat → Prop} {Q : Option Value → pz_H → Prop} {d bc bs : Nat} {l0 : Nat} {l1 : Int32} {l2 : Int32}  {h : pz_H} (hD : 1 ≤ d) (hb : (((60 : Int32)) < l2 → Q (some (.int ((-1)))) h) ∧ (¬ ((60 : Int32)) < l2 → pz_gR h l0 9 0 (fun (a1 : Nat) => pz_is h a1 6 ∧ (pz_gI h a1 6 1 (fun (x2 : Int32) => (x2 ≤ l1 → Q (some (.int ((-1)))) h) ∧ (¬ x2 ≤ l1 → pz_gR h l0 9 0 (fun (a3 : Nat) => pz_is h a3 6 ∧ (pz_ki mX6_at 0 0 0 (.ref a3 :: [.int l1, .int 60]) h (fun (x5 : Int32) (h4 : pz_H) => pz_ki mX9_actSigns 0 0 0 ([.int x5]) h4 (fun (x7 : Int32) (h6 : pz_H) => (¬ x7 = 0 → pz_gR h6 l0 9 0 (fun (a8 : Nat) => pz_is h6 a8 6 ∧ (pz_ki mX6_at 0 0 0 (.ref a8 :: [.int (l1 + ((1 : Int32))), .int 60]) h6 (fun (x10 : Int32) (h9 : pz_H) => (¬ (eX9_isDigit x10) = 0 → pz_gR h9 l0 9 0 (fun (a11 : Nat) => pz_is h9 a11 6 ∧ (pz_ki mX6_at 0 0 0 (.ref a11 :: [.int (l1 + ((2 : Int32))), .int 60]) h9 (fun (x13 : Int32) (h12 : pz_H) => (¬ x7 = ((3 : Int32)) → pz_V mX9_yearFault Ex Q d bc bs 4 [(0, .ref l0), (1, .int (l1 + x7)), (2, .int (l2 + (1 : Int32)))] [] h12) ∧ (x7 = ((3 : Int32)) → (¬ x5 = ((103 : Int32)) → (¬ (eX9_isDigit x13) = 0 → pz_V mX9_yearFault Ex Q d bc bs 4 [(0, .ref l0), (1, .int (l1 + x7)), (2, .int (l2 + (1 : Int32)))] [] h12) ∧ ((eX9_isDigit x13) = 0 → Q (some (.int (l1 + ((2 : Int32))))) h12)) ∧ (x5 = ((103 : Int32)) → ((eX9_isKingSign x13) = 0 → Q (some (.int (l1 + ((2 : Int32))))) h12) ∧ (¬ (eX9_isKingSign x13) = 0 → pz_V mX9_yearFault Ex Q d bc bs 4 [(0, .ref l0), (1, .int (l1 + x7)), (2, .int (l2 + (1 : Int32)))] [] h12))))))) ∧ ((eX9_isDigit x10) = 0 → Q (some (.int (l1 + ((1 : Int32))))) h9))))) ∧ (x7 = 0 → Q (some (.int l1)) h6))))))))))) : pz_V mX9_yearFault Ex Q d bc bs 4 [(0, .ref l0), (1, .int l1), (2, .int l2)] [] h := by
  refine pz_iload_n (pc' := 5) (x := l2) 2 rfl (pz_dc dX9_yearFault 4 rfl) rfl ?_
  refine pz_bipush (pc' := 7) (v := 60) rfl (pz_dc dX9_yearFault 5 rfl) kb_60 ?_
  refine pz_icmp_gt (pc' := 10) (tgt := 127) rfl (pz_dc dX9_yearFault 6 rfl) (by decide) (fun hc => ?_) (fun hc => ?_)
  · replace hb := hb.1 hc
    refine pz_iconst (pc' := 128) (v := (-1)) rfl (pz_dc dX9_yearFault 69 rfl) ki_m1 ?_
    exact pz_iret (pz_dc dX9_yearFault 70 rfl) rfl hb
  · replace hb := hb.2 hc
    refine pz_iload_n (pc' := 11) (x := l1) 1 rfl (pz_dc dX9_yearFault 7 rfl) rfl ?_
    refine pz_aload_n (pc' := 12) (x := l0) 0 rfl (pz_dc dX9_yearFault 8 rfl) rfl ?_
    refine pz_getR (M := mX9_yearFault) hb fX9_10 (pc' := 15) rfl (pz_dc dX9_yearFault 9 rfl) (fun a1 hb => ?_)
    obtain ⟨⟨fs14, hf15⟩, hb⟩ := hb
    refine pz_callV (M := mX9_yearFault) (N := mX6_size) (d' := 0) (bc1 := 0) (bs1 := 0) (bc2 := bc) (bs2 := bs) (pc' := 18) [] vX9_89 rfl (pz_dc dX9_yearFault 10 rfl) rfl (Nat.le_of_ble_eq_true rfl) (Nat.le_of_ble_eq_true rfl) rfl (by omega) (by omega) (by omega) hf15 ?_
    refine pz_aload_n (pc' := 1) (x := a1) 0 rfl (pz_dc dX6_size 0 rfl) rfl ?_
    refine pz_getI (M := mX6_size) hb fX6_13 (pc' := 4) rfl (pz_dc dX6_size 1 rfl) (fun x2 hb => ?_)
    refine pz_iret (pz_dc dX6_size 2 rfl) rfl ?_
    show pz_V mX9_yearFault _ _ _ _ _ 18 [(0, .ref l0), (1, .int l1), (2, .int l2)] [.int x2, .int l1] h
    refine pz_icmp_ge (pc' := 21) (tgt := 127) rfl (pz_dc dX9_yearFault 11 rfl) (by decide) (fun hc => ?_) (fun hc => ?_)
    · replace hb := hb.1 hc
      refine pz_iconst (pc' := 128) (v := (-1)) rfl (pz_dc dX9_yearFault 69 rfl) ki_m1 ?_
      exact pz_iret (pz_dc dX9_yearFault 70 rfl) rfl hb
    · replace hb := hb.2 hc
      refine pz_aload_n (pc' := 22) (x := l0) 0 rfl (pz_dc dX9_yearFault 12 rfl) rfl ?_
      refine pz_getR (M := mX9_yearFault) hb fX9_10 (pc' := 25) rfl (pz_dc dX9_yearFault 13 rfl) (fun a3 hb => ?_)
      refine pz_iload_n (pc' := 26) (x := l1) 1 rfl (pz_dc dX9_yearFault 14 rfl) rfl ?_
      refine pz_bipush (pc' := 28) (v := 60) rfl (pz_dc dX9_yearFault 15 rfl) kb_60 ?_
      refine pz_cVi (M := mX9_yearFault) (N := mX6_at) (d' := 0) (bc1 := 0) (bs1 := 0) (bc2 := bc) (bs2 := bs) (pc' := 31) [.int l1, .int 60] hb vX9_182 rfl (pz_dc dX9_yearFault 16 rfl) rfl (Nat.le_of_ble_eq_true rfl) (Nat.le_of_ble_eq_true rfl) rfl (by omega) (by omega) (by omega) (fun x5 h4 hb => ?_)
      refine pz_istore_n (pc' := 32) (lv' := [(3, .int x5), (0, .ref l0), (1, .int l1), (2, .int l2)]) rfl (pz_dc dX9_yearFault 17 rfl) (by decide) rfl ?_
      refine pz_iload_n (pc' := 33) (x := x5) 0 rfl (pz_dc dX9_yearFault 18 rfl) rfl ?_
      refine pz_cSi (M := mX9_yearFault) (N := mX9_actSigns) (d' := 0) (bc1 := 0) (bs1 := 0) (bc2 := bc) (bs2 := bs) (pc' := 36) [.int x5] hb sX9_186 rfl (pz_dc dX9_yearFault 19 rfl) rfl (Nat.le_of_ble_eq_true rfl) (Nat.le_of_ble_eq_true rfl) rfl (by omega) (by omega) (by omega) (fun x7 h6 hb => ?_)
      refine pz_istore (pc' := 38) (lv' := [(4, .int x7), (3, .int x5), (0, .ref l0), (1, .int l1), (2, .int l2)]) rfl (pz_dc dX9_yearFault 20 rfl) (by decide) rfl ?_
      refine pz_iload (pc' := 40) (x := x7) 0 rfl (pz_dc dX9_yearFault 21 rfl) rfl ?_
      refine pz_if_ne (pc' := 43) (tgt := 45) rfl (pz_dc dX9_yearFault 22 rfl) (by decide) (fun hc => ?_) (fun hc => ?_)
      · replace hb := hb.1 hc
        refine pz_aload_n (pc' := 46) (x := l0) 2 rfl (pz_dc dX9_yearFault 25 rfl) rfl ?_
        refine pz_getR (M := mX9_yearFault) hb fX9_10 (pc' := 49) rfl (pz_dc dX9_yearFault 26 rfl) (fun a8 hb => ?_)
        refine pz_iload_n (pc' := 50) (x := l1) 3 rfl (pz_dc dX9_yearFault 27 rfl) rfl ?_
        refine pz_iconst (pc' := 51) (v := 1) rfl (pz_dc dX9_yearFault 28 rfl) ki_1 ?_
        refine pz_iadd (pc' := 52) rfl (pz_dc dX9_yearFault 29 rfl) ?_
        refine pz_bipush (pc' := 54) (v := 60) rfl (pz_dc dX9_yearFault 30 rfl) kb_60 ?_
        refine pz_cVi (M := mX9_yearFault) (N := mX6_at) (d' := 0) (bc1 := 0) (bs1 := 0) (bc2 := bc) (bs2 := bs) (pc' := 57) [.int (l1 + ((1 : Int32))), .int 60] hb vX9_182 rfl (pz_dc dX9_yearFault 31 rfl) rfl (Nat.le_of_ble_eq_true rfl) (Nat.le_of_ble_eq_true rfl) rfl (by omega) (by omega) (by omega) (fun x10 h9 hb => ?_)
        refine pz_callS (M := mX9_yearFault) (N := mX9_isDigit) (d' := 0) (bc1 := 0) (bs1 := 0) (bc2 := bc) (bs2 := bs) (pc' := 60) [.int x10] sX9_355 rfl (pz_dc dX9_yearFault 32 rfl) rfl (Nat.le_of_ble_eq_true rfl) (Nat.le_of_ble_eq_true rfl) rfl (by omega) (by omega) (by omega) ?_
        refine cX9_isDigit ?_
        show pz_V mX9_yearFault _ _ _ _ _ 60 [(4, .int x7), (3, .int x5), (0, .ref l0), (1, .int l1), (2, .int l2)] [.int (eX9_isDigit x10)] h9
        refine pz_if_ne (pc' := 63) (tgt := 67) rfl (pz_dc dX9_yearFault 33 rfl) (by decide) (fun hc => ?_) (fun hc => ?_)
        · replace hb := hb.1 hc
          refine pz_aload_n (pc' := 68) (x := l0) 2 rfl (pz_dc dX9_yearFault 38 rfl) rfl ?_
          refine pz_getR (M := mX9_yearFault) hb fX9_10 (pc' := 71) rfl (pz_dc dX9_yearFault 39 rfl) (fun a11 hb => ?_)
          refine pz_iload_n (pc' := 72) (x := l1) 3 rfl (pz_dc dX9_yearFault 40 rfl) rfl ?_
          refine pz_iconst (pc' := 73) (v := 2) rfl (pz_dc dX9_yearFault 41 rfl) ki_2 ?_
          refine pz_iadd (pc' := 74) rfl (pz_dc dX9_yearFault 42 rfl) ?_
          refine pz_bipush (pc' := 76) (v := 60) rfl (pz_dc dX9_yearFault 43 rfl) kb_60 ?_
          refine pz_cVi (M := mX9_yearFault) (N := mX6_at) (d' := 0) (bc1 := 0) (bs1 := 0) (bc2 := bc) (bs2 := bs) (pc' := 79) [.int (l1 + ((2 : Int32))), .int 60] hb vX9_182 rfl (pz_dc dX9_yearFault 44 rfl) rfl (Nat.le_of_ble_eq_true rfl) (Nat.le_of_ble_eq_true rfl) rfl (by omega) (by omega) (by omega) (fun x13 h12 hb => ?_)
          refine pz_istore (pc' := 81) (lv' := [(5, .int x13), (4, .int x7), (3, .int x5), (0, .ref l0), (1, .int l1), (2, .int l2)]) rfl (pz_dc dX9_yearFault 45 rfl) (by decide) rfl ?_
          refine pz_iload (pc' := 83) (x := x7) 1 rfl (pz_dc dX9_yearFault 46 rfl) rfl ?_
          refine pz_iconst (pc' := 84) (v := 3) rfl (pz_dc dX9_yearFault 47 rfl) ki_3 ?_
          refine pz_icmp_ne (pc' := 87) (tgt := 116) rfl (pz_dc dX9_yearFault 48 rfl) (by decide) (fun hc => ?_) (fun hc => ?_)
          · replace hb := hb.1 hc
            refine pz_iload_n (pc' := 117) (x := l1) 4 rfl (pz_dc dX9_yearFault 63 rfl) rfl ?_
            refine pz_iload (pc' := 119) (x := x7) 1 rfl (pz_dc dX9_yearFault 64 rfl) rfl ?_
            refine pz_iadd (pc' := 120) rfl (pz_dc dX9_yearFault 65 rfl) ?_
            refine pz_istore_n (pc' := 121) (lv' := [(1, .int (l1 + x7)), (5, .int x13), (4, .int x7), (3, .int x5), (0, .ref l0), (2, .int l2)]) rfl (pz_dc dX9_yearFault 66 rfl) (by decide) rfl ?_
            refine pz_iinc (pc' := 124) (x := l2) (v := l2 + (1 : Int32)) (lv' := [(2, .int (l2 + (1 : Int32))), (1, .int (l1 + x7)), (5, .int x13), (4, .int x7), (3, .int x5), (0, .ref l0)]) 5 rfl (pz_dc dX9_yearFault 67 rfl) rfl rfl (by decide) rfl ?_
            refine pz_goto (pc' := 4) (pz_dc dX9_yearFault 68 rfl) (by decide) ?_
            refine pz_lv (lv' := [(0, .ref l0), (1, .int (l1 + x7)), (2, .int (l2 + (1 : Int32)))]) [5, 1, 0] rfl ?_
            exact hb
          · replace hb := hb.2 hc
            refine pz_iload_n (pc' := 88) (x := x5) 2 rfl (pz_dc dX9_yearFault 49 rfl) rfl ?_
            refine pz_bipush (pc' := 90) (v := 103) rfl (pz_dc dX9_yearFault 50 rfl) kb_103 ?_
            refine pz_icmp_ne (pc' := 93) (tgt := 104) rfl (pz_dc dX9_yearFault 51 rfl) (by decide) (fun hc => ?_) (fun hc => ?_)
            · replace hb := hb.1 hc
              refine pz_iload (pc' := 106) (x := x13) 0 rfl (pz_dc dX9_yearFault 56 rfl) rfl ?_
              refine pz_callS (M := mX9_yearFault) (N := mX9_isDigit) (d' := 0) (bc1 := 0) (bs1 := 0) (bc2 := bc) (bs2 := bs) (pc' := 109) [.int x13] sX9_355 rfl (pz_dc dX9_yearFault 57 rfl) rfl (Nat.le_of_ble_eq_true rfl) (Nat.le_of_ble_eq_true rfl) rfl (by omega) (by omega) (by omega) ?_
              refine cX9_isDigit ?_
              show pz_V mX9_yearFault _ _ _ _ _ 109 [(5, .int x13), (4, .int x7), (3, .int x5), (0, .ref l0), (1, .int l1), (2, .int l2)] [.int (eX9_isDigit x13)] h12
              refine pz_if_ne (pc' := 112) (tgt := 116) rfl (pz_dc dX9_yearFault 58 rfl) (by decide) (fun hc => ?_) (fun hc => ?_)
              · replace hb := hb.1 hc
                refine pz_iload_n (pc' := 117) (x := l1) 4 rfl (pz_dc dX9_yearFault 63 rfl) rfl ?_
                refine pz_iload (pc' := 119) (x := x7) 1 rfl (pz_dc dX9_yearFault 64 rfl) rfl ?_
                refine pz_iadd (pc' := 120) rfl (pz_dc dX9_yearFault 65 rfl) ?_
                refine pz_istore_n (pc' := 121) (lv' := [(1, .int (l1 + x7)), (5, .int x13), (4, .int x7), (3, .int x5), (0, .ref l0), (2, .int l2)]) rfl (pz_dc dX9_yearFault 66 rfl) (by decide) rfl ?_
                refine pz_iinc (pc' := 124) (x := l2) (v := l2 + (1 : Int32)) (lv' := [(2, .int (l2 + (1 : Int32))), (1, .int (l1 + x7)), (5, .int x13), (4, .int x7), (3, .int x5), (0, .ref l0)]) 5 rfl (pz_dc dX9_yearFault 67 rfl) rfl rfl (by decide) rfl ?_
                refine pz_goto (pc' := 4) (pz_dc dX9_yearFault 68 rfl) (by decide) ?_
                refine pz_lv (lv' := [(0, .ref l0), (1, .int (l1 + x7)), (2, .int (l2 + (1 : Int32)))]) [5, 1, 0] rfl ?_
                exact hb
              · replace hb := hb.2 hc
                refine pz_iload_n (pc' := 113) (x := l1) 4 rfl (pz_dc dX9_yearFault 59 rfl) rfl ?_
                refine pz_iconst (pc' := 114) (v := 2) rfl (pz_dc dX9_yearFault 60 rfl) ki_2 ?_
                refine pz_iadd (pc' := 115) rfl (pz_dc dX9_yearFault 61 rfl) ?_
                exact pz_iret (pz_dc dX9_yearFault 62 rfl) rfl hb
            · replace hb := hb.2 hc
              refine pz_iload (pc' := 95) (x := x13) 0 rfl (pz_dc dX9_yearFault 52 rfl) rfl ?_
              refine pz_callS (M := mX9_yearFault) (N := mX9_isKingSign) (d' := 0) (bc1 := 0) (bs1 := 0) (bc2 := bc) (bs2 := bs) (pc' := 98) [.int x13] sX9_358 rfl (pz_dc dX9_yearFault 53 rfl) rfl (Nat.le_of_ble_eq_true rfl) (Nat.le_of_ble_eq_true rfl) rfl (by omega) (by omega) (by omega) ?_
              refine cX9_isKingSign ?_
              show pz_V mX9_yearFault _ _ _ _ _ 98 [(5, .int x13), (4, .int x7), (3, .int x5), (0, .ref l0), (1, .int l1), (2, .int l2)] [.int (eX9_isKingSign x13)] h12
              refine pz_if_eq (pc' := 101) (tgt := 112) rfl (pz_dc dX9_yearFault 54 rfl) (by decide) (fun hc => ?_) (fun hc => ?_)
              · replace hb := hb.1 hc
                refine pz_iload_n (pc' := 113) (x := l1) 4 rfl (pz_dc dX9_yearFault 59 rfl) rfl ?_
                refine pz_iconst (pc' := 114) (v := 2) rfl (pz_dc dX9_yearFault 60 rfl) ki_2 ?_
                refine pz_iadd (pc' := 115) rfl (pz_dc dX9_yearFault 61 rfl) ?_
                exact pz_iret (pz_dc dX9_yearFault 62 rfl) rfl hb
              · replace hb := hb.2 hc
                refine pz_goto (pc' := 116) (pz_dc dX9_yearFault 55 rfl) (by decide) ?_
                refine pz_iload_n (pc' := 117) (x := l1) 4 rfl (pz_dc dX9_yearFault 63 rfl) rfl ?_
                refine pz_iload (pc' := 119) (x := x7) 1 rfl (pz_dc dX9_yearFault 64 rfl) rfl ?_
                refine pz_iadd (pc' := 120) rfl (pz_dc dX9_yearFault 65 rfl) ?_
                refine pz_istore_n (pc' := 121) (lv' := [(1, .int (l1 + x7)), (5, .int x13), (4, .int x7), (3, .int x5), (0, .ref l0), (2, .int l2)]) rfl (pz_dc dX9_yearFault 66 rfl) (by decide) rfl ?_
                refine pz_iinc (pc' := 124) (x := l2) (v := l2 + (1 : Int32)) (lv' := [(2, .int (l2 + (1 : Int32))), (1, .int (l1 + x7)), (5, .int x13), (4, .int x7), (3, .int x5), (0, .ref l0)]) 5 rfl (pz_dc dX9_yearFault 67 rfl) rfl rfl (by decide) rfl ?_
                refine pz_goto (pc' := 4) (pz_dc dX9_yearFault 68 rfl) (by decide) ?_
                refine pz_lv (lv' := [(0, .ref l0), (1, .int (l1 + x7)), (2, .int (l2 + (1 : Int32)))]) [5, 1, 0] rfl ?_
                exact hb
        · replace hb := hb.2 hc
          refine pz_iload_n (pc' := 64) (x := l1) 3 rfl (pz_dc dX9_yearFault 34 rfl) rfl ?_
          refine pz_iconst (pc' := 65) (v := 1) rfl (pz_dc dX9_yearFault 35 rfl) ki_1 ?_
          refine pz_iadd (pc' := 66) rfl (pz_dc dX9_yearFault 36 rfl) ?_
          exact pz_iret (pz_dc dX9_yearFault 37 rfl) rfl hb
      · replace hb := hb.2 hc
        refine pz_iload_n (pc' := 44) (x := l1) 3 rfl (pz_dc dX9_yearFault 23 rfl) rfl ?_
        exact pz_iret (pz_dc dX9_yearFault 24 rfl) rfl hb
