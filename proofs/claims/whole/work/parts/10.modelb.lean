set_option maxRecDepth 20000 in
set_option maxHeartbeats 4000000 in
theorem wX10_thing_0 {Ex : State → Nat → Prop} {Q : Option Value → pz_H → Prop} {d bc bs : Nat} {l0 : Nat} {l1 : Int32}  {h : pz_H} (hD : 4 ≤ d + 1) (hb : pz_is h l0 10 ∧ (pz_ki mX10_passes 1 0 0 (.ref l0 :: [.int 45]) h (fun (x2 : Int32) (h1 : pz_H) => (x2 = 0 → pz_is h1 l0 10 ∧ (pz_gI h1 l0 10 14 (fun (x3 : Int32) => (¬ (eX10_fine x3) = 0 → pz_is h1 l0 10 ∧ (pz_ki mX10_here 0 0 0 (.ref l0 :: []) h1 (fun (x8 : Int32) (h7 : pz_H) => (¬ x8 = ((40 : Int32)) → pz_V mX10_thing Ex Q (d + 1) bc bs 67 [(0, .ref l0), (2, .int x8)] [] h7) ∧ (x8 = ((40 : Int32)) → (((4 : Int32)) ≤ l1 → pz_V mX10_thing Ex Q (d + 1) bc bs 67 [(0, .ref l0), (2, .int x8)] [] h7) ∧ (¬ ((4 : Int32)) ≤ l1 → pz_gI h7 l0 10 13 (fun (x9 : Int32) => pz_pF h7 l0 10 13 (.int (x9 + ((1 : Int32)))) (fun (h10 : pz_H) => pz_is h10 l0 10 ∧ (pz_ki mX10_held d 0 0 (.ref l0 :: [.int (l1 + ((1 : Int32)))]) h10 (fun (x12 : Int32) (h11 : pz_H) => pz_is h11 l0 10 ∧ (pz_kv mX10_need 2 0 0 (.ref l0 :: [.int 41]) h11 (fun (h13 : pz_H) => Q (some (.int x12)) h13))))))))))) ∧ ((eX10_fine x3) = 0 → Q (some (.int 0)) h1)))) ∧ (¬ x2 = 0 → pz_is h1 l0 10 ∧ (pz_ki mX10_thing d 0 0 (.ref l0 :: [.int l1]) h1 (fun (x17 : Int32) (h16 : pz_H) => Q (some (.int (-x17))) h16)))))) : pz_V mX10_thing Ex Q (d + 1) bc bs 0 [(0, .ref l0), (1, .int l1)] [] h := by
  refine pz_aload_n (pc' := 1) (x := l0) 0 rfl (pz_dc dX10_thing 0 rfl) rfl ?_
  refine pz_bipush (pc' := 3) (v := 45) rfl (pz_dc dX10_thing 1 rfl) kb_45 ?_
  refine pz_cVi (M := mX10_thing) (N := mX10_passes) (d' := 1) (bc1 := 0) (bs1 := 0) (bc2 := bc) (bs2 := bs) (pc' := 6) [.int 45] hb vX10_142 rfl (pz_dc dX10_thing 2 rfl) rfl (Nat.le_of_ble_eq_true rfl) (Nat.le_of_ble_eq_true rfl) rfl (by omega) (by omega) (by omega) (fun x2 h1 hb => ?_)
  refine pz_if_eq (pc' := 9) (tgt := 16) rfl (pz_dc dX10_thing 3 rfl) (by decide) (fun hc => ?_) (fun hc => ?_)
  · replace hb := hb.1 hc
    refine pz_aload_n (pc' := 17) (x := l0) 0 rfl (pz_dc dX10_thing 9 rfl) rfl ?_
    obtain ⟨⟨fs14, hf15⟩, hb⟩ := hb
    obtain ⟨fs4, x3, g5, g6, hb⟩ := hb
    refine pz_callV (M := mX10_thing) (N := mX10_fine) (d' := 0) (bc1 := 0) (bs1 := 0) (bc2 := bc) (bs2 := bs) (pc' := 20) [] vX10_134 rfl (pz_dc dX10_thing 10 rfl) rfl (Nat.le_of_ble_eq_true rfl) (Nat.le_of_ble_eq_true rfl) rfl (by omega) (by omega) (by omega) hf15 ?_
    refine cX10_fine ⟨fs4, x3, g5, g6, ?_⟩
    show pz_V mX10_thing _ _ _ _ _ 20 [(0, .ref l0), (1, .int l1)] [.int (eX10_fine x3)] h1
    refine pz_if_ne (pc' := 23) (tgt := 25) rfl (pz_dc dX10_thing 11 rfl) (by decide) (fun hc => ?_) (fun hc => ?_)
    · replace hb := hb.1 hc
      refine pz_aload_n (pc' := 26) (x := l0) 0 rfl (pz_dc dX10_thing 14 rfl) rfl ?_
      refine pz_cVi (M := mX10_thing) (N := mX10_here) (d' := 0) (bc1 := 0) (bs1 := 0) (bc2 := bc) (bs2 := bs) (pc' := 29) [] hb vX10_138 rfl (pz_dc dX10_thing 15 rfl) rfl (Nat.le_of_ble_eq_true rfl) (Nat.le_of_ble_eq_true rfl) rfl (by omega) (by omega) (by omega) (fun x8 h7 hb => ?_)
      refine pz_istore_n (pc' := 30) (lv' := [(2, .int x8), (0, .ref l0), (1, .int l1)]) rfl (pz_dc dX10_thing 16 rfl) (by decide) rfl ?_
      refine pz_iload_n (pc' := 31) (x := x8) 0 rfl (pz_dc dX10_thing 17 rfl) rfl ?_
      refine pz_bipush (pc' := 33) (v := 40) rfl (pz_dc dX10_thing 18 rfl) kb_40 ?_
      refine pz_icmp_ne (pc' := 36) (tgt := 67) rfl (pz_dc dX10_thing 19 rfl) (by decide) (fun hc => ?_) (fun hc => ?_)
      · replace hb := hb.1 hc
        refine pz_lv (lv' := [(0, .ref l0), (2, .int x8)]) [1, 0] rfl ?_
        exact hb
      · replace hb := hb.2 hc
        refine pz_iload_n (pc' := 37) (x := l1) 2 rfl (pz_dc dX10_thing 20 rfl) rfl ?_
        refine pz_iconst (pc' := 38) (v := 4) rfl (pz_dc dX10_thing 21 rfl) ki_4 ?_
        refine pz_icmp_ge (pc' := 41) (tgt := 67) rfl (pz_dc dX10_thing 22 rfl) (by decide) (fun hc => ?_) (fun hc => ?_)
        · replace hb := hb.1 hc
          refine pz_lv (lv' := [(0, .ref l0), (2, .int x8)]) [1, 0] rfl ?_
          exact hb
        · replace hb := hb.2 hc
          refine pz_aload_n (pc' := 42) (x := l0) 1 rfl (pz_dc dX10_thing 23 rfl) rfl ?_
          refine pz_dup (pc' := 43) rfl (pz_dc dX10_thing 24 rfl) rfl ?_
          refine pz_getI (M := mX10_thing) hb fX10_124 (pc' := 46) rfl (pz_dc dX10_thing 25 rfl) (fun x9 hb => ?_)
          refine pz_iconst (pc' := 47) (v := 1) rfl (pz_dc dX10_thing 26 rfl) ki_1 ?_
          refine pz_iadd (pc' := 48) rfl (pz_dc dX10_thing 27 rfl) ?_
          refine pz_putv (M := mX10_thing) hb (pX10_124 _ rfl) rfl rfl (pc' := 51) rfl (pz_dc dX10_thing 28 rfl) (fun h10 hb => ?_)
          refine pz_aload_n (pc' := 52) (x := l0) 1 rfl (pz_dc dX10_thing 29 rfl) rfl ?_
          refine pz_iload_n (pc' := 53) (x := l1) 2 rfl (pz_dc dX10_thing 30 rfl) rfl ?_
          refine pz_iconst (pc' := 54) (v := 1) rfl (pz_dc dX10_thing 31 rfl) ki_1 ?_
          refine pz_iadd (pc' := 55) rfl (pz_dc dX10_thing 32 rfl) ?_
          refine pz_cVi (M := mX10_thing) (N := mX10_held) (d' := d) (bc1 := 0) (bs1 := 0) (bc2 := bc) (bs2 := bs) (pc' := 58) [.int (l1 + ((1 : Int32)))] hb vX10_179 rfl (pz_dc dX10_thing 33 rfl) rfl (Nat.le_of_ble_eq_true rfl) (Nat.le_of_ble_eq_true rfl) rfl (by omega) (by omega) (by omega) (fun x12 h11 hb => ?_)
          refine pz_istore_n (pc' := 59) (lv' := [(3, .int x12), (2, .int x8), (0, .ref l0), (1, .int l1)]) rfl (pz_dc dX10_thing 34 rfl) (by decide) rfl ?_
          refine pz_aload_n (pc' := 60) (x := l0) 2 rfl (pz_dc dX10_thing 35 rfl) rfl ?_
          refine pz_bipush (pc' := 62) (v := 41) rfl (pz_dc dX10_thing 36 rfl) kb_41 ?_
          refine pz_cVv (M := mX10_thing) (N := mX10_need) (d' := 2) (bc1 := 0) (bs1 := 0) (bc2 := bc) (bs2 := bs) (pc' := 65) [.int 41] hb vX10_182 rfl (pz_dc dX10_thing 37 rfl) rfl (Nat.le_of_ble_eq_true rfl) (Nat.le_of_ble_eq_true rfl) rfl (by omega) (by omega) (by omega) (fun h13 hb => ?_)
          refine pz_iload_n (pc' := 66) (x := x12) 0 rfl (pz_dc dX10_thing 38 rfl) rfl ?_
          exact pz_iret (pz_dc dX10_thing 39 rfl) rfl hb
    · replace hb := hb.2 hc
      refine pz_iconst (pc' := 24) (v := 0) rfl (pz_dc dX10_thing 12 rfl) ki_0 ?_
      exact pz_iret (pz_dc dX10_thing 13 rfl) rfl hb
  · replace hb := hb.2 hc
    refine pz_aload_n (pc' := 10) (x := l0) 0 rfl (pz_dc dX10_thing 4 rfl) rfl ?_
    refine pz_iload_n (pc' := 11) (x := l1) 1 rfl (pz_dc dX10_thing 5 rfl) rfl ?_
    refine pz_cVi (M := mX10_thing) (N := mX10_thing) (d' := d) (bc1 := 0) (bs1 := 0) (bc2 := bc) (bs2 := bs) (pc' := 14) [.int l1] hb vX10_176 rfl (pz_dc dX10_thing 6 rfl) rfl (Nat.le_of_ble_eq_true rfl) (Nat.le_of_ble_eq_true rfl) rfl (by omega) (by omega) (by omega) (fun x17 h16 hb => ?_)
    refine pz_ineg (pc' := 15) rfl (pz_dc dX10_thing 7 rfl) ?_
    exact pz_iret (pz_dc dX10_thing 8 rfl) rfl hb
set_option maxRecDepth 20000 in
set_option maxHeartbeats 4000000 in
theorem wX10_thing_67 {Ex : State → Nat → Prop} {Q : Option Value → pz_H → Prop} {d bc bs : Nat} {l0 : Nat} {l2 : Int32}  {h : pz_H} (hD : 4 ≤ d + 1) (hb : ((eX10_in l2 ((48 : Int32)) ((57 : Int32))) = 0 → (¬ (eX10_letterOf l2) = ((-1 : Int32)) → pz_gI h l0 10 13 (fun (x1 : Int32) => pz_pF h l0 10 13 (.int (x1 + ((1 : Int32)))) (fun (h2 : pz_H) => pz_gI h2 l0 10 19 (fun (x3 : Int32) => (x3 = 0 → Q (some (.int 0)) h2) ∧ (¬ x3 = 0 → pz_gR h2 l0 10 20 (fun (a4 : Nat) => pz_rI h2 a4 (eX10_letterOf l2) (fun (x5 : Int32) => Q (some (.int x5)) h2))))))) ∧ ((eX10_letterOf l2) = ((-1 : Int32)) → pz_gI h l0 10 13 (fun (x6 : Int32) => pz_is h l0 10 ∧ (pz_kv mX10_fault 1 0 0 (.ref l0 :: [.int x6]) h (fun (h7 : pz_H) => Q (some (.int 0)) h7))))) ∧ (¬ (eX10_in l2 ((48 : Int32)) ((57 : Int32))) = 0 → pz_is h l0 10 ∧ (pz_ki mX10_number 3 0 0 (.ref l0 :: [.int 3]) h (fun (x9 : Int32) (h8 : pz_H) => Q (some (.int x9)) h8)))) : pz_V mX10_thing Ex Q (d + 1) bc bs 67 [(0, .ref l0), (2, .int l2)] [] h := by
  refine pz_iload_n (pc' := 68) (x := l2) 1 rfl (pz_dc dX10_thing 40 rfl) rfl ?_
  refine pz_bipush (pc' := 70) (v := 48) rfl (pz_dc dX10_thing 41 rfl) kb_48 ?_
  refine pz_bipush (pc' := 72) (v := 57) rfl (pz_dc dX10_thing 42 rfl) kb_57 ?_
  refine pz_callS (M := mX10_thing) (N := mX10_in) (d' := 0) (bc1 := 0) (bs1 := 0) (bc2 := bc) (bs2 := bs) (pc' := 75) [.int l2, .int 48, .int 57] sX10_104 rfl (pz_dc dX10_thing 43 rfl) rfl (Nat.le_of_ble_eq_true rfl) (Nat.le_of_ble_eq_true rfl) rfl (by omega) (by omega) (by omega) ?_
  refine cX10_in ?_
  show pz_V mX10_thing _ _ _ _ _ 75 [(0, .ref l0), (2, .int l2)] [.int (eX10_in l2 ((48 : Int32)) ((57 : Int32)))] h
  refine pz_if_eq (pc' := 78) (tgt := 84) rfl (pz_dc dX10_thing 44 rfl) (by decide) (fun hc => ?_) (fun hc => ?_)
  · replace hb := hb.1 hc
    refine pz_iload_n (pc' := 85) (x := l2) 1 rfl (pz_dc dX10_thing 49 rfl) rfl ?_
    refine pz_callS (M := mX10_thing) (N := mX10_letterOf) (d' := 0) (bc1 := 0) (bs1 := 0) (bc2 := bc) (bs2 := bs) (pc' := 88) [.int l2] sX10_189 rfl (pz_dc dX10_thing 50 rfl) rfl (Nat.le_of_ble_eq_true rfl) (Nat.le_of_ble_eq_true rfl) rfl (by omega) (by omega) (by omega) ?_
    refine cX10_letterOf ?_
    show pz_V mX10_thing _ _ _ _ _ 88 [(0, .ref l0), (2, .int l2)] [.int (eX10_letterOf l2)] h
    refine pz_iconst (pc' := 89) (v := (-1)) rfl (pz_dc dX10_thing 51 rfl) ki_m1 ?_
    refine pz_icmp_ne (pc' := 92) (tgt := 102) rfl (pz_dc dX10_thing 52 rfl) (by decide) (fun hc => ?_) (fun hc => ?_)
    · replace hb := hb.1 hc
      refine pz_aload_n (pc' := 103) (x := l0) 0 rfl (pz_dc dX10_thing 59 rfl) rfl ?_
      refine pz_dup (pc' := 104) rfl (pz_dc dX10_thing 60 rfl) rfl ?_
      refine pz_getI (M := mX10_thing) hb fX10_124 (pc' := 107) rfl (pz_dc dX10_thing 61 rfl) (fun x1 hb => ?_)
      refine pz_iconst (pc' := 108) (v := 1) rfl (pz_dc dX10_thing 62 rfl) ki_1 ?_
      refine pz_iadd (pc' := 109) rfl (pz_dc dX10_thing 63 rfl) ?_
      refine pz_putv (M := mX10_thing) hb (pX10_124 _ rfl) rfl rfl (pc' := 112) rfl (pz_dc dX10_thing 64 rfl) (fun h2 hb => ?_)
      refine pz_aload_n (pc' := 113) (x := l0) 0 rfl (pz_dc dX10_thing 65 rfl) rfl ?_
      refine pz_getI (M := mX10_thing) hb fX10_192 (pc' := 116) rfl (pz_dc dX10_thing 66 rfl) (fun x3 hb => ?_)
      refine pz_if_eq (pc' := 119) (tgt := 131) rfl (pz_dc dX10_thing 67 rfl) (by decide) (fun hc => ?_) (fun hc => ?_)
      · replace hb := hb.1 hc
        refine pz_iconst (pc' := 132) (v := 0) rfl (pz_dc dX10_thing 74 rfl) ki_0 ?_
        exact pz_iret (pz_dc dX10_thing 75 rfl) rfl hb
      · replace hb := hb.2 hc
        refine pz_aload_n (pc' := 120) (x := l0) 0 rfl (pz_dc dX10_thing 68 rfl) rfl ?_
        refine pz_getR (M := mX10_thing) hb fX10_39 (pc' := 123) rfl (pz_dc dX10_thing 69 rfl) (fun a4 hb => ?_)
        refine pz_iload_n (pc' := 124) (x := l2) 1 rfl (pz_dc dX10_thing 70 rfl) rfl ?_
        refine pz_callS (M := mX10_thing) (N := mX10_letterOf) (d' := 0) (bc1 := 0) (bs1 := 0) (bc2 := bc) (bs2 := bs) (pc' := 127) [.int l2] sX10_189 rfl (pz_dc dX10_thing 71 rfl) rfl (Nat.le_of_ble_eq_true rfl) (Nat.le_of_ble_eq_true rfl) rfl (by omega) (by omega) (by omega) ?_
        refine cX10_letterOf ?_
        show pz_V mX10_thing _ _ _ _ _ 127 [(0, .ref l0), (2, .int l2)] [.int (eX10_letterOf l2), .ref a4] h2
        refine pz_ldI hb (pc' := 128) rfl (pz_dc dX10_thing 72 rfl) (fun x5 hb => ?_)
        refine pz_goto (pc' := 132) (pz_dc dX10_thing 73 rfl) (by decide) ?_
        exact pz_iret (pz_dc dX10_thing 75 rfl) rfl hb
    · replace hb := hb.2 hc
      refine pz_aload_n (pc' := 93) (x := l0) 0 rfl (pz_dc dX10_thing 53 rfl) rfl ?_
      refine pz_aload_n (pc' := 94) (x := l0) 0 rfl (pz_dc dX10_thing 54 rfl) rfl ?_
      refine pz_getI (M := mX10_thing) hb fX10_124 (pc' := 97) rfl (pz_dc dX10_thing 55 rfl) (fun x6 hb => ?_)
      refine pz_cVv (M := mX10_thing) (N := mX10_fault) (d' := 1) (bc1 := 0) (bs1 := 0) (bc2 := bc) (bs2 := bs) (pc' := 100) [.int x6] hb vX10_146 rfl (pz_dc dX10_thing 56 rfl) rfl (Nat.le_of_ble_eq_true rfl) (Nat.le_of_ble_eq_true rfl) rfl (by omega) (by omega) (by omega) (fun h7 hb => ?_)
      refine pz_iconst (pc' := 101) (v := 0) rfl (pz_dc dX10_thing 57 rfl) ki_0 ?_
      exact pz_iret (pz_dc dX10_thing 58 rfl) rfl hb
  · replace hb := hb.2 hc
    refine pz_aload_n (pc' := 79) (x := l0) 0 rfl (pz_dc dX10_thing 45 rfl) rfl ?_
    refine pz_iconst (pc' := 80) (v := 3) rfl (pz_dc dX10_thing 46 rfl) ki_3 ?_
    refine pz_cVi (M := mX10_thing) (N := mX10_number) (d' := 3) (bc1 := 0) (bs1 := 0) (bc2 := bc) (bs2 := bs) (pc' := 83) [.int 3] hb vX10_186 rfl (pz_dc dX10_thing 47 rfl) rfl (Nat.le_of_ble_eq_true rfl) (Nat.le_of_ble_eq_true rfl) rfl (by omega) (by omega) (by omega) (fun x9 h8 hb => ?_)
    exact pz_iret (pz_dc dX10_thing 48 rfl) rfl hb
set_option maxRecDepth 20000 in
set_option maxHeartbeats 4000000 in
theorem wX10_readRule_0 {Ex : State → Nat → Prop} {Q : Option Value → pz_H → Prop} {d bc bs : Nat} {l0 : Nat}  {h : pz_H} (hD : 81 ≤ d) (hb : pz_is h l0 10 ∧ (pz_kv mX10_beginText 1 0 0 (.ref l0 :: [.int 40]) h (fun (h1 : pz_H) => pz_pF h1 l0 10 19 (.int 0) (fun (h2 : pz_H) => pz_gI h2 l0 10 11 (fun (x3 : Int32) => (x3 ≤ 0 → pz_is h2 l0 10 ∧ (pz_ki mX10_wasRight 2 0 0 (.ref l0 :: []) h2 (fun (x5 : Int32) (h4 : pz_H) => (x5 = 0 ∨ x5 = 1) ∧ Q (some (.int x5)) h4))) ∧ (¬ x3 ≤ 0 → pz_is h2 l0 10 ∧ (pz_ki mX10_held 80 0 0 (.ref l0 :: [.int 0]) h2 (fun (x7 : Int32) (h6 : pz_H) => pz_is h6 l0 10 ∧ (pz_ki mX10_wasRight 2 0 0 (.ref l0 :: []) h6 (fun (x9 : Int32) (h8 : pz_H) => (x9 = 0 ∨ x9 = 1) ∧ Q (some (.int x9)) h8)))))))))) : pz_V mX10_readRule Ex Q d bc bs 0 [(0, .ref l0)] [] h := by
  refine pz_aload_n (pc' := 1) (x := l0) 0 rfl (pz_dc dX10_readRule 0 rfl) rfl ?_
  refine pz_bipush (pc' := 3) (v := 40) rfl (pz_dc dX10_readRule 1 rfl) kb_40 ?_
  refine pz_cVv (M := mX10_readRule) (N := mX10_beginText) (d' := 1) (bc1 := 0) (bs1 := 0) (bc2 := bc) (bs2 := bs) (pc' := 6) [.int 40] hb vX10_154 rfl (pz_dc dX10_readRule 2 rfl) rfl (Nat.le_of_ble_eq_true rfl) (Nat.le_of_ble_eq_true rfl) rfl (by omega) (by omega) (by omega) (fun h1 hb => ?_)
  refine pz_aload_n (pc' := 7) (x := l0) 0 rfl (pz_dc dX10_readRule 3 rfl) rfl ?_
  refine pz_iconst (pc' := 8) (v := 0) rfl (pz_dc dX10_readRule 4 rfl) ki_0 ?_
  refine pz_putv (M := mX10_readRule) hb (pX10_192 _ rfl) rfl rfl (pc' := 11) rfl (pz_dc dX10_readRule 5 rfl) (fun h2 hb => ?_)
  refine pz_aload_n (pc' := 12) (x := l0) 0 rfl (pz_dc dX10_readRule 6 rfl) rfl ?_
  refine pz_getI (M := mX10_readRule) hb fX10_118 (pc' := 15) rfl (pz_dc dX10_readRule 7 rfl) (fun x3 hb => ?_)
  refine pz_if_le (pc' := 18) (tgt := 24) rfl (pz_dc dX10_readRule 8 rfl) (by decide) (fun hc => ?_) (fun hc => ?_)
  · replace hb := hb.1 hc
    refine pz_aload_n (pc' := 25) (x := l0) 0 rfl (pz_dc dX10_readRule 13 rfl) rfl ?_
    refine pz_cVi (M := mX10_readRule) (N := mX10_wasRight) (d' := 2) (bc1 := 0) (bs1 := 0) (bc2 := bc) (bs2 := bs) (pc' := 28) [] hb vX10_160 rfl (pz_dc dX10_readRule 14 rfl) rfl (Nat.le_of_ble_eq_true rfl) (Nat.le_of_ble_eq_true rfl) rfl (by omega) (by omega) (by omega) (fun x5 h4 hb => ?_)
    exact pz_zret (pz_dc dX10_readRule 15 rfl) rfl hb
  · replace hb := hb.2 hc
    refine pz_aload_n (pc' := 19) (x := l0) 0 rfl (pz_dc dX10_readRule 9 rfl) rfl ?_
    refine pz_iconst (pc' := 20) (v := 0) rfl (pz_dc dX10_readRule 10 rfl) ki_0 ?_
    refine pz_cVi (M := mX10_readRule) (N := mX10_held) (d' := 80) (bc1 := 0) (bs1 := 0) (bc2 := bc) (bs2 := bs) (pc' := 23) [.int 0] hb vX10_179 rfl (pz_dc dX10_readRule 11 rfl) rfl (Nat.le_of_ble_eq_true rfl) (Nat.le_of_ble_eq_true rfl) rfl (by omega) (by omega) (by omega) (fun x7 h6 hb => ?_)
    refine pz_pop (pc' := 24) rfl (pz_dc dX10_readRule 12 rfl) rfl ?_
    refine pz_aload_n (pc' := 25) (x := l0) 0 rfl (pz_dc dX10_readRule 13 rfl) rfl ?_
    refine pz_cVi (M := mX10_readRule) (N := mX10_wasRight) (d' := 2) (bc1 := 0) (bs1 := 0) (bc2 := bc) (bs2 := bs) (pc' := 28) [] hb vX10_160 rfl (pz_dc dX10_readRule 14 rfl) rfl (Nat.le_of_ble_eq_true rfl) (Nat.le_of_ble_eq_true rfl) rfl (by omega) (by omega) (by omega) (fun x9 h8 hb => ?_)
    exact pz_zret (pz_dc dX10_readRule 15 rfl) rfl hb
set_option maxRecDepth 20000 in
set_option maxHeartbeats 4000000 in
theorem wX10_rule_0 {Ex : State → Nat → Prop} {Q : Option Value → pz_H → Prop} {d bc bs : Nat} {l0 : Nat}  {h : pz_H} (hD : 82 ≤ d) (hb : pz_pF h l0 10 9 (.int 0) (fun (h1 : pz_H) => pz_gI h1 l0 10 6 (fun (x2 : Int32) => pz_is h1 l0 10 ∧ (pz_ki mX10_readRule 81 0 0 (.ref l0 :: []) h1 (fun (x4 : Int32) (h3 : pz_H) => (¬ x4 = 0 → pz_V mX10_rule Ex Q d bc bs 26 [(0, .ref l0), (1, .int x2), (2, .int 0)] [] h3) ∧ (x4 = 0 → pz_gI h3 l0 10 14 (fun (x5 : Int32) => Q (some (.int (((-1 : Int32)) - x5))) h3))))))) : pz_V mX10_rule Ex Q d bc bs 0 [(0, .ref l0)] [] h := by
  refine pz_aload_n (pc' := 1) (x := l0) 0 rfl (pz_dc dX10_rule 0 rfl) rfl ?_
  refine pz_iconst (pc' := 2) (v := 0) rfl (pz_dc dX10_rule 1 rfl) ki_0 ?_
  refine pz_putv (M := mX10_rule) hb (pX10_95 _ rfl) rfl rfl (pc' := 5) rfl (pz_dc dX10_rule 2 rfl) (fun h1 hb => ?_)
  refine pz_aload_n (pc' := 6) (x := l0) 0 rfl (pz_dc dX10_rule 3 rfl) rfl ?_
  refine pz_getI (M := mX10_rule) hb fX10_112 (pc' := 9) rfl (pz_dc dX10_rule 4 rfl) (fun x2 hb => ?_)
  refine pz_istore_n (pc' := 10) (lv' := [(1, .int x2), (0, .ref l0)]) rfl (pz_dc dX10_rule 5 rfl) (by decide) rfl ?_
  refine pz_aload_n (pc' := 11) (x := l0) 1 rfl (pz_dc dX10_rule 6 rfl) rfl ?_
  refine pz_cVi (M := mX10_rule) (N := mX10_readRule) (d' := 81) (bc1 := 0) (bs1 := 0) (bc2 := bc) (bs2 := bs) (pc' := 14) [] hb vX10_196 rfl (pz_dc dX10_rule 7 rfl) rfl (Nat.le_of_ble_eq_true rfl) (Nat.le_of_ble_eq_true rfl) rfl (by omega) (by omega) (by omega) (fun x4 h3 hb => ?_)
  refine pz_if_ne (pc' := 17) (tgt := 24) rfl (pz_dc dX10_rule 8 rfl) (by decide) (fun hc => ?_) (fun hc => ?_)
  · replace hb := hb.1 hc
    refine pz_iconst (pc' := 25) (v := 0) rfl (pz_dc dX10_rule 14 rfl) ki_0 ?_
    refine pz_istore_n (pc' := 26) (lv' := [(2, .int 0), (1, .int x2), (0, .ref l0)]) rfl (pz_dc dX10_rule 15 rfl) (by decide) rfl ?_
    refine pz_lv (lv' := [(0, .ref l0), (1, .int x2), (2, .int 0)]) [2, 1, 0] rfl ?_
    exact hb
  · replace hb := hb.2 hc
    refine pz_iconst (pc' := 18) (v := (-1)) rfl (pz_dc dX10_rule 9 rfl) ki_m1 ?_
    refine pz_aload_n (pc' := 19) (x := l0) 1 rfl (pz_dc dX10_rule 10 rfl) rfl ?_
    refine pz_getI (M := mX10_rule) hb fX10_127 (pc' := 22) rfl (pz_dc dX10_rule 11 rfl) (fun x5 hb => ?_)
    refine pz_isub (pc' := 23) rfl (pz_dc dX10_rule 12 rfl) ?_
    exact pz_iret (pz_dc dX10_rule 13 rfl) rfl hb
set_option maxRecDepth 20000 in
set_option maxHeartbeats 4000000 in
theorem wX10_rule_26 {Ex : State → Nat → Prop} {Q : Option Value → pz_H → Prop} {d bc bs : Nat} {l0 : Nat} {l1 : Int32} {l2 : Int32}  {h : pz_H} (hD : 82 ≤ d) (hb : (l1 ≤ l2 → pz_pF h l0 10 18 (.int l1) (fun (h1 : pz_H) => Q (some (.int 0)) h1)) ∧ (¬ l1 ≤ l2 → pz_gR h l0 10 16 (fun (a2 : Nat) => pz_gR h l0 10 5 (fun (a3 : Nat) => pz_rB h a3 l2 (fun (x4 : Int32) => pz_sB h a2 l2 x4 (fun (h5 : pz_H) => pz_V mX10_rule Ex Q d bc bs 26 [(0, .ref l0), (1, .int l1), (2, .int (l2 + (1 : Int32)))] [] h5)))))) : pz_V mX10_rule Ex Q d bc bs 26 [(0, .ref l0), (1, .int l1), (2, .int l2)] [] h := by
  refine pz_iload_n (pc' := 27) (x := l2) 2 rfl (pz_dc dX10_rule 16 rfl) rfl ?_
  refine pz_iload_n (pc' := 28) (x := l1) 1 rfl (pz_dc dX10_rule 17 rfl) rfl ?_
  refine pz_icmp_ge (pc' := 31) (tgt := 49) rfl (pz_dc dX10_rule 18 rfl) (by decide) (fun hc => ?_) (fun hc => ?_)
  · replace hb := hb.1 hc
    refine pz_aload_n (pc' := 50) (x := l0) 0 rfl (pz_dc dX10_rule 29 rfl) rfl ?_
    refine pz_iload_n (pc' := 51) (x := l1) 1 rfl (pz_dc dX10_rule 30 rfl) rfl ?_
    refine pz_putv (M := mX10_rule) hb (pX10_199 _ rfl) rfl rfl (pc' := 54) rfl (pz_dc dX10_rule 31 rfl) (fun h1 hb => ?_)
    refine pz_iconst (pc' := 55) (v := 0) rfl (pz_dc dX10_rule 32 rfl) ki_0 ?_
    exact pz_iret (pz_dc dX10_rule 33 rfl) rfl hb
  · replace hb := hb.2 hc
    refine pz_aload_n (pc' := 32) (x := l0) 0 rfl (pz_dc dX10_rule 19 rfl) rfl ?_
    refine pz_getR (M := mX10_rule) hb fX10_33 (pc' := 35) rfl (pz_dc dX10_rule 20 rfl) (fun a2 hb => ?_)
    refine pz_iload_n (pc' := 36) (x := l2) 2 rfl (pz_dc dX10_rule 21 rfl) rfl ?_
    refine pz_aload_n (pc' := 37) (x := l0) 0 rfl (pz_dc dX10_rule 22 rfl) rfl ?_
    refine pz_getR (M := mX10_rule) hb fX10_22 (pc' := 40) rfl (pz_dc dX10_rule 23 rfl) (fun a3 hb => ?_)
    refine pz_iload_n (pc' := 41) (x := l2) 2 rfl (pz_dc dX10_rule 24 rfl) rfl ?_
    refine pz_ldB hb (pc' := 42) rfl (pz_dc dX10_rule 25 rfl) (fun x4 hb => ?_)
    refine pz_stB hb (pc' := 43) rfl (pz_dc dX10_rule 26 rfl) (fun h5 hb => ?_)
    refine pz_iinc (pc' := 46) (x := l2) (v := l2 + (1 : Int32)) (lv' := [(2, .int (l2 + (1 : Int32))), (0, .ref l0), (1, .int l1)]) 2 rfl (pz_dc dX10_rule 27 rfl) rfl rfl (by decide) rfl ?_
    refine pz_goto (pc' := 26) (pz_dc dX10_rule 28 rfl) (by decide) ?_
    refine pz_lv (lv' := [(0, .ref l0), (1, .int l1), (2, .int (l2 + (1 : Int32)))]) [1, 2, 0] rfl ?_
    exact hb
set_option maxRecDepth 20000 in
set_option maxHeartbeats 4000000 in
theorem wX10_outOnes_0 {Ex : State → Nat → Prop} {Q : Option Value → pz_H → Prop} {d bc bs : Nat} {l0 : Nat} {l1 : Nat}  {h : pz_H}  (hb : pz_V mX10_outOnes Ex Q d bc bs 4 [(0, .ref l0), (1, .ref l1), (2, .int 0), (3, .int 0)] [] h) : pz_V mX10_outOnes Ex Q d bc bs 0 [(0, .ref l0), (1, .ref l1)] [] h := by
  refine pz_iconst (pc' := 1) (v := 0) rfl (pz_dc dX10_outOnes 0 rfl) ki_0 ?_
  refine pz_istore_n (pc' := 2) (lv' := [(2, .int 0), (0, .ref l0), (1, .ref l1)]) rfl (pz_dc dX10_outOnes 1 rfl) (by decide) rfl ?_
  refine pz_iconst (pc' := 3) (v := 0) rfl (pz_dc dX10_outOnes 2 rfl) ki_0 ?_
  refine pz_istore_n (pc' := 4) (lv' := [(3, .int 0), (2, .int 0), (0, .ref l0), (1, .ref l1)]) rfl (pz_dc dX10_outOnes 3 rfl) (by decide) rfl ?_
  refine pz_lv (lv' := [(0, .ref l0), (1, .ref l1), (2, .int 0), (3, .int 0)]) [2, 3, 1, 0] rfl ?_
  exact hb
set_option maxRecDepth 20000 in
set_option maxHeartbeats 4000000 in
theorem wX10_outOnes_4 {Ex : State → Nat → Prop} {Q : Option Value → pz_H → Prop} {d bc bs : Nat} {l0 : Nat} {l1 : Nat} {l2 : Int32} {l3 : Int32}  {h : pz_H}  (hb : pz_gI h l0 10 1 (fun (x1 : Int32) => (x1 ≤ l3 → Q (some (.int l2)) h) ∧ (¬ x1 ≤ l3 → pz_rI h l1 (((6 : Int32)) + l3) (fun (x2 : Int32) => pz_V mX10_outOnes Ex Q d bc bs 4 [(0, .ref l0), (1, .ref l1), (2, .int (l2 ||| (x2 <<< (l3 &&& 31)))), (3, .int (l3 + (1 : Int32)))] [] h)))) : pz_V mX10_outOnes Ex Q d bc bs 4 [(0, .ref l0), (1, .ref l1), (2, .int l2), (3, .int l3)] [] h := by
  refine pz_iload_n (pc' := 5) (x := l3) 3 rfl (pz_dc dX10_outOnes 4 rfl) rfl ?_
  refine pz_aload_n (pc' := 6) (x := l0) 0 rfl (pz_dc dX10_outOnes 5 rfl) rfl ?_
  refine pz_getI (M := mX10_outOnes) hb fX10_101 (pc' := 9) rfl (pz_dc dX10_outOnes 6 rfl) (fun x1 hb => ?_)
  refine pz_icmp_ge (pc' := 12) (tgt := 29) rfl (pz_dc dX10_outOnes 7 rfl) (by decide) (fun hc => ?_) (fun hc => ?_)
  · replace hb := hb.1 hc
    refine pz_iload_n (pc' := 30) (x := l2) 2 rfl (pz_dc dX10_outOnes 20 rfl) rfl ?_
    exact pz_iret (pz_dc dX10_outOnes 21 rfl) rfl hb
  · replace hb := hb.2 hc
    refine pz_iload_n (pc' := 13) (x := l2) 2 rfl (pz_dc dX10_outOnes 8 rfl) rfl ?_
    refine pz_aload_n (pc' := 14) (x := l1) 1 rfl (pz_dc dX10_outOnes 9 rfl) rfl ?_
    refine pz_bipush (pc' := 16) (v := 6) rfl (pz_dc dX10_outOnes 10 rfl) kb_6 ?_
    refine pz_iload_n (pc' := 17) (x := l3) 3 rfl (pz_dc dX10_outOnes 11 rfl) rfl ?_
    refine pz_iadd (pc' := 18) rfl (pz_dc dX10_outOnes 12 rfl) ?_
    refine pz_ldI hb (pc' := 19) rfl (pz_dc dX10_outOnes 13 rfl) (fun x2 hb => ?_)
    refine pz_iload_n (pc' := 20) (x := l3) 3 rfl (pz_dc dX10_outOnes 14 rfl) rfl ?_
    refine pz_ishl (pc' := 21) rfl (pz_dc dX10_outOnes 15 rfl) ?_
    refine pz_ior (pc' := 22) rfl (pz_dc dX10_outOnes 16 rfl) ?_
    refine pz_istore_n (pc' := 23) (lv' := [(2, .int (l2 ||| (x2 <<< (l3 &&& 31)))), (0, .ref l0), (1, .ref l1), (3, .int l3)]) rfl (pz_dc dX10_outOnes 17 rfl) (by decide) rfl ?_
    refine pz_iinc (pc' := 26) (x := l3) (v := l3 + (1 : Int32)) (lv' := [(3, .int (l3 + (1 : Int32))), (2, .int (l2 ||| (x2 <<< (l3 &&& 31)))), (0, .ref l0), (1, .ref l1)]) 3 rfl (pz_dc dX10_outOnes 18 rfl) rfl rfl (by decide) rfl ?_
    refine pz_goto (pc' := 4) (pz_dc dX10_outOnes 19 rfl) (by decide) ?_
    refine pz_lv (lv' := [(0, .ref l0), (1, .ref l1), (2, .int (l2 ||| (x2 <<< (l3 &&& 31)))), (3, .int (l3 + (1 : Int32)))]) [2, 3, 1, 0] rfl ?_
    exact hb
set_option maxRecDepth 20000 in
set_option maxHeartbeats 4000000 in
theorem wX10_runOf_0 {Ex : State → Nat → Prop} {Q : Option Value → pz_H → Prop} {d bc bs : Nat} {l0 : Nat} {l1 : Nat} {l2 : Int32}  {h : pz_H} (hD : 81 ≤ d) (hb : pz_rI h l1 (((6 : Int32)) + l2) (fun (x1 : Int32) => (¬ x1 = 0 → pz_rI h l1 l2 (fun (x2 : Int32) => pz_rI h l1 (((12 : Int32)) + l2) (fun (x3 : Int32) => pz_gI h l0 10 18 (fun (x4 : Int32) => (x4 ≤ 0 → pz_rI h l1 l2 (fun (x5 : Int32) => Q (some (.int (if ((0 : Int32)) < (if (((x2 + ((2 : Int32))) / ((3 : Int32))) - x3) < x5 then (((x2 + ((2 : Int32))) / ((3 : Int32))) - x3) else x5) then (if (((x2 + ((2 : Int32))) / ((3 : Int32))) - x3) < x5 then (((x2 + ((2 : Int32))) / ((3 : Int32))) - x3) else x5) else ((0 : Int32))))) h)) ∧ (¬ x4 ≤ 0 → pz_gR h l0 10 20 (fun (a6 : Nat) => pz_rI h l1 l2 (fun (x7 : Int32) => pz_sI h a6 0 x7 (fun (h8 : pz_H) => pz_gR h8 l0 10 20 (fun (a9 : Nat) => pz_gR h8 l0 10 2 (fun (a10 : Nat) => pz_rI h8 a10 l2 (fun (x11 : Int32) => pz_sI h8 a9 1 x11 (fun (h12 : pz_H) => pz_gR h12 l0 10 20 (fun (a13 : Nat) => pz_rI h12 l1 (((12 : Int32)) + l2) (fun (x14 : Int32) => pz_sI h12 a13 2 x14 (fun (h15 : pz_H) => pz_gR h15 l0 10 20 (fun (a16 : Nat) => pz_rI h15 l1 (((18 : Int32)) + l2) (fun (x17 : Int32) => pz_sI h15 a16 3 x17 (fun (h18 : pz_H) => pz_gR h18 l0 10 20 (fun (a19 : Nat) => pz_is h18 l0 10 ∧ (pz_ki mX10_outOnes 0 0 0 (.ref l0 :: [.ref l1]) h18 (fun (x21 : Int32) (h20 : pz_H) => pz_ki mJ6_bitCount_0f7a4 0 0 0 ([.int x21]) h20 (fun (x23 : Int32) (h22 : pz_H) => pz_sI h22 a19 4 x23 (fun (h24 : pz_H) => pz_gR h24 l0 10 20 (fun (a25 : Nat) => pz_rI h24 l1 30 (fun (x26 : Int32) => pz_sI h24 a25 5 (x26 - x26 / ((7 : Int32)) * ((7 : Int32))) (fun (h27 : pz_H) => pz_gR h27 l0 10 16 (fun (a28 : Nat) => pz_gI h27 l0 10 18 (fun (x29 : Int32) => pz_is h27 l0 10 ∧ (pz_kv mX10_begin 0 0 0 (.ref l0 :: [.ref a28, .int x29, .int 40]) h27 (fun (h30 : pz_H) => pz_pF h30 l0 10 19 (.int 1) (fun (h31 : pz_H) => pz_is h31 l0 10 ∧ (pz_ki mX10_held 80 0 0 (.ref l0 :: [.int 0]) h31 (fun (x33 : Int32) (h32 : pz_H) => pz_pF h32 l0 10 19 (.int 0) (fun (h34 : pz_H) => pz_rI h34 l1 l2 (fun (x35 : Int32) => Q (some (.int (if ((0 : Int32)) < (if x33 < x35 then x33 else x35) then (if x33 < x35 then x33 else x35) else ((0 : Int32))))) h34))))))))))))))))))))))))))))))))))) ∧ (x1 = 0 → Q (some (.int 0)) h))) : pz_V mX10_runOf Ex Q d bc bs 0 [(0, .ref l0), (1, .ref l1), (2, .int l2)] [] h := by
  refine pz_aload_n (pc' := 1) (x := l1) 1 rfl (pz_dc dX10_runOf 0 rfl) rfl ?_
  refine pz_bipush (pc' := 3) (v := 6) rfl (pz_dc dX10_runOf 1 rfl) kb_6 ?_
  refine pz_iload_n (pc' := 4) (x := l2) 2 rfl (pz_dc dX10_runOf 2 rfl) rfl ?_
  refine pz_iadd (pc' := 5) rfl (pz_dc dX10_runOf 3 rfl) ?_
  refine pz_ldI hb (pc' := 6) rfl (pz_dc dX10_runOf 4 rfl) (fun x1 hb => ?_)
  refine pz_if_ne (pc' := 9) (tgt := 11) rfl (pz_dc dX10_runOf 5 rfl) (by decide) (fun hc => ?_) (fun hc => ?_)
  · replace hb := hb.1 hc
    refine pz_aload_n (pc' := 12) (x := l1) 1 rfl (pz_dc dX10_runOf 8 rfl) rfl ?_
    refine pz_iload_n (pc' := 13) (x := l2) 2 rfl (pz_dc dX10_runOf 9 rfl) rfl ?_
    refine pz_ldI hb (pc' := 14) rfl (pz_dc dX10_runOf 10 rfl) (fun x2 hb => ?_)
    refine pz_iconst (pc' := 15) (v := 2) rfl (pz_dc dX10_runOf 11 rfl) ki_2 ?_
    refine pz_iadd (pc' := 16) rfl (pz_dc dX10_runOf 12 rfl) ?_
    refine pz_iconst (pc' := 17) (v := 3) rfl (pz_dc dX10_runOf 13 rfl) ki_3 ?_
    refine pz_idiv (pc' := 18) rfl (pz_dc dX10_runOf 14 rfl) (by decide) ?_
    refine pz_aload_n (pc' := 19) (x := l1) 1 rfl (pz_dc dX10_runOf 15 rfl) rfl ?_
    refine pz_bipush (pc' := 21) (v := 12) rfl (pz_dc dX10_runOf 16 rfl) kb_12 ?_
    refine pz_iload_n (pc' := 22) (x := l2) 2 rfl (pz_dc dX10_runOf 17 rfl) rfl ?_
    refine pz_iadd (pc' := 23) rfl (pz_dc dX10_runOf 18 rfl) ?_
    refine pz_ldI hb (pc' := 24) rfl (pz_dc dX10_runOf 19 rfl) (fun x3 hb => ?_)
    refine pz_isub (pc' := 25) rfl (pz_dc dX10_runOf 20 rfl) ?_
    refine pz_istore_n (pc' := 26) (lv' := [(3, .int (((x2 + ((2 : Int32))) / ((3 : Int32))) - x3)), (0, .ref l0), (1, .ref l1), (2, .int l2)]) rfl (pz_dc dX10_runOf 21 rfl) (by decide) rfl ?_
    refine pz_aload_n (pc' := 27) (x := l0) 1 rfl (pz_dc dX10_runOf 22 rfl) rfl ?_
    refine pz_getI (M := mX10_runOf) hb fX10_199 (pc' := 30) rfl (pz_dc dX10_runOf 23 rfl) (fun x4 hb => ?_)
    refine pz_if_le (pc' := 33) (tgt := 135) rfl (pz_dc dX10_runOf 24 rfl) (by decide) (fun hc => ?_) (fun hc => ?_)
    · replace hb := hb.1 hc
      refine pz_iconst (pc' := 136) (v := 0) rfl (pz_dc dX10_runOf 92 rfl) ki_0 ?_
      refine pz_aload_n (pc' := 137) (x := l1) 2 rfl (pz_dc dX10_runOf 93 rfl) rfl ?_
      refine pz_iload_n (pc' := 138) (x := l2) 3 rfl (pz_dc dX10_runOf 94 rfl) rfl ?_
      refine pz_ldI hb (pc' := 139) rfl (pz_dc dX10_runOf 95 rfl) (fun x5 hb => ?_)
      refine pz_iload_n (pc' := 140) (x := ((x2 + ((2 : Int32))) / ((3 : Int32))) - x3) 0 rfl (pz_dc dX10_runOf 96 rfl) rfl ?_
      refine pz_min (M := mX10_runOf) (pc' := 143) wX10_211 rfl (pz_dc dX10_runOf 97 rfl) (Nat.le_of_ble_eq_true rfl) (by omega) ?_
      refine pz_max (M := mX10_runOf) (pc' := 146) wX10_217 rfl (pz_dc dX10_runOf 98 rfl) (Nat.le_of_ble_eq_true rfl) (by omega) ?_
      exact pz_iret (pz_dc dX10_runOf 99 rfl) rfl hb
    · replace hb := hb.2 hc
      refine pz_aload_n (pc' := 34) (x := l0) 1 rfl (pz_dc dX10_runOf 25 rfl) rfl ?_
      refine pz_getR (M := mX10_runOf) hb fX10_39 (pc' := 37) rfl (pz_dc dX10_runOf 26 rfl) (fun a6 hb => ?_)
      refine pz_iconst (pc' := 38) (v := 0) rfl (pz_dc dX10_runOf 27 rfl) ki_0 ?_
      refine pz_aload_n (pc' := 39) (x := l1) 2 rfl (pz_dc dX10_runOf 28 rfl) rfl ?_
      refine pz_iload_n (pc' := 40) (x := l2) 3 rfl (pz_dc dX10_runOf 29 rfl) rfl ?_
      refine pz_ldI hb (pc' := 41) rfl (pz_dc dX10_runOf 30 rfl) (fun x7 hb => ?_)
      refine pz_stI hb (pc' := 42) rfl (pz_dc dX10_runOf 31 rfl) (fun h8 hb => ?_)
      refine pz_aload_n (pc' := 43) (x := l0) 1 rfl (pz_dc dX10_runOf 32 rfl) rfl ?_
      refine pz_getR (M := mX10_runOf) hb fX10_39 (pc' := 46) rfl (pz_dc dX10_runOf 33 rfl) (fun a9 hb => ?_)
      refine pz_iconst (pc' := 47) (v := 1) rfl (pz_dc dX10_runOf 34 rfl) ki_1 ?_
      refine pz_aload_n (pc' := 48) (x := l0) 1 rfl (pz_dc dX10_runOf 35 rfl) rfl ?_
      refine pz_getR (M := mX10_runOf) hb fX10_13 (pc' := 51) rfl (pz_dc dX10_runOf 36 rfl) (fun a10 hb => ?_)
      refine pz_iload_n (pc' := 52) (x := l2) 3 rfl (pz_dc dX10_runOf 37 rfl) rfl ?_
      refine pz_ldI hb (pc' := 53) rfl (pz_dc dX10_runOf 38 rfl) (fun x11 hb => ?_)
      refine pz_stI hb (pc' := 54) rfl (pz_dc dX10_runOf 39 rfl) (fun h12 hb => ?_)
      refine pz_aload_n (pc' := 55) (x := l0) 1 rfl (pz_dc dX10_runOf 40 rfl) rfl ?_
      refine pz_getR (M := mX10_runOf) hb fX10_39 (pc' := 58) rfl (pz_dc dX10_runOf 41 rfl) (fun a13 hb => ?_)
      refine pz_iconst (pc' := 59) (v := 2) rfl (pz_dc dX10_runOf 42 rfl) ki_2 ?_
      refine pz_aload_n (pc' := 60) (x := l1) 2 rfl (pz_dc dX10_runOf 43 rfl) rfl ?_
      refine pz_bipush (pc' := 62) (v := 12) rfl (pz_dc dX10_runOf 44 rfl) kb_12 ?_
      refine pz_iload_n (pc' := 63) (x := l2) 3 rfl (pz_dc dX10_runOf 45 rfl) rfl ?_
      refine pz_iadd (pc' := 64) rfl (pz_dc dX10_runOf 46 rfl) ?_
      refine pz_ldI hb (pc' := 65) rfl (pz_dc dX10_runOf 47 rfl) (fun x14 hb => ?_)
      refine pz_stI hb (pc' := 66) rfl (pz_dc dX10_runOf 48 rfl) (fun h15 hb => ?_)
      refine pz_aload_n (pc' := 67) (x := l0) 1 rfl (pz_dc dX10_runOf 49 rfl) rfl ?_
      refine pz_getR (M := mX10_runOf) hb fX10_39 (pc' := 70) rfl (pz_dc dX10_runOf 50 rfl) (fun a16 hb => ?_)
      refine pz_iconst (pc' := 71) (v := 3) rfl (pz_dc dX10_runOf 51 rfl) ki_3 ?_
      refine pz_aload_n (pc' := 72) (x := l1) 2 rfl (pz_dc dX10_runOf 52 rfl) rfl ?_
      refine pz_bipush (pc' := 74) (v := 18) rfl (pz_dc dX10_runOf 53 rfl) kb_18 ?_
      refine pz_iload_n (pc' := 75) (x := l2) 3 rfl (pz_dc dX10_runOf 54 rfl) rfl ?_
      refine pz_iadd (pc' := 76) rfl (pz_dc dX10_runOf 55 rfl) ?_
      refine pz_ldI hb (pc' := 77) rfl (pz_dc dX10_runOf 56 rfl) (fun x17 hb => ?_)
      refine pz_stI hb (pc' := 78) rfl (pz_dc dX10_runOf 57 rfl) (fun h18 hb => ?_)
      refine pz_aload_n (pc' := 79) (x := l0) 1 rfl (pz_dc dX10_runOf 58 rfl) rfl ?_
      refine pz_getR (M := mX10_runOf) hb fX10_39 (pc' := 82) rfl (pz_dc dX10_runOf 59 rfl) (fun a19 hb => ?_)
      refine pz_iconst (pc' := 83) (v := 4) rfl (pz_dc dX10_runOf 60 rfl) ki_4 ?_
      refine pz_aload_n (pc' := 84) (x := l0) 1 rfl (pz_dc dX10_runOf 61 rfl) rfl ?_
      refine pz_aload_n (pc' := 85) (x := l1) 2 rfl (pz_dc dX10_runOf 62 rfl) rfl ?_
      refine pz_cVi (M := mX10_runOf) (N := mX10_outOnes) (d' := 0) (bc1 := 0) (bs1 := 0) (bc2 := bc) (bs2 := bs) (pc' := 88) [.ref l1] hb vX10_202 rfl (pz_dc dX10_runOf 63 rfl) rfl (Nat.le_of_ble_eq_true rfl) (Nat.le_of_ble_eq_true rfl) rfl (by omega) (by omega) (by omega) (fun x21 h20 hb => ?_)
      refine pz_cSi (M := mX10_runOf) (N := mJ6_bitCount_0f7a4) (d' := 0) (bc1 := 0) (bs1 := 0) (bc2 := bc) (bs2 := bs) (pc' := 91) [.int x21] hb sX10_206 rfl (pz_dc dX10_runOf 64 rfl) rfl (Nat.le_of_ble_eq_true rfl) (Nat.le_of_ble_eq_true rfl) rfl (by omega) (by omega) (by omega) (fun x23 h22 hb => ?_)
      refine pz_stI hb (pc' := 92) rfl (pz_dc dX10_runOf 65 rfl) (fun h24 hb => ?_)
      refine pz_aload_n (pc' := 93) (x := l0) 1 rfl (pz_dc dX10_runOf 66 rfl) rfl ?_
      refine pz_getR (M := mX10_runOf) hb fX10_39 (pc' := 96) rfl (pz_dc dX10_runOf 67 rfl) (fun a25 hb => ?_)
      refine pz_iconst (pc' := 97) (v := 5) rfl (pz_dc dX10_runOf 68 rfl) ki_5 ?_
      refine pz_aload_n (pc' := 98) (x := l1) 2 rfl (pz_dc dX10_runOf 69 rfl) rfl ?_
      refine pz_bipush (pc' := 100) (v := 30) rfl (pz_dc dX10_runOf 70 rfl) kb_30 ?_
      refine pz_ldI hb (pc' := 101) rfl (pz_dc dX10_runOf 71 rfl) (fun x26 hb => ?_)
      refine pz_bipush (pc' := 103) (v := 7) rfl (pz_dc dX10_runOf 72 rfl) kb_7 ?_
      refine pz_irem (pc' := 104) rfl (pz_dc dX10_runOf 73 rfl) (by decide) ?_
      refine pz_stI hb (pc' := 105) rfl (pz_dc dX10_runOf 74 rfl) (fun h27 hb => ?_)
      refine pz_aload_n (pc' := 106) (x := l0) 1 rfl (pz_dc dX10_runOf 75 rfl) rfl ?_
      refine pz_aload_n (pc' := 107) (x := l0) 1 rfl (pz_dc dX10_runOf 76 rfl) rfl ?_
      refine pz_getR (M := mX10_runOf) hb fX10_33 (pc' := 110) rfl (pz_dc dX10_runOf 77 rfl) (fun a28 hb => ?_)
      refine pz_aload_n (pc' := 111) (x := l0) 1 rfl (pz_dc dX10_runOf 78 rfl) rfl ?_
      refine pz_getI (M := mX10_runOf) hb fX10_199 (pc' := 114) rfl (pz_dc dX10_runOf 79 rfl) (fun x29 hb => ?_)
      refine pz_bipush (pc' := 116) (v := 40) rfl (pz_dc dX10_runOf 80 rfl) kb_40 ?_
      refine pz_cVv (M := mX10_runOf) (N := mX10_begin) (d' := 0) (bc1 := 0) (bs1 := 0) (bc2 := bc) (bs2 := bs) (pc' := 119) [.ref a28, .int x29, .int 40] hb vX10_130 rfl (pz_dc dX10_runOf 81 rfl) rfl (Nat.le_of_ble_eq_true rfl) (Nat.le_of_ble_eq_true rfl) rfl (by omega) (by omega) (by omega) (fun h30 hb => ?_)
      refine pz_aload_n (pc' := 120) (x := l0) 1 rfl (pz_dc dX10_runOf 82 rfl) rfl ?_
      refine pz_iconst (pc' := 121) (v := 1) rfl (pz_dc dX10_runOf 83 rfl) ki_1 ?_
      refine pz_putv (M := mX10_runOf) hb (pX10_192 _ rfl) rfl rfl (pc' := 124) rfl (pz_dc dX10_runOf 84 rfl) (fun h31 hb => ?_)
      refine pz_aload_n (pc' := 125) (x := l0) 1 rfl (pz_dc dX10_runOf 85 rfl) rfl ?_
      refine pz_iconst (pc' := 126) (v := 0) rfl (pz_dc dX10_runOf 86 rfl) ki_0 ?_
      refine pz_cVi (M := mX10_runOf) (N := mX10_held) (d' := 80) (bc1 := 0) (bs1 := 0) (bc2 := bc) (bs2 := bs) (pc' := 129) [.int 0] hb vX10_179 rfl (pz_dc dX10_runOf 87 rfl) rfl (Nat.le_of_ble_eq_true rfl) (Nat.le_of_ble_eq_true rfl) rfl (by omega) (by omega) (by omega) (fun x33 h32 hb => ?_)
      refine pz_istore_n (pc' := 130) (lv' := [(3, .int x33), (0, .ref l0), (1, .ref l1), (2, .int l2)]) rfl (pz_dc dX10_runOf 88 rfl) (by decide) rfl ?_
      refine pz_aload_n (pc' := 131) (x := l0) 1 rfl (pz_dc dX10_runOf 89 rfl) rfl ?_
      refine pz_iconst (pc' := 132) (v := 0) rfl (pz_dc dX10_runOf 90 rfl) ki_0 ?_
      refine pz_putv (M := mX10_runOf) hb (pX10_192 _ rfl) rfl rfl (pc' := 135) rfl (pz_dc dX10_runOf 91 rfl) (fun h34 hb => ?_)
      refine pz_iconst (pc' := 136) (v := 0) rfl (pz_dc dX10_runOf 92 rfl) ki_0 ?_
      refine pz_aload_n (pc' := 137) (x := l1) 2 rfl (pz_dc dX10_runOf 93 rfl) rfl ?_
      refine pz_iload_n (pc' := 138) (x := l2) 3 rfl (pz_dc dX10_runOf 94 rfl) rfl ?_
      refine pz_ldI hb (pc' := 139) rfl (pz_dc dX10_runOf 95 rfl) (fun x35 hb => ?_)
      refine pz_iload_n (pc' := 140) (x := x33) 0 rfl (pz_dc dX10_runOf 96 rfl) rfl ?_
      refine pz_min (M := mX10_runOf) (pc' := 143) wX10_211 rfl (pz_dc dX10_runOf 97 rfl) (Nat.le_of_ble_eq_true rfl) (by omega) ?_
      refine pz_max (M := mX10_runOf) (pc' := 146) wX10_217 rfl (pz_dc dX10_runOf 98 rfl) (Nat.le_of_ble_eq_true rfl) (by omega) ?_
      exact pz_iret (pz_dc dX10_runOf 99 rfl) rfl hb
  · replace hb := hb.2 hc
    refine pz_iconst (pc' := 10) (v := 0) rfl (pz_dc dX10_runOf 6 rfl) ki_0 ?_
    exact pz_iret (pz_dc dX10_runOf 7 rfl) rfl hb
set_option maxRecDepth 20000 in
set_option maxHeartbeats 4000000 in
theorem wX10_lake_0 {Ex : State → Nat → Prop} {Q : Option Value → pz_H → Prop} {d bc bs : Nat} {l0 : Nat} {l1 : Int32} {l2 : Int32}  {h : pz_H} (hD : 82 ≤ d) (hb : pz_pF h l0 10 9 (.int 0) (fun (h1 : pz_H) => pz_is h1 l0 10 ∧ (pz_gI h1 l0 10 1 (fun (x2 : Int32) => ((eX10_isLake l1 x2) = 0 → pz_is h1 l0 10 ∧ (pz_pF h1 l0 10 9 (.int 1) (fun (h6 : pz_H) => Q (some (.int 0)) h6))) ∧ (¬ (eX10_isLake l1 x2) = 0 → (¬ (eX10_in l2 ((0 : Int32)) ((8 : Int32))) = 0 → (l2.toInt = 0 → pz_gR h1 l0 10 2 (fun (a9 : Nat) => pz_rI h1 a9 l1 (fun (x10 : Int32) => Q (some (.int x10)) h1))) ∧ (l2.toInt = 1 → pz_gR h1 l0 10 0 (fun (a11 : Nat) => pz_rI h1 a11 (((18 : Int32)) + l1) (fun (x12 : Int32) => Q (some (.int x12)) h1))) ∧ (l2.toInt = 2 → pz_gR h1 l0 10 3 (fun (a13 : Nat) => pz_rI h1 a13 l1 (fun (x14 : Int32) => Q (some (.int x14)) h1))) ∧ (l2.toInt = 3 → pz_gR h1 l0 10 0 (fun (a15 : Nat) => pz_rI h1 a15 (((24 : Int32)) + l1) (fun (x16 : Int32) => Q (some (.int x16)) h1))) ∧ (l2.toInt = 4 → pz_gR h1 l0 10 4 (fun (a17 : Nat) => pz_rI h1 a17 l1 (fun (x18 : Int32) => Q (some (.int x18)) h1))) ∧ (l2.toInt = 5 → pz_gR h1 l0 10 0 (fun (a19 : Nat) => pz_rI h1 a19 l1 (fun (x20 : Int32) => Q (some (.int x20)) h1))) ∧ (l2.toInt = 6 → pz_gR h1 l0 10 0 (fun (a21 : Nat) => pz_rI h1 a21 (((6 : Int32)) + l1) (fun (x22 : Int32) => Q (some (.int x22)) h1))) ∧ (l2.toInt = 7 → pz_gR h1 l0 10 0 (fun (a23 : Nat) => pz_rI h1 a23 (((12 : Int32)) + l1) (fun (x24 : Int32) => Q (some (.int x24)) h1))) ∧ (l2.toInt ≠ 0 ∧ l2.toInt ≠ 1 ∧ l2.toInt ≠ 2 ∧ l2.toInt ≠ 3 ∧ l2.toInt ≠ 4 ∧ l2.toInt ≠ 5 ∧ l2.toInt ≠ 6 ∧ l2.toInt ≠ 7 → pz_gR h1 l0 10 0 (fun (a25 : Nat) => pz_is h1 l0 10 ∧ (pz_ki mX10_runOf 81 0 0 (.ref l0 :: [.ref a25, .int l1]) h1 (fun (x27 : Int32) (h26 : pz_H) => Q (some (.int x27)) h26))))) ∧ ((eX10_in l2 ((0 : Int32)) ((8 : Int32))) = 0 → pz_is h1 l0 10 ∧ (pz_pF h1 l0 10 9 (.int 1) (fun (h28 : pz_H) => Q (some (.int 0)) h28)))))))) : pz_V mX10_lake Ex Q d bc bs 0 [(0, .ref l0), (1, .int l1), (2, .int l2)] [] h := by
  refine pz_aload_n (pc' := 1) (x := l0) 0 rfl (pz_dc dX10_lake 0 rfl) rfl ?_
  refine pz_iconst (pc' := 2) (v := 0) rfl (pz_dc dX10_lake 1 rfl) ki_0 ?_
  refine pz_putv (M := mX10_lake) hb (pX10_95 _ rfl) rfl rfl (pc' := 5) rfl (pz_dc dX10_lake 2 rfl) (fun h1 hb => ?_)
  refine pz_aload_n (pc' := 6) (x := l0) 0 rfl (pz_dc dX10_lake 3 rfl) rfl ?_
  refine pz_iload_n (pc' := 7) (x := l1) 1 rfl (pz_dc dX10_lake 4 rfl) rfl ?_
  obtain ⟨⟨fs31, hf32⟩, hb⟩ := hb
  obtain ⟨fs3, x2, g4, g5, hb⟩ := hb
  refine pz_callV (M := mX10_lake) (N := mX10_isLake) (d' := 1) (bc1 := 0) (bs1 := 0) (bc2 := bc) (bs2 := bs) (pc' := 10) [.int l1] vX10_108 rfl (pz_dc dX10_lake 5 rfl) rfl (Nat.le_of_ble_eq_true rfl) (Nat.le_of_ble_eq_true rfl) rfl (by omega) (by omega) (by omega) hf32 ?_
  refine cX10_isLake ⟨fs3, x2, g4, g5, ?_⟩
  show pz_V mX10_lake _ _ _ _ _ 10 [(0, .ref l0), (1, .int l1), (2, .int l2)] [.int (eX10_isLake l1 x2)] h1
  refine pz_if_eq (pc' := 13) (tgt := 23) rfl (pz_dc dX10_lake 6 rfl) (by decide) (fun hc => ?_) (fun hc => ?_)
  · replace hb := hb.1 hc
    refine pz_aload_n (pc' := 24) (x := l0) 0 rfl (pz_dc dX10_lake 12 rfl) rfl ?_
    obtain ⟨⟨fs7, hf8⟩, hb⟩ := hb
    refine pz_callV (M := mX10_lake) (N := mX10_lost) (d' := 0) (bc1 := 0) (bs1 := 0) (bc2 := bc) (bs2 := bs) (pc' := 27) [] vX10_220 rfl (pz_dc dX10_lake 13 rfl) rfl (Nat.le_of_ble_eq_true rfl) (Nat.le_of_ble_eq_true rfl) rfl (by omega) (by omega) (by omega) hf8 ?_
    refine pz_aload_n (pc' := 1) (x := l0) 0 rfl (pz_dc dX10_lost 0 rfl) rfl ?_
    refine pz_iconst (pc' := 2) (v := 1) rfl (pz_dc dX10_lost 1 rfl) ki_1 ?_
    refine pz_putv (M := mX10_lost) hb (pX10_95 _ rfl) rfl rfl (pc' := 5) rfl (pz_dc dX10_lost 2 rfl) (fun h6 hb => ?_)
    refine pz_iconst (pc' := 6) (v := 0) rfl (pz_dc dX10_lost 3 rfl) ki_0 ?_
    refine pz_iret (pz_dc dX10_lost 4 rfl) rfl ?_
    show pz_V mX10_lake _ _ _ _ _ 27 [(0, .ref l0), (1, .int l1), (2, .int l2)] [.int 0] h6
    exact pz_iret (pz_dc dX10_lake 14 rfl) rfl hb
  · replace hb := hb.2 hc
    refine pz_iload_n (pc' := 14) (x := l2) 2 rfl (pz_dc dX10_lake 7 rfl) rfl ?_
    refine pz_iconst (pc' := 15) (v := 0) rfl (pz_dc dX10_lake 8 rfl) ki_0 ?_
    refine pz_bipush (pc' := 17) (v := 8) rfl (pz_dc dX10_lake 9 rfl) kb_8 ?_
    refine pz_callS (M := mX10_lake) (N := mX10_in) (d' := 0) (bc1 := 0) (bs1 := 0) (bc2 := bc) (bs2 := bs) (pc' := 20) [.int l2, .int 0, .int 8] sX10_104 rfl (pz_dc dX10_lake 10 rfl) rfl (Nat.le_of_ble_eq_true rfl) (Nat.le_of_ble_eq_true rfl) rfl (by omega) (by omega) (by omega) ?_
    refine cX10_in ?_
    show pz_V mX10_lake _ _ _ _ _ 20 [(0, .ref l0), (1, .int l1), (2, .int l2)] [.int (eX10_in l2 ((0 : Int32)) ((8 : Int32)))] h1
    refine pz_if_ne (pc' := 23) (tgt := 28) rfl (pz_dc dX10_lake 11 rfl) (by decide) (fun hc => ?_) (fun hc => ?_)
    · replace hb := hb.1 hc
      refine pz_iload_n (pc' := 29) (x := l2) 2 rfl (pz_dc dX10_lake 15 rfl) rfl ?_
      refine pz_tableN (tgt := 144) (pz_dc dX10_lake 16 rfl) (by decide) (fun i hi hx => ?_) (by decide) (fun hc => ?_)
      · match i, hi, hx with
        | 0, _, hx =>
          refine ⟨_, 76, rfl, by decide, ?_⟩
          replace hb := hb.1 (by omega)
          refine pz_aload_n (pc' := 77) (x := l0) 0 rfl (pz_dc dX10_lake 17 rfl) rfl ?_
          refine pz_getR (M := mX10_lake) hb fX10_13 (pc' := 80) rfl (pz_dc dX10_lake 18 rfl) (fun a9 hb => ?_)
          refine pz_iload_n (pc' := 81) (x := l1) 1 rfl (pz_dc dX10_lake 19 rfl) rfl ?_
          refine pz_ldI hb (pc' := 82) rfl (pz_dc dX10_lake 20 rfl) (fun x10 hb => ?_)
          exact pz_iret (pz_dc dX10_lake 21 rfl) rfl hb
        | 1, _, hx =>
          refine ⟨_, 83, rfl, by decide, ?_⟩
          replace hb := hb.2.1 (by omega)
          refine pz_aload_n (pc' := 84) (x := l0) 0 rfl (pz_dc dX10_lake 22 rfl) rfl ?_
          refine pz_getR (M := mX10_lake) hb fX10_9 (pc' := 87) rfl (pz_dc dX10_lake 23 rfl) (fun a11 hb => ?_)
          refine pz_bipush (pc' := 89) (v := 18) rfl (pz_dc dX10_lake 24 rfl) kb_18 ?_
          refine pz_iload_n (pc' := 90) (x := l1) 1 rfl (pz_dc dX10_lake 25 rfl) rfl ?_
          refine pz_iadd (pc' := 91) rfl (pz_dc dX10_lake 26 rfl) ?_
          refine pz_ldI hb (pc' := 92) rfl (pz_dc dX10_lake 27 rfl) (fun x12 hb => ?_)
          exact pz_iret (pz_dc dX10_lake 28 rfl) rfl hb
        | 2, _, hx =>
          refine ⟨_, 93, rfl, by decide, ?_⟩
          replace hb := hb.2.2.1 (by omega)
          refine pz_aload_n (pc' := 94) (x := l0) 0 rfl (pz_dc dX10_lake 29 rfl) rfl ?_
          refine pz_getR (M := mX10_lake) hb fX10_16 (pc' := 97) rfl (pz_dc dX10_lake 30 rfl) (fun a13 hb => ?_)
          refine pz_iload_n (pc' := 98) (x := l1) 1 rfl (pz_dc dX10_lake 31 rfl) rfl ?_
          refine pz_ldI hb (pc' := 99) rfl (pz_dc dX10_lake 32 rfl) (fun x14 hb => ?_)
          exact pz_iret (pz_dc dX10_lake 33 rfl) rfl hb
        | 3, _, hx =>
          refine ⟨_, 100, rfl, by decide, ?_⟩
          replace hb := hb.2.2.2.1 (by omega)
          refine pz_aload_n (pc' := 101) (x := l0) 0 rfl (pz_dc dX10_lake 34 rfl) rfl ?_
          refine pz_getR (M := mX10_lake) hb fX10_9 (pc' := 104) rfl (pz_dc dX10_lake 35 rfl) (fun a15 hb => ?_)
          refine pz_bipush (pc' := 106) (v := 24) rfl (pz_dc dX10_lake 36 rfl) kb_24 ?_
          refine pz_iload_n (pc' := 107) (x := l1) 1 rfl (pz_dc dX10_lake 37 rfl) rfl ?_
          refine pz_iadd (pc' := 108) rfl (pz_dc dX10_lake 38 rfl) ?_
          refine pz_ldI hb (pc' := 109) rfl (pz_dc dX10_lake 39 rfl) (fun x16 hb => ?_)
          exact pz_iret (pz_dc dX10_lake 40 rfl) rfl hb
        | 4, _, hx =>
          refine ⟨_, 110, rfl, by decide, ?_⟩
          replace hb := hb.2.2.2.2.1 (by omega)
          refine pz_aload_n (pc' := 111) (x := l0) 0 rfl (pz_dc dX10_lake 41 rfl) rfl ?_
          refine pz_getR (M := mX10_lake) hb fX10_19 (pc' := 114) rfl (pz_dc dX10_lake 42 rfl) (fun a17 hb => ?_)
          refine pz_iload_n (pc' := 115) (x := l1) 1 rfl (pz_dc dX10_lake 43 rfl) rfl ?_
          refine pz_ldI hb (pc' := 116) rfl (pz_dc dX10_lake 44 rfl) (fun x18 hb => ?_)
          exact pz_iret (pz_dc dX10_lake 45 rfl) rfl hb
        | 5, _, hx =>
          refine ⟨_, 117, rfl, by decide, ?_⟩
          replace hb := hb.2.2.2.2.2.1 (by omega)
          refine pz_aload_n (pc' := 118) (x := l0) 0 rfl (pz_dc dX10_lake 46 rfl) rfl ?_
          refine pz_getR (M := mX10_lake) hb fX10_9 (pc' := 121) rfl (pz_dc dX10_lake 47 rfl) (fun a19 hb => ?_)
          refine pz_iload_n (pc' := 122) (x := l1) 1 rfl (pz_dc dX10_lake 48 rfl) rfl ?_
          refine pz_ldI hb (pc' := 123) rfl (pz_dc dX10_lake 49 rfl) (fun x20 hb => ?_)
          exact pz_iret (pz_dc dX10_lake 50 rfl) rfl hb
        | 6, _, hx =>
          refine ⟨_, 124, rfl, by decide, ?_⟩
          replace hb := hb.2.2.2.2.2.2.1 (by omega)
          refine pz_aload_n (pc' := 125) (x := l0) 0 rfl (pz_dc dX10_lake 51 rfl) rfl ?_
          refine pz_getR (M := mX10_lake) hb fX10_9 (pc' := 128) rfl (pz_dc dX10_lake 52 rfl) (fun a21 hb => ?_)
          refine pz_bipush (pc' := 130) (v := 6) rfl (pz_dc dX10_lake 53 rfl) kb_6 ?_
          refine pz_iload_n (pc' := 131) (x := l1) 1 rfl (pz_dc dX10_lake 54 rfl) rfl ?_
          refine pz_iadd (pc' := 132) rfl (pz_dc dX10_lake 55 rfl) ?_
          refine pz_ldI hb (pc' := 133) rfl (pz_dc dX10_lake 56 rfl) (fun x22 hb => ?_)
          exact pz_iret (pz_dc dX10_lake 57 rfl) rfl hb
        | 7, _, hx =>
          refine ⟨_, 134, rfl, by decide, ?_⟩
          replace hb := hb.2.2.2.2.2.2.2.1 (by omega)
          refine pz_aload_n (pc' := 135) (x := l0) 0 rfl (pz_dc dX10_lake 58 rfl) rfl ?_
          refine pz_getR (M := mX10_lake) hb fX10_9 (pc' := 138) rfl (pz_dc dX10_lake 59 rfl) (fun a23 hb => ?_)
          refine pz_bipush (pc' := 140) (v := 12) rfl (pz_dc dX10_lake 60 rfl) kb_12 ?_
          refine pz_iload_n (pc' := 141) (x := l1) 1 rfl (pz_dc dX10_lake 61 rfl) rfl ?_
          refine pz_iadd (pc' := 142) rfl (pz_dc dX10_lake 62 rfl) ?_
          refine pz_ldI hb (pc' := 143) rfl (pz_dc dX10_lake 63 rfl) (fun x24 hb => ?_)
          exact pz_iret (pz_dc dX10_lake 64 rfl) rfl hb
        | k + 8, hi, _ => exact absurd hi (by simp only [List.size_toArray, List.length_cons, List.length_nil]; omega)
      · replace hb := hb.2.2.2.2.2.2.2.2 (by omega)
        refine pz_aload_n (pc' := 145) (x := l0) 0 rfl (pz_dc dX10_lake 65 rfl) rfl ?_
        refine pz_aload_n (pc' := 146) (x := l0) 0 rfl (pz_dc dX10_lake 66 rfl) rfl ?_
        refine pz_getR (M := mX10_lake) hb fX10_9 (pc' := 149) rfl (pz_dc dX10_lake 67 rfl) (fun a25 hb => ?_)
        refine pz_iload_n (pc' := 150) (x := l1) 1 rfl (pz_dc dX10_lake 68 rfl) rfl ?_
        refine pz_cVi (M := mX10_lake) (N := mX10_runOf) (d' := 81) (bc1 := 0) (bs1 := 0) (bc2 := bc) (bs2 := bs) (pc' := 153) [.ref a25, .int l1] hb vX10_223 rfl (pz_dc dX10_lake 69 rfl) rfl (Nat.le_of_ble_eq_true rfl) (Nat.le_of_ble_eq_true rfl) rfl (by omega) (by omega) (by omega) (fun x27 h26 hb => ?_)
        exact pz_iret (pz_dc dX10_lake 70 rfl) rfl hb
    · replace hb := hb.2 hc
      refine pz_aload_n (pc' := 24) (x := l0) 0 rfl (pz_dc dX10_lake 12 rfl) rfl ?_
      obtain ⟨⟨fs29, hf30⟩, hb⟩ := hb
      refine pz_callV (M := mX10_lake) (N := mX10_lost) (d' := 0) (bc1 := 0) (bs1 := 0) (bc2 := bc) (bs2 := bs) (pc' := 27) [] vX10_220 rfl (pz_dc dX10_lake 13 rfl) rfl (Nat.le_of_ble_eq_true rfl) (Nat.le_of_ble_eq_true rfl) rfl (by omega) (by omega) (by omega) hf30 ?_
      refine pz_aload_n (pc' := 1) (x := l0) 0 rfl (pz_dc dX10_lost 0 rfl) rfl ?_
      refine pz_iconst (pc' := 2) (v := 1) rfl (pz_dc dX10_lost 1 rfl) ki_1 ?_
      refine pz_putv (M := mX10_lost) hb (pX10_95 _ rfl) rfl rfl (pc' := 5) rfl (pz_dc dX10_lost 2 rfl) (fun h28 hb => ?_)
      refine pz_iconst (pc' := 6) (v := 0) rfl (pz_dc dX10_lost 3 rfl) ki_0 ?_
      refine pz_iret (pz_dc dX10_lost 4 rfl) rfl ?_
      show pz_V mX10_lake _ _ _ _ _ 27 [(0, .ref l0), (1, .int l1), (2, .int l2)] [.int 0] h28
      exact pz_iret (pz_dc dX10_lake 14 rfl) rfl hb
set_option maxRecDepth 20000 in
set_option maxHeartbeats 4000000 in
theorem wX10_sumOf_0 {Ex : State → Nat → Prop} {Q : Option Value → pz_H → Prop} {d bc bs : Nat} {l0 : Nat} {l1 : Nat} {l2 : Int32}  {h : pz_H}  (hb : pz_V mX10_sumOf Ex Q d bc bs 5 [(0, .ref l0), (1, .ref l1), (2, .int l2), (3, .int 0), (4, .int 0)] [] h) : pz_V mX10_sumOf Ex Q d bc bs 0 [(0, .ref l0), (1, .ref l1), (2, .int l2)] [] h := by
  refine pz_iconst (pc' := 1) (v := 0) rfl (pz_dc dX10_sumOf 0 rfl) ki_0 ?_
  refine pz_istore_n (pc' := 2) (lv' := [(3, .int 0), (0, .ref l0), (1, .ref l1), (2, .int l2)]) rfl (pz_dc dX10_sumOf 1 rfl) (by decide) rfl ?_
  refine pz_iconst (pc' := 3) (v := 0) rfl (pz_dc dX10_sumOf 2 rfl) ki_0 ?_
  refine pz_istore (pc' := 5) (lv' := [(4, .int 0), (3, .int 0), (0, .ref l0), (1, .ref l1), (2, .int l2)]) rfl (pz_dc dX10_sumOf 3 rfl) (by decide) rfl ?_
  refine pz_lv (lv' := [(0, .ref l0), (1, .ref l1), (2, .int l2), (3, .int 0), (4, .int 0)]) [2, 3, 4, 1, 0] rfl ?_
  exact hb
set_option maxRecDepth 20000 in
set_option maxHeartbeats 4000000 in
theorem wX10_sumOf_5 {Ex : State → Nat → Prop} {Q : Option Value → pz_H → Prop} {d bc bs : Nat} {l0 : Nat} {l1 : Nat} {l2 : Int32} {l3 : Int32} {l4 : Int32}  {h : pz_H}  (hb : pz_gI h l0 10 1 (fun (x1 : Int32) => (x1 ≤ l4 → Q (some (.int l3)) h) ∧ (¬ x1 ≤ l4 → pz_rI h l1 (l2 + l4) (fun (x2 : Int32) => pz_V mX10_sumOf Ex Q d bc bs 5 [(0, .ref l0), (1, .ref l1), (2, .int l2), (3, .int (l3 + x2)), (4, .int (l4 + (1 : Int32)))] [] h)))) : pz_V mX10_sumOf Ex Q d bc bs 5 [(0, .ref l0), (1, .ref l1), (2, .int l2), (3, .int l3), (4, .int l4)] [] h := by
  refine pz_iload (pc' := 7) (x := l4) 4 rfl (pz_dc dX10_sumOf 4 rfl) rfl ?_
  refine pz_aload_n (pc' := 8) (x := l0) 0 rfl (pz_dc dX10_sumOf 5 rfl) rfl ?_
  refine pz_getI (M := mX10_sumOf) hb fX10_101 (pc' := 11) rfl (pz_dc dX10_sumOf 6 rfl) (fun x1 hb => ?_)
  refine pz_icmp_ge (pc' := 14) (tgt := 29) rfl (pz_dc dX10_sumOf 7 rfl) (by decide) (fun hc => ?_) (fun hc => ?_)
  · replace hb := hb.1 hc
    refine pz_iload_n (pc' := 30) (x := l3) 3 rfl (pz_dc dX10_sumOf 18 rfl) rfl ?_
    exact pz_iret (pz_dc dX10_sumOf 19 rfl) rfl hb
  · replace hb := hb.2 hc
    refine pz_iload_n (pc' := 15) (x := l3) 3 rfl (pz_dc dX10_sumOf 8 rfl) rfl ?_
    refine pz_aload_n (pc' := 16) (x := l1) 1 rfl (pz_dc dX10_sumOf 9 rfl) rfl ?_
    refine pz_iload_n (pc' := 17) (x := l2) 2 rfl (pz_dc dX10_sumOf 10 rfl) rfl ?_
    refine pz_iload (pc' := 19) (x := l4) 4 rfl (pz_dc dX10_sumOf 11 rfl) rfl ?_
    refine pz_iadd (pc' := 20) rfl (pz_dc dX10_sumOf 12 rfl) ?_
    refine pz_ldI hb (pc' := 21) rfl (pz_dc dX10_sumOf 13 rfl) (fun x2 hb => ?_)
    refine pz_iadd (pc' := 22) rfl (pz_dc dX10_sumOf 14 rfl) ?_
    refine pz_istore_n (pc' := 23) (lv' := [(3, .int (l3 + x2)), (0, .ref l0), (1, .ref l1), (2, .int l2), (4, .int l4)]) rfl (pz_dc dX10_sumOf 15 rfl) (by decide) rfl ?_
    refine pz_iinc (pc' := 26) (x := l4) (v := l4 + (1 : Int32)) (lv' := [(4, .int (l4 + (1 : Int32))), (3, .int (l3 + x2)), (0, .ref l0), (1, .ref l1), (2, .int l2)]) 4 rfl (pz_dc dX10_sumOf 16 rfl) rfl rfl (by decide) rfl ?_
    refine pz_goto (pc' := 5) (pz_dc dX10_sumOf 17 rfl) (by decide) ?_
    refine pz_lv (lv' := [(0, .ref l0), (1, .ref l1), (2, .int l2), (3, .int (l3 + x2)), (4, .int (l4 + (1 : Int32)))]) [2, 3, 4, 1, 0] rfl ?_
    exact hb
set_option maxRecDepth 20000 in
set_option maxHeartbeats 4000000 in
theorem wX10_sheet_0 {Ex : State → Nat → Prop} {Q : Option Value → pz_H → Prop} {d bc bs : Nat} {l0 : Nat} {l1 : Int32} {l2 : Int32} {l3 : Int32} {l4 : Int32}  {h : pz_H} (hD : 1 ≤ d) (hb : pz_pF h l0 10 9 (.int 0) (fun (h1 : pz_H) => ((eX10_in l1 ((0 : Int32)) ((3 : Int32))) = 0 → Q (some (.int ((-1)))) h1) ∧ (¬ (eX10_in l1 ((0 : Int32)) ((3 : Int32))) = 0 → (l2 ≤ ((6 : Int32)) → (((3 : Int32)) ≤ l1 → pz_V mX10_sheet Ex Q d bc bs 40 [(0, .ref l0), (1, .int l1), (2, .int l2), (4, .int l4), (5, .int l3), (6, .int 0)] [] h1) ∧ (¬ ((3 : Int32)) ≤ l1 → (0 ≤ l2 → pz_V mX10_sheet Ex Q d bc bs 40 [(0, .ref l0), (1, .int l1), (2, .int l2), (4, .int l4), (5, .int l3), (6, .int 0)] [] h1) ∧ (¬ 0 ≤ l2 → Q (some (.int ((-2)))) h1))) ∧ (¬ l2 ≤ ((6 : Int32)) → Q (some (.int ((-1)))) h1)))) : pz_V mX10_sheet Ex Q d bc bs 0 [(0, .ref l0), (1, .int l1), (2, .int l2), (3, .int l3), (4, .int l4)] [] h := by
  refine pz_aload_n (pc' := 1) (x := l0) 0 rfl (pz_dc dX10_sheet 0 rfl) rfl ?_
  refine pz_iconst (pc' := 2) (v := 0) rfl (pz_dc dX10_sheet 1 rfl) ki_0 ?_
  refine pz_putv (M := mX10_sheet) hb (pX10_95 _ rfl) rfl rfl (pc' := 5) rfl (pz_dc dX10_sheet 2 rfl) (fun h1 hb => ?_)
  refine pz_iload_n (pc' := 6) (x := l1) 1 rfl (pz_dc dX10_sheet 3 rfl) rfl ?_
  refine pz_iconst (pc' := 7) (v := 0) rfl (pz_dc dX10_sheet 4 rfl) ki_0 ?_
  refine pz_iconst (pc' := 8) (v := 3) rfl (pz_dc dX10_sheet 5 rfl) ki_3 ?_
  refine pz_callS (M := mX10_sheet) (N := mX10_in) (d' := 0) (bc1 := 0) (bs1 := 0) (bc2 := bc) (bs2 := bs) (pc' := 11) [.int l1, .int 0, .int 3] sX10_104 rfl (pz_dc dX10_sheet 6 rfl) rfl (Nat.le_of_ble_eq_true rfl) (Nat.le_of_ble_eq_true rfl) rfl (by omega) (by omega) (by omega) ?_
  refine cX10_in ?_
  show pz_V mX10_sheet _ _ _ _ _ 11 [(0, .ref l0), (1, .int l1), (2, .int l2), (3, .int l3), (4, .int l4)] [.int (eX10_in l1 ((0 : Int32)) ((3 : Int32)))] h1
  refine pz_if_eq (pc' := 14) (tgt := 20) rfl (pz_dc dX10_sheet 7 rfl) (by decide) (fun hc => ?_) (fun hc => ?_)
  · replace hb := hb.1 hc
    refine pz_iconst (pc' := 21) (v := (-1)) rfl (pz_dc dX10_sheet 11 rfl) ki_m1 ?_
    exact pz_iret (pz_dc dX10_sheet 12 rfl) rfl hb
  · replace hb := hb.2 hc
    refine pz_iload_n (pc' := 15) (x := l2) 2 rfl (pz_dc dX10_sheet 8 rfl) rfl ?_
    refine pz_bipush (pc' := 17) (v := 6) rfl (pz_dc dX10_sheet 9 rfl) kb_6 ?_
    refine pz_icmp_le (pc' := 20) (tgt := 22) rfl (pz_dc dX10_sheet 10 rfl) (by decide) (fun hc => ?_) (fun hc => ?_)
    · replace hb := hb.1 hc
      refine pz_iload_n (pc' := 23) (x := l1) 1 rfl (pz_dc dX10_sheet 13 rfl) rfl ?_
      refine pz_iconst (pc' := 24) (v := 3) rfl (pz_dc dX10_sheet 14 rfl) ki_3 ?_
      refine pz_icmp_ge (pc' := 27) (tgt := 34) rfl (pz_dc dX10_sheet 15 rfl) (by decide) (fun hc => ?_) (fun hc => ?_)
      · replace hb := hb.1 hc
        refine pz_iload_n (pc' := 35) (x := l3) 3 rfl (pz_dc dX10_sheet 20 rfl) rfl ?_
        refine pz_istore (pc' := 37) (lv' := [(5, .int l3), (0, .ref l0), (1, .int l1), (2, .int l2), (3, .int l3), (4, .int l4)]) rfl (pz_dc dX10_sheet 21 rfl) (by decide) rfl ?_
        refine pz_iconst (pc' := 38) (v := 0) rfl (pz_dc dX10_sheet 22 rfl) ki_0 ?_
        refine pz_istore (pc' := 40) (lv' := [(6, .int 0), (5, .int l3), (0, .ref l0), (1, .int l1), (2, .int l2), (3, .int l3), (4, .int l4)]) rfl (pz_dc dX10_sheet 23 rfl) (by decide) rfl ?_
        refine pz_lv (lv' := [(0, .ref l0), (1, .int l1), (2, .int l2), (4, .int l4), (5, .int l3), (6, .int 0)]) [2, 3, 4, 6, 1, 0] rfl ?_
        exact hb
      · replace hb := hb.2 hc
        refine pz_iload_n (pc' := 28) (x := l2) 2 rfl (pz_dc dX10_sheet 16 rfl) rfl ?_
        refine pz_if_ge (pc' := 31) (tgt := 34) rfl (pz_dc dX10_sheet 17 rfl) (by decide) (fun hc => ?_) (fun hc => ?_)
        · replace hb := hb.1 hc
          refine pz_iload_n (pc' := 35) (x := l3) 3 rfl (pz_dc dX10_sheet 20 rfl) rfl ?_
          refine pz_istore (pc' := 37) (lv' := [(5, .int l3), (0, .ref l0), (1, .int l1), (2, .int l2), (3, .int l3), (4, .int l4)]) rfl (pz_dc dX10_sheet 21 rfl) (by decide) rfl ?_
          refine pz_iconst (pc' := 38) (v := 0) rfl (pz_dc dX10_sheet 22 rfl) ki_0 ?_
          refine pz_istore (pc' := 40) (lv' := [(6, .int 0), (5, .int l3), (0, .ref l0), (1, .int l1), (2, .int l2), (3, .int l3), (4, .int l4)]) rfl (pz_dc dX10_sheet 23 rfl) (by decide) rfl ?_
          refine pz_lv (lv' := [(0, .ref l0), (1, .int l1), (2, .int l2), (4, .int l4), (5, .int l3), (6, .int 0)]) [2, 3, 4, 6, 1, 0] rfl ?_
          exact hb
        · replace hb := hb.2 hc
          refine pz_bipush (pc' := 33) (v := (-2)) rfl (pz_dc dX10_sheet 18 rfl) kb_m2 ?_
          exact pz_iret (pz_dc dX10_sheet 19 rfl) rfl hb
    · replace hb := hb.2 hc
      refine pz_iconst (pc' := 21) (v := (-1)) rfl (pz_dc dX10_sheet 11 rfl) ki_m1 ?_
      exact pz_iret (pz_dc dX10_sheet 12 rfl) rfl hb
set_option maxRecDepth 20000 in
set_option maxHeartbeats 4000000 in
theorem wX10_sheet_40 {Ex : State → Nat → Prop} {Q : Option Value → pz_H → Prop} {d bc bs : Nat} {l0 : Nat} {l1 : Int32} {l2 : Int32} {l4 : Int32} {l5 : Int32} {l6 : Int32}  {h : pz_H} (hD : 1 ≤ d) (hb : pz_gI h l0 10 1 (fun (x1 : Int32) => (x1 ≤ l6 → (¬ l1 = ((3 : Int32)) → pz_gR h l0 10 0 (fun (a2 : Nat) => pz_is h l0 10 ∧ (pz_ki mX10_sumOf 0 0 0 (.ref l0 :: [.ref a2, .int 0]) h (fun (x4 : Int32) (h3 : pz_H) => Q (some (.int x4)) h3)))) ∧ (l1 = ((3 : Int32)) → Q (some (.int ((-3)))) h)) ∧ (¬ x1 ≤ l6 → (¬ l1 = 0 → (¬ l1 = ((1 : Int32)) → pz_V mX10_sheet Ex Q d bc bs 72 [(0, .ref l0), (1, .int l1), (2, .int l2), (4, .int l4), (5, .int l5), (6, .int l6)] [.int l5] h) ∧ (l1 = ((1 : Int32)) → pz_V mX10_sheet Ex Q d bc bs 72 [(0, .ref l0), (1, .int l1), (2, .int l2), (4, .int l4), (5, .int l5), (6, .int l6)] [.int l5.toInt16.toInt32] h)) ∧ (l1 = 0 → pz_V mX10_sheet Ex Q d bc bs 72 [(0, .ref l0), (1, .int l1), (2, .int l2), (4, .int l4), (5, .int l5), (6, .int l6)] [.int l5.toInt8.toInt32] h)))) : pz_V mX10_sheet Ex Q d bc bs 40 [(0, .ref l0), (1, .int l1), (2, .int l2), (4, .int l4), (5, .int l5), (6, .int l6)] [] h := by
  refine pz_iload (pc' := 42) (x := l6) 5 rfl (pz_dc dX10_sheet 24 rfl) rfl ?_
  refine pz_aload_n (pc' := 43) (x := l0) 0 rfl (pz_dc dX10_sheet 25 rfl) rfl ?_
  refine pz_getI (M := mX10_sheet) hb fX10_101 (pc' := 46) rfl (pz_dc dX10_sheet 26 rfl) (fun x1 hb => ?_)
  refine pz_icmp_ge (pc' := 49) (tgt := 125) rfl (pz_dc dX10_sheet 27 rfl) (by decide) (fun hc => ?_) (fun hc => ?_)
  · replace hb := hb.1 hc
    refine pz_iload_n (pc' := 126) (x := l1) 1 rfl (pz_dc dX10_sheet 67 rfl) rfl ?_
    refine pz_iconst (pc' := 127) (v := 3) rfl (pz_dc dX10_sheet 68 rfl) ki_3 ?_
    refine pz_icmp_ne (pc' := 130) (tgt := 135) rfl (pz_dc dX10_sheet 69 rfl) (by decide) (fun hc => ?_) (fun hc => ?_)
    · replace hb := hb.1 hc
      refine pz_aload_n (pc' := 136) (x := l0) 0 rfl (pz_dc dX10_sheet 72 rfl) rfl ?_
      refine pz_aload_n (pc' := 137) (x := l0) 0 rfl (pz_dc dX10_sheet 73 rfl) rfl ?_
      refine pz_getR (M := mX10_sheet) hb fX10_9 (pc' := 140) rfl (pz_dc dX10_sheet 74 rfl) (fun a2 hb => ?_)
      refine pz_iconst (pc' := 141) (v := 0) rfl (pz_dc dX10_sheet 75 rfl) ki_0 ?_
      refine pz_cVi (M := mX10_sheet) (N := mX10_sumOf) (d' := 0) (bc1 := 0) (bs1 := 0) (bc2 := bc) (bs2 := bs) (pc' := 144) [.ref a2, .int 0] hb vX10_227 rfl (pz_dc dX10_sheet 76 rfl) rfl (Nat.le_of_ble_eq_true rfl) (Nat.le_of_ble_eq_true rfl) rfl (by omega) (by omega) (by omega) (fun x4 h3 hb => ?_)
      exact pz_iret (pz_dc dX10_sheet 77 rfl) rfl hb
    · replace hb := hb.2 hc
      refine pz_bipush (pc' := 132) (v := (-3)) rfl (pz_dc dX10_sheet 70 rfl) kb_m3 ?_
      refine pz_goto (pc' := 144) (pz_dc dX10_sheet 71 rfl) (by decide) ?_
      exact pz_iret (pz_dc dX10_sheet 77 rfl) rfl hb
  · replace hb := hb.2 hc
    refine pz_iload_n (pc' := 50) (x := l1) 1 rfl (pz_dc dX10_sheet 28 rfl) rfl ?_
    refine pz_if_ne (pc' := 53) (tgt := 59) rfl (pz_dc dX10_sheet 29 rfl) (by decide) (fun hc => ?_) (fun hc => ?_)
    · replace hb := hb.1 hc
      refine pz_iload_n (pc' := 60) (x := l1) 1 rfl (pz_dc dX10_sheet 33 rfl) rfl ?_
      refine pz_iconst (pc' := 61) (v := 1) rfl (pz_dc dX10_sheet 34 rfl) ki_1 ?_
      refine pz_icmp_ne (pc' := 64) (tgt := 70) rfl (pz_dc dX10_sheet 35 rfl) (by decide) (fun hc => ?_) (fun hc => ?_)
      · replace hb := hb.1 hc
        refine pz_iload (pc' := 72) (x := l5) 4 rfl (pz_dc dX10_sheet 39 rfl) rfl ?_
        exact hb
      · replace hb := hb.2 hc
        refine pz_iload (pc' := 66) (x := l5) 4 rfl (pz_dc dX10_sheet 36 rfl) rfl ?_
        refine pz_i2s (pc' := 67) rfl (pz_dc dX10_sheet 37 rfl) ?_
        refine pz_goto (pc' := 72) (pz_dc dX10_sheet 38 rfl) (by decide) ?_
        exact hb
    · replace hb := hb.2 hc
      refine pz_iload (pc' := 55) (x := l5) 4 rfl (pz_dc dX10_sheet 30 rfl) rfl ?_
      refine pz_i2b (pc' := 56) rfl (pz_dc dX10_sheet 31 rfl) ?_
      refine pz_goto (pc' := 72) (pz_dc dX10_sheet 32 rfl) (by decide) ?_
      exact hb
set_option maxRecDepth 20000 in
set_option maxHeartbeats 4000000 in
theorem wX10_sheet_72 {Ex : State → Nat → Prop} {Q : Option Value → pz_H → Prop} {d bc bs : Nat} {l0 : Nat} {l1 : Int32} {l2 : Int32} {l4 : Int32} {l5 : Int32} {l6 : Int32} {s0 : Int32} {h : pz_H} (hD : 1 ≤ d) (hb : pz_gR h l0 10 0 (fun (a1 : Nat) => (l1 = ((3 : Int32)) → pz_sI h a1 l6 0 (fun (h2 : pz_H) => pz_V mX10_sheet Ex Q d bc bs 40 [(0, .ref l0), (1, .int l1), (2, .int l2), (4, .int l4), (5, .int (l5 + l4)), (6, .int (l6 + (1 : Int32)))] [] h2)) ∧ (¬ l1 = ((3 : Int32)) → (l6 < l2 → pz_gR h l0 10 2 (fun (a3 : Nat) => pz_rI h a3 l6 (fun (x4 : Int32) => pz_sI h a1 l6 (if ((0 : Int32)) < (if s0 < x4 then s0 else x4) then (if s0 < x4 then s0 else x4) else ((0 : Int32))) (fun (h5 : pz_H) => pz_V mX10_sheet Ex Q d bc bs 40 [(0, .ref l0), (1, .int l1), (2, .int l2), (4, .int l4), (5, .int (l5 + l4)), (6, .int (l6 + (1 : Int32)))] [] h5)))) ∧ (¬ l6 < l2 → pz_sI h a1 l6 0 (fun (h6 : pz_H) => pz_V mX10_sheet Ex Q d bc bs 40 [(0, .ref l0), (1, .int l1), (2, .int l2), (4, .int l4), (5, .int (l5 + l4)), (6, .int (l6 + (1 : Int32)))] [] h6))))) : pz_V mX10_sheet Ex Q d bc bs 72 [(0, .ref l0), (1, .int l1), (2, .int l2), (4, .int l4), (5, .int l5), (6, .int l6)] [.int s0] h := by
  refine pz_istore (pc' := 74) (lv' := [(7, .int s0), (0, .ref l0), (1, .int l1), (2, .int l2), (4, .int l4), (5, .int l5), (6, .int l6)]) rfl (pz_dc dX10_sheet 40 rfl) (by decide) rfl ?_
  refine pz_aload_n (pc' := 75) (x := l0) 1 rfl (pz_dc dX10_sheet 41 rfl) rfl ?_
  refine pz_getR (M := mX10_sheet) hb fX10_9 (pc' := 78) rfl (pz_dc dX10_sheet 42 rfl) (fun a1 hb => ?_)
  refine pz_iload (pc' := 80) (x := l6) 6 rfl (pz_dc dX10_sheet 43 rfl) rfl ?_
  refine pz_iload_n (pc' := 81) (x := l1) 2 rfl (pz_dc dX10_sheet 44 rfl) rfl ?_
  refine pz_iconst (pc' := 82) (v := 3) rfl (pz_dc dX10_sheet 45 rfl) ki_3 ?_
  refine pz_icmp_eq (pc' := 85) (tgt := 91) rfl (pz_dc dX10_sheet 46 rfl) (by decide) (fun hc => ?_) (fun hc => ?_)
  · replace hb := hb.1 hc
    refine pz_iconst (pc' := 92) (v := 0) rfl (pz_dc dX10_sheet 50 rfl) ki_0 ?_
    refine pz_goto (pc' := 111) (pz_dc dX10_sheet 51 rfl) (by decide) ?_
    refine pz_stI hb (pc' := 112) rfl (pz_dc dX10_sheet 60 rfl) (fun h2 hb => ?_)
    refine pz_iload (pc' := 114) (x := l5) 5 rfl (pz_dc dX10_sheet 61 rfl) rfl ?_
    refine pz_iload (pc' := 116) (x := l4) 4 rfl (pz_dc dX10_sheet 62 rfl) rfl ?_
    refine pz_iadd (pc' := 117) rfl (pz_dc dX10_sheet 63 rfl) ?_
    refine pz_istore (pc' := 119) (lv' := [(5, .int (l5 + l4)), (7, .int s0), (0, .ref l0), (1, .int l1), (2, .int l2), (4, .int l4), (6, .int l6)]) rfl (pz_dc dX10_sheet 64 rfl) (by decide) rfl ?_
    refine pz_iinc (pc' := 122) (x := l6) (v := l6 + (1 : Int32)) (lv' := [(6, .int (l6 + (1 : Int32))), (5, .int (l5 + l4)), (7, .int s0), (0, .ref l0), (1, .int l1), (2, .int l2), (4, .int l4)]) 6 rfl (pz_dc dX10_sheet 65 rfl) rfl rfl (by decide) rfl ?_
    refine pz_goto (pc' := 40) (pz_dc dX10_sheet 66 rfl) (by decide) ?_
    refine pz_lv (lv' := [(0, .ref l0), (1, .int l1), (2, .int l2), (4, .int l4), (5, .int (l5 + l4)), (6, .int (l6 + (1 : Int32)))]) [3, 4, 5, 6, 1, 0] rfl ?_
    exact hb
  · replace hb := hb.2 hc
    refine pz_iload (pc' := 87) (x := l6) 6 rfl (pz_dc dX10_sheet 47 rfl) rfl ?_
    refine pz_iload_n (pc' := 88) (x := l2) 3 rfl (pz_dc dX10_sheet 48 rfl) rfl ?_
    refine pz_icmp_lt (pc' := 91) (tgt := 95) rfl (pz_dc dX10_sheet 49 rfl) (by decide) (fun hc => ?_) (fun hc => ?_)
    · replace hb := hb.1 hc
      refine pz_iconst (pc' := 96) (v := 0) rfl (pz_dc dX10_sheet 52 rfl) ki_0 ?_
      refine pz_aload_n (pc' := 97) (x := l0) 1 rfl (pz_dc dX10_sheet 53 rfl) rfl ?_
      refine pz_getR (M := mX10_sheet) hb fX10_13 (pc' := 100) rfl (pz_dc dX10_sheet 54 rfl) (fun a3 hb => ?_)
      refine pz_iload (pc' := 102) (x := l6) 6 rfl (pz_dc dX10_sheet 55 rfl) rfl ?_
      refine pz_ldI hb (pc' := 103) rfl (pz_dc dX10_sheet 56 rfl) (fun x4 hb => ?_)
      refine pz_iload (pc' := 105) (x := s0) 0 rfl (pz_dc dX10_sheet 57 rfl) rfl ?_
      refine pz_min (M := mX10_sheet) (pc' := 108) wX10_211 rfl (pz_dc dX10_sheet 58 rfl) (Nat.le_of_ble_eq_true rfl) (by omega) ?_
      refine pz_max (M := mX10_sheet) (pc' := 111) wX10_217 rfl (pz_dc dX10_sheet 59 rfl) (Nat.le_of_ble_eq_true rfl) (by omega) ?_
      refine pz_stI hb (pc' := 112) rfl (pz_dc dX10_sheet 60 rfl) (fun h5 hb => ?_)
      refine pz_iload (pc' := 114) (x := l5) 5 rfl (pz_dc dX10_sheet 61 rfl) rfl ?_
      refine pz_iload (pc' := 116) (x := l4) 4 rfl (pz_dc dX10_sheet 62 rfl) rfl ?_
      refine pz_iadd (pc' := 117) rfl (pz_dc dX10_sheet 63 rfl) ?_
      refine pz_istore (pc' := 119) (lv' := [(5, .int (l5 + l4)), (7, .int s0), (0, .ref l0), (1, .int l1), (2, .int l2), (4, .int l4), (6, .int l6)]) rfl (pz_dc dX10_sheet 64 rfl) (by decide) rfl ?_
      refine pz_iinc (pc' := 122) (x := l6) (v := l6 + (1 : Int32)) (lv' := [(6, .int (l6 + (1 : Int32))), (5, .int (l5 + l4)), (7, .int s0), (0, .ref l0), (1, .int l1), (2, .int l2), (4, .int l4)]) 6 rfl (pz_dc dX10_sheet 65 rfl) rfl rfl (by decide) rfl ?_
      refine pz_goto (pc' := 40) (pz_dc dX10_sheet 66 rfl) (by decide) ?_
      refine pz_lv (lv' := [(0, .ref l0), (1, .int l1), (2, .int l2), (4, .int l4), (5, .int (l5 + l4)), (6, .int (l6 + (1 : Int32)))]) [3, 4, 5, 6, 1, 0] rfl ?_
      exact hb
    · replace hb := hb.2 hc
      refine pz_iconst (pc' := 92) (v := 0) rfl (pz_dc dX10_sheet 50 rfl) ki_0 ?_
      refine pz_goto (pc' := 111) (pz_dc dX10_sheet 51 rfl) (by decide) ?_
      refine pz_stI hb (pc' := 112) rfl (pz_dc dX10_sheet 60 rfl) (fun h6 hb => ?_)
      refine pz_iload (pc' := 114) (x := l5) 5 rfl (pz_dc dX10_sheet 61 rfl) rfl ?_
      refine pz_iload (pc' := 116) (x := l4) 4 rfl (pz_dc dX10_sheet 62 rfl) rfl ?_
      refine pz_iadd (pc' := 117) rfl (pz_dc dX10_sheet 63 rfl) ?_
      refine pz_istore (pc' := 119) (lv' := [(5, .int (l5 + l4)), (7, .int s0), (0, .ref l0), (1, .int l1), (2, .int l2), (4, .int l4), (6, .int l6)]) rfl (pz_dc dX10_sheet 64 rfl) (by decide) rfl ?_
      refine pz_iinc (pc' := 122) (x := l6) (v := l6 + (1 : Int32)) (lv' := [(6, .int (l6 + (1 : Int32))), (5, .int (l5 + l4)), (7, .int s0), (0, .ref l0), (1, .int l1), (2, .int l2), (4, .int l4)]) 6 rfl (pz_dc dX10_sheet 65 rfl) rfl rfl (by decide) rfl ?_
      refine pz_goto (pc' := 40) (pz_dc dX10_sheet 66 rfl) (by decide) ?_
      refine pz_lv (lv' := [(0, .ref l0), (1, .int l1), (2, .int l2), (4, .int l4), (5, .int (l5 + l4)), (6, .int (l6 + (1 : Int32)))]) [3, 4, 5, 6, 1, 0] rfl ?_
      exact hb
set_option maxRecDepth 20000 in
set_option maxHeartbeats 4000000 in
theorem wX10_lay_0 {Ex : State → Nat → Prop} {Q : Option Value → pz_H → Prop} {d bc bs : Nat} {l0 : Nat} {l1 : Nat} {l2 : Int32}  {h : pz_H}  (hb : pz_V mX10_lay Ex Q d bc bs 2 [(0, .ref l0), (1, .ref l1), (2, .int l2), (3, .int 0)] [] h) : pz_V mX10_lay Ex Q d bc bs 0 [(0, .ref l0), (1, .ref l1), (2, .int l2)] [] h := by
  refine pz_iconst (pc' := 1) (v := 0) rfl (pz_dc dX10_lay 0 rfl) ki_0 ?_
  refine pz_istore_n (pc' := 2) (lv' := [(3, .int 0), (0, .ref l0), (1, .ref l1), (2, .int l2)]) rfl (pz_dc dX10_lay 1 rfl) (by decide) rfl ?_
  refine pz_lv (lv' := [(0, .ref l0), (1, .ref l1), (2, .int l2), (3, .int 0)]) [1, 2, 3, 0] rfl ?_
  exact hb
set_option maxRecDepth 20000 in
set_option maxHeartbeats 4000000 in
theorem wX10_lay_2 {Ex : State → Nat → Prop} {Q : Option Value → pz_H → Prop} {d bc bs : Nat} {l0 : Nat} {l1 : Nat} {l2 : Int32} {l3 : Int32}  {h : pz_H}  (hb : (((33 : Int32)) ≤ l3 → Q none h) ∧ (¬ ((33 : Int32)) ≤ l3 → pz_rI h l0 l3 (fun (x1 : Int32) => pz_sI h l1 (l2 + l3) x1 (fun (h2 : pz_H) => pz_V mX10_lay Ex Q d bc bs 2 [(0, .ref l0), (1, .ref l1), (2, .int l2), (3, .int (l3 + (1 : Int32)))] [] h2)))) : pz_V mX10_lay Ex Q d bc bs 2 [(0, .ref l0), (1, .ref l1), (2, .int l2), (3, .int l3)] [] h := by
  refine pz_iload_n (pc' := 3) (x := l3) 3 rfl (pz_dc dX10_lay 2 rfl) rfl ?_
  refine pz_bipush (pc' := 5) (v := 33) rfl (pz_dc dX10_lay 3 rfl) kb_33 ?_
  refine pz_icmp_ge (pc' := 8) (tgt := 22) rfl (pz_dc dX10_lay 4 rfl) (by decide) (fun hc => ?_) (fun hc => ?_)
  · replace hb := hb.1 hc
    exact pz_vret (pz_dc dX10_lay 15 rfl) rfl hb
  · replace hb := hb.2 hc
    refine pz_aload_n (pc' := 9) (x := l1) 1 rfl (pz_dc dX10_lay 5 rfl) rfl ?_
    refine pz_iload_n (pc' := 10) (x := l2) 2 rfl (pz_dc dX10_lay 6 rfl) rfl ?_
    refine pz_iload_n (pc' := 11) (x := l3) 3 rfl (pz_dc dX10_lay 7 rfl) rfl ?_
    refine pz_iadd (pc' := 12) rfl (pz_dc dX10_lay 8 rfl) ?_
    refine pz_aload_n (pc' := 13) (x := l0) 0 rfl (pz_dc dX10_lay 9 rfl) rfl ?_
    refine pz_iload_n (pc' := 14) (x := l3) 3 rfl (pz_dc dX10_lay 10 rfl) rfl ?_
    refine pz_ldI hb (pc' := 15) rfl (pz_dc dX10_lay 11 rfl) (fun x1 hb => ?_)
    refine pz_stI hb (pc' := 16) rfl (pz_dc dX10_lay 12 rfl) (fun h2 hb => ?_)
    refine pz_iinc (pc' := 19) (x := l3) (v := l3 + (1 : Int32)) (lv' := [(3, .int (l3 + (1 : Int32))), (0, .ref l0), (1, .ref l1), (2, .int l2)]) 3 rfl (pz_dc dX10_lay 13 rfl) rfl rfl (by decide) rfl ?_
    refine pz_goto (pc' := 2) (pz_dc dX10_lay 14 rfl) (by decide) ?_
    refine pz_lv (lv' := [(0, .ref l0), (1, .ref l1), (2, .int l2), (3, .int (l3 + (1 : Int32)))]) [1, 2, 3, 0] rfl ?_
    exact hb
set_option maxRecDepth 20000 in
set_option maxHeartbeats 4000000 in
theorem wX10_remember_0 {Ex : State → Nat → Prop} {Q : Option Value → pz_H → Prop} {d bc bs : Nat} {l0 : Nat} {l1 : Nat}  {h : pz_H} (hD : 1 ≤ d) (hb : pz_gI h l0 10 22 (fun (x1 : Int32) => (¬ x1 = ((12 : Int32)) → pz_gR h l0 10 21 (fun (a2 : Nat) => pz_gI h l0 10 22 (fun (x3 : Int32) => pz_kv mX10_lay 0 0 0 ([.ref l1, .ref a2, .int (((33 : Int32)) * x3)]) h (fun (h4 : pz_H) => pz_gI h4 l0 10 22 (fun (x5 : Int32) => pz_pF h4 l0 10 22 (.int (x5 + ((1 : Int32)))) (fun (h6 : pz_H) => Q none h6)))))) ∧ (x1 = ((12 : Int32)) → pz_V mX10_remember Ex Q d bc bs 11 [(0, .ref l0), (1, .ref l1), (2, .int 0)] [] h))) : pz_V mX10_remember Ex Q d bc bs 0 [(0, .ref l0), (1, .ref l1)] [] h := by
  refine pz_aload_n (pc' := 1) (x := l0) 0 rfl (pz_dc dX10_remember 0 rfl) rfl ?_
  refine pz_getI (M := mX10_remember) hb fX10_163 (pc' := 4) rfl (pz_dc dX10_remember 1 rfl) (fun x1 hb => ?_)
  refine pz_bipush (pc' := 6) (v := 12) rfl (pz_dc dX10_remember 2 rfl) kb_12 ?_
  refine pz_icmp_ne (pc' := 9) (tgt := 49) rfl (pz_dc dX10_remember 3 rfl) (by decide) (fun hc => ?_) (fun hc => ?_)
  · replace hb := hb.1 hc
    refine pz_aload_n (pc' := 50) (x := l1) 1 rfl (pz_dc dX10_remember 27 rfl) rfl ?_
    refine pz_aload_n (pc' := 51) (x := l0) 0 rfl (pz_dc dX10_remember 28 rfl) rfl ?_
    refine pz_getR (M := mX10_remember) hb fX10_42 (pc' := 54) rfl (pz_dc dX10_remember 29 rfl) (fun a2 hb => ?_)
    refine pz_bipush (pc' := 56) (v := 33) rfl (pz_dc dX10_remember 30 rfl) kb_33 ?_
    refine pz_aload_n (pc' := 57) (x := l0) 0 rfl (pz_dc dX10_remember 31 rfl) rfl ?_
    refine pz_getI (M := mX10_remember) hb fX10_163 (pc' := 60) rfl (pz_dc dX10_remember 32 rfl) (fun x3 hb => ?_)
    refine pz_imul (pc' := 61) rfl (pz_dc dX10_remember 33 rfl) ?_
    refine pz_cSv (M := mX10_remember) (N := mX10_lay) (d' := 0) (bc1 := 0) (bs1 := 0) (bc2 := bc) (bs2 := bs) (pc' := 64) [.ref l1, .ref a2, .int (((33 : Int32)) * x3)] hb sX10_230 rfl (pz_dc dX10_remember 34 rfl) rfl (Nat.le_of_ble_eq_true rfl) (Nat.le_of_ble_eq_true rfl) rfl (by omega) (by omega) (by omega) (fun h4 hb => ?_)
    refine pz_aload_n (pc' := 65) (x := l0) 0 rfl (pz_dc dX10_remember 35 rfl) rfl ?_
    refine pz_dup (pc' := 66) rfl (pz_dc dX10_remember 36 rfl) rfl ?_
    refine pz_getI (M := mX10_remember) hb fX10_163 (pc' := 69) rfl (pz_dc dX10_remember 37 rfl) (fun x5 hb => ?_)
    refine pz_iconst (pc' := 70) (v := 1) rfl (pz_dc dX10_remember 38 rfl) ki_1 ?_
    refine pz_iadd (pc' := 71) rfl (pz_dc dX10_remember 39 rfl) ?_
    refine pz_putv (M := mX10_remember) hb (pX10_163 _ rfl) rfl rfl (pc' := 74) rfl (pz_dc dX10_remember 40 rfl) (fun h6 hb => ?_)
    exact pz_vret (pz_dc dX10_remember 41 rfl) rfl hb
  · replace hb := hb.2 hc
    refine pz_iconst (pc' := 10) (v := 0) rfl (pz_dc dX10_remember 4 rfl) ki_0 ?_
    refine pz_istore_n (pc' := 11) (lv' := [(2, .int 0), (0, .ref l0), (1, .ref l1)]) rfl (pz_dc dX10_remember 5 rfl) (by decide) rfl ?_
    refine pz_lv (lv' := [(0, .ref l0), (1, .ref l1), (2, .int 0)]) [1, 2, 0] rfl ?_
    exact hb
set_option maxRecDepth 20000 in
set_option maxHeartbeats 4000000 in
theorem wX10_remember_11 {Ex : State → Nat → Prop} {Q : Option Value → pz_H → Prop} {d bc bs : Nat} {l0 : Nat} {l1 : Nat} {l2 : Int32}  {h : pz_H} (hD : 1 ≤ d) (hb : (((363 : Int32)) ≤ l2 → pz_gI h l0 10 22 (fun (x1 : Int32) => pz_pF h l0 10 22 (.int (x1 - ((1 : Int32)))) (fun (h2 : pz_H) => pz_gR h2 l0 10 21 (fun (a3 : Nat) => pz_gI h2 l0 10 22 (fun (x4 : Int32) => pz_kv mX10_lay 0 0 0 ([.ref l1, .ref a3, .int (((33 : Int32)) * x4)]) h2 (fun (h5 : pz_H) => pz_gI h5 l0 10 22 (fun (x6 : Int32) => pz_pF h5 l0 10 22 (.int (x6 + ((1 : Int32)))) (fun (h7 : pz_H) => Q none h7)))))))) ∧ (¬ ((363 : Int32)) ≤ l2 → pz_gR h l0 10 21 (fun (a8 : Nat) => pz_gR h l0 10 21 (fun (a9 : Nat) => pz_rI h a9 (l2 + ((33 : Int32))) (fun (x10 : Int32) => pz_sI h a8 l2 x10 (fun (h11 : pz_H) => pz_V mX10_remember Ex Q d bc bs 11 [(0, .ref l0), (1, .ref l1), (2, .int (l2 + (1 : Int32)))] [] h11)))))) : pz_V mX10_remember Ex Q d bc bs 11 [(0, .ref l0), (1, .ref l1), (2, .int l2)] [] h := by
  refine pz_iload_n (pc' := 12) (x := l2) 2 rfl (pz_dc dX10_remember 6 rfl) rfl ?_
  refine pz_sipush (pc' := 15) (v := 363) rfl (pz_dc dX10_remember 7 rfl) ks_363 ?_
  refine pz_icmp_ge (pc' := 18) (tgt := 39) rfl (pz_dc dX10_remember 8 rfl) (by decide) (fun hc => ?_) (fun hc => ?_)
  · replace hb := hb.1 hc
    refine pz_aload_n (pc' := 40) (x := l0) 0 rfl (pz_dc dX10_remember 21 rfl) rfl ?_
    refine pz_dup (pc' := 41) rfl (pz_dc dX10_remember 22 rfl) rfl ?_
    refine pz_getI (M := mX10_remember) hb fX10_163 (pc' := 44) rfl (pz_dc dX10_remember 23 rfl) (fun x1 hb => ?_)
    refine pz_iconst (pc' := 45) (v := 1) rfl (pz_dc dX10_remember 24 rfl) ki_1 ?_
    refine pz_isub (pc' := 46) rfl (pz_dc dX10_remember 25 rfl) ?_
    refine pz_putv (M := mX10_remember) hb (pX10_163 _ rfl) rfl rfl (pc' := 49) rfl (pz_dc dX10_remember 26 rfl) (fun h2 hb => ?_)
    refine pz_aload_n (pc' := 50) (x := l1) 1 rfl (pz_dc dX10_remember 27 rfl) rfl ?_
    refine pz_aload_n (pc' := 51) (x := l0) 0 rfl (pz_dc dX10_remember 28 rfl) rfl ?_
    refine pz_getR (M := mX10_remember) hb fX10_42 (pc' := 54) rfl (pz_dc dX10_remember 29 rfl) (fun a3 hb => ?_)
    refine pz_bipush (pc' := 56) (v := 33) rfl (pz_dc dX10_remember 30 rfl) kb_33 ?_
    refine pz_aload_n (pc' := 57) (x := l0) 0 rfl (pz_dc dX10_remember 31 rfl) rfl ?_
    refine pz_getI (M := mX10_remember) hb fX10_163 (pc' := 60) rfl (pz_dc dX10_remember 32 rfl) (fun x4 hb => ?_)
    refine pz_imul (pc' := 61) rfl (pz_dc dX10_remember 33 rfl) ?_
    refine pz_cSv (M := mX10_remember) (N := mX10_lay) (d' := 0) (bc1 := 0) (bs1 := 0) (bc2 := bc) (bs2 := bs) (pc' := 64) [.ref l1, .ref a3, .int (((33 : Int32)) * x4)] hb sX10_230 rfl (pz_dc dX10_remember 34 rfl) rfl (Nat.le_of_ble_eq_true rfl) (Nat.le_of_ble_eq_true rfl) rfl (by omega) (by omega) (by omega) (fun h5 hb => ?_)
    refine pz_aload_n (pc' := 65) (x := l0) 0 rfl (pz_dc dX10_remember 35 rfl) rfl ?_
    refine pz_dup (pc' := 66) rfl (pz_dc dX10_remember 36 rfl) rfl ?_
    refine pz_getI (M := mX10_remember) hb fX10_163 (pc' := 69) rfl (pz_dc dX10_remember 37 rfl) (fun x6 hb => ?_)
    refine pz_iconst (pc' := 70) (v := 1) rfl (pz_dc dX10_remember 38 rfl) ki_1 ?_
    refine pz_iadd (pc' := 71) rfl (pz_dc dX10_remember 39 rfl) ?_
    refine pz_putv (M := mX10_remember) hb (pX10_163 _ rfl) rfl rfl (pc' := 74) rfl (pz_dc dX10_remember 40 rfl) (fun h7 hb => ?_)
    exact pz_vret (pz_dc dX10_remember 41 rfl) rfl hb
  · replace hb := hb.2 hc
    refine pz_aload_n (pc' := 19) (x := l0) 0 rfl (pz_dc dX10_remember 9 rfl) rfl ?_
    refine pz_getR (M := mX10_remember) hb fX10_42 (pc' := 22) rfl (pz_dc dX10_remember 10 rfl) (fun a8 hb => ?_)
    refine pz_iload_n (pc' := 23) (x := l2) 2 rfl (pz_dc dX10_remember 11 rfl) rfl ?_
    refine pz_aload_n (pc' := 24) (x := l0) 0 rfl (pz_dc dX10_remember 12 rfl) rfl ?_
    refine pz_getR (M := mX10_remember) hb fX10_42 (pc' := 27) rfl (pz_dc dX10_remember 13 rfl) (fun a9 hb => ?_)
    refine pz_iload_n (pc' := 28) (x := l2) 2 rfl (pz_dc dX10_remember 14 rfl) rfl ?_
    refine pz_bipush (pc' := 30) (v := 33) rfl (pz_dc dX10_remember 15 rfl) kb_33 ?_
    refine pz_iadd (pc' := 31) rfl (pz_dc dX10_remember 16 rfl) ?_
    refine pz_ldI hb (pc' := 32) rfl (pz_dc dX10_remember 17 rfl) (fun x10 hb => ?_)
    refine pz_stI hb (pc' := 33) rfl (pz_dc dX10_remember 18 rfl) (fun h11 hb => ?_)
    refine pz_iinc (pc' := 36) (x := l2) (v := l2 + (1 : Int32)) (lv' := [(2, .int (l2 + (1 : Int32))), (0, .ref l0), (1, .ref l1)]) 2 rfl (pz_dc dX10_remember 19 rfl) rfl rfl (by decide) rfl ?_
    refine pz_goto (pc' := 11) (pz_dc dX10_remember 20 rfl) (by decide) ?_
    refine pz_lv (lv' := [(0, .ref l0), (1, .ref l1), (2, .int (l2 + (1 : Int32)))]) [1, 2, 0] rfl ?_
    exact hb
set_option maxRecDepth 20000 in
set_option maxHeartbeats 4000000 in
theorem wX10_goDay_0 {Ex : State → Nat → Prop} {Q : Option Value → pz_H → Prop} {d bc bs : Nat} {l0 : Nat} {l1 : Nat}  {h : pz_H} (hD : 82 ≤ d) (hb : pz_V mX10_goDay Ex Q d bc bs 2 [(0, .ref l0), (1, .ref l1), (2, .int 0)] [] h) : pz_V mX10_goDay Ex Q d bc bs 0 [(0, .ref l0), (1, .ref l1)] [] h := by
  refine pz_iconst (pc' := 1) (v := 0) rfl (pz_dc dX10_goDay 0 rfl) ki_0 ?_
  refine pz_istore_n (pc' := 2) (lv' := [(2, .int 0), (0, .ref l0), (1, .ref l1)]) rfl (pz_dc dX10_goDay 1 rfl) (by decide) rfl ?_
  refine pz_lv (lv' := [(0, .ref l0), (1, .ref l1), (2, .int 0)]) [1, 2, 0] rfl ?_
  exact hb
set_option maxRecDepth 20000 in
set_option maxHeartbeats 4000000 in
theorem wX10_goDay_2 {Ex : State → Nat → Prop} {Q : Option Value → pz_H → Prop} {d bc bs : Nat} {l0 : Nat} {l1 : Nat} {l2 : Int32}  {h : pz_H} (hD : 82 ≤ d) (hb : pz_gI h l0 10 1 (fun (x1 : Int32) => (x1 ≤ l2 → pz_V mX10_goDay Ex Q d bc bs 42 [(0, .ref l0), (1, .ref l1), (2, .int 0)] [] h) ∧ (¬ x1 ≤ l2 → pz_gR h l0 10 25 (fun (a2 : Nat) => pz_is h l0 10 ∧ (pz_ki mX10_runOf 81 0 0 (.ref l0 :: [.ref l1, .int l2]) h (fun (x4 : Int32) (h3 : pz_H) => pz_sI h3 a2 l2 x4 (fun (h5 : pz_H) => pz_gR h5 l0 10 26 (fun (a6 : Nat) => pz_rI h5 l1 (((18 : Int32)) + l2) (fun (x7 : Int32) => pz_sI h5 a6 l2 x7 (fun (h8 : pz_H) => pz_V mX10_goDay Ex Q d bc bs 2 [(0, .ref l0), (1, .ref l1), (2, .int (l2 + (1 : Int32)))] [] h8)))))))))) : pz_V mX10_goDay Ex Q d bc bs 2 [(0, .ref l0), (1, .ref l1), (2, .int l2)] [] h := by
  refine pz_iload_n (pc' := 3) (x := l2) 2 rfl (pz_dc dX10_goDay 2 rfl) rfl ?_
  refine pz_aload_n (pc' := 4) (x := l0) 0 rfl (pz_dc dX10_goDay 3 rfl) rfl ?_
  refine pz_getI (M := mX10_goDay) hb fX10_101 (pc' := 7) rfl (pz_dc dX10_goDay 4 rfl) (fun x1 hb => ?_)
  refine pz_icmp_ge (pc' := 10) (tgt := 40) rfl (pz_dc dX10_goDay 5 rfl) (by decide) (fun hc => ?_) (fun hc => ?_)
  · replace hb := hb.1 hc
    refine pz_iconst (pc' := 41) (v := 0) rfl (pz_dc dX10_goDay 25 rfl) ki_0 ?_
    refine pz_istore_n (pc' := 42) (lv' := [(2, .int 0), (0, .ref l0), (1, .ref l1)]) rfl (pz_dc dX10_goDay 26 rfl) (by decide) rfl ?_
    refine pz_lv (lv' := [(0, .ref l0), (1, .ref l1), (2, .int 0)]) [1, 2, 0] rfl ?_
    exact hb
  · replace hb := hb.2 hc
    refine pz_aload_n (pc' := 11) (x := l0) 0 rfl (pz_dc dX10_goDay 6 rfl) rfl ?_
    refine pz_getR (M := mX10_goDay) hb fX10_51 (pc' := 14) rfl (pz_dc dX10_goDay 7 rfl) (fun a2 hb => ?_)
    refine pz_iload_n (pc' := 15) (x := l2) 2 rfl (pz_dc dX10_goDay 8 rfl) rfl ?_
    refine pz_aload_n (pc' := 16) (x := l0) 0 rfl (pz_dc dX10_goDay 9 rfl) rfl ?_
    refine pz_aload_n (pc' := 17) (x := l1) 1 rfl (pz_dc dX10_goDay 10 rfl) rfl ?_
    refine pz_iload_n (pc' := 18) (x := l2) 2 rfl (pz_dc dX10_goDay 11 rfl) rfl ?_
    refine pz_cVi (M := mX10_goDay) (N := mX10_runOf) (d' := 81) (bc1 := 0) (bs1 := 0) (bc2 := bc) (bs2 := bs) (pc' := 21) [.ref l1, .int l2] hb vX10_223 rfl (pz_dc dX10_goDay 12 rfl) rfl (Nat.le_of_ble_eq_true rfl) (Nat.le_of_ble_eq_true rfl) rfl (by omega) (by omega) (by omega) (fun x4 h3 hb => ?_)
    refine pz_stI hb (pc' := 22) rfl (pz_dc dX10_goDay 13 rfl) (fun h5 hb => ?_)
    refine pz_aload_n (pc' := 23) (x := l0) 0 rfl (pz_dc dX10_goDay 14 rfl) rfl ?_
    refine pz_getR (M := mX10_goDay) hb fX10_54 (pc' := 26) rfl (pz_dc dX10_goDay 15 rfl) (fun a6 hb => ?_)
    refine pz_iload_n (pc' := 27) (x := l2) 2 rfl (pz_dc dX10_goDay 16 rfl) rfl ?_
    refine pz_aload_n (pc' := 28) (x := l1) 1 rfl (pz_dc dX10_goDay 17 rfl) rfl ?_
    refine pz_bipush (pc' := 30) (v := 18) rfl (pz_dc dX10_goDay 18 rfl) kb_18 ?_
    refine pz_iload_n (pc' := 31) (x := l2) 2 rfl (pz_dc dX10_goDay 19 rfl) rfl ?_
    refine pz_iadd (pc' := 32) rfl (pz_dc dX10_goDay 20 rfl) ?_
    refine pz_ldI hb (pc' := 33) rfl (pz_dc dX10_goDay 21 rfl) (fun x7 hb => ?_)
    refine pz_stI hb (pc' := 34) rfl (pz_dc dX10_goDay 22 rfl) (fun h8 hb => ?_)
    refine pz_iinc (pc' := 37) (x := l2) (v := l2 + (1 : Int32)) (lv' := [(2, .int (l2 + (1 : Int32))), (0, .ref l0), (1, .ref l1)]) 2 rfl (pz_dc dX10_goDay 23 rfl) rfl rfl (by decide) rfl ?_
    refine pz_goto (pc' := 2) (pz_dc dX10_goDay 24 rfl) (by decide) ?_
    refine pz_lv (lv' := [(0, .ref l0), (1, .ref l1), (2, .int (l2 + (1 : Int32)))]) [1, 2, 0] rfl ?_
    exact hb
set_option maxRecDepth 20000 in
set_option maxHeartbeats 4000000 in
theorem wX10_goDay_42 {Ex : State → Nat → Prop} {Q : Option Value → pz_H → Prop} {d bc bs : Nat} {l0 : Nat} {l1 : Nat} {l2 : Int32}  {h : pz_H} (hD : 82 ≤ d) (hb : pz_gI h l0 10 1 (fun (x1 : Int32) => (x1 ≤ l2 → pz_V mX10_goDay Ex Q d bc bs 88 [(0, .ref l0), (1, .ref l1), (2, .int 0)] [] h) ∧ (¬ x1 ≤ l2 → pz_gR h l0 10 4 (fun (a2 : Nat) => pz_rI h a2 l2 (fun (x3 : Int32) => (x3 = ((-1 : Int32)) → pz_V mX10_goDay Ex Q d bc bs 42 [(0, .ref l0), (1, .ref l1), (2, .int (l2 + (1 : Int32)))] [] h) ∧ (¬ x3 = ((-1 : Int32)) → pz_gR h l0 10 26 (fun (a4 : Nat) => pz_gR h l0 10 4 (fun (a5 : Nat) => pz_rI h a5 l2 (fun (x6 : Int32) => pz_rI h a4 x6 (fun (x7 : Int32) => pz_gR h l0 10 25 (fun (a8 : Nat) => pz_rI h a8 l2 (fun (x9 : Int32) => pz_sI h a4 x6 (x7 + x9) (fun (h10 : pz_H) => pz_V mX10_goDay Ex Q d bc bs 42 [(0, .ref l0), (1, .ref l1), (2, .int (l2 + (1 : Int32)))] [] h10))))))))))))) : pz_V mX10_goDay Ex Q d bc bs 42 [(0, .ref l0), (1, .ref l1), (2, .int l2)] [] h := by
  refine pz_iload_n (pc' := 43) (x := l2) 2 rfl (pz_dc dX10_goDay 27 rfl) rfl ?_
  refine pz_aload_n (pc' := 44) (x := l0) 0 rfl (pz_dc dX10_goDay 28 rfl) rfl ?_
  refine pz_getI (M := mX10_goDay) hb fX10_101 (pc' := 47) rfl (pz_dc dX10_goDay 29 rfl) (fun x1 hb => ?_)
  refine pz_icmp_ge (pc' := 50) (tgt := 86) rfl (pz_dc dX10_goDay 30 rfl) (by decide) (fun hc => ?_) (fun hc => ?_)
  · replace hb := hb.1 hc
    refine pz_iconst (pc' := 87) (v := 0) rfl (pz_dc dX10_goDay 53 rfl) ki_0 ?_
    refine pz_istore_n (pc' := 88) (lv' := [(2, .int 0), (0, .ref l0), (1, .ref l1)]) rfl (pz_dc dX10_goDay 54 rfl) (by decide) rfl ?_
    refine pz_lv (lv' := [(0, .ref l0), (1, .ref l1), (2, .int 0)]) [1, 2, 0] rfl ?_
    exact hb
  · replace hb := hb.2 hc
    refine pz_aload_n (pc' := 51) (x := l0) 0 rfl (pz_dc dX10_goDay 31 rfl) rfl ?_
    refine pz_getR (M := mX10_goDay) hb fX10_19 (pc' := 54) rfl (pz_dc dX10_goDay 32 rfl) (fun a2 hb => ?_)
    refine pz_iload_n (pc' := 55) (x := l2) 2 rfl (pz_dc dX10_goDay 33 rfl) rfl ?_
    refine pz_ldI hb (pc' := 56) rfl (pz_dc dX10_goDay 34 rfl) (fun x3 hb => ?_)
    refine pz_iconst (pc' := 57) (v := (-1)) rfl (pz_dc dX10_goDay 35 rfl) ki_m1 ?_
    refine pz_icmp_eq (pc' := 60) (tgt := 80) rfl (pz_dc dX10_goDay 36 rfl) (by decide) (fun hc => ?_) (fun hc => ?_)
    · replace hb := hb.1 hc
      refine pz_iinc (pc' := 83) (x := l2) (v := l2 + (1 : Int32)) (lv' := [(2, .int (l2 + (1 : Int32))), (0, .ref l0), (1, .ref l1)]) 2 rfl (pz_dc dX10_goDay 51 rfl) rfl rfl (by decide) rfl ?_
      refine pz_goto (pc' := 42) (pz_dc dX10_goDay 52 rfl) (by decide) ?_
      refine pz_lv (lv' := [(0, .ref l0), (1, .ref l1), (2, .int (l2 + (1 : Int32)))]) [1, 2, 0] rfl ?_
      exact hb
    · replace hb := hb.2 hc
      refine pz_aload_n (pc' := 61) (x := l0) 0 rfl (pz_dc dX10_goDay 37 rfl) rfl ?_
      refine pz_getR (M := mX10_goDay) hb fX10_54 (pc' := 64) rfl (pz_dc dX10_goDay 38 rfl) (fun a4 hb => ?_)
      refine pz_aload_n (pc' := 65) (x := l0) 0 rfl (pz_dc dX10_goDay 39 rfl) rfl ?_
      refine pz_getR (M := mX10_goDay) hb fX10_19 (pc' := 68) rfl (pz_dc dX10_goDay 40 rfl) (fun a5 hb => ?_)
      refine pz_iload_n (pc' := 69) (x := l2) 2 rfl (pz_dc dX10_goDay 41 rfl) rfl ?_
      refine pz_ldI hb (pc' := 70) rfl (pz_dc dX10_goDay 42 rfl) (fun x6 hb => ?_)
      refine pz_dup2 (pc' := 71) rfl (pz_dc dX10_goDay 43 rfl) rfl rfl ?_
      refine pz_ldI hb (pc' := 72) rfl (pz_dc dX10_goDay 44 rfl) (fun x7 hb => ?_)
      refine pz_aload_n (pc' := 73) (x := l0) 0 rfl (pz_dc dX10_goDay 45 rfl) rfl ?_
      refine pz_getR (M := mX10_goDay) hb fX10_51 (pc' := 76) rfl (pz_dc dX10_goDay 46 rfl) (fun a8 hb => ?_)
      refine pz_iload_n (pc' := 77) (x := l2) 2 rfl (pz_dc dX10_goDay 47 rfl) rfl ?_
      refine pz_ldI hb (pc' := 78) rfl (pz_dc dX10_goDay 48 rfl) (fun x9 hb => ?_)
      refine pz_iadd (pc' := 79) rfl (pz_dc dX10_goDay 49 rfl) ?_
      refine pz_stI hb (pc' := 80) rfl (pz_dc dX10_goDay 50 rfl) (fun h10 hb => ?_)
      refine pz_iinc (pc' := 83) (x := l2) (v := l2 + (1 : Int32)) (lv' := [(2, .int (l2 + (1 : Int32))), (0, .ref l0), (1, .ref l1)]) 2 rfl (pz_dc dX10_goDay 51 rfl) rfl rfl (by decide) rfl ?_
      refine pz_goto (pc' := 42) (pz_dc dX10_goDay 52 rfl) (by decide) ?_
      refine pz_lv (lv' := [(0, .ref l0), (1, .ref l1), (2, .int (l2 + (1 : Int32)))]) [1, 2, 0] rfl ?_
      exact hb
set_option maxRecDepth 20000 in
set_option maxHeartbeats 4000000 in
theorem wX10_goDay_88 {Ex : State → Nat → Prop} {Q : Option Value → pz_H → Prop} {d bc bs : Nat} {l0 : Nat} {l1 : Nat} {l2 : Int32}  {h : pz_H} (hD : 82 ≤ d) (hb : pz_gI h l0 10 1 (fun (x1 : Int32) => (x1 ≤ l2 → pz_rI h l1 30 (fun (x2 : Int32) => pz_sI h l1 30 (x2 + ((1 : Int32))) (fun (h3 : pz_H) => Q none h3))) ∧ (¬ x1 ≤ l2 → pz_rI h l1 l2 (fun (x4 : Int32) => pz_gR h l0 10 25 (fun (a5 : Nat) => pz_rI h a5 l2 (fun (x6 : Int32) => pz_gR h l0 10 3 (fun (a7 : Nat) => pz_rI h a7 l2 (fun (x8 : Int32) => pz_gI h l0 10 27 (fun (x9 : Int32) => (¬ l2 = x9 → pz_V mX10_goDay Ex Q d bc bs 136 [(0, .ref l0), (1, .ref l1), (2, .int l2), (3, .int x4)] [.int 0, .int x8, .int (x4 - x6), .int (x4 - x6)] h) ∧ (l2 = x9 → pz_gI h l0 10 28 (fun (x10 : Int32) => pz_V mX10_goDay Ex Q d bc bs 136 [(0, .ref l0), (1, .ref l1), (2, .int l2), (3, .int x4)] [.int x10, .int x8, .int (x4 - x6), .int (x4 - x6)] h))))))))))) : pz_V mX10_goDay Ex Q d bc bs 88 [(0, .ref l0), (1, .ref l1), (2, .int l2)] [] h := by
  refine pz_iload_n (pc' := 89) (x := l2) 2 rfl (pz_dc dX10_goDay 55 rfl) rfl ?_
  refine pz_aload_n (pc' := 90) (x := l0) 0 rfl (pz_dc dX10_goDay 56 rfl) rfl ?_
  refine pz_getI (M := mX10_goDay) hb fX10_101 (pc' := 93) rfl (pz_dc dX10_goDay 57 rfl) (fun x1 hb => ?_)
  refine pz_icmp_ge (pc' := 96) (tgt := 257) rfl (pz_dc dX10_goDay 58 rfl) (by decide) (fun hc => ?_) (fun hc => ?_)
  · replace hb := hb.1 hc
    refine pz_aload_n (pc' := 258) (x := l1) 1 rfl (pz_dc dX10_goDay 160 rfl) rfl ?_
    refine pz_bipush (pc' := 260) (v := 30) rfl (pz_dc dX10_goDay 161 rfl) kb_30 ?_
    refine pz_dup2 (pc' := 261) rfl (pz_dc dX10_goDay 162 rfl) rfl rfl ?_
    refine pz_ldI hb (pc' := 262) rfl (pz_dc dX10_goDay 163 rfl) (fun x2 hb => ?_)
    refine pz_iconst (pc' := 263) (v := 1) rfl (pz_dc dX10_goDay 164 rfl) ki_1 ?_
    refine pz_iadd (pc' := 264) rfl (pz_dc dX10_goDay 165 rfl) ?_
    refine pz_stI hb (pc' := 265) rfl (pz_dc dX10_goDay 166 rfl) (fun h3 hb => ?_)
    exact pz_vret (pz_dc dX10_goDay 167 rfl) rfl hb
  · replace hb := hb.2 hc
    refine pz_aload_n (pc' := 97) (x := l1) 1 rfl (pz_dc dX10_goDay 59 rfl) rfl ?_
    refine pz_iload_n (pc' := 98) (x := l2) 2 rfl (pz_dc dX10_goDay 60 rfl) rfl ?_
    refine pz_ldI hb (pc' := 99) rfl (pz_dc dX10_goDay 61 rfl) (fun x4 hb => ?_)
    refine pz_istore_n (pc' := 100) (lv' := [(3, .int x4), (0, .ref l0), (1, .ref l1), (2, .int l2)]) rfl (pz_dc dX10_goDay 62 rfl) (by decide) rfl ?_
    refine pz_iload_n (pc' := 101) (x := x4) 0 rfl (pz_dc dX10_goDay 63 rfl) rfl ?_
    refine pz_aload_n (pc' := 102) (x := l0) 1 rfl (pz_dc dX10_goDay 64 rfl) rfl ?_
    refine pz_getR (M := mX10_goDay) hb fX10_51 (pc' := 105) rfl (pz_dc dX10_goDay 65 rfl) (fun a5 hb => ?_)
    refine pz_iload_n (pc' := 106) (x := l2) 3 rfl (pz_dc dX10_goDay 66 rfl) rfl ?_
    refine pz_ldI hb (pc' := 107) rfl (pz_dc dX10_goDay 67 rfl) (fun x6 hb => ?_)
    refine pz_isub (pc' := 108) rfl (pz_dc dX10_goDay 68 rfl) ?_
    refine pz_istore (pc' := 110) (lv' := [(4, .int (x4 - x6)), (3, .int x4), (0, .ref l0), (1, .ref l1), (2, .int l2)]) rfl (pz_dc dX10_goDay 69 rfl) (by decide) rfl ?_
    refine pz_iload (pc' := 112) (x := x4 - x6) 0 rfl (pz_dc dX10_goDay 70 rfl) rfl ?_
    refine pz_iload (pc' := 114) (x := x4 - x6) 0 rfl (pz_dc dX10_goDay 71 rfl) rfl ?_
    refine pz_aload_n (pc' := 115) (x := l0) 2 rfl (pz_dc dX10_goDay 72 rfl) rfl ?_
    refine pz_getR (M := mX10_goDay) hb fX10_16 (pc' := 118) rfl (pz_dc dX10_goDay 73 rfl) (fun a7 hb => ?_)
    refine pz_iload_n (pc' := 119) (x := l2) 4 rfl (pz_dc dX10_goDay 74 rfl) rfl ?_
    refine pz_ldI hb (pc' := 120) rfl (pz_dc dX10_goDay 75 rfl) (fun x8 hb => ?_)
    refine pz_iload_n (pc' := 121) (x := l2) 4 rfl (pz_dc dX10_goDay 76 rfl) rfl ?_
    refine pz_aload_n (pc' := 122) (x := l0) 2 rfl (pz_dc dX10_goDay 77 rfl) rfl ?_
    refine pz_getI (M := mX10_goDay) hb fX10_57 (pc' := 125) rfl (pz_dc dX10_goDay 78 rfl) (fun x9 hb => ?_)
    refine pz_icmp_ne (pc' := 128) (tgt := 135) rfl (pz_dc dX10_goDay 79 rfl) (by decide) (fun hc => ?_) (fun hc => ?_)
    · replace hb := hb.1 hc
      refine pz_iconst (pc' := 136) (v := 0) rfl (pz_dc dX10_goDay 83 rfl) ki_0 ?_
      refine pz_lv (lv' := [(0, .ref l0), (1, .ref l1), (2, .int l2), (3, .int x4)]) [2, 3, 4, 1] rfl ?_
      exact hb
    · replace hb := hb.2 hc
      refine pz_aload_n (pc' := 129) (x := l0) 2 rfl (pz_dc dX10_goDay 80 rfl) rfl ?_
      refine pz_getI (M := mX10_goDay) hb fX10_234 (pc' := 132) rfl (pz_dc dX10_goDay 81 rfl) (fun x10 hb => ?_)
      refine pz_goto (pc' := 136) (pz_dc dX10_goDay 82 rfl) (by decide) ?_
      refine pz_lv (lv' := [(0, .ref l0), (1, .ref l1), (2, .int l2), (3, .int x4)]) [2, 3, 4, 1] rfl ?_
      exact hb
set_option maxRecDepth 20000 in
set_option maxHeartbeats 4000000 in
theorem wX10_goDay_136 {Ex : State → Nat → Prop} {Q : Option Value → pz_H → Prop} {d bc bs : Nat} {l0 : Nat} {l1 : Nat} {l2 : Int32} {l3 : Int32} {s0 : Int32} {s1 : Int32} {s2 : Int32} {s3 : Int32} {h : pz_H} (hD : 82 ≤ d) (hb : pz_gR h l0 10 26 (fun (a1 : Nat) => pz_rI h a1 l2 (fun (x2 : Int32) => pz_rI h l1 31 (fun (x3 : Int32) => pz_gR h l0 10 2 (fun (a4 : Nat) => pz_rI h a4 l2 (fun (x5 : Int32) => pz_sI h l1 31 (if (x3 + (if ((0 : Int32)) < (((s3 - (if (s1 + s0) < s2 then (s1 + s0) else s2)) + x2) - x5) then (((s3 - (if (s1 + s0) < s2 then (s1 + s0) else s2)) + x2) - x5) else ((0 : Int32)))) < ((9999 : Int32)) then (x3 + (if ((0 : Int32)) < (((s3 - (if (s1 + s0) < s2 then (s1 + s0) else s2)) + x2) - x5) then (((s3 - (if (s1 + s0) < s2 then (s1 + s0) else s2)) + x2) - x5) else ((0 : Int32)))) else ((9999 : Int32))) (fun (h6 : pz_H) => pz_gR h6 l0 10 2 (fun (a7 : Nat) => pz_rI h6 a7 l2 (fun (x8 : Int32) => pz_sI h6 l1 l2 (if ((s3 - (if (s1 + s0) < s2 then (s1 + s0) else s2)) + x2) < x8 then ((s3 - (if (s1 + s0) < s2 then (s1 + s0) else s2)) + x2) else x8) (fun (h9 : pz_H) => pz_rI h9 l1 (((6 : Int32)) + l2) (fun (x10 : Int32) => (¬ x10 = ((1 : Int32)) → (l3 ≤ 0 → pz_V mX10_goDay Ex Q d bc bs 88 [(0, .ref l0), (1, .ref l1), (2, .int (l2 + (1 : Int32)))] [] h9) ∧ (¬ l3 ≤ 0 → pz_rI h9 l1 l2 (fun (x11 : Int32) => (¬ x11 = 0 → pz_V mX10_goDay Ex Q d bc bs 88 [(0, .ref l0), (1, .ref l1), (2, .int (l2 + (1 : Int32)))] [] h9) ∧ (x11 = 0 → pz_rI h9 l1 32 (fun (x12 : Int32) => pz_sI h9 l1 32 (if (x12 + ((1 : Int32))) < ((999 : Int32)) then (x12 + ((1 : Int32))) else ((999 : Int32))) (fun (h13 : pz_H) => pz_V mX10_goDay Ex Q d bc bs 88 [(0, .ref l0), (1, .ref l1), (2, .int (l2 + (1 : Int32)))] [] h13)))))) ∧ (x10 = ((1 : Int32)) → pz_rI h9 l1 (((12 : Int32)) + l2) (fun (x14 : Int32) => pz_sI h9 l1 (((12 : Int32)) + l2) (if (x14 + ((1 : Int32))) < ((9 : Int32)) then (x14 + ((1 : Int32))) else ((9 : Int32))) (fun (h15 : pz_H) => (l3 ≤ 0 → pz_V mX10_goDay Ex Q d bc bs 88 [(0, .ref l0), (1, .ref l1), (2, .int (l2 + (1 : Int32)))] [] h15) ∧ (¬ l3 ≤ 0 → pz_rI h15 l1 l2 (fun (x16 : Int32) => (¬ x16 = 0 → pz_V mX10_goDay Ex Q d bc bs 88 [(0, .ref l0), (1, .ref l1), (2, .int (l2 + (1 : Int32)))] [] h15) ∧ (x16 = 0 → pz_rI h15 l1 32 (fun (x17 : Int32) => pz_sI h15 l1 32 (if (x17 + ((1 : Int32))) < ((999 : Int32)) then (x17 + ((1 : Int32))) else ((999 : Int32))) (fun (h18 : pz_H) => pz_V mX10_goDay Ex Q d bc bs 88 [(0, .ref l0), (1, .ref l1), (2, .int (l2 + (1 : Int32)))] [] h18))))))))))))))))))) : pz_V mX10_goDay Ex Q d bc bs 136 [(0, .ref l0), (1, .ref l1), (2, .int l2), (3, .int l3)] [.int s0, .int s1, .int s2, .int s3] h := by
  refine pz_iadd (pc' := 137) rfl (pz_dc dX10_goDay 84 rfl) ?_
  refine pz_min (M := mX10_goDay) (pc' := 140) wX10_211 rfl (pz_dc dX10_goDay 85 rfl) (Nat.le_of_ble_eq_true rfl) (by omega) ?_
  refine pz_isub (pc' := 141) rfl (pz_dc dX10_goDay 86 rfl) ?_
  refine pz_istore (pc' := 143) (lv' := [(4, .int (s3 - (if (s1 + s0) < s2 then (s1 + s0) else s2))), (0, .ref l0), (1, .ref l1), (2, .int l2), (3, .int l3)]) rfl (pz_dc dX10_goDay 87 rfl) (by decide) rfl ?_
  refine pz_iload (pc' := 145) (x := s3 - (if (s1 + s0) < s2 then (s1 + s0) else s2)) 0 rfl (pz_dc dX10_goDay 88 rfl) rfl ?_
  refine pz_aload_n (pc' := 146) (x := l0) 1 rfl (pz_dc dX10_goDay 89 rfl) rfl ?_
  refine pz_getR (M := mX10_goDay) hb fX10_54 (pc' := 149) rfl (pz_dc dX10_goDay 90 rfl) (fun a1 hb => ?_)
  refine pz_iload_n (pc' := 150) (x := l2) 3 rfl (pz_dc dX10_goDay 91 rfl) rfl ?_
  refine pz_ldI hb (pc' := 151) rfl (pz_dc dX10_goDay 92 rfl) (fun x2 hb => ?_)
  refine pz_iadd (pc' := 152) rfl (pz_dc dX10_goDay 93 rfl) ?_
  refine pz_istore (pc' := 154) (lv' := [(4, .int ((s3 - (if (s1 + s0) < s2 then (s1 + s0) else s2)) + x2)), (0, .ref l0), (1, .ref l1), (2, .int l2), (3, .int l3)]) rfl (pz_dc dX10_goDay 94 rfl) (by decide) rfl ?_
  refine pz_aload_n (pc' := 155) (x := l1) 2 rfl (pz_dc dX10_goDay 95 rfl) rfl ?_
  refine pz_bipush (pc' := 157) (v := 31) rfl (pz_dc dX10_goDay 96 rfl) kb_31 ?_
  refine pz_sipush (pc' := 160) (v := 9999) rfl (pz_dc dX10_goDay 97 rfl) ks_9999 ?_
  refine pz_aload_n (pc' := 161) (x := l1) 2 rfl (pz_dc dX10_goDay 98 rfl) rfl ?_
  refine pz_bipush (pc' := 163) (v := 31) rfl (pz_dc dX10_goDay 99 rfl) kb_31 ?_
  refine pz_ldI hb (pc' := 164) rfl (pz_dc dX10_goDay 100 rfl) (fun x3 hb => ?_)
  refine pz_iconst (pc' := 165) (v := 0) rfl (pz_dc dX10_goDay 101 rfl) ki_0 ?_
  refine pz_iload (pc' := 167) (x := (s3 - (if (s1 + s0) < s2 then (s1 + s0) else s2)) + x2) 0 rfl (pz_dc dX10_goDay 102 rfl) rfl ?_
  refine pz_aload_n (pc' := 168) (x := l0) 1 rfl (pz_dc dX10_goDay 103 rfl) rfl ?_
  refine pz_getR (M := mX10_goDay) hb fX10_13 (pc' := 171) rfl (pz_dc dX10_goDay 104 rfl) (fun a4 hb => ?_)
  refine pz_iload_n (pc' := 172) (x := l2) 3 rfl (pz_dc dX10_goDay 105 rfl) rfl ?_
  refine pz_ldI hb (pc' := 173) rfl (pz_dc dX10_goDay 106 rfl) (fun x5 hb => ?_)
  refine pz_isub (pc' := 174) rfl (pz_dc dX10_goDay 107 rfl) ?_
  refine pz_max (M := mX10_goDay) (pc' := 177) wX10_217 rfl (pz_dc dX10_goDay 108 rfl) (Nat.le_of_ble_eq_true rfl) (by omega) ?_
  refine pz_iadd (pc' := 178) rfl (pz_dc dX10_goDay 109 rfl) ?_
  refine pz_min (M := mX10_goDay) (pc' := 181) wX10_211 rfl (pz_dc dX10_goDay 110 rfl) (Nat.le_of_ble_eq_true rfl) (by omega) ?_
  refine pz_stI hb (pc' := 182) rfl (pz_dc dX10_goDay 111 rfl) (fun h6 hb => ?_)
  refine pz_aload_n (pc' := 183) (x := l1) 2 rfl (pz_dc dX10_goDay 112 rfl) rfl ?_
  refine pz_iload_n (pc' := 184) (x := l2) 3 rfl (pz_dc dX10_goDay 113 rfl) rfl ?_
  refine pz_aload_n (pc' := 185) (x := l0) 1 rfl (pz_dc dX10_goDay 114 rfl) rfl ?_
  refine pz_getR (M := mX10_goDay) hb fX10_13 (pc' := 188) rfl (pz_dc dX10_goDay 115 rfl) (fun a7 hb => ?_)
  refine pz_iload_n (pc' := 189) (x := l2) 3 rfl (pz_dc dX10_goDay 116 rfl) rfl ?_
  refine pz_ldI hb (pc' := 190) rfl (pz_dc dX10_goDay 117 rfl) (fun x8 hb => ?_)
  refine pz_iload (pc' := 192) (x := (s3 - (if (s1 + s0) < s2 then (s1 + s0) else s2)) + x2) 0 rfl (pz_dc dX10_goDay 118 rfl) rfl ?_
  refine pz_min (M := mX10_goDay) (pc' := 195) wX10_211 rfl (pz_dc dX10_goDay 119 rfl) (Nat.le_of_ble_eq_true rfl) (by omega) ?_
  refine pz_stI hb (pc' := 196) rfl (pz_dc dX10_goDay 120 rfl) (fun h9 hb => ?_)
  refine pz_aload_n (pc' := 197) (x := l1) 2 rfl (pz_dc dX10_goDay 121 rfl) rfl ?_
  refine pz_bipush (pc' := 199) (v := 6) rfl (pz_dc dX10_goDay 122 rfl) kb_6 ?_
  refine pz_iload_n (pc' := 200) (x := l2) 3 rfl (pz_dc dX10_goDay 123 rfl) rfl ?_
  refine pz_iadd (pc' := 201) rfl (pz_dc dX10_goDay 124 rfl) ?_
  refine pz_ldI hb (pc' := 202) rfl (pz_dc dX10_goDay 125 rfl) (fun x10 hb => ?_)
  refine pz_iconst (pc' := 203) (v := 1) rfl (pz_dc dX10_goDay 126 rfl) ki_1 ?_
  refine pz_icmp_ne (pc' := 206) (tgt := 225) rfl (pz_dc dX10_goDay 127 rfl) (by decide) (fun hc => ?_) (fun hc => ?_)
  · replace hb := hb.1 hc
    refine pz_iload_n (pc' := 226) (x := l3) 4 rfl (pz_dc dX10_goDay 142 rfl) rfl ?_
    refine pz_if_le (pc' := 229) (tgt := 251) rfl (pz_dc dX10_goDay 143 rfl) (by decide) (fun hc => ?_) (fun hc => ?_)
    · replace hb := hb.1 hc
      refine pz_iinc (pc' := 254) (x := l2) (v := l2 + (1 : Int32)) (lv' := [(2, .int (l2 + (1 : Int32))), (4, .int ((s3 - (if (s1 + s0) < s2 then (s1 + s0) else s2)) + x2)), (0, .ref l0), (1, .ref l1), (3, .int l3)]) 3 rfl (pz_dc dX10_goDay 158 rfl) rfl rfl (by decide) rfl ?_
      refine pz_goto (pc' := 88) (pz_dc dX10_goDay 159 rfl) (by decide) ?_
      refine pz_lv (lv' := [(0, .ref l0), (1, .ref l1), (2, .int (l2 + (1 : Int32)))]) [2, 3, 0] rfl ?_
      exact hb
    · replace hb := hb.2 hc
      refine pz_aload_n (pc' := 230) (x := l1) 2 rfl (pz_dc dX10_goDay 144 rfl) rfl ?_
      refine pz_iload_n (pc' := 231) (x := l2) 3 rfl (pz_dc dX10_goDay 145 rfl) rfl ?_
      refine pz_ldI hb (pc' := 232) rfl (pz_dc dX10_goDay 146 rfl) (fun x11 hb => ?_)
      refine pz_if_ne (pc' := 235) (tgt := 251) rfl (pz_dc dX10_goDay 147 rfl) (by decide) (fun hc => ?_) (fun hc => ?_)
      · replace hb := hb.1 hc
        refine pz_iinc (pc' := 254) (x := l2) (v := l2 + (1 : Int32)) (lv' := [(2, .int (l2 + (1 : Int32))), (4, .int ((s3 - (if (s1 + s0) < s2 then (s1 + s0) else s2)) + x2)), (0, .ref l0), (1, .ref l1), (3, .int l3)]) 3 rfl (pz_dc dX10_goDay 158 rfl) rfl rfl (by decide) rfl ?_
        refine pz_goto (pc' := 88) (pz_dc dX10_goDay 159 rfl) (by decide) ?_
        refine pz_lv (lv' := [(0, .ref l0), (1, .ref l1), (2, .int (l2 + (1 : Int32)))]) [2, 3, 0] rfl ?_
        exact hb
      · replace hb := hb.2 hc
        refine pz_aload_n (pc' := 236) (x := l1) 2 rfl (pz_dc dX10_goDay 148 rfl) rfl ?_
        refine pz_bipush (pc' := 238) (v := 32) rfl (pz_dc dX10_goDay 149 rfl) kb_32 ?_
        refine pz_sipush (pc' := 241) (v := 999) rfl (pz_dc dX10_goDay 150 rfl) ks_999 ?_
        refine pz_aload_n (pc' := 242) (x := l1) 2 rfl (pz_dc dX10_goDay 151 rfl) rfl ?_
        refine pz_bipush (pc' := 244) (v := 32) rfl (pz_dc dX10_goDay 152 rfl) kb_32 ?_
        refine pz_ldI hb (pc' := 245) rfl (pz_dc dX10_goDay 153 rfl) (fun x12 hb => ?_)
        refine pz_iconst (pc' := 246) (v := 1) rfl (pz_dc dX10_goDay 154 rfl) ki_1 ?_
        refine pz_iadd (pc' := 247) rfl (pz_dc dX10_goDay 155 rfl) ?_
        refine pz_min (M := mX10_goDay) (pc' := 250) wX10_211 rfl (pz_dc dX10_goDay 156 rfl) (Nat.le_of_ble_eq_true rfl) (by omega) ?_
        refine pz_stI hb (pc' := 251) rfl (pz_dc dX10_goDay 157 rfl) (fun h13 hb => ?_)
        refine pz_iinc (pc' := 254) (x := l2) (v := l2 + (1 : Int32)) (lv' := [(2, .int (l2 + (1 : Int32))), (4, .int ((s3 - (if (s1 + s0) < s2 then (s1 + s0) else s2)) + x2)), (0, .ref l0), (1, .ref l1), (3, .int l3)]) 3 rfl (pz_dc dX10_goDay 158 rfl) rfl rfl (by decide) rfl ?_
        refine pz_goto (pc' := 88) (pz_dc dX10_goDay 159 rfl) (by decide) ?_
        refine pz_lv (lv' := [(0, .ref l0), (1, .ref l1), (2, .int (l2 + (1 : Int32)))]) [2, 3, 0] rfl ?_
        exact hb
  · replace hb := hb.2 hc
    refine pz_aload_n (pc' := 207) (x := l1) 2 rfl (pz_dc dX10_goDay 128 rfl) rfl ?_
    refine pz_bipush (pc' := 209) (v := 12) rfl (pz_dc dX10_goDay 129 rfl) kb_12 ?_
    refine pz_iload_n (pc' := 210) (x := l2) 3 rfl (pz_dc dX10_goDay 130 rfl) rfl ?_
    refine pz_iadd (pc' := 211) rfl (pz_dc dX10_goDay 131 rfl) ?_
    refine pz_bipush (pc' := 213) (v := 9) rfl (pz_dc dX10_goDay 132 rfl) kb_9 ?_
    refine pz_aload_n (pc' := 214) (x := l1) 2 rfl (pz_dc dX10_goDay 133 rfl) rfl ?_
    refine pz_bipush (pc' := 216) (v := 12) rfl (pz_dc dX10_goDay 134 rfl) kb_12 ?_
    refine pz_iload_n (pc' := 217) (x := l2) 3 rfl (pz_dc dX10_goDay 135 rfl) rfl ?_
    refine pz_iadd (pc' := 218) rfl (pz_dc dX10_goDay 136 rfl) ?_
    refine pz_ldI hb (pc' := 219) rfl (pz_dc dX10_goDay 137 rfl) (fun x14 hb => ?_)
    refine pz_iconst (pc' := 220) (v := 1) rfl (pz_dc dX10_goDay 138 rfl) ki_1 ?_
    refine pz_iadd (pc' := 221) rfl (pz_dc dX10_goDay 139 rfl) ?_
    refine pz_min (M := mX10_goDay) (pc' := 224) wX10_211 rfl (pz_dc dX10_goDay 140 rfl) (Nat.le_of_ble_eq_true rfl) (by omega) ?_
    refine pz_stI hb (pc' := 225) rfl (pz_dc dX10_goDay 141 rfl) (fun h15 hb => ?_)
    refine pz_iload_n (pc' := 226) (x := l3) 4 rfl (pz_dc dX10_goDay 142 rfl) rfl ?_
    refine pz_if_le (pc' := 229) (tgt := 251) rfl (pz_dc dX10_goDay 143 rfl) (by decide) (fun hc => ?_) (fun hc => ?_)
    · replace hb := hb.1 hc
      refine pz_iinc (pc' := 254) (x := l2) (v := l2 + (1 : Int32)) (lv' := [(2, .int (l2 + (1 : Int32))), (4, .int ((s3 - (if (s1 + s0) < s2 then (s1 + s0) else s2)) + x2)), (0, .ref l0), (1, .ref l1), (3, .int l3)]) 3 rfl (pz_dc dX10_goDay 158 rfl) rfl rfl (by decide) rfl ?_
      refine pz_goto (pc' := 88) (pz_dc dX10_goDay 159 rfl) (by decide) ?_
      refine pz_lv (lv' := [(0, .ref l0), (1, .ref l1), (2, .int (l2 + (1 : Int32)))]) [2, 3, 0] rfl ?_
      exact hb
    · replace hb := hb.2 hc
      refine pz_aload_n (pc' := 230) (x := l1) 2 rfl (pz_dc dX10_goDay 144 rfl) rfl ?_
      refine pz_iload_n (pc' := 231) (x := l2) 3 rfl (pz_dc dX10_goDay 145 rfl) rfl ?_
      refine pz_ldI hb (pc' := 232) rfl (pz_dc dX10_goDay 146 rfl) (fun x16 hb => ?_)
      refine pz_if_ne (pc' := 235) (tgt := 251) rfl (pz_dc dX10_goDay 147 rfl) (by decide) (fun hc => ?_) (fun hc => ?_)
      · replace hb := hb.1 hc
        refine pz_iinc (pc' := 254) (x := l2) (v := l2 + (1 : Int32)) (lv' := [(2, .int (l2 + (1 : Int32))), (4, .int ((s3 - (if (s1 + s0) < s2 then (s1 + s0) else s2)) + x2)), (0, .ref l0), (1, .ref l1), (3, .int l3)]) 3 rfl (pz_dc dX10_goDay 158 rfl) rfl rfl (by decide) rfl ?_
        refine pz_goto (pc' := 88) (pz_dc dX10_goDay 159 rfl) (by decide) ?_
        refine pz_lv (lv' := [(0, .ref l0), (1, .ref l1), (2, .int (l2 + (1 : Int32)))]) [2, 3, 0] rfl ?_
        exact hb
      · replace hb := hb.2 hc
        refine pz_aload_n (pc' := 236) (x := l1) 2 rfl (pz_dc dX10_goDay 148 rfl) rfl ?_
        refine pz_bipush (pc' := 238) (v := 32) rfl (pz_dc dX10_goDay 149 rfl) kb_32 ?_
        refine pz_sipush (pc' := 241) (v := 999) rfl (pz_dc dX10_goDay 150 rfl) ks_999 ?_
        refine pz_aload_n (pc' := 242) (x := l1) 2 rfl (pz_dc dX10_goDay 151 rfl) rfl ?_
        refine pz_bipush (pc' := 244) (v := 32) rfl (pz_dc dX10_goDay 152 rfl) kb_32 ?_
        refine pz_ldI hb (pc' := 245) rfl (pz_dc dX10_goDay 153 rfl) (fun x17 hb => ?_)
        refine pz_iconst (pc' := 246) (v := 1) rfl (pz_dc dX10_goDay 154 rfl) ki_1 ?_
        refine pz_iadd (pc' := 247) rfl (pz_dc dX10_goDay 155 rfl) ?_
        refine pz_min (M := mX10_goDay) (pc' := 250) wX10_211 rfl (pz_dc dX10_goDay 156 rfl) (Nat.le_of_ble_eq_true rfl) (by omega) ?_
        refine pz_stI hb (pc' := 251) rfl (pz_dc dX10_goDay 157 rfl) (fun h18 hb => ?_)
        refine pz_iinc (pc' := 254) (x := l2) (v := l2 + (1 : Int32)) (lv' := [(2, .int (l2 + (1 : Int32))), (4, .int ((s3 - (if (s1 + s0) < s2 then (s1 + s0) else s2)) + x2)), (0, .ref l0), (1, .ref l1), (3, .int l3)]) 3 rfl (pz_dc dX10_goDay 158 rfl) rfl rfl (by decide) rfl ?_
        refine pz_goto (pc' := 88) (pz_dc dX10_goDay 159 rfl) (by decide) ?_
        refine pz_lv (lv' := [(0, .ref l0), (1, .ref l1), (2, .int (l2 + (1 : Int32)))]) [2, 3, 0] rfl ?_
        exact hb
set_option maxRecDepth 20000 in
set_option maxHeartbeats 4000000 in
theorem wX10_goDays_0 {Ex : State → Nat → Prop} {Q : Option Value → pz_H → Prop} {d bc bs : Nat} {l0 : Nat} {l1 : Nat} {l2 : Int32}  {h : pz_H} (hD : 83 ≤ d) (hb : pz_V mX10_goDays Ex Q d bc bs 2 [(0, .ref l0), (1, .ref l1), (2, .int l2), (3, .int 0)] [] h) : pz_V mX10_goDays Ex Q d bc bs 0 [(0, .ref l0), (1, .ref l1), (2, .int l2)] [] h := by
  refine pz_iconst (pc' := 1) (v := 0) rfl (pz_dc dX10_goDays 0 rfl) ki_0 ?_
  refine pz_istore_n (pc' := 2) (lv' := [(3, .int 0), (0, .ref l0), (1, .ref l1), (2, .int l2)]) rfl (pz_dc dX10_goDays 1 rfl) (by decide) rfl ?_
  refine pz_lv (lv' := [(0, .ref l0), (1, .ref l1), (2, .int l2), (3, .int 0)]) [1, 2, 3, 0] rfl ?_
  exact hb
set_option maxRecDepth 20000 in
set_option maxHeartbeats 4000000 in
theorem wX10_goDays_2 {Ex : State → Nat → Prop} {Q : Option Value → pz_H → Prop} {d bc bs : Nat} {l0 : Nat} {l1 : Nat} {l2 : Int32} {l3 : Int32}  {h : pz_H} (hD : 83 ≤ d) (hb : (l2 ≤ l3 → Q none h) ∧ (¬ l2 ≤ l3 → pz_is h l0 10 ∧ (pz_kv mX10_goDay 82 0 0 (.ref l0 :: [.ref l1]) h (fun (h1 : pz_H) => pz_V mX10_goDays Ex Q d bc bs 2 [(0, .ref l0), (1, .ref l1), (2, .int l2), (3, .int (l3 + (1 : Int32)))] [] h1)))) : pz_V mX10_goDays Ex Q d bc bs 2 [(0, .ref l0), (1, .ref l1), (2, .int l2), (3, .int l3)] [] h := by
  refine pz_iload_n (pc' := 3) (x := l3) 3 rfl (pz_dc dX10_goDays 2 rfl) rfl ?_
  refine pz_iload_n (pc' := 4) (x := l2) 2 rfl (pz_dc dX10_goDays 3 rfl) rfl ?_
  refine pz_icmp_ge (pc' := 7) (tgt := 18) rfl (pz_dc dX10_goDays 4 rfl) (by decide) (fun hc => ?_) (fun hc => ?_)
  · replace hb := hb.1 hc
    exact pz_vret (pz_dc dX10_goDays 10 rfl) rfl hb
  · replace hb := hb.2 hc
    refine pz_aload_n (pc' := 8) (x := l0) 0 rfl (pz_dc dX10_goDays 5 rfl) rfl ?_
    refine pz_aload_n (pc' := 9) (x := l1) 1 rfl (pz_dc dX10_goDays 6 rfl) rfl ?_
    refine pz_cVv (M := mX10_goDays) (N := mX10_goDay) (d' := 82) (bc1 := 0) (bs1 := 0) (bc2 := bc) (bs2 := bs) (pc' := 12) [.ref l1] hb vX10_237 rfl (pz_dc dX10_goDays 7 rfl) rfl (Nat.le_of_ble_eq_true rfl) (Nat.le_of_ble_eq_true rfl) rfl (by omega) (by omega) (by omega) (fun h1 hb => ?_)
    refine pz_iinc (pc' := 15) (x := l3) (v := l3 + (1 : Int32)) (lv' := [(3, .int (l3 + (1 : Int32))), (0, .ref l0), (1, .ref l1), (2, .int l2)]) 3 rfl (pz_dc dX10_goDays 8 rfl) rfl rfl (by decide) rfl ?_
    refine pz_goto (pc' := 2) (pz_dc dX10_goDays 9 rfl) (by decide) ?_
    refine pz_lv (lv' := [(0, .ref l0), (1, .ref l1), (2, .int l2), (3, .int (l3 + (1 : Int32)))]) [1, 2, 3, 0] rfl ?_
    exact hb
set_option maxRecDepth 20000 in
set_option maxHeartbeats 4000000 in
theorem wX10_days_0 {Ex : State → Nat → Prop} {Q : Option Value → pz_H → Prop} {d bc bs : Nat} {l0 : Nat} {l1 : Int32}  {h : pz_H} (hD : 84 ≤ d) (hb : pz_pF h l0 10 9 (.int 0) (fun (h1 : pz_H) => (¬ (eX10_in l1 ((0 : Int32)) ((60 : Int32))) = 0 → (l1 ≤ 0 → pz_V mX10_days Ex Q d bc bs 29 [(0, .ref l0), (1, .int l1)] [] h1) ∧ (¬ l1 ≤ 0 → pz_gR h1 l0 10 0 (fun (a2 : Nat) => pz_is h1 l0 10 ∧ (pz_kv mX10_remember 1 0 0 (.ref l0 :: [.ref a2]) h1 (fun (h3 : pz_H) => pz_V mX10_days Ex Q d bc bs 29 [(0, .ref l0), (1, .int l1)] [] h3))))) ∧ ((eX10_in l1 ((0 : Int32)) ((60 : Int32))) = 0 → Q (some (.int ((-1)))) h1))) : pz_V mX10_days Ex Q d bc bs 0 [(0, .ref l0), (1, .int l1)] [] h := by
  refine pz_aload_n (pc' := 1) (x := l0) 0 rfl (pz_dc dX10_days 0 rfl) rfl ?_
  refine pz_iconst (pc' := 2) (v := 0) rfl (pz_dc dX10_days 1 rfl) ki_0 ?_
  refine pz_putv (M := mX10_days) hb (pX10_95 _ rfl) rfl rfl (pc' := 5) rfl (pz_dc dX10_days 2 rfl) (fun h1 hb => ?_)
  refine pz_iload_n (pc' := 6) (x := l1) 1 rfl (pz_dc dX10_days 3 rfl) rfl ?_
  refine pz_iconst (pc' := 7) (v := 0) rfl (pz_dc dX10_days 4 rfl) ki_0 ?_
  refine pz_bipush (pc' := 9) (v := 60) rfl (pz_dc dX10_days 5 rfl) kb_60 ?_
  refine pz_callS (M := mX10_days) (N := mX10_in) (d' := 0) (bc1 := 0) (bs1 := 0) (bc2 := bc) (bs2 := bs) (pc' := 12) [.int l1, .int 0, .int 60] sX10_104 rfl (pz_dc dX10_days 6 rfl) rfl (Nat.le_of_ble_eq_true rfl) (Nat.le_of_ble_eq_true rfl) rfl (by omega) (by omega) (by omega) ?_
  refine cX10_in ?_
  show pz_V mX10_days _ _ _ _ _ 12 [(0, .ref l0), (1, .int l1)] [.int (eX10_in l1 ((0 : Int32)) ((60 : Int32)))] h1
  refine pz_if_ne (pc' := 15) (tgt := 17) rfl (pz_dc dX10_days 7 rfl) (by decide) (fun hc => ?_) (fun hc => ?_)
  · replace hb := hb.1 hc
    refine pz_iload_n (pc' := 18) (x := l1) 1 rfl (pz_dc dX10_days 10 rfl) rfl ?_
    refine pz_if_le (pc' := 21) (tgt := 29) rfl (pz_dc dX10_days 11 rfl) (by decide) (fun hc => ?_) (fun hc => ?_)
    · replace hb := hb.1 hc
      exact hb
    · replace hb := hb.2 hc
      refine pz_aload_n (pc' := 22) (x := l0) 0 rfl (pz_dc dX10_days 12 rfl) rfl ?_
      refine pz_aload_n (pc' := 23) (x := l0) 0 rfl (pz_dc dX10_days 13 rfl) rfl ?_
      refine pz_getR (M := mX10_days) hb fX10_9 (pc' := 26) rfl (pz_dc dX10_days 14 rfl) (fun a2 hb => ?_)
      refine pz_cVv (M := mX10_days) (N := mX10_remember) (d' := 1) (bc1 := 0) (bs1 := 0) (bc2 := bc) (bs2 := bs) (pc' := 29) [.ref a2] hb vX10_241 rfl (pz_dc dX10_days 15 rfl) rfl (Nat.le_of_ble_eq_true rfl) (Nat.le_of_ble_eq_true rfl) rfl (by omega) (by omega) (by omega) (fun h3 hb => ?_)
      exact hb
  · replace hb := hb.2 hc
    refine pz_iconst (pc' := 16) (v := (-1)) rfl (pz_dc dX10_days 8 rfl) ki_m1 ?_
    exact pz_iret (pz_dc dX10_days 9 rfl) rfl hb
set_option maxRecDepth 20000 in
set_option maxHeartbeats 4000000 in
theorem wX10_days_29 {Ex : State → Nat → Prop} {Q : Option Value → pz_H → Prop} {d bc bs : Nat} {l0 : Nat} {l1 : Int32}  {h : pz_H} (hD : 84 ≤ d) (hb : pz_gR h l0 10 0 (fun (a1 : Nat) => pz_rI h a1 31 (fun (x2 : Int32) => pz_gR h l0 10 0 (fun (a3 : Nat) => pz_rI h a3 32 (fun (x4 : Int32) => pz_gR h l0 10 0 (fun (a5 : Nat) => pz_is h l0 10 ∧ (pz_kv mX10_goDays 83 0 0 (.ref l0 :: [.ref a5, .int l1]) h (fun (h6 : pz_H) => pz_pF h6 l0 10 8 (.int 0) (fun (h7 : pz_H) => pz_gR h7 l0 10 0 (fun (a8 : Nat) => pz_rI h7 a8 31 (fun (x9 : Int32) => pz_is h7 l0 10 ∧ (pz_kv mX10_tell 0 0 0 (.ref l0 :: [.long ((x9 - x2).toInt64)]) h7 (fun (h10 : pz_H) => pz_gR h10 l0 10 0 (fun (a11 : Nat) => pz_rI h10 a11 32 (fun (x12 : Int32) => pz_is h10 l0 10 ∧ (pz_kv mX10_tell 0 0 0 (.ref l0 :: [.long ((x12 - x4).toInt64)]) h10 (fun (h13 : pz_H) => pz_gR h13 l0 10 0 (fun (a14 : Nat) => pz_is h13 l0 10 ∧ (pz_ki mX10_sumOf 0 0 0 (.ref l0 :: [.ref a14, .int 0]) h13 (fun (x16 : Int32) (h15 : pz_H) => Q (some (.int x16)) h15)))))))))))))))))))) : pz_V mX10_days Ex Q d bc bs 29 [(0, .ref l0), (1, .int l1)] [] h := by
  refine pz_aload_n (pc' := 30) (x := l0) 0 rfl (pz_dc dX10_days 16 rfl) rfl ?_
  refine pz_getR (M := mX10_days) hb fX10_9 (pc' := 33) rfl (pz_dc dX10_days 17 rfl) (fun a1 hb => ?_)
  refine pz_bipush (pc' := 35) (v := 31) rfl (pz_dc dX10_days 18 rfl) kb_31 ?_
  refine pz_ldI hb (pc' := 36) rfl (pz_dc dX10_days 19 rfl) (fun x2 hb => ?_)
  refine pz_istore_n (pc' := 37) (lv' := [(2, .int x2), (0, .ref l0), (1, .int l1)]) rfl (pz_dc dX10_days 20 rfl) (by decide) rfl ?_
  refine pz_aload_n (pc' := 38) (x := l0) 1 rfl (pz_dc dX10_days 21 rfl) rfl ?_
  refine pz_getR (M := mX10_days) hb fX10_9 (pc' := 41) rfl (pz_dc dX10_days 22 rfl) (fun a3 hb => ?_)
  refine pz_bipush (pc' := 43) (v := 32) rfl (pz_dc dX10_days 23 rfl) kb_32 ?_
  refine pz_ldI hb (pc' := 44) rfl (pz_dc dX10_days 24 rfl) (fun x4 hb => ?_)
  refine pz_istore_n (pc' := 45) (lv' := [(3, .int x4), (2, .int x2), (0, .ref l0), (1, .int l1)]) rfl (pz_dc dX10_days 25 rfl) (by decide) rfl ?_
  refine pz_aload_n (pc' := 46) (x := l0) 2 rfl (pz_dc dX10_days 26 rfl) rfl ?_
  refine pz_aload_n (pc' := 47) (x := l0) 2 rfl (pz_dc dX10_days 27 rfl) rfl ?_
  refine pz_getR (M := mX10_days) hb fX10_9 (pc' := 50) rfl (pz_dc dX10_days 28 rfl) (fun a5 hb => ?_)
  refine pz_iload_n (pc' := 51) (x := l1) 3 rfl (pz_dc dX10_days 29 rfl) rfl ?_
  refine pz_cVv (M := mX10_days) (N := mX10_goDays) (d' := 83) (bc1 := 0) (bs1 := 0) (bc2 := bc) (bs2 := bs) (pc' := 54) [.ref a5, .int l1] hb vX10_244 rfl (pz_dc dX10_days 30 rfl) rfl (Nat.le_of_ble_eq_true rfl) (Nat.le_of_ble_eq_true rfl) rfl (by omega) (by omega) (by omega) (fun h6 hb => ?_)
  refine pz_aload_n (pc' := 55) (x := l0) 2 rfl (pz_dc dX10_days 31 rfl) rfl ?_
  refine pz_iconst (pc' := 56) (v := 0) rfl (pz_dc dX10_days 32 rfl) ki_0 ?_
  refine pz_putv (M := mX10_days) hb (pX10_98 _ rfl) rfl rfl (pc' := 59) rfl (pz_dc dX10_days 33 rfl) (fun h7 hb => ?_)
  refine pz_aload_n (pc' := 60) (x := l0) 2 rfl (pz_dc dX10_days 34 rfl) rfl ?_
  refine pz_aload_n (pc' := 61) (x := l0) 2 rfl (pz_dc dX10_days 35 rfl) rfl ?_
  refine pz_getR (M := mX10_days) hb fX10_9 (pc' := 64) rfl (pz_dc dX10_days 36 rfl) (fun a8 hb => ?_)
  refine pz_bipush (pc' := 66) (v := 31) rfl (pz_dc dX10_days 37 rfl) kb_31 ?_
  refine pz_ldI hb (pc' := 67) rfl (pz_dc dX10_days 38 rfl) (fun x9 hb => ?_)
  refine pz_iload_n (pc' := 68) (x := x2) 1 rfl (pz_dc dX10_days 39 rfl) rfl ?_
  refine pz_isub (pc' := 69) rfl (pz_dc dX10_days 40 rfl) ?_
  refine pz_i2l (pc' := 70) rfl (pz_dc dX10_days 41 rfl) ?_
  refine pz_cVv (M := mX10_days) (N := mX10_tell) (d' := 0) (bc1 := 0) (bs1 := 0) (bc2 := bc) (bs2 := bs) (pc' := 73) [.long ((x9 - x2).toInt64)] hb vX10_248 rfl (pz_dc dX10_days 42 rfl) rfl (Nat.le_of_ble_eq_true rfl) (Nat.le_of_ble_eq_true rfl) rfl (by omega) (by omega) (by omega) (fun h10 hb => ?_)
  refine pz_aload_n (pc' := 74) (x := l0) 2 rfl (pz_dc dX10_days 43 rfl) rfl ?_
  refine pz_aload_n (pc' := 75) (x := l0) 2 rfl (pz_dc dX10_days 44 rfl) rfl ?_
  refine pz_getR (M := mX10_days) hb fX10_9 (pc' := 78) rfl (pz_dc dX10_days 45 rfl) (fun a11 hb => ?_)
  refine pz_bipush (pc' := 80) (v := 32) rfl (pz_dc dX10_days 46 rfl) kb_32 ?_
  refine pz_ldI hb (pc' := 81) rfl (pz_dc dX10_days 47 rfl) (fun x12 hb => ?_)
  refine pz_iload_n (pc' := 82) (x := x4) 0 rfl (pz_dc dX10_days 48 rfl) rfl ?_
  refine pz_isub (pc' := 83) rfl (pz_dc dX10_days 49 rfl) ?_
  refine pz_i2l (pc' := 84) rfl (pz_dc dX10_days 50 rfl) ?_
  refine pz_cVv (M := mX10_days) (N := mX10_tell) (d' := 0) (bc1 := 0) (bs1 := 0) (bc2 := bc) (bs2 := bs) (pc' := 87) [.long ((x12 - x4).toInt64)] hb vX10_248 rfl (pz_dc dX10_days 51 rfl) rfl (Nat.le_of_ble_eq_true rfl) (Nat.le_of_ble_eq_true rfl) rfl (by omega) (by omega) (by omega) (fun h13 hb => ?_)
  refine pz_aload_n (pc' := 88) (x := l0) 2 rfl (pz_dc dX10_days 52 rfl) rfl ?_
  refine pz_aload_n (pc' := 89) (x := l0) 2 rfl (pz_dc dX10_days 53 rfl) rfl ?_
  refine pz_getR (M := mX10_days) hb fX10_9 (pc' := 92) rfl (pz_dc dX10_days 54 rfl) (fun a14 hb => ?_)
  refine pz_iconst (pc' := 93) (v := 0) rfl (pz_dc dX10_days 55 rfl) ki_0 ?_
  refine pz_cVi (M := mX10_days) (N := mX10_sumOf) (d' := 0) (bc1 := 0) (bs1 := 0) (bc2 := bc) (bs2 := bs) (pc' := 96) [.ref a14, .int 0] hb vX10_227 rfl (pz_dc dX10_days 56 rfl) rfl (Nat.le_of_ble_eq_true rfl) (Nat.le_of_ble_eq_true rfl) rfl (by omega) (by omega) (by omega) (fun x16 h15 hb => ?_)
  exact pz_iret (pz_dc dX10_days 57 rfl) rfl hb
set_option maxRecDepth 20000 in
set_option maxHeartbeats 4000000 in
theorem wX10_refusesPlug_0 {Ex : State → Nat → Prop} {Q : Option Value → pz_H → Prop} {d bc bs : Nat} {l0 : Nat} {l1 : Int32} {l2 : Int32}  {h : pz_H} (hD : 2 ≤ d) (hb : pz_is h l0 10 ∧ (pz_gI h l0 10 1 (fun (x1 : Int32) => (¬ (eX10_isLake l1 x1) = 0 → pz_gR h l0 10 0 (fun (a5 : Nat) => pz_rI h a5 (((6 : Int32)) + l1) (fun (x6 : Int32) => (¬ x6 = l2 → Q (some (.int 0)) h) ∧ (x6 = l2 → Q (some (.int ((-2)))) h)))) ∧ ((eX10_isLake l1 x1) = 0 → Q (some (.int ((-1)))) h)))) : pz_V mX10_refusesPlug Ex Q d bc bs 0 [(0, .ref l0), (1, .int l1), (2, .int l2)] [] h := by
  refine pz_aload_n (pc' := 1) (x := l0) 0 rfl (pz_dc dX10_refusesPlug 0 rfl) rfl ?_
  refine pz_iload_n (pc' := 2) (x := l1) 1 rfl (pz_dc dX10_refusesPlug 1 rfl) rfl ?_
  obtain ⟨⟨fs7, hf8⟩, hb⟩ := hb
  obtain ⟨fs2, x1, g3, g4, hb⟩ := hb
  refine pz_callV (M := mX10_refusesPlug) (N := mX10_isLake) (d' := 1) (bc1 := 0) (bs1 := 0) (bc2 := bc) (bs2 := bs) (pc' := 5) [.int l1] vX10_108 rfl (pz_dc dX10_refusesPlug 2 rfl) rfl (Nat.le_of_ble_eq_true rfl) (Nat.le_of_ble_eq_true rfl) rfl (by omega) (by omega) (by omega) hf8 ?_
  refine cX10_isLake ⟨fs2, x1, g3, g4, ?_⟩
  show pz_V mX10_refusesPlug _ _ _ _ _ 5 [(0, .ref l0), (1, .int l1), (2, .int l2)] [.int (eX10_isLake l1 x1)] h
  refine pz_if_ne (pc' := 8) (tgt := 10) rfl (pz_dc dX10_refusesPlug 3 rfl) (by decide) (fun hc => ?_) (fun hc => ?_)
  · replace hb := hb.1 hc
    refine pz_aload_n (pc' := 11) (x := l0) 0 rfl (pz_dc dX10_refusesPlug 6 rfl) rfl ?_
    refine pz_getR (M := mX10_refusesPlug) hb fX10_9 (pc' := 14) rfl (pz_dc dX10_refusesPlug 7 rfl) (fun a5 hb => ?_)
    refine pz_bipush (pc' := 16) (v := 6) rfl (pz_dc dX10_refusesPlug 8 rfl) kb_6 ?_
    refine pz_iload_n (pc' := 17) (x := l1) 1 rfl (pz_dc dX10_refusesPlug 9 rfl) rfl ?_
    refine pz_iadd (pc' := 18) rfl (pz_dc dX10_refusesPlug 10 rfl) ?_
    refine pz_ldI hb (pc' := 19) rfl (pz_dc dX10_refusesPlug 11 rfl) (fun x6 hb => ?_)
    refine pz_iload_n (pc' := 20) (x := l2) 2 rfl (pz_dc dX10_refusesPlug 12 rfl) rfl ?_
    refine pz_icmp_ne (pc' := 23) (tgt := 28) rfl (pz_dc dX10_refusesPlug 13 rfl) (by decide) (fun hc => ?_) (fun hc => ?_)
    · replace hb := hb.1 hc
      refine pz_iconst (pc' := 29) (v := 0) rfl (pz_dc dX10_refusesPlug 16 rfl) ki_0 ?_
      exact pz_iret (pz_dc dX10_refusesPlug 17 rfl) rfl hb
    · replace hb := hb.2 hc
      refine pz_bipush (pc' := 25) (v := (-2)) rfl (pz_dc dX10_refusesPlug 14 rfl) kb_m2 ?_
      refine pz_goto (pc' := 29) (pz_dc dX10_refusesPlug 15 rfl) (by decide) ?_
      exact pz_iret (pz_dc dX10_refusesPlug 17 rfl) rfl hb
  · replace hb := hb.2 hc
    refine pz_iconst (pc' := 9) (v := (-1)) rfl (pz_dc dX10_refusesPlug 4 rfl) ki_m1 ?_
    exact pz_iret (pz_dc dX10_refusesPlug 5 rfl) rfl hb
set_option maxRecDepth 20000 in
set_option maxHeartbeats 4000000 in
theorem wX10_touches_0 {Ex : State → Nat → Prop} {Q : Option Value → pz_H → Prop} {d bc bs : Nat} {l0 : Nat} {l1 : Int32} {l2 : Int32}  {h : pz_H} (hD : 3 ≤ d) (hb : pz_pF h l0 10 9 (.int 0) (fun (h1 : pz_H) => pz_is h1 l0 10 ∧ (pz_ki mX10_refusesPlug 2 0 0 (.ref l0 :: [.int l1, .int l2]) h1 (fun (x3 : Int32) (h2 : pz_H) => (0 ≤ x3 → pz_gR h2 l0 10 0 (fun (a4 : Nat) => pz_is h2 l0 10 ∧ (pz_kv mX10_remember 1 0 0 (.ref l0 :: [.ref a4]) h2 (fun (h5 : pz_H) => pz_gR h5 l0 10 0 (fun (a6 : Nat) => pz_sI h5 a6 (((6 : Int32)) + l1) l2 (fun (h7 : pz_H) => pz_gR h7 l0 10 0 (fun (a8 : Nat) => pz_is h7 l0 10 ∧ (pz_ki mX10_outOnes 0 0 0 (.ref l0 :: [.ref a8]) h7 (fun (x10 : Int32) (h9 : pz_H) => pz_ki mJ6_bitCount_0f7a4 0 0 0 ([.int x10]) h9 (fun (x12 : Int32) (h11 : pz_H) => Q (some (.int x12)) h11)))))))))) ∧ (¬ 0 ≤ x3 → Q (some (.int x3)) h2))))) : pz_V mX10_touches Ex Q d bc bs 0 [(0, .ref l0), (1, .int l1), (2, .int l2)] [] h := by
  refine pz_aload_n (pc' := 1) (x := l0) 0 rfl (pz_dc dX10_touches 0 rfl) rfl ?_
  refine pz_iconst (pc' := 2) (v := 0) rfl (pz_dc dX10_touches 1 rfl) ki_0 ?_
  refine pz_putv (M := mX10_touches) hb (pX10_95 _ rfl) rfl rfl (pc' := 5) rfl (pz_dc dX10_touches 2 rfl) (fun h1 hb => ?_)
  refine pz_aload_n (pc' := 6) (x := l0) 0 rfl (pz_dc dX10_touches 3 rfl) rfl ?_
  refine pz_iload_n (pc' := 7) (x := l1) 1 rfl (pz_dc dX10_touches 4 rfl) rfl ?_
  refine pz_iload_n (pc' := 8) (x := l2) 2 rfl (pz_dc dX10_touches 5 rfl) rfl ?_
  refine pz_cVi (M := mX10_touches) (N := mX10_refusesPlug) (d' := 2) (bc1 := 0) (bs1 := 0) (bc2 := bc) (bs2 := bs) (pc' := 11) [.int l1, .int l2] hb vX10_252 rfl (pz_dc dX10_touches 6 rfl) rfl (Nat.le_of_ble_eq_true rfl) (Nat.le_of_ble_eq_true rfl) rfl (by omega) (by omega) (by omega) (fun x3 h2 hb => ?_)
  refine pz_istore_n (pc' := 12) (lv' := [(3, .int x3), (0, .ref l0), (1, .int l1), (2, .int l2)]) rfl (pz_dc dX10_touches 7 rfl) (by decide) rfl ?_
  refine pz_iload_n (pc' := 13) (x := x3) 0 rfl (pz_dc dX10_touches 8 rfl) rfl ?_
  refine pz_if_ge (pc' := 16) (tgt := 18) rfl (pz_dc dX10_touches 9 rfl) (by decide) (fun hc => ?_) (fun hc => ?_)
  · replace hb := hb.1 hc
    refine pz_aload_n (pc' := 19) (x := l0) 1 rfl (pz_dc dX10_touches 12 rfl) rfl ?_
    refine pz_aload_n (pc' := 20) (x := l0) 1 rfl (pz_dc dX10_touches 13 rfl) rfl ?_
    refine pz_getR (M := mX10_touches) hb fX10_9 (pc' := 23) rfl (pz_dc dX10_touches 14 rfl) (fun a4 hb => ?_)
    refine pz_cVv (M := mX10_touches) (N := mX10_remember) (d' := 1) (bc1 := 0) (bs1 := 0) (bc2 := bc) (bs2 := bs) (pc' := 26) [.ref a4] hb vX10_241 rfl (pz_dc dX10_touches 15 rfl) rfl (Nat.le_of_ble_eq_true rfl) (Nat.le_of_ble_eq_true rfl) rfl (by omega) (by omega) (by omega) (fun h5 hb => ?_)
    refine pz_aload_n (pc' := 27) (x := l0) 1 rfl (pz_dc dX10_touches 16 rfl) rfl ?_
    refine pz_getR (M := mX10_touches) hb fX10_9 (pc' := 30) rfl (pz_dc dX10_touches 17 rfl) (fun a6 hb => ?_)
    refine pz_bipush (pc' := 32) (v := 6) rfl (pz_dc dX10_touches 18 rfl) kb_6 ?_
    refine pz_iload_n (pc' := 33) (x := l1) 2 rfl (pz_dc dX10_touches 19 rfl) rfl ?_
    refine pz_iadd (pc' := 34) rfl (pz_dc dX10_touches 20 rfl) ?_
    refine pz_iload_n (pc' := 35) (x := l2) 3 rfl (pz_dc dX10_touches 21 rfl) rfl ?_
    refine pz_stI hb (pc' := 36) rfl (pz_dc dX10_touches 22 rfl) (fun h7 hb => ?_)
    refine pz_aload_n (pc' := 37) (x := l0) 1 rfl (pz_dc dX10_touches 23 rfl) rfl ?_
    refine pz_aload_n (pc' := 38) (x := l0) 1 rfl (pz_dc dX10_touches 24 rfl) rfl ?_
    refine pz_getR (M := mX10_touches) hb fX10_9 (pc' := 41) rfl (pz_dc dX10_touches 25 rfl) (fun a8 hb => ?_)
    refine pz_cVi (M := mX10_touches) (N := mX10_outOnes) (d' := 0) (bc1 := 0) (bs1 := 0) (bc2 := bc) (bs2 := bs) (pc' := 44) [.ref a8] hb vX10_202 rfl (pz_dc dX10_touches 26 rfl) rfl (Nat.le_of_ble_eq_true rfl) (Nat.le_of_ble_eq_true rfl) rfl (by omega) (by omega) (by omega) (fun x10 h9 hb => ?_)
    refine pz_cSi (M := mX10_touches) (N := mJ6_bitCount_0f7a4) (d' := 0) (bc1 := 0) (bs1 := 0) (bc2 := bc) (bs2 := bs) (pc' := 47) [.int x10] hb sX10_206 rfl (pz_dc dX10_touches 27 rfl) rfl (Nat.le_of_ble_eq_true rfl) (Nat.le_of_ble_eq_true rfl) rfl (by omega) (by omega) (by omega) (fun x12 h11 hb => ?_)
    exact pz_iret (pz_dc dX10_touches 28 rfl) rfl hb
  · replace hb := hb.2 hc
    refine pz_iload_n (pc' := 17) (x := x3) 0 rfl (pz_dc dX10_touches 10 rfl) rfl ?_
    exact pz_iret (pz_dc dX10_touches 11 rfl) rfl hb
set_option maxRecDepth 20000 in
set_option maxHeartbeats 4000000 in
theorem wX10_pulls_0 {Ex : State → Nat → Prop} {Q : Option Value → pz_H → Prop} {d bc bs : Nat} {l0 : Nat} {l1 : Int32}  {h : pz_H} (hD : 4 ≤ d) (hb : pz_is h l0 10 ∧ (pz_ki mX10_touches 3 0 0 (.ref l0 :: [.int l1, .int 1]) h (fun (x2 : Int32) (h1 : pz_H) => Q (some (.int x2)) h1))) : pz_V mX10_pulls Ex Q d bc bs 0 [(0, .ref l0), (1, .int l1)] [] h := by
  refine pz_aload_n (pc' := 1) (x := l0) 0 rfl (pz_dc dX10_pulls 0 rfl) rfl ?_
  refine pz_iload_n (pc' := 2) (x := l1) 1 rfl (pz_dc dX10_pulls 1 rfl) rfl ?_
  refine pz_iconst (pc' := 3) (v := 1) rfl (pz_dc dX10_pulls 2 rfl) ki_1 ?_
  refine pz_cVi (M := mX10_pulls) (N := mX10_touches) (d' := 3) (bc1 := 0) (bs1 := 0) (bc2 := bc) (bs2 := bs) (pc' := 6) [.int l1, .int 1] hb vX10_255 rfl (pz_dc dX10_pulls 3 rfl) rfl (Nat.le_of_ble_eq_true rfl) (Nat.le_of_ble_eq_true rfl) rfl (by omega) (by omega) (by omega) (fun x2 h1 hb => ?_)
  exact pz_iret (pz_dc dX10_pulls 4 rfl) rfl hb
set_option maxRecDepth 20000 in
set_option maxHeartbeats 4000000 in
theorem wX10_stops_0 {Ex : State → Nat → Prop} {Q : Option Value → pz_H → Prop} {d bc bs : Nat} {l0 : Nat} {l1 : Int32}  {h : pz_H} (hD : 4 ≤ d) (hb : pz_is h l0 10 ∧ (pz_ki mX10_touches 3 0 0 (.ref l0 :: [.int l1, .int 0]) h (fun (x2 : Int32) (h1 : pz_H) => Q (some (.int x2)) h1))) : pz_V mX10_stops Ex Q d bc bs 0 [(0, .ref l0), (1, .int l1)] [] h := by
  refine pz_aload_n (pc' := 1) (x := l0) 0 rfl (pz_dc dX10_stops 0 rfl) rfl ?_
  refine pz_iload_n (pc' := 2) (x := l1) 1 rfl (pz_dc dX10_stops 1 rfl) rfl ?_
  refine pz_iconst (pc' := 3) (v := 0) rfl (pz_dc dX10_stops 2 rfl) ki_0 ?_
  refine pz_cVi (M := mX10_stops) (N := mX10_touches) (d' := 3) (bc1 := 0) (bs1 := 0) (bc2 := bc) (bs2 := bs) (pc' := 6) [.int l1, .int 0] hb vX10_255 rfl (pz_dc dX10_stops 3 rfl) rfl (Nat.le_of_ble_eq_true rfl) (Nat.le_of_ble_eq_true rfl) rfl (by omega) (by omega) (by omega) (fun x2 h1 hb => ?_)
  exact pz_iret (pz_dc dX10_stops 4 rfl) rfl hb
set_option maxRecDepth 20000 in
set_option maxHeartbeats 4000000 in
theorem wX10_refusesComb_0 {Ex : State → Nat → Prop} {Q : Option Value → pz_H → Prop} {d bc bs : Nat} {l0 : Nat} {l1 : Int32}  {h : pz_H} (hD : 2 ≤ d) (hb : pz_is h l0 10 ∧ (pz_gI h l0 10 1 (fun (x1 : Int32) => (¬ (eX10_isLake l1 x1) = 0 → pz_gR h l0 10 0 (fun (a5 : Nat) => pz_rI h a5 (((12 : Int32)) + l1) (fun (x6 : Int32) => (¬ x6 = 0 → Q (some (.int 0)) h) ∧ (x6 = 0 → Q (some (.int ((-2)))) h)))) ∧ ((eX10_isLake l1 x1) = 0 → Q (some (.int ((-1)))) h)))) : pz_V mX10_refusesComb Ex Q d bc bs 0 [(0, .ref l0), (1, .int l1)] [] h := by
  refine pz_aload_n (pc' := 1) (x := l0) 0 rfl (pz_dc dX10_refusesComb 0 rfl) rfl ?_
  refine pz_iload_n (pc' := 2) (x := l1) 1 rfl (pz_dc dX10_refusesComb 1 rfl) rfl ?_
  obtain ⟨⟨fs7, hf8⟩, hb⟩ := hb
  obtain ⟨fs2, x1, g3, g4, hb⟩ := hb
  refine pz_callV (M := mX10_refusesComb) (N := mX10_isLake) (d' := 1) (bc1 := 0) (bs1 := 0) (bc2 := bc) (bs2 := bs) (pc' := 5) [.int l1] vX10_108 rfl (pz_dc dX10_refusesComb 2 rfl) rfl (Nat.le_of_ble_eq_true rfl) (Nat.le_of_ble_eq_true rfl) rfl (by omega) (by omega) (by omega) hf8 ?_
  refine cX10_isLake ⟨fs2, x1, g3, g4, ?_⟩
  show pz_V mX10_refusesComb _ _ _ _ _ 5 [(0, .ref l0), (1, .int l1)] [.int (eX10_isLake l1 x1)] h
  refine pz_if_ne (pc' := 8) (tgt := 10) rfl (pz_dc dX10_refusesComb 3 rfl) (by decide) (fun hc => ?_) (fun hc => ?_)
  · replace hb := hb.1 hc
    refine pz_aload_n (pc' := 11) (x := l0) 0 rfl (pz_dc dX10_refusesComb 6 rfl) rfl ?_
    refine pz_getR (M := mX10_refusesComb) hb fX10_9 (pc' := 14) rfl (pz_dc dX10_refusesComb 7 rfl) (fun a5 hb => ?_)
    refine pz_bipush (pc' := 16) (v := 12) rfl (pz_dc dX10_refusesComb 8 rfl) kb_12 ?_
    refine pz_iload_n (pc' := 17) (x := l1) 1 rfl (pz_dc dX10_refusesComb 9 rfl) rfl ?_
    refine pz_iadd (pc' := 18) rfl (pz_dc dX10_refusesComb 10 rfl) ?_
    refine pz_ldI hb (pc' := 19) rfl (pz_dc dX10_refusesComb 11 rfl) (fun x6 hb => ?_)
    refine pz_if_ne (pc' := 22) (tgt := 27) rfl (pz_dc dX10_refusesComb 12 rfl) (by decide) (fun hc => ?_) (fun hc => ?_)
    · replace hb := hb.1 hc
      refine pz_iconst (pc' := 28) (v := 0) rfl (pz_dc dX10_refusesComb 15 rfl) ki_0 ?_
      exact pz_iret (pz_dc dX10_refusesComb 16 rfl) rfl hb
    · replace hb := hb.2 hc
      refine pz_bipush (pc' := 24) (v := (-2)) rfl (pz_dc dX10_refusesComb 13 rfl) kb_m2 ?_
      refine pz_goto (pc' := 28) (pz_dc dX10_refusesComb 14 rfl) (by decide) ?_
      exact pz_iret (pz_dc dX10_refusesComb 16 rfl) rfl hb
  · replace hb := hb.2 hc
    refine pz_iconst (pc' := 9) (v := (-1)) rfl (pz_dc dX10_refusesComb 4 rfl) ki_m1 ?_
    exact pz_iret (pz_dc dX10_refusesComb 5 rfl) rfl hb
set_option maxRecDepth 20000 in
set_option maxHeartbeats 4000000 in
theorem wX10_combs_0 {Ex : State → Nat → Prop} {Q : Option Value → pz_H → Prop} {d bc bs : Nat} {l0 : Nat} {l1 : Int32}  {h : pz_H} (hD : 3 ≤ d) (hb : pz_pF h l0 10 9 (.int 0) (fun (h1 : pz_H) => pz_is h1 l0 10 ∧ (pz_ki mX10_refusesComb 2 0 0 (.ref l0 :: [.int l1]) h1 (fun (x3 : Int32) (h2 : pz_H) => (0 ≤ x3 → pz_gR h2 l0 10 0 (fun (a4 : Nat) => pz_is h2 l0 10 ∧ (pz_kv mX10_remember 1 0 0 (.ref l0 :: [.ref a4]) h2 (fun (h5 : pz_H) => pz_gR h5 l0 10 0 (fun (a6 : Nat) => pz_rI h5 a6 (((12 : Int32)) + l1) (fun (x7 : Int32) => pz_gR h5 l0 10 0 (fun (a8 : Nat) => pz_sI h5 a8 (((12 : Int32)) + l1) 0 (fun (h9 : pz_H) => Q (some (.int x7)) h9)))))))) ∧ (¬ 0 ≤ x3 → Q (some (.int x3)) h2))))) : pz_V mX10_combs Ex Q d bc bs 0 [(0, .ref l0), (1, .int l1)] [] h := by
  refine pz_aload_n (pc' := 1) (x := l0) 0 rfl (pz_dc dX10_combs 0 rfl) rfl ?_
  refine pz_iconst (pc' := 2) (v := 0) rfl (pz_dc dX10_combs 1 rfl) ki_0 ?_
  refine pz_putv (M := mX10_combs) hb (pX10_95 _ rfl) rfl rfl (pc' := 5) rfl (pz_dc dX10_combs 2 rfl) (fun h1 hb => ?_)
  refine pz_aload_n (pc' := 6) (x := l0) 0 rfl (pz_dc dX10_combs 3 rfl) rfl ?_
  refine pz_iload_n (pc' := 7) (x := l1) 1 rfl (pz_dc dX10_combs 4 rfl) rfl ?_
  refine pz_cVi (M := mX10_combs) (N := mX10_refusesComb) (d' := 2) (bc1 := 0) (bs1 := 0) (bc2 := bc) (bs2 := bs) (pc' := 10) [.int l1] hb vX10_258 rfl (pz_dc dX10_combs 5 rfl) rfl (Nat.le_of_ble_eq_true rfl) (Nat.le_of_ble_eq_true rfl) rfl (by omega) (by omega) (by omega) (fun x3 h2 hb => ?_)
  refine pz_istore_n (pc' := 11) (lv' := [(2, .int x3), (0, .ref l0), (1, .int l1)]) rfl (pz_dc dX10_combs 6 rfl) (by decide) rfl ?_
  refine pz_iload_n (pc' := 12) (x := x3) 0 rfl (pz_dc dX10_combs 7 rfl) rfl ?_
  refine pz_if_ge (pc' := 15) (tgt := 17) rfl (pz_dc dX10_combs 8 rfl) (by decide) (fun hc => ?_) (fun hc => ?_)
  · replace hb := hb.1 hc
    refine pz_aload_n (pc' := 18) (x := l0) 1 rfl (pz_dc dX10_combs 11 rfl) rfl ?_
    refine pz_aload_n (pc' := 19) (x := l0) 1 rfl (pz_dc dX10_combs 12 rfl) rfl ?_
    refine pz_getR (M := mX10_combs) hb fX10_9 (pc' := 22) rfl (pz_dc dX10_combs 13 rfl) (fun a4 hb => ?_)
    refine pz_cVv (M := mX10_combs) (N := mX10_remember) (d' := 1) (bc1 := 0) (bs1 := 0) (bc2 := bc) (bs2 := bs) (pc' := 25) [.ref a4] hb vX10_241 rfl (pz_dc dX10_combs 14 rfl) rfl (Nat.le_of_ble_eq_true rfl) (Nat.le_of_ble_eq_true rfl) rfl (by omega) (by omega) (by omega) (fun h5 hb => ?_)
    refine pz_aload_n (pc' := 26) (x := l0) 1 rfl (pz_dc dX10_combs 15 rfl) rfl ?_
    refine pz_getR (M := mX10_combs) hb fX10_9 (pc' := 29) rfl (pz_dc dX10_combs 16 rfl) (fun a6 hb => ?_)
    refine pz_bipush (pc' := 31) (v := 12) rfl (pz_dc dX10_combs 17 rfl) kb_12 ?_
    refine pz_iload_n (pc' := 32) (x := l1) 2 rfl (pz_dc dX10_combs 18 rfl) rfl ?_
    refine pz_iadd (pc' := 33) rfl (pz_dc dX10_combs 19 rfl) ?_
    refine pz_ldI hb (pc' := 34) rfl (pz_dc dX10_combs 20 rfl) (fun x7 hb => ?_)
    refine pz_istore_n (pc' := 35) (lv' := [(3, .int x7), (2, .int x3), (0, .ref l0), (1, .int l1)]) rfl (pz_dc dX10_combs 21 rfl) (by decide) rfl ?_
    refine pz_aload_n (pc' := 36) (x := l0) 2 rfl (pz_dc dX10_combs 22 rfl) rfl ?_
    refine pz_getR (M := mX10_combs) hb fX10_9 (pc' := 39) rfl (pz_dc dX10_combs 23 rfl) (fun a8 hb => ?_)
    refine pz_bipush (pc' := 41) (v := 12) rfl (pz_dc dX10_combs 24 rfl) kb_12 ?_
    refine pz_iload_n (pc' := 42) (x := l1) 3 rfl (pz_dc dX10_combs 25 rfl) rfl ?_
    refine pz_iadd (pc' := 43) rfl (pz_dc dX10_combs 26 rfl) ?_
    refine pz_iconst (pc' := 44) (v := 0) rfl (pz_dc dX10_combs 27 rfl) ki_0 ?_
    refine pz_stI hb (pc' := 45) rfl (pz_dc dX10_combs 28 rfl) (fun h9 hb => ?_)
    refine pz_iload_n (pc' := 46) (x := x7) 0 rfl (pz_dc dX10_combs 29 rfl) rfl ?_
    exact pz_iret (pz_dc dX10_combs 30 rfl) rfl hb
  · replace hb := hb.2 hc
    refine pz_iload_n (pc' := 16) (x := x3) 0 rfl (pz_dc dX10_combs 9 rfl) rfl ?_
    exact pz_iret (pz_dc dX10_combs 10 rfl) rfl hb
set_option maxRecDepth 20000 in
set_option maxHeartbeats 4000000 in
theorem wX10_refusesCell_0 {Ex : State → Nat → Prop} {Q : Option Value → pz_H → Prop} {d bc bs : Nat} {l0 : Nat} {l1 : Int32} {l2 : Int32} {l3 : Int32} {l4 : Int32}  {h : pz_H} (hD : 2 ≤ d) (hb : pz_is h l0 10 ∧ (pz_gI h l0 10 1 (fun (x1 : Int32) => ((eX10_isLake l2 x1) = 0 → Q (some (.int ((-1)))) h) ∧ (¬ (eX10_isLake l2 x1) = 0 → (¬ (eX10_in l3 ((0 : Int32)) l4) = 0 → pz_gR h l0 10 0 (fun (a5 : Nat) => pz_rI h a5 (l1 + l2) (fun (x6 : Int32) => (¬ x6 = l3 → Q (some (.int 0)) h) ∧ (x6 = l3 → Q (some (.int ((-2)))) h)))) ∧ ((eX10_in l3 ((0 : Int32)) l4) = 0 → Q (some (.int ((-1)))) h))))) : pz_V mX10_refusesCell Ex Q d bc bs 0 [(0, .ref l0), (1, .int l1), (2, .int l2), (3, .int l3), (4, .int l4)] [] h := by
  refine pz_aload_n (pc' := 1) (x := l0) 0 rfl (pz_dc dX10_refusesCell 0 rfl) rfl ?_
  refine pz_iload_n (pc' := 2) (x := l2) 2 rfl (pz_dc dX10_refusesCell 1 rfl) rfl ?_
  obtain ⟨⟨fs7, hf8⟩, hb⟩ := hb
  obtain ⟨fs2, x1, g3, g4, hb⟩ := hb
  refine pz_callV (M := mX10_refusesCell) (N := mX10_isLake) (d' := 1) (bc1 := 0) (bs1 := 0) (bc2 := bc) (bs2 := bs) (pc' := 5) [.int l2] vX10_108 rfl (pz_dc dX10_refusesCell 2 rfl) rfl (Nat.le_of_ble_eq_true rfl) (Nat.le_of_ble_eq_true rfl) rfl (by omega) (by omega) (by omega) hf8 ?_
  refine cX10_isLake ⟨fs2, x1, g3, g4, ?_⟩
  show pz_V mX10_refusesCell _ _ _ _ _ 5 [(0, .ref l0), (1, .int l1), (2, .int l2), (3, .int l3), (4, .int l4)] [.int (eX10_isLake l2 x1)] h
  refine pz_if_eq (pc' := 8) (tgt := 18) rfl (pz_dc dX10_refusesCell 3 rfl) (by decide) (fun hc => ?_) (fun hc => ?_)
  · replace hb := hb.1 hc
    refine pz_iconst (pc' := 19) (v := (-1)) rfl (pz_dc dX10_refusesCell 9 rfl) ki_m1 ?_
    exact pz_iret (pz_dc dX10_refusesCell 10 rfl) rfl hb
  · replace hb := hb.2 hc
    refine pz_iload_n (pc' := 9) (x := l3) 3 rfl (pz_dc dX10_refusesCell 4 rfl) rfl ?_
    refine pz_iconst (pc' := 10) (v := 0) rfl (pz_dc dX10_refusesCell 5 rfl) ki_0 ?_
    refine pz_iload (pc' := 12) (x := l4) 4 rfl (pz_dc dX10_refusesCell 6 rfl) rfl ?_
    refine pz_callS (M := mX10_refusesCell) (N := mX10_in) (d' := 0) (bc1 := 0) (bs1 := 0) (bc2 := bc) (bs2 := bs) (pc' := 15) [.int l3, .int 0, .int l4] sX10_104 rfl (pz_dc dX10_refusesCell 7 rfl) rfl (Nat.le_of_ble_eq_true rfl) (Nat.le_of_ble_eq_true rfl) rfl (by omega) (by omega) (by omega) ?_
    refine cX10_in ?_
    show pz_V mX10_refusesCell _ _ _ _ _ 15 [(0, .ref l0), (1, .int l1), (2, .int l2), (3, .int l3), (4, .int l4)] [.int (eX10_in l3 ((0 : Int32)) l4)] h
    refine pz_if_ne (pc' := 18) (tgt := 20) rfl (pz_dc dX10_refusesCell 8 rfl) (by decide) (fun hc => ?_) (fun hc => ?_)
    · replace hb := hb.1 hc
      refine pz_aload_n (pc' := 21) (x := l0) 0 rfl (pz_dc dX10_refusesCell 11 rfl) rfl ?_
      refine pz_getR (M := mX10_refusesCell) hb fX10_9 (pc' := 24) rfl (pz_dc dX10_refusesCell 12 rfl) (fun a5 hb => ?_)
      refine pz_iload_n (pc' := 25) (x := l1) 1 rfl (pz_dc dX10_refusesCell 13 rfl) rfl ?_
      refine pz_iload_n (pc' := 26) (x := l2) 2 rfl (pz_dc dX10_refusesCell 14 rfl) rfl ?_
      refine pz_iadd (pc' := 27) rfl (pz_dc dX10_refusesCell 15 rfl) ?_
      refine pz_ldI hb (pc' := 28) rfl (pz_dc dX10_refusesCell 16 rfl) (fun x6 hb => ?_)
      refine pz_iload_n (pc' := 29) (x := l3) 3 rfl (pz_dc dX10_refusesCell 17 rfl) rfl ?_
      refine pz_icmp_ne (pc' := 32) (tgt := 37) rfl (pz_dc dX10_refusesCell 18 rfl) (by decide) (fun hc => ?_) (fun hc => ?_)
      · replace hb := hb.1 hc
        refine pz_iconst (pc' := 38) (v := 0) rfl (pz_dc dX10_refusesCell 21 rfl) ki_0 ?_
        exact pz_iret (pz_dc dX10_refusesCell 22 rfl) rfl hb
      · replace hb := hb.2 hc
        refine pz_bipush (pc' := 34) (v := (-2)) rfl (pz_dc dX10_refusesCell 19 rfl) kb_m2 ?_
        refine pz_goto (pc' := 38) (pz_dc dX10_refusesCell 20 rfl) (by decide) ?_
        exact pz_iret (pz_dc dX10_refusesCell 22 rfl) rfl hb
    · replace hb := hb.2 hc
      refine pz_iconst (pc' := 19) (v := (-1)) rfl (pz_dc dX10_refusesCell 9 rfl) ki_m1 ?_
      exact pz_iret (pz_dc dX10_refusesCell 10 rfl) rfl hb
