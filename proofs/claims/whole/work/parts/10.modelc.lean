set_option maxRecDepth 20000 in
set_option maxHeartbeats 4000000 in
theorem wX10_becomes_0 {Ex : State → Nat → Prop} {Q : Option Value → pz_H → Prop} {d bc bs : Nat} {l0 : Nat} {l1 : Int32} {l2 : Int32} {l3 : Int32} {l4 : Int32}  {h : pz_H} (hD : 3 ≤ d) (hb : pz_pF h l0 10 9 (.int 0) (fun (h1 : pz_H) => pz_is h1 l0 10 ∧ (pz_ki mX10_refusesCell 2 0 0 (.ref l0 :: [.int l1, .int l2, .int l3, .int l4]) h1 (fun (x3 : Int32) (h2 : pz_H) => (0 ≤ x3 → pz_gR h2 l0 10 0 (fun (a4 : Nat) => pz_is h2 l0 10 ∧ (pz_kv mX10_remember 1 0 0 (.ref l0 :: [.ref a4]) h2 (fun (h5 : pz_H) => pz_gR h5 l0 10 0 (fun (a6 : Nat) => pz_rI h5 a6 (l1 + l2) (fun (x7 : Int32) => pz_gR h5 l0 10 0 (fun (a8 : Nat) => pz_sI h5 a8 (l1 + l2) l3 (fun (h9 : pz_H) => Q (some (.int (((10 : Int32)) + x7))) h9)))))))) ∧ (¬ 0 ≤ x3 → Q (some (.int x3)) h2))))) : pz_V mX10_becomes Ex Q d bc bs 0 [(0, .ref l0), (1, .int l1), (2, .int l2), (3, .int l3), (4, .int l4)] [] h := by
  refine pz_aload_n (pc' := 1) (x := l0) 0 rfl (pz_dc dX10_becomes 0 rfl) rfl ?_
  refine pz_iconst (pc' := 2) (v := 0) rfl (pz_dc dX10_becomes 1 rfl) ki_0 ?_
  refine pz_putv (M := mX10_becomes) hb (pX10_95 _ rfl) rfl rfl (pc' := 5) rfl (pz_dc dX10_becomes 2 rfl) (fun h1 hb => ?_)
  refine pz_aload_n (pc' := 6) (x := l0) 0 rfl (pz_dc dX10_becomes 3 rfl) rfl ?_
  refine pz_iload_n (pc' := 7) (x := l1) 1 rfl (pz_dc dX10_becomes 4 rfl) rfl ?_
  refine pz_iload_n (pc' := 8) (x := l2) 2 rfl (pz_dc dX10_becomes 5 rfl) rfl ?_
  refine pz_iload_n (pc' := 9) (x := l3) 3 rfl (pz_dc dX10_becomes 6 rfl) rfl ?_
  refine pz_iload (pc' := 11) (x := l4) 4 rfl (pz_dc dX10_becomes 7 rfl) rfl ?_
  refine pz_cVi (M := mX10_becomes) (N := mX10_refusesCell) (d' := 2) (bc1 := 0) (bs1 := 0) (bc2 := bc) (bs2 := bs) (pc' := 14) [.int l1, .int l2, .int l3, .int l4] hb vX10_261 rfl (pz_dc dX10_becomes 8 rfl) rfl (Nat.le_of_ble_eq_true rfl) (Nat.le_of_ble_eq_true rfl) rfl (by omega) (by omega) (by omega) (fun x3 h2 hb => ?_)
  refine pz_istore (pc' := 16) (lv' := [(5, .int x3), (0, .ref l0), (1, .int l1), (2, .int l2), (3, .int l3), (4, .int l4)]) rfl (pz_dc dX10_becomes 9 rfl) (by decide) rfl ?_
  refine pz_iload (pc' := 18) (x := x3) 0 rfl (pz_dc dX10_becomes 10 rfl) rfl ?_
  refine pz_if_ge (pc' := 21) (tgt := 24) rfl (pz_dc dX10_becomes 11 rfl) (by decide) (fun hc => ?_) (fun hc => ?_)
  · replace hb := hb.1 hc
    refine pz_aload_n (pc' := 25) (x := l0) 1 rfl (pz_dc dX10_becomes 14 rfl) rfl ?_
    refine pz_aload_n (pc' := 26) (x := l0) 1 rfl (pz_dc dX10_becomes 15 rfl) rfl ?_
    refine pz_getR (M := mX10_becomes) hb fX10_9 (pc' := 29) rfl (pz_dc dX10_becomes 16 rfl) (fun a4 hb => ?_)
    refine pz_cVv (M := mX10_becomes) (N := mX10_remember) (d' := 1) (bc1 := 0) (bs1 := 0) (bc2 := bc) (bs2 := bs) (pc' := 32) [.ref a4] hb vX10_241 rfl (pz_dc dX10_becomes 17 rfl) rfl (Nat.le_of_ble_eq_true rfl) (Nat.le_of_ble_eq_true rfl) rfl (by omega) (by omega) (by omega) (fun h5 hb => ?_)
    refine pz_aload_n (pc' := 33) (x := l0) 1 rfl (pz_dc dX10_becomes 18 rfl) rfl ?_
    refine pz_getR (M := mX10_becomes) hb fX10_9 (pc' := 36) rfl (pz_dc dX10_becomes 19 rfl) (fun a6 hb => ?_)
    refine pz_iload_n (pc' := 37) (x := l1) 2 rfl (pz_dc dX10_becomes 20 rfl) rfl ?_
    refine pz_iload_n (pc' := 38) (x := l2) 3 rfl (pz_dc dX10_becomes 21 rfl) rfl ?_
    refine pz_iadd (pc' := 39) rfl (pz_dc dX10_becomes 22 rfl) ?_
    refine pz_ldI hb (pc' := 40) rfl (pz_dc dX10_becomes 23 rfl) (fun x7 hb => ?_)
    refine pz_istore (pc' := 42) (lv' := [(6, .int x7), (5, .int x3), (0, .ref l0), (1, .int l1), (2, .int l2), (3, .int l3), (4, .int l4)]) rfl (pz_dc dX10_becomes 24 rfl) (by decide) rfl ?_
    refine pz_aload_n (pc' := 43) (x := l0) 2 rfl (pz_dc dX10_becomes 25 rfl) rfl ?_
    refine pz_getR (M := mX10_becomes) hb fX10_9 (pc' := 46) rfl (pz_dc dX10_becomes 26 rfl) (fun a8 hb => ?_)
    refine pz_iload_n (pc' := 47) (x := l1) 3 rfl (pz_dc dX10_becomes 27 rfl) rfl ?_
    refine pz_iload_n (pc' := 48) (x := l2) 4 rfl (pz_dc dX10_becomes 28 rfl) rfl ?_
    refine pz_iadd (pc' := 49) rfl (pz_dc dX10_becomes 29 rfl) ?_
    refine pz_iload_n (pc' := 50) (x := l3) 5 rfl (pz_dc dX10_becomes 30 rfl) rfl ?_
    refine pz_stI hb (pc' := 51) rfl (pz_dc dX10_becomes 31 rfl) (fun h9 hb => ?_)
    refine pz_bipush (pc' := 53) (v := 10) rfl (pz_dc dX10_becomes 32 rfl) kb_10 ?_
    refine pz_iload (pc' := 55) (x := x7) 0 rfl (pz_dc dX10_becomes 33 rfl) rfl ?_
    refine pz_iadd (pc' := 56) rfl (pz_dc dX10_becomes 34 rfl) ?_
    exact pz_iret (pz_dc dX10_becomes 35 rfl) rfl hb
  · replace hb := hb.2 hc
    refine pz_iload (pc' := 23) (x := x3) 0 rfl (pz_dc dX10_becomes 12 rfl) rfl ?_
    exact pz_iret (pz_dc dX10_becomes 13 rfl) rfl hb
set_option maxRecDepth 20000 in
set_option maxHeartbeats 4000000 in
theorem wX10_taps_0 {Ex : State → Nat → Prop} {Q : Option Value → pz_H → Prop} {d bc bs : Nat} {l0 : Nat} {l1 : Int32} {l2 : Int32}  {h : pz_H} (hD : 4 ≤ d) (hb : pz_is h l0 10 ∧ (pz_ki mX10_becomes 3 0 0 (.ref l0 :: [.int 18, .int l1, .int l2, .int 9]) h (fun (x2 : Int32) (h1 : pz_H) => Q (some (.int x2)) h1))) : pz_V mX10_taps Ex Q d bc bs 0 [(0, .ref l0), (1, .int l1), (2, .int l2)] [] h := by
  refine pz_aload_n (pc' := 1) (x := l0) 0 rfl (pz_dc dX10_taps 0 rfl) rfl ?_
  refine pz_bipush (pc' := 3) (v := 18) rfl (pz_dc dX10_taps 1 rfl) kb_18 ?_
  refine pz_iload_n (pc' := 4) (x := l1) 1 rfl (pz_dc dX10_taps 2 rfl) rfl ?_
  refine pz_iload_n (pc' := 5) (x := l2) 2 rfl (pz_dc dX10_taps 3 rfl) rfl ?_
  refine pz_bipush (pc' := 7) (v := 9) rfl (pz_dc dX10_taps 4 rfl) kb_9 ?_
  refine pz_cVi (M := mX10_taps) (N := mX10_becomes) (d' := 3) (bc1 := 0) (bs1 := 0) (bc2 := bc) (bs2 := bs) (pc' := 10) [.int 18, .int l1, .int l2, .int 9] hb vX10_265 rfl (pz_dc dX10_taps 5 rfl) rfl (Nat.le_of_ble_eq_true rfl) (Nat.le_of_ble_eq_true rfl) rfl (by omega) (by omega) (by omega) (fun x2 h1 hb => ?_)
  exact pz_iret (pz_dc dX10_taps 6 rfl) rfl hb
set_option maxRecDepth 20000 in
set_option maxHeartbeats 4000000 in
theorem wX10_gives_0 {Ex : State → Nat → Prop} {Q : Option Value → pz_H → Prop} {d bc bs : Nat} {l0 : Nat} {l1 : Int32} {l2 : Int32}  {h : pz_H} (hD : 4 ≤ d) (hb : pz_is h l0 10 ∧ (pz_ki mX10_becomes 3 0 0 (.ref l0 :: [.int 24, .int l1, .int l2, .int 3]) h (fun (x2 : Int32) (h1 : pz_H) => Q (some (.int x2)) h1))) : pz_V mX10_gives Ex Q d bc bs 0 [(0, .ref l0), (1, .int l1), (2, .int l2)] [] h := by
  refine pz_aload_n (pc' := 1) (x := l0) 0 rfl (pz_dc dX10_gives 0 rfl) rfl ?_
  refine pz_bipush (pc' := 3) (v := 24) rfl (pz_dc dX10_gives 1 rfl) kb_24 ?_
  refine pz_iload_n (pc' := 4) (x := l1) 1 rfl (pz_dc dX10_gives 2 rfl) rfl ?_
  refine pz_iload_n (pc' := 5) (x := l2) 2 rfl (pz_dc dX10_gives 3 rfl) rfl ?_
  refine pz_iconst (pc' := 6) (v := 3) rfl (pz_dc dX10_gives 4 rfl) ki_3 ?_
  refine pz_cVi (M := mX10_gives) (N := mX10_becomes) (d' := 3) (bc1 := 0) (bs1 := 0) (bc2 := bc) (bs2 := bs) (pc' := 9) [.int 24, .int l1, .int l2, .int 3] hb vX10_265 rfl (pz_dc dX10_gives 5 rfl) rfl (Nat.le_of_ble_eq_true rfl) (Nat.le_of_ble_eq_true rfl) rfl (by omega) (by omega) (by omega) (fun x2 h1 hb => ?_)
  exact pz_iret (pz_dc dX10_gives 6 rfl) rfl hb
set_option maxRecDepth 20000 in
set_option maxHeartbeats 4000000 in
theorem wX10_year_0 {Ex : State → Nat → Prop} {Q : Option Value → pz_H → Prop} {d bc bs : Nat} {l0 : Nat}  {h : pz_H} (hD : 85 ≤ d) (hb : pz_pF h l0 10 9 (.int 0) (fun (h1 : pz_H) => pz_is h1 l0 10 ∧ (pz_kv mX10_beginText 1 0 0 (.ref l0 :: [.int 60]) h1 (fun (h2 : pz_H) => pz_V mX10_year Ex Q d bc bs 13 [(0, .ref l0), (1, .int 0)] [] h2)))) : pz_V mX10_year Ex Q d bc bs 0 [(0, .ref l0)] [] h := by
  refine pz_aload_n (pc' := 1) (x := l0) 0 rfl (pz_dc dX10_year 0 rfl) rfl ?_
  refine pz_iconst (pc' := 2) (v := 0) rfl (pz_dc dX10_year 1 rfl) ki_0 ?_
  refine pz_putv (M := mX10_year) hb (pX10_95 _ rfl) rfl rfl (pc' := 5) rfl (pz_dc dX10_year 2 rfl) (fun h1 hb => ?_)
  refine pz_aload_n (pc' := 6) (x := l0) 0 rfl (pz_dc dX10_year 3 rfl) rfl ?_
  refine pz_bipush (pc' := 8) (v := 60) rfl (pz_dc dX10_year 4 rfl) kb_60 ?_
  refine pz_cVv (M := mX10_year) (N := mX10_beginText) (d' := 1) (bc1 := 0) (bs1 := 0) (bc2 := bc) (bs2 := bs) (pc' := 11) [.int 60] hb vX10_154 rfl (pz_dc dX10_year 5 rfl) rfl (Nat.le_of_ble_eq_true rfl) (Nat.le_of_ble_eq_true rfl) rfl (by omega) (by omega) (by omega) (fun h2 hb => ?_)
  refine pz_iconst (pc' := 12) (v := 0) rfl (pz_dc dX10_year 6 rfl) ki_0 ?_
  refine pz_istore_n (pc' := 13) (lv' := [(1, .int 0), (0, .ref l0)]) rfl (pz_dc dX10_year 7 rfl) (by decide) rfl ?_
  refine pz_lv (lv' := [(0, .ref l0), (1, .int 0)]) [1, 0] rfl ?_
  exact hb
set_option maxRecDepth 20000 in
set_option maxHeartbeats 4000000 in
theorem wX10_year_13 {Ex : State → Nat → Prop} {Q : Option Value → pz_H → Prop} {d bc bs : Nat} {l0 : Nat} {l1 : Int32}  {h : pz_H} (hD : 85 ≤ d) (hb : pz_is h l0 10 ∧ (pz_gI h l0 10 14 (fun (x1 : Int32) => ((eX10_fine x1) = 0 → pz_is h l0 10 ∧ (pz_ki mX10_wasRight 2 0 0 (.ref l0 :: []) h (fun (x6 : Int32) (h5 : pz_H) => (¬ x6 = 0 → pz_gR h5 l0 10 0 (fun (a7 : Nat) => pz_gR h5 l0 10 23 (fun (a8 : Nat) => pz_kv mX10_lay 0 0 0 ([.ref a7, .ref a8, .int 0]) h5 (fun (h9 : pz_H) => pz_V mX10_year Ex Q d bc bs 72 [(0, .ref l0), (1, .int l1), (2, .int 0)] [] h9)))) ∧ (x6 = 0 → pz_gI h5 l0 10 14 (fun (x10 : Int32) => Q (some (.int (((-1 : Int32)) - x10))) h5))))) ∧ (¬ (eX10_fine x1) = 0 → pz_gI h l0 10 13 (fun (x11 : Int32) => pz_gI h l0 10 11 (fun (x12 : Int32) => (x12 ≤ x11 → pz_is h l0 10 ∧ (pz_ki mX10_wasRight 2 0 0 (.ref l0 :: []) h (fun (x14 : Int32) (h13 : pz_H) => (¬ x14 = 0 → pz_gR h13 l0 10 0 (fun (a15 : Nat) => pz_gR h13 l0 10 23 (fun (a16 : Nat) => pz_kv mX10_lay 0 0 0 ([.ref a15, .ref a16, .int 0]) h13 (fun (h17 : pz_H) => pz_V mX10_year Ex Q d bc bs 72 [(0, .ref l0), (1, .int l1), (2, .int 0)] [] h17)))) ∧ (x14 = 0 → pz_gI h13 l0 10 14 (fun (x18 : Int32) => Q (some (.int (((-1 : Int32)) - x18))) h13))))) ∧ (¬ x12 ≤ x11 → pz_is h l0 10 ∧ (pz_kv mX10_readAct 3 0 0 (.ref l0 :: [.int (((3 : Int32)) * l1)]) h (fun (h19 : pz_H) => pz_V mX10_year Ex Q d bc bs 13 [(0, .ref l0), (1, .int (l1 + (1 : Int32)))] [] h19))))))))) : pz_V mX10_year Ex Q d bc bs 13 [(0, .ref l0), (1, .int l1)] [] h := by
  refine pz_aload_n (pc' := 14) (x := l0) 0 rfl (pz_dc dX10_year 8 rfl) rfl ?_
  obtain ⟨⟨fs20, hf21⟩, hb⟩ := hb
  obtain ⟨fs2, x1, g3, g4, hb⟩ := hb
  refine pz_callV (M := mX10_year) (N := mX10_fine) (d' := 0) (bc1 := 0) (bs1 := 0) (bc2 := bc) (bs2 := bs) (pc' := 17) [] vX10_134 rfl (pz_dc dX10_year 9 rfl) rfl (Nat.le_of_ble_eq_true rfl) (Nat.le_of_ble_eq_true rfl) rfl (by omega) (by omega) (by omega) hf21 ?_
  refine cX10_fine ⟨fs2, x1, g3, g4, ?_⟩
  show pz_V mX10_year _ _ _ _ _ 17 [(0, .ref l0), (1, .int l1)] [.int (eX10_fine x1)] h
  refine pz_if_eq (pc' := 20) (tgt := 44) rfl (pz_dc dX10_year 10 rfl) (by decide) (fun hc => ?_) (fun hc => ?_)
  · replace hb := hb.1 hc
    refine pz_aload_n (pc' := 45) (x := l0) 0 rfl (pz_dc dX10_year 23 rfl) rfl ?_
    refine pz_cVi (M := mX10_year) (N := mX10_wasRight) (d' := 2) (bc1 := 0) (bs1 := 0) (bc2 := bc) (bs2 := bs) (pc' := 48) [] hb vX10_160 rfl (pz_dc dX10_year 24 rfl) rfl (Nat.le_of_ble_eq_true rfl) (Nat.le_of_ble_eq_true rfl) rfl (by omega) (by omega) (by omega) (fun x6 h5 hb => ?_)
    refine pz_if_ne (pc' := 51) (tgt := 58) rfl (pz_dc dX10_year 25 rfl) (by decide) (fun hc => ?_) (fun hc => ?_)
    · replace hb := hb.1 hc
      refine pz_aload_n (pc' := 59) (x := l0) 0 rfl (pz_dc dX10_year 31 rfl) rfl ?_
      refine pz_getR (M := mX10_year) hb fX10_9 (pc' := 62) rfl (pz_dc dX10_year 32 rfl) (fun a7 hb => ?_)
      refine pz_aload_n (pc' := 63) (x := l0) 0 rfl (pz_dc dX10_year 33 rfl) rfl ?_
      refine pz_getR (M := mX10_year) hb fX10_45 (pc' := 66) rfl (pz_dc dX10_year 34 rfl) (fun a8 hb => ?_)
      refine pz_iconst (pc' := 67) (v := 0) rfl (pz_dc dX10_year 35 rfl) ki_0 ?_
      refine pz_cSv (M := mX10_year) (N := mX10_lay) (d' := 0) (bc1 := 0) (bs1 := 0) (bc2 := bc) (bs2 := bs) (pc' := 70) [.ref a7, .ref a8, .int 0] hb sX10_230 rfl (pz_dc dX10_year 36 rfl) rfl (Nat.le_of_ble_eq_true rfl) (Nat.le_of_ble_eq_true rfl) rfl (by omega) (by omega) (by omega) (fun h9 hb => ?_)
      refine pz_iconst (pc' := 71) (v := 0) rfl (pz_dc dX10_year 37 rfl) ki_0 ?_
      refine pz_istore_n (pc' := 72) (lv' := [(2, .int 0), (0, .ref l0), (1, .int l1)]) rfl (pz_dc dX10_year 38 rfl) (by decide) rfl ?_
      refine pz_lv (lv' := [(0, .ref l0), (1, .int l1), (2, .int 0)]) [1, 2, 0] rfl ?_
      exact hb
    · replace hb := hb.2 hc
      refine pz_iconst (pc' := 52) (v := (-1)) rfl (pz_dc dX10_year 26 rfl) ki_m1 ?_
      refine pz_aload_n (pc' := 53) (x := l0) 0 rfl (pz_dc dX10_year 27 rfl) rfl ?_
      refine pz_getI (M := mX10_year) hb fX10_127 (pc' := 56) rfl (pz_dc dX10_year 28 rfl) (fun x10 hb => ?_)
      refine pz_isub (pc' := 57) rfl (pz_dc dX10_year 29 rfl) ?_
      exact pz_iret (pz_dc dX10_year 30 rfl) rfl hb
  · replace hb := hb.2 hc
    refine pz_aload_n (pc' := 21) (x := l0) 0 rfl (pz_dc dX10_year 11 rfl) rfl ?_
    refine pz_getI (M := mX10_year) hb fX10_124 (pc' := 24) rfl (pz_dc dX10_year 12 rfl) (fun x11 hb => ?_)
    refine pz_aload_n (pc' := 25) (x := l0) 0 rfl (pz_dc dX10_year 13 rfl) rfl ?_
    refine pz_getI (M := mX10_year) hb fX10_118 (pc' := 28) rfl (pz_dc dX10_year 14 rfl) (fun x12 hb => ?_)
    refine pz_icmp_ge (pc' := 31) (tgt := 44) rfl (pz_dc dX10_year 15 rfl) (by decide) (fun hc => ?_) (fun hc => ?_)
    · replace hb := hb.1 hc
      refine pz_aload_n (pc' := 45) (x := l0) 0 rfl (pz_dc dX10_year 23 rfl) rfl ?_
      refine pz_cVi (M := mX10_year) (N := mX10_wasRight) (d' := 2) (bc1 := 0) (bs1 := 0) (bc2 := bc) (bs2 := bs) (pc' := 48) [] hb vX10_160 rfl (pz_dc dX10_year 24 rfl) rfl (Nat.le_of_ble_eq_true rfl) (Nat.le_of_ble_eq_true rfl) rfl (by omega) (by omega) (by omega) (fun x14 h13 hb => ?_)
      refine pz_if_ne (pc' := 51) (tgt := 58) rfl (pz_dc dX10_year 25 rfl) (by decide) (fun hc => ?_) (fun hc => ?_)
      · replace hb := hb.1 hc
        refine pz_aload_n (pc' := 59) (x := l0) 0 rfl (pz_dc dX10_year 31 rfl) rfl ?_
        refine pz_getR (M := mX10_year) hb fX10_9 (pc' := 62) rfl (pz_dc dX10_year 32 rfl) (fun a15 hb => ?_)
        refine pz_aload_n (pc' := 63) (x := l0) 0 rfl (pz_dc dX10_year 33 rfl) rfl ?_
        refine pz_getR (M := mX10_year) hb fX10_45 (pc' := 66) rfl (pz_dc dX10_year 34 rfl) (fun a16 hb => ?_)
        refine pz_iconst (pc' := 67) (v := 0) rfl (pz_dc dX10_year 35 rfl) ki_0 ?_
        refine pz_cSv (M := mX10_year) (N := mX10_lay) (d' := 0) (bc1 := 0) (bs1 := 0) (bc2 := bc) (bs2 := bs) (pc' := 70) [.ref a15, .ref a16, .int 0] hb sX10_230 rfl (pz_dc dX10_year 36 rfl) rfl (Nat.le_of_ble_eq_true rfl) (Nat.le_of_ble_eq_true rfl) rfl (by omega) (by omega) (by omega) (fun h17 hb => ?_)
        refine pz_iconst (pc' := 71) (v := 0) rfl (pz_dc dX10_year 37 rfl) ki_0 ?_
        refine pz_istore_n (pc' := 72) (lv' := [(2, .int 0), (0, .ref l0), (1, .int l1)]) rfl (pz_dc dX10_year 38 rfl) (by decide) rfl ?_
        refine pz_lv (lv' := [(0, .ref l0), (1, .int l1), (2, .int 0)]) [1, 2, 0] rfl ?_
        exact hb
      · replace hb := hb.2 hc
        refine pz_iconst (pc' := 52) (v := (-1)) rfl (pz_dc dX10_year 26 rfl) ki_m1 ?_
        refine pz_aload_n (pc' := 53) (x := l0) 0 rfl (pz_dc dX10_year 27 rfl) rfl ?_
        refine pz_getI (M := mX10_year) hb fX10_127 (pc' := 56) rfl (pz_dc dX10_year 28 rfl) (fun x18 hb => ?_)
        refine pz_isub (pc' := 57) rfl (pz_dc dX10_year 29 rfl) ?_
        exact pz_iret (pz_dc dX10_year 30 rfl) rfl hb
    · replace hb := hb.2 hc
      refine pz_aload_n (pc' := 32) (x := l0) 0 rfl (pz_dc dX10_year 16 rfl) rfl ?_
      refine pz_iconst (pc' := 33) (v := 3) rfl (pz_dc dX10_year 17 rfl) ki_3 ?_
      refine pz_iload_n (pc' := 34) (x := l1) 1 rfl (pz_dc dX10_year 18 rfl) rfl ?_
      refine pz_imul (pc' := 35) rfl (pz_dc dX10_year 19 rfl) ?_
      refine pz_cVv (M := mX10_year) (N := mX10_readAct) (d' := 3) (bc1 := 0) (bs1 := 0) (bc2 := bc) (bs2 := bs) (pc' := 38) [.int (((3 : Int32)) * l1)] hb vX10_268 rfl (pz_dc dX10_year 20 rfl) rfl (Nat.le_of_ble_eq_true rfl) (Nat.le_of_ble_eq_true rfl) rfl (by omega) (by omega) (by omega) (fun h19 hb => ?_)
      refine pz_iinc (pc' := 41) (x := l1) (v := l1 + (1 : Int32)) (lv' := [(1, .int (l1 + (1 : Int32))), (0, .ref l0)]) 1 rfl (pz_dc dX10_year 21 rfl) rfl rfl (by decide) rfl ?_
      refine pz_goto (pc' := 13) (pz_dc dX10_year 22 rfl) (by decide) ?_
      refine pz_lv (lv' := [(0, .ref l0), (1, .int (l1 + (1 : Int32)))]) [1, 0] rfl ?_
      exact hb
set_option maxRecDepth 20000 in
set_option maxHeartbeats 4000000 in
theorem wX10_year_72 {Ex : State → Nat → Prop} {Q : Option Value → pz_H → Prop} {d bc bs : Nat} {l0 : Nat} {l1 : Int32} {l2 : Int32}  {h : pz_H} (hD : 85 ≤ d) (hb : (l1 ≤ l2 → (l2 ≤ 0 → pz_V mX10_year Ex Q d bc bs 130 [(0, .ref l0), (1, .int l1), (2, .int l2)] [] h) ∧ (¬ l2 ≤ 0 → pz_gR h l0 10 23 (fun (a1 : Nat) => pz_is h l0 10 ∧ (pz_kv mX10_remember 1 0 0 (.ref l0 :: [.ref a1]) h (fun (h2 : pz_H) => pz_V mX10_year Ex Q d bc bs 130 [(0, .ref l0), (1, .int l1), (2, .int l2)] [] h2))))) ∧ (¬ l1 ≤ l2 → pz_gR h l0 10 29 (fun (a3 : Nat) => pz_rI h a3 (((3 : Int32)) * l2) (fun (x4 : Int32) => pz_gR h l0 10 29 (fun (a5 : Nat) => pz_rI h a5 ((((3 : Int32)) * l2) + ((1 : Int32))) (fun (x6 : Int32) => pz_gR h l0 10 29 (fun (a7 : Nat) => pz_rI h a7 ((((3 : Int32)) * l2) + ((2 : Int32))) (fun (x8 : Int32) => pz_is h l0 10 ∧ (pz_ki mX10_act 84 0 0 (.ref l0 :: [.int x4, .int x6, .int x8]) h (fun (x10 : Int32) (h9 : pz_H) => (x10 = 0 → (l2 ≤ 0 → pz_V mX10_year Ex Q d bc bs 130 [(0, .ref l0), (1, .int l1), (2, .int l2)] [] h9) ∧ (¬ l2 ≤ 0 → pz_gR h9 l0 10 23 (fun (a11 : Nat) => pz_is h9 l0 10 ∧ (pz_kv mX10_remember 1 0 0 (.ref l0 :: [.ref a11]) h9 (fun (h12 : pz_H) => pz_V mX10_year Ex Q d bc bs 130 [(0, .ref l0), (1, .int l1), (2, .int l2)] [] h12))))) ∧ (¬ x10 = 0 → pz_V mX10_year Ex Q d bc bs 72 [(0, .ref l0), (1, .int l1), (2, .int (l2 + (1 : Int32)))] [] h9))))))))))) : pz_V mX10_year Ex Q d bc bs 72 [(0, .ref l0), (1, .int l1), (2, .int l2)] [] h := by
  refine pz_iload_n (pc' := 73) (x := l2) 2 rfl (pz_dc dX10_year 39 rfl) rfl ?_
  refine pz_iload_n (pc' := 74) (x := l1) 1 rfl (pz_dc dX10_year 40 rfl) rfl ?_
  refine pz_icmp_ge (pc' := 77) (tgt := 118) rfl (pz_dc dX10_year 41 rfl) (by decide) (fun hc => ?_) (fun hc => ?_)
  · replace hb := hb.1 hc
    refine pz_iload_n (pc' := 119) (x := l2) 2 rfl (pz_dc dX10_year 69 rfl) rfl ?_
    refine pz_if_le (pc' := 122) (tgt := 130) rfl (pz_dc dX10_year 70 rfl) (by decide) (fun hc => ?_) (fun hc => ?_)
    · replace hb := hb.1 hc
      exact hb
    · replace hb := hb.2 hc
      refine pz_aload_n (pc' := 123) (x := l0) 0 rfl (pz_dc dX10_year 71 rfl) rfl ?_
      refine pz_aload_n (pc' := 124) (x := l0) 0 rfl (pz_dc dX10_year 72 rfl) rfl ?_
      refine pz_getR (M := mX10_year) hb fX10_45 (pc' := 127) rfl (pz_dc dX10_year 73 rfl) (fun a1 hb => ?_)
      refine pz_cVv (M := mX10_year) (N := mX10_remember) (d' := 1) (bc1 := 0) (bs1 := 0) (bc2 := bc) (bs2 := bs) (pc' := 130) [.ref a1] hb vX10_241 rfl (pz_dc dX10_year 74 rfl) rfl (Nat.le_of_ble_eq_true rfl) (Nat.le_of_ble_eq_true rfl) rfl (by omega) (by omega) (by omega) (fun h2 hb => ?_)
      exact hb
  · replace hb := hb.2 hc
    refine pz_aload_n (pc' := 78) (x := l0) 0 rfl (pz_dc dX10_year 42 rfl) rfl ?_
    refine pz_aload_n (pc' := 79) (x := l0) 0 rfl (pz_dc dX10_year 43 rfl) rfl ?_
    refine pz_getR (M := mX10_year) hb fX10_61 (pc' := 82) rfl (pz_dc dX10_year 44 rfl) (fun a3 hb => ?_)
    refine pz_iconst (pc' := 83) (v := 3) rfl (pz_dc dX10_year 45 rfl) ki_3 ?_
    refine pz_iload_n (pc' := 84) (x := l2) 2 rfl (pz_dc dX10_year 46 rfl) rfl ?_
    refine pz_imul (pc' := 85) rfl (pz_dc dX10_year 47 rfl) ?_
    refine pz_ldI hb (pc' := 86) rfl (pz_dc dX10_year 48 rfl) (fun x4 hb => ?_)
    refine pz_aload_n (pc' := 87) (x := l0) 0 rfl (pz_dc dX10_year 49 rfl) rfl ?_
    refine pz_getR (M := mX10_year) hb fX10_61 (pc' := 90) rfl (pz_dc dX10_year 50 rfl) (fun a5 hb => ?_)
    refine pz_iconst (pc' := 91) (v := 3) rfl (pz_dc dX10_year 51 rfl) ki_3 ?_
    refine pz_iload_n (pc' := 92) (x := l2) 2 rfl (pz_dc dX10_year 52 rfl) rfl ?_
    refine pz_imul (pc' := 93) rfl (pz_dc dX10_year 53 rfl) ?_
    refine pz_iconst (pc' := 94) (v := 1) rfl (pz_dc dX10_year 54 rfl) ki_1 ?_
    refine pz_iadd (pc' := 95) rfl (pz_dc dX10_year 55 rfl) ?_
    refine pz_ldI hb (pc' := 96) rfl (pz_dc dX10_year 56 rfl) (fun x6 hb => ?_)
    refine pz_aload_n (pc' := 97) (x := l0) 0 rfl (pz_dc dX10_year 57 rfl) rfl ?_
    refine pz_getR (M := mX10_year) hb fX10_61 (pc' := 100) rfl (pz_dc dX10_year 58 rfl) (fun a7 hb => ?_)
    refine pz_iconst (pc' := 101) (v := 3) rfl (pz_dc dX10_year 59 rfl) ki_3 ?_
    refine pz_iload_n (pc' := 102) (x := l2) 2 rfl (pz_dc dX10_year 60 rfl) rfl ?_
    refine pz_imul (pc' := 103) rfl (pz_dc dX10_year 61 rfl) ?_
    refine pz_iconst (pc' := 104) (v := 2) rfl (pz_dc dX10_year 62 rfl) ki_2 ?_
    refine pz_iadd (pc' := 105) rfl (pz_dc dX10_year 63 rfl) ?_
    refine pz_ldI hb (pc' := 106) rfl (pz_dc dX10_year 64 rfl) (fun x8 hb => ?_)
    refine pz_cVi (M := mX10_year) (N := mX10_act) (d' := 84) (bc1 := 0) (bs1 := 0) (bc2 := bc) (bs2 := bs) (pc' := 109) [.int x4, .int x6, .int x8] hb vX10_271 rfl (pz_dc dX10_year 65 rfl) rfl (Nat.le_of_ble_eq_true rfl) (Nat.le_of_ble_eq_true rfl) rfl (by omega) (by omega) (by omega) (fun x10 h9 hb => ?_)
    refine pz_if_eq (pc' := 112) (tgt := 118) rfl (pz_dc dX10_year 66 rfl) (by decide) (fun hc => ?_) (fun hc => ?_)
    · replace hb := hb.1 hc
      refine pz_iload_n (pc' := 119) (x := l2) 2 rfl (pz_dc dX10_year 69 rfl) rfl ?_
      refine pz_if_le (pc' := 122) (tgt := 130) rfl (pz_dc dX10_year 70 rfl) (by decide) (fun hc => ?_) (fun hc => ?_)
      · replace hb := hb.1 hc
        exact hb
      · replace hb := hb.2 hc
        refine pz_aload_n (pc' := 123) (x := l0) 0 rfl (pz_dc dX10_year 71 rfl) rfl ?_
        refine pz_aload_n (pc' := 124) (x := l0) 0 rfl (pz_dc dX10_year 72 rfl) rfl ?_
        refine pz_getR (M := mX10_year) hb fX10_45 (pc' := 127) rfl (pz_dc dX10_year 73 rfl) (fun a11 hb => ?_)
        refine pz_cVv (M := mX10_year) (N := mX10_remember) (d' := 1) (bc1 := 0) (bs1 := 0) (bc2 := bc) (bs2 := bs) (pc' := 130) [.ref a11] hb vX10_241 rfl (pz_dc dX10_year 74 rfl) rfl (Nat.le_of_ble_eq_true rfl) (Nat.le_of_ble_eq_true rfl) rfl (by omega) (by omega) (by omega) (fun h12 hb => ?_)
        exact hb
    · replace hb := hb.2 hc
      refine pz_iinc (pc' := 115) (x := l2) (v := l2 + (1 : Int32)) (lv' := [(2, .int (l2 + (1 : Int32))), (0, .ref l0), (1, .int l1)]) 2 rfl (pz_dc dX10_year 67 rfl) rfl rfl (by decide) rfl ?_
      refine pz_goto (pc' := 72) (pz_dc dX10_year 68 rfl) (by decide) ?_
      refine pz_lv (lv' := [(0, .ref l0), (1, .int l1), (2, .int (l2 + (1 : Int32)))]) [1, 2, 0] rfl ?_
      exact hb
set_option maxRecDepth 20000 in
set_option maxHeartbeats 4000000 in
theorem wX10_year_130 {Ex : State → Nat → Prop} {Q : Option Value → pz_H → Prop} {d bc bs : Nat} {l0 : Nat} {l1 : Int32} {l2 : Int32}  {h : pz_H} (hD : 85 ≤ d) (hb : pz_pF h l0 10 8 (.int 0) (fun (h1 : pz_H) => (l1 ≤ l2 → pz_is h1 l0 10 ∧ (pz_kv mX10_tell 0 0 0 (.ref l0 :: [.long 0]) h1 (fun (h2 : pz_H) => pz_gR h2 l0 10 0 (fun (a3 : Nat) => pz_is h2 l0 10 ∧ (pz_ki mX10_sumOf 0 0 0 (.ref l0 :: [.ref a3, .int 0]) h2 (fun (x5 : Int32) (h4 : pz_H) => pz_is h4 l0 10 ∧ (pz_kv mX10_tell 0 0 0 (.ref l0 :: [.long x5.toInt64]) h4 (fun (h6 : pz_H) => Q (some (.int l2)) h6)))))))) ∧ (¬ l1 ≤ l2 → pz_is h1 l0 10 ∧ (pz_kv mX10_tell 0 0 0 (.ref l0 :: [.long 1]) h1 (fun (h7 : pz_H) => pz_gR h7 l0 10 0 (fun (a8 : Nat) => pz_is h7 l0 10 ∧ (pz_ki mX10_sumOf 0 0 0 (.ref l0 :: [.ref a8, .int 0]) h7 (fun (x10 : Int32) (h9 : pz_H) => pz_is h9 l0 10 ∧ (pz_kv mX10_tell 0 0 0 (.ref l0 :: [.long x10.toInt64]) h9 (fun (h11 : pz_H) => Q (some (.int l2)) h11)))))))))) : pz_V mX10_year Ex Q d bc bs 130 [(0, .ref l0), (1, .int l1), (2, .int l2)] [] h := by
  refine pz_aload_n (pc' := 131) (x := l0) 0 rfl (pz_dc dX10_year 75 rfl) rfl ?_
  refine pz_iconst (pc' := 132) (v := 0) rfl (pz_dc dX10_year 76 rfl) ki_0 ?_
  refine pz_putv (M := mX10_year) hb (pX10_98 _ rfl) rfl rfl (pc' := 135) rfl (pz_dc dX10_year 77 rfl) (fun h1 hb => ?_)
  refine pz_aload_n (pc' := 136) (x := l0) 0 rfl (pz_dc dX10_year 78 rfl) rfl ?_
  refine pz_iload_n (pc' := 137) (x := l2) 2 rfl (pz_dc dX10_year 79 rfl) rfl ?_
  refine pz_iload_n (pc' := 138) (x := l1) 1 rfl (pz_dc dX10_year 80 rfl) rfl ?_
  refine pz_icmp_ge (pc' := 141) (tgt := 145) rfl (pz_dc dX10_year 81 rfl) (by decide) (fun hc => ?_) (fun hc => ?_)
  · replace hb := hb.1 hc
    refine pz_lconst (pc' := 146) (v := 0) rfl (pz_dc dX10_year 84 rfl) rfl ?_
    refine pz_cVv (M := mX10_year) (N := mX10_tell) (d' := 0) (bc1 := 0) (bs1 := 0) (bc2 := bc) (bs2 := bs) (pc' := 149) [.long 0] hb vX10_248 rfl (pz_dc dX10_year 85 rfl) rfl (Nat.le_of_ble_eq_true rfl) (Nat.le_of_ble_eq_true rfl) rfl (by omega) (by omega) (by omega) (fun h2 hb => ?_)
    refine pz_aload_n (pc' := 150) (x := l0) 0 rfl (pz_dc dX10_year 86 rfl) rfl ?_
    refine pz_aload_n (pc' := 151) (x := l0) 0 rfl (pz_dc dX10_year 87 rfl) rfl ?_
    refine pz_aload_n (pc' := 152) (x := l0) 0 rfl (pz_dc dX10_year 88 rfl) rfl ?_
    refine pz_getR (M := mX10_year) hb fX10_9 (pc' := 155) rfl (pz_dc dX10_year 89 rfl) (fun a3 hb => ?_)
    refine pz_iconst (pc' := 156) (v := 0) rfl (pz_dc dX10_year 90 rfl) ki_0 ?_
    refine pz_cVi (M := mX10_year) (N := mX10_sumOf) (d' := 0) (bc1 := 0) (bs1 := 0) (bc2 := bc) (bs2 := bs) (pc' := 159) [.ref a3, .int 0] hb vX10_227 rfl (pz_dc dX10_year 91 rfl) rfl (Nat.le_of_ble_eq_true rfl) (Nat.le_of_ble_eq_true rfl) rfl (by omega) (by omega) (by omega) (fun x5 h4 hb => ?_)
    refine pz_i2l (pc' := 160) rfl (pz_dc dX10_year 92 rfl) ?_
    refine pz_cVv (M := mX10_year) (N := mX10_tell) (d' := 0) (bc1 := 0) (bs1 := 0) (bc2 := bc) (bs2 := bs) (pc' := 163) [.long x5.toInt64] hb vX10_248 rfl (pz_dc dX10_year 93 rfl) rfl (Nat.le_of_ble_eq_true rfl) (Nat.le_of_ble_eq_true rfl) rfl (by omega) (by omega) (by omega) (fun h6 hb => ?_)
    refine pz_iload_n (pc' := 164) (x := l2) 2 rfl (pz_dc dX10_year 94 rfl) rfl ?_
    exact pz_iret (pz_dc dX10_year 95 rfl) rfl hb
  · replace hb := hb.2 hc
    refine pz_lconst (pc' := 142) (v := 1) rfl (pz_dc dX10_year 82 rfl) rfl ?_
    refine pz_goto (pc' := 146) (pz_dc dX10_year 83 rfl) (by decide) ?_
    refine pz_cVv (M := mX10_year) (N := mX10_tell) (d' := 0) (bc1 := 0) (bs1 := 0) (bc2 := bc) (bs2 := bs) (pc' := 149) [.long 1] hb vX10_248 rfl (pz_dc dX10_year 85 rfl) rfl (Nat.le_of_ble_eq_true rfl) (Nat.le_of_ble_eq_true rfl) rfl (by omega) (by omega) (by omega) (fun h7 hb => ?_)
    refine pz_aload_n (pc' := 150) (x := l0) 0 rfl (pz_dc dX10_year 86 rfl) rfl ?_
    refine pz_aload_n (pc' := 151) (x := l0) 0 rfl (pz_dc dX10_year 87 rfl) rfl ?_
    refine pz_aload_n (pc' := 152) (x := l0) 0 rfl (pz_dc dX10_year 88 rfl) rfl ?_
    refine pz_getR (M := mX10_year) hb fX10_9 (pc' := 155) rfl (pz_dc dX10_year 89 rfl) (fun a8 hb => ?_)
    refine pz_iconst (pc' := 156) (v := 0) rfl (pz_dc dX10_year 90 rfl) ki_0 ?_
    refine pz_cVi (M := mX10_year) (N := mX10_sumOf) (d' := 0) (bc1 := 0) (bs1 := 0) (bc2 := bc) (bs2 := bs) (pc' := 159) [.ref a8, .int 0] hb vX10_227 rfl (pz_dc dX10_year 91 rfl) rfl (Nat.le_of_ble_eq_true rfl) (Nat.le_of_ble_eq_true rfl) rfl (by omega) (by omega) (by omega) (fun x10 h9 hb => ?_)
    refine pz_i2l (pc' := 160) rfl (pz_dc dX10_year 92 rfl) ?_
    refine pz_cVv (M := mX10_year) (N := mX10_tell) (d' := 0) (bc1 := 0) (bs1 := 0) (bc2 := bc) (bs2 := bs) (pc' := 163) [.long x10.toInt64] hb vX10_248 rfl (pz_dc dX10_year 93 rfl) rfl (Nat.le_of_ble_eq_true rfl) (Nat.le_of_ble_eq_true rfl) rfl (by omega) (by omega) (by omega) (fun h11 hb => ?_)
    refine pz_iload_n (pc' := 164) (x := l2) 2 rfl (pz_dc dX10_year 94 rfl) rfl ?_
    exact pz_iret (pz_dc dX10_year 95 rfl) rfl hb
set_option maxRecDepth 20000 in
set_option maxHeartbeats 4000000 in
theorem wX10_readAct_0 {Ex : State → Nat → Prop} {Q : Option Value → pz_H → Prop} {d bc bs : Nat} {l0 : Nat} {l1 : Int32}  {h : pz_H} (hD : 3 ≤ d) (hb : pz_is h l0 10 ∧ (pz_ki mX10_here 0 0 0 (.ref l0 :: []) h (fun (x2 : Int32) (h1 : pz_H) => (x2 = ((110 : Int32)) → pz_V mX10_readAct Ex Q d bc bs 50 [(0, .ref l0), (1, .int l1), (2, .int x2)] [] h1) ∧ (¬ x2 = ((110 : Int32)) → (x2 = ((112 : Int32)) → pz_V mX10_readAct Ex Q d bc bs 50 [(0, .ref l0), (1, .int l1), (2, .int x2)] [] h1) ∧ (¬ x2 = ((112 : Int32)) → (x2 = ((115 : Int32)) → pz_V mX10_readAct Ex Q d bc bs 50 [(0, .ref l0), (1, .int l1), (2, .int x2)] [] h1) ∧ (¬ x2 = ((115 : Int32)) → (x2 = ((99 : Int32)) → pz_V mX10_readAct Ex Q d bc bs 50 [(0, .ref l0), (1, .int l1), (2, .int x2)] [] h1) ∧ (¬ x2 = ((99 : Int32)) → (x2 = ((116 : Int32)) → pz_V mX10_readAct Ex Q d bc bs 50 [(0, .ref l0), (1, .int l1), (2, .int x2)] [] h1) ∧ (¬ x2 = ((116 : Int32)) → (x2 = ((103 : Int32)) → pz_V mX10_readAct Ex Q d bc bs 50 [(0, .ref l0), (1, .int l1), (2, .int x2)] [] h1) ∧ (¬ x2 = ((103 : Int32)) → pz_gI h1 l0 10 13 (fun (x3 : Int32) => pz_is h1 l0 10 ∧ (pz_kv mX10_fault 1 0 0 (.ref l0 :: [.int x3]) h1 (fun (h4 : pz_H) => Q none h4)))))))))))) : pz_V mX10_readAct Ex Q d bc bs 0 [(0, .ref l0), (1, .int l1)] [] h := by
  refine pz_aload_n (pc' := 1) (x := l0) 0 rfl (pz_dc dX10_readAct 0 rfl) rfl ?_
  refine pz_cVi (M := mX10_readAct) (N := mX10_here) (d' := 0) (bc1 := 0) (bs1 := 0) (bc2 := bc) (bs2 := bs) (pc' := 4) [] hb vX10_138 rfl (pz_dc dX10_readAct 1 rfl) rfl (Nat.le_of_ble_eq_true rfl) (Nat.le_of_ble_eq_true rfl) rfl (by omega) (by omega) (by omega) (fun x2 h1 hb => ?_)
  refine pz_istore_n (pc' := 5) (lv' := [(2, .int x2), (0, .ref l0), (1, .int l1)]) rfl (pz_dc dX10_readAct 2 rfl) (by decide) rfl ?_
  refine pz_iload_n (pc' := 6) (x := x2) 0 rfl (pz_dc dX10_readAct 3 rfl) rfl ?_
  refine pz_bipush (pc' := 8) (v := 110) rfl (pz_dc dX10_readAct 4 rfl) kb_110 ?_
  refine pz_icmp_eq (pc' := 11) (tgt := 50) rfl (pz_dc dX10_readAct 5 rfl) (by decide) (fun hc => ?_) (fun hc => ?_)
  · replace hb := hb.1 hc
    refine pz_lv (lv' := [(0, .ref l0), (1, .int l1), (2, .int x2)]) [1, 2, 0] rfl ?_
    exact hb
  · replace hb := hb.2 hc
    refine pz_iload_n (pc' := 12) (x := x2) 0 rfl (pz_dc dX10_readAct 6 rfl) rfl ?_
    refine pz_bipush (pc' := 14) (v := 112) rfl (pz_dc dX10_readAct 7 rfl) kb_112 ?_
    refine pz_icmp_eq (pc' := 17) (tgt := 50) rfl (pz_dc dX10_readAct 8 rfl) (by decide) (fun hc => ?_) (fun hc => ?_)
    · replace hb := hb.1 hc
      refine pz_lv (lv' := [(0, .ref l0), (1, .int l1), (2, .int x2)]) [1, 2, 0] rfl ?_
      exact hb
    · replace hb := hb.2 hc
      refine pz_iload_n (pc' := 18) (x := x2) 0 rfl (pz_dc dX10_readAct 9 rfl) rfl ?_
      refine pz_bipush (pc' := 20) (v := 115) rfl (pz_dc dX10_readAct 10 rfl) kb_115 ?_
      refine pz_icmp_eq (pc' := 23) (tgt := 50) rfl (pz_dc dX10_readAct 11 rfl) (by decide) (fun hc => ?_) (fun hc => ?_)
      · replace hb := hb.1 hc
        refine pz_lv (lv' := [(0, .ref l0), (1, .int l1), (2, .int x2)]) [1, 2, 0] rfl ?_
        exact hb
      · replace hb := hb.2 hc
        refine pz_iload_n (pc' := 24) (x := x2) 0 rfl (pz_dc dX10_readAct 12 rfl) rfl ?_
        refine pz_bipush (pc' := 26) (v := 99) rfl (pz_dc dX10_readAct 13 rfl) kb_99 ?_
        refine pz_icmp_eq (pc' := 29) (tgt := 50) rfl (pz_dc dX10_readAct 14 rfl) (by decide) (fun hc => ?_) (fun hc => ?_)
        · replace hb := hb.1 hc
          refine pz_lv (lv' := [(0, .ref l0), (1, .int l1), (2, .int x2)]) [1, 2, 0] rfl ?_
          exact hb
        · replace hb := hb.2 hc
          refine pz_iload_n (pc' := 30) (x := x2) 0 rfl (pz_dc dX10_readAct 15 rfl) rfl ?_
          refine pz_bipush (pc' := 32) (v := 116) rfl (pz_dc dX10_readAct 16 rfl) kb_116 ?_
          refine pz_icmp_eq (pc' := 35) (tgt := 50) rfl (pz_dc dX10_readAct 17 rfl) (by decide) (fun hc => ?_) (fun hc => ?_)
          · replace hb := hb.1 hc
            refine pz_lv (lv' := [(0, .ref l0), (1, .int l1), (2, .int x2)]) [1, 2, 0] rfl ?_
            exact hb
          · replace hb := hb.2 hc
            refine pz_iload_n (pc' := 36) (x := x2) 0 rfl (pz_dc dX10_readAct 18 rfl) rfl ?_
            refine pz_bipush (pc' := 38) (v := 103) rfl (pz_dc dX10_readAct 19 rfl) kb_103 ?_
            refine pz_icmp_eq (pc' := 41) (tgt := 50) rfl (pz_dc dX10_readAct 20 rfl) (by decide) (fun hc => ?_) (fun hc => ?_)
            · replace hb := hb.1 hc
              refine pz_lv (lv' := [(0, .ref l0), (1, .int l1), (2, .int x2)]) [1, 2, 0] rfl ?_
              exact hb
            · replace hb := hb.2 hc
              refine pz_aload_n (pc' := 42) (x := l0) 1 rfl (pz_dc dX10_readAct 21 rfl) rfl ?_
              refine pz_aload_n (pc' := 43) (x := l0) 1 rfl (pz_dc dX10_readAct 22 rfl) rfl ?_
              refine pz_getI (M := mX10_readAct) hb fX10_124 (pc' := 46) rfl (pz_dc dX10_readAct 23 rfl) (fun x3 hb => ?_)
              refine pz_cVv (M := mX10_readAct) (N := mX10_fault) (d' := 1) (bc1 := 0) (bs1 := 0) (bc2 := bc) (bs2 := bs) (pc' := 49) [.int x3] hb vX10_146 rfl (pz_dc dX10_readAct 24 rfl) rfl (Nat.le_of_ble_eq_true rfl) (Nat.le_of_ble_eq_true rfl) rfl (by omega) (by omega) (by omega) (fun h4 hb => ?_)
              exact pz_vret (pz_dc dX10_readAct 25 rfl) rfl hb
set_option maxRecDepth 20000 in
set_option maxHeartbeats 4000000 in
theorem wX10_readAct_50 {Ex : State → Nat → Prop} {Q : Option Value → pz_H → Prop} {d bc bs : Nat} {l0 : Nat} {l1 : Int32} {l2 : Int32}  {h : pz_H} (hD : 3 ≤ d) (hb : pz_gI h l0 10 13 (fun (x1 : Int32) => pz_pF h l0 10 13 (.int (x1 + ((1 : Int32)))) (fun (h2 : pz_H) => pz_gR h2 l0 10 29 (fun (a3 : Nat) => pz_sI h2 a3 l1 l2 (fun (h4 : pz_H) => pz_gR h4 l0 10 29 (fun (a5 : Nat) => pz_is h4 l0 10 ∧ (pz_ki mX10_oneOf 2 0 0 (.ref l0 :: [.int 48, .int 10]) h4 (fun (x7 : Int32) (h6 : pz_H) => pz_sI h6 a5 (l1 + ((1 : Int32))) x7 (fun (h8 : pz_H) => (¬ l2 = ((116 : Int32)) → (¬ l2 = ((103 : Int32)) → Q none h8) ∧ (l2 = ((103 : Int32)) → pz_gR h8 l0 10 29 (fun (a9 : Nat) => pz_is h8 l0 10 ∧ (pz_ki mX10_oneOf 2 0 0 (.ref l0 :: [.int 97, .int 4]) h8 (fun (x11 : Int32) (h10 : pz_H) => pz_sI h10 a9 (l1 + ((2 : Int32))) x11 (fun (h12 : pz_H) => Q none h12)))))) ∧ (l2 = ((116 : Int32)) → pz_gR h8 l0 10 29 (fun (a13 : Nat) => pz_is h8 l0 10 ∧ (pz_ki mX10_oneOf 2 0 0 (.ref l0 :: [.int 48, .int 10]) h8 (fun (x15 : Int32) (h14 : pz_H) => pz_sI h14 a13 (l1 + ((2 : Int32))) x15 (fun (h16 : pz_H) => (¬ l2 = ((103 : Int32)) → Q none h16) ∧ (l2 = ((103 : Int32)) → pz_gR h16 l0 10 29 (fun (a17 : Nat) => pz_is h16 l0 10 ∧ (pz_ki mX10_oneOf 2 0 0 (.ref l0 :: [.int 97, .int 4]) h16 (fun (x19 : Int32) (h18 : pz_H) => pz_sI h18 a17 (l1 + ((2 : Int32))) x19 (fun (h20 : pz_H) => Q none h20))))))))))))))))))) : pz_V mX10_readAct Ex Q d bc bs 50 [(0, .ref l0), (1, .int l1), (2, .int l2)] [] h := by
  refine pz_aload_n (pc' := 51) (x := l0) 0 rfl (pz_dc dX10_readAct 26 rfl) rfl ?_
  refine pz_dup (pc' := 52) rfl (pz_dc dX10_readAct 27 rfl) rfl ?_
  refine pz_getI (M := mX10_readAct) hb fX10_124 (pc' := 55) rfl (pz_dc dX10_readAct 28 rfl) (fun x1 hb => ?_)
  refine pz_iconst (pc' := 56) (v := 1) rfl (pz_dc dX10_readAct 29 rfl) ki_1 ?_
  refine pz_iadd (pc' := 57) rfl (pz_dc dX10_readAct 30 rfl) ?_
  refine pz_putv (M := mX10_readAct) hb (pX10_124 _ rfl) rfl rfl (pc' := 60) rfl (pz_dc dX10_readAct 31 rfl) (fun h2 hb => ?_)
  refine pz_aload_n (pc' := 61) (x := l0) 0 rfl (pz_dc dX10_readAct 32 rfl) rfl ?_
  refine pz_getR (M := mX10_readAct) hb fX10_61 (pc' := 64) rfl (pz_dc dX10_readAct 33 rfl) (fun a3 hb => ?_)
  refine pz_iload_n (pc' := 65) (x := l1) 1 rfl (pz_dc dX10_readAct 34 rfl) rfl ?_
  refine pz_iload_n (pc' := 66) (x := l2) 2 rfl (pz_dc dX10_readAct 35 rfl) rfl ?_
  refine pz_stI hb (pc' := 67) rfl (pz_dc dX10_readAct 36 rfl) (fun h4 hb => ?_)
  refine pz_aload_n (pc' := 68) (x := l0) 0 rfl (pz_dc dX10_readAct 37 rfl) rfl ?_
  refine pz_getR (M := mX10_readAct) hb fX10_61 (pc' := 71) rfl (pz_dc dX10_readAct 38 rfl) (fun a5 hb => ?_)
  refine pz_iload_n (pc' := 72) (x := l1) 1 rfl (pz_dc dX10_readAct 39 rfl) rfl ?_
  refine pz_iconst (pc' := 73) (v := 1) rfl (pz_dc dX10_readAct 40 rfl) ki_1 ?_
  refine pz_iadd (pc' := 74) rfl (pz_dc dX10_readAct 41 rfl) ?_
  refine pz_aload_n (pc' := 75) (x := l0) 0 rfl (pz_dc dX10_readAct 42 rfl) rfl ?_
  refine pz_bipush (pc' := 77) (v := 48) rfl (pz_dc dX10_readAct 43 rfl) kb_48 ?_
  refine pz_bipush (pc' := 79) (v := 10) rfl (pz_dc dX10_readAct 44 rfl) kb_10 ?_
  refine pz_cVi (M := mX10_readAct) (N := mX10_oneOf) (d' := 2) (bc1 := 0) (bs1 := 0) (bc2 := bc) (bs2 := bs) (pc' := 82) [.int 48, .int 10] hb vX10_150 rfl (pz_dc dX10_readAct 45 rfl) rfl (Nat.le_of_ble_eq_true rfl) (Nat.le_of_ble_eq_true rfl) rfl (by omega) (by omega) (by omega) (fun x7 h6 hb => ?_)
  refine pz_stI hb (pc' := 83) rfl (pz_dc dX10_readAct 46 rfl) (fun h8 hb => ?_)
  refine pz_iload_n (pc' := 84) (x := l2) 2 rfl (pz_dc dX10_readAct 47 rfl) rfl ?_
  refine pz_bipush (pc' := 86) (v := 116) rfl (pz_dc dX10_readAct 48 rfl) kb_116 ?_
  refine pz_icmp_ne (pc' := 89) (tgt := 105) rfl (pz_dc dX10_readAct 49 rfl) (by decide) (fun hc => ?_) (fun hc => ?_)
  · replace hb := hb.1 hc
    refine pz_iload_n (pc' := 106) (x := l2) 2 rfl (pz_dc dX10_readAct 60 rfl) rfl ?_
    refine pz_bipush (pc' := 108) (v := 103) rfl (pz_dc dX10_readAct 61 rfl) kb_103 ?_
    refine pz_icmp_ne (pc' := 111) (tgt := 126) rfl (pz_dc dX10_readAct 62 rfl) (by decide) (fun hc => ?_) (fun hc => ?_)
    · replace hb := hb.1 hc
      exact pz_vret (pz_dc dX10_readAct 73 rfl) rfl hb
    · replace hb := hb.2 hc
      refine pz_aload_n (pc' := 112) (x := l0) 0 rfl (pz_dc dX10_readAct 63 rfl) rfl ?_
      refine pz_getR (M := mX10_readAct) hb fX10_61 (pc' := 115) rfl (pz_dc dX10_readAct 64 rfl) (fun a9 hb => ?_)
      refine pz_iload_n (pc' := 116) (x := l1) 1 rfl (pz_dc dX10_readAct 65 rfl) rfl ?_
      refine pz_iconst (pc' := 117) (v := 2) rfl (pz_dc dX10_readAct 66 rfl) ki_2 ?_
      refine pz_iadd (pc' := 118) rfl (pz_dc dX10_readAct 67 rfl) ?_
      refine pz_aload_n (pc' := 119) (x := l0) 0 rfl (pz_dc dX10_readAct 68 rfl) rfl ?_
      refine pz_bipush (pc' := 121) (v := 97) rfl (pz_dc dX10_readAct 69 rfl) kb_97 ?_
      refine pz_iconst (pc' := 122) (v := 4) rfl (pz_dc dX10_readAct 70 rfl) ki_4 ?_
      refine pz_cVi (M := mX10_readAct) (N := mX10_oneOf) (d' := 2) (bc1 := 0) (bs1 := 0) (bc2 := bc) (bs2 := bs) (pc' := 125) [.int 97, .int 4] hb vX10_150 rfl (pz_dc dX10_readAct 71 rfl) rfl (Nat.le_of_ble_eq_true rfl) (Nat.le_of_ble_eq_true rfl) rfl (by omega) (by omega) (by omega) (fun x11 h10 hb => ?_)
      refine pz_stI hb (pc' := 126) rfl (pz_dc dX10_readAct 72 rfl) (fun h12 hb => ?_)
      exact pz_vret (pz_dc dX10_readAct 73 rfl) rfl hb
  · replace hb := hb.2 hc
    refine pz_aload_n (pc' := 90) (x := l0) 0 rfl (pz_dc dX10_readAct 50 rfl) rfl ?_
    refine pz_getR (M := mX10_readAct) hb fX10_61 (pc' := 93) rfl (pz_dc dX10_readAct 51 rfl) (fun a13 hb => ?_)
    refine pz_iload_n (pc' := 94) (x := l1) 1 rfl (pz_dc dX10_readAct 52 rfl) rfl ?_
    refine pz_iconst (pc' := 95) (v := 2) rfl (pz_dc dX10_readAct 53 rfl) ki_2 ?_
    refine pz_iadd (pc' := 96) rfl (pz_dc dX10_readAct 54 rfl) ?_
    refine pz_aload_n (pc' := 97) (x := l0) 0 rfl (pz_dc dX10_readAct 55 rfl) rfl ?_
    refine pz_bipush (pc' := 99) (v := 48) rfl (pz_dc dX10_readAct 56 rfl) kb_48 ?_
    refine pz_bipush (pc' := 101) (v := 10) rfl (pz_dc dX10_readAct 57 rfl) kb_10 ?_
    refine pz_cVi (M := mX10_readAct) (N := mX10_oneOf) (d' := 2) (bc1 := 0) (bs1 := 0) (bc2 := bc) (bs2 := bs) (pc' := 104) [.int 48, .int 10] hb vX10_150 rfl (pz_dc dX10_readAct 58 rfl) rfl (Nat.le_of_ble_eq_true rfl) (Nat.le_of_ble_eq_true rfl) rfl (by omega) (by omega) (by omega) (fun x15 h14 hb => ?_)
    refine pz_stI hb (pc' := 105) rfl (pz_dc dX10_readAct 59 rfl) (fun h16 hb => ?_)
    refine pz_iload_n (pc' := 106) (x := l2) 2 rfl (pz_dc dX10_readAct 60 rfl) rfl ?_
    refine pz_bipush (pc' := 108) (v := 103) rfl (pz_dc dX10_readAct 61 rfl) kb_103 ?_
    refine pz_icmp_ne (pc' := 111) (tgt := 126) rfl (pz_dc dX10_readAct 62 rfl) (by decide) (fun hc => ?_) (fun hc => ?_)
    · replace hb := hb.1 hc
      exact pz_vret (pz_dc dX10_readAct 73 rfl) rfl hb
    · replace hb := hb.2 hc
      refine pz_aload_n (pc' := 112) (x := l0) 0 rfl (pz_dc dX10_readAct 63 rfl) rfl ?_
      refine pz_getR (M := mX10_readAct) hb fX10_61 (pc' := 115) rfl (pz_dc dX10_readAct 64 rfl) (fun a17 hb => ?_)
      refine pz_iload_n (pc' := 116) (x := l1) 1 rfl (pz_dc dX10_readAct 65 rfl) rfl ?_
      refine pz_iconst (pc' := 117) (v := 2) rfl (pz_dc dX10_readAct 66 rfl) ki_2 ?_
      refine pz_iadd (pc' := 118) rfl (pz_dc dX10_readAct 67 rfl) ?_
      refine pz_aload_n (pc' := 119) (x := l0) 0 rfl (pz_dc dX10_readAct 68 rfl) rfl ?_
      refine pz_bipush (pc' := 121) (v := 97) rfl (pz_dc dX10_readAct 69 rfl) kb_97 ?_
      refine pz_iconst (pc' := 122) (v := 4) rfl (pz_dc dX10_readAct 70 rfl) ki_4 ?_
      refine pz_cVi (M := mX10_readAct) (N := mX10_oneOf) (d' := 2) (bc1 := 0) (bs1 := 0) (bc2 := bc) (bs2 := bs) (pc' := 125) [.int 97, .int 4] hb vX10_150 rfl (pz_dc dX10_readAct 71 rfl) rfl (Nat.le_of_ble_eq_true rfl) (Nat.le_of_ble_eq_true rfl) rfl (by omega) (by omega) (by omega) (fun x19 h18 hb => ?_)
      refine pz_stI hb (pc' := 126) rfl (pz_dc dX10_readAct 72 rfl) (fun h20 hb => ?_)
      exact pz_vret (pz_dc dX10_readAct 73 rfl) rfl hb
set_option maxRecDepth 20000 in
set_option maxHeartbeats 4000000 in
theorem wX10_act_0 {Ex : State → Nat → Prop} {Q : Option Value → pz_H → Prop} {d bc bs : Nat} {l0 : Nat} {l1 : Int32} {l2 : Int32} {l3 : Int32}  {h : pz_H} (hD : 84 ≤ d) (hb : (l1.toInt = 99 → pz_is h l0 10 ∧ (pz_ki mX10_refusesComb 2 0 0 (.ref l0 :: [.int l2]) h (fun (x2 : Int32) (h1 : pz_H) => (0 ≤ x2 → pz_gR h1 l0 10 0 (fun (a3 : Nat) => pz_sI h1 a3 (((12 : Int32)) + l2) 0 (fun (h4 : pz_H) => Q (some (.int 1)) h4))) ∧ (¬ 0 ≤ x2 → Q (some (.int 0)) h1)))) ∧ (l1.toInt = 110 → pz_gR h l0 10 0 (fun (a5 : Nat) => pz_is h l0 10 ∧ (pz_kv mX10_goDays 83 0 0 (.ref l0 :: [.ref a5, .int l2]) h (fun (h6 : pz_H) => Q (some (.int 1)) h6)))) ∧ (l1.toInt = 112 → (¬ l1 = ((112 : Int32)) → pz_is h l0 10 ∧ (pz_ki mX10_refusesPlug 2 0 0 (.ref l0 :: [.int l2, .int 0]) h (fun (x8 : Int32) (h7 : pz_H) => (0 ≤ x8 → pz_gR h7 l0 10 0 (fun (a9 : Nat) => (¬ l1 = ((112 : Int32)) → pz_sI h7 a9 (((6 : Int32)) + l2) 0 (fun (h10 : pz_H) => Q (some (.int 1)) h10)) ∧ (l1 = ((112 : Int32)) → pz_sI h7 a9 (((6 : Int32)) + l2) 1 (fun (h11 : pz_H) => Q (some (.int 1)) h11)))) ∧ (¬ 0 ≤ x8 → Q (some (.int 0)) h7)))) ∧ (l1 = ((112 : Int32)) → pz_is h l0 10 ∧ (pz_ki mX10_refusesPlug 2 0 0 (.ref l0 :: [.int l2, .int 1]) h (fun (x13 : Int32) (h12 : pz_H) => (0 ≤ x13 → pz_gR h12 l0 10 0 (fun (a14 : Nat) => (¬ l1 = ((112 : Int32)) → pz_sI h12 a14 (((6 : Int32)) + l2) 0 (fun (h15 : pz_H) => Q (some (.int 1)) h15)) ∧ (l1 = ((112 : Int32)) → pz_sI h12 a14 (((6 : Int32)) + l2) 1 (fun (h16 : pz_H) => Q (some (.int 1)) h16)))) ∧ (¬ 0 ≤ x13 → Q (some (.int 0)) h12))))) ∧ (l1.toInt = 115 → (¬ l1 = ((112 : Int32)) → pz_is h l0 10 ∧ (pz_ki mX10_refusesPlug 2 0 0 (.ref l0 :: [.int l2, .int 0]) h (fun (x18 : Int32) (h17 : pz_H) => (0 ≤ x18 → pz_gR h17 l0 10 0 (fun (a19 : Nat) => (¬ l1 = ((112 : Int32)) → pz_sI h17 a19 (((6 : Int32)) + l2) 0 (fun (h20 : pz_H) => Q (some (.int 1)) h20)) ∧ (l1 = ((112 : Int32)) → pz_sI h17 a19 (((6 : Int32)) + l2) 1 (fun (h21 : pz_H) => Q (some (.int 1)) h21)))) ∧ (¬ 0 ≤ x18 → Q (some (.int 0)) h17)))) ∧ (l1 = ((112 : Int32)) → pz_is h l0 10 ∧ (pz_ki mX10_refusesPlug 2 0 0 (.ref l0 :: [.int l2, .int 1]) h (fun (x23 : Int32) (h22 : pz_H) => (0 ≤ x23 → pz_gR h22 l0 10 0 (fun (a24 : Nat) => (¬ l1 = ((112 : Int32)) → pz_sI h22 a24 (((6 : Int32)) + l2) 0 (fun (h25 : pz_H) => Q (some (.int 1)) h25)) ∧ (l1 = ((112 : Int32)) → pz_sI h22 a24 (((6 : Int32)) + l2) 1 (fun (h26 : pz_H) => Q (some (.int 1)) h26)))) ∧ (¬ 0 ≤ x23 → Q (some (.int 0)) h22))))) ∧ (l1.toInt ≠ 99 ∧ l1.toInt ≠ 110 ∧ l1.toInt ≠ 112 ∧ l1.toInt ≠ 115 → (¬ l1 = ((116 : Int32)) → pz_is h l0 10 ∧ (pz_ki mX10_refusesCell 2 0 0 (.ref l0 :: [.int 24, .int l2, .int l3, .int 9]) h (fun (x28 : Int32) (h27 : pz_H) => (0 ≤ x28 → pz_gR h27 l0 10 0 (fun (a29 : Nat) => pz_sI h27 a29 (((24 : Int32)) + l2) l3 (fun (h30 : pz_H) => Q (some (.int 1)) h30))) ∧ (¬ 0 ≤ x28 → Q (some (.int 0)) h27)))) ∧ (l1 = ((116 : Int32)) → pz_is h l0 10 ∧ (pz_ki mX10_refusesCell 2 0 0 (.ref l0 :: [.int 18, .int l2, .int l3, .int 9]) h (fun (x32 : Int32) (h31 : pz_H) => (0 ≤ x32 → pz_gR h31 l0 10 0 (fun (a33 : Nat) => pz_sI h31 a33 (((18 : Int32)) + l2) l3 (fun (h34 : pz_H) => Q (some (.int 1)) h34))) ∧ (¬ 0 ≤ x32 → Q (some (.int 0)) h31)))))) : pz_V mX10_act Ex Q d bc bs 0 [(0, .ref l0), (1, .int l1), (2, .int l2), (3, .int l3)] [] h := by
  refine pz_iload_n (pc' := 1) (x := l1) 1 rfl (pz_dc dX10_act 0 rfl) rfl ?_
  by_cases hx0 : l1.toInt = 99
  · refine pz_lookup (off := 97) (tgt := 98) (pz_dc dX10_act 1 rfl) (by decide) (by rw [hx0]; rfl) (by decide) ?_
    replace hb := hb.1 hx0
    refine pz_aload_n (pc' := 99) (x := l0) 0 rfl (pz_dc dX10_act 35 rfl) rfl ?_
    refine pz_iload_n (pc' := 100) (x := l2) 2 rfl (pz_dc dX10_act 36 rfl) rfl ?_
    refine pz_cVi (M := mX10_act) (N := mX10_refusesComb) (d' := 2) (bc1 := 0) (bs1 := 0) (bc2 := bc) (bs2 := bs) (pc' := 103) [.int l2] hb vX10_258 rfl (pz_dc dX10_act 37 rfl) rfl (Nat.le_of_ble_eq_true rfl) (Nat.le_of_ble_eq_true rfl) rfl (by omega) (by omega) (by omega) (fun x2 h1 hb => ?_)
    refine pz_if_ge (pc' := 106) (tgt := 108) rfl (pz_dc dX10_act 38 rfl) (by decide) (fun hc => ?_) (fun hc => ?_)
    · replace hb := hb.1 hc
      refine pz_aload_n (pc' := 109) (x := l0) 0 rfl (pz_dc dX10_act 41 rfl) rfl ?_
      refine pz_getR (M := mX10_act) hb fX10_9 (pc' := 112) rfl (pz_dc dX10_act 42 rfl) (fun a3 hb => ?_)
      refine pz_bipush (pc' := 114) (v := 12) rfl (pz_dc dX10_act 43 rfl) kb_12 ?_
      refine pz_iload_n (pc' := 115) (x := l2) 2 rfl (pz_dc dX10_act 44 rfl) rfl ?_
      refine pz_iadd (pc' := 116) rfl (pz_dc dX10_act 45 rfl) ?_
      refine pz_iconst (pc' := 117) (v := 0) rfl (pz_dc dX10_act 46 rfl) ki_0 ?_
      refine pz_stI hb (pc' := 118) rfl (pz_dc dX10_act 47 rfl) (fun h4 hb => ?_)
      refine pz_iconst (pc' := 119) (v := 1) rfl (pz_dc dX10_act 48 rfl) ki_1 ?_
      exact pz_zret (pz_dc dX10_act 49 rfl) rfl ⟨by decide, hb⟩
    · replace hb := hb.2 hc
      refine pz_iconst (pc' := 107) (v := 0) rfl (pz_dc dX10_act 39 rfl) ki_0 ?_
      exact pz_zret (pz_dc dX10_act 40 rfl) rfl ⟨by decide, hb⟩
  · skip
    by_cases hx1 : l1.toInt = 110
    · refine pz_lookup (off := 43) (tgt := 44) (pz_dc dX10_act 1 rfl) (by decide) (by rw [hx1]; rfl) (by decide) ?_
      replace hb := hb.2.1 hx1
      refine pz_aload_n (pc' := 45) (x := l0) 0 rfl (pz_dc dX10_act 2 rfl) rfl ?_
      refine pz_aload_n (pc' := 46) (x := l0) 0 rfl (pz_dc dX10_act 3 rfl) rfl ?_
      refine pz_getR (M := mX10_act) hb fX10_9 (pc' := 49) rfl (pz_dc dX10_act 4 rfl) (fun a5 hb => ?_)
      refine pz_iload_n (pc' := 50) (x := l2) 2 rfl (pz_dc dX10_act 5 rfl) rfl ?_
      refine pz_cVv (M := mX10_act) (N := mX10_goDays) (d' := 83) (bc1 := 0) (bs1 := 0) (bc2 := bc) (bs2 := bs) (pc' := 53) [.ref a5, .int l2] hb vX10_244 rfl (pz_dc dX10_act 6 rfl) rfl (Nat.le_of_ble_eq_true rfl) (Nat.le_of_ble_eq_true rfl) rfl (by omega) (by omega) (by omega) (fun h6 hb => ?_)
      refine pz_iconst (pc' := 54) (v := 1) rfl (pz_dc dX10_act 7 rfl) ki_1 ?_
      exact pz_zret (pz_dc dX10_act 8 rfl) rfl ⟨by decide, hb⟩
    · skip
      by_cases hx2 : l1.toInt = 112
      · refine pz_lookup (off := 54) (tgt := 55) (pz_dc dX10_act 1 rfl) (by decide) (by rw [hx2]; rfl) (by decide) ?_
        replace hb := hb.2.2.1 hx2
        refine pz_aload_n (pc' := 56) (x := l0) 0 rfl (pz_dc dX10_act 9 rfl) rfl ?_
        refine pz_iload_n (pc' := 57) (x := l2) 2 rfl (pz_dc dX10_act 10 rfl) rfl ?_
        refine pz_iload_n (pc' := 58) (x := l1) 1 rfl (pz_dc dX10_act 11 rfl) rfl ?_
        refine pz_bipush (pc' := 60) (v := 112) rfl (pz_dc dX10_act 12 rfl) kb_112 ?_
        refine pz_icmp_ne (pc' := 63) (tgt := 67) rfl (pz_dc dX10_act 13 rfl) (by decide) (fun hc => ?_) (fun hc => ?_)
        · replace hb := hb.1 hc
          refine pz_iconst (pc' := 68) (v := 0) rfl (pz_dc dX10_act 16 rfl) ki_0 ?_
          refine pz_cVi (M := mX10_act) (N := mX10_refusesPlug) (d' := 2) (bc1 := 0) (bs1 := 0) (bc2 := bc) (bs2 := bs) (pc' := 71) [.int l2, .int 0] hb vX10_252 rfl (pz_dc dX10_act 17 rfl) rfl (Nat.le_of_ble_eq_true rfl) (Nat.le_of_ble_eq_true rfl) rfl (by omega) (by omega) (by omega) (fun x8 h7 hb => ?_)
          refine pz_if_ge (pc' := 74) (tgt := 76) rfl (pz_dc dX10_act 18 rfl) (by decide) (fun hc => ?_) (fun hc => ?_)
          · replace hb := hb.1 hc
            refine pz_aload_n (pc' := 77) (x := l0) 0 rfl (pz_dc dX10_act 21 rfl) rfl ?_
            refine pz_getR (M := mX10_act) hb fX10_9 (pc' := 80) rfl (pz_dc dX10_act 22 rfl) (fun a9 hb => ?_)
            refine pz_bipush (pc' := 82) (v := 6) rfl (pz_dc dX10_act 23 rfl) kb_6 ?_
            refine pz_iload_n (pc' := 83) (x := l2) 2 rfl (pz_dc dX10_act 24 rfl) rfl ?_
            refine pz_iadd (pc' := 84) rfl (pz_dc dX10_act 25 rfl) ?_
            refine pz_iload_n (pc' := 85) (x := l1) 1 rfl (pz_dc dX10_act 26 rfl) rfl ?_
            refine pz_bipush (pc' := 87) (v := 112) rfl (pz_dc dX10_act 27 rfl) kb_112 ?_
            refine pz_icmp_ne (pc' := 90) (tgt := 94) rfl (pz_dc dX10_act 28 rfl) (by decide) (fun hc => ?_) (fun hc => ?_)
            · replace hb := hb.1 hc
              refine pz_iconst (pc' := 95) (v := 0) rfl (pz_dc dX10_act 31 rfl) ki_0 ?_
              refine pz_stI hb (pc' := 96) rfl (pz_dc dX10_act 32 rfl) (fun h10 hb => ?_)
              refine pz_iconst (pc' := 97) (v := 1) rfl (pz_dc dX10_act 33 rfl) ki_1 ?_
              exact pz_zret (pz_dc dX10_act 34 rfl) rfl ⟨by decide, hb⟩
            · replace hb := hb.2 hc
              refine pz_iconst (pc' := 91) (v := 1) rfl (pz_dc dX10_act 29 rfl) ki_1 ?_
              refine pz_goto (pc' := 95) (pz_dc dX10_act 30 rfl) (by decide) ?_
              refine pz_stI hb (pc' := 96) rfl (pz_dc dX10_act 32 rfl) (fun h11 hb => ?_)
              refine pz_iconst (pc' := 97) (v := 1) rfl (pz_dc dX10_act 33 rfl) ki_1 ?_
              exact pz_zret (pz_dc dX10_act 34 rfl) rfl ⟨by decide, hb⟩
          · replace hb := hb.2 hc
            refine pz_iconst (pc' := 75) (v := 0) rfl (pz_dc dX10_act 19 rfl) ki_0 ?_
            exact pz_zret (pz_dc dX10_act 20 rfl) rfl ⟨by decide, hb⟩
        · replace hb := hb.2 hc
          refine pz_iconst (pc' := 64) (v := 1) rfl (pz_dc dX10_act 14 rfl) ki_1 ?_
          refine pz_goto (pc' := 68) (pz_dc dX10_act 15 rfl) (by decide) ?_
          refine pz_cVi (M := mX10_act) (N := mX10_refusesPlug) (d' := 2) (bc1 := 0) (bs1 := 0) (bc2 := bc) (bs2 := bs) (pc' := 71) [.int l2, .int 1] hb vX10_252 rfl (pz_dc dX10_act 17 rfl) rfl (Nat.le_of_ble_eq_true rfl) (Nat.le_of_ble_eq_true rfl) rfl (by omega) (by omega) (by omega) (fun x13 h12 hb => ?_)
          refine pz_if_ge (pc' := 74) (tgt := 76) rfl (pz_dc dX10_act 18 rfl) (by decide) (fun hc => ?_) (fun hc => ?_)
          · replace hb := hb.1 hc
            refine pz_aload_n (pc' := 77) (x := l0) 0 rfl (pz_dc dX10_act 21 rfl) rfl ?_
            refine pz_getR (M := mX10_act) hb fX10_9 (pc' := 80) rfl (pz_dc dX10_act 22 rfl) (fun a14 hb => ?_)
            refine pz_bipush (pc' := 82) (v := 6) rfl (pz_dc dX10_act 23 rfl) kb_6 ?_
            refine pz_iload_n (pc' := 83) (x := l2) 2 rfl (pz_dc dX10_act 24 rfl) rfl ?_
            refine pz_iadd (pc' := 84) rfl (pz_dc dX10_act 25 rfl) ?_
            refine pz_iload_n (pc' := 85) (x := l1) 1 rfl (pz_dc dX10_act 26 rfl) rfl ?_
            refine pz_bipush (pc' := 87) (v := 112) rfl (pz_dc dX10_act 27 rfl) kb_112 ?_
            refine pz_icmp_ne (pc' := 90) (tgt := 94) rfl (pz_dc dX10_act 28 rfl) (by decide) (fun hc => ?_) (fun hc => ?_)
            · replace hb := hb.1 hc
              refine pz_iconst (pc' := 95) (v := 0) rfl (pz_dc dX10_act 31 rfl) ki_0 ?_
              refine pz_stI hb (pc' := 96) rfl (pz_dc dX10_act 32 rfl) (fun h15 hb => ?_)
              refine pz_iconst (pc' := 97) (v := 1) rfl (pz_dc dX10_act 33 rfl) ki_1 ?_
              exact pz_zret (pz_dc dX10_act 34 rfl) rfl ⟨by decide, hb⟩
            · replace hb := hb.2 hc
              refine pz_iconst (pc' := 91) (v := 1) rfl (pz_dc dX10_act 29 rfl) ki_1 ?_
              refine pz_goto (pc' := 95) (pz_dc dX10_act 30 rfl) (by decide) ?_
              refine pz_stI hb (pc' := 96) rfl (pz_dc dX10_act 32 rfl) (fun h16 hb => ?_)
              refine pz_iconst (pc' := 97) (v := 1) rfl (pz_dc dX10_act 33 rfl) ki_1 ?_
              exact pz_zret (pz_dc dX10_act 34 rfl) rfl ⟨by decide, hb⟩
          · replace hb := hb.2 hc
            refine pz_iconst (pc' := 75) (v := 0) rfl (pz_dc dX10_act 19 rfl) ki_0 ?_
            exact pz_zret (pz_dc dX10_act 20 rfl) rfl ⟨by decide, hb⟩
      · skip
        by_cases hx3 : l1.toInt = 115
        · refine pz_lookup (off := 54) (tgt := 55) (pz_dc dX10_act 1 rfl) (by decide) (by rw [hx3]; rfl) (by decide) ?_
          replace hb := hb.2.2.2.1 hx3
          refine pz_aload_n (pc' := 56) (x := l0) 0 rfl (pz_dc dX10_act 9 rfl) rfl ?_
          refine pz_iload_n (pc' := 57) (x := l2) 2 rfl (pz_dc dX10_act 10 rfl) rfl ?_
          refine pz_iload_n (pc' := 58) (x := l1) 1 rfl (pz_dc dX10_act 11 rfl) rfl ?_
          refine pz_bipush (pc' := 60) (v := 112) rfl (pz_dc dX10_act 12 rfl) kb_112 ?_
          refine pz_icmp_ne (pc' := 63) (tgt := 67) rfl (pz_dc dX10_act 13 rfl) (by decide) (fun hc => ?_) (fun hc => ?_)
          · replace hb := hb.1 hc
            refine pz_iconst (pc' := 68) (v := 0) rfl (pz_dc dX10_act 16 rfl) ki_0 ?_
            refine pz_cVi (M := mX10_act) (N := mX10_refusesPlug) (d' := 2) (bc1 := 0) (bs1 := 0) (bc2 := bc) (bs2 := bs) (pc' := 71) [.int l2, .int 0] hb vX10_252 rfl (pz_dc dX10_act 17 rfl) rfl (Nat.le_of_ble_eq_true rfl) (Nat.le_of_ble_eq_true rfl) rfl (by omega) (by omega) (by omega) (fun x18 h17 hb => ?_)
            refine pz_if_ge (pc' := 74) (tgt := 76) rfl (pz_dc dX10_act 18 rfl) (by decide) (fun hc => ?_) (fun hc => ?_)
            · replace hb := hb.1 hc
              refine pz_aload_n (pc' := 77) (x := l0) 0 rfl (pz_dc dX10_act 21 rfl) rfl ?_
              refine pz_getR (M := mX10_act) hb fX10_9 (pc' := 80) rfl (pz_dc dX10_act 22 rfl) (fun a19 hb => ?_)
              refine pz_bipush (pc' := 82) (v := 6) rfl (pz_dc dX10_act 23 rfl) kb_6 ?_
              refine pz_iload_n (pc' := 83) (x := l2) 2 rfl (pz_dc dX10_act 24 rfl) rfl ?_
              refine pz_iadd (pc' := 84) rfl (pz_dc dX10_act 25 rfl) ?_
              refine pz_iload_n (pc' := 85) (x := l1) 1 rfl (pz_dc dX10_act 26 rfl) rfl ?_
              refine pz_bipush (pc' := 87) (v := 112) rfl (pz_dc dX10_act 27 rfl) kb_112 ?_
              refine pz_icmp_ne (pc' := 90) (tgt := 94) rfl (pz_dc dX10_act 28 rfl) (by decide) (fun hc => ?_) (fun hc => ?_)
              · replace hb := hb.1 hc
                refine pz_iconst (pc' := 95) (v := 0) rfl (pz_dc dX10_act 31 rfl) ki_0 ?_
                refine pz_stI hb (pc' := 96) rfl (pz_dc dX10_act 32 rfl) (fun h20 hb => ?_)
                refine pz_iconst (pc' := 97) (v := 1) rfl (pz_dc dX10_act 33 rfl) ki_1 ?_
                exact pz_zret (pz_dc dX10_act 34 rfl) rfl ⟨by decide, hb⟩
              · replace hb := hb.2 hc
                refine pz_iconst (pc' := 91) (v := 1) rfl (pz_dc dX10_act 29 rfl) ki_1 ?_
                refine pz_goto (pc' := 95) (pz_dc dX10_act 30 rfl) (by decide) ?_
                refine pz_stI hb (pc' := 96) rfl (pz_dc dX10_act 32 rfl) (fun h21 hb => ?_)
                refine pz_iconst (pc' := 97) (v := 1) rfl (pz_dc dX10_act 33 rfl) ki_1 ?_
                exact pz_zret (pz_dc dX10_act 34 rfl) rfl ⟨by decide, hb⟩
            · replace hb := hb.2 hc
              refine pz_iconst (pc' := 75) (v := 0) rfl (pz_dc dX10_act 19 rfl) ki_0 ?_
              exact pz_zret (pz_dc dX10_act 20 rfl) rfl ⟨by decide, hb⟩
          · replace hb := hb.2 hc
            refine pz_iconst (pc' := 64) (v := 1) rfl (pz_dc dX10_act 14 rfl) ki_1 ?_
            refine pz_goto (pc' := 68) (pz_dc dX10_act 15 rfl) (by decide) ?_
            refine pz_cVi (M := mX10_act) (N := mX10_refusesPlug) (d' := 2) (bc1 := 0) (bs1 := 0) (bc2 := bc) (bs2 := bs) (pc' := 71) [.int l2, .int 1] hb vX10_252 rfl (pz_dc dX10_act 17 rfl) rfl (Nat.le_of_ble_eq_true rfl) (Nat.le_of_ble_eq_true rfl) rfl (by omega) (by omega) (by omega) (fun x23 h22 hb => ?_)
            refine pz_if_ge (pc' := 74) (tgt := 76) rfl (pz_dc dX10_act 18 rfl) (by decide) (fun hc => ?_) (fun hc => ?_)
            · replace hb := hb.1 hc
              refine pz_aload_n (pc' := 77) (x := l0) 0 rfl (pz_dc dX10_act 21 rfl) rfl ?_
              refine pz_getR (M := mX10_act) hb fX10_9 (pc' := 80) rfl (pz_dc dX10_act 22 rfl) (fun a24 hb => ?_)
              refine pz_bipush (pc' := 82) (v := 6) rfl (pz_dc dX10_act 23 rfl) kb_6 ?_
              refine pz_iload_n (pc' := 83) (x := l2) 2 rfl (pz_dc dX10_act 24 rfl) rfl ?_
              refine pz_iadd (pc' := 84) rfl (pz_dc dX10_act 25 rfl) ?_
              refine pz_iload_n (pc' := 85) (x := l1) 1 rfl (pz_dc dX10_act 26 rfl) rfl ?_
              refine pz_bipush (pc' := 87) (v := 112) rfl (pz_dc dX10_act 27 rfl) kb_112 ?_
              refine pz_icmp_ne (pc' := 90) (tgt := 94) rfl (pz_dc dX10_act 28 rfl) (by decide) (fun hc => ?_) (fun hc => ?_)
              · replace hb := hb.1 hc
                refine pz_iconst (pc' := 95) (v := 0) rfl (pz_dc dX10_act 31 rfl) ki_0 ?_
                refine pz_stI hb (pc' := 96) rfl (pz_dc dX10_act 32 rfl) (fun h25 hb => ?_)
                refine pz_iconst (pc' := 97) (v := 1) rfl (pz_dc dX10_act 33 rfl) ki_1 ?_
                exact pz_zret (pz_dc dX10_act 34 rfl) rfl ⟨by decide, hb⟩
              · replace hb := hb.2 hc
                refine pz_iconst (pc' := 91) (v := 1) rfl (pz_dc dX10_act 29 rfl) ki_1 ?_
                refine pz_goto (pc' := 95) (pz_dc dX10_act 30 rfl) (by decide) ?_
                refine pz_stI hb (pc' := 96) rfl (pz_dc dX10_act 32 rfl) (fun h26 hb => ?_)
                refine pz_iconst (pc' := 97) (v := 1) rfl (pz_dc dX10_act 33 rfl) ki_1 ?_
                exact pz_zret (pz_dc dX10_act 34 rfl) rfl ⟨by decide, hb⟩
            · replace hb := hb.2 hc
              refine pz_iconst (pc' := 75) (v := 0) rfl (pz_dc dX10_act 19 rfl) ki_0 ?_
              exact pz_zret (pz_dc dX10_act 20 rfl) rfl ⟨by decide, hb⟩
        · skip
          refine pz_lookup (off := 119) (tgt := 120) (pz_dc dX10_act 1 rfl) (by decide) (by simp only [Op.lookupswitch.offset]; simp [hx0, hx1, hx2, hx3, Ne.symm, eq_comm]) (by decide) ?_
          replace hb := hb.2.2.2.2 (by omega)
          refine pz_iload_n (pc' := 121) (x := l1) 1 rfl (pz_dc dX10_act 50 rfl) rfl ?_
          refine pz_bipush (pc' := 123) (v := 116) rfl (pz_dc dX10_act 51 rfl) kb_116 ?_
          refine pz_icmp_ne (pc' := 126) (tgt := 131) rfl (pz_dc dX10_act 52 rfl) (by decide) (fun hc => ?_) (fun hc => ?_)
          · replace hb := hb.1 hc
            refine pz_bipush (pc' := 133) (v := 24) rfl (pz_dc dX10_act 55 rfl) kb_24 ?_
            refine pz_istore (pc' := 135) (lv' := [(4, .int 24), (0, .ref l0), (1, .int l1), (2, .int l2), (3, .int l3)]) rfl (pz_dc dX10_act 56 rfl) (by decide) rfl ?_
            refine pz_aload_n (pc' := 136) (x := l0) 1 rfl (pz_dc dX10_act 57 rfl) rfl ?_
            refine pz_iload (pc' := 138) (x := 24) 0 rfl (pz_dc dX10_act 58 rfl) rfl ?_
            refine pz_iload_n (pc' := 139) (x := l2) 3 rfl (pz_dc dX10_act 59 rfl) rfl ?_
            refine pz_iload_n (pc' := 140) (x := l3) 4 rfl (pz_dc dX10_act 60 rfl) rfl ?_
            refine pz_bipush (pc' := 142) (v := 9) rfl (pz_dc dX10_act 61 rfl) kb_9 ?_
            refine pz_cVi (M := mX10_act) (N := mX10_refusesCell) (d' := 2) (bc1 := 0) (bs1 := 0) (bc2 := bc) (bs2 := bs) (pc' := 145) [.int 24, .int l2, .int l3, .int 9] hb vX10_261 rfl (pz_dc dX10_act 62 rfl) rfl (Nat.le_of_ble_eq_true rfl) (Nat.le_of_ble_eq_true rfl) rfl (by omega) (by omega) (by omega) (fun x28 h27 hb => ?_)
            refine pz_if_ge (pc' := 148) (tgt := 150) rfl (pz_dc dX10_act 63 rfl) (by decide) (fun hc => ?_) (fun hc => ?_)
            · replace hb := hb.1 hc
              refine pz_aload_n (pc' := 151) (x := l0) 1 rfl (pz_dc dX10_act 66 rfl) rfl ?_
              refine pz_getR (M := mX10_act) hb fX10_9 (pc' := 154) rfl (pz_dc dX10_act 67 rfl) (fun a29 hb => ?_)
              refine pz_iload (pc' := 156) (x := 24) 0 rfl (pz_dc dX10_act 68 rfl) rfl ?_
              refine pz_iload_n (pc' := 157) (x := l2) 3 rfl (pz_dc dX10_act 69 rfl) rfl ?_
              refine pz_iadd (pc' := 158) rfl (pz_dc dX10_act 70 rfl) ?_
              refine pz_iload_n (pc' := 159) (x := l3) 4 rfl (pz_dc dX10_act 71 rfl) rfl ?_
              refine pz_stI hb (pc' := 160) rfl (pz_dc dX10_act 72 rfl) (fun h30 hb => ?_)
              refine pz_iconst (pc' := 161) (v := 1) rfl (pz_dc dX10_act 73 rfl) ki_1 ?_
              exact pz_zret (pz_dc dX10_act 74 rfl) rfl ⟨by decide, hb⟩
            · replace hb := hb.2 hc
              refine pz_iconst (pc' := 149) (v := 0) rfl (pz_dc dX10_act 64 rfl) ki_0 ?_
              exact pz_zret (pz_dc dX10_act 65 rfl) rfl ⟨by decide, hb⟩
          · replace hb := hb.2 hc
            refine pz_bipush (pc' := 128) (v := 18) rfl (pz_dc dX10_act 53 rfl) kb_18 ?_
            refine pz_goto (pc' := 133) (pz_dc dX10_act 54 rfl) (by decide) ?_
            refine pz_istore (pc' := 135) (lv' := [(4, .int 18), (0, .ref l0), (1, .int l1), (2, .int l2), (3, .int l3)]) rfl (pz_dc dX10_act 56 rfl) (by decide) rfl ?_
            refine pz_aload_n (pc' := 136) (x := l0) 1 rfl (pz_dc dX10_act 57 rfl) rfl ?_
            refine pz_iload (pc' := 138) (x := 18) 0 rfl (pz_dc dX10_act 58 rfl) rfl ?_
            refine pz_iload_n (pc' := 139) (x := l2) 3 rfl (pz_dc dX10_act 59 rfl) rfl ?_
            refine pz_iload_n (pc' := 140) (x := l3) 4 rfl (pz_dc dX10_act 60 rfl) rfl ?_
            refine pz_bipush (pc' := 142) (v := 9) rfl (pz_dc dX10_act 61 rfl) kb_9 ?_
            refine pz_cVi (M := mX10_act) (N := mX10_refusesCell) (d' := 2) (bc1 := 0) (bs1 := 0) (bc2 := bc) (bs2 := bs) (pc' := 145) [.int 18, .int l2, .int l3, .int 9] hb vX10_261 rfl (pz_dc dX10_act 62 rfl) rfl (Nat.le_of_ble_eq_true rfl) (Nat.le_of_ble_eq_true rfl) rfl (by omega) (by omega) (by omega) (fun x32 h31 hb => ?_)
            refine pz_if_ge (pc' := 148) (tgt := 150) rfl (pz_dc dX10_act 63 rfl) (by decide) (fun hc => ?_) (fun hc => ?_)
            · replace hb := hb.1 hc
              refine pz_aload_n (pc' := 151) (x := l0) 1 rfl (pz_dc dX10_act 66 rfl) rfl ?_
              refine pz_getR (M := mX10_act) hb fX10_9 (pc' := 154) rfl (pz_dc dX10_act 67 rfl) (fun a33 hb => ?_)
              refine pz_iload (pc' := 156) (x := 18) 0 rfl (pz_dc dX10_act 68 rfl) rfl ?_
              refine pz_iload_n (pc' := 157) (x := l2) 3 rfl (pz_dc dX10_act 69 rfl) rfl ?_
              refine pz_iadd (pc' := 158) rfl (pz_dc dX10_act 70 rfl) ?_
              refine pz_iload_n (pc' := 159) (x := l3) 4 rfl (pz_dc dX10_act 71 rfl) rfl ?_
              refine pz_stI hb (pc' := 160) rfl (pz_dc dX10_act 72 rfl) (fun h34 hb => ?_)
              refine pz_iconst (pc' := 161) (v := 1) rfl (pz_dc dX10_act 73 rfl) ki_1 ?_
              exact pz_zret (pz_dc dX10_act 74 rfl) rfl ⟨by decide, hb⟩
            · replace hb := hb.2 hc
              refine pz_iconst (pc' := 149) (v := 0) rfl (pz_dc dX10_act 64 rfl) ki_0 ?_
              exact pz_zret (pz_dc dX10_act 65 rfl) rfl ⟨by decide, hb⟩
set_option maxRecDepth 20000 in
set_option maxHeartbeats 4000000 in
theorem wX10_undo_0 {Ex : State → Nat → Prop} {Q : Option Value → pz_H → Prop} {d bc bs : Nat} {l0 : Nat}  {h : pz_H}  (hb : pz_pF h l0 10 9 (.int 0) (fun (h1 : pz_H) => pz_gI h1 l0 10 22 (fun (x2 : Int32) => (¬ x2 = 0 → pz_gI h1 l0 10 22 (fun (x3 : Int32) => pz_pF h1 l0 10 22 (.int (x3 - ((1 : Int32)))) (fun (h4 : pz_H) => pz_V mX10_undo Ex Q d bc bs 26 [(0, .ref l0), (1, .int 0)] [] h4))) ∧ (x2 = 0 → Q (some (.int ((-1)))) h1)))) : pz_V mX10_undo Ex Q d bc bs 0 [(0, .ref l0)] [] h := by
  refine pz_aload_n (pc' := 1) (x := l0) 0 rfl (pz_dc dX10_undo 0 rfl) rfl ?_
  refine pz_iconst (pc' := 2) (v := 0) rfl (pz_dc dX10_undo 1 rfl) ki_0 ?_
  refine pz_putv (M := mX10_undo) hb (pX10_95 _ rfl) rfl rfl (pc' := 5) rfl (pz_dc dX10_undo 2 rfl) (fun h1 hb => ?_)
  refine pz_aload_n (pc' := 6) (x := l0) 0 rfl (pz_dc dX10_undo 3 rfl) rfl ?_
  refine pz_getI (M := mX10_undo) hb fX10_163 (pc' := 9) rfl (pz_dc dX10_undo 4 rfl) (fun x2 hb => ?_)
  refine pz_if_ne (pc' := 12) (tgt := 14) rfl (pz_dc dX10_undo 5 rfl) (by decide) (fun hc => ?_) (fun hc => ?_)
  · replace hb := hb.1 hc
    refine pz_aload_n (pc' := 15) (x := l0) 0 rfl (pz_dc dX10_undo 8 rfl) rfl ?_
    refine pz_dup (pc' := 16) rfl (pz_dc dX10_undo 9 rfl) rfl ?_
    refine pz_getI (M := mX10_undo) hb fX10_163 (pc' := 19) rfl (pz_dc dX10_undo 10 rfl) (fun x3 hb => ?_)
    refine pz_iconst (pc' := 20) (v := 1) rfl (pz_dc dX10_undo 11 rfl) ki_1 ?_
    refine pz_isub (pc' := 21) rfl (pz_dc dX10_undo 12 rfl) ?_
    refine pz_putv (M := mX10_undo) hb (pX10_163 _ rfl) rfl rfl (pc' := 24) rfl (pz_dc dX10_undo 13 rfl) (fun h4 hb => ?_)
    refine pz_iconst (pc' := 25) (v := 0) rfl (pz_dc dX10_undo 14 rfl) ki_0 ?_
    refine pz_istore_n (pc' := 26) (lv' := [(1, .int 0), (0, .ref l0)]) rfl (pz_dc dX10_undo 15 rfl) (by decide) rfl ?_
    refine pz_lv (lv' := [(0, .ref l0), (1, .int 0)]) [1, 0] rfl ?_
    exact hb
  · replace hb := hb.2 hc
    refine pz_iconst (pc' := 13) (v := (-1)) rfl (pz_dc dX10_undo 6 rfl) ki_m1 ?_
    exact pz_iret (pz_dc dX10_undo 7 rfl) rfl hb
set_option maxRecDepth 20000 in
set_option maxHeartbeats 4000000 in
theorem wX10_undo_26 {Ex : State → Nat → Prop} {Q : Option Value → pz_H → Prop} {d bc bs : Nat} {l0 : Nat} {l1 : Int32}  {h : pz_H}  (hb : (((33 : Int32)) ≤ l1 → pz_gI h l0 10 22 (fun (x1 : Int32) => Q (some (.int x1)) h)) ∧ (¬ ((33 : Int32)) ≤ l1 → pz_gR h l0 10 0 (fun (a2 : Nat) => pz_gR h l0 10 21 (fun (a3 : Nat) => pz_gI h l0 10 22 (fun (x4 : Int32) => pz_rI h a3 ((((33 : Int32)) * x4) + l1) (fun (x5 : Int32) => pz_sI h a2 l1 x5 (fun (h6 : pz_H) => pz_V mX10_undo Ex Q d bc bs 26 [(0, .ref l0), (1, .int (l1 + (1 : Int32)))] [] h6))))))) : pz_V mX10_undo Ex Q d bc bs 26 [(0, .ref l0), (1, .int l1)] [] h := by
  refine pz_iload_n (pc' := 27) (x := l1) 1 rfl (pz_dc dX10_undo 16 rfl) rfl ?_
  refine pz_bipush (pc' := 29) (v := 33) rfl (pz_dc dX10_undo 17 rfl) kb_33 ?_
  refine pz_icmp_ge (pc' := 32) (tgt := 58) rfl (pz_dc dX10_undo 18 rfl) (by decide) (fun hc => ?_) (fun hc => ?_)
  · replace hb := hb.1 hc
    refine pz_aload_n (pc' := 59) (x := l0) 0 rfl (pz_dc dX10_undo 34 rfl) rfl ?_
    refine pz_getI (M := mX10_undo) hb fX10_163 (pc' := 62) rfl (pz_dc dX10_undo 35 rfl) (fun x1 hb => ?_)
    exact pz_iret (pz_dc dX10_undo 36 rfl) rfl hb
  · replace hb := hb.2 hc
    refine pz_aload_n (pc' := 33) (x := l0) 0 rfl (pz_dc dX10_undo 19 rfl) rfl ?_
    refine pz_getR (M := mX10_undo) hb fX10_9 (pc' := 36) rfl (pz_dc dX10_undo 20 rfl) (fun a2 hb => ?_)
    refine pz_iload_n (pc' := 37) (x := l1) 1 rfl (pz_dc dX10_undo 21 rfl) rfl ?_
    refine pz_aload_n (pc' := 38) (x := l0) 0 rfl (pz_dc dX10_undo 22 rfl) rfl ?_
    refine pz_getR (M := mX10_undo) hb fX10_42 (pc' := 41) rfl (pz_dc dX10_undo 23 rfl) (fun a3 hb => ?_)
    refine pz_bipush (pc' := 43) (v := 33) rfl (pz_dc dX10_undo 24 rfl) kb_33 ?_
    refine pz_aload_n (pc' := 44) (x := l0) 0 rfl (pz_dc dX10_undo 25 rfl) rfl ?_
    refine pz_getI (M := mX10_undo) hb fX10_163 (pc' := 47) rfl (pz_dc dX10_undo 26 rfl) (fun x4 hb => ?_)
    refine pz_imul (pc' := 48) rfl (pz_dc dX10_undo 27 rfl) ?_
    refine pz_iload_n (pc' := 49) (x := l1) 1 rfl (pz_dc dX10_undo 28 rfl) rfl ?_
    refine pz_iadd (pc' := 50) rfl (pz_dc dX10_undo 29 rfl) ?_
    refine pz_ldI hb (pc' := 51) rfl (pz_dc dX10_undo 30 rfl) (fun x5 hb => ?_)
    refine pz_stI hb (pc' := 52) rfl (pz_dc dX10_undo 31 rfl) (fun h6 hb => ?_)
    refine pz_iinc (pc' := 55) (x := l1) (v := l1 + (1 : Int32)) (lv' := [(1, .int (l1 + (1 : Int32))), (0, .ref l0)]) 1 rfl (pz_dc dX10_undo 32 rfl) rfl rfl (by decide) rfl ?_
    refine pz_goto (pc' := 26) (pz_dc dX10_undo 33 rfl) (by decide) ?_
    refine pz_lv (lv' := [(0, .ref l0), (1, .int (l1 + (1 : Int32)))]) [1, 0] rfl ?_
    exact hb
set_option maxRecDepth 20000 in
set_option maxHeartbeats 4000000 in
theorem wX10_goThen_0 {Ex : State → Nat → Prop} {Q : Option Value → pz_H → Prop} {d bc bs : Nat} {l0 : Nat} {l1 : Int32}  {h : pz_H} (hD : 84 ≤ d) (hb : pz_gR h l0 10 0 (fun (a1 : Nat) => pz_gR h l0 10 24 (fun (a2 : Nat) => pz_kv mX10_lay 0 0 0 ([.ref a1, .ref a2, .int 0]) h (fun (h3 : pz_H) => pz_gR h3 l0 10 24 (fun (a4 : Nat) => pz_is h3 l0 10 ∧ (pz_kv mX10_goDays 83 0 0 (.ref l0 :: [.ref a4, .int l1]) h3 (fun (h5 : pz_H) => Q none h5))))))) : pz_V mX10_goThen Ex Q d bc bs 0 [(0, .ref l0), (1, .int l1)] [] h := by
  refine pz_aload_n (pc' := 1) (x := l0) 0 rfl (pz_dc dX10_goThen 0 rfl) rfl ?_
  refine pz_getR (M := mX10_goThen) hb fX10_9 (pc' := 4) rfl (pz_dc dX10_goThen 1 rfl) (fun a1 hb => ?_)
  refine pz_aload_n (pc' := 5) (x := l0) 0 rfl (pz_dc dX10_goThen 2 rfl) rfl ?_
  refine pz_getR (M := mX10_goThen) hb fX10_48 (pc' := 8) rfl (pz_dc dX10_goThen 3 rfl) (fun a2 hb => ?_)
  refine pz_iconst (pc' := 9) (v := 0) rfl (pz_dc dX10_goThen 4 rfl) ki_0 ?_
  refine pz_cSv (M := mX10_goThen) (N := mX10_lay) (d' := 0) (bc1 := 0) (bs1 := 0) (bc2 := bc) (bs2 := bs) (pc' := 12) [.ref a1, .ref a2, .int 0] hb sX10_230 rfl (pz_dc dX10_goThen 5 rfl) rfl (Nat.le_of_ble_eq_true rfl) (Nat.le_of_ble_eq_true rfl) rfl (by omega) (by omega) (by omega) (fun h3 hb => ?_)
  refine pz_aload_n (pc' := 13) (x := l0) 0 rfl (pz_dc dX10_goThen 6 rfl) rfl ?_
  refine pz_aload_n (pc' := 14) (x := l0) 0 rfl (pz_dc dX10_goThen 7 rfl) rfl ?_
  refine pz_getR (M := mX10_goThen) hb fX10_48 (pc' := 17) rfl (pz_dc dX10_goThen 8 rfl) (fun a4 hb => ?_)
  refine pz_iload_n (pc' := 18) (x := l1) 1 rfl (pz_dc dX10_goThen 9 rfl) rfl ?_
  refine pz_cVv (M := mX10_goThen) (N := mX10_goDays) (d' := 83) (bc1 := 0) (bs1 := 0) (bc2 := bc) (bs2 := bs) (pc' := 21) [.ref a4, .int l1] hb vX10_244 rfl (pz_dc dX10_goThen 10 rfl) rfl (Nat.le_of_ble_eq_true rfl) (Nat.le_of_ble_eq_true rfl) rfl (by omega) (by omega) (by omega) (fun h5 hb => ?_)
  exact pz_vret (pz_dc dX10_goThen 11 rfl) rfl hb
set_option maxRecDepth 20000 in
set_option maxHeartbeats 4000000 in
theorem wX10_later_0 {Ex : State → Nat → Prop} {Q : Option Value → pz_H → Prop} {d bc bs : Nat} {l0 : Nat} {l1 : Int32} {l2 : Int32}  {h : pz_H} (hD : 85 ≤ d) (hb : pz_pF h l0 10 9 (.int 0) (fun (h1 : pz_H) => pz_is h1 l0 10 ∧ (pz_gI h1 l0 10 1 (fun (x2 : Int32) => ((eX10_isLake l1 x2) = 0 → Q (some (.int ((-1)))) h1) ∧ (¬ (eX10_isLake l1 x2) = 0 → (¬ (eX10_in l2 ((0 : Int32)) ((99 : Int32))) = 0 → pz_is h1 l0 10 ∧ (pz_kv mX10_goThen 84 0 0 (.ref l0 :: [.int l2]) h1 (fun (h6 : pz_H) => pz_pF h6 l0 10 8 (.int 0) (fun (h7 : pz_H) => pz_V mX10_later Ex Q d bc bs 37 [(0, .ref l0), (1, .int l1), (3, .int 0)] [] h7)))) ∧ ((eX10_in l2 ((0 : Int32)) ((99 : Int32))) = 0 → Q (some (.int ((-1)))) h1)))))) : pz_V mX10_later Ex Q d bc bs 0 [(0, .ref l0), (1, .int l1), (2, .int l2)] [] h := by
  refine pz_aload_n (pc' := 1) (x := l0) 0 rfl (pz_dc dX10_later 0 rfl) rfl ?_
  refine pz_iconst (pc' := 2) (v := 0) rfl (pz_dc dX10_later 1 rfl) ki_0 ?_
  refine pz_putv (M := mX10_later) hb (pX10_95 _ rfl) rfl rfl (pc' := 5) rfl (pz_dc dX10_later 2 rfl) (fun h1 hb => ?_)
  refine pz_aload_n (pc' := 6) (x := l0) 0 rfl (pz_dc dX10_later 3 rfl) rfl ?_
  refine pz_iload_n (pc' := 7) (x := l1) 1 rfl (pz_dc dX10_later 4 rfl) rfl ?_
  obtain ⟨⟨fs8, hf9⟩, hb⟩ := hb
  obtain ⟨fs3, x2, g4, g5, hb⟩ := hb
  refine pz_callV (M := mX10_later) (N := mX10_isLake) (d' := 1) (bc1 := 0) (bs1 := 0) (bc2 := bc) (bs2 := bs) (pc' := 10) [.int l1] vX10_108 rfl (pz_dc dX10_later 5 rfl) rfl (Nat.le_of_ble_eq_true rfl) (Nat.le_of_ble_eq_true rfl) rfl (by omega) (by omega) (by omega) hf9 ?_
  refine cX10_isLake ⟨fs3, x2, g4, g5, ?_⟩
  show pz_V mX10_later _ _ _ _ _ 10 [(0, .ref l0), (1, .int l1), (2, .int l2)] [.int (eX10_isLake l1 x2)] h1
  refine pz_if_eq (pc' := 13) (tgt := 23) rfl (pz_dc dX10_later 6 rfl) (by decide) (fun hc => ?_) (fun hc => ?_)
  · replace hb := hb.1 hc
    refine pz_iconst (pc' := 24) (v := (-1)) rfl (pz_dc dX10_later 12 rfl) ki_m1 ?_
    exact pz_iret (pz_dc dX10_later 13 rfl) rfl hb
  · replace hb := hb.2 hc
    refine pz_iload_n (pc' := 14) (x := l2) 2 rfl (pz_dc dX10_later 7 rfl) rfl ?_
    refine pz_iconst (pc' := 15) (v := 0) rfl (pz_dc dX10_later 8 rfl) ki_0 ?_
    refine pz_bipush (pc' := 17) (v := 99) rfl (pz_dc dX10_later 9 rfl) kb_99 ?_
    refine pz_callS (M := mX10_later) (N := mX10_in) (d' := 0) (bc1 := 0) (bs1 := 0) (bc2 := bc) (bs2 := bs) (pc' := 20) [.int l2, .int 0, .int 99] sX10_104 rfl (pz_dc dX10_later 10 rfl) rfl (Nat.le_of_ble_eq_true rfl) (Nat.le_of_ble_eq_true rfl) rfl (by omega) (by omega) (by omega) ?_
    refine cX10_in ?_
    show pz_V mX10_later _ _ _ _ _ 20 [(0, .ref l0), (1, .int l1), (2, .int l2)] [.int (eX10_in l2 ((0 : Int32)) ((99 : Int32)))] h1
    refine pz_if_ne (pc' := 23) (tgt := 25) rfl (pz_dc dX10_later 11 rfl) (by decide) (fun hc => ?_) (fun hc => ?_)
    · replace hb := hb.1 hc
      refine pz_aload_n (pc' := 26) (x := l0) 0 rfl (pz_dc dX10_later 14 rfl) rfl ?_
      refine pz_iload_n (pc' := 27) (x := l2) 2 rfl (pz_dc dX10_later 15 rfl) rfl ?_
      refine pz_cVv (M := mX10_later) (N := mX10_goThen) (d' := 84) (bc1 := 0) (bs1 := 0) (bc2 := bc) (bs2 := bs) (pc' := 30) [.int l2] hb vX10_274 rfl (pz_dc dX10_later 16 rfl) rfl (Nat.le_of_ble_eq_true rfl) (Nat.le_of_ble_eq_true rfl) rfl (by omega) (by omega) (by omega) (fun h6 hb => ?_)
      refine pz_aload_n (pc' := 31) (x := l0) 0 rfl (pz_dc dX10_later 17 rfl) rfl ?_
      refine pz_iconst (pc' := 32) (v := 0) rfl (pz_dc dX10_later 18 rfl) ki_0 ?_
      refine pz_putv (M := mX10_later) hb (pX10_98 _ rfl) rfl rfl (pc' := 35) rfl (pz_dc dX10_later 19 rfl) (fun h7 hb => ?_)
      refine pz_iconst (pc' := 36) (v := 0) rfl (pz_dc dX10_later 20 rfl) ki_0 ?_
      refine pz_istore_n (pc' := 37) (lv' := [(3, .int 0), (0, .ref l0), (1, .int l1), (2, .int l2)]) rfl (pz_dc dX10_later 21 rfl) (by decide) rfl ?_
      refine pz_lv (lv' := [(0, .ref l0), (1, .int l1), (3, .int 0)]) [1, 2, 0] rfl ?_
      exact hb
    · replace hb := hb.2 hc
      refine pz_iconst (pc' := 24) (v := (-1)) rfl (pz_dc dX10_later 12 rfl) ki_m1 ?_
      exact pz_iret (pz_dc dX10_later 13 rfl) rfl hb
set_option maxRecDepth 20000 in
set_option maxHeartbeats 4000000 in
theorem wX10_later_37 {Ex : State → Nat → Prop} {Q : Option Value → pz_H → Prop} {d bc bs : Nat} {l0 : Nat} {l1 : Int32} {l3 : Int32}  {h : pz_H} (hD : 85 ≤ d) (hb : pz_gI h l0 10 1 (fun (x1 : Int32) => (x1 ≤ l3 → pz_gR h l0 10 24 (fun (a2 : Nat) => pz_rI h a2 l1 (fun (x3 : Int32) => Q (some (.int x3)) h))) ∧ (¬ x1 ≤ l3 → pz_gR h l0 10 24 (fun (a4 : Nat) => pz_rI h a4 l3 (fun (x5 : Int32) => pz_is h l0 10 ∧ (pz_kv mX10_tell 0 0 0 (.ref l0 :: [.long x5.toInt64]) h (fun (h6 : pz_H) => pz_V mX10_later Ex Q d bc bs 37 [(0, .ref l0), (1, .int l1), (3, .int (l3 + (1 : Int32)))] [] h6))))))) : pz_V mX10_later Ex Q d bc bs 37 [(0, .ref l0), (1, .int l1), (3, .int l3)] [] h := by
  refine pz_iload_n (pc' := 38) (x := l3) 2 rfl (pz_dc dX10_later 22 rfl) rfl ?_
  refine pz_aload_n (pc' := 39) (x := l0) 0 rfl (pz_dc dX10_later 23 rfl) rfl ?_
  refine pz_getI (M := mX10_later) hb fX10_101 (pc' := 42) rfl (pz_dc dX10_later 24 rfl) (fun x1 hb => ?_)
  refine pz_icmp_ge (pc' := 45) (tgt := 62) rfl (pz_dc dX10_later 25 rfl) (by decide) (fun hc => ?_) (fun hc => ?_)
  · replace hb := hb.1 hc
    refine pz_aload_n (pc' := 63) (x := l0) 0 rfl (pz_dc dX10_later 35 rfl) rfl ?_
    refine pz_getR (M := mX10_later) hb fX10_48 (pc' := 66) rfl (pz_dc dX10_later 36 rfl) (fun a2 hb => ?_)
    refine pz_iload_n (pc' := 67) (x := l1) 1 rfl (pz_dc dX10_later 37 rfl) rfl ?_
    refine pz_ldI hb (pc' := 68) rfl (pz_dc dX10_later 38 rfl) (fun x3 hb => ?_)
    exact pz_iret (pz_dc dX10_later 39 rfl) rfl hb
  · replace hb := hb.2 hc
    refine pz_aload_n (pc' := 46) (x := l0) 0 rfl (pz_dc dX10_later 26 rfl) rfl ?_
    refine pz_aload_n (pc' := 47) (x := l0) 0 rfl (pz_dc dX10_later 27 rfl) rfl ?_
    refine pz_getR (M := mX10_later) hb fX10_48 (pc' := 50) rfl (pz_dc dX10_later 28 rfl) (fun a4 hb => ?_)
    refine pz_iload_n (pc' := 51) (x := l3) 2 rfl (pz_dc dX10_later 29 rfl) rfl ?_
    refine pz_ldI hb (pc' := 52) rfl (pz_dc dX10_later 30 rfl) (fun x5 hb => ?_)
    refine pz_i2l (pc' := 53) rfl (pz_dc dX10_later 31 rfl) ?_
    refine pz_cVv (M := mX10_later) (N := mX10_tell) (d' := 0) (bc1 := 0) (bs1 := 0) (bc2 := bc) (bs2 := bs) (pc' := 56) [.long x5.toInt64] hb vX10_248 rfl (pz_dc dX10_later 32 rfl) rfl (Nat.le_of_ble_eq_true rfl) (Nat.le_of_ble_eq_true rfl) rfl (by omega) (by omega) (by omega) (fun h6 hb => ?_)
    refine pz_iinc (pc' := 59) (x := l3) (v := l3 + (1 : Int32)) (lv' := [(3, .int (l3 + (1 : Int32))), (0, .ref l0), (1, .int l1)]) 2 rfl (pz_dc dX10_later 33 rfl) rfl rfl (by decide) rfl ?_
    refine pz_goto (pc' := 37) (pz_dc dX10_later 34 rfl) (by decide) ?_
    refine pz_lv (lv' := [(0, .ref l0), (1, .int l1), (3, .int (l3 + (1 : Int32)))]) [1, 2, 0] rfl ?_
    exact hb
set_option maxRecDepth 20000 in
set_option maxHeartbeats 4000000 in
theorem wX10_dries_0 {Ex : State → Nat → Prop} {Q : Option Value → pz_H → Prop} {d bc bs : Nat} {l0 : Nat} {l1 : Int32}  {h : pz_H} (hD : 83 ≤ d) (hb : pz_pF h l0 10 9 (.int 0) (fun (h1 : pz_H) => pz_is h1 l0 10 ∧ (pz_gI h1 l0 10 1 (fun (x2 : Int32) => (¬ (eX10_isLake l1 x2) = 0 → pz_gR h1 l0 10 0 (fun (a6 : Nat) => pz_gR h1 l0 10 24 (fun (a7 : Nat) => pz_kv mX10_lay 0 0 0 ([.ref a6, .ref a7, .int 0]) h1 (fun (h8 : pz_H) => pz_V mX10_dries Ex Q d bc bs 29 [(0, .ref l0), (1, .int l1), (2, .int 0)] [] h8)))) ∧ ((eX10_isLake l1 x2) = 0 → Q (some (.int ((-1)))) h1))))) : pz_V mX10_dries Ex Q d bc bs 0 [(0, .ref l0), (1, .int l1)] [] h := by
  refine pz_aload_n (pc' := 1) (x := l0) 0 rfl (pz_dc dX10_dries 0 rfl) rfl ?_
  refine pz_iconst (pc' := 2) (v := 0) rfl (pz_dc dX10_dries 1 rfl) ki_0 ?_
  refine pz_putv (M := mX10_dries) hb (pX10_95 _ rfl) rfl rfl (pc' := 5) rfl (pz_dc dX10_dries 2 rfl) (fun h1 hb => ?_)
  refine pz_aload_n (pc' := 6) (x := l0) 0 rfl (pz_dc dX10_dries 3 rfl) rfl ?_
  refine pz_iload_n (pc' := 7) (x := l1) 1 rfl (pz_dc dX10_dries 4 rfl) rfl ?_
  obtain ⟨⟨fs9, hf10⟩, hb⟩ := hb
  obtain ⟨fs3, x2, g4, g5, hb⟩ := hb
  refine pz_callV (M := mX10_dries) (N := mX10_isLake) (d' := 1) (bc1 := 0) (bs1 := 0) (bc2 := bc) (bs2 := bs) (pc' := 10) [.int l1] vX10_108 rfl (pz_dc dX10_dries 5 rfl) rfl (Nat.le_of_ble_eq_true rfl) (Nat.le_of_ble_eq_true rfl) rfl (by omega) (by omega) (by omega) hf10 ?_
  refine cX10_isLake ⟨fs3, x2, g4, g5, ?_⟩
  show pz_V mX10_dries _ _ _ _ _ 10 [(0, .ref l0), (1, .int l1)] [.int (eX10_isLake l1 x2)] h1
  refine pz_if_ne (pc' := 13) (tgt := 15) rfl (pz_dc dX10_dries 6 rfl) (by decide) (fun hc => ?_) (fun hc => ?_)
  · replace hb := hb.1 hc
    refine pz_aload_n (pc' := 16) (x := l0) 0 rfl (pz_dc dX10_dries 9 rfl) rfl ?_
    refine pz_getR (M := mX10_dries) hb fX10_9 (pc' := 19) rfl (pz_dc dX10_dries 10 rfl) (fun a6 hb => ?_)
    refine pz_aload_n (pc' := 20) (x := l0) 0 rfl (pz_dc dX10_dries 11 rfl) rfl ?_
    refine pz_getR (M := mX10_dries) hb fX10_48 (pc' := 23) rfl (pz_dc dX10_dries 12 rfl) (fun a7 hb => ?_)
    refine pz_iconst (pc' := 24) (v := 0) rfl (pz_dc dX10_dries 13 rfl) ki_0 ?_
    refine pz_cSv (M := mX10_dries) (N := mX10_lay) (d' := 0) (bc1 := 0) (bs1 := 0) (bc2 := bc) (bs2 := bs) (pc' := 27) [.ref a6, .ref a7, .int 0] hb sX10_230 rfl (pz_dc dX10_dries 14 rfl) rfl (Nat.le_of_ble_eq_true rfl) (Nat.le_of_ble_eq_true rfl) rfl (by omega) (by omega) (by omega) (fun h8 hb => ?_)
    refine pz_iconst (pc' := 28) (v := 0) rfl (pz_dc dX10_dries 15 rfl) ki_0 ?_
    refine pz_istore_n (pc' := 29) (lv' := [(2, .int 0), (0, .ref l0), (1, .int l1)]) rfl (pz_dc dX10_dries 16 rfl) (by decide) rfl ?_
    refine pz_lv (lv' := [(0, .ref l0), (1, .int l1), (2, .int 0)]) [1, 2, 0] rfl ?_
    exact hb
  · replace hb := hb.2 hc
    refine pz_iconst (pc' := 14) (v := (-1)) rfl (pz_dc dX10_dries 7 rfl) ki_m1 ?_
    exact pz_iret (pz_dc dX10_dries 8 rfl) rfl hb
set_option maxRecDepth 20000 in
set_option maxHeartbeats 4000000 in
theorem wX10_dries_29 {Ex : State → Nat → Prop} {Q : Option Value → pz_H → Prop} {d bc bs : Nat} {l0 : Nat} {l1 : Int32} {l2 : Int32}  {h : pz_H} (hD : 83 ≤ d) (hb : (((99 : Int32)) < l2 → Q (some (.int ((-2)))) h) ∧ (¬ ((99 : Int32)) < l2 → pz_gR h l0 10 24 (fun (a1 : Nat) => pz_rI h a1 l1 (fun (x2 : Int32) => (¬ x2 = 0 → pz_gR h l0 10 24 (fun (a3 : Nat) => pz_is h l0 10 ∧ (pz_kv mX10_goDay 82 0 0 (.ref l0 :: [.ref a3]) h (fun (h4 : pz_H) => pz_V mX10_dries Ex Q d bc bs 29 [(0, .ref l0), (1, .int l1), (2, .int (l2 + (1 : Int32)))] [] h4)))) ∧ (x2 = 0 → pz_pF h l0 10 8 (.int 0) (fun (h5 : pz_H) => pz_gR h5 l0 10 24 (fun (a6 : Nat) => pz_is h5 l0 10 ∧ (pz_ki mX10_sumOf 0 0 0 (.ref l0 :: [.ref a6, .int 0]) h5 (fun (x8 : Int32) (h7 : pz_H) => pz_is h7 l0 10 ∧ (pz_kv mX10_tell 0 0 0 (.ref l0 :: [.long x8.toInt64]) h7 (fun (h9 : pz_H) => Q (some (.int l2)) h9))))))))))) : pz_V mX10_dries Ex Q d bc bs 29 [(0, .ref l0), (1, .int l1), (2, .int l2)] [] h := by
  refine pz_iload_n (pc' := 30) (x := l2) 2 rfl (pz_dc dX10_dries 17 rfl) rfl ?_
  refine pz_bipush (pc' := 32) (v := 99) rfl (pz_dc dX10_dries 18 rfl) kb_99 ?_
  refine pz_icmp_gt (pc' := 35) (tgt := 79) rfl (pz_dc dX10_dries 19 rfl) (by decide) (fun hc => ?_) (fun hc => ?_)
  · replace hb := hb.1 hc
    refine pz_bipush (pc' := 81) (v := (-2)) rfl (pz_dc dX10_dries 44 rfl) kb_m2 ?_
    exact pz_iret (pz_dc dX10_dries 45 rfl) rfl hb
  · replace hb := hb.2 hc
    refine pz_aload_n (pc' := 36) (x := l0) 0 rfl (pz_dc dX10_dries 20 rfl) rfl ?_
    refine pz_getR (M := mX10_dries) hb fX10_48 (pc' := 39) rfl (pz_dc dX10_dries 21 rfl) (fun a1 hb => ?_)
    refine pz_iload_n (pc' := 40) (x := l1) 1 rfl (pz_dc dX10_dries 22 rfl) rfl ?_
    refine pz_ldI hb (pc' := 41) rfl (pz_dc dX10_dries 23 rfl) (fun x2 hb => ?_)
    refine pz_if_ne (pc' := 44) (tgt := 65) rfl (pz_dc dX10_dries 24 rfl) (by decide) (fun hc => ?_) (fun hc => ?_)
    · replace hb := hb.1 hc
      refine pz_aload_n (pc' := 66) (x := l0) 0 rfl (pz_dc dX10_dries 38 rfl) rfl ?_
      refine pz_aload_n (pc' := 67) (x := l0) 0 rfl (pz_dc dX10_dries 39 rfl) rfl ?_
      refine pz_getR (M := mX10_dries) hb fX10_48 (pc' := 70) rfl (pz_dc dX10_dries 40 rfl) (fun a3 hb => ?_)
      refine pz_cVv (M := mX10_dries) (N := mX10_goDay) (d' := 82) (bc1 := 0) (bs1 := 0) (bc2 := bc) (bs2 := bs) (pc' := 73) [.ref a3] hb vX10_237 rfl (pz_dc dX10_dries 41 rfl) rfl (Nat.le_of_ble_eq_true rfl) (Nat.le_of_ble_eq_true rfl) rfl (by omega) (by omega) (by omega) (fun h4 hb => ?_)
      refine pz_iinc (pc' := 76) (x := l2) (v := l2 + (1 : Int32)) (lv' := [(2, .int (l2 + (1 : Int32))), (0, .ref l0), (1, .int l1)]) 2 rfl (pz_dc dX10_dries 42 rfl) rfl rfl (by decide) rfl ?_
      refine pz_goto (pc' := 29) (pz_dc dX10_dries 43 rfl) (by decide) ?_
      refine pz_lv (lv' := [(0, .ref l0), (1, .int l1), (2, .int (l2 + (1 : Int32)))]) [1, 2, 0] rfl ?_
      exact hb
    · replace hb := hb.2 hc
      refine pz_aload_n (pc' := 45) (x := l0) 0 rfl (pz_dc dX10_dries 25 rfl) rfl ?_
      refine pz_iconst (pc' := 46) (v := 0) rfl (pz_dc dX10_dries 26 rfl) ki_0 ?_
      refine pz_putv (M := mX10_dries) hb (pX10_98 _ rfl) rfl rfl (pc' := 49) rfl (pz_dc dX10_dries 27 rfl) (fun h5 hb => ?_)
      refine pz_aload_n (pc' := 50) (x := l0) 0 rfl (pz_dc dX10_dries 28 rfl) rfl ?_
      refine pz_aload_n (pc' := 51) (x := l0) 0 rfl (pz_dc dX10_dries 29 rfl) rfl ?_
      refine pz_aload_n (pc' := 52) (x := l0) 0 rfl (pz_dc dX10_dries 30 rfl) rfl ?_
      refine pz_getR (M := mX10_dries) hb fX10_48 (pc' := 55) rfl (pz_dc dX10_dries 31 rfl) (fun a6 hb => ?_)
      refine pz_iconst (pc' := 56) (v := 0) rfl (pz_dc dX10_dries 32 rfl) ki_0 ?_
      refine pz_cVi (M := mX10_dries) (N := mX10_sumOf) (d' := 0) (bc1 := 0) (bs1 := 0) (bc2 := bc) (bs2 := bs) (pc' := 59) [.ref a6, .int 0] hb vX10_227 rfl (pz_dc dX10_dries 33 rfl) rfl (Nat.le_of_ble_eq_true rfl) (Nat.le_of_ble_eq_true rfl) rfl (by omega) (by omega) (by omega) (fun x8 h7 hb => ?_)
      refine pz_i2l (pc' := 60) rfl (pz_dc dX10_dries 34 rfl) ?_
      refine pz_cVv (M := mX10_dries) (N := mX10_tell) (d' := 0) (bc1 := 0) (bs1 := 0) (bc2 := bc) (bs2 := bs) (pc' := 63) [.long x8.toInt64] hb vX10_248 rfl (pz_dc dX10_dries 35 rfl) rfl (Nat.le_of_ble_eq_true rfl) (Nat.le_of_ble_eq_true rfl) rfl (by omega) (by omega) (by omega) (fun h9 hb => ?_)
      refine pz_iload_n (pc' := 64) (x := l2) 2 rfl (pz_dc dX10_dries 36 rfl) rfl ?_
      exact pz_iret (pz_dc dX10_dries 37 rfl) rfl hb
set_option maxRecDepth 20000 in
set_option maxHeartbeats 4000000 in
theorem wX10_brims_0 {Ex : State → Nat → Prop} {Q : Option Value → pz_H → Prop} {d bc bs : Nat} {l0 : Nat} {l1 : Int32}  {h : pz_H} (hD : 83 ≤ d) (hb : pz_pF h l0 10 9 (.int 0) (fun (h1 : pz_H) => pz_is h1 l0 10 ∧ (pz_gI h1 l0 10 1 (fun (x2 : Int32) => (¬ (eX10_isLake l1 x2) = 0 → pz_gR h1 l0 10 0 (fun (a6 : Nat) => pz_gR h1 l0 10 24 (fun (a7 : Nat) => pz_kv mX10_lay 0 0 0 ([.ref a6, .ref a7, .int 0]) h1 (fun (h8 : pz_H) => pz_V mX10_brims Ex Q d bc bs 29 [(0, .ref l0), (1, .int l1), (2, .int 0)] [] h8)))) ∧ ((eX10_isLake l1 x2) = 0 → Q (some (.int ((-1)))) h1))))) : pz_V mX10_brims Ex Q d bc bs 0 [(0, .ref l0), (1, .int l1)] [] h := by
  refine pz_aload_n (pc' := 1) (x := l0) 0 rfl (pz_dc dX10_brims 0 rfl) rfl ?_
  refine pz_iconst (pc' := 2) (v := 0) rfl (pz_dc dX10_brims 1 rfl) ki_0 ?_
  refine pz_putv (M := mX10_brims) hb (pX10_95 _ rfl) rfl rfl (pc' := 5) rfl (pz_dc dX10_brims 2 rfl) (fun h1 hb => ?_)
  refine pz_aload_n (pc' := 6) (x := l0) 0 rfl (pz_dc dX10_brims 3 rfl) rfl ?_
  refine pz_iload_n (pc' := 7) (x := l1) 1 rfl (pz_dc dX10_brims 4 rfl) rfl ?_
  obtain ⟨⟨fs9, hf10⟩, hb⟩ := hb
  obtain ⟨fs3, x2, g4, g5, hb⟩ := hb
  refine pz_callV (M := mX10_brims) (N := mX10_isLake) (d' := 1) (bc1 := 0) (bs1 := 0) (bc2 := bc) (bs2 := bs) (pc' := 10) [.int l1] vX10_108 rfl (pz_dc dX10_brims 5 rfl) rfl (Nat.le_of_ble_eq_true rfl) (Nat.le_of_ble_eq_true rfl) rfl (by omega) (by omega) (by omega) hf10 ?_
  refine cX10_isLake ⟨fs3, x2, g4, g5, ?_⟩
  show pz_V mX10_brims _ _ _ _ _ 10 [(0, .ref l0), (1, .int l1)] [.int (eX10_isLake l1 x2)] h1
  refine pz_if_ne (pc' := 13) (tgt := 15) rfl (pz_dc dX10_brims 6 rfl) (by decide) (fun hc => ?_) (fun hc => ?_)
  · replace hb := hb.1 hc
    refine pz_aload_n (pc' := 16) (x := l0) 0 rfl (pz_dc dX10_brims 9 rfl) rfl ?_
    refine pz_getR (M := mX10_brims) hb fX10_9 (pc' := 19) rfl (pz_dc dX10_brims 10 rfl) (fun a6 hb => ?_)
    refine pz_aload_n (pc' := 20) (x := l0) 0 rfl (pz_dc dX10_brims 11 rfl) rfl ?_
    refine pz_getR (M := mX10_brims) hb fX10_48 (pc' := 23) rfl (pz_dc dX10_brims 12 rfl) (fun a7 hb => ?_)
    refine pz_iconst (pc' := 24) (v := 0) rfl (pz_dc dX10_brims 13 rfl) ki_0 ?_
    refine pz_cSv (M := mX10_brims) (N := mX10_lay) (d' := 0) (bc1 := 0) (bs1 := 0) (bc2 := bc) (bs2 := bs) (pc' := 27) [.ref a6, .ref a7, .int 0] hb sX10_230 rfl (pz_dc dX10_brims 14 rfl) rfl (Nat.le_of_ble_eq_true rfl) (Nat.le_of_ble_eq_true rfl) rfl (by omega) (by omega) (by omega) (fun h8 hb => ?_)
    refine pz_iconst (pc' := 28) (v := 0) rfl (pz_dc dX10_brims 15 rfl) ki_0 ?_
    refine pz_istore_n (pc' := 29) (lv' := [(2, .int 0), (0, .ref l0), (1, .int l1)]) rfl (pz_dc dX10_brims 16 rfl) (by decide) rfl ?_
    refine pz_lv (lv' := [(0, .ref l0), (1, .int l1), (2, .int 0)]) [1, 2, 0] rfl ?_
    exact hb
  · replace hb := hb.2 hc
    refine pz_iconst (pc' := 14) (v := (-1)) rfl (pz_dc dX10_brims 7 rfl) ki_m1 ?_
    exact pz_iret (pz_dc dX10_brims 8 rfl) rfl hb
set_option maxRecDepth 20000 in
set_option maxHeartbeats 4000000 in
theorem wX10_brims_29 {Ex : State → Nat → Prop} {Q : Option Value → pz_H → Prop} {d bc bs : Nat} {l0 : Nat} {l1 : Int32} {l2 : Int32}  {h : pz_H} (hD : 83 ≤ d) (hb : (((99 : Int32)) < l2 → Q (some (.int ((-2)))) h) ∧ (¬ ((99 : Int32)) < l2 → pz_gR h l0 10 24 (fun (a1 : Nat) => pz_rI h a1 l1 (fun (x2 : Int32) => pz_gR h l0 10 2 (fun (a3 : Nat) => pz_rI h a3 l1 (fun (x4 : Int32) => (¬ x2 = x4 → pz_gR h l0 10 24 (fun (a5 : Nat) => pz_is h l0 10 ∧ (pz_kv mX10_goDay 82 0 0 (.ref l0 :: [.ref a5]) h (fun (h6 : pz_H) => pz_V mX10_brims Ex Q d bc bs 29 [(0, .ref l0), (1, .int l1), (2, .int (l2 + (1 : Int32)))] [] h6)))) ∧ (x2 = x4 → pz_pF h l0 10 8 (.int 0) (fun (h7 : pz_H) => pz_gR h7 l0 10 24 (fun (a8 : Nat) => pz_rI h7 a8 31 (fun (x9 : Int32) => pz_gR h7 l0 10 0 (fun (a10 : Nat) => pz_rI h7 a10 31 (fun (x11 : Int32) => pz_is h7 l0 10 ∧ (pz_kv mX10_tell 0 0 0 (.ref l0 :: [.long ((x9 - x11).toInt64)]) h7 (fun (h12 : pz_H) => Q (some (.int l2)) h12)))))))))))))) : pz_V mX10_brims Ex Q d bc bs 29 [(0, .ref l0), (1, .int l1), (2, .int l2)] [] h := by
  refine pz_iload_n (pc' := 30) (x := l2) 2 rfl (pz_dc dX10_brims 17 rfl) rfl ?_
  refine pz_bipush (pc' := 32) (v := 99) rfl (pz_dc dX10_brims 18 rfl) kb_99 ?_
  refine pz_icmp_gt (pc' := 35) (tgt := 91) rfl (pz_dc dX10_brims 19 rfl) (by decide) (fun hc => ?_) (fun hc => ?_)
  · replace hb := hb.1 hc
    refine pz_bipush (pc' := 93) (v := (-2)) rfl (pz_dc dX10_brims 52 rfl) kb_m2 ?_
    exact pz_iret (pz_dc dX10_brims 53 rfl) rfl hb
  · replace hb := hb.2 hc
    refine pz_aload_n (pc' := 36) (x := l0) 0 rfl (pz_dc dX10_brims 20 rfl) rfl ?_
    refine pz_getR (M := mX10_brims) hb fX10_48 (pc' := 39) rfl (pz_dc dX10_brims 21 rfl) (fun a1 hb => ?_)
    refine pz_iload_n (pc' := 40) (x := l1) 1 rfl (pz_dc dX10_brims 22 rfl) rfl ?_
    refine pz_ldI hb (pc' := 41) rfl (pz_dc dX10_brims 23 rfl) (fun x2 hb => ?_)
    refine pz_aload_n (pc' := 42) (x := l0) 0 rfl (pz_dc dX10_brims 24 rfl) rfl ?_
    refine pz_getR (M := mX10_brims) hb fX10_13 (pc' := 45) rfl (pz_dc dX10_brims 25 rfl) (fun a3 hb => ?_)
    refine pz_iload_n (pc' := 46) (x := l1) 1 rfl (pz_dc dX10_brims 26 rfl) rfl ?_
    refine pz_ldI hb (pc' := 47) rfl (pz_dc dX10_brims 27 rfl) (fun x4 hb => ?_)
    refine pz_icmp_ne (pc' := 50) (tgt := 77) rfl (pz_dc dX10_brims 28 rfl) (by decide) (fun hc => ?_) (fun hc => ?_)
    · replace hb := hb.1 hc
      refine pz_aload_n (pc' := 78) (x := l0) 0 rfl (pz_dc dX10_brims 46 rfl) rfl ?_
      refine pz_aload_n (pc' := 79) (x := l0) 0 rfl (pz_dc dX10_brims 47 rfl) rfl ?_
      refine pz_getR (M := mX10_brims) hb fX10_48 (pc' := 82) rfl (pz_dc dX10_brims 48 rfl) (fun a5 hb => ?_)
      refine pz_cVv (M := mX10_brims) (N := mX10_goDay) (d' := 82) (bc1 := 0) (bs1 := 0) (bc2 := bc) (bs2 := bs) (pc' := 85) [.ref a5] hb vX10_237 rfl (pz_dc dX10_brims 49 rfl) rfl (Nat.le_of_ble_eq_true rfl) (Nat.le_of_ble_eq_true rfl) rfl (by omega) (by omega) (by omega) (fun h6 hb => ?_)
      refine pz_iinc (pc' := 88) (x := l2) (v := l2 + (1 : Int32)) (lv' := [(2, .int (l2 + (1 : Int32))), (0, .ref l0), (1, .int l1)]) 2 rfl (pz_dc dX10_brims 50 rfl) rfl rfl (by decide) rfl ?_
      refine pz_goto (pc' := 29) (pz_dc dX10_brims 51 rfl) (by decide) ?_
      refine pz_lv (lv' := [(0, .ref l0), (1, .int l1), (2, .int (l2 + (1 : Int32)))]) [1, 2, 0] rfl ?_
      exact hb
    · replace hb := hb.2 hc
      refine pz_aload_n (pc' := 51) (x := l0) 0 rfl (pz_dc dX10_brims 29 rfl) rfl ?_
      refine pz_iconst (pc' := 52) (v := 0) rfl (pz_dc dX10_brims 30 rfl) ki_0 ?_
      refine pz_putv (M := mX10_brims) hb (pX10_98 _ rfl) rfl rfl (pc' := 55) rfl (pz_dc dX10_brims 31 rfl) (fun h7 hb => ?_)
      refine pz_aload_n (pc' := 56) (x := l0) 0 rfl (pz_dc dX10_brims 32 rfl) rfl ?_
      refine pz_aload_n (pc' := 57) (x := l0) 0 rfl (pz_dc dX10_brims 33 rfl) rfl ?_
      refine pz_getR (M := mX10_brims) hb fX10_48 (pc' := 60) rfl (pz_dc dX10_brims 34 rfl) (fun a8 hb => ?_)
      refine pz_bipush (pc' := 62) (v := 31) rfl (pz_dc dX10_brims 35 rfl) kb_31 ?_
      refine pz_ldI hb (pc' := 63) rfl (pz_dc dX10_brims 36 rfl) (fun x9 hb => ?_)
      refine pz_aload_n (pc' := 64) (x := l0) 0 rfl (pz_dc dX10_brims 37 rfl) rfl ?_
      refine pz_getR (M := mX10_brims) hb fX10_9 (pc' := 67) rfl (pz_dc dX10_brims 38 rfl) (fun a10 hb => ?_)
      refine pz_bipush (pc' := 69) (v := 31) rfl (pz_dc dX10_brims 39 rfl) kb_31 ?_
      refine pz_ldI hb (pc' := 70) rfl (pz_dc dX10_brims 40 rfl) (fun x11 hb => ?_)
      refine pz_isub (pc' := 71) rfl (pz_dc dX10_brims 41 rfl) ?_
      refine pz_i2l (pc' := 72) rfl (pz_dc dX10_brims 42 rfl) ?_
      refine pz_cVv (M := mX10_brims) (N := mX10_tell) (d' := 0) (bc1 := 0) (bs1 := 0) (bc2 := bc) (bs2 := bs) (pc' := 75) [.long ((x9 - x11).toInt64)] hb vX10_248 rfl (pz_dc dX10_brims 43 rfl) rfl (Nat.le_of_ble_eq_true rfl) (Nat.le_of_ble_eq_true rfl) rfl (by omega) (by omega) (by omega) (fun h12 hb => ?_)
      refine pz_iload_n (pc' := 76) (x := l2) 2 rfl (pz_dc dX10_brims 44 rfl) rfl ?_
      exact pz_iret (pz_dc dX10_brims 45 rfl) rfl hb
set_option maxRecDepth 20000 in
set_option maxHeartbeats 4000000 in
theorem wX10_marks_0 {Ex : State → Nat → Prop} {Q : Option Value → pz_H → Prop} {d bc bs : Nat} {l0 : Nat} {l1 : Int32} {l2 : Int32}  {h : pz_H} (hD : 83 ≤ d) (hb : pz_pF h l0 10 9 (.int 0) (fun (h1 : pz_H) => pz_is h1 l0 10 ∧ (pz_gI h1 l0 10 1 (fun (x2 : Int32) => ((eX10_isLake l1 x2) = 0 → Q (some (.int ((-1)))) h1) ∧ (¬ (eX10_isLake l1 x2) = 0 → (¬ (eX10_in l2 ((0 : Int32)) ((99 : Int32))) = 0 → pz_gR h1 l0 10 0 (fun (a6 : Nat) => pz_gR h1 l0 10 24 (fun (a7 : Nat) => pz_kv mX10_lay 0 0 0 ([.ref a6, .ref a7, .int 0]) h1 (fun (h8 : pz_H) => pz_gR h8 l0 10 0 (fun (a9 : Nat) => pz_rI h8 a9 l1 (fun (x10 : Int32) => pz_gR h8 l0 10 0 (fun (a11 : Nat) => pz_rI h8 a11 l1 (fun (x12 : Int32) => pz_V mX10_marks Ex Q d bc bs 61 [(0, .ref l0), (1, .int l1), (2, .int l2), (3, .int x10), (4, .int x12), (5, .int 0), (6, .int 0), (7, .int 1)] [] h8)))))))) ∧ ((eX10_in l2 ((0 : Int32)) ((99 : Int32))) = 0 → Q (some (.int ((-1)))) h1)))))) : pz_V mX10_marks Ex Q d bc bs 0 [(0, .ref l0), (1, .int l1), (2, .int l2)] [] h := by
  refine pz_aload_n (pc' := 1) (x := l0) 0 rfl (pz_dc dX10_marks 0 rfl) rfl ?_
  refine pz_iconst (pc' := 2) (v := 0) rfl (pz_dc dX10_marks 1 rfl) ki_0 ?_
  refine pz_putv (M := mX10_marks) hb (pX10_95 _ rfl) rfl rfl (pc' := 5) rfl (pz_dc dX10_marks 2 rfl) (fun h1 hb => ?_)
  refine pz_aload_n (pc' := 6) (x := l0) 0 rfl (pz_dc dX10_marks 3 rfl) rfl ?_
  refine pz_iload_n (pc' := 7) (x := l1) 1 rfl (pz_dc dX10_marks 4 rfl) rfl ?_
  obtain ⟨⟨fs13, hf14⟩, hb⟩ := hb
  obtain ⟨fs3, x2, g4, g5, hb⟩ := hb
  refine pz_callV (M := mX10_marks) (N := mX10_isLake) (d' := 1) (bc1 := 0) (bs1 := 0) (bc2 := bc) (bs2 := bs) (pc' := 10) [.int l1] vX10_108 rfl (pz_dc dX10_marks 5 rfl) rfl (Nat.le_of_ble_eq_true rfl) (Nat.le_of_ble_eq_true rfl) rfl (by omega) (by omega) (by omega) hf14 ?_
  refine cX10_isLake ⟨fs3, x2, g4, g5, ?_⟩
  show pz_V mX10_marks _ _ _ _ _ 10 [(0, .ref l0), (1, .int l1), (2, .int l2)] [.int (eX10_isLake l1 x2)] h1
  refine pz_if_eq (pc' := 13) (tgt := 23) rfl (pz_dc dX10_marks 6 rfl) (by decide) (fun hc => ?_) (fun hc => ?_)
  · replace hb := hb.1 hc
    refine pz_iconst (pc' := 24) (v := (-1)) rfl (pz_dc dX10_marks 12 rfl) ki_m1 ?_
    exact pz_iret (pz_dc dX10_marks 13 rfl) rfl hb
  · replace hb := hb.2 hc
    refine pz_iload_n (pc' := 14) (x := l2) 2 rfl (pz_dc dX10_marks 7 rfl) rfl ?_
    refine pz_iconst (pc' := 15) (v := 0) rfl (pz_dc dX10_marks 8 rfl) ki_0 ?_
    refine pz_bipush (pc' := 17) (v := 99) rfl (pz_dc dX10_marks 9 rfl) kb_99 ?_
    refine pz_callS (M := mX10_marks) (N := mX10_in) (d' := 0) (bc1 := 0) (bs1 := 0) (bc2 := bc) (bs2 := bs) (pc' := 20) [.int l2, .int 0, .int 99] sX10_104 rfl (pz_dc dX10_marks 10 rfl) rfl (Nat.le_of_ble_eq_true rfl) (Nat.le_of_ble_eq_true rfl) rfl (by omega) (by omega) (by omega) ?_
    refine cX10_in ?_
    show pz_V mX10_marks _ _ _ _ _ 20 [(0, .ref l0), (1, .int l1), (2, .int l2)] [.int (eX10_in l2 ((0 : Int32)) ((99 : Int32)))] h1
    refine pz_if_ne (pc' := 23) (tgt := 25) rfl (pz_dc dX10_marks 11 rfl) (by decide) (fun hc => ?_) (fun hc => ?_)
    · replace hb := hb.1 hc
      refine pz_aload_n (pc' := 26) (x := l0) 0 rfl (pz_dc dX10_marks 14 rfl) rfl ?_
      refine pz_getR (M := mX10_marks) hb fX10_9 (pc' := 29) rfl (pz_dc dX10_marks 15 rfl) (fun a6 hb => ?_)
      refine pz_aload_n (pc' := 30) (x := l0) 0 rfl (pz_dc dX10_marks 16 rfl) rfl ?_
      refine pz_getR (M := mX10_marks) hb fX10_48 (pc' := 33) rfl (pz_dc dX10_marks 17 rfl) (fun a7 hb => ?_)
      refine pz_iconst (pc' := 34) (v := 0) rfl (pz_dc dX10_marks 18 rfl) ki_0 ?_
      refine pz_cSv (M := mX10_marks) (N := mX10_lay) (d' := 0) (bc1 := 0) (bs1 := 0) (bc2 := bc) (bs2 := bs) (pc' := 37) [.ref a6, .ref a7, .int 0] hb sX10_230 rfl (pz_dc dX10_marks 19 rfl) rfl (Nat.le_of_ble_eq_true rfl) (Nat.le_of_ble_eq_true rfl) rfl (by omega) (by omega) (by omega) (fun h8 hb => ?_)
      refine pz_aload_n (pc' := 38) (x := l0) 0 rfl (pz_dc dX10_marks 20 rfl) rfl ?_
      refine pz_getR (M := mX10_marks) hb fX10_9 (pc' := 41) rfl (pz_dc dX10_marks 21 rfl) (fun a9 hb => ?_)
      refine pz_iload_n (pc' := 42) (x := l1) 1 rfl (pz_dc dX10_marks 22 rfl) rfl ?_
      refine pz_ldI hb (pc' := 43) rfl (pz_dc dX10_marks 23 rfl) (fun x10 hb => ?_)
      refine pz_istore_n (pc' := 44) (lv' := [(3, .int x10), (0, .ref l0), (1, .int l1), (2, .int l2)]) rfl (pz_dc dX10_marks 24 rfl) (by decide) rfl ?_
      refine pz_aload_n (pc' := 45) (x := l0) 1 rfl (pz_dc dX10_marks 25 rfl) rfl ?_
      refine pz_getR (M := mX10_marks) hb fX10_9 (pc' := 48) rfl (pz_dc dX10_marks 26 rfl) (fun a11 hb => ?_)
      refine pz_iload_n (pc' := 49) (x := l1) 2 rfl (pz_dc dX10_marks 27 rfl) rfl ?_
      refine pz_ldI hb (pc' := 50) rfl (pz_dc dX10_marks 28 rfl) (fun x12 hb => ?_)
      refine pz_istore (pc' := 52) (lv' := [(4, .int x12), (3, .int x10), (0, .ref l0), (1, .int l1), (2, .int l2)]) rfl (pz_dc dX10_marks 29 rfl) (by decide) rfl ?_
      refine pz_iconst (pc' := 53) (v := 0) rfl (pz_dc dX10_marks 30 rfl) ki_0 ?_
      refine pz_istore (pc' := 55) (lv' := [(5, .int 0), (4, .int x12), (3, .int x10), (0, .ref l0), (1, .int l1), (2, .int l2)]) rfl (pz_dc dX10_marks 31 rfl) (by decide) rfl ?_
      refine pz_iconst (pc' := 56) (v := 0) rfl (pz_dc dX10_marks 32 rfl) ki_0 ?_
      refine pz_istore (pc' := 58) (lv' := [(6, .int 0), (5, .int 0), (4, .int x12), (3, .int x10), (0, .ref l0), (1, .int l1), (2, .int l2)]) rfl (pz_dc dX10_marks 33 rfl) (by decide) rfl ?_
      refine pz_iconst (pc' := 59) (v := 1) rfl (pz_dc dX10_marks 34 rfl) ki_1 ?_
      refine pz_istore (pc' := 61) (lv' := [(7, .int 1), (6, .int 0), (5, .int 0), (4, .int x12), (3, .int x10), (0, .ref l0), (1, .int l1), (2, .int l2)]) rfl (pz_dc dX10_marks 35 rfl) (by decide) rfl ?_
      refine pz_lv (lv' := [(0, .ref l0), (1, .int l1), (2, .int l2), (3, .int x10), (4, .int x12), (5, .int 0), (6, .int 0), (7, .int 1)]) [5, 6, 7, 4, 3, 2, 1, 0] rfl ?_
      exact hb
    · replace hb := hb.2 hc
      refine pz_iconst (pc' := 24) (v := (-1)) rfl (pz_dc dX10_marks 12 rfl) ki_m1 ?_
      exact pz_iret (pz_dc dX10_marks 13 rfl) rfl hb
set_option maxRecDepth 20000 in
set_option maxHeartbeats 4000000 in
theorem wX10_marks_61 {Ex : State → Nat → Prop} {Q : Option Value → pz_H → Prop} {d bc bs : Nat} {l0 : Nat} {l1 : Int32} {l2 : Int32} {l3 : Int32} {l4 : Int32} {l5 : Int32} {l6 : Int32} {l7 : Int32}  {h : pz_H} (hD : 83 ≤ d) (hb : (l2 < l7 → pz_pF h l0 10 8 (.int 0) (fun (h1 : pz_H) => pz_is h1 l0 10 ∧ (pz_kv mX10_tell 0 0 0 (.ref l0 :: [.long l5.toInt64]) h1 (fun (h2 : pz_H) => pz_is h2 l0 10 ∧ (pz_kv mX10_tell 0 0 0 (.ref l0 :: [.long l4.toInt64]) h2 (fun (h3 : pz_H) => pz_is h3 l0 10 ∧ (pz_kv mX10_tell 0 0 0 (.ref l0 :: [.long l6.toInt64]) h3 (fun (h4 : pz_H) => Q (some (.int l3)) h4)))))))) ∧ (¬ l2 < l7 → pz_gR h l0 10 24 (fun (a5 : Nat) => pz_is h l0 10 ∧ (pz_kv mX10_goDay 82 0 0 (.ref l0 :: [.ref a5]) h (fun (h6 : pz_H) => pz_gR h6 l0 10 24 (fun (a7 : Nat) => pz_rI h6 a7 l1 (fun (x8 : Int32) => (l3 ≤ x8 → pz_gR h6 l0 10 24 (fun (a9 : Nat) => pz_rI h6 a9 l1 (fun (x10 : Int32) => (x10 ≤ l4 → pz_V mX10_marks Ex Q d bc bs 61 [(0, .ref l0), (1, .int l1), (2, .int l2), (3, .int l3), (4, .int l4), (5, .int l5), (6, .int l6), (7, .int (l7 + (1 : Int32)))] [] h6) ∧ (¬ x10 ≤ l4 → pz_gR h6 l0 10 24 (fun (a11 : Nat) => pz_rI h6 a11 l1 (fun (x12 : Int32) => pz_V mX10_marks Ex Q d bc bs 61 [(0, .ref l0), (1, .int l1), (2, .int l2), (3, .int l3), (4, .int x12), (5, .int l5), (6, .int l7), (7, .int (l7 + (1 : Int32)))] [] h6)))))) ∧ (¬ l3 ≤ x8 → pz_gR h6 l0 10 24 (fun (a13 : Nat) => pz_rI h6 a13 l1 (fun (x14 : Int32) => pz_gR h6 l0 10 24 (fun (a15 : Nat) => pz_rI h6 a15 l1 (fun (x16 : Int32) => (x16 ≤ l4 → pz_V mX10_marks Ex Q d bc bs 61 [(0, .ref l0), (1, .int l1), (2, .int l2), (3, .int x14), (4, .int l4), (5, .int l7), (6, .int l6), (7, .int (l7 + (1 : Int32)))] [] h6) ∧ (¬ x16 ≤ l4 → pz_gR h6 l0 10 24 (fun (a17 : Nat) => pz_rI h6 a17 l1 (fun (x18 : Int32) => pz_V mX10_marks Ex Q d bc bs 61 [(0, .ref l0), (1, .int l1), (2, .int l2), (3, .int x14), (4, .int x18), (5, .int l7), (6, .int l7), (7, .int (l7 + (1 : Int32)))] [] h6))))))))))))))) : pz_V mX10_marks Ex Q d bc bs 61 [(0, .ref l0), (1, .int l1), (2, .int l2), (3, .int l3), (4, .int l4), (5, .int l5), (6, .int l6), (7, .int l7)] [] h := by
  refine pz_iload (pc' := 63) (x := l7) 7 rfl (pz_dc dX10_marks 36 rfl) rfl ?_
  refine pz_iload_n (pc' := 64) (x := l2) 2 rfl (pz_dc dX10_marks 37 rfl) rfl ?_
  refine pz_icmp_gt (pc' := 67) (tgt := 125) rfl (pz_dc dX10_marks 38 rfl) (by decide) (fun hc => ?_) (fun hc => ?_)
  · replace hb := hb.1 hc
    refine pz_aload_n (pc' := 126) (x := l0) 0 rfl (pz_dc dX10_marks 71 rfl) rfl ?_
    refine pz_iconst (pc' := 127) (v := 0) rfl (pz_dc dX10_marks 72 rfl) ki_0 ?_
    refine pz_putv (M := mX10_marks) hb (pX10_98 _ rfl) rfl rfl (pc' := 130) rfl (pz_dc dX10_marks 73 rfl) (fun h1 hb => ?_)
    refine pz_aload_n (pc' := 131) (x := l0) 0 rfl (pz_dc dX10_marks 74 rfl) rfl ?_
    refine pz_iload (pc' := 133) (x := l5) 5 rfl (pz_dc dX10_marks 75 rfl) rfl ?_
    refine pz_i2l (pc' := 134) rfl (pz_dc dX10_marks 76 rfl) ?_
    refine pz_cVv (M := mX10_marks) (N := mX10_tell) (d' := 0) (bc1 := 0) (bs1 := 0) (bc2 := bc) (bs2 := bs) (pc' := 137) [.long l5.toInt64] hb vX10_248 rfl (pz_dc dX10_marks 77 rfl) rfl (Nat.le_of_ble_eq_true rfl) (Nat.le_of_ble_eq_true rfl) rfl (by omega) (by omega) (by omega) (fun h2 hb => ?_)
    refine pz_aload_n (pc' := 138) (x := l0) 0 rfl (pz_dc dX10_marks 78 rfl) rfl ?_
    refine pz_iload (pc' := 140) (x := l4) 4 rfl (pz_dc dX10_marks 79 rfl) rfl ?_
    refine pz_i2l (pc' := 141) rfl (pz_dc dX10_marks 80 rfl) ?_
    refine pz_cVv (M := mX10_marks) (N := mX10_tell) (d' := 0) (bc1 := 0) (bs1 := 0) (bc2 := bc) (bs2 := bs) (pc' := 144) [.long l4.toInt64] hb vX10_248 rfl (pz_dc dX10_marks 81 rfl) rfl (Nat.le_of_ble_eq_true rfl) (Nat.le_of_ble_eq_true rfl) rfl (by omega) (by omega) (by omega) (fun h3 hb => ?_)
    refine pz_aload_n (pc' := 145) (x := l0) 0 rfl (pz_dc dX10_marks 82 rfl) rfl ?_
    refine pz_iload (pc' := 147) (x := l6) 6 rfl (pz_dc dX10_marks 83 rfl) rfl ?_
    refine pz_i2l (pc' := 148) rfl (pz_dc dX10_marks 84 rfl) ?_
    refine pz_cVv (M := mX10_marks) (N := mX10_tell) (d' := 0) (bc1 := 0) (bs1 := 0) (bc2 := bc) (bs2 := bs) (pc' := 151) [.long l6.toInt64] hb vX10_248 rfl (pz_dc dX10_marks 85 rfl) rfl (Nat.le_of_ble_eq_true rfl) (Nat.le_of_ble_eq_true rfl) rfl (by omega) (by omega) (by omega) (fun h4 hb => ?_)
    refine pz_iload_n (pc' := 152) (x := l3) 3 rfl (pz_dc dX10_marks 86 rfl) rfl ?_
    exact pz_iret (pz_dc dX10_marks 87 rfl) rfl hb
  · replace hb := hb.2 hc
    refine pz_aload_n (pc' := 68) (x := l0) 0 rfl (pz_dc dX10_marks 39 rfl) rfl ?_
    refine pz_aload_n (pc' := 69) (x := l0) 0 rfl (pz_dc dX10_marks 40 rfl) rfl ?_
    refine pz_getR (M := mX10_marks) hb fX10_48 (pc' := 72) rfl (pz_dc dX10_marks 41 rfl) (fun a5 hb => ?_)
    refine pz_cVv (M := mX10_marks) (N := mX10_goDay) (d' := 82) (bc1 := 0) (bs1 := 0) (bc2 := bc) (bs2 := bs) (pc' := 75) [.ref a5] hb vX10_237 rfl (pz_dc dX10_marks 42 rfl) rfl (Nat.le_of_ble_eq_true rfl) (Nat.le_of_ble_eq_true rfl) rfl (by omega) (by omega) (by omega) (fun h6 hb => ?_)
    refine pz_aload_n (pc' := 76) (x := l0) 0 rfl (pz_dc dX10_marks 43 rfl) rfl ?_
    refine pz_getR (M := mX10_marks) hb fX10_48 (pc' := 79) rfl (pz_dc dX10_marks 44 rfl) (fun a7 hb => ?_)
    refine pz_iload_n (pc' := 80) (x := l1) 1 rfl (pz_dc dX10_marks 45 rfl) rfl ?_
    refine pz_ldI hb (pc' := 81) rfl (pz_dc dX10_marks 46 rfl) (fun x8 hb => ?_)
    refine pz_iload_n (pc' := 82) (x := l3) 3 rfl (pz_dc dX10_marks 47 rfl) rfl ?_
    refine pz_icmp_ge (pc' := 85) (tgt := 96) rfl (pz_dc dX10_marks 48 rfl) (by decide) (fun hc => ?_) (fun hc => ?_)
    · replace hb := hb.1 hc
      refine pz_aload_n (pc' := 97) (x := l0) 0 rfl (pz_dc dX10_marks 56 rfl) rfl ?_
      refine pz_getR (M := mX10_marks) hb fX10_48 (pc' := 100) rfl (pz_dc dX10_marks 57 rfl) (fun a9 hb => ?_)
      refine pz_iload_n (pc' := 101) (x := l1) 1 rfl (pz_dc dX10_marks 58 rfl) rfl ?_
      refine pz_ldI hb (pc' := 102) rfl (pz_dc dX10_marks 59 rfl) (fun x10 hb => ?_)
      refine pz_iload (pc' := 104) (x := l4) 4 rfl (pz_dc dX10_marks 60 rfl) rfl ?_
      refine pz_icmp_le (pc' := 107) (tgt := 119) rfl (pz_dc dX10_marks 61 rfl) (by decide) (fun hc => ?_) (fun hc => ?_)
      · replace hb := hb.1 hc
        refine pz_iinc (pc' := 122) (x := l7) (v := l7 + (1 : Int32)) (lv' := [(7, .int (l7 + (1 : Int32))), (0, .ref l0), (1, .int l1), (2, .int l2), (3, .int l3), (4, .int l4), (5, .int l5), (6, .int l6)]) 7 rfl (pz_dc dX10_marks 69 rfl) rfl rfl (by decide) rfl ?_
        refine pz_goto (pc' := 61) (pz_dc dX10_marks 70 rfl) (by decide) ?_
        refine pz_lv (lv' := [(0, .ref l0), (1, .int l1), (2, .int l2), (3, .int l3), (4, .int l4), (5, .int l5), (6, .int l6), (7, .int (l7 + (1 : Int32)))]) [1, 2, 3, 4, 5, 6, 7, 0] rfl ?_
        exact hb
      · replace hb := hb.2 hc
        refine pz_aload_n (pc' := 108) (x := l0) 0 rfl (pz_dc dX10_marks 62 rfl) rfl ?_
        refine pz_getR (M := mX10_marks) hb fX10_48 (pc' := 111) rfl (pz_dc dX10_marks 63 rfl) (fun a11 hb => ?_)
        refine pz_iload_n (pc' := 112) (x := l1) 1 rfl (pz_dc dX10_marks 64 rfl) rfl ?_
        refine pz_ldI hb (pc' := 113) rfl (pz_dc dX10_marks 65 rfl) (fun x12 hb => ?_)
        refine pz_istore (pc' := 115) (lv' := [(4, .int x12), (0, .ref l0), (1, .int l1), (2, .int l2), (3, .int l3), (5, .int l5), (6, .int l6), (7, .int l7)]) rfl (pz_dc dX10_marks 66 rfl) (by decide) rfl ?_
        refine pz_iload (pc' := 117) (x := l7) 7 rfl (pz_dc dX10_marks 67 rfl) rfl ?_
        refine pz_istore (pc' := 119) (lv' := [(6, .int l7), (4, .int x12), (0, .ref l0), (1, .int l1), (2, .int l2), (3, .int l3), (5, .int l5), (7, .int l7)]) rfl (pz_dc dX10_marks 68 rfl) (by decide) rfl ?_
        refine pz_iinc (pc' := 122) (x := l7) (v := l7 + (1 : Int32)) (lv' := [(7, .int (l7 + (1 : Int32))), (6, .int l7), (4, .int x12), (0, .ref l0), (1, .int l1), (2, .int l2), (3, .int l3), (5, .int l5)]) 7 rfl (pz_dc dX10_marks 69 rfl) rfl rfl (by decide) rfl ?_
        refine pz_goto (pc' := 61) (pz_dc dX10_marks 70 rfl) (by decide) ?_
        refine pz_lv (lv' := [(0, .ref l0), (1, .int l1), (2, .int l2), (3, .int l3), (4, .int x12), (5, .int l5), (6, .int l7), (7, .int (l7 + (1 : Int32)))]) [3, 4, 5, 6, 2, 7, 1, 0] rfl ?_
        exact hb
    · replace hb := hb.2 hc
      refine pz_aload_n (pc' := 86) (x := l0) 0 rfl (pz_dc dX10_marks 49 rfl) rfl ?_
      refine pz_getR (M := mX10_marks) hb fX10_48 (pc' := 89) rfl (pz_dc dX10_marks 50 rfl) (fun a13 hb => ?_)
      refine pz_iload_n (pc' := 90) (x := l1) 1 rfl (pz_dc dX10_marks 51 rfl) rfl ?_
      refine pz_ldI hb (pc' := 91) rfl (pz_dc dX10_marks 52 rfl) (fun x14 hb => ?_)
      refine pz_istore_n (pc' := 92) (lv' := [(3, .int x14), (0, .ref l0), (1, .int l1), (2, .int l2), (4, .int l4), (5, .int l5), (6, .int l6), (7, .int l7)]) rfl (pz_dc dX10_marks 53 rfl) (by decide) rfl ?_
      refine pz_iload (pc' := 94) (x := l7) 7 rfl (pz_dc dX10_marks 54 rfl) rfl ?_
      refine pz_istore (pc' := 96) (lv' := [(5, .int l7), (3, .int x14), (0, .ref l0), (1, .int l1), (2, .int l2), (4, .int l4), (6, .int l6), (7, .int l7)]) rfl (pz_dc dX10_marks 55 rfl) (by decide) rfl ?_
      refine pz_aload_n (pc' := 97) (x := l0) 2 rfl (pz_dc dX10_marks 56 rfl) rfl ?_
      refine pz_getR (M := mX10_marks) hb fX10_48 (pc' := 100) rfl (pz_dc dX10_marks 57 rfl) (fun a15 hb => ?_)
      refine pz_iload_n (pc' := 101) (x := l1) 3 rfl (pz_dc dX10_marks 58 rfl) rfl ?_
      refine pz_ldI hb (pc' := 102) rfl (pz_dc dX10_marks 59 rfl) (fun x16 hb => ?_)
      refine pz_iload (pc' := 104) (x := l4) 5 rfl (pz_dc dX10_marks 60 rfl) rfl ?_
      refine pz_icmp_le (pc' := 107) (tgt := 119) rfl (pz_dc dX10_marks 61 rfl) (by decide) (fun hc => ?_) (fun hc => ?_)
      · replace hb := hb.1 hc
        refine pz_iinc (pc' := 122) (x := l7) (v := l7 + (1 : Int32)) (lv' := [(7, .int (l7 + (1 : Int32))), (5, .int l7), (3, .int x14), (0, .ref l0), (1, .int l1), (2, .int l2), (4, .int l4), (6, .int l6)]) 7 rfl (pz_dc dX10_marks 69 rfl) rfl rfl (by decide) rfl ?_
        refine pz_goto (pc' := 61) (pz_dc dX10_marks 70 rfl) (by decide) ?_
        refine pz_lv (lv' := [(0, .ref l0), (1, .int l1), (2, .int l2), (3, .int x14), (4, .int l4), (5, .int l7), (6, .int l6), (7, .int (l7 + (1 : Int32)))]) [3, 4, 5, 2, 6, 1, 7, 0] rfl ?_
        exact hb
      · replace hb := hb.2 hc
        refine pz_aload_n (pc' := 108) (x := l0) 2 rfl (pz_dc dX10_marks 62 rfl) rfl ?_
        refine pz_getR (M := mX10_marks) hb fX10_48 (pc' := 111) rfl (pz_dc dX10_marks 63 rfl) (fun a17 hb => ?_)
        refine pz_iload_n (pc' := 112) (x := l1) 3 rfl (pz_dc dX10_marks 64 rfl) rfl ?_
        refine pz_ldI hb (pc' := 113) rfl (pz_dc dX10_marks 65 rfl) (fun x18 hb => ?_)
        refine pz_istore (pc' := 115) (lv' := [(4, .int x18), (5, .int l7), (3, .int x14), (0, .ref l0), (1, .int l1), (2, .int l2), (6, .int l6), (7, .int l7)]) rfl (pz_dc dX10_marks 66 rfl) (by decide) rfl ?_
        refine pz_iload (pc' := 117) (x := l7) 7 rfl (pz_dc dX10_marks 67 rfl) rfl ?_
        refine pz_istore (pc' := 119) (lv' := [(6, .int l7), (4, .int x18), (5, .int l7), (3, .int x14), (0, .ref l0), (1, .int l1), (2, .int l2), (7, .int l7)]) rfl (pz_dc dX10_marks 68 rfl) (by decide) rfl ?_
        refine pz_iinc (pc' := 122) (x := l7) (v := l7 + (1 : Int32)) (lv' := [(7, .int (l7 + (1 : Int32))), (6, .int l7), (4, .int x18), (5, .int l7), (3, .int x14), (0, .ref l0), (1, .int l1), (2, .int l2)]) 7 rfl (pz_dc dX10_marks 69 rfl) rfl rfl (by decide) rfl ?_
        refine pz_goto (pc' := 61) (pz_dc dX10_marks 70 rfl) (by decide) ?_
        refine pz_lv (lv' := [(0, .ref l0), (1, .int l1), (2, .int l2), (3, .int x14), (4, .int x18), (5, .int l7), (6, .int l7), (7, .int (l7 + (1 : Int32)))]) [5, 6, 7, 4, 2, 3, 1, 0] rfl ?_
        exact hb
set_option maxRecDepth 20000 in
set_option maxHeartbeats 4000000 in
theorem wX10_ownOf_0 {Ex : State → Nat → Prop} {Q : Option Value → pz_H → Prop} {d bc bs : Nat} {l0 : Nat} {l1 : Nat} {l2 : Int32}  {h : pz_H}  (hb : pz_V mX10_ownOf Ex Q d bc bs 5 [(0, .ref l0), (1, .ref l1), (2, .int l2), (3, .int 0), (4, .int 0)] [] h) : pz_V mX10_ownOf Ex Q d bc bs 0 [(0, .ref l0), (1, .ref l1), (2, .int l2)] [] h := by
  refine pz_iconst (pc' := 1) (v := 0) rfl (pz_dc dX10_ownOf 0 rfl) ki_0 ?_
  refine pz_istore_n (pc' := 2) (lv' := [(3, .int 0), (0, .ref l0), (1, .ref l1), (2, .int l2)]) rfl (pz_dc dX10_ownOf 1 rfl) (by decide) rfl ?_
  refine pz_iconst (pc' := 3) (v := 0) rfl (pz_dc dX10_ownOf 2 rfl) ki_0 ?_
  refine pz_istore (pc' := 5) (lv' := [(4, .int 0), (3, .int 0), (0, .ref l0), (1, .ref l1), (2, .int l2)]) rfl (pz_dc dX10_ownOf 3 rfl) (by decide) rfl ?_
  refine pz_lv (lv' := [(0, .ref l0), (1, .ref l1), (2, .int l2), (3, .int 0), (4, .int 0)]) [2, 3, 4, 1, 0] rfl ?_
  exact hb
set_option maxRecDepth 20000 in
set_option maxHeartbeats 4000000 in
theorem wX10_ownOf_5 {Ex : State → Nat → Prop} {Q : Option Value → pz_H → Prop} {d bc bs : Nat} {l0 : Nat} {l1 : Nat} {l2 : Int32} {l3 : Int32} {l4 : Int32}  {h : pz_H}  (hb : pz_gI h l0 10 1 (fun (x1 : Int32) => (x1 ≤ l4 → Q (some (.int l3)) h) ∧ (¬ x1 ≤ l4 → pz_rI h l1 (((24 : Int32)) + l4) (fun (x2 : Int32) => (¬ x2 = l2 → pz_V mX10_ownOf Ex Q d bc bs 5 [(0, .ref l0), (1, .ref l1), (2, .int l2), (3, .int (l3 ||| ((0 : Int32)))), (4, .int (l4 + (1 : Int32)))] [] h) ∧ (x2 = l2 → pz_V mX10_ownOf Ex Q d bc bs 5 [(0, .ref l0), (1, .ref l1), (2, .int l2), (3, .int (l3 ||| (((1 : Int32)) <<< (l4 &&& 31)))), (4, .int (l4 + (1 : Int32)))] [] h))))) : pz_V mX10_ownOf Ex Q d bc bs 5 [(0, .ref l0), (1, .ref l1), (2, .int l2), (3, .int l3), (4, .int l4)] [] h := by
  refine pz_iload (pc' := 7) (x := l4) 4 rfl (pz_dc dX10_ownOf 4 rfl) rfl ?_
  refine pz_aload_n (pc' := 8) (x := l0) 0 rfl (pz_dc dX10_ownOf 5 rfl) rfl ?_
  refine pz_getI (M := mX10_ownOf) hb fX10_101 (pc' := 11) rfl (pz_dc dX10_ownOf 6 rfl) (fun x1 hb => ?_)
  refine pz_icmp_ge (pc' := 14) (tgt := 42) rfl (pz_dc dX10_ownOf 7 rfl) (by decide) (fun hc => ?_) (fun hc => ?_)
  · replace hb := hb.1 hc
    refine pz_iload_n (pc' := 43) (x := l3) 3 rfl (pz_dc dX10_ownOf 25 rfl) rfl ?_
    exact pz_iret (pz_dc dX10_ownOf 26 rfl) rfl hb
  · replace hb := hb.2 hc
    refine pz_iload_n (pc' := 15) (x := l3) 3 rfl (pz_dc dX10_ownOf 8 rfl) rfl ?_
    refine pz_aload_n (pc' := 16) (x := l1) 1 rfl (pz_dc dX10_ownOf 9 rfl) rfl ?_
    refine pz_bipush (pc' := 18) (v := 24) rfl (pz_dc dX10_ownOf 10 rfl) kb_24 ?_
    refine pz_iload (pc' := 20) (x := l4) 4 rfl (pz_dc dX10_ownOf 11 rfl) rfl ?_
    refine pz_iadd (pc' := 21) rfl (pz_dc dX10_ownOf 12 rfl) ?_
    refine pz_ldI hb (pc' := 22) rfl (pz_dc dX10_ownOf 13 rfl) (fun x2 hb => ?_)
    refine pz_iload_n (pc' := 23) (x := l2) 2 rfl (pz_dc dX10_ownOf 14 rfl) rfl ?_
    refine pz_icmp_ne (pc' := 26) (tgt := 33) rfl (pz_dc dX10_ownOf 15 rfl) (by decide) (fun hc => ?_) (fun hc => ?_)
    · replace hb := hb.1 hc
      refine pz_iconst (pc' := 34) (v := 0) rfl (pz_dc dX10_ownOf 20 rfl) ki_0 ?_
      refine pz_ior (pc' := 35) rfl (pz_dc dX10_ownOf 21 rfl) ?_
      refine pz_istore_n (pc' := 36) (lv' := [(3, .int (l3 ||| ((0 : Int32)))), (0, .ref l0), (1, .ref l1), (2, .int l2), (4, .int l4)]) rfl (pz_dc dX10_ownOf 22 rfl) (by decide) rfl ?_
      refine pz_iinc (pc' := 39) (x := l4) (v := l4 + (1 : Int32)) (lv' := [(4, .int (l4 + (1 : Int32))), (3, .int (l3 ||| ((0 : Int32)))), (0, .ref l0), (1, .ref l1), (2, .int l2)]) 4 rfl (pz_dc dX10_ownOf 23 rfl) rfl rfl (by decide) rfl ?_
      refine pz_goto (pc' := 5) (pz_dc dX10_ownOf 24 rfl) (by decide) ?_
      refine pz_lv (lv' := [(0, .ref l0), (1, .ref l1), (2, .int l2), (3, .int (l3 ||| ((0 : Int32)))), (4, .int (l4 + (1 : Int32)))]) [2, 3, 4, 1, 0] rfl ?_
      exact hb
    · replace hb := hb.2 hc
      refine pz_iconst (pc' := 27) (v := 1) rfl (pz_dc dX10_ownOf 16 rfl) ki_1 ?_
      refine pz_iload (pc' := 29) (x := l4) 4 rfl (pz_dc dX10_ownOf 17 rfl) rfl ?_
      refine pz_ishl (pc' := 30) rfl (pz_dc dX10_ownOf 18 rfl) ?_
      refine pz_goto (pc' := 34) (pz_dc dX10_ownOf 19 rfl) (by decide) ?_
      refine pz_ior (pc' := 35) rfl (pz_dc dX10_ownOf 21 rfl) ?_
      refine pz_istore_n (pc' := 36) (lv' := [(3, .int (l3 ||| (((1 : Int32)) <<< (l4 &&& 31)))), (0, .ref l0), (1, .ref l1), (2, .int l2), (4, .int l4)]) rfl (pz_dc dX10_ownOf 22 rfl) (by decide) rfl ?_
      refine pz_iinc (pc' := 39) (x := l4) (v := l4 + (1 : Int32)) (lv' := [(4, .int (l4 + (1 : Int32))), (3, .int (l3 ||| (((1 : Int32)) <<< (l4 &&& 31)))), (0, .ref l0), (1, .ref l1), (2, .int l2)]) 4 rfl (pz_dc dX10_ownOf 23 rfl) rfl rfl (by decide) rfl ?_
      refine pz_goto (pc' := 5) (pz_dc dX10_ownOf 24 rfl) (by decide) ?_
      refine pz_lv (lv' := [(0, .ref l0), (1, .ref l1), (2, .int l2), (3, .int (l3 ||| (((1 : Int32)) <<< (l4 &&& 31)))), (4, .int (l4 + (1 : Int32)))]) [2, 3, 4, 1, 0] rfl ?_
      exact hb
set_option maxRecDepth 20000 in
set_option maxHeartbeats 4000000 in
theorem wX10_levelOf_0 {Ex : State → Nat → Prop} {Q : Option Value → pz_H → Prop} {d bc bs : Nat} {l0 : Nat} {l1 : Nat} {l2 : Int32}  {h : pz_H} (hD : 1 ≤ d) (hb : pz_V mX10_levelOf Ex Q d bc bs 5 [(0, .ref l0), (1, .ref l1), (2, .int l2), (3, .int 0), (4, .int 0)] [] h) : pz_V mX10_levelOf Ex Q d bc bs 0 [(0, .ref l0), (1, .ref l1), (2, .int l2)] [] h := by
  refine pz_iconst (pc' := 1) (v := 0) rfl (pz_dc dX10_levelOf 0 rfl) ki_0 ?_
  refine pz_istore_n (pc' := 2) (lv' := [(3, .int 0), (0, .ref l0), (1, .ref l1), (2, .int l2)]) rfl (pz_dc dX10_levelOf 1 rfl) (by decide) rfl ?_
  refine pz_iconst (pc' := 3) (v := 0) rfl (pz_dc dX10_levelOf 2 rfl) ki_0 ?_
  refine pz_istore (pc' := 5) (lv' := [(4, .int 0), (3, .int 0), (0, .ref l0), (1, .ref l1), (2, .int l2)]) rfl (pz_dc dX10_levelOf 3 rfl) (by decide) rfl ?_
  refine pz_lv (lv' := [(0, .ref l0), (1, .ref l1), (2, .int l2), (3, .int 0), (4, .int 0)]) [2, 3, 4, 1, 0] rfl ?_
  exact hb
set_option maxRecDepth 20000 in
set_option maxHeartbeats 4000000 in
theorem wX10_levelOf_5 {Ex : State → Nat → Prop} {Q : Option Value → pz_H → Prop} {d bc bs : Nat} {l0 : Nat} {l1 : Nat} {l2 : Int32} {l3 : Int32} {l4 : Int32}  {h : pz_H} (hD : 1 ≤ d) (hb : pz_gI h l0 10 1 (fun (x1 : Int32) => (x1 ≤ l4 → Q (some (.int l3)) h) ∧ (¬ x1 ≤ l4 → ((eX10_has l2 l4) = 0 → pz_V mX10_levelOf Ex Q d bc bs 5 [(0, .ref l0), (1, .ref l1), (2, .int l2), (3, .int (l3 + ((0 : Int32)))), (4, .int (l4 + (1 : Int32)))] [] h) ∧ (¬ (eX10_has l2 l4) = 0 → pz_rI h l1 l4 (fun (x2 : Int32) => pz_V mX10_levelOf Ex Q d bc bs 5 [(0, .ref l0), (1, .ref l1), (2, .int l2), (3, .int (l3 + x2)), (4, .int (l4 + (1 : Int32)))] [] h))))) : pz_V mX10_levelOf Ex Q d bc bs 5 [(0, .ref l0), (1, .ref l1), (2, .int l2), (3, .int l3), (4, .int l4)] [] h := by
  refine pz_iload (pc' := 7) (x := l4) 4 rfl (pz_dc dX10_levelOf 4 rfl) rfl ?_
  refine pz_aload_n (pc' := 8) (x := l0) 0 rfl (pz_dc dX10_levelOf 5 rfl) rfl ?_
  refine pz_getI (M := mX10_levelOf) hb fX10_101 (pc' := 11) rfl (pz_dc dX10_levelOf 6 rfl) (fun x1 hb => ?_)
  refine pz_icmp_ge (pc' := 14) (tgt := 40) rfl (pz_dc dX10_levelOf 7 rfl) (by decide) (fun hc => ?_) (fun hc => ?_)
  · replace hb := hb.1 hc
    refine pz_iload_n (pc' := 41) (x := l3) 3 rfl (pz_dc dX10_levelOf 22 rfl) rfl ?_
    exact pz_iret (pz_dc dX10_levelOf 23 rfl) rfl hb
  · replace hb := hb.2 hc
    refine pz_iload_n (pc' := 15) (x := l3) 3 rfl (pz_dc dX10_levelOf 8 rfl) rfl ?_
    refine pz_iload_n (pc' := 16) (x := l2) 2 rfl (pz_dc dX10_levelOf 9 rfl) rfl ?_
    refine pz_iload (pc' := 18) (x := l4) 4 rfl (pz_dc dX10_levelOf 10 rfl) rfl ?_
    refine pz_callS (M := mX10_levelOf) (N := mX10_has) (d' := 0) (bc1 := 0) (bs1 := 0) (bc2 := bc) (bs2 := bs) (pc' := 21) [.int l2, .int l4] sX10_277 rfl (pz_dc dX10_levelOf 11 rfl) rfl (Nat.le_of_ble_eq_true rfl) (Nat.le_of_ble_eq_true rfl) rfl (by omega) (by omega) (by omega) ?_
    refine cX10_has ?_
    show pz_V mX10_levelOf _ _ _ _ _ 21 [(0, .ref l0), (1, .ref l1), (2, .int l2), (3, .int l3), (4, .int l4)] [.int (eX10_has l2 l4), .int l3] h
    refine pz_if_eq (pc' := 24) (tgt := 31) rfl (pz_dc dX10_levelOf 12 rfl) (by decide) (fun hc => ?_) (fun hc => ?_)
    · replace hb := hb.1 hc
      refine pz_iconst (pc' := 32) (v := 0) rfl (pz_dc dX10_levelOf 17 rfl) ki_0 ?_
      refine pz_iadd (pc' := 33) rfl (pz_dc dX10_levelOf 18 rfl) ?_
      refine pz_istore_n (pc' := 34) (lv' := [(3, .int (l3 + ((0 : Int32)))), (0, .ref l0), (1, .ref l1), (2, .int l2), (4, .int l4)]) rfl (pz_dc dX10_levelOf 19 rfl) (by decide) rfl ?_
      refine pz_iinc (pc' := 37) (x := l4) (v := l4 + (1 : Int32)) (lv' := [(4, .int (l4 + (1 : Int32))), (3, .int (l3 + ((0 : Int32)))), (0, .ref l0), (1, .ref l1), (2, .int l2)]) 4 rfl (pz_dc dX10_levelOf 20 rfl) rfl rfl (by decide) rfl ?_
      refine pz_goto (pc' := 5) (pz_dc dX10_levelOf 21 rfl) (by decide) ?_
      refine pz_lv (lv' := [(0, .ref l0), (1, .ref l1), (2, .int l2), (3, .int (l3 + ((0 : Int32)))), (4, .int (l4 + (1 : Int32)))]) [2, 3, 4, 1, 0] rfl ?_
      exact hb
    · replace hb := hb.2 hc
      refine pz_aload_n (pc' := 25) (x := l1) 1 rfl (pz_dc dX10_levelOf 13 rfl) rfl ?_
      refine pz_iload (pc' := 27) (x := l4) 4 rfl (pz_dc dX10_levelOf 14 rfl) rfl ?_
      refine pz_ldI hb (pc' := 28) rfl (pz_dc dX10_levelOf 15 rfl) (fun x2 hb => ?_)
      refine pz_goto (pc' := 32) (pz_dc dX10_levelOf 16 rfl) (by decide) ?_
      refine pz_iadd (pc' := 33) rfl (pz_dc dX10_levelOf 18 rfl) ?_
      refine pz_istore_n (pc' := 34) (lv' := [(3, .int (l3 + x2)), (0, .ref l0), (1, .ref l1), (2, .int l2), (4, .int l4)]) rfl (pz_dc dX10_levelOf 19 rfl) (by decide) rfl ?_
      refine pz_iinc (pc' := 37) (x := l4) (v := l4 + (1 : Int32)) (lv' := [(4, .int (l4 + (1 : Int32))), (3, .int (l3 + x2)), (0, .ref l0), (1, .ref l1), (2, .int l2)]) 4 rfl (pz_dc dX10_levelOf 20 rfl) rfl rfl (by decide) rfl ?_
      refine pz_goto (pc' := 5) (pz_dc dX10_levelOf 21 rfl) (by decide) ?_
      refine pz_lv (lv' := [(0, .ref l0), (1, .ref l1), (2, .int l2), (3, .int (l3 + x2)), (4, .int (l4 + (1 : Int32)))]) [2, 3, 4, 1, 0] rfl ?_
      exact hb
set_option maxRecDepth 20000 in
set_option maxHeartbeats 4000000 in
theorem wX10_realm_0 {Ex : State → Nat → Prop} {Q : Option Value → pz_H → Prop} {d bc bs : Nat} {l0 : Nat} {l1 : Int32}  {h : pz_H} (hD : 2 ≤ d) (hb : pz_pF h l0 10 9 (.int 0) (fun (h1 : pz_H) => (¬ (eX10_isKing l1) = 0 → pz_gR h1 l0 10 0 (fun (a2 : Nat) => pz_is h1 l0 10 ∧ (pz_ki mX10_ownOf 0 0 0 (.ref l0 :: [.ref a2, .int l1]) h1 (fun (x4 : Int32) (h3 : pz_H) => pz_V mX10_realm Ex Q d bc bs 29 [(0, .ref l0), (2, .int x4), (3, .int 0), (4, .int 0)] [] h3)))) ∧ ((eX10_isKing l1) = 0 → Q (some (.int ((-1)))) h1))) : pz_V mX10_realm Ex Q d bc bs 0 [(0, .ref l0), (1, .int l1)] [] h := by
  refine pz_aload_n (pc' := 1) (x := l0) 0 rfl (pz_dc dX10_realm 0 rfl) rfl ?_
  refine pz_iconst (pc' := 2) (v := 0) rfl (pz_dc dX10_realm 1 rfl) ki_0 ?_
  refine pz_putv (M := mX10_realm) hb (pX10_95 _ rfl) rfl rfl (pc' := 5) rfl (pz_dc dX10_realm 2 rfl) (fun h1 hb => ?_)
  refine pz_iload_n (pc' := 6) (x := l1) 1 rfl (pz_dc dX10_realm 3 rfl) rfl ?_
  refine pz_callS (M := mX10_realm) (N := mX10_isKing) (d' := 1) (bc1 := 0) (bs1 := 0) (bc2 := bc) (bs2 := bs) (pc' := 9) [.int l1] sX10_281 rfl (pz_dc dX10_realm 4 rfl) rfl (Nat.le_of_ble_eq_true rfl) (Nat.le_of_ble_eq_true rfl) rfl (by omega) (by omega) (by omega) ?_
  refine cX10_isKing ?_
  show pz_V mX10_realm _ _ _ _ _ 9 [(0, .ref l0), (1, .int l1)] [.int (eX10_isKing l1)] h1
  refine pz_if_ne (pc' := 12) (tgt := 14) rfl (pz_dc dX10_realm 5 rfl) (by decide) (fun hc => ?_) (fun hc => ?_)
  · replace hb := hb.1 hc
    refine pz_aload_n (pc' := 15) (x := l0) 0 rfl (pz_dc dX10_realm 8 rfl) rfl ?_
    refine pz_aload_n (pc' := 16) (x := l0) 0 rfl (pz_dc dX10_realm 9 rfl) rfl ?_
    refine pz_getR (M := mX10_realm) hb fX10_9 (pc' := 19) rfl (pz_dc dX10_realm 10 rfl) (fun a2 hb => ?_)
    refine pz_iload_n (pc' := 20) (x := l1) 1 rfl (pz_dc dX10_realm 11 rfl) rfl ?_
    refine pz_cVi (M := mX10_realm) (N := mX10_ownOf) (d' := 0) (bc1 := 0) (bs1 := 0) (bc2 := bc) (bs2 := bs) (pc' := 23) [.ref a2, .int l1] hb vX10_284 rfl (pz_dc dX10_realm 12 rfl) rfl (Nat.le_of_ble_eq_true rfl) (Nat.le_of_ble_eq_true rfl) rfl (by omega) (by omega) (by omega) (fun x4 h3 hb => ?_)
    refine pz_istore_n (pc' := 24) (lv' := [(2, .int x4), (0, .ref l0), (1, .int l1)]) rfl (pz_dc dX10_realm 13 rfl) (by decide) rfl ?_
    refine pz_iconst (pc' := 25) (v := 0) rfl (pz_dc dX10_realm 14 rfl) ki_0 ?_
    refine pz_istore_n (pc' := 26) (lv' := [(3, .int 0), (2, .int x4), (0, .ref l0), (1, .int l1)]) rfl (pz_dc dX10_realm 15 rfl) (by decide) rfl ?_
    refine pz_iconst (pc' := 27) (v := 0) rfl (pz_dc dX10_realm 16 rfl) ki_0 ?_
    refine pz_istore (pc' := 29) (lv' := [(4, .int 0), (3, .int 0), (2, .int x4), (0, .ref l0), (1, .int l1)]) rfl (pz_dc dX10_realm 17 rfl) (by decide) rfl ?_
    refine pz_lv (lv' := [(0, .ref l0), (2, .int x4), (3, .int 0), (4, .int 0)]) [3, 2, 1, 0] rfl ?_
    exact hb
  · replace hb := hb.2 hc
    refine pz_iconst (pc' := 13) (v := (-1)) rfl (pz_dc dX10_realm 6 rfl) ki_m1 ?_
    exact pz_iret (pz_dc dX10_realm 7 rfl) rfl hb
set_option maxRecDepth 20000 in
set_option maxHeartbeats 4000000 in
theorem wX10_realm_29 {Ex : State → Nat → Prop} {Q : Option Value → pz_H → Prop} {d bc bs : Nat} {l0 : Nat} {l2 : Int32} {l3 : Int32} {l4 : Int32}  {h : pz_H} (hD : 2 ≤ d) (hb : pz_gI h l0 10 1 (fun (x1 : Int32) => (x1 ≤ l4 → pz_pF h l0 10 8 (.int 0) (fun (h2 : pz_H) => pz_gR h2 l0 10 0 (fun (a3 : Nat) => pz_is h2 l0 10 ∧ (pz_ki mX10_levelOf 1 0 0 (.ref l0 :: [.ref a3, .int l2]) h2 (fun (x5 : Int32) (h4 : pz_H) => pz_is h4 l0 10 ∧ (pz_kv mX10_tell 0 0 0 (.ref l0 :: [.long x5.toInt64]) h4 (fun (h6 : pz_H) => pz_is h6 l0 10 ∧ (pz_kv mX10_tell 0 0 0 (.ref l0 :: [.long l3.toInt64]) h6 (fun (h7 : pz_H) => Q (some (.int l2)) h7))))))))) ∧ (¬ x1 ≤ l4 → ((eX10_has l2 l4) = 0 → pz_V mX10_realm Ex Q d bc bs 29 [(0, .ref l0), (2, .int l2), (3, .int (l3 + ((0 : Int32)))), (4, .int (l4 + (1 : Int32)))] [] h) ∧ (¬ (eX10_has l2 l4) = 0 → pz_gR h l0 10 2 (fun (a8 : Nat) => pz_rI h a8 l4 (fun (x9 : Int32) => pz_V mX10_realm Ex Q d bc bs 29 [(0, .ref l0), (2, .int l2), (3, .int (l3 + x9)), (4, .int (l4 + (1 : Int32)))] [] h)))))) : pz_V mX10_realm Ex Q d bc bs 29 [(0, .ref l0), (2, .int l2), (3, .int l3), (4, .int l4)] [] h := by
  refine pz_iload (pc' := 31) (x := l4) 3 rfl (pz_dc dX10_realm 18 rfl) rfl ?_
  refine pz_aload_n (pc' := 32) (x := l0) 0 rfl (pz_dc dX10_realm 19 rfl) rfl ?_
  refine pz_getI (M := mX10_realm) hb fX10_101 (pc' := 35) rfl (pz_dc dX10_realm 20 rfl) (fun x1 hb => ?_)
  refine pz_icmp_ge (pc' := 38) (tgt := 67) rfl (pz_dc dX10_realm 21 rfl) (by decide) (fun hc => ?_) (fun hc => ?_)
  · replace hb := hb.1 hc
    refine pz_aload_n (pc' := 68) (x := l0) 0 rfl (pz_dc dX10_realm 37 rfl) rfl ?_
    refine pz_iconst (pc' := 69) (v := 0) rfl (pz_dc dX10_realm 38 rfl) ki_0 ?_
    refine pz_putv (M := mX10_realm) hb (pX10_98 _ rfl) rfl rfl (pc' := 72) rfl (pz_dc dX10_realm 39 rfl) (fun h2 hb => ?_)
    refine pz_aload_n (pc' := 73) (x := l0) 0 rfl (pz_dc dX10_realm 40 rfl) rfl ?_
    refine pz_aload_n (pc' := 74) (x := l0) 0 rfl (pz_dc dX10_realm 41 rfl) rfl ?_
    refine pz_aload_n (pc' := 75) (x := l0) 0 rfl (pz_dc dX10_realm 42 rfl) rfl ?_
    refine pz_getR (M := mX10_realm) hb fX10_9 (pc' := 78) rfl (pz_dc dX10_realm 43 rfl) (fun a3 hb => ?_)
    refine pz_iload_n (pc' := 79) (x := l2) 1 rfl (pz_dc dX10_realm 44 rfl) rfl ?_
    refine pz_cVi (M := mX10_realm) (N := mX10_levelOf) (d' := 1) (bc1 := 0) (bs1 := 0) (bc2 := bc) (bs2 := bs) (pc' := 82) [.ref a3, .int l2] hb vX10_287 rfl (pz_dc dX10_realm 45 rfl) rfl (Nat.le_of_ble_eq_true rfl) (Nat.le_of_ble_eq_true rfl) rfl (by omega) (by omega) (by omega) (fun x5 h4 hb => ?_)
    refine pz_i2l (pc' := 83) rfl (pz_dc dX10_realm 46 rfl) ?_
    refine pz_cVv (M := mX10_realm) (N := mX10_tell) (d' := 0) (bc1 := 0) (bs1 := 0) (bc2 := bc) (bs2 := bs) (pc' := 86) [.long x5.toInt64] hb vX10_248 rfl (pz_dc dX10_realm 47 rfl) rfl (Nat.le_of_ble_eq_true rfl) (Nat.le_of_ble_eq_true rfl) rfl (by omega) (by omega) (by omega) (fun h6 hb => ?_)
    refine pz_aload_n (pc' := 87) (x := l0) 0 rfl (pz_dc dX10_realm 48 rfl) rfl ?_
    refine pz_iload_n (pc' := 88) (x := l3) 2 rfl (pz_dc dX10_realm 49 rfl) rfl ?_
    refine pz_i2l (pc' := 89) rfl (pz_dc dX10_realm 50 rfl) ?_
    refine pz_cVv (M := mX10_realm) (N := mX10_tell) (d' := 0) (bc1 := 0) (bs1 := 0) (bc2 := bc) (bs2 := bs) (pc' := 92) [.long l3.toInt64] hb vX10_248 rfl (pz_dc dX10_realm 51 rfl) rfl (Nat.le_of_ble_eq_true rfl) (Nat.le_of_ble_eq_true rfl) rfl (by omega) (by omega) (by omega) (fun h7 hb => ?_)
    refine pz_iload_n (pc' := 93) (x := l2) 1 rfl (pz_dc dX10_realm 52 rfl) rfl ?_
    exact pz_iret (pz_dc dX10_realm 53 rfl) rfl hb
  · replace hb := hb.2 hc
    refine pz_iload_n (pc' := 39) (x := l3) 2 rfl (pz_dc dX10_realm 22 rfl) rfl ?_
    refine pz_iload_n (pc' := 40) (x := l2) 1 rfl (pz_dc dX10_realm 23 rfl) rfl ?_
    refine pz_iload (pc' := 42) (x := l4) 3 rfl (pz_dc dX10_realm 24 rfl) rfl ?_
    refine pz_callS (M := mX10_realm) (N := mX10_has) (d' := 0) (bc1 := 0) (bs1 := 0) (bc2 := bc) (bs2 := bs) (pc' := 45) [.int l2, .int l4] sX10_277 rfl (pz_dc dX10_realm 25 rfl) rfl (Nat.le_of_ble_eq_true rfl) (Nat.le_of_ble_eq_true rfl) rfl (by omega) (by omega) (by omega) ?_
    refine cX10_has ?_
    show pz_V mX10_realm _ _ _ _ _ 45 [(0, .ref l0), (2, .int l2), (3, .int l3), (4, .int l4)] [.int (eX10_has l2 l4), .int l3] h
    refine pz_if_eq (pc' := 48) (tgt := 58) rfl (pz_dc dX10_realm 26 rfl) (by decide) (fun hc => ?_) (fun hc => ?_)
    · replace hb := hb.1 hc
      refine pz_iconst (pc' := 59) (v := 0) rfl (pz_dc dX10_realm 32 rfl) ki_0 ?_
      refine pz_iadd (pc' := 60) rfl (pz_dc dX10_realm 33 rfl) ?_
      refine pz_istore_n (pc' := 61) (lv' := [(3, .int (l3 + ((0 : Int32)))), (0, .ref l0), (2, .int l2), (4, .int l4)]) rfl (pz_dc dX10_realm 34 rfl) (by decide) rfl ?_
      refine pz_iinc (pc' := 64) (x := l4) (v := l4 + (1 : Int32)) (lv' := [(4, .int (l4 + (1 : Int32))), (3, .int (l3 + ((0 : Int32)))), (0, .ref l0), (2, .int l2)]) 3 rfl (pz_dc dX10_realm 35 rfl) rfl rfl (by decide) rfl ?_
      refine pz_goto (pc' := 29) (pz_dc dX10_realm 36 rfl) (by decide) ?_
      refine pz_lv (lv' := [(0, .ref l0), (2, .int l2), (3, .int (l3 + ((0 : Int32)))), (4, .int (l4 + (1 : Int32)))]) [2, 3, 1, 0] rfl ?_
      exact hb
    · replace hb := hb.2 hc
      refine pz_aload_n (pc' := 49) (x := l0) 0 rfl (pz_dc dX10_realm 27 rfl) rfl ?_
      refine pz_getR (M := mX10_realm) hb fX10_13 (pc' := 52) rfl (pz_dc dX10_realm 28 rfl) (fun a8 hb => ?_)
      refine pz_iload (pc' := 54) (x := l4) 3 rfl (pz_dc dX10_realm 29 rfl) rfl ?_
      refine pz_ldI hb (pc' := 55) rfl (pz_dc dX10_realm 30 rfl) (fun x9 hb => ?_)
      refine pz_goto (pc' := 59) (pz_dc dX10_realm 31 rfl) (by decide) ?_
      refine pz_iadd (pc' := 60) rfl (pz_dc dX10_realm 33 rfl) ?_
      refine pz_istore_n (pc' := 61) (lv' := [(3, .int (l3 + x9)), (0, .ref l0), (2, .int l2), (4, .int l4)]) rfl (pz_dc dX10_realm 34 rfl) (by decide) rfl ?_
      refine pz_iinc (pc' := 64) (x := l4) (v := l4 + (1 : Int32)) (lv' := [(4, .int (l4 + (1 : Int32))), (3, .int (l3 + x9)), (0, .ref l0), (2, .int l2)]) 3 rfl (pz_dc dX10_realm 35 rfl) rfl rfl (by decide) rfl ?_
      refine pz_goto (pc' := 29) (pz_dc dX10_realm 36 rfl) (by decide) ?_
      refine pz_lv (lv' := [(0, .ref l0), (2, .int l2), (3, .int (l3 + x9)), (4, .int (l4 + (1 : Int32)))]) [2, 3, 1, 0] rfl ?_
      exact hb
set_option maxRecDepth 20000 in
set_option maxHeartbeats 4000000 in
theorem wX10_course_0 {Ex : State → Nat → Prop} {Q : Option Value → pz_H → Prop} {d bc bs : Nat} {l0 : Nat} {l1 : Int32}  {h : pz_H} (hD : 2 ≤ d) (hb : pz_pF h l0 10 9 (.int 0) (fun (h1 : pz_H) => pz_is h1 l0 10 ∧ (pz_gI h1 l0 10 1 (fun (x2 : Int32) => (¬ (eX10_isLake l1 x2) = 0 → pz_pF h1 l0 10 8 (.int 0) (fun (h6 : pz_H) => pz_V mX10_course Ex Q d bc bs 22 [(0, .ref l0), (2, .int l1)] [] h6)) ∧ ((eX10_isLake l1 x2) = 0 → Q (some (.int ((-1)))) h1))))) : pz_V mX10_course Ex Q d bc bs 0 [(0, .ref l0), (1, .int l1)] [] h := by
  refine pz_aload_n (pc' := 1) (x := l0) 0 rfl (pz_dc dX10_course 0 rfl) rfl ?_
  refine pz_iconst (pc' := 2) (v := 0) rfl (pz_dc dX10_course 1 rfl) ki_0 ?_
  refine pz_putv (M := mX10_course) hb (pX10_95 _ rfl) rfl rfl (pc' := 5) rfl (pz_dc dX10_course 2 rfl) (fun h1 hb => ?_)
  refine pz_aload_n (pc' := 6) (x := l0) 0 rfl (pz_dc dX10_course 3 rfl) rfl ?_
  refine pz_iload_n (pc' := 7) (x := l1) 1 rfl (pz_dc dX10_course 4 rfl) rfl ?_
  obtain ⟨⟨fs7, hf8⟩, hb⟩ := hb
  obtain ⟨fs3, x2, g4, g5, hb⟩ := hb
  refine pz_callV (M := mX10_course) (N := mX10_isLake) (d' := 1) (bc1 := 0) (bs1 := 0) (bc2 := bc) (bs2 := bs) (pc' := 10) [.int l1] vX10_108 rfl (pz_dc dX10_course 5 rfl) rfl (Nat.le_of_ble_eq_true rfl) (Nat.le_of_ble_eq_true rfl) rfl (by omega) (by omega) (by omega) hf8 ?_
  refine cX10_isLake ⟨fs3, x2, g4, g5, ?_⟩
  show pz_V mX10_course _ _ _ _ _ 10 [(0, .ref l0), (1, .int l1)] [.int (eX10_isLake l1 x2)] h1
  refine pz_if_ne (pc' := 13) (tgt := 15) rfl (pz_dc dX10_course 6 rfl) (by decide) (fun hc => ?_) (fun hc => ?_)
  · replace hb := hb.1 hc
    refine pz_aload_n (pc' := 16) (x := l0) 0 rfl (pz_dc dX10_course 9 rfl) rfl ?_
    refine pz_iconst (pc' := 17) (v := 0) rfl (pz_dc dX10_course 10 rfl) ki_0 ?_
    refine pz_putv (M := mX10_course) hb (pX10_98 _ rfl) rfl rfl (pc' := 20) rfl (pz_dc dX10_course 11 rfl) (fun h6 hb => ?_)
    refine pz_iload_n (pc' := 21) (x := l1) 1 rfl (pz_dc dX10_course 12 rfl) rfl ?_
    refine pz_istore_n (pc' := 22) (lv' := [(2, .int l1), (0, .ref l0), (1, .int l1)]) rfl (pz_dc dX10_course 13 rfl) (by decide) rfl ?_
    refine pz_lv (lv' := [(0, .ref l0), (2, .int l1)]) [1, 0] rfl ?_
    exact hb
  · replace hb := hb.2 hc
    refine pz_iconst (pc' := 14) (v := (-1)) rfl (pz_dc dX10_course 7 rfl) ki_m1 ?_
    exact pz_iret (pz_dc dX10_course 8 rfl) rfl hb
set_option maxRecDepth 20000 in
set_option maxHeartbeats 4000000 in
theorem wX10_course_22 {Ex : State → Nat → Prop} {Q : Option Value → pz_H → Prop} {d bc bs : Nat} {l0 : Nat} {l2 : Int32}  {h : pz_H} (hD : 2 ≤ d) (hb : (l2 = ((-1 : Int32)) → pz_gI h l0 10 8 (fun (x1 : Int32) => Q (some (.int x1)) h)) ∧ (¬ l2 = ((-1 : Int32)) → pz_is h l0 10 ∧ (pz_kv mX10_tell 0 0 0 (.ref l0 :: [.long l2.toInt64]) h (fun (h2 : pz_H) => pz_gR h2 l0 10 4 (fun (a3 : Nat) => pz_rI h2 a3 l2 (fun (x4 : Int32) => pz_V mX10_course Ex Q d bc bs 22 [(0, .ref l0), (2, .int x4)] [] h2)))))) : pz_V mX10_course Ex Q d bc bs 22 [(0, .ref l0), (2, .int l2)] [] h := by
  refine pz_iload_n (pc' := 23) (x := l2) 1 rfl (pz_dc dX10_course 14 rfl) rfl ?_
  refine pz_iconst (pc' := 24) (v := (-1)) rfl (pz_dc dX10_course 15 rfl) ki_m1 ?_
  refine pz_icmp_eq (pc' := 27) (tgt := 43) rfl (pz_dc dX10_course 16 rfl) (by decide) (fun hc => ?_) (fun hc => ?_)
  · replace hb := hb.1 hc
    refine pz_aload_n (pc' := 44) (x := l0) 0 rfl (pz_dc dX10_course 27 rfl) rfl ?_
    refine pz_getI (M := mX10_course) hb fX10_98 (pc' := 47) rfl (pz_dc dX10_course 28 rfl) (fun x1 hb => ?_)
    exact pz_iret (pz_dc dX10_course 29 rfl) rfl hb
  · replace hb := hb.2 hc
    refine pz_aload_n (pc' := 28) (x := l0) 0 rfl (pz_dc dX10_course 17 rfl) rfl ?_
    refine pz_iload_n (pc' := 29) (x := l2) 1 rfl (pz_dc dX10_course 18 rfl) rfl ?_
    refine pz_i2l (pc' := 30) rfl (pz_dc dX10_course 19 rfl) ?_
    refine pz_cVv (M := mX10_course) (N := mX10_tell) (d' := 0) (bc1 := 0) (bs1 := 0) (bc2 := bc) (bs2 := bs) (pc' := 33) [.long l2.toInt64] hb vX10_248 rfl (pz_dc dX10_course 20 rfl) rfl (Nat.le_of_ble_eq_true rfl) (Nat.le_of_ble_eq_true rfl) rfl (by omega) (by omega) (by omega) (fun h2 hb => ?_)
    refine pz_aload_n (pc' := 34) (x := l0) 0 rfl (pz_dc dX10_course 21 rfl) rfl ?_
    refine pz_getR (M := mX10_course) hb fX10_19 (pc' := 37) rfl (pz_dc dX10_course 22 rfl) (fun a3 hb => ?_)
    refine pz_iload_n (pc' := 38) (x := l2) 1 rfl (pz_dc dX10_course 23 rfl) rfl ?_
    refine pz_ldI hb (pc' := 39) rfl (pz_dc dX10_course 24 rfl) (fun x4 hb => ?_)
    refine pz_istore_n (pc' := 40) (lv' := [(2, .int x4), (0, .ref l0)]) rfl (pz_dc dX10_course 25 rfl) (by decide) rfl ?_
    refine pz_goto (pc' := 22) (pz_dc dX10_course 26 rfl) (by decide) ?_
    refine pz_lv (lv' := [(0, .ref l0), (2, .int x4)]) [1, 0] rfl ?_
    exact hb
set_option maxRecDepth 20000 in
set_option maxHeartbeats 4000000 in
theorem wX10_basin_0 {Ex : State → Nat → Prop} {Q : Option Value → pz_H → Prop} {d bc bs : Nat} {l0 : Nat} {l1 : Int32}  {h : pz_H} (hD : 2 ≤ d) (hb : pz_pF h l0 10 9 (.int 0) (fun (h1 : pz_H) => pz_is h1 l0 10 ∧ (pz_gI h1 l0 10 1 (fun (x2 : Int32) => (¬ (eX10_isLake l1 x2) = 0 → pz_V mX10_basin Ex Q d bc bs 22 [(0, .ref l0), (1, .int l1), (2, .int 0), (3, .int 0), (4, .int 0)] [] h1) ∧ ((eX10_isLake l1 x2) = 0 → Q (some (.int ((-1)))) h1))))) : pz_V mX10_basin Ex Q d bc bs 0 [(0, .ref l0), (1, .int l1)] [] h := by
  refine pz_aload_n (pc' := 1) (x := l0) 0 rfl (pz_dc dX10_basin 0 rfl) rfl ?_
  refine pz_iconst (pc' := 2) (v := 0) rfl (pz_dc dX10_basin 1 rfl) ki_0 ?_
  refine pz_putv (M := mX10_basin) hb (pX10_95 _ rfl) rfl rfl (pc' := 5) rfl (pz_dc dX10_basin 2 rfl) (fun h1 hb => ?_)
  refine pz_aload_n (pc' := 6) (x := l0) 0 rfl (pz_dc dX10_basin 3 rfl) rfl ?_
  refine pz_iload_n (pc' := 7) (x := l1) 1 rfl (pz_dc dX10_basin 4 rfl) rfl ?_
  obtain ⟨⟨fs6, hf7⟩, hb⟩ := hb
  obtain ⟨fs3, x2, g4, g5, hb⟩ := hb
  refine pz_callV (M := mX10_basin) (N := mX10_isLake) (d' := 1) (bc1 := 0) (bs1 := 0) (bc2 := bc) (bs2 := bs) (pc' := 10) [.int l1] vX10_108 rfl (pz_dc dX10_basin 5 rfl) rfl (Nat.le_of_ble_eq_true rfl) (Nat.le_of_ble_eq_true rfl) rfl (by omega) (by omega) (by omega) hf7 ?_
  refine cX10_isLake ⟨fs3, x2, g4, g5, ?_⟩
  show pz_V mX10_basin _ _ _ _ _ 10 [(0, .ref l0), (1, .int l1)] [.int (eX10_isLake l1 x2)] h1
  refine pz_if_ne (pc' := 13) (tgt := 15) rfl (pz_dc dX10_basin 6 rfl) (by decide) (fun hc => ?_) (fun hc => ?_)
  · replace hb := hb.1 hc
    refine pz_iconst (pc' := 16) (v := 0) rfl (pz_dc dX10_basin 9 rfl) ki_0 ?_
    refine pz_istore_n (pc' := 17) (lv' := [(2, .int 0), (0, .ref l0), (1, .int l1)]) rfl (pz_dc dX10_basin 10 rfl) (by decide) rfl ?_
    refine pz_iconst (pc' := 18) (v := 0) rfl (pz_dc dX10_basin 11 rfl) ki_0 ?_
    refine pz_istore_n (pc' := 19) (lv' := [(3, .int 0), (2, .int 0), (0, .ref l0), (1, .int l1)]) rfl (pz_dc dX10_basin 12 rfl) (by decide) rfl ?_
    refine pz_iconst (pc' := 20) (v := 0) rfl (pz_dc dX10_basin 13 rfl) ki_0 ?_
    refine pz_istore (pc' := 22) (lv' := [(4, .int 0), (3, .int 0), (2, .int 0), (0, .ref l0), (1, .int l1)]) rfl (pz_dc dX10_basin 14 rfl) (by decide) rfl ?_
    refine pz_lv (lv' := [(0, .ref l0), (1, .int l1), (2, .int 0), (3, .int 0), (4, .int 0)]) [3, 4, 2, 1, 0] rfl ?_
    exact hb
  · replace hb := hb.2 hc
    refine pz_iconst (pc' := 14) (v := (-1)) rfl (pz_dc dX10_basin 7 rfl) ki_m1 ?_
    exact pz_iret (pz_dc dX10_basin 8 rfl) rfl hb
set_option maxRecDepth 20000 in
set_option maxHeartbeats 4000000 in
theorem wX10_basin_22 {Ex : State → Nat → Prop} {Q : Option Value → pz_H → Prop} {d bc bs : Nat} {l0 : Nat} {l1 : Int32} {l2 : Int32} {l3 : Int32} {l4 : Int32}  {h : pz_H} (hD : 2 ≤ d) (hb : pz_gI h l0 10 1 (fun (x1 : Int32) => (x1 ≤ l4 → pz_pF h l0 10 8 (.int 0) (fun (h2 : pz_H) => pz_gR h2 l0 10 0 (fun (a3 : Nat) => pz_is h2 l0 10 ∧ (pz_ki mX10_levelOf 1 0 0 (.ref l0 :: [.ref a3, .int l2]) h2 (fun (x5 : Int32) (h4 : pz_H) => pz_is h4 l0 10 ∧ (pz_kv mX10_tell 0 0 0 (.ref l0 :: [.long x5.toInt64]) h4 (fun (h6 : pz_H) => pz_is h6 l0 10 ∧ (pz_kv mX10_tell 0 0 0 (.ref l0 :: [.long l3.toInt64]) h6 (fun (h7 : pz_H) => Q (some (.int l2)) h7))))))))) ∧ (¬ x1 ≤ l4 → pz_gR h l0 10 4 (fun (a8 : Nat) => pz_rI h a8 l4 (fun (x9 : Int32) => (¬ x9 = l1 → pz_V mX10_basin Ex Q d bc bs 54 [(0, .ref l0), (1, .int l1), (2, .int l2), (3, .int (l3 + ((0 : Int32)))), (4, .int l4), (5, .int x9)] [] h) ∧ (x9 = l1 → pz_V mX10_basin Ex Q d bc bs 54 [(0, .ref l0), (1, .int l1), (2, .int l2), (3, .int (l3 + ((1 : Int32)))), (4, .int l4), (5, .int x9)] [] h)))))) : pz_V mX10_basin Ex Q d bc bs 22 [(0, .ref l0), (1, .int l1), (2, .int l2), (3, .int l3), (4, .int l4)] [] h := by
  refine pz_iload (pc' := 24) (x := l4) 4 rfl (pz_dc dX10_basin 15 rfl) rfl ?_
  refine pz_aload_n (pc' := 25) (x := l0) 0 rfl (pz_dc dX10_basin 16 rfl) rfl ?_
  refine pz_getI (M := mX10_basin) hb fX10_101 (pc' := 28) rfl (pz_dc dX10_basin 17 rfl) (fun x1 hb => ?_)
  refine pz_icmp_ge (pc' := 31) (tgt := 101) rfl (pz_dc dX10_basin 18 rfl) (by decide) (fun hc => ?_) (fun hc => ?_)
  · replace hb := hb.1 hc
    refine pz_aload_n (pc' := 102) (x := l0) 0 rfl (pz_dc dX10_basin 58 rfl) rfl ?_
    refine pz_iconst (pc' := 103) (v := 0) rfl (pz_dc dX10_basin 59 rfl) ki_0 ?_
    refine pz_putv (M := mX10_basin) hb (pX10_98 _ rfl) rfl rfl (pc' := 106) rfl (pz_dc dX10_basin 60 rfl) (fun h2 hb => ?_)
    refine pz_aload_n (pc' := 107) (x := l0) 0 rfl (pz_dc dX10_basin 61 rfl) rfl ?_
    refine pz_aload_n (pc' := 108) (x := l0) 0 rfl (pz_dc dX10_basin 62 rfl) rfl ?_
    refine pz_aload_n (pc' := 109) (x := l0) 0 rfl (pz_dc dX10_basin 63 rfl) rfl ?_
    refine pz_getR (M := mX10_basin) hb fX10_9 (pc' := 112) rfl (pz_dc dX10_basin 64 rfl) (fun a3 hb => ?_)
    refine pz_iload_n (pc' := 113) (x := l2) 2 rfl (pz_dc dX10_basin 65 rfl) rfl ?_
    refine pz_cVi (M := mX10_basin) (N := mX10_levelOf) (d' := 1) (bc1 := 0) (bs1 := 0) (bc2 := bc) (bs2 := bs) (pc' := 116) [.ref a3, .int l2] hb vX10_287 rfl (pz_dc dX10_basin 66 rfl) rfl (Nat.le_of_ble_eq_true rfl) (Nat.le_of_ble_eq_true rfl) rfl (by omega) (by omega) (by omega) (fun x5 h4 hb => ?_)
    refine pz_i2l (pc' := 117) rfl (pz_dc dX10_basin 67 rfl) ?_
    refine pz_cVv (M := mX10_basin) (N := mX10_tell) (d' := 0) (bc1 := 0) (bs1 := 0) (bc2 := bc) (bs2 := bs) (pc' := 120) [.long x5.toInt64] hb vX10_248 rfl (pz_dc dX10_basin 68 rfl) rfl (Nat.le_of_ble_eq_true rfl) (Nat.le_of_ble_eq_true rfl) rfl (by omega) (by omega) (by omega) (fun h6 hb => ?_)
    refine pz_aload_n (pc' := 121) (x := l0) 0 rfl (pz_dc dX10_basin 69 rfl) rfl ?_
    refine pz_iload_n (pc' := 122) (x := l3) 3 rfl (pz_dc dX10_basin 70 rfl) rfl ?_
    refine pz_i2l (pc' := 123) rfl (pz_dc dX10_basin 71 rfl) ?_
    refine pz_cVv (M := mX10_basin) (N := mX10_tell) (d' := 0) (bc1 := 0) (bs1 := 0) (bc2 := bc) (bs2 := bs) (pc' := 126) [.long l3.toInt64] hb vX10_248 rfl (pz_dc dX10_basin 72 rfl) rfl (Nat.le_of_ble_eq_true rfl) (Nat.le_of_ble_eq_true rfl) rfl (by omega) (by omega) (by omega) (fun h7 hb => ?_)
    refine pz_iload_n (pc' := 127) (x := l2) 2 rfl (pz_dc dX10_basin 73 rfl) rfl ?_
    exact pz_iret (pz_dc dX10_basin 74 rfl) rfl hb
  · replace hb := hb.2 hc
    refine pz_aload_n (pc' := 32) (x := l0) 0 rfl (pz_dc dX10_basin 19 rfl) rfl ?_
    refine pz_getR (M := mX10_basin) hb fX10_19 (pc' := 35) rfl (pz_dc dX10_basin 20 rfl) (fun a8 hb => ?_)
    refine pz_iload (pc' := 37) (x := l4) 4 rfl (pz_dc dX10_basin 21 rfl) rfl ?_
    refine pz_ldI hb (pc' := 38) rfl (pz_dc dX10_basin 22 rfl) (fun x9 hb => ?_)
    refine pz_istore (pc' := 40) (lv' := [(5, .int x9), (0, .ref l0), (1, .int l1), (2, .int l2), (3, .int l3), (4, .int l4)]) rfl (pz_dc dX10_basin 23 rfl) (by decide) rfl ?_
    refine pz_iload_n (pc' := 41) (x := l3) 4 rfl (pz_dc dX10_basin 24 rfl) rfl ?_
    refine pz_iload (pc' := 43) (x := x9) 0 rfl (pz_dc dX10_basin 25 rfl) rfl ?_
    refine pz_iload_n (pc' := 44) (x := l1) 2 rfl (pz_dc dX10_basin 26 rfl) rfl ?_
    refine pz_icmp_ne (pc' := 47) (tgt := 51) rfl (pz_dc dX10_basin 27 rfl) (by decide) (fun hc => ?_) (fun hc => ?_)
    · replace hb := hb.1 hc
      refine pz_iconst (pc' := 52) (v := 0) rfl (pz_dc dX10_basin 30 rfl) ki_0 ?_
      refine pz_iadd (pc' := 53) rfl (pz_dc dX10_basin 31 rfl) ?_
      refine pz_istore_n (pc' := 54) (lv' := [(3, .int (l3 + ((0 : Int32)))), (5, .int x9), (0, .ref l0), (1, .int l1), (2, .int l2), (4, .int l4)]) rfl (pz_dc dX10_basin 32 rfl) (by decide) rfl ?_
      refine pz_lv (lv' := [(0, .ref l0), (1, .int l1), (2, .int l2), (3, .int (l3 + ((0 : Int32)))), (4, .int l4), (5, .int x9)]) [2, 3, 4, 0, 5, 1] rfl ?_
      exact hb
    · replace hb := hb.2 hc
      refine pz_iconst (pc' := 48) (v := 1) rfl (pz_dc dX10_basin 28 rfl) ki_1 ?_
      refine pz_goto (pc' := 52) (pz_dc dX10_basin 29 rfl) (by decide) ?_
      refine pz_iadd (pc' := 53) rfl (pz_dc dX10_basin 31 rfl) ?_
      refine pz_istore_n (pc' := 54) (lv' := [(3, .int (l3 + ((1 : Int32)))), (5, .int x9), (0, .ref l0), (1, .int l1), (2, .int l2), (4, .int l4)]) rfl (pz_dc dX10_basin 32 rfl) (by decide) rfl ?_
      refine pz_lv (lv' := [(0, .ref l0), (1, .int l1), (2, .int l2), (3, .int (l3 + ((1 : Int32)))), (4, .int l4), (5, .int x9)]) [2, 3, 4, 0, 5, 1] rfl ?_
      exact hb
set_option maxRecDepth 20000 in
set_option maxHeartbeats 4000000 in
theorem wX10_basin_54 {Ex : State → Nat → Prop} {Q : Option Value → pz_H → Prop} {d bc bs : Nat} {l0 : Nat} {l1 : Int32} {l2 : Int32} {l3 : Int32} {l4 : Int32} {l5 : Int32}  {h : pz_H} (hD : 2 ≤ d) (hb : (l5 = ((-1 : Int32)) → (¬ l5 = l1 → pz_V mX10_basin Ex Q d bc bs 22 [(0, .ref l0), (1, .int l1), (2, .int (l2 ||| ((0 : Int32)))), (3, .int l3), (4, .int (l4 + (1 : Int32)))] [] h) ∧ (l5 = l1 → pz_V mX10_basin Ex Q d bc bs 22 [(0, .ref l0), (1, .int l1), (2, .int (l2 ||| (((1 : Int32)) <<< (l4 &&& 31)))), (3, .int l3), (4, .int (l4 + (1 : Int32)))] [] h)) ∧ (¬ l5 = ((-1 : Int32)) → (l5 = l1 → (¬ l5 = l1 → pz_V mX10_basin Ex Q d bc bs 22 [(0, .ref l0), (1, .int l1), (2, .int (l2 ||| ((0 : Int32)))), (3, .int l3), (4, .int (l4 + (1 : Int32)))] [] h) ∧ (l5 = l1 → pz_V mX10_basin Ex Q d bc bs 22 [(0, .ref l0), (1, .int l1), (2, .int (l2 ||| (((1 : Int32)) <<< (l4 &&& 31)))), (3, .int l3), (4, .int (l4 + (1 : Int32)))] [] h)) ∧ (¬ l5 = l1 → pz_gR h l0 10 4 (fun (a1 : Nat) => pz_rI h a1 l5 (fun (x2 : Int32) => pz_V mX10_basin Ex Q d bc bs 54 [(0, .ref l0), (1, .int l1), (2, .int l2), (3, .int l3), (4, .int l4), (5, .int x2)] [] h))))) : pz_V mX10_basin Ex Q d bc bs 54 [(0, .ref l0), (1, .int l1), (2, .int l2), (3, .int l3), (4, .int l4), (5, .int l5)] [] h := by
  refine pz_iload (pc' := 56) (x := l5) 5 rfl (pz_dc dX10_basin 33 rfl) rfl ?_
  refine pz_iconst (pc' := 57) (v := (-1)) rfl (pz_dc dX10_basin 34 rfl) ki_m1 ?_
  refine pz_icmp_eq (pc' := 60) (tgt := 78) rfl (pz_dc dX10_basin 35 rfl) (by decide) (fun hc => ?_) (fun hc => ?_)
  · replace hb := hb.1 hc
    refine pz_iload_n (pc' := 79) (x := l2) 2 rfl (pz_dc dX10_basin 45 rfl) rfl ?_
    refine pz_iload (pc' := 81) (x := l5) 5 rfl (pz_dc dX10_basin 46 rfl) rfl ?_
    refine pz_iload_n (pc' := 82) (x := l1) 1 rfl (pz_dc dX10_basin 47 rfl) rfl ?_
    refine pz_icmp_ne (pc' := 85) (tgt := 92) rfl (pz_dc dX10_basin 48 rfl) (by decide) (fun hc => ?_) (fun hc => ?_)
    · replace hb := hb.1 hc
      refine pz_iconst (pc' := 93) (v := 0) rfl (pz_dc dX10_basin 53 rfl) ki_0 ?_
      refine pz_ior (pc' := 94) rfl (pz_dc dX10_basin 54 rfl) ?_
      refine pz_istore_n (pc' := 95) (lv' := [(2, .int (l2 ||| ((0 : Int32)))), (0, .ref l0), (1, .int l1), (3, .int l3), (4, .int l4), (5, .int l5)]) rfl (pz_dc dX10_basin 55 rfl) (by decide) rfl ?_
      refine pz_iinc (pc' := 98) (x := l4) (v := l4 + (1 : Int32)) (lv' := [(4, .int (l4 + (1 : Int32))), (2, .int (l2 ||| ((0 : Int32)))), (0, .ref l0), (1, .int l1), (3, .int l3), (5, .int l5)]) 4 rfl (pz_dc dX10_basin 56 rfl) rfl rfl (by decide) rfl ?_
      refine pz_goto (pc' := 22) (pz_dc dX10_basin 57 rfl) (by decide) ?_
      refine pz_lv (lv' := [(0, .ref l0), (1, .int l1), (2, .int (l2 ||| ((0 : Int32)))), (3, .int l3), (4, .int (l4 + (1 : Int32)))]) [2, 3, 1, 4, 0] rfl ?_
      exact hb
    · replace hb := hb.2 hc
      refine pz_iconst (pc' := 86) (v := 1) rfl (pz_dc dX10_basin 49 rfl) ki_1 ?_
      refine pz_iload (pc' := 88) (x := l4) 4 rfl (pz_dc dX10_basin 50 rfl) rfl ?_
      refine pz_ishl (pc' := 89) rfl (pz_dc dX10_basin 51 rfl) ?_
      refine pz_goto (pc' := 93) (pz_dc dX10_basin 52 rfl) (by decide) ?_
      refine pz_ior (pc' := 94) rfl (pz_dc dX10_basin 54 rfl) ?_
      refine pz_istore_n (pc' := 95) (lv' := [(2, .int (l2 ||| (((1 : Int32)) <<< (l4 &&& 31)))), (0, .ref l0), (1, .int l1), (3, .int l3), (4, .int l4), (5, .int l5)]) rfl (pz_dc dX10_basin 55 rfl) (by decide) rfl ?_
      refine pz_iinc (pc' := 98) (x := l4) (v := l4 + (1 : Int32)) (lv' := [(4, .int (l4 + (1 : Int32))), (2, .int (l2 ||| (((1 : Int32)) <<< (l4 &&& 31)))), (0, .ref l0), (1, .int l1), (3, .int l3), (5, .int l5)]) 4 rfl (pz_dc dX10_basin 56 rfl) rfl rfl (by decide) rfl ?_
      refine pz_goto (pc' := 22) (pz_dc dX10_basin 57 rfl) (by decide) ?_
      refine pz_lv (lv' := [(0, .ref l0), (1, .int l1), (2, .int (l2 ||| (((1 : Int32)) <<< (l4 &&& 31)))), (3, .int l3), (4, .int (l4 + (1 : Int32)))]) [2, 3, 1, 4, 0] rfl ?_
      exact hb
  · replace hb := hb.2 hc
    refine pz_iload (pc' := 62) (x := l5) 5 rfl (pz_dc dX10_basin 36 rfl) rfl ?_
    refine pz_iload_n (pc' := 63) (x := l1) 1 rfl (pz_dc dX10_basin 37 rfl) rfl ?_
    refine pz_icmp_eq (pc' := 66) (tgt := 78) rfl (pz_dc dX10_basin 38 rfl) (by decide) (fun hc => ?_) (fun hc => ?_)
    · replace hb := hb.1 hc
      refine pz_iload_n (pc' := 79) (x := l2) 2 rfl (pz_dc dX10_basin 45 rfl) rfl ?_
      refine pz_iload (pc' := 81) (x := l5) 5 rfl (pz_dc dX10_basin 46 rfl) rfl ?_
      refine pz_iload_n (pc' := 82) (x := l1) 1 rfl (pz_dc dX10_basin 47 rfl) rfl ?_
      refine pz_icmp_ne (pc' := 85) (tgt := 92) rfl (pz_dc dX10_basin 48 rfl) (by decide) (fun hc => ?_) (fun hc => ?_)
      · replace hb := hb.1 hc
        refine pz_iconst (pc' := 93) (v := 0) rfl (pz_dc dX10_basin 53 rfl) ki_0 ?_
        refine pz_ior (pc' := 94) rfl (pz_dc dX10_basin 54 rfl) ?_
        refine pz_istore_n (pc' := 95) (lv' := [(2, .int (l2 ||| ((0 : Int32)))), (0, .ref l0), (1, .int l1), (3, .int l3), (4, .int l4), (5, .int l5)]) rfl (pz_dc dX10_basin 55 rfl) (by decide) rfl ?_
        refine pz_iinc (pc' := 98) (x := l4) (v := l4 + (1 : Int32)) (lv' := [(4, .int (l4 + (1 : Int32))), (2, .int (l2 ||| ((0 : Int32)))), (0, .ref l0), (1, .int l1), (3, .int l3), (5, .int l5)]) 4 rfl (pz_dc dX10_basin 56 rfl) rfl rfl (by decide) rfl ?_
        refine pz_goto (pc' := 22) (pz_dc dX10_basin 57 rfl) (by decide) ?_
        refine pz_lv (lv' := [(0, .ref l0), (1, .int l1), (2, .int (l2 ||| ((0 : Int32)))), (3, .int l3), (4, .int (l4 + (1 : Int32)))]) [2, 3, 1, 4, 0] rfl ?_
        exact hb
      · replace hb := hb.2 hc
        refine pz_iconst (pc' := 86) (v := 1) rfl (pz_dc dX10_basin 49 rfl) ki_1 ?_
        refine pz_iload (pc' := 88) (x := l4) 4 rfl (pz_dc dX10_basin 50 rfl) rfl ?_
        refine pz_ishl (pc' := 89) rfl (pz_dc dX10_basin 51 rfl) ?_
        refine pz_goto (pc' := 93) (pz_dc dX10_basin 52 rfl) (by decide) ?_
        refine pz_ior (pc' := 94) rfl (pz_dc dX10_basin 54 rfl) ?_
        refine pz_istore_n (pc' := 95) (lv' := [(2, .int (l2 ||| (((1 : Int32)) <<< (l4 &&& 31)))), (0, .ref l0), (1, .int l1), (3, .int l3), (4, .int l4), (5, .int l5)]) rfl (pz_dc dX10_basin 55 rfl) (by decide) rfl ?_
        refine pz_iinc (pc' := 98) (x := l4) (v := l4 + (1 : Int32)) (lv' := [(4, .int (l4 + (1 : Int32))), (2, .int (l2 ||| (((1 : Int32)) <<< (l4 &&& 31)))), (0, .ref l0), (1, .int l1), (3, .int l3), (5, .int l5)]) 4 rfl (pz_dc dX10_basin 56 rfl) rfl rfl (by decide) rfl ?_
        refine pz_goto (pc' := 22) (pz_dc dX10_basin 57 rfl) (by decide) ?_
        refine pz_lv (lv' := [(0, .ref l0), (1, .int l1), (2, .int (l2 ||| (((1 : Int32)) <<< (l4 &&& 31)))), (3, .int l3), (4, .int (l4 + (1 : Int32)))]) [2, 3, 1, 4, 0] rfl ?_
        exact hb
    · replace hb := hb.2 hc
      refine pz_aload_n (pc' := 67) (x := l0) 0 rfl (pz_dc dX10_basin 39 rfl) rfl ?_
      refine pz_getR (M := mX10_basin) hb fX10_19 (pc' := 70) rfl (pz_dc dX10_basin 40 rfl) (fun a1 hb => ?_)
      refine pz_iload (pc' := 72) (x := l5) 5 rfl (pz_dc dX10_basin 41 rfl) rfl ?_
      refine pz_ldI hb (pc' := 73) rfl (pz_dc dX10_basin 42 rfl) (fun x2 hb => ?_)
      refine pz_istore (pc' := 75) (lv' := [(5, .int x2), (0, .ref l0), (1, .int l1), (2, .int l2), (3, .int l3), (4, .int l4)]) rfl (pz_dc dX10_basin 43 rfl) (by decide) rfl ?_
      refine pz_goto (pc' := 54) (pz_dc dX10_basin 44 rfl) (by decide) ?_
      refine pz_lv (lv' := [(0, .ref l0), (1, .int l1), (2, .int l2), (3, .int l3), (4, .int l4), (5, .int x2)]) [1, 2, 3, 4, 5, 0] rfl ?_
      exact hb
set_option maxRecDepth 20000 in
set_option maxHeartbeats 4000000 in
theorem wX10_order_0 {Ex : State → Nat → Prop} {Q : Option Value → pz_H → Prop} {d bc bs : Nat} {l0 : Nat} {l1 : Int32}  {h : pz_H} (hD : 83 ≤ d) (hb : pz_pF h l0 10 9 (.int 0) (fun (h1 : pz_H) => (¬ (eX10_in l1 ((0 : Int32)) ((99 : Int32))) = 0 → pz_gR h1 l0 10 0 (fun (a2 : Nat) => pz_gR h1 l0 10 24 (fun (a3 : Nat) => pz_kv mX10_lay 0 0 0 ([.ref a2, .ref a3, .int 0]) h1 (fun (h4 : pz_H) => pz_pF h4 l0 10 8 (.int 0) (fun (h5 : pz_H) => pz_V mX10_order Ex Q d bc bs 38 [(0, .ref l0), (1, .int l1), (2, .int 0), (3, .int 0)] [] h5))))) ∧ ((eX10_in l1 ((0 : Int32)) ((99 : Int32))) = 0 → Q (some (.int ((-1)))) h1))) : pz_V mX10_order Ex Q d bc bs 0 [(0, .ref l0), (1, .int l1)] [] h := by
  refine pz_aload_n (pc' := 1) (x := l0) 0 rfl (pz_dc dX10_order 0 rfl) rfl ?_
  refine pz_iconst (pc' := 2) (v := 0) rfl (pz_dc dX10_order 1 rfl) ki_0 ?_
  refine pz_putv (M := mX10_order) hb (pX10_95 _ rfl) rfl rfl (pc' := 5) rfl (pz_dc dX10_order 2 rfl) (fun h1 hb => ?_)
  refine pz_iload_n (pc' := 6) (x := l1) 1 rfl (pz_dc dX10_order 3 rfl) rfl ?_
  refine pz_iconst (pc' := 7) (v := 0) rfl (pz_dc dX10_order 4 rfl) ki_0 ?_
  refine pz_bipush (pc' := 9) (v := 99) rfl (pz_dc dX10_order 5 rfl) kb_99 ?_
  refine pz_callS (M := mX10_order) (N := mX10_in) (d' := 0) (bc1 := 0) (bs1 := 0) (bc2 := bc) (bs2 := bs) (pc' := 12) [.int l1, .int 0, .int 99] sX10_104 rfl (pz_dc dX10_order 6 rfl) rfl (Nat.le_of_ble_eq_true rfl) (Nat.le_of_ble_eq_true rfl) rfl (by omega) (by omega) (by omega) ?_
  refine cX10_in ?_
  show pz_V mX10_order _ _ _ _ _ 12 [(0, .ref l0), (1, .int l1)] [.int (eX10_in l1 ((0 : Int32)) ((99 : Int32)))] h1
  refine pz_if_ne (pc' := 15) (tgt := 17) rfl (pz_dc dX10_order 7 rfl) (by decide) (fun hc => ?_) (fun hc => ?_)
  · replace hb := hb.1 hc
    refine pz_aload_n (pc' := 18) (x := l0) 0 rfl (pz_dc dX10_order 10 rfl) rfl ?_
    refine pz_getR (M := mX10_order) hb fX10_9 (pc' := 21) rfl (pz_dc dX10_order 11 rfl) (fun a2 hb => ?_)
    refine pz_aload_n (pc' := 22) (x := l0) 0 rfl (pz_dc dX10_order 12 rfl) rfl ?_
    refine pz_getR (M := mX10_order) hb fX10_48 (pc' := 25) rfl (pz_dc dX10_order 13 rfl) (fun a3 hb => ?_)
    refine pz_iconst (pc' := 26) (v := 0) rfl (pz_dc dX10_order 14 rfl) ki_0 ?_
    refine pz_cSv (M := mX10_order) (N := mX10_lay) (d' := 0) (bc1 := 0) (bs1 := 0) (bc2 := bc) (bs2 := bs) (pc' := 29) [.ref a2, .ref a3, .int 0] hb sX10_230 rfl (pz_dc dX10_order 15 rfl) rfl (Nat.le_of_ble_eq_true rfl) (Nat.le_of_ble_eq_true rfl) rfl (by omega) (by omega) (by omega) (fun h4 hb => ?_)
    refine pz_iconst (pc' := 30) (v := 0) rfl (pz_dc dX10_order 16 rfl) ki_0 ?_
    refine pz_istore_n (pc' := 31) (lv' := [(2, .int 0), (0, .ref l0), (1, .int l1)]) rfl (pz_dc dX10_order 17 rfl) (by decide) rfl ?_
    refine pz_aload_n (pc' := 32) (x := l0) 1 rfl (pz_dc dX10_order 18 rfl) rfl ?_
    refine pz_iconst (pc' := 33) (v := 0) rfl (pz_dc dX10_order 19 rfl) ki_0 ?_
    refine pz_putv (M := mX10_order) hb (pX10_98 _ rfl) rfl rfl (pc' := 36) rfl (pz_dc dX10_order 20 rfl) (fun h5 hb => ?_)
    refine pz_iconst (pc' := 37) (v := 0) rfl (pz_dc dX10_order 21 rfl) ki_0 ?_
    refine pz_istore_n (pc' := 38) (lv' := [(3, .int 0), (2, .int 0), (0, .ref l0), (1, .int l1)]) rfl (pz_dc dX10_order 22 rfl) (by decide) rfl ?_
    refine pz_lv (lv' := [(0, .ref l0), (1, .int l1), (2, .int 0), (3, .int 0)]) [2, 3, 1, 0] rfl ?_
    exact hb
  · replace hb := hb.2 hc
    refine pz_iconst (pc' := 16) (v := (-1)) rfl (pz_dc dX10_order 8 rfl) ki_m1 ?_
    exact pz_iret (pz_dc dX10_order 9 rfl) rfl hb
set_option maxRecDepth 20000 in
set_option maxHeartbeats 4000000 in
theorem wX10_order_38 {Ex : State → Nat → Prop} {Q : Option Value → pz_H → Prop} {d bc bs : Nat} {l0 : Nat} {l1 : Int32} {l2 : Int32} {l3 : Int32}  {h : pz_H} (hD : 83 ≤ d) (hb : (l1 < l3 → pz_gI h l0 10 8 (fun (x1 : Int32) => Q (some (.int x1)) h)) ∧ (¬ l1 < l3 → pz_V mX10_order Ex Q d bc bs 46 [(0, .ref l0), (1, .int l1), (2, .int l2), (3, .int l3), (4, .int 0)] [] h)) : pz_V mX10_order Ex Q d bc bs 38 [(0, .ref l0), (1, .int l1), (2, .int l2), (3, .int l3)] [] h := by
  refine pz_iload_n (pc' := 39) (x := l3) 3 rfl (pz_dc dX10_order 23 rfl) rfl ?_
  refine pz_iload_n (pc' := 40) (x := l1) 1 rfl (pz_dc dX10_order 24 rfl) rfl ?_
  refine pz_icmp_gt (pc' := 43) (tgt := 111) rfl (pz_dc dX10_order 25 rfl) (by decide) (fun hc => ?_) (fun hc => ?_)
  · replace hb := hb.1 hc
    refine pz_aload_n (pc' := 112) (x := l0) 0 rfl (pz_dc dX10_order 60 rfl) rfl ?_
    refine pz_getI (M := mX10_order) hb fX10_98 (pc' := 115) rfl (pz_dc dX10_order 61 rfl) (fun x1 hb => ?_)
    exact pz_iret (pz_dc dX10_order 62 rfl) rfl hb
  · replace hb := hb.2 hc
    refine pz_iconst (pc' := 44) (v := 0) rfl (pz_dc dX10_order 26 rfl) ki_0 ?_
    refine pz_istore (pc' := 46) (lv' := [(4, .int 0), (0, .ref l0), (1, .int l1), (2, .int l2), (3, .int l3)]) rfl (pz_dc dX10_order 27 rfl) (by decide) rfl ?_
    refine pz_lv (lv' := [(0, .ref l0), (1, .int l1), (2, .int l2), (3, .int l3), (4, .int 0)]) [1, 2, 3, 4, 0] rfl ?_
    exact hb
set_option maxRecDepth 20000 in
set_option maxHeartbeats 4000000 in
theorem wX10_order_46 {Ex : State → Nat → Prop} {Q : Option Value → pz_H → Prop} {d bc bs : Nat} {l0 : Nat} {l1 : Int32} {l2 : Int32} {l3 : Int32} {l4 : Int32}  {h : pz_H} (hD : 83 ≤ d) (hb : pz_gI h l0 10 1 (fun (x1 : Int32) => (x1 ≤ l4 → pz_gR h l0 10 24 (fun (a2 : Nat) => pz_is h l0 10 ∧ (pz_kv mX10_goDay 82 0 0 (.ref l0 :: [.ref a2]) h (fun (h3 : pz_H) => pz_V mX10_order Ex Q d bc bs 38 [(0, .ref l0), (1, .int l1), (2, .int l2), (3, .int (l3 + (1 : Int32)))] [] h3)))) ∧ (¬ x1 ≤ l4 → pz_gR h l0 10 24 (fun (a4 : Nat) => pz_rI h a4 l4 (fun (x5 : Int32) => (0 < x5 → pz_V mX10_order Ex Q d bc bs 46 [(0, .ref l0), (1, .int l1), (2, .int l2), (3, .int l3), (4, .int (l4 + (1 : Int32)))] [] h) ∧ (¬ 0 < x5 → ((eX10_has l2 l4) = 0 → pz_is h l0 10 ∧ (pz_kv mX10_tell 0 0 0 (.ref l0 :: [.long l4.toInt64]) h (fun (h6 : pz_H) => pz_V mX10_order Ex Q d bc bs 46 [(0, .ref l0), (1, .int l1), (2, .int (l2 ||| (((1 : Int32)) <<< (l4 &&& 31)))), (3, .int l3), (4, .int (l4 + (1 : Int32)))] [] h6))) ∧ (¬ (eX10_has l2 l4) = 0 → pz_V mX10_order Ex Q d bc bs 46 [(0, .ref l0), (1, .int l1), (2, .int l2), (3, .int l3), (4, .int (l4 + (1 : Int32)))] [] h))))))) : pz_V mX10_order Ex Q d bc bs 46 [(0, .ref l0), (1, .int l1), (2, .int l2), (3, .int l3), (4, .int l4)] [] h := by
  refine pz_iload (pc' := 48) (x := l4) 4 rfl (pz_dc dX10_order 28 rfl) rfl ?_
  refine pz_aload_n (pc' := 49) (x := l0) 0 rfl (pz_dc dX10_order 29 rfl) rfl ?_
  refine pz_getI (M := mX10_order) hb fX10_101 (pc' := 52) rfl (pz_dc dX10_order 30 rfl) (fun x1 hb => ?_)
  refine pz_icmp_ge (pc' := 55) (tgt := 97) rfl (pz_dc dX10_order 31 rfl) (by decide) (fun hc => ?_) (fun hc => ?_)
  · replace hb := hb.1 hc
    refine pz_aload_n (pc' := 98) (x := l0) 0 rfl (pz_dc dX10_order 54 rfl) rfl ?_
    refine pz_aload_n (pc' := 99) (x := l0) 0 rfl (pz_dc dX10_order 55 rfl) rfl ?_
    refine pz_getR (M := mX10_order) hb fX10_48 (pc' := 102) rfl (pz_dc dX10_order 56 rfl) (fun a2 hb => ?_)
    refine pz_cVv (M := mX10_order) (N := mX10_goDay) (d' := 82) (bc1 := 0) (bs1 := 0) (bc2 := bc) (bs2 := bs) (pc' := 105) [.ref a2] hb vX10_237 rfl (pz_dc dX10_order 57 rfl) rfl (Nat.le_of_ble_eq_true rfl) (Nat.le_of_ble_eq_true rfl) rfl (by omega) (by omega) (by omega) (fun h3 hb => ?_)
    refine pz_iinc (pc' := 108) (x := l3) (v := l3 + (1 : Int32)) (lv' := [(3, .int (l3 + (1 : Int32))), (0, .ref l0), (1, .int l1), (2, .int l2), (4, .int l4)]) 3 rfl (pz_dc dX10_order 58 rfl) rfl rfl (by decide) rfl ?_
    refine pz_goto (pc' := 38) (pz_dc dX10_order 59 rfl) (by decide) ?_
    refine pz_lv (lv' := [(0, .ref l0), (1, .int l1), (2, .int l2), (3, .int (l3 + (1 : Int32)))]) [1, 2, 3, 0] rfl ?_
    exact hb
  · replace hb := hb.2 hc
    refine pz_aload_n (pc' := 56) (x := l0) 0 rfl (pz_dc dX10_order 32 rfl) rfl ?_
    refine pz_getR (M := mX10_order) hb fX10_48 (pc' := 59) rfl (pz_dc dX10_order 33 rfl) (fun a4 hb => ?_)
    refine pz_iload (pc' := 61) (x := l4) 4 rfl (pz_dc dX10_order 34 rfl) rfl ?_
    refine pz_ldI hb (pc' := 62) rfl (pz_dc dX10_order 35 rfl) (fun x5 hb => ?_)
    refine pz_if_gt (pc' := 65) (tgt := 91) rfl (pz_dc dX10_order 36 rfl) (by decide) (fun hc => ?_) (fun hc => ?_)
    · replace hb := hb.1 hc
      refine pz_iinc (pc' := 94) (x := l4) (v := l4 + (1 : Int32)) (lv' := [(4, .int (l4 + (1 : Int32))), (0, .ref l0), (1, .int l1), (2, .int l2), (3, .int l3)]) 4 rfl (pz_dc dX10_order 52 rfl) rfl rfl (by decide) rfl ?_
      refine pz_goto (pc' := 46) (pz_dc dX10_order 53 rfl) (by decide) ?_
      refine pz_lv (lv' := [(0, .ref l0), (1, .int l1), (2, .int l2), (3, .int l3), (4, .int (l4 + (1 : Int32)))]) [1, 2, 3, 4, 0] rfl ?_
      exact hb
    · replace hb := hb.2 hc
      refine pz_iload_n (pc' := 66) (x := l2) 2 rfl (pz_dc dX10_order 37 rfl) rfl ?_
      refine pz_iload (pc' := 68) (x := l4) 4 rfl (pz_dc dX10_order 38 rfl) rfl ?_
      refine pz_callS (M := mX10_order) (N := mX10_has) (d' := 0) (bc1 := 0) (bs1 := 0) (bc2 := bc) (bs2 := bs) (pc' := 71) [.int l2, .int l4] sX10_277 rfl (pz_dc dX10_order 39 rfl) rfl (Nat.le_of_ble_eq_true rfl) (Nat.le_of_ble_eq_true rfl) rfl (by omega) (by omega) (by omega) ?_
      refine cX10_has ?_
      show pz_V mX10_order _ _ _ _ _ 71 [(0, .ref l0), (1, .int l1), (2, .int l2), (3, .int l3), (4, .int l4)] [.int (eX10_has l2 l4)] h
      refine pz_if_eq (pc' := 74) (tgt := 77) rfl (pz_dc dX10_order 40 rfl) (by decide) (fun hc => ?_) (fun hc => ?_)
      · replace hb := hb.1 hc
        refine pz_iload_n (pc' := 78) (x := l2) 2 rfl (pz_dc dX10_order 42 rfl) rfl ?_
        refine pz_iconst (pc' := 79) (v := 1) rfl (pz_dc dX10_order 43 rfl) ki_1 ?_
        refine pz_iload (pc' := 81) (x := l4) 4 rfl (pz_dc dX10_order 44 rfl) rfl ?_
        refine pz_ishl (pc' := 82) rfl (pz_dc dX10_order 45 rfl) ?_
        refine pz_ior (pc' := 83) rfl (pz_dc dX10_order 46 rfl) ?_
        refine pz_istore_n (pc' := 84) (lv' := [(2, .int (l2 ||| (((1 : Int32)) <<< (l4 &&& 31)))), (0, .ref l0), (1, .int l1), (3, .int l3), (4, .int l4)]) rfl (pz_dc dX10_order 47 rfl) (by decide) rfl ?_
        refine pz_aload_n (pc' := 85) (x := l0) 1 rfl (pz_dc dX10_order 48 rfl) rfl ?_
        refine pz_iload (pc' := 87) (x := l4) 4 rfl (pz_dc dX10_order 49 rfl) rfl ?_
        refine pz_i2l (pc' := 88) rfl (pz_dc dX10_order 50 rfl) ?_
        refine pz_cVv (M := mX10_order) (N := mX10_tell) (d' := 0) (bc1 := 0) (bs1 := 0) (bc2 := bc) (bs2 := bs) (pc' := 91) [.long l4.toInt64] hb vX10_248 rfl (pz_dc dX10_order 51 rfl) rfl (Nat.le_of_ble_eq_true rfl) (Nat.le_of_ble_eq_true rfl) rfl (by omega) (by omega) (by omega) (fun h6 hb => ?_)
        refine pz_iinc (pc' := 94) (x := l4) (v := l4 + (1 : Int32)) (lv' := [(4, .int (l4 + (1 : Int32))), (2, .int (l2 ||| (((1 : Int32)) <<< (l4 &&& 31)))), (0, .ref l0), (1, .int l1), (3, .int l3)]) 4 rfl (pz_dc dX10_order 52 rfl) rfl rfl (by decide) rfl ?_
        refine pz_goto (pc' := 46) (pz_dc dX10_order 53 rfl) (by decide) ?_
        refine pz_lv (lv' := [(0, .ref l0), (1, .int l1), (2, .int (l2 ||| (((1 : Int32)) <<< (l4 &&& 31)))), (3, .int l3), (4, .int (l4 + (1 : Int32)))]) [2, 3, 1, 4, 0] rfl ?_
        exact hb
      · replace hb := hb.2 hc
        refine pz_goto (pc' := 91) (pz_dc dX10_order 41 rfl) (by decide) ?_
        refine pz_iinc (pc' := 94) (x := l4) (v := l4 + (1 : Int32)) (lv' := [(4, .int (l4 + (1 : Int32))), (0, .ref l0), (1, .int l1), (2, .int l2), (3, .int l3)]) 4 rfl (pz_dc dX10_order 52 rfl) rfl rfl (by decide) rfl ?_
        refine pz_goto (pc' := 46) (pz_dc dX10_order 53 rfl) (by decide) ?_
        refine pz_lv (lv' := [(0, .ref l0), (1, .int l1), (2, .int l2), (3, .int l3), (4, .int (l4 + (1 : Int32)))]) [1, 2, 3, 4, 0] rfl ?_
        exact hb
set_option maxRecDepth 20000 in
set_option maxHeartbeats 4000000 in
theorem wX10_meets_0 {Ex : State → Nat → Prop} {Q : Option Value → pz_H → Prop} {d bc bs : Nat} {l0 : Nat} {l1 : Int32} {l2 : Int32}  {h : pz_H} (hD : 83 ≤ d) (hb : pz_pF h l0 10 9 (.int 0) (fun (h1 : pz_H) => pz_is h1 l0 10 ∧ (pz_gI h1 l0 10 1 (fun (x2 : Int32) => pz_gI h1 l0 10 1 (fun (x6 : Int32) => (¬ (eX10_areTwo l1 l2 x2 x6) = 0 → pz_gR h1 l0 10 0 (fun (a10 : Nat) => pz_gR h1 l0 10 24 (fun (a11 : Nat) => pz_kv mX10_lay 0 0 0 ([.ref a10, .ref a11, .int 0]) h1 (fun (h12 : pz_H) => pz_V mX10_meets Ex Q d bc bs 30 [(0, .ref l0), (1, .int l1), (2, .int l2), (3, .int 0)] [] h12)))) ∧ ((eX10_areTwo l1 l2 x2 x6) = 0 → Q (some (.int ((-1)))) h1)))))) : pz_V mX10_meets Ex Q d bc bs 0 [(0, .ref l0), (1, .int l1), (2, .int l2)] [] h := by
  refine pz_aload_n (pc' := 1) (x := l0) 0 rfl (pz_dc dX10_meets 0 rfl) rfl ?_
  refine pz_iconst (pc' := 2) (v := 0) rfl (pz_dc dX10_meets 1 rfl) ki_0 ?_
  refine pz_putv (M := mX10_meets) hb (pX10_95 _ rfl) rfl rfl (pc' := 5) rfl (pz_dc dX10_meets 2 rfl) (fun h1 hb => ?_)
  refine pz_aload_n (pc' := 6) (x := l0) 0 rfl (pz_dc dX10_meets 3 rfl) rfl ?_
  refine pz_iload_n (pc' := 7) (x := l1) 1 rfl (pz_dc dX10_meets 4 rfl) rfl ?_
  refine pz_iload_n (pc' := 8) (x := l2) 2 rfl (pz_dc dX10_meets 5 rfl) rfl ?_
  obtain ⟨⟨fs13, hf14⟩, hb⟩ := hb
  obtain ⟨fs3, x2, g4, g5, hb⟩ := hb
  obtain ⟨fs7, x6, g8, g9, hb⟩ := hb
  refine pz_callV (M := mX10_meets) (N := mX10_areTwo) (d' := 2) (bc1 := 0) (bs1 := 0) (bc2 := bc) (bs2 := bs) (pc' := 11) [.int l1, .int l2] vX10_290 rfl (pz_dc dX10_meets 6 rfl) rfl (Nat.le_of_ble_eq_true rfl) (Nat.le_of_ble_eq_true rfl) rfl (by omega) (by omega) (by omega) hf14 ?_
  refine cX10_areTwo ⟨fs3, x2, g4, g5, ⟨fs7, x6, g8, g9, ?_⟩⟩
  show pz_V mX10_meets _ _ _ _ _ 11 [(0, .ref l0), (1, .int l1), (2, .int l2)] [.int (eX10_areTwo l1 l2 x2 x6)] h1
  refine pz_if_ne (pc' := 14) (tgt := 16) rfl (pz_dc dX10_meets 7 rfl) (by decide) (fun hc => ?_) (fun hc => ?_)
  · replace hb := hb.1 hc
    refine pz_aload_n (pc' := 17) (x := l0) 0 rfl (pz_dc dX10_meets 10 rfl) rfl ?_
    refine pz_getR (M := mX10_meets) hb fX10_9 (pc' := 20) rfl (pz_dc dX10_meets 11 rfl) (fun a10 hb => ?_)
    refine pz_aload_n (pc' := 21) (x := l0) 0 rfl (pz_dc dX10_meets 12 rfl) rfl ?_
    refine pz_getR (M := mX10_meets) hb fX10_48 (pc' := 24) rfl (pz_dc dX10_meets 13 rfl) (fun a11 hb => ?_)
    refine pz_iconst (pc' := 25) (v := 0) rfl (pz_dc dX10_meets 14 rfl) ki_0 ?_
    refine pz_cSv (M := mX10_meets) (N := mX10_lay) (d' := 0) (bc1 := 0) (bs1 := 0) (bc2 := bc) (bs2 := bs) (pc' := 28) [.ref a10, .ref a11, .int 0] hb sX10_230 rfl (pz_dc dX10_meets 15 rfl) rfl (Nat.le_of_ble_eq_true rfl) (Nat.le_of_ble_eq_true rfl) rfl (by omega) (by omega) (by omega) (fun h12 hb => ?_)
    refine pz_iconst (pc' := 29) (v := 0) rfl (pz_dc dX10_meets 16 rfl) ki_0 ?_
    refine pz_istore_n (pc' := 30) (lv' := [(3, .int 0), (0, .ref l0), (1, .int l1), (2, .int l2)]) rfl (pz_dc dX10_meets 17 rfl) (by decide) rfl ?_
    refine pz_lv (lv' := [(0, .ref l0), (1, .int l1), (2, .int l2), (3, .int 0)]) [1, 2, 3, 0] rfl ?_
    exact hb
  · replace hb := hb.2 hc
    refine pz_iconst (pc' := 15) (v := (-1)) rfl (pz_dc dX10_meets 8 rfl) ki_m1 ?_
    exact pz_iret (pz_dc dX10_meets 9 rfl) rfl hb
set_option maxRecDepth 20000 in
set_option maxHeartbeats 4000000 in
theorem wX10_meets_30 {Ex : State → Nat → Prop} {Q : Option Value → pz_H → Prop} {d bc bs : Nat} {l0 : Nat} {l1 : Int32} {l2 : Int32} {l3 : Int32}  {h : pz_H} (hD : 83 ≤ d) (hb : (((99 : Int32)) < l3 → Q (some (.int ((-2)))) h) ∧ (¬ ((99 : Int32)) < l3 → pz_gR h l0 10 24 (fun (a1 : Nat) => pz_rI h a1 l1 (fun (x2 : Int32) => pz_gR h l0 10 24 (fun (a3 : Nat) => pz_rI h a3 l2 (fun (x4 : Int32) => (¬ x2 = x4 → pz_gR h l0 10 24 (fun (a5 : Nat) => pz_is h l0 10 ∧ (pz_kv mX10_goDay 82 0 0 (.ref l0 :: [.ref a5]) h (fun (h6 : pz_H) => pz_V mX10_meets Ex Q d bc bs 30 [(0, .ref l0), (1, .int l1), (2, .int l2), (3, .int (l3 + (1 : Int32)))] [] h6)))) ∧ (x2 = x4 → pz_pF h l0 10 8 (.int 0) (fun (h7 : pz_H) => pz_gR h7 l0 10 24 (fun (a8 : Nat) => pz_rI h7 a8 l1 (fun (x9 : Int32) => pz_is h7 l0 10 ∧ (pz_kv mX10_tell 0 0 0 (.ref l0 :: [.long x9.toInt64]) h7 (fun (h10 : pz_H) => Q (some (.int l3)) h10)))))))))))) : pz_V mX10_meets Ex Q d bc bs 30 [(0, .ref l0), (1, .int l1), (2, .int l2), (3, .int l3)] [] h := by
  refine pz_iload_n (pc' := 31) (x := l3) 3 rfl (pz_dc dX10_meets 18 rfl) rfl ?_
  refine pz_bipush (pc' := 33) (v := 99) rfl (pz_dc dX10_meets 19 rfl) kb_99 ?_
  refine pz_icmp_gt (pc' := 36) (tgt := 83) rfl (pz_dc dX10_meets 20 rfl) (by decide) (fun hc => ?_) (fun hc => ?_)
  · replace hb := hb.1 hc
    refine pz_bipush (pc' := 85) (v := (-2)) rfl (pz_dc dX10_meets 48 rfl) kb_m2 ?_
    exact pz_iret (pz_dc dX10_meets 49 rfl) rfl hb
  · replace hb := hb.2 hc
    refine pz_aload_n (pc' := 37) (x := l0) 0 rfl (pz_dc dX10_meets 21 rfl) rfl ?_
    refine pz_getR (M := mX10_meets) hb fX10_48 (pc' := 40) rfl (pz_dc dX10_meets 22 rfl) (fun a1 hb => ?_)
    refine pz_iload_n (pc' := 41) (x := l1) 1 rfl (pz_dc dX10_meets 23 rfl) rfl ?_
    refine pz_ldI hb (pc' := 42) rfl (pz_dc dX10_meets 24 rfl) (fun x2 hb => ?_)
    refine pz_aload_n (pc' := 43) (x := l0) 0 rfl (pz_dc dX10_meets 25 rfl) rfl ?_
    refine pz_getR (M := mX10_meets) hb fX10_48 (pc' := 46) rfl (pz_dc dX10_meets 26 rfl) (fun a3 hb => ?_)
    refine pz_iload_n (pc' := 47) (x := l2) 2 rfl (pz_dc dX10_meets 27 rfl) rfl ?_
    refine pz_ldI hb (pc' := 48) rfl (pz_dc dX10_meets 28 rfl) (fun x4 hb => ?_)
    refine pz_icmp_ne (pc' := 51) (tgt := 69) rfl (pz_dc dX10_meets 29 rfl) (by decide) (fun hc => ?_) (fun hc => ?_)
    · replace hb := hb.1 hc
      refine pz_aload_n (pc' := 70) (x := l0) 0 rfl (pz_dc dX10_meets 42 rfl) rfl ?_
      refine pz_aload_n (pc' := 71) (x := l0) 0 rfl (pz_dc dX10_meets 43 rfl) rfl ?_
      refine pz_getR (M := mX10_meets) hb fX10_48 (pc' := 74) rfl (pz_dc dX10_meets 44 rfl) (fun a5 hb => ?_)
      refine pz_cVv (M := mX10_meets) (N := mX10_goDay) (d' := 82) (bc1 := 0) (bs1 := 0) (bc2 := bc) (bs2 := bs) (pc' := 77) [.ref a5] hb vX10_237 rfl (pz_dc dX10_meets 45 rfl) rfl (Nat.le_of_ble_eq_true rfl) (Nat.le_of_ble_eq_true rfl) rfl (by omega) (by omega) (by omega) (fun h6 hb => ?_)
      refine pz_iinc (pc' := 80) (x := l3) (v := l3 + (1 : Int32)) (lv' := [(3, .int (l3 + (1 : Int32))), (0, .ref l0), (1, .int l1), (2, .int l2)]) 3 rfl (pz_dc dX10_meets 46 rfl) rfl rfl (by decide) rfl ?_
      refine pz_goto (pc' := 30) (pz_dc dX10_meets 47 rfl) (by decide) ?_
      refine pz_lv (lv' := [(0, .ref l0), (1, .int l1), (2, .int l2), (3, .int (l3 + (1 : Int32)))]) [1, 2, 3, 0] rfl ?_
      exact hb
    · replace hb := hb.2 hc
      refine pz_aload_n (pc' := 52) (x := l0) 0 rfl (pz_dc dX10_meets 30 rfl) rfl ?_
      refine pz_iconst (pc' := 53) (v := 0) rfl (pz_dc dX10_meets 31 rfl) ki_0 ?_
      refine pz_putv (M := mX10_meets) hb (pX10_98 _ rfl) rfl rfl (pc' := 56) rfl (pz_dc dX10_meets 32 rfl) (fun h7 hb => ?_)
      refine pz_aload_n (pc' := 57) (x := l0) 0 rfl (pz_dc dX10_meets 33 rfl) rfl ?_
      refine pz_aload_n (pc' := 58) (x := l0) 0 rfl (pz_dc dX10_meets 34 rfl) rfl ?_
      refine pz_getR (M := mX10_meets) hb fX10_48 (pc' := 61) rfl (pz_dc dX10_meets 35 rfl) (fun a8 hb => ?_)
      refine pz_iload_n (pc' := 62) (x := l1) 1 rfl (pz_dc dX10_meets 36 rfl) rfl ?_
      refine pz_ldI hb (pc' := 63) rfl (pz_dc dX10_meets 37 rfl) (fun x9 hb => ?_)
      refine pz_i2l (pc' := 64) rfl (pz_dc dX10_meets 38 rfl) ?_
      refine pz_cVv (M := mX10_meets) (N := mX10_tell) (d' := 0) (bc1 := 0) (bs1 := 0) (bc2 := bc) (bs2 := bs) (pc' := 67) [.long x9.toInt64] hb vX10_248 rfl (pz_dc dX10_meets 39 rfl) rfl (Nat.le_of_ble_eq_true rfl) (Nat.le_of_ble_eq_true rfl) rfl (by omega) (by omega) (by omega) (fun h10 hb => ?_)
      refine pz_iload_n (pc' := 68) (x := l3) 3 rfl (pz_dc dX10_meets 40 rfl) rfl ?_
      exact pz_iret (pz_dc dX10_meets 41 rfl) rfl hb
set_option maxRecDepth 20000 in
set_option maxHeartbeats 4000000 in
theorem wX10_richest_0 {Ex : State → Nat → Prop} {Q : Option Value → pz_H → Prop} {d bc bs : Nat} {l0 : Nat} {l1 : Int32}  {h : pz_H} (hD : 85 ≤ d) (hb : pz_pF h l0 10 9 (.int 0) (fun (h1 : pz_H) => (¬ (eX10_in l1 ((0 : Int32)) ((99 : Int32))) = 0 → pz_is h1 l0 10 ∧ (pz_kv mX10_goThen 84 0 0 (.ref l0 :: [.int l1]) h1 (fun (h2 : pz_H) => pz_V mX10_richest Ex Q d bc bs 26 [(0, .ref l0), (2, .int 0), (3, .int 1)] [] h2))) ∧ ((eX10_in l1 ((0 : Int32)) ((99 : Int32))) = 0 → Q (some (.int ((-1)))) h1))) : pz_V mX10_richest Ex Q d bc bs 0 [(0, .ref l0), (1, .int l1)] [] h := by
  refine pz_aload_n (pc' := 1) (x := l0) 0 rfl (pz_dc dX10_richest 0 rfl) rfl ?_
  refine pz_iconst (pc' := 2) (v := 0) rfl (pz_dc dX10_richest 1 rfl) ki_0 ?_
  refine pz_putv (M := mX10_richest) hb (pX10_95 _ rfl) rfl rfl (pc' := 5) rfl (pz_dc dX10_richest 2 rfl) (fun h1 hb => ?_)
  refine pz_iload_n (pc' := 6) (x := l1) 1 rfl (pz_dc dX10_richest 3 rfl) rfl ?_
  refine pz_iconst (pc' := 7) (v := 0) rfl (pz_dc dX10_richest 4 rfl) ki_0 ?_
  refine pz_bipush (pc' := 9) (v := 99) rfl (pz_dc dX10_richest 5 rfl) kb_99 ?_
  refine pz_callS (M := mX10_richest) (N := mX10_in) (d' := 0) (bc1 := 0) (bs1 := 0) (bc2 := bc) (bs2 := bs) (pc' := 12) [.int l1, .int 0, .int 99] sX10_104 rfl (pz_dc dX10_richest 6 rfl) rfl (Nat.le_of_ble_eq_true rfl) (Nat.le_of_ble_eq_true rfl) rfl (by omega) (by omega) (by omega) ?_
  refine cX10_in ?_
  show pz_V mX10_richest _ _ _ _ _ 12 [(0, .ref l0), (1, .int l1)] [.int (eX10_in l1 ((0 : Int32)) ((99 : Int32)))] h1
  refine pz_if_ne (pc' := 15) (tgt := 17) rfl (pz_dc dX10_richest 7 rfl) (by decide) (fun hc => ?_) (fun hc => ?_)
  · replace hb := hb.1 hc
    refine pz_aload_n (pc' := 18) (x := l0) 0 rfl (pz_dc dX10_richest 10 rfl) rfl ?_
    refine pz_iload_n (pc' := 19) (x := l1) 1 rfl (pz_dc dX10_richest 11 rfl) rfl ?_
    refine pz_cVv (M := mX10_richest) (N := mX10_goThen) (d' := 84) (bc1 := 0) (bs1 := 0) (bc2 := bc) (bs2 := bs) (pc' := 22) [.int l1] hb vX10_274 rfl (pz_dc dX10_richest 12 rfl) rfl (Nat.le_of_ble_eq_true rfl) (Nat.le_of_ble_eq_true rfl) rfl (by omega) (by omega) (by omega) (fun h2 hb => ?_)
    refine pz_iconst (pc' := 23) (v := 0) rfl (pz_dc dX10_richest 13 rfl) ki_0 ?_
    refine pz_istore_n (pc' := 24) (lv' := [(2, .int 0), (0, .ref l0), (1, .int l1)]) rfl (pz_dc dX10_richest 14 rfl) (by decide) rfl ?_
    refine pz_iconst (pc' := 25) (v := 1) rfl (pz_dc dX10_richest 15 rfl) ki_1 ?_
    refine pz_istore_n (pc' := 26) (lv' := [(3, .int 1), (2, .int 0), (0, .ref l0), (1, .int l1)]) rfl (pz_dc dX10_richest 16 rfl) (by decide) rfl ?_
    refine pz_lv (lv' := [(0, .ref l0), (2, .int 0), (3, .int 1)]) [2, 1, 0] rfl ?_
    exact hb
  · replace hb := hb.2 hc
    refine pz_iconst (pc' := 16) (v := (-1)) rfl (pz_dc dX10_richest 8 rfl) ki_m1 ?_
    exact pz_iret (pz_dc dX10_richest 9 rfl) rfl hb
set_option maxRecDepth 20000 in
set_option maxHeartbeats 4000000 in
theorem wX10_richest_26 {Ex : State → Nat → Prop} {Q : Option Value → pz_H → Prop} {d bc bs : Nat} {l0 : Nat} {l2 : Int32} {l3 : Int32}  {h : pz_H} (hD : 85 ≤ d) (hb : (((4 : Int32)) ≤ l3 → pz_gR h l0 10 24 (fun (a1 : Nat) => pz_gR h l0 10 24 (fun (a2 : Nat) => pz_is h l0 10 ∧ (pz_ki mX10_ownOf 0 0 0 (.ref l0 :: [.ref a2, .int l2]) h (fun (x4 : Int32) (h3 : pz_H) => pz_is h3 l0 10 ∧ (pz_ki mX10_levelOf 1 0 0 (.ref l0 :: [.ref a1, .int x4]) h3 (fun (x6 : Int32) (h5 : pz_H) => pz_pF h5 l0 10 8 (.int 0) (fun (h7 : pz_H) => pz_is h7 l0 10 ∧ (pz_kv mX10_tell 0 0 0 (.ref l0 :: [.long x6.toInt64]) h7 (fun (h8 : pz_H) => pz_gR h8 l0 10 24 (fun (a9 : Nat) => pz_is h8 l0 10 ∧ (pz_ki mX10_sumOf 0 0 0 (.ref l0 :: [.ref a9, .int 0]) h8 (fun (x11 : Int32) (h10 : pz_H) => pz_is h10 l0 10 ∧ (pz_kv mX10_tell 0 0 0 (.ref l0 :: [.long ((x11 - x6).toInt64)]) h10 (fun (h12 : pz_H) => Q (some (.int l2)) h12))))))))))))))) ∧ (¬ ((4 : Int32)) ≤ l3 → pz_gR h l0 10 24 (fun (a13 : Nat) => pz_gR h l0 10 24 (fun (a14 : Nat) => pz_is h l0 10 ∧ (pz_ki mX10_ownOf 0 0 0 (.ref l0 :: [.ref a14, .int l3]) h (fun (x16 : Int32) (h15 : pz_H) => pz_is h15 l0 10 ∧ (pz_ki mX10_levelOf 1 0 0 (.ref l0 :: [.ref a13, .int x16]) h15 (fun (x18 : Int32) (h17 : pz_H) => pz_gR h17 l0 10 24 (fun (a19 : Nat) => pz_gR h17 l0 10 24 (fun (a20 : Nat) => pz_is h17 l0 10 ∧ (pz_ki mX10_ownOf 0 0 0 (.ref l0 :: [.ref a20, .int l2]) h17 (fun (x22 : Int32) (h21 : pz_H) => pz_is h21 l0 10 ∧ (pz_ki mX10_levelOf 1 0 0 (.ref l0 :: [.ref a19, .int x22]) h21 (fun (x24 : Int32) (h23 : pz_H) => (x18 ≤ x24 → pz_V mX10_richest Ex Q d bc bs 26 [(0, .ref l0), (2, .int l2), (3, .int (l3 + (1 : Int32)))] [] h23) ∧ (¬ x18 ≤ x24 → pz_V mX10_richest Ex Q d bc bs 26 [(0, .ref l0), (2, .int l3), (3, .int (l3 + (1 : Int32)))] [] h23))))))))))))))) : pz_V mX10_richest Ex Q d bc bs 26 [(0, .ref l0), (2, .int l2), (3, .int l3)] [] h := by
  refine pz_iload_n (pc' := 27) (x := l3) 2 rfl (pz_dc dX10_richest 17 rfl) rfl ?_
  refine pz_iconst (pc' := 28) (v := 4) rfl (pz_dc dX10_richest 18 rfl) ki_4 ?_
  refine pz_icmp_ge (pc' := 31) (tgt := 80) rfl (pz_dc dX10_richest 19 rfl) (by decide) (fun hc => ?_) (fun hc => ?_)
  · replace hb := hb.1 hc
    refine pz_aload_n (pc' := 81) (x := l0) 0 rfl (pz_dc dX10_richest 45 rfl) rfl ?_
    refine pz_aload_n (pc' := 82) (x := l0) 0 rfl (pz_dc dX10_richest 46 rfl) rfl ?_
    refine pz_getR (M := mX10_richest) hb fX10_48 (pc' := 85) rfl (pz_dc dX10_richest 47 rfl) (fun a1 hb => ?_)
    refine pz_aload_n (pc' := 86) (x := l0) 0 rfl (pz_dc dX10_richest 48 rfl) rfl ?_
    refine pz_aload_n (pc' := 87) (x := l0) 0 rfl (pz_dc dX10_richest 49 rfl) rfl ?_
    refine pz_getR (M := mX10_richest) hb fX10_48 (pc' := 90) rfl (pz_dc dX10_richest 50 rfl) (fun a2 hb => ?_)
    refine pz_iload_n (pc' := 91) (x := l2) 1 rfl (pz_dc dX10_richest 51 rfl) rfl ?_
    refine pz_cVi (M := mX10_richest) (N := mX10_ownOf) (d' := 0) (bc1 := 0) (bs1 := 0) (bc2 := bc) (bs2 := bs) (pc' := 94) [.ref a2, .int l2] hb vX10_284 rfl (pz_dc dX10_richest 52 rfl) rfl (Nat.le_of_ble_eq_true rfl) (Nat.le_of_ble_eq_true rfl) rfl (by omega) (by omega) (by omega) (fun x4 h3 hb => ?_)
    refine pz_cVi (M := mX10_richest) (N := mX10_levelOf) (d' := 1) (bc1 := 0) (bs1 := 0) (bc2 := bc) (bs2 := bs) (pc' := 97) [.ref a1, .int x4] hb vX10_287 rfl (pz_dc dX10_richest 53 rfl) rfl (Nat.le_of_ble_eq_true rfl) (Nat.le_of_ble_eq_true rfl) rfl (by omega) (by omega) (by omega) (fun x6 h5 hb => ?_)
    refine pz_istore_n (pc' := 98) (lv' := [(3, .int x6), (0, .ref l0), (2, .int l2)]) rfl (pz_dc dX10_richest 54 rfl) (by decide) rfl ?_
    refine pz_aload_n (pc' := 99) (x := l0) 1 rfl (pz_dc dX10_richest 55 rfl) rfl ?_
    refine pz_iconst (pc' := 100) (v := 0) rfl (pz_dc dX10_richest 56 rfl) ki_0 ?_
    refine pz_putv (M := mX10_richest) hb (pX10_98 _ rfl) rfl rfl (pc' := 103) rfl (pz_dc dX10_richest 57 rfl) (fun h7 hb => ?_)
    refine pz_aload_n (pc' := 104) (x := l0) 1 rfl (pz_dc dX10_richest 58 rfl) rfl ?_
    refine pz_iload_n (pc' := 105) (x := x6) 0 rfl (pz_dc dX10_richest 59 rfl) rfl ?_
    refine pz_i2l (pc' := 106) rfl (pz_dc dX10_richest 60 rfl) ?_
    refine pz_cVv (M := mX10_richest) (N := mX10_tell) (d' := 0) (bc1 := 0) (bs1 := 0) (bc2 := bc) (bs2 := bs) (pc' := 109) [.long x6.toInt64] hb vX10_248 rfl (pz_dc dX10_richest 61 rfl) rfl (Nat.le_of_ble_eq_true rfl) (Nat.le_of_ble_eq_true rfl) rfl (by omega) (by omega) (by omega) (fun h8 hb => ?_)
    refine pz_aload_n (pc' := 110) (x := l0) 1 rfl (pz_dc dX10_richest 62 rfl) rfl ?_
    refine pz_aload_n (pc' := 111) (x := l0) 1 rfl (pz_dc dX10_richest 63 rfl) rfl ?_
    refine pz_aload_n (pc' := 112) (x := l0) 1 rfl (pz_dc dX10_richest 64 rfl) rfl ?_
    refine pz_getR (M := mX10_richest) hb fX10_48 (pc' := 115) rfl (pz_dc dX10_richest 65 rfl) (fun a9 hb => ?_)
    refine pz_iconst (pc' := 116) (v := 0) rfl (pz_dc dX10_richest 66 rfl) ki_0 ?_
    refine pz_cVi (M := mX10_richest) (N := mX10_sumOf) (d' := 0) (bc1 := 0) (bs1 := 0) (bc2 := bc) (bs2 := bs) (pc' := 119) [.ref a9, .int 0] hb vX10_227 rfl (pz_dc dX10_richest 67 rfl) rfl (Nat.le_of_ble_eq_true rfl) (Nat.le_of_ble_eq_true rfl) rfl (by omega) (by omega) (by omega) (fun x11 h10 hb => ?_)
    refine pz_iload_n (pc' := 120) (x := x6) 0 rfl (pz_dc dX10_richest 68 rfl) rfl ?_
    refine pz_isub (pc' := 121) rfl (pz_dc dX10_richest 69 rfl) ?_
    refine pz_i2l (pc' := 122) rfl (pz_dc dX10_richest 70 rfl) ?_
    refine pz_cVv (M := mX10_richest) (N := mX10_tell) (d' := 0) (bc1 := 0) (bs1 := 0) (bc2 := bc) (bs2 := bs) (pc' := 125) [.long ((x11 - x6).toInt64)] hb vX10_248 rfl (pz_dc dX10_richest 71 rfl) rfl (Nat.le_of_ble_eq_true rfl) (Nat.le_of_ble_eq_true rfl) rfl (by omega) (by omega) (by omega) (fun h12 hb => ?_)
    refine pz_iload_n (pc' := 126) (x := l2) 2 rfl (pz_dc dX10_richest 72 rfl) rfl ?_
    exact pz_iret (pz_dc dX10_richest 73 rfl) rfl hb
  · replace hb := hb.2 hc
    refine pz_aload_n (pc' := 32) (x := l0) 0 rfl (pz_dc dX10_richest 20 rfl) rfl ?_
    refine pz_aload_n (pc' := 33) (x := l0) 0 rfl (pz_dc dX10_richest 21 rfl) rfl ?_
    refine pz_getR (M := mX10_richest) hb fX10_48 (pc' := 36) rfl (pz_dc dX10_richest 22 rfl) (fun a13 hb => ?_)
    refine pz_aload_n (pc' := 37) (x := l0) 0 rfl (pz_dc dX10_richest 23 rfl) rfl ?_
    refine pz_aload_n (pc' := 38) (x := l0) 0 rfl (pz_dc dX10_richest 24 rfl) rfl ?_
    refine pz_getR (M := mX10_richest) hb fX10_48 (pc' := 41) rfl (pz_dc dX10_richest 25 rfl) (fun a14 hb => ?_)
    refine pz_iload_n (pc' := 42) (x := l3) 2 rfl (pz_dc dX10_richest 26 rfl) rfl ?_
    refine pz_cVi (M := mX10_richest) (N := mX10_ownOf) (d' := 0) (bc1 := 0) (bs1 := 0) (bc2 := bc) (bs2 := bs) (pc' := 45) [.ref a14, .int l3] hb vX10_284 rfl (pz_dc dX10_richest 27 rfl) rfl (Nat.le_of_ble_eq_true rfl) (Nat.le_of_ble_eq_true rfl) rfl (by omega) (by omega) (by omega) (fun x16 h15 hb => ?_)
    refine pz_cVi (M := mX10_richest) (N := mX10_levelOf) (d' := 1) (bc1 := 0) (bs1 := 0) (bc2 := bc) (bs2 := bs) (pc' := 48) [.ref a13, .int x16] hb vX10_287 rfl (pz_dc dX10_richest 28 rfl) rfl (Nat.le_of_ble_eq_true rfl) (Nat.le_of_ble_eq_true rfl) rfl (by omega) (by omega) (by omega) (fun x18 h17 hb => ?_)
    refine pz_aload_n (pc' := 49) (x := l0) 0 rfl (pz_dc dX10_richest 29 rfl) rfl ?_
    refine pz_aload_n (pc' := 50) (x := l0) 0 rfl (pz_dc dX10_richest 30 rfl) rfl ?_
    refine pz_getR (M := mX10_richest) hb fX10_48 (pc' := 53) rfl (pz_dc dX10_richest 31 rfl) (fun a19 hb => ?_)
    refine pz_aload_n (pc' := 54) (x := l0) 0 rfl (pz_dc dX10_richest 32 rfl) rfl ?_
    refine pz_aload_n (pc' := 55) (x := l0) 0 rfl (pz_dc dX10_richest 33 rfl) rfl ?_
    refine pz_getR (M := mX10_richest) hb fX10_48 (pc' := 58) rfl (pz_dc dX10_richest 34 rfl) (fun a20 hb => ?_)
    refine pz_iload_n (pc' := 59) (x := l2) 1 rfl (pz_dc dX10_richest 35 rfl) rfl ?_
    refine pz_cVi (M := mX10_richest) (N := mX10_ownOf) (d' := 0) (bc1 := 0) (bs1 := 0) (bc2 := bc) (bs2 := bs) (pc' := 62) [.ref a20, .int l2] hb vX10_284 rfl (pz_dc dX10_richest 36 rfl) rfl (Nat.le_of_ble_eq_true rfl) (Nat.le_of_ble_eq_true rfl) rfl (by omega) (by omega) (by omega) (fun x22 h21 hb => ?_)
    refine pz_cVi (M := mX10_richest) (N := mX10_levelOf) (d' := 1) (bc1 := 0) (bs1 := 0) (bc2 := bc) (bs2 := bs) (pc' := 65) [.ref a19, .int x22] hb vX10_287 rfl (pz_dc dX10_richest 37 rfl) rfl (Nat.le_of_ble_eq_true rfl) (Nat.le_of_ble_eq_true rfl) rfl (by omega) (by omega) (by omega) (fun x24 h23 hb => ?_)
    refine pz_icmp_le (pc' := 68) (tgt := 72) rfl (pz_dc dX10_richest 38 rfl) (by decide) (fun hc => ?_) (fun hc => ?_)
    · replace hb := hb.1 hc
      refine pz_iload_n (pc' := 73) (x := l2) 1 rfl (pz_dc dX10_richest 41 rfl) rfl ?_
      refine pz_istore_n (pc' := 74) (lv' := [(2, .int l2), (0, .ref l0), (3, .int l3)]) rfl (pz_dc dX10_richest 42 rfl) (by decide) rfl ?_
      refine pz_iinc (pc' := 77) (x := l3) (v := l3 + (1 : Int32)) (lv' := [(3, .int (l3 + (1 : Int32))), (2, .int l2), (0, .ref l0)]) 2 rfl (pz_dc dX10_richest 43 rfl) rfl rfl (by decide) rfl ?_
      refine pz_goto (pc' := 26) (pz_dc dX10_richest 44 rfl) (by decide) ?_
      refine pz_lv (lv' := [(0, .ref l0), (2, .int l2), (3, .int (l3 + (1 : Int32)))]) [2, 1, 0] rfl ?_
      exact hb
    · replace hb := hb.2 hc
      refine pz_iload_n (pc' := 69) (x := l3) 2 rfl (pz_dc dX10_richest 39 rfl) rfl ?_
      refine pz_goto (pc' := 73) (pz_dc dX10_richest 40 rfl) (by decide) ?_
      refine pz_istore_n (pc' := 74) (lv' := [(2, .int l3), (0, .ref l0), (3, .int l3)]) rfl (pz_dc dX10_richest 42 rfl) (by decide) rfl ?_
      refine pz_iinc (pc' := 77) (x := l3) (v := l3 + (1 : Int32)) (lv' := [(3, .int (l3 + (1 : Int32))), (2, .int l3), (0, .ref l0)]) 2 rfl (pz_dc dX10_richest 43 rfl) rfl rfl (by decide) rfl ?_
      refine pz_goto (pc' := 26) (pz_dc dX10_richest 44 rfl) (by decide) ?_
      refine pz_lv (lv' := [(0, .ref l0), (2, .int l3), (3, .int (l3 + (1 : Int32)))]) [2, 1, 0] rfl ?_
      exact hb
