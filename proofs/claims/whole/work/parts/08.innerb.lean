set_option maxRecDepth 20000 in
set_option maxHeartbeats 4000000 in
theorem wX4_add_0 {Ex : State → Nat → Prop} {Q : Option Value → pz_H → Prop} {d bc bs : Nat} {l0 : Nat} {l1 : Int64}  {h : pz_H}  (hb : pz_gI h l0 4 1 (fun (x1 : Int32) => pz_gR h l0 4 0 (fun (a2 : Nat) => pz_lJ h a2 (fun (x3 : Int32) => (x3 ≤ x1 → Q none h) ∧ (¬ x3 ≤ x1 → pz_gR h l0 4 0 (fun (a4 : Nat) => pz_gI h l0 4 1 (fun (x5 : Int32) => pz_sJ h a4 x5 l1 (fun (h6 : pz_H) => pz_gI h6 l0 4 1 (fun (x7 : Int32) => pz_pF h6 l0 4 1 (.int (x7 + ((1 : Int32)))) (fun (h8 : pz_H) => Q none h8)))))))))) : pz_V mX4_add Ex Q d bc bs 0 [(0, .ref l0), (1, .long l1)] [] h := by
  refine pz_aload_n (pc' := 1) (x := l0) 0 rfl (pz_dc dX4_add 0 rfl) rfl ?_
  refine pz_getI (M := mX4_add) hb fX4_15 (pc' := 4) rfl (pz_dc dX4_add 1 rfl) (fun x1 hb => ?_)
  refine pz_aload_n (pc' := 5) (x := l0) 0 rfl (pz_dc dX4_add 2 rfl) rfl ?_
  refine pz_getR (M := mX4_add) hb fX4_9 (pc' := 8) rfl (pz_dc dX4_add 3 rfl) (fun a2 hb => ?_)
  refine pz_lenJ hb (pc' := 9) rfl (pz_dc dX4_add 4 rfl) (fun x3 hb => ?_)
  refine pz_icmp_ge (pc' := 12) (tgt := 32) rfl (pz_dc dX4_add 5 rfl) (by decide) (fun hc => ?_) (fun hc => ?_)
  · replace hb := hb.1 hc
    exact pz_vret (pz_dc dX4_add 18 rfl) rfl hb
  · replace hb := hb.2 hc
    refine pz_aload_n (pc' := 13) (x := l0) 0 rfl (pz_dc dX4_add 6 rfl) rfl ?_
    refine pz_getR (M := mX4_add) hb fX4_9 (pc' := 16) rfl (pz_dc dX4_add 7 rfl) (fun a4 hb => ?_)
    refine pz_aload_n (pc' := 17) (x := l0) 0 rfl (pz_dc dX4_add 8 rfl) rfl ?_
    refine pz_getI (M := mX4_add) hb fX4_15 (pc' := 20) rfl (pz_dc dX4_add 9 rfl) (fun x5 hb => ?_)
    refine pz_lload_n (pc' := 21) (x := l1) 1 rfl (pz_dc dX4_add 10 rfl) rfl ?_
    refine pz_stJ hb (pc' := 22) rfl (pz_dc dX4_add 11 rfl) (fun h6 hb => ?_)
    refine pz_aload_n (pc' := 23) (x := l0) 0 rfl (pz_dc dX4_add 12 rfl) rfl ?_
    refine pz_dup (pc' := 24) rfl (pz_dc dX4_add 13 rfl) rfl ?_
    refine pz_getI (M := mX4_add) hb fX4_15 (pc' := 27) rfl (pz_dc dX4_add 14 rfl) (fun x7 hb => ?_)
    refine pz_iconst (pc' := 28) (v := 1) rfl (pz_dc dX4_add 15 rfl) ki_1 ?_
    refine pz_iadd (pc' := 29) rfl (pz_dc dX4_add 16 rfl) ?_
    refine pz_putv (M := mX4_add) hb (pX4_15 _ rfl) rfl rfl (pc' := 32) rfl (pz_dc dX4_add 17 rfl) (fun h8 hb => ?_)
    exact pz_vret (pz_dc dX4_add 18 rfl) rfl hb
set_option maxRecDepth 20000 in
set_option maxHeartbeats 4000000 in
theorem wX4_tell_0 {Ex : State → Nat → Prop} {Q : Option Value → pz_H → Prop} {d bc bs : Nat} {l0 : Nat} {l1 : Int64}  {h : pz_H} (hD : 1 ≤ d) (hb : pz_is h l0 4 ∧ (pz_pF h l0 4 1 (.int 0) (fun (h1 : pz_H) => pz_is h1 l0 4 ∧ (pz_kv mX4_add 0 0 0 (.ref l0 :: [.long l1]) h1 (fun (h2 : pz_H) => Q none h2))))) : pz_V mX4_tell Ex Q d bc bs 0 [(0, .ref l0), (1, .long l1)] [] h := by
  refine pz_aload_n (pc' := 1) (x := l0) 0 rfl (pz_dc dX4_tell 0 rfl) rfl ?_
  obtain ⟨⟨fs3, hf4⟩, hb⟩ := hb
  refine pz_callV (M := mX4_tell) (N := mX4_clear) (d' := 0) (bc1 := 0) (bs1 := 0) (bc2 := bc) (bs2 := bs) (pc' := 4) [] vX4_23 rfl (pz_dc dX4_tell 1 rfl) rfl (Nat.le_of_ble_eq_true rfl) (Nat.le_of_ble_eq_true rfl) rfl (by omega) (by omega) (by omega) hf4 ?_
  refine pz_aload_n (pc' := 1) (x := l0) 0 rfl (pz_dc dX4_clear 0 rfl) rfl ?_
  refine pz_iconst (pc' := 2) (v := 0) rfl (pz_dc dX4_clear 1 rfl) ki_0 ?_
  refine pz_putv (M := mX4_clear) hb (pX4_15 _ rfl) rfl rfl (pc' := 5) rfl (pz_dc dX4_clear 2 rfl) (fun h1 hb => ?_)
  refine pz_vret (pz_dc dX4_clear 3 rfl) rfl ?_
  show pz_V mX4_tell _ _ _ _ _ 4 [(0, .ref l0), (1, .long l1)] [] h1
  refine pz_aload_n (pc' := 5) (x := l0) 0 rfl (pz_dc dX4_tell 2 rfl) rfl ?_
  refine pz_lload_n (pc' := 6) (x := l1) 1 rfl (pz_dc dX4_tell 3 rfl) rfl ?_
  refine pz_cVv (M := mX4_tell) (N := mX4_add) (d' := 0) (bc1 := 0) (bs1 := 0) (bc2 := bc) (bs2 := bs) (pc' := 9) [.long l1] hb vX4_26 rfl (pz_dc dX4_tell 4 rfl) rfl (Nat.le_of_ble_eq_true rfl) (Nat.le_of_ble_eq_true rfl) rfl (by omega) (by omega) (by omega) (fun h2 hb => ?_)
  exact pz_vret (pz_dc dX4_tell 5 rfl) rfl hb
set_option maxRecDepth 20000 in
set_option maxHeartbeats 4000000 in
theorem wX4_tell__0 {Ex : State → Nat → Prop} {Q : Option Value → pz_H → Prop} {d bc bs : Nat} {l0 : Nat} {l1 : Int64} {l3 : Int64}  {h : pz_H} (hD : 2 ≤ d) (hb : pz_is h l0 4 ∧ (pz_kv mX4_tell 1 0 0 (.ref l0 :: [.long l1]) h (fun (h1 : pz_H) => pz_is h1 l0 4 ∧ (pz_kv mX4_add 0 0 0 (.ref l0 :: [.long l3]) h1 (fun (h2 : pz_H) => Q none h2))))) : pz_V mX4_tell_ Ex Q d bc bs 0 [(0, .ref l0), (1, .long l1), (3, .long l3)] [] h := by
  refine pz_aload_n (pc' := 1) (x := l0) 0 rfl (pz_dc dX4_tell_ 0 rfl) rfl ?_
  refine pz_lload_n (pc' := 2) (x := l1) 1 rfl (pz_dc dX4_tell_ 1 rfl) rfl ?_
  refine pz_cVv (M := mX4_tell_) (N := mX4_tell) (d' := 1) (bc1 := 0) (bs1 := 0) (bc2 := bc) (bs2 := bs) (pc' := 5) [.long l1] hb vX4_30 rfl (pz_dc dX4_tell_ 2 rfl) rfl (Nat.le_of_ble_eq_true rfl) (Nat.le_of_ble_eq_true rfl) rfl (by omega) (by omega) (by omega) (fun h1 hb => ?_)
  refine pz_aload_n (pc' := 6) (x := l0) 0 rfl (pz_dc dX4_tell_ 3 rfl) rfl ?_
  refine pz_lload_n (pc' := 7) (x := l3) 2 rfl (pz_dc dX4_tell_ 4 rfl) rfl ?_
  refine pz_cVv (M := mX4_tell_) (N := mX4_add) (d' := 0) (bc1 := 0) (bs1 := 0) (bc2 := bc) (bs2 := bs) (pc' := 10) [.long l3] hb vX4_26 rfl (pz_dc dX4_tell_ 5 rfl) rfl (Nat.le_of_ble_eq_true rfl) (Nat.le_of_ble_eq_true rfl) rfl (by omega) (by omega) (by omega) (fun h2 hb => ?_)
  exact pz_vret (pz_dc dX4_tell_ 6 rfl) rfl hb
set_option maxRecDepth 20000 in
set_option maxHeartbeats 4000000 in
theorem wX4_tell___0 {Ex : State → Nat → Prop} {Q : Option Value → pz_H → Prop} {d bc bs : Nat} {l0 : Nat} {l1 : Int64} {l3 : Int64} {l5 : Int64}  {h : pz_H} (hD : 3 ≤ d) (hb : pz_is h l0 4 ∧ (pz_kv mX4_tell_ 2 0 0 (.ref l0 :: [.long l1, .long l3]) h (fun (h1 : pz_H) => pz_is h1 l0 4 ∧ (pz_kv mX4_add 0 0 0 (.ref l0 :: [.long l5]) h1 (fun (h2 : pz_H) => Q none h2))))) : pz_V mX4_tell__ Ex Q d bc bs 0 [(0, .ref l0), (1, .long l1), (3, .long l3), (5, .long l5)] [] h := by
  refine pz_aload_n (pc' := 1) (x := l0) 0 rfl (pz_dc dX4_tell__ 0 rfl) rfl ?_
  refine pz_lload_n (pc' := 2) (x := l1) 1 rfl (pz_dc dX4_tell__ 1 rfl) rfl ?_
  refine pz_lload_n (pc' := 3) (x := l3) 2 rfl (pz_dc dX4_tell__ 2 rfl) rfl ?_
  refine pz_cVv (M := mX4_tell__) (N := mX4_tell_) (d' := 2) (bc1 := 0) (bs1 := 0) (bc2 := bc) (bs2 := bs) (pc' := 6) [.long l1, .long l3] hb vX4_33 rfl (pz_dc dX4_tell__ 3 rfl) rfl (Nat.le_of_ble_eq_true rfl) (Nat.le_of_ble_eq_true rfl) rfl (by omega) (by omega) (by omega) (fun h1 hb => ?_)
  refine pz_aload_n (pc' := 7) (x := l0) 0 rfl (pz_dc dX4_tell__ 4 rfl) rfl ?_
  refine pz_lload (pc' := 9) (x := l5) 3 rfl (pz_dc dX4_tell__ 5 rfl) rfl ?_
  refine pz_cVv (M := mX4_tell__) (N := mX4_add) (d' := 0) (bc1 := 0) (bs1 := 0) (bc2 := bc) (bs2 := bs) (pc' := 12) [.long l5] hb vX4_26 rfl (pz_dc dX4_tell__ 6 rfl) rfl (Nat.le_of_ble_eq_true rfl) (Nat.le_of_ble_eq_true rfl) rfl (by omega) (by omega) (by omega) (fun h2 hb => ?_)
  exact pz_vret (pz_dc dX4_tell__ 7 rfl) rfl hb
set_option maxRecDepth 20000 in
set_option maxHeartbeats 4000000 in
theorem wX5_init_0 {Ex : State → Nat → Prop} {Q : Option Value → pz_H → Prop} {d bc bs : Nat} {l0 : Nat}  {h : pz_H} (hD : 1 ≤ d) (hb : pz_nI h 40 (bc) (bs) (fun (a1 : Nat) (h2 : pz_H) => pz_pF h2 l0 5 0 (.ref a1) (fun (h3 : pz_H) => pz_nI h3 40 (bc - 1) (bs - 40) (fun (a4 : Nat) (h5 : pz_H) => pz_pF h5 l0 5 1 (.ref a4) (fun (h6 : pz_H) => pz_nI h6 6 (bc - 1 - 1) (bs - 40 - 40) (fun (a7 : Nat) (h8 : pz_H) => pz_pF h8 l0 5 2 (.ref a7) (fun (h9 : pz_H) => Q none h9))))))) : pz_V mX5_init Ex Q d bc bs 0 [(0, .ref l0)] [] h := by
  refine pz_aload_n (pc' := 1) (x := l0) 0 rfl (pz_dc dX5_init 0 rfl) rfl ?_
  refine pz_obj (M := mX5_init) (pc' := 4) wX5_5 pz_oI pz_oC rfl (pz_dc dX5_init 1 rfl) (Nat.le_of_ble_eq_true rfl) (by omega) ?_
  refine pz_aload_n (pc' := 5) (x := l0) 0 rfl (pz_dc dX5_init 2 rfl) rfl ?_
  refine pz_bipush (pc' := 7) (v := 40) rfl (pz_dc dX5_init 3 rfl) kb_40 ?_
  refine pz_mkI hb pz_ac_int (pc' := 9) rfl (pz_dc dX5_init 4 rfl) (by decide) (by decide) (by decide) (fun a1 h2 hb => ?_)
  refine pz_putv (M := mX5_init) hb pX5_11i rfl rfl (pc' := 12) rfl (pz_dc dX5_init 5 rfl) (fun h3 hb => ?_)
  refine pz_aload_n (pc' := 13) (x := l0) 0 rfl (pz_dc dX5_init 6 rfl) rfl ?_
  refine pz_bipush (pc' := 15) (v := 40) rfl (pz_dc dX5_init 7 rfl) kb_40 ?_
  refine pz_mkI hb pz_ac_int (pc' := 17) rfl (pz_dc dX5_init 8 rfl) (by decide) (by decide) (by decide) (fun a4 h5 hb => ?_)
  refine pz_putv (M := mX5_init) hb pX5_15i rfl rfl (pc' := 20) rfl (pz_dc dX5_init 9 rfl) (fun h6 hb => ?_)
  refine pz_aload_n (pc' := 21) (x := l0) 0 rfl (pz_dc dX5_init 10 rfl) rfl ?_
  refine pz_bipush (pc' := 23) (v := 6) rfl (pz_dc dX5_init 11 rfl) kb_6 ?_
  refine pz_mkI hb pz_ac_int (pc' := 25) rfl (pz_dc dX5_init 12 rfl) (by decide) (by decide) (by decide) (fun a7 h8 hb => ?_)
  refine pz_putv (M := mX5_init) hb pX5_18i rfl rfl (pc' := 28) rfl (pz_dc dX5_init 13 rfl) (fun h9 hb => ?_)
  exact pz_vret (pz_dc dX5_init 14 rfl) rfl hb
set_option maxRecDepth 20000 in
set_option maxHeartbeats 4000000 in
theorem wX5_read_0 {Ex : State → Nat → Prop} {Q : Option Value → pz_H → Prop} {d bc bs : Nat} {l0 : Nat} {l1 : Nat}  {h : pz_H} (hD : 41 ≤ d) (hb : pz_pF h l0 5 4 (.ref l1) (fun (h1 : pz_H) => pz_pF h1 l0 5 3 (.int 0) (fun (h2 : pz_H) => pz_pF h2 l0 5 5 (.int 0) (fun (h3 : pz_H) => pz_is h3 l1 6 ∧ (pz_gI h3 l1 6 1 (fun (x4 : Int32) => (x4 = 0 → Q (some (.int ((-1)))) h3) ∧ (¬ x4 = 0 → pz_is h3 l0 5 ∧ (pz_ki mX5_readExpression 40 0 0 (.ref l0 :: [.int 0]) h3 (fun (x6 : Int32) (h5 : pz_H) => (x6 = 0 → pz_gI h5 l0 5 5 (fun (x7 : Int32) => Q (some (.int x7)) h5)) ∧ (¬ x6 = 0 → pz_gI h5 l0 5 5 (fun (x8 : Int32) => pz_is h5 l1 6 ∧ (pz_gI h5 l1 6 1 (fun (x9 : Int32) => (¬ x8 = x9 → pz_gI h5 l0 5 5 (fun (x10 : Int32) => Q (some (.int x10)) h5)) ∧ (x8 = x9 → Q (some (.int ((-1)))) h5)))))))))))))) : pz_V mX5_read Ex Q d bc bs 0 [(0, .ref l0), (1, .ref l1)] [] h := by
  refine pz_aload_n (pc' := 1) (x := l0) 0 rfl (pz_dc dX5_read 0 rfl) rfl ?_
  refine pz_aload_n (pc' := 2) (x := l1) 1 rfl (pz_dc dX5_read 1 rfl) rfl ?_
  refine pz_putv (M := mX5_read) hb (pX5_21 _ rfl) rfl rfl (pc' := 5) rfl (pz_dc dX5_read 2 rfl) (fun h1 hb => ?_)
  refine pz_aload_n (pc' := 6) (x := l0) 0 rfl (pz_dc dX5_read 3 rfl) rfl ?_
  refine pz_iconst (pc' := 7) (v := 0) rfl (pz_dc dX5_read 4 rfl) ki_0 ?_
  refine pz_putv (M := mX5_read) hb (pX5_25 _ rfl) rfl rfl (pc' := 10) rfl (pz_dc dX5_read 5 rfl) (fun h2 hb => ?_)
  refine pz_aload_n (pc' := 11) (x := l0) 0 rfl (pz_dc dX5_read 6 rfl) rfl ?_
  refine pz_iconst (pc' := 12) (v := 0) rfl (pz_dc dX5_read 7 rfl) ki_0 ?_
  refine pz_putv (M := mX5_read) hb (pX5_29 _ rfl) rfl rfl (pc' := 15) rfl (pz_dc dX5_read 8 rfl) (fun h3 hb => ?_)
  refine pz_aload_n (pc' := 16) (x := l1) 1 rfl (pz_dc dX5_read 9 rfl) rfl ?_
  obtain ⟨⟨fs13, hf14⟩, hb⟩ := hb
  refine pz_callV (M := mX5_read) (N := mX6_size) (d' := 0) (bc1 := 0) (bs1 := 0) (bc2 := bc) (bs2 := bs) (pc' := 19) [] vX5_32 rfl (pz_dc dX5_read 10 rfl) rfl (Nat.le_of_ble_eq_true rfl) (Nat.le_of_ble_eq_true rfl) rfl (by omega) (by omega) (by omega) hf14 ?_
  refine pz_aload_n (pc' := 1) (x := l1) 0 rfl (pz_dc dX6_size 0 rfl) rfl ?_
  refine pz_getI (M := mX6_size) hb fX6_13 (pc' := 4) rfl (pz_dc dX6_size 1 rfl) (fun x4 hb => ?_)
  refine pz_iret (pz_dc dX6_size 2 rfl) rfl ?_
  show pz_V mX5_read _ _ _ _ _ 19 [(0, .ref l0), (1, .ref l1)] [.int x4] h3
  refine pz_if_eq (pc' := 22) (tgt := 41) rfl (pz_dc dX5_read 11 rfl) (by decide) (fun hc => ?_) (fun hc => ?_)
  · replace hb := hb.1 hc
    refine pz_iconst (pc' := 42) (v := (-1)) rfl (pz_dc dX5_read 21 rfl) ki_m1 ?_
    exact pz_iret (pz_dc dX5_read 22 rfl) rfl hb
  · replace hb := hb.2 hc
    refine pz_aload_n (pc' := 23) (x := l0) 0 rfl (pz_dc dX5_read 12 rfl) rfl ?_
    refine pz_iconst (pc' := 24) (v := 0) rfl (pz_dc dX5_read 13 rfl) ki_0 ?_
    refine pz_cVi (M := mX5_read) (N := mX5_readExpression) (d' := 40) (bc1 := 0) (bs1 := 0) (bc2 := bc) (bs2 := bs) (pc' := 27) [.int 0] hb vX5_38 rfl (pz_dc dX5_read 14 rfl) rfl (Nat.le_of_ble_eq_true rfl) (Nat.le_of_ble_eq_true rfl) rfl (by omega) (by omega) (by omega) (fun x6 h5 hb => ?_)
    refine pz_if_eq (pc' := 30) (tgt := 43) rfl (pz_dc dX5_read 15 rfl) (by decide) (fun hc => ?_) (fun hc => ?_)
    · replace hb := hb.1 hc
      refine pz_aload_n (pc' := 44) (x := l0) 0 rfl (pz_dc dX5_read 23 rfl) rfl ?_
      refine pz_getI (M := mX5_read) hb fX5_29 (pc' := 47) rfl (pz_dc dX5_read 24 rfl) (fun x7 hb => ?_)
      exact pz_iret (pz_dc dX5_read 25 rfl) rfl hb
    · replace hb := hb.2 hc
      refine pz_aload_n (pc' := 31) (x := l0) 0 rfl (pz_dc dX5_read 16 rfl) rfl ?_
      refine pz_getI (M := mX5_read) hb fX5_29 (pc' := 34) rfl (pz_dc dX5_read 17 rfl) (fun x8 hb => ?_)
      refine pz_aload_n (pc' := 35) (x := l1) 1 rfl (pz_dc dX5_read 18 rfl) rfl ?_
      obtain ⟨⟨fs11, hf12⟩, hb⟩ := hb
      refine pz_callV (M := mX5_read) (N := mX6_size) (d' := 0) (bc1 := 0) (bs1 := 0) (bc2 := bc) (bs2 := bs) (pc' := 38) [] vX5_32 rfl (pz_dc dX5_read 19 rfl) rfl (Nat.le_of_ble_eq_true rfl) (Nat.le_of_ble_eq_true rfl) rfl (by omega) (by omega) (by omega) hf12 ?_
      refine pz_aload_n (pc' := 1) (x := l1) 0 rfl (pz_dc dX6_size 0 rfl) rfl ?_
      refine pz_getI (M := mX6_size) hb fX6_13 (pc' := 4) rfl (pz_dc dX6_size 1 rfl) (fun x9 hb => ?_)
      refine pz_iret (pz_dc dX6_size 2 rfl) rfl ?_
      show pz_V mX5_read _ _ _ _ _ 38 [(0, .ref l0), (1, .ref l1)] [.int x9, .int x8] h5
      refine pz_icmp_ne (pc' := 41) (tgt := 43) rfl (pz_dc dX5_read 20 rfl) (by decide) (fun hc => ?_) (fun hc => ?_)
      · replace hb := hb.1 hc
        refine pz_aload_n (pc' := 44) (x := l0) 0 rfl (pz_dc dX5_read 23 rfl) rfl ?_
        refine pz_getI (M := mX5_read) hb fX5_29 (pc' := 47) rfl (pz_dc dX5_read 24 rfl) (fun x10 hb => ?_)
        exact pz_iret (pz_dc dX5_read 25 rfl) rfl hb
      · replace hb := hb.2 hc
        refine pz_iconst (pc' := 42) (v := (-1)) rfl (pz_dc dX5_read 21 rfl) ki_m1 ?_
        exact pz_iret (pz_dc dX5_read 22 rfl) rfl hb
set_option maxRecDepth 20000 in
set_option maxHeartbeats 4000000 in
theorem wX5_here_0 {Ex : State → Nat → Prop} {Q : Option Value → pz_H → Prop} {d bc bs : Nat} {l0 : Nat}  {h : pz_H} (hD : 1 ≤ d) (hb : pz_gQ h l0 5 4 (fun (o1 : Option Nat) => (∀ z2 : Nat, o1 = some z2 → pz_gR h l0 5 4 (fun (a3 : Nat) => pz_gI h l0 5 5 (fun (x4 : Int32) => pz_is h a3 6 ∧ (pz_ki mX6_at 0 0 0 (.ref a3 :: [.int x4, .int 40]) h (fun (x6 : Int32) (h5 : pz_H) => Q (some (.int x6)) h5))))) ∧ (o1 = none → Q (some (.int ((-1)))) h))) : pz_V mX5_here Ex Q d bc bs 0 [(0, .ref l0)] [] h := by
  refine pz_aload_n (pc' := 1) (x := l0) 0 rfl (pz_dc dX5_here 0 rfl) rfl ?_
  refine pz_getQ (M := mX5_here) hb fX5_21 (pc' := 4) rfl (pz_dc dX5_here 1 rfl) (fun o1 hb => ?_)
  refine pz_ifnonnull (pc' := 7) (tgt := 11) rfl (pz_dc dX5_here 2 rfl) (by decide) (fun z2 hc => ?_) (fun hc => ?_)
  · replace hb := hb.1 z2 hc
    refine pz_aload_n (pc' := 12) (x := l0) 0 rfl (pz_dc dX5_here 5 rfl) rfl ?_
    refine pz_getR (M := mX5_here) hb fX5_21 (pc' := 15) rfl (pz_dc dX5_here 6 rfl) (fun a3 hb => ?_)
    refine pz_aload_n (pc' := 16) (x := l0) 0 rfl (pz_dc dX5_here 7 rfl) rfl ?_
    refine pz_getI (M := mX5_here) hb fX5_29 (pc' := 19) rfl (pz_dc dX5_here 8 rfl) (fun x4 hb => ?_)
    refine pz_bipush (pc' := 21) (v := 40) rfl (pz_dc dX5_here 9 rfl) kb_40 ?_
    refine pz_cVi (M := mX5_here) (N := mX6_at) (d' := 0) (bc1 := 0) (bs1 := 0) (bc2 := bc) (bs2 := bs) (pc' := 24) [.int x4, .int 40] hb vX5_42 rfl (pz_dc dX5_here 10 rfl) rfl (Nat.le_of_ble_eq_true rfl) (Nat.le_of_ble_eq_true rfl) rfl (by omega) (by omega) (by omega) (fun x6 h5 hb => ?_)
    exact pz_iret (pz_dc dX5_here 11 rfl) rfl hb
  · replace hb := hb.2 hc
    refine pz_iconst (pc' := 8) (v := (-1)) rfl (pz_dc dX5_here 3 rfl) ki_m1 ?_
    refine pz_goto (pc' := 24) (pz_dc dX5_here 4 rfl) (by decide) ?_
    exact pz_iret (pz_dc dX5_here 11 rfl) rfl hb
set_option maxRecDepth 20000 in
set_option maxHeartbeats 4000000 in
theorem wX5_addPart_0 {Ex : State → Nat → Prop} {Q : Option Value → pz_H → Prop} {d bc bs : Nat} {l0 : Nat} {l1 : Int32}  {h : pz_H}  (hb : pz_gI h l0 5 3 (fun (x1 : Int32) => pz_gR h l0 5 0 (fun (a2 : Nat) => pz_lI h a2 (fun (x3 : Int32) => (x3 ≤ x1 → Q none h) ∧ (¬ x3 ≤ x1 → pz_gR h l0 5 0 (fun (a4 : Nat) => pz_gI h l0 5 3 (fun (x5 : Int32) => pz_sI h a4 x5 l1 (fun (h6 : pz_H) => pz_gI h6 l0 5 3 (fun (x7 : Int32) => pz_pF h6 l0 5 3 (.int (x7 + ((1 : Int32)))) (fun (h8 : pz_H) => Q none h8)))))))))) : pz_V mX5_addPart Ex Q d bc bs 0 [(0, .ref l0), (1, .int l1)] [] h := by
  refine pz_aload_n (pc' := 1) (x := l0) 0 rfl (pz_dc dX5_addPart 0 rfl) rfl ?_
  refine pz_getI (M := mX5_addPart) hb fX5_25 (pc' := 4) rfl (pz_dc dX5_addPart 1 rfl) (fun x1 hb => ?_)
  refine pz_aload_n (pc' := 5) (x := l0) 0 rfl (pz_dc dX5_addPart 2 rfl) rfl ?_
  refine pz_getR (M := mX5_addPart) hb fX5_11 (pc' := 8) rfl (pz_dc dX5_addPart 3 rfl) (fun a2 hb => ?_)
  refine pz_lenI hb (pc' := 9) rfl (pz_dc dX5_addPart 4 rfl) (fun x3 hb => ?_)
  refine pz_icmp_ge (pc' := 12) (tgt := 32) rfl (pz_dc dX5_addPart 5 rfl) (by decide) (fun hc => ?_) (fun hc => ?_)
  · replace hb := hb.1 hc
    exact pz_vret (pz_dc dX5_addPart 18 rfl) rfl hb
  · replace hb := hb.2 hc
    refine pz_aload_n (pc' := 13) (x := l0) 0 rfl (pz_dc dX5_addPart 6 rfl) rfl ?_
    refine pz_getR (M := mX5_addPart) hb fX5_11 (pc' := 16) rfl (pz_dc dX5_addPart 7 rfl) (fun a4 hb => ?_)
    refine pz_aload_n (pc' := 17) (x := l0) 0 rfl (pz_dc dX5_addPart 8 rfl) rfl ?_
    refine pz_getI (M := mX5_addPart) hb fX5_25 (pc' := 20) rfl (pz_dc dX5_addPart 9 rfl) (fun x5 hb => ?_)
    refine pz_iload_n (pc' := 21) (x := l1) 1 rfl (pz_dc dX5_addPart 10 rfl) rfl ?_
    refine pz_stI hb (pc' := 22) rfl (pz_dc dX5_addPart 11 rfl) (fun h6 hb => ?_)
    refine pz_aload_n (pc' := 23) (x := l0) 0 rfl (pz_dc dX5_addPart 12 rfl) rfl ?_
    refine pz_dup (pc' := 24) rfl (pz_dc dX5_addPart 13 rfl) rfl ?_
    refine pz_getI (M := mX5_addPart) hb fX5_25 (pc' := 27) rfl (pz_dc dX5_addPart 14 rfl) (fun x7 hb => ?_)
    refine pz_iconst (pc' := 28) (v := 1) rfl (pz_dc dX5_addPart 15 rfl) ki_1 ?_
    refine pz_iadd (pc' := 29) rfl (pz_dc dX5_addPart 16 rfl) ?_
    refine pz_putv (M := mX5_addPart) hb (pX5_25 _ rfl) rfl rfl (pc' := 32) rfl (pz_dc dX5_addPart 17 rfl) (fun h8 hb => ?_)
    exact pz_vret (pz_dc dX5_addPart 18 rfl) rfl hb
set_option maxRecDepth 20000 in
set_option maxHeartbeats 4000000 in
theorem wX5_readExpression_0 {Ex : State → Nat → Prop} {Q : Option Value → pz_H → Prop} {d bc bs : Nat} {l0 : Nat} {l1 : Int32}  {h : pz_H} (hD : 2 ≤ d + 1) (hb : pz_is h l0 5 ∧ (pz_ki mX5_readSum d 0 0 (.ref l0 :: [.int l1]) h (fun (x2 : Int32) (h1 : pz_H) => (¬ x2 = 0 → pz_is h1 l0 5 ∧ (pz_ki mX5_here 1 0 0 (.ref l0 :: []) h1 (fun (x4 : Int32) (h3 : pz_H) => (x4 = ((60 : Int32)) → pz_gI h3 l0 5 5 (fun (x5 : Int32) => pz_pF h3 l0 5 5 (.int (x5 + ((1 : Int32)))) (fun (h6 : pz_H) => pz_is h6 l0 5 ∧ (pz_ki mX5_readSum d 0 0 (.ref l0 :: [.int l1]) h6 (fun (x8 : Int32) (h7 : pz_H) => (¬ x8 = 0 → pz_is h7 l0 5 ∧ (pz_kv mX5_addPart 0 0 0 (.ref l0 :: [.int (((2000 : Int32)) + x4)]) h7 (fun (h9 : pz_H) => Q (some (.int 1)) h9))) ∧ (x8 = 0 → Q (some (.int 0)) h7)))))) ∧ (¬ x4 = ((60 : Int32)) → (x4 = ((62 : Int32)) → pz_gI h3 l0 5 5 (fun (x10 : Int32) => pz_pF h3 l0 5 5 (.int (x10 + ((1 : Int32)))) (fun (h11 : pz_H) => pz_is h11 l0 5 ∧ (pz_ki mX5_readSum d 0 0 (.ref l0 :: [.int l1]) h11 (fun (x13 : Int32) (h12 : pz_H) => (¬ x13 = 0 → pz_is h12 l0 5 ∧ (pz_kv mX5_addPart 0 0 0 (.ref l0 :: [.int (((2000 : Int32)) + x4)]) h12 (fun (h14 : pz_H) => Q (some (.int 1)) h14))) ∧ (x13 = 0 → Q (some (.int 0)) h12)))))) ∧ (¬ x4 = ((62 : Int32)) → (x4 = ((61 : Int32)) → pz_gI h3 l0 5 5 (fun (x15 : Int32) => pz_pF h3 l0 5 5 (.int (x15 + ((1 : Int32)))) (fun (h16 : pz_H) => pz_is h16 l0 5 ∧ (pz_ki mX5_readSum d 0 0 (.ref l0 :: [.int l1]) h16 (fun (x18 : Int32) (h17 : pz_H) => (¬ x18 = 0 → pz_is h17 l0 5 ∧ (pz_kv mX5_addPart 0 0 0 (.ref l0 :: [.int (((2000 : Int32)) + x4)]) h17 (fun (h19 : pz_H) => Q (some (.int 1)) h19))) ∧ (x18 = 0 → Q (some (.int 0)) h17)))))) ∧ (¬ x4 = ((61 : Int32)) → Q (some (.int 1)) h3)))))) ∧ (x2 = 0 → Q (some (.int 0)) h1)))) : pz_V mX5_readExpression Ex Q (d + 1) bc bs 0 [(0, .ref l0), (1, .int l1)] [] h := by
  refine pz_aload_n (pc' := 1) (x := l0) 0 rfl (pz_dc dX5_readExpression 0 rfl) rfl ?_
  refine pz_iload_n (pc' := 2) (x := l1) 1 rfl (pz_dc dX5_readExpression 1 rfl) rfl ?_
  refine pz_cVi (M := mX5_readExpression) (N := mX5_readSum) (d' := d) (bc1 := 0) (bs1 := 0) (bc2 := bc) (bs2 := bs) (pc' := 5) [.int l1] hb vX5_45 rfl (pz_dc dX5_readExpression 2 rfl) rfl (Nat.le_of_ble_eq_true rfl) (Nat.le_of_ble_eq_true rfl) rfl (by omega) (by omega) (by omega) (fun x2 h1 hb => ?_)
  refine pz_if_ne (pc' := 8) (tgt := 10) rfl (pz_dc dX5_readExpression 3 rfl) (by decide) (fun hc => ?_) (fun hc => ?_)
  · replace hb := hb.1 hc
    refine pz_aload_n (pc' := 11) (x := l0) 0 rfl (pz_dc dX5_readExpression 6 rfl) rfl ?_
    refine pz_cVi (M := mX5_readExpression) (N := mX5_here) (d' := 1) (bc1 := 0) (bs1 := 0) (bc2 := bc) (bs2 := bs) (pc' := 14) [] hb vX5_48 rfl (pz_dc dX5_readExpression 7 rfl) rfl (Nat.le_of_ble_eq_true rfl) (Nat.le_of_ble_eq_true rfl) rfl (by omega) (by omega) (by omega) (fun x4 h3 hb => ?_)
    refine pz_istore_n (pc' := 15) (lv' := [(2, .int x4), (0, .ref l0), (1, .int l1)]) rfl (pz_dc dX5_readExpression 8 rfl) (by decide) rfl ?_
    refine pz_iload_n (pc' := 16) (x := x4) 0 rfl (pz_dc dX5_readExpression 9 rfl) rfl ?_
    refine pz_bipush (pc' := 18) (v := 60) rfl (pz_dc dX5_readExpression 10 rfl) kb_60 ?_
    refine pz_icmp_eq (pc' := 21) (tgt := 35) rfl (pz_dc dX5_readExpression 11 rfl) (by decide) (fun hc => ?_) (fun hc => ?_)
    · replace hb := hb.1 hc
      refine pz_aload_n (pc' := 36) (x := l0) 1 rfl (pz_dc dX5_readExpression 20 rfl) rfl ?_
      refine pz_dup (pc' := 37) rfl (pz_dc dX5_readExpression 21 rfl) rfl ?_
      refine pz_getI (M := mX5_readExpression) hb fX5_29 (pc' := 40) rfl (pz_dc dX5_readExpression 22 rfl) (fun x5 hb => ?_)
      refine pz_iconst (pc' := 41) (v := 1) rfl (pz_dc dX5_readExpression 23 rfl) ki_1 ?_
      refine pz_iadd (pc' := 42) rfl (pz_dc dX5_readExpression 24 rfl) ?_
      refine pz_putv (M := mX5_readExpression) hb (pX5_29 _ rfl) rfl rfl (pc' := 45) rfl (pz_dc dX5_readExpression 25 rfl) (fun h6 hb => ?_)
      refine pz_aload_n (pc' := 46) (x := l0) 1 rfl (pz_dc dX5_readExpression 26 rfl) rfl ?_
      refine pz_iload_n (pc' := 47) (x := l1) 2 rfl (pz_dc dX5_readExpression 27 rfl) rfl ?_
      refine pz_cVi (M := mX5_readExpression) (N := mX5_readSum) (d' := d) (bc1 := 0) (bs1 := 0) (bc2 := bc) (bs2 := bs) (pc' := 50) [.int l1] hb vX5_45 rfl (pz_dc dX5_readExpression 28 rfl) rfl (Nat.le_of_ble_eq_true rfl) (Nat.le_of_ble_eq_true rfl) rfl (by omega) (by omega) (by omega) (fun x8 h7 hb => ?_)
      refine pz_if_ne (pc' := 53) (tgt := 55) rfl (pz_dc dX5_readExpression 29 rfl) (by decide) (fun hc => ?_) (fun hc => ?_)
      · replace hb := hb.1 hc
        refine pz_aload_n (pc' := 56) (x := l0) 1 rfl (pz_dc dX5_readExpression 32 rfl) rfl ?_
        refine pz_sipush (pc' := 59) (v := 2000) rfl (pz_dc dX5_readExpression 33 rfl) ks_2000 ?_
        refine pz_iload_n (pc' := 60) (x := x4) 0 rfl (pz_dc dX5_readExpression 34 rfl) rfl ?_
        refine pz_iadd (pc' := 61) rfl (pz_dc dX5_readExpression 35 rfl) ?_
        refine pz_cVv (M := mX5_readExpression) (N := mX5_addPart) (d' := 0) (bc1 := 0) (bs1 := 0) (bc2 := bc) (bs2 := bs) (pc' := 64) [.int (((2000 : Int32)) + x4)] hb vX5_51 rfl (pz_dc dX5_readExpression 36 rfl) rfl (Nat.le_of_ble_eq_true rfl) (Nat.le_of_ble_eq_true rfl) rfl (by omega) (by omega) (by omega) (fun h9 hb => ?_)
        refine pz_iconst (pc' := 65) (v := 1) rfl (pz_dc dX5_readExpression 37 rfl) ki_1 ?_
        exact pz_zret (pz_dc dX5_readExpression 38 rfl) rfl ⟨by decide, hb⟩
      · replace hb := hb.2 hc
        refine pz_iconst (pc' := 54) (v := 0) rfl (pz_dc dX5_readExpression 30 rfl) ki_0 ?_
        exact pz_zret (pz_dc dX5_readExpression 31 rfl) rfl ⟨by decide, hb⟩
    · replace hb := hb.2 hc
      refine pz_iload_n (pc' := 22) (x := x4) 0 rfl (pz_dc dX5_readExpression 12 rfl) rfl ?_
      refine pz_bipush (pc' := 24) (v := 62) rfl (pz_dc dX5_readExpression 13 rfl) kb_62 ?_
      refine pz_icmp_eq (pc' := 27) (tgt := 35) rfl (pz_dc dX5_readExpression 14 rfl) (by decide) (fun hc => ?_) (fun hc => ?_)
      · replace hb := hb.1 hc
        refine pz_aload_n (pc' := 36) (x := l0) 1 rfl (pz_dc dX5_readExpression 20 rfl) rfl ?_
        refine pz_dup (pc' := 37) rfl (pz_dc dX5_readExpression 21 rfl) rfl ?_
        refine pz_getI (M := mX5_readExpression) hb fX5_29 (pc' := 40) rfl (pz_dc dX5_readExpression 22 rfl) (fun x10 hb => ?_)
        refine pz_iconst (pc' := 41) (v := 1) rfl (pz_dc dX5_readExpression 23 rfl) ki_1 ?_
        refine pz_iadd (pc' := 42) rfl (pz_dc dX5_readExpression 24 rfl) ?_
        refine pz_putv (M := mX5_readExpression) hb (pX5_29 _ rfl) rfl rfl (pc' := 45) rfl (pz_dc dX5_readExpression 25 rfl) (fun h11 hb => ?_)
        refine pz_aload_n (pc' := 46) (x := l0) 1 rfl (pz_dc dX5_readExpression 26 rfl) rfl ?_
        refine pz_iload_n (pc' := 47) (x := l1) 2 rfl (pz_dc dX5_readExpression 27 rfl) rfl ?_
        refine pz_cVi (M := mX5_readExpression) (N := mX5_readSum) (d' := d) (bc1 := 0) (bs1 := 0) (bc2 := bc) (bs2 := bs) (pc' := 50) [.int l1] hb vX5_45 rfl (pz_dc dX5_readExpression 28 rfl) rfl (Nat.le_of_ble_eq_true rfl) (Nat.le_of_ble_eq_true rfl) rfl (by omega) (by omega) (by omega) (fun x13 h12 hb => ?_)
        refine pz_if_ne (pc' := 53) (tgt := 55) rfl (pz_dc dX5_readExpression 29 rfl) (by decide) (fun hc => ?_) (fun hc => ?_)
        · replace hb := hb.1 hc
          refine pz_aload_n (pc' := 56) (x := l0) 1 rfl (pz_dc dX5_readExpression 32 rfl) rfl ?_
          refine pz_sipush (pc' := 59) (v := 2000) rfl (pz_dc dX5_readExpression 33 rfl) ks_2000 ?_
          refine pz_iload_n (pc' := 60) (x := x4) 0 rfl (pz_dc dX5_readExpression 34 rfl) rfl ?_
          refine pz_iadd (pc' := 61) rfl (pz_dc dX5_readExpression 35 rfl) ?_
          refine pz_cVv (M := mX5_readExpression) (N := mX5_addPart) (d' := 0) (bc1 := 0) (bs1 := 0) (bc2 := bc) (bs2 := bs) (pc' := 64) [.int (((2000 : Int32)) + x4)] hb vX5_51 rfl (pz_dc dX5_readExpression 36 rfl) rfl (Nat.le_of_ble_eq_true rfl) (Nat.le_of_ble_eq_true rfl) rfl (by omega) (by omega) (by omega) (fun h14 hb => ?_)
          refine pz_iconst (pc' := 65) (v := 1) rfl (pz_dc dX5_readExpression 37 rfl) ki_1 ?_
          exact pz_zret (pz_dc dX5_readExpression 38 rfl) rfl ⟨by decide, hb⟩
        · replace hb := hb.2 hc
          refine pz_iconst (pc' := 54) (v := 0) rfl (pz_dc dX5_readExpression 30 rfl) ki_0 ?_
          exact pz_zret (pz_dc dX5_readExpression 31 rfl) rfl ⟨by decide, hb⟩
      · replace hb := hb.2 hc
        refine pz_iload_n (pc' := 28) (x := x4) 0 rfl (pz_dc dX5_readExpression 15 rfl) rfl ?_
        refine pz_bipush (pc' := 30) (v := 61) rfl (pz_dc dX5_readExpression 16 rfl) kb_61 ?_
        refine pz_icmp_eq (pc' := 33) (tgt := 35) rfl (pz_dc dX5_readExpression 17 rfl) (by decide) (fun hc => ?_) (fun hc => ?_)
        · replace hb := hb.1 hc
          refine pz_aload_n (pc' := 36) (x := l0) 1 rfl (pz_dc dX5_readExpression 20 rfl) rfl ?_
          refine pz_dup (pc' := 37) rfl (pz_dc dX5_readExpression 21 rfl) rfl ?_
          refine pz_getI (M := mX5_readExpression) hb fX5_29 (pc' := 40) rfl (pz_dc dX5_readExpression 22 rfl) (fun x15 hb => ?_)
          refine pz_iconst (pc' := 41) (v := 1) rfl (pz_dc dX5_readExpression 23 rfl) ki_1 ?_
          refine pz_iadd (pc' := 42) rfl (pz_dc dX5_readExpression 24 rfl) ?_
          refine pz_putv (M := mX5_readExpression) hb (pX5_29 _ rfl) rfl rfl (pc' := 45) rfl (pz_dc dX5_readExpression 25 rfl) (fun h16 hb => ?_)
          refine pz_aload_n (pc' := 46) (x := l0) 1 rfl (pz_dc dX5_readExpression 26 rfl) rfl ?_
          refine pz_iload_n (pc' := 47) (x := l1) 2 rfl (pz_dc dX5_readExpression 27 rfl) rfl ?_
          refine pz_cVi (M := mX5_readExpression) (N := mX5_readSum) (d' := d) (bc1 := 0) (bs1 := 0) (bc2 := bc) (bs2 := bs) (pc' := 50) [.int l1] hb vX5_45 rfl (pz_dc dX5_readExpression 28 rfl) rfl (Nat.le_of_ble_eq_true rfl) (Nat.le_of_ble_eq_true rfl) rfl (by omega) (by omega) (by omega) (fun x18 h17 hb => ?_)
          refine pz_if_ne (pc' := 53) (tgt := 55) rfl (pz_dc dX5_readExpression 29 rfl) (by decide) (fun hc => ?_) (fun hc => ?_)
          · replace hb := hb.1 hc
            refine pz_aload_n (pc' := 56) (x := l0) 1 rfl (pz_dc dX5_readExpression 32 rfl) rfl ?_
            refine pz_sipush (pc' := 59) (v := 2000) rfl (pz_dc dX5_readExpression 33 rfl) ks_2000 ?_
            refine pz_iload_n (pc' := 60) (x := x4) 0 rfl (pz_dc dX5_readExpression 34 rfl) rfl ?_
            refine pz_iadd (pc' := 61) rfl (pz_dc dX5_readExpression 35 rfl) ?_
            refine pz_cVv (M := mX5_readExpression) (N := mX5_addPart) (d' := 0) (bc1 := 0) (bs1 := 0) (bc2 := bc) (bs2 := bs) (pc' := 64) [.int (((2000 : Int32)) + x4)] hb vX5_51 rfl (pz_dc dX5_readExpression 36 rfl) rfl (Nat.le_of_ble_eq_true rfl) (Nat.le_of_ble_eq_true rfl) rfl (by omega) (by omega) (by omega) (fun h19 hb => ?_)
            refine pz_iconst (pc' := 65) (v := 1) rfl (pz_dc dX5_readExpression 37 rfl) ki_1 ?_
            exact pz_zret (pz_dc dX5_readExpression 38 rfl) rfl ⟨by decide, hb⟩
          · replace hb := hb.2 hc
            refine pz_iconst (pc' := 54) (v := 0) rfl (pz_dc dX5_readExpression 30 rfl) ki_0 ?_
            exact pz_zret (pz_dc dX5_readExpression 31 rfl) rfl ⟨by decide, hb⟩
        · replace hb := hb.2 hc
          refine pz_iconst (pc' := 34) (v := 1) rfl (pz_dc dX5_readExpression 18 rfl) ki_1 ?_
          exact pz_zret (pz_dc dX5_readExpression 19 rfl) rfl ⟨by decide, hb⟩
  · replace hb := hb.2 hc
    refine pz_iconst (pc' := 9) (v := 0) rfl (pz_dc dX5_readExpression 4 rfl) ki_0 ?_
    exact pz_zret (pz_dc dX5_readExpression 5 rfl) rfl ⟨by decide, hb⟩
set_option maxRecDepth 20000 in
set_option maxHeartbeats 4000000 in
theorem wX5_readSum_0 {Ex : State → Nat → Prop} {Q : Option Value → pz_H → Prop} {d bc bs : Nat} {l0 : Nat} {l1 : Int32}  {h : pz_H} (hD : 2 ≤ d + 1) (hb : pz_is h l0 5 ∧ (pz_ki mX5_readProduct d 0 0 (.ref l0 :: [.int l1]) h (fun (x2 : Int32) (h1 : pz_H) => (¬ x2 = 0 → pz_V mX5_readSum Ex Q (d + 1) bc bs 12 [(0, .ref l0), (1, .int l1), (2, .int 0)] [] h1) ∧ (x2 = 0 → Q (some (.int 0)) h1)))) : pz_V mX5_readSum Ex Q (d + 1) bc bs 0 [(0, .ref l0), (1, .int l1)] [] h := by
  refine pz_aload_n (pc' := 1) (x := l0) 0 rfl (pz_dc dX5_readSum 0 rfl) rfl ?_
  refine pz_iload_n (pc' := 2) (x := l1) 1 rfl (pz_dc dX5_readSum 1 rfl) rfl ?_
  refine pz_cVi (M := mX5_readSum) (N := mX5_readProduct) (d' := d) (bc1 := 0) (bs1 := 0) (bc2 := bc) (bs2 := bs) (pc' := 5) [.int l1] hb vX5_55 rfl (pz_dc dX5_readSum 2 rfl) rfl (Nat.le_of_ble_eq_true rfl) (Nat.le_of_ble_eq_true rfl) rfl (by omega) (by omega) (by omega) (fun x2 h1 hb => ?_)
  refine pz_if_ne (pc' := 8) (tgt := 10) rfl (pz_dc dX5_readSum 3 rfl) (by decide) (fun hc => ?_) (fun hc => ?_)
  · replace hb := hb.1 hc
    refine pz_iconst (pc' := 11) (v := 0) rfl (pz_dc dX5_readSum 6 rfl) ki_0 ?_
    refine pz_istore_n (pc' := 12) (lv' := [(2, .int 0), (0, .ref l0), (1, .int l1)]) rfl (pz_dc dX5_readSum 7 rfl) (by decide) rfl ?_
    refine pz_lv (lv' := [(0, .ref l0), (1, .int l1), (2, .int 0)]) [1, 2, 0] rfl ?_
    exact hb
  · replace hb := hb.2 hc
    refine pz_iconst (pc' := 9) (v := 0) rfl (pz_dc dX5_readSum 4 rfl) ki_0 ?_
    exact pz_zret (pz_dc dX5_readSum 5 rfl) rfl ⟨by decide, hb⟩
set_option maxRecDepth 20000 in
set_option maxHeartbeats 4000000 in
theorem wX5_readSum_12 {Ex : State → Nat → Prop} {Q : Option Value → pz_H → Prop} {d bc bs : Nat} {l0 : Nat} {l1 : Int32} {l2 : Int32}  {h : pz_H} (hD : 2 ≤ d + 1) (hb : (((40 : Int32)) ≤ l2 → Q (some (.int 1)) h) ∧ (¬ ((40 : Int32)) ≤ l2 → pz_is h l0 5 ∧ (pz_ki mX5_here 1 0 0 (.ref l0 :: []) h (fun (x2 : Int32) (h1 : pz_H) => (x2 = ((43 : Int32)) → pz_gI h1 l0 5 5 (fun (x3 : Int32) => pz_pF h1 l0 5 5 (.int (x3 + ((1 : Int32)))) (fun (h4 : pz_H) => pz_is h4 l0 5 ∧ (pz_ki mX5_readProduct d 0 0 (.ref l0 :: [.int l1]) h4 (fun (x6 : Int32) (h5 : pz_H) => (¬ x6 = 0 → pz_is h5 l0 5 ∧ (pz_kv mX5_addPart 0 0 0 (.ref l0 :: [.int (((2000 : Int32)) + x2)]) h5 (fun (h7 : pz_H) => pz_V mX5_readSum Ex Q (d + 1) bc bs 12 [(0, .ref l0), (1, .int l1), (2, .int (l2 + (1 : Int32)))] [] h7))) ∧ (x6 = 0 → Q (some (.int 0)) h5)))))) ∧ (¬ x2 = ((43 : Int32)) → (x2 = ((45 : Int32)) → pz_gI h1 l0 5 5 (fun (x8 : Int32) => pz_pF h1 l0 5 5 (.int (x8 + ((1 : Int32)))) (fun (h9 : pz_H) => pz_is h9 l0 5 ∧ (pz_ki mX5_readProduct d 0 0 (.ref l0 :: [.int l1]) h9 (fun (x11 : Int32) (h10 : pz_H) => (¬ x11 = 0 → pz_is h10 l0 5 ∧ (pz_kv mX5_addPart 0 0 0 (.ref l0 :: [.int (((2000 : Int32)) + x2)]) h10 (fun (h12 : pz_H) => pz_V mX5_readSum Ex Q (d + 1) bc bs 12 [(0, .ref l0), (1, .int l1), (2, .int (l2 + (1 : Int32)))] [] h12))) ∧ (x11 = 0 → Q (some (.int 0)) h10)))))) ∧ (¬ x2 = ((45 : Int32)) → Q (some (.int 1)) h1)))))) : pz_V mX5_readSum Ex Q (d + 1) bc bs 12 [(0, .ref l0), (1, .int l1), (2, .int l2)] [] h := by
  refine pz_iload_n (pc' := 13) (x := l2) 2 rfl (pz_dc dX5_readSum 8 rfl) rfl ?_
  refine pz_bipush (pc' := 15) (v := 40) rfl (pz_dc dX5_readSum 9 rfl) kb_40 ?_
  refine pz_icmp_ge (pc' := 18) (tgt := 72) rfl (pz_dc dX5_readSum 10 rfl) (by decide) (fun hc => ?_) (fun hc => ?_)
  · replace hb := hb.1 hc
    refine pz_iconst (pc' := 73) (v := 1) rfl (pz_dc dX5_readSum 41 rfl) ki_1 ?_
    exact pz_zret (pz_dc dX5_readSum 42 rfl) rfl ⟨by decide, hb⟩
  · replace hb := hb.2 hc
    refine pz_aload_n (pc' := 19) (x := l0) 0 rfl (pz_dc dX5_readSum 11 rfl) rfl ?_
    refine pz_cVi (M := mX5_readSum) (N := mX5_here) (d' := 1) (bc1 := 0) (bs1 := 0) (bc2 := bc) (bs2 := bs) (pc' := 22) [] hb vX5_48 rfl (pz_dc dX5_readSum 12 rfl) rfl (Nat.le_of_ble_eq_true rfl) (Nat.le_of_ble_eq_true rfl) rfl (by omega) (by omega) (by omega) (fun x2 h1 hb => ?_)
    refine pz_istore_n (pc' := 23) (lv' := [(3, .int x2), (0, .ref l0), (1, .int l1), (2, .int l2)]) rfl (pz_dc dX5_readSum 13 rfl) (by decide) rfl ?_
    refine pz_iload_n (pc' := 24) (x := x2) 0 rfl (pz_dc dX5_readSum 14 rfl) rfl ?_
    refine pz_bipush (pc' := 26) (v := 43) rfl (pz_dc dX5_readSum 15 rfl) kb_43 ?_
    refine pz_icmp_eq (pc' := 29) (tgt := 37) rfl (pz_dc dX5_readSum 16 rfl) (by decide) (fun hc => ?_) (fun hc => ?_)
    · replace hb := hb.1 hc
      refine pz_aload_n (pc' := 38) (x := l0) 1 rfl (pz_dc dX5_readSum 22 rfl) rfl ?_
      refine pz_dup (pc' := 39) rfl (pz_dc dX5_readSum 23 rfl) rfl ?_
      refine pz_getI (M := mX5_readSum) hb fX5_29 (pc' := 42) rfl (pz_dc dX5_readSum 24 rfl) (fun x3 hb => ?_)
      refine pz_iconst (pc' := 43) (v := 1) rfl (pz_dc dX5_readSum 25 rfl) ki_1 ?_
      refine pz_iadd (pc' := 44) rfl (pz_dc dX5_readSum 26 rfl) ?_
      refine pz_putv (M := mX5_readSum) hb (pX5_29 _ rfl) rfl rfl (pc' := 47) rfl (pz_dc dX5_readSum 27 rfl) (fun h4 hb => ?_)
      refine pz_aload_n (pc' := 48) (x := l0) 1 rfl (pz_dc dX5_readSum 28 rfl) rfl ?_
      refine pz_iload_n (pc' := 49) (x := l1) 2 rfl (pz_dc dX5_readSum 29 rfl) rfl ?_
      refine pz_cVi (M := mX5_readSum) (N := mX5_readProduct) (d' := d) (bc1 := 0) (bs1 := 0) (bc2 := bc) (bs2 := bs) (pc' := 52) [.int l1] hb vX5_55 rfl (pz_dc dX5_readSum 30 rfl) rfl (Nat.le_of_ble_eq_true rfl) (Nat.le_of_ble_eq_true rfl) rfl (by omega) (by omega) (by omega) (fun x6 h5 hb => ?_)
      refine pz_if_ne (pc' := 55) (tgt := 57) rfl (pz_dc dX5_readSum 31 rfl) (by decide) (fun hc => ?_) (fun hc => ?_)
      · replace hb := hb.1 hc
        refine pz_aload_n (pc' := 58) (x := l0) 1 rfl (pz_dc dX5_readSum 34 rfl) rfl ?_
        refine pz_sipush (pc' := 61) (v := 2000) rfl (pz_dc dX5_readSum 35 rfl) ks_2000 ?_
        refine pz_iload_n (pc' := 62) (x := x2) 0 rfl (pz_dc dX5_readSum 36 rfl) rfl ?_
        refine pz_iadd (pc' := 63) rfl (pz_dc dX5_readSum 37 rfl) ?_
        refine pz_cVv (M := mX5_readSum) (N := mX5_addPart) (d' := 0) (bc1 := 0) (bs1 := 0) (bc2 := bc) (bs2 := bs) (pc' := 66) [.int (((2000 : Int32)) + x2)] hb vX5_51 rfl (pz_dc dX5_readSum 38 rfl) rfl (Nat.le_of_ble_eq_true rfl) (Nat.le_of_ble_eq_true rfl) rfl (by omega) (by omega) (by omega) (fun h7 hb => ?_)
        refine pz_iinc (pc' := 69) (x := l2) (v := l2 + (1 : Int32)) (lv' := [(2, .int (l2 + (1 : Int32))), (3, .int x2), (0, .ref l0), (1, .int l1)]) 3 rfl (pz_dc dX5_readSum 39 rfl) rfl rfl (by decide) rfl ?_
        refine pz_goto (pc' := 12) (pz_dc dX5_readSum 40 rfl) (by decide) ?_
        refine pz_lv (lv' := [(0, .ref l0), (1, .int l1), (2, .int (l2 + (1 : Int32)))]) [2, 3, 0] rfl ?_
        exact hb
      · replace hb := hb.2 hc
        refine pz_iconst (pc' := 56) (v := 0) rfl (pz_dc dX5_readSum 32 rfl) ki_0 ?_
        exact pz_zret (pz_dc dX5_readSum 33 rfl) rfl ⟨by decide, hb⟩
    · replace hb := hb.2 hc
      refine pz_iload_n (pc' := 30) (x := x2) 0 rfl (pz_dc dX5_readSum 17 rfl) rfl ?_
      refine pz_bipush (pc' := 32) (v := 45) rfl (pz_dc dX5_readSum 18 rfl) kb_45 ?_
      refine pz_icmp_eq (pc' := 35) (tgt := 37) rfl (pz_dc dX5_readSum 19 rfl) (by decide) (fun hc => ?_) (fun hc => ?_)
      · replace hb := hb.1 hc
        refine pz_aload_n (pc' := 38) (x := l0) 1 rfl (pz_dc dX5_readSum 22 rfl) rfl ?_
        refine pz_dup (pc' := 39) rfl (pz_dc dX5_readSum 23 rfl) rfl ?_
        refine pz_getI (M := mX5_readSum) hb fX5_29 (pc' := 42) rfl (pz_dc dX5_readSum 24 rfl) (fun x8 hb => ?_)
        refine pz_iconst (pc' := 43) (v := 1) rfl (pz_dc dX5_readSum 25 rfl) ki_1 ?_
        refine pz_iadd (pc' := 44) rfl (pz_dc dX5_readSum 26 rfl) ?_
        refine pz_putv (M := mX5_readSum) hb (pX5_29 _ rfl) rfl rfl (pc' := 47) rfl (pz_dc dX5_readSum 27 rfl) (fun h9 hb => ?_)
        refine pz_aload_n (pc' := 48) (x := l0) 1 rfl (pz_dc dX5_readSum 28 rfl) rfl ?_
        refine pz_iload_n (pc' := 49) (x := l1) 2 rfl (pz_dc dX5_readSum 29 rfl) rfl ?_
        refine pz_cVi (M := mX5_readSum) (N := mX5_readProduct) (d' := d) (bc1 := 0) (bs1 := 0) (bc2 := bc) (bs2 := bs) (pc' := 52) [.int l1] hb vX5_55 rfl (pz_dc dX5_readSum 30 rfl) rfl (Nat.le_of_ble_eq_true rfl) (Nat.le_of_ble_eq_true rfl) rfl (by omega) (by omega) (by omega) (fun x11 h10 hb => ?_)
        refine pz_if_ne (pc' := 55) (tgt := 57) rfl (pz_dc dX5_readSum 31 rfl) (by decide) (fun hc => ?_) (fun hc => ?_)
        · replace hb := hb.1 hc
          refine pz_aload_n (pc' := 58) (x := l0) 1 rfl (pz_dc dX5_readSum 34 rfl) rfl ?_
          refine pz_sipush (pc' := 61) (v := 2000) rfl (pz_dc dX5_readSum 35 rfl) ks_2000 ?_
          refine pz_iload_n (pc' := 62) (x := x2) 0 rfl (pz_dc dX5_readSum 36 rfl) rfl ?_
          refine pz_iadd (pc' := 63) rfl (pz_dc dX5_readSum 37 rfl) ?_
          refine pz_cVv (M := mX5_readSum) (N := mX5_addPart) (d' := 0) (bc1 := 0) (bs1 := 0) (bc2 := bc) (bs2 := bs) (pc' := 66) [.int (((2000 : Int32)) + x2)] hb vX5_51 rfl (pz_dc dX5_readSum 38 rfl) rfl (Nat.le_of_ble_eq_true rfl) (Nat.le_of_ble_eq_true rfl) rfl (by omega) (by omega) (by omega) (fun h12 hb => ?_)
          refine pz_iinc (pc' := 69) (x := l2) (v := l2 + (1 : Int32)) (lv' := [(2, .int (l2 + (1 : Int32))), (3, .int x2), (0, .ref l0), (1, .int l1)]) 3 rfl (pz_dc dX5_readSum 39 rfl) rfl rfl (by decide) rfl ?_
          refine pz_goto (pc' := 12) (pz_dc dX5_readSum 40 rfl) (by decide) ?_
          refine pz_lv (lv' := [(0, .ref l0), (1, .int l1), (2, .int (l2 + (1 : Int32)))]) [2, 3, 0] rfl ?_
          exact hb
        · replace hb := hb.2 hc
          refine pz_iconst (pc' := 56) (v := 0) rfl (pz_dc dX5_readSum 32 rfl) ki_0 ?_
          exact pz_zret (pz_dc dX5_readSum 33 rfl) rfl ⟨by decide, hb⟩
      · replace hb := hb.2 hc
        refine pz_iconst (pc' := 36) (v := 1) rfl (pz_dc dX5_readSum 20 rfl) ki_1 ?_
        exact pz_zret (pz_dc dX5_readSum 21 rfl) rfl ⟨by decide, hb⟩
set_option maxRecDepth 20000 in
set_option maxHeartbeats 4000000 in
theorem wX5_readProduct_0 {Ex : State → Nat → Prop} {Q : Option Value → pz_H → Prop} {d bc bs : Nat} {l0 : Nat} {l1 : Int32}  {h : pz_H} (hD : 2 ≤ d + 1) (hb : pz_is h l0 5 ∧ (pz_ki mX5_readSigned d 0 0 (.ref l0 :: [.int l1]) h (fun (x2 : Int32) (h1 : pz_H) => (¬ x2 = 0 → pz_V mX5_readProduct Ex Q (d + 1) bc bs 12 [(0, .ref l0), (1, .int l1), (2, .int 0)] [] h1) ∧ (x2 = 0 → Q (some (.int 0)) h1)))) : pz_V mX5_readProduct Ex Q (d + 1) bc bs 0 [(0, .ref l0), (1, .int l1)] [] h := by
  refine pz_aload_n (pc' := 1) (x := l0) 0 rfl (pz_dc dX5_readProduct 0 rfl) rfl ?_
  refine pz_iload_n (pc' := 2) (x := l1) 1 rfl (pz_dc dX5_readProduct 1 rfl) rfl ?_
  refine pz_cVi (M := mX5_readProduct) (N := mX5_readSigned) (d' := d) (bc1 := 0) (bs1 := 0) (bc2 := bc) (bs2 := bs) (pc' := 5) [.int l1] hb vX5_58 rfl (pz_dc dX5_readProduct 2 rfl) rfl (Nat.le_of_ble_eq_true rfl) (Nat.le_of_ble_eq_true rfl) rfl (by omega) (by omega) (by omega) (fun x2 h1 hb => ?_)
  refine pz_if_ne (pc' := 8) (tgt := 10) rfl (pz_dc dX5_readProduct 3 rfl) (by decide) (fun hc => ?_) (fun hc => ?_)
  · replace hb := hb.1 hc
    refine pz_iconst (pc' := 11) (v := 0) rfl (pz_dc dX5_readProduct 6 rfl) ki_0 ?_
    refine pz_istore_n (pc' := 12) (lv' := [(2, .int 0), (0, .ref l0), (1, .int l1)]) rfl (pz_dc dX5_readProduct 7 rfl) (by decide) rfl ?_
    refine pz_lv (lv' := [(0, .ref l0), (1, .int l1), (2, .int 0)]) [1, 2, 0] rfl ?_
    exact hb
  · replace hb := hb.2 hc
    refine pz_iconst (pc' := 9) (v := 0) rfl (pz_dc dX5_readProduct 4 rfl) ki_0 ?_
    exact pz_zret (pz_dc dX5_readProduct 5 rfl) rfl ⟨by decide, hb⟩
set_option maxRecDepth 20000 in
set_option maxHeartbeats 4000000 in
theorem wX5_readProduct_12 {Ex : State → Nat → Prop} {Q : Option Value → pz_H → Prop} {d bc bs : Nat} {l0 : Nat} {l1 : Int32} {l2 : Int32}  {h : pz_H} (hD : 2 ≤ d + 1) (hb : (((40 : Int32)) ≤ l2 → Q (some (.int 1)) h) ∧ (¬ ((40 : Int32)) ≤ l2 → pz_is h l0 5 ∧ (pz_ki mX5_here 1 0 0 (.ref l0 :: []) h (fun (x2 : Int32) (h1 : pz_H) => (x2 = ((42 : Int32)) → pz_gI h1 l0 5 5 (fun (x3 : Int32) => pz_pF h1 l0 5 5 (.int (x3 + ((1 : Int32)))) (fun (h4 : pz_H) => pz_is h4 l0 5 ∧ (pz_ki mX5_readSigned d 0 0 (.ref l0 :: [.int l1]) h4 (fun (x6 : Int32) (h5 : pz_H) => (¬ x6 = 0 → pz_is h5 l0 5 ∧ (pz_kv mX5_addPart 0 0 0 (.ref l0 :: [.int (((2000 : Int32)) + x2)]) h5 (fun (h7 : pz_H) => pz_V mX5_readProduct Ex Q (d + 1) bc bs 12 [(0, .ref l0), (1, .int l1), (2, .int (l2 + (1 : Int32)))] [] h7))) ∧ (x6 = 0 → Q (some (.int 0)) h5)))))) ∧ (¬ x2 = ((42 : Int32)) → (x2 = ((47 : Int32)) → pz_gI h1 l0 5 5 (fun (x8 : Int32) => pz_pF h1 l0 5 5 (.int (x8 + ((1 : Int32)))) (fun (h9 : pz_H) => pz_is h9 l0 5 ∧ (pz_ki mX5_readSigned d 0 0 (.ref l0 :: [.int l1]) h9 (fun (x11 : Int32) (h10 : pz_H) => (¬ x11 = 0 → pz_is h10 l0 5 ∧ (pz_kv mX5_addPart 0 0 0 (.ref l0 :: [.int (((2000 : Int32)) + x2)]) h10 (fun (h12 : pz_H) => pz_V mX5_readProduct Ex Q (d + 1) bc bs 12 [(0, .ref l0), (1, .int l1), (2, .int (l2 + (1 : Int32)))] [] h12))) ∧ (x11 = 0 → Q (some (.int 0)) h10)))))) ∧ (¬ x2 = ((47 : Int32)) → Q (some (.int 1)) h1)))))) : pz_V mX5_readProduct Ex Q (d + 1) bc bs 12 [(0, .ref l0), (1, .int l1), (2, .int l2)] [] h := by
  refine pz_iload_n (pc' := 13) (x := l2) 2 rfl (pz_dc dX5_readProduct 8 rfl) rfl ?_
  refine pz_bipush (pc' := 15) (v := 40) rfl (pz_dc dX5_readProduct 9 rfl) kb_40 ?_
  refine pz_icmp_ge (pc' := 18) (tgt := 72) rfl (pz_dc dX5_readProduct 10 rfl) (by decide) (fun hc => ?_) (fun hc => ?_)
  · replace hb := hb.1 hc
    refine pz_iconst (pc' := 73) (v := 1) rfl (pz_dc dX5_readProduct 41 rfl) ki_1 ?_
    exact pz_zret (pz_dc dX5_readProduct 42 rfl) rfl ⟨by decide, hb⟩
  · replace hb := hb.2 hc
    refine pz_aload_n (pc' := 19) (x := l0) 0 rfl (pz_dc dX5_readProduct 11 rfl) rfl ?_
    refine pz_cVi (M := mX5_readProduct) (N := mX5_here) (d' := 1) (bc1 := 0) (bs1 := 0) (bc2 := bc) (bs2 := bs) (pc' := 22) [] hb vX5_48 rfl (pz_dc dX5_readProduct 12 rfl) rfl (Nat.le_of_ble_eq_true rfl) (Nat.le_of_ble_eq_true rfl) rfl (by omega) (by omega) (by omega) (fun x2 h1 hb => ?_)
    refine pz_istore_n (pc' := 23) (lv' := [(3, .int x2), (0, .ref l0), (1, .int l1), (2, .int l2)]) rfl (pz_dc dX5_readProduct 13 rfl) (by decide) rfl ?_
    refine pz_iload_n (pc' := 24) (x := x2) 0 rfl (pz_dc dX5_readProduct 14 rfl) rfl ?_
    refine pz_bipush (pc' := 26) (v := 42) rfl (pz_dc dX5_readProduct 15 rfl) kb_42 ?_
    refine pz_icmp_eq (pc' := 29) (tgt := 37) rfl (pz_dc dX5_readProduct 16 rfl) (by decide) (fun hc => ?_) (fun hc => ?_)
    · replace hb := hb.1 hc
      refine pz_aload_n (pc' := 38) (x := l0) 1 rfl (pz_dc dX5_readProduct 22 rfl) rfl ?_
      refine pz_dup (pc' := 39) rfl (pz_dc dX5_readProduct 23 rfl) rfl ?_
      refine pz_getI (M := mX5_readProduct) hb fX5_29 (pc' := 42) rfl (pz_dc dX5_readProduct 24 rfl) (fun x3 hb => ?_)
      refine pz_iconst (pc' := 43) (v := 1) rfl (pz_dc dX5_readProduct 25 rfl) ki_1 ?_
      refine pz_iadd (pc' := 44) rfl (pz_dc dX5_readProduct 26 rfl) ?_
      refine pz_putv (M := mX5_readProduct) hb (pX5_29 _ rfl) rfl rfl (pc' := 47) rfl (pz_dc dX5_readProduct 27 rfl) (fun h4 hb => ?_)
      refine pz_aload_n (pc' := 48) (x := l0) 1 rfl (pz_dc dX5_readProduct 28 rfl) rfl ?_
      refine pz_iload_n (pc' := 49) (x := l1) 2 rfl (pz_dc dX5_readProduct 29 rfl) rfl ?_
      refine pz_cVi (M := mX5_readProduct) (N := mX5_readSigned) (d' := d) (bc1 := 0) (bs1 := 0) (bc2 := bc) (bs2 := bs) (pc' := 52) [.int l1] hb vX5_58 rfl (pz_dc dX5_readProduct 30 rfl) rfl (Nat.le_of_ble_eq_true rfl) (Nat.le_of_ble_eq_true rfl) rfl (by omega) (by omega) (by omega) (fun x6 h5 hb => ?_)
      refine pz_if_ne (pc' := 55) (tgt := 57) rfl (pz_dc dX5_readProduct 31 rfl) (by decide) (fun hc => ?_) (fun hc => ?_)
      · replace hb := hb.1 hc
        refine pz_aload_n (pc' := 58) (x := l0) 1 rfl (pz_dc dX5_readProduct 34 rfl) rfl ?_
        refine pz_sipush (pc' := 61) (v := 2000) rfl (pz_dc dX5_readProduct 35 rfl) ks_2000 ?_
        refine pz_iload_n (pc' := 62) (x := x2) 0 rfl (pz_dc dX5_readProduct 36 rfl) rfl ?_
        refine pz_iadd (pc' := 63) rfl (pz_dc dX5_readProduct 37 rfl) ?_
        refine pz_cVv (M := mX5_readProduct) (N := mX5_addPart) (d' := 0) (bc1 := 0) (bs1 := 0) (bc2 := bc) (bs2 := bs) (pc' := 66) [.int (((2000 : Int32)) + x2)] hb vX5_51 rfl (pz_dc dX5_readProduct 38 rfl) rfl (Nat.le_of_ble_eq_true rfl) (Nat.le_of_ble_eq_true rfl) rfl (by omega) (by omega) (by omega) (fun h7 hb => ?_)
        refine pz_iinc (pc' := 69) (x := l2) (v := l2 + (1 : Int32)) (lv' := [(2, .int (l2 + (1 : Int32))), (3, .int x2), (0, .ref l0), (1, .int l1)]) 3 rfl (pz_dc dX5_readProduct 39 rfl) rfl rfl (by decide) rfl ?_
        refine pz_goto (pc' := 12) (pz_dc dX5_readProduct 40 rfl) (by decide) ?_
        refine pz_lv (lv' := [(0, .ref l0), (1, .int l1), (2, .int (l2 + (1 : Int32)))]) [2, 3, 0] rfl ?_
        exact hb
      · replace hb := hb.2 hc
        refine pz_iconst (pc' := 56) (v := 0) rfl (pz_dc dX5_readProduct 32 rfl) ki_0 ?_
        exact pz_zret (pz_dc dX5_readProduct 33 rfl) rfl ⟨by decide, hb⟩
    · replace hb := hb.2 hc
      refine pz_iload_n (pc' := 30) (x := x2) 0 rfl (pz_dc dX5_readProduct 17 rfl) rfl ?_
      refine pz_bipush (pc' := 32) (v := 47) rfl (pz_dc dX5_readProduct 18 rfl) kb_47 ?_
      refine pz_icmp_eq (pc' := 35) (tgt := 37) rfl (pz_dc dX5_readProduct 19 rfl) (by decide) (fun hc => ?_) (fun hc => ?_)
      · replace hb := hb.1 hc
        refine pz_aload_n (pc' := 38) (x := l0) 1 rfl (pz_dc dX5_readProduct 22 rfl) rfl ?_
        refine pz_dup (pc' := 39) rfl (pz_dc dX5_readProduct 23 rfl) rfl ?_
        refine pz_getI (M := mX5_readProduct) hb fX5_29 (pc' := 42) rfl (pz_dc dX5_readProduct 24 rfl) (fun x8 hb => ?_)
        refine pz_iconst (pc' := 43) (v := 1) rfl (pz_dc dX5_readProduct 25 rfl) ki_1 ?_
        refine pz_iadd (pc' := 44) rfl (pz_dc dX5_readProduct 26 rfl) ?_
        refine pz_putv (M := mX5_readProduct) hb (pX5_29 _ rfl) rfl rfl (pc' := 47) rfl (pz_dc dX5_readProduct 27 rfl) (fun h9 hb => ?_)
        refine pz_aload_n (pc' := 48) (x := l0) 1 rfl (pz_dc dX5_readProduct 28 rfl) rfl ?_
        refine pz_iload_n (pc' := 49) (x := l1) 2 rfl (pz_dc dX5_readProduct 29 rfl) rfl ?_
        refine pz_cVi (M := mX5_readProduct) (N := mX5_readSigned) (d' := d) (bc1 := 0) (bs1 := 0) (bc2 := bc) (bs2 := bs) (pc' := 52) [.int l1] hb vX5_58 rfl (pz_dc dX5_readProduct 30 rfl) rfl (Nat.le_of_ble_eq_true rfl) (Nat.le_of_ble_eq_true rfl) rfl (by omega) (by omega) (by omega) (fun x11 h10 hb => ?_)
        refine pz_if_ne (pc' := 55) (tgt := 57) rfl (pz_dc dX5_readProduct 31 rfl) (by decide) (fun hc => ?_) (fun hc => ?_)
        · replace hb := hb.1 hc
          refine pz_aload_n (pc' := 58) (x := l0) 1 rfl (pz_dc dX5_readProduct 34 rfl) rfl ?_
          refine pz_sipush (pc' := 61) (v := 2000) rfl (pz_dc dX5_readProduct 35 rfl) ks_2000 ?_
          refine pz_iload_n (pc' := 62) (x := x2) 0 rfl (pz_dc dX5_readProduct 36 rfl) rfl ?_
          refine pz_iadd (pc' := 63) rfl (pz_dc dX5_readProduct 37 rfl) ?_
          refine pz_cVv (M := mX5_readProduct) (N := mX5_addPart) (d' := 0) (bc1 := 0) (bs1 := 0) (bc2 := bc) (bs2 := bs) (pc' := 66) [.int (((2000 : Int32)) + x2)] hb vX5_51 rfl (pz_dc dX5_readProduct 38 rfl) rfl (Nat.le_of_ble_eq_true rfl) (Nat.le_of_ble_eq_true rfl) rfl (by omega) (by omega) (by omega) (fun h12 hb => ?_)
          refine pz_iinc (pc' := 69) (x := l2) (v := l2 + (1 : Int32)) (lv' := [(2, .int (l2 + (1 : Int32))), (3, .int x2), (0, .ref l0), (1, .int l1)]) 3 rfl (pz_dc dX5_readProduct 39 rfl) rfl rfl (by decide) rfl ?_
          refine pz_goto (pc' := 12) (pz_dc dX5_readProduct 40 rfl) (by decide) ?_
          refine pz_lv (lv' := [(0, .ref l0), (1, .int l1), (2, .int (l2 + (1 : Int32)))]) [2, 3, 0] rfl ?_
          exact hb
        · replace hb := hb.2 hc
          refine pz_iconst (pc' := 56) (v := 0) rfl (pz_dc dX5_readProduct 32 rfl) ki_0 ?_
          exact pz_zret (pz_dc dX5_readProduct 33 rfl) rfl ⟨by decide, hb⟩
      · replace hb := hb.2 hc
        refine pz_iconst (pc' := 36) (v := 1) rfl (pz_dc dX5_readProduct 20 rfl) ki_1 ?_
        exact pz_zret (pz_dc dX5_readProduct 21 rfl) rfl ⟨by decide, hb⟩
set_option maxRecDepth 20000 in
set_option maxHeartbeats 4000000 in
theorem wX5_readSigned_0 {Ex : State → Nat → Prop} {Q : Option Value → pz_H → Prop} {d bc bs : Nat} {l0 : Nat} {l1 : Int32}  {h : pz_H} (hD : 2 ≤ d + 1) (hb : pz_V mX5_readSigned Ex Q (d + 1) bc bs 4 [(0, .ref l0), (1, .int l1), (2, .int 0), (3, .int 0)] [] h) : pz_V mX5_readSigned Ex Q (d + 1) bc bs 0 [(0, .ref l0), (1, .int l1)] [] h := by
  refine pz_iconst (pc' := 1) (v := 0) rfl (pz_dc dX5_readSigned 0 rfl) ki_0 ?_
  refine pz_istore_n (pc' := 2) (lv' := [(2, .int 0), (0, .ref l0), (1, .int l1)]) rfl (pz_dc dX5_readSigned 1 rfl) (by decide) rfl ?_
  refine pz_iconst (pc' := 3) (v := 0) rfl (pz_dc dX5_readSigned 2 rfl) ki_0 ?_
  refine pz_istore_n (pc' := 4) (lv' := [(3, .int 0), (2, .int 0), (0, .ref l0), (1, .int l1)]) rfl (pz_dc dX5_readSigned 3 rfl) (by decide) rfl ?_
  refine pz_lv (lv' := [(0, .ref l0), (1, .int l1), (2, .int 0), (3, .int 0)]) [2, 3, 1, 0] rfl ?_
  exact hb
set_option maxRecDepth 20000 in
set_option maxHeartbeats 4000000 in
theorem wX5_readSigned_4 {Ex : State → Nat → Prop} {Q : Option Value → pz_H → Prop} {d bc bs : Nat} {l0 : Nat} {l1 : Int32} {l2 : Int32} {l3 : Int32}  {h : pz_H} (hD : 2 ≤ d + 1) (hb : (((40 : Int32)) ≤ l3 → pz_is h l0 5 ∧ (pz_ki mX5_readThing d 0 0 (.ref l0 :: [.int l1]) h (fun (x2 : Int32) (h1 : pz_H) => (¬ x2 = 0 → (l2 = 0 → Q (some (.int 1)) h1) ∧ (¬ l2 = 0 → pz_is h1 l0 5 ∧ (pz_kv mX5_addPart 0 0 0 (.ref l0 :: [.int 2033]) h1 (fun (h3 : pz_H) => Q (some (.int 1)) h3)))) ∧ (x2 = 0 → Q (some (.int 0)) h1)))) ∧ (¬ ((40 : Int32)) ≤ l3 → pz_is h l0 5 ∧ (pz_ki mX5_here 1 0 0 (.ref l0 :: []) h (fun (x5 : Int32) (h4 : pz_H) => (¬ x5 = ((45 : Int32)) → pz_is h4 l0 5 ∧ (pz_ki mX5_readThing d 0 0 (.ref l0 :: [.int l1]) h4 (fun (x7 : Int32) (h6 : pz_H) => (¬ x7 = 0 → (l2 = 0 → Q (some (.int 1)) h6) ∧ (¬ l2 = 0 → pz_is h6 l0 5 ∧ (pz_kv mX5_addPart 0 0 0 (.ref l0 :: [.int 2033]) h6 (fun (h8 : pz_H) => Q (some (.int 1)) h8)))) ∧ (x7 = 0 → Q (some (.int 0)) h6)))) ∧ (x5 = ((45 : Int32)) → (¬ l2 = 0 → pz_gI h4 l0 5 5 (fun (x9 : Int32) => pz_pF h4 l0 5 5 (.int (x9 + ((1 : Int32)))) (fun (h10 : pz_H) => pz_V mX5_readSigned Ex Q (d + 1) bc bs 4 [(0, .ref l0), (1, .int l1), (2, .int 0), (3, .int (l3 + (1 : Int32)))] [] h10))) ∧ (l2 = 0 → pz_gI h4 l0 5 5 (fun (x11 : Int32) => pz_pF h4 l0 5 5 (.int (x11 + ((1 : Int32)))) (fun (h12 : pz_H) => pz_V mX5_readSigned Ex Q (d + 1) bc bs 4 [(0, .ref l0), (1, .int l1), (2, .int 1), (3, .int (l3 + (1 : Int32)))] [] h12)))))))) : pz_V mX5_readSigned Ex Q (d + 1) bc bs 4 [(0, .ref l0), (1, .int l1), (2, .int l2), (3, .int l3)] [] h := by
  refine pz_iload_n (pc' := 5) (x := l3) 3 rfl (pz_dc dX5_readSigned 4 rfl) rfl ?_
  refine pz_bipush (pc' := 7) (v := 40) rfl (pz_dc dX5_readSigned 5 rfl) kb_40 ?_
  refine pz_icmp_ge (pc' := 10) (tgt := 45) rfl (pz_dc dX5_readSigned 6 rfl) (by decide) (fun hc => ?_) (fun hc => ?_)
  · replace hb := hb.1 hc
    refine pz_aload_n (pc' := 46) (x := l0) 0 rfl (pz_dc dX5_readSigned 25 rfl) rfl ?_
    refine pz_iload_n (pc' := 47) (x := l1) 1 rfl (pz_dc dX5_readSigned 26 rfl) rfl ?_
    refine pz_cVi (M := mX5_readSigned) (N := mX5_readThing) (d' := d) (bc1 := 0) (bs1 := 0) (bc2 := bc) (bs2 := bs) (pc' := 50) [.int l1] hb vX5_61 rfl (pz_dc dX5_readSigned 27 rfl) rfl (Nat.le_of_ble_eq_true rfl) (Nat.le_of_ble_eq_true rfl) rfl (by omega) (by omega) (by omega) (fun x2 h1 hb => ?_)
    refine pz_if_ne (pc' := 53) (tgt := 55) rfl (pz_dc dX5_readSigned 28 rfl) (by decide) (fun hc => ?_) (fun hc => ?_)
    · replace hb := hb.1 hc
      refine pz_iload_n (pc' := 56) (x := l2) 2 rfl (pz_dc dX5_readSigned 31 rfl) rfl ?_
      refine pz_if_eq (pc' := 59) (tgt := 66) rfl (pz_dc dX5_readSigned 32 rfl) (by decide) (fun hc => ?_) (fun hc => ?_)
      · replace hb := hb.1 hc
        refine pz_iconst (pc' := 67) (v := 1) rfl (pz_dc dX5_readSigned 36 rfl) ki_1 ?_
        exact pz_zret (pz_dc dX5_readSigned 37 rfl) rfl ⟨by decide, hb⟩
      · replace hb := hb.2 hc
        refine pz_aload_n (pc' := 60) (x := l0) 0 rfl (pz_dc dX5_readSigned 33 rfl) rfl ?_
        refine pz_sipush (pc' := 63) (v := 2033) rfl (pz_dc dX5_readSigned 34 rfl) ks_2033 ?_
        refine pz_cVv (M := mX5_readSigned) (N := mX5_addPart) (d' := 0) (bc1 := 0) (bs1 := 0) (bc2 := bc) (bs2 := bs) (pc' := 66) [.int 2033] hb vX5_51 rfl (pz_dc dX5_readSigned 35 rfl) rfl (Nat.le_of_ble_eq_true rfl) (Nat.le_of_ble_eq_true rfl) rfl (by omega) (by omega) (by omega) (fun h3 hb => ?_)
        refine pz_iconst (pc' := 67) (v := 1) rfl (pz_dc dX5_readSigned 36 rfl) ki_1 ?_
        exact pz_zret (pz_dc dX5_readSigned 37 rfl) rfl ⟨by decide, hb⟩
    · replace hb := hb.2 hc
      refine pz_iconst (pc' := 54) (v := 0) rfl (pz_dc dX5_readSigned 29 rfl) ki_0 ?_
      exact pz_zret (pz_dc dX5_readSigned 30 rfl) rfl ⟨by decide, hb⟩
  · replace hb := hb.2 hc
    refine pz_aload_n (pc' := 11) (x := l0) 0 rfl (pz_dc dX5_readSigned 7 rfl) rfl ?_
    refine pz_cVi (M := mX5_readSigned) (N := mX5_here) (d' := 1) (bc1 := 0) (bs1 := 0) (bc2 := bc) (bs2 := bs) (pc' := 14) [] hb vX5_48 rfl (pz_dc dX5_readSigned 8 rfl) rfl (Nat.le_of_ble_eq_true rfl) (Nat.le_of_ble_eq_true rfl) rfl (by omega) (by omega) (by omega) (fun x5 h4 hb => ?_)
    refine pz_bipush (pc' := 16) (v := 45) rfl (pz_dc dX5_readSigned 9 rfl) kb_45 ?_
    refine pz_icmp_ne (pc' := 19) (tgt := 45) rfl (pz_dc dX5_readSigned 10 rfl) (by decide) (fun hc => ?_) (fun hc => ?_)
    · replace hb := hb.1 hc
      refine pz_aload_n (pc' := 46) (x := l0) 0 rfl (pz_dc dX5_readSigned 25 rfl) rfl ?_
      refine pz_iload_n (pc' := 47) (x := l1) 1 rfl (pz_dc dX5_readSigned 26 rfl) rfl ?_
      refine pz_cVi (M := mX5_readSigned) (N := mX5_readThing) (d' := d) (bc1 := 0) (bs1 := 0) (bc2 := bc) (bs2 := bs) (pc' := 50) [.int l1] hb vX5_61 rfl (pz_dc dX5_readSigned 27 rfl) rfl (Nat.le_of_ble_eq_true rfl) (Nat.le_of_ble_eq_true rfl) rfl (by omega) (by omega) (by omega) (fun x7 h6 hb => ?_)
      refine pz_if_ne (pc' := 53) (tgt := 55) rfl (pz_dc dX5_readSigned 28 rfl) (by decide) (fun hc => ?_) (fun hc => ?_)
      · replace hb := hb.1 hc
        refine pz_iload_n (pc' := 56) (x := l2) 2 rfl (pz_dc dX5_readSigned 31 rfl) rfl ?_
        refine pz_if_eq (pc' := 59) (tgt := 66) rfl (pz_dc dX5_readSigned 32 rfl) (by decide) (fun hc => ?_) (fun hc => ?_)
        · replace hb := hb.1 hc
          refine pz_iconst (pc' := 67) (v := 1) rfl (pz_dc dX5_readSigned 36 rfl) ki_1 ?_
          exact pz_zret (pz_dc dX5_readSigned 37 rfl) rfl ⟨by decide, hb⟩
        · replace hb := hb.2 hc
          refine pz_aload_n (pc' := 60) (x := l0) 0 rfl (pz_dc dX5_readSigned 33 rfl) rfl ?_
          refine pz_sipush (pc' := 63) (v := 2033) rfl (pz_dc dX5_readSigned 34 rfl) ks_2033 ?_
          refine pz_cVv (M := mX5_readSigned) (N := mX5_addPart) (d' := 0) (bc1 := 0) (bs1 := 0) (bc2 := bc) (bs2 := bs) (pc' := 66) [.int 2033] hb vX5_51 rfl (pz_dc dX5_readSigned 35 rfl) rfl (Nat.le_of_ble_eq_true rfl) (Nat.le_of_ble_eq_true rfl) rfl (by omega) (by omega) (by omega) (fun h8 hb => ?_)
          refine pz_iconst (pc' := 67) (v := 1) rfl (pz_dc dX5_readSigned 36 rfl) ki_1 ?_
          exact pz_zret (pz_dc dX5_readSigned 37 rfl) rfl ⟨by decide, hb⟩
      · replace hb := hb.2 hc
        refine pz_iconst (pc' := 54) (v := 0) rfl (pz_dc dX5_readSigned 29 rfl) ki_0 ?_
        exact pz_zret (pz_dc dX5_readSigned 30 rfl) rfl ⟨by decide, hb⟩
    · replace hb := hb.2 hc
      refine pz_iload_n (pc' := 20) (x := l2) 2 rfl (pz_dc dX5_readSigned 11 rfl) rfl ?_
      refine pz_if_ne (pc' := 23) (tgt := 27) rfl (pz_dc dX5_readSigned 12 rfl) (by decide) (fun hc => ?_) (fun hc => ?_)
      · replace hb := hb.1 hc
        refine pz_iconst (pc' := 28) (v := 0) rfl (pz_dc dX5_readSigned 15 rfl) ki_0 ?_
        refine pz_istore_n (pc' := 29) (lv' := [(2, .int 0), (0, .ref l0), (1, .int l1), (3, .int l3)]) rfl (pz_dc dX5_readSigned 16 rfl) (by decide) rfl ?_
        refine pz_aload_n (pc' := 30) (x := l0) 1 rfl (pz_dc dX5_readSigned 17 rfl) rfl ?_
        refine pz_dup (pc' := 31) rfl (pz_dc dX5_readSigned 18 rfl) rfl ?_
        refine pz_getI (M := mX5_readSigned) hb fX5_29 (pc' := 34) rfl (pz_dc dX5_readSigned 19 rfl) (fun x9 hb => ?_)
        refine pz_iconst (pc' := 35) (v := 1) rfl (pz_dc dX5_readSigned 20 rfl) ki_1 ?_
        refine pz_iadd (pc' := 36) rfl (pz_dc dX5_readSigned 21 rfl) ?_
        refine pz_putv (M := mX5_readSigned) hb (pX5_29 _ rfl) rfl rfl (pc' := 39) rfl (pz_dc dX5_readSigned 22 rfl) (fun h10 hb => ?_)
        refine pz_iinc (pc' := 42) (x := l3) (v := l3 + (1 : Int32)) (lv' := [(3, .int (l3 + (1 : Int32))), (2, .int 0), (0, .ref l0), (1, .int l1)]) 3 rfl (pz_dc dX5_readSigned 23 rfl) rfl rfl (by decide) rfl ?_
        refine pz_goto (pc' := 4) (pz_dc dX5_readSigned 24 rfl) (by decide) ?_
        refine pz_lv (lv' := [(0, .ref l0), (1, .int l1), (2, .int 0), (3, .int (l3 + (1 : Int32)))]) [2, 3, 1, 0] rfl ?_
        exact hb
      · replace hb := hb.2 hc
        refine pz_iconst (pc' := 24) (v := 1) rfl (pz_dc dX5_readSigned 13 rfl) ki_1 ?_
        refine pz_goto (pc' := 28) (pz_dc dX5_readSigned 14 rfl) (by decide) ?_
        refine pz_istore_n (pc' := 29) (lv' := [(2, .int 1), (0, .ref l0), (1, .int l1), (3, .int l3)]) rfl (pz_dc dX5_readSigned 16 rfl) (by decide) rfl ?_
        refine pz_aload_n (pc' := 30) (x := l0) 1 rfl (pz_dc dX5_readSigned 17 rfl) rfl ?_
        refine pz_dup (pc' := 31) rfl (pz_dc dX5_readSigned 18 rfl) rfl ?_
        refine pz_getI (M := mX5_readSigned) hb fX5_29 (pc' := 34) rfl (pz_dc dX5_readSigned 19 rfl) (fun x11 hb => ?_)
        refine pz_iconst (pc' := 35) (v := 1) rfl (pz_dc dX5_readSigned 20 rfl) ki_1 ?_
        refine pz_iadd (pc' := 36) rfl (pz_dc dX5_readSigned 21 rfl) ?_
        refine pz_putv (M := mX5_readSigned) hb (pX5_29 _ rfl) rfl rfl (pc' := 39) rfl (pz_dc dX5_readSigned 22 rfl) (fun h12 hb => ?_)
        refine pz_iinc (pc' := 42) (x := l3) (v := l3 + (1 : Int32)) (lv' := [(3, .int (l3 + (1 : Int32))), (2, .int 1), (0, .ref l0), (1, .int l1)]) 3 rfl (pz_dc dX5_readSigned 23 rfl) rfl rfl (by decide) rfl ?_
        refine pz_goto (pc' := 4) (pz_dc dX5_readSigned 24 rfl) (by decide) ?_
        refine pz_lv (lv' := [(0, .ref l0), (1, .int l1), (2, .int 1), (3, .int (l3 + (1 : Int32)))]) [2, 3, 1, 0] rfl ?_
        exact hb
set_option maxRecDepth 20000 in
set_option maxHeartbeats 4000000 in
theorem wX5_readThing_0 {Ex : State → Nat → Prop} {Q : Option Value → pz_H → Prop} {d bc bs : Nat} {l0 : Nat} {l1 : Int32}  {h : pz_H} (hD : 3 ≤ d + 1) (hb : pz_is h l0 5 ∧ (pz_ki mX5_here 1 0 0 (.ref l0 :: []) h (fun (x2 : Int32) (h1 : pz_H) => ((eX9_isDigit x2) = 0 → (¬ x2 = ((40 : Int32)) → pz_ki mX5_thingOf 0 0 0 ([.int x2]) h1 (fun (x4 : Int32) (h3 : pz_H) => (¬ x4 = ((-1 : Int32)) → pz_gI h3 l0 5 5 (fun (x5 : Int32) => pz_pF h3 l0 5 5 (.int (x5 + ((1 : Int32)))) (fun (h6 : pz_H) => pz_is h6 l0 5 ∧ (pz_kv mX5_addPart 0 0 0 (.ref l0 :: [.int (((1000 : Int32)) + x4)]) h6 (fun (h7 : pz_H) => Q (some (.int 1)) h7))))) ∧ (x4 = ((-1 : Int32)) → Q (some (.int 0)) h3))) ∧ (x2 = ((40 : Int32)) → (((4 : Int32)) ≤ l1 → Q (some (.int 0)) h1) ∧ (¬ ((4 : Int32)) ≤ l1 → pz_is h1 l0 5 ∧ (pz_ki mX5_readInside d 0 0 (.ref l0 :: [.int (l1 + ((1 : Int32)))]) h1 (fun (x9 : Int32) (h8 : pz_H) => (x9 = 0 → Q (some (.int 0)) h8) ∧ (¬ x9 = 0 → Q (some (.int 1)) h8)))))) ∧ (¬ (eX9_isDigit x2) = 0 → pz_is h1 l0 5 ∧ (pz_kv mX5_readNumber 2 0 0 (.ref l0 :: []) h1 (fun (h10 : pz_H) => Q (some (.int 1)) h10)))))) : pz_V mX5_readThing Ex Q (d + 1) bc bs 0 [(0, .ref l0), (1, .int l1)] [] h := by
  refine pz_aload_n (pc' := 1) (x := l0) 0 rfl (pz_dc dX5_readThing 0 rfl) rfl ?_
  refine pz_cVi (M := mX5_readThing) (N := mX5_here) (d' := 1) (bc1 := 0) (bs1 := 0) (bc2 := bc) (bs2 := bs) (pc' := 4) [] hb vX5_48 rfl (pz_dc dX5_readThing 1 rfl) rfl (Nat.le_of_ble_eq_true rfl) (Nat.le_of_ble_eq_true rfl) rfl (by omega) (by omega) (by omega) (fun x2 h1 hb => ?_)
  refine pz_istore_n (pc' := 5) (lv' := [(2, .int x2), (0, .ref l0), (1, .int l1)]) rfl (pz_dc dX5_readThing 2 rfl) (by decide) rfl ?_
  refine pz_iload_n (pc' := 6) (x := x2) 0 rfl (pz_dc dX5_readThing 3 rfl) rfl ?_
  refine pz_callS (M := mX5_readThing) (N := mX9_isDigit) (d' := 0) (bc1 := 0) (bs1 := 0) (bc2 := bc) (bs2 := bs) (pc' := 9) [.int x2] sX5_64 rfl (pz_dc dX5_readThing 4 rfl) rfl (Nat.le_of_ble_eq_true rfl) (Nat.le_of_ble_eq_true rfl) rfl (by omega) (by omega) (by omega) ?_
  refine cX9_isDigit ?_
  show pz_V mX5_readThing _ _ _ _ _ 9 [(2, .int x2), (0, .ref l0), (1, .int l1)] [.int (eX9_isDigit x2)] h1
  refine pz_if_eq (pc' := 12) (tgt := 18) rfl (pz_dc dX5_readThing 5 rfl) (by decide) (fun hc => ?_) (fun hc => ?_)
  · replace hb := hb.1 hc
    refine pz_iload_n (pc' := 19) (x := x2) 0 rfl (pz_dc dX5_readThing 10 rfl) rfl ?_
    refine pz_bipush (pc' := 21) (v := 40) rfl (pz_dc dX5_readThing 11 rfl) kb_40 ?_
    refine pz_icmp_ne (pc' := 24) (tgt := 45) rfl (pz_dc dX5_readThing 12 rfl) (by decide) (fun hc => ?_) (fun hc => ?_)
    · replace hb := hb.1 hc
      refine pz_iload_n (pc' := 46) (x := x2) 0 rfl (pz_dc dX5_readThing 26 rfl) rfl ?_
      refine pz_cSi (M := mX5_readThing) (N := mX5_thingOf) (d' := 0) (bc1 := 0) (bs1 := 0) (bc2 := bc) (bs2 := bs) (pc' := 49) [.int x2] hb sX5_73 rfl (pz_dc dX5_readThing 27 rfl) rfl (Nat.le_of_ble_eq_true rfl) (Nat.le_of_ble_eq_true rfl) rfl (by omega) (by omega) (by omega) (fun x4 h3 hb => ?_)
      refine pz_istore_n (pc' := 50) (lv' := [(3, .int x4), (2, .int x2), (0, .ref l0), (1, .int l1)]) rfl (pz_dc dX5_readThing 28 rfl) (by decide) rfl ?_
      refine pz_iload_n (pc' := 51) (x := x4) 0 rfl (pz_dc dX5_readThing 29 rfl) rfl ?_
      refine pz_iconst (pc' := 52) (v := (-1)) rfl (pz_dc dX5_readThing 30 rfl) ki_m1 ?_
      refine pz_icmp_ne (pc' := 55) (tgt := 57) rfl (pz_dc dX5_readThing 31 rfl) (by decide) (fun hc => ?_) (fun hc => ?_)
      · replace hb := hb.1 hc
        refine pz_aload_n (pc' := 58) (x := l0) 2 rfl (pz_dc dX5_readThing 34 rfl) rfl ?_
        refine pz_dup (pc' := 59) rfl (pz_dc dX5_readThing 35 rfl) rfl ?_
        refine pz_getI (M := mX5_readThing) hb fX5_29 (pc' := 62) rfl (pz_dc dX5_readThing 36 rfl) (fun x5 hb => ?_)
        refine pz_iconst (pc' := 63) (v := 1) rfl (pz_dc dX5_readThing 37 rfl) ki_1 ?_
        refine pz_iadd (pc' := 64) rfl (pz_dc dX5_readThing 38 rfl) ?_
        refine pz_putv (M := mX5_readThing) hb (pX5_29 _ rfl) rfl rfl (pc' := 67) rfl (pz_dc dX5_readThing 39 rfl) (fun h6 hb => ?_)
        refine pz_aload_n (pc' := 68) (x := l0) 2 rfl (pz_dc dX5_readThing 40 rfl) rfl ?_
        refine pz_sipush (pc' := 71) (v := 1000) rfl (pz_dc dX5_readThing 41 rfl) ks_1000 ?_
        refine pz_iload_n (pc' := 72) (x := x4) 0 rfl (pz_dc dX5_readThing 42 rfl) rfl ?_
        refine pz_iadd (pc' := 73) rfl (pz_dc dX5_readThing 43 rfl) ?_
        refine pz_cVv (M := mX5_readThing) (N := mX5_addPart) (d' := 0) (bc1 := 0) (bs1 := 0) (bc2 := bc) (bs2 := bs) (pc' := 76) [.int (((1000 : Int32)) + x4)] hb vX5_51 rfl (pz_dc dX5_readThing 44 rfl) rfl (Nat.le_of_ble_eq_true rfl) (Nat.le_of_ble_eq_true rfl) rfl (by omega) (by omega) (by omega) (fun h7 hb => ?_)
        refine pz_iconst (pc' := 77) (v := 1) rfl (pz_dc dX5_readThing 45 rfl) ki_1 ?_
        exact pz_zret (pz_dc dX5_readThing 46 rfl) rfl ⟨by decide, hb⟩
      · replace hb := hb.2 hc
        refine pz_iconst (pc' := 56) (v := 0) rfl (pz_dc dX5_readThing 32 rfl) ki_0 ?_
        exact pz_zret (pz_dc dX5_readThing 33 rfl) rfl ⟨by decide, hb⟩
    · replace hb := hb.2 hc
      refine pz_iload_n (pc' := 25) (x := l1) 2 rfl (pz_dc dX5_readThing 13 rfl) rfl ?_
      refine pz_iconst (pc' := 26) (v := 4) rfl (pz_dc dX5_readThing 14 rfl) ki_4 ?_
      refine pz_icmp_ge (pc' := 29) (tgt := 43) rfl (pz_dc dX5_readThing 15 rfl) (by decide) (fun hc => ?_) (fun hc => ?_)
      · replace hb := hb.1 hc
        refine pz_iconst (pc' := 44) (v := 0) rfl (pz_dc dX5_readThing 24 rfl) ki_0 ?_
        exact pz_zret (pz_dc dX5_readThing 25 rfl) rfl ⟨by decide, hb⟩
      · replace hb := hb.2 hc
        refine pz_aload_n (pc' := 30) (x := l0) 1 rfl (pz_dc dX5_readThing 16 rfl) rfl ?_
        refine pz_iload_n (pc' := 31) (x := l1) 2 rfl (pz_dc dX5_readThing 17 rfl) rfl ?_
        refine pz_iconst (pc' := 32) (v := 1) rfl (pz_dc dX5_readThing 18 rfl) ki_1 ?_
        refine pz_iadd (pc' := 33) rfl (pz_dc dX5_readThing 19 rfl) ?_
        refine pz_cVi (M := mX5_readThing) (N := mX5_readInside) (d' := d) (bc1 := 0) (bs1 := 0) (bc2 := bc) (bs2 := bs) (pc' := 36) [.int (l1 + ((1 : Int32)))] hb vX5_70 rfl (pz_dc dX5_readThing 20 rfl) rfl (Nat.le_of_ble_eq_true rfl) (Nat.le_of_ble_eq_true rfl) rfl (by omega) (by omega) (by omega) (fun x9 h8 hb => ?_)
        refine pz_if_eq (pc' := 39) (tgt := 43) rfl (pz_dc dX5_readThing 21 rfl) (by decide) (fun hc => ?_) (fun hc => ?_)
        · replace hb := hb.1 hc
          refine pz_iconst (pc' := 44) (v := 0) rfl (pz_dc dX5_readThing 24 rfl) ki_0 ?_
          exact pz_zret (pz_dc dX5_readThing 25 rfl) rfl ⟨by decide, hb⟩
        · replace hb := hb.2 hc
          refine pz_iconst (pc' := 40) (v := 1) rfl (pz_dc dX5_readThing 22 rfl) ki_1 ?_
          refine pz_goto (pc' := 44) (pz_dc dX5_readThing 23 rfl) (by decide) ?_
          exact pz_zret (pz_dc dX5_readThing 25 rfl) rfl ⟨by decide, hb⟩
  · replace hb := hb.2 hc
    refine pz_aload_n (pc' := 13) (x := l0) 1 rfl (pz_dc dX5_readThing 6 rfl) rfl ?_
    refine pz_cVv (M := mX5_readThing) (N := mX5_readNumber) (d' := 2) (bc1 := 0) (bs1 := 0) (bc2 := bc) (bs2 := bs) (pc' := 16) [] hb vX5_67 rfl (pz_dc dX5_readThing 7 rfl) rfl (Nat.le_of_ble_eq_true rfl) (Nat.le_of_ble_eq_true rfl) rfl (by omega) (by omega) (by omega) (fun h10 hb => ?_)
    refine pz_iconst (pc' := 17) (v := 1) rfl (pz_dc dX5_readThing 8 rfl) ki_1 ?_
    exact pz_zret (pz_dc dX5_readThing 9 rfl) rfl ⟨by decide, hb⟩
set_option maxRecDepth 20000 in
set_option maxHeartbeats 4000000 in
theorem wX5_readInside_0 {Ex : State → Nat → Prop} {Q : Option Value → pz_H → Prop} {d bc bs : Nat} {l0 : Nat} {l1 : Int32}  {h : pz_H} (hD : 2 ≤ d + 1) (hb : pz_gI h l0 5 5 (fun (x1 : Int32) => pz_pF h l0 5 5 (.int (x1 + ((1 : Int32)))) (fun (h2 : pz_H) => pz_is h2 l0 5 ∧ (pz_ki mX5_readExpression d 0 0 (.ref l0 :: [.int l1]) h2 (fun (x4 : Int32) (h3 : pz_H) => (x4 = 0 → Q (some (.int 0)) h3) ∧ (¬ x4 = 0 → pz_is h3 l0 5 ∧ (pz_ki mX5_here 1 0 0 (.ref l0 :: []) h3 (fun (x6 : Int32) (h5 : pz_H) => (x6 = ((41 : Int32)) → pz_gI h5 l0 5 5 (fun (x7 : Int32) => pz_pF h5 l0 5 5 (.int (x7 + ((1 : Int32)))) (fun (h8 : pz_H) => Q (some (.int 1)) h8))) ∧ (¬ x6 = ((41 : Int32)) → Q (some (.int 0)) h5))))))))) : pz_V mX5_readInside Ex Q (d + 1) bc bs 0 [(0, .ref l0), (1, .int l1)] [] h := by
  refine pz_aload_n (pc' := 1) (x := l0) 0 rfl (pz_dc dX5_readInside 0 rfl) rfl ?_
  refine pz_dup (pc' := 2) rfl (pz_dc dX5_readInside 1 rfl) rfl ?_
  refine pz_getI (M := mX5_readInside) hb fX5_29 (pc' := 5) rfl (pz_dc dX5_readInside 2 rfl) (fun x1 hb => ?_)
  refine pz_iconst (pc' := 6) (v := 1) rfl (pz_dc dX5_readInside 3 rfl) ki_1 ?_
  refine pz_iadd (pc' := 7) rfl (pz_dc dX5_readInside 4 rfl) ?_
  refine pz_putv (M := mX5_readInside) hb (pX5_29 _ rfl) rfl rfl (pc' := 10) rfl (pz_dc dX5_readInside 5 rfl) (fun h2 hb => ?_)
  refine pz_aload_n (pc' := 11) (x := l0) 0 rfl (pz_dc dX5_readInside 6 rfl) rfl ?_
  refine pz_iload_n (pc' := 12) (x := l1) 1 rfl (pz_dc dX5_readInside 7 rfl) rfl ?_
  refine pz_cVi (M := mX5_readInside) (N := mX5_readExpression) (d' := d) (bc1 := 0) (bs1 := 0) (bc2 := bc) (bs2 := bs) (pc' := 15) [.int l1] hb vX5_38 rfl (pz_dc dX5_readInside 8 rfl) rfl (Nat.le_of_ble_eq_true rfl) (Nat.le_of_ble_eq_true rfl) rfl (by omega) (by omega) (by omega) (fun x4 h3 hb => ?_)
  refine pz_if_eq (pc' := 18) (tgt := 27) rfl (pz_dc dX5_readInside 9 rfl) (by decide) (fun hc => ?_) (fun hc => ?_)
  · replace hb := hb.1 hc
    refine pz_iconst (pc' := 28) (v := 0) rfl (pz_dc dX5_readInside 14 rfl) ki_0 ?_
    exact pz_zret (pz_dc dX5_readInside 15 rfl) rfl ⟨by decide, hb⟩
  · replace hb := hb.2 hc
    refine pz_aload_n (pc' := 19) (x := l0) 0 rfl (pz_dc dX5_readInside 10 rfl) rfl ?_
    refine pz_cVi (M := mX5_readInside) (N := mX5_here) (d' := 1) (bc1 := 0) (bs1 := 0) (bc2 := bc) (bs2 := bs) (pc' := 22) [] hb vX5_48 rfl (pz_dc dX5_readInside 11 rfl) rfl (Nat.le_of_ble_eq_true rfl) (Nat.le_of_ble_eq_true rfl) rfl (by omega) (by omega) (by omega) (fun x6 h5 hb => ?_)
    refine pz_bipush (pc' := 24) (v := 41) rfl (pz_dc dX5_readInside 12 rfl) kb_41 ?_
    refine pz_icmp_eq (pc' := 27) (tgt := 29) rfl (pz_dc dX5_readInside 13 rfl) (by decide) (fun hc => ?_) (fun hc => ?_)
    · replace hb := hb.1 hc
      refine pz_aload_n (pc' := 30) (x := l0) 0 rfl (pz_dc dX5_readInside 16 rfl) rfl ?_
      refine pz_dup (pc' := 31) rfl (pz_dc dX5_readInside 17 rfl) rfl ?_
      refine pz_getI (M := mX5_readInside) hb fX5_29 (pc' := 34) rfl (pz_dc dX5_readInside 18 rfl) (fun x7 hb => ?_)
      refine pz_iconst (pc' := 35) (v := 1) rfl (pz_dc dX5_readInside 19 rfl) ki_1 ?_
      refine pz_iadd (pc' := 36) rfl (pz_dc dX5_readInside 20 rfl) ?_
      refine pz_putv (M := mX5_readInside) hb (pX5_29 _ rfl) rfl rfl (pc' := 39) rfl (pz_dc dX5_readInside 21 rfl) (fun h8 hb => ?_)
      refine pz_iconst (pc' := 40) (v := 1) rfl (pz_dc dX5_readInside 22 rfl) ki_1 ?_
      exact pz_zret (pz_dc dX5_readInside 23 rfl) rfl ⟨by decide, hb⟩
    · replace hb := hb.2 hc
      refine pz_iconst (pc' := 28) (v := 0) rfl (pz_dc dX5_readInside 14 rfl) ki_0 ?_
      exact pz_zret (pz_dc dX5_readInside 15 rfl) rfl ⟨by decide, hb⟩
set_option maxRecDepth 20000 in
set_option maxHeartbeats 4000000 in
theorem wX5_readNumber_0 {Ex : State → Nat → Prop} {Q : Option Value → pz_H → Prop} {d bc bs : Nat} {l0 : Nat}  {h : pz_H} (hD : 2 ≤ d) (hb : pz_V mX5_readNumber Ex Q d bc bs 4 [(0, .ref l0), (1, .int 0), (2, .int 0)] [] h) : pz_V mX5_readNumber Ex Q d bc bs 0 [(0, .ref l0)] [] h := by
  refine pz_iconst (pc' := 1) (v := 0) rfl (pz_dc dX5_readNumber 0 rfl) ki_0 ?_
  refine pz_istore_n (pc' := 2) (lv' := [(1, .int 0), (0, .ref l0)]) rfl (pz_dc dX5_readNumber 1 rfl) (by decide) rfl ?_
  refine pz_iconst (pc' := 3) (v := 0) rfl (pz_dc dX5_readNumber 2 rfl) ki_0 ?_
  refine pz_istore_n (pc' := 4) (lv' := [(2, .int 0), (1, .int 0), (0, .ref l0)]) rfl (pz_dc dX5_readNumber 3 rfl) (by decide) rfl ?_
  refine pz_lv (lv' := [(0, .ref l0), (1, .int 0), (2, .int 0)]) [2, 1, 0] rfl ?_
  exact hb
set_option maxRecDepth 20000 in
set_option maxHeartbeats 4000000 in
theorem wX5_readNumber_4 {Ex : State → Nat → Prop} {Q : Option Value → pz_H → Prop} {d bc bs : Nat} {l0 : Nat} {l1 : Int32} {l2 : Int32}  {h : pz_H} (hD : 2 ≤ d) (hb : (((3 : Int32)) ≤ l2 → pz_is h l0 5 ∧ (pz_kv mX5_addPart 0 0 0 (.ref l0 :: [.int l1]) h (fun (h1 : pz_H) => Q none h1))) ∧ (¬ ((3 : Int32)) ≤ l2 → pz_is h l0 5 ∧ (pz_ki mX5_here 1 0 0 (.ref l0 :: []) h (fun (x3 : Int32) (h2 : pz_H) => ((eX9_isDigit x3) = 0 → pz_is h2 l0 5 ∧ (pz_kv mX5_addPart 0 0 0 (.ref l0 :: [.int l1]) h2 (fun (h4 : pz_H) => Q none h4))) ∧ (¬ (eX9_isDigit x3) = 0 → pz_is h2 l0 5 ∧ (pz_ki mX5_here 1 0 0 (.ref l0 :: []) h2 (fun (x6 : Int32) (h5 : pz_H) => pz_gI h5 l0 5 5 (fun (x7 : Int32) => pz_pF h5 l0 5 5 (.int (x7 + ((1 : Int32)))) (fun (h8 : pz_H) => pz_V mX5_readNumber Ex Q d bc bs 4 [(0, .ref l0), (1, .int (((((10 : Int32)) * l1) + x6) - ((48 : Int32)))), (2, .int (l2 + (1 : Int32)))] [] h8))))))))) : pz_V mX5_readNumber Ex Q d bc bs 4 [(0, .ref l0), (1, .int l1), (2, .int l2)] [] h := by
  refine pz_iload_n (pc' := 5) (x := l2) 2 rfl (pz_dc dX5_readNumber 4 rfl) rfl ?_
  refine pz_iconst (pc' := 6) (v := 3) rfl (pz_dc dX5_readNumber 5 rfl) ki_3 ?_
  refine pz_icmp_ge (pc' := 9) (tgt := 48) rfl (pz_dc dX5_readNumber 6 rfl) (by decide) (fun hc => ?_) (fun hc => ?_)
  · replace hb := hb.1 hc
    refine pz_aload_n (pc' := 49) (x := l0) 0 rfl (pz_dc dX5_readNumber 28 rfl) rfl ?_
    refine pz_iload_n (pc' := 50) (x := l1) 1 rfl (pz_dc dX5_readNumber 29 rfl) rfl ?_
    refine pz_cVv (M := mX5_readNumber) (N := mX5_addPart) (d' := 0) (bc1 := 0) (bs1 := 0) (bc2 := bc) (bs2 := bs) (pc' := 53) [.int l1] hb vX5_51 rfl (pz_dc dX5_readNumber 30 rfl) rfl (Nat.le_of_ble_eq_true rfl) (Nat.le_of_ble_eq_true rfl) rfl (by omega) (by omega) (by omega) (fun h1 hb => ?_)
    exact pz_vret (pz_dc dX5_readNumber 31 rfl) rfl hb
  · replace hb := hb.2 hc
    refine pz_aload_n (pc' := 10) (x := l0) 0 rfl (pz_dc dX5_readNumber 7 rfl) rfl ?_
    refine pz_cVi (M := mX5_readNumber) (N := mX5_here) (d' := 1) (bc1 := 0) (bs1 := 0) (bc2 := bc) (bs2 := bs) (pc' := 13) [] hb vX5_48 rfl (pz_dc dX5_readNumber 8 rfl) rfl (Nat.le_of_ble_eq_true rfl) (Nat.le_of_ble_eq_true rfl) rfl (by omega) (by omega) (by omega) (fun x3 h2 hb => ?_)
    refine pz_callS (M := mX5_readNumber) (N := mX9_isDigit) (d' := 0) (bc1 := 0) (bs1 := 0) (bc2 := bc) (bs2 := bs) (pc' := 16) [.int x3] sX5_64 rfl (pz_dc dX5_readNumber 9 rfl) rfl (Nat.le_of_ble_eq_true rfl) (Nat.le_of_ble_eq_true rfl) rfl (by omega) (by omega) (by omega) ?_
    refine cX9_isDigit ?_
    show pz_V mX5_readNumber _ _ _ _ _ 16 [(0, .ref l0), (1, .int l1), (2, .int l2)] [.int (eX9_isDigit x3)] h2
    refine pz_if_eq (pc' := 19) (tgt := 48) rfl (pz_dc dX5_readNumber 10 rfl) (by decide) (fun hc => ?_) (fun hc => ?_)
    · replace hb := hb.1 hc
      refine pz_aload_n (pc' := 49) (x := l0) 0 rfl (pz_dc dX5_readNumber 28 rfl) rfl ?_
      refine pz_iload_n (pc' := 50) (x := l1) 1 rfl (pz_dc dX5_readNumber 29 rfl) rfl ?_
      refine pz_cVv (M := mX5_readNumber) (N := mX5_addPart) (d' := 0) (bc1 := 0) (bs1 := 0) (bc2 := bc) (bs2 := bs) (pc' := 53) [.int l1] hb vX5_51 rfl (pz_dc dX5_readNumber 30 rfl) rfl (Nat.le_of_ble_eq_true rfl) (Nat.le_of_ble_eq_true rfl) rfl (by omega) (by omega) (by omega) (fun h4 hb => ?_)
      exact pz_vret (pz_dc dX5_readNumber 31 rfl) rfl hb
    · replace hb := hb.2 hc
      refine pz_bipush (pc' := 21) (v := 10) rfl (pz_dc dX5_readNumber 11 rfl) kb_10 ?_
      refine pz_iload_n (pc' := 22) (x := l1) 1 rfl (pz_dc dX5_readNumber 12 rfl) rfl ?_
      refine pz_imul (pc' := 23) rfl (pz_dc dX5_readNumber 13 rfl) ?_
      refine pz_aload_n (pc' := 24) (x := l0) 0 rfl (pz_dc dX5_readNumber 14 rfl) rfl ?_
      refine pz_cVi (M := mX5_readNumber) (N := mX5_here) (d' := 1) (bc1 := 0) (bs1 := 0) (bc2 := bc) (bs2 := bs) (pc' := 27) [] hb vX5_48 rfl (pz_dc dX5_readNumber 15 rfl) rfl (Nat.le_of_ble_eq_true rfl) (Nat.le_of_ble_eq_true rfl) rfl (by omega) (by omega) (by omega) (fun x6 h5 hb => ?_)
      refine pz_iadd (pc' := 28) rfl (pz_dc dX5_readNumber 16 rfl) ?_
      refine pz_bipush (pc' := 30) (v := 48) rfl (pz_dc dX5_readNumber 17 rfl) kb_48 ?_
      refine pz_isub (pc' := 31) rfl (pz_dc dX5_readNumber 18 rfl) ?_
      refine pz_istore_n (pc' := 32) (lv' := [(1, .int (((((10 : Int32)) * l1) + x6) - ((48 : Int32)))), (0, .ref l0), (2, .int l2)]) rfl (pz_dc dX5_readNumber 19 rfl) (by decide) rfl ?_
      refine pz_aload_n (pc' := 33) (x := l0) 1 rfl (pz_dc dX5_readNumber 20 rfl) rfl ?_
      refine pz_dup (pc' := 34) rfl (pz_dc dX5_readNumber 21 rfl) rfl ?_
      refine pz_getI (M := mX5_readNumber) hb fX5_29 (pc' := 37) rfl (pz_dc dX5_readNumber 22 rfl) (fun x7 hb => ?_)
      refine pz_iconst (pc' := 38) (v := 1) rfl (pz_dc dX5_readNumber 23 rfl) ki_1 ?_
      refine pz_iadd (pc' := 39) rfl (pz_dc dX5_readNumber 24 rfl) ?_
      refine pz_putv (M := mX5_readNumber) hb (pX5_29 _ rfl) rfl rfl (pc' := 42) rfl (pz_dc dX5_readNumber 25 rfl) (fun h8 hb => ?_)
      refine pz_iinc (pc' := 45) (x := l2) (v := l2 + (1 : Int32)) (lv' := [(2, .int (l2 + (1 : Int32))), (1, .int (((((10 : Int32)) * l1) + x6) - ((48 : Int32)))), (0, .ref l0)]) 2 rfl (pz_dc dX5_readNumber 26 rfl) rfl rfl (by decide) rfl ?_
      refine pz_goto (pc' := 4) (pz_dc dX5_readNumber 27 rfl) (by decide) ?_
      refine pz_lv (lv' := [(0, .ref l0), (1, .int (((((10 : Int32)) * l1) + x6) - ((48 : Int32)))), (2, .int (l2 + (1 : Int32)))]) [2, 1, 0] rfl ?_
      exact hb
set_option maxRecDepth 20000 in
set_option maxHeartbeats 4000000 in
theorem wX5_thingOf_0 {Ex : State → Nat → Prop} {Q : Option Value → pz_H → Prop} {d bc bs : Nat} {l0 : Int32}  {h : pz_H}  (hb : (l0.toInt = 98 → Q (some (.int 1)) h) ∧ (l0.toInt = 104 → Q (some (.int 2)) h) ∧ (l0.toInt = 107 → Q (some (.int 4)) h) ∧ (l0.toInt = 108 → Q (some (.int 0)) h) ∧ (l0.toInt = 110 → Q (some (.int 5)) h) ∧ (l0.toInt = 116 → Q (some (.int 3)) h) ∧ (l0.toInt ≠ 98 ∧ l0.toInt ≠ 104 ∧ l0.toInt ≠ 107 ∧ l0.toInt ≠ 108 ∧ l0.toInt ≠ 110 ∧ l0.toInt ≠ 116 → Q (some (.int ((-1)))) h)) : pz_V mX5_thingOf Ex Q d bc bs 0 [(0, .int l0)] [] h := by
  refine pz_iload_n (pc' := 1) (x := l0) 0 rfl (pz_dc dX5_thingOf 0 rfl) rfl ?_
  refine pz_tableN (tgt := 104) (pz_dc dX5_thingOf 1 rfl) (by decide) (fun i hi hx => ?_) (by decide) (fun hc => ?_)
  · match i, hi, hx with
    | 0, _, hx =>
      refine ⟨_, 94, rfl, by decide, ?_⟩
      replace hb := hb.1 (by omega)
      refine pz_iconst (pc' := 95) (v := 1) rfl (pz_dc dX5_thingOf 4 rfl) ki_1 ?_
      exact pz_iret (pz_dc dX5_thingOf 5 rfl) rfl hb
    | 1, _, hx =>
      refine ⟨_, 104, rfl, by decide, ?_⟩
      replace hb := hb.2.2.2.2.2.2 (by omega)
      refine pz_iconst (pc' := 105) (v := (-1)) rfl (pz_dc dX5_thingOf 14 rfl) ki_m1 ?_
      exact pz_iret (pz_dc dX5_thingOf 15 rfl) rfl hb
    | 2, _, hx =>
      refine ⟨_, 104, rfl, by decide, ?_⟩
      replace hb := hb.2.2.2.2.2.2 (by omega)
      refine pz_iconst (pc' := 105) (v := (-1)) rfl (pz_dc dX5_thingOf 14 rfl) ki_m1 ?_
      exact pz_iret (pz_dc dX5_thingOf 15 rfl) rfl hb
    | 3, _, hx =>
      refine ⟨_, 104, rfl, by decide, ?_⟩
      replace hb := hb.2.2.2.2.2.2 (by omega)
      refine pz_iconst (pc' := 105) (v := (-1)) rfl (pz_dc dX5_thingOf 14 rfl) ki_m1 ?_
      exact pz_iret (pz_dc dX5_thingOf 15 rfl) rfl hb
    | 4, _, hx =>
      refine ⟨_, 104, rfl, by decide, ?_⟩
      replace hb := hb.2.2.2.2.2.2 (by omega)
      refine pz_iconst (pc' := 105) (v := (-1)) rfl (pz_dc dX5_thingOf 14 rfl) ki_m1 ?_
      exact pz_iret (pz_dc dX5_thingOf 15 rfl) rfl hb
    | 5, _, hx =>
      refine ⟨_, 104, rfl, by decide, ?_⟩
      replace hb := hb.2.2.2.2.2.2 (by omega)
      refine pz_iconst (pc' := 105) (v := (-1)) rfl (pz_dc dX5_thingOf 14 rfl) ki_m1 ?_
      exact pz_iret (pz_dc dX5_thingOf 15 rfl) rfl hb
    | 6, _, hx =>
      refine ⟨_, 96, rfl, by decide, ?_⟩
      replace hb := hb.2.1 (by omega)
      refine pz_iconst (pc' := 97) (v := 2) rfl (pz_dc dX5_thingOf 6 rfl) ki_2 ?_
      exact pz_iret (pz_dc dX5_thingOf 7 rfl) rfl hb
    | 7, _, hx =>
      refine ⟨_, 104, rfl, by decide, ?_⟩
      replace hb := hb.2.2.2.2.2.2 (by omega)
      refine pz_iconst (pc' := 105) (v := (-1)) rfl (pz_dc dX5_thingOf 14 rfl) ki_m1 ?_
      exact pz_iret (pz_dc dX5_thingOf 15 rfl) rfl hb
    | 8, _, hx =>
      refine ⟨_, 104, rfl, by decide, ?_⟩
      replace hb := hb.2.2.2.2.2.2 (by omega)
      refine pz_iconst (pc' := 105) (v := (-1)) rfl (pz_dc dX5_thingOf 14 rfl) ki_m1 ?_
      exact pz_iret (pz_dc dX5_thingOf 15 rfl) rfl hb
    | 9, _, hx =>
      refine ⟨_, 100, rfl, by decide, ?_⟩
      replace hb := hb.2.2.1 (by omega)
      refine pz_iconst (pc' := 101) (v := 4) rfl (pz_dc dX5_thingOf 10 rfl) ki_4 ?_
      exact pz_iret (pz_dc dX5_thingOf 11 rfl) rfl hb
    | 10, _, hx =>
      refine ⟨_, 92, rfl, by decide, ?_⟩
      replace hb := hb.2.2.2.1 (by omega)
      refine pz_iconst (pc' := 93) (v := 0) rfl (pz_dc dX5_thingOf 2 rfl) ki_0 ?_
      exact pz_iret (pz_dc dX5_thingOf 3 rfl) rfl hb
    | 11, _, hx =>
      refine ⟨_, 104, rfl, by decide, ?_⟩
      replace hb := hb.2.2.2.2.2.2 (by omega)
      refine pz_iconst (pc' := 105) (v := (-1)) rfl (pz_dc dX5_thingOf 14 rfl) ki_m1 ?_
      exact pz_iret (pz_dc dX5_thingOf 15 rfl) rfl hb
    | 12, _, hx =>
      refine ⟨_, 102, rfl, by decide, ?_⟩
      replace hb := hb.2.2.2.2.1 (by omega)
      refine pz_iconst (pc' := 103) (v := 5) rfl (pz_dc dX5_thingOf 12 rfl) ki_5 ?_
      exact pz_iret (pz_dc dX5_thingOf 13 rfl) rfl hb
    | 13, _, hx =>
      refine ⟨_, 104, rfl, by decide, ?_⟩
      replace hb := hb.2.2.2.2.2.2 (by omega)
      refine pz_iconst (pc' := 105) (v := (-1)) rfl (pz_dc dX5_thingOf 14 rfl) ki_m1 ?_
      exact pz_iret (pz_dc dX5_thingOf 15 rfl) rfl hb
    | 14, _, hx =>
      refine ⟨_, 104, rfl, by decide, ?_⟩
      replace hb := hb.2.2.2.2.2.2 (by omega)
      refine pz_iconst (pc' := 105) (v := (-1)) rfl (pz_dc dX5_thingOf 14 rfl) ki_m1 ?_
      exact pz_iret (pz_dc dX5_thingOf 15 rfl) rfl hb
    | 15, _, hx =>
      refine ⟨_, 104, rfl, by decide, ?_⟩
      replace hb := hb.2.2.2.2.2.2 (by omega)
      refine pz_iconst (pc' := 105) (v := (-1)) rfl (pz_dc dX5_thingOf 14 rfl) ki_m1 ?_
      exact pz_iret (pz_dc dX5_thingOf 15 rfl) rfl hb
    | 16, _, hx =>
      refine ⟨_, 104, rfl, by decide, ?_⟩
      replace hb := hb.2.2.2.2.2.2 (by omega)
      refine pz_iconst (pc' := 105) (v := (-1)) rfl (pz_dc dX5_thingOf 14 rfl) ki_m1 ?_
      exact pz_iret (pz_dc dX5_thingOf 15 rfl) rfl hb
    | 17, _, hx =>
      refine ⟨_, 104, rfl, by decide, ?_⟩
      replace hb := hb.2.2.2.2.2.2 (by omega)
      refine pz_iconst (pc' := 105) (v := (-1)) rfl (pz_dc dX5_thingOf 14 rfl) ki_m1 ?_
      exact pz_iret (pz_dc dX5_thingOf 15 rfl) rfl hb
    | 18, _, hx =>
      refine ⟨_, 98, rfl, by decide, ?_⟩
      replace hb := hb.2.2.2.2.2.1 (by omega)
      refine pz_iconst (pc' := 99) (v := 3) rfl (pz_dc dX5_thingOf 8 rfl) ki_3 ?_
      exact pz_iret (pz_dc dX5_thingOf 9 rfl) rfl hb
    | k + 19, hi, _ => exact absurd hi (by simp only [List.size_toArray, List.length_cons, List.length_nil]; omega)
  · replace hb := hb.2.2.2.2.2.2 (by omega)
    refine pz_iconst (pc' := 105) (v := (-1)) rfl (pz_dc dX5_thingOf 14 rfl) ki_m1 ?_
    exact pz_iret (pz_dc dX5_thingOf 15 rfl) rfl hb
set_option maxRecDepth 20000 in
set_option maxHeartbeats 4000000 in
theorem wX5_worth_0 {Ex : State → Nat → Prop} {Q : Option Value → pz_H → Prop} {d bc bs : Nat} {l0 : Nat} {l1 : Int32} {l2 : Int32} {l3 : Int32} {l4 : Int32} {l5 : Int32} {l6 : Int32}  {h : pz_H} (hD : 1 ≤ d) (hb : pz_gI h l0 5 3 (fun (x1 : Int32) => (¬ x1 = 0 → pz_gR h l0 5 2 (fun (a2 : Nat) => pz_sI h a2 0 l1 (fun (h3 : pz_H) => pz_gR h3 l0 5 2 (fun (a4 : Nat) => pz_sI h3 a4 1 l2 (fun (h5 : pz_H) => pz_gR h5 l0 5 2 (fun (a6 : Nat) => pz_sI h5 a6 2 l3 (fun (h7 : pz_H) => pz_gR h7 l0 5 2 (fun (a8 : Nat) => pz_sI h7 a8 3 l4 (fun (h9 : pz_H) => pz_gR h9 l0 5 2 (fun (a10 : Nat) => pz_sI h9 a10 4 l5 (fun (h11 : pz_H) => pz_gR h11 l0 5 2 (fun (a12 : Nat) => pz_sI h11 a12 5 l6 (fun (h13 : pz_H) => pz_V mX5_worth Ex Q d bc bs 66 [(0, .ref l0), (7, .int 0), (8, .int 0)] [] h13))))))))))))) ∧ (x1 = 0 → Q (some (.int (((l1 + ((2 : Int32))) / ((3 : Int32))) - l3))) h))) : pz_V mX5_worth Ex Q d bc bs 0 [(0, .ref l0), (1, .int l1), (2, .int l2), (3, .int l3), (4, .int l4), (5, .int l5), (6, .int l6)] [] h := by
  refine pz_aload_n (pc' := 1) (x := l0) 0 rfl (pz_dc dX5_worth 0 rfl) rfl ?_
  refine pz_getI (M := mX5_worth) hb fX5_25 (pc' := 4) rfl (pz_dc dX5_worth 1 rfl) (fun x1 hb => ?_)
  refine pz_if_ne (pc' := 7) (tgt := 15) rfl (pz_dc dX5_worth 2 rfl) (by decide) (fun hc => ?_) (fun hc => ?_)
  · replace hb := hb.1 hc
    refine pz_aload_n (pc' := 16) (x := l0) 0 rfl (pz_dc dX5_worth 11 rfl) rfl ?_
    refine pz_getR (M := mX5_worth) hb fX5_18 (pc' := 19) rfl (pz_dc dX5_worth 12 rfl) (fun a2 hb => ?_)
    refine pz_iconst (pc' := 20) (v := 0) rfl (pz_dc dX5_worth 13 rfl) ki_0 ?_
    refine pz_iload_n (pc' := 21) (x := l1) 1 rfl (pz_dc dX5_worth 14 rfl) rfl ?_
    refine pz_stI hb (pc' := 22) rfl (pz_dc dX5_worth 15 rfl) (fun h3 hb => ?_)
    refine pz_aload_n (pc' := 23) (x := l0) 0 rfl (pz_dc dX5_worth 16 rfl) rfl ?_
    refine pz_getR (M := mX5_worth) hb fX5_18 (pc' := 26) rfl (pz_dc dX5_worth 17 rfl) (fun a4 hb => ?_)
    refine pz_iconst (pc' := 27) (v := 1) rfl (pz_dc dX5_worth 18 rfl) ki_1 ?_
    refine pz_iload_n (pc' := 28) (x := l2) 2 rfl (pz_dc dX5_worth 19 rfl) rfl ?_
    refine pz_stI hb (pc' := 29) rfl (pz_dc dX5_worth 20 rfl) (fun h5 hb => ?_)
    refine pz_aload_n (pc' := 30) (x := l0) 0 rfl (pz_dc dX5_worth 21 rfl) rfl ?_
    refine pz_getR (M := mX5_worth) hb fX5_18 (pc' := 33) rfl (pz_dc dX5_worth 22 rfl) (fun a6 hb => ?_)
    refine pz_iconst (pc' := 34) (v := 2) rfl (pz_dc dX5_worth 23 rfl) ki_2 ?_
    refine pz_iload_n (pc' := 35) (x := l3) 3 rfl (pz_dc dX5_worth 24 rfl) rfl ?_
    refine pz_stI hb (pc' := 36) rfl (pz_dc dX5_worth 25 rfl) (fun h7 hb => ?_)
    refine pz_aload_n (pc' := 37) (x := l0) 0 rfl (pz_dc dX5_worth 26 rfl) rfl ?_
    refine pz_getR (M := mX5_worth) hb fX5_18 (pc' := 40) rfl (pz_dc dX5_worth 27 rfl) (fun a8 hb => ?_)
    refine pz_iconst (pc' := 41) (v := 3) rfl (pz_dc dX5_worth 28 rfl) ki_3 ?_
    refine pz_iload (pc' := 43) (x := l4) 4 rfl (pz_dc dX5_worth 29 rfl) rfl ?_
    refine pz_stI hb (pc' := 44) rfl (pz_dc dX5_worth 30 rfl) (fun h9 hb => ?_)
    refine pz_aload_n (pc' := 45) (x := l0) 0 rfl (pz_dc dX5_worth 31 rfl) rfl ?_
    refine pz_getR (M := mX5_worth) hb fX5_18 (pc' := 48) rfl (pz_dc dX5_worth 32 rfl) (fun a10 hb => ?_)
    refine pz_iconst (pc' := 49) (v := 4) rfl (pz_dc dX5_worth 33 rfl) ki_4 ?_
    refine pz_iload (pc' := 51) (x := l5) 5 rfl (pz_dc dX5_worth 34 rfl) rfl ?_
    refine pz_stI hb (pc' := 52) rfl (pz_dc dX5_worth 35 rfl) (fun h11 hb => ?_)
    refine pz_aload_n (pc' := 53) (x := l0) 0 rfl (pz_dc dX5_worth 36 rfl) rfl ?_
    refine pz_getR (M := mX5_worth) hb fX5_18 (pc' := 56) rfl (pz_dc dX5_worth 37 rfl) (fun a12 hb => ?_)
    refine pz_iconst (pc' := 57) (v := 5) rfl (pz_dc dX5_worth 38 rfl) ki_5 ?_
    refine pz_iload (pc' := 59) (x := l6) 6 rfl (pz_dc dX5_worth 39 rfl) rfl ?_
    refine pz_stI hb (pc' := 60) rfl (pz_dc dX5_worth 40 rfl) (fun h13 hb => ?_)
    refine pz_iconst (pc' := 61) (v := 0) rfl (pz_dc dX5_worth 41 rfl) ki_0 ?_
    refine pz_istore (pc' := 63) (lv' := [(7, .int 0), (0, .ref l0), (1, .int l1), (2, .int l2), (3, .int l3), (4, .int l4), (5, .int l5), (6, .int l6)]) rfl (pz_dc dX5_worth 42 rfl) (by decide) rfl ?_
    refine pz_iconst (pc' := 64) (v := 0) rfl (pz_dc dX5_worth 43 rfl) ki_0 ?_
    refine pz_istore (pc' := 66) (lv' := [(8, .int 0), (7, .int 0), (0, .ref l0), (1, .int l1), (2, .int l2), (3, .int l3), (4, .int l4), (5, .int l5), (6, .int l6)]) rfl (pz_dc dX5_worth 44 rfl) (by decide) rfl ?_
    refine pz_lv (lv' := [(0, .ref l0), (7, .int 0), (8, .int 0)]) [2, 1, 0] rfl ?_
    exact hb
  · replace hb := hb.2 hc
    refine pz_iload_n (pc' := 8) (x := l1) 1 rfl (pz_dc dX5_worth 3 rfl) rfl ?_
    refine pz_iconst (pc' := 9) (v := 2) rfl (pz_dc dX5_worth 4 rfl) ki_2 ?_
    refine pz_iadd (pc' := 10) rfl (pz_dc dX5_worth 5 rfl) ?_
    refine pz_iconst (pc' := 11) (v := 3) rfl (pz_dc dX5_worth 6 rfl) ki_3 ?_
    refine pz_idiv (pc' := 12) rfl (pz_dc dX5_worth 7 rfl) (by decide) ?_
    refine pz_iload_n (pc' := 13) (x := l3) 3 rfl (pz_dc dX5_worth 8 rfl) rfl ?_
    refine pz_isub (pc' := 14) rfl (pz_dc dX5_worth 9 rfl) ?_
    exact pz_iret (pz_dc dX5_worth 10 rfl) rfl hb
set_option maxRecDepth 20000 in
set_option maxHeartbeats 4000000 in
theorem wX5_worth_66 {Ex : State → Nat → Prop} {Q : Option Value → pz_H → Prop} {d bc bs : Nat} {l0 : Nat} {l7 : Int32} {l8 : Int32}  {h : pz_H} (hD : 1 ≤ d) (hb : pz_gI h l0 5 3 (fun (x1 : Int32) => (x1 ≤ l8 → pz_gR h l0 5 1 (fun (a2 : Nat) => pz_rI h a2 0 (fun (x3 : Int32) => Q (some (.int x3)) h))) ∧ (¬ x1 ≤ l8 → (((40 : Int32)) ≤ l8 → pz_gR h l0 5 1 (fun (a4 : Nat) => pz_rI h a4 0 (fun (x5 : Int32) => Q (some (.int x5)) h))) ∧ (¬ ((40 : Int32)) ≤ l8 → pz_gR h l0 5 0 (fun (a6 : Nat) => pz_rI h a6 l8 (fun (x7 : Int32) => (((2000 : Int32)) ≤ x7 → pz_V mX5_worth Ex Q d bc bs 142 [(0, .ref l0), (7, .int l7), (8, .int l8), (9, .int x7)] [] h) ∧ (¬ ((2000 : Int32)) ≤ x7 → (((40 : Int32)) ≤ l7 → pz_V mX5_worth Ex Q d bc bs 142 [(0, .ref l0), (7, .int l7), (8, .int l8), (9, .int x7)] [] h) ∧ (¬ ((40 : Int32)) ≤ l7 → pz_gR h l0 5 1 (fun (a8 : Nat) => (((1000 : Int32)) ≤ x7 → pz_is h l0 5 ∧ (pz_ki mX5_thing 0 0 0 (.ref l0 :: [.int (x7 - ((1000 : Int32)))]) h (fun (x10 : Int32) (h9 : pz_H) => pz_sI h9 a8 l7 x10 (fun (h11 : pz_H) => pz_V mX5_worth Ex Q d bc bs 66 [(0, .ref l0), (7, .int (l7 + (1 : Int32))), (8, .int (l8 + (1 : Int32)))] [] h11)))) ∧ (¬ ((1000 : Int32)) ≤ x7 → pz_sI h a8 l7 x7 (fun (h12 : pz_H) => pz_V mX5_worth Ex Q d bc bs 66 [(0, .ref l0), (7, .int (l7 + (1 : Int32))), (8, .int (l8 + (1 : Int32)))] [] h12))))))))))) : pz_V mX5_worth Ex Q d bc bs 66 [(0, .ref l0), (7, .int l7), (8, .int l8)] [] h := by
  refine pz_iload (pc' := 68) (x := l8) 2 rfl (pz_dc dX5_worth 45 rfl) rfl ?_
  refine pz_aload_n (pc' := 69) (x := l0) 0 rfl (pz_dc dX5_worth 46 rfl) rfl ?_
  refine pz_getI (M := mX5_worth) hb fX5_25 (pc' := 72) rfl (pz_dc dX5_worth 47 rfl) (fun x1 hb => ?_)
  refine pz_icmp_ge (pc' := 75) (tgt := 226) rfl (pz_dc dX5_worth 48 rfl) (by decide) (fun hc => ?_) (fun hc => ?_)
  · replace hb := hb.1 hc
    refine pz_aload_n (pc' := 227) (x := l0) 0 rfl (pz_dc dX5_worth 124 rfl) rfl ?_
    refine pz_getR (M := mX5_worth) hb fX5_15 (pc' := 230) rfl (pz_dc dX5_worth 125 rfl) (fun a2 hb => ?_)
    refine pz_iconst (pc' := 231) (v := 0) rfl (pz_dc dX5_worth 126 rfl) ki_0 ?_
    refine pz_ldI hb (pc' := 232) rfl (pz_dc dX5_worth 127 rfl) (fun x3 hb => ?_)
    exact pz_iret (pz_dc dX5_worth 128 rfl) rfl hb
  · replace hb := hb.2 hc
    refine pz_iload (pc' := 77) (x := l8) 2 rfl (pz_dc dX5_worth 49 rfl) rfl ?_
    refine pz_bipush (pc' := 79) (v := 40) rfl (pz_dc dX5_worth 50 rfl) kb_40 ?_
    refine pz_icmp_ge (pc' := 82) (tgt := 226) rfl (pz_dc dX5_worth 51 rfl) (by decide) (fun hc => ?_) (fun hc => ?_)
    · replace hb := hb.1 hc
      refine pz_aload_n (pc' := 227) (x := l0) 0 rfl (pz_dc dX5_worth 124 rfl) rfl ?_
      refine pz_getR (M := mX5_worth) hb fX5_15 (pc' := 230) rfl (pz_dc dX5_worth 125 rfl) (fun a4 hb => ?_)
      refine pz_iconst (pc' := 231) (v := 0) rfl (pz_dc dX5_worth 126 rfl) ki_0 ?_
      refine pz_ldI hb (pc' := 232) rfl (pz_dc dX5_worth 127 rfl) (fun x5 hb => ?_)
      exact pz_iret (pz_dc dX5_worth 128 rfl) rfl hb
    · replace hb := hb.2 hc
      refine pz_aload_n (pc' := 83) (x := l0) 0 rfl (pz_dc dX5_worth 52 rfl) rfl ?_
      refine pz_getR (M := mX5_worth) hb fX5_11 (pc' := 86) rfl (pz_dc dX5_worth 53 rfl) (fun a6 hb => ?_)
      refine pz_iload (pc' := 88) (x := l8) 2 rfl (pz_dc dX5_worth 54 rfl) rfl ?_
      refine pz_ldI hb (pc' := 89) rfl (pz_dc dX5_worth 55 rfl) (fun x7 hb => ?_)
      refine pz_istore (pc' := 91) (lv' := [(9, .int x7), (0, .ref l0), (7, .int l7), (8, .int l8)]) rfl (pz_dc dX5_worth 56 rfl) (by decide) rfl ?_
      refine pz_iload (pc' := 93) (x := x7) 0 rfl (pz_dc dX5_worth 57 rfl) rfl ?_
      refine pz_sipush (pc' := 96) (v := 2000) rfl (pz_dc dX5_worth 58 rfl) ks_2000 ?_
      refine pz_icmp_ge (pc' := 99) (tgt := 142) rfl (pz_dc dX5_worth 59 rfl) (by decide) (fun hc => ?_) (fun hc => ?_)
      · replace hb := hb.1 hc
        refine pz_lv (lv' := [(0, .ref l0), (7, .int l7), (8, .int l8), (9, .int x7)]) [1, 2, 3, 0] rfl ?_
        exact hb
      · replace hb := hb.2 hc
        refine pz_iload (pc' := 101) (x := l7) 2 rfl (pz_dc dX5_worth 60 rfl) rfl ?_
        refine pz_bipush (pc' := 103) (v := 40) rfl (pz_dc dX5_worth 61 rfl) kb_40 ?_
        refine pz_icmp_ge (pc' := 106) (tgt := 142) rfl (pz_dc dX5_worth 62 rfl) (by decide) (fun hc => ?_) (fun hc => ?_)
        · replace hb := hb.1 hc
          refine pz_lv (lv' := [(0, .ref l0), (7, .int l7), (8, .int l8), (9, .int x7)]) [1, 2, 3, 0] rfl ?_
          exact hb
        · replace hb := hb.2 hc
          refine pz_aload_n (pc' := 107) (x := l0) 1 rfl (pz_dc dX5_worth 63 rfl) rfl ?_
          refine pz_getR (M := mX5_worth) hb fX5_15 (pc' := 110) rfl (pz_dc dX5_worth 64 rfl) (fun a8 hb => ?_)
          refine pz_iload (pc' := 112) (x := l7) 2 rfl (pz_dc dX5_worth 65 rfl) rfl ?_
          refine pz_iload (pc' := 114) (x := x7) 0 rfl (pz_dc dX5_worth 66 rfl) rfl ?_
          refine pz_sipush (pc' := 117) (v := 1000) rfl (pz_dc dX5_worth 67 rfl) ks_1000 ?_
          refine pz_icmp_ge (pc' := 120) (tgt := 125) rfl (pz_dc dX5_worth 68 rfl) (by decide) (fun hc => ?_) (fun hc => ?_)
          · replace hb := hb.1 hc
            refine pz_aload_n (pc' := 126) (x := l0) 1 rfl (pz_dc dX5_worth 71 rfl) rfl ?_
            refine pz_iload (pc' := 128) (x := x7) 0 rfl (pz_dc dX5_worth 72 rfl) rfl ?_
            refine pz_sipush (pc' := 131) (v := 1000) rfl (pz_dc dX5_worth 73 rfl) ks_1000 ?_
            refine pz_isub (pc' := 132) rfl (pz_dc dX5_worth 74 rfl) ?_
            refine pz_cVi (M := mX5_worth) (N := mX5_thing) (d' := 0) (bc1 := 0) (bs1 := 0) (bc2 := bc) (bs2 := bs) (pc' := 135) [.int (x7 - ((1000 : Int32)))] hb vX5_77 rfl (pz_dc dX5_worth 75 rfl) rfl (Nat.le_of_ble_eq_true rfl) (Nat.le_of_ble_eq_true rfl) rfl (by omega) (by omega) (by omega) (fun x10 h9 hb => ?_)
            refine pz_stI hb (pc' := 136) rfl (pz_dc dX5_worth 76 rfl) (fun h11 hb => ?_)
            refine pz_iinc (pc' := 139) (x := l7) (v := l7 + (1 : Int32)) (lv' := [(7, .int (l7 + (1 : Int32))), (9, .int x7), (0, .ref l0), (8, .int l8)]) 2 rfl (pz_dc dX5_worth 77 rfl) rfl rfl (by decide) rfl ?_
            refine pz_goto (pc' := 220) (pz_dc dX5_worth 78 rfl) (by decide) ?_
            refine pz_iinc (pc' := 223) (x := l8) (v := l8 + (1 : Int32)) (lv' := [(8, .int (l8 + (1 : Int32))), (7, .int (l7 + (1 : Int32))), (9, .int x7), (0, .ref l0)]) 3 rfl (pz_dc dX5_worth 122 rfl) rfl rfl (by decide) rfl ?_
            refine pz_goto (pc' := 66) (pz_dc dX5_worth 123 rfl) (by decide) ?_
            refine pz_lv (lv' := [(0, .ref l0), (7, .int (l7 + (1 : Int32))), (8, .int (l8 + (1 : Int32)))]) [3, 1, 0] rfl ?_
            exact hb
          · replace hb := hb.2 hc
            refine pz_iload (pc' := 122) (x := x7) 0 rfl (pz_dc dX5_worth 69 rfl) rfl ?_
            refine pz_goto (pc' := 135) (pz_dc dX5_worth 70 rfl) (by decide) ?_
            refine pz_stI hb (pc' := 136) rfl (pz_dc dX5_worth 76 rfl) (fun h12 hb => ?_)
            refine pz_iinc (pc' := 139) (x := l7) (v := l7 + (1 : Int32)) (lv' := [(7, .int (l7 + (1 : Int32))), (9, .int x7), (0, .ref l0), (8, .int l8)]) 2 rfl (pz_dc dX5_worth 77 rfl) rfl rfl (by decide) rfl ?_
            refine pz_goto (pc' := 220) (pz_dc dX5_worth 78 rfl) (by decide) ?_
            refine pz_iinc (pc' := 223) (x := l8) (v := l8 + (1 : Int32)) (lv' := [(8, .int (l8 + (1 : Int32))), (7, .int (l7 + (1 : Int32))), (9, .int x7), (0, .ref l0)]) 3 rfl (pz_dc dX5_worth 122 rfl) rfl rfl (by decide) rfl ?_
            refine pz_goto (pc' := 66) (pz_dc dX5_worth 123 rfl) (by decide) ?_
            refine pz_lv (lv' := [(0, .ref l0), (7, .int (l7 + (1 : Int32))), (8, .int (l8 + (1 : Int32)))]) [3, 1, 0] rfl ?_
            exact hb
set_option maxRecDepth 20000 in
set_option maxHeartbeats 4000000 in
theorem wX5_worth_142 {Ex : State → Nat → Prop} {Q : Option Value → pz_H → Prop} {d bc bs : Nat} {l0 : Nat} {l7 : Int32} {l8 : Int32} {l9 : Int32}  {h : pz_H} (hD : 1 ≤ d) (hb : (¬ l9 = ((2033 : Int32)) → (l7 ≤ ((1 : Int32)) → pz_V mX5_worth Ex Q d bc bs 66 [(0, .ref l0), (7, .int l7), (8, .int (l8 + (1 : Int32)))] [] h) ∧ (¬ l7 ≤ ((1 : Int32)) → pz_gR h l0 5 1 (fun (a1 : Nat) => pz_gR h l0 5 1 (fun (a2 : Nat) => pz_rI h a2 ((l7 + (-1 : Int32)) - ((1 : Int32))) (fun (x3 : Int32) => pz_gR h l0 5 1 (fun (a4 : Nat) => pz_rI h a4 (l7 + (-1 : Int32)) (fun (x5 : Int32) => pz_ki mX5_joined 0 0 0 ([.int (l9 - ((2000 : Int32))), .int x3, .int x5]) h (fun (x7 : Int32) (h6 : pz_H) => pz_sI h6 a1 ((l7 + (-1 : Int32)) - ((1 : Int32))) x7 (fun (h8 : pz_H) => pz_V mX5_worth Ex Q d bc bs 66 [(0, .ref l0), (7, .int (l7 + (-1 : Int32))), (8, .int (l8 + (1 : Int32)))] [] h8))))))))) ∧ (l9 = ((2033 : Int32)) → (l7 ≤ 0 → (l7 ≤ ((1 : Int32)) → pz_V mX5_worth Ex Q d bc bs 66 [(0, .ref l0), (7, .int l7), (8, .int (l8 + (1 : Int32)))] [] h) ∧ (¬ l7 ≤ ((1 : Int32)) → pz_gR h l0 5 1 (fun (a9 : Nat) => pz_gR h l0 5 1 (fun (a10 : Nat) => pz_rI h a10 ((l7 + (-1 : Int32)) - ((1 : Int32))) (fun (x11 : Int32) => pz_gR h l0 5 1 (fun (a12 : Nat) => pz_rI h a12 (l7 + (-1 : Int32)) (fun (x13 : Int32) => pz_ki mX5_joined 0 0 0 ([.int (l9 - ((2000 : Int32))), .int x11, .int x13]) h (fun (x15 : Int32) (h14 : pz_H) => pz_sI h14 a9 ((l7 + (-1 : Int32)) - ((1 : Int32))) x15 (fun (h16 : pz_H) => pz_V mX5_worth Ex Q d bc bs 66 [(0, .ref l0), (7, .int (l7 + (-1 : Int32))), (8, .int (l8 + (1 : Int32)))] [] h16))))))))) ∧ (¬ l7 ≤ 0 → pz_gR h l0 5 1 (fun (a17 : Nat) => pz_gR h l0 5 1 (fun (a18 : Nat) => pz_rI h a18 (l7 - ((1 : Int32))) (fun (x19 : Int32) => pz_sI h a17 (l7 - ((1 : Int32))) (-x19) (fun (h20 : pz_H) => pz_V mX5_worth Ex Q d bc bs 66 [(0, .ref l0), (7, .int l7), (8, .int (l8 + (1 : Int32)))] [] h20))))))) : pz_V mX5_worth Ex Q d bc bs 142 [(0, .ref l0), (7, .int l7), (8, .int l8), (9, .int l9)] [] h := by
  refine pz_iload (pc' := 144) (x := l9) 3 rfl (pz_dc dX5_worth 79 rfl) rfl ?_
  refine pz_sipush (pc' := 147) (v := 2033) rfl (pz_dc dX5_worth 80 rfl) ks_2033 ?_
  refine pz_icmp_ne (pc' := 150) (tgt := 177) rfl (pz_dc dX5_worth 81 rfl) (by decide) (fun hc => ?_) (fun hc => ?_)
  · replace hb := hb.1 hc
    refine pz_iload (pc' := 179) (x := l7) 1 rfl (pz_dc dX5_worth 98 rfl) rfl ?_
    refine pz_iconst (pc' := 180) (v := 1) rfl (pz_dc dX5_worth 99 rfl) ki_1 ?_
    refine pz_icmp_le (pc' := 183) (tgt := 220) rfl (pz_dc dX5_worth 100 rfl) (by decide) (fun hc => ?_) (fun hc => ?_)
    · replace hb := hb.1 hc
      refine pz_iinc (pc' := 223) (x := l8) (v := l8 + (1 : Int32)) (lv' := [(8, .int (l8 + (1 : Int32))), (0, .ref l0), (7, .int l7), (9, .int l9)]) 2 rfl (pz_dc dX5_worth 122 rfl) rfl rfl (by decide) rfl ?_
      refine pz_goto (pc' := 66) (pz_dc dX5_worth 123 rfl) (by decide) ?_
      refine pz_lv (lv' := [(0, .ref l0), (7, .int l7), (8, .int (l8 + (1 : Int32)))]) [1, 2, 0] rfl ?_
      exact hb
    · replace hb := hb.2 hc
      refine pz_iinc (pc' := 186) (x := l7) (v := l7 + (-1 : Int32)) (lv' := [(7, .int (l7 + (-1 : Int32))), (0, .ref l0), (8, .int l8), (9, .int l9)]) 1 rfl (pz_dc dX5_worth 101 rfl) rfl rfl (by decide) rfl ?_
      refine pz_aload_n (pc' := 187) (x := l0) 1 rfl (pz_dc dX5_worth 102 rfl) rfl ?_
      refine pz_getR (M := mX5_worth) hb fX5_15 (pc' := 190) rfl (pz_dc dX5_worth 103 rfl) (fun a1 hb => ?_)
      refine pz_iload (pc' := 192) (x := l7 + (-1 : Int32)) 0 rfl (pz_dc dX5_worth 104 rfl) rfl ?_
      refine pz_iconst (pc' := 193) (v := 1) rfl (pz_dc dX5_worth 105 rfl) ki_1 ?_
      refine pz_isub (pc' := 194) rfl (pz_dc dX5_worth 106 rfl) ?_
      refine pz_iload (pc' := 196) (x := l9) 3 rfl (pz_dc dX5_worth 107 rfl) rfl ?_
      refine pz_sipush (pc' := 199) (v := 2000) rfl (pz_dc dX5_worth 108 rfl) ks_2000 ?_
      refine pz_isub (pc' := 200) rfl (pz_dc dX5_worth 109 rfl) ?_
      refine pz_aload_n (pc' := 201) (x := l0) 1 rfl (pz_dc dX5_worth 110 rfl) rfl ?_
      refine pz_getR (M := mX5_worth) hb fX5_15 (pc' := 204) rfl (pz_dc dX5_worth 111 rfl) (fun a2 hb => ?_)
      refine pz_iload (pc' := 206) (x := l7 + (-1 : Int32)) 0 rfl (pz_dc dX5_worth 112 rfl) rfl ?_
      refine pz_iconst (pc' := 207) (v := 1) rfl (pz_dc dX5_worth 113 rfl) ki_1 ?_
      refine pz_isub (pc' := 208) rfl (pz_dc dX5_worth 114 rfl) ?_
      refine pz_ldI hb (pc' := 209) rfl (pz_dc dX5_worth 115 rfl) (fun x3 hb => ?_)
      refine pz_aload_n (pc' := 210) (x := l0) 1 rfl (pz_dc dX5_worth 116 rfl) rfl ?_
      refine pz_getR (M := mX5_worth) hb fX5_15 (pc' := 213) rfl (pz_dc dX5_worth 117 rfl) (fun a4 hb => ?_)
      refine pz_iload (pc' := 215) (x := l7 + (-1 : Int32)) 0 rfl (pz_dc dX5_worth 118 rfl) rfl ?_
      refine pz_ldI hb (pc' := 216) rfl (pz_dc dX5_worth 119 rfl) (fun x5 hb => ?_)
      refine pz_cSi (M := mX5_worth) (N := mX5_joined) (d' := 0) (bc1 := 0) (bs1 := 0) (bc2 := bc) (bs2 := bs) (pc' := 219) [.int (l9 - ((2000 : Int32))), .int x3, .int x5] hb sX5_80 rfl (pz_dc dX5_worth 120 rfl) rfl (Nat.le_of_ble_eq_true rfl) (Nat.le_of_ble_eq_true rfl) rfl (by omega) (by omega) (by omega) (fun x7 h6 hb => ?_)
      refine pz_stI hb (pc' := 220) rfl (pz_dc dX5_worth 121 rfl) (fun h8 hb => ?_)
      refine pz_iinc (pc' := 223) (x := l8) (v := l8 + (1 : Int32)) (lv' := [(8, .int (l8 + (1 : Int32))), (7, .int (l7 + (-1 : Int32))), (0, .ref l0), (9, .int l9)]) 2 rfl (pz_dc dX5_worth 122 rfl) rfl rfl (by decide) rfl ?_
      refine pz_goto (pc' := 66) (pz_dc dX5_worth 123 rfl) (by decide) ?_
      refine pz_lv (lv' := [(0, .ref l0), (7, .int (l7 + (-1 : Int32))), (8, .int (l8 + (1 : Int32)))]) [2, 1, 0] rfl ?_
      exact hb
  · replace hb := hb.2 hc
    refine pz_iload (pc' := 152) (x := l7) 1 rfl (pz_dc dX5_worth 82 rfl) rfl ?_
    refine pz_if_le (pc' := 155) (tgt := 177) rfl (pz_dc dX5_worth 83 rfl) (by decide) (fun hc => ?_) (fun hc => ?_)
    · replace hb := hb.1 hc
      refine pz_iload (pc' := 179) (x := l7) 1 rfl (pz_dc dX5_worth 98 rfl) rfl ?_
      refine pz_iconst (pc' := 180) (v := 1) rfl (pz_dc dX5_worth 99 rfl) ki_1 ?_
      refine pz_icmp_le (pc' := 183) (tgt := 220) rfl (pz_dc dX5_worth 100 rfl) (by decide) (fun hc => ?_) (fun hc => ?_)
      · replace hb := hb.1 hc
        refine pz_iinc (pc' := 223) (x := l8) (v := l8 + (1 : Int32)) (lv' := [(8, .int (l8 + (1 : Int32))), (0, .ref l0), (7, .int l7), (9, .int l9)]) 2 rfl (pz_dc dX5_worth 122 rfl) rfl rfl (by decide) rfl ?_
        refine pz_goto (pc' := 66) (pz_dc dX5_worth 123 rfl) (by decide) ?_
        refine pz_lv (lv' := [(0, .ref l0), (7, .int l7), (8, .int (l8 + (1 : Int32)))]) [1, 2, 0] rfl ?_
        exact hb
      · replace hb := hb.2 hc
        refine pz_iinc (pc' := 186) (x := l7) (v := l7 + (-1 : Int32)) (lv' := [(7, .int (l7 + (-1 : Int32))), (0, .ref l0), (8, .int l8), (9, .int l9)]) 1 rfl (pz_dc dX5_worth 101 rfl) rfl rfl (by decide) rfl ?_
        refine pz_aload_n (pc' := 187) (x := l0) 1 rfl (pz_dc dX5_worth 102 rfl) rfl ?_
        refine pz_getR (M := mX5_worth) hb fX5_15 (pc' := 190) rfl (pz_dc dX5_worth 103 rfl) (fun a9 hb => ?_)
        refine pz_iload (pc' := 192) (x := l7 + (-1 : Int32)) 0 rfl (pz_dc dX5_worth 104 rfl) rfl ?_
        refine pz_iconst (pc' := 193) (v := 1) rfl (pz_dc dX5_worth 105 rfl) ki_1 ?_
        refine pz_isub (pc' := 194) rfl (pz_dc dX5_worth 106 rfl) ?_
        refine pz_iload (pc' := 196) (x := l9) 3 rfl (pz_dc dX5_worth 107 rfl) rfl ?_
        refine pz_sipush (pc' := 199) (v := 2000) rfl (pz_dc dX5_worth 108 rfl) ks_2000 ?_
        refine pz_isub (pc' := 200) rfl (pz_dc dX5_worth 109 rfl) ?_
        refine pz_aload_n (pc' := 201) (x := l0) 1 rfl (pz_dc dX5_worth 110 rfl) rfl ?_
        refine pz_getR (M := mX5_worth) hb fX5_15 (pc' := 204) rfl (pz_dc dX5_worth 111 rfl) (fun a10 hb => ?_)
        refine pz_iload (pc' := 206) (x := l7 + (-1 : Int32)) 0 rfl (pz_dc dX5_worth 112 rfl) rfl ?_
        refine pz_iconst (pc' := 207) (v := 1) rfl (pz_dc dX5_worth 113 rfl) ki_1 ?_
        refine pz_isub (pc' := 208) rfl (pz_dc dX5_worth 114 rfl) ?_
        refine pz_ldI hb (pc' := 209) rfl (pz_dc dX5_worth 115 rfl) (fun x11 hb => ?_)
        refine pz_aload_n (pc' := 210) (x := l0) 1 rfl (pz_dc dX5_worth 116 rfl) rfl ?_
        refine pz_getR (M := mX5_worth) hb fX5_15 (pc' := 213) rfl (pz_dc dX5_worth 117 rfl) (fun a12 hb => ?_)
        refine pz_iload (pc' := 215) (x := l7 + (-1 : Int32)) 0 rfl (pz_dc dX5_worth 118 rfl) rfl ?_
        refine pz_ldI hb (pc' := 216) rfl (pz_dc dX5_worth 119 rfl) (fun x13 hb => ?_)
        refine pz_cSi (M := mX5_worth) (N := mX5_joined) (d' := 0) (bc1 := 0) (bs1 := 0) (bc2 := bc) (bs2 := bs) (pc' := 219) [.int (l9 - ((2000 : Int32))), .int x11, .int x13] hb sX5_80 rfl (pz_dc dX5_worth 120 rfl) rfl (Nat.le_of_ble_eq_true rfl) (Nat.le_of_ble_eq_true rfl) rfl (by omega) (by omega) (by omega) (fun x15 h14 hb => ?_)
        refine pz_stI hb (pc' := 220) rfl (pz_dc dX5_worth 121 rfl) (fun h16 hb => ?_)
        refine pz_iinc (pc' := 223) (x := l8) (v := l8 + (1 : Int32)) (lv' := [(8, .int (l8 + (1 : Int32))), (7, .int (l7 + (-1 : Int32))), (0, .ref l0), (9, .int l9)]) 2 rfl (pz_dc dX5_worth 122 rfl) rfl rfl (by decide) rfl ?_
        refine pz_goto (pc' := 66) (pz_dc dX5_worth 123 rfl) (by decide) ?_
        refine pz_lv (lv' := [(0, .ref l0), (7, .int (l7 + (-1 : Int32))), (8, .int (l8 + (1 : Int32)))]) [2, 1, 0] rfl ?_
        exact hb
    · replace hb := hb.2 hc
      refine pz_aload_n (pc' := 156) (x := l0) 0 rfl (pz_dc dX5_worth 84 rfl) rfl ?_
      refine pz_getR (M := mX5_worth) hb fX5_15 (pc' := 159) rfl (pz_dc dX5_worth 85 rfl) (fun a17 hb => ?_)
      refine pz_iload (pc' := 161) (x := l7) 1 rfl (pz_dc dX5_worth 86 rfl) rfl ?_
      refine pz_iconst (pc' := 162) (v := 1) rfl (pz_dc dX5_worth 87 rfl) ki_1 ?_
      refine pz_isub (pc' := 163) rfl (pz_dc dX5_worth 88 rfl) ?_
      refine pz_aload_n (pc' := 164) (x := l0) 0 rfl (pz_dc dX5_worth 89 rfl) rfl ?_
      refine pz_getR (M := mX5_worth) hb fX5_15 (pc' := 167) rfl (pz_dc dX5_worth 90 rfl) (fun a18 hb => ?_)
      refine pz_iload (pc' := 169) (x := l7) 1 rfl (pz_dc dX5_worth 91 rfl) rfl ?_
      refine pz_iconst (pc' := 170) (v := 1) rfl (pz_dc dX5_worth 92 rfl) ki_1 ?_
      refine pz_isub (pc' := 171) rfl (pz_dc dX5_worth 93 rfl) ?_
      refine pz_ldI hb (pc' := 172) rfl (pz_dc dX5_worth 94 rfl) (fun x19 hb => ?_)
      refine pz_ineg (pc' := 173) rfl (pz_dc dX5_worth 95 rfl) ?_
      refine pz_stI hb (pc' := 174) rfl (pz_dc dX5_worth 96 rfl) (fun h20 hb => ?_)
      refine pz_goto (pc' := 220) (pz_dc dX5_worth 97 rfl) (by decide) ?_
      refine pz_iinc (pc' := 223) (x := l8) (v := l8 + (1 : Int32)) (lv' := [(8, .int (l8 + (1 : Int32))), (0, .ref l0), (7, .int l7), (9, .int l9)]) 2 rfl (pz_dc dX5_worth 122 rfl) rfl rfl (by decide) rfl ?_
      refine pz_goto (pc' := 66) (pz_dc dX5_worth 123 rfl) (by decide) ?_
      refine pz_lv (lv' := [(0, .ref l0), (7, .int l7), (8, .int (l8 + (1 : Int32)))]) [1, 2, 0] rfl ?_
      exact hb
set_option maxRecDepth 20000 in
set_option maxHeartbeats 4000000 in
theorem wX5_thing_0 {Ex : State → Nat → Prop} {Q : Option Value → pz_H → Prop} {d bc bs : Nat} {l0 : Nat} {l1 : Int32}  {h : pz_H}  (hb : (l1 < 0 → Q (some (.int 0)) h) ∧ (¬ l1 < 0 → (((6 : Int32)) ≤ l1 → Q (some (.int 0)) h) ∧ (¬ ((6 : Int32)) ≤ l1 → pz_gR h l0 5 2 (fun (a1 : Nat) => pz_rI h a1 l1 (fun (x2 : Int32) => Q (some (.int x2)) h))))) : pz_V mX5_thing Ex Q d bc bs 0 [(0, .ref l0), (1, .int l1)] [] h := by
  refine pz_iload_n (pc' := 1) (x := l1) 1 rfl (pz_dc dX5_thing 0 rfl) rfl ?_
  refine pz_if_lt (pc' := 4) (tgt := 19) rfl (pz_dc dX5_thing 1 rfl) (by decide) (fun hc => ?_) (fun hc => ?_)
  · replace hb := hb.1 hc
    refine pz_iconst (pc' := 20) (v := 0) rfl (pz_dc dX5_thing 10 rfl) ki_0 ?_
    exact pz_iret (pz_dc dX5_thing 11 rfl) rfl hb
  · replace hb := hb.2 hc
    refine pz_iload_n (pc' := 5) (x := l1) 1 rfl (pz_dc dX5_thing 2 rfl) rfl ?_
    refine pz_bipush (pc' := 7) (v := 6) rfl (pz_dc dX5_thing 3 rfl) kb_6 ?_
    refine pz_icmp_ge (pc' := 10) (tgt := 19) rfl (pz_dc dX5_thing 4 rfl) (by decide) (fun hc => ?_) (fun hc => ?_)
    · replace hb := hb.1 hc
      refine pz_iconst (pc' := 20) (v := 0) rfl (pz_dc dX5_thing 10 rfl) ki_0 ?_
      exact pz_iret (pz_dc dX5_thing 11 rfl) rfl hb
    · replace hb := hb.2 hc
      refine pz_aload_n (pc' := 11) (x := l0) 0 rfl (pz_dc dX5_thing 5 rfl) rfl ?_
      refine pz_getR (M := mX5_thing) hb fX5_18 (pc' := 14) rfl (pz_dc dX5_thing 6 rfl) (fun a1 hb => ?_)
      refine pz_iload_n (pc' := 15) (x := l1) 1 rfl (pz_dc dX5_thing 7 rfl) rfl ?_
      refine pz_ldI hb (pc' := 16) rfl (pz_dc dX5_thing 8 rfl) (fun x2 hb => ?_)
      refine pz_goto (pc' := 20) (pz_dc dX5_thing 9 rfl) (by decide) ?_
      exact pz_iret (pz_dc dX5_thing 11 rfl) rfl hb
set_option maxRecDepth 20000 in
set_option maxHeartbeats 4000000 in
theorem wX5_joined_0 {Ex : State → Nat → Prop} {Q : Option Value → pz_H → Prop} {d bc bs : Nat} {l0 : Int32} {l1 : Int32} {l2 : Int32}  {h : pz_H}  (hb : (l0.toInt = 42 → Q (some (.int (l1 * l2))) h) ∧ (l0.toInt = 43 → Q (some (.int (l1 + l2))) h) ∧ (l0.toInt = 45 → Q (some (.int (l1 - l2))) h) ∧ (l0.toInt = 47 → (¬ l2 = 0 → ¬ l2 = 0 ∧ (Q (some (.int (l1 / l2))) h)) ∧ (l2 = 0 → Q (some (.int 0)) h)) ∧ (l0.toInt = 60 → (l2 ≤ l1 → Q (some (.int 0)) h) ∧ (¬ l2 ≤ l1 → Q (some (.int 1)) h)) ∧ (l0.toInt = 62 → (l1 ≤ l2 → Q (some (.int 0)) h) ∧ (¬ l1 ≤ l2 → Q (some (.int 1)) h)) ∧ (l0.toInt ≠ 42 ∧ l0.toInt ≠ 43 ∧ l0.toInt ≠ 45 ∧ l0.toInt ≠ 47 ∧ l0.toInt ≠ 60 ∧ l0.toInt ≠ 62 → (¬ l1 = l2 → Q (some (.int 0)) h) ∧ (l1 = l2 → Q (some (.int 1)) h))) : pz_V mX5_joined Ex Q d bc bs 0 [(0, .int l0), (1, .int l1), (2, .int l2)] [] h := by
  refine pz_iload_n (pc' := 1) (x := l0) 0 rfl (pz_dc dX5_joined 0 rfl) rfl ?_
  by_cases hx0 : l0.toInt = 42
  · refine pz_lookup (off := 67) (tgt := 68) (pz_dc dX5_joined 1 rfl) (by decide) (by rw [hx0]; rfl) (by decide) ?_
    replace hb := hb.1 hx0
    refine pz_iload_n (pc' := 69) (x := l1) 1 rfl (pz_dc dX5_joined 10 rfl) rfl ?_
    refine pz_iload_n (pc' := 70) (x := l2) 2 rfl (pz_dc dX5_joined 11 rfl) rfl ?_
    refine pz_imul (pc' := 71) rfl (pz_dc dX5_joined 12 rfl) ?_
    exact pz_iret (pz_dc dX5_joined 13 rfl) rfl hb
  · skip
    by_cases hx1 : l0.toInt = 43
    · refine pz_lookup (off := 59) (tgt := 60) (pz_dc dX5_joined 1 rfl) (by decide) (by rw [hx1]; rfl) (by decide) ?_
      replace hb := hb.2.1 hx1
      refine pz_iload_n (pc' := 61) (x := l1) 1 rfl (pz_dc dX5_joined 2 rfl) rfl ?_
      refine pz_iload_n (pc' := 62) (x := l2) 2 rfl (pz_dc dX5_joined 3 rfl) rfl ?_
      refine pz_iadd (pc' := 63) rfl (pz_dc dX5_joined 4 rfl) ?_
      exact pz_iret (pz_dc dX5_joined 5 rfl) rfl hb
    · skip
      by_cases hx2 : l0.toInt = 45
      · refine pz_lookup (off := 63) (tgt := 64) (pz_dc dX5_joined 1 rfl) (by decide) (by rw [hx2]; rfl) (by decide) ?_
        replace hb := hb.2.2.1 hx2
        refine pz_iload_n (pc' := 65) (x := l1) 1 rfl (pz_dc dX5_joined 6 rfl) rfl ?_
        refine pz_iload_n (pc' := 66) (x := l2) 2 rfl (pz_dc dX5_joined 7 rfl) rfl ?_
        refine pz_isub (pc' := 67) rfl (pz_dc dX5_joined 8 rfl) ?_
        exact pz_iret (pz_dc dX5_joined 9 rfl) rfl hb
      · skip
        by_cases hx3 : l0.toInt = 47
        · refine pz_lookup (off := 71) (tgt := 72) (pz_dc dX5_joined 1 rfl) (by decide) (by rw [hx3]; rfl) (by decide) ?_
          replace hb := hb.2.2.2.1 hx3
          refine pz_iload_n (pc' := 73) (x := l2) 2 rfl (pz_dc dX5_joined 14 rfl) rfl ?_
          refine pz_if_ne (pc' := 76) (tgt := 80) rfl (pz_dc dX5_joined 15 rfl) (by decide) (fun hc => ?_) (fun hc => ?_)
          · replace hb := hb.1 hc
            refine pz_iload_n (pc' := 81) (x := l1) 1 rfl (pz_dc dX5_joined 18 rfl) rfl ?_
            refine pz_iload_n (pc' := 82) (x := l2) 2 rfl (pz_dc dX5_joined 19 rfl) rfl ?_
            refine pz_idiv (pc' := 83) rfl (pz_dc dX5_joined 20 rfl) hb.1 ?_
            replace hb := hb.2
            exact pz_iret (pz_dc dX5_joined 21 rfl) rfl hb
          · replace hb := hb.2 hc
            refine pz_iconst (pc' := 77) (v := 0) rfl (pz_dc dX5_joined 16 rfl) ki_0 ?_
            refine pz_goto (pc' := 83) (pz_dc dX5_joined 17 rfl) (by decide) ?_
            exact pz_iret (pz_dc dX5_joined 21 rfl) rfl hb
        · skip
          by_cases hx4 : l0.toInt = 60
          · refine pz_lookup (off := 83) (tgt := 84) (pz_dc dX5_joined 1 rfl) (by decide) (by rw [hx4]; rfl) (by decide) ?_
            replace hb := hb.2.2.2.2.1 hx4
            refine pz_iload_n (pc' := 85) (x := l1) 1 rfl (pz_dc dX5_joined 22 rfl) rfl ?_
            refine pz_iload_n (pc' := 86) (x := l2) 2 rfl (pz_dc dX5_joined 23 rfl) rfl ?_
            refine pz_icmp_ge (pc' := 89) (tgt := 93) rfl (pz_dc dX5_joined 24 rfl) (by decide) (fun hc => ?_) (fun hc => ?_)
            · replace hb := hb.1 hc
              refine pz_iconst (pc' := 94) (v := 0) rfl (pz_dc dX5_joined 27 rfl) ki_0 ?_
              exact pz_iret (pz_dc dX5_joined 28 rfl) rfl hb
            · replace hb := hb.2 hc
              refine pz_iconst (pc' := 90) (v := 1) rfl (pz_dc dX5_joined 25 rfl) ki_1 ?_
              refine pz_goto (pc' := 94) (pz_dc dX5_joined 26 rfl) (by decide) ?_
              exact pz_iret (pz_dc dX5_joined 28 rfl) rfl hb
          · skip
            by_cases hx5 : l0.toInt = 62
            · refine pz_lookup (off := 94) (tgt := 95) (pz_dc dX5_joined 1 rfl) (by decide) (by rw [hx5]; rfl) (by decide) ?_
              replace hb := hb.2.2.2.2.2.1 hx5
              refine pz_iload_n (pc' := 96) (x := l1) 1 rfl (pz_dc dX5_joined 29 rfl) rfl ?_
              refine pz_iload_n (pc' := 97) (x := l2) 2 rfl (pz_dc dX5_joined 30 rfl) rfl ?_
              refine pz_icmp_le (pc' := 100) (tgt := 104) rfl (pz_dc dX5_joined 31 rfl) (by decide) (fun hc => ?_) (fun hc => ?_)
              · replace hb := hb.1 hc
                refine pz_iconst (pc' := 105) (v := 0) rfl (pz_dc dX5_joined 34 rfl) ki_0 ?_
                exact pz_iret (pz_dc dX5_joined 35 rfl) rfl hb
              · replace hb := hb.2 hc
                refine pz_iconst (pc' := 101) (v := 1) rfl (pz_dc dX5_joined 32 rfl) ki_1 ?_
                refine pz_goto (pc' := 105) (pz_dc dX5_joined 33 rfl) (by decide) ?_
                exact pz_iret (pz_dc dX5_joined 35 rfl) rfl hb
            · skip
              refine pz_lookup (off := 105) (tgt := 106) (pz_dc dX5_joined 1 rfl) (by decide) (by simp only [Op.lookupswitch.offset]; simp [hx0, hx1, hx2, hx3, hx4, hx5, Ne.symm, eq_comm]) (by decide) ?_
              replace hb := hb.2.2.2.2.2.2 (by omega)
              refine pz_iload_n (pc' := 107) (x := l1) 1 rfl (pz_dc dX5_joined 36 rfl) rfl ?_
              refine pz_iload_n (pc' := 108) (x := l2) 2 rfl (pz_dc dX5_joined 37 rfl) rfl ?_
              refine pz_icmp_ne (pc' := 111) (tgt := 115) rfl (pz_dc dX5_joined 38 rfl) (by decide) (fun hc => ?_) (fun hc => ?_)
              · replace hb := hb.1 hc
                refine pz_iconst (pc' := 116) (v := 0) rfl (pz_dc dX5_joined 41 rfl) ki_0 ?_
                exact pz_iret (pz_dc dX5_joined 42 rfl) rfl hb
              · replace hb := hb.2 hc
                refine pz_iconst (pc' := 112) (v := 1) rfl (pz_dc dX5_joined 39 rfl) ki_1 ?_
                refine pz_goto (pc' := 116) (pz_dc dX5_joined 40 rfl) (by decide) ?_
                exact pz_iret (pz_dc dX5_joined 42 rfl) rfl hb
set_option maxRecDepth 20000 in
set_option maxHeartbeats 4000000 in
theorem wX6_init_0 {Ex : State → Nat → Prop} {Q : Option Value → pz_H → Prop} {d bc bs : Nat} {l0 : Nat}  {h : pz_H} (hD : 1 ≤ d) (hb : pz_nI h 80 (bc) (bs) (fun (a1 : Nat) (h2 : pz_H) => pz_pF h2 l0 6 0 (.ref a1) (fun (h3 : pz_H) => Q none h3))) : pz_V mX6_init Ex Q d bc bs 0 [(0, .ref l0)] [] h := by
  refine pz_aload_n (pc' := 1) (x := l0) 0 rfl (pz_dc dX6_init 0 rfl) rfl ?_
  refine pz_obj (M := mX6_init) (pc' := 4) wX6_1 pz_oI pz_oC rfl (pz_dc dX6_init 1 rfl) (Nat.le_of_ble_eq_true rfl) (by omega) ?_
  refine pz_aload_n (pc' := 5) (x := l0) 0 rfl (pz_dc dX6_init 2 rfl) rfl ?_
  refine pz_bipush (pc' := 7) (v := 80) rfl (pz_dc dX6_init 3 rfl) kb_80 ?_
  refine pz_mkI hb pz_ac_int (pc' := 9) rfl (pz_dc dX6_init 4 rfl) (by decide) (by decide) (by decide) (fun a1 h2 hb => ?_)
  refine pz_putv (M := mX6_init) hb pX6_9i rfl rfl (pc' := 12) rfl (pz_dc dX6_init 5 rfl) (fun h3 hb => ?_)
  exact pz_vret (pz_dc dX6_init 6 rfl) rfl hb
set_option maxRecDepth 20000 in
set_option maxHeartbeats 4000000 in
theorem wX6_size_0 {Ex : State → Nat → Prop} {Q : Option Value → pz_H → Prop} {d bc bs : Nat} {l0 : Nat}  {h : pz_H}  (hb : pz_gI h l0 6 1 (fun (x1 : Int32) => Q (some (.int x1)) h)) : pz_V mX6_size Ex Q d bc bs 0 [(0, .ref l0)] [] h := by
  refine pz_aload_n (pc' := 1) (x := l0) 0 rfl (pz_dc dX6_size 0 rfl) rfl ?_
  refine pz_getI (M := mX6_size) hb fX6_13 (pc' := 4) rfl (pz_dc dX6_size 1 rfl) (fun x1 hb => ?_)
  exact pz_iret (pz_dc dX6_size 2 rfl) rfl hb
set_option maxRecDepth 20000 in
set_option maxHeartbeats 4000000 in
theorem wX6_add_0 {Ex : State → Nat → Prop} {Q : Option Value → pz_H → Prop} {d bc bs : Nat} {l0 : Nat} {l1 : Int32}  {h : pz_H}  (hb : pz_gI h l0 6 1 (fun (x1 : Int32) => (x1 ≤ ((76 : Int32)) → pz_V mX6_add Ex Q d bc bs 14 [(0, .ref l0), (1, .int l1), (2, .int 24)] [] h) ∧ (¬ x1 ≤ ((76 : Int32)) → Q (some (.int 0)) h))) : pz_V mX6_add Ex Q d bc bs 0 [(0, .ref l0), (1, .int l1)] [] h := by
  refine pz_aload_n (pc' := 1) (x := l0) 0 rfl (pz_dc dX6_add 0 rfl) rfl ?_
  refine pz_getI (M := mX6_add) hb fX6_13 (pc' := 4) rfl (pz_dc dX6_add 1 rfl) (fun x1 hb => ?_)
  refine pz_bipush (pc' := 6) (v := 76) rfl (pz_dc dX6_add 2 rfl) kb_76 ?_
  refine pz_icmp_le (pc' := 9) (tgt := 11) rfl (pz_dc dX6_add 3 rfl) (by decide) (fun hc => ?_) (fun hc => ?_)
  · replace hb := hb.1 hc
    refine pz_bipush (pc' := 13) (v := 24) rfl (pz_dc dX6_add 6 rfl) kb_24 ?_
    refine pz_istore_n (pc' := 14) (lv' := [(2, .int 24), (0, .ref l0), (1, .int l1)]) rfl (pz_dc dX6_add 7 rfl) (by decide) rfl ?_
    refine pz_lv (lv' := [(0, .ref l0), (1, .int l1), (2, .int 24)]) [1, 2, 0] rfl ?_
    exact hb
  · replace hb := hb.2 hc
    refine pz_iconst (pc' := 10) (v := 0) rfl (pz_dc dX6_add 4 rfl) ki_0 ?_
    exact pz_zret (pz_dc dX6_add 5 rfl) rfl ⟨by decide, hb⟩
set_option maxRecDepth 20000 in
set_option maxHeartbeats 4000000 in
theorem wX6_add_14 {Ex : State → Nat → Prop} {Q : Option Value → pz_H → Prop} {d bc bs : Nat} {l0 : Nat} {l1 : Int32} {l2 : Int32}  {h : pz_H}  (hb : (l2 < 0 → Q (some (.int 1)) h) ∧ (¬ l2 < 0 → pz_gR h l0 6 0 (fun (a1 : Nat) => pz_gI h l0 6 1 (fun (x2 : Int32) => pz_sI h a1 x2 (((l1.toUInt32 >>> (l2.toUInt32 &&& Int32.toUInt32 31)).toInt32) &&& ((255 : Int32))) (fun (h3 : pz_H) => pz_gI h3 l0 6 1 (fun (x4 : Int32) => pz_pF h3 l0 6 1 (.int (x4 + ((1 : Int32)))) (fun (h5 : pz_H) => pz_V mX6_add Ex Q d bc bs 14 [(0, .ref l0), (1, .int l1), (2, .int (l2 + (-8 : Int32)))] [] h5))))))) : pz_V mX6_add Ex Q d bc bs 14 [(0, .ref l0), (1, .int l1), (2, .int l2)] [] h := by
  refine pz_iload_n (pc' := 15) (x := l2) 2 rfl (pz_dc dX6_add 8 rfl) rfl ?_
  refine pz_if_lt (pc' := 18) (tgt := 50) rfl (pz_dc dX6_add 9 rfl) (by decide) (fun hc => ?_) (fun hc => ?_)
  · replace hb := hb.1 hc
    refine pz_iconst (pc' := 51) (v := 1) rfl (pz_dc dX6_add 28 rfl) ki_1 ?_
    exact pz_zret (pz_dc dX6_add 29 rfl) rfl ⟨by decide, hb⟩
  · replace hb := hb.2 hc
    refine pz_aload_n (pc' := 19) (x := l0) 0 rfl (pz_dc dX6_add 10 rfl) rfl ?_
    refine pz_getR (M := mX6_add) hb fX6_9 (pc' := 22) rfl (pz_dc dX6_add 11 rfl) (fun a1 hb => ?_)
    refine pz_aload_n (pc' := 23) (x := l0) 0 rfl (pz_dc dX6_add 12 rfl) rfl ?_
    refine pz_getI (M := mX6_add) hb fX6_13 (pc' := 26) rfl (pz_dc dX6_add 13 rfl) (fun x2 hb => ?_)
    refine pz_iload_n (pc' := 27) (x := l1) 1 rfl (pz_dc dX6_add 14 rfl) rfl ?_
    refine pz_iload_n (pc' := 28) (x := l2) 2 rfl (pz_dc dX6_add 15 rfl) rfl ?_
    refine pz_iushr (pc' := 29) rfl (pz_dc dX6_add 16 rfl) ?_
    refine pz_sipush (pc' := 32) (v := 255) rfl (pz_dc dX6_add 17 rfl) ks_255 ?_
    refine pz_iand (pc' := 33) rfl (pz_dc dX6_add 18 rfl) ?_
    refine pz_stI hb (pc' := 34) rfl (pz_dc dX6_add 19 rfl) (fun h3 hb => ?_)
    refine pz_aload_n (pc' := 35) (x := l0) 0 rfl (pz_dc dX6_add 20 rfl) rfl ?_
    refine pz_dup (pc' := 36) rfl (pz_dc dX6_add 21 rfl) rfl ?_
    refine pz_getI (M := mX6_add) hb fX6_13 (pc' := 39) rfl (pz_dc dX6_add 22 rfl) (fun x4 hb => ?_)
    refine pz_iconst (pc' := 40) (v := 1) rfl (pz_dc dX6_add 23 rfl) ki_1 ?_
    refine pz_iadd (pc' := 41) rfl (pz_dc dX6_add 24 rfl) ?_
    refine pz_putv (M := mX6_add) hb (pX6_13 _ rfl) rfl rfl (pc' := 44) rfl (pz_dc dX6_add 25 rfl) (fun h5 hb => ?_)
    refine pz_iinc (pc' := 47) (x := l2) (v := l2 + (-8 : Int32)) (lv' := [(2, .int (l2 + (-8 : Int32))), (0, .ref l0), (1, .int l1)]) 2 rfl (pz_dc dX6_add 26 rfl) rfl rfl (by decide) rfl ?_
    refine pz_goto (pc' := 14) (pz_dc dX6_add 27 rfl) (by decide) ?_
    refine pz_lv (lv' := [(0, .ref l0), (1, .int l1), (2, .int (l2 + (-8 : Int32)))]) [1, 2, 0] rfl ?_
    exact hb
set_option maxRecDepth 20000 in
set_option maxHeartbeats 4000000 in
theorem wX6_cut_0 {Ex : State → Nat → Prop} {Q : Option Value → pz_H → Prop} {d bc bs : Nat} {l0 : Nat} {l1 : Int32}  {h : pz_H}  (hb : (l1 < 0 → Q (some (.int 0)) h) ∧ (¬ l1 < 0 → pz_gI h l0 6 1 (fun (x1 : Int32) => (l1 ≤ x1 → pz_pF h l0 6 1 (.int l1) (fun (h2 : pz_H) => Q (some (.int 1)) h2)) ∧ (¬ l1 ≤ x1 → Q (some (.int 0)) h)))) : pz_V mX6_cut Ex Q d bc bs 0 [(0, .ref l0), (1, .int l1)] [] h := by
  refine pz_iload_n (pc' := 1) (x := l1) 1 rfl (pz_dc dX6_cut 0 rfl) rfl ?_
  refine pz_if_lt (pc' := 4) (tgt := 12) rfl (pz_dc dX6_cut 1 rfl) (by decide) (fun hc => ?_) (fun hc => ?_)
  · replace hb := hb.1 hc
    refine pz_iconst (pc' := 13) (v := 0) rfl (pz_dc dX6_cut 6 rfl) ki_0 ?_
    exact pz_zret (pz_dc dX6_cut 7 rfl) rfl ⟨by decide, hb⟩
  · replace hb := hb.2 hc
    refine pz_iload_n (pc' := 5) (x := l1) 1 rfl (pz_dc dX6_cut 2 rfl) rfl ?_
    refine pz_aload_n (pc' := 6) (x := l0) 0 rfl (pz_dc dX6_cut 3 rfl) rfl ?_
    refine pz_getI (M := mX6_cut) hb fX6_13 (pc' := 9) rfl (pz_dc dX6_cut 4 rfl) (fun x1 hb => ?_)
    refine pz_icmp_le (pc' := 12) (tgt := 14) rfl (pz_dc dX6_cut 5 rfl) (by decide) (fun hc => ?_) (fun hc => ?_)
    · replace hb := hb.1 hc
      refine pz_aload_n (pc' := 15) (x := l0) 0 rfl (pz_dc dX6_cut 8 rfl) rfl ?_
      refine pz_iload_n (pc' := 16) (x := l1) 1 rfl (pz_dc dX6_cut 9 rfl) rfl ?_
      refine pz_putv (M := mX6_cut) hb (pX6_13 _ rfl) rfl rfl (pc' := 19) rfl (pz_dc dX6_cut 10 rfl) (fun h2 hb => ?_)
      refine pz_iconst (pc' := 20) (v := 1) rfl (pz_dc dX6_cut 11 rfl) ki_1 ?_
      exact pz_zret (pz_dc dX6_cut 12 rfl) rfl ⟨by decide, hb⟩
    · replace hb := hb.2 hc
      refine pz_iconst (pc' := 13) (v := 0) rfl (pz_dc dX6_cut 6 rfl) ki_0 ?_
      exact pz_zret (pz_dc dX6_cut 7 rfl) rfl ⟨by decide, hb⟩
set_option maxRecDepth 20000 in
set_option maxHeartbeats 4000000 in
theorem wX6_clear_0 {Ex : State → Nat → Prop} {Q : Option Value → pz_H → Prop} {d bc bs : Nat} {l0 : Nat}  {h : pz_H}  (hb : pz_pF h l0 6 1 (.int 0) (fun (h1 : pz_H) => Q none h1)) : pz_V mX6_clear Ex Q d bc bs 0 [(0, .ref l0)] [] h := by
  refine pz_aload_n (pc' := 1) (x := l0) 0 rfl (pz_dc dX6_clear 0 rfl) rfl ?_
  refine pz_iconst (pc' := 2) (v := 0) rfl (pz_dc dX6_clear 1 rfl) ki_0 ?_
  refine pz_putv (M := mX6_clear) hb (pX6_13 _ rfl) rfl rfl (pc' := 5) rfl (pz_dc dX6_clear 2 rfl) (fun h1 hb => ?_)
  exact pz_vret (pz_dc dX6_clear 3 rfl) rfl hb
set_option maxRecDepth 20000 in
set_option maxHeartbeats 4000000 in
theorem wX6_at_0 {Ex : State → Nat → Prop} {Q : Option Value → pz_H → Prop} {d bc bs : Nat} {l0 : Nat} {l1 : Int32} {l2 : Int32}  {h : pz_H}  (hb : (l1 < 0 → Q (some (.int ((-1)))) h) ∧ (¬ l1 < 0 → pz_gI h l0 6 1 (fun (x1 : Int32) => (x1 ≤ l1 → Q (some (.int ((-1)))) h) ∧ (¬ x1 ≤ l1 → (l2 ≤ l1 → Q (some (.int ((-1)))) h) ∧ (¬ l2 ≤ l1 → (l1 < ((80 : Int32)) → pz_gR h l0 6 0 (fun (a2 : Nat) => pz_rI h a2 l1 (fun (x3 : Int32) => Q (some (.int x3)) h))) ∧ (¬ l1 < ((80 : Int32)) → Q (some (.int ((-1)))) h)))))) : pz_V mX6_at Ex Q d bc bs 0 [(0, .ref l0), (1, .int l1), (2, .int l2)] [] h := by
  refine pz_iload_n (pc' := 1) (x := l1) 1 rfl (pz_dc dX6_at 0 rfl) rfl ?_
  refine pz_if_lt (pc' := 4) (tgt := 23) rfl (pz_dc dX6_at 1 rfl) (by decide) (fun hc => ?_) (fun hc => ?_)
  · replace hb := hb.1 hc
    refine pz_iconst (pc' := 24) (v := (-1)) rfl (pz_dc dX6_at 12 rfl) ki_m1 ?_
    exact pz_iret (pz_dc dX6_at 13 rfl) rfl hb
  · replace hb := hb.2 hc
    refine pz_iload_n (pc' := 5) (x := l1) 1 rfl (pz_dc dX6_at 2 rfl) rfl ?_
    refine pz_aload_n (pc' := 6) (x := l0) 0 rfl (pz_dc dX6_at 3 rfl) rfl ?_
    refine pz_getI (M := mX6_at) hb fX6_13 (pc' := 9) rfl (pz_dc dX6_at 4 rfl) (fun x1 hb => ?_)
    refine pz_icmp_ge (pc' := 12) (tgt := 23) rfl (pz_dc dX6_at 5 rfl) (by decide) (fun hc => ?_) (fun hc => ?_)
    · replace hb := hb.1 hc
      refine pz_iconst (pc' := 24) (v := (-1)) rfl (pz_dc dX6_at 12 rfl) ki_m1 ?_
      exact pz_iret (pz_dc dX6_at 13 rfl) rfl hb
    · replace hb := hb.2 hc
      refine pz_iload_n (pc' := 13) (x := l1) 1 rfl (pz_dc dX6_at 6 rfl) rfl ?_
      refine pz_iload_n (pc' := 14) (x := l2) 2 rfl (pz_dc dX6_at 7 rfl) rfl ?_
      refine pz_icmp_ge (pc' := 17) (tgt := 23) rfl (pz_dc dX6_at 8 rfl) (by decide) (fun hc => ?_) (fun hc => ?_)
      · replace hb := hb.1 hc
        refine pz_iconst (pc' := 24) (v := (-1)) rfl (pz_dc dX6_at 12 rfl) ki_m1 ?_
        exact pz_iret (pz_dc dX6_at 13 rfl) rfl hb
      · replace hb := hb.2 hc
        refine pz_iload_n (pc' := 18) (x := l1) 1 rfl (pz_dc dX6_at 9 rfl) rfl ?_
        refine pz_bipush (pc' := 20) (v := 80) rfl (pz_dc dX6_at 10 rfl) kb_80 ?_
        refine pz_icmp_lt (pc' := 23) (tgt := 25) rfl (pz_dc dX6_at 11 rfl) (by decide) (fun hc => ?_) (fun hc => ?_)
        · replace hb := hb.1 hc
          refine pz_aload_n (pc' := 26) (x := l0) 0 rfl (pz_dc dX6_at 14 rfl) rfl ?_
          refine pz_getR (M := mX6_at) hb fX6_9 (pc' := 29) rfl (pz_dc dX6_at 15 rfl) (fun a2 hb => ?_)
          refine pz_iload_n (pc' := 30) (x := l1) 1 rfl (pz_dc dX6_at 16 rfl) rfl ?_
          refine pz_ldI hb (pc' := 31) rfl (pz_dc dX6_at 17 rfl) (fun x3 hb => ?_)
          exact pz_iret (pz_dc dX6_at 18 rfl) rfl hb
        · replace hb := hb.2 hc
          refine pz_iconst (pc' := 24) (v := (-1)) rfl (pz_dc dX6_at 12 rfl) ki_m1 ?_
          exact pz_iret (pz_dc dX6_at 13 rfl) rfl hb
set_option maxRecDepth 20000 in
set_option maxHeartbeats 4000000 in
theorem wX7_init_0 {Ex : State → Nat → Prop} {Q : Option Value → pz_H → Prop} {d bc bs : Nat} {l0 : Nat}  {h : pz_H} (hD : 1 ≤ d) (hb : pz_nI h 6804 (bc) (bs) (fun (a1 : Nat) (h2 : pz_H) => pz_pF h2 l0 7 0 (.ref a1) (fun (h3 : pz_H) => pz_nI h3 100 (bc - 1) (bs - 6804) (fun (a4 : Nat) (h5 : pz_H) => pz_pF h5 l0 7 1 (.ref a4) (fun (h6 : pz_H) => Q none h6))))) : pz_V mX7_init Ex Q d bc bs 0 [(0, .ref l0)] [] h := by
  refine pz_aload_n (pc' := 1) (x := l0) 0 rfl (pz_dc dX7_init 0 rfl) rfl ?_
  refine pz_obj (M := mX7_init) (pc' := 4) wX7_5 pz_oI pz_oC rfl (pz_dc dX7_init 1 rfl) (Nat.le_of_ble_eq_true rfl) (by omega) ?_
  refine pz_aload_n (pc' := 5) (x := l0) 0 rfl (pz_dc dX7_init 2 rfl) rfl ?_
  refine pz_sipush (pc' := 8) (v := 6804) rfl (pz_dc dX7_init 3 rfl) ks_6804 ?_
  refine pz_mkI hb pz_ac_int (pc' := 10) rfl (pz_dc dX7_init 4 rfl) (by decide) (by decide) (by decide) (fun a1 h2 hb => ?_)
  refine pz_putv (M := mX7_init) hb pX7_11i rfl rfl (pc' := 13) rfl (pz_dc dX7_init 5 rfl) (fun h3 hb => ?_)
  refine pz_aload_n (pc' := 14) (x := l0) 0 rfl (pz_dc dX7_init 6 rfl) rfl ?_
  refine pz_bipush (pc' := 16) (v := 100) rfl (pz_dc dX7_init 7 rfl) kb_100 ?_
  refine pz_mkI hb pz_ac_int (pc' := 18) rfl (pz_dc dX7_init 8 rfl) (by decide) (by decide) (by decide) (fun a4 h5 hb => ?_)
  refine pz_putv (M := mX7_init) hb pX7_15i rfl rfl (pc' := 21) rfl (pz_dc dX7_init 9 rfl) (fun h6 hb => ?_)
  exact pz_vret (pz_dc dX7_init 10 rfl) rfl hb
set_option maxRecDepth 20000 in
set_option maxHeartbeats 4000000 in
theorem wX7_size_0 {Ex : State → Nat → Prop} {Q : Option Value → pz_H → Prop} {d bc bs : Nat} {l0 : Nat}  {h : pz_H}  (hb : pz_gI h l0 7 2 (fun (x1 : Int32) => Q (some (.int x1)) h)) : pz_V mX7_size Ex Q d bc bs 0 [(0, .ref l0)] [] h := by
  refine pz_aload_n (pc' := 1) (x := l0) 0 rfl (pz_dc dX7_size 0 rfl) rfl ?_
  refine pz_getI (M := mX7_size) hb fX7_18 (pc' := 4) rfl (pz_dc dX7_size 1 rfl) (fun x1 hb => ?_)
  exact pz_iret (pz_dc dX7_size 2 rfl) rfl hb
set_option maxRecDepth 20000 in
set_option maxHeartbeats 4000000 in
theorem wX7_clear_0 {Ex : State → Nat → Prop} {Q : Option Value → pz_H → Prop} {d bc bs : Nat} {l0 : Nat}  {h : pz_H}  (hb : pz_pF h l0 7 2 (.int 0) (fun (h1 : pz_H) => Q none h1)) : pz_V mX7_clear Ex Q d bc bs 0 [(0, .ref l0)] [] h := by
  refine pz_aload_n (pc' := 1) (x := l0) 0 rfl (pz_dc dX7_clear 0 rfl) rfl ?_
  refine pz_iconst (pc' := 2) (v := 0) rfl (pz_dc dX7_clear 1 rfl) ki_0 ?_
  refine pz_putv (M := mX7_clear) hb (pX7_18 _ rfl) rfl rfl (pc' := 5) rfl (pz_dc dX7_clear 2 rfl) (fun h1 hb => ?_)
  exact pz_vret (pz_dc dX7_clear 3 rfl) rfl hb
set_option maxRecDepth 20000 in
set_option maxHeartbeats 4000000 in
theorem wX7_mark_0 {Ex : State → Nat → Prop} {Q : Option Value → pz_H → Prop} {d bc bs : Nat} {l0 : Nat} {l1 : Int32} {l2 : Nat}  {h : pz_H} (hD : 1 ≤ d) (hb : pz_gI h l0 7 2 (fun (x1 : Int32) => (((x1 * ((126 : Int32))) + (l1 * ((6 : Int32)))) < 0 → Q none h) ∧ (¬ ((x1 * ((126 : Int32))) + (l1 * ((6 : Int32)))) < 0 → pz_gR h l0 7 0 (fun (a2 : Nat) => pz_lI h a2 (fun (x3 : Int32) => ((x3 - ((6 : Int32))) < ((x1 * ((126 : Int32))) + (l1 * ((6 : Int32)))) → Q none h) ∧ (¬ (x3 - ((6 : Int32))) < ((x1 * ((126 : Int32))) + (l1 * ((6 : Int32)))) → pz_lI h l2 (fun (x4 : Int32) => (¬ x4 = ((6 : Int32)) → Q none h) ∧ (x4 = ((6 : Int32)) → pz_gR h l0 7 0 (fun (a5 : Nat) => pz_cp h l2 0 a5 ((x1 * ((126 : Int32))) + (l1 * ((6 : Int32)))) 6 (fun (h6 : pz_H) => Q none h6)))))))))) : pz_V mX7_mark Ex Q d bc bs 0 [(0, .ref l0), (1, .int l1), (2, .ref l2)] [] h := by
  refine pz_aload_n (pc' := 1) (x := l0) 0 rfl (pz_dc dX7_mark 0 rfl) rfl ?_
  refine pz_getI (M := mX7_mark) hb fX7_18 (pc' := 4) rfl (pz_dc dX7_mark 1 rfl) (fun x1 hb => ?_)
  refine pz_bipush (pc' := 6) (v := 126) rfl (pz_dc dX7_mark 2 rfl) kb_126 ?_
  refine pz_imul (pc' := 7) rfl (pz_dc dX7_mark 3 rfl) ?_
  refine pz_iload_n (pc' := 8) (x := l1) 1 rfl (pz_dc dX7_mark 4 rfl) rfl ?_
  refine pz_bipush (pc' := 10) (v := 6) rfl (pz_dc dX7_mark 5 rfl) kb_6 ?_
  refine pz_imul (pc' := 11) rfl (pz_dc dX7_mark 6 rfl) ?_
  refine pz_iadd (pc' := 12) rfl (pz_dc dX7_mark 7 rfl) ?_
  refine pz_istore_n (pc' := 13) (lv' := [(3, .int ((x1 * ((126 : Int32))) + (l1 * ((6 : Int32))))), (0, .ref l0), (1, .int l1), (2, .ref l2)]) rfl (pz_dc dX7_mark 8 rfl) (by decide) rfl ?_
  refine pz_iload_n (pc' := 14) (x := (x1 * ((126 : Int32))) + (l1 * ((6 : Int32)))) 0 rfl (pz_dc dX7_mark 9 rfl) rfl ?_
  refine pz_if_lt (pc' := 17) (tgt := 48) rfl (pz_dc dX7_mark 10 rfl) (by decide) (fun hc => ?_) (fun hc => ?_)
  · replace hb := hb.1 hc
    exact pz_vret (pz_dc dX7_mark 29 rfl) rfl hb
  · replace hb := hb.2 hc
    refine pz_iload_n (pc' := 18) (x := (x1 * ((126 : Int32))) + (l1 * ((6 : Int32)))) 0 rfl (pz_dc dX7_mark 11 rfl) rfl ?_
    refine pz_aload_n (pc' := 19) (x := l0) 1 rfl (pz_dc dX7_mark 12 rfl) rfl ?_
    refine pz_getR (M := mX7_mark) hb fX7_11 (pc' := 22) rfl (pz_dc dX7_mark 13 rfl) (fun a2 hb => ?_)
    refine pz_lenI hb (pc' := 23) rfl (pz_dc dX7_mark 14 rfl) (fun x3 hb => ?_)
    refine pz_bipush (pc' := 25) (v := 6) rfl (pz_dc dX7_mark 15 rfl) kb_6 ?_
    refine pz_isub (pc' := 26) rfl (pz_dc dX7_mark 16 rfl) ?_
    refine pz_icmp_gt (pc' := 29) (tgt := 48) rfl (pz_dc dX7_mark 17 rfl) (by decide) (fun hc => ?_) (fun hc => ?_)
    · replace hb := hb.1 hc
      exact pz_vret (pz_dc dX7_mark 29 rfl) rfl hb
    · replace hb := hb.2 hc
      refine pz_aload_n (pc' := 30) (x := l2) 3 rfl (pz_dc dX7_mark 18 rfl) rfl ?_
      refine pz_lenI hb (pc' := 31) rfl (pz_dc dX7_mark 19 rfl) (fun x4 hb => ?_)
      refine pz_bipush (pc' := 33) (v := 6) rfl (pz_dc dX7_mark 20 rfl) kb_6 ?_
      refine pz_icmp_ne (pc' := 36) (tgt := 48) rfl (pz_dc dX7_mark 21 rfl) (by decide) (fun hc => ?_) (fun hc => ?_)
      · replace hb := hb.1 hc
        exact pz_vret (pz_dc dX7_mark 29 rfl) rfl hb
      · replace hb := hb.2 hc
        refine pz_aload_n (pc' := 37) (x := l2) 3 rfl (pz_dc dX7_mark 22 rfl) rfl ?_
        refine pz_iconst (pc' := 38) (v := 0) rfl (pz_dc dX7_mark 23 rfl) ki_0 ?_
        refine pz_aload_n (pc' := 39) (x := l0) 1 rfl (pz_dc dX7_mark 24 rfl) rfl ?_
        refine pz_getR (M := mX7_mark) hb fX7_11 (pc' := 42) rfl (pz_dc dX7_mark 25 rfl) (fun a5 hb => ?_)
        refine pz_iload_n (pc' := 43) (x := (x1 * ((126 : Int32))) + (l1 * ((6 : Int32)))) 0 rfl (pz_dc dX7_mark 26 rfl) rfl ?_
        refine pz_bipush (pc' := 45) (v := 6) rfl (pz_dc dX7_mark 27 rfl) kb_6 ?_
        refine pz_cpy (M := mX7_mark) hb wX7_22 (pc' := 48) rfl (pz_dc dX7_mark 28 rfl) (Nat.le_of_ble_eq_true rfl) (by omega) (fun h6 hb => ?_)
        exact pz_vret (pz_dc dX7_mark 29 rfl) rfl hb
set_option maxRecDepth 20000 in
set_option maxHeartbeats 4000000 in
theorem wX7_endLeak_0 {Ex : State → Nat → Prop} {Q : Option Value → pz_H → Prop} {d bc bs : Nat} {l0 : Nat}  {h : pz_H}  (hb : pz_gI h l0 7 2 (fun (x1 : Int32) => pz_pF h l0 7 2 (.int (x1 + ((1 : Int32)))) (fun (h2 : pz_H) => Q none h2))) : pz_V mX7_endLeak Ex Q d bc bs 0 [(0, .ref l0)] [] h := by
  refine pz_aload_n (pc' := 1) (x := l0) 0 rfl (pz_dc dX7_endLeak 0 rfl) rfl ?_
  refine pz_dup (pc' := 2) rfl (pz_dc dX7_endLeak 1 rfl) rfl ?_
  refine pz_getI (M := mX7_endLeak) hb fX7_18 (pc' := 5) rfl (pz_dc dX7_endLeak 2 rfl) (fun x1 hb => ?_)
  refine pz_iconst (pc' := 6) (v := 1) rfl (pz_dc dX7_endLeak 3 rfl) ki_1 ?_
  refine pz_iadd (pc' := 7) rfl (pz_dc dX7_endLeak 4 rfl) ?_
  refine pz_putv (M := mX7_endLeak) hb (pX7_18 _ rfl) rfl rfl (pc' := 10) rfl (pz_dc dX7_endLeak 5 rfl) (fun h2 hb => ?_)
  exact pz_vret (pz_dc dX7_endLeak 6 rfl) rfl hb
set_option maxRecDepth 20000 in
set_option maxHeartbeats 4000000 in
theorem wX7_mostAlike_0 {Ex : State → Nat → Prop} {Q : Option Value → pz_H → Prop} {d bc bs : Nat} {l0 : Nat} {l1 : Int32} {l2 : Int32}  {h : pz_H} (hD : 1 ≤ d) (hb : pz_V mX7_mostAlike Ex Q d bc bs 2 [(0, .ref l0), (1, .int l1), (2, .int l2), (3, .int 0)] [] h) : pz_V mX7_mostAlike Ex Q d bc bs 0 [(0, .ref l0), (1, .int l1), (2, .int l2)] [] h := by
  refine pz_iconst (pc' := 1) (v := 0) rfl (pz_dc dX7_mostAlike 0 rfl) ki_0 ?_
  refine pz_istore_n (pc' := 2) (lv' := [(3, .int 0), (0, .ref l0), (1, .int l1), (2, .int l2)]) rfl (pz_dc dX7_mostAlike 1 rfl) (by decide) rfl ?_
  refine pz_lv (lv' := [(0, .ref l0), (1, .int l1), (2, .int l2), (3, .int 0)]) [1, 2, 3, 0] rfl ?_
  exact hb
set_option maxRecDepth 20000 in
set_option maxHeartbeats 4000000 in
theorem wX7_mostAlike_2 {Ex : State → Nat → Prop} {Q : Option Value → pz_H → Prop} {d bc bs : Nat} {l0 : Nat} {l1 : Int32} {l2 : Int32} {l3 : Int32}  {h : pz_H} (hD : 1 ≤ d) (hb : pz_gR h l0 7 1 (fun (a1 : Nat) => pz_lI h a1 (fun (x2 : Int32) => (x2 ≤ l3 → pz_V mX7_mostAlike Ex Q d bc bs 37 [(0, .ref l0), (3, .int 0), (4, .int ((l2 * ((6 : Int32))) + l1)), (5, .int 0)] [] h) ∧ (¬ x2 ≤ l3 → pz_gR h l0 7 1 (fun (a3 : Nat) => pz_sI h a3 l3 0 (fun (h4 : pz_H) => pz_V mX7_mostAlike Ex Q d bc bs 2 [(0, .ref l0), (1, .int l1), (2, .int l2), (3, .int (l3 + (1 : Int32)))] [] h4)))))) : pz_V mX7_mostAlike Ex Q d bc bs 2 [(0, .ref l0), (1, .int l1), (2, .int l2), (3, .int l3)] [] h := by
  refine pz_iload_n (pc' := 3) (x := l3) 3 rfl (pz_dc dX7_mostAlike 2 rfl) rfl ?_
  refine pz_aload_n (pc' := 4) (x := l0) 0 rfl (pz_dc dX7_mostAlike 3 rfl) rfl ?_
  refine pz_getR (M := mX7_mostAlike) hb fX7_15 (pc' := 7) rfl (pz_dc dX7_mostAlike 4 rfl) (fun a1 hb => ?_)
  refine pz_lenI hb (pc' := 8) rfl (pz_dc dX7_mostAlike 5 rfl) (fun x2 hb => ?_)
  refine pz_icmp_ge (pc' := 11) (tgt := 24) rfl (pz_dc dX7_mostAlike 6 rfl) (by decide) (fun hc => ?_) (fun hc => ?_)
  · replace hb := hb.1 hc
    refine pz_iconst (pc' := 25) (v := 0) rfl (pz_dc dX7_mostAlike 14 rfl) ki_0 ?_
    refine pz_istore_n (pc' := 26) (lv' := [(3, .int 0), (0, .ref l0), (1, .int l1), (2, .int l2)]) rfl (pz_dc dX7_mostAlike 15 rfl) (by decide) rfl ?_
    refine pz_iload_n (pc' := 27) (x := l2) 3 rfl (pz_dc dX7_mostAlike 16 rfl) rfl ?_
    refine pz_bipush (pc' := 29) (v := 6) rfl (pz_dc dX7_mostAlike 17 rfl) kb_6 ?_
    refine pz_imul (pc' := 30) rfl (pz_dc dX7_mostAlike 18 rfl) ?_
    refine pz_iload_n (pc' := 31) (x := l1) 2 rfl (pz_dc dX7_mostAlike 19 rfl) rfl ?_
    refine pz_iadd (pc' := 32) rfl (pz_dc dX7_mostAlike 20 rfl) ?_
    refine pz_istore (pc' := 34) (lv' := [(4, .int ((l2 * ((6 : Int32))) + l1)), (3, .int 0), (0, .ref l0), (1, .int l1), (2, .int l2)]) rfl (pz_dc dX7_mostAlike 21 rfl) (by decide) rfl ?_
    refine pz_iconst (pc' := 35) (v := 0) rfl (pz_dc dX7_mostAlike 22 rfl) ki_0 ?_
    refine pz_istore (pc' := 37) (lv' := [(5, .int 0), (4, .int ((l2 * ((6 : Int32))) + l1)), (3, .int 0), (0, .ref l0), (1, .int l1), (2, .int l2)]) rfl (pz_dc dX7_mostAlike 23 rfl) (by decide) rfl ?_
    refine pz_lv (lv' := [(0, .ref l0), (3, .int 0), (4, .int ((l2 * ((6 : Int32))) + l1)), (5, .int 0)]) [3, 2, 1, 0] rfl ?_
    exact hb
  · replace hb := hb.2 hc
    refine pz_aload_n (pc' := 12) (x := l0) 0 rfl (pz_dc dX7_mostAlike 7 rfl) rfl ?_
    refine pz_getR (M := mX7_mostAlike) hb fX7_15 (pc' := 15) rfl (pz_dc dX7_mostAlike 8 rfl) (fun a3 hb => ?_)
    refine pz_iload_n (pc' := 16) (x := l3) 3 rfl (pz_dc dX7_mostAlike 9 rfl) rfl ?_
    refine pz_iconst (pc' := 17) (v := 0) rfl (pz_dc dX7_mostAlike 10 rfl) ki_0 ?_
    refine pz_stI hb (pc' := 18) rfl (pz_dc dX7_mostAlike 11 rfl) (fun h4 hb => ?_)
    refine pz_iinc (pc' := 21) (x := l3) (v := l3 + (1 : Int32)) (lv' := [(3, .int (l3 + (1 : Int32))), (0, .ref l0), (1, .int l1), (2, .int l2)]) 3 rfl (pz_dc dX7_mostAlike 12 rfl) rfl rfl (by decide) rfl ?_
    refine pz_goto (pc' := 2) (pz_dc dX7_mostAlike 13 rfl) (by decide) ?_
    refine pz_lv (lv' := [(0, .ref l0), (1, .int l1), (2, .int l2), (3, .int (l3 + (1 : Int32)))]) [1, 2, 3, 0] rfl ?_
    exact hb
set_option maxRecDepth 20000 in
set_option maxHeartbeats 4000000 in
theorem wX7_mostAlike_37 {Ex : State → Nat → Prop} {Q : Option Value → pz_H → Prop} {d bc bs : Nat} {l0 : Nat} {l3 : Int32} {l4 : Int32} {l5 : Int32}  {h : pz_H} (hD : 1 ≤ d) (hb : pz_gI h l0 7 2 (fun (x1 : Int32) => (x1 ≤ l5 → Q (some (.int l3)) h) ∧ (¬ x1 ≤ l5 → (l4 < 0 → Q (some (.int l3)) h) ∧ (¬ l4 < 0 → pz_gR h l0 7 0 (fun (a2 : Nat) => pz_lI h a2 (fun (x3 : Int32) => (x3 ≤ l4 → Q (some (.int l3)) h) ∧ (¬ x3 ≤ l4 → pz_gR h l0 7 0 (fun (a4 : Nat) => pz_rI h a4 l4 (fun (x5 : Int32) => (x5 < 0 → pz_V mX7_mostAlike Ex Q d bc bs 37 [(0, .ref l0), (3, .int l3), (4, .int (l4 + (126 : Int32))), (5, .int (l5 + (1 : Int32)))] [] h) ∧ (¬ x5 < 0 → pz_gR h l0 7 1 (fun (a6 : Nat) => pz_lI h a6 (fun (x7 : Int32) => (x7 ≤ x5 → pz_V mX7_mostAlike Ex Q d bc bs 37 [(0, .ref l0), (3, .int l3), (4, .int (l4 + (126 : Int32))), (5, .int (l5 + (1 : Int32)))] [] h) ∧ (¬ x7 ≤ x5 → pz_gR h l0 7 1 (fun (a8 : Nat) => pz_rI h a8 x5 (fun (x9 : Int32) => pz_sI h a8 x5 (x9 + ((1 : Int32))) (fun (h10 : pz_H) => pz_gR h10 l0 7 1 (fun (a11 : Nat) => pz_rI h10 a11 x5 (fun (x12 : Int32) => pz_V mX7_mostAlike Ex Q d bc bs 37 [(0, .ref l0), (3, .int (if l3 < x12 then x12 else l3)), (4, .int (l4 + (126 : Int32))), (5, .int (l5 + (1 : Int32)))] [] h10)))))))))))))))))) : pz_V mX7_mostAlike Ex Q d bc bs 37 [(0, .ref l0), (3, .int l3), (4, .int l4), (5, .int l5)] [] h := by
  refine pz_iload (pc' := 39) (x := l5) 3 rfl (pz_dc dX7_mostAlike 24 rfl) rfl ?_
  refine pz_aload_n (pc' := 40) (x := l0) 0 rfl (pz_dc dX7_mostAlike 25 rfl) rfl ?_
  refine pz_getI (M := mX7_mostAlike) hb fX7_18 (pc' := 43) rfl (pz_dc dX7_mostAlike 26 rfl) (fun x1 hb => ?_)
  refine pz_icmp_ge (pc' := 46) (tgt := 117) rfl (pz_dc dX7_mostAlike 27 rfl) (by decide) (fun hc => ?_) (fun hc => ?_)
  · replace hb := hb.1 hc
    refine pz_iload_n (pc' := 118) (x := l3) 1 rfl (pz_dc dX7_mostAlike 65 rfl) rfl ?_
    exact pz_iret (pz_dc dX7_mostAlike 66 rfl) rfl hb
  · replace hb := hb.2 hc
    refine pz_iload (pc' := 48) (x := l4) 2 rfl (pz_dc dX7_mostAlike 28 rfl) rfl ?_
    refine pz_if_lt (pc' := 51) (tgt := 117) rfl (pz_dc dX7_mostAlike 29 rfl) (by decide) (fun hc => ?_) (fun hc => ?_)
    · replace hb := hb.1 hc
      refine pz_iload_n (pc' := 118) (x := l3) 1 rfl (pz_dc dX7_mostAlike 65 rfl) rfl ?_
      exact pz_iret (pz_dc dX7_mostAlike 66 rfl) rfl hb
    · replace hb := hb.2 hc
      refine pz_iload (pc' := 53) (x := l4) 2 rfl (pz_dc dX7_mostAlike 30 rfl) rfl ?_
      refine pz_aload_n (pc' := 54) (x := l0) 0 rfl (pz_dc dX7_mostAlike 31 rfl) rfl ?_
      refine pz_getR (M := mX7_mostAlike) hb fX7_11 (pc' := 57) rfl (pz_dc dX7_mostAlike 32 rfl) (fun a2 hb => ?_)
      refine pz_lenI hb (pc' := 58) rfl (pz_dc dX7_mostAlike 33 rfl) (fun x3 hb => ?_)
      refine pz_icmp_ge (pc' := 61) (tgt := 117) rfl (pz_dc dX7_mostAlike 34 rfl) (by decide) (fun hc => ?_) (fun hc => ?_)
      · replace hb := hb.1 hc
        refine pz_iload_n (pc' := 118) (x := l3) 1 rfl (pz_dc dX7_mostAlike 65 rfl) rfl ?_
        exact pz_iret (pz_dc dX7_mostAlike 66 rfl) rfl hb
      · replace hb := hb.2 hc
        refine pz_aload_n (pc' := 62) (x := l0) 0 rfl (pz_dc dX7_mostAlike 35 rfl) rfl ?_
        refine pz_getR (M := mX7_mostAlike) hb fX7_11 (pc' := 65) rfl (pz_dc dX7_mostAlike 36 rfl) (fun a4 hb => ?_)
        refine pz_iload (pc' := 67) (x := l4) 2 rfl (pz_dc dX7_mostAlike 37 rfl) rfl ?_
        refine pz_ldI hb (pc' := 68) rfl (pz_dc dX7_mostAlike 38 rfl) (fun x5 hb => ?_)
        refine pz_istore (pc' := 70) (lv' := [(6, .int x5), (0, .ref l0), (3, .int l3), (4, .int l4), (5, .int l5)]) rfl (pz_dc dX7_mostAlike 39 rfl) (by decide) rfl ?_
        refine pz_iload (pc' := 72) (x := x5) 0 rfl (pz_dc dX7_mostAlike 40 rfl) rfl ?_
        refine pz_if_lt (pc' := 75) (tgt := 108) rfl (pz_dc dX7_mostAlike 41 rfl) (by decide) (fun hc => ?_) (fun hc => ?_)
        · replace hb := hb.1 hc
          refine pz_iinc (pc' := 111) (x := l4) (v := l4 + (126 : Int32)) (lv' := [(4, .int (l4 + (126 : Int32))), (6, .int x5), (0, .ref l0), (3, .int l3), (5, .int l5)]) 3 rfl (pz_dc dX7_mostAlike 62 rfl) rfl rfl (by decide) rfl ?_
          refine pz_iinc (pc' := 114) (x := l5) (v := l5 + (1 : Int32)) (lv' := [(5, .int (l5 + (1 : Int32))), (4, .int (l4 + (126 : Int32))), (6, .int x5), (0, .ref l0), (3, .int l3)]) 4 rfl (pz_dc dX7_mostAlike 63 rfl) rfl rfl (by decide) rfl ?_
          refine pz_goto (pc' := 37) (pz_dc dX7_mostAlike 64 rfl) (by decide) ?_
          refine pz_lv (lv' := [(0, .ref l0), (3, .int l3), (4, .int (l4 + (126 : Int32))), (5, .int (l5 + (1 : Int32)))]) [3, 4, 1, 0] rfl ?_
          exact hb
        · replace hb := hb.2 hc
          refine pz_iload (pc' := 77) (x := x5) 0 rfl (pz_dc dX7_mostAlike 42 rfl) rfl ?_
          refine pz_aload_n (pc' := 78) (x := l0) 1 rfl (pz_dc dX7_mostAlike 43 rfl) rfl ?_
          refine pz_getR (M := mX7_mostAlike) hb fX7_15 (pc' := 81) rfl (pz_dc dX7_mostAlike 44 rfl) (fun a6 hb => ?_)
          refine pz_lenI hb (pc' := 82) rfl (pz_dc dX7_mostAlike 45 rfl) (fun x7 hb => ?_)
          refine pz_icmp_ge (pc' := 85) (tgt := 108) rfl (pz_dc dX7_mostAlike 46 rfl) (by decide) (fun hc => ?_) (fun hc => ?_)
          · replace hb := hb.1 hc
            refine pz_iinc (pc' := 111) (x := l4) (v := l4 + (126 : Int32)) (lv' := [(4, .int (l4 + (126 : Int32))), (6, .int x5), (0, .ref l0), (3, .int l3), (5, .int l5)]) 3 rfl (pz_dc dX7_mostAlike 62 rfl) rfl rfl (by decide) rfl ?_
            refine pz_iinc (pc' := 114) (x := l5) (v := l5 + (1 : Int32)) (lv' := [(5, .int (l5 + (1 : Int32))), (4, .int (l4 + (126 : Int32))), (6, .int x5), (0, .ref l0), (3, .int l3)]) 4 rfl (pz_dc dX7_mostAlike 63 rfl) rfl rfl (by decide) rfl ?_
            refine pz_goto (pc' := 37) (pz_dc dX7_mostAlike 64 rfl) (by decide) ?_
            refine pz_lv (lv' := [(0, .ref l0), (3, .int l3), (4, .int (l4 + (126 : Int32))), (5, .int (l5 + (1 : Int32)))]) [3, 4, 1, 0] rfl ?_
            exact hb
          · replace hb := hb.2 hc
            refine pz_aload_n (pc' := 86) (x := l0) 1 rfl (pz_dc dX7_mostAlike 47 rfl) rfl ?_
            refine pz_getR (M := mX7_mostAlike) hb fX7_15 (pc' := 89) rfl (pz_dc dX7_mostAlike 48 rfl) (fun a8 hb => ?_)
            refine pz_iload (pc' := 91) (x := x5) 0 rfl (pz_dc dX7_mostAlike 49 rfl) rfl ?_
            refine pz_dup2 (pc' := 92) rfl (pz_dc dX7_mostAlike 50 rfl) rfl rfl ?_
            refine pz_ldI hb (pc' := 93) rfl (pz_dc dX7_mostAlike 51 rfl) (fun x9 hb => ?_)
            refine pz_iconst (pc' := 94) (v := 1) rfl (pz_dc dX7_mostAlike 52 rfl) ki_1 ?_
            refine pz_iadd (pc' := 95) rfl (pz_dc dX7_mostAlike 53 rfl) ?_
            refine pz_stI hb (pc' := 96) rfl (pz_dc dX7_mostAlike 54 rfl) (fun h10 hb => ?_)
            refine pz_iload_n (pc' := 97) (x := l3) 2 rfl (pz_dc dX7_mostAlike 55 rfl) rfl ?_
            refine pz_aload_n (pc' := 98) (x := l0) 1 rfl (pz_dc dX7_mostAlike 56 rfl) rfl ?_
            refine pz_getR (M := mX7_mostAlike) hb fX7_15 (pc' := 101) rfl (pz_dc dX7_mostAlike 57 rfl) (fun a11 hb => ?_)
            refine pz_iload (pc' := 103) (x := x5) 0 rfl (pz_dc dX7_mostAlike 58 rfl) rfl ?_
            refine pz_ldI hb (pc' := 104) rfl (pz_dc dX7_mostAlike 59 rfl) (fun x12 hb => ?_)
            refine pz_max (M := mX7_mostAlike) (pc' := 107) wX7_28 rfl (pz_dc dX7_mostAlike 60 rfl) (Nat.le_of_ble_eq_true rfl) (by omega) ?_
            refine pz_istore_n (pc' := 108) (lv' := [(3, .int (if l3 < x12 then x12 else l3)), (6, .int x5), (0, .ref l0), (4, .int l4), (5, .int l5)]) rfl (pz_dc dX7_mostAlike 61 rfl) (by decide) rfl ?_
            refine pz_iinc (pc' := 111) (x := l4) (v := l4 + (126 : Int32)) (lv' := [(4, .int (l4 + (126 : Int32))), (3, .int (if l3 < x12 then x12 else l3)), (6, .int x5), (0, .ref l0), (5, .int l5)]) 3 rfl (pz_dc dX7_mostAlike 62 rfl) rfl rfl (by decide) rfl ?_
            refine pz_iinc (pc' := 114) (x := l5) (v := l5 + (1 : Int32)) (lv' := [(5, .int (l5 + (1 : Int32))), (4, .int (l4 + (126 : Int32))), (3, .int (if l3 < x12 then x12 else l3)), (6, .int x5), (0, .ref l0)]) 4 rfl (pz_dc dX7_mostAlike 63 rfl) rfl rfl (by decide) rfl ?_
            refine pz_goto (pc' := 37) (pz_dc dX7_mostAlike 64 rfl) (by decide) ?_
            refine pz_lv (lv' := [(0, .ref l0), (3, .int (if l3 < x12 then x12 else l3)), (4, .int (l4 + (126 : Int32))), (5, .int (l5 + (1 : Int32)))]) [4, 2, 1, 0] rfl ?_
            exact hb
set_option maxRecDepth 20000 in
set_option maxHeartbeats 4000000 in
theorem wX8_init_0 {Ex : State → Nat → Prop} {Q : Option Value → pz_H → Prop} {d bc bs : Nat} {l0 : Nat}  {h : pz_H} (hD : 1 ≤ d) (hb : pz_nI h 6 (bc) (bs) (fun (a1 : Nat) (h2 : pz_H) => pz_pF h2 l0 8 0 (.ref a1) (fun (h3 : pz_H) => pz_nI h3 6 (bc - 1) (bs - 6) (fun (a4 : Nat) (h5 : pz_H) => pz_pF h5 l0 8 1 (.ref a4) (fun (h6 : pz_H) => pz_nI h6 6 (bc - 1 - 1) (bs - 6 - 6) (fun (a7 : Nat) (h8 : pz_H) => pz_pF h8 l0 8 2 (.ref a7) (fun (h9 : pz_H) => pz_nI h9 6 (bc - 1 - 1 - 1) (bs - 6 - 6 - 6) (fun (a10 : Nat) (h11 : pz_H) => pz_pF h11 l0 8 3 (.ref a10) (fun (h12 : pz_H) => pz_nI h12 6 (bc - 1 - 1 - 1 - 1) (bs - 6 - 6 - 6 - 6) (fun (a13 : Nat) (h14 : pz_H) => pz_pF h14 l0 8 4 (.ref a13) (fun (h15 : pz_H) => Q none h15))))))))))) : pz_V mX8_init Ex Q d bc bs 0 [(0, .ref l0)] [] h := by
  refine pz_aload_n (pc' := 1) (x := l0) 0 rfl (pz_dc dX8_init 0 rfl) rfl ?_
  refine pz_obj (M := mX8_init) (pc' := 4) wX8_3 pz_oI pz_oC rfl (pz_dc dX8_init 1 rfl) (Nat.le_of_ble_eq_true rfl) (by omega) ?_
  refine pz_aload_n (pc' := 5) (x := l0) 0 rfl (pz_dc dX8_init 2 rfl) rfl ?_
  refine pz_bipush (pc' := 7) (v := 6) rfl (pz_dc dX8_init 3 rfl) kb_6 ?_
  refine pz_mkI hb pz_ac_int (pc' := 9) rfl (pz_dc dX8_init 4 rfl) (by decide) (by decide) (by decide) (fun a1 h2 hb => ?_)
  refine pz_putv (M := mX8_init) hb pX8_9i rfl rfl (pc' := 12) rfl (pz_dc dX8_init 5 rfl) (fun h3 hb => ?_)
  refine pz_aload_n (pc' := 13) (x := l0) 0 rfl (pz_dc dX8_init 6 rfl) rfl ?_
  refine pz_bipush (pc' := 15) (v := 6) rfl (pz_dc dX8_init 7 rfl) kb_6 ?_
  refine pz_mkI hb pz_ac_int (pc' := 17) rfl (pz_dc dX8_init 8 rfl) (by decide) (by decide) (by decide) (fun a4 h5 hb => ?_)
  refine pz_putv (M := mX8_init) hb pX8_15i rfl rfl (pc' := 20) rfl (pz_dc dX8_init 9 rfl) (fun h6 hb => ?_)
  refine pz_aload_n (pc' := 21) (x := l0) 0 rfl (pz_dc dX8_init 10 rfl) rfl ?_
  refine pz_bipush (pc' := 23) (v := 6) rfl (pz_dc dX8_init 11 rfl) kb_6 ?_
  refine pz_mkI hb pz_ac_int (pc' := 25) rfl (pz_dc dX8_init 12 rfl) (by decide) (by decide) (by decide) (fun a7 h8 hb => ?_)
  refine pz_putv (M := mX8_init) hb pX8_18i rfl rfl (pc' := 28) rfl (pz_dc dX8_init 13 rfl) (fun h9 hb => ?_)
  refine pz_aload_n (pc' := 29) (x := l0) 0 rfl (pz_dc dX8_init 14 rfl) rfl ?_
  refine pz_bipush (pc' := 31) (v := 6) rfl (pz_dc dX8_init 15 rfl) kb_6 ?_
  refine pz_mkI hb pz_ac_int (pc' := 33) rfl (pz_dc dX8_init 16 rfl) (by decide) (by decide) (by decide) (fun a10 h11 hb => ?_)
  refine pz_putv (M := mX8_init) hb pX8_21i rfl rfl (pc' := 36) rfl (pz_dc dX8_init 17 rfl) (fun h12 hb => ?_)
  refine pz_aload_n (pc' := 37) (x := l0) 0 rfl (pz_dc dX8_init 18 rfl) rfl ?_
  refine pz_bipush (pc' := 39) (v := 6) rfl (pz_dc dX8_init 19 rfl) kb_6 ?_
  refine pz_mkI hb pz_ac_int (pc' := 41) rfl (pz_dc dX8_init 20 rfl) (by decide) (by decide) (by decide) (fun a13 h14 hb => ?_)
  refine pz_putv (M := mX8_init) hb pX8_24i rfl rfl (pc' := 44) rfl (pz_dc dX8_init 21 rfl) (fun h15 hb => ?_)
  exact pz_vret (pz_dc dX8_init 22 rfl) rfl hb
set_option maxRecDepth 20000 in
set_option maxHeartbeats 4000000 in
theorem wX8_copy_0 {Ex : State → Nat → Prop} {Q : Option Value → pz_H → Prop} {d bc bs : Nat} {l0 : Nat} {l1 : Nat}  {h : pz_H} (hD : 1 ≤ d) (hb : pz_gR h l1 8 0 (fun (a1 : Nat) => pz_gR h l0 8 0 (fun (a2 : Nat) => pz_cp h a1 0 a2 0 6 (fun (h3 : pz_H) => pz_gR h3 l1 8 1 (fun (a4 : Nat) => pz_gR h3 l0 8 1 (fun (a5 : Nat) => pz_cp h3 a4 0 a5 0 6 (fun (h6 : pz_H) => pz_gR h6 l1 8 2 (fun (a7 : Nat) => pz_gR h6 l0 8 2 (fun (a8 : Nat) => pz_cp h6 a7 0 a8 0 6 (fun (h9 : pz_H) => pz_gR h9 l1 8 3 (fun (a10 : Nat) => pz_gR h9 l0 8 3 (fun (a11 : Nat) => pz_cp h9 a10 0 a11 0 6 (fun (h12 : pz_H) => pz_gR h12 l1 8 4 (fun (a13 : Nat) => pz_gR h12 l0 8 4 (fun (a14 : Nat) => pz_cp h12 a13 0 a14 0 6 (fun (h15 : pz_H) => pz_gI h15 l1 8 5 (fun (x16 : Int32) => pz_pF h15 l0 8 5 (.int x16) (fun (h17 : pz_H) => pz_gI h17 l1 8 6 (fun (x18 : Int32) => pz_pF h17 l0 8 6 (.int x18) (fun (h19 : pz_H) => pz_gI h19 l1 8 7 (fun (x20 : Int32) => pz_pF h19 l0 8 7 (.int x20) (fun (h21 : pz_H) => pz_gI h21 l1 8 8 (fun (x22 : Int32) => pz_pF h21 l0 8 8 (.int x22) (fun (h23 : pz_H) => Q none h23)))))))))))))))))))))))) : pz_V mX8_copy Ex Q d bc bs 0 [(0, .ref l0), (1, .ref l1)] [] h := by
  refine pz_aload_n (pc' := 1) (x := l1) 1 rfl (pz_dc dX8_copy 0 rfl) rfl ?_
  refine pz_getR (M := mX8_copy) hb fX8_9 (pc' := 4) rfl (pz_dc dX8_copy 1 rfl) (fun a1 hb => ?_)
  refine pz_iconst (pc' := 5) (v := 0) rfl (pz_dc dX8_copy 2 rfl) ki_0 ?_
  refine pz_aload_n (pc' := 6) (x := l0) 0 rfl (pz_dc dX8_copy 3 rfl) rfl ?_
  refine pz_getR (M := mX8_copy) hb fX8_9 (pc' := 9) rfl (pz_dc dX8_copy 4 rfl) (fun a2 hb => ?_)
  refine pz_iconst (pc' := 10) (v := 0) rfl (pz_dc dX8_copy 5 rfl) ki_0 ?_
  refine pz_bipush (pc' := 12) (v := 6) rfl (pz_dc dX8_copy 6 rfl) kb_6 ?_
  refine pz_cpy (M := mX8_copy) hb wX8_27 (pc' := 15) rfl (pz_dc dX8_copy 7 rfl) (Nat.le_of_ble_eq_true rfl) (by omega) (fun h3 hb => ?_)
  refine pz_aload_n (pc' := 16) (x := l1) 1 rfl (pz_dc dX8_copy 8 rfl) rfl ?_
  refine pz_getR (M := mX8_copy) hb fX8_15 (pc' := 19) rfl (pz_dc dX8_copy 9 rfl) (fun a4 hb => ?_)
  refine pz_iconst (pc' := 20) (v := 0) rfl (pz_dc dX8_copy 10 rfl) ki_0 ?_
  refine pz_aload_n (pc' := 21) (x := l0) 0 rfl (pz_dc dX8_copy 11 rfl) rfl ?_
  refine pz_getR (M := mX8_copy) hb fX8_15 (pc' := 24) rfl (pz_dc dX8_copy 12 rfl) (fun a5 hb => ?_)
  refine pz_iconst (pc' := 25) (v := 0) rfl (pz_dc dX8_copy 13 rfl) ki_0 ?_
  refine pz_bipush (pc' := 27) (v := 6) rfl (pz_dc dX8_copy 14 rfl) kb_6 ?_
  refine pz_cpy (M := mX8_copy) hb wX8_27 (pc' := 30) rfl (pz_dc dX8_copy 15 rfl) (Nat.le_of_ble_eq_true rfl) (by omega) (fun h6 hb => ?_)
  refine pz_aload_n (pc' := 31) (x := l1) 1 rfl (pz_dc dX8_copy 16 rfl) rfl ?_
  refine pz_getR (M := mX8_copy) hb fX8_18 (pc' := 34) rfl (pz_dc dX8_copy 17 rfl) (fun a7 hb => ?_)
  refine pz_iconst (pc' := 35) (v := 0) rfl (pz_dc dX8_copy 18 rfl) ki_0 ?_
  refine pz_aload_n (pc' := 36) (x := l0) 0 rfl (pz_dc dX8_copy 19 rfl) rfl ?_
  refine pz_getR (M := mX8_copy) hb fX8_18 (pc' := 39) rfl (pz_dc dX8_copy 20 rfl) (fun a8 hb => ?_)
  refine pz_iconst (pc' := 40) (v := 0) rfl (pz_dc dX8_copy 21 rfl) ki_0 ?_
  refine pz_bipush (pc' := 42) (v := 6) rfl (pz_dc dX8_copy 22 rfl) kb_6 ?_
  refine pz_cpy (M := mX8_copy) hb wX8_27 (pc' := 45) rfl (pz_dc dX8_copy 23 rfl) (Nat.le_of_ble_eq_true rfl) (by omega) (fun h9 hb => ?_)
  refine pz_aload_n (pc' := 46) (x := l1) 1 rfl (pz_dc dX8_copy 24 rfl) rfl ?_
  refine pz_getR (M := mX8_copy) hb fX8_21 (pc' := 49) rfl (pz_dc dX8_copy 25 rfl) (fun a10 hb => ?_)
  refine pz_iconst (pc' := 50) (v := 0) rfl (pz_dc dX8_copy 26 rfl) ki_0 ?_
  refine pz_aload_n (pc' := 51) (x := l0) 0 rfl (pz_dc dX8_copy 27 rfl) rfl ?_
  refine pz_getR (M := mX8_copy) hb fX8_21 (pc' := 54) rfl (pz_dc dX8_copy 28 rfl) (fun a11 hb => ?_)
  refine pz_iconst (pc' := 55) (v := 0) rfl (pz_dc dX8_copy 29 rfl) ki_0 ?_
  refine pz_bipush (pc' := 57) (v := 6) rfl (pz_dc dX8_copy 30 rfl) kb_6 ?_
  refine pz_cpy (M := mX8_copy) hb wX8_27 (pc' := 60) rfl (pz_dc dX8_copy 31 rfl) (Nat.le_of_ble_eq_true rfl) (by omega) (fun h12 hb => ?_)
  refine pz_aload_n (pc' := 61) (x := l1) 1 rfl (pz_dc dX8_copy 32 rfl) rfl ?_
  refine pz_getR (M := mX8_copy) hb fX8_24 (pc' := 64) rfl (pz_dc dX8_copy 33 rfl) (fun a13 hb => ?_)
  refine pz_iconst (pc' := 65) (v := 0) rfl (pz_dc dX8_copy 34 rfl) ki_0 ?_
  refine pz_aload_n (pc' := 66) (x := l0) 0 rfl (pz_dc dX8_copy 35 rfl) rfl ?_
  refine pz_getR (M := mX8_copy) hb fX8_24 (pc' := 69) rfl (pz_dc dX8_copy 36 rfl) (fun a14 hb => ?_)
  refine pz_iconst (pc' := 70) (v := 0) rfl (pz_dc dX8_copy 37 rfl) ki_0 ?_
  refine pz_bipush (pc' := 72) (v := 6) rfl (pz_dc dX8_copy 38 rfl) kb_6 ?_
  refine pz_cpy (M := mX8_copy) hb wX8_27 (pc' := 75) rfl (pz_dc dX8_copy 39 rfl) (Nat.le_of_ble_eq_true rfl) (by omega) (fun h15 hb => ?_)
  refine pz_aload_n (pc' := 76) (x := l0) 0 rfl (pz_dc dX8_copy 40 rfl) rfl ?_
  refine pz_aload_n (pc' := 77) (x := l1) 1 rfl (pz_dc dX8_copy 41 rfl) rfl ?_
  refine pz_getI (M := mX8_copy) hb fX8_33 (pc' := 80) rfl (pz_dc dX8_copy 42 rfl) (fun x16 hb => ?_)
  refine pz_putv (M := mX8_copy) hb (pX8_33 _ rfl) rfl rfl (pc' := 83) rfl (pz_dc dX8_copy 43 rfl) (fun h17 hb => ?_)
  refine pz_aload_n (pc' := 84) (x := l0) 0 rfl (pz_dc dX8_copy 44 rfl) rfl ?_
  refine pz_aload_n (pc' := 85) (x := l1) 1 rfl (pz_dc dX8_copy 45 rfl) rfl ?_
  refine pz_getI (M := mX8_copy) hb fX8_37 (pc' := 88) rfl (pz_dc dX8_copy 46 rfl) (fun x18 hb => ?_)
  refine pz_putv (M := mX8_copy) hb (pX8_37 _ rfl) rfl rfl (pc' := 91) rfl (pz_dc dX8_copy 47 rfl) (fun h19 hb => ?_)
  refine pz_aload_n (pc' := 92) (x := l0) 0 rfl (pz_dc dX8_copy 48 rfl) rfl ?_
  refine pz_aload_n (pc' := 93) (x := l1) 1 rfl (pz_dc dX8_copy 49 rfl) rfl ?_
  refine pz_getI (M := mX8_copy) hb fX8_40 (pc' := 96) rfl (pz_dc dX8_copy 50 rfl) (fun x20 hb => ?_)
  refine pz_putv (M := mX8_copy) hb (pX8_40 _ rfl) rfl rfl (pc' := 99) rfl (pz_dc dX8_copy 51 rfl) (fun h21 hb => ?_)
  refine pz_aload_n (pc' := 100) (x := l0) 0 rfl (pz_dc dX8_copy 52 rfl) rfl ?_
  refine pz_aload_n (pc' := 101) (x := l1) 1 rfl (pz_dc dX8_copy 53 rfl) rfl ?_
  refine pz_getI (M := mX8_copy) hb fX8_43 (pc' := 104) rfl (pz_dc dX8_copy 54 rfl) (fun x22 hb => ?_)
  refine pz_putv (M := mX8_copy) hb (pX8_43 _ rfl) rfl rfl (pc' := 107) rfl (pz_dc dX8_copy 55 rfl) (fun h23 hb => ?_)
  exact pz_vret (pz_dc dX8_copy 56 rfl) rfl hb
set_option maxRecDepth 20000 in
set_option maxHeartbeats 4000000 in
theorem wX8_isOut_0 {Ex : State → Nat → Prop} {Q : Option Value → pz_H → Prop} {d bc bs : Nat} {l0 : Nat} {l1 : Int32}  {h : pz_H} (hD : 1 ≤ d) (hb : pz_gI h l0 8 5 (fun (x1 : Int32) => Q (some (.int (eX9_isIn x1 l1))) h)) : pz_V mX8_isOut Ex Q d bc bs 0 [(0, .ref l0), (1, .int l1)] [] h := by
  refine pz_aload_n (pc' := 1) (x := l0) 0 rfl (pz_dc dX8_isOut 0 rfl) rfl ?_
  refine pz_getI (M := mX8_isOut) hb fX8_33 (pc' := 4) rfl (pz_dc dX8_isOut 1 rfl) (fun x1 hb => ?_)
  refine pz_iload_n (pc' := 5) (x := l1) 1 rfl (pz_dc dX8_isOut 2 rfl) rfl ?_
  refine pz_callS (M := mX8_isOut) (N := mX9_isIn) (d' := 0) (bc1 := 0) (bs1 := 0) (bc2 := bc) (bs2 := bs) (pc' := 8) [.int x1, .int l1] sX8_46 rfl (pz_dc dX8_isOut 3 rfl) rfl (Nat.le_of_ble_eq_true rfl) (Nat.le_of_ble_eq_true rfl) rfl (by omega) (by omega) (by omega) ?_
  refine cX9_isIn ?_
  show pz_V mX8_isOut _ _ _ _ _ 8 [(0, .ref l0), (1, .int l1)] [.int (eX9_isIn x1 l1)] h
  exact pz_zret (pz_dc dX8_isOut 4 rfl) rfl ⟨zX9_isIn _ _, hb⟩
set_option maxRecDepth 20000 in
set_option maxHeartbeats 4000000 in
theorem wJ6_bitCount_0f7a4_0 {Ex : State → Nat → Prop} {Q : Option Value → pz_H → Prop} {d bc bs : Nat} {l0 : Int32}  {h : pz_H}  (hb : Q (some (.int ((((((((l0 - (((l0.toUInt32 >>> (((1 : Int32)).toUInt32 &&& Int32.toUInt32 31)).toInt32) &&& ((1431655765 : Int32)))) &&& ((858993459 : Int32))) + ((((l0 - (((l0.toUInt32 >>> (((1 : Int32)).toUInt32 &&& Int32.toUInt32 31)).toInt32) &&& ((1431655765 : Int32)))).toUInt32 >>> (((2 : Int32)).toUInt32 &&& Int32.toUInt32 31)).toInt32) &&& ((858993459 : Int32)))) + (((((l0 - (((l0.toUInt32 >>> (((1 : Int32)).toUInt32 &&& Int32.toUInt32 31)).toInt32) &&& ((1431655765 : Int32)))) &&& ((858993459 : Int32))) + ((((l0 - (((l0.toUInt32 >>> (((1 : Int32)).toUInt32 &&& Int32.toUInt32 31)).toInt32) &&& ((1431655765 : Int32)))).toUInt32 >>> (((2 : Int32)).toUInt32 &&& Int32.toUInt32 31)).toInt32) &&& ((858993459 : Int32)))).toUInt32 >>> (((4 : Int32)).toUInt32 &&& Int32.toUInt32 31)).toInt32)) &&& ((252645135 : Int32))) + (((((((l0 - (((l0.toUInt32 >>> (((1 : Int32)).toUInt32 &&& Int32.toUInt32 31)).toInt32) &&& ((1431655765 : Int32)))) &&& ((858993459 : Int32))) + ((((l0 - (((l0.toUInt32 >>> (((1 : Int32)).toUInt32 &&& Int32.toUInt32 31)).toInt32) &&& ((1431655765 : Int32)))).toUInt32 >>> (((2 : Int32)).toUInt32 &&& Int32.toUInt32 31)).toInt32) &&& ((858993459 : Int32)))) + (((((l0 - (((l0.toUInt32 >>> (((1 : Int32)).toUInt32 &&& Int32.toUInt32 31)).toInt32) &&& ((1431655765 : Int32)))) &&& ((858993459 : Int32))) + ((((l0 - (((l0.toUInt32 >>> (((1 : Int32)).toUInt32 &&& Int32.toUInt32 31)).toInt32) &&& ((1431655765 : Int32)))).toUInt32 >>> (((2 : Int32)).toUInt32 &&& Int32.toUInt32 31)).toInt32) &&& ((858993459 : Int32)))).toUInt32 >>> (((4 : Int32)).toUInt32 &&& Int32.toUInt32 31)).toInt32)) &&& ((252645135 : Int32))).toUInt32 >>> (((8 : Int32)).toUInt32 &&& Int32.toUInt32 31)).toInt32)) + ((((((((l0 - (((l0.toUInt32 >>> (((1 : Int32)).toUInt32 &&& Int32.toUInt32 31)).toInt32) &&& ((1431655765 : Int32)))) &&& ((858993459 : Int32))) + ((((l0 - (((l0.toUInt32 >>> (((1 : Int32)).toUInt32 &&& Int32.toUInt32 31)).toInt32) &&& ((1431655765 : Int32)))).toUInt32 >>> (((2 : Int32)).toUInt32 &&& Int32.toUInt32 31)).toInt32) &&& ((858993459 : Int32)))) + (((((l0 - (((l0.toUInt32 >>> (((1 : Int32)).toUInt32 &&& Int32.toUInt32 31)).toInt32) &&& ((1431655765 : Int32)))) &&& ((858993459 : Int32))) + ((((l0 - (((l0.toUInt32 >>> (((1 : Int32)).toUInt32 &&& Int32.toUInt32 31)).toInt32) &&& ((1431655765 : Int32)))).toUInt32 >>> (((2 : Int32)).toUInt32 &&& Int32.toUInt32 31)).toInt32) &&& ((858993459 : Int32)))).toUInt32 >>> (((4 : Int32)).toUInt32 &&& Int32.toUInt32 31)).toInt32)) &&& ((252645135 : Int32))) + (((((((l0 - (((l0.toUInt32 >>> (((1 : Int32)).toUInt32 &&& Int32.toUInt32 31)).toInt32) &&& ((1431655765 : Int32)))) &&& ((858993459 : Int32))) + ((((l0 - (((l0.toUInt32 >>> (((1 : Int32)).toUInt32 &&& Int32.toUInt32 31)).toInt32) &&& ((1431655765 : Int32)))).toUInt32 >>> (((2 : Int32)).toUInt32 &&& Int32.toUInt32 31)).toInt32) &&& ((858993459 : Int32)))) + (((((l0 - (((l0.toUInt32 >>> (((1 : Int32)).toUInt32 &&& Int32.toUInt32 31)).toInt32) &&& ((1431655765 : Int32)))) &&& ((858993459 : Int32))) + ((((l0 - (((l0.toUInt32 >>> (((1 : Int32)).toUInt32 &&& Int32.toUInt32 31)).toInt32) &&& ((1431655765 : Int32)))).toUInt32 >>> (((2 : Int32)).toUInt32 &&& Int32.toUInt32 31)).toInt32) &&& ((858993459 : Int32)))).toUInt32 >>> (((4 : Int32)).toUInt32 &&& Int32.toUInt32 31)).toInt32)) &&& ((252645135 : Int32))).toUInt32 >>> (((8 : Int32)).toUInt32 &&& Int32.toUInt32 31)).toInt32)).toUInt32 >>> (((16 : Int32)).toUInt32 &&& Int32.toUInt32 31)).toInt32)) &&& ((63 : Int32))))) h) : pz_V mJ6_bitCount_0f7a4 Ex Q d bc bs 0 [(0, .int l0)] [] h := by
  refine pz_iload_n (pc' := 1) (x := l0) 0 rfl (pz_dc dJ6_bitCount_0f7a4 0 rfl) rfl ?_
  refine pz_iload_n (pc' := 2) (x := l0) 0 rfl (pz_dc dJ6_bitCount_0f7a4 1 rfl) rfl ?_
  refine pz_iconst (pc' := 3) (v := 1) rfl (pz_dc dJ6_bitCount_0f7a4 2 rfl) ki_1 ?_
  refine pz_iushr (pc' := 4) rfl (pz_dc dJ6_bitCount_0f7a4 3 rfl) ?_
  refine pz_ldcw (M := mJ6_bitCount_0f7a4) (pc' := 7) cJ6_265 rfl (pz_dc dJ6_bitCount_0f7a4 4 rfl) ?_
  refine pz_iand (pc' := 8) rfl (pz_dc dJ6_bitCount_0f7a4 5 rfl) ?_
  refine pz_isub (pc' := 9) rfl (pz_dc dJ6_bitCount_0f7a4 6 rfl) ?_
  refine pz_istore_n (pc' := 10) (lv' := [(0, .int (l0 - (((l0.toUInt32 >>> (((1 : Int32)).toUInt32 &&& Int32.toUInt32 31)).toInt32) &&& ((1431655765 : Int32)))))]) rfl (pz_dc dJ6_bitCount_0f7a4 7 rfl) (by decide) rfl ?_
  refine pz_iload_n (pc' := 11) (x := l0 - (((l0.toUInt32 >>> (((1 : Int32)).toUInt32 &&& Int32.toUInt32 31)).toInt32) &&& ((1431655765 : Int32)))) 0 rfl (pz_dc dJ6_bitCount_0f7a4 8 rfl) rfl ?_
  refine pz_ldcw (M := mJ6_bitCount_0f7a4) (pc' := 14) cJ6_266 rfl (pz_dc dJ6_bitCount_0f7a4 9 rfl) ?_
  refine pz_iand (pc' := 15) rfl (pz_dc dJ6_bitCount_0f7a4 10 rfl) ?_
  refine pz_iload_n (pc' := 16) (x := l0 - (((l0.toUInt32 >>> (((1 : Int32)).toUInt32 &&& Int32.toUInt32 31)).toInt32) &&& ((1431655765 : Int32)))) 0 rfl (pz_dc dJ6_bitCount_0f7a4 11 rfl) rfl ?_
  refine pz_iconst (pc' := 17) (v := 2) rfl (pz_dc dJ6_bitCount_0f7a4 12 rfl) ki_2 ?_
  refine pz_iushr (pc' := 18) rfl (pz_dc dJ6_bitCount_0f7a4 13 rfl) ?_
  refine pz_ldcw (M := mJ6_bitCount_0f7a4) (pc' := 21) cJ6_266 rfl (pz_dc dJ6_bitCount_0f7a4 14 rfl) ?_
  refine pz_iand (pc' := 22) rfl (pz_dc dJ6_bitCount_0f7a4 15 rfl) ?_
  refine pz_iadd (pc' := 23) rfl (pz_dc dJ6_bitCount_0f7a4 16 rfl) ?_
  refine pz_istore_n (pc' := 24) (lv' := [(0, .int (((l0 - (((l0.toUInt32 >>> (((1 : Int32)).toUInt32 &&& Int32.toUInt32 31)).toInt32) &&& ((1431655765 : Int32)))) &&& ((858993459 : Int32))) + ((((l0 - (((l0.toUInt32 >>> (((1 : Int32)).toUInt32 &&& Int32.toUInt32 31)).toInt32) &&& ((1431655765 : Int32)))).toUInt32 >>> (((2 : Int32)).toUInt32 &&& Int32.toUInt32 31)).toInt32) &&& ((858993459 : Int32)))))]) rfl (pz_dc dJ6_bitCount_0f7a4 17 rfl) (by decide) rfl ?_
  refine pz_iload_n (pc' := 25) (x := ((l0 - (((l0.toUInt32 >>> (((1 : Int32)).toUInt32 &&& Int32.toUInt32 31)).toInt32) &&& ((1431655765 : Int32)))) &&& ((858993459 : Int32))) + ((((l0 - (((l0.toUInt32 >>> (((1 : Int32)).toUInt32 &&& Int32.toUInt32 31)).toInt32) &&& ((1431655765 : Int32)))).toUInt32 >>> (((2 : Int32)).toUInt32 &&& Int32.toUInt32 31)).toInt32) &&& ((858993459 : Int32)))) 0 rfl (pz_dc dJ6_bitCount_0f7a4 18 rfl) rfl ?_
  refine pz_iload_n (pc' := 26) (x := ((l0 - (((l0.toUInt32 >>> (((1 : Int32)).toUInt32 &&& Int32.toUInt32 31)).toInt32) &&& ((1431655765 : Int32)))) &&& ((858993459 : Int32))) + ((((l0 - (((l0.toUInt32 >>> (((1 : Int32)).toUInt32 &&& Int32.toUInt32 31)).toInt32) &&& ((1431655765 : Int32)))).toUInt32 >>> (((2 : Int32)).toUInt32 &&& Int32.toUInt32 31)).toInt32) &&& ((858993459 : Int32)))) 0 rfl (pz_dc dJ6_bitCount_0f7a4 19 rfl) rfl ?_
  refine pz_iconst (pc' := 27) (v := 4) rfl (pz_dc dJ6_bitCount_0f7a4 20 rfl) ki_4 ?_
  refine pz_iushr (pc' := 28) rfl (pz_dc dJ6_bitCount_0f7a4 21 rfl) ?_
  refine pz_iadd (pc' := 29) rfl (pz_dc dJ6_bitCount_0f7a4 22 rfl) ?_
  refine pz_ldcw (M := mJ6_bitCount_0f7a4) (pc' := 32) cJ6_267 rfl (pz_dc dJ6_bitCount_0f7a4 23 rfl) ?_
  refine pz_iand (pc' := 33) rfl (pz_dc dJ6_bitCount_0f7a4 24 rfl) ?_
  refine pz_istore_n (pc' := 34) (lv' := [(0, .int (((((l0 - (((l0.toUInt32 >>> (((1 : Int32)).toUInt32 &&& Int32.toUInt32 31)).toInt32) &&& ((1431655765 : Int32)))) &&& ((858993459 : Int32))) + ((((l0 - (((l0.toUInt32 >>> (((1 : Int32)).toUInt32 &&& Int32.toUInt32 31)).toInt32) &&& ((1431655765 : Int32)))).toUInt32 >>> (((2 : Int32)).toUInt32 &&& Int32.toUInt32 31)).toInt32) &&& ((858993459 : Int32)))) + (((((l0 - (((l0.toUInt32 >>> (((1 : Int32)).toUInt32 &&& Int32.toUInt32 31)).toInt32) &&& ((1431655765 : Int32)))) &&& ((858993459 : Int32))) + ((((l0 - (((l0.toUInt32 >>> (((1 : Int32)).toUInt32 &&& Int32.toUInt32 31)).toInt32) &&& ((1431655765 : Int32)))).toUInt32 >>> (((2 : Int32)).toUInt32 &&& Int32.toUInt32 31)).toInt32) &&& ((858993459 : Int32)))).toUInt32 >>> (((4 : Int32)).toUInt32 &&& Int32.toUInt32 31)).toInt32)) &&& ((252645135 : Int32))))]) rfl (pz_dc dJ6_bitCount_0f7a4 25 rfl) (by decide) rfl ?_
  refine pz_iload_n (pc' := 35) (x := ((((l0 - (((l0.toUInt32 >>> (((1 : Int32)).toUInt32 &&& Int32.toUInt32 31)).toInt32) &&& ((1431655765 : Int32)))) &&& ((858993459 : Int32))) + ((((l0 - (((l0.toUInt32 >>> (((1 : Int32)).toUInt32 &&& Int32.toUInt32 31)).toInt32) &&& ((1431655765 : Int32)))).toUInt32 >>> (((2 : Int32)).toUInt32 &&& Int32.toUInt32 31)).toInt32) &&& ((858993459 : Int32)))) + (((((l0 - (((l0.toUInt32 >>> (((1 : Int32)).toUInt32 &&& Int32.toUInt32 31)).toInt32) &&& ((1431655765 : Int32)))) &&& ((858993459 : Int32))) + ((((l0 - (((l0.toUInt32 >>> (((1 : Int32)).toUInt32 &&& Int32.toUInt32 31)).toInt32) &&& ((1431655765 : Int32)))).toUInt32 >>> (((2 : Int32)).toUInt32 &&& Int32.toUInt32 31)).toInt32) &&& ((858993459 : Int32)))).toUInt32 >>> (((4 : Int32)).toUInt32 &&& Int32.toUInt32 31)).toInt32)) &&& ((252645135 : Int32))) 0 rfl (pz_dc dJ6_bitCount_0f7a4 26 rfl) rfl ?_
  refine pz_iload_n (pc' := 36) (x := ((((l0 - (((l0.toUInt32 >>> (((1 : Int32)).toUInt32 &&& Int32.toUInt32 31)).toInt32) &&& ((1431655765 : Int32)))) &&& ((858993459 : Int32))) + ((((l0 - (((l0.toUInt32 >>> (((1 : Int32)).toUInt32 &&& Int32.toUInt32 31)).toInt32) &&& ((1431655765 : Int32)))).toUInt32 >>> (((2 : Int32)).toUInt32 &&& Int32.toUInt32 31)).toInt32) &&& ((858993459 : Int32)))) + (((((l0 - (((l0.toUInt32 >>> (((1 : Int32)).toUInt32 &&& Int32.toUInt32 31)).toInt32) &&& ((1431655765 : Int32)))) &&& ((858993459 : Int32))) + ((((l0 - (((l0.toUInt32 >>> (((1 : Int32)).toUInt32 &&& Int32.toUInt32 31)).toInt32) &&& ((1431655765 : Int32)))).toUInt32 >>> (((2 : Int32)).toUInt32 &&& Int32.toUInt32 31)).toInt32) &&& ((858993459 : Int32)))).toUInt32 >>> (((4 : Int32)).toUInt32 &&& Int32.toUInt32 31)).toInt32)) &&& ((252645135 : Int32))) 0 rfl (pz_dc dJ6_bitCount_0f7a4 27 rfl) rfl ?_
  refine pz_bipush (pc' := 38) (v := 8) rfl (pz_dc dJ6_bitCount_0f7a4 28 rfl) kb_8 ?_
  refine pz_iushr (pc' := 39) rfl (pz_dc dJ6_bitCount_0f7a4 29 rfl) ?_
  refine pz_iadd (pc' := 40) rfl (pz_dc dJ6_bitCount_0f7a4 30 rfl) ?_
  refine pz_istore_n (pc' := 41) (lv' := [(0, .int ((((((l0 - (((l0.toUInt32 >>> (((1 : Int32)).toUInt32 &&& Int32.toUInt32 31)).toInt32) &&& ((1431655765 : Int32)))) &&& ((858993459 : Int32))) + ((((l0 - (((l0.toUInt32 >>> (((1 : Int32)).toUInt32 &&& Int32.toUInt32 31)).toInt32) &&& ((1431655765 : Int32)))).toUInt32 >>> (((2 : Int32)).toUInt32 &&& Int32.toUInt32 31)).toInt32) &&& ((858993459 : Int32)))) + (((((l0 - (((l0.toUInt32 >>> (((1 : Int32)).toUInt32 &&& Int32.toUInt32 31)).toInt32) &&& ((1431655765 : Int32)))) &&& ((858993459 : Int32))) + ((((l0 - (((l0.toUInt32 >>> (((1 : Int32)).toUInt32 &&& Int32.toUInt32 31)).toInt32) &&& ((1431655765 : Int32)))).toUInt32 >>> (((2 : Int32)).toUInt32 &&& Int32.toUInt32 31)).toInt32) &&& ((858993459 : Int32)))).toUInt32 >>> (((4 : Int32)).toUInt32 &&& Int32.toUInt32 31)).toInt32)) &&& ((252645135 : Int32))) + (((((((l0 - (((l0.toUInt32 >>> (((1 : Int32)).toUInt32 &&& Int32.toUInt32 31)).toInt32) &&& ((1431655765 : Int32)))) &&& ((858993459 : Int32))) + ((((l0 - (((l0.toUInt32 >>> (((1 : Int32)).toUInt32 &&& Int32.toUInt32 31)).toInt32) &&& ((1431655765 : Int32)))).toUInt32 >>> (((2 : Int32)).toUInt32 &&& Int32.toUInt32 31)).toInt32) &&& ((858993459 : Int32)))) + (((((l0 - (((l0.toUInt32 >>> (((1 : Int32)).toUInt32 &&& Int32.toUInt32 31)).toInt32) &&& ((1431655765 : Int32)))) &&& ((858993459 : Int32))) + ((((l0 - (((l0.toUInt32 >>> (((1 : Int32)).toUInt32 &&& Int32.toUInt32 31)).toInt32) &&& ((1431655765 : Int32)))).toUInt32 >>> (((2 : Int32)).toUInt32 &&& Int32.toUInt32 31)).toInt32) &&& ((858993459 : Int32)))).toUInt32 >>> (((4 : Int32)).toUInt32 &&& Int32.toUInt32 31)).toInt32)) &&& ((252645135 : Int32))).toUInt32 >>> (((8 : Int32)).toUInt32 &&& Int32.toUInt32 31)).toInt32)))]) rfl (pz_dc dJ6_bitCount_0f7a4 31 rfl) (by decide) rfl ?_
  refine pz_iload_n (pc' := 42) (x := (((((l0 - (((l0.toUInt32 >>> (((1 : Int32)).toUInt32 &&& Int32.toUInt32 31)).toInt32) &&& ((1431655765 : Int32)))) &&& ((858993459 : Int32))) + ((((l0 - (((l0.toUInt32 >>> (((1 : Int32)).toUInt32 &&& Int32.toUInt32 31)).toInt32) &&& ((1431655765 : Int32)))).toUInt32 >>> (((2 : Int32)).toUInt32 &&& Int32.toUInt32 31)).toInt32) &&& ((858993459 : Int32)))) + (((((l0 - (((l0.toUInt32 >>> (((1 : Int32)).toUInt32 &&& Int32.toUInt32 31)).toInt32) &&& ((1431655765 : Int32)))) &&& ((858993459 : Int32))) + ((((l0 - (((l0.toUInt32 >>> (((1 : Int32)).toUInt32 &&& Int32.toUInt32 31)).toInt32) &&& ((1431655765 : Int32)))).toUInt32 >>> (((2 : Int32)).toUInt32 &&& Int32.toUInt32 31)).toInt32) &&& ((858993459 : Int32)))).toUInt32 >>> (((4 : Int32)).toUInt32 &&& Int32.toUInt32 31)).toInt32)) &&& ((252645135 : Int32))) + (((((((l0 - (((l0.toUInt32 >>> (((1 : Int32)).toUInt32 &&& Int32.toUInt32 31)).toInt32) &&& ((1431655765 : Int32)))) &&& ((858993459 : Int32))) + ((((l0 - (((l0.toUInt32 >>> (((1 : Int32)).toUInt32 &&& Int32.toUInt32 31)).toInt32) &&& ((1431655765 : Int32)))).toUInt32 >>> (((2 : Int32)).toUInt32 &&& Int32.toUInt32 31)).toInt32) &&& ((858993459 : Int32)))) + (((((l0 - (((l0.toUInt32 >>> (((1 : Int32)).toUInt32 &&& Int32.toUInt32 31)).toInt32) &&& ((1431655765 : Int32)))) &&& ((858993459 : Int32))) + ((((l0 - (((l0.toUInt32 >>> (((1 : Int32)).toUInt32 &&& Int32.toUInt32 31)).toInt32) &&& ((1431655765 : Int32)))).toUInt32 >>> (((2 : Int32)).toUInt32 &&& Int32.toUInt32 31)).toInt32) &&& ((858993459 : Int32)))).toUInt32 >>> (((4 : Int32)).toUInt32 &&& Int32.toUInt32 31)).toInt32)) &&& ((252645135 : Int32))).toUInt32 >>> (((8 : Int32)).toUInt32 &&& Int32.toUInt32 31)).toInt32)) 0 rfl (pz_dc dJ6_bitCount_0f7a4 32 rfl) rfl ?_
  refine pz_iload_n (pc' := 43) (x := (((((l0 - (((l0.toUInt32 >>> (((1 : Int32)).toUInt32 &&& Int32.toUInt32 31)).toInt32) &&& ((1431655765 : Int32)))) &&& ((858993459 : Int32))) + ((((l0 - (((l0.toUInt32 >>> (((1 : Int32)).toUInt32 &&& Int32.toUInt32 31)).toInt32) &&& ((1431655765 : Int32)))).toUInt32 >>> (((2 : Int32)).toUInt32 &&& Int32.toUInt32 31)).toInt32) &&& ((858993459 : Int32)))) + (((((l0 - (((l0.toUInt32 >>> (((1 : Int32)).toUInt32 &&& Int32.toUInt32 31)).toInt32) &&& ((1431655765 : Int32)))) &&& ((858993459 : Int32))) + ((((l0 - (((l0.toUInt32 >>> (((1 : Int32)).toUInt32 &&& Int32.toUInt32 31)).toInt32) &&& ((1431655765 : Int32)))).toUInt32 >>> (((2 : Int32)).toUInt32 &&& Int32.toUInt32 31)).toInt32) &&& ((858993459 : Int32)))).toUInt32 >>> (((4 : Int32)).toUInt32 &&& Int32.toUInt32 31)).toInt32)) &&& ((252645135 : Int32))) + (((((((l0 - (((l0.toUInt32 >>> (((1 : Int32)).toUInt32 &&& Int32.toUInt32 31)).toInt32) &&& ((1431655765 : Int32)))) &&& ((858993459 : Int32))) + ((((l0 - (((l0.toUInt32 >>> (((1 : Int32)).toUInt32 &&& Int32.toUInt32 31)).toInt32) &&& ((1431655765 : Int32)))).toUInt32 >>> (((2 : Int32)).toUInt32 &&& Int32.toUInt32 31)).toInt32) &&& ((858993459 : Int32)))) + (((((l0 - (((l0.toUInt32 >>> (((1 : Int32)).toUInt32 &&& Int32.toUInt32 31)).toInt32) &&& ((1431655765 : Int32)))) &&& ((858993459 : Int32))) + ((((l0 - (((l0.toUInt32 >>> (((1 : Int32)).toUInt32 &&& Int32.toUInt32 31)).toInt32) &&& ((1431655765 : Int32)))).toUInt32 >>> (((2 : Int32)).toUInt32 &&& Int32.toUInt32 31)).toInt32) &&& ((858993459 : Int32)))).toUInt32 >>> (((4 : Int32)).toUInt32 &&& Int32.toUInt32 31)).toInt32)) &&& ((252645135 : Int32))).toUInt32 >>> (((8 : Int32)).toUInt32 &&& Int32.toUInt32 31)).toInt32)) 0 rfl (pz_dc dJ6_bitCount_0f7a4 33 rfl) rfl ?_
  refine pz_bipush (pc' := 45) (v := 16) rfl (pz_dc dJ6_bitCount_0f7a4 34 rfl) kb_16 ?_
  refine pz_iushr (pc' := 46) rfl (pz_dc dJ6_bitCount_0f7a4 35 rfl) ?_
  refine pz_iadd (pc' := 47) rfl (pz_dc dJ6_bitCount_0f7a4 36 rfl) ?_
  refine pz_istore_n (pc' := 48) (lv' := [(0, .int (((((((l0 - (((l0.toUInt32 >>> (((1 : Int32)).toUInt32 &&& Int32.toUInt32 31)).toInt32) &&& ((1431655765 : Int32)))) &&& ((858993459 : Int32))) + ((((l0 - (((l0.toUInt32 >>> (((1 : Int32)).toUInt32 &&& Int32.toUInt32 31)).toInt32) &&& ((1431655765 : Int32)))).toUInt32 >>> (((2 : Int32)).toUInt32 &&& Int32.toUInt32 31)).toInt32) &&& ((858993459 : Int32)))) + (((((l0 - (((l0.toUInt32 >>> (((1 : Int32)).toUInt32 &&& Int32.toUInt32 31)).toInt32) &&& ((1431655765 : Int32)))) &&& ((858993459 : Int32))) + ((((l0 - (((l0.toUInt32 >>> (((1 : Int32)).toUInt32 &&& Int32.toUInt32 31)).toInt32) &&& ((1431655765 : Int32)))).toUInt32 >>> (((2 : Int32)).toUInt32 &&& Int32.toUInt32 31)).toInt32) &&& ((858993459 : Int32)))).toUInt32 >>> (((4 : Int32)).toUInt32 &&& Int32.toUInt32 31)).toInt32)) &&& ((252645135 : Int32))) + (((((((l0 - (((l0.toUInt32 >>> (((1 : Int32)).toUInt32 &&& Int32.toUInt32 31)).toInt32) &&& ((1431655765 : Int32)))) &&& ((858993459 : Int32))) + ((((l0 - (((l0.toUInt32 >>> (((1 : Int32)).toUInt32 &&& Int32.toUInt32 31)).toInt32) &&& ((1431655765 : Int32)))).toUInt32 >>> (((2 : Int32)).toUInt32 &&& Int32.toUInt32 31)).toInt32) &&& ((858993459 : Int32)))) + (((((l0 - (((l0.toUInt32 >>> (((1 : Int32)).toUInt32 &&& Int32.toUInt32 31)).toInt32) &&& ((1431655765 : Int32)))) &&& ((858993459 : Int32))) + ((((l0 - (((l0.toUInt32 >>> (((1 : Int32)).toUInt32 &&& Int32.toUInt32 31)).toInt32) &&& ((1431655765 : Int32)))).toUInt32 >>> (((2 : Int32)).toUInt32 &&& Int32.toUInt32 31)).toInt32) &&& ((858993459 : Int32)))).toUInt32 >>> (((4 : Int32)).toUInt32 &&& Int32.toUInt32 31)).toInt32)) &&& ((252645135 : Int32))).toUInt32 >>> (((8 : Int32)).toUInt32 &&& Int32.toUInt32 31)).toInt32)) + ((((((((l0 - (((l0.toUInt32 >>> (((1 : Int32)).toUInt32 &&& Int32.toUInt32 31)).toInt32) &&& ((1431655765 : Int32)))) &&& ((858993459 : Int32))) + ((((l0 - (((l0.toUInt32 >>> (((1 : Int32)).toUInt32 &&& Int32.toUInt32 31)).toInt32) &&& ((1431655765 : Int32)))).toUInt32 >>> (((2 : Int32)).toUInt32 &&& Int32.toUInt32 31)).toInt32) &&& ((858993459 : Int32)))) + (((((l0 - (((l0.toUInt32 >>> (((1 : Int32)).toUInt32 &&& Int32.toUInt32 31)).toInt32) &&& ((1431655765 : Int32)))) &&& ((858993459 : Int32))) + ((((l0 - (((l0.toUInt32 >>> (((1 : Int32)).toUInt32 &&& Int32.toUInt32 31)).toInt32) &&& ((1431655765 : Int32)))).toUInt32 >>> (((2 : Int32)).toUInt32 &&& Int32.toUInt32 31)).toInt32) &&& ((858993459 : Int32)))).toUInt32 >>> (((4 : Int32)).toUInt32 &&& Int32.toUInt32 31)).toInt32)) &&& ((252645135 : Int32))) + (((((((l0 - (((l0.toUInt32 >>> (((1 : Int32)).toUInt32 &&& Int32.toUInt32 31)).toInt32) &&& ((1431655765 : Int32)))) &&& ((858993459 : Int32))) + ((((l0 - (((l0.toUInt32 >>> (((1 : Int32)).toUInt32 &&& Int32.toUInt32 31)).toInt32) &&& ((1431655765 : Int32)))).toUInt32 >>> (((2 : Int32)).toUInt32 &&& Int32.toUInt32 31)).toInt32) &&& ((858993459 : Int32)))) + (((((l0 - (((l0.toUInt32 >>> (((1 : Int32)).toUInt32 &&& Int32.toUInt32 31)).toInt32) &&& ((1431655765 : Int32)))) &&& ((858993459 : Int32))) + ((((l0 - (((l0.toUInt32 >>> (((1 : Int32)).toUInt32 &&& Int32.toUInt32 31)).toInt32) &&& ((1431655765 : Int32)))).toUInt32 >>> (((2 : Int32)).toUInt32 &&& Int32.toUInt32 31)).toInt32) &&& ((858993459 : Int32)))).toUInt32 >>> (((4 : Int32)).toUInt32 &&& Int32.toUInt32 31)).toInt32)) &&& ((252645135 : Int32))).toUInt32 >>> (((8 : Int32)).toUInt32 &&& Int32.toUInt32 31)).toInt32)).toUInt32 >>> (((16 : Int32)).toUInt32 &&& Int32.toUInt32 31)).toInt32)))]) rfl (pz_dc dJ6_bitCount_0f7a4 37 rfl) (by decide) rfl ?_
  refine pz_iload_n (pc' := 49) (x := ((((((l0 - (((l0.toUInt32 >>> (((1 : Int32)).toUInt32 &&& Int32.toUInt32 31)).toInt32) &&& ((1431655765 : Int32)))) &&& ((858993459 : Int32))) + ((((l0 - (((l0.toUInt32 >>> (((1 : Int32)).toUInt32 &&& Int32.toUInt32 31)).toInt32) &&& ((1431655765 : Int32)))).toUInt32 >>> (((2 : Int32)).toUInt32 &&& Int32.toUInt32 31)).toInt32) &&& ((858993459 : Int32)))) + (((((l0 - (((l0.toUInt32 >>> (((1 : Int32)).toUInt32 &&& Int32.toUInt32 31)).toInt32) &&& ((1431655765 : Int32)))) &&& ((858993459 : Int32))) + ((((l0 - (((l0.toUInt32 >>> (((1 : Int32)).toUInt32 &&& Int32.toUInt32 31)).toInt32) &&& ((1431655765 : Int32)))).toUInt32 >>> (((2 : Int32)).toUInt32 &&& Int32.toUInt32 31)).toInt32) &&& ((858993459 : Int32)))).toUInt32 >>> (((4 : Int32)).toUInt32 &&& Int32.toUInt32 31)).toInt32)) &&& ((252645135 : Int32))) + (((((((l0 - (((l0.toUInt32 >>> (((1 : Int32)).toUInt32 &&& Int32.toUInt32 31)).toInt32) &&& ((1431655765 : Int32)))) &&& ((858993459 : Int32))) + ((((l0 - (((l0.toUInt32 >>> (((1 : Int32)).toUInt32 &&& Int32.toUInt32 31)).toInt32) &&& ((1431655765 : Int32)))).toUInt32 >>> (((2 : Int32)).toUInt32 &&& Int32.toUInt32 31)).toInt32) &&& ((858993459 : Int32)))) + (((((l0 - (((l0.toUInt32 >>> (((1 : Int32)).toUInt32 &&& Int32.toUInt32 31)).toInt32) &&& ((1431655765 : Int32)))) &&& ((858993459 : Int32))) + ((((l0 - (((l0.toUInt32 >>> (((1 : Int32)).toUInt32 &&& Int32.toUInt32 31)).toInt32) &&& ((1431655765 : Int32)))).toUInt32 >>> (((2 : Int32)).toUInt32 &&& Int32.toUInt32 31)).toInt32) &&& ((858993459 : Int32)))).toUInt32 >>> (((4 : Int32)).toUInt32 &&& Int32.toUInt32 31)).toInt32)) &&& ((252645135 : Int32))).toUInt32 >>> (((8 : Int32)).toUInt32 &&& Int32.toUInt32 31)).toInt32)) + ((((((((l0 - (((l0.toUInt32 >>> (((1 : Int32)).toUInt32 &&& Int32.toUInt32 31)).toInt32) &&& ((1431655765 : Int32)))) &&& ((858993459 : Int32))) + ((((l0 - (((l0.toUInt32 >>> (((1 : Int32)).toUInt32 &&& Int32.toUInt32 31)).toInt32) &&& ((1431655765 : Int32)))).toUInt32 >>> (((2 : Int32)).toUInt32 &&& Int32.toUInt32 31)).toInt32) &&& ((858993459 : Int32)))) + (((((l0 - (((l0.toUInt32 >>> (((1 : Int32)).toUInt32 &&& Int32.toUInt32 31)).toInt32) &&& ((1431655765 : Int32)))) &&& ((858993459 : Int32))) + ((((l0 - (((l0.toUInt32 >>> (((1 : Int32)).toUInt32 &&& Int32.toUInt32 31)).toInt32) &&& ((1431655765 : Int32)))).toUInt32 >>> (((2 : Int32)).toUInt32 &&& Int32.toUInt32 31)).toInt32) &&& ((858993459 : Int32)))).toUInt32 >>> (((4 : Int32)).toUInt32 &&& Int32.toUInt32 31)).toInt32)) &&& ((252645135 : Int32))) + (((((((l0 - (((l0.toUInt32 >>> (((1 : Int32)).toUInt32 &&& Int32.toUInt32 31)).toInt32) &&& ((1431655765 : Int32)))) &&& ((858993459 : Int32))) + ((((l0 - (((l0.toUInt32 >>> (((1 : Int32)).toUInt32 &&& Int32.toUInt32 31)).toInt32) &&& ((1431655765 : Int32)))).toUInt32 >>> (((2 : Int32)).toUInt32 &&& Int32.toUInt32 31)).toInt32) &&& ((858993459 : Int32)))) + (((((l0 - (((l0.toUInt32 >>> (((1 : Int32)).toUInt32 &&& Int32.toUInt32 31)).toInt32) &&& ((1431655765 : Int32)))) &&& ((858993459 : Int32))) + ((((l0 - (((l0.toUInt32 >>> (((1 : Int32)).toUInt32 &&& Int32.toUInt32 31)).toInt32) &&& ((1431655765 : Int32)))).toUInt32 >>> (((2 : Int32)).toUInt32 &&& Int32.toUInt32 31)).toInt32) &&& ((858993459 : Int32)))).toUInt32 >>> (((4 : Int32)).toUInt32 &&& Int32.toUInt32 31)).toInt32)) &&& ((252645135 : Int32))).toUInt32 >>> (((8 : Int32)).toUInt32 &&& Int32.toUInt32 31)).toInt32)).toUInt32 >>> (((16 : Int32)).toUInt32 &&& Int32.toUInt32 31)).toInt32)) 0 rfl (pz_dc dJ6_bitCount_0f7a4 38 rfl) rfl ?_
  refine pz_bipush (pc' := 51) (v := 63) rfl (pz_dc dJ6_bitCount_0f7a4 39 rfl) kb_63 ?_
  refine pz_iand (pc' := 52) rfl (pz_dc dJ6_bitCount_0f7a4 40 rfl) ?_
  exact pz_iret (pz_dc dJ6_bitCount_0f7a4 41 rfl) rfl hb
