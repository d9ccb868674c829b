set_option maxRecDepth 20000 in
set_option maxHeartbeats 4000000 in
theorem wX0_init_0 {Ex : State → Nat → Prop} {Q : Option Value → pz_H → Prop} {d bc bs : Nat} {l0 : Nat}  {h : pz_H} (hD : 1 ≤ d) (hb : pz_nJ h 6 (bc) (bs) (fun (a1 : Nat) (h2 : pz_H) => pz_pF h2 l0 0 0 (.ref a1) (fun (h3 : pz_H) => pz_nJ h3 6 (bc - 1) (bs - 6) (fun (a4 : Nat) (h5 : pz_H) => pz_pF h5 l0 0 1 (.ref a4) (fun (h6 : pz_H) => Q none h6))))) : pz_V mX0_init Ex Q d bc bs 0 [(0, .ref l0)] [] h := by
  refine pz_aload_n (pc' := 1) (x := l0) 0 rfl (pz_dc dX0_init 0 rfl) rfl ?_
  refine pz_obj (M := mX0_init) (pc' := 4) wX0_3 pz_oI pz_oC rfl (pz_dc dX0_init 1 rfl) (Nat.le_of_ble_eq_true rfl) (by omega) ?_
  refine pz_aload_n (pc' := 5) (x := l0) 0 rfl (pz_dc dX0_init 2 rfl) rfl ?_
  refine pz_bipush (pc' := 7) (v := 6) rfl (pz_dc dX0_init 3 rfl) kb_6 ?_
  refine pz_mkJ hb pz_ac_long (pc' := 9) rfl (pz_dc dX0_init 4 rfl) (by decide) (by decide) (by decide) (fun a1 h2 hb => ?_)
  refine pz_putv (M := mX0_init) hb pX0_9i rfl rfl (pc' := 12) rfl (pz_dc dX0_init 5 rfl) (fun h3 hb => ?_)
  refine pz_aload_n (pc' := 13) (x := l0) 0 rfl (pz_dc dX0_init 6 rfl) rfl ?_
  refine pz_bipush (pc' := 15) (v := 6) rfl (pz_dc dX0_init 7 rfl) kb_6 ?_
  refine pz_mkJ hb pz_ac_long (pc' := 17) rfl (pz_dc dX0_init 8 rfl) (by decide) (by decide) (by decide) (fun a4 h5 hb => ?_)
  refine pz_putv (M := mX0_init) hb pX0_15i rfl rfl (pc' := 20) rfl (pz_dc dX0_init 9 rfl) (fun h6 hb => ?_)
  exact pz_vret (pz_dc dX0_init 10 rfl) rfl hb
set_option maxRecDepth 20000 in
set_option maxHeartbeats 4000000 in
theorem wX0_sitOn_0 {Ex : State → Nat → Prop} {Q : Option Value → pz_H → Prop} {d bc bs : Nat} {l0 : Nat} {l1 : Int32}  {h : pz_H}  (hb : pz_V mX0_sitOn Ex Q d bc bs 2 [(0, .ref l0), (1, .int l1), (2, .int 0)] [] h) : pz_V mX0_sitOn Ex Q d bc bs 0 [(0, .ref l0), (1, .int l1)] [] h := by
  refine pz_iconst (pc' := 1) (v := 0) rfl (pz_dc dX0_sitOn 0 rfl) ki_0 ?_
  refine pz_istore_n (pc' := 2) (lv' := [(2, .int 0), (0, .ref l0), (1, .int l1)]) rfl (pz_dc dX0_sitOn 1 rfl) (by decide) rfl ?_
  refine pz_lv (lv' := [(0, .ref l0), (1, .int l1), (2, .int 0)]) [1, 2, 0] rfl ?_
  exact hb
set_option maxRecDepth 20000 in
set_option maxHeartbeats 4000000 in
theorem wX0_sitOn_2 {Ex : State → Nat → Prop} {Q : Option Value → pz_H → Prop} {d bc bs : Nat} {l0 : Nat} {l1 : Int32} {l2 : Int32}  {h : pz_H}  (hb : (((6 : Int32)) ≤ l2 → pz_pF h l0 0 2 (.long 1) (fun (h1 : pz_H) => Q none h1)) ∧ (¬ ((6 : Int32)) ≤ l2 → pz_gR h l0 0 0 (fun (a2 : Nat) => (¬ l2 = l1 → pz_sJ h a2 l2 0 (fun (h3 : pz_H) => pz_V mX0_sitOn Ex Q d bc bs 2 [(0, .ref l0), (1, .int l1), (2, .int (l2 + (1 : Int32)))] [] h3)) ∧ (l2 = l1 → pz_sJ h a2 l2 1 (fun (h4 : pz_H) => pz_V mX0_sitOn Ex Q d bc bs 2 [(0, .ref l0), (1, .int l1), (2, .int (l2 + (1 : Int32)))] [] h4))))) : pz_V mX0_sitOn Ex Q d bc bs 2 [(0, .ref l0), (1, .int l1), (2, .int l2)] [] h := by
  refine pz_iload_n (pc' := 3) (x := l2) 2 rfl (pz_dc dX0_sitOn 2 rfl) rfl ?_
  refine pz_bipush (pc' := 5) (v := 6) rfl (pz_dc dX0_sitOn 3 rfl) kb_6 ?_
  refine pz_icmp_ge (pc' := 8) (tgt := 30) rfl (pz_dc dX0_sitOn 4 rfl) (by decide) (fun hc => ?_) (fun hc => ?_)
  · replace hb := hb.1 hc
    refine pz_aload_n (pc' := 31) (x := l0) 0 rfl (pz_dc dX0_sitOn 17 rfl) rfl ?_
    refine pz_lconst (pc' := 32) (v := 1) rfl (pz_dc dX0_sitOn 18 rfl) rfl ?_
    refine pz_putv (M := mX0_sitOn) hb (pX0_18 _ rfl) rfl rfl (pc' := 35) rfl (pz_dc dX0_sitOn 19 rfl) (fun h1 hb => ?_)
    exact pz_vret (pz_dc dX0_sitOn 20 rfl) rfl hb
  · replace hb := hb.2 hc
    refine pz_aload_n (pc' := 9) (x := l0) 0 rfl (pz_dc dX0_sitOn 5 rfl) rfl ?_
    refine pz_getR (M := mX0_sitOn) hb fX0_9 (pc' := 12) rfl (pz_dc dX0_sitOn 6 rfl) (fun a2 hb => ?_)
    refine pz_iload_n (pc' := 13) (x := l2) 2 rfl (pz_dc dX0_sitOn 7 rfl) rfl ?_
    refine pz_iload_n (pc' := 14) (x := l2) 2 rfl (pz_dc dX0_sitOn 8 rfl) rfl ?_
    refine pz_iload_n (pc' := 15) (x := l1) 1 rfl (pz_dc dX0_sitOn 9 rfl) rfl ?_
    refine pz_icmp_ne (pc' := 18) (tgt := 22) rfl (pz_dc dX0_sitOn 10 rfl) (by decide) (fun hc => ?_) (fun hc => ?_)
    · replace hb := hb.1 hc
      refine pz_lconst (pc' := 23) (v := 0) rfl (pz_dc dX0_sitOn 13 rfl) rfl ?_
      refine pz_stJ hb (pc' := 24) rfl (pz_dc dX0_sitOn 14 rfl) (fun h3 hb => ?_)
      refine pz_iinc (pc' := 27) (x := l2) (v := l2 + (1 : Int32)) (lv' := [(2, .int (l2 + (1 : Int32))), (0, .ref l0), (1, .int l1)]) 2 rfl (pz_dc dX0_sitOn 15 rfl) rfl rfl (by decide) rfl ?_
      refine pz_goto (pc' := 2) (pz_dc dX0_sitOn 16 rfl) (by decide) ?_
      refine pz_lv (lv' := [(0, .ref l0), (1, .int l1), (2, .int (l2 + (1 : Int32)))]) [1, 2, 0] rfl ?_
      exact hb
    · replace hb := hb.2 hc
      refine pz_lconst (pc' := 19) (v := 1) rfl (pz_dc dX0_sitOn 11 rfl) rfl ?_
      refine pz_goto (pc' := 23) (pz_dc dX0_sitOn 12 rfl) (by decide) ?_
      refine pz_stJ hb (pc' := 24) rfl (pz_dc dX0_sitOn 14 rfl) (fun h4 hb => ?_)
      refine pz_iinc (pc' := 27) (x := l2) (v := l2 + (1 : Int32)) (lv' := [(2, .int (l2 + (1 : Int32))), (0, .ref l0), (1, .int l1)]) 2 rfl (pz_dc dX0_sitOn 15 rfl) rfl rfl (by decide) rfl ?_
      refine pz_goto (pc' := 2) (pz_dc dX0_sitOn 16 rfl) (by decide) ?_
      refine pz_lv (lv' := [(0, .ref l0), (1, .int l1), (2, .int (l2 + (1 : Int32)))]) [1, 2, 0] rfl ?_
      exact hb
set_option maxRecDepth 20000 in
set_option maxHeartbeats 4000000 in
theorem wX0_swim_0 {Ex : State → Nat → Prop} {Q : Option Value → pz_H → Prop} {d bc bs : Nat} {l0 : Nat} {l1 : Nat}  {h : pz_H} (hD : 2 ≤ d) (hb : pz_V mX0_swim Ex Q d bc bs 2 [(0, .ref l0), (1, .ref l1), (2, .int 0)] [] h) : pz_V mX0_swim Ex Q d bc bs 0 [(0, .ref l0), (1, .ref l1)] [] h := by
  refine pz_iconst (pc' := 1) (v := 0) rfl (pz_dc dX0_swim 0 rfl) ki_0 ?_
  refine pz_istore_n (pc' := 2) (lv' := [(2, .int 0), (0, .ref l0), (1, .ref l1)]) rfl (pz_dc dX0_swim 1 rfl) (by decide) rfl ?_
  refine pz_lv (lv' := [(0, .ref l0), (1, .ref l1), (2, .int 0)]) [1, 2, 0] rfl ?_
  exact hb
set_option maxRecDepth 20000 in
set_option maxHeartbeats 4000000 in
theorem wX0_swim_2 {Ex : State → Nat → Prop} {Q : Option Value → pz_H → Prop} {d bc bs : Nat} {l0 : Nat} {l1 : Nat} {l2 : Int32}  {h : pz_H} (hD : 2 ≤ d) (hb : (((6 : Int32)) ≤ l2 → pz_V mX0_swim Ex Q d bc bs 23 [(0, .ref l0), (1, .ref l1), (2, .int 0)] [] h) ∧ (¬ ((6 : Int32)) ≤ l2 → pz_gR h l0 0 1 (fun (a1 : Nat) => pz_sJ h a1 l2 0 (fun (h2 : pz_H) => pz_V mX0_swim Ex Q d bc bs 2 [(0, .ref l0), (1, .ref l1), (2, .int (l2 + (1 : Int32)))] [] h2)))) : pz_V mX0_swim Ex Q d bc bs 2 [(0, .ref l0), (1, .ref l1), (2, .int l2)] [] h := by
  refine pz_iload_n (pc' := 3) (x := l2) 2 rfl (pz_dc dX0_swim 2 rfl) rfl ?_
  refine pz_bipush (pc' := 5) (v := 6) rfl (pz_dc dX0_swim 3 rfl) kb_6 ?_
  refine pz_icmp_ge (pc' := 8) (tgt := 21) rfl (pz_dc dX0_swim 4 rfl) (by decide) (fun hc => ?_) (fun hc => ?_)
  · replace hb := hb.1 hc
    refine pz_iconst (pc' := 22) (v := 0) rfl (pz_dc dX0_swim 12 rfl) ki_0 ?_
    refine pz_istore_n (pc' := 23) (lv' := [(2, .int 0), (0, .ref l0), (1, .ref l1)]) rfl (pz_dc dX0_swim 13 rfl) (by decide) rfl ?_
    refine pz_lv (lv' := [(0, .ref l0), (1, .ref l1), (2, .int 0)]) [1, 2, 0] rfl ?_
    exact hb
  · replace hb := hb.2 hc
    refine pz_aload_n (pc' := 9) (x := l0) 0 rfl (pz_dc dX0_swim 5 rfl) rfl ?_
    refine pz_getR (M := mX0_swim) hb fX0_15 (pc' := 12) rfl (pz_dc dX0_swim 6 rfl) (fun a1 hb => ?_)
    refine pz_iload_n (pc' := 13) (x := l2) 2 rfl (pz_dc dX0_swim 7 rfl) rfl ?_
    refine pz_lconst (pc' := 14) (v := 0) rfl (pz_dc dX0_swim 8 rfl) rfl ?_
    refine pz_stJ hb (pc' := 15) rfl (pz_dc dX0_swim 9 rfl) (fun h2 hb => ?_)
    refine pz_iinc (pc' := 18) (x := l2) (v := l2 + (1 : Int32)) (lv' := [(2, .int (l2 + (1 : Int32))), (0, .ref l0), (1, .ref l1)]) 2 rfl (pz_dc dX0_swim 10 rfl) rfl rfl (by decide) rfl ?_
    refine pz_goto (pc' := 2) (pz_dc dX0_swim 11 rfl) (by decide) ?_
    refine pz_lv (lv' := [(0, .ref l0), (1, .ref l1), (2, .int (l2 + (1 : Int32)))]) [1, 2, 0] rfl ?_
    exact hb
set_option maxRecDepth 20000 in
set_option maxHeartbeats 4000000 in
theorem wX0_swim_23 {Ex : State → Nat → Prop} {Q : Option Value → pz_H → Prop} {d bc bs : Nat} {l0 : Nat} {l1 : Nat} {l2 : Int32}  {h : pz_H} (hD : 2 ≤ d) (hb : pz_is h l1 1 ∧ (pz_gI h l1 1 4 (fun (x1 : Int32) => (x1 ≤ l2 → pz_V mX0_swim Ex Q d bc bs 45 [(0, .ref l0), (2, .int 0)] [] h) ∧ (¬ x1 ≤ l2 → pz_is h l0 0 ∧ (pz_kv mX0_swimFrom 1 0 0 (.ref l0 :: [.ref l1, .int l2]) h (fun (h2 : pz_H) => pz_V mX0_swim Ex Q d bc bs 23 [(0, .ref l0), (1, .ref l1), (2, .int (l2 + (1 : Int32)))] [] h2)))))) : pz_V mX0_swim Ex Q d bc bs 23 [(0, .ref l0), (1, .ref l1), (2, .int l2)] [] h := by
  refine pz_iload_n (pc' := 24) (x := l2) 2 rfl (pz_dc dX0_swim 14 rfl) rfl ?_
  refine pz_aload_n (pc' := 25) (x := l1) 1 rfl (pz_dc dX0_swim 15 rfl) rfl ?_
  obtain ⟨⟨fs3, hf4⟩, hb⟩ := hb
  refine pz_callV (M := mX0_swim) (N := mX1_size) (d' := 0) (bc1 := 0) (bs1 := 0) (bc2 := bc) (bs2 := bs) (pc' := 28) [] vX0_22 rfl (pz_dc dX0_swim 16 rfl) rfl (Nat.le_of_ble_eq_true rfl) (Nat.le_of_ble_eq_true rfl) rfl (by omega) (by omega) (by omega) hf4 ?_
  refine pz_aload_n (pc' := 1) (x := l1) 0 rfl (pz_dc dX1_size 0 rfl) rfl ?_
  refine pz_getI (M := mX1_size) hb fX1_24 (pc' := 4) rfl (pz_dc dX1_size 1 rfl) (fun x1 hb => ?_)
  refine pz_iret (pz_dc dX1_size 2 rfl) rfl ?_
  show pz_V mX0_swim _ _ _ _ _ 28 [(0, .ref l0), (1, .ref l1), (2, .int l2)] [.int x1, .int l2] h
  refine pz_icmp_ge (pc' := 31) (tgt := 43) rfl (pz_dc dX0_swim 17 rfl) (by decide) (fun hc => ?_) (fun hc => ?_)
  · replace hb := hb.1 hc
    refine pz_iconst (pc' := 44) (v := 0) rfl (pz_dc dX0_swim 24 rfl) ki_0 ?_
    refine pz_istore_n (pc' := 45) (lv' := [(2, .int 0), (0, .ref l0), (1, .ref l1)]) rfl (pz_dc dX0_swim 25 rfl) (by decide) rfl ?_
    refine pz_lv (lv' := [(0, .ref l0), (2, .int 0)]) [1, 0] rfl ?_
    exact hb
  · replace hb := hb.2 hc
    refine pz_aload_n (pc' := 32) (x := l0) 0 rfl (pz_dc dX0_swim 18 rfl) rfl ?_
    refine pz_aload_n (pc' := 33) (x := l1) 1 rfl (pz_dc dX0_swim 19 rfl) rfl ?_
    refine pz_iload_n (pc' := 34) (x := l2) 2 rfl (pz_dc dX0_swim 20 rfl) rfl ?_
    refine pz_cVv (M := mX0_swim) (N := mX0_swimFrom) (d' := 1) (bc1 := 0) (bs1 := 0) (bc2 := bc) (bs2 := bs) (pc' := 37) [.ref l1, .int l2] hb vX0_28 rfl (pz_dc dX0_swim 21 rfl) rfl (Nat.le_of_ble_eq_true rfl) (Nat.le_of_ble_eq_true rfl) rfl (by omega) (by omega) (by omega) (fun h2 hb => ?_)
    refine pz_iinc (pc' := 40) (x := l2) (v := l2 + (1 : Int32)) (lv' := [(2, .int (l2 + (1 : Int32))), (0, .ref l0), (1, .ref l1)]) 2 rfl (pz_dc dX0_swim 22 rfl) rfl rfl (by decide) rfl ?_
    refine pz_goto (pc' := 23) (pz_dc dX0_swim 23 rfl) (by decide) ?_
    refine pz_lv (lv' := [(0, .ref l0), (1, .ref l1), (2, .int (l2 + (1 : Int32)))]) [1, 2, 0] rfl ?_
    exact hb
set_option maxRecDepth 20000 in
set_option maxHeartbeats 4000000 in
theorem wX0_swim_45 {Ex : State → Nat → Prop} {Q : Option Value → pz_H → Prop} {d bc bs : Nat} {l0 : Nat} {l2 : Int32}  {h : pz_H} (hD : 2 ≤ d) (hb : (((6 : Int32)) ≤ l2 → pz_gL h l0 0 2 (fun (x1 : Int64) => pz_pF h l0 0 2 (.long (x1 * ((60 : Int64)))) (fun (h2 : pz_H) => Q none h2))) ∧ (¬ ((6 : Int32)) ≤ l2 → pz_gR h l0 0 0 (fun (a3 : Nat) => pz_gR h l0 0 1 (fun (a4 : Nat) => pz_rJ h a4 l2 (fun (x5 : Int64) => pz_sJ h a3 l2 x5 (fun (h6 : pz_H) => pz_V mX0_swim Ex Q d bc bs 45 [(0, .ref l0), (2, .int (l2 + (1 : Int32)))] [] h6)))))) : pz_V mX0_swim Ex Q d bc bs 45 [(0, .ref l0), (2, .int l2)] [] h := by
  refine pz_iload_n (pc' := 46) (x := l2) 1 rfl (pz_dc dX0_swim 26 rfl) rfl ?_
  refine pz_bipush (pc' := 48) (v := 6) rfl (pz_dc dX0_swim 27 rfl) kb_6 ?_
  refine pz_icmp_ge (pc' := 51) (tgt := 69) rfl (pz_dc dX0_swim 28 rfl) (by decide) (fun hc => ?_) (fun hc => ?_)
  · replace hb := hb.1 hc
    refine pz_aload_n (pc' := 70) (x := l0) 0 rfl (pz_dc dX0_swim 39 rfl) rfl ?_
    refine pz_dup (pc' := 71) rfl (pz_dc dX0_swim 40 rfl) rfl ?_
    refine pz_getL (M := mX0_swim) hb fX0_18 (pc' := 74) rfl (pz_dc dX0_swim 41 rfl) (fun x1 hb => ?_)
    refine pz_ldc2 (M := mX0_swim) (pc' := 77) cX0_32 rfl (pz_dc dX0_swim 42 rfl) ?_
    refine pz_lmul (pc' := 78) rfl (pz_dc dX0_swim 43 rfl) ?_
    refine pz_putv (M := mX0_swim) hb (pX0_18 _ rfl) rfl rfl (pc' := 81) rfl (pz_dc dX0_swim 44 rfl) (fun h2 hb => ?_)
    exact pz_vret (pz_dc dX0_swim 45 rfl) rfl hb
  · replace hb := hb.2 hc
    refine pz_aload_n (pc' := 52) (x := l0) 0 rfl (pz_dc dX0_swim 29 rfl) rfl ?_
    refine pz_getR (M := mX0_swim) hb fX0_9 (pc' := 55) rfl (pz_dc dX0_swim 30 rfl) (fun a3 hb => ?_)
    refine pz_iload_n (pc' := 56) (x := l2) 1 rfl (pz_dc dX0_swim 31 rfl) rfl ?_
    refine pz_aload_n (pc' := 57) (x := l0) 0 rfl (pz_dc dX0_swim 32 rfl) rfl ?_
    refine pz_getR (M := mX0_swim) hb fX0_15 (pc' := 60) rfl (pz_dc dX0_swim 33 rfl) (fun a4 hb => ?_)
    refine pz_iload_n (pc' := 61) (x := l2) 1 rfl (pz_dc dX0_swim 34 rfl) rfl ?_
    refine pz_ldJ hb (pc' := 62) rfl (pz_dc dX0_swim 35 rfl) (fun x5 hb => ?_)
    refine pz_stJ hb (pc' := 63) rfl (pz_dc dX0_swim 36 rfl) (fun h6 hb => ?_)
    refine pz_iinc (pc' := 66) (x := l2) (v := l2 + (1 : Int32)) (lv' := [(2, .int (l2 + (1 : Int32))), (0, .ref l0)]) 1 rfl (pz_dc dX0_swim 37 rfl) rfl rfl (by decide) rfl ?_
    refine pz_goto (pc' := 45) (pz_dc dX0_swim 38 rfl) (by decide) ?_
    refine pz_lv (lv' := [(0, .ref l0), (2, .int (l2 + (1 : Int32)))]) [1, 0] rfl ?_
    exact hb
set_option maxRecDepth 20000 in
set_option maxHeartbeats 4000000 in
theorem wX0_swimFrom_0 {Ex : State → Nat → Prop} {Q : Option Value → pz_H → Prop} {d bc bs : Nat} {l0 : Nat} {l1 : Nat} {l2 : Int32}  {h : pz_H} (hD : 1 ≤ d) (hb : pz_V mX0_swimFrom Ex Q d bc bs 5 [(0, .ref l0), (1, .ref l1), (2, .int l2), (3, .int 0), (4, .int 0)] [] h) : pz_V mX0_swimFrom Ex Q d bc bs 0 [(0, .ref l0), (1, .ref l1), (2, .int l2)] [] h := by
  refine pz_iconst (pc' := 1) (v := 0) rfl (pz_dc dX0_swimFrom 0 rfl) ki_0 ?_
  refine pz_istore_n (pc' := 2) (lv' := [(3, .int 0), (0, .ref l0), (1, .ref l1), (2, .int l2)]) rfl (pz_dc dX0_swimFrom 1 rfl) (by decide) rfl ?_
  refine pz_iconst (pc' := 3) (v := 0) rfl (pz_dc dX0_swimFrom 2 rfl) ki_0 ?_
  refine pz_istore (pc' := 5) (lv' := [(4, .int 0), (3, .int 0), (0, .ref l0), (1, .ref l1), (2, .int l2)]) rfl (pz_dc dX0_swimFrom 3 rfl) (by decide) rfl ?_
  refine pz_lv (lv' := [(0, .ref l0), (1, .ref l1), (2, .int l2), (3, .int 0), (4, .int 0)]) [2, 3, 4, 1, 0] rfl ?_
  exact hb
set_option maxRecDepth 20000 in
set_option maxHeartbeats 4000000 in
theorem wX0_swimFrom_5 {Ex : State → Nat → Prop} {Q : Option Value → pz_H → Prop} {d bc bs : Nat} {l0 : Nat} {l1 : Nat} {l2 : Int32} {l3 : Int32} {l4 : Int32}  {h : pz_H} (hD : 1 ≤ d) (hb : pz_is h l1 1 ∧ (pz_gI h l1 1 4 (fun (x1 : Int32) => (x1 ≤ l4 → (¬ l3 = 0 → pz_gR h l0 0 0 (fun (a2 : Nat) => pz_rJ h a2 l2 (fun (x3 : Int64) => ¬ l3 = 0 ∧ (pz_V mX0_swimFrom Ex Q d bc bs 79 [(0, .ref l0), (1, .ref l1), (2, .int l2), (4, .long (x3 * ((((60 : Int32)) / l3).toInt64))), (6, .int 0)] [] h)))) ∧ (l3 = 0 → pz_gR h l0 0 1 (fun (a4 : Nat) => pz_rJ h a4 l2 (fun (x5 : Int64) => pz_gR h l0 0 0 (fun (a6 : Nat) => pz_rJ h a6 l2 (fun (x7 : Int64) => pz_sJ h a4 l2 (x5 + (x7 * ((60 : Int64)))) (fun (h8 : pz_H) => Q none h8))))))) ∧ (¬ x1 ≤ l4 → pz_ki mX0_isWay 0 0 0 ([.ref l1, .int l2, .int l4]) h (fun (x10 : Int32) (h9 : pz_H) => (x10 = 0 → pz_V mX0_swimFrom Ex Q d bc bs 5 [(0, .ref l0), (1, .ref l1), (2, .int l2), (3, .int (l3 + ((0 : Int32)))), (4, .int (l4 + (1 : Int32)))] [] h9) ∧ (¬ x10 = 0 → pz_V mX0_swimFrom Ex Q d bc bs 5 [(0, .ref l0), (1, .ref l1), (2, .int l2), (3, .int (l3 + ((1 : Int32)))), (4, .int (l4 + (1 : Int32)))] [] h9)))))) : pz_V mX0_swimFrom Ex Q d bc bs 5 [(0, .ref l0), (1, .ref l1), (2, .int l2), (3, .int l3), (4, .int l4)] [] h := by
  refine pz_iload (pc' := 7) (x := l4) 4 rfl (pz_dc dX0_swimFrom 4 rfl) rfl ?_
  refine pz_aload_n (pc' := 8) (x := l1) 1 rfl (pz_dc dX0_swimFrom 5 rfl) rfl ?_
  obtain ⟨⟨fs11, hf12⟩, hb⟩ := hb
  refine pz_callV (M := mX0_swimFrom) (N := mX1_size) (d' := 0) (bc1 := 0) (bs1 := 0) (bc2 := bc) (bs2 := bs) (pc' := 11) [] vX0_22 rfl (pz_dc dX0_swimFrom 6 rfl) rfl (Nat.le_of_ble_eq_true rfl) (Nat.le_of_ble_eq_true rfl) rfl (by omega) (by omega) (by omega) hf12 ?_
  refine pz_aload_n (pc' := 1) (x := l1) 0 rfl (pz_dc dX1_size 0 rfl) rfl ?_
  refine pz_getI (M := mX1_size) hb fX1_24 (pc' := 4) rfl (pz_dc dX1_size 1 rfl) (fun x1 hb => ?_)
  refine pz_iret (pz_dc dX1_size 2 rfl) rfl ?_
  show pz_V mX0_swimFrom _ _ _ _ _ 11 [(0, .ref l0), (1, .ref l1), (2, .int l2), (3, .int l3), (4, .int l4)] [.int x1, .int l4] h
  refine pz_icmp_ge (pc' := 14) (tgt := 38) rfl (pz_dc dX0_swimFrom 7 rfl) (by decide) (fun hc => ?_) (fun hc => ?_)
  · replace hb := hb.1 hc
    refine pz_iload_n (pc' := 39) (x := l3) 3 rfl (pz_dc dX0_swimFrom 21 rfl) rfl ?_
    refine pz_if_ne (pc' := 42) (tgt := 62) rfl (pz_dc dX0_swimFrom 22 rfl) (by decide) (fun hc => ?_) (fun hc => ?_)
    · replace hb := hb.1 hc
      refine pz_aload_n (pc' := 63) (x := l0) 0 rfl (pz_dc dX0_swimFrom 37 rfl) rfl ?_
      refine pz_getR (M := mX0_swimFrom) hb fX0_9 (pc' := 66) rfl (pz_dc dX0_swimFrom 38 rfl) (fun a2 hb => ?_)
      refine pz_iload_n (pc' := 67) (x := l2) 2 rfl (pz_dc dX0_swimFrom 39 rfl) rfl ?_
      refine pz_ldJ hb (pc' := 68) rfl (pz_dc dX0_swimFrom 40 rfl) (fun x3 hb => ?_)
      refine pz_bipush (pc' := 70) (v := 60) rfl (pz_dc dX0_swimFrom 41 rfl) kb_60 ?_
      refine pz_iload_n (pc' := 71) (x := l3) 3 rfl (pz_dc dX0_swimFrom 42 rfl) rfl ?_
      refine pz_idiv (pc' := 72) rfl (pz_dc dX0_swimFrom 43 rfl) hb.1 ?_
      replace hb := hb.2
      refine pz_i2l (pc' := 73) rfl (pz_dc dX0_swimFrom 44 rfl) ?_
      refine pz_lmul (pc' := 74) rfl (pz_dc dX0_swimFrom 45 rfl) ?_
      refine pz_lstore (pc' := 76) (lv' := [(4, .long (x3 * ((((60 : Int32)) / l3).toInt64))), (0, .ref l0), (1, .ref l1), (2, .int l2), (3, .int l3)]) rfl (pz_dc dX0_swimFrom 46 rfl) (by decide) rfl ?_
      refine pz_iconst (pc' := 77) (v := 0) rfl (pz_dc dX0_swimFrom 47 rfl) ki_0 ?_
      refine pz_istore (pc' := 79) (lv' := [(6, .int 0), (4, .long (x3 * ((((60 : Int32)) / l3).toInt64))), (0, .ref l0), (1, .ref l1), (2, .int l2), (3, .int l3)]) rfl (pz_dc dX0_swimFrom 48 rfl) (by decide) rfl ?_
      refine pz_lv (lv' := [(0, .ref l0), (1, .ref l1), (2, .int l2), (4, .long (x3 * ((((60 : Int32)) / l3).toInt64))), (6, .int 0)]) [2, 3, 4, 1, 0] rfl ?_
      exact hb
    · replace hb := hb.2 hc
      refine pz_aload_n (pc' := 43) (x := l0) 0 rfl (pz_dc dX0_swimFrom 23 rfl) rfl ?_
      refine pz_getR (M := mX0_swimFrom) hb fX0_15 (pc' := 46) rfl (pz_dc dX0_swimFrom 24 rfl) (fun a4 hb => ?_)
      refine pz_iload_n (pc' := 47) (x := l2) 2 rfl (pz_dc dX0_swimFrom 25 rfl) rfl ?_
      refine pz_dup2 (pc' := 48) rfl (pz_dc dX0_swimFrom 26 rfl) rfl rfl ?_
      refine pz_ldJ hb (pc' := 49) rfl (pz_dc dX0_swimFrom 27 rfl) (fun x5 hb => ?_)
      refine pz_aload_n (pc' := 50) (x := l0) 0 rfl (pz_dc dX0_swimFrom 28 rfl) rfl ?_
      refine pz_getR (M := mX0_swimFrom) hb fX0_9 (pc' := 53) rfl (pz_dc dX0_swimFrom 29 rfl) (fun a6 hb => ?_)
      refine pz_iload_n (pc' := 54) (x := l2) 2 rfl (pz_dc dX0_swimFrom 30 rfl) rfl ?_
      refine pz_ldJ hb (pc' := 55) rfl (pz_dc dX0_swimFrom 31 rfl) (fun x7 hb => ?_)
      refine pz_ldc2 (M := mX0_swimFrom) (pc' := 58) cX0_32 rfl (pz_dc dX0_swimFrom 32 rfl) ?_
      refine pz_lmul (pc' := 59) rfl (pz_dc dX0_swimFrom 33 rfl) ?_
      refine pz_ladd (pc' := 60) rfl (pz_dc dX0_swimFrom 34 rfl) ?_
      refine pz_stJ hb (pc' := 61) rfl (pz_dc dX0_swimFrom 35 rfl) (fun h8 hb => ?_)
      exact pz_vret (pz_dc dX0_swimFrom 36 rfl) rfl hb
  · replace hb := hb.2 hc
    refine pz_iload_n (pc' := 15) (x := l3) 3 rfl (pz_dc dX0_swimFrom 8 rfl) rfl ?_
    refine pz_aload_n (pc' := 16) (x := l1) 1 rfl (pz_dc dX0_swimFrom 9 rfl) rfl ?_
    refine pz_iload_n (pc' := 17) (x := l2) 2 rfl (pz_dc dX0_swimFrom 10 rfl) rfl ?_
    refine pz_iload (pc' := 19) (x := l4) 4 rfl (pz_dc dX0_swimFrom 11 rfl) rfl ?_
    refine pz_cSi (M := mX0_swimFrom) (N := mX0_isWay) (d' := 0) (bc1 := 0) (bs1 := 0) (bc2 := bc) (bs2 := bs) (pc' := 22) [.ref l1, .int l2, .int l4] hb sX0_34 rfl (pz_dc dX0_swimFrom 12 rfl) rfl (Nat.le_of_ble_eq_true rfl) (Nat.le_of_ble_eq_true rfl) rfl (by omega) (by omega) (by omega) (fun x10 h9 hb => ?_)
    refine pz_if_eq (pc' := 25) (tgt := 29) rfl (pz_dc dX0_swimFrom 13 rfl) (by decide) (fun hc => ?_) (fun hc => ?_)
    · replace hb := hb.1 hc
      refine pz_iconst (pc' := 30) (v := 0) rfl (pz_dc dX0_swimFrom 16 rfl) ki_0 ?_
      refine pz_iadd (pc' := 31) rfl (pz_dc dX0_swimFrom 17 rfl) ?_
      refine pz_istore_n (pc' := 32) (lv' := [(3, .int (l3 + ((0 : Int32)))), (0, .ref l0), (1, .ref l1), (2, .int l2), (4, .int l4)]) rfl (pz_dc dX0_swimFrom 18 rfl) (by decide) rfl ?_
      refine pz_iinc (pc' := 35) (x := l4) (v := l4 + (1 : Int32)) (lv' := [(4, .int (l4 + (1 : Int32))), (3, .int (l3 + ((0 : Int32)))), (0, .ref l0), (1, .ref l1), (2, .int l2)]) 4 rfl (pz_dc dX0_swimFrom 19 rfl) rfl rfl (by decide) rfl ?_
      refine pz_goto (pc' := 5) (pz_dc dX0_swimFrom 20 rfl) (by decide) ?_
      refine pz_lv (lv' := [(0, .ref l0), (1, .ref l1), (2, .int l2), (3, .int (l3 + ((0 : Int32)))), (4, .int (l4 + (1 : Int32)))]) [2, 3, 4, 1, 0] rfl ?_
      exact hb
    · replace hb := hb.2 hc
      refine pz_iconst (pc' := 26) (v := 1) rfl (pz_dc dX0_swimFrom 14 rfl) ki_1 ?_
      refine pz_goto (pc' := 30) (pz_dc dX0_swimFrom 15 rfl) (by decide) ?_
      refine pz_iadd (pc' := 31) rfl (pz_dc dX0_swimFrom 17 rfl) ?_
      refine pz_istore_n (pc' := 32) (lv' := [(3, .int (l3 + ((1 : Int32)))), (0, .ref l0), (1, .ref l1), (2, .int l2), (4, .int l4)]) rfl (pz_dc dX0_swimFrom 18 rfl) (by decide) rfl ?_
      refine pz_iinc (pc' := 35) (x := l4) (v := l4 + (1 : Int32)) (lv' := [(4, .int (l4 + (1 : Int32))), (3, .int (l3 + ((1 : Int32)))), (0, .ref l0), (1, .ref l1), (2, .int l2)]) 4 rfl (pz_dc dX0_swimFrom 19 rfl) rfl rfl (by decide) rfl ?_
      refine pz_goto (pc' := 5) (pz_dc dX0_swimFrom 20 rfl) (by decide) ?_
      refine pz_lv (lv' := [(0, .ref l0), (1, .ref l1), (2, .int l2), (3, .int (l3 + ((1 : Int32)))), (4, .int (l4 + (1 : Int32)))]) [2, 3, 4, 1, 0] rfl ?_
      exact hb
set_option maxRecDepth 20000 in
set_option maxHeartbeats 4000000 in
theorem wX0_swimFrom_79 {Ex : State → Nat → Prop} {Q : Option Value → pz_H → Prop} {d bc bs : Nat} {l0 : Nat} {l1 : Nat} {l2 : Int32} {l4 : Int64} {l6 : Int32}  {h : pz_H} (hD : 1 ≤ d) (hb : pz_is h l1 1 ∧ (pz_gI h l1 1 4 (fun (x1 : Int32) => (x1 ≤ l6 → Q none h) ∧ (¬ x1 ≤ l6 → pz_gR h l0 0 1 (fun (a2 : Nat) => pz_rJ h a2 l6 (fun (x3 : Int64) => pz_ki mX0_isWay 0 0 0 ([.ref l1, .int l2, .int l6]) h (fun (x5 : Int32) (h4 : pz_H) => (x5 = 0 → pz_sJ h4 a2 l6 (x3 + ((0 : Int64))) (fun (h6 : pz_H) => pz_V mX0_swimFrom Ex Q d bc bs 79 [(0, .ref l0), (1, .ref l1), (2, .int l2), (4, .long l4), (6, .int (l6 + (1 : Int32)))] [] h6)) ∧ (¬ x5 = 0 → pz_sJ h4 a2 l6 (x3 + l4) (fun (h7 : pz_H) => pz_V mX0_swimFrom Ex Q d bc bs 79 [(0, .ref l0), (1, .ref l1), (2, .int l2), (4, .long l4), (6, .int (l6 + (1 : Int32)))] [] h7))))))))) : pz_V mX0_swimFrom Ex Q d bc bs 79 [(0, .ref l0), (1, .ref l1), (2, .int l2), (4, .long l4), (6, .int l6)] [] h := by
  refine pz_iload (pc' := 81) (x := l6) 4 rfl (pz_dc dX0_swimFrom 49 rfl) rfl ?_
  refine pz_aload_n (pc' := 82) (x := l1) 1 rfl (pz_dc dX0_swimFrom 50 rfl) rfl ?_
  obtain ⟨⟨fs8, hf9⟩, hb⟩ := hb
  refine pz_callV (M := mX0_swimFrom) (N := mX1_size) (d' := 0) (bc1 := 0) (bs1 := 0) (bc2 := bc) (bs2 := bs) (pc' := 85) [] vX0_22 rfl (pz_dc dX0_swimFrom 51 rfl) rfl (Nat.le_of_ble_eq_true rfl) (Nat.le_of_ble_eq_true rfl) rfl (by omega) (by omega) (by omega) hf9 ?_
  refine pz_aload_n (pc' := 1) (x := l1) 0 rfl (pz_dc dX1_size 0 rfl) rfl ?_
  refine pz_getI (M := mX1_size) hb fX1_24 (pc' := 4) rfl (pz_dc dX1_size 1 rfl) (fun x1 hb => ?_)
  refine pz_iret (pz_dc dX1_size 2 rfl) rfl ?_
  show pz_V mX0_swimFrom _ _ _ _ _ 85 [(0, .ref l0), (1, .ref l1), (2, .int l2), (4, .long l4), (6, .int l6)] [.int x1, .int l6] h
  refine pz_icmp_ge (pc' := 88) (tgt := 120) rfl (pz_dc dX0_swimFrom 52 rfl) (by decide) (fun hc => ?_) (fun hc => ?_)
  · replace hb := hb.1 hc
    exact pz_vret (pz_dc dX0_swimFrom 70 rfl) rfl hb
  · replace hb := hb.2 hc
    refine pz_aload_n (pc' := 89) (x := l0) 0 rfl (pz_dc dX0_swimFrom 53 rfl) rfl ?_
    refine pz_getR (M := mX0_swimFrom) hb fX0_15 (pc' := 92) rfl (pz_dc dX0_swimFrom 54 rfl) (fun a2 hb => ?_)
    refine pz_iload (pc' := 94) (x := l6) 4 rfl (pz_dc dX0_swimFrom 55 rfl) rfl ?_
    refine pz_dup2 (pc' := 95) rfl (pz_dc dX0_swimFrom 56 rfl) rfl rfl ?_
    refine pz_ldJ hb (pc' := 96) rfl (pz_dc dX0_swimFrom 57 rfl) (fun x3 hb => ?_)
    refine pz_aload_n (pc' := 97) (x := l1) 1 rfl (pz_dc dX0_swimFrom 58 rfl) rfl ?_
    refine pz_iload_n (pc' := 98) (x := l2) 2 rfl (pz_dc dX0_swimFrom 59 rfl) rfl ?_
    refine pz_iload (pc' := 100) (x := l6) 4 rfl (pz_dc dX0_swimFrom 60 rfl) rfl ?_
    refine pz_cSi (M := mX0_swimFrom) (N := mX0_isWay) (d' := 0) (bc1 := 0) (bs1 := 0) (bc2 := bc) (bs2 := bs) (pc' := 103) [.ref l1, .int l2, .int l6] hb sX0_34 rfl (pz_dc dX0_swimFrom 61 rfl) rfl (Nat.le_of_ble_eq_true rfl) (Nat.le_of_ble_eq_true rfl) rfl (by omega) (by omega) (by omega) (fun x5 h4 hb => ?_)
    refine pz_if_eq (pc' := 106) (tgt := 111) rfl (pz_dc dX0_swimFrom 62 rfl) (by decide) (fun hc => ?_) (fun hc => ?_)
    · replace hb := hb.1 hc
      refine pz_lconst (pc' := 112) (v := 0) rfl (pz_dc dX0_swimFrom 65 rfl) rfl ?_
      refine pz_ladd (pc' := 113) rfl (pz_dc dX0_swimFrom 66 rfl) ?_
      refine pz_stJ hb (pc' := 114) rfl (pz_dc dX0_swimFrom 67 rfl) (fun h6 hb => ?_)
      refine pz_iinc (pc' := 117) (x := l6) (v := l6 + (1 : Int32)) (lv' := [(6, .int (l6 + (1 : Int32))), (0, .ref l0), (1, .ref l1), (2, .int l2), (4, .long l4)]) 4 rfl (pz_dc dX0_swimFrom 68 rfl) rfl rfl (by decide) rfl ?_
      refine pz_goto (pc' := 79) (pz_dc dX0_swimFrom 69 rfl) (by decide) ?_
      refine pz_lv (lv' := [(0, .ref l0), (1, .ref l1), (2, .int l2), (4, .long l4), (6, .int (l6 + (1 : Int32)))]) [1, 2, 3, 4, 0] rfl ?_
      exact hb
    · replace hb := hb.2 hc
      refine pz_lload (pc' := 108) (x := l4) 3 rfl (pz_dc dX0_swimFrom 63 rfl) rfl ?_
      refine pz_goto (pc' := 112) (pz_dc dX0_swimFrom 64 rfl) (by decide) ?_
      refine pz_ladd (pc' := 113) rfl (pz_dc dX0_swimFrom 66 rfl) ?_
      refine pz_stJ hb (pc' := 114) rfl (pz_dc dX0_swimFrom 67 rfl) (fun h7 hb => ?_)
      refine pz_iinc (pc' := 117) (x := l6) (v := l6 + (1 : Int32)) (lv' := [(6, .int (l6 + (1 : Int32))), (0, .ref l0), (1, .ref l1), (2, .int l2), (4, .long l4)]) 4 rfl (pz_dc dX0_swimFrom 68 rfl) rfl rfl (by decide) rfl ?_
      refine pz_goto (pc' := 79) (pz_dc dX0_swimFrom 69 rfl) (by decide) ?_
      refine pz_lv (lv' := [(0, .ref l0), (1, .ref l1), (2, .int l2), (4, .long l4), (6, .int (l6 + (1 : Int32)))]) [1, 2, 3, 4, 0] rfl ?_
      exact hb
set_option maxRecDepth 20000 in
set_option maxHeartbeats 4000000 in
theorem wX0_isWay_0 {Ex : State → Nat → Prop} {Q : Option Value → pz_H → Prop} {d bc bs : Nat} {l0 : Nat} {l1 : Int32} {l2 : Int32}  {h : pz_H}  (hb : pz_gR h l0 1 1 (fun (a1 : Nat) => pz_rI h a1 l1 (fun (x2 : Int32) => (x2 = l2 → Q (some (.int 1)) h) ∧ (¬ x2 = l2 → pz_gR h l0 1 1 (fun (a3 : Nat) => pz_rI h a3 l2 (fun (x4 : Int32) => (¬ x4 = l1 → Q (some (.int 0)) h) ∧ (x4 = l1 → Q (some (.int 1)) h))))))) : pz_V mX0_isWay Ex Q d bc bs 0 [(0, .ref l0), (1, .int l1), (2, .int l2)] [] h := by
  refine pz_aload_n (pc' := 1) (x := l0) 0 rfl (pz_dc dX0_isWay 0 rfl) rfl ?_
  refine pz_getR (M := mX0_isWay) hb fX0_38 (pc' := 4) rfl (pz_dc dX0_isWay 1 rfl) (fun a1 hb => ?_)
  refine pz_iload_n (pc' := 5) (x := l1) 1 rfl (pz_dc dX0_isWay 2 rfl) rfl ?_
  refine pz_ldI hb (pc' := 6) rfl (pz_dc dX0_isWay 3 rfl) (fun x2 hb => ?_)
  refine pz_iload_n (pc' := 7) (x := l2) 2 rfl (pz_dc dX0_isWay 4 rfl) rfl ?_
  refine pz_icmp_eq (pc' := 10) (tgt := 20) rfl (pz_dc dX0_isWay 5 rfl) (by decide) (fun hc => ?_) (fun hc => ?_)
  · replace hb := hb.1 hc
    refine pz_iconst (pc' := 21) (v := 1) rfl (pz_dc dX0_isWay 12 rfl) ki_1 ?_
    refine pz_goto (pc' := 25) (pz_dc dX0_isWay 13 rfl) (by decide) ?_
    exact pz_zret (pz_dc dX0_isWay 15 rfl) rfl ⟨by decide, hb⟩
  · replace hb := hb.2 hc
    refine pz_aload_n (pc' := 11) (x := l0) 0 rfl (pz_dc dX0_isWay 6 rfl) rfl ?_
    refine pz_getR (M := mX0_isWay) hb fX0_38 (pc' := 14) rfl (pz_dc dX0_isWay 7 rfl) (fun a3 hb => ?_)
    refine pz_iload_n (pc' := 15) (x := l2) 2 rfl (pz_dc dX0_isWay 8 rfl) rfl ?_
    refine pz_ldI hb (pc' := 16) rfl (pz_dc dX0_isWay 9 rfl) (fun x4 hb => ?_)
    refine pz_iload_n (pc' := 17) (x := l1) 1 rfl (pz_dc dX0_isWay 10 rfl) rfl ?_
    refine pz_icmp_ne (pc' := 20) (tgt := 24) rfl (pz_dc dX0_isWay 11 rfl) (by decide) (fun hc => ?_) (fun hc => ?_)
    · replace hb := hb.1 hc
      refine pz_iconst (pc' := 25) (v := 0) rfl (pz_dc dX0_isWay 14 rfl) ki_0 ?_
      exact pz_zret (pz_dc dX0_isWay 15 rfl) rfl ⟨by decide, hb⟩
    · replace hb := hb.2 hc
      refine pz_iconst (pc' := 21) (v := 1) rfl (pz_dc dX0_isWay 12 rfl) ki_1 ?_
      refine pz_goto (pc' := 25) (pz_dc dX0_isWay 13 rfl) (by decide) ?_
      exact pz_zret (pz_dc dX0_isWay 15 rfl) rfl ⟨by decide, hb⟩
set_option maxRecDepth 20000 in
set_option maxHeartbeats 4000000 in
theorem wX1_init_0 {Ex : State → Nat → Prop} {Q : Option Value → pz_H → Prop} {d bc bs : Nat} {l0 : Nat}  {h : pz_H} (hD : 1 ≤ d) (hb : pz_nI h 6 (bc) (bs) (fun (a1 : Nat) (h2 : pz_H) => pz_pF h2 l0 1 0 (.ref a1) (fun (h3 : pz_H) => pz_nI h3 6 (bc - 1) (bs - 6) (fun (a4 : Nat) (h5 : pz_H) => pz_pF h5 l0 1 1 (.ref a4) (fun (h6 : pz_H) => pz_nI h6 6 (bc - 1 - 1) (bs - 6 - 6) (fun (a7 : Nat) (h8 : pz_H) => pz_pF h8 l0 1 2 (.ref a7) (fun (h9 : pz_H) => pz_nI h9 6 (bc - 1 - 1 - 1) (bs - 6 - 6 - 6) (fun (a10 : Nat) (h11 : pz_H) => pz_pF h11 l0 1 3 (.ref a10) (fun (h12 : pz_H) => Q none h12))))))))) : pz_V mX1_init Ex Q d bc bs 0 [(0, .ref l0)] [] h := by
  refine pz_aload_n (pc' := 1) (x := l0) 0 rfl (pz_dc dX1_init 0 rfl) rfl ?_
  refine pz_obj (M := mX1_init) (pc' := 4) wX1_3 pz_oI pz_oC rfl (pz_dc dX1_init 1 rfl) (Nat.le_of_ble_eq_true rfl) (by omega) ?_
  refine pz_aload_n (pc' := 5) (x := l0) 0 rfl (pz_dc dX1_init 2 rfl) rfl ?_
  refine pz_bipush (pc' := 7) (v := 6) rfl (pz_dc dX1_init 3 rfl) kb_6 ?_
  refine pz_mkI hb pz_ac_int (pc' := 9) rfl (pz_dc dX1_init 4 rfl) (by decide) (by decide) (by decide) (fun a1 h2 hb => ?_)
  refine pz_putv (M := mX1_init) hb pX1_9i rfl rfl (pc' := 12) rfl (pz_dc dX1_init 5 rfl) (fun h3 hb => ?_)
  refine pz_aload_n (pc' := 13) (x := l0) 0 rfl (pz_dc dX1_init 6 rfl) rfl ?_
  refine pz_bipush (pc' := 15) (v := 6) rfl (pz_dc dX1_init 7 rfl) kb_6 ?_
  refine pz_mkI hb pz_ac_int (pc' := 17) rfl (pz_dc dX1_init 8 rfl) (by decide) (by decide) (by decide) (fun a4 h5 hb => ?_)
  refine pz_putv (M := mX1_init) hb pX1_15i rfl rfl (pc' := 20) rfl (pz_dc dX1_init 9 rfl) (fun h6 hb => ?_)
  refine pz_aload_n (pc' := 21) (x := l0) 0 rfl (pz_dc dX1_init 10 rfl) rfl ?_
  refine pz_bipush (pc' := 23) (v := 6) rfl (pz_dc dX1_init 11 rfl) kb_6 ?_
  refine pz_mkI hb pz_ac_int (pc' := 25) rfl (pz_dc dX1_init 12 rfl) (by decide) (by decide) (by decide) (fun a7 h8 hb => ?_)
  refine pz_putv (M := mX1_init) hb pX1_18i rfl rfl (pc' := 28) rfl (pz_dc dX1_init 13 rfl) (fun h9 hb => ?_)
  refine pz_aload_n (pc' := 29) (x := l0) 0 rfl (pz_dc dX1_init 14 rfl) rfl ?_
  refine pz_bipush (pc' := 31) (v := 6) rfl (pz_dc dX1_init 15 rfl) kb_6 ?_
  refine pz_mkI hb pz_ac_int (pc' := 33) rfl (pz_dc dX1_init 16 rfl) (by decide) (by decide) (by decide) (fun a10 h11 hb => ?_)
  refine pz_putv (M := mX1_init) hb pX1_21i rfl rfl (pc' := 36) rfl (pz_dc dX1_init 17 rfl) (fun h12 hb => ?_)
  exact pz_vret (pz_dc dX1_init 18 rfl) rfl hb
set_option maxRecDepth 20000 in
set_option maxHeartbeats 4000000 in
theorem wX1_size_0 {Ex : State → Nat → Prop} {Q : Option Value → pz_H → Prop} {d bc bs : Nat} {l0 : Nat}  {h : pz_H}  (hb : pz_gI h l0 1 4 (fun (x1 : Int32) => Q (some (.int x1)) h)) : pz_V mX1_size Ex Q d bc bs 0 [(0, .ref l0)] [] h := by
  refine pz_aload_n (pc' := 1) (x := l0) 0 rfl (pz_dc dX1_size 0 rfl) rfl ?_
  refine pz_getI (M := mX1_size) hb fX1_24 (pc' := 4) rfl (pz_dc dX1_size 1 rfl) (fun x1 hb => ?_)
  exact pz_iret (pz_dc dX1_size 2 rfl) rfl hb
set_option maxRecDepth 20000 in
set_option maxHeartbeats 4000000 in
theorem wX1_hasAll_0 {Ex : State → Nat → Prop} {Q : Option Value → pz_H → Prop} {d bc bs : Nat} {l0 : Nat} {l1 : Int32}  {h : pz_H} (hD : 1 ≤ d) (hb : pz_is h l0 1 ∧ (pz_gI h l0 1 4 (fun (x1 : Int32) => (¬ (l1 &&& ((eX1_all x1) ^^^ ((-1 : Int32)))) = 0 → Q (some (.int 0)) h) ∧ ((l1 &&& ((eX1_all x1) ^^^ ((-1 : Int32)))) = 0 → Q (some (.int 1)) h)))) : pz_V mX1_hasAll Ex Q d bc bs 0 [(0, .ref l0), (1, .int l1)] [] h := by
  refine pz_iload_n (pc' := 1) (x := l1) 1 rfl (pz_dc dX1_hasAll 0 rfl) rfl ?_
  refine pz_aload_n (pc' := 2) (x := l0) 0 rfl (pz_dc dX1_hasAll 1 rfl) rfl ?_
  obtain ⟨⟨fs5, hf6⟩, hb⟩ := hb
  obtain ⟨fs2, x1, g3, g4, hb⟩ := hb
  refine pz_callV (M := mX1_hasAll) (N := mX1_all) (d' := 0) (bc1 := 0) (bs1 := 0) (bc2 := bc) (bs2 := bs) (pc' := 5) [] vX1_28 rfl (pz_dc dX1_hasAll 2 rfl) rfl (Nat.le_of_ble_eq_true rfl) (Nat.le_of_ble_eq_true rfl) rfl (by omega) (by omega) (by omega) hf6 ?_
  refine cX1_all ⟨fs2, x1, g3, g4, ?_⟩
  show pz_V mX1_hasAll _ _ _ _ _ 5 [(0, .ref l0), (1, .int l1)] [.int (eX1_all x1), .int l1] h
  refine pz_iconst (pc' := 6) (v := (-1)) rfl (pz_dc dX1_hasAll 3 rfl) ki_m1 ?_
  refine pz_ixor (pc' := 7) rfl (pz_dc dX1_hasAll 4 rfl) ?_
  refine pz_iand (pc' := 8) rfl (pz_dc dX1_hasAll 5 rfl) ?_
  refine pz_if_ne (pc' := 11) (tgt := 15) rfl (pz_dc dX1_hasAll 6 rfl) (by decide) (fun hc => ?_) (fun hc => ?_)
  · replace hb := hb.1 hc
    refine pz_iconst (pc' := 16) (v := 0) rfl (pz_dc dX1_hasAll 9 rfl) ki_0 ?_
    exact pz_zret (pz_dc dX1_hasAll 10 rfl) rfl ⟨by decide, hb⟩
  · replace hb := hb.2 hc
    refine pz_iconst (pc' := 12) (v := 1) rfl (pz_dc dX1_hasAll 7 rfl) ki_1 ?_
    refine pz_goto (pc' := 16) (pz_dc dX1_hasAll 8 rfl) (by decide) ?_
    exact pz_zret (pz_dc dX1_hasAll 10 rfl) rfl ⟨by decide, hb⟩
set_option maxRecDepth 20000 in
set_option maxHeartbeats 4000000 in
theorem wX1_add_0 {Ex : State → Nat → Prop} {Q : Option Value → pz_H → Prop} {d bc bs : Nat} {l0 : Nat} {l1 : Int32} {l2 : Int32}  {h : pz_H}  (hb : pz_gI h l0 1 4 (fun (x1 : Int32) => (((6 : Int32)) ≤ x1 → Q none h) ∧ (¬ ((6 : Int32)) ≤ x1 → pz_gR h l0 1 0 (fun (a2 : Nat) => pz_gI h l0 1 4 (fun (x3 : Int32) => pz_sI h a2 x3 l1 (fun (h4 : pz_H) => pz_gR h4 l0 1 1 (fun (a5 : Nat) => pz_gI h4 l0 1 4 (fun (x6 : Int32) => pz_sI h4 a5 x6 l2 (fun (h7 : pz_H) => pz_gI h7 l0 1 4 (fun (x8 : Int32) => pz_pF h7 l0 1 4 (.int (x8 + ((1 : Int32)))) (fun (h9 : pz_H) => Q none h9))))))))))) : pz_V mX1_add Ex Q d bc bs 0 [(0, .ref l0), (1, .int l1), (2, .int l2)] [] h := by
  refine pz_aload_n (pc' := 1) (x := l0) 0 rfl (pz_dc dX1_add 0 rfl) rfl ?_
  refine pz_getI (M := mX1_add) hb fX1_24 (pc' := 4) rfl (pz_dc dX1_add 1 rfl) (fun x1 hb => ?_)
  refine pz_bipush (pc' := 6) (v := 6) rfl (pz_dc dX1_add 2 rfl) kb_6 ?_
  refine pz_icmp_ge (pc' := 9) (tgt := 39) rfl (pz_dc dX1_add 3 rfl) (by decide) (fun hc => ?_) (fun hc => ?_)
  · replace hb := hb.1 hc
    exact pz_vret (pz_dc dX1_add 22 rfl) rfl hb
  · replace hb := hb.2 hc
    refine pz_aload_n (pc' := 10) (x := l0) 0 rfl (pz_dc dX1_add 4 rfl) rfl ?_
    refine pz_getR (M := mX1_add) hb fX1_9 (pc' := 13) rfl (pz_dc dX1_add 5 rfl) (fun a2 hb => ?_)
    refine pz_aload_n (pc' := 14) (x := l0) 0 rfl (pz_dc dX1_add 6 rfl) rfl ?_
    refine pz_getI (M := mX1_add) hb fX1_24 (pc' := 17) rfl (pz_dc dX1_add 7 rfl) (fun x3 hb => ?_)
    refine pz_iload_n (pc' := 18) (x := l1) 1 rfl (pz_dc dX1_add 8 rfl) rfl ?_
    refine pz_stI hb (pc' := 19) rfl (pz_dc dX1_add 9 rfl) (fun h4 hb => ?_)
    refine pz_aload_n (pc' := 20) (x := l0) 0 rfl (pz_dc dX1_add 10 rfl) rfl ?_
    refine pz_getR (M := mX1_add) hb fX1_15 (pc' := 23) rfl (pz_dc dX1_add 11 rfl) (fun a5 hb => ?_)
    refine pz_aload_n (pc' := 24) (x := l0) 0 rfl (pz_dc dX1_add 12 rfl) rfl ?_
    refine pz_getI (M := mX1_add) hb fX1_24 (pc' := 27) rfl (pz_dc dX1_add 13 rfl) (fun x6 hb => ?_)
    refine pz_iload_n (pc' := 28) (x := l2) 2 rfl (pz_dc dX1_add 14 rfl) rfl ?_
    refine pz_stI hb (pc' := 29) rfl (pz_dc dX1_add 15 rfl) (fun h7 hb => ?_)
    refine pz_aload_n (pc' := 30) (x := l0) 0 rfl (pz_dc dX1_add 16 rfl) rfl ?_
    refine pz_dup (pc' := 31) rfl (pz_dc dX1_add 17 rfl) rfl ?_
    refine pz_getI (M := mX1_add) hb fX1_24 (pc' := 34) rfl (pz_dc dX1_add 18 rfl) (fun x8 hb => ?_)
    refine pz_iconst (pc' := 35) (v := 1) rfl (pz_dc dX1_add 19 rfl) ki_1 ?_
    refine pz_iadd (pc' := 36) rfl (pz_dc dX1_add 20 rfl) ?_
    refine pz_putv (M := mX1_add) hb (pX1_24 _ rfl) rfl rfl (pc' := 39) rfl (pz_dc dX1_add 21 rfl) (fun h9 hb => ?_)
    exact pz_vret (pz_dc dX1_add 22 rfl) rfl hb
set_option maxRecDepth 20000 in
set_option maxHeartbeats 4000000 in
theorem wX1_runOf_0 {Ex : State → Nat → Prop} {Q : Option Value → pz_H → Prop} {d bc bs : Nat} {l0 : Nat} {l1 : Nat} {l2 : Nat} {l3 : Int32}  {h : pz_H} (hD : 2 ≤ d) (hb : pz_is h l0 1 ∧ (pz_gI h l0 1 4 (fun (x1 : Int32) => ((eX1_has l3 x1) = 0 → Q (some (.int 0)) h) ∧ (¬ (eX1_has l3 x1) = 0 → pz_is h l1 8 ∧ (pz_gI h l1 8 5 (fun (x5 : Int32) => (¬ (eX9_isIn x5 l3) = 0 → pz_gR h l1 8 0 (fun (a6 : Nat) => pz_rI h a6 l3 (fun (x7 : Int32) => pz_gI h l1 8 5 (fun (x8 : Int32) => pz_ki mJ6_bitCount_0f7a4 0 0 0 ([.int x8]) h (fun (x10 : Int32) (h9 : pz_H) => pz_gR h9 l0 1 0 (fun (a11 : Nat) => pz_rI h9 a11 l3 (fun (x12 : Int32) => pz_gR h9 l1 8 1 (fun (a13 : Nat) => pz_rI h9 a13 l3 (fun (x14 : Int32) => pz_gR h9 l1 8 2 (fun (a15 : Nat) => pz_rI h9 a15 l3 (fun (x16 : Int32) => pz_gI h9 l1 8 6 (fun (x17 : Int32) => pz_is h9 l2 5 ∧ (pz_ki mX5_worth 1 0 0 (.ref l2 :: [.int x7, .int x12, .int x14, .int x16, .int x10, .int (x17 - x17 / ((7 : Int32)) * ((7 : Int32)))]) h9 (fun (x19 : Int32) (h18 : pz_H) => Q (some (.int (if ((0 : Int32)) < (if x7 < x19 then x7 else x19) then (if x7 < x19 then x7 else x19) else ((0 : Int32))))) h18)))))))))))))) ∧ ((eX9_isIn x5 l3) = 0 → Q (some (.int 0)) h))))))) : pz_V mX1_runOf Ex Q d bc bs 0 [(0, .ref l0), (1, .ref l1), (2, .ref l2), (3, .int l3)] [] h := by
  refine pz_aload_n (pc' := 1) (x := l0) 0 rfl (pz_dc dX1_runOf 0 rfl) rfl ?_
  refine pz_iload_n (pc' := 2) (x := l3) 3 rfl (pz_dc dX1_runOf 1 rfl) rfl ?_
  obtain ⟨⟨fs22, hf23⟩, hb⟩ := hb
  obtain ⟨fs2, x1, g3, g4, hb⟩ := hb
  refine pz_callV (M := mX1_runOf) (N := mX1_has) (d' := 0) (bc1 := 0) (bs1 := 0) (bc2 := bc) (bs2 := bs) (pc' := 5) [.int l3] vX1_32 rfl (pz_dc dX1_runOf 2 rfl) rfl (Nat.le_of_ble_eq_true rfl) (Nat.le_of_ble_eq_true rfl) rfl (by omega) (by omega) (by omega) hf23 ?_
  refine cX1_has ⟨fs2, x1, g3, g4, ?_⟩
  show pz_V mX1_runOf _ _ _ _ _ 5 [(0, .ref l0), (1, .ref l1), (2, .ref l2), (3, .int l3)] [.int (eX1_has l3 x1)] h
  refine pz_if_eq (pc' := 8) (tgt := 16) rfl (pz_dc dX1_runOf 3 rfl) (by decide) (fun hc => ?_) (fun hc => ?_)
  · replace hb := hb.1 hc
    refine pz_iconst (pc' := 17) (v := 0) rfl (pz_dc dX1_runOf 8 rfl) ki_0 ?_
    exact pz_iret (pz_dc dX1_runOf 9 rfl) rfl hb
  · replace hb := hb.2 hc
    refine pz_aload_n (pc' := 9) (x := l1) 1 rfl (pz_dc dX1_runOf 4 rfl) rfl ?_
    refine pz_iload_n (pc' := 10) (x := l3) 3 rfl (pz_dc dX1_runOf 5 rfl) rfl ?_
    obtain ⟨⟨fs20, hf21⟩, hb⟩ := hb
    refine pz_callV (M := mX1_runOf) (N := mX8_isOut) (d' := 1) (bc1 := 0) (bs1 := 0) (bc2 := bc) (bs2 := bs) (pc' := 13) [.int l3] vX1_36 rfl (pz_dc dX1_runOf 6 rfl) rfl (Nat.le_of_ble_eq_true rfl) (Nat.le_of_ble_eq_true rfl) rfl (by omega) (by omega) (by omega) hf21 ?_
    refine pz_aload_n (pc' := 1) (x := l1) 0 rfl (pz_dc dX8_isOut 0 rfl) rfl ?_
    refine pz_getI (M := mX8_isOut) hb fX8_33 (pc' := 4) rfl (pz_dc dX8_isOut 1 rfl) (fun x5 hb => ?_)
    refine pz_iload_n (pc' := 5) (x := l3) 1 rfl (pz_dc dX8_isOut 2 rfl) rfl ?_
    refine pz_callS (M := mX8_isOut) (N := mX9_isIn) (d' := 0) (bc1 := 0) (bs1 := 0) (bc2 := 0) (bs2 := 0) (pc' := 8) [.int x5, .int l3] sX8_46 rfl (pz_dc dX8_isOut 3 rfl) rfl (Nat.le_of_ble_eq_true rfl) (Nat.le_of_ble_eq_true rfl) rfl (by omega) (by omega) (by omega) ?_
    refine cX9_isIn ?_
    show pz_V mX8_isOut _ _ _ _ _ 8 [(0, .ref l1), (1, .int l3)] [.int (eX9_isIn x5 l3)] h
    refine pz_zret (pz_dc dX8_isOut 4 rfl) rfl ⟨zX9_isIn _ _, ?_⟩
    show pz_V mX1_runOf _ _ _ _ _ 13 [(0, .ref l0), (1, .ref l1), (2, .ref l2), (3, .int l3)] [.int (eX9_isIn x5 l3)] h
    refine pz_if_ne (pc' := 16) (tgt := 18) rfl (pz_dc dX1_runOf 7 rfl) (by decide) (fun hc => ?_) (fun hc => ?_)
    · replace hb := hb.1 hc
      refine pz_aload_n (pc' := 19) (x := l1) 1 rfl (pz_dc dX1_runOf 10 rfl) rfl ?_
      refine pz_getR (M := mX1_runOf) hb fX1_41 (pc' := 22) rfl (pz_dc dX1_runOf 11 rfl) (fun a6 hb => ?_)
      refine pz_iload_n (pc' := 23) (x := l3) 3 rfl (pz_dc dX1_runOf 12 rfl) rfl ?_
      refine pz_ldI hb (pc' := 24) rfl (pz_dc dX1_runOf 13 rfl) (fun x7 hb => ?_)
      refine pz_istore (pc' := 26) (lv' := [(4, .int x7), (0, .ref l0), (1, .ref l1), (2, .ref l2), (3, .int l3)]) rfl (pz_dc dX1_runOf 14 rfl) (by decide) rfl ?_
      refine pz_aload_n (pc' := 27) (x := l1) 2 rfl (pz_dc dX1_runOf 15 rfl) rfl ?_
      refine pz_getI (M := mX1_runOf) hb fX1_44 (pc' := 30) rfl (pz_dc dX1_runOf 16 rfl) (fun x8 hb => ?_)
      refine pz_cSi (M := mX1_runOf) (N := mJ6_bitCount_0f7a4) (d' := 0) (bc1 := 0) (bs1 := 0) (bc2 := bc) (bs2 := bs) (pc' := 33) [.int x8] hb sX1_47 rfl (pz_dc dX1_runOf 17 rfl) rfl (Nat.le_of_ble_eq_true rfl) (Nat.le_of_ble_eq_true rfl) rfl (by omega) (by omega) (by omega) (fun x10 h9 hb => ?_)
      refine pz_istore (pc' := 35) (lv' := [(5, .int x10), (4, .int x7), (0, .ref l0), (1, .ref l1), (2, .ref l2), (3, .int l3)]) rfl (pz_dc dX1_runOf 18 rfl) (by decide) rfl ?_
      refine pz_aload_n (pc' := 36) (x := l2) 4 rfl (pz_dc dX1_runOf 19 rfl) rfl ?_
      refine pz_iload (pc' := 38) (x := x7) 1 rfl (pz_dc dX1_runOf 20 rfl) rfl ?_
      refine pz_aload_n (pc' := 39) (x := l0) 2 rfl (pz_dc dX1_runOf 21 rfl) rfl ?_
      refine pz_getR (M := mX1_runOf) hb fX1_9 (pc' := 42) rfl (pz_dc dX1_runOf 22 rfl) (fun a11 hb => ?_)
      refine pz_iload_n (pc' := 43) (x := l3) 5 rfl (pz_dc dX1_runOf 23 rfl) rfl ?_
      refine pz_ldI hb (pc' := 44) rfl (pz_dc dX1_runOf 24 rfl) (fun x12 hb => ?_)
      refine pz_aload_n (pc' := 45) (x := l1) 3 rfl (pz_dc dX1_runOf 25 rfl) rfl ?_
      refine pz_getR (M := mX1_runOf) hb fX1_53 (pc' := 48) rfl (pz_dc dX1_runOf 26 rfl) (fun a13 hb => ?_)
      refine pz_iload_n (pc' := 49) (x := l3) 5 rfl (pz_dc dX1_runOf 27 rfl) rfl ?_
      refine pz_ldI hb (pc' := 50) rfl (pz_dc dX1_runOf 28 rfl) (fun x14 hb => ?_)
      refine pz_aload_n (pc' := 51) (x := l1) 3 rfl (pz_dc dX1_runOf 29 rfl) rfl ?_
      refine pz_getR (M := mX1_runOf) hb fX1_56 (pc' := 54) rfl (pz_dc dX1_runOf 30 rfl) (fun a15 hb => ?_)
      refine pz_iload_n (pc' := 55) (x := l3) 5 rfl (pz_dc dX1_runOf 31 rfl) rfl ?_
      refine pz_ldI hb (pc' := 56) rfl (pz_dc dX1_runOf 32 rfl) (fun x16 hb => ?_)
      refine pz_iload (pc' := 58) (x := x10) 0 rfl (pz_dc dX1_runOf 33 rfl) rfl ?_
      refine pz_aload_n (pc' := 59) (x := l1) 3 rfl (pz_dc dX1_runOf 34 rfl) rfl ?_
      refine pz_getI (M := mX1_runOf) hb fX1_59 (pc' := 62) rfl (pz_dc dX1_runOf 35 rfl) (fun x17 hb => ?_)
      refine pz_bipush (pc' := 64) (v := 7) rfl (pz_dc dX1_runOf 36 rfl) kb_7 ?_
      refine pz_irem (pc' := 65) rfl (pz_dc dX1_runOf 37 rfl) (by decide) ?_
      refine pz_cVi (M := mX1_runOf) (N := mX5_worth) (d' := 1) (bc1 := 0) (bs1 := 0) (bc2 := bc) (bs2 := bs) (pc' := 68) [.int x7, .int x12, .int x14, .int x16, .int x10, .int (x17 - x17 / ((7 : Int32)) * ((7 : Int32)))] hb vX1_62 rfl (pz_dc dX1_runOf 38 rfl) rfl (Nat.le_of_ble_eq_true rfl) (Nat.le_of_ble_eq_true rfl) rfl (by omega) (by omega) (by omega) (fun x19 h18 hb => ?_)
      refine pz_istore (pc' := 70) (lv' := [(6, .int x19), (5, .int x10), (4, .int x7), (0, .ref l0), (1, .ref l1), (2, .ref l2), (3, .int l3)]) rfl (pz_dc dX1_runOf 39 rfl) (by decide) rfl ?_
      refine pz_iconst (pc' := 71) (v := 0) rfl (pz_dc dX1_runOf 40 rfl) ki_0 ?_
      refine pz_iload (pc' := 73) (x := x19) 0 rfl (pz_dc dX1_runOf 41 rfl) rfl ?_
      refine pz_iload (pc' := 75) (x := x7) 2 rfl (pz_dc dX1_runOf 42 rfl) rfl ?_
      refine pz_min (M := mX1_runOf) (pc' := 78) wX1_68 rfl (pz_dc dX1_runOf 43 rfl) (Nat.le_of_ble_eq_true rfl) (by omega) ?_
      refine pz_max (M := mX1_runOf) (pc' := 81) wX1_74 rfl (pz_dc dX1_runOf 44 rfl) (Nat.le_of_ble_eq_true rfl) (by omega) ?_
      exact pz_iret (pz_dc dX1_runOf 45 rfl) rfl hb
    · replace hb := hb.2 hc
      refine pz_iconst (pc' := 17) (v := 0) rfl (pz_dc dX1_runOf 8 rfl) ki_0 ?_
      exact pz_iret (pz_dc dX1_runOf 9 rfl) rfl hb
set_option maxRecDepth 20000 in
set_option maxHeartbeats 4000000 in
theorem wX1_passDays_0 {Ex : State → Nat → Prop} {Q : Option Value → pz_H → Prop} {d bc bs : Nat} {l0 : Nat} {l1 : Nat} {l2 : Nat} {l3 : Int32}  {h : pz_H} (hD : 4 ≤ d) (hb : pz_V mX1_passDays Ex Q d bc bs 3 [(0, .ref l0), (1, .ref l1), (2, .ref l2), (3, .int l3), (4, .int 0)] [] h) : pz_V mX1_passDays Ex Q d bc bs 0 [(0, .ref l0), (1, .ref l1), (2, .ref l2), (3, .int l3)] [] h := by
  refine pz_iconst (pc' := 1) (v := 0) rfl (pz_dc dX1_passDays 0 rfl) ki_0 ?_
  refine pz_istore (pc' := 3) (lv' := [(4, .int 0), (0, .ref l0), (1, .ref l1), (2, .ref l2), (3, .int l3)]) rfl (pz_dc dX1_passDays 1 rfl) (by decide) rfl ?_
  refine pz_lv (lv' := [(0, .ref l0), (1, .ref l1), (2, .ref l2), (3, .int l3), (4, .int 0)]) [1, 2, 3, 4, 0] rfl ?_
  exact hb
set_option maxRecDepth 20000 in
set_option maxHeartbeats 4000000 in
theorem wX1_passDays_3 {Ex : State → Nat → Prop} {Q : Option Value → pz_H → Prop} {d bc bs : Nat} {l0 : Nat} {l1 : Nat} {l2 : Nat} {l3 : Int32} {l4 : Int32}  {h : pz_H} (hD : 4 ≤ d) (hb : (l3 ≤ l4 → Q none h) ∧ (¬ l3 ≤ l4 → pz_is h l0 1 ∧ (pz_kv mX1_passDay 3 0 0 (.ref l0 :: [.ref l1, .ref l2]) h (fun (h1 : pz_H) => pz_V mX1_passDays Ex Q d bc bs 3 [(0, .ref l0), (1, .ref l1), (2, .ref l2), (3, .int l3), (4, .int (l4 + (1 : Int32)))] [] h1)))) : pz_V mX1_passDays Ex Q d bc bs 3 [(0, .ref l0), (1, .ref l1), (2, .ref l2), (3, .int l3), (4, .int l4)] [] h := by
  refine pz_iload (pc' := 5) (x := l4) 4 rfl (pz_dc dX1_passDays 2 rfl) rfl ?_
  refine pz_iload_n (pc' := 6) (x := l3) 3 rfl (pz_dc dX1_passDays 3 rfl) rfl ?_
  refine pz_icmp_ge (pc' := 9) (tgt := 21) rfl (pz_dc dX1_passDays 4 rfl) (by decide) (fun hc => ?_) (fun hc => ?_)
  · replace hb := hb.1 hc
    exact pz_vret (pz_dc dX1_passDays 11 rfl) rfl hb
  · replace hb := hb.2 hc
    refine pz_aload_n (pc' := 10) (x := l0) 0 rfl (pz_dc dX1_passDays 5 rfl) rfl ?_
    refine pz_aload_n (pc' := 11) (x := l1) 1 rfl (pz_dc dX1_passDays 6 rfl) rfl ?_
    refine pz_aload_n (pc' := 12) (x := l2) 2 rfl (pz_dc dX1_passDays 7 rfl) rfl ?_
    refine pz_cVv (M := mX1_passDays) (N := mX1_passDay) (d' := 3) (bc1 := 0) (bs1 := 0) (bc2 := bc) (bs2 := bs) (pc' := 15) [.ref l1, .ref l2] hb vX1_77 rfl (pz_dc dX1_passDays 8 rfl) rfl (Nat.le_of_ble_eq_true rfl) (Nat.le_of_ble_eq_true rfl) rfl (by omega) (by omega) (by omega) (fun h1 hb => ?_)
    refine pz_iinc (pc' := 18) (x := l4) (v := l4 + (1 : Int32)) (lv' := [(4, .int (l4 + (1 : Int32))), (0, .ref l0), (1, .ref l1), (2, .ref l2), (3, .int l3)]) 4 rfl (pz_dc dX1_passDays 9 rfl) rfl rfl (by decide) rfl ?_
    refine pz_goto (pc' := 3) (pz_dc dX1_passDays 10 rfl) (by decide) ?_
    refine pz_lv (lv' := [(0, .ref l0), (1, .ref l1), (2, .ref l2), (3, .int l3), (4, .int (l4 + (1 : Int32)))]) [1, 2, 3, 4, 0] rfl ?_
    exact hb
set_option maxRecDepth 20000 in
set_option maxHeartbeats 4000000 in
theorem wX1_passDay_0 {Ex : State → Nat → Prop} {Q : Option Value → pz_H → Prop} {d bc bs : Nat} {l0 : Nat} {l1 : Nat} {l2 : Nat}  {h : pz_H} (hD : 3 ≤ d) (hb : pz_V mX1_passDay Ex Q d bc bs 2 [(0, .ref l0), (1, .ref l1), (2, .ref l2), (3, .int 0)] [] h) : pz_V mX1_passDay Ex Q d bc bs 0 [(0, .ref l0), (1, .ref l1), (2, .ref l2)] [] h := by
  refine pz_iconst (pc' := 1) (v := 0) rfl (pz_dc dX1_passDay 0 rfl) ki_0 ?_
  refine pz_istore_n (pc' := 2) (lv' := [(3, .int 0), (0, .ref l0), (1, .ref l1), (2, .ref l2)]) rfl (pz_dc dX1_passDay 1 rfl) (by decide) rfl ?_
  refine pz_lv (lv' := [(0, .ref l0), (1, .ref l1), (2, .ref l2), (3, .int 0)]) [1, 2, 3, 0] rfl ?_
  exact hb
set_option maxRecDepth 20000 in
set_option maxHeartbeats 4000000 in
theorem wX1_passDay_2 {Ex : State → Nat → Prop} {Q : Option Value → pz_H → Prop} {d bc bs : Nat} {l0 : Nat} {l1 : Nat} {l2 : Nat} {l3 : Int32}  {h : pz_H} (hD : 3 ≤ d) (hb : pz_gI h l0 1 4 (fun (x1 : Int32) => (x1 ≤ l3 → pz_V mX1_passDay Ex Q d bc bs 73 [(0, .ref l0), (1, .ref l1), (3, .int 0)] [] h) ∧ (¬ x1 ≤ l3 → pz_gR h l0 1 2 (fun (a2 : Nat) => pz_is h l0 1 ∧ (pz_ki mX1_runOf 2 0 0 (.ref l0 :: [.ref l1, .ref l2, .int l3]) h (fun (x4 : Int32) (h3 : pz_H) => pz_sI h3 a2 l3 x4 (fun (h5 : pz_H) => pz_gR h5 l1 8 0 (fun (a6 : Nat) => pz_rI h5 a6 l3 (fun (x7 : Int32) => pz_gR h5 l0 1 2 (fun (a8 : Nat) => pz_rI h5 a8 l3 (fun (x9 : Int32) => pz_gR h5 l0 1 3 (fun (a10 : Nat) => pz_gR h5 l1 8 3 (fun (a11 : Nat) => pz_rI h5 a11 l3 (fun (x12 : Int32) => pz_gR h5 l1 8 2 (fun (a13 : Nat) => pz_rI h5 a13 l3 (fun (x14 : Int32) => pz_sI h5 a10 l3 (((x7 - x9) - (if x12 < (x7 - x9) then x12 else (x7 - x9))) + x14) (fun (h15 : pz_H) => pz_V mX1_passDay Ex Q d bc bs 2 [(0, .ref l0), (1, .ref l1), (2, .ref l2), (3, .int (l3 + (1 : Int32)))] [] h15))))))))))))))))) : pz_V mX1_passDay Ex Q d bc bs 2 [(0, .ref l0), (1, .ref l1), (2, .ref l2), (3, .int l3)] [] h := by
  refine pz_iload_n (pc' := 3) (x := l3) 3 rfl (pz_dc dX1_passDay 2 rfl) rfl ?_
  refine pz_aload_n (pc' := 4) (x := l0) 0 rfl (pz_dc dX1_passDay 3 rfl) rfl ?_
  refine pz_getI (M := mX1_passDay) hb fX1_24 (pc' := 7) rfl (pz_dc dX1_passDay 4 rfl) (fun x1 hb => ?_)
  refine pz_icmp_ge (pc' := 10) (tgt := 71) rfl (pz_dc dX1_passDay 5 rfl) (by decide) (fun hc => ?_) (fun hc => ?_)
  · replace hb := hb.1 hc
    refine pz_iconst (pc' := 72) (v := 0) rfl (pz_dc dX1_passDay 44 rfl) ki_0 ?_
    refine pz_istore_n (pc' := 73) (lv' := [(3, .int 0), (0, .ref l0), (1, .ref l1), (2, .ref l2)]) rfl (pz_dc dX1_passDay 45 rfl) (by decide) rfl ?_
    refine pz_lv (lv' := [(0, .ref l0), (1, .ref l1), (3, .int 0)]) [1, 2, 0] rfl ?_
    exact hb
  · replace hb := hb.2 hc
    refine pz_aload_n (pc' := 11) (x := l0) 0 rfl (pz_dc dX1_passDay 6 rfl) rfl ?_
    refine pz_getR (M := mX1_passDay) hb fX1_18 (pc' := 14) rfl (pz_dc dX1_passDay 7 rfl) (fun a2 hb => ?_)
    refine pz_iload_n (pc' := 15) (x := l3) 3 rfl (pz_dc dX1_passDay 8 rfl) rfl ?_
    refine pz_aload_n (pc' := 16) (x := l0) 0 rfl (pz_dc dX1_passDay 9 rfl) rfl ?_
    refine pz_aload_n (pc' := 17) (x := l1) 1 rfl (pz_dc dX1_passDay 10 rfl) rfl ?_
    refine pz_aload_n (pc' := 18) (x := l2) 2 rfl (pz_dc dX1_passDay 11 rfl) rfl ?_
    refine pz_iload_n (pc' := 19) (x := l3) 3 rfl (pz_dc dX1_passDay 12 rfl) rfl ?_
    refine pz_cVi (M := mX1_passDay) (N := mX1_runOf) (d' := 2) (bc1 := 0) (bs1 := 0) (bc2 := bc) (bs2 := bs) (pc' := 22) [.ref l1, .ref l2, .int l3] hb vX1_81 rfl (pz_dc dX1_passDay 13 rfl) rfl (Nat.le_of_ble_eq_true rfl) (Nat.le_of_ble_eq_true rfl) rfl (by omega) (by omega) (by omega) (fun x4 h3 hb => ?_)
    refine pz_stI hb (pc' := 23) rfl (pz_dc dX1_passDay 14 rfl) (fun h5 hb => ?_)
    refine pz_aload_n (pc' := 24) (x := l1) 1 rfl (pz_dc dX1_passDay 15 rfl) rfl ?_
    refine pz_getR (M := mX1_passDay) hb fX1_41 (pc' := 27) rfl (pz_dc dX1_passDay 16 rfl) (fun a6 hb => ?_)
    refine pz_iload_n (pc' := 28) (x := l3) 3 rfl (pz_dc dX1_passDay 17 rfl) rfl ?_
    refine pz_ldI hb (pc' := 29) rfl (pz_dc dX1_passDay 18 rfl) (fun x7 hb => ?_)
    refine pz_aload_n (pc' := 30) (x := l0) 0 rfl (pz_dc dX1_passDay 19 rfl) rfl ?_
    refine pz_getR (M := mX1_passDay) hb fX1_18 (pc' := 33) rfl (pz_dc dX1_passDay 20 rfl) (fun a8 hb => ?_)
    refine pz_iload_n (pc' := 34) (x := l3) 3 rfl (pz_dc dX1_passDay 21 rfl) rfl ?_
    refine pz_ldI hb (pc' := 35) rfl (pz_dc dX1_passDay 22 rfl) (fun x9 hb => ?_)
    refine pz_isub (pc' := 36) rfl (pz_dc dX1_passDay 23 rfl) ?_
    refine pz_istore (pc' := 38) (lv' := [(4, .int (x7 - x9)), (0, .ref l0), (1, .ref l1), (2, .ref l2), (3, .int l3)]) rfl (pz_dc dX1_passDay 24 rfl) (by decide) rfl ?_
    refine pz_aload_n (pc' := 39) (x := l0) 1 rfl (pz_dc dX1_passDay 25 rfl) rfl ?_
    refine pz_getR (M := mX1_passDay) hb fX1_21 (pc' := 42) rfl (pz_dc dX1_passDay 26 rfl) (fun a10 hb => ?_)
    refine pz_iload_n (pc' := 43) (x := l3) 4 rfl (pz_dc dX1_passDay 27 rfl) rfl ?_
    refine pz_iload (pc' := 45) (x := x7 - x9) 0 rfl (pz_dc dX1_passDay 28 rfl) rfl ?_
    refine pz_iload (pc' := 47) (x := x7 - x9) 0 rfl (pz_dc dX1_passDay 29 rfl) rfl ?_
    refine pz_aload_n (pc' := 48) (x := l1) 2 rfl (pz_dc dX1_passDay 30 rfl) rfl ?_
    refine pz_getR (M := mX1_passDay) hb fX1_85 (pc' := 51) rfl (pz_dc dX1_passDay 31 rfl) (fun a11 hb => ?_)
    refine pz_iload_n (pc' := 52) (x := l3) 4 rfl (pz_dc dX1_passDay 32 rfl) rfl ?_
    refine pz_ldI hb (pc' := 53) rfl (pz_dc dX1_passDay 33 rfl) (fun x12 hb => ?_)
    refine pz_min (M := mX1_passDay) (pc' := 56) wX1_68 rfl (pz_dc dX1_passDay 34 rfl) (Nat.le_of_ble_eq_true rfl) (by omega) ?_
    refine pz_isub (pc' := 57) rfl (pz_dc dX1_passDay 35 rfl) ?_
    refine pz_aload_n (pc' := 58) (x := l1) 2 rfl (pz_dc dX1_passDay 36 rfl) rfl ?_
    refine pz_getR (M := mX1_passDay) hb fX1_56 (pc' := 61) rfl (pz_dc dX1_passDay 37 rfl) (fun a13 hb => ?_)
    refine pz_iload_n (pc' := 62) (x := l3) 4 rfl (pz_dc dX1_passDay 38 rfl) rfl ?_
    refine pz_ldI hb (pc' := 63) rfl (pz_dc dX1_passDay 39 rfl) (fun x14 hb => ?_)
    refine pz_iadd (pc' := 64) rfl (pz_dc dX1_passDay 40 rfl) ?_
    refine pz_stI hb (pc' := 65) rfl (pz_dc dX1_passDay 41 rfl) (fun h15 hb => ?_)
    refine pz_iinc (pc' := 68) (x := l3) (v := l3 + (1 : Int32)) (lv' := [(3, .int (l3 + (1 : Int32))), (4, .int (x7 - x9)), (0, .ref l0), (1, .ref l1), (2, .ref l2)]) 4 rfl (pz_dc dX1_passDay 42 rfl) rfl rfl (by decide) rfl ?_
    refine pz_goto (pc' := 2) (pz_dc dX1_passDay 43 rfl) (by decide) ?_
    refine pz_lv (lv' := [(0, .ref l0), (1, .ref l1), (2, .ref l2), (3, .int (l3 + (1 : Int32)))]) [2, 3, 4, 0] rfl ?_
    exact hb
set_option maxRecDepth 20000 in
set_option maxHeartbeats 4000000 in
theorem wX1_passDay_73 {Ex : State → Nat → Prop} {Q : Option Value → pz_H → Prop} {d bc bs : Nat} {l0 : Nat} {l1 : Nat} {l3 : Int32}  {h : pz_H} (hD : 3 ≤ d) (hb : pz_gI h l0 1 4 (fun (x1 : Int32) => (x1 ≤ l3 → pz_V mX1_passDay Ex Q d bc bs 122 [(0, .ref l0), (1, .ref l1), (3, .int 0)] [] h) ∧ (¬ x1 ≤ l3 → pz_gR h l0 1 1 (fun (a2 : Nat) => pz_rI h a2 l3 (fun (x3 : Int32) => pz_is h l0 1 ∧ (pz_gI h l0 1 4 (fun (x4 : Int32) => ((eX1_has x3 x4) = 0 → pz_V mX1_passDay Ex Q d bc bs 73 [(0, .ref l0), (1, .ref l1), (3, .int (l3 + (1 : Int32)))] [] h) ∧ (¬ (eX1_has x3 x4) = 0 → pz_gR h l0 1 3 (fun (a8 : Nat) => pz_gR h l0 1 1 (fun (a9 : Nat) => pz_rI h a9 l3 (fun (x10 : Int32) => pz_rI h a8 x10 (fun (x11 : Int32) => pz_gR h l0 1 2 (fun (a12 : Nat) => pz_rI h a12 l3 (fun (x13 : Int32) => pz_sI h a8 x10 (x11 + x13) (fun (h14 : pz_H) => pz_V mX1_passDay Ex Q d bc bs 73 [(0, .ref l0), (1, .ref l1), (3, .int (l3 + (1 : Int32)))] [] h14))))))))))))))) : pz_V mX1_passDay Ex Q d bc bs 73 [(0, .ref l0), (1, .ref l1), (3, .int l3)] [] h := by
  refine pz_iload_n (pc' := 74) (x := l3) 2 rfl (pz_dc dX1_passDay 46 rfl) rfl ?_
  refine pz_aload_n (pc' := 75) (x := l0) 0 rfl (pz_dc dX1_passDay 47 rfl) rfl ?_
  refine pz_getI (M := mX1_passDay) hb fX1_24 (pc' := 78) rfl (pz_dc dX1_passDay 48 rfl) (fun x1 hb => ?_)
  refine pz_icmp_ge (pc' := 81) (tgt := 120) rfl (pz_dc dX1_passDay 49 rfl) (by decide) (fun hc => ?_) (fun hc => ?_)
  · replace hb := hb.1 hc
    refine pz_iconst (pc' := 121) (v := 0) rfl (pz_dc dX1_passDay 73 rfl) ki_0 ?_
    refine pz_istore_n (pc' := 122) (lv' := [(3, .int 0), (0, .ref l0), (1, .ref l1)]) rfl (pz_dc dX1_passDay 74 rfl) (by decide) rfl ?_
    refine pz_lv (lv' := [(0, .ref l0), (1, .ref l1), (3, .int 0)]) [1, 2, 0] rfl ?_
    exact hb
  · replace hb := hb.2 hc
    refine pz_aload_n (pc' := 82) (x := l0) 0 rfl (pz_dc dX1_passDay 50 rfl) rfl ?_
    refine pz_aload_n (pc' := 83) (x := l0) 0 rfl (pz_dc dX1_passDay 51 rfl) rfl ?_
    refine pz_getR (M := mX1_passDay) hb fX1_15 (pc' := 86) rfl (pz_dc dX1_passDay 52 rfl) (fun a2 hb => ?_)
    refine pz_iload_n (pc' := 87) (x := l3) 2 rfl (pz_dc dX1_passDay 53 rfl) rfl ?_
    refine pz_ldI hb (pc' := 88) rfl (pz_dc dX1_passDay 54 rfl) (fun x3 hb => ?_)
    obtain ⟨⟨fs15, hf16⟩, hb⟩ := hb
    obtain ⟨fs5, x4, g6, g7, hb⟩ := hb
    refine pz_callV (M := mX1_passDay) (N := mX1_has) (d' := 0) (bc1 := 0) (bs1 := 0) (bc2 := bc) (bs2 := bs) (pc' := 91) [.int x3] vX1_32 rfl (pz_dc dX1_passDay 55 rfl) rfl (Nat.le_of_ble_eq_true rfl) (Nat.le_of_ble_eq_true rfl) rfl (by omega) (by omega) (by omega) hf16 ?_
    refine cX1_has ⟨fs5, x4, g6, g7, ?_⟩
    show pz_V mX1_passDay _ _ _ _ _ 91 [(0, .ref l0), (1, .ref l1), (3, .int l3)] [.int (eX1_has x3 x4)] h
    refine pz_if_eq (pc' := 94) (tgt := 114) rfl (pz_dc dX1_passDay 56 rfl) (by decide) (fun hc => ?_) (fun hc => ?_)
    · replace hb := hb.1 hc
      refine pz_iinc (pc' := 117) (x := l3) (v := l3 + (1 : Int32)) (lv' := [(3, .int (l3 + (1 : Int32))), (0, .ref l0), (1, .ref l1)]) 2 rfl (pz_dc dX1_passDay 71 rfl) rfl rfl (by decide) rfl ?_
      refine pz_goto (pc' := 73) (pz_dc dX1_passDay 72 rfl) (by decide) ?_
      refine pz_lv (lv' := [(0, .ref l0), (1, .ref l1), (3, .int (l3 + (1 : Int32)))]) [1, 2, 0] rfl ?_
      exact hb
    · replace hb := hb.2 hc
      refine pz_aload_n (pc' := 95) (x := l0) 0 rfl (pz_dc dX1_passDay 57 rfl) rfl ?_
      refine pz_getR (M := mX1_passDay) hb fX1_21 (pc' := 98) rfl (pz_dc dX1_passDay 58 rfl) (fun a8 hb => ?_)
      refine pz_aload_n (pc' := 99) (x := l0) 0 rfl (pz_dc dX1_passDay 59 rfl) rfl ?_
      refine pz_getR (M := mX1_passDay) hb fX1_15 (pc' := 102) rfl (pz_dc dX1_passDay 60 rfl) (fun a9 hb => ?_)
      refine pz_iload_n (pc' := 103) (x := l3) 2 rfl (pz_dc dX1_passDay 61 rfl) rfl ?_
      refine pz_ldI hb (pc' := 104) rfl (pz_dc dX1_passDay 62 rfl) (fun x10 hb => ?_)
      refine pz_dup2 (pc' := 105) rfl (pz_dc dX1_passDay 63 rfl) rfl rfl ?_
      refine pz_ldI hb (pc' := 106) rfl (pz_dc dX1_passDay 64 rfl) (fun x11 hb => ?_)
      refine pz_aload_n (pc' := 107) (x := l0) 0 rfl (pz_dc dX1_passDay 65 rfl) rfl ?_
      refine pz_getR (M := mX1_passDay) hb fX1_18 (pc' := 110) rfl (pz_dc dX1_passDay 66 rfl) (fun a12 hb => ?_)
      refine pz_iload_n (pc' := 111) (x := l3) 2 rfl (pz_dc dX1_passDay 67 rfl) rfl ?_
      refine pz_ldI hb (pc' := 112) rfl (pz_dc dX1_passDay 68 rfl) (fun x13 hb => ?_)
      refine pz_iadd (pc' := 113) rfl (pz_dc dX1_passDay 69 rfl) ?_
      refine pz_stI hb (pc' := 114) rfl (pz_dc dX1_passDay 70 rfl) (fun h14 hb => ?_)
      refine pz_iinc (pc' := 117) (x := l3) (v := l3 + (1 : Int32)) (lv' := [(3, .int (l3 + (1 : Int32))), (0, .ref l0), (1, .ref l1)]) 2 rfl (pz_dc dX1_passDay 71 rfl) rfl rfl (by decide) rfl ?_
      refine pz_goto (pc' := 73) (pz_dc dX1_passDay 72 rfl) (by decide) ?_
      refine pz_lv (lv' := [(0, .ref l0), (1, .ref l1), (3, .int (l3 + (1 : Int32)))]) [1, 2, 0] rfl ?_
      exact hb
set_option maxRecDepth 20000 in
set_option maxHeartbeats 4000000 in
theorem wX1_passDay_122 {Ex : State → Nat → Prop} {Q : Option Value → pz_H → Prop} {d bc bs : Nat} {l0 : Nat} {l1 : Nat} {l3 : Int32}  {h : pz_H} (hD : 3 ≤ d) (hb : pz_gI h l0 1 4 (fun (x1 : Int32) => (x1 ≤ l3 → pz_gI h l1 8 6 (fun (x2 : Int32) => pz_pF h l1 8 6 (.int (x2 + ((1 : Int32)))) (fun (h3 : pz_H) => Q none h3))) ∧ (¬ x1 ≤ l3 → pz_is h l0 1 ∧ (pz_kv mX1_endDay 2 0 0 (.ref l0 :: [.ref l1, .int l3]) h (fun (h4 : pz_H) => pz_V mX1_passDay Ex Q d bc bs 122 [(0, .ref l0), (1, .ref l1), (3, .int (l3 + (1 : Int32)))] [] h4))))) : pz_V mX1_passDay Ex Q d bc bs 122 [(0, .ref l0), (1, .ref l1), (3, .int l3)] [] h := by
  refine pz_iload_n (pc' := 123) (x := l3) 2 rfl (pz_dc dX1_passDay 75 rfl) rfl ?_
  refine pz_aload_n (pc' := 124) (x := l0) 0 rfl (pz_dc dX1_passDay 76 rfl) rfl ?_
  refine pz_getI (M := mX1_passDay) hb fX1_24 (pc' := 127) rfl (pz_dc dX1_passDay 77 rfl) (fun x1 hb => ?_)
  refine pz_icmp_ge (pc' := 130) (tgt := 142) rfl (pz_dc dX1_passDay 78 rfl) (by decide) (fun hc => ?_) (fun hc => ?_)
  · replace hb := hb.1 hc
    refine pz_aload_n (pc' := 143) (x := l1) 1 rfl (pz_dc dX1_passDay 85 rfl) rfl ?_
    refine pz_dup (pc' := 144) rfl (pz_dc dX1_passDay 86 rfl) rfl ?_
    refine pz_getI (M := mX1_passDay) hb fX1_59 (pc' := 147) rfl (pz_dc dX1_passDay 87 rfl) (fun x2 hb => ?_)
    refine pz_iconst (pc' := 148) (v := 1) rfl (pz_dc dX1_passDay 88 rfl) ki_1 ?_
    refine pz_iadd (pc' := 149) rfl (pz_dc dX1_passDay 89 rfl) ?_
    refine pz_putv (M := mX1_passDay) hb (pX1_59 _ rfl) rfl rfl (pc' := 152) rfl (pz_dc dX1_passDay 90 rfl) (fun h3 hb => ?_)
    exact pz_vret (pz_dc dX1_passDay 91 rfl) rfl hb
  · replace hb := hb.2 hc
    refine pz_aload_n (pc' := 131) (x := l0) 0 rfl (pz_dc dX1_passDay 79 rfl) rfl ?_
    refine pz_aload_n (pc' := 132) (x := l1) 1 rfl (pz_dc dX1_passDay 80 rfl) rfl ?_
    refine pz_iload_n (pc' := 133) (x := l3) 2 rfl (pz_dc dX1_passDay 81 rfl) rfl ?_
    refine pz_cVv (M := mX1_passDay) (N := mX1_endDay) (d' := 2) (bc1 := 0) (bs1 := 0) (bc2 := bc) (bs2 := bs) (pc' := 136) [.ref l1, .int l3] hb vX1_88 rfl (pz_dc dX1_passDay 82 rfl) rfl (Nat.le_of_ble_eq_true rfl) (Nat.le_of_ble_eq_true rfl) rfl (by omega) (by omega) (by omega) (fun h4 hb => ?_)
    refine pz_iinc (pc' := 139) (x := l3) (v := l3 + (1 : Int32)) (lv' := [(3, .int (l3 + (1 : Int32))), (0, .ref l0), (1, .ref l1)]) 2 rfl (pz_dc dX1_passDay 83 rfl) rfl rfl (by decide) rfl ?_
    refine pz_goto (pc' := 122) (pz_dc dX1_passDay 84 rfl) (by decide) ?_
    refine pz_lv (lv' := [(0, .ref l0), (1, .ref l1), (3, .int (l3 + (1 : Int32)))]) [1, 2, 0] rfl ?_
    exact hb
set_option maxRecDepth 20000 in
set_option maxHeartbeats 4000000 in
theorem wX1_endDay_0 {Ex : State → Nat → Prop} {Q : Option Value → pz_H → Prop} {d bc bs : Nat} {l0 : Nat} {l1 : Nat} {l2 : Int32}  {h : pz_H} (hD : 2 ≤ d) (hb : pz_gR h l0 1 3 (fun (a1 : Nat) => pz_rI h a1 l2 (fun (x2 : Int32) => pz_gR h l0 1 0 (fun (a3 : Nat) => pz_rI h a3 l2 (fun (x4 : Int32) => pz_gR h l0 1 3 (fun (a5 : Nat) => pz_rI h a5 l2 (fun (x6 : Int32) => pz_gI h l1 8 7 (fun (x7 : Int32) => pz_pF h l1 8 7 (.int (if (x7 + (if ((0 : Int32)) < (x2 - x4) then (x2 - x4) else ((0 : Int32)))) < ((9999 : Int32)) then (x7 + (if ((0 : Int32)) < (x2 - x4) then (x2 - x4) else ((0 : Int32)))) else ((9999 : Int32)))) (fun (h8 : pz_H) => pz_gR h8 l1 8 0 (fun (a9 : Nat) => pz_rI h8 a9 l2 (fun (x10 : Int32) => (x10 ≤ 0 → pz_is h8 l1 8 ∧ (pz_gI h8 l1 8 5 (fun (x11 : Int32) => ((eX9_isIn x11 l2) = 0 → pz_gR h8 l1 8 0 (fun (a12 : Nat) => pz_sI h8 a12 l2 (x6 - (if ((0 : Int32)) < (x2 - x4) then (x2 - x4) else ((0 : Int32)))) (fun (h13 : pz_H) => Q none h13))) ∧ (¬ (eX9_isIn x11 l2) = 0 → pz_gR h8 l1 8 1 (fun (a14 : Nat) => pz_gR h8 l1 8 1 (fun (a15 : Nat) => pz_rI h8 a15 l2 (fun (x16 : Int32) => pz_sI h8 a14 l2 (if (x16 + ((1 : Int32))) < ((9 : Int32)) then (x16 + ((1 : Int32))) else ((9 : Int32))) (fun (h17 : pz_H) => pz_gR h17 l1 8 0 (fun (a18 : Nat) => pz_sI h17 a18 l2 (x6 - (if ((0 : Int32)) < (x2 - x4) then (x2 - x4) else ((0 : Int32)))) (fun (h19 : pz_H) => Q none h19)))))))))) ∧ (¬ x10 ≤ 0 → (¬ (x6 - (if ((0 : Int32)) < (x2 - x4) then (x2 - x4) else ((0 : Int32)))) = 0 → pz_is h8 l1 8 ∧ (pz_gI h8 l1 8 5 (fun (x22 : Int32) => ((eX9_isIn x22 l2) = 0 → pz_gR h8 l1 8 0 (fun (a23 : Nat) => pz_sI h8 a23 l2 (x6 - (if ((0 : Int32)) < (x2 - x4) then (x2 - x4) else ((0 : Int32)))) (fun (h24 : pz_H) => Q none h24))) ∧ (¬ (eX9_isIn x22 l2) = 0 → pz_gR h8 l1 8 1 (fun (a25 : Nat) => pz_gR h8 l1 8 1 (fun (a26 : Nat) => pz_rI h8 a26 l2 (fun (x27 : Int32) => pz_sI h8 a25 l2 (if (x27 + ((1 : Int32))) < ((9 : Int32)) then (x27 + ((1 : Int32))) else ((9 : Int32))) (fun (h28 : pz_H) => pz_gR h28 l1 8 0 (fun (a29 : Nat) => pz_sI h28 a29 l2 (x6 - (if ((0 : Int32)) < (x2 - x4) then (x2 - x4) else ((0 : Int32)))) (fun (h30 : pz_H) => Q none h30)))))))))) ∧ ((x6 - (if ((0 : Int32)) < (x2 - x4) then (x2 - x4) else ((0 : Int32)))) = 0 → pz_gI h8 l1 8 8 (fun (x33 : Int32) => pz_pF h8 l1 8 8 (.int (if (x33 + ((1 : Int32))) < ((999 : Int32)) then (x33 + ((1 : Int32))) else ((999 : Int32)))) (fun (h34 : pz_H) => pz_is h34 l1 8 ∧ (pz_gI h34 l1 8 5 (fun (x35 : Int32) => ((eX9_isIn x35 l2) = 0 → pz_gR h34 l1 8 0 (fun (a36 : Nat) => pz_sI h34 a36 l2 (x6 - (if ((0 : Int32)) < (x2 - x4) then (x2 - x4) else ((0 : Int32)))) (fun (h37 : pz_H) => Q none h37))) ∧ (¬ (eX9_isIn x35 l2) = 0 → pz_gR h34 l1 8 1 (fun (a38 : Nat) => pz_gR h34 l1 8 1 (fun (a39 : Nat) => pz_rI h34 a39 l2 (fun (x40 : Int32) => pz_sI h34 a38 l2 (if (x40 + ((1 : Int32))) < ((9 : Int32)) then (x40 + ((1 : Int32))) else ((9 : Int32))) (fun (h41 : pz_H) => pz_gR h41 l1 8 0 (fun (a42 : Nat) => pz_sI h41 a42 l2 (x6 - (if ((0 : Int32)) < (x2 - x4) then (x2 - x4) else ((0 : Int32)))) (fun (h43 : pz_H) => Q none h43)))))))))))))))))))))))) : pz_V mX1_endDay Ex Q d bc bs 0 [(0, .ref l0), (1, .ref l1), (2, .int l2)] [] h := by
  refine pz_iconst (pc' := 1) (v := 0) rfl (pz_dc dX1_endDay 0 rfl) ki_0 ?_
  refine pz_aload_n (pc' := 2) (x := l0) 0 rfl (pz_dc dX1_endDay 1 rfl) rfl ?_
  refine pz_getR (M := mX1_endDay) hb fX1_21 (pc' := 5) rfl (pz_dc dX1_endDay 2 rfl) (fun a1 hb => ?_)
  refine pz_iload_n (pc' := 6) (x := l2) 2 rfl (pz_dc dX1_endDay 3 rfl) rfl ?_
  refine pz_ldI hb (pc' := 7) rfl (pz_dc dX1_endDay 4 rfl) (fun x2 hb => ?_)
  refine pz_aload_n (pc' := 8) (x := l0) 0 rfl (pz_dc dX1_endDay 5 rfl) rfl ?_
  refine pz_getR (M := mX1_endDay) hb fX1_9 (pc' := 11) rfl (pz_dc dX1_endDay 6 rfl) (fun a3 hb => ?_)
  refine pz_iload_n (pc' := 12) (x := l2) 2 rfl (pz_dc dX1_endDay 7 rfl) rfl ?_
  refine pz_ldI hb (pc' := 13) rfl (pz_dc dX1_endDay 8 rfl) (fun x4 hb => ?_)
  refine pz_isub (pc' := 14) rfl (pz_dc dX1_endDay 9 rfl) ?_
  refine pz_max (M := mX1_endDay) (pc' := 17) wX1_74 rfl (pz_dc dX1_endDay 10 rfl) (Nat.le_of_ble_eq_true rfl) (by omega) ?_
  refine pz_istore_n (pc' := 18) (lv' := [(3, .int (if ((0 : Int32)) < (x2 - x4) then (x2 - x4) else ((0 : Int32)))), (0, .ref l0), (1, .ref l1), (2, .int l2)]) rfl (pz_dc dX1_endDay 11 rfl) (by decide) rfl ?_
  refine pz_aload_n (pc' := 19) (x := l0) 1 rfl (pz_dc dX1_endDay 12 rfl) rfl ?_
  refine pz_getR (M := mX1_endDay) hb fX1_21 (pc' := 22) rfl (pz_dc dX1_endDay 13 rfl) (fun a5 hb => ?_)
  refine pz_iload_n (pc' := 23) (x := l2) 3 rfl (pz_dc dX1_endDay 14 rfl) rfl ?_
  refine pz_ldI hb (pc' := 24) rfl (pz_dc dX1_endDay 15 rfl) (fun x6 hb => ?_)
  refine pz_iload_n (pc' := 25) (x := if ((0 : Int32)) < (x2 - x4) then (x2 - x4) else ((0 : Int32))) 0 rfl (pz_dc dX1_endDay 16 rfl) rfl ?_
  refine pz_isub (pc' := 26) rfl (pz_dc dX1_endDay 17 rfl) ?_
  refine pz_istore (pc' := 28) (lv' := [(4, .int (x6 - (if ((0 : Int32)) < (x2 - x4) then (x2 - x4) else ((0 : Int32))))), (3, .int (if ((0 : Int32)) < (x2 - x4) then (x2 - x4) else ((0 : Int32)))), (0, .ref l0), (1, .ref l1), (2, .int l2)]) rfl (pz_dc dX1_endDay 18 rfl) (by decide) rfl ?_
  refine pz_aload_n (pc' := 29) (x := l1) 3 rfl (pz_dc dX1_endDay 19 rfl) rfl ?_
  refine pz_sipush (pc' := 32) (v := 9999) rfl (pz_dc dX1_endDay 20 rfl) ks_9999 ?_
  refine pz_aload_n (pc' := 33) (x := l1) 3 rfl (pz_dc dX1_endDay 21 rfl) rfl ?_
  refine pz_getI (M := mX1_endDay) hb fX1_92 (pc' := 36) rfl (pz_dc dX1_endDay 22 rfl) (fun x7 hb => ?_)
  refine pz_iload_n (pc' := 37) (x := if ((0 : Int32)) < (x2 - x4) then (x2 - x4) else ((0 : Int32))) 1 rfl (pz_dc dX1_endDay 23 rfl) rfl ?_
  refine pz_iadd (pc' := 38) rfl (pz_dc dX1_endDay 24 rfl) ?_
  refine pz_min (M := mX1_endDay) (pc' := 41) wX1_68 rfl (pz_dc dX1_endDay 25 rfl) (Nat.le_of_ble_eq_true rfl) (by omega) ?_
  refine pz_putv (M := mX1_endDay) hb (pX1_92 _ rfl) rfl rfl (pc' := 44) rfl (pz_dc dX1_endDay 26 rfl) (fun h8 hb => ?_)
  refine pz_aload_n (pc' := 45) (x := l1) 3 rfl (pz_dc dX1_endDay 27 rfl) rfl ?_
  refine pz_getR (M := mX1_endDay) hb fX1_41 (pc' := 48) rfl (pz_dc dX1_endDay 28 rfl) (fun a9 hb => ?_)
  refine pz_iload_n (pc' := 49) (x := l2) 4 rfl (pz_dc dX1_endDay 29 rfl) rfl ?_
  refine pz_ldI hb (pc' := 50) rfl (pz_dc dX1_endDay 30 rfl) (fun x10 hb => ?_)
  refine pz_if_le (pc' := 53) (tgt := 74) rfl (pz_dc dX1_endDay 31 rfl) (by decide) (fun hc => ?_) (fun hc => ?_)
  · replace hb := hb.1 hc
    refine pz_aload_n (pc' := 75) (x := l1) 3 rfl (pz_dc dX1_endDay 42 rfl) rfl ?_
    refine pz_iload_n (pc' := 76) (x := l2) 4 rfl (pz_dc dX1_endDay 43 rfl) rfl ?_
    obtain ⟨⟨fs20, hf21⟩, hb⟩ := hb
    refine pz_callV (M := mX1_endDay) (N := mX8_isOut) (d' := 1) (bc1 := 0) (bs1 := 0) (bc2 := bc) (bs2 := bs) (pc' := 79) [.int l2] vX1_36 rfl (pz_dc dX1_endDay 44 rfl) rfl (Nat.le_of_ble_eq_true rfl) (Nat.le_of_ble_eq_true rfl) rfl (by omega) (by omega) (by omega) hf21 ?_
    refine pz_aload_n (pc' := 1) (x := l1) 0 rfl (pz_dc dX8_isOut 0 rfl) rfl ?_
    refine pz_getI (M := mX8_isOut) hb fX8_33 (pc' := 4) rfl (pz_dc dX8_isOut 1 rfl) (fun x11 hb => ?_)
    refine pz_iload_n (pc' := 5) (x := l2) 1 rfl (pz_dc dX8_isOut 2 rfl) rfl ?_
    refine pz_callS (M := mX8_isOut) (N := mX9_isIn) (d' := 0) (bc1 := 0) (bs1 := 0) (bc2 := 0) (bs2 := 0) (pc' := 8) [.int x11, .int l2] sX8_46 rfl (pz_dc dX8_isOut 3 rfl) rfl (Nat.le_of_ble_eq_true rfl) (Nat.le_of_ble_eq_true rfl) rfl (by omega) (by omega) (by omega) ?_
    refine cX9_isIn ?_
    show pz_V mX8_isOut _ _ _ _ _ 8 [(0, .ref l1), (1, .int l2)] [.int (eX9_isIn x11 l2)] h8
    refine pz_zret (pz_dc dX8_isOut 4 rfl) rfl ⟨zX9_isIn _ _, ?_⟩
    show pz_V mX1_endDay _ _ _ _ _ 79 [(4, .int (x6 - (if ((0 : Int32)) < (x2 - x4) then (x2 - x4) else ((0 : Int32))))), (3, .int (if ((0 : Int32)) < (x2 - x4) then (x2 - x4) else ((0 : Int32)))), (0, .ref l0), (1, .ref l1), (2, .int l2)] [.int (eX9_isIn x11 l2)] h8
    refine pz_if_eq (pc' := 82) (tgt := 101) rfl (pz_dc dX1_endDay 45 rfl) (by decide) (fun hc => ?_) (fun hc => ?_)
    · replace hb := hb.1 hc
      refine pz_aload_n (pc' := 102) (x := l1) 3 rfl (pz_dc dX1_endDay 58 rfl) rfl ?_
      refine pz_getR (M := mX1_endDay) hb fX1_41 (pc' := 105) rfl (pz_dc dX1_endDay 59 rfl) (fun a12 hb => ?_)
      refine pz_iload_n (pc' := 106) (x := l2) 4 rfl (pz_dc dX1_endDay 60 rfl) rfl ?_
      refine pz_iload (pc' := 108) (x := x6 - (if ((0 : Int32)) < (x2 - x4) then (x2 - x4) else ((0 : Int32)))) 0 rfl (pz_dc dX1_endDay 61 rfl) rfl ?_
      refine pz_stI hb (pc' := 109) rfl (pz_dc dX1_endDay 62 rfl) (fun h13 hb => ?_)
      exact pz_vret (pz_dc dX1_endDay 63 rfl) rfl hb
    · replace hb := hb.2 hc
      refine pz_aload_n (pc' := 83) (x := l1) 3 rfl (pz_dc dX1_endDay 46 rfl) rfl ?_
      refine pz_getR (M := mX1_endDay) hb fX1_53 (pc' := 86) rfl (pz_dc dX1_endDay 47 rfl) (fun a14 hb => ?_)
      refine pz_iload_n (pc' := 87) (x := l2) 4 rfl (pz_dc dX1_endDay 48 rfl) rfl ?_
      refine pz_bipush (pc' := 89) (v := 9) rfl (pz_dc dX1_endDay 49 rfl) kb_9 ?_
      refine pz_aload_n (pc' := 90) (x := l1) 3 rfl (pz_dc dX1_endDay 50 rfl) rfl ?_
      refine pz_getR (M := mX1_endDay) hb fX1_53 (pc' := 93) rfl (pz_dc dX1_endDay 51 rfl) (fun a15 hb => ?_)
      refine pz_iload_n (pc' := 94) (x := l2) 4 rfl (pz_dc dX1_endDay 52 rfl) rfl ?_
      refine pz_ldI hb (pc' := 95) rfl (pz_dc dX1_endDay 53 rfl) (fun x16 hb => ?_)
      refine pz_iconst (pc' := 96) (v := 1) rfl (pz_dc dX1_endDay 54 rfl) ki_1 ?_
      refine pz_iadd (pc' := 97) rfl (pz_dc dX1_endDay 55 rfl) ?_
      refine pz_min (M := mX1_endDay) (pc' := 100) wX1_68 rfl (pz_dc dX1_endDay 56 rfl) (Nat.le_of_ble_eq_true rfl) (by omega) ?_
      refine pz_stI hb (pc' := 101) rfl (pz_dc dX1_endDay 57 rfl) (fun h17 hb => ?_)
      refine pz_aload_n (pc' := 102) (x := l1) 3 rfl (pz_dc dX1_endDay 58 rfl) rfl ?_
      refine pz_getR (M := mX1_endDay) hb fX1_41 (pc' := 105) rfl (pz_dc dX1_endDay 59 rfl) (fun a18 hb => ?_)
      refine pz_iload_n (pc' := 106) (x := l2) 4 rfl (pz_dc dX1_endDay 60 rfl) rfl ?_
      refine pz_iload (pc' := 108) (x := x6 - (if ((0 : Int32)) < (x2 - x4) then (x2 - x4) else ((0 : Int32)))) 0 rfl (pz_dc dX1_endDay 61 rfl) rfl ?_
      refine pz_stI hb (pc' := 109) rfl (pz_dc dX1_endDay 62 rfl) (fun h19 hb => ?_)
      exact pz_vret (pz_dc dX1_endDay 63 rfl) rfl hb
  · replace hb := hb.2 hc
    refine pz_iload (pc' := 55) (x := x6 - (if ((0 : Int32)) < (x2 - x4) then (x2 - x4) else ((0 : Int32)))) 0 rfl (pz_dc dX1_endDay 32 rfl) rfl ?_
    refine pz_if_ne (pc' := 58) (tgt := 74) rfl (pz_dc dX1_endDay 33 rfl) (by decide) (fun hc => ?_) (fun hc => ?_)
    · replace hb := hb.1 hc
      refine pz_aload_n (pc' := 75) (x := l1) 3 rfl (pz_dc dX1_endDay 42 rfl) rfl ?_
      refine pz_iload_n (pc' := 76) (x := l2) 4 rfl (pz_dc dX1_endDay 43 rfl) rfl ?_
      obtain ⟨⟨fs31, hf32⟩, hb⟩ := hb
      refine pz_callV (M := mX1_endDay) (N := mX8_isOut) (d' := 1) (bc1 := 0) (bs1 := 0) (bc2 := bc) (bs2 := bs) (pc' := 79) [.int l2] vX1_36 rfl (pz_dc dX1_endDay 44 rfl) rfl (Nat.le_of_ble_eq_true rfl) (Nat.le_of_ble_eq_true rfl) rfl (by omega) (by omega) (by omega) hf32 ?_
      refine pz_aload_n (pc' := 1) (x := l1) 0 rfl (pz_dc dX8_isOut 0 rfl) rfl ?_
      refine pz_getI (M := mX8_isOut) hb fX8_33 (pc' := 4) rfl (pz_dc dX8_isOut 1 rfl) (fun x22 hb => ?_)
      refine pz_iload_n (pc' := 5) (x := l2) 1 rfl (pz_dc dX8_isOut 2 rfl) rfl ?_
      refine pz_callS (M := mX8_isOut) (N := mX9_isIn) (d' := 0) (bc1 := 0) (bs1 := 0) (bc2 := 0) (bs2 := 0) (pc' := 8) [.int x22, .int l2] sX8_46 rfl (pz_dc dX8_isOut 3 rfl) rfl (Nat.le_of_ble_eq_true rfl) (Nat.le_of_ble_eq_true rfl) rfl (by omega) (by omega) (by omega) ?_
      refine cX9_isIn ?_
      show pz_V mX8_isOut _ _ _ _ _ 8 [(0, .ref l1), (1, .int l2)] [.int (eX9_isIn x22 l2)] h8
      refine pz_zret (pz_dc dX8_isOut 4 rfl) rfl ⟨zX9_isIn _ _, ?_⟩
      show pz_V mX1_endDay _ _ _ _ _ 79 [(4, .int (x6 - (if ((0 : Int32)) < (x2 - x4) then (x2 - x4) else ((0 : Int32))))), (3, .int (if ((0 : Int32)) < (x2 - x4) then (x2 - x4) else ((0 : Int32)))), (0, .ref l0), (1, .ref l1), (2, .int l2)] [.int (eX9_isIn x22 l2)] h8
      refine pz_if_eq (pc' := 82) (tgt := 101) rfl (pz_dc dX1_endDay 45 rfl) (by decide) (fun hc => ?_) (fun hc => ?_)
      · replace hb := hb.1 hc
        refine pz_aload_n (pc' := 102) (x := l1) 3 rfl (pz_dc dX1_endDay 58 rfl) rfl ?_
        refine pz_getR (M := mX1_endDay) hb fX1_41 (pc' := 105) rfl (pz_dc dX1_endDay 59 rfl) (fun a23 hb => ?_)
        refine pz_iload_n (pc' := 106) (x := l2) 4 rfl (pz_dc dX1_endDay 60 rfl) rfl ?_
        refine pz_iload (pc' := 108) (x := x6 - (if ((0 : Int32)) < (x2 - x4) then (x2 - x4) else ((0 : Int32)))) 0 rfl (pz_dc dX1_endDay 61 rfl) rfl ?_
        refine pz_stI hb (pc' := 109) rfl (pz_dc dX1_endDay 62 rfl) (fun h24 hb => ?_)
        exact pz_vret (pz_dc dX1_endDay 63 rfl) rfl hb
      · replace hb := hb.2 hc
        refine pz_aload_n (pc' := 83) (x := l1) 3 rfl (pz_dc dX1_endDay 46 rfl) rfl ?_
        refine pz_getR (M := mX1_endDay) hb fX1_53 (pc' := 86) rfl (pz_dc dX1_endDay 47 rfl) (fun a25 hb => ?_)
        refine pz_iload_n (pc' := 87) (x := l2) 4 rfl (pz_dc dX1_endDay 48 rfl) rfl ?_
        refine pz_bipush (pc' := 89) (v := 9) rfl (pz_dc dX1_endDay 49 rfl) kb_9 ?_
        refine pz_aload_n (pc' := 90) (x := l1) 3 rfl (pz_dc dX1_endDay 50 rfl) rfl ?_
        refine pz_getR (M := mX1_endDay) hb fX1_53 (pc' := 93) rfl (pz_dc dX1_endDay 51 rfl) (fun a26 hb => ?_)
        refine pz_iload_n (pc' := 94) (x := l2) 4 rfl (pz_dc dX1_endDay 52 rfl) rfl ?_
        refine pz_ldI hb (pc' := 95) rfl (pz_dc dX1_endDay 53 rfl) (fun x27 hb => ?_)
        refine pz_iconst (pc' := 96) (v := 1) rfl (pz_dc dX1_endDay 54 rfl) ki_1 ?_
        refine pz_iadd (pc' := 97) rfl (pz_dc dX1_endDay 55 rfl) ?_
        refine pz_min (M := mX1_endDay) (pc' := 100) wX1_68 rfl (pz_dc dX1_endDay 56 rfl) (Nat.le_of_ble_eq_true rfl) (by omega) ?_
        refine pz_stI hb (pc' := 101) rfl (pz_dc dX1_endDay 57 rfl) (fun h28 hb => ?_)
        refine pz_aload_n (pc' := 102) (x := l1) 3 rfl (pz_dc dX1_endDay 58 rfl) rfl ?_
        refine pz_getR (M := mX1_endDay) hb fX1_41 (pc' := 105) rfl (pz_dc dX1_endDay 59 rfl) (fun a29 hb => ?_)
        refine pz_iload_n (pc' := 106) (x := l2) 4 rfl (pz_dc dX1_endDay 60 rfl) rfl ?_
        refine pz_iload (pc' := 108) (x := x6 - (if ((0 : Int32)) < (x2 - x4) then (x2 - x4) else ((0 : Int32)))) 0 rfl (pz_dc dX1_endDay 61 rfl) rfl ?_
        refine pz_stI hb (pc' := 109) rfl (pz_dc dX1_endDay 62 rfl) (fun h30 hb => ?_)
        exact pz_vret (pz_dc dX1_endDay 63 rfl) rfl hb
    · replace hb := hb.2 hc
      refine pz_aload_n (pc' := 59) (x := l1) 3 rfl (pz_dc dX1_endDay 34 rfl) rfl ?_
      refine pz_sipush (pc' := 62) (v := 999) rfl (pz_dc dX1_endDay 35 rfl) ks_999 ?_
      refine pz_aload_n (pc' := 63) (x := l1) 3 rfl (pz_dc dX1_endDay 36 rfl) rfl ?_
      refine pz_getI (M := mX1_endDay) hb fX1_95 (pc' := 66) rfl (pz_dc dX1_endDay 37 rfl) (fun x33 hb => ?_)
      refine pz_iconst (pc' := 67) (v := 1) rfl (pz_dc dX1_endDay 38 rfl) ki_1 ?_
      refine pz_iadd (pc' := 68) rfl (pz_dc dX1_endDay 39 rfl) ?_
      refine pz_min (M := mX1_endDay) (pc' := 71) wX1_68 rfl (pz_dc dX1_endDay 40 rfl) (Nat.le_of_ble_eq_true rfl) (by omega) ?_
      refine pz_putv (M := mX1_endDay) hb (pX1_95 _ rfl) rfl rfl (pc' := 74) rfl (pz_dc dX1_endDay 41 rfl) (fun h34 hb => ?_)
      refine pz_aload_n (pc' := 75) (x := l1) 3 rfl (pz_dc dX1_endDay 42 rfl) rfl ?_
      refine pz_iload_n (pc' := 76) (x := l2) 4 rfl (pz_dc dX1_endDay 43 rfl) rfl ?_
      obtain ⟨⟨fs44, hf45⟩, hb⟩ := hb
      refine pz_callV (M := mX1_endDay) (N := mX8_isOut) (d' := 1) (bc1 := 0) (bs1 := 0) (bc2 := bc) (bs2 := bs) (pc' := 79) [.int l2] vX1_36 rfl (pz_dc dX1_endDay 44 rfl) rfl (Nat.le_of_ble_eq_true rfl) (Nat.le_of_ble_eq_true rfl) rfl (by omega) (by omega) (by omega) hf45 ?_
      refine pz_aload_n (pc' := 1) (x := l1) 0 rfl (pz_dc dX8_isOut 0 rfl) rfl ?_
      refine pz_getI (M := mX8_isOut) hb fX8_33 (pc' := 4) rfl (pz_dc dX8_isOut 1 rfl) (fun x35 hb => ?_)
      refine pz_iload_n (pc' := 5) (x := l2) 1 rfl (pz_dc dX8_isOut 2 rfl) rfl ?_
      refine pz_callS (M := mX8_isOut) (N := mX9_isIn) (d' := 0) (bc1 := 0) (bs1 := 0) (bc2 := 0) (bs2 := 0) (pc' := 8) [.int x35, .int l2] sX8_46 rfl (pz_dc dX8_isOut 3 rfl) rfl (Nat.le_of_ble_eq_true rfl) (Nat.le_of_ble_eq_true rfl) rfl (by omega) (by omega) (by omega) ?_
      refine cX9_isIn ?_
      show pz_V mX8_isOut _ _ _ _ _ 8 [(0, .ref l1), (1, .int l2)] [.int (eX9_isIn x35 l2)] h34
      refine pz_zret (pz_dc dX8_isOut 4 rfl) rfl ⟨zX9_isIn _ _, ?_⟩
      show pz_V mX1_endDay _ _ _ _ _ 79 [(4, .int (x6 - (if ((0 : Int32)) < (x2 - x4) then (x2 - x4) else ((0 : Int32))))), (3, .int (if ((0 : Int32)) < (x2 - x4) then (x2 - x4) else ((0 : Int32)))), (0, .ref l0), (1, .ref l1), (2, .int l2)] [.int (eX9_isIn x35 l2)] h34
      refine pz_if_eq (pc' := 82) (tgt := 101) rfl (pz_dc dX1_endDay 45 rfl) (by decide) (fun hc => ?_) (fun hc => ?_)
      · replace hb := hb.1 hc
        refine pz_aload_n (pc' := 102) (x := l1) 3 rfl (pz_dc dX1_endDay 58 rfl) rfl ?_
        refine pz_getR (M := mX1_endDay) hb fX1_41 (pc' := 105) rfl (pz_dc dX1_endDay 59 rfl) (fun a36 hb => ?_)
        refine pz_iload_n (pc' := 106) (x := l2) 4 rfl (pz_dc dX1_endDay 60 rfl) rfl ?_
        refine pz_iload (pc' := 108) (x := x6 - (if ((0 : Int32)) < (x2 - x4) then (x2 - x4) else ((0 : Int32)))) 0 rfl (pz_dc dX1_endDay 61 rfl) rfl ?_
        refine pz_stI hb (pc' := 109) rfl (pz_dc dX1_endDay 62 rfl) (fun h37 hb => ?_)
        exact pz_vret (pz_dc dX1_endDay 63 rfl) rfl hb
      · replace hb := hb.2 hc
        refine pz_aload_n (pc' := 83) (x := l1) 3 rfl (pz_dc dX1_endDay 46 rfl) rfl ?_
        refine pz_getR (M := mX1_endDay) hb fX1_53 (pc' := 86) rfl (pz_dc dX1_endDay 47 rfl) (fun a38 hb => ?_)
        refine pz_iload_n (pc' := 87) (x := l2) 4 rfl (pz_dc dX1_endDay 48 rfl) rfl ?_
        refine pz_bipush (pc' := 89) (v := 9) rfl (pz_dc dX1_endDay 49 rfl) kb_9 ?_
        refine pz_aload_n (pc' := 90) (x := l1) 3 rfl (pz_dc dX1_endDay 50 rfl) rfl ?_
        refine pz_getR (M := mX1_endDay) hb fX1_53 (pc' := 93) rfl (pz_dc dX1_endDay 51 rfl) (fun a39 hb => ?_)
        refine pz_iload_n (pc' := 94) (x := l2) 4 rfl (pz_dc dX1_endDay 52 rfl) rfl ?_
        refine pz_ldI hb (pc' := 95) rfl (pz_dc dX1_endDay 53 rfl) (fun x40 hb => ?_)
        refine pz_iconst (pc' := 96) (v := 1) rfl (pz_dc dX1_endDay 54 rfl) ki_1 ?_
        refine pz_iadd (pc' := 97) rfl (pz_dc dX1_endDay 55 rfl) ?_
        refine pz_min (M := mX1_endDay) (pc' := 100) wX1_68 rfl (pz_dc dX1_endDay 56 rfl) (Nat.le_of_ble_eq_true rfl) (by omega) ?_
        refine pz_stI hb (pc' := 101) rfl (pz_dc dX1_endDay 57 rfl) (fun h41 hb => ?_)
        refine pz_aload_n (pc' := 102) (x := l1) 3 rfl (pz_dc dX1_endDay 58 rfl) rfl ?_
        refine pz_getR (M := mX1_endDay) hb fX1_41 (pc' := 105) rfl (pz_dc dX1_endDay 59 rfl) (fun a42 hb => ?_)
        refine pz_iload_n (pc' := 106) (x := l2) 4 rfl (pz_dc dX1_endDay 60 rfl) rfl ?_
        refine pz_iload (pc' := 108) (x := x6 - (if ((0 : Int32)) < (x2 - x4) then (x2 - x4) else ((0 : Int32)))) 0 rfl (pz_dc dX1_endDay 61 rfl) rfl ?_
        refine pz_stI hb (pc' := 109) rfl (pz_dc dX1_endDay 62 rfl) (fun h43 hb => ?_)
        exact pz_vret (pz_dc dX1_endDay 63 rfl) rfl hb
set_option maxRecDepth 20000 in
set_option maxHeartbeats 4000000 in
theorem wX1_total_0 {Ex : State → Nat → Prop} {Q : Option Value → pz_H → Prop} {d bc bs : Nat} {l0 : Nat} {l1 : Nat}  {h : pz_H} (hD : 2 ≤ d) (hb : pz_is h l0 1 ∧ (pz_gI h l0 1 4 (fun (x1 : Int32) => pz_is h l0 1 ∧ (pz_ki mX1_totalOf 1 0 0 (.ref l0 :: [.ref l1, .int (eX1_all x1)]) h (fun (x6 : Int32) (h5 : pz_H) => Q (some (.int x6)) h5))))) : pz_V mX1_total Ex Q d bc bs 0 [(0, .ref l0), (1, .ref l1)] [] h := by
  refine pz_aload_n (pc' := 1) (x := l0) 0 rfl (pz_dc dX1_total 0 rfl) rfl ?_
  refine pz_aload_n (pc' := 2) (x := l1) 1 rfl (pz_dc dX1_total 1 rfl) rfl ?_
  refine pz_aload_n (pc' := 3) (x := l0) 0 rfl (pz_dc dX1_total 2 rfl) rfl ?_
  obtain ⟨⟨fs7, hf8⟩, hb⟩ := hb
  obtain ⟨fs2, x1, g3, g4, hb⟩ := hb
  refine pz_callV (M := mX1_total) (N := mX1_all) (d' := 0) (bc1 := 0) (bs1 := 0) (bc2 := bc) (bs2 := bs) (pc' := 6) [] vX1_28 rfl (pz_dc dX1_total 3 rfl) rfl (Nat.le_of_ble_eq_true rfl) (Nat.le_of_ble_eq_true rfl) rfl (by omega) (by omega) (by omega) hf8 ?_
  refine cX1_all ⟨fs2, x1, g3, g4, ?_⟩
  show pz_V mX1_total _ _ _ _ _ 6 [(0, .ref l0), (1, .ref l1)] [.int (eX1_all x1), .ref l1, .ref l0] h
  refine pz_cVi (M := mX1_total) (N := mX1_totalOf) (d' := 1) (bc1 := 0) (bs1 := 0) (bc2 := bc) (bs2 := bs) (pc' := 9) [.ref l1, .int (eX1_all x1)] hb vX1_98 rfl (pz_dc dX1_total 4 rfl) rfl (Nat.le_of_ble_eq_true rfl) (Nat.le_of_ble_eq_true rfl) rfl (by omega) (by omega) (by omega) (fun x6 h5 hb => ?_)
  exact pz_iret (pz_dc dX1_total 5 rfl) rfl hb
set_option maxRecDepth 20000 in
set_option maxHeartbeats 4000000 in
theorem wX1_totalOf_0 {Ex : State → Nat → Prop} {Q : Option Value → pz_H → Prop} {d bc bs : Nat} {l0 : Nat} {l1 : Nat} {l2 : Int32}  {h : pz_H} (hD : 1 ≤ d) (hb : pz_V mX1_totalOf Ex Q d bc bs 5 [(0, .ref l0), (1, .ref l1), (2, .int l2), (3, .int 0), (4, .int 0)] [] h) : pz_V mX1_totalOf Ex Q d bc bs 0 [(0, .ref l0), (1, .ref l1), (2, .int l2)] [] h := by
  refine pz_iconst (pc' := 1) (v := 0) rfl (pz_dc dX1_totalOf 0 rfl) ki_0 ?_
  refine pz_istore_n (pc' := 2) (lv' := [(3, .int 0), (0, .ref l0), (1, .ref l1), (2, .int l2)]) rfl (pz_dc dX1_totalOf 1 rfl) (by decide) rfl ?_
  refine pz_iconst (pc' := 3) (v := 0) rfl (pz_dc dX1_totalOf 2 rfl) ki_0 ?_
  refine pz_istore (pc' := 5) (lv' := [(4, .int 0), (3, .int 0), (0, .ref l0), (1, .ref l1), (2, .int l2)]) rfl (pz_dc dX1_totalOf 3 rfl) (by decide) rfl ?_
  refine pz_lv (lv' := [(0, .ref l0), (1, .ref l1), (2, .int l2), (3, .int 0), (4, .int 0)]) [2, 3, 4, 1, 0] rfl ?_
  exact hb
set_option maxRecDepth 20000 in
set_option maxHeartbeats 4000000 in
theorem wX1_totalOf_5 {Ex : State → Nat → Prop} {Q : Option Value → pz_H → Prop} {d bc bs : Nat} {l0 : Nat} {l1 : Nat} {l2 : Int32} {l3 : Int32} {l4 : Int32}  {h : pz_H} (hD : 1 ≤ d) (hb : pz_gI h l0 1 4 (fun (x1 : Int32) => (x1 ≤ l4 → Q (some (.int l3)) h) ∧ (¬ x1 ≤ l4 → ((eX9_isIn l2 l4) = 0 → pz_V mX1_totalOf Ex Q d bc bs 5 [(0, .ref l0), (1, .ref l1), (2, .int l2), (3, .int (l3 + ((0 : Int32)))), (4, .int (l4 + (1 : Int32)))] [] h) ∧ (¬ (eX9_isIn l2 l4) = 0 → pz_gR h l1 8 0 (fun (a2 : Nat) => pz_rI h a2 l4 (fun (x3 : Int32) => pz_V mX1_totalOf Ex Q d bc bs 5 [(0, .ref l0), (1, .ref l1), (2, .int l2), (3, .int (l3 + x3)), (4, .int (l4 + (1 : Int32)))] [] h)))))) : pz_V mX1_totalOf Ex Q d bc bs 5 [(0, .ref l0), (1, .ref l1), (2, .int l2), (3, .int l3), (4, .int l4)] [] h := by
  refine pz_iload (pc' := 7) (x := l4) 4 rfl (pz_dc dX1_totalOf 4 rfl) rfl ?_
  refine pz_aload_n (pc' := 8) (x := l0) 0 rfl (pz_dc dX1_totalOf 5 rfl) rfl ?_
  refine pz_getI (M := mX1_totalOf) hb fX1_24 (pc' := 11) rfl (pz_dc dX1_totalOf 6 rfl) (fun x1 hb => ?_)
  refine pz_icmp_ge (pc' := 14) (tgt := 43) rfl (pz_dc dX1_totalOf 7 rfl) (by decide) (fun hc => ?_) (fun hc => ?_)
  · replace hb := hb.1 hc
    refine pz_iload_n (pc' := 44) (x := l3) 3 rfl (pz_dc dX1_totalOf 23 rfl) rfl ?_
    exact pz_iret (pz_dc dX1_totalOf 24 rfl) rfl hb
  · replace hb := hb.2 hc
    refine pz_iload_n (pc' := 15) (x := l3) 3 rfl (pz_dc dX1_totalOf 8 rfl) rfl ?_
    refine pz_iload_n (pc' := 16) (x := l2) 2 rfl (pz_dc dX1_totalOf 9 rfl) rfl ?_
    refine pz_iload (pc' := 18) (x := l4) 4 rfl (pz_dc dX1_totalOf 10 rfl) rfl ?_
    refine pz_callS (M := mX1_totalOf) (N := mX9_isIn) (d' := 0) (bc1 := 0) (bs1 := 0) (bc2 := bc) (bs2 := bs) (pc' := 21) [.int l2, .int l4] sX1_102 rfl (pz_dc dX1_totalOf 11 rfl) rfl (Nat.le_of_ble_eq_true rfl) (Nat.le_of_ble_eq_true rfl) rfl (by omega) (by omega) (by omega) ?_
    refine cX9_isIn ?_
    show pz_V mX1_totalOf _ _ _ _ _ 21 [(0, .ref l0), (1, .ref l1), (2, .int l2), (3, .int l3), (4, .int l4)] [.int (eX9_isIn l2 l4), .int l3] h
    refine pz_if_eq (pc' := 24) (tgt := 34) rfl (pz_dc dX1_totalOf 12 rfl) (by decide) (fun hc => ?_) (fun hc => ?_)
    · replace hb := hb.1 hc
      refine pz_iconst (pc' := 35) (v := 0) rfl (pz_dc dX1_totalOf 18 rfl) ki_0 ?_
      refine pz_iadd (pc' := 36) rfl (pz_dc dX1_totalOf 19 rfl) ?_
      refine pz_istore_n (pc' := 37) (lv' := [(3, .int (l3 + ((0 : Int32)))), (0, .ref l0), (1, .ref l1), (2, .int l2), (4, .int l4)]) rfl (pz_dc dX1_totalOf 20 rfl) (by decide) rfl ?_
      refine pz_iinc (pc' := 40) (x := l4) (v := l4 + (1 : Int32)) (lv' := [(4, .int (l4 + (1 : Int32))), (3, .int (l3 + ((0 : Int32)))), (0, .ref l0), (1, .ref l1), (2, .int l2)]) 4 rfl (pz_dc dX1_totalOf 21 rfl) rfl rfl (by decide) rfl ?_
      refine pz_goto (pc' := 5) (pz_dc dX1_totalOf 22 rfl) (by decide) ?_
      refine pz_lv (lv' := [(0, .ref l0), (1, .ref l1), (2, .int l2), (3, .int (l3 + ((0 : Int32)))), (4, .int (l4 + (1 : Int32)))]) [2, 3, 4, 1, 0] rfl ?_
      exact hb
    · replace hb := hb.2 hc
      refine pz_aload_n (pc' := 25) (x := l1) 1 rfl (pz_dc dX1_totalOf 13 rfl) rfl ?_
      refine pz_getR (M := mX1_totalOf) hb fX1_41 (pc' := 28) rfl (pz_dc dX1_totalOf 14 rfl) (fun a2 hb => ?_)
      refine pz_iload (pc' := 30) (x := l4) 4 rfl (pz_dc dX1_totalOf 15 rfl) rfl ?_
      refine pz_ldI hb (pc' := 31) rfl (pz_dc dX1_totalOf 16 rfl) (fun x3 hb => ?_)
      refine pz_goto (pc' := 35) (pz_dc dX1_totalOf 17 rfl) (by decide) ?_
      refine pz_iadd (pc' := 36) rfl (pz_dc dX1_totalOf 19 rfl) ?_
      refine pz_istore_n (pc' := 37) (lv' := [(3, .int (l3 + x3)), (0, .ref l0), (1, .ref l1), (2, .int l2), (4, .int l4)]) rfl (pz_dc dX1_totalOf 20 rfl) (by decide) rfl ?_
      refine pz_iinc (pc' := 40) (x := l4) (v := l4 + (1 : Int32)) (lv' := [(4, .int (l4 + (1 : Int32))), (3, .int (l3 + x3)), (0, .ref l0), (1, .ref l1), (2, .int l2)]) 4 rfl (pz_dc dX1_totalOf 21 rfl) rfl rfl (by decide) rfl ?_
      refine pz_goto (pc' := 5) (pz_dc dX1_totalOf 22 rfl) (by decide) ?_
      refine pz_lv (lv' := [(0, .ref l0), (1, .ref l1), (2, .int l2), (3, .int (l3 + x3)), (4, .int (l4 + (1 : Int32)))]) [2, 3, 4, 1, 0] rfl ?_
      exact hb
set_option maxRecDepth 20000 in
set_option maxHeartbeats 4000000 in
theorem wX1_hairOfAll_0 {Ex : State → Nat → Prop} {Q : Option Value → pz_H → Prop} {d bc bs : Nat} {l0 : Nat} {l1 : Nat}  {h : pz_H}  (hb : pz_V mX1_hairOfAll Ex Q d bc bs 4 [(0, .ref l0), (1, .ref l1), (2, .int 0), (3, .int 0)] [] h) : pz_V mX1_hairOfAll Ex Q d bc bs 0 [(0, .ref l0), (1, .ref l1)] [] h := by
  refine pz_iconst (pc' := 1) (v := 0) rfl (pz_dc dX1_hairOfAll 0 rfl) ki_0 ?_
  refine pz_istore_n (pc' := 2) (lv' := [(2, .int 0), (0, .ref l0), (1, .ref l1)]) rfl (pz_dc dX1_hairOfAll 1 rfl) (by decide) rfl ?_
  refine pz_iconst (pc' := 3) (v := 0) rfl (pz_dc dX1_hairOfAll 2 rfl) ki_0 ?_
  refine pz_istore_n (pc' := 4) (lv' := [(3, .int 0), (2, .int 0), (0, .ref l0), (1, .ref l1)]) rfl (pz_dc dX1_hairOfAll 3 rfl) (by decide) rfl ?_
  refine pz_lv (lv' := [(0, .ref l0), (1, .ref l1), (2, .int 0), (3, .int 0)]) [2, 3, 1, 0] rfl ?_
  exact hb
set_option maxRecDepth 20000 in
set_option maxHeartbeats 4000000 in
theorem wX1_hairOfAll_4 {Ex : State → Nat → Prop} {Q : Option Value → pz_H → Prop} {d bc bs : Nat} {l0 : Nat} {l1 : Nat} {l2 : Int32} {l3 : Int32}  {h : pz_H}  (hb : pz_gI h l0 1 4 (fun (x1 : Int32) => (x1 ≤ l3 → Q (some (.int l2)) h) ∧ (¬ x1 ≤ l3 → pz_gR h l1 8 1 (fun (a2 : Nat) => pz_rI h a2 l3 (fun (x3 : Int32) => pz_V mX1_hairOfAll Ex Q d bc bs 4 [(0, .ref l0), (1, .ref l1), (2, .int (l2 + x3)), (3, .int (l3 + (1 : Int32)))] [] h))))) : pz_V mX1_hairOfAll Ex Q d bc bs 4 [(0, .ref l0), (1, .ref l1), (2, .int l2), (3, .int l3)] [] h := by
  refine pz_iload_n (pc' := 5) (x := l3) 3 rfl (pz_dc dX1_hairOfAll 4 rfl) rfl ?_
  refine pz_aload_n (pc' := 6) (x := l0) 0 rfl (pz_dc dX1_hairOfAll 5 rfl) rfl ?_
  refine pz_getI (M := mX1_hairOfAll) hb fX1_24 (pc' := 9) rfl (pz_dc dX1_hairOfAll 6 rfl) (fun x1 hb => ?_)
  refine pz_icmp_ge (pc' := 12) (tgt := 27) rfl (pz_dc dX1_hairOfAll 7 rfl) (by decide) (fun hc => ?_) (fun hc => ?_)
  · replace hb := hb.1 hc
    refine pz_iload_n (pc' := 28) (x := l2) 2 rfl (pz_dc dX1_hairOfAll 17 rfl) rfl ?_
    exact pz_iret (pz_dc dX1_hairOfAll 18 rfl) rfl hb
  · replace hb := hb.2 hc
    refine pz_iload_n (pc' := 13) (x := l2) 2 rfl (pz_dc dX1_hairOfAll 8 rfl) rfl ?_
    refine pz_aload_n (pc' := 14) (x := l1) 1 rfl (pz_dc dX1_hairOfAll 9 rfl) rfl ?_
    refine pz_getR (M := mX1_hairOfAll) hb fX1_53 (pc' := 17) rfl (pz_dc dX1_hairOfAll 10 rfl) (fun a2 hb => ?_)
    refine pz_iload_n (pc' := 18) (x := l3) 3 rfl (pz_dc dX1_hairOfAll 11 rfl) rfl ?_
    refine pz_ldI hb (pc' := 19) rfl (pz_dc dX1_hairOfAll 12 rfl) (fun x3 hb => ?_)
    refine pz_iadd (pc' := 20) rfl (pz_dc dX1_hairOfAll 13 rfl) ?_
    refine pz_istore_n (pc' := 21) (lv' := [(2, .int (l2 + x3)), (0, .ref l0), (1, .ref l1), (3, .int l3)]) rfl (pz_dc dX1_hairOfAll 14 rfl) (by decide) rfl ?_
    refine pz_iinc (pc' := 24) (x := l3) (v := l3 + (1 : Int32)) (lv' := [(3, .int (l3 + (1 : Int32))), (2, .int (l2 + x3)), (0, .ref l0), (1, .ref l1)]) 3 rfl (pz_dc dX1_hairOfAll 15 rfl) rfl rfl (by decide) rfl ?_
    refine pz_goto (pc' := 4) (pz_dc dX1_hairOfAll 16 rfl) (by decide) ?_
    refine pz_lv (lv' := [(0, .ref l0), (1, .ref l1), (2, .int (l2 + x3)), (3, .int (l3 + (1 : Int32)))]) [2, 3, 1, 0] rfl ?_
    exact hb
set_option maxRecDepth 20000 in
set_option maxHeartbeats 4000000 in
theorem wX1_dry_0 {Ex : State → Nat → Prop} {Q : Option Value → pz_H → Prop} {d bc bs : Nat} {l0 : Nat} {l1 : Nat}  {h : pz_H}  (hb : pz_V mX1_dry Ex Q d bc bs 4 [(0, .ref l0), (1, .ref l1), (2, .int 0), (3, .int 0)] [] h) : pz_V mX1_dry Ex Q d bc bs 0 [(0, .ref l0), (1, .ref l1)] [] h := by
  refine pz_iconst (pc' := 1) (v := 0) rfl (pz_dc dX1_dry 0 rfl) ki_0 ?_
  refine pz_istore_n (pc' := 2) (lv' := [(2, .int 0), (0, .ref l0), (1, .ref l1)]) rfl (pz_dc dX1_dry 1 rfl) (by decide) rfl ?_
  refine pz_iconst (pc' := 3) (v := 0) rfl (pz_dc dX1_dry 2 rfl) ki_0 ?_
  refine pz_istore_n (pc' := 4) (lv' := [(3, .int 0), (2, .int 0), (0, .ref l0), (1, .ref l1)]) rfl (pz_dc dX1_dry 3 rfl) (by decide) rfl ?_
  refine pz_lv (lv' := [(0, .ref l0), (1, .ref l1), (2, .int 0), (3, .int 0)]) [2, 3, 1, 0] rfl ?_
  exact hb
set_option maxRecDepth 20000 in
set_option maxHeartbeats 4000000 in
theorem wX1_dry_4 {Ex : State → Nat → Prop} {Q : Option Value → pz_H → Prop} {d bc bs : Nat} {l0 : Nat} {l1 : Nat} {l2 : Int32} {l3 : Int32}  {h : pz_H}  (hb : pz_gI h l0 1 4 (fun (x1 : Int32) => (x1 ≤ l3 → Q (some (.int l2)) h) ∧ (¬ x1 ≤ l3 → pz_gR h l1 8 0 (fun (a2 : Nat) => pz_rI h a2 l3 (fun (x3 : Int32) => (¬ x3 = 0 → pz_V mX1_dry Ex Q d bc bs 4 [(0, .ref l0), (1, .ref l1), (2, .int (l2 ||| ((0 : Int32)))), (3, .int (l3 + (1 : Int32)))] [] h) ∧ (x3 = 0 → pz_V mX1_dry Ex Q d bc bs 4 [(0, .ref l0), (1, .ref l1), (2, .int (l2 ||| (((1 : Int32)) <<< (l3 &&& 31)))), (3, .int (l3 + (1 : Int32)))] [] h)))))) : pz_V mX1_dry Ex Q d bc bs 4 [(0, .ref l0), (1, .ref l1), (2, .int l2), (3, .int l3)] [] h := by
  refine pz_iload_n (pc' := 5) (x := l3) 3 rfl (pz_dc dX1_dry 4 rfl) rfl ?_
  refine pz_aload_n (pc' := 6) (x := l0) 0 rfl (pz_dc dX1_dry 5 rfl) rfl ?_
  refine pz_getI (M := mX1_dry) hb fX1_24 (pc' := 9) rfl (pz_dc dX1_dry 6 rfl) (fun x1 hb => ?_)
  refine pz_icmp_ge (pc' := 12) (tgt := 37) rfl (pz_dc dX1_dry 7 rfl) (by decide) (fun hc => ?_) (fun hc => ?_)
  · replace hb := hb.1 hc
    refine pz_iload_n (pc' := 38) (x := l2) 2 rfl (pz_dc dX1_dry 23 rfl) rfl ?_
    exact pz_iret (pz_dc dX1_dry 24 rfl) rfl hb
  · replace hb := hb.2 hc
    refine pz_iload_n (pc' := 13) (x := l2) 2 rfl (pz_dc dX1_dry 8 rfl) rfl ?_
    refine pz_aload_n (pc' := 14) (x := l1) 1 rfl (pz_dc dX1_dry 9 rfl) rfl ?_
    refine pz_getR (M := mX1_dry) hb fX1_41 (pc' := 17) rfl (pz_dc dX1_dry 10 rfl) (fun a2 hb => ?_)
    refine pz_iload_n (pc' := 18) (x := l3) 3 rfl (pz_dc dX1_dry 11 rfl) rfl ?_
    refine pz_ldI hb (pc' := 19) rfl (pz_dc dX1_dry 12 rfl) (fun x3 hb => ?_)
    refine pz_if_ne (pc' := 22) (tgt := 28) rfl (pz_dc dX1_dry 13 rfl) (by decide) (fun hc => ?_) (fun hc => ?_)
    · replace hb := hb.1 hc
      refine pz_iconst (pc' := 29) (v := 0) rfl (pz_dc dX1_dry 18 rfl) ki_0 ?_
      refine pz_ior (pc' := 30) rfl (pz_dc dX1_dry 19 rfl) ?_
      refine pz_istore_n (pc' := 31) (lv' := [(2, .int (l2 ||| ((0 : Int32)))), (0, .ref l0), (1, .ref l1), (3, .int l3)]) rfl (pz_dc dX1_dry 20 rfl) (by decide) rfl ?_
      refine pz_iinc (pc' := 34) (x := l3) (v := l3 + (1 : Int32)) (lv' := [(3, .int (l3 + (1 : Int32))), (2, .int (l2 ||| ((0 : Int32)))), (0, .ref l0), (1, .ref l1)]) 3 rfl (pz_dc dX1_dry 21 rfl) rfl rfl (by decide) rfl ?_
      refine pz_goto (pc' := 4) (pz_dc dX1_dry 22 rfl) (by decide) ?_
      refine pz_lv (lv' := [(0, .ref l0), (1, .ref l1), (2, .int (l2 ||| ((0 : Int32)))), (3, .int (l3 + (1 : Int32)))]) [2, 3, 1, 0] rfl ?_
      exact hb
    · replace hb := hb.2 hc
      refine pz_iconst (pc' := 23) (v := 1) rfl (pz_dc dX1_dry 14 rfl) ki_1 ?_
      refine pz_iload_n (pc' := 24) (x := l3) 3 rfl (pz_dc dX1_dry 15 rfl) rfl ?_
      refine pz_ishl (pc' := 25) rfl (pz_dc dX1_dry 16 rfl) ?_
      refine pz_goto (pc' := 29) (pz_dc dX1_dry 17 rfl) (by decide) ?_
      refine pz_ior (pc' := 30) rfl (pz_dc dX1_dry 19 rfl) ?_
      refine pz_istore_n (pc' := 31) (lv' := [(2, .int (l2 ||| (((1 : Int32)) <<< (l3 &&& 31)))), (0, .ref l0), (1, .ref l1), (3, .int l3)]) rfl (pz_dc dX1_dry 20 rfl) (by decide) rfl ?_
      refine pz_iinc (pc' := 34) (x := l3) (v := l3 + (1 : Int32)) (lv' := [(3, .int (l3 + (1 : Int32))), (2, .int (l2 ||| (((1 : Int32)) <<< (l3 &&& 31)))), (0, .ref l0), (1, .ref l1)]) 3 rfl (pz_dc dX1_dry 21 rfl) rfl rfl (by decide) rfl ?_
      refine pz_goto (pc' := 4) (pz_dc dX1_dry 22 rfl) (by decide) ?_
      refine pz_lv (lv' := [(0, .ref l0), (1, .ref l1), (2, .int (l2 ||| (((1 : Int32)) <<< (l3 &&& 31)))), (3, .int (l3 + (1 : Int32)))]) [2, 3, 1, 0] rfl ?_
      exact hb
set_option maxRecDepth 20000 in
set_option maxHeartbeats 4000000 in
theorem wX1_brimming_0 {Ex : State → Nat → Prop} {Q : Option Value → pz_H → Prop} {d bc bs : Nat} {l0 : Nat} {l1 : Nat}  {h : pz_H}  (hb : pz_V mX1_brimming Ex Q d bc bs 4 [(0, .ref l0), (1, .ref l1), (2, .int 0), (3, .int 0)] [] h) : pz_V mX1_brimming Ex Q d bc bs 0 [(0, .ref l0), (1, .ref l1)] [] h := by
  refine pz_iconst (pc' := 1) (v := 0) rfl (pz_dc dX1_brimming 0 rfl) ki_0 ?_
  refine pz_istore_n (pc' := 2) (lv' := [(2, .int 0), (0, .ref l0), (1, .ref l1)]) rfl (pz_dc dX1_brimming 1 rfl) (by decide) rfl ?_
  refine pz_iconst (pc' := 3) (v := 0) rfl (pz_dc dX1_brimming 2 rfl) ki_0 ?_
  refine pz_istore_n (pc' := 4) (lv' := [(3, .int 0), (2, .int 0), (0, .ref l0), (1, .ref l1)]) rfl (pz_dc dX1_brimming 3 rfl) (by decide) rfl ?_
  refine pz_lv (lv' := [(0, .ref l0), (1, .ref l1), (2, .int 0), (3, .int 0)]) [2, 3, 1, 0] rfl ?_
  exact hb
set_option maxRecDepth 20000 in
set_option maxHeartbeats 4000000 in
theorem wX1_brimming_4 {Ex : State → Nat → Prop} {Q : Option Value → pz_H → Prop} {d bc bs : Nat} {l0 : Nat} {l1 : Nat} {l2 : Int32} {l3 : Int32}  {h : pz_H}  (hb : pz_gI h l0 1 4 (fun (x1 : Int32) => (x1 ≤ l3 → Q (some (.int l2)) h) ∧ (¬ x1 ≤ l3 → pz_gR h l1 8 0 (fun (a2 : Nat) => pz_rI h a2 l3 (fun (x3 : Int32) => pz_gR h l0 1 0 (fun (a4 : Nat) => pz_rI h a4 l3 (fun (x5 : Int32) => (¬ x3 = x5 → pz_V mX1_brimming Ex Q d bc bs 4 [(0, .ref l0), (1, .ref l1), (2, .int (l2 ||| ((0 : Int32)))), (3, .int (l3 + (1 : Int32)))] [] h) ∧ (x3 = x5 → pz_V mX1_brimming Ex Q d bc bs 4 [(0, .ref l0), (1, .ref l1), (2, .int (l2 ||| (((1 : Int32)) <<< (l3 &&& 31)))), (3, .int (l3 + (1 : Int32)))] [] h)))))))) : pz_V mX1_brimming Ex Q d bc bs 4 [(0, .ref l0), (1, .ref l1), (2, .int l2), (3, .int l3)] [] h := by
  refine pz_iload_n (pc' := 5) (x := l3) 3 rfl (pz_dc dX1_brimming 4 rfl) rfl ?_
  refine pz_aload_n (pc' := 6) (x := l0) 0 rfl (pz_dc dX1_brimming 5 rfl) rfl ?_
  refine pz_getI (M := mX1_brimming) hb fX1_24 (pc' := 9) rfl (pz_dc dX1_brimming 6 rfl) (fun x1 hb => ?_)
  refine pz_icmp_ge (pc' := 12) (tgt := 43) rfl (pz_dc dX1_brimming 7 rfl) (by decide) (fun hc => ?_) (fun hc => ?_)
  · replace hb := hb.1 hc
    refine pz_iload_n (pc' := 44) (x := l2) 2 rfl (pz_dc dX1_brimming 27 rfl) rfl ?_
    exact pz_iret (pz_dc dX1_brimming 28 rfl) rfl hb
  · replace hb := hb.2 hc
    refine pz_iload_n (pc' := 13) (x := l2) 2 rfl (pz_dc dX1_brimming 8 rfl) rfl ?_
    refine pz_aload_n (pc' := 14) (x := l1) 1 rfl (pz_dc dX1_brimming 9 rfl) rfl ?_
    refine pz_getR (M := mX1_brimming) hb fX1_41 (pc' := 17) rfl (pz_dc dX1_brimming 10 rfl) (fun a2 hb => ?_)
    refine pz_iload_n (pc' := 18) (x := l3) 3 rfl (pz_dc dX1_brimming 11 rfl) rfl ?_
    refine pz_ldI hb (pc' := 19) rfl (pz_dc dX1_brimming 12 rfl) (fun x3 hb => ?_)
    refine pz_aload_n (pc' := 20) (x := l0) 0 rfl (pz_dc dX1_brimming 13 rfl) rfl ?_
    refine pz_getR (M := mX1_brimming) hb fX1_9 (pc' := 23) rfl (pz_dc dX1_brimming 14 rfl) (fun a4 hb => ?_)
    refine pz_iload_n (pc' := 24) (x := l3) 3 rfl (pz_dc dX1_brimming 15 rfl) rfl ?_
    refine pz_ldI hb (pc' := 25) rfl (pz_dc dX1_brimming 16 rfl) (fun x5 hb => ?_)
    refine pz_icmp_ne (pc' := 28) (tgt := 34) rfl (pz_dc dX1_brimming 17 rfl) (by decide) (fun hc => ?_) (fun hc => ?_)
    · replace hb := hb.1 hc
      refine pz_iconst (pc' := 35) (v := 0) rfl (pz_dc dX1_brimming 22 rfl) ki_0 ?_
      refine pz_ior (pc' := 36) rfl (pz_dc dX1_brimming 23 rfl) ?_
      refine pz_istore_n (pc' := 37) (lv' := [(2, .int (l2 ||| ((0 : Int32)))), (0, .ref l0), (1, .ref l1), (3, .int l3)]) rfl (pz_dc dX1_brimming 24 rfl) (by decide) rfl ?_
      refine pz_iinc (pc' := 40) (x := l3) (v := l3 + (1 : Int32)) (lv' := [(3, .int (l3 + (1 : Int32))), (2, .int (l2 ||| ((0 : Int32)))), (0, .ref l0), (1, .ref l1)]) 3 rfl (pz_dc dX1_brimming 25 rfl) rfl rfl (by decide) rfl ?_
      refine pz_goto (pc' := 4) (pz_dc dX1_brimming 26 rfl) (by decide) ?_
      refine pz_lv (lv' := [(0, .ref l0), (1, .ref l1), (2, .int (l2 ||| ((0 : Int32)))), (3, .int (l3 + (1 : Int32)))]) [2, 3, 1, 0] rfl ?_
      exact hb
    · replace hb := hb.2 hc
      refine pz_iconst (pc' := 29) (v := 1) rfl (pz_dc dX1_brimming 18 rfl) ki_1 ?_
      refine pz_iload_n (pc' := 30) (x := l3) 3 rfl (pz_dc dX1_brimming 19 rfl) rfl ?_
      refine pz_ishl (pc' := 31) rfl (pz_dc dX1_brimming 20 rfl) ?_
      refine pz_goto (pc' := 35) (pz_dc dX1_brimming 21 rfl) (by decide) ?_
      refine pz_ior (pc' := 36) rfl (pz_dc dX1_brimming 23 rfl) ?_
      refine pz_istore_n (pc' := 37) (lv' := [(2, .int (l2 ||| (((1 : Int32)) <<< (l3 &&& 31)))), (0, .ref l0), (1, .ref l1), (3, .int l3)]) rfl (pz_dc dX1_brimming 24 rfl) (by decide) rfl ?_
      refine pz_iinc (pc' := 40) (x := l3) (v := l3 + (1 : Int32)) (lv' := [(3, .int (l3 + (1 : Int32))), (2, .int (l2 ||| (((1 : Int32)) <<< (l3 &&& 31)))), (0, .ref l0), (1, .ref l1)]) 3 rfl (pz_dc dX1_brimming 25 rfl) rfl rfl (by decide) rfl ?_
      refine pz_goto (pc' := 4) (pz_dc dX1_brimming 26 rfl) (by decide) ?_
      refine pz_lv (lv' := [(0, .ref l0), (1, .ref l1), (2, .int (l2 ||| (((1 : Int32)) <<< (l3 &&& 31)))), (3, .int (l3 + (1 : Int32)))]) [2, 3, 1, 0] rfl ?_
      exact hb
set_option maxRecDepth 20000 in
set_option maxHeartbeats 4000000 in
theorem wX1_heldBy_0 {Ex : State → Nat → Prop} {Q : Option Value → pz_H → Prop} {d bc bs : Nat} {l0 : Nat} {l1 : Nat} {l2 : Int32}  {h : pz_H}  (hb : pz_V mX1_heldBy Ex Q d bc bs 5 [(0, .ref l0), (1, .ref l1), (2, .int l2), (3, .int 0), (4, .int 0)] [] h) : pz_V mX1_heldBy Ex Q d bc bs 0 [(0, .ref l0), (1, .ref l1), (2, .int l2)] [] h := by
  refine pz_iconst (pc' := 1) (v := 0) rfl (pz_dc dX1_heldBy 0 rfl) ki_0 ?_
  refine pz_istore_n (pc' := 2) (lv' := [(3, .int 0), (0, .ref l0), (1, .ref l1), (2, .int l2)]) rfl (pz_dc dX1_heldBy 1 rfl) (by decide) rfl ?_
  refine pz_iconst (pc' := 3) (v := 0) rfl (pz_dc dX1_heldBy 2 rfl) ki_0 ?_
  refine pz_istore (pc' := 5) (lv' := [(4, .int 0), (3, .int 0), (0, .ref l0), (1, .ref l1), (2, .int l2)]) rfl (pz_dc dX1_heldBy 3 rfl) (by decide) rfl ?_
  refine pz_lv (lv' := [(0, .ref l0), (1, .ref l1), (2, .int l2), (3, .int 0), (4, .int 0)]) [2, 3, 4, 1, 0] rfl ?_
  exact hb
set_option maxRecDepth 20000 in
set_option maxHeartbeats 4000000 in
theorem wX1_heldBy_5 {Ex : State → Nat → Prop} {Q : Option Value → pz_H → Prop} {d bc bs : Nat} {l0 : Nat} {l1 : Nat} {l2 : Int32} {l3 : Int32} {l4 : Int32}  {h : pz_H}  (hb : pz_gI h l0 1 4 (fun (x1 : Int32) => (x1 ≤ l4 → Q (some (.int l3)) h) ∧ (¬ x1 ≤ l4 → pz_gR h l1 8 4 (fun (a2 : Nat) => pz_rI h a2 l4 (fun (x3 : Int32) => (¬ x3 = l2 → pz_V mX1_heldBy Ex Q d bc bs 5 [(0, .ref l0), (1, .ref l1), (2, .int l2), (3, .int (l3 ||| ((0 : Int32)))), (4, .int (l4 + (1 : Int32)))] [] h) ∧ (x3 = l2 → pz_V mX1_heldBy Ex Q d bc bs 5 [(0, .ref l0), (1, .ref l1), (2, .int l2), (3, .int (l3 ||| (((1 : Int32)) <<< (l4 &&& 31)))), (4, .int (l4 + (1 : Int32)))] [] h)))))) : pz_V mX1_heldBy Ex Q d bc bs 5 [(0, .ref l0), (1, .ref l1), (2, .int l2), (3, .int l3), (4, .int l4)] [] h := by
  refine pz_iload (pc' := 7) (x := l4) 4 rfl (pz_dc dX1_heldBy 4 rfl) rfl ?_
  refine pz_aload_n (pc' := 8) (x := l0) 0 rfl (pz_dc dX1_heldBy 5 rfl) rfl ?_
  refine pz_getI (M := mX1_heldBy) hb fX1_24 (pc' := 11) rfl (pz_dc dX1_heldBy 6 rfl) (fun x1 hb => ?_)
  refine pz_icmp_ge (pc' := 14) (tgt := 42) rfl (pz_dc dX1_heldBy 7 rfl) (by decide) (fun hc => ?_) (fun hc => ?_)
  · replace hb := hb.1 hc
    refine pz_iload_n (pc' := 43) (x := l3) 3 rfl (pz_dc dX1_heldBy 24 rfl) rfl ?_
    exact pz_iret (pz_dc dX1_heldBy 25 rfl) rfl hb
  · replace hb := hb.2 hc
    refine pz_iload_n (pc' := 15) (x := l3) 3 rfl (pz_dc dX1_heldBy 8 rfl) rfl ?_
    refine pz_aload_n (pc' := 16) (x := l1) 1 rfl (pz_dc dX1_heldBy 9 rfl) rfl ?_
    refine pz_getR (M := mX1_heldBy) hb fX1_106 (pc' := 19) rfl (pz_dc dX1_heldBy 10 rfl) (fun a2 hb => ?_)
    refine pz_iload (pc' := 21) (x := l4) 4 rfl (pz_dc dX1_heldBy 11 rfl) rfl ?_
    refine pz_ldI hb (pc' := 22) rfl (pz_dc dX1_heldBy 12 rfl) (fun x3 hb => ?_)
    refine pz_iload_n (pc' := 23) (x := l2) 2 rfl (pz_dc dX1_heldBy 13 rfl) rfl ?_
    refine pz_icmp_ne (pc' := 26) (tgt := 33) rfl (pz_dc dX1_heldBy 14 rfl) (by decide) (fun hc => ?_) (fun hc => ?_)
    · replace hb := hb.1 hc
      refine pz_iconst (pc' := 34) (v := 0) rfl (pz_dc dX1_heldBy 19 rfl) ki_0 ?_
      refine pz_ior (pc' := 35) rfl (pz_dc dX1_heldBy 20 rfl) ?_
      refine pz_istore_n (pc' := 36) (lv' := [(3, .int (l3 ||| ((0 : Int32)))), (0, .ref l0), (1, .ref l1), (2, .int l2), (4, .int l4)]) rfl (pz_dc dX1_heldBy 21 rfl) (by decide) rfl ?_
      refine pz_iinc (pc' := 39) (x := l4) (v := l4 + (1 : Int32)) (lv' := [(4, .int (l4 + (1 : Int32))), (3, .int (l3 ||| ((0 : Int32)))), (0, .ref l0), (1, .ref l1), (2, .int l2)]) 4 rfl (pz_dc dX1_heldBy 22 rfl) rfl rfl (by decide) rfl ?_
      refine pz_goto (pc' := 5) (pz_dc dX1_heldBy 23 rfl) (by decide) ?_
      refine pz_lv (lv' := [(0, .ref l0), (1, .ref l1), (2, .int l2), (3, .int (l3 ||| ((0 : Int32)))), (4, .int (l4 + (1 : Int32)))]) [2, 3, 4, 1, 0] rfl ?_
      exact hb
    · replace hb := hb.2 hc
      refine pz_iconst (pc' := 27) (v := 1) rfl (pz_dc dX1_heldBy 15 rfl) ki_1 ?_
      refine pz_iload (pc' := 29) (x := l4) 4 rfl (pz_dc dX1_heldBy 16 rfl) rfl ?_
      refine pz_ishl (pc' := 30) rfl (pz_dc dX1_heldBy 17 rfl) ?_
      refine pz_goto (pc' := 34) (pz_dc dX1_heldBy 18 rfl) (by decide) ?_
      refine pz_ior (pc' := 35) rfl (pz_dc dX1_heldBy 20 rfl) ?_
      refine pz_istore_n (pc' := 36) (lv' := [(3, .int (l3 ||| (((1 : Int32)) <<< (l4 &&& 31)))), (0, .ref l0), (1, .ref l1), (2, .int l2), (4, .int l4)]) rfl (pz_dc dX1_heldBy 21 rfl) (by decide) rfl ?_
      refine pz_iinc (pc' := 39) (x := l4) (v := l4 + (1 : Int32)) (lv' := [(4, .int (l4 + (1 : Int32))), (3, .int (l3 ||| (((1 : Int32)) <<< (l4 &&& 31)))), (0, .ref l0), (1, .ref l1), (2, .int l2)]) 4 rfl (pz_dc dX1_heldBy 22 rfl) rfl rfl (by decide) rfl ?_
      refine pz_goto (pc' := 5) (pz_dc dX1_heldBy 23 rfl) (by decide) ?_
      refine pz_lv (lv' := [(0, .ref l0), (1, .ref l1), (2, .int l2), (3, .int (l3 ||| (((1 : Int32)) <<< (l4 &&& 31)))), (4, .int (l4 + (1 : Int32)))]) [2, 3, 4, 1, 0] rfl ?_
      exact hb
set_option maxRecDepth 20000 in
set_option maxHeartbeats 4000000 in
theorem wX1_richestKing_0 {Ex : State → Nat → Prop} {Q : Option Value → pz_H → Prop} {d bc bs : Nat} {l0 : Nat} {l1 : Nat}  {h : pz_H} (hD : 2 ≤ d) (hb : pz_V mX1_richestKing Ex Q d bc bs 7 [(0, .ref l0), (1, .ref l1), (2, .int ((-1))), (3, .int 0), (4, .int 0)] [] h) : pz_V mX1_richestKing Ex Q d bc bs 0 [(0, .ref l0), (1, .ref l1)] [] h := by
  refine pz_iconst (pc' := 1) (v := (-1)) rfl (pz_dc dX1_richestKing 0 rfl) ki_m1 ?_
  refine pz_istore_n (pc' := 2) (lv' := [(2, .int ((-1))), (0, .ref l0), (1, .ref l1)]) rfl (pz_dc dX1_richestKing 1 rfl) (by decide) rfl ?_
  refine pz_iconst (pc' := 3) (v := 0) rfl (pz_dc dX1_richestKing 2 rfl) ki_0 ?_
  refine pz_istore_n (pc' := 4) (lv' := [(3, .int 0), (2, .int ((-1))), (0, .ref l0), (1, .ref l1)]) rfl (pz_dc dX1_richestKing 3 rfl) (by decide) rfl ?_
  refine pz_iconst (pc' := 5) (v := 0) rfl (pz_dc dX1_richestKing 4 rfl) ki_0 ?_
  refine pz_istore (pc' := 7) (lv' := [(4, .int 0), (3, .int 0), (2, .int ((-1))), (0, .ref l0), (1, .ref l1)]) rfl (pz_dc dX1_richestKing 5 rfl) (by decide) rfl ?_
  refine pz_lv (lv' := [(0, .ref l0), (1, .ref l1), (2, .int ((-1))), (3, .int 0), (4, .int 0)]) [3, 4, 2, 1, 0] rfl ?_
  exact hb
set_option maxRecDepth 20000 in
set_option maxHeartbeats 4000000 in
theorem wX1_richestKing_7 {Ex : State → Nat → Prop} {Q : Option Value → pz_H → Prop} {d bc bs : Nat} {l0 : Nat} {l1 : Nat} {l2 : Int32} {l3 : Int32} {l4 : Int32}  {h : pz_H} (hD : 2 ≤ d) (hb : (((4 : Int32)) ≤ l4 → Q (some (.int l3)) h) ∧ (¬ ((4 : Int32)) ≤ l4 → pz_is h l0 1 ∧ (pz_ki mX1_heldBy 0 0 0 (.ref l0 :: [.ref l1, .int l4]) h (fun (x2 : Int32) (h1 : pz_H) => pz_is h1 l0 1 ∧ (pz_ki mX1_totalOf 1 0 0 (.ref l0 :: [.ref l1, .int x2]) h1 (fun (x4 : Int32) (h3 : pz_H) => (x4 ≤ l2 → pz_V mX1_richestKing Ex Q d bc bs 7 [(0, .ref l0), (1, .ref l1), (2, .int l2), (3, .int l3), (4, .int (l4 + (1 : Int32)))] [] h3) ∧ (¬ x4 ≤ l2 → pz_V mX1_richestKing Ex Q d bc bs 7 [(0, .ref l0), (1, .ref l1), (2, .int x4), (3, .int l4), (4, .int (l4 + (1 : Int32)))] [] h3))))))) : pz_V mX1_richestKing Ex Q d bc bs 7 [(0, .ref l0), (1, .ref l1), (2, .int l2), (3, .int l3), (4, .int l4)] [] h := by
  refine pz_iload (pc' := 9) (x := l4) 4 rfl (pz_dc dX1_richestKing 6 rfl) rfl ?_
  refine pz_iconst (pc' := 10) (v := 4) rfl (pz_dc dX1_richestKing 7 rfl) ki_4 ?_
  refine pz_icmp_ge (pc' := 13) (tgt := 45) rfl (pz_dc dX1_richestKing 8 rfl) (by decide) (fun hc => ?_) (fun hc => ?_)
  · replace hb := hb.1 hc
    refine pz_iload_n (pc' := 46) (x := l3) 3 rfl (pz_dc dX1_richestKing 26 rfl) rfl ?_
    exact pz_iret (pz_dc dX1_richestKing 27 rfl) rfl hb
  · replace hb := hb.2 hc
    refine pz_aload_n (pc' := 14) (x := l0) 0 rfl (pz_dc dX1_richestKing 9 rfl) rfl ?_
    refine pz_aload_n (pc' := 15) (x := l1) 1 rfl (pz_dc dX1_richestKing 10 rfl) rfl ?_
    refine pz_aload_n (pc' := 16) (x := l0) 0 rfl (pz_dc dX1_richestKing 11 rfl) rfl ?_
    refine pz_aload_n (pc' := 17) (x := l1) 1 rfl (pz_dc dX1_richestKing 12 rfl) rfl ?_
    refine pz_iload (pc' := 19) (x := l4) 4 rfl (pz_dc dX1_richestKing 13 rfl) rfl ?_
    refine pz_cVi (M := mX1_richestKing) (N := mX1_heldBy) (d' := 0) (bc1 := 0) (bs1 := 0) (bc2 := bc) (bs2 := bs) (pc' := 22) [.ref l1, .int l4] hb vX1_109 rfl (pz_dc dX1_richestKing 14 rfl) rfl (Nat.le_of_ble_eq_true rfl) (Nat.le_of_ble_eq_true rfl) rfl (by omega) (by omega) (by omega) (fun x2 h1 hb => ?_)
    refine pz_cVi (M := mX1_richestKing) (N := mX1_totalOf) (d' := 1) (bc1 := 0) (bs1 := 0) (bc2 := bc) (bs2 := bs) (pc' := 25) [.ref l1, .int x2] hb vX1_98 rfl (pz_dc dX1_richestKing 15 rfl) rfl (Nat.le_of_ble_eq_true rfl) (Nat.le_of_ble_eq_true rfl) rfl (by omega) (by omega) (by omega) (fun x4 h3 hb => ?_)
    refine pz_istore (pc' := 27) (lv' := [(5, .int x4), (0, .ref l0), (1, .ref l1), (2, .int l2), (3, .int l3), (4, .int l4)]) rfl (pz_dc dX1_richestKing 16 rfl) (by decide) rfl ?_
    refine pz_iload (pc' := 29) (x := x4) 0 rfl (pz_dc dX1_richestKing 17 rfl) rfl ?_
    refine pz_iload_n (pc' := 30) (x := l2) 3 rfl (pz_dc dX1_richestKing 18 rfl) rfl ?_
    refine pz_icmp_le (pc' := 33) (tgt := 39) rfl (pz_dc dX1_richestKing 19 rfl) (by decide) (fun hc => ?_) (fun hc => ?_)
    · replace hb := hb.1 hc
      refine pz_iinc (pc' := 42) (x := l4) (v := l4 + (1 : Int32)) (lv' := [(4, .int (l4 + (1 : Int32))), (5, .int x4), (0, .ref l0), (1, .ref l1), (2, .int l2), (3, .int l3)]) 5 rfl (pz_dc dX1_richestKing 24 rfl) rfl rfl (by decide) rfl ?_
      refine pz_goto (pc' := 7) (pz_dc dX1_richestKing 25 rfl) (by decide) ?_
      refine pz_lv (lv' := [(0, .ref l0), (1, .ref l1), (2, .int l2), (3, .int l3), (4, .int (l4 + (1 : Int32)))]) [2, 3, 4, 5, 0] rfl ?_
      exact hb
    · replace hb := hb.2 hc
      refine pz_iload (pc' := 35) (x := x4) 0 rfl (pz_dc dX1_richestKing 20 rfl) rfl ?_
      refine pz_istore_n (pc' := 36) (lv' := [(2, .int x4), (5, .int x4), (0, .ref l0), (1, .ref l1), (3, .int l3), (4, .int l4)]) rfl (pz_dc dX1_richestKing 21 rfl) (by decide) rfl ?_
      refine pz_iload (pc' := 38) (x := l4) 5 rfl (pz_dc dX1_richestKing 22 rfl) rfl ?_
      refine pz_istore_n (pc' := 39) (lv' := [(3, .int l4), (2, .int x4), (5, .int x4), (0, .ref l0), (1, .ref l1), (4, .int l4)]) rfl (pz_dc dX1_richestKing 23 rfl) (by decide) rfl ?_
      refine pz_iinc (pc' := 42) (x := l4) (v := l4 + (1 : Int32)) (lv' := [(4, .int (l4 + (1 : Int32))), (3, .int l4), (2, .int x4), (5, .int x4), (0, .ref l0), (1, .ref l1)]) 5 rfl (pz_dc dX1_richestKing 24 rfl) rfl rfl (by decide) rfl ?_
      refine pz_goto (pc' := 7) (pz_dc dX1_richestKing 25 rfl) (by decide) ?_
      refine pz_lv (lv' := [(0, .ref l0), (1, .ref l1), (2, .int x4), (3, .int l4), (4, .int (l4 + (1 : Int32)))]) [4, 5, 2, 1, 0] rfl ?_
      exact hb
set_option maxRecDepth 20000 in
set_option maxHeartbeats 4000000 in
theorem wX2_init_0 {Ex : State → Nat → Prop} {Q : Option Value → pz_H → Prop} {d bc bs : Nat} {l0 : Nat}  {h : pz_H} (hD : 2 ≤ d) (hb : pz_nWt h 12 (bc) (bs) (fun (a1 : Nat) (h2 : pz_H) => pz_pF h2 l0 2 0 (.ref a1) (fun (h3 : pz_H) => pz_V mX2_init Ex Q d (bc - 1) (bs - 12) 15 [(0, .ref l0), (1, .int 0)] [] h3))) : pz_V mX2_init Ex Q d bc bs 0 [(0, .ref l0)] [] h := by
  refine pz_aload_n (pc' := 1) (x := l0) 0 rfl (pz_dc dX2_init 0 rfl) rfl ?_
  refine pz_obj (M := mX2_init) (pc' := 4) wX2_1 pz_oI pz_oC rfl (pz_dc dX2_init 1 rfl) (Nat.le_of_ble_eq_true rfl) (by omega) ?_
  refine pz_aload_n (pc' := 5) (x := l0) 0 rfl (pz_dc dX2_init 2 rfl) rfl ?_
  refine pz_bipush (pc' := 7) (v := 12) rfl (pz_dc dX2_init 3 rfl) kb_12 ?_
  refine pz_mkW (M := mX2_init) hb qX2_9 (pc' := 10) rfl (pz_dc dX2_init 4 rfl) (by decide) (by decide) (by decide) (fun a1 h2 hb => ?_)
  refine pz_putv (M := mX2_init) hb pX2_11i rfl rfl (pc' := 13) rfl (pz_dc dX2_init 5 rfl) (fun h3 hb => ?_)
  refine pz_iconst (pc' := 14) (v := 0) rfl (pz_dc dX2_init 6 rfl) ki_0 ?_
  refine pz_istore_n (pc' := 15) (lv' := [(1, .int 0), (0, .ref l0)]) rfl (pz_dc dX2_init 7 rfl) (by decide) rfl ?_
  refine pz_lv (lv' := [(0, .ref l0), (1, .int 0)]) [1, 0] rfl ?_
  exact hb
set_option maxRecDepth 20000 in
set_option maxHeartbeats 4000000 in
theorem wX2_init_15 {Ex : State → Nat → Prop} {Q : Option Value → pz_H → Prop} {d bc bs : Nat} {l0 : Nat} {l1 : Int32}  {h : pz_H} (hD : 2 ≤ d) (hb : (((12 : Int32)) ≤ l1 → Q none h) ∧ (¬ ((12 : Int32)) ≤ l1 → pz_gR h l0 2 0 (fun (a1 : Nat) => pz_nO h 8 [.null, .null, .null, .null, .null, .int 0, .int 0, .int 0, .int 0] 9 (bc) (bs) (fun (a2 : Nat) (h3 : pz_H) => (5 ≤ bc - 1 ∧ 30 ≤ bs - 9) ∧ (pz_kv mX8_init 1 5 30 (.ref a2 :: []) h3 (fun (h4 : pz_H) => pz_sW h4 a1 l1 a2 (fun (h5 : pz_H) => pz_V mX2_init Ex Q d (bc - 1 - 5) (bs - 9 - 30) 15 [(0, .ref l0), (1, .int (l1 + (1 : Int32)))] [] h5))))))) : pz_V mX2_init Ex Q d bc bs 15 [(0, .ref l0), (1, .int l1)] [] h := by
  refine pz_iload_n (pc' := 16) (x := l1) 1 rfl (pz_dc dX2_init 8 rfl) rfl ?_
  refine pz_bipush (pc' := 18) (v := 12) rfl (pz_dc dX2_init 9 rfl) kb_12 ?_
  refine pz_icmp_ge (pc' := 21) (tgt := 40) rfl (pz_dc dX2_init 10 rfl) (by decide) (fun hc => ?_) (fun hc => ?_)
  · replace hb := hb.1 hc
    exact pz_vret (pz_dc dX2_init 20 rfl) rfl hb
  · replace hb := hb.2 hc
    refine pz_aload_n (pc' := 22) (x := l0) 0 rfl (pz_dc dX2_init 11 rfl) rfl ?_
    refine pz_getR (M := mX2_init) hb fX2_11 (pc' := 25) rfl (pz_dc dX2_init 12 rfl) (fun a1 hb => ?_)
    refine pz_iload_n (pc' := 26) (x := l1) 1 rfl (pz_dc dX2_init 13 rfl) rfl ?_
    refine pz_mkO (M := mX2_init) hb nX2_9 (pc' := 29) rfl (pz_dc dX2_init 14 rfl) (fun a2 h3 hb => ?_)
    refine pz_dup (pc' := 30) rfl (pz_dc dX2_init 15 rfl) rfl ?_
    obtain ⟨hq6, hb⟩ := hb
    refine pz_cIv (M := mX2_init) (N := mX8_init) (d' := 1) (bc1 := 5) (bs1 := 30) (bc2 := bc - 1 - 5) (bs2 := bs - 9 - 30) (pc' := 33) [] hb iX2_15 rfl (pz_dc dX2_init 16 rfl) rfl (Nat.le_of_ble_eq_true rfl) (Nat.le_of_ble_eq_true rfl) rfl (by omega) (by omega) (by omega) (fun h4 hb => ?_)
    refine pz_stW hb (pc' := 34) rfl (pz_dc dX2_init 17 rfl) (fun h5 hb => ?_)
    refine pz_iinc (pc' := 37) (x := l1) (v := l1 + (1 : Int32)) (lv' := [(1, .int (l1 + (1 : Int32))), (0, .ref l0)]) 1 rfl (pz_dc dX2_init 18 rfl) rfl rfl (by decide) rfl ?_
    refine pz_goto (pc' := 15) (pz_dc dX2_init 19 rfl) (by decide) ?_
    refine pz_lv (lv' := [(0, .ref l0), (1, .int (l1 + (1 : Int32)))]) [1, 0] rfl ?_
    exact hb
set_option maxRecDepth 20000 in
set_option maxHeartbeats 4000000 in
theorem wX2_size_0 {Ex : State → Nat → Prop} {Q : Option Value → pz_H → Prop} {d bc bs : Nat} {l0 : Nat}  {h : pz_H}  (hb : pz_gI h l0 2 1 (fun (x1 : Int32) => Q (some (.int x1)) h)) : pz_V mX2_size Ex Q d bc bs 0 [(0, .ref l0)] [] h := by
  refine pz_aload_n (pc' := 1) (x := l0) 0 rfl (pz_dc dX2_size 0 rfl) rfl ?_
  refine pz_getI (M := mX2_size) hb fX2_16 (pc' := 4) rfl (pz_dc dX2_size 1 rfl) (fun x1 hb => ?_)
  exact pz_iret (pz_dc dX2_size 2 rfl) rfl hb
set_option maxRecDepth 20000 in
set_option maxHeartbeats 4000000 in
theorem wX2_clear_0 {Ex : State → Nat → Prop} {Q : Option Value → pz_H → Prop} {d bc bs : Nat} {l0 : Nat}  {h : pz_H}  (hb : pz_pF h l0 2 1 (.int 0) (fun (h1 : pz_H) => Q none h1)) : pz_V mX2_clear Ex Q d bc bs 0 [(0, .ref l0)] [] h := by
  refine pz_aload_n (pc' := 1) (x := l0) 0 rfl (pz_dc dX2_clear 0 rfl) rfl ?_
  refine pz_iconst (pc' := 2) (v := 0) rfl (pz_dc dX2_clear 1 rfl) ki_0 ?_
  refine pz_putv (M := mX2_clear) hb (pX2_16 _ rfl) rfl rfl (pc' := 5) rfl (pz_dc dX2_clear 2 rfl) (fun h1 hb => ?_)
  exact pz_vret (pz_dc dX2_clear 3 rfl) rfl hb
set_option maxRecDepth 20000 in
set_option maxHeartbeats 4000000 in
theorem wX2_add_0 {Ex : State → Nat → Prop} {Q : Option Value → pz_H → Prop} {d bc bs : Nat} {l0 : Nat} {l1 : Nat}  {h : pz_H} (hD : 2 ≤ d) (hb : pz_gI h l0 2 1 (fun (x1 : Int32) => (¬ x1 = ((12 : Int32)) → pz_gI h l0 2 1 (fun (x2 : Int32) => (((12 : Int32)) ≤ x2 → Q none h) ∧ (¬ ((12 : Int32)) ≤ x2 → pz_gR h l0 2 0 (fun (a3 : Nat) => pz_gI h l0 2 1 (fun (x4 : Int32) => pz_rW h a3 x4 (fun (a5 : Nat) => pz_is h a5 8 ∧ (pz_kv mX8_copy 1 0 0 (.ref a5 :: [.ref l1]) h (fun (h6 : pz_H) => pz_gI h6 l0 2 1 (fun (x7 : Int32) => pz_pF h6 l0 2 1 (.int (x7 + ((1 : Int32)))) (fun (h8 : pz_H) => Q none h8)))))))))) ∧ (x1 = ((12 : Int32)) → pz_is h l0 2 ∧ (pz_kv mX2_dropOldest 0 0 0 (.ref l0 :: []) h (fun (h9 : pz_H) => pz_gI h9 l0 2 1 (fun (x10 : Int32) => (((12 : Int32)) ≤ x10 → Q none h9) ∧ (¬ ((12 : Int32)) ≤ x10 → pz_gR h9 l0 2 0 (fun (a11 : Nat) => pz_gI h9 l0 2 1 (fun (x12 : Int32) => pz_rW h9 a11 x12 (fun (a13 : Nat) => pz_is h9 a13 8 ∧ (pz_kv mX8_copy 1 0 0 (.ref a13 :: [.ref l1]) h9 (fun (h14 : pz_H) => pz_gI h14 l0 2 1 (fun (x15 : Int32) => pz_pF h14 l0 2 1 (.int (x15 + ((1 : Int32)))) (fun (h16 : pz_H) => Q none h16)))))))))))))) : pz_V mX2_add Ex Q d bc bs 0 [(0, .ref l0), (1, .ref l1)] [] h := by
  refine pz_aload_n (pc' := 1) (x := l0) 0 rfl (pz_dc dX2_add 0 rfl) rfl ?_
  refine pz_getI (M := mX2_add) hb fX2_16 (pc' := 4) rfl (pz_dc dX2_add 1 rfl) (fun x1 hb => ?_)
  refine pz_bipush (pc' := 6) (v := 12) rfl (pz_dc dX2_add 2 rfl) kb_12 ?_
  refine pz_icmp_ne (pc' := 9) (tgt := 13) rfl (pz_dc dX2_add 3 rfl) (by decide) (fun hc => ?_) (fun hc => ?_)
  · replace hb := hb.1 hc
    refine pz_aload_n (pc' := 14) (x := l0) 0 rfl (pz_dc dX2_add 6 rfl) rfl ?_
    refine pz_getI (M := mX2_add) hb fX2_16 (pc' := 17) rfl (pz_dc dX2_add 7 rfl) (fun x2 hb => ?_)
    refine pz_bipush (pc' := 19) (v := 12) rfl (pz_dc dX2_add 8 rfl) kb_12 ?_
    refine pz_icmp_ge (pc' := 22) (tgt := 45) rfl (pz_dc dX2_add 9 rfl) (by decide) (fun hc => ?_) (fun hc => ?_)
    · replace hb := hb.1 hc
      exact pz_vret (pz_dc dX2_add 23 rfl) rfl hb
    · replace hb := hb.2 hc
      refine pz_aload_n (pc' := 23) (x := l0) 0 rfl (pz_dc dX2_add 10 rfl) rfl ?_
      refine pz_getR (M := mX2_add) hb fX2_11 (pc' := 26) rfl (pz_dc dX2_add 11 rfl) (fun a3 hb => ?_)
      refine pz_aload_n (pc' := 27) (x := l0) 0 rfl (pz_dc dX2_add 12 rfl) rfl ?_
      refine pz_getI (M := mX2_add) hb fX2_16 (pc' := 30) rfl (pz_dc dX2_add 13 rfl) (fun x4 hb => ?_)
      refine pz_ldW hb (pc' := 31) rfl (pz_dc dX2_add 14 rfl) (fun a5 hb => ?_)
      refine pz_aload_n (pc' := 32) (x := l1) 1 rfl (pz_dc dX2_add 15 rfl) rfl ?_
      refine pz_cVv (M := mX2_add) (N := mX8_copy) (d' := 1) (bc1 := 0) (bs1 := 0) (bc2 := bc) (bs2 := bs) (pc' := 35) [.ref l1] hb vX2_23 rfl (pz_dc dX2_add 16 rfl) rfl (Nat.le_of_ble_eq_true rfl) (Nat.le_of_ble_eq_true rfl) rfl (by omega) (by omega) (by omega) (fun h6 hb => ?_)
      refine pz_aload_n (pc' := 36) (x := l0) 0 rfl (pz_dc dX2_add 17 rfl) rfl ?_
      refine pz_dup (pc' := 37) rfl (pz_dc dX2_add 18 rfl) rfl ?_
      refine pz_getI (M := mX2_add) hb fX2_16 (pc' := 40) rfl (pz_dc dX2_add 19 rfl) (fun x7 hb => ?_)
      refine pz_iconst (pc' := 41) (v := 1) rfl (pz_dc dX2_add 20 rfl) ki_1 ?_
      refine pz_iadd (pc' := 42) rfl (pz_dc dX2_add 21 rfl) ?_
      refine pz_putv (M := mX2_add) hb (pX2_16 _ rfl) rfl rfl (pc' := 45) rfl (pz_dc dX2_add 22 rfl) (fun h8 hb => ?_)
      exact pz_vret (pz_dc dX2_add 23 rfl) rfl hb
  · replace hb := hb.2 hc
    refine pz_aload_n (pc' := 10) (x := l0) 0 rfl (pz_dc dX2_add 4 rfl) rfl ?_
    refine pz_cVv (M := mX2_add) (N := mX2_dropOldest) (d' := 0) (bc1 := 0) (bs1 := 0) (bc2 := bc) (bs2 := bs) (pc' := 13) [] hb vX2_20 rfl (pz_dc dX2_add 5 rfl) rfl (Nat.le_of_ble_eq_true rfl) (Nat.le_of_ble_eq_true rfl) rfl (by omega) (by omega) (by omega) (fun h9 hb => ?_)
    refine pz_aload_n (pc' := 14) (x := l0) 0 rfl (pz_dc dX2_add 6 rfl) rfl ?_
    refine pz_getI (M := mX2_add) hb fX2_16 (pc' := 17) rfl (pz_dc dX2_add 7 rfl) (fun x10 hb => ?_)
    refine pz_bipush (pc' := 19) (v := 12) rfl (pz_dc dX2_add 8 rfl) kb_12 ?_
    refine pz_icmp_ge (pc' := 22) (tgt := 45) rfl (pz_dc dX2_add 9 rfl) (by decide) (fun hc => ?_) (fun hc => ?_)
    · replace hb := hb.1 hc
      exact pz_vret (pz_dc dX2_add 23 rfl) rfl hb
    · replace hb := hb.2 hc
      refine pz_aload_n (pc' := 23) (x := l0) 0 rfl (pz_dc dX2_add 10 rfl) rfl ?_
      refine pz_getR (M := mX2_add) hb fX2_11 (pc' := 26) rfl (pz_dc dX2_add 11 rfl) (fun a11 hb => ?_)
      refine pz_aload_n (pc' := 27) (x := l0) 0 rfl (pz_dc dX2_add 12 rfl) rfl ?_
      refine pz_getI (M := mX2_add) hb fX2_16 (pc' := 30) rfl (pz_dc dX2_add 13 rfl) (fun x12 hb => ?_)
      refine pz_ldW hb (pc' := 31) rfl (pz_dc dX2_add 14 rfl) (fun a13 hb => ?_)
      refine pz_aload_n (pc' := 32) (x := l1) 1 rfl (pz_dc dX2_add 15 rfl) rfl ?_
      refine pz_cVv (M := mX2_add) (N := mX8_copy) (d' := 1) (bc1 := 0) (bs1 := 0) (bc2 := bc) (bs2 := bs) (pc' := 35) [.ref l1] hb vX2_23 rfl (pz_dc dX2_add 16 rfl) rfl (Nat.le_of_ble_eq_true rfl) (Nat.le_of_ble_eq_true rfl) rfl (by omega) (by omega) (by omega) (fun h14 hb => ?_)
      refine pz_aload_n (pc' := 36) (x := l0) 0 rfl (pz_dc dX2_add 17 rfl) rfl ?_
      refine pz_dup (pc' := 37) rfl (pz_dc dX2_add 18 rfl) rfl ?_
      refine pz_getI (M := mX2_add) hb fX2_16 (pc' := 40) rfl (pz_dc dX2_add 19 rfl) (fun x15 hb => ?_)
      refine pz_iconst (pc' := 41) (v := 1) rfl (pz_dc dX2_add 20 rfl) ki_1 ?_
      refine pz_iadd (pc' := 42) rfl (pz_dc dX2_add 21 rfl) ?_
      refine pz_putv (M := mX2_add) hb (pX2_16 _ rfl) rfl rfl (pc' := 45) rfl (pz_dc dX2_add 22 rfl) (fun h16 hb => ?_)
      exact pz_vret (pz_dc dX2_add 23 rfl) rfl hb
set_option maxRecDepth 20000 in
set_option maxHeartbeats 4000000 in
theorem wX2_dropOldest_0 {Ex : State → Nat → Prop} {Q : Option Value → pz_H → Prop} {d bc bs : Nat} {l0 : Nat}  {h : pz_H}  (hb : pz_gR h l0 2 0 (fun (a1 : Nat) => pz_rW h a1 0 (fun (a2 : Nat) => pz_V mX2_dropOldest Ex Q d bc bs 9 [(0, .ref l0), (1, .ref a2), (2, .int 1)] [] h))) : pz_V mX2_dropOldest Ex Q d bc bs 0 [(0, .ref l0)] [] h := by
  refine pz_aload_n (pc' := 1) (x := l0) 0 rfl (pz_dc dX2_dropOldest 0 rfl) rfl ?_
  refine pz_getR (M := mX2_dropOldest) hb fX2_11 (pc' := 4) rfl (pz_dc dX2_dropOldest 1 rfl) (fun a1 hb => ?_)
  refine pz_iconst (pc' := 5) (v := 0) rfl (pz_dc dX2_dropOldest 2 rfl) ki_0 ?_
  refine pz_ldW hb (pc' := 6) rfl (pz_dc dX2_dropOldest 3 rfl) (fun a2 hb => ?_)
  refine pz_astore_n (pc' := 7) (lv' := [(1, .ref a2), (0, .ref l0)]) rfl (pz_dc dX2_dropOldest 4 rfl) (by decide) rfl ?_
  refine pz_iconst (pc' := 8) (v := 1) rfl (pz_dc dX2_dropOldest 5 rfl) ki_1 ?_
  refine pz_istore_n (pc' := 9) (lv' := [(2, .int 1), (1, .ref a2), (0, .ref l0)]) rfl (pz_dc dX2_dropOldest 6 rfl) (by decide) rfl ?_
  refine pz_lv (lv' := [(0, .ref l0), (1, .ref a2), (2, .int 1)]) [2, 1, 0] rfl ?_
  exact hb
set_option maxRecDepth 20000 in
set_option maxHeartbeats 4000000 in
theorem wX2_dropOldest_9 {Ex : State → Nat → Prop} {Q : Option Value → pz_H → Prop} {d bc bs : Nat} {l0 : Nat} {l1 : Nat} {l2 : Int32}  {h : pz_H}  (hb : (((12 : Int32)) ≤ l2 → pz_gR h l0 2 0 (fun (a1 : Nat) => pz_sW h a1 11 l1 (fun (h2 : pz_H) => pz_pF h2 l0 2 1 (.int 11) (fun (h3 : pz_H) => Q none h3)))) ∧ (¬ ((12 : Int32)) ≤ l2 → pz_gR h l0 2 0 (fun (a4 : Nat) => pz_gR h l0 2 0 (fun (a5 : Nat) => pz_rW h a5 l2 (fun (a6 : Nat) => pz_sW h a4 (l2 - ((1 : Int32))) a6 (fun (h7 : pz_H) => pz_V mX2_dropOldest Ex Q d bc bs 9 [(0, .ref l0), (1, .ref l1), (2, .int (l2 + (1 : Int32)))] [] h7)))))) : pz_V mX2_dropOldest Ex Q d bc bs 9 [(0, .ref l0), (1, .ref l1), (2, .int l2)] [] h := by
  refine pz_iload_n (pc' := 10) (x := l2) 2 rfl (pz_dc dX2_dropOldest 7 rfl) rfl ?_
  refine pz_bipush (pc' := 12) (v := 12) rfl (pz_dc dX2_dropOldest 8 rfl) kb_12 ?_
  refine pz_icmp_ge (pc' := 15) (tgt := 35) rfl (pz_dc dX2_dropOldest 9 rfl) (by decide) (fun hc => ?_) (fun hc => ?_)
  · replace hb := hb.1 hc
    refine pz_aload_n (pc' := 36) (x := l0) 0 rfl (pz_dc dX2_dropOldest 22 rfl) rfl ?_
    refine pz_getR (M := mX2_dropOldest) hb fX2_11 (pc' := 39) rfl (pz_dc dX2_dropOldest 23 rfl) (fun a1 hb => ?_)
    refine pz_bipush (pc' := 41) (v := 11) rfl (pz_dc dX2_dropOldest 24 rfl) kb_11 ?_
    refine pz_aload_n (pc' := 42) (x := l1) 1 rfl (pz_dc dX2_dropOldest 25 rfl) rfl ?_
    refine pz_stW hb (pc' := 43) rfl (pz_dc dX2_dropOldest 26 rfl) (fun h2 hb => ?_)
    refine pz_aload_n (pc' := 44) (x := l0) 0 rfl (pz_dc dX2_dropOldest 27 rfl) rfl ?_
    refine pz_bipush (pc' := 46) (v := 11) rfl (pz_dc dX2_dropOldest 28 rfl) kb_11 ?_
    refine pz_putv (M := mX2_dropOldest) hb (pX2_16 _ rfl) rfl rfl (pc' := 49) rfl (pz_dc dX2_dropOldest 29 rfl) (fun h3 hb => ?_)
    exact pz_vret (pz_dc dX2_dropOldest 30 rfl) rfl hb
  · replace hb := hb.2 hc
    refine pz_aload_n (pc' := 16) (x := l0) 0 rfl (pz_dc dX2_dropOldest 10 rfl) rfl ?_
    refine pz_getR (M := mX2_dropOldest) hb fX2_11 (pc' := 19) rfl (pz_dc dX2_dropOldest 11 rfl) (fun a4 hb => ?_)
    refine pz_iload_n (pc' := 20) (x := l2) 2 rfl (pz_dc dX2_dropOldest 12 rfl) rfl ?_
    refine pz_iconst (pc' := 21) (v := 1) rfl (pz_dc dX2_dropOldest 13 rfl) ki_1 ?_
    refine pz_isub (pc' := 22) rfl (pz_dc dX2_dropOldest 14 rfl) ?_
    refine pz_aload_n (pc' := 23) (x := l0) 0 rfl (pz_dc dX2_dropOldest 15 rfl) rfl ?_
    refine pz_getR (M := mX2_dropOldest) hb fX2_11 (pc' := 26) rfl (pz_dc dX2_dropOldest 16 rfl) (fun a5 hb => ?_)
    refine pz_iload_n (pc' := 27) (x := l2) 2 rfl (pz_dc dX2_dropOldest 17 rfl) rfl ?_
    refine pz_ldW hb (pc' := 28) rfl (pz_dc dX2_dropOldest 18 rfl) (fun a6 hb => ?_)
    refine pz_stW hb (pc' := 29) rfl (pz_dc dX2_dropOldest 19 rfl) (fun h7 hb => ?_)
    refine pz_iinc (pc' := 32) (x := l2) (v := l2 + (1 : Int32)) (lv' := [(2, .int (l2 + (1 : Int32))), (0, .ref l0), (1, .ref l1)]) 2 rfl (pz_dc dX2_dropOldest 20 rfl) rfl rfl (by decide) rfl ?_
    refine pz_goto (pc' := 9) (pz_dc dX2_dropOldest 21 rfl) (by decide) ?_
    refine pz_lv (lv' := [(0, .ref l0), (1, .ref l1), (2, .int (l2 + (1 : Int32)))]) [1, 2, 0] rfl ?_
    exact hb
set_option maxRecDepth 20000 in
set_option maxHeartbeats 4000000 in
theorem wX2_takeInto_0 {Ex : State → Nat → Prop} {Q : Option Value → pz_H → Prop} {d bc bs : Nat} {l0 : Nat} {l1 : Nat}  {h : pz_H} (hD : 2 ≤ d) (hb : pz_gI h l0 2 1 (fun (x1 : Int32) => (x1 ≤ 0 → Q (some (.int 0)) h) ∧ (¬ x1 ≤ 0 → pz_gI h l0 2 1 (fun (x2 : Int32) => (x2 ≤ ((12 : Int32)) → pz_gI h l0 2 1 (fun (x3 : Int32) => pz_pF h l0 2 1 (.int (x3 - ((1 : Int32)))) (fun (h4 : pz_H) => pz_gR h4 l0 2 0 (fun (a5 : Nat) => pz_gI h4 l0 2 1 (fun (x6 : Int32) => pz_rW h4 a5 x6 (fun (a7 : Nat) => pz_is h4 l1 8 ∧ (pz_kv mX8_copy 1 0 0 (.ref l1 :: [.ref a7]) h4 (fun (h8 : pz_H) => Q (some (.int 1)) h8)))))))) ∧ (¬ x2 ≤ ((12 : Int32)) → Q (some (.int 0)) h))))) : pz_V mX2_takeInto Ex Q d bc bs 0 [(0, .ref l0), (1, .ref l1)] [] h := by
  refine pz_aload_n (pc' := 1) (x := l0) 0 rfl (pz_dc dX2_takeInto 0 rfl) rfl ?_
  refine pz_getI (M := mX2_takeInto) hb fX2_16 (pc' := 4) rfl (pz_dc dX2_takeInto 1 rfl) (fun x1 hb => ?_)
  refine pz_if_le (pc' := 7) (tgt := 16) rfl (pz_dc dX2_takeInto 2 rfl) (by decide) (fun hc => ?_) (fun hc => ?_)
  · replace hb := hb.1 hc
    refine pz_iconst (pc' := 17) (v := 0) rfl (pz_dc dX2_takeInto 7 rfl) ki_0 ?_
    exact pz_zret (pz_dc dX2_takeInto 8 rfl) rfl ⟨by decide, hb⟩
  · replace hb := hb.2 hc
    refine pz_aload_n (pc' := 8) (x := l0) 0 rfl (pz_dc dX2_takeInto 3 rfl) rfl ?_
    refine pz_getI (M := mX2_takeInto) hb fX2_16 (pc' := 11) rfl (pz_dc dX2_takeInto 4 rfl) (fun x2 hb => ?_)
    refine pz_bipush (pc' := 13) (v := 12) rfl (pz_dc dX2_takeInto 5 rfl) kb_12 ?_
    refine pz_icmp_le (pc' := 16) (tgt := 18) rfl (pz_dc dX2_takeInto 6 rfl) (by decide) (fun hc => ?_) (fun hc => ?_)
    · replace hb := hb.1 hc
      refine pz_aload_n (pc' := 19) (x := l0) 0 rfl (pz_dc dX2_takeInto 9 rfl) rfl ?_
      refine pz_dup (pc' := 20) rfl (pz_dc dX2_takeInto 10 rfl) rfl ?_
      refine pz_getI (M := mX2_takeInto) hb fX2_16 (pc' := 23) rfl (pz_dc dX2_takeInto 11 rfl) (fun x3 hb => ?_)
      refine pz_iconst (pc' := 24) (v := 1) rfl (pz_dc dX2_takeInto 12 rfl) ki_1 ?_
      refine pz_isub (pc' := 25) rfl (pz_dc dX2_takeInto 13 rfl) ?_
      refine pz_putv (M := mX2_takeInto) hb (pX2_16 _ rfl) rfl rfl (pc' := 28) rfl (pz_dc dX2_takeInto 14 rfl) (fun h4 hb => ?_)
      refine pz_aload_n (pc' := 29) (x := l1) 1 rfl (pz_dc dX2_takeInto 15 rfl) rfl ?_
      refine pz_aload_n (pc' := 30) (x := l0) 0 rfl (pz_dc dX2_takeInto 16 rfl) rfl ?_
      refine pz_getR (M := mX2_takeInto) hb fX2_11 (pc' := 33) rfl (pz_dc dX2_takeInto 17 rfl) (fun a5 hb => ?_)
      refine pz_aload_n (pc' := 34) (x := l0) 0 rfl (pz_dc dX2_takeInto 18 rfl) rfl ?_
      refine pz_getI (M := mX2_takeInto) hb fX2_16 (pc' := 37) rfl (pz_dc dX2_takeInto 19 rfl) (fun x6 hb => ?_)
      refine pz_ldW hb (pc' := 38) rfl (pz_dc dX2_takeInto 20 rfl) (fun a7 hb => ?_)
      refine pz_cVv (M := mX2_takeInto) (N := mX8_copy) (d' := 1) (bc1 := 0) (bs1 := 0) (bc2 := bc) (bs2 := bs) (pc' := 41) [.ref a7] hb vX2_23 rfl (pz_dc dX2_takeInto 21 rfl) rfl (Nat.le_of_ble_eq_true rfl) (Nat.le_of_ble_eq_true rfl) rfl (by omega) (by omega) (by omega) (fun h8 hb => ?_)
      refine pz_iconst (pc' := 42) (v := 1) rfl (pz_dc dX2_takeInto 22 rfl) ki_1 ?_
      exact pz_zret (pz_dc dX2_takeInto 23 rfl) rfl ⟨by decide, hb⟩
    · replace hb := hb.2 hc
      refine pz_iconst (pc' := 17) (v := 0) rfl (pz_dc dX2_takeInto 7 rfl) ki_0 ?_
      exact pz_zret (pz_dc dX2_takeInto 8 rfl) rfl ⟨by decide, hb⟩
set_option maxRecDepth 20000 in
set_option maxHeartbeats 4000000 in
theorem wX3_init_0 {Ex : State → Nat → Prop} {Q : Option Value → pz_H → Prop} {d bc bs : Nat} {l0 : Nat}  {h : pz_H} (hD : 1 ≤ d) (hb : pz_nI h 10 (bc) (bs) (fun (a1 : Nat) (h2 : pz_H) => pz_pF h2 l0 3 0 (.ref a1) (fun (h3 : pz_H) => pz_nI h3 10 (bc - 1) (bs - 10) (fun (a4 : Nat) (h5 : pz_H) => pz_pF h5 l0 3 1 (.ref a4) (fun (h6 : pz_H) => pz_nI h6 10 (bc - 1 - 1) (bs - 10 - 10) (fun (a7 : Nat) (h8 : pz_H) => pz_pF h8 l0 3 2 (.ref a7) (fun (h9 : pz_H) => Q none h9))))))) : pz_V mX3_init Ex Q d bc bs 0 [(0, .ref l0)] [] h := by
  refine pz_aload_n (pc' := 1) (x := l0) 0 rfl (pz_dc dX3_init 0 rfl) rfl ?_
  refine pz_obj (M := mX3_init) (pc' := 4) wX3_3 pz_oI pz_oC rfl (pz_dc dX3_init 1 rfl) (Nat.le_of_ble_eq_true rfl) (by omega) ?_
  refine pz_aload_n (pc' := 5) (x := l0) 0 rfl (pz_dc dX3_init 2 rfl) rfl ?_
  refine pz_bipush (pc' := 7) (v := 10) rfl (pz_dc dX3_init 3 rfl) kb_10 ?_
  refine pz_mkI hb pz_ac_int (pc' := 9) rfl (pz_dc dX3_init 4 rfl) (by decide) (by decide) (by decide) (fun a1 h2 hb => ?_)
  refine pz_putv (M := mX3_init) hb pX3_11i rfl rfl (pc' := 12) rfl (pz_dc dX3_init 5 rfl) (fun h3 hb => ?_)
  refine pz_aload_n (pc' := 13) (x := l0) 0 rfl (pz_dc dX3_init 6 rfl) rfl ?_
  refine pz_bipush (pc' := 15) (v := 10) rfl (pz_dc dX3_init 7 rfl) kb_10 ?_
  refine pz_mkI hb pz_ac_int (pc' := 17) rfl (pz_dc dX3_init 8 rfl) (by decide) (by decide) (by decide) (fun a4 h5 hb => ?_)
  refine pz_putv (M := mX3_init) hb pX3_15i rfl rfl (pc' := 20) rfl (pz_dc dX3_init 9 rfl) (fun h6 hb => ?_)
  refine pz_aload_n (pc' := 21) (x := l0) 0 rfl (pz_dc dX3_init 10 rfl) rfl ?_
  refine pz_bipush (pc' := 23) (v := 10) rfl (pz_dc dX3_init 11 rfl) kb_10 ?_
  refine pz_mkI hb pz_ac_int (pc' := 25) rfl (pz_dc dX3_init 12 rfl) (by decide) (by decide) (by decide) (fun a7 h8 hb => ?_)
  refine pz_putv (M := mX3_init) hb pX3_18i rfl rfl (pc' := 28) rfl (pz_dc dX3_init 13 rfl) (fun h9 hb => ?_)
  exact pz_vret (pz_dc dX3_init 14 rfl) rfl hb
set_option maxRecDepth 20000 in
set_option maxHeartbeats 4000000 in
theorem wX3_size_0 {Ex : State → Nat → Prop} {Q : Option Value → pz_H → Prop} {d bc bs : Nat} {l0 : Nat}  {h : pz_H}  (hb : pz_gI h l0 3 3 (fun (x1 : Int32) => Q (some (.int x1)) h)) : pz_V mX3_size Ex Q d bc bs 0 [(0, .ref l0)] [] h := by
  refine pz_aload_n (pc' := 1) (x := l0) 0 rfl (pz_dc dX3_size 0 rfl) rfl ?_
  refine pz_getI (M := mX3_size) hb fX3_21 (pc' := 4) rfl (pz_dc dX3_size 1 rfl) (fun x1 hb => ?_)
  exact pz_iret (pz_dc dX3_size 2 rfl) rfl hb
set_option maxRecDepth 20000 in
set_option maxHeartbeats 4000000 in
theorem wX3_clear_0 {Ex : State → Nat → Prop} {Q : Option Value → pz_H → Prop} {d bc bs : Nat} {l0 : Nat}  {h : pz_H}  (hb : pz_pF h l0 3 3 (.int 0) (fun (h1 : pz_H) => Q none h1)) : pz_V mX3_clear Ex Q d bc bs 0 [(0, .ref l0)] [] h := by
  refine pz_aload_n (pc' := 1) (x := l0) 0 rfl (pz_dc dX3_clear 0 rfl) rfl ?_
  refine pz_iconst (pc' := 2) (v := 0) rfl (pz_dc dX3_clear 1 rfl) ki_0 ?_
  refine pz_putv (M := mX3_clear) hb (pX3_21 _ rfl) rfl rfl (pc' := 5) rfl (pz_dc dX3_clear 2 rfl) (fun h1 hb => ?_)
  exact pz_vret (pz_dc dX3_clear 3 rfl) rfl hb
set_option maxRecDepth 20000 in
set_option maxHeartbeats 4000000 in
theorem wX3_add_0 {Ex : State → Nat → Prop} {Q : Option Value → pz_H → Prop} {d bc bs : Nat} {l0 : Nat} {l1 : Int32} {l2 : Int32} {l3 : Int32}  {h : pz_H}  (hb : pz_gI h l0 3 3 (fun (x1 : Int32) => (x1 < ((10 : Int32)) → pz_gR h l0 3 0 (fun (a2 : Nat) => pz_gI h l0 3 3 (fun (x3 : Int32) => pz_sI h a2 x3 l1 (fun (h4 : pz_H) => pz_gR h4 l0 3 1 (fun (a5 : Nat) => pz_gI h4 l0 3 3 (fun (x6 : Int32) => pz_sI h4 a5 x6 l2 (fun (h7 : pz_H) => pz_gR h7 l0 3 2 (fun (a8 : Nat) => pz_gI h7 l0 3 3 (fun (x9 : Int32) => pz_sI h7 a8 x9 l3 (fun (h10 : pz_H) => pz_gI h10 l0 3 3 (fun (x11 : Int32) => pz_pF h10 l0 3 3 (.int (x11 + ((1 : Int32)))) (fun (h12 : pz_H) => Q (some (.int 1)) h12)))))))))))) ∧ (¬ x1 < ((10 : Int32)) → Q (some (.int 0)) h))) : pz_V mX3_add Ex Q d bc bs 0 [(0, .ref l0), (1, .int l1), (2, .int l2), (3, .int l3)] [] h := by
  refine pz_aload_n (pc' := 1) (x := l0) 0 rfl (pz_dc dX3_add 0 rfl) rfl ?_
  refine pz_getI (M := mX3_add) hb fX3_21 (pc' := 4) rfl (pz_dc dX3_add 1 rfl) (fun x1 hb => ?_)
  refine pz_bipush (pc' := 6) (v := 10) rfl (pz_dc dX3_add 2 rfl) kb_10 ?_
  refine pz_icmp_lt (pc' := 9) (tgt := 11) rfl (pz_dc dX3_add 3 rfl) (by decide) (fun hc => ?_) (fun hc => ?_)
  · replace hb := hb.1 hc
    refine pz_aload_n (pc' := 12) (x := l0) 0 rfl (pz_dc dX3_add 6 rfl) rfl ?_
    refine pz_getR (M := mX3_add) hb fX3_11 (pc' := 15) rfl (pz_dc dX3_add 7 rfl) (fun a2 hb => ?_)
    refine pz_aload_n (pc' := 16) (x := l0) 0 rfl (pz_dc dX3_add 8 rfl) rfl ?_
    refine pz_getI (M := mX3_add) hb fX3_21 (pc' := 19) rfl (pz_dc dX3_add 9 rfl) (fun x3 hb => ?_)
    refine pz_iload_n (pc' := 20) (x := l1) 1 rfl (pz_dc dX3_add 10 rfl) rfl ?_
    refine pz_stI hb (pc' := 21) rfl (pz_dc dX3_add 11 rfl) (fun h4 hb => ?_)
    refine pz_aload_n (pc' := 22) (x := l0) 0 rfl (pz_dc dX3_add 12 rfl) rfl ?_
    refine pz_getR (M := mX3_add) hb fX3_15 (pc' := 25) rfl (pz_dc dX3_add 13 rfl) (fun a5 hb => ?_)
    refine pz_aload_n (pc' := 26) (x := l0) 0 rfl (pz_dc dX3_add 14 rfl) rfl ?_
    refine pz_getI (M := mX3_add) hb fX3_21 (pc' := 29) rfl (pz_dc dX3_add 15 rfl) (fun x6 hb => ?_)
    refine pz_iload_n (pc' := 30) (x := l2) 2 rfl (pz_dc dX3_add 16 rfl) rfl ?_
    refine pz_stI hb (pc' := 31) rfl (pz_dc dX3_add 17 rfl) (fun h7 hb => ?_)
    refine pz_aload_n (pc' := 32) (x := l0) 0 rfl (pz_dc dX3_add 18 rfl) rfl ?_
    refine pz_getR (M := mX3_add) hb fX3_18 (pc' := 35) rfl (pz_dc dX3_add 19 rfl) (fun a8 hb => ?_)
    refine pz_aload_n (pc' := 36) (x := l0) 0 rfl (pz_dc dX3_add 20 rfl) rfl ?_
    refine pz_getI (M := mX3_add) hb fX3_21 (pc' := 39) rfl (pz_dc dX3_add 21 rfl) (fun x9 hb => ?_)
    refine pz_iload_n (pc' := 40) (x := l3) 3 rfl (pz_dc dX3_add 22 rfl) rfl ?_
    refine pz_stI hb (pc' := 41) rfl (pz_dc dX3_add 23 rfl) (fun h10 hb => ?_)
    refine pz_aload_n (pc' := 42) (x := l0) 0 rfl (pz_dc dX3_add 24 rfl) rfl ?_
    refine pz_dup (pc' := 43) rfl (pz_dc dX3_add 25 rfl) rfl ?_
    refine pz_getI (M := mX3_add) hb fX3_21 (pc' := 46) rfl (pz_dc dX3_add 26 rfl) (fun x11 hb => ?_)
    refine pz_iconst (pc' := 47) (v := 1) rfl (pz_dc dX3_add 27 rfl) ki_1 ?_
    refine pz_iadd (pc' := 48) rfl (pz_dc dX3_add 28 rfl) ?_
    refine pz_putv (M := mX3_add) hb (pX3_21 _ rfl) rfl rfl (pc' := 51) rfl (pz_dc dX3_add 29 rfl) (fun h12 hb => ?_)
    refine pz_iconst (pc' := 52) (v := 1) rfl (pz_dc dX3_add 30 rfl) ki_1 ?_
    exact pz_zret (pz_dc dX3_add 31 rfl) rfl ⟨by decide, hb⟩
  · replace hb := hb.2 hc
    refine pz_iconst (pc' := 10) (v := 0) rfl (pz_dc dX3_add 4 rfl) ki_0 ?_
    exact pz_zret (pz_dc dX3_add 5 rfl) rfl ⟨by decide, hb⟩
set_option maxRecDepth 20000 in
set_option maxHeartbeats 4000000 in
theorem wX3_lastDay_0 {Ex : State → Nat → Prop} {Q : Option Value → pz_H → Prop} {d bc bs : Nat} {l0 : Nat}  {h : pz_H} (hD : 1 ≤ d) (hb : pz_V mX3_lastDay Ex Q d bc bs 4 [(0, .ref l0), (1, .int ((-1))), (2, .int 0)] [] h) : pz_V mX3_lastDay Ex Q d bc bs 0 [(0, .ref l0)] [] h := by
  refine pz_iconst (pc' := 1) (v := (-1)) rfl (pz_dc dX3_lastDay 0 rfl) ki_m1 ?_
  refine pz_istore_n (pc' := 2) (lv' := [(1, .int ((-1))), (0, .ref l0)]) rfl (pz_dc dX3_lastDay 1 rfl) (by decide) rfl ?_
  refine pz_iconst (pc' := 3) (v := 0) rfl (pz_dc dX3_lastDay 2 rfl) ki_0 ?_
  refine pz_istore_n (pc' := 4) (lv' := [(2, .int 0), (1, .int ((-1))), (0, .ref l0)]) rfl (pz_dc dX3_lastDay 3 rfl) (by decide) rfl ?_
  refine pz_lv (lv' := [(0, .ref l0), (1, .int ((-1))), (2, .int 0)]) [2, 1, 0] rfl ?_
  exact hb
set_option maxRecDepth 20000 in
set_option maxHeartbeats 4000000 in
theorem wX3_lastDay_4 {Ex : State → Nat → Prop} {Q : Option Value → pz_H → Prop} {d bc bs : Nat} {l0 : Nat} {l1 : Int32} {l2 : Int32}  {h : pz_H} (hD : 1 ≤ d) (hb : pz_gI h l0 3 3 (fun (x1 : Int32) => (x1 ≤ l2 → Q (some (.int l1)) h) ∧ (¬ x1 ≤ l2 → pz_gR h l0 3 1 (fun (a2 : Nat) => pz_rI h a2 l2 (fun (x3 : Int32) => pz_V mX3_lastDay Ex Q d bc bs 4 [(0, .ref l0), (1, .int (if l1 < x3 then x3 else l1)), (2, .int (l2 + (1 : Int32)))] [] h))))) : pz_V mX3_lastDay Ex Q d bc bs 4 [(0, .ref l0), (1, .int l1), (2, .int l2)] [] h := by
  refine pz_iload_n (pc' := 5) (x := l2) 2 rfl (pz_dc dX3_lastDay 4 rfl) rfl ?_
  refine pz_aload_n (pc' := 6) (x := l0) 0 rfl (pz_dc dX3_lastDay 5 rfl) rfl ?_
  refine pz_getI (M := mX3_lastDay) hb fX3_21 (pc' := 9) rfl (pz_dc dX3_lastDay 6 rfl) (fun x1 hb => ?_)
  refine pz_icmp_ge (pc' := 12) (tgt := 29) rfl (pz_dc dX3_lastDay 7 rfl) (by decide) (fun hc => ?_) (fun hc => ?_)
  · replace hb := hb.1 hc
    refine pz_iload_n (pc' := 30) (x := l1) 1 rfl (pz_dc dX3_lastDay 17 rfl) rfl ?_
    exact pz_iret (pz_dc dX3_lastDay 18 rfl) rfl hb
  · replace hb := hb.2 hc
    refine pz_iload_n (pc' := 13) (x := l1) 1 rfl (pz_dc dX3_lastDay 8 rfl) rfl ?_
    refine pz_aload_n (pc' := 14) (x := l0) 0 rfl (pz_dc dX3_lastDay 9 rfl) rfl ?_
    refine pz_getR (M := mX3_lastDay) hb fX3_15 (pc' := 17) rfl (pz_dc dX3_lastDay 10 rfl) (fun a2 hb => ?_)
    refine pz_iload_n (pc' := 18) (x := l2) 2 rfl (pz_dc dX3_lastDay 11 rfl) rfl ?_
    refine pz_ldI hb (pc' := 19) rfl (pz_dc dX3_lastDay 12 rfl) (fun x3 hb => ?_)
    refine pz_max (M := mX3_lastDay) (pc' := 22) wX3_25 rfl (pz_dc dX3_lastDay 13 rfl) (Nat.le_of_ble_eq_true rfl) (by omega) ?_
    refine pz_istore_n (pc' := 23) (lv' := [(1, .int (if l1 < x3 then x3 else l1)), (0, .ref l0), (2, .int l2)]) rfl (pz_dc dX3_lastDay 14 rfl) (by decide) rfl ?_
    refine pz_iinc (pc' := 26) (x := l2) (v := l2 + (1 : Int32)) (lv' := [(2, .int (l2 + (1 : Int32))), (1, .int (if l1 < x3 then x3 else l1)), (0, .ref l0)]) 2 rfl (pz_dc dX3_lastDay 15 rfl) rfl rfl (by decide) rfl ?_
    refine pz_goto (pc' := 4) (pz_dc dX3_lastDay 16 rfl) (by decide) ?_
    refine pz_lv (lv' := [(0, .ref l0), (1, .int (if l1 < x3 then x3 else l1)), (2, .int (l2 + (1 : Int32)))]) [2, 1, 0] rfl ?_
    exact hb
set_option maxRecDepth 20000 in
set_option maxHeartbeats 4000000 in
theorem wX3_fit_0 {Ex : State → Nat → Prop} {Q : Option Value → pz_H → Prop} {d bc bs : Nat} {l0 : Nat} {l1 : Int32} {l2 : Nat}  {h : pz_H}  (hb : pz_V mX3_fit Ex Q d bc bs 2 [(0, .ref l0), (1, .int l1), (2, .ref l2), (3, .int 0)] [] h) : pz_V mX3_fit Ex Q d bc bs 0 [(0, .ref l0), (1, .int l1), (2, .ref l2)] [] h := by
  refine pz_iconst (pc' := 1) (v := 0) rfl (pz_dc dX3_fit 0 rfl) ki_0 ?_
  refine pz_istore_n (pc' := 2) (lv' := [(3, .int 0), (0, .ref l0), (1, .int l1), (2, .ref l2)]) rfl (pz_dc dX3_fit 1 rfl) (by decide) rfl ?_
  refine pz_lv (lv' := [(0, .ref l0), (1, .int l1), (2, .ref l2), (3, .int 0)]) [1, 2, 3, 0] rfl ?_
  exact hb
set_option maxRecDepth 20000 in
set_option maxHeartbeats 4000000 in
theorem wX3_fit_2 {Ex : State → Nat → Prop} {Q : Option Value → pz_H → Prop} {d bc bs : Nat} {l0 : Nat} {l1 : Int32} {l2 : Nat} {l3 : Int32}  {h : pz_H}  (hb : pz_gI h l0 3 3 (fun (x1 : Int32) => (x1 ≤ l3 → Q (some (.int 1)) h) ∧ (¬ x1 ≤ l3 → pz_gR h l0 3 0 (fun (a2 : Nat) => pz_rI h a2 l3 (fun (x3 : Int32) => (x3 < 0 → pz_V mX3_fit Ex Q d bc bs 2 [(0, .ref l0), (1, .int l1), (2, .ref l2), (3, .int (l3 + (1 : Int32)))] [] h) ∧ (¬ x3 < 0 → pz_lI h l2 (fun (x4 : Int32) => (x4 ≤ x3 → pz_V mX3_fit Ex Q d bc bs 2 [(0, .ref l0), (1, .int l1), (2, .ref l2), (3, .int (l3 + (1 : Int32)))] [] h) ∧ (¬ x4 ≤ x3 → pz_gR h l0 3 1 (fun (a5 : Nat) => pz_rI h a5 l3 (fun (x6 : Int32) => (¬ x6 = l1 → pz_V mX3_fit Ex Q d bc bs 2 [(0, .ref l0), (1, .int l1), (2, .ref l2), (3, .int (l3 + (1 : Int32)))] [] h) ∧ (x6 = l1 → pz_rI h l2 x3 (fun (x7 : Int32) => pz_gR h l0 3 2 (fun (a8 : Nat) => pz_rI h a8 l3 (fun (x9 : Int32) => (x7 = x9 → pz_V mX3_fit Ex Q d bc bs 2 [(0, .ref l0), (1, .int l1), (2, .ref l2), (3, .int (l3 + (1 : Int32)))] [] h) ∧ (¬ x7 = x9 → Q (some (.int 0)) h))))))))))))))) : pz_V mX3_fit Ex Q d bc bs 2 [(0, .ref l0), (1, .int l1), (2, .ref l2), (3, .int l3)] [] h := by
  refine pz_iload_n (pc' := 3) (x := l3) 3 rfl (pz_dc dX3_fit 2 rfl) rfl ?_
  refine pz_aload_n (pc' := 4) (x := l0) 0 rfl (pz_dc dX3_fit 3 rfl) rfl ?_
  refine pz_getI (M := mX3_fit) hb fX3_21 (pc' := 7) rfl (pz_dc dX3_fit 4 rfl) (fun x1 hb => ?_)
  refine pz_icmp_ge (pc' := 10) (tgt := 73) rfl (pz_dc dX3_fit 5 rfl) (by decide) (fun hc => ?_) (fun hc => ?_)
  · replace hb := hb.1 hc
    refine pz_iconst (pc' := 74) (v := 1) rfl (pz_dc dX3_fit 41 rfl) ki_1 ?_
    exact pz_zret (pz_dc dX3_fit 42 rfl) rfl ⟨by decide, hb⟩
  · replace hb := hb.2 hc
    refine pz_aload_n (pc' := 11) (x := l0) 0 rfl (pz_dc dX3_fit 6 rfl) rfl ?_
    refine pz_getR (M := mX3_fit) hb fX3_11 (pc' := 14) rfl (pz_dc dX3_fit 7 rfl) (fun a2 hb => ?_)
    refine pz_iload_n (pc' := 15) (x := l3) 3 rfl (pz_dc dX3_fit 8 rfl) rfl ?_
    refine pz_ldI hb (pc' := 16) rfl (pz_dc dX3_fit 9 rfl) (fun x3 hb => ?_)
    refine pz_istore (pc' := 18) (lv' := [(4, .int x3), (0, .ref l0), (1, .int l1), (2, .ref l2), (3, .int l3)]) rfl (pz_dc dX3_fit 10 rfl) (by decide) rfl ?_
    refine pz_iload (pc' := 20) (x := x3) 0 rfl (pz_dc dX3_fit 11 rfl) rfl ?_
    refine pz_if_lt (pc' := 23) (tgt := 34) rfl (pz_dc dX3_fit 12 rfl) (by decide) (fun hc => ?_) (fun hc => ?_)
    · replace hb := hb.1 hc
      refine pz_iconst (pc' := 35) (v := 0) rfl (pz_dc dX3_fit 19 rfl) ki_0 ?_
      refine pz_istore (pc' := 37) (lv' := [(5, .int 0), (4, .int x3), (0, .ref l0), (1, .int l1), (2, .ref l2), (3, .int l3)]) rfl (pz_dc dX3_fit 20 rfl) (by decide) rfl ?_
      refine pz_iload (pc' := 39) (x := 0) 0 rfl (pz_dc dX3_fit 21 rfl) rfl ?_
      refine pz_if_eq (pc' := 42) (tgt := 67) rfl (pz_dc dX3_fit 22 rfl) (by decide) (fun _ => ?_) (fun hc => absurd hc (by decide))
      refine pz_iinc (pc' := 70) (x := l3) (v := l3 + (1 : Int32)) (lv' := [(3, .int (l3 + (1 : Int32))), (5, .int 0), (4, .int x3), (0, .ref l0), (1, .int l1), (2, .ref l2)]) 5 rfl (pz_dc dX3_fit 39 rfl) rfl rfl (by decide) rfl ?_
      refine pz_goto (pc' := 2) (pz_dc dX3_fit 40 rfl) (by decide) ?_
      refine pz_lv (lv' := [(0, .ref l0), (1, .int l1), (2, .ref l2), (3, .int (l3 + (1 : Int32)))]) [3, 4, 5, 0] rfl ?_
      exact hb
    · replace hb := hb.2 hc
      refine pz_iload (pc' := 25) (x := x3) 0 rfl (pz_dc dX3_fit 13 rfl) rfl ?_
      refine pz_aload_n (pc' := 26) (x := l2) 3 rfl (pz_dc dX3_fit 14 rfl) rfl ?_
      refine pz_lenI hb (pc' := 27) rfl (pz_dc dX3_fit 15 rfl) (fun x4 hb => ?_)
      refine pz_icmp_ge (pc' := 30) (tgt := 34) rfl (pz_dc dX3_fit 16 rfl) (by decide) (fun hc => ?_) (fun hc => ?_)
      · replace hb := hb.1 hc
        refine pz_iconst (pc' := 35) (v := 0) rfl (pz_dc dX3_fit 19 rfl) ki_0 ?_
        refine pz_istore (pc' := 37) (lv' := [(5, .int 0), (4, .int x3), (0, .ref l0), (1, .int l1), (2, .ref l2), (3, .int l3)]) rfl (pz_dc dX3_fit 20 rfl) (by decide) rfl ?_
        refine pz_iload (pc' := 39) (x := 0) 0 rfl (pz_dc dX3_fit 21 rfl) rfl ?_
        refine pz_if_eq (pc' := 42) (tgt := 67) rfl (pz_dc dX3_fit 22 rfl) (by decide) (fun _ => ?_) (fun hc => absurd hc (by decide))
        refine pz_iinc (pc' := 70) (x := l3) (v := l3 + (1 : Int32)) (lv' := [(3, .int (l3 + (1 : Int32))), (5, .int 0), (4, .int x3), (0, .ref l0), (1, .int l1), (2, .ref l2)]) 5 rfl (pz_dc dX3_fit 39 rfl) rfl rfl (by decide) rfl ?_
        refine pz_goto (pc' := 2) (pz_dc dX3_fit 40 rfl) (by decide) ?_
        refine pz_lv (lv' := [(0, .ref l0), (1, .int l1), (2, .ref l2), (3, .int (l3 + (1 : Int32)))]) [3, 4, 5, 0] rfl ?_
        exact hb
      · replace hb := hb.2 hc
        refine pz_iconst (pc' := 31) (v := 1) rfl (pz_dc dX3_fit 17 rfl) ki_1 ?_
        refine pz_goto (pc' := 35) (pz_dc dX3_fit 18 rfl) (by decide) ?_
        refine pz_istore (pc' := 37) (lv' := [(5, .int 1), (4, .int x3), (0, .ref l0), (1, .int l1), (2, .ref l2), (3, .int l3)]) rfl (pz_dc dX3_fit 20 rfl) (by decide) rfl ?_
        refine pz_iload (pc' := 39) (x := 1) 0 rfl (pz_dc dX3_fit 21 rfl) rfl ?_
        refine pz_if_eq (pc' := 42) (tgt := 67) rfl (pz_dc dX3_fit 22 rfl) (by decide) (fun hc => absurd hc (by decide)) (fun _ => ?_)
        refine pz_aload_n (pc' := 43) (x := l0) 2 rfl (pz_dc dX3_fit 23 rfl) rfl ?_
        refine pz_getR (M := mX3_fit) hb fX3_15 (pc' := 46) rfl (pz_dc dX3_fit 24 rfl) (fun a5 hb => ?_)
        refine pz_iload_n (pc' := 47) (x := l3) 5 rfl (pz_dc dX3_fit 25 rfl) rfl ?_
        refine pz_ldI hb (pc' := 48) rfl (pz_dc dX3_fit 26 rfl) (fun x6 hb => ?_)
        refine pz_iload_n (pc' := 49) (x := l1) 3 rfl (pz_dc dX3_fit 27 rfl) rfl ?_
        refine pz_icmp_ne (pc' := 52) (tgt := 67) rfl (pz_dc dX3_fit 28 rfl) (by decide) (fun hc => ?_) (fun hc => ?_)
        · replace hb := hb.1 hc
          refine pz_iinc (pc' := 70) (x := l3) (v := l3 + (1 : Int32)) (lv' := [(3, .int (l3 + (1 : Int32))), (5, .int 1), (4, .int x3), (0, .ref l0), (1, .int l1), (2, .ref l2)]) 5 rfl (pz_dc dX3_fit 39 rfl) rfl rfl (by decide) rfl ?_
          refine pz_goto (pc' := 2) (pz_dc dX3_fit 40 rfl) (by decide) ?_
          refine pz_lv (lv' := [(0, .ref l0), (1, .int l1), (2, .ref l2), (3, .int (l3 + (1 : Int32)))]) [3, 4, 5, 0] rfl ?_
          exact hb
        · replace hb := hb.2 hc
          refine pz_aload_n (pc' := 53) (x := l2) 4 rfl (pz_dc dX3_fit 29 rfl) rfl ?_
          refine pz_iload (pc' := 55) (x := x3) 1 rfl (pz_dc dX3_fit 30 rfl) rfl ?_
          refine pz_ldI hb (pc' := 56) rfl (pz_dc dX3_fit 31 rfl) (fun x7 hb => ?_)
          refine pz_aload_n (pc' := 57) (x := l0) 2 rfl (pz_dc dX3_fit 32 rfl) rfl ?_
          refine pz_getR (M := mX3_fit) hb fX3_18 (pc' := 60) rfl (pz_dc dX3_fit 33 rfl) (fun a8 hb => ?_)
          refine pz_iload_n (pc' := 61) (x := l3) 5 rfl (pz_dc dX3_fit 34 rfl) rfl ?_
          refine pz_ldI hb (pc' := 62) rfl (pz_dc dX3_fit 35 rfl) (fun x9 hb => ?_)
          refine pz_icmp_eq (pc' := 65) (tgt := 67) rfl (pz_dc dX3_fit 36 rfl) (by decide) (fun hc => ?_) (fun hc => ?_)
          · replace hb := hb.1 hc
            refine pz_iinc (pc' := 70) (x := l3) (v := l3 + (1 : Int32)) (lv' := [(3, .int (l3 + (1 : Int32))), (5, .int 1), (4, .int x3), (0, .ref l0), (1, .int l1), (2, .ref l2)]) 5 rfl (pz_dc dX3_fit 39 rfl) rfl rfl (by decide) rfl ?_
            refine pz_goto (pc' := 2) (pz_dc dX3_fit 40 rfl) (by decide) ?_
            refine pz_lv (lv' := [(0, .ref l0), (1, .int l1), (2, .ref l2), (3, .int (l3 + (1 : Int32)))]) [3, 4, 5, 0] rfl ?_
            exact hb
          · replace hb := hb.2 hc
            refine pz_iconst (pc' := 66) (v := 0) rfl (pz_dc dX3_fit 37 rfl) ki_0 ?_
            exact pz_zret (pz_dc dX3_fit 38 rfl) rfl ⟨by decide, hb⟩
set_option maxRecDepth 20000 in
set_option maxHeartbeats 4000000 in
theorem wX4_init_0 {Ex : State → Nat → Prop} {Q : Option Value → pz_H → Prop} {d bc bs : Nat} {l0 : Nat}  {h : pz_H} (hD : 1 ≤ d) (hb : pz_nJ h 6 (bc) (bs) (fun (a1 : Nat) (h2 : pz_H) => pz_pF h2 l0 4 0 (.ref a1) (fun (h3 : pz_H) => Q none h3))) : pz_V mX4_init Ex Q d bc bs 0 [(0, .ref l0)] [] h := by
  refine pz_aload_n (pc' := 1) (x := l0) 0 rfl (pz_dc dX4_init 0 rfl) rfl ?_
  refine pz_obj (M := mX4_init) (pc' := 4) wX4_3 pz_oI pz_oC rfl (pz_dc dX4_init 1 rfl) (Nat.le_of_ble_eq_true rfl) (by omega) ?_
  refine pz_aload_n (pc' := 5) (x := l0) 0 rfl (pz_dc dX4_init 2 rfl) rfl ?_
  refine pz_bipush (pc' := 7) (v := 6) rfl (pz_dc dX4_init 3 rfl) kb_6 ?_
  refine pz_mkJ hb pz_ac_long (pc' := 9) rfl (pz_dc dX4_init 4 rfl) (by decide) (by decide) (by decide) (fun a1 h2 hb => ?_)
  refine pz_putv (M := mX4_init) hb pX4_9i rfl rfl (pc' := 12) rfl (pz_dc dX4_init 5 rfl) (fun h3 hb => ?_)
  exact pz_vret (pz_dc dX4_init 6 rfl) rfl hb
set_option maxRecDepth 20000 in
set_option maxHeartbeats 4000000 in
theorem wX4_size_0 {Ex : State → Nat → Prop} {Q : Option Value → pz_H → Prop} {d bc bs : Nat} {l0 : Nat}  {h : pz_H}  (hb : pz_gI h l0 4 1 (fun (x1 : Int32) => Q (some (.int x1)) h)) : pz_V mX4_size Ex Q d bc bs 0 [(0, .ref l0)] [] h := by
  refine pz_aload_n (pc' := 1) (x := l0) 0 rfl (pz_dc dX4_size 0 rfl) rfl ?_
  refine pz_getI (M := mX4_size) hb fX4_15 (pc' := 4) rfl (pz_dc dX4_size 1 rfl) (fun x1 hb => ?_)
  exact pz_iret (pz_dc dX4_size 2 rfl) rfl hb
set_option maxRecDepth 20000 in
set_option maxHeartbeats 4000000 in
theorem wX4_get_0 {Ex : State → Nat → Prop} {Q : Option Value → pz_H → Prop} {d bc bs : Nat} {l0 : Nat} {l1 : Int32}  {h : pz_H} (hD : 1 ≤ d) (hb : pz_is h l0 4 ∧ (pz_gI h l0 4 1 (fun (x1 : Int32) => ((eX4_has l1 x1) = 0 → Q (some (.long 0)) h) ∧ (¬ (eX4_has l1 x1) = 0 → pz_gR h l0 4 0 (fun (a5 : Nat) => pz_rJ h a5 l1 (fun (x6 : Int64) => Q (some (.long x6)) h)))))) : pz_V mX4_get Ex Q d bc bs 0 [(0, .ref l0), (1, .int l1)] [] h := by
  refine pz_aload_n (pc' := 1) (x := l0) 0 rfl (pz_dc dX4_get 0 rfl) rfl ?_
  refine pz_iload_n (pc' := 2) (x := l1) 1 rfl (pz_dc dX4_get 1 rfl) rfl ?_
  obtain ⟨⟨fs7, hf8⟩, hb⟩ := hb
  obtain ⟨fs2, x1, g3, g4, hb⟩ := hb
  refine pz_callV (M := mX4_get) (N := mX4_has) (d' := 0) (bc1 := 0) (bs1 := 0) (bc2 := bc) (bs2 := bs) (pc' := 5) [.int l1] vX4_19 rfl (pz_dc dX4_get 2 rfl) rfl (Nat.le_of_ble_eq_true rfl) (Nat.le_of_ble_eq_true rfl) rfl (by omega) (by omega) (by omega) hf8 ?_
  refine cX4_has ⟨fs2, x1, g3, g4, ?_⟩
  show pz_V mX4_get _ _ _ _ _ 5 [(0, .ref l0), (1, .int l1)] [.int (eX4_has l1 x1)] h
  refine pz_if_eq (pc' := 8) (tgt := 17) rfl (pz_dc dX4_get 3 rfl) (by decide) (fun hc => ?_) (fun hc => ?_)
  · replace hb := hb.1 hc
    refine pz_lconst (pc' := 18) (v := 0) rfl (pz_dc dX4_get 9 rfl) rfl ?_
    exact pz_lret (pz_dc dX4_get 10 rfl) rfl hb
  · replace hb := hb.2 hc
    refine pz_aload_n (pc' := 9) (x := l0) 0 rfl (pz_dc dX4_get 4 rfl) rfl ?_
    refine pz_getR (M := mX4_get) hb fX4_9 (pc' := 12) rfl (pz_dc dX4_get 5 rfl) (fun a5 hb => ?_)
    refine pz_iload_n (pc' := 13) (x := l1) 1 rfl (pz_dc dX4_get 6 rfl) rfl ?_
    refine pz_ldJ hb (pc' := 14) rfl (pz_dc dX4_get 7 rfl) (fun x6 hb => ?_)
    refine pz_goto (pc' := 18) (pz_dc dX4_get 8 rfl) (by decide) ?_
    exact pz_lret (pz_dc dX4_get 10 rfl) rfl hb
set_option maxRecDepth 20000 in
set_option maxHeartbeats 4000000 in
theorem wX4_clear_0 {Ex : State → Nat → Prop} {Q : Option Value → pz_H → Prop} {d bc bs : Nat} {l0 : Nat}  {h : pz_H}  (hb : pz_pF h l0 4 1 (.int 0) (fun (h1 : pz_H) => Q none h1)) : pz_V mX4_clear Ex Q d bc bs 0 [(0, .ref l0)] [] h := by
  refine pz_aload_n (pc' := 1) (x := l0) 0 rfl (pz_dc dX4_clear 0 rfl) rfl ?_
  refine pz_iconst (pc' := 2) (v := 0) rfl (pz_dc dX4_clear 1 rfl) ki_0 ?_
  refine pz_putv (M := mX4_clear) hb (pX4_15 _ rfl) rfl rfl (pc' := 5) rfl (pz_dc dX4_clear 2 rfl) (fun h1 hb => ?_)
  exact pz_vret (pz_dc dX4_clear 3 rfl) rfl hb
