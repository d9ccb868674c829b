set_option maxRecDepth 20000 in
set_option maxHeartbeats 4000000 in
theorem wX9_actSigns_0 {Ex : State → Nat → Prop} {Q : Option Value → pz_H → Prop} {d bc bs : Nat} {l0 : Int32}  {h : pz_H}  (hb : (l0.toInt = 99 ∨ l0.toInt = 110 ∨ l0.toInt = 112 ∨ l0.toInt = 115 → Q (some (.int 2)) h) ∧ (l0.toInt = 103 ∨ l0.toInt = 116 → Q (some (.int 3)) h) ∧ (l0.toInt ≠ 99 ∧ l0.toInt ≠ 110 ∧ l0.toInt ≠ 112 ∧ l0.toInt ≠ 115 ∧ l0.toInt ≠ 103 ∧ l0.toInt ≠ 116 → Q (some (.int 0)) h)) : pz_V mX9_actSigns Ex Q d bc bs 0 [(0, .int l0)] [] h := by
  refine pz_iload_n (pc' := 1) (x := l0) 0 rfl (pz_dc dX9_actSigns 0 rfl) rfl ?_
  refine pz_tableN (tgt := 92) (pz_dc dX9_actSigns 1 rfl) (by decide) (fun i hi hx => ?_) (by decide) (fun hc => ?_)
  · match i, hi, hx with
    | 0, _, hx =>
      refine ⟨_, 88, rfl, by decide, ?_⟩
      replace hb := hb.1 (by omega)
      refine pz_iconst (pc' := 89) (v := 2) rfl (pz_dc dX9_actSigns 2 rfl) ki_2 ?_
      exact pz_iret (pz_dc dX9_actSigns 3 rfl) rfl hb
    | 1, _, hx =>
      refine ⟨_, 92, rfl, by decide, ?_⟩
      replace hb := hb.2.2 (by omega)
      refine pz_iconst (pc' := 93) (v := 0) rfl (pz_dc dX9_actSigns 6 rfl) ki_0 ?_
      exact pz_iret (pz_dc dX9_actSigns 7 rfl) rfl hb
    | 2, _, hx =>
      refine ⟨_, 92, rfl, by decide, ?_⟩
      replace hb := hb.2.2 (by omega)
      refine pz_iconst (pc' := 93) (v := 0) rfl (pz_dc dX9_actSigns 6 rfl) ki_0 ?_
      exact pz_iret (pz_dc dX9_actSigns 7 rfl) rfl hb
    | 3, _, hx =>
      refine ⟨_, 92, rfl, by decide, ?_⟩
      replace hb := hb.2.2 (by omega)
      refine pz_iconst (pc' := 93) (v := 0) rfl (pz_dc dX9_actSigns 6 rfl) ki_0 ?_
      exact pz_iret (pz_dc dX9_actSigns 7 rfl) rfl hb
    | 4, _, hx =>
      refine ⟨_, 90, rfl, by decide, ?_⟩
      replace hb := hb.2.1 (by omega)
      refine pz_iconst (pc' := 91) (v := 3) rfl (pz_dc dX9_actSigns 4 rfl) ki_3 ?_
      exact pz_iret (pz_dc dX9_actSigns 5 rfl) rfl hb
    | 5, _, hx =>
      refine ⟨_, 92, rfl, by decide, ?_⟩
      replace hb := hb.2.2 (by omega)
      refine pz_iconst (pc' := 93) (v := 0) rfl (pz_dc dX9_actSigns 6 rfl) ki_0 ?_
      exact pz_iret (pz_dc dX9_actSigns 7 rfl) rfl hb
    | 6, _, hx =>
      refine ⟨_, 92, rfl, by decide, ?_⟩
      replace hb := hb.2.2 (by omega)
      refine pz_iconst (pc' := 93) (v := 0) rfl (pz_dc dX9_actSigns 6 rfl) ki_0 ?_
      exact pz_iret (pz_dc dX9_actSigns 7 rfl) rfl hb
    | 7, _, hx =>
      refine ⟨_, 92, rfl, by decide, ?_⟩
      replace hb := hb.2.2 (by omega)
      refine pz_iconst (pc' := 93) (v := 0) rfl (pz_dc dX9_actSigns 6 rfl) ki_0 ?_
      exact pz_iret (pz_dc dX9_actSigns 7 rfl) rfl hb
    | 8, _, hx =>
      refine ⟨_, 92, rfl, by decide, ?_⟩
      replace hb := hb.2.2 (by omega)
      refine pz_iconst (pc' := 93) (v := 0) rfl (pz_dc dX9_actSigns 6 rfl) ki_0 ?_
      exact pz_iret (pz_dc dX9_actSigns 7 rfl) rfl hb
    | 9, _, hx =>
      refine ⟨_, 92, rfl, by decide, ?_⟩
      replace hb := hb.2.2 (by omega)
      refine pz_iconst (pc' := 93) (v := 0) rfl (pz_dc dX9_actSigns 6 rfl) ki_0 ?_
      exact pz_iret (pz_dc dX9_actSigns 7 rfl) rfl hb
    | 10, _, hx =>
      refine ⟨_, 92, rfl, by decide, ?_⟩
      replace hb := hb.2.2 (by omega)
      refine pz_iconst (pc' := 93) (v := 0) rfl (pz_dc dX9_actSigns 6 rfl) ki_0 ?_
      exact pz_iret (pz_dc dX9_actSigns 7 rfl) rfl hb
    | 11, _, hx =>
      refine ⟨_, 88, rfl, by decide, ?_⟩
      replace hb := hb.1 (by omega)
      refine pz_iconst (pc' := 89) (v := 2) rfl (pz_dc dX9_actSigns 2 rfl) ki_2 ?_
      exact pz_iret (pz_dc dX9_actSigns 3 rfl) rfl hb
    | 12, _, hx =>
      refine ⟨_, 92, rfl, by decide, ?_⟩
      replace hb := hb.2.2 (by omega)
      refine pz_iconst (pc' := 93) (v := 0) rfl (pz_dc dX9_actSigns 6 rfl) ki_0 ?_
      exact pz_iret (pz_dc dX9_actSigns 7 rfl) rfl hb
    | 13, _, hx =>
      refine ⟨_, 88, rfl, by decide, ?_⟩
      replace hb := hb.1 (by omega)
      refine pz_iconst (pc' := 89) (v := 2) rfl (pz_dc dX9_actSigns 2 rfl) ki_2 ?_
      exact pz_iret (pz_dc dX9_actSigns 3 rfl) rfl hb
    | 14, _, hx =>
      refine ⟨_, 92, rfl, by decide, ?_⟩
      replace hb := hb.2.2 (by omega)
      refine pz_iconst (pc' := 93) (v := 0) rfl (pz_dc dX9_actSigns 6 rfl) ki_0 ?_
      exact pz_iret (pz_dc dX9_actSigns 7 rfl) rfl hb
    | 15, _, hx =>
      refine ⟨_, 92, rfl, by decide, ?_⟩
      replace hb := hb.2.2 (by omega)
      refine pz_iconst (pc' := 93) (v := 0) rfl (pz_dc dX9_actSigns 6 rfl) ki_0 ?_
      exact pz_iret (pz_dc dX9_actSigns 7 rfl) rfl hb
    | 16, _, hx =>
      refine ⟨_, 88, rfl, by decide, ?_⟩
      replace hb := hb.1 (by omega)
      refine pz_iconst (pc' := 89) (v := 2) rfl (pz_dc dX9_actSigns 2 rfl) ki_2 ?_
      exact pz_iret (pz_dc dX9_actSigns 3 rfl) rfl hb
    | 17, _, hx =>
      refine ⟨_, 90, rfl, by decide, ?_⟩
      replace hb := hb.2.1 (by omega)
      refine pz_iconst (pc' := 91) (v := 3) rfl (pz_dc dX9_actSigns 4 rfl) ki_3 ?_
      exact pz_iret (pz_dc dX9_actSigns 5 rfl) rfl hb
    | k + 18, hi, _ => exact absurd hi (by simp only [List.size_toArray, List.length_cons, List.length_nil]; omega)
  · replace hb := hb.2.2 (by omega)
    refine pz_iconst (pc' := 93) (v := 0) rfl (pz_dc dX9_actSigns 6 rfl) ki_0 ?_
    exact pz_iret (pz_dc dX9_actSigns 7 rfl) rfl hb
set_option maxRecDepth 20000 in
set_option maxHeartbeats 4000000 in
theorem wX9_doTold_0 {Ex : State → Nat → Prop} {Q : Option Value → pz_H → Prop} {d bc bs : Nat} {l0 : Nat} {l1 : Int32}  {h : pz_H} (hD : 6 ≤ d) (hb : pz_gR h l0 9 0 (fun (a1 : Nat) => pz_is h a1 6 ∧ (pz_ki mX6_at 0 0 0 (.ref a1 :: [.int l1, .int 60]) h (fun (x3 : Int32) (h2 : pz_H) => pz_gR h2 l0 9 0 (fun (a4 : Nat) => pz_is h2 a4 6 ∧ (pz_ki mX6_at 0 0 0 (.ref a4 :: [.int (l1 + ((2 : Int32))), .int 60]) h2 (fun (x6 : Int32) (h5 : pz_H) => pz_is h5 l0 9 ∧ (pz_ki mX9_digitAt 1 0 0 (.ref l0 :: [.int (l1 + ((1 : Int32)))]) h5 (fun (x8 : Int32) (h7 : pz_H) => (¬ x3 = ((103 : Int32)) → pz_is h7 l0 9 ∧ (pz_ki mX9_doAct 5 0 0 (.ref l0 :: [.int x3, .int x8, .int (x6 - ((48 : Int32)))]) h7 (fun (x10 : Int32) (h9 : pz_H) => Q (some (.int x10)) h9))) ∧ (x3 = ((103 : Int32)) → pz_is h7 l0 9 ∧ (pz_ki mX9_doAct 5 0 0 (.ref l0 :: [.int x3, .int x8, .int (x6 - ((97 : Int32)))]) h7 (fun (x12 : Int32) (h11 : pz_H) => Q (some (.int x12)) h11)))))))))))) : pz_V mX9_doTold Ex Q d bc bs 0 [(0, .ref l0), (1, .int l1)] [] h := by
  refine pz_aload_n (pc' := 1) (x := l0) 0 rfl (pz_dc dX9_doTold 0 rfl) rfl ?_
  refine pz_getR (M := mX9_doTold) hb fX9_10 (pc' := 4) rfl (pz_dc dX9_doTold 1 rfl) (fun a1 hb => ?_)
  refine pz_iload_n (pc' := 5) (x := l1) 1 rfl (pz_dc dX9_doTold 2 rfl) rfl ?_
  refine pz_bipush (pc' := 7) (v := 60) rfl (pz_dc dX9_doTold 3 rfl) kb_60 ?_
  refine pz_cVi (M := mX9_doTold) (N := mX6_at) (d' := 0) (bc1 := 0) (bs1 := 0) (bc2 := bc) (bs2 := bs) (pc' := 10) [.int l1, .int 60] hb vX9_182 rfl (pz_dc dX9_doTold 4 rfl) rfl (Nat.le_of_ble_eq_true rfl) (Nat.le_of_ble_eq_true rfl) rfl (by omega) (by omega) (by omega) (fun x3 h2 hb => ?_)
  refine pz_istore_n (pc' := 11) (lv' := [(2, .int x3), (0, .ref l0), (1, .int l1)]) rfl (pz_dc dX9_doTold 5 rfl) (by decide) rfl ?_
  refine pz_aload_n (pc' := 12) (x := l0) 1 rfl (pz_dc dX9_doTold 6 rfl) rfl ?_
  refine pz_getR (M := mX9_doTold) hb fX9_10 (pc' := 15) rfl (pz_dc dX9_doTold 7 rfl) (fun a4 hb => ?_)
  refine pz_iload_n (pc' := 16) (x := l1) 2 rfl (pz_dc dX9_doTold 8 rfl) rfl ?_
  refine pz_iconst (pc' := 17) (v := 2) rfl (pz_dc dX9_doTold 9 rfl) ki_2 ?_
  refine pz_iadd (pc' := 18) rfl (pz_dc dX9_doTold 10 rfl) ?_
  refine pz_bipush (pc' := 20) (v := 60) rfl (pz_dc dX9_doTold 11 rfl) kb_60 ?_
  refine pz_cVi (M := mX9_doTold) (N := mX6_at) (d' := 0) (bc1 := 0) (bs1 := 0) (bc2 := bc) (bs2 := bs) (pc' := 23) [.int (l1 + ((2 : Int32))), .int 60] hb vX9_182 rfl (pz_dc dX9_doTold 12 rfl) rfl (Nat.le_of_ble_eq_true rfl) (Nat.le_of_ble_eq_true rfl) rfl (by omega) (by omega) (by omega) (fun x6 h5 hb => ?_)
  refine pz_istore_n (pc' := 24) (lv' := [(3, .int x6), (2, .int x3), (0, .ref l0), (1, .int l1)]) rfl (pz_dc dX9_doTold 13 rfl) (by decide) rfl ?_
  refine pz_aload_n (pc' := 25) (x := l0) 2 rfl (pz_dc dX9_doTold 14 rfl) rfl ?_
  refine pz_iload_n (pc' := 26) (x := x3) 1 rfl (pz_dc dX9_doTold 15 rfl) rfl ?_
  refine pz_aload_n (pc' := 27) (x := l0) 2 rfl (pz_dc dX9_doTold 16 rfl) rfl ?_
  refine pz_iload_n (pc' := 28) (x := l1) 3 rfl (pz_dc dX9_doTold 17 rfl) rfl ?_
  refine pz_iconst (pc' := 29) (v := 1) rfl (pz_dc dX9_doTold 18 rfl) ki_1 ?_
  refine pz_iadd (pc' := 30) rfl (pz_dc dX9_doTold 19 rfl) ?_
  refine pz_cVi (M := mX9_doTold) (N := mX9_digitAt) (d' := 1) (bc1 := 0) (bs1 := 0) (bc2 := bc) (bs2 := bs) (pc' := 33) [.int (l1 + ((1 : Int32)))] hb vX9_361 rfl (pz_dc dX9_doTold 20 rfl) rfl (Nat.le_of_ble_eq_true rfl) (Nat.le_of_ble_eq_true rfl) rfl (by omega) (by omega) (by omega) (fun x8 h7 hb => ?_)
  refine pz_iload_n (pc' := 34) (x := x3) 1 rfl (pz_dc dX9_doTold 21 rfl) rfl ?_
  refine pz_bipush (pc' := 36) (v := 103) rfl (pz_dc dX9_doTold 22 rfl) kb_103 ?_
  refine pz_icmp_ne (pc' := 39) (tgt := 46) rfl (pz_dc dX9_doTold 23 rfl) (by decide) (fun hc => ?_) (fun hc => ?_)
  · replace hb := hb.1 hc
    refine pz_iload_n (pc' := 47) (x := x6) 0 rfl (pz_dc dX9_doTold 28 rfl) rfl ?_
    refine pz_bipush (pc' := 49) (v := 48) rfl (pz_dc dX9_doTold 29 rfl) kb_48 ?_
    refine pz_isub (pc' := 50) rfl (pz_dc dX9_doTold 30 rfl) ?_
    refine pz_cVi (M := mX9_doTold) (N := mX9_doAct) (d' := 5) (bc1 := 0) (bs1 := 0) (bc2 := bc) (bs2 := bs) (pc' := 53) [.int x3, .int x8, .int (x6 - ((48 : Int32)))] hb vX9_369 rfl (pz_dc dX9_doTold 31 rfl) rfl (Nat.le_of_ble_eq_true rfl) (Nat.le_of_ble_eq_true rfl) rfl (by omega) (by omega) (by omega) (fun x10 h9 hb => ?_)
    exact pz_iret (pz_dc dX9_doTold 32 rfl) rfl hb
  · replace hb := hb.2 hc
    refine pz_iload_n (pc' := 40) (x := x6) 0 rfl (pz_dc dX9_doTold 24 rfl) rfl ?_
    refine pz_bipush (pc' := 42) (v := 97) rfl (pz_dc dX9_doTold 25 rfl) kb_97 ?_
    refine pz_isub (pc' := 43) rfl (pz_dc dX9_doTold 26 rfl) ?_
    refine pz_goto (pc' := 50) (pz_dc dX9_doTold 27 rfl) (by decide) ?_
    refine pz_cVi (M := mX9_doTold) (N := mX9_doAct) (d' := 5) (bc1 := 0) (bs1 := 0) (bc2 := bc) (bs2 := bs) (pc' := 53) [.int x3, .int x8, .int (x6 - ((97 : Int32)))] hb vX9_369 rfl (pz_dc dX9_doTold 31 rfl) rfl (Nat.le_of_ble_eq_true rfl) (Nat.le_of_ble_eq_true rfl) rfl (by omega) (by omega) (by omega) (fun x12 h11 hb => ?_)
    exact pz_iret (pz_dc dX9_doTold 32 rfl) rfl hb
set_option maxRecDepth 20000 in
set_option maxHeartbeats 4000000 in
theorem wX9_doDrawn_0 {Ex : State → Nat → Prop} {Q : Option Value → pz_H → Prop} {d bc bs : Nat} {l0 : Nat} {l1 : Int32}  {h : pz_H} (hD : 4 ≤ d) (hb : (((2 : Int32)) ≤ l1 → pz_gR h l0 9 2 (fun (a1 : Nat) => pz_is h a1 1 ∧ (pz_gI h a1 1 4 (fun (x2 : Int32) => (¬ x2 = 0 → pz_gR h l0 9 2 (fun (a3 : Nat) => pz_is h a3 1 ∧ (pz_gI h a3 1 4 (fun (x4 : Int32) => pz_is h l0 9 ∧ (pz_ki mX9_draw 0 0 0 (.ref l0 :: [.int x4]) h (fun (x6 : Int32) (h5 : pz_H) => (¬ l1 = ((2 : Int32)) → pz_gR h5 l0 9 2 (fun (a7 : Nat) => pz_is h5 a7 1 ∧ (pz_gI h5 a7 1 4 (fun (x8 : Int32) => ((eX1_has x6 x8) = 0 → Q none h5) ∧ (¬ (eX1_has x6 x8) = 0 → pz_gR h5 l0 9 5 (fun (a12 : Nat) => pz_gR h5 a12 8 2 (fun (a13 : Nat) => pz_is h5 l0 9 ∧ (pz_ki mX9_draw 0 0 0 (.ref l0 :: [.int 10]) h5 (fun (x15 : Int32) (h14 : pz_H) => pz_sI h14 a13 x6 x15 (fun (h16 : pz_H) => Q none h16)))))))))) ∧ (l1 = ((2 : Int32)) → pz_gR h5 l0 9 5 (fun (a19 : Nat) => pz_gI h5 a19 8 5 (fun (x20 : Int32) => pz_pF h5 a19 8 5 (.int (x20 ^^^ (((1 : Int32)) <<< (x6 &&& 31)))) (fun (h21 : pz_H) => Q none h21)))))))))) ∧ (x2 = 0 → Q none h))))) ∧ (¬ ((2 : Int32)) ≤ l1 → pz_gR h l0 9 2 (fun (a26 : Nat) => pz_gR h l0 9 5 (fun (a27 : Nat) => pz_gR h l0 9 12 (fun (a28 : Nat) => pz_is h a26 1 ∧ (pz_kv mX1_passDay 3 0 0 (.ref a26 :: [.ref a27, .ref a28]) h (fun (h29 : pz_H) => Q none h29))))))) : pz_V mX9_doDrawn Ex Q d bc bs 0 [(0, .ref l0), (1, .int l1)] [] h := by
  refine pz_iload_n (pc' := 1) (x := l1) 1 rfl (pz_dc dX9_doDrawn 0 rfl) rfl ?_
  refine pz_iconst (pc' := 2) (v := 2) rfl (pz_dc dX9_doDrawn 1 rfl) ki_2 ?_
  refine pz_icmp_ge (pc' := 5) (tgt := 21) rfl (pz_dc dX9_doDrawn 2 rfl) (by decide) (fun hc => ?_) (fun hc => ?_)
  · replace hb := hb.1 hc
    refine pz_aload_n (pc' := 22) (x := l0) 0 rfl (pz_dc dX9_doDrawn 11 rfl) rfl ?_
    refine pz_getR (M := mX9_doDrawn) hb fX9_26 (pc' := 25) rfl (pz_dc dX9_doDrawn 12 rfl) (fun a1 hb => ?_)
    obtain ⟨⟨fs24, hf25⟩, hb⟩ := hb
    refine pz_callV (M := mX9_doDrawn) (N := mX1_size) (d' := 0) (bc1 := 0) (bs1 := 0) (bc2 := bc) (bs2 := bs) (pc' := 28) [] vX9_208 rfl (pz_dc dX9_doDrawn 13 rfl) rfl (Nat.le_of_ble_eq_true rfl) (Nat.le_of_ble_eq_true rfl) rfl (by omega) (by omega) (by omega) hf25 ?_
    refine pz_aload_n (pc' := 1) (x := a1) 0 rfl (pz_dc dX1_size 0 rfl) rfl ?_
    refine pz_getI (M := mX1_size) hb fX1_24 (pc' := 4) rfl (pz_dc dX1_size 1 rfl) (fun x2 hb => ?_)
    refine pz_iret (pz_dc dX1_size 2 rfl) rfl ?_
    show pz_V mX9_doDrawn _ _ _ _ _ 28 [(0, .ref l0), (1, .int l1)] [.int x2] h
    refine pz_if_ne (pc' := 31) (tgt := 32) rfl (pz_dc dX9_doDrawn 14 rfl) (by decide) (fun hc => ?_) (fun hc => ?_)
    · replace hb := hb.1 hc
      refine pz_aload_n (pc' := 33) (x := l0) 0 rfl (pz_dc dX9_doDrawn 16 rfl) rfl ?_
      refine pz_aload_n (pc' := 34) (x := l0) 0 rfl (pz_dc dX9_doDrawn 17 rfl) rfl ?_
      refine pz_getR (M := mX9_doDrawn) hb fX9_26 (pc' := 37) rfl (pz_dc dX9_doDrawn 18 rfl) (fun a3 hb => ?_)
      obtain ⟨⟨fs22, hf23⟩, hb⟩ := hb
      refine pz_callV (M := mX9_doDrawn) (N := mX1_size) (d' := 0) (bc1 := 0) (bs1 := 0) (bc2 := bc) (bs2 := bs) (pc' := 40) [] vX9_208 rfl (pz_dc dX9_doDrawn 19 rfl) rfl (Nat.le_of_ble_eq_true rfl) (Nat.le_of_ble_eq_true rfl) rfl (by omega) (by omega) (by omega) hf23 ?_
      refine pz_aload_n (pc' := 1) (x := a3) 0 rfl (pz_dc dX1_size 0 rfl) rfl ?_
      refine pz_getI (M := mX1_size) hb fX1_24 (pc' := 4) rfl (pz_dc dX1_size 1 rfl) (fun x4 hb => ?_)
      refine pz_iret (pz_dc dX1_size 2 rfl) rfl ?_
      show pz_V mX9_doDrawn _ _ _ _ _ 40 [(0, .ref l0), (1, .int l1)] [.int x4, .ref l0] h
      refine pz_cVi (M := mX9_doDrawn) (N := mX9_draw) (d' := 0) (bc1 := 0) (bs1 := 0) (bc2 := bc) (bs2 := bs) (pc' := 43) [.int x4] hb vX9_331 rfl (pz_dc dX9_doDrawn 20 rfl) rfl (Nat.le_of_ble_eq_true rfl) (Nat.le_of_ble_eq_true rfl) rfl (by omega) (by omega) (by omega) (fun x6 h5 hb => ?_)
      refine pz_istore_n (pc' := 44) (lv' := [(2, .int x6), (0, .ref l0), (1, .int l1)]) rfl (pz_dc dX9_doDrawn 21 rfl) (by decide) rfl ?_
      refine pz_iload_n (pc' := 45) (x := l1) 2 rfl (pz_dc dX9_doDrawn 22 rfl) rfl ?_
      refine pz_iconst (pc' := 46) (v := 2) rfl (pz_dc dX9_doDrawn 23 rfl) ki_2 ?_
      refine pz_icmp_ne (pc' := 49) (tgt := 67) rfl (pz_dc dX9_doDrawn 24 rfl) (by decide) (fun hc => ?_) (fun hc => ?_)
      · replace hb := hb.1 hc
        refine pz_aload_n (pc' := 68) (x := l0) 1 rfl (pz_dc dX9_doDrawn 35 rfl) rfl ?_
        refine pz_getR (M := mX9_doDrawn) hb fX9_26 (pc' := 71) rfl (pz_dc dX9_doDrawn 36 rfl) (fun a7 hb => ?_)
        refine pz_iload_n (pc' := 72) (x := x6) 0 rfl (pz_dc dX9_doDrawn 37 rfl) rfl ?_
        obtain ⟨⟨fs17, hf18⟩, hb⟩ := hb
        obtain ⟨fs9, x8, g10, g11, hb⟩ := hb
        refine pz_callV (M := mX9_doDrawn) (N := mX1_has) (d' := 0) (bc1 := 0) (bs1 := 0) (bc2 := bc) (bs2 := bs) (pc' := 75) [.int x6] vX9_115 rfl (pz_dc dX9_doDrawn 38 rfl) rfl (Nat.le_of_ble_eq_true rfl) (Nat.le_of_ble_eq_true rfl) rfl (by omega) (by omega) (by omega) hf18 ?_
        refine cX1_has ⟨fs9, x8, g10, g11, ?_⟩
        show pz_V mX9_doDrawn _ _ _ _ _ 75 [(2, .int x6), (0, .ref l0), (1, .int l1)] [.int (eX1_has x6 x8)] h5
        refine pz_if_eq (pc' := 78) (tgt := 93) rfl (pz_dc dX9_doDrawn 39 rfl) (by decide) (fun hc => ?_) (fun hc => ?_)
        · replace hb := hb.1 hc
          exact pz_vret (pz_dc dX9_doDrawn 48 rfl) rfl hb
        · replace hb := hb.2 hc
          refine pz_aload_n (pc' := 79) (x := l0) 1 rfl (pz_dc dX9_doDrawn 40 rfl) rfl ?_
          refine pz_getR (M := mX9_doDrawn) hb fX9_40 (pc' := 82) rfl (pz_dc dX9_doDrawn 41 rfl) (fun a12 hb => ?_)
          refine pz_getR (M := mX9_doDrawn) hb fX9_124 (pc' := 85) rfl (pz_dc dX9_doDrawn 42 rfl) (fun a13 hb => ?_)
          refine pz_iload_n (pc' := 86) (x := x6) 0 rfl (pz_dc dX9_doDrawn 43 rfl) rfl ?_
          refine pz_aload_n (pc' := 87) (x := l0) 1 rfl (pz_dc dX9_doDrawn 44 rfl) rfl ?_
          refine pz_bipush (pc' := 89) (v := 10) rfl (pz_dc dX9_doDrawn 45 rfl) kb_10 ?_
          refine pz_cVi (M := mX9_doDrawn) (N := mX9_draw) (d' := 0) (bc1 := 0) (bs1 := 0) (bc2 := bc) (bs2 := bs) (pc' := 92) [.int 10] hb vX9_331 rfl (pz_dc dX9_doDrawn 46 rfl) rfl (Nat.le_of_ble_eq_true rfl) (Nat.le_of_ble_eq_true rfl) rfl (by omega) (by omega) (by omega) (fun x15 h14 hb => ?_)
          refine pz_stI hb (pc' := 93) rfl (pz_dc dX9_doDrawn 47 rfl) (fun h16 hb => ?_)
          exact pz_vret (pz_dc dX9_doDrawn 48 rfl) rfl hb
      · replace hb := hb.2 hc
        refine pz_aload_n (pc' := 50) (x := l0) 1 rfl (pz_dc dX9_doDrawn 25 rfl) rfl ?_
        refine pz_getR (M := mX9_doDrawn) hb fX9_40 (pc' := 53) rfl (pz_dc dX9_doDrawn 26 rfl) (fun a19 hb => ?_)
        refine pz_dup (pc' := 54) rfl (pz_dc dX9_doDrawn 27 rfl) rfl ?_
        refine pz_getI (M := mX9_doDrawn) hb fX9_260 (pc' := 57) rfl (pz_dc dX9_doDrawn 28 rfl) (fun x20 hb => ?_)
        refine pz_iconst (pc' := 58) (v := 1) rfl (pz_dc dX9_doDrawn 29 rfl) ki_1 ?_
        refine pz_iload_n (pc' := 59) (x := x6) 0 rfl (pz_dc dX9_doDrawn 30 rfl) rfl ?_
        refine pz_ishl (pc' := 60) rfl (pz_dc dX9_doDrawn 31 rfl) ?_
        refine pz_ixor (pc' := 61) rfl (pz_dc dX9_doDrawn 32 rfl) ?_
        refine pz_putv (M := mX9_doDrawn) hb (pX9_260 _ rfl) rfl rfl (pc' := 64) rfl (pz_dc dX9_doDrawn 33 rfl) (fun h21 hb => ?_)
        refine pz_goto (pc' := 93) (pz_dc dX9_doDrawn 34 rfl) (by decide) ?_
        exact pz_vret (pz_dc dX9_doDrawn 48 rfl) rfl hb
    · replace hb := hb.2 hc
      exact pz_vret (pz_dc dX9_doDrawn 15 rfl) rfl hb
  · replace hb := hb.2 hc
    refine pz_aload_n (pc' := 6) (x := l0) 0 rfl (pz_dc dX9_doDrawn 3 rfl) rfl ?_
    refine pz_getR (M := mX9_doDrawn) hb fX9_26 (pc' := 9) rfl (pz_dc dX9_doDrawn 4 rfl) (fun a26 hb => ?_)
    refine pz_aload_n (pc' := 10) (x := l0) 0 rfl (pz_dc dX9_doDrawn 5 rfl) rfl ?_
    refine pz_getR (M := mX9_doDrawn) hb fX9_40 (pc' := 13) rfl (pz_dc dX9_doDrawn 6 rfl) (fun a27 hb => ?_)
    refine pz_aload_n (pc' := 14) (x := l0) 0 rfl (pz_dc dX9_doDrawn 7 rfl) rfl ?_
    refine pz_getR (M := mX9_doDrawn) hb fX9_78 (pc' := 17) rfl (pz_dc dX9_doDrawn 8 rfl) (fun a28 hb => ?_)
    refine pz_cVv (M := mX9_doDrawn) (N := mX1_passDay) (d' := 3) (bc1 := 0) (bs1 := 0) (bc2 := bc) (bs2 := bs) (pc' := 20) [.ref a27, .ref a28] hb vX9_214 rfl (pz_dc dX9_doDrawn 9 rfl) rfl (Nat.le_of_ble_eq_true rfl) (Nat.le_of_ble_eq_true rfl) rfl (by omega) (by omega) (by omega) (fun h29 hb => ?_)
    exact pz_vret (pz_dc dX9_doDrawn 10 rfl) rfl hb
set_option maxRecDepth 20000 in
set_option maxHeartbeats 4000000 in
theorem wX9_draw_0 {Ex : State → Nat → Prop} {Q : Option Value → pz_H → Prop} {d bc bs : Nat} {l0 : Nat} {l1 : Int32}  {h : pz_H}  (hb : pz_gI h l0 9 16 (fun (x1 : Int32) => pz_pF h l0 9 16 (.int ((x1 * ((1103515245 : Int32))) + ((12345 : Int32)))) (fun (h2 : pz_H) => (l1 ≤ 0 → Q (some (.int 0)) h2) ∧ (¬ l1 ≤ 0 → pz_gI h2 l0 9 16 (fun (x3 : Int32) => ¬ l1 = 0 ∧ (Q (some (.int (((x3.toUInt32 >>> (((16 : Int32)).toUInt32 &&& Int32.toUInt32 31)).toInt32) - ((x3.toUInt32 >>> (((16 : Int32)).toUInt32 &&& Int32.toUInt32 31)).toInt32) / l1 * l1))) h2)))))) : pz_V mX9_draw Ex Q d bc bs 0 [(0, .ref l0), (1, .int l1)] [] h := by
  refine pz_aload_n (pc' := 1) (x := l0) 0 rfl (pz_dc dX9_draw 0 rfl) rfl ?_
  refine pz_aload_n (pc' := 2) (x := l0) 0 rfl (pz_dc dX9_draw 1 rfl) rfl ?_
  refine pz_getI (M := mX9_draw) hb fX9_328 (pc' := 5) rfl (pz_dc dX9_draw 2 rfl) (fun x1 hb => ?_)
  refine pz_ldcw (M := mX9_draw) (pc' := 8) cX9_383 rfl (pz_dc dX9_draw 3 rfl) ?_
  refine pz_imul (pc' := 9) rfl (pz_dc dX9_draw 4 rfl) ?_
  refine pz_sipush (pc' := 12) (v := 12345) rfl (pz_dc dX9_draw 5 rfl) ks_12345 ?_
  refine pz_iadd (pc' := 13) rfl (pz_dc dX9_draw 6 rfl) ?_
  refine pz_putv (M := mX9_draw) hb (pX9_328 _ rfl) rfl rfl (pc' := 16) rfl (pz_dc dX9_draw 7 rfl) (fun h2 hb => ?_)
  refine pz_iload_n (pc' := 17) (x := l1) 1 rfl (pz_dc dX9_draw 8 rfl) rfl ?_
  refine pz_if_le (pc' := 20) (tgt := 32) rfl (pz_dc dX9_draw 9 rfl) (by decide) (fun hc => ?_) (fun hc => ?_)
  · replace hb := hb.1 hc
    refine pz_iconst (pc' := 33) (v := 0) rfl (pz_dc dX9_draw 17 rfl) ki_0 ?_
    exact pz_iret (pz_dc dX9_draw 18 rfl) rfl hb
  · replace hb := hb.2 hc
    refine pz_aload_n (pc' := 21) (x := l0) 0 rfl (pz_dc dX9_draw 10 rfl) rfl ?_
    refine pz_getI (M := mX9_draw) hb fX9_328 (pc' := 24) rfl (pz_dc dX9_draw 11 rfl) (fun x3 hb => ?_)
    refine pz_bipush (pc' := 26) (v := 16) rfl (pz_dc dX9_draw 12 rfl) kb_16 ?_
    refine pz_iushr (pc' := 27) rfl (pz_dc dX9_draw 13 rfl) ?_
    refine pz_iload_n (pc' := 28) (x := l1) 1 rfl (pz_dc dX9_draw 14 rfl) rfl ?_
    refine pz_irem (pc' := 29) rfl (pz_dc dX9_draw 15 rfl) hb.1 ?_
    replace hb := hb.2
    refine pz_goto (pc' := 33) (pz_dc dX9_draw 16 rfl) (by decide) ?_
    exact pz_iret (pz_dc dX9_draw 18 rfl) rfl hb
set_option maxRecDepth 20000 in
set_option maxHeartbeats 4000000 in
theorem wX9_fewestTouched_0 {Ex : State → Nat → Prop} {Q : Option Value → pz_H → Prop} {d bc bs : Nat} {l0 : Nat} {l1 : Int32} {l2 : Int32} {l3 : Int32}  {h : pz_H} (hD : 5 ≤ d) (hb : pz_V mX9_fewestTouched Ex Q d bc bs 3 [(0, .ref l0), (1, .int l1), (2, .int l2), (3, .int l3), (4, .int 0)] [] h) : pz_V mX9_fewestTouched Ex Q d bc bs 0 [(0, .ref l0), (1, .int l1), (2, .int l2), (3, .int l3)] [] h := by
  refine pz_iconst (pc' := 1) (v := 0) rfl (pz_dc dX9_fewestTouched 0 rfl) ki_0 ?_
  refine pz_istore (pc' := 3) (lv' := [(4, .int 0), (0, .ref l0), (1, .int l1), (2, .int l2), (3, .int l3)]) rfl (pz_dc dX9_fewestTouched 1 rfl) (by decide) rfl ?_
  refine pz_lv (lv' := [(0, .ref l0), (1, .int l1), (2, .int l2), (3, .int l3), (4, .int 0)]) [1, 2, 3, 4, 0] rfl ?_
  exact hb
set_option maxRecDepth 20000 in
set_option maxHeartbeats 4000000 in
theorem wX9_fewestTouched_3 {Ex : State → Nat → Prop} {Q : Option Value → pz_H → Prop} {d bc bs : Nat} {l0 : Nat} {l1 : Int32} {l2 : Int32} {l3 : Int32} {l4 : Int32}  {h : pz_H} (hD : 5 ≤ d) (hb : pz_gR h l0 9 2 (fun (a1 : Nat) => pz_is h a1 1 ∧ (pz_gI h a1 1 4 (fun (x2 : Int32) => (x2 < l4 → Q (some (.int ((-2)))) h) ∧ (¬ x2 < l4 → pz_V mX9_fewestTouched Ex Q d bc bs 18 [(0, .ref l0), (1, .int l1), (2, .int l2), (3, .int l3), (4, .int l4), (5, .int 0)] [] h))))) : pz_V mX9_fewestTouched Ex Q d bc bs 3 [(0, .ref l0), (1, .int l1), (2, .int l2), (3, .int l3), (4, .int l4)] [] h := by
  refine pz_iload (pc' := 5) (x := l4) 4 rfl (pz_dc dX9_fewestTouched 2 rfl) rfl ?_
  refine pz_aload_n (pc' := 6) (x := l0) 0 rfl (pz_dc dX9_fewestTouched 3 rfl) rfl ?_
  refine pz_getR (M := mX9_fewestTouched) hb fX9_26 (pc' := 9) rfl (pz_dc dX9_fewestTouched 4 rfl) (fun a1 hb => ?_)
  obtain ⟨⟨fs3, hf4⟩, hb⟩ := hb
  refine pz_callV (M := mX9_fewestTouched) (N := mX1_size) (d' := 0) (bc1 := 0) (bs1 := 0) (bc2 := bc) (bs2 := bs) (pc' := 12) [] vX9_208 rfl (pz_dc dX9_fewestTouched 5 rfl) rfl (Nat.le_of_ble_eq_true rfl) (Nat.le_of_ble_eq_true rfl) rfl (by omega) (by omega) (by omega) hf4 ?_
  refine pz_aload_n (pc' := 1) (x := a1) 0 rfl (pz_dc dX1_size 0 rfl) rfl ?_
  refine pz_getI (M := mX1_size) hb fX1_24 (pc' := 4) rfl (pz_dc dX1_size 1 rfl) (fun x2 hb => ?_)
  refine pz_iret (pz_dc dX1_size 2 rfl) rfl ?_
  show pz_V mX9_fewestTouched _ _ _ _ _ 12 [(0, .ref l0), (1, .int l1), (2, .int l2), (3, .int l3), (4, .int l4)] [.int x2, .int l4] h
  refine pz_icmp_gt (pc' := 15) (tgt := 116) rfl (pz_dc dX9_fewestTouched 6 rfl) (by decide) (fun hc => ?_) (fun hc => ?_)
  · replace hb := hb.1 hc
    refine pz_bipush (pc' := 118) (v := (-2)) rfl (pz_dc dX9_fewestTouched 55 rfl) kb_m2 ?_
    exact pz_iret (pz_dc dX9_fewestTouched 56 rfl) rfl hb
  · replace hb := hb.2 hc
    refine pz_iconst (pc' := 16) (v := 0) rfl (pz_dc dX9_fewestTouched 7 rfl) ki_0 ?_
    refine pz_istore (pc' := 18) (lv' := [(5, .int 0), (0, .ref l0), (1, .int l1), (2, .int l2), (3, .int l3), (4, .int l4)]) rfl (pz_dc dX9_fewestTouched 8 rfl) (by decide) rfl ?_
    refine pz_lv (lv' := [(0, .ref l0), (1, .int l1), (2, .int l2), (3, .int l3), (4, .int l4), (5, .int 0)]) [1, 2, 3, 4, 5, 0] rfl ?_
    exact hb
set_option maxRecDepth 20000 in
set_option maxHeartbeats 4000000 in
theorem wX9_fewestTouched_18 {Ex : State → Nat → Prop} {Q : Option Value → pz_H → Prop} {d bc bs : Nat} {l0 : Nat} {l1 : Int32} {l2 : Int32} {l3 : Int32} {l4 : Int32} {l5 : Int32}  {h : pz_H} (hD : 5 ≤ d) (hb : pz_gR h l0 9 2 (fun (a1 : Nat) => pz_is h a1 1 ∧ (pz_gI h a1 1 4 (fun (x2 : Int32) => ((eX1_all x2) < l5 → pz_V mX9_fewestTouched Ex Q d bc bs 3 [(0, .ref l0), (1, .int l1), (2, .int l2), (3, .int l3), (4, .int (l4 + (1 : Int32)))] [] h) ∧ (¬ (eX1_all x2) < l5 → pz_ki mJ6_bitCount_0f7a4 0 0 0 ([.int l5]) h (fun (x7 : Int32) (h6 : pz_H) => (¬ x7 = l4 → pz_V mX9_fewestTouched Ex Q d bc bs 18 [(0, .ref l0), (1, .int l1), (2, .int l2), (3, .int l3), (4, .int l4), (5, .int (l5 + (1 : Int32)))] [] h6) ∧ (x7 = l4 → pz_is h6 l0 9 ∧ (pz_kv mX9_startTrial 2 0 0 (.ref l0 :: []) h6 (fun (h8 : pz_H) => pz_gR h8 l0 9 5 (fun (a9 : Nat) => pz_gI h8 a9 8 5 (fun (x10 : Int32) => pz_pF h8 a9 8 5 (.int (x10 ^^^ l5)) (fun (h11 : pz_H) => pz_gR h11 l0 9 2 (fun (a12 : Nat) => pz_gR h11 l0 9 5 (fun (a13 : Nat) => pz_gR h11 l0 9 12 (fun (a14 : Nat) => pz_is h11 a12 1 ∧ (pz_kv mX1_passDays 4 0 0 (.ref a12 :: [.ref a13, .ref a14, .int l3]) h11 (fun (h15 : pz_H) => pz_gR h15 l0 9 2 (fun (a16 : Nat) => pz_gR h15 l0 9 5 (fun (a17 : Nat) => pz_is h15 a16 1 ∧ (pz_ki mX1_dry 0 0 0 (.ref a16 :: [.ref a17]) h15 (fun (x19 : Int32) (h18 : pz_H) => (¬ (x19 &&& l1) = l2 → pz_V mX9_fewestTouched Ex Q d bc bs 18 [(0, .ref l0), (1, .int l1), (2, .int l2), (3, .int l3), (4, .int l4), (5, .int (l5 + (1 : Int32)))] [] h18) ∧ ((x19 &&& l1) = l2 → pz_gR h18 l0 9 1 (fun (a20 : Nat) => pz_is h18 a20 4 ∧ (pz_kv mX4_tell 1 0 0 (.ref a20 :: [.long l5.toInt64]) h18 (fun (h21 : pz_H) => Q (some (.int l4)) h21))))))))))))))))))))))))) : pz_V mX9_fewestTouched Ex Q d bc bs 18 [(0, .ref l0), (1, .int l1), (2, .int l2), (3, .int l3), (4, .int l4), (5, .int l5)] [] h := by
  refine pz_iload (pc' := 20) (x := l5) 5 rfl (pz_dc dX9_fewestTouched 9 rfl) rfl ?_
  refine pz_aload_n (pc' := 21) (x := l0) 0 rfl (pz_dc dX9_fewestTouched 10 rfl) rfl ?_
  refine pz_getR (M := mX9_fewestTouched) hb fX9_26 (pc' := 24) rfl (pz_dc dX9_fewestTouched 11 rfl) (fun a1 hb => ?_)
  obtain ⟨⟨fs22, hf23⟩, hb⟩ := hb
  obtain ⟨fs3, x2, g4, g5, hb⟩ := hb
  refine pz_callV (M := mX9_fewestTouched) (N := mX1_all) (d' := 0) (bc1 := 0) (bs1 := 0) (bc2 := bc) (bs2 := bs) (pc' := 27) [] vX9_257 rfl (pz_dc dX9_fewestTouched 12 rfl) rfl (Nat.le_of_ble_eq_true rfl) (Nat.le_of_ble_eq_true rfl) rfl (by omega) (by omega) (by omega) hf23 ?_
  refine cX1_all ⟨fs3, x2, g4, g5, ?_⟩
  show pz_V mX9_fewestTouched _ _ _ _ _ 27 [(0, .ref l0), (1, .int l1), (2, .int l2), (3, .int l3), (4, .int l4), (5, .int l5)] [.int (eX1_all x2), .int l5] h
  refine pz_icmp_gt (pc' := 30) (tgt := 110) rfl (pz_dc dX9_fewestTouched 13 rfl) (by decide) (fun hc => ?_) (fun hc => ?_)
  · replace hb := hb.1 hc
    refine pz_iinc (pc' := 113) (x := l4) (v := l4 + (1 : Int32)) (lv' := [(4, .int (l4 + (1 : Int32))), (0, .ref l0), (1, .int l1), (2, .int l2), (3, .int l3), (5, .int l5)]) 4 rfl (pz_dc dX9_fewestTouched 53 rfl) rfl rfl (by decide) rfl ?_
    refine pz_goto (pc' := 3) (pz_dc dX9_fewestTouched 54 rfl) (by decide) ?_
    refine pz_lv (lv' := [(0, .ref l0), (1, .int l1), (2, .int l2), (3, .int l3), (4, .int (l4 + (1 : Int32)))]) [1, 2, 3, 4, 0] rfl ?_
    exact hb
  · replace hb := hb.2 hc
    refine pz_iload (pc' := 32) (x := l5) 5 rfl (pz_dc dX9_fewestTouched 14 rfl) rfl ?_
    refine pz_cSi (M := mX9_fewestTouched) (N := mJ6_bitCount_0f7a4) (d' := 0) (bc1 := 0) (bs1 := 0) (bc2 := bc) (bs2 := bs) (pc' := 35) [.int l5] hb sX9_238 rfl (pz_dc dX9_fewestTouched 15 rfl) rfl (Nat.le_of_ble_eq_true rfl) (Nat.le_of_ble_eq_true rfl) rfl (by omega) (by omega) (by omega) (fun x7 h6 hb => ?_)
    refine pz_iload (pc' := 37) (x := l4) 4 rfl (pz_dc dX9_fewestTouched 16 rfl) rfl ?_
    refine pz_icmp_ne (pc' := 40) (tgt := 104) rfl (pz_dc dX9_fewestTouched 17 rfl) (by decide) (fun hc => ?_) (fun hc => ?_)
    · replace hb := hb.1 hc
      refine pz_iinc (pc' := 107) (x := l5) (v := l5 + (1 : Int32)) (lv' := [(5, .int (l5 + (1 : Int32))), (0, .ref l0), (1, .int l1), (2, .int l2), (3, .int l3), (4, .int l4)]) 5 rfl (pz_dc dX9_fewestTouched 51 rfl) rfl rfl (by decide) rfl ?_
      refine pz_goto (pc' := 18) (pz_dc dX9_fewestTouched 52 rfl) (by decide) ?_
      refine pz_lv (lv' := [(0, .ref l0), (1, .int l1), (2, .int l2), (3, .int l3), (4, .int l4), (5, .int (l5 + (1 : Int32)))]) [1, 2, 3, 4, 5, 0] rfl ?_
      exact hb
    · replace hb := hb.2 hc
      refine pz_aload_n (pc' := 41) (x := l0) 0 rfl (pz_dc dX9_fewestTouched 18 rfl) rfl ?_
      refine pz_cVv (M := mX9_fewestTouched) (N := mX9_startTrial) (d' := 2) (bc1 := 0) (bs1 := 0) (bc2 := bc) (bs2 := bs) (pc' := 44) [] hb vX9_200 rfl (pz_dc dX9_fewestTouched 19 rfl) rfl (Nat.le_of_ble_eq_true rfl) (Nat.le_of_ble_eq_true rfl) rfl (by omega) (by omega) (by omega) (fun h8 hb => ?_)
      refine pz_aload_n (pc' := 45) (x := l0) 0 rfl (pz_dc dX9_fewestTouched 20 rfl) rfl ?_
      refine pz_getR (M := mX9_fewestTouched) hb fX9_40 (pc' := 48) rfl (pz_dc dX9_fewestTouched 21 rfl) (fun a9 hb => ?_)
      refine pz_dup (pc' := 49) rfl (pz_dc dX9_fewestTouched 22 rfl) rfl ?_
      refine pz_getI (M := mX9_fewestTouched) hb fX9_260 (pc' := 52) rfl (pz_dc dX9_fewestTouched 23 rfl) (fun x10 hb => ?_)
      refine pz_iload (pc' := 54) (x := l5) 5 rfl (pz_dc dX9_fewestTouched 24 rfl) rfl ?_
      refine pz_ixor (pc' := 55) rfl (pz_dc dX9_fewestTouched 25 rfl) ?_
      refine pz_putv (M := mX9_fewestTouched) hb (pX9_260 _ rfl) rfl rfl (pc' := 58) rfl (pz_dc dX9_fewestTouched 26 rfl) (fun h11 hb => ?_)
      refine pz_aload_n (pc' := 59) (x := l0) 0 rfl (pz_dc dX9_fewestTouched 27 rfl) rfl ?_
      refine pz_getR (M := mX9_fewestTouched) hb fX9_26 (pc' := 62) rfl (pz_dc dX9_fewestTouched 28 rfl) (fun a12 hb => ?_)
      refine pz_aload_n (pc' := 63) (x := l0) 0 rfl (pz_dc dX9_fewestTouched 29 rfl) rfl ?_
      refine pz_getR (M := mX9_fewestTouched) hb fX9_40 (pc' := 66) rfl (pz_dc dX9_fewestTouched 30 rfl) (fun a13 hb => ?_)
      refine pz_aload_n (pc' := 67) (x := l0) 0 rfl (pz_dc dX9_fewestTouched 31 rfl) rfl ?_
      refine pz_getR (M := mX9_fewestTouched) hb fX9_78 (pc' := 70) rfl (pz_dc dX9_fewestTouched 32 rfl) (fun a14 hb => ?_)
      refine pz_iload_n (pc' := 71) (x := l3) 3 rfl (pz_dc dX9_fewestTouched 33 rfl) rfl ?_
      refine pz_cVv (M := mX9_fewestTouched) (N := mX1_passDays) (d' := 4) (bc1 := 0) (bs1 := 0) (bc2 := bc) (bs2 := bs) (pc' := 74) [.ref a13, .ref a14, .int l3] hb vX9_203 rfl (pz_dc dX9_fewestTouched 34 rfl) rfl (Nat.le_of_ble_eq_true rfl) (Nat.le_of_ble_eq_true rfl) rfl (by omega) (by omega) (by omega) (fun h15 hb => ?_)
      refine pz_aload_n (pc' := 75) (x := l0) 0 rfl (pz_dc dX9_fewestTouched 35 rfl) rfl ?_
      refine pz_getR (M := mX9_fewestTouched) hb fX9_26 (pc' := 78) rfl (pz_dc dX9_fewestTouched 36 rfl) (fun a16 hb => ?_)
      refine pz_aload_n (pc' := 79) (x := l0) 0 rfl (pz_dc dX9_fewestTouched 37 rfl) rfl ?_
      refine pz_getR (M := mX9_fewestTouched) hb fX9_40 (pc' := 82) rfl (pz_dc dX9_fewestTouched 38 rfl) (fun a17 hb => ?_)
      refine pz_cVi (M := mX9_fewestTouched) (N := mX1_dry) (d' := 0) (bc1 := 0) (bs1 := 0) (bc2 := bc) (bs2 := bs) (pc' := 85) [.ref a17] hb vX9_235 rfl (pz_dc dX9_fewestTouched 39 rfl) rfl (Nat.le_of_ble_eq_true rfl) (Nat.le_of_ble_eq_true rfl) rfl (by omega) (by omega) (by omega) (fun x19 h18 hb => ?_)
      refine pz_iload_n (pc' := 86) (x := l1) 1 rfl (pz_dc dX9_fewestTouched 40 rfl) rfl ?_
      refine pz_iand (pc' := 87) rfl (pz_dc dX9_fewestTouched 41 rfl) ?_
      refine pz_iload_n (pc' := 88) (x := l2) 2 rfl (pz_dc dX9_fewestTouched 42 rfl) rfl ?_
      refine pz_icmp_ne (pc' := 91) (tgt := 104) rfl (pz_dc dX9_fewestTouched 43 rfl) (by decide) (fun hc => ?_) (fun hc => ?_)
      · replace hb := hb.1 hc
        refine pz_iinc (pc' := 107) (x := l5) (v := l5 + (1 : Int32)) (lv' := [(5, .int (l5 + (1 : Int32))), (0, .ref l0), (1, .int l1), (2, .int l2), (3, .int l3), (4, .int l4)]) 5 rfl (pz_dc dX9_fewestTouched 51 rfl) rfl rfl (by decide) rfl ?_
        refine pz_goto (pc' := 18) (pz_dc dX9_fewestTouched 52 rfl) (by decide) ?_
        refine pz_lv (lv' := [(0, .ref l0), (1, .int l1), (2, .int l2), (3, .int l3), (4, .int l4), (5, .int (l5 + (1 : Int32)))]) [1, 2, 3, 4, 5, 0] rfl ?_
        exact hb
      · replace hb := hb.2 hc
        refine pz_aload_n (pc' := 92) (x := l0) 0 rfl (pz_dc dX9_fewestTouched 44 rfl) rfl ?_
        refine pz_getR (M := mX9_fewestTouched) hb fX9_19 (pc' := 95) rfl (pz_dc dX9_fewestTouched 45 rfl) (fun a20 hb => ?_)
        refine pz_iload (pc' := 97) (x := l5) 5 rfl (pz_dc dX9_fewestTouched 46 rfl) rfl ?_
        refine pz_i2l (pc' := 98) rfl (pz_dc dX9_fewestTouched 47 rfl) ?_
        refine pz_cVv (M := mX9_fewestTouched) (N := mX4_tell) (d' := 1) (bc1 := 0) (bs1 := 0) (bc2 := bc) (bs2 := bs) (pc' := 101) [.long l5.toInt64] hb vX9_212 rfl (pz_dc dX9_fewestTouched 48 rfl) rfl (Nat.le_of_ble_eq_true rfl) (Nat.le_of_ble_eq_true rfl) rfl (by omega) (by omega) (by omega) (fun h21 hb => ?_)
        refine pz_iload (pc' := 103) (x := l4) 4 rfl (pz_dc dX9_fewestTouched 49 rfl) rfl ?_
        exact pz_iret (pz_dc dX9_fewestTouched 50 rfl) rfl hb
set_option maxRecDepth 20000 in
set_option maxHeartbeats 4000000 in
theorem wX9_trialFitsRings_0 {Ex : State → Nat → Prop} {Q : Option Value → pz_H → Prop} {d bc bs : Nat} {l0 : Nat}  {h : pz_H} (hD : 4 ≤ d) (hb : pz_gR h l0 9 7 (fun (a1 : Nat) => pz_is h a1 3 ∧ (pz_ki mX3_lastDay 1 0 0 (.ref a1 :: []) h (fun (x3 : Int32) (h2 : pz_H) => pz_V mX9_trialFitsRings Ex Q d bc bs 10 [(0, .ref l0), (1, .int x3), (2, .int 0)] [] h2)))) : pz_V mX9_trialFitsRings Ex Q d bc bs 0 [(0, .ref l0)] [] h := by
  refine pz_aload_n (pc' := 1) (x := l0) 0 rfl (pz_dc dX9_trialFitsRings 0 rfl) rfl ?_
  refine pz_getR (M := mX9_trialFitsRings) hb fX9_53 (pc' := 4) rfl (pz_dc dX9_trialFitsRings 1 rfl) (fun a1 hb => ?_)
  refine pz_cVi (M := mX9_trialFitsRings) (N := mX3_lastDay) (d' := 1) (bc1 := 0) (bs1 := 0) (bc2 := bc) (bs2 := bs) (pc' := 7) [] hb vX9_384 rfl (pz_dc dX9_trialFitsRings 2 rfl) rfl (Nat.le_of_ble_eq_true rfl) (Nat.le_of_ble_eq_true rfl) rfl (by omega) (by omega) (by omega) (fun x3 h2 hb => ?_)
  refine pz_istore_n (pc' := 8) (lv' := [(1, .int x3), (0, .ref l0)]) rfl (pz_dc dX9_trialFitsRings 3 rfl) (by decide) rfl ?_
  refine pz_iconst (pc' := 9) (v := 0) rfl (pz_dc dX9_trialFitsRings 4 rfl) ki_0 ?_
  refine pz_istore_n (pc' := 10) (lv' := [(2, .int 0), (1, .int x3), (0, .ref l0)]) rfl (pz_dc dX9_trialFitsRings 5 rfl) (by decide) rfl ?_
  refine pz_lv (lv' := [(0, .ref l0), (1, .int x3), (2, .int 0)]) [2, 1, 0] rfl ?_
  exact hb
set_option maxRecDepth 20000 in
set_option maxHeartbeats 4000000 in
theorem wX9_trialFitsRings_10 {Ex : State → Nat → Prop} {Q : Option Value → pz_H → Prop} {d bc bs : Nat} {l0 : Nat} {l1 : Int32} {l2 : Int32}  {h : pz_H} (hD : 4 ≤ d) (hb : (l1 < l2 → Q (some (.int 1)) h) ∧ (¬ l1 < l2 → (((20 : Int32)) < l2 → Q (some (.int 1)) h) ∧ (¬ ((20 : Int32)) < l2 → pz_gR h l0 9 7 (fun (a1 : Nat) => pz_gR h l0 9 5 (fun (a2 : Nat) => pz_gR h a2 8 0 (fun (a3 : Nat) => pz_is h a1 3 ∧ (pz_ki mX3_fit 0 0 0 (.ref a1 :: [.int l2, .ref a3]) h (fun (x5 : Int32) (h4 : pz_H) => (¬ x5 = 0 → (l1 ≤ l2 → pz_V mX9_trialFitsRings Ex Q d bc bs 10 [(0, .ref l0), (1, .int l1), (2, .int (l2 + (1 : Int32)))] [] h4) ∧ (¬ l1 ≤ l2 → pz_gR h4 l0 9 2 (fun (a6 : Nat) => pz_gR h4 l0 9 5 (fun (a7 : Nat) => pz_gR h4 l0 9 12 (fun (a8 : Nat) => pz_is h4 a6 1 ∧ (pz_kv mX1_passDay 3 0 0 (.ref a6 :: [.ref a7, .ref a8]) h4 (fun (h9 : pz_H) => pz_V mX9_trialFitsRings Ex Q d bc bs 10 [(0, .ref l0), (1, .int l1), (2, .int (l2 + (1 : Int32)))] [] h9))))))) ∧ (x5 = 0 → Q (some (.int 0)) h4))))))))) : pz_V mX9_trialFitsRings Ex Q d bc bs 10 [(0, .ref l0), (1, .int l1), (2, .int l2)] [] h := by
  refine pz_iload_n (pc' := 11) (x := l2) 2 rfl (pz_dc dX9_trialFitsRings 6 rfl) rfl ?_
  refine pz_iload_n (pc' := 12) (x := l1) 1 rfl (pz_dc dX9_trialFitsRings 7 rfl) rfl ?_
  refine pz_icmp_gt (pc' := 15) (tgt := 67) rfl (pz_dc dX9_trialFitsRings 8 rfl) (by decide) (fun hc => ?_) (fun hc => ?_)
  · replace hb := hb.1 hc
    refine pz_iconst (pc' := 68) (v := 1) rfl (pz_dc dX9_trialFitsRings 34 rfl) ki_1 ?_
    exact pz_zret (pz_dc dX9_trialFitsRings 35 rfl) rfl ⟨by decide, hb⟩
  · replace hb := hb.2 hc
    refine pz_iload_n (pc' := 16) (x := l2) 2 rfl (pz_dc dX9_trialFitsRings 9 rfl) rfl ?_
    refine pz_bipush (pc' := 18) (v := 20) rfl (pz_dc dX9_trialFitsRings 10 rfl) kb_20 ?_
    refine pz_icmp_gt (pc' := 21) (tgt := 67) rfl (pz_dc dX9_trialFitsRings 11 rfl) (by decide) (fun hc => ?_) (fun hc => ?_)
    · replace hb := hb.1 hc
      refine pz_iconst (pc' := 68) (v := 1) rfl (pz_dc dX9_trialFitsRings 34 rfl) ki_1 ?_
      exact pz_zret (pz_dc dX9_trialFitsRings 35 rfl) rfl ⟨by decide, hb⟩
    · replace hb := hb.2 hc
      refine pz_aload_n (pc' := 22) (x := l0) 0 rfl (pz_dc dX9_trialFitsRings 12 rfl) rfl ?_
      refine pz_getR (M := mX9_trialFitsRings) hb fX9_53 (pc' := 25) rfl (pz_dc dX9_trialFitsRings 13 rfl) (fun a1 hb => ?_)
      refine pz_iload_n (pc' := 26) (x := l2) 2 rfl (pz_dc dX9_trialFitsRings 14 rfl) rfl ?_
      refine pz_aload_n (pc' := 27) (x := l0) 0 rfl (pz_dc dX9_trialFitsRings 15 rfl) rfl ?_
      refine pz_getR (M := mX9_trialFitsRings) hb fX9_40 (pc' := 30) rfl (pz_dc dX9_trialFitsRings 16 rfl) (fun a2 hb => ?_)
      refine pz_getR (M := mX9_trialFitsRings) hb fX9_136 (pc' := 33) rfl (pz_dc dX9_trialFitsRings 17 rfl) (fun a3 hb => ?_)
      refine pz_cVi (M := mX9_trialFitsRings) (N := mX3_fit) (d' := 0) (bc1 := 0) (bs1 := 0) (bc2 := bc) (bs2 := bs) (pc' := 36) [.int l2, .ref a3] hb vX9_387 rfl (pz_dc dX9_trialFitsRings 18 rfl) rfl (Nat.le_of_ble_eq_true rfl) (Nat.le_of_ble_eq_true rfl) rfl (by omega) (by omega) (by omega) (fun x5 h4 hb => ?_)
      refine pz_if_ne (pc' := 39) (tgt := 41) rfl (pz_dc dX9_trialFitsRings 19 rfl) (by decide) (fun hc => ?_) (fun hc => ?_)
      · replace hb := hb.1 hc
        refine pz_iload_n (pc' := 42) (x := l2) 2 rfl (pz_dc dX9_trialFitsRings 22 rfl) rfl ?_
        refine pz_iload_n (pc' := 43) (x := l1) 1 rfl (pz_dc dX9_trialFitsRings 23 rfl) rfl ?_
        refine pz_icmp_ge (pc' := 46) (tgt := 61) rfl (pz_dc dX9_trialFitsRings 24 rfl) (by decide) (fun hc => ?_) (fun hc => ?_)
        · replace hb := hb.1 hc
          refine pz_iinc (pc' := 64) (x := l2) (v := l2 + (1 : Int32)) (lv' := [(2, .int (l2 + (1 : Int32))), (0, .ref l0), (1, .int l1)]) 2 rfl (pz_dc dX9_trialFitsRings 32 rfl) rfl rfl (by decide) rfl ?_
          refine pz_goto (pc' := 10) (pz_dc dX9_trialFitsRings 33 rfl) (by decide) ?_
          refine pz_lv (lv' := [(0, .ref l0), (1, .int l1), (2, .int (l2 + (1 : Int32)))]) [1, 2, 0] rfl ?_
          exact hb
        · replace hb := hb.2 hc
          refine pz_aload_n (pc' := 47) (x := l0) 0 rfl (pz_dc dX9_trialFitsRings 25 rfl) rfl ?_
          refine pz_getR (M := mX9_trialFitsRings) hb fX9_26 (pc' := 50) rfl (pz_dc dX9_trialFitsRings 26 rfl) (fun a6 hb => ?_)
          refine pz_aload_n (pc' := 51) (x := l0) 0 rfl (pz_dc dX9_trialFitsRings 27 rfl) rfl ?_
          refine pz_getR (M := mX9_trialFitsRings) hb fX9_40 (pc' := 54) rfl (pz_dc dX9_trialFitsRings 28 rfl) (fun a7 hb => ?_)
          refine pz_aload_n (pc' := 55) (x := l0) 0 rfl (pz_dc dX9_trialFitsRings 29 rfl) rfl ?_
          refine pz_getR (M := mX9_trialFitsRings) hb fX9_78 (pc' := 58) rfl (pz_dc dX9_trialFitsRings 30 rfl) (fun a8 hb => ?_)
          refine pz_cVv (M := mX9_trialFitsRings) (N := mX1_passDay) (d' := 3) (bc1 := 0) (bs1 := 0) (bc2 := bc) (bs2 := bs) (pc' := 61) [.ref a7, .ref a8] hb vX9_214 rfl (pz_dc dX9_trialFitsRings 31 rfl) rfl (Nat.le_of_ble_eq_true rfl) (Nat.le_of_ble_eq_true rfl) rfl (by omega) (by omega) (by omega) (fun h9 hb => ?_)
          refine pz_iinc (pc' := 64) (x := l2) (v := l2 + (1 : Int32)) (lv' := [(2, .int (l2 + (1 : Int32))), (0, .ref l0), (1, .int l1)]) 2 rfl (pz_dc dX9_trialFitsRings 32 rfl) rfl rfl (by decide) rfl ?_
          refine pz_goto (pc' := 10) (pz_dc dX9_trialFitsRings 33 rfl) (by decide) ?_
          refine pz_lv (lv' := [(0, .ref l0), (1, .int l1), (2, .int (l2 + (1 : Int32)))]) [1, 2, 0] rfl ?_
          exact hb
      · replace hb := hb.2 hc
        refine pz_iconst (pc' := 40) (v := 0) rfl (pz_dc dX9_trialFitsRings 20 rfl) ki_0 ?_
        exact pz_zret (pz_dc dX9_trialFitsRings 21 rfl) rfl ⟨by decide, hb⟩
set_option maxRecDepth 20000 in
set_option maxHeartbeats 4000000 in
theorem wX9_takeTidemarks_0 {Ex : State → Nat → Prop} {Q : Option Value → pz_H → Prop} {d bc bs : Nat} {l0 : Nat}  {h : pz_H} (hD : 5 ≤ d) (hb : pz_gQ h l0 9 14 (fun (o1 : Option Nat) => (∀ z2 : Nat, o1 = some z2 → pz_gR h l0 9 14 (fun (a3 : Nat) => pz_pF h l0 9 14 (.ref a3) (fun (h4 : pz_H) => pz_is h4 a3 7 ∧ (pz_pF h4 a3 7 2 (.int 0) (fun (h5 : pz_H) => pz_V mX9_takeTidemarks Ex Q d bc bs 33 [(0, .ref l0), (1, .ref a3), (2, .int 0)] [] h5))))) ∧ (o1 = none → pz_nO h 7 [.null, .null, .int 0] 3 (bc) (bs) (fun (a8 : Nat) (h9 : pz_H) => (2 ≤ bc - 1 ∧ 6904 ≤ bs - 3) ∧ (pz_kv mX7_init 1 2 6904 (.ref a8 :: []) h9 (fun (h10 : pz_H) => pz_pF h10 l0 9 14 (.ref a8) (fun (h11 : pz_H) => pz_is h11 a8 7 ∧ (pz_pF h11 a8 7 2 (.int 0) (fun (h12 : pz_H) => pz_V mX9_takeTidemarks Ex Q d (bc - 1 - 2) (bs - 3 - 6904) 33 [(0, .ref l0), (1, .ref a8), (2, .int 0)] [] h12))))))))) : pz_V mX9_takeTidemarks Ex Q d bc bs 0 [(0, .ref l0)] [] h := by
  refine pz_aload_n (pc' := 1) (x := l0) 0 rfl (pz_dc dX9_takeTidemarks 0 rfl) rfl ?_
  refine pz_getQ (M := mX9_takeTidemarks) hb fX9_391 (pc' := 4) rfl (pz_dc dX9_takeTidemarks 1 rfl) (fun o1 hb => ?_)
  refine pz_ifnonnull (pc' := 7) (tgt := 17) rfl (pz_dc dX9_takeTidemarks 2 rfl) (by decide) (fun z2 hc => ?_) (fun hc => ?_)
  · replace hb := hb.1 z2 hc
    refine pz_aload_n (pc' := 18) (x := l0) 0 rfl (pz_dc dX9_takeTidemarks 7 rfl) rfl ?_
    refine pz_getR (M := mX9_takeTidemarks) hb fX9_391 (pc' := 21) rfl (pz_dc dX9_takeTidemarks 8 rfl) (fun a3 hb => ?_)
    refine pz_astore_n (pc' := 22) (lv' := [(1, .ref a3), (0, .ref l0)]) rfl (pz_dc dX9_takeTidemarks 9 rfl) (by decide) rfl ?_
    refine pz_aload_n (pc' := 23) (x := l0) 1 rfl (pz_dc dX9_takeTidemarks 10 rfl) rfl ?_
    refine pz_aload_n (pc' := 24) (x := a3) 0 rfl (pz_dc dX9_takeTidemarks 11 rfl) rfl ?_
    refine pz_putv (M := mX9_takeTidemarks) hb (pX9_391 _ rfl) rfl rfl (pc' := 27) rfl (pz_dc dX9_takeTidemarks 12 rfl) (fun h4 hb => ?_)
    refine pz_aload_n (pc' := 28) (x := a3) 0 rfl (pz_dc dX9_takeTidemarks 13 rfl) rfl ?_
    obtain ⟨⟨fs6, hf7⟩, hb⟩ := hb
    refine pz_callV (M := mX9_takeTidemarks) (N := mX7_clear) (d' := 0) (bc1 := 0) (bs1 := 0) (bc2 := bc) (bs2 := bs) (pc' := 31) [] vX9_396 rfl (pz_dc dX9_takeTidemarks 14 rfl) rfl (Nat.le_of_ble_eq_true rfl) (Nat.le_of_ble_eq_true rfl) rfl (by omega) (by omega) (by omega) hf7 ?_
    refine pz_aload_n (pc' := 1) (x := a3) 0 rfl (pz_dc dX7_clear 0 rfl) rfl ?_
    refine pz_iconst (pc' := 2) (v := 0) rfl (pz_dc dX7_clear 1 rfl) ki_0 ?_
    refine pz_putv (M := mX7_clear) hb (pX7_18 _ rfl) rfl rfl (pc' := 5) rfl (pz_dc dX7_clear 2 rfl) (fun h5 hb => ?_)
    refine pz_vret (pz_dc dX7_clear 3 rfl) rfl ?_
    show pz_V mX9_takeTidemarks _ _ _ _ _ 31 [(1, .ref a3), (0, .ref l0)] [] h5
    refine pz_iconst (pc' := 32) (v := 0) rfl (pz_dc dX9_takeTidemarks 15 rfl) ki_0 ?_
    refine pz_istore_n (pc' := 33) (lv' := [(2, .int 0), (1, .ref a3), (0, .ref l0)]) rfl (pz_dc dX9_takeTidemarks 16 rfl) (by decide) rfl ?_
    refine pz_lv (lv' := [(0, .ref l0), (1, .ref a3), (2, .int 0)]) [2, 1, 0] rfl ?_
    exact hb
  · replace hb := hb.2 hc
    refine pz_mkO (M := mX9_takeTidemarks) hb nX9_280 (pc' := 10) rfl (pz_dc dX9_takeTidemarks 3 rfl) (fun a8 h9 hb => ?_)
    refine pz_dup (pc' := 11) rfl (pz_dc dX9_takeTidemarks 4 rfl) rfl ?_
    obtain ⟨hq15, hb⟩ := hb
    refine pz_cIv (M := mX9_takeTidemarks) (N := mX7_init) (d' := 1) (bc1 := 2) (bs1 := 6904) (bc2 := bc - 1 - 2) (bs2 := bs - 3 - 6904) (pc' := 14) [] hb iX9_395 rfl (pz_dc dX9_takeTidemarks 5 rfl) rfl (Nat.le_of_ble_eq_true rfl) (Nat.le_of_ble_eq_true rfl) rfl (by omega) (by omega) (by omega) (fun h10 hb => ?_)
    refine pz_goto (pc' := 21) (pz_dc dX9_takeTidemarks 6 rfl) (by decide) ?_
    refine pz_astore_n (pc' := 22) (lv' := [(1, .ref a8), (0, .ref l0)]) rfl (pz_dc dX9_takeTidemarks 9 rfl) (by decide) rfl ?_
    refine pz_aload_n (pc' := 23) (x := l0) 1 rfl (pz_dc dX9_takeTidemarks 10 rfl) rfl ?_
    refine pz_aload_n (pc' := 24) (x := a8) 0 rfl (pz_dc dX9_takeTidemarks 11 rfl) rfl ?_
    refine pz_putv (M := mX9_takeTidemarks) hb (pX9_391 _ rfl) rfl rfl (pc' := 27) rfl (pz_dc dX9_takeTidemarks 12 rfl) (fun h11 hb => ?_)
    refine pz_aload_n (pc' := 28) (x := a8) 0 rfl (pz_dc dX9_takeTidemarks 13 rfl) rfl ?_
    obtain ⟨⟨fs13, hf14⟩, hb⟩ := hb
    refine pz_callV (M := mX9_takeTidemarks) (N := mX7_clear) (d' := 0) (bc1 := 0) (bs1 := 0) (bc2 := bc - 1 - 2) (bs2 := bs - 3 - 6904) (pc' := 31) [] vX9_396 rfl (pz_dc dX9_takeTidemarks 14 rfl) rfl (Nat.le_of_ble_eq_true rfl) (Nat.le_of_ble_eq_true rfl) rfl (by omega) (by omega) (by omega) hf14 ?_
    refine pz_aload_n (pc' := 1) (x := a8) 0 rfl (pz_dc dX7_clear 0 rfl) rfl ?_
    refine pz_iconst (pc' := 2) (v := 0) rfl (pz_dc dX7_clear 1 rfl) ki_0 ?_
    refine pz_putv (M := mX7_clear) hb (pX7_18 _ rfl) rfl rfl (pc' := 5) rfl (pz_dc dX7_clear 2 rfl) (fun h12 hb => ?_)
    refine pz_vret (pz_dc dX7_clear 3 rfl) rfl ?_
    show pz_V mX9_takeTidemarks _ _ _ _ _ 31 [(1, .ref a8), (0, .ref l0)] [] h12
    refine pz_iconst (pc' := 32) (v := 0) rfl (pz_dc dX9_takeTidemarks 15 rfl) ki_0 ?_
    refine pz_istore_n (pc' := 33) (lv' := [(2, .int 0), (1, .ref a8), (0, .ref l0)]) rfl (pz_dc dX9_takeTidemarks 16 rfl) (by decide) rfl ?_
    refine pz_lv (lv' := [(0, .ref l0), (1, .ref a8), (2, .int 0)]) [2, 1, 0] rfl ?_
    exact hb
set_option maxRecDepth 20000 in
set_option maxHeartbeats 4000000 in
theorem wX9_takeTidemarks_33 {Ex : State → Nat → Prop} {Q : Option Value → pz_H → Prop} {d bc bs : Nat} {l0 : Nat} {l1 : Nat} {l2 : Int32}  {h : pz_H} (hD : 5 ≤ d) (hb : pz_gR h l0 9 2 (fun (a1 : Nat) => pz_is h a1 1 ∧ (pz_gI h a1 1 4 (fun (x2 : Int32) => (x2 ≤ l2 → Q (some (.ref l1)) h) ∧ (¬ x2 ≤ l2 → pz_V mX9_takeTidemarks Ex Q d bc bs 46 [(0, .ref l0), (1, .ref l1), (2, .int l2), (3, .int 1)] [] h))))) : pz_V mX9_takeTidemarks Ex Q d bc bs 33 [(0, .ref l0), (1, .ref l1), (2, .int l2)] [] h := by
  refine pz_iload_n (pc' := 34) (x := l2) 2 rfl (pz_dc dX9_takeTidemarks 17 rfl) rfl ?_
  refine pz_aload_n (pc' := 35) (x := l0) 0 rfl (pz_dc dX9_takeTidemarks 18 rfl) rfl ?_
  refine pz_getR (M := mX9_takeTidemarks) hb fX9_26 (pc' := 38) rfl (pz_dc dX9_takeTidemarks 19 rfl) (fun a1 hb => ?_)
  obtain ⟨⟨fs3, hf4⟩, hb⟩ := hb
  refine pz_callV (M := mX9_takeTidemarks) (N := mX1_size) (d' := 0) (bc1 := 0) (bs1 := 0) (bc2 := bc) (bs2 := bs) (pc' := 41) [] vX9_208 rfl (pz_dc dX9_takeTidemarks 20 rfl) rfl (Nat.le_of_ble_eq_true rfl) (Nat.le_of_ble_eq_true rfl) rfl (by omega) (by omega) (by omega) hf4 ?_
  refine pz_aload_n (pc' := 1) (x := a1) 0 rfl (pz_dc dX1_size 0 rfl) rfl ?_
  refine pz_getI (M := mX1_size) hb fX1_24 (pc' := 4) rfl (pz_dc dX1_size 1 rfl) (fun x2 hb => ?_)
  refine pz_iret (pz_dc dX1_size 2 rfl) rfl ?_
  show pz_V mX9_takeTidemarks _ _ _ _ _ 41 [(0, .ref l0), (1, .ref l1), (2, .int l2)] [.int x2, .int l2] h
  refine pz_icmp_ge (pc' := 44) (tgt := 82) rfl (pz_dc dX9_takeTidemarks 21 rfl) (by decide) (fun hc => ?_) (fun hc => ?_)
  · replace hb := hb.1 hc
    refine pz_aload_n (pc' := 83) (x := l1) 1 rfl (pz_dc dX9_takeTidemarks 41 rfl) rfl ?_
    exact pz_aret (pz_dc dX9_takeTidemarks 42 rfl) rfl hb
  · replace hb := hb.2 hc
    refine pz_iconst (pc' := 45) (v := 1) rfl (pz_dc dX9_takeTidemarks 22 rfl) ki_1 ?_
    refine pz_istore_n (pc' := 46) (lv' := [(3, .int 1), (0, .ref l0), (1, .ref l1), (2, .int l2)]) rfl (pz_dc dX9_takeTidemarks 23 rfl) (by decide) rfl ?_
    refine pz_lv (lv' := [(0, .ref l0), (1, .ref l1), (2, .int l2), (3, .int 1)]) [1, 2, 3, 0] rfl ?_
    exact hb
set_option maxRecDepth 20000 in
set_option maxHeartbeats 4000000 in
theorem wX9_takeTidemarks_46 {Ex : State → Nat → Prop} {Q : Option Value → pz_H → Prop} {d bc bs : Nat} {l0 : Nat} {l1 : Nat} {l2 : Int32} {l3 : Int32}  {h : pz_H} (hD : 5 ≤ d) (hb : (((9 : Int32)) < l3 → pz_V mX9_takeTidemarks Ex Q d bc bs 33 [(0, .ref l0), (1, .ref l1), (2, .int (l2 + (1 : Int32)))] [] h) ∧ (¬ ((9 : Int32)) < l3 → pz_is h l0 9 ∧ (pz_kv mX9_startLeakTrial 3 0 0 (.ref l0 :: [.int l2, .int l3]) h (fun (h1 : pz_H) => pz_is h1 l0 9 ∧ (pz_ki mX9_markTrial 4 0 0 (.ref l0 :: [.ref l1]) h1 (fun (x3 : Int32) (h2 : pz_H) => (x3 = 0 → pz_V mX9_takeTidemarks Ex Q d bc bs 46 [(0, .ref l0), (1, .ref l1), (2, .int l2), (3, .int (l3 + (1 : Int32)))] [] h2) ∧ (¬ x3 = 0 → pz_is h2 l1 7 ∧ (pz_gI h2 l1 7 2 (fun (x4 : Int32) => pz_pF h2 l1 7 2 (.int (x4 + ((1 : Int32)))) (fun (h5 : pz_H) => pz_V mX9_takeTidemarks Ex Q d bc bs 46 [(0, .ref l0), (1, .ref l1), (2, .int l2), (3, .int (l3 + (1 : Int32)))] [] h5)))))))))) : pz_V mX9_takeTidemarks Ex Q d bc bs 46 [(0, .ref l0), (1, .ref l1), (2, .int l2), (3, .int l3)] [] h := by
  refine pz_iload_n (pc' := 47) (x := l3) 3 rfl (pz_dc dX9_takeTidemarks 24 rfl) rfl ?_
  refine pz_bipush (pc' := 49) (v := 9) rfl (pz_dc dX9_takeTidemarks 25 rfl) kb_9 ?_
  refine pz_icmp_gt (pc' := 52) (tgt := 76) rfl (pz_dc dX9_takeTidemarks 26 rfl) (by decide) (fun hc => ?_) (fun hc => ?_)
  · replace hb := hb.1 hc
    refine pz_iinc (pc' := 79) (x := l2) (v := l2 + (1 : Int32)) (lv' := [(2, .int (l2 + (1 : Int32))), (0, .ref l0), (1, .ref l1), (3, .int l3)]) 2 rfl (pz_dc dX9_takeTidemarks 39 rfl) rfl rfl (by decide) rfl ?_
    refine pz_goto (pc' := 33) (pz_dc dX9_takeTidemarks 40 rfl) (by decide) ?_
    refine pz_lv (lv' := [(0, .ref l0), (1, .ref l1), (2, .int (l2 + (1 : Int32)))]) [1, 2, 0] rfl ?_
    exact hb
  · replace hb := hb.2 hc
    refine pz_aload_n (pc' := 53) (x := l0) 0 rfl (pz_dc dX9_takeTidemarks 27 rfl) rfl ?_
    refine pz_iload_n (pc' := 54) (x := l2) 2 rfl (pz_dc dX9_takeTidemarks 28 rfl) rfl ?_
    refine pz_iload_n (pc' := 55) (x := l3) 3 rfl (pz_dc dX9_takeTidemarks 29 rfl) rfl ?_
    refine pz_cVv (M := mX9_takeTidemarks) (N := mX9_startLeakTrial) (d' := 3) (bc1 := 0) (bs1 := 0) (bc2 := bc) (bs2 := bs) (pc' := 58) [.int l2, .int l3] hb vX9_271 rfl (pz_dc dX9_takeTidemarks 30 rfl) rfl (Nat.le_of_ble_eq_true rfl) (Nat.le_of_ble_eq_true rfl) rfl (by omega) (by omega) (by omega) (fun h1 hb => ?_)
    refine pz_aload_n (pc' := 59) (x := l0) 0 rfl (pz_dc dX9_takeTidemarks 31 rfl) rfl ?_
    refine pz_aload_n (pc' := 60) (x := l1) 1 rfl (pz_dc dX9_takeTidemarks 32 rfl) rfl ?_
    refine pz_cVi (M := mX9_takeTidemarks) (N := mX9_markTrial) (d' := 4) (bc1 := 0) (bs1 := 0) (bc2 := bc) (bs2 := bs) (pc' := 63) [.ref l1] hb vX9_397 rfl (pz_dc dX9_takeTidemarks 33 rfl) rfl (Nat.le_of_ble_eq_true rfl) (Nat.le_of_ble_eq_true rfl) rfl (by omega) (by omega) (by omega) (fun x3 h2 hb => ?_)
    refine pz_if_eq (pc' := 66) (tgt := 70) rfl (pz_dc dX9_takeTidemarks 34 rfl) (by decide) (fun hc => ?_) (fun hc => ?_)
    · replace hb := hb.1 hc
      refine pz_iinc (pc' := 73) (x := l3) (v := l3 + (1 : Int32)) (lv' := [(3, .int (l3 + (1 : Int32))), (0, .ref l0), (1, .ref l1), (2, .int l2)]) 3 rfl (pz_dc dX9_takeTidemarks 37 rfl) rfl rfl (by decide) rfl ?_
      refine pz_goto (pc' := 46) (pz_dc dX9_takeTidemarks 38 rfl) (by decide) ?_
      refine pz_lv (lv' := [(0, .ref l0), (1, .ref l1), (2, .int l2), (3, .int (l3 + (1 : Int32)))]) [1, 2, 3, 0] rfl ?_
      exact hb
    · replace hb := hb.2 hc
      refine pz_aload_n (pc' := 67) (x := l1) 1 rfl (pz_dc dX9_takeTidemarks 35 rfl) rfl ?_
      obtain ⟨⟨fs6, hf7⟩, hb⟩ := hb
      refine pz_callV (M := mX9_takeTidemarks) (N := mX7_endLeak) (d' := 0) (bc1 := 0) (bs1 := 0) (bc2 := bc) (bs2 := bs) (pc' := 70) [] vX9_401 rfl (pz_dc dX9_takeTidemarks 36 rfl) rfl (Nat.le_of_ble_eq_true rfl) (Nat.le_of_ble_eq_true rfl) rfl (by omega) (by omega) (by omega) hf7 ?_
      refine pz_aload_n (pc' := 1) (x := l1) 0 rfl (pz_dc dX7_endLeak 0 rfl) rfl ?_
      refine pz_dup (pc' := 2) rfl (pz_dc dX7_endLeak 1 rfl) rfl ?_
      refine pz_getI (M := mX7_endLeak) hb fX7_18 (pc' := 5) rfl (pz_dc dX7_endLeak 2 rfl) (fun x4 hb => ?_)
      refine pz_iconst (pc' := 6) (v := 1) rfl (pz_dc dX7_endLeak 3 rfl) ki_1 ?_
      refine pz_iadd (pc' := 7) rfl (pz_dc dX7_endLeak 4 rfl) ?_
      refine pz_putv (M := mX7_endLeak) hb (pX7_18 _ rfl) rfl rfl (pc' := 10) rfl (pz_dc dX7_endLeak 5 rfl) (fun h5 hb => ?_)
      refine pz_vret (pz_dc dX7_endLeak 6 rfl) rfl ?_
      show pz_V mX9_takeTidemarks _ _ _ _ _ 70 [(0, .ref l0), (1, .ref l1), (2, .int l2), (3, .int l3)] [] h5
      refine pz_iinc (pc' := 73) (x := l3) (v := l3 + (1 : Int32)) (lv' := [(3, .int (l3 + (1 : Int32))), (0, .ref l0), (1, .ref l1), (2, .int l2)]) 3 rfl (pz_dc dX9_takeTidemarks 37 rfl) rfl rfl (by decide) rfl ?_
      refine pz_goto (pc' := 46) (pz_dc dX9_takeTidemarks 38 rfl) (by decide) ?_
      refine pz_lv (lv' := [(0, .ref l0), (1, .ref l1), (2, .int l2), (3, .int (l3 + (1 : Int32)))]) [1, 2, 3, 0] rfl ?_
      exact hb
set_option maxRecDepth 20000 in
set_option maxHeartbeats 4000000 in
theorem wX9_markTrial_0 {Ex : State → Nat → Prop} {Q : Option Value → pz_H → Prop} {d bc bs : Nat} {l0 : Nat} {l1 : Nat}  {h : pz_H} (hD : 4 ≤ d) (hb : pz_V mX9_markTrial Ex Q d bc bs 2 [(0, .ref l0), (1, .ref l1), (2, .int 0)] [] h) : pz_V mX9_markTrial Ex Q d bc bs 0 [(0, .ref l0), (1, .ref l1)] [] h := by
  refine pz_iconst (pc' := 1) (v := 0) rfl (pz_dc dX9_markTrial 0 rfl) ki_0 ?_
  refine pz_istore_n (pc' := 2) (lv' := [(2, .int 0), (0, .ref l0), (1, .ref l1)]) rfl (pz_dc dX9_markTrial 1 rfl) (by decide) rfl ?_
  refine pz_lv (lv' := [(0, .ref l0), (1, .ref l1), (2, .int 0)]) [1, 2, 0] rfl ?_
  exact hb
set_option maxRecDepth 20000 in
set_option maxHeartbeats 4000000 in
theorem wX9_markTrial_2 {Ex : State → Nat → Prop} {Q : Option Value → pz_H → Prop} {d bc bs : Nat} {l0 : Nat} {l1 : Nat} {l2 : Int32}  {h : pz_H} (hD : 4 ≤ d) (hb : (((20 : Int32)) < l2 → Q (some (.int 1)) h) ∧ (¬ ((20 : Int32)) < l2 → pz_gR h l0 9 7 (fun (a1 : Nat) => pz_gR h l0 9 5 (fun (a2 : Nat) => pz_gR h a2 8 0 (fun (a3 : Nat) => pz_is h a1 3 ∧ (pz_ki mX3_fit 0 0 0 (.ref a1 :: [.int l2, .ref a3]) h (fun (x5 : Int32) (h4 : pz_H) => (¬ x5 = 0 → pz_gR h4 l0 9 5 (fun (a6 : Nat) => pz_gR h4 a6 8 0 (fun (a7 : Nat) => pz_is h4 l1 7 ∧ (pz_kv mX7_mark 1 0 0 (.ref l1 :: [.int l2, .ref a7]) h4 (fun (h8 : pz_H) => pz_gR h8 l0 9 2 (fun (a9 : Nat) => pz_gR h8 l0 9 5 (fun (a10 : Nat) => pz_gR h8 l0 9 12 (fun (a11 : Nat) => pz_is h8 a9 1 ∧ (pz_kv mX1_passDay 3 0 0 (.ref a9 :: [.ref a10, .ref a11]) h8 (fun (h12 : pz_H) => pz_V mX9_markTrial Ex Q d bc bs 2 [(0, .ref l0), (1, .ref l1), (2, .int (l2 + (1 : Int32)))] [] h12)))))))))) ∧ (x5 = 0 → Q (some (.int 0)) h4)))))))) : pz_V mX9_markTrial Ex Q d bc bs 2 [(0, .ref l0), (1, .ref l1), (2, .int l2)] [] h := by
  refine pz_iload_n (pc' := 3) (x := l2) 2 rfl (pz_dc dX9_markTrial 2 rfl) rfl ?_
  refine pz_bipush (pc' := 5) (v := 20) rfl (pz_dc dX9_markTrial 3 rfl) kb_20 ?_
  refine pz_icmp_gt (pc' := 8) (tgt := 61) rfl (pz_dc dX9_markTrial 4 rfl) (by decide) (fun hc => ?_) (fun hc => ?_)
  · replace hb := hb.1 hc
    refine pz_iconst (pc' := 62) (v := 1) rfl (pz_dc dX9_markTrial 30 rfl) ki_1 ?_
    exact pz_zret (pz_dc dX9_markTrial 31 rfl) rfl ⟨by decide, hb⟩
  · replace hb := hb.2 hc
    refine pz_aload_n (pc' := 9) (x := l0) 0 rfl (pz_dc dX9_markTrial 5 rfl) rfl ?_
    refine pz_getR (M := mX9_markTrial) hb fX9_53 (pc' := 12) rfl (pz_dc dX9_markTrial 6 rfl) (fun a1 hb => ?_)
    refine pz_iload_n (pc' := 13) (x := l2) 2 rfl (pz_dc dX9_markTrial 7 rfl) rfl ?_
    refine pz_aload_n (pc' := 14) (x := l0) 0 rfl (pz_dc dX9_markTrial 8 rfl) rfl ?_
    refine pz_getR (M := mX9_markTrial) hb fX9_40 (pc' := 17) rfl (pz_dc dX9_markTrial 9 rfl) (fun a2 hb => ?_)
    refine pz_getR (M := mX9_markTrial) hb fX9_136 (pc' := 20) rfl (pz_dc dX9_markTrial 10 rfl) (fun a3 hb => ?_)
    refine pz_cVi (M := mX9_markTrial) (N := mX3_fit) (d' := 0) (bc1 := 0) (bs1 := 0) (bc2 := bc) (bs2 := bs) (pc' := 23) [.int l2, .ref a3] hb vX9_387 rfl (pz_dc dX9_markTrial 11 rfl) rfl (Nat.le_of_ble_eq_true rfl) (Nat.le_of_ble_eq_true rfl) rfl (by omega) (by omega) (by omega) (fun x5 h4 hb => ?_)
    refine pz_if_ne (pc' := 26) (tgt := 28) rfl (pz_dc dX9_markTrial 12 rfl) (by decide) (fun hc => ?_) (fun hc => ?_)
    · replace hb := hb.1 hc
      refine pz_aload_n (pc' := 29) (x := l1) 1 rfl (pz_dc dX9_markTrial 15 rfl) rfl ?_
      refine pz_iload_n (pc' := 30) (x := l2) 2 rfl (pz_dc dX9_markTrial 16 rfl) rfl ?_
      refine pz_aload_n (pc' := 31) (x := l0) 0 rfl (pz_dc dX9_markTrial 17 rfl) rfl ?_
      refine pz_getR (M := mX9_markTrial) hb fX9_40 (pc' := 34) rfl (pz_dc dX9_markTrial 18 rfl) (fun a6 hb => ?_)
      refine pz_getR (M := mX9_markTrial) hb fX9_136 (pc' := 37) rfl (pz_dc dX9_markTrial 19 rfl) (fun a7 hb => ?_)
      refine pz_cVv (M := mX9_markTrial) (N := mX7_mark) (d' := 1) (bc1 := 0) (bs1 := 0) (bc2 := bc) (bs2 := bs) (pc' := 40) [.int l2, .ref a7] hb vX9_404 rfl (pz_dc dX9_markTrial 20 rfl) rfl (Nat.le_of_ble_eq_true rfl) (Nat.le_of_ble_eq_true rfl) rfl (by omega) (by omega) (by omega) (fun h8 hb => ?_)
      refine pz_aload_n (pc' := 41) (x := l0) 0 rfl (pz_dc dX9_markTrial 21 rfl) rfl ?_
      refine pz_getR (M := mX9_markTrial) hb fX9_26 (pc' := 44) rfl (pz_dc dX9_markTrial 22 rfl) (fun a9 hb => ?_)
      refine pz_aload_n (pc' := 45) (x := l0) 0 rfl (pz_dc dX9_markTrial 23 rfl) rfl ?_
      refine pz_getR (M := mX9_markTrial) hb fX9_40 (pc' := 48) rfl (pz_dc dX9_markTrial 24 rfl) (fun a10 hb => ?_)
      refine pz_aload_n (pc' := 49) (x := l0) 0 rfl (pz_dc dX9_markTrial 25 rfl) rfl ?_
      refine pz_getR (M := mX9_markTrial) hb fX9_78 (pc' := 52) rfl (pz_dc dX9_markTrial 26 rfl) (fun a11 hb => ?_)
      refine pz_cVv (M := mX9_markTrial) (N := mX1_passDay) (d' := 3) (bc1 := 0) (bs1 := 0) (bc2 := bc) (bs2 := bs) (pc' := 55) [.ref a10, .ref a11] hb vX9_214 rfl (pz_dc dX9_markTrial 27 rfl) rfl (Nat.le_of_ble_eq_true rfl) (Nat.le_of_ble_eq_true rfl) rfl (by omega) (by omega) (by omega) (fun h12 hb => ?_)
      refine pz_iinc (pc' := 58) (x := l2) (v := l2 + (1 : Int32)) (lv' := [(2, .int (l2 + (1 : Int32))), (0, .ref l0), (1, .ref l1)]) 2 rfl (pz_dc dX9_markTrial 28 rfl) rfl rfl (by decide) rfl ?_
      refine pz_goto (pc' := 2) (pz_dc dX9_markTrial 29 rfl) (by decide) ?_
      refine pz_lv (lv' := [(0, .ref l0), (1, .ref l1), (2, .int (l2 + (1 : Int32)))]) [1, 2, 0] rfl ?_
      exact hb
    · replace hb := hb.2 hc
      refine pz_iconst (pc' := 27) (v := 0) rfl (pz_dc dX9_markTrial 13 rfl) ki_0 ?_
      exact pz_zret (pz_dc dX9_markTrial 14 rfl) rfl ⟨by decide, hb⟩
set_option maxRecDepth 20000 in
set_option maxHeartbeats 4000000 in
theorem wX9_countByKing_0 {Ex : State → Nat → Prop} {Q : Option Value → pz_H → Prop} {d bc bs : Nat} {l0 : Nat} {l1 : Nat}  {h : pz_H} (hD : 2 ≤ d) (hb : pz_V mX9_countByKing Ex Q d bc bs 2 [(0, .ref l0), (1, .ref l1), (2, .int 0)] [] h) : pz_V mX9_countByKing Ex Q d bc bs 0 [(0, .ref l0), (1, .ref l1)] [] h := by
  refine pz_iconst (pc' := 1) (v := 0) rfl (pz_dc dX9_countByKing 0 rfl) ki_0 ?_
  refine pz_istore_n (pc' := 2) (lv' := [(2, .int 0), (0, .ref l0), (1, .ref l1)]) rfl (pz_dc dX9_countByKing 1 rfl) (by decide) rfl ?_
  refine pz_lv (lv' := [(0, .ref l0), (1, .ref l1), (2, .int 0)]) [1, 2, 0] rfl ?_
  exact hb
set_option maxRecDepth 20000 in
set_option maxHeartbeats 4000000 in
theorem wX9_countByKing_2 {Ex : State → Nat → Prop} {Q : Option Value → pz_H → Prop} {d bc bs : Nat} {l0 : Nat} {l1 : Nat} {l2 : Int32}  {h : pz_H} (hD : 2 ≤ d) (hb : (((4 : Int32)) ≤ l2 → Q none h) ∧ (¬ ((4 : Int32)) ≤ l2 → pz_gR h l0 9 10 (fun (a1 : Nat) => pz_gR h l0 9 2 (fun (a2 : Nat) => pz_gR h l0 9 2 (fun (a3 : Nat) => pz_is h a3 1 ∧ (pz_ki mX1_heldBy 0 0 0 (.ref a3 :: [.ref l1, .int l2]) h (fun (x5 : Int32) (h4 : pz_H) => pz_is h4 a2 1 ∧ (pz_ki mX1_totalOf 1 0 0 (.ref a2 :: [.ref l1, .int x5]) h4 (fun (x7 : Int32) (h6 : pz_H) => pz_sI h6 a1 l2 x7 (fun (h8 : pz_H) => pz_V mX9_countByKing Ex Q d bc bs 2 [(0, .ref l0), (1, .ref l1), (2, .int (l2 + (1 : Int32)))] [] h8)))))))))) : pz_V mX9_countByKing Ex Q d bc bs 2 [(0, .ref l0), (1, .ref l1), (2, .int l2)] [] h := by
  refine pz_iload_n (pc' := 3) (x := l2) 2 rfl (pz_dc dX9_countByKing 2 rfl) rfl ?_
  refine pz_iconst (pc' := 4) (v := 4) rfl (pz_dc dX9_countByKing 3 rfl) ki_4 ?_
  refine pz_icmp_ge (pc' := 7) (tgt := 36) rfl (pz_dc dX9_countByKing 4 rfl) (by decide) (fun hc => ?_) (fun hc => ?_)
  · replace hb := hb.1 hc
    exact pz_vret (pz_dc dX9_countByKing 20 rfl) rfl hb
  · replace hb := hb.2 hc
    refine pz_aload_n (pc' := 8) (x := l0) 0 rfl (pz_dc dX9_countByKing 5 rfl) rfl ?_
    refine pz_getR (M := mX9_countByKing) hb fX9_68 (pc' := 11) rfl (pz_dc dX9_countByKing 6 rfl) (fun a1 hb => ?_)
    refine pz_iload_n (pc' := 12) (x := l2) 2 rfl (pz_dc dX9_countByKing 7 rfl) rfl ?_
    refine pz_aload_n (pc' := 13) (x := l0) 0 rfl (pz_dc dX9_countByKing 8 rfl) rfl ?_
    refine pz_getR (M := mX9_countByKing) hb fX9_26 (pc' := 16) rfl (pz_dc dX9_countByKing 9 rfl) (fun a2 hb => ?_)
    refine pz_aload_n (pc' := 17) (x := l1) 1 rfl (pz_dc dX9_countByKing 10 rfl) rfl ?_
    refine pz_aload_n (pc' := 18) (x := l0) 0 rfl (pz_dc dX9_countByKing 11 rfl) rfl ?_
    refine pz_getR (M := mX9_countByKing) hb fX9_26 (pc' := 21) rfl (pz_dc dX9_countByKing 12 rfl) (fun a3 hb => ?_)
    refine pz_aload_n (pc' := 22) (x := l1) 1 rfl (pz_dc dX9_countByKing 13 rfl) rfl ?_
    refine pz_iload_n (pc' := 23) (x := l2) 2 rfl (pz_dc dX9_countByKing 14 rfl) rfl ?_
    refine pz_cVi (M := mX9_countByKing) (N := mX1_heldBy) (d' := 0) (bc1 := 0) (bs1 := 0) (bc2 := bc) (bs2 := bs) (pc' := 26) [.ref l1, .int l2] hb vX9_224 rfl (pz_dc dX9_countByKing 15 rfl) rfl (Nat.le_of_ble_eq_true rfl) (Nat.le_of_ble_eq_true rfl) rfl (by omega) (by omega) (by omega) (fun x5 h4 hb => ?_)
    refine pz_cVi (M := mX9_countByKing) (N := mX1_totalOf) (d' := 1) (bc1 := 0) (bs1 := 0) (bc2 := bc) (bs2 := bs) (pc' := 29) [.ref l1, .int x5] hb vX9_232 rfl (pz_dc dX9_countByKing 16 rfl) rfl (Nat.le_of_ble_eq_true rfl) (Nat.le_of_ble_eq_true rfl) rfl (by omega) (by omega) (by omega) (fun x7 h6 hb => ?_)
    refine pz_stI hb (pc' := 30) rfl (pz_dc dX9_countByKing 17 rfl) (fun h8 hb => ?_)
    refine pz_iinc (pc' := 33) (x := l2) (v := l2 + (1 : Int32)) (lv' := [(2, .int (l2 + (1 : Int32))), (0, .ref l0), (1, .ref l1)]) 2 rfl (pz_dc dX9_countByKing 18 rfl) rfl rfl (by decide) rfl ?_
    refine pz_goto (pc' := 2) (pz_dc dX9_countByKing 19 rfl) (by decide) ?_
    refine pz_lv (lv' := [(0, .ref l0), (1, .ref l1), (2, .int (l2 + (1 : Int32)))]) [1, 2, 0] rfl ?_
    exact hb
set_option maxRecDepth 20000 in
set_option maxHeartbeats 4000000 in
theorem wX9_isLeastTreaty_0 {Ex : State → Nat → Prop} {Q : Option Value → pz_H → Prop} {d bc bs : Nat} {l0 : Nat} {l1 : Int32} {l2 : Int32}  {h : pz_H} (hD : 1 ≤ d) (hb : pz_V mX9_isLeastTreaty Ex Q d bc bs 5 [(0, .ref l0), (1, .int l1), (2, .int l2), (3, .int 0), (4, .int 0)] [] h) : pz_V mX9_isLeastTreaty Ex Q d bc bs 0 [(0, .ref l0), (1, .int l1), (2, .int l2)] [] h := by
  refine pz_iconst (pc' := 1) (v := 0) rfl (pz_dc dX9_isLeastTreaty 0 rfl) ki_0 ?_
  refine pz_istore_n (pc' := 2) (lv' := [(3, .int 0), (0, .ref l0), (1, .int l1), (2, .int l2)]) rfl (pz_dc dX9_isLeastTreaty 1 rfl) (by decide) rfl ?_
  refine pz_iconst (pc' := 3) (v := 0) rfl (pz_dc dX9_isLeastTreaty 2 rfl) ki_0 ?_
  refine pz_istore (pc' := 5) (lv' := [(4, .int 0), (3, .int 0), (0, .ref l0), (1, .int l1), (2, .int l2)]) rfl (pz_dc dX9_isLeastTreaty 3 rfl) (by decide) rfl ?_
  refine pz_lv (lv' := [(0, .ref l0), (1, .int l1), (2, .int l2), (3, .int 0), (4, .int 0)]) [2, 3, 4, 1, 0] rfl ?_
  exact hb
set_option maxRecDepth 20000 in
set_option maxHeartbeats 4000000 in
theorem wX9_isLeastTreaty_5 {Ex : State → Nat → Prop} {Q : Option Value → pz_H → Prop} {d bc bs : Nat} {l0 : Nat} {l1 : Int32} {l2 : Int32} {l3 : Int32} {l4 : Int32}  {h : pz_H} (hD : 1 ≤ d) (hb : (((4 : Int32)) ≤ l4 → (l2 ≤ l3 → pz_V mX9_isLeastTreaty Ex Q d bc bs 50 [(0, .ref l0), (1, .int l1), (2, .int l2), (3, .int l3), (4, .int 0)] [] h) ∧ (¬ l2 ≤ l3 → Q (some (.int 0)) h)) ∧ (¬ ((4 : Int32)) ≤ l4 → ((eX9_isIn l1 l4) = 0 → pz_V mX9_isLeastTreaty Ex Q d bc bs 5 [(0, .ref l0), (1, .int l1), (2, .int l2), (3, .int (l3 + ((0 : Int32)))), (4, .int (l4 + (1 : Int32)))] [] h) ∧ (¬ (eX9_isIn l1 l4) = 0 → pz_gR h l0 9 10 (fun (a1 : Nat) => pz_rI h a1 l4 (fun (x2 : Int32) => pz_V mX9_isLeastTreaty Ex Q d bc bs 5 [(0, .ref l0), (1, .int l1), (2, .int l2), (3, .int (l3 + x2)), (4, .int (l4 + (1 : Int32)))] [] h))))) : pz_V mX9_isLeastTreaty Ex Q d bc bs 5 [(0, .ref l0), (1, .int l1), (2, .int l2), (3, .int l3), (4, .int l4)] [] h := by
  refine pz_iload (pc' := 7) (x := l4) 4 rfl (pz_dc dX9_isLeastTreaty 4 rfl) rfl ?_
  refine pz_iconst (pc' := 8) (v := 4) rfl (pz_dc dX9_isLeastTreaty 5 rfl) ki_4 ?_
  refine pz_icmp_ge (pc' := 11) (tgt := 40) rfl (pz_dc dX9_isLeastTreaty 6 rfl) (by decide) (fun hc => ?_) (fun hc => ?_)
  · replace hb := hb.1 hc
    refine pz_iload_n (pc' := 41) (x := l3) 3 rfl (pz_dc dX9_isLeastTreaty 22 rfl) rfl ?_
    refine pz_iload_n (pc' := 42) (x := l2) 2 rfl (pz_dc dX9_isLeastTreaty 23 rfl) rfl ?_
    refine pz_icmp_ge (pc' := 45) (tgt := 47) rfl (pz_dc dX9_isLeastTreaty 24 rfl) (by decide) (fun hc => ?_) (fun hc => ?_)
    · replace hb := hb.1 hc
      refine pz_iconst (pc' := 48) (v := 0) rfl (pz_dc dX9_isLeastTreaty 27 rfl) ki_0 ?_
      refine pz_istore (pc' := 50) (lv' := [(4, .int 0), (0, .ref l0), (1, .int l1), (2, .int l2), (3, .int l3)]) rfl (pz_dc dX9_isLeastTreaty 28 rfl) (by decide) rfl ?_
      refine pz_lv (lv' := [(0, .ref l0), (1, .int l1), (2, .int l2), (3, .int l3), (4, .int 0)]) [1, 2, 3, 4, 0] rfl ?_
      exact hb
    · replace hb := hb.2 hc
      refine pz_iconst (pc' := 46) (v := 0) rfl (pz_dc dX9_isLeastTreaty 25 rfl) ki_0 ?_
      exact pz_zret (pz_dc dX9_isLeastTreaty 26 rfl) rfl ⟨by decide, hb⟩
  · replace hb := hb.2 hc
    refine pz_iload_n (pc' := 12) (x := l3) 3 rfl (pz_dc dX9_isLeastTreaty 7 rfl) rfl ?_
    refine pz_iload_n (pc' := 13) (x := l1) 1 rfl (pz_dc dX9_isLeastTreaty 8 rfl) rfl ?_
    refine pz_iload (pc' := 15) (x := l4) 4 rfl (pz_dc dX9_isLeastTreaty 9 rfl) rfl ?_
    refine pz_callS (M := mX9_isLeastTreaty) (N := mX9_isIn) (d' := 0) (bc1 := 0) (bs1 := 0) (bc2 := bc) (bs2 := bs) (pc' := 18) [.int l1, .int l4] sX9_228 rfl (pz_dc dX9_isLeastTreaty 10 rfl) rfl (Nat.le_of_ble_eq_true rfl) (Nat.le_of_ble_eq_true rfl) rfl (by omega) (by omega) (by omega) ?_
    refine cX9_isIn ?_
    show pz_V mX9_isLeastTreaty _ _ _ _ _ 18 [(0, .ref l0), (1, .int l1), (2, .int l2), (3, .int l3), (4, .int l4)] [.int (eX9_isIn l1 l4), .int l3] h
    refine pz_if_eq (pc' := 21) (tgt := 31) rfl (pz_dc dX9_isLeastTreaty 11 rfl) (by decide) (fun hc => ?_) (fun hc => ?_)
    · replace hb := hb.1 hc
      refine pz_iconst (pc' := 32) (v := 0) rfl (pz_dc dX9_isLeastTreaty 17 rfl) ki_0 ?_
      refine pz_iadd (pc' := 33) rfl (pz_dc dX9_isLeastTreaty 18 rfl) ?_
      refine pz_istore_n (pc' := 34) (lv' := [(3, .int (l3 + ((0 : Int32)))), (0, .ref l0), (1, .int l1), (2, .int l2), (4, .int l4)]) rfl (pz_dc dX9_isLeastTreaty 19 rfl) (by decide) rfl ?_
      refine pz_iinc (pc' := 37) (x := l4) (v := l4 + (1 : Int32)) (lv' := [(4, .int (l4 + (1 : Int32))), (3, .int (l3 + ((0 : Int32)))), (0, .ref l0), (1, .int l1), (2, .int l2)]) 4 rfl (pz_dc dX9_isLeastTreaty 20 rfl) rfl rfl (by decide) rfl ?_
      refine pz_goto (pc' := 5) (pz_dc dX9_isLeastTreaty 21 rfl) (by decide) ?_
      refine pz_lv (lv' := [(0, .ref l0), (1, .int l1), (2, .int l2), (3, .int (l3 + ((0 : Int32)))), (4, .int (l4 + (1 : Int32)))]) [2, 3, 4, 1, 0] rfl ?_
      exact hb
    · replace hb := hb.2 hc
      refine pz_aload_n (pc' := 22) (x := l0) 0 rfl (pz_dc dX9_isLeastTreaty 12 rfl) rfl ?_
      refine pz_getR (M := mX9_isLeastTreaty) hb fX9_68 (pc' := 25) rfl (pz_dc dX9_isLeastTreaty 13 rfl) (fun a1 hb => ?_)
      refine pz_iload (pc' := 27) (x := l4) 4 rfl (pz_dc dX9_isLeastTreaty 14 rfl) rfl ?_
      refine pz_ldI hb (pc' := 28) rfl (pz_dc dX9_isLeastTreaty 15 rfl) (fun x2 hb => ?_)
      refine pz_goto (pc' := 32) (pz_dc dX9_isLeastTreaty 16 rfl) (by decide) ?_
      refine pz_iadd (pc' := 33) rfl (pz_dc dX9_isLeastTreaty 18 rfl) ?_
      refine pz_istore_n (pc' := 34) (lv' := [(3, .int (l3 + x2)), (0, .ref l0), (1, .int l1), (2, .int l2), (4, .int l4)]) rfl (pz_dc dX9_isLeastTreaty 19 rfl) (by decide) rfl ?_
      refine pz_iinc (pc' := 37) (x := l4) (v := l4 + (1 : Int32)) (lv' := [(4, .int (l4 + (1 : Int32))), (3, .int (l3 + x2)), (0, .ref l0), (1, .int l1), (2, .int l2)]) 4 rfl (pz_dc dX9_isLeastTreaty 20 rfl) rfl rfl (by decide) rfl ?_
      refine pz_goto (pc' := 5) (pz_dc dX9_isLeastTreaty 21 rfl) (by decide) ?_
      refine pz_lv (lv' := [(0, .ref l0), (1, .int l1), (2, .int l2), (3, .int (l3 + x2)), (4, .int (l4 + (1 : Int32)))]) [2, 3, 4, 1, 0] rfl ?_
      exact hb
set_option maxRecDepth 20000 in
set_option maxHeartbeats 4000000 in
theorem wX9_isLeastTreaty_50 {Ex : State → Nat → Prop} {Q : Option Value → pz_H → Prop} {d bc bs : Nat} {l0 : Nat} {l1 : Int32} {l2 : Int32} {l3 : Int32} {l4 : Int32}  {h : pz_H} (hD : 1 ≤ d) (hb : (((4 : Int32)) ≤ l4 → Q (some (.int 1)) h) ∧ (¬ ((4 : Int32)) ≤ l4 → ((eX9_isIn l1 l4) = 0 → pz_V mX9_isLeastTreaty Ex Q d bc bs 50 [(0, .ref l0), (1, .int l1), (2, .int l2), (3, .int l3), (4, .int (l4 + (1 : Int32)))] [] h) ∧ (¬ (eX9_isIn l1 l4) = 0 → pz_gR h l0 9 10 (fun (a1 : Nat) => pz_rI h a1 l4 (fun (x2 : Int32) => ((l3 - x2) < l2 → pz_V mX9_isLeastTreaty Ex Q d bc bs 50 [(0, .ref l0), (1, .int l1), (2, .int l2), (3, .int l3), (4, .int (l4 + (1 : Int32)))] [] h) ∧ (¬ (l3 - x2) < l2 → Q (some (.int 0)) h)))))) : pz_V mX9_isLeastTreaty Ex Q d bc bs 50 [(0, .ref l0), (1, .int l1), (2, .int l2), (3, .int l3), (4, .int l4)] [] h := by
  refine pz_iload (pc' := 52) (x := l4) 4 rfl (pz_dc dX9_isLeastTreaty 29 rfl) rfl ?_
  refine pz_iconst (pc' := 53) (v := 4) rfl (pz_dc dX9_isLeastTreaty 30 rfl) ki_4 ?_
  refine pz_icmp_ge (pc' := 56) (tgt := 86) rfl (pz_dc dX9_isLeastTreaty 31 rfl) (by decide) (fun hc => ?_) (fun hc => ?_)
  · replace hb := hb.1 hc
    refine pz_iconst (pc' := 87) (v := 1) rfl (pz_dc dX9_isLeastTreaty 48 rfl) ki_1 ?_
    exact pz_zret (pz_dc dX9_isLeastTreaty 49 rfl) rfl ⟨by decide, hb⟩
  · replace hb := hb.2 hc
    refine pz_iload_n (pc' := 57) (x := l1) 1 rfl (pz_dc dX9_isLeastTreaty 32 rfl) rfl ?_
    refine pz_iload (pc' := 59) (x := l4) 4 rfl (pz_dc dX9_isLeastTreaty 33 rfl) rfl ?_
    refine pz_callS (M := mX9_isLeastTreaty) (N := mX9_isIn) (d' := 0) (bc1 := 0) (bs1 := 0) (bc2 := bc) (bs2 := bs) (pc' := 62) [.int l1, .int l4] sX9_228 rfl (pz_dc dX9_isLeastTreaty 34 rfl) rfl (Nat.le_of_ble_eq_true rfl) (Nat.le_of_ble_eq_true rfl) rfl (by omega) (by omega) (by omega) ?_
    refine cX9_isIn ?_
    show pz_V mX9_isLeastTreaty _ _ _ _ _ 62 [(0, .ref l0), (1, .int l1), (2, .int l2), (3, .int l3), (4, .int l4)] [.int (eX9_isIn l1 l4)] h
    refine pz_if_eq (pc' := 65) (tgt := 80) rfl (pz_dc dX9_isLeastTreaty 35 rfl) (by decide) (fun hc => ?_) (fun hc => ?_)
    · replace hb := hb.1 hc
      refine pz_iinc (pc' := 83) (x := l4) (v := l4 + (1 : Int32)) (lv' := [(4, .int (l4 + (1 : Int32))), (0, .ref l0), (1, .int l1), (2, .int l2), (3, .int l3)]) 4 rfl (pz_dc dX9_isLeastTreaty 46 rfl) rfl rfl (by decide) rfl ?_
      refine pz_goto (pc' := 50) (pz_dc dX9_isLeastTreaty 47 rfl) (by decide) ?_
      refine pz_lv (lv' := [(0, .ref l0), (1, .int l1), (2, .int l2), (3, .int l3), (4, .int (l4 + (1 : Int32)))]) [1, 2, 3, 4, 0] rfl ?_
      exact hb
    · replace hb := hb.2 hc
      refine pz_iload_n (pc' := 66) (x := l3) 3 rfl (pz_dc dX9_isLeastTreaty 36 rfl) rfl ?_
      refine pz_aload_n (pc' := 67) (x := l0) 0 rfl (pz_dc dX9_isLeastTreaty 37 rfl) rfl ?_
      refine pz_getR (M := mX9_isLeastTreaty) hb fX9_68 (pc' := 70) rfl (pz_dc dX9_isLeastTreaty 38 rfl) (fun a1 hb => ?_)
      refine pz_iload (pc' := 72) (x := l4) 4 rfl (pz_dc dX9_isLeastTreaty 39 rfl) rfl ?_
      refine pz_ldI hb (pc' := 73) rfl (pz_dc dX9_isLeastTreaty 40 rfl) (fun x2 hb => ?_)
      refine pz_isub (pc' := 74) rfl (pz_dc dX9_isLeastTreaty 41 rfl) ?_
      refine pz_iload_n (pc' := 75) (x := l2) 2 rfl (pz_dc dX9_isLeastTreaty 42 rfl) rfl ?_
      refine pz_icmp_lt (pc' := 78) (tgt := 80) rfl (pz_dc dX9_isLeastTreaty 43 rfl) (by decide) (fun hc => ?_) (fun hc => ?_)
      · replace hb := hb.1 hc
        refine pz_iinc (pc' := 83) (x := l4) (v := l4 + (1 : Int32)) (lv' := [(4, .int (l4 + (1 : Int32))), (0, .ref l0), (1, .int l1), (2, .int l2), (3, .int l3)]) 4 rfl (pz_dc dX9_isLeastTreaty 46 rfl) rfl rfl (by decide) rfl ?_
        refine pz_goto (pc' := 50) (pz_dc dX9_isLeastTreaty 47 rfl) (by decide) ?_
        refine pz_lv (lv' := [(0, .ref l0), (1, .int l1), (2, .int l2), (3, .int l3), (4, .int (l4 + (1 : Int32)))]) [1, 2, 3, 4, 0] rfl ?_
        exact hb
      · replace hb := hb.2 hc
        refine pz_iconst (pc' := 79) (v := 0) rfl (pz_dc dX9_isLeastTreaty 44 rfl) ki_0 ?_
        exact pz_zret (pz_dc dX9_isLeastTreaty 45 rfl) rfl ⟨by decide, hb⟩
set_option maxRecDepth 20000 in
set_option maxHeartbeats 4000000 in
theorem wX9_heirsFault_0 {Ex : State → Nat → Prop} {Q : Option Value → pz_H → Prop} {d bc bs : Nat} {l0 : Nat}  {h : pz_H} (hD : 1 ≤ d) (hb : pz_gR h l0 9 0 (fun (a1 : Nat) => pz_is h a1 6 ∧ (pz_gI h a1 6 1 (fun (x2 : Int32) => (¬ x2 = 0 → pz_V mX9_heirsFault Ex Q d bc bs 14 [(0, .ref l0), (1, .int 0)] [] h) ∧ (x2 = 0 → Q (some (.int 0)) h))))) : pz_V mX9_heirsFault Ex Q d bc bs 0 [(0, .ref l0)] [] h := by
  refine pz_aload_n (pc' := 1) (x := l0) 0 rfl (pz_dc dX9_heirsFault 0 rfl) rfl ?_
  refine pz_getR (M := mX9_heirsFault) hb fX9_10 (pc' := 4) rfl (pz_dc dX9_heirsFault 1 rfl) (fun a1 hb => ?_)
  obtain ⟨⟨fs3, hf4⟩, hb⟩ := hb
  refine pz_callV (M := mX9_heirsFault) (N := mX6_size) (d' := 0) (bc1 := 0) (bs1 := 0) (bc2 := bc) (bs2 := bs) (pc' := 7) [] vX9_89 rfl (pz_dc dX9_heirsFault 2 rfl) rfl (Nat.le_of_ble_eq_true rfl) (Nat.le_of_ble_eq_true rfl) rfl (by omega) (by omega) (by omega) hf4 ?_
  refine pz_aload_n (pc' := 1) (x := a1) 0 rfl (pz_dc dX6_size 0 rfl) rfl ?_
  refine pz_getI (M := mX6_size) hb fX6_13 (pc' := 4) rfl (pz_dc dX6_size 1 rfl) (fun x2 hb => ?_)
  refine pz_iret (pz_dc dX6_size 2 rfl) rfl ?_
  show pz_V mX9_heirsFault _ _ _ _ _ 7 [(0, .ref l0)] [.int x2] h
  refine pz_if_ne (pc' := 10) (tgt := 12) rfl (pz_dc dX9_heirsFault 3 rfl) (by decide) (fun hc => ?_) (fun hc => ?_)
  · replace hb := hb.1 hc
    refine pz_iconst (pc' := 13) (v := 0) rfl (pz_dc dX9_heirsFault 6 rfl) ki_0 ?_
    refine pz_istore_n (pc' := 14) (lv' := [(1, .int 0), (0, .ref l0)]) rfl (pz_dc dX9_heirsFault 7 rfl) (by decide) rfl ?_
    refine pz_lv (lv' := [(0, .ref l0), (1, .int 0)]) [1, 0] rfl ?_
    exact hb
  · replace hb := hb.2 hc
    refine pz_iconst (pc' := 11) (v := 0) rfl (pz_dc dX9_heirsFault 4 rfl) ki_0 ?_
    exact pz_iret (pz_dc dX9_heirsFault 5 rfl) rfl hb
set_option maxRecDepth 20000 in
set_option maxHeartbeats 4000000 in
theorem wX9_heirsFault_14 {Ex : State → Nat → Prop} {Q : Option Value → pz_H → Prop} {d bc bs : Nat} {l0 : Nat} {l1 : Int32}  {h : pz_H} (hD : 1 ≤ d) (hb : pz_gR h l0 9 0 (fun (a1 : Nat) => pz_is h a1 6 ∧ (pz_gI h a1 6 1 (fun (x2 : Int32) => (x2 ≤ l1 → Q (some (.int ((-1)))) h) ∧ (¬ x2 ≤ l1 → pz_gR h l0 9 0 (fun (a3 : Nat) => pz_is h a3 6 ∧ (pz_ki mX6_at 0 0 0 (.ref a3 :: [.int l1, .int 6]) h (fun (x5 : Int32) (h4 : pz_H) => (¬ (eX9_isKingSign x5) = 0 → pz_V mX9_heirsFault Ex Q d bc bs 14 [(0, .ref l0), (1, .int (l1 + (1 : Int32)))] [] h4) ∧ ((eX9_isKingSign x5) = 0 → Q (some (.int l1)) h4))))))))) : pz_V mX9_heirsFault Ex Q d bc bs 14 [(0, .ref l0), (1, .int l1)] [] h := by
  refine pz_iload_n (pc' := 15) (x := l1) 1 rfl (pz_dc dX9_heirsFault 8 rfl) rfl ?_
  refine pz_aload_n (pc' := 16) (x := l0) 0 rfl (pz_dc dX9_heirsFault 9 rfl) rfl ?_
  refine pz_getR (M := mX9_heirsFault) hb fX9_10 (pc' := 19) rfl (pz_dc dX9_heirsFault 10 rfl) (fun a1 hb => ?_)
  obtain ⟨⟨fs6, hf7⟩, hb⟩ := hb
  refine pz_callV (M := mX9_heirsFault) (N := mX6_size) (d' := 0) (bc1 := 0) (bs1 := 0) (bc2 := bc) (bs2 := bs) (pc' := 22) [] vX9_89 rfl (pz_dc dX9_heirsFault 11 rfl) rfl (Nat.le_of_ble_eq_true rfl) (Nat.le_of_ble_eq_true rfl) rfl (by omega) (by omega) (by omega) hf7 ?_
  refine pz_aload_n (pc' := 1) (x := a1) 0 rfl (pz_dc dX6_size 0 rfl) rfl ?_
  refine pz_getI (M := mX6_size) hb fX6_13 (pc' := 4) rfl (pz_dc dX6_size 1 rfl) (fun x2 hb => ?_)
  refine pz_iret (pz_dc dX6_size 2 rfl) rfl ?_
  show pz_V mX9_heirsFault _ _ _ _ _ 22 [(0, .ref l0), (1, .int l1)] [.int x2, .int l1] h
  refine pz_icmp_ge (pc' := 25) (tgt := 49) rfl (pz_dc dX9_heirsFault 12 rfl) (by decide) (fun hc => ?_) (fun hc => ?_)
  · replace hb := hb.1 hc
    refine pz_iconst (pc' := 50) (v := (-1)) rfl (pz_dc dX9_heirsFault 24 rfl) ki_m1 ?_
    exact pz_iret (pz_dc dX9_heirsFault 25 rfl) rfl hb
  · replace hb := hb.2 hc
    refine pz_aload_n (pc' := 26) (x := l0) 0 rfl (pz_dc dX9_heirsFault 13 rfl) rfl ?_
    refine pz_getR (M := mX9_heirsFault) hb fX9_10 (pc' := 29) rfl (pz_dc dX9_heirsFault 14 rfl) (fun a3 hb => ?_)
    refine pz_iload_n (pc' := 30) (x := l1) 1 rfl (pz_dc dX9_heirsFault 15 rfl) rfl ?_
    refine pz_bipush (pc' := 32) (v := 6) rfl (pz_dc dX9_heirsFault 16 rfl) kb_6 ?_
    refine pz_cVi (M := mX9_heirsFault) (N := mX6_at) (d' := 0) (bc1 := 0) (bs1 := 0) (bc2 := bc) (bs2 := bs) (pc' := 35) [.int l1, .int 6] hb vX9_182 rfl (pz_dc dX9_heirsFault 17 rfl) rfl (Nat.le_of_ble_eq_true rfl) (Nat.le_of_ble_eq_true rfl) rfl (by omega) (by omega) (by omega) (fun x5 h4 hb => ?_)
    refine pz_callS (M := mX9_heirsFault) (N := mX9_isKingSign) (d' := 0) (bc1 := 0) (bs1 := 0) (bc2 := bc) (bs2 := bs) (pc' := 38) [.int x5] sX9_358 rfl (pz_dc dX9_heirsFault 18 rfl) rfl (Nat.le_of_ble_eq_true rfl) (Nat.le_of_ble_eq_true rfl) rfl (by omega) (by omega) (by omega) ?_
    refine cX9_isKingSign ?_
    show pz_V mX9_heirsFault _ _ _ _ _ 38 [(0, .ref l0), (1, .int l1)] [.int (eX9_isKingSign x5)] h4
    refine pz_if_ne (pc' := 41) (tgt := 43) rfl (pz_dc dX9_heirsFault 19 rfl) (by decide) (fun hc => ?_) (fun hc => ?_)
    · replace hb := hb.1 hc
      refine pz_iinc (pc' := 46) (x := l1) (v := l1 + (1 : Int32)) (lv' := [(1, .int (l1 + (1 : Int32))), (0, .ref l0)]) 1 rfl (pz_dc dX9_heirsFault 22 rfl) rfl rfl (by decide) rfl ?_
      refine pz_goto (pc' := 14) (pz_dc dX9_heirsFault 23 rfl) (by decide) ?_
      refine pz_lv (lv' := [(0, .ref l0), (1, .int (l1 + (1 : Int32)))]) [1, 0] rfl ?_
      exact hb
    · replace hb := hb.2 hc
      refine pz_iload_n (pc' := 42) (x := l1) 1 rfl (pz_dc dX9_heirsFault 20 rfl) rfl ?_
      exact pz_iret (pz_dc dX9_heirsFault 21 rfl) rfl hb
set_option maxRecDepth 20000 in
set_option maxHeartbeats 4000000 in
theorem wX9_weighHeirs_0 {Ex : State → Nat → Prop} {Q : Option Value → pz_H → Prop} {d bc bs : Nat} {l0 : Nat} {l1 : Int32}  {h : pz_H} (hD : 2 ≤ d) (hb : pz_V mX9_weighHeirs Ex Q d bc bs 2 [(0, .ref l0), (1, .int l1), (2, .int 0)] [] h) : pz_V mX9_weighHeirs Ex Q d bc bs 0 [(0, .ref l0), (1, .int l1)] [] h := by
  refine pz_iconst (pc' := 1) (v := 0) rfl (pz_dc dX9_weighHeirs 0 rfl) ki_0 ?_
  refine pz_istore_n (pc' := 2) (lv' := [(2, .int 0), (0, .ref l0), (1, .int l1)]) rfl (pz_dc dX9_weighHeirs 1 rfl) (by decide) rfl ?_
  refine pz_lv (lv' := [(0, .ref l0), (1, .int l1), (2, .int 0)]) [1, 2, 0] rfl ?_
  exact hb
set_option maxRecDepth 20000 in
set_option maxHeartbeats 4000000 in
theorem wX9_weighHeirs_2 {Ex : State → Nat → Prop} {Q : Option Value → pz_H → Prop} {d bc bs : Nat} {l0 : Nat} {l1 : Int32} {l2 : Int32}  {h : pz_H} (hD : 2 ≤ d) (hb : (((64 : Int32)) ≤ l2 → pz_V mX9_weighHeirs Ex Q d bc bs 25 [(0, .ref l0), (2, .int (l1 - ((1 : Int32))))] [] h) ∧ (¬ ((64 : Int32)) ≤ l2 → pz_is h l0 9 ∧ (pz_kv mX9_setBest 0 0 0 (.ref l0 :: [.int l1, .int l2, .int 0]) h (fun (h1 : pz_H) => pz_V mX9_weighHeirs Ex Q d bc bs 2 [(0, .ref l0), (1, .int l1), (2, .int (l2 + (1 : Int32)))] [] h1)))) : pz_V mX9_weighHeirs Ex Q d bc bs 2 [(0, .ref l0), (1, .int l1), (2, .int l2)] [] h := by
  refine pz_iload_n (pc' := 3) (x := l2) 2 rfl (pz_dc dX9_weighHeirs 2 rfl) rfl ?_
  refine pz_bipush (pc' := 5) (v := 64) rfl (pz_dc dX9_weighHeirs 3 rfl) kb_64 ?_
  refine pz_icmp_ge (pc' := 8) (tgt := 21) rfl (pz_dc dX9_weighHeirs 4 rfl) (by decide) (fun hc => ?_) (fun hc => ?_)
  · replace hb := hb.1 hc
    refine pz_iload_n (pc' := 22) (x := l1) 1 rfl (pz_dc dX9_weighHeirs 12 rfl) rfl ?_
    refine pz_iconst (pc' := 23) (v := 1) rfl (pz_dc dX9_weighHeirs 13 rfl) ki_1 ?_
    refine pz_isub (pc' := 24) rfl (pz_dc dX9_weighHeirs 14 rfl) ?_
    refine pz_istore_n (pc' := 25) (lv' := [(2, .int (l1 - ((1 : Int32)))), (0, .ref l0), (1, .int l1)]) rfl (pz_dc dX9_weighHeirs 15 rfl) (by decide) rfl ?_
    refine pz_lv (lv' := [(0, .ref l0), (2, .int (l1 - ((1 : Int32))))]) [1, 0] rfl ?_
    exact hb
  · replace hb := hb.2 hc
    refine pz_aload_n (pc' := 9) (x := l0) 0 rfl (pz_dc dX9_weighHeirs 5 rfl) rfl ?_
    refine pz_iload_n (pc' := 10) (x := l1) 1 rfl (pz_dc dX9_weighHeirs 6 rfl) rfl ?_
    refine pz_iload_n (pc' := 11) (x := l2) 2 rfl (pz_dc dX9_weighHeirs 7 rfl) rfl ?_
    refine pz_iconst (pc' := 12) (v := 0) rfl (pz_dc dX9_weighHeirs 8 rfl) ki_0 ?_
    refine pz_cVv (M := mX9_weighHeirs) (N := mX9_setBest) (d' := 0) (bc1 := 0) (bs1 := 0) (bc2 := bc) (bs2 := bs) (pc' := 15) [.int l1, .int l2, .int 0] hb vX9_408 rfl (pz_dc dX9_weighHeirs 9 rfl) rfl (Nat.le_of_ble_eq_true rfl) (Nat.le_of_ble_eq_true rfl) rfl (by omega) (by omega) (by omega) (fun h1 hb => ?_)
    refine pz_iinc (pc' := 18) (x := l2) (v := l2 + (1 : Int32)) (lv' := [(2, .int (l2 + (1 : Int32))), (0, .ref l0), (1, .int l1)]) 2 rfl (pz_dc dX9_weighHeirs 10 rfl) rfl rfl (by decide) rfl ?_
    refine pz_goto (pc' := 2) (pz_dc dX9_weighHeirs 11 rfl) (by decide) ?_
    refine pz_lv (lv' := [(0, .ref l0), (1, .int l1), (2, .int (l2 + (1 : Int32)))]) [1, 2, 0] rfl ?_
    exact hb
set_option maxRecDepth 20000 in
set_option maxHeartbeats 4000000 in
theorem wX9_weighHeirs_25 {Ex : State → Nat → Prop} {Q : Option Value → pz_H → Prop} {d bc bs : Nat} {l0 : Nat} {l2 : Int32}  {h : pz_H} (hD : 2 ≤ d) (hb : (l2 < 0 → Q none h) ∧ (¬ l2 < 0 → pz_V mX9_weighHeirs Ex Q d bc bs 31 [(0, .ref l0), (2, .int l2), (3, .int 0)] [] h)) : pz_V mX9_weighHeirs Ex Q d bc bs 25 [(0, .ref l0), (2, .int l2)] [] h := by
  refine pz_iload_n (pc' := 26) (x := l2) 1 rfl (pz_dc dX9_weighHeirs 16 rfl) rfl ?_
  refine pz_if_lt (pc' := 29) (tgt := 135) rfl (pz_dc dX9_weighHeirs 17 rfl) (by decide) (fun hc => ?_) (fun hc => ?_)
  · replace hb := hb.1 hc
    exact pz_vret (pz_dc dX9_weighHeirs 75 rfl) rfl hb
  · replace hb := hb.2 hc
    refine pz_iconst (pc' := 30) (v := 0) rfl (pz_dc dX9_weighHeirs 18 rfl) ki_0 ?_
    refine pz_istore_n (pc' := 31) (lv' := [(3, .int 0), (0, .ref l0), (2, .int l2)]) rfl (pz_dc dX9_weighHeirs 19 rfl) (by decide) rfl ?_
    refine pz_lv (lv' := [(0, .ref l0), (2, .int l2), (3, .int 0)]) [1, 2, 0] rfl ?_
    exact hb
set_option maxRecDepth 20000 in
set_option maxHeartbeats 4000000 in
theorem wX9_weighHeirs_31 {Ex : State → Nat → Prop} {Q : Option Value → pz_H → Prop} {d bc bs : Nat} {l0 : Nat} {l2 : Int32} {l3 : Int32}  {h : pz_H} (hD : 2 ≤ d) (hb : pz_gR h l0 9 2 (fun (a1 : Nat) => pz_is h a1 1 ∧ (pz_gI h a1 1 4 (fun (x2 : Int32) => ((eX1_all x2) < l3 → pz_V mX9_weighHeirs Ex Q d bc bs 25 [(0, .ref l0), (2, .int (l2 + (-1 : Int32)))] [] h) ∧ (¬ (eX1_all x2) < l3 → pz_is h l0 9 ∧ (pz_ki mX9_bestOf 0 0 0 (.ref l0 :: [.int (l2 + ((1 : Int32))), .int l3]) h (fun (x7 : Int32) (h6 : pz_H) => pz_V mX9_weighHeirs Ex Q d bc bs 55 [(0, .ref l0), (2, .int l2), (3, .int l3), (4, .int x7), (5, .int 0)] [] h6))))))) : pz_V mX9_weighHeirs Ex Q d bc bs 31 [(0, .ref l0), (2, .int l2), (3, .int l3)] [] h := by
  refine pz_iload_n (pc' := 32) (x := l3) 2 rfl (pz_dc dX9_weighHeirs 20 rfl) rfl ?_
  refine pz_aload_n (pc' := 33) (x := l0) 0 rfl (pz_dc dX9_weighHeirs 21 rfl) rfl ?_
  refine pz_getR (M := mX9_weighHeirs) hb fX9_26 (pc' := 36) rfl (pz_dc dX9_weighHeirs 22 rfl) (fun a1 hb => ?_)
  obtain ⟨⟨fs8, hf9⟩, hb⟩ := hb
  obtain ⟨fs3, x2, g4, g5, hb⟩ := hb
  refine pz_callV (M := mX9_weighHeirs) (N := mX1_all) (d' := 0) (bc1 := 0) (bs1 := 0) (bc2 := bc) (bs2 := bs) (pc' := 39) [] vX9_257 rfl (pz_dc dX9_weighHeirs 23 rfl) rfl (Nat.le_of_ble_eq_true rfl) (Nat.le_of_ble_eq_true rfl) rfl (by omega) (by omega) (by omega) hf9 ?_
  refine cX1_all ⟨fs3, x2, g4, g5, ?_⟩
  show pz_V mX9_weighHeirs _ _ _ _ _ 39 [(0, .ref l0), (2, .int l2), (3, .int l3)] [.int (eX1_all x2), .int l3] h
  refine pz_icmp_gt (pc' := 42) (tgt := 129) rfl (pz_dc dX9_weighHeirs 24 rfl) (by decide) (fun hc => ?_) (fun hc => ?_)
  · replace hb := hb.1 hc
    refine pz_iinc (pc' := 132) (x := l2) (v := l2 + (-1 : Int32)) (lv' := [(2, .int (l2 + (-1 : Int32))), (0, .ref l0), (3, .int l3)]) 1 rfl (pz_dc dX9_weighHeirs 73 rfl) rfl rfl (by decide) rfl ?_
    refine pz_goto (pc' := 25) (pz_dc dX9_weighHeirs 74 rfl) (by decide) ?_
    refine pz_lv (lv' := [(0, .ref l0), (2, .int (l2 + (-1 : Int32)))]) [1, 0] rfl ?_
    exact hb
  · replace hb := hb.2 hc
    refine pz_aload_n (pc' := 43) (x := l0) 0 rfl (pz_dc dX9_weighHeirs 25 rfl) rfl ?_
    refine pz_iload_n (pc' := 44) (x := l2) 1 rfl (pz_dc dX9_weighHeirs 26 rfl) rfl ?_
    refine pz_iconst (pc' := 45) (v := 1) rfl (pz_dc dX9_weighHeirs 27 rfl) ki_1 ?_
    refine pz_iadd (pc' := 46) rfl (pz_dc dX9_weighHeirs 28 rfl) ?_
    refine pz_iload_n (pc' := 47) (x := l3) 2 rfl (pz_dc dX9_weighHeirs 29 rfl) rfl ?_
    refine pz_cVi (M := mX9_weighHeirs) (N := mX9_bestOf) (d' := 0) (bc1 := 0) (bs1 := 0) (bc2 := bc) (bs2 := bs) (pc' := 50) [.int (l2 + ((1 : Int32))), .int l3] hb vX9_412 rfl (pz_dc dX9_weighHeirs 30 rfl) rfl (Nat.le_of_ble_eq_true rfl) (Nat.le_of_ble_eq_true rfl) rfl (by omega) (by omega) (by omega) (fun x7 h6 hb => ?_)
    refine pz_istore (pc' := 52) (lv' := [(4, .int x7), (0, .ref l0), (2, .int l2), (3, .int l3)]) rfl (pz_dc dX9_weighHeirs 31 rfl) (by decide) rfl ?_
    refine pz_iconst (pc' := 53) (v := 0) rfl (pz_dc dX9_weighHeirs 32 rfl) ki_0 ?_
    refine pz_istore (pc' := 55) (lv' := [(5, .int 0), (4, .int x7), (0, .ref l0), (2, .int l2), (3, .int l3)]) rfl (pz_dc dX9_weighHeirs 33 rfl) (by decide) rfl ?_
    refine pz_lv (lv' := [(0, .ref l0), (2, .int l2), (3, .int l3), (4, .int x7), (5, .int 0)]) [2, 3, 4, 1, 0] rfl ?_
    exact hb
set_option maxRecDepth 20000 in
set_option maxHeartbeats 4000000 in
theorem wX9_weighHeirs_55 {Ex : State → Nat → Prop} {Q : Option Value → pz_H → Prop} {d bc bs : Nat} {l0 : Nat} {l2 : Int32} {l3 : Int32} {l4 : Int32} {l5 : Int32}  {h : pz_H} (hD : 2 ≤ d) (hb : pz_gR h l0 9 2 (fun (a1 : Nat) => pz_is h a1 1 ∧ (pz_gI h a1 1 4 (fun (x2 : Int32) => (x2 ≤ l5 → pz_is h l0 9 ∧ (pz_kv mX9_setBest 0 0 0 (.ref l0 :: [.int l2, .int l3, .int l4]) h (fun (h3 : pz_H) => pz_V mX9_weighHeirs Ex Q d bc bs 31 [(0, .ref l0), (2, .int l2), (3, .int (l3 + (1 : Int32)))] [] h3))) ∧ (¬ x2 ≤ l5 → pz_is h l0 9 ∧ (pz_ki mX9_canHave 1 0 0 (.ref l0 :: [.int l2, .int l5, .int l3]) h (fun (x5 : Int32) (h4 : pz_H) => (x5 = 0 → pz_V mX9_weighHeirs Ex Q d bc bs 55 [(0, .ref l0), (2, .int l2), (3, .int l3), (4, .int l4), (5, .int (l5 + (1 : Int32)))] [] h4) ∧ (¬ x5 = 0 → pz_gR h4 l0 9 3 (fun (a6 : Nat) => pz_gR h4 a6 8 0 (fun (a7 : Nat) => pz_rI h4 a7 l5 (fun (x8 : Int32) => pz_is h4 l0 9 ∧ (pz_ki mX9_bestOf 0 0 0 (.ref l0 :: [.int (l2 + ((1 : Int32))), .int (l3 ||| (((1 : Int32)) <<< (l5 &&& 31)))]) h4 (fun (x10 : Int32) (h9 : pz_H) => pz_V mX9_weighHeirs Ex Q d bc bs 55 [(0, .ref l0), (2, .int l2), (3, .int l3), (4, .int (if l4 < (x8 + x10) then (x8 + x10) else l4)), (5, .int (l5 + (1 : Int32)))] [] h9))))))))))))) : pz_V mX9_weighHeirs Ex Q d bc bs 55 [(0, .ref l0), (2, .int l2), (3, .int l3), (4, .int l4), (5, .int l5)] [] h := by
  refine pz_iload (pc' := 57) (x := l5) 4 rfl (pz_dc dX9_weighHeirs 34 rfl) rfl ?_
  refine pz_aload_n (pc' := 58) (x := l0) 0 rfl (pz_dc dX9_weighHeirs 35 rfl) rfl ?_
  refine pz_getR (M := mX9_weighHeirs) hb fX9_26 (pc' := 61) rfl (pz_dc dX9_weighHeirs 36 rfl) (fun a1 hb => ?_)
  obtain ⟨⟨fs11, hf12⟩, hb⟩ := hb
  refine pz_callV (M := mX9_weighHeirs) (N := mX1_size) (d' := 0) (bc1 := 0) (bs1 := 0) (bc2 := bc) (bs2 := bs) (pc' := 64) [] vX9_208 rfl (pz_dc dX9_weighHeirs 37 rfl) rfl (Nat.le_of_ble_eq_true rfl) (Nat.le_of_ble_eq_true rfl) rfl (by omega) (by omega) (by omega) hf12 ?_
  refine pz_aload_n (pc' := 1) (x := a1) 0 rfl (pz_dc dX1_size 0 rfl) rfl ?_
  refine pz_getI (M := mX1_size) hb fX1_24 (pc' := 4) rfl (pz_dc dX1_size 1 rfl) (fun x2 hb => ?_)
  refine pz_iret (pz_dc dX1_size 2 rfl) rfl ?_
  show pz_V mX9_weighHeirs _ _ _ _ _ 64 [(0, .ref l0), (2, .int l2), (3, .int l3), (4, .int l4), (5, .int l5)] [.int x2, .int l5] h
  refine pz_icmp_ge (pc' := 67) (tgt := 115) rfl (pz_dc dX9_weighHeirs 38 rfl) (by decide) (fun hc => ?_) (fun hc => ?_)
  · replace hb := hb.1 hc
    refine pz_aload_n (pc' := 116) (x := l0) 0 rfl (pz_dc dX9_weighHeirs 66 rfl) rfl ?_
    refine pz_iload_n (pc' := 117) (x := l2) 1 rfl (pz_dc dX9_weighHeirs 67 rfl) rfl ?_
    refine pz_iload_n (pc' := 118) (x := l3) 2 rfl (pz_dc dX9_weighHeirs 68 rfl) rfl ?_
    refine pz_iload (pc' := 120) (x := l4) 3 rfl (pz_dc dX9_weighHeirs 69 rfl) rfl ?_
    refine pz_cVv (M := mX9_weighHeirs) (N := mX9_setBest) (d' := 0) (bc1 := 0) (bs1 := 0) (bc2 := bc) (bs2 := bs) (pc' := 123) [.int l2, .int l3, .int l4] hb vX9_408 rfl (pz_dc dX9_weighHeirs 70 rfl) rfl (Nat.le_of_ble_eq_true rfl) (Nat.le_of_ble_eq_true rfl) rfl (by omega) (by omega) (by omega) (fun h3 hb => ?_)
    refine pz_iinc (pc' := 126) (x := l3) (v := l3 + (1 : Int32)) (lv' := [(3, .int (l3 + (1 : Int32))), (0, .ref l0), (2, .int l2), (4, .int l4), (5, .int l5)]) 2 rfl (pz_dc dX9_weighHeirs 71 rfl) rfl rfl (by decide) rfl ?_
    refine pz_goto (pc' := 31) (pz_dc dX9_weighHeirs 72 rfl) (by decide) ?_
    refine pz_lv (lv' := [(0, .ref l0), (2, .int l2), (3, .int (l3 + (1 : Int32)))]) [1, 2, 0] rfl ?_
    exact hb
  · replace hb := hb.2 hc
    refine pz_aload_n (pc' := 68) (x := l0) 0 rfl (pz_dc dX9_weighHeirs 39 rfl) rfl ?_
    refine pz_iload_n (pc' := 69) (x := l2) 1 rfl (pz_dc dX9_weighHeirs 40 rfl) rfl ?_
    refine pz_iload (pc' := 71) (x := l5) 4 rfl (pz_dc dX9_weighHeirs 41 rfl) rfl ?_
    refine pz_iload_n (pc' := 72) (x := l3) 2 rfl (pz_dc dX9_weighHeirs 42 rfl) rfl ?_
    refine pz_cVi (M := mX9_weighHeirs) (N := mX9_canHave) (d' := 1) (bc1 := 0) (bs1 := 0) (bc2 := bc) (bs2 := bs) (pc' := 75) [.int l2, .int l5, .int l3] hb vX9_415 rfl (pz_dc dX9_weighHeirs 43 rfl) rfl (Nat.le_of_ble_eq_true rfl) (Nat.le_of_ble_eq_true rfl) rfl (by omega) (by omega) (by omega) (fun x5 h4 hb => ?_)
    refine pz_if_eq (pc' := 78) (tgt := 109) rfl (pz_dc dX9_weighHeirs 44 rfl) (by decide) (fun hc => ?_) (fun hc => ?_)
    · replace hb := hb.1 hc
      refine pz_iinc (pc' := 112) (x := l5) (v := l5 + (1 : Int32)) (lv' := [(5, .int (l5 + (1 : Int32))), (0, .ref l0), (2, .int l2), (3, .int l3), (4, .int l4)]) 4 rfl (pz_dc dX9_weighHeirs 64 rfl) rfl rfl (by decide) rfl ?_
      refine pz_goto (pc' := 55) (pz_dc dX9_weighHeirs 65 rfl) (by decide) ?_
      refine pz_lv (lv' := [(0, .ref l0), (2, .int l2), (3, .int l3), (4, .int l4), (5, .int (l5 + (1 : Int32)))]) [1, 2, 3, 4, 0] rfl ?_
      exact hb
    · replace hb := hb.2 hc
      refine pz_iload (pc' := 80) (x := l4) 3 rfl (pz_dc dX9_weighHeirs 45 rfl) rfl ?_
      refine pz_aload_n (pc' := 81) (x := l0) 0 rfl (pz_dc dX9_weighHeirs 46 rfl) rfl ?_
      refine pz_getR (M := mX9_weighHeirs) hb fX9_33 (pc' := 84) rfl (pz_dc dX9_weighHeirs 47 rfl) (fun a6 hb => ?_)
      refine pz_getR (M := mX9_weighHeirs) hb fX9_136 (pc' := 87) rfl (pz_dc dX9_weighHeirs 48 rfl) (fun a7 hb => ?_)
      refine pz_iload (pc' := 89) (x := l5) 4 rfl (pz_dc dX9_weighHeirs 49 rfl) rfl ?_
      refine pz_ldI hb (pc' := 90) rfl (pz_dc dX9_weighHeirs 50 rfl) (fun x8 hb => ?_)
      refine pz_aload_n (pc' := 91) (x := l0) 0 rfl (pz_dc dX9_weighHeirs 51 rfl) rfl ?_
      refine pz_iload_n (pc' := 92) (x := l2) 1 rfl (pz_dc dX9_weighHeirs 52 rfl) rfl ?_
      refine pz_iconst (pc' := 93) (v := 1) rfl (pz_dc dX9_weighHeirs 53 rfl) ki_1 ?_
      refine pz_iadd (pc' := 94) rfl (pz_dc dX9_weighHeirs 54 rfl) ?_
      refine pz_iload_n (pc' := 95) (x := l3) 2 rfl (pz_dc dX9_weighHeirs 55 rfl) rfl ?_
      refine pz_iconst (pc' := 96) (v := 1) rfl (pz_dc dX9_weighHeirs 56 rfl) ki_1 ?_
      refine pz_iload (pc' := 98) (x := l5) 4 rfl (pz_dc dX9_weighHeirs 57 rfl) rfl ?_
      refine pz_ishl (pc' := 99) rfl (pz_dc dX9_weighHeirs 58 rfl) ?_
      refine pz_ior (pc' := 100) rfl (pz_dc dX9_weighHeirs 59 rfl) ?_
      refine pz_cVi (M := mX9_weighHeirs) (N := mX9_bestOf) (d' := 0) (bc1 := 0) (bs1 := 0) (bc2 := bc) (bs2 := bs) (pc' := 103) [.int (l2 + ((1 : Int32))), .int (l3 ||| (((1 : Int32)) <<< (l5 &&& 31)))] hb vX9_412 rfl (pz_dc dX9_weighHeirs 60 rfl) rfl (Nat.le_of_ble_eq_true rfl) (Nat.le_of_ble_eq_true rfl) rfl (by omega) (by omega) (by omega) (fun x10 h9 hb => ?_)
      refine pz_iadd (pc' := 104) rfl (pz_dc dX9_weighHeirs 61 rfl) ?_
      refine pz_max (M := mX9_weighHeirs) (pc' := 107) wX9_246 rfl (pz_dc dX9_weighHeirs 62 rfl) (Nat.le_of_ble_eq_true rfl) (by omega) ?_
      refine pz_istore (pc' := 109) (lv' := [(4, .int (if l4 < (x8 + x10) then (x8 + x10) else l4)), (0, .ref l0), (2, .int l2), (3, .int l3), (5, .int l5)]) rfl (pz_dc dX9_weighHeirs 63 rfl) (by decide) rfl ?_
      refine pz_iinc (pc' := 112) (x := l5) (v := l5 + (1 : Int32)) (lv' := [(5, .int (l5 + (1 : Int32))), (4, .int (if l4 < (x8 + x10) then (x8 + x10) else l4)), (0, .ref l0), (2, .int l2), (3, .int l3)]) 4 rfl (pz_dc dX9_weighHeirs 64 rfl) rfl rfl (by decide) rfl ?_
      refine pz_goto (pc' := 55) (pz_dc dX9_weighHeirs 65 rfl) (by decide) ?_
      refine pz_lv (lv' := [(0, .ref l0), (2, .int l2), (3, .int l3), (4, .int (if l4 < (x8 + x10) then (x8 + x10) else l4)), (5, .int (l5 + (1 : Int32)))]) [2, 3, 4, 1, 0] rfl ?_
      exact hb
set_option maxRecDepth 20000 in
set_option maxHeartbeats 4000000 in
theorem wX9_tellHeirs_0 {Ex : State → Nat → Prop} {Q : Option Value → pz_H → Prop} {d bc bs : Nat} {l0 : Nat} {l1 : Int32}  {h : pz_H} (hD : 2 ≤ d) (hb : pz_gR h l0 9 1 (fun (a1 : Nat) => pz_is h a1 4 ∧ (pz_pF h a1 4 1 (.int 0) (fun (h2 : pz_H) => pz_V mX9_tellHeirs Ex Q d bc bs 11 [(0, .ref l0), (1, .int l1), (2, .int 0), (3, .int 0)] [] h2)))) : pz_V mX9_tellHeirs Ex Q d bc bs 0 [(0, .ref l0), (1, .int l1)] [] h := by
  refine pz_aload_n (pc' := 1) (x := l0) 0 rfl (pz_dc dX9_tellHeirs 0 rfl) rfl ?_
  refine pz_getR (M := mX9_tellHeirs) hb fX9_19 (pc' := 4) rfl (pz_dc dX9_tellHeirs 1 rfl) (fun a1 hb => ?_)
  obtain ⟨⟨fs3, hf4⟩, hb⟩ := hb
  refine pz_callV (M := mX9_tellHeirs) (N := mX4_clear) (d' := 0) (bc1 := 0) (bs1 := 0) (bc2 := bc) (bs2 := bs) (pc' := 7) [] vX9_207 rfl (pz_dc dX9_tellHeirs 2 rfl) rfl (Nat.le_of_ble_eq_true rfl) (Nat.le_of_ble_eq_true rfl) rfl (by omega) (by omega) (by omega) hf4 ?_
  refine pz_aload_n (pc' := 1) (x := a1) 0 rfl (pz_dc dX4_clear 0 rfl) rfl ?_
  refine pz_iconst (pc' := 2) (v := 0) rfl (pz_dc dX4_clear 1 rfl) ki_0 ?_
  refine pz_putv (M := mX4_clear) hb (pX4_15 _ rfl) rfl rfl (pc' := 5) rfl (pz_dc dX4_clear 2 rfl) (fun h2 hb => ?_)
  refine pz_vret (pz_dc dX4_clear 3 rfl) rfl ?_
  show pz_V mX9_tellHeirs _ _ _ _ _ 7 [(0, .ref l0), (1, .int l1)] [] h2
  refine pz_iconst (pc' := 8) (v := 0) rfl (pz_dc dX9_tellHeirs 3 rfl) ki_0 ?_
  refine pz_istore_n (pc' := 9) (lv' := [(2, .int 0), (0, .ref l0), (1, .int l1)]) rfl (pz_dc dX9_tellHeirs 4 rfl) (by decide) rfl ?_
  refine pz_iconst (pc' := 10) (v := 0) rfl (pz_dc dX9_tellHeirs 5 rfl) ki_0 ?_
  refine pz_istore_n (pc' := 11) (lv' := [(3, .int 0), (2, .int 0), (0, .ref l0), (1, .int l1)]) rfl (pz_dc dX9_tellHeirs 6 rfl) (by decide) rfl ?_
  refine pz_lv (lv' := [(0, .ref l0), (1, .int l1), (2, .int 0), (3, .int 0)]) [2, 3, 1, 0] rfl ?_
  exact hb
set_option maxRecDepth 20000 in
set_option maxHeartbeats 4000000 in
theorem wX9_tellHeirs_11 {Ex : State → Nat → Prop} {Q : Option Value → pz_H → Prop} {d bc bs : Nat} {l0 : Nat} {l1 : Int32} {l2 : Int32} {l3 : Int32}  {h : pz_H} (hD : 2 ≤ d) (hb : (l1 ≤ l3 → Q none h) ∧ (¬ l1 ≤ l3 → pz_is h l0 9 ∧ (pz_ki mX9_bestOf 0 0 0 (.ref l0 :: [.int l3, .int l2]) h (fun (x2 : Int32) (h1 : pz_H) => pz_V mX9_tellHeirs Ex Q d bc bs 30 [(0, .ref l0), (1, .int l1), (2, .int l2), (3, .int l3), (4, .int x2), (5, .int ((-1))), (6, .int 0)] [] h1)))) : pz_V mX9_tellHeirs Ex Q d bc bs 11 [(0, .ref l0), (1, .int l1), (2, .int l2), (3, .int l3)] [] h := by
  refine pz_iload_n (pc' := 12) (x := l3) 3 rfl (pz_dc dX9_tellHeirs 7 rfl) rfl ?_
  refine pz_iload_n (pc' := 13) (x := l1) 1 rfl (pz_dc dX9_tellHeirs 8 rfl) rfl ?_
  refine pz_icmp_ge (pc' := 16) (tgt := 140) rfl (pz_dc dX9_tellHeirs 9 rfl) (by decide) (fun hc => ?_) (fun hc => ?_)
  · replace hb := hb.1 hc
    exact pz_vret (pz_dc dX9_tellHeirs 79 rfl) rfl hb
  · replace hb := hb.2 hc
    refine pz_aload_n (pc' := 17) (x := l0) 0 rfl (pz_dc dX9_tellHeirs 10 rfl) rfl ?_
    refine pz_iload_n (pc' := 18) (x := l3) 3 rfl (pz_dc dX9_tellHeirs 11 rfl) rfl ?_
    refine pz_iload_n (pc' := 19) (x := l2) 2 rfl (pz_dc dX9_tellHeirs 12 rfl) rfl ?_
    refine pz_cVi (M := mX9_tellHeirs) (N := mX9_bestOf) (d' := 0) (bc1 := 0) (bs1 := 0) (bc2 := bc) (bs2 := bs) (pc' := 22) [.int l3, .int l2] hb vX9_412 rfl (pz_dc dX9_tellHeirs 13 rfl) rfl (Nat.le_of_ble_eq_true rfl) (Nat.le_of_ble_eq_true rfl) rfl (by omega) (by omega) (by omega) (fun x2 h1 hb => ?_)
    refine pz_istore (pc' := 24) (lv' := [(4, .int x2), (0, .ref l0), (1, .int l1), (2, .int l2), (3, .int l3)]) rfl (pz_dc dX9_tellHeirs 14 rfl) (by decide) rfl ?_
    refine pz_iconst (pc' := 25) (v := (-1)) rfl (pz_dc dX9_tellHeirs 15 rfl) ki_m1 ?_
    refine pz_istore (pc' := 27) (lv' := [(5, .int ((-1))), (4, .int x2), (0, .ref l0), (1, .int l1), (2, .int l2), (3, .int l3)]) rfl (pz_dc dX9_tellHeirs 16 rfl) (by decide) rfl ?_
    refine pz_iconst (pc' := 28) (v := 0) rfl (pz_dc dX9_tellHeirs 17 rfl) ki_0 ?_
    refine pz_istore (pc' := 30) (lv' := [(6, .int 0), (5, .int ((-1))), (4, .int x2), (0, .ref l0), (1, .int l1), (2, .int l2), (3, .int l3)]) rfl (pz_dc dX9_tellHeirs 18 rfl) (by decide) rfl ?_
    refine pz_lv (lv' := [(0, .ref l0), (1, .int l1), (2, .int l2), (3, .int l3), (4, .int x2), (5, .int ((-1))), (6, .int 0)]) [3, 4, 5, 6, 2, 1, 0] rfl ?_
    exact hb
set_option maxRecDepth 20000 in
set_option maxHeartbeats 4000000 in
theorem wX9_tellHeirs_30 {Ex : State → Nat → Prop} {Q : Option Value → pz_H → Prop} {d bc bs : Nat} {l0 : Nat} {l1 : Int32} {l2 : Int32} {l3 : Int32} {l4 : Int32} {l5 : Int32} {l6 : Int32}  {h : pz_H} (hD : 2 ≤ d) (hb : pz_gR h l0 9 2 (fun (a1 : Nat) => pz_is h a1 1 ∧ (pz_gI h a1 1 4 (fun (x2 : Int32) => (x2 ≤ l6 → pz_gR h l0 9 1 (fun (a3 : Nat) => pz_is h a3 4 ∧ (pz_kv mX4_add 0 0 0 (.ref a3 :: [.long l5.toInt64]) h (fun (h4 : pz_H) => (l5 = ((-1 : Int32)) → pz_V mX9_tellHeirs Ex Q d bc bs 11 [(0, .ref l0), (1, .int l1), (2, .int l2), (3, .int (l3 + (1 : Int32)))] [] h4) ∧ (¬ l5 = ((-1 : Int32)) → pz_V mX9_tellHeirs Ex Q d bc bs 11 [(0, .ref l0), (1, .int l1), (2, .int (l2 ||| (((1 : Int32)) <<< (l5 &&& 31)))), (3, .int (l3 + (1 : Int32)))] [] h4))))) ∧ (¬ x2 ≤ l6 → pz_is h l0 9 ∧ (pz_ki mX9_bestOf 0 0 0 (.ref l0 :: [.int (l3 + ((1 : Int32))), .int l2]) h (fun (x6 : Int32) (h5 : pz_H) => (x6 = l4 → pz_gR h5 l0 9 1 (fun (a7 : Nat) => pz_is h5 a7 4 ∧ (pz_kv mX4_add 0 0 0 (.ref a7 :: [.long l5.toInt64]) h5 (fun (h8 : pz_H) => (l5 = ((-1 : Int32)) → pz_V mX9_tellHeirs Ex Q d bc bs 11 [(0, .ref l0), (1, .int l1), (2, .int l2), (3, .int (l3 + (1 : Int32)))] [] h8) ∧ (¬ l5 = ((-1 : Int32)) → pz_V mX9_tellHeirs Ex Q d bc bs 11 [(0, .ref l0), (1, .int l1), (2, .int (l2 ||| (((1 : Int32)) <<< (l5 &&& 31)))), (3, .int (l3 + (1 : Int32)))] [] h8))))) ∧ (¬ x6 = l4 → (¬ l5 = ((-1 : Int32)) → pz_gR h5 l0 9 1 (fun (a9 : Nat) => pz_is h5 a9 4 ∧ (pz_kv mX4_add 0 0 0 (.ref a9 :: [.long l5.toInt64]) h5 (fun (h10 : pz_H) => (l5 = ((-1 : Int32)) → pz_V mX9_tellHeirs Ex Q d bc bs 11 [(0, .ref l0), (1, .int l1), (2, .int l2), (3, .int (l3 + (1 : Int32)))] [] h10) ∧ (¬ l5 = ((-1 : Int32)) → pz_V mX9_tellHeirs Ex Q d bc bs 11 [(0, .ref l0), (1, .int l1), (2, .int (l2 ||| (((1 : Int32)) <<< (l5 &&& 31)))), (3, .int (l3 + (1 : Int32)))] [] h10))))) ∧ (l5 = ((-1 : Int32)) → pz_is h5 l0 9 ∧ (pz_ki mX9_canHave 1 0 0 (.ref l0 :: [.int l3, .int l6, .int l2]) h5 (fun (x12 : Int32) (h11 : pz_H) => (x12 = 0 → pz_V mX9_tellHeirs Ex Q d bc bs 30 [(0, .ref l0), (1, .int l1), (2, .int l2), (3, .int l3), (4, .int l4), (5, .int l5), (6, .int (l6 + (1 : Int32)))] [] h11) ∧ (¬ x12 = 0 → pz_gR h11 l0 9 3 (fun (a13 : Nat) => pz_gR h11 a13 8 0 (fun (a14 : Nat) => pz_rI h11 a14 l6 (fun (x15 : Int32) => pz_is h11 l0 9 ∧ (pz_ki mX9_bestOf 0 0 0 (.ref l0 :: [.int (l3 + ((1 : Int32))), .int (l2 ||| (((1 : Int32)) <<< (l6 &&& 31)))]) h11 (fun (x17 : Int32) (h16 : pz_H) => (¬ (x15 + x17) = l4 → pz_V mX9_tellHeirs Ex Q d bc bs 30 [(0, .ref l0), (1, .int l1), (2, .int l2), (3, .int l3), (4, .int l4), (5, .int l5), (6, .int (l6 + (1 : Int32)))] [] h16) ∧ ((x15 + x17) = l4 → pz_V mX9_tellHeirs Ex Q d bc bs 30 [(0, .ref l0), (1, .int l1), (2, .int l2), (3, .int l3), (4, .int l4), (5, .int l6), (6, .int (l6 + (1 : Int32)))] [] h16)))))))))))))))))) : pz_V mX9_tellHeirs Ex Q d bc bs 30 [(0, .ref l0), (1, .int l1), (2, .int l2), (3, .int l3), (4, .int l4), (5, .int l5), (6, .int l6)] [] h := by
  refine pz_iload (pc' := 32) (x := l6) 6 rfl (pz_dc dX9_tellHeirs 19 rfl) rfl ?_
  refine pz_aload_n (pc' := 33) (x := l0) 0 rfl (pz_dc dX9_tellHeirs 20 rfl) rfl ?_
  refine pz_getR (M := mX9_tellHeirs) hb fX9_26 (pc' := 36) rfl (pz_dc dX9_tellHeirs 21 rfl) (fun a1 hb => ?_)
  obtain ⟨⟨fs18, hf19⟩, hb⟩ := hb
  refine pz_callV (M := mX9_tellHeirs) (N := mX1_size) (d' := 0) (bc1 := 0) (bs1 := 0) (bc2 := bc) (bs2 := bs) (pc' := 39) [] vX9_208 rfl (pz_dc dX9_tellHeirs 22 rfl) rfl (Nat.le_of_ble_eq_true rfl) (Nat.le_of_ble_eq_true rfl) rfl (by omega) (by omega) (by omega) hf19 ?_
  refine pz_aload_n (pc' := 1) (x := a1) 0 rfl (pz_dc dX1_size 0 rfl) rfl ?_
  refine pz_getI (M := mX1_size) hb fX1_24 (pc' := 4) rfl (pz_dc dX1_size 1 rfl) (fun x2 hb => ?_)
  refine pz_iret (pz_dc dX1_size 2 rfl) rfl ?_
  show pz_V mX9_tellHeirs _ _ _ _ _ 39 [(0, .ref l0), (1, .int l1), (2, .int l2), (3, .int l3), (4, .int l4), (5, .int l5), (6, .int l6)] [.int x2, .int l6] h
  refine pz_icmp_ge (pc' := 42) (tgt := 111) rfl (pz_dc dX9_tellHeirs 23 rfl) (by decide) (fun hc => ?_) (fun hc => ?_)
  · replace hb := hb.1 hc
    refine pz_aload_n (pc' := 112) (x := l0) 0 rfl (pz_dc dX9_tellHeirs 63 rfl) rfl ?_
    refine pz_getR (M := mX9_tellHeirs) hb fX9_19 (pc' := 115) rfl (pz_dc dX9_tellHeirs 64 rfl) (fun a3 hb => ?_)
    refine pz_iload (pc' := 117) (x := l5) 5 rfl (pz_dc dX9_tellHeirs 65 rfl) rfl ?_
    refine pz_i2l (pc' := 118) rfl (pz_dc dX9_tellHeirs 66 rfl) ?_
    refine pz_cVv (M := mX9_tellHeirs) (N := mX4_add) (d' := 0) (bc1 := 0) (bs1 := 0) (bc2 := bc) (bs2 := bs) (pc' := 121) [.long l5.toInt64] hb vX9_209 rfl (pz_dc dX9_tellHeirs 67 rfl) rfl (Nat.le_of_ble_eq_true rfl) (Nat.le_of_ble_eq_true rfl) rfl (by omega) (by omega) (by omega) (fun h4 hb => ?_)
    refine pz_iload (pc' := 123) (x := l5) 5 rfl (pz_dc dX9_tellHeirs 68 rfl) rfl ?_
    refine pz_iconst (pc' := 124) (v := (-1)) rfl (pz_dc dX9_tellHeirs 69 rfl) ki_m1 ?_
    refine pz_icmp_eq (pc' := 127) (tgt := 134) rfl (pz_dc dX9_tellHeirs 70 rfl) (by decide) (fun hc => ?_) (fun hc => ?_)
    · replace hb := hb.1 hc
      refine pz_iinc (pc' := 137) (x := l3) (v := l3 + (1 : Int32)) (lv' := [(3, .int (l3 + (1 : Int32))), (0, .ref l0), (1, .int l1), (2, .int l2), (4, .int l4), (5, .int l5), (6, .int l6)]) 3 rfl (pz_dc dX9_tellHeirs 77 rfl) rfl rfl (by decide) rfl ?_
      refine pz_goto (pc' := 11) (pz_dc dX9_tellHeirs 78 rfl) (by decide) ?_
      refine pz_lv (lv' := [(0, .ref l0), (1, .int l1), (2, .int l2), (3, .int (l3 + (1 : Int32)))]) [1, 2, 3, 0] rfl ?_
      exact hb
    · replace hb := hb.2 hc
      refine pz_iload_n (pc' := 128) (x := l2) 2 rfl (pz_dc dX9_tellHeirs 71 rfl) rfl ?_
      refine pz_iconst (pc' := 129) (v := 1) rfl (pz_dc dX9_tellHeirs 72 rfl) ki_1 ?_
      refine pz_iload (pc' := 131) (x := l5) 5 rfl (pz_dc dX9_tellHeirs 73 rfl) rfl ?_
      refine pz_ishl (pc' := 132) rfl (pz_dc dX9_tellHeirs 74 rfl) ?_
      refine pz_ior (pc' := 133) rfl (pz_dc dX9_tellHeirs 75 rfl) ?_
      refine pz_istore_n (pc' := 134) (lv' := [(2, .int (l2 ||| (((1 : Int32)) <<< (l5 &&& 31)))), (0, .ref l0), (1, .int l1), (3, .int l3), (4, .int l4), (5, .int l5), (6, .int l6)]) rfl (pz_dc dX9_tellHeirs 76 rfl) (by decide) rfl ?_
      refine pz_iinc (pc' := 137) (x := l3) (v := l3 + (1 : Int32)) (lv' := [(3, .int (l3 + (1 : Int32))), (2, .int (l2 ||| (((1 : Int32)) <<< (l5 &&& 31)))), (0, .ref l0), (1, .int l1), (4, .int l4), (5, .int l5), (6, .int l6)]) 3 rfl (pz_dc dX9_tellHeirs 77 rfl) rfl rfl (by decide) rfl ?_
      refine pz_goto (pc' := 11) (pz_dc dX9_tellHeirs 78 rfl) (by decide) ?_
      refine pz_lv (lv' := [(0, .ref l0), (1, .int l1), (2, .int (l2 ||| (((1 : Int32)) <<< (l5 &&& 31)))), (3, .int (l3 + (1 : Int32)))]) [2, 3, 1, 0] rfl ?_
      exact hb
  · replace hb := hb.2 hc
    refine pz_aload_n (pc' := 43) (x := l0) 0 rfl (pz_dc dX9_tellHeirs 24 rfl) rfl ?_
    refine pz_iload_n (pc' := 44) (x := l3) 3 rfl (pz_dc dX9_tellHeirs 25 rfl) rfl ?_
    refine pz_iconst (pc' := 45) (v := 1) rfl (pz_dc dX9_tellHeirs 26 rfl) ki_1 ?_
    refine pz_iadd (pc' := 46) rfl (pz_dc dX9_tellHeirs 27 rfl) ?_
    refine pz_iload_n (pc' := 47) (x := l2) 2 rfl (pz_dc dX9_tellHeirs 28 rfl) rfl ?_
    refine pz_cVi (M := mX9_tellHeirs) (N := mX9_bestOf) (d' := 0) (bc1 := 0) (bs1 := 0) (bc2 := bc) (bs2 := bs) (pc' := 50) [.int (l3 + ((1 : Int32))), .int l2] hb vX9_412 rfl (pz_dc dX9_tellHeirs 29 rfl) rfl (Nat.le_of_ble_eq_true rfl) (Nat.le_of_ble_eq_true rfl) rfl (by omega) (by omega) (by omega) (fun x6 h5 hb => ?_)
    refine pz_iload (pc' := 52) (x := l4) 4 rfl (pz_dc dX9_tellHeirs 30 rfl) rfl ?_
    refine pz_icmp_eq (pc' := 55) (tgt := 111) rfl (pz_dc dX9_tellHeirs 31 rfl) (by decide) (fun hc => ?_) (fun hc => ?_)
    · replace hb := hb.1 hc
      refine pz_aload_n (pc' := 112) (x := l0) 0 rfl (pz_dc dX9_tellHeirs 63 rfl) rfl ?_
      refine pz_getR (M := mX9_tellHeirs) hb fX9_19 (pc' := 115) rfl (pz_dc dX9_tellHeirs 64 rfl) (fun a7 hb => ?_)
      refine pz_iload (pc' := 117) (x := l5) 5 rfl (pz_dc dX9_tellHeirs 65 rfl) rfl ?_
      refine pz_i2l (pc' := 118) rfl (pz_dc dX9_tellHeirs 66 rfl) ?_
      refine pz_cVv (M := mX9_tellHeirs) (N := mX4_add) (d' := 0) (bc1 := 0) (bs1 := 0) (bc2 := bc) (bs2 := bs) (pc' := 121) [.long l5.toInt64] hb vX9_209 rfl (pz_dc dX9_tellHeirs 67 rfl) rfl (Nat.le_of_ble_eq_true rfl) (Nat.le_of_ble_eq_true rfl) rfl (by omega) (by omega) (by omega) (fun h8 hb => ?_)
      refine pz_iload (pc' := 123) (x := l5) 5 rfl (pz_dc dX9_tellHeirs 68 rfl) rfl ?_
      refine pz_iconst (pc' := 124) (v := (-1)) rfl (pz_dc dX9_tellHeirs 69 rfl) ki_m1 ?_
      refine pz_icmp_eq (pc' := 127) (tgt := 134) rfl (pz_dc dX9_tellHeirs 70 rfl) (by decide) (fun hc => ?_) (fun hc => ?_)
      · replace hb := hb.1 hc
        refine pz_iinc (pc' := 137) (x := l3) (v := l3 + (1 : Int32)) (lv' := [(3, .int (l3 + (1 : Int32))), (0, .ref l0), (1, .int l1), (2, .int l2), (4, .int l4), (5, .int l5), (6, .int l6)]) 3 rfl (pz_dc dX9_tellHeirs 77 rfl) rfl rfl (by decide) rfl ?_
        refine pz_goto (pc' := 11) (pz_dc dX9_tellHeirs 78 rfl) (by decide) ?_
        refine pz_lv (lv' := [(0, .ref l0), (1, .int l1), (2, .int l2), (3, .int (l3 + (1 : Int32)))]) [1, 2, 3, 0] rfl ?_
        exact hb
      · replace hb := hb.2 hc
        refine pz_iload_n (pc' := 128) (x := l2) 2 rfl (pz_dc dX9_tellHeirs 71 rfl) rfl ?_
        refine pz_iconst (pc' := 129) (v := 1) rfl (pz_dc dX9_tellHeirs 72 rfl) ki_1 ?_
        refine pz_iload (pc' := 131) (x := l5) 5 rfl (pz_dc dX9_tellHeirs 73 rfl) rfl ?_
        refine pz_ishl (pc' := 132) rfl (pz_dc dX9_tellHeirs 74 rfl) ?_
        refine pz_ior (pc' := 133) rfl (pz_dc dX9_tellHeirs 75 rfl) ?_
        refine pz_istore_n (pc' := 134) (lv' := [(2, .int (l2 ||| (((1 : Int32)) <<< (l5 &&& 31)))), (0, .ref l0), (1, .int l1), (3, .int l3), (4, .int l4), (5, .int l5), (6, .int l6)]) rfl (pz_dc dX9_tellHeirs 76 rfl) (by decide) rfl ?_
        refine pz_iinc (pc' := 137) (x := l3) (v := l3 + (1 : Int32)) (lv' := [(3, .int (l3 + (1 : Int32))), (2, .int (l2 ||| (((1 : Int32)) <<< (l5 &&& 31)))), (0, .ref l0), (1, .int l1), (4, .int l4), (5, .int l5), (6, .int l6)]) 3 rfl (pz_dc dX9_tellHeirs 77 rfl) rfl rfl (by decide) rfl ?_
        refine pz_goto (pc' := 11) (pz_dc dX9_tellHeirs 78 rfl) (by decide) ?_
        refine pz_lv (lv' := [(0, .ref l0), (1, .int l1), (2, .int (l2 ||| (((1 : Int32)) <<< (l5 &&& 31)))), (3, .int (l3 + (1 : Int32)))]) [2, 3, 1, 0] rfl ?_
        exact hb
    · replace hb := hb.2 hc
      refine pz_iload (pc' := 57) (x := l5) 5 rfl (pz_dc dX9_tellHeirs 32 rfl) rfl ?_
      refine pz_iconst (pc' := 58) (v := (-1)) rfl (pz_dc dX9_tellHeirs 33 rfl) ki_m1 ?_
      refine pz_icmp_ne (pc' := 61) (tgt := 111) rfl (pz_dc dX9_tellHeirs 34 rfl) (by decide) (fun hc => ?_) (fun hc => ?_)
      · replace hb := hb.1 hc
        refine pz_aload_n (pc' := 112) (x := l0) 0 rfl (pz_dc dX9_tellHeirs 63 rfl) rfl ?_
        refine pz_getR (M := mX9_tellHeirs) hb fX9_19 (pc' := 115) rfl (pz_dc dX9_tellHeirs 64 rfl) (fun a9 hb => ?_)
        refine pz_iload (pc' := 117) (x := l5) 5 rfl (pz_dc dX9_tellHeirs 65 rfl) rfl ?_
        refine pz_i2l (pc' := 118) rfl (pz_dc dX9_tellHeirs 66 rfl) ?_
        refine pz_cVv (M := mX9_tellHeirs) (N := mX4_add) (d' := 0) (bc1 := 0) (bs1 := 0) (bc2 := bc) (bs2 := bs) (pc' := 121) [.long l5.toInt64] hb vX9_209 rfl (pz_dc dX9_tellHeirs 67 rfl) rfl (Nat.le_of_ble_eq_true rfl) (Nat.le_of_ble_eq_true rfl) rfl (by omega) (by omega) (by omega) (fun h10 hb => ?_)
        refine pz_iload (pc' := 123) (x := l5) 5 rfl (pz_dc dX9_tellHeirs 68 rfl) rfl ?_
        refine pz_iconst (pc' := 124) (v := (-1)) rfl (pz_dc dX9_tellHeirs 69 rfl) ki_m1 ?_
        refine pz_icmp_eq (pc' := 127) (tgt := 134) rfl (pz_dc dX9_tellHeirs 70 rfl) (by decide) (fun hc => ?_) (fun hc => ?_)
        · replace hb := hb.1 hc
          refine pz_iinc (pc' := 137) (x := l3) (v := l3 + (1 : Int32)) (lv' := [(3, .int (l3 + (1 : Int32))), (0, .ref l0), (1, .int l1), (2, .int l2), (4, .int l4), (5, .int l5), (6, .int l6)]) 3 rfl (pz_dc dX9_tellHeirs 77 rfl) rfl rfl (by decide) rfl ?_
          refine pz_goto (pc' := 11) (pz_dc dX9_tellHeirs 78 rfl) (by decide) ?_
          refine pz_lv (lv' := [(0, .ref l0), (1, .int l1), (2, .int l2), (3, .int (l3 + (1 : Int32)))]) [1, 2, 3, 0] rfl ?_
          exact hb
        · replace hb := hb.2 hc
          refine pz_iload_n (pc' := 128) (x := l2) 2 rfl (pz_dc dX9_tellHeirs 71 rfl) rfl ?_
          refine pz_iconst (pc' := 129) (v := 1) rfl (pz_dc dX9_tellHeirs 72 rfl) ki_1 ?_
          refine pz_iload (pc' := 131) (x := l5) 5 rfl (pz_dc dX9_tellHeirs 73 rfl) rfl ?_
          refine pz_ishl (pc' := 132) rfl (pz_dc dX9_tellHeirs 74 rfl) ?_
          refine pz_ior (pc' := 133) rfl (pz_dc dX9_tellHeirs 75 rfl) ?_
          refine pz_istore_n (pc' := 134) (lv' := [(2, .int (l2 ||| (((1 : Int32)) <<< (l5 &&& 31)))), (0, .ref l0), (1, .int l1), (3, .int l3), (4, .int l4), (5, .int l5), (6, .int l6)]) rfl (pz_dc dX9_tellHeirs 76 rfl) (by decide) rfl ?_
          refine pz_iinc (pc' := 137) (x := l3) (v := l3 + (1 : Int32)) (lv' := [(3, .int (l3 + (1 : Int32))), (2, .int (l2 ||| (((1 : Int32)) <<< (l5 &&& 31)))), (0, .ref l0), (1, .int l1), (4, .int l4), (5, .int l5), (6, .int l6)]) 3 rfl (pz_dc dX9_tellHeirs 77 rfl) rfl rfl (by decide) rfl ?_
          refine pz_goto (pc' := 11) (pz_dc dX9_tellHeirs 78 rfl) (by decide) ?_
          refine pz_lv (lv' := [(0, .ref l0), (1, .int l1), (2, .int (l2 ||| (((1 : Int32)) <<< (l5 &&& 31)))), (3, .int (l3 + (1 : Int32)))]) [2, 3, 1, 0] rfl ?_
          exact hb
      · replace hb := hb.2 hc
        refine pz_aload_n (pc' := 62) (x := l0) 0 rfl (pz_dc dX9_tellHeirs 35 rfl) rfl ?_
        refine pz_iload_n (pc' := 63) (x := l3) 3 rfl (pz_dc dX9_tellHeirs 36 rfl) rfl ?_
        refine pz_iload (pc' := 65) (x := l6) 6 rfl (pz_dc dX9_tellHeirs 37 rfl) rfl ?_
        refine pz_iload_n (pc' := 66) (x := l2) 2 rfl (pz_dc dX9_tellHeirs 38 rfl) rfl ?_
        refine pz_cVi (M := mX9_tellHeirs) (N := mX9_canHave) (d' := 1) (bc1 := 0) (bs1 := 0) (bc2 := bc) (bs2 := bs) (pc' := 69) [.int l3, .int l6, .int l2] hb vX9_415 rfl (pz_dc dX9_tellHeirs 39 rfl) rfl (Nat.le_of_ble_eq_true rfl) (Nat.le_of_ble_eq_true rfl) rfl (by omega) (by omega) (by omega) (fun x12 h11 hb => ?_)
        refine pz_if_eq (pc' := 72) (tgt := 105) rfl (pz_dc dX9_tellHeirs 40 rfl) (by decide) (fun hc => ?_) (fun hc => ?_)
        · replace hb := hb.1 hc
          refine pz_iinc (pc' := 108) (x := l6) (v := l6 + (1 : Int32)) (lv' := [(6, .int (l6 + (1 : Int32))), (0, .ref l0), (1, .int l1), (2, .int l2), (3, .int l3), (4, .int l4), (5, .int l5)]) 6 rfl (pz_dc dX9_tellHeirs 61 rfl) rfl rfl (by decide) rfl ?_
          refine pz_goto (pc' := 30) (pz_dc dX9_tellHeirs 62 rfl) (by decide) ?_
          refine pz_lv (lv' := [(0, .ref l0), (1, .int l1), (2, .int l2), (3, .int l3), (4, .int l4), (5, .int l5), (6, .int (l6 + (1 : Int32)))]) [1, 2, 3, 4, 5, 6, 0] rfl ?_
          exact hb
        · replace hb := hb.2 hc
          refine pz_aload_n (pc' := 73) (x := l0) 0 rfl (pz_dc dX9_tellHeirs 41 rfl) rfl ?_
          refine pz_getR (M := mX9_tellHeirs) hb fX9_33 (pc' := 76) rfl (pz_dc dX9_tellHeirs 42 rfl) (fun a13 hb => ?_)
          refine pz_getR (M := mX9_tellHeirs) hb fX9_136 (pc' := 79) rfl (pz_dc dX9_tellHeirs 43 rfl) (fun a14 hb => ?_)
          refine pz_iload (pc' := 81) (x := l6) 6 rfl (pz_dc dX9_tellHeirs 44 rfl) rfl ?_
          refine pz_ldI hb (pc' := 82) rfl (pz_dc dX9_tellHeirs 45 rfl) (fun x15 hb => ?_)
          refine pz_aload_n (pc' := 83) (x := l0) 0 rfl (pz_dc dX9_tellHeirs 46 rfl) rfl ?_
          refine pz_iload_n (pc' := 84) (x := l3) 3 rfl (pz_dc dX9_tellHeirs 47 rfl) rfl ?_
          refine pz_iconst (pc' := 85) (v := 1) rfl (pz_dc dX9_tellHeirs 48 rfl) ki_1 ?_
          refine pz_iadd (pc' := 86) rfl (pz_dc dX9_tellHeirs 49 rfl) ?_
          refine pz_iload_n (pc' := 87) (x := l2) 2 rfl (pz_dc dX9_tellHeirs 50 rfl) rfl ?_
          refine pz_iconst (pc' := 88) (v := 1) rfl (pz_dc dX9_tellHeirs 51 rfl) ki_1 ?_
          refine pz_iload (pc' := 90) (x := l6) 6 rfl (pz_dc dX9_tellHeirs 52 rfl) rfl ?_
          refine pz_ishl (pc' := 91) rfl (pz_dc dX9_tellHeirs 53 rfl) ?_
          refine pz_ior (pc' := 92) rfl (pz_dc dX9_tellHeirs 54 rfl) ?_
          refine pz_cVi (M := mX9_tellHeirs) (N := mX9_bestOf) (d' := 0) (bc1 := 0) (bs1 := 0) (bc2 := bc) (bs2 := bs) (pc' := 95) [.int (l3 + ((1 : Int32))), .int (l2 ||| (((1 : Int32)) <<< (l6 &&& 31)))] hb vX9_412 rfl (pz_dc dX9_tellHeirs 55 rfl) rfl (Nat.le_of_ble_eq_true rfl) (Nat.le_of_ble_eq_true rfl) rfl (by omega) (by omega) (by omega) (fun x17 h16 hb => ?_)
          refine pz_iadd (pc' := 96) rfl (pz_dc dX9_tellHeirs 56 rfl) ?_
          refine pz_iload (pc' := 98) (x := l4) 4 rfl (pz_dc dX9_tellHeirs 57 rfl) rfl ?_
          refine pz_icmp_ne (pc' := 101) (tgt := 105) rfl (pz_dc dX9_tellHeirs 58 rfl) (by decide) (fun hc => ?_) (fun hc => ?_)
          · replace hb := hb.1 hc
            refine pz_iinc (pc' := 108) (x := l6) (v := l6 + (1 : Int32)) (lv' := [(6, .int (l6 + (1 : Int32))), (0, .ref l0), (1, .int l1), (2, .int l2), (3, .int l3), (4, .int l4), (5, .int l5)]) 6 rfl (pz_dc dX9_tellHeirs 61 rfl) rfl rfl (by decide) rfl ?_
            refine pz_goto (pc' := 30) (pz_dc dX9_tellHeirs 62 rfl) (by decide) ?_
            refine pz_lv (lv' := [(0, .ref l0), (1, .int l1), (2, .int l2), (3, .int l3), (4, .int l4), (5, .int l5), (6, .int (l6 + (1 : Int32)))]) [1, 2, 3, 4, 5, 6, 0] rfl ?_
            exact hb
          · replace hb := hb.2 hc
            refine pz_iload (pc' := 103) (x := l6) 6 rfl (pz_dc dX9_tellHeirs 59 rfl) rfl ?_
            refine pz_istore (pc' := 105) (lv' := [(5, .int l6), (0, .ref l0), (1, .int l1), (2, .int l2), (3, .int l3), (4, .int l4), (6, .int l6)]) rfl (pz_dc dX9_tellHeirs 60 rfl) (by decide) rfl ?_
            refine pz_iinc (pc' := 108) (x := l6) (v := l6 + (1 : Int32)) (lv' := [(6, .int (l6 + (1 : Int32))), (5, .int l6), (0, .ref l0), (1, .int l1), (2, .int l2), (3, .int l3), (4, .int l4)]) 6 rfl (pz_dc dX9_tellHeirs 61 rfl) rfl rfl (by decide) rfl ?_
            refine pz_goto (pc' := 30) (pz_dc dX9_tellHeirs 62 rfl) (by decide) ?_
            refine pz_lv (lv' := [(0, .ref l0), (1, .int l1), (2, .int l2), (3, .int l3), (4, .int l4), (5, .int l6), (6, .int (l6 + (1 : Int32)))]) [2, 3, 4, 5, 6, 1, 0] rfl ?_
            exact hb
set_option maxRecDepth 20000 in
set_option maxHeartbeats 4000000 in
theorem wX9_canHave_0 {Ex : State → Nat → Prop} {Q : Option Value → pz_H → Prop} {d bc bs : Nat} {l0 : Nat} {l1 : Int32} {l2 : Int32} {l3 : Int32}  {h : pz_H} (hD : 1 ≤ d) (hb : (¬ (eX9_isIn l3 l2) = 0 → Q (some (.int 0)) h) ∧ ((eX9_isIn l3 l2) = 0 → pz_gR h l0 9 3 (fun (a1 : Nat) => pz_gR h a1 8 4 (fun (a2 : Nat) => pz_rI h a2 l2 (fun (x3 : Int32) => pz_gR h l0 9 0 (fun (a4 : Nat) => pz_is h a4 6 ∧ (pz_ki mX6_at 0 0 0 (.ref a4 :: [.int l1, .int 6]) h (fun (x6 : Int32) (h5 : pz_H) => (x3 = (x6 - ((97 : Int32))) → Q (some (.int 0)) h5) ∧ (¬ x3 = (x6 - ((97 : Int32))) → Q (some (.int 1)) h5))))))))) : pz_V mX9_canHave Ex Q d bc bs 0 [(0, .ref l0), (1, .int l1), (2, .int l2), (3, .int l3)] [] h := by
  refine pz_iload_n (pc' := 1) (x := l3) 3 rfl (pz_dc dX9_canHave 0 rfl) rfl ?_
  refine pz_iload_n (pc' := 2) (x := l2) 2 rfl (pz_dc dX9_canHave 1 rfl) rfl ?_
  refine pz_callS (M := mX9_canHave) (N := mX9_isIn) (d' := 0) (bc1 := 0) (bs1 := 0) (bc2 := bc) (bs2 := bs) (pc' := 5) [.int l3, .int l2] sX9_228 rfl (pz_dc dX9_canHave 2 rfl) rfl (Nat.le_of_ble_eq_true rfl) (Nat.le_of_ble_eq_true rfl) rfl (by omega) (by omega) (by omega) ?_
  refine cX9_isIn ?_
  show pz_V mX9_canHave _ _ _ _ _ 5 [(0, .ref l0), (1, .int l1), (2, .int l2), (3, .int l3)] [.int (eX9_isIn l3 l2)] h
  refine pz_if_ne (pc' := 8) (tgt := 37) rfl (pz_dc dX9_canHave 3 rfl) (by decide) (fun hc => ?_) (fun hc => ?_)
  · replace hb := hb.1 hc
    refine pz_iconst (pc' := 38) (v := 0) rfl (pz_dc dX9_canHave 19 rfl) ki_0 ?_
    exact pz_zret (pz_dc dX9_canHave 20 rfl) rfl ⟨by decide, hb⟩
  · replace hb := hb.2 hc
    refine pz_aload_n (pc' := 9) (x := l0) 0 rfl (pz_dc dX9_canHave 4 rfl) rfl ?_
    refine pz_getR (M := mX9_canHave) hb fX9_33 (pc' := 12) rfl (pz_dc dX9_canHave 5 rfl) (fun a1 hb => ?_)
    refine pz_getR (M := mX9_canHave) hb fX9_130 (pc' := 15) rfl (pz_dc dX9_canHave 6 rfl) (fun a2 hb => ?_)
    refine pz_iload_n (pc' := 16) (x := l2) 2 rfl (pz_dc dX9_canHave 7 rfl) rfl ?_
    refine pz_ldI hb (pc' := 17) rfl (pz_dc dX9_canHave 8 rfl) (fun x3 hb => ?_)
    refine pz_aload_n (pc' := 18) (x := l0) 0 rfl (pz_dc dX9_canHave 9 rfl) rfl ?_
    refine pz_getR (M := mX9_canHave) hb fX9_10 (pc' := 21) rfl (pz_dc dX9_canHave 10 rfl) (fun a4 hb => ?_)
    refine pz_iload_n (pc' := 22) (x := l1) 1 rfl (pz_dc dX9_canHave 11 rfl) rfl ?_
    refine pz_bipush (pc' := 24) (v := 6) rfl (pz_dc dX9_canHave 12 rfl) kb_6 ?_
    refine pz_cVi (M := mX9_canHave) (N := mX6_at) (d' := 0) (bc1 := 0) (bs1 := 0) (bc2 := bc) (bs2 := bs) (pc' := 27) [.int l1, .int 6] hb vX9_182 rfl (pz_dc dX9_canHave 13 rfl) rfl (Nat.le_of_ble_eq_true rfl) (Nat.le_of_ble_eq_true rfl) rfl (by omega) (by omega) (by omega) (fun x6 h5 hb => ?_)
    refine pz_bipush (pc' := 29) (v := 97) rfl (pz_dc dX9_canHave 14 rfl) kb_97 ?_
    refine pz_isub (pc' := 30) rfl (pz_dc dX9_canHave 15 rfl) ?_
    refine pz_icmp_eq (pc' := 33) (tgt := 37) rfl (pz_dc dX9_canHave 16 rfl) (by decide) (fun hc => ?_) (fun hc => ?_)
    · replace hb := hb.1 hc
      refine pz_iconst (pc' := 38) (v := 0) rfl (pz_dc dX9_canHave 19 rfl) ki_0 ?_
      exact pz_zret (pz_dc dX9_canHave 20 rfl) rfl ⟨by decide, hb⟩
    · replace hb := hb.2 hc
      refine pz_iconst (pc' := 34) (v := 1) rfl (pz_dc dX9_canHave 17 rfl) ki_1 ?_
      refine pz_goto (pc' := 38) (pz_dc dX9_canHave 18 rfl) (by decide) ?_
      exact pz_zret (pz_dc dX9_canHave 20 rfl) rfl ⟨by decide, hb⟩
set_option maxRecDepth 20000 in
set_option maxHeartbeats 4000000 in
theorem wX9_bestOf_0 {Ex : State → Nat → Prop} {Q : Option Value → pz_H → Prop} {d bc bs : Nat} {l0 : Nat} {l1 : Int32} {l2 : Int32}  {h : pz_H}  (hb : (((l1 * ((64 : Int32))) + l2) < 0 → Q (some (.int 0)) h) ∧ (¬ ((l1 * ((64 : Int32))) + l2) < 0 → pz_gR h l0 9 11 (fun (a1 : Nat) => pz_lI h a1 (fun (x2 : Int32) => (x2 ≤ ((l1 * ((64 : Int32))) + l2) → Q (some (.int 0)) h) ∧ (¬ x2 ≤ ((l1 * ((64 : Int32))) + l2) → pz_gR h l0 9 11 (fun (a3 : Nat) => pz_rI h a3 ((l1 * ((64 : Int32))) + l2) (fun (x4 : Int32) => Q (some (.int x4)) h))))))) : pz_V mX9_bestOf Ex Q d bc bs 0 [(0, .ref l0), (1, .int l1), (2, .int l2)] [] h := by
  refine pz_iload_n (pc' := 1) (x := l1) 1 rfl (pz_dc dX9_bestOf 0 rfl) rfl ?_
  refine pz_bipush (pc' := 3) (v := 64) rfl (pz_dc dX9_bestOf 1 rfl) kb_64 ?_
  refine pz_imul (pc' := 4) rfl (pz_dc dX9_bestOf 2 rfl) ?_
  refine pz_iload_n (pc' := 5) (x := l2) 2 rfl (pz_dc dX9_bestOf 3 rfl) rfl ?_
  refine pz_iadd (pc' := 6) rfl (pz_dc dX9_bestOf 4 rfl) ?_
  refine pz_istore_n (pc' := 7) (lv' := [(3, .int ((l1 * ((64 : Int32))) + l2)), (0, .ref l0), (1, .int l1), (2, .int l2)]) rfl (pz_dc dX9_bestOf 5 rfl) (by decide) rfl ?_
  refine pz_iload_n (pc' := 8) (x := (l1 * ((64 : Int32))) + l2) 0 rfl (pz_dc dX9_bestOf 6 rfl) rfl ?_
  refine pz_if_lt (pc' := 11) (tgt := 29) rfl (pz_dc dX9_bestOf 7 rfl) (by decide) (fun hc => ?_) (fun hc => ?_)
  · replace hb := hb.1 hc
    refine pz_iconst (pc' := 30) (v := 0) rfl (pz_dc dX9_bestOf 18 rfl) ki_0 ?_
    exact pz_iret (pz_dc dX9_bestOf 19 rfl) rfl hb
  · replace hb := hb.2 hc
    refine pz_iload_n (pc' := 12) (x := (l1 * ((64 : Int32))) + l2) 0 rfl (pz_dc dX9_bestOf 8 rfl) rfl ?_
    refine pz_aload_n (pc' := 13) (x := l0) 1 rfl (pz_dc dX9_bestOf 9 rfl) rfl ?_
    refine pz_getR (M := mX9_bestOf) hb fX9_72 (pc' := 16) rfl (pz_dc dX9_bestOf 10 rfl) (fun a1 hb => ?_)
    refine pz_lenI hb (pc' := 17) rfl (pz_dc dX9_bestOf 11 rfl) (fun x2 hb => ?_)
    refine pz_icmp_ge (pc' := 20) (tgt := 29) rfl (pz_dc dX9_bestOf 12 rfl) (by decide) (fun hc => ?_) (fun hc => ?_)
    · replace hb := hb.1 hc
      refine pz_iconst (pc' := 30) (v := 0) rfl (pz_dc dX9_bestOf 18 rfl) ki_0 ?_
      exact pz_iret (pz_dc dX9_bestOf 19 rfl) rfl hb
    · replace hb := hb.2 hc
      refine pz_aload_n (pc' := 21) (x := l0) 1 rfl (pz_dc dX9_bestOf 13 rfl) rfl ?_
      refine pz_getR (M := mX9_bestOf) hb fX9_72 (pc' := 24) rfl (pz_dc dX9_bestOf 14 rfl) (fun a3 hb => ?_)
      refine pz_iload_n (pc' := 25) (x := (l1 * ((64 : Int32))) + l2) 0 rfl (pz_dc dX9_bestOf 15 rfl) rfl ?_
      refine pz_ldI hb (pc' := 26) rfl (pz_dc dX9_bestOf 16 rfl) (fun x4 hb => ?_)
      refine pz_goto (pc' := 30) (pz_dc dX9_bestOf 17 rfl) (by decide) ?_
      exact pz_iret (pz_dc dX9_bestOf 19 rfl) rfl hb
set_option maxRecDepth 20000 in
set_option maxHeartbeats 4000000 in
theorem wX9_setBest_0 {Ex : State → Nat → Prop} {Q : Option Value → pz_H → Prop} {d bc bs : Nat} {l0 : Nat} {l1 : Int32} {l2 : Int32} {l3 : Int32}  {h : pz_H}  (hb : (((l1 * ((64 : Int32))) + l2) < 0 → Q none h) ∧ (¬ ((l1 * ((64 : Int32))) + l2) < 0 → pz_gR h l0 9 11 (fun (a1 : Nat) => pz_lI h a1 (fun (x2 : Int32) => (x2 ≤ ((l1 * ((64 : Int32))) + l2) → Q none h) ∧ (¬ x2 ≤ ((l1 * ((64 : Int32))) + l2) → pz_gR h l0 9 11 (fun (a3 : Nat) => pz_sI h a3 ((l1 * ((64 : Int32))) + l2) l3 (fun (h4 : pz_H) => Q none h4))))))) : pz_V mX9_setBest Ex Q d bc bs 0 [(0, .ref l0), (1, .int l1), (2, .int l2), (3, .int l3)] [] h := by
  refine pz_iload_n (pc' := 1) (x := l1) 1 rfl (pz_dc dX9_setBest 0 rfl) rfl ?_
  refine pz_bipush (pc' := 3) (v := 64) rfl (pz_dc dX9_setBest 1 rfl) kb_64 ?_
  refine pz_imul (pc' := 4) rfl (pz_dc dX9_setBest 2 rfl) ?_
  refine pz_iload_n (pc' := 5) (x := l2) 2 rfl (pz_dc dX9_setBest 3 rfl) rfl ?_
  refine pz_iadd (pc' := 6) rfl (pz_dc dX9_setBest 4 rfl) ?_
  refine pz_istore (pc' := 8) (lv' := [(4, .int ((l1 * ((64 : Int32))) + l2)), (0, .ref l0), (1, .int l1), (2, .int l2), (3, .int l3)]) rfl (pz_dc dX9_setBest 5 rfl) (by decide) rfl ?_
  refine pz_iload (pc' := 10) (x := (l1 * ((64 : Int32))) + l2) 0 rfl (pz_dc dX9_setBest 6 rfl) rfl ?_
  refine pz_if_lt (pc' := 13) (tgt := 31) rfl (pz_dc dX9_setBest 7 rfl) (by decide) (fun hc => ?_) (fun hc => ?_)
  · replace hb := hb.1 hc
    exact pz_vret (pz_dc dX9_setBest 18 rfl) rfl hb
  · replace hb := hb.2 hc
    refine pz_iload (pc' := 15) (x := (l1 * ((64 : Int32))) + l2) 0 rfl (pz_dc dX9_setBest 8 rfl) rfl ?_
    refine pz_aload_n (pc' := 16) (x := l0) 1 rfl (pz_dc dX9_setBest 9 rfl) rfl ?_
    refine pz_getR (M := mX9_setBest) hb fX9_72 (pc' := 19) rfl (pz_dc dX9_setBest 10 rfl) (fun a1 hb => ?_)
    refine pz_lenI hb (pc' := 20) rfl (pz_dc dX9_setBest 11 rfl) (fun x2 hb => ?_)
    refine pz_icmp_ge (pc' := 23) (tgt := 31) rfl (pz_dc dX9_setBest 12 rfl) (by decide) (fun hc => ?_) (fun hc => ?_)
    · replace hb := hb.1 hc
      exact pz_vret (pz_dc dX9_setBest 18 rfl) rfl hb
    · replace hb := hb.2 hc
      refine pz_aload_n (pc' := 24) (x := l0) 1 rfl (pz_dc dX9_setBest 13 rfl) rfl ?_
      refine pz_getR (M := mX9_setBest) hb fX9_72 (pc' := 27) rfl (pz_dc dX9_setBest 14 rfl) (fun a3 hb => ?_)
      refine pz_iload (pc' := 29) (x := (l1 * ((64 : Int32))) + l2) 0 rfl (pz_dc dX9_setBest 15 rfl) rfl ?_
      refine pz_iload_n (pc' := 30) (x := l3) 4 rfl (pz_dc dX9_setBest 16 rfl) rfl ?_
      refine pz_stI hb (pc' := 31) rfl (pz_dc dX9_setBest 17 rfl) (fun h4 hb => ?_)
      exact pz_vret (pz_dc dX9_setBest 18 rfl) rfl hb
set_option maxRecDepth 20000 in
set_option maxHeartbeats 4000000 in
theorem wX9_commonDivisor_0 {Ex : State → Nat → Prop} {Q : Option Value → pz_H → Prop} {d bc bs : Nat} {l0 : Int64} {l2 : Int64}  {h : pz_H}  (hb : pz_V mX9_commonDivisor Ex Q d bc bs 9 [(4, .long l0), (6, .long l2), (8, .int 0)] [] h) : pz_V mX9_commonDivisor Ex Q d bc bs 0 [(0, .long l0), (2, .long l2)] [] h := by
  refine pz_lload_n (pc' := 1) (x := l0) 0 rfl (pz_dc dX9_commonDivisor 0 rfl) rfl ?_
  refine pz_lstore (pc' := 3) (lv' := [(4, .long l0), (0, .long l0), (2, .long l2)]) rfl (pz_dc dX9_commonDivisor 1 rfl) (by decide) rfl ?_
  refine pz_lload_n (pc' := 4) (x := l2) 2 rfl (pz_dc dX9_commonDivisor 2 rfl) rfl ?_
  refine pz_lstore (pc' := 6) (lv' := [(6, .long l2), (4, .long l0), (0, .long l0), (2, .long l2)]) rfl (pz_dc dX9_commonDivisor 3 rfl) (by decide) rfl ?_
  refine pz_iconst (pc' := 7) (v := 0) rfl (pz_dc dX9_commonDivisor 4 rfl) ki_0 ?_
  refine pz_istore (pc' := 9) (lv' := [(8, .int 0), (6, .long l2), (4, .long l0), (0, .long l0), (2, .long l2)]) rfl (pz_dc dX9_commonDivisor 5 rfl) (by decide) rfl ?_
  refine pz_lv (lv' := [(4, .long l0), (6, .long l2), (8, .int 0)]) [2, 1, 0] rfl ?_
  exact hb
set_option maxRecDepth 20000 in
set_option maxHeartbeats 4000000 in
theorem wX9_commonDivisor_9 {Ex : State → Nat → Prop} {Q : Option Value → pz_H → Prop} {d bc bs : Nat} {l4 : Int64} {l6 : Int64} {l8 : Int32}  {h : pz_H}  (hb : (((1000 : Int32)) ≤ l8 → Q (some (.long l4)) h) ∧ (¬ ((1000 : Int32)) ≤ l8 → ((lg_cmp l6 ((0 : Int64))) = 0 → Q (some (.long l4)) h) ∧ (¬ (lg_cmp l6 ((0 : Int64))) = 0 → ¬ l6 = 0 ∧ (pz_V mX9_commonDivisor Ex Q d bc bs 9 [(4, .long l6), (6, .long (l4 - l4 / l6 * l6)), (8, .int (l8 + (1 : Int32)))] [] h)))) : pz_V mX9_commonDivisor Ex Q d bc bs 9 [(4, .long l4), (6, .long l6), (8, .int l8)] [] h := by
  refine pz_iload (pc' := 11) (x := l8) 2 rfl (pz_dc dX9_commonDivisor 6 rfl) rfl ?_
  refine pz_sipush (pc' := 14) (v := 1000) rfl (pz_dc dX9_commonDivisor 7 rfl) ks_1000 ?_
  refine pz_icmp_ge (pc' := 17) (tgt := 45) rfl (pz_dc dX9_commonDivisor 8 rfl) (by decide) (fun hc => ?_) (fun hc => ?_)
  · replace hb := hb.1 hc
    refine pz_lload (pc' := 47) (x := l4) 0 rfl (pz_dc dX9_commonDivisor 23 rfl) rfl ?_
    exact pz_lret (pz_dc dX9_commonDivisor 24 rfl) rfl hb
  · replace hb := hb.2 hc
    refine pz_lload (pc' := 19) (x := l6) 1 rfl (pz_dc dX9_commonDivisor 9 rfl) rfl ?_
    refine pz_lconst (pc' := 20) (v := 0) rfl (pz_dc dX9_commonDivisor 10 rfl) rfl ?_
    refine pz_lcmp (pc' := 21) rfl (pz_dc dX9_commonDivisor 11 rfl) ?_
    refine pz_if_eq (pc' := 24) (tgt := 45) rfl (pz_dc dX9_commonDivisor 12 rfl) (by decide) (fun hc => ?_) (fun hc => ?_)
    · replace hb := hb.1 hc
      refine pz_lload (pc' := 47) (x := l4) 0 rfl (pz_dc dX9_commonDivisor 23 rfl) rfl ?_
      exact pz_lret (pz_dc dX9_commonDivisor 24 rfl) rfl hb
    · replace hb := hb.2 hc
      refine pz_lload (pc' := 26) (x := l4) 0 rfl (pz_dc dX9_commonDivisor 13 rfl) rfl ?_
      refine pz_lload (pc' := 28) (x := l6) 1 rfl (pz_dc dX9_commonDivisor 14 rfl) rfl ?_
      refine pz_lrem (pc' := 29) rfl (pz_dc dX9_commonDivisor 15 rfl) hb.1 ?_
      replace hb := hb.2
      refine pz_lstore (pc' := 31) (lv' := [(9, .long (l4 - l4 / l6 * l6)), (4, .long l4), (6, .long l6), (8, .int l8)]) rfl (pz_dc dX9_commonDivisor 16 rfl) (by decide) rfl ?_
      refine pz_lload (pc' := 33) (x := l6) 2 rfl (pz_dc dX9_commonDivisor 17 rfl) rfl ?_
      refine pz_lstore (pc' := 35) (lv' := [(4, .long l6), (9, .long (l4 - l4 / l6 * l6)), (6, .long l6), (8, .int l8)]) rfl (pz_dc dX9_commonDivisor 18 rfl) (by decide) rfl ?_
      refine pz_lload (pc' := 37) (x := l4 - l4 / l6 * l6) 1 rfl (pz_dc dX9_commonDivisor 19 rfl) rfl ?_
      refine pz_lstore (pc' := 39) (lv' := [(6, .long (l4 - l4 / l6 * l6)), (4, .long l6), (9, .long (l4 - l4 / l6 * l6)), (8, .int l8)]) rfl (pz_dc dX9_commonDivisor 20 rfl) (by decide) rfl ?_
      refine pz_iinc (pc' := 42) (x := l8) (v := l8 + (1 : Int32)) (lv' := [(8, .int (l8 + (1 : Int32))), (6, .long (l4 - l4 / l6 * l6)), (4, .long l6), (9, .long (l4 - l4 / l6 * l6))]) 3 rfl (pz_dc dX9_commonDivisor 21 rfl) rfl rfl (by decide) rfl ?_
      refine pz_goto (pc' := 9) (pz_dc dX9_commonDivisor 22 rfl) (by decide) ?_
      refine pz_lv (lv' := [(4, .long l6), (6, .long (l4 - l4 / l6 * l6)), (8, .int (l8 + (1 : Int32)))]) [2, 1, 0] rfl ?_
      exact hb
set_option maxRecDepth 20000 in
set_option maxHeartbeats 4000000 in
theorem wX9_isBestAnswer_0 {Ex : State → Nat → Prop} {Q : Option Value → pz_H → Prop} {d bc bs : Nat} {l0 : Int32} {l1 : Int32} {l2 : Int32}  {h : pz_H} (hD : 1 ≤ d) (hb : pz_V mX9_isBestAnswer Ex Q d bc bs 10 [(1, .int l1), (2, .int l2), (3, .int (eX9_gain l0 l1 l2)), (4, .int 0)] [] h) : pz_V mX9_isBestAnswer Ex Q d bc bs 0 [(0, .int l0), (1, .int l1), (2, .int l2)] [] h := by
  refine pz_iload_n (pc' := 1) (x := l0) 0 rfl (pz_dc dX9_isBestAnswer 0 rfl) rfl ?_
  refine pz_iload_n (pc' := 2) (x := l1) 1 rfl (pz_dc dX9_isBestAnswer 1 rfl) rfl ?_
  refine pz_iload_n (pc' := 3) (x := l2) 2 rfl (pz_dc dX9_isBestAnswer 2 rfl) rfl ?_
  refine pz_callS (M := mX9_isBestAnswer) (N := mX9_gain) (d' := 0) (bc1 := 0) (bs1 := 0) (bc2 := bc) (bs2 := bs) (pc' := 6) [.int l0, .int l1, .int l2] sX9_418 rfl (pz_dc dX9_isBestAnswer 3 rfl) rfl (Nat.le_of_ble_eq_true rfl) (Nat.le_of_ble_eq_true rfl) rfl (by omega) (by omega) (by omega) ?_
  refine cX9_gain ?_
  show pz_V mX9_isBestAnswer _ _ _ _ _ 6 [(0, .int l0), (1, .int l1), (2, .int l2)] [.int (eX9_gain l0 l1 l2)] h
  refine pz_istore_n (pc' := 7) (lv' := [(3, .int (eX9_gain l0 l1 l2)), (0, .int l0), (1, .int l1), (2, .int l2)]) rfl (pz_dc dX9_isBestAnswer 4 rfl) (by decide) rfl ?_
  refine pz_iconst (pc' := 8) (v := 0) rfl (pz_dc dX9_isBestAnswer 5 rfl) ki_0 ?_
  refine pz_istore (pc' := 10) (lv' := [(4, .int 0), (3, .int (eX9_gain l0 l1 l2)), (0, .int l0), (1, .int l1), (2, .int l2)]) rfl (pz_dc dX9_isBestAnswer 6 rfl) (by decide) rfl ?_
  refine pz_lv (lv' := [(1, .int l1), (2, .int l2), (3, .int (eX9_gain l0 l1 l2)), (4, .int 0)]) [3, 4, 1, 0] rfl ?_
  exact hb
set_option maxRecDepth 20000 in
set_option maxHeartbeats 4000000 in
theorem wX9_isBestAnswer_10 {Ex : State → Nat → Prop} {Q : Option Value → pz_H → Prop} {d bc bs : Nat} {l1 : Int32} {l2 : Int32} {l3 : Int32} {l4 : Int32}  {h : pz_H} (hD : 1 ≤ d) (hb : (((10 : Int32)) ≤ l4 → Q (some (.int 1)) h) ∧ (¬ ((10 : Int32)) ≤ l4 → ((eX9_gain l4 l1 l2) ≤ l3 → pz_V mX9_isBestAnswer Ex Q d bc bs 10 [(1, .int l1), (2, .int l2), (3, .int l3), (4, .int (l4 + (1 : Int32)))] [] h) ∧ (¬ (eX9_gain l4 l1 l2) ≤ l3 → Q (some (.int 0)) h))) : pz_V mX9_isBestAnswer Ex Q d bc bs 10 [(1, .int l1), (2, .int l2), (3, .int l3), (4, .int l4)] [] h := by
  refine pz_iload (pc' := 12) (x := l4) 3 rfl (pz_dc dX9_isBestAnswer 7 rfl) rfl ?_
  refine pz_bipush (pc' := 14) (v := 10) rfl (pz_dc dX9_isBestAnswer 8 rfl) kb_10 ?_
  refine pz_icmp_ge (pc' := 17) (tgt := 36) rfl (pz_dc dX9_isBestAnswer 9 rfl) (by decide) (fun hc => ?_) (fun hc => ?_)
  · replace hb := hb.1 hc
    refine pz_iconst (pc' := 37) (v := 1) rfl (pz_dc dX9_isBestAnswer 20 rfl) ki_1 ?_
    exact pz_zret (pz_dc dX9_isBestAnswer 21 rfl) rfl ⟨by decide, hb⟩
  · replace hb := hb.2 hc
    refine pz_iload (pc' := 19) (x := l4) 3 rfl (pz_dc dX9_isBestAnswer 10 rfl) rfl ?_
    refine pz_iload_n (pc' := 20) (x := l1) 0 rfl (pz_dc dX9_isBestAnswer 11 rfl) rfl ?_
    refine pz_iload_n (pc' := 21) (x := l2) 1 rfl (pz_dc dX9_isBestAnswer 12 rfl) rfl ?_
    refine pz_callS (M := mX9_isBestAnswer) (N := mX9_gain) (d' := 0) (bc1 := 0) (bs1 := 0) (bc2 := bc) (bs2 := bs) (pc' := 24) [.int l4, .int l1, .int l2] sX9_418 rfl (pz_dc dX9_isBestAnswer 13 rfl) rfl (Nat.le_of_ble_eq_true rfl) (Nat.le_of_ble_eq_true rfl) rfl (by omega) (by omega) (by omega) ?_
    refine cX9_gain ?_
    show pz_V mX9_isBestAnswer _ _ _ _ _ 24 [(1, .int l1), (2, .int l2), (3, .int l3), (4, .int l4)] [.int (eX9_gain l4 l1 l2)] h
    refine pz_iload_n (pc' := 25) (x := l3) 2 rfl (pz_dc dX9_isBestAnswer 14 rfl) rfl ?_
    refine pz_icmp_le (pc' := 28) (tgt := 30) rfl (pz_dc dX9_isBestAnswer 15 rfl) (by decide) (fun hc => ?_) (fun hc => ?_)
    · replace hb := hb.1 hc
      refine pz_iinc (pc' := 33) (x := l4) (v := l4 + (1 : Int32)) (lv' := [(4, .int (l4 + (1 : Int32))), (1, .int l1), (2, .int l2), (3, .int l3)]) 3 rfl (pz_dc dX9_isBestAnswer 18 rfl) rfl rfl (by decide) rfl ?_
      refine pz_goto (pc' := 10) (pz_dc dX9_isBestAnswer 19 rfl) (by decide) ?_
      refine pz_lv (lv' := [(1, .int l1), (2, .int l2), (3, .int l3), (4, .int (l4 + (1 : Int32)))]) [1, 2, 3, 0] rfl ?_
      exact hb
    · replace hb := hb.2 hc
      refine pz_iconst (pc' := 29) (v := 0) rfl (pz_dc dX9_isBestAnswer 16 rfl) ki_0 ?_
      exact pz_zret (pz_dc dX9_isBestAnswer 17 rfl) rfl ⟨by decide, hb⟩
