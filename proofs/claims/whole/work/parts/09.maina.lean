set_option maxRecDepth 20000 in
set_option maxHeartbeats 4000000 in
theorem wX9_init_0 {Ex : State → Nat → Prop} {Q : Option Value → pz_H → Prop} {d bc bs : Nat} {l0 : Nat}  {h : pz_H} (hD : 3 ≤ d) (hb : pz_nO h 6 [.null, .int 0] 2 (bc) (bs) (fun (a1 : Nat) (h2 : pz_H) => (1 ≤ bc - 1 ∧ 80 ≤ bs - 2) ∧ (pz_kv mX6_init 1 1 80 (.ref a1 :: []) h2 (fun (h3 : pz_H) => pz_pF h3 l0 9 0 (.ref a1) (fun (h4 : pz_H) => pz_nO h4 4 [.null, .int 0] 2 (bc - 1 - 1) (bs - 2 - 80) (fun (a5 : Nat) (h6 : pz_H) => (1 ≤ bc - 1 - 1 - 1 ∧ 6 ≤ bs - 2 - 80 - 2) ∧ (pz_kv mX4_init 1 1 6 (.ref a5 :: []) h6 (fun (h7 : pz_H) => pz_pF h7 l0 9 1 (.ref a5) (fun (h8 : pz_H) => pz_nO h8 1 [.null, .null, .null, .null, .int 0] 5 (bc - 1 - 1 - 1 - 1) (bs - 2 - 80 - 2 - 6) (fun (a9 : Nat) (h10 : pz_H) => (4 ≤ bc - 1 - 1 - 1 - 1 - 1 ∧ 24 ≤ bs - 2 - 80 - 2 - 6 - 5) ∧ (pz_kv mX1_init 1 4 24 (.ref a9 :: []) h10 (fun (h11 : pz_H) => pz_pF h11 l0 9 2 (.ref a9) (fun (h12 : pz_H) => pz_nO h12 8 [.null, .null, .null, .null, .null, .int 0, .int 0, .int 0, .int 0] 9 (bc - 1 - 1 - 1 - 1 - 1 - 4) (bs - 2 - 80 - 2 - 6 - 5 - 24) (fun (a13 : Nat) (h14 : pz_H) => (5 ≤ bc - 1 - 1 - 1 - 1 - 1 - 4 - 1 ∧ 30 ≤ bs - 2 - 80 - 2 - 6 - 5 - 24 - 9) ∧ (pz_kv mX8_init 1 5 30 (.ref a13 :: []) h14 (fun (h15 : pz_H) => pz_pF h15 l0 9 3 (.ref a13) (fun (h16 : pz_H) => pz_nO h16 8 [.null, .null, .null, .null, .null, .int 0, .int 0, .int 0, .int 0] 9 (bc - 1 - 1 - 1 - 1 - 1 - 4 - 1 - 5) (bs - 2 - 80 - 2 - 6 - 5 - 24 - 9 - 30) (fun (a17 : Nat) (h18 : pz_H) => (5 ≤ bc - 1 - 1 - 1 - 1 - 1 - 4 - 1 - 5 - 1 ∧ 30 ≤ bs - 2 - 80 - 2 - 6 - 5 - 24 - 9 - 30 - 9) ∧ (pz_kv mX8_init 1 5 30 (.ref a17 :: []) h18 (fun (h19 : pz_H) => pz_pF h19 l0 9 4 (.ref a17) (fun (h20 : pz_H) => pz_nO h20 8 [.null, .null, .null, .null, .null, .int 0, .int 0, .int 0, .int 0] 9 (bc - 1 - 1 - 1 - 1 - 1 - 4 - 1 - 5 - 1 - 5) (bs - 2 - 80 - 2 - 6 - 5 - 24 - 9 - 30 - 9 - 30) (fun (a21 : Nat) (h22 : pz_H) => (5 ≤ bc - 1 - 1 - 1 - 1 - 1 - 4 - 1 - 5 - 1 - 5 - 1 ∧ 30 ≤ bs - 2 - 80 - 2 - 6 - 5 - 24 - 9 - 30 - 9 - 30 - 9) ∧ (pz_kv mX8_init 1 5 30 (.ref a21 :: []) h22 (fun (h23 : pz_H) => pz_pF h23 l0 9 5 (.ref a21) (fun (h24 : pz_H) => pz_nO h24 2 [.null, .int 0] 2 (bc - 1 - 1 - 1 - 1 - 1 - 4 - 1 - 5 - 1 - 5 - 1 - 5) (bs - 2 - 80 - 2 - 6 - 5 - 24 - 9 - 30 - 9 - 30 - 9 - 30) (fun (a25 : Nat) (h26 : pz_H) => (73 ≤ bc - 1 - 1 - 1 - 1 - 1 - 4 - 1 - 5 - 1 - 5 - 1 - 5 - 1 ∧ 480 ≤ bs - 2 - 80 - 2 - 6 - 5 - 24 - 9 - 30 - 9 - 30 - 9 - 30 - 2) ∧ (pz_kv mX2_init 2 73 480 (.ref a25 :: []) h26 (fun (h27 : pz_H) => pz_pF h27 l0 9 6 (.ref a25) (fun (h28 : pz_H) => pz_nO h28 3 [.null, .null, .null, .int 0] 4 (bc - 1 - 1 - 1 - 1 - 1 - 4 - 1 - 5 - 1 - 5 - 1 - 5 - 1 - 73) (bs - 2 - 80 - 2 - 6 - 5 - 24 - 9 - 30 - 9 - 30 - 9 - 30 - 2 - 480) (fun (a29 : Nat) (h30 : pz_H) => (3 ≤ bc - 1 - 1 - 1 - 1 - 1 - 4 - 1 - 5 - 1 - 5 - 1 - 5 - 1 - 73 - 1 ∧ 30 ≤ bs - 2 - 80 - 2 - 6 - 5 - 24 - 9 - 30 - 9 - 30 - 9 - 30 - 2 - 480 - 4) ∧ (pz_kv mX3_init 1 3 30 (.ref a29 :: []) h30 (fun (h31 : pz_H) => pz_pF h31 l0 9 7 (.ref a29) (fun (h32 : pz_H) => pz_nO h32 0 [.null, .null, .long 0] 3 (bc - 1 - 1 - 1 - 1 - 1 - 4 - 1 - 5 - 1 - 5 - 1 - 5 - 1 - 73 - 1 - 3) (bs - 2 - 80 - 2 - 6 - 5 - 24 - 9 - 30 - 9 - 30 - 9 - 30 - 2 - 480 - 4 - 30) (fun (a33 : Nat) (h34 : pz_H) => (2 ≤ bc - 1 - 1 - 1 - 1 - 1 - 4 - 1 - 5 - 1 - 5 - 1 - 5 - 1 - 73 - 1 - 3 - 1 ∧ 12 ≤ bs - 2 - 80 - 2 - 6 - 5 - 24 - 9 - 30 - 9 - 30 - 9 - 30 - 2 - 480 - 4 - 30 - 3) ∧ (pz_kv mX0_init 1 2 12 (.ref a33 :: []) h34 (fun (h35 : pz_H) => pz_pF h35 l0 9 8 (.ref a33) (fun (h36 : pz_H) => pz_nWt h36 2 (bc - 1 - 1 - 1 - 1 - 1 - 4 - 1 - 5 - 1 - 5 - 1 - 5 - 1 - 73 - 1 - 3 - 1 - 2) (bs - 2 - 80 - 2 - 6 - 5 - 24 - 9 - 30 - 9 - 30 - 9 - 30 - 2 - 480 - 4 - 30 - 3 - 12) (fun (a37 : Nat) (h38 : pz_H) => pz_pF h38 l0 9 9 (.ref a37) (fun (h39 : pz_H) => pz_nI h39 4 (bc - 1 - 1 - 1 - 1 - 1 - 4 - 1 - 5 - 1 - 5 - 1 - 5 - 1 - 73 - 1 - 3 - 1 - 2 - 1) (bs - 2 - 80 - 2 - 6 - 5 - 24 - 9 - 30 - 9 - 30 - 9 - 30 - 2 - 480 - 4 - 30 - 3 - 12 - 2) (fun (a40 : Nat) (h41 : pz_H) => pz_pF h41 l0 9 10 (.ref a40) (fun (h42 : pz_H) => pz_nI h42 448 (bc - 1 - 1 - 1 - 1 - 1 - 4 - 1 - 5 - 1 - 5 - 1 - 5 - 1 - 73 - 1 - 3 - 1 - 2 - 1 - 1) (bs - 2 - 80 - 2 - 6 - 5 - 24 - 9 - 30 - 9 - 30 - 9 - 30 - 2 - 480 - 4 - 30 - 3 - 12 - 2 - 4) (fun (a43 : Nat) (h44 : pz_H) => pz_pF h44 l0 9 11 (.ref a43) (fun (h45 : pz_H) => pz_nO h45 5 [.null, .null, .null, .int 0, .null, .int 0] 6 (bc - 1 - 1 - 1 - 1 - 1 - 4 - 1 - 5 - 1 - 5 - 1 - 5 - 1 - 73 - 1 - 3 - 1 - 2 - 1 - 1 - 1) (bs - 2 - 80 - 2 - 6 - 5 - 24 - 9 - 30 - 9 - 30 - 9 - 30 - 2 - 480 - 4 - 30 - 3 - 12 - 2 - 4 - 448) (fun (a46 : Nat) (h47 : pz_H) => (3 ≤ bc - 1 - 1 - 1 - 1 - 1 - 4 - 1 - 5 - 1 - 5 - 1 - 5 - 1 - 73 - 1 - 3 - 1 - 2 - 1 - 1 - 1 - 1 ∧ 86 ≤ bs - 2 - 80 - 2 - 6 - 5 - 24 - 9 - 30 - 9 - 30 - 9 - 30 - 2 - 480 - 4 - 30 - 3 - 12 - 2 - 4 - 448 - 6) ∧ (pz_kv mX5_init 1 3 86 (.ref a46 :: []) h47 (fun (h48 : pz_H) => pz_pF h48 l0 9 12 (.ref a46) (fun (h49 : pz_H) => pz_nO h49 5 [.null, .null, .null, .int 0, .null, .int 0] 6 (bc - 1 - 1 - 1 - 1 - 1 - 4 - 1 - 5 - 1 - 5 - 1 - 5 - 1 - 73 - 1 - 3 - 1 - 2 - 1 - 1 - 1 - 1 - 3) (bs - 2 - 80 - 2 - 6 - 5 - 24 - 9 - 30 - 9 - 30 - 9 - 30 - 2 - 480 - 4 - 30 - 3 - 12 - 2 - 4 - 448 - 6 - 86) (fun (a50 : Nat) (h51 : pz_H) => (3 ≤ bc - 1 - 1 - 1 - 1 - 1 - 4 - 1 - 5 - 1 - 5 - 1 - 5 - 1 - 73 - 1 - 3 - 1 - 2 - 1 - 1 - 1 - 1 - 3 - 1 ∧ 86 ≤ bs - 2 - 80 - 2 - 6 - 5 - 24 - 9 - 30 - 9 - 30 - 9 - 30 - 2 - 480 - 4 - 30 - 3 - 12 - 2 - 4 - 448 - 6 - 86 - 6) ∧ (pz_kv mX5_init 1 3 86 (.ref a50 :: []) h51 (fun (h52 : pz_H) => pz_pF h52 l0 9 13 (.ref a50) (fun (h53 : pz_H) => pz_V mX9_init Ex Q d (bc - 1 - 1 - 1 - 1 - 1 - 4 - 1 - 5 - 1 - 5 - 1 - 5 - 1 - 73 - 1 - 3 - 1 - 2 - 1 - 1 - 1 - 1 - 3 - 1 - 3) (bs - 2 - 80 - 2 - 6 - 5 - 24 - 9 - 30 - 9 - 30 - 9 - 30 - 2 - 480 - 4 - 30 - 3 - 12 - 2 - 4 - 448 - 6 - 86 - 6 - 86) 151 [(0, .ref l0), (1, .int 0)] [] h53))))))))))))))))))))))))))))))))))))))))))))))))))) : pz_V mX9_init Ex Q d bc bs 0 [(0, .ref l0)] [] h := by
  refine pz_aload_n (pc' := 1) (x := l0) 0 rfl (pz_dc dX9_init 0 rfl) rfl ?_
  refine pz_obj (M := mX9_init) (pc' := 4) wX9_1 pz_oI pz_oC rfl (pz_dc dX9_init 1 rfl) (Nat.le_of_ble_eq_true rfl) (by omega) ?_
  refine pz_aload_n (pc' := 5) (x := l0) 0 rfl (pz_dc dX9_init 2 rfl) rfl ?_
  refine pz_mkO (M := mX9_init) hb nX9_7 (pc' := 8) rfl (pz_dc dX9_init 3 rfl) (fun a1 h2 hb => ?_)
  refine pz_dup (pc' := 9) rfl (pz_dc dX9_init 4 rfl) rfl ?_
  obtain ⟨hq64, hb⟩ := hb
  refine pz_cIv (M := mX9_init) (N := mX6_init) (d' := 1) (bc1 := 1) (bs1 := 80) (bc2 := bc - 1 - 1) (bs2 := bs - 2 - 80) (pc' := 12) [] hb iX9_9 rfl (pz_dc dX9_init 5 rfl) rfl (Nat.le_of_ble_eq_true rfl) (Nat.le_of_ble_eq_true rfl) rfl (by omega) (by omega) (by omega) (fun h3 hb => ?_)
  refine pz_putv (M := mX9_init) hb pX9_10i rfl rfl (pc' := 15) rfl (pz_dc dX9_init 6 rfl) (fun h4 hb => ?_)
  refine pz_aload_n (pc' := 16) (x := l0) 0 rfl (pz_dc dX9_init 7 rfl) rfl ?_
  refine pz_mkO (M := mX9_init) hb nX9_16 (pc' := 19) rfl (pz_dc dX9_init 8 rfl) (fun a5 h6 hb => ?_)
  refine pz_dup (pc' := 20) rfl (pz_dc dX9_init 9 rfl) rfl ?_
  obtain ⟨hq63, hb⟩ := hb
  refine pz_cIv (M := mX9_init) (N := mX4_init) (d' := 1) (bc1 := 1) (bs1 := 6) (bc2 := bc - 1 - 1 - 1 - 1) (bs2 := bs - 2 - 80 - 2 - 6) (pc' := 23) [] hb iX9_18 rfl (pz_dc dX9_init 10 rfl) rfl (Nat.le_of_ble_eq_true rfl) (Nat.le_of_ble_eq_true rfl) rfl (by omega) (by omega) (by omega) (fun h7 hb => ?_)
  refine pz_putv (M := mX9_init) hb pX9_19i rfl rfl (pc' := 26) rfl (pz_dc dX9_init 11 rfl) (fun h8 hb => ?_)
  refine pz_aload_n (pc' := 27) (x := l0) 0 rfl (pz_dc dX9_init 12 rfl) rfl ?_
  refine pz_mkO (M := mX9_init) hb nX9_23 (pc' := 30) rfl (pz_dc dX9_init 13 rfl) (fun a9 h10 hb => ?_)
  refine pz_dup (pc' := 31) rfl (pz_dc dX9_init 14 rfl) rfl ?_
  obtain ⟨hq62, hb⟩ := hb
  refine pz_cIv (M := mX9_init) (N := mX1_init) (d' := 1) (bc1 := 4) (bs1 := 24) (bc2 := bc - 1 - 1 - 1 - 1 - 1 - 4) (bs2 := bs - 2 - 80 - 2 - 6 - 5 - 24) (pc' := 34) [] hb iX9_25 rfl (pz_dc dX9_init 15 rfl) rfl (Nat.le_of_ble_eq_true rfl) (Nat.le_of_ble_eq_true rfl) rfl (by omega) (by omega) (by omega) (fun h11 hb => ?_)
  refine pz_putv (M := mX9_init) hb pX9_26i rfl rfl (pc' := 37) rfl (pz_dc dX9_init 16 rfl) (fun h12 hb => ?_)
  refine pz_aload_n (pc' := 38) (x := l0) 0 rfl (pz_dc dX9_init 17 rfl) rfl ?_
  refine pz_mkO (M := mX9_init) hb nX9_30 (pc' := 41) rfl (pz_dc dX9_init 18 rfl) (fun a13 h14 hb => ?_)
  refine pz_dup (pc' := 42) rfl (pz_dc dX9_init 19 rfl) rfl ?_
  obtain ⟨hq61, hb⟩ := hb
  refine pz_cIv (M := mX9_init) (N := mX8_init) (d' := 1) (bc1 := 5) (bs1 := 30) (bc2 := bc - 1 - 1 - 1 - 1 - 1 - 4 - 1 - 5) (bs2 := bs - 2 - 80 - 2 - 6 - 5 - 24 - 9 - 30) (pc' := 45) [] hb iX9_32 rfl (pz_dc dX9_init 20 rfl) rfl (Nat.le_of_ble_eq_true rfl) (Nat.le_of_ble_eq_true rfl) rfl (by omega) (by omega) (by omega) (fun h15 hb => ?_)
  refine pz_putv (M := mX9_init) hb pX9_33i rfl rfl (pc' := 48) rfl (pz_dc dX9_init 21 rfl) (fun h16 hb => ?_)
  refine pz_aload_n (pc' := 49) (x := l0) 0 rfl (pz_dc dX9_init 22 rfl) rfl ?_
  refine pz_mkO (M := mX9_init) hb nX9_30 (pc' := 52) rfl (pz_dc dX9_init 23 rfl) (fun a17 h18 hb => ?_)
  refine pz_dup (pc' := 53) rfl (pz_dc dX9_init 24 rfl) rfl ?_
  obtain ⟨hq60, hb⟩ := hb
  refine pz_cIv (M := mX9_init) (N := mX8_init) (d' := 1) (bc1 := 5) (bs1 := 30) (bc2 := bc - 1 - 1 - 1 - 1 - 1 - 4 - 1 - 5 - 1 - 5) (bs2 := bs - 2 - 80 - 2 - 6 - 5 - 24 - 9 - 30 - 9 - 30) (pc' := 56) [] hb iX9_32 rfl (pz_dc dX9_init 25 rfl) rfl (Nat.le_of_ble_eq_true rfl) (Nat.le_of_ble_eq_true rfl) rfl (by omega) (by omega) (by omega) (fun h19 hb => ?_)
  refine pz_putv (M := mX9_init) hb pX9_37i rfl rfl (pc' := 59) rfl (pz_dc dX9_init 26 rfl) (fun h20 hb => ?_)
  refine pz_aload_n (pc' := 60) (x := l0) 0 rfl (pz_dc dX9_init 27 rfl) rfl ?_
  refine pz_mkO (M := mX9_init) hb nX9_30 (pc' := 63) rfl (pz_dc dX9_init 28 rfl) (fun a21 h22 hb => ?_)
  refine pz_dup (pc' := 64) rfl (pz_dc dX9_init 29 rfl) rfl ?_
  obtain ⟨hq59, hb⟩ := hb
  refine pz_cIv (M := mX9_init) (N := mX8_init) (d' := 1) (bc1 := 5) (bs1 := 30) (bc2 := bc - 1 - 1 - 1 - 1 - 1 - 4 - 1 - 5 - 1 - 5 - 1 - 5) (bs2 := bs - 2 - 80 - 2 - 6 - 5 - 24 - 9 - 30 - 9 - 30 - 9 - 30) (pc' := 67) [] hb iX9_32 rfl (pz_dc dX9_init 30 rfl) rfl (Nat.le_of_ble_eq_true rfl) (Nat.le_of_ble_eq_true rfl) rfl (by omega) (by omega) (by omega) (fun h23 hb => ?_)
  refine pz_putv (M := mX9_init) hb pX9_40i rfl rfl (pc' := 70) rfl (pz_dc dX9_init 31 rfl) (fun h24 hb => ?_)
  refine pz_aload_n (pc' := 71) (x := l0) 0 rfl (pz_dc dX9_init 32 rfl) rfl ?_
  refine pz_mkO (M := mX9_init) hb nX9_43 (pc' := 74) rfl (pz_dc dX9_init 33 rfl) (fun a25 h26 hb => ?_)
  refine pz_dup (pc' := 75) rfl (pz_dc dX9_init 34 rfl) rfl ?_
  obtain ⟨hq58, hb⟩ := hb
  refine pz_cIv (M := mX9_init) (N := mX2_init) (d' := 2) (bc1 := 73) (bs1 := 480) (bc2 := bc - 1 - 1 - 1 - 1 - 1 - 4 - 1 - 5 - 1 - 5 - 1 - 5 - 1 - 73) (bs2 := bs - 2 - 80 - 2 - 6 - 5 - 24 - 9 - 30 - 9 - 30 - 9 - 30 - 2 - 480) (pc' := 78) [] hb iX9_45 rfl (pz_dc dX9_init 35 rfl) rfl (Nat.le_of_ble_eq_true rfl) (Nat.le_of_ble_eq_true rfl) rfl (by omega) (by omega) (by omega) (fun h27 hb => ?_)
  refine pz_putv (M := mX9_init) hb pX9_46i rfl rfl (pc' := 81) rfl (pz_dc dX9_init 36 rfl) (fun h28 hb => ?_)
  refine pz_aload_n (pc' := 82) (x := l0) 0 rfl (pz_dc dX9_init 37 rfl) rfl ?_
  refine pz_mkO (M := mX9_init) hb nX9_50 (pc' := 85) rfl (pz_dc dX9_init 38 rfl) (fun a29 h30 hb => ?_)
  refine pz_dup (pc' := 86) rfl (pz_dc dX9_init 39 rfl) rfl ?_
  obtain ⟨hq57, hb⟩ := hb
  refine pz_cIv (M := mX9_init) (N := mX3_init) (d' := 1) (bc1 := 3) (bs1 := 30) (bc2 := bc - 1 - 1 - 1 - 1 - 1 - 4 - 1 - 5 - 1 - 5 - 1 - 5 - 1 - 73 - 1 - 3) (bs2 := bs - 2 - 80 - 2 - 6 - 5 - 24 - 9 - 30 - 9 - 30 - 9 - 30 - 2 - 480 - 4 - 30) (pc' := 89) [] hb iX9_52 rfl (pz_dc dX9_init 40 rfl) rfl (Nat.le_of_ble_eq_true rfl) (Nat.le_of_ble_eq_true rfl) rfl (by omega) (by omega) (by omega) (fun h31 hb => ?_)
  refine pz_putv (M := mX9_init) hb pX9_53i rfl rfl (pc' := 92) rfl (pz_dc dX9_init 41 rfl) (fun h32 hb => ?_)
  refine pz_aload_n (pc' := 93) (x := l0) 0 rfl (pz_dc dX9_init 42 rfl) rfl ?_
  refine pz_mkO (M := mX9_init) hb nX9_57 (pc' := 96) rfl (pz_dc dX9_init 43 rfl) (fun a33 h34 hb => ?_)
  refine pz_dup (pc' := 97) rfl (pz_dc dX9_init 44 rfl) rfl ?_
  obtain ⟨hq56, hb⟩ := hb
  refine pz_cIv (M := mX9_init) (N := mX0_init) (d' := 1) (bc1 := 2) (bs1 := 12) (bc2 := bc - 1 - 1 - 1 - 1 - 1 - 4 - 1 - 5 - 1 - 5 - 1 - 5 - 1 - 73 - 1 - 3 - 1 - 2) (bs2 := bs - 2 - 80 - 2 - 6 - 5 - 24 - 9 - 30 - 9 - 30 - 9 - 30 - 2 - 480 - 4 - 30 - 3 - 12) (pc' := 100) [] hb iX9_59 rfl (pz_dc dX9_init 45 rfl) rfl (Nat.le_of_ble_eq_true rfl) (Nat.le_of_ble_eq_true rfl) rfl (by omega) (by omega) (by omega) (fun h35 hb => ?_)
  refine pz_putv (M := mX9_init) hb pX9_60i rfl rfl (pc' := 103) rfl (pz_dc dX9_init 46 rfl) (fun h36 hb => ?_)
  refine pz_aload_n (pc' := 104) (x := l0) 0 rfl (pz_dc dX9_init 47 rfl) rfl ?_
  refine pz_iconst (pc' := 105) (v := 2) rfl (pz_dc dX9_init 48 rfl) ki_2 ?_
  refine pz_mkW (M := mX9_init) hb qX9_30 (pc' := 108) rfl (pz_dc dX9_init 49 rfl) (by decide) (by decide) (by decide) (fun a37 h38 hb => ?_)
  refine pz_putv (M := mX9_init) hb pX9_64i rfl rfl (pc' := 111) rfl (pz_dc dX9_init 50 rfl) (fun h39 hb => ?_)
  refine pz_aload_n (pc' := 112) (x := l0) 0 rfl (pz_dc dX9_init 51 rfl) rfl ?_
  refine pz_iconst (pc' := 113) (v := 4) rfl (pz_dc dX9_init 52 rfl) ki_4 ?_
  refine pz_mkI hb pz_ac_int (pc' := 115) rfl (pz_dc dX9_init 53 rfl) (by decide) (by decide) (by decide) (fun a40 h41 hb => ?_)
  refine pz_putv (M := mX9_init) hb pX9_68i rfl rfl (pc' := 118) rfl (pz_dc dX9_init 54 rfl) (fun h42 hb => ?_)
  refine pz_aload_n (pc' := 119) (x := l0) 0 rfl (pz_dc dX9_init 55 rfl) rfl ?_
  refine pz_sipush (pc' := 122) (v := 448) rfl (pz_dc dX9_init 56 rfl) ks_448 ?_
  refine pz_mkI hb pz_ac_int (pc' := 124) rfl (pz_dc dX9_init 57 rfl) (by decide) (by decide) (by decide) (fun a43 h44 hb => ?_)
  refine pz_putv (M := mX9_init) hb pX9_72i rfl rfl (pc' := 127) rfl (pz_dc dX9_init 58 rfl) (fun h45 hb => ?_)
  refine pz_aload_n (pc' := 128) (x := l0) 0 rfl (pz_dc dX9_init 59 rfl) rfl ?_
  refine pz_mkO (M := mX9_init) hb nX9_75 (pc' := 131) rfl (pz_dc dX9_init 60 rfl) (fun a46 h47 hb => ?_)
  refine pz_dup (pc' := 132) rfl (pz_dc dX9_init 61 rfl) rfl ?_
  obtain ⟨hq55, hb⟩ := hb
  refine pz_cIv (M := mX9_init) (N := mX5_init) (d' := 1) (bc1 := 3) (bs1 := 86) (bc2 := bc - 1 - 1 - 1 - 1 - 1 - 4 - 1 - 5 - 1 - 5 - 1 - 5 - 1 - 73 - 1 - 3 - 1 - 2 - 1 - 1 - 1 - 1 - 3) (bs2 := bs - 2 - 80 - 2 - 6 - 5 - 24 - 9 - 30 - 9 - 30 - 9 - 30 - 2 - 480 - 4 - 30 - 3 - 12 - 2 - 4 - 448 - 6 - 86) (pc' := 135) [] hb iX9_77 rfl (pz_dc dX9_init 62 rfl) rfl (Nat.le_of_ble_eq_true rfl) (Nat.le_of_ble_eq_true rfl) rfl (by omega) (by omega) (by omega) (fun h48 hb => ?_)
  refine pz_putv (M := mX9_init) hb (pX9_78 _ rfl) rfl rfl (pc' := 138) rfl (pz_dc dX9_init 63 rfl) (fun h49 hb => ?_)
  refine pz_aload_n (pc' := 139) (x := l0) 0 rfl (pz_dc dX9_init 64 rfl) rfl ?_
  refine pz_mkO (M := mX9_init) hb nX9_75 (pc' := 142) rfl (pz_dc dX9_init 65 rfl) (fun a50 h51 hb => ?_)
  refine pz_dup (pc' := 143) rfl (pz_dc dX9_init 66 rfl) rfl ?_
  obtain ⟨hq54, hb⟩ := hb
  refine pz_cIv (M := mX9_init) (N := mX5_init) (d' := 1) (bc1 := 3) (bs1 := 86) (bc2 := bc - 1 - 1 - 1 - 1 - 1 - 4 - 1 - 5 - 1 - 5 - 1 - 5 - 1 - 73 - 1 - 3 - 1 - 2 - 1 - 1 - 1 - 1 - 3 - 1 - 3) (bs2 := bs - 2 - 80 - 2 - 6 - 5 - 24 - 9 - 30 - 9 - 30 - 9 - 30 - 2 - 480 - 4 - 30 - 3 - 12 - 2 - 4 - 448 - 6 - 86 - 6 - 86) (pc' := 146) [] hb iX9_77 rfl (pz_dc dX9_init 67 rfl) rfl (Nat.le_of_ble_eq_true rfl) (Nat.le_of_ble_eq_true rfl) rfl (by omega) (by omega) (by omega) (fun h52 hb => ?_)
  refine pz_putv (M := mX9_init) hb (pX9_82 _ rfl) rfl rfl (pc' := 149) rfl (pz_dc dX9_init 68 rfl) (fun h53 hb => ?_)
  refine pz_iconst (pc' := 150) (v := 0) rfl (pz_dc dX9_init 69 rfl) ki_0 ?_
  refine pz_istore_n (pc' := 151) (lv' := [(1, .int 0), (0, .ref l0)]) rfl (pz_dc dX9_init 70 rfl) (by decide) rfl ?_
  refine pz_lv (lv' := [(0, .ref l0), (1, .int 0)]) [1, 0] rfl ?_
  exact hb
set_option maxRecDepth 20000 in
set_option maxHeartbeats 4000000 in
theorem wX9_init_151 {Ex : State → Nat → Prop} {Q : Option Value → pz_H → Prop} {d bc bs : Nat} {l0 : Nat} {l1 : Int32}  {h : pz_H} (hD : 3 ≤ d) (hb : (((2 : Int32)) ≤ l1 → Q none h) ∧ (¬ ((2 : Int32)) ≤ l1 → pz_gR h l0 9 9 (fun (a1 : Nat) => pz_nO h 8 [.null, .null, .null, .null, .null, .int 0, .int 0, .int 0, .int 0] 9 (bc) (bs) (fun (a2 : Nat) (h3 : pz_H) => (5 ≤ bc - 1 ∧ 30 ≤ bs - 9) ∧ (pz_kv mX8_init 1 5 30 (.ref a2 :: []) h3 (fun (h4 : pz_H) => pz_sW h4 a1 l1 a2 (fun (h5 : pz_H) => pz_V mX9_init Ex Q d (bc - 1 - 5) (bs - 9 - 30) 151 [(0, .ref l0), (1, .int (l1 + (1 : Int32)))] [] h5))))))) : pz_V mX9_init Ex Q d bc bs 151 [(0, .ref l0), (1, .int l1)] [] h := by
  refine pz_iload_n (pc' := 152) (x := l1) 1 rfl (pz_dc dX9_init 71 rfl) rfl ?_
  refine pz_iconst (pc' := 153) (v := 2) rfl (pz_dc dX9_init 72 rfl) ki_2 ?_
  refine pz_icmp_ge (pc' := 156) (tgt := 175) rfl (pz_dc dX9_init 73 rfl) (by decide) (fun hc => ?_) (fun hc => ?_)
  · replace hb := hb.1 hc
    exact pz_vret (pz_dc dX9_init 83 rfl) rfl hb
  · replace hb := hb.2 hc
    refine pz_aload_n (pc' := 157) (x := l0) 0 rfl (pz_dc dX9_init 74 rfl) rfl ?_
    refine pz_getR (M := mX9_init) hb fX9_64 (pc' := 160) rfl (pz_dc dX9_init 75 rfl) (fun a1 hb => ?_)
    refine pz_iload_n (pc' := 161) (x := l1) 1 rfl (pz_dc dX9_init 76 rfl) rfl ?_
    refine pz_mkO (M := mX9_init) hb nX9_30 (pc' := 164) rfl (pz_dc dX9_init 77 rfl) (fun a2 h3 hb => ?_)
    refine pz_dup (pc' := 165) rfl (pz_dc dX9_init 78 rfl) rfl ?_
    obtain ⟨hq6, hb⟩ := hb
    refine pz_cIv (M := mX9_init) (N := mX8_init) (d' := 1) (bc1 := 5) (bs1 := 30) (bc2 := bc - 1 - 5) (bs2 := bs - 9 - 30) (pc' := 168) [] hb iX9_32 rfl (pz_dc dX9_init 79 rfl) rfl (Nat.le_of_ble_eq_true rfl) (Nat.le_of_ble_eq_true rfl) rfl (by omega) (by omega) (by omega) (fun h4 hb => ?_)
    refine pz_stW hb (pc' := 169) rfl (pz_dc dX9_init 80 rfl) (fun h5 hb => ?_)
    refine pz_iinc (pc' := 172) (x := l1) (v := l1 + (1 : Int32)) (lv' := [(1, .int (l1 + (1 : Int32))), (0, .ref l0)]) 1 rfl (pz_dc dX9_init 81 rfl) rfl rfl (by decide) rfl ?_
    refine pz_goto (pc' := 151) (pz_dc dX9_init 82 rfl) (by decide) ?_
    refine pz_lv (lv' := [(0, .ref l0), (1, .int (l1 + (1 : Int32)))]) [1, 0] rfl ?_
    exact hb
set_option maxRecDepth 20000 in
set_option maxHeartbeats 4000000 in
theorem wX9_sign_0 {Ex : State → Nat → Prop} {Q : Option Value → pz_H → Prop} {d bc bs : Nat} {l0 : Nat} {l1 : Int32}  {h : pz_H} (hD : 1 ≤ d) (hb : pz_gR h l0 9 0 (fun (a1 : Nat) => pz_is h a1 6 ∧ (pz_ki mX6_add 0 0 0 (.ref a1 :: [.int l1]) h (fun (x3 : Int32) (h2 : pz_H) => (x3 = 0 → Q (some (.int ((-1)))) h2) ∧ (¬ x3 = 0 → pz_gR h2 l0 9 0 (fun (a4 : Nat) => pz_is h2 a4 6 ∧ (pz_gI h2 a4 6 1 (fun (x5 : Int32) => Q (some (.int x5)) h2)))))))) : pz_V mX9_sign Ex Q d bc bs 0 [(0, .ref l0), (1, .int l1)] [] h := by
  refine pz_aload_n (pc' := 1) (x := l0) 0 rfl (pz_dc dX9_sign 0 rfl) rfl ?_
  refine pz_getR (M := mX9_sign) hb fX9_10 (pc' := 4) rfl (pz_dc dX9_sign 1 rfl) (fun a1 hb => ?_)
  refine pz_iload_n (pc' := 5) (x := l1) 1 rfl (pz_dc dX9_sign 2 rfl) rfl ?_
  refine pz_cVi (M := mX9_sign) (N := mX6_add) (d' := 0) (bc1 := 0) (bs1 := 0) (bc2 := bc) (bs2 := bs) (pc' := 8) [.int l1] hb vX9_85 rfl (pz_dc dX9_sign 3 rfl) rfl (Nat.le_of_ble_eq_true rfl) (Nat.le_of_ble_eq_true rfl) rfl (by omega) (by omega) (by omega) (fun x3 h2 hb => ?_)
  refine pz_if_eq (pc' := 11) (tgt := 21) rfl (pz_dc dX9_sign 4 rfl) (by decide) (fun hc => ?_) (fun hc => ?_)
  · replace hb := hb.1 hc
    refine pz_iconst (pc' := 22) (v := (-1)) rfl (pz_dc dX9_sign 9 rfl) ki_m1 ?_
    exact pz_iret (pz_dc dX9_sign 10 rfl) rfl hb
  · replace hb := hb.2 hc
    refine pz_aload_n (pc' := 12) (x := l0) 0 rfl (pz_dc dX9_sign 5 rfl) rfl ?_
    refine pz_getR (M := mX9_sign) hb fX9_10 (pc' := 15) rfl (pz_dc dX9_sign 6 rfl) (fun a4 hb => ?_)
    obtain ⟨⟨fs6, hf7⟩, hb⟩ := hb
    refine pz_callV (M := mX9_sign) (N := mX6_size) (d' := 0) (bc1 := 0) (bs1 := 0) (bc2 := bc) (bs2 := bs) (pc' := 18) [] vX9_89 rfl (pz_dc dX9_sign 7 rfl) rfl (Nat.le_of_ble_eq_true rfl) (Nat.le_of_ble_eq_true rfl) rfl (by omega) (by omega) (by omega) hf7 ?_
    refine pz_aload_n (pc' := 1) (x := a4) 0 rfl (pz_dc dX6_size 0 rfl) rfl ?_
    refine pz_getI (M := mX6_size) hb fX6_13 (pc' := 4) rfl (pz_dc dX6_size 1 rfl) (fun x5 hb => ?_)
    refine pz_iret (pz_dc dX6_size 2 rfl) rfl ?_
    show pz_V mX9_sign _ _ _ _ _ 18 [(0, .ref l0), (1, .int l1)] [.int x5] h2
    refine pz_goto (pc' := 22) (pz_dc dX9_sign 8 rfl) (by decide) ?_
    exact pz_iret (pz_dc dX9_sign 10 rfl) rfl hb
set_option maxRecDepth 20000 in
set_option maxHeartbeats 4000000 in
theorem wX9_end_0 {Ex : State → Nat → Prop} {Q : Option Value → pz_H → Prop} {d bc bs : Nat} {l0 : Nat} {l1 : Int32}  {h : pz_H} (hD : 1 ≤ d) (hb : pz_gR h l0 9 0 (fun (a1 : Nat) => pz_is h a1 6 ∧ (pz_ki mX6_cut 0 0 0 (.ref a1 :: [.int l1]) h (fun (x3 : Int32) (h2 : pz_H) => (x3 = 0 ∨ x3 = 1) ∧ Q (some (.int x3)) h2)))) : pz_V mX9_end Ex Q d bc bs 0 [(0, .ref l0), (1, .int l1)] [] h := by
  refine pz_aload_n (pc' := 1) (x := l0) 0 rfl (pz_dc dX9_end 0 rfl) rfl ?_
  refine pz_getR (M := mX9_end) hb fX9_10 (pc' := 4) rfl (pz_dc dX9_end 1 rfl) (fun a1 hb => ?_)
  refine pz_iload_n (pc' := 5) (x := l1) 1 rfl (pz_dc dX9_end 2 rfl) rfl ?_
  refine pz_cVi (M := mX9_end) (N := mX6_cut) (d' := 0) (bc1 := 0) (bs1 := 0) (bc2 := bc) (bs2 := bs) (pc' := 8) [.int l1] hb vX9_93 rfl (pz_dc dX9_end 3 rfl) rfl (Nat.le_of_ble_eq_true rfl) (Nat.le_of_ble_eq_true rfl) rfl (by omega) (by omega) (by omega) (fun x3 h2 hb => ?_)
  exact pz_zret (pz_dc dX9_end 4 rfl) rfl hb
set_option maxRecDepth 20000 in
set_option maxHeartbeats 4000000 in
theorem wX9_lakes_0 {Ex : State → Nat → Prop} {Q : Option Value → pz_H → Prop} {d bc bs : Nat} {l0 : Nat}  {h : pz_H} (hD : 3 ≤ d) (hb : pz_is h l0 9 ∧ (pz_ki mX9_linesTold 2 0 0 (.ref l0 :: []) h (fun (x2 : Int32) (h1 : pz_H) => pz_V mX9_lakes Ex Q d bc bs 7 [(0, .ref l0), (1, .int x2), (2, .int 0)] [] h1))) : pz_V mX9_lakes Ex Q d bc bs 0 [(0, .ref l0)] [] h := by
  refine pz_aload_n (pc' := 1) (x := l0) 0 rfl (pz_dc dX9_lakes 0 rfl) rfl ?_
  refine pz_cVi (M := mX9_lakes) (N := mX9_linesTold) (d' := 2) (bc1 := 0) (bs1 := 0) (bc2 := bc) (bs2 := bs) (pc' := 4) [] hb vX9_96 rfl (pz_dc dX9_lakes 1 rfl) rfl (Nat.le_of_ble_eq_true rfl) (Nat.le_of_ble_eq_true rfl) rfl (by omega) (by omega) (by omega) (fun x2 h1 hb => ?_)
  refine pz_istore_n (pc' := 5) (lv' := [(1, .int x2), (0, .ref l0)]) rfl (pz_dc dX9_lakes 2 rfl) (by decide) rfl ?_
  refine pz_iconst (pc' := 6) (v := 0) rfl (pz_dc dX9_lakes 3 rfl) ki_0 ?_
  refine pz_istore_n (pc' := 7) (lv' := [(2, .int 0), (1, .int x2), (0, .ref l0)]) rfl (pz_dc dX9_lakes 4 rfl) (by decide) rfl ?_
  refine pz_lv (lv' := [(0, .ref l0), (1, .int x2), (2, .int 0)]) [2, 1, 0] rfl ?_
  exact hb
set_option maxRecDepth 20000 in
set_option maxHeartbeats 4000000 in
theorem wX9_lakes_7 {Ex : State → Nat → Prop} {Q : Option Value → pz_H → Prop} {d bc bs : Nat} {l0 : Nat} {l1 : Int32} {l2 : Int32}  {h : pz_H} (hD : 3 ≤ d) (hb : (l1 ≤ l2 → pz_gR h l0 9 0 (fun (a1 : Nat) => pz_is h a1 6 ∧ (pz_pF h a1 6 1 (.int 0) (fun (h2 : pz_H) => (l1 ≤ 0 → Q (some (.int l1)) h2) ∧ (¬ l1 ≤ 0 → pz_gR h2 l0 9 6 (fun (a3 : Nat) => pz_is h2 a3 2 ∧ (pz_pF h2 a3 2 1 (.int 0) (fun (h4 : pz_H) => pz_pF h4 l0 9 15 (.int 0) (fun (h5 : pz_H) => Q (some (.int l1)) h5))))))))) ∧ (¬ l1 ≤ l2 → pz_is h l0 9 ∧ (pz_kv mX9_addLake 2 0 0 (.ref l0 :: [.int (l2 * ((7 : Int32)))]) h (fun (h10 : pz_H) => pz_V mX9_lakes Ex Q d bc bs 7 [(0, .ref l0), (1, .int l1), (2, .int (l2 + (1 : Int32)))] [] h10)))) : pz_V mX9_lakes Ex Q d bc bs 7 [(0, .ref l0), (1, .int l1), (2, .int l2)] [] h := by
  refine pz_iload_n (pc' := 8) (x := l2) 2 rfl (pz_dc dX9_lakes 5 rfl) rfl ?_
  refine pz_iload_n (pc' := 9) (x := l1) 1 rfl (pz_dc dX9_lakes 6 rfl) rfl ?_
  refine pz_icmp_ge (pc' := 12) (tgt := 26) rfl (pz_dc dX9_lakes 7 rfl) (by decide) (fun hc => ?_) (fun hc => ?_)
  · replace hb := hb.1 hc
    refine pz_aload_n (pc' := 27) (x := l0) 0 rfl (pz_dc dX9_lakes 15 rfl) rfl ?_
    refine pz_getR (M := mX9_lakes) hb fX9_10 (pc' := 30) rfl (pz_dc dX9_lakes 16 rfl) (fun a1 hb => ?_)
    obtain ⟨⟨fs8, hf9⟩, hb⟩ := hb
    refine pz_callV (M := mX9_lakes) (N := mX6_clear) (d' := 0) (bc1 := 0) (bs1 := 0) (bc2 := bc) (bs2 := bs) (pc' := 33) [] vX9_103 rfl (pz_dc dX9_lakes 17 rfl) rfl (Nat.le_of_ble_eq_true rfl) (Nat.le_of_ble_eq_true rfl) rfl (by omega) (by omega) (by omega) hf9 ?_
    refine pz_aload_n (pc' := 1) (x := a1) 0 rfl (pz_dc dX6_clear 0 rfl) rfl ?_
    refine pz_iconst (pc' := 2) (v := 0) rfl (pz_dc dX6_clear 1 rfl) ki_0 ?_
    refine pz_putv (M := mX6_clear) hb (pX6_13 _ rfl) rfl rfl (pc' := 5) rfl (pz_dc dX6_clear 2 rfl) (fun h2 hb => ?_)
    refine pz_vret (pz_dc dX6_clear 3 rfl) rfl ?_
    show pz_V mX9_lakes _ _ _ _ _ 33 [(0, .ref l0), (1, .int l1), (2, .int l2)] [] h2
    refine pz_iload_n (pc' := 34) (x := l1) 1 rfl (pz_dc dX9_lakes 18 rfl) rfl ?_
    refine pz_if_le (pc' := 37) (tgt := 49) rfl (pz_dc dX9_lakes 19 rfl) (by decide) (fun hc => ?_) (fun hc => ?_)
    · replace hb := hb.1 hc
      refine pz_iload_n (pc' := 50) (x := l1) 1 rfl (pz_dc dX9_lakes 26 rfl) rfl ?_
      exact pz_iret (pz_dc dX9_lakes 27 rfl) rfl hb
    · replace hb := hb.2 hc
      refine pz_aload_n (pc' := 38) (x := l0) 0 rfl (pz_dc dX9_lakes 20 rfl) rfl ?_
      refine pz_getR (M := mX9_lakes) hb fX9_46 (pc' := 41) rfl (pz_dc dX9_lakes 21 rfl) (fun a3 hb => ?_)
      obtain ⟨⟨fs6, hf7⟩, hb⟩ := hb
      refine pz_callV (M := mX9_lakes) (N := mX2_clear) (d' := 0) (bc1 := 0) (bs1 := 0) (bc2 := bc) (bs2 := bs) (pc' := 44) [] vX9_106 rfl (pz_dc dX9_lakes 22 rfl) rfl (Nat.le_of_ble_eq_true rfl) (Nat.le_of_ble_eq_true rfl) rfl (by omega) (by omega) (by omega) hf7 ?_
      refine pz_aload_n (pc' := 1) (x := a3) 0 rfl (pz_dc dX2_clear 0 rfl) rfl ?_
      refine pz_iconst (pc' := 2) (v := 0) rfl (pz_dc dX2_clear 1 rfl) ki_0 ?_
      refine pz_putv (M := mX2_clear) hb (pX2_16 _ rfl) rfl rfl (pc' := 5) rfl (pz_dc dX2_clear 2 rfl) (fun h4 hb => ?_)
      refine pz_vret (pz_dc dX2_clear 3 rfl) rfl ?_
      show pz_V mX9_lakes _ _ _ _ _ 44 [(0, .ref l0), (1, .int l1), (2, .int l2)] [] h4
      refine pz_aload_n (pc' := 45) (x := l0) 0 rfl (pz_dc dX9_lakes 23 rfl) rfl ?_
      refine pz_iconst (pc' := 46) (v := 0) rfl (pz_dc dX9_lakes 24 rfl) ki_0 ?_
      refine pz_putv (M := mX9_lakes) hb (pX9_107 _ rfl) rfl rfl (pc' := 49) rfl (pz_dc dX9_lakes 25 rfl) (fun h5 hb => ?_)
      refine pz_iload_n (pc' := 50) (x := l1) 1 rfl (pz_dc dX9_lakes 26 rfl) rfl ?_
      exact pz_iret (pz_dc dX9_lakes 27 rfl) rfl hb
  · replace hb := hb.2 hc
    refine pz_aload_n (pc' := 13) (x := l0) 0 rfl (pz_dc dX9_lakes 8 rfl) rfl ?_
    refine pz_iload_n (pc' := 14) (x := l2) 2 rfl (pz_dc dX9_lakes 9 rfl) rfl ?_
    refine pz_bipush (pc' := 16) (v := 7) rfl (pz_dc dX9_lakes 10 rfl) kb_7 ?_
    refine pz_imul (pc' := 17) rfl (pz_dc dX9_lakes 11 rfl) ?_
    refine pz_cVv (M := mX9_lakes) (N := mX9_addLake) (d' := 2) (bc1 := 0) (bs1 := 0) (bc2 := bc) (bs2 := bs) (pc' := 20) [.int (l2 * ((7 : Int32)))] hb vX9_99 rfl (pz_dc dX9_lakes 12 rfl) rfl (Nat.le_of_ble_eq_true rfl) (Nat.le_of_ble_eq_true rfl) rfl (by omega) (by omega) (by omega) (fun h10 hb => ?_)
    refine pz_iinc (pc' := 23) (x := l2) (v := l2 + (1 : Int32)) (lv' := [(2, .int (l2 + (1 : Int32))), (0, .ref l0), (1, .int l1)]) 2 rfl (pz_dc dX9_lakes 13 rfl) rfl rfl (by decide) rfl ?_
    refine pz_goto (pc' := 7) (pz_dc dX9_lakes 14 rfl) (by decide) ?_
    refine pz_lv (lv' := [(0, .ref l0), (1, .int l1), (2, .int (l2 + (1 : Int32)))]) [1, 2, 0] rfl ?_
    exact hb
set_option maxRecDepth 20000 in
set_option maxHeartbeats 4000000 in
theorem wX9_rule_0 {Ex : State → Nat → Prop} {Q : Option Value → pz_H → Prop} {d bc bs : Nat} {l0 : Nat}  {h : pz_H} (hD : 42 ≤ d) (hb : pz_gR h l0 9 13 (fun (a1 : Nat) => pz_gR h l0 9 0 (fun (a2 : Nat) => pz_is h a1 5 ∧ (pz_ki mX5_read 41 0 0 (.ref a1 :: [.ref a2]) h (fun (x4 : Int32) (h3 : pz_H) => pz_gR h3 l0 9 0 (fun (a5 : Nat) => pz_is h3 a5 6 ∧ (pz_pF h3 a5 6 1 (.int 0) (fun (h6 : pz_H) => (x4 < 0 → pz_gR h6 l0 9 12 (fun (a7 : Nat) => pz_gR h6 l0 9 13 (fun (a8 : Nat) => pz_pF h6 l0 9 12 (.ref a8) (fun (h9 : pz_H) => pz_pF h9 l0 9 13 (.ref a7) (fun (h10 : pz_H) => Q (some (.int 0)) h10))))) ∧ (¬ x4 < 0 → Q (some (.int (((-1 : Int32)) - x4))) h6))))))))) : pz_V mX9_rule Ex Q d bc bs 0 [(0, .ref l0)] [] h := by
  refine pz_aload_n (pc' := 1) (x := l0) 0 rfl (pz_dc dX9_rule 0 rfl) rfl ?_
  refine pz_getR (M := mX9_rule) hb fX9_82 (pc' := 4) rfl (pz_dc dX9_rule 1 rfl) (fun a1 hb => ?_)
  refine pz_aload_n (pc' := 5) (x := l0) 0 rfl (pz_dc dX9_rule 2 rfl) rfl ?_
  refine pz_getR (M := mX9_rule) hb fX9_10 (pc' := 8) rfl (pz_dc dX9_rule 3 rfl) (fun a2 hb => ?_)
  refine pz_cVi (M := mX9_rule) (N := mX5_read) (d' := 41) (bc1 := 0) (bs1 := 0) (bc2 := bc) (bs2 := bs) (pc' := 11) [.ref a2] hb vX9_111 rfl (pz_dc dX9_rule 4 rfl) rfl (Nat.le_of_ble_eq_true rfl) (Nat.le_of_ble_eq_true rfl) rfl (by omega) (by omega) (by omega) (fun x4 h3 hb => ?_)
  refine pz_istore_n (pc' := 12) (lv' := [(1, .int x4), (0, .ref l0)]) rfl (pz_dc dX9_rule 5 rfl) (by decide) rfl ?_
  refine pz_aload_n (pc' := 13) (x := l0) 1 rfl (pz_dc dX9_rule 6 rfl) rfl ?_
  refine pz_getR (M := mX9_rule) hb fX9_10 (pc' := 16) rfl (pz_dc dX9_rule 7 rfl) (fun a5 hb => ?_)
  obtain ⟨⟨fs11, hf12⟩, hb⟩ := hb
  refine pz_callV (M := mX9_rule) (N := mX6_clear) (d' := 0) (bc1 := 0) (bs1 := 0) (bc2 := bc) (bs2 := bs) (pc' := 19) [] vX9_103 rfl (pz_dc dX9_rule 8 rfl) rfl (Nat.le_of_ble_eq_true rfl) (Nat.le_of_ble_eq_true rfl) rfl (by omega) (by omega) (by omega) hf12 ?_
  refine pz_aload_n (pc' := 1) (x := a5) 0 rfl (pz_dc dX6_clear 0 rfl) rfl ?_
  refine pz_iconst (pc' := 2) (v := 0) rfl (pz_dc dX6_clear 1 rfl) ki_0 ?_
  refine pz_putv (M := mX6_clear) hb (pX6_13 _ rfl) rfl rfl (pc' := 5) rfl (pz_dc dX6_clear 2 rfl) (fun h6 hb => ?_)
  refine pz_vret (pz_dc dX6_clear 3 rfl) rfl ?_
  show pz_V mX9_rule _ _ _ _ _ 19 [(1, .int x4), (0, .ref l0)] [] h6
  refine pz_iload_n (pc' := 20) (x := x4) 0 rfl (pz_dc dX9_rule 9 rfl) rfl ?_
  refine pz_if_lt (pc' := 23) (tgt := 27) rfl (pz_dc dX9_rule 10 rfl) (by decide) (fun hc => ?_) (fun hc => ?_)
  · replace hb := hb.1 hc
    refine pz_aload_n (pc' := 28) (x := l0) 1 rfl (pz_dc dX9_rule 15 rfl) rfl ?_
    refine pz_getR (M := mX9_rule) hb fX9_78 (pc' := 31) rfl (pz_dc dX9_rule 16 rfl) (fun a7 hb => ?_)
    refine pz_astore_n (pc' := 32) (lv' := [(2, .ref a7), (1, .int x4), (0, .ref l0)]) rfl (pz_dc dX9_rule 17 rfl) (by decide) rfl ?_
    refine pz_aload_n (pc' := 33) (x := l0) 2 rfl (pz_dc dX9_rule 18 rfl) rfl ?_
    refine pz_aload_n (pc' := 34) (x := l0) 2 rfl (pz_dc dX9_rule 19 rfl) rfl ?_
    refine pz_getR (M := mX9_rule) hb fX9_82 (pc' := 37) rfl (pz_dc dX9_rule 20 rfl) (fun a8 hb => ?_)
    refine pz_putv (M := mX9_rule) hb (pX9_78 _ rfl) rfl rfl (pc' := 40) rfl (pz_dc dX9_rule 21 rfl) (fun h9 hb => ?_)
    refine pz_aload_n (pc' := 41) (x := l0) 2 rfl (pz_dc dX9_rule 22 rfl) rfl ?_
    refine pz_aload_n (pc' := 42) (x := a7) 0 rfl (pz_dc dX9_rule 23 rfl) rfl ?_
    refine pz_putv (M := mX9_rule) hb (pX9_82 _ rfl) rfl rfl (pc' := 45) rfl (pz_dc dX9_rule 24 rfl) (fun h10 hb => ?_)
    refine pz_iconst (pc' := 46) (v := 0) rfl (pz_dc dX9_rule 25 rfl) ki_0 ?_
    exact pz_iret (pz_dc dX9_rule 26 rfl) rfl hb
  · replace hb := hb.2 hc
    refine pz_iconst (pc' := 24) (v := (-1)) rfl (pz_dc dX9_rule 11 rfl) ki_m1 ?_
    refine pz_iload_n (pc' := 25) (x := x4) 0 rfl (pz_dc dX9_rule 12 rfl) rfl ?_
    refine pz_isub (pc' := 26) rfl (pz_dc dX9_rule 13 rfl) ?_
    exact pz_iret (pz_dc dX9_rule 14 rfl) rfl hb
set_option maxRecDepth 20000 in
set_option maxHeartbeats 4000000 in
theorem wX9_lake_0 {Ex : State → Nat → Prop} {Q : Option Value → pz_H → Prop} {d bc bs : Nat} {l0 : Nat} {l1 : Int32} {l2 : Int32}  {h : pz_H} (hD : 3 ≤ d) (hb : pz_gR h l0 9 2 (fun (a1 : Nat) => pz_is h a1 1 ∧ (pz_gI h a1 1 4 (fun (x2 : Int32) => ((eX1_has l1 x2) = 0 → False) ∧ (¬ (eX1_has l1 x2) = 0 → (l2 < 0 → False) ∧ (¬ l2 < 0 → (l2 ≤ ((8 : Int32)) → (l2.toInt = 0 → pz_gR h l0 9 2 (fun (a6 : Nat) => pz_gR h a6 1 0 (fun (a7 : Nat) => pz_rI h a7 l1 (fun (x8 : Int32) => Q (some (.int x8)) h)))) ∧ (l2.toInt = 1 → pz_gR h l0 9 3 (fun (a9 : Nat) => pz_gR h a9 8 2 (fun (a10 : Nat) => pz_rI h a10 l1 (fun (x11 : Int32) => Q (some (.int x11)) h)))) ∧ (l2.toInt = 2 → pz_gR h l0 9 3 (fun (a12 : Nat) => pz_gR h a12 8 3 (fun (a13 : Nat) => pz_rI h a13 l1 (fun (x14 : Int32) => Q (some (.int x14)) h)))) ∧ (l2.toInt = 3 → pz_gR h l0 9 3 (fun (a15 : Nat) => pz_gR h a15 8 4 (fun (a16 : Nat) => pz_rI h a16 l1 (fun (x17 : Int32) => Q (some (.int x17)) h)))) ∧ (l2.toInt = 4 → pz_gR h l0 9 2 (fun (a18 : Nat) => pz_gR h a18 1 1 (fun (a19 : Nat) => pz_rI h a19 l1 (fun (x20 : Int32) => Q (some (.int x20)) h)))) ∧ (l2.toInt = 5 → pz_gR h l0 9 3 (fun (a21 : Nat) => pz_gR h a21 8 0 (fun (a22 : Nat) => pz_rI h a22 l1 (fun (x23 : Int32) => Q (some (.int x23)) h)))) ∧ (l2.toInt = 6 → pz_gR h l0 9 3 (fun (a24 : Nat) => pz_is h a24 8 ∧ (pz_gI h a24 8 5 (fun (x25 : Int32) => ((eX9_isIn x25 l1) = 0 → Q (some (.int 0)) h) ∧ (¬ (eX9_isIn x25 l1) = 0 → Q (some (.int 1)) h))))) ∧ (l2.toInt = 7 → pz_gR h l0 9 3 (fun (a28 : Nat) => pz_gR h a28 8 1 (fun (a29 : Nat) => pz_rI h a29 l1 (fun (x30 : Int32) => Q (some (.int x30)) h)))) ∧ (l2.toInt ≠ 0 ∧ l2.toInt ≠ 1 ∧ l2.toInt ≠ 2 ∧ l2.toInt ≠ 3 ∧ l2.toInt ≠ 4 ∧ l2.toInt ≠ 5 ∧ l2.toInt ≠ 6 ∧ l2.toInt ≠ 7 → pz_gR h l0 9 2 (fun (a31 : Nat) => pz_gR h l0 9 3 (fun (a32 : Nat) => pz_gR h l0 9 12 (fun (a33 : Nat) => pz_is h a31 1 ∧ (pz_ki mX1_runOf 2 0 0 (.ref a31 :: [.ref a32, .ref a33, .int l1]) h (fun (x35 : Int32) (h34 : pz_H) => Q (some (.int x35)) h34))))))) ∧ (¬ l2 ≤ ((8 : Int32)) → False))))))) : pz_V mX9_lake Ex Q d bc bs 0 [(0, .ref l0), (1, .int l1), (2, .int l2)] [] h := by
  refine pz_aload_n (pc' := 1) (x := l0) 0 rfl (pz_dc dX9_lake 0 rfl) rfl ?_
  refine pz_getR (M := mX9_lake) hb fX9_26 (pc' := 4) rfl (pz_dc dX9_lake 1 rfl) (fun a1 hb => ?_)
  refine pz_iload_n (pc' := 5) (x := l1) 1 rfl (pz_dc dX9_lake 2 rfl) rfl ?_
  obtain ⟨⟨fs36, hf37⟩, hb⟩ := hb
  obtain ⟨fs3, x2, g4, g5, hb⟩ := hb
  refine pz_callV (M := mX9_lake) (N := mX1_has) (d' := 0) (bc1 := 0) (bs1 := 0) (bc2 := bc) (bs2 := bs) (pc' := 8) [.int l1] vX9_115 rfl (pz_dc dX9_lake 3 rfl) rfl (Nat.le_of_ble_eq_true rfl) (Nat.le_of_ble_eq_true rfl) rfl (by omega) (by omega) (by omega) hf37 ?_
  refine cX1_has ⟨fs3, x2, g4, g5, ?_⟩
  show pz_V mX9_lake _ _ _ _ _ 8 [(0, .ref l0), (1, .int l1), (2, .int l2)] [.int (eX1_has l1 x2)] h
  refine pz_if_eq (pc' := 11) (tgt := 21) rfl (pz_dc dX9_lake 4 rfl) (by decide) (fun hc => ?_) (fun hc => ?_)
  · replace hb := hb.1 hc
    exact hb.elim
  · replace hb := hb.2 hc
    refine pz_iload_n (pc' := 12) (x := l2) 2 rfl (pz_dc dX9_lake 5 rfl) rfl ?_
    refine pz_if_lt (pc' := 15) (tgt := 21) rfl (pz_dc dX9_lake 6 rfl) (by decide) (fun hc => ?_) (fun hc => ?_)
    · replace hb := hb.1 hc
      exact hb.elim
    · replace hb := hb.2 hc
      refine pz_iload_n (pc' := 16) (x := l2) 2 rfl (pz_dc dX9_lake 7 rfl) rfl ?_
      refine pz_bipush (pc' := 18) (v := 8) rfl (pz_dc dX9_lake 8 rfl) kb_8 ?_
      refine pz_icmp_le (pc' := 21) (tgt := 29) rfl (pz_dc dX9_lake 9 rfl) (by decide) (fun hc => ?_) (fun hc => ?_)
      · replace hb := hb.1 hc
        refine pz_iload_n (pc' := 30) (x := l2) 2 rfl (pz_dc dX9_lake 14 rfl) rfl ?_
        refine pz_tableN (tgt := 163) (pz_dc dX9_lake 15 rfl) (by decide) (fun i hi hx => ?_) (by decide) (fun hc => ?_)
        · match i, hi, hx with
          | 0, _, hx =>
            refine ⟨_, 76, rfl, by decide, ?_⟩
            replace hb := hb.1 (by omega)
            refine pz_aload_n (pc' := 77) (x := l0) 0 rfl (pz_dc dX9_lake 16 rfl) rfl ?_
            refine pz_getR (M := mX9_lake) hb fX9_26 (pc' := 80) rfl (pz_dc dX9_lake 17 rfl) (fun a6 hb => ?_)
            refine pz_getR (M := mX9_lake) hb fX9_121 (pc' := 83) rfl (pz_dc dX9_lake 18 rfl) (fun a7 hb => ?_)
            refine pz_iload_n (pc' := 84) (x := l1) 1 rfl (pz_dc dX9_lake 19 rfl) rfl ?_
            refine pz_ldI hb (pc' := 85) rfl (pz_dc dX9_lake 20 rfl) (fun x8 hb => ?_)
            exact pz_iret (pz_dc dX9_lake 21 rfl) rfl hb
          | 1, _, hx =>
            refine ⟨_, 86, rfl, by decide, ?_⟩
            replace hb := hb.2.1 (by omega)
            refine pz_aload_n (pc' := 87) (x := l0) 0 rfl (pz_dc dX9_lake 22 rfl) rfl ?_
            refine pz_getR (M := mX9_lake) hb fX9_33 (pc' := 90) rfl (pz_dc dX9_lake 23 rfl) (fun a9 hb => ?_)
            refine pz_getR (M := mX9_lake) hb fX9_124 (pc' := 93) rfl (pz_dc dX9_lake 24 rfl) (fun a10 hb => ?_)
            refine pz_iload_n (pc' := 94) (x := l1) 1 rfl (pz_dc dX9_lake 25 rfl) rfl ?_
            refine pz_ldI hb (pc' := 95) rfl (pz_dc dX9_lake 26 rfl) (fun x11 hb => ?_)
            exact pz_iret (pz_dc dX9_lake 27 rfl) rfl hb
          | 2, _, hx =>
            refine ⟨_, 96, rfl, by decide, ?_⟩
            replace hb := hb.2.2.1 (by omega)
            refine pz_aload_n (pc' := 97) (x := l0) 0 rfl (pz_dc dX9_lake 28 rfl) rfl ?_
            refine pz_getR (M := mX9_lake) hb fX9_33 (pc' := 100) rfl (pz_dc dX9_lake 29 rfl) (fun a12 hb => ?_)
            refine pz_getR (M := mX9_lake) hb fX9_127 (pc' := 103) rfl (pz_dc dX9_lake 30 rfl) (fun a13 hb => ?_)
            refine pz_iload_n (pc' := 104) (x := l1) 1 rfl (pz_dc dX9_lake 31 rfl) rfl ?_
            refine pz_ldI hb (pc' := 105) rfl (pz_dc dX9_lake 32 rfl) (fun x14 hb => ?_)
            exact pz_iret (pz_dc dX9_lake 33 rfl) rfl hb
          | 3, _, hx =>
            refine ⟨_, 106, rfl, by decide, ?_⟩
            replace hb := hb.2.2.2.1 (by omega)
            refine pz_aload_n (pc' := 107) (x := l0) 0 rfl (pz_dc dX9_lake 34 rfl) rfl ?_
            refine pz_getR (M := mX9_lake) hb fX9_33 (pc' := 110) rfl (pz_dc dX9_lake 35 rfl) (fun a15 hb => ?_)
            refine pz_getR (M := mX9_lake) hb fX9_130 (pc' := 113) rfl (pz_dc dX9_lake 36 rfl) (fun a16 hb => ?_)
            refine pz_iload_n (pc' := 114) (x := l1) 1 rfl (pz_dc dX9_lake 37 rfl) rfl ?_
            refine pz_ldI hb (pc' := 115) rfl (pz_dc dX9_lake 38 rfl) (fun x17 hb => ?_)
            exact pz_iret (pz_dc dX9_lake 39 rfl) rfl hb
          | 4, _, hx =>
            refine ⟨_, 116, rfl, by decide, ?_⟩
            replace hb := hb.2.2.2.2.1 (by omega)
            refine pz_aload_n (pc' := 117) (x := l0) 0 rfl (pz_dc dX9_lake 40 rfl) rfl ?_
            refine pz_getR (M := mX9_lake) hb fX9_26 (pc' := 120) rfl (pz_dc dX9_lake 41 rfl) (fun a18 hb => ?_)
            refine pz_getR (M := mX9_lake) hb fX9_133 (pc' := 123) rfl (pz_dc dX9_lake 42 rfl) (fun a19 hb => ?_)
            refine pz_iload_n (pc' := 124) (x := l1) 1 rfl (pz_dc dX9_lake 43 rfl) rfl ?_
            refine pz_ldI hb (pc' := 125) rfl (pz_dc dX9_lake 44 rfl) (fun x20 hb => ?_)
            exact pz_iret (pz_dc dX9_lake 45 rfl) rfl hb
          | 5, _, hx =>
            refine ⟨_, 126, rfl, by decide, ?_⟩
            replace hb := hb.2.2.2.2.2.1 (by omega)
            refine pz_aload_n (pc' := 127) (x := l0) 0 rfl (pz_dc dX9_lake 46 rfl) rfl ?_
            refine pz_getR (M := mX9_lake) hb fX9_33 (pc' := 130) rfl (pz_dc dX9_lake 47 rfl) (fun a21 hb => ?_)
            refine pz_getR (M := mX9_lake) hb fX9_136 (pc' := 133) rfl (pz_dc dX9_lake 48 rfl) (fun a22 hb => ?_)
            refine pz_iload_n (pc' := 134) (x := l1) 1 rfl (pz_dc dX9_lake 49 rfl) rfl ?_
            refine pz_ldI hb (pc' := 135) rfl (pz_dc dX9_lake 50 rfl) (fun x23 hb => ?_)
            exact pz_iret (pz_dc dX9_lake 51 rfl) rfl hb
          | 6, _, hx =>
            refine ⟨_, 136, rfl, by decide, ?_⟩
            replace hb := hb.2.2.2.2.2.2.1 (by omega)
            refine pz_aload_n (pc' := 137) (x := l0) 0 rfl (pz_dc dX9_lake 52 rfl) rfl ?_
            refine pz_getR (M := mX9_lake) hb fX9_33 (pc' := 140) rfl (pz_dc dX9_lake 53 rfl) (fun a24 hb => ?_)
            refine pz_iload_n (pc' := 141) (x := l1) 1 rfl (pz_dc dX9_lake 54 rfl) rfl ?_
            obtain ⟨⟨fs26, hf27⟩, hb⟩ := hb
            refine pz_callV (M := mX9_lake) (N := mX8_isOut) (d' := 1) (bc1 := 0) (bs1 := 0) (bc2 := bc) (bs2 := bs) (pc' := 144) [.int l1] vX9_139 rfl (pz_dc dX9_lake 55 rfl) rfl (Nat.le_of_ble_eq_true rfl) (Nat.le_of_ble_eq_true rfl) rfl (by omega) (by omega) (by omega) hf27 ?_
            refine pz_aload_n (pc' := 1) (x := a24) 0 rfl (pz_dc dX8_isOut 0 rfl) rfl ?_
            refine pz_getI (M := mX8_isOut) hb fX8_33 (pc' := 4) rfl (pz_dc dX8_isOut 1 rfl) (fun x25 hb => ?_)
            refine pz_iload_n (pc' := 5) (x := l1) 1 rfl (pz_dc dX8_isOut 2 rfl) rfl ?_
            refine pz_callS (M := mX8_isOut) (N := mX9_isIn) (d' := 0) (bc1 := 0) (bs1 := 0) (bc2 := 0) (bs2 := 0) (pc' := 8) [.int x25, .int l1] sX8_46 rfl (pz_dc dX8_isOut 3 rfl) rfl (Nat.le_of_ble_eq_true rfl) (Nat.le_of_ble_eq_true rfl) rfl (by omega) (by omega) (by omega) ?_
            refine cX9_isIn ?_
            show pz_V mX8_isOut _ _ _ _ _ 8 [(0, .ref a24), (1, .int l1)] [.int (eX9_isIn x25 l1)] h
            refine pz_zret (pz_dc dX8_isOut 4 rfl) rfl ⟨zX9_isIn _ _, ?_⟩
            show pz_V mX9_lake _ _ _ _ _ 144 [(0, .ref l0), (1, .int l1), (2, .int l2)] [.int (eX9_isIn x25 l1)] h
            refine pz_if_eq (pc' := 147) (tgt := 151) rfl (pz_dc dX9_lake 56 rfl) (by decide) (fun hc => ?_) (fun hc => ?_)
            · replace hb := hb.1 hc
              refine pz_iconst (pc' := 152) (v := 0) rfl (pz_dc dX9_lake 59 rfl) ki_0 ?_
              exact pz_iret (pz_dc dX9_lake 60 rfl) rfl hb
            · replace hb := hb.2 hc
              refine pz_iconst (pc' := 148) (v := 1) rfl (pz_dc dX9_lake 57 rfl) ki_1 ?_
              refine pz_goto (pc' := 152) (pz_dc dX9_lake 58 rfl) (by decide) ?_
              exact pz_iret (pz_dc dX9_lake 60 rfl) rfl hb
          | 7, _, hx =>
            refine ⟨_, 153, rfl, by decide, ?_⟩
            replace hb := hb.2.2.2.2.2.2.2.1 (by omega)
            refine pz_aload_n (pc' := 154) (x := l0) 0 rfl (pz_dc dX9_lake 61 rfl) rfl ?_
            refine pz_getR (M := mX9_lake) hb fX9_33 (pc' := 157) rfl (pz_dc dX9_lake 62 rfl) (fun a28 hb => ?_)
            refine pz_getR (M := mX9_lake) hb fX9_142 (pc' := 160) rfl (pz_dc dX9_lake 63 rfl) (fun a29 hb => ?_)
            refine pz_iload_n (pc' := 161) (x := l1) 1 rfl (pz_dc dX9_lake 64 rfl) rfl ?_
            refine pz_ldI hb (pc' := 162) rfl (pz_dc dX9_lake 65 rfl) (fun x30 hb => ?_)
            exact pz_iret (pz_dc dX9_lake 66 rfl) rfl hb
          | k + 8, hi, _ => exact absurd hi (by simp only [List.size_toArray, List.length_cons, List.length_nil]; omega)
        · replace hb := hb.2.2.2.2.2.2.2.2 (by omega)
          refine pz_aload_n (pc' := 164) (x := l0) 0 rfl (pz_dc dX9_lake 67 rfl) rfl ?_
          refine pz_getR (M := mX9_lake) hb fX9_26 (pc' := 167) rfl (pz_dc dX9_lake 68 rfl) (fun a31 hb => ?_)
          refine pz_aload_n (pc' := 168) (x := l0) 0 rfl (pz_dc dX9_lake 69 rfl) rfl ?_
          refine pz_getR (M := mX9_lake) hb fX9_33 (pc' := 171) rfl (pz_dc dX9_lake 70 rfl) (fun a32 hb => ?_)
          refine pz_aload_n (pc' := 172) (x := l0) 0 rfl (pz_dc dX9_lake 71 rfl) rfl ?_
          refine pz_getR (M := mX9_lake) hb fX9_78 (pc' := 175) rfl (pz_dc dX9_lake 72 rfl) (fun a33 hb => ?_)
          refine pz_iload_n (pc' := 176) (x := l1) 1 rfl (pz_dc dX9_lake 73 rfl) rfl ?_
          refine pz_cVi (M := mX9_lake) (N := mX1_runOf) (d' := 2) (bc1 := 0) (bs1 := 0) (bc2 := bc) (bs2 := bs) (pc' := 179) [.ref a32, .ref a33, .int l1] hb vX9_145 rfl (pz_dc dX9_lake 74 rfl) rfl (Nat.le_of_ble_eq_true rfl) (Nat.le_of_ble_eq_true rfl) rfl (by omega) (by omega) (by omega) (fun x35 h34 hb => ?_)
          exact pz_iret (pz_dc dX9_lake 75 rfl) rfl hb
      · replace hb := hb.2 hc
        exact hb.elim
set_option maxRecDepth 20000 in
set_option maxHeartbeats 4000000 in
theorem wX9_sheet_0 {Ex : State → Nat → Prop} {Q : Option Value → pz_H → Prop} {d bc bs : Nat} {l0 : Nat} {l1 : Int32} {l2 : Int32} {l3 : Int32} {l4 : Int32}  {h : pz_H} (hD : 3 ≤ d) (hb : (l1 < 0 → Q (some (.int ((-1)))) h) ∧ (¬ l1 < 0 → (((3 : Int32)) < l1 → Q (some (.int ((-1)))) h) ∧ (¬ ((3 : Int32)) < l1 → (l2 ≤ ((6 : Int32)) → (¬ l1 = ((3 : Int32)) → (0 ≤ l2 → pz_is h l0 9 ∧ (pz_kv mX9_fillFromSheet 1 0 0 (.ref l0 :: [.int l1, .int l2, .int l3, .int l4]) h (fun (h1 : pz_H) => pz_gR h1 l0 9 2 (fun (a2 : Nat) => pz_gR h1 l0 9 3 (fun (a3 : Nat) => pz_is h1 a2 1 ∧ (pz_ki mX1_total 2 0 0 (.ref a2 :: [.ref a3]) h1 (fun (x5 : Int32) (h4 : pz_H) => Q (some (.int x5)) h4))))))) ∧ (¬ 0 ≤ l2 → Q (some (.int ((-2)))) h)) ∧ (l1 = ((3 : Int32)) → pz_is h l0 9 ∧ (pz_kv mX9_fillFromSheet 1 0 0 (.ref l0 :: [.int l1, .int 0, .int l3, .int l4]) h (fun (h6 : pz_H) => Q (some (.int ((-3)))) h6)))) ∧ (¬ l2 ≤ ((6 : Int32)) → Q (some (.int ((-1)))) h)))) : pz_V mX9_sheet Ex Q d bc bs 0 [(0, .ref l0), (1, .int l1), (2, .int l2), (3, .int l3), (4, .int l4)] [] h := by
  refine pz_iload_n (pc' := 1) (x := l1) 1 rfl (pz_dc dX9_sheet 0 rfl) rfl ?_
  refine pz_if_lt (pc' := 4) (tgt := 15) rfl (pz_dc dX9_sheet 1 rfl) (by decide) (fun hc => ?_) (fun hc => ?_)
  · replace hb := hb.1 hc
    refine pz_iconst (pc' := 16) (v := (-1)) rfl (pz_dc dX9_sheet 8 rfl) ki_m1 ?_
    exact pz_iret (pz_dc dX9_sheet 9 rfl) rfl hb
  · replace hb := hb.2 hc
    refine pz_iload_n (pc' := 5) (x := l1) 1 rfl (pz_dc dX9_sheet 2 rfl) rfl ?_
    refine pz_iconst (pc' := 6) (v := 3) rfl (pz_dc dX9_sheet 3 rfl) ki_3 ?_
    refine pz_icmp_gt (pc' := 9) (tgt := 15) rfl (pz_dc dX9_sheet 4 rfl) (by decide) (fun hc => ?_) (fun hc => ?_)
    · replace hb := hb.1 hc
      refine pz_iconst (pc' := 16) (v := (-1)) rfl (pz_dc dX9_sheet 8 rfl) ki_m1 ?_
      exact pz_iret (pz_dc dX9_sheet 9 rfl) rfl hb
    · replace hb := hb.2 hc
      refine pz_iload_n (pc' := 10) (x := l2) 2 rfl (pz_dc dX9_sheet 5 rfl) rfl ?_
      refine pz_bipush (pc' := 12) (v := 6) rfl (pz_dc dX9_sheet 6 rfl) kb_6 ?_
      refine pz_icmp_le (pc' := 15) (tgt := 17) rfl (pz_dc dX9_sheet 7 rfl) (by decide) (fun hc => ?_) (fun hc => ?_)
      · replace hb := hb.1 hc
        refine pz_iload_n (pc' := 18) (x := l1) 1 rfl (pz_dc dX9_sheet 10 rfl) rfl ?_
        refine pz_iconst (pc' := 19) (v := 3) rfl (pz_dc dX9_sheet 11 rfl) ki_3 ?_
        refine pz_icmp_ne (pc' := 22) (tgt := 34) rfl (pz_dc dX9_sheet 12 rfl) (by decide) (fun hc => ?_) (fun hc => ?_)
        · replace hb := hb.1 hc
          refine pz_iload_n (pc' := 35) (x := l2) 2 rfl (pz_dc dX9_sheet 21 rfl) rfl ?_
          refine pz_if_ge (pc' := 38) (tgt := 41) rfl (pz_dc dX9_sheet 22 rfl) (by decide) (fun hc => ?_) (fun hc => ?_)
          · replace hb := hb.1 hc
            refine pz_aload_n (pc' := 42) (x := l0) 0 rfl (pz_dc dX9_sheet 25 rfl) rfl ?_
            refine pz_iload_n (pc' := 43) (x := l1) 1 rfl (pz_dc dX9_sheet 26 rfl) rfl ?_
            refine pz_iload_n (pc' := 44) (x := l2) 2 rfl (pz_dc dX9_sheet 27 rfl) rfl ?_
            refine pz_iload_n (pc' := 45) (x := l3) 3 rfl (pz_dc dX9_sheet 28 rfl) rfl ?_
            refine pz_iload (pc' := 47) (x := l4) 4 rfl (pz_dc dX9_sheet 29 rfl) rfl ?_
            refine pz_cVv (M := mX9_sheet) (N := mX9_fillFromSheet) (d' := 1) (bc1 := 0) (bs1 := 0) (bc2 := bc) (bs2 := bs) (pc' := 50) [.int l1, .int l2, .int l3, .int l4] hb vX9_149 rfl (pz_dc dX9_sheet 30 rfl) rfl (Nat.le_of_ble_eq_true rfl) (Nat.le_of_ble_eq_true rfl) rfl (by omega) (by omega) (by omega) (fun h1 hb => ?_)
            refine pz_aload_n (pc' := 51) (x := l0) 0 rfl (pz_dc dX9_sheet 31 rfl) rfl ?_
            refine pz_getR (M := mX9_sheet) hb fX9_26 (pc' := 54) rfl (pz_dc dX9_sheet 32 rfl) (fun a2 hb => ?_)
            refine pz_aload_n (pc' := 55) (x := l0) 0 rfl (pz_dc dX9_sheet 33 rfl) rfl ?_
            refine pz_getR (M := mX9_sheet) hb fX9_33 (pc' := 58) rfl (pz_dc dX9_sheet 34 rfl) (fun a3 hb => ?_)
            refine pz_cVi (M := mX9_sheet) (N := mX1_total) (d' := 2) (bc1 := 0) (bs1 := 0) (bc2 := bc) (bs2 := bs) (pc' := 61) [.ref a3] hb vX9_153 rfl (pz_dc dX9_sheet 35 rfl) rfl (Nat.le_of_ble_eq_true rfl) (Nat.le_of_ble_eq_true rfl) rfl (by omega) (by omega) (by omega) (fun x5 h4 hb => ?_)
            exact pz_iret (pz_dc dX9_sheet 36 rfl) rfl hb
          · replace hb := hb.2 hc
            refine pz_bipush (pc' := 40) (v := (-2)) rfl (pz_dc dX9_sheet 23 rfl) kb_m2 ?_
            exact pz_iret (pz_dc dX9_sheet 24 rfl) rfl hb
        · replace hb := hb.2 hc
          refine pz_aload_n (pc' := 23) (x := l0) 0 rfl (pz_dc dX9_sheet 13 rfl) rfl ?_
          refine pz_iload_n (pc' := 24) (x := l1) 1 rfl (pz_dc dX9_sheet 14 rfl) rfl ?_
          refine pz_iconst (pc' := 25) (v := 0) rfl (pz_dc dX9_sheet 15 rfl) ki_0 ?_
          refine pz_iload_n (pc' := 26) (x := l3) 3 rfl (pz_dc dX9_sheet 16 rfl) rfl ?_
          refine pz_iload (pc' := 28) (x := l4) 4 rfl (pz_dc dX9_sheet 17 rfl) rfl ?_
          refine pz_cVv (M := mX9_sheet) (N := mX9_fillFromSheet) (d' := 1) (bc1 := 0) (bs1 := 0) (bc2 := bc) (bs2 := bs) (pc' := 31) [.int l1, .int 0, .int l3, .int l4] hb vX9_149 rfl (pz_dc dX9_sheet 18 rfl) rfl (Nat.le_of_ble_eq_true rfl) (Nat.le_of_ble_eq_true rfl) rfl (by omega) (by omega) (by omega) (fun h6 hb => ?_)
          refine pz_bipush (pc' := 33) (v := (-3)) rfl (pz_dc dX9_sheet 19 rfl) kb_m3 ?_
          exact pz_iret (pz_dc dX9_sheet 20 rfl) rfl hb
      · replace hb := hb.2 hc
        refine pz_iconst (pc' := 16) (v := (-1)) rfl (pz_dc dX9_sheet 8 rfl) ki_m1 ?_
        exact pz_iret (pz_dc dX9_sheet 9 rfl) rfl hb
set_option maxRecDepth 20000 in
set_option maxHeartbeats 4000000 in
theorem wX9_days_0 {Ex : State → Nat → Prop} {Q : Option Value → pz_H → Prop} {d bc bs : Nat} {l0 : Nat} {l1 : Int32}  {h : pz_H} (hD : 7 ≤ d) (hb : pz_is h l0 9 ∧ (pz_ki mX9_doAndRemember 6 0 0 (.ref l0 :: [.int 110, .int l1, .int 0]) h (fun (x2 : Int32) (h1 : pz_H) => (x2 < 0 → Q (some (.int x2)) h1) ∧ (¬ x2 < 0 → pz_gR h1 l0 9 1 (fun (a3 : Nat) => pz_gR h1 l0 9 3 (fun (a4 : Nat) => pz_gI h1 a4 8 7 (fun (x5 : Int32) => pz_gR h1 l0 9 4 (fun (a6 : Nat) => pz_gI h1 a6 8 7 (fun (x7 : Int32) => pz_gR h1 l0 9 3 (fun (a8 : Nat) => pz_gI h1 a8 8 8 (fun (x9 : Int32) => pz_gR h1 l0 9 4 (fun (a10 : Nat) => pz_gI h1 a10 8 8 (fun (x11 : Int32) => pz_is h1 a3 4 ∧ (pz_kv mX4_tell_ 2 0 0 (.ref a3 :: [.long ((x5 - x7).toInt64), .long ((x9 - x11).toInt64)]) h1 (fun (h12 : pz_H) => Q (some (.int x2)) h12))))))))))))))) : pz_V mX9_days Ex Q d bc bs 0 [(0, .ref l0), (1, .int l1)] [] h := by
  refine pz_aload_n (pc' := 1) (x := l0) 0 rfl (pz_dc dX9_days 0 rfl) rfl ?_
  refine pz_bipush (pc' := 3) (v := 110) rfl (pz_dc dX9_days 1 rfl) kb_110 ?_
  refine pz_iload_n (pc' := 4) (x := l1) 1 rfl (pz_dc dX9_days 2 rfl) rfl ?_
  refine pz_iconst (pc' := 5) (v := 0) rfl (pz_dc dX9_days 3 rfl) ki_0 ?_
  refine pz_cVi (M := mX9_days) (N := mX9_doAndRemember) (d' := 6) (bc1 := 0) (bs1 := 0) (bc2 := bc) (bs2 := bs) (pc' := 8) [.int 110, .int l1, .int 0] hb vX9_157 rfl (pz_dc dX9_days 4 rfl) rfl (Nat.le_of_ble_eq_true rfl) (Nat.le_of_ble_eq_true rfl) rfl (by omega) (by omega) (by omega) (fun x2 h1 hb => ?_)
  refine pz_istore_n (pc' := 9) (lv' := [(2, .int x2), (0, .ref l0), (1, .int l1)]) rfl (pz_dc dX9_days 5 rfl) (by decide) rfl ?_
  refine pz_iload_n (pc' := 10) (x := x2) 0 rfl (pz_dc dX9_days 6 rfl) rfl ?_
  refine pz_if_lt (pc' := 13) (tgt := 52) rfl (pz_dc dX9_days 7 rfl) (by decide) (fun hc => ?_) (fun hc => ?_)
  · replace hb := hb.1 hc
    refine pz_iload_n (pc' := 53) (x := x2) 0 rfl (pz_dc dX9_days 27 rfl) rfl ?_
    exact pz_iret (pz_dc dX9_days 28 rfl) rfl hb
  · replace hb := hb.2 hc
    refine pz_aload_n (pc' := 14) (x := l0) 1 rfl (pz_dc dX9_days 8 rfl) rfl ?_
    refine pz_getR (M := mX9_days) hb fX9_19 (pc' := 17) rfl (pz_dc dX9_days 9 rfl) (fun a3 hb => ?_)
    refine pz_aload_n (pc' := 18) (x := l0) 1 rfl (pz_dc dX9_days 10 rfl) rfl ?_
    refine pz_getR (M := mX9_days) hb fX9_33 (pc' := 21) rfl (pz_dc dX9_days 11 rfl) (fun a4 hb => ?_)
    refine pz_getI (M := mX9_days) hb fX9_161 (pc' := 24) rfl (pz_dc dX9_days 12 rfl) (fun x5 hb => ?_)
    refine pz_aload_n (pc' := 25) (x := l0) 1 rfl (pz_dc dX9_days 13 rfl) rfl ?_
    refine pz_getR (M := mX9_days) hb fX9_37 (pc' := 28) rfl (pz_dc dX9_days 14 rfl) (fun a6 hb => ?_)
    refine pz_getI (M := mX9_days) hb fX9_161 (pc' := 31) rfl (pz_dc dX9_days 15 rfl) (fun x7 hb => ?_)
    refine pz_isub (pc' := 32) rfl (pz_dc dX9_days 16 rfl) ?_
    refine pz_i2l (pc' := 33) rfl (pz_dc dX9_days 17 rfl) ?_
    refine pz_aload_n (pc' := 34) (x := l0) 1 rfl (pz_dc dX9_days 18 rfl) rfl ?_
    refine pz_getR (M := mX9_days) hb fX9_33 (pc' := 37) rfl (pz_dc dX9_days 19 rfl) (fun a8 hb => ?_)
    refine pz_getI (M := mX9_days) hb fX9_164 (pc' := 40) rfl (pz_dc dX9_days 20 rfl) (fun x9 hb => ?_)
    refine pz_aload_n (pc' := 41) (x := l0) 1 rfl (pz_dc dX9_days 21 rfl) rfl ?_
    refine pz_getR (M := mX9_days) hb fX9_37 (pc' := 44) rfl (pz_dc dX9_days 22 rfl) (fun a10 hb => ?_)
    refine pz_getI (M := mX9_days) hb fX9_164 (pc' := 47) rfl (pz_dc dX9_days 23 rfl) (fun x11 hb => ?_)
    refine pz_isub (pc' := 48) rfl (pz_dc dX9_days 24 rfl) ?_
    refine pz_i2l (pc' := 49) rfl (pz_dc dX9_days 25 rfl) ?_
    refine pz_cVv (M := mX9_days) (N := mX4_tell_) (d' := 2) (bc1 := 0) (bs1 := 0) (bc2 := bc) (bs2 := bs) (pc' := 52) [.long ((x5 - x7).toInt64), .long ((x9 - x11).toInt64)] hb vX9_167 rfl (pz_dc dX9_days 26 rfl) rfl (Nat.le_of_ble_eq_true rfl) (Nat.le_of_ble_eq_true rfl) rfl (by omega) (by omega) (by omega) (fun h12 hb => ?_)
    refine pz_iload_n (pc' := 53) (x := x2) 0 rfl (pz_dc dX9_days 27 rfl) rfl ?_
    exact pz_iret (pz_dc dX9_days 28 rfl) rfl hb
set_option maxRecDepth 20000 in
set_option maxHeartbeats 4000000 in
theorem wX9_pulls_0 {Ex : State → Nat → Prop} {Q : Option Value → pz_H → Prop} {d bc bs : Nat} {l0 : Nat} {l1 : Int32}  {h : pz_H} (hD : 7 ≤ d) (hb : pz_is h l0 9 ∧ (pz_ki mX9_doAndRemember 6 0 0 (.ref l0 :: [.int 112, .int l1, .int 0]) h (fun (x2 : Int32) (h1 : pz_H) => Q (some (.int x2)) h1))) : pz_V mX9_pulls Ex Q d bc bs 0 [(0, .ref l0), (1, .int l1)] [] h := by
  refine pz_aload_n (pc' := 1) (x := l0) 0 rfl (pz_dc dX9_pulls 0 rfl) rfl ?_
  refine pz_bipush (pc' := 3) (v := 112) rfl (pz_dc dX9_pulls 1 rfl) kb_112 ?_
  refine pz_iload_n (pc' := 4) (x := l1) 1 rfl (pz_dc dX9_pulls 2 rfl) rfl ?_
  refine pz_iconst (pc' := 5) (v := 0) rfl (pz_dc dX9_pulls 3 rfl) ki_0 ?_
  refine pz_cVi (M := mX9_pulls) (N := mX9_doAndRemember) (d' := 6) (bc1 := 0) (bs1 := 0) (bc2 := bc) (bs2 := bs) (pc' := 8) [.int 112, .int l1, .int 0] hb vX9_157 rfl (pz_dc dX9_pulls 4 rfl) rfl (Nat.le_of_ble_eq_true rfl) (Nat.le_of_ble_eq_true rfl) rfl (by omega) (by omega) (by omega) (fun x2 h1 hb => ?_)
  exact pz_iret (pz_dc dX9_pulls 5 rfl) rfl hb
set_option maxRecDepth 20000 in
set_option maxHeartbeats 4000000 in
theorem wX9_stops_0 {Ex : State → Nat → Prop} {Q : Option Value → pz_H → Prop} {d bc bs : Nat} {l0 : Nat} {l1 : Int32}  {h : pz_H} (hD : 7 ≤ d) (hb : pz_is h l0 9 ∧ (pz_ki mX9_doAndRemember 6 0 0 (.ref l0 :: [.int 115, .int l1, .int 0]) h (fun (x2 : Int32) (h1 : pz_H) => Q (some (.int x2)) h1))) : pz_V mX9_stops Ex Q d bc bs 0 [(0, .ref l0), (1, .int l1)] [] h := by
  refine pz_aload_n (pc' := 1) (x := l0) 0 rfl (pz_dc dX9_stops 0 rfl) rfl ?_
  refine pz_bipush (pc' := 3) (v := 115) rfl (pz_dc dX9_stops 1 rfl) kb_115 ?_
  refine pz_iload_n (pc' := 4) (x := l1) 1 rfl (pz_dc dX9_stops 2 rfl) rfl ?_
  refine pz_iconst (pc' := 5) (v := 0) rfl (pz_dc dX9_stops 3 rfl) ki_0 ?_
  refine pz_cVi (M := mX9_stops) (N := mX9_doAndRemember) (d' := 6) (bc1 := 0) (bs1 := 0) (bc2 := bc) (bs2 := bs) (pc' := 8) [.int 115, .int l1, .int 0] hb vX9_157 rfl (pz_dc dX9_stops 4 rfl) rfl (Nat.le_of_ble_eq_true rfl) (Nat.le_of_ble_eq_true rfl) rfl (by omega) (by omega) (by omega) (fun x2 h1 hb => ?_)
  exact pz_iret (pz_dc dX9_stops 5 rfl) rfl hb
set_option maxRecDepth 20000 in
set_option maxHeartbeats 4000000 in
theorem wX9_combs_0 {Ex : State → Nat → Prop} {Q : Option Value → pz_H → Prop} {d bc bs : Nat} {l0 : Nat} {l1 : Int32}  {h : pz_H} (hD : 7 ≤ d) (hb : pz_is h l0 9 ∧ (pz_ki mX9_doAndRemember 6 0 0 (.ref l0 :: [.int 99, .int l1, .int 0]) h (fun (x2 : Int32) (h1 : pz_H) => Q (some (.int x2)) h1))) : pz_V mX9_combs Ex Q d bc bs 0 [(0, .ref l0), (1, .int l1)] [] h := by
  refine pz_aload_n (pc' := 1) (x := l0) 0 rfl (pz_dc dX9_combs 0 rfl) rfl ?_
  refine pz_bipush (pc' := 3) (v := 99) rfl (pz_dc dX9_combs 1 rfl) kb_99 ?_
  refine pz_iload_n (pc' := 4) (x := l1) 1 rfl (pz_dc dX9_combs 2 rfl) rfl ?_
  refine pz_iconst (pc' := 5) (v := 0) rfl (pz_dc dX9_combs 3 rfl) ki_0 ?_
  refine pz_cVi (M := mX9_combs) (N := mX9_doAndRemember) (d' := 6) (bc1 := 0) (bs1 := 0) (bc2 := bc) (bs2 := bs) (pc' := 8) [.int 99, .int l1, .int 0] hb vX9_157 rfl (pz_dc dX9_combs 4 rfl) rfl (Nat.le_of_ble_eq_true rfl) (Nat.le_of_ble_eq_true rfl) rfl (by omega) (by omega) (by omega) (fun x2 h1 hb => ?_)
  exact pz_iret (pz_dc dX9_combs 5 rfl) rfl hb
set_option maxRecDepth 20000 in
set_option maxHeartbeats 4000000 in
theorem wX9_taps_0 {Ex : State → Nat → Prop} {Q : Option Value → pz_H → Prop} {d bc bs : Nat} {l0 : Nat} {l1 : Int32} {l2 : Int32}  {h : pz_H} (hD : 7 ≤ d) (hb : pz_is h l0 9 ∧ (pz_ki mX9_doAndRemember 6 0 0 (.ref l0 :: [.int 116, .int l1, .int l2]) h (fun (x2 : Int32) (h1 : pz_H) => Q (some (.int x2)) h1))) : pz_V mX9_taps Ex Q d bc bs 0 [(0, .ref l0), (1, .int l1), (2, .int l2)] [] h := by
  refine pz_aload_n (pc' := 1) (x := l0) 0 rfl (pz_dc dX9_taps 0 rfl) rfl ?_
  refine pz_bipush (pc' := 3) (v := 116) rfl (pz_dc dX9_taps 1 rfl) kb_116 ?_
  refine pz_iload_n (pc' := 4) (x := l1) 1 rfl (pz_dc dX9_taps 2 rfl) rfl ?_
  refine pz_iload_n (pc' := 5) (x := l2) 2 rfl (pz_dc dX9_taps 3 rfl) rfl ?_
  refine pz_cVi (M := mX9_taps) (N := mX9_doAndRemember) (d' := 6) (bc1 := 0) (bs1 := 0) (bc2 := bc) (bs2 := bs) (pc' := 8) [.int 116, .int l1, .int l2] hb vX9_157 rfl (pz_dc dX9_taps 4 rfl) rfl (Nat.le_of_ble_eq_true rfl) (Nat.le_of_ble_eq_true rfl) rfl (by omega) (by omega) (by omega) (fun x2 h1 hb => ?_)
  exact pz_iret (pz_dc dX9_taps 5 rfl) rfl hb
set_option maxRecDepth 20000 in
set_option maxHeartbeats 4000000 in
theorem wX9_gives_0 {Ex : State → Nat → Prop} {Q : Option Value → pz_H → Prop} {d bc bs : Nat} {l0 : Nat} {l1 : Int32} {l2 : Int32}  {h : pz_H} (hD : 7 ≤ d) (hb : pz_is h l0 9 ∧ (pz_ki mX9_doAndRemember 6 0 0 (.ref l0 :: [.int 103, .int l1, .int l2]) h (fun (x2 : Int32) (h1 : pz_H) => Q (some (.int x2)) h1))) : pz_V mX9_gives Ex Q d bc bs 0 [(0, .ref l0), (1, .int l1), (2, .int l2)] [] h := by
  refine pz_aload_n (pc' := 1) (x := l0) 0 rfl (pz_dc dX9_gives 0 rfl) rfl ?_
  refine pz_bipush (pc' := 3) (v := 103) rfl (pz_dc dX9_gives 1 rfl) kb_103 ?_
  refine pz_iload_n (pc' := 4) (x := l1) 1 rfl (pz_dc dX9_gives 2 rfl) rfl ?_
  refine pz_iload_n (pc' := 5) (x := l2) 2 rfl (pz_dc dX9_gives 3 rfl) rfl ?_
  refine pz_cVi (M := mX9_gives) (N := mX9_doAndRemember) (d' := 6) (bc1 := 0) (bs1 := 0) (bc2 := bc) (bs2 := bs) (pc' := 8) [.int 103, .int l1, .int l2] hb vX9_157 rfl (pz_dc dX9_gives 4 rfl) rfl (Nat.le_of_ble_eq_true rfl) (Nat.le_of_ble_eq_true rfl) rfl (by omega) (by omega) (by omega) (fun x2 h1 hb => ?_)
  exact pz_iret (pz_dc dX9_gives 5 rfl) rfl hb
set_option maxRecDepth 20000 in
set_option maxHeartbeats 4000000 in
theorem wX9_year_0 {Ex : State → Nat → Prop} {Q : Option Value → pz_H → Prop} {d bc bs : Nat} {l0 : Nat}  {h : pz_H} (hD : 7 ≤ d) (hb : pz_is h l0 9 ∧ (pz_ki mX9_yearFault 1 0 0 (.ref l0 :: []) h (fun (x2 : Int32) (h1 : pz_H) => (x2 < 0 → pz_gR h1 l0 9 4 (fun (a3 : Nat) => pz_gR h1 l0 9 3 (fun (a4 : Nat) => pz_is h1 a3 8 ∧ (pz_kv mX8_copy 1 0 0 (.ref a3 :: [.ref a4]) h1 (fun (h5 : pz_H) => pz_V mX9_year Ex Q d bc bs 41 [(0, .ref l0), (2, .int 0), (3, .int 0), (4, .int 0), (5, .int 0)] [] h5))))) ∧ (¬ x2 < 0 → pz_gR h1 l0 9 0 (fun (a6 : Nat) => pz_is h1 a6 6 ∧ (pz_pF h1 a6 6 1 (.int 0) (fun (h7 : pz_H) => Q (some (.int (((-1 : Int32)) - x2))) h7))))))) : pz_V mX9_year Ex Q d bc bs 0 [(0, .ref l0)] [] h := by
  refine pz_aload_n (pc' := 1) (x := l0) 0 rfl (pz_dc dX9_year 0 rfl) rfl ?_
  refine pz_cVi (M := mX9_year) (N := mX9_yearFault) (d' := 1) (bc1 := 0) (bs1 := 0) (bc2 := bc) (bs2 := bs) (pc' := 4) [] hb vX9_171 rfl (pz_dc dX9_year 1 rfl) rfl (Nat.le_of_ble_eq_true rfl) (Nat.le_of_ble_eq_true rfl) rfl (by omega) (by omega) (by omega) (fun x2 h1 hb => ?_)
  refine pz_istore_n (pc' := 5) (lv' := [(1, .int x2), (0, .ref l0)]) rfl (pz_dc dX9_year 2 rfl) (by decide) rfl ?_
  refine pz_iload_n (pc' := 6) (x := x2) 0 rfl (pz_dc dX9_year 3 rfl) rfl ?_
  refine pz_if_lt (pc' := 9) (tgt := 20) rfl (pz_dc dX9_year 4 rfl) (by decide) (fun hc => ?_) (fun hc => ?_)
  · replace hb := hb.1 hc
    refine pz_aload_n (pc' := 21) (x := l0) 1 rfl (pz_dc dX9_year 12 rfl) rfl ?_
    refine pz_getR (M := mX9_year) hb fX9_37 (pc' := 24) rfl (pz_dc dX9_year 13 rfl) (fun a3 hb => ?_)
    refine pz_aload_n (pc' := 25) (x := l0) 1 rfl (pz_dc dX9_year 14 rfl) rfl ?_
    refine pz_getR (M := mX9_year) hb fX9_33 (pc' := 28) rfl (pz_dc dX9_year 15 rfl) (fun a4 hb => ?_)
    refine pz_cVv (M := mX9_year) (N := mX8_copy) (d' := 1) (bc1 := 0) (bs1 := 0) (bc2 := bc) (bs2 := bs) (pc' := 31) [.ref a4] hb vX9_174 rfl (pz_dc dX9_year 16 rfl) rfl (Nat.le_of_ble_eq_true rfl) (Nat.le_of_ble_eq_true rfl) rfl (by omega) (by omega) (by omega) (fun h5 hb => ?_)
    refine pz_iconst (pc' := 32) (v := 0) rfl (pz_dc dX9_year 17 rfl) ki_0 ?_
    refine pz_istore_n (pc' := 33) (lv' := [(2, .int 0), (1, .int x2), (0, .ref l0)]) rfl (pz_dc dX9_year 18 rfl) (by decide) rfl ?_
    refine pz_iconst (pc' := 34) (v := 0) rfl (pz_dc dX9_year 19 rfl) ki_0 ?_
    refine pz_istore_n (pc' := 35) (lv' := [(3, .int 0), (2, .int 0), (1, .int x2), (0, .ref l0)]) rfl (pz_dc dX9_year 20 rfl) (by decide) rfl ?_
    refine pz_iconst (pc' := 36) (v := 0) rfl (pz_dc dX9_year 21 rfl) ki_0 ?_
    refine pz_istore (pc' := 38) (lv' := [(4, .int 0), (3, .int 0), (2, .int 0), (1, .int x2), (0, .ref l0)]) rfl (pz_dc dX9_year 22 rfl) (by decide) rfl ?_
    refine pz_iconst (pc' := 39) (v := 0) rfl (pz_dc dX9_year 23 rfl) ki_0 ?_
    refine pz_istore (pc' := 41) (lv' := [(5, .int 0), (4, .int 0), (3, .int 0), (2, .int 0), (1, .int x2), (0, .ref l0)]) rfl (pz_dc dX9_year 24 rfl) (by decide) rfl ?_
    refine pz_lv (lv' := [(0, .ref l0), (2, .int 0), (3, .int 0), (4, .int 0), (5, .int 0)]) [5, 3, 2, 1, 0] rfl ?_
    exact hb
  · replace hb := hb.2 hc
    refine pz_aload_n (pc' := 10) (x := l0) 1 rfl (pz_dc dX9_year 5 rfl) rfl ?_
    refine pz_getR (M := mX9_year) hb fX9_10 (pc' := 13) rfl (pz_dc dX9_year 6 rfl) (fun a6 hb => ?_)
    obtain ⟨⟨fs8, hf9⟩, hb⟩ := hb
    refine pz_callV (M := mX9_year) (N := mX6_clear) (d' := 0) (bc1 := 0) (bs1 := 0) (bc2 := bc) (bs2 := bs) (pc' := 16) [] vX9_103 rfl (pz_dc dX9_year 7 rfl) rfl (Nat.le_of_ble_eq_true rfl) (Nat.le_of_ble_eq_true rfl) rfl (by omega) (by omega) (by omega) hf9 ?_
    refine pz_aload_n (pc' := 1) (x := a6) 0 rfl (pz_dc dX6_clear 0 rfl) rfl ?_
    refine pz_iconst (pc' := 2) (v := 0) rfl (pz_dc dX6_clear 1 rfl) ki_0 ?_
    refine pz_putv (M := mX6_clear) hb (pX6_13 _ rfl) rfl rfl (pc' := 5) rfl (pz_dc dX6_clear 2 rfl) (fun h7 hb => ?_)
    refine pz_vret (pz_dc dX6_clear 3 rfl) rfl ?_
    show pz_V mX9_year _ _ _ _ _ 16 [(1, .int x2), (0, .ref l0)] [] h7
    refine pz_iconst (pc' := 17) (v := (-1)) rfl (pz_dc dX9_year 8 rfl) ki_m1 ?_
    refine pz_iload_n (pc' := 18) (x := x2) 0 rfl (pz_dc dX9_year 9 rfl) rfl ?_
    refine pz_isub (pc' := 19) rfl (pz_dc dX9_year 10 rfl) ?_
    exact pz_iret (pz_dc dX9_year 11 rfl) rfl hb
set_option maxRecDepth 20000 in
set_option maxHeartbeats 4000000 in
theorem wX9_year_41 {Ex : State → Nat → Prop} {Q : Option Value → pz_H → Prop} {d bc bs : Nat} {l0 : Nat} {l2 : Int32} {l3 : Int32} {l4 : Int32} {l5 : Int32}  {h : pz_H} (hD : 7 ≤ d) (hb : (((60 : Int32)) ≤ l5 → pz_V mX9_year Ex Q d bc bs 116 [(0, .ref l0), (2, .int l2), (3, .int l3)] [] h) ∧ (¬ ((60 : Int32)) ≤ l5 → pz_gR h l0 9 0 (fun (a1 : Nat) => pz_is h a1 6 ∧ (pz_gI h a1 6 1 (fun (x2 : Int32) => (x2 ≤ l4 → pz_V mX9_year Ex Q d bc bs 116 [(0, .ref l0), (2, .int l2), (3, .int l3)] [] h) ∧ (¬ x2 ≤ l4 → (¬ l3 = 0 → pz_V mX9_year Ex Q d bc bs 116 [(0, .ref l0), (2, .int l2), (3, .int l3)] [] h) ∧ (l3 = 0 → pz_is h l0 9 ∧ (pz_ki mX9_doTold 6 0 0 (.ref l0 :: [.int l4]) h (fun (x4 : Int32) (h3 : pz_H) => (0 ≤ x4 → pz_V mX9_year Ex Q d bc bs 78 [(0, .ref l0), (2, .int l2), (4, .int l4), (5, .int l5)] [.int 0] h3) ∧ (¬ 0 ≤ x4 → pz_V mX9_year Ex Q d bc bs 78 [(0, .ref l0), (2, .int l2), (4, .int l4), (5, .int l5)] [.int 1] h3)))))))))) : pz_V mX9_year Ex Q d bc bs 41 [(0, .ref l0), (2, .int l2), (3, .int l3), (4, .int l4), (5, .int l5)] [] h := by
  refine pz_iload (pc' := 43) (x := l5) 4 rfl (pz_dc dX9_year 25 rfl) rfl ?_
  refine pz_bipush (pc' := 45) (v := 60) rfl (pz_dc dX9_year 26 rfl) kb_60 ?_
  refine pz_icmp_ge (pc' := 48) (tgt := 116) rfl (pz_dc dX9_year 27 rfl) (by decide) (fun hc => ?_) (fun hc => ?_)
  · replace hb := hb.1 hc
    refine pz_lv (lv' := [(0, .ref l0), (2, .int l2), (3, .int l3)]) [0, 1, 2] rfl ?_
    exact hb
  · replace hb := hb.2 hc
    refine pz_iload (pc' := 50) (x := l4) 3 rfl (pz_dc dX9_year 28 rfl) rfl ?_
    refine pz_aload_n (pc' := 51) (x := l0) 0 rfl (pz_dc dX9_year 29 rfl) rfl ?_
    refine pz_getR (M := mX9_year) hb fX9_10 (pc' := 54) rfl (pz_dc dX9_year 30 rfl) (fun a1 hb => ?_)
    obtain ⟨⟨fs5, hf6⟩, hb⟩ := hb
    refine pz_callV (M := mX9_year) (N := mX6_size) (d' := 0) (bc1 := 0) (bs1 := 0) (bc2 := bc) (bs2 := bs) (pc' := 57) [] vX9_89 rfl (pz_dc dX9_year 31 rfl) rfl (Nat.le_of_ble_eq_true rfl) (Nat.le_of_ble_eq_true rfl) rfl (by omega) (by omega) (by omega) hf6 ?_
    refine pz_aload_n (pc' := 1) (x := a1) 0 rfl (pz_dc dX6_size 0 rfl) rfl ?_
    refine pz_getI (M := mX6_size) hb fX6_13 (pc' := 4) rfl (pz_dc dX6_size 1 rfl) (fun x2 hb => ?_)
    refine pz_iret (pz_dc dX6_size 2 rfl) rfl ?_
    show pz_V mX9_year _ _ _ _ _ 57 [(0, .ref l0), (2, .int l2), (3, .int l3), (4, .int l4), (5, .int l5)] [.int x2, .int l4] h
    refine pz_icmp_ge (pc' := 60) (tgt := 116) rfl (pz_dc dX9_year 32 rfl) (by decide) (fun hc => ?_) (fun hc => ?_)
    · replace hb := hb.1 hc
      refine pz_lv (lv' := [(0, .ref l0), (2, .int l2), (3, .int l3)]) [0, 1, 2] rfl ?_
      exact hb
    · replace hb := hb.2 hc
      refine pz_iload_n (pc' := 61) (x := l3) 2 rfl (pz_dc dX9_year 33 rfl) rfl ?_
      refine pz_if_ne (pc' := 64) (tgt := 116) rfl (pz_dc dX9_year 34 rfl) (by decide) (fun hc => ?_) (fun hc => ?_)
      · replace hb := hb.1 hc
        refine pz_lv (lv' := [(0, .ref l0), (2, .int l2), (3, .int l3)]) [0, 1, 2] rfl ?_
        exact hb
      · replace hb := hb.2 hc
        refine pz_aload_n (pc' := 65) (x := l0) 0 rfl (pz_dc dX9_year 35 rfl) rfl ?_
        refine pz_iload (pc' := 67) (x := l4) 3 rfl (pz_dc dX9_year 36 rfl) rfl ?_
        refine pz_cVi (M := mX9_year) (N := mX9_doTold) (d' := 6) (bc1 := 0) (bs1 := 0) (bc2 := bc) (bs2 := bs) (pc' := 70) [.int l4] hb vX9_178 rfl (pz_dc dX9_year 37 rfl) rfl (Nat.le_of_ble_eq_true rfl) (Nat.le_of_ble_eq_true rfl) rfl (by omega) (by omega) (by omega) (fun x4 h3 hb => ?_)
        refine pz_if_ge (pc' := 73) (tgt := 77) rfl (pz_dc dX9_year 38 rfl) (by decide) (fun hc => ?_) (fun hc => ?_)
        · replace hb := hb.1 hc
          refine pz_iconst (pc' := 78) (v := 0) rfl (pz_dc dX9_year 41 rfl) ki_0 ?_
          refine pz_lv (lv' := [(0, .ref l0), (2, .int l2), (4, .int l4), (5, .int l5)]) [0, 1, 3, 4] rfl ?_
          exact hb
        · replace hb := hb.2 hc
          refine pz_iconst (pc' := 74) (v := 1) rfl (pz_dc dX9_year 39 rfl) ki_1 ?_
          refine pz_goto (pc' := 78) (pz_dc dX9_year 40 rfl) (by decide) ?_
          refine pz_lv (lv' := [(0, .ref l0), (2, .int l2), (4, .int l4), (5, .int l5)]) [0, 1, 3, 4] rfl ?_
          exact hb
set_option maxRecDepth 20000 in
set_option maxHeartbeats 4000000 in
theorem wX9_year_116 {Ex : State → Nat → Prop} {Q : Option Value → pz_H → Prop} {d bc bs : Nat} {l0 : Nat} {l2 : Int32} {l3 : Int32}  {h : pz_H} (hD : 7 ≤ d) (hb : pz_gR h l0 9 0 (fun (a1 : Nat) => pz_is h a1 6 ∧ (pz_pF h a1 6 1 (.int 0) (fun (h2 : pz_H) => (l2 ≤ 0 → pz_gR h2 l0 9 1 (fun (a3 : Nat) => (l3 = 0 → pz_gR h2 l0 9 2 (fun (a4 : Nat) => pz_gR h2 l0 9 3 (fun (a5 : Nat) => pz_is h2 a4 1 ∧ (pz_ki mX1_total 2 0 0 (.ref a4 :: [.ref a5]) h2 (fun (x7 : Int32) (h6 : pz_H) => pz_is h6 a3 4 ∧ (pz_kv mX4_tell_ 2 0 0 (.ref a3 :: [.long 0, .long x7.toInt64]) h6 (fun (h8 : pz_H) => Q (some (.int l2)) h8))))))) ∧ (¬ l3 = 0 → pz_gR h2 l0 9 2 (fun (a9 : Nat) => pz_gR h2 l0 9 3 (fun (a10 : Nat) => pz_is h2 a9 1 ∧ (pz_ki mX1_total 2 0 0 (.ref a9 :: [.ref a10]) h2 (fun (x12 : Int32) (h11 : pz_H) => pz_is h11 a3 4 ∧ (pz_kv mX4_tell_ 2 0 0 (.ref a3 :: [.long 1, .long x12.toInt64]) h11 (fun (h13 : pz_H) => Q (some (.int l2)) h13))))))))) ∧ (¬ l2 ≤ 0 → pz_gR h2 l0 9 6 (fun (a14 : Nat) => pz_gR h2 l0 9 4 (fun (a15 : Nat) => pz_is h2 a14 2 ∧ (pz_kv mX2_add 2 0 0 (.ref a14 :: [.ref a15]) h2 (fun (h16 : pz_H) => pz_gR h16 l0 9 1 (fun (a17 : Nat) => (l3 = 0 → pz_gR h16 l0 9 2 (fun (a18 : Nat) => pz_gR h16 l0 9 3 (fun (a19 : Nat) => pz_is h16 a18 1 ∧ (pz_ki mX1_total 2 0 0 (.ref a18 :: [.ref a19]) h16 (fun (x21 : Int32) (h20 : pz_H) => pz_is h20 a17 4 ∧ (pz_kv mX4_tell_ 2 0 0 (.ref a17 :: [.long 0, .long x21.toInt64]) h20 (fun (h22 : pz_H) => Q (some (.int l2)) h22))))))) ∧ (¬ l3 = 0 → pz_gR h16 l0 9 2 (fun (a23 : Nat) => pz_gR h16 l0 9 3 (fun (a24 : Nat) => pz_is h16 a23 1 ∧ (pz_ki mX1_total 2 0 0 (.ref a23 :: [.ref a24]) h16 (fun (x26 : Int32) (h25 : pz_H) => pz_is h25 a17 4 ∧ (pz_kv mX4_tell_ 2 0 0 (.ref a17 :: [.long 1, .long x26.toInt64]) h25 (fun (h27 : pz_H) => Q (some (.int l2)) h27))))))))))))))))) : pz_V mX9_year Ex Q d bc bs 116 [(0, .ref l0), (2, .int l2), (3, .int l3)] [] h := by
  refine pz_aload_n (pc' := 117) (x := l0) 0 rfl (pz_dc dX9_year 62 rfl) rfl ?_
  refine pz_getR (M := mX9_year) hb fX9_10 (pc' := 120) rfl (pz_dc dX9_year 63 rfl) (fun a1 hb => ?_)
  obtain ⟨⟨fs28, hf29⟩, hb⟩ := hb
  refine pz_callV (M := mX9_year) (N := mX6_clear) (d' := 0) (bc1 := 0) (bs1 := 0) (bc2 := bc) (bs2 := bs) (pc' := 123) [] vX9_103 rfl (pz_dc dX9_year 64 rfl) rfl (Nat.le_of_ble_eq_true rfl) (Nat.le_of_ble_eq_true rfl) rfl (by omega) (by omega) (by omega) hf29 ?_
  refine pz_aload_n (pc' := 1) (x := a1) 0 rfl (pz_dc dX6_clear 0 rfl) rfl ?_
  refine pz_iconst (pc' := 2) (v := 0) rfl (pz_dc dX6_clear 1 rfl) ki_0 ?_
  refine pz_putv (M := mX6_clear) hb (pX6_13 _ rfl) rfl rfl (pc' := 5) rfl (pz_dc dX6_clear 2 rfl) (fun h2 hb => ?_)
  refine pz_vret (pz_dc dX6_clear 3 rfl) rfl ?_
  show pz_V mX9_year _ _ _ _ _ 123 [(0, .ref l0), (2, .int l2), (3, .int l3)] [] h2
  refine pz_iload_n (pc' := 124) (x := l2) 1 rfl (pz_dc dX9_year 65 rfl) rfl ?_
  refine pz_if_le (pc' := 127) (tgt := 138) rfl (pz_dc dX9_year 66 rfl) (by decide) (fun hc => ?_) (fun hc => ?_)
  · replace hb := hb.1 hc
    refine pz_aload_n (pc' := 139) (x := l0) 0 rfl (pz_dc dX9_year 72 rfl) rfl ?_
    refine pz_getR (M := mX9_year) hb fX9_19 (pc' := 142) rfl (pz_dc dX9_year 73 rfl) (fun a3 hb => ?_)
    refine pz_iload_n (pc' := 143) (x := l3) 2 rfl (pz_dc dX9_year 74 rfl) rfl ?_
    refine pz_if_eq (pc' := 146) (tgt := 150) rfl (pz_dc dX9_year 75 rfl) (by decide) (fun hc => ?_) (fun hc => ?_)
    · replace hb := hb.1 hc
      refine pz_lconst (pc' := 151) (v := 0) rfl (pz_dc dX9_year 78 rfl) rfl ?_
      refine pz_aload_n (pc' := 152) (x := l0) 0 rfl (pz_dc dX9_year 79 rfl) rfl ?_
      refine pz_getR (M := mX9_year) hb fX9_26 (pc' := 155) rfl (pz_dc dX9_year 80 rfl) (fun a4 hb => ?_)
      refine pz_aload_n (pc' := 156) (x := l0) 0 rfl (pz_dc dX9_year 81 rfl) rfl ?_
      refine pz_getR (M := mX9_year) hb fX9_33 (pc' := 159) rfl (pz_dc dX9_year 82 rfl) (fun a5 hb => ?_)
      refine pz_cVi (M := mX9_year) (N := mX1_total) (d' := 2) (bc1 := 0) (bs1 := 0) (bc2 := bc) (bs2 := bs) (pc' := 162) [.ref a5] hb vX9_153 rfl (pz_dc dX9_year 83 rfl) rfl (Nat.le_of_ble_eq_true rfl) (Nat.le_of_ble_eq_true rfl) rfl (by omega) (by omega) (by omega) (fun x7 h6 hb => ?_)
      refine pz_i2l (pc' := 163) rfl (pz_dc dX9_year 84 rfl) ?_
      refine pz_cVv (M := mX9_year) (N := mX4_tell_) (d' := 2) (bc1 := 0) (bs1 := 0) (bc2 := bc) (bs2 := bs) (pc' := 166) [.long 0, .long x7.toInt64] hb vX9_167 rfl (pz_dc dX9_year 85 rfl) rfl (Nat.le_of_ble_eq_true rfl) (Nat.le_of_ble_eq_true rfl) rfl (by omega) (by omega) (by omega) (fun h8 hb => ?_)
      refine pz_iload_n (pc' := 167) (x := l2) 1 rfl (pz_dc dX9_year 86 rfl) rfl ?_
      exact pz_iret (pz_dc dX9_year 87 rfl) rfl hb
    · replace hb := hb.2 hc
      refine pz_lconst (pc' := 147) (v := 1) rfl (pz_dc dX9_year 76 rfl) rfl ?_
      refine pz_goto (pc' := 151) (pz_dc dX9_year 77 rfl) (by decide) ?_
      refine pz_aload_n (pc' := 152) (x := l0) 0 rfl (pz_dc dX9_year 79 rfl) rfl ?_
      refine pz_getR (M := mX9_year) hb fX9_26 (pc' := 155) rfl (pz_dc dX9_year 80 rfl) (fun a9 hb => ?_)
      refine pz_aload_n (pc' := 156) (x := l0) 0 rfl (pz_dc dX9_year 81 rfl) rfl ?_
      refine pz_getR (M := mX9_year) hb fX9_33 (pc' := 159) rfl (pz_dc dX9_year 82 rfl) (fun a10 hb => ?_)
      refine pz_cVi (M := mX9_year) (N := mX1_total) (d' := 2) (bc1 := 0) (bs1 := 0) (bc2 := bc) (bs2 := bs) (pc' := 162) [.ref a10] hb vX9_153 rfl (pz_dc dX9_year 83 rfl) rfl (Nat.le_of_ble_eq_true rfl) (Nat.le_of_ble_eq_true rfl) rfl (by omega) (by omega) (by omega) (fun x12 h11 hb => ?_)
      refine pz_i2l (pc' := 163) rfl (pz_dc dX9_year 84 rfl) ?_
      refine pz_cVv (M := mX9_year) (N := mX4_tell_) (d' := 2) (bc1 := 0) (bs1 := 0) (bc2 := bc) (bs2 := bs) (pc' := 166) [.long 1, .long x12.toInt64] hb vX9_167 rfl (pz_dc dX9_year 85 rfl) rfl (Nat.le_of_ble_eq_true rfl) (Nat.le_of_ble_eq_true rfl) rfl (by omega) (by omega) (by omega) (fun h13 hb => ?_)
      refine pz_iload_n (pc' := 167) (x := l2) 1 rfl (pz_dc dX9_year 86 rfl) rfl ?_
      exact pz_iret (pz_dc dX9_year 87 rfl) rfl hb
  · replace hb := hb.2 hc
    refine pz_aload_n (pc' := 128) (x := l0) 0 rfl (pz_dc dX9_year 67 rfl) rfl ?_
    refine pz_getR (M := mX9_year) hb fX9_46 (pc' := 131) rfl (pz_dc dX9_year 68 rfl) (fun a14 hb => ?_)
    refine pz_aload_n (pc' := 132) (x := l0) 0 rfl (pz_dc dX9_year 69 rfl) rfl ?_
    refine pz_getR (M := mX9_year) hb fX9_37 (pc' := 135) rfl (pz_dc dX9_year 70 rfl) (fun a15 hb => ?_)
    refine pz_cVv (M := mX9_year) (N := mX2_add) (d' := 2) (bc1 := 0) (bs1 := 0) (bc2 := bc) (bs2 := bs) (pc' := 138) [.ref a15] hb vX9_189 rfl (pz_dc dX9_year 71 rfl) rfl (Nat.le_of_ble_eq_true rfl) (Nat.le_of_ble_eq_true rfl) rfl (by omega) (by omega) (by omega) (fun h16 hb => ?_)
    refine pz_aload_n (pc' := 139) (x := l0) 0 rfl (pz_dc dX9_year 72 rfl) rfl ?_
    refine pz_getR (M := mX9_year) hb fX9_19 (pc' := 142) rfl (pz_dc dX9_year 73 rfl) (fun a17 hb => ?_)
    refine pz_iload_n (pc' := 143) (x := l3) 2 rfl (pz_dc dX9_year 74 rfl) rfl ?_
    refine pz_if_eq (pc' := 146) (tgt := 150) rfl (pz_dc dX9_year 75 rfl) (by decide) (fun hc => ?_) (fun hc => ?_)
    · replace hb := hb.1 hc
      refine pz_lconst (pc' := 151) (v := 0) rfl (pz_dc dX9_year 78 rfl) rfl ?_
      refine pz_aload_n (pc' := 152) (x := l0) 0 rfl (pz_dc dX9_year 79 rfl) rfl ?_
      refine pz_getR (M := mX9_year) hb fX9_26 (pc' := 155) rfl (pz_dc dX9_year 80 rfl) (fun a18 hb => ?_)
      refine pz_aload_n (pc' := 156) (x := l0) 0 rfl (pz_dc dX9_year 81 rfl) rfl ?_
      refine pz_getR (M := mX9_year) hb fX9_33 (pc' := 159) rfl (pz_dc dX9_year 82 rfl) (fun a19 hb => ?_)
      refine pz_cVi (M := mX9_year) (N := mX1_total) (d' := 2) (bc1 := 0) (bs1 := 0) (bc2 := bc) (bs2 := bs) (pc' := 162) [.ref a19] hb vX9_153 rfl (pz_dc dX9_year 83 rfl) rfl (Nat.le_of_ble_eq_true rfl) (Nat.le_of_ble_eq_true rfl) rfl (by omega) (by omega) (by omega) (fun x21 h20 hb => ?_)
      refine pz_i2l (pc' := 163) rfl (pz_dc dX9_year 84 rfl) ?_
      refine pz_cVv (M := mX9_year) (N := mX4_tell_) (d' := 2) (bc1 := 0) (bs1 := 0) (bc2 := bc) (bs2 := bs) (pc' := 166) [.long 0, .long x21.toInt64] hb vX9_167 rfl (pz_dc dX9_year 85 rfl) rfl (Nat.le_of_ble_eq_true rfl) (Nat.le_of_ble_eq_true rfl) rfl (by omega) (by omega) (by omega) (fun h22 hb => ?_)
      refine pz_iload_n (pc' := 167) (x := l2) 1 rfl (pz_dc dX9_year 86 rfl) rfl ?_
      exact pz_iret (pz_dc dX9_year 87 rfl) rfl hb
    · replace hb := hb.2 hc
      refine pz_lconst (pc' := 147) (v := 1) rfl (pz_dc dX9_year 76 rfl) rfl ?_
      refine pz_goto (pc' := 151) (pz_dc dX9_year 77 rfl) (by decide) ?_
      refine pz_aload_n (pc' := 152) (x := l0) 0 rfl (pz_dc dX9_year 79 rfl) rfl ?_
      refine pz_getR (M := mX9_year) hb fX9_26 (pc' := 155) rfl (pz_dc dX9_year 80 rfl) (fun a23 hb => ?_)
      refine pz_aload_n (pc' := 156) (x := l0) 0 rfl (pz_dc dX9_year 81 rfl) rfl ?_
      refine pz_getR (M := mX9_year) hb fX9_33 (pc' := 159) rfl (pz_dc dX9_year 82 rfl) (fun a24 hb => ?_)
      refine pz_cVi (M := mX9_year) (N := mX1_total) (d' := 2) (bc1 := 0) (bs1 := 0) (bc2 := bc) (bs2 := bs) (pc' := 162) [.ref a24] hb vX9_153 rfl (pz_dc dX9_year 83 rfl) rfl (Nat.le_of_ble_eq_true rfl) (Nat.le_of_ble_eq_true rfl) rfl (by omega) (by omega) (by omega) (fun x26 h25 hb => ?_)
      refine pz_i2l (pc' := 163) rfl (pz_dc dX9_year 84 rfl) ?_
      refine pz_cVv (M := mX9_year) (N := mX4_tell_) (d' := 2) (bc1 := 0) (bs1 := 0) (bc2 := bc) (bs2 := bs) (pc' := 166) [.long 1, .long x26.toInt64] hb vX9_167 rfl (pz_dc dX9_year 85 rfl) rfl (Nat.le_of_ble_eq_true rfl) (Nat.le_of_ble_eq_true rfl) rfl (by omega) (by omega) (by omega) (fun h27 hb => ?_)
      refine pz_iload_n (pc' := 167) (x := l2) 1 rfl (pz_dc dX9_year 86 rfl) rfl ?_
      exact pz_iret (pz_dc dX9_year 87 rfl) rfl hb
set_option maxRecDepth 20000 in
set_option maxHeartbeats 4000000 in
theorem wX9_year_78 {Ex : State → Nat → Prop} {Q : Option Value → pz_H → Prop} {d bc bs : Nat} {l0 : Nat} {l2 : Int32} {l4 : Int32} {l5 : Int32} {s0 : Int32} {h : pz_H} (hD : 7 ≤ d) (hb : (s0 = 0 → pz_gR h l0 9 0 (fun (a1 : Nat) => pz_is h a1 6 ∧ (pz_ki mX6_at 0 0 0 (.ref a1 :: [.int l4, .int 60]) h (fun (x3 : Int32) (h2 : pz_H) => pz_ki mX9_actSigns 0 0 0 ([.int x3]) h2 (fun (x5 : Int32) (h4 : pz_H) => pz_V mX9_year Ex Q d bc bs 41 [(0, .ref l0), (2, .int (l2 + ((1 : Int32)))), (3, .int s0), (4, .int (l4 + x5)), (5, .int (l5 + (1 : Int32)))] [] h4))))) ∧ (¬ s0 = 0 → pz_gR h l0 9 0 (fun (a6 : Nat) => pz_is h a6 6 ∧ (pz_ki mX6_at 0 0 0 (.ref a6 :: [.int l4, .int 60]) h (fun (x8 : Int32) (h7 : pz_H) => pz_ki mX9_actSigns 0 0 0 ([.int x8]) h7 (fun (x10 : Int32) (h9 : pz_H) => pz_V mX9_year Ex Q d bc bs 41 [(0, .ref l0), (2, .int (l2 + ((0 : Int32)))), (3, .int s0), (4, .int (l4 + x10)), (5, .int (l5 + (1 : Int32)))] [] h9)))))) : pz_V mX9_year Ex Q d bc bs 78 [(0, .ref l0), (2, .int l2), (4, .int l4), (5, .int l5)] [.int s0] h := by
  refine pz_istore_n (pc' := 79) (lv' := [(3, .int s0), (0, .ref l0), (2, .int l2), (4, .int l4), (5, .int l5)]) rfl (pz_dc dX9_year 42 rfl) (by decide) rfl ?_
  refine pz_iload_n (pc' := 80) (x := l2) 2 rfl (pz_dc dX9_year 43 rfl) rfl ?_
  refine pz_iload_n (pc' := 81) (x := s0) 0 rfl (pz_dc dX9_year 44 rfl) rfl ?_
  refine pz_if_eq (pc' := 84) (tgt := 88) rfl (pz_dc dX9_year 45 rfl) (by decide) (fun hc => ?_) (fun hc => ?_)
  · replace hb := hb.1 hc
    refine pz_iconst (pc' := 89) (v := 1) rfl (pz_dc dX9_year 48 rfl) ki_1 ?_
    refine pz_iadd (pc' := 90) rfl (pz_dc dX9_year 49 rfl) ?_
    refine pz_istore_n (pc' := 91) (lv' := [(2, .int (l2 + ((1 : Int32)))), (3, .int s0), (0, .ref l0), (4, .int l4), (5, .int l5)]) rfl (pz_dc dX9_year 50 rfl) (by decide) rfl ?_
    refine pz_iload (pc' := 93) (x := l4) 3 rfl (pz_dc dX9_year 51 rfl) rfl ?_
    refine pz_aload_n (pc' := 94) (x := l0) 2 rfl (pz_dc dX9_year 52 rfl) rfl ?_
    refine pz_getR (M := mX9_year) hb fX9_10 (pc' := 97) rfl (pz_dc dX9_year 53 rfl) (fun a1 hb => ?_)
    refine pz_iload (pc' := 99) (x := l4) 3 rfl (pz_dc dX9_year 54 rfl) rfl ?_
    refine pz_bipush (pc' := 101) (v := 60) rfl (pz_dc dX9_year 55 rfl) kb_60 ?_
    refine pz_cVi (M := mX9_year) (N := mX6_at) (d' := 0) (bc1 := 0) (bs1 := 0) (bc2 := bc) (bs2 := bs) (pc' := 104) [.int l4, .int 60] hb vX9_182 rfl (pz_dc dX9_year 56 rfl) rfl (Nat.le_of_ble_eq_true rfl) (Nat.le_of_ble_eq_true rfl) rfl (by omega) (by omega) (by omega) (fun x3 h2 hb => ?_)
    refine pz_cSi (M := mX9_year) (N := mX9_actSigns) (d' := 0) (bc1 := 0) (bs1 := 0) (bc2 := bc) (bs2 := bs) (pc' := 107) [.int x3] hb sX9_186 rfl (pz_dc dX9_year 57 rfl) rfl (Nat.le_of_ble_eq_true rfl) (Nat.le_of_ble_eq_true rfl) rfl (by omega) (by omega) (by omega) (fun x5 h4 hb => ?_)
    refine pz_iadd (pc' := 108) rfl (pz_dc dX9_year 58 rfl) ?_
    refine pz_istore (pc' := 110) (lv' := [(4, .int (l4 + x5)), (2, .int (l2 + ((1 : Int32)))), (3, .int s0), (0, .ref l0), (5, .int l5)]) rfl (pz_dc dX9_year 59 rfl) (by decide) rfl ?_
    refine pz_iinc (pc' := 113) (x := l5) (v := l5 + (1 : Int32)) (lv' := [(5, .int (l5 + (1 : Int32))), (4, .int (l4 + x5)), (2, .int (l2 + ((1 : Int32)))), (3, .int s0), (0, .ref l0)]) 4 rfl (pz_dc dX9_year 60 rfl) rfl rfl (by decide) rfl ?_
    refine pz_goto (pc' := 41) (pz_dc dX9_year 61 rfl) (by decide) ?_
    refine pz_lv (lv' := [(0, .ref l0), (2, .int (l2 + ((1 : Int32)))), (3, .int s0), (4, .int (l4 + x5)), (5, .int (l5 + (1 : Int32)))]) [4, 2, 3, 1, 0] rfl ?_
    exact hb
  · replace hb := hb.2 hc
    refine pz_iconst (pc' := 85) (v := 0) rfl (pz_dc dX9_year 46 rfl) ki_0 ?_
    refine pz_goto (pc' := 89) (pz_dc dX9_year 47 rfl) (by decide) ?_
    refine pz_iadd (pc' := 90) rfl (pz_dc dX9_year 49 rfl) ?_
    refine pz_istore_n (pc' := 91) (lv' := [(2, .int (l2 + ((0 : Int32)))), (3, .int s0), (0, .ref l0), (4, .int l4), (5, .int l5)]) rfl (pz_dc dX9_year 50 rfl) (by decide) rfl ?_
    refine pz_iload (pc' := 93) (x := l4) 3 rfl (pz_dc dX9_year 51 rfl) rfl ?_
    refine pz_aload_n (pc' := 94) (x := l0) 2 rfl (pz_dc dX9_year 52 rfl) rfl ?_
    refine pz_getR (M := mX9_year) hb fX9_10 (pc' := 97) rfl (pz_dc dX9_year 53 rfl) (fun a6 hb => ?_)
    refine pz_iload (pc' := 99) (x := l4) 3 rfl (pz_dc dX9_year 54 rfl) rfl ?_
    refine pz_bipush (pc' := 101) (v := 60) rfl (pz_dc dX9_year 55 rfl) kb_60 ?_
    refine pz_cVi (M := mX9_year) (N := mX6_at) (d' := 0) (bc1 := 0) (bs1 := 0) (bc2 := bc) (bs2 := bs) (pc' := 104) [.int l4, .int 60] hb vX9_182 rfl (pz_dc dX9_year 56 rfl) rfl (Nat.le_of_ble_eq_true rfl) (Nat.le_of_ble_eq_true rfl) rfl (by omega) (by omega) (by omega) (fun x8 h7 hb => ?_)
    refine pz_cSi (M := mX9_year) (N := mX9_actSigns) (d' := 0) (bc1 := 0) (bs1 := 0) (bc2 := bc) (bs2 := bs) (pc' := 107) [.int x8] hb sX9_186 rfl (pz_dc dX9_year 57 rfl) rfl (Nat.le_of_ble_eq_true rfl) (Nat.le_of_ble_eq_true rfl) rfl (by omega) (by omega) (by omega) (fun x10 h9 hb => ?_)
    refine pz_iadd (pc' := 108) rfl (pz_dc dX9_year 58 rfl) ?_
    refine pz_istore (pc' := 110) (lv' := [(4, .int (l4 + x10)), (2, .int (l2 + ((0 : Int32)))), (3, .int s0), (0, .ref l0), (5, .int l5)]) rfl (pz_dc dX9_year 59 rfl) (by decide) rfl ?_
    refine pz_iinc (pc' := 113) (x := l5) (v := l5 + (1 : Int32)) (lv' := [(5, .int (l5 + (1 : Int32))), (4, .int (l4 + x10)), (2, .int (l2 + ((0 : Int32)))), (3, .int s0), (0, .ref l0)]) 4 rfl (pz_dc dX9_year 60 rfl) rfl rfl (by decide) rfl ?_
    refine pz_goto (pc' := 41) (pz_dc dX9_year 61 rfl) (by decide) ?_
    refine pz_lv (lv' := [(0, .ref l0), (2, .int (l2 + ((0 : Int32)))), (3, .int s0), (4, .int (l4 + x10)), (5, .int (l5 + (1 : Int32)))]) [4, 2, 3, 1, 0] rfl ?_
    exact hb
set_option maxRecDepth 20000 in
set_option maxHeartbeats 4000000 in
theorem wX9_undo_0 {Ex : State → Nat → Prop} {Q : Option Value → pz_H → Prop} {d bc bs : Nat} {l0 : Nat}  {h : pz_H} (hD : 3 ≤ d) (hb : pz_gR h l0 9 6 (fun (a1 : Nat) => pz_gR h l0 9 3 (fun (a2 : Nat) => pz_is h a1 2 ∧ (pz_ki mX2_takeInto 2 0 0 (.ref a1 :: [.ref a2]) h (fun (x4 : Int32) (h3 : pz_H) => (x4 = 0 → Q (some (.int ((-1)))) h3) ∧ (¬ x4 = 0 → pz_gR h3 l0 9 6 (fun (a5 : Nat) => pz_is h3 a5 2 ∧ (pz_gI h3 a5 2 1 (fun (x6 : Int32) => Q (some (.int x6)) h3))))))))) : pz_V mX9_undo Ex Q d bc bs 0 [(0, .ref l0)] [] h := by
  refine pz_aload_n (pc' := 1) (x := l0) 0 rfl (pz_dc dX9_undo 0 rfl) rfl ?_
  refine pz_getR (M := mX9_undo) hb fX9_46 (pc' := 4) rfl (pz_dc dX9_undo 1 rfl) (fun a1 hb => ?_)
  refine pz_aload_n (pc' := 5) (x := l0) 0 rfl (pz_dc dX9_undo 2 rfl) rfl ?_
  refine pz_getR (M := mX9_undo) hb fX9_33 (pc' := 8) rfl (pz_dc dX9_undo 3 rfl) (fun a2 hb => ?_)
  refine pz_cVi (M := mX9_undo) (N := mX2_takeInto) (d' := 2) (bc1 := 0) (bs1 := 0) (bc2 := bc) (bs2 := bs) (pc' := 11) [.ref a2] hb vX9_191 rfl (pz_dc dX9_undo 4 rfl) rfl (Nat.le_of_ble_eq_true rfl) (Nat.le_of_ble_eq_true rfl) rfl (by omega) (by omega) (by omega) (fun x4 h3 hb => ?_)
  refine pz_if_eq (pc' := 14) (tgt := 24) rfl (pz_dc dX9_undo 5 rfl) (by decide) (fun hc => ?_) (fun hc => ?_)
  · replace hb := hb.1 hc
    refine pz_iconst (pc' := 25) (v := (-1)) rfl (pz_dc dX9_undo 10 rfl) ki_m1 ?_
    exact pz_iret (pz_dc dX9_undo 11 rfl) rfl hb
  · replace hb := hb.2 hc
    refine pz_aload_n (pc' := 15) (x := l0) 0 rfl (pz_dc dX9_undo 6 rfl) rfl ?_
    refine pz_getR (M := mX9_undo) hb fX9_46 (pc' := 18) rfl (pz_dc dX9_undo 7 rfl) (fun a5 hb => ?_)
    obtain ⟨⟨fs7, hf8⟩, hb⟩ := hb
    refine pz_callV (M := mX9_undo) (N := mX2_size) (d' := 0) (bc1 := 0) (bs1 := 0) (bc2 := bc) (bs2 := bs) (pc' := 21) [] vX9_195 rfl (pz_dc dX9_undo 8 rfl) rfl (Nat.le_of_ble_eq_true rfl) (Nat.le_of_ble_eq_true rfl) rfl (by omega) (by omega) (by omega) hf8 ?_
    refine pz_aload_n (pc' := 1) (x := a5) 0 rfl (pz_dc dX2_size 0 rfl) rfl ?_
    refine pz_getI (M := mX2_size) hb fX2_16 (pc' := 4) rfl (pz_dc dX2_size 1 rfl) (fun x6 hb => ?_)
    refine pz_iret (pz_dc dX2_size 2 rfl) rfl ?_
    show pz_V mX9_undo _ _ _ _ _ 21 [(0, .ref l0)] [.int x6] h3
    refine pz_goto (pc' := 25) (pz_dc dX9_undo 9 rfl) (by decide) ?_
    exact pz_iret (pz_dc dX9_undo 11 rfl) rfl hb
set_option maxRecDepth 20000 in
set_option maxHeartbeats 4000000 in
theorem wX9_later_0 {Ex : State → Nat → Prop} {Q : Option Value → pz_H → Prop} {d bc bs : Nat} {l0 : Nat} {l1 : Int32} {l2 : Int32}  {h : pz_H} (hD : 5 ≤ d) (hb : pz_gR h l0 9 2 (fun (a1 : Nat) => pz_is h a1 1 ∧ (pz_gI h a1 1 4 (fun (x2 : Int32) => ((eX1_has l1 x2) = 0 → Q (some (.int ((-1)))) h) ∧ (¬ (eX1_has l1 x2) = 0 → (¬ (eX9_isWithin l2 ((0 : Int32)) ((99 : Int32))) = 0 → pz_is h l0 9 ∧ (pz_kv mX9_startTrial 2 0 0 (.ref l0 :: []) h (fun (h6 : pz_H) => pz_gR h6 l0 9 2 (fun (a7 : Nat) => pz_gR h6 l0 9 5 (fun (a8 : Nat) => pz_gR h6 l0 9 12 (fun (a9 : Nat) => pz_is h6 a7 1 ∧ (pz_kv mX1_passDays 4 0 0 (.ref a7 :: [.ref a8, .ref a9, .int l2]) h6 (fun (h10 : pz_H) => pz_gR h10 l0 9 1 (fun (a11 : Nat) => pz_is h10 a11 4 ∧ (pz_pF h10 a11 4 1 (.int 0) (fun (h12 : pz_H) => pz_V mX9_later Ex Q d bc bs 52 [(0, .ref l0), (1, .int l1), (3, .int 0)] [] h12))))))))))) ∧ ((eX9_isWithin l2 ((0 : Int32)) ((99 : Int32))) = 0 → Q (some (.int ((-1)))) h)))))) : pz_V mX9_later Ex Q d bc bs 0 [(0, .ref l0), (1, .int l1), (2, .int l2)] [] h := by
  refine pz_aload_n (pc' := 1) (x := l0) 0 rfl (pz_dc dX9_later 0 rfl) rfl ?_
  refine pz_getR (M := mX9_later) hb fX9_26 (pc' := 4) rfl (pz_dc dX9_later 1 rfl) (fun a1 hb => ?_)
  refine pz_iload_n (pc' := 5) (x := l1) 1 rfl (pz_dc dX9_later 2 rfl) rfl ?_
  obtain ⟨⟨fs15, hf16⟩, hb⟩ := hb
  obtain ⟨fs3, x2, g4, g5, hb⟩ := hb
  refine pz_callV (M := mX9_later) (N := mX1_has) (d' := 0) (bc1 := 0) (bs1 := 0) (bc2 := bc) (bs2 := bs) (pc' := 8) [.int l1] vX9_115 rfl (pz_dc dX9_later 3 rfl) rfl (Nat.le_of_ble_eq_true rfl) (Nat.le_of_ble_eq_true rfl) rfl (by omega) (by omega) (by omega) hf16 ?_
  refine cX1_has ⟨fs3, x2, g4, g5, ?_⟩
  show pz_V mX9_later _ _ _ _ _ 8 [(0, .ref l0), (1, .int l1), (2, .int l2)] [.int (eX1_has l1 x2)] h
  refine pz_if_eq (pc' := 11) (tgt := 21) rfl (pz_dc dX9_later 4 rfl) (by decide) (fun hc => ?_) (fun hc => ?_)
  · replace hb := hb.1 hc
    refine pz_iconst (pc' := 22) (v := (-1)) rfl (pz_dc dX9_later 10 rfl) ki_m1 ?_
    exact pz_iret (pz_dc dX9_later 11 rfl) rfl hb
  · replace hb := hb.2 hc
    refine pz_iload_n (pc' := 12) (x := l2) 2 rfl (pz_dc dX9_later 5 rfl) rfl ?_
    refine pz_iconst (pc' := 13) (v := 0) rfl (pz_dc dX9_later 6 rfl) ki_0 ?_
    refine pz_bipush (pc' := 15) (v := 99) rfl (pz_dc dX9_later 7 rfl) kb_99 ?_
    refine pz_callS (M := mX9_later) (N := mX9_isWithin) (d' := 0) (bc1 := 0) (bs1 := 0) (bc2 := bc) (bs2 := bs) (pc' := 18) [.int l2, .int 0, .int 99] sX9_196 rfl (pz_dc dX9_later 8 rfl) rfl (Nat.le_of_ble_eq_true rfl) (Nat.le_of_ble_eq_true rfl) rfl (by omega) (by omega) (by omega) ?_
    refine cX9_isWithin ?_
    show pz_V mX9_later _ _ _ _ _ 18 [(0, .ref l0), (1, .int l1), (2, .int l2)] [.int (eX9_isWithin l2 ((0 : Int32)) ((99 : Int32)))] h
    refine pz_if_ne (pc' := 21) (tgt := 23) rfl (pz_dc dX9_later 9 rfl) (by decide) (fun hc => ?_) (fun hc => ?_)
    · replace hb := hb.1 hc
      refine pz_aload_n (pc' := 24) (x := l0) 0 rfl (pz_dc dX9_later 12 rfl) rfl ?_
      refine pz_cVv (M := mX9_later) (N := mX9_startTrial) (d' := 2) (bc1 := 0) (bs1 := 0) (bc2 := bc) (bs2 := bs) (pc' := 27) [] hb vX9_200 rfl (pz_dc dX9_later 13 rfl) rfl (Nat.le_of_ble_eq_true rfl) (Nat.le_of_ble_eq_true rfl) rfl (by omega) (by omega) (by omega) (fun h6 hb => ?_)
      refine pz_aload_n (pc' := 28) (x := l0) 0 rfl (pz_dc dX9_later 14 rfl) rfl ?_
      refine pz_getR (M := mX9_later) hb fX9_26 (pc' := 31) rfl (pz_dc dX9_later 15 rfl) (fun a7 hb => ?_)
      refine pz_aload_n (pc' := 32) (x := l0) 0 rfl (pz_dc dX9_later 16 rfl) rfl ?_
      refine pz_getR (M := mX9_later) hb fX9_40 (pc' := 35) rfl (pz_dc dX9_later 17 rfl) (fun a8 hb => ?_)
      refine pz_aload_n (pc' := 36) (x := l0) 0 rfl (pz_dc dX9_later 18 rfl) rfl ?_
      refine pz_getR (M := mX9_later) hb fX9_78 (pc' := 39) rfl (pz_dc dX9_later 19 rfl) (fun a9 hb => ?_)
      refine pz_iload_n (pc' := 40) (x := l2) 2 rfl (pz_dc dX9_later 20 rfl) rfl ?_
      refine pz_cVv (M := mX9_later) (N := mX1_passDays) (d' := 4) (bc1 := 0) (bs1 := 0) (bc2 := bc) (bs2 := bs) (pc' := 43) [.ref a8, .ref a9, .int l2] hb vX9_203 rfl (pz_dc dX9_later 21 rfl) rfl (Nat.le_of_ble_eq_true rfl) (Nat.le_of_ble_eq_true rfl) rfl (by omega) (by omega) (by omega) (fun h10 hb => ?_)
      refine pz_aload_n (pc' := 44) (x := l0) 0 rfl (pz_dc dX9_later 22 rfl) rfl ?_
      refine pz_getR (M := mX9_later) hb fX9_19 (pc' := 47) rfl (pz_dc dX9_later 23 rfl) (fun a11 hb => ?_)
      obtain ⟨⟨fs13, hf14⟩, hb⟩ := hb
      refine pz_callV (M := mX9_later) (N := mX4_clear) (d' := 0) (bc1 := 0) (bs1 := 0) (bc2 := bc) (bs2 := bs) (pc' := 50) [] vX9_207 rfl (pz_dc dX9_later 24 rfl) rfl (Nat.le_of_ble_eq_true rfl) (Nat.le_of_ble_eq_true rfl) rfl (by omega) (by omega) (by omega) hf14 ?_
      refine pz_aload_n (pc' := 1) (x := a11) 0 rfl (pz_dc dX4_clear 0 rfl) rfl ?_
      refine pz_iconst (pc' := 2) (v := 0) rfl (pz_dc dX4_clear 1 rfl) ki_0 ?_
      refine pz_putv (M := mX4_clear) hb (pX4_15 _ rfl) rfl rfl (pc' := 5) rfl (pz_dc dX4_clear 2 rfl) (fun h12 hb => ?_)
      refine pz_vret (pz_dc dX4_clear 3 rfl) rfl ?_
      show pz_V mX9_later _ _ _ _ _ 50 [(0, .ref l0), (1, .int l1), (2, .int l2)] [] h12
      refine pz_iconst (pc' := 51) (v := 0) rfl (pz_dc dX9_later 25 rfl) ki_0 ?_
      refine pz_istore_n (pc' := 52) (lv' := [(3, .int 0), (0, .ref l0), (1, .int l1), (2, .int l2)]) rfl (pz_dc dX9_later 26 rfl) (by decide) rfl ?_
      refine pz_lv (lv' := [(0, .ref l0), (1, .int l1), (3, .int 0)]) [1, 2, 0] rfl ?_
      exact hb
    · replace hb := hb.2 hc
      refine pz_iconst (pc' := 22) (v := (-1)) rfl (pz_dc dX9_later 10 rfl) ki_m1 ?_
      exact pz_iret (pz_dc dX9_later 11 rfl) rfl hb
set_option maxRecDepth 20000 in
set_option maxHeartbeats 4000000 in
theorem wX9_later_52 {Ex : State → Nat → Prop} {Q : Option Value → pz_H → Prop} {d bc bs : Nat} {l0 : Nat} {l1 : Int32} {l3 : Int32}  {h : pz_H} (hD : 5 ≤ d) (hb : pz_gR h l0 9 2 (fun (a1 : Nat) => pz_is h a1 1 ∧ (pz_gI h a1 1 4 (fun (x2 : Int32) => (x2 ≤ l3 → pz_gR h l0 9 5 (fun (a3 : Nat) => pz_gR h a3 8 0 (fun (a4 : Nat) => pz_rI h a4 l1 (fun (x5 : Int32) => Q (some (.int x5)) h)))) ∧ (¬ x2 ≤ l3 → pz_gR h l0 9 1 (fun (a6 : Nat) => pz_gR h l0 9 5 (fun (a7 : Nat) => pz_gR h a7 8 0 (fun (a8 : Nat) => pz_rI h a8 l3 (fun (x9 : Int32) => pz_is h a6 4 ∧ (pz_kv mX4_add 0 0 0 (.ref a6 :: [.long x9.toInt64]) h (fun (h10 : pz_H) => pz_V mX9_later Ex Q d bc bs 52 [(0, .ref l0), (1, .int l1), (3, .int (l3 + (1 : Int32)))] [] h10))))))))))) : pz_V mX9_later Ex Q d bc bs 52 [(0, .ref l0), (1, .int l1), (3, .int l3)] [] h := by
  refine pz_iload_n (pc' := 53) (x := l3) 2 rfl (pz_dc dX9_later 27 rfl) rfl ?_
  refine pz_aload_n (pc' := 54) (x := l0) 0 rfl (pz_dc dX9_later 28 rfl) rfl ?_
  refine pz_getR (M := mX9_later) hb fX9_26 (pc' := 57) rfl (pz_dc dX9_later 29 rfl) (fun a1 hb => ?_)
  obtain ⟨⟨fs11, hf12⟩, hb⟩ := hb
  refine pz_callV (M := mX9_later) (N := mX1_size) (d' := 0) (bc1 := 0) (bs1 := 0) (bc2 := bc) (bs2 := bs) (pc' := 60) [] vX9_208 rfl (pz_dc dX9_later 30 rfl) rfl (Nat.le_of_ble_eq_true rfl) (Nat.le_of_ble_eq_true rfl) rfl (by omega) (by omega) (by omega) hf12 ?_
  refine pz_aload_n (pc' := 1) (x := a1) 0 rfl (pz_dc dX1_size 0 rfl) rfl ?_
  refine pz_getI (M := mX1_size) hb fX1_24 (pc' := 4) rfl (pz_dc dX1_size 1 rfl) (fun x2 hb => ?_)
  refine pz_iret (pz_dc dX1_size 2 rfl) rfl ?_
  show pz_V mX9_later _ _ _ _ _ 60 [(0, .ref l0), (1, .int l1), (3, .int l3)] [.int x2, .int l3] h
  refine pz_icmp_ge (pc' := 63) (tgt := 86) rfl (pz_dc dX9_later 31 rfl) (by decide) (fun hc => ?_) (fun hc => ?_)
  · replace hb := hb.1 hc
    refine pz_aload_n (pc' := 87) (x := l0) 0 rfl (pz_dc dX9_later 43 rfl) rfl ?_
    refine pz_getR (M := mX9_later) hb fX9_40 (pc' := 90) rfl (pz_dc dX9_later 44 rfl) (fun a3 hb => ?_)
    refine pz_getR (M := mX9_later) hb fX9_136 (pc' := 93) rfl (pz_dc dX9_later 45 rfl) (fun a4 hb => ?_)
    refine pz_iload_n (pc' := 94) (x := l1) 1 rfl (pz_dc dX9_later 46 rfl) rfl ?_
    refine pz_ldI hb (pc' := 95) rfl (pz_dc dX9_later 47 rfl) (fun x5 hb => ?_)
    exact pz_iret (pz_dc dX9_later 48 rfl) rfl hb
  · replace hb := hb.2 hc
    refine pz_aload_n (pc' := 64) (x := l0) 0 rfl (pz_dc dX9_later 32 rfl) rfl ?_
    refine pz_getR (M := mX9_later) hb fX9_19 (pc' := 67) rfl (pz_dc dX9_later 33 rfl) (fun a6 hb => ?_)
    refine pz_aload_n (pc' := 68) (x := l0) 0 rfl (pz_dc dX9_later 34 rfl) rfl ?_
    refine pz_getR (M := mX9_later) hb fX9_40 (pc' := 71) rfl (pz_dc dX9_later 35 rfl) (fun a7 hb => ?_)
    refine pz_getR (M := mX9_later) hb fX9_136 (pc' := 74) rfl (pz_dc dX9_later 36 rfl) (fun a8 hb => ?_)
    refine pz_iload_n (pc' := 75) (x := l3) 2 rfl (pz_dc dX9_later 37 rfl) rfl ?_
    refine pz_ldI hb (pc' := 76) rfl (pz_dc dX9_later 38 rfl) (fun x9 hb => ?_)
    refine pz_i2l (pc' := 77) rfl (pz_dc dX9_later 39 rfl) ?_
    refine pz_cVv (M := mX9_later) (N := mX4_add) (d' := 0) (bc1 := 0) (bs1 := 0) (bc2 := bc) (bs2 := bs) (pc' := 80) [.long x9.toInt64] hb vX9_209 rfl (pz_dc dX9_later 40 rfl) rfl (Nat.le_of_ble_eq_true rfl) (Nat.le_of_ble_eq_true rfl) rfl (by omega) (by omega) (by omega) (fun h10 hb => ?_)
    refine pz_iinc (pc' := 83) (x := l3) (v := l3 + (1 : Int32)) (lv' := [(3, .int (l3 + (1 : Int32))), (0, .ref l0), (1, .int l1)]) 2 rfl (pz_dc dX9_later 41 rfl) rfl rfl (by decide) rfl ?_
    refine pz_goto (pc' := 52) (pz_dc dX9_later 42 rfl) (by decide) ?_
    refine pz_lv (lv' := [(0, .ref l0), (1, .int l1), (3, .int (l3 + (1 : Int32)))]) [1, 2, 0] rfl ?_
    exact hb
set_option maxRecDepth 20000 in
set_option maxHeartbeats 4000000 in
theorem wX9_dries_0 {Ex : State → Nat → Prop} {Q : Option Value → pz_H → Prop} {d bc bs : Nat} {l0 : Nat} {l1 : Int32}  {h : pz_H} (hD : 4 ≤ d) (hb : pz_gR h l0 9 2 (fun (a1 : Nat) => pz_is h a1 1 ∧ (pz_gI h a1 1 4 (fun (x2 : Int32) => (¬ (eX1_has l1 x2) = 0 → pz_is h l0 9 ∧ (pz_kv mX9_startTrial 2 0 0 (.ref l0 :: []) h (fun (h6 : pz_H) => pz_V mX9_dries Ex Q d bc bs 19 [(0, .ref l0), (1, .int l1), (2, .int 0)] [] h6))) ∧ ((eX1_has l1 x2) = 0 → Q (some (.int ((-1)))) h))))) : pz_V mX9_dries Ex Q d bc bs 0 [(0, .ref l0), (1, .int l1)] [] h := by
  refine pz_aload_n (pc' := 1) (x := l0) 0 rfl (pz_dc dX9_dries 0 rfl) rfl ?_
  refine pz_getR (M := mX9_dries) hb fX9_26 (pc' := 4) rfl (pz_dc dX9_dries 1 rfl) (fun a1 hb => ?_)
  refine pz_iload_n (pc' := 5) (x := l1) 1 rfl (pz_dc dX9_dries 2 rfl) rfl ?_
  obtain ⟨⟨fs7, hf8⟩, hb⟩ := hb
  obtain ⟨fs3, x2, g4, g5, hb⟩ := hb
  refine pz_callV (M := mX9_dries) (N := mX1_has) (d' := 0) (bc1 := 0) (bs1 := 0) (bc2 := bc) (bs2 := bs) (pc' := 8) [.int l1] vX9_115 rfl (pz_dc dX9_dries 3 rfl) rfl (Nat.le_of_ble_eq_true rfl) (Nat.le_of_ble_eq_true rfl) rfl (by omega) (by omega) (by omega) hf8 ?_
  refine cX1_has ⟨fs3, x2, g4, g5, ?_⟩
  show pz_V mX9_dries _ _ _ _ _ 8 [(0, .ref l0), (1, .int l1)] [.int (eX1_has l1 x2)] h
  refine pz_if_ne (pc' := 11) (tgt := 13) rfl (pz_dc dX9_dries 4 rfl) (by decide) (fun hc => ?_) (fun hc => ?_)
  · replace hb := hb.1 hc
    refine pz_aload_n (pc' := 14) (x := l0) 0 rfl (pz_dc dX9_dries 7 rfl) rfl ?_
    refine pz_cVv (M := mX9_dries) (N := mX9_startTrial) (d' := 2) (bc1 := 0) (bs1 := 0) (bc2 := bc) (bs2 := bs) (pc' := 17) [] hb vX9_200 rfl (pz_dc dX9_dries 8 rfl) rfl (Nat.le_of_ble_eq_true rfl) (Nat.le_of_ble_eq_true rfl) rfl (by omega) (by omega) (by omega) (fun h6 hb => ?_)
    refine pz_iconst (pc' := 18) (v := 0) rfl (pz_dc dX9_dries 9 rfl) ki_0 ?_
    refine pz_istore_n (pc' := 19) (lv' := [(2, .int 0), (0, .ref l0), (1, .int l1)]) rfl (pz_dc dX9_dries 10 rfl) (by decide) rfl ?_
    refine pz_lv (lv' := [(0, .ref l0), (1, .int l1), (2, .int 0)]) [1, 2, 0] rfl ?_
    exact hb
  · replace hb := hb.2 hc
    refine pz_iconst (pc' := 12) (v := (-1)) rfl (pz_dc dX9_dries 5 rfl) ki_m1 ?_
    exact pz_iret (pz_dc dX9_dries 6 rfl) rfl hb
set_option maxRecDepth 20000 in
set_option maxHeartbeats 4000000 in
theorem wX9_dries_19 {Ex : State → Nat → Prop} {Q : Option Value → pz_H → Prop} {d bc bs : Nat} {l0 : Nat} {l1 : Int32} {l2 : Int32}  {h : pz_H} (hD : 4 ≤ d) (hb : (((99 : Int32)) < l2 → Q (some (.int ((-2)))) h) ∧ (¬ ((99 : Int32)) < l2 → pz_gR h l0 9 5 (fun (a1 : Nat) => pz_gR h a1 8 0 (fun (a2 : Nat) => pz_rI h a2 l1 (fun (x3 : Int32) => (¬ x3 = 0 → pz_gR h l0 9 2 (fun (a4 : Nat) => pz_gR h l0 9 5 (fun (a5 : Nat) => pz_gR h l0 9 12 (fun (a6 : Nat) => pz_is h a4 1 ∧ (pz_kv mX1_passDay 3 0 0 (.ref a4 :: [.ref a5, .ref a6]) h (fun (h7 : pz_H) => pz_V mX9_dries Ex Q d bc bs 19 [(0, .ref l0), (1, .int l1), (2, .int (l2 + (1 : Int32)))] [] h7)))))) ∧ (x3 = 0 → pz_gR h l0 9 1 (fun (a8 : Nat) => pz_gR h l0 9 2 (fun (a9 : Nat) => pz_gR h l0 9 5 (fun (a10 : Nat) => pz_is h a9 1 ∧ (pz_ki mX1_total 2 0 0 (.ref a9 :: [.ref a10]) h (fun (x12 : Int32) (h11 : pz_H) => pz_is h11 a8 4 ∧ (pz_kv mX4_tell 1 0 0 (.ref a8 :: [.long x12.toInt64]) h11 (fun (h13 : pz_H) => Q (some (.int l2)) h13))))))))))))) : pz_V mX9_dries Ex Q d bc bs 19 [(0, .ref l0), (1, .int l1), (2, .int l2)] [] h := by
  refine pz_iload_n (pc' := 20) (x := l2) 2 rfl (pz_dc dX9_dries 11 rfl) rfl ?_
  refine pz_bipush (pc' := 22) (v := 99) rfl (pz_dc dX9_dries 12 rfl) kb_99 ?_
  refine pz_icmp_gt (pc' := 25) (tgt := 79) rfl (pz_dc dX9_dries 13 rfl) (by decide) (fun hc => ?_) (fun hc => ?_)
  · replace hb := hb.1 hc
    refine pz_bipush (pc' := 81) (v := (-2)) rfl (pz_dc dX9_dries 40 rfl) kb_m2 ?_
    exact pz_iret (pz_dc dX9_dries 41 rfl) rfl hb
  · replace hb := hb.2 hc
    refine pz_aload_n (pc' := 26) (x := l0) 0 rfl (pz_dc dX9_dries 14 rfl) rfl ?_
    refine pz_getR (M := mX9_dries) hb fX9_40 (pc' := 29) rfl (pz_dc dX9_dries 15 rfl) (fun a1 hb => ?_)
    refine pz_getR (M := mX9_dries) hb fX9_136 (pc' := 32) rfl (pz_dc dX9_dries 16 rfl) (fun a2 hb => ?_)
    refine pz_iload_n (pc' := 33) (x := l1) 1 rfl (pz_dc dX9_dries 17 rfl) rfl ?_
    refine pz_ldI hb (pc' := 34) rfl (pz_dc dX9_dries 18 rfl) (fun x3 hb => ?_)
    refine pz_if_ne (pc' := 37) (tgt := 58) rfl (pz_dc dX9_dries 19 rfl) (by decide) (fun hc => ?_) (fun hc => ?_)
    · replace hb := hb.1 hc
      refine pz_aload_n (pc' := 59) (x := l0) 0 rfl (pz_dc dX9_dries 31 rfl) rfl ?_
      refine pz_getR (M := mX9_dries) hb fX9_26 (pc' := 62) rfl (pz_dc dX9_dries 32 rfl) (fun a4 hb => ?_)
      refine pz_aload_n (pc' := 63) (x := l0) 0 rfl (pz_dc dX9_dries 33 rfl) rfl ?_
      refine pz_getR (M := mX9_dries) hb fX9_40 (pc' := 66) rfl (pz_dc dX9_dries 34 rfl) (fun a5 hb => ?_)
      refine pz_aload_n (pc' := 67) (x := l0) 0 rfl (pz_dc dX9_dries 35 rfl) rfl ?_
      refine pz_getR (M := mX9_dries) hb fX9_78 (pc' := 70) rfl (pz_dc dX9_dries 36 rfl) (fun a6 hb => ?_)
      refine pz_cVv (M := mX9_dries) (N := mX1_passDay) (d' := 3) (bc1 := 0) (bs1 := 0) (bc2 := bc) (bs2 := bs) (pc' := 73) [.ref a5, .ref a6] hb vX9_214 rfl (pz_dc dX9_dries 37 rfl) rfl (Nat.le_of_ble_eq_true rfl) (Nat.le_of_ble_eq_true rfl) rfl (by omega) (by omega) (by omega) (fun h7 hb => ?_)
      refine pz_iinc (pc' := 76) (x := l2) (v := l2 + (1 : Int32)) (lv' := [(2, .int (l2 + (1 : Int32))), (0, .ref l0), (1, .int l1)]) 2 rfl (pz_dc dX9_dries 38 rfl) rfl rfl (by decide) rfl ?_
      refine pz_goto (pc' := 19) (pz_dc dX9_dries 39 rfl) (by decide) ?_
      refine pz_lv (lv' := [(0, .ref l0), (1, .int l1), (2, .int (l2 + (1 : Int32)))]) [1, 2, 0] rfl ?_
      exact hb
    · replace hb := hb.2 hc
      refine pz_aload_n (pc' := 38) (x := l0) 0 rfl (pz_dc dX9_dries 20 rfl) rfl ?_
      refine pz_getR (M := mX9_dries) hb fX9_19 (pc' := 41) rfl (pz_dc dX9_dries 21 rfl) (fun a8 hb => ?_)
      refine pz_aload_n (pc' := 42) (x := l0) 0 rfl (pz_dc dX9_dries 22 rfl) rfl ?_
      refine pz_getR (M := mX9_dries) hb fX9_26 (pc' := 45) rfl (pz_dc dX9_dries 23 rfl) (fun a9 hb => ?_)
      refine pz_aload_n (pc' := 46) (x := l0) 0 rfl (pz_dc dX9_dries 24 rfl) rfl ?_
      refine pz_getR (M := mX9_dries) hb fX9_40 (pc' := 49) rfl (pz_dc dX9_dries 25 rfl) (fun a10 hb => ?_)
      refine pz_cVi (M := mX9_dries) (N := mX1_total) (d' := 2) (bc1 := 0) (bs1 := 0) (bc2 := bc) (bs2 := bs) (pc' := 52) [.ref a10] hb vX9_153 rfl (pz_dc dX9_dries 26 rfl) rfl (Nat.le_of_ble_eq_true rfl) (Nat.le_of_ble_eq_true rfl) rfl (by omega) (by omega) (by omega) (fun x12 h11 hb => ?_)
      refine pz_i2l (pc' := 53) rfl (pz_dc dX9_dries 27 rfl) ?_
      refine pz_cVv (M := mX9_dries) (N := mX4_tell) (d' := 1) (bc1 := 0) (bs1 := 0) (bc2 := bc) (bs2 := bs) (pc' := 56) [.long x12.toInt64] hb vX9_212 rfl (pz_dc dX9_dries 28 rfl) rfl (Nat.le_of_ble_eq_true rfl) (Nat.le_of_ble_eq_true rfl) rfl (by omega) (by omega) (by omega) (fun h13 hb => ?_)
      refine pz_iload_n (pc' := 57) (x := l2) 2 rfl (pz_dc dX9_dries 29 rfl) rfl ?_
      exact pz_iret (pz_dc dX9_dries 30 rfl) rfl hb
set_option maxRecDepth 20000 in
set_option maxHeartbeats 4000000 in
theorem wX9_brims_0 {Ex : State → Nat → Prop} {Q : Option Value → pz_H → Prop} {d bc bs : Nat} {l0 : Nat} {l1 : Int32}  {h : pz_H} (hD : 4 ≤ d) (hb : pz_gR h l0 9 2 (fun (a1 : Nat) => pz_is h a1 1 ∧ (pz_gI h a1 1 4 (fun (x2 : Int32) => (¬ (eX1_has l1 x2) = 0 → pz_is h l0 9 ∧ (pz_kv mX9_startTrial 2 0 0 (.ref l0 :: []) h (fun (h6 : pz_H) => pz_V mX9_brims Ex Q d bc bs 19 [(0, .ref l0), (1, .int l1), (2, .int 0)] [] h6))) ∧ ((eX1_has l1 x2) = 0 → Q (some (.int ((-1)))) h))))) : pz_V mX9_brims Ex Q d bc bs 0 [(0, .ref l0), (1, .int l1)] [] h := by
  refine pz_aload_n (pc' := 1) (x := l0) 0 rfl (pz_dc dX9_brims 0 rfl) rfl ?_
  refine pz_getR (M := mX9_brims) hb fX9_26 (pc' := 4) rfl (pz_dc dX9_brims 1 rfl) (fun a1 hb => ?_)
  refine pz_iload_n (pc' := 5) (x := l1) 1 rfl (pz_dc dX9_brims 2 rfl) rfl ?_
  obtain ⟨⟨fs7, hf8⟩, hb⟩ := hb
  obtain ⟨fs3, x2, g4, g5, hb⟩ := hb
  refine pz_callV (M := mX9_brims) (N := mX1_has) (d' := 0) (bc1 := 0) (bs1 := 0) (bc2 := bc) (bs2 := bs) (pc' := 8) [.int l1] vX9_115 rfl (pz_dc dX9_brims 3 rfl) rfl (Nat.le_of_ble_eq_true rfl) (Nat.le_of_ble_eq_true rfl) rfl (by omega) (by omega) (by omega) hf8 ?_
  refine cX1_has ⟨fs3, x2, g4, g5, ?_⟩
  show pz_V mX9_brims _ _ _ _ _ 8 [(0, .ref l0), (1, .int l1)] [.int (eX1_has l1 x2)] h
  refine pz_if_ne (pc' := 11) (tgt := 13) rfl (pz_dc dX9_brims 4 rfl) (by decide) (fun hc => ?_) (fun hc => ?_)
  · replace hb := hb.1 hc
    refine pz_aload_n (pc' := 14) (x := l0) 0 rfl (pz_dc dX9_brims 7 rfl) rfl ?_
    refine pz_cVv (M := mX9_brims) (N := mX9_startTrial) (d' := 2) (bc1 := 0) (bs1 := 0) (bc2 := bc) (bs2 := bs) (pc' := 17) [] hb vX9_200 rfl (pz_dc dX9_brims 8 rfl) rfl (Nat.le_of_ble_eq_true rfl) (Nat.le_of_ble_eq_true rfl) rfl (by omega) (by omega) (by omega) (fun h6 hb => ?_)
    refine pz_iconst (pc' := 18) (v := 0) rfl (pz_dc dX9_brims 9 rfl) ki_0 ?_
    refine pz_istore_n (pc' := 19) (lv' := [(2, .int 0), (0, .ref l0), (1, .int l1)]) rfl (pz_dc dX9_brims 10 rfl) (by decide) rfl ?_
    refine pz_lv (lv' := [(0, .ref l0), (1, .int l1), (2, .int 0)]) [1, 2, 0] rfl ?_
    exact hb
  · replace hb := hb.2 hc
    refine pz_iconst (pc' := 12) (v := (-1)) rfl (pz_dc dX9_brims 5 rfl) ki_m1 ?_
    exact pz_iret (pz_dc dX9_brims 6 rfl) rfl hb
set_option maxRecDepth 20000 in
set_option maxHeartbeats 4000000 in
theorem wX9_brims_19 {Ex : State → Nat → Prop} {Q : Option Value → pz_H → Prop} {d bc bs : Nat} {l0 : Nat} {l1 : Int32} {l2 : Int32}  {h : pz_H} (hD : 4 ≤ d) (hb : (((99 : Int32)) < l2 → Q (some (.int ((-2)))) h) ∧ (¬ ((99 : Int32)) < l2 → pz_gR h l0 9 5 (fun (a1 : Nat) => pz_gR h a1 8 0 (fun (a2 : Nat) => pz_rI h a2 l1 (fun (x3 : Int32) => pz_gR h l0 9 2 (fun (a4 : Nat) => pz_gR h a4 1 0 (fun (a5 : Nat) => pz_rI h a5 l1 (fun (x6 : Int32) => (¬ x3 = x6 → pz_gR h l0 9 2 (fun (a7 : Nat) => pz_gR h l0 9 5 (fun (a8 : Nat) => pz_gR h l0 9 12 (fun (a9 : Nat) => pz_is h a7 1 ∧ (pz_kv mX1_passDay 3 0 0 (.ref a7 :: [.ref a8, .ref a9]) h (fun (h10 : pz_H) => pz_V mX9_brims Ex Q d bc bs 19 [(0, .ref l0), (1, .int l1), (2, .int (l2 + (1 : Int32)))] [] h10)))))) ∧ (x3 = x6 → pz_gR h l0 9 1 (fun (a11 : Nat) => pz_gR h l0 9 5 (fun (a12 : Nat) => pz_gI h a12 8 7 (fun (x13 : Int32) => pz_gR h l0 9 3 (fun (a14 : Nat) => pz_gI h a14 8 7 (fun (x15 : Int32) => pz_is h a11 4 ∧ (pz_kv mX4_tell 1 0 0 (.ref a11 :: [.long ((x13 - x15).toInt64)]) h (fun (h16 : pz_H) => Q (some (.int l2)) h16)))))))))))))))) : pz_V mX9_brims Ex Q d bc bs 19 [(0, .ref l0), (1, .int l1), (2, .int l2)] [] h := by
  refine pz_iload_n (pc' := 20) (x := l2) 2 rfl (pz_dc dX9_brims 11 rfl) rfl ?_
  refine pz_bipush (pc' := 22) (v := 99) rfl (pz_dc dX9_brims 12 rfl) kb_99 ?_
  refine pz_icmp_gt (pc' := 25) (tgt := 92) rfl (pz_dc dX9_brims 13 rfl) (by decide) (fun hc => ?_) (fun hc => ?_)
  · replace hb := hb.1 hc
    refine pz_bipush (pc' := 94) (v := (-2)) rfl (pz_dc dX9_brims 47 rfl) kb_m2 ?_
    exact pz_iret (pz_dc dX9_brims 48 rfl) rfl hb
  · replace hb := hb.2 hc
    refine pz_aload_n (pc' := 26) (x := l0) 0 rfl (pz_dc dX9_brims 14 rfl) rfl ?_
    refine pz_getR (M := mX9_brims) hb fX9_40 (pc' := 29) rfl (pz_dc dX9_brims 15 rfl) (fun a1 hb => ?_)
    refine pz_getR (M := mX9_brims) hb fX9_136 (pc' := 32) rfl (pz_dc dX9_brims 16 rfl) (fun a2 hb => ?_)
    refine pz_iload_n (pc' := 33) (x := l1) 1 rfl (pz_dc dX9_brims 17 rfl) rfl ?_
    refine pz_ldI hb (pc' := 34) rfl (pz_dc dX9_brims 18 rfl) (fun x3 hb => ?_)
    refine pz_aload_n (pc' := 35) (x := l0) 0 rfl (pz_dc dX9_brims 19 rfl) rfl ?_
    refine pz_getR (M := mX9_brims) hb fX9_26 (pc' := 38) rfl (pz_dc dX9_brims 20 rfl) (fun a4 hb => ?_)
    refine pz_getR (M := mX9_brims) hb fX9_121 (pc' := 41) rfl (pz_dc dX9_brims 21 rfl) (fun a5 hb => ?_)
    refine pz_iload_n (pc' := 42) (x := l1) 1 rfl (pz_dc dX9_brims 22 rfl) rfl ?_
    refine pz_ldI hb (pc' := 43) rfl (pz_dc dX9_brims 23 rfl) (fun x6 hb => ?_)
    refine pz_icmp_ne (pc' := 46) (tgt := 71) rfl (pz_dc dX9_brims 24 rfl) (by decide) (fun hc => ?_) (fun hc => ?_)
    · replace hb := hb.1 hc
      refine pz_aload_n (pc' := 72) (x := l0) 0 rfl (pz_dc dX9_brims 38 rfl) rfl ?_
      refine pz_getR (M := mX9_brims) hb fX9_26 (pc' := 75) rfl (pz_dc dX9_brims 39 rfl) (fun a7 hb => ?_)
      refine pz_aload_n (pc' := 76) (x := l0) 0 rfl (pz_dc dX9_brims 40 rfl) rfl ?_
      refine pz_getR (M := mX9_brims) hb fX9_40 (pc' := 79) rfl (pz_dc dX9_brims 41 rfl) (fun a8 hb => ?_)
      refine pz_aload_n (pc' := 80) (x := l0) 0 rfl (pz_dc dX9_brims 42 rfl) rfl ?_
      refine pz_getR (M := mX9_brims) hb fX9_78 (pc' := 83) rfl (pz_dc dX9_brims 43 rfl) (fun a9 hb => ?_)
      refine pz_cVv (M := mX9_brims) (N := mX1_passDay) (d' := 3) (bc1 := 0) (bs1 := 0) (bc2 := bc) (bs2 := bs) (pc' := 86) [.ref a8, .ref a9] hb vX9_214 rfl (pz_dc dX9_brims 44 rfl) rfl (Nat.le_of_ble_eq_true rfl) (Nat.le_of_ble_eq_true rfl) rfl (by omega) (by omega) (by omega) (fun h10 hb => ?_)
      refine pz_iinc (pc' := 89) (x := l2) (v := l2 + (1 : Int32)) (lv' := [(2, .int (l2 + (1 : Int32))), (0, .ref l0), (1, .int l1)]) 2 rfl (pz_dc dX9_brims 45 rfl) rfl rfl (by decide) rfl ?_
      refine pz_goto (pc' := 19) (pz_dc dX9_brims 46 rfl) (by decide) ?_
      refine pz_lv (lv' := [(0, .ref l0), (1, .int l1), (2, .int (l2 + (1 : Int32)))]) [1, 2, 0] rfl ?_
      exact hb
    · replace hb := hb.2 hc
      refine pz_aload_n (pc' := 47) (x := l0) 0 rfl (pz_dc dX9_brims 25 rfl) rfl ?_
      refine pz_getR (M := mX9_brims) hb fX9_19 (pc' := 50) rfl (pz_dc dX9_brims 26 rfl) (fun a11 hb => ?_)
      refine pz_aload_n (pc' := 51) (x := l0) 0 rfl (pz_dc dX9_brims 27 rfl) rfl ?_
      refine pz_getR (M := mX9_brims) hb fX9_40 (pc' := 54) rfl (pz_dc dX9_brims 28 rfl) (fun a12 hb => ?_)
      refine pz_getI (M := mX9_brims) hb fX9_161 (pc' := 57) rfl (pz_dc dX9_brims 29 rfl) (fun x13 hb => ?_)
      refine pz_aload_n (pc' := 58) (x := l0) 0 rfl (pz_dc dX9_brims 30 rfl) rfl ?_
      refine pz_getR (M := mX9_brims) hb fX9_33 (pc' := 61) rfl (pz_dc dX9_brims 31 rfl) (fun a14 hb => ?_)
      refine pz_getI (M := mX9_brims) hb fX9_161 (pc' := 64) rfl (pz_dc dX9_brims 32 rfl) (fun x15 hb => ?_)
      refine pz_isub (pc' := 65) rfl (pz_dc dX9_brims 33 rfl) ?_
      refine pz_i2l (pc' := 66) rfl (pz_dc dX9_brims 34 rfl) ?_
      refine pz_cVv (M := mX9_brims) (N := mX4_tell) (d' := 1) (bc1 := 0) (bs1 := 0) (bc2 := bc) (bs2 := bs) (pc' := 69) [.long ((x13 - x15).toInt64)] hb vX9_212 rfl (pz_dc dX9_brims 35 rfl) rfl (Nat.le_of_ble_eq_true rfl) (Nat.le_of_ble_eq_true rfl) rfl (by omega) (by omega) (by omega) (fun h16 hb => ?_)
      refine pz_iload_n (pc' := 70) (x := l2) 2 rfl (pz_dc dX9_brims 36 rfl) rfl ?_
      exact pz_iret (pz_dc dX9_brims 37 rfl) rfl hb
set_option maxRecDepth 20000 in
set_option maxHeartbeats 4000000 in
theorem wX9_marks_0 {Ex : State → Nat → Prop} {Q : Option Value → pz_H → Prop} {d bc bs : Nat} {l0 : Nat} {l1 : Int32} {l2 : Int32}  {h : pz_H} (hD : 4 ≤ d) (hb : pz_gR h l0 9 2 (fun (a1 : Nat) => pz_is h a1 1 ∧ (pz_gI h a1 1 4 (fun (x2 : Int32) => ((eX1_has l1 x2) = 0 → Q (some (.int ((-1)))) h) ∧ (¬ (eX1_has l1 x2) = 0 → (¬ (eX9_isWithin l2 ((0 : Int32)) ((99 : Int32))) = 0 → pz_is h l0 9 ∧ (pz_kv mX9_startTrial 2 0 0 (.ref l0 :: []) h (fun (h6 : pz_H) => pz_gR h6 l0 9 5 (fun (a7 : Nat) => pz_gR h6 a7 8 0 (fun (a8 : Nat) => pz_rI h6 a8 l1 (fun (x9 : Int32) => pz_V mX9_marks Ex Q d bc bs 49 [(0, .ref l0), (1, .int l1), (2, .int l2), (3, .int x9), (4, .int x9), (5, .int 0), (6, .int 0), (7, .int 1)] [] h6)))))) ∧ ((eX9_isWithin l2 ((0 : Int32)) ((99 : Int32))) = 0 → Q (some (.int ((-1)))) h)))))) : pz_V mX9_marks Ex Q d bc bs 0 [(0, .ref l0), (1, .int l1), (2, .int l2)] [] h := by
  refine pz_aload_n (pc' := 1) (x := l0) 0 rfl (pz_dc dX9_marks 0 rfl) rfl ?_
  refine pz_getR (M := mX9_marks) hb fX9_26 (pc' := 4) rfl (pz_dc dX9_marks 1 rfl) (fun a1 hb => ?_)
  refine pz_iload_n (pc' := 5) (x := l1) 1 rfl (pz_dc dX9_marks 2 rfl) rfl ?_
  obtain ⟨⟨fs10, hf11⟩, hb⟩ := hb
  obtain ⟨fs3, x2, g4, g5, hb⟩ := hb
  refine pz_callV (M := mX9_marks) (N := mX1_has) (d' := 0) (bc1 := 0) (bs1 := 0) (bc2 := bc) (bs2 := bs) (pc' := 8) [.int l1] vX9_115 rfl (pz_dc dX9_marks 3 rfl) rfl (Nat.le_of_ble_eq_true rfl) (Nat.le_of_ble_eq_true rfl) rfl (by omega) (by omega) (by omega) hf11 ?_
  refine cX1_has ⟨fs3, x2, g4, g5, ?_⟩
  show pz_V mX9_marks _ _ _ _ _ 8 [(0, .ref l0), (1, .int l1), (2, .int l2)] [.int (eX1_has l1 x2)] h
  refine pz_if_eq (pc' := 11) (tgt := 21) rfl (pz_dc dX9_marks 4 rfl) (by decide) (fun hc => ?_) (fun hc => ?_)
  · replace hb := hb.1 hc
    refine pz_iconst (pc' := 22) (v := (-1)) rfl (pz_dc dX9_marks 10 rfl) ki_m1 ?_
    exact pz_iret (pz_dc dX9_marks 11 rfl) rfl hb
  · replace hb := hb.2 hc
    refine pz_iload_n (pc' := 12) (x := l2) 2 rfl (pz_dc dX9_marks 5 rfl) rfl ?_
    refine pz_iconst (pc' := 13) (v := 0) rfl (pz_dc dX9_marks 6 rfl) ki_0 ?_
    refine pz_bipush (pc' := 15) (v := 99) rfl (pz_dc dX9_marks 7 rfl) kb_99 ?_
    refine pz_callS (M := mX9_marks) (N := mX9_isWithin) (d' := 0) (bc1 := 0) (bs1 := 0) (bc2 := bc) (bs2 := bs) (pc' := 18) [.int l2, .int 0, .int 99] sX9_196 rfl (pz_dc dX9_marks 8 rfl) rfl (Nat.le_of_ble_eq_true rfl) (Nat.le_of_ble_eq_true rfl) rfl (by omega) (by omega) (by omega) ?_
    refine cX9_isWithin ?_
    show pz_V mX9_marks _ _ _ _ _ 18 [(0, .ref l0), (1, .int l1), (2, .int l2)] [.int (eX9_isWithin l2 ((0 : Int32)) ((99 : Int32)))] h
    refine pz_if_ne (pc' := 21) (tgt := 23) rfl (pz_dc dX9_marks 9 rfl) (by decide) (fun hc => ?_) (fun hc => ?_)
    · replace hb := hb.1 hc
      refine pz_aload_n (pc' := 24) (x := l0) 0 rfl (pz_dc dX9_marks 12 rfl) rfl ?_
      refine pz_cVv (M := mX9_marks) (N := mX9_startTrial) (d' := 2) (bc1 := 0) (bs1 := 0) (bc2 := bc) (bs2 := bs) (pc' := 27) [] hb vX9_200 rfl (pz_dc dX9_marks 13 rfl) rfl (Nat.le_of_ble_eq_true rfl) (Nat.le_of_ble_eq_true rfl) rfl (by omega) (by omega) (by omega) (fun h6 hb => ?_)
      refine pz_aload_n (pc' := 28) (x := l0) 0 rfl (pz_dc dX9_marks 14 rfl) rfl ?_
      refine pz_getR (M := mX9_marks) hb fX9_40 (pc' := 31) rfl (pz_dc dX9_marks 15 rfl) (fun a7 hb => ?_)
      refine pz_getR (M := mX9_marks) hb fX9_136 (pc' := 34) rfl (pz_dc dX9_marks 16 rfl) (fun a8 hb => ?_)
      refine pz_iload_n (pc' := 35) (x := l1) 1 rfl (pz_dc dX9_marks 17 rfl) rfl ?_
      refine pz_ldI hb (pc' := 36) rfl (pz_dc dX9_marks 18 rfl) (fun x9 hb => ?_)
      refine pz_istore_n (pc' := 37) (lv' := [(3, .int x9), (0, .ref l0), (1, .int l1), (2, .int l2)]) rfl (pz_dc dX9_marks 19 rfl) (by decide) rfl ?_
      refine pz_iload_n (pc' := 38) (x := x9) 0 rfl (pz_dc dX9_marks 20 rfl) rfl ?_
      refine pz_istore (pc' := 40) (lv' := [(4, .int x9), (3, .int x9), (0, .ref l0), (1, .int l1), (2, .int l2)]) rfl (pz_dc dX9_marks 21 rfl) (by decide) rfl ?_
      refine pz_iconst (pc' := 41) (v := 0) rfl (pz_dc dX9_marks 22 rfl) ki_0 ?_
      refine pz_istore (pc' := 43) (lv' := [(5, .int 0), (4, .int x9), (3, .int x9), (0, .ref l0), (1, .int l1), (2, .int l2)]) rfl (pz_dc dX9_marks 23 rfl) (by decide) rfl ?_
      refine pz_iconst (pc' := 44) (v := 0) rfl (pz_dc dX9_marks 24 rfl) ki_0 ?_
      refine pz_istore (pc' := 46) (lv' := [(6, .int 0), (5, .int 0), (4, .int x9), (3, .int x9), (0, .ref l0), (1, .int l1), (2, .int l2)]) rfl (pz_dc dX9_marks 25 rfl) (by decide) rfl ?_
      refine pz_iconst (pc' := 47) (v := 1) rfl (pz_dc dX9_marks 26 rfl) ki_1 ?_
      refine pz_istore (pc' := 49) (lv' := [(7, .int 1), (6, .int 0), (5, .int 0), (4, .int x9), (3, .int x9), (0, .ref l0), (1, .int l1), (2, .int l2)]) rfl (pz_dc dX9_marks 27 rfl) (by decide) rfl ?_
      refine pz_lv (lv' := [(0, .ref l0), (1, .int l1), (2, .int l2), (3, .int x9), (4, .int x9), (5, .int 0), (6, .int 0), (7, .int 1)]) [5, 6, 7, 4, 3, 2, 1, 0] rfl ?_
      exact hb
    · replace hb := hb.2 hc
      refine pz_iconst (pc' := 22) (v := (-1)) rfl (pz_dc dX9_marks 10 rfl) ki_m1 ?_
      exact pz_iret (pz_dc dX9_marks 11 rfl) rfl hb
set_option maxRecDepth 20000 in
set_option maxHeartbeats 4000000 in
theorem wX9_marks_49 {Ex : State → Nat → Prop} {Q : Option Value → pz_H → Prop} {d bc bs : Nat} {l0 : Nat} {l1 : Int32} {l2 : Int32} {l3 : Int32} {l4 : Int32} {l5 : Int32} {l6 : Int32} {l7 : Int32}  {h : pz_H} (hD : 4 ≤ d) (hb : (l2 < l7 → pz_gR h l0 9 1 (fun (a1 : Nat) => pz_is h a1 4 ∧ (pz_kv mX4_tell__ 3 0 0 (.ref a1 :: [.long l5.toInt64, .long l4.toInt64, .long l6.toInt64]) h (fun (h2 : pz_H) => Q (some (.int l3)) h2)))) ∧ (¬ l2 < l7 → pz_gR h l0 9 2 (fun (a3 : Nat) => pz_gR h l0 9 5 (fun (a4 : Nat) => pz_gR h l0 9 12 (fun (a5 : Nat) => pz_is h a3 1 ∧ (pz_kv mX1_passDay 3 0 0 (.ref a3 :: [.ref a4, .ref a5]) h (fun (h6 : pz_H) => pz_gR h6 l0 9 5 (fun (a7 : Nat) => pz_gR h6 a7 8 0 (fun (a8 : Nat) => pz_rI h6 a8 l1 (fun (x9 : Int32) => (l3 ≤ x9 → (x9 ≤ l4 → pz_V mX9_marks Ex Q d bc bs 49 [(0, .ref l0), (1, .int l1), (2, .int l2), (3, .int l3), (4, .int l4), (5, .int l5), (6, .int l6), (7, .int (l7 + (1 : Int32)))] [] h6) ∧ (¬ x9 ≤ l4 → pz_V mX9_marks Ex Q d bc bs 49 [(0, .ref l0), (1, .int l1), (2, .int l2), (3, .int l3), (4, .int x9), (5, .int l5), (6, .int l7), (7, .int (l7 + (1 : Int32)))] [] h6)) ∧ (¬ l3 ≤ x9 → (x9 ≤ l4 → pz_V mX9_marks Ex Q d bc bs 49 [(0, .ref l0), (1, .int l1), (2, .int l2), (3, .int x9), (4, .int l4), (5, .int l7), (6, .int l6), (7, .int (l7 + (1 : Int32)))] [] h6) ∧ (¬ x9 ≤ l4 → pz_V mX9_marks Ex Q d bc bs 49 [(0, .ref l0), (1, .int l1), (2, .int l2), (3, .int x9), (4, .int x9), (5, .int l7), (6, .int l7), (7, .int (l7 + (1 : Int32)))] [] h6)))))))))))) : pz_V mX9_marks Ex Q d bc bs 49 [(0, .ref l0), (1, .int l1), (2, .int l2), (3, .int l3), (4, .int l4), (5, .int l5), (6, .int l6), (7, .int l7)] [] h := by
  refine pz_iload (pc' := 51) (x := l7) 7 rfl (pz_dc dX9_marks 28 rfl) rfl ?_
  refine pz_iload_n (pc' := 52) (x := l2) 2 rfl (pz_dc dX9_marks 29 rfl) rfl ?_
  refine pz_icmp_gt (pc' := 55) (tgt := 115) rfl (pz_dc dX9_marks 30 rfl) (by decide) (fun hc => ?_) (fun hc => ?_)
  · replace hb := hb.1 hc
    refine pz_aload_n (pc' := 116) (x := l0) 0 rfl (pz_dc dX9_marks 60 rfl) rfl ?_
    refine pz_getR (M := mX9_marks) hb fX9_19 (pc' := 119) rfl (pz_dc dX9_marks 61 rfl) (fun a1 hb => ?_)
    refine pz_iload (pc' := 121) (x := l5) 5 rfl (pz_dc dX9_marks 62 rfl) rfl ?_
    refine pz_i2l (pc' := 122) rfl (pz_dc dX9_marks 63 rfl) ?_
    refine pz_iload (pc' := 124) (x := l4) 4 rfl (pz_dc dX9_marks 64 rfl) rfl ?_
    refine pz_i2l (pc' := 125) rfl (pz_dc dX9_marks 65 rfl) ?_
    refine pz_iload (pc' := 127) (x := l6) 6 rfl (pz_dc dX9_marks 66 rfl) rfl ?_
    refine pz_i2l (pc' := 128) rfl (pz_dc dX9_marks 67 rfl) ?_
    refine pz_cVv (M := mX9_marks) (N := mX4_tell__) (d' := 3) (bc1 := 0) (bs1 := 0) (bc2 := bc) (bs2 := bs) (pc' := 131) [.long l5.toInt64, .long l4.toInt64, .long l6.toInt64] hb vX9_218 rfl (pz_dc dX9_marks 68 rfl) rfl (Nat.le_of_ble_eq_true rfl) (Nat.le_of_ble_eq_true rfl) rfl (by omega) (by omega) (by omega) (fun h2 hb => ?_)
    refine pz_iload_n (pc' := 132) (x := l3) 3 rfl (pz_dc dX9_marks 69 rfl) rfl ?_
    exact pz_iret (pz_dc dX9_marks 70 rfl) rfl hb
  · replace hb := hb.2 hc
    refine pz_aload_n (pc' := 56) (x := l0) 0 rfl (pz_dc dX9_marks 31 rfl) rfl ?_
    refine pz_getR (M := mX9_marks) hb fX9_26 (pc' := 59) rfl (pz_dc dX9_marks 32 rfl) (fun a3 hb => ?_)
    refine pz_aload_n (pc' := 60) (x := l0) 0 rfl (pz_dc dX9_marks 33 rfl) rfl ?_
    refine pz_getR (M := mX9_marks) hb fX9_40 (pc' := 63) rfl (pz_dc dX9_marks 34 rfl) (fun a4 hb => ?_)
    refine pz_aload_n (pc' := 64) (x := l0) 0 rfl (pz_dc dX9_marks 35 rfl) rfl ?_
    refine pz_getR (M := mX9_marks) hb fX9_78 (pc' := 67) rfl (pz_dc dX9_marks 36 rfl) (fun a5 hb => ?_)
    refine pz_cVv (M := mX9_marks) (N := mX1_passDay) (d' := 3) (bc1 := 0) (bs1 := 0) (bc2 := bc) (bs2 := bs) (pc' := 70) [.ref a4, .ref a5] hb vX9_214 rfl (pz_dc dX9_marks 37 rfl) rfl (Nat.le_of_ble_eq_true rfl) (Nat.le_of_ble_eq_true rfl) rfl (by omega) (by omega) (by omega) (fun h6 hb => ?_)
    refine pz_aload_n (pc' := 71) (x := l0) 0 rfl (pz_dc dX9_marks 38 rfl) rfl ?_
    refine pz_getR (M := mX9_marks) hb fX9_40 (pc' := 74) rfl (pz_dc dX9_marks 39 rfl) (fun a7 hb => ?_)
    refine pz_getR (M := mX9_marks) hb fX9_136 (pc' := 77) rfl (pz_dc dX9_marks 40 rfl) (fun a8 hb => ?_)
    refine pz_iload_n (pc' := 78) (x := l1) 1 rfl (pz_dc dX9_marks 41 rfl) rfl ?_
    refine pz_ldI hb (pc' := 79) rfl (pz_dc dX9_marks 42 rfl) (fun x9 hb => ?_)
    refine pz_istore (pc' := 81) (lv' := [(8, .int x9), (0, .ref l0), (1, .int l1), (2, .int l2), (3, .int l3), (4, .int l4), (5, .int l5), (6, .int l6), (7, .int l7)]) rfl (pz_dc dX9_marks 43 rfl) (by decide) rfl ?_
    refine pz_iload (pc' := 83) (x := x9) 0 rfl (pz_dc dX9_marks 44 rfl) rfl ?_
    refine pz_iload_n (pc' := 84) (x := l3) 4 rfl (pz_dc dX9_marks 45 rfl) rfl ?_
    refine pz_icmp_ge (pc' := 87) (tgt := 94) rfl (pz_dc dX9_marks 46 rfl) (by decide) (fun hc => ?_) (fun hc => ?_)
    · replace hb := hb.1 hc
      refine pz_iload (pc' := 96) (x := x9) 0 rfl (pz_dc dX9_marks 51 rfl) rfl ?_
      refine pz_iload (pc' := 98) (x := l4) 5 rfl (pz_dc dX9_marks 52 rfl) rfl ?_
      refine pz_icmp_le (pc' := 101) (tgt := 109) rfl (pz_dc dX9_marks 53 rfl) (by decide) (fun hc => ?_) (fun hc => ?_)
      · replace hb := hb.1 hc
        refine pz_iinc (pc' := 112) (x := l7) (v := l7 + (1 : Int32)) (lv' := [(7, .int (l7 + (1 : Int32))), (8, .int x9), (0, .ref l0), (1, .int l1), (2, .int l2), (3, .int l3), (4, .int l4), (5, .int l5), (6, .int l6)]) 8 rfl (pz_dc dX9_marks 58 rfl) rfl rfl (by decide) rfl ?_
        refine pz_goto (pc' := 49) (pz_dc dX9_marks 59 rfl) (by decide) ?_
        refine pz_lv (lv' := [(0, .ref l0), (1, .int l1), (2, .int l2), (3, .int l3), (4, .int l4), (5, .int l5), (6, .int l6), (7, .int (l7 + (1 : Int32)))]) [2, 3, 4, 5, 6, 7, 8, 0] rfl ?_
        exact hb
      · replace hb := hb.2 hc
        refine pz_iload (pc' := 103) (x := x9) 0 rfl (pz_dc dX9_marks 54 rfl) rfl ?_
        refine pz_istore (pc' := 105) (lv' := [(4, .int x9), (8, .int x9), (0, .ref l0), (1, .int l1), (2, .int l2), (3, .int l3), (5, .int l5), (6, .int l6), (7, .int l7)]) rfl (pz_dc dX9_marks 55 rfl) (by decide) rfl ?_
        refine pz_iload (pc' := 107) (x := l7) 8 rfl (pz_dc dX9_marks 56 rfl) rfl ?_
        refine pz_istore (pc' := 109) (lv' := [(6, .int l7), (4, .int x9), (8, .int x9), (0, .ref l0), (1, .int l1), (2, .int l2), (3, .int l3), (5, .int l5), (7, .int l7)]) rfl (pz_dc dX9_marks 57 rfl) (by decide) rfl ?_
        refine pz_iinc (pc' := 112) (x := l7) (v := l7 + (1 : Int32)) (lv' := [(7, .int (l7 + (1 : Int32))), (6, .int l7), (4, .int x9), (8, .int x9), (0, .ref l0), (1, .int l1), (2, .int l2), (3, .int l3), (5, .int l5)]) 8 rfl (pz_dc dX9_marks 58 rfl) rfl rfl (by decide) rfl ?_
        refine pz_goto (pc' := 49) (pz_dc dX9_marks 59 rfl) (by decide) ?_
        refine pz_lv (lv' := [(0, .ref l0), (1, .int l1), (2, .int l2), (3, .int l3), (4, .int x9), (5, .int l5), (6, .int l7), (7, .int (l7 + (1 : Int32)))]) [4, 5, 6, 7, 2, 8, 1, 0] rfl ?_
        exact hb
    · replace hb := hb.2 hc
      refine pz_iload (pc' := 89) (x := x9) 0 rfl (pz_dc dX9_marks 47 rfl) rfl ?_
      refine pz_istore_n (pc' := 90) (lv' := [(3, .int x9), (8, .int x9), (0, .ref l0), (1, .int l1), (2, .int l2), (4, .int l4), (5, .int l5), (6, .int l6), (7, .int l7)]) rfl (pz_dc dX9_marks 48 rfl) (by decide) rfl ?_
      refine pz_iload (pc' := 92) (x := l7) 8 rfl (pz_dc dX9_marks 49 rfl) rfl ?_
      refine pz_istore (pc' := 94) (lv' := [(5, .int l7), (3, .int x9), (8, .int x9), (0, .ref l0), (1, .int l1), (2, .int l2), (4, .int l4), (6, .int l6), (7, .int l7)]) rfl (pz_dc dX9_marks 50 rfl) (by decide) rfl ?_
      refine pz_iload (pc' := 96) (x := x9) 2 rfl (pz_dc dX9_marks 51 rfl) rfl ?_
      refine pz_iload (pc' := 98) (x := l4) 6 rfl (pz_dc dX9_marks 52 rfl) rfl ?_
      refine pz_icmp_le (pc' := 101) (tgt := 109) rfl (pz_dc dX9_marks 53 rfl) (by decide) (fun hc => ?_) (fun hc => ?_)
      · replace hb := hb.1 hc
        refine pz_iinc (pc' := 112) (x := l7) (v := l7 + (1 : Int32)) (lv' := [(7, .int (l7 + (1 : Int32))), (5, .int l7), (3, .int x9), (8, .int x9), (0, .ref l0), (1, .int l1), (2, .int l2), (4, .int l4), (6, .int l6)]) 8 rfl (pz_dc dX9_marks 58 rfl) rfl rfl (by decide) rfl ?_
        refine pz_goto (pc' := 49) (pz_dc dX9_marks 59 rfl) (by decide) ?_
        refine pz_lv (lv' := [(0, .ref l0), (1, .int l1), (2, .int l2), (3, .int x9), (4, .int l4), (5, .int l7), (6, .int l6), (7, .int (l7 + (1 : Int32)))]) [4, 5, 6, 2, 7, 1, 8, 0] rfl ?_
        exact hb
      · replace hb := hb.2 hc
        refine pz_iload (pc' := 103) (x := x9) 2 rfl (pz_dc dX9_marks 54 rfl) rfl ?_
        refine pz_istore (pc' := 105) (lv' := [(4, .int x9), (5, .int l7), (3, .int x9), (8, .int x9), (0, .ref l0), (1, .int l1), (2, .int l2), (6, .int l6), (7, .int l7)]) rfl (pz_dc dX9_marks 55 rfl) (by decide) rfl ?_
        refine pz_iload (pc' := 107) (x := l7) 8 rfl (pz_dc dX9_marks 56 rfl) rfl ?_
        refine pz_istore (pc' := 109) (lv' := [(6, .int l7), (4, .int x9), (5, .int l7), (3, .int x9), (8, .int x9), (0, .ref l0), (1, .int l1), (2, .int l2), (7, .int l7)]) rfl (pz_dc dX9_marks 57 rfl) (by decide) rfl ?_
        refine pz_iinc (pc' := 112) (x := l7) (v := l7 + (1 : Int32)) (lv' := [(7, .int (l7 + (1 : Int32))), (6, .int l7), (4, .int x9), (5, .int l7), (3, .int x9), (8, .int x9), (0, .ref l0), (1, .int l1), (2, .int l2)]) 8 rfl (pz_dc dX9_marks 58 rfl) rfl rfl (by decide) rfl ?_
        refine pz_goto (pc' := 49) (pz_dc dX9_marks 59 rfl) (by decide) ?_
        refine pz_lv (lv' := [(0, .ref l0), (1, .int l1), (2, .int l2), (3, .int x9), (4, .int x9), (5, .int l7), (6, .int l7), (7, .int (l7 + (1 : Int32)))]) [6, 7, 8, 4, 2, 3, 1, 0] rfl ?_
        exact hb
set_option maxRecDepth 20000 in
set_option maxHeartbeats 4000000 in
theorem wX9_realm_0 {Ex : State → Nat → Prop} {Q : Option Value → pz_H → Prop} {d bc bs : Nat} {l0 : Nat} {l1 : Int32}  {h : pz_H} (hD : 3 ≤ d) (hb : (¬ (eX9_isKing l1) = 0 → pz_gR h l0 9 2 (fun (a1 : Nat) => pz_gR h l0 9 3 (fun (a2 : Nat) => pz_is h a1 1 ∧ (pz_ki mX1_heldBy 0 0 0 (.ref a1 :: [.ref a2, .int l1]) h (fun (x4 : Int32) (h3 : pz_H) => pz_V mX9_realm Ex Q d bc bs 27 [(0, .ref l0), (2, .int x4), (3, .int 0), (4, .int 0)] [] h3))))) ∧ ((eX9_isKing l1) = 0 → Q (some (.int ((-1)))) h)) : pz_V mX9_realm Ex Q d bc bs 0 [(0, .ref l0), (1, .int l1)] [] h := by
  refine pz_iload_n (pc' := 1) (x := l1) 1 rfl (pz_dc dX9_realm 0 rfl) rfl ?_
  refine pz_callS (M := mX9_realm) (N := mX9_isKing) (d' := 0) (bc1 := 0) (bs1 := 0) (bc2 := bc) (bs2 := bs) (pc' := 4) [.int l1] sX9_221 rfl (pz_dc dX9_realm 1 rfl) rfl (Nat.le_of_ble_eq_true rfl) (Nat.le_of_ble_eq_true rfl) rfl (by omega) (by omega) (by omega) ?_
  refine cX9_isKing ?_
  show pz_V mX9_realm _ _ _ _ _ 4 [(0, .ref l0), (1, .int l1)] [.int (eX9_isKing l1)] h
  refine pz_if_ne (pc' := 7) (tgt := 9) rfl (pz_dc dX9_realm 2 rfl) (by decide) (fun hc => ?_) (fun hc => ?_)
  · replace hb := hb.1 hc
    refine pz_aload_n (pc' := 10) (x := l0) 0 rfl (pz_dc dX9_realm 5 rfl) rfl ?_
    refine pz_getR (M := mX9_realm) hb fX9_26 (pc' := 13) rfl (pz_dc dX9_realm 6 rfl) (fun a1 hb => ?_)
    refine pz_aload_n (pc' := 14) (x := l0) 0 rfl (pz_dc dX9_realm 7 rfl) rfl ?_
    refine pz_getR (M := mX9_realm) hb fX9_33 (pc' := 17) rfl (pz_dc dX9_realm 8 rfl) (fun a2 hb => ?_)
    refine pz_iload_n (pc' := 18) (x := l1) 1 rfl (pz_dc dX9_realm 9 rfl) rfl ?_
    refine pz_cVi (M := mX9_realm) (N := mX1_heldBy) (d' := 0) (bc1 := 0) (bs1 := 0) (bc2 := bc) (bs2 := bs) (pc' := 21) [.ref a2, .int l1] hb vX9_224 rfl (pz_dc dX9_realm 10 rfl) rfl (Nat.le_of_ble_eq_true rfl) (Nat.le_of_ble_eq_true rfl) rfl (by omega) (by omega) (by omega) (fun x4 h3 hb => ?_)
    refine pz_istore_n (pc' := 22) (lv' := [(2, .int x4), (0, .ref l0), (1, .int l1)]) rfl (pz_dc dX9_realm 11 rfl) (by decide) rfl ?_
    refine pz_iconst (pc' := 23) (v := 0) rfl (pz_dc dX9_realm 12 rfl) ki_0 ?_
    refine pz_istore_n (pc' := 24) (lv' := [(3, .int 0), (2, .int x4), (0, .ref l0), (1, .int l1)]) rfl (pz_dc dX9_realm 13 rfl) (by decide) rfl ?_
    refine pz_iconst (pc' := 25) (v := 0) rfl (pz_dc dX9_realm 14 rfl) ki_0 ?_
    refine pz_istore (pc' := 27) (lv' := [(4, .int 0), (3, .int 0), (2, .int x4), (0, .ref l0), (1, .int l1)]) rfl (pz_dc dX9_realm 15 rfl) (by decide) rfl ?_
    refine pz_lv (lv' := [(0, .ref l0), (2, .int x4), (3, .int 0), (4, .int 0)]) [3, 2, 1, 0] rfl ?_
    exact hb
  · replace hb := hb.2 hc
    refine pz_iconst (pc' := 8) (v := (-1)) rfl (pz_dc dX9_realm 3 rfl) ki_m1 ?_
    exact pz_iret (pz_dc dX9_realm 4 rfl) rfl hb
set_option maxRecDepth 20000 in
set_option maxHeartbeats 4000000 in
theorem wX9_realm_27 {Ex : State → Nat → Prop} {Q : Option Value → pz_H → Prop} {d bc bs : Nat} {l0 : Nat} {l2 : Int32} {l3 : Int32} {l4 : Int32}  {h : pz_H} (hD : 3 ≤ d) (hb : pz_gR h l0 9 2 (fun (a1 : Nat) => pz_is h a1 1 ∧ (pz_gI h a1 1 4 (fun (x2 : Int32) => (x2 ≤ l4 → pz_gR h l0 9 1 (fun (a3 : Nat) => pz_gR h l0 9 2 (fun (a4 : Nat) => pz_gR h l0 9 3 (fun (a5 : Nat) => pz_is h a4 1 ∧ (pz_ki mX1_totalOf 1 0 0 (.ref a4 :: [.ref a5, .int l2]) h (fun (x7 : Int32) (h6 : pz_H) => pz_is h6 a3 4 ∧ (pz_kv mX4_tell_ 2 0 0 (.ref a3 :: [.long x7.toInt64, .long l3.toInt64]) h6 (fun (h8 : pz_H) => Q (some (.int l2)) h8)))))))) ∧ (¬ x2 ≤ l4 → ((eX9_isIn l2 l4) = 0 → pz_V mX9_realm Ex Q d bc bs 27 [(0, .ref l0), (2, .int l2), (3, .int l3), (4, .int (l4 + (1 : Int32)))] [] h) ∧ (¬ (eX9_isIn l2 l4) = 0 → pz_gR h l0 9 2 (fun (a9 : Nat) => pz_gR h a9 1 0 (fun (a10 : Nat) => pz_rI h a10 l4 (fun (x11 : Int32) => pz_V mX9_realm Ex Q d bc bs 27 [(0, .ref l0), (2, .int l2), (3, .int (l3 + x11)), (4, .int (l4 + (1 : Int32)))] [] h))))))))) : pz_V mX9_realm Ex Q d bc bs 27 [(0, .ref l0), (2, .int l2), (3, .int l3), (4, .int l4)] [] h := by
  refine pz_iload (pc' := 29) (x := l4) 3 rfl (pz_dc dX9_realm 16 rfl) rfl ?_
  refine pz_aload_n (pc' := 30) (x := l0) 0 rfl (pz_dc dX9_realm 17 rfl) rfl ?_
  refine pz_getR (M := mX9_realm) hb fX9_26 (pc' := 33) rfl (pz_dc dX9_realm 18 rfl) (fun a1 hb => ?_)
  obtain ⟨⟨fs12, hf13⟩, hb⟩ := hb
  refine pz_callV (M := mX9_realm) (N := mX1_size) (d' := 0) (bc1 := 0) (bs1 := 0) (bc2 := bc) (bs2 := bs) (pc' := 36) [] vX9_208 rfl (pz_dc dX9_realm 19 rfl) rfl (Nat.le_of_ble_eq_true rfl) (Nat.le_of_ble_eq_true rfl) rfl (by omega) (by omega) (by omega) hf13 ?_
  refine pz_aload_n (pc' := 1) (x := a1) 0 rfl (pz_dc dX1_size 0 rfl) rfl ?_
  refine pz_getI (M := mX1_size) hb fX1_24 (pc' := 4) rfl (pz_dc dX1_size 1 rfl) (fun x2 hb => ?_)
  refine pz_iret (pz_dc dX1_size 2 rfl) rfl ?_
  show pz_V mX9_realm _ _ _ _ _ 36 [(0, .ref l0), (2, .int l2), (3, .int l3), (4, .int l4)] [.int x2, .int l4] h
  refine pz_icmp_ge (pc' := 39) (tgt := 67) rfl (pz_dc dX9_realm 20 rfl) (by decide) (fun hc => ?_) (fun hc => ?_)
  · replace hb := hb.1 hc
    refine pz_aload_n (pc' := 68) (x := l0) 0 rfl (pz_dc dX9_realm 35 rfl) rfl ?_
    refine pz_getR (M := mX9_realm) hb fX9_19 (pc' := 71) rfl (pz_dc dX9_realm 36 rfl) (fun a3 hb => ?_)
    refine pz_aload_n (pc' := 72) (x := l0) 0 rfl (pz_dc dX9_realm 37 rfl) rfl ?_
    refine pz_getR (M := mX9_realm) hb fX9_26 (pc' := 75) rfl (pz_dc dX9_realm 38 rfl) (fun a4 hb => ?_)
    refine pz_aload_n (pc' := 76) (x := l0) 0 rfl (pz_dc dX9_realm 39 rfl) rfl ?_
    refine pz_getR (M := mX9_realm) hb fX9_33 (pc' := 79) rfl (pz_dc dX9_realm 40 rfl) (fun a5 hb => ?_)
    refine pz_iload_n (pc' := 80) (x := l2) 1 rfl (pz_dc dX9_realm 41 rfl) rfl ?_
    refine pz_cVi (M := mX9_realm) (N := mX1_totalOf) (d' := 1) (bc1 := 0) (bs1 := 0) (bc2 := bc) (bs2 := bs) (pc' := 83) [.ref a5, .int l2] hb vX9_232 rfl (pz_dc dX9_realm 42 rfl) rfl (Nat.le_of_ble_eq_true rfl) (Nat.le_of_ble_eq_true rfl) rfl (by omega) (by omega) (by omega) (fun x7 h6 hb => ?_)
    refine pz_i2l (pc' := 84) rfl (pz_dc dX9_realm 43 rfl) ?_
    refine pz_iload_n (pc' := 85) (x := l3) 2 rfl (pz_dc dX9_realm 44 rfl) rfl ?_
    refine pz_i2l (pc' := 86) rfl (pz_dc dX9_realm 45 rfl) ?_
    refine pz_cVv (M := mX9_realm) (N := mX4_tell_) (d' := 2) (bc1 := 0) (bs1 := 0) (bc2 := bc) (bs2 := bs) (pc' := 89) [.long x7.toInt64, .long l3.toInt64] hb vX9_167 rfl (pz_dc dX9_realm 46 rfl) rfl (Nat.le_of_ble_eq_true rfl) (Nat.le_of_ble_eq_true rfl) rfl (by omega) (by omega) (by omega) (fun h8 hb => ?_)
    refine pz_iload_n (pc' := 90) (x := l2) 1 rfl (pz_dc dX9_realm 47 rfl) rfl ?_
    exact pz_iret (pz_dc dX9_realm 48 rfl) rfl hb
  · replace hb := hb.2 hc
    refine pz_iload_n (pc' := 40) (x := l2) 1 rfl (pz_dc dX9_realm 21 rfl) rfl ?_
    refine pz_iload (pc' := 42) (x := l4) 3 rfl (pz_dc dX9_realm 22 rfl) rfl ?_
    refine pz_callS (M := mX9_realm) (N := mX9_isIn) (d' := 0) (bc1 := 0) (bs1 := 0) (bc2 := bc) (bs2 := bs) (pc' := 45) [.int l2, .int l4] sX9_228 rfl (pz_dc dX9_realm 23 rfl) rfl (Nat.le_of_ble_eq_true rfl) (Nat.le_of_ble_eq_true rfl) rfl (by omega) (by omega) (by omega) ?_
    refine cX9_isIn ?_
    show pz_V mX9_realm _ _ _ _ _ 45 [(0, .ref l0), (2, .int l2), (3, .int l3), (4, .int l4)] [.int (eX9_isIn l2 l4)] h
    refine pz_if_eq (pc' := 48) (tgt := 61) rfl (pz_dc dX9_realm 24 rfl) (by decide) (fun hc => ?_) (fun hc => ?_)
    · replace hb := hb.1 hc
      refine pz_iinc (pc' := 64) (x := l4) (v := l4 + (1 : Int32)) (lv' := [(4, .int (l4 + (1 : Int32))), (0, .ref l0), (2, .int l2), (3, .int l3)]) 3 rfl (pz_dc dX9_realm 33 rfl) rfl rfl (by decide) rfl ?_
      refine pz_goto (pc' := 27) (pz_dc dX9_realm 34 rfl) (by decide) ?_
      refine pz_lv (lv' := [(0, .ref l0), (2, .int l2), (3, .int l3), (4, .int (l4 + (1 : Int32)))]) [1, 2, 3, 0] rfl ?_
      exact hb
    · replace hb := hb.2 hc
      refine pz_iload_n (pc' := 49) (x := l3) 2 rfl (pz_dc dX9_realm 25 rfl) rfl ?_
      refine pz_aload_n (pc' := 50) (x := l0) 0 rfl (pz_dc dX9_realm 26 rfl) rfl ?_
      refine pz_getR (M := mX9_realm) hb fX9_26 (pc' := 53) rfl (pz_dc dX9_realm 27 rfl) (fun a9 hb => ?_)
      refine pz_getR (M := mX9_realm) hb fX9_121 (pc' := 56) rfl (pz_dc dX9_realm 28 rfl) (fun a10 hb => ?_)
      refine pz_iload (pc' := 58) (x := l4) 3 rfl (pz_dc dX9_realm 29 rfl) rfl ?_
      refine pz_ldI hb (pc' := 59) rfl (pz_dc dX9_realm 30 rfl) (fun x11 hb => ?_)
      refine pz_iadd (pc' := 60) rfl (pz_dc dX9_realm 31 rfl) ?_
      refine pz_istore_n (pc' := 61) (lv' := [(3, .int (l3 + x11)), (0, .ref l0), (2, .int l2), (4, .int l4)]) rfl (pz_dc dX9_realm 32 rfl) (by decide) rfl ?_
      refine pz_iinc (pc' := 64) (x := l4) (v := l4 + (1 : Int32)) (lv' := [(4, .int (l4 + (1 : Int32))), (3, .int (l3 + x11)), (0, .ref l0), (2, .int l2)]) 3 rfl (pz_dc dX9_realm 33 rfl) rfl rfl (by decide) rfl ?_
      refine pz_goto (pc' := 27) (pz_dc dX9_realm 34 rfl) (by decide) ?_
      refine pz_lv (lv' := [(0, .ref l0), (2, .int l2), (3, .int (l3 + x11)), (4, .int (l4 + (1 : Int32)))]) [2, 3, 1, 0] rfl ?_
      exact hb
set_option maxRecDepth 20000 in
set_option maxHeartbeats 4000000 in
theorem wX9_course_0 {Ex : State → Nat → Prop} {Q : Option Value → pz_H → Prop} {d bc bs : Nat} {l0 : Nat} {l1 : Int32}  {h : pz_H} (hD : 1 ≤ d) (hb : pz_gR h l0 9 2 (fun (a1 : Nat) => pz_is h a1 1 ∧ (pz_gI h a1 1 4 (fun (x2 : Int32) => (¬ (eX1_has l1 x2) = 0 → pz_gR h l0 9 1 (fun (a6 : Nat) => pz_is h a6 4 ∧ (pz_pF h a6 4 1 (.int 0) (fun (h7 : pz_H) => pz_V mX9_course Ex Q d bc bs 24 [(0, .ref l0), (2, .int 0), (3, .int l1)] [] h7)))) ∧ ((eX1_has l1 x2) = 0 → Q (some (.int ((-1)))) h))))) : pz_V mX9_course Ex Q d bc bs 0 [(0, .ref l0), (1, .int l1)] [] h := by
  refine pz_aload_n (pc' := 1) (x := l0) 0 rfl (pz_dc dX9_course 0 rfl) rfl ?_
  refine pz_getR (M := mX9_course) hb fX9_26 (pc' := 4) rfl (pz_dc dX9_course 1 rfl) (fun a1 hb => ?_)
  refine pz_iload_n (pc' := 5) (x := l1) 1 rfl (pz_dc dX9_course 2 rfl) rfl ?_
  obtain ⟨⟨fs10, hf11⟩, hb⟩ := hb
  obtain ⟨fs3, x2, g4, g5, hb⟩ := hb
  refine pz_callV (M := mX9_course) (N := mX1_has) (d' := 0) (bc1 := 0) (bs1 := 0) (bc2 := bc) (bs2 := bs) (pc' := 8) [.int l1] vX9_115 rfl (pz_dc dX9_course 3 rfl) rfl (Nat.le_of_ble_eq_true rfl) (Nat.le_of_ble_eq_true rfl) rfl (by omega) (by omega) (by omega) hf11 ?_
  refine cX1_has ⟨fs3, x2, g4, g5, ?_⟩
  show pz_V mX9_course _ _ _ _ _ 8 [(0, .ref l0), (1, .int l1)] [.int (eX1_has l1 x2)] h
  refine pz_if_ne (pc' := 11) (tgt := 13) rfl (pz_dc dX9_course 4 rfl) (by decide) (fun hc => ?_) (fun hc => ?_)
  · replace hb := hb.1 hc
    refine pz_aload_n (pc' := 14) (x := l0) 0 rfl (pz_dc dX9_course 7 rfl) rfl ?_
    refine pz_getR (M := mX9_course) hb fX9_19 (pc' := 17) rfl (pz_dc dX9_course 8 rfl) (fun a6 hb => ?_)
    obtain ⟨⟨fs8, hf9⟩, hb⟩ := hb
    refine pz_callV (M := mX9_course) (N := mX4_clear) (d' := 0) (bc1 := 0) (bs1 := 0) (bc2 := bc) (bs2 := bs) (pc' := 20) [] vX9_207 rfl (pz_dc dX9_course 9 rfl) rfl (Nat.le_of_ble_eq_true rfl) (Nat.le_of_ble_eq_true rfl) rfl (by omega) (by omega) (by omega) hf9 ?_
    refine pz_aload_n (pc' := 1) (x := a6) 0 rfl (pz_dc dX4_clear 0 rfl) rfl ?_
    refine pz_iconst (pc' := 2) (v := 0) rfl (pz_dc dX4_clear 1 rfl) ki_0 ?_
    refine pz_putv (M := mX4_clear) hb (pX4_15 _ rfl) rfl rfl (pc' := 5) rfl (pz_dc dX4_clear 2 rfl) (fun h7 hb => ?_)
    refine pz_vret (pz_dc dX4_clear 3 rfl) rfl ?_
    show pz_V mX9_course _ _ _ _ _ 20 [(0, .ref l0), (1, .int l1)] [] h7
    refine pz_iconst (pc' := 21) (v := 0) rfl (pz_dc dX9_course 10 rfl) ki_0 ?_
    refine pz_istore_n (pc' := 22) (lv' := [(2, .int 0), (0, .ref l0), (1, .int l1)]) rfl (pz_dc dX9_course 11 rfl) (by decide) rfl ?_
    refine pz_iload_n (pc' := 23) (x := l1) 2 rfl (pz_dc dX9_course 12 rfl) rfl ?_
    refine pz_istore_n (pc' := 24) (lv' := [(3, .int l1), (2, .int 0), (0, .ref l0), (1, .int l1)]) rfl (pz_dc dX9_course 13 rfl) (by decide) rfl ?_
    refine pz_lv (lv' := [(0, .ref l0), (2, .int 0), (3, .int l1)]) [2, 1, 0] rfl ?_
    exact hb
  · replace hb := hb.2 hc
    refine pz_iconst (pc' := 12) (v := (-1)) rfl (pz_dc dX9_course 5 rfl) ki_m1 ?_
    exact pz_iret (pz_dc dX9_course 6 rfl) rfl hb
set_option maxRecDepth 20000 in
set_option maxHeartbeats 4000000 in
theorem wX9_course_24 {Ex : State → Nat → Prop} {Q : Option Value → pz_H → Prop} {d bc bs : Nat} {l0 : Nat} {l2 : Int32} {l3 : Int32}  {h : pz_H} (hD : 1 ≤ d) (hb : (((6 : Int32)) ≤ l2 → Q (some (.int l2)) h) ∧ (¬ ((6 : Int32)) ≤ l2 → pz_gR h l0 9 2 (fun (a1 : Nat) => pz_is h a1 1 ∧ (pz_gI h a1 1 4 (fun (x2 : Int32) => ((eX1_has l3 x2) = 0 → Q (some (.int l2)) h) ∧ (¬ (eX1_has l3 x2) = 0 → pz_gR h l0 9 1 (fun (a6 : Nat) => pz_is h a6 4 ∧ (pz_kv mX4_add 0 0 0 (.ref a6 :: [.long l3.toInt64]) h (fun (h7 : pz_H) => pz_gR h7 l0 9 2 (fun (a8 : Nat) => pz_gR h7 a8 1 1 (fun (a9 : Nat) => pz_rI h7 a9 l3 (fun (x10 : Int32) => pz_V mX9_course Ex Q d bc bs 24 [(0, .ref l0), (2, .int (l2 + (1 : Int32))), (3, .int x10)] [] h7)))))))))))) : pz_V mX9_course Ex Q d bc bs 24 [(0, .ref l0), (2, .int l2), (3, .int l3)] [] h := by
  refine pz_iload_n (pc' := 25) (x := l2) 1 rfl (pz_dc dX9_course 14 rfl) rfl ?_
  refine pz_bipush (pc' := 27) (v := 6) rfl (pz_dc dX9_course 15 rfl) kb_6 ?_
  refine pz_icmp_ge (pc' := 30) (tgt := 66) rfl (pz_dc dX9_course 16 rfl) (by decide) (fun hc => ?_) (fun hc => ?_)
  · replace hb := hb.1 hc
    refine pz_iload_n (pc' := 67) (x := l2) 1 rfl (pz_dc dX9_course 35 rfl) rfl ?_
    exact pz_iret (pz_dc dX9_course 36 rfl) rfl hb
  · replace hb := hb.2 hc
    refine pz_aload_n (pc' := 31) (x := l0) 0 rfl (pz_dc dX9_course 17 rfl) rfl ?_
    refine pz_getR (M := mX9_course) hb fX9_26 (pc' := 34) rfl (pz_dc dX9_course 18 rfl) (fun a1 hb => ?_)
    refine pz_iload_n (pc' := 35) (x := l3) 2 rfl (pz_dc dX9_course 19 rfl) rfl ?_
    obtain ⟨⟨fs11, hf12⟩, hb⟩ := hb
    obtain ⟨fs3, x2, g4, g5, hb⟩ := hb
    refine pz_callV (M := mX9_course) (N := mX1_has) (d' := 0) (bc1 := 0) (bs1 := 0) (bc2 := bc) (bs2 := bs) (pc' := 38) [.int l3] vX9_115 rfl (pz_dc dX9_course 20 rfl) rfl (Nat.le_of_ble_eq_true rfl) (Nat.le_of_ble_eq_true rfl) rfl (by omega) (by omega) (by omega) hf12 ?_
    refine cX1_has ⟨fs3, x2, g4, g5, ?_⟩
    show pz_V mX9_course _ _ _ _ _ 38 [(0, .ref l0), (2, .int l2), (3, .int l3)] [.int (eX1_has l3 x2)] h
    refine pz_if_eq (pc' := 41) (tgt := 66) rfl (pz_dc dX9_course 21 rfl) (by decide) (fun hc => ?_) (fun hc => ?_)
    · replace hb := hb.1 hc
      refine pz_iload_n (pc' := 67) (x := l2) 1 rfl (pz_dc dX9_course 35 rfl) rfl ?_
      exact pz_iret (pz_dc dX9_course 36 rfl) rfl hb
    · replace hb := hb.2 hc
      refine pz_aload_n (pc' := 42) (x := l0) 0 rfl (pz_dc dX9_course 22 rfl) rfl ?_
      refine pz_getR (M := mX9_course) hb fX9_19 (pc' := 45) rfl (pz_dc dX9_course 23 rfl) (fun a6 hb => ?_)
      refine pz_iload_n (pc' := 46) (x := l3) 2 rfl (pz_dc dX9_course 24 rfl) rfl ?_
      refine pz_i2l (pc' := 47) rfl (pz_dc dX9_course 25 rfl) ?_
      refine pz_cVv (M := mX9_course) (N := mX4_add) (d' := 0) (bc1 := 0) (bs1 := 0) (bc2 := bc) (bs2 := bs) (pc' := 50) [.long l3.toInt64] hb vX9_209 rfl (pz_dc dX9_course 26 rfl) rfl (Nat.le_of_ble_eq_true rfl) (Nat.le_of_ble_eq_true rfl) rfl (by omega) (by omega) (by omega) (fun h7 hb => ?_)
      refine pz_iinc (pc' := 53) (x := l2) (v := l2 + (1 : Int32)) (lv' := [(2, .int (l2 + (1 : Int32))), (0, .ref l0), (3, .int l3)]) 1 rfl (pz_dc dX9_course 27 rfl) rfl rfl (by decide) rfl ?_
      refine pz_aload_n (pc' := 54) (x := l0) 1 rfl (pz_dc dX9_course 28 rfl) rfl ?_
      refine pz_getR (M := mX9_course) hb fX9_26 (pc' := 57) rfl (pz_dc dX9_course 29 rfl) (fun a8 hb => ?_)
      refine pz_getR (M := mX9_course) hb fX9_133 (pc' := 60) rfl (pz_dc dX9_course 30 rfl) (fun a9 hb => ?_)
      refine pz_iload_n (pc' := 61) (x := l3) 2 rfl (pz_dc dX9_course 31 rfl) rfl ?_
      refine pz_ldI hb (pc' := 62) rfl (pz_dc dX9_course 32 rfl) (fun x10 hb => ?_)
      refine pz_istore_n (pc' := 63) (lv' := [(3, .int x10), (2, .int (l2 + (1 : Int32))), (0, .ref l0)]) rfl (pz_dc dX9_course 33 rfl) (by decide) rfl ?_
      refine pz_goto (pc' := 24) (pz_dc dX9_course 34 rfl) (by decide) ?_
      refine pz_lv (lv' := [(0, .ref l0), (2, .int (l2 + (1 : Int32))), (3, .int x10)]) [2, 1, 0] rfl ?_
      exact hb
