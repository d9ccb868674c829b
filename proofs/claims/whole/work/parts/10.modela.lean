set_option maxRecDepth 20000 in
set_option maxHeartbeats 4000000 in
theorem wX10_init_0 {Ex : State → Nat → Prop} {Q : Option Value → pz_H → Prop} {d bc bs : Nat} {l0 : Nat}  {h : pz_H} (hD : 1 ≤ d) (hb : pz_nI h 33 (bc) (bs) (fun (a1 : Nat) (h2 : pz_H) => pz_pF h2 l0 10 0 (.ref a1) (fun (h3 : pz_H) => pz_nI h3 6 (bc - 1) (bs - 33) (fun (a4 : Nat) (h5 : pz_H) => pz_pF h5 l0 10 2 (.ref a4) (fun (h6 : pz_H) => pz_nI h6 6 (bc - 1 - 1) (bs - 33 - 6) (fun (a7 : Nat) (h8 : pz_H) => pz_pF h8 l0 10 3 (.ref a7) (fun (h9 : pz_H) => pz_nI h9 6 (bc - 1 - 1 - 1) (bs - 33 - 6 - 6) (fun (a10 : Nat) (h11 : pz_H) => pz_pF h11 l0 10 4 (.ref a10) (fun (h12 : pz_H) => pz_nB h12 80 (bc - 1 - 1 - 1 - 1) (bs - 33 - 6 - 6 - 6) (fun (a13 : Nat) (h14 : pz_H) => pz_pF h14 l0 10 5 (.ref a13) (fun (h15 : pz_H) => pz_nJ h15 16 (bc - 1 - 1 - 1 - 1 - 1) (bs - 33 - 6 - 6 - 6 - 80) (fun (a16 : Nat) (h17 : pz_H) => pz_pF h17 l0 10 7 (.ref a16) (fun (h18 : pz_H) => pz_nI h18 30 (bc - 1 - 1 - 1 - 1 - 1 - 1) (bs - 33 - 6 - 6 - 6 - 80 - 16) (fun (a19 : Nat) (h20 : pz_H) => pz_pF h20 l0 10 15 (.ref a19) (fun (h21 : pz_H) => pz_nB h21 40 (bc - 1 - 1 - 1 - 1 - 1 - 1 - 1) (bs - 33 - 6 - 6 - 6 - 80 - 16 - 30) (fun (a22 : Nat) (h23 : pz_H) => pz_pF h23 l0 10 16 (.ref a22) (fun (h24 : pz_H) => pz_nB h24 40 (bc - 1 - 1 - 1 - 1 - 1 - 1 - 1 - 1) (bs - 33 - 6 - 6 - 6 - 80 - 16 - 30 - 40) (fun (a25 : Nat) (h26 : pz_H) => pz_pF h26 l0 10 17 (.ref a25) (fun (h27 : pz_H) => pz_nI h27 6 (bc - 1 - 1 - 1 - 1 - 1 - 1 - 1 - 1 - 1) (bs - 33 - 6 - 6 - 6 - 80 - 16 - 30 - 40 - 40) (fun (a28 : Nat) (h29 : pz_H) => pz_pF h29 l0 10 20 (.ref a28) (fun (h30 : pz_H) => pz_nI h30 396 (bc - 1 - 1 - 1 - 1 - 1 - 1 - 1 - 1 - 1 - 1) (bs - 33 - 6 - 6 - 6 - 80 - 16 - 30 - 40 - 40 - 6) (fun (a31 : Nat) (h32 : pz_H) => pz_pF h32 l0 10 21 (.ref a31) (fun (h33 : pz_H) => pz_nI h33 33 (bc - 1 - 1 - 1 - 1 - 1 - 1 - 1 - 1 - 1 - 1 - 1) (bs - 33 - 6 - 6 - 6 - 80 - 16 - 30 - 40 - 40 - 6 - 396) (fun (a34 : Nat) (h35 : pz_H) => pz_pF h35 l0 10 23 (.ref a34) (fun (h36 : pz_H) => pz_nI h36 33 (bc - 1 - 1 - 1 - 1 - 1 - 1 - 1 - 1 - 1 - 1 - 1 - 1) (bs - 33 - 6 - 6 - 6 - 80 - 16 - 30 - 40 - 40 - 6 - 396 - 33) (fun (a37 : Nat) (h38 : pz_H) => pz_pF h38 l0 10 24 (.ref a37) (fun (h39 : pz_H) => pz_nI h39 6 (bc - 1 - 1 - 1 - 1 - 1 - 1 - 1 - 1 - 1 - 1 - 1 - 1 - 1) (bs - 33 - 6 - 6 - 6 - 80 - 16 - 30 - 40 - 40 - 6 - 396 - 33 - 33) (fun (a40 : Nat) (h41 : pz_H) => pz_pF h41 l0 10 25 (.ref a40) (fun (h42 : pz_H) => pz_nI h42 6 (bc - 1 - 1 - 1 - 1 - 1 - 1 - 1 - 1 - 1 - 1 - 1 - 1 - 1 - 1) (bs - 33 - 6 - 6 - 6 - 80 - 16 - 30 - 40 - 40 - 6 - 396 - 33 - 33 - 6) (fun (a43 : Nat) (h44 : pz_H) => pz_pF h44 l0 10 26 (.ref a43) (fun (h45 : pz_H) => pz_pF h45 l0 10 27 (.int (-1)) (fun (h46 : pz_H) => pz_nI h46 240 (bc - 1 - 1 - 1 - 1 - 1 - 1 - 1 - 1 - 1 - 1 - 1 - 1 - 1 - 1 - 1) (bs - 33 - 6 - 6 - 6 - 80 - 16 - 30 - 40 - 40 - 6 - 396 - 33 - 33 - 6 - 6) (fun (a47 : Nat) (h48 : pz_H) => pz_pF h48 l0 10 29 (.ref a47) (fun (h49 : pz_H) => pz_nI h49 10 (bc - 1 - 1 - 1 - 1 - 1 - 1 - 1 - 1 - 1 - 1 - 1 - 1 - 1 - 1 - 1 - 1) (bs - 33 - 6 - 6 - 6 - 80 - 16 - 30 - 40 - 40 - 6 - 396 - 33 - 33 - 6 - 6 - 240) (fun (a50 : Nat) (h51 : pz_H) => pz_pF h51 l0 10 30 (.ref a50) (fun (h52 : pz_H) => pz_nI h52 10 (bc - 1 - 1 - 1 - 1 - 1 - 1 - 1 - 1 - 1 - 1 - 1 - 1 - 1 - 1 - 1 - 1 - 1) (bs - 33 - 6 - 6 - 6 - 80 - 16 - 30 - 40 - 40 - 6 - 396 - 33 - 33 - 6 - 6 - 240 - 10) (fun (a53 : Nat) (h54 : pz_H) => pz_pF h54 l0 10 31 (.ref a53) (fun (h55 : pz_H) => pz_nI h55 10 (bc - 1 - 1 - 1 - 1 - 1 - 1 - 1 - 1 - 1 - 1 - 1 - 1 - 1 - 1 - 1 - 1 - 1 - 1) (bs - 33 - 6 - 6 - 6 - 80 - 16 - 30 - 40 - 40 - 6 - 396 - 33 - 33 - 6 - 6 - 240 - 10 - 10) (fun (a56 : Nat) (h57 : pz_H) => pz_pF h57 l0 10 32 (.ref a56) (fun (h58 : pz_H) => pz_nI h58 12600 (bc - 1 - 1 - 1 - 1 - 1 - 1 - 1 - 1 - 1 - 1 - 1 - 1 - 1 - 1 - 1 - 1 - 1 - 1 - 1) (bs - 33 - 6 - 6 - 6 - 80 - 16 - 30 - 40 - 40 - 6 - 396 - 33 - 33 - 6 - 6 - 240 - 10 - 10 - 10) (fun (a59 : Nat) (h60 : pz_H) => pz_pF h60 l0 10 34 (.ref a59) (fun (h61 : pz_H) => pz_nI h61 448 (bc - 1 - 1 - 1 - 1 - 1 - 1 - 1 - 1 - 1 - 1 - 1 - 1 - 1 - 1 - 1 - 1 - 1 - 1 - 1 - 1) (bs - 33 - 6 - 6 - 6 - 80 - 16 - 30 - 40 - 40 - 6 - 396 - 33 - 33 - 6 - 6 - 240 - 10 - 10 - 10 - 12600) (fun (a62 : Nat) (h63 : pz_H) => pz_pF h63 l0 10 35 (.ref a62) (fun (h64 : pz_H) => pz_nJ h64 6 (bc - 1 - 1 - 1 - 1 - 1 - 1 - 1 - 1 - 1 - 1 - 1 - 1 - 1 - 1 - 1 - 1 - 1 - 1 - 1 - 1 - 1) (bs - 33 - 6 - 6 - 6 - 80 - 16 - 30 - 40 - 40 - 6 - 396 - 33 - 33 - 6 - 6 - 240 - 10 - 10 - 10 - 12600 - 448) (fun (a65 : Nat) (h66 : pz_H) => pz_pF h66 l0 10 36 (.ref a65) (fun (h67 : pz_H) => pz_nJ h67 6 (bc - 1 - 1 - 1 - 1 - 1 - 1 - 1 - 1 - 1 - 1 - 1 - 1 - 1 - 1 - 1 - 1 - 1 - 1 - 1 - 1 - 1 - 1) (bs - 33 - 6 - 6 - 6 - 80 - 16 - 30 - 40 - 40 - 6 - 396 - 33 - 33 - 6 - 6 - 240 - 10 - 10 - 10 - 12600 - 448 - 6) (fun (a68 : Nat) (h69 : pz_H) => pz_pF h69 l0 10 37 (.ref a68) (fun (h70 : pz_H) => pz_nI h70 66 (bc - 1 - 1 - 1 - 1 - 1 - 1 - 1 - 1 - 1 - 1 - 1 - 1 - 1 - 1 - 1 - 1 - 1 - 1 - 1 - 1 - 1 - 1 - 1) (bs - 33 - 6 - 6 - 6 - 80 - 16 - 30 - 40 - 40 - 6 - 396 - 33 - 33 - 6 - 6 - 240 - 10 - 10 - 10 - 12600 - 448 - 6 - 6) (fun (a71 : Nat) (h72 : pz_H) => pz_pF h72 l0 10 40 (.ref a71) (fun (h73 : pz_H) => pz_nZ h73 2 (bc - 1 - 1 - 1 - 1 - 1 - 1 - 1 - 1 - 1 - 1 - 1 - 1 - 1 - 1 - 1 - 1 - 1 - 1 - 1 - 1 - 1 - 1 - 1 - 1) (bs - 33 - 6 - 6 - 6 - 80 - 16 - 30 - 40 - 40 - 6 - 396 - 33 - 33 - 6 - 6 - 240 - 10 - 10 - 10 - 12600 - 448 - 6 - 6 - 66) (fun (a74 : Nat) (h75 : pz_H) => pz_pF h75 l0 10 41 (.ref a74) (fun (h76 : pz_H) => pz_nI h76 2 (bc - 1 - 1 - 1 - 1 - 1 - 1 - 1 - 1 - 1 - 1 - 1 - 1 - 1 - 1 - 1 - 1 - 1 - 1 - 1 - 1 - 1 - 1 - 1 - 1 - 1) (bs - 33 - 6 - 6 - 6 - 80 - 16 - 30 - 40 - 40 - 6 - 396 - 33 - 33 - 6 - 6 - 240 - 10 - 10 - 10 - 12600 - 448 - 6 - 6 - 66 - 2) (fun (a77 : Nat) (h78 : pz_H) => pz_pF h78 l0 10 42 (.ref a77) (fun (h79 : pz_H) => Q none h79)))))))))))))))))))))))))))))))))))))))))))))))))))))) : pz_V mX10_init Ex Q d bc bs 0 [(0, .ref l0)] [] h := by
  refine pz_aload_n (pc' := 1) (x := l0) 0 rfl (pz_dc dX10_init 0 rfl) rfl ?_
  refine pz_obj (M := mX10_init) (pc' := 4) wX10_3 pz_oI pz_oC rfl (pz_dc dX10_init 1 rfl) (Nat.le_of_ble_eq_true rfl) (by omega) ?_
  refine pz_aload_n (pc' := 5) (x := l0) 0 rfl (pz_dc dX10_init 2 rfl) rfl ?_
  refine pz_bipush (pc' := 7) (v := 33) rfl (pz_dc dX10_init 3 rfl) kb_33 ?_
  refine pz_mkI hb pz_ac_int (pc' := 9) rfl (pz_dc dX10_init 4 rfl) (by decide) (by decide) (by decide) (fun a1 h2 hb => ?_)
  refine pz_putv (M := mX10_init) hb pX10_9i rfl rfl (pc' := 12) rfl (pz_dc dX10_init 5 rfl) (fun h3 hb => ?_)
  refine pz_aload_n (pc' := 13) (x := l0) 0 rfl (pz_dc dX10_init 6 rfl) rfl ?_
  refine pz_bipush (pc' := 15) (v := 6) rfl (pz_dc dX10_init 7 rfl) kb_6 ?_
  refine pz_mkI hb pz_ac_int (pc' := 17) rfl (pz_dc dX10_init 8 rfl) (by decide) (by decide) (by decide) (fun a4 h5 hb => ?_)
  refine pz_putv (M := mX10_init) hb pX10_13i rfl rfl (pc' := 20) rfl (pz_dc dX10_init 9 rfl) (fun h6 hb => ?_)
  refine pz_aload_n (pc' := 21) (x := l0) 0 rfl (pz_dc dX10_init 10 rfl) rfl ?_
  refine pz_bipush (pc' := 23) (v := 6) rfl (pz_dc dX10_init 11 rfl) kb_6 ?_
  refine pz_mkI hb pz_ac_int (pc' := 25) rfl (pz_dc dX10_init 12 rfl) (by decide) (by decide) (by decide) (fun a7 h8 hb => ?_)
  refine pz_putv (M := mX10_init) hb pX10_16i rfl rfl (pc' := 28) rfl (pz_dc dX10_init 13 rfl) (fun h9 hb => ?_)
  refine pz_aload_n (pc' := 29) (x := l0) 0 rfl (pz_dc dX10_init 14 rfl) rfl ?_
  refine pz_bipush (pc' := 31) (v := 6) rfl (pz_dc dX10_init 15 rfl) kb_6 ?_
  refine pz_mkI hb pz_ac_int (pc' := 33) rfl (pz_dc dX10_init 16 rfl) (by decide) (by decide) (by decide) (fun a10 h11 hb => ?_)
  refine pz_putv (M := mX10_init) hb pX10_19i rfl rfl (pc' := 36) rfl (pz_dc dX10_init 17 rfl) (fun h12 hb => ?_)
  refine pz_aload_n (pc' := 37) (x := l0) 0 rfl (pz_dc dX10_init 18 rfl) rfl ?_
  refine pz_bipush (pc' := 39) (v := 80) rfl (pz_dc dX10_init 19 rfl) kb_80 ?_
  refine pz_mkB hb pz_ac_byte (pc' := 41) rfl (pz_dc dX10_init 20 rfl) (by decide) (by decide) (by decide) (fun a13 h14 hb => ?_)
  refine pz_putv (M := mX10_init) hb pX10_22i rfl rfl (pc' := 44) rfl (pz_dc dX10_init 21 rfl) (fun h15 hb => ?_)
  refine pz_aload_n (pc' := 45) (x := l0) 0 rfl (pz_dc dX10_init 22 rfl) rfl ?_
  refine pz_bipush (pc' := 47) (v := 16) rfl (pz_dc dX10_init 23 rfl) kb_16 ?_
  refine pz_mkJ hb pz_ac_long (pc' := 49) rfl (pz_dc dX10_init 24 rfl) (by decide) (by decide) (by decide) (fun a16 h17 hb => ?_)
  refine pz_putv (M := mX10_init) hb pX10_26i rfl rfl (pc' := 52) rfl (pz_dc dX10_init 25 rfl) (fun h18 hb => ?_)
  refine pz_aload_n (pc' := 53) (x := l0) 0 rfl (pz_dc dX10_init 26 rfl) rfl ?_
  refine pz_bipush (pc' := 55) (v := 30) rfl (pz_dc dX10_init 27 rfl) kb_30 ?_
  refine pz_mkI hb pz_ac_int (pc' := 57) rfl (pz_dc dX10_init 28 rfl) (by decide) (by decide) (by decide) (fun a19 h20 hb => ?_)
  refine pz_putv (M := mX10_init) hb pX10_30i rfl rfl (pc' := 60) rfl (pz_dc dX10_init 29 rfl) (fun h21 hb => ?_)
  refine pz_aload_n (pc' := 61) (x := l0) 0 rfl (pz_dc dX10_init 30 rfl) rfl ?_
  refine pz_bipush (pc' := 63) (v := 40) rfl (pz_dc dX10_init 31 rfl) kb_40 ?_
  refine pz_mkB hb pz_ac_byte (pc' := 65) rfl (pz_dc dX10_init 32 rfl) (by decide) (by decide) (by decide) (fun a22 h23 hb => ?_)
  refine pz_putv (M := mX10_init) hb (pX10_33 _ rfl) rfl rfl (pc' := 68) rfl (pz_dc dX10_init 33 rfl) (fun h24 hb => ?_)
  refine pz_aload_n (pc' := 69) (x := l0) 0 rfl (pz_dc dX10_init 34 rfl) rfl ?_
  refine pz_bipush (pc' := 71) (v := 40) rfl (pz_dc dX10_init 35 rfl) kb_40 ?_
  refine pz_mkB hb pz_ac_byte (pc' := 73) rfl (pz_dc dX10_init 36 rfl) (by decide) (by decide) (by decide) (fun a25 h26 hb => ?_)
  refine pz_putv (M := mX10_init) hb (pX10_36 _ rfl) rfl rfl (pc' := 76) rfl (pz_dc dX10_init 37 rfl) (fun h27 hb => ?_)
  refine pz_aload_n (pc' := 77) (x := l0) 0 rfl (pz_dc dX10_init 38 rfl) rfl ?_
  refine pz_bipush (pc' := 79) (v := 6) rfl (pz_dc dX10_init 39 rfl) kb_6 ?_
  refine pz_mkI hb pz_ac_int (pc' := 81) rfl (pz_dc dX10_init 40 rfl) (by decide) (by decide) (by decide) (fun a28 h29 hb => ?_)
  refine pz_putv (M := mX10_init) hb pX10_39i rfl rfl (pc' := 84) rfl (pz_dc dX10_init 41 rfl) (fun h30 hb => ?_)
  refine pz_aload_n (pc' := 85) (x := l0) 0 rfl (pz_dc dX10_init 42 rfl) rfl ?_
  refine pz_sipush (pc' := 88) (v := 396) rfl (pz_dc dX10_init 43 rfl) ks_396 ?_
  refine pz_mkI hb pz_ac_int (pc' := 90) rfl (pz_dc dX10_init 44 rfl) (by decide) (by decide) (by decide) (fun a31 h32 hb => ?_)
  refine pz_putv (M := mX10_init) hb pX10_42i rfl rfl (pc' := 93) rfl (pz_dc dX10_init 45 rfl) (fun h33 hb => ?_)
  refine pz_aload_n (pc' := 94) (x := l0) 0 rfl (pz_dc dX10_init 46 rfl) rfl ?_
  refine pz_bipush (pc' := 96) (v := 33) rfl (pz_dc dX10_init 47 rfl) kb_33 ?_
  refine pz_mkI hb pz_ac_int (pc' := 98) rfl (pz_dc dX10_init 48 rfl) (by decide) (by decide) (by decide) (fun a34 h35 hb => ?_)
  refine pz_putv (M := mX10_init) hb pX10_45i rfl rfl (pc' := 101) rfl (pz_dc dX10_init 49 rfl) (fun h36 hb => ?_)
  refine pz_aload_n (pc' := 102) (x := l0) 0 rfl (pz_dc dX10_init 50 rfl) rfl ?_
  refine pz_bipush (pc' := 104) (v := 33) rfl (pz_dc dX10_init 51 rfl) kb_33 ?_
  refine pz_mkI hb pz_ac_int (pc' := 106) rfl (pz_dc dX10_init 52 rfl) (by decide) (by decide) (by decide) (fun a37 h38 hb => ?_)
  refine pz_putv (M := mX10_init) hb pX10_48i rfl rfl (pc' := 109) rfl (pz_dc dX10_init 53 rfl) (fun h39 hb => ?_)
  refine pz_aload_n (pc' := 110) (x := l0) 0 rfl (pz_dc dX10_init 54 rfl) rfl ?_
  refine pz_bipush (pc' := 112) (v := 6) rfl (pz_dc dX10_init 55 rfl) kb_6 ?_
  refine pz_mkI hb pz_ac_int (pc' := 114) rfl (pz_dc dX10_init 56 rfl) (by decide) (by decide) (by decide) (fun a40 h41 hb => ?_)
  refine pz_putv (M := mX10_init) hb pX10_51i rfl rfl (pc' := 117) rfl (pz_dc dX10_init 57 rfl) (fun h42 hb => ?_)
  refine pz_aload_n (pc' := 118) (x := l0) 0 rfl (pz_dc dX10_init 58 rfl) rfl ?_
  refine pz_bipush (pc' := 120) (v := 6) rfl (pz_dc dX10_init 59 rfl) kb_6 ?_
  refine pz_mkI hb pz_ac_int (pc' := 122) rfl (pz_dc dX10_init 60 rfl) (by decide) (by decide) (by decide) (fun a43 h44 hb => ?_)
  refine pz_putv (M := mX10_init) hb pX10_54i rfl rfl (pc' := 125) rfl (pz_dc dX10_init 61 rfl) (fun h45 hb => ?_)
  refine pz_aload_n (pc' := 126) (x := l0) 0 rfl (pz_dc dX10_init 62 rfl) rfl ?_
  refine pz_iconst (pc' := 127) (v := (-1)) rfl (pz_dc dX10_init 63 rfl) ki_m1 ?_
  refine pz_putv (M := mX10_init) hb (pX10_57 _ rfl) rfl rfl (pc' := 130) rfl (pz_dc dX10_init 64 rfl) (fun h46 hb => ?_)
  refine pz_aload_n (pc' := 131) (x := l0) 0 rfl (pz_dc dX10_init 65 rfl) rfl ?_
  refine pz_sipush (pc' := 134) (v := 240) rfl (pz_dc dX10_init 66 rfl) ks_240 ?_
  refine pz_mkI hb pz_ac_int (pc' := 136) rfl (pz_dc dX10_init 67 rfl) (by decide) (by decide) (by decide) (fun a47 h48 hb => ?_)
  refine pz_putv (M := mX10_init) hb pX10_61i rfl rfl (pc' := 139) rfl (pz_dc dX10_init 68 rfl) (fun h49 hb => ?_)
  refine pz_aload_n (pc' := 140) (x := l0) 0 rfl (pz_dc dX10_init 69 rfl) rfl ?_
  refine pz_bipush (pc' := 142) (v := 10) rfl (pz_dc dX10_init 70 rfl) kb_10 ?_
  refine pz_mkI hb pz_ac_int (pc' := 144) rfl (pz_dc dX10_init 71 rfl) (by decide) (by decide) (by decide) (fun a50 h51 hb => ?_)
  refine pz_putv (M := mX10_init) hb pX10_64i rfl rfl (pc' := 147) rfl (pz_dc dX10_init 72 rfl) (fun h52 hb => ?_)
  refine pz_aload_n (pc' := 148) (x := l0) 0 rfl (pz_dc dX10_init 73 rfl) rfl ?_
  refine pz_bipush (pc' := 150) (v := 10) rfl (pz_dc dX10_init 74 rfl) kb_10 ?_
  refine pz_mkI hb pz_ac_int (pc' := 152) rfl (pz_dc dX10_init 75 rfl) (by decide) (by decide) (by decide) (fun a53 h54 hb => ?_)
  refine pz_putv (M := mX10_init) hb pX10_67i rfl rfl (pc' := 155) rfl (pz_dc dX10_init 76 rfl) (fun h55 hb => ?_)
  refine pz_aload_n (pc' := 156) (x := l0) 0 rfl (pz_dc dX10_init 77 rfl) rfl ?_
  refine pz_bipush (pc' := 158) (v := 10) rfl (pz_dc dX10_init 78 rfl) kb_10 ?_
  refine pz_mkI hb pz_ac_int (pc' := 160) rfl (pz_dc dX10_init 79 rfl) (by decide) (by decide) (by decide) (fun a56 h57 hb => ?_)
  refine pz_putv (M := mX10_init) hb pX10_70i rfl rfl (pc' := 163) rfl (pz_dc dX10_init 80 rfl) (fun h58 hb => ?_)
  refine pz_aload_n (pc' := 164) (x := l0) 0 rfl (pz_dc dX10_init 81 rfl) rfl ?_
  refine pz_sipush (pc' := 167) (v := 12600) rfl (pz_dc dX10_init 82 rfl) ks_12600 ?_
  refine pz_mkI hb pz_ac_int (pc' := 169) rfl (pz_dc dX10_init 83 rfl) (by decide) (by decide) (by decide) (fun a59 h60 hb => ?_)
  refine pz_putv (M := mX10_init) hb pX10_73i rfl rfl (pc' := 172) rfl (pz_dc dX10_init 84 rfl) (fun h61 hb => ?_)
  refine pz_aload_n (pc' := 173) (x := l0) 0 rfl (pz_dc dX10_init 85 rfl) rfl ?_
  refine pz_sipush (pc' := 176) (v := 448) rfl (pz_dc dX10_init 86 rfl) ks_448 ?_
  refine pz_mkI hb pz_ac_int (pc' := 178) rfl (pz_dc dX10_init 87 rfl) (by decide) (by decide) (by decide) (fun a62 h63 hb => ?_)
  refine pz_putv (M := mX10_init) hb pX10_76i rfl rfl (pc' := 181) rfl (pz_dc dX10_init 88 rfl) (fun h64 hb => ?_)
  refine pz_aload_n (pc' := 182) (x := l0) 0 rfl (pz_dc dX10_init 89 rfl) rfl ?_
  refine pz_bipush (pc' := 184) (v := 6) rfl (pz_dc dX10_init 90 rfl) kb_6 ?_
  refine pz_mkJ hb pz_ac_long (pc' := 186) rfl (pz_dc dX10_init 91 rfl) (by decide) (by decide) (by decide) (fun a65 h66 hb => ?_)
  refine pz_putv (M := mX10_init) hb pX10_79i rfl rfl (pc' := 189) rfl (pz_dc dX10_init 92 rfl) (fun h67 hb => ?_)
  refine pz_aload_n (pc' := 190) (x := l0) 0 rfl (pz_dc dX10_init 93 rfl) rfl ?_
  refine pz_bipush (pc' := 192) (v := 6) rfl (pz_dc dX10_init 94 rfl) kb_6 ?_
  refine pz_mkJ hb pz_ac_long (pc' := 194) rfl (pz_dc dX10_init 95 rfl) (by decide) (by decide) (by decide) (fun a68 h69 hb => ?_)
  refine pz_putv (M := mX10_init) hb pX10_82i rfl rfl (pc' := 197) rfl (pz_dc dX10_init 96 rfl) (fun h70 hb => ?_)
  refine pz_aload_n (pc' := 198) (x := l0) 0 rfl (pz_dc dX10_init 97 rfl) rfl ?_
  refine pz_bipush (pc' := 200) (v := 66) rfl (pz_dc dX10_init 98 rfl) kb_66 ?_
  refine pz_mkI hb pz_ac_int (pc' := 202) rfl (pz_dc dX10_init 99 rfl) (by decide) (by decide) (by decide) (fun a71 h72 hb => ?_)
  refine pz_putv (M := mX10_init) hb pX10_85i rfl rfl (pc' := 205) rfl (pz_dc dX10_init 100 rfl) (fun h73 hb => ?_)
  refine pz_aload_n (pc' := 206) (x := l0) 0 rfl (pz_dc dX10_init 101 rfl) rfl ?_
  refine pz_iconst (pc' := 207) (v := 2) rfl (pz_dc dX10_init 102 rfl) ki_2 ?_
  refine pz_mkZ hb pz_ac_boolean (pc' := 209) rfl (pz_dc dX10_init 103 rfl) (by decide) (by decide) (by decide) (fun a74 h75 hb => ?_)
  refine pz_putv (M := mX10_init) hb pX10_88i rfl rfl (pc' := 212) rfl (pz_dc dX10_init 104 rfl) (fun h76 hb => ?_)
  refine pz_aload_n (pc' := 213) (x := l0) 0 rfl (pz_dc dX10_init 105 rfl) rfl ?_
  refine pz_iconst (pc' := 214) (v := 2) rfl (pz_dc dX10_init 106 rfl) ki_2 ?_
  refine pz_mkI hb pz_ac_int (pc' := 216) rfl (pz_dc dX10_init 107 rfl) (by decide) (by decide) (by decide) (fun a77 h78 hb => ?_)
  refine pz_putv (M := mX10_init) hb pX10_92i rfl rfl (pc' := 219) rfl (pz_dc dX10_init 108 rfl) (fun h79 hb => ?_)
  exact pz_vret (pz_dc dX10_init 109 rfl) rfl hb
set_option maxRecDepth 20000 in
set_option maxHeartbeats 4000000 in
theorem wX10_thrown_0 {Ex : State → Nat → Prop} {Q : Option Value → pz_H → Prop} {d bc bs : Nat} {l0 : Nat}  {h : pz_H}  (hb : pz_gI h l0 10 9 (fun (x1 : Int32) => Q (some (.int x1)) h)) : pz_V mX10_thrown Ex Q d bc bs 0 [(0, .ref l0)] [] h := by
  refine pz_aload_n (pc' := 1) (x := l0) 0 rfl (pz_dc dX10_thrown 0 rfl) rfl ?_
  refine pz_getI (M := mX10_thrown) hb fX10_95 (pc' := 4) rfl (pz_dc dX10_thrown 1 rfl) (fun x1 hb => ?_)
  exact pz_iret (pz_dc dX10_thrown 2 rfl) rfl hb
set_option maxRecDepth 20000 in
set_option maxHeartbeats 4000000 in
theorem wX10_lost_0 {Ex : State → Nat → Prop} {Q : Option Value → pz_H → Prop} {d bc bs : Nat} {l0 : Nat}  {h : pz_H}  (hb : pz_pF h l0 10 9 (.int 1) (fun (h1 : pz_H) => Q (some (.int 0)) h1)) : pz_V mX10_lost Ex Q d bc bs 0 [(0, .ref l0)] [] h := by
  refine pz_aload_n (pc' := 1) (x := l0) 0 rfl (pz_dc dX10_lost 0 rfl) rfl ?_
  refine pz_iconst (pc' := 2) (v := 1) rfl (pz_dc dX10_lost 1 rfl) ki_1 ?_
  refine pz_putv (M := mX10_lost) hb (pX10_95 _ rfl) rfl rfl (pc' := 5) rfl (pz_dc dX10_lost 2 rfl) (fun h1 hb => ?_)
  refine pz_iconst (pc' := 6) (v := 0) rfl (pz_dc dX10_lost 3 rfl) ki_0 ?_
  exact pz_iret (pz_dc dX10_lost 4 rfl) rfl hb
set_option maxRecDepth 20000 in
set_option maxHeartbeats 4000000 in
theorem wX10_tell_0 {Ex : State → Nat → Prop} {Q : Option Value → pz_H → Prop} {d bc bs : Nat} {l0 : Nat} {l1 : Int64}  {h : pz_H}  (hb : pz_gR h l0 10 7 (fun (a1 : Nat) => pz_gI h l0 10 8 (fun (x2 : Int32) => pz_sJ h a1 x2 l1 (fun (h3 : pz_H) => pz_gI h3 l0 10 8 (fun (x4 : Int32) => pz_pF h3 l0 10 8 (.int (x4 + ((1 : Int32)))) (fun (h5 : pz_H) => Q none h5)))))) : pz_V mX10_tell Ex Q d bc bs 0 [(0, .ref l0), (1, .long l1)] [] h := by
  refine pz_aload_n (pc' := 1) (x := l0) 0 rfl (pz_dc dX10_tell 0 rfl) rfl ?_
  refine pz_getR (M := mX10_tell) hb fX10_26 (pc' := 4) rfl (pz_dc dX10_tell 1 rfl) (fun a1 hb => ?_)
  refine pz_aload_n (pc' := 5) (x := l0) 0 rfl (pz_dc dX10_tell 2 rfl) rfl ?_
  refine pz_getI (M := mX10_tell) hb fX10_98 (pc' := 8) rfl (pz_dc dX10_tell 3 rfl) (fun x2 hb => ?_)
  refine pz_lload_n (pc' := 9) (x := l1) 1 rfl (pz_dc dX10_tell 4 rfl) rfl ?_
  refine pz_stJ hb (pc' := 10) rfl (pz_dc dX10_tell 5 rfl) (fun h3 hb => ?_)
  refine pz_aload_n (pc' := 11) (x := l0) 0 rfl (pz_dc dX10_tell 6 rfl) rfl ?_
  refine pz_dup (pc' := 12) rfl (pz_dc dX10_tell 7 rfl) rfl ?_
  refine pz_getI (M := mX10_tell) hb fX10_98 (pc' := 15) rfl (pz_dc dX10_tell 8 rfl) (fun x4 hb => ?_)
  refine pz_iconst (pc' := 16) (v := 1) rfl (pz_dc dX10_tell 9 rfl) ki_1 ?_
  refine pz_iadd (pc' := 17) rfl (pz_dc dX10_tell 10 rfl) ?_
  refine pz_putv (M := mX10_tell) hb (pX10_98 _ rfl) rfl rfl (pc' := 20) rfl (pz_dc dX10_tell 11 rfl) (fun h5 hb => ?_)
  exact pz_vret (pz_dc dX10_tell 12 rfl) rfl hb
set_option maxRecDepth 20000 in
set_option maxHeartbeats 4000000 in
theorem wX10_sign_0 {Ex : State → Nat → Prop} {Q : Option Value → pz_H → Prop} {d bc bs : Nat} {l0 : Nat} {l1 : Int32}  {h : pz_H}  (hb : pz_pF h l0 10 9 (.int 0) (fun (h1 : pz_H) => pz_gI h1 l0 10 6 (fun (x2 : Int32) => ((x2 + ((4 : Int32))) ≤ ((80 : Int32)) → pz_V mX10_sign Ex Q d bc bs 20 [(0, .ref l0), (1, .int l1), (2, .int 3)] [] h1) ∧ (¬ (x2 + ((4 : Int32))) ≤ ((80 : Int32)) → Q (some (.int ((-1)))) h1)))) : pz_V mX10_sign Ex Q d bc bs 0 [(0, .ref l0), (1, .int l1)] [] h := by
  refine pz_aload_n (pc' := 1) (x := l0) 0 rfl (pz_dc dX10_sign 0 rfl) rfl ?_
  refine pz_iconst (pc' := 2) (v := 0) rfl (pz_dc dX10_sign 1 rfl) ki_0 ?_
  refine pz_putv (M := mX10_sign) hb (pX10_95 _ rfl) rfl rfl (pc' := 5) rfl (pz_dc dX10_sign 2 rfl) (fun h1 hb => ?_)
  refine pz_aload_n (pc' := 6) (x := l0) 0 rfl (pz_dc dX10_sign 3 rfl) rfl ?_
  refine pz_getI (M := mX10_sign) hb fX10_112 (pc' := 9) rfl (pz_dc dX10_sign 4 rfl) (fun x2 hb => ?_)
  refine pz_iconst (pc' := 10) (v := 4) rfl (pz_dc dX10_sign 5 rfl) ki_4 ?_
  refine pz_iadd (pc' := 11) rfl (pz_dc dX10_sign 6 rfl) ?_
  refine pz_bipush (pc' := 13) (v := 80) rfl (pz_dc dX10_sign 7 rfl) kb_80 ?_
  refine pz_icmp_le (pc' := 16) (tgt := 18) rfl (pz_dc dX10_sign 8 rfl) (by decide) (fun hc => ?_) (fun hc => ?_)
  · replace hb := hb.1 hc
    refine pz_iconst (pc' := 19) (v := 3) rfl (pz_dc dX10_sign 11 rfl) ki_3 ?_
    refine pz_istore_n (pc' := 20) (lv' := [(2, .int 3), (0, .ref l0), (1, .int l1)]) rfl (pz_dc dX10_sign 12 rfl) (by decide) rfl ?_
    refine pz_lv (lv' := [(0, .ref l0), (1, .int l1), (2, .int 3)]) [1, 2, 0] rfl ?_
    exact hb
  · replace hb := hb.2 hc
    refine pz_iconst (pc' := 17) (v := (-1)) rfl (pz_dc dX10_sign 9 rfl) ki_m1 ?_
    exact pz_iret (pz_dc dX10_sign 10 rfl) rfl hb
set_option maxRecDepth 20000 in
set_option maxHeartbeats 4000000 in
theorem wX10_sign_20 {Ex : State → Nat → Prop} {Q : Option Value → pz_H → Prop} {d bc bs : Nat} {l0 : Nat} {l1 : Int32} {l2 : Int32}  {h : pz_H}  (hb : (l2 < 0 → pz_gI h l0 10 6 (fun (x1 : Int32) => Q (some (.int x1)) h)) ∧ (¬ l2 < 0 → pz_gR h l0 10 5 (fun (a2 : Nat) => pz_gI h l0 10 6 (fun (x3 : Int32) => pz_pF h l0 10 6 (.int (x3 + ((1 : Int32)))) (fun (h4 : pz_H) => pz_sB h4 a2 x3 ((l1 >>> ((((8 : Int32)) * l2) &&& 31)).toInt8.toInt32) (fun (h5 : pz_H) => pz_V mX10_sign Ex Q d bc bs 20 [(0, .ref l0), (1, .int l1), (2, .int (l2 + (-1 : Int32)))] [] h5)))))) : pz_V mX10_sign Ex Q d bc bs 20 [(0, .ref l0), (1, .int l1), (2, .int l2)] [] h := by
  refine pz_iload_n (pc' := 21) (x := l2) 2 rfl (pz_dc dX10_sign 13 rfl) rfl ?_
  refine pz_if_lt (pc' := 24) (tgt := 53) rfl (pz_dc dX10_sign 14 rfl) (by decide) (fun hc => ?_) (fun hc => ?_)
  · replace hb := hb.1 hc
    refine pz_aload_n (pc' := 54) (x := l0) 0 rfl (pz_dc dX10_sign 33 rfl) rfl ?_
    refine pz_getI (M := mX10_sign) hb fX10_112 (pc' := 57) rfl (pz_dc dX10_sign 34 rfl) (fun x1 hb => ?_)
    exact pz_iret (pz_dc dX10_sign 35 rfl) rfl hb
  · replace hb := hb.2 hc
    refine pz_aload_n (pc' := 25) (x := l0) 0 rfl (pz_dc dX10_sign 15 rfl) rfl ?_
    refine pz_getR (M := mX10_sign) hb fX10_22 (pc' := 28) rfl (pz_dc dX10_sign 16 rfl) (fun a2 hb => ?_)
    refine pz_aload_n (pc' := 29) (x := l0) 0 rfl (pz_dc dX10_sign 17 rfl) rfl ?_
    refine pz_dup (pc' := 30) rfl (pz_dc dX10_sign 18 rfl) rfl ?_
    refine pz_getI (M := mX10_sign) hb fX10_112 (pc' := 33) rfl (pz_dc dX10_sign 19 rfl) (fun x3 hb => ?_)
    refine pz_dup_x1 (pc' := 34) rfl (pz_dc dX10_sign 20 rfl) rfl rfl ?_
    refine pz_iconst (pc' := 35) (v := 1) rfl (pz_dc dX10_sign 21 rfl) ki_1 ?_
    refine pz_iadd (pc' := 36) rfl (pz_dc dX10_sign 22 rfl) ?_
    refine pz_putv (M := mX10_sign) hb (pX10_112 _ rfl) rfl rfl (pc' := 39) rfl (pz_dc dX10_sign 23 rfl) (fun h4 hb => ?_)
    refine pz_iload_n (pc' := 40) (x := l1) 1 rfl (pz_dc dX10_sign 24 rfl) rfl ?_
    refine pz_bipush (pc' := 42) (v := 8) rfl (pz_dc dX10_sign 25 rfl) kb_8 ?_
    refine pz_iload_n (pc' := 43) (x := l2) 2 rfl (pz_dc dX10_sign 26 rfl) rfl ?_
    refine pz_imul (pc' := 44) rfl (pz_dc dX10_sign 27 rfl) ?_
    refine pz_ishr (pc' := 45) rfl (pz_dc dX10_sign 28 rfl) ?_
    refine pz_i2b (pc' := 46) rfl (pz_dc dX10_sign 29 rfl) ?_
    refine pz_stB hb (pc' := 47) rfl (pz_dc dX10_sign 30 rfl) (fun h5 hb => ?_)
    refine pz_iinc (pc' := 50) (x := l2) (v := l2 + (-1 : Int32)) (lv' := [(2, .int (l2 + (-1 : Int32))), (0, .ref l0), (1, .int l1)]) 2 rfl (pz_dc dX10_sign 31 rfl) rfl rfl (by decide) rfl ?_
    refine pz_goto (pc' := 20) (pz_dc dX10_sign 32 rfl) (by decide) ?_
    refine pz_lv (lv' := [(0, .ref l0), (1, .int l1), (2, .int (l2 + (-1 : Int32)))]) [1, 2, 0] rfl ?_
    exact hb
set_option maxRecDepth 20000 in
set_option maxHeartbeats 4000000 in
theorem wX10_end_0 {Ex : State → Nat → Prop} {Q : Option Value → pz_H → Prop} {d bc bs : Nat} {l0 : Nat} {l1 : Int32}  {h : pz_H} (hD : 1 ≤ d) (hb : pz_pF h l0 10 9 (.int 0) (fun (h1 : pz_H) => pz_gI h1 l0 10 6 (fun (x2 : Int32) => (¬ (eX10_in l1 ((0 : Int32)) x2) = 0 → pz_pF h1 l0 10 6 (.int l1) (fun (h3 : pz_H) => Q (some (.int 1)) h3)) ∧ ((eX10_in l1 ((0 : Int32)) x2) = 0 → Q (some (.int 0)) h1)))) : pz_V mX10_end Ex Q d bc bs 0 [(0, .ref l0), (1, .int l1)] [] h := by
  refine pz_aload_n (pc' := 1) (x := l0) 0 rfl (pz_dc dX10_end 0 rfl) rfl ?_
  refine pz_iconst (pc' := 2) (v := 0) rfl (pz_dc dX10_end 1 rfl) ki_0 ?_
  refine pz_putv (M := mX10_end) hb (pX10_95 _ rfl) rfl rfl (pc' := 5) rfl (pz_dc dX10_end 2 rfl) (fun h1 hb => ?_)
  refine pz_iload_n (pc' := 6) (x := l1) 1 rfl (pz_dc dX10_end 3 rfl) rfl ?_
  refine pz_iconst (pc' := 7) (v := 0) rfl (pz_dc dX10_end 4 rfl) ki_0 ?_
  refine pz_aload_n (pc' := 8) (x := l0) 0 rfl (pz_dc dX10_end 5 rfl) rfl ?_
  refine pz_getI (M := mX10_end) hb fX10_112 (pc' := 11) rfl (pz_dc dX10_end 6 rfl) (fun x2 hb => ?_)
  refine pz_callS (M := mX10_end) (N := mX10_in) (d' := 0) (bc1 := 0) (bs1 := 0) (bc2 := bc) (bs2 := bs) (pc' := 14) [.int l1, .int 0, .int x2] sX10_104 rfl (pz_dc dX10_end 7 rfl) rfl (Nat.le_of_ble_eq_true rfl) (Nat.le_of_ble_eq_true rfl) rfl (by omega) (by omega) (by omega) ?_
  refine cX10_in ?_
  show pz_V mX10_end _ _ _ _ _ 14 [(0, .ref l0), (1, .int l1)] [.int (eX10_in l1 ((0 : Int32)) x2)] h1
  refine pz_if_ne (pc' := 17) (tgt := 19) rfl (pz_dc dX10_end 8 rfl) (by decide) (fun hc => ?_) (fun hc => ?_)
  · replace hb := hb.1 hc
    refine pz_aload_n (pc' := 20) (x := l0) 0 rfl (pz_dc dX10_end 11 rfl) rfl ?_
    refine pz_iload_n (pc' := 21) (x := l1) 1 rfl (pz_dc dX10_end 12 rfl) rfl ?_
    refine pz_putv (M := mX10_end) hb (pX10_112 _ rfl) rfl rfl (pc' := 24) rfl (pz_dc dX10_end 13 rfl) (fun h3 hb => ?_)
    refine pz_iconst (pc' := 25) (v := 1) rfl (pz_dc dX10_end 14 rfl) ki_1 ?_
    exact pz_zret (pz_dc dX10_end 15 rfl) rfl ⟨by decide, hb⟩
  · replace hb := hb.2 hc
    refine pz_iconst (pc' := 18) (v := 0) rfl (pz_dc dX10_end 9 rfl) ki_0 ?_
    exact pz_zret (pz_dc dX10_end 10 rfl) rfl ⟨by decide, hb⟩
set_option maxRecDepth 20000 in
set_option maxHeartbeats 4000000 in
theorem wX10_begin_0 {Ex : State → Nat → Prop} {Q : Option Value → pz_H → Prop} {d bc bs : Nat} {l0 : Nat} {l1 : Nat} {l2 : Int32} {l3 : Int32}  {h : pz_H}  (hb : pz_pF h l0 10 10 (.ref l1) (fun (h1 : pz_H) => pz_pF h1 l0 10 11 (.int l2) (fun (h2 : pz_H) => pz_pF h2 l0 10 12 (.int l3) (fun (h3 : pz_H) => pz_pF h3 l0 10 13 (.int 0) (fun (h4 : pz_H) => pz_pF h4 l0 10 14 (.int (-1)) (fun (h5 : pz_H) => Q none h5)))))) : pz_V mX10_begin Ex Q d bc bs 0 [(0, .ref l0), (1, .ref l1), (2, .int l2), (3, .int l3)] [] h := by
  refine pz_aload_n (pc' := 1) (x := l0) 0 rfl (pz_dc dX10_begin 0 rfl) rfl ?_
  refine pz_aload_n (pc' := 2) (x := l1) 1 rfl (pz_dc dX10_begin 1 rfl) rfl ?_
  refine pz_putv (M := mX10_begin) hb (pX10_115 _ rfl) rfl rfl (pc' := 5) rfl (pz_dc dX10_begin 2 rfl) (fun h1 hb => ?_)
  refine pz_aload_n (pc' := 6) (x := l0) 0 rfl (pz_dc dX10_begin 3 rfl) rfl ?_
  refine pz_iload_n (pc' := 7) (x := l2) 2 rfl (pz_dc dX10_begin 4 rfl) rfl ?_
  refine pz_putv (M := mX10_begin) hb (pX10_118 _ rfl) rfl rfl (pc' := 10) rfl (pz_dc dX10_begin 5 rfl) (fun h2 hb => ?_)
  refine pz_aload_n (pc' := 11) (x := l0) 0 rfl (pz_dc dX10_begin 6 rfl) rfl ?_
  refine pz_iload_n (pc' := 12) (x := l3) 3 rfl (pz_dc dX10_begin 7 rfl) rfl ?_
  refine pz_putv (M := mX10_begin) hb (pX10_121 _ rfl) rfl rfl (pc' := 15) rfl (pz_dc dX10_begin 8 rfl) (fun h3 hb => ?_)
  refine pz_aload_n (pc' := 16) (x := l0) 0 rfl (pz_dc dX10_begin 9 rfl) rfl ?_
  refine pz_iconst (pc' := 17) (v := 0) rfl (pz_dc dX10_begin 10 rfl) ki_0 ?_
  refine pz_putv (M := mX10_begin) hb (pX10_124 _ rfl) rfl rfl (pc' := 20) rfl (pz_dc dX10_begin 11 rfl) (fun h4 hb => ?_)
  refine pz_aload_n (pc' := 21) (x := l0) 0 rfl (pz_dc dX10_begin 12 rfl) rfl ?_
  refine pz_iconst (pc' := 22) (v := (-1)) rfl (pz_dc dX10_begin 13 rfl) ki_m1 ?_
  refine pz_putv (M := mX10_begin) hb (pX10_127 _ rfl) rfl rfl (pc' := 25) rfl (pz_dc dX10_begin 14 rfl) (fun h5 hb => ?_)
  exact pz_vret (pz_dc dX10_begin 15 rfl) rfl hb
set_option maxRecDepth 20000 in
set_option maxHeartbeats 4000000 in
theorem wX10_beginText_0 {Ex : State → Nat → Prop} {Q : Option Value → pz_H → Prop} {d bc bs : Nat} {l0 : Nat} {l1 : Int32}  {h : pz_H} (hD : 1 ≤ d) (hb : pz_gR h l0 10 5 (fun (a1 : Nat) => pz_gI h l0 10 6 (fun (x2 : Int32) => pz_is h l0 10 ∧ (pz_kv mX10_begin 0 0 0 (.ref l0 :: [.ref a1, .int x2, .int l1]) h (fun (h3 : pz_H) => pz_pF h3 l0 10 6 (.int 0) (fun (h4 : pz_H) => Q none h4)))))) : pz_V mX10_beginText Ex Q d bc bs 0 [(0, .ref l0), (1, .int l1)] [] h := by
  refine pz_aload_n (pc' := 1) (x := l0) 0 rfl (pz_dc dX10_beginText 0 rfl) rfl ?_
  refine pz_aload_n (pc' := 2) (x := l0) 0 rfl (pz_dc dX10_beginText 1 rfl) rfl ?_
  refine pz_getR (M := mX10_beginText) hb fX10_22 (pc' := 5) rfl (pz_dc dX10_beginText 2 rfl) (fun a1 hb => ?_)
  refine pz_aload_n (pc' := 6) (x := l0) 0 rfl (pz_dc dX10_beginText 3 rfl) rfl ?_
  refine pz_getI (M := mX10_beginText) hb fX10_112 (pc' := 9) rfl (pz_dc dX10_beginText 4 rfl) (fun x2 hb => ?_)
  refine pz_iload_n (pc' := 10) (x := l1) 1 rfl (pz_dc dX10_beginText 5 rfl) rfl ?_
  refine pz_cVv (M := mX10_beginText) (N := mX10_begin) (d' := 0) (bc1 := 0) (bs1 := 0) (bc2 := bc) (bs2 := bs) (pc' := 13) [.ref a1, .int x2, .int l1] hb vX10_130 rfl (pz_dc dX10_beginText 6 rfl) rfl (Nat.le_of_ble_eq_true rfl) (Nat.le_of_ble_eq_true rfl) rfl (by omega) (by omega) (by omega) (fun h3 hb => ?_)
  refine pz_aload_n (pc' := 14) (x := l0) 0 rfl (pz_dc dX10_beginText 7 rfl) rfl ?_
  refine pz_iconst (pc' := 15) (v := 0) rfl (pz_dc dX10_beginText 8 rfl) ki_0 ?_
  refine pz_putv (M := mX10_beginText) hb (pX10_112 _ rfl) rfl rfl (pc' := 18) rfl (pz_dc dX10_beginText 9 rfl) (fun h4 hb => ?_)
  exact pz_vret (pz_dc dX10_beginText 10 rfl) rfl hb
set_option maxRecDepth 20000 in
set_option maxHeartbeats 4000000 in
theorem wX10_here_0 {Ex : State → Nat → Prop} {Q : Option Value → pz_H → Prop} {d bc bs : Nat} {l0 : Nat}  {h : pz_H}  (hb : pz_gI h l0 10 13 (fun (x1 : Int32) => pz_gI h l0 10 11 (fun (x2 : Int32) => (x2 ≤ x1 → Q (some (.int ((-1)))) h) ∧ (¬ x2 ≤ x1 → pz_gI h l0 10 13 (fun (x3 : Int32) => pz_gI h l0 10 12 (fun (x4 : Int32) => (x4 ≤ x3 → Q (some (.int ((-1)))) h) ∧ (¬ x4 ≤ x3 → pz_gR h l0 10 10 (fun (a5 : Nat) => pz_gI h l0 10 13 (fun (x6 : Int32) => pz_rB h a5 x6 (fun (x7 : Int32) => Q (some (.int (x7 &&& ((255 : Int32))))) h)))))))))) : pz_V mX10_here Ex Q d bc bs 0 [(0, .ref l0)] [] h := by
  refine pz_aload_n (pc' := 1) (x := l0) 0 rfl (pz_dc dX10_here 0 rfl) rfl ?_
  refine pz_getI (M := mX10_here) hb fX10_124 (pc' := 4) rfl (pz_dc dX10_here 1 rfl) (fun x1 hb => ?_)
  refine pz_aload_n (pc' := 5) (x := l0) 0 rfl (pz_dc dX10_here 2 rfl) rfl ?_
  refine pz_getI (M := mX10_here) hb fX10_118 (pc' := 8) rfl (pz_dc dX10_here 3 rfl) (fun x2 hb => ?_)
  refine pz_icmp_ge (pc' := 11) (tgt := 38) rfl (pz_dc dX10_here 4 rfl) (by decide) (fun hc => ?_) (fun hc => ?_)
  · replace hb := hb.1 hc
    refine pz_iconst (pc' := 39) (v := (-1)) rfl (pz_dc dX10_here 18 rfl) ki_m1 ?_
    exact pz_iret (pz_dc dX10_here 19 rfl) rfl hb
  · replace hb := hb.2 hc
    refine pz_aload_n (pc' := 12) (x := l0) 0 rfl (pz_dc dX10_here 5 rfl) rfl ?_
    refine pz_getI (M := mX10_here) hb fX10_124 (pc' := 15) rfl (pz_dc dX10_here 6 rfl) (fun x3 hb => ?_)
    refine pz_aload_n (pc' := 16) (x := l0) 0 rfl (pz_dc dX10_here 7 rfl) rfl ?_
    refine pz_getI (M := mX10_here) hb fX10_121 (pc' := 19) rfl (pz_dc dX10_here 8 rfl) (fun x4 hb => ?_)
    refine pz_icmp_ge (pc' := 22) (tgt := 38) rfl (pz_dc dX10_here 9 rfl) (by decide) (fun hc => ?_) (fun hc => ?_)
    · replace hb := hb.1 hc
      refine pz_iconst (pc' := 39) (v := (-1)) rfl (pz_dc dX10_here 18 rfl) ki_m1 ?_
      exact pz_iret (pz_dc dX10_here 19 rfl) rfl hb
    · replace hb := hb.2 hc
      refine pz_aload_n (pc' := 23) (x := l0) 0 rfl (pz_dc dX10_here 10 rfl) rfl ?_
      refine pz_getR (M := mX10_here) hb fX10_115 (pc' := 26) rfl (pz_dc dX10_here 11 rfl) (fun a5 hb => ?_)
      refine pz_aload_n (pc' := 27) (x := l0) 0 rfl (pz_dc dX10_here 12 rfl) rfl ?_
      refine pz_getI (M := mX10_here) hb fX10_124 (pc' := 30) rfl (pz_dc dX10_here 13 rfl) (fun x6 hb => ?_)
      refine pz_ldB hb (pc' := 31) rfl (pz_dc dX10_here 14 rfl) (fun x7 hb => ?_)
      refine pz_sipush (pc' := 34) (v := 255) rfl (pz_dc dX10_here 15 rfl) ks_255 ?_
      refine pz_iand (pc' := 35) rfl (pz_dc dX10_here 16 rfl) ?_
      refine pz_goto (pc' := 39) (pz_dc dX10_here 17 rfl) (by decide) ?_
      exact pz_iret (pz_dc dX10_here 19 rfl) rfl hb
set_option maxRecDepth 20000 in
set_option maxHeartbeats 4000000 in
theorem wX10_fault_0 {Ex : State → Nat → Prop} {Q : Option Value → pz_H → Prop} {d bc bs : Nat} {l0 : Nat} {l1 : Int32}  {h : pz_H} (hD : 1 ≤ d) (hb : pz_is h l0 10 ∧ (pz_gI h l0 10 14 (fun (x1 : Int32) => ((eX10_fine x1) = 0 → Q none h) ∧ (¬ (eX10_fine x1) = 0 → pz_pF h l0 10 14 (.int l1) (fun (h5 : pz_H) => Q none h5))))) : pz_V mX10_fault Ex Q d bc bs 0 [(0, .ref l0), (1, .int l1)] [] h := by
  refine pz_aload_n (pc' := 1) (x := l0) 0 rfl (pz_dc dX10_fault 0 rfl) rfl ?_
  obtain ⟨⟨fs6, hf7⟩, hb⟩ := hb
  obtain ⟨fs2, x1, g3, g4, hb⟩ := hb
  refine pz_callV (M := mX10_fault) (N := mX10_fine) (d' := 0) (bc1 := 0) (bs1 := 0) (bc2 := bc) (bs2 := bs) (pc' := 4) [] vX10_134 rfl (pz_dc dX10_fault 1 rfl) rfl (Nat.le_of_ble_eq_true rfl) (Nat.le_of_ble_eq_true rfl) rfl (by omega) (by omega) (by omega) hf7 ?_
  refine cX10_fine ⟨fs2, x1, g3, g4, ?_⟩
  show pz_V mX10_fault _ _ _ _ _ 4 [(0, .ref l0), (1, .int l1)] [.int (eX10_fine x1)] h
  refine pz_if_eq (pc' := 7) (tgt := 12) rfl (pz_dc dX10_fault 2 rfl) (by decide) (fun hc => ?_) (fun hc => ?_)
  · replace hb := hb.1 hc
    exact pz_vret (pz_dc dX10_fault 6 rfl) rfl hb
  · replace hb := hb.2 hc
    refine pz_aload_n (pc' := 8) (x := l0) 0 rfl (pz_dc dX10_fault 3 rfl) rfl ?_
    refine pz_iload_n (pc' := 9) (x := l1) 1 rfl (pz_dc dX10_fault 4 rfl) rfl ?_
    refine pz_putv (M := mX10_fault) hb (pX10_127 _ rfl) rfl rfl (pc' := 12) rfl (pz_dc dX10_fault 5 rfl) (fun h5 hb => ?_)
    exact pz_vret (pz_dc dX10_fault 6 rfl) rfl hb
set_option maxRecDepth 20000 in
set_option maxHeartbeats 4000000 in
theorem wX10_passes_0 {Ex : State → Nat → Prop} {Q : Option Value → pz_H → Prop} {d bc bs : Nat} {l0 : Nat} {l1 : Int32}  {h : pz_H} (hD : 1 ≤ d) (hb : pz_is h l0 10 ∧ (pz_gI h l0 10 14 (fun (x1 : Int32) => ((eX10_fine x1) = 0 → Q (some (.int 0)) h) ∧ (¬ (eX10_fine x1) = 0 → pz_is h l0 10 ∧ (pz_ki mX10_here 0 0 0 (.ref l0 :: []) h (fun (x6 : Int32) (h5 : pz_H) => (x6 = l1 → pz_gI h5 l0 10 13 (fun (x7 : Int32) => pz_pF h5 l0 10 13 (.int (x7 + ((1 : Int32)))) (fun (h8 : pz_H) => Q (some (.int 1)) h8))) ∧ (¬ x6 = l1 → Q (some (.int 0)) h5))))))) : pz_V mX10_passes Ex Q d bc bs 0 [(0, .ref l0), (1, .int l1)] [] h := by
  refine pz_aload_n (pc' := 1) (x := l0) 0 rfl (pz_dc dX10_passes 0 rfl) rfl ?_
  obtain ⟨⟨fs9, hf10⟩, hb⟩ := hb
  obtain ⟨fs2, x1, g3, g4, hb⟩ := hb
  refine pz_callV (M := mX10_passes) (N := mX10_fine) (d' := 0) (bc1 := 0) (bs1 := 0) (bc2 := bc) (bs2 := bs) (pc' := 4) [] vX10_134 rfl (pz_dc dX10_passes 1 rfl) rfl (Nat.le_of_ble_eq_true rfl) (Nat.le_of_ble_eq_true rfl) rfl (by omega) (by omega) (by omega) hf10 ?_
  refine cX10_fine ⟨fs2, x1, g3, g4, ?_⟩
  show pz_V mX10_passes _ _ _ _ _ 4 [(0, .ref l0), (1, .int l1)] [.int (eX10_fine x1)] h
  refine pz_if_eq (pc' := 7) (tgt := 15) rfl (pz_dc dX10_passes 2 rfl) (by decide) (fun hc => ?_) (fun hc => ?_)
  · replace hb := hb.1 hc
    refine pz_iconst (pc' := 16) (v := 0) rfl (pz_dc dX10_passes 7 rfl) ki_0 ?_
    exact pz_zret (pz_dc dX10_passes 8 rfl) rfl ⟨by decide, hb⟩
  · replace hb := hb.2 hc
    refine pz_aload_n (pc' := 8) (x := l0) 0 rfl (pz_dc dX10_passes 3 rfl) rfl ?_
    refine pz_cVi (M := mX10_passes) (N := mX10_here) (d' := 0) (bc1 := 0) (bs1 := 0) (bc2 := bc) (bs2 := bs) (pc' := 11) [] hb vX10_138 rfl (pz_dc dX10_passes 4 rfl) rfl (Nat.le_of_ble_eq_true rfl) (Nat.le_of_ble_eq_true rfl) rfl (by omega) (by omega) (by omega) (fun x6 h5 hb => ?_)
    refine pz_iload_n (pc' := 12) (x := l1) 1 rfl (pz_dc dX10_passes 5 rfl) rfl ?_
    refine pz_icmp_eq (pc' := 15) (tgt := 17) rfl (pz_dc dX10_passes 6 rfl) (by decide) (fun hc => ?_) (fun hc => ?_)
    · replace hb := hb.1 hc
      refine pz_aload_n (pc' := 18) (x := l0) 0 rfl (pz_dc dX10_passes 9 rfl) rfl ?_
      refine pz_dup (pc' := 19) rfl (pz_dc dX10_passes 10 rfl) rfl ?_
      refine pz_getI (M := mX10_passes) hb fX10_124 (pc' := 22) rfl (pz_dc dX10_passes 11 rfl) (fun x7 hb => ?_)
      refine pz_iconst (pc' := 23) (v := 1) rfl (pz_dc dX10_passes 12 rfl) ki_1 ?_
      refine pz_iadd (pc' := 24) rfl (pz_dc dX10_passes 13 rfl) ?_
      refine pz_putv (M := mX10_passes) hb (pX10_124 _ rfl) rfl rfl (pc' := 27) rfl (pz_dc dX10_passes 14 rfl) (fun h8 hb => ?_)
      refine pz_iconst (pc' := 28) (v := 1) rfl (pz_dc dX10_passes 15 rfl) ki_1 ?_
      exact pz_zret (pz_dc dX10_passes 16 rfl) rfl ⟨by decide, hb⟩
    · replace hb := hb.2 hc
      refine pz_iconst (pc' := 16) (v := 0) rfl (pz_dc dX10_passes 7 rfl) ki_0 ?_
      exact pz_zret (pz_dc dX10_passes 8 rfl) rfl ⟨by decide, hb⟩
set_option maxRecDepth 20000 in
set_option maxHeartbeats 4000000 in
theorem wX10_need_0 {Ex : State → Nat → Prop} {Q : Option Value → pz_H → Prop} {d bc bs : Nat} {l0 : Nat} {l1 : Int32}  {h : pz_H} (hD : 2 ≤ d) (hb : pz_is h l0 10 ∧ (pz_ki mX10_passes 1 0 0 (.ref l0 :: [.int l1]) h (fun (x2 : Int32) (h1 : pz_H) => (¬ x2 = 0 → Q none h1) ∧ (x2 = 0 → pz_gI h1 l0 10 13 (fun (x3 : Int32) => pz_is h1 l0 10 ∧ (pz_kv mX10_fault 1 0 0 (.ref l0 :: [.int x3]) h1 (fun (h4 : pz_H) => Q none h4))))))) : pz_V mX10_need Ex Q d bc bs 0 [(0, .ref l0), (1, .int l1)] [] h := by
  refine pz_aload_n (pc' := 1) (x := l0) 0 rfl (pz_dc dX10_need 0 rfl) rfl ?_
  refine pz_iload_n (pc' := 2) (x := l1) 1 rfl (pz_dc dX10_need 1 rfl) rfl ?_
  refine pz_cVi (M := mX10_need) (N := mX10_passes) (d' := 1) (bc1 := 0) (bs1 := 0) (bc2 := bc) (bs2 := bs) (pc' := 5) [.int l1] hb vX10_142 rfl (pz_dc dX10_need 2 rfl) rfl (Nat.le_of_ble_eq_true rfl) (Nat.le_of_ble_eq_true rfl) rfl (by omega) (by omega) (by omega) (fun x2 h1 hb => ?_)
  refine pz_if_ne (pc' := 8) (tgt := 16) rfl (pz_dc dX10_need 3 rfl) (by decide) (fun hc => ?_) (fun hc => ?_)
  · replace hb := hb.1 hc
    exact pz_vret (pz_dc dX10_need 8 rfl) rfl hb
  · replace hb := hb.2 hc
    refine pz_aload_n (pc' := 9) (x := l0) 0 rfl (pz_dc dX10_need 4 rfl) rfl ?_
    refine pz_aload_n (pc' := 10) (x := l0) 0 rfl (pz_dc dX10_need 5 rfl) rfl ?_
    refine pz_getI (M := mX10_need) hb fX10_124 (pc' := 13) rfl (pz_dc dX10_need 6 rfl) (fun x3 hb => ?_)
    refine pz_cVv (M := mX10_need) (N := mX10_fault) (d' := 1) (bc1 := 0) (bs1 := 0) (bc2 := bc) (bs2 := bs) (pc' := 16) [.int x3] hb vX10_146 rfl (pz_dc dX10_need 7 rfl) rfl (Nat.le_of_ble_eq_true rfl) (Nat.le_of_ble_eq_true rfl) rfl (by omega) (by omega) (by omega) (fun h4 hb => ?_)
    exact pz_vret (pz_dc dX10_need 8 rfl) rfl hb
set_option maxRecDepth 20000 in
set_option maxHeartbeats 4000000 in
theorem wX10_oneOf_0 {Ex : State → Nat → Prop} {Q : Option Value → pz_H → Prop} {d bc bs : Nat} {l0 : Nat} {l1 : Int32} {l2 : Int32}  {h : pz_H} (hD : 2 ≤ d) (hb : pz_is h l0 10 ∧ (pz_gI h l0 10 14 (fun (x1 : Int32) => (¬ (eX10_fine x1) = 0 → pz_is h l0 10 ∧ (pz_ki mX10_here 0 0 0 (.ref l0 :: []) h (fun (x6 : Int32) (h5 : pz_H) => (¬ (eX10_in x6 l1 ((l1 + l2) - ((1 : Int32)))) = 0 → pz_gI h5 l0 10 13 (fun (x7 : Int32) => pz_pF h5 l0 10 13 (.int (x7 + ((1 : Int32)))) (fun (h8 : pz_H) => pz_gR h8 l0 10 10 (fun (a9 : Nat) => pz_gI h8 l0 10 13 (fun (x10 : Int32) => pz_rB h8 a9 (x10 - ((1 : Int32))) (fun (x11 : Int32) => Q (some (.int (x11 - l1))) h8)))))) ∧ ((eX10_in x6 l1 ((l1 + l2) - ((1 : Int32)))) = 0 → pz_gI h5 l0 10 13 (fun (x12 : Int32) => pz_is h5 l0 10 ∧ (pz_kv mX10_fault 1 0 0 (.ref l0 :: [.int x12]) h5 (fun (h13 : pz_H) => Q (some (.int 0)) h13))))))) ∧ ((eX10_fine x1) = 0 → Q (some (.int 0)) h)))) : pz_V mX10_oneOf Ex Q d bc bs 0 [(0, .ref l0), (1, .int l1), (2, .int l2)] [] h := by
  refine pz_aload_n (pc' := 1) (x := l0) 0 rfl (pz_dc dX10_oneOf 0 rfl) rfl ?_
  obtain ⟨⟨fs14, hf15⟩, hb⟩ := hb
  obtain ⟨fs2, x1, g3, g4, hb⟩ := hb
  refine pz_callV (M := mX10_oneOf) (N := mX10_fine) (d' := 0) (bc1 := 0) (bs1 := 0) (bc2 := bc) (bs2 := bs) (pc' := 4) [] vX10_134 rfl (pz_dc dX10_oneOf 1 rfl) rfl (Nat.le_of_ble_eq_true rfl) (Nat.le_of_ble_eq_true rfl) rfl (by omega) (by omega) (by omega) hf15 ?_
  refine cX10_fine ⟨fs2, x1, g3, g4, ?_⟩
  show pz_V mX10_oneOf _ _ _ _ _ 4 [(0, .ref l0), (1, .int l1), (2, .int l2)] [.int (eX10_fine x1)] h
  refine pz_if_ne (pc' := 7) (tgt := 9) rfl (pz_dc dX10_oneOf 2 rfl) (by decide) (fun hc => ?_) (fun hc => ?_)
  · replace hb := hb.1 hc
    refine pz_aload_n (pc' := 10) (x := l0) 0 rfl (pz_dc dX10_oneOf 5 rfl) rfl ?_
    refine pz_cVi (M := mX10_oneOf) (N := mX10_here) (d' := 0) (bc1 := 0) (bs1 := 0) (bc2 := bc) (bs2 := bs) (pc' := 13) [] hb vX10_138 rfl (pz_dc dX10_oneOf 6 rfl) rfl (Nat.le_of_ble_eq_true rfl) (Nat.le_of_ble_eq_true rfl) rfl (by omega) (by omega) (by omega) (fun x6 h5 hb => ?_)
    refine pz_iload_n (pc' := 14) (x := l1) 1 rfl (pz_dc dX10_oneOf 7 rfl) rfl ?_
    refine pz_iload_n (pc' := 15) (x := l1) 1 rfl (pz_dc dX10_oneOf 8 rfl) rfl ?_
    refine pz_iload_n (pc' := 16) (x := l2) 2 rfl (pz_dc dX10_oneOf 9 rfl) rfl ?_
    refine pz_iadd (pc' := 17) rfl (pz_dc dX10_oneOf 10 rfl) ?_
    refine pz_iconst (pc' := 18) (v := 1) rfl (pz_dc dX10_oneOf 11 rfl) ki_1 ?_
    refine pz_isub (pc' := 19) rfl (pz_dc dX10_oneOf 12 rfl) ?_
    refine pz_callS (M := mX10_oneOf) (N := mX10_in) (d' := 0) (bc1 := 0) (bs1 := 0) (bc2 := bc) (bs2 := bs) (pc' := 22) [.int x6, .int l1, .int ((l1 + l2) - ((1 : Int32)))] sX10_104 rfl (pz_dc dX10_oneOf 13 rfl) rfl (Nat.le_of_ble_eq_true rfl) (Nat.le_of_ble_eq_true rfl) rfl (by omega) (by omega) (by omega) ?_
    refine cX10_in ?_
    show pz_V mX10_oneOf _ _ _ _ _ 22 [(0, .ref l0), (1, .int l1), (2, .int l2)] [.int (eX10_in x6 l1 ((l1 + l2) - ((1 : Int32))))] h5
    refine pz_if_ne (pc' := 25) (tgt := 35) rfl (pz_dc dX10_oneOf 14 rfl) (by decide) (fun hc => ?_) (fun hc => ?_)
    · replace hb := hb.1 hc
      refine pz_aload_n (pc' := 36) (x := l0) 0 rfl (pz_dc dX10_oneOf 21 rfl) rfl ?_
      refine pz_dup (pc' := 37) rfl (pz_dc dX10_oneOf 22 rfl) rfl ?_
      refine pz_getI (M := mX10_oneOf) hb fX10_124 (pc' := 40) rfl (pz_dc dX10_oneOf 23 rfl) (fun x7 hb => ?_)
      refine pz_iconst (pc' := 41) (v := 1) rfl (pz_dc dX10_oneOf 24 rfl) ki_1 ?_
      refine pz_iadd (pc' := 42) rfl (pz_dc dX10_oneOf 25 rfl) ?_
      refine pz_putv (M := mX10_oneOf) hb (pX10_124 _ rfl) rfl rfl (pc' := 45) rfl (pz_dc dX10_oneOf 26 rfl) (fun h8 hb => ?_)
      refine pz_aload_n (pc' := 46) (x := l0) 0 rfl (pz_dc dX10_oneOf 27 rfl) rfl ?_
      refine pz_getR (M := mX10_oneOf) hb fX10_115 (pc' := 49) rfl (pz_dc dX10_oneOf 28 rfl) (fun a9 hb => ?_)
      refine pz_aload_n (pc' := 50) (x := l0) 0 rfl (pz_dc dX10_oneOf 29 rfl) rfl ?_
      refine pz_getI (M := mX10_oneOf) hb fX10_124 (pc' := 53) rfl (pz_dc dX10_oneOf 30 rfl) (fun x10 hb => ?_)
      refine pz_iconst (pc' := 54) (v := 1) rfl (pz_dc dX10_oneOf 31 rfl) ki_1 ?_
      refine pz_isub (pc' := 55) rfl (pz_dc dX10_oneOf 32 rfl) ?_
      refine pz_ldB hb (pc' := 56) rfl (pz_dc dX10_oneOf 33 rfl) (fun x11 hb => ?_)
      refine pz_iload_n (pc' := 57) (x := l1) 1 rfl (pz_dc dX10_oneOf 34 rfl) rfl ?_
      refine pz_isub (pc' := 58) rfl (pz_dc dX10_oneOf 35 rfl) ?_
      exact pz_iret (pz_dc dX10_oneOf 36 rfl) rfl hb
    · replace hb := hb.2 hc
      refine pz_aload_n (pc' := 26) (x := l0) 0 rfl (pz_dc dX10_oneOf 15 rfl) rfl ?_
      refine pz_aload_n (pc' := 27) (x := l0) 0 rfl (pz_dc dX10_oneOf 16 rfl) rfl ?_
      refine pz_getI (M := mX10_oneOf) hb fX10_124 (pc' := 30) rfl (pz_dc dX10_oneOf 17 rfl) (fun x12 hb => ?_)
      refine pz_cVv (M := mX10_oneOf) (N := mX10_fault) (d' := 1) (bc1 := 0) (bs1 := 0) (bc2 := bc) (bs2 := bs) (pc' := 33) [.int x12] hb vX10_146 rfl (pz_dc dX10_oneOf 18 rfl) rfl (Nat.le_of_ble_eq_true rfl) (Nat.le_of_ble_eq_true rfl) rfl (by omega) (by omega) (by omega) (fun h13 hb => ?_)
      refine pz_iconst (pc' := 34) (v := 0) rfl (pz_dc dX10_oneOf 19 rfl) ki_0 ?_
      exact pz_iret (pz_dc dX10_oneOf 20 rfl) rfl hb
  · replace hb := hb.2 hc
    refine pz_iconst (pc' := 8) (v := 0) rfl (pz_dc dX10_oneOf 3 rfl) ki_0 ?_
    exact pz_iret (pz_dc dX10_oneOf 4 rfl) rfl hb
set_option maxRecDepth 20000 in
set_option maxHeartbeats 4000000 in
theorem wX10_number_0 {Ex : State → Nat → Prop} {Q : Option Value → pz_H → Prop} {d bc bs : Nat} {l0 : Nat} {l1 : Int32}  {h : pz_H} (hD : 3 ≤ d) (hb : pz_is h l0 10 ∧ (pz_ki mX10_oneOf 2 0 0 (.ref l0 :: [.int 48, .int 10]) h (fun (x2 : Int32) (h1 : pz_H) => pz_V mX10_number Ex Q d bc bs 11 [(0, .ref l0), (1, .int l1), (2, .int x2), (3, .int 1)] [] h1))) : pz_V mX10_number Ex Q d bc bs 0 [(0, .ref l0), (1, .int l1)] [] h := by
  refine pz_aload_n (pc' := 1) (x := l0) 0 rfl (pz_dc dX10_number 0 rfl) rfl ?_
  refine pz_bipush (pc' := 3) (v := 48) rfl (pz_dc dX10_number 1 rfl) kb_48 ?_
  refine pz_bipush (pc' := 5) (v := 10) rfl (pz_dc dX10_number 2 rfl) kb_10 ?_
  refine pz_cVi (M := mX10_number) (N := mX10_oneOf) (d' := 2) (bc1 := 0) (bs1 := 0) (bc2 := bc) (bs2 := bs) (pc' := 8) [.int 48, .int 10] hb vX10_150 rfl (pz_dc dX10_number 3 rfl) rfl (Nat.le_of_ble_eq_true rfl) (Nat.le_of_ble_eq_true rfl) rfl (by omega) (by omega) (by omega) (fun x2 h1 hb => ?_)
  refine pz_istore_n (pc' := 9) (lv' := [(2, .int x2), (0, .ref l0), (1, .int l1)]) rfl (pz_dc dX10_number 4 rfl) (by decide) rfl ?_
  refine pz_iconst (pc' := 10) (v := 1) rfl (pz_dc dX10_number 5 rfl) ki_1 ?_
  refine pz_istore_n (pc' := 11) (lv' := [(3, .int 1), (2, .int x2), (0, .ref l0), (1, .int l1)]) rfl (pz_dc dX10_number 6 rfl) (by decide) rfl ?_
  refine pz_lv (lv' := [(0, .ref l0), (1, .int l1), (2, .int x2), (3, .int 1)]) [2, 3, 1, 0] rfl ?_
  exact hb
set_option maxRecDepth 20000 in
set_option maxHeartbeats 4000000 in
theorem wX10_number_11 {Ex : State → Nat → Prop} {Q : Option Value → pz_H → Prop} {d bc bs : Nat} {l0 : Nat} {l1 : Int32} {l2 : Int32} {l3 : Int32}  {h : pz_H} (hD : 3 ≤ d) (hb : (l1 ≤ l3 → Q (some (.int l2)) h) ∧ (¬ l1 ≤ l3 → pz_is h l0 10 ∧ (pz_gI h l0 10 14 (fun (x1 : Int32) => ((eX10_fine x1) = 0 → Q (some (.int l2)) h) ∧ (¬ (eX10_fine x1) = 0 → pz_is h l0 10 ∧ (pz_ki mX10_here 0 0 0 (.ref l0 :: []) h (fun (x6 : Int32) (h5 : pz_H) => ((eX10_in x6 ((48 : Int32)) ((57 : Int32))) = 0 → Q (some (.int l2)) h5) ∧ (¬ (eX10_in x6 ((48 : Int32)) ((57 : Int32))) = 0 → pz_is h5 l0 10 ∧ (pz_ki mX10_oneOf 2 0 0 (.ref l0 :: [.int 48, .int 10]) h5 (fun (x8 : Int32) (h7 : pz_H) => pz_V mX10_number Ex Q d bc bs 11 [(0, .ref l0), (1, .int l1), (2, .int ((((10 : Int32)) * l2) + x8)), (3, .int (l3 + (1 : Int32)))] [] h7)))))))))) : pz_V mX10_number Ex Q d bc bs 11 [(0, .ref l0), (1, .int l1), (2, .int l2), (3, .int l3)] [] h := by
  refine pz_iload_n (pc' := 12) (x := l3) 3 rfl (pz_dc dX10_number 7 rfl) rfl ?_
  refine pz_iload_n (pc' := 13) (x := l1) 1 rfl (pz_dc dX10_number 8 rfl) rfl ?_
  refine pz_icmp_ge (pc' := 16) (tgt := 57) rfl (pz_dc dX10_number 9 rfl) (by decide) (fun hc => ?_) (fun hc => ?_)
  · replace hb := hb.1 hc
    refine pz_iload_n (pc' := 58) (x := l2) 2 rfl (pz_dc dX10_number 30 rfl) rfl ?_
    exact pz_iret (pz_dc dX10_number 31 rfl) rfl hb
  · replace hb := hb.2 hc
    refine pz_aload_n (pc' := 17) (x := l0) 0 rfl (pz_dc dX10_number 10 rfl) rfl ?_
    obtain ⟨⟨fs9, hf10⟩, hb⟩ := hb
    obtain ⟨fs2, x1, g3, g4, hb⟩ := hb
    refine pz_callV (M := mX10_number) (N := mX10_fine) (d' := 0) (bc1 := 0) (bs1 := 0) (bc2 := bc) (bs2 := bs) (pc' := 20) [] vX10_134 rfl (pz_dc dX10_number 11 rfl) rfl (Nat.le_of_ble_eq_true rfl) (Nat.le_of_ble_eq_true rfl) rfl (by omega) (by omega) (by omega) hf10 ?_
    refine cX10_fine ⟨fs2, x1, g3, g4, ?_⟩
    show pz_V mX10_number _ _ _ _ _ 20 [(0, .ref l0), (1, .int l1), (2, .int l2), (3, .int l3)] [.int (eX10_fine x1)] h
    refine pz_if_eq (pc' := 23) (tgt := 57) rfl (pz_dc dX10_number 12 rfl) (by decide) (fun hc => ?_) (fun hc => ?_)
    · replace hb := hb.1 hc
      refine pz_iload_n (pc' := 58) (x := l2) 2 rfl (pz_dc dX10_number 30 rfl) rfl ?_
      exact pz_iret (pz_dc dX10_number 31 rfl) rfl hb
    · replace hb := hb.2 hc
      refine pz_aload_n (pc' := 24) (x := l0) 0 rfl (pz_dc dX10_number 13 rfl) rfl ?_
      refine pz_cVi (M := mX10_number) (N := mX10_here) (d' := 0) (bc1 := 0) (bs1 := 0) (bc2 := bc) (bs2 := bs) (pc' := 27) [] hb vX10_138 rfl (pz_dc dX10_number 14 rfl) rfl (Nat.le_of_ble_eq_true rfl) (Nat.le_of_ble_eq_true rfl) rfl (by omega) (by omega) (by omega) (fun x6 h5 hb => ?_)
      refine pz_bipush (pc' := 29) (v := 48) rfl (pz_dc dX10_number 15 rfl) kb_48 ?_
      refine pz_bipush (pc' := 31) (v := 57) rfl (pz_dc dX10_number 16 rfl) kb_57 ?_
      refine pz_callS (M := mX10_number) (N := mX10_in) (d' := 0) (bc1 := 0) (bs1 := 0) (bc2 := bc) (bs2 := bs) (pc' := 34) [.int x6, .int 48, .int 57] sX10_104 rfl (pz_dc dX10_number 17 rfl) rfl (Nat.le_of_ble_eq_true rfl) (Nat.le_of_ble_eq_true rfl) rfl (by omega) (by omega) (by omega) ?_
      refine cX10_in ?_
      show pz_V mX10_number _ _ _ _ _ 34 [(0, .ref l0), (1, .int l1), (2, .int l2), (3, .int l3)] [.int (eX10_in x6 ((48 : Int32)) ((57 : Int32)))] h5
      refine pz_if_eq (pc' := 37) (tgt := 57) rfl (pz_dc dX10_number 18 rfl) (by decide) (fun hc => ?_) (fun hc => ?_)
      · replace hb := hb.1 hc
        refine pz_iload_n (pc' := 58) (x := l2) 2 rfl (pz_dc dX10_number 30 rfl) rfl ?_
        exact pz_iret (pz_dc dX10_number 31 rfl) rfl hb
      · replace hb := hb.2 hc
        refine pz_bipush (pc' := 39) (v := 10) rfl (pz_dc dX10_number 19 rfl) kb_10 ?_
        refine pz_iload_n (pc' := 40) (x := l2) 2 rfl (pz_dc dX10_number 20 rfl) rfl ?_
        refine pz_imul (pc' := 41) rfl (pz_dc dX10_number 21 rfl) ?_
        refine pz_aload_n (pc' := 42) (x := l0) 0 rfl (pz_dc dX10_number 22 rfl) rfl ?_
        refine pz_bipush (pc' := 44) (v := 48) rfl (pz_dc dX10_number 23 rfl) kb_48 ?_
        refine pz_bipush (pc' := 46) (v := 10) rfl (pz_dc dX10_number 24 rfl) kb_10 ?_
        refine pz_cVi (M := mX10_number) (N := mX10_oneOf) (d' := 2) (bc1 := 0) (bs1 := 0) (bc2 := bc) (bs2 := bs) (pc' := 49) [.int 48, .int 10] hb vX10_150 rfl (pz_dc dX10_number 25 rfl) rfl (Nat.le_of_ble_eq_true rfl) (Nat.le_of_ble_eq_true rfl) rfl (by omega) (by omega) (by omega) (fun x8 h7 hb => ?_)
        refine pz_iadd (pc' := 50) rfl (pz_dc dX10_number 26 rfl) ?_
        refine pz_istore_n (pc' := 51) (lv' := [(2, .int ((((10 : Int32)) * l2) + x8)), (0, .ref l0), (1, .int l1), (3, .int l3)]) rfl (pz_dc dX10_number 27 rfl) (by decide) rfl ?_
        refine pz_iinc (pc' := 54) (x := l3) (v := l3 + (1 : Int32)) (lv' := [(3, .int (l3 + (1 : Int32))), (2, .int ((((10 : Int32)) * l2) + x8)), (0, .ref l0), (1, .int l1)]) 3 rfl (pz_dc dX10_number 28 rfl) rfl rfl (by decide) rfl ?_
        refine pz_goto (pc' := 11) (pz_dc dX10_number 29 rfl) (by decide) ?_
        refine pz_lv (lv' := [(0, .ref l0), (1, .int l1), (2, .int ((((10 : Int32)) * l2) + x8)), (3, .int (l3 + (1 : Int32)))]) [2, 3, 1, 0] rfl ?_
        exact hb
set_option maxRecDepth 20000 in
set_option maxHeartbeats 4000000 in
theorem wX10_wasRight_0 {Ex : State → Nat → Prop} {Q : Option Value → pz_H → Prop} {d bc bs : Nat} {l0 : Nat}  {h : pz_H} (hD : 2 ≤ d) (hb : pz_gI h l0 10 13 (fun (x1 : Int32) => pz_gI h l0 10 11 (fun (x2 : Int32) => (x2 ≤ x1 → pz_is h l0 10 ∧ (pz_gI h l0 10 14 (fun (x3 : Int32) => Q (some (.int (eX10_fine x3))) h))) ∧ (¬ x2 ≤ x1 → pz_gI h l0 10 13 (fun (x9 : Int32) => pz_is h l0 10 ∧ (pz_kv mX10_fault 1 0 0 (.ref l0 :: [.int x9]) h (fun (h10 : pz_H) => pz_is h10 l0 10 ∧ (pz_gI h10 l0 10 14 (fun (x11 : Int32) => Q (some (.int (eX10_fine x11))) h10))))))))) : pz_V mX10_wasRight Ex Q d bc bs 0 [(0, .ref l0)] [] h := by
  refine pz_aload_n (pc' := 1) (x := l0) 0 rfl (pz_dc dX10_wasRight 0 rfl) rfl ?_
  refine pz_getI (M := mX10_wasRight) hb fX10_124 (pc' := 4) rfl (pz_dc dX10_wasRight 1 rfl) (fun x1 hb => ?_)
  refine pz_aload_n (pc' := 5) (x := l0) 0 rfl (pz_dc dX10_wasRight 2 rfl) rfl ?_
  refine pz_getI (M := mX10_wasRight) hb fX10_118 (pc' := 8) rfl (pz_dc dX10_wasRight 3 rfl) (fun x2 hb => ?_)
  refine pz_icmp_ge (pc' := 11) (tgt := 19) rfl (pz_dc dX10_wasRight 4 rfl) (by decide) (fun hc => ?_) (fun hc => ?_)
  · replace hb := hb.1 hc
    refine pz_aload_n (pc' := 20) (x := l0) 0 rfl (pz_dc dX10_wasRight 9 rfl) rfl ?_
    obtain ⟨⟨fs7, hf8⟩, hb⟩ := hb
    obtain ⟨fs4, x3, g5, g6, hb⟩ := hb
    refine pz_callV (M := mX10_wasRight) (N := mX10_fine) (d' := 0) (bc1 := 0) (bs1 := 0) (bc2 := bc) (bs2 := bs) (pc' := 23) [] vX10_134 rfl (pz_dc dX10_wasRight 10 rfl) rfl (Nat.le_of_ble_eq_true rfl) (Nat.le_of_ble_eq_true rfl) rfl (by omega) (by omega) (by omega) hf8 ?_
    refine cX10_fine ⟨fs4, x3, g5, g6, ?_⟩
    show pz_V mX10_wasRight _ _ _ _ _ 23 [(0, .ref l0)] [.int (eX10_fine x3)] h
    exact pz_zret (pz_dc dX10_wasRight 11 rfl) rfl ⟨zX10_fine _, hb⟩
  · replace hb := hb.2 hc
    refine pz_aload_n (pc' := 12) (x := l0) 0 rfl (pz_dc dX10_wasRight 5 rfl) rfl ?_
    refine pz_aload_n (pc' := 13) (x := l0) 0 rfl (pz_dc dX10_wasRight 6 rfl) rfl ?_
    refine pz_getI (M := mX10_wasRight) hb fX10_124 (pc' := 16) rfl (pz_dc dX10_wasRight 7 rfl) (fun x9 hb => ?_)
    refine pz_cVv (M := mX10_wasRight) (N := mX10_fault) (d' := 1) (bc1 := 0) (bs1 := 0) (bc2 := bc) (bs2 := bs) (pc' := 19) [.int x9] hb vX10_146 rfl (pz_dc dX10_wasRight 8 rfl) rfl (Nat.le_of_ble_eq_true rfl) (Nat.le_of_ble_eq_true rfl) rfl (by omega) (by omega) (by omega) (fun h10 hb => ?_)
    refine pz_aload_n (pc' := 20) (x := l0) 0 rfl (pz_dc dX10_wasRight 9 rfl) rfl ?_
    obtain ⟨⟨fs15, hf16⟩, hb⟩ := hb
    obtain ⟨fs12, x11, g13, g14, hb⟩ := hb
    refine pz_callV (M := mX10_wasRight) (N := mX10_fine) (d' := 0) (bc1 := 0) (bs1 := 0) (bc2 := bc) (bs2 := bs) (pc' := 23) [] vX10_134 rfl (pz_dc dX10_wasRight 10 rfl) rfl (Nat.le_of_ble_eq_true rfl) (Nat.le_of_ble_eq_true rfl) rfl (by omega) (by omega) (by omega) hf16 ?_
    refine cX10_fine ⟨fs12, x11, g13, g14, ?_⟩
    show pz_V mX10_wasRight _ _ _ _ _ 23 [(0, .ref l0)] [.int (eX10_fine x11)] h10
    exact pz_zret (pz_dc dX10_wasRight 11 rfl) rfl ⟨zX10_fine _, hb⟩
set_option maxRecDepth 20000 in
set_option maxHeartbeats 4000000 in
theorem wX10_readLake_0 {Ex : State → Nat → Prop} {Q : Option Value → pz_H → Prop} {d bc bs : Nat} {l0 : Nat} {l1 : Int32}  {h : pz_H} (hD : 3 ≤ d) (hb : pz_is h l0 10 ∧ (pz_ki mX10_oneOf 2 0 0 (.ref l0 :: [.int 48, .int 10]) h (fun (x2 : Int32) (h1 : pz_H) => pz_gR h1 l0 10 15 (fun (a3 : Nat) => pz_is h1 l0 10 ∧ (pz_ki mX10_oneOf 2 0 0 (.ref l0 :: [.int 48, .int 10]) h1 (fun (x5 : Int32) (h4 : pz_H) => pz_sI h4 a3 (((5 : Int32)) * l1) ((((10 : Int32)) * x2) + x5) (fun (h6 : pz_H) => pz_is h6 l0 10 ∧ (pz_gI h6 l0 10 14 (fun (x7 : Int32) => ((eX10_fine x7) = 0 → pz_V mX10_readLake Ex Q d bc bs 58 [(0, .ref l0), (1, .int l1), (2, .int (((5 : Int32)) * l1))] [] h6) ∧ (¬ (eX10_fine x7) = 0 → pz_gR h6 l0 10 15 (fun (a11 : Nat) => pz_rI h6 a11 (((5 : Int32)) * l1) (fun (x12 : Int32) => (¬ x12 = 0 → pz_V mX10_readLake Ex Q d bc bs 58 [(0, .ref l0), (1, .int l1), (2, .int (((5 : Int32)) * l1))] [] h6) ∧ (x12 = 0 → pz_gI h6 l0 10 13 (fun (x13 : Int32) => pz_is h6 l0 10 ∧ (pz_kv mX10_fault 1 0 0 (.ref l0 :: [.int (x13 - ((1 : Int32)))]) h6 (fun (h14 : pz_H) => pz_V mX10_readLake Ex Q d bc bs 58 [(0, .ref l0), (1, .int l1), (2, .int (((5 : Int32)) * l1))] [] h14)))))))))))))))) : pz_V mX10_readLake Ex Q d bc bs 0 [(0, .ref l0), (1, .int l1)] [] h := by
  refine pz_iconst (pc' := 1) (v := 5) rfl (pz_dc dX10_readLake 0 rfl) ki_5 ?_
  refine pz_iload_n (pc' := 2) (x := l1) 1 rfl (pz_dc dX10_readLake 1 rfl) rfl ?_
  refine pz_imul (pc' := 3) rfl (pz_dc dX10_readLake 2 rfl) ?_
  refine pz_istore_n (pc' := 4) (lv' := [(2, .int (((5 : Int32)) * l1)), (0, .ref l0), (1, .int l1)]) rfl (pz_dc dX10_readLake 3 rfl) (by decide) rfl ?_
  refine pz_aload_n (pc' := 5) (x := l0) 1 rfl (pz_dc dX10_readLake 4 rfl) rfl ?_
  refine pz_bipush (pc' := 7) (v := 48) rfl (pz_dc dX10_readLake 5 rfl) kb_48 ?_
  refine pz_bipush (pc' := 9) (v := 10) rfl (pz_dc dX10_readLake 6 rfl) kb_10 ?_
  refine pz_cVi (M := mX10_readLake) (N := mX10_oneOf) (d' := 2) (bc1 := 0) (bs1 := 0) (bc2 := bc) (bs2 := bs) (pc' := 12) [.int 48, .int 10] hb vX10_150 rfl (pz_dc dX10_readLake 7 rfl) rfl (Nat.le_of_ble_eq_true rfl) (Nat.le_of_ble_eq_true rfl) rfl (by omega) (by omega) (by omega) (fun x2 h1 hb => ?_)
  refine pz_istore_n (pc' := 13) (lv' := [(3, .int x2), (2, .int (((5 : Int32)) * l1)), (0, .ref l0), (1, .int l1)]) rfl (pz_dc dX10_readLake 8 rfl) (by decide) rfl ?_
  refine pz_aload_n (pc' := 14) (x := l0) 2 rfl (pz_dc dX10_readLake 9 rfl) rfl ?_
  refine pz_getR (M := mX10_readLake) hb fX10_30 (pc' := 17) rfl (pz_dc dX10_readLake 10 rfl) (fun a3 hb => ?_)
  refine pz_iload_n (pc' := 18) (x := ((5 : Int32)) * l1) 1 rfl (pz_dc dX10_readLake 11 rfl) rfl ?_
  refine pz_bipush (pc' := 20) (v := 10) rfl (pz_dc dX10_readLake 12 rfl) kb_10 ?_
  refine pz_iload_n (pc' := 21) (x := x2) 0 rfl (pz_dc dX10_readLake 13 rfl) rfl ?_
  refine pz_imul (pc' := 22) rfl (pz_dc dX10_readLake 14 rfl) ?_
  refine pz_aload_n (pc' := 23) (x := l0) 2 rfl (pz_dc dX10_readLake 15 rfl) rfl ?_
  refine pz_bipush (pc' := 25) (v := 48) rfl (pz_dc dX10_readLake 16 rfl) kb_48 ?_
  refine pz_bipush (pc' := 27) (v := 10) rfl (pz_dc dX10_readLake 17 rfl) kb_10 ?_
  refine pz_cVi (M := mX10_readLake) (N := mX10_oneOf) (d' := 2) (bc1 := 0) (bs1 := 0) (bc2 := bc) (bs2 := bs) (pc' := 30) [.int 48, .int 10] hb vX10_150 rfl (pz_dc dX10_readLake 18 rfl) rfl (Nat.le_of_ble_eq_true rfl) (Nat.le_of_ble_eq_true rfl) rfl (by omega) (by omega) (by omega) (fun x5 h4 hb => ?_)
  refine pz_iadd (pc' := 31) rfl (pz_dc dX10_readLake 19 rfl) ?_
  refine pz_stI hb (pc' := 32) rfl (pz_dc dX10_readLake 20 rfl) (fun h6 hb => ?_)
  refine pz_aload_n (pc' := 33) (x := l0) 2 rfl (pz_dc dX10_readLake 21 rfl) rfl ?_
  obtain ⟨⟨fs15, hf16⟩, hb⟩ := hb
  obtain ⟨fs8, x7, g9, g10, hb⟩ := hb
  refine pz_callV (M := mX10_readLake) (N := mX10_fine) (d' := 0) (bc1 := 0) (bs1 := 0) (bc2 := bc) (bs2 := bs) (pc' := 36) [] vX10_134 rfl (pz_dc dX10_readLake 22 rfl) rfl (Nat.le_of_ble_eq_true rfl) (Nat.le_of_ble_eq_true rfl) rfl (by omega) (by omega) (by omega) hf16 ?_
  refine cX10_fine ⟨fs8, x7, g9, g10, ?_⟩
  show pz_V mX10_readLake _ _ _ _ _ 36 [(3, .int x2), (2, .int (((5 : Int32)) * l1)), (0, .ref l0), (1, .int l1)] [.int (eX10_fine x7)] h6
  refine pz_if_eq (pc' := 39) (tgt := 58) rfl (pz_dc dX10_readLake 23 rfl) (by decide) (fun hc => ?_) (fun hc => ?_)
  · replace hb := hb.1 hc
    refine pz_lv (lv' := [(0, .ref l0), (1, .int l1), (2, .int (((5 : Int32)) * l1))]) [2, 3, 1] rfl ?_
    exact hb
  · replace hb := hb.2 hc
    refine pz_aload_n (pc' := 40) (x := l0) 2 rfl (pz_dc dX10_readLake 24 rfl) rfl ?_
    refine pz_getR (M := mX10_readLake) hb fX10_30 (pc' := 43) rfl (pz_dc dX10_readLake 25 rfl) (fun a11 hb => ?_)
    refine pz_iload_n (pc' := 44) (x := ((5 : Int32)) * l1) 1 rfl (pz_dc dX10_readLake 26 rfl) rfl ?_
    refine pz_ldI hb (pc' := 45) rfl (pz_dc dX10_readLake 27 rfl) (fun x12 hb => ?_)
    refine pz_if_ne (pc' := 48) (tgt := 58) rfl (pz_dc dX10_readLake 28 rfl) (by decide) (fun hc => ?_) (fun hc => ?_)
    · replace hb := hb.1 hc
      refine pz_lv (lv' := [(0, .ref l0), (1, .int l1), (2, .int (((5 : Int32)) * l1))]) [2, 3, 1] rfl ?_
      exact hb
    · replace hb := hb.2 hc
      refine pz_aload_n (pc' := 49) (x := l0) 2 rfl (pz_dc dX10_readLake 29 rfl) rfl ?_
      refine pz_aload_n (pc' := 50) (x := l0) 2 rfl (pz_dc dX10_readLake 30 rfl) rfl ?_
      refine pz_getI (M := mX10_readLake) hb fX10_124 (pc' := 53) rfl (pz_dc dX10_readLake 31 rfl) (fun x13 hb => ?_)
      refine pz_iconst (pc' := 54) (v := 1) rfl (pz_dc dX10_readLake 32 rfl) ki_1 ?_
      refine pz_isub (pc' := 55) rfl (pz_dc dX10_readLake 33 rfl) ?_
      refine pz_cVv (M := mX10_readLake) (N := mX10_fault) (d' := 1) (bc1 := 0) (bs1 := 0) (bc2 := bc) (bs2 := bs) (pc' := 58) [.int (x13 - ((1 : Int32)))] hb vX10_146 rfl (pz_dc dX10_readLake 34 rfl) rfl (Nat.le_of_ble_eq_true rfl) (Nat.le_of_ble_eq_true rfl) rfl (by omega) (by omega) (by omega) (fun h14 hb => ?_)
      refine pz_lv (lv' := [(0, .ref l0), (1, .int l1), (2, .int (((5 : Int32)) * l1))]) [2, 3, 1] rfl ?_
      exact hb
set_option maxRecDepth 20000 in
set_option maxHeartbeats 4000000 in
theorem wX10_readLake_58 {Ex : State → Nat → Prop} {Q : Option Value → pz_H → Prop} {d bc bs : Nat} {l0 : Nat} {l1 : Int32} {l2 : Int32}  {h : pz_H} (hD : 3 ≤ d) (hb : pz_gR h l0 10 15 (fun (a1 : Nat) => pz_is h l0 10 ∧ (pz_ki mX10_oneOf 2 0 0 (.ref l0 :: [.int 48, .int 10]) h (fun (x3 : Int32) (h2 : pz_H) => pz_sI h2 a1 (l2 + ((1 : Int32))) x3 (fun (h4 : pz_H) => pz_gR h4 l0 10 15 (fun (a5 : Nat) => pz_is h4 l0 10 ∧ (pz_ki mX10_oneOf 2 0 0 (.ref l0 :: [.int 48, .int 10]) h4 (fun (x7 : Int32) (h6 : pz_H) => pz_sI h6 a5 (l2 + ((2 : Int32))) x7 (fun (h8 : pz_H) => pz_gR h8 l0 10 15 (fun (a9 : Nat) => pz_is h8 l0 10 ∧ (pz_ki mX10_oneOf 2 0 0 (.ref l0 :: [.int 97, .int 4]) h8 (fun (x11 : Int32) (h10 : pz_H) => pz_sI h10 a9 (l2 + ((3 : Int32))) x11 (fun (h12 : pz_H) => pz_gR h12 l0 10 15 (fun (a13 : Nat) => pz_is h12 l0 10 ∧ (pz_ki mX10_passes 1 0 0 (.ref l0 :: [.int 45]) h12 (fun (x15 : Int32) (h14 : pz_H) => (x15 = 0 → pz_gI h14 l0 10 1 (fun (x16 : Int32) => pz_is h14 l0 10 ∧ (pz_ki mX10_oneOf 2 0 0 (.ref l0 :: [.int 48, .int (x16 + l1)]) h14 (fun (x18 : Int32) (h17 : pz_H) => pz_sI h17 a13 (l2 + ((4 : Int32))) x18 (fun (h19 : pz_H) => Q none h19))))) ∧ (¬ x15 = 0 → pz_sI h14 a13 (l2 + ((4 : Int32))) ((-1)) (fun (h20 : pz_H) => Q none h20)))))))))))))))))) : pz_V mX10_readLake Ex Q d bc bs 58 [(0, .ref l0), (1, .int l1), (2, .int l2)] [] h := by
  refine pz_aload_n (pc' := 59) (x := l0) 0 rfl (pz_dc dX10_readLake 35 rfl) rfl ?_
  refine pz_getR (M := mX10_readLake) hb fX10_30 (pc' := 62) rfl (pz_dc dX10_readLake 36 rfl) (fun a1 hb => ?_)
  refine pz_iload_n (pc' := 63) (x := l2) 2 rfl (pz_dc dX10_readLake 37 rfl) rfl ?_
  refine pz_iconst (pc' := 64) (v := 1) rfl (pz_dc dX10_readLake 38 rfl) ki_1 ?_
  refine pz_iadd (pc' := 65) rfl (pz_dc dX10_readLake 39 rfl) ?_
  refine pz_aload_n (pc' := 66) (x := l0) 0 rfl (pz_dc dX10_readLake 40 rfl) rfl ?_
  refine pz_bipush (pc' := 68) (v := 48) rfl (pz_dc dX10_readLake 41 rfl) kb_48 ?_
  refine pz_bipush (pc' := 70) (v := 10) rfl (pz_dc dX10_readLake 42 rfl) kb_10 ?_
  refine pz_cVi (M := mX10_readLake) (N := mX10_oneOf) (d' := 2) (bc1 := 0) (bs1 := 0) (bc2 := bc) (bs2 := bs) (pc' := 73) [.int 48, .int 10] hb vX10_150 rfl (pz_dc dX10_readLake 43 rfl) rfl (Nat.le_of_ble_eq_true rfl) (Nat.le_of_ble_eq_true rfl) rfl (by omega) (by omega) (by omega) (fun x3 h2 hb => ?_)
  refine pz_stI hb (pc' := 74) rfl (pz_dc dX10_readLake 44 rfl) (fun h4 hb => ?_)
  refine pz_aload_n (pc' := 75) (x := l0) 0 rfl (pz_dc dX10_readLake 45 rfl) rfl ?_
  refine pz_getR (M := mX10_readLake) hb fX10_30 (pc' := 78) rfl (pz_dc dX10_readLake 46 rfl) (fun a5 hb => ?_)
  refine pz_iload_n (pc' := 79) (x := l2) 2 rfl (pz_dc dX10_readLake 47 rfl) rfl ?_
  refine pz_iconst (pc' := 80) (v := 2) rfl (pz_dc dX10_readLake 48 rfl) ki_2 ?_
  refine pz_iadd (pc' := 81) rfl (pz_dc dX10_readLake 49 rfl) ?_
  refine pz_aload_n (pc' := 82) (x := l0) 0 rfl (pz_dc dX10_readLake 50 rfl) rfl ?_
  refine pz_bipush (pc' := 84) (v := 48) rfl (pz_dc dX10_readLake 51 rfl) kb_48 ?_
  refine pz_bipush (pc' := 86) (v := 10) rfl (pz_dc dX10_readLake 52 rfl) kb_10 ?_
  refine pz_cVi (M := mX10_readLake) (N := mX10_oneOf) (d' := 2) (bc1 := 0) (bs1 := 0) (bc2 := bc) (bs2 := bs) (pc' := 89) [.int 48, .int 10] hb vX10_150 rfl (pz_dc dX10_readLake 53 rfl) rfl (Nat.le_of_ble_eq_true rfl) (Nat.le_of_ble_eq_true rfl) rfl (by omega) (by omega) (by omega) (fun x7 h6 hb => ?_)
  refine pz_stI hb (pc' := 90) rfl (pz_dc dX10_readLake 54 rfl) (fun h8 hb => ?_)
  refine pz_aload_n (pc' := 91) (x := l0) 0 rfl (pz_dc dX10_readLake 55 rfl) rfl ?_
  refine pz_getR (M := mX10_readLake) hb fX10_30 (pc' := 94) rfl (pz_dc dX10_readLake 56 rfl) (fun a9 hb => ?_)
  refine pz_iload_n (pc' := 95) (x := l2) 2 rfl (pz_dc dX10_readLake 57 rfl) rfl ?_
  refine pz_iconst (pc' := 96) (v := 3) rfl (pz_dc dX10_readLake 58 rfl) ki_3 ?_
  refine pz_iadd (pc' := 97) rfl (pz_dc dX10_readLake 59 rfl) ?_
  refine pz_aload_n (pc' := 98) (x := l0) 0 rfl (pz_dc dX10_readLake 60 rfl) rfl ?_
  refine pz_bipush (pc' := 100) (v := 97) rfl (pz_dc dX10_readLake 61 rfl) kb_97 ?_
  refine pz_iconst (pc' := 101) (v := 4) rfl (pz_dc dX10_readLake 62 rfl) ki_4 ?_
  refine pz_cVi (M := mX10_readLake) (N := mX10_oneOf) (d' := 2) (bc1 := 0) (bs1 := 0) (bc2 := bc) (bs2 := bs) (pc' := 104) [.int 97, .int 4] hb vX10_150 rfl (pz_dc dX10_readLake 63 rfl) rfl (Nat.le_of_ble_eq_true rfl) (Nat.le_of_ble_eq_true rfl) rfl (by omega) (by omega) (by omega) (fun x11 h10 hb => ?_)
  refine pz_stI hb (pc' := 105) rfl (pz_dc dX10_readLake 64 rfl) (fun h12 hb => ?_)
  refine pz_aload_n (pc' := 106) (x := l0) 0 rfl (pz_dc dX10_readLake 65 rfl) rfl ?_
  refine pz_getR (M := mX10_readLake) hb fX10_30 (pc' := 109) rfl (pz_dc dX10_readLake 66 rfl) (fun a13 hb => ?_)
  refine pz_iload_n (pc' := 110) (x := l2) 2 rfl (pz_dc dX10_readLake 67 rfl) rfl ?_
  refine pz_iconst (pc' := 111) (v := 4) rfl (pz_dc dX10_readLake 68 rfl) ki_4 ?_
  refine pz_iadd (pc' := 112) rfl (pz_dc dX10_readLake 69 rfl) ?_
  refine pz_aload_n (pc' := 113) (x := l0) 0 rfl (pz_dc dX10_readLake 70 rfl) rfl ?_
  refine pz_bipush (pc' := 115) (v := 45) rfl (pz_dc dX10_readLake 71 rfl) kb_45 ?_
  refine pz_cVi (M := mX10_readLake) (N := mX10_passes) (d' := 1) (bc1 := 0) (bs1 := 0) (bc2 := bc) (bs2 := bs) (pc' := 118) [.int 45] hb vX10_142 rfl (pz_dc dX10_readLake 72 rfl) rfl (Nat.le_of_ble_eq_true rfl) (Nat.le_of_ble_eq_true rfl) rfl (by omega) (by omega) (by omega) (fun x15 h14 hb => ?_)
  refine pz_if_eq (pc' := 121) (tgt := 125) rfl (pz_dc dX10_readLake 73 rfl) (by decide) (fun hc => ?_) (fun hc => ?_)
  · replace hb := hb.1 hc
    refine pz_aload_n (pc' := 126) (x := l0) 0 rfl (pz_dc dX10_readLake 76 rfl) rfl ?_
    refine pz_bipush (pc' := 128) (v := 48) rfl (pz_dc dX10_readLake 77 rfl) kb_48 ?_
    refine pz_aload_n (pc' := 129) (x := l0) 0 rfl (pz_dc dX10_readLake 78 rfl) rfl ?_
    refine pz_getI (M := mX10_readLake) hb fX10_101 (pc' := 132) rfl (pz_dc dX10_readLake 79 rfl) (fun x16 hb => ?_)
    refine pz_iload_n (pc' := 133) (x := l1) 1 rfl (pz_dc dX10_readLake 80 rfl) rfl ?_
    refine pz_iadd (pc' := 134) rfl (pz_dc dX10_readLake 81 rfl) ?_
    refine pz_cVi (M := mX10_readLake) (N := mX10_oneOf) (d' := 2) (bc1 := 0) (bs1 := 0) (bc2 := bc) (bs2 := bs) (pc' := 137) [.int 48, .int (x16 + l1)] hb vX10_150 rfl (pz_dc dX10_readLake 82 rfl) rfl (Nat.le_of_ble_eq_true rfl) (Nat.le_of_ble_eq_true rfl) rfl (by omega) (by omega) (by omega) (fun x18 h17 hb => ?_)
    refine pz_stI hb (pc' := 138) rfl (pz_dc dX10_readLake 83 rfl) (fun h19 hb => ?_)
    exact pz_vret (pz_dc dX10_readLake 84 rfl) rfl hb
  · replace hb := hb.2 hc
    refine pz_iconst (pc' := 122) (v := (-1)) rfl (pz_dc dX10_readLake 74 rfl) ki_m1 ?_
    refine pz_goto (pc' := 137) (pz_dc dX10_readLake 75 rfl) (by decide) ?_
    refine pz_stI hb (pc' := 138) rfl (pz_dc dX10_readLake 83 rfl) (fun h20 hb => ?_)
    exact pz_vret (pz_dc dX10_readLake 84 rfl) rfl hb
set_option maxRecDepth 20000 in
set_option maxHeartbeats 4000000 in
theorem wX10_lakes_0 {Ex : State → Nat → Prop} {Q : Option Value → pz_H → Prop} {d bc bs : Nat} {l0 : Nat}  {h : pz_H} (hD : 4 ≤ d) (hb : pz_pF h l0 10 9 (.int 0) (fun (h1 : pz_H) => pz_is h1 l0 10 ∧ (pz_kv mX10_beginText 1 0 0 (.ref l0 :: [.int 41]) h1 (fun (h2 : pz_H) => pz_gI h2 l0 10 11 (fun (x3 : Int32) => (¬ x3 = 0 → pz_V mX10_lakes Ex Q d bc bs 24 [(0, .ref l0), (1, .int 0), (2, .int 1)] [] h2) ∧ (x3 = 0 → Q (some (.int 0)) h2)))))) : pz_V mX10_lakes Ex Q d bc bs 0 [(0, .ref l0)] [] h := by
  refine pz_aload_n (pc' := 1) (x := l0) 0 rfl (pz_dc dX10_lakes 0 rfl) rfl ?_
  refine pz_iconst (pc' := 2) (v := 0) rfl (pz_dc dX10_lakes 1 rfl) ki_0 ?_
  refine pz_putv (M := mX10_lakes) hb (pX10_95 _ rfl) rfl rfl (pc' := 5) rfl (pz_dc dX10_lakes 2 rfl) (fun h1 hb => ?_)
  refine pz_aload_n (pc' := 6) (x := l0) 0 rfl (pz_dc dX10_lakes 3 rfl) rfl ?_
  refine pz_bipush (pc' := 8) (v := 41) rfl (pz_dc dX10_lakes 4 rfl) kb_41 ?_
  refine pz_cVv (M := mX10_lakes) (N := mX10_beginText) (d' := 1) (bc1 := 0) (bs1 := 0) (bc2 := bc) (bs2 := bs) (pc' := 11) [.int 41] hb vX10_154 rfl (pz_dc dX10_lakes 5 rfl) rfl (Nat.le_of_ble_eq_true rfl) (Nat.le_of_ble_eq_true rfl) rfl (by omega) (by omega) (by omega) (fun h2 hb => ?_)
  refine pz_aload_n (pc' := 12) (x := l0) 0 rfl (pz_dc dX10_lakes 6 rfl) rfl ?_
  refine pz_getI (M := mX10_lakes) hb fX10_118 (pc' := 15) rfl (pz_dc dX10_lakes 7 rfl) (fun x3 hb => ?_)
  refine pz_if_ne (pc' := 18) (tgt := 20) rfl (pz_dc dX10_lakes 8 rfl) (by decide) (fun hc => ?_) (fun hc => ?_)
  · replace hb := hb.1 hc
    refine pz_iconst (pc' := 21) (v := 0) rfl (pz_dc dX10_lakes 11 rfl) ki_0 ?_
    refine pz_istore_n (pc' := 22) (lv' := [(1, .int 0), (0, .ref l0)]) rfl (pz_dc dX10_lakes 12 rfl) (by decide) rfl ?_
    refine pz_iconst (pc' := 23) (v := 1) rfl (pz_dc dX10_lakes 13 rfl) ki_1 ?_
    refine pz_istore_n (pc' := 24) (lv' := [(2, .int 1), (1, .int 0), (0, .ref l0)]) rfl (pz_dc dX10_lakes 14 rfl) (by decide) rfl ?_
    refine pz_lv (lv' := [(0, .ref l0), (1, .int 0), (2, .int 1)]) [2, 1, 0] rfl ?_
    exact hb
  · replace hb := hb.2 hc
    refine pz_iconst (pc' := 19) (v := 0) rfl (pz_dc dX10_lakes 9 rfl) ki_0 ?_
    exact pz_iret (pz_dc dX10_lakes 10 rfl) rfl hb
set_option maxRecDepth 20000 in
set_option maxHeartbeats 4000000 in
theorem wX10_lakes_24 {Ex : State → Nat → Prop} {Q : Option Value → pz_H → Prop} {d bc bs : Nat} {l0 : Nat} {l1 : Int32} {l2 : Int32}  {h : pz_H} (hD : 4 ≤ d) (hb : (l2 = 0 → pz_is h l0 10 ∧ (pz_ki mX10_wasRight 2 0 0 (.ref l0 :: []) h (fun (x2 : Int32) (h1 : pz_H) => (¬ x2 = 0 → pz_V mX10_lakes Ex Q d bc bs 91 [(0, .ref l0), (1, .int l1), (3, .int 0)] [] h1) ∧ (x2 = 0 → pz_gI h1 l0 10 14 (fun (x3 : Int32) => Q (some (.int (((-1 : Int32)) - x3))) h1))))) ∧ (¬ l2 = 0 → pz_is h l0 10 ∧ (pz_gI h l0 10 14 (fun (x4 : Int32) => ((eX10_fine x4) = 0 → pz_is h l0 10 ∧ (pz_ki mX10_wasRight 2 0 0 (.ref l0 :: []) h (fun (x9 : Int32) (h8 : pz_H) => (¬ x9 = 0 → pz_V mX10_lakes Ex Q d bc bs 91 [(0, .ref l0), (1, .int l1), (3, .int 0)] [] h8) ∧ (x9 = 0 → pz_gI h8 l0 10 14 (fun (x10 : Int32) => Q (some (.int (((-1 : Int32)) - x10))) h8))))) ∧ (¬ (eX10_fine x4) = 0 → pz_gI h l0 10 1 (fun (x11 : Int32) => (¬ (x11 + l1) = ((6 : Int32)) → pz_is h l0 10 ∧ (pz_kv mX10_readLake 3 0 0 (.ref l0 :: [.int l1]) h (fun (h12 : pz_H) => pz_is h12 l0 10 ∧ (pz_ki mX10_passes 1 0 0 (.ref l0 :: [.int 59]) h12 (fun (x14 : Int32) (h13 : pz_H) => pz_V mX10_lakes Ex Q d bc bs 24 [(0, .ref l0), (1, .int (l1 + (1 : Int32))), (2, .int x14)] [] h13))))) ∧ ((x11 + l1) = ((6 : Int32)) → pz_gI h l0 10 13 (fun (x15 : Int32) => pz_is h l0 10 ∧ (pz_kv mX10_fault 1 0 0 (.ref l0 :: [.int x15]) h (fun (h16 : pz_H) => pz_is h16 l0 10 ∧ (pz_ki mX10_passes 1 0 0 (.ref l0 :: [.int 59]) h16 (fun (x18 : Int32) (h17 : pz_H) => pz_V mX10_lakes Ex Q d bc bs 24 [(0, .ref l0), (1, .int (l1 + (1 : Int32))), (2, .int x18)] [] h17)))))))))))) : pz_V mX10_lakes Ex Q d bc bs 24 [(0, .ref l0), (1, .int l1), (2, .int l2)] [] h := by
  refine pz_iload_n (pc' := 25) (x := l2) 2 rfl (pz_dc dX10_lakes 15 rfl) rfl ?_
  refine pz_if_eq (pc' := 28) (tgt := 75) rfl (pz_dc dX10_lakes 16 rfl) (by decide) (fun hc => ?_) (fun hc => ?_)
  · replace hb := hb.1 hc
    refine pz_aload_n (pc' := 76) (x := l0) 0 rfl (pz_dc dX10_lakes 40 rfl) rfl ?_
    refine pz_cVi (M := mX10_lakes) (N := mX10_wasRight) (d' := 2) (bc1 := 0) (bs1 := 0) (bc2 := bc) (bs2 := bs) (pc' := 79) [] hb vX10_160 rfl (pz_dc dX10_lakes 41 rfl) rfl (Nat.le_of_ble_eq_true rfl) (Nat.le_of_ble_eq_true rfl) rfl (by omega) (by omega) (by omega) (fun x2 h1 hb => ?_)
    refine pz_if_ne (pc' := 82) (tgt := 89) rfl (pz_dc dX10_lakes 42 rfl) (by decide) (fun hc => ?_) (fun hc => ?_)
    · replace hb := hb.1 hc
      refine pz_iconst (pc' := 90) (v := 0) rfl (pz_dc dX10_lakes 48 rfl) ki_0 ?_
      refine pz_istore_n (pc' := 91) (lv' := [(3, .int 0), (0, .ref l0), (1, .int l1), (2, .int l2)]) rfl (pz_dc dX10_lakes 49 rfl) (by decide) rfl ?_
      refine pz_lv (lv' := [(0, .ref l0), (1, .int l1), (3, .int 0)]) [1, 2, 0] rfl ?_
      exact hb
    · replace hb := hb.2 hc
      refine pz_iconst (pc' := 83) (v := (-1)) rfl (pz_dc dX10_lakes 43 rfl) ki_m1 ?_
      refine pz_aload_n (pc' := 84) (x := l0) 0 rfl (pz_dc dX10_lakes 44 rfl) rfl ?_
      refine pz_getI (M := mX10_lakes) hb fX10_127 (pc' := 87) rfl (pz_dc dX10_lakes 45 rfl) (fun x3 hb => ?_)
      refine pz_isub (pc' := 88) rfl (pz_dc dX10_lakes 46 rfl) ?_
      exact pz_iret (pz_dc dX10_lakes 47 rfl) rfl hb
  · replace hb := hb.2 hc
    refine pz_aload_n (pc' := 29) (x := l0) 0 rfl (pz_dc dX10_lakes 17 rfl) rfl ?_
    obtain ⟨⟨fs19, hf20⟩, hb⟩ := hb
    obtain ⟨fs5, x4, g6, g7, hb⟩ := hb
    refine pz_callV (M := mX10_lakes) (N := mX10_fine) (d' := 0) (bc1 := 0) (bs1 := 0) (bc2 := bc) (bs2 := bs) (pc' := 32) [] vX10_134 rfl (pz_dc dX10_lakes 18 rfl) rfl (Nat.le_of_ble_eq_true rfl) (Nat.le_of_ble_eq_true rfl) rfl (by omega) (by omega) (by omega) hf20 ?_
    refine cX10_fine ⟨fs5, x4, g6, g7, ?_⟩
    show pz_V mX10_lakes _ _ _ _ _ 32 [(0, .ref l0), (1, .int l1), (2, .int l2)] [.int (eX10_fine x4)] h
    refine pz_if_eq (pc' := 35) (tgt := 75) rfl (pz_dc dX10_lakes 19 rfl) (by decide) (fun hc => ?_) (fun hc => ?_)
    · replace hb := hb.1 hc
      refine pz_aload_n (pc' := 76) (x := l0) 0 rfl (pz_dc dX10_lakes 40 rfl) rfl ?_
      refine pz_cVi (M := mX10_lakes) (N := mX10_wasRight) (d' := 2) (bc1 := 0) (bs1 := 0) (bc2 := bc) (bs2 := bs) (pc' := 79) [] hb vX10_160 rfl (pz_dc dX10_lakes 41 rfl) rfl (Nat.le_of_ble_eq_true rfl) (Nat.le_of_ble_eq_true rfl) rfl (by omega) (by omega) (by omega) (fun x9 h8 hb => ?_)
      refine pz_if_ne (pc' := 82) (tgt := 89) rfl (pz_dc dX10_lakes 42 rfl) (by decide) (fun hc => ?_) (fun hc => ?_)
      · replace hb := hb.1 hc
        refine pz_iconst (pc' := 90) (v := 0) rfl (pz_dc dX10_lakes 48 rfl) ki_0 ?_
        refine pz_istore_n (pc' := 91) (lv' := [(3, .int 0), (0, .ref l0), (1, .int l1), (2, .int l2)]) rfl (pz_dc dX10_lakes 49 rfl) (by decide) rfl ?_
        refine pz_lv (lv' := [(0, .ref l0), (1, .int l1), (3, .int 0)]) [1, 2, 0] rfl ?_
        exact hb
      · replace hb := hb.2 hc
        refine pz_iconst (pc' := 83) (v := (-1)) rfl (pz_dc dX10_lakes 43 rfl) ki_m1 ?_
        refine pz_aload_n (pc' := 84) (x := l0) 0 rfl (pz_dc dX10_lakes 44 rfl) rfl ?_
        refine pz_getI (M := mX10_lakes) hb fX10_127 (pc' := 87) rfl (pz_dc dX10_lakes 45 rfl) (fun x10 hb => ?_)
        refine pz_isub (pc' := 88) rfl (pz_dc dX10_lakes 46 rfl) ?_
        exact pz_iret (pz_dc dX10_lakes 47 rfl) rfl hb
    · replace hb := hb.2 hc
      refine pz_aload_n (pc' := 36) (x := l0) 0 rfl (pz_dc dX10_lakes 20 rfl) rfl ?_
      refine pz_getI (M := mX10_lakes) hb fX10_101 (pc' := 39) rfl (pz_dc dX10_lakes 21 rfl) (fun x11 hb => ?_)
      refine pz_iload_n (pc' := 40) (x := l1) 1 rfl (pz_dc dX10_lakes 22 rfl) rfl ?_
      refine pz_iadd (pc' := 41) rfl (pz_dc dX10_lakes 23 rfl) ?_
      refine pz_bipush (pc' := 43) (v := 6) rfl (pz_dc dX10_lakes 24 rfl) kb_6 ?_
      refine pz_icmp_ne (pc' := 46) (tgt := 57) rfl (pz_dc dX10_lakes 25 rfl) (by decide) (fun hc => ?_) (fun hc => ?_)
      · replace hb := hb.1 hc
        refine pz_aload_n (pc' := 58) (x := l0) 0 rfl (pz_dc dX10_lakes 31 rfl) rfl ?_
        refine pz_iload_n (pc' := 59) (x := l1) 1 rfl (pz_dc dX10_lakes 32 rfl) rfl ?_
        refine pz_cVv (M := mX10_lakes) (N := mX10_readLake) (d' := 3) (bc1 := 0) (bs1 := 0) (bc2 := bc) (bs2 := bs) (pc' := 62) [.int l1] hb vX10_157 rfl (pz_dc dX10_lakes 33 rfl) rfl (Nat.le_of_ble_eq_true rfl) (Nat.le_of_ble_eq_true rfl) rfl (by omega) (by omega) (by omega) (fun h12 hb => ?_)
        refine pz_iinc (pc' := 65) (x := l1) (v := l1 + (1 : Int32)) (lv' := [(1, .int (l1 + (1 : Int32))), (0, .ref l0), (2, .int l2)]) 1 rfl (pz_dc dX10_lakes 34 rfl) rfl rfl (by decide) rfl ?_
        refine pz_aload_n (pc' := 66) (x := l0) 1 rfl (pz_dc dX10_lakes 35 rfl) rfl ?_
        refine pz_bipush (pc' := 68) (v := 59) rfl (pz_dc dX10_lakes 36 rfl) kb_59 ?_
        refine pz_cVi (M := mX10_lakes) (N := mX10_passes) (d' := 1) (bc1 := 0) (bs1 := 0) (bc2 := bc) (bs2 := bs) (pc' := 71) [.int 59] hb vX10_142 rfl (pz_dc dX10_lakes 37 rfl) rfl (Nat.le_of_ble_eq_true rfl) (Nat.le_of_ble_eq_true rfl) rfl (by omega) (by omega) (by omega) (fun x14 h13 hb => ?_)
        refine pz_istore_n (pc' := 72) (lv' := [(2, .int x14), (1, .int (l1 + (1 : Int32))), (0, .ref l0)]) rfl (pz_dc dX10_lakes 38 rfl) (by decide) rfl ?_
        refine pz_goto (pc' := 24) (pz_dc dX10_lakes 39 rfl) (by decide) ?_
        refine pz_lv (lv' := [(0, .ref l0), (1, .int (l1 + (1 : Int32))), (2, .int x14)]) [2, 1, 0] rfl ?_
        exact hb
      · replace hb := hb.2 hc
        refine pz_aload_n (pc' := 47) (x := l0) 0 rfl (pz_dc dX10_lakes 26 rfl) rfl ?_
        refine pz_aload_n (pc' := 48) (x := l0) 0 rfl (pz_dc dX10_lakes 27 rfl) rfl ?_
        refine pz_getI (M := mX10_lakes) hb fX10_124 (pc' := 51) rfl (pz_dc dX10_lakes 28 rfl) (fun x15 hb => ?_)
        refine pz_cVv (M := mX10_lakes) (N := mX10_fault) (d' := 1) (bc1 := 0) (bs1 := 0) (bc2 := bc) (bs2 := bs) (pc' := 54) [.int x15] hb vX10_146 rfl (pz_dc dX10_lakes 29 rfl) rfl (Nat.le_of_ble_eq_true rfl) (Nat.le_of_ble_eq_true rfl) rfl (by omega) (by omega) (by omega) (fun h16 hb => ?_)
        refine pz_goto (pc' := 62) (pz_dc dX10_lakes 30 rfl) (by decide) ?_
        refine pz_iinc (pc' := 65) (x := l1) (v := l1 + (1 : Int32)) (lv' := [(1, .int (l1 + (1 : Int32))), (0, .ref l0), (2, .int l2)]) 1 rfl (pz_dc dX10_lakes 34 rfl) rfl rfl (by decide) rfl ?_
        refine pz_aload_n (pc' := 66) (x := l0) 1 rfl (pz_dc dX10_lakes 35 rfl) rfl ?_
        refine pz_bipush (pc' := 68) (v := 59) rfl (pz_dc dX10_lakes 36 rfl) kb_59 ?_
        refine pz_cVi (M := mX10_lakes) (N := mX10_passes) (d' := 1) (bc1 := 0) (bs1 := 0) (bc2 := bc) (bs2 := bs) (pc' := 71) [.int 59] hb vX10_142 rfl (pz_dc dX10_lakes 37 rfl) rfl (Nat.le_of_ble_eq_true rfl) (Nat.le_of_ble_eq_true rfl) rfl (by omega) (by omega) (by omega) (fun x18 h17 hb => ?_)
        refine pz_istore_n (pc' := 72) (lv' := [(2, .int x18), (1, .int (l1 + (1 : Int32))), (0, .ref l0)]) rfl (pz_dc dX10_lakes 38 rfl) (by decide) rfl ?_
        refine pz_goto (pc' := 24) (pz_dc dX10_lakes 39 rfl) (by decide) ?_
        refine pz_lv (lv' := [(0, .ref l0), (1, .int (l1 + (1 : Int32))), (2, .int x18)]) [2, 1, 0] rfl ?_
        exact hb
set_option maxRecDepth 20000 in
set_option maxHeartbeats 4000000 in
theorem wX10_lakes_91 {Ex : State → Nat → Prop} {Q : Option Value → pz_H → Prop} {d bc bs : Nat} {l0 : Nat} {l1 : Int32} {l3 : Int32}  {h : pz_H} (hD : 4 ≤ d) (hb : (l1 ≤ l3 → pz_pF h l0 10 22 (.int 0) (fun (h1 : pz_H) => pz_gI h1 l0 10 39 (fun (x2 : Int32) => pz_pF h1 l0 10 39 (.int (x2 + ((1 : Int32)))) (fun (h3 : pz_H) => Q (some (.int l1)) h3)))) ∧ (¬ l1 ≤ l3 → pz_gR h l0 10 2 (fun (a4 : Nat) => pz_gI h l0 10 1 (fun (x5 : Int32) => pz_gR h l0 10 15 (fun (a6 : Nat) => pz_rI h a6 (((5 : Int32)) * l3) (fun (x7 : Int32) => pz_sI h a4 x5 x7 (fun (h8 : pz_H) => pz_gR h8 l0 10 3 (fun (a9 : Nat) => pz_gI h8 l0 10 1 (fun (x10 : Int32) => pz_gR h8 l0 10 15 (fun (a11 : Nat) => pz_rI h8 a11 ((((5 : Int32)) * l3) + ((2 : Int32))) (fun (x12 : Int32) => pz_sI h8 a9 x10 x12 (fun (h13 : pz_H) => pz_gR h13 l0 10 4 (fun (a14 : Nat) => pz_gI h13 l0 10 1 (fun (x15 : Int32) => pz_gR h13 l0 10 15 (fun (a16 : Nat) => pz_rI h13 a16 ((((5 : Int32)) * l3) + ((4 : Int32))) (fun (x17 : Int32) => pz_sI h13 a14 x15 x17 (fun (h18 : pz_H) => pz_gR h18 l0 10 0 (fun (a19 : Nat) => pz_gI h18 l0 10 1 (fun (x20 : Int32) => pz_gR h18 l0 10 2 (fun (a21 : Nat) => pz_gI h18 l0 10 1 (fun (x22 : Int32) => pz_rI h18 a21 x22 (fun (x23 : Int32) => pz_sI h18 a19 x20 x23 (fun (h24 : pz_H) => pz_gR h24 l0 10 0 (fun (a25 : Nat) => pz_gI h24 l0 10 1 (fun (x26 : Int32) => pz_sI h24 a25 (((6 : Int32)) + x26) 0 (fun (h27 : pz_H) => pz_gR h27 l0 10 0 (fun (a28 : Nat) => pz_gI h27 l0 10 1 (fun (x29 : Int32) => pz_sI h27 a28 (((12 : Int32)) + x29) 0 (fun (h30 : pz_H) => pz_gR h30 l0 10 0 (fun (a31 : Nat) => pz_gI h30 l0 10 1 (fun (x32 : Int32) => pz_gR h30 l0 10 15 (fun (a33 : Nat) => pz_rI h30 a33 ((((5 : Int32)) * l3) + ((1 : Int32))) (fun (x34 : Int32) => pz_sI h30 a31 (((18 : Int32)) + x32) x34 (fun (h35 : pz_H) => pz_gR h35 l0 10 0 (fun (a36 : Nat) => pz_gI h35 l0 10 1 (fun (x37 : Int32) => pz_gR h35 l0 10 15 (fun (a38 : Nat) => pz_rI h35 a38 ((((5 : Int32)) * l3) + ((3 : Int32))) (fun (x39 : Int32) => pz_sI h35 a36 (((24 : Int32)) + x37) x39 (fun (h40 : pz_H) => pz_gI h40 l0 10 1 (fun (x41 : Int32) => pz_pF h40 l0 10 1 (.int (x41 + ((1 : Int32)))) (fun (h42 : pz_H) => pz_V mX10_lakes Ex Q d bc bs 91 [(0, .ref l0), (1, .int l1), (3, .int (l3 + (1 : Int32)))] [] h42))))))))))))))))))))))))))))))))))))))))) : pz_V mX10_lakes Ex Q d bc bs 91 [(0, .ref l0), (1, .int l1), (3, .int l3)] [] h := by
  refine pz_iload_n (pc' := 92) (x := l3) 2 rfl (pz_dc dX10_lakes 50 rfl) rfl ?_
  refine pz_iload_n (pc' := 93) (x := l1) 1 rfl (pz_dc dX10_lakes 51 rfl) rfl ?_
  refine pz_icmp_ge (pc' := 96) (tgt := 255) rfl (pz_dc dX10_lakes 52 rfl) (by decide) (fun hc => ?_) (fun hc => ?_)
  · replace hb := hb.1 hc
    refine pz_aload_n (pc' := 256) (x := l0) 0 rfl (pz_dc dX10_lakes 154 rfl) rfl ?_
    refine pz_iconst (pc' := 257) (v := 0) rfl (pz_dc dX10_lakes 155 rfl) ki_0 ?_
    refine pz_putv (M := mX10_lakes) hb (pX10_163 _ rfl) rfl rfl (pc' := 260) rfl (pz_dc dX10_lakes 156 rfl) (fun h1 hb => ?_)
    refine pz_aload_n (pc' := 261) (x := l0) 0 rfl (pz_dc dX10_lakes 157 rfl) rfl ?_
    refine pz_dup (pc' := 262) rfl (pz_dc dX10_lakes 158 rfl) rfl ?_
    refine pz_getI (M := mX10_lakes) hb fX10_166 (pc' := 265) rfl (pz_dc dX10_lakes 159 rfl) (fun x2 hb => ?_)
    refine pz_iconst (pc' := 266) (v := 1) rfl (pz_dc dX10_lakes 160 rfl) ki_1 ?_
    refine pz_iadd (pc' := 267) rfl (pz_dc dX10_lakes 161 rfl) ?_
    refine pz_putv (M := mX10_lakes) hb (pX10_166 _ rfl) rfl rfl (pc' := 270) rfl (pz_dc dX10_lakes 162 rfl) (fun h3 hb => ?_)
    refine pz_iload_n (pc' := 271) (x := l1) 1 rfl (pz_dc dX10_lakes 163 rfl) rfl ?_
    exact pz_iret (pz_dc dX10_lakes 164 rfl) rfl hb
  · replace hb := hb.2 hc
    refine pz_aload_n (pc' := 97) (x := l0) 0 rfl (pz_dc dX10_lakes 53 rfl) rfl ?_
    refine pz_getR (M := mX10_lakes) hb fX10_13 (pc' := 100) rfl (pz_dc dX10_lakes 54 rfl) (fun a4 hb => ?_)
    refine pz_aload_n (pc' := 101) (x := l0) 0 rfl (pz_dc dX10_lakes 55 rfl) rfl ?_
    refine pz_getI (M := mX10_lakes) hb fX10_101 (pc' := 104) rfl (pz_dc dX10_lakes 56 rfl) (fun x5 hb => ?_)
    refine pz_aload_n (pc' := 105) (x := l0) 0 rfl (pz_dc dX10_lakes 57 rfl) rfl ?_
    refine pz_getR (M := mX10_lakes) hb fX10_30 (pc' := 108) rfl (pz_dc dX10_lakes 58 rfl) (fun a6 hb => ?_)
    refine pz_iconst (pc' := 109) (v := 5) rfl (pz_dc dX10_lakes 59 rfl) ki_5 ?_
    refine pz_iload_n (pc' := 110) (x := l3) 2 rfl (pz_dc dX10_lakes 60 rfl) rfl ?_
    refine pz_imul (pc' := 111) rfl (pz_dc dX10_lakes 61 rfl) ?_
    refine pz_ldI hb (pc' := 112) rfl (pz_dc dX10_lakes 62 rfl) (fun x7 hb => ?_)
    refine pz_stI hb (pc' := 113) rfl (pz_dc dX10_lakes 63 rfl) (fun h8 hb => ?_)
    refine pz_aload_n (pc' := 114) (x := l0) 0 rfl (pz_dc dX10_lakes 64 rfl) rfl ?_
    refine pz_getR (M := mX10_lakes) hb fX10_16 (pc' := 117) rfl (pz_dc dX10_lakes 65 rfl) (fun a9 hb => ?_)
    refine pz_aload_n (pc' := 118) (x := l0) 0 rfl (pz_dc dX10_lakes 66 rfl) rfl ?_
    refine pz_getI (M := mX10_lakes) hb fX10_101 (pc' := 121) rfl (pz_dc dX10_lakes 67 rfl) (fun x10 hb => ?_)
    refine pz_aload_n (pc' := 122) (x := l0) 0 rfl (pz_dc dX10_lakes 68 rfl) rfl ?_
    refine pz_getR (M := mX10_lakes) hb fX10_30 (pc' := 125) rfl (pz_dc dX10_lakes 69 rfl) (fun a11 hb => ?_)
    refine pz_iconst (pc' := 126) (v := 5) rfl (pz_dc dX10_lakes 70 rfl) ki_5 ?_
    refine pz_iload_n (pc' := 127) (x := l3) 2 rfl (pz_dc dX10_lakes 71 rfl) rfl ?_
    refine pz_imul (pc' := 128) rfl (pz_dc dX10_lakes 72 rfl) ?_
    refine pz_iconst (pc' := 129) (v := 2) rfl (pz_dc dX10_lakes 73 rfl) ki_2 ?_
    refine pz_iadd (pc' := 130) rfl (pz_dc dX10_lakes 74 rfl) ?_
    refine pz_ldI hb (pc' := 131) rfl (pz_dc dX10_lakes 75 rfl) (fun x12 hb => ?_)
    refine pz_stI hb (pc' := 132) rfl (pz_dc dX10_lakes 76 rfl) (fun h13 hb => ?_)
    refine pz_aload_n (pc' := 133) (x := l0) 0 rfl (pz_dc dX10_lakes 77 rfl) rfl ?_
    refine pz_getR (M := mX10_lakes) hb fX10_19 (pc' := 136) rfl (pz_dc dX10_lakes 78 rfl) (fun a14 hb => ?_)
    refine pz_aload_n (pc' := 137) (x := l0) 0 rfl (pz_dc dX10_lakes 79 rfl) rfl ?_
    refine pz_getI (M := mX10_lakes) hb fX10_101 (pc' := 140) rfl (pz_dc dX10_lakes 80 rfl) (fun x15 hb => ?_)
    refine pz_aload_n (pc' := 141) (x := l0) 0 rfl (pz_dc dX10_lakes 81 rfl) rfl ?_
    refine pz_getR (M := mX10_lakes) hb fX10_30 (pc' := 144) rfl (pz_dc dX10_lakes 82 rfl) (fun a16 hb => ?_)
    refine pz_iconst (pc' := 145) (v := 5) rfl (pz_dc dX10_lakes 83 rfl) ki_5 ?_
    refine pz_iload_n (pc' := 146) (x := l3) 2 rfl (pz_dc dX10_lakes 84 rfl) rfl ?_
    refine pz_imul (pc' := 147) rfl (pz_dc dX10_lakes 85 rfl) ?_
    refine pz_iconst (pc' := 148) (v := 4) rfl (pz_dc dX10_lakes 86 rfl) ki_4 ?_
    refine pz_iadd (pc' := 149) rfl (pz_dc dX10_lakes 87 rfl) ?_
    refine pz_ldI hb (pc' := 150) rfl (pz_dc dX10_lakes 88 rfl) (fun x17 hb => ?_)
    refine pz_stI hb (pc' := 151) rfl (pz_dc dX10_lakes 89 rfl) (fun h18 hb => ?_)
    refine pz_aload_n (pc' := 152) (x := l0) 0 rfl (pz_dc dX10_lakes 90 rfl) rfl ?_
    refine pz_getR (M := mX10_lakes) hb fX10_9 (pc' := 155) rfl (pz_dc dX10_lakes 91 rfl) (fun a19 hb => ?_)
    refine pz_aload_n (pc' := 156) (x := l0) 0 rfl (pz_dc dX10_lakes 92 rfl) rfl ?_
    refine pz_getI (M := mX10_lakes) hb fX10_101 (pc' := 159) rfl (pz_dc dX10_lakes 93 rfl) (fun x20 hb => ?_)
    refine pz_aload_n (pc' := 160) (x := l0) 0 rfl (pz_dc dX10_lakes 94 rfl) rfl ?_
    refine pz_getR (M := mX10_lakes) hb fX10_13 (pc' := 163) rfl (pz_dc dX10_lakes 95 rfl) (fun a21 hb => ?_)
    refine pz_aload_n (pc' := 164) (x := l0) 0 rfl (pz_dc dX10_lakes 96 rfl) rfl ?_
    refine pz_getI (M := mX10_lakes) hb fX10_101 (pc' := 167) rfl (pz_dc dX10_lakes 97 rfl) (fun x22 hb => ?_)
    refine pz_ldI hb (pc' := 168) rfl (pz_dc dX10_lakes 98 rfl) (fun x23 hb => ?_)
    refine pz_stI hb (pc' := 169) rfl (pz_dc dX10_lakes 99 rfl) (fun h24 hb => ?_)
    refine pz_aload_n (pc' := 170) (x := l0) 0 rfl (pz_dc dX10_lakes 100 rfl) rfl ?_
    refine pz_getR (M := mX10_lakes) hb fX10_9 (pc' := 173) rfl (pz_dc dX10_lakes 101 rfl) (fun a25 hb => ?_)
    refine pz_bipush (pc' := 175) (v := 6) rfl (pz_dc dX10_lakes 102 rfl) kb_6 ?_
    refine pz_aload_n (pc' := 176) (x := l0) 0 rfl (pz_dc dX10_lakes 103 rfl) rfl ?_
    refine pz_getI (M := mX10_lakes) hb fX10_101 (pc' := 179) rfl (pz_dc dX10_lakes 104 rfl) (fun x26 hb => ?_)
    refine pz_iadd (pc' := 180) rfl (pz_dc dX10_lakes 105 rfl) ?_
    refine pz_iconst (pc' := 181) (v := 0) rfl (pz_dc dX10_lakes 106 rfl) ki_0 ?_
    refine pz_stI hb (pc' := 182) rfl (pz_dc dX10_lakes 107 rfl) (fun h27 hb => ?_)
    refine pz_aload_n (pc' := 183) (x := l0) 0 rfl (pz_dc dX10_lakes 108 rfl) rfl ?_
    refine pz_getR (M := mX10_lakes) hb fX10_9 (pc' := 186) rfl (pz_dc dX10_lakes 109 rfl) (fun a28 hb => ?_)
    refine pz_bipush (pc' := 188) (v := 12) rfl (pz_dc dX10_lakes 110 rfl) kb_12 ?_
    refine pz_aload_n (pc' := 189) (x := l0) 0 rfl (pz_dc dX10_lakes 111 rfl) rfl ?_
    refine pz_getI (M := mX10_lakes) hb fX10_101 (pc' := 192) rfl (pz_dc dX10_lakes 112 rfl) (fun x29 hb => ?_)
    refine pz_iadd (pc' := 193) rfl (pz_dc dX10_lakes 113 rfl) ?_
    refine pz_iconst (pc' := 194) (v := 0) rfl (pz_dc dX10_lakes 114 rfl) ki_0 ?_
    refine pz_stI hb (pc' := 195) rfl (pz_dc dX10_lakes 115 rfl) (fun h30 hb => ?_)
    refine pz_aload_n (pc' := 196) (x := l0) 0 rfl (pz_dc dX10_lakes 116 rfl) rfl ?_
    refine pz_getR (M := mX10_lakes) hb fX10_9 (pc' := 199) rfl (pz_dc dX10_lakes 117 rfl) (fun a31 hb => ?_)
    refine pz_bipush (pc' := 201) (v := 18) rfl (pz_dc dX10_lakes 118 rfl) kb_18 ?_
    refine pz_aload_n (pc' := 202) (x := l0) 0 rfl (pz_dc dX10_lakes 119 rfl) rfl ?_
    refine pz_getI (M := mX10_lakes) hb fX10_101 (pc' := 205) rfl (pz_dc dX10_lakes 120 rfl) (fun x32 hb => ?_)
    refine pz_iadd (pc' := 206) rfl (pz_dc dX10_lakes 121 rfl) ?_
    refine pz_aload_n (pc' := 207) (x := l0) 0 rfl (pz_dc dX10_lakes 122 rfl) rfl ?_
    refine pz_getR (M := mX10_lakes) hb fX10_30 (pc' := 210) rfl (pz_dc dX10_lakes 123 rfl) (fun a33 hb => ?_)
    refine pz_iconst (pc' := 211) (v := 5) rfl (pz_dc dX10_lakes 124 rfl) ki_5 ?_
    refine pz_iload_n (pc' := 212) (x := l3) 2 rfl (pz_dc dX10_lakes 125 rfl) rfl ?_
    refine pz_imul (pc' := 213) rfl (pz_dc dX10_lakes 126 rfl) ?_
    refine pz_iconst (pc' := 214) (v := 1) rfl (pz_dc dX10_lakes 127 rfl) ki_1 ?_
    refine pz_iadd (pc' := 215) rfl (pz_dc dX10_lakes 128 rfl) ?_
    refine pz_ldI hb (pc' := 216) rfl (pz_dc dX10_lakes 129 rfl) (fun x34 hb => ?_)
    refine pz_stI hb (pc' := 217) rfl (pz_dc dX10_lakes 130 rfl) (fun h35 hb => ?_)
    refine pz_aload_n (pc' := 218) (x := l0) 0 rfl (pz_dc dX10_lakes 131 rfl) rfl ?_
    refine pz_getR (M := mX10_lakes) hb fX10_9 (pc' := 221) rfl (pz_dc dX10_lakes 132 rfl) (fun a36 hb => ?_)
    refine pz_bipush (pc' := 223) (v := 24) rfl (pz_dc dX10_lakes 133 rfl) kb_24 ?_
    refine pz_aload_n (pc' := 224) (x := l0) 0 rfl (pz_dc dX10_lakes 134 rfl) rfl ?_
    refine pz_getI (M := mX10_lakes) hb fX10_101 (pc' := 227) rfl (pz_dc dX10_lakes 135 rfl) (fun x37 hb => ?_)
    refine pz_iadd (pc' := 228) rfl (pz_dc dX10_lakes 136 rfl) ?_
    refine pz_aload_n (pc' := 229) (x := l0) 0 rfl (pz_dc dX10_lakes 137 rfl) rfl ?_
    refine pz_getR (M := mX10_lakes) hb fX10_30 (pc' := 232) rfl (pz_dc dX10_lakes 138 rfl) (fun a38 hb => ?_)
    refine pz_iconst (pc' := 233) (v := 5) rfl (pz_dc dX10_lakes 139 rfl) ki_5 ?_
    refine pz_iload_n (pc' := 234) (x := l3) 2 rfl (pz_dc dX10_lakes 140 rfl) rfl ?_
    refine pz_imul (pc' := 235) rfl (pz_dc dX10_lakes 141 rfl) ?_
    refine pz_iconst (pc' := 236) (v := 3) rfl (pz_dc dX10_lakes 142 rfl) ki_3 ?_
    refine pz_iadd (pc' := 237) rfl (pz_dc dX10_lakes 143 rfl) ?_
    refine pz_ldI hb (pc' := 238) rfl (pz_dc dX10_lakes 144 rfl) (fun x39 hb => ?_)
    refine pz_stI hb (pc' := 239) rfl (pz_dc dX10_lakes 145 rfl) (fun h40 hb => ?_)
    refine pz_aload_n (pc' := 240) (x := l0) 0 rfl (pz_dc dX10_lakes 146 rfl) rfl ?_
    refine pz_dup (pc' := 241) rfl (pz_dc dX10_lakes 147 rfl) rfl ?_
    refine pz_getI (M := mX10_lakes) hb fX10_101 (pc' := 244) rfl (pz_dc dX10_lakes 148 rfl) (fun x41 hb => ?_)
    refine pz_iconst (pc' := 245) (v := 1) rfl (pz_dc dX10_lakes 149 rfl) ki_1 ?_
    refine pz_iadd (pc' := 246) rfl (pz_dc dX10_lakes 150 rfl) ?_
    refine pz_putv (M := mX10_lakes) hb (pX10_101 _ rfl) rfl rfl (pc' := 249) rfl (pz_dc dX10_lakes 151 rfl) (fun h42 hb => ?_)
    refine pz_iinc (pc' := 252) (x := l3) (v := l3 + (1 : Int32)) (lv' := [(3, .int (l3 + (1 : Int32))), (0, .ref l0), (1, .int l1)]) 2 rfl (pz_dc dX10_lakes 152 rfl) rfl rfl (by decide) rfl ?_
    refine pz_goto (pc' := 91) (pz_dc dX10_lakes 153 rfl) (by decide) ?_
    refine pz_lv (lv' := [(0, .ref l0), (1, .int l1), (3, .int (l3 + (1 : Int32)))]) [1, 2, 0] rfl ?_
    exact hb
set_option maxRecDepth 20000 in
set_option maxHeartbeats 4000000 in
theorem wX10_held_0 {Ex : State → Nat → Prop} {Q : Option Value → pz_H → Prop} {d bc bs : Nat} {l0 : Nat} {l1 : Int32}  {h : pz_H} (hD : 2 ≤ d + 1) (hb : pz_is h l0 10 ∧ (pz_ki mX10_sum d 0 0 (.ref l0 :: [.int l1]) h (fun (x2 : Int32) (h1 : pz_H) => pz_is h1 l0 10 ∧ (pz_ki mX10_passes 1 0 0 (.ref l0 :: [.int 60]) h1 (fun (x4 : Int32) (h3 : pz_H) => (x4 = 0 → pz_is h3 l0 10 ∧ (pz_ki mX10_passes 1 0 0 (.ref l0 :: [.int 62]) h3 (fun (x6 : Int32) (h5 : pz_H) => (x6 = 0 → pz_is h5 l0 10 ∧ (pz_ki mX10_passes 1 0 0 (.ref l0 :: [.int 61]) h5 (fun (x8 : Int32) (h7 : pz_H) => (x8 = 0 → Q (some (.int x2)) h7) ∧ (¬ x8 = 0 → pz_is h7 l0 10 ∧ (pz_ki mX10_sum d 0 0 (.ref l0 :: [.int l1]) h7 (fun (x10 : Int32) (h9 : pz_H) => (¬ x2 = x10 → Q (some (.int 0)) h9) ∧ (x2 = x10 → Q (some (.int 1)) h9))))))) ∧ (¬ x6 = 0 → pz_is h5 l0 10 ∧ (pz_ki mX10_sum d 0 0 (.ref l0 :: [.int l1]) h5 (fun (x12 : Int32) (h11 : pz_H) => (x2 ≤ x12 → Q (some (.int 0)) h11) ∧ (¬ x2 ≤ x12 → Q (some (.int 1)) h11))))))) ∧ (¬ x4 = 0 → pz_is h3 l0 10 ∧ (pz_ki mX10_sum d 0 0 (.ref l0 :: [.int l1]) h3 (fun (x14 : Int32) (h13 : pz_H) => (x14 ≤ x2 → Q (some (.int 0)) h13) ∧ (¬ x14 ≤ x2 → Q (some (.int 1)) h13))))))))) : pz_V mX10_held Ex Q (d + 1) bc bs 0 [(0, .ref l0), (1, .int l1)] [] h := by
  refine pz_aload_n (pc' := 1) (x := l0) 0 rfl (pz_dc dX10_held 0 rfl) rfl ?_
  refine pz_iload_n (pc' := 2) (x := l1) 1 rfl (pz_dc dX10_held 1 rfl) rfl ?_
  refine pz_cVi (M := mX10_held) (N := mX10_sum) (d' := d) (bc1 := 0) (bs1 := 0) (bc2 := bc) (bs2 := bs) (pc' := 5) [.int l1] hb vX10_169 rfl (pz_dc dX10_held 2 rfl) rfl (Nat.le_of_ble_eq_true rfl) (Nat.le_of_ble_eq_true rfl) rfl (by omega) (by omega) (by omega) (fun x2 h1 hb => ?_)
  refine pz_istore_n (pc' := 6) (lv' := [(2, .int x2), (0, .ref l0), (1, .int l1)]) rfl (pz_dc dX10_held 3 rfl) (by decide) rfl ?_
  refine pz_aload_n (pc' := 7) (x := l0) 1 rfl (pz_dc dX10_held 4 rfl) rfl ?_
  refine pz_bipush (pc' := 9) (v := 60) rfl (pz_dc dX10_held 5 rfl) kb_60 ?_
  refine pz_cVi (M := mX10_held) (N := mX10_passes) (d' := 1) (bc1 := 0) (bs1 := 0) (bc2 := bc) (bs2 := bs) (pc' := 12) [.int 60] hb vX10_142 rfl (pz_dc dX10_held 6 rfl) rfl (Nat.le_of_ble_eq_true rfl) (Nat.le_of_ble_eq_true rfl) rfl (by omega) (by omega) (by omega) (fun x4 h3 hb => ?_)
  refine pz_if_eq (pc' := 15) (tgt := 30) rfl (pz_dc dX10_held 7 rfl) (by decide) (fun hc => ?_) (fun hc => ?_)
  · replace hb := hb.1 hc
    refine pz_aload_n (pc' := 31) (x := l0) 1 rfl (pz_dc dX10_held 17 rfl) rfl ?_
    refine pz_bipush (pc' := 33) (v := 62) rfl (pz_dc dX10_held 18 rfl) kb_62 ?_
    refine pz_cVi (M := mX10_held) (N := mX10_passes) (d' := 1) (bc1 := 0) (bs1 := 0) (bc2 := bc) (bs2 := bs) (pc' := 36) [.int 62] hb vX10_142 rfl (pz_dc dX10_held 19 rfl) rfl (Nat.le_of_ble_eq_true rfl) (Nat.le_of_ble_eq_true rfl) rfl (by omega) (by omega) (by omega) (fun x6 h5 hb => ?_)
    refine pz_if_eq (pc' := 39) (tgt := 54) rfl (pz_dc dX10_held 20 rfl) (by decide) (fun hc => ?_) (fun hc => ?_)
    · replace hb := hb.1 hc
      refine pz_aload_n (pc' := 55) (x := l0) 1 rfl (pz_dc dX10_held 30 rfl) rfl ?_
      refine pz_bipush (pc' := 57) (v := 61) rfl (pz_dc dX10_held 31 rfl) kb_61 ?_
      refine pz_cVi (M := mX10_held) (N := mX10_passes) (d' := 1) (bc1 := 0) (bs1 := 0) (bc2 := bc) (bs2 := bs) (pc' := 60) [.int 61] hb vX10_142 rfl (pz_dc dX10_held 32 rfl) rfl (Nat.le_of_ble_eq_true rfl) (Nat.le_of_ble_eq_true rfl) rfl (by omega) (by omega) (by omega) (fun x8 h7 hb => ?_)
      refine pz_if_eq (pc' := 63) (tgt := 78) rfl (pz_dc dX10_held 33 rfl) (by decide) (fun hc => ?_) (fun hc => ?_)
      · replace hb := hb.1 hc
        refine pz_iload_n (pc' := 79) (x := x2) 0 rfl (pz_dc dX10_held 43 rfl) rfl ?_
        exact pz_iret (pz_dc dX10_held 44 rfl) rfl hb
      · replace hb := hb.2 hc
        refine pz_iload_n (pc' := 64) (x := x2) 0 rfl (pz_dc dX10_held 34 rfl) rfl ?_
        refine pz_aload_n (pc' := 65) (x := l0) 1 rfl (pz_dc dX10_held 35 rfl) rfl ?_
        refine pz_iload_n (pc' := 66) (x := l1) 2 rfl (pz_dc dX10_held 36 rfl) rfl ?_
        refine pz_cVi (M := mX10_held) (N := mX10_sum) (d' := d) (bc1 := 0) (bs1 := 0) (bc2 := bc) (bs2 := bs) (pc' := 69) [.int l1] hb vX10_169 rfl (pz_dc dX10_held 37 rfl) rfl (Nat.le_of_ble_eq_true rfl) (Nat.le_of_ble_eq_true rfl) rfl (by omega) (by omega) (by omega) (fun x10 h9 hb => ?_)
        refine pz_icmp_ne (pc' := 72) (tgt := 76) rfl (pz_dc dX10_held 38 rfl) (by decide) (fun hc => ?_) (fun hc => ?_)
        · replace hb := hb.1 hc
          refine pz_iconst (pc' := 77) (v := 0) rfl (pz_dc dX10_held 41 rfl) ki_0 ?_
          exact pz_iret (pz_dc dX10_held 42 rfl) rfl hb
        · replace hb := hb.2 hc
          refine pz_iconst (pc' := 73) (v := 1) rfl (pz_dc dX10_held 39 rfl) ki_1 ?_
          refine pz_goto (pc' := 77) (pz_dc dX10_held 40 rfl) (by decide) ?_
          exact pz_iret (pz_dc dX10_held 42 rfl) rfl hb
    · replace hb := hb.2 hc
      refine pz_iload_n (pc' := 40) (x := x2) 0 rfl (pz_dc dX10_held 21 rfl) rfl ?_
      refine pz_aload_n (pc' := 41) (x := l0) 1 rfl (pz_dc dX10_held 22 rfl) rfl ?_
      refine pz_iload_n (pc' := 42) (x := l1) 2 rfl (pz_dc dX10_held 23 rfl) rfl ?_
      refine pz_cVi (M := mX10_held) (N := mX10_sum) (d' := d) (bc1 := 0) (bs1 := 0) (bc2 := bc) (bs2 := bs) (pc' := 45) [.int l1] hb vX10_169 rfl (pz_dc dX10_held 24 rfl) rfl (Nat.le_of_ble_eq_true rfl) (Nat.le_of_ble_eq_true rfl) rfl (by omega) (by omega) (by omega) (fun x12 h11 hb => ?_)
      refine pz_icmp_le (pc' := 48) (tgt := 52) rfl (pz_dc dX10_held 25 rfl) (by decide) (fun hc => ?_) (fun hc => ?_)
      · replace hb := hb.1 hc
        refine pz_iconst (pc' := 53) (v := 0) rfl (pz_dc dX10_held 28 rfl) ki_0 ?_
        exact pz_iret (pz_dc dX10_held 29 rfl) rfl hb
      · replace hb := hb.2 hc
        refine pz_iconst (pc' := 49) (v := 1) rfl (pz_dc dX10_held 26 rfl) ki_1 ?_
        refine pz_goto (pc' := 53) (pz_dc dX10_held 27 rfl) (by decide) ?_
        exact pz_iret (pz_dc dX10_held 29 rfl) rfl hb
  · replace hb := hb.2 hc
    refine pz_iload_n (pc' := 16) (x := x2) 0 rfl (pz_dc dX10_held 8 rfl) rfl ?_
    refine pz_aload_n (pc' := 17) (x := l0) 1 rfl (pz_dc dX10_held 9 rfl) rfl ?_
    refine pz_iload_n (pc' := 18) (x := l1) 2 rfl (pz_dc dX10_held 10 rfl) rfl ?_
    refine pz_cVi (M := mX10_held) (N := mX10_sum) (d' := d) (bc1 := 0) (bs1 := 0) (bc2 := bc) (bs2 := bs) (pc' := 21) [.int l1] hb vX10_169 rfl (pz_dc dX10_held 11 rfl) rfl (Nat.le_of_ble_eq_true rfl) (Nat.le_of_ble_eq_true rfl) rfl (by omega) (by omega) (by omega) (fun x14 h13 hb => ?_)
    refine pz_icmp_ge (pc' := 24) (tgt := 28) rfl (pz_dc dX10_held 12 rfl) (by decide) (fun hc => ?_) (fun hc => ?_)
    · replace hb := hb.1 hc
      refine pz_iconst (pc' := 29) (v := 0) rfl (pz_dc dX10_held 15 rfl) ki_0 ?_
      exact pz_iret (pz_dc dX10_held 16 rfl) rfl hb
    · replace hb := hb.2 hc
      refine pz_iconst (pc' := 25) (v := 1) rfl (pz_dc dX10_held 13 rfl) ki_1 ?_
      refine pz_goto (pc' := 29) (pz_dc dX10_held 14 rfl) (by decide) ?_
      exact pz_iret (pz_dc dX10_held 16 rfl) rfl hb
set_option maxRecDepth 20000 in
set_option maxHeartbeats 4000000 in
theorem wX10_sum_0 {Ex : State → Nat → Prop} {Q : Option Value → pz_H → Prop} {d bc bs : Nat} {l0 : Nat} {l1 : Int32}  {h : pz_H} (hD : 1 ≤ d + 1) (hb : pz_is h l0 10 ∧ (pz_ki mX10_product d 0 0 (.ref l0 :: [.int l1]) h (fun (x2 : Int32) (h1 : pz_H) => pz_V mX10_sum Ex Q (d + 1) bc bs 6 [(0, .ref l0), (1, .int l1), (2, .int x2)] [] h1))) : pz_V mX10_sum Ex Q (d + 1) bc bs 0 [(0, .ref l0), (1, .int l1)] [] h := by
  refine pz_aload_n (pc' := 1) (x := l0) 0 rfl (pz_dc dX10_sum 0 rfl) rfl ?_
  refine pz_iload_n (pc' := 2) (x := l1) 1 rfl (pz_dc dX10_sum 1 rfl) rfl ?_
  refine pz_cVi (M := mX10_sum) (N := mX10_product) (d' := d) (bc1 := 0) (bs1 := 0) (bc2 := bc) (bs2 := bs) (pc' := 5) [.int l1] hb vX10_173 rfl (pz_dc dX10_sum 2 rfl) rfl (Nat.le_of_ble_eq_true rfl) (Nat.le_of_ble_eq_true rfl) rfl (by omega) (by omega) (by omega) (fun x2 h1 hb => ?_)
  refine pz_istore_n (pc' := 6) (lv' := [(2, .int x2), (0, .ref l0), (1, .int l1)]) rfl (pz_dc dX10_sum 3 rfl) (by decide) rfl ?_
  refine pz_lv (lv' := [(0, .ref l0), (1, .int l1), (2, .int x2)]) [1, 2, 0] rfl ?_
  exact hb
set_option maxRecDepth 20000 in
set_option maxHeartbeats 4000000 in
theorem wX10_sum_6 {Ex : State → Nat → Prop} {Q : Option Value → pz_H → Prop} {d bc bs : Nat} {l0 : Nat} {l1 : Int32} {l2 : Int32}  {h : pz_H} (hD : 1 ≤ d + 1) (hb : pz_is h l0 10 ∧ (pz_gI h l0 10 14 (fun (x1 : Int32) => ((eX10_fine x1) = 0 → Q (some (.int l2)) h) ∧ (¬ (eX10_fine x1) = 0 → pz_is h l0 10 ∧ (pz_ki mX10_here 0 0 0 (.ref l0 :: []) h (fun (x6 : Int32) (h5 : pz_H) => (x6 = ((43 : Int32)) → pz_V mX10_sum Ex Q (d + 1) bc bs 31 [(0, .ref l0), (1, .int l1), (2, .int l2)] [] h5) ∧ (¬ x6 = ((43 : Int32)) → pz_is h5 l0 10 ∧ (pz_ki mX10_here 0 0 0 (.ref l0 :: []) h5 (fun (x8 : Int32) (h7 : pz_H) => (¬ x8 = ((45 : Int32)) → Q (some (.int l2)) h7) ∧ (x8 = ((45 : Int32)) → pz_V mX10_sum Ex Q (d + 1) bc bs 31 [(0, .ref l0), (1, .int l1), (2, .int l2)] [] h7)))))))))) : pz_V mX10_sum Ex Q (d + 1) bc bs 6 [(0, .ref l0), (1, .int l1), (2, .int l2)] [] h := by
  refine pz_aload_n (pc' := 7) (x := l0) 0 rfl (pz_dc dX10_sum 4 rfl) rfl ?_
  obtain ⟨⟨fs9, hf10⟩, hb⟩ := hb
  obtain ⟨fs2, x1, g3, g4, hb⟩ := hb
  refine pz_callV (M := mX10_sum) (N := mX10_fine) (d' := 0) (bc1 := 0) (bs1 := 0) (bc2 := bc) (bs2 := bs) (pc' := 10) [] vX10_134 rfl (pz_dc dX10_sum 5 rfl) rfl (Nat.le_of_ble_eq_true rfl) (Nat.le_of_ble_eq_true rfl) rfl (by omega) (by omega) (by omega) hf10 ?_
  refine cX10_fine ⟨fs2, x1, g3, g4, ?_⟩
  show pz_V mX10_sum _ _ _ _ _ 10 [(0, .ref l0), (1, .int l1), (2, .int l2)] [.int (eX10_fine x1)] h
  refine pz_if_eq (pc' := 13) (tgt := 82) rfl (pz_dc dX10_sum 6 rfl) (by decide) (fun hc => ?_) (fun hc => ?_)
  · replace hb := hb.1 hc
    refine pz_iload_n (pc' := 83) (x := l2) 2 rfl (pz_dc dX10_sum 44 rfl) rfl ?_
    exact pz_iret (pz_dc dX10_sum 45 rfl) rfl hb
  · replace hb := hb.2 hc
    refine pz_aload_n (pc' := 14) (x := l0) 0 rfl (pz_dc dX10_sum 7 rfl) rfl ?_
    refine pz_cVi (M := mX10_sum) (N := mX10_here) (d' := 0) (bc1 := 0) (bs1 := 0) (bc2 := bc) (bs2 := bs) (pc' := 17) [] hb vX10_138 rfl (pz_dc dX10_sum 8 rfl) rfl (Nat.le_of_ble_eq_true rfl) (Nat.le_of_ble_eq_true rfl) rfl (by omega) (by omega) (by omega) (fun x6 h5 hb => ?_)
    refine pz_bipush (pc' := 19) (v := 43) rfl (pz_dc dX10_sum 9 rfl) kb_43 ?_
    refine pz_icmp_eq (pc' := 22) (tgt := 31) rfl (pz_dc dX10_sum 10 rfl) (by decide) (fun hc => ?_) (fun hc => ?_)
    · replace hb := hb.1 hc
      exact hb
    · replace hb := hb.2 hc
      refine pz_aload_n (pc' := 23) (x := l0) 0 rfl (pz_dc dX10_sum 11 rfl) rfl ?_
      refine pz_cVi (M := mX10_sum) (N := mX10_here) (d' := 0) (bc1 := 0) (bs1 := 0) (bc2 := bc) (bs2 := bs) (pc' := 26) [] hb vX10_138 rfl (pz_dc dX10_sum 12 rfl) rfl (Nat.le_of_ble_eq_true rfl) (Nat.le_of_ble_eq_true rfl) rfl (by omega) (by omega) (by omega) (fun x8 h7 hb => ?_)
      refine pz_bipush (pc' := 28) (v := 45) rfl (pz_dc dX10_sum 13 rfl) kb_45 ?_
      refine pz_icmp_ne (pc' := 31) (tgt := 82) rfl (pz_dc dX10_sum 14 rfl) (by decide) (fun hc => ?_) (fun hc => ?_)
      · replace hb := hb.1 hc
        refine pz_iload_n (pc' := 83) (x := l2) 2 rfl (pz_dc dX10_sum 44 rfl) rfl ?_
        exact pz_iret (pz_dc dX10_sum 45 rfl) rfl hb
      · replace hb := hb.2 hc
        exact hb
set_option maxRecDepth 20000 in
set_option maxHeartbeats 4000000 in
theorem wX10_sum_31 {Ex : State → Nat → Prop} {Q : Option Value → pz_H → Prop} {d bc bs : Nat} {l0 : Nat} {l1 : Int32} {l2 : Int32}  {h : pz_H} (hD : 1 ≤ d + 1) (hb : pz_is h l0 10 ∧ (pz_ki mX10_here 0 0 0 (.ref l0 :: []) h (fun (x2 : Int32) (h1 : pz_H) => (¬ x2 = ((43 : Int32)) → pz_gI h1 l0 10 13 (fun (x3 : Int32) => pz_pF h1 l0 10 13 (.int (x3 + ((1 : Int32)))) (fun (h4 : pz_H) => pz_is h4 l0 10 ∧ (pz_ki mX10_product d 0 0 (.ref l0 :: [.int l1]) h4 (fun (x6 : Int32) (h5 : pz_H) => pz_V mX10_sum Ex Q (d + 1) bc bs 6 [(0, .ref l0), (1, .int l1), (2, .int (l2 - x6))] [] h5))))) ∧ (x2 = ((43 : Int32)) → pz_gI h1 l0 10 13 (fun (x7 : Int32) => pz_pF h1 l0 10 13 (.int (x7 + ((1 : Int32)))) (fun (h8 : pz_H) => pz_is h8 l0 10 ∧ (pz_ki mX10_product d 0 0 (.ref l0 :: [.int l1]) h8 (fun (x10 : Int32) (h9 : pz_H) => pz_V mX10_sum Ex Q (d + 1) bc bs 6 [(0, .ref l0), (1, .int l1), (2, .int (l2 + x10))] [] h9)))))))) : pz_V mX10_sum Ex Q (d + 1) bc bs 31 [(0, .ref l0), (1, .int l1), (2, .int l2)] [] h := by
  refine pz_aload_n (pc' := 32) (x := l0) 0 rfl (pz_dc dX10_sum 15 rfl) rfl ?_
  refine pz_cVi (M := mX10_sum) (N := mX10_here) (d' := 0) (bc1 := 0) (bs1 := 0) (bc2 := bc) (bs2 := bs) (pc' := 35) [] hb vX10_138 rfl (pz_dc dX10_sum 16 rfl) rfl (Nat.le_of_ble_eq_true rfl) (Nat.le_of_ble_eq_true rfl) rfl (by omega) (by omega) (by omega) (fun x2 h1 hb => ?_)
  refine pz_bipush (pc' := 37) (v := 43) rfl (pz_dc dX10_sum 17 rfl) kb_43 ?_
  refine pz_icmp_ne (pc' := 40) (tgt := 44) rfl (pz_dc dX10_sum 18 rfl) (by decide) (fun hc => ?_) (fun hc => ?_)
  · replace hb := hb.1 hc
    refine pz_iconst (pc' := 45) (v := 0) rfl (pz_dc dX10_sum 21 rfl) ki_0 ?_
    refine pz_istore_n (pc' := 46) (lv' := [(3, .int 0), (0, .ref l0), (1, .int l1), (2, .int l2)]) rfl (pz_dc dX10_sum 22 rfl) (by decide) rfl ?_
    refine pz_aload_n (pc' := 47) (x := l0) 1 rfl (pz_dc dX10_sum 23 rfl) rfl ?_
    refine pz_dup (pc' := 48) rfl (pz_dc dX10_sum 24 rfl) rfl ?_
    refine pz_getI (M := mX10_sum) hb fX10_124 (pc' := 51) rfl (pz_dc dX10_sum 25 rfl) (fun x3 hb => ?_)
    refine pz_iconst (pc' := 52) (v := 1) rfl (pz_dc dX10_sum 26 rfl) ki_1 ?_
    refine pz_iadd (pc' := 53) rfl (pz_dc dX10_sum 27 rfl) ?_
    refine pz_putv (M := mX10_sum) hb (pX10_124 _ rfl) rfl rfl (pc' := 56) rfl (pz_dc dX10_sum 28 rfl) (fun h4 hb => ?_)
    refine pz_aload_n (pc' := 57) (x := l0) 1 rfl (pz_dc dX10_sum 29 rfl) rfl ?_
    refine pz_iload_n (pc' := 58) (x := l1) 2 rfl (pz_dc dX10_sum 30 rfl) rfl ?_
    refine pz_cVi (M := mX10_sum) (N := mX10_product) (d' := d) (bc1 := 0) (bs1 := 0) (bc2 := bc) (bs2 := bs) (pc' := 61) [.int l1] hb vX10_173 rfl (pz_dc dX10_sum 31 rfl) rfl (Nat.le_of_ble_eq_true rfl) (Nat.le_of_ble_eq_true rfl) rfl (by omega) (by omega) (by omega) (fun x6 h5 hb => ?_)
    refine pz_istore (pc' := 63) (lv' := [(4, .int x6), (3, .int 0), (0, .ref l0), (1, .int l1), (2, .int l2)]) rfl (pz_dc dX10_sum 32 rfl) (by decide) rfl ?_
    refine pz_iload_n (pc' := 64) (x := 0) 1 rfl (pz_dc dX10_sum 33 rfl) rfl ?_
    refine pz_if_eq (pc' := 67) (tgt := 74) rfl (pz_dc dX10_sum 34 rfl) (by decide) (fun _ => ?_) (fun hc => absurd hc (by decide))
    refine pz_iload_n (pc' := 75) (x := l2) 4 rfl (pz_dc dX10_sum 39 rfl) rfl ?_
    refine pz_iload (pc' := 77) (x := x6) 0 rfl (pz_dc dX10_sum 40 rfl) rfl ?_
    refine pz_isub (pc' := 78) rfl (pz_dc dX10_sum 41 rfl) ?_
    refine pz_istore_n (pc' := 79) (lv' := [(2, .int (l2 - x6)), (4, .int x6), (3, .int 0), (0, .ref l0), (1, .int l1)]) rfl (pz_dc dX10_sum 42 rfl) (by decide) rfl ?_
    refine pz_goto (pc' := 6) (pz_dc dX10_sum 43 rfl) (by decide) ?_
    refine pz_lv (lv' := [(0, .ref l0), (1, .int l1), (2, .int (l2 - x6))]) [3, 4, 0] rfl ?_
    exact hb
  · replace hb := hb.2 hc
    refine pz_iconst (pc' := 41) (v := 1) rfl (pz_dc dX10_sum 19 rfl) ki_1 ?_
    refine pz_goto (pc' := 45) (pz_dc dX10_sum 20 rfl) (by decide) ?_
    refine pz_istore_n (pc' := 46) (lv' := [(3, .int 1), (0, .ref l0), (1, .int l1), (2, .int l2)]) rfl (pz_dc dX10_sum 22 rfl) (by decide) rfl ?_
    refine pz_aload_n (pc' := 47) (x := l0) 1 rfl (pz_dc dX10_sum 23 rfl) rfl ?_
    refine pz_dup (pc' := 48) rfl (pz_dc dX10_sum 24 rfl) rfl ?_
    refine pz_getI (M := mX10_sum) hb fX10_124 (pc' := 51) rfl (pz_dc dX10_sum 25 rfl) (fun x7 hb => ?_)
    refine pz_iconst (pc' := 52) (v := 1) rfl (pz_dc dX10_sum 26 rfl) ki_1 ?_
    refine pz_iadd (pc' := 53) rfl (pz_dc dX10_sum 27 rfl) ?_
    refine pz_putv (M := mX10_sum) hb (pX10_124 _ rfl) rfl rfl (pc' := 56) rfl (pz_dc dX10_sum 28 rfl) (fun h8 hb => ?_)
    refine pz_aload_n (pc' := 57) (x := l0) 1 rfl (pz_dc dX10_sum 29 rfl) rfl ?_
    refine pz_iload_n (pc' := 58) (x := l1) 2 rfl (pz_dc dX10_sum 30 rfl) rfl ?_
    refine pz_cVi (M := mX10_sum) (N := mX10_product) (d' := d) (bc1 := 0) (bs1 := 0) (bc2 := bc) (bs2 := bs) (pc' := 61) [.int l1] hb vX10_173 rfl (pz_dc dX10_sum 31 rfl) rfl (Nat.le_of_ble_eq_true rfl) (Nat.le_of_ble_eq_true rfl) rfl (by omega) (by omega) (by omega) (fun x10 h9 hb => ?_)
    refine pz_istore (pc' := 63) (lv' := [(4, .int x10), (3, .int 1), (0, .ref l0), (1, .int l1), (2, .int l2)]) rfl (pz_dc dX10_sum 32 rfl) (by decide) rfl ?_
    refine pz_iload_n (pc' := 64) (x := 1) 1 rfl (pz_dc dX10_sum 33 rfl) rfl ?_
    refine pz_if_eq (pc' := 67) (tgt := 74) rfl (pz_dc dX10_sum 34 rfl) (by decide) (fun hc => absurd hc (by decide)) (fun _ => ?_)
    refine pz_iload_n (pc' := 68) (x := l2) 4 rfl (pz_dc dX10_sum 35 rfl) rfl ?_
    refine pz_iload (pc' := 70) (x := x10) 0 rfl (pz_dc dX10_sum 36 rfl) rfl ?_
    refine pz_iadd (pc' := 71) rfl (pz_dc dX10_sum 37 rfl) ?_
    refine pz_goto (pc' := 78) (pz_dc dX10_sum 38 rfl) (by decide) ?_
    refine pz_istore_n (pc' := 79) (lv' := [(2, .int (l2 + x10)), (4, .int x10), (3, .int 1), (0, .ref l0), (1, .int l1)]) rfl (pz_dc dX10_sum 42 rfl) (by decide) rfl ?_
    refine pz_goto (pc' := 6) (pz_dc dX10_sum 43 rfl) (by decide) ?_
    refine pz_lv (lv' := [(0, .ref l0), (1, .int l1), (2, .int (l2 + x10))]) [3, 4, 0] rfl ?_
    exact hb
set_option maxRecDepth 20000 in
set_option maxHeartbeats 4000000 in
theorem wX10_product_0 {Ex : State → Nat → Prop} {Q : Option Value → pz_H → Prop} {d bc bs : Nat} {l0 : Nat} {l1 : Int32}  {h : pz_H} (hD : 1 ≤ d + 1) (hb : pz_is h l0 10 ∧ (pz_ki mX10_thing d 0 0 (.ref l0 :: [.int l1]) h (fun (x2 : Int32) (h1 : pz_H) => pz_V mX10_product Ex Q (d + 1) bc bs 6 [(0, .ref l0), (1, .int l1), (2, .int x2)] [] h1))) : pz_V mX10_product Ex Q (d + 1) bc bs 0 [(0, .ref l0), (1, .int l1)] [] h := by
  refine pz_aload_n (pc' := 1) (x := l0) 0 rfl (pz_dc dX10_product 0 rfl) rfl ?_
  refine pz_iload_n (pc' := 2) (x := l1) 1 rfl (pz_dc dX10_product 1 rfl) rfl ?_
  refine pz_cVi (M := mX10_product) (N := mX10_thing) (d' := d) (bc1 := 0) (bs1 := 0) (bc2 := bc) (bs2 := bs) (pc' := 5) [.int l1] hb vX10_176 rfl (pz_dc dX10_product 2 rfl) rfl (Nat.le_of_ble_eq_true rfl) (Nat.le_of_ble_eq_true rfl) rfl (by omega) (by omega) (by omega) (fun x2 h1 hb => ?_)
  refine pz_istore_n (pc' := 6) (lv' := [(2, .int x2), (0, .ref l0), (1, .int l1)]) rfl (pz_dc dX10_product 3 rfl) (by decide) rfl ?_
  refine pz_lv (lv' := [(0, .ref l0), (1, .int l1), (2, .int x2)]) [1, 2, 0] rfl ?_
  exact hb
set_option maxRecDepth 20000 in
set_option maxHeartbeats 4000000 in
theorem wX10_product_6 {Ex : State → Nat → Prop} {Q : Option Value → pz_H → Prop} {d bc bs : Nat} {l0 : Nat} {l1 : Int32} {l2 : Int32}  {h : pz_H} (hD : 1 ≤ d + 1) (hb : pz_is h l0 10 ∧ (pz_gI h l0 10 14 (fun (x1 : Int32) => ((eX10_fine x1) = 0 → Q (some (.int l2)) h) ∧ (¬ (eX10_fine x1) = 0 → pz_is h l0 10 ∧ (pz_ki mX10_here 0 0 0 (.ref l0 :: []) h (fun (x6 : Int32) (h5 : pz_H) => (x6 = ((42 : Int32)) → pz_is h5 l0 10 ∧ (pz_ki mX10_here 0 0 0 (.ref l0 :: []) h5 (fun (x8 : Int32) (h7 : pz_H) => (¬ x8 = ((42 : Int32)) → pz_V mX10_product Ex Q (d + 1) bc bs 45 [(0, .ref l0), (1, .int l1), (2, .int l2)] [.int 0] h7) ∧ (x8 = ((42 : Int32)) → pz_V mX10_product Ex Q (d + 1) bc bs 45 [(0, .ref l0), (1, .int l1), (2, .int l2)] [.int 1] h7)))) ∧ (¬ x6 = ((42 : Int32)) → pz_is h5 l0 10 ∧ (pz_ki mX10_here 0 0 0 (.ref l0 :: []) h5 (fun (x10 : Int32) (h9 : pz_H) => (¬ x10 = ((47 : Int32)) → Q (some (.int l2)) h9) ∧ (x10 = ((47 : Int32)) → pz_is h9 l0 10 ∧ (pz_ki mX10_here 0 0 0 (.ref l0 :: []) h9 (fun (x12 : Int32) (h11 : pz_H) => (¬ x12 = ((42 : Int32)) → pz_V mX10_product Ex Q (d + 1) bc bs 45 [(0, .ref l0), (1, .int l1), (2, .int l2)] [.int 0] h11) ∧ (x12 = ((42 : Int32)) → pz_V mX10_product Ex Q (d + 1) bc bs 45 [(0, .ref l0), (1, .int l1), (2, .int l2)] [.int 1] h11))))))))))))) : pz_V mX10_product Ex Q (d + 1) bc bs 6 [(0, .ref l0), (1, .int l1), (2, .int l2)] [] h := by
  refine pz_aload_n (pc' := 7) (x := l0) 0 rfl (pz_dc dX10_product 4 rfl) rfl ?_
  obtain ⟨⟨fs13, hf14⟩, hb⟩ := hb
  obtain ⟨fs2, x1, g3, g4, hb⟩ := hb
  refine pz_callV (M := mX10_product) (N := mX10_fine) (d' := 0) (bc1 := 0) (bs1 := 0) (bc2 := bc) (bs2 := bs) (pc' := 10) [] vX10_134 rfl (pz_dc dX10_product 5 rfl) rfl (Nat.le_of_ble_eq_true rfl) (Nat.le_of_ble_eq_true rfl) rfl (by omega) (by omega) (by omega) hf14 ?_
  refine cX10_fine ⟨fs2, x1, g3, g4, ?_⟩
  show pz_V mX10_product _ _ _ _ _ 10 [(0, .ref l0), (1, .int l1), (2, .int l2)] [.int (eX10_fine x1)] h
  refine pz_if_eq (pc' := 13) (tgt := 91) rfl (pz_dc dX10_product 6 rfl) (by decide) (fun hc => ?_) (fun hc => ?_)
  · replace hb := hb.1 hc
    refine pz_iload_n (pc' := 92) (x := l2) 2 rfl (pz_dc dX10_product 48 rfl) rfl ?_
    exact pz_iret (pz_dc dX10_product 49 rfl) rfl hb
  · replace hb := hb.2 hc
    refine pz_aload_n (pc' := 14) (x := l0) 0 rfl (pz_dc dX10_product 7 rfl) rfl ?_
    refine pz_cVi (M := mX10_product) (N := mX10_here) (d' := 0) (bc1 := 0) (bs1 := 0) (bc2 := bc) (bs2 := bs) (pc' := 17) [] hb vX10_138 rfl (pz_dc dX10_product 8 rfl) rfl (Nat.le_of_ble_eq_true rfl) (Nat.le_of_ble_eq_true rfl) rfl (by omega) (by omega) (by omega) (fun x6 h5 hb => ?_)
    refine pz_bipush (pc' := 19) (v := 42) rfl (pz_dc dX10_product 9 rfl) kb_42 ?_
    refine pz_icmp_eq (pc' := 22) (tgt := 31) rfl (pz_dc dX10_product 10 rfl) (by decide) (fun hc => ?_) (fun hc => ?_)
    · replace hb := hb.1 hc
      refine pz_aload_n (pc' := 32) (x := l0) 0 rfl (pz_dc dX10_product 15 rfl) rfl ?_
      refine pz_cVi (M := mX10_product) (N := mX10_here) (d' := 0) (bc1 := 0) (bs1 := 0) (bc2 := bc) (bs2 := bs) (pc' := 35) [] hb vX10_138 rfl (pz_dc dX10_product 16 rfl) rfl (Nat.le_of_ble_eq_true rfl) (Nat.le_of_ble_eq_true rfl) rfl (by omega) (by omega) (by omega) (fun x8 h7 hb => ?_)
      refine pz_bipush (pc' := 37) (v := 42) rfl (pz_dc dX10_product 17 rfl) kb_42 ?_
      refine pz_icmp_ne (pc' := 40) (tgt := 44) rfl (pz_dc dX10_product 18 rfl) (by decide) (fun hc => ?_) (fun hc => ?_)
      · replace hb := hb.1 hc
        refine pz_iconst (pc' := 45) (v := 0) rfl (pz_dc dX10_product 21 rfl) ki_0 ?_
        exact hb
      · replace hb := hb.2 hc
        refine pz_iconst (pc' := 41) (v := 1) rfl (pz_dc dX10_product 19 rfl) ki_1 ?_
        refine pz_goto (pc' := 45) (pz_dc dX10_product 20 rfl) (by decide) ?_
        exact hb
    · replace hb := hb.2 hc
      refine pz_aload_n (pc' := 23) (x := l0) 0 rfl (pz_dc dX10_product 11 rfl) rfl ?_
      refine pz_cVi (M := mX10_product) (N := mX10_here) (d' := 0) (bc1 := 0) (bs1 := 0) (bc2 := bc) (bs2 := bs) (pc' := 26) [] hb vX10_138 rfl (pz_dc dX10_product 12 rfl) rfl (Nat.le_of_ble_eq_true rfl) (Nat.le_of_ble_eq_true rfl) rfl (by omega) (by omega) (by omega) (fun x10 h9 hb => ?_)
      refine pz_bipush (pc' := 28) (v := 47) rfl (pz_dc dX10_product 13 rfl) kb_47 ?_
      refine pz_icmp_ne (pc' := 31) (tgt := 91) rfl (pz_dc dX10_product 14 rfl) (by decide) (fun hc => ?_) (fun hc => ?_)
      · replace hb := hb.1 hc
        refine pz_iload_n (pc' := 92) (x := l2) 2 rfl (pz_dc dX10_product 48 rfl) rfl ?_
        exact pz_iret (pz_dc dX10_product 49 rfl) rfl hb
      · replace hb := hb.2 hc
        refine pz_aload_n (pc' := 32) (x := l0) 0 rfl (pz_dc dX10_product 15 rfl) rfl ?_
        refine pz_cVi (M := mX10_product) (N := mX10_here) (d' := 0) (bc1 := 0) (bs1 := 0) (bc2 := bc) (bs2 := bs) (pc' := 35) [] hb vX10_138 rfl (pz_dc dX10_product 16 rfl) rfl (Nat.le_of_ble_eq_true rfl) (Nat.le_of_ble_eq_true rfl) rfl (by omega) (by omega) (by omega) (fun x12 h11 hb => ?_)
        refine pz_bipush (pc' := 37) (v := 42) rfl (pz_dc dX10_product 17 rfl) kb_42 ?_
        refine pz_icmp_ne (pc' := 40) (tgt := 44) rfl (pz_dc dX10_product 18 rfl) (by decide) (fun hc => ?_) (fun hc => ?_)
        · replace hb := hb.1 hc
          refine pz_iconst (pc' := 45) (v := 0) rfl (pz_dc dX10_product 21 rfl) ki_0 ?_
          exact hb
        · replace hb := hb.2 hc
          refine pz_iconst (pc' := 41) (v := 1) rfl (pz_dc dX10_product 19 rfl) ki_1 ?_
          refine pz_goto (pc' := 45) (pz_dc dX10_product 20 rfl) (by decide) ?_
          exact hb
set_option maxRecDepth 20000 in
set_option maxHeartbeats 4000000 in
theorem wX10_product_45 {Ex : State → Nat → Prop} {Q : Option Value → pz_H → Prop} {d bc bs : Nat} {l0 : Nat} {l1 : Int32} {l2 : Int32} {s0 : Int32} {h : pz_H} (hD : 1 ≤ d + 1) (hb : pz_gI h l0 10 13 (fun (x1 : Int32) => pz_pF h l0 10 13 (.int (x1 + ((1 : Int32)))) (fun (h2 : pz_H) => pz_is h2 l0 10 ∧ (pz_ki mX10_thing d 0 0 (.ref l0 :: [.int l1]) h2 (fun (x4 : Int32) (h3 : pz_H) => (s0 = 0 → (¬ x4 = 0 → ¬ x4 = 0 ∧ (pz_V mX10_product Ex Q (d + 1) bc bs 6 [(0, .ref l0), (1, .int l1), (2, .int (l2 / x4))] [] h3)) ∧ (x4 = 0 → pz_V mX10_product Ex Q (d + 1) bc bs 6 [(0, .ref l0), (1, .int l1), (2, .int 0)] [] h3)) ∧ (¬ s0 = 0 → pz_V mX10_product Ex Q (d + 1) bc bs 6 [(0, .ref l0), (1, .int l1), (2, .int (l2 * x4))] [] h3)))))) : pz_V mX10_product Ex Q (d + 1) bc bs 45 [(0, .ref l0), (1, .int l1), (2, .int l2)] [.int s0] h := by
  refine pz_istore_n (pc' := 46) (lv' := [(3, .int s0), (0, .ref l0), (1, .int l1), (2, .int l2)]) rfl (pz_dc dX10_product 22 rfl) (by decide) rfl ?_
  refine pz_aload_n (pc' := 47) (x := l0) 1 rfl (pz_dc dX10_product 23 rfl) rfl ?_
  refine pz_dup (pc' := 48) rfl (pz_dc dX10_product 24 rfl) rfl ?_
  refine pz_getI (M := mX10_product) hb fX10_124 (pc' := 51) rfl (pz_dc dX10_product 25 rfl) (fun x1 hb => ?_)
  refine pz_iconst (pc' := 52) (v := 1) rfl (pz_dc dX10_product 26 rfl) ki_1 ?_
  refine pz_iadd (pc' := 53) rfl (pz_dc dX10_product 27 rfl) ?_
  refine pz_putv (M := mX10_product) hb (pX10_124 _ rfl) rfl rfl (pc' := 56) rfl (pz_dc dX10_product 28 rfl) (fun h2 hb => ?_)
  refine pz_aload_n (pc' := 57) (x := l0) 1 rfl (pz_dc dX10_product 29 rfl) rfl ?_
  refine pz_iload_n (pc' := 58) (x := l1) 2 rfl (pz_dc dX10_product 30 rfl) rfl ?_
  refine pz_cVi (M := mX10_product) (N := mX10_thing) (d' := d) (bc1 := 0) (bs1 := 0) (bc2 := bc) (bs2 := bs) (pc' := 61) [.int l1] hb vX10_176 rfl (pz_dc dX10_product 31 rfl) rfl (Nat.le_of_ble_eq_true rfl) (Nat.le_of_ble_eq_true rfl) rfl (by omega) (by omega) (by omega) (fun x4 h3 hb => ?_)
  refine pz_istore (pc' := 63) (lv' := [(4, .int x4), (3, .int s0), (0, .ref l0), (1, .int l1), (2, .int l2)]) rfl (pz_dc dX10_product 32 rfl) (by decide) rfl ?_
  refine pz_iload_n (pc' := 64) (x := s0) 1 rfl (pz_dc dX10_product 33 rfl) rfl ?_
  refine pz_if_eq (pc' := 67) (tgt := 74) rfl (pz_dc dX10_product 34 rfl) (by decide) (fun hc => ?_) (fun hc => ?_)
  · replace hb := hb.1 hc
    refine pz_iload (pc' := 76) (x := x4) 0 rfl (pz_dc dX10_product 39 rfl) rfl ?_
    refine pz_if_ne (pc' := 79) (tgt := 83) rfl (pz_dc dX10_product 40 rfl) (by decide) (fun hc => ?_) (fun hc => ?_)
    · replace hb := hb.1 hc
      refine pz_iload_n (pc' := 84) (x := l2) 4 rfl (pz_dc dX10_product 43 rfl) rfl ?_
      refine pz_iload (pc' := 86) (x := x4) 0 rfl (pz_dc dX10_product 44 rfl) rfl ?_
      refine pz_idiv (pc' := 87) rfl (pz_dc dX10_product 45 rfl) hb.1 ?_
      replace hb := hb.2
      refine pz_istore_n (pc' := 88) (lv' := [(2, .int (l2 / x4)), (4, .int x4), (3, .int s0), (0, .ref l0), (1, .int l1)]) rfl (pz_dc dX10_product 46 rfl) (by decide) rfl ?_
      refine pz_goto (pc' := 6) (pz_dc dX10_product 47 rfl) (by decide) ?_
      refine pz_lv (lv' := [(0, .ref l0), (1, .int l1), (2, .int (l2 / x4))]) [3, 4, 0] rfl ?_
      exact hb
    · replace hb := hb.2 hc
      refine pz_iconst (pc' := 80) (v := 0) rfl (pz_dc dX10_product 41 rfl) ki_0 ?_
      refine pz_goto (pc' := 87) (pz_dc dX10_product 42 rfl) (by decide) ?_
      refine pz_istore_n (pc' := 88) (lv' := [(2, .int 0), (4, .int x4), (3, .int s0), (0, .ref l0), (1, .int l1)]) rfl (pz_dc dX10_product 46 rfl) (by decide) rfl ?_
      refine pz_goto (pc' := 6) (pz_dc dX10_product 47 rfl) (by decide) ?_
      refine pz_lv (lv' := [(0, .ref l0), (1, .int l1), (2, .int 0)]) [3, 4, 0] rfl ?_
      exact hb
  · replace hb := hb.2 hc
    refine pz_iload_n (pc' := 68) (x := l2) 4 rfl (pz_dc dX10_product 35 rfl) rfl ?_
    refine pz_iload (pc' := 70) (x := x4) 0 rfl (pz_dc dX10_product 36 rfl) rfl ?_
    refine pz_imul (pc' := 71) rfl (pz_dc dX10_product 37 rfl) ?_
    refine pz_goto (pc' := 87) (pz_dc dX10_product 38 rfl) (by decide) ?_
    refine pz_istore_n (pc' := 88) (lv' := [(2, .int (l2 * x4)), (4, .int x4), (3, .int s0), (0, .ref l0), (1, .int l1)]) rfl (pz_dc dX10_product 46 rfl) (by decide) rfl ?_
    refine pz_goto (pc' := 6) (pz_dc dX10_product 47 rfl) (by decide) ?_
    refine pz_lv (lv' := [(0, .ref l0), (1, .int l1), (2, .int (l2 * x4))]) [3, 4, 0] rfl ?_
    exact hb
