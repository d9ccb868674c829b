/-! ===== the law, case by case ===== -/
section LCS
variable {l : Launch} {Ex : py_X} {Q : Option Value → pz_H → Prop} {d bc bs pc pc' : Nat} {h : pz_H} {x b L i : Nat} {xs : Nat → Int32} {S : pS} {lv : List (Nat × Value)} {st : List Value}
abbrev LV (b x i : Nat) : List (Nat × Value) := [(4, .int (nI i)), (3, .ref (x + 159)), (2, .ref (x + 132)), (1, .ref x), (0, .ref b)]
theorem py_arg {k : Nat} {c : Int} (j0 j4 : Nat) (e0 : lv[j0]? = some (0, .ref b)) (e4 : lv[j4]? = some (4, .int (nI i))) (hE : ∀ {p e R s m args below meth c G B Z}, Ex p e R s m args below meth c G B Z → py_S b L xs s B) (hi : i + 5 ≤ L) (hL : L ≤ 2560) (hk : k < 5) (hc : Int32.ofInt c = nI k) (d0 : decode mL_law.2.1 pc = .ok (.aload_n 0, 1)) (d1 : decode mL_law.2.1 (pc + 1) = .ok (.iload 4, 2)) (d2 : decode mL_law.2.1 (pc + 3) = .ok (.iconst c, 1)) (d3 : decode mL_law.2.1 (pc + 4) = .ok (.iadd, 1)) (d4 : decode mL_law.2.1 (pc + 5) = .ok (.iaload, 1)) (hp : pc + 6 = pc')
    (kk : py_V l mL_law Ex Q d bc bs pc' lv (.int (xs (i + k)) :: st) h) : py_V l mL_law Ex Q d bc bs pc lv st h := by
  refine py_aload_n (pc' := pc + 1) (x := b) j0 rfl d0 e0 ?_
  refine py_iload (pc' := pc + 3) (x := nI i) j4 rfl d1 e4 ?_
  refine py_iconst (pc' := pc + 4) (v := nI k) rfl d2 hc ?_
  refine py_iadd (pc' := pc + 5) rfl d3 ?_
  rw [nI_add i k]
  refine py_sld hE (pc' := pc') hp d4 (vin (by omega) (by omega)) ?_
  rw [clamp (by omega)]
  exact kk
theorem LI.a2 {h1 : pz_H} {S' : pS} {f : Nat → Int64} (I : LI h x S) (C : CInv h1 x S') (hz : h.1 ≤ h1.1) (hb : ∀ b, x + 132 ≤ b → b < x + 159 → h1.2 b = h.2 b) (ho : h1.2 (x + 159) = some (aJ 1 f)) : ∃ h0, LJ h1 x S S' h0 := by
  obtain ⟨-, ⟨h0, g1, g2⟩, g3, g4, -⟩ := I
  obtain ⟨h0', k1, k2⟩ := g1.mv (h' := h1) (fun b a1 a2 => hb b (by omega) (by omega))
  exact ⟨h0', C, ⟨k1, k2.trans g2⟩, g3, Nat.le_trans g4 hz, f, ho⟩
theorem lgc (a : Int64) : lg_cmp a a = 0 := by
  unfold lg_cmp
  simp
theorem okW_lake : py_okW mL_lake [(0, 10, 13, 13)] 4 := ⟨(pz_t4 177 rfl rfl), (pz_t1 0 rfl rfl), by decide +kernel, by decide, ⟨by decide +kernel, by decide +kernel⟩, by decide +kernel⟩
theorem okW_row : py_okW mL_row [(0, 8, 11, 13)] 3 := ⟨(pz_t5 7 rfl rfl), (pz_t1 0 rfl rfl), by decide +kernel, by decide, ⟨by decide +kernel, by decide +kernel⟩, by decide +kernel⟩
theorem LC_0 (hE : ∀ {p e R s m args below meth c G B Z}, Ex p e R s m args below meth c G B Z → py_S b L xs s B) (I : LI h x S) (hi : i + 5 ≤ L) (hL : L ≤ 2560) (hd : 203 ≤ d) (hbc : 3 ≤ bc) (hbs : 6907 ≤ bs) (kk : ∀ h' S', LI h' x S' → py_V l mL_law Ex Q d (bc - 3) (bs - 6907) 1678 (LV b x i) [] h') : py_V l mL_law Ex Q d bc bs 248 (LV b x i) [] h := by
  obtain ⟨fs, hx⟩ := I.1.obj
  refine py_aload_n (pc' := 249) (x := x) 3 rfl (pz_dc dL_law_0 25 rfl) rfl ?_
  refine py_arg (pc := 249) (pc' := 255) (k := 1) 4 0 rfl rfl hE hi hL (by decide) (by decide) (pz_dc dL_law_0 26 rfl) (pz_dc dL_law_0 27 rfl) (pz_dc dL_law_0 28 rfl) (pz_dc dL_law_0 29 rfl) (pz_dc dL_law_0 30 rfl) rfl ?_
  refine py_callV (M := mL_law) (N := mX9_sign) (d' := 202) (bc1 := 3) (bs1 := 6907) (bc2 := bc - 3) (bs2 := bs - 6907) (pc' := 258) (st := []) [.int (xs (i + 1))] vL_23 rfl (pz_dc dL_law_0 31 rfl) rfl (Nat.le_of_ble_eq_true rfl) (Nat.le_of_ble_eq_true rfl) rfl (by omega) (by omega) (by omega) hx ?_
  refine C_sign I.1 I.2.2.1 (by decide) (fun h1 I1 F1 => ?_)
  obtain ⟨h0, J⟩ := I.a I1 F1
  obtain ⟨fs2, hm⟩ := J.2.1.1.obj
  show py_V l mL_law Ex Q d (bc - 3) (bs - 6907) 258 (LV b x i) [.int _] h1
  refine py_aload_n (pc' := 259) (x := x + 132) 2 rfl (pz_dc dL_law_0 32 rfl) rfl ?_
  refine py_arg (pc := 259) (pc' := 265) (k := 1) 4 0 rfl rfl hE hi hL (by decide) (by decide) (pz_dc dL_law_0 33 rfl) (pz_dc dL_law_0 34 rfl) (pz_dc dL_law_0 35 rfl) (pz_dc dL_law_0 36 rfl) (pz_dc dL_law_0 37 rfl) rfl ?_
  refine py_callV (M := mL_law) (N := mX10_sign) (d' := 202) (bc1 := 0) (bs1 := 0) (bc2 := bc - 3) (bs2 := bs - 6907) (pc' := 268) (st := [.int _]) [.int (xs (i + 1))] vL_27 rfl (pz_dc dL_law_0 38 rfl) rfl (Nat.le_of_ble_eq_true rfl) (Nat.le_of_ble_eq_true rfl) rfl (by omega) (by omega) (by omega) hm ?_
  refine M_sign J.2.1.1 J.2.2.1 (fun h2 M2 => ?_)
  show py_V l mL_law Ex Q d (bc - 3) (bs - 6907) 268 (LV b x i) [.int _, .int _] h2
  exact py_icmp_eq (pc' := 271) (tgt := 1678) rfl (pz_dc dL_law_0 39 rfl) (by decide) (fun _ => kk h2 _ (J.b M2 (I.2.2.1.sign (xs (i + 1))))) (fun z => absurd rfl z)
theorem LC_1 (hE : ∀ {p e R s m args below meth c G B Z}, Ex p e R s m args below meth c G B Z → py_S b L xs s B) (I : LI h x S) (hi : i + 5 ≤ L) (hL : L ≤ 2560) (hd : 203 ≤ d) (hbc : 3 ≤ bc) (hbs : 6907 ≤ bs) (kk : ∀ h' S', LI h' x S' → py_V l mL_law Ex Q d (bc - 3) (bs - 6907) 1678 (LV b x i) [] h') : py_V l mL_law Ex Q d bc bs 273 (LV b x i) [] h := by
  obtain ⟨fs, hx⟩ := I.1.obj
  refine py_aload_n (pc' := 274) (x := x) 3 rfl (pz_dc dL_law_1 2 rfl) rfl ?_
  refine py_arg (pc := 274) (pc' := 280) (k := 1) 4 0 rfl rfl hE hi hL (by decide) (by decide) (pz_dc dL_law_1 3 rfl) (pz_dc dL_law_1 4 rfl) (pz_dc dL_law_1 5 rfl) (pz_dc dL_law_1 6 rfl) (pz_dc dL_law_1 7 rfl) rfl ?_
  refine py_callV (M := mL_law) (N := mX9_end) (d' := 202) (bc1 := 3) (bs1 := 6907) (bc2 := bc - 3) (bs2 := bs - 6907) (pc' := 283) (st := []) [.int (xs (i + 1))] vL_28 rfl (pz_dc dL_law_1 8 rfl) rfl (Nat.le_of_ble_eq_true rfl) (Nat.le_of_ble_eq_true rfl) rfl (by omega) (by omega) (by omega) hx ?_
  refine C_end I.1 I.2.2.1 (by decide) (fun h1 I1 F1 => ?_)
  obtain ⟨h0, J⟩ := I.a I1 F1
  obtain ⟨fs2, hm⟩ := J.2.1.1.obj
  show py_V l mL_law Ex Q d (bc - 3) (bs - 6907) 283 (LV b x i) [.int _] h1
  refine py_aload_n (pc' := 284) (x := x + 132) 2 rfl (pz_dc dL_law_1 9 rfl) rfl ?_
  refine py_arg (pc := 284) (pc' := 290) (k := 1) 4 0 rfl rfl hE hi hL (by decide) (by decide) (pz_dc dL_law_1 10 rfl) (pz_dc dL_law_1 11 rfl) (pz_dc dL_law_1 12 rfl) (pz_dc dL_law_1 13 rfl) (pz_dc dL_law_1 14 rfl) rfl ?_
  refine py_callV (M := mL_law) (N := mX10_end) (d' := 202) (bc1 := 0) (bs1 := 0) (bc2 := bc - 3) (bs2 := bs - 6907) (pc' := 293) (st := [.int _]) [.int (xs (i + 1))] vL_32 rfl (pz_dc dL_law_1 15 rfl) rfl (Nat.le_of_ble_eq_true rfl) (Nat.le_of_ble_eq_true rfl) rfl (by omega) (by omega) (by omega) hm ?_
  refine M_end J.2.1.1 J.2.2.1 (by decide) (fun h2 M2 => ?_)
  show py_V l mL_law Ex Q d (bc - 3) (bs - 6907) 293 (LV b x i) [.int _, .int _] h2
  exact py_icmp_eq (pc' := 296) (tgt := 1678) rfl (pz_dc dL_law_1 16 rfl) (by decide) (fun _ => kk h2 _ (J.b M2 (I.2.2.1.end_ (xs (i + 1))))) (fun z => absurd rfl z)
theorem LC_2 (hE : ∀ {p e R s m args below meth c G B Z}, Ex p e R s m args below meth c G B Z → py_S b L xs s B) (I : LI h x S) (hi : i + 5 ≤ L) (hL : L ≤ 2560) (hd : 203 ≤ d) (hbc : 3 ≤ bc) (hbs : 6907 ≤ bs) (kk : ∀ h' S', LI h' x S' → py_V l mL_law Ex Q d (bc - 3) (bs - 6907) 1678 (LV b x i) [] h') : py_V l mL_law Ex Q d bc bs 298 (LV b x i) [] h := by
  obtain ⟨fs, hx⟩ := I.1.obj
  refine py_aload_n (pc' := 299) (x := x) 3 rfl (pz_dc dL_law_1 19 rfl) rfl ?_
  refine py_callV (M := mL_law) (N := mX9_lakes) (d' := 202) (bc1 := 3) (bs1 := 6907) (bc2 := bc - 3) (bs2 := bs - 6907) (pc' := 302) (st := []) [] vL_33 rfl (pz_dc dL_law_1 20 rfl) rfl (Nat.le_of_ble_eq_true rfl) (Nat.le_of_ble_eq_true rfl) rfl (by omega) (by omega) (by omega) hx ?_
  refine C_lakes I.1 I.2.2.1 (by decide) (fun h1 I1 F1 => ?_)
  obtain ⟨h0, J⟩ := I.a I1 F1
  obtain ⟨fs2, hm⟩ := J.2.1.1.obj
  show py_V l mL_law Ex Q d (bc - 3) (bs - 6907) 302 (LV b x i) [.int _] h1
  refine py_aload_n (pc' := 303) (x := x + 132) 2 rfl (pz_dc dL_law_1 21 rfl) rfl ?_
  refine py_callV (M := mL_law) (N := mX10_lakes) (d' := 202) (bc1 := 0) (bs1 := 0) (bc2 := bc - 3) (bs2 := bs - 6907) (pc' := 306) (st := [.int _]) [] vL_37 rfl (pz_dc dL_law_1 22 rfl) rfl (Nat.le_of_ble_eq_true rfl) (Nat.le_of_ble_eq_true rfl) rfl (by omega) (by omega) (by omega) hm ?_
  refine M_lakes J.2.1.1 J.2.2.1 (by decide) (fun h2 M2 => ?_)
  show py_V l mL_law Ex Q d (bc - 3) (bs - 6907) 306 (LV b x i) [.int _, .int _] h2
  exact py_icmp_eq (pc' := 309) (tgt := 1678) rfl (pz_dc dL_law_1 23 rfl) (by decide) (fun _ => kk h2 _ (J.b M2 I.2.2.1.lakes)) (fun z => absurd rfl z)
theorem LC_3 (hE : ∀ {p e R s m args below meth c G B Z}, Ex p e R s m args below meth c G B Z → py_S b L xs s B) (I : LI h x S) (hi : i + 5 ≤ L) (hL : L ≤ 2560) (hd : 203 ≤ d) (hbc : 3 ≤ bc) (hbs : 6907 ≤ bs) (kk : ∀ h' S', LI h' x S' → py_V l mL_law Ex Q d (bc - 3) (bs - 6907) 1678 (LV b x i) [] h') : py_V l mL_law Ex Q d bc bs 311 (LV b x i) [] h := by
  obtain ⟨fs, hx⟩ := I.1.obj
  refine py_aload_n (pc' := 312) (x := x) 3 rfl (pz_dc dL_law_1 26 rfl) rfl ?_
  refine py_callV (M := mL_law) (N := mX9_rule) (d' := 202) (bc1 := 3) (bs1 := 6907) (bc2 := bc - 3) (bs2 := bs - 6907) (pc' := 315) (st := []) [] vL_38 rfl (pz_dc dL_law_1 27 rfl) rfl (Nat.le_of_ble_eq_true rfl) (Nat.le_of_ble_eq_true rfl) rfl (by omega) (by omega) (by omega) hx ?_
  refine C_rule I.1 I.2.2.1 (by decide) (fun h1 I1 F1 => ?_)
  obtain ⟨h0, J⟩ := I.a I1 F1
  obtain ⟨fs2, hm⟩ := J.2.1.1.obj
  show py_V l mL_law Ex Q d (bc - 3) (bs - 6907) 315 (LV b x i) [.int _] h1
  refine py_aload_n (pc' := 316) (x := x + 132) 2 rfl (pz_dc dL_law_1 28 rfl) rfl ?_
  refine py_callV (M := mL_law) (N := mX10_rule) (d' := 202) (bc1 := 0) (bs1 := 0) (bc2 := bc - 3) (bs2 := bs - 6907) (pc' := 319) (st := [.int _]) [] vL_41 rfl (pz_dc dL_law_1 29 rfl) rfl (Nat.le_of_ble_eq_true rfl) (Nat.le_of_ble_eq_true rfl) rfl (by omega) (by omega) (by omega) hm ?_
  refine M_rule J.2.1.1 J.2.2.1 J.2.1.2 (by decide) (fun h2 M2 => ?_)
  show py_V l mL_law Ex Q d (bc - 3) (bs - 6907) 319 (LV b x i) [.int _, .int _] h2
  exact py_icmp_eq (pc' := 322) (tgt := 1678) rfl (pz_dc dL_law_1 30 rfl) (by decide) (fun _ => kk h2 _ (J.b M2 I.2.2.1.rule)) (fun z => absurd rfl z)
theorem LC_5 (hE : ∀ {p e R s m args below meth c G B Z}, Ex p e R s m args below meth c G B Z → py_S b L xs s B) (I : LI h x S) (hi : i + 5 ≤ L) (hL : L ≤ 2560) (hd : 203 ≤ d) (hbc : 3 ≤ bc) (hbs : 6907 ≤ bs) (kk : ∀ h' S', LI h' x S' → py_V l mL_law Ex Q d (bc - 3) (bs - 6907) 1678 (LV b x i) [] h') : py_V l mL_law Ex Q d bc bs 392 (LV b x i) [] h := by
  obtain ⟨fs, hx⟩ := I.1.obj
  refine py_aload_n (pc' := 393) (x := x) 3 rfl (pz_dc dL_law_2 38 rfl) rfl ?_
  refine py_arg (pc := 393) (pc' := 399) (k := 1) 4 0 rfl rfl hE hi hL (by decide) (by decide) (pz_dc dL_law_2 39 rfl) (pz_dc dL_law_3 0 rfl) (pz_dc dL_law_3 1 rfl) (pz_dc dL_law_3 2 rfl) (pz_dc dL_law_3 3 rfl) rfl ?_
  refine py_arg (pc := 399) (pc' := 405) (k := 2) 4 0 rfl rfl hE hi hL (by decide) (by decide) (pz_dc dL_law_3 4 rfl) (pz_dc dL_law_3 5 rfl) (pz_dc dL_law_3 6 rfl) (pz_dc dL_law_3 7 rfl) (pz_dc dL_law_3 8 rfl) rfl ?_
  refine py_arg (pc := 405) (pc' := 411) (k := 3) 4 0 rfl rfl hE hi hL (by decide) (by decide) (pz_dc dL_law_3 9 rfl) (pz_dc dL_law_3 10 rfl) (pz_dc dL_law_3 11 rfl) (pz_dc dL_law_3 12 rfl) (pz_dc dL_law_3 13 rfl) rfl ?_
  refine py_arg (pc := 411) (pc' := 417) (k := 4) 4 0 rfl rfl hE hi hL (by decide) (by decide) (pz_dc dL_law_3 14 rfl) (pz_dc dL_law_3 15 rfl) (pz_dc dL_law_3 16 rfl) (pz_dc dL_law_3 17 rfl) (pz_dc dL_law_3 18 rfl) rfl ?_
  refine py_callV (M := mL_law) (N := mX9_sheet) (d' := 202) (bc1 := 3) (bs1 := 6907) (bc2 := bc - 3) (bs2 := bs - 6907) (pc' := 420) (st := []) [.int (xs (i + 1)), .int (xs (i + 2)), .int (xs (i + 3)), .int (xs (i + 4))] vL_51 rfl (pz_dc dL_law_3 19 rfl) rfl (Nat.le_of_ble_eq_true rfl) (Nat.le_of_ble_eq_true rfl) rfl (by omega) (by omega) (by omega) hx ?_
  refine C_sheet I.1 I.2.2.1 (by decide) (fun h1 I1 F1 => ?_)
  obtain ⟨h0, J⟩ := I.a I1 F1
  obtain ⟨fs2, hm⟩ := J.2.1.1.obj
  show py_V l mL_law Ex Q d (bc - 3) (bs - 6907) 420 (LV b x i) [.int _] h1
  refine py_aload_n (pc' := 421) (x := x + 132) 2 rfl (pz_dc dL_law_3 20 rfl) rfl ?_
  refine py_arg (pc := 421) (pc' := 427) (k := 1) 4 0 rfl rfl hE hi hL (by decide) (by decide) (pz_dc dL_law_3 21 rfl) (pz_dc dL_law_3 22 rfl) (pz_dc dL_law_3 23 rfl) (pz_dc dL_law_3 24 rfl) (pz_dc dL_law_3 25 rfl) rfl ?_
  refine py_arg (pc := 427) (pc' := 433) (k := 2) 4 0 rfl rfl hE hi hL (by decide) (by decide) (pz_dc dL_law_3 26 rfl) (pz_dc dL_law_3 27 rfl) (pz_dc dL_law_3 28 rfl) (pz_dc dL_law_3 29 rfl) (pz_dc dL_law_3 30 rfl) rfl ?_
  refine py_arg (pc := 433) (pc' := 439) (k := 3) 4 0 rfl rfl hE hi hL (by decide) (by decide) (pz_dc dL_law_3 31 rfl) (pz_dc dL_law_3 32 rfl) (pz_dc dL_law_3 33 rfl) (pz_dc dL_law_3 34 rfl) (pz_dc dL_law_3 35 rfl) rfl ?_
  refine py_arg (pc := 439) (pc' := 445) (k := 4) 4 0 rfl rfl hE hi hL (by decide) (by decide) (pz_dc dL_law_3 36 rfl) (pz_dc dL_law_3 37 rfl) (pz_dc dL_law_3 38 rfl) (pz_dc dL_law_3 39 rfl) (pz_dc dL_law_4 0 rfl) rfl ?_
  refine py_callV (M := mL_law) (N := mX10_sheet) (d' := 202) (bc1 := 0) (bs1 := 0) (bc2 := bc - 3) (bs2 := bs - 6907) (pc' := 448) (st := [.int _]) [.int (xs (i + 1)), .int (xs (i + 2)), .int (xs (i + 3)), .int (xs (i + 4))] vL_55 rfl (pz_dc dL_law_4 1 rfl) rfl (Nat.le_of_ble_eq_true rfl) (Nat.le_of_ble_eq_true rfl) rfl (by omega) (by omega) (by omega) hm ?_
  refine M_sheet J.2.1.1 J.2.2.1 (by decide) (fun h2 M2 => ?_)
  show py_V l mL_law Ex Q d (bc - 3) (bs - 6907) 448 (LV b x i) [.int _, .int _] h2
  exact py_icmp_eq (pc' := 451) (tgt := 1678) rfl (pz_dc dL_law_4 2 rfl) (by decide) (fun _ => kk h2 _ (J.b M2 (I.2.2.1.sheet (xs (i + 1)) (xs (i + 2)) (xs (i + 3)) (xs (i + 4))))) (fun z => absurd rfl z)
theorem LC_6 (hE : ∀ {p e R s m args below meth c G B Z}, Ex p e R s m args below meth c G B Z → py_S b L xs s B) (I : LI h x S) (hi : i + 5 ≤ L) (hL : L ≤ 2560) (hd : 203 ≤ d) (hbc : 3 ≤ bc) (hbs : 6907 ≤ bs) (kk : ∀ h' S', LI h' x S' → py_V l mL_law Ex Q d (bc - 3) (bs - 6907) 1678 (LV b x i) [] h') : py_V l mL_law Ex Q d bc bs 453 (LV b x i) [] h := by
  obtain ⟨fs, hx⟩ := I.1.obj
  refine py_aload_n (pc' := 454) (x := x) 3 rfl (pz_dc dL_law_4 5 rfl) rfl ?_
  refine py_arg (pc := 454) (pc' := 460) (k := 1) 4 0 rfl rfl hE hi hL (by decide) (by decide) (pz_dc dL_law_4 6 rfl) (pz_dc dL_law_4 7 rfl) (pz_dc dL_law_4 8 rfl) (pz_dc dL_law_4 9 rfl) (pz_dc dL_law_4 10 rfl) rfl ?_
  refine py_callV (M := mL_law) (N := mX9_days) (d' := 202) (bc1 := 3) (bs1 := 6907) (bc2 := bc - 3) (bs2 := bs - 6907) (pc' := 463) (st := []) [.int (xs (i + 1))] vL_56 rfl (pz_dc dL_law_4 11 rfl) rfl (Nat.le_of_ble_eq_true rfl) (Nat.le_of_ble_eq_true rfl) rfl (by omega) (by omega) (by omega) hx ?_
  refine C_days I.1 I.2.2.1 (by decide) (fun h1 I1 F1 => ?_)
  obtain ⟨h0, J⟩ := I.a I1 F1
  obtain ⟨fs2, hm⟩ := J.2.1.1.obj
  show py_V l mL_law Ex Q d (bc - 3) (bs - 6907) 463 (LV b x i) [.int _] h1
  refine py_aload_n (pc' := 464) (x := x + 132) 2 rfl (pz_dc dL_law_4 12 rfl) rfl ?_
  refine py_arg (pc := 464) (pc' := 470) (k := 1) 4 0 rfl rfl hE hi hL (by decide) (by decide) (pz_dc dL_law_4 13 rfl) (pz_dc dL_law_4 14 rfl) (pz_dc dL_law_4 15 rfl) (pz_dc dL_law_4 16 rfl) (pz_dc dL_law_4 17 rfl) rfl ?_
  refine py_callV (M := mL_law) (N := mX10_days) (d' := 202) (bc1 := 0) (bs1 := 0) (bc2 := bc - 3) (bs2 := bs - 6907) (pc' := 473) (st := [.int _]) [.int (xs (i + 1))] vL_59 rfl (pz_dc dL_law_4 18 rfl) rfl (Nat.le_of_ble_eq_true rfl) (Nat.le_of_ble_eq_true rfl) rfl (by omega) (by omega) (by omega) hm ?_
  refine M_days J.2.1.1 J.2.2.1 (by decide) (fun h2 M2 => ?_)
  show py_V l mL_law Ex Q d (bc - 3) (bs - 6907) 473 (LV b x i) [.int _, .int _] h2
  exact py_icmp_eq (pc' := 476) (tgt := 1678) rfl (pz_dc dL_law_4 19 rfl) (by decide) (fun _ => kk h2 _ (J.b M2 (I.2.2.1.days (xs (i + 1))))) (fun z => absurd rfl z)
theorem LC_7 (hE : ∀ {p e R s m args below meth c G B Z}, Ex p e R s m args below meth c G B Z → py_S b L xs s B) (I : LI h x S) (hi : i + 5 ≤ L) (hL : L ≤ 2560) (hd : 203 ≤ d) (hbc : 3 ≤ bc) (hbs : 6907 ≤ bs) (kk : ∀ h' S', LI h' x S' → py_V l mL_law Ex Q d (bc - 3) (bs - 6907) 1678 (LV b x i) [] h') : py_V l mL_law Ex Q d bc bs 478 (LV b x i) [] h := by
  obtain ⟨fs, hx⟩ := I.1.obj
  refine py_aload_n (pc' := 479) (x := x) 3 rfl (pz_dc dL_law_4 22 rfl) rfl ?_
  refine py_arg (pc := 479) (pc' := 485) (k := 1) 4 0 rfl rfl hE hi hL (by decide) (by decide) (pz_dc dL_law_4 23 rfl) (pz_dc dL_law_4 24 rfl) (pz_dc dL_law_4 25 rfl) (pz_dc dL_law_4 26 rfl) (pz_dc dL_law_4 27 rfl) rfl ?_
  refine py_callV (M := mL_law) (N := mX9_pulls) (d' := 202) (bc1 := 3) (bs1 := 6907) (bc2 := bc - 3) (bs2 := bs - 6907) (pc' := 488) (st := []) [.int (xs (i + 1))] vL_60 rfl (pz_dc dL_law_4 28 rfl) rfl (Nat.le_of_ble_eq_true rfl) (Nat.le_of_ble_eq_true rfl) rfl (by omega) (by omega) (by omega) hx ?_
  refine C_pulls I.1 I.2.2.1 (by decide) (fun h1 I1 F1 => ?_)
  obtain ⟨h0, J⟩ := I.a I1 F1
  obtain ⟨fs2, hm⟩ := J.2.1.1.obj
  show py_V l mL_law Ex Q d (bc - 3) (bs - 6907) 488 (LV b x i) [.int _] h1
  refine py_aload_n (pc' := 489) (x := x + 132) 2 rfl (pz_dc dL_law_4 29 rfl) rfl ?_
  refine py_arg (pc := 489) (pc' := 495) (k := 1) 4 0 rfl rfl hE hi hL (by decide) (by decide) (pz_dc dL_law_4 30 rfl) (pz_dc dL_law_4 31 rfl) (pz_dc dL_law_4 32 rfl) (pz_dc dL_law_4 33 rfl) (pz_dc dL_law_4 34 rfl) rfl ?_
  refine py_callV (M := mL_law) (N := mX10_pulls) (d' := 202) (bc1 := 0) (bs1 := 0) (bc2 := bc - 3) (bs2 := bs - 6907) (pc' := 498) (st := [.int _]) [.int (xs (i + 1))] vL_63 rfl (pz_dc dL_law_4 35 rfl) rfl (Nat.le_of_ble_eq_true rfl) (Nat.le_of_ble_eq_true rfl) rfl (by omega) (by omega) (by omega) hm ?_
  refine M_pulls J.2.1.1 J.2.2.1 (by decide) (fun h2 M2 => ?_)
  show py_V l mL_law Ex Q d (bc - 3) (bs - 6907) 498 (LV b x i) [.int _, .int _] h2
  exact py_icmp_eq (pc' := 501) (tgt := 1678) rfl (pz_dc dL_law_4 36 rfl) (by decide) (fun _ => kk h2 _ (J.b M2 (I.2.2.1.act 112 (xs (i + 1)) 0))) (fun z => absurd rfl z)
theorem LC_8 (hE : ∀ {p e R s m args below meth c G B Z}, Ex p e R s m args below meth c G B Z → py_S b L xs s B) (I : LI h x S) (hi : i + 5 ≤ L) (hL : L ≤ 2560) (hd : 203 ≤ d) (hbc : 3 ≤ bc) (hbs : 6907 ≤ bs) (kk : ∀ h' S', LI h' x S' → py_V l mL_law Ex Q d (bc - 3) (bs - 6907) 1678 (LV b x i) [] h') : py_V l mL_law Ex Q d bc bs 503 (LV b x i) [] h := by
  obtain ⟨fs, hx⟩ := I.1.obj
  refine py_aload_n (pc' := 504) (x := x) 3 rfl (pz_dc dL_law_4 39 rfl) rfl ?_
  refine py_arg (pc := 504) (pc' := 510) (k := 1) 4 0 rfl rfl hE hi hL (by decide) (by decide) (pz_dc dL_law_5 0 rfl) (pz_dc dL_law_5 1 rfl) (pz_dc dL_law_5 2 rfl) (pz_dc dL_law_5 3 rfl) (pz_dc dL_law_5 4 rfl) rfl ?_
  refine py_callV (M := mL_law) (N := mX9_stops) (d' := 202) (bc1 := 3) (bs1 := 6907) (bc2 := bc - 3) (bs2 := bs - 6907) (pc' := 513) (st := []) [.int (xs (i + 1))] vL_64 rfl (pz_dc dL_law_5 5 rfl) rfl (Nat.le_of_ble_eq_true rfl) (Nat.le_of_ble_eq_true rfl) rfl (by omega) (by omega) (by omega) hx ?_
  refine C_stops I.1 I.2.2.1 (by decide) (fun h1 I1 F1 => ?_)
  obtain ⟨h0, J⟩ := I.a I1 F1
  obtain ⟨fs2, hm⟩ := J.2.1.1.obj
  show py_V l mL_law Ex Q d (bc - 3) (bs - 6907) 513 (LV b x i) [.int _] h1
  refine py_aload_n (pc' := 514) (x := x + 132) 2 rfl (pz_dc dL_law_5 6 rfl) rfl ?_
  refine py_arg (pc := 514) (pc' := 520) (k := 1) 4 0 rfl rfl hE hi hL (by decide) (by decide) (pz_dc dL_law_5 7 rfl) (pz_dc dL_law_5 8 rfl) (pz_dc dL_law_5 9 rfl) (pz_dc dL_law_5 10 rfl) (pz_dc dL_law_5 11 rfl) rfl ?_
  refine py_callV (M := mL_law) (N := mX10_stops) (d' := 202) (bc1 := 0) (bs1 := 0) (bc2 := bc - 3) (bs2 := bs - 6907) (pc' := 523) (st := [.int _]) [.int (xs (i + 1))] vL_67 rfl (pz_dc dL_law_5 12 rfl) rfl (Nat.le_of_ble_eq_true rfl) (Nat.le_of_ble_eq_true rfl) rfl (by omega) (by omega) (by omega) hm ?_
  refine M_stops J.2.1.1 J.2.2.1 (by decide) (fun h2 M2 => ?_)
  show py_V l mL_law Ex Q d (bc - 3) (bs - 6907) 523 (LV b x i) [.int _, .int _] h2
  exact py_icmp_eq (pc' := 526) (tgt := 1678) rfl (pz_dc dL_law_5 13 rfl) (by decide) (fun _ => kk h2 _ (J.b M2 (I.2.2.1.act 115 (xs (i + 1)) 0))) (fun z => absurd rfl z)
theorem LC_9 (hE : ∀ {p e R s m args below meth c G B Z}, Ex p e R s m args below meth c G B Z → py_S b L xs s B) (I : LI h x S) (hi : i + 5 ≤ L) (hL : L ≤ 2560) (hd : 203 ≤ d) (hbc : 3 ≤ bc) (hbs : 6907 ≤ bs) (kk : ∀ h' S', LI h' x S' → py_V l mL_law Ex Q d (bc - 3) (bs - 6907) 1678 (LV b x i) [] h') : py_V l mL_law Ex Q d bc bs 528 (LV b x i) [] h := by
  obtain ⟨fs, hx⟩ := I.1.obj
  refine py_aload_n (pc' := 529) (x := x) 3 rfl (pz_dc dL_law_5 16 rfl) rfl ?_
  refine py_arg (pc := 529) (pc' := 535) (k := 1) 4 0 rfl rfl hE hi hL (by decide) (by decide) (pz_dc dL_law_5 17 rfl) (pz_dc dL_law_5 18 rfl) (pz_dc dL_law_5 19 rfl) (pz_dc dL_law_5 20 rfl) (pz_dc dL_law_5 21 rfl) rfl ?_
  refine py_callV (M := mL_law) (N := mX9_combs) (d' := 202) (bc1 := 3) (bs1 := 6907) (bc2 := bc - 3) (bs2 := bs - 6907) (pc' := 538) (st := []) [.int (xs (i + 1))] vL_68 rfl (pz_dc dL_law_5 22 rfl) rfl (Nat.le_of_ble_eq_true rfl) (Nat.le_of_ble_eq_true rfl) rfl (by omega) (by omega) (by omega) hx ?_
  refine C_combs I.1 I.2.2.1 (by decide) (fun h1 I1 F1 => ?_)
  obtain ⟨h0, J⟩ := I.a I1 F1
  obtain ⟨fs2, hm⟩ := J.2.1.1.obj
  show py_V l mL_law Ex Q d (bc - 3) (bs - 6907) 538 (LV b x i) [.int _] h1
  refine py_aload_n (pc' := 539) (x := x + 132) 2 rfl (pz_dc dL_law_5 23 rfl) rfl ?_
  refine py_arg (pc := 539) (pc' := 545) (k := 1) 4 0 rfl rfl hE hi hL (by decide) (by decide) (pz_dc dL_law_5 24 rfl) (pz_dc dL_law_5 25 rfl) (pz_dc dL_law_5 26 rfl) (pz_dc dL_law_5 27 rfl) (pz_dc dL_law_5 28 rfl) rfl ?_
  refine py_callV (M := mL_law) (N := mX10_combs) (d' := 202) (bc1 := 0) (bs1 := 0) (bc2 := bc - 3) (bs2 := bs - 6907) (pc' := 548) (st := [.int _]) [.int (xs (i + 1))] vL_71 rfl (pz_dc dL_law_5 29 rfl) rfl (Nat.le_of_ble_eq_true rfl) (Nat.le_of_ble_eq_true rfl) rfl (by omega) (by omega) (by omega) hm ?_
  refine M_combs J.2.1.1 J.2.2.1 (by decide) (fun h2 M2 => ?_)
  show py_V l mL_law Ex Q d (bc - 3) (bs - 6907) 548 (LV b x i) [.int _, .int _] h2
  exact py_icmp_eq (pc' := 551) (tgt := 1678) rfl (pz_dc dL_law_5 30 rfl) (by decide) (fun _ => kk h2 _ (J.b M2 (I.2.2.1.act 99 (xs (i + 1)) 0))) (fun z => absurd rfl z)
theorem LC_10 (hE : ∀ {p e R s m args below meth c G B Z}, Ex p e R s m args below meth c G B Z → py_S b L xs s B) (I : LI h x S) (hi : i + 5 ≤ L) (hL : L ≤ 2560) (hd : 203 ≤ d) (hbc : 3 ≤ bc) (hbs : 6907 ≤ bs) (kk : ∀ h' S', LI h' x S' → py_V l mL_law Ex Q d (bc - 3) (bs - 6907) 1678 (LV b x i) [] h') : py_V l mL_law Ex Q d bc bs 553 (LV b x i) [] h := by
  obtain ⟨fs, hx⟩ := I.1.obj
  refine py_aload_n (pc' := 554) (x := x) 3 rfl (pz_dc dL_law_5 33 rfl) rfl ?_
  refine py_arg (pc := 554) (pc' := 560) (k := 1) 4 0 rfl rfl hE hi hL (by decide) (by decide) (pz_dc dL_law_5 34 rfl) (pz_dc dL_law_5 35 rfl) (pz_dc dL_law_5 36 rfl) (pz_dc dL_law_5 37 rfl) (pz_dc dL_law_5 38 rfl) rfl ?_
  refine py_arg (pc := 560) (pc' := 566) (k := 2) 4 0 rfl rfl hE hi hL (by decide) (by decide) (pz_dc dL_law_5 39 rfl) (pz_dc dL_law_6 0 rfl) (pz_dc dL_law_6 1 rfl) (pz_dc dL_law_6 2 rfl) (pz_dc dL_law_6 3 rfl) rfl ?_
  refine py_callV (M := mL_law) (N := mX9_taps) (d' := 202) (bc1 := 3) (bs1 := 6907) (bc2 := bc - 3) (bs2 := bs - 6907) (pc' := 569) (st := []) [.int (xs (i + 1)), .int (xs (i + 2))] vL_72 rfl (pz_dc dL_law_6 4 rfl) rfl (Nat.le_of_ble_eq_true rfl) (Nat.le_of_ble_eq_true rfl) rfl (by omega) (by omega) (by omega) hx ?_
  refine C_taps I.1 I.2.2.1 (by decide) (fun h1 I1 F1 => ?_)
  obtain ⟨h0, J⟩ := I.a I1 F1
  obtain ⟨fs2, hm⟩ := J.2.1.1.obj
  show py_V l mL_law Ex Q d (bc - 3) (bs - 6907) 569 (LV b x i) [.int _] h1
  refine py_aload_n (pc' := 570) (x := x + 132) 2 rfl (pz_dc dL_law_6 5 rfl) rfl ?_
  refine py_arg (pc := 570) (pc' := 576) (k := 1) 4 0 rfl rfl hE hi hL (by decide) (by decide) (pz_dc dL_law_6 6 rfl) (pz_dc dL_law_6 7 rfl) (pz_dc dL_law_6 8 rfl) (pz_dc dL_law_6 9 rfl) (pz_dc dL_law_6 10 rfl) rfl ?_
  refine py_arg (pc := 576) (pc' := 582) (k := 2) 4 0 rfl rfl hE hi hL (by decide) (by decide) (pz_dc dL_law_6 11 rfl) (pz_dc dL_law_6 12 rfl) (pz_dc dL_law_6 13 rfl) (pz_dc dL_law_6 14 rfl) (pz_dc dL_law_6 15 rfl) rfl ?_
  refine py_callV (M := mL_law) (N := mX10_taps) (d' := 202) (bc1 := 0) (bs1 := 0) (bc2 := bc - 3) (bs2 := bs - 6907) (pc' := 585) (st := [.int _]) [.int (xs (i + 1)), .int (xs (i + 2))] vL_75 rfl (pz_dc dL_law_6 16 rfl) rfl (Nat.le_of_ble_eq_true rfl) (Nat.le_of_ble_eq_true rfl) rfl (by omega) (by omega) (by omega) hm ?_
  refine M_taps J.2.1.1 J.2.2.1 (by decide) (fun h2 M2 => ?_)
  show py_V l mL_law Ex Q d (bc - 3) (bs - 6907) 585 (LV b x i) [.int _, .int _] h2
  exact py_icmp_eq (pc' := 588) (tgt := 1678) rfl (pz_dc dL_law_6 17 rfl) (by decide) (fun _ => kk h2 _ (J.b M2 (I.2.2.1.act 116 (xs (i + 1)) (xs (i + 2))))) (fun z => absurd rfl z)
theorem LC_11 (hE : ∀ {p e R s m args below meth c G B Z}, Ex p e R s m args below meth c G B Z → py_S b L xs s B) (I : LI h x S) (hi : i + 5 ≤ L) (hL : L ≤ 2560) (hd : 203 ≤ d) (hbc : 3 ≤ bc) (hbs : 6907 ≤ bs) (kk : ∀ h' S', LI h' x S' → py_V l mL_law Ex Q d (bc - 3) (bs - 6907) 1678 (LV b x i) [] h') : py_V l mL_law Ex Q d bc bs 590 (LV b x i) [] h := by
  obtain ⟨fs, hx⟩ := I.1.obj
  refine py_aload_n (pc' := 591) (x := x) 3 rfl (pz_dc dL_law_6 20 rfl) rfl ?_
  refine py_arg (pc := 591) (pc' := 597) (k := 1) 4 0 rfl rfl hE hi hL (by decide) (by decide) (pz_dc dL_law_6 21 rfl) (pz_dc dL_law_6 22 rfl) (pz_dc dL_law_6 23 rfl) (pz_dc dL_law_6 24 rfl) (pz_dc dL_law_6 25 rfl) rfl ?_
  refine py_arg (pc := 597) (pc' := 603) (k := 2) 4 0 rfl rfl hE hi hL (by decide) (by decide) (pz_dc dL_law_6 26 rfl) (pz_dc dL_law_6 27 rfl) (pz_dc dL_law_6 28 rfl) (pz_dc dL_law_6 29 rfl) (pz_dc dL_law_6 30 rfl) rfl ?_
  refine py_callV (M := mL_law) (N := mX9_gives) (d' := 202) (bc1 := 3) (bs1 := 6907) (bc2 := bc - 3) (bs2 := bs - 6907) (pc' := 606) (st := []) [.int (xs (i + 1)), .int (xs (i + 2))] vL_76 rfl (pz_dc dL_law_6 31 rfl) rfl (Nat.le_of_ble_eq_true rfl) (Nat.le_of_ble_eq_true rfl) rfl (by omega) (by omega) (by omega) hx ?_
  refine C_gives I.1 I.2.2.1 (by decide) (fun h1 I1 F1 => ?_)
  obtain ⟨h0, J⟩ := I.a I1 F1
  obtain ⟨fs2, hm⟩ := J.2.1.1.obj
  show py_V l mL_law Ex Q d (bc - 3) (bs - 6907) 606 (LV b x i) [.int _] h1
  refine py_aload_n (pc' := 607) (x := x + 132) 2 rfl (pz_dc dL_law_6 32 rfl) rfl ?_
  refine py_arg (pc := 607) (pc' := 613) (k := 1) 4 0 rfl rfl hE hi hL (by decide) (by decide) (pz_dc dL_law_6 33 rfl) (pz_dc dL_law_6 34 rfl) (pz_dc dL_law_6 35 rfl) (pz_dc dL_law_6 36 rfl) (pz_dc dL_law_6 37 rfl) rfl ?_
  refine py_arg (pc := 613) (pc' := 619) (k := 2) 4 0 rfl rfl hE hi hL (by decide) (by decide) (pz_dc dL_law_6 38 rfl) (pz_dc dL_law_6 39 rfl) (pz_dc dL_law_7 0 rfl) (pz_dc dL_law_7 1 rfl) (pz_dc dL_law_7 2 rfl) rfl ?_
  refine py_callV (M := mL_law) (N := mX10_gives) (d' := 202) (bc1 := 0) (bs1 := 0) (bc2 := bc - 3) (bs2 := bs - 6907) (pc' := 622) (st := [.int _]) [.int (xs (i + 1)), .int (xs (i + 2))] vL_79 rfl (pz_dc dL_law_7 3 rfl) rfl (Nat.le_of_ble_eq_true rfl) (Nat.le_of_ble_eq_true rfl) rfl (by omega) (by omega) (by omega) hm ?_
  refine M_gives J.2.1.1 J.2.2.1 (by decide) (fun h2 M2 => ?_)
  show py_V l mL_law Ex Q d (bc - 3) (bs - 6907) 622 (LV b x i) [.int _, .int _] h2
  exact py_icmp_eq (pc' := 625) (tgt := 1678) rfl (pz_dc dL_law_7 4 rfl) (by decide) (fun _ => kk h2 _ (J.b M2 (I.2.2.1.act 103 (xs (i + 1)) (xs (i + 2))))) (fun z => absurd rfl z)
theorem LC_12 (hE : ∀ {p e R s m args below meth c G B Z}, Ex p e R s m args below meth c G B Z → py_S b L xs s B) (I : LI h x S) (hi : i + 5 ≤ L) (hL : L ≤ 2560) (hd : 203 ≤ d) (hbc : 3 ≤ bc) (hbs : 6907 ≤ bs) (kk : ∀ h' S', LI h' x S' → py_V l mL_law Ex Q d (bc - 3) (bs - 6907) 1678 (LV b x i) [] h') : py_V l mL_law Ex Q d bc bs 627 (LV b x i) [] h := by
  obtain ⟨fs, hx⟩ := I.1.obj
  refine py_aload_n (pc' := 628) (x := x) 3 rfl (pz_dc dL_law_7 7 rfl) rfl ?_
  refine py_callV (M := mL_law) (N := mX9_year) (d' := 202) (bc1 := 3) (bs1 := 6907) (bc2 := bc - 3) (bs2 := bs - 6907) (pc' := 631) (st := []) [] vL_80 rfl (pz_dc dL_law_7 8 rfl) rfl (Nat.le_of_ble_eq_true rfl) (Nat.le_of_ble_eq_true rfl) rfl (by omega) (by omega) (by omega) hx ?_
  refine C_year I.1 I.2.2.1 (by decide) (fun h1 I1 F1 => ?_)
  obtain ⟨h0, J⟩ := I.a I1 F1
  obtain ⟨fs2, hm⟩ := J.2.1.1.obj
  show py_V l mL_law Ex Q d (bc - 3) (bs - 6907) 631 (LV b x i) [.int _] h1
  refine py_aload_n (pc' := 632) (x := x + 132) 2 rfl (pz_dc dL_law_7 9 rfl) rfl ?_
  refine py_callV (M := mL_law) (N := mX10_year) (d' := 202) (bc1 := 0) (bs1 := 0) (bc2 := bc - 3) (bs2 := bs - 6907) (pc' := 635) (st := [.int _]) [] vL_83 rfl (pz_dc dL_law_7 10 rfl) rfl (Nat.le_of_ble_eq_true rfl) (Nat.le_of_ble_eq_true rfl) rfl (by omega) (by omega) (by omega) hm ?_
  refine M_year J.2.1.1 J.2.2.1 (by decide) (fun h2 M2 => ?_)
  show py_V l mL_law Ex Q d (bc - 3) (bs - 6907) 635 (LV b x i) [.int _, .int _] h2
  exact py_icmp_eq (pc' := 638) (tgt := 1678) rfl (pz_dc dL_law_7 11 rfl) (by decide) (fun _ => kk h2 _ (J.b M2 I.2.2.1.year)) (fun z => absurd rfl z)
theorem LC_13 (hE : ∀ {p e R s m args below meth c G B Z}, Ex p e R s m args below meth c G B Z → py_S b L xs s B) (I : LI h x S) (hi : i + 5 ≤ L) (hL : L ≤ 2560) (hd : 203 ≤ d) (hbc : 3 ≤ bc) (hbs : 6907 ≤ bs) (kk : ∀ h' S', LI h' x S' → py_V l mL_law Ex Q d (bc - 3) (bs - 6907) 1678 (LV b x i) [] h') : py_V l mL_law Ex Q d bc bs 640 (LV b x i) [] h := by
  obtain ⟨fs, hx⟩ := I.1.obj
  refine py_aload_n (pc' := 641) (x := x) 3 rfl (pz_dc dL_law_7 14 rfl) rfl ?_
  refine py_callV (M := mL_law) (N := mX9_undo) (d' := 202) (bc1 := 3) (bs1 := 6907) (bc2 := bc - 3) (bs2 := bs - 6907) (pc' := 644) (st := []) [] vL_84 rfl (pz_dc dL_law_7 15 rfl) rfl (Nat.le_of_ble_eq_true rfl) (Nat.le_of_ble_eq_true rfl) rfl (by omega) (by omega) (by omega) hx ?_
  refine C_undo I.1 I.2.2.1 (by decide) (fun h1 I1 F1 => ?_)
  obtain ⟨h0, J⟩ := I.a I1 F1
  obtain ⟨fs2, hm⟩ := J.2.1.1.obj
  show py_V l mL_law Ex Q d (bc - 3) (bs - 6907) 644 (LV b x i) [.int _] h1
  refine py_aload_n (pc' := 645) (x := x + 132) 2 rfl (pz_dc dL_law_7 16 rfl) rfl ?_
  refine py_callV (M := mL_law) (N := mX10_undo) (d' := 202) (bc1 := 0) (bs1 := 0) (bc2 := bc - 3) (bs2 := bs - 6907) (pc' := 648) (st := [.int _]) [] vL_87 rfl (pz_dc dL_law_7 17 rfl) rfl (Nat.le_of_ble_eq_true rfl) (Nat.le_of_ble_eq_true rfl) rfl (by omega) (by omega) (by omega) hm ?_
  refine M_undo J.2.1.1 J.2.2.1 (fun h2 M2 => ?_)
  show py_V l mL_law Ex Q d (bc - 3) (bs - 6907) 648 (LV b x i) [.int _, .int _] h2
  exact py_icmp_eq (pc' := 651) (tgt := 1678) rfl (pz_dc dL_law_7 18 rfl) (by decide) (fun _ => kk h2 _ (J.b M2 I.2.2.1.undo)) (fun z => absurd rfl z)
theorem LC_14 (hE : ∀ {p e R s m args below meth c G B Z}, Ex p e R s m args below meth c G B Z → py_S b L xs s B) (I : LI h x S) (hi : i + 5 ≤ L) (hL : L ≤ 2560) (hd : 203 ≤ d) (hbc : 3 ≤ bc) (hbs : 6907 ≤ bs) (kk : ∀ h' S', LI h' x S' → py_V l mL_law Ex Q d (bc - 3) (bs - 6907) 1678 (LV b x i) [] h') : py_V l mL_law Ex Q d bc bs 653 (LV b x i) [] h := by
  obtain ⟨fs, hx⟩ := I.1.obj
  refine py_aload_n (pc' := 654) (x := x) 3 rfl (pz_dc dL_law_7 21 rfl) rfl ?_
  refine py_arg (pc := 654) (pc' := 660) (k := 1) 4 0 rfl rfl hE hi hL (by decide) (by decide) (pz_dc dL_law_7 22 rfl) (pz_dc dL_law_7 23 rfl) (pz_dc dL_law_7 24 rfl) (pz_dc dL_law_7 25 rfl) (pz_dc dL_law_7 26 rfl) rfl ?_
  refine py_arg (pc := 660) (pc' := 666) (k := 2) 4 0 rfl rfl hE hi hL (by decide) (by decide) (pz_dc dL_law_7 27 rfl) (pz_dc dL_law_7 28 rfl) (pz_dc dL_law_7 29 rfl) (pz_dc dL_law_7 30 rfl) (pz_dc dL_law_7 31 rfl) rfl ?_
  refine py_callV (M := mL_law) (N := mX9_later) (d' := 202) (bc1 := 3) (bs1 := 6907) (bc2 := bc - 3) (bs2 := bs - 6907) (pc' := 669) (st := []) [.int (xs (i + 1)), .int (xs (i + 2))] vL_88 rfl (pz_dc dL_law_7 32 rfl) rfl (Nat.le_of_ble_eq_true rfl) (Nat.le_of_ble_eq_true rfl) rfl (by omega) (by omega) (by omega) hx ?_
  refine C_later I.1 I.2.2.1 (by decide) (fun h1 I1 F1 => ?_)
  obtain ⟨h0, J⟩ := I.a I1 F1
  obtain ⟨fs2, hm⟩ := J.2.1.1.obj
  show py_V l mL_law Ex Q d (bc - 3) (bs - 6907) 669 (LV b x i) [.int _] h1
  refine py_aload_n (pc' := 670) (x := x + 132) 2 rfl (pz_dc dL_law_7 33 rfl) rfl ?_
  refine py_arg (pc := 670) (pc' := 676) (k := 1) 4 0 rfl rfl hE hi hL (by decide) (by decide) (pz_dc dL_law_7 34 rfl) (pz_dc dL_law_7 35 rfl) (pz_dc dL_law_7 36 rfl) (pz_dc dL_law_7 37 rfl) (pz_dc dL_law_7 38 rfl) rfl ?_
  refine py_arg (pc := 676) (pc' := 682) (k := 2) 4 0 rfl rfl hE hi hL (by decide) (by decide) (pz_dc dL_law_7 39 rfl) (pz_dc dL_law_8 0 rfl) (pz_dc dL_law_8 1 rfl) (pz_dc dL_law_8 2 rfl) (pz_dc dL_law_8 3 rfl) rfl ?_
  refine py_callV (M := mL_law) (N := mX10_later) (d' := 202) (bc1 := 0) (bs1 := 0) (bc2 := bc - 3) (bs2 := bs - 6907) (pc' := 685) (st := [.int _]) [.int (xs (i + 1)), .int (xs (i + 2))] vL_91 rfl (pz_dc dL_law_8 4 rfl) rfl (Nat.le_of_ble_eq_true rfl) (Nat.le_of_ble_eq_true rfl) rfl (by omega) (by omega) (by omega) hm ?_
  obtain ⟨lm, zz, W1⟩ := J.2.1.1.w
  refine M_later W1 J.2.2.1 (by decide) (fun h2 T2 lm2 zz2 W2 => ?_)
  have M2 := W2.inv
  show py_V l mL_law Ex Q d (bc - 3) (bs - 6907) 685 (LV b x i) [.int _, .int _] h2
  exact py_icmp_eq (pc' := 688) (tgt := 1678) rfl (pz_dc dL_law_8 5 rfl) (by decide) (fun _ => kk h2 _ (J.b M2 (I.2.2.1.q_later (xs (i + 1)) (xs (i + 2))))) (fun z => absurd rfl z)
theorem LC_15 (hE : ∀ {p e R s m args below meth c G B Z}, Ex p e R s m args below meth c G B Z → py_S b L xs s B) (I : LI h x S) (hi : i + 5 ≤ L) (hL : L ≤ 2560) (hd : 203 ≤ d) (hbc : 3 ≤ bc) (hbs : 6907 ≤ bs) (kk : ∀ h' S', LI h' x S' → py_V l mL_law Ex Q d (bc - 3) (bs - 6907) 1678 (LV b x i) [] h') : py_V l mL_law Ex Q d bc bs 690 (LV b x i) [] h := by
  obtain ⟨fs, hx⟩ := I.1.obj
  refine py_aload_n (pc' := 691) (x := x) 3 rfl (pz_dc dL_law_8 8 rfl) rfl ?_
  refine py_arg (pc := 691) (pc' := 697) (k := 1) 4 0 rfl rfl hE hi hL (by decide) (by decide) (pz_dc dL_law_8 9 rfl) (pz_dc dL_law_8 10 rfl) (pz_dc dL_law_8 11 rfl) (pz_dc dL_law_8 12 rfl) (pz_dc dL_law_8 13 rfl) rfl ?_
  refine py_callV (M := mL_law) (N := mX9_dries) (d' := 202) (bc1 := 3) (bs1 := 6907) (bc2 := bc - 3) (bs2 := bs - 6907) (pc' := 700) (st := []) [.int (xs (i + 1))] vL_92 rfl (pz_dc dL_law_8 14 rfl) rfl (Nat.le_of_ble_eq_true rfl) (Nat.le_of_ble_eq_true rfl) rfl (by omega) (by omega) (by omega) hx ?_
  refine C_dries I.1 I.2.2.1 (by decide) (fun h1 I1 F1 => ?_)
  obtain ⟨h0, J⟩ := I.a I1 F1
  obtain ⟨fs2, hm⟩ := J.2.1.1.obj
  show py_V l mL_law Ex Q d (bc - 3) (bs - 6907) 700 (LV b x i) [.int _] h1
  refine py_aload_n (pc' := 701) (x := x + 132) 2 rfl (pz_dc dL_law_8 15 rfl) rfl ?_
  refine py_arg (pc := 701) (pc' := 707) (k := 1) 4 0 rfl rfl hE hi hL (by decide) (by decide) (pz_dc dL_law_8 16 rfl) (pz_dc dL_law_8 17 rfl) (pz_dc dL_law_8 18 rfl) (pz_dc dL_law_8 19 rfl) (pz_dc dL_law_8 20 rfl) rfl ?_
  refine py_callV (M := mL_law) (N := mX10_dries) (d' := 202) (bc1 := 0) (bs1 := 0) (bc2 := bc - 3) (bs2 := bs - 6907) (pc' := 710) (st := [.int _]) [.int (xs (i + 1))] vL_95 rfl (pz_dc dL_law_8 21 rfl) rfl (Nat.le_of_ble_eq_true rfl) (Nat.le_of_ble_eq_true rfl) rfl (by omega) (by omega) (by omega) hm ?_
  obtain ⟨lm, zz, W1⟩ := J.2.1.1.w
  refine M_dries W1 J.2.2.1 (by decide) (fun h2 T2 lm2 zz2 W2 => ?_)
  have M2 := W2.inv
  show py_V l mL_law Ex Q d (bc - 3) (bs - 6907) 710 (LV b x i) [.int _, .int _] h2
  exact py_icmp_eq (pc' := 713) (tgt := 1678) rfl (pz_dc dL_law_8 22 rfl) (by decide) (fun _ => kk h2 _ (J.b M2 (I.2.2.1.q_dries (xs (i + 1))))) (fun z => absurd rfl z)
theorem LC_16 (hE : ∀ {p e R s m args below meth c G B Z}, Ex p e R s m args below meth c G B Z → py_S b L xs s B) (I : LI h x S) (hi : i + 5 ≤ L) (hL : L ≤ 2560) (hd : 203 ≤ d) (hbc : 3 ≤ bc) (hbs : 6907 ≤ bs) (kk : ∀ h' S', LI h' x S' → py_V l mL_law Ex Q d (bc - 3) (bs - 6907) 1678 (LV b x i) [] h') : py_V l mL_law Ex Q d bc bs 715 (LV b x i) [] h := by
  obtain ⟨fs, hx⟩ := I.1.obj
  refine py_aload_n (pc' := 716) (x := x) 3 rfl (pz_dc dL_law_8 25 rfl) rfl ?_
  refine py_arg (pc := 716) (pc' := 722) (k := 1) 4 0 rfl rfl hE hi hL (by decide) (by decide) (pz_dc dL_law_8 26 rfl) (pz_dc dL_law_8 27 rfl) (pz_dc dL_law_8 28 rfl) (pz_dc dL_law_8 29 rfl) (pz_dc dL_law_8 30 rfl) rfl ?_
  refine py_callV (M := mL_law) (N := mX9_brims) (d' := 202) (bc1 := 3) (bs1 := 6907) (bc2 := bc - 3) (bs2 := bs - 6907) (pc' := 725) (st := []) [.int (xs (i + 1))] vL_96 rfl (pz_dc dL_law_8 31 rfl) rfl (Nat.le_of_ble_eq_true rfl) (Nat.le_of_ble_eq_true rfl) rfl (by omega) (by omega) (by omega) hx ?_
  refine C_brims I.1 I.2.2.1 (by decide) (fun h1 I1 F1 => ?_)
  obtain ⟨h0, J⟩ := I.a I1 F1
  obtain ⟨fs2, hm⟩ := J.2.1.1.obj
  show py_V l mL_law Ex Q d (bc - 3) (bs - 6907) 725 (LV b x i) [.int _] h1
  refine py_aload_n (pc' := 726) (x := x + 132) 2 rfl (pz_dc dL_law_8 32 rfl) rfl ?_
  refine py_arg (pc := 726) (pc' := 732) (k := 1) 4 0 rfl rfl hE hi hL (by decide) (by decide) (pz_dc dL_law_8 33 rfl) (pz_dc dL_law_8 34 rfl) (pz_dc dL_law_8 35 rfl) (pz_dc dL_law_8 36 rfl) (pz_dc dL_law_8 37 rfl) rfl ?_
  refine py_callV (M := mL_law) (N := mX10_brims) (d' := 202) (bc1 := 0) (bs1 := 0) (bc2 := bc - 3) (bs2 := bs - 6907) (pc' := 735) (st := [.int _]) [.int (xs (i + 1))] vL_99 rfl (pz_dc dL_law_8 38 rfl) rfl (Nat.le_of_ble_eq_true rfl) (Nat.le_of_ble_eq_true rfl) rfl (by omega) (by omega) (by omega) hm ?_
  obtain ⟨lm, zz, W1⟩ := J.2.1.1.w
  refine M_brims W1 J.2.2.1 (by decide) (fun h2 T2 lm2 zz2 W2 => ?_)
  have M2 := W2.inv
  show py_V l mL_law Ex Q d (bc - 3) (bs - 6907) 735 (LV b x i) [.int _, .int _] h2
  exact py_icmp_eq (pc' := 738) (tgt := 1678) rfl (pz_dc dL_law_8 39 rfl) (by decide) (fun _ => kk h2 _ (J.b M2 (I.2.2.1.q_brims (xs (i + 1))))) (fun z => absurd rfl z)
theorem LC_17 (hE : ∀ {p e R s m args below meth c G B Z}, Ex p e R s m args below meth c G B Z → py_S b L xs s B) (I : LI h x S) (hi : i + 5 ≤ L) (hL : L ≤ 2560) (hd : 203 ≤ d) (hbc : 3 ≤ bc) (hbs : 6907 ≤ bs) (kk : ∀ h' S', LI h' x S' → py_V l mL_law Ex Q d (bc - 3) (bs - 6907) 1678 (LV b x i) [] h') : py_V l mL_law Ex Q d bc bs 740 (LV b x i) [] h := by
  obtain ⟨fs, hx⟩ := I.1.obj
  refine py_aload_n (pc' := 741) (x := x) 3 rfl (pz_dc dL_law_9 2 rfl) rfl ?_
  refine py_arg (pc := 741) (pc' := 747) (k := 1) 4 0 rfl rfl hE hi hL (by decide) (by decide) (pz_dc dL_law_9 3 rfl) (pz_dc dL_law_9 4 rfl) (pz_dc dL_law_9 5 rfl) (pz_dc dL_law_9 6 rfl) (pz_dc dL_law_9 7 rfl) rfl ?_
  refine py_arg (pc := 747) (pc' := 753) (k := 2) 4 0 rfl rfl hE hi hL (by decide) (by decide) (pz_dc dL_law_9 8 rfl) (pz_dc dL_law_9 9 rfl) (pz_dc dL_law_9 10 rfl) (pz_dc dL_law_9 11 rfl) (pz_dc dL_law_9 12 rfl) rfl ?_
  refine py_callV (M := mL_law) (N := mX9_marks) (d' := 202) (bc1 := 3) (bs1 := 6907) (bc2 := bc - 3) (bs2 := bs - 6907) (pc' := 756) (st := []) [.int (xs (i + 1)), .int (xs (i + 2))] vL_100 rfl (pz_dc dL_law_9 13 rfl) rfl (Nat.le_of_ble_eq_true rfl) (Nat.le_of_ble_eq_true rfl) rfl (by omega) (by omega) (by omega) hx ?_
  refine C_marks I.1 I.2.2.1 (by decide) (fun h1 I1 F1 => ?_)
  obtain ⟨h0, J⟩ := I.a I1 F1
  obtain ⟨fs2, hm⟩ := J.2.1.1.obj
  show py_V l mL_law Ex Q d (bc - 3) (bs - 6907) 756 (LV b x i) [.int _] h1
  refine py_aload_n (pc' := 757) (x := x + 132) 2 rfl (pz_dc dL_law_9 14 rfl) rfl ?_
  refine py_arg (pc := 757) (pc' := 763) (k := 1) 4 0 rfl rfl hE hi hL (by decide) (by decide) (pz_dc dL_law_9 15 rfl) (pz_dc dL_law_9 16 rfl) (pz_dc dL_law_9 17 rfl) (pz_dc dL_law_9 18 rfl) (pz_dc dL_law_9 19 rfl) rfl ?_
  refine py_arg (pc := 763) (pc' := 769) (k := 2) 4 0 rfl rfl hE hi hL (by decide) (by decide) (pz_dc dL_law_9 20 rfl) (pz_dc dL_law_9 21 rfl) (pz_dc dL_law_9 22 rfl) (pz_dc dL_law_9 23 rfl) (pz_dc dL_law_9 24 rfl) rfl ?_
  refine py_callV (M := mL_law) (N := mX10_marks) (d' := 202) (bc1 := 0) (bs1 := 0) (bc2 := bc - 3) (bs2 := bs - 6907) (pc' := 772) (st := [.int _]) [.int (xs (i + 1)), .int (xs (i + 2))] vL_103 rfl (pz_dc dL_law_9 25 rfl) rfl (Nat.le_of_ble_eq_true rfl) (Nat.le_of_ble_eq_true rfl) rfl (by omega) (by omega) (by omega) hm ?_
  obtain ⟨lm, zz, W1⟩ := J.2.1.1.w
  refine M_marks W1 J.2.2.1 (by decide) (fun h2 T2 lm2 zz2 W2 => ?_)
  have M2 := W2.inv
  show py_V l mL_law Ex Q d (bc - 3) (bs - 6907) 772 (LV b x i) [.int _, .int _] h2
  exact py_icmp_eq (pc' := 775) (tgt := 1678) rfl (pz_dc dL_law_9 26 rfl) (by decide) (fun _ => kk h2 _ (J.b M2 (I.2.2.1.q_marks (xs (i + 1)) (xs (i + 2))))) (fun z => absurd rfl z)
theorem LC_18 (hE : ∀ {p e R s m args below meth c G B Z}, Ex p e R s m args below meth c G B Z → py_S b L xs s B) (I : LI h x S) (hi : i + 5 ≤ L) (hL : L ≤ 2560) (hd : 203 ≤ d) (hbc : 3 ≤ bc) (hbs : 6907 ≤ bs) (kk : ∀ h' S', LI h' x S' → py_V l mL_law Ex Q d (bc - 3) (bs - 6907) 1678 (LV b x i) [] h') : py_V l mL_law Ex Q d bc bs 777 (LV b x i) [] h := by
  obtain ⟨fs, hx⟩ := I.1.obj
  refine py_aload_n (pc' := 778) (x := x) 3 rfl (pz_dc dL_law_9 29 rfl) rfl ?_
  refine py_arg (pc := 778) (pc' := 784) (k := 1) 4 0 rfl rfl hE hi hL (by decide) (by decide) (pz_dc dL_law_9 30 rfl) (pz_dc dL_law_9 31 rfl) (pz_dc dL_law_9 32 rfl) (pz_dc dL_law_9 33 rfl) (pz_dc dL_law_9 34 rfl) rfl ?_
  refine py_callV (M := mL_law) (N := mX9_realm) (d' := 202) (bc1 := 3) (bs1 := 6907) (bc2 := bc - 3) (bs2 := bs - 6907) (pc' := 787) (st := []) [.int (xs (i + 1))] vL_104 rfl (pz_dc dL_law_9 35 rfl) rfl (Nat.le_of_ble_eq_true rfl) (Nat.le_of_ble_eq_true rfl) rfl (by omega) (by omega) (by omega) hx ?_
  refine C_realm I.1 I.2.2.1 (by decide) (fun h1 I1 F1 => ?_)
  obtain ⟨h0, J⟩ := I.a I1 F1
  obtain ⟨fs2, hm⟩ := J.2.1.1.obj
  show py_V l mL_law Ex Q d (bc - 3) (bs - 6907) 787 (LV b x i) [.int _] h1
  refine py_aload_n (pc' := 788) (x := x + 132) 2 rfl (pz_dc dL_law_9 36 rfl) rfl ?_
  refine py_arg (pc := 788) (pc' := 794) (k := 1) 4 0 rfl rfl hE hi hL (by decide) (by decide) (pz_dc dL_law_9 37 rfl) (pz_dc dL_law_9 38 rfl) (pz_dc dL_law_9 39 rfl) (pz_dc dL_law_10 0 rfl) (pz_dc dL_law_10 1 rfl) rfl ?_
  refine py_callV (M := mL_law) (N := mX10_realm) (d' := 202) (bc1 := 0) (bs1 := 0) (bc2 := bc - 3) (bs2 := bs - 6907) (pc' := 797) (st := [.int _]) [.int (xs (i + 1))] vL_107 rfl (pz_dc dL_law_10 2 rfl) rfl (Nat.le_of_ble_eq_true rfl) (Nat.le_of_ble_eq_true rfl) rfl (by omega) (by omega) (by omega) hm ?_
  obtain ⟨lm, zz, W1⟩ := J.2.1.1.w
  refine M_realm W1 J.2.2.1 (by decide) (fun h2 T2 lm2 zz2 W2 => ?_)
  have M2 := W2.inv
  show py_V l mL_law Ex Q d (bc - 3) (bs - 6907) 797 (LV b x i) [.int _, .int _] h2
  exact py_icmp_eq (pc' := 800) (tgt := 1678) rfl (pz_dc dL_law_10 3 rfl) (by decide) (fun _ => kk h2 _ (J.b M2 (I.2.2.1.q_realm (xs (i + 1))))) (fun z => absurd rfl z)
theorem LC_19 (hE : ∀ {p e R s m args below meth c G B Z}, Ex p e R s m args below meth c G B Z → py_S b L xs s B) (I : LI h x S) (hi : i + 5 ≤ L) (hL : L ≤ 2560) (hd : 203 ≤ d) (hbc : 3 ≤ bc) (hbs : 6907 ≤ bs) (kk : ∀ h' S', LI h' x S' → py_V l mL_law Ex Q d (bc - 3) (bs - 6907) 1678 (LV b x i) [] h') : py_V l mL_law Ex Q d bc bs 802 (LV b x i) [] h := by
  obtain ⟨fs, hx⟩ := I.1.obj
  refine py_aload_n (pc' := 803) (x := x) 3 rfl (pz_dc dL_law_10 6 rfl) rfl ?_
  refine py_arg (pc := 803) (pc' := 809) (k := 1) 4 0 rfl rfl hE hi hL (by decide) (by decide) (pz_dc dL_law_10 7 rfl) (pz_dc dL_law_10 8 rfl) (pz_dc dL_law_10 9 rfl) (pz_dc dL_law_10 10 rfl) (pz_dc dL_law_10 11 rfl) rfl ?_
  refine py_callV (M := mL_law) (N := mX9_course) (d' := 202) (bc1 := 3) (bs1 := 6907) (bc2 := bc - 3) (bs2 := bs - 6907) (pc' := 812) (st := []) [.int (xs (i + 1))] vL_108 rfl (pz_dc dL_law_10 12 rfl) rfl (Nat.le_of_ble_eq_true rfl) (Nat.le_of_ble_eq_true rfl) rfl (by omega) (by omega) (by omega) hx ?_
  refine C_course I.1 I.2.2.1 (by decide) (fun h1 I1 F1 => ?_)
  obtain ⟨h0, J⟩ := I.a I1 F1
  obtain ⟨fs2, hm⟩ := J.2.1.1.obj
  show py_V l mL_law Ex Q d (bc - 3) (bs - 6907) 812 (LV b x i) [.int _] h1
  refine py_aload_n (pc' := 813) (x := x + 132) 2 rfl (pz_dc dL_law_10 13 rfl) rfl ?_
  refine py_arg (pc := 813) (pc' := 819) (k := 1) 4 0 rfl rfl hE hi hL (by decide) (by decide) (pz_dc dL_law_10 14 rfl) (pz_dc dL_law_10 15 rfl) (pz_dc dL_law_10 16 rfl) (pz_dc dL_law_10 17 rfl) (pz_dc dL_law_10 18 rfl) rfl ?_
  refine py_callV (M := mL_law) (N := mX10_course) (d' := 202) (bc1 := 0) (bs1 := 0) (bc2 := bc - 3) (bs2 := bs - 6907) (pc' := 822) (st := [.int _]) [.int (xs (i + 1))] vL_111 rfl (pz_dc dL_law_10 19 rfl) rfl (Nat.le_of_ble_eq_true rfl) (Nat.le_of_ble_eq_true rfl) rfl (by omega) (by omega) (by omega) hm ?_
  obtain ⟨lm, zz, W1⟩ := J.2.1.1.w
  refine M_course W1 J.2.2.1 (by decide) (fun h2 T2 lm2 zz2 W2 => ?_)
  have M2 := W2.inv
  show py_V l mL_law Ex Q d (bc - 3) (bs - 6907) 822 (LV b x i) [.int _, .int _] h2
  exact py_icmp_eq (pc' := 825) (tgt := 1678) rfl (pz_dc dL_law_10 20 rfl) (by decide) (fun _ => kk h2 _ (J.b M2 (I.2.2.1.q_course (xs (i + 1))))) (fun z => absurd rfl z)
theorem LC_20 (hE : ∀ {p e R s m args below meth c G B Z}, Ex p e R s m args below meth c G B Z → py_S b L xs s B) (I : LI h x S) (hi : i + 5 ≤ L) (hL : L ≤ 2560) (hd : 203 ≤ d) (hbc : 3 ≤ bc) (hbs : 6907 ≤ bs) (kk : ∀ h' S', LI h' x S' → py_V l mL_law Ex Q d (bc - 3) (bs - 6907) 1678 (LV b x i) [] h') : py_V l mL_law Ex Q d bc bs 827 (LV b x i) [] h := by
  obtain ⟨fs, hx⟩ := I.1.obj
  refine py_aload_n (pc' := 828) (x := x) 3 rfl (pz_dc dL_law_10 23 rfl) rfl ?_
  refine py_arg (pc := 828) (pc' := 834) (k := 1) 4 0 rfl rfl hE hi hL (by decide) (by decide) (pz_dc dL_law_10 24 rfl) (pz_dc dL_law_10 25 rfl) (pz_dc dL_law_10 26 rfl) (pz_dc dL_law_10 27 rfl) (pz_dc dL_law_10 28 rfl) rfl ?_
  refine py_callV (M := mL_law) (N := mX9_basin) (d' := 202) (bc1 := 3) (bs1 := 6907) (bc2 := bc - 3) (bs2 := bs - 6907) (pc' := 837) (st := []) [.int (xs (i + 1))] vL_112 rfl (pz_dc dL_law_10 29 rfl) rfl (Nat.le_of_ble_eq_true rfl) (Nat.le_of_ble_eq_true rfl) rfl (by omega) (by omega) (by omega) hx ?_
  refine C_basin I.1 I.2.2.1 (by decide) (fun h1 I1 F1 => ?_)
  obtain ⟨h0, J⟩ := I.a I1 F1
  obtain ⟨fs2, hm⟩ := J.2.1.1.obj
  show py_V l mL_law Ex Q d (bc - 3) (bs - 6907) 837 (LV b x i) [.int _] h1
  refine py_aload_n (pc' := 838) (x := x + 132) 2 rfl (pz_dc dL_law_10 30 rfl) rfl ?_
  refine py_arg (pc := 838) (pc' := 844) (k := 1) 4 0 rfl rfl hE hi hL (by decide) (by decide) (pz_dc dL_law_10 31 rfl) (pz_dc dL_law_10 32 rfl) (pz_dc dL_law_10 33 rfl) (pz_dc dL_law_10 34 rfl) (pz_dc dL_law_10 35 rfl) rfl ?_
  refine py_callV (M := mL_law) (N := mX10_basin) (d' := 202) (bc1 := 0) (bs1 := 0) (bc2 := bc - 3) (bs2 := bs - 6907) (pc' := 847) (st := [.int _]) [.int (xs (i + 1))] vL_115 rfl (pz_dc dL_law_10 36 rfl) rfl (Nat.le_of_ble_eq_true rfl) (Nat.le_of_ble_eq_true rfl) rfl (by omega) (by omega) (by omega) hm ?_
  obtain ⟨lm, zz, W1⟩ := J.2.1.1.w
  refine M_basin W1 J.2.2.1 (by decide) (fun h2 T2 lm2 zz2 W2 => ?_)
  have M2 := W2.inv
  show py_V l mL_law Ex Q d (bc - 3) (bs - 6907) 847 (LV b x i) [.int _, .int _] h2
  exact py_icmp_eq (pc' := 850) (tgt := 1678) rfl (pz_dc dL_law_10 37 rfl) (by decide) (fun _ => kk h2 _ (J.b M2 (I.2.2.1.q_basin (xs (i + 1))))) (fun z => absurd rfl z)
theorem LC_21 (hE : ∀ {p e R s m args below meth c G B Z}, Ex p e R s m args below meth c G B Z → py_S b L xs s B) (I : LI h x S) (hi : i + 5 ≤ L) (hL : L ≤ 2560) (hd : 203 ≤ d) (hbc : 3 ≤ bc) (hbs : 6907 ≤ bs) (kk : ∀ h' S', LI h' x S' → py_V l mL_law Ex Q d (bc - 3) (bs - 6907) 1678 (LV b x i) [] h') : py_V l mL_law Ex Q d bc bs 852 (LV b x i) [] h := by
  obtain ⟨fs, hx⟩ := I.1.obj
  refine py_aload_n (pc' := 853) (x := x) 3 rfl (pz_dc dL_law_11 0 rfl) rfl ?_
  refine py_arg (pc := 853) (pc' := 859) (k := 1) 4 0 rfl rfl hE hi hL (by decide) (by decide) (pz_dc dL_law_11 1 rfl) (pz_dc dL_law_11 2 rfl) (pz_dc dL_law_11 3 rfl) (pz_dc dL_law_11 4 rfl) (pz_dc dL_law_11 5 rfl) rfl ?_
  refine py_callV (M := mL_law) (N := mX9_order) (d' := 202) (bc1 := 3) (bs1 := 6907) (bc2 := bc - 3) (bs2 := bs - 6907) (pc' := 862) (st := []) [.int (xs (i + 1))] vL_116 rfl (pz_dc dL_law_11 6 rfl) rfl (Nat.le_of_ble_eq_true rfl) (Nat.le_of_ble_eq_true rfl) rfl (by omega) (by omega) (by omega) hx ?_
  refine C_order I.1 I.2.2.1 (by decide) (fun h1 I1 F1 => ?_)
  obtain ⟨h0, J⟩ := I.a I1 F1
  obtain ⟨fs2, hm⟩ := J.2.1.1.obj
  show py_V l mL_law Ex Q d (bc - 3) (bs - 6907) 862 (LV b x i) [.int _] h1
  refine py_aload_n (pc' := 863) (x := x + 132) 2 rfl (pz_dc dL_law_11 7 rfl) rfl ?_
  refine py_arg (pc := 863) (pc' := 869) (k := 1) 4 0 rfl rfl hE hi hL (by decide) (by decide) (pz_dc dL_law_11 8 rfl) (pz_dc dL_law_11 9 rfl) (pz_dc dL_law_11 10 rfl) (pz_dc dL_law_11 11 rfl) (pz_dc dL_law_11 12 rfl) rfl ?_
  refine py_callV (M := mL_law) (N := mX10_order) (d' := 202) (bc1 := 0) (bs1 := 0) (bc2 := bc - 3) (bs2 := bs - 6907) (pc' := 872) (st := [.int _]) [.int (xs (i + 1))] vL_119 rfl (pz_dc dL_law_11 13 rfl) rfl (Nat.le_of_ble_eq_true rfl) (Nat.le_of_ble_eq_true rfl) rfl (by omega) (by omega) (by omega) hm ?_
  obtain ⟨lm, zz, W1⟩ := J.2.1.1.w
  refine M_order W1 J.2.2.1 (by decide) (fun h2 T2 lm2 zz2 W2 => ?_)
  have M2 := W2.inv
  show py_V l mL_law Ex Q d (bc - 3) (bs - 6907) 872 (LV b x i) [.int _, .int _] h2
  exact py_icmp_eq (pc' := 875) (tgt := 1678) rfl (pz_dc dL_law_11 14 rfl) (by decide) (fun _ => kk h2 _ (J.b M2 (I.2.2.1.q_order (xs (i + 1))))) (fun z => absurd rfl z)
theorem LC_22 (hE : ∀ {p e R s m args below meth c G B Z}, Ex p e R s m args below meth c G B Z → py_S b L xs s B) (I : LI h x S) (hi : i + 5 ≤ L) (hL : L ≤ 2560) (hd : 203 ≤ d) (hbc : 3 ≤ bc) (hbs : 6907 ≤ bs) (kk : ∀ h' S', LI h' x S' → py_V l mL_law Ex Q d (bc - 3) (bs - 6907) 1678 (LV b x i) [] h') : py_V l mL_law Ex Q d bc bs 877 (LV b x i) [] h := by
  obtain ⟨fs, hx⟩ := I.1.obj
  refine py_aload_n (pc' := 878) (x := x) 3 rfl (pz_dc dL_law_11 17 rfl) rfl ?_
  refine py_arg (pc := 878) (pc' := 884) (k := 1) 4 0 rfl rfl hE hi hL (by decide) (by decide) (pz_dc dL_law_11 18 rfl) (pz_dc dL_law_11 19 rfl) (pz_dc dL_law_11 20 rfl) (pz_dc dL_law_11 21 rfl) (pz_dc dL_law_11 22 rfl) rfl ?_
  refine py_arg (pc := 884) (pc' := 890) (k := 2) 4 0 rfl rfl hE hi hL (by decide) (by decide) (pz_dc dL_law_11 23 rfl) (pz_dc dL_law_11 24 rfl) (pz_dc dL_law_11 25 rfl) (pz_dc dL_law_11 26 rfl) (pz_dc dL_law_11 27 rfl) rfl ?_
  refine py_callV (M := mL_law) (N := mX9_meets) (d' := 202) (bc1 := 3) (bs1 := 6907) (bc2 := bc - 3) (bs2 := bs - 6907) (pc' := 893) (st := []) [.int (xs (i + 1)), .int (xs (i + 2))] vL_120 rfl (pz_dc dL_law_11 28 rfl) rfl (Nat.le_of_ble_eq_true rfl) (Nat.le_of_ble_eq_true rfl) rfl (by omega) (by omega) (by omega) hx ?_
  refine C_meets I.1 I.2.2.1 (by decide) (fun h1 I1 F1 => ?_)
  obtain ⟨h0, J⟩ := I.a I1 F1
  obtain ⟨fs2, hm⟩ := J.2.1.1.obj
  show py_V l mL_law Ex Q d (bc - 3) (bs - 6907) 893 (LV b x i) [.int _] h1
  refine py_aload_n (pc' := 894) (x := x + 132) 2 rfl (pz_dc dL_law_11 29 rfl) rfl ?_
  refine py_arg (pc := 894) (pc' := 900) (k := 1) 4 0 rfl rfl hE hi hL (by decide) (by decide) (pz_dc dL_law_11 30 rfl) (pz_dc dL_law_11 31 rfl) (pz_dc dL_law_11 32 rfl) (pz_dc dL_law_11 33 rfl) (pz_dc dL_law_11 34 rfl) rfl ?_
  refine py_arg (pc := 900) (pc' := 906) (k := 2) 4 0 rfl rfl hE hi hL (by decide) (by decide) (pz_dc dL_law_11 35 rfl) (pz_dc dL_law_11 36 rfl) (pz_dc dL_law_11 37 rfl) (pz_dc dL_law_11 38 rfl) (pz_dc dL_law_11 39 rfl) rfl ?_
  refine py_callV (M := mL_law) (N := mX10_meets) (d' := 202) (bc1 := 0) (bs1 := 0) (bc2 := bc - 3) (bs2 := bs - 6907) (pc' := 909) (st := [.int _]) [.int (xs (i + 1)), .int (xs (i + 2))] vL_123 rfl (pz_dc dL_law_12 0 rfl) rfl (Nat.le_of_ble_eq_true rfl) (Nat.le_of_ble_eq_true rfl) rfl (by omega) (by omega) (by omega) hm ?_
  obtain ⟨lm, zz, W1⟩ := J.2.1.1.w
  refine M_meets W1 J.2.2.1 (by decide) (fun h2 T2 lm2 zz2 W2 => ?_)
  have M2 := W2.inv
  show py_V l mL_law Ex Q d (bc - 3) (bs - 6907) 909 (LV b x i) [.int _, .int _] h2
  exact py_icmp_eq (pc' := 912) (tgt := 1678) rfl (pz_dc dL_law_12 1 rfl) (by decide) (fun _ => kk h2 _ (J.b M2 (I.2.2.1.q_meets (xs (i + 1)) (xs (i + 2))))) (fun z => absurd rfl z)
theorem LC_23 (hE : ∀ {p e R s m args below meth c G B Z}, Ex p e R s m args below meth c G B Z → py_S b L xs s B) (I : LI h x S) (hi : i + 5 ≤ L) (hL : L ≤ 2560) (hd : 203 ≤ d) (hbc : 3 ≤ bc) (hbs : 6907 ≤ bs) (kk : ∀ h' S', LI h' x S' → py_V l mL_law Ex Q d (bc - 3) (bs - 6907) 1678 (LV b x i) [] h') : py_V l mL_law Ex Q d bc bs 914 (LV b x i) [] h := by
  obtain ⟨fs, hx⟩ := I.1.obj
  refine py_aload_n (pc' := 915) (x := x) 3 rfl (pz_dc dL_law_12 4 rfl) rfl ?_
  refine py_arg (pc := 915) (pc' := 921) (k := 1) 4 0 rfl rfl hE hi hL (by decide) (by decide) (pz_dc dL_law_12 5 rfl) (pz_dc dL_law_12 6 rfl) (pz_dc dL_law_12 7 rfl) (pz_dc dL_law_12 8 rfl) (pz_dc dL_law_12 9 rfl) rfl ?_
  refine py_callV (M := mL_law) (N := mX9_richest) (d' := 202) (bc1 := 3) (bs1 := 6907) (bc2 := bc - 3) (bs2 := bs - 6907) (pc' := 924) (st := []) [.int (xs (i + 1))] vL_124 rfl (pz_dc dL_law_12 10 rfl) rfl (Nat.le_of_ble_eq_true rfl) (Nat.le_of_ble_eq_true rfl) rfl (by omega) (by omega) (by omega) hx ?_
  refine C_richest I.1 I.2.2.1 (by decide) (fun h1 I1 F1 => ?_)
  obtain ⟨h0, J⟩ := I.a I1 F1
  obtain ⟨fs2, hm⟩ := J.2.1.1.obj
  show py_V l mL_law Ex Q d (bc - 3) (bs - 6907) 924 (LV b x i) [.int _] h1
  refine py_aload_n (pc' := 925) (x := x + 132) 2 rfl (pz_dc dL_law_12 11 rfl) rfl ?_
  refine py_arg (pc := 925) (pc' := 931) (k := 1) 4 0 rfl rfl hE hi hL (by decide) (by decide) (pz_dc dL_law_12 12 rfl) (pz_dc dL_law_12 13 rfl) (pz_dc dL_law_12 14 rfl) (pz_dc dL_law_12 15 rfl) (pz_dc dL_law_12 16 rfl) rfl ?_
  refine py_callV (M := mL_law) (N := mX10_richest) (d' := 202) (bc1 := 0) (bs1 := 0) (bc2 := bc - 3) (bs2 := bs - 6907) (pc' := 934) (st := [.int _]) [.int (xs (i + 1))] vL_127 rfl (pz_dc dL_law_12 17 rfl) rfl (Nat.le_of_ble_eq_true rfl) (Nat.le_of_ble_eq_true rfl) rfl (by omega) (by omega) (by omega) hm ?_
  obtain ⟨lm, zz, W1⟩ := J.2.1.1.w
  refine M_richest W1 J.2.2.1 (by decide) (fun h2 T2 lm2 zz2 W2 => ?_)
  have M2 := W2.inv
  show py_V l mL_law Ex Q d (bc - 3) (bs - 6907) 934 (LV b x i) [.int _, .int _] h2
  exact py_icmp_eq (pc' := 937) (tgt := 1678) rfl (pz_dc dL_law_12 18 rfl) (by decide) (fun _ => kk h2 _ (J.b M2 (I.2.2.1.q_richest (xs (i + 1))))) (fun z => absurd rfl z)
theorem LC_24 (hE : ∀ {p e R s m args below meth c G B Z}, Ex p e R s m args below meth c G B Z → py_S b L xs s B) (I : LI h x S) (hi : i + 5 ≤ L) (hL : L ≤ 2560) (hd : 203 ≤ d) (hbc : 3 ≤ bc) (hbs : 6907 ≤ bs) (kk : ∀ h' S', LI h' x S' → py_V l mL_law Ex Q d (bc - 3) (bs - 6907) 1678 (LV b x i) [] h') : py_V l mL_law Ex Q d bc bs 939 (LV b x i) [] h := by
  obtain ⟨fs, hx⟩ := I.1.obj
  refine py_aload_n (pc' := 940) (x := x) 3 rfl (pz_dc dL_law_12 21 rfl) rfl ?_
  refine py_arg (pc := 940) (pc' := 946) (k := 1) 4 0 rfl rfl hE hi hL (by decide) (by decide) (pz_dc dL_law_12 22 rfl) (pz_dc dL_law_12 23 rfl) (pz_dc dL_law_12 24 rfl) (pz_dc dL_law_12 25 rfl) (pz_dc dL_law_12 26 rfl) rfl ?_
  refine py_arg (pc := 946) (pc' := 952) (k := 2) 4 0 rfl rfl hE hi hL (by decide) (by decide) (pz_dc dL_law_12 27 rfl) (pz_dc dL_law_12 28 rfl) (pz_dc dL_law_12 29 rfl) (pz_dc dL_law_12 30 rfl) (pz_dc dL_law_12 31 rfl) rfl ?_
  refine py_arg (pc := 952) (pc' := 958) (k := 3) 4 0 rfl rfl hE hi hL (by decide) (by decide) (pz_dc dL_law_12 32 rfl) (pz_dc dL_law_12 33 rfl) (pz_dc dL_law_12 34 rfl) (pz_dc dL_law_12 35 rfl) (pz_dc dL_law_12 36 rfl) rfl ?_
  refine py_callV (M := mL_law) (N := mX9_swims) (d' := 202) (bc1 := 3) (bs1 := 6907) (bc2 := bc - 3) (bs2 := bs - 6907) (pc' := 961) (st := []) [.int (xs (i + 1)), .int (xs (i + 2)), .int (xs (i + 3))] vL_128 rfl (pz_dc dL_law_12 37 rfl) rfl (Nat.le_of_ble_eq_true rfl) (Nat.le_of_ble_eq_true rfl) rfl (by omega) (by omega) (by omega) hx ?_
  refine C_swims I.1 I.2.2.1 (by decide) (fun h1 I1 F1 => ?_)
  obtain ⟨h0, J⟩ := I.a I1 F1
  obtain ⟨fs2, hm⟩ := J.2.1.1.obj
  show py_V l mL_law Ex Q d (bc - 3) (bs - 6907) 961 (LV b x i) [.int _] h1
  refine py_aload_n (pc' := 962) (x := x + 132) 2 rfl (pz_dc dL_law_12 38 rfl) rfl ?_
  refine py_arg (pc := 962) (pc' := 968) (k := 1) 4 0 rfl rfl hE hi hL (by decide) (by decide) (pz_dc dL_law_12 39 rfl) (pz_dc dL_law_13 0 rfl) (pz_dc dL_law_13 1 rfl) (pz_dc dL_law_13 2 rfl) (pz_dc dL_law_13 3 rfl) rfl ?_
  refine py_arg (pc := 968) (pc' := 974) (k := 2) 4 0 rfl rfl hE hi hL (by decide) (by decide) (pz_dc dL_law_13 4 rfl) (pz_dc dL_law_13 5 rfl) (pz_dc dL_law_13 6 rfl) (pz_dc dL_law_13 7 rfl) (pz_dc dL_law_13 8 rfl) rfl ?_
  refine py_arg (pc := 974) (pc' := 980) (k := 3) 4 0 rfl rfl hE hi hL (by decide) (by decide) (pz_dc dL_law_13 9 rfl) (pz_dc dL_law_13 10 rfl) (pz_dc dL_law_13 11 rfl) (pz_dc dL_law_13 12 rfl) (pz_dc dL_law_13 13 rfl) rfl ?_
  refine py_callV (M := mL_law) (N := mX10_swims) (d' := 202) (bc1 := 0) (bs1 := 0) (bc2 := bc - 3) (bs2 := bs - 6907) (pc' := 983) (st := [.int _]) [.int (xs (i + 1)), .int (xs (i + 2)), .int (xs (i + 3))] vL_132 rfl (pz_dc dL_law_13 14 rfl) rfl (Nat.le_of_ble_eq_true rfl) (Nat.le_of_ble_eq_true rfl) rfl (by omega) (by omega) (by omega) hm ?_
  obtain ⟨lm, zz, W1⟩ := J.2.1.1.w
  refine M_swims W1 J.2.2.1 (by decide) (fun h2 T2 lm2 zz2 W2 => ?_)
  have M2 := W2.inv
  show py_V l mL_law Ex Q d (bc - 3) (bs - 6907) 983 (LV b x i) [.int _, .int _] h2
  exact py_icmp_eq (pc' := 986) (tgt := 1678) rfl (pz_dc dL_law_13 15 rfl) (by decide) (fun _ => kk h2 _ (J.b M2 (I.2.2.1.q_swims (xs (i + 1)) (xs (i + 2)) (xs (i + 3))))) (fun z => absurd rfl z)
theorem LC_25 (hE : ∀ {p e R s m args below meth c G B Z}, Ex p e R s m args below meth c G B Z → py_S b L xs s B) (I : LI h x S) (hi : i + 5 ≤ L) (hL : L ≤ 2560) (hd : 203 ≤ d) (hbc : 3 ≤ bc) (hbs : 6907 ≤ bs) (kk : ∀ h' S', LI h' x S' → py_V l mL_law Ex Q d (bc - 3) (bs - 6907) 1678 (LV b x i) [] h') : py_V l mL_law Ex Q d bc bs 988 (LV b x i) [] h := by
  obtain ⟨fs, hx⟩ := I.1.obj
  refine py_aload_n (pc' := 989) (x := x) 3 rfl (pz_dc dL_law_13 18 rfl) rfl ?_
  refine py_arg (pc := 989) (pc' := 995) (k := 1) 4 0 rfl rfl hE hi hL (by decide) (by decide) (pz_dc dL_law_13 19 rfl) (pz_dc dL_law_13 20 rfl) (pz_dc dL_law_13 21 rfl) (pz_dc dL_law_13 22 rfl) (pz_dc dL_law_13 23 rfl) rfl ?_
  refine py_arg (pc := 995) (pc' := 1001) (k := 2) 4 0 rfl rfl hE hi hL (by decide) (by decide) (pz_dc dL_law_13 24 rfl) (pz_dc dL_law_13 25 rfl) (pz_dc dL_law_13 26 rfl) (pz_dc dL_law_13 27 rfl) (pz_dc dL_law_13 28 rfl) rfl ?_
  refine py_callV (M := mL_law) (N := mX9_lets) (d' := 202) (bc1 := 3) (bs1 := 6907) (bc2 := bc - 3) (bs2 := bs - 6907) (pc' := 1004) (st := []) [.int (xs (i + 1)), .int (xs (i + 2))] vL_133 rfl (pz_dc dL_law_13 29 rfl) rfl (Nat.le_of_ble_eq_true rfl) (Nat.le_of_ble_eq_true rfl) rfl (by omega) (by omega) (by omega) hx ?_
  refine C_lets I.1 I.2.2.1 (by decide) (fun h1 I1 F1 => ?_)
  obtain ⟨h0, J⟩ := I.a I1 F1
  obtain ⟨fs2, hm⟩ := J.2.1.1.obj
  show py_V l mL_law Ex Q d (bc - 3) (bs - 6907) 1004 (LV b x i) [.int _] h1
  refine py_aload_n (pc' := 1005) (x := x + 132) 2 rfl (pz_dc dL_law_13 30 rfl) rfl ?_
  refine py_arg (pc := 1005) (pc' := 1011) (k := 1) 4 0 rfl rfl hE hi hL (by decide) (by decide) (pz_dc dL_law_13 31 rfl) (pz_dc dL_law_13 32 rfl) (pz_dc dL_law_13 33 rfl) (pz_dc dL_law_13 34 rfl) (pz_dc dL_law_13 35 rfl) rfl ?_
  refine py_arg (pc := 1011) (pc' := 1017) (k := 2) 4 0 rfl rfl hE hi hL (by decide) (by decide) (pz_dc dL_law_13 36 rfl) (pz_dc dL_law_13 37 rfl) (pz_dc dL_law_13 38 rfl) (pz_dc dL_law_13 39 rfl) (pz_dc dL_law_14 0 rfl) rfl ?_
  refine py_callV (M := mL_law) (N := mX10_lets) (d' := 202) (bc1 := 0) (bs1 := 0) (bc2 := bc - 3) (bs2 := bs - 6907) (pc' := 1020) (st := [.int _]) [.int (xs (i + 1)), .int (xs (i + 2))] vL_136 rfl (pz_dc dL_law_14 1 rfl) rfl (Nat.le_of_ble_eq_true rfl) (Nat.le_of_ble_eq_true rfl) rfl (by omega) (by omega) (by omega) hm ?_
  obtain ⟨lm, zz, W1⟩ := J.2.1.1.w
  refine M_lets W1 J.2.2.1 (by decide) (fun h2 T2 lm2 zz2 W2 => ?_)
  have M2 := W2.inv
  show py_V l mL_law Ex Q d (bc - 3) (bs - 6907) 1020 (LV b x i) [.int _, .int _] h2
  exact py_icmp_eq (pc' := 1023) (tgt := 1678) rfl (pz_dc dL_law_14 2 rfl) (by decide) (fun _ => kk h2 _ (J.b M2 (I.2.2.1.q_lets (xs (i + 1)) (xs (i + 2))))) (fun z => absurd rfl z)
theorem LC_26 (hE : ∀ {p e R s m args below meth c G B Z}, Ex p e R s m args below meth c G B Z → py_S b L xs s B) (I : LI h x S) (hi : i + 5 ≤ L) (hL : L ≤ 2560) (hd : 203 ≤ d) (hbc : 3 ≤ bc) (hbs : 6907 ≤ bs) (kk : ∀ h' S', LI h' x S' → py_V l mL_law Ex Q d (bc - 3) (bs - 6907) 1678 (LV b x i) [] h') : py_V l mL_law Ex Q d bc bs 1025 (LV b x i) [] h := by
  obtain ⟨fs, hx⟩ := I.1.obj
  refine py_aload_n (pc' := 1026) (x := x) 3 rfl (pz_dc dL_law_14 5 rfl) rfl ?_
  refine py_arg (pc := 1026) (pc' := 1032) (k := 1) 4 0 rfl rfl hE hi hL (by decide) (by decide) (pz_dc dL_law_14 6 rfl) (pz_dc dL_law_14 7 rfl) (pz_dc dL_law_14 8 rfl) (pz_dc dL_law_14 9 rfl) (pz_dc dL_law_14 10 rfl) rfl ?_
  refine py_arg (pc := 1032) (pc' := 1038) (k := 2) 4 0 rfl rfl hE hi hL (by decide) (by decide) (pz_dc dL_law_14 11 rfl) (pz_dc dL_law_14 12 rfl) (pz_dc dL_law_14 13 rfl) (pz_dc dL_law_14 14 rfl) (pz_dc dL_law_14 15 rfl) rfl ?_
  refine py_callV (M := mL_law) (N := mX9_just) (d' := 202) (bc1 := 3) (bs1 := 6907) (bc2 := bc - 3) (bs2 := bs - 6907) (pc' := 1041) (st := []) [.int (xs (i + 1)), .int (xs (i + 2))] vL_137 rfl (pz_dc dL_law_14 16 rfl) rfl (Nat.le_of_ble_eq_true rfl) (Nat.le_of_ble_eq_true rfl) rfl (by omega) (by omega) (by omega) hx ?_
  refine C_just I.1 I.2.2.1 (by decide) (fun h1 I1 F1 => ?_)
  obtain ⟨h0, J⟩ := I.a I1 F1
  obtain ⟨fs2, hm⟩ := J.2.1.1.obj
  show py_V l mL_law Ex Q d (bc - 3) (bs - 6907) 1041 (LV b x i) [.int _] h1
  refine py_aload_n (pc' := 1042) (x := x + 132) 2 rfl (pz_dc dL_law_14 17 rfl) rfl ?_
  refine py_arg (pc := 1042) (pc' := 1048) (k := 1) 4 0 rfl rfl hE hi hL (by decide) (by decide) (pz_dc dL_law_14 18 rfl) (pz_dc dL_law_14 19 rfl) (pz_dc dL_law_14 20 rfl) (pz_dc dL_law_14 21 rfl) (pz_dc dL_law_14 22 rfl) rfl ?_
  refine py_arg (pc := 1048) (pc' := 1054) (k := 2) 4 0 rfl rfl hE hi hL (by decide) (by decide) (pz_dc dL_law_14 23 rfl) (pz_dc dL_law_14 24 rfl) (pz_dc dL_law_14 25 rfl) (pz_dc dL_law_14 26 rfl) (pz_dc dL_law_14 27 rfl) rfl ?_
  refine py_callV (M := mL_law) (N := mX10_just) (d' := 202) (bc1 := 0) (bs1 := 0) (bc2 := bc - 3) (bs2 := bs - 6907) (pc' := 1057) (st := [.int _]) [.int (xs (i + 1)), .int (xs (i + 2))] vL_140 rfl (pz_dc dL_law_14 28 rfl) rfl (Nat.le_of_ble_eq_true rfl) (Nat.le_of_ble_eq_true rfl) rfl (by omega) (by omega) (by omega) hm ?_
  obtain ⟨lm, zz, W1⟩ := J.2.1.1.w
  refine M_just W1 J.2.2.1 (by decide) (fun h2 T2 lm2 zz2 W2 => ?_)
  have M2 := W2.inv
  show py_V l mL_law Ex Q d (bc - 3) (bs - 6907) 1057 (LV b x i) [.int _, .int _] h2
  exact py_icmp_eq (pc' := 1060) (tgt := 1678) rfl (pz_dc dL_law_14 29 rfl) (by decide) (fun _ => kk h2 _ (J.b M2 (I.2.2.1.q_just (xs (i + 1)) (xs (i + 2))))) (fun z => absurd rfl z)
theorem LC_27 (hE : ∀ {p e R s m args below meth c G B Z}, Ex p e R s m args below meth c G B Z → py_S b L xs s B) (I : LI h x S) (hi : i + 5 ≤ L) (hL : L ≤ 2560) (hd : 203 ≤ d) (hbc : 3 ≤ bc) (hbs : 6907 ≤ bs) (kk : ∀ h' S', LI h' x S' → py_V l mL_law Ex Q d (bc - 3) (bs - 6907) 1678 (LV b x i) [] h') : py_V l mL_law Ex Q d bc bs 1062 (LV b x i) [] h := by
  obtain ⟨fs, hx⟩ := I.1.obj
  refine py_aload_n (pc' := 1063) (x := x) 3 rfl (pz_dc dL_law_14 32 rfl) rfl ?_
  refine py_arg (pc := 1063) (pc' := 1069) (k := 1) 4 0 rfl rfl hE hi hL (by decide) (by decide) (pz_dc dL_law_14 33 rfl) (pz_dc dL_law_14 34 rfl) (pz_dc dL_law_14 35 rfl) (pz_dc dL_law_14 36 rfl) (pz_dc dL_law_14 37 rfl) rfl ?_
  refine py_arg (pc := 1069) (pc' := 1075) (k := 2) 4 0 rfl rfl hE hi hL (by decide) (by decide) (pz_dc dL_law_14 38 rfl) (pz_dc dL_law_14 39 rfl) (pz_dc dL_law_15 0 rfl) (pz_dc dL_law_15 1 rfl) (pz_dc dL_law_15 2 rfl) rfl ?_
  refine py_callV (M := mL_law) (N := mX9_fills) (d' := 202) (bc1 := 3) (bs1 := 6907) (bc2 := bc - 3) (bs2 := bs - 6907) (pc' := 1078) (st := []) [.int (xs (i + 1)), .int (xs (i + 2))] vL_141 rfl (pz_dc dL_law_15 3 rfl) rfl (Nat.le_of_ble_eq_true rfl) (Nat.le_of_ble_eq_true rfl) rfl (by omega) (by omega) (by omega) hx ?_
  refine C_fills I.1 I.2.2.1 (by decide) (fun h1 I1 F1 => ?_)
  obtain ⟨h0, J⟩ := I.a I1 F1
  obtain ⟨fs2, hm⟩ := J.2.1.1.obj
  show py_V l mL_law Ex Q d (bc - 3) (bs - 6907) 1078 (LV b x i) [.int _] h1
  refine py_aload_n (pc' := 1079) (x := x + 132) 2 rfl (pz_dc dL_law_15 4 rfl) rfl ?_
  refine py_arg (pc := 1079) (pc' := 1085) (k := 1) 4 0 rfl rfl hE hi hL (by decide) (by decide) (pz_dc dL_law_15 5 rfl) (pz_dc dL_law_15 6 rfl) (pz_dc dL_law_15 7 rfl) (pz_dc dL_law_15 8 rfl) (pz_dc dL_law_15 9 rfl) rfl ?_
  refine py_arg (pc := 1085) (pc' := 1091) (k := 2) 4 0 rfl rfl hE hi hL (by decide) (by decide) (pz_dc dL_law_15 10 rfl) (pz_dc dL_law_15 11 rfl) (pz_dc dL_law_15 12 rfl) (pz_dc dL_law_15 13 rfl) (pz_dc dL_law_15 14 rfl) rfl ?_
  refine py_callV (M := mL_law) (N := mX10_fills) (d' := 202) (bc1 := 0) (bs1 := 0) (bc2 := bc - 3) (bs2 := bs - 6907) (pc' := 1094) (st := [.int _]) [.int (xs (i + 1)), .int (xs (i + 2))] vL_144 rfl (pz_dc dL_law_15 15 rfl) rfl (Nat.le_of_ble_eq_true rfl) (Nat.le_of_ble_eq_true rfl) rfl (by omega) (by omega) (by omega) hm ?_
  obtain ⟨lm, zz, W1⟩ := J.2.1.1.w
  refine M_fills W1 J.2.2.1 (by decide) (fun h2 T2 lm2 zz2 W2 => ?_)
  have M2 := W2.inv
  show py_V l mL_law Ex Q d (bc - 3) (bs - 6907) 1094 (LV b x i) [.int _, .int _] h2
  exact py_icmp_eq (pc' := 1097) (tgt := 1678) rfl (pz_dc dL_law_15 16 rfl) (by decide) (fun _ => kk h2 _ (J.b M2 (I.2.2.1.q_fills (xs (i + 1)) (xs (i + 2))))) (fun z => absurd rfl z)
theorem LC_28 (hE : ∀ {p e R s m args below meth c G B Z}, Ex p e R s m args below meth c G B Z → py_S b L xs s B) (I : LI h x S) (hi : i + 5 ≤ L) (hL : L ≤ 2560) (hd : 203 ≤ d) (hbc : 3 ≤ bc) (hbs : 6907 ≤ bs) (kk : ∀ h' S', LI h' x S' → py_V l mL_law Ex Q d (bc - 3) (bs - 6907) 1678 (LV b x i) [] h') : py_V l mL_law Ex Q d bc bs 1099 (LV b x i) [] h := by
  obtain ⟨fs, hx⟩ := I.1.obj
  refine py_aload_n (pc' := 1100) (x := x) 3 rfl (pz_dc dL_law_15 19 rfl) rfl ?_
  refine py_arg (pc := 1100) (pc' := 1106) (k := 1) 4 0 rfl rfl hE hi hL (by decide) (by decide) (pz_dc dL_law_15 20 rfl) (pz_dc dL_law_15 21 rfl) (pz_dc dL_law_15 22 rfl) (pz_dc dL_law_15 23 rfl) (pz_dc dL_law_15 24 rfl) rfl ?_
  refine py_arg (pc := 1106) (pc' := 1112) (k := 2) 4 0 rfl rfl hE hi hL (by decide) (by decide) (pz_dc dL_law_15 25 rfl) (pz_dc dL_law_15 26 rfl) (pz_dc dL_law_15 27 rfl) (pz_dc dL_law_15 28 rfl) (pz_dc dL_law_15 29 rfl) rfl ?_
  refine py_arg (pc := 1112) (pc' := 1118) (k := 3) 4 0 rfl rfl hE hi hL (by decide) (by decide) (pz_dc dL_law_15 30 rfl) (pz_dc dL_law_15 31 rfl) (pz_dc dL_law_15 32 rfl) (pz_dc dL_law_15 33 rfl) (pz_dc dL_law_15 34 rfl) rfl ?_
  refine py_callV (M := mL_law) (N := mX9_needs) (d' := 202) (bc1 := 3) (bs1 := 6907) (bc2 := bc - 3) (bs2 := bs - 6907) (pc' := 1121) (st := []) [.int (xs (i + 1)), .int (xs (i + 2)), .int (xs (i + 3))] vL_145 rfl (pz_dc dL_law_15 35 rfl) rfl (Nat.le_of_ble_eq_true rfl) (Nat.le_of_ble_eq_true rfl) rfl (by omega) (by omega) (by omega) hx ?_
  refine C_needs I.1 I.2.2.1 (by decide) (fun h1 I1 F1 => ?_)
  obtain ⟨h0, J⟩ := I.a I1 F1
  obtain ⟨fs2, hm⟩ := J.2.1.1.obj
  show py_V l mL_law Ex Q d (bc - 3) (bs - 6907) 1121 (LV b x i) [.int _] h1
  refine py_aload_n (pc' := 1122) (x := x + 132) 2 rfl (pz_dc dL_law_15 36 rfl) rfl ?_
  refine py_arg (pc := 1122) (pc' := 1128) (k := 1) 4 0 rfl rfl hE hi hL (by decide) (by decide) (pz_dc dL_law_15 37 rfl) (pz_dc dL_law_15 38 rfl) (pz_dc dL_law_15 39 rfl) (pz_dc dL_law_16 0 rfl) (pz_dc dL_law_16 1 rfl) rfl ?_
  refine py_arg (pc := 1128) (pc' := 1134) (k := 2) 4 0 rfl rfl hE hi hL (by decide) (by decide) (pz_dc dL_law_16 2 rfl) (pz_dc dL_law_16 3 rfl) (pz_dc dL_law_16 4 rfl) (pz_dc dL_law_16 5 rfl) (pz_dc dL_law_16 6 rfl) rfl ?_
  refine py_arg (pc := 1134) (pc' := 1140) (k := 3) 4 0 rfl rfl hE hi hL (by decide) (by decide) (pz_dc dL_law_16 7 rfl) (pz_dc dL_law_16 8 rfl) (pz_dc dL_law_16 9 rfl) (pz_dc dL_law_16 10 rfl) (pz_dc dL_law_16 11 rfl) rfl ?_
  refine py_callV (M := mL_law) (N := mX10_needs) (d' := 202) (bc1 := 0) (bs1 := 0) (bc2 := bc - 3) (bs2 := bs - 6907) (pc' := 1143) (st := [.int _]) [.int (xs (i + 1)), .int (xs (i + 2)), .int (xs (i + 3))] vL_148 rfl (pz_dc dL_law_16 12 rfl) rfl (Nat.le_of_ble_eq_true rfl) (Nat.le_of_ble_eq_true rfl) rfl (by omega) (by omega) (by omega) hm ?_
  obtain ⟨lm, zz, W1⟩ := J.2.1.1.w
  refine M_needs W1 J.2.2.1 (by decide) (fun h2 T2 lm2 zz2 W2 => ?_)
  have M2 := W2.inv
  show py_V l mL_law Ex Q d (bc - 3) (bs - 6907) 1143 (LV b x i) [.int _, .int _] h2
  exact py_icmp_eq (pc' := 1146) (tgt := 1678) rfl (pz_dc dL_law_16 13 rfl) (by decide) (fun _ => kk h2 _ (J.b M2 (I.2.2.1.q_needs (xs (i + 1)) (xs (i + 2)) (xs (i + 3))))) (fun z => absurd rfl z)
theorem LC_29 (hE : ∀ {p e R s m args below meth c G B Z}, Ex p e R s m args below meth c G B Z → py_S b L xs s B) (I : LI h x S) (hi : i + 5 ≤ L) (hL : L ≤ 2560) (hd : 203 ≤ d) (hbc : 3 ≤ bc) (hbs : 6907 ≤ bs) (kk : ∀ h' S', LI h' x S' → py_V l mL_law Ex Q d (bc - 3) (bs - 6907) 1678 (LV b x i) [] h') : py_V l mL_law Ex Q d bc bs 1148 (LV b x i) [] h := by
  obtain ⟨fs, hx⟩ := I.1.obj
  refine py_aload_n (pc' := 1149) (x := x) 3 rfl (pz_dc dL_law_16 16 rfl) rfl ?_
  refine py_arg (pc := 1149) (pc' := 1155) (k := 1) 4 0 rfl rfl hE hi hL (by decide) (by decide) (pz_dc dL_law_16 17 rfl) (pz_dc dL_law_16 18 rfl) (pz_dc dL_law_16 19 rfl) (pz_dc dL_law_16 20 rfl) (pz_dc dL_law_16 21 rfl) rfl ?_
  refine py_callV (M := mL_law) (N := mX9_crosses) (d' := 202) (bc1 := 3) (bs1 := 6907) (bc2 := bc - 3) (bs2 := bs - 6907) (pc' := 1158) (st := []) [.int (xs (i + 1))] vL_149 rfl (pz_dc dL_law_16 22 rfl) rfl (Nat.le_of_ble_eq_true rfl) (Nat.le_of_ble_eq_true rfl) rfl (by omega) (by omega) (by omega) hx ?_
  refine C_crosses I.1 I.2.2.1 (by decide) (fun h1 I1 F1 => ?_)
  obtain ⟨h0, J⟩ := I.a I1 F1
  obtain ⟨fs2, hm⟩ := J.2.1.1.obj
  show py_V l mL_law Ex Q d (bc - 3) (bs - 6907) 1158 (LV b x i) [.int _] h1
  refine py_aload_n (pc' := 1159) (x := x + 132) 2 rfl (pz_dc dL_law_16 23 rfl) rfl ?_
  refine py_arg (pc := 1159) (pc' := 1165) (k := 1) 4 0 rfl rfl hE hi hL (by decide) (by decide) (pz_dc dL_law_16 24 rfl) (pz_dc dL_law_16 25 rfl) (pz_dc dL_law_16 26 rfl) (pz_dc dL_law_16 27 rfl) (pz_dc dL_law_16 28 rfl) rfl ?_
  refine py_callV (M := mL_law) (N := mX10_crosses) (d' := 202) (bc1 := 0) (bs1 := 0) (bc2 := bc - 3) (bs2 := bs - 6907) (pc' := 1168) (st := [.int _]) [.int (xs (i + 1))] vL_152 rfl (pz_dc dL_law_16 29 rfl) rfl (Nat.le_of_ble_eq_true rfl) (Nat.le_of_ble_eq_true rfl) rfl (by omega) (by omega) (by omega) hm ?_
  obtain ⟨lm, zz, W1⟩ := J.2.1.1.w
  refine M_crosses W1 J.2.2.1 (by decide) (fun h2 T2 lm2 zz2 W2 => ?_)
  have M2 := W2.inv
  show py_V l mL_law Ex Q d (bc - 3) (bs - 6907) 1168 (LV b x i) [.int _, .int _] h2
  exact py_icmp_eq (pc' := 1171) (tgt := 1678) rfl (pz_dc dL_law_16 30 rfl) (by decide) (fun _ => kk h2 _ (J.b M2 (I.2.2.1.q_crosses (xs (i + 1))))) (fun z => absurd rfl z)
theorem LC_30 (hE : ∀ {p e R s m args below meth c G B Z}, Ex p e R s m args below meth c G B Z → py_S b L xs s B) (I : LI h x S) (hi : i + 5 ≤ L) (hL : L ≤ 2560) (hd : 203 ≤ d) (hbc : 3 ≤ bc) (hbs : 6907 ≤ bs) (kk : ∀ h' S', LI h' x S' → py_V l mL_law Ex Q d (bc - 3) (bs - 6907) 1678 (LV b x i) [] h') : py_V l mL_law Ex Q d bc bs 1173 (LV b x i) [] h := by
  obtain ⟨fs, hx⟩ := I.1.obj
  refine py_aload_n (pc' := 1174) (x := x) 3 rfl (pz_dc dL_law_16 33 rfl) rfl ?_
  refine py_arg (pc := 1174) (pc' := 1180) (k := 1) 4 0 rfl rfl hE hi hL (by decide) (by decide) (pz_dc dL_law_16 34 rfl) (pz_dc dL_law_16 35 rfl) (pz_dc dL_law_16 36 rfl) (pz_dc dL_law_16 37 rfl) (pz_dc dL_law_16 38 rfl) rfl ?_
  refine py_arg (pc := 1180) (pc' := 1186) (k := 2) 4 0 rfl rfl hE hi hL (by decide) (by decide) (pz_dc dL_law_16 39 rfl) (pz_dc dL_law_17 0 rfl) (pz_dc dL_law_17 1 rfl) (pz_dc dL_law_17 2 rfl) (pz_dc dL_law_17 3 rfl) rfl ?_
  refine py_arg (pc := 1186) (pc' := 1192) (k := 3) 4 0 rfl rfl hE hi hL (by decide) (by decide) (pz_dc dL_law_17 4 rfl) (pz_dc dL_law_17 5 rfl) (pz_dc dL_law_17 6 rfl) (pz_dc dL_law_17 7 rfl) (pz_dc dL_law_17 8 rfl) rfl ?_
  refine py_callV (M := mL_law) (N := mX9_ring) (d' := 202) (bc1 := 3) (bs1 := 6907) (bc2 := bc - 3) (bs2 := bs - 6907) (pc' := 1195) (st := []) [.int (xs (i + 1)), .int (xs (i + 2)), .int (xs (i + 3))] vL_153 rfl (pz_dc dL_law_17 9 rfl) rfl (Nat.le_of_ble_eq_true rfl) (Nat.le_of_ble_eq_true rfl) rfl (by omega) (by omega) (by omega) hx ?_
  refine C_ring I.1 I.2.2.1 (by decide) (fun h1 I1 F1 => ?_)
  obtain ⟨h0, J⟩ := I.a I1 F1
  obtain ⟨fs2, hm⟩ := J.2.1.1.obj
  show py_V l mL_law Ex Q d (bc - 3) (bs - 6907) 1195 (LV b x i) [.int _] h1
  refine py_aload_n (pc' := 1196) (x := x + 132) 2 rfl (pz_dc dL_law_17 10 rfl) rfl ?_
  refine py_arg (pc := 1196) (pc' := 1202) (k := 1) 4 0 rfl rfl hE hi hL (by decide) (by decide) (pz_dc dL_law_17 11 rfl) (pz_dc dL_law_17 12 rfl) (pz_dc dL_law_17 13 rfl) (pz_dc dL_law_17 14 rfl) (pz_dc dL_law_17 15 rfl) rfl ?_
  refine py_arg (pc := 1202) (pc' := 1208) (k := 2) 4 0 rfl rfl hE hi hL (by decide) (by decide) (pz_dc dL_law_17 16 rfl) (pz_dc dL_law_17 17 rfl) (pz_dc dL_law_17 18 rfl) (pz_dc dL_law_17 19 rfl) (pz_dc dL_law_17 20 rfl) rfl ?_
  refine py_arg (pc := 1208) (pc' := 1214) (k := 3) 4 0 rfl rfl hE hi hL (by decide) (by decide) (pz_dc dL_law_17 21 rfl) (pz_dc dL_law_17 22 rfl) (pz_dc dL_law_17 23 rfl) (pz_dc dL_law_17 24 rfl) (pz_dc dL_law_17 25 rfl) rfl ?_
  refine py_callV (M := mL_law) (N := mX10_ring) (d' := 202) (bc1 := 0) (bs1 := 0) (bc2 := bc - 3) (bs2 := bs - 6907) (pc' := 1217) (st := [.int _]) [.int (xs (i + 1)), .int (xs (i + 2)), .int (xs (i + 3))] vL_156 rfl (pz_dc dL_law_17 26 rfl) rfl (Nat.le_of_ble_eq_true rfl) (Nat.le_of_ble_eq_true rfl) rfl (by omega) (by omega) (by omega) hm ?_
  refine M_ring J.2.1.1 J.2.2.1 (by decide) (fun h2 M2 => ?_)
  show py_V l mL_law Ex Q d (bc - 3) (bs - 6907) 1217 (LV b x i) [.int _, .int _] h2
  exact py_icmp_eq (pc' := 1220) (tgt := 1678) rfl (pz_dc dL_law_17 27 rfl) (by decide) (fun _ => kk h2 _ (J.b M2 (I.2.2.1.ring (xs (i + 1)) (xs (i + 2)) (xs (i + 3))))) (fun z => absurd rfl z)
theorem LC_31 (hE : ∀ {p e R s m args below meth c G B Z}, Ex p e R s m args below meth c G B Z → py_S b L xs s B) (I : LI h x S) (hi : i + 5 ≤ L) (hL : L ≤ 2560) (hd : 203 ≤ d) (hbc : 3 ≤ bc) (hbs : 6907 ≤ bs) (kk : ∀ h' S', LI h' x S' → py_V l mL_law Ex Q d (bc - 3) (bs - 6907) 1678 (LV b x i) [] h') : py_V l mL_law Ex Q d bc bs 1222 (LV b x i) [] h := by
  obtain ⟨fs, hx⟩ := I.1.obj
  refine py_aload_n (pc' := 1223) (x := x) 3 rfl (pz_dc dL_law_17 30 rfl) rfl ?_
  refine py_callV (M := mL_law) (N := mX9_washes) (d' := 202) (bc1 := 3) (bs1 := 6907) (bc2 := bc - 3) (bs2 := bs - 6907) (pc' := 1226) (st := []) [] vL_157 rfl (pz_dc dL_law_17 31 rfl) rfl (Nat.le_of_ble_eq_true rfl) (Nat.le_of_ble_eq_true rfl) rfl (by omega) (by omega) (by omega) hx ?_
  refine C_washes I.1 I.2.2.1 (by decide) (fun h1 I1 F1 => ?_)
  obtain ⟨h0, J⟩ := I.a I1 F1
  obtain ⟨fs2, hm⟩ := J.2.1.1.obj
  show py_V l mL_law Ex Q d (bc - 3) (bs - 6907) 1226 (LV b x i) [.int _] h1
  refine py_aload_n (pc' := 1227) (x := x + 132) 2 rfl (pz_dc dL_law_17 32 rfl) rfl ?_
  refine py_callV (M := mL_law) (N := mX10_washes) (d' := 202) (bc1 := 0) (bs1 := 0) (bc2 := bc - 3) (bs2 := bs - 6907) (pc' := 1230) (st := [.int _]) [] vL_160 rfl (pz_dc dL_law_17 33 rfl) rfl (Nat.le_of_ble_eq_true rfl) (Nat.le_of_ble_eq_true rfl) rfl (by omega) (by omega) (by omega) hm ?_
  refine M_washes J.2.1.1 J.2.2.1 (fun h2 M2 => ?_)
  show py_V l mL_law Ex Q d (bc - 3) (bs - 6907) 1230 (LV b x i) [.int _, .int _] h2
  exact py_icmp_eq (pc' := 1233) (tgt := 1678) rfl (pz_dc dL_law_17 34 rfl) (by decide) (fun _ => kk h2 _ (J.b M2 I.2.2.1.washes)) (fun z => absurd rfl z)
theorem LC_32 (hE : ∀ {p e R s m args below meth c G B Z}, Ex p e R s m args below meth c G B Z → py_S b L xs s B) (I : LI h x S) (hi : i + 5 ≤ L) (hL : L ≤ 2560) (hd : 203 ≤ d) (hbc : 3 ≤ bc) (hbs : 6907 ≤ bs) (kk : ∀ h' S', LI h' x S' → py_V l mL_law Ex Q d (bc - 3) (bs - 6907) 1678 (LV b x i) [] h') : py_V l mL_law Ex Q d bc bs 1235 (LV b x i) [] h := by
  obtain ⟨fs, hx⟩ := I.1.obj
  refine py_aload_n (pc' := 1236) (x := x) 3 rfl (pz_dc dL_law_17 37 rfl) rfl ?_
  refine py_callV (M := mL_law) (N := mX9_leaks) (d' := 202) (bc1 := 3) (bs1 := 6907) (bc2 := bc - 3) (bs2 := bs - 6907) (pc' := 1239) (st := []) [] vL_161 rfl (pz_dc dL_law_17 38 rfl) rfl (Nat.le_of_ble_eq_true rfl) (Nat.le_of_ble_eq_true rfl) rfl (by omega) (by omega) (by omega) hx ?_
  refine C_leaks I.1 I.2.2.1 (by decide) (fun h1 I1 F1 => ?_)
  obtain ⟨h0, J⟩ := I.a I1 F1
  obtain ⟨fs2, hm⟩ := J.2.1.1.obj
  show py_V l mL_law Ex Q d (bc - 3) (bs - 6907) 1239 (LV b x i) [.int _] h1
  refine py_aload_n (pc' := 1240) (x := x + 132) 2 rfl (pz_dc dL_law_17 39 rfl) rfl ?_
  refine py_callV (M := mL_law) (N := mX10_leaks) (d' := 202) (bc1 := 0) (bs1 := 0) (bc2 := bc - 3) (bs2 := bs - 6907) (pc' := 1243) (st := [.int _]) [] vL_164 rfl (pz_dc dL_law_18 0 rfl) rfl (Nat.le_of_ble_eq_true rfl) (Nat.le_of_ble_eq_true rfl) rfl (by omega) (by omega) (by omega) hm ?_
  obtain ⟨lm, zz, W1⟩ := J.2.1.1.w
  refine M_leaks W1 J.2.2.1 (by decide) (fun h2 T2 lm2 zz2 W2 => ?_)
  have M2 := W2.inv
  show py_V l mL_law Ex Q d (bc - 3) (bs - 6907) 1243 (LV b x i) [.int _, .int _] h2
  exact py_icmp_eq (pc' := 1246) (tgt := 1678) rfl (pz_dc dL_law_18 1 rfl) (by decide) (fun _ => kk h2 _ (J.b M2 I.2.2.1.q_leaks)) (fun z => absurd rfl z)
theorem LC_33 (hE : ∀ {p e R s m args below meth c G B Z}, Ex p e R s m args below meth c G B Z → py_S b L xs s B) (I : LI h x S) (hi : i + 5 ≤ L) (hL : L ≤ 2560) (hd : 203 ≤ d) (hbc : 3 ≤ bc) (hbs : 6907 ≤ bs) (kk : ∀ h' S', LI h' x S' → py_V l mL_law Ex Q d (bc - 3) (bs - 6907) 1678 (LV b x i) [] h') : py_V l mL_law Ex Q d bc bs 1248 (LV b x i) [] h := by
  obtain ⟨fs, hx⟩ := I.1.obj
  refine py_aload_n (pc' := 1249) (x := x) 3 rfl (pz_dc dL_law_18 4 rfl) rfl ?_
  refine py_callV (M := mL_law) (N := mX9_reads) (d' := 202) (bc1 := 3) (bs1 := 6907) (bc2 := bc - 3) (bs2 := bs - 6907) (pc' := 1252) (st := []) [] vL_165 rfl (pz_dc dL_law_18 5 rfl) rfl (Nat.le_of_ble_eq_true rfl) (Nat.le_of_ble_eq_true rfl) rfl (by omega) (by omega) (by omega) hx ?_
  refine C_reads I.1 I.2.2.1 I.2.2.2.1 (by decide) (Nat.le_refl _) (Nat.le_refl _) (fun h1 I1 F1 => ?_)
  obtain ⟨h0, J⟩ := I.a I1 F1
  obtain ⟨fs2, hm⟩ := J.2.1.1.obj
  show py_V l mL_law Ex Q d (bc - 3) (bs - 6907) 1252 (LV b x i) [.int _] h1
  refine py_aload_n (pc' := 1253) (x := x + 132) 2 rfl (pz_dc dL_law_18 6 rfl) rfl ?_
  refine py_callV (M := mL_law) (N := mX10_reads) (d' := 202) (bc1 := 0) (bs1 := 0) (bc2 := bc - 3) (bs2 := bs - 6907) (pc' := 1256) (st := [.int _]) [] vL_168 rfl (pz_dc dL_law_18 7 rfl) rfl (Nat.le_of_ble_eq_true rfl) (Nat.le_of_ble_eq_true rfl) rfl (by omega) (by omega) (by omega) hm ?_
  obtain ⟨lm, zz, W1⟩ := J.2.1.1.w
  refine M_reads W1 J.2.2.1 (by decide) (fun h2 T2 lm2 zz2 W2 => ?_)
  have M2 := W2.inv
  show py_V l mL_law Ex Q d (bc - 3) (bs - 6907) 1256 (LV b x i) [.int _, .int _] h2
  exact py_icmp_eq (pc' := 1259) (tgt := 1678) rfl (pz_dc dL_law_18 8 rfl) (by decide) (fun _ => kk h2 _ (J.b M2 I.2.2.1.q_reads)) (fun z => absurd rfl z)
theorem LC_34 (hE : ∀ {p e R s m args below meth c G B Z}, Ex p e R s m args below meth c G B Z → py_S b L xs s B) (I : LI h x S) (hi : i + 5 ≤ L) (hL : L ≤ 2560) (hd : 203 ≤ d) (hbc : 3 ≤ bc) (hbs : 6907 ≤ bs) (kk : ∀ h' S', LI h' x S' → py_V l mL_law Ex Q d (bc - 3) (bs - 6907) 1678 (LV b x i) [] h') : py_V l mL_law Ex Q d bc bs 1261 (LV b x i) [] h := by
  obtain ⟨fs, hx⟩ := I.1.obj
  refine py_aload_n (pc' := 1262) (x := x) 3 rfl (pz_dc dL_law_18 11 rfl) rfl ?_
  refine py_arg (pc := 1262) (pc' := 1268) (k := 1) 4 0 rfl rfl hE hi hL (by decide) (by decide) (pz_dc dL_law_18 12 rfl) (pz_dc dL_law_18 13 rfl) (pz_dc dL_law_18 14 rfl) (pz_dc dL_law_18 15 rfl) (pz_dc dL_law_18 16 rfl) rfl ?_
  refine py_callV (M := mL_law) (N := mX9_threat) (d' := 202) (bc1 := 3) (bs1 := 6907) (bc2 := bc - 3) (bs2 := bs - 6907) (pc' := 1271) (st := []) [.int (xs (i + 1))] vL_169 rfl (pz_dc dL_law_18 17 rfl) rfl (Nat.le_of_ble_eq_true rfl) (Nat.le_of_ble_eq_true rfl) rfl (by omega) (by omega) (by omega) hx ?_
  refine C_threat I.1 I.2.2.1 (by decide) (fun h1 I1 F1 => ?_)
  obtain ⟨h0, J⟩ := I.a I1 F1
  obtain ⟨fs2, hm⟩ := J.2.1.1.obj
  show py_V l mL_law Ex Q d (bc - 3) (bs - 6907) 1271 (LV b x i) [.int _] h1
  refine py_aload_n (pc' := 1272) (x := x + 132) 2 rfl (pz_dc dL_law_18 18 rfl) rfl ?_
  refine py_arg (pc := 1272) (pc' := 1278) (k := 1) 4 0 rfl rfl hE hi hL (by decide) (by decide) (pz_dc dL_law_18 19 rfl) (pz_dc dL_law_18 20 rfl) (pz_dc dL_law_18 21 rfl) (pz_dc dL_law_18 22 rfl) (pz_dc dL_law_18 23 rfl) rfl ?_
  refine py_callV (M := mL_law) (N := mX10_threat) (d' := 202) (bc1 := 0) (bs1 := 0) (bc2 := bc - 3) (bs2 := bs - 6907) (pc' := 1281) (st := [.int _]) [.int (xs (i + 1))] vL_172 rfl (pz_dc dL_law_18 24 rfl) rfl (Nat.le_of_ble_eq_true rfl) (Nat.le_of_ble_eq_true rfl) rfl (by omega) (by omega) (by omega) hm ?_
  obtain ⟨lm, zz, W1⟩ := J.2.1.1.w
  refine M_threat W1 J.2.2.1 (by decide) (fun h2 T2 lm2 zz2 W2 => ?_)
  have M2 := W2.inv
  show py_V l mL_law Ex Q d (bc - 3) (bs - 6907) 1281 (LV b x i) [.int _, .int _] h2
  exact py_icmp_eq (pc' := 1284) (tgt := 1678) rfl (pz_dc dL_law_18 25 rfl) (by decide) (fun _ => kk h2 _ (J.b M2 (I.2.2.1.q_threat (xs (i + 1))))) (fun z => absurd rfl z)
theorem LC_35 (hE : ∀ {p e R s m args below meth c G B Z}, Ex p e R s m args below meth c G B Z → py_S b L xs s B) (I : LI h x S) (hi : i + 5 ≤ L) (hL : L ≤ 2560) (hd : 203 ≤ d) (hbc : 3 ≤ bc) (hbs : 6907 ≤ bs) (kk : ∀ h' S', LI h' x S' → py_V l mL_law Ex Q d (bc - 3) (bs - 6907) 1678 (LV b x i) [] h') : py_V l mL_law Ex Q d bc bs 1286 (LV b x i) [] h := by
  obtain ⟨fs, hx⟩ := I.1.obj
  refine py_aload_n (pc' := 1287) (x := x) 3 rfl (pz_dc dL_law_18 28 rfl) rfl ?_
  refine py_arg (pc := 1287) (pc' := 1293) (k := 1) 4 0 rfl rfl hE hi hL (by decide) (by decide) (pz_dc dL_law_18 29 rfl) (pz_dc dL_law_18 30 rfl) (pz_dc dL_law_18 31 rfl) (pz_dc dL_law_18 32 rfl) (pz_dc dL_law_18 33 rfl) rfl ?_
  refine py_callV (M := mL_law) (N := mX9_treaty) (d' := 202) (bc1 := 3) (bs1 := 6907) (bc2 := bc - 3) (bs2 := bs - 6907) (pc' := 1296) (st := []) [.int (xs (i + 1))] vL_173 rfl (pz_dc dL_law_18 34 rfl) rfl (Nat.le_of_ble_eq_true rfl) (Nat.le_of_ble_eq_true rfl) rfl (by omega) (by omega) (by omega) hx ?_
  refine C_treaty I.1 I.2.2.1 (by decide) (fun h1 I1 F1 => ?_)
  obtain ⟨h0, J⟩ := I.a I1 F1
  obtain ⟨fs2, hm⟩ := J.2.1.1.obj
  show py_V l mL_law Ex Q d (bc - 3) (bs - 6907) 1296 (LV b x i) [.int _] h1
  refine py_aload_n (pc' := 1297) (x := x + 132) 2 rfl (pz_dc dL_law_18 35 rfl) rfl ?_
  refine py_arg (pc := 1297) (pc' := 1303) (k := 1) 4 0 rfl rfl hE hi hL (by decide) (by decide) (pz_dc dL_law_18 36 rfl) (pz_dc dL_law_18 37 rfl) (pz_dc dL_law_18 38 rfl) (pz_dc dL_law_18 39 rfl) (pz_dc dL_law_19 0 rfl) rfl ?_
  refine py_callV (M := mL_law) (N := mX10_treaty) (d' := 202) (bc1 := 0) (bs1 := 0) (bc2 := bc - 3) (bs2 := bs - 6907) (pc' := 1306) (st := [.int _]) [.int (xs (i + 1))] vL_176 rfl (pz_dc dL_law_19 1 rfl) rfl (Nat.le_of_ble_eq_true rfl) (Nat.le_of_ble_eq_true rfl) rfl (by omega) (by omega) (by omega) hm ?_
  obtain ⟨lm, zz, W1⟩ := J.2.1.1.w
  refine M_treaty W1 J.2.2.1 (by decide) (fun h2 T2 lm2 zz2 W2 => ?_)
  have M2 := W2.inv
  show py_V l mL_law Ex Q d (bc - 3) (bs - 6907) 1306 (LV b x i) [.int _, .int _] h2
  exact py_icmp_eq (pc' := 1309) (tgt := 1678) rfl (pz_dc dL_law_19 2 rfl) (by decide) (fun _ => kk h2 _ (J.b M2 (I.2.2.1.q_treaty (xs (i + 1))))) (fun z => absurd rfl z)
theorem LC_36 (hE : ∀ {p e R s m args below meth c G B Z}, Ex p e R s m args below meth c G B Z → py_S b L xs s B) (I : LI h x S) (hi : i + 5 ≤ L) (hL : L ≤ 2560) (hd : 203 ≤ d) (hbc : 3 ≤ bc) (hbs : 6907 ≤ bs) (kk : ∀ h' S', LI h' x S' → py_V l mL_law Ex Q d (bc - 3) (bs - 6907) 1678 (LV b x i) [] h') : py_V l mL_law Ex Q d bc bs 1311 (LV b x i) [] h := by
  obtain ⟨fs, hx⟩ := I.1.obj
  refine py_aload_n (pc' := 1312) (x := x) 3 rfl (pz_dc dL_law_19 5 rfl) rfl ?_
  refine py_arg (pc := 1312) (pc' := 1318) (k := 1) 4 0 rfl rfl hE hi hL (by decide) (by decide) (pz_dc dL_law_19 6 rfl) (pz_dc dL_law_19 7 rfl) (pz_dc dL_law_19 8 rfl) (pz_dc dL_law_19 9 rfl) (pz_dc dL_law_19 10 rfl) rfl ?_
  refine py_callV (M := mL_law) (N := mX9_wants) (d' := 202) (bc1 := 3) (bs1 := 6907) (bc2 := bc - 3) (bs2 := bs - 6907) (pc' := 1321) (st := []) [.int (xs (i + 1))] vL_177 rfl (pz_dc dL_law_19 11 rfl) rfl (Nat.le_of_ble_eq_true rfl) (Nat.le_of_ble_eq_true rfl) rfl (by omega) (by omega) (by omega) hx ?_
  refine C_wants I.1 I.2.2.1 (by decide) (fun h1 I1 F1 => ?_)
  obtain ⟨h0, J⟩ := I.a I1 F1
  obtain ⟨fs2, hm⟩ := J.2.1.1.obj
  show py_V l mL_law Ex Q d (bc - 3) (bs - 6907) 1321 (LV b x i) [.int _] h1
  refine py_aload_n (pc' := 1322) (x := x + 132) 2 rfl (pz_dc dL_law_19 12 rfl) rfl ?_
  refine py_arg (pc := 1322) (pc' := 1328) (k := 1) 4 0 rfl rfl hE hi hL (by decide) (by decide) (pz_dc dL_law_19 13 rfl) (pz_dc dL_law_19 14 rfl) (pz_dc dL_law_19 15 rfl) (pz_dc dL_law_19 16 rfl) (pz_dc dL_law_19 17 rfl) rfl ?_
  refine py_callV (M := mL_law) (N := mX10_wants) (d' := 202) (bc1 := 0) (bs1 := 0) (bc2 := bc - 3) (bs2 := bs - 6907) (pc' := 1331) (st := [.int _]) [.int (xs (i + 1))] vL_180 rfl (pz_dc dL_law_19 18 rfl) rfl (Nat.le_of_ble_eq_true rfl) (Nat.le_of_ble_eq_true rfl) rfl (by omega) (by omega) (by omega) hm ?_
  obtain ⟨lm, zz, W1⟩ := J.2.1.1.w
  refine M_wants W1 J.2.2.1 (by decide) (fun h2 T2 lm2 zz2 W2 => ?_)
  have M2 := W2.inv
  show py_V l mL_law Ex Q d (bc - 3) (bs - 6907) 1331 (LV b x i) [.int _, .int _] h2
  exact py_icmp_eq (pc' := 1334) (tgt := 1678) rfl (pz_dc dL_law_19 19 rfl) (by decide) (fun _ => kk h2 _ (J.b M2 (I.2.2.1.q_wants (xs (i + 1))))) (fun z => absurd rfl z)
theorem LC_37 (hE : ∀ {p e R s m args below meth c G B Z}, Ex p e R s m args below meth c G B Z → py_S b L xs s B) (I : LI h x S) (hi : i + 5 ≤ L) (hL : L ≤ 2560) (hd : 203 ≤ d) (hbc : 3 ≤ bc) (hbs : 6907 ≤ bs) (kk : ∀ h' S', LI h' x S' → py_V l mL_law Ex Q d (bc - 3) (bs - 6907) 1678 (LV b x i) [] h') : py_V l mL_law Ex Q d bc bs 1336 (LV b x i) [] h := by
  obtain ⟨fs, hx⟩ := I.1.obj
  refine py_aload_n (pc' := 1337) (x := x) 3 rfl (pz_dc dL_law_19 22 rfl) rfl ?_
  refine py_callV (M := mL_law) (N := mX9_evens) (d' := 202) (bc1 := 3) (bs1 := 6907) (bc2 := bc - 3) (bs2 := bs - 6907) (pc' := 1340) (st := []) [] vL_181 rfl (pz_dc dL_law_19 23 rfl) rfl (Nat.le_of_ble_eq_true rfl) (Nat.le_of_ble_eq_true rfl) rfl (by omega) (by omega) (by omega) hx ?_
  refine C_evens I.1 I.2.2.1 (by decide) (fun h1 I1 F1 => ?_)
  obtain ⟨h0, J⟩ := I.a I1 F1
  obtain ⟨fs2, hm⟩ := J.2.1.1.obj
  show py_V l mL_law Ex Q d (bc - 3) (bs - 6907) 1340 (LV b x i) [.int _] h1
  refine py_aload_n (pc' := 1341) (x := x + 132) 2 rfl (pz_dc dL_law_19 24 rfl) rfl ?_
  refine py_callV (M := mL_law) (N := mX10_evens) (d' := 202) (bc1 := 0) (bs1 := 0) (bc2 := bc - 3) (bs2 := bs - 6907) (pc' := 1344) (st := [.int _]) [] vL_184 rfl (pz_dc dL_law_19 25 rfl) rfl (Nat.le_of_ble_eq_true rfl) (Nat.le_of_ble_eq_true rfl) rfl (by omega) (by omega) (by omega) hm ?_
  obtain ⟨lm, zz, W1⟩ := J.2.1.1.w
  refine M_evens W1 J.2.2.1 (by decide) (fun h2 T2 lm2 zz2 W2 => ?_)
  have M2 := W2.inv
  show py_V l mL_law Ex Q d (bc - 3) (bs - 6907) 1344 (LV b x i) [.int _, .int _] h2
  exact py_icmp_eq (pc' := 1347) (tgt := 1678) rfl (pz_dc dL_law_19 26 rfl) (by decide) (fun _ => kk h2 _ (J.b M2 I.2.2.1.q_evens)) (fun z => absurd rfl z)
theorem LC_38 (hE : ∀ {p e R s m args below meth c G B Z}, Ex p e R s m args below meth c G B Z → py_S b L xs s B) (I : LI h x S) (hi : i + 5 ≤ L) (hL : L ≤ 2560) (hd : 203 ≤ d) (hbc : 3 ≤ bc) (hbs : 6907 ≤ bs) (kk : ∀ h' S', LI h' x S' → py_V l mL_law Ex Q d (bc - 3) (bs - 6907) 1678 (LV b x i) [] h') : py_V l mL_law Ex Q d bc bs 1349 (LV b x i) [] h := by
  obtain ⟨fs, hx⟩ := I.1.obj
  refine py_aload_n (pc' := 1350) (x := x) 3 rfl (pz_dc dL_law_19 29 rfl) rfl ?_
  refine py_callV (M := mL_law) (N := mX9_feared) (d' := 202) (bc1 := 3) (bs1 := 6907) (bc2 := bc - 3) (bs2 := bs - 6907) (pc' := 1353) (st := []) [] vL_185 rfl (pz_dc dL_law_19 30 rfl) rfl (Nat.le_of_ble_eq_true rfl) (Nat.le_of_ble_eq_true rfl) rfl (by omega) (by omega) (by omega) hx ?_
  refine C_feared I.1 I.2.2.1 (by decide) (fun h1 I1 F1 => ?_)
  obtain ⟨h0, J⟩ := I.a I1 F1
  obtain ⟨fs2, hm⟩ := J.2.1.1.obj
  show py_V l mL_law Ex Q d (bc - 3) (bs - 6907) 1353 (LV b x i) [.int _] h1
  refine py_aload_n (pc' := 1354) (x := x + 132) 2 rfl (pz_dc dL_law_19 31 rfl) rfl ?_
  refine py_callV (M := mL_law) (N := mX10_feared) (d' := 202) (bc1 := 0) (bs1 := 0) (bc2 := bc - 3) (bs2 := bs - 6907) (pc' := 1357) (st := [.int _]) [] vL_188 rfl (pz_dc dL_law_19 32 rfl) rfl (Nat.le_of_ble_eq_true rfl) (Nat.le_of_ble_eq_true rfl) rfl (by omega) (by omega) (by omega) hm ?_
  obtain ⟨lm, zz, W1⟩ := J.2.1.1.w
  refine M_feared W1 J.2.2.1 (by decide) (fun h2 T2 lm2 zz2 W2 => ?_)
  have M2 := W2.inv
  show py_V l mL_law Ex Q d (bc - 3) (bs - 6907) 1357 (LV b x i) [.int _, .int _] h2
  exact py_icmp_eq (pc' := 1360) (tgt := 1678) rfl (pz_dc dL_law_19 33 rfl) (by decide) (fun _ => kk h2 _ (J.b M2 I.2.2.1.q_feared)) (fun z => absurd rfl z)
theorem LC_39 (hE : ∀ {p e R s m args below meth c G B Z}, Ex p e R s m args below meth c G B Z → py_S b L xs s B) (I : LI h x S) (hi : i + 5 ≤ L) (hL : L ≤ 2560) (hd : 203 ≤ d) (hbc : 3 ≤ bc) (hbs : 6907 ≤ bs) (kk : ∀ h' S', LI h' x S' → py_V l mL_law Ex Q d (bc - 3) (bs - 6907) 1678 (LV b x i) [] h') : py_V l mL_law Ex Q d bc bs 1362 (LV b x i) [] h := by
  obtain ⟨fs, hx⟩ := I.1.obj
  refine py_aload_n (pc' := 1363) (x := x) 3 rfl (pz_dc dL_law_19 36 rfl) rfl ?_
  refine py_callV (M := mL_law) (N := mX9_heirs) (d' := 202) (bc1 := 3) (bs1 := 6907) (bc2 := bc - 3) (bs2 := bs - 6907) (pc' := 1366) (st := []) [] vL_189 rfl (pz_dc dL_law_19 37 rfl) rfl (Nat.le_of_ble_eq_true rfl) (Nat.le_of_ble_eq_true rfl) rfl (by omega) (by omega) (by omega) hx ?_
  refine C_heirs I.1 I.2.2.1 (by decide) (fun h1 I1 F1 => ?_)
  obtain ⟨h0, J⟩ := I.a I1 F1
  obtain ⟨fs2, hm⟩ := J.2.1.1.obj
  show py_V l mL_law Ex Q d (bc - 3) (bs - 6907) 1366 (LV b x i) [.int _] h1
  refine py_aload_n (pc' := 1367) (x := x + 132) 2 rfl (pz_dc dL_law_19 38 rfl) rfl ?_
  refine py_callV (M := mL_law) (N := mX10_heirs) (d' := 202) (bc1 := 0) (bs1 := 0) (bc2 := bc - 3) (bs2 := bs - 6907) (pc' := 1370) (st := [.int _]) [] vL_192 rfl (pz_dc dL_law_19 39 rfl) rfl (Nat.le_of_ble_eq_true rfl) (Nat.le_of_ble_eq_true rfl) rfl (by omega) (by omega) (by omega) hm ?_
  refine M_heirs J.2.1.1 J.2.2.1 (by decide) (fun h2 M2 => ?_)
  show py_V l mL_law Ex Q d (bc - 3) (bs - 6907) 1370 (LV b x i) [.int _, .int _] h2
  exact py_icmp_eq (pc' := 1373) (tgt := 1678) rfl (pz_dc dL_law_20 0 rfl) (by decide) (fun _ => kk h2 _ (J.b M2 I.2.2.1.heirs)) (fun z => absurd rfl z)
theorem LC_40 (hE : ∀ {p e R s m args below meth c G B Z}, Ex p e R s m args below meth c G B Z → py_S b L xs s B) (I : LI h x S) (hi : i + 5 ≤ L) (hL : L ≤ 2560) (hd : 203 ≤ d) (hbc : 3 ≤ bc) (hbs : 6907 ≤ bs) (kk : ∀ h' S', LI h' x S' → py_V l mL_law Ex Q d (bc - 3) (bs - 6907) 1678 (LV b x i) [] h') : py_V l mL_law Ex Q d bc bs 1375 (LV b x i) [] h := by
  obtain ⟨fs, hx⟩ := I.1.obj
  refine py_aload_n (pc' := 1376) (x := x) 3 rfl (pz_dc dL_law_20 3 rfl) rfl ?_
  refine py_arg (pc := 1376) (pc' := 1382) (k := 1) 4 0 rfl rfl hE hi hL (by decide) (by decide) (pz_dc dL_law_20 4 rfl) (pz_dc dL_law_20 5 rfl) (pz_dc dL_law_20 6 rfl) (pz_dc dL_law_20 7 rfl) (pz_dc dL_law_20 8 rfl) rfl ?_
  refine py_arg (pc := 1382) (pc' := 1388) (k := 2) 4 0 rfl rfl hE hi hL (by decide) (by decide) (pz_dc dL_law_20 9 rfl) (pz_dc dL_law_20 10 rfl) (pz_dc dL_law_20 11 rfl) (pz_dc dL_law_20 12 rfl) (pz_dc dL_law_20 13 rfl) rfl ?_
  refine py_arg (pc := 1388) (pc' := 1394) (k := 3) 4 0 rfl rfl hE hi hL (by decide) (by decide) (pz_dc dL_law_20 14 rfl) (pz_dc dL_law_20 15 rfl) (pz_dc dL_law_20 16 rfl) (pz_dc dL_law_20 17 rfl) (pz_dc dL_law_20 18 rfl) rfl ?_
  refine py_callV (M := mL_law) (N := mX9_duck) (d' := 202) (bc1 := 3) (bs1 := 6907) (bc2 := bc - 3) (bs2 := bs - 6907) (pc' := 1397) (st := []) [.int (xs (i + 1)), .int (xs (i + 2)), .int (xs (i + 3))] vL_193 rfl (pz_dc dL_law_20 19 rfl) rfl (Nat.le_of_ble_eq_true rfl) (Nat.le_of_ble_eq_true rfl) rfl (by omega) (by omega) (by omega) hx ?_
  refine C_duck I.1 I.2.2.1 (by decide) (fun h1 I1 F1 => ?_)
  obtain ⟨h0, J⟩ := I.a I1 F1
  obtain ⟨fs2, hm⟩ := J.2.1.1.obj
  show py_V l mL_law Ex Q d (bc - 3) (bs - 6907) 1397 (LV b x i) [.int _] h1
  refine py_aload_n (pc' := 1398) (x := x + 132) 2 rfl (pz_dc dL_law_20 20 rfl) rfl ?_
  refine py_arg (pc := 1398) (pc' := 1404) (k := 1) 4 0 rfl rfl hE hi hL (by decide) (by decide) (pz_dc dL_law_20 21 rfl) (pz_dc dL_law_20 22 rfl) (pz_dc dL_law_20 23 rfl) (pz_dc dL_law_20 24 rfl) (pz_dc dL_law_20 25 rfl) rfl ?_
  refine py_arg (pc := 1404) (pc' := 1410) (k := 2) 4 0 rfl rfl hE hi hL (by decide) (by decide) (pz_dc dL_law_20 26 rfl) (pz_dc dL_law_20 27 rfl) (pz_dc dL_law_20 28 rfl) (pz_dc dL_law_20 29 rfl) (pz_dc dL_law_20 30 rfl) rfl ?_
  refine py_arg (pc := 1410) (pc' := 1416) (k := 3) 4 0 rfl rfl hE hi hL (by decide) (by decide) (pz_dc dL_law_20 31 rfl) (pz_dc dL_law_20 32 rfl) (pz_dc dL_law_20 33 rfl) (pz_dc dL_law_20 34 rfl) (pz_dc dL_law_20 35 rfl) rfl ?_
  refine py_callV (M := mL_law) (N := mX10_duck) (d' := 202) (bc1 := 0) (bs1 := 0) (bc2 := bc - 3) (bs2 := bs - 6907) (pc' := 1419) (st := [.int _]) [.int (xs (i + 1)), .int (xs (i + 2)), .int (xs (i + 3))] vL_196 rfl (pz_dc dL_law_20 36 rfl) rfl (Nat.le_of_ble_eq_true rfl) (Nat.le_of_ble_eq_true rfl) rfl (by omega) (by omega) (by omega) hm ?_
  obtain ⟨lm, zz, W1⟩ := J.2.1.1.w
  refine M_duck W1 J.2.2.1 (by decide) (fun h2 T2 lm2 zz2 W2 => ?_)
  have M2 := W2.inv
  show py_V l mL_law Ex Q d (bc - 3) (bs - 6907) 1419 (LV b x i) [.int _, .int _] h2
  exact py_icmp_eq (pc' := 1422) (tgt := 1678) rfl (pz_dc dL_law_20 37 rfl) (by decide) (fun _ => kk h2 _ (J.b M2 (I.2.2.1.q_duck (xs (i + 1)) (xs (i + 2)) (xs (i + 3))))) (fun z => absurd rfl z)
theorem LC_41 (hE : ∀ {p e R s m args below meth c G B Z}, Ex p e R s m args below meth c G B Z → py_S b L xs s B) (I : LI h x S) (hi : i + 5 ≤ L) (hL : L ≤ 2560) (hd : 203 ≤ d) (hbc : 3 ≤ bc) (hbs : 6907 ≤ bs) (kk : ∀ h' S', LI h' x S' → py_V l mL_law Ex Q d (bc - 3) (bs - 6907) 1678 (LV b x i) [] h') : py_V l mL_law Ex Q d bc bs 1424 (LV b x i) [] h := by
  obtain ⟨fs, hx⟩ := I.1.obj
  refine py_aload_n (pc' := 1425) (x := x) 3 rfl (pz_dc dL_law_21 0 rfl) rfl ?_
  refine py_arg (pc := 1425) (pc' := 1431) (k := 1) 4 0 rfl rfl hE hi hL (by decide) (by decide) (pz_dc dL_law_21 1 rfl) (pz_dc dL_law_21 2 rfl) (pz_dc dL_law_21 3 rfl) (pz_dc dL_law_21 4 rfl) (pz_dc dL_law_21 5 rfl) rfl ?_
  refine py_arg (pc := 1431) (pc' := 1437) (k := 2) 4 0 rfl rfl hE hi hL (by decide) (by decide) (pz_dc dL_law_21 6 rfl) (pz_dc dL_law_21 7 rfl) (pz_dc dL_law_21 8 rfl) (pz_dc dL_law_21 9 rfl) (pz_dc dL_law_21 10 rfl) rfl ?_
  refine py_arg (pc := 1437) (pc' := 1443) (k := 3) 4 0 rfl rfl hE hi hL (by decide) (by decide) (pz_dc dL_law_21 11 rfl) (pz_dc dL_law_21 12 rfl) (pz_dc dL_law_21 13 rfl) (pz_dc dL_law_21 14 rfl) (pz_dc dL_law_21 15 rfl) rfl ?_
  refine py_callV (M := mL_law) (N := mX9_spoon) (d' := 202) (bc1 := 3) (bs1 := 6907) (bc2 := bc - 3) (bs2 := bs - 6907) (pc' := 1446) (st := []) [.int (xs (i + 1)), .int (xs (i + 2)), .int (xs (i + 3))] vL_197 rfl (pz_dc dL_law_21 16 rfl) rfl (Nat.le_of_ble_eq_true rfl) (Nat.le_of_ble_eq_true rfl) rfl (by omega) (by omega) (by omega) hx ?_
  refine C_spoon I.1 I.2.2.1 (by decide) (fun h1 I1 F1 => ?_)
  obtain ⟨h0, J⟩ := I.a I1 F1
  obtain ⟨fs2, hm⟩ := J.2.1.1.obj
  show py_V l mL_law Ex Q d (bc - 3) (bs - 6907) 1446 (LV b x i) [.int _] h1
  refine py_aload_n (pc' := 1447) (x := x + 132) 2 rfl (pz_dc dL_law_21 17 rfl) rfl ?_
  refine py_arg (pc := 1447) (pc' := 1453) (k := 1) 4 0 rfl rfl hE hi hL (by decide) (by decide) (pz_dc dL_law_21 18 rfl) (pz_dc dL_law_21 19 rfl) (pz_dc dL_law_21 20 rfl) (pz_dc dL_law_21 21 rfl) (pz_dc dL_law_21 22 rfl) rfl ?_
  refine py_arg (pc := 1453) (pc' := 1459) (k := 2) 4 0 rfl rfl hE hi hL (by decide) (by decide) (pz_dc dL_law_21 23 rfl) (pz_dc dL_law_21 24 rfl) (pz_dc dL_law_21 25 rfl) (pz_dc dL_law_21 26 rfl) (pz_dc dL_law_21 27 rfl) rfl ?_
  refine py_arg (pc := 1459) (pc' := 1465) (k := 3) 4 0 rfl rfl hE hi hL (by decide) (by decide) (pz_dc dL_law_21 28 rfl) (pz_dc dL_law_21 29 rfl) (pz_dc dL_law_21 30 rfl) (pz_dc dL_law_21 31 rfl) (pz_dc dL_law_21 32 rfl) rfl ?_
  refine py_callV (M := mL_law) (N := mX10_spoon) (d' := 202) (bc1 := 0) (bs1 := 0) (bc2 := bc - 3) (bs2 := bs - 6907) (pc' := 1468) (st := [.int _]) [.int (xs (i + 1)), .int (xs (i + 2)), .int (xs (i + 3))] vL_200 rfl (pz_dc dL_law_21 33 rfl) rfl (Nat.le_of_ble_eq_true rfl) (Nat.le_of_ble_eq_true rfl) rfl (by omega) (by omega) (by omega) hm ?_
  obtain ⟨lm, zz, W1⟩ := J.2.1.1.w
  refine M_spoon W1 J.2.2.1 (by decide) (fun h2 T2 lm2 zz2 W2 => ?_)
  have M2 := W2.inv
  show py_V l mL_law Ex Q d (bc - 3) (bs - 6907) 1468 (LV b x i) [.int _, .int _] h2
  exact py_icmp_eq (pc' := 1471) (tgt := 1678) rfl (pz_dc dL_law_21 34 rfl) (by decide) (fun _ => kk h2 _ (J.b M2 (I.2.2.1.q_spoon (xs (i + 1)) (xs (i + 2)) (xs (i + 3))))) (fun z => absurd rfl z)
theorem LC_42 (hE : ∀ {p e R s m args below meth c G B Z}, Ex p e R s m args below meth c G B Z → py_S b L xs s B) (I : LI h x S) (hi : i + 5 ≤ L) (hL : L ≤ 2560) (hd : 203 ≤ d) (hbc : 3 ≤ bc) (hbs : 6907 ≤ bs) (kk : ∀ h' S', LI h' x S' → py_V l mL_law Ex Q d (bc - 3) (bs - 6907) 1678 (LV b x i) [] h') : py_V l mL_law Ex Q d bc bs 1473 (LV b x i) [] h := by
  obtain ⟨fs, hx⟩ := I.1.obj
  refine py_aload_n (pc' := 1474) (x := x) 3 rfl (pz_dc dL_law_21 37 rfl) rfl ?_
  refine py_arg (pc := 1474) (pc' := 1480) (k := 1) 4 0 rfl rfl hE hi hL (by decide) (by decide) (pz_dc dL_law_21 38 rfl) (pz_dc dL_law_21 39 rfl) (pz_dc dL_law_22 0 rfl) (pz_dc dL_law_22 1 rfl) (pz_dc dL_law_22 2 rfl) rfl ?_
  refine py_callV (M := mL_law) (N := mX9_rests) (d' := 202) (bc1 := 3) (bs1 := 6907) (bc2 := bc - 3) (bs2 := bs - 6907) (pc' := 1483) (st := []) [.int (xs (i + 1))] vL_201 rfl (pz_dc dL_law_22 3 rfl) rfl (Nat.le_of_ble_eq_true rfl) (Nat.le_of_ble_eq_true rfl) rfl (by omega) (by omega) (by omega) hx ?_
  refine C_rests I.1 I.2.2.1 (by decide) (fun h1 I1 F1 => ?_)
  obtain ⟨h0, J⟩ := I.a I1 F1
  obtain ⟨fs2, hm⟩ := J.2.1.1.obj
  show py_V l mL_law Ex Q d (bc - 3) (bs - 6907) 1483 (LV b x i) [.int _] h1
  refine py_aload_n (pc' := 1484) (x := x + 132) 2 rfl (pz_dc dL_law_22 4 rfl) rfl ?_
  refine py_arg (pc := 1484) (pc' := 1490) (k := 1) 4 0 rfl rfl hE hi hL (by decide) (by decide) (pz_dc dL_law_22 5 rfl) (pz_dc dL_law_22 6 rfl) (pz_dc dL_law_22 7 rfl) (pz_dc dL_law_22 8 rfl) (pz_dc dL_law_22 9 rfl) rfl ?_
  refine py_callV (M := mL_law) (N := mX10_rests) (d' := 202) (bc1 := 0) (bs1 := 0) (bc2 := bc - 3) (bs2 := bs - 6907) (pc' := 1493) (st := [.int _]) [.int (xs (i + 1))] vL_204 rfl (pz_dc dL_law_22 10 rfl) rfl (Nat.le_of_ble_eq_true rfl) (Nat.le_of_ble_eq_true rfl) rfl (by omega) (by omega) (by omega) hm ?_
  obtain ⟨lm, zz, W1⟩ := J.2.1.1.w
  refine M_rests W1 J.2.2.1 (by decide) (fun h2 T2 lm2 zz2 W2 => ?_)
  have M2 := W2.inv
  show py_V l mL_law Ex Q d (bc - 3) (bs - 6907) 1493 (LV b x i) [.int _, .int _] h2
  exact py_icmp_eq (pc' := 1496) (tgt := 1678) rfl (pz_dc dL_law_22 11 rfl) (by decide) (fun _ => kk h2 _ (J.b M2 (I.2.2.1.q_rests (xs (i + 1))))) (fun z => absurd rfl z)
theorem LC_43 (hE : ∀ {p e R s m args below meth c G B Z}, Ex p e R s m args below meth c G B Z → py_S b L xs s B) (I : LI h x S) (hi : i + 5 ≤ L) (hL : L ≤ 2560) (hd : 203 ≤ d) (hbc : 3 ≤ bc) (hbs : 6907 ≤ bs) (kk : ∀ h' S', LI h' x S' → py_V l mL_law Ex Q d (bc - 3) (bs - 6907) 1678 (LV b x i) [] h') : py_V l mL_law Ex Q d bc bs 1498 (LV b x i) [] h := by
  obtain ⟨fs, hx⟩ := I.1.obj
  refine py_aload_n (pc' := 1499) (x := x) 3 rfl (pz_dc dL_law_22 14 rfl) rfl ?_
  refine py_callV (M := mL_law) (N := mX9_law) (d' := 202) (bc1 := 3) (bs1 := 6907) (bc2 := bc - 3) (bs2 := bs - 6907) (pc' := 1502) (st := []) [] vL_205 rfl (pz_dc dL_law_22 15 rfl) rfl (Nat.le_of_ble_eq_true rfl) (Nat.le_of_ble_eq_true rfl) rfl (by omega) (by omega) (by omega) hx ?_
  refine C_law I.1 I.2.2.1 (by decide) (fun h1 I1 F1 => ?_)
  obtain ⟨h0, J⟩ := I.a I1 F1
  obtain ⟨fs2, hm⟩ := J.2.1.1.obj
  show py_V l mL_law Ex Q d (bc - 3) (bs - 6907) 1502 (LV b x i) [.int _] h1
  refine py_aload_n (pc' := 1503) (x := x + 132) 2 rfl (pz_dc dL_law_22 16 rfl) rfl ?_
  refine py_callV (M := mL_law) (N := mX10_law) (d' := 202) (bc1 := 0) (bs1 := 0) (bc2 := bc - 3) (bs2 := bs - 6907) (pc' := 1506) (st := [.int _]) [] vL_208 rfl (pz_dc dL_law_22 17 rfl) rfl (Nat.le_of_ble_eq_true rfl) (Nat.le_of_ble_eq_true rfl) rfl (by omega) (by omega) (by omega) hm ?_
  refine M_law J.2.1.1 J.2.2.1 J.2.1.2 (by decide) (fun h2 M2 => ?_)
  show py_V l mL_law Ex Q d (bc - 3) (bs - 6907) 1506 (LV b x i) [.int _, .int _] h2
  exact py_icmp_eq (pc' := 1509) (tgt := 1678) rfl (pz_dc dL_law_22 18 rfl) (by decide) (fun _ => kk h2 _ (J.b M2 I.2.2.1.law)) (fun z => absurd rfl z)
theorem LC_44 (hE : ∀ {p e R s m args below meth c G B Z}, Ex p e R s m args below meth c G B Z → py_S b L xs s B) (I : LI h x S) (hi : i + 5 ≤ L) (hL : L ≤ 2560) (hd : 203 ≤ d) (hbc : 3 ≤ bc) (hbs : 6907 ≤ bs) (kk : ∀ h' S', LI h' x S' → py_V l mL_law Ex Q d (bc - 3) (bs - 6907) 1678 (LV b x i) [] h') : py_V l mL_law Ex Q d bc bs 1511 (LV b x i) [] h := by
  obtain ⟨fs, hx⟩ := I.1.obj
  refine py_aload_n (pc' := 1512) (x := x) 3 rfl (pz_dc dL_law_22 21 rfl) rfl ?_
  refine py_arg (pc := 1512) (pc' := 1518) (k := 1) 4 0 rfl rfl hE hi hL (by decide) (by decide) (pz_dc dL_law_22 22 rfl) (pz_dc dL_law_22 23 rfl) (pz_dc dL_law_22 24 rfl) (pz_dc dL_law_22 25 rfl) (pz_dc dL_law_22 26 rfl) rfl ?_
  refine py_arg (pc := 1518) (pc' := 1524) (k := 2) 4 0 rfl rfl hE hi hL (by decide) (by decide) (pz_dc dL_law_22 27 rfl) (pz_dc dL_law_22 28 rfl) (pz_dc dL_law_22 29 rfl) (pz_dc dL_law_22 30 rfl) (pz_dc dL_law_22 31 rfl) rfl ?_
  refine py_callV (M := mL_law) (N := mX9_years) (d' := 202) (bc1 := 3) (bs1 := 6907) (bc2 := bc - 3) (bs2 := bs - 6907) (pc' := 1527) (st := []) [.int (xs (i + 1)), .int (xs (i + 2))] vL_209 rfl (pz_dc dL_law_22 32 rfl) rfl (Nat.le_of_ble_eq_true rfl) (Nat.le_of_ble_eq_true rfl) rfl (by omega) (by omega) (by omega) hx ?_
  refine C_years I.1 I.2.2.1 (by decide) (fun h1 I1 F1 => ?_)
  obtain ⟨h0, J⟩ := I.a I1 F1
  obtain ⟨fs2, hm⟩ := J.2.1.1.obj
  show py_V l mL_law Ex Q d (bc - 3) (bs - 6907) 1527 (LV b x i) [.int _] h1
  refine py_aload_n (pc' := 1528) (x := x + 132) 2 rfl (pz_dc dL_law_22 33 rfl) rfl ?_
  refine py_arg (pc := 1528) (pc' := 1534) (k := 1) 4 0 rfl rfl hE hi hL (by decide) (by decide) (pz_dc dL_law_22 34 rfl) (pz_dc dL_law_22 35 rfl) (pz_dc dL_law_22 36 rfl) (pz_dc dL_law_22 37 rfl) (pz_dc dL_law_22 38 rfl) rfl ?_
  refine py_arg (pc := 1534) (pc' := 1540) (k := 2) 4 0 rfl rfl hE hi hL (by decide) (by decide) (pz_dc dL_law_22 39 rfl) (pz_dc dL_law_23 0 rfl) (pz_dc dL_law_23 1 rfl) (pz_dc dL_law_23 2 rfl) (pz_dc dL_law_23 3 rfl) rfl ?_
  refine py_callV (M := mL_law) (N := mX10_years) (d' := 202) (bc1 := 0) (bs1 := 0) (bc2 := bc - 3) (bs2 := bs - 6907) (pc' := 1543) (st := [.int _]) [.int (xs (i + 1)), .int (xs (i + 2))] vL_212 rfl (pz_dc dL_law_23 4 rfl) rfl (Nat.le_of_ble_eq_true rfl) (Nat.le_of_ble_eq_true rfl) rfl (by omega) (by omega) (by omega) hm ?_
  obtain ⟨lm, zz, W1⟩ := J.2.1.1.w
  refine M_years W1 J.2.2.1 (by decide) (fun h2 T2 lm2 zz2 W2 => ?_)
  have M2 := W2.inv
  show py_V l mL_law Ex Q d (bc - 3) (bs - 6907) 1543 (LV b x i) [.int _, .int _] h2
  exact py_icmp_eq (pc' := 1546) (tgt := 1678) rfl (pz_dc dL_law_23 5 rfl) (by decide) (fun _ => kk h2 _ (J.b M2 (I.2.2.1.q_years (xs (i + 1)) (xs (i + 2))))) (fun z => absurd rfl z)
theorem LC_45 (hE : ∀ {p e R s m args below meth c G B Z}, Ex p e R s m args below meth c G B Z → py_S b L xs s B) (I : LI h x S) (hi : i + 5 ≤ L) (hL : L ≤ 2560) (hd : 203 ≤ d) (hbc : 3 ≤ bc) (hbs : 6907 ≤ bs) (kk : ∀ h' S', LI h' x S' → py_V l mL_law Ex Q d (bc - 3) (bs - 6907) 1678 (LV b x i) [] h') : py_V l mL_law Ex Q d bc bs 1548 (LV b x i) [] h := by
  obtain ⟨fs, hx⟩ := I.1.obj
  refine py_aload_n (pc' := 1549) (x := x) 3 rfl (pz_dc dL_law_23 8 rfl) rfl ?_
  refine py_arg (pc := 1549) (pc' := 1555) (k := 1) 4 0 rfl rfl hE hi hL (by decide) (by decide) (pz_dc dL_law_23 9 rfl) (pz_dc dL_law_23 10 rfl) (pz_dc dL_law_23 11 rfl) (pz_dc dL_law_23 12 rfl) (pz_dc dL_law_23 13 rfl) rfl ?_
  refine py_callV (M := mL_law) (N := mX9_keep) (d' := 202) (bc1 := 3) (bs1 := 6907) (bc2 := bc - 3) (bs2 := bs - 6907) (pc' := 1558) (st := []) [.int (xs (i + 1))] vL_213 rfl (pz_dc dL_law_23 14 rfl) rfl (Nat.le_of_ble_eq_true rfl) (Nat.le_of_ble_eq_true rfl) rfl (by omega) (by omega) (by omega) hx ?_
  refine C_keep I.1 I.2.2.1 (by decide) (fun h1 I1 F1 => ?_)
  obtain ⟨h0, J⟩ := I.a I1 F1
  obtain ⟨fs2, hm⟩ := J.2.1.1.obj
  show py_V l mL_law Ex Q d (bc - 3) (bs - 6907) 1558 (LV b x i) [.int _] h1
  refine py_aload_n (pc' := 1559) (x := x + 132) 2 rfl (pz_dc dL_law_23 15 rfl) rfl ?_
  refine py_arg (pc := 1559) (pc' := 1565) (k := 1) 4 0 rfl rfl hE hi hL (by decide) (by decide) (pz_dc dL_law_23 16 rfl) (pz_dc dL_law_23 17 rfl) (pz_dc dL_law_23 18 rfl) (pz_dc dL_law_23 19 rfl) (pz_dc dL_law_23 20 rfl) rfl ?_
  refine py_callV (M := mL_law) (N := mX10_keep) (d' := 202) (bc1 := 0) (bs1 := 0) (bc2 := bc - 3) (bs2 := bs - 6907) (pc' := 1568) (st := [.int _]) [.int (xs (i + 1))] vL_216 rfl (pz_dc dL_law_23 21 rfl) rfl (Nat.le_of_ble_eq_true rfl) (Nat.le_of_ble_eq_true rfl) rfl (by omega) (by omega) (by omega) hm ?_
  refine M_keep J.2.1.1 J.2.2.1 (by decide) (fun h2 M2 => ?_)
  show py_V l mL_law Ex Q d (bc - 3) (bs - 6907) 1568 (LV b x i) [.int _, .int _] h2
  exact py_icmp_eq (pc' := 1571) (tgt := 1678) rfl (pz_dc dL_law_23 22 rfl) (by decide) (fun _ => kk h2 _ (J.b M2 (I.2.2.1.keep (xs (i + 1))))) (fun z => absurd rfl z)
theorem LC_46 (hE : ∀ {p e R s m args below meth c G B Z}, Ex p e R s m args below meth c G B Z → py_S b L xs s B) (I : LI h x S) (hi : i + 5 ≤ L) (hL : L ≤ 2560) (hd : 203 ≤ d) (hbc : 3 ≤ bc) (hbs : 6907 ≤ bs) (kk : ∀ h' S', LI h' x S' → py_V l mL_law Ex Q d (bc - 3) (bs - 6907) 1678 (LV b x i) [] h') : py_V l mL_law Ex Q d bc bs 1573 (LV b x i) [] h := by
  obtain ⟨fs, hx⟩ := I.1.obj
  refine py_aload_n (pc' := 1574) (x := x) 3 rfl (pz_dc dL_law_23 25 rfl) rfl ?_
  refine py_arg (pc := 1574) (pc' := 1580) (k := 1) 4 0 rfl rfl hE hi hL (by decide) (by decide) (pz_dc dL_law_23 26 rfl) (pz_dc dL_law_23 27 rfl) (pz_dc dL_law_23 28 rfl) (pz_dc dL_law_23 29 rfl) (pz_dc dL_law_23 30 rfl) rfl ?_
  refine py_callV (M := mL_law) (N := mX9_again) (d' := 202) (bc1 := 3) (bs1 := 6907) (bc2 := bc - 3) (bs2 := bs - 6907) (pc' := 1583) (st := []) [.int (xs (i + 1))] vL_217 rfl (pz_dc dL_law_23 31 rfl) rfl (Nat.le_of_ble_eq_true rfl) (Nat.le_of_ble_eq_true rfl) rfl (by omega) (by omega) (by omega) hx ?_
  refine C_again I.1 I.2.2.1 (by decide) (fun h1 I1 F1 => ?_)
  obtain ⟨h0, J⟩ := I.a I1 F1
  obtain ⟨fs2, hm⟩ := J.2.1.1.obj
  show py_V l mL_law Ex Q d (bc - 3) (bs - 6907) 1583 (LV b x i) [.int _] h1
  refine py_aload_n (pc' := 1584) (x := x + 132) 2 rfl (pz_dc dL_law_23 32 rfl) rfl ?_
  refine py_arg (pc := 1584) (pc' := 1590) (k := 1) 4 0 rfl rfl hE hi hL (by decide) (by decide) (pz_dc dL_law_23 33 rfl) (pz_dc dL_law_23 34 rfl) (pz_dc dL_law_23 35 rfl) (pz_dc dL_law_23 36 rfl) (pz_dc dL_law_23 37 rfl) rfl ?_
  refine py_callV (M := mL_law) (N := mX10_again) (d' := 202) (bc1 := 0) (bs1 := 0) (bc2 := bc - 3) (bs2 := bs - 6907) (pc' := 1593) (st := [.int _]) [.int (xs (i + 1))] vL_220 rfl (pz_dc dL_law_23 38 rfl) rfl (Nat.le_of_ble_eq_true rfl) (Nat.le_of_ble_eq_true rfl) rfl (by omega) (by omega) (by omega) hm ?_
  refine M_again J.2.1.1 J.2.2.1 (by decide) (fun h2 M2 => ?_)
  show py_V l mL_law Ex Q d (bc - 3) (bs - 6907) 1593 (LV b x i) [.int _, .int _] h2
  exact py_icmp_eq (pc' := 1596) (tgt := 1678) rfl (pz_dc dL_law_23 39 rfl) (by decide) (fun _ => kk h2 _ (J.b M2 (I.2.2.1.again (xs (i + 1))))) (fun z => absurd rfl z)
theorem LC_47 (hE : ∀ {p e R s m args below meth c G B Z}, Ex p e R s m args below meth c G B Z → py_S b L xs s B) (I : LI h x S) (hi : i + 5 ≤ L) (hL : L ≤ 2560) (hd : 203 ≤ d) (hbc : 3 ≤ bc) (hbs : 6907 ≤ bs) (kk : ∀ h' S', LI h' x S' → py_V l mL_law Ex Q d (bc - 3) (bs - 6907) 1678 (LV b x i) [] h') : py_V l mL_law Ex Q d bc bs 1598 (LV b x i) [] h := by
  obtain ⟨fs, hx⟩ := I.1.obj
  refine py_aload_n (pc' := 1599) (x := x) 3 rfl (pz_dc dL_law_24 2 rfl) rfl ?_
  refine py_arg (pc := 1599) (pc' := 1605) (k := 1) 4 0 rfl rfl hE hi hL (by decide) (by decide) (pz_dc dL_law_24 3 rfl) (pz_dc dL_law_24 4 rfl) (pz_dc dL_law_24 5 rfl) (pz_dc dL_law_24 6 rfl) (pz_dc dL_law_24 7 rfl) rfl ?_
  refine py_callV (M := mL_law) (N := mX9_count) (d' := 202) (bc1 := 3) (bs1 := 6907) (bc2 := bc - 3) (bs2 := bs - 6907) (pc' := 1608) (st := []) [.int (xs (i + 1))] vL_221 rfl (pz_dc dL_law_24 8 rfl) rfl (Nat.le_of_ble_eq_true rfl) (Nat.le_of_ble_eq_true rfl) rfl (by omega) (by omega) (by omega) hx ?_
  refine C_count I.1 I.2.2.1 (by decide) ?_
  obtain ⟨h0, J⟩ := I.a I.1 FC.rf
  obtain ⟨fs2, hm⟩ := J.2.1.1.obj
  show py_V l mL_law Ex Q d (bc - 3) (bs - 6907) 1608 (LV b x i) [.int _] h
  refine py_aload_n (pc' := 1609) (x := x + 132) 2 rfl (pz_dc dL_law_24 9 rfl) rfl ?_
  refine py_arg (pc := 1609) (pc' := 1615) (k := 1) 4 0 rfl rfl hE hi hL (by decide) (by decide) (pz_dc dL_law_24 10 rfl) (pz_dc dL_law_24 11 rfl) (pz_dc dL_law_24 12 rfl) (pz_dc dL_law_24 13 rfl) (pz_dc dL_law_24 14 rfl) rfl ?_
  refine py_callV (M := mL_law) (N := mX10_count) (d' := 202) (bc1 := 0) (bs1 := 0) (bc2 := bc - 3) (bs2 := bs - 6907) (pc' := 1618) (st := [.int _]) [.int (xs (i + 1))] vL_224 rfl (pz_dc dL_law_24 15 rfl) rfl (Nat.le_of_ble_eq_true rfl) (Nat.le_of_ble_eq_true rfl) rfl (by omega) (by omega) (by omega) hm ?_
  refine M_count J.2.1.1 J.2.2.1 (by decide) (fun h2 M2 => ?_)
  show py_V l mL_law Ex Q d (bc - 3) (bs - 6907) 1618 (LV b x i) [.int _, .int _] h2
  exact py_icmp_eq (pc' := 1621) (tgt := 1678) rfl (pz_dc dL_law_24 16 rfl) (by decide) (fun _ => kk h2 _ (J.b M2 I.2.2.1)) (fun z => absurd rfl z)
theorem LC_4 (hl : l.stackTraces = false) (hE2 : ∀ {p e R s m args below meth c G B Z}, Ex p e R s m args below meth c G B Z → py_st s s.heap B) (hE : ∀ {p e R s m args below meth c G B Z}, Ex p e R s m args below meth c G B Z → py_S b L xs s B) (I : LI h x S) (hi : i + 5 ≤ L) (hL : L ≤ 2560) (hd : 203 ≤ d) (hbc : 3 ≤ bc) (hbs : 6907 ≤ bs) (kk : ∀ h' S', LI h' x S' → py_V l mL_law Ex Q d (bc - 3) (bs - 6907) 1678 (LV b x i) [] h') : py_V l mL_law Ex Q d bc bs 324 (LV b x i) [] h := by
  refine py_aload_n (pc' := 325) (x := x) 3 rfl (pz_dc dL_law_1 33 rfl) rfl ?_
  refine py_arg (pc := 325) (pc' := 331) (k := 1) 4 0 rfl rfl hE hi hL (by decide) (by decide) (pz_dc dL_law_1 34 rfl) (pz_dc dL_law_1 35 rfl) (pz_dc dL_law_1 36 rfl) (pz_dc dL_law_1 37 rfl) (pz_dc dL_law_1 38 rfl) rfl ?_
  refine py_arg (pc := 331) (pc' := 337) (k := 2) 4 0 rfl rfl hE hi hL (by decide) (by decide) (pz_dc dL_law_1 39 rfl) (pz_dc dL_law_2 0 rfl) (pz_dc dL_law_2 1 rfl) (pz_dc dL_law_2 2 rfl) (pz_dc dL_law_2 3 rfl) rfl ?_
  refine py_aload_n (pc' := 338) (x := x + 159) 1 rfl (pz_dc dL_law_2 4 rfl) rfl ?_
  refine py_callW (M := mL_law) (N := mL_lake) (d' := 202) (bc1 := 1) (bs1 := 6) (bc2 := bc - 1) (bs2 := bs - 6) (pc' := 341) (st := []) [.ref x, .int (xs (i + 1)), .int (xs (i + 2)), .ref (x + 159)] (fun E => hE2 E) okW_lake (pz_t4 175 rfl rfl) (pz_t4 176 rfl rfl) rfl (pz_dc dL_law_2 5 rfl) rfl (Nat.le_of_ble_eq_true rfl) (Nat.le_of_ble_eq_true rfl) rfl (by omega) (by omega) (by omega) ?_
  obtain ⟨f0, ho⟩ := I.2.2.2.2
  refine P_lake hl I.1 I.2.2.1 ho (by decide) (fun hs n hn => ?_) (fun v hs h1 f1 I1 hz hb1 ho1 hf1 => ?_)
  · obtain ⟨h0, J⟩ := I.a (h1 := (n, h.2)) I.1.up ⟨hn, fun _ _ _ => rfl⟩
    obtain ⟨fs2, hm⟩ := J.2.1.1.obj
    show py_V l mL_law Ex Q d (bc - 1) (bs - 6) 341 (LV b x i) [.int 1] (n, h.2)
    refine py_istore (pc' := 343) rfl (pz_dc dL_law_2 6 rfl) (by decide) rfl ?_
    refine py_aload_n (pc' := 344) (x := x + 132) 3 rfl (pz_dc dL_law_2 7 rfl) rfl ?_
    refine py_arg (pc := 344) (pc' := 350) (k := 1) 5 1 rfl rfl hE hi hL (by decide) (by decide) (pz_dc dL_law_2 8 rfl) (pz_dc dL_law_2 9 rfl) (pz_dc dL_law_2 10 rfl) (pz_dc dL_law_2 11 rfl) (pz_dc dL_law_2 12 rfl) rfl ?_
    refine py_arg (pc := 350) (pc' := 356) (k := 2) 5 1 rfl rfl hE hi hL (by decide) (by decide) (pz_dc dL_law_2 13 rfl) (pz_dc dL_law_2 14 rfl) (pz_dc dL_law_2 15 rfl) (pz_dc dL_law_2 16 rfl) (pz_dc dL_law_2 17 rfl) rfl ?_
    refine py_callV (M := mL_law) (N := mX10_lake) (d' := 202) (bc1 := 0) (bs1 := 0) (bc2 := bc - 1) (bs2 := bs - 6) (pc' := 359) (st := []) [.int (xs (i + 1)), .int (xs (i + 2))] vL_47 rfl (pz_dc dL_law_2 18 rfl) rfl (Nat.le_of_ble_eq_true rfl) (Nat.le_of_ble_eq_true rfl) rfl (by omega) (by omega) (by omega) hm ?_
    refine M_lake J.2.1.1 J.2.2.1 (by decide) (fun _ h2 v It => ?_) (fun v e => absurd (hs.symm.trans e) (by simp))
    have M2 : MInv h0 h2 (x + 132) S := ⟨_, It⟩
    obtain ⟨fs3, hm3⟩ := M2.obj
    show py_V l mL_law Ex Q d (bc - 1) (bs - 6) 359 ((5, .int 1) :: LV b x i) [.int v] h2
    refine py_istore (pc' := 361) rfl (pz_dc dL_law_2 19 rfl) (by decide) rfl ?_
    refine py_aload_n (pc' := 362) (x := x + 132) 4 rfl (pz_dc dL_law_2 20 rfl) rfl ?_
    refine py_callV (M := mL_law) (N := mX10_thrown) (d' := 202) (bc1 := 0) (bs1 := 0) (bc2 := bc - 1) (bs2 := bs - 6) (pc' := 365) (st := []) [] vL_48 rfl (pz_dc dL_law_2 21 rfl) rfl (Nat.le_of_ble_eq_true rfl) (Nat.le_of_ble_eq_true rfl) rfl (by omega) (by omega) (by omega) hm3 ?_
    refine M_thrown It ?_
    show py_V l mL_law Ex Q d (bc - 1) (bs - 6) 365 ((6, .int v) :: (5, .int 1) :: LV b x i) [.int 1] h2
    refine py_iload (pc' := 367) (x := 1) 1 rfl (pz_dc dL_law_2 22 rfl) rfl ?_
    refine py_icmp_eq (pc' := 370) (tgt := 372) rfl (pz_dc dL_law_2 23 rfl) (by decide) (fun _ => ?_) (fun z => absurd rfl z)
    refine py_iload (pc' := 374) (x := 1) 1 rfl (pz_dc dL_law_2 26 rfl) rfl ?_
    refine py_if_ne (pc' := 377) (tgt := 389) rfl (pz_dc dL_law_2 27 rfl) (by decide) (fun _ => ?_) (fun z => absurd z (by decide))
    refine py_goto (pc' := 1678) (pz_dc dL_law_2 37 rfl) (by decide) ?_
    refine py_lv [2, 3, 4, 5, 6] rfl ?_
    exact py_mono (Nat.le_refl _) (by omega) (by omega) (kk h2 _ (J.b M2 I.2.2.1))
  · obtain ⟨h0, J⟩ := I.a2 I1 hz hb1 ho1
    obtain ⟨fs2, hm⟩ := J.2.1.1.obj
    show py_V l mL_law Ex Q d (bc - 1) (bs - 6) 341 (LV b x i) [.int 0] h1
    refine py_istore (pc' := 343) rfl (pz_dc dL_law_2 6 rfl) (by decide) rfl ?_
    refine py_aload_n (pc' := 344) (x := x + 132) 3 rfl (pz_dc dL_law_2 7 rfl) rfl ?_
    refine py_arg (pc := 344) (pc' := 350) (k := 1) 5 1 rfl rfl hE hi hL (by decide) (by decide) (pz_dc dL_law_2 8 rfl) (pz_dc dL_law_2 9 rfl) (pz_dc dL_law_2 10 rfl) (pz_dc dL_law_2 11 rfl) (pz_dc dL_law_2 12 rfl) rfl ?_
    refine py_arg (pc := 350) (pc' := 356) (k := 2) 5 1 rfl rfl hE hi hL (by decide) (by decide) (pz_dc dL_law_2 13 rfl) (pz_dc dL_law_2 14 rfl) (pz_dc dL_law_2 15 rfl) (pz_dc dL_law_2 16 rfl) (pz_dc dL_law_2 17 rfl) rfl ?_
    refine py_callV (M := mL_law) (N := mX10_lake) (d' := 202) (bc1 := 0) (bs1 := 0) (bc2 := bc - 1) (bs2 := bs - 6) (pc' := 359) (st := []) [.int (xs (i + 1)), .int (xs (i + 2))] vL_47 rfl (pz_dc dL_law_2 18 rfl) rfl (Nat.le_of_ble_eq_true rfl) (Nat.le_of_ble_eq_true rfl) rfl (by omega) (by omega) (by omega) hm ?_
    refine M_lake J.2.1.1 J.2.2.1 (by decide) (fun e => absurd (hs.symm.trans e) (by simp)) (fun v2 e2 h2 It => ?_)
    obtain rfl : v = v2 := Option.some.inj (hs.symm.trans e2)
    have M2 : MInv h0 h2 (x + 132) S := ⟨_, It⟩
    obtain ⟨fs3, hm3⟩ := M2.obj
    show py_V l mL_law Ex Q d (bc - 1) (bs - 6) 359 ((5, .int 0) :: LV b x i) [.int v] h2
    refine py_istore (pc' := 361) rfl (pz_dc dL_law_2 19 rfl) (by decide) rfl ?_
    refine py_aload_n (pc' := 362) (x := x + 132) 4 rfl (pz_dc dL_law_2 20 rfl) rfl ?_
    refine py_callV (M := mL_law) (N := mX10_thrown) (d' := 202) (bc1 := 0) (bs1 := 0) (bc2 := bc - 1) (bs2 := bs - 6) (pc' := 365) (st := []) [] vL_48 rfl (pz_dc dL_law_2 21 rfl) rfl (Nat.le_of_ble_eq_true rfl) (Nat.le_of_ble_eq_true rfl) rfl (by omega) (by omega) (by omega) hm3 ?_
    refine M_thrown It ?_
    show py_V l mL_law Ex Q d (bc - 1) (bs - 6) 365 ((6, .int v) :: (5, .int 0) :: LV b x i) [.int 0] h2
    refine py_iload (pc' := 367) (x := 0) 1 rfl (pz_dc dL_law_2 22 rfl) rfl ?_
    refine py_icmp_eq (pc' := 370) (tgt := 372) rfl (pz_dc dL_law_2 23 rfl) (by decide) (fun _ => ?_) (fun z => absurd rfl z)
    refine py_iload (pc' := 374) (x := 0) 1 rfl (pz_dc dL_law_2 26 rfl) rfl ?_
    refine py_if_ne (pc' := 377) (tgt := 389) rfl (pz_dc dL_law_2 27 rfl) (by decide) (fun z => absurd rfl z) (fun _ => ?_)
    refine py_aload_n (pc' := 378) (x := x + 159) 3 rfl (pz_dc dL_law_2 28 rfl) rfl ?_
    refine py_iconst (pc' := 379) (v := 0) rfl (pz_dc dL_law_2 29 rfl) (by decide) ?_
    have ho2 : h2.2 (x + 159) = some (aJ 1 f1) := ((J.2.1.1.fr M2).2 _ (fun q => by have := mCl_in.mp q; omega)).trans ho1
    refine py_ldJ (K := fun q => q = v.toInt64) ⟨1, f1, ho2, vin (i := 0) (by decide) (by decide), hf1⟩ (pc' := 380) rfl (pz_dc dL_law_2 30 rfl) (fun q eq => ?_)
    rw [show q = _ from eq]
    refine py_iload (pc' := 382) (x := v) 0 rfl (pz_dc dL_law_2 31 rfl) rfl ?_
    refine py_i2l (pc' := 383) rfl (pz_dc dL_law_2 32 rfl) ?_
    refine py_lcmp (pc' := 384) rfl (pz_dc dL_law_2 33 rfl) ?_
    refine py_if_eq (pc' := 387) (tgt := 389) rfl (pz_dc dL_law_2 34 rfl) (by decide) (fun _ => ?_) (fun z => absurd (lgc _) z)
    refine py_goto (pc' := 1678) (pz_dc dL_law_2 37 rfl) (by decide) ?_
    refine py_lv [2, 3, 4, 5, 6] rfl ?_
    exact py_mono (Nat.le_refl _) (by omega) (by omega) (kk h2 _ (J.b M2 I.2.2.1))
theorem LC_48 (hl : l.stackTraces = false) (hE2 : ∀ {p e R s m args below meth c G B Z}, Ex p e R s m args below meth c G B Z → py_st s s.heap B) (hE : ∀ {p e R s m args below meth c G B Z}, Ex p e R s m args below meth c G B Z → py_S b L xs s B) (I : LI h x S) (hi : i + 5 ≤ L) (hL : L ≤ 2560) (hd : 203 ≤ d) (hbc : 3 ≤ bc) (hbs : 6907 ≤ bs) (kk : ∀ h' S', LI h' x S' → py_V l mL_law Ex Q d (bc - 3) (bs - 6907) 1678 (LV b x i) [] h') : py_V l mL_law Ex Q d bc bs 1623 (LV b x i) [] h := by
  refine py_aload_n (pc' := 1624) (x := x) 3 rfl (pz_dc dL_law_24 19 rfl) rfl ?_
  refine py_arg (pc := 1624) (pc' := 1630) (k := 1) 4 0 rfl rfl hE hi hL (by decide) (by decide) (pz_dc dL_law_24 20 rfl) (pz_dc dL_law_24 21 rfl) (pz_dc dL_law_24 22 rfl) (pz_dc dL_law_24 23 rfl) (pz_dc dL_law_24 24 rfl) rfl ?_
  refine py_aload_n (pc' := 1631) (x := x + 159) 1 rfl (pz_dc dL_law_24 25 rfl) rfl ?_
  refine py_callW (M := mL_law) (N := mL_row) (d' := 202) (bc1 := 1) (bs1 := 6) (bc2 := bc - 1) (bs2 := bs - 6) (pc' := 1634) (st := []) [.ref x, .int (xs (i + 1)), .ref (x + 159)] (fun E => hE2 E) okW_row (pz_t5 5 rfl rfl) (pz_t5 6 rfl rfl) rfl (pz_dc dL_law_24 26 rfl) rfl (Nat.le_of_ble_eq_true rfl) (Nat.le_of_ble_eq_true rfl) rfl (by omega) (by omega) (by omega) ?_
  obtain ⟨f0, ho⟩ := I.2.2.2.2
  refine P_row hl I.1 I.2.2.1 ho (by decide) (fun hs n hn => ?_) (fun v hs h1 f1 I1 hz hb1 ho1 hf1 => ?_)
  · obtain ⟨h0, J⟩ := I.a (h1 := (n, h.2)) I.1.up ⟨hn, fun _ _ _ => rfl⟩
    obtain ⟨fs2, hm⟩ := J.2.1.1.obj
    show py_V l mL_law Ex Q d (bc - 1) (bs - 6) 1634 (LV b x i) [.int 1] (n, h.2)
    refine py_istore (pc' := 1636) rfl (pz_dc dL_law_24 27 rfl) (by decide) rfl ?_
    refine py_aload_n (pc' := 1637) (x := x + 132) 3 rfl (pz_dc dL_law_24 28 rfl) rfl ?_
    refine py_arg (pc := 1637) (pc' := 1643) (k := 1) 5 1 rfl rfl hE hi hL (by decide) (by decide) (pz_dc dL_law_24 29 rfl) (pz_dc dL_law_24 30 rfl) (pz_dc dL_law_24 31 rfl) (pz_dc dL_law_24 32 rfl) (pz_dc dL_law_24 33 rfl) rfl ?_
    refine py_callV (M := mL_law) (N := mX10_row) (d' := 202) (bc1 := 0) (bs1 := 0) (bc2 := bc - 1) (bs2 := bs - 6) (pc' := 1646) (st := []) [.int (xs (i + 1))] vL_228 rfl (pz_dc dL_law_24 34 rfl) rfl (Nat.le_of_ble_eq_true rfl) (Nat.le_of_ble_eq_true rfl) rfl (by omega) (by omega) (by omega) hm ?_
    refine M_row J.2.1.1 J.2.2.1 (by decide) (fun _ h2 v It => ?_) (fun v e => absurd (hs.symm.trans e) (by simp))
    have M2 : MInv h0 h2 (x + 132) S := ⟨_, It⟩
    obtain ⟨fs3, hm3⟩ := M2.obj
    show py_V l mL_law Ex Q d (bc - 1) (bs - 6) 1646 ((5, .int 1) :: LV b x i) [.long v] h2
    refine py_lstore (pc' := 1648) rfl (pz_dc dL_law_24 35 rfl) (by decide) rfl ?_
    refine py_aload_n (pc' := 1649) (x := x + 132) 4 rfl (pz_dc dL_law_24 36 rfl) rfl ?_
    refine py_callV (M := mL_law) (N := mX10_thrown) (d' := 202) (bc1 := 0) (bs1 := 0) (bc2 := bc - 1) (bs2 := bs - 6) (pc' := 1652) (st := []) [] vL_48 rfl (pz_dc dL_law_24 37 rfl) rfl (Nat.le_of_ble_eq_true rfl) (Nat.le_of_ble_eq_true rfl) rfl (by omega) (by omega) (by omega) hm3 ?_
    refine M_thrown It ?_
    show py_V l mL_law Ex Q d (bc - 1) (bs - 6) 1652 ((6, .long v) :: (5, .int 1) :: LV b x i) [.int 1] h2
    refine py_iload (pc' := 1654) (x := 1) 1 rfl (pz_dc dL_law_24 38 rfl) rfl ?_
    refine py_icmp_eq (pc' := 1657) (tgt := 1659) rfl (pz_dc dL_law_24 39 rfl) (by decide) (fun _ => ?_) (fun z => absurd rfl z)
    refine py_iload (pc' := 1661) (x := 1) 1 rfl (pz_dc dL_law_25 2 rfl) rfl ?_
    refine py_if_ne (pc' := 1664) (tgt := 1675) rfl (pz_dc dL_law_25 3 rfl) (by decide) (fun _ => ?_) (fun z => absurd z (by decide))
    refine py_goto (pc' := 1678) (pz_dc dL_law_25 12 rfl) (by decide) ?_
    refine py_lv [2, 3, 4, 5, 6] rfl ?_
    exact py_mono (Nat.le_refl _) (by omega) (by omega) (kk h2 _ (J.b M2 I.2.2.1))
  · obtain ⟨h0, J⟩ := I.a2 I1 hz hb1 ho1
    obtain ⟨fs2, hm⟩ := J.2.1.1.obj
    show py_V l mL_law Ex Q d (bc - 1) (bs - 6) 1634 (LV b x i) [.int 0] h1
    refine py_istore (pc' := 1636) rfl (pz_dc dL_law_24 27 rfl) (by decide) rfl ?_
    refine py_aload_n (pc' := 1637) (x := x + 132) 3 rfl (pz_dc dL_law_24 28 rfl) rfl ?_
    refine py_arg (pc := 1637) (pc' := 1643) (k := 1) 5 1 rfl rfl hE hi hL (by decide) (by decide) (pz_dc dL_law_24 29 rfl) (pz_dc dL_law_24 30 rfl) (pz_dc dL_law_24 31 rfl) (pz_dc dL_law_24 32 rfl) (pz_dc dL_law_24 33 rfl) rfl ?_
    refine py_callV (M := mL_law) (N := mX10_row) (d' := 202) (bc1 := 0) (bs1 := 0) (bc2 := bc - 1) (bs2 := bs - 6) (pc' := 1646) (st := []) [.int (xs (i + 1))] vL_228 rfl (pz_dc dL_law_24 34 rfl) rfl (Nat.le_of_ble_eq_true rfl) (Nat.le_of_ble_eq_true rfl) rfl (by omega) (by omega) (by omega) hm ?_
    refine M_row J.2.1.1 J.2.2.1 (by decide) (fun e => absurd (hs.symm.trans e) (by simp)) (fun v2 e2 h2 It => ?_)
    obtain rfl : v = v2 := Option.some.inj (hs.symm.trans e2)
    have M2 : MInv h0 h2 (x + 132) S := ⟨_, It⟩
    obtain ⟨fs3, hm3⟩ := M2.obj
    show py_V l mL_law Ex Q d (bc - 1) (bs - 6) 1646 ((5, .int 0) :: LV b x i) [.long v] h2
    refine py_lstore (pc' := 1648) rfl (pz_dc dL_law_24 35 rfl) (by decide) rfl ?_
    refine py_aload_n (pc' := 1649) (x := x + 132) 4 rfl (pz_dc dL_law_24 36 rfl) rfl ?_
    refine py_callV (M := mL_law) (N := mX10_thrown) (d' := 202) (bc1 := 0) (bs1 := 0) (bc2 := bc - 1) (bs2 := bs - 6) (pc' := 1652) (st := []) [] vL_48 rfl (pz_dc dL_law_24 37 rfl) rfl (Nat.le_of_ble_eq_true rfl) (Nat.le_of_ble_eq_true rfl) rfl (by omega) (by omega) (by omega) hm3 ?_
    refine M_thrown It ?_
    show py_V l mL_law Ex Q d (bc - 1) (bs - 6) 1652 ((6, .long v) :: (5, .int 0) :: LV b x i) [.int 0] h2
    refine py_iload (pc' := 1654) (x := 0) 1 rfl (pz_dc dL_law_24 38 rfl) rfl ?_
    refine py_icmp_eq (pc' := 1657) (tgt := 1659) rfl (pz_dc dL_law_24 39 rfl) (by decide) (fun _ => ?_) (fun z => absurd rfl z)
    refine py_iload (pc' := 1661) (x := 0) 1 rfl (pz_dc dL_law_25 2 rfl) rfl ?_
    refine py_if_ne (pc' := 1664) (tgt := 1675) rfl (pz_dc dL_law_25 3 rfl) (by decide) (fun z => absurd rfl z) (fun _ => ?_)
    refine py_aload_n (pc' := 1665) (x := x + 159) 3 rfl (pz_dc dL_law_25 4 rfl) rfl ?_
    refine py_iconst (pc' := 1666) (v := 0) rfl (pz_dc dL_law_25 5 rfl) (by decide) ?_
    have ho2 : h2.2 (x + 159) = some (aJ 1 f1) := ((J.2.1.1.fr M2).2 _ (fun q => by have := mCl_in.mp q; omega)).trans ho1
    refine py_ldJ (K := fun q => q = v) ⟨1, f1, ho2, vin (i := 0) (by decide) (by decide), hf1⟩ (pc' := 1667) rfl (pz_dc dL_law_25 6 rfl) (fun q eq => ?_)
    rw [show q = _ from eq]
    refine py_lload (pc' := 1669) (x := v) 0 rfl (pz_dc dL_law_25 7 rfl) rfl ?_
    refine py_lcmp (pc' := 1670) rfl (pz_dc dL_law_25 8 rfl) ?_
    refine py_if_eq (pc' := 1673) (tgt := 1675) rfl (pz_dc dL_law_25 9 rfl) (by decide) (fun _ => ?_) (fun z => absurd (lgc _) z)
    refine py_goto (pc' := 1678) (pz_dc dL_law_25 12 rfl) (by decide) ?_
    refine py_lv [2, 3, 4, 5, 6] rfl ?_
    exact py_mono (Nat.le_refl _) (by omega) (by omega) (kk h2 _ (J.b M2 I.2.2.1))
end LCS
