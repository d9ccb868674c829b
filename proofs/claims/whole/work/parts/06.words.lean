/-! ===== words, by their places ===== -/
theorem pz_n1 {w : Cond} (i : Nat) (h : tables_1_1[i]? = some w) : w ∈ lw_tbl := by
  have hm := List.mem_of_getElem? h
  exact List.mem_append_right _ (show w ∈ tables_1 from (List.mem_append_left _ hm))
theorem pz_t1 {w : Cond} (i : Nat) (h : tables_1_1[i]? = some w) (hg : goodWord w = true) : w ∈ pz_tb := pz_in (pz_n1 i h) hg
theorem pz_n2 {w : Cond} (i : Nat) (h : tables_1_2[i]? = some w) : w ∈ lw_tbl := by
  have hm := List.mem_of_getElem? h
  exact List.mem_append_right _ (show w ∈ tables_1 from (List.mem_append_right _ (List.mem_append_left _ hm)))
theorem pz_t2 {w : Cond} (i : Nat) (h : tables_1_2[i]? = some w) (hg : goodWord w = true) : w ∈ pz_tb := pz_in (pz_n2 i h) hg
theorem pz_n3 {w : Cond} (i : Nat) (h : tables_1_3[i]? = some w) : w ∈ lw_tbl := by
  have hm := List.mem_of_getElem? h
  exact List.mem_append_right _ (show w ∈ tables_1 from (List.mem_append_right _ (List.mem_append_right _ (List.mem_append_left _ hm))))
theorem pz_t3 {w : Cond} (i : Nat) (h : tables_1_3[i]? = some w) (hg : goodWord w = true) : w ∈ pz_tb := pz_in (pz_n3 i h) hg
theorem pz_n4 {w : Cond} (i : Nat) (h : tables_1_4[i]? = some w) : w ∈ lw_tbl := by
  have hm := List.mem_of_getElem? h
  exact List.mem_append_right _ (show w ∈ tables_1 from (List.mem_append_right _ (List.mem_append_right _ (List.mem_append_right _ (List.mem_append_left _ hm)))))
theorem pz_t4 {w : Cond} (i : Nat) (h : tables_1_4[i]? = some w) (hg : goodWord w = true) : w ∈ pz_tb := pz_in (pz_n4 i h) hg
theorem pz_n5 {w : Cond} (i : Nat) (h : tables_1_5[i]? = some w) : w ∈ lw_tbl := by
  have hm := List.mem_of_getElem? h
  exact List.mem_append_right _ (show w ∈ tables_1 from (List.mem_append_right _ (List.mem_append_right _ (List.mem_append_right _ (List.mem_append_right _ (List.mem_append_left _ hm))))))
theorem pz_t5 {w : Cond} (i : Nat) (h : tables_1_5[i]? = some w) (hg : goodWord w = true) : w ∈ pz_tb := pz_in (pz_n5 i h) hg
theorem pz_n6 {w : Cond} (i : Nat) (h : tables_1_6[i]? = some w) : w ∈ lw_tbl := by
  have hm := List.mem_of_getElem? h
  exact List.mem_append_right _ (show w ∈ tables_1 from (List.mem_append_right _ (List.mem_append_right _ (List.mem_append_right _ (List.mem_append_right _ (List.mem_append_right _ (List.mem_append_left _ hm)))))))
theorem pz_t6 {w : Cond} (i : Nat) (h : tables_1_6[i]? = some w) (hg : goodWord w = true) : w ∈ pz_tb := pz_in (pz_n6 i h) hg
theorem pz_n7 {w : Cond} (i : Nat) (h : tables_1_7[i]? = some w) : w ∈ lw_tbl := by
  have hm := List.mem_of_getElem? h
  exact List.mem_append_right _ (show w ∈ tables_1 from (List.mem_append_right _ (List.mem_append_right _ (List.mem_append_right _ (List.mem_append_right _ (List.mem_append_right _ (List.mem_append_right _ hm)))))))
theorem pz_t7 {w : Cond} (i : Nat) (h : tables_1_7[i]? = some w) (hg : goodWord w = true) : w ∈ pz_tb := pz_in (pz_n7 i h) hg
theorem pz_s1 {q : MethodName × Nat} (i : Nat) (h : lw_privs_1[i]? = some q) : Cond.selects q.1.cls q.1 q.1 ∈ pz_tb := by
  have hm := List.mem_of_getElem? h
  exact pz_in (List.mem_append_left _ (List.mem_map.mpr ⟨q, show q ∈ lw_privs from (List.mem_append_left _ hm), rfl⟩)) rfl
theorem pz_s2 {q : MethodName × Nat} (i : Nat) (h : lw_privs_2[i]? = some q) : Cond.selects q.1.cls q.1 q.1 ∈ pz_tb := by
  have hm := List.mem_of_getElem? h
  exact pz_in (List.mem_append_left _ (List.mem_map.mpr ⟨q, show q ∈ lw_privs from (List.mem_append_right _ (List.mem_append_left _ hm)), rfl⟩)) rfl
theorem pz_s3 {q : MethodName × Nat} (i : Nat) (h : lw_privs_3[i]? = some q) : Cond.selects q.1.cls q.1 q.1 ∈ pz_tb := by
  have hm := List.mem_of_getElem? h
  exact pz_in (List.mem_append_left _ (List.mem_map.mpr ⟨q, show q ∈ lw_privs from (List.mem_append_right _ (List.mem_append_right _ (List.mem_append_left _ hm))), rfl⟩)) rfl
theorem pz_s4 {q : MethodName × Nat} (i : Nat) (h : lw_privs_4[i]? = some q) : Cond.selects q.1.cls q.1 q.1 ∈ pz_tb := by
  have hm := List.mem_of_getElem? h
  exact pz_in (List.mem_append_left _ (List.mem_map.mpr ⟨q, show q ∈ lw_privs from (List.mem_append_right _ (List.mem_append_right _ (List.mem_append_right _ (List.mem_append_left _ hm)))), rfl⟩)) rfl
theorem pz_s5 {q : MethodName × Nat} (i : Nat) (h : lw_privs_5[i]? = some q) : Cond.selects q.1.cls q.1 q.1 ∈ pz_tb := by
  have hm := List.mem_of_getElem? h
  exact pz_in (List.mem_append_left _ (List.mem_map.mpr ⟨q, show q ∈ lw_privs from (List.mem_append_right _ (List.mem_append_right _ (List.mem_append_right _ (List.mem_append_right _ (List.mem_append_left _ hm))))), rfl⟩)) rfl
theorem pz_s6 {q : MethodName × Nat} (i : Nat) (h : lw_privs_6[i]? = some q) : Cond.selects q.1.cls q.1 q.1 ∈ pz_tb := by
  have hm := List.mem_of_getElem? h
  exact pz_in (List.mem_append_left _ (List.mem_map.mpr ⟨q, show q ∈ lw_privs from (List.mem_append_right _ (List.mem_append_right _ (List.mem_append_right _ (List.mem_append_right _ (List.mem_append_right _ (List.mem_append_left _ hm)))))), rfl⟩)) rfl
theorem pz_s7 {q : MethodName × Nat} (i : Nat) (h : lw_privs_7[i]? = some q) : Cond.selects q.1.cls q.1 q.1 ∈ pz_tb := by
  have hm := List.mem_of_getElem? h
  exact pz_in (List.mem_append_left _ (List.mem_map.mpr ⟨q, show q ∈ lw_privs from (List.mem_append_right _ (List.mem_append_right _ (List.mem_append_right _ (List.mem_append_right _ (List.mem_append_right _ (List.mem_append_right _ (List.mem_append_left _ hm))))))), rfl⟩)) rfl
theorem pz_s8 {q : MethodName × Nat} (i : Nat) (h : lw_privs_8[i]? = some q) : Cond.selects q.1.cls q.1 q.1 ∈ pz_tb := by
  have hm := List.mem_of_getElem? h
  exact pz_in (List.mem_append_left _ (List.mem_map.mpr ⟨q, show q ∈ lw_privs from (List.mem_append_right _ (List.mem_append_right _ (List.mem_append_right _ (List.mem_append_right _ (List.mem_append_right _ (List.mem_append_right _ (List.mem_append_right _ (List.mem_append_left _ hm)))))))), rfl⟩)) rfl
theorem pz_s9 {q : MethodName × Nat} (i : Nat) (h : lw_privs_9[i]? = some q) : Cond.selects q.1.cls q.1 q.1 ∈ pz_tb := by
  have hm := List.mem_of_getElem? h
  exact pz_in (List.mem_append_left _ (List.mem_map.mpr ⟨q, show q ∈ lw_privs from (List.mem_append_right _ (List.mem_append_right _ (List.mem_append_right _ (List.mem_append_right _ (List.mem_append_right _ (List.mem_append_right _ (List.mem_append_right _ (List.mem_append_right _ hm)))))))), rfl⟩)) rfl
theorem iX0 : ∀ w ∈ u_ws RX0 TX0 3, w ∈ pz_tb := by
  have h1 : ∀ w ∈ u_ws RX0 TX0 3, w ∈ lw_tbl := by decide +kernel
  have h2 : (u_ws RX0 TX0 3).all goodWord = true := by decide +kernel
  exact fun w hw => pz_in (h1 w hw) (List.all_eq_true.mp h2 w hw)
theorem iX1 : ∀ w ∈ u_ws RX1 TX1 5, w ∈ pz_tb := by
  have h1 : ∀ w ∈ u_ws RX1 TX1 5, w ∈ lw_tbl := by decide +kernel
  have h2 : (u_ws RX1 TX1 5).all goodWord = true := by decide +kernel
  exact fun w hw => pz_in (h1 w hw) (List.all_eq_true.mp h2 w hw)
theorem iX2 : ∀ w ∈ u_ws RX2 TX2 2, w ∈ pz_tb := by
  have h1 : ∀ w ∈ u_ws RX2 TX2 2, w ∈ lw_tbl := by decide +kernel
  have h2 : (u_ws RX2 TX2 2).all goodWord = true := by decide +kernel
  exact fun w hw => pz_in (h1 w hw) (List.all_eq_true.mp h2 w hw)
theorem iX3 : ∀ w ∈ u_ws RX3 TX3 4, w ∈ pz_tb := by
  have h1 : ∀ w ∈ u_ws RX3 TX3 4, w ∈ lw_tbl := by decide +kernel
  have h2 : (u_ws RX3 TX3 4).all goodWord = true := by decide +kernel
  exact fun w hw => pz_in (h1 w hw) (List.all_eq_true.mp h2 w hw)
theorem iX4 : ∀ w ∈ u_ws RX4 TX4 2, w ∈ pz_tb := by
  have h1 : ∀ w ∈ u_ws RX4 TX4 2, w ∈ lw_tbl := by decide +kernel
  have h2 : (u_ws RX4 TX4 2).all goodWord = true := by decide +kernel
  exact fun w hw => pz_in (h1 w hw) (List.all_eq_true.mp h2 w hw)
theorem iX5 : ∀ w ∈ u_ws RX5 TX5 6, w ∈ pz_tb := by
  have h1 : ∀ w ∈ u_ws RX5 TX5 6, w ∈ lw_tbl := by decide +kernel
  have h2 : (u_ws RX5 TX5 6).all goodWord = true := by decide +kernel
  exact fun w hw => pz_in (h1 w hw) (List.all_eq_true.mp h2 w hw)
theorem iX6 : ∀ w ∈ u_ws RX6 TX6 2, w ∈ pz_tb := by
  have h1 : ∀ w ∈ u_ws RX6 TX6 2, w ∈ lw_tbl := by decide +kernel
  have h2 : (u_ws RX6 TX6 2).all goodWord = true := by decide +kernel
  exact fun w hw => pz_in (h1 w hw) (List.all_eq_true.mp h2 w hw)
theorem iX7 : ∀ w ∈ u_ws RX7 TX7 3, w ∈ pz_tb := by
  have h1 : ∀ w ∈ u_ws RX7 TX7 3, w ∈ lw_tbl := by decide +kernel
  have h2 : (u_ws RX7 TX7 3).all goodWord = true := by decide +kernel
  exact fun w hw => pz_in (h1 w hw) (List.all_eq_true.mp h2 w hw)
theorem iX8 : ∀ w ∈ u_ws RX8 TX8 9, w ∈ pz_tb := by
  have h1 : ∀ w ∈ u_ws RX8 TX8 9, w ∈ lw_tbl := by decide +kernel
  have h2 : (u_ws RX8 TX8 9).all goodWord = true := by decide +kernel
  exact fun w hw => pz_in (h1 w hw) (List.all_eq_true.mp h2 w hw)
theorem iX9 : ∀ w ∈ u_ws RX9 TX9 17, w ∈ pz_tb := by
  have h1 : ∀ w ∈ u_ws RX9 TX9 17, w ∈ lw_tbl := by decide +kernel
  have h2 : (u_ws RX9 TX9 17).all goodWord = true := by decide +kernel
  exact fun w hw => pz_in (h1 w hw) (List.all_eq_true.mp h2 w hw)
theorem iX10 : ∀ w ∈ u_ws RX10 TX10 43, w ∈ pz_tb := by
  have h1 : ∀ w ∈ u_ws RX10 TX10 43, w ∈ lw_tbl := by decide +kernel
  have h2 : (u_ws RX10 TX10 43).all goodWord = true := by decide +kernel
  exact fun w hw => pz_in (h1 w hw) (List.all_eq_true.mp h2 w hw)
theorem pz_tableN {M : pz_M} {Ex : State → Nat → Prop} {Q : Option Value → pz_H → Prop} {d bc bs pc : Nat} {lv : List (Nat × Value)} {st : List Value} {h : pz_H} {dflt lo hi : Int} {offs : Array Int} {len tgt : Nat} {x : Int32} (hd : decode M.2.1 pc = .ok (.tableswitch dflt lo hi offs, len)) (hsz : hi = lo + (offs.size : Int) - 1)
    (k1 : ∀ i : Nat, i < offs.size → x.toInt = lo + (i : Int) → ∃ (off : Int) (tg : Nat), offs[i]? = some off ∧ (pc : Int) + off = (tg : Int) ∧ pz_V M Ex Q d bc bs tg lv st h) (ht : (pc : Int) + dflt = (tgt : Int)) (k2 : x.toInt < lo ∨ hi < x.toInt → pz_V M Ex Q d bc bs tgt lv st h) : pz_V M Ex Q d bc bs pc lv (.int x :: st) h := by
  refine pz_table hd (fun off h1 h2 ho => ?_) (fun h1 h2 => ?_) ht k2
  · obtain ⟨off', tg, e1, e2, kk⟩ := k1 (x.toInt - lo).toNat (by omega) (by omega)
    cases ho.symm.trans e1
    exact ⟨tg, e2, kk⟩
  · obtain ⟨off', tg, e1, e2, kk⟩ := k1 (x.toInt - lo).toNat (by omega) (by omega)
    exact ⟨off', e1⟩
theorem pz_oI : Cond.instanceMethod Lib.objectInit ∈ pz_tb := (pz_t1 25 rfl rfl)
theorem pz_oC : Cond.code Lib.objectInit ⟨#[0xb1]⟩ 1 none ∈ pz_tb := (pz_t1 26 rfl rfl)
theorem pz_ac_int : Cond.arrayClass .int ∈ pz_tb := (pz_t1 40 rfl rfl)
theorem pz_ac_long : Cond.arrayClass .long ∈ pz_tb := (pz_t1 54 rfl rfl)
theorem pz_ac_byte : Cond.arrayClass .byte ∈ pz_tb := (pz_t5 157 rfl rfl)
theorem pz_ac_boolean : Cond.arrayClass .boolean ∈ pz_tb := (pz_t5 158 rfl rfl)
theorem fX1_24 : pz_fl "PullThePlug$Land" 24 1 4 := ⟨RX1, TX1, 5, rfl, by decide, rfl, iX1, Or.inl (pz_t1 68 rfl rfl)⟩
theorem fX4_15 : pz_fl "PullThePlug$Row" 15 4 1 := ⟨RX4, TX4, 2, rfl, by decide, rfl, iX4, Or.inl (pz_t1 48 rfl rfl)⟩
theorem fX10_101 : pz_fl "PullThePlugModel" 101 10 1 := ⟨RX10, TX10, 43, rfl, by decide, rfl, iX10, Or.inl (pz_t5 28 rfl rfl)⟩
theorem okX10_in : pz_ok mX10_in 3 := ⟨(pz_t5 173 rfl rfl), (pz_t1 10 rfl rfl), by decide +kernel, by decide, ⟨by decide +kernel, by decide +kernel⟩, by decide +kernel⟩
theorem sX10_104 : pz_ms "PullThePlugModel" 104 mX10_in 3 := ⟨okX10_in, Or.inl (pz_t5 171 rfl rfl), (pz_t5 172 rfl rfl)⟩
theorem fX10_127 : pz_fl "PullThePlugModel" 127 10 14 := ⟨RX10, TX10, 43, rfl, by decide, rfl, iX10, Or.inl (pz_t5 41 rfl rfl)⟩
theorem okX10_isLake : pz_ok mX10_isLake 1 := ⟨(pz_t6 16 rfl rfl), (pz_t1 10 rfl rfl), by decide +kernel, by decide, ⟨by decide +kernel, by decide +kernel⟩, by decide +kernel⟩
theorem vX10_108 : pz_mv "PullThePlugModel" 108 mX10_isLake 1 10 := ⟨okX10_isLake, Or.inl (pz_t6 13 rfl rfl), (pz_t6 15 rfl rfl), (pz_s7 9 rfl), TX10, 43, rfl⟩
theorem wX0_3 : Cond.methodLink "PullThePlug$Duck" 3 Lib.objectInit ∈ pz_tb := (pz_t1 172 rfl rfl)
theorem pX0_9i : pz_fp ⟨"PullThePlug$Duck", "<init>", "()V"⟩ 9 0 0 (.array (.long)) := ⟨RX0, TX0, 3, tyX0, rfl, by decide, rfl, iX0, tyX0_ok, nmX0, rfl, Or.inr ⟨rfl, rfl, rfl, (pz_t1 173 rfl rfl)⟩⟩
theorem pX0_15i : pz_fp ⟨"PullThePlug$Duck", "<init>", "()V"⟩ 15 0 1 (.array (.long)) := ⟨RX0, TX0, 3, tyX0, rfl, by decide, rfl, iX0, tyX0_ok, nmX0, rfl, Or.inr ⟨rfl, rfl, rfl, (pz_t1 175 rfl rfl)⟩⟩
theorem pX0_18 (y : MethodName) (hy : y.cls = "PullThePlug$Duck") : pz_fp y 18 0 2 (.long) := ⟨RX0, TX0, 3, tyX0, rfl, by decide, rfl, iX0, tyX0_ok, nmX0, rfl, Or.inl ⟨rfl, by rw [hy]; exact Or.inl (pz_t1 176 rfl rfl)⟩⟩
theorem fX0_9 : pz_fl "PullThePlug$Duck" 9 0 0 := ⟨RX0, TX0, 3, rfl, by decide, rfl, iX0, Or.inl (pz_t1 173 rfl rfl)⟩
theorem fX0_15 : pz_fl "PullThePlug$Duck" 15 0 1 := ⟨RX0, TX0, 3, rfl, by decide, rfl, iX0, Or.inl (pz_t1 175 rfl rfl)⟩
theorem okX1_size : pz_ok mX1_size 0 := ⟨(pz_t2 53 rfl rfl), (pz_t1 4 rfl rfl), by decide +kernel, by decide, ⟨by decide +kernel, by decide +kernel⟩, by decide +kernel⟩
theorem vX0_22 : pz_mv "PullThePlug$Duck" 22 mX1_size 0 1 := ⟨okX1_size, Or.inr ⟨_, (pz_n4 108 rfl)⟩, (pz_t2 52 rfl rfl), (pz_s1 4 rfl), TX1, 5, rfl⟩
theorem okX0_swimFrom : pz_ok mX0_swimFrom 2 := ⟨(pz_t4 112 rfl rfl), (pz_t1 8 rfl rfl), by decide +kernel, by decide, ⟨by decide +kernel, by decide +kernel⟩, by decide +kernel⟩
theorem vX0_28 : pz_mv "PullThePlug$Duck" 28 mX0_swimFrom 2 0 := ⟨okX0_swimFrom, Or.inl (pz_t4 109 rfl rfl), (pz_t4 111 rfl rfl), (pz_s6 0 rfl), TX0, 3, rfl⟩
theorem fX0_18 : pz_fl "PullThePlug$Duck" 18 0 2 := ⟨RX0, TX0, 3, rfl, by decide, rfl, iX0, Or.inl (pz_t1 176 rfl rfl)⟩
theorem cX0_32 : Cond.constantLong "PullThePlug$Duck" 32 60 ∈ pz_tb := (pz_t4 116 rfl rfl)
theorem okX0_isWay : pz_ok mX0_isWay 3 := ⟨(pz_t4 115 rfl rfl), (pz_t1 8 rfl rfl), by decide +kernel, by decide, ⟨by decide +kernel, by decide +kernel⟩, by decide +kernel⟩
theorem sX0_34 : pz_ms "PullThePlug$Duck" 34 mX0_isWay 3 := ⟨okX0_isWay, Or.inl (pz_t4 113 rfl rfl), (pz_t4 114 rfl rfl)⟩
theorem fX0_38 : pz_fl "PullThePlug$Duck" 38 1 1 := ⟨RX1, TX1, 5, rfl, by decide, rfl, iX1, Or.inr ⟨_, (pz_n1 64 rfl)⟩⟩
theorem wX1_3 : Cond.methodLink "PullThePlug$Land" 3 Lib.objectInit ∈ pz_tb := (pz_t1 60 rfl rfl)
theorem pX1_9i : pz_fp ⟨"PullThePlug$Land", "<init>", "()V"⟩ 9 1 0 (.array (.int)) := ⟨RX1, TX1, 5, tyX1, rfl, by decide, rfl, iX1, tyX1_ok, nmX1, rfl, Or.inr ⟨rfl, rfl, rfl, (pz_t1 61 rfl rfl)⟩⟩
theorem pX1_15i : pz_fp ⟨"PullThePlug$Land", "<init>", "()V"⟩ 15 1 1 (.array (.int)) := ⟨RX1, TX1, 5, tyX1, rfl, by decide, rfl, iX1, tyX1_ok, nmX1, rfl, Or.inr ⟨rfl, rfl, rfl, (pz_t1 63 rfl rfl)⟩⟩
theorem pX1_18i : pz_fp ⟨"PullThePlug$Land", "<init>", "()V"⟩ 18 1 2 (.array (.int)) := ⟨RX1, TX1, 5, tyX1, rfl, by decide, rfl, iX1, tyX1_ok, nmX1, rfl, Or.inr ⟨rfl, rfl, rfl, (pz_t1 66 rfl rfl)⟩⟩
theorem pX1_21i : pz_fp ⟨"PullThePlug$Land", "<init>", "()V"⟩ 21 1 3 (.array (.int)) := ⟨RX1, TX1, 5, tyX1, rfl, by decide, rfl, iX1, tyX1_ok, nmX1, rfl, Or.inr ⟨rfl, rfl, rfl, (pz_t1 67 rfl rfl)⟩⟩
theorem okX1_all : pz_ok mX1_all 0 := ⟨(pz_t2 162 rfl rfl), (pz_t1 4 rfl rfl), by decide +kernel, by decide, ⟨by decide +kernel, by decide +kernel⟩, by decide +kernel⟩
theorem vX1_28 : pz_mv "PullThePlug$Land" 28 mX1_all 0 1 := ⟨okX1_all, Or.inl (pz_t2 159 rfl rfl), (pz_t2 161 rfl rfl), (pz_s2 8 rfl), TX1, 5, rfl⟩
theorem fX1_9 : pz_fl "PullThePlug$Land" 9 1 0 := ⟨RX1, TX1, 5, rfl, by decide, rfl, iX1, Or.inl (pz_t1 61 rfl rfl)⟩
theorem fX1_15 : pz_fl "PullThePlug$Land" 15 1 1 := ⟨RX1, TX1, 5, rfl, by decide, rfl, iX1, Or.inl (pz_t1 63 rfl rfl)⟩
theorem pX1_24 (y : MethodName) (hy : y.cls = "PullThePlug$Land") : pz_fp y 24 1 4 (.int) := ⟨RX1, TX1, 5, tyX1, rfl, by decide, rfl, iX1, tyX1_ok, nmX1, rfl, Or.inl ⟨rfl, by rw [hy]; exact Or.inl (pz_t1 68 rfl rfl)⟩⟩
theorem okX1_has : pz_ok mX1_has 1 := ⟨(pz_t2 195 rfl rfl), (pz_t1 4 rfl rfl), by decide +kernel, by decide, ⟨by decide +kernel, by decide +kernel⟩, by decide +kernel⟩
theorem vX1_32 : pz_mv "PullThePlug$Land" 32 mX1_has 1 1 := ⟨okX1_has, Or.inl (pz_t2 208 rfl rfl), (pz_t2 194 rfl rfl), (pz_s2 13 rfl), TX1, 5, rfl⟩
theorem okX8_isOut : pz_ok mX8_isOut 1 := ⟨(pz_t2 212 rfl rfl), (pz_t1 5 rfl rfl), by decide +kernel, by decide, ⟨by decide +kernel, by decide +kernel⟩, by decide +kernel⟩
theorem vX1_36 : pz_mv "PullThePlug$Land" 36 mX8_isOut 1 8 := ⟨okX8_isOut, Or.inr ⟨_, (pz_n2 209 rfl)⟩, (pz_t2 211 rfl rfl), (pz_s3 1 rfl), TX8, 9, rfl⟩
theorem fX8_33 : pz_fl "PullThePlug$Water" 33 8 5 := ⟨RX8, TX8, 9, rfl, by decide, rfl, iX8, Or.inl (pz_t1 101 rfl rfl)⟩
theorem okX9_isIn : pz_ok mX9_isIn 2 := ⟨(pz_t2 169 rfl rfl), (pz_t1 1 rfl rfl), by decide +kernel, by decide, ⟨by decide +kernel, by decide +kernel⟩, by decide +kernel⟩
theorem sX8_46 : pz_ms "PullThePlug$Water" 46 mX9_isIn 2 := ⟨okX9_isIn, Or.inr ⟨_, (pz_n2 213 rfl)⟩, (pz_t2 168 rfl rfl)⟩
theorem fX1_41 : pz_fl "PullThePlug$Land" 41 8 0 := ⟨RX8, TX8, 9, rfl, by decide, rfl, iX8, Or.inr ⟨_, (pz_n1 88 rfl)⟩⟩
theorem fX1_44 : pz_fl "PullThePlug$Land" 44 8 5 := ⟨RX8, TX8, 9, rfl, by decide, rfl, iX8, Or.inr ⟨_, (pz_n1 102 rfl)⟩⟩
theorem okJ6_bitCount_0f7a4 : pz_ok mJ6_bitCount_0f7a4 1 := ⟨(pz_t2 216 rfl rfl), (pz_t1 15 rfl rfl), by decide +kernel, by decide, ⟨by decide +kernel, by decide +kernel⟩, by decide +kernel⟩
theorem sX1_47 : pz_ms "PullThePlug$Land" 47 mJ6_bitCount_0f7a4 1 := ⟨okJ6_bitCount_0f7a4, Or.inl (pz_t2 214 rfl rfl), (pz_t2 215 rfl rfl)⟩
theorem fX1_53 : pz_fl "PullThePlug$Land" 53 8 1 := ⟨RX8, TX8, 9, rfl, by decide, rfl, iX8, Or.inr ⟨_, (pz_n1 91 rfl)⟩⟩
theorem fX1_56 : pz_fl "PullThePlug$Land" 56 8 2 := ⟨RX8, TX8, 9, rfl, by decide, rfl, iX8, Or.inr ⟨_, (pz_n1 94 rfl)⟩⟩
theorem fX1_59 : pz_fl "PullThePlug$Land" 59 8 6 := ⟨RX8, TX8, 9, rfl, by decide, rfl, iX8, Or.inr ⟨_, (pz_n1 105 rfl)⟩⟩
theorem okX5_worth : pz_ok mX5_worth 6 := ⟨(pz_t2 223 rfl rfl), (pz_t1 9 rfl rfl), by decide +kernel, by decide, ⟨by decide +kernel, by decide +kernel⟩, by decide +kernel⟩
theorem vX1_62 : pz_mv "PullThePlug$Land" 62 mX5_worth 6 5 := ⟨okX5_worth, Or.inr ⟨_, (pz_n2 220 rfl)⟩, (pz_t2 222 rfl rfl), (pz_s3 2 rfl), TX5, 6, rfl⟩
theorem wX1_68 : pz_mw "PullThePlug$Land" 68 Lib.Math.min.name Lib.Math.min.code 2 := ⟨(pz_t2 231 rfl rfl), (pz_t2 150 rfl rfl), (pz_t1 16 rfl rfl), (pz_t2 151 rfl rfl)⟩
theorem wX1_74 : pz_mw "PullThePlug$Land" 74 Lib.Math.max.name Lib.Math.max.code 2 := ⟨(pz_t2 232 rfl rfl), (pz_t2 153 rfl rfl), (pz_t1 16 rfl rfl), (pz_t2 154 rfl rfl)⟩
theorem okX1_passDay : pz_ok mX1_passDay 2 := ⟨(pz_t2 203 rfl rfl), (pz_t1 4 rfl rfl), by decide +kernel, by decide, ⟨by decide +kernel, by decide +kernel⟩, by decide +kernel⟩
theorem vX1_77 : pz_mv "PullThePlug$Land" 77 mX1_passDay 2 1 := ⟨okX1_passDay, Or.inl (pz_t2 200 rfl rfl), (pz_t2 202 rfl rfl), (pz_s2 15 rfl), TX1, 5, rfl⟩
theorem fX1_18 : pz_fl "PullThePlug$Land" 18 1 2 := ⟨RX1, TX1, 5, rfl, by decide, rfl, iX1, Or.inl (pz_t1 66 rfl rfl)⟩
theorem okX1_runOf : pz_ok mX1_runOf 3 := ⟨(pz_t2 207 rfl rfl), (pz_t1 4 rfl rfl), by decide +kernel, by decide, ⟨by decide +kernel, by decide +kernel⟩, by decide +kernel⟩
theorem vX1_81 : pz_mv "PullThePlug$Land" 81 mX1_runOf 3 1 := ⟨okX1_runOf, Or.inl (pz_t2 204 rfl rfl), (pz_t2 206 rfl rfl), (pz_s3 0 rfl), TX1, 5, rfl⟩
theorem fX1_21 : pz_fl "PullThePlug$Land" 21 1 3 := ⟨RX1, TX1, 5, rfl, by decide, rfl, iX1, Or.inl (pz_t1 67 rfl rfl)⟩
theorem fX1_85 : pz_fl "PullThePlug$Land" 85 8 3 := ⟨RX8, TX8, 9, rfl, by decide, rfl, iX8, Or.inr ⟨_, (pz_n1 97 rfl)⟩⟩
theorem pX1_59 (y : MethodName) (hy : y.cls = "PullThePlug$Land") : pz_fp y 59 8 6 (.int) := ⟨RX8, TX8, 9, tyX8, rfl, by decide, rfl, iX8, tyX8_ok, nmX8, rfl, Or.inl ⟨rfl, by rw [hy]; exact Or.inr ⟨_, (pz_n1 105 rfl)⟩⟩⟩
theorem okX1_endDay : pz_ok mX1_endDay 2 := ⟨(pz_t2 236 rfl rfl), (pz_t1 4 rfl rfl), by decide +kernel, by decide, ⟨by decide +kernel, by decide +kernel⟩, by decide +kernel⟩
theorem vX1_88 : pz_mv "PullThePlug$Land" 88 mX1_endDay 2 1 := ⟨okX1_endDay, Or.inl (pz_t2 233 rfl rfl), (pz_t2 235 rfl rfl), (pz_s3 4 rfl), TX1, 5, rfl⟩
theorem fX1_92 : pz_fl "PullThePlug$Land" 92 8 7 := ⟨RX8, TX8, 9, rfl, by decide, rfl, iX8, Or.inr ⟨_, (pz_n1 109 rfl)⟩⟩
theorem pX1_92 (y : MethodName) (hy : y.cls = "PullThePlug$Land") : pz_fp y 92 8 7 (.int) := ⟨RX8, TX8, 9, tyX8, rfl, by decide, rfl, iX8, tyX8_ok, nmX8, rfl, Or.inl ⟨rfl, by rw [hy]; exact Or.inr ⟨_, (pz_n1 109 rfl)⟩⟩⟩
theorem fX1_95 : pz_fl "PullThePlug$Land" 95 8 8 := ⟨RX8, TX8, 9, rfl, by decide, rfl, iX8, Or.inr ⟨_, (pz_n1 112 rfl)⟩⟩
theorem pX1_95 (y : MethodName) (hy : y.cls = "PullThePlug$Land") : pz_fp y 95 8 8 (.int) := ⟨RX8, TX8, 9, tyX8, rfl, by decide, rfl, iX8, tyX8_ok, nmX8, rfl, Or.inl ⟨rfl, by rw [hy]; exact Or.inr ⟨_, (pz_n1 112 rfl)⟩⟩⟩
theorem okX1_totalOf : pz_ok mX1_totalOf 2 := ⟨(pz_t2 166 rfl rfl), (pz_t1 4 rfl rfl), by decide +kernel, by decide, ⟨by decide +kernel, by decide +kernel⟩, by decide +kernel⟩
theorem vX1_98 : pz_mv "PullThePlug$Land" 98 mX1_totalOf 2 1 := ⟨okX1_totalOf, Or.inl (pz_t2 163 rfl rfl), (pz_t2 165 rfl rfl), (pz_s2 9 rfl), TX1, 5, rfl⟩
theorem sX1_102 : pz_ms "PullThePlug$Land" 102 mX9_isIn 2 := ⟨okX9_isIn, Or.inr ⟨_, (pz_n2 167 rfl)⟩, (pz_t2 168 rfl rfl)⟩
theorem fX1_106 : pz_fl "PullThePlug$Land" 106 8 4 := ⟨RX8, TX8, 9, rfl, by decide, rfl, iX8, Or.inr ⟨_, (pz_n1 100 rfl)⟩⟩
theorem okX1_heldBy : pz_ok mX1_heldBy 2 := ⟨(pz_t3 121 rfl rfl), (pz_t1 4 rfl rfl), by decide +kernel, by decide, ⟨by decide +kernel, by decide +kernel⟩, by decide +kernel⟩
theorem vX1_109 : pz_mv "PullThePlug$Land" 109 mX1_heldBy 2 1 := ⟨okX1_heldBy, Or.inl (pz_t3 152 rfl rfl), (pz_t3 120 rfl rfl), (pz_s4 3 rfl), TX1, 5, rfl⟩
theorem wX2_1 : Cond.methodLink "PullThePlug$Past" 1 Lib.objectInit ∈ pz_tb := (pz_t1 137 rfl rfl)
theorem qX2_9 : Cond.classLink "PullThePlug$Past" 9 "PullThePlug$Water" ∈ pz_tb := (pz_t1 138 rfl rfl)
theorem pX2_11i : pz_fp ⟨"PullThePlug$Past", "<init>", "()V"⟩ 11 2 0 (.array (.object "PullThePlug$Water")) := ⟨RX2, TX2, 2, tyX2, rfl, by decide, rfl, iX2, tyX2_ok, nmX2, rfl, Or.inr ⟨rfl, rfl, rfl, (pz_t1 141 rfl rfl)⟩⟩
theorem fX2_11 : pz_fl "PullThePlug$Past" 11 2 0 := ⟨RX2, TX2, 2, rfl, by decide, rfl, iX2, Or.inl (pz_t1 141 rfl rfl)⟩
theorem nX2_9 : pz_nw "PullThePlug$Past" 9 8 9 [.null, .null, .null, .null, .null, .int 0, .int 0, .int 0, .int 0] := ⟨RX8, TX8, tyX8, rfl, iX8, tyX8_ok, (pz_t1 138 rfl rfl), (pz_t1 81 rfl rfl), (pz_t1 5 rfl rfl), by decide +kernel⟩
theorem okX8_init : pz_ok mX8_init 0 := ⟨(pz_t1 84 rfl rfl), (pz_t1 5 rfl rfl), by decide +kernel, by decide, ⟨by decide +kernel, by decide +kernel⟩, by decide +kernel⟩
theorem iX2_15 : pz_mi "PullThePlug$Past" 15 mX8_init 0 := ⟨okX8_init, Or.inr ⟨_, (pz_n1 140 rfl)⟩, (pz_t1 83 rfl rfl), rfl, rfl⟩
theorem fX2_16 : pz_fl "PullThePlug$Past" 16 2 1 := ⟨RX2, TX2, 2, rfl, by decide, rfl, iX2, Or.inl (pz_t1 142 rfl rfl)⟩
theorem pX2_16 (y : MethodName) (hy : y.cls = "PullThePlug$Past") : pz_fp y 16 2 1 (.int) := ⟨RX2, TX2, 2, tyX2, rfl, by decide, rfl, iX2, tyX2_ok, nmX2, rfl, Or.inl ⟨rfl, by rw [hy]; exact Or.inl (pz_t1 142 rfl rfl)⟩⟩
theorem okX8_copy : pz_ok mX8_copy 1 := ⟨(pz_t2 181 rfl rfl), (pz_t1 5 rfl rfl), by decide +kernel, by decide, ⟨by decide +kernel, by decide +kernel⟩, by decide +kernel⟩
theorem vX2_23 : pz_mv "PullThePlug$Past" 23 mX8_copy 1 8 := ⟨okX8_copy, Or.inr ⟨_, (pz_n3 21 rfl)⟩, (pz_t2 180 rfl rfl), (pz_s2 11 rfl), TX8, 9, rfl⟩
theorem okX2_dropOldest : pz_ok mX2_dropOldest 0 := ⟨(pz_t3 20 rfl rfl), (pz_t1 6 rfl rfl), by decide +kernel, by decide, ⟨by decide +kernel, by decide +kernel⟩, by decide +kernel⟩
theorem vX2_20 : pz_mv "PullThePlug$Past" 20 mX2_dropOldest 0 2 := ⟨okX2_dropOldest, Or.inl (pz_t3 17 rfl rfl), (pz_t3 19 rfl rfl), (pz_s3 8 rfl), TX2, 2, rfl⟩
theorem wX3_3 : Cond.methodLink "PullThePlug$Rings" 3 Lib.objectInit ∈ pz_tb := (pz_t1 153 rfl rfl)
theorem pX3_11i : pz_fp ⟨"PullThePlug$Rings", "<init>", "()V"⟩ 11 3 0 (.array (.int)) := ⟨RX3, TX3, 4, tyX3, rfl, by decide, rfl, iX3, tyX3_ok, nmX3, rfl, Or.inr ⟨rfl, rfl, rfl, (pz_t1 154 rfl rfl)⟩⟩
theorem pX3_15i : pz_fp ⟨"PullThePlug$Rings", "<init>", "()V"⟩ 15 3 1 (.array (.int)) := ⟨RX3, TX3, 4, tyX3, rfl, by decide, rfl, iX3, tyX3_ok, nmX3, rfl, Or.inr ⟨rfl, rfl, rfl, (pz_t1 155 rfl rfl)⟩⟩
theorem pX3_18i : pz_fp ⟨"PullThePlug$Rings", "<init>", "()V"⟩ 18 3 2 (.array (.int)) := ⟨RX3, TX3, 4, tyX3, rfl, by decide, rfl, iX3, tyX3_ok, nmX3, rfl, Or.inr ⟨rfl, rfl, rfl, (pz_t1 156 rfl rfl)⟩⟩
theorem fX3_21 : pz_fl "PullThePlug$Rings" 21 3 3 := ⟨RX3, TX3, 4, rfl, by decide, rfl, iX3, Or.inl (pz_t1 157 rfl rfl)⟩
theorem pX3_21 (y : MethodName) (hy : y.cls = "PullThePlug$Rings") : pz_fp y 21 3 3 (.int) := ⟨RX3, TX3, 4, tyX3, rfl, by decide, rfl, iX3, tyX3_ok, nmX3, rfl, Or.inl ⟨rfl, by rw [hy]; exact Or.inl (pz_t1 157 rfl rfl)⟩⟩
theorem fX3_11 : pz_fl "PullThePlug$Rings" 11 3 0 := ⟨RX3, TX3, 4, rfl, by decide, rfl, iX3, Or.inl (pz_t1 154 rfl rfl)⟩
theorem fX3_15 : pz_fl "PullThePlug$Rings" 15 3 1 := ⟨RX3, TX3, 4, rfl, by decide, rfl, iX3, Or.inl (pz_t1 155 rfl rfl)⟩
theorem fX3_18 : pz_fl "PullThePlug$Rings" 18 3 2 := ⟨RX3, TX3, 4, rfl, by decide, rfl, iX3, Or.inl (pz_t1 156 rfl rfl)⟩
theorem wX3_25 : pz_mw "PullThePlug$Rings" 25 Lib.Math.max.name Lib.Math.max.code 2 := ⟨(pz_t3 218 rfl rfl), (pz_t2 153 rfl rfl), (pz_t1 16 rfl rfl), (pz_t2 154 rfl rfl)⟩
theorem wX4_3 : Cond.methodLink "PullThePlug$Row" 3 Lib.objectInit ∈ pz_tb := (pz_t1 46 rfl rfl)
theorem pX4_9i : pz_fp ⟨"PullThePlug$Row", "<init>", "()V"⟩ 9 4 0 (.array (.long)) := ⟨RX4, TX4, 2, tyX4, rfl, by decide, rfl, iX4, tyX4_ok, nmX4, rfl, Or.inr ⟨rfl, rfl, rfl, (pz_t1 47 rfl rfl)⟩⟩
theorem okX4_has : pz_ok mX4_has 1 := ⟨(pz_t5 15 rfl rfl), (pz_t1 3 rfl rfl), by decide +kernel, by decide, ⟨by decide +kernel, by decide +kernel⟩, by decide +kernel⟩
theorem vX4_19 : pz_mv "PullThePlug$Row" 19 mX4_has 1 4 := ⟨okX4_has, Or.inl (pz_t5 20 rfl rfl), (pz_t5 14 rfl rfl), (pz_s6 7 rfl), TX4, 2, rfl⟩
theorem fX4_9 : pz_fl "PullThePlug$Row" 9 4 0 := ⟨RX4, TX4, 2, rfl, by decide, rfl, iX4, Or.inl (pz_t1 47 rfl rfl)⟩
theorem pX4_15 (y : MethodName) (hy : y.cls = "PullThePlug$Row") : pz_fp y 15 4 1 (.int) := ⟨RX4, TX4, 2, tyX4, rfl, by decide, rfl, iX4, tyX4_ok, nmX4, rfl, Or.inl ⟨rfl, by rw [hy]; exact Or.inl (pz_t1 48 rfl rfl)⟩⟩
theorem okX4_clear : pz_ok mX4_clear 0 := ⟨(pz_t3 33 rfl rfl), (pz_t1 3 rfl rfl), by decide +kernel, by decide, ⟨by decide +kernel, by decide +kernel⟩, by decide +kernel⟩
theorem vX4_23 : pz_mv "PullThePlug$Row" 23 mX4_clear 0 4 := ⟨okX4_clear, Or.inl (pz_t3 30 rfl rfl), (pz_t3 32 rfl rfl), (pz_s3 11 rfl), TX4, 2, rfl⟩
theorem okX4_add : pz_ok mX4_add 1 := ⟨(pz_t3 37 rfl rfl), (pz_t1 3 rfl rfl), by decide +kernel, by decide, ⟨by decide +kernel, by decide +kernel⟩, by decide +kernel⟩
theorem vX4_26 : pz_mv "PullThePlug$Row" 26 mX4_add 1 4 := ⟨okX4_add, Or.inl (pz_t3 34 rfl rfl), (pz_t3 36 rfl rfl), (pz_s3 12 rfl), TX4, 2, rfl⟩
theorem okX4_tell : pz_ok mX4_tell 1 := ⟨(pz_t3 29 rfl rfl), (pz_t1 3 rfl rfl), by decide +kernel, by decide, ⟨by decide +kernel, by decide +kernel⟩, by decide +kernel⟩
theorem vX4_30 : pz_mv "PullThePlug$Row" 30 mX4_tell 1 4 := ⟨okX4_tell, Or.inl (pz_t3 26 rfl rfl), (pz_t3 28 rfl rfl), (pz_s3 10 rfl), TX4, 2, rfl⟩
theorem okX4_tell_ : pz_ok mX4_tell_ 2 := ⟨(pz_t3 25 rfl rfl), (pz_t1 3 rfl rfl), by decide +kernel, by decide, ⟨by decide +kernel, by decide +kernel⟩, by decide +kernel⟩
theorem vX4_33 : pz_mv "PullThePlug$Row" 33 mX4_tell_ 2 4 := ⟨okX4_tell_, Or.inl (pz_t3 113 rfl rfl), (pz_t3 24 rfl rfl), (pz_s3 9 rfl), TX4, 2, rfl⟩
theorem wX5_5 : Cond.methodLink "PullThePlug$Rule" 5 Lib.objectInit ∈ pz_tb := (pz_t1 190 rfl rfl)
theorem pX5_11i : pz_fp ⟨"PullThePlug$Rule", "<init>", "()V"⟩ 11 5 0 (.array (.int)) := ⟨RX5, TX5, 6, tyX5, rfl, by decide, rfl, iX5, tyX5_ok, nmX5, rfl, Or.inr ⟨rfl, rfl, rfl, (pz_t1 191 rfl rfl)⟩⟩
theorem pX5_15i : pz_fp ⟨"PullThePlug$Rule", "<init>", "()V"⟩ 15 5 1 (.array (.int)) := ⟨RX5, TX5, 6, tyX5, rfl, by decide, rfl, iX5, tyX5_ok, nmX5, rfl, Or.inr ⟨rfl, rfl, rfl, (pz_t1 192 rfl rfl)⟩⟩
theorem pX5_18i : pz_fp ⟨"PullThePlug$Rule", "<init>", "()V"⟩ 18 5 2 (.array (.int)) := ⟨RX5, TX5, 6, tyX5, rfl, by decide, rfl, iX5, tyX5_ok, nmX5, rfl, Or.inr ⟨rfl, rfl, rfl, (pz_t1 193 rfl rfl)⟩⟩
theorem pX5_21 (y : MethodName) (hy : y.cls = "PullThePlug$Rule") : pz_fp y 21 5 4 (.object "PullThePlug$Text") := ⟨RX5, TX5, 6, tyX5, rfl, by decide, rfl, iX5, tyX5_ok, nmX5, rfl, Or.inl ⟨rfl, by rw [hy]; exact Or.inl (pz_t1 195 rfl rfl)⟩⟩
theorem pX5_25 (y : MethodName) (hy : y.cls = "PullThePlug$Rule") : pz_fp y 25 5 3 (.int) := ⟨RX5, TX5, 6, tyX5, rfl, by decide, rfl, iX5, tyX5_ok, nmX5, rfl, Or.inl ⟨rfl, by rw [hy]; exact Or.inl (pz_t1 194 rfl rfl)⟩⟩
theorem pX5_29 (y : MethodName) (hy : y.cls = "PullThePlug$Rule") : pz_fp y 29 5 5 (.int) := ⟨RX5, TX5, 6, tyX5, rfl, by decide, rfl, iX5, tyX5_ok, nmX5, rfl, Or.inl ⟨rfl, by rw [hy]; exact Or.inl (pz_t1 196 rfl rfl)⟩⟩
theorem okX6_size : pz_ok mX6_size 0 := ⟨(pz_t2 33 rfl rfl), (pz_t1 2 rfl rfl), by decide +kernel, by decide, ⟨by decide +kernel, by decide +kernel⟩, by decide +kernel⟩
theorem vX5_32 : pz_mv "PullThePlug$Rule" 32 mX6_size 0 6 := ⟨okX6_size, Or.inr ⟨_, (pz_n2 96 rfl)⟩, (pz_t2 32 rfl rfl), (pz_s1 1 rfl), TX6, 2, rfl⟩
theorem fX6_13 : pz_fl "PullThePlug$Text" 13 6 1 := ⟨RX6, TX6, 2, rfl, by decide, rfl, iX6, Or.inl (pz_t1 34 rfl rfl)⟩
theorem okX5_readExpression : pz_ok mX5_readExpression 1 := ⟨(pz_t2 100 rfl rfl), (pz_t1 9 rfl rfl), by decide +kernel, by decide, ⟨by decide +kernel, by decide +kernel⟩, by decide +kernel⟩
theorem vX5_38 : pz_mv "PullThePlug$Rule" 38 mX5_readExpression 1 5 := ⟨okX5_readExpression, Or.inl (pz_t2 97 rfl rfl), (pz_t2 99 rfl rfl), (pz_s1 13 rfl), TX5, 6, rfl⟩
theorem fX5_29 : pz_fl "PullThePlug$Rule" 29 5 5 := ⟨RX5, TX5, 6, rfl, by decide, rfl, iX5, Or.inl (pz_t1 196 rfl rfl)⟩
theorem fX5_21 : pz_fl "PullThePlug$Rule" 21 5 4 := ⟨RX5, TX5, 6, rfl, by decide, rfl, iX5, Or.inl (pz_t1 195 rfl rfl)⟩
theorem okX6_at : pz_ok mX6_at 2 := ⟨(pz_t2 61 rfl rfl), (pz_t1 2 rfl rfl), by decide +kernel, by decide, ⟨by decide +kernel, by decide +kernel⟩, by decide +kernel⟩
theorem vX5_42 : pz_mv "PullThePlug$Rule" 42 mX6_at 2 6 := ⟨okX6_at, Or.inr ⟨_, (pz_n2 117 rfl)⟩, (pz_t2 60 rfl rfl), (pz_s1 6 rfl), TX6, 2, rfl⟩
theorem fX5_25 : pz_fl "PullThePlug$Rule" 25 5 3 := ⟨RX5, TX5, 6, rfl, by decide, rfl, iX5, Or.inl (pz_t1 194 rfl rfl)⟩
theorem fX5_11 : pz_fl "PullThePlug$Rule" 11 5 0 := ⟨RX5, TX5, 6, rfl, by decide, rfl, iX5, Or.inl (pz_t1 191 rfl rfl)⟩
theorem okX5_readSum : pz_ok mX5_readSum 1 := ⟨(pz_t2 104 rfl rfl), (pz_t1 9 rfl rfl), by decide +kernel, by decide, ⟨by decide +kernel, by decide +kernel⟩, by decide +kernel⟩
theorem vX5_45 : pz_mv "PullThePlug$Rule" 45 mX5_readSum 1 5 := ⟨okX5_readSum, Or.inl (pz_t2 101 rfl rfl), (pz_t2 103 rfl rfl), (pz_s1 14 rfl), TX5, 6, rfl⟩
theorem okX5_here : pz_ok mX5_here 0 := ⟨(pz_t2 116 rfl rfl), (pz_t1 9 rfl rfl), by decide +kernel, by decide, ⟨by decide +kernel, by decide +kernel⟩, by decide +kernel⟩
theorem vX5_48 : pz_mv "PullThePlug$Rule" 48 mX5_here 0 5 := ⟨okX5_here, Or.inl (pz_t2 113 rfl rfl), (pz_t2 115 rfl rfl), (pz_s2 1 rfl), TX5, 6, rfl⟩
theorem okX5_addPart : pz_ok mX5_addPart 1 := ⟨(pz_t2 130 rfl rfl), (pz_t1 9 rfl rfl), by decide +kernel, by decide, ⟨by decide +kernel, by decide +kernel⟩, by decide +kernel⟩
theorem vX5_51 : pz_mv "PullThePlug$Rule" 51 mX5_addPart 1 5 := ⟨okX5_addPart, Or.inl (pz_t2 127 rfl rfl), (pz_t2 129 rfl rfl), (pz_s2 4 rfl), TX5, 6, rfl⟩
theorem okX5_readProduct : pz_ok mX5_readProduct 1 := ⟨(pz_t2 108 rfl rfl), (pz_t1 9 rfl rfl), by decide +kernel, by decide, ⟨by decide +kernel, by decide +kernel⟩, by decide +kernel⟩
theorem vX5_55 : pz_mv "PullThePlug$Rule" 55 mX5_readProduct 1 5 := ⟨okX5_readProduct, Or.inl (pz_t2 105 rfl rfl), (pz_t2 107 rfl rfl), (pz_s1 15 rfl), TX5, 6, rfl⟩
theorem okX5_readSigned : pz_ok mX5_readSigned 1 := ⟨(pz_t2 112 rfl rfl), (pz_t1 9 rfl rfl), by decide +kernel, by decide, ⟨by decide +kernel, by decide +kernel⟩, by decide +kernel⟩
theorem vX5_58 : pz_mv "PullThePlug$Rule" 58 mX5_readSigned 1 5 := ⟨okX5_readSigned, Or.inl (pz_t2 109 rfl rfl), (pz_t2 111 rfl rfl), (pz_s2 0 rfl), TX5, 6, rfl⟩
theorem okX5_readThing : pz_ok mX5_readThing 1 := ⟨(pz_t2 121 rfl rfl), (pz_t1 9 rfl rfl), by decide +kernel, by decide, ⟨by decide +kernel, by decide +kernel⟩, by decide +kernel⟩
theorem vX5_61 : pz_mv "PullThePlug$Rule" 61 mX5_readThing 1 5 := ⟨okX5_readThing, Or.inl (pz_t2 118 rfl rfl), (pz_t2 120 rfl rfl), (pz_s2 2 rfl), TX5, 6, rfl⟩
theorem okX9_isDigit : pz_ok mX9_isDigit 1 := ⟨(pz_t2 64 rfl rfl), (pz_t1 1 rfl rfl), by decide +kernel, by decide, ⟨by decide +kernel, by decide +kernel⟩, by decide +kernel⟩
theorem sX5_64 : pz_ms "PullThePlug$Rule" 64 mX9_isDigit 1 := ⟨okX9_isDigit, Or.inr ⟨_, (pz_n2 122 rfl)⟩, (pz_t2 63 rfl rfl)⟩
theorem okX5_thingOf : pz_ok mX5_thingOf 1 := ⟨(pz_t2 137 rfl rfl), (pz_t1 9 rfl rfl), by decide +kernel, by decide, ⟨by decide +kernel, by decide +kernel⟩, by decide +kernel⟩
theorem sX5_73 : pz_ms "PullThePlug$Rule" 73 mX5_thingOf 1 := ⟨okX5_thingOf, Or.inl (pz_t2 135 rfl rfl), (pz_t2 136 rfl rfl)⟩
theorem okX5_readInside : pz_ok mX5_readInside 1 := ⟨(pz_t2 134 rfl rfl), (pz_t1 9 rfl rfl), by decide +kernel, by decide, ⟨by decide +kernel, by decide +kernel⟩, by decide +kernel⟩
theorem vX5_70 : pz_mv "PullThePlug$Rule" 70 mX5_readInside 1 5 := ⟨okX5_readInside, Or.inl (pz_t2 131 rfl rfl), (pz_t2 133 rfl rfl), (pz_s2 5 rfl), TX5, 6, rfl⟩
theorem okX5_readNumber : pz_ok mX5_readNumber 0 := ⟨(pz_t2 126 rfl rfl), (pz_t1 9 rfl rfl), by decide +kernel, by decide, ⟨by decide +kernel, by decide +kernel⟩, by decide +kernel⟩
theorem vX5_67 : pz_mv "PullThePlug$Rule" 67 mX5_readNumber 0 5 := ⟨okX5_readNumber, Or.inl (pz_t2 123 rfl rfl), (pz_t2 125 rfl rfl), (pz_s2 3 rfl), TX5, 6, rfl⟩
theorem fX5_18 : pz_fl "PullThePlug$Rule" 18 5 2 := ⟨RX5, TX5, 6, rfl, by decide, rfl, iX5, Or.inl (pz_t1 193 rfl rfl)⟩
theorem fX5_15 : pz_fl "PullThePlug$Rule" 15 5 1 := ⟨RX5, TX5, 6, rfl, by decide, rfl, iX5, Or.inl (pz_t1 192 rfl rfl)⟩
theorem okX5_thing : pz_ok mX5_thing 1 := ⟨(pz_t2 227 rfl rfl), (pz_t1 9 rfl rfl), by decide +kernel, by decide, ⟨by decide +kernel, by decide +kernel⟩, by decide +kernel⟩
theorem vX5_77 : pz_mv "PullThePlug$Rule" 77 mX5_thing 1 5 := ⟨okX5_thing, Or.inl (pz_t2 224 rfl rfl), (pz_t2 226 rfl rfl), (pz_s3 3 rfl), TX5, 6, rfl⟩
theorem okX5_joined : pz_ok mX5_joined 3 := ⟨(pz_t2 230 rfl rfl), (pz_t1 9 rfl rfl), by decide +kernel, by decide, ⟨by decide +kernel, by decide +kernel⟩, by decide +kernel⟩
theorem sX5_80 : pz_ms "PullThePlug$Rule" 80 mX5_joined 3 := ⟨okX5_joined, Or.inl (pz_t2 228 rfl rfl), (pz_t2 229 rfl rfl)⟩
theorem wX6_1 : Cond.methodLink "PullThePlug$Text" 1 Lib.objectInit ∈ pz_tb := (pz_t1 32 rfl rfl)
theorem pX6_9i : pz_fp ⟨"PullThePlug$Text", "<init>", "()V"⟩ 9 6 0 (.array (.int)) := ⟨RX6, TX6, 2, tyX6, rfl, by decide, rfl, iX6, tyX6_ok, nmX6, rfl, Or.inr ⟨rfl, rfl, rfl, (pz_t1 33 rfl rfl)⟩⟩
theorem fX6_9 : pz_fl "PullThePlug$Text" 9 6 0 := ⟨RX6, TX6, 2, rfl, by decide, rfl, iX6, Or.inl (pz_t1 33 rfl rfl)⟩
theorem pX6_13 (y : MethodName) (hy : y.cls = "PullThePlug$Text") : pz_fp y 13 6 1 (.int) := ⟨RX6, TX6, 2, tyX6, rfl, by decide, rfl, iX6, tyX6_ok, nmX6, rfl, Or.inl ⟨rfl, by rw [hy]; exact Or.inl (pz_t1 34 rfl rfl)⟩⟩
theorem wX7_5 : Cond.methodLink "PullThePlug$Tidemarks" 5 Lib.objectInit ∈ pz_tb := (pz_t4 0 rfl rfl)
theorem pX7_11i : pz_fp ⟨"PullThePlug$Tidemarks", "<init>", "()V"⟩ 11 7 0 (.array (.int)) := ⟨RX7, TX7, 3, tyX7, rfl, by decide, rfl, iX7, tyX7_ok, nmX7, rfl, Or.inr ⟨rfl, rfl, rfl, (pz_t4 1 rfl rfl)⟩⟩
theorem pX7_15i : pz_fp ⟨"PullThePlug$Tidemarks", "<init>", "()V"⟩ 15 7 1 (.array (.int)) := ⟨RX7, TX7, 3, tyX7, rfl, by decide, rfl, iX7, tyX7_ok, nmX7, rfl, Or.inr ⟨rfl, rfl, rfl, (pz_t4 2 rfl rfl)⟩⟩
theorem fX7_18 : pz_fl "PullThePlug$Tidemarks" 18 7 2 := ⟨RX7, TX7, 3, rfl, by decide, rfl, iX7, Or.inl (pz_t4 3 rfl rfl)⟩
theorem pX7_18 (y : MethodName) (hy : y.cls = "PullThePlug$Tidemarks") : pz_fp y 18 7 2 (.int) := ⟨RX7, TX7, 3, tyX7, rfl, by decide, rfl, iX7, tyX7_ok, nmX7, rfl, Or.inl ⟨rfl, by rw [hy]; exact Or.inl (pz_t4 3 rfl rfl)⟩⟩
theorem fX7_11 : pz_fl "PullThePlug$Tidemarks" 11 7 0 := ⟨RX7, TX7, 3, rfl, by decide, rfl, iX7, Or.inl (pz_t4 1 rfl rfl)⟩
theorem wX7_22 : pz_cw "PullThePlug$Tidemarks" 22 := ⟨(pz_t4 23 rfl rfl), (pz_t2 184 rfl rfl), (pz_t2 183 rfl rfl), (pz_t1 17 rfl rfl)⟩
theorem fX7_15 : pz_fl "PullThePlug$Tidemarks" 15 7 1 := ⟨RX7, TX7, 3, rfl, by decide, rfl, iX7, Or.inl (pz_t4 2 rfl rfl)⟩
theorem wX7_28 : pz_mw "PullThePlug$Tidemarks" 28 Lib.Math.max.name Lib.Math.max.code 2 := ⟨(pz_t4 36 rfl rfl), (pz_t2 153 rfl rfl), (pz_t1 16 rfl rfl), (pz_t2 154 rfl rfl)⟩
theorem wX8_3 : Cond.methodLink "PullThePlug$Water" 3 Lib.objectInit ∈ pz_tb := (pz_t1 85 rfl rfl)
theorem pX8_9i : pz_fp ⟨"PullThePlug$Water", "<init>", "()V"⟩ 9 8 0 (.array (.int)) := ⟨RX8, TX8, 9, tyX8, rfl, by decide, rfl, iX8, tyX8_ok, nmX8, rfl, Or.inr ⟨rfl, rfl, rfl, (pz_t1 86 rfl rfl)⟩⟩
theorem pX8_15i : pz_fp ⟨"PullThePlug$Water", "<init>", "()V"⟩ 15 8 1 (.array (.int)) := ⟨RX8, TX8, 9, tyX8, rfl, by decide, rfl, iX8, tyX8_ok, nmX8, rfl, Or.inr ⟨rfl, rfl, rfl, (pz_t1 89 rfl rfl)⟩⟩
theorem pX8_18i : pz_fp ⟨"PullThePlug$Water", "<init>", "()V"⟩ 18 8 2 (.array (.int)) := ⟨RX8, TX8, 9, tyX8, rfl, by decide, rfl, iX8, tyX8_ok, nmX8, rfl, Or.inr ⟨rfl, rfl, rfl, (pz_t1 92 rfl rfl)⟩⟩
theorem pX8_21i : pz_fp ⟨"PullThePlug$Water", "<init>", "()V"⟩ 21 8 3 (.array (.int)) := ⟨RX8, TX8, 9, tyX8, rfl, by decide, rfl, iX8, tyX8_ok, nmX8, rfl, Or.inr ⟨rfl, rfl, rfl, (pz_t1 95 rfl rfl)⟩⟩
theorem pX8_24i : pz_fp ⟨"PullThePlug$Water", "<init>", "()V"⟩ 24 8 4 (.array (.int)) := ⟨RX8, TX8, 9, tyX8, rfl, by decide, rfl, iX8, tyX8_ok, nmX8, rfl, Or.inr ⟨rfl, rfl, rfl, (pz_t1 98 rfl rfl)⟩⟩
theorem fX8_9 : pz_fl "PullThePlug$Water" 9 8 0 := ⟨RX8, TX8, 9, rfl, by decide, rfl, iX8, Or.inl (pz_t1 86 rfl rfl)⟩
theorem wX8_27 : pz_cw "PullThePlug$Water" 27 := ⟨(pz_t2 182 rfl rfl), (pz_t2 184 rfl rfl), (pz_t2 183 rfl rfl), (pz_t1 17 rfl rfl)⟩
theorem fX8_15 : pz_fl "PullThePlug$Water" 15 8 1 := ⟨RX8, TX8, 9, rfl, by decide, rfl, iX8, Or.inl (pz_t1 89 rfl rfl)⟩
theorem fX8_18 : pz_fl "PullThePlug$Water" 18 8 2 := ⟨RX8, TX8, 9, rfl, by decide, rfl, iX8, Or.inl (pz_t1 92 rfl rfl)⟩
theorem fX8_21 : pz_fl "PullThePlug$Water" 21 8 3 := ⟨RX8, TX8, 9, rfl, by decide, rfl, iX8, Or.inl (pz_t1 95 rfl rfl)⟩
theorem fX8_24 : pz_fl "PullThePlug$Water" 24 8 4 := ⟨RX8, TX8, 9, rfl, by decide, rfl, iX8, Or.inl (pz_t1 98 rfl rfl)⟩
theorem pX8_33 (y : MethodName) (hy : y.cls = "PullThePlug$Water") : pz_fp y 33 8 5 (.int) := ⟨RX8, TX8, 9, tyX8, rfl, by decide, rfl, iX8, tyX8_ok, nmX8, rfl, Or.inl ⟨rfl, by rw [hy]; exact Or.inl (pz_t1 101 rfl rfl)⟩⟩
theorem fX8_37 : pz_fl "PullThePlug$Water" 37 8 6 := ⟨RX8, TX8, 9, rfl, by decide, rfl, iX8, Or.inl (pz_t1 104 rfl rfl)⟩
theorem pX8_37 (y : MethodName) (hy : y.cls = "PullThePlug$Water") : pz_fp y 37 8 6 (.int) := ⟨RX8, TX8, 9, tyX8, rfl, by decide, rfl, iX8, tyX8_ok, nmX8, rfl, Or.inl ⟨rfl, by rw [hy]; exact Or.inl (pz_t1 104 rfl rfl)⟩⟩
theorem fX8_40 : pz_fl "PullThePlug$Water" 40 8 7 := ⟨RX8, TX8, 9, rfl, by decide, rfl, iX8, Or.inl (pz_t1 107 rfl rfl)⟩
theorem pX8_40 (y : MethodName) (hy : y.cls = "PullThePlug$Water") : pz_fp y 40 8 7 (.int) := ⟨RX8, TX8, 9, tyX8, rfl, by decide, rfl, iX8, tyX8_ok, nmX8, rfl, Or.inl ⟨rfl, by rw [hy]; exact Or.inl (pz_t1 107 rfl rfl)⟩⟩
theorem fX8_43 : pz_fl "PullThePlug$Water" 43 8 8 := ⟨RX8, TX8, 9, rfl, by decide, rfl, iX8, Or.inl (pz_t1 110 rfl rfl)⟩
theorem pX8_43 (y : MethodName) (hy : y.cls = "PullThePlug$Water") : pz_fp y 43 8 8 (.int) := ⟨RX8, TX8, 9, tyX8, rfl, by decide, rfl, iX8, tyX8_ok, nmX8, rfl, Or.inl ⟨rfl, by rw [hy]; exact Or.inl (pz_t1 110 rfl rfl)⟩⟩
theorem cJ6_265 : Cond.constant "java/lang/Integer" 265 1431655765 ∈ pz_tb := (pz_t2 217 rfl rfl)
theorem cJ6_266 : Cond.constant "java/lang/Integer" 266 858993459 ∈ pz_tb := (pz_t2 218 rfl rfl)
theorem cJ6_267 : Cond.constant "java/lang/Integer" 267 252645135 ∈ pz_tb := (pz_t2 219 rfl rfl)
theorem wX9_1 : Cond.methodLink "PullThePlug" 1 Lib.objectInit ∈ pz_tb := (pz_t1 24 rfl rfl)
theorem nX9_7 : pz_nw "PullThePlug" 7 6 2 [.null, .int 0] := ⟨RX6, TX6, tyX6, rfl, iX6, tyX6_ok, (pz_t1 27 rfl rfl), (pz_t1 28 rfl rfl), (pz_t1 2 rfl rfl), by decide +kernel⟩
theorem okX6_init : pz_ok mX6_init 0 := ⟨(pz_t1 31 rfl rfl), (pz_t1 2 rfl rfl), by decide +kernel, by decide, ⟨by decide +kernel, by decide +kernel⟩, by decide +kernel⟩
theorem iX9_9 : pz_mi "PullThePlug" 9 mX6_init 0 := ⟨okX6_init, Or.inr ⟨_, (pz_n1 29 rfl)⟩, (pz_t1 30 rfl rfl), rfl, rfl⟩
theorem pX9_10i : pz_fp ⟨"PullThePlug", "<init>", "()V"⟩ 10 9 0 (.object "PullThePlug$Text") := ⟨RX9, TX9, 17, tyX9, rfl, by decide, rfl, iX9, tyX9_ok, nmX9, rfl, Or.inr ⟨rfl, rfl, rfl, (pz_t1 210 rfl rfl)⟩⟩
theorem nX9_16 : pz_nw "PullThePlug" 16 4 2 [.null, .int 0] := ⟨RX4, TX4, tyX4, rfl, iX4, tyX4_ok, (pz_t1 41 rfl rfl), (pz_t1 42 rfl rfl), (pz_t1 3 rfl rfl), by decide +kernel⟩
theorem okX4_init : pz_ok mX4_init 0 := ⟨(pz_t1 45 rfl rfl), (pz_t1 3 rfl rfl), by decide +kernel, by decide, ⟨by decide +kernel, by decide +kernel⟩, by decide +kernel⟩
theorem iX9_18 : pz_mi "PullThePlug" 18 mX4_init 0 := ⟨okX4_init, Or.inr ⟨_, (pz_n1 43 rfl)⟩, (pz_t1 44 rfl rfl), rfl, rfl⟩
theorem pX9_19i : pz_fp ⟨"PullThePlug", "<init>", "()V"⟩ 19 9 1 (.object "PullThePlug$Row") := ⟨RX9, TX9, 17, tyX9, rfl, by decide, rfl, iX9, tyX9_ok, nmX9, rfl, Or.inr ⟨rfl, rfl, rfl, (pz_t1 211 rfl rfl)⟩⟩
theorem nX9_23 : pz_nw "PullThePlug" 23 1 5 [.null, .null, .null, .null, .int 0] := ⟨RX1, TX1, tyX1, rfl, iX1, tyX1_ok, (pz_t1 55 rfl rfl), (pz_t1 56 rfl rfl), (pz_t1 4 rfl rfl), by decide +kernel⟩
theorem okX1_init : pz_ok mX1_init 0 := ⟨(pz_t1 59 rfl rfl), (pz_t1 4 rfl rfl), by decide +kernel, by decide, ⟨by decide +kernel, by decide +kernel⟩, by decide +kernel⟩
theorem iX9_25 : pz_mi "PullThePlug" 25 mX1_init 0 := ⟨okX1_init, Or.inr ⟨_, (pz_n1 57 rfl)⟩, (pz_t1 58 rfl rfl), rfl, rfl⟩
theorem pX9_26i : pz_fp ⟨"PullThePlug", "<init>", "()V"⟩ 26 9 2 (.object "PullThePlug$Land") := ⟨RX9, TX9, 17, tyX9, rfl, by decide, rfl, iX9, tyX9_ok, nmX9, rfl, Or.inr ⟨rfl, rfl, rfl, (pz_t1 212 rfl rfl)⟩⟩
theorem nX9_30 : pz_nw "PullThePlug" 30 8 9 [.null, .null, .null, .null, .null, .int 0, .int 0, .int 0, .int 0] := ⟨RX8, TX8, tyX8, rfl, iX8, tyX8_ok, (pz_t1 80 rfl rfl), (pz_t1 81 rfl rfl), (pz_t1 5 rfl rfl), by decide +kernel⟩
theorem iX9_32 : pz_mi "PullThePlug" 32 mX8_init 0 := ⟨okX8_init, Or.inr ⟨_, (pz_n1 82 rfl)⟩, (pz_t1 83 rfl rfl), rfl, rfl⟩
theorem pX9_33i : pz_fp ⟨"PullThePlug", "<init>", "()V"⟩ 33 9 3 (.object "PullThePlug$Water") := ⟨RX9, TX9, 17, tyX9, rfl, by decide, rfl, iX9, tyX9_ok, nmX9, rfl, Or.inr ⟨rfl, rfl, rfl, (pz_t1 213 rfl rfl)⟩⟩
theorem pX9_37i : pz_fp ⟨"PullThePlug", "<init>", "()V"⟩ 37 9 4 (.object "PullThePlug$Water") := ⟨RX9, TX9, 17, tyX9, rfl, by decide, rfl, iX9, tyX9_ok, nmX9, rfl, Or.inr ⟨rfl, rfl, rfl, (pz_t1 214 rfl rfl)⟩⟩
theorem pX9_40i : pz_fp ⟨"PullThePlug", "<init>", "()V"⟩ 40 9 5 (.object "PullThePlug$Water") := ⟨RX9, TX9, 17, tyX9, rfl, by decide, rfl, iX9, tyX9_ok, nmX9, rfl, Or.inr ⟨rfl, rfl, rfl, (pz_t1 215 rfl rfl)⟩⟩
theorem nX9_43 : pz_nw "PullThePlug" 43 2 2 [.null, .int 0] := ⟨RX2, TX2, tyX2, rfl, iX2, tyX2_ok, (pz_t1 132 rfl rfl), (pz_t1 133 rfl rfl), (pz_t1 6 rfl rfl), by decide +kernel⟩
theorem okX2_init : pz_ok mX2_init 0 := ⟨(pz_t1 136 rfl rfl), (pz_t1 6 rfl rfl), by decide +kernel, by decide, ⟨by decide +kernel, by decide +kernel⟩, by decide +kernel⟩
theorem iX9_45 : pz_mi "PullThePlug" 45 mX2_init 0 := ⟨okX2_init, Or.inr ⟨_, (pz_n1 134 rfl)⟩, (pz_t1 135 rfl rfl), rfl, rfl⟩
theorem pX9_46i : pz_fp ⟨"PullThePlug", "<init>", "()V"⟩ 46 9 6 (.object "PullThePlug$Past") := ⟨RX9, TX9, 17, tyX9, rfl, by decide, rfl, iX9, tyX9_ok, nmX9, rfl, Or.inr ⟨rfl, rfl, rfl, (pz_t1 216 rfl rfl)⟩⟩
theorem nX9_50 : pz_nw "PullThePlug" 50 3 4 [.null, .null, .null, .int 0] := ⟨RX3, TX3, tyX3, rfl, iX3, tyX3_ok, (pz_t1 148 rfl rfl), (pz_t1 149 rfl rfl), (pz_t1 7 rfl rfl), by decide +kernel⟩
theorem okX3_init : pz_ok mX3_init 0 := ⟨(pz_t1 152 rfl rfl), (pz_t1 7 rfl rfl), by decide +kernel, by decide, ⟨by decide +kernel, by decide +kernel⟩, by decide +kernel⟩
theorem iX9_52 : pz_mi "PullThePlug" 52 mX3_init 0 := ⟨okX3_init, Or.inr ⟨_, (pz_n1 150 rfl)⟩, (pz_t1 151 rfl rfl), rfl, rfl⟩
theorem pX9_53i : pz_fp ⟨"PullThePlug", "<init>", "()V"⟩ 53 9 7 (.object "PullThePlug$Rings") := ⟨RX9, TX9, 17, tyX9, rfl, by decide, rfl, iX9, tyX9_ok, nmX9, rfl, Or.inr ⟨rfl, rfl, rfl, (pz_t1 217 rfl rfl)⟩⟩
theorem nX9_57 : pz_nw "PullThePlug" 57 0 3 [.null, .null, .long 0] := ⟨RX0, TX0, tyX0, rfl, iX0, tyX0_ok, (pz_t1 167 rfl rfl), (pz_t1 168 rfl rfl), (pz_t1 8 rfl rfl), by decide +kernel⟩
theorem okX0_init : pz_ok mX0_init 0 := ⟨(pz_t1 171 rfl rfl), (pz_t1 8 rfl rfl), by decide +kernel, by decide, ⟨by decide +kernel, by decide +kernel⟩, by decide +kernel⟩
theorem iX9_59 : pz_mi "PullThePlug" 59 mX0_init 0 := ⟨okX0_init, Or.inr ⟨_, (pz_n1 169 rfl)⟩, (pz_t1 170 rfl rfl), rfl, rfl⟩
theorem pX9_60i : pz_fp ⟨"PullThePlug", "<init>", "()V"⟩ 60 9 8 (.object "PullThePlug$Duck") := ⟨RX9, TX9, 17, tyX9, rfl, by decide, rfl, iX9, tyX9_ok, nmX9, rfl, Or.inr ⟨rfl, rfl, rfl, (pz_t1 218 rfl rfl)⟩⟩
theorem qX9_30 : Cond.classLink "PullThePlug" 30 "PullThePlug$Water" ∈ pz_tb := (pz_t1 80 rfl rfl)
theorem pX9_64i : pz_fp ⟨"PullThePlug", "<init>", "()V"⟩ 64 9 9 (.array (.object "PullThePlug$Water")) := ⟨RX9, TX9, 17, tyX9, rfl, by decide, rfl, iX9, tyX9_ok, nmX9, rfl, Or.inr ⟨rfl, rfl, rfl, (pz_t1 219 rfl rfl)⟩⟩
theorem pX9_68i : pz_fp ⟨"PullThePlug", "<init>", "()V"⟩ 68 9 10 (.array (.int)) := ⟨RX9, TX9, 17, tyX9, rfl, by decide, rfl, iX9, tyX9_ok, nmX9, rfl, Or.inr ⟨rfl, rfl, rfl, (pz_t1 220 rfl rfl)⟩⟩
theorem pX9_72i : pz_fp ⟨"PullThePlug", "<init>", "()V"⟩ 72 9 11 (.array (.int)) := ⟨RX9, TX9, 17, tyX9, rfl, by decide, rfl, iX9, tyX9_ok, nmX9, rfl, Or.inr ⟨rfl, rfl, rfl, (pz_t1 221 rfl rfl)⟩⟩
theorem nX9_75 : pz_nw "PullThePlug" 75 5 6 [.null, .null, .null, .int 0, .null, .int 0] := ⟨RX5, TX5, tyX5, rfl, iX5, tyX5_ok, (pz_t1 185 rfl rfl), (pz_t1 186 rfl rfl), (pz_t1 9 rfl rfl), by decide +kernel⟩
theorem okX5_init : pz_ok mX5_init 0 := ⟨(pz_t1 189 rfl rfl), (pz_t1 9 rfl rfl), by decide +kernel, by decide, ⟨by decide +kernel, by decide +kernel⟩, by decide +kernel⟩
theorem iX9_77 : pz_mi "PullThePlug" 77 mX5_init 0 := ⟨okX5_init, Or.inr ⟨_, (pz_n1 187 rfl)⟩, (pz_t1 188 rfl rfl), rfl, rfl⟩
theorem pX9_78 (y : MethodName) (hy : y.cls = "PullThePlug") : pz_fp y 78 9 12 (.object "PullThePlug$Rule") := ⟨RX9, TX9, 17, tyX9, rfl, by decide, rfl, iX9, tyX9_ok, nmX9, rfl, Or.inl ⟨rfl, by rw [hy]; exact Or.inl (pz_t1 222 rfl rfl)⟩⟩
theorem pX9_82 (y : MethodName) (hy : y.cls = "PullThePlug") : pz_fp y 82 9 13 (.object "PullThePlug$Rule") := ⟨RX9, TX9, 17, tyX9, rfl, by decide, rfl, iX9, tyX9_ok, nmX9, rfl, Or.inl ⟨rfl, by rw [hy]; exact Or.inl (pz_t1 223 rfl rfl)⟩⟩
theorem fX9_64 : pz_fl "PullThePlug" 64 9 9 := ⟨RX9, TX9, 17, rfl, by decide, rfl, iX9, Or.inl (pz_t1 219 rfl rfl)⟩
theorem fX9_10 : pz_fl "PullThePlug" 10 9 0 := ⟨RX9, TX9, 17, rfl, by decide, rfl, iX9, Or.inl (pz_t1 210 rfl rfl)⟩
theorem okX6_add : pz_ok mX6_add 1 := ⟨(pz_t2 29 rfl rfl), (pz_t1 2 rfl rfl), by decide +kernel, by decide, ⟨by decide +kernel, by decide +kernel⟩, by decide +kernel⟩
theorem vX9_85 : pz_mv "PullThePlug" 85 mX6_add 1 6 := ⟨okX6_add, Or.inr ⟨_, (pz_n2 26 rfl)⟩, (pz_t2 28 rfl rfl), (pz_s1 0 rfl), TX6, 2, rfl⟩
theorem vX9_89 : pz_mv "PullThePlug" 89 mX6_size 0 6 := ⟨okX6_size, Or.inr ⟨_, (pz_n2 30 rfl)⟩, (pz_t2 32 rfl rfl), (pz_s1 1 rfl), TX6, 2, rfl⟩
theorem okX6_cut : pz_ok mX6_cut 1 := ⟨(pz_t2 41 rfl rfl), (pz_t1 2 rfl rfl), by decide +kernel, by decide, ⟨by decide +kernel, by decide +kernel⟩, by decide +kernel⟩
theorem vX9_93 : pz_mv "PullThePlug" 93 mX6_cut 1 6 := ⟨okX6_cut, Or.inr ⟨_, (pz_n2 38 rfl)⟩, (pz_t2 40 rfl rfl), (pz_s1 2 rfl), TX6, 2, rfl⟩
theorem okX9_linesTold : pz_ok mX9_linesTold 0 := ⟨(pz_t2 49 rfl rfl), (pz_t1 1 rfl rfl), by decide +kernel, by decide, ⟨by decide +kernel, by decide +kernel⟩, by decide +kernel⟩
theorem vX9_96 : pz_mv "PullThePlug" 96 mX9_linesTold 0 9 := ⟨okX9_linesTold, Or.inl (pz_t2 46 rfl rfl), (pz_t2 48 rfl rfl), (pz_s1 3 rfl), TX9, 17, rfl⟩
theorem okX6_clear : pz_ok mX6_clear 0 := ⟨(pz_t2 83 rfl rfl), (pz_t1 2 rfl rfl), by decide +kernel, by decide, ⟨by decide +kernel, by decide +kernel⟩, by decide +kernel⟩
theorem vX9_103 : pz_mv "PullThePlug" 103 mX6_clear 0 6 := ⟨okX6_clear, Or.inr ⟨_, (pz_n2 80 rfl)⟩, (pz_t2 82 rfl rfl), (pz_s1 10 rfl), TX6, 2, rfl⟩
theorem fX9_46 : pz_fl "PullThePlug" 46 9 6 := ⟨RX9, TX9, 17, rfl, by decide, rfl, iX9, Or.inl (pz_t1 216 rfl rfl)⟩
theorem okX2_clear : pz_ok mX2_clear 0 := ⟨(pz_t2 87 rfl rfl), (pz_t1 6 rfl rfl), by decide +kernel, by decide, ⟨by decide +kernel, by decide +kernel⟩, by decide +kernel⟩
theorem vX9_106 : pz_mv "PullThePlug" 106 mX2_clear 0 2 := ⟨okX2_clear, Or.inr ⟨_, (pz_n2 84 rfl)⟩, (pz_t2 86 rfl rfl), (pz_s1 11 rfl), TX2, 2, rfl⟩
theorem pX9_107 (y : MethodName) (hy : y.cls = "PullThePlug") : pz_fp y 107 9 15 (.int) := ⟨RX9, TX9, 17, tyX9, rfl, by decide, rfl, iX9, tyX9_ok, nmX9, rfl, Or.inl ⟨rfl, by rw [hy]; exact Or.inl (pz_t1 225 rfl rfl)⟩⟩
theorem okX9_addLake : pz_ok mX9_addLake 1 := ⟨(pz_t2 71 rfl rfl), (pz_t1 1 rfl rfl), by decide +kernel, by decide, ⟨by decide +kernel, by decide +kernel⟩, by decide +kernel⟩
theorem vX9_99 : pz_mv "PullThePlug" 99 mX9_addLake 1 9 := ⟨okX9_addLake, Or.inl (pz_t2 68 rfl rfl), (pz_t2 70 rfl rfl), (pz_s1 7 rfl), TX9, 17, rfl⟩
theorem fX9_82 : pz_fl "PullThePlug" 82 9 13 := ⟨RX9, TX9, 17, rfl, by decide, rfl, iX9, Or.inl (pz_t1 223 rfl rfl)⟩
theorem okX5_read : pz_ok mX5_read 1 := ⟨(pz_t2 95 rfl rfl), (pz_t1 9 rfl rfl), by decide +kernel, by decide, ⟨by decide +kernel, by decide +kernel⟩, by decide +kernel⟩
theorem vX9_111 : pz_mv "PullThePlug" 111 mX5_read 1 5 := ⟨okX5_read, Or.inr ⟨_, (pz_n2 92 rfl)⟩, (pz_t2 94 rfl rfl), (pz_s1 12 rfl), TX5, 6, rfl⟩
theorem fX9_78 : pz_fl "PullThePlug" 78 9 12 := ⟨RX9, TX9, 17, rfl, by decide, rfl, iX9, Or.inl (pz_t1 222 rfl rfl)⟩
theorem fX9_26 : pz_fl "PullThePlug" 26 9 2 := ⟨RX9, TX9, 17, rfl, by decide, rfl, iX9, Or.inl (pz_t1 212 rfl rfl)⟩
theorem vX9_115 : pz_mv "PullThePlug" 115 mX1_has 1 1 := ⟨okX1_has, Or.inr ⟨_, (pz_n2 192 rfl)⟩, (pz_t2 194 rfl rfl), (pz_s2 13 rfl), TX1, 5, rfl⟩
theorem fX9_121 : pz_fl "PullThePlug" 121 1 0 := ⟨RX1, TX1, 5, rfl, by decide, rfl, iX1, Or.inr ⟨_, (pz_n1 62 rfl)⟩⟩
theorem fX9_33 : pz_fl "PullThePlug" 33 9 3 := ⟨RX9, TX9, 17, rfl, by decide, rfl, iX9, Or.inl (pz_t1 213 rfl rfl)⟩
theorem fX9_124 : pz_fl "PullThePlug" 124 8 2 := ⟨RX8, TX8, 9, rfl, by decide, rfl, iX8, Or.inr ⟨_, (pz_n1 93 rfl)⟩⟩
theorem fX9_127 : pz_fl "PullThePlug" 127 8 3 := ⟨RX8, TX8, 9, rfl, by decide, rfl, iX8, Or.inr ⟨_, (pz_n1 96 rfl)⟩⟩
theorem fX9_130 : pz_fl "PullThePlug" 130 8 4 := ⟨RX8, TX8, 9, rfl, by decide, rfl, iX8, Or.inr ⟨_, (pz_n1 99 rfl)⟩⟩
theorem fX9_133 : pz_fl "PullThePlug" 133 1 1 := ⟨RX1, TX1, 5, rfl, by decide, rfl, iX1, Or.inr ⟨_, (pz_n1 65 rfl)⟩⟩
theorem fX9_136 : pz_fl "PullThePlug" 136 8 0 := ⟨RX8, TX8, 9, rfl, by decide, rfl, iX8, Or.inr ⟨_, (pz_n1 87 rfl)⟩⟩
theorem vX9_139 : pz_mv "PullThePlug" 139 mX8_isOut 1 8 := ⟨okX8_isOut, Or.inr ⟨_, (pz_n3 1 rfl)⟩, (pz_t2 211 rfl rfl), (pz_s3 1 rfl), TX8, 9, rfl⟩
theorem fX9_142 : pz_fl "PullThePlug" 142 8 1 := ⟨RX8, TX8, 9, rfl, by decide, rfl, iX8, Or.inr ⟨_, (pz_n1 90 rfl)⟩⟩
theorem vX9_145 : pz_mv "PullThePlug" 145 mX1_runOf 3 1 := ⟨okX1_runOf, Or.inr ⟨_, (pz_n5 4 rfl)⟩, (pz_t2 206 rfl rfl), (pz_s3 0 rfl), TX1, 5, rfl⟩
theorem okX9_fillFromSheet : pz_ok mX9_fillFromSheet 4 := ⟨(pz_t2 145 rfl rfl), (pz_t1 1 rfl rfl), by decide +kernel, by decide, ⟨by decide +kernel, by decide +kernel⟩, by decide +kernel⟩
theorem vX9_149 : pz_mv "PullThePlug" 149 mX9_fillFromSheet 4 9 := ⟨okX9_fillFromSheet, Or.inl (pz_t2 142 rfl rfl), (pz_t2 144 rfl rfl), (pz_s2 6 rfl), TX9, 17, rfl⟩
theorem okX1_total : pz_ok mX1_total 1 := ⟨(pz_t2 158 rfl rfl), (pz_t1 4 rfl rfl), by decide +kernel, by decide, ⟨by decide +kernel, by decide +kernel⟩, by decide +kernel⟩
theorem vX9_153 : pz_mv "PullThePlug" 153 mX1_total 1 1 := ⟨okX1_total, Or.inr ⟨_, (pz_n2 155 rfl)⟩, (pz_t2 157 rfl rfl), (pz_s2 7 rfl), TX1, 5, rfl⟩
theorem okX9_doAndRemember : pz_ok mX9_doAndRemember 3 := ⟨(pz_t2 177 rfl rfl), (pz_t1 1 rfl rfl), by decide +kernel, by decide, ⟨by decide +kernel, by decide +kernel⟩, by decide +kernel⟩
theorem vX9_157 : pz_mv "PullThePlug" 157 mX9_doAndRemember 3 9 := ⟨okX9_doAndRemember, Or.inl (pz_t2 174 rfl rfl), (pz_t2 176 rfl rfl), (pz_s2 10 rfl), TX9, 17, rfl⟩
theorem fX9_19 : pz_fl "PullThePlug" 19 9 1 := ⟨RX9, TX9, 17, rfl, by decide, rfl, iX9, Or.inl (pz_t1 211 rfl rfl)⟩
theorem fX9_161 : pz_fl "PullThePlug" 161 8 7 := ⟨RX8, TX8, 9, rfl, by decide, rfl, iX8, Or.inr ⟨_, (pz_n1 108 rfl)⟩⟩
theorem fX9_37 : pz_fl "PullThePlug" 37 9 4 := ⟨RX9, TX9, 17, rfl, by decide, rfl, iX9, Or.inl (pz_t1 214 rfl rfl)⟩
theorem fX9_164 : pz_fl "PullThePlug" 164 8 8 := ⟨RX8, TX8, 9, rfl, by decide, rfl, iX8, Or.inr ⟨_, (pz_n1 111 rfl)⟩⟩
theorem vX9_167 : pz_mv "PullThePlug" 167 mX4_tell_ 2 4 := ⟨okX4_tell_, Or.inr ⟨_, (pz_n3 22 rfl)⟩, (pz_t3 24 rfl rfl), (pz_s3 9 rfl), TX4, 2, rfl⟩
theorem okX9_yearFault : pz_ok mX9_yearFault 0 := ⟨(pz_t3 65 rfl rfl), (pz_t1 1 rfl rfl), by decide +kernel, by decide, ⟨by decide +kernel, by decide +kernel⟩, by decide +kernel⟩
theorem vX9_171 : pz_mv "PullThePlug" 171 mX9_yearFault 0 9 := ⟨okX9_yearFault, Or.inl (pz_t3 62 rfl rfl), (pz_t3 64 rfl rfl), (pz_s3 13 rfl), TX9, 17, rfl⟩
theorem vX9_174 : pz_mv "PullThePlug" 174 mX8_copy 1 8 := ⟨okX8_copy, Or.inr ⟨_, (pz_n2 178 rfl)⟩, (pz_t2 180 rfl rfl), (pz_s2 11 rfl), TX8, 9, rfl⟩
theorem okX9_doTold : pz_ok mX9_doTold 1 := ⟨(pz_t3 72 rfl rfl), (pz_t1 1 rfl rfl), by decide +kernel, by decide, ⟨by decide +kernel, by decide +kernel⟩, by decide +kernel⟩
theorem vX9_178 : pz_mv "PullThePlug" 178 mX9_doTold 1 9 := ⟨okX9_doTold, Or.inl (pz_t3 69 rfl rfl), (pz_t3 71 rfl rfl), (pz_s3 14 rfl), TX9, 17, rfl⟩
theorem okX2_add : pz_ok mX2_add 1 := ⟨(pz_t3 16 rfl rfl), (pz_t1 6 rfl rfl), by decide +kernel, by decide, ⟨by decide +kernel, by decide +kernel⟩, by decide +kernel⟩
theorem vX9_189 : pz_mv "PullThePlug" 189 mX2_add 1 2 := ⟨okX2_add, Or.inr ⟨_, (pz_n3 13 rfl)⟩, (pz_t3 15 rfl rfl), (pz_s3 7 rfl), TX2, 2, rfl⟩
theorem vX9_182 : pz_mv "PullThePlug" 182 mX6_at 2 6 := ⟨okX6_at, Or.inr ⟨_, (pz_n2 58 rfl)⟩, (pz_t2 60 rfl rfl), (pz_s1 6 rfl), TX6, 2, rfl⟩
theorem okX9_actSigns : pz_ok mX9_actSigns 1 := ⟨(pz_t3 68 rfl rfl), (pz_t1 1 rfl rfl), by decide +kernel, by decide, ⟨by decide +kernel, by decide +kernel⟩, by decide +kernel⟩
theorem sX9_186 : pz_ms "PullThePlug" 186 mX9_actSigns 1 := ⟨okX9_actSigns, Or.inl (pz_t3 66 rfl rfl), (pz_t3 67 rfl rfl)⟩
theorem okX2_takeInto : pz_ok mX2_takeInto 1 := ⟨(pz_t3 80 rfl rfl), (pz_t1 6 rfl rfl), by decide +kernel, by decide, ⟨by decide +kernel, by decide +kernel⟩, by decide +kernel⟩
theorem vX9_191 : pz_mv "PullThePlug" 191 mX2_takeInto 1 2 := ⟨okX2_takeInto, Or.inr ⟨_, (pz_n3 77 rfl)⟩, (pz_t3 79 rfl rfl), (pz_s3 15 rfl), TX2, 2, rfl⟩
theorem okX2_size : pz_ok mX2_size 0 := ⟨(pz_t3 84 rfl rfl), (pz_t1 6 rfl rfl), by decide +kernel, by decide, ⟨by decide +kernel, by decide +kernel⟩, by decide +kernel⟩
theorem vX9_195 : pz_mv "PullThePlug" 195 mX2_size 0 2 := ⟨okX2_size, Or.inr ⟨_, (pz_n3 81 rfl)⟩, (pz_t3 83 rfl rfl), (pz_s4 0 rfl), TX2, 2, rfl⟩
theorem okX9_isWithin : pz_ok mX9_isWithin 3 := ⟨(pz_t2 191 rfl rfl), (pz_t1 1 rfl rfl), by decide +kernel, by decide, ⟨by decide +kernel, by decide +kernel⟩, by decide +kernel⟩
theorem sX9_196 : pz_ms "PullThePlug" 196 mX9_isWithin 3 := ⟨okX9_isWithin, Or.inl (pz_t2 189 rfl rfl), (pz_t2 190 rfl rfl)⟩
theorem okX9_startTrial : pz_ok mX9_startTrial 0 := ⟨(pz_t3 92 rfl rfl), (pz_t1 1 rfl rfl), by decide +kernel, by decide, ⟨by decide +kernel, by decide +kernel⟩, by decide +kernel⟩
theorem vX9_200 : pz_mv "PullThePlug" 200 mX9_startTrial 0 9 := ⟨okX9_startTrial, Or.inl (pz_t3 89 rfl rfl), (pz_t3 91 rfl rfl), (pz_s4 1 rfl), TX9, 17, rfl⟩
theorem fX9_40 : pz_fl "PullThePlug" 40 9 5 := ⟨RX9, TX9, 17, rfl, by decide, rfl, iX9, Or.inl (pz_t1 215 rfl rfl)⟩
theorem okX1_passDays : pz_ok mX1_passDays 3 := ⟨(pz_t2 199 rfl rfl), (pz_t1 4 rfl rfl), by decide +kernel, by decide, ⟨by decide +kernel, by decide +kernel⟩, by decide +kernel⟩
theorem vX9_203 : pz_mv "PullThePlug" 203 mX1_passDays 3 1 := ⟨okX1_passDays, Or.inr ⟨_, (pz_n2 196 rfl)⟩, (pz_t2 198 rfl rfl), (pz_s2 14 rfl), TX1, 5, rfl⟩
theorem vX9_207 : pz_mv "PullThePlug" 207 mX4_clear 0 4 := ⟨okX4_clear, Or.inr ⟨_, (pz_n3 93 rfl)⟩, (pz_t3 32 rfl rfl), (pz_s3 11 rfl), TX4, 2, rfl⟩
theorem vX9_208 : pz_mv "PullThePlug" 208 mX1_size 0 1 := ⟨okX1_size, Or.inr ⟨_, (pz_n2 50 rfl)⟩, (pz_t2 52 rfl rfl), (pz_s1 4 rfl), TX1, 5, rfl⟩
theorem vX9_209 : pz_mv "PullThePlug" 209 mX4_add 1 4 := ⟨okX4_add, Or.inr ⟨_, (pz_n3 94 rfl)⟩, (pz_t3 36 rfl rfl), (pz_s3 12 rfl), TX4, 2, rfl⟩
theorem vX9_214 : pz_mv "PullThePlug" 214 mX1_passDay 2 1 := ⟨okX1_passDay, Or.inr ⟨_, (pz_n3 100 rfl)⟩, (pz_t2 202 rfl rfl), (pz_s2 15 rfl), TX1, 5, rfl⟩
theorem vX9_212 : pz_mv "PullThePlug" 212 mX4_tell 1 4 := ⟨okX4_tell, Or.inr ⟨_, (pz_n3 99 rfl)⟩, (pz_t3 28 rfl rfl), (pz_s3 10 rfl), TX4, 2, rfl⟩
theorem okX4_tell__ : pz_ok mX4_tell__ 3 := ⟨(pz_t3 112 rfl rfl), (pz_t1 3 rfl rfl), by decide +kernel, by decide, ⟨by decide +kernel, by decide +kernel⟩, by decide +kernel⟩
theorem vX9_218 : pz_mv "PullThePlug" 218 mX4_tell__ 3 4 := ⟨okX4_tell__, Or.inr ⟨_, (pz_n3 109 rfl)⟩, (pz_t3 111 rfl rfl), (pz_s4 2 rfl), TX4, 2, rfl⟩
theorem okX9_isKing : pz_ok mX9_isKing 1 := ⟨(pz_t3 12 rfl rfl), (pz_t1 1 rfl rfl), by decide +kernel, by decide, ⟨by decide +kernel, by decide +kernel⟩, by decide +kernel⟩
theorem sX9_221 : pz_ms "PullThePlug" 221 mX9_isKing 1 := ⟨okX9_isKing, Or.inl (pz_t3 10 rfl rfl), (pz_t3 11 rfl rfl)⟩
theorem vX9_224 : pz_mv "PullThePlug" 224 mX1_heldBy 2 1 := ⟨okX1_heldBy, Or.inr ⟨_, (pz_n3 118 rfl)⟩, (pz_t3 120 rfl rfl), (pz_s4 3 rfl), TX1, 5, rfl⟩
theorem vX9_232 : pz_mv "PullThePlug" 232 mX1_totalOf 2 1 := ⟨okX1_totalOf, Or.inr ⟨_, (pz_n3 123 rfl)⟩, (pz_t2 165 rfl rfl), (pz_s2 9 rfl), TX1, 5, rfl⟩
theorem sX9_228 : pz_ms "PullThePlug" 228 mX9_isIn 2 := ⟨okX9_isIn, Or.inl (pz_t3 122 rfl rfl), (pz_t2 168 rfl rfl)⟩
theorem sX9_238 : pz_ms "PullThePlug" 238 mJ6_bitCount_0f7a4 1 := ⟨okJ6_bitCount_0f7a4, Or.inl (pz_t3 2 rfl rfl), (pz_t2 215 rfl rfl)⟩
theorem okX1_dry : pz_ok mX1_dry 1 := ⟨(pz_t3 139 rfl rfl), (pz_t1 4 rfl rfl), by decide +kernel, by decide, ⟨by decide +kernel, by decide +kernel⟩, by decide +kernel⟩
theorem vX9_235 : pz_mv "PullThePlug" 235 mX1_dry 1 1 := ⟨okX1_dry, Or.inr ⟨_, (pz_n3 136 rfl)⟩, (pz_t3 138 rfl rfl), (pz_s4 4 rfl), TX1, 5, rfl⟩
theorem okX1_richestKing : pz_ok mX1_richestKing 1 := ⟨(pz_t3 151 rfl rfl), (pz_t1 4 rfl rfl), by decide +kernel, by decide, ⟨by decide +kernel, by decide +kernel⟩, by decide +kernel⟩
theorem vX9_243 : pz_mv "PullThePlug" 243 mX1_richestKing 1 1 := ⟨okX1_richestKing, Or.inr ⟨_, (pz_n3 148 rfl)⟩, (pz_t3 150 rfl rfl), (pz_s4 5 rfl), TX1, 5, rfl⟩
theorem wX9_246 : pz_mw "PullThePlug" 246 Lib.Math.max.name Lib.Math.max.code 2 := ⟨(pz_t2 152 rfl rfl), (pz_t2 153 rfl rfl), (pz_t1 16 rfl rfl), (pz_t2 154 rfl rfl)⟩
theorem okX9_fewestTouched : pz_ok mX9_fewestTouched 3 := ⟨(pz_t3 164 rfl rfl), (pz_t1 1 rfl rfl), by decide +kernel, by decide, ⟨by decide +kernel, by decide +kernel⟩, by decide +kernel⟩
theorem vX9_251 : pz_mv "PullThePlug" 251 mX9_fewestTouched 3 9 := ⟨okX9_fewestTouched, Or.inl (pz_t3 161 rfl rfl), (pz_t3 163 rfl rfl), (pz_s4 6 rfl), TX9, 17, rfl⟩
theorem okX1_hasAll : pz_ok mX1_hasAll 1 := ⟨(pz_t3 173 rfl rfl), (pz_t1 4 rfl rfl), by decide +kernel, by decide, ⟨by decide +kernel, by decide +kernel⟩, by decide +kernel⟩
theorem vX9_254 : pz_mv "PullThePlug" 254 mX1_hasAll 1 1 := ⟨okX1_hasAll, Or.inr ⟨_, (pz_n3 170 rfl)⟩, (pz_t3 172 rfl rfl), (pz_s4 7 rfl), TX1, 5, rfl⟩
theorem vX9_257 : pz_mv "PullThePlug" 257 mX1_all 0 1 := ⟨okX1_all, Or.inr ⟨_, (pz_n3 165 rfl)⟩, (pz_t2 161 rfl rfl), (pz_s2 8 rfl), TX1, 5, rfl⟩
theorem pX9_260 (y : MethodName) (hy : y.cls = "PullThePlug") : pz_fp y 260 8 5 (.int) := ⟨RX8, TX8, 9, tyX8, rfl, by decide, rfl, iX8, tyX8_ok, nmX8, rfl, Or.inl ⟨rfl, by rw [hy]; exact Or.inr ⟨_, (pz_n1 103 rfl)⟩⟩⟩
theorem fX9_260 : pz_fl "PullThePlug" 260 8 5 := ⟨RX8, TX8, 9, rfl, by decide, rfl, iX8, Or.inr ⟨_, (pz_n1 103 rfl)⟩⟩
theorem fX9_53 : pz_fl "PullThePlug" 53 9 7 := ⟨RX9, TX9, 17, rfl, by decide, rfl, iX9, Or.inl (pz_t1 217 rfl rfl)⟩
theorem okX3_add : pz_ok mX3_add 3 := ⟨(pz_t3 193 rfl rfl), (pz_t1 7 rfl rfl), by decide +kernel, by decide, ⟨by decide +kernel, by decide +kernel⟩, by decide +kernel⟩
theorem vX9_263 : pz_mv "PullThePlug" 263 mX3_add 3 3 := ⟨okX3_add, Or.inr ⟨_, (pz_n3 190 rfl)⟩, (pz_t3 192 rfl rfl), (pz_s4 8 rfl), TX3, 4, rfl⟩
theorem okX3_size : pz_ok mX3_size 0 := ⟨(pz_t3 197 rfl rfl), (pz_t1 7 rfl rfl), by decide +kernel, by decide, ⟨by decide +kernel, by decide +kernel⟩, by decide +kernel⟩
theorem vX9_265 : pz_mv "PullThePlug" 265 mX3_size 0 3 := ⟨okX3_size, Or.inr ⟨_, (pz_n3 194 rfl)⟩, (pz_t3 196 rfl rfl), (pz_s4 9 rfl), TX3, 4, rfl⟩
theorem okX3_clear : pz_ok mX3_clear 0 := ⟨(pz_t3 205 rfl rfl), (pz_t1 7 rfl rfl), by decide +kernel, by decide, ⟨by decide +kernel, by decide +kernel⟩, by decide +kernel⟩
theorem vX9_266 : pz_mv "PullThePlug" 266 mX3_clear 0 3 := ⟨okX3_clear, Or.inr ⟨_, (pz_n3 202 rfl)⟩, (pz_t3 204 rfl rfl), (pz_s4 10 rfl), TX3, 4, rfl⟩
theorem okX9_trialFitsRings : pz_ok mX9_trialFitsRings 0 := ⟨(pz_t3 213 rfl rfl), (pz_t1 1 rfl rfl), by decide +kernel, by decide, ⟨by decide +kernel, by decide +kernel⟩, by decide +kernel⟩
theorem vX9_267 : pz_mv "PullThePlug" 267 mX9_trialFitsRings 0 9 := ⟨okX9_trialFitsRings, Or.inl (pz_t3 210 rfl rfl), (pz_t3 212 rfl rfl), (pz_s4 11 rfl), TX9, 17, rfl⟩
theorem okX9_startLeakTrial : pz_ok mX9_startLeakTrial 2 := ⟨(pz_t3 226 rfl rfl), (pz_t1 1 rfl rfl), by decide +kernel, by decide, ⟨by decide +kernel, by decide +kernel⟩, by decide +kernel⟩
theorem vX9_271 : pz_mv "PullThePlug" 271 mX9_startLeakTrial 2 9 := ⟨okX9_startLeakTrial, Or.inl (pz_t3 223 rfl rfl), (pz_t3 225 rfl rfl), (pz_s4 14 rfl), TX9, 17, rfl⟩
theorem okX9_takeTidemarks : pz_ok mX9_takeTidemarks 0 := ⟨(pz_t3 234 rfl rfl), (pz_t1 1 rfl rfl), by decide +kernel, by decide, ⟨by decide +kernel, by decide +kernel⟩, by decide +kernel⟩
theorem vX9_275 : pz_mv "PullThePlug" 275 mX9_takeTidemarks 0 9 := ⟨okX9_takeTidemarks, Or.inl (pz_t3 231 rfl rfl), (pz_t3 233 rfl rfl), (pz_s4 15 rfl), TX9, 17, rfl⟩
theorem okX7_size : pz_ok mX7_size 0 := ⟨(pz_t4 31 rfl rfl), (pz_t1 18 rfl rfl), by decide +kernel, by decide, ⟨by decide +kernel, by decide +kernel⟩, by decide +kernel⟩
theorem vX9_279 : pz_mv "PullThePlug" 279 mX7_size 0 7 := ⟨okX7_size, Or.inr ⟨_, (pz_n4 28 rfl)⟩, (pz_t4 30 rfl rfl), (pz_s5 4 rfl), TX7, 3, rfl⟩
theorem okX7_mostAlike : pz_ok mX7_mostAlike 2 := ⟨(pz_t4 35 rfl rfl), (pz_t1 18 rfl rfl), by decide +kernel, by decide, ⟨by decide +kernel, by decide +kernel⟩, by decide +kernel⟩
theorem vX9_282 : pz_mv "PullThePlug" 282 mX7_mostAlike 2 7 := ⟨okX7_mostAlike, Or.inr ⟨_, (pz_n4 32 rfl)⟩, (pz_t4 34 rfl rfl), (pz_s5 5 rfl), TX7, 3, rfl⟩
theorem okX9_countByKing : pz_ok mX9_countByKing 1 := ⟨(pz_t4 48 rfl rfl), (pz_t1 1 rfl rfl), by decide +kernel, by decide, ⟨by decide +kernel, by decide +kernel⟩, by decide +kernel⟩
theorem vX9_285 : pz_mv "PullThePlug" 285 mX9_countByKing 1 9 := ⟨okX9_countByKing, Or.inl (pz_t4 45 rfl rfl), (pz_t4 47 rfl rfl), (pz_s5 6 rfl), TX9, 17, rfl⟩
theorem okX9_isLeastTreaty : pz_ok mX9_isLeastTreaty 2 := ⟨(pz_t4 52 rfl rfl), (pz_t1 1 rfl rfl), by decide +kernel, by decide, ⟨by decide +kernel, by decide +kernel⟩, by decide +kernel⟩
theorem vX9_288 : pz_mv "PullThePlug" 288 mX9_isLeastTreaty 2 9 := ⟨okX9_isLeastTreaty, Or.inl (pz_t4 49 rfl rfl), (pz_t4 51 rfl rfl), (pz_s5 7 rfl), TX9, 17, rfl⟩
theorem wX9_291 : pz_mw "PullThePlug" 291 Lib.Math.abs.name Lib.Math.abs.code 1 := ⟨(pz_t4 61 rfl rfl), (pz_t4 62 rfl rfl), (pz_t1 16 rfl rfl), (pz_t4 63 rfl rfl)⟩
theorem okX9_heirsFault : pz_ok mX9_heirsFault 0 := ⟨(pz_t4 75 rfl rfl), (pz_t1 1 rfl rfl), by decide +kernel, by decide, ⟨by decide +kernel, by decide +kernel⟩, by decide +kernel⟩
theorem vX9_294 : pz_mv "PullThePlug" 294 mX9_heirsFault 0 9 := ⟨okX9_heirsFault, Or.inl (pz_t4 72 rfl rfl), (pz_t4 74 rfl rfl), (pz_s5 8 rfl), TX9, 17, rfl⟩
theorem okX9_weighHeirs : pz_ok mX9_weighHeirs 1 := ⟨(pz_t4 79 rfl rfl), (pz_t1 1 rfl rfl), by decide +kernel, by decide, ⟨by decide +kernel, by decide +kernel⟩, by decide +kernel⟩
theorem vX9_297 : pz_mv "PullThePlug" 297 mX9_weighHeirs 1 9 := ⟨okX9_weighHeirs, Or.inl (pz_t4 76 rfl rfl), (pz_t4 78 rfl rfl), (pz_s5 9 rfl), TX9, 17, rfl⟩
theorem okX9_tellHeirs : pz_ok mX9_tellHeirs 1 := ⟨(pz_t4 95 rfl rfl), (pz_t1 1 rfl rfl), by decide +kernel, by decide, ⟨by decide +kernel, by decide +kernel⟩, by decide +kernel⟩
theorem vX9_300 : pz_mv "PullThePlug" 300 mX9_tellHeirs 1 9 := ⟨okX9_tellHeirs, Or.inl (pz_t4 92 rfl rfl), (pz_t4 94 rfl rfl), (pz_s5 13 rfl), TX9, 17, rfl⟩
theorem fX9_72 : pz_fl "PullThePlug" 72 9 11 := ⟨RX9, TX9, 17, rfl, by decide, rfl, iX9, Or.inl (pz_t1 221 rfl rfl)⟩
theorem fX9_60 : pz_fl "PullThePlug" 60 9 8 := ⟨RX9, TX9, 17, rfl, by decide, rfl, iX9, Or.inl (pz_t1 218 rfl rfl)⟩
theorem okX0_sitOn : pz_ok mX0_sitOn 1 := ⟨(pz_t4 103 rfl rfl), (pz_t1 8 rfl rfl), by decide +kernel, by decide, ⟨by decide +kernel, by decide +kernel⟩, by decide +kernel⟩
theorem vX9_303 : pz_mv "PullThePlug" 303 mX0_sitOn 1 0 := ⟨okX0_sitOn, Or.inr ⟨_, (pz_n4 100 rfl)⟩, (pz_t4 102 rfl rfl), (pz_s5 14 rfl), TX0, 3, rfl⟩
theorem fX9_310 : pz_fl "PullThePlug" 310 0 0 := ⟨RX0, TX0, 3, rfl, by decide, rfl, iX0, Or.inr ⟨_, (pz_n1 174 rfl)⟩⟩
theorem fX9_314 : pz_fl "PullThePlug" 314 0 2 := ⟨RX0, TX0, 3, rfl, by decide, rfl, iX0, Or.inr ⟨_, (pz_n1 177 rfl)⟩⟩
theorem okX9_commonDivisor : pz_ok mX9_commonDivisor 2 := ⟨(pz_t4 119 rfl rfl), (pz_t1 1 rfl rfl), by decide +kernel, by decide, ⟨by decide +kernel, by decide +kernel⟩, by decide +kernel⟩
theorem sX9_318 : pz_ms "PullThePlug" 318 mX9_commonDivisor 2 := ⟨okX9_commonDivisor, Or.inl (pz_t4 117 rfl rfl), (pz_t4 118 rfl rfl)⟩
theorem okX0_swim : pz_ok mX0_swim 1 := ⟨(pz_t4 107 rfl rfl), (pz_t1 8 rfl rfl), by decide +kernel, by decide, ⟨by decide +kernel, by decide +kernel⟩, by decide +kernel⟩
theorem vX9_306 : pz_mv "PullThePlug" 306 mX0_swim 1 0 := ⟨okX0_swim, Or.inr ⟨_, (pz_n4 104 rfl)⟩, (pz_t4 106 rfl rfl), (pz_s5 15 rfl), TX0, 3, rfl⟩
theorem wX9_322 : pz_mw "PullThePlug" 322 Lib.Math.min.name Lib.Math.min.code 2 := ⟨(pz_t2 149 rfl rfl), (pz_t2 150 rfl rfl), (pz_t1 16 rfl rfl), (pz_t2 151 rfl rfl)⟩
theorem okX9_isBestAnswer : pz_ok mX9_isBestAnswer 3 := ⟨(pz_t4 130 rfl rfl), (pz_t1 1 rfl rfl), by decide +kernel, by decide, ⟨by decide +kernel, by decide +kernel⟩, by decide +kernel⟩
theorem sX9_325 : pz_ms "PullThePlug" 325 mX9_isBestAnswer 3 := ⟨okX9_isBestAnswer, Or.inl (pz_t4 128 rfl rfl), (pz_t4 129 rfl rfl)⟩
theorem pX9_328 (y : MethodName) (hy : y.cls = "PullThePlug") : pz_fp y 328 9 16 (.int) := ⟨RX9, TX9, 17, tyX9, rfl, by decide, rfl, iX9, tyX9_ok, nmX9, rfl, Or.inl ⟨rfl, by rw [hy]; exact Or.inl (pz_t1 226 rfl rfl)⟩⟩
theorem okX9_draw : pz_ok mX9_draw 1 := ⟨(pz_t4 145 rfl rfl), (pz_t1 1 rfl rfl), by decide +kernel, by decide, ⟨by decide +kernel, by decide +kernel⟩, by decide +kernel⟩
theorem vX9_331 : pz_mv "PullThePlug" 331 mX9_draw 1 9 := ⟨okX9_draw, Or.inl (pz_t4 142 rfl rfl), (pz_t4 144 rfl rfl), (pz_s6 1 rfl), TX9, 17, rfl⟩
theorem okX9_doDrawn : pz_ok mX9_doDrawn 1 := ⟨(pz_t4 150 rfl rfl), (pz_t1 1 rfl rfl), by decide +kernel, by decide, ⟨by decide +kernel, by decide +kernel⟩, by decide +kernel⟩
theorem vX9_334 : pz_mv "PullThePlug" 334 mX9_doDrawn 1 9 := ⟨okX9_doDrawn, Or.inl (pz_t4 147 rfl rfl), (pz_t4 149 rfl rfl), (pz_s6 2 rfl), TX9, 17, rfl⟩
theorem fX9_107 : pz_fl "PullThePlug" 107 9 15 := ⟨RX9, TX9, 17, rfl, by decide, rfl, iX9, Or.inl (pz_t1 225 rfl rfl)⟩
theorem fX9_337 : pz_fl "PullThePlug" 337 8 6 := ⟨RX8, TX8, 9, rfl, by decide, rfl, iX8, Or.inr ⟨_, (pz_n1 106 rfl)⟩⟩
theorem okX1_hairOfAll : pz_ok mX1_hairOfAll 1 := ⟨(pz_t4 166 rfl rfl), (pz_t1 4 rfl rfl), by decide +kernel, by decide, ⟨by decide +kernel, by decide +kernel⟩, by decide +kernel⟩
theorem vX9_340 : pz_mv "PullThePlug" 340 mX1_hairOfAll 1 1 := ⟨okX1_hairOfAll, Or.inr ⟨_, (pz_n4 163 rfl)⟩, (pz_t4 165 rfl rfl), (pz_s6 3 rfl), TX1, 5, rfl⟩
theorem okX4_size : pz_ok mX4_size 0 := ⟨(pz_t4 170 rfl rfl), (pz_t1 3 rfl rfl), by decide +kernel, by decide, ⟨by decide +kernel, by decide +kernel⟩, by decide +kernel⟩
theorem vX9_343 : pz_mv "PullThePlug" 343 mX4_size 0 4 := ⟨okX4_size, Or.inr ⟨_, (pz_n4 167 rfl)⟩, (pz_t4 169 rfl rfl), (pz_s6 4 rfl), TX4, 2, rfl⟩
theorem okX1_brimming : pz_ok mX1_brimming 1 := ⟨(pz_t4 174 rfl rfl), (pz_t1 4 rfl rfl), by decide +kernel, by decide, ⟨by decide +kernel, by decide +kernel⟩, by decide +kernel⟩
theorem vX9_344 : pz_mv "PullThePlug" 344 mX1_brimming 1 1 := ⟨okX1_brimming, Or.inr ⟨_, (pz_n4 171 rfl)⟩, (pz_t4 173 rfl rfl), (pz_s6 5 rfl), TX1, 5, rfl⟩
theorem vX9_347 : pz_mv "PullThePlug" 347 mX4_has 1 4 := ⟨okX4_has, Or.inr ⟨_, (pz_n5 12 rfl)⟩, (pz_t5 14 rfl rfl), (pz_s6 7 rfl), TX4, 2, rfl⟩
theorem okX4_get : pz_ok mX4_get 1 := ⟨(pz_t5 19 rfl rfl), (pz_t1 3 rfl rfl), by decide +kernel, by decide, ⟨by decide +kernel, by decide +kernel⟩, by decide +kernel⟩
theorem vX9_348 : pz_mv "PullThePlug" 348 mX4_get 1 4 := ⟨okX4_get, Or.inr ⟨_, (pz_n5 16 rfl)⟩, (pz_t5 18 rfl rfl), (pz_s6 8 rfl), TX4, 2, rfl⟩
theorem okX9_lineFault : pz_ok mX9_lineFault 2 := ⟨(pz_t2 57 rfl rfl), (pz_t1 1 rfl rfl), by decide +kernel, by decide, ⟨by decide +kernel, by decide +kernel⟩, by decide +kernel⟩
theorem vX9_352 : pz_mv "PullThePlug" 352 mX9_lineFault 2 9 := ⟨okX9_lineFault, Or.inl (pz_t2 54 rfl rfl), (pz_t2 56 rfl rfl), (pz_s1 5 rfl), TX9, 17, rfl⟩
theorem sX9_355 : pz_ms "PullThePlug" 355 mX9_isDigit 1 := ⟨okX9_isDigit, Or.inl (pz_t2 62 rfl rfl), (pz_t2 63 rfl rfl)⟩
theorem okX9_isKingSign : pz_ok mX9_isKingSign 1 := ⟨(pz_t2 67 rfl rfl), (pz_t1 1 rfl rfl), by decide +kernel, by decide, ⟨by decide +kernel, by decide +kernel⟩, by decide +kernel⟩
theorem sX9_358 : pz_ms "PullThePlug" 358 mX9_isKingSign 1 := ⟨okX9_isKingSign, Or.inl (pz_t2 65 rfl rfl), (pz_t2 66 rfl rfl)⟩
theorem okX9_digitAt : pz_ok mX9_digitAt 1 := ⟨(pz_t2 75 rfl rfl), (pz_t1 1 rfl rfl), by decide +kernel, by decide, ⟨by decide +kernel, by decide +kernel⟩, by decide +kernel⟩
theorem vX9_361 : pz_mv "PullThePlug" 361 mX9_digitAt 1 9 := ⟨okX9_digitAt, Or.inl (pz_t2 72 rfl rfl), (pz_t2 74 rfl rfl), (pz_s1 8 rfl), TX9, 17, rfl⟩
theorem okX1_add : pz_ok mX1_add 2 := ⟨(pz_t2 79 rfl rfl), (pz_t1 4 rfl rfl), by decide +kernel, by decide, ⟨by decide +kernel, by decide +kernel⟩, by decide +kernel⟩
theorem vX9_364 : pz_mv "PullThePlug" 364 mX1_add 2 1 := ⟨okX1_add, Or.inr ⟨_, (pz_n2 76 rfl)⟩, (pz_t2 78 rfl rfl), (pz_s1 9 rfl), TX1, 5, rfl⟩
theorem okX9_entryOf : pz_ok mX9_entryOf 2 := ⟨(pz_t2 148 rfl rfl), (pz_t1 1 rfl rfl), by decide +kernel, by decide, ⟨by decide +kernel, by decide +kernel⟩, by decide +kernel⟩
theorem sX9_366 : pz_ms "PullThePlug" 366 mX9_entryOf 2 := ⟨okX9_entryOf, Or.inl (pz_t2 146 rfl rfl), (pz_t2 147 rfl rfl)⟩
theorem okX9_doAct : pz_ok mX9_doAct 3 := ⟨(pz_t2 188 rfl rfl), (pz_t1 1 rfl rfl), by decide +kernel, by decide, ⟨by decide +kernel, by decide +kernel⟩, by decide +kernel⟩
theorem vX9_369 : pz_mv "PullThePlug" 369 mX9_doAct 3 9 := ⟨okX9_doAct, Or.inl (pz_t2 185 rfl rfl), (pz_t2 187 rfl rfl), (pz_s2 12 rfl), TX9, 17, rfl⟩
theorem okX9_combHair : pz_ok mX9_combHair 1 := ⟨(pz_t3 6 rfl rfl), (pz_t1 1 rfl rfl), by decide +kernel, by decide, ⟨by decide +kernel, by decide +kernel⟩, by decide +kernel⟩
theorem vX9_376 : pz_mv "PullThePlug" 376 mX9_combHair 1 9 := ⟨okX9_combHair, Or.inl (pz_t3 3 rfl rfl), (pz_t3 5 rfl rfl), (pz_s3 6 rfl), TX9, 17, rfl⟩
theorem okX9_changeEntry : pz_ok mX9_changeEntry 3 := ⟨(pz_t3 9 rfl rfl), (pz_t1 1 rfl rfl), by decide +kernel, by decide, ⟨by decide +kernel, by decide +kernel⟩, by decide +kernel⟩
theorem sX9_379 : pz_ms "PullThePlug" 379 mX9_changeEntry 3 := ⟨okX9_changeEntry, Or.inl (pz_t3 7 rfl rfl), (pz_t3 8 rfl rfl)⟩
theorem okX9_movePlug : pz_ok mX9_movePlug 2 := ⟨(pz_t3 0 rfl rfl), (pz_t1 1 rfl rfl), by decide +kernel, by decide, ⟨by decide +kernel, by decide +kernel⟩, by decide +kernel⟩
theorem vX9_372 : pz_mv "PullThePlug" 372 mX9_movePlug 2 9 := ⟨okX9_movePlug, Or.inl (pz_t2 237 rfl rfl), (pz_t2 239 rfl rfl), (pz_s3 5 rfl), TX9, 17, rfl⟩
theorem fX9_328 : pz_fl "PullThePlug" 328 9 16 := ⟨RX9, TX9, 17, rfl, by decide, rfl, iX9, Or.inl (pz_t1 226 rfl rfl)⟩
theorem cX9_383 : Cond.constant "PullThePlug" 383 1103515245 ∈ pz_tb := (pz_t4 146 rfl rfl)
theorem okX3_lastDay : pz_ok mX3_lastDay 0 := ⟨(pz_t3 217 rfl rfl), (pz_t1 7 rfl rfl), by decide +kernel, by decide, ⟨by decide +kernel, by decide +kernel⟩, by decide +kernel⟩
theorem vX9_384 : pz_mv "PullThePlug" 384 mX3_lastDay 0 3 := ⟨okX3_lastDay, Or.inr ⟨_, (pz_n3 214 rfl)⟩, (pz_t3 216 rfl rfl), (pz_s4 12 rfl), TX3, 4, rfl⟩
theorem okX3_fit : pz_ok mX3_fit 2 := ⟨(pz_t3 222 rfl rfl), (pz_t1 7 rfl rfl), by decide +kernel, by decide, ⟨by decide +kernel, by decide +kernel⟩, by decide +kernel⟩
theorem vX9_387 : pz_mv "PullThePlug" 387 mX3_fit 2 3 := ⟨okX3_fit, Or.inr ⟨_, (pz_n3 219 rfl)⟩, (pz_t3 221 rfl rfl), (pz_s4 13 rfl), TX3, 4, rfl⟩
theorem fX9_391 : pz_fl "PullThePlug" 391 9 14 := ⟨RX9, TX9, 17, rfl, by decide, rfl, iX9, Or.inl (pz_t1 224 rfl rfl)⟩
theorem pX9_391 (y : MethodName) (hy : y.cls = "PullThePlug") : pz_fp y 391 9 14 (.object "PullThePlug$Tidemarks") := ⟨RX9, TX9, 17, tyX9, rfl, by decide, rfl, iX9, tyX9_ok, nmX9, rfl, Or.inl ⟨rfl, by rw [hy]; exact Or.inl (pz_t1 224 rfl rfl)⟩⟩
theorem okX7_clear : pz_ok mX7_clear 0 := ⟨(pz_t4 14 rfl rfl), (pz_t1 18 rfl rfl), by decide +kernel, by decide, ⟨by decide +kernel, by decide +kernel⟩, by decide +kernel⟩
theorem vX9_396 : pz_mv "PullThePlug" 396 mX7_clear 0 7 := ⟨okX7_clear, Or.inr ⟨_, (pz_n4 11 rfl)⟩, (pz_t4 13 rfl rfl), (pz_s5 0 rfl), TX7, 3, rfl⟩
theorem nX9_280 : pz_nw "PullThePlug" 280 7 3 [.null, .null, .int 0] := ⟨RX7, TX7, tyX7, rfl, iX7, tyX7_ok, (pz_t3 235 rfl rfl), (pz_t3 236 rfl rfl), (pz_t1 18 rfl rfl), by decide +kernel⟩
theorem okX7_init : pz_ok mX7_init 0 := ⟨(pz_t3 239 rfl rfl), (pz_t1 18 rfl rfl), by decide +kernel, by decide, ⟨by decide +kernel, by decide +kernel⟩, by decide +kernel⟩
theorem iX9_395 : pz_mi "PullThePlug" 395 mX7_init 0 := ⟨okX7_init, Or.inr ⟨_, (pz_n3 237 rfl)⟩, (pz_t3 238 rfl rfl), rfl, rfl⟩
theorem okX9_markTrial : pz_ok mX9_markTrial 1 := ⟨(pz_t4 18 rfl rfl), (pz_t1 1 rfl rfl), by decide +kernel, by decide, ⟨by decide +kernel, by decide +kernel⟩, by decide +kernel⟩
theorem vX9_397 : pz_mv "PullThePlug" 397 mX9_markTrial 1 9 := ⟨okX9_markTrial, Or.inl (pz_t4 15 rfl rfl), (pz_t4 17 rfl rfl), (pz_s5 1 rfl), TX9, 17, rfl⟩
theorem okX7_endLeak : pz_ok mX7_endLeak 0 := ⟨(pz_t4 27 rfl rfl), (pz_t1 18 rfl rfl), by decide +kernel, by decide, ⟨by decide +kernel, by decide +kernel⟩, by decide +kernel⟩
theorem vX9_401 : pz_mv "PullThePlug" 401 mX7_endLeak 0 7 := ⟨okX7_endLeak, Or.inr ⟨_, (pz_n4 24 rfl)⟩, (pz_t4 26 rfl rfl), (pz_s5 3 rfl), TX7, 3, rfl⟩
theorem okX7_mark : pz_ok mX7_mark 2 := ⟨(pz_t4 22 rfl rfl), (pz_t1 18 rfl rfl), by decide +kernel, by decide, ⟨by decide +kernel, by decide +kernel⟩, by decide +kernel⟩
theorem vX9_404 : pz_mv "PullThePlug" 404 mX7_mark 2 7 := ⟨okX7_mark, Or.inr ⟨_, (pz_n4 19 rfl)⟩, (pz_t4 21 rfl rfl), (pz_s5 2 rfl), TX7, 3, rfl⟩
theorem fX9_68 : pz_fl "PullThePlug" 68 9 10 := ⟨RX9, TX9, 17, rfl, by decide, rfl, iX9, Or.inl (pz_t1 220 rfl rfl)⟩
theorem okX9_setBest : pz_ok mX9_setBest 3 := ⟨(pz_t4 83 rfl rfl), (pz_t1 1 rfl rfl), by decide +kernel, by decide, ⟨by decide +kernel, by decide +kernel⟩, by decide +kernel⟩
theorem vX9_408 : pz_mv "PullThePlug" 408 mX9_setBest 3 9 := ⟨okX9_setBest, Or.inl (pz_t4 80 rfl rfl), (pz_t4 82 rfl rfl), (pz_s5 10 rfl), TX9, 17, rfl⟩
theorem okX9_bestOf : pz_ok mX9_bestOf 2 := ⟨(pz_t4 87 rfl rfl), (pz_t1 1 rfl rfl), by decide +kernel, by decide, ⟨by decide +kernel, by decide +kernel⟩, by decide +kernel⟩
theorem vX9_412 : pz_mv "PullThePlug" 412 mX9_bestOf 2 9 := ⟨okX9_bestOf, Or.inl (pz_t4 84 rfl rfl), (pz_t4 86 rfl rfl), (pz_s5 11 rfl), TX9, 17, rfl⟩
theorem okX9_canHave : pz_ok mX9_canHave 3 := ⟨(pz_t4 91 rfl rfl), (pz_t1 1 rfl rfl), by decide +kernel, by decide, ⟨by decide +kernel, by decide +kernel⟩, by decide +kernel⟩
theorem vX9_415 : pz_mv "PullThePlug" 415 mX9_canHave 3 9 := ⟨okX9_canHave, Or.inl (pz_t4 88 rfl rfl), (pz_t4 90 rfl rfl), (pz_s5 12 rfl), TX9, 17, rfl⟩
theorem okX9_gain : pz_ok mX9_gain 3 := ⟨(pz_t4 133 rfl rfl), (pz_t1 1 rfl rfl), by decide +kernel, by decide, ⟨by decide +kernel, by decide +kernel⟩, by decide +kernel⟩
theorem sX9_418 : pz_ms "PullThePlug" 418 mX9_gain 3 := ⟨okX9_gain, Or.inl (pz_t4 131 rfl rfl), (pz_t4 132 rfl rfl)⟩
theorem wX10_3 : Cond.methodLink "PullThePlugModel" 3 Lib.objectInit ∈ pz_tb := (pz_t5 26 rfl rfl)
theorem pX10_9i : pz_fp ⟨"PullThePlugModel", "<init>", "()V"⟩ 9 10 0 (.array (.int)) := ⟨RX10, TX10, 43, tyX10, rfl, by decide, rfl, iX10, tyX10_ok, nmX10, rfl, Or.inr ⟨rfl, rfl, rfl, (pz_t5 27 rfl rfl)⟩⟩
theorem pX10_13i : pz_fp ⟨"PullThePlugModel", "<init>", "()V"⟩ 13 10 2 (.array (.int)) := ⟨RX10, TX10, 43, tyX10, rfl, by decide, rfl, iX10, tyX10_ok, nmX10, rfl, Or.inr ⟨rfl, rfl, rfl, (pz_t5 29 rfl rfl)⟩⟩
theorem pX10_16i : pz_fp ⟨"PullThePlugModel", "<init>", "()V"⟩ 16 10 3 (.array (.int)) := ⟨RX10, TX10, 43, tyX10, rfl, by decide, rfl, iX10, tyX10_ok, nmX10, rfl, Or.inr ⟨rfl, rfl, rfl, (pz_t5 30 rfl rfl)⟩⟩
theorem pX10_19i : pz_fp ⟨"PullThePlugModel", "<init>", "()V"⟩ 19 10 4 (.array (.int)) := ⟨RX10, TX10, 43, tyX10, rfl, by decide, rfl, iX10, tyX10_ok, nmX10, rfl, Or.inr ⟨rfl, rfl, rfl, (pz_t5 31 rfl rfl)⟩⟩
theorem pX10_22i : pz_fp ⟨"PullThePlugModel", "<init>", "()V"⟩ 22 10 5 (.array (.byte)) := ⟨RX10, TX10, 43, tyX10, rfl, by decide, rfl, iX10, tyX10_ok, nmX10, rfl, Or.inr ⟨rfl, rfl, rfl, (pz_t5 32 rfl rfl)⟩⟩
theorem pX10_26i : pz_fp ⟨"PullThePlugModel", "<init>", "()V"⟩ 26 10 7 (.array (.long)) := ⟨RX10, TX10, 43, tyX10, rfl, by decide, rfl, iX10, tyX10_ok, nmX10, rfl, Or.inr ⟨rfl, rfl, rfl, (pz_t5 34 rfl rfl)⟩⟩
theorem pX10_30i : pz_fp ⟨"PullThePlugModel", "<init>", "()V"⟩ 30 10 15 (.array (.int)) := ⟨RX10, TX10, 43, tyX10, rfl, by decide, rfl, iX10, tyX10_ok, nmX10, rfl, Or.inr ⟨rfl, rfl, rfl, (pz_t5 42 rfl rfl)⟩⟩
theorem pX10_33 (y : MethodName) (hy : y.cls = "PullThePlugModel") : pz_fp y 33 10 16 (.array (.byte)) := ⟨RX10, TX10, 43, tyX10, rfl, by decide, rfl, iX10, tyX10_ok, nmX10, rfl, Or.inl ⟨rfl, by rw [hy]; exact Or.inl (pz_t5 43 rfl rfl)⟩⟩
theorem pX10_36 (y : MethodName) (hy : y.cls = "PullThePlugModel") : pz_fp y 36 10 17 (.array (.byte)) := ⟨RX10, TX10, 43, tyX10, rfl, by decide, rfl, iX10, tyX10_ok, nmX10, rfl, Or.inl ⟨rfl, by rw [hy]; exact Or.inl (pz_t5 44 rfl rfl)⟩⟩
theorem pX10_39i : pz_fp ⟨"PullThePlugModel", "<init>", "()V"⟩ 39 10 20 (.array (.int)) := ⟨RX10, TX10, 43, tyX10, rfl, by decide, rfl, iX10, tyX10_ok, nmX10, rfl, Or.inr ⟨rfl, rfl, rfl, (pz_t5 47 rfl rfl)⟩⟩
theorem pX10_42i : pz_fp ⟨"PullThePlugModel", "<init>", "()V"⟩ 42 10 21 (.array (.int)) := ⟨RX10, TX10, 43, tyX10, rfl, by decide, rfl, iX10, tyX10_ok, nmX10, rfl, Or.inr ⟨rfl, rfl, rfl, (pz_t5 48 rfl rfl)⟩⟩
theorem pX10_45i : pz_fp ⟨"PullThePlugModel", "<init>", "()V"⟩ 45 10 23 (.array (.int)) := ⟨RX10, TX10, 43, tyX10, rfl, by decide, rfl, iX10, tyX10_ok, nmX10, rfl, Or.inr ⟨rfl, rfl, rfl, (pz_t5 50 rfl rfl)⟩⟩
theorem pX10_48i : pz_fp ⟨"PullThePlugModel", "<init>", "()V"⟩ 48 10 24 (.array (.int)) := ⟨RX10, TX10, 43, tyX10, rfl, by decide, rfl, iX10, tyX10_ok, nmX10, rfl, Or.inr ⟨rfl, rfl, rfl, (pz_t5 51 rfl rfl)⟩⟩
theorem pX10_51i : pz_fp ⟨"PullThePlugModel", "<init>", "()V"⟩ 51 10 25 (.array (.int)) := ⟨RX10, TX10, 43, tyX10, rfl, by decide, rfl, iX10, tyX10_ok, nmX10, rfl, Or.inr ⟨rfl, rfl, rfl, (pz_t5 52 rfl rfl)⟩⟩
theorem pX10_54i : pz_fp ⟨"PullThePlugModel", "<init>", "()V"⟩ 54 10 26 (.array (.int)) := ⟨RX10, TX10, 43, tyX10, rfl, by decide, rfl, iX10, tyX10_ok, nmX10, rfl, Or.inr ⟨rfl, rfl, rfl, (pz_t5 53 rfl rfl)⟩⟩
theorem pX10_57 (y : MethodName) (hy : y.cls = "PullThePlugModel") : pz_fp y 57 10 27 (.int) := ⟨RX10, TX10, 43, tyX10, rfl, by decide, rfl, iX10, tyX10_ok, nmX10, rfl, Or.inl ⟨rfl, by rw [hy]; exact Or.inl (pz_t5 54 rfl rfl)⟩⟩
theorem pX10_61i : pz_fp ⟨"PullThePlugModel", "<init>", "()V"⟩ 61 10 29 (.array (.int)) := ⟨RX10, TX10, 43, tyX10, rfl, by decide, rfl, iX10, tyX10_ok, nmX10, rfl, Or.inr ⟨rfl, rfl, rfl, (pz_t5 56 rfl rfl)⟩⟩
theorem pX10_64i : pz_fp ⟨"PullThePlugModel", "<init>", "()V"⟩ 64 10 30 (.array (.int)) := ⟨RX10, TX10, 43, tyX10, rfl, by decide, rfl, iX10, tyX10_ok, nmX10, rfl, Or.inr ⟨rfl, rfl, rfl, (pz_t5 57 rfl rfl)⟩⟩
theorem pX10_67i : pz_fp ⟨"PullThePlugModel", "<init>", "()V"⟩ 67 10 31 (.array (.int)) := ⟨RX10, TX10, 43, tyX10, rfl, by decide, rfl, iX10, tyX10_ok, nmX10, rfl, Or.inr ⟨rfl, rfl, rfl, (pz_t5 58 rfl rfl)⟩⟩
theorem pX10_70i : pz_fp ⟨"PullThePlugModel", "<init>", "()V"⟩ 70 10 32 (.array (.int)) := ⟨RX10, TX10, 43, tyX10, rfl, by decide, rfl, iX10, tyX10_ok, nmX10, rfl, Or.inr ⟨rfl, rfl, rfl, (pz_t5 59 rfl rfl)⟩⟩
theorem pX10_73i : pz_fp ⟨"PullThePlugModel", "<init>", "()V"⟩ 73 10 34 (.array (.int)) := ⟨RX10, TX10, 43, tyX10, rfl, by decide, rfl, iX10, tyX10_ok, nmX10, rfl, Or.inr ⟨rfl, rfl, rfl, (pz_t5 61 rfl rfl)⟩⟩
theorem pX10_76i : pz_fp ⟨"PullThePlugModel", "<init>", "()V"⟩ 76 10 35 (.array (.int)) := ⟨RX10, TX10, 43, tyX10, rfl, by decide, rfl, iX10, tyX10_ok, nmX10, rfl, Or.inr ⟨rfl, rfl, rfl, (pz_t5 62 rfl rfl)⟩⟩
theorem pX10_79i : pz_fp ⟨"PullThePlugModel", "<init>", "()V"⟩ 79 10 36 (.array (.long)) := ⟨RX10, TX10, 43, tyX10, rfl, by decide, rfl, iX10, tyX10_ok, nmX10, rfl, Or.inr ⟨rfl, rfl, rfl, (pz_t5 63 rfl rfl)⟩⟩
theorem pX10_82i : pz_fp ⟨"PullThePlugModel", "<init>", "()V"⟩ 82 10 37 (.array (.long)) := ⟨RX10, TX10, 43, tyX10, rfl, by decide, rfl, iX10, tyX10_ok, nmX10, rfl, Or.inr ⟨rfl, rfl, rfl, (pz_t5 64 rfl rfl)⟩⟩
theorem pX10_85i : pz_fp ⟨"PullThePlugModel", "<init>", "()V"⟩ 85 10 40 (.array (.int)) := ⟨RX10, TX10, 43, tyX10, rfl, by decide, rfl, iX10, tyX10_ok, nmX10, rfl, Or.inr ⟨rfl, rfl, rfl, (pz_t5 67 rfl rfl)⟩⟩
theorem pX10_88i : pz_fp ⟨"PullThePlugModel", "<init>", "()V"⟩ 88 10 41 (.array (.boolean)) := ⟨RX10, TX10, 43, tyX10, rfl, by decide, rfl, iX10, tyX10_ok, nmX10, rfl, Or.inr ⟨rfl, rfl, rfl, (pz_t5 68 rfl rfl)⟩⟩
theorem pX10_92i : pz_fp ⟨"PullThePlugModel", "<init>", "()V"⟩ 92 10 42 (.array (.int)) := ⟨RX10, TX10, 43, tyX10, rfl, by decide, rfl, iX10, tyX10_ok, nmX10, rfl, Or.inr ⟨rfl, rfl, rfl, (pz_t5 69 rfl rfl)⟩⟩
theorem fX10_95 : pz_fl "PullThePlugModel" 95 10 9 := ⟨RX10, TX10, 43, rfl, by decide, rfl, iX10, Or.inl (pz_t5 36 rfl rfl)⟩
theorem pX10_95 (y : MethodName) (hy : y.cls = "PullThePlugModel") : pz_fp y 95 10 9 (.int) := ⟨RX10, TX10, 43, tyX10, rfl, by decide, rfl, iX10, tyX10_ok, nmX10, rfl, Or.inl ⟨rfl, by rw [hy]; exact Or.inl (pz_t5 36 rfl rfl)⟩⟩
theorem fX10_26 : pz_fl "PullThePlugModel" 26 10 7 := ⟨RX10, TX10, 43, rfl, by decide, rfl, iX10, Or.inl (pz_t5 34 rfl rfl)⟩
theorem fX10_98 : pz_fl "PullThePlugModel" 98 10 8 := ⟨RX10, TX10, 43, rfl, by decide, rfl, iX10, Or.inl (pz_t5 35 rfl rfl)⟩
theorem pX10_98 (y : MethodName) (hy : y.cls = "PullThePlugModel") : pz_fp y 98 10 8 (.int) := ⟨RX10, TX10, 43, tyX10, rfl, by decide, rfl, iX10, tyX10_ok, nmX10, rfl, Or.inl ⟨rfl, by rw [hy]; exact Or.inl (pz_t5 35 rfl rfl)⟩⟩
theorem fX10_112 : pz_fl "PullThePlugModel" 112 10 6 := ⟨RX10, TX10, 43, rfl, by decide, rfl, iX10, Or.inl (pz_t5 33 rfl rfl)⟩
theorem fX10_22 : pz_fl "PullThePlugModel" 22 10 5 := ⟨RX10, TX10, 43, rfl, by decide, rfl, iX10, Or.inl (pz_t5 32 rfl rfl)⟩
theorem pX10_112 (y : MethodName) (hy : y.cls = "PullThePlugModel") : pz_fp y 112 10 6 (.int) := ⟨RX10, TX10, 43, tyX10, rfl, by decide, rfl, iX10, tyX10_ok, nmX10, rfl, Or.inl ⟨rfl, by rw [hy]; exact Or.inl (pz_t5 33 rfl rfl)⟩⟩
theorem pX10_115 (y : MethodName) (hy : y.cls = "PullThePlugModel") : pz_fp y 115 10 10 (.array (.byte)) := ⟨RX10, TX10, 43, tyX10, rfl, by decide, rfl, iX10, tyX10_ok, nmX10, rfl, Or.inl ⟨rfl, by rw [hy]; exact Or.inl (pz_t5 37 rfl rfl)⟩⟩
theorem pX10_118 (y : MethodName) (hy : y.cls = "PullThePlugModel") : pz_fp y 118 10 11 (.int) := ⟨RX10, TX10, 43, tyX10, rfl, by decide, rfl, iX10, tyX10_ok, nmX10, rfl, Or.inl ⟨rfl, by rw [hy]; exact Or.inl (pz_t5 38 rfl rfl)⟩⟩
theorem pX10_121 (y : MethodName) (hy : y.cls = "PullThePlugModel") : pz_fp y 121 10 12 (.int) := ⟨RX10, TX10, 43, tyX10, rfl, by decide, rfl, iX10, tyX10_ok, nmX10, rfl, Or.inl ⟨rfl, by rw [hy]; exact Or.inl (pz_t5 39 rfl rfl)⟩⟩
theorem pX10_124 (y : MethodName) (hy : y.cls = "PullThePlugModel") : pz_fp y 124 10 13 (.int) := ⟨RX10, TX10, 43, tyX10, rfl, by decide, rfl, iX10, tyX10_ok, nmX10, rfl, Or.inl ⟨rfl, by rw [hy]; exact Or.inl (pz_t5 40 rfl rfl)⟩⟩
theorem pX10_127 (y : MethodName) (hy : y.cls = "PullThePlugModel") : pz_fp y 127 10 14 (.int) := ⟨RX10, TX10, 43, tyX10, rfl, by decide, rfl, iX10, tyX10_ok, nmX10, rfl, Or.inl ⟨rfl, by rw [hy]; exact Or.inl (pz_t5 41 rfl rfl)⟩⟩
theorem okX10_begin : pz_ok mX10_begin 3 := ⟨(pz_t5 185 rfl rfl), (pz_t1 10 rfl rfl), by decide +kernel, by decide, ⟨by decide +kernel, by decide +kernel⟩, by decide +kernel⟩
theorem vX10_130 : pz_mv "PullThePlugModel" 130 mX10_begin 3 10 := ⟨okX10_begin, Or.inl (pz_t5 182 rfl rfl), (pz_t5 184 rfl rfl), (pz_s6 10 rfl), TX10, 43, rfl⟩
theorem fX10_124 : pz_fl "PullThePlugModel" 124 10 13 := ⟨RX10, TX10, 43, rfl, by decide, rfl, iX10, Or.inl (pz_t5 40 rfl rfl)⟩
theorem fX10_118 : pz_fl "PullThePlugModel" 118 10 11 := ⟨RX10, TX10, 43, rfl, by decide, rfl, iX10, Or.inl (pz_t5 38 rfl rfl)⟩
theorem fX10_121 : pz_fl "PullThePlugModel" 121 10 12 := ⟨RX10, TX10, 43, rfl, by decide, rfl, iX10, Or.inl (pz_t5 39 rfl rfl)⟩
theorem fX10_115 : pz_fl "PullThePlugModel" 115 10 10 := ⟨RX10, TX10, 43, rfl, by decide, rfl, iX10, Or.inl (pz_t5 37 rfl rfl)⟩
theorem okX10_fine : pz_ok mX10_fine 0 := ⟨(pz_t5 189 rfl rfl), (pz_t1 10 rfl rfl), by decide +kernel, by decide, ⟨by decide +kernel, by decide +kernel⟩, by decide +kernel⟩
theorem vX10_134 : pz_mv "PullThePlugModel" 134 mX10_fine 0 10 := ⟨okX10_fine, Or.inl (pz_t5 186 rfl rfl), (pz_t5 188 rfl rfl), (pz_s6 11 rfl), TX10, 43, rfl⟩
theorem okX10_here : pz_ok mX10_here 0 := ⟨(pz_t5 205 rfl rfl), (pz_t1 10 rfl rfl), by decide +kernel, by decide, ⟨by decide +kernel, by decide +kernel⟩, by decide +kernel⟩
theorem vX10_138 : pz_mv "PullThePlugModel" 138 mX10_here 0 10 := ⟨okX10_here, Or.inl (pz_t5 202 rfl rfl), (pz_t5 204 rfl rfl), (pz_s6 15 rfl), TX10, 43, rfl⟩
theorem okX10_passes : pz_ok mX10_passes 1 := ⟨(pz_t5 209 rfl rfl), (pz_t1 10 rfl rfl), by decide +kernel, by decide, ⟨by decide +kernel, by decide +kernel⟩, by decide +kernel⟩
theorem vX10_142 : pz_mv "PullThePlugModel" 142 mX10_passes 1 10 := ⟨okX10_passes, Or.inl (pz_t5 206 rfl rfl), (pz_t5 208 rfl rfl), (pz_s7 0 rfl), TX10, 43, rfl⟩
theorem okX10_fault : pz_ok mX10_fault 1 := ⟨(pz_t5 193 rfl rfl), (pz_t1 10 rfl rfl), by decide +kernel, by decide, ⟨by decide +kernel, by decide +kernel⟩, by decide +kernel⟩
theorem vX10_146 : pz_mv "PullThePlugModel" 146 mX10_fault 1 10 := ⟨okX10_fault, Or.inl (pz_t5 190 rfl rfl), (pz_t5 192 rfl rfl), (pz_s6 12 rfl), TX10, 43, rfl⟩
theorem okX10_oneOf : pz_ok mX10_oneOf 2 := ⟨(pz_t5 201 rfl rfl), (pz_t1 10 rfl rfl), by decide +kernel, by decide, ⟨by decide +kernel, by decide +kernel⟩, by decide +kernel⟩
theorem vX10_150 : pz_mv "PullThePlugModel" 150 mX10_oneOf 2 10 := ⟨okX10_oneOf, Or.inl (pz_t5 198 rfl rfl), (pz_t5 200 rfl rfl), (pz_s6 14 rfl), TX10, 43, rfl⟩
theorem fX10_30 : pz_fl "PullThePlugModel" 30 10 15 := ⟨RX10, TX10, 43, rfl, by decide, rfl, iX10, Or.inl (pz_t5 42 rfl rfl)⟩
theorem okX10_beginText : pz_ok mX10_beginText 1 := ⟨(pz_t5 181 rfl rfl), (pz_t1 10 rfl rfl), by decide +kernel, by decide, ⟨by decide +kernel, by decide +kernel⟩, by decide +kernel⟩
theorem vX10_154 : pz_mv "PullThePlugModel" 154 mX10_beginText 1 10 := ⟨okX10_beginText, Or.inl (pz_t5 178 rfl rfl), (pz_t5 180 rfl rfl), (pz_s6 9 rfl), TX10, 43, rfl⟩
theorem okX10_wasRight : pz_ok mX10_wasRight 0 := ⟨(pz_t5 213 rfl rfl), (pz_t1 10 rfl rfl), by decide +kernel, by decide, ⟨by decide +kernel, by decide +kernel⟩, by decide +kernel⟩
theorem vX10_160 : pz_mv "PullThePlugModel" 160 mX10_wasRight 0 10 := ⟨okX10_wasRight, Or.inl (pz_t5 210 rfl rfl), (pz_t5 212 rfl rfl), (pz_s7 1 rfl), TX10, 43, rfl⟩
theorem okX10_readLake : pz_ok mX10_readLake 1 := ⟨(pz_t5 197 rfl rfl), (pz_t1 10 rfl rfl), by decide +kernel, by decide, ⟨by decide +kernel, by decide +kernel⟩, by decide +kernel⟩
theorem vX10_157 : pz_mv "PullThePlugModel" 157 mX10_readLake 1 10 := ⟨okX10_readLake, Or.inl (pz_t5 194 rfl rfl), (pz_t5 196 rfl rfl), (pz_s6 13 rfl), TX10, 43, rfl⟩
theorem pX10_163 (y : MethodName) (hy : y.cls = "PullThePlugModel") : pz_fp y 163 10 22 (.int) := ⟨RX10, TX10, 43, tyX10, rfl, by decide, rfl, iX10, tyX10_ok, nmX10, rfl, Or.inl ⟨rfl, by rw [hy]; exact Or.inl (pz_t5 49 rfl rfl)⟩⟩
theorem fX10_166 : pz_fl "PullThePlugModel" 166 10 39 := ⟨RX10, TX10, 43, rfl, by decide, rfl, iX10, Or.inl (pz_t5 66 rfl rfl)⟩
theorem pX10_166 (y : MethodName) (hy : y.cls = "PullThePlugModel") : pz_fp y 166 10 39 (.int) := ⟨RX10, TX10, 43, tyX10, rfl, by decide, rfl, iX10, tyX10_ok, nmX10, rfl, Or.inl ⟨rfl, by rw [hy]; exact Or.inl (pz_t5 66 rfl rfl)⟩⟩
theorem fX10_13 : pz_fl "PullThePlugModel" 13 10 2 := ⟨RX10, TX10, 43, rfl, by decide, rfl, iX10, Or.inl (pz_t5 29 rfl rfl)⟩
theorem fX10_16 : pz_fl "PullThePlugModel" 16 10 3 := ⟨RX10, TX10, 43, rfl, by decide, rfl, iX10, Or.inl (pz_t5 30 rfl rfl)⟩
theorem fX10_19 : pz_fl "PullThePlugModel" 19 10 4 := ⟨RX10, TX10, 43, rfl, by decide, rfl, iX10, Or.inl (pz_t5 31 rfl rfl)⟩
theorem fX10_9 : pz_fl "PullThePlugModel" 9 10 0 := ⟨RX10, TX10, 43, rfl, by decide, rfl, iX10, Or.inl (pz_t5 27 rfl rfl)⟩
theorem pX10_101 (y : MethodName) (hy : y.cls = "PullThePlugModel") : pz_fp y 101 10 1 (.int) := ⟨RX10, TX10, 43, tyX10, rfl, by decide, rfl, iX10, tyX10_ok, nmX10, rfl, Or.inl ⟨rfl, by rw [hy]; exact Or.inl (pz_t5 28 rfl rfl)⟩⟩
theorem okX10_sum : pz_ok mX10_sum 1 := ⟨(pz_t5 229 rfl rfl), (pz_t1 10 rfl rfl), by decide +kernel, by decide, ⟨by decide +kernel, by decide +kernel⟩, by decide +kernel⟩
theorem vX10_169 : pz_mv "PullThePlugModel" 169 mX10_sum 1 10 := ⟨okX10_sum, Or.inl (pz_t5 226 rfl rfl), (pz_t5 228 rfl rfl), (pz_s7 4 rfl), TX10, 43, rfl⟩
theorem okX10_product : pz_ok mX10_product 1 := ⟨(pz_t5 233 rfl rfl), (pz_t1 10 rfl rfl), by decide +kernel, by decide, ⟨by decide +kernel, by decide +kernel⟩, by decide +kernel⟩
theorem vX10_173 : pz_mv "PullThePlugModel" 173 mX10_product 1 10 := ⟨okX10_product, Or.inl (pz_t5 230 rfl rfl), (pz_t5 232 rfl rfl), (pz_s7 5 rfl), TX10, 43, rfl⟩
theorem okX10_thing : pz_ok mX10_thing 1 := ⟨(pz_t5 237 rfl rfl), (pz_t1 10 rfl rfl), by decide +kernel, by decide, ⟨by decide +kernel, by decide +kernel⟩, by decide +kernel⟩
theorem vX10_176 : pz_mv "PullThePlugModel" 176 mX10_thing 1 10 := ⟨okX10_thing, Or.inl (pz_t5 234 rfl rfl), (pz_t5 236 rfl rfl), (pz_s7 6 rfl), TX10, 43, rfl⟩
theorem okX10_held : pz_ok mX10_held 1 := ⟨(pz_t5 225 rfl rfl), (pz_t1 10 rfl rfl), by decide +kernel, by decide, ⟨by decide +kernel, by decide +kernel⟩, by decide +kernel⟩
theorem vX10_179 : pz_mv "PullThePlugModel" 179 mX10_held 1 10 := ⟨okX10_held, Or.inl (pz_t5 222 rfl rfl), (pz_t5 224 rfl rfl), (pz_s7 3 rfl), TX10, 43, rfl⟩
theorem okX10_need : pz_ok mX10_need 1 := ⟨(pz_t6 1 rfl rfl), (pz_t1 10 rfl rfl), by decide +kernel, by decide, ⟨by decide +kernel, by decide +kernel⟩, by decide +kernel⟩
theorem vX10_182 : pz_mv "PullThePlugModel" 182 mX10_need 1 10 := ⟨okX10_need, Or.inl (pz_t5 238 rfl rfl), (pz_t6 0 rfl rfl), (pz_s7 7 rfl), TX10, 43, rfl⟩
theorem okX10_letterOf : pz_ok mX10_letterOf 1 := ⟨(pz_t6 8 rfl rfl), (pz_t1 10 rfl rfl), by decide +kernel, by decide, ⟨by decide +kernel, by decide +kernel⟩, by decide +kernel⟩
theorem sX10_189 : pz_ms "PullThePlugModel" 189 mX10_letterOf 1 := ⟨okX10_letterOf, Or.inl (pz_t6 6 rfl rfl), (pz_t6 7 rfl rfl)⟩
theorem fX10_192 : pz_fl "PullThePlugModel" 192 10 19 := ⟨RX10, TX10, 43, rfl, by decide, rfl, iX10, Or.inl (pz_t5 46 rfl rfl)⟩
theorem fX10_39 : pz_fl "PullThePlugModel" 39 10 20 := ⟨RX10, TX10, 43, rfl, by decide, rfl, iX10, Or.inl (pz_t5 47 rfl rfl)⟩
theorem okX10_number : pz_ok mX10_number 1 := ⟨(pz_t6 5 rfl rfl), (pz_t1 10 rfl rfl), by decide +kernel, by decide, ⟨by decide +kernel, by decide +kernel⟩, by decide +kernel⟩
theorem vX10_186 : pz_mv "PullThePlugModel" 186 mX10_number 1 10 := ⟨okX10_number, Or.inl (pz_t6 2 rfl rfl), (pz_t6 4 rfl rfl), (pz_s7 8 rfl), TX10, 43, rfl⟩
theorem pX10_192 (y : MethodName) (hy : y.cls = "PullThePlugModel") : pz_fp y 192 10 19 (.boolean) := ⟨RX10, TX10, 43, tyX10, rfl, by decide, rfl, iX10, tyX10_ok, nmX10, rfl, Or.inl ⟨rfl, by rw [hy]; exact Or.inl (pz_t5 46 rfl rfl)⟩⟩
theorem okX10_readRule : pz_ok mX10_readRule 0 := ⟨(pz_t5 221 rfl rfl), (pz_t1 10 rfl rfl), by decide +kernel, by decide, ⟨by decide +kernel, by decide +kernel⟩, by decide +kernel⟩
theorem vX10_196 : pz_mv "PullThePlugModel" 196 mX10_readRule 0 10 := ⟨okX10_readRule, Or.inl (pz_t5 218 rfl rfl), (pz_t5 220 rfl rfl), (pz_s7 2 rfl), TX10, 43, rfl⟩
theorem pX10_199 (y : MethodName) (hy : y.cls = "PullThePlugModel") : pz_fp y 199 10 18 (.int) := ⟨RX10, TX10, 43, tyX10, rfl, by decide, rfl, iX10, tyX10_ok, nmX10, rfl, Or.inl ⟨rfl, by rw [hy]; exact Or.inl (pz_t5 45 rfl rfl)⟩⟩
theorem fX10_33 : pz_fl "PullThePlugModel" 33 10 16 := ⟨RX10, TX10, 43, rfl, by decide, rfl, iX10, Or.inl (pz_t5 43 rfl rfl)⟩
theorem fX10_199 : pz_fl "PullThePlugModel" 199 10 18 := ⟨RX10, TX10, 43, rfl, by decide, rfl, iX10, Or.inl (pz_t5 45 rfl rfl)⟩
theorem wX10_211 : pz_mw "PullThePlugModel" 211 Lib.Math.min.name Lib.Math.min.code 2 := ⟨(pz_t6 30 rfl rfl), (pz_t2 150 rfl rfl), (pz_t1 16 rfl rfl), (pz_t2 151 rfl rfl)⟩
theorem wX10_217 : pz_mw "PullThePlugModel" 217 Lib.Math.max.name Lib.Math.max.code 2 := ⟨(pz_t6 31 rfl rfl), (pz_t2 153 rfl rfl), (pz_t1 16 rfl rfl), (pz_t2 154 rfl rfl)⟩
theorem okX10_outOnes : pz_ok mX10_outOnes 1 := ⟨(pz_t6 28 rfl rfl), (pz_t1 10 rfl rfl), by decide +kernel, by decide, ⟨by decide +kernel, by decide +kernel⟩, by decide +kernel⟩
theorem vX10_202 : pz_mv "PullThePlugModel" 202 mX10_outOnes 1 10 := ⟨okX10_outOnes, Or.inl (pz_t6 25 rfl rfl), (pz_t6 27 rfl rfl), (pz_s7 12 rfl), TX10, 43, rfl⟩
theorem sX10_206 : pz_ms "PullThePlugModel" 206 mJ6_bitCount_0f7a4 1 := ⟨okJ6_bitCount_0f7a4, Or.inl (pz_t6 29 rfl rfl), (pz_t2 215 rfl rfl)⟩
theorem okX10_lost : pz_ok mX10_lost 0 := ⟨(pz_t6 20 rfl rfl), (pz_t1 10 rfl rfl), by decide +kernel, by decide, ⟨by decide +kernel, by decide +kernel⟩, by decide +kernel⟩
theorem vX10_220 : pz_mv "PullThePlugModel" 220 mX10_lost 0 10 := ⟨okX10_lost, Or.inl (pz_t6 17 rfl rfl), (pz_t6 19 rfl rfl), (pz_s7 10 rfl), TX10, 43, rfl⟩
theorem okX10_runOf : pz_ok mX10_runOf 2 := ⟨(pz_t6 24 rfl rfl), (pz_t1 10 rfl rfl), by decide +kernel, by decide, ⟨by decide +kernel, by decide +kernel⟩, by decide +kernel⟩
theorem vX10_223 : pz_mv "PullThePlugModel" 223 mX10_runOf 2 10 := ⟨okX10_runOf, Or.inl (pz_t6 21 rfl rfl), (pz_t6 23 rfl rfl), (pz_s7 11 rfl), TX10, 43, rfl⟩
theorem okX10_sumOf : pz_ok mX10_sumOf 2 := ⟨(pz_t6 39 rfl rfl), (pz_t1 10 rfl rfl), by decide +kernel, by decide, ⟨by decide +kernel, by decide +kernel⟩, by decide +kernel⟩
theorem vX10_227 : pz_mv "PullThePlugModel" 227 mX10_sumOf 2 10 := ⟨okX10_sumOf, Or.inl (pz_t6 36 rfl rfl), (pz_t6 38 rfl rfl), (pz_s7 13 rfl), TX10, 43, rfl⟩
theorem fX10_163 : pz_fl "PullThePlugModel" 163 10 22 := ⟨RX10, TX10, 43, rfl, by decide, rfl, iX10, Or.inl (pz_t5 49 rfl rfl)⟩
theorem fX10_42 : pz_fl "PullThePlugModel" 42 10 21 := ⟨RX10, TX10, 43, rfl, by decide, rfl, iX10, Or.inl (pz_t5 48 rfl rfl)⟩
theorem okX10_lay : pz_ok mX10_lay 3 := ⟨(pz_t6 50 rfl rfl), (pz_t1 10 rfl rfl), by decide +kernel, by decide, ⟨by decide +kernel, by decide +kernel⟩, by decide +kernel⟩
theorem sX10_230 : pz_ms "PullThePlugModel" 230 mX10_lay 3 := ⟨okX10_lay, Or.inl (pz_t6 48 rfl rfl), (pz_t6 49 rfl rfl)⟩
theorem fX10_51 : pz_fl "PullThePlugModel" 51 10 25 := ⟨RX10, TX10, 43, rfl, by decide, rfl, iX10, Or.inl (pz_t5 52 rfl rfl)⟩
theorem fX10_54 : pz_fl "PullThePlugModel" 54 10 26 := ⟨RX10, TX10, 43, rfl, by decide, rfl, iX10, Or.inl (pz_t5 53 rfl rfl)⟩
theorem fX10_57 : pz_fl "PullThePlugModel" 57 10 27 := ⟨RX10, TX10, 43, rfl, by decide, rfl, iX10, Or.inl (pz_t5 54 rfl rfl)⟩
theorem fX10_234 : pz_fl "PullThePlugModel" 234 10 28 := ⟨RX10, TX10, 43, rfl, by decide, rfl, iX10, Or.inl (pz_t5 55 rfl rfl)⟩
theorem okX10_goDay : pz_ok mX10_goDay 1 := ⟨(pz_t6 58 rfl rfl), (pz_t1 10 rfl rfl), by decide +kernel, by decide, ⟨by decide +kernel, by decide +kernel⟩, by decide +kernel⟩
theorem vX10_237 : pz_mv "PullThePlugModel" 237 mX10_goDay 1 10 := ⟨okX10_goDay, Or.inl (pz_t6 55 rfl rfl), (pz_t6 57 rfl rfl), (pz_s8 0 rfl), TX10, 43, rfl⟩
theorem okX10_remember : pz_ok mX10_remember 1 := ⟨(pz_t6 47 rfl rfl), (pz_t1 10 rfl rfl), by decide +kernel, by decide, ⟨by decide +kernel, by decide +kernel⟩, by decide +kernel⟩
theorem vX10_241 : pz_mv "PullThePlugModel" 241 mX10_remember 1 10 := ⟨okX10_remember, Or.inl (pz_t6 44 rfl rfl), (pz_t6 46 rfl rfl), (pz_s7 14 rfl), TX10, 43, rfl⟩
theorem okX10_goDays : pz_ok mX10_goDays 2 := ⟨(pz_t6 54 rfl rfl), (pz_t1 10 rfl rfl), by decide +kernel, by decide, ⟨by decide +kernel, by decide +kernel⟩, by decide +kernel⟩
theorem vX10_244 : pz_mv "PullThePlugModel" 244 mX10_goDays 2 10 := ⟨okX10_goDays, Or.inl (pz_t6 51 rfl rfl), (pz_t6 53 rfl rfl), (pz_s7 15 rfl), TX10, 43, rfl⟩
theorem okX10_tell : pz_ok mX10_tell 1 := ⟨(pz_t6 62 rfl rfl), (pz_t1 10 rfl rfl), by decide +kernel, by decide, ⟨by decide +kernel, by decide +kernel⟩, by decide +kernel⟩
theorem vX10_248 : pz_mv "PullThePlugModel" 248 mX10_tell 1 10 := ⟨okX10_tell, Or.inl (pz_t6 59 rfl rfl), (pz_t6 61 rfl rfl), (pz_s8 1 rfl), TX10, 43, rfl⟩
theorem okX10_refusesPlug : pz_ok mX10_refusesPlug 2 := ⟨(pz_t6 74 rfl rfl), (pz_t1 10 rfl rfl), by decide +kernel, by decide, ⟨by decide +kernel, by decide +kernel⟩, by decide +kernel⟩
theorem vX10_252 : pz_mv "PullThePlugModel" 252 mX10_refusesPlug 2 10 := ⟨okX10_refusesPlug, Or.inl (pz_t6 71 rfl rfl), (pz_t6 73 rfl rfl), (pz_s8 3 rfl), TX10, 43, rfl⟩
theorem okX10_touches : pz_ok mX10_touches 2 := ⟨(pz_t6 70 rfl rfl), (pz_t1 10 rfl rfl), by decide +kernel, by decide, ⟨by decide +kernel, by decide +kernel⟩, by decide +kernel⟩
theorem vX10_255 : pz_mv "PullThePlugModel" 255 mX10_touches 2 10 := ⟨okX10_touches, Or.inl (pz_t6 67 rfl rfl), (pz_t6 69 rfl rfl), (pz_s8 2 rfl), TX10, 43, rfl⟩
theorem okX10_refusesComb : pz_ok mX10_refusesComb 1 := ⟨(pz_t6 86 rfl rfl), (pz_t1 10 rfl rfl), by decide +kernel, by decide, ⟨by decide +kernel, by decide +kernel⟩, by decide +kernel⟩
theorem vX10_258 : pz_mv "PullThePlugModel" 258 mX10_refusesComb 1 10 := ⟨okX10_refusesComb, Or.inl (pz_t6 83 rfl rfl), (pz_t6 85 rfl rfl), (pz_s8 4 rfl), TX10, 43, rfl⟩
theorem okX10_refusesCell : pz_ok mX10_refusesCell 4 := ⟨(pz_t6 98 rfl rfl), (pz_t1 10 rfl rfl), by decide +kernel, by decide, ⟨by decide +kernel, by decide +kernel⟩, by decide +kernel⟩
theorem vX10_261 : pz_mv "PullThePlugModel" 261 mX10_refusesCell 4 10 := ⟨okX10_refusesCell, Or.inl (pz_t6 95 rfl rfl), (pz_t6 97 rfl rfl), (pz_s8 6 rfl), TX10, 43, rfl⟩
theorem okX10_becomes : pz_ok mX10_becomes 4 := ⟨(pz_t6 94 rfl rfl), (pz_t1 10 rfl rfl), by decide +kernel, by decide, ⟨by decide +kernel, by decide +kernel⟩, by decide +kernel⟩
theorem vX10_265 : pz_mv "PullThePlugModel" 265 mX10_becomes 4 10 := ⟨okX10_becomes, Or.inl (pz_t6 91 rfl rfl), (pz_t6 93 rfl rfl), (pz_s8 5 rfl), TX10, 43, rfl⟩
theorem fX10_45 : pz_fl "PullThePlugModel" 45 10 23 := ⟨RX10, TX10, 43, rfl, by decide, rfl, iX10, Or.inl (pz_t5 50 rfl rfl)⟩
theorem okX10_readAct : pz_ok mX10_readAct 1 := ⟨(pz_t6 110 rfl rfl), (pz_t1 10 rfl rfl), by decide +kernel, by decide, ⟨by decide +kernel, by decide +kernel⟩, by decide +kernel⟩
theorem vX10_268 : pz_mv "PullThePlugModel" 268 mX10_readAct 1 10 := ⟨okX10_readAct, Or.inl (pz_t6 107 rfl rfl), (pz_t6 109 rfl rfl), (pz_s8 7 rfl), TX10, 43, rfl⟩
theorem fX10_61 : pz_fl "PullThePlugModel" 61 10 29 := ⟨RX10, TX10, 43, rfl, by decide, rfl, iX10, Or.inl (pz_t5 56 rfl rfl)⟩
theorem okX10_act : pz_ok mX10_act 3 := ⟨(pz_t6 114 rfl rfl), (pz_t1 10 rfl rfl), by decide +kernel, by decide, ⟨by decide +kernel, by decide +kernel⟩, by decide +kernel⟩
theorem vX10_271 : pz_mv "PullThePlugModel" 271 mX10_act 3 10 := ⟨okX10_act, Or.inl (pz_t6 111 rfl rfl), (pz_t6 113 rfl rfl), (pz_s8 8 rfl), TX10, 43, rfl⟩
theorem fX10_48 : pz_fl "PullThePlugModel" 48 10 24 := ⟨RX10, TX10, 43, rfl, by decide, rfl, iX10, Or.inl (pz_t5 51 rfl rfl)⟩
theorem okX10_goThen : pz_ok mX10_goThen 1 := ⟨(pz_t6 126 rfl rfl), (pz_t1 10 rfl rfl), by decide +kernel, by decide, ⟨by decide +kernel, by decide +kernel⟩, by decide +kernel⟩
theorem vX10_274 : pz_mv "PullThePlugModel" 274 mX10_goThen 1 10 := ⟨okX10_goThen, Or.inl (pz_t6 123 rfl rfl), (pz_t6 125 rfl rfl), (pz_s8 9 rfl), TX10, 43, rfl⟩
theorem okX10_has : pz_ok mX10_has 2 := ⟨(pz_t6 152 rfl rfl), (pz_t1 10 rfl rfl), by decide +kernel, by decide, ⟨by decide +kernel, by decide +kernel⟩, by decide +kernel⟩
theorem sX10_277 : pz_ms "PullThePlugModel" 277 mX10_has 2 := ⟨okX10_has, Or.inl (pz_t6 150 rfl rfl), (pz_t6 151 rfl rfl)⟩
theorem okX10_isKing : pz_ok mX10_isKing 1 := ⟨(pz_t6 145 rfl rfl), (pz_t1 10 rfl rfl), by decide +kernel, by decide, ⟨by decide +kernel, by decide +kernel⟩, by decide +kernel⟩
theorem sX10_281 : pz_ms "PullThePlugModel" 281 mX10_isKing 1 := ⟨okX10_isKing, Or.inl (pz_t6 143 rfl rfl), (pz_t6 144 rfl rfl)⟩
theorem okX10_ownOf : pz_ok mX10_ownOf 2 := ⟨(pz_t6 149 rfl rfl), (pz_t1 10 rfl rfl), by decide +kernel, by decide, ⟨by decide +kernel, by decide +kernel⟩, by decide +kernel⟩
theorem vX10_284 : pz_mv "PullThePlugModel" 284 mX10_ownOf 2 10 := ⟨okX10_ownOf, Or.inl (pz_t6 146 rfl rfl), (pz_t6 148 rfl rfl), (pz_s8 10 rfl), TX10, 43, rfl⟩
theorem okX10_levelOf : pz_ok mX10_levelOf 2 := ⟨(pz_t6 156 rfl rfl), (pz_t1 10 rfl rfl), by decide +kernel, by decide, ⟨by decide +kernel, by decide +kernel⟩, by decide +kernel⟩
theorem vX10_287 : pz_mv "PullThePlugModel" 287 mX10_levelOf 2 10 := ⟨okX10_levelOf, Or.inl (pz_t6 153 rfl rfl), (pz_t6 155 rfl rfl), (pz_s8 11 rfl), TX10, 43, rfl⟩
theorem okX10_areTwo : pz_ok mX10_areTwo 2 := ⟨(pz_t6 176 rfl rfl), (pz_t1 10 rfl rfl), by decide +kernel, by decide, ⟨by decide +kernel, by decide +kernel⟩, by decide +kernel⟩
theorem vX10_290 : pz_mv "PullThePlugModel" 290 mX10_areTwo 2 10 := ⟨okX10_areTwo, Or.inl (pz_t6 173 rfl rfl), (pz_t6 175 rfl rfl), (pz_s8 12 rfl), TX10, 43, rfl⟩
theorem okX10_all : pz_ok mX10_all 0 := ⟨(pz_t6 196 rfl rfl), (pz_t1 10 rfl rfl), by decide +kernel, by decide, ⟨by decide +kernel, by decide +kernel⟩, by decide +kernel⟩
theorem vX10_293 : pz_mv "PullThePlugModel" 293 mX10_all 0 10 := ⟨okX10_all, Or.inl (pz_t6 193 rfl rfl), (pz_t6 195 rfl rfl), (pz_s8 14 rfl), TX10, 43, rfl⟩
theorem okX10_goTouched : pz_ok mX10_goTouched 2 := ⟨(pz_t6 200 rfl rfl), (pz_t1 10 rfl rfl), by decide +kernel, by decide, ⟨by decide +kernel, by decide +kernel⟩, by decide +kernel⟩
theorem vX10_296 : pz_mv "PullThePlugModel" 296 mX10_goTouched 2 10 := ⟨okX10_goTouched, Or.inl (pz_t6 197 rfl rfl), (pz_t6 199 rfl rfl), (pz_s8 15 rfl), TX10, 43, rfl⟩
theorem okX10_dryOnes : pz_ok mX10_dryOnes 1 := ⟨(pz_t6 204 rfl rfl), (pz_t1 10 rfl rfl), by decide +kernel, by decide, ⟨by decide +kernel, by decide +kernel⟩, by decide +kernel⟩
theorem vX10_300 : pz_mv "PullThePlugModel" 300 mX10_dryOnes 1 10 := ⟨okX10_dryOnes, Or.inl (pz_t6 201 rfl rfl), (pz_t6 203 rfl rfl), (pz_s9 0 rfl), TX10, 43, rfl⟩
theorem okX10_fewest : pz_ok mX10_fewest 3 := ⟨(pz_t6 192 rfl rfl), (pz_t1 10 rfl rfl), by decide +kernel, by decide, ⟨by decide +kernel, by decide +kernel⟩, by decide +kernel⟩
theorem vX10_303 : pz_mv "PullThePlugModel" 303 mX10_fewest 3 10 := ⟨okX10_fewest, Or.inl (pz_t6 189 rfl rfl), (pz_t6 191 rfl rfl), (pz_s8 13 rfl), TX10, 43, rfl⟩
theorem cX10_307 : Cond.constant "PullThePlugModel" 307 1000000 ∈ pz_tb := (pz_t6 221 rfl rfl)
theorem fX10_308 : pz_fl "PullThePlugModel" 308 10 33 := ⟨RX10, TX10, 43, rfl, by decide, rfl, iX10, Or.inl (pz_t5 60 rfl rfl)⟩
theorem fX10_64 : pz_fl "PullThePlugModel" 64 10 30 := ⟨RX10, TX10, 43, rfl, by decide, rfl, iX10, Or.inl (pz_t5 57 rfl rfl)⟩
theorem fX10_67 : pz_fl "PullThePlugModel" 67 10 31 := ⟨RX10, TX10, 43, rfl, by decide, rfl, iX10, Or.inl (pz_t5 58 rfl rfl)⟩
theorem fX10_70 : pz_fl "PullThePlugModel" 70 10 32 := ⟨RX10, TX10, 43, rfl, by decide, rfl, iX10, Or.inl (pz_t5 59 rfl rfl)⟩
theorem pX10_308 (y : MethodName) (hy : y.cls = "PullThePlugModel") : pz_fp y 308 10 33 (.int) := ⟨RX10, TX10, 43, tyX10, rfl, by decide, rfl, iX10, tyX10_ok, nmX10, rfl, Or.inl ⟨rfl, by rw [hy]; exact Or.inl (pz_t5 60 rfl rfl)⟩⟩
theorem pX10_234 (y : MethodName) (hy : y.cls = "PullThePlugModel") : pz_fp y 234 10 28 (.int) := ⟨RX10, TX10, 43, tyX10, rfl, by decide, rfl, iX10, tyX10_ok, nmX10, rfl, Or.inl ⟨rfl, by rw [hy]; exact Or.inl (pz_t5 55 rfl rfl)⟩⟩
theorem okX10_isRight : pz_ok mX10_isRight 2 := ⟨(pz_t6 237 rfl rfl), (pz_t1 10 rfl rfl), by decide +kernel, by decide, ⟨by decide +kernel, by decide +kernel⟩, by decide +kernel⟩
theorem vX10_311 : pz_mv "PullThePlugModel" 311 mX10_isRight 2 10 := ⟨okX10_isRight, Or.inl (pz_t6 234 rfl rfl), (pz_t6 236 rfl rfl), (pz_s9 1 rfl), TX10, 43, rfl⟩
theorem fX10_73 : pz_fl "PullThePlugModel" 73 10 34 := ⟨RX10, TX10, 43, rfl, by decide, rfl, iX10, Or.inl (pz_t5 61 rfl rfl)⟩
theorem okX10_cellOf : pz_ok mX10_cellOf 2 := ⟨(pz_t7 4 rfl rfl), (pz_t1 10 rfl rfl), by decide +kernel, by decide, ⟨by decide +kernel, by decide +kernel⟩, by decide +kernel⟩
theorem sX10_314 : pz_ms "PullThePlugModel" 314 mX10_cellOf 2 := ⟨okX10_cellOf, Or.inl (pz_t7 2 rfl rfl), (pz_t7 3 rfl rfl)⟩
theorem okX10_levelOfKings : pz_ok mX10_levelOfKings 1 := ⟨(pz_t7 16 rfl rfl), (pz_t1 10 rfl rfl), by decide +kernel, by decide, ⟨by decide +kernel, by decide +kernel⟩, by decide +kernel⟩
theorem vX10_317 : pz_mv "PullThePlugModel" 317 mX10_levelOfKings 1 10 := ⟨okX10_levelOfKings, Or.inl (pz_t7 13 rfl rfl), (pz_t7 15 rfl rfl), (pz_s9 2 rfl), TX10, 43, rfl⟩
theorem wX10_320 : pz_mw "PullThePlugModel" 320 Lib.Math.abs.name Lib.Math.abs.code 1 := ⟨(pz_t7 25 rfl rfl), (pz_t4 62 rfl rfl), (pz_t1 16 rfl rfl), (pz_t4 63 rfl rfl)⟩
theorem fX10_76 : pz_fl "PullThePlugModel" 76 10 35 := ⟨RX10, TX10, 43, rfl, by decide, rfl, iX10, Or.inl (pz_t5 62 rfl rfl)⟩
theorem okX10_canHave : pz_ok mX10_canHave 3 := ⟨(pz_t7 37 rfl rfl), (pz_t1 10 rfl rfl), by decide +kernel, by decide, ⟨by decide +kernel, by decide +kernel⟩, by decide +kernel⟩
theorem vX10_323 : pz_mv "PullThePlugModel" 323 mX10_canHave 3 10 := ⟨okX10_canHave, Or.inl (pz_t7 34 rfl rfl), (pz_t7 36 rfl rfl), (pz_s9 3 rfl), TX10, 43, rfl⟩
theorem okX10_common : pz_ok mX10_common 2 := ⟨(pz_t7 53 rfl rfl), (pz_t1 10 rfl rfl), by decide +kernel, by decide, ⟨by decide +kernel, by decide +kernel⟩, by decide +kernel⟩
theorem sX10_326 : pz_ms "PullThePlugModel" 326 mX10_common 2 := ⟨okX10_common, Or.inl (pz_t7 51 rfl rfl), (pz_t7 52 rfl rfl)⟩
theorem fX10_82 : pz_fl "PullThePlugModel" 82 10 37 := ⟨RX10, TX10, 43, rfl, by decide, rfl, iX10, Or.inl (pz_t5 64 rfl rfl)⟩
theorem fX10_79 : pz_fl "PullThePlugModel" 79 10 36 := ⟨RX10, TX10, 43, rfl, by decide, rfl, iX10, Or.inl (pz_t5 63 rfl rfl)⟩
theorem cX10_333 : Cond.constantLong "PullThePlugModel" 333 60 ∈ pz_tb := (pz_t7 50 rfl rfl)
theorem okX10_areBeside : pz_ok mX10_areBeside 2 := ⟨(pz_t7 49 rfl rfl), (pz_t1 10 rfl rfl), by decide +kernel, by decide, ⟨by decide +kernel, by decide +kernel⟩, by decide +kernel⟩
theorem vX10_330 : pz_mv "PullThePlugModel" 330 mX10_areBeside 2 10 := ⟨okX10_areBeside, Or.inl (pz_t7 46 rfl rfl), (pz_t7 48 rfl rfl), (pz_s9 5 rfl), TX10, 43, rfl⟩
theorem okX10_goDuck : pz_ok mX10_goDuck 0 := ⟨(pz_t7 45 rfl rfl), (pz_t1 10 rfl rfl), by decide +kernel, by decide, ⟨by decide +kernel, by decide +kernel⟩, by decide +kernel⟩
theorem vX10_335 : pz_mv "PullThePlugModel" 335 mX10_goDuck 0 10 := ⟨okX10_goDuck, Or.inl (pz_t7 42 rfl rfl), (pz_t7 44 rfl rfl), (pz_s9 4 rfl), TX10, 43, rfl⟩
theorem okX10_getsBy : pz_ok mX10_getsBy 3 := ⟨(pz_t7 67 rfl rfl), (pz_t1 10 rfl rfl), by decide +kernel, by decide, ⟨by decide +kernel, by decide +kernel⟩, by decide +kernel⟩
theorem sX10_338 : pz_ms "PullThePlugModel" 338 mX10_getsBy 3 := ⟨okX10_getsBy, Or.inl (pz_t7 65 rfl rfl), (pz_t7 66 rfl rfl)⟩
theorem okX10_isBest : pz_ok mX10_isBest 3 := ⟨(pz_t7 64 rfl rfl), (pz_t1 10 rfl rfl), by decide +kernel, by decide, ⟨by decide +kernel, by decide +kernel⟩, by decide +kernel⟩
theorem sX10_341 : pz_ms "PullThePlugModel" 341 mX10_isBest 3 := ⟨okX10_isBest, Or.inl (pz_t7 62 rfl rfl), (pz_t7 63 rfl rfl)⟩
theorem okX10_levelIn12 : pz_ok mX10_levelIn12 0 := ⟨(pz_t7 75 rfl rfl), (pz_t1 10 rfl rfl), by decide +kernel, by decide, ⟨by decide +kernel, by decide +kernel⟩, by decide +kernel⟩
theorem vX10_344 : pz_mv "PullThePlugModel" 344 mX10_levelIn12 0 10 := ⟨okX10_levelIn12, Or.inl (pz_t7 72 rfl rfl), (pz_t7 74 rfl rfl), (pz_s9 6 rfl), TX10, 43, rfl⟩
theorem fX10_36 : pz_fl "PullThePlugModel" 36 10 17 := ⟨RX10, TX10, 43, rfl, by decide, rfl, iX10, Or.inl (pz_t5 44 rfl rfl)⟩
theorem fX10_347 : pz_fl "PullThePlugModel" 347 10 38 := ⟨RX10, TX10, 43, rfl, by decide, rfl, iX10, Or.inl (pz_t5 65 rfl rfl)⟩
theorem cX10_350 : Cond.constant "PullThePlugModel" 350 1103515245 ∈ pz_tb := (pz_t7 84 rfl rfl)
theorem pX10_347 (y : MethodName) (hy : y.cls = "PullThePlugModel") : pz_fp y 347 10 38 (.int) := ⟨RX10, TX10, 43, tyX10, rfl, by decide, rfl, iX10, tyX10_ok, nmX10, rfl, Or.inl ⟨rfl, by rw [hy]; exact Or.inl (pz_t5 65 rfl rfl)⟩⟩
theorem okX10_draw : pz_ok mX10_draw 1 := ⟨(pz_t7 83 rfl rfl), (pz_t1 10 rfl rfl), by decide +kernel, by decide, ⟨by decide +kernel, by decide +kernel⟩, by decide +kernel⟩
theorem vX10_351 : pz_mv "PullThePlugModel" 351 mX10_draw 1 10 := ⟨okX10_draw, Or.inl (pz_t7 80 rfl rfl), (pz_t7 82 rfl rfl), (pz_s9 7 rfl), TX10, 43, rfl⟩
theorem fX10_88 : pz_fl "PullThePlugModel" 88 10 41 := ⟨RX10, TX10, 43, rfl, by decide, rfl, iX10, Or.inl (pz_t5 68 rfl rfl)⟩
theorem fX10_92 : pz_fl "PullThePlugModel" 92 10 42 := ⟨RX10, TX10, 43, rfl, by decide, rfl, iX10, Or.inl (pz_t5 69 rfl rfl)⟩
theorem fX10_85 : pz_fl "PullThePlugModel" 85 10 40 := ⟨RX10, TX10, 43, rfl, by decide, rfl, iX10, Or.inl (pz_t5 67 rfl rfl)⟩
theorem okX10_fullOnes : pz_ok mX10_fullOnes 0 := ⟨(pz_t7 100 rfl rfl), (pz_t1 10 rfl rfl), by decide +kernel, by decide, ⟨by decide +kernel, by decide +kernel⟩, by decide +kernel⟩
theorem vX10_354 : pz_mv "PullThePlugModel" 354 mX10_fullOnes 0 10 := ⟨okX10_fullOnes, Or.inl (pz_t7 97 rfl rfl), (pz_t7 99 rfl rfl), (pz_s9 8 rfl), TX10, 43, rfl⟩
theorem ki_m1 : Int32.ofInt (-1) = (-1) := by decide
theorem ki_0 : Int32.ofInt 0 = 0 := by decide
theorem ki_1 : Int32.ofInt 1 = 1 := by decide
theorem ki_2 : Int32.ofInt 2 = 2 := by decide
theorem ki_3 : Int32.ofInt 3 = 3 := by decide
theorem ki_4 : Int32.ofInt 4 = 4 := by decide
theorem ki_5 : Int32.ofInt 5 = 5 := by decide
theorem kb_m42 : (Int8.ofInt (-42)).toInt32 = (-42) := by decide
theorem kb_m3 : (Int8.ofInt (-3)).toInt32 = (-3) := by decide
theorem kb_m2 : (Int8.ofInt (-2)).toInt32 = (-2) := by decide
theorem kb_6 : (Int8.ofInt 6).toInt32 = 6 := by decide
theorem kb_7 : (Int8.ofInt 7).toInt32 = 7 := by decide
theorem kb_8 : (Int8.ofInt 8).toInt32 = 8 := by decide
theorem kb_9 : (Int8.ofInt 9).toInt32 = 9 := by decide
theorem kb_10 : (Int8.ofInt 10).toInt32 = 10 := by decide
theorem kb_11 : (Int8.ofInt 11).toInt32 = 11 := by decide
theorem kb_12 : (Int8.ofInt 12).toInt32 = 12 := by decide
theorem kb_15 : (Int8.ofInt 15).toInt32 = 15 := by decide
theorem kb_16 : (Int8.ofInt 16).toInt32 = 16 := by decide
theorem kb_18 : (Int8.ofInt 18).toInt32 = 18 := by decide
theorem kb_20 : (Int8.ofInt 20).toInt32 = 20 := by decide
theorem kb_21 : (Int8.ofInt 21).toInt32 = 21 := by decide
theorem kb_24 : (Int8.ofInt 24).toInt32 = 24 := by decide
theorem kb_30 : (Int8.ofInt 30).toInt32 = 30 := by decide
theorem kb_31 : (Int8.ofInt 31).toInt32 = 31 := by decide
theorem kb_32 : (Int8.ofInt 32).toInt32 = 32 := by decide
theorem kb_33 : (Int8.ofInt 33).toInt32 = 33 := by decide
theorem kb_40 : (Int8.ofInt 40).toInt32 = 40 := by decide
theorem kb_41 : (Int8.ofInt 41).toInt32 = 41 := by decide
theorem kb_42 : (Int8.ofInt 42).toInt32 = 42 := by decide
theorem kb_43 : (Int8.ofInt 43).toInt32 = 43 := by decide
theorem kb_45 : (Int8.ofInt 45).toInt32 = 45 := by decide
theorem kb_47 : (Int8.ofInt 47).toInt32 = 47 := by decide
theorem kb_48 : (Int8.ofInt 48).toInt32 = 48 := by decide
theorem kb_57 : (Int8.ofInt 57).toInt32 = 57 := by decide
theorem kb_59 : (Int8.ofInt 59).toInt32 = 59 := by decide
theorem kb_60 : (Int8.ofInt 60).toInt32 = 60 := by decide
theorem kb_61 : (Int8.ofInt 61).toInt32 = 61 := by decide
theorem kb_62 : (Int8.ofInt 62).toInt32 = 62 := by decide
theorem kb_63 : (Int8.ofInt 63).toInt32 = 63 := by decide
theorem kb_64 : (Int8.ofInt 64).toInt32 = 64 := by decide
theorem kb_66 : (Int8.ofInt 66).toInt32 = 66 := by decide
theorem kb_76 : (Int8.ofInt 76).toInt32 = 76 := by decide
theorem kb_80 : (Int8.ofInt 80).toInt32 = 80 := by decide
theorem kb_97 : (Int8.ofInt 97).toInt32 = 97 := by decide
theorem kb_98 : (Int8.ofInt 98).toInt32 = 98 := by decide
theorem kb_99 : (Int8.ofInt 99).toInt32 = 99 := by decide
theorem kb_100 : (Int8.ofInt 100).toInt32 = 100 := by decide
theorem kb_101 : (Int8.ofInt 101).toInt32 = 101 := by decide
theorem kb_103 : (Int8.ofInt 103).toInt32 = 103 := by decide
theorem kb_104 : (Int8.ofInt 104).toInt32 = 104 := by decide
theorem kb_107 : (Int8.ofInt 107).toInt32 = 107 := by decide
theorem kb_108 : (Int8.ofInt 108).toInt32 = 108 := by decide
theorem kb_110 : (Int8.ofInt 110).toInt32 = 110 := by decide
theorem kb_112 : (Int8.ofInt 112).toInt32 = 112 := by decide
theorem kb_115 : (Int8.ofInt 115).toInt32 = 115 := by decide
theorem kb_116 : (Int8.ofInt 116).toInt32 = 116 := by decide
theorem kb_126 : (Int8.ofInt 126).toInt32 = 126 := by decide
theorem ks_m10000 : (Int16.ofInt (-10000)).toInt32 = (-10000) := by decide
theorem ks_240 : (Int16.ofInt 240).toInt32 = 240 := by decide
theorem ks_255 : (Int16.ofInt 255).toInt32 = 255 := by decide
theorem ks_363 : (Int16.ofInt 363).toInt32 = 363 := by decide
theorem ks_396 : (Int16.ofInt 396).toInt32 = 396 := by decide
theorem ks_448 : (Int16.ofInt 448).toInt32 = 448 := by decide
theorem ks_999 : (Int16.ofInt 999).toInt32 = 999 := by decide
theorem ks_1000 : (Int16.ofInt 1000).toInt32 = 1000 := by decide
theorem ks_2000 : (Int16.ofInt 2000).toInt32 = 2000 := by decide
theorem ks_2033 : (Int16.ofInt 2033).toInt32 = 2033 := by decide
theorem ks_6804 : (Int16.ofInt 6804).toInt32 = 6804 := by decide
theorem ks_9999 : (Int16.ofInt 9999).toInt32 = 9999 := by decide
theorem ks_12345 : (Int16.ofInt 12345).toInt32 = 12345 := by decide
theorem ks_12600 : (Int16.ofInt 12600).toInt32 = 12600 := by decide
