/-! ===== what throws, and its catching by the law ===== -/
abbrev NSE : String := "java/util/NoSuchElementException"
abbrev NSU : List String := ["java/lang/RuntimeException", "java/lang/Exception"]
def py_nt (s : State) : Prop := va_Nw (.declares ⟨"java/lang/RuntimeException", "<init>", "()V"⟩) s ∧ va_Nw (.declares ⟨"java/lang/Exception", "<init>", "()V"⟩) s ∧ va_Nw (.declares ⟨"java/lang/Throwable", "<init>", "()V"⟩) s ∧ va_Nw (.castable NSE NSE) s
def py_st (s : State) (H : Heap) (B : Nat) : Prop := vx_Zq Bundle.tN "UNASSIGNED_STACK" Bundle.steD (fun q => B ≤ q) s H ∧ vx_Zq Bundle.tN "SUPPRESSED_SENTINEL" Bundle.listD (fun q => B ≤ q) s H ∧ py_nt s
theorem py_nt.warm {s U : State} (hW : s.WarmedH U.vm) (h : py_nt s) : py_nt U := ⟨va_Nw.warmD hW h.1, va_Nw.warmD hW h.2.1, va_Nw.warmD hW h.2.2.1, va_Nw.warmC hW h.2.2.2⟩
theorem py_nt.same {u U : State} (hvm : u.vm = U.vm) (h : py_nt u) : py_nt U := ⟨va_Nw.same rfl hvm h.1, va_Nw.same rfl hvm h.2.1, va_Nw.same rfl hvm h.2.2.1, va_Nw.same rfl hvm h.2.2.2⟩
theorem py_st.go {s U : State} {H : Heap} {B : Nat} {locs : List Loc} (h : py_st s s.heap B) (hS : va_S (fun q => B ≤ q) s.heap H locs) (hU : U.heap = H) (hW : s.WarmedH U.vm) : py_st U U.heap B := by
  rw [hU]
  exact ⟨vx_Zq.moved hW.alike (h.1.kept hS.2.1), vx_Zq.moved hW.alike (h.2.1.kept hS.2.1), h.2.2.warm hW⟩
theorem py_st.same {u U : State} {H : Heap} {B : Nat} (hvm : u.vm = U.vm) (h : py_st u H B) : py_st U H B :=
  ⟨vx_Zq.moved (by rw [hvm]; exact Vm.Alike.refl _) h.1, vx_Zq.moved (by rw [hvm]; exact Vm.Alike.refl _) h.2.1, h.2.2.same hvm⟩
def py_Pc (G : pz_G) (B : Nat) (h : pz_H) (as : List Value) : Array Value → State → Prop := va_Pc as (fun U => pz_R G B h U.heap ∧ va_K G.1 pz_cl (pz_ty G) U ∧ pz_NW U ∧ py_st U U.heap B)
theorem py_blind {G : pz_G} {B : Nat} {h : pz_H} {as : List Value} : FrameBlind (py_Pc G B h as) := fun _ U g mk q => by
  obtain ⟨q0, qR, qK, qN, qS⟩ := q
  exact ⟨q0, qR, va_K.moved (u := U) (U := U.calling g mk _) (Vm.Alike.refl U.vm) qK, qN.same (u := U) (U := U.calling g mk _) rfl, qS.same (u := U) (U := U.calling g mk _) rfl⟩
def py_XC (G : pz_G) (B : Nat) (h : pz_H) : String → State → State → Prop := fun E st t => E = NSE ∧ (∃ n, h.1 ≤ n ∧ pz_R G B (n, h.2) t.heap) ∧ va_F (fun q => B ≤ q) st t
/-- where a method throws in the heap that it was called in -/
def py_EX (h : pz_H) : py_X := fun _ _ R s _ args below _ c G B Z => (∀ x ∈ c.exceptionTable.toList, False) ∧ py_st s s.heap B ∧ R.cells = 1 ∧ R.slots = 6 ∧ Z = vx_MQ below (fun _ _ _ _ => False) (py_XC G B h) args s 1 6 (fun q => B ≤ q)
theorem py_at : ∀ w ∈ (vx_at0 "PullThePlug" 120 NSE NSU).filter goodWord, w ∈ pz_tb := by
  have h1 : ∀ w ∈ (vx_at0 "PullThePlug" 120 NSE NSU).filter goodWord, w ∈ lw_tbl := by decide +kernel
  exact fun w hw => pz_in (h1 w hw) (List.mem_filter.mp hw).2
theorem py_atN : ∀ w ∈ (vx_at0 "PullThePlug" 120 NSE NSU).filter (fun w => !goodWord w), w ∈ [Cond.declares ⟨"java/lang/RuntimeException", "<init>", "()V"⟩, Cond.declares ⟨"java/lang/Exception", "<init>", "()V"⟩, Cond.declares ⟨"java/lang/Throwable", "<init>", "()V"⟩, Cond.castable NSE NSE] := by decide +kernel
theorem py_atO : ∀ w ∈ Cond.classLink "PullThePlug" 118 NSE :: Cond.initialized NSE :: vx_at0 "PullThePlug" 120 NSE NSU, vx_ot w = true := by decide +kernel
theorem py_wk : Cond.classLink "PullThePlug" 118 NSE ∈ pz_tb := pz_t4 183 rfl rfl
theorem py_wi : Cond.initialized NSE ∈ pz_tb := pz_t1 14 rfl rfl
section PYT
variable {l : Launch} {M N : pz_M} {Ex : py_X} {Q : Option Value → pz_H → Prop} {d bc bs pc pc' : Nat} {lv : List (Nat × Value)} {st stk : List Value} {h : pz_H}
set_option maxHeartbeats 1000000 in
theorem py_throw (hN : N.1.cls = "PullThePlug") (hl : l.stackTraces = false) (hd : 6 ≤ d) (d0 : decode N.2.1 pc = .ok (.new 118, 3)) (d3 : decode N.2.1 (pc + 3) = .ok (.dup, 1)) (d4 : decode N.2.1 (pc + 4) = .ok (.invokespecial 120, 3)) (d7 : decode N.2.1 (pc + 7) = .ok (.athrow, 1)) : py_V l N (py_EX h) Q d 1 6 pc lv [] h := by
  intro p e R s m args below meth c G B H locs cells slots ls Z C E hR hS hl' hc hs hZ
  obtain ⟨ht, hst, hrc, hrs, rfl⟩ := E
  obtain ⟨q1, q2, q3, q4, q5, q6, q7, q8, q9, q10, q11, q12⟩ := id C
  rw [hN] at q5
  have hat : ∀ w ∈ vx_at0 "PullThePlug" 120 NSE NSU, w.before args s = true := vx_hat (fun w hw => q6 w (py_at w hw)) py_atN (vx_c (va_Nw.use rfl hst.2.2.1) (vx_c (va_Nw.use rfl hst.2.2.2.1) (vx_c (va_Nw.use rfl hst.2.2.2.2.1) (vx_c (va_Nw.use rfl hst.2.2.2.2.2) vx_n))))
  refine vx_throw0 (own := "PullThePlug") (cls := NSE) (names := NSU) (ik := 118) (ic := 120) (A := fun q => B ≤ q) q1 q2 hl q5 (by decide +kernel) (by decide +kernel) (q6 _ py_wk) (q6 _ py_wi) hat py_atO hst.1 hst.2.1 hS (by rw [q4]; exact hl'.1) d0 d3 d4 d7 (fun x hx => (ht x hx).elim) (show 2 + 3 < R.frames by omega) (show 0 + (13 * (2 + 1) + 42) ≤ R.locals by omega) (by omega) (by omega) q8 ?_ hS.2.2 (by omega) (by omega)
  intro t hA hz hk
  refine ⟨rfl, ⟨t.heap.size, by rw [← hR.1]; exact hz, rfl, Nat.le_trans (by rw [hR.1]; exact hR.2.1) hz, fun a e' ha => ?_⟩, Nat.le_trans hS.1 hz, fun q g1 g2 => (hk q (Nat.lt_of_lt_of_le g1 hS.1)).trans (hS.2.1 q g1 g2)⟩
  obtain ⟨g1, g2⟩ := hR.2.2 a e' ha
  exact ⟨g1, g2.kept (hk a g2.lt)⟩
set_option maxHeartbeats 1000000 in
theorem py_metX {n : Nat} {as : List Value} (hok : pz_ok N n) (hlen : (lg_sl as).length ≤ N.2.2.1) (k : py_V l N (py_EX h) (fun _ _ => False) d 1 6 0 (lv_args 0 as) [] h) (G : pz_G) (B : Nat) : vx_Met l N.1 (pz_ws N) (pz_rm d 1 6) (py_Pc G B h as) (fun _ _ _ _ => False) (py_XC G B h) 1 6 (fun q => B ≤ q) := by
  refine vx_ofW (cc := N.2.1) (maxL := N.2.2.1) (ret := N.2.2.2) hok.2.2.1 rfl ?_
  intro p e s m args below meth c s₁ Bd hml ht hv
  obtain ⟨rfl, hR, hK, hNW, hst⟩ := hv
  have hts0 := atoms_spec (ws := pz_ws N) Bd.pre
  have hx := Bd.exec
  have hb := Bd.bytes
  have hr := Bd.returns
  have hlocks := Bd.notSynchronized
  rw [lg_entry_eq]
  exact k p e _ s m _ below meth c G B s.heap [] 0 0 _ _ ⟨hx, hb, hr, hml, findClass_of_methodNamed Bd.named, fun w hw => hts0 w (List.mem_cons_of_mem _ hw), hNW, hlocks, (name_of_methodNamed Bd.named Bd.method).1, hK, Nat.le_refl _, Nat.le_refl _⟩ ⟨ht, hst, rfl, rfl, rfl⟩ hR va_S.rf (lv_entry as hlen) (Nat.le_of_eq (Nat.zero_add _)) (Nat.le_of_eq (Nat.zero_add _)) (fun r h' H locs cells slots pc ls i hQ => hQ.elim)
set_option maxHeartbeats 1000000 in
/-- a call that throws, caught by this method's one row -/
theorem py_callX {idx n b ci d' bc2 bs2 : Nat} {x0 : ExceptionTableEntry} (As : List Value) {fs : List Value} (hE : ∀ {p e R s m args below meth c G B Z}, Ex p e R s m args below meth c G B Z → c.exceptionTable.toList = [x0] ∧ py_st s s.heap B) (hok : pz_ok N n) (hml : Cond.methodLink M.1.cls idx N.1 ∈ pz_tb) (hins : Cond.instanceMethod N.1 ∈ pz_tb) (hsel : Cond.selects N.1.cls N.1 N.1 ∈ pz_tb) {T0 : u_T} {k0 : Nat} (hci : pz_cl[ci]? = some (N.1.cls, T0, k0)) (hd : decode M.2.1 pc = .ok (.invokevirtual idx, 3)) (hn : As.length = n) (hsl : (lg_sl (.ref b :: As)).length ≤ N.2.2.1) (hrest : (st.map fun v => v.category).sum ≤ 8) (hst : As.reverse ++ .ref b :: st = stk) (hdd : d' + 1 ≤ d) (hbc : 1 + bc2 ≤ bc) (hbs : 6 + bs2 ≤ bs) (hb : h.2 b = some (aO ci fs))
    (hx : covers x0 pc = true) (h0x : x0.catchType ≠ 0) (hlink : Cond.classLink M.1.cls x0.catchType NSE ∈ pz_tb)
    (k : py_V l N (py_EX h) (fun _ _ => False) d' 1 6 0 (lv_args 0 (.ref b :: As)) [] h) (kk : ∀ q n', h.1 ≤ n' → py_V l M Ex Q d bc2 bs2 x0.handlerPc lv [.ref q] (n', h.2)) : py_V l M Ex Q d bc bs pc lv stk h := by
  subst hst
  intro p e R s m args below meth c G B H locs cells slots ls Z C E hR hS hl hc hs hZ
  obtain ⟨q1, q2, q3, q4, q5, q6, q7, q8, q9, q10, q11, q12⟩ := id C
  obtain ⟨htab, hstt⟩ := hE E
  have hM := py_metX hok hsl k G B
  have h22 := hok.2.2.2.1
  have hlo : 8 + (N.2.2.1 + 11) + 41 * d' ≤ R.locals := by omega
  have hPre : PreV s H N.1.cls b (py_Pc G B h (.ref b :: As)) As := ⟨py_blind, va_recv q10 (pz_one hR hb) hci (q0 := 0) rfl, fun U hU hW => ⟨rfl, by rw [hU]; exact hR, va_K.moved hW.alike q10, q7.warm hW, hstt.go hS hU hW⟩⟩
  have hr := vx_runV (p := p) (e := e) (m := m) (below := below) (meth := meth) (c := c) (locs := locs) (cells := cells) (slots := slots) (g := F0 m pc ls (As.reverse ++ .ref b :: st)) (rest := st) (S := ⟨q1, q2, q4, q5, q6⟩) hM ⟨⟨rfl, rfl, Nat.le_trans hdd q11, hlo, pz_good q6 hok, List.mem_cons_self, q6 _ hok.1, q6 _ hok.2.1, hok.2.2.2.2.1, pz_parse hok, q6 _ hml⟩, q6 _ hins, q6 _ hsel⟩ hPre rfl hn hl.1 rfl (lv_room hrest) hd ⟨by omega, by omega⟩
  intro T hT X
  rcases hr T hT X with ⟨v, st₀, t, T', L, h0, X', hL, e1, e2, hF, st⟩ | ⟨q, st₀, t, T', L, E', ce, h0, X', hL, e1, e2, ⟨rfl, ⟨n', hn', hRn⟩, hF⟩, hce, hcv, hcl, stt⟩
  · exact hF.elim
  · have hS' : va_S (fun q => B ≤ q) s.heap T'.heap (locs ++ L) := (vx_keep h0 e1 hS (fun q _ z => z) (fun q z => z) hL hF).2.2
    have cw : vx_W p l e R s m args below meth c T'.heap (locs ++ L) (cells + 1) (slots + 6) Z (F0 m pc ls st) q := vx_catch (own := M.1.cls) (name := NSE) (E := NSE) q5 [] x0 [] htab (fun z hz => nomatch hz) hx h0x (q6 _ hlink) (va_Nw.use rfl hstt.2.2.2.2.2) (by rw [e1]; exact hce) hcv hcl (kk q n' hn' p e R s m args below meth c G B T'.heap (locs ++ L) _ _ ls Z C E (by rw [e1]; exact hRn) hS' hl (by omega) (by omega) hZ)
    obtain ⟨t2, a1, b1⟩ := cw T' rfl X'
    exact ⟨t2, stt.trans a1, b1⟩
/-- a method with a table of its own -/
def py_EL (hh : List (Nat × Nat × Nat × Nat)) : py_X := fun _ _ _ s _ _ _ _ c _ B _ => c.exceptionTable.toList = tableOf hh ∧ py_st s s.heap B
def py_okW (N : pz_M) (hh : List (Nat × Nat × Nat × Nat)) (n : Nat) : Prop := Cond.codeWith N.1 N.2.1 N.2.2.1 N.2.2.2 hh ∈ pz_tb ∧ Cond.initialized N.1.cls ∈ pz_tb ∧ plainName N.1.cls = true ∧ N.2.2.1 ≤ 22 ∧ (N.1.cls ≠ "java/lang/invoke/MethodHandle" ∧ N.1.cls ≠ "java/lang/invoke/VarHandle") ∧ (parseMethodDescriptor N.1.desc).map (fun d => d.parameters.length) = some n
set_option maxHeartbeats 1000000 in
theorem py_metW {hh : List (Nat × Nat × Nat × Nat)} {n : Nat} {as : List Value} (hok : py_okW N hh n) (hlen : (lg_sl as).length ≤ N.2.2.1) (k : py_V l N (py_EL hh) Q d bc bs 0 (lv_args 0 as) [] h) (G : pz_G) (B : Nat) : Met l N.1 (Cond.codeWith N.1 N.2.1 N.2.2.1 N.2.2.2 hh :: pz_tb) (pz_rm d bc bs) (py_Pc G B h as) (pz_Qc G B Q) bc bs (fun q => B ≤ q) := by
  refine va_MetW (cc := N.2.1) (maxL := N.2.2.1) (ret := N.2.2.2) (hh := hh) hok.2.2.1 rfl ?_
  intro p e s m args below meth c s₁ Bd hml hv
  obtain ⟨rfl, hR, hK, hNW, hst⟩ := hv
  have hts0 := atoms_spec (ws := Cond.codeWith N.1 N.2.1 N.2.2.1 N.2.2.2 hh :: pz_tb) Bd.pre
  have hx := Bd.exec
  have hb := Bd.bytes
  have hr := Bd.returns
  have hlocks := Bd.notSynchronized
  have htab := vx_table (x := N.1) Bd (hts0 _ List.mem_cons_self)
  rw [lg_entry_eq]
  refine k p e _ s m _ below meth c G B s.heap [] 0 0 _ _ ⟨hx, hb, hr, hml, findClass_of_methodNamed Bd.named, fun w hw => hts0 w (List.mem_cons_of_mem _ hw), hNW, hlocks, (name_of_methodNamed Bd.named Bd.method).1, hK, Nat.le_refl _, Nat.le_refl _⟩ ⟨htab, hst⟩ hR va_S.rf (lv_entry as hlen) (Nat.le_of_eq (Nat.zero_add _)) (Nat.le_of_eq (Nat.zero_add _)) ?_
  intro r h' H locs cells slots pc ls i hQ hR' hS' hc' hs' hdec hri
  rcases hri with ⟨e1, rfl, rfl⟩ | ⟨v, e1, rfl, rfl⟩ | ⟨v, e1, rfl, rfl, e2⟩ | ⟨v, e1, rfl, rfl⟩ | ⟨v, nc, e1, rfl, rfl⟩
  · exact W.widen hc' hs' (W.vret hx hb (hr.trans e1) (fun t ht hW => ⟨none, h', rfl, hQ, by rw [ht]; exact hR', hS'.F ht⟩) hS'.2.2 hdec)
  · exact W.widen hc' hs' (W.iret hx hb (hr.trans e1) (fun t ht hW => ⟨some (.int v), h', rfl, hQ, by rw [ht]; exact hR', hS'.F ht⟩) hS'.2.2 hdec)
  · exact W.widen hc' hs' (W.zret hx hb (hr.trans e1) (by rcases e2 with rfl | rfl <;> rfl) (fun t ht hW => ⟨some (.int v), h', rfl, hQ, by rw [ht]; exact hR', hS'.F ht⟩) hS'.2.2 hdec)
  · exact W.widen hc' hs' (W.lret hx hb (hr.trans e1) (fun t ht hW => ⟨some (.long v), h', rfl, hQ, by rw [ht]; exact hR', hS'.F ht⟩) hS'.2.2 hdec)
  · exact W.widen hc' hs' (W.aret hx hb (hr.trans e1) (Or.inl ⟨nc, rfl⟩) (Or.inr ⟨v, rfl⟩) (fun t ht hW => ⟨some (.ref v), h', rfl, hQ, by rw [ht]; exact hR', hS'.F ht⟩) hS'.2.2 hdec)
set_option maxHeartbeats 1000000 in
theorem py_callW {idx n d' bc1 bs1 bc2 bs2 : Nat} {hh : List (Nat × Nat × Nat × Nat)} (As : List Value) (hE : ∀ {p e R s m args below meth c G B Z}, Ex p e R s m args below meth c G B Z → py_st s s.heap B) (hok : py_okW N hh n) (hml : Cond.methodLink M.1.cls idx N.1 ∈ pz_tb) (hstat : Cond.static N.1 ∈ pz_tb) (hp : pc + 3 = pc') (hd : decode M.2.1 pc = .ok (.invokestatic idx, 3)) (hn : As.length = n) (hsl : (lg_sl As).length ≤ N.2.2.1) (hrest : (st.map fun v => v.category).sum ≤ 8) (hst : As.reverse ++ st = stk) (hdd : d' + 1 ≤ d) (hbc : bc1 + bc2 ≤ bc) (hbs : bs1 + bs2 ≤ bs)
    (k : py_V l N (py_EL hh) (fun r h' => py_V l M Ex Q d bc2 bs2 pc' lv (r.toList ++ st) h') d' bc1 bs1 0 (lv_args 0 As) [] h) : py_V l M Ex Q d bc bs pc lv stk h := by
  subst hp; subst hst
  intro p e R s m args below meth c G B H locs cells slots ls Z C E hR hS hl hc hs hZ
  obtain ⟨q1, q2, q3, q4, q5, q6, q7, q8, q9, q10, q11, q12⟩ := id C
  have hM := py_metW hok hsl k G B
  have h22 := hok.2.2.2.1
  have hlo : 8 + (N.2.2.1 + 11) + 41 * d' ≤ R.locals := by omega
  have hPre : PreS s H (py_Pc G B h As) As := ⟨py_blind, fun U hU hW => ⟨rfl, by rw [hU]; exact hR, va_K.moved hW.alike q10, q7.warm hW, (hE E).go hS hU hW⟩⟩
  refine pz_after (mc := bc1) (ms := bs1) (rest := st) (a := As.toArray) (Q' := fun r h' => py_V l M Ex Q d bc2 bs2 (pc + 3) lv (r.toList ++ st) h') (G := G) (B := B) ?_ hS (fun r h' H1 locs1 hq hR1 hS1 => hq p e R s m args below meth c G B H1 locs1 _ _ ls Z C E hR1 hS1 hl (by omega) (by omega) hZ)
  have hg : ∀ w ∈ Cond.codeWith N.1 N.2.1 N.2.2.1 N.2.2.2 hh :: pz_tb, ∀ (a' : Array Value) (U : State), s.WarmedH U.vm → w.before a' U = true := by
    intro w hw a' U hW
    have hw' : w ∈ pz_tb := by
      rcases List.mem_cons.mp hw with rfl | hw
      · exact hok.1
      · exact hw
    exact word_at hW (good_of_word (pz_tb_good w hw')) (q6 w hw')
  have hpar : ∀ sig, parseMethodDescriptor N.1.desc = some sig → n = sig.parameters.length := fun sig hs => by
    have h2 := hok.2.2.2.2.2
    rw [hs] at h2
    exact (Option.some.inj h2).symm
  exact vx_runSW (S := ⟨q1, q2, q4, q5, q6⟩) hM ⟨⟨rfl, rfl, Nat.le_trans hdd q11, hlo, hg, List.mem_cons_self⟩, q6 _ hok.1, q6 _ hok.2.1, hok.2.2.2.2.1, hpar, q6 _ hml, q6 _ hstat⟩ hPre rfl hn hl.1 rfl (lv_room hrest) hd ⟨by omega, by omega⟩
end PYT
