/-! THE CLAIM OUT OF ONE WALK OF THE LAW'S BODY. Your part is whole_start (and what it stands on); all else here is the same for every law, but numbers. -/
def R_law : String := "PullThePlugLaw"
def lw_P (b : Addr) (xs : List Int32) (args : Array Value) (s : State) : Prop := args = #[.ref b] ∧ s.IntsAt b xs ∧ xs.length ≤ 2560 ∧ (Jvm.Cond.and given_1 narrow_1).before args s = true
def lw_Q (_ : Array Value) (s : State) (o : Outcome) (t : State) : Prop := o = .returned (some (.int 1)) ∧ Framed s o t [] 475462 7669720
def lw_Z (below : List Frame) (a : Array Value) (s : State) : State → Prop := fun t => ∃ o, t.status = .running ∧ Ended t below o ∧ lw_Q a s o t
/-- the law's own end, with 1 on the stack, nothing written that was there before, its room as the claim has it -/
theorem lw_ret {p : Program} {l : Launch} {e : Env} {s : State} {m : MethodId} {below : List Frame} {meth : Method} {c : Code} {b : Nat} (hx : p.tables.exec = Jvm.exec) (hb : c.code = code) (hr : meth.sig.returnType = ret) (hlocks : meth.locks = false) {pc : Nat} {H : Heap} {ls : Array Slot} (hdg : decode code pc = .ok (.ireturn, 1)) : W p l e room_1 s m #[Value.ref b] below meth c H [] 475462 7669720 (lw_Z below #[Value.ref b] s) (F0 m pc ls [.int 1]) := by
  intro T hT X
  obtain ⟨fs, hret, hrun, hended, hW, hframe⟩ := X.leave (v := some (.int 1)) (hlocks := hlocks) (fun h => by rw [hr] at h; cases h)
  have hmeth' : T.vm.method? m = some meth := X.method'
  refine ⟨T.setFrames fs, ?_, .returned (some (.int 1)), hrun, hended, rfl, ⟨_, rfl⟩, hW, hframe⟩
  jvm_step X.here [X.here.top, hx, hb, hdg, hmeth', hr, ret, narrow_b1]
  (try refine ⟨rfl, ?_⟩); (try refine ⟨rfl, ?_⟩)
  first | (intro acts; rw [hret _ acts rfl rfl rfl]) | rw [hret _ _ rfl rfl rfl]
  exact Steps.refl _
/-- what holds at the law's entry: the machine, the code, the tables' words (any of lw_tbl by 'hts w (by decide +kernel)'), the script of L ints xs at the cell b, what the Statement gives of the start (any of its parts by flat_of_before) -/
def lw_At (p : Program) (s : State) (m : MethodId) (meth : Method) (c : Code) (b L : Nat) (xs : Nat → Int32) : Prop :=
  p.tables.exec = Jvm.exec ∧ c.code = code ∧ meth.sig.returnType = ret ∧ c.maxLocals = 8 ∧ s.vm.findClass R_law = some m.cls ∧ (∀ w ∈ lw_tbl, w.before #[Value.ref b] s = true) ∧ va_X b L xs s s.heap ∧ b < s.heap.size ∧ meth.locks = false ∧ (Jvm.Cond.and given_1 narrow_1).before #[Value.ref b] s = true
def LEx (b L : Nat) (xs : Nat → Int32) : py_X := fun _ _ _ s _ _ _ _ _ _ B _ => py_S b L xs s B ∧ py_st s s.heap B
theorem lw_arr {ty : FieldType} {args : Array Value} {s : State} (h : (Cond.arrayClass ty).before args s = true) : ∃ c, ArrOfT s c ty ∧ s.vm.findClass ("[" ++ ty.toString) = some c := by
  obtain ⟨c, k, comp, h1, h2, h3⟩ := Cond.arrayClass_spec h
  exact ⟨c, fun n z => ⟨fun k h => (by cases h), k, h2, comp, h3⟩, h1⟩
theorem lw_arrW {args : Array Value} {s : State} (h : (Cond.arrayOver (.object "PullThePlug$Water")).before args s = true) : ∃ c, ArrOfT s c (.object "PullThePlug$Water") ∧ va_RA s c (.object "PullThePlug$Water") := by
  obtain ⟨comp, c, k, h1, h2, h3, h4, h5⟩ := Cond.arrayOver_spec h
  exact ⟨c, fun n z => ⟨fun k h => (by cases h), k, h3, comp, h4⟩, k, comp, h3, h4, h1, h5⟩
set_option maxHeartbeats 4000000 in
/-- from the entry, for every script of at most 2560 ints, the law comes to its end with true -/
theorem whole_start {p : Program} {e : Env} {s : State} {m : MethodId} {below : List Frame} {meth : Method} {c : Code} (l : Launch) (hl : l.stackTraces = false) (hnm : meth.name = "law") {b L : Nat} {xs : Nat → Int32} (hL : L ≤ 2560) (C0 : lw_At p s m meth c b L xs) : W p l e room_1 s m #[Value.ref b] below meth c s.heap [] 0 0 (lw_Z below #[Value.ref b] s) (entryFrame m ([Value.ref b] : List Value).toArray 8) := by
  obtain ⟨hx, hb, hr, hml, hown, hts, hX, hbl, hlocks, hgv⟩ := id C0
  have hq6 : ∀ w ∈ pz_tb, w.before #[Value.ref b] s = true := fun w hw => hts w (List.mem_filter.mp hw).1
  obtain ⟨c0, i0, K0⟩ := u_known (C := RX0) (T := TX0) (N := 3) (n := 3) hq6 iX0 (hq6 _ (pz_t1 168 rfl rfl))
  obtain ⟨c1, i1, K1⟩ := u_known (C := RX1) (T := TX1) (N := 5) (n := 5) hq6 iX1 (hq6 _ (pz_t1 56 rfl rfl))
  obtain ⟨c2, i2, K2⟩ := u_known (C := RX2) (T := TX2) (N := 2) (n := 2) hq6 iX2 (hq6 _ (pz_t1 133 rfl rfl))
  obtain ⟨c3, i3, K3⟩ := u_known (C := RX3) (T := TX3) (N := 4) (n := 4) hq6 iX3 (hq6 _ (pz_t1 149 rfl rfl))
  obtain ⟨c4, i4, K4⟩ := u_known (C := RX4) (T := TX4) (N := 2) (n := 2) hq6 iX4 (hq6 _ (pz_t1 42 rfl rfl))
  obtain ⟨c5, i5, K5⟩ := u_known (C := RX5) (T := TX5) (N := 6) (n := 6) hq6 iX5 (hq6 _ (pz_t1 186 rfl rfl))
  obtain ⟨c6, i6, K6⟩ := u_known (C := RX6) (T := TX6) (N := 2) (n := 2) hq6 iX6 (hq6 _ (pz_t1 28 rfl rfl))
  obtain ⟨c7, i7, K7⟩ := u_known (C := RX7) (T := TX7) (N := 3) (n := 3) hq6 iX7 (hq6 _ (pz_t3 236 rfl rfl))
  obtain ⟨c8, i8, K8⟩ := u_known (C := RX8) (T := TX8) (N := 9) (n := 9) hq6 iX8 (hq6 _ (pz_t1 81 rfl rfl))
  obtain ⟨c9, i9, K9⟩ := u_known (C := RX9) (T := TX9) (N := 17) (n := 17) hq6 iX9 (hq6 _ (pz_t1 20 rfl rfl))
  obtain ⟨c10, i10, K10⟩ := u_known (C := RX10) (T := TX10) (N := 43) (n := 43) hq6 iX10 (hq6 _ (pz_t5 22 rfl rfl))
  obtain ⟨dC, dI, hKc⟩ : ∃ (dC : Nat → ClassId) (dI : Nat → Nat → Nat), ∀ (k : Nat) (q : vw_C), pz_cl[k]? = some q → u_Kn s q.1 q.2.1 q.2.2 (dC k) (dI k) := by
    refine ⟨fun k => if k = 0 then c0 else if k = 1 then c1 else if k = 2 then c2 else if k = 3 then c3 else if k = 4 then c4 else if k = 5 then c5 else if k = 6 then c6 else if k = 7 then c7 else if k = 8 then c8 else if k = 9 then c9 else c10, fun k => if k = 0 then i0 else if k = 1 then i1 else if k = 2 then i2 else if k = 3 then i3 else if k = 4 then i4 else if k = 5 then i5 else if k = 6 then i6 else if k = 7 then i7 else if k = 8 then i8 else if k = 9 then i9 else i10, ?_⟩
    intro k q hq
    match k, hq with
    | 0, hq => cases hq; exact K0
    | 1, hq => cases hq; exact K1
    | 2, hq => cases hq; exact K2
    | 3, hq => cases hq; exact K3
    | 4, hq => cases hq; exact K4
    | 5, hq => cases hq; exact K5
    | 6, hq => cases hq; exact K6
    | 7, hq => cases hq; exact K7
    | 8, hq => cases hq; exact K8
    | 9, hq => cases hq; exact K9
    | 10, hq => cases hq; exact K10
    | k + 11, hq => simp [pz_cl] at hq
  obtain ⟨yI, rI, nI_⟩ := lw_arr (hq6 _ pz_ac_int)
  obtain ⟨yJ, rJ, nJ⟩ := lw_arr (hq6 _ pz_ac_long)
  obtain ⟨yB, rB, nB⟩ := lw_arr (hq6 _ pz_ac_byte)
  obtain ⟨yZ, rZ, nZ⟩ := lw_arr (hq6 _ pz_ac_boolean)
  have hAO : (Cond.arrayOver (.object "PullThePlug$Water")).before #[Value.ref b] s = true := hts _ (pz_n1 139 rfl)
  obtain ⟨yW, rW, nW⟩ := lw_arrW hAO
  have hK : va_K (dC, dI) pz_cl (pz_ty ((dC, dI), yI, yJ, yB, yW, yZ)) s := by
    refine ⟨hKc, fun k q hq => ?_⟩
    match k, hq with
    | 0, hq => cases hq; exact ⟨rI, nI_⟩
    | 1, hq => cases hq; exact ⟨rJ, nJ⟩
    | 2, hq => cases hq; exact ⟨rB, nB⟩
    | 3, hq => cases hq; exact ⟨rW, nW⟩
    | 4, hq => cases hq; exact ⟨rZ, nZ⟩
    | k + 5, hq => simp [pz_ty] at hq
  have hNW : pz_NW s := by
    refine ⟨fun w hw hn => ?_, va_AO.of hAO⟩
    have h1 := hts w hw
    cases w <;> first | (simp [pz_isN] at hn; done) | exact va_tabs rfl rfl h1
  have hs := flat_of_before _ hgv
  have hA : ∀ a : Nat, a < s.heap.size → ¬ (fun q : Nat => s.heap.size ≤ q) a := fun a h => Nat.not_le.mpr h
  have hU : vx_Zq Bundle.tN "UNASSIGNED_STACK" Bundle.steD (fun q => s.heap.size ≤ q) s s.heap := vx_Zqof (hts (.laysStatic "java/lang/Throwable" "UNASSIGNED_STACK" "[Ljava/lang/StackTraceElement;") (pz_n4 210 rfl)) (hq6 _ (pz_t1 11 rfl rfl)) (hs (.isRef (.static "java/lang/Throwable" "UNASSIGNED_STACK" "[Ljava/lang/StackTraceElement;")) (by decide +kernel)) hA
  have hN : vx_Zq Bundle.tN "SUPPRESSED_SENTINEL" Bundle.listD (fun q => s.heap.size ≤ q) s s.heap := vx_Zqof (hts (.laysStatic "java/lang/Throwable" "SUPPRESSED_SENTINEL" "Ljava/util/List;") (pz_n4 212 rfl)) (hq6 _ (pz_t1 11 rfl rfl)) (hs (.isRef (.static "java/lang/Throwable" "SUPPRESSED_SENTINEL" "Ljava/util/List;")) (by decide +kernel)) hA
  have hnt : py_nt s := ⟨va_tabs rfl rfl (hts _ (pz_n4 186 rfl)), va_tabs rfl rfl (hts _ (pz_n4 188 rfl)), va_tabs rfl rfl (hts _ (pz_n4 190 rfl)), va_tabs rfl rfl (hts _ (pz_n4 185 rfl))⟩
  rw [lg_entry_eq]
  refine law_body (x := s.heap.size) (Ex := LEx b L xs) (b := b) (L := L) (xs := xs) hl (fun E => E.2) (fun E => E.1) hL p e room_1 s m #[Value.ref b] below meth c ((dC, dI), yI, yJ, yB, yW, yZ) s.heap.size s.heap [] 0 0 _ _ ⟨hx, hb, hr, hml, hown, hq6, hNW, hlocks, hnm, hK, by decide, by decide⟩ ⟨⟨hX, hbl, hbl⟩, hU, hN, hnt⟩ ⟨rfl, Nat.le_refl _, fun a e' ha => nomatch ha⟩ va_S.rf (lv_entry [.ref b] (Nat.le_of_ble_eq_true rfl)) (by decide) (by decide) ?_
  intro r h' H locs cells slots pc ls i hQ hR' hS' hc hs' hdec hri
  obtain rfl : r = some (.int 1) := hQ
  rcases hri with ⟨e1, -, -⟩ | ⟨v, e1, -, -⟩ | ⟨v, e1, -, rfl, -⟩ | ⟨v, e1, -, -⟩ | ⟨v, nc, e1, -, -⟩
  · cases e1
  · cases e1
  · exact va_forget hS'.2.2 (W.widen hc hs' (lw_ret hx hb hr hlocks hdec))
  · cases e1
  · cases e1
set_option maxHeartbeats 4000000 in
theorem lw_walk (l : Launch) (hl : l.stackTraces = false) (b : Addr) (xs : List Int32) : MetFree l x (headSpec (Jvm.Cond.code x code maxLocals ret :: tables_1) room_1) (lw_P b xs) (fun _ _ _ _ _ => True) lw_Q := by
  refine MetFree.of_bodyS (code := code) (maxLocals := maxLocals) (ret := ret) (by decide) ?_ ?_
  · intro args s m h hn
    obtain ⟨meth, c, h1, h2, h3, h4, h5, h6, -, -⟩ := Cond.code_spec hn (atoms_spec (ws := Jvm.Cond.code x code maxLocals ret :: tables_1) h _ List.mem_cons_self)
    exact ⟨meth, c, h1, h2, h3, h4, h5, h6⟩
  · intro p e s m args below meth c s₁ B hml0 hP _
    obtain ⟨rfl, hx, hbd, hgv⟩ := hP
    obtain ⟨scr, harrAt, hlist, hof, hsmall⟩ := hx
    obtain ⟨hcb, hkn, -, -⟩ := State.arrayAt?_spec harrAt
    have hown : s.vm.findClass R_law = some m.cls := findClass_of_methodNamed B.named
    have hts0 : ∀ c ∈ (Jvm.Cond.code x code maxLocals ret :: tables_1), c.before #[Value.ref b] s = true := atoms_spec (ws := Jvm.Cond.code x code maxLocals ret :: tables_1) B.pre
    have hts : ∀ w ∈ lw_tbl, w.before #[Value.ref b] s = true := k2_hts_sels lw_privs (fun w hw => hts0 w (List.mem_cons_of_mem _ hw)) lw_privs_ok
    have hml : c.maxLocals = 8 := B.maxLocals_eq (hts0 _ List.mem_cons_self)
    have X₀ : Stand p l e room_1 s m #[Value.ref b] below meth c s₁ [] 0 0 := Stand.of_body B
    have hh0 : s₁.heap = s.heap := by rw [B.state]; rfl
    have hsz : scr.slots.size = xs.length := by rw [← Array.length_toList, hlist, List.length_map]
    have hval : ∀ j : Nat, j < xs.length → scr.slots[j]? = some (.int (xs.getD j 0)) := fun j hj => by
      rw [← Array.getElem?_toList, hlist]
      simp [hj]
    have hbl : b < s.heap.size := (Array.getElem?_eq_some_iff.mp hcb).1
    have hX : va_X b xs.length (fun j => xs.getD j 0) s s.heap := ⟨scr, hcb, hof, hkn, hsz, hval⟩
    have K : W p l e room_1 s m #[Value.ref b] below meth c s₁.heap [] 0 0 (lw_Z below #[Value.ref b] s) (entryFrame m ([Value.ref b] : List Value).toArray 8) := by
      rw [hh0]
      exact whole_start l hl (name_of_methodNamed B.named B.method).1 hbd ⟨B.exec, B.bytes, B.returns, hml, hown, hts, hX, hbl, B.notSynchronized, hgv⟩
    obtain ⟨t, a1, o, b1, b2, b3⟩ := K s₁ rfl X₀
    exact ⟨t, o, a1, b1, b2, b3⟩
theorem lw_pre_spec {args : Array Value} {s : State} (h : (Jvm.Cond.and given_1 narrow_1).before args s = true) (hr : rest_1_c.before args s = true) : ∃ (b : Addr) (xs : List Int32), lw_P b xs args s := by
  have hs := flat_of_before _ h
  have hq := flat_of_before _ hr
  have hc : (Cond.count 1).before args s = true := hs _ (by decide +kernel)
  have harr : (Cond.arrayOf (.arg 0) .int).before args s = true := hs _ (by decide +kernel)
  have hle : (Cond.le (.length (.arg 0)) (.int 2560)).before args s = true := hs _ (by decide +kernel)
  have hlen : (Cond.isInt (.length (.arg 0))).before args s = true := hq _ (by decide +kernel)
  have hall : (Cond.all (.arg 0) (.isInt (.elem (.arg 0) (.index 0)))).before args s = true := hq _ (by decide +kernel)
  obtain ⟨b, xs, hb, hx⟩ := State.ints_of_pre rfl harr hlen hall
  have hsm : xs.length < 2 ^ 31 := hx.choose_spec.2.2.2
  have hev : (Term.length (.arg 0)).eval args s none [] s = some (.int xs.length.toInt32) := hx.length_eval hb
  have hv := Cond.le_ints hev (show (Term.int 2560).eval args s none [] s = some (.int 2560) from rfl)
  have hd : xs.length.toInt32 ≤ 2560 := by
    simpa [Cond.before, Cond.holds, hv] using hle
  have hN : xs.length ≤ 2560 := (Int32.ofNat_le_ofNat hsm (by decide)).mp (show Int32.ofNat xs.length ≤ Int32.ofNat 2560 from hd)
  exact ⟨b, xs, Cond.one_arg hc (show args[0]? = some (.ref b) from hb), hx, hN, h⟩
theorem lw_comes (l : Launch) (hl : l.stackTraces = false) : Comes l x (Jvm.Cond.code x code maxLocals ret :: tables_1) room_1 (fun tb e args s => Calls_1 tb e args s ∧ rest_1 tb e args s ∧ Pre_1 tb e args s)
    (fun _ _ args s o t => lw_Q args s o t) := by
  intro p e ha hc hk s m args below hf hfit hheap happ hpre
  obtain ⟨b, xs, hP⟩ := lw_pre_spec hpre.2.2 hpre.2.1
  obtain ⟨k, o, h1, h2, h3, hQ⟩ := lw_walk l hl b xs p e ha hc hk s m args below hf ((Spec.applies_iff_loose hf).mp happ).1 hP trivial
  exact ⟨k, o, h1, h2, h3, hQ⟩
theorem lw_frame {s t : State} {o : Outcome} {args : Array Value} (h : Framed s o t [] 475462 7669720) :
    Framed s o t (fieldLocs frame_1_writes args s ++ arrayLocs frame_1_arrays args s ++ staticLocs frame_1_statics s) 475462 7669720 := h
theorem lw_limb (L : Cond) (hL : ∀ (args : Array Value) (s t : State), L.after args s (.returned (some (.int 1))) t = true) :
    ArmFor flags0 classFile x code maxLocals ret World_1 tables_1 room_1 Calls_1 rest_1 Pre_1
      (fun tb e a s o t => postC L tb e a s o t ∧ Framed s o t (fieldLocs frame_1_writes a s ++ arrayLocs frame_1_arrays a s ++ staticLocs frame_1_statics s) 475462 7669720) := by
  intro l hfl _ _ p e ha hc hk s m args below hf hfit hheap happ hpre
  obtain ⟨k, o, h1, h2, h3, rfl, hF⟩ := lw_comes l (by unfold Launch.stackTraces; rw [hfl]; decide) p e ha hc hk s m args below hf hfit hheap happ hpre
  exact ⟨k, _, h1, h2, h3, hL args s _, lw_frame hF⟩
theorem i_vc : Claimed_1_1 ∧ Claimed_1_2 := ⟨lw_limb limb_1_1 (fun args s t => by simp [limb_1_1, Cond.after, Cond.holds, Cond.value]), lw_limb limb_1_2 (fun args s t => Cond.after_iff.mpr (by
  first | (rw [show limb_1_2 = Cond.eq .result (.int 1) from rfl, Cond.eq_ints (x := 1) (y := 1) rfl rfl]; simp; done) | (simp [limb_1_2, Cond.value, Term.eval]; done)))⟩
