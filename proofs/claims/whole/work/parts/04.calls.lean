/-! ===== calls: the contract of the machine out of pz_V, and back ===== -/
theorem pz_NW.same {u U : State} (hvm : u.vm = U.vm) (h : pz_NW u) : pz_NW U := by
  refine ⟨fun w hw hn => ?_, h.2.moved (by rw [hvm]; exact Vm.Alike.refl _)⟩
  have h1 := h.1 w hw hn
  cases w <;> first | (simp [pz_isN] at hn; done) | exact va_Nw.same rfl hvm h1
theorem pz_NW.warm {s U : State} (hW : s.WarmedH U.vm) (h : pz_NW s) : pz_NW U := by
  refine ⟨fun w hw hn => ?_, h.2.moved hW.alike⟩
  have h1 := h.1 w hw hn
  cases w <;> first | (simp [pz_isN] at hn; done) | exact va_Nw.warmF hW h1 | exact va_Nw.warmM hW h1
def pz_ok (N : pz_M) (n : Nat) : Prop := Cond.code N.1 N.2.1 N.2.2.1 N.2.2.2 ∈ pz_tb ∧ Cond.initialized N.1.cls ∈ pz_tb ∧ plainName N.1.cls = true ∧ N.2.2.1 ≤ 22 ∧ (N.1.cls ≠ "java/lang/invoke/MethodHandle" ∧ N.1.cls ≠ "java/lang/invoke/VarHandle") ∧ (parseMethodDescriptor N.1.desc).map (fun d => d.parameters.length) = some n
def pz_Qc (G : pz_G) (B : Nat) (Q : Option Value → pz_H → Prop) : Array Value → State → Outcome → State → Prop := fun _ st o t => ∃ (r : Option Value) (h : pz_H), o = .returned r ∧ Q r h ∧ pz_R G B h t.heap ∧ va_F (fun q => B ≤ q) st t
def pz_Pc (G : pz_G) (B : Nat) (h : pz_H) (as : List Value) : Array Value → State → Prop := va_Pc as (fun U => pz_R G B h U.heap ∧ va_K G.1 pz_cl (pz_ty G) U ∧ pz_NW U)
abbrev pz_ws (N : pz_M) : List Cond := Cond.code N.1 N.2.1 N.2.2.1 N.2.2.2 :: pz_tb
abbrev pz_rm (d bc bs : Nat) : Room := { frames := d, cells := bc, slots := bs, locals := 41 * d }
set_option maxHeartbeats 1000000 in
theorem pz_met {N : pz_M} {n d bc bs : Nat} {as : List Value} {h : pz_H} {Q : Option Value → pz_H → Prop} (hok : pz_ok N n) (hlen : (lg_sl as).length ≤ N.2.2.1) (k : pz_K N d bc bs as h Q) (l : Launch) (G : pz_G) (B : Nat) : Met l N.1 (pz_ws N) (pz_rm d bc bs) (pz_Pc G B h as) (pz_Qc G B Q) bc bs (fun q => B ≤ q) := by
  refine Met.ofW (cc := N.2.1) (maxL := N.2.2.1) (ret := N.2.2.2) hok.2.2.1 rfl ?_
  intro p e s m args below meth c s₁ Bd hml hv
  obtain ⟨rfl, hR, hK, hNW⟩ := hv
  have hts0 := atoms_spec (ws := pz_ws N) Bd.pre
  have hx := Bd.exec
  have hb := Bd.bytes
  have hr := Bd.returns
  have hlocks := Bd.notSynchronized
  rw [lg_entry_eq]
  refine k p l e _ s m _ below meth c G B s.heap [] 0 0 _ _ ⟨hx, hb, hr, hml, findClass_of_methodNamed Bd.named, fun w hw => hts0 w (List.mem_cons_of_mem _ hw), hNW, hlocks, (name_of_methodNamed Bd.named Bd.method).1, hK, Nat.le_refl _, Nat.le_refl _⟩ trivial hR va_S.rf (lv_entry as hlen) (Nat.le_of_eq (Nat.zero_add _)) (Nat.le_of_eq (Nat.zero_add _)) ?_
  intro r h' H locs cells slots pc ls i hQ hR' hS' hc' hs' hdec hri
  rcases hri with ⟨e1, rfl, rfl⟩ | ⟨v, e1, rfl, rfl⟩ | ⟨v, e1, rfl, rfl, e2⟩ | ⟨v, e1, rfl, rfl⟩ | ⟨v, nc, e1, rfl, rfl⟩
  · exact W.widen hc' hs' (W.vret hx hb (hr.trans e1) (fun t ht hW => ⟨none, h', rfl, hQ, by rw [ht]; exact hR', hS'.F ht⟩) hS'.2.2 hdec)
  · exact W.widen hc' hs' (W.iret hx hb (hr.trans e1) (fun t ht hW => ⟨some (.int v), h', rfl, hQ, by rw [ht]; exact hR', hS'.F ht⟩) hS'.2.2 hdec)
  · exact W.widen hc' hs' (W.zret hx hb (hr.trans e1) (by rcases e2 with rfl | rfl <;> rfl) (fun t ht hW => ⟨some (.int v), h', rfl, hQ, by rw [ht]; exact hR', hS'.F ht⟩) hS'.2.2 hdec)
  · exact W.widen hc' hs' (W.lret hx hb (hr.trans e1) (fun t ht hW => ⟨some (.long v), h', rfl, hQ, by rw [ht]; exact hR', hS'.F ht⟩) hS'.2.2 hdec)
  · exact W.widen hc' hs' (W.aret hx hb (hr.trans e1) (Or.inl ⟨nc, rfl⟩) (Or.inr ⟨v, rfl⟩) (fun t ht hW => ⟨some (.ref v), h', rfl, hQ, by rw [ht]; exact hR', hS'.F ht⟩) hS'.2.2 hdec)
theorem pz_after {p : Program} {l : Launch} {e : Env} {R : Room} {s : State} {m : MethodId} {args : Array Value} {below : List Frame} {meth : Method} {c : Code} {G : pz_G} {B : Nat} {H : Heap} {locs : List Loc} {cells slots mc ms pc : Nat} {ls : Array Slot} {st0 rest : List Value} {Z : State → Prop} {Q' : Option Value → pz_H → Prop} {a : Array Value}
    (hr : va_Run p l e R s m args below meth c H locs cells slots mc ms (F0 m pc ls st0) rest (pz_Qc G B Q' a) (fun q => B ≤ q)) (hS : va_S (fun q => B ≤ q) s.heap H locs)
    (kk : ∀ (r : Option Value) (h' : pz_H) (H1 : Heap) (locs1 : List Loc), Q' r h' → pz_R G B h' H1 → va_S (fun q => B ≤ q) s.heap H1 locs1 → W p l e R s m args below meth c H1 locs1 (cells + mc) (slots + ms) Z (F0 m (pc + 3) ls (r.toList ++ rest))) : W p l e R s m args below meth c H locs cells slots Z (F0 m pc ls st0) := by
  intro T hT X
  obtain ⟨v, st₀, t, T', L, h0, X', hL, e1, e2, ⟨r, h', hv, hq, hR', hz, hk⟩, st⟩ := hr T hT X
  cases hv
  rw [h0] at hz hk
  obtain ⟨t2, a1, b1⟩ := kk v h' T'.heap (locs ++ L) hq (by rw [e1]; exact hR')
    ⟨Nat.le_trans hS.1 (by rw [e1]; exact hz), fun q h1 h2 => by rw [e1, hk q (Nat.lt_of_lt_of_le h1 hS.1) h2]; exact hS.2.1 q h1 h2, fun q hq => by
      rcases List.mem_append.mp hq with h | h
      · exact hS.2.2 q h
      · exact hL q h⟩ T' rfl X'
  exact ⟨t2, st t2 a1, b1⟩
def pz_ml (own : String) (idx : Nat) (N : pz_M) : Prop := Cond.methodLink own idx N.1 ∈ pz_tb ∨ ∃ host : String, Cond.methodLinkNest own idx N.1 host ∈ lw_tbl
/-- an instance method that is called: linked from here, its class at place ci -/
def pz_mv (own : String) (idx : Nat) (N : pz_M) (n ci : Nat) : Prop := pz_ok N n ∧ pz_ml own idx N ∧ Cond.instanceMethod N.1 ∈ pz_tb ∧ Cond.selects N.1.cls N.1 N.1 ∈ pz_tb ∧ ∃ (T : u_T) (k : Nat), pz_cl[ci]? = some (N.1.cls, T, k)
def pz_ms (own : String) (idx : Nat) (N : pz_M) (n : Nat) : Prop := pz_ok N n ∧ pz_ml own idx N ∧ Cond.static N.1 ∈ pz_tb
def pz_mi (own : String) (idx : Nat) (N : pz_M) (n : Nat) : Prop := pz_ok N n ∧ pz_ml own idx N ∧ Cond.instanceMethod N.1 ∈ pz_tb ∧ N.1.name = "<init>" ∧ N.2.2.2 = none
section PZC
variable {M : pz_M} {Ex : State → Nat → Prop} {Q : Option Value → pz_H → Prop} {d bc bs pc pc' : Nat} {lv : List (Nat × Value)} {st stk : List Value} {h : pz_H}
theorem pz_blind {G : pz_G} {B : Nat} {as : List Value} : FrameBlind (pz_Pc G B h as) := fun _ U g mk q => by
  obtain ⟨q0, qR, qK, qN⟩ := q
  exact ⟨q0, qR, va_K.moved (u := U) (U := U.calling g mk _) (Vm.Alike.refl U.vm) qK, qN.same (u := U) (U := U.calling g mk _) rfl⟩
theorem pz_good {args : Array Value} {s : State} {N : pz_M} {n : Nat} (q6 : ∀ w ∈ pz_tb, w.before args s = true) (hok : pz_ok N n) : ∀ w ∈ pz_ws N, ∀ (a' : Array Value) (U : State), s.WarmedH U.vm → w.before a' U = true := by
  intro w hw a' U hW
  have hw' : w ∈ pz_tb := by
    rcases List.mem_cons.mp hw with rfl | hw
    · exact hok.1
    · exact hw
  exact word_at hW (good_of_word (pz_tb_good w hw')) (q6 w hw')
theorem pz_parse {N : pz_M} {n : Nat} (hok : pz_ok N n) : ∀ sig, parseMethodDescriptor N.1.desc = some sig → n = sig.parameters.length := fun sig hs => by
  have h2 := hok.2.2.2.2.2
  rw [hs] at h2
  exact (Option.some.inj h2).symm
set_option maxHeartbeats 1000000 in
theorem pz_callV {N : pz_M} {idx n b ci d' bc1 bs1 bc2 bs2 : Nat} (As : List Value) {fs : List Value} (hm : pz_mv M.1.cls idx N n ci) (hp : pc + 3 = pc') (hd : decode M.2.1 pc = .ok (.invokevirtual idx, 3)) (hn : As.length = n) (hsl : (lg_sl (.ref b :: As)).length ≤ N.2.2.1) (hrest : (st.map fun v => v.category).sum ≤ 8) (hst : As.reverse ++ .ref b :: st = stk) (hdd : d' + 1 ≤ d) (hbc : bc1 + bc2 ≤ bc) (hbs : bs1 + bs2 ≤ bs) (hb : h.2 b = some (aO ci fs))
    (k : pz_K N d' bc1 bs1 (.ref b :: As) h (fun r h' => pz_V M Ex Q d bc2 bs2 pc' lv (r.toList ++ st) h')) : pz_V M Ex Q d bc bs pc lv stk h := by
  subst hp; subst hst
  intro p l e R s m args below meth c G B H locs cells slots ls Z C E hR hS hl hc hs hZ
  obtain ⟨q1, q2, q3, q4, q5, q6, q7, q8, q9, q10, q11, q12⟩ := id C
  obtain ⟨hok, hml, hins, hsel, T, kk, hci⟩ := hm
  have hM := pz_met hok hsl k l G B
  have h22 := hok.2.2.2.1
  have hlo : 8 + (N.2.2.1 + 11) + 41 * d' ≤ R.locals := by omega
  have hPre : PreV s H N.1.cls b (pz_Pc G B h (.ref b :: As)) As := ⟨pz_blind, va_recv q10 (pz_one hR hb) hci (q0 := 0) rfl, fun U hU hW => ⟨rfl, by rw [hU]; exact hR, va_K.moved hW.alike q10, q7.warm hW⟩⟩
  refine pz_after (mc := bc1) (ms := bs1) (rest := st) (a := (Value.ref b :: As).toArray) (Q' := fun r h' => pz_V M Ex Q d bc2 bs2 (pc + 3) lv (r.toList ++ st) h') (G := G) (B := B) ?_ hS (fun r h' H1 locs1 hq hR1 hS1 => hq p l e R s m args below meth c G B H1 locs1 _ _ ls Z C E hR1 hS1 hl (by omega) (by omega) hZ)
  rcases hml with hml | ⟨host, hml⟩
  · exact va_runV (S := ⟨q1, q2, q4, q5, q6⟩) hM ⟨⟨rfl, rfl, Nat.le_trans hdd q11, hlo, pz_good q6 hok, List.mem_cons_self, q6 _ hok.1, q6 _ hok.2.1, hok.2.2.2.2.1, pz_parse hok, q6 _ hml⟩, q6 _ hins, q6 _ hsel⟩ hPre rfl hn hl.1 rfl (lv_room hrest) hd ⟨by omega, by omega⟩
  · exact va_runVN (S := ⟨q1, q2, q4, q5, q6⟩) hM ⟨⟨⟨rfl, rfl, Nat.le_trans hdd q11, hlo, pz_good q6 hok, List.mem_cons_self⟩, q6 _ hok.1, q6 _ hok.2.1, hok.2.2.2.2.1, pz_parse hok, va_Nw.use rfl (q7.1 _ hml rfl)⟩, q6 _ hins, q6 _ hsel⟩ hPre rfl hn hl.1 rfl (lv_room hrest) hd ⟨by omega, by omega⟩
set_option maxHeartbeats 1000000 in
theorem pz_callS {N : pz_M} {idx n d' bc1 bs1 bc2 bs2 : Nat} (As : List Value) (hm : pz_ms M.1.cls idx N n) (hp : pc + 3 = pc') (hd : decode M.2.1 pc = .ok (.invokestatic idx, 3)) (hn : As.length = n) (hsl : (lg_sl As).length ≤ N.2.2.1) (hrest : (st.map fun v => v.category).sum ≤ 8) (hst : As.reverse ++ st = stk) (hdd : d' + 1 ≤ d) (hbc : bc1 + bc2 ≤ bc) (hbs : bs1 + bs2 ≤ bs)
    (k : pz_K N d' bc1 bs1 As h (fun r h' => pz_V M Ex Q d bc2 bs2 pc' lv (r.toList ++ st) h')) : pz_V M Ex Q d bc bs pc lv stk h := by
  subst hp; subst hst
  intro p l e R s m args below meth c G B H locs cells slots ls Z C E hR hS hl hc hs hZ
  obtain ⟨q1, q2, q3, q4, q5, q6, q7, q8, q9, q10, q11, q12⟩ := id C
  obtain ⟨hok, hml, hstt⟩ := hm
  have hM := pz_met hok hsl k l G B
  have h22 := hok.2.2.2.1
  have hlo : 8 + (N.2.2.1 + 11) + 41 * d' ≤ R.locals := by omega
  have hPre : PreS s H (pz_Pc G B h As) As := ⟨pz_blind, fun U hU hW => ⟨rfl, by rw [hU]; exact hR, va_K.moved hW.alike q10, q7.warm hW⟩⟩
  refine pz_after (mc := bc1) (ms := bs1) (rest := st) (a := As.toArray) (Q' := fun r h' => pz_V M Ex Q d bc2 bs2 (pc + 3) lv (r.toList ++ st) h') (G := G) (B := B) ?_ hS (fun r h' H1 locs1 hq hR1 hS1 => hq p l e R s m args below meth c G B H1 locs1 _ _ ls Z C E hR1 hS1 hl (by omega) (by omega) hZ)
  rcases hml with hml | ⟨host, hml⟩
  · exact va_runS (S := ⟨q1, q2, q4, q5, q6⟩) hM ⟨⟨rfl, rfl, Nat.le_trans hdd q11, hlo, pz_good q6 hok, List.mem_cons_self, q6 _ hok.1, q6 _ hok.2.1, hok.2.2.2.2.1, pz_parse hok, q6 _ hml⟩, q6 _ hstt⟩ hPre rfl hn hl.1 rfl (lv_room hrest) hd ⟨by omega, by omega⟩
  · exact va_runSN (S := ⟨q1, q2, q4, q5, q6⟩) hM ⟨⟨⟨rfl, rfl, Nat.le_trans hdd q11, hlo, pz_good q6 hok, List.mem_cons_self⟩, q6 _ hok.1, q6 _ hok.2.1, hok.2.2.2.2.1, pz_parse hok, va_Nw.use rfl (q7.1 _ hml rfl)⟩, q6 _ hstt, trivial⟩ hPre rfl hn hl.1 rfl (lv_room hrest) hd ⟨by omega, by omega⟩
set_option maxHeartbeats 1000000 in
theorem pz_callI {N : pz_M} {idx n b d' bc1 bs1 bc2 bs2 : Nat} (As : List Value) (hm : pz_mi M.1.cls idx N n) (hp : pc + 3 = pc') (hd : decode M.2.1 pc = .ok (.invokespecial idx, 3)) (hn : As.length = n) (hsl : (lg_sl (.ref b :: As)).length ≤ N.2.2.1) (hrest : (st.map fun v => v.category).sum ≤ 8) (hst : As.reverse ++ .ref b :: st = stk) (hdd : d' + 1 ≤ d) (hbc : bc1 + bc2 ≤ bc) (hbs : bs1 + bs2 ≤ bs)
    (k : pz_K N d' bc1 bs1 (.ref b :: As) h (fun r h' => pz_V M Ex Q d bc2 bs2 pc' lv (r.toList ++ st) h')) : pz_V M Ex Q d bc bs pc lv stk h := by
  subst hp; subst hst
  intro p l e R s m args below meth c G B H locs cells slots ls Z C E hR hS hl hc hs hZ
  obtain ⟨q1, q2, q3, q4, q5, q6, q7, q8, q9, q10, q11, q12⟩ := id C
  obtain ⟨hok, hml, hins, hnm, hret⟩ := hm
  have hM := pz_met hok hsl k l G B
  have h22 := hok.2.2.2.1
  have hlo : 8 + (N.2.2.1 + 11) + 41 * d' ≤ R.locals := by omega
  have hPre : PreS s H (pz_Pc G B h (.ref b :: As)) (.ref b :: As) := ⟨pz_blind, fun U hU hW => ⟨rfl, by rw [hU]; exact hR, va_K.moved hW.alike q10, q7.warm hW⟩⟩
  have hcd := hok.1
  rw [hret] at hcd
  have hcd2 : Cond.code N.1 N.2.1 N.2.2.1 none ∈ pz_ws N := List.mem_cons_of_mem _ hcd
  refine pz_after (mc := bc1) (ms := bs1) (rest := st) (a := (Value.ref b :: As).toArray) (Q' := fun r h' => pz_V M Ex Q d bc2 bs2 (pc + 3) lv (r.toList ++ st) h') (G := G) (B := B) ?_ hS (fun r h' H1 locs1 hq hR1 hS1 => hq p l e R s m args below meth c G B H1 locs1 _ _ ls Z C E hR1 hS1 hl (by omega) (by omega) hZ)
  rcases hml with hml | ⟨host, hml⟩
  · exact va_runI (S := ⟨q1, q2, q4, q5, q6⟩) hM ⟨⟨rfl, rfl, Nat.le_trans hdd q11, hlo, pz_good q6 hok, hcd2, q6 _ hcd, q6 _ hok.2.1, hok.2.2.2.2.1, pz_parse hok, q6 _ hml⟩, hnm, q6 _ hins⟩ hPre rfl hn hl.1 rfl (lv_room hrest) hd ⟨by omega, by omega⟩
  · exact va_runIN (S := ⟨q1, q2, q4, q5, q6⟩) hM ⟨⟨⟨rfl, rfl, Nat.le_trans hdd q11, hlo, pz_good q6 hok, hcd2⟩, q6 _ hcd, q6 _ hok.2.1, hok.2.2.2.2.1, pz_parse hok, va_Nw.use rfl (q7.1 _ hml rfl)⟩, hnm, q6 _ hins⟩ hPre rfl hn hl.1 rfl (lv_room hrest) hd ⟨by omega, by omega⟩
/-- Object() -/
theorem pz_obj {idx b : Nat} (hl0 : Cond.methodLink M.1.cls idx Lib.objectInit ∈ pz_tb) (hi0 : Cond.instanceMethod Lib.objectInit ∈ pz_tb) (hc0 : Cond.code Lib.objectInit ⟨#[0xb1]⟩ 1 none ∈ pz_tb) (hp : pc + 3 = pc') (hd : decode M.2.1 pc = .ok (.invokespecial idx, 3)) (hrest : (st.map fun v => v.category).sum ≤ 8) (hdd : 1 ≤ d) (k : pz_V M Ex Q d bc bs pc' lv st h) : pz_V M Ex Q d bc bs pc lv (.ref b :: st) h := by
  subst hp
  intro p l e R s m args below meth c G B H locs cells slots ls Z C E hR hS hl hc hs hZ
  have kk := k p l e R s m args below meth c G B H locs cells slots ls Z C E hR hS hl hc hs hZ
  obtain ⟨q1, q2, q3, q4, q5, q6, q7, q8, q9, q10, q11, q12⟩ := id C
  refine W.objInit q1 q2 q5 (q6 _ hl0) (q6 _ hi0) (q6 _ hc0) rfl (by rw [q4]; exact hl.1) rfl hd (Nat.le_trans hdd q11) ?_ ?_
  · show 2 * 0 + _ + 12 ≤ _
    omega
  · exact kk
/-! Math -/
def pz_mw (own : String) (idx : Nat) (y : MethodName) (cc : ByteArray) (n : Nat) : Prop := Cond.methodLink own idx y ∈ pz_tb ∧ Cond.static y ∈ pz_tb ∧ Cond.initialized "java/lang/Math" ∈ pz_tb ∧ Cond.code y cc n (some .int) ∈ pz_tb
theorem pz_max {idx : Nat} {x y : Int32} (hm : pz_mw M.1.cls idx Lib.Math.max.name Lib.Math.max.code 2) (hp : pc + 3 = pc') (hd : decode M.2.1 pc = .ok (.invokestatic idx, 3)) (hrest : (st.map fun v => v.category).sum ≤ 8) (hdd : 1 ≤ d) (k : pz_V M Ex Q d bc bs pc' lv (.int (if x < y then y else x) :: st) h) : pz_V M Ex Q d bc bs pc lv (.int y :: .int x :: st) h := by
  subst hp
  intro p l e R s m args below meth c G B H locs cells slots ls Z C E hR hS hl hc hs hZ
  have kk := k p l e R s m args below meth c G B H locs cells slots ls Z C E hR hS hl hc hs hZ
  obtain ⟨q1, q2, q3, q4, q5, q6, q7, q8, q9, q10, q11, q12⟩ := id C
  exact va_mmax q1 q2 (q4.trans hl.1.symm) q5 (q6 _ hm.1) (q6 _ hm.2.1) (q6 _ hm.2.2.1) (q6 _ hm.2.2.2) (Nat.le_trans hdd q11) (by omega) (by omega) (by omega) hd kk
theorem pz_min {idx : Nat} {x y : Int32} (hm : pz_mw M.1.cls idx Lib.Math.min.name Lib.Math.min.code 2) (hp : pc + 3 = pc') (hd : decode M.2.1 pc = .ok (.invokestatic idx, 3)) (hrest : (st.map fun v => v.category).sum ≤ 8) (hdd : 1 ≤ d) (k : pz_V M Ex Q d bc bs pc' lv (.int (if y < x then y else x) :: st) h) : pz_V M Ex Q d bc bs pc lv (.int y :: .int x :: st) h := by
  subst hp
  intro p l e R s m args below meth c G B H locs cells slots ls Z C E hR hS hl hc hs hZ
  have kk := k p l e R s m args below meth c G B H locs cells slots ls Z C E hR hS hl hc hs hZ
  obtain ⟨q1, q2, q3, q4, q5, q6, q7, q8, q9, q10, q11, q12⟩ := id C
  exact va_mmin q1 q2 (q4.trans hl.1.symm) q5 (q6 _ hm.1) (q6 _ hm.2.1) (q6 _ hm.2.2.1) (q6 _ hm.2.2.2) (Nat.le_trans hdd q11) (by omega) (by omega) (by omega) hd kk
theorem pz_abs {idx : Nat} {x : Int32} (hm : pz_mw M.1.cls idx Lib.Math.abs.name Lib.Math.abs.code 1) (hp : pc + 3 = pc') (hd : decode M.2.1 pc = .ok (.invokestatic idx, 3)) (hrest : (st.map fun v => v.category).sum ≤ 8) (hdd : 1 ≤ d) (k : pz_V M Ex Q d bc bs pc' lv (.int (if 0 ≤ x then x else 0 - x) :: st) h) : pz_V M Ex Q d bc bs pc lv (.int x :: st) h := by
  subst hp
  intro p l e R s m args below meth c G B H locs cells slots ls Z C E hR hS hl hc hs hZ
  have kk := k p l e R s m args below meth c G B H locs cells slots ls Z C E hR hS hl hc hs hZ
  obtain ⟨q1, q2, q3, q4, q5, q6, q7, q8, q9, q10, q11, q12⟩ := id C
  exact va_mabs q1 q2 (q4.trans hl.1.symm) q5 (q6 _ hm.1) (q6 _ hm.2.1) (q6 _ hm.2.2.1) (q6 _ hm.2.2.2) (Nat.le_trans hdd q11) (by omega) (by omega) (by omega) hd kk
end PZC
