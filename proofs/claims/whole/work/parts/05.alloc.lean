/-! ===== making objects and arrays; System.arraycopy; the forms in which a method's body is printed ===== -/
section PZA
variable {M : pz_M} {Ex : State → Nat → Prop} {Q : Option Value → pz_H → Prop} {d bc bs pc pc' : Nat} {lv : List (Nat × Value)} {st stk : List Value} {h : pz_H}
def pz_nw (own : String) (idx ci N : Nat) (fs : List Value) : Prop := ∃ (C : String) (T : u_T) (ty : Nat → FieldType), pz_cl[ci]? = some (C, T, N) ∧ (∀ w ∈ u_ws C T N, w ∈ pz_tb) ∧ (∀ k, k < N → parseFieldDescriptor (T k).2.2.1 = some (ty k)) ∧ Cond.classLink own idx C ∈ pz_tb ∧ Cond.instantiable C N ∈ pz_tb ∧ Cond.initialized C ∈ pz_tb ∧ (∀ j, j < N → defaultValue (ty j) = vp_V fs j)
theorem pz_newO {idx ci N : Nat} {fs : List Value} (hn : pz_nw M.1.cls idx ci N fs) (hp : pc + 3 = pc') (hd : decode M.2.1 pc = .ok (.new idx, 3)) (hbc : 1 ≤ bc) (hbs : N ≤ bs) (k : pz_V M Ex Q d (bc - 1) (bs - N) pc' lv (.ref h.1 :: st) (pz_new h (aO ci fs))) : pz_V M Ex Q d bc bs pc lv st h := by
  subst hp
  obtain ⟨C, T, ty, hc, hin, hty, hcl, hins, hini, hfs⟩ := hn
  intro p l e R s m args below meth c G B H locs cells slots ls Z CC E hR hS hl hcc hss hZ
  obtain ⟨q1, q2, q3, q4, q5, q6, q7, q8, q9, q10, q11, q12⟩ := id CC
  have hKn := q10.1 ci _ hc
  refine W.newcK q1 q2 q5 (q6 _ hcl) (q6 _ hins) (q6 _ hini) rfl hd (by omega) (by omega) hKn.2.1 hR.1 fun H1 kC hkC e1 z1 o1 => ?_
  refine k p l e R s m args below meth c G B H1 locs _ _ ls Z CC E (hR.new ⟨_, hc, (u_born ty q6 hin hKn hkC e1 hty).to hfs⟩ z1 o1) ⟨?_, fun x h1 h2 => ?_, hS.2.2⟩ hl (by omega) (by omega) hZ
  · have := hS.1
    rw [hR.1] at this
    omega
  · have hlt : x < h.1 := by rw [← hR.1]; exact Nat.lt_of_lt_of_le h1 hS.1
    exact (o1 x hlt).trans (hS.2.1 x h1 h2)
theorem pz_newI {n : Int32} {N : Nat} (hw : Cond.arrayClass .int ∈ pz_tb) (hp : pc + 2 = pc') (hd : decode M.2.1 pc = .ok (.newarray .int, 2)) (hn : ¬ n < 0) (hN : n.toNatClampNeg = N) (hby : N * componentBytes .int ≤ 536870912) (hbc : 1 ≤ bc) (hbs : N ≤ bs) (k : pz_V M Ex Q d (bc - 1) (bs - N) pc' lv (.ref h.1 :: st) (pz_new h (aI N (fun _ => 0)))) : pz_V M Ex Q d bc bs pc lv (.int n :: st) h := by
  subst hp
  intro p l e R s m args below meth c G B H locs cells slots ls Z CC E hR hS hl hcc hss hZ
  obtain ⟨q1, q2, q3, q4, q5, q6, q7, q8, q9, q10, q11, q12⟩ := id CC
  refine va_newaK (atype := .int) q1 q2 (q6 _ hw) rfl hd rfl hn hN hby (by omega) (by omega) hR.1 fun H1 cA e1 z1 o1 hAr hNm => ?_
  have hcA : cA = G.2.1 := Option.some.inj (hNm.symm.trans (q10.2 0 _ rfl).2)
  subst hcA
  refine k p l e R s m args below meth c G B H1 locs _ _ ls Z CC E (hR.new (e := aI N (fun _ => 0)) e1 z1 o1) ⟨?_, fun x h1 h2 => ?_, hS.2.2⟩ hl (by omega) (by omega) hZ
  · have := hS.1
    rw [hR.1] at this
    omega
  · have hlt : x < h.1 := by rw [← hR.1]; exact Nat.lt_of_lt_of_le h1 hS.1
    exact (o1 x hlt).trans (hS.2.1 x h1 h2)
theorem pz_newJ {n : Int32} {N : Nat} (hw : Cond.arrayClass .long ∈ pz_tb) (hp : pc + 2 = pc') (hd : decode M.2.1 pc = .ok (.newarray .long, 2)) (hn : ¬ n < 0) (hN : n.toNatClampNeg = N) (hby : N * componentBytes .long ≤ 536870912) (hbc : 1 ≤ bc) (hbs : N ≤ bs) (k : pz_V M Ex Q d (bc - 1) (bs - N) pc' lv (.ref h.1 :: st) (pz_new h (aJ N (fun _ => 0)))) : pz_V M Ex Q d bc bs pc lv (.int n :: st) h := by
  subst hp
  intro p l e R s m args below meth c G B H locs cells slots ls Z CC E hR hS hl hcc hss hZ
  obtain ⟨q1, q2, q3, q4, q5, q6, q7, q8, q9, q10, q11, q12⟩ := id CC
  refine va_newaK (atype := .long) q1 q2 (q6 _ hw) rfl hd rfl hn hN hby (by omega) (by omega) hR.1 fun H1 cA e1 z1 o1 hAr hNm => ?_
  have hcA : cA = G.2.2.1 := Option.some.inj (hNm.symm.trans (q10.2 1 _ rfl).2)
  subst hcA
  refine k p l e R s m args below meth c G B H1 locs _ _ ls Z CC E (hR.new (e := aJ N (fun _ => 0)) e1 z1 o1) ⟨?_, fun x h1 h2 => ?_, hS.2.2⟩ hl (by omega) (by omega) hZ
  · have := hS.1
    rw [hR.1] at this
    omega
  · have hlt : x < h.1 := by rw [← hR.1]; exact Nat.lt_of_lt_of_le h1 hS.1
    exact (o1 x hlt).trans (hS.2.1 x h1 h2)
theorem pz_newB {n : Int32} {N : Nat} (hw : Cond.arrayClass .byte ∈ pz_tb) (hp : pc + 2 = pc') (hd : decode M.2.1 pc = .ok (.newarray .byte, 2)) (hn : ¬ n < 0) (hN : n.toNatClampNeg = N) (hby : N * componentBytes .byte ≤ 536870912) (hbc : 1 ≤ bc) (hbs : N ≤ bs) (k : pz_V M Ex Q d (bc - 1) (bs - N) pc' lv (.ref h.1 :: st) (pz_new h (aB N (fun _ => 0)))) : pz_V M Ex Q d bc bs pc lv (.int n :: st) h := by
  subst hp
  intro p l e R s m args below meth c G B H locs cells slots ls Z CC E hR hS hl hcc hss hZ
  obtain ⟨q1, q2, q3, q4, q5, q6, q7, q8, q9, q10, q11, q12⟩ := id CC
  refine va_newaK (atype := .byte) q1 q2 (q6 _ hw) rfl hd rfl hn hN hby (by omega) (by omega) hR.1 fun H1 cA e1 z1 o1 hAr hNm => ?_
  have hcA : cA = G.2.2.2.1 := Option.some.inj (hNm.symm.trans (q10.2 2 _ rfl).2)
  subst hcA
  refine k p l e R s m args below meth c G B H1 locs _ _ ls Z CC E (hR.new (e := aB N (fun _ => 0)) e1 z1 o1) ⟨?_, fun x h1 h2 => ?_, hS.2.2⟩ hl (by omega) (by omega) hZ
  · have := hS.1
    rw [hR.1] at this
    omega
  · have hlt : x < h.1 := by rw [← hR.1]; exact Nat.lt_of_lt_of_le h1 hS.1
    exact (o1 x hlt).trans (hS.2.1 x h1 h2)
theorem pz_newZ {n : Int32} {N : Nat} (hw : Cond.arrayClass .boolean ∈ pz_tb) (hp : pc + 2 = pc') (hd : decode M.2.1 pc = .ok (.newarray .boolean, 2)) (hn : ¬ n < 0) (hN : n.toNatClampNeg = N) (hby : N * componentBytes .boolean ≤ 536870912) (hbc : 1 ≤ bc) (hbs : N ≤ bs) (k : pz_V M Ex Q d (bc - 1) (bs - N) pc' lv (.ref h.1 :: st) (pz_new h (aZ N (fun _ => 0)))) : pz_V M Ex Q d bc bs pc lv (.int n :: st) h := by
  subst hp
  intro p l e R s m args below meth c G B H locs cells slots ls Z CC E hR hS hl hcc hss hZ
  obtain ⟨q1, q2, q3, q4, q5, q6, q7, q8, q9, q10, q11, q12⟩ := id CC
  refine va_newaK (atype := .boolean) q1 q2 (q6 _ hw) rfl hd rfl hn hN hby (by omega) (by omega) hR.1 fun H1 cA e1 z1 o1 hAr hNm => ?_
  have hcA : cA = G.2.2.2.2.2 := Option.some.inj (hNm.symm.trans (q10.2 4 _ rfl).2)
  subst hcA
  refine k p l e R s m args below meth c G B H1 locs _ _ ls Z CC E (hR.new (e := aZ N (fun _ => 0)) e1 z1 o1) ⟨?_, fun x h1 h2 => ?_, hS.2.2⟩ hl (by omega) (by omega) hZ
  · have := hS.1
    rw [hR.1] at this
    omega
  · have hlt : x < h.1 := by rw [← hR.1]; exact Nat.lt_of_lt_of_le h1 hS.1
    exact (o1 x hlt).trans (hS.2.1 x h1 h2)
theorem pz_newW {idx : Nat} {n : Int32} {N : Nat} (hw : Cond.classLink M.1.cls idx "PullThePlug$Water" ∈ pz_tb) (hp : pc + 3 = pc') (hd : decode M.2.1 pc = .ok (.anewarray idx, 3)) (hn : ¬ n < 0) (hN : n.toNatClampNeg = N) (hby : N * 4 ≤ 536870912) (hbc : 1 ≤ bc) (hbs : N ≤ bs) (k : pz_V M Ex Q d (bc - 1) (bs - N) pc' lv (.ref h.1 :: st) (pz_new h (aW N (fun _ => none)))) : pz_V M Ex Q d bc bs pc lv (.int n :: st) h := by
  subst hp; subst hN
  intro p l e R s m args below meth c G B H locs cells slots ls Z CC E hR hS hl hcc hss hZ
  obtain ⟨q1, q2, q3, q4, q5, q6, q7, q8, q9, q10, q11, q12⟩ := id CC
  refine W.anew q1 q2 q5 (q6 _ hw) (va_AO.use q7.2) rfl hd rfl hn hby (by omega) (by omega) fun cA kA comp f1 f2 f3 f4 => ?_
  obtain ⟨kB, comp2, w1, w2, w3, w4⟩ := (q10.2 3 _ rfl).2
  have hcA : cA = G.2.2.2.2.1 := Option.some.inj (f1.symm.trans w4)
  subst hcA
  have e1 : va_at G.1 pz_cl (h.1, pz_e G (aW n.toNatClampNeg (fun _ => none))) (H.push { cls := G.2.2.2.2.1, slots := Array.replicate n.toNatClampNeg .null, vm := .none }) := by
    show (H.push _)[h.1]? = some (vp_cell _ _)
    rw [← hR.1, Array.getElem?_push_size, vp_cell_q]
    congr 1
    unfold arrV
    congr 1
    apply Array.ext
    · simp
    · intro i h1 h2
      simp [va_rf]
  have o1 : ∀ q : Nat, q < h.1 → (H.push { cls := G.2.2.2.2.1, slots := Array.replicate n.toNatClampNeg Value.null, vm := .none })[q]? = H[q]? := fun q hq => by
    rw [← hR.1] at hq
    rw [Array.getElem?_push_lt hq, Array.getElem?_eq_getElem hq]
  rw [hR.1]
  refine k p l e R s m args below meth c G B _ locs _ _ ls Z CC E (hR.new e1 (by rw [Array.size_push, hR.1]) o1) ⟨?_, fun x h1 h2 => ?_, hS.2.2⟩ hl (by omega) (by omega) hZ
  · have := hS.1
    rw [Array.size_push]
    omega
  · have hlt : x < h.1 := by rw [← hR.1]; exact Nat.lt_of_lt_of_le h1 hS.1
    exact (o1 x hlt).trans (hS.2.1 x h1 h2)
/-! arraycopy, of ints between two different arrays -/
def pz_cw (own : String) (idx : Nat) : Prop := Cond.methodLink own idx arraycopyName ∈ pz_tb ∧ Cond.native arraycopyName ∈ pz_tb ∧ Cond.static arraycopyName ∈ pz_tb ∧ Cond.initialized "java/lang/System" ∈ pz_tb
theorem pz_copy {idx a0 a n0 n1 : Nat} {f g : Nat → Int32} {sp dp n : Int32} (hm : pz_cw M.1.cls idx) (hp : pc + 3 = pc') (hd : decode M.2.1 pc = .ok (.invokestatic idx, 3)) (hrest : (st.map fun v => v.category).sum ≤ 8) (hdd : 1 ≤ d) (ha0 : h.2 a0 = some (aI n0 f)) (ha1 : h.2 a = some (aI n1 g)) (h1 : ¬ sp < 0) (h2 : ¬ dp < 0) (h3 : ¬ n < 0) (h4 : sp.toNatClampNeg + n.toNatClampNeg ≤ n0) (h5 : dp.toNatClampNeg + n.toNatClampNeg ≤ n1)
    (k : pz_V M Ex Q d bc bs pc' lv st (pz_put h a (aI n1 (va_cpy f g sp.toNatClampNeg dp.toNatClampNeg n.toNatClampNeg)))) : pz_V M Ex Q d bc bs pc lv (.int n :: .int dp :: .ref a :: .int sp :: .ref a0 :: st) h := by
  subst hp
  intro p l e R s m args below meth c G B H locs cells slots ls Z CC E hR hS hl hcc hss hZ
  obtain ⟨q1, q2, q3, q4, q5, q6, q7, q8, q9, q10, q11, q12⟩ := id CC
  have nn : ∀ z : Int32, ¬ z < 0 → z.toInt = (z.toNatClampNeg : Int) := by
    intro z hz
    have hz0 : (0 : Int) ≤ z.toInt := by
      have := Int32.not_lt.mp hz
      simpa using Int32.le_iff_toInt_le.mp this
    show z.toInt = ((z.toInt.toNat : Nat) : Int)
    omega
  have hnf : nativeFrameWords "java/lang/System" "arraycopy" 5 ≤ 20 := by decide +kernel
  have hloc : 2 * 0 + (st.map fun v => v.category).sum + (nativeFrameWords "java/lang/System" "arraycopy" 5 + 11) ≤ R.locals := by omega
  intro T hT X
  have hc0 : H[a0]? = some (vp_cell G.2.1 (n0, .inl f)) := (hR.2.2 a0 _ ha0).2
  obtain ⟨hBa, hc1⟩ := hR.2.2 a _ ha1
  have hc1 : H[a]? = some (vp_cell G.2.1 (n1, .inl g)) := hc1
  obtain ⟨-, k0, hk0, cm0, hkk0⟩ := (q10.2 0 _ rfl).1 n0 (fun j => .int (f j))
  obtain ⟨-, k1, hk1, cm1, hkk1⟩ := (q10.2 0 _ rfl).1 n1 (fun j => .int (g j))
  obtain ⟨vm', X', step⟩ := X.arraycopy q1 q5 (q6 _ hm.1) (q6 _ hm.2.1) (q6 _ hm.2.2.1) (q6 _ hm.2.2.2) (src := a0) (dst := a) (cs := vp_cell G.2.1 (n0, .inl f)) (cd := vp_cell G.2.1 (n1, .inl g)) (srcPos := sp) (destPos := dp) (n := n) (by rw [hT]; exact hc0) (by rw [hT]; exact hc1)
    (fun _ h => by cases h) (fun _ h => by cases h) (fun h => by cases h) (fun h => by cases h) hk0 hk1 hkk0 hkk1 (by simp [refKind]) h1 h2 h3
    (by rw [nn sp h1, nn n h3]; show ¬ _ > ((arrV G.2.1 n0 (fun j => .int (f j))).slots.size : Int); rw [arrV_size]; omega)
    (by rw [nn dp h2, nn n h3]; show ¬ _ > ((arrV G.2.1 n1 (fun j => .int (g j))).slots.size : Int); rw [arrV_size]; omega)
    (fun vm₁ _ i hi => by
      have e : (vp_cell G.2.1 (n0, .inl f)).slots.getD (sp.toNatClampNeg + i) .null = .int (f (sp.toNatClampNeg + i)) := by
        show (arrV G.2.1 n0 (fun j => .int (f j))).slots.getD _ _ = _
        rw [Array.getD_eq_getD_getElem?, arrV_read _ _ (by omega)]
        rfl
      refine ⟨?_, ?_⟩
      · rw [e]
        rfl
      · rw [e]
        exact trivial)
    (g := F0 m pc ls (.int n :: .int dp :: .ref a :: .int sp :: .ref a0 :: st)) rfl (by rw [q4]; exact hl.1) (rest := st) rfl (by rw [q2]; exact hd) (Nat.le_trans hdd q11) hloc
  have e1 : copied (vp_cell G.2.1 (n0, .inl f)) (vp_cell G.2.1 (n1, .inl g)) sp dp n = vp_cell G.2.1 (n1, .inl (va_cpy f g sp.toNatClampNeg dp.toNatClampNeg n.toNatClampNeg)) := va_copied (fun z => .int z) G.2.1 G.2.1 f g h4
  rw [e1] at X' step
  have hlt : a < H.size := (Array.getElem?_eq_some_iff.mp hc1).1
  have hheap : ((T.setVm vm').setCell a (vp_cell G.2.1 (n1, .inl (va_cpy f g sp.toNatClampNeg dp.toNatClampNeg n.toNatClampNeg)))).heap = H.setIfInBounds a (vp_cell G.2.1 (n1, .inl (va_cpy f g sp.toNatClampNeg dp.toNatClampNeg n.toNatClampNeg))) := by rw [← hT]; rfl
  have oq : ∀ q : Nat, q ≠ a → (H.setIfInBounds a (vp_cell G.2.1 (n1, .inl (va_cpy f g sp.toNatClampNeg dp.toNatClampNeg n.toNatClampNeg))))[q]? = H[q]? := fun q hq => by simp [Array.getElem?_setIfInBounds, Ne.symm hq]
  obtain ⟨t, a1, b1⟩ := k p l e R s m args below meth c G B _ _ cells slots ls Z CC E (hR.put (e := aI n1 (va_cpy f g sp.toNatClampNeg dp.toNatClampNeg n.toNatClampNeg)) hBa (show (H.setIfInBounds a _)[a]? = some _ by simp [Array.getElem?_setIfInBounds, hlt]) (by simp) oq) ⟨by simp; exact hS.1, fun q g1 g2 => by
      rw [oq q (fun e => g2 (by rw [e]; exact hBa))]
      exact hS.2.1 q g1 g2, fun q hq => by
      rcases List.mem_append.mp hq with h | h
      · exact hS.2.2 q h
      · obtain ⟨z, -, hz⟩ := List.mem_map.mp h
        rw [← hz]
        exact hBa⟩ hl hcc hss hZ _ hheap X'
  exact ⟨t, step t a1, b1⟩
/-! the printed forms: what a body asks of the heap, and how it goes on -/
def pz_gI (h : pz_H) (a ci k : Nat) (K : Int32 → Prop) : Prop := ∃ (fs : List Value) (x : Int32), h.2 a = some (aO ci fs) ∧ fs[k]? = some (.int x) ∧ K x
def pz_gL (h : pz_H) (a ci k : Nat) (K : Int64 → Prop) : Prop := ∃ (fs : List Value) (x : Int64), h.2 a = some (aO ci fs) ∧ fs[k]? = some (.long x) ∧ K x
def pz_gR (h : pz_H) (a ci k : Nat) (K : Nat → Prop) : Prop := ∃ (fs : List Value) (x : Nat), h.2 a = some (aO ci fs) ∧ fs[k]? = some (.ref x) ∧ K x
def pz_gQ (h : pz_H) (a ci k : Nat) (K : Option Nat → Prop) : Prop := ∃ (fs : List Value) (x : Option Nat), h.2 a = some (aO ci fs) ∧ fs[k]? = some (va_rf x) ∧ K x
def pz_pF (h : pz_H) (a ci k : Nat) (v : Value) (K : pz_H → Prop) : Prop := ∃ fs : List Value, h.2 a = some (aO ci fs) ∧ k < fs.length ∧ K (pz_put h a (aO ci (fs.set k v)))
def pz_rI (h : pz_H) (a : Nat) (i : Int32) (K : Int32 → Prop) : Prop := ∃ (n : Nat) (f : Nat → Int32), h.2 a = some (aI n f) ∧ vp_in i n ∧ K (f i.toNatClampNeg)
def pz_rJ (h : pz_H) (a : Nat) (i : Int32) (K : Int64 → Prop) : Prop := ∃ (n : Nat) (f : Nat → Int64), h.2 a = some (aJ n f) ∧ vp_in i n ∧ K (f i.toNatClampNeg)
def pz_rB (h : pz_H) (a : Nat) (i : Int32) (K : Int32 → Prop) : Prop := ∃ (n : Nat) (f : Nat → Int32), h.2 a = some (aB n f) ∧ vp_in i n ∧ K (f i.toNatClampNeg)
def pz_rZ (h : pz_H) (a : Nat) (i : Int32) (K : Int32 → Prop) : Prop := ∃ (n : Nat) (f : Nat → Int32), h.2 a = some (aZ n f) ∧ vp_in i n ∧ K (f i.toNatClampNeg)
def pz_rW (h : pz_H) (a : Nat) (i : Int32) (K : Nat → Prop) : Prop := ∃ (n : Nat) (f : Nat → Option Nat) (q : Nat), h.2 a = some (aW n f) ∧ vp_in i n ∧ f i.toNatClampNeg = some q ∧ K q
def pz_sI (h : pz_H) (a : Nat) (i x : Int32) (K : pz_H → Prop) : Prop := ∃ (n : Nat) (f : Nat → Int32), h.2 a = some (aI n f) ∧ vp_in i n ∧ K (pz_put h a (aI n (upd f i.toNatClampNeg x)))
def pz_sJ (h : pz_H) (a : Nat) (i : Int32) (x : Int64) (K : pz_H → Prop) : Prop := ∃ (n : Nat) (f : Nat → Int64), h.2 a = some (aJ n f) ∧ vp_in i n ∧ K (pz_put h a (aJ n (vp_updL f i.toNatClampNeg x)))
def pz_sB (h : pz_H) (a : Nat) (i x : Int32) (K : pz_H → Prop) : Prop := ∃ (n : Nat) (f : Nat → Int32), h.2 a = some (aB n f) ∧ vp_in i n ∧ K (pz_put h a (aB n (upd f i.toNatClampNeg (vp_nar .byte x))))
def pz_sZ (h : pz_H) (a : Nat) (i x : Int32) (K : pz_H → Prop) : Prop := ∃ (n : Nat) (f : Nat → Int32), h.2 a = some (aZ n f) ∧ vp_in i n ∧ K (pz_put h a (aZ n (upd f i.toNatClampNeg (vp_nar .boolean x))))
def pz_sW (h : pz_H) (a : Nat) (i : Int32) (v : Nat) (K : pz_H → Prop) : Prop := ∃ (n : Nat) (f : Nat → Option Nat) (vs : List Value), h.2 a = some (aW n f) ∧ vp_in i n ∧ h.2 v = some (aO 8 vs) ∧ K (pz_put h a (aW n (va_up f i.toNatClampNeg (some v))))
def pz_lI (h : pz_H) (a : Nat) (K : Int32 → Prop) : Prop := ∃ (n : Nat) (f : Nat → Int32), h.2 a = some (aI n f) ∧ K (Int32.ofNat n)
def pz_lJ (h : pz_H) (a : Nat) (K : Int32 → Prop) : Prop := ∃ (n : Nat) (f : Nat → Int64), h.2 a = some (aJ n f) ∧ K (Int32.ofNat n)
def pz_cp (h : pz_H) (a0 : Nat) (sp : Int32) (a : Nat) (dp n : Int32) (K : pz_H → Prop) : Prop := ∃ (n0 n1 : Nat) (f g : Nat → Int32), h.2 a0 = some (aI n0 f) ∧ h.2 a = some (aI n1 g) ∧ ¬ sp < 0 ∧ ¬ dp < 0 ∧ ¬ n < 0 ∧ sp.toNatClampNeg + n.toNatClampNeg ≤ n0 ∧ dp.toNatClampNeg + n.toNatClampNeg ≤ n1 ∧ K (pz_put h a (aI n1 (va_cpy f g sp.toNatClampNeg dp.toNatClampNeg n.toNatClampNeg)))
/-- a call that answers an int, a long, nothing -/
abbrev pz_ki (N : pz_M) (d bc bs : Nat) (as : List Value) (h : pz_H) (K : Int32 → pz_H → Prop) : Prop := pz_K N d bc bs as h (fun r h' => ∃ x : Int32, r = some (.int x) ∧ K x h')
abbrev pz_kl (N : pz_M) (d bc bs : Nat) (as : List Value) (h : pz_H) (K : Int64 → pz_H → Prop) : Prop := pz_K N d bc bs as h (fun r h' => ∃ x : Int64, r = some (.long x) ∧ K x h')
abbrev pz_kr (N : pz_M) (d bc bs : Nat) (as : List Value) (h : pz_H) (K : Nat → pz_H → Prop) : Prop := pz_K N d bc bs as h (fun r h' => ∃ x : Nat, r = some (.ref x) ∧ K x h')
abbrev pz_kv (N : pz_M) (d bc bs : Nat) (as : List Value) (h : pz_H) (K : pz_H → Prop) : Prop := pz_K N d bc bs as h (fun r h' => r = none ∧ K h')
/-- an instance's class -/
def pz_is (h : pz_H) (b ci : Nat) : Prop := ∃ fs : List Value, h.2 b = some (aO ci fs)
theorem pz_getI {idx ci k0 a : Nat} {K : Int32 → Prop} (hb : pz_gI h a ci k0 K) (hf : pz_fl M.1.cls idx ci k0) (hp : pc + 3 = pc') (hd : decode M.2.1 pc = .ok (.getfield idx, 3)) (kk : ∀ x, K x → pz_V M Ex Q d bc bs pc' lv (.int x :: st) h) : pz_V M Ex Q d bc bs pc lv (.ref a :: st) h := by
  obtain ⟨fs, x, h1, h2, h3⟩ := hb; exact pz_get hf hp hd h1 h2 (kk x h3)
theorem pz_getL {idx ci k0 a : Nat} {K : Int64 → Prop} (hb : pz_gL h a ci k0 K) (hf : pz_fl M.1.cls idx ci k0) (hp : pc + 3 = pc') (hd : decode M.2.1 pc = .ok (.getfield idx, 3)) (kk : ∀ x, K x → pz_V M Ex Q d bc bs pc' lv (.long x :: st) h) : pz_V M Ex Q d bc bs pc lv (.ref a :: st) h := by
  obtain ⟨fs, x, h1, h2, h3⟩ := hb; exact pz_get hf hp hd h1 h2 (kk x h3)
theorem pz_getR {idx ci k0 a : Nat} {K : Nat → Prop} (hb : pz_gR h a ci k0 K) (hf : pz_fl M.1.cls idx ci k0) (hp : pc + 3 = pc') (hd : decode M.2.1 pc = .ok (.getfield idx, 3)) (kk : ∀ x, K x → pz_V M Ex Q d bc bs pc' lv (.ref x :: st) h) : pz_V M Ex Q d bc bs pc lv (.ref a :: st) h := by
  obtain ⟨fs, x, h1, h2, h3⟩ := hb; exact pz_get hf hp hd h1 h2 (kk x h3)
theorem pz_getQ {idx ci k0 a : Nat} {K : Option Nat → Prop} (hb : pz_gQ h a ci k0 K) (hf : pz_fl M.1.cls idx ci k0) (hp : pc + 3 = pc') (hd : decode M.2.1 pc = .ok (.getfield idx, 3)) (kk : ∀ x, K x → pz_V M Ex Q d bc bs pc' lv (va_rf x :: st) h) : pz_V M Ex Q d bc bs pc lv (.ref a :: st) h := by
  obtain ⟨fs, x, h1, h2, h3⟩ := hb; exact pz_get hf hp hd h1 h2 (kk x h3)
theorem pz_putv {idx ci k0 a : Nat} {v : Value} {ty : FieldType} {K : pz_H → Prop} (hb : pz_pF h a ci k0 v K) (hf : pz_fp M.1 idx ci k0 ty) (hnw : narrow ty v = v) (hft : fits ty v = true) (hp : pc + 3 = pc') (hd : decode M.2.1 pc = .ok (.putfield idx, 3)) (kk : ∀ h', K h' → pz_V M Ex Q d bc bs pc' lv st h') : pz_V M Ex Q d bc bs pc lv (v :: .ref a :: st) h := by
  obtain ⟨fs, h1, h2, h3⟩ := hb; exact pz_putf hf hnw hft hp hd h1 h2 (kk _ h3)
theorem pz_ldI {a : Nat} {i : Int32} {K : Int32 → Prop} (hb : pz_rI h a i K) (hp : pc + 1 = pc') (hd : decode M.2.1 pc = .ok (.iaload, 1)) (kk : ∀ x, K x → pz_V M Ex Q d bc bs pc' lv (.int x :: st) h) : pz_V M Ex Q d bc bs pc lv (.int i :: .ref a :: st) h := by
  obtain ⟨n, f, h1, h2, h3⟩ := hb; exact pz_iald hp hd h1 h2 (kk _ h3)
theorem pz_ldJ {a : Nat} {i : Int32} {K : Int64 → Prop} (hb : pz_rJ h a i K) (hp : pc + 1 = pc') (hd : decode M.2.1 pc = .ok (.laload, 1)) (kk : ∀ x, K x → pz_V M Ex Q d bc bs pc' lv (.long x :: st) h) : pz_V M Ex Q d bc bs pc lv (.int i :: .ref a :: st) h := by
  obtain ⟨n, f, h1, h2, h3⟩ := hb; exact pz_lald hp hd h1 h2 (kk _ h3)
theorem pz_ldB {a : Nat} {i : Int32} {K : Int32 → Prop} (hb : pz_rB h a i K) (hp : pc + 1 = pc') (hd : decode M.2.1 pc = .ok (.baload, 1)) (kk : ∀ x, K x → pz_V M Ex Q d bc bs pc' lv (.int x :: st) h) : pz_V M Ex Q d bc bs pc lv (.int i :: .ref a :: st) h := by
  obtain ⟨n, f, h1, h2, h3⟩ := hb; exact pz_bald hp hd h1 h2 (kk _ h3)
theorem pz_ldZ {a : Nat} {i : Int32} {K : Int32 → Prop} (hb : pz_rZ h a i K) (hp : pc + 1 = pc') (hd : decode M.2.1 pc = .ok (.baload, 1)) (kk : ∀ x, K x → pz_V M Ex Q d bc bs pc' lv (.int x :: st) h) : pz_V M Ex Q d bc bs pc lv (.int i :: .ref a :: st) h := by
  obtain ⟨n, f, h1, h2, h3⟩ := hb; exact pz_zald hp hd h1 h2 (kk _ h3)
theorem pz_ldW {a : Nat} {i : Int32} {K : Nat → Prop} (hb : pz_rW h a i K) (hp : pc + 1 = pc') (hd : decode M.2.1 pc = .ok (.aaload, 1)) (kk : ∀ x, K x → pz_V M Ex Q d bc bs pc' lv (.ref x :: st) h) : pz_V M Ex Q d bc bs pc lv (.int i :: .ref a :: st) h := by
  obtain ⟨n, f, q, h1, h2, h3, h4⟩ := hb; exact pz_aald hp hd h1 h2 h3 (kk _ h4)
theorem pz_stI {a : Nat} {i x : Int32} {K : pz_H → Prop} (hb : pz_sI h a i x K) (hp : pc + 1 = pc') (hd : decode M.2.1 pc = .ok (.iastore, 1)) (kk : ∀ h', K h' → pz_V M Ex Q d bc bs pc' lv st h') : pz_V M Ex Q d bc bs pc lv (.int x :: .int i :: .ref a :: st) h := by
  obtain ⟨n, f, h1, h2, h3⟩ := hb; exact pz_iast hp hd h1 h2 (kk _ h3)
theorem pz_stJ {a : Nat} {i : Int32} {x : Int64} {K : pz_H → Prop} (hb : pz_sJ h a i x K) (hp : pc + 1 = pc') (hd : decode M.2.1 pc = .ok (.lastore, 1)) (kk : ∀ h', K h' → pz_V M Ex Q d bc bs pc' lv st h') : pz_V M Ex Q d bc bs pc lv (.long x :: .int i :: .ref a :: st) h := by
  obtain ⟨n, f, h1, h2, h3⟩ := hb; exact pz_last hp hd h1 h2 (kk _ h3)
theorem pz_stB {a : Nat} {i x : Int32} {K : pz_H → Prop} (hb : pz_sB h a i x K) (hp : pc + 1 = pc') (hd : decode M.2.1 pc = .ok (.bastore, 1)) (kk : ∀ h', K h' → pz_V M Ex Q d bc bs pc' lv st h') : pz_V M Ex Q d bc bs pc lv (.int x :: .int i :: .ref a :: st) h := by
  obtain ⟨n, f, h1, h2, h3⟩ := hb; exact pz_bast hp hd h1 h2 (kk _ h3)
theorem pz_stZ {a : Nat} {i x : Int32} {K : pz_H → Prop} (hb : pz_sZ h a i x K) (hp : pc + 1 = pc') (hd : decode M.2.1 pc = .ok (.bastore, 1)) (kk : ∀ h', K h' → pz_V M Ex Q d bc bs pc' lv st h') : pz_V M Ex Q d bc bs pc lv (.int x :: .int i :: .ref a :: st) h := by
  obtain ⟨n, f, h1, h2, h3⟩ := hb; exact pz_zast hp hd h1 h2 (kk _ h3)
theorem pz_stW {a v : Nat} {i : Int32} {K : pz_H → Prop} (hb : pz_sW h a i v K) (hp : pc + 1 = pc') (hd : decode M.2.1 pc = .ok (.aastore, 1)) (kk : ∀ h', K h' → pz_V M Ex Q d bc bs pc' lv st h') : pz_V M Ex Q d bc bs pc lv (.ref v :: .int i :: .ref a :: st) h := by
  obtain ⟨n, f, vs, h1, h2, h3, h4⟩ := hb; exact pz_aast hp hd h1 h2 h3 (kk _ h4)
theorem pz_lenI {a : Nat} {K : Int32 → Prop} (hb : pz_lI h a K) (hp : pc + 1 = pc') (hd : decode M.2.1 pc = .ok (.arraylength, 1)) (kk : ∀ x, K x → pz_V M Ex Q d bc bs pc' lv (.int x :: st) h) : pz_V M Ex Q d bc bs pc lv (.ref a :: st) h := by
  obtain ⟨n, f, h1, h2⟩ := hb; exact pz_alenI hp hd h1 (kk _ h2)
theorem pz_lenJ {a : Nat} {K : Int32 → Prop} (hb : pz_lJ h a K) (hp : pc + 1 = pc') (hd : decode M.2.1 pc = .ok (.arraylength, 1)) (kk : ∀ x, K x → pz_V M Ex Q d bc bs pc' lv (.int x :: st) h) : pz_V M Ex Q d bc bs pc lv (.ref a :: st) h := by
  obtain ⟨n, f, h1, h2⟩ := hb; exact pz_alenJ hp hd h1 (kk _ h2)
theorem pz_cpy {idx a0 a : Nat} {sp dp n : Int32} {K : pz_H → Prop} (hb : pz_cp h a0 sp a dp n K) (hm : pz_cw M.1.cls idx) (hp : pc + 3 = pc') (hd : decode M.2.1 pc = .ok (.invokestatic idx, 3)) (hrest : (st.map fun v => v.category).sum ≤ 8) (hdd : 1 ≤ d) (kk : ∀ h', K h' → pz_V M Ex Q d bc bs pc' lv st h') : pz_V M Ex Q d bc bs pc lv (.int n :: .int dp :: .ref a :: .int sp :: .ref a0 :: st) h := by
  obtain ⟨n0, n1, f, g, h1, h2, h3, h4, h5, h6, h7, h8⟩ := hb; exact pz_copy hm hp hd hrest hdd h1 h2 h3 h4 h5 h6 h7 (kk _ h8)
/-! calls, by the kind of the answer -/
theorem pz_cVi {N : pz_M} {idx n b ci d' bc1 bs1 bc2 bs2 : Nat} {K : Int32 → pz_H → Prop} (As : List Value) (hb : pz_is h b ci ∧ pz_ki N d' bc1 bs1 (.ref b :: As) h K) (hm : pz_mv M.1.cls idx N n ci) (hp : pc + 3 = pc') (hd : decode M.2.1 pc = .ok (.invokevirtual idx, 3)) (hn : As.length = n) (hsl : (lg_sl (.ref b :: As)).length ≤ N.2.2.1) (hrest : (st.map fun v => v.category).sum ≤ 8) (hst : As.reverse ++ .ref b :: st = stk) (hdd : d' + 1 ≤ d) (hbc : bc1 + bc2 ≤ bc) (hbs : bs1 + bs2 ≤ bs) (kk : ∀ x h', K x h' → pz_V M Ex Q d bc2 bs2 pc' lv (.int x :: st) h') : pz_V M Ex Q d bc bs pc lv stk h := by
  obtain ⟨⟨fs, hf⟩, hb⟩ := hb
  exact pz_callV As hm hp hd hn hsl hrest hst hdd hbc hbs hf (pz_post (fun r h' hq => by obtain ⟨x, rfl, hk⟩ := hq; exact kk x h' hk) hb)
theorem pz_cVl {N : pz_M} {idx n b ci d' bc1 bs1 bc2 bs2 : Nat} {K : Int64 → pz_H → Prop} (As : List Value) (hb : pz_is h b ci ∧ pz_kl N d' bc1 bs1 (.ref b :: As) h K) (hm : pz_mv M.1.cls idx N n ci) (hp : pc + 3 = pc') (hd : decode M.2.1 pc = .ok (.invokevirtual idx, 3)) (hn : As.length = n) (hsl : (lg_sl (.ref b :: As)).length ≤ N.2.2.1) (hrest : (st.map fun v => v.category).sum ≤ 8) (hst : As.reverse ++ .ref b :: st = stk) (hdd : d' + 1 ≤ d) (hbc : bc1 + bc2 ≤ bc) (hbs : bs1 + bs2 ≤ bs) (kk : ∀ x h', K x h' → pz_V M Ex Q d bc2 bs2 pc' lv (.long x :: st) h') : pz_V M Ex Q d bc bs pc lv stk h := by
  obtain ⟨⟨fs, hf⟩, hb⟩ := hb
  exact pz_callV As hm hp hd hn hsl hrest hst hdd hbc hbs hf (pz_post (fun r h' hq => by obtain ⟨x, rfl, hk⟩ := hq; exact kk x h' hk) hb)
theorem pz_cVr {N : pz_M} {idx n b ci d' bc1 bs1 bc2 bs2 : Nat} {K : Nat → pz_H → Prop} (As : List Value) (hb : pz_is h b ci ∧ pz_kr N d' bc1 bs1 (.ref b :: As) h K) (hm : pz_mv M.1.cls idx N n ci) (hp : pc + 3 = pc') (hd : decode M.2.1 pc = .ok (.invokevirtual idx, 3)) (hn : As.length = n) (hsl : (lg_sl (.ref b :: As)).length ≤ N.2.2.1) (hrest : (st.map fun v => v.category).sum ≤ 8) (hst : As.reverse ++ .ref b :: st = stk) (hdd : d' + 1 ≤ d) (hbc : bc1 + bc2 ≤ bc) (hbs : bs1 + bs2 ≤ bs) (kk : ∀ x h', K x h' → pz_V M Ex Q d bc2 bs2 pc' lv (.ref x :: st) h') : pz_V M Ex Q d bc bs pc lv stk h := by
  obtain ⟨⟨fs, hf⟩, hb⟩ := hb
  exact pz_callV As hm hp hd hn hsl hrest hst hdd hbc hbs hf (pz_post (fun r h' hq => by obtain ⟨x, rfl, hk⟩ := hq; exact kk x h' hk) hb)
theorem pz_cVv {N : pz_M} {idx n b ci d' bc1 bs1 bc2 bs2 : Nat} {K : pz_H → Prop} (As : List Value) (hb : pz_is h b ci ∧ pz_kv N d' bc1 bs1 (.ref b :: As) h K) (hm : pz_mv M.1.cls idx N n ci) (hp : pc + 3 = pc') (hd : decode M.2.1 pc = .ok (.invokevirtual idx, 3)) (hn : As.length = n) (hsl : (lg_sl (.ref b :: As)).length ≤ N.2.2.1) (hrest : (st.map fun v => v.category).sum ≤ 8) (hst : As.reverse ++ .ref b :: st = stk) (hdd : d' + 1 ≤ d) (hbc : bc1 + bc2 ≤ bc) (hbs : bs1 + bs2 ≤ bs) (kk : ∀ h', K h' → pz_V M Ex Q d bc2 bs2 pc' lv st h') : pz_V M Ex Q d bc bs pc lv stk h := by
  obtain ⟨⟨fs, hf⟩, hb⟩ := hb
  exact pz_callV As hm hp hd hn hsl hrest hst hdd hbc hbs hf (pz_post (fun r h' hq => by obtain ⟨rfl, hk⟩ := hq; exact kk h' hk) hb)
theorem pz_cSi {N : pz_M} {idx n d' bc1 bs1 bc2 bs2 : Nat} {K : Int32 → pz_H → Prop} (As : List Value) (hb : pz_ki N d' bc1 bs1 As h K) (hm : pz_ms M.1.cls idx N n) (hp : pc + 3 = pc') (hd : decode M.2.1 pc = .ok (.invokestatic idx, 3)) (hn : As.length = n) (hsl : (lg_sl As).length ≤ N.2.2.1) (hrest : (st.map fun v => v.category).sum ≤ 8) (hst : As.reverse ++ st = stk) (hdd : d' + 1 ≤ d) (hbc : bc1 + bc2 ≤ bc) (hbs : bs1 + bs2 ≤ bs) (kk : ∀ x h', K x h' → pz_V M Ex Q d bc2 bs2 pc' lv (.int x :: st) h') : pz_V M Ex Q d bc bs pc lv stk h :=
  pz_callS As hm hp hd hn hsl hrest hst hdd hbc hbs (pz_post (fun r h' hq => by obtain ⟨x, rfl, hk⟩ := hq; exact kk x h' hk) hb)
theorem pz_cSl {N : pz_M} {idx n d' bc1 bs1 bc2 bs2 : Nat} {K : Int64 → pz_H → Prop} (As : List Value) (hb : pz_kl N d' bc1 bs1 As h K) (hm : pz_ms M.1.cls idx N n) (hp : pc + 3 = pc') (hd : decode M.2.1 pc = .ok (.invokestatic idx, 3)) (hn : As.length = n) (hsl : (lg_sl As).length ≤ N.2.2.1) (hrest : (st.map fun v => v.category).sum ≤ 8) (hst : As.reverse ++ st = stk) (hdd : d' + 1 ≤ d) (hbc : bc1 + bc2 ≤ bc) (hbs : bs1 + bs2 ≤ bs) (kk : ∀ x h', K x h' → pz_V M Ex Q d bc2 bs2 pc' lv (.long x :: st) h') : pz_V M Ex Q d bc bs pc lv stk h :=
  pz_callS As hm hp hd hn hsl hrest hst hdd hbc hbs (pz_post (fun r h' hq => by obtain ⟨x, rfl, hk⟩ := hq; exact kk x h' hk) hb)
theorem pz_cSv {N : pz_M} {idx n d' bc1 bs1 bc2 bs2 : Nat} {K : pz_H → Prop} (As : List Value) (hb : pz_kv N d' bc1 bs1 As h K) (hm : pz_ms M.1.cls idx N n) (hp : pc + 3 = pc') (hd : decode M.2.1 pc = .ok (.invokestatic idx, 3)) (hn : As.length = n) (hsl : (lg_sl As).length ≤ N.2.2.1) (hrest : (st.map fun v => v.category).sum ≤ 8) (hst : As.reverse ++ st = stk) (hdd : d' + 1 ≤ d) (hbc : bc1 + bc2 ≤ bc) (hbs : bs1 + bs2 ≤ bs) (kk : ∀ h', K h' → pz_V M Ex Q d bc2 bs2 pc' lv st h') : pz_V M Ex Q d bc bs pc lv stk h :=
  pz_callS As hm hp hd hn hsl hrest hst hdd hbc hbs (pz_post (fun r h' hq => by obtain ⟨rfl, hk⟩ := hq; exact kk h' hk) hb)
theorem pz_cIv {N : pz_M} {idx n b d' bc1 bs1 bc2 bs2 : Nat} {K : pz_H → Prop} (As : List Value) (hb : pz_kv N d' bc1 bs1 (.ref b :: As) h K) (hm : pz_mi M.1.cls idx N n) (hp : pc + 3 = pc') (hd : decode M.2.1 pc = .ok (.invokespecial idx, 3)) (hn : As.length = n) (hsl : (lg_sl (.ref b :: As)).length ≤ N.2.2.1) (hrest : (st.map fun v => v.category).sum ≤ 8) (hst : As.reverse ++ .ref b :: st = stk) (hdd : d' + 1 ≤ d) (hbc : bc1 + bc2 ≤ bc) (hbs : bs1 + bs2 ≤ bs) (kk : ∀ h', K h' → pz_V M Ex Q d bc2 bs2 pc' lv st h') : pz_V M Ex Q d bc bs pc lv stk h :=
  pz_callI As hm hp hd hn hsl hrest hst hdd hbc hbs (pz_post (fun r h' hq => by obtain ⟨rfl, hk⟩ := hq; exact kk h' hk) hb)
end PZA
section PZN
variable {M : pz_M} {Ex : State → Nat → Prop} {Q : Option Value → pz_H → Prop} {d bc bs pc pc' : Nat} {lv : List (Nat × Value)} {st stk : List Value} {h : pz_H}
def pz_nO (h : pz_H) (ci : Nat) (fs : List Value) (N bc bs : Nat) (K : Nat → pz_H → Prop) : Prop := 1 ≤ bc ∧ N ≤ bs ∧ K h.1 (pz_new h (aO ci fs))
def pz_nI (h : pz_H) (N bc bs : Nat) (K : Nat → pz_H → Prop) : Prop := 1 ≤ bc ∧ N ≤ bs ∧ K h.1 (pz_new h (aI N (fun _ => 0)))
def pz_nJ (h : pz_H) (N bc bs : Nat) (K : Nat → pz_H → Prop) : Prop := 1 ≤ bc ∧ N ≤ bs ∧ K h.1 (pz_new h (aJ N (fun _ => 0)))
def pz_nB (h : pz_H) (N bc bs : Nat) (K : Nat → pz_H → Prop) : Prop := 1 ≤ bc ∧ N ≤ bs ∧ K h.1 (pz_new h (aB N (fun _ => 0)))
def pz_nZ (h : pz_H) (N bc bs : Nat) (K : Nat → pz_H → Prop) : Prop := 1 ≤ bc ∧ N ≤ bs ∧ K h.1 (pz_new h (aZ N (fun _ => 0)))
def pz_nWt (h : pz_H) (N bc bs : Nat) (K : Nat → pz_H → Prop) : Prop := 1 ≤ bc ∧ N ≤ bs ∧ K h.1 (pz_new h (aW N (fun _ => none)))
theorem pz_mkO {idx ci N : Nat} {fs : List Value} {K : Nat → pz_H → Prop} (hb : pz_nO h ci fs N bc bs K) (hn : pz_nw M.1.cls idx ci N fs) (hp : pc + 3 = pc') (hd : decode M.2.1 pc = .ok (.new idx, 3)) (kk : ∀ q h', K q h' → pz_V M Ex Q d (bc - 1) (bs - N) pc' lv (.ref q :: st) h') : pz_V M Ex Q d bc bs pc lv st h := pz_newO hn hp hd hb.1 hb.2.1 (kk _ _ hb.2.2)
theorem pz_mkI {n : Int32} {N : Nat} {K : Nat → pz_H → Prop} (hb : pz_nI h N bc bs K) (hw : Cond.arrayClass .int ∈ pz_tb) (hp : pc + 2 = pc') (hd : decode M.2.1 pc = .ok (.newarray .int, 2)) (hn : ¬ n < 0) (hN : n.toNatClampNeg = N) (hby : N * componentBytes .int ≤ 536870912) (kk : ∀ q h', K q h' → pz_V M Ex Q d (bc - 1) (bs - N) pc' lv (.ref q :: st) h') : pz_V M Ex Q d bc bs pc lv (.int n :: st) h := pz_newI hw hp hd hn hN hby hb.1 hb.2.1 (kk _ _ hb.2.2)
theorem pz_mkJ {n : Int32} {N : Nat} {K : Nat → pz_H → Prop} (hb : pz_nJ h N bc bs K) (hw : Cond.arrayClass .long ∈ pz_tb) (hp : pc + 2 = pc') (hd : decode M.2.1 pc = .ok (.newarray .long, 2)) (hn : ¬ n < 0) (hN : n.toNatClampNeg = N) (hby : N * componentBytes .long ≤ 536870912) (kk : ∀ q h', K q h' → pz_V M Ex Q d (bc - 1) (bs - N) pc' lv (.ref q :: st) h') : pz_V M Ex Q d bc bs pc lv (.int n :: st) h := pz_newJ hw hp hd hn hN hby hb.1 hb.2.1 (kk _ _ hb.2.2)
theorem pz_mkB {n : Int32} {N : Nat} {K : Nat → pz_H → Prop} (hb : pz_nB h N bc bs K) (hw : Cond.arrayClass .byte ∈ pz_tb) (hp : pc + 2 = pc') (hd : decode M.2.1 pc = .ok (.newarray .byte, 2)) (hn : ¬ n < 0) (hN : n.toNatClampNeg = N) (hby : N * componentBytes .byte ≤ 536870912) (kk : ∀ q h', K q h' → pz_V M Ex Q d (bc - 1) (bs - N) pc' lv (.ref q :: st) h') : pz_V M Ex Q d bc bs pc lv (.int n :: st) h := pz_newB hw hp hd hn hN hby hb.1 hb.2.1 (kk _ _ hb.2.2)
theorem pz_mkZ {n : Int32} {N : Nat} {K : Nat → pz_H → Prop} (hb : pz_nZ h N bc bs K) (hw : Cond.arrayClass .boolean ∈ pz_tb) (hp : pc + 2 = pc') (hd : decode M.2.1 pc = .ok (.newarray .boolean, 2)) (hn : ¬ n < 0) (hN : n.toNatClampNeg = N) (hby : N * componentBytes .boolean ≤ 536870912) (kk : ∀ q h', K q h' → pz_V M Ex Q d (bc - 1) (bs - N) pc' lv (.ref q :: st) h') : pz_V M Ex Q d bc bs pc lv (.int n :: st) h := pz_newZ hw hp hd hn hN hby hb.1 hb.2.1 (kk _ _ hb.2.2)
theorem pz_mkW {idx : Nat} {n : Int32} {N : Nat} {K : Nat → pz_H → Prop} (hb : pz_nWt h N bc bs K) (hw : Cond.classLink M.1.cls idx "PullThePlug$Water" ∈ pz_tb) (hp : pc + 3 = pc') (hd : decode M.2.1 pc = .ok (.anewarray idx, 3)) (hn : ¬ n < 0) (hN : n.toNatClampNeg = N) (hby : N * 4 ≤ 536870912) (kk : ∀ q h', K q h' → pz_V M Ex Q d (bc - 1) (bs - N) pc' lv (.ref q :: st) h') : pz_V M Ex Q d bc bs pc lv (.int n :: st) h := pz_newW hw hp hd hn hN hby hb.1 hb.2.1 (kk _ _ hb.2.2)
end PZN
