/-! ===== the law's judgement: one launch, any further exit; its rows ===== -/
abbrev py_X : Type := Program → Env → Room → State → MethodId → Array Value → List Frame → Method → Code → pz_G → Nat → (State → Prop) → Prop
def py_V (l : Launch) (M : pz_M) (Ex : py_X) (Q : Option Value → pz_H → Prop) (d bc bs pc : Nat) (lv : List (Nat × Value)) (st : List Value) (h : pz_H) : Prop :=
  ∀ (p : Program) (e : Env) (R : Room) (s : State) (m : MethodId) (args : Array Value) (below : List Frame) (meth : Method) (c : Code) (G : pz_G) (B : Nat) (H : Heap) (locs : List Loc) (cells slots : Nat) (ls : Array Slot) (Z : State → Prop),
    pz_C M d p R s m args meth c G → Ex p e R s m args below meth c G B Z → pz_R G B h H → va_S (fun q => B ≤ q) s.heap H locs → lv_has ls M.2.2.1 lv → cells + bc ≤ R.cells → slots + bs ≤ R.slots → pz_Z M Q p l e R s m args below meth c G B Z →
    W p l e R s m args below meth c H locs cells slots Z (F0 m pc ls st)
section PYZ
variable {l : Launch} {M : pz_M} {Ex : py_X} {Q : Option Value → pz_H → Prop} {d bc bs pc pc' : Nat} {lv : List (Nat × Value)} {st stk : List Value} {h : pz_H}
/-- a method's own judgement, at this launch -/
theorem py_of {Ex0 : State → Nat → Prop} (hE : ∀ {p e R s m args below meth c G B Z}, Ex p e R s m args below meth c G B Z → Ex0 s B) (k : pz_V M Ex0 Q d bc bs pc lv st h) : py_V l M Ex Q d bc bs pc lv st h :=
  fun p e R s m args below meth c G B H locs cells slots ls Z C E hR hS hl hc hs hZ => k p l e R s m args below meth c G B H locs cells slots ls Z C (hE E) hR hS hl hc hs hZ
theorem py_mono {d' bc' bs' : Nat} (hd : d ≤ d') (hc : bc ≤ bc') (hs : bs ≤ bs') (k : py_V l M Ex Q d bc bs pc lv st h) : py_V l M Ex Q d' bc' bs' pc lv st h := by
  intro p e R s m args below meth c G B H locs cells slots ls Z C E hR hS hl hcc hss hZ
  obtain ⟨q1, q2, q3, q4, q5, q6, q7, q8, q9, q10, q11, q12⟩ := C
  exact k p e R s m args below meth c G B H locs cells slots ls Z ⟨q1, q2, q3, q4, q5, q6, q7, q8, q9, q10, Nat.le_trans hd q11, Nat.le_trans (Nat.mul_le_mul_left 41 hd) q12⟩ E hR hS hl (by omega) (by omega) hZ
theorem py_post {Q' : Option Value → pz_H → Prop} (hq : ∀ r h', Q r h' → Q' r h') (k : py_V l M Ex Q d bc bs pc lv st h) : py_V l M Ex Q' d bc bs pc lv st h := by
  intro p e R s m args below meth c G B H locs cells slots ls Z C E hR hS hl hcc hss hZ
  exact k p e R s m args below meth c G B H locs cells slots ls Z C E hR hS hl hcc hss (fun r h' H1 locs1 c1 s1 pc1 ls1 i g1 => hZ r h' H1 locs1 c1 s1 pc1 ls1 i (hq r h' g1))
theorem py_row {st' : List Value} (f : ∀ {p : Program} {e : Env} {R : Room} {s : State} {m : MethodId} {args : Array Value} {below : List Frame} {meth : Method} {c : Code} {H : Heap} {locs : List Loc} {cells slots : Nat} {ls : Array Slot} {Z : State → Prop}, p.tables.exec = Jvm.exec → c.code = M.2.1 → lv_has ls M.2.2.1 lv → W p l e R s m args below meth c H locs cells slots Z (F0 m pc' ls st') → W p l e R s m args below meth c H locs cells slots Z (F0 m pc ls st)) (k : py_V l M Ex Q d bc bs pc' lv st' h) : py_V l M Ex Q d bc bs pc lv st h := by
  intro p e R s m args below meth c G B H locs cells slots ls Z C E hR hS hl hc hs hZ
  exact f C.1 C.2.1 hl (k p e R s m args below meth c G B H locs cells slots ls Z C E hR hS hl hc hs hZ)
theorem py_rows {st' : List Value} {lv' : List (Nat × Value)} (f : ∀ {p : Program} {e : Env} {R : Room} {s : State} {m : MethodId} {args : Array Value} {below : List Frame} {meth : Method} {c : Code} {H : Heap} {locs : List Loc} {cells slots : Nat} {ls : Array Slot} {Z : State → Prop}, p.tables.exec = Jvm.exec → c.code = M.2.1 → lv_has ls M.2.2.1 lv → (∀ ls' : Array Slot, lv_has ls' M.2.2.1 lv' → W p l e R s m args below meth c H locs cells slots Z (F0 m pc' ls' st')) → W p l e R s m args below meth c H locs cells slots Z (F0 m pc ls st)) (k : py_V l M Ex Q d bc bs pc' lv' st' h) : py_V l M Ex Q d bc bs pc lv st h := by
  intro p e R s m args below meth c G B H locs cells slots ls Z C E hR hS hl hc hs hZ
  exact f C.1 C.2.1 hl (fun ls' hl' => k p e R s m args below meth c G B H locs cells slots ls' Z C E hR hS hl' hc hs hZ)
theorem py_row2 {A1 A2 : Prop} {pc1 pc2 : Nat} {st1 : List Value} (f : ∀ {p : Program} {e : Env} {R : Room} {s : State} {m : MethodId} {args : Array Value} {below : List Frame} {meth : Method} {c : Code} {H : Heap} {locs : List Loc} {cells slots : Nat} {ls : Array Slot} {Z : State → Prop}, p.tables.exec = Jvm.exec → c.code = M.2.1 → (A1 → W p l e R s m args below meth c H locs cells slots Z (F0 m pc1 ls st1)) → (A2 → W p l e R s m args below meth c H locs cells slots Z (F0 m pc2 ls st1)) → W p l e R s m args below meth c H locs cells slots Z (F0 m pc ls st)) (k1 : A1 → py_V l M Ex Q d bc bs pc1 lv st1 h) (k2 : A2 → py_V l M Ex Q d bc bs pc2 lv st1 h) : py_V l M Ex Q d bc bs pc lv st h := by
  intro p e R s m args below meth c G B H locs cells slots ls Z C E hR hS hl hc hs hZ
  exact f C.1 C.2.1 (fun a => k1 a p e R s m args below meth c G B H locs cells slots ls Z C E hR hS hl hc hs hZ) (fun a => k2 a p e R s m args below meth c G B H locs cells slots ls Z C E hR hS hl hc hs hZ)
theorem py_lv {lv' : List (Nat × Value)} (ks : List Nat) (hl' : lv_pick lv ks = lv') (k : py_V l M Ex Q d bc bs pc lv' st h) : py_V l M Ex Q d bc bs pc lv st h := by
  intro p e R s m args below meth c G B H locs cells slots ls Z C E hR hS hl hc hs hZ
  exact k p e R s m args below meth c G B H locs cells slots ls Z C E hR hS (lv_sub hl ks hl') hc hs hZ
theorem py_iconst {n : Int} {v : Int32} (hp : pc + 1 = pc') (hd : decode M.2.1 pc = .ok (.iconst n, 1)) (hv : Int32.ofInt n = v) (k : py_V l M Ex Q d bc bs pc' lv (.int v :: st) h) : py_V l M Ex Q d bc bs pc lv (st) h := by
  subst hp; exact py_row (fun hx hb _ k => lv_iconst hx hb hd hv k) k
theorem py_bipush {n : Int} {v : Int32} (hp : pc + 2 = pc') (hd : decode M.2.1 pc = .ok (.bipush n, 2)) (hv : (Int8.ofInt n).toInt32 = v) (k : py_V l M Ex Q d bc bs pc' lv (.int v :: st) h) : py_V l M Ex Q d bc bs pc lv (st) h := by
  subst hp; exact py_row (fun hx hb _ k => lv_bipush hx hb hd hv k) k
theorem py_sipush {n : Int} {v : Int32} (hp : pc + 3 = pc') (hd : decode M.2.1 pc = .ok (.sipush n, 3)) (hv : (Int16.ofInt n).toInt32 = v) (k : py_V l M Ex Q d bc bs pc' lv (.int v :: st) h) : py_V l M Ex Q d bc bs pc lv (st) h := by
  subst hp; exact py_row (fun hx hb _ k => lv_sipush hx hb hd hv k) k
theorem py_lconst {n : Fin 2} {v : Int64} (hp : pc + 1 = pc') (hd : decode M.2.1 pc = .ok (.lconst n, 1)) (hv : Int64.ofNat (n : Nat) = v) (k : py_V l M Ex Q d bc bs pc' lv (.long v :: st) h) : py_V l M Ex Q d bc bs pc lv (st) h := by
  subst hp; exact py_row (fun hx hb _ k => lv_lconst hx hb hd hv k) k
theorem py_iadd {x y : Int32} (hp : pc + 1 = pc') (hd : decode M.2.1 pc = .ok (.iadd, 1))  (k : py_V l M Ex Q d bc bs pc' lv (.int (x + y) :: st) h) : py_V l M Ex Q d bc bs pc lv (.int y :: .int x :: st) h := by
  subst hp; exact py_row (fun hx hb _ k => lv_iadd hx hb hd  k) k
theorem py_isub {x y : Int32} (hp : pc + 1 = pc') (hd : decode M.2.1 pc = .ok (.isub, 1))  (k : py_V l M Ex Q d bc bs pc' lv (.int (x - y) :: st) h) : py_V l M Ex Q d bc bs pc lv (.int y :: .int x :: st) h := by
  subst hp; exact py_row (fun hx hb _ k => lv_isub hx hb hd  k) k
theorem py_imul {x y : Int32} (hp : pc + 1 = pc') (hd : decode M.2.1 pc = .ok (.imul, 1))  (k : py_V l M Ex Q d bc bs pc' lv (.int (x * y) :: st) h) : py_V l M Ex Q d bc bs pc lv (.int y :: .int x :: st) h := by
  subst hp; exact py_row (fun hx hb _ k => lv_imul hx hb hd  k) k
theorem py_iand {x y : Int32} (hp : pc + 1 = pc') (hd : decode M.2.1 pc = .ok (.iand, 1))  (k : py_V l M Ex Q d bc bs pc' lv (.int (x &&& y) :: st) h) : py_V l M Ex Q d bc bs pc lv (.int y :: .int x :: st) h := by
  subst hp; exact py_row (fun hx hb _ k => lv_iand hx hb hd  k) k
theorem py_ior {x y : Int32} (hp : pc + 1 = pc') (hd : decode M.2.1 pc = .ok (.ior, 1))  (k : py_V l M Ex Q d bc bs pc' lv (.int (x ||| y) :: st) h) : py_V l M Ex Q d bc bs pc lv (.int y :: .int x :: st) h := by
  subst hp; exact py_row (fun hx hb _ k => lv_ior hx hb hd  k) k
theorem py_ixor {x y : Int32} (hp : pc + 1 = pc') (hd : decode M.2.1 pc = .ok (.ixor, 1))  (k : py_V l M Ex Q d bc bs pc' lv (.int (x ^^^ y) :: st) h) : py_V l M Ex Q d bc bs pc lv (.int y :: .int x :: st) h := by
  subst hp; exact py_row (fun hx hb _ k => lv_ixor hx hb hd  k) k
theorem py_ladd {x y : Int64} (hp : pc + 1 = pc') (hd : decode M.2.1 pc = .ok (.ladd, 1))  (k : py_V l M Ex Q d bc bs pc' lv (.long (x + y) :: st) h) : py_V l M Ex Q d bc bs pc lv (.long y :: .long x :: st) h := by
  subst hp; exact py_row (fun hx hb _ k => lv_ladd hx hb hd  k) k
theorem py_lsub {x y : Int64} (hp : pc + 1 = pc') (hd : decode M.2.1 pc = .ok (.lsub, 1))  (k : py_V l M Ex Q d bc bs pc' lv (.long (x - y) :: st) h) : py_V l M Ex Q d bc bs pc lv (.long y :: .long x :: st) h := by
  subst hp; exact py_row (fun hx hb _ k => lv_lsub hx hb hd  k) k
theorem py_lmul {x y : Int64} (hp : pc + 1 = pc') (hd : decode M.2.1 pc = .ok (.lmul, 1))  (k : py_V l M Ex Q d bc bs pc' lv (.long (x * y) :: st) h) : py_V l M Ex Q d bc bs pc lv (.long y :: .long x :: st) h := by
  subst hp; exact py_row (fun hx hb _ k => lv_lmul hx hb hd  k) k
theorem py_idiv {x y : Int32} (hp : pc + 1 = pc') (hd : decode M.2.1 pc = .ok (.idiv, 1)) (hne : ¬ y = 0) (k : py_V l M Ex Q d bc bs pc' lv (.int (x / y) :: st) h) : py_V l M Ex Q d bc bs pc lv (.int y :: .int x :: st) h := by
  subst hp; exact py_row (fun hx hb _ k => lv_idiv hx hb hd hne k) k
theorem py_irem {x y : Int32} (hp : pc + 1 = pc') (hd : decode M.2.1 pc = .ok (.irem, 1)) (hne : ¬ y = 0) (k : py_V l M Ex Q d bc bs pc' lv (.int (x - x / y * y) :: st) h) : py_V l M Ex Q d bc bs pc lv (.int y :: .int x :: st) h := by
  subst hp; exact py_row (fun hx hb _ k => lv_irem hx hb hd hne k) k
theorem py_ldiv {x y : Int64} (hp : pc + 1 = pc') (hd : decode M.2.1 pc = .ok (.ldiv, 1)) (hne : ¬ y = 0) (k : py_V l M Ex Q d bc bs pc' lv (.long (x / y) :: st) h) : py_V l M Ex Q d bc bs pc lv (.long y :: .long x :: st) h := by
  subst hp; exact py_row (fun hx hb _ k => lv_ldiv hx hb hd hne k) k
theorem py_lrem {x y : Int64} (hp : pc + 1 = pc') (hd : decode M.2.1 pc = .ok (.lrem, 1)) (hne : ¬ y = 0) (k : py_V l M Ex Q d bc bs pc' lv (.long (x - x / y * y) :: st) h) : py_V l M Ex Q d bc bs pc lv (.long y :: .long x :: st) h := by
  subst hp; exact py_row (fun hx hb _ k => lv_lrem hx hb hd hne k) k
theorem py_ineg {x : Int32} (hp : pc + 1 = pc') (hd : decode M.2.1 pc = .ok (.ineg, 1))  (k : py_V l M Ex Q d bc bs pc' lv (.int (-x) :: st) h) : py_V l M Ex Q d bc bs pc lv (.int x :: st) h := by
  subst hp; exact py_row (fun hx hb _ k => lv_ineg hx hb hd  k) k
theorem py_ishl {x y : Int32} (hp : pc + 1 = pc') (hd : decode M.2.1 pc = .ok (.ishl, 1))  (k : py_V l M Ex Q d bc bs pc' lv (.int (x <<< (y &&& 31)) :: st) h) : py_V l M Ex Q d bc bs pc lv (.int y :: .int x :: st) h := by
  subst hp; exact py_row (fun hx hb _ k => lv_ishl hx hb hd  k) k
theorem py_ishr {x y : Int32} (hp : pc + 1 = pc') (hd : decode M.2.1 pc = .ok (.ishr, 1))  (k : py_V l M Ex Q d bc bs pc' lv (.int (x >>> (y &&& 31)) :: st) h) : py_V l M Ex Q d bc bs pc lv (.int y :: .int x :: st) h := by
  subst hp; exact py_row (fun hx hb _ k => lv_ishr hx hb hd  k) k
theorem py_iushr {x y : Int32} (hp : pc + 1 = pc') (hd : decode M.2.1 pc = .ok (.iushr, 1))  (k : py_V l M Ex Q d bc bs pc' lv (.int ((x.toUInt32 >>> (y.toUInt32 &&& Int32.toUInt32 31)).toInt32) :: st) h) : py_V l M Ex Q d bc bs pc lv (.int y :: .int x :: st) h := by
  subst hp; exact py_row (fun hx hb _ k => lv_iushr hx hb hd rfl k) k
theorem py_i2l {x : Int32} (hp : pc + 1 = pc') (hd : decode M.2.1 pc = .ok (.i2l, 1))  (k : py_V l M Ex Q d bc bs pc' lv (.long x.toInt64 :: st) h) : py_V l M Ex Q d bc bs pc lv (.int x :: st) h := by
  subst hp; exact py_row (fun hx hb _ k => lv_i2l hx hb hd rfl k) k
theorem py_i2b {x : Int32} (hp : pc + 1 = pc') (hd : decode M.2.1 pc = .ok (.i2b, 1))  (k : py_V l M Ex Q d bc bs pc' lv (.int x.toInt8.toInt32 :: st) h) : py_V l M Ex Q d bc bs pc lv (.int x :: st) h := by
  subst hp; exact py_row (fun hx hb _ k => lv_i2b hx hb hd rfl k) k
theorem py_i2s {x : Int32} (hp : pc + 1 = pc') (hd : decode M.2.1 pc = .ok (.i2s, 1))  (k : py_V l M Ex Q d bc bs pc' lv (.int x.toInt16.toInt32 :: st) h) : py_V l M Ex Q d bc bs pc lv (.int x :: st) h := by
  subst hp; exact py_row (fun hx hb _ k => lv_i2s hx hb hd rfl k) k
theorem py_lcmp {x y : Int64} (hp : pc + 1 = pc') (hd : decode M.2.1 pc = .ok (.lcmp, 1))  (k : py_V l M Ex Q d bc bs pc' lv (.int (lg_cmp x y) :: st) h) : py_V l M Ex Q d bc bs pc lv (.long y :: .long x :: st) h := by
  subst hp; exact py_row (fun hx hb _ k => W.lcmp hx hb hd  k) k
theorem py_dup {va : Value} (hp : pc + 1 = pc') (hd : decode M.2.1 pc = .ok (.dup, 1)) (hva : va.category = 1) (k : py_V l M Ex Q d bc bs pc' lv (va :: va :: st) h) : py_V l M Ex Q d bc bs pc lv (va :: st) h := by
  subst hp; exact py_row (fun hx hb _ k => lv_dup hx hb hd hva k) k
theorem py_pop {va : Value} (hp : pc + 1 = pc') (hd : decode M.2.1 pc = .ok (.pop, 1)) (hva : va.category = 1) (k : py_V l M Ex Q d bc bs pc' lv (st) h) : py_V l M Ex Q d bc bs pc lv (va :: st) h := by
  subst hp; exact py_row (fun hx hb _ k => lv_pop hx hb hd hva k) k
theorem py_dup2 {va vb : Value} (hp : pc + 1 = pc') (hd : decode M.2.1 pc = .ok (.dup2, 1)) (hva : va.category = 1) (hvb : vb.category = 1) (k : py_V l M Ex Q d bc bs pc' lv (va :: vb :: va :: vb :: st) h) : py_V l M Ex Q d bc bs pc lv (va :: vb :: st) h := by
  subst hp; exact py_row (fun hx hb _ k => lv_dup2_11 hx hb hd hva hvb k) k
theorem py_dup_x1 {va vb : Value} (hp : pc + 1 = pc') (hd : decode M.2.1 pc = .ok (.dup_x1, 1)) (hva : va.category = 1) (hvb : vb.category = 1) (k : py_V l M Ex Q d bc bs pc' lv (va :: vb :: va :: st) h) : py_V l M Ex Q d bc bs pc lv (va :: vb :: st) h := by
  subst hp; exact py_row (fun hx hb _ k => lv_dup_x1 hx hb hd hva hvb k) k
theorem py_iload_n {n : Fin 4} {x : Int32} (k0 : Nat) (hp : pc + 1 = pc') (hd : decode M.2.1 pc = .ok (.iload_n n, 1)) (hk : lv[k0]? = some ((n : Nat), .int x)) (k : py_V l M Ex Q d bc bs pc' lv (.int x :: st) h) : py_V l M Ex Q d bc bs pc lv st h := by
  subst hp; exact py_row (fun hx hb hl k => lv_iload_n hx hb hd rfl (lv_at hl k0 hk) k) k
theorem py_iload {n : Nat} {x : Int32} (k0 : Nat) (hp : pc + 2 = pc') (hd : decode M.2.1 pc = .ok (.iload n, 2)) (hk : lv[k0]? = some (n, .int x)) (k : py_V l M Ex Q d bc bs pc' lv (.int x :: st) h) : py_V l M Ex Q d bc bs pc lv st h := by
  subst hp; exact py_row (fun hx hb hl k => lv_iload hx hb hd (lv_at hl k0 hk) k) k
theorem py_istore_n {n : Fin 4} {x : Int32} {lv' : List (Nat × Value)} (hp : pc + 1 = pc') (hd : decode M.2.1 pc = .ok (.istore_n n, 1)) (hn : (n : Nat) < M.2.2.1) (hl : ((n : Nat), Value.int x) :: lv.filter (fun q => !(q.1 == (n : Nat)) && !(q.1 + 1 == (n : Nat) && q.2.category == 2)) = lv') (k : py_V l M Ex Q d bc bs pc' lv' st h) : py_V l M Ex Q d bc bs pc lv (.int x :: st) h := by
  subst hp; exact py_rows (fun hx hb hv k => lv_istore_n hx hb hd rfl hv hn hl k) k
theorem py_istore {n : Nat} {x : Int32} {lv' : List (Nat × Value)} (hp : pc + 2 = pc') (hd : decode M.2.1 pc = .ok (.istore n, 2)) (hn : n < M.2.2.1) (hl : (n, Value.int x) :: lv.filter (fun q => !(q.1 == n) && !(q.1 + 1 == n && q.2.category == 2)) = lv') (k : py_V l M Ex Q d bc bs pc' lv' st h) : py_V l M Ex Q d bc bs pc lv (.int x :: st) h := by
  subst hp; exact py_rows (fun hx hb hv k => lv_istore hx hb hd hv hn hl k) k
theorem py_lload_n {n : Fin 4} {x : Int64} (k0 : Nat) (hp : pc + 1 = pc') (hd : decode M.2.1 pc = .ok (.lload_n n, 1)) (hk : lv[k0]? = some ((n : Nat), .long x)) (k : py_V l M Ex Q d bc bs pc' lv (.long x :: st) h) : py_V l M Ex Q d bc bs pc lv st h := by
  subst hp; exact py_row (fun hx hb hl k => lv_lload_n hx hb hd rfl (lv_at hl k0 hk) k) k
theorem py_lload {n : Nat} {x : Int64} (k0 : Nat) (hp : pc + 2 = pc') (hd : decode M.2.1 pc = .ok (.lload n, 2)) (hk : lv[k0]? = some (n, .long x)) (k : py_V l M Ex Q d bc bs pc' lv (.long x :: st) h) : py_V l M Ex Q d bc bs pc lv st h := by
  subst hp; exact py_row (fun hx hb hl k => lv_lload hx hb hd (lv_at hl k0 hk) k) k
theorem py_lstore_n {n : Fin 4} {x : Int64} {lv' : List (Nat × Value)} (hp : pc + 1 = pc') (hd : decode M.2.1 pc = .ok (.lstore_n n, 1)) (hn : (n : Nat) + 1 < M.2.2.1) (hl : ((n : Nat), Value.long x) :: lv.filter (fun q => !(q.1 == (n : Nat)) && (!(q.1 == (n : Nat) + 1) && !(q.1 + 1 == (n : Nat) && q.2.category == 2))) = lv') (k : py_V l M Ex Q d bc bs pc' lv' st h) : py_V l M Ex Q d bc bs pc lv (.long x :: st) h := by
  subst hp; exact py_rows (fun hx hb hv k => lv_lstore_n hx hb hd rfl hv hn hl k) k
theorem py_lstore {n : Nat} {x : Int64} {lv' : List (Nat × Value)} (hp : pc + 2 = pc') (hd : decode M.2.1 pc = .ok (.lstore n, 2)) (hn : n + 1 < M.2.2.1) (hl : (n, Value.long x) :: lv.filter (fun q => !(q.1 == n) && (!(q.1 == n + 1) && !(q.1 + 1 == n && q.2.category == 2))) = lv') (k : py_V l M Ex Q d bc bs pc' lv' st h) : py_V l M Ex Q d bc bs pc lv (.long x :: st) h := by
  subst hp; exact py_rows (fun hx hb hv k => lv_lstore hx hb hd hv hn hl k) k
theorem py_aload_n {n : Fin 4} {x : Nat} (k0 : Nat) (hp : pc + 1 = pc') (hd : decode M.2.1 pc = .ok (.aload_n n, 1)) (hk : lv[k0]? = some ((n : Nat), .ref x)) (k : py_V l M Ex Q d bc bs pc' lv (.ref x :: st) h) : py_V l M Ex Q d bc bs pc lv st h := by
  subst hp; exact py_row (fun hx hb hl k => lv_aload_n hx hb hd rfl (lv_at hl k0 hk) k) k
theorem py_aload {n : Nat} {x : Nat} (k0 : Nat) (hp : pc + 2 = pc') (hd : decode M.2.1 pc = .ok (.aload n, 2)) (hk : lv[k0]? = some (n, .ref x)) (k : py_V l M Ex Q d bc bs pc' lv (.ref x :: st) h) : py_V l M Ex Q d bc bs pc lv st h := by
  subst hp; exact py_row (fun hx hb hl k => lv_aload hx hb hd (lv_at hl k0 hk) k) k
theorem py_astore_n {n : Fin 4} {x : Nat} {lv' : List (Nat × Value)} (hp : pc + 1 = pc') (hd : decode M.2.1 pc = .ok (.astore_n n, 1)) (hn : (n : Nat) < M.2.2.1) (hl : ((n : Nat), Value.ref x) :: lv.filter (fun q => !(q.1 == (n : Nat)) && !(q.1 + 1 == (n : Nat) && q.2.category == 2)) = lv') (k : py_V l M Ex Q d bc bs pc' lv' st h) : py_V l M Ex Q d bc bs pc lv (.ref x :: st) h := by
  subst hp; exact py_rows (fun hx hb hv k => lv_astore_n hx hb hd rfl hv hn hl k) k
theorem py_astore {n : Nat} {x : Nat} {lv' : List (Nat × Value)} (hp : pc + 2 = pc') (hd : decode M.2.1 pc = .ok (.astore n, 2)) (hn : n < M.2.2.1) (hl : (n, Value.ref x) :: lv.filter (fun q => !(q.1 == n) && !(q.1 + 1 == n && q.2.category == 2)) = lv') (k : py_V l M Ex Q d bc bs pc' lv' st h) : py_V l M Ex Q d bc bs pc lv (.ref x :: st) h := by
  subst hp; exact py_rows (fun hx hb hv k => lv_astore hx hb hd hv hn hl k) k
theorem py_iinc {i : Nat} {n : Int} {x v : Int32} {lv' : List (Nat × Value)} (k0 : Nat) (hp : pc + 3 = pc') (hd : decode M.2.1 pc = .ok (.iinc i n, 3)) (hk : lv[k0]? = some (i, .int x)) (hv : x + Int32.ofInt n = v) (hn : i < M.2.2.1) (hl : (i, Value.int v) :: lv.filter (fun q => !(q.1 == i) && !(q.1 + 1 == i && q.2.category == 2)) = lv') (k : py_V l M Ex Q d bc bs pc' lv' st h) : py_V l M Ex Q d bc bs pc lv st h := by
  subst hp; exact py_rows (fun hx hb hl0 k => lv_iinc hx hb hd hl0 hk hv hn hl k) k
theorem py_if_eq {x : Int32} {off : Int} {tgt : Nat} (hp : pc + 3 = pc') (hd : decode M.2.1 pc = .ok (.ifCond .eq off, 3)) (ht : (pc : Int) + off = (tgt : Int)) (k1 : x = 0 → py_V l M Ex Q d bc bs tgt lv st h) (k2 : ¬ x = 0 → py_V l M Ex Q d bc bs pc' lv st h) : py_V l M Ex Q d bc bs pc lv (.int x :: st) h := by
  subst hp; exact py_row2 (fun hx hb a1 a2 => lv_if_eq hx hb hd ht a1 a2) k1 k2
theorem py_icmp_eq {x y : Int32} {off : Int} {tgt : Nat} (hp : pc + 3 = pc') (hd : decode M.2.1 pc = .ok (.if_icmp .eq off, 3)) (ht : (pc : Int) + off = (tgt : Int)) (k1 : x = y → py_V l M Ex Q d bc bs tgt lv st h) (k2 : ¬ x = y → py_V l M Ex Q d bc bs pc' lv st h) : py_V l M Ex Q d bc bs pc lv (.int y :: .int x :: st) h := by
  subst hp; exact py_row2 (fun hx hb a1 a2 => lv_icmp_eq hx hb hd ht a1 a2) k1 k2
theorem py_if_ne {x : Int32} {off : Int} {tgt : Nat} (hp : pc + 3 = pc') (hd : decode M.2.1 pc = .ok (.ifCond .ne off, 3)) (ht : (pc : Int) + off = (tgt : Int)) (k1 : ¬ x = 0 → py_V l M Ex Q d bc bs tgt lv st h) (k2 : x = 0 → py_V l M Ex Q d bc bs pc' lv st h) : py_V l M Ex Q d bc bs pc lv (.int x :: st) h := by
  subst hp; exact py_row2 (fun hx hb a1 a2 => lv_if_ne hx hb hd ht a1 a2) k1 k2
theorem py_icmp_ne {x y : Int32} {off : Int} {tgt : Nat} (hp : pc + 3 = pc') (hd : decode M.2.1 pc = .ok (.if_icmp .ne off, 3)) (ht : (pc : Int) + off = (tgt : Int)) (k1 : ¬ x = y → py_V l M Ex Q d bc bs tgt lv st h) (k2 : x = y → py_V l M Ex Q d bc bs pc' lv st h) : py_V l M Ex Q d bc bs pc lv (.int y :: .int x :: st) h := by
  subst hp; exact py_row2 (fun hx hb a1 a2 => lv_icmp_ne hx hb hd ht a1 a2) k1 k2
theorem py_if_lt {x : Int32} {off : Int} {tgt : Nat} (hp : pc + 3 = pc') (hd : decode M.2.1 pc = .ok (.ifCond .lt off, 3)) (ht : (pc : Int) + off = (tgt : Int)) (k1 : x < 0 → py_V l M Ex Q d bc bs tgt lv st h) (k2 : ¬ x < 0 → py_V l M Ex Q d bc bs pc' lv st h) : py_V l M Ex Q d bc bs pc lv (.int x :: st) h := by
  subst hp; exact py_row2 (fun hx hb a1 a2 => lv_if_lt hx hb hd ht a1 a2) k1 k2
theorem py_icmp_lt {x y : Int32} {off : Int} {tgt : Nat} (hp : pc + 3 = pc') (hd : decode M.2.1 pc = .ok (.if_icmp .lt off, 3)) (ht : (pc : Int) + off = (tgt : Int)) (k1 : x < y → py_V l M Ex Q d bc bs tgt lv st h) (k2 : ¬ x < y → py_V l M Ex Q d bc bs pc' lv st h) : py_V l M Ex Q d bc bs pc lv (.int y :: .int x :: st) h := by
  subst hp; exact py_row2 (fun hx hb a1 a2 => lv_icmp_lt hx hb hd ht a1 a2) k1 k2
theorem py_if_ge {x : Int32} {off : Int} {tgt : Nat} (hp : pc + 3 = pc') (hd : decode M.2.1 pc = .ok (.ifCond .ge off, 3)) (ht : (pc : Int) + off = (tgt : Int)) (k1 : 0 ≤ x → py_V l M Ex Q d bc bs tgt lv st h) (k2 : ¬ 0 ≤ x → py_V l M Ex Q d bc bs pc' lv st h) : py_V l M Ex Q d bc bs pc lv (.int x :: st) h := by
  subst hp; exact py_row2 (fun hx hb a1 a2 => lv_if_ge hx hb hd ht a1 a2) k1 k2
theorem py_icmp_ge {x y : Int32} {off : Int} {tgt : Nat} (hp : pc + 3 = pc') (hd : decode M.2.1 pc = .ok (.if_icmp .ge off, 3)) (ht : (pc : Int) + off = (tgt : Int)) (k1 : y ≤ x → py_V l M Ex Q d bc bs tgt lv st h) (k2 : ¬ y ≤ x → py_V l M Ex Q d bc bs pc' lv st h) : py_V l M Ex Q d bc bs pc lv (.int y :: .int x :: st) h := by
  subst hp; exact py_row2 (fun hx hb a1 a2 => lv_icmp_ge hx hb hd ht a1 a2) k1 k2
theorem py_if_gt {x : Int32} {off : Int} {tgt : Nat} (hp : pc + 3 = pc') (hd : decode M.2.1 pc = .ok (.ifCond .gt off, 3)) (ht : (pc : Int) + off = (tgt : Int)) (k1 : 0 < x → py_V l M Ex Q d bc bs tgt lv st h) (k2 : ¬ 0 < x → py_V l M Ex Q d bc bs pc' lv st h) : py_V l M Ex Q d bc bs pc lv (.int x :: st) h := by
  subst hp; exact py_row2 (fun hx hb a1 a2 => lv_if_gt hx hb hd ht a1 a2) k1 k2
theorem py_icmp_gt {x y : Int32} {off : Int} {tgt : Nat} (hp : pc + 3 = pc') (hd : decode M.2.1 pc = .ok (.if_icmp .gt off, 3)) (ht : (pc : Int) + off = (tgt : Int)) (k1 : y < x → py_V l M Ex Q d bc bs tgt lv st h) (k2 : ¬ y < x → py_V l M Ex Q d bc bs pc' lv st h) : py_V l M Ex Q d bc bs pc lv (.int y :: .int x :: st) h := by
  subst hp; exact py_row2 (fun hx hb a1 a2 => lv_icmp_gt hx hb hd ht a1 a2) k1 k2
theorem py_if_le {x : Int32} {off : Int} {tgt : Nat} (hp : pc + 3 = pc') (hd : decode M.2.1 pc = .ok (.ifCond .le off, 3)) (ht : (pc : Int) + off = (tgt : Int)) (k1 : x ≤ 0 → py_V l M Ex Q d bc bs tgt lv st h) (k2 : ¬ x ≤ 0 → py_V l M Ex Q d bc bs pc' lv st h) : py_V l M Ex Q d bc bs pc lv (.int x :: st) h := by
  subst hp; exact py_row2 (fun hx hb a1 a2 => lv_if_le hx hb hd ht a1 a2) k1 k2
theorem py_icmp_le {x y : Int32} {off : Int} {tgt : Nat} (hp : pc + 3 = pc') (hd : decode M.2.1 pc = .ok (.if_icmp .le off, 3)) (ht : (pc : Int) + off = (tgt : Int)) (k1 : x ≤ y → py_V l M Ex Q d bc bs tgt lv st h) (k2 : ¬ x ≤ y → py_V l M Ex Q d bc bs pc' lv st h) : py_V l M Ex Q d bc bs pc lv (.int y :: .int x :: st) h := by
  subst hp; exact py_row2 (fun hx hb a1 a2 => lv_icmp_le hx hb hd ht a1 a2) k1 k2
theorem py_goto {off : Int} (hd : decode M.2.1 pc = .ok (.goto off, 3)) (ht : (pc : Int) + off = (pc' : Int)) (k : py_V l M Ex Q d bc bs pc' lv st h) : py_V l M Ex Q d bc bs pc lv st h := py_row (fun hx hb _ k => lv_goto hx hb hd ht k) k
theorem py_ldcw {idx : Nat} {v : Int32} (hw : Cond.constant M.1.cls idx v ∈ pz_tb) (hp : pc + 3 = pc') (hd : decode M.2.1 pc = .ok (.ldc_w idx, 3)) (k : py_V l M Ex Q d bc bs pc' lv (.int v :: st) h) : py_V l M Ex Q d bc bs pc lv st h := by
  subst hp
  intro p e R s m args below meth c G B H locs cells slots ls Z C E hR hS hl hc hs hZ
  exact lv_ldcw C.1 C.2.1 C.2.2.2.2.1 (C.2.2.2.2.2.1 _ hw) hd (k p e R s m args below meth c G B H locs cells slots ls Z C E hR hS hl hc hs hZ)
theorem py_ldc {idx : Nat} {v : Int32} (hw : Cond.constant M.1.cls idx v ∈ pz_tb) (hp : pc + 2 = pc') (hd : decode M.2.1 pc = .ok (.ldc idx, 2)) (k : py_V l M Ex Q d bc bs pc' lv (.int v :: st) h) : py_V l M Ex Q d bc bs pc lv st h := by
  subst hp
  intro p e R s m args below meth c G B H locs cells slots ls Z C E hR hS hl hc hs hZ
  exact lv_ldc C.1 C.2.1 C.2.2.2.2.1 (C.2.2.2.2.2.1 _ hw) hd (k p e R s m args below meth c G B H locs cells slots ls Z C E hR hS hl hc hs hZ)
theorem py_ldc2 {idx : Nat} {v : Int64} (hw : Cond.constantLong M.1.cls idx v ∈ pz_tb) (hp : pc + 3 = pc') (hd : decode M.2.1 pc = .ok (.ldc2_w idx, 3)) (k : py_V l M Ex Q d bc bs pc' lv (.long v :: st) h) : py_V l M Ex Q d bc bs pc lv st h := by
  subst hp
  intro p e R s m args below meth c G B H locs cells slots ls Z C E hR hS hl hc hs hZ
  exact lv_ldc2 C.1 C.2.1 C.2.2.2.2.1 (C.2.2.2.2.2.1 _ hw) hd (k p e R s m args below meth c G B H locs cells slots ls Z C E hR hS hl hc hs hZ)
theorem py_table {dflt lo hi : Int} {offs : Array Int} {len : Nat} {x : Int32} (hd : decode M.2.1 pc = .ok (.tableswitch dflt lo hi offs, len))
    (k1 : ∀ (off : Int), ¬ x.toInt < lo → ¬ hi < x.toInt → offs[(x.toInt - lo).toNat]? = some off → ∃ tgt : Nat, (pc : Int) + off = (tgt : Int) ∧ py_V l M Ex Q d bc bs tgt lv st h) (hall : ¬ x.toInt < lo → ¬ hi < x.toInt → ∃ off : Int, offs[(x.toInt - lo).toNat]? = some off)
    {tgt : Nat} (ht : (pc : Int) + dflt = (tgt : Int)) (k2 : x.toInt < lo ∨ hi < x.toInt → py_V l M Ex Q d bc bs tgt lv st h) : py_V l M Ex Q d bc bs pc lv (.int x :: st) h := by
  intro p e R s m args below meth c G B H locs cells slots ls Z C E hR hS hl hc hs hZ
  by_cases h1 : x.toInt < lo
  · exact lv_tableOut C.1 C.2.1 hd (Or.inl h1) ht (k2 (Or.inl h1) p e R s m args below meth c G B H locs cells slots ls Z C E hR hS hl hc hs hZ)
  · by_cases h2 : hi < x.toInt
    · exact lv_tableOut C.1 C.2.1 hd (Or.inr h2) ht (k2 (Or.inr h2) p e R s m args below meth c G B H locs cells slots ls Z C E hR hS hl hc hs hZ)
    · obtain ⟨off, ho⟩ := hall h1 h2
      obtain ⟨tg, e1, kk⟩ := k1 off h1 h2 ho
      exact lv_tableIn C.1 C.2.1 hd h1 h2 ho e1 (kk p e R s m args below meth c G B H locs cells slots ls Z C E hR hS hl hc hs hZ)
theorem py_lookup {dflt : Int} {ps : Array (Int × Int)} {len : Nat} {x : Int32} {off : Int} {tgt : Nat} (hd : decode M.2.1 pc = .ok (.lookupswitch dflt ps, len)) (hp : (ps.toList.zip (ps.toList.drop 1)).all (fun (a, next) => a.1 < next.1) = true) (ho : Op.lookupswitch.offset ps.toList dflt x.toInt = off) (ht : (pc : Int) + off = (tgt : Int))
    (k : py_V l M Ex Q d bc bs tgt lv st h) : py_V l M Ex Q d bc bs pc lv (.int x :: st) h := py_row (fun hx hb _ k => lv_lookup hx hb hd hp ho ht k) k
theorem py_ifnonnull {o : Option Nat} {off : Int} {tgt : Nat} (hp : pc + 3 = pc') (hd : decode M.2.1 pc = .ok (.ifnonnull off, 3)) (ht : (pc : Int) + off = (tgt : Int)) (k1 : ∀ x : Nat, o = some x → py_V l M Ex Q d bc bs tgt lv st h) (k2 : o = none → py_V l M Ex Q d bc bs pc' lv st h) : py_V l M Ex Q d bc bs pc lv (va_rf o :: st) h := by
  subst hp
  cases o with
  | none => exact py_row (fun hx hb _ k => by
      intro T hT X
      obtain ⟨t, a, b⟩ := k T hT X
      refine ⟨t, ?_, b⟩
      jvm_step X.here [X.here.top, hx, hb, hd, va_rf]
      exact a) (k2 rfl)
  | some x => exact py_row (fun hx hb _ k => lv_ifnonnull hx hb hd ht k) (k1 x rfl)
theorem py_iret {v : Int32} (hd : decode M.2.1 pc = .ok (.ireturn, 1)) (hr : M.2.2.2 = some .int) (hq : Q (some (.int v)) h) : py_V l M Ex Q d bc bs pc lv [.int v] h := by
  intro p e R s m args below meth c G B H locs cells slots ls Z C E hR hS hl hc hs hZ
  exact hZ (some (.int v)) h H locs cells slots pc ls .ireturn hq hR hS (by omega) (by omega) hd (Or.inr (Or.inl ⟨v, hr, rfl, rfl⟩))
theorem py_zret {v : Int32} (hd : decode M.2.1 pc = .ok (.ireturn, 1)) (hr : M.2.2.2 = some .boolean) (hq : (v = 0 ∨ v = 1) ∧ Q (some (.int v)) h) : py_V l M Ex Q d bc bs pc lv [.int v] h := by
  intro p e R s m args below meth c G B H locs cells slots ls Z C E hR hS hl hc hs hZ
  exact hZ (some (.int v)) h H locs cells slots pc ls .ireturn hq.2 hR hS (by omega) (by omega) hd (Or.inr (Or.inr (Or.inl ⟨v, hr, rfl, rfl, hq.1⟩)))
theorem py_lret {v : Int64} (hd : decode M.2.1 pc = .ok (.lreturn, 1)) (hr : M.2.2.2 = some .long) (hq : Q (some (.long v)) h) : py_V l M Ex Q d bc bs pc lv [.long v] h := by
  intro p e R s m args below meth c G B H locs cells slots ls Z C E hR hS hl hc hs hZ
  exact hZ (some (.long v)) h H locs cells slots pc ls .lreturn hq hR hS (by omega) (by omega) hd (Or.inr (Or.inr (Or.inr (Or.inl ⟨v, hr, rfl, rfl⟩))))
theorem py_aret {v : Nat} {nc : String} (hd : decode M.2.1 pc = .ok (.areturn, 1)) (hr : M.2.2.2 = some (.object nc)) (hq : Q (some (.ref v)) h) : py_V l M Ex Q d bc bs pc lv [.ref v] h := by
  intro p e R s m args below meth c G B H locs cells slots ls Z C E hR hS hl hc hs hZ
  exact hZ (some (.ref v)) h H locs cells slots pc ls .areturn hq hR hS (by omega) (by omega) hd (Or.inr (Or.inr (Or.inr (Or.inr ⟨v, nc, hr, rfl, rfl⟩))))
theorem py_vret (hd : decode M.2.1 pc = .ok (.return_, 1)) (hr : M.2.2.2 = none) (hq : Q none h) : py_V l M Ex Q d bc bs pc lv [] h := by
  intro p e R s m args below meth c G B H locs cells slots ls Z C E hR hS hl hc hs hZ
  exact hZ none h H locs cells slots pc ls .return_ hq hR hS (by omega) (by omega) hd (Or.inl ⟨hr, rfl, rfl⟩)
theorem py_get {idx ci k0 a : Nat} {fs : List Value} {v : Value} (hf : pz_fl M.1.cls idx ci k0) (hp : pc + 3 = pc') (hd : decode M.2.1 pc = .ok (.getfield idx, 3)) (ha : h.2 a = some (aO ci fs)) (hv : fs[k0]? = some v) (k : py_V l M Ex Q d bc bs pc' lv (v :: st) h) : py_V l M Ex Q d bc bs pc lv (.ref a :: st) h := by
  subst hp
  obtain ⟨C, T, N, hc, hk, hC, hin, hlk⟩ := hf
  intro p e R s m args below meth c G B H locs cells slots ls Z CC E hR hS hl hcc hss hZ
  have kk := k p e R s m args below meth c G B H locs cells slots ls Z CC E hR hS hl hcc hss hZ
  obtain ⟨q1, q2, q3, q4, q5, q6, q7, q8, q9, q10, q11, q12⟩ := CC
  have hP : va_P G.1 pz_cl [(a, .inr (ci, fs))] H := fun j q hj => by
    cases j with
    | zero => cases hj; exact (hR.2.2 a _ ha).2
    | succ j => simp at hj
  subst hC
  rcases hlk with hlk | ⟨host, hlk⟩
  · exact va_get q1 q2 q6 hin q5 q10 hP 0 rfl hc k0 hk (q6 _ hlk) (fun _ h9 => h9) hv hd kk
  · exact va_getN q1 q2 q6 hin q5 q10 hP 0 rfl hc k0 hk (va_Nw.use rfl (q7.1 _ hlk rfl)) (fun _ h9 => h9) hv hd kk
theorem py_putf {idx ci k0 a : Nat} {fs : List Value} {v : Value} {ty : FieldType} (hf : pz_fp M.1 idx ci k0 ty) (hnw : narrow ty v = v) (hft : fits ty v = true) (hp : pc + 3 = pc') (hd : decode M.2.1 pc = .ok (.putfield idx, 3)) (ha : h.2 a = some (aO ci fs)) (hlen : k0 < fs.length) (k : py_V l M Ex Q d bc bs pc' lv st (pz_put h a (aO ci (fs.set k0 v)))) : py_V l M Ex Q d bc bs pc lv (v :: .ref a :: st) h := by
  subst hp
  obtain ⟨C, T, N, ty0, hc, hk, hC, hin, hty, hnm, hty0, hlk⟩ := hf
  intro p e R s m args below meth c G B H locs cells slots ls Z CC E hR hS hl hcc hss hZ
  obtain ⟨q1, q2, q3, q4, q5, q6, q7, q8, q9, q10, q11, q12⟩ := id CC
  have hap := va_apart (own := M.1.cls) q6 hin ty0 hty hnm q10 hc
  obtain ⟨hBa, r, h1, cell, g1, g2, g3, g4⟩ := hR.2.2 a _ ha
  have hr : r = (C, T, N) := Option.some.inj (h1.symm.trans hc)
  subst hr
  obtain ⟨hSl, hfc, kC, hkC, hkind⟩ := q10.1 ci _ hc
  obtain ⟨cf, kf, fi, f, hi, hsl⟩ := hSl k0 hk
  have hdd : parseFieldDescriptor (T k0).2.2.1 = some ty := by rw [hty k0 hk, hty0]
  have hlay := q6 _ (hin _ (u_in_lay hk))
  have hst := (u_facts hfc hkC (u_lays q6 hin hk) hi).1
  have fin : ∀ H' : Heap, H'[a]? = some (cell.setSlot f.slot v) → H'.size = H.size → (∀ q, q ≠ a → H'[q]? = H[q]?) → W p l e R s m args below meth c H' (locs ++ [⟨a, f.slot⟩]) cells slots Z (F0 m (pc + 3) ls st) := by
    intro H' e1 e2 e3
    rw [hsl] at e1 ⊢
    have hat : va_at G.1 pz_cl (a, .inr (ci, fs.set k0 v)) H' := ⟨_, hc, t_OB.to (V := updV (vp_V fs) k0 v) ⟨_, e1, g2, g3, t_set g4 hap hk v⟩ (fun j _ => vp_updV_set hlen v j)⟩
    exact k p e R s m args below meth c G B H' _ cells slots ls Z CC E (hR.put hBa hat e2 e3) (hS.put e2 e3 hBa) hl hcc hss hZ
  subst hC
  rcases hlk with ⟨hfin, hlk⟩ | ⟨hfin, hown, hinit, hlk⟩
  · unfold u_lay at hlay
    rw [if_neg (by rw [hfin]; decide)] at hlay
    have h6 := u_store hfc hkC hkind hlay hi hdd hnw hft
    rcases hlk with hlk | ⟨host, hlk⟩
    · exact W.putK q1 q2 (f := f) ⟨q5, q6 _ hlk, ⟨_, _, _, hi⟩, hst⟩ (by rw [g2]; exact h6) g1 g3 (by rw [hsl]; exact k2_hasslot (g4 k0 hk)) rfl rfl hd fin
    · exact va_WputK q1 q2 (f := f) q5 (va_Nw.use rfl (q7.1 _ hlk rfl)) hi hst (by rw [g2]; exact h6) g1 g3 (by rw [hsl]; exact k2_hasslot (g4 k0 hk)) rfl rfl hd fin
  · unfold u_lay at hlay
    rw [if_pos hfin] at hlay
    have hcf : m.cls = cf := by
      obtain ⟨_, _, c', _, _, _, -, -, hf', -, -, -, hown2, -⟩ := Cond.laysFinal_spec hlay
      have e1 : c' = cf := by have := hi.symm.trans hf'; simp at this; exact this.1.symm
      rw [hown] at hown2
      rw [← e1]; exact Option.some.inj (q5.symm.trans hown2)
    have h6 := u_fits hfc hkC hkind (Or.inr hlay) hi hdd hnw hft
    exact W.putFinK q1 q2 q5 (q6 _ hlk) hi hst hcf (q9.trans hinit) (by rw [g2]; exact h6) g1 g3 (by rw [hsl]; exact k2_hasslot (g4 k0 hk)) rfl rfl hd fin
theorem py_iald {a n : Nat} {f : Nat → Int32} {i : Int32} (hp : pc + 1 = pc') (hd : decode M.2.1 pc = .ok (.iaload, 1)) (ha : h.2 a = some (aI n f)) (hin : vp_in i n) (k : py_V l M Ex Q d bc bs pc' lv (.int (f i.toNatClampNeg) :: st) h) : py_V l M Ex Q d bc bs pc lv (.int i :: .ref a :: st) h := by
  subst hp
  intro p e R s m args below meth c G B H locs cells slots ls Z C E hR hS hl hc hs hZ
  exact va_iald C.1 C.2.1 C.2.2.2.2.2.2.2.2.2.1 (pz_one hR ha) 0 0 rfl rfl hin hd (k p e R s m args below meth c G B H locs cells slots ls Z C E hR hS hl hc hs hZ)
theorem py_lald {a n : Nat} {f : Nat → Int64} {i : Int32} (hp : pc + 1 = pc') (hd : decode M.2.1 pc = .ok (.laload, 1)) (ha : h.2 a = some (aJ n f)) (hin : vp_in i n) (k : py_V l M Ex Q d bc bs pc' lv (.long (f i.toNatClampNeg) :: st) h) : py_V l M Ex Q d bc bs pc lv (.int i :: .ref a :: st) h := by
  subst hp
  intro p e R s m args below meth c G B H locs cells slots ls Z C E hR hS hl hc hs hZ
  exact va_lald C.1 C.2.1 C.2.2.2.2.2.2.2.2.2.1 (pz_one hR ha) 0 1 rfl rfl hin hd (k p e R s m args below meth c G B H locs cells slots ls Z C E hR hS hl hc hs hZ)
theorem py_bald {a n : Nat} {f : Nat → Int32} {i : Int32} (hp : pc + 1 = pc') (hd : decode M.2.1 pc = .ok (.baload, 1)) (ha : h.2 a = some (aB n f)) (hin : vp_in i n) (k : py_V l M Ex Q d bc bs pc' lv (.int (f i.toNatClampNeg) :: st) h) : py_V l M Ex Q d bc bs pc lv (.int i :: .ref a :: st) h := by
  subst hp
  intro p e R s m args below meth c G B H locs cells slots ls Z C E hR hS hl hc hs hZ
  exact va_bald C.1 C.2.1 C.2.2.2.2.2.2.2.2.2.1 (pz_one hR ha) 0 2 rfl rfl hin hd (k p e R s m args below meth c G B H locs cells slots ls Z C E hR hS hl hc hs hZ)
theorem py_zald {a n : Nat} {f : Nat → Int32} {i : Int32} (hp : pc + 1 = pc') (hd : decode M.2.1 pc = .ok (.baload, 1)) (ha : h.2 a = some (aZ n f)) (hin : vp_in i n) (k : py_V l M Ex Q d bc bs pc' lv (.int (f i.toNatClampNeg) :: st) h) : py_V l M Ex Q d bc bs pc lv (.int i :: .ref a :: st) h := by
  subst hp
  intro p e R s m args below meth c G B H locs cells slots ls Z C E hR hS hl hc hs hZ
  exact va_zald C.1 C.2.1 C.2.2.2.2.2.2.2.2.2.1 (pz_one hR ha) 0 4 rfl rfl hin hd (k p e R s m args below meth c G B H locs cells slots ls Z C E hR hS hl hc hs hZ)
theorem py_aald {a n q : Nat} {f : Nat → Option Nat} {i : Int32} (hp : pc + 1 = pc') (hd : decode M.2.1 pc = .ok (.aaload, 1)) (ha : h.2 a = some (aW n f)) (hin : vp_in i n) (hq : f i.toNatClampNeg = some q) (k : py_V l M Ex Q d bc bs pc' lv (.ref q :: st) h) : py_V l M Ex Q d bc bs pc lv (.int i :: .ref a :: st) h := by
  subst hp
  intro p e R s m args below meth c G B H locs cells slots ls Z C E hR hS hl hc hs hZ
  exact va_aldq C.1 C.2.1 C.2.2.2.2.2.2.2.2.2.1 (pz_one hR ha) 0 3 rfl rfl hin hd (by rw [hq]; exact k p e R s m args below meth c G B H locs cells slots ls Z C E hR hS hl hc hs hZ)
theorem py_alenI {a n : Nat} {f : Nat → Int32} (hp : pc + 1 = pc') (hd : decode M.2.1 pc = .ok (.arraylength, 1)) (ha : h.2 a = some (aI n f)) (k : py_V l M Ex Q d bc bs pc' lv (.int (Int32.ofNat n) :: st) h) : py_V l M Ex Q d bc bs pc lv (.ref a :: st) h := by
  subst hp
  intro p e R s m args below meth c G B H locs cells slots ls Z C E hR hS hl hc hs hZ
  exact va_alen C.1 C.2.1 C.2.2.2.2.2.2.2.2.2.1 (pz_one hR ha) 0 0 rfl rfl rfl hd (k p e R s m args below meth c G B H locs cells slots ls Z C E hR hS hl hc hs hZ)
theorem py_alenJ {a n : Nat} {f : Nat → Int64} (hp : pc + 1 = pc') (hd : decode M.2.1 pc = .ok (.arraylength, 1)) (ha : h.2 a = some (aJ n f)) (k : py_V l M Ex Q d bc bs pc' lv (.int (Int32.ofNat n) :: st) h) : py_V l M Ex Q d bc bs pc lv (.ref a :: st) h := by
  subst hp
  intro p e R s m args below meth c G B H locs cells slots ls Z C E hR hS hl hc hs hZ
  exact va_alen C.1 C.2.1 C.2.2.2.2.2.2.2.2.2.1 (pz_one hR ha) 0 1 rfl rfl rfl hd (k p e R s m args below meth c G B H locs cells slots ls Z C E hR hS hl hc hs hZ)
theorem py_iast {a n : Nat} {f : Nat → Int32} {i x : Int32} (hp : pc + 1 = pc') (hd : decode M.2.1 pc = .ok (.iastore, 1)) (ha : h.2 a = some (aI n f)) (hin : vp_in i n) (k : py_V l M Ex Q d bc bs pc' lv st (pz_put h a (aI n (upd f i.toNatClampNeg x)))) : py_V l M Ex Q d bc bs pc lv (.int x :: .int i :: .ref a :: st) h := by
  subst hp
  intro p e R s m args below meth c G B H locs cells slots ls Z C E hR hS hl hc hs hZ
  obtain ⟨hBa, hat⟩ := hR.2.2 a _ ha
  refine W.iast C.1 C.2.1 hat ((C.2.2.2.2.2.2.2.2.2.1.2 0 _ rfl).1 n (fun j => .int (f j))) (fun q => by cases q) (by show ¬ (i < 0 ∨ (arrV _ _ _).slots.size ≤ _); rw [arrV_size]; exact hin) rfl rfl hd fun H1 e1 z oq => ?_
  refine k p e R s m args below meth c G B H1 _ cells slots ls Z C E (hR.put hBa ?_ z oq) (hS.put z oq hBa) hl hc hs hZ
  show H1[a]? = some (vp_cell _ _)
  rw [e1]
  show some ((vp_cell _ _).setSlot _ _) = _
  rw [vp_cell_i, vp_cell_i, arrV_store]
  congr 2
  funext q
  by_cases hq : q = i.toNatClampNeg
  · subst hq
    simp [updV, upd]
  · simp [updV, upd, hq]
theorem py_bast {a n : Nat} {f : Nat → Int32} {i x : Int32} (hp : pc + 1 = pc') (hd : decode M.2.1 pc = .ok (.bastore, 1)) (ha : h.2 a = some (aB n f)) (hin : vp_in i n) (k : py_V l M Ex Q d bc bs pc' lv st (pz_put h a (aB n (upd f i.toNatClampNeg (vp_nar .byte x))))) : py_V l M Ex Q d bc bs pc lv (.int x :: .int i :: .ref a :: st) h := by
  subst hp
  intro p e R s m args below meth c G B H locs cells slots ls Z C E hR hS hl hc hs hZ
  obtain ⟨hBa, hat⟩ := hR.2.2 a _ ha
  refine W.bast C.1 C.2.1 hat ((C.2.2.2.2.2.2.2.2.2.1.2 2 _ rfl).1 n (fun j => .int (f j))) (fun q => by cases q) (by show ¬ (i < 0 ∨ (arrV _ _ _).slots.size ≤ _); rw [arrV_size]; exact hin) rfl rfl hd fun H1 e1 z oq => ?_
  refine k p e R s m args below meth c G B H1 _ cells slots ls Z C E (hR.put hBa ?_ z oq) (hS.put z oq hBa) hl hc hs hZ
  show H1[a]? = some (vp_cell _ _)
  rw [e1]
  show some ((vp_cell _ _).setSlot _ _) = _
  rw [vp_cell_i, vp_cell_i, arrV_store]
  congr 2
  funext q
  by_cases hq : q = i.toNatClampNeg
  · subst hq
    simp [updV, upd, vp_nar]
    try rfl
  · simp [updV, upd, hq]
theorem py_zast {a n : Nat} {f : Nat → Int32} {i x : Int32} (hp : pc + 1 = pc') (hd : decode M.2.1 pc = .ok (.bastore, 1)) (ha : h.2 a = some (aZ n f)) (hin : vp_in i n) (k : py_V l M Ex Q d bc bs pc' lv st (pz_put h a (aZ n (upd f i.toNatClampNeg (vp_nar .boolean x))))) : py_V l M Ex Q d bc bs pc lv (.int x :: .int i :: .ref a :: st) h := by
  subst hp
  intro p e R s m args below meth c G B H locs cells slots ls Z C E hR hS hl hc hs hZ
  obtain ⟨hBa, hat⟩ := hR.2.2 a _ ha
  refine W.zast C.1 C.2.1 hat ((C.2.2.2.2.2.2.2.2.2.1.2 4 _ rfl).1 n (fun j => .int (f j))) (fun q => by cases q) (by show ¬ (i < 0 ∨ (arrV _ _ _).slots.size ≤ _); rw [arrV_size]; exact hin) rfl rfl hd fun H1 e1 z oq => ?_
  refine k p e R s m args below meth c G B H1 _ cells slots ls Z C E (hR.put hBa ?_ z oq) (hS.put z oq hBa) hl hc hs hZ
  show H1[a]? = some (vp_cell _ _)
  rw [e1]
  show some ((vp_cell _ _).setSlot _ _) = _
  rw [vp_cell_i, vp_cell_i, arrV_store]
  congr 2
  funext q
  by_cases hq : q = i.toNatClampNeg
  · subst hq
    simp [updV, upd, vp_nar]
    try rfl
  · simp [updV, upd, hq]
theorem py_last {a n : Nat} {f : Nat → Int64} {i : Int32} {x : Int64} (hp : pc + 1 = pc') (hd : decode M.2.1 pc = .ok (.lastore, 1)) (ha : h.2 a = some (aJ n f)) (hin : vp_in i n) (k : py_V l M Ex Q d bc bs pc' lv st (pz_put h a (aJ n (vp_updL f i.toNatClampNeg x)))) : py_V l M Ex Q d bc bs pc lv (.long x :: .int i :: .ref a :: st) h := by
  subst hp
  intro p e R s m args below meth c G B H locs cells slots ls Z C E hR hS hl hc hs hZ
  obtain ⟨hBa, hat⟩ := hR.2.2 a _ ha
  refine W.last C.1 C.2.1 hat ((C.2.2.2.2.2.2.2.2.2.1.2 1 _ rfl).1 n (fun j => .long (f j))) (fun q => by cases q) (by show ¬ (i < 0 ∨ (arrV _ _ _).slots.size ≤ _); rw [arrV_size]; exact hin) rfl rfl hd fun H1 e1 z oq => ?_
  refine k p e R s m args below meth c G B H1 _ cells slots ls Z C E (hR.put hBa ?_ z oq) (hS.put z oq hBa) hl hc hs hZ
  show H1[a]? = some (vp_cell _ _)
  rw [e1]
  show some ((vp_cell _ _).setSlot _ _) = _
  rw [vp_cell_l, vp_cell_l, arrV_store]
  congr 2
  funext q
  by_cases hq : q = i.toNatClampNeg
  · subst hq
    simp [updV, vp_updL]
  · simp [updV, vp_updL, hq]
theorem py_aast {a n v : Nat} {f : Nat → Option Nat} {i : Int32} {vs : List Value} (hp : pc + 1 = pc') (hd : decode M.2.1 pc = .ok (.aastore, 1)) (ha : h.2 a = some (aW n f)) (hin : vp_in i n) (hv : h.2 v = some (aO 8 vs)) (k : py_V l M Ex Q d bc bs pc' lv st (pz_put h a (aW n (va_up f i.toNatClampNeg (some v))))) : py_V l M Ex Q d bc bs pc lv (.ref v :: .int i :: .ref a :: st) h := by
  subst hp
  intro p e R s m args below meth c G B H locs cells slots ls Z C E hR hS hl hc hs hZ
  obtain ⟨hBa, hat⟩ := hR.2.2 a _ ha
  have hK := C.2.2.2.2.2.2.2.2.2.1
  have hlt : i.toNatClampNeg < n := Nat.not_le.mp fun q => hin (Or.inr q)
  have h0 : ¬ i < 0 := fun q => hin (Or.inl q)
  obtain ⟨-, r', hr', cellV, g1, g2, g3, -⟩ := hR.2.2 v _ hv
  have hcls := (hK.1 8 (RX8, TX8, 9) rfl).2
  obtain ⟨kA, comp, k1, k2, k3, -⟩ := (hK.2 3 _ rfl).2
  have hcomp : comp = G.1.1 8 := Option.some.inj (k3.symm.trans hcls.1)
  subst hcomp
  obtain ⟨kC, hkC, -⟩ := hcls.2
  refine W.aast C.1 C.2.1 hat (fun q h => by cases h) (fun h => by cases h) k1 k2 rfl hkC ⟨h0, by show _ < (arrV _ _ _).slots.size; rw [arrV_size]; exact hlt⟩ g1 (fun q h => by rw [g3] at h; cases h) (by rw [g2]; exact hkC) (by rw [g2]; exact va_assign hcls) rfl rfl hd fun H1 e1 z oq => ?_
  refine k p e R s m args below meth c G B H1 _ cells slots ls Z C E (hR.put hBa ?_ z oq) (hS.put z oq hBa) hl hc hs hZ
  show H1[a]? = some (vp_cell _ _)
  rw [e1]
  show some ((vp_cell _ _).setSlot _ _) = _
  rw [vp_cell_q, vp_cell_q, arrV_store]
  congr 2
  funext q
  by_cases hq : q = i.toNatClampNeg
  · subst hq
    simp [updV, va_up, va_rf]
  · simp [updV, va_up, hq]
set_option maxHeartbeats 1000000 in
theorem py_callV {N : pz_M} {idx n b ci d' bc1 bs1 bc2 bs2 : Nat} (As : List Value) {fs : List Value} (hm : pz_mv M.1.cls idx N n ci) (hp : pc + 3 = pc') (hd : decode M.2.1 pc = .ok (.invokevirtual idx, 3)) (hn : As.length = n) (hsl : (lg_sl (.ref b :: As)).length ≤ N.2.2.1) (hrest : (st.map fun v => v.category).sum ≤ 8) (hst : As.reverse ++ .ref b :: st = stk) (hdd : d' + 1 ≤ d) (hbc : bc1 + bc2 ≤ bc) (hbs : bs1 + bs2 ≤ bs) (hb : h.2 b = some (aO ci fs))
    (k : pz_K N d' bc1 bs1 (.ref b :: As) h (fun r h' => py_V l M Ex Q d bc2 bs2 pc' lv (r.toList ++ st) h')) : py_V l M Ex Q d bc bs pc lv stk h := by
  subst hp; subst hst
  intro p e R s m args below meth c G B H locs cells slots ls Z C E hR hS hl hc hs hZ
  obtain ⟨q1, q2, q3, q4, q5, q6, q7, q8, q9, q10, q11, q12⟩ := id C
  obtain ⟨hok, hml, hins, hsel, T, kk, hci⟩ := hm
  have hM := pz_met hok hsl k l G B
  have h22 := hok.2.2.2.1
  have hlo : 8 + (N.2.2.1 + 11) + 41 * d' ≤ R.locals := by omega
  have hPre : PreV s H N.1.cls b (pz_Pc G B h (.ref b :: As)) As := ⟨pz_blind, va_recv q10 (pz_one hR hb) hci (q0 := 0) rfl, fun U hU hW => ⟨rfl, by rw [hU]; exact hR, va_K.moved hW.alike q10, q7.warm hW⟩⟩
  refine pz_after (mc := bc1) (ms := bs1) (rest := st) (a := (Value.ref b :: As).toArray) (Q' := fun r h' => py_V l M Ex Q d bc2 bs2 (pc + 3) lv (r.toList ++ st) h') (G := G) (B := B) ?_ hS (fun r h' H1 locs1 hq hR1 hS1 => hq p e R s m args below meth c G B H1 locs1 _ _ ls Z C E hR1 hS1 hl (by omega) (by omega) hZ)
  rcases hml with hml | ⟨host, hml⟩
  · exact va_runV (S := ⟨q1, q2, q4, q5, q6⟩) hM ⟨⟨rfl, rfl, Nat.le_trans hdd q11, hlo, pz_good q6 hok, List.mem_cons_self, q6 _ hok.1, q6 _ hok.2.1, hok.2.2.2.2.1, pz_parse hok, q6 _ hml⟩, q6 _ hins, q6 _ hsel⟩ hPre rfl hn hl.1 rfl (lv_room hrest) hd ⟨by omega, by omega⟩
  · exact va_runVN (S := ⟨q1, q2, q4, q5, q6⟩) hM ⟨⟨⟨rfl, rfl, Nat.le_trans hdd q11, hlo, pz_good q6 hok, List.mem_cons_self⟩, q6 _ hok.1, q6 _ hok.2.1, hok.2.2.2.2.1, pz_parse hok, va_Nw.use rfl (q7.1 _ hml rfl)⟩, q6 _ hins, q6 _ hsel⟩ hPre rfl hn hl.1 rfl (lv_room hrest) hd ⟨by omega, by omega⟩
set_option maxHeartbeats 1000000 in
theorem py_callS {N : pz_M} {idx n d' bc1 bs1 bc2 bs2 : Nat} (As : List Value) (hm : pz_ms M.1.cls idx N n) (hp : pc + 3 = pc') (hd : decode M.2.1 pc = .ok (.invokestatic idx, 3)) (hn : As.length = n) (hsl : (lg_sl As).length ≤ N.2.2.1) (hrest : (st.map fun v => v.category).sum ≤ 8) (hst : As.reverse ++ st = stk) (hdd : d' + 1 ≤ d) (hbc : bc1 + bc2 ≤ bc) (hbs : bs1 + bs2 ≤ bs)
    (k : pz_K N d' bc1 bs1 As h (fun r h' => py_V l M Ex Q d bc2 bs2 pc' lv (r.toList ++ st) h')) : py_V l M Ex Q d bc bs pc lv stk h := by
  subst hp; subst hst
  intro p e R s m args below meth c G B H locs cells slots ls Z C E hR hS hl hc hs hZ
  obtain ⟨q1, q2, q3, q4, q5, q6, q7, q8, q9, q10, q11, q12⟩ := id C
  obtain ⟨hok, hml, hstt⟩ := hm
  have hM := pz_met hok hsl k l G B
  have h22 := hok.2.2.2.1
  have hlo : 8 + (N.2.2.1 + 11) + 41 * d' ≤ R.locals := by omega
  have hPre : PreS s H (pz_Pc G B h As) As := ⟨pz_blind, fun U hU hW => ⟨rfl, by rw [hU]; exact hR, va_K.moved hW.alike q10, q7.warm hW⟩⟩
  refine pz_after (mc := bc1) (ms := bs1) (rest := st) (a := As.toArray) (Q' := fun r h' => py_V l M Ex Q d bc2 bs2 (pc + 3) lv (r.toList ++ st) h') (G := G) (B := B) ?_ hS (fun r h' H1 locs1 hq hR1 hS1 => hq p e R s m args below meth c G B H1 locs1 _ _ ls Z C E hR1 hS1 hl (by omega) (by omega) hZ)
  rcases hml with hml | ⟨host, hml⟩
  · exact va_runS (S := ⟨q1, q2, q4, q5, q6⟩) hM ⟨⟨rfl, rfl, Nat.le_trans hdd q11, hlo, pz_good q6 hok, List.mem_cons_self, q6 _ hok.1, q6 _ hok.2.1, hok.2.2.2.2.1, pz_parse hok, q6 _ hml⟩, q6 _ hstt⟩ hPre rfl hn hl.1 rfl (lv_room hrest) hd ⟨by omega, by omega⟩
  · exact va_runSN (S := ⟨q1, q2, q4, q5, q6⟩) hM ⟨⟨⟨rfl, rfl, Nat.le_trans hdd q11, hlo, pz_good q6 hok, List.mem_cons_self⟩, q6 _ hok.1, q6 _ hok.2.1, hok.2.2.2.2.1, pz_parse hok, va_Nw.use rfl (q7.1 _ hml rfl)⟩, q6 _ hstt, trivial⟩ hPre rfl hn hl.1 rfl (lv_room hrest) hd ⟨by omega, by omega⟩
set_option maxHeartbeats 1000000 in
theorem py_callI {N : pz_M} {idx n b d' bc1 bs1 bc2 bs2 : Nat} (As : List Value) (hm : pz_mi M.1.cls idx N n) (hp : pc + 3 = pc') (hd : decode M.2.1 pc = .ok (.invokespecial idx, 3)) (hn : As.length = n) (hsl : (lg_sl (.ref b :: As)).length ≤ N.2.2.1) (hrest : (st.map fun v => v.category).sum ≤ 8) (hst : As.reverse ++ .ref b :: st = stk) (hdd : d' + 1 ≤ d) (hbc : bc1 + bc2 ≤ bc) (hbs : bs1 + bs2 ≤ bs)
    (k : pz_K N d' bc1 bs1 (.ref b :: As) h (fun r h' => py_V l M Ex Q d bc2 bs2 pc' lv (r.toList ++ st) h')) : py_V l M Ex Q d bc bs pc lv stk h := by
  subst hp; subst hst
  intro p e R s m args below meth c G B H locs cells slots ls Z C E hR hS hl hc hs hZ
  obtain ⟨q1, q2, q3, q4, q5, q6, q7, q8, q9, q10, q11, q12⟩ := id C
  obtain ⟨hok, hml, hins, hnm, hret⟩ := hm
  have hM := pz_met hok hsl k l G B
  have h22 := hok.2.2.2.1
  have hlo : 8 + (N.2.2.1 + 11) + 41 * d' ≤ R.locals := by omega
  have hPre : PreS s H (pz_Pc G B h (.ref b :: As)) (.ref b :: As) := ⟨pz_blind, fun U hU hW => ⟨rfl, by rw [hU]; exact hR, va_K.moved hW.alike q10, q7.warm hW⟩⟩
  have hcd := hok.1
  rw [hret] at hcd
  have hcd2 : Cond.code N.1 N.2.1 N.2.2.1 none ∈ pz_ws N := List.mem_cons_of_mem _ hcd
  refine pz_after (mc := bc1) (ms := bs1) (rest := st) (a := (Value.ref b :: As).toArray) (Q' := fun r h' => py_V l M Ex Q d bc2 bs2 (pc + 3) lv (r.toList ++ st) h') (G := G) (B := B) ?_ hS (fun r h' H1 locs1 hq hR1 hS1 => hq p e R s m args below meth c G B H1 locs1 _ _ ls Z C E hR1 hS1 hl (by omega) (by omega) hZ)
  rcases hml with hml | ⟨host, hml⟩
  · exact va_runI (S := ⟨q1, q2, q4, q5, q6⟩) hM ⟨⟨rfl, rfl, Nat.le_trans hdd q11, hlo, pz_good q6 hok, hcd2, q6 _ hcd, q6 _ hok.2.1, hok.2.2.2.2.1, pz_parse hok, q6 _ hml⟩, hnm, q6 _ hins⟩ hPre rfl hn hl.1 rfl (lv_room hrest) hd ⟨by omega, by omega⟩
  · exact va_runIN (S := ⟨q1, q2, q4, q5, q6⟩) hM ⟨⟨⟨rfl, rfl, Nat.le_trans hdd q11, hlo, pz_good q6 hok, hcd2⟩, q6 _ hcd, q6 _ hok.2.1, hok.2.2.2.2.1, pz_parse hok, va_Nw.use rfl (q7.1 _ hml rfl)⟩, hnm, q6 _ hins⟩ hPre rfl hn hl.1 rfl (lv_room hrest) hd ⟨by omega, by omega⟩
theorem py_obj {idx b : Nat} (hl0 : Cond.methodLink M.1.cls idx Lib.objectInit ∈ pz_tb) (hi0 : Cond.instanceMethod Lib.objectInit ∈ pz_tb) (hc0 : Cond.code Lib.objectInit ⟨#[0xb1]⟩ 1 none ∈ pz_tb) (hp : pc + 3 = pc') (hd : decode M.2.1 pc = .ok (.invokespecial idx, 3)) (hrest : (st.map fun v => v.category).sum ≤ 8) (hdd : 1 ≤ d) (k : py_V l M Ex Q d bc bs pc' lv st h) : py_V l M Ex Q d bc bs pc lv (.ref b :: st) h := by
  subst hp
  intro p e R s m args below meth c G B H locs cells slots ls Z C E hR hS hl hc hs hZ
  have kk := k p e R s m args below meth c G B H locs cells slots ls Z C E hR hS hl hc hs hZ
  obtain ⟨q1, q2, q3, q4, q5, q6, q7, q8, q9, q10, q11, q12⟩ := id C
  refine W.objInit q1 q2 q5 (q6 _ hl0) (q6 _ hi0) (q6 _ hc0) rfl (by rw [q4]; exact hl.1) rfl hd (Nat.le_trans hdd q11) ?_ ?_
  · show 2 * 0 + _ + 12 ≤ _
    omega
  · exact kk
theorem py_max {idx : Nat} {x y : Int32} (hm : pz_mw M.1.cls idx Lib.Math.max.name Lib.Math.max.code 2) (hp : pc + 3 = pc') (hd : decode M.2.1 pc = .ok (.invokestatic idx, 3)) (hrest : (st.map fun v => v.category).sum ≤ 8) (hdd : 1 ≤ d) (k : py_V l M Ex Q d bc bs pc' lv (.int (if x < y then y else x) :: st) h) : py_V l M Ex Q d bc bs pc lv (.int y :: .int x :: st) h := by
  subst hp
  intro p e R s m args below meth c G B H locs cells slots ls Z C E hR hS hl hc hs hZ
  have kk := k p e R s m args below meth c G B H locs cells slots ls Z C E hR hS hl hc hs hZ
  obtain ⟨q1, q2, q3, q4, q5, q6, q7, q8, q9, q10, q11, q12⟩ := id C
  exact va_mmax q1 q2 (q4.trans hl.1.symm) q5 (q6 _ hm.1) (q6 _ hm.2.1) (q6 _ hm.2.2.1) (q6 _ hm.2.2.2) (Nat.le_trans hdd q11) (by omega) (by omega) (by omega) hd kk
theorem py_min {idx : Nat} {x y : Int32} (hm : pz_mw M.1.cls idx Lib.Math.min.name Lib.Math.min.code 2) (hp : pc + 3 = pc') (hd : decode M.2.1 pc = .ok (.invokestatic idx, 3)) (hrest : (st.map fun v => v.category).sum ≤ 8) (hdd : 1 ≤ d) (k : py_V l M Ex Q d bc bs pc' lv (.int (if y < x then y else x) :: st) h) : py_V l M Ex Q d bc bs pc lv (.int y :: .int x :: st) h := by
  subst hp
  intro p e R s m args below meth c G B H locs cells slots ls Z C E hR hS hl hc hs hZ
  have kk := k p e R s m args below meth c G B H locs cells slots ls Z C E hR hS hl hc hs hZ
  obtain ⟨q1, q2, q3, q4, q5, q6, q7, q8, q9, q10, q11, q12⟩ := id C
  exact va_mmin q1 q2 (q4.trans hl.1.symm) q5 (q6 _ hm.1) (q6 _ hm.2.1) (q6 _ hm.2.2.1) (q6 _ hm.2.2.2) (Nat.le_trans hdd q11) (by omega) (by omega) (by omega) hd kk
theorem py_abs {idx : Nat} {x : Int32} (hm : pz_mw M.1.cls idx Lib.Math.abs.name Lib.Math.abs.code 1) (hp : pc + 3 = pc') (hd : decode M.2.1 pc = .ok (.invokestatic idx, 3)) (hrest : (st.map fun v => v.category).sum ≤ 8) (hdd : 1 ≤ d) (k : py_V l M Ex Q d bc bs pc' lv (.int (if 0 ≤ x then x else 0 - x) :: st) h) : py_V l M Ex Q d bc bs pc lv (.int x :: st) h := by
  subst hp
  intro p e R s m args below meth c G B H locs cells slots ls Z C E hR hS hl hc hs hZ
  have kk := k p e R s m args below meth c G B H locs cells slots ls Z C E hR hS hl hc hs hZ
  obtain ⟨q1, q2, q3, q4, q5, q6, q7, q8, q9, q10, q11, q12⟩ := id C
  exact va_mabs q1 q2 (q4.trans hl.1.symm) q5 (q6 _ hm.1) (q6 _ hm.2.1) (q6 _ hm.2.2.1) (q6 _ hm.2.2.2) (Nat.le_trans hdd q11) (by omega) (by omega) (by omega) hd kk
theorem py_newO {idx ci N : Nat} {fs : List Value} (hn : pz_nw M.1.cls idx ci N fs) (hp : pc + 3 = pc') (hd : decode M.2.1 pc = .ok (.new idx, 3)) (hbc : 1 ≤ bc) (hbs : N ≤ bs) (k : py_V l M Ex Q d (bc - 1) (bs - N) pc' lv (.ref h.1 :: st) (pz_new h (aO ci fs))) : py_V l M Ex Q d bc bs pc lv st h := by
  subst hp
  obtain ⟨C, T, ty, hc, hin, hty, hcl, hins, hini, hfs⟩ := hn
  intro p e R s m args below meth c G B H locs cells slots ls Z CC E hR hS hl hcc hss hZ
  obtain ⟨q1, q2, q3, q4, q5, q6, q7, q8, q9, q10, q11, q12⟩ := id CC
  have hKn := q10.1 ci _ hc
  refine W.newcK q1 q2 q5 (q6 _ hcl) (q6 _ hins) (q6 _ hini) rfl hd (by omega) (by omega) hKn.2.1 hR.1 fun H1 kC hkC e1 z1 o1 => ?_
  refine k p e R s m args below meth c G B H1 locs _ _ ls Z CC E (hR.new ⟨_, hc, (u_born ty q6 hin hKn hkC e1 hty).to hfs⟩ z1 o1) ⟨?_, fun x h1 h2 => ?_, hS.2.2⟩ hl (by omega) (by omega) hZ
  · have := hS.1
    rw [hR.1] at this
    omega
  · have hlt : x < h.1 := by rw [← hR.1]; exact Nat.lt_of_lt_of_le h1 hS.1
    exact (o1 x hlt).trans (hS.2.1 x h1 h2)
theorem py_newI {n : Int32} {N : Nat} (hw : Cond.arrayClass .int ∈ pz_tb) (hp : pc + 2 = pc') (hd : decode M.2.1 pc = .ok (.newarray .int, 2)) (hn : ¬ n < 0) (hN : n.toNatClampNeg = N) (hby : N * componentBytes .int ≤ 536870912) (hbc : 1 ≤ bc) (hbs : N ≤ bs) (k : py_V l M Ex Q d (bc - 1) (bs - N) pc' lv (.ref h.1 :: st) (pz_new h (aI N (fun _ => 0)))) : py_V l M Ex Q d bc bs pc lv (.int n :: st) h := by
  subst hp
  intro p e R s m args below meth c G B H locs cells slots ls Z CC E hR hS hl hcc hss hZ
  obtain ⟨q1, q2, q3, q4, q5, q6, q7, q8, q9, q10, q11, q12⟩ := id CC
  refine va_newaK (atype := .int) q1 q2 (q6 _ hw) rfl hd rfl hn hN hby (by omega) (by omega) hR.1 fun H1 cA e1 z1 o1 hAr hNm => ?_
  have hcA : cA = G.2.1 := Option.some.inj (hNm.symm.trans (q10.2 0 _ rfl).2)
  subst hcA
  refine k p e R s m args below meth c G B H1 locs _ _ ls Z CC E (hR.new (e := aI N (fun _ => 0)) e1 z1 o1) ⟨?_, fun x h1 h2 => ?_, hS.2.2⟩ hl (by omega) (by omega) hZ
  · have := hS.1
    rw [hR.1] at this
    omega
  · have hlt : x < h.1 := by rw [← hR.1]; exact Nat.lt_of_lt_of_le h1 hS.1
    exact (o1 x hlt).trans (hS.2.1 x h1 h2)
theorem py_newJ {n : Int32} {N : Nat} (hw : Cond.arrayClass .long ∈ pz_tb) (hp : pc + 2 = pc') (hd : decode M.2.1 pc = .ok (.newarray .long, 2)) (hn : ¬ n < 0) (hN : n.toNatClampNeg = N) (hby : N * componentBytes .long ≤ 536870912) (hbc : 1 ≤ bc) (hbs : N ≤ bs) (k : py_V l M Ex Q d (bc - 1) (bs - N) pc' lv (.ref h.1 :: st) (pz_new h (aJ N (fun _ => 0)))) : py_V l M Ex Q d bc bs pc lv (.int n :: st) h := by
  subst hp
  intro p e R s m args below meth c G B H locs cells slots ls Z CC E hR hS hl hcc hss hZ
  obtain ⟨q1, q2, q3, q4, q5, q6, q7, q8, q9, q10, q11, q12⟩ := id CC
  refine va_newaK (atype := .long) q1 q2 (q6 _ hw) rfl hd rfl hn hN hby (by omega) (by omega) hR.1 fun H1 cA e1 z1 o1 hAr hNm => ?_
  have hcA : cA = G.2.2.1 := Option.some.inj (hNm.symm.trans (q10.2 1 _ rfl).2)
  subst hcA
  refine k p e R s m args below meth c G B H1 locs _ _ ls Z CC E (hR.new (e := aJ N (fun _ => 0)) e1 z1 o1) ⟨?_, fun x h1 h2 => ?_, hS.2.2⟩ hl (by omega) (by omega) hZ
  · have := hS.1
    rw [hR.1] at this
    omega
  · have hlt : x < h.1 := by rw [← hR.1]; exact Nat.lt_of_lt_of_le h1 hS.1
    exact (o1 x hlt).trans (hS.2.1 x h1 h2)
theorem py_newB {n : Int32} {N : Nat} (hw : Cond.arrayClass .byte ∈ pz_tb) (hp : pc + 2 = pc') (hd : decode M.2.1 pc = .ok (.newarray .byte, 2)) (hn : ¬ n < 0) (hN : n.toNatClampNeg = N) (hby : N * componentBytes .byte ≤ 536870912) (hbc : 1 ≤ bc) (hbs : N ≤ bs) (k : py_V l M Ex Q d (bc - 1) (bs - N) pc' lv (.ref h.1 :: st) (pz_new h (aB N (fun _ => 0)))) : py_V l M Ex Q d bc bs pc lv (.int n :: st) h := by
  subst hp
  intro p e R s m args below meth c G B H locs cells slots ls Z CC E hR hS hl hcc hss hZ
  obtain ⟨q1, q2, q3, q4, q5, q6, q7, q8, q9, q10, q11, q12⟩ := id CC
  refine va_newaK (atype := .byte) q1 q2 (q6 _ hw) rfl hd rfl hn hN hby (by omega) (by omega) hR.1 fun H1 cA e1 z1 o1 hAr hNm => ?_
  have hcA : cA = G.2.2.2.1 := Option.some.inj (hNm.symm.trans (q10.2 2 _ rfl).2)
  subst hcA
  refine k p e R s m args below meth c G B H1 locs _ _ ls Z CC E (hR.new (e := aB N (fun _ => 0)) e1 z1 o1) ⟨?_, fun x h1 h2 => ?_, hS.2.2⟩ hl (by omega) (by omega) hZ
  · have := hS.1
    rw [hR.1] at this
    omega
  · have hlt : x < h.1 := by rw [← hR.1]; exact Nat.lt_of_lt_of_le h1 hS.1
    exact (o1 x hlt).trans (hS.2.1 x h1 h2)
theorem py_newZ {n : Int32} {N : Nat} (hw : Cond.arrayClass .boolean ∈ pz_tb) (hp : pc + 2 = pc') (hd : decode M.2.1 pc = .ok (.newarray .boolean, 2)) (hn : ¬ n < 0) (hN : n.toNatClampNeg = N) (hby : N * componentBytes .boolean ≤ 536870912) (hbc : 1 ≤ bc) (hbs : N ≤ bs) (k : py_V l M Ex Q d (bc - 1) (bs - N) pc' lv (.ref h.1 :: st) (pz_new h (aZ N (fun _ => 0)))) : py_V l M Ex Q d bc bs pc lv (.int n :: st) h := by
  subst hp
  intro p e R s m args below meth c G B H locs cells slots ls Z CC E hR hS hl hcc hss hZ
  obtain ⟨q1, q2, q3, q4, q5, q6, q7, q8, q9, q10, q11, q12⟩ := id CC
  refine va_newaK (atype := .boolean) q1 q2 (q6 _ hw) rfl hd rfl hn hN hby (by omega) (by omega) hR.1 fun H1 cA e1 z1 o1 hAr hNm => ?_
  have hcA : cA = G.2.2.2.2.2 := Option.some.inj (hNm.symm.trans (q10.2 4 _ rfl).2)
  subst hcA
  refine k p e R s m args below meth c G B H1 locs _ _ ls Z CC E (hR.new (e := aZ N (fun _ => 0)) e1 z1 o1) ⟨?_, fun x h1 h2 => ?_, hS.2.2⟩ hl (by omega) (by omega) hZ
  · have := hS.1
    rw [hR.1] at this
    omega
  · have hlt : x < h.1 := by rw [← hR.1]; exact Nat.lt_of_lt_of_le h1 hS.1
    exact (o1 x hlt).trans (hS.2.1 x h1 h2)
theorem py_newW {idx : Nat} {n : Int32} {N : Nat} (hw : Cond.classLink M.1.cls idx "PullThePlug$Water" ∈ pz_tb) (hp : pc + 3 = pc') (hd : decode M.2.1 pc = .ok (.anewarray idx, 3)) (hn : ¬ n < 0) (hN : n.toNatClampNeg = N) (hby : N * 4 ≤ 536870912) (hbc : 1 ≤ bc) (hbs : N ≤ bs) (k : py_V l M Ex Q d (bc - 1) (bs - N) pc' lv (.ref h.1 :: st) (pz_new h (aW N (fun _ => none)))) : py_V l M Ex Q d bc bs pc lv (.int n :: st) h := by
  subst hp; subst hN
  intro p e R s m args below meth c G B H locs cells slots ls Z CC E hR hS hl hcc hss hZ
  obtain ⟨q1, q2, q3, q4, q5, q6, q7, q8, q9, q10, q11, q12⟩ := id CC
  refine W.anew q1 q2 q5 (q6 _ hw) (va_AO.use q7.2) rfl hd rfl hn hby (by omega) (by omega) fun cA kA comp f1 f2 f3 f4 => ?_
  obtain ⟨kB, comp2, w1, w2, w3, w4⟩ := (q10.2 3 _ rfl).2
  have hcA : cA = G.2.2.2.2.1 := Option.some.inj (f1.symm.trans w4)
  subst hcA
  have e1 : va_at G.1 pz_cl (h.1, pz_e G (aW n.toNatClampNeg (fun _ => none))) (H.push { cls := G.2.2.2.2.1, slots := Array.replicate n.toNatClampNeg .null, vm := .none }) := by
    show (H.push _)[h.1]? = some (vp_cell _ _)
    rw [← hR.1, Array.getElem?_push_size, vp_cell_q]
    congr 1
    unfold arrV
    congr 1
    apply Array.ext
    · simp
    · intro i h1 h2
      simp [va_rf]
  have o1 : ∀ q : Nat, q < h.1 → (H.push { cls := G.2.2.2.2.1, slots := Array.replicate n.toNatClampNeg Value.null, vm := .none })[q]? = H[q]? := fun q hq => by
    rw [← hR.1] at hq
    rw [Array.getElem?_push_lt hq, Array.getElem?_eq_getElem hq]
  rw [hR.1]
  refine k p e R s m args below meth c G B _ locs _ _ ls Z CC E (hR.new e1 (by rw [Array.size_push, hR.1]) o1) ⟨?_, fun x h1 h2 => ?_, hS.2.2⟩ hl (by omega) (by omega) hZ
  · have := hS.1
    rw [Array.size_push]
    omega
  · have hlt : x < h.1 := by rw [← hR.1]; exact Nat.lt_of_lt_of_le h1 hS.1
    exact (o1 x hlt).trans (hS.2.1 x h1 h2)
theorem py_copy {idx a0 a n0 n1 : Nat} {f g : Nat → Int32} {sp dp n : Int32} (hm : pz_cw M.1.cls idx) (hp : pc + 3 = pc') (hd : decode M.2.1 pc = .ok (.invokestatic idx, 3)) (hrest : (st.map fun v => v.category).sum ≤ 8) (hdd : 1 ≤ d) (ha0 : h.2 a0 = some (aI n0 f)) (ha1 : h.2 a = some (aI n1 g)) (h1 : ¬ sp < 0) (h2 : ¬ dp < 0) (h3 : ¬ n < 0) (h4 : sp.toNatClampNeg + n.toNatClampNeg ≤ n0) (h5 : dp.toNatClampNeg + n.toNatClampNeg ≤ n1)
    (k : py_V l M Ex Q d bc bs pc' lv st (pz_put h a (aI n1 (va_cpy f g sp.toNatClampNeg dp.toNatClampNeg n.toNatClampNeg)))) : py_V l M Ex Q d bc bs pc lv (.int n :: .int dp :: .ref a :: .int sp :: .ref a0 :: st) h := by
  subst hp
  intro p e R s m args below meth c G B H locs cells slots ls Z CC E hR hS hl hcc hss hZ
  obtain ⟨q1, q2, q3, q4, q5, q6, q7, q8, q9, q10, q11, q12⟩ := id CC
  have nn : ∀ z : Int32, ¬ z < 0 → z.toInt = (z.toNatClampNeg : Int) := by
    intro z hz
    have hz0 : (0 : Int) ≤ z.toInt := by
      have := Int32.not_lt.mp hz
      simpa using Int32.le_iff_toInt_le.mp this
    show z.toInt = ((z.toInt.toNat : Nat) : Int)
    omega
  have hnf : nativeFrameWords "java/lang/System" "arraycopy" 5 ≤ 20 := by decide +kernel
  have hloc : 2 * 0 + (st.map fun v => v.category).sum + (nativeFrameWords "java/lang/System" "arraycopy" 5 + 11) ≤ R.locals := by omega
  intro T hT X
  have hc0 : H[a0]? = some (vp_cell G.2.1 (n0, .inl f)) := (hR.2.2 a0 _ ha0).2
  obtain ⟨hBa, hc1⟩ := hR.2.2 a _ ha1
  have hc1 : H[a]? = some (vp_cell G.2.1 (n1, .inl g)) := hc1
  obtain ⟨-, k0, hk0, cm0, hkk0⟩ := (q10.2 0 _ rfl).1 n0 (fun j => .int (f j))
  obtain ⟨-, k1, hk1, cm1, hkk1⟩ := (q10.2 0 _ rfl).1 n1 (fun j => .int (g j))
  obtain ⟨vm', X', step⟩ := X.arraycopy q1 q5 (q6 _ hm.1) (q6 _ hm.2.1) (q6 _ hm.2.2.1) (q6 _ hm.2.2.2) (src := a0) (dst := a) (cs := vp_cell G.2.1 (n0, .inl f)) (cd := vp_cell G.2.1 (n1, .inl g)) (srcPos := sp) (destPos := dp) (n := n) (by rw [hT]; exact hc0) (by rw [hT]; exact hc1)
    (fun _ h => by cases h) (fun _ h => by cases h) (fun h => by cases h) (fun h => by cases h) hk0 hk1 hkk0 hkk1 (by simp [refKind]) h1 h2 h3
    (by rw [nn sp h1, nn n h3]; show ¬ _ > ((arrV G.2.1 n0 (fun j => .int (f j))).slots.size : Int); rw [arrV_size]; omega)
    (by rw [nn dp h2, nn n h3]; show ¬ _ > ((arrV G.2.1 n1 (fun j => .int (g j))).slots.size : Int); rw [arrV_size]; omega)
    (fun vm₁ _ i hi => by
      have e : (vp_cell G.2.1 (n0, .inl f)).slots.getD (sp.toNatClampNeg + i) .null = .int (f (sp.toNatClampNeg + i)) := by
        show (arrV G.2.1 n0 (fun j => .int (f j))).slots.getD _ _ = _
        rw [Array.getD_eq_getD_getElem?, arrV_read _ _ (by omega)]
        rfl
      refine ⟨?_, ?_⟩
      · rw [e]
        rfl
      · rw [e]
        exact trivial)
    (g := F0 m pc ls (.int n :: .int dp :: .ref a :: .int sp :: .ref a0 :: st)) rfl (by rw [q4]; exact hl.1) (rest := st) rfl (by rw [q2]; exact hd) (Nat.le_trans hdd q11) hloc
  have e1 : copied (vp_cell G.2.1 (n0, .inl f)) (vp_cell G.2.1 (n1, .inl g)) sp dp n = vp_cell G.2.1 (n1, .inl (va_cpy f g sp.toNatClampNeg dp.toNatClampNeg n.toNatClampNeg)) := va_copied (fun z => .int z) G.2.1 G.2.1 f g h4
  rw [e1] at X' step
  have hlt : a < H.size := (Array.getElem?_eq_some_iff.mp hc1).1
  have hheap : ((T.setVm vm').setCell a (vp_cell G.2.1 (n1, .inl (va_cpy f g sp.toNatClampNeg dp.toNatClampNeg n.toNatClampNeg)))).heap = H.setIfInBounds a (vp_cell G.2.1 (n1, .inl (va_cpy f g sp.toNatClampNeg dp.toNatClampNeg n.toNatClampNeg))) := by rw [← hT]; rfl
  have oq : ∀ q : Nat, q ≠ a → (H.setIfInBounds a (vp_cell G.2.1 (n1, .inl (va_cpy f g sp.toNatClampNeg dp.toNatClampNeg n.toNatClampNeg))))[q]? = H[q]? := fun q hq => by simp [Array.getElem?_setIfInBounds, Ne.symm hq]
  obtain ⟨t, a1, b1⟩ := k p e R s m args below meth c G B _ _ cells slots ls Z CC E (hR.put (e := aI n1 (va_cpy f g sp.toNatClampNeg dp.toNatClampNeg n.toNatClampNeg)) hBa (show (H.setIfInBounds a _)[a]? = some _ by simp [Array.getElem?_setIfInBounds, hlt]) (by simp) oq) ⟨by simp; exact hS.1, fun q g1 g2 => by
      rw [oq q (fun e => g2 (by rw [e]; exact hBa))]
      exact hS.2.1 q g1 g2, fun q hq => by
      rcases List.mem_append.mp hq with h | h
      · exact hS.2.2 q h
      · obtain ⟨z, -, hz⟩ := List.mem_map.mp h
        rw [← hz]
        exact hBa⟩ hl hcc hss hZ _ hheap X'
  exact ⟨t, step t a1, b1⟩
theorem py_getI {idx ci k0 a : Nat} {K : Int32 → Prop} (hb : pz_gI h a ci k0 K) (hf : pz_fl M.1.cls idx ci k0) (hp : pc + 3 = pc') (hd : decode M.2.1 pc = .ok (.getfield idx, 3)) (kk : ∀ x, K x → py_V l M Ex Q d bc bs pc' lv (.int x :: st) h) : py_V l M Ex Q d bc bs pc lv (.ref a :: st) h := by
  obtain ⟨fs, x, h1, h2, h3⟩ := hb; exact py_get hf hp hd h1 h2 (kk x h3)
theorem py_getL {idx ci k0 a : Nat} {K : Int64 → Prop} (hb : pz_gL h a ci k0 K) (hf : pz_fl M.1.cls idx ci k0) (hp : pc + 3 = pc') (hd : decode M.2.1 pc = .ok (.getfield idx, 3)) (kk : ∀ x, K x → py_V l M Ex Q d bc bs pc' lv (.long x :: st) h) : py_V l M Ex Q d bc bs pc lv (.ref a :: st) h := by
  obtain ⟨fs, x, h1, h2, h3⟩ := hb; exact py_get hf hp hd h1 h2 (kk x h3)
theorem py_getR {idx ci k0 a : Nat} {K : Nat → Prop} (hb : pz_gR h a ci k0 K) (hf : pz_fl M.1.cls idx ci k0) (hp : pc + 3 = pc') (hd : decode M.2.1 pc = .ok (.getfield idx, 3)) (kk : ∀ x, K x → py_V l M Ex Q d bc bs pc' lv (.ref x :: st) h) : py_V l M Ex Q d bc bs pc lv (.ref a :: st) h := by
  obtain ⟨fs, x, h1, h2, h3⟩ := hb; exact py_get hf hp hd h1 h2 (kk x h3)
theorem py_getQ {idx ci k0 a : Nat} {K : Option Nat → Prop} (hb : pz_gQ h a ci k0 K) (hf : pz_fl M.1.cls idx ci k0) (hp : pc + 3 = pc') (hd : decode M.2.1 pc = .ok (.getfield idx, 3)) (kk : ∀ x, K x → py_V l M Ex Q d bc bs pc' lv (va_rf x :: st) h) : py_V l M Ex Q d bc bs pc lv (.ref a :: st) h := by
  obtain ⟨fs, x, h1, h2, h3⟩ := hb; exact py_get hf hp hd h1 h2 (kk x h3)
theorem py_putv {idx ci k0 a : Nat} {v : Value} {ty : FieldType} {K : pz_H → Prop} (hb : pz_pF h a ci k0 v K) (hf : pz_fp M.1 idx ci k0 ty) (hnw : narrow ty v = v) (hft : fits ty v = true) (hp : pc + 3 = pc') (hd : decode M.2.1 pc = .ok (.putfield idx, 3)) (kk : ∀ h', K h' → py_V l M Ex Q d bc bs pc' lv st h') : py_V l M Ex Q d bc bs pc lv (v :: .ref a :: st) h := by
  obtain ⟨fs, h1, h2, h3⟩ := hb; exact py_putf hf hnw hft hp hd h1 h2 (kk _ h3)
theorem py_ldI {a : Nat} {i : Int32} {K : Int32 → Prop} (hb : pz_rI h a i K) (hp : pc + 1 = pc') (hd : decode M.2.1 pc = .ok (.iaload, 1)) (kk : ∀ x, K x → py_V l M Ex Q d bc bs pc' lv (.int x :: st) h) : py_V l M Ex Q d bc bs pc lv (.int i :: .ref a :: st) h := by
  obtain ⟨n, f, h1, h2, h3⟩ := hb; exact py_iald hp hd h1 h2 (kk _ h3)
theorem py_ldJ {a : Nat} {i : Int32} {K : Int64 → Prop} (hb : pz_rJ h a i K) (hp : pc + 1 = pc') (hd : decode M.2.1 pc = .ok (.laload, 1)) (kk : ∀ x, K x → py_V l M Ex Q d bc bs pc' lv (.long x :: st) h) : py_V l M Ex Q d bc bs pc lv (.int i :: .ref a :: st) h := by
  obtain ⟨n, f, h1, h2, h3⟩ := hb; exact py_lald hp hd h1 h2 (kk _ h3)
theorem py_ldB {a : Nat} {i : Int32} {K : Int32 → Prop} (hb : pz_rB h a i K) (hp : pc + 1 = pc') (hd : decode M.2.1 pc = .ok (.baload, 1)) (kk : ∀ x, K x → py_V l M Ex Q d bc bs pc' lv (.int x :: st) h) : py_V l M Ex Q d bc bs pc lv (.int i :: .ref a :: st) h := by
  obtain ⟨n, f, h1, h2, h3⟩ := hb; exact py_bald hp hd h1 h2 (kk _ h3)
theorem py_ldZ {a : Nat} {i : Int32} {K : Int32 → Prop} (hb : pz_rZ h a i K) (hp : pc + 1 = pc') (hd : decode M.2.1 pc = .ok (.baload, 1)) (kk : ∀ x, K x → py_V l M Ex Q d bc bs pc' lv (.int x :: st) h) : py_V l M Ex Q d bc bs pc lv (.int i :: .ref a :: st) h := by
  obtain ⟨n, f, h1, h2, h3⟩ := hb; exact py_zald hp hd h1 h2 (kk _ h3)
theorem py_ldW {a : Nat} {i : Int32} {K : Nat → Prop} (hb : pz_rW h a i K) (hp : pc + 1 = pc') (hd : decode M.2.1 pc = .ok (.aaload, 1)) (kk : ∀ x, K x → py_V l M Ex Q d bc bs pc' lv (.ref x :: st) h) : py_V l M Ex Q d bc bs pc lv (.int i :: .ref a :: st) h := by
  obtain ⟨n, f, q, h1, h2, h3, h4⟩ := hb; exact py_aald hp hd h1 h2 h3 (kk _ h4)
theorem py_stI {a : Nat} {i x : Int32} {K : pz_H → Prop} (hb : pz_sI h a i x K) (hp : pc + 1 = pc') (hd : decode M.2.1 pc = .ok (.iastore, 1)) (kk : ∀ h', K h' → py_V l M Ex Q d bc bs pc' lv st h') : py_V l M Ex Q d bc bs pc lv (.int x :: .int i :: .ref a :: st) h := by
  obtain ⟨n, f, h1, h2, h3⟩ := hb; exact py_iast hp hd h1 h2 (kk _ h3)
theorem py_stJ {a : Nat} {i : Int32} {x : Int64} {K : pz_H → Prop} (hb : pz_sJ h a i x K) (hp : pc + 1 = pc') (hd : decode M.2.1 pc = .ok (.lastore, 1)) (kk : ∀ h', K h' → py_V l M Ex Q d bc bs pc' lv st h') : py_V l M Ex Q d bc bs pc lv (.long x :: .int i :: .ref a :: st) h := by
  obtain ⟨n, f, h1, h2, h3⟩ := hb; exact py_last hp hd h1 h2 (kk _ h3)
theorem py_stB {a : Nat} {i x : Int32} {K : pz_H → Prop} (hb : pz_sB h a i x K) (hp : pc + 1 = pc') (hd : decode M.2.1 pc = .ok (.bastore, 1)) (kk : ∀ h', K h' → py_V l M Ex Q d bc bs pc' lv st h') : py_V l M Ex Q d bc bs pc lv (.int x :: .int i :: .ref a :: st) h := by
  obtain ⟨n, f, h1, h2, h3⟩ := hb; exact py_bast hp hd h1 h2 (kk _ h3)
theorem py_stZ {a : Nat} {i x : Int32} {K : pz_H → Prop} (hb : pz_sZ h a i x K) (hp : pc + 1 = pc') (hd : decode M.2.1 pc = .ok (.bastore, 1)) (kk : ∀ h', K h' → py_V l M Ex Q d bc bs pc' lv st h') : py_V l M Ex Q d bc bs pc lv (.int x :: .int i :: .ref a :: st) h := by
  obtain ⟨n, f, h1, h2, h3⟩ := hb; exact py_zast hp hd h1 h2 (kk _ h3)
theorem py_stW {a v : Nat} {i : Int32} {K : pz_H → Prop} (hb : pz_sW h a i v K) (hp : pc + 1 = pc') (hd : decode M.2.1 pc = .ok (.aastore, 1)) (kk : ∀ h', K h' → py_V l M Ex Q d bc bs pc' lv st h') : py_V l M Ex Q d bc bs pc lv (.ref v :: .int i :: .ref a :: st) h := by
  obtain ⟨n, f, vs, h1, h2, h3, h4⟩ := hb; exact py_aast hp hd h1 h2 h3 (kk _ h4)
theorem py_lenI {a : Nat} {K : Int32 → Prop} (hb : pz_lI h a K) (hp : pc + 1 = pc') (hd : decode M.2.1 pc = .ok (.arraylength, 1)) (kk : ∀ x, K x → py_V l M Ex Q d bc bs pc' lv (.int x :: st) h) : py_V l M Ex Q d bc bs pc lv (.ref a :: st) h := by
  obtain ⟨n, f, h1, h2⟩ := hb; exact py_alenI hp hd h1 (kk _ h2)
theorem py_lenJ {a : Nat} {K : Int32 → Prop} (hb : pz_lJ h a K) (hp : pc + 1 = pc') (hd : decode M.2.1 pc = .ok (.arraylength, 1)) (kk : ∀ x, K x → py_V l M Ex Q d bc bs pc' lv (.int x :: st) h) : py_V l M Ex Q d bc bs pc lv (.ref a :: st) h := by
  obtain ⟨n, f, h1, h2⟩ := hb; exact py_alenJ hp hd h1 (kk _ h2)
theorem py_cpy {idx a0 a : Nat} {sp dp n : Int32} {K : pz_H → Prop} (hb : pz_cp h a0 sp a dp n K) (hm : pz_cw M.1.cls idx) (hp : pc + 3 = pc') (hd : decode M.2.1 pc = .ok (.invokestatic idx, 3)) (hrest : (st.map fun v => v.category).sum ≤ 8) (hdd : 1 ≤ d) (kk : ∀ h', K h' → py_V l M Ex Q d bc bs pc' lv st h') : py_V l M Ex Q d bc bs pc lv (.int n :: .int dp :: .ref a :: .int sp :: .ref a0 :: st) h := by
  obtain ⟨n0, n1, f, g, h1, h2, h3, h4, h5, h6, h7, h8⟩ := hb; exact py_copy hm hp hd hrest hdd h1 h2 h3 h4 h5 h6 h7 (kk _ h8)
theorem py_cVi {N : pz_M} {idx n b ci d' bc1 bs1 bc2 bs2 : Nat} {K : Int32 → pz_H → Prop} (As : List Value) (hb : pz_is h b ci ∧ pz_ki N d' bc1 bs1 (.ref b :: As) h K) (hm : pz_mv M.1.cls idx N n ci) (hp : pc + 3 = pc') (hd : decode M.2.1 pc = .ok (.invokevirtual idx, 3)) (hn : As.length = n) (hsl : (lg_sl (.ref b :: As)).length ≤ N.2.2.1) (hrest : (st.map fun v => v.category).sum ≤ 8) (hst : As.reverse ++ .ref b :: st = stk) (hdd : d' + 1 ≤ d) (hbc : bc1 + bc2 ≤ bc) (hbs : bs1 + bs2 ≤ bs) (kk : ∀ x h', K x h' → py_V l M Ex Q d bc2 bs2 pc' lv (.int x :: st) h') : py_V l M Ex Q d bc bs pc lv stk h := by
  obtain ⟨⟨fs, hf⟩, hb⟩ := hb
  exact py_callV As hm hp hd hn hsl hrest hst hdd hbc hbs hf (pz_post (fun r h' hq => by obtain ⟨x, rfl, hk⟩ := hq; exact kk x h' hk) hb)
theorem py_cVl {N : pz_M} {idx n b ci d' bc1 bs1 bc2 bs2 : Nat} {K : Int64 → pz_H → Prop} (As : List Value) (hb : pz_is h b ci ∧ pz_kl N d' bc1 bs1 (.ref b :: As) h K) (hm : pz_mv M.1.cls idx N n ci) (hp : pc + 3 = pc') (hd : decode M.2.1 pc = .ok (.invokevirtual idx, 3)) (hn : As.length = n) (hsl : (lg_sl (.ref b :: As)).length ≤ N.2.2.1) (hrest : (st.map fun v => v.category).sum ≤ 8) (hst : As.reverse ++ .ref b :: st = stk) (hdd : d' + 1 ≤ d) (hbc : bc1 + bc2 ≤ bc) (hbs : bs1 + bs2 ≤ bs) (kk : ∀ x h', K x h' → py_V l M Ex Q d bc2 bs2 pc' lv (.long x :: st) h') : py_V l M Ex Q d bc bs pc lv stk h := by
  obtain ⟨⟨fs, hf⟩, hb⟩ := hb
  exact py_callV As hm hp hd hn hsl hrest hst hdd hbc hbs hf (pz_post (fun r h' hq => by obtain ⟨x, rfl, hk⟩ := hq; exact kk x h' hk) hb)
theorem py_cVr {N : pz_M} {idx n b ci d' bc1 bs1 bc2 bs2 : Nat} {K : Nat → pz_H → Prop} (As : List Value) (hb : pz_is h b ci ∧ pz_kr N d' bc1 bs1 (.ref b :: As) h K) (hm : pz_mv M.1.cls idx N n ci) (hp : pc + 3 = pc') (hd : decode M.2.1 pc = .ok (.invokevirtual idx, 3)) (hn : As.length = n) (hsl : (lg_sl (.ref b :: As)).length ≤ N.2.2.1) (hrest : (st.map fun v => v.category).sum ≤ 8) (hst : As.reverse ++ .ref b :: st = stk) (hdd : d' + 1 ≤ d) (hbc : bc1 + bc2 ≤ bc) (hbs : bs1 + bs2 ≤ bs) (kk : ∀ x h', K x h' → py_V l M Ex Q d bc2 bs2 pc' lv (.ref x :: st) h') : py_V l M Ex Q d bc bs pc lv stk h := by
  obtain ⟨⟨fs, hf⟩, hb⟩ := hb
  exact py_callV As hm hp hd hn hsl hrest hst hdd hbc hbs hf (pz_post (fun r h' hq => by obtain ⟨x, rfl, hk⟩ := hq; exact kk x h' hk) hb)
theorem py_cVv {N : pz_M} {idx n b ci d' bc1 bs1 bc2 bs2 : Nat} {K : pz_H → Prop} (As : List Value) (hb : pz_is h b ci ∧ pz_kv N d' bc1 bs1 (.ref b :: As) h K) (hm : pz_mv M.1.cls idx N n ci) (hp : pc + 3 = pc') (hd : decode M.2.1 pc = .ok (.invokevirtual idx, 3)) (hn : As.length = n) (hsl : (lg_sl (.ref b :: As)).length ≤ N.2.2.1) (hrest : (st.map fun v => v.category).sum ≤ 8) (hst : As.reverse ++ .ref b :: st = stk) (hdd : d' + 1 ≤ d) (hbc : bc1 + bc2 ≤ bc) (hbs : bs1 + bs2 ≤ bs) (kk : ∀ h', K h' → py_V l M Ex Q d bc2 bs2 pc' lv st h') : py_V l M Ex Q d bc bs pc lv stk h := by
  obtain ⟨⟨fs, hf⟩, hb⟩ := hb
  exact py_callV As hm hp hd hn hsl hrest hst hdd hbc hbs hf (pz_post (fun r h' hq => by obtain ⟨rfl, hk⟩ := hq; exact kk h' hk) hb)
theorem py_cSi {N : pz_M} {idx n d' bc1 bs1 bc2 bs2 : Nat} {K : Int32 → pz_H → Prop} (As : List Value) (hb : pz_ki N d' bc1 bs1 As h K) (hm : pz_ms M.1.cls idx N n) (hp : pc + 3 = pc') (hd : decode M.2.1 pc = .ok (.invokestatic idx, 3)) (hn : As.length = n) (hsl : (lg_sl As).length ≤ N.2.2.1) (hrest : (st.map fun v => v.category).sum ≤ 8) (hst : As.reverse ++ st = stk) (hdd : d' + 1 ≤ d) (hbc : bc1 + bc2 ≤ bc) (hbs : bs1 + bs2 ≤ bs) (kk : ∀ x h', K x h' → py_V l M Ex Q d bc2 bs2 pc' lv (.int x :: st) h') : py_V l M Ex Q d bc bs pc lv stk h :=
  py_callS As hm hp hd hn hsl hrest hst hdd hbc hbs (pz_post (fun r h' hq => by obtain ⟨x, rfl, hk⟩ := hq; exact kk x h' hk) hb)
theorem py_cSl {N : pz_M} {idx n d' bc1 bs1 bc2 bs2 : Nat} {K : Int64 → pz_H → Prop} (As : List Value) (hb : pz_kl N d' bc1 bs1 As h K) (hm : pz_ms M.1.cls idx N n) (hp : pc + 3 = pc') (hd : decode M.2.1 pc = .ok (.invokestatic idx, 3)) (hn : As.length = n) (hsl : (lg_sl As).length ≤ N.2.2.1) (hrest : (st.map fun v => v.category).sum ≤ 8) (hst : As.reverse ++ st = stk) (hdd : d' + 1 ≤ d) (hbc : bc1 + bc2 ≤ bc) (hbs : bs1 + bs2 ≤ bs) (kk : ∀ x h', K x h' → py_V l M Ex Q d bc2 bs2 pc' lv (.long x :: st) h') : py_V l M Ex Q d bc bs pc lv stk h :=
  py_callS As hm hp hd hn hsl hrest hst hdd hbc hbs (pz_post (fun r h' hq => by obtain ⟨x, rfl, hk⟩ := hq; exact kk x h' hk) hb)
theorem py_cSv {N : pz_M} {idx n d' bc1 bs1 bc2 bs2 : Nat} {K : pz_H → Prop} (As : List Value) (hb : pz_kv N d' bc1 bs1 As h K) (hm : pz_ms M.1.cls idx N n) (hp : pc + 3 = pc') (hd : decode M.2.1 pc = .ok (.invokestatic idx, 3)) (hn : As.length = n) (hsl : (lg_sl As).length ≤ N.2.2.1) (hrest : (st.map fun v => v.category).sum ≤ 8) (hst : As.reverse ++ st = stk) (hdd : d' + 1 ≤ d) (hbc : bc1 + bc2 ≤ bc) (hbs : bs1 + bs2 ≤ bs) (kk : ∀ h', K h' → py_V l M Ex Q d bc2 bs2 pc' lv st h') : py_V l M Ex Q d bc bs pc lv stk h :=
  py_callS As hm hp hd hn hsl hrest hst hdd hbc hbs (pz_post (fun r h' hq => by obtain ⟨rfl, hk⟩ := hq; exact kk h' hk) hb)
theorem py_cIv {N : pz_M} {idx n b d' bc1 bs1 bc2 bs2 : Nat} {K : pz_H → Prop} (As : List Value) (hb : pz_kv N d' bc1 bs1 (.ref b :: As) h K) (hm : pz_mi M.1.cls idx N n) (hp : pc + 3 = pc') (hd : decode M.2.1 pc = .ok (.invokespecial idx, 3)) (hn : As.length = n) (hsl : (lg_sl (.ref b :: As)).length ≤ N.2.2.1) (hrest : (st.map fun v => v.category).sum ≤ 8) (hst : As.reverse ++ .ref b :: st = stk) (hdd : d' + 1 ≤ d) (hbc : bc1 + bc2 ≤ bc) (hbs : bs1 + bs2 ≤ bs) (kk : ∀ h', K h' → py_V l M Ex Q d bc2 bs2 pc' lv st h') : py_V l M Ex Q d bc bs pc lv stk h :=
  py_callI As hm hp hd hn hsl hrest hst hdd hbc hbs (pz_post (fun r h' hq => by obtain ⟨rfl, hk⟩ := hq; exact kk h' hk) hb)
theorem py_mkO {idx ci N : Nat} {fs : List Value} {K : Nat → pz_H → Prop} (hb : pz_nO h ci fs N bc bs K) (hn : pz_nw M.1.cls idx ci N fs) (hp : pc + 3 = pc') (hd : decode M.2.1 pc = .ok (.new idx, 3)) (kk : ∀ q h', K q h' → py_V l M Ex Q d (bc - 1) (bs - N) pc' lv (.ref q :: st) h') : py_V l M Ex Q d bc bs pc lv st h := py_newO hn hp hd hb.1 hb.2.1 (kk _ _ hb.2.2)
theorem py_mkI {n : Int32} {N : Nat} {K : Nat → pz_H → Prop} (hb : pz_nI h N bc bs K) (hw : Cond.arrayClass .int ∈ pz_tb) (hp : pc + 2 = pc') (hd : decode M.2.1 pc = .ok (.newarray .int, 2)) (hn : ¬ n < 0) (hN : n.toNatClampNeg = N) (hby : N * componentBytes .int ≤ 536870912) (kk : ∀ q h', K q h' → py_V l M Ex Q d (bc - 1) (bs - N) pc' lv (.ref q :: st) h') : py_V l M Ex Q d bc bs pc lv (.int n :: st) h := py_newI hw hp hd hn hN hby hb.1 hb.2.1 (kk _ _ hb.2.2)
theorem py_mkJ {n : Int32} {N : Nat} {K : Nat → pz_H → Prop} (hb : pz_nJ h N bc bs K) (hw : Cond.arrayClass .long ∈ pz_tb) (hp : pc + 2 = pc') (hd : decode M.2.1 pc = .ok (.newarray .long, 2)) (hn : ¬ n < 0) (hN : n.toNatClampNeg = N) (hby : N * componentBytes .long ≤ 536870912) (kk : ∀ q h', K q h' → py_V l M Ex Q d (bc - 1) (bs - N) pc' lv (.ref q :: st) h') : py_V l M Ex Q d bc bs pc lv (.int n :: st) h := py_newJ hw hp hd hn hN hby hb.1 hb.2.1 (kk _ _ hb.2.2)
theorem py_mkB {n : Int32} {N : Nat} {K : Nat → pz_H → Prop} (hb : pz_nB h N bc bs K) (hw : Cond.arrayClass .byte ∈ pz_tb) (hp : pc + 2 = pc') (hd : decode M.2.1 pc = .ok (.newarray .byte, 2)) (hn : ¬ n < 0) (hN : n.toNatClampNeg = N) (hby : N * componentBytes .byte ≤ 536870912) (kk : ∀ q h', K q h' → py_V l M Ex Q d (bc - 1) (bs - N) pc' lv (.ref q :: st) h') : py_V l M Ex Q d bc bs pc lv (.int n :: st) h := py_newB hw hp hd hn hN hby hb.1 hb.2.1 (kk _ _ hb.2.2)
theorem py_mkZ {n : Int32} {N : Nat} {K : Nat → pz_H → Prop} (hb : pz_nZ h N bc bs K) (hw : Cond.arrayClass .boolean ∈ pz_tb) (hp : pc + 2 = pc') (hd : decode M.2.1 pc = .ok (.newarray .boolean, 2)) (hn : ¬ n < 0) (hN : n.toNatClampNeg = N) (hby : N * componentBytes .boolean ≤ 536870912) (kk : ∀ q h', K q h' → py_V l M Ex Q d (bc - 1) (bs - N) pc' lv (.ref q :: st) h') : py_V l M Ex Q d bc bs pc lv (.int n :: st) h := py_newZ hw hp hd hn hN hby hb.1 hb.2.1 (kk _ _ hb.2.2)
theorem py_mkW {idx : Nat} {n : Int32} {N : Nat} {K : Nat → pz_H → Prop} (hb : pz_nWt h N bc bs K) (hw : Cond.classLink M.1.cls idx "PullThePlug$Water" ∈ pz_tb) (hp : pc + 3 = pc') (hd : decode M.2.1 pc = .ok (.anewarray idx, 3)) (hn : ¬ n < 0) (hN : n.toNatClampNeg = N) (hby : N * 4 ≤ 536870912) (kk : ∀ q h', K q h' → py_V l M Ex Q d (bc - 1) (bs - N) pc' lv (.ref q :: st) h') : py_V l M Ex Q d bc bs pc lv (.int n :: st) h := py_newW hw hp hd hn hN hby hb.1 hb.2.1 (kk _ _ hb.2.2)
/-! the script -/
def py_S (b L : Nat) (xs : Nat → Int32) (s : State) (B : Nat) : Prop := va_X b L xs s s.heap ∧ b < s.heap.size ∧ b < B
theorem py_sld {b L : Nat} {xs : Nat → Int32} {i : Int32} (hE : ∀ {p e R s m args below meth c G B Z}, Ex p e R s m args below meth c G B Z → py_S b L xs s B) (hp : pc + 1 = pc') (hd : decode M.2.1 pc = .ok (.iaload, 1)) (hin : vp_in i L) (k : py_V l M Ex Q d bc bs pc' lv (.int (xs i.toNatClampNeg) :: st) h) : py_V l M Ex Q d bc bs pc lv (.int i :: .ref b :: st) h := by
  subst hp
  intro p e R s m args below meth c G B H locs cells slots ls Z C E hR hS hl hc hs hZ
  obtain ⟨g1, g2, g3⟩ := hE E
  exact va_sld C.1 C.2.1 g1 g2 (Nat.not_le.mpr g3) hS hin hd (k p e R s m args below meth c G B H locs cells slots ls Z C E hR hS hl hc hs hZ)
theorem py_slen {b L : Nat} {xs : Nat → Int32} (hE : ∀ {p e R s m args below meth c G B Z}, Ex p e R s m args below meth c G B Z → py_S b L xs s B) (hp : pc + 1 = pc') (hd : decode M.2.1 pc = .ok (.arraylength, 1)) (k : py_V l M Ex Q d bc bs pc' lv (.int (Int32.ofNat L) :: st) h) : py_V l M Ex Q d bc bs pc lv (.ref b :: st) h := by
  subst hp
  intro p e R s m args below meth c G B H locs cells slots ls Z C E hR hS hl hc hs hZ
  obtain ⟨g1, g2, g3⟩ := hE E
  exact va_slen C.1 C.2.1 g1 g2 (Nat.not_le.mpr g3) hS hd (k p e R s m args below meth c G B H locs cells slots ls Z C E hR hS hl hc hs hZ)
end PYZ
