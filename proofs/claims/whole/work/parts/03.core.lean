/-! ===== the abstract heap, the judgement pz_V, its rows ===== -/
def pz_isN : Cond → Bool
  | .fieldLinkNest .. => true
  | .methodLinkNest .. => true
  | _ => false
def pz_tb : List Cond := lw_tbl.filter goodWord
theorem pz_in {w : Cond} (h : w ∈ lw_tbl) (hg : goodWord w = true) : w ∈ pz_tb := List.mem_filter.mpr ⟨h, hg⟩
theorem pz_tb_good : ∀ w ∈ pz_tb, goodWord w = true := fun _ h => (List.mem_filter.mp h).2
abbrev pz_E : Type := (Nat × (Nat → Int32)) ⊕ (Nat × (Nat → Int64)) ⊕ (Nat × (Nat → Int32)) ⊕ (Nat × (Nat → Int32)) ⊕ (Nat × (Nat → Option Nat)) ⊕ (Nat × List Value)
abbrev aI (n : Nat) (f : Nat → Int32) : pz_E := .inl (n, f)
abbrev aJ (n : Nat) (f : Nat → Int64) : pz_E := .inr (.inl (n, f))
abbrev aB (n : Nat) (f : Nat → Int32) : pz_E := .inr (.inr (.inl (n, f)))
abbrev aZ (n : Nat) (f : Nat → Int32) : pz_E := .inr (.inr (.inr (.inl (n, f))))
abbrev aW (n : Nat) (f : Nat → Option Nat) : pz_E := .inr (.inr (.inr (.inr (.inl (n, f)))))
abbrev aO (ci : Nat) (fs : List Value) : pz_E := .inr (.inr (.inr (.inr (.inr (ci, fs)))))
abbrev pz_F : Type := Nat → Option pz_E
abbrev pz_H : Type := Nat × pz_F
abbrev pz_G : Type := va_G × ClassId × ClassId × ClassId × ClassId × ClassId
def pz_e (G : pz_G) : pz_E → va_E
  | .inl (n, f) => .inl (G.2.1, n, .inl f)
  | .inr (.inl (n, f)) => .inl (G.2.2.1, n, .inr (.inl f))
  | .inr (.inr (.inl (n, f))) => .inl (G.2.2.2.1, n, .inl f)
  | .inr (.inr (.inr (.inl (n, f)))) => .inl (G.2.2.2.2.2, n, .inl f)
  | .inr (.inr (.inr (.inr (.inl (n, f))))) => .inl (G.2.2.2.2.1, n, .inr (.inr (.inr (.inr f))))
  | .inr (.inr (.inr (.inr (.inr o)))) => .inr o
def pz_ty (G : pz_G) : List (ClassId × FieldType) := [(G.2.1, .int), (G.2.2.1, .long), (G.2.2.2.1, .byte), (G.2.2.2.2.1, .object "PullThePlug$Water"), (G.2.2.2.2.2, .boolean)]
def pz_set (f : pz_F) (a : Nat) (e : pz_E) : pz_F := fun x => if x = a then some e else f x
def pz_put (h : pz_H) (a : Nat) (e : pz_E) : pz_H := (h.1, pz_set h.2 a e)
def pz_new (h : pz_H) (e : pz_E) : pz_H := (h.1 + 1, pz_set h.2 h.1 e)
theorem pz_set_eq (f : pz_F) (a : Nat) (e : pz_E) : pz_set f a e a = some e := if_pos rfl
theorem pz_set_ne {f : pz_F} {a x : Nat} {e : pz_E} (h : x ≠ a) : pz_set f a e x = f x := if_neg h
def pz_R (G : pz_G) (B : Nat) (h : pz_H) (H : Heap) : Prop := H.size = h.1 ∧ B ≤ h.1 ∧ ∀ (a : Nat) (e : pz_E), h.2 a = some e → B ≤ a ∧ va_at G.1 pz_cl (a, pz_e G e) H
theorem pz_R.put {G : pz_G} {B : Nat} {h : pz_H} {H H1 : Heap} {a : Nat} {e : pz_E} (hR : pz_R G B h H) (ha : B ≤ a) (h1 : va_at G.1 pz_cl (a, pz_e G e) H1) (hz : H1.size = H.size) (oq : ∀ q : Nat, q ≠ a → H1[q]? = H[q]?) : pz_R G B (pz_put h a e) H1 := by
  refine ⟨by rw [hz]; exact hR.1, hR.2.1, fun x e' hx => ?_⟩
  by_cases hxa : x = a
  · subst hxa
    have hx' : pz_set h.2 x e x = some e' := hx
    rw [pz_set_eq] at hx'
    cases hx'
    exact ⟨ha, h1⟩
  · have hx' : pz_set h.2 a e x = some e' := hx
    rw [pz_set_ne hxa] at hx'
    obtain ⟨g1, g2⟩ := hR.2.2 x e' hx'
    exact ⟨g1, g2.kept (oq x hxa)⟩
theorem pz_R.new {G : pz_G} {B : Nat} {h : pz_H} {H H1 : Heap} {e : pz_E} (hR : pz_R G B h H) (h1 : va_at G.1 pz_cl (h.1, pz_e G e) H1) (hz : H1.size = h.1 + 1) (oq : ∀ q : Nat, q < h.1 → H1[q]? = H[q]?) : pz_R G B (pz_new h e) H1 := by
  refine ⟨hz, Nat.le_succ_of_le hR.2.1, fun x e' hx => ?_⟩
  by_cases hxa : x = h.1
  · subst hxa
    have hx' : pz_set h.2 h.1 e h.1 = some e' := hx
    rw [pz_set_eq] at hx'
    cases hx'
    exact ⟨hR.2.1, h1⟩
  · have hx' : pz_set h.2 h.1 e x = some e' := hx
    rw [pz_set_ne hxa] at hx'
    obtain ⟨g1, g2⟩ := hR.2.2 x e' hx'
    have hlt : x < H.size := g2.lt
    exact ⟨g1, g2.kept (oq x (by rw [← hR.1]; exact hlt))⟩
def pz_NW (s : State) : Prop := (∀ w ∈ lw_tbl, pz_isN w = true → va_Nw w s) ∧ va_AO "PullThePlug$Water" s
def pz_C (M : pz_M) (d : Nat) (p : Program) (R : Room) (s : State) (m : MethodId) (args : Array Value) (meth : Method) (c : Code) (G : pz_G) : Prop :=
  p.tables.exec = Jvm.exec ∧ c.code = M.2.1 ∧ meth.sig.returnType = M.2.2.2 ∧ c.maxLocals = M.2.2.1 ∧ s.vm.findClass M.1.cls = some m.cls ∧ (∀ w ∈ pz_tb, w.before args s = true) ∧ pz_NW s ∧ meth.locks = false ∧ meth.name = M.1.name ∧ va_K G.1 pz_cl (pz_ty G) s ∧ d ≤ R.frames ∧ 41 * d ≤ R.locals
def pz_ri (ret : Option FieldType) (r : Option Value) (i : Instr) : Prop :=
  (ret = none ∧ r = none ∧ i = .return_) ∨ (∃ v : Int32, ret = some .int ∧ r = some (.int v) ∧ i = .ireturn) ∨ (∃ v : Int32, ret = some .boolean ∧ r = some (.int v) ∧ i = .ireturn ∧ (v = 0 ∨ v = 1)) ∨ (∃ v : Int64, ret = some .long ∧ r = some (.long v) ∧ i = .lreturn) ∨ (∃ (v : Nat) (nc : String), ret = some (.object nc) ∧ r = some (.ref v) ∧ i = .areturn)
def pz_Z (M : pz_M) (Q : Option Value → pz_H → Prop) (p : Program) (l : Launch) (e : Env) (R : Room) (s : State) (m : MethodId) (args : Array Value) (below : List Frame) (meth : Method) (c : Code) (G : pz_G) (B : Nat) (Z : State → Prop) : Prop :=
  ∀ (r : Option Value) (h : pz_H) (H : Heap) (locs : List Loc) (cells slots pc : Nat) (ls : Array Slot) (i : Instr), Q r h → pz_R G B h H → va_S (fun q => B ≤ q) s.heap H locs → cells ≤ R.cells → slots ≤ R.slots → decode M.2.1 pc = .ok (i, 1) → pz_ri M.2.2.2 r i →
    W p l e R s m args below meth c H locs cells slots Z (F0 m pc ls r.toList)
def pz_V (M : pz_M) (Ex : State → Nat → Prop) (Q : Option Value → pz_H → Prop) (d bc bs pc : Nat) (lv : List (Nat × Value)) (st : List Value) (h : pz_H) : Prop :=
  ∀ (p : Program) (l : Launch) (e : Env) (R : Room) (s : State) (m : MethodId) (args : Array Value) (below : List Frame) (meth : Method) (c : Code) (G : pz_G) (B : Nat) (H : Heap) (locs : List Loc) (cells slots : Nat) (ls : Array Slot) (Z : State → Prop),
    pz_C M d p R s m args meth c G → Ex s B → pz_R G B h H → va_S (fun q => B ≤ q) s.heap H locs → lv_has ls M.2.2.1 lv → cells + bc ≤ R.cells → slots + bs ≤ R.slots → pz_Z M Q p l e R s m args below meth c G B Z →
    W p l e R s m args below meth c H locs cells slots Z (F0 m pc ls st)
abbrev pz_T : State → Nat → Prop := fun _ _ => True
/-- a call's wp: the method from its entry -/
abbrev pz_K (M : pz_M) (d bc bs : Nat) (as : List Value) (h : pz_H) (Q : Option Value → pz_H → Prop) : Prop := pz_V M pz_T Q d bc bs 0 (lv_args 0 as) [] h
/-- the place of a field: class number, slot number; the words that link it -/
def pz_fl (own : String) (idx ci k : Nat) : Prop := ∃ (C : String) (T : u_T) (N : Nat), pz_cl[ci]? = some (C, T, N) ∧ k < N ∧ (T k).1 = C ∧ (∀ w ∈ u_ws C T N, w ∈ pz_tb) ∧ (Cond.fieldLink own idx C (T k).2.1 (T k).2.2.1 ∈ pz_tb ∨ ∃ host : String, Cond.fieldLinkNest own idx C (T k).2.1 (T k).2.2.1 host ∈ lw_tbl)
def pz_fp (y : MethodName) (idx ci k : Nat) (ty : FieldType) : Prop := ∃ (C : String) (T : u_T) (N : Nat) (ty0 : Nat → FieldType), pz_cl[ci]? = some (C, T, N) ∧ k < N ∧ (T k).1 = C ∧ (∀ w ∈ u_ws C T N, w ∈ pz_tb) ∧ (∀ k, k < N → parseFieldDescriptor (T k).2.2.1 = some (ty0 k)) ∧ (∀ a, a < N → ∀ b, b < N → a ≠ b → (T a).2.1 ≠ (T b).2.1) ∧ ty0 k = ty ∧ (((T k).2.2.2 = false ∧ (Cond.fieldLink y.cls idx C (T k).2.1 (T k).2.2.1 ∈ pz_tb ∨ ∃ host : String, Cond.fieldLinkNest y.cls idx C (T k).2.1 (T k).2.2.1 host ∈ lw_tbl)) ∨ ((T k).2.2.2 = true ∧ C = y.cls ∧ y.name = "<init>" ∧ Cond.fieldLink y.cls idx C (T k).2.1 (T k).2.2.1 ∈ pz_tb))
section PZ
variable {M : pz_M} {Ex : State → Nat → Prop} {Q : Option Value → pz_H → Prop} {d bc bs pc pc' : Nat} {lv : List (Nat × Value)} {st : List Value} {h : pz_H}
theorem pz_mono {d' bc' bs' : Nat} (hd : d ≤ d') (hc : bc ≤ bc') (hs : bs ≤ bs') (k : pz_V M Ex Q d bc bs pc lv st h) : pz_V M Ex Q d' bc' bs' pc lv st h := by
  intro p l e R s m args below meth c G B H locs cells slots ls Z C E hR hS hl hcc hss hZ
  obtain ⟨q1, q2, q3, q4, q5, q6, q7, q8, q9, q10, q11, q12⟩ := C
  exact k p l e R s m args below meth c G B H locs cells slots ls Z ⟨q1, q2, q3, q4, q5, q6, q7, q8, q9, q10, Nat.le_trans hd q11, Nat.le_trans (Nat.mul_le_mul_left 41 hd) q12⟩ E hR hS hl (by omega) (by omega) hZ
theorem pz_post {Q' : Option Value → pz_H → Prop} (hq : ∀ r h', Q r h' → Q' r h') (k : pz_V M Ex Q d bc bs pc lv st h) : pz_V M Ex Q' d bc bs pc lv st h := by
  intro p l e R s m args below meth c G B H locs cells slots ls Z C E hR hS hl hcc hss hZ
  exact k p l e R s m args below meth c G B H locs cells slots ls Z C E hR hS hl hcc hss (fun r h' H1 locs1 c1 s1 pc1 ls1 i g1 => hZ r h' H1 locs1 c1 s1 pc1 ls1 i (hq r h' g1))
theorem pz_row {st' : List Value} (f : ∀ {p : Program} {l : Launch} {e : Env} {R : Room} {s : State} {m : MethodId} {args : Array Value} {below : List Frame} {meth : Method} {c : Code} {H : Heap} {locs : List Loc} {cells slots : Nat} {ls : Array Slot} {Z : State → Prop}, p.tables.exec = Jvm.exec → c.code = M.2.1 → lv_has ls M.2.2.1 lv → W p l e R s m args below meth c H locs cells slots Z (F0 m pc' ls st') → W p l e R s m args below meth c H locs cells slots Z (F0 m pc ls st)) (k : pz_V M Ex Q d bc bs pc' lv st' h) : pz_V M Ex Q d bc bs pc lv st h := by
  intro p l e R s m args below meth c G B H locs cells slots ls Z C E hR hS hl hc hs hZ
  exact f C.1 C.2.1 hl (k p l e R s m args below meth c G B H locs cells slots ls Z C E hR hS hl hc hs hZ)
theorem pz_rows {st' : List Value} {lv' : List (Nat × Value)} (f : ∀ {p : Program} {l : Launch} {e : Env} {R : Room} {s : State} {m : MethodId} {args : Array Value} {below : List Frame} {meth : Method} {c : Code} {H : Heap} {locs : List Loc} {cells slots : Nat} {ls : Array Slot} {Z : State → Prop}, p.tables.exec = Jvm.exec → c.code = M.2.1 → lv_has ls M.2.2.1 lv → (∀ ls' : Array Slot, lv_has ls' M.2.2.1 lv' → W p l e R s m args below meth c H locs cells slots Z (F0 m pc' ls' st')) → W p l e R s m args below meth c H locs cells slots Z (F0 m pc ls st)) (k : pz_V M Ex Q d bc bs pc' lv' st' h) : pz_V M Ex Q d bc bs pc lv st h := by
  intro p l e R s m args below meth c G B H locs cells slots ls Z C E hR hS hl hc hs hZ
  exact f C.1 C.2.1 hl (fun ls' hl' => k p l e R s m args below meth c G B H locs cells slots ls' Z C E hR hS hl' hc hs hZ)
theorem pz_row2 {A1 A2 : Prop} {pc1 pc2 : Nat} {st1 : List Value} (f : ∀ {p : Program} {l : Launch} {e : Env} {R : Room} {s : State} {m : MethodId} {args : Array Value} {below : List Frame} {meth : Method} {c : Code} {H : Heap} {locs : List Loc} {cells slots : Nat} {ls : Array Slot} {Z : State → Prop}, p.tables.exec = Jvm.exec → c.code = M.2.1 → (A1 → W p l e R s m args below meth c H locs cells slots Z (F0 m pc1 ls st1)) → (A2 → W p l e R s m args below meth c H locs cells slots Z (F0 m pc2 ls st1)) → W p l e R s m args below meth c H locs cells slots Z (F0 m pc ls st)) (k1 : A1 → pz_V M Ex Q d bc bs pc1 lv st1 h) (k2 : A2 → pz_V M Ex Q d bc bs pc2 lv st1 h) : pz_V M Ex Q d bc bs pc lv st h := by
  intro p l e R s m args below meth c G B H locs cells slots ls Z C E hR hS hl hc hs hZ
  exact f C.1 C.2.1 (fun a => k1 a p l e R s m args below meth c G B H locs cells slots ls Z C E hR hS hl hc hs hZ) (fun a => k2 a p l e R s m args below meth c G B H locs cells slots ls Z C E hR hS hl hc hs hZ)
/-- fewer locals, in another order -/
theorem pz_lv {lv' : List (Nat × Value)} (ks : List Nat) (hl' : lv_pick lv ks = lv') (k : pz_V M Ex Q d bc bs pc lv' st h) : pz_V M Ex Q d bc bs pc lv st h := by
  intro p l e R s m args below meth c G B H locs cells slots ls Z C E hR hS hl hc hs hZ
  exact k p l e R s m args below meth c G B H locs cells slots ls Z C E hR hS (lv_sub hl ks hl') hc hs hZ

theorem pz_iconst {n : Int} {v : Int32} (hp : pc + 1 = pc') (hd : decode M.2.1 pc = .ok (.iconst n, 1)) (hv : Int32.ofInt n = v) (k : pz_V M Ex Q d bc bs pc' lv (.int v :: st) h) : pz_V M Ex Q d bc bs pc lv (st) h := by
  subst hp; exact pz_row (fun hx hb _ k => lv_iconst hx hb hd hv k) k
theorem pz_bipush {n : Int} {v : Int32} (hp : pc + 2 = pc') (hd : decode M.2.1 pc = .ok (.bipush n, 2)) (hv : (Int8.ofInt n).toInt32 = v) (k : pz_V M Ex Q d bc bs pc' lv (.int v :: st) h) : pz_V M Ex Q d bc bs pc lv (st) h := by
  subst hp; exact pz_row (fun hx hb _ k => lv_bipush hx hb hd hv k) k
theorem pz_sipush {n : Int} {v : Int32} (hp : pc + 3 = pc') (hd : decode M.2.1 pc = .ok (.sipush n, 3)) (hv : (Int16.ofInt n).toInt32 = v) (k : pz_V M Ex Q d bc bs pc' lv (.int v :: st) h) : pz_V M Ex Q d bc bs pc lv (st) h := by
  subst hp; exact pz_row (fun hx hb _ k => lv_sipush hx hb hd hv k) k
theorem pz_lconst {n : Fin 2} {v : Int64} (hp : pc + 1 = pc') (hd : decode M.2.1 pc = .ok (.lconst n, 1)) (hv : Int64.ofNat (n : Nat) = v) (k : pz_V M Ex Q d bc bs pc' lv (.long v :: st) h) : pz_V M Ex Q d bc bs pc lv (st) h := by
  subst hp; exact pz_row (fun hx hb _ k => lv_lconst hx hb hd hv k) k
theorem pz_iadd {x y : Int32} (hp : pc + 1 = pc') (hd : decode M.2.1 pc = .ok (.iadd, 1))  (k : pz_V M Ex Q d bc bs pc' lv (.int (x + y) :: st) h) : pz_V M Ex Q d bc bs pc lv (.int y :: .int x :: st) h := by
  subst hp; exact pz_row (fun hx hb _ k => lv_iadd hx hb hd  k) k
theorem pz_isub {x y : Int32} (hp : pc + 1 = pc') (hd : decode M.2.1 pc = .ok (.isub, 1))  (k : pz_V M Ex Q d bc bs pc' lv (.int (x - y) :: st) h) : pz_V M Ex Q d bc bs pc lv (.int y :: .int x :: st) h := by
  subst hp; exact pz_row (fun hx hb _ k => lv_isub hx hb hd  k) k
theorem pz_imul {x y : Int32} (hp : pc + 1 = pc') (hd : decode M.2.1 pc = .ok (.imul, 1))  (k : pz_V M Ex Q d bc bs pc' lv (.int (x * y) :: st) h) : pz_V M Ex Q d bc bs pc lv (.int y :: .int x :: st) h := by
  subst hp; exact pz_row (fun hx hb _ k => lv_imul hx hb hd  k) k
theorem pz_iand {x y : Int32} (hp : pc + 1 = pc') (hd : decode M.2.1 pc = .ok (.iand, 1))  (k : pz_V M Ex Q d bc bs pc' lv (.int (x &&& y) :: st) h) : pz_V M Ex Q d bc bs pc lv (.int y :: .int x :: st) h := by
  subst hp; exact pz_row (fun hx hb _ k => lv_iand hx hb hd  k) k
theorem pz_ior {x y : Int32} (hp : pc + 1 = pc') (hd : decode M.2.1 pc = .ok (.ior, 1))  (k : pz_V M Ex Q d bc bs pc' lv (.int (x ||| y) :: st) h) : pz_V M Ex Q d bc bs pc lv (.int y :: .int x :: st) h := by
  subst hp; exact pz_row (fun hx hb _ k => lv_ior hx hb hd  k) k
theorem pz_ixor {x y : Int32} (hp : pc + 1 = pc') (hd : decode M.2.1 pc = .ok (.ixor, 1))  (k : pz_V M Ex Q d bc bs pc' lv (.int (x ^^^ y) :: st) h) : pz_V M Ex Q d bc bs pc lv (.int y :: .int x :: st) h := by
  subst hp; exact pz_row (fun hx hb _ k => lv_ixor hx hb hd  k) k
theorem pz_ladd {x y : Int64} (hp : pc + 1 = pc') (hd : decode M.2.1 pc = .ok (.ladd, 1))  (k : pz_V M Ex Q d bc bs pc' lv (.long (x + y) :: st) h) : pz_V M Ex Q d bc bs pc lv (.long y :: .long x :: st) h := by
  subst hp; exact pz_row (fun hx hb _ k => lv_ladd hx hb hd  k) k
theorem pz_lsub {x y : Int64} (hp : pc + 1 = pc') (hd : decode M.2.1 pc = .ok (.lsub, 1))  (k : pz_V M Ex Q d bc bs pc' lv (.long (x - y) :: st) h) : pz_V M Ex Q d bc bs pc lv (.long y :: .long x :: st) h := by
  subst hp; exact pz_row (fun hx hb _ k => lv_lsub hx hb hd  k) k
theorem pz_lmul {x y : Int64} (hp : pc + 1 = pc') (hd : decode M.2.1 pc = .ok (.lmul, 1))  (k : pz_V M Ex Q d bc bs pc' lv (.long (x * y) :: st) h) : pz_V M Ex Q d bc bs pc lv (.long y :: .long x :: st) h := by
  subst hp; exact pz_row (fun hx hb _ k => lv_lmul hx hb hd  k) k
theorem pz_idiv {x y : Int32} (hp : pc + 1 = pc') (hd : decode M.2.1 pc = .ok (.idiv, 1)) (hne : ¬ y = 0) (k : pz_V M Ex Q d bc bs pc' lv (.int (x / y) :: st) h) : pz_V M Ex Q d bc bs pc lv (.int y :: .int x :: st) h := by
  subst hp; exact pz_row (fun hx hb _ k => lv_idiv hx hb hd hne k) k
theorem pz_irem {x y : Int32} (hp : pc + 1 = pc') (hd : decode M.2.1 pc = .ok (.irem, 1)) (hne : ¬ y = 0) (k : pz_V M Ex Q d bc bs pc' lv (.int (x - x / y * y) :: st) h) : pz_V M Ex Q d bc bs pc lv (.int y :: .int x :: st) h := by
  subst hp; exact pz_row (fun hx hb _ k => lv_irem hx hb hd hne k) k
theorem pz_ldiv {x y : Int64} (hp : pc + 1 = pc') (hd : decode M.2.1 pc = .ok (.ldiv, 1)) (hne : ¬ y = 0) (k : pz_V M Ex Q d bc bs pc' lv (.long (x / y) :: st) h) : pz_V M Ex Q d bc bs pc lv (.long y :: .long x :: st) h := by
  subst hp; exact pz_row (fun hx hb _ k => lv_ldiv hx hb hd hne k) k
theorem pz_lrem {x y : Int64} (hp : pc + 1 = pc') (hd : decode M.2.1 pc = .ok (.lrem, 1)) (hne : ¬ y = 0) (k : pz_V M Ex Q d bc bs pc' lv (.long (x - x / y * y) :: st) h) : pz_V M Ex Q d bc bs pc lv (.long y :: .long x :: st) h := by
  subst hp; exact pz_row (fun hx hb _ k => lv_lrem hx hb hd hne k) k
theorem pz_ineg {x : Int32} (hp : pc + 1 = pc') (hd : decode M.2.1 pc = .ok (.ineg, 1))  (k : pz_V M Ex Q d bc bs pc' lv (.int (-x) :: st) h) : pz_V M Ex Q d bc bs pc lv (.int x :: st) h := by
  subst hp; exact pz_row (fun hx hb _ k => lv_ineg hx hb hd  k) k
theorem pz_ishl {x y : Int32} (hp : pc + 1 = pc') (hd : decode M.2.1 pc = .ok (.ishl, 1))  (k : pz_V M Ex Q d bc bs pc' lv (.int (x <<< (y &&& 31)) :: st) h) : pz_V M Ex Q d bc bs pc lv (.int y :: .int x :: st) h := by
  subst hp; exact pz_row (fun hx hb _ k => lv_ishl hx hb hd  k) k
theorem pz_ishr {x y : Int32} (hp : pc + 1 = pc') (hd : decode M.2.1 pc = .ok (.ishr, 1))  (k : pz_V M Ex Q d bc bs pc' lv (.int (x >>> (y &&& 31)) :: st) h) : pz_V M Ex Q d bc bs pc lv (.int y :: .int x :: st) h := by
  subst hp; exact pz_row (fun hx hb _ k => lv_ishr hx hb hd  k) k
theorem pz_iushr {x y : Int32} (hp : pc + 1 = pc') (hd : decode M.2.1 pc = .ok (.iushr, 1))  (k : pz_V M Ex Q d bc bs pc' lv (.int ((x.toUInt32 >>> (y.toUInt32 &&& Int32.toUInt32 31)).toInt32) :: st) h) : pz_V M Ex Q d bc bs pc lv (.int y :: .int x :: st) h := by
  subst hp; exact pz_row (fun hx hb _ k => lv_iushr hx hb hd rfl k) k
theorem pz_i2l {x : Int32} (hp : pc + 1 = pc') (hd : decode M.2.1 pc = .ok (.i2l, 1))  (k : pz_V M Ex Q d bc bs pc' lv (.long x.toInt64 :: st) h) : pz_V M Ex Q d bc bs pc lv (.int x :: st) h := by
  subst hp; exact pz_row (fun hx hb _ k => lv_i2l hx hb hd rfl k) k
theorem pz_i2b {x : Int32} (hp : pc + 1 = pc') (hd : decode M.2.1 pc = .ok (.i2b, 1))  (k : pz_V M Ex Q d bc bs pc' lv (.int x.toInt8.toInt32 :: st) h) : pz_V M Ex Q d bc bs pc lv (.int x :: st) h := by
  subst hp; exact pz_row (fun hx hb _ k => lv_i2b hx hb hd rfl k) k
theorem pz_i2s {x : Int32} (hp : pc + 1 = pc') (hd : decode M.2.1 pc = .ok (.i2s, 1))  (k : pz_V M Ex Q d bc bs pc' lv (.int x.toInt16.toInt32 :: st) h) : pz_V M Ex Q d bc bs pc lv (.int x :: st) h := by
  subst hp; exact pz_row (fun hx hb _ k => lv_i2s hx hb hd rfl k) k
theorem pz_lcmp {x y : Int64} (hp : pc + 1 = pc') (hd : decode M.2.1 pc = .ok (.lcmp, 1))  (k : pz_V M Ex Q d bc bs pc' lv (.int (lg_cmp x y) :: st) h) : pz_V M Ex Q d bc bs pc lv (.long y :: .long x :: st) h := by
  subst hp; exact pz_row (fun hx hb _ k => W.lcmp hx hb hd  k) k
theorem pz_dup {va : Value} (hp : pc + 1 = pc') (hd : decode M.2.1 pc = .ok (.dup, 1)) (hva : va.category = 1) (k : pz_V M Ex Q d bc bs pc' lv (va :: va :: st) h) : pz_V M Ex Q d bc bs pc lv (va :: st) h := by
  subst hp; exact pz_row (fun hx hb _ k => lv_dup hx hb hd hva k) k
theorem pz_pop {va : Value} (hp : pc + 1 = pc') (hd : decode M.2.1 pc = .ok (.pop, 1)) (hva : va.category = 1) (k : pz_V M Ex Q d bc bs pc' lv (st) h) : pz_V M Ex Q d bc bs pc lv (va :: st) h := by
  subst hp; exact pz_row (fun hx hb _ k => lv_pop hx hb hd hva k) k
theorem pz_dup2 {va vb : Value} (hp : pc + 1 = pc') (hd : decode M.2.1 pc = .ok (.dup2, 1)) (hva : va.category = 1) (hvb : vb.category = 1) (k : pz_V M Ex Q d bc bs pc' lv (va :: vb :: va :: vb :: st) h) : pz_V M Ex Q d bc bs pc lv (va :: vb :: st) h := by
  subst hp; exact pz_row (fun hx hb _ k => lv_dup2_11 hx hb hd hva hvb k) k
theorem pz_dup_x1 {va vb : Value} (hp : pc + 1 = pc') (hd : decode M.2.1 pc = .ok (.dup_x1, 1)) (hva : va.category = 1) (hvb : vb.category = 1) (k : pz_V M Ex Q d bc bs pc' lv (va :: vb :: va :: st) h) : pz_V M Ex Q d bc bs pc lv (va :: vb :: st) h := by
  subst hp; exact pz_row (fun hx hb _ k => lv_dup_x1 hx hb hd hva hvb k) k
theorem pz_iload_n {n : Fin 4} {x : Int32} (k0 : Nat) (hp : pc + 1 = pc') (hd : decode M.2.1 pc = .ok (.iload_n n, 1)) (hk : lv[k0]? = some ((n : Nat), .int x)) (k : pz_V M Ex Q d bc bs pc' lv (.int x :: st) h) : pz_V M Ex Q d bc bs pc lv st h := by
  subst hp; exact pz_row (fun hx hb hl k => lv_iload_n hx hb hd rfl (lv_at hl k0 hk) k) k
theorem pz_iload {n : Nat} {x : Int32} (k0 : Nat) (hp : pc + 2 = pc') (hd : decode M.2.1 pc = .ok (.iload n, 2)) (hk : lv[k0]? = some (n, .int x)) (k : pz_V M Ex Q d bc bs pc' lv (.int x :: st) h) : pz_V M Ex Q d bc bs pc lv st h := by
  subst hp; exact pz_row (fun hx hb hl k => lv_iload hx hb hd (lv_at hl k0 hk) k) k
theorem pz_istore_n {n : Fin 4} {x : Int32} {lv' : List (Nat × Value)} (hp : pc + 1 = pc') (hd : decode M.2.1 pc = .ok (.istore_n n, 1)) (hn : (n : Nat) < M.2.2.1) (hl : ((n : Nat), Value.int x) :: lv.filter (fun q => !(q.1 == (n : Nat)) && !(q.1 + 1 == (n : Nat) && q.2.category == 2)) = lv') (k : pz_V M Ex Q d bc bs pc' lv' st h) : pz_V M Ex Q d bc bs pc lv (.int x :: st) h := by
  subst hp; exact pz_rows (fun hx hb hv k => lv_istore_n hx hb hd rfl hv hn hl k) k
theorem pz_istore {n : Nat} {x : Int32} {lv' : List (Nat × Value)} (hp : pc + 2 = pc') (hd : decode M.2.1 pc = .ok (.istore n, 2)) (hn : n < M.2.2.1) (hl : (n, Value.int x) :: lv.filter (fun q => !(q.1 == n) && !(q.1 + 1 == n && q.2.category == 2)) = lv') (k : pz_V M Ex Q d bc bs pc' lv' st h) : pz_V M Ex Q d bc bs pc lv (.int x :: st) h := by
  subst hp; exact pz_rows (fun hx hb hv k => lv_istore hx hb hd hv hn hl k) k
theorem pz_lload_n {n : Fin 4} {x : Int64} (k0 : Nat) (hp : pc + 1 = pc') (hd : decode M.2.1 pc = .ok (.lload_n n, 1)) (hk : lv[k0]? = some ((n : Nat), .long x)) (k : pz_V M Ex Q d bc bs pc' lv (.long x :: st) h) : pz_V M Ex Q d bc bs pc lv st h := by
  subst hp; exact pz_row (fun hx hb hl k => lv_lload_n hx hb hd rfl (lv_at hl k0 hk) k) k
theorem pz_lload {n : Nat} {x : Int64} (k0 : Nat) (hp : pc + 2 = pc') (hd : decode M.2.1 pc = .ok (.lload n, 2)) (hk : lv[k0]? = some (n, .long x)) (k : pz_V M Ex Q d bc bs pc' lv (.long x :: st) h) : pz_V M Ex Q d bc bs pc lv st h := by
  subst hp; exact pz_row (fun hx hb hl k => lv_lload hx hb hd (lv_at hl k0 hk) k) k
theorem pz_lstore_n {n : Fin 4} {x : Int64} {lv' : List (Nat × Value)} (hp : pc + 1 = pc') (hd : decode M.2.1 pc = .ok (.lstore_n n, 1)) (hn : (n : Nat) + 1 < M.2.2.1) (hl : ((n : Nat), Value.long x) :: lv.filter (fun q => !(q.1 == (n : Nat)) && (!(q.1 == (n : Nat) + 1) && !(q.1 + 1 == (n : Nat) && q.2.category == 2))) = lv') (k : pz_V M Ex Q d bc bs pc' lv' st h) : pz_V M Ex Q d bc bs pc lv (.long x :: st) h := by
  subst hp; exact pz_rows (fun hx hb hv k => lv_lstore_n hx hb hd rfl hv hn hl k) k
theorem pz_lstore {n : Nat} {x : Int64} {lv' : List (Nat × Value)} (hp : pc + 2 = pc') (hd : decode M.2.1 pc = .ok (.lstore n, 2)) (hn : n + 1 < M.2.2.1) (hl : (n, Value.long x) :: lv.filter (fun q => !(q.1 == n) && (!(q.1 == n + 1) && !(q.1 + 1 == n && q.2.category == 2))) = lv') (k : pz_V M Ex Q d bc bs pc' lv' st h) : pz_V M Ex Q d bc bs pc lv (.long x :: st) h := by
  subst hp; exact pz_rows (fun hx hb hv k => lv_lstore hx hb hd hv hn hl k) k
theorem pz_aload_n {n : Fin 4} {x : Nat} (k0 : Nat) (hp : pc + 1 = pc') (hd : decode M.2.1 pc = .ok (.aload_n n, 1)) (hk : lv[k0]? = some ((n : Nat), .ref x)) (k : pz_V M Ex Q d bc bs pc' lv (.ref x :: st) h) : pz_V M Ex Q d bc bs pc lv st h := by
  subst hp; exact pz_row (fun hx hb hl k => lv_aload_n hx hb hd rfl (lv_at hl k0 hk) k) k
theorem pz_aload {n : Nat} {x : Nat} (k0 : Nat) (hp : pc + 2 = pc') (hd : decode M.2.1 pc = .ok (.aload n, 2)) (hk : lv[k0]? = some (n, .ref x)) (k : pz_V M Ex Q d bc bs pc' lv (.ref x :: st) h) : pz_V M Ex Q d bc bs pc lv st h := by
  subst hp; exact pz_row (fun hx hb hl k => lv_aload hx hb hd (lv_at hl k0 hk) k) k
theorem pz_astore_n {n : Fin 4} {x : Nat} {lv' : List (Nat × Value)} (hp : pc + 1 = pc') (hd : decode M.2.1 pc = .ok (.astore_n n, 1)) (hn : (n : Nat) < M.2.2.1) (hl : ((n : Nat), Value.ref x) :: lv.filter (fun q => !(q.1 == (n : Nat)) && !(q.1 + 1 == (n : Nat) && q.2.category == 2)) = lv') (k : pz_V M Ex Q d bc bs pc' lv' st h) : pz_V M Ex Q d bc bs pc lv (.ref x :: st) h := by
  subst hp; exact pz_rows (fun hx hb hv k => lv_astore_n hx hb hd rfl hv hn hl k) k
theorem pz_astore {n : Nat} {x : Nat} {lv' : List (Nat × Value)} (hp : pc + 2 = pc') (hd : decode M.2.1 pc = .ok (.astore n, 2)) (hn : n < M.2.2.1) (hl : (n, Value.ref x) :: lv.filter (fun q => !(q.1 == n) && !(q.1 + 1 == n && q.2.category == 2)) = lv') (k : pz_V M Ex Q d bc bs pc' lv' st h) : pz_V M Ex Q d bc bs pc lv (.ref x :: st) h := by
  subst hp; exact pz_rows (fun hx hb hv k => lv_astore hx hb hd hv hn hl k) k
theorem pz_iinc {i : Nat} {n : Int} {x v : Int32} {lv' : List (Nat × Value)} (k0 : Nat) (hp : pc + 3 = pc') (hd : decode M.2.1 pc = .ok (.iinc i n, 3)) (hk : lv[k0]? = some (i, .int x)) (hv : x + Int32.ofInt n = v) (hn : i < M.2.2.1) (hl : (i, Value.int v) :: lv.filter (fun q => !(q.1 == i) && !(q.1 + 1 == i && q.2.category == 2)) = lv') (k : pz_V M Ex Q d bc bs pc' lv' st h) : pz_V M Ex Q d bc bs pc lv st h := by
  subst hp; exact pz_rows (fun hx hb hl0 k => lv_iinc hx hb hd hl0 hk hv hn hl k) k
theorem pz_if_eq {x : Int32} {off : Int} {tgt : Nat} (hp : pc + 3 = pc') (hd : decode M.2.1 pc = .ok (.ifCond .eq off, 3)) (ht : (pc : Int) + off = (tgt : Int)) (k1 : x = 0 → pz_V M Ex Q d bc bs tgt lv st h) (k2 : ¬ x = 0 → pz_V M Ex Q d bc bs pc' lv st h) : pz_V M Ex Q d bc bs pc lv (.int x :: st) h := by
  subst hp; exact pz_row2 (fun hx hb a1 a2 => lv_if_eq hx hb hd ht a1 a2) k1 k2
theorem pz_icmp_eq {x y : Int32} {off : Int} {tgt : Nat} (hp : pc + 3 = pc') (hd : decode M.2.1 pc = .ok (.if_icmp .eq off, 3)) (ht : (pc : Int) + off = (tgt : Int)) (k1 : x = y → pz_V M Ex Q d bc bs tgt lv st h) (k2 : ¬ x = y → pz_V M Ex Q d bc bs pc' lv st h) : pz_V M Ex Q d bc bs pc lv (.int y :: .int x :: st) h := by
  subst hp; exact pz_row2 (fun hx hb a1 a2 => lv_icmp_eq hx hb hd ht a1 a2) k1 k2
theorem pz_if_ne {x : Int32} {off : Int} {tgt : Nat} (hp : pc + 3 = pc') (hd : decode M.2.1 pc = .ok (.ifCond .ne off, 3)) (ht : (pc : Int) + off = (tgt : Int)) (k1 : ¬ x = 0 → pz_V M Ex Q d bc bs tgt lv st h) (k2 : x = 0 → pz_V M Ex Q d bc bs pc' lv st h) : pz_V M Ex Q d bc bs pc lv (.int x :: st) h := by
  subst hp; exact pz_row2 (fun hx hb a1 a2 => lv_if_ne hx hb hd ht a1 a2) k1 k2
theorem pz_icmp_ne {x y : Int32} {off : Int} {tgt : Nat} (hp : pc + 3 = pc') (hd : decode M.2.1 pc = .ok (.if_icmp .ne off, 3)) (ht : (pc : Int) + off = (tgt : Int)) (k1 : ¬ x = y → pz_V M Ex Q d bc bs tgt lv st h) (k2 : x = y → pz_V M Ex Q d bc bs pc' lv st h) : pz_V M Ex Q d bc bs pc lv (.int y :: .int x :: st) h := by
  subst hp; exact pz_row2 (fun hx hb a1 a2 => lv_icmp_ne hx hb hd ht a1 a2) k1 k2
theorem pz_if_lt {x : Int32} {off : Int} {tgt : Nat} (hp : pc + 3 = pc') (hd : decode M.2.1 pc = .ok (.ifCond .lt off, 3)) (ht : (pc : Int) + off = (tgt : Int)) (k1 : x < 0 → pz_V M Ex Q d bc bs tgt lv st h) (k2 : ¬ x < 0 → pz_V M Ex Q d bc bs pc' lv st h) : pz_V M Ex Q d bc bs pc lv (.int x :: st) h := by
  subst hp; exact pz_row2 (fun hx hb a1 a2 => lv_if_lt hx hb hd ht a1 a2) k1 k2
theorem pz_icmp_lt {x y : Int32} {off : Int} {tgt : Nat} (hp : pc + 3 = pc') (hd : decode M.2.1 pc = .ok (.if_icmp .lt off, 3)) (ht : (pc : Int) + off = (tgt : Int)) (k1 : x < y → pz_V M Ex Q d bc bs tgt lv st h) (k2 : ¬ x < y → pz_V M Ex Q d bc bs pc' lv st h) : pz_V M Ex Q d bc bs pc lv (.int y :: .int x :: st) h := by
  subst hp; exact pz_row2 (fun hx hb a1 a2 => lv_icmp_lt hx hb hd ht a1 a2) k1 k2
theorem pz_if_ge {x : Int32} {off : Int} {tgt : Nat} (hp : pc + 3 = pc') (hd : decode M.2.1 pc = .ok (.ifCond .ge off, 3)) (ht : (pc : Int) + off = (tgt : Int)) (k1 : 0 ≤ x → pz_V M Ex Q d bc bs tgt lv st h) (k2 : ¬ 0 ≤ x → pz_V M Ex Q d bc bs pc' lv st h) : pz_V M Ex Q d bc bs pc lv (.int x :: st) h := by
  subst hp; exact pz_row2 (fun hx hb a1 a2 => lv_if_ge hx hb hd ht a1 a2) k1 k2
theorem pz_icmp_ge {x y : Int32} {off : Int} {tgt : Nat} (hp : pc + 3 = pc') (hd : decode M.2.1 pc = .ok (.if_icmp .ge off, 3)) (ht : (pc : Int) + off = (tgt : Int)) (k1 : y ≤ x → pz_V M Ex Q d bc bs tgt lv st h) (k2 : ¬ y ≤ x → pz_V M Ex Q d bc bs pc' lv st h) : pz_V M Ex Q d bc bs pc lv (.int y :: .int x :: st) h := by
  subst hp; exact pz_row2 (fun hx hb a1 a2 => lv_icmp_ge hx hb hd ht a1 a2) k1 k2
theorem pz_if_gt {x : Int32} {off : Int} {tgt : Nat} (hp : pc + 3 = pc') (hd : decode M.2.1 pc = .ok (.ifCond .gt off, 3)) (ht : (pc : Int) + off = (tgt : Int)) (k1 : 0 < x → pz_V M Ex Q d bc bs tgt lv st h) (k2 : ¬ 0 < x → pz_V M Ex Q d bc bs pc' lv st h) : pz_V M Ex Q d bc bs pc lv (.int x :: st) h := by
  subst hp; exact pz_row2 (fun hx hb a1 a2 => lv_if_gt hx hb hd ht a1 a2) k1 k2
theorem pz_icmp_gt {x y : Int32} {off : Int} {tgt : Nat} (hp : pc + 3 = pc') (hd : decode M.2.1 pc = .ok (.if_icmp .gt off, 3)) (ht : (pc : Int) + off = (tgt : Int)) (k1 : y < x → pz_V M Ex Q d bc bs tgt lv st h) (k2 : ¬ y < x → pz_V M Ex Q d bc bs pc' lv st h) : pz_V M Ex Q d bc bs pc lv (.int y :: .int x :: st) h := by
  subst hp; exact pz_row2 (fun hx hb a1 a2 => lv_icmp_gt hx hb hd ht a1 a2) k1 k2
theorem pz_if_le {x : Int32} {off : Int} {tgt : Nat} (hp : pc + 3 = pc') (hd : decode M.2.1 pc = .ok (.ifCond .le off, 3)) (ht : (pc : Int) + off = (tgt : Int)) (k1 : x ≤ 0 → pz_V M Ex Q d bc bs tgt lv st h) (k2 : ¬ x ≤ 0 → pz_V M Ex Q d bc bs pc' lv st h) : pz_V M Ex Q d bc bs pc lv (.int x :: st) h := by
  subst hp; exact pz_row2 (fun hx hb a1 a2 => lv_if_le hx hb hd ht a1 a2) k1 k2
theorem pz_icmp_le {x y : Int32} {off : Int} {tgt : Nat} (hp : pc + 3 = pc') (hd : decode M.2.1 pc = .ok (.if_icmp .le off, 3)) (ht : (pc : Int) + off = (tgt : Int)) (k1 : x ≤ y → pz_V M Ex Q d bc bs tgt lv st h) (k2 : ¬ x ≤ y → pz_V M Ex Q d bc bs pc' lv st h) : pz_V M Ex Q d bc bs pc lv (.int y :: .int x :: st) h := by
  subst hp; exact pz_row2 (fun hx hb a1 a2 => lv_icmp_le hx hb hd ht a1 a2) k1 k2
theorem pz_goto {off : Int} (hd : decode M.2.1 pc = .ok (.goto off, 3)) (ht : (pc : Int) + off = (pc' : Int)) (k : pz_V M Ex Q d bc bs pc' lv st h) : pz_V M Ex Q d bc bs pc lv st h := pz_row (fun hx hb _ k => lv_goto hx hb hd ht k) k
theorem pz_ldcw {idx : Nat} {v : Int32} (hw : Cond.constant M.1.cls idx v ∈ pz_tb) (hp : pc + 3 = pc') (hd : decode M.2.1 pc = .ok (.ldc_w idx, 3)) (k : pz_V M Ex Q d bc bs pc' lv (.int v :: st) h) : pz_V M Ex Q d bc bs pc lv st h := by
  subst hp
  intro p l e R s m args below meth c G B H locs cells slots ls Z C E hR hS hl hc hs hZ
  exact lv_ldcw C.1 C.2.1 C.2.2.2.2.1 (C.2.2.2.2.2.1 _ hw) hd (k p l e R s m args below meth c G B H locs cells slots ls Z C E hR hS hl hc hs hZ)
theorem pz_ldc {idx : Nat} {v : Int32} (hw : Cond.constant M.1.cls idx v ∈ pz_tb) (hp : pc + 2 = pc') (hd : decode M.2.1 pc = .ok (.ldc idx, 2)) (k : pz_V M Ex Q d bc bs pc' lv (.int v :: st) h) : pz_V M Ex Q d bc bs pc lv st h := by
  subst hp
  intro p l e R s m args below meth c G B H locs cells slots ls Z C E hR hS hl hc hs hZ
  exact lv_ldc C.1 C.2.1 C.2.2.2.2.1 (C.2.2.2.2.2.1 _ hw) hd (k p l e R s m args below meth c G B H locs cells slots ls Z C E hR hS hl hc hs hZ)
theorem pz_ldc2 {idx : Nat} {v : Int64} (hw : Cond.constantLong M.1.cls idx v ∈ pz_tb) (hp : pc + 3 = pc') (hd : decode M.2.1 pc = .ok (.ldc2_w idx, 3)) (k : pz_V M Ex Q d bc bs pc' lv (.long v :: st) h) : pz_V M Ex Q d bc bs pc lv st h := by
  subst hp
  intro p l e R s m args below meth c G B H locs cells slots ls Z C E hR hS hl hc hs hZ
  exact lv_ldc2 C.1 C.2.1 C.2.2.2.2.1 (C.2.2.2.2.2.1 _ hw) hd (k p l e R s m args below meth c G B H locs cells slots ls Z C E hR hS hl hc hs hZ)
/-! switches -/
theorem pz_table {dflt lo hi : Int} {offs : Array Int} {len : Nat} {x : Int32} (hd : decode M.2.1 pc = .ok (.tableswitch dflt lo hi offs, len))
    (k1 : ∀ (off : Int), ¬ x.toInt < lo → ¬ hi < x.toInt → offs[(x.toInt - lo).toNat]? = some off → ∃ tgt : Nat, (pc : Int) + off = (tgt : Int) ∧ pz_V M Ex Q d bc bs tgt lv st h) (hall : ¬ x.toInt < lo → ¬ hi < x.toInt → ∃ off : Int, offs[(x.toInt - lo).toNat]? = some off)
    {tgt : Nat} (ht : (pc : Int) + dflt = (tgt : Int)) (k2 : x.toInt < lo ∨ hi < x.toInt → pz_V M Ex Q d bc bs tgt lv st h) : pz_V M Ex Q d bc bs pc lv (.int x :: st) h := by
  intro p l e R s m args below meth c G B H locs cells slots ls Z C E hR hS hl hc hs hZ
  by_cases h1 : x.toInt < lo
  · exact lv_tableOut C.1 C.2.1 hd (Or.inl h1) ht (k2 (Or.inl h1) p l e R s m args below meth c G B H locs cells slots ls Z C E hR hS hl hc hs hZ)
  · by_cases h2 : hi < x.toInt
    · exact lv_tableOut C.1 C.2.1 hd (Or.inr h2) ht (k2 (Or.inr h2) p l e R s m args below meth c G B H locs cells slots ls Z C E hR hS hl hc hs hZ)
    · obtain ⟨off, ho⟩ := hall h1 h2
      obtain ⟨tg, e1, kk⟩ := k1 off h1 h2 ho
      exact lv_tableIn C.1 C.2.1 hd h1 h2 ho e1 (kk p l e R s m args below meth c G B H locs cells slots ls Z C E hR hS hl hc hs hZ)
theorem pz_lookup {dflt : Int} {ps : Array (Int × Int)} {len : Nat} {x : Int32} {off : Int} {tgt : Nat} (hd : decode M.2.1 pc = .ok (.lookupswitch dflt ps, len)) (hp : (ps.toList.zip (ps.toList.drop 1)).all (fun (a, next) => a.1 < next.1) = true) (ho : Op.lookupswitch.offset ps.toList dflt x.toInt = off) (ht : (pc : Int) + off = (tgt : Int))
    (k : pz_V M Ex Q d bc bs tgt lv st h) : pz_V M Ex Q d bc bs pc lv (.int x :: st) h := pz_row (fun hx hb _ k => lv_lookup hx hb hd hp ho ht k) k
/-! null or not -/
theorem pz_ifnonnull {o : Option Nat} {off : Int} {tgt : Nat} (hp : pc + 3 = pc') (hd : decode M.2.1 pc = .ok (.ifnonnull off, 3)) (ht : (pc : Int) + off = (tgt : Int)) (k1 : ∀ x : Nat, o = some x → pz_V M Ex Q d bc bs tgt lv st h) (k2 : o = none → pz_V M Ex Q d bc bs pc' lv st h) : pz_V M Ex Q d bc bs pc lv (va_rf o :: st) h := by
  subst hp
  cases o with
  | none => exact pz_row (fun hx hb _ k => by
      intro T hT X
      obtain ⟨t, a, b⟩ := k T hT X
      refine ⟨t, ?_, b⟩
      jvm_step X.here [X.here.top, hx, hb, hd, va_rf]
      exact a) (k2 rfl)
  | some x => exact pz_row (fun hx hb _ k => lv_ifnonnull hx hb hd ht k) (k1 x rfl)
/-! returns -/
theorem pz_iret {v : Int32} (hd : decode M.2.1 pc = .ok (.ireturn, 1)) (hr : M.2.2.2 = some .int) (hq : Q (some (.int v)) h) : pz_V M Ex Q d bc bs pc lv [.int v] h := by
  intro p l e R s m args below meth c G B H locs cells slots ls Z C E hR hS hl hc hs hZ
  exact hZ (some (.int v)) h H locs cells slots pc ls .ireturn hq hR hS (by omega) (by omega) hd (Or.inr (Or.inl ⟨v, hr, rfl, rfl⟩))
theorem pz_zret {v : Int32} (hd : decode M.2.1 pc = .ok (.ireturn, 1)) (hr : M.2.2.2 = some .boolean) (hq : (v = 0 ∨ v = 1) ∧ Q (some (.int v)) h) : pz_V M Ex Q d bc bs pc lv [.int v] h := by
  intro p l e R s m args below meth c G B H locs cells slots ls Z C E hR hS hl hc hs hZ
  exact hZ (some (.int v)) h H locs cells slots pc ls .ireturn hq.2 hR hS (by omega) (by omega) hd (Or.inr (Or.inr (Or.inl ⟨v, hr, rfl, rfl, hq.1⟩)))
theorem pz_lret {v : Int64} (hd : decode M.2.1 pc = .ok (.lreturn, 1)) (hr : M.2.2.2 = some .long) (hq : Q (some (.long v)) h) : pz_V M Ex Q d bc bs pc lv [.long v] h := by
  intro p l e R s m args below meth c G B H locs cells slots ls Z C E hR hS hl hc hs hZ
  exact hZ (some (.long v)) h H locs cells slots pc ls .lreturn hq hR hS (by omega) (by omega) hd (Or.inr (Or.inr (Or.inr (Or.inl ⟨v, hr, rfl, rfl⟩))))
theorem pz_aret {v : Nat} {nc : String} (hd : decode M.2.1 pc = .ok (.areturn, 1)) (hr : M.2.2.2 = some (.object nc)) (hq : Q (some (.ref v)) h) : pz_V M Ex Q d bc bs pc lv [.ref v] h := by
  intro p l e R s m args below meth c G B H locs cells slots ls Z C E hR hS hl hc hs hZ
  exact hZ (some (.ref v)) h H locs cells slots pc ls .areturn hq hR hS (by omega) (by omega) hd (Or.inr (Or.inr (Or.inr (Or.inr ⟨v, nc, hr, rfl, rfl⟩))))
theorem pz_vret (hd : decode M.2.1 pc = .ok (.return_, 1)) (hr : M.2.2.2 = none) (hq : Q none h) : pz_V M Ex Q d bc bs pc lv [] h := by
  intro p l e R s m args below meth c G B H locs cells slots ls Z C E hR hS hl hc hs hZ
  exact hZ none h H locs cells slots pc ls .return_ hq hR hS (by omega) (by omega) hd (Or.inl ⟨hr, rfl, rfl⟩)
/-! fields -/
theorem pz_get {idx ci k0 a : Nat} {fs : List Value} {v : Value} (hf : pz_fl M.1.cls idx ci k0) (hp : pc + 3 = pc') (hd : decode M.2.1 pc = .ok (.getfield idx, 3)) (ha : h.2 a = some (aO ci fs)) (hv : fs[k0]? = some v) (k : pz_V M Ex Q d bc bs pc' lv (v :: st) h) : pz_V M Ex Q d bc bs pc lv (.ref a :: st) h := by
  subst hp
  obtain ⟨C, T, N, hc, hk, hC, hin, hlk⟩ := hf
  intro p l e R s m args below meth c G B H locs cells slots ls Z CC E hR hS hl hcc hss hZ
  have kk := k p l e R s m args below meth c G B H locs cells slots ls Z CC E hR hS hl hcc hss hZ
  obtain ⟨q1, q2, q3, q4, q5, q6, q7, q8, q9, q10, q11, q12⟩ := CC
  have hP : va_P G.1 pz_cl [(a, .inr (ci, fs))] H := fun j q hj => by
    cases j with
    | zero => cases hj; exact (hR.2.2 a _ ha).2
    | succ j => simp at hj
  subst hC
  rcases hlk with hlk | ⟨host, hlk⟩
  · exact va_get q1 q2 q6 hin q5 q10 hP 0 rfl hc k0 hk (q6 _ hlk) (fun _ h9 => h9) hv hd kk
  · exact va_getN q1 q2 q6 hin q5 q10 hP 0 rfl hc k0 hk (va_Nw.use rfl (q7.1 _ hlk rfl)) (fun _ h9 => h9) hv hd kk
theorem pz_putf {idx ci k0 a : Nat} {fs : List Value} {v : Value} {ty : FieldType} (hf : pz_fp M.1 idx ci k0 ty) (hnw : narrow ty v = v) (hft : fits ty v = true) (hp : pc + 3 = pc') (hd : decode M.2.1 pc = .ok (.putfield idx, 3)) (ha : h.2 a = some (aO ci fs)) (hlen : k0 < fs.length) (k : pz_V M Ex Q d bc bs pc' lv st (pz_put h a (aO ci (fs.set k0 v)))) : pz_V M Ex Q d bc bs pc lv (v :: .ref a :: st) h := by
  subst hp
  obtain ⟨C, T, N, ty0, hc, hk, hC, hin, hty, hnm, hty0, hlk⟩ := hf
  intro p l e R s m args below meth c G B H locs cells slots ls Z CC E hR hS hl hcc hss hZ
  obtain ⟨q1, q2, q3, q4, q5, q6, q7, q8, q9, q10, q11, q12⟩ := id CC
  have hap := va_apart (own := M.1.cls) q6 hin ty0 hty hnm q10 hc
  obtain ⟨hBa, r, h1, cell, g1, g2, g3, g4⟩ := hR.2.2 a _ ha
  have hr : r = (C, T, N) := Option.some.inj (h1.symm.trans hc)
  subst hr
  obtain ⟨hSl, hfc, kC, hkC, hkind⟩ := q10.1 ci _ hc
  obtain ⟨cf, kf, fi, f, hi, hsl⟩ := hSl k0 hk
  have hdd : parseFieldDescriptor (T k0).2.2.1 = some ty := by rw [hty k0 hk, hty0]
  have hlay := q6 _ (hin _ (u_in_lay hk))
  have hst := (u_facts hfc hkC (u_lays q6 hin hk) hi).1
  have fin : ∀ H' : Heap, H'[a]? = some (cell.setSlot f.slot v) → H'.size = H.size → (∀ q, q ≠ a → H'[q]? = H[q]?) → W p l e R s m args below meth c H' (locs ++ [⟨a, f.slot⟩]) cells slots Z (F0 m (pc + 3) ls st) := by
    intro H' e1 e2 e3
    rw [hsl] at e1 ⊢
    have hat : va_at G.1 pz_cl (a, .inr (ci, fs.set k0 v)) H' := ⟨_, hc, t_OB.to (V := updV (vp_V fs) k0 v) ⟨_, e1, g2, g3, t_set g4 hap hk v⟩ (fun j _ => vp_updV_set hlen v j)⟩
    exact k p l e R s m args below meth c G B H' _ cells slots ls Z CC E (hR.put hBa hat e2 e3) (hS.put e2 e3 hBa) hl hcc hss hZ
  subst hC
  rcases hlk with ⟨hfin, hlk⟩ | ⟨hfin, hown, hinit, hlk⟩
  · unfold u_lay at hlay
    rw [if_neg (by rw [hfin]; decide)] at hlay
    have h6 := u_store hfc hkC hkind hlay hi hdd hnw hft
    rcases hlk with hlk | ⟨host, hlk⟩
    · exact W.putK q1 q2 (f := f) ⟨q5, q6 _ hlk, ⟨_, _, _, hi⟩, hst⟩ (by rw [g2]; exact h6) g1 g3 (by rw [hsl]; exact k2_hasslot (g4 k0 hk)) rfl rfl hd fin
    · exact va_WputK q1 q2 (f := f) q5 (va_Nw.use rfl (q7.1 _ hlk rfl)) hi hst (by rw [g2]; exact h6) g1 g3 (by rw [hsl]; exact k2_hasslot (g4 k0 hk)) rfl rfl hd fin
  · unfold u_lay at hlay
    rw [if_pos hfin] at hlay
    have hcf : m.cls = cf := by
      obtain ⟨_, _, c', _, _, _, -, -, hf', -, -, -, hown2, -⟩ := Cond.laysFinal_spec hlay
      have e1 : c' = cf := by have := hi.symm.trans hf'; simp at this; exact this.1.symm
      rw [hown] at hown2
      rw [← e1]; exact Option.some.inj (q5.symm.trans hown2)
    have h6 := u_fits hfc hkC hkind (Or.inr hlay) hi hdd hnw hft
    exact W.putFinK q1 q2 q5 (q6 _ hlk) hi hst hcf (q9.trans hinit) (by rw [g2]; exact h6) g1 g3 (by rw [hsl]; exact k2_hasslot (g4 k0 hk)) rfl rfl hd fin
/-! arrays -/
theorem pz_one {G : pz_G} {B : Nat} {H : Heap} {a : Nat} {e : pz_E} (hR : pz_R G B h H) (ha : h.2 a = some e) : va_P G.1 pz_cl [(a, pz_e G e)] H := fun j q hj => by
  cases j with
  | zero => cases hj; exact (hR.2.2 a _ ha).2
  | succ j => simp at hj
theorem pz_iald {a n : Nat} {f : Nat → Int32} {i : Int32} (hp : pc + 1 = pc') (hd : decode M.2.1 pc = .ok (.iaload, 1)) (ha : h.2 a = some (aI n f)) (hin : vp_in i n) (k : pz_V M Ex Q d bc bs pc' lv (.int (f i.toNatClampNeg) :: st) h) : pz_V M Ex Q d bc bs pc lv (.int i :: .ref a :: st) h := by
  subst hp
  intro p l e R s m args below meth c G B H locs cells slots ls Z C E hR hS hl hc hs hZ
  exact va_iald C.1 C.2.1 C.2.2.2.2.2.2.2.2.2.1 (pz_one hR ha) 0 0 rfl rfl hin hd (k p l e R s m args below meth c G B H locs cells slots ls Z C E hR hS hl hc hs hZ)
theorem pz_lald {a n : Nat} {f : Nat → Int64} {i : Int32} (hp : pc + 1 = pc') (hd : decode M.2.1 pc = .ok (.laload, 1)) (ha : h.2 a = some (aJ n f)) (hin : vp_in i n) (k : pz_V M Ex Q d bc bs pc' lv (.long (f i.toNatClampNeg) :: st) h) : pz_V M Ex Q d bc bs pc lv (.int i :: .ref a :: st) h := by
  subst hp
  intro p l e R s m args below meth c G B H locs cells slots ls Z C E hR hS hl hc hs hZ
  exact va_lald C.1 C.2.1 C.2.2.2.2.2.2.2.2.2.1 (pz_one hR ha) 0 1 rfl rfl hin hd (k p l e R s m args below meth c G B H locs cells slots ls Z C E hR hS hl hc hs hZ)
theorem pz_bald {a n : Nat} {f : Nat → Int32} {i : Int32} (hp : pc + 1 = pc') (hd : decode M.2.1 pc = .ok (.baload, 1)) (ha : h.2 a = some (aB n f)) (hin : vp_in i n) (k : pz_V M Ex Q d bc bs pc' lv (.int (f i.toNatClampNeg) :: st) h) : pz_V M Ex Q d bc bs pc lv (.int i :: .ref a :: st) h := by
  subst hp
  intro p l e R s m args below meth c G B H locs cells slots ls Z C E hR hS hl hc hs hZ
  exact va_bald C.1 C.2.1 C.2.2.2.2.2.2.2.2.2.1 (pz_one hR ha) 0 2 rfl rfl hin hd (k p l e R s m args below meth c G B H locs cells slots ls Z C E hR hS hl hc hs hZ)
theorem pz_zald {a n : Nat} {f : Nat → Int32} {i : Int32} (hp : pc + 1 = pc') (hd : decode M.2.1 pc = .ok (.baload, 1)) (ha : h.2 a = some (aZ n f)) (hin : vp_in i n) (k : pz_V M Ex Q d bc bs pc' lv (.int (f i.toNatClampNeg) :: st) h) : pz_V M Ex Q d bc bs pc lv (.int i :: .ref a :: st) h := by
  subst hp
  intro p l e R s m args below meth c G B H locs cells slots ls Z C E hR hS hl hc hs hZ
  exact va_zald C.1 C.2.1 C.2.2.2.2.2.2.2.2.2.1 (pz_one hR ha) 0 4 rfl rfl hin hd (k p l e R s m args below meth c G B H locs cells slots ls Z C E hR hS hl hc hs hZ)
theorem pz_aald {a n q : Nat} {f : Nat → Option Nat} {i : Int32} (hp : pc + 1 = pc') (hd : decode M.2.1 pc = .ok (.aaload, 1)) (ha : h.2 a = some (aW n f)) (hin : vp_in i n) (hq : f i.toNatClampNeg = some q) (k : pz_V M Ex Q d bc bs pc' lv (.ref q :: st) h) : pz_V M Ex Q d bc bs pc lv (.int i :: .ref a :: st) h := by
  subst hp
  intro p l e R s m args below meth c G B H locs cells slots ls Z C E hR hS hl hc hs hZ
  exact va_aldq C.1 C.2.1 C.2.2.2.2.2.2.2.2.2.1 (pz_one hR ha) 0 3 rfl rfl hin hd (by rw [hq]; exact k p l e R s m args below meth c G B H locs cells slots ls Z C E hR hS hl hc hs hZ)
theorem pz_alenI {a n : Nat} {f : Nat → Int32} (hp : pc + 1 = pc') (hd : decode M.2.1 pc = .ok (.arraylength, 1)) (ha : h.2 a = some (aI n f)) (k : pz_V M Ex Q d bc bs pc' lv (.int (Int32.ofNat n) :: st) h) : pz_V M Ex Q d bc bs pc lv (.ref a :: st) h := by
  subst hp
  intro p l e R s m args below meth c G B H locs cells slots ls Z C E hR hS hl hc hs hZ
  exact va_alen C.1 C.2.1 C.2.2.2.2.2.2.2.2.2.1 (pz_one hR ha) 0 0 rfl rfl rfl hd (k p l e R s m args below meth c G B H locs cells slots ls Z C E hR hS hl hc hs hZ)
theorem pz_alenJ {a n : Nat} {f : Nat → Int64} (hp : pc + 1 = pc') (hd : decode M.2.1 pc = .ok (.arraylength, 1)) (ha : h.2 a = some (aJ n f)) (k : pz_V M Ex Q d bc bs pc' lv (.int (Int32.ofNat n) :: st) h) : pz_V M Ex Q d bc bs pc lv (.ref a :: st) h := by
  subst hp
  intro p l e R s m args below meth c G B H locs cells slots ls Z C E hR hS hl hc hs hZ
  exact va_alen C.1 C.2.1 C.2.2.2.2.2.2.2.2.2.1 (pz_one hR ha) 0 1 rfl rfl rfl hd (k p l e R s m args below meth c G B H locs cells slots ls Z C E hR hS hl hc hs hZ)
theorem pz_iast {a n : Nat} {f : Nat → Int32} {i x : Int32} (hp : pc + 1 = pc') (hd : decode M.2.1 pc = .ok (.iastore, 1)) (ha : h.2 a = some (aI n f)) (hin : vp_in i n) (k : pz_V M Ex Q d bc bs pc' lv st (pz_put h a (aI n (upd f i.toNatClampNeg x)))) : pz_V M Ex Q d bc bs pc lv (.int x :: .int i :: .ref a :: st) h := by
  subst hp
  intro p l e R s m args below meth c G B H locs cells slots ls Z C E hR hS hl hc hs hZ
  obtain ⟨hBa, hat⟩ := hR.2.2 a _ ha
  refine W.iast C.1 C.2.1 hat ((C.2.2.2.2.2.2.2.2.2.1.2 0 _ rfl).1 n (fun j => .int (f j))) (fun q => by cases q) (by show ¬ (i < 0 ∨ (arrV _ _ _).slots.size ≤ _); rw [arrV_size]; exact hin) rfl rfl hd fun H1 e1 z oq => ?_
  refine k p l e R s m args below meth c G B H1 _ cells slots ls Z C E (hR.put hBa ?_ z oq) (hS.put z oq hBa) hl hc hs hZ
  show H1[a]? = some (vp_cell _ _)
  rw [e1]
  show some ((vp_cell _ _).setSlot _ _) = _
  rw [vp_cell_i, vp_cell_i, arrV_store]
  congr 2
  funext q
  by_cases hq : q = i.toNatClampNeg
  · subst hq
    simp [updV, upd]
  · simp [updV, upd, hq]
theorem pz_bast {a n : Nat} {f : Nat → Int32} {i x : Int32} (hp : pc + 1 = pc') (hd : decode M.2.1 pc = .ok (.bastore, 1)) (ha : h.2 a = some (aB n f)) (hin : vp_in i n) (k : pz_V M Ex Q d bc bs pc' lv st (pz_put h a (aB n (upd f i.toNatClampNeg (vp_nar .byte x))))) : pz_V M Ex Q d bc bs pc lv (.int x :: .int i :: .ref a :: st) h := by
  subst hp
  intro p l e R s m args below meth c G B H locs cells slots ls Z C E hR hS hl hc hs hZ
  obtain ⟨hBa, hat⟩ := hR.2.2 a _ ha
  refine W.bast C.1 C.2.1 hat ((C.2.2.2.2.2.2.2.2.2.1.2 2 _ rfl).1 n (fun j => .int (f j))) (fun q => by cases q) (by show ¬ (i < 0 ∨ (arrV _ _ _).slots.size ≤ _); rw [arrV_size]; exact hin) rfl rfl hd fun H1 e1 z oq => ?_
  refine k p l e R s m args below meth c G B H1 _ cells slots ls Z C E (hR.put hBa ?_ z oq) (hS.put z oq hBa) hl hc hs hZ
  show H1[a]? = some (vp_cell _ _)
  rw [e1]
  show some ((vp_cell _ _).setSlot _ _) = _
  rw [vp_cell_i, vp_cell_i, arrV_store]
  congr 2
  funext q
  by_cases hq : q = i.toNatClampNeg
  · subst hq
    simp [updV, upd, vp_nar]
    try rfl
  · simp [updV, upd, hq]
theorem pz_zast {a n : Nat} {f : Nat → Int32} {i x : Int32} (hp : pc + 1 = pc') (hd : decode M.2.1 pc = .ok (.bastore, 1)) (ha : h.2 a = some (aZ n f)) (hin : vp_in i n) (k : pz_V M Ex Q d bc bs pc' lv st (pz_put h a (aZ n (upd f i.toNatClampNeg (vp_nar .boolean x))))) : pz_V M Ex Q d bc bs pc lv (.int x :: .int i :: .ref a :: st) h := by
  subst hp
  intro p l e R s m args below meth c G B H locs cells slots ls Z C E hR hS hl hc hs hZ
  obtain ⟨hBa, hat⟩ := hR.2.2 a _ ha
  refine W.zast C.1 C.2.1 hat ((C.2.2.2.2.2.2.2.2.2.1.2 4 _ rfl).1 n (fun j => .int (f j))) (fun q => by cases q) (by show ¬ (i < 0 ∨ (arrV _ _ _).slots.size ≤ _); rw [arrV_size]; exact hin) rfl rfl hd fun H1 e1 z oq => ?_
  refine k p l e R s m args below meth c G B H1 _ cells slots ls Z C E (hR.put hBa ?_ z oq) (hS.put z oq hBa) hl hc hs hZ
  show H1[a]? = some (vp_cell _ _)
  rw [e1]
  show some ((vp_cell _ _).setSlot _ _) = _
  rw [vp_cell_i, vp_cell_i, arrV_store]
  congr 2
  funext q
  by_cases hq : q = i.toNatClampNeg
  · subst hq
    simp [updV, upd, vp_nar]
    try rfl
  · simp [updV, upd, hq]
theorem pz_last {a n : Nat} {f : Nat → Int64} {i : Int32} {x : Int64} (hp : pc + 1 = pc') (hd : decode M.2.1 pc = .ok (.lastore, 1)) (ha : h.2 a = some (aJ n f)) (hin : vp_in i n) (k : pz_V M Ex Q d bc bs pc' lv st (pz_put h a (aJ n (vp_updL f i.toNatClampNeg x)))) : pz_V M Ex Q d bc bs pc lv (.long x :: .int i :: .ref a :: st) h := by
  subst hp
  intro p l e R s m args below meth c G B H locs cells slots ls Z C E hR hS hl hc hs hZ
  obtain ⟨hBa, hat⟩ := hR.2.2 a _ ha
  refine W.last C.1 C.2.1 hat ((C.2.2.2.2.2.2.2.2.2.1.2 1 _ rfl).1 n (fun j => .long (f j))) (fun q => by cases q) (by show ¬ (i < 0 ∨ (arrV _ _ _).slots.size ≤ _); rw [arrV_size]; exact hin) rfl rfl hd fun H1 e1 z oq => ?_
  refine k p l e R s m args below meth c G B H1 _ cells slots ls Z C E (hR.put hBa ?_ z oq) (hS.put z oq hBa) hl hc hs hZ
  show H1[a]? = some (vp_cell _ _)
  rw [e1]
  show some ((vp_cell _ _).setSlot _ _) = _
  rw [vp_cell_l, vp_cell_l, arrV_store]
  congr 2
  funext q
  by_cases hq : q = i.toNatClampNeg
  · subst hq
    simp [updV, vp_updL]
  · simp [updV, vp_updL, hq]
theorem pz_aast {a n v : Nat} {f : Nat → Option Nat} {i : Int32} {vs : List Value} (hp : pc + 1 = pc') (hd : decode M.2.1 pc = .ok (.aastore, 1)) (ha : h.2 a = some (aW n f)) (hin : vp_in i n) (hv : h.2 v = some (aO 8 vs)) (k : pz_V M Ex Q d bc bs pc' lv st (pz_put h a (aW n (va_up f i.toNatClampNeg (some v))))) : pz_V M Ex Q d bc bs pc lv (.ref v :: .int i :: .ref a :: st) h := by
  subst hp
  intro p l e R s m args below meth c G B H locs cells slots ls Z C E hR hS hl hc hs hZ
  obtain ⟨hBa, hat⟩ := hR.2.2 a _ ha
  have hK := C.2.2.2.2.2.2.2.2.2.1
  have hlt : i.toNatClampNeg < n := Nat.not_le.mp fun q => hin (Or.inr q)
  have h0 : ¬ i < 0 := fun q => hin (Or.inl q)
  obtain ⟨-, r', hr', cellV, g1, g2, g3, -⟩ := hR.2.2 v _ hv
  have hcls := (hK.1 8 (RX8, TX8, 9) rfl).2
  obtain ⟨kA, comp, k1, k2, k3, -⟩ := (hK.2 3 _ rfl).2
  have hcomp : comp = G.1.1 8 := Option.some.inj (k3.symm.trans hcls.1)
  subst hcomp
  obtain ⟨kC, hkC, -⟩ := hcls.2
  refine W.aast C.1 C.2.1 hat (fun q h => by cases h) (fun h => by cases h) k1 k2 rfl hkC ⟨h0, by show _ < (arrV _ _ _).slots.size; rw [arrV_size]; exact hlt⟩ g1 (fun q h => by rw [g3] at h; cases h) (by rw [g2]; exact hkC) (by rw [g2]; exact va_assign hcls) rfl rfl hd fun H1 e1 z oq => ?_
  refine k p l e R s m args below meth c G B H1 _ cells slots ls Z C E (hR.put hBa ?_ z oq) (hS.put z oq hBa) hl hc hs hZ
  show H1[a]? = some (vp_cell _ _)
  rw [e1]
  show some ((vp_cell _ _).setSlot _ _) = _
  rw [vp_cell_q, vp_cell_q, arrV_store]
  congr 2
  funext q
  by_cases hq : q = i.toNatClampNeg
  · subst hq
    simp [updV, va_up, va_rf]
  · simp [updV, va_up, hq]
end PZ
