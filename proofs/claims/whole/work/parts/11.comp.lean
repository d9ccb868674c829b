/-! ===== components of the heap: predicates and rows ===== -/
section CMP
variable {h h' : pz_H} {a ci k : Nat} {fs : List Value}
theorem gI_eq {x : Int32} (ha : h.2 a = some (aO ci fs)) (hv : fs[k]? = some (.int x)) {K : Int32 → Prop} : pz_gI h a ci k K ↔ K x := by
  constructor
  · rintro ⟨fs', x', h1, h2, h3⟩
    rw [ha] at h1
    cases h1
    rw [hv] at h2
    cases h2
    exact h3
  · exact fun h3 => ⟨fs, x, ha, hv, h3⟩
theorem gL_eq {x : Int64} (ha : h.2 a = some (aO ci fs)) (hv : fs[k]? = some (.long x)) {K : Int64 → Prop} : pz_gL h a ci k K ↔ K x := by
  constructor
  · rintro ⟨fs', x', h1, h2, h3⟩
    rw [ha] at h1
    cases h1
    rw [hv] at h2
    cases h2
    exact h3
  · exact fun h3 => ⟨fs, x, ha, hv, h3⟩
theorem gR_eq {x : Nat} (ha : h.2 a = some (aO ci fs)) (hv : fs[k]? = some (.ref x)) {K : Nat → Prop} : pz_gR h a ci k K ↔ K x := by
  constructor
  · rintro ⟨fs', x', h1, h2, h3⟩
    rw [ha] at h1
    cases h1
    rw [hv] at h2
    cases h2
    exact h3
  · exact fun h3 => ⟨fs, x, ha, hv, h3⟩
theorem va_rf_inj {o o' : Option Nat} (h : va_rf o = va_rf o') : o = o' := by
  cases o <;> cases o' <;> simp [va_rf] at h <;> simp [h]
theorem gQ_eq {x : Option Nat} (ha : h.2 a = some (aO ci fs)) (hv : fs[k]? = some (va_rf x)) {K : Option Nat → Prop} : pz_gQ h a ci k K ↔ K x := by
  constructor
  · rintro ⟨fs', x', h1, h2, h3⟩
    rw [ha] at h1
    cases h1
    rw [hv] at h2
    have h4 := va_rf_inj (Option.some.inj h2)
    subst h4
    exact h3
  · exact fun h3 => ⟨fs, x, ha, hv, h3⟩
theorem pF_eq {v : Value} (ha : h.2 a = some (aO ci fs)) (hk : k < fs.length) {K : pz_H → Prop} : pz_pF h a ci k v K ↔ K (pz_put h a (aO ci (fs.set k v))) := by
  constructor
  · rintro ⟨fs', h1, h2, h3⟩
    rw [ha] at h1
    cases h1
    exact h3
  · exact fun h3 => ⟨fs, ha, hk, h3⟩
theorem is_eq (ha : h.2 a = some (aO ci fs)) : pz_is h a ci ↔ True := ⟨fun _ => trivial, fun _ => ⟨fs, ha⟩⟩
theorem rI_eq {n : Nat} {f : Nat → Int32} (ha : h.2 a = some (aI n f)) {i : Int32} {K : Int32 → Prop} : pz_rI h a i K ↔ vp_in i n ∧ K (f i.toNatClampNeg) := by
  constructor
  · rintro ⟨n', f', h1, h2, h3⟩
    rw [ha] at h1
    cases h1
    exact ⟨h2, h3⟩
  · exact fun h3 => ⟨n, f, ha, h3.1, h3.2⟩
theorem rJ_eq {n : Nat} {f : Nat → Int64} (ha : h.2 a = some (aJ n f)) {i : Int32} {K : Int64 → Prop} : pz_rJ h a i K ↔ vp_in i n ∧ K (f i.toNatClampNeg) := by
  constructor
  · rintro ⟨n', f', h1, h2, h3⟩
    rw [ha] at h1
    cases h1
    exact ⟨h2, h3⟩
  · exact fun h3 => ⟨n, f, ha, h3.1, h3.2⟩
theorem rB_eq {n : Nat} {f : Nat → Int32} (ha : h.2 a = some (aB n f)) {i : Int32} {K : Int32 → Prop} : pz_rB h a i K ↔ vp_in i n ∧ K (f i.toNatClampNeg) := by
  constructor
  · rintro ⟨n', f', h1, h2, h3⟩
    rw [ha] at h1
    cases h1
    exact ⟨h2, h3⟩
  · exact fun h3 => ⟨n, f, ha, h3.1, h3.2⟩
theorem rZ_eq {n : Nat} {f : Nat → Int32} (ha : h.2 a = some (aZ n f)) {i : Int32} {K : Int32 → Prop} : pz_rZ h a i K ↔ vp_in i n ∧ K (f i.toNatClampNeg) := by
  constructor
  · rintro ⟨n', f', h1, h2, h3⟩
    rw [ha] at h1
    cases h1
    exact ⟨h2, h3⟩
  · exact fun h3 => ⟨n, f, ha, h3.1, h3.2⟩
theorem sI_eq {n : Nat} {f : Nat → Int32} (ha : h.2 a = some (aI n f)) {i x : Int32} {K : pz_H → Prop} : pz_sI h a i x K ↔ vp_in i n ∧ K (pz_put h a (aI n (upd f i.toNatClampNeg x))) := by
  constructor
  · rintro ⟨n', f', h1, h2, h3⟩
    rw [ha] at h1
    cases h1
    exact ⟨h2, h3⟩
  · exact fun h3 => ⟨n, f, ha, h3.1, h3.2⟩
theorem sJ_eq {n : Nat} {f : Nat → Int64} (ha : h.2 a = some (aJ n f)) {i : Int32} {x : Int64} {K : pz_H → Prop} : pz_sJ h a i x K ↔ vp_in i n ∧ K (pz_put h a (aJ n (vp_updL f i.toNatClampNeg x))) := by
  constructor
  · rintro ⟨n', f', h1, h2, h3⟩
    rw [ha] at h1
    cases h1
    exact ⟨h2, h3⟩
  · exact fun h3 => ⟨n, f, ha, h3.1, h3.2⟩
theorem sB_eq {n : Nat} {f : Nat → Int32} (ha : h.2 a = some (aB n f)) {i x : Int32} {K : pz_H → Prop} : pz_sB h a i x K ↔ vp_in i n ∧ K (pz_put h a (aB n (upd f i.toNatClampNeg (vp_nar .byte x)))) := by
  constructor
  · rintro ⟨n', f', h1, h2, h3⟩
    rw [ha] at h1
    cases h1
    exact ⟨h2, h3⟩
  · exact fun h3 => ⟨n, f, ha, h3.1, h3.2⟩
theorem sZ_eq {n : Nat} {f : Nat → Int32} (ha : h.2 a = some (aZ n f)) {i x : Int32} {K : pz_H → Prop} : pz_sZ h a i x K ↔ vp_in i n ∧ K (pz_put h a (aZ n (upd f i.toNatClampNeg (vp_nar .boolean x)))) := by
  constructor
  · rintro ⟨n', f', h1, h2, h3⟩
    rw [ha] at h1
    cases h1
    exact ⟨h2, h3⟩
  · exact fun h3 => ⟨n, f, ha, h3.1, h3.2⟩
theorem lI_eq {n : Nat} {f : Nat → Int32} (ha : h.2 a = some (aI n f)) {K : Int32 → Prop} : pz_lI h a K ↔ K (nI n) := by
  constructor
  · rintro ⟨n', f', h1, h3⟩
    rw [ha] at h1
    cases h1
    exact h3
  · exact fun h3 => ⟨n, f, ha, h3⟩
theorem lJ_eq {n : Nat} {f : Nat → Int64} (ha : h.2 a = some (aJ n f)) {K : Int32 → Prop} : pz_lJ h a K ↔ K (nI n) := by
  constructor
  · rintro ⟨n', f', h1, h3⟩
    rw [ha] at h1
    cases h1
    exact h3
  · exact fun h3 => ⟨n, f, ha, h3⟩
theorem put_at (h : pz_H) (a : Nat) (e : pz_E) : (pz_put h a e).2 a = some e := pz_set_eq _ _ _
theorem put_ne {b : Nat} {e : pz_E} (hb : b ≠ a) : (pz_put h a e).2 b = h.2 b := pz_set_ne hb
theorem put_1 (h : pz_H) (a : Nat) (e : pz_E) : (pz_put h a e).1 = h.1 := rfl
/-- nothing changed but at the addresses of the list -/
def Fr (l : List Nat) (h h' : pz_H) : Prop := h'.1 = h.1 ∧ ∀ b, b ∉ l → h'.2 b = h.2 b
theorem Fr.rf {l : List Nat} : Fr l h h := ⟨rfl, fun _ _ => rfl⟩
theorem Fr.put {l : List Nat} {b : Nat} {e : pz_E} (hf : Fr l h h') (hb : b ∈ l) : Fr l h (pz_put h' b e) := ⟨hf.1, fun c hc => by
  rw [put_ne (fun e => hc (by rw [e]; exact hb))]
  exact hf.2 c hc⟩
theorem Fr.tr {l1 l2 : List Nat} {h'' : pz_H} (h1 : Fr l1 h h') (h2 : Fr l2 h' h'') (hs : ∀ b ∈ l2, b ∈ l1) : Fr l1 h h'' := ⟨h2.1.trans h1.1, fun b hb => (h2.2 b (fun q => hb (hs b q))).trans (h1.2 b hb)⟩
theorem Fr.mono {l1 l2 : List Nat} (h1 : Fr l1 h h') (hs : ∀ b ∈ l1, b ∈ l2) : Fr l2 h h' := ⟨h1.1, fun b hb => h1.2 b (fun q => hb (hs b q))⟩
end CMP
def Txt (h : pz_H) (a : Nat) (sg : Nat → Int32) (len : Nat) : Prop := h.2 a = some (aO 6 [.ref (a + 1), .int (nI len)]) ∧ h.2 (a + 1) = some (aI 80 sg)
theorem Txt.g0 {h : pz_H} {a : Nat} {sg : Nat → Int32} {len : Nat} (H : Txt h a sg len) {K : Nat → Prop} : pz_gR h a 6 0 K ↔ K (a + 1) := gR_eq H.1 rfl
theorem Txt.g1 {h : pz_H} {a : Nat} {sg : Nat → Int32} {len : Nat} (H : Txt h a sg len) {K : Int32 → Prop} : pz_gI h a 6 1 K ↔ K (nI len) := gI_eq H.1 rfl
theorem Txt.p1 {h : pz_H} {a : Nat} {sg : Nat → Int32} {len : Nat} (H : Txt h a sg len) {v : Int32} {K : pz_H → Prop} : pz_pF h a 6 1 (.int v) K ↔ K (pz_put h a (aO 6 [.ref (a + 1), .int v])) := pF_eq H.1 (Nat.le_of_ble_eq_true rfl)
theorem Txt.u1 {h : pz_H} {a : Nat} {sg : Nat → Int32} {len : Nat} (H : Txt h a sg len) (v : Nat) : Txt (pz_put h a (aO 6 [.ref (a + 1), .int (nI v)])) a sg v := ⟨put_at _ _ _, (put_ne (by omega)).trans H.2⟩
theorem Txt.i {h : pz_H} {a : Nat} {sg : Nat → Int32} {len : Nat} (H : Txt h a sg len) : pz_is h a 6 ↔ True := is_eq H.1
theorem Txt.r0 {h : pz_H} {a : Nat} {sg : Nat → Int32} {len : Nat} (H : Txt h a sg len) {i : Int32} {K : Int32 → Prop} : pz_rI h (a + 1) i K ↔ vp_in i 80 ∧ K (sg i.toNatClampNeg) := rI_eq H.2
theorem Txt.s0 {h : pz_H} {a : Nat} {sg : Nat → Int32} {len : Nat} (H : Txt h a sg len) {i : Int32} {x : Int32} {K : pz_H → Prop} : pz_sI h (a + 1) i x K ↔ vp_in i 80 ∧ K (pz_put h (a + 1) (aI 80 (upd sg i.toNatClampNeg x))) := sI_eq H.2
theorem Txt.l0 {h : pz_H} {a : Nat} {sg : Nat → Int32} {len : Nat} (H : Txt h a sg len) {K : Int32 → Prop} : pz_lI h (a + 1) K ↔ K (nI 80) := lI_eq H.2
theorem Txt.v0 {h : pz_H} {a : Nat} {sg : Nat → Int32} {len : Nat} (H : Txt h a sg len) (g' : Nat → Int32) : Txt (pz_put h (a + 1) (aI 80 g')) a g' len := ⟨(put_ne (by omega)).trans H.1, put_at _ _ _⟩
theorem Txt.mv {h h' : pz_H} {a : Nat} {sg : Nat → Int32} {len : Nat} (H : Txt h a sg len) (hf : ∀ b, a ≤ b → b < a + 2 → h'.2 b = h.2 b) : Txt h' a sg len := ⟨(hf a (by omega) (by omega)).trans H.1, (hf (a + 1) (by omega) (by omega)).trans H.2⟩
theorem Txt.pt {h : pz_H} {a : Nat} {sg : Nat → Int32} {len : Nat} (H : Txt h a sg len) {b : Nat} {e : pz_E} (hb : b < a ∨ a + 2 ≤ b) : Txt (pz_put h b e) a sg len := H.mv (fun c h1 h2 => put_ne (by omega))
theorem Txt.fr {h h' : pz_H} {a : Nat} {sg : Nat → Int32} {len : Nat} {l : List Nat} (H : Txt h a sg len) (hf : Fr l h h') (hl : ∀ b ∈ l, b < a ∨ a + 2 ≤ b) : Txt h' a sg len := H.mv (fun c h1 h2 => hf.2 c (fun q => by have := hl c q; omega))
def Row (h : pz_H) (a : Nat) (nu : Nat → Int64) (len : Nat) : Prop := h.2 a = some (aO 4 [.ref (a + 1), .int (nI len)]) ∧ h.2 (a + 1) = some (aJ 6 nu)
theorem Row.g0 {h : pz_H} {a : Nat} {nu : Nat → Int64} {len : Nat} (H : Row h a nu len) {K : Nat → Prop} : pz_gR h a 4 0 K ↔ K (a + 1) := gR_eq H.1 rfl
theorem Row.g1 {h : pz_H} {a : Nat} {nu : Nat → Int64} {len : Nat} (H : Row h a nu len) {K : Int32 → Prop} : pz_gI h a 4 1 K ↔ K (nI len) := gI_eq H.1 rfl
theorem Row.p1 {h : pz_H} {a : Nat} {nu : Nat → Int64} {len : Nat} (H : Row h a nu len) {v : Int32} {K : pz_H → Prop} : pz_pF h a 4 1 (.int v) K ↔ K (pz_put h a (aO 4 [.ref (a + 1), .int v])) := pF_eq H.1 (Nat.le_of_ble_eq_true rfl)
theorem Row.u1 {h : pz_H} {a : Nat} {nu : Nat → Int64} {len : Nat} (H : Row h a nu len) (v : Nat) : Row (pz_put h a (aO 4 [.ref (a + 1), .int (nI v)])) a nu v := ⟨put_at _ _ _, (put_ne (by omega)).trans H.2⟩
theorem Row.i {h : pz_H} {a : Nat} {nu : Nat → Int64} {len : Nat} (H : Row h a nu len) : pz_is h a 4 ↔ True := is_eq H.1
theorem Row.r0 {h : pz_H} {a : Nat} {nu : Nat → Int64} {len : Nat} (H : Row h a nu len) {i : Int32} {K : Int64 → Prop} : pz_rJ h (a + 1) i K ↔ vp_in i 6 ∧ K (nu i.toNatClampNeg) := rJ_eq H.2
theorem Row.s0 {h : pz_H} {a : Nat} {nu : Nat → Int64} {len : Nat} (H : Row h a nu len) {i : Int32} {x : Int64} {K : pz_H → Prop} : pz_sJ h (a + 1) i x K ↔ vp_in i 6 ∧ K (pz_put h (a + 1) (aJ 6 (vp_updL nu i.toNatClampNeg x))) := sJ_eq H.2
theorem Row.l0 {h : pz_H} {a : Nat} {nu : Nat → Int64} {len : Nat} (H : Row h a nu len) {K : Int32 → Prop} : pz_lJ h (a + 1) K ↔ K (nI 6) := lJ_eq H.2
theorem Row.v0 {h : pz_H} {a : Nat} {nu : Nat → Int64} {len : Nat} (H : Row h a nu len) (g' : Nat → Int64) : Row (pz_put h (a + 1) (aJ 6 g')) a g' len := ⟨(put_ne (by omega)).trans H.1, put_at _ _ _⟩
theorem Row.mv {h h' : pz_H} {a : Nat} {nu : Nat → Int64} {len : Nat} (H : Row h a nu len) (hf : ∀ b, a ≤ b → b < a + 2 → h'.2 b = h.2 b) : Row h' a nu len := ⟨(hf a (by omega) (by omega)).trans H.1, (hf (a + 1) (by omega) (by omega)).trans H.2⟩
theorem Row.pt {h : pz_H} {a : Nat} {nu : Nat → Int64} {len : Nat} (H : Row h a nu len) {b : Nat} {e : pz_E} (hb : b < a ∨ a + 2 ≤ b) : Row (pz_put h b e) a nu len := H.mv (fun c h1 h2 => put_ne (by omega))
theorem Row.fr {h h' : pz_H} {a : Nat} {nu : Nat → Int64} {len : Nat} {l : List Nat} (H : Row h a nu len) (hf : Fr l h h') (hl : ∀ b ∈ l, b < a ∨ a + 2 ≤ b) : Row h' a nu len := H.mv (fun c h1 h2 => hf.2 c (fun q => by have := hl c q; omega))
def Lnd (h : pz_H) (a : Nat) (br : Nat → Int32) (dn : Nat → Int32) (ru : Nat → Int32) (nx : Nat → Int32) (n : Nat) : Prop := h.2 a = some (aO 1 [.ref (a + 1), .ref (a + 2), .ref (a + 3), .ref (a + 4), .int (nI n)]) ∧ h.2 (a + 1) = some (aI 6 br) ∧ h.2 (a + 2) = some (aI 6 dn) ∧ h.2 (a + 3) = some (aI 6 ru) ∧ h.2 (a + 4) = some (aI 6 nx)
theorem Lnd.g0 {h : pz_H} {a : Nat} {br : Nat → Int32} {dn : Nat → Int32} {ru : Nat → Int32} {nx : Nat → Int32} {n : Nat} (H : Lnd h a br dn ru nx n) {K : Nat → Prop} : pz_gR h a 1 0 K ↔ K (a + 1) := gR_eq H.1 rfl
theorem Lnd.g1 {h : pz_H} {a : Nat} {br : Nat → Int32} {dn : Nat → Int32} {ru : Nat → Int32} {nx : Nat → Int32} {n : Nat} (H : Lnd h a br dn ru nx n) {K : Nat → Prop} : pz_gR h a 1 1 K ↔ K (a + 2) := gR_eq H.1 rfl
theorem Lnd.g2 {h : pz_H} {a : Nat} {br : Nat → Int32} {dn : Nat → Int32} {ru : Nat → Int32} {nx : Nat → Int32} {n : Nat} (H : Lnd h a br dn ru nx n) {K : Nat → Prop} : pz_gR h a 1 2 K ↔ K (a + 3) := gR_eq H.1 rfl
theorem Lnd.g3 {h : pz_H} {a : Nat} {br : Nat → Int32} {dn : Nat → Int32} {ru : Nat → Int32} {nx : Nat → Int32} {n : Nat} (H : Lnd h a br dn ru nx n) {K : Nat → Prop} : pz_gR h a 1 3 K ↔ K (a + 4) := gR_eq H.1 rfl
theorem Lnd.g4 {h : pz_H} {a : Nat} {br : Nat → Int32} {dn : Nat → Int32} {ru : Nat → Int32} {nx : Nat → Int32} {n : Nat} (H : Lnd h a br dn ru nx n) {K : Int32 → Prop} : pz_gI h a 1 4 K ↔ K (nI n) := gI_eq H.1 rfl
theorem Lnd.p4 {h : pz_H} {a : Nat} {br : Nat → Int32} {dn : Nat → Int32} {ru : Nat → Int32} {nx : Nat → Int32} {n : Nat} (H : Lnd h a br dn ru nx n) {v : Int32} {K : pz_H → Prop} : pz_pF h a 1 4 (.int v) K ↔ K (pz_put h a (aO 1 [.ref (a + 1), .ref (a + 2), .ref (a + 3), .ref (a + 4), .int v])) := pF_eq H.1 (Nat.le_of_ble_eq_true rfl)
theorem Lnd.u4 {h : pz_H} {a : Nat} {br : Nat → Int32} {dn : Nat → Int32} {ru : Nat → Int32} {nx : Nat → Int32} {n : Nat} (H : Lnd h a br dn ru nx n) (v : Nat) : Lnd (pz_put h a (aO 1 [.ref (a + 1), .ref (a + 2), .ref (a + 3), .ref (a + 4), .int (nI v)])) a br dn ru nx v := ⟨put_at _ _ _, (put_ne (by omega)).trans H.2.1, (put_ne (by omega)).trans H.2.2.1, (put_ne (by omega)).trans H.2.2.2.1, (put_ne (by omega)).trans H.2.2.2.2⟩
theorem Lnd.i {h : pz_H} {a : Nat} {br : Nat → Int32} {dn : Nat → Int32} {ru : Nat → Int32} {nx : Nat → Int32} {n : Nat} (H : Lnd h a br dn ru nx n) : pz_is h a 1 ↔ True := is_eq H.1
theorem Lnd.r0 {h : pz_H} {a : Nat} {br : Nat → Int32} {dn : Nat → Int32} {ru : Nat → Int32} {nx : Nat → Int32} {n : Nat} (H : Lnd h a br dn ru nx n) {i : Int32} {K : Int32 → Prop} : pz_rI h (a + 1) i K ↔ vp_in i 6 ∧ K (br i.toNatClampNeg) := rI_eq H.2.1
theorem Lnd.s0 {h : pz_H} {a : Nat} {br : Nat → Int32} {dn : Nat → Int32} {ru : Nat → Int32} {nx : Nat → Int32} {n : Nat} (H : Lnd h a br dn ru nx n) {i : Int32} {x : Int32} {K : pz_H → Prop} : pz_sI h (a + 1) i x K ↔ vp_in i 6 ∧ K (pz_put h (a + 1) (aI 6 (upd br i.toNatClampNeg x))) := sI_eq H.2.1
theorem Lnd.l0 {h : pz_H} {a : Nat} {br : Nat → Int32} {dn : Nat → Int32} {ru : Nat → Int32} {nx : Nat → Int32} {n : Nat} (H : Lnd h a br dn ru nx n) {K : Int32 → Prop} : pz_lI h (a + 1) K ↔ K (nI 6) := lI_eq H.2.1
theorem Lnd.v0 {h : pz_H} {a : Nat} {br : Nat → Int32} {dn : Nat → Int32} {ru : Nat → Int32} {nx : Nat → Int32} {n : Nat} (H : Lnd h a br dn ru nx n) (g' : Nat → Int32) : Lnd (pz_put h (a + 1) (aI 6 g')) a g' dn ru nx n := ⟨(put_ne (by omega)).trans H.1, put_at _ _ _, (put_ne (by omega)).trans H.2.2.1, (put_ne (by omega)).trans H.2.2.2.1, (put_ne (by omega)).trans H.2.2.2.2⟩
theorem Lnd.r1 {h : pz_H} {a : Nat} {br : Nat → Int32} {dn : Nat → Int32} {ru : Nat → Int32} {nx : Nat → Int32} {n : Nat} (H : Lnd h a br dn ru nx n) {i : Int32} {K : Int32 → Prop} : pz_rI h (a + 2) i K ↔ vp_in i 6 ∧ K (dn i.toNatClampNeg) := rI_eq H.2.2.1
theorem Lnd.s1 {h : pz_H} {a : Nat} {br : Nat → Int32} {dn : Nat → Int32} {ru : Nat → Int32} {nx : Nat → Int32} {n : Nat} (H : Lnd h a br dn ru nx n) {i : Int32} {x : Int32} {K : pz_H → Prop} : pz_sI h (a + 2) i x K ↔ vp_in i 6 ∧ K (pz_put h (a + 2) (aI 6 (upd dn i.toNatClampNeg x))) := sI_eq H.2.2.1
theorem Lnd.l1 {h : pz_H} {a : Nat} {br : Nat → Int32} {dn : Nat → Int32} {ru : Nat → Int32} {nx : Nat → Int32} {n : Nat} (H : Lnd h a br dn ru nx n) {K : Int32 → Prop} : pz_lI h (a + 2) K ↔ K (nI 6) := lI_eq H.2.2.1
theorem Lnd.v1 {h : pz_H} {a : Nat} {br : Nat → Int32} {dn : Nat → Int32} {ru : Nat → Int32} {nx : Nat → Int32} {n : Nat} (H : Lnd h a br dn ru nx n) (g' : Nat → Int32) : Lnd (pz_put h (a + 2) (aI 6 g')) a br g' ru nx n := ⟨(put_ne (by omega)).trans H.1, (put_ne (by omega)).trans H.2.1, put_at _ _ _, (put_ne (by omega)).trans H.2.2.2.1, (put_ne (by omega)).trans H.2.2.2.2⟩
theorem Lnd.r2 {h : pz_H} {a : Nat} {br : Nat → Int32} {dn : Nat → Int32} {ru : Nat → Int32} {nx : Nat → Int32} {n : Nat} (H : Lnd h a br dn ru nx n) {i : Int32} {K : Int32 → Prop} : pz_rI h (a + 3) i K ↔ vp_in i 6 ∧ K (ru i.toNatClampNeg) := rI_eq H.2.2.2.1
theorem Lnd.s2 {h : pz_H} {a : Nat} {br : Nat → Int32} {dn : Nat → Int32} {ru : Nat → Int32} {nx : Nat → Int32} {n : Nat} (H : Lnd h a br dn ru nx n) {i : Int32} {x : Int32} {K : pz_H → Prop} : pz_sI h (a + 3) i x K ↔ vp_in i 6 ∧ K (pz_put h (a + 3) (aI 6 (upd ru i.toNatClampNeg x))) := sI_eq H.2.2.2.1
theorem Lnd.l2 {h : pz_H} {a : Nat} {br : Nat → Int32} {dn : Nat → Int32} {ru : Nat → Int32} {nx : Nat → Int32} {n : Nat} (H : Lnd h a br dn ru nx n) {K : Int32 → Prop} : pz_lI h (a + 3) K ↔ K (nI 6) := lI_eq H.2.2.2.1
theorem Lnd.v2 {h : pz_H} {a : Nat} {br : Nat → Int32} {dn : Nat → Int32} {ru : Nat → Int32} {nx : Nat → Int32} {n : Nat} (H : Lnd h a br dn ru nx n) (g' : Nat → Int32) : Lnd (pz_put h (a + 3) (aI 6 g')) a br dn g' nx n := ⟨(put_ne (by omega)).trans H.1, (put_ne (by omega)).trans H.2.1, (put_ne (by omega)).trans H.2.2.1, put_at _ _ _, (put_ne (by omega)).trans H.2.2.2.2⟩
theorem Lnd.r3 {h : pz_H} {a : Nat} {br : Nat → Int32} {dn : Nat → Int32} {ru : Nat → Int32} {nx : Nat → Int32} {n : Nat} (H : Lnd h a br dn ru nx n) {i : Int32} {K : Int32 → Prop} : pz_rI h (a + 4) i K ↔ vp_in i 6 ∧ K (nx i.toNatClampNeg) := rI_eq H.2.2.2.2
theorem Lnd.s3 {h : pz_H} {a : Nat} {br : Nat → Int32} {dn : Nat → Int32} {ru : Nat → Int32} {nx : Nat → Int32} {n : Nat} (H : Lnd h a br dn ru nx n) {i : Int32} {x : Int32} {K : pz_H → Prop} : pz_sI h (a + 4) i x K ↔ vp_in i 6 ∧ K (pz_put h (a + 4) (aI 6 (upd nx i.toNatClampNeg x))) := sI_eq H.2.2.2.2
theorem Lnd.l3 {h : pz_H} {a : Nat} {br : Nat → Int32} {dn : Nat → Int32} {ru : Nat → Int32} {nx : Nat → Int32} {n : Nat} (H : Lnd h a br dn ru nx n) {K : Int32 → Prop} : pz_lI h (a + 4) K ↔ K (nI 6) := lI_eq H.2.2.2.2
theorem Lnd.v3 {h : pz_H} {a : Nat} {br : Nat → Int32} {dn : Nat → Int32} {ru : Nat → Int32} {nx : Nat → Int32} {n : Nat} (H : Lnd h a br dn ru nx n) (g' : Nat → Int32) : Lnd (pz_put h (a + 4) (aI 6 g')) a br dn ru g' n := ⟨(put_ne (by omega)).trans H.1, (put_ne (by omega)).trans H.2.1, (put_ne (by omega)).trans H.2.2.1, (put_ne (by omega)).trans H.2.2.2.1, put_at _ _ _⟩
theorem Lnd.mv {h h' : pz_H} {a : Nat} {br : Nat → Int32} {dn : Nat → Int32} {ru : Nat → Int32} {nx : Nat → Int32} {n : Nat} (H : Lnd h a br dn ru nx n) (hf : ∀ b, a ≤ b → b < a + 5 → h'.2 b = h.2 b) : Lnd h' a br dn ru nx n := ⟨(hf a (by omega) (by omega)).trans H.1, (hf (a + 1) (by omega) (by omega)).trans H.2.1, (hf (a + 2) (by omega) (by omega)).trans H.2.2.1, (hf (a + 3) (by omega) (by omega)).trans H.2.2.2.1, (hf (a + 4) (by omega) (by omega)).trans H.2.2.2.2⟩
theorem Lnd.pt {h : pz_H} {a : Nat} {br : Nat → Int32} {dn : Nat → Int32} {ru : Nat → Int32} {nx : Nat → Int32} {n : Nat} (H : Lnd h a br dn ru nx n) {b : Nat} {e : pz_E} (hb : b < a ∨ a + 5 ≤ b) : Lnd (pz_put h b e) a br dn ru nx n := H.mv (fun c h1 h2 => put_ne (by omega))
theorem Lnd.fr {h h' : pz_H} {a : Nat} {br : Nat → Int32} {dn : Nat → Int32} {ru : Nat → Int32} {nx : Nat → Int32} {n : Nat} {l : List Nat} (H : Lnd h a br dn ru nx n) (hf : Fr l h h') (hl : ∀ b ∈ l, b < a ∨ a + 5 ≤ b) : Lnd h' a br dn ru nx n := H.mv (fun c h1 h2 => hf.2 c (fun q => by have := hl c q; omega))
def Wat (h : pz_H) (a : Nat) (lv : Nat → Int32) (hr : Nat → Int32) (tp : Nat → Int32) (lk : Nat → Int32) (kg : Nat → Int32) (ou : Nat) (dy : Int32) (sp : Int32) (dr : Int32) : Prop := h.2 a = some (aO 8 [.ref (a + 1), .ref (a + 2), .ref (a + 3), .ref (a + 4), .ref (a + 5), .int (nI ou), .int dy, .int sp, .int dr]) ∧ h.2 (a + 1) = some (aI 6 lv) ∧ h.2 (a + 2) = some (aI 6 hr) ∧ h.2 (a + 3) = some (aI 6 tp) ∧ h.2 (a + 4) = some (aI 6 lk) ∧ h.2 (a + 5) = some (aI 6 kg)
theorem Wat.g0 {h : pz_H} {a : Nat} {lv : Nat → Int32} {hr : Nat → Int32} {tp : Nat → Int32} {lk : Nat → Int32} {kg : Nat → Int32} {ou : Nat} {dy : Int32} {sp : Int32} {dr : Int32} (H : Wat h a lv hr tp lk kg ou dy sp dr) {K : Nat → Prop} : pz_gR h a 8 0 K ↔ K (a + 1) := gR_eq H.1 rfl
theorem Wat.g1 {h : pz_H} {a : Nat} {lv : Nat → Int32} {hr : Nat → Int32} {tp : Nat → Int32} {lk : Nat → Int32} {kg : Nat → Int32} {ou : Nat} {dy : Int32} {sp : Int32} {dr : Int32} (H : Wat h a lv hr tp lk kg ou dy sp dr) {K : Nat → Prop} : pz_gR h a 8 1 K ↔ K (a + 2) := gR_eq H.1 rfl
theorem Wat.g2 {h : pz_H} {a : Nat} {lv : Nat → Int32} {hr : Nat → Int32} {tp : Nat → Int32} {lk : Nat → Int32} {kg : Nat → Int32} {ou : Nat} {dy : Int32} {sp : Int32} {dr : Int32} (H : Wat h a lv hr tp lk kg ou dy sp dr) {K : Nat → Prop} : pz_gR h a 8 2 K ↔ K (a + 3) := gR_eq H.1 rfl
theorem Wat.g3 {h : pz_H} {a : Nat} {lv : Nat → Int32} {hr : Nat → Int32} {tp : Nat → Int32} {lk : Nat → Int32} {kg : Nat → Int32} {ou : Nat} {dy : Int32} {sp : Int32} {dr : Int32} (H : Wat h a lv hr tp lk kg ou dy sp dr) {K : Nat → Prop} : pz_gR h a 8 3 K ↔ K (a + 4) := gR_eq H.1 rfl
theorem Wat.g4 {h : pz_H} {a : Nat} {lv : Nat → Int32} {hr : Nat → Int32} {tp : Nat → Int32} {lk : Nat → Int32} {kg : Nat → Int32} {ou : Nat} {dy : Int32} {sp : Int32} {dr : Int32} (H : Wat h a lv hr tp lk kg ou dy sp dr) {K : Nat → Prop} : pz_gR h a 8 4 K ↔ K (a + 5) := gR_eq H.1 rfl
theorem Wat.g5 {h : pz_H} {a : Nat} {lv : Nat → Int32} {hr : Nat → Int32} {tp : Nat → Int32} {lk : Nat → Int32} {kg : Nat → Int32} {ou : Nat} {dy : Int32} {sp : Int32} {dr : Int32} (H : Wat h a lv hr tp lk kg ou dy sp dr) {K : Int32 → Prop} : pz_gI h a 8 5 K ↔ K (nI ou) := gI_eq H.1 rfl
theorem Wat.p5 {h : pz_H} {a : Nat} {lv : Nat → Int32} {hr : Nat → Int32} {tp : Nat → Int32} {lk : Nat → Int32} {kg : Nat → Int32} {ou : Nat} {dy : Int32} {sp : Int32} {dr : Int32} (H : Wat h a lv hr tp lk kg ou dy sp dr) {v : Int32} {K : pz_H → Prop} : pz_pF h a 8 5 (.int v) K ↔ K (pz_put h a (aO 8 [.ref (a + 1), .ref (a + 2), .ref (a + 3), .ref (a + 4), .ref (a + 5), .int v, .int dy, .int sp, .int dr])) := pF_eq H.1 (Nat.le_of_ble_eq_true rfl)
theorem Wat.u5 {h : pz_H} {a : Nat} {lv : Nat → Int32} {hr : Nat → Int32} {tp : Nat → Int32} {lk : Nat → Int32} {kg : Nat → Int32} {ou : Nat} {dy : Int32} {sp : Int32} {dr : Int32} (H : Wat h a lv hr tp lk kg ou dy sp dr) (v : Nat) : Wat (pz_put h a (aO 8 [.ref (a + 1), .ref (a + 2), .ref (a + 3), .ref (a + 4), .ref (a + 5), .int (nI v), .int dy, .int sp, .int dr])) a lv hr tp lk kg v dy sp dr := ⟨put_at _ _ _, (put_ne (by omega)).trans H.2.1, (put_ne (by omega)).trans H.2.2.1, (put_ne (by omega)).trans H.2.2.2.1, (put_ne (by omega)).trans H.2.2.2.2.1, (put_ne (by omega)).trans H.2.2.2.2.2⟩
theorem Wat.g6 {h : pz_H} {a : Nat} {lv : Nat → Int32} {hr : Nat → Int32} {tp : Nat → Int32} {lk : Nat → Int32} {kg : Nat → Int32} {ou : Nat} {dy : Int32} {sp : Int32} {dr : Int32} (H : Wat h a lv hr tp lk kg ou dy sp dr) {K : Int32 → Prop} : pz_gI h a 8 6 K ↔ K dy := gI_eq H.1 rfl
theorem Wat.p6 {h : pz_H} {a : Nat} {lv : Nat → Int32} {hr : Nat → Int32} {tp : Nat → Int32} {lk : Nat → Int32} {kg : Nat → Int32} {ou : Nat} {dy : Int32} {sp : Int32} {dr : Int32} (H : Wat h a lv hr tp lk kg ou dy sp dr) {v : Int32} {K : pz_H → Prop} : pz_pF h a 8 6 (.int v) K ↔ K (pz_put h a (aO 8 [.ref (a + 1), .ref (a + 2), .ref (a + 3), .ref (a + 4), .ref (a + 5), .int (nI ou), .int v, .int sp, .int dr])) := pF_eq H.1 (Nat.le_of_ble_eq_true rfl)
theorem Wat.u6 {h : pz_H} {a : Nat} {lv : Nat → Int32} {hr : Nat → Int32} {tp : Nat → Int32} {lk : Nat → Int32} {kg : Nat → Int32} {ou : Nat} {dy : Int32} {sp : Int32} {dr : Int32} (H : Wat h a lv hr tp lk kg ou dy sp dr) (v : Int32) : Wat (pz_put h a (aO 8 [.ref (a + 1), .ref (a + 2), .ref (a + 3), .ref (a + 4), .ref (a + 5), .int (nI ou), .int v, .int sp, .int dr])) a lv hr tp lk kg ou v sp dr := ⟨put_at _ _ _, (put_ne (by omega)).trans H.2.1, (put_ne (by omega)).trans H.2.2.1, (put_ne (by omega)).trans H.2.2.2.1, (put_ne (by omega)).trans H.2.2.2.2.1, (put_ne (by omega)).trans H.2.2.2.2.2⟩
theorem Wat.g7 {h : pz_H} {a : Nat} {lv : Nat → Int32} {hr : Nat → Int32} {tp : Nat → Int32} {lk : Nat → Int32} {kg : Nat → Int32} {ou : Nat} {dy : Int32} {sp : Int32} {dr : Int32} (H : Wat h a lv hr tp lk kg ou dy sp dr) {K : Int32 → Prop} : pz_gI h a 8 7 K ↔ K sp := gI_eq H.1 rfl
theorem Wat.p7 {h : pz_H} {a : Nat} {lv : Nat → Int32} {hr : Nat → Int32} {tp : Nat → Int32} {lk : Nat → Int32} {kg : Nat → Int32} {ou : Nat} {dy : Int32} {sp : Int32} {dr : Int32} (H : Wat h a lv hr tp lk kg ou dy sp dr) {v : Int32} {K : pz_H → Prop} : pz_pF h a 8 7 (.int v) K ↔ K (pz_put h a (aO 8 [.ref (a + 1), .ref (a + 2), .ref (a + 3), .ref (a + 4), .ref (a + 5), .int (nI ou), .int dy, .int v, .int dr])) := pF_eq H.1 (Nat.le_of_ble_eq_true rfl)
theorem Wat.u7 {h : pz_H} {a : Nat} {lv : Nat → Int32} {hr : Nat → Int32} {tp : Nat → Int32} {lk : Nat → Int32} {kg : Nat → Int32} {ou : Nat} {dy : Int32} {sp : Int32} {dr : Int32} (H : Wat h a lv hr tp lk kg ou dy sp dr) (v : Int32) : Wat (pz_put h a (aO 8 [.ref (a + 1), .ref (a + 2), .ref (a + 3), .ref (a + 4), .ref (a + 5), .int (nI ou), .int dy, .int v, .int dr])) a lv hr tp lk kg ou dy v dr := ⟨put_at _ _ _, (put_ne (by omega)).trans H.2.1, (put_ne (by omega)).trans H.2.2.1, (put_ne (by omega)).trans H.2.2.2.1, (put_ne (by omega)).trans H.2.2.2.2.1, (put_ne (by omega)).trans H.2.2.2.2.2⟩
theorem Wat.g8 {h : pz_H} {a : Nat} {lv : Nat → Int32} {hr : Nat → Int32} {tp : Nat → Int32} {lk : Nat → Int32} {kg : Nat → Int32} {ou : Nat} {dy : Int32} {sp : Int32} {dr : Int32} (H : Wat h a lv hr tp lk kg ou dy sp dr) {K : Int32 → Prop} : pz_gI h a 8 8 K ↔ K dr := gI_eq H.1 rfl
theorem Wat.p8 {h : pz_H} {a : Nat} {lv : Nat → Int32} {hr : Nat → Int32} {tp : Nat → Int32} {lk : Nat → Int32} {kg : Nat → Int32} {ou : Nat} {dy : Int32} {sp : Int32} {dr : Int32} (H : Wat h a lv hr tp lk kg ou dy sp dr) {v : Int32} {K : pz_H → Prop} : pz_pF h a 8 8 (.int v) K ↔ K (pz_put h a (aO 8 [.ref (a + 1), .ref (a + 2), .ref (a + 3), .ref (a + 4), .ref (a + 5), .int (nI ou), .int dy, .int sp, .int v])) := pF_eq H.1 (Nat.le_of_ble_eq_true rfl)
theorem Wat.u8 {h : pz_H} {a : Nat} {lv : Nat → Int32} {hr : Nat → Int32} {tp : Nat → Int32} {lk : Nat → Int32} {kg : Nat → Int32} {ou : Nat} {dy : Int32} {sp : Int32} {dr : Int32} (H : Wat h a lv hr tp lk kg ou dy sp dr) (v : Int32) : Wat (pz_put h a (aO 8 [.ref (a + 1), .ref (a + 2), .ref (a + 3), .ref (a + 4), .ref (a + 5), .int (nI ou), .int dy, .int sp, .int v])) a lv hr tp lk kg ou dy sp v := ⟨put_at _ _ _, (put_ne (by omega)).trans H.2.1, (put_ne (by omega)).trans H.2.2.1, (put_ne (by omega)).trans H.2.2.2.1, (put_ne (by omega)).trans H.2.2.2.2.1, (put_ne (by omega)).trans H.2.2.2.2.2⟩
theorem Wat.i {h : pz_H} {a : Nat} {lv : Nat → Int32} {hr : Nat → Int32} {tp : Nat → Int32} {lk : Nat → Int32} {kg : Nat → Int32} {ou : Nat} {dy : Int32} {sp : Int32} {dr : Int32} (H : Wat h a lv hr tp lk kg ou dy sp dr) : pz_is h a 8 ↔ True := is_eq H.1
theorem Wat.r0 {h : pz_H} {a : Nat} {lv : Nat → Int32} {hr : Nat → Int32} {tp : Nat → Int32} {lk : Nat → Int32} {kg : Nat → Int32} {ou : Nat} {dy : Int32} {sp : Int32} {dr : Int32} (H : Wat h a lv hr tp lk kg ou dy sp dr) {i : Int32} {K : Int32 → Prop} : pz_rI h (a + 1) i K ↔ vp_in i 6 ∧ K (lv i.toNatClampNeg) := rI_eq H.2.1
theorem Wat.s0 {h : pz_H} {a : Nat} {lv : Nat → Int32} {hr : Nat → Int32} {tp : Nat → Int32} {lk : Nat → Int32} {kg : Nat → Int32} {ou : Nat} {dy : Int32} {sp : Int32} {dr : Int32} (H : Wat h a lv hr tp lk kg ou dy sp dr) {i : Int32} {x : Int32} {K : pz_H → Prop} : pz_sI h (a + 1) i x K ↔ vp_in i 6 ∧ K (pz_put h (a + 1) (aI 6 (upd lv i.toNatClampNeg x))) := sI_eq H.2.1
theorem Wat.l0 {h : pz_H} {a : Nat} {lv : Nat → Int32} {hr : Nat → Int32} {tp : Nat → Int32} {lk : Nat → Int32} {kg : Nat → Int32} {ou : Nat} {dy : Int32} {sp : Int32} {dr : Int32} (H : Wat h a lv hr tp lk kg ou dy sp dr) {K : Int32 → Prop} : pz_lI h (a + 1) K ↔ K (nI 6) := lI_eq H.2.1
theorem Wat.v0 {h : pz_H} {a : Nat} {lv : Nat → Int32} {hr : Nat → Int32} {tp : Nat → Int32} {lk : Nat → Int32} {kg : Nat → Int32} {ou : Nat} {dy : Int32} {sp : Int32} {dr : Int32} (H : Wat h a lv hr tp lk kg ou dy sp dr) (g' : Nat → Int32) : Wat (pz_put h (a + 1) (aI 6 g')) a g' hr tp lk kg ou dy sp dr := ⟨(put_ne (by omega)).trans H.1, put_at _ _ _, (put_ne (by omega)).trans H.2.2.1, (put_ne (by omega)).trans H.2.2.2.1, (put_ne (by omega)).trans H.2.2.2.2.1, (put_ne (by omega)).trans H.2.2.2.2.2⟩
theorem Wat.r1 {h : pz_H} {a : Nat} {lv : Nat → Int32} {hr : Nat → Int32} {tp : Nat → Int32} {lk : Nat → Int32} {kg : Nat → Int32} {ou : Nat} {dy : Int32} {sp : Int32} {dr : Int32} (H : Wat h a lv hr tp lk kg ou dy sp dr) {i : Int32} {K : Int32 → Prop} : pz_rI h (a + 2) i K ↔ vp_in i 6 ∧ K (hr i.toNatClampNeg) := rI_eq H.2.2.1
theorem Wat.s1 {h : pz_H} {a : Nat} {lv : Nat → Int32} {hr : Nat → Int32} {tp : Nat → Int32} {lk : Nat → Int32} {kg : Nat → Int32} {ou : Nat} {dy : Int32} {sp : Int32} {dr : Int32} (H : Wat h a lv hr tp lk kg ou dy sp dr) {i : Int32} {x : Int32} {K : pz_H → Prop} : pz_sI h (a + 2) i x K ↔ vp_in i 6 ∧ K (pz_put h (a + 2) (aI 6 (upd hr i.toNatClampNeg x))) := sI_eq H.2.2.1
theorem Wat.l1 {h : pz_H} {a : Nat} {lv : Nat → Int32} {hr : Nat → Int32} {tp : Nat → Int32} {lk : Nat → Int32} {kg : Nat → Int32} {ou : Nat} {dy : Int32} {sp : Int32} {dr : Int32} (H : Wat h a lv hr tp lk kg ou dy sp dr) {K : Int32 → Prop} : pz_lI h (a + 2) K ↔ K (nI 6) := lI_eq H.2.2.1
theorem Wat.v1 {h : pz_H} {a : Nat} {lv : Nat → Int32} {hr : Nat → Int32} {tp : Nat → Int32} {lk : Nat → Int32} {kg : Nat → Int32} {ou : Nat} {dy : Int32} {sp : Int32} {dr : Int32} (H : Wat h a lv hr tp lk kg ou dy sp dr) (g' : Nat → Int32) : Wat (pz_put h (a + 2) (aI 6 g')) a lv g' tp lk kg ou dy sp dr := ⟨(put_ne (by omega)).trans H.1, (put_ne (by omega)).trans H.2.1, put_at _ _ _, (put_ne (by omega)).trans H.2.2.2.1, (put_ne (by omega)).trans H.2.2.2.2.1, (put_ne (by omega)).trans H.2.2.2.2.2⟩
theorem Wat.r2 {h : pz_H} {a : Nat} {lv : Nat → Int32} {hr : Nat → Int32} {tp : Nat → Int32} {lk : Nat → Int32} {kg : Nat → Int32} {ou : Nat} {dy : Int32} {sp : Int32} {dr : Int32} (H : Wat h a lv hr tp lk kg ou dy sp dr) {i : Int32} {K : Int32 → Prop} : pz_rI h (a + 3) i K ↔ vp_in i 6 ∧ K (tp i.toNatClampNeg) := rI_eq H.2.2.2.1
theorem Wat.s2 {h : pz_H} {a : Nat} {lv : Nat → Int32} {hr : Nat → Int32} {tp : Nat → Int32} {lk : Nat → Int32} {kg : Nat → Int32} {ou : Nat} {dy : Int32} {sp : Int32} {dr : Int32} (H : Wat h a lv hr tp lk kg ou dy sp dr) {i : Int32} {x : Int32} {K : pz_H → Prop} : pz_sI h (a + 3) i x K ↔ vp_in i 6 ∧ K (pz_put h (a + 3) (aI 6 (upd tp i.toNatClampNeg x))) := sI_eq H.2.2.2.1
theorem Wat.l2 {h : pz_H} {a : Nat} {lv : Nat → Int32} {hr : Nat → Int32} {tp : Nat → Int32} {lk : Nat → Int32} {kg : Nat → Int32} {ou : Nat} {dy : Int32} {sp : Int32} {dr : Int32} (H : Wat h a lv hr tp lk kg ou dy sp dr) {K : Int32 → Prop} : pz_lI h (a + 3) K ↔ K (nI 6) := lI_eq H.2.2.2.1
theorem Wat.v2 {h : pz_H} {a : Nat} {lv : Nat → Int32} {hr : Nat → Int32} {tp : Nat → Int32} {lk : Nat → Int32} {kg : Nat → Int32} {ou : Nat} {dy : Int32} {sp : Int32} {dr : Int32} (H : Wat h a lv hr tp lk kg ou dy sp dr) (g' : Nat → Int32) : Wat (pz_put h (a + 3) (aI 6 g')) a lv hr g' lk kg ou dy sp dr := ⟨(put_ne (by omega)).trans H.1, (put_ne (by omega)).trans H.2.1, (put_ne (by omega)).trans H.2.2.1, put_at _ _ _, (put_ne (by omega)).trans H.2.2.2.2.1, (put_ne (by omega)).trans H.2.2.2.2.2⟩
theorem Wat.r3 {h : pz_H} {a : Nat} {lv : Nat → Int32} {hr : Nat → Int32} {tp : Nat → Int32} {lk : Nat → Int32} {kg : Nat → Int32} {ou : Nat} {dy : Int32} {sp : Int32} {dr : Int32} (H : Wat h a lv hr tp lk kg ou dy sp dr) {i : Int32} {K : Int32 → Prop} : pz_rI h (a + 4) i K ↔ vp_in i 6 ∧ K (lk i.toNatClampNeg) := rI_eq H.2.2.2.2.1
theorem Wat.s3 {h : pz_H} {a : Nat} {lv : Nat → Int32} {hr : Nat → Int32} {tp : Nat → Int32} {lk : Nat → Int32} {kg : Nat → Int32} {ou : Nat} {dy : Int32} {sp : Int32} {dr : Int32} (H : Wat h a lv hr tp lk kg ou dy sp dr) {i : Int32} {x : Int32} {K : pz_H → Prop} : pz_sI h (a + 4) i x K ↔ vp_in i 6 ∧ K (pz_put h (a + 4) (aI 6 (upd lk i.toNatClampNeg x))) := sI_eq H.2.2.2.2.1
theorem Wat.l3 {h : pz_H} {a : Nat} {lv : Nat → Int32} {hr : Nat → Int32} {tp : Nat → Int32} {lk : Nat → Int32} {kg : Nat → Int32} {ou : Nat} {dy : Int32} {sp : Int32} {dr : Int32} (H : Wat h a lv hr tp lk kg ou dy sp dr) {K : Int32 → Prop} : pz_lI h (a + 4) K ↔ K (nI 6) := lI_eq H.2.2.2.2.1
theorem Wat.v3 {h : pz_H} {a : Nat} {lv : Nat → Int32} {hr : Nat → Int32} {tp : Nat → Int32} {lk : Nat → Int32} {kg : Nat → Int32} {ou : Nat} {dy : Int32} {sp : Int32} {dr : Int32} (H : Wat h a lv hr tp lk kg ou dy sp dr) (g' : Nat → Int32) : Wat (pz_put h (a + 4) (aI 6 g')) a lv hr tp g' kg ou dy sp dr := ⟨(put_ne (by omega)).trans H.1, (put_ne (by omega)).trans H.2.1, (put_ne (by omega)).trans H.2.2.1, (put_ne (by omega)).trans H.2.2.2.1, put_at _ _ _, (put_ne (by omega)).trans H.2.2.2.2.2⟩
theorem Wat.r4 {h : pz_H} {a : Nat} {lv : Nat → Int32} {hr : Nat → Int32} {tp : Nat → Int32} {lk : Nat → Int32} {kg : Nat → Int32} {ou : Nat} {dy : Int32} {sp : Int32} {dr : Int32} (H : Wat h a lv hr tp lk kg ou dy sp dr) {i : Int32} {K : Int32 → Prop} : pz_rI h (a + 5) i K ↔ vp_in i 6 ∧ K (kg i.toNatClampNeg) := rI_eq H.2.2.2.2.2
theorem Wat.s4 {h : pz_H} {a : Nat} {lv : Nat → Int32} {hr : Nat → Int32} {tp : Nat → Int32} {lk : Nat → Int32} {kg : Nat → Int32} {ou : Nat} {dy : Int32} {sp : Int32} {dr : Int32} (H : Wat h a lv hr tp lk kg ou dy sp dr) {i : Int32} {x : Int32} {K : pz_H → Prop} : pz_sI h (a + 5) i x K ↔ vp_in i 6 ∧ K (pz_put h (a + 5) (aI 6 (upd kg i.toNatClampNeg x))) := sI_eq H.2.2.2.2.2
theorem Wat.l4 {h : pz_H} {a : Nat} {lv : Nat → Int32} {hr : Nat → Int32} {tp : Nat → Int32} {lk : Nat → Int32} {kg : Nat → Int32} {ou : Nat} {dy : Int32} {sp : Int32} {dr : Int32} (H : Wat h a lv hr tp lk kg ou dy sp dr) {K : Int32 → Prop} : pz_lI h (a + 5) K ↔ K (nI 6) := lI_eq H.2.2.2.2.2
theorem Wat.v4 {h : pz_H} {a : Nat} {lv : Nat → Int32} {hr : Nat → Int32} {tp : Nat → Int32} {lk : Nat → Int32} {kg : Nat → Int32} {ou : Nat} {dy : Int32} {sp : Int32} {dr : Int32} (H : Wat h a lv hr tp lk kg ou dy sp dr) (g' : Nat → Int32) : Wat (pz_put h (a + 5) (aI 6 g')) a lv hr tp lk g' ou dy sp dr := ⟨(put_ne (by omega)).trans H.1, (put_ne (by omega)).trans H.2.1, (put_ne (by omega)).trans H.2.2.1, (put_ne (by omega)).trans H.2.2.2.1, (put_ne (by omega)).trans H.2.2.2.2.1, put_at _ _ _⟩
theorem Wat.mv {h h' : pz_H} {a : Nat} {lv : Nat → Int32} {hr : Nat → Int32} {tp : Nat → Int32} {lk : Nat → Int32} {kg : Nat → Int32} {ou : Nat} {dy : Int32} {sp : Int32} {dr : Int32} (H : Wat h a lv hr tp lk kg ou dy sp dr) (hf : ∀ b, a ≤ b → b < a + 6 → h'.2 b = h.2 b) : Wat h' a lv hr tp lk kg ou dy sp dr := ⟨(hf a (by omega) (by omega)).trans H.1, (hf (a + 1) (by omega) (by omega)).trans H.2.1, (hf (a + 2) (by omega) (by omega)).trans H.2.2.1, (hf (a + 3) (by omega) (by omega)).trans H.2.2.2.1, (hf (a + 4) (by omega) (by omega)).trans H.2.2.2.2.1, (hf (a + 5) (by omega) (by omega)).trans H.2.2.2.2.2⟩
theorem Wat.pt {h : pz_H} {a : Nat} {lv : Nat → Int32} {hr : Nat → Int32} {tp : Nat → Int32} {lk : Nat → Int32} {kg : Nat → Int32} {ou : Nat} {dy : Int32} {sp : Int32} {dr : Int32} (H : Wat h a lv hr tp lk kg ou dy sp dr) {b : Nat} {e : pz_E} (hb : b < a ∨ a + 6 ≤ b) : Wat (pz_put h b e) a lv hr tp lk kg ou dy sp dr := H.mv (fun c h1 h2 => put_ne (by omega))
theorem Wat.fr {h h' : pz_H} {a : Nat} {lv : Nat → Int32} {hr : Nat → Int32} {tp : Nat → Int32} {lk : Nat → Int32} {kg : Nat → Int32} {ou : Nat} {dy : Int32} {sp : Int32} {dr : Int32} {l : List Nat} (H : Wat h a lv hr tp lk kg ou dy sp dr) (hf : Fr l h h') (hl : ∀ b ∈ l, b < a ∨ a + 6 ≤ b) : Wat h' a lv hr tp lk kg ou dy sp dr := H.mv (fun c h1 h2 => hf.2 c (fun q => by have := hl c q; omega))
def Rng (h : pz_H) (a : Nat) (la : Nat → Int32) (da : Nat → Int32) (le : Nat → Int32) (len : Nat) : Prop := h.2 a = some (aO 3 [.ref (a + 1), .ref (a + 2), .ref (a + 3), .int (nI len)]) ∧ h.2 (a + 1) = some (aI 10 la) ∧ h.2 (a + 2) = some (aI 10 da) ∧ h.2 (a + 3) = some (aI 10 le)
theorem Rng.g0 {h : pz_H} {a : Nat} {la : Nat → Int32} {da : Nat → Int32} {le : Nat → Int32} {len : Nat} (H : Rng h a la da le len) {K : Nat → Prop} : pz_gR h a 3 0 K ↔ K (a + 1) := gR_eq H.1 rfl
theorem Rng.g1 {h : pz_H} {a : Nat} {la : Nat → Int32} {da : Nat → Int32} {le : Nat → Int32} {len : Nat} (H : Rng h a la da le len) {K : Nat → Prop} : pz_gR h a 3 1 K ↔ K (a + 2) := gR_eq H.1 rfl
theorem Rng.g2 {h : pz_H} {a : Nat} {la : Nat → Int32} {da : Nat → Int32} {le : Nat → Int32} {len : Nat} (H : Rng h a la da le len) {K : Nat → Prop} : pz_gR h a 3 2 K ↔ K (a + 3) := gR_eq H.1 rfl
theorem Rng.g3 {h : pz_H} {a : Nat} {la : Nat → Int32} {da : Nat → Int32} {le : Nat → Int32} {len : Nat} (H : Rng h a la da le len) {K : Int32 → Prop} : pz_gI h a 3 3 K ↔ K (nI len) := gI_eq H.1 rfl
theorem Rng.p3 {h : pz_H} {a : Nat} {la : Nat → Int32} {da : Nat → Int32} {le : Nat → Int32} {len : Nat} (H : Rng h a la da le len) {v : Int32} {K : pz_H → Prop} : pz_pF h a 3 3 (.int v) K ↔ K (pz_put h a (aO 3 [.ref (a + 1), .ref (a + 2), .ref (a + 3), .int v])) := pF_eq H.1 (Nat.le_of_ble_eq_true rfl)
theorem Rng.u3 {h : pz_H} {a : Nat} {la : Nat → Int32} {da : Nat → Int32} {le : Nat → Int32} {len : Nat} (H : Rng h a la da le len) (v : Nat) : Rng (pz_put h a (aO 3 [.ref (a + 1), .ref (a + 2), .ref (a + 3), .int (nI v)])) a la da le v := ⟨put_at _ _ _, (put_ne (by omega)).trans H.2.1, (put_ne (by omega)).trans H.2.2.1, (put_ne (by omega)).trans H.2.2.2⟩
theorem Rng.i {h : pz_H} {a : Nat} {la : Nat → Int32} {da : Nat → Int32} {le : Nat → Int32} {len : Nat} (H : Rng h a la da le len) : pz_is h a 3 ↔ True := is_eq H.1
theorem Rng.r0 {h : pz_H} {a : Nat} {la : Nat → Int32} {da : Nat → Int32} {le : Nat → Int32} {len : Nat} (H : Rng h a la da le len) {i : Int32} {K : Int32 → Prop} : pz_rI h (a + 1) i K ↔ vp_in i 10 ∧ K (la i.toNatClampNeg) := rI_eq H.2.1
theorem Rng.s0 {h : pz_H} {a : Nat} {la : Nat → Int32} {da : Nat → Int32} {le : Nat → Int32} {len : Nat} (H : Rng h a la da le len) {i : Int32} {x : Int32} {K : pz_H → Prop} : pz_sI h (a + 1) i x K ↔ vp_in i 10 ∧ K (pz_put h (a + 1) (aI 10 (upd la i.toNatClampNeg x))) := sI_eq H.2.1
theorem Rng.l0 {h : pz_H} {a : Nat} {la : Nat → Int32} {da : Nat → Int32} {le : Nat → Int32} {len : Nat} (H : Rng h a la da le len) {K : Int32 → Prop} : pz_lI h (a + 1) K ↔ K (nI 10) := lI_eq H.2.1
theorem Rng.v0 {h : pz_H} {a : Nat} {la : Nat → Int32} {da : Nat → Int32} {le : Nat → Int32} {len : Nat} (H : Rng h a la da le len) (g' : Nat → Int32) : Rng (pz_put h (a + 1) (aI 10 g')) a g' da le len := ⟨(put_ne (by omega)).trans H.1, put_at _ _ _, (put_ne (by omega)).trans H.2.2.1, (put_ne (by omega)).trans H.2.2.2⟩
theorem Rng.r1 {h : pz_H} {a : Nat} {la : Nat → Int32} {da : Nat → Int32} {le : Nat → Int32} {len : Nat} (H : Rng h a la da le len) {i : Int32} {K : Int32 → Prop} : pz_rI h (a + 2) i K ↔ vp_in i 10 ∧ K (da i.toNatClampNeg) := rI_eq H.2.2.1
theorem Rng.s1 {h : pz_H} {a : Nat} {la : Nat → Int32} {da : Nat → Int32} {le : Nat → Int32} {len : Nat} (H : Rng h a la da le len) {i : Int32} {x : Int32} {K : pz_H → Prop} : pz_sI h (a + 2) i x K ↔ vp_in i 10 ∧ K (pz_put h (a + 2) (aI 10 (upd da i.toNatClampNeg x))) := sI_eq H.2.2.1
theorem Rng.l1 {h : pz_H} {a : Nat} {la : Nat → Int32} {da : Nat → Int32} {le : Nat → Int32} {len : Nat} (H : Rng h a la da le len) {K : Int32 → Prop} : pz_lI h (a + 2) K ↔ K (nI 10) := lI_eq H.2.2.1
theorem Rng.v1 {h : pz_H} {a : Nat} {la : Nat → Int32} {da : Nat → Int32} {le : Nat → Int32} {len : Nat} (H : Rng h a la da le len) (g' : Nat → Int32) : Rng (pz_put h (a + 2) (aI 10 g')) a la g' le len := ⟨(put_ne (by omega)).trans H.1, (put_ne (by omega)).trans H.2.1, put_at _ _ _, (put_ne (by omega)).trans H.2.2.2⟩
theorem Rng.r2 {h : pz_H} {a : Nat} {la : Nat → Int32} {da : Nat → Int32} {le : Nat → Int32} {len : Nat} (H : Rng h a la da le len) {i : Int32} {K : Int32 → Prop} : pz_rI h (a + 3) i K ↔ vp_in i 10 ∧ K (le i.toNatClampNeg) := rI_eq H.2.2.2
theorem Rng.s2 {h : pz_H} {a : Nat} {la : Nat → Int32} {da : Nat → Int32} {le : Nat → Int32} {len : Nat} (H : Rng h a la da le len) {i : Int32} {x : Int32} {K : pz_H → Prop} : pz_sI h (a + 3) i x K ↔ vp_in i 10 ∧ K (pz_put h (a + 3) (aI 10 (upd le i.toNatClampNeg x))) := sI_eq H.2.2.2
theorem Rng.l2 {h : pz_H} {a : Nat} {la : Nat → Int32} {da : Nat → Int32} {le : Nat → Int32} {len : Nat} (H : Rng h a la da le len) {K : Int32 → Prop} : pz_lI h (a + 3) K ↔ K (nI 10) := lI_eq H.2.2.2
theorem Rng.v2 {h : pz_H} {a : Nat} {la : Nat → Int32} {da : Nat → Int32} {le : Nat → Int32} {len : Nat} (H : Rng h a la da le len) (g' : Nat → Int32) : Rng (pz_put h (a + 3) (aI 10 g')) a la da g' len := ⟨(put_ne (by omega)).trans H.1, (put_ne (by omega)).trans H.2.1, (put_ne (by omega)).trans H.2.2.1, put_at _ _ _⟩
theorem Rng.mv {h h' : pz_H} {a : Nat} {la : Nat → Int32} {da : Nat → Int32} {le : Nat → Int32} {len : Nat} (H : Rng h a la da le len) (hf : ∀ b, a ≤ b → b < a + 4 → h'.2 b = h.2 b) : Rng h' a la da le len := ⟨(hf a (by omega) (by omega)).trans H.1, (hf (a + 1) (by omega) (by omega)).trans H.2.1, (hf (a + 2) (by omega) (by omega)).trans H.2.2.1, (hf (a + 3) (by omega) (by omega)).trans H.2.2.2⟩
theorem Rng.pt {h : pz_H} {a : Nat} {la : Nat → Int32} {da : Nat → Int32} {le : Nat → Int32} {len : Nat} (H : Rng h a la da le len) {b : Nat} {e : pz_E} (hb : b < a ∨ a + 4 ≤ b) : Rng (pz_put h b e) a la da le len := H.mv (fun c h1 h2 => put_ne (by omega))
theorem Rng.fr {h h' : pz_H} {a : Nat} {la : Nat → Int32} {da : Nat → Int32} {le : Nat → Int32} {len : Nat} {l : List Nat} (H : Rng h a la da le len) (hf : Fr l h h') (hl : ∀ b ∈ l, b < a ∨ a + 4 ≤ b) : Rng h' a la da le len := H.mv (fun c h1 h2 => hf.2 c (fun q => by have := hl c q; omega))
def Dck (h : pz_H) (a : Nat) (ch : Nat → Int64) (nx : Nat → Int64) (of : Int64) : Prop := h.2 a = some (aO 0 [.ref (a + 1), .ref (a + 2), .long of]) ∧ h.2 (a + 1) = some (aJ 6 ch) ∧ h.2 (a + 2) = some (aJ 6 nx)
theorem Dck.g0 {h : pz_H} {a : Nat} {ch : Nat → Int64} {nx : Nat → Int64} {of : Int64} (H : Dck h a ch nx of) {K : Nat → Prop} : pz_gR h a 0 0 K ↔ K (a + 1) := gR_eq H.1 rfl
theorem Dck.g1 {h : pz_H} {a : Nat} {ch : Nat → Int64} {nx : Nat → Int64} {of : Int64} (H : Dck h a ch nx of) {K : Nat → Prop} : pz_gR h a 0 1 K ↔ K (a + 2) := gR_eq H.1 rfl
theorem Dck.g2 {h : pz_H} {a : Nat} {ch : Nat → Int64} {nx : Nat → Int64} {of : Int64} (H : Dck h a ch nx of) {K : Int64 → Prop} : pz_gL h a 0 2 K ↔ K of := gL_eq H.1 rfl
theorem Dck.p2 {h : pz_H} {a : Nat} {ch : Nat → Int64} {nx : Nat → Int64} {of : Int64} (H : Dck h a ch nx of) {v : Int64} {K : pz_H → Prop} : pz_pF h a 0 2 (.long v) K ↔ K (pz_put h a (aO 0 [.ref (a + 1), .ref (a + 2), .long v])) := pF_eq H.1 (Nat.le_of_ble_eq_true rfl)
theorem Dck.u2 {h : pz_H} {a : Nat} {ch : Nat → Int64} {nx : Nat → Int64} {of : Int64} (H : Dck h a ch nx of) (v : Int64) : Dck (pz_put h a (aO 0 [.ref (a + 1), .ref (a + 2), .long v])) a ch nx v := ⟨put_at _ _ _, (put_ne (by omega)).trans H.2.1, (put_ne (by omega)).trans H.2.2⟩
theorem Dck.i {h : pz_H} {a : Nat} {ch : Nat → Int64} {nx : Nat → Int64} {of : Int64} (H : Dck h a ch nx of) : pz_is h a 0 ↔ True := is_eq H.1
theorem Dck.r0 {h : pz_H} {a : Nat} {ch : Nat → Int64} {nx : Nat → Int64} {of : Int64} (H : Dck h a ch nx of) {i : Int32} {K : Int64 → Prop} : pz_rJ h (a + 1) i K ↔ vp_in i 6 ∧ K (ch i.toNatClampNeg) := rJ_eq H.2.1
theorem Dck.s0 {h : pz_H} {a : Nat} {ch : Nat → Int64} {nx : Nat → Int64} {of : Int64} (H : Dck h a ch nx of) {i : Int32} {x : Int64} {K : pz_H → Prop} : pz_sJ h (a + 1) i x K ↔ vp_in i 6 ∧ K (pz_put h (a + 1) (aJ 6 (vp_updL ch i.toNatClampNeg x))) := sJ_eq H.2.1
theorem Dck.l0 {h : pz_H} {a : Nat} {ch : Nat → Int64} {nx : Nat → Int64} {of : Int64} (H : Dck h a ch nx of) {K : Int32 → Prop} : pz_lJ h (a + 1) K ↔ K (nI 6) := lJ_eq H.2.1
theorem Dck.v0 {h : pz_H} {a : Nat} {ch : Nat → Int64} {nx : Nat → Int64} {of : Int64} (H : Dck h a ch nx of) (g' : Nat → Int64) : Dck (pz_put h (a + 1) (aJ 6 g')) a g' nx of := ⟨(put_ne (by omega)).trans H.1, put_at _ _ _, (put_ne (by omega)).trans H.2.2⟩
theorem Dck.r1 {h : pz_H} {a : Nat} {ch : Nat → Int64} {nx : Nat → Int64} {of : Int64} (H : Dck h a ch nx of) {i : Int32} {K : Int64 → Prop} : pz_rJ h (a + 2) i K ↔ vp_in i 6 ∧ K (nx i.toNatClampNeg) := rJ_eq H.2.2
theorem Dck.s1 {h : pz_H} {a : Nat} {ch : Nat → Int64} {nx : Nat → Int64} {of : Int64} (H : Dck h a ch nx of) {i : Int32} {x : Int64} {K : pz_H → Prop} : pz_sJ h (a + 2) i x K ↔ vp_in i 6 ∧ K (pz_put h (a + 2) (aJ 6 (vp_updL nx i.toNatClampNeg x))) := sJ_eq H.2.2
theorem Dck.l1 {h : pz_H} {a : Nat} {ch : Nat → Int64} {nx : Nat → Int64} {of : Int64} (H : Dck h a ch nx of) {K : Int32 → Prop} : pz_lJ h (a + 2) K ↔ K (nI 6) := lJ_eq H.2.2
theorem Dck.v1 {h : pz_H} {a : Nat} {ch : Nat → Int64} {nx : Nat → Int64} {of : Int64} (H : Dck h a ch nx of) (g' : Nat → Int64) : Dck (pz_put h (a + 2) (aJ 6 g')) a ch g' of := ⟨(put_ne (by omega)).trans H.1, (put_ne (by omega)).trans H.2.1, put_at _ _ _⟩
theorem Dck.mv {h h' : pz_H} {a : Nat} {ch : Nat → Int64} {nx : Nat → Int64} {of : Int64} (H : Dck h a ch nx of) (hf : ∀ b, a ≤ b → b < a + 3 → h'.2 b = h.2 b) : Dck h' a ch nx of := ⟨(hf a (by omega) (by omega)).trans H.1, (hf (a + 1) (by omega) (by omega)).trans H.2.1, (hf (a + 2) (by omega) (by omega)).trans H.2.2⟩
theorem Dck.pt {h : pz_H} {a : Nat} {ch : Nat → Int64} {nx : Nat → Int64} {of : Int64} (H : Dck h a ch nx of) {b : Nat} {e : pz_E} (hb : b < a ∨ a + 3 ≤ b) : Dck (pz_put h b e) a ch nx of := H.mv (fun c h1 h2 => put_ne (by omega))
theorem Dck.fr {h h' : pz_H} {a : Nat} {ch : Nat → Int64} {nx : Nat → Int64} {of : Int64} {l : List Nat} (H : Dck h a ch nx of) (hf : Fr l h h') (hl : ∀ b ∈ l, b < a ∨ a + 3 ≤ b) : Dck h' a ch nx of := H.mv (fun c h1 h2 => hf.2 c (fun q => by have := hl c q; omega))
def Rul (h : pz_H) (a : Nat) (pa : Nat → Int32) (sk : Nat → Int32) (th : Nat → Int32) (len : Nat) (src : Option Nat) (at_ : Int32) : Prop := h.2 a = some (aO 5 [.ref (a + 1), .ref (a + 2), .ref (a + 3), .int (nI len), va_rf src, .int at_]) ∧ h.2 (a + 1) = some (aI 40 pa) ∧ h.2 (a + 2) = some (aI 40 sk) ∧ h.2 (a + 3) = some (aI 6 th)
theorem Rul.g0 {h : pz_H} {a : Nat} {pa : Nat → Int32} {sk : Nat → Int32} {th : Nat → Int32} {len : Nat} {src : Option Nat} {at_ : Int32} (H : Rul h a pa sk th len src at_) {K : Nat → Prop} : pz_gR h a 5 0 K ↔ K (a + 1) := gR_eq H.1 rfl
theorem Rul.g1 {h : pz_H} {a : Nat} {pa : Nat → Int32} {sk : Nat → Int32} {th : Nat → Int32} {len : Nat} {src : Option Nat} {at_ : Int32} (H : Rul h a pa sk th len src at_) {K : Nat → Prop} : pz_gR h a 5 1 K ↔ K (a + 2) := gR_eq H.1 rfl
theorem Rul.g2 {h : pz_H} {a : Nat} {pa : Nat → Int32} {sk : Nat → Int32} {th : Nat → Int32} {len : Nat} {src : Option Nat} {at_ : Int32} (H : Rul h a pa sk th len src at_) {K : Nat → Prop} : pz_gR h a 5 2 K ↔ K (a + 3) := gR_eq H.1 rfl
theorem Rul.g3 {h : pz_H} {a : Nat} {pa : Nat → Int32} {sk : Nat → Int32} {th : Nat → Int32} {len : Nat} {src : Option Nat} {at_ : Int32} (H : Rul h a pa sk th len src at_) {K : Int32 → Prop} : pz_gI h a 5 3 K ↔ K (nI len) := gI_eq H.1 rfl
theorem Rul.p3 {h : pz_H} {a : Nat} {pa : Nat → Int32} {sk : Nat → Int32} {th : Nat → Int32} {len : Nat} {src : Option Nat} {at_ : Int32} (H : Rul h a pa sk th len src at_) {v : Int32} {K : pz_H → Prop} : pz_pF h a 5 3 (.int v) K ↔ K (pz_put h a (aO 5 [.ref (a + 1), .ref (a + 2), .ref (a + 3), .int v, va_rf src, .int at_])) := pF_eq H.1 (Nat.le_of_ble_eq_true rfl)
theorem Rul.u3 {h : pz_H} {a : Nat} {pa : Nat → Int32} {sk : Nat → Int32} {th : Nat → Int32} {len : Nat} {src : Option Nat} {at_ : Int32} (H : Rul h a pa sk th len src at_) (v : Nat) : Rul (pz_put h a (aO 5 [.ref (a + 1), .ref (a + 2), .ref (a + 3), .int (nI v), va_rf src, .int at_])) a pa sk th v src at_ := ⟨put_at _ _ _, (put_ne (by omega)).trans H.2.1, (put_ne (by omega)).trans H.2.2.1, (put_ne (by omega)).trans H.2.2.2⟩
theorem Rul.g4 {h : pz_H} {a : Nat} {pa : Nat → Int32} {sk : Nat → Int32} {th : Nat → Int32} {len : Nat} {src : Option Nat} {at_ : Int32} (H : Rul h a pa sk th len src at_) {K : Option Nat → Prop} : pz_gQ h a 5 4 K ↔ K src := gQ_eq H.1 rfl
theorem Rul.p4 {h : pz_H} {a : Nat} {pa : Nat → Int32} {sk : Nat → Int32} {th : Nat → Int32} {len : Nat} {src : Option Nat} {at_ : Int32} (H : Rul h a pa sk th len src at_) {v : Option Nat} {K : pz_H → Prop} : pz_pF h a 5 4 (va_rf v) K ↔ K (pz_put h a (aO 5 [.ref (a + 1), .ref (a + 2), .ref (a + 3), .int (nI len), va_rf v, .int at_])) := pF_eq H.1 (Nat.le_of_ble_eq_true rfl)
theorem Rul.u4 {h : pz_H} {a : Nat} {pa : Nat → Int32} {sk : Nat → Int32} {th : Nat → Int32} {len : Nat} {src : Option Nat} {at_ : Int32} (H : Rul h a pa sk th len src at_) (v : Option Nat) : Rul (pz_put h a (aO 5 [.ref (a + 1), .ref (a + 2), .ref (a + 3), .int (nI len), va_rf v, .int at_])) a pa sk th len v at_ := ⟨put_at _ _ _, (put_ne (by omega)).trans H.2.1, (put_ne (by omega)).trans H.2.2.1, (put_ne (by omega)).trans H.2.2.2⟩
theorem Rul.g5 {h : pz_H} {a : Nat} {pa : Nat → Int32} {sk : Nat → Int32} {th : Nat → Int32} {len : Nat} {src : Option Nat} {at_ : Int32} (H : Rul h a pa sk th len src at_) {K : Int32 → Prop} : pz_gI h a 5 5 K ↔ K at_ := gI_eq H.1 rfl
theorem Rul.p5 {h : pz_H} {a : Nat} {pa : Nat → Int32} {sk : Nat → Int32} {th : Nat → Int32} {len : Nat} {src : Option Nat} {at_ : Int32} (H : Rul h a pa sk th len src at_) {v : Int32} {K : pz_H → Prop} : pz_pF h a 5 5 (.int v) K ↔ K (pz_put h a (aO 5 [.ref (a + 1), .ref (a + 2), .ref (a + 3), .int (nI len), va_rf src, .int v])) := pF_eq H.1 (Nat.le_of_ble_eq_true rfl)
theorem Rul.u5 {h : pz_H} {a : Nat} {pa : Nat → Int32} {sk : Nat → Int32} {th : Nat → Int32} {len : Nat} {src : Option Nat} {at_ : Int32} (H : Rul h a pa sk th len src at_) (v : Int32) : Rul (pz_put h a (aO 5 [.ref (a + 1), .ref (a + 2), .ref (a + 3), .int (nI len), va_rf src, .int v])) a pa sk th len src v := ⟨put_at _ _ _, (put_ne (by omega)).trans H.2.1, (put_ne (by omega)).trans H.2.2.1, (put_ne (by omega)).trans H.2.2.2⟩
theorem Rul.i {h : pz_H} {a : Nat} {pa : Nat → Int32} {sk : Nat → Int32} {th : Nat → Int32} {len : Nat} {src : Option Nat} {at_ : Int32} (H : Rul h a pa sk th len src at_) : pz_is h a 5 ↔ True := is_eq H.1
theorem Rul.r0 {h : pz_H} {a : Nat} {pa : Nat → Int32} {sk : Nat → Int32} {th : Nat → Int32} {len : Nat} {src : Option Nat} {at_ : Int32} (H : Rul h a pa sk th len src at_) {i : Int32} {K : Int32 → Prop} : pz_rI h (a + 1) i K ↔ vp_in i 40 ∧ K (pa i.toNatClampNeg) := rI_eq H.2.1
theorem Rul.s0 {h : pz_H} {a : Nat} {pa : Nat → Int32} {sk : Nat → Int32} {th : Nat → Int32} {len : Nat} {src : Option Nat} {at_ : Int32} (H : Rul h a pa sk th len src at_) {i : Int32} {x : Int32} {K : pz_H → Prop} : pz_sI h (a + 1) i x K ↔ vp_in i 40 ∧ K (pz_put h (a + 1) (aI 40 (upd pa i.toNatClampNeg x))) := sI_eq H.2.1
theorem Rul.l0 {h : pz_H} {a : Nat} {pa : Nat → Int32} {sk : Nat → Int32} {th : Nat → Int32} {len : Nat} {src : Option Nat} {at_ : Int32} (H : Rul h a pa sk th len src at_) {K : Int32 → Prop} : pz_lI h (a + 1) K ↔ K (nI 40) := lI_eq H.2.1
theorem Rul.v0 {h : pz_H} {a : Nat} {pa : Nat → Int32} {sk : Nat → Int32} {th : Nat → Int32} {len : Nat} {src : Option Nat} {at_ : Int32} (H : Rul h a pa sk th len src at_) (g' : Nat → Int32) : Rul (pz_put h (a + 1) (aI 40 g')) a g' sk th len src at_ := ⟨(put_ne (by omega)).trans H.1, put_at _ _ _, (put_ne (by omega)).trans H.2.2.1, (put_ne (by omega)).trans H.2.2.2⟩
theorem Rul.r1 {h : pz_H} {a : Nat} {pa : Nat → Int32} {sk : Nat → Int32} {th : Nat → Int32} {len : Nat} {src : Option Nat} {at_ : Int32} (H : Rul h a pa sk th len src at_) {i : Int32} {K : Int32 → Prop} : pz_rI h (a + 2) i K ↔ vp_in i 40 ∧ K (sk i.toNatClampNeg) := rI_eq H.2.2.1
theorem Rul.s1 {h : pz_H} {a : Nat} {pa : Nat → Int32} {sk : Nat → Int32} {th : Nat → Int32} {len : Nat} {src : Option Nat} {at_ : Int32} (H : Rul h a pa sk th len src at_) {i : Int32} {x : Int32} {K : pz_H → Prop} : pz_sI h (a + 2) i x K ↔ vp_in i 40 ∧ K (pz_put h (a + 2) (aI 40 (upd sk i.toNatClampNeg x))) := sI_eq H.2.2.1
theorem Rul.l1 {h : pz_H} {a : Nat} {pa : Nat → Int32} {sk : Nat → Int32} {th : Nat → Int32} {len : Nat} {src : Option Nat} {at_ : Int32} (H : Rul h a pa sk th len src at_) {K : Int32 → Prop} : pz_lI h (a + 2) K ↔ K (nI 40) := lI_eq H.2.2.1
theorem Rul.v1 {h : pz_H} {a : Nat} {pa : Nat → Int32} {sk : Nat → Int32} {th : Nat → Int32} {len : Nat} {src : Option Nat} {at_ : Int32} (H : Rul h a pa sk th len src at_) (g' : Nat → Int32) : Rul (pz_put h (a + 2) (aI 40 g')) a pa g' th len src at_ := ⟨(put_ne (by omega)).trans H.1, (put_ne (by omega)).trans H.2.1, put_at _ _ _, (put_ne (by omega)).trans H.2.2.2⟩
theorem Rul.r2 {h : pz_H} {a : Nat} {pa : Nat → Int32} {sk : Nat → Int32} {th : Nat → Int32} {len : Nat} {src : Option Nat} {at_ : Int32} (H : Rul h a pa sk th len src at_) {i : Int32} {K : Int32 → Prop} : pz_rI h (a + 3) i K ↔ vp_in i 6 ∧ K (th i.toNatClampNeg) := rI_eq H.2.2.2
theorem Rul.s2 {h : pz_H} {a : Nat} {pa : Nat → Int32} {sk : Nat → Int32} {th : Nat → Int32} {len : Nat} {src : Option Nat} {at_ : Int32} (H : Rul h a pa sk th len src at_) {i : Int32} {x : Int32} {K : pz_H → Prop} : pz_sI h (a + 3) i x K ↔ vp_in i 6 ∧ K (pz_put h (a + 3) (aI 6 (upd th i.toNatClampNeg x))) := sI_eq H.2.2.2
theorem Rul.l2 {h : pz_H} {a : Nat} {pa : Nat → Int32} {sk : Nat → Int32} {th : Nat → Int32} {len : Nat} {src : Option Nat} {at_ : Int32} (H : Rul h a pa sk th len src at_) {K : Int32 → Prop} : pz_lI h (a + 3) K ↔ K (nI 6) := lI_eq H.2.2.2
theorem Rul.v2 {h : pz_H} {a : Nat} {pa : Nat → Int32} {sk : Nat → Int32} {th : Nat → Int32} {len : Nat} {src : Option Nat} {at_ : Int32} (H : Rul h a pa sk th len src at_) (g' : Nat → Int32) : Rul (pz_put h (a + 3) (aI 6 g')) a pa sk g' len src at_ := ⟨(put_ne (by omega)).trans H.1, (put_ne (by omega)).trans H.2.1, (put_ne (by omega)).trans H.2.2.1, put_at _ _ _⟩
theorem Rul.mv {h h' : pz_H} {a : Nat} {pa : Nat → Int32} {sk : Nat → Int32} {th : Nat → Int32} {len : Nat} {src : Option Nat} {at_ : Int32} (H : Rul h a pa sk th len src at_) (hf : ∀ b, a ≤ b → b < a + 4 → h'.2 b = h.2 b) : Rul h' a pa sk th len src at_ := ⟨(hf a (by omega) (by omega)).trans H.1, (hf (a + 1) (by omega) (by omega)).trans H.2.1, (hf (a + 2) (by omega) (by omega)).trans H.2.2.1, (hf (a + 3) (by omega) (by omega)).trans H.2.2.2⟩
theorem Rul.pt {h : pz_H} {a : Nat} {pa : Nat → Int32} {sk : Nat → Int32} {th : Nat → Int32} {len : Nat} {src : Option Nat} {at_ : Int32} (H : Rul h a pa sk th len src at_) {b : Nat} {e : pz_E} (hb : b < a ∨ a + 4 ≤ b) : Rul (pz_put h b e) a pa sk th len src at_ := H.mv (fun c h1 h2 => put_ne (by omega))
theorem Rul.fr {h h' : pz_H} {a : Nat} {pa : Nat → Int32} {sk : Nat → Int32} {th : Nat → Int32} {len : Nat} {src : Option Nat} {at_ : Int32} {l : List Nat} (H : Rul h a pa sk th len src at_) (hf : Fr l h h') (hl : ∀ b ∈ l, b < a ∨ a + 4 ≤ b) : Rul h' a pa sk th len src at_ := H.mv (fun c h1 h2 => hf.2 c (fun q => by have := hl c q; omega))
def Tid (h : pz_H) (a : Nat) (mk : Nat → Int32) (al : Nat → Int32) (len : Nat) : Prop := h.2 a = some (aO 7 [.ref (a + 1), .ref (a + 2), .int (nI len)]) ∧ h.2 (a + 1) = some (aI 6804 mk) ∧ h.2 (a + 2) = some (aI 100 al)
theorem Tid.g0 {h : pz_H} {a : Nat} {mk : Nat → Int32} {al : Nat → Int32} {len : Nat} (H : Tid h a mk al len) {K : Nat → Prop} : pz_gR h a 7 0 K ↔ K (a + 1) := gR_eq H.1 rfl
theorem Tid.g1 {h : pz_H} {a : Nat} {mk : Nat → Int32} {al : Nat → Int32} {len : Nat} (H : Tid h a mk al len) {K : Nat → Prop} : pz_gR h a 7 1 K ↔ K (a + 2) := gR_eq H.1 rfl
theorem Tid.g2 {h : pz_H} {a : Nat} {mk : Nat → Int32} {al : Nat → Int32} {len : Nat} (H : Tid h a mk al len) {K : Int32 → Prop} : pz_gI h a 7 2 K ↔ K (nI len) := gI_eq H.1 rfl
theorem Tid.p2 {h : pz_H} {a : Nat} {mk : Nat → Int32} {al : Nat → Int32} {len : Nat} (H : Tid h a mk al len) {v : Int32} {K : pz_H → Prop} : pz_pF h a 7 2 (.int v) K ↔ K (pz_put h a (aO 7 [.ref (a + 1), .ref (a + 2), .int v])) := pF_eq H.1 (Nat.le_of_ble_eq_true rfl)
theorem Tid.u2 {h : pz_H} {a : Nat} {mk : Nat → Int32} {al : Nat → Int32} {len : Nat} (H : Tid h a mk al len) (v : Nat) : Tid (pz_put h a (aO 7 [.ref (a + 1), .ref (a + 2), .int (nI v)])) a mk al v := ⟨put_at _ _ _, (put_ne (by omega)).trans H.2.1, (put_ne (by omega)).trans H.2.2⟩
theorem Tid.i {h : pz_H} {a : Nat} {mk : Nat → Int32} {al : Nat → Int32} {len : Nat} (H : Tid h a mk al len) : pz_is h a 7 ↔ True := is_eq H.1
theorem Tid.r0 {h : pz_H} {a : Nat} {mk : Nat → Int32} {al : Nat → Int32} {len : Nat} (H : Tid h a mk al len) {i : Int32} {K : Int32 → Prop} : pz_rI h (a + 1) i K ↔ vp_in i 6804 ∧ K (mk i.toNatClampNeg) := rI_eq H.2.1
theorem Tid.s0 {h : pz_H} {a : Nat} {mk : Nat → Int32} {al : Nat → Int32} {len : Nat} (H : Tid h a mk al len) {i : Int32} {x : Int32} {K : pz_H → Prop} : pz_sI h (a + 1) i x K ↔ vp_in i 6804 ∧ K (pz_put h (a + 1) (aI 6804 (upd mk i.toNatClampNeg x))) := sI_eq H.2.1
theorem Tid.l0 {h : pz_H} {a : Nat} {mk : Nat → Int32} {al : Nat → Int32} {len : Nat} (H : Tid h a mk al len) {K : Int32 → Prop} : pz_lI h (a + 1) K ↔ K (nI 6804) := lI_eq H.2.1
theorem Tid.v0 {h : pz_H} {a : Nat} {mk : Nat → Int32} {al : Nat → Int32} {len : Nat} (H : Tid h a mk al len) (g' : Nat → Int32) : Tid (pz_put h (a + 1) (aI 6804 g')) a g' al len := ⟨(put_ne (by omega)).trans H.1, put_at _ _ _, (put_ne (by omega)).trans H.2.2⟩
theorem Tid.r1 {h : pz_H} {a : Nat} {mk : Nat → Int32} {al : Nat → Int32} {len : Nat} (H : Tid h a mk al len) {i : Int32} {K : Int32 → Prop} : pz_rI h (a + 2) i K ↔ vp_in i 100 ∧ K (al i.toNatClampNeg) := rI_eq H.2.2
theorem Tid.s1 {h : pz_H} {a : Nat} {mk : Nat → Int32} {al : Nat → Int32} {len : Nat} (H : Tid h a mk al len) {i : Int32} {x : Int32} {K : pz_H → Prop} : pz_sI h (a + 2) i x K ↔ vp_in i 100 ∧ K (pz_put h (a + 2) (aI 100 (upd al i.toNatClampNeg x))) := sI_eq H.2.2
theorem Tid.l1 {h : pz_H} {a : Nat} {mk : Nat → Int32} {al : Nat → Int32} {len : Nat} (H : Tid h a mk al len) {K : Int32 → Prop} : pz_lI h (a + 2) K ↔ K (nI 100) := lI_eq H.2.2
theorem Tid.v1 {h : pz_H} {a : Nat} {mk : Nat → Int32} {al : Nat → Int32} {len : Nat} (H : Tid h a mk al len) (g' : Nat → Int32) : Tid (pz_put h (a + 2) (aI 100 g')) a mk g' len := ⟨(put_ne (by omega)).trans H.1, (put_ne (by omega)).trans H.2.1, put_at _ _ _⟩
theorem Tid.mv {h h' : pz_H} {a : Nat} {mk : Nat → Int32} {al : Nat → Int32} {len : Nat} (H : Tid h a mk al len) (hf : ∀ b, a ≤ b → b < a + 3 → h'.2 b = h.2 b) : Tid h' a mk al len := ⟨(hf a (by omega) (by omega)).trans H.1, (hf (a + 1) (by omega) (by omega)).trans H.2.1, (hf (a + 2) (by omega) (by omega)).trans H.2.2⟩
theorem Tid.pt {h : pz_H} {a : Nat} {mk : Nat → Int32} {al : Nat → Int32} {len : Nat} (H : Tid h a mk al len) {b : Nat} {e : pz_E} (hb : b < a ∨ a + 3 ≤ b) : Tid (pz_put h b e) a mk al len := H.mv (fun c h1 h2 => put_ne (by omega))
theorem Tid.fr {h h' : pz_H} {a : Nat} {mk : Nat → Int32} {al : Nat → Int32} {len : Nat} {l : List Nat} (H : Tid h a mk al len) (hf : Fr l h h') (hl : ∀ b ∈ l, b < a ∨ a + 3 ≤ b) : Tid h' a mk al len := H.mv (fun c h1 h2 => hf.2 c (fun q => by have := hl c q; omega))

