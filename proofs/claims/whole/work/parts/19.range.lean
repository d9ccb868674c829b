/-! ===== ranges ===== -/
def Bt (x : Int32) (a b : Int) : Prop := a ≤ x.toInt ∧ x.toInt ≤ b
theorem Bt.add {x y : Int32} {a b c d : Int} (hx : Bt x a b) (hy : Bt y c d) (h1 : -2147483648 ≤ a + c) (h2 : b + d < 2147483648) : Bt (x + y) (a + c) (b + d) := by
  unfold Bt at *
  rw [fb_addI (by omega) (by omega)]
  omega
theorem Bt.sub {x y : Int32} {a b c d : Int} (hx : Bt x a b) (hy : Bt y c d) (h1 : -2147483648 ≤ a - d) (h2 : b - c < 2147483648) : Bt (x - y) (a - d) (b - c) := by
  unfold Bt at *
  rw [fb_subI (by omega) (by omega)]
  omega
theorem Bt.mono {x : Int32} {a b c d : Int} (hx : Bt x a b) (h1 : c ≤ a) (h2 : b ≤ d) : Bt x c d := by
  unfold Bt at *; omega
theorem Bt.lit {n : Nat} (h : n < 2 ^ 31) : Bt (nI n) n n := by
  unfold Bt
  rw [nI_toInt h]
  omega
theorem Bt.z : Bt 0 0 0 := ⟨by decide, by decide⟩
theorem le_i {x y : Int32} : x ≤ y ↔ x.toInt ≤ y.toInt := Int32.le_iff_toInt_le
theorem lt_i {x y : Int32} : x < y ↔ x.toInt < y.toInt := Int32.lt_iff_toInt_lt
theorem eq_i {x y : Int32} : x = y ↔ x.toInt = y.toInt := Int32.toInt_inj.symm
theorem sumI_Bt {f : Nat → Int32} {n : Nat} (hn : n ≤ 6) (hf : ∀ i, i < n → Bt (f i) 0 99) : ∀ k, k ≤ n → Bt (sumI f k) 0 (99 * k)
  | 0, _ => Bt.z
  | k + 1, hk => by
    have ih := sumI_Bt hn hf k (by omega)
    have h1 := hf k (by omega)
    exact (ih.add h1 (by omega) (by omega)).mono (by omega) (by omega)
theorem totS_Bt {f : Nat → Int32} {n s : Nat} (hn : n ≤ 6) (hf : ∀ i, i < n → Bt (f i) 0 99) : Bt (totS f s n) 0 (99 * n) := by
  refine sumI_Bt hn (fun i hi => ?_) n (Nat.le_refl _)
  split
  · exact hf i hi
  · exact Bt.z.mono (by decide) (by decide)
def Rg (n : Nat) (br : Nat → Int32) (W : pW) : Prop := ∀ i, i < n → Bt (br i) 1 99 ∧ Bt (W.lv i) 0 (br i).toInt ∧ Bt (W.tp i) 0 9 ∧ Bt (W.lk i) 0 18 ∧ Bt (W.hr i) 0 9
theorem Rg.lv {n : Nat} {br : Nat → Int32} {W : pW} (h : Rg n br W) {i : Nat} (hi : i < n) : Bt (W.lv i) 0 99 := by
  have h1 := (h i hi).1
  have h2 := (h i hi).2.1
  unfold Bt at *; omega
theorem cl0_Bt {l v : Int32} {b : Int} (hl : Bt l 0 b) : Bt (cl0 l v) 0 l.toInt := by
  have z : (0 : Int32).toInt = 0 := by decide
  have hm : (if l < v then l else v).toInt ≤ l.toInt := by
    split
    · exact Int.le_refl _
    · rename_i h2
      rw [lt_i] at h2
      omega
  unfold cl0
  generalize (if l < v then l else v) = m at hm ⊢
  unfold Bt at *
  split
  · rename_i h1
    rw [lt_i, z] at h1
    omega
  · rw [z]; omega
theorem runI_Bt {rv : pRV} {br : Nat → Int32} {W : pW} {i : Nat} {b : Int} (hl : Bt (W.lv i) 0 b) : Bt (runI rv br W i) 0 (W.lv i).toInt := by
  unfold runI
  split
  · exact cl0_Bt hl
  · unfold Bt at *
    have z : (0 : Int32).toInt = 0 := by decide
    rw [z]; omega
theorem nx0_Bt {rv : pRV} {br : Nat → Int32} {W : pW} {n i : Nat} (h : Rg n br W) (hi : i < n) : Bt (nx0 rv br W i) 0 108 := by
  have h1 := h.lv hi
  have h2 := runI_Bt (rv := rv) (br := br) h1
  obtain ⟨-, -, h3, h4, -⟩ := h i hi
  have h5 : Bt (W.lv i - runI rv br W i) 0 99 := by
    unfold Bt at *
    rw [fb_subI (by omega) (by omega)]
    omega
  have h6 : Bt ((W.lv i - runI rv br W i) - (if W.lk i < (W.lv i - runI rv br W i) then W.lk i else (W.lv i - runI rv br W i))) 0 99 := by
    split
    · rename_i q
      rw [lt_i] at q
      unfold Bt at *
      rw [fb_subI (by omega) (by omega)]
      omega
    · unfold Bt at *
      rw [fb_subI (by omega) (by omega)]
      omega
  exact (h6.add h3 (by decide) (by decide)).mono (by decide) (by decide)
theorem addDn_Bt {dn ru f : Nat → Int32} {n : Nat} (hn : n ≤ 6) (hf : ∀ j, j < n → Bt (f j) 0 108) (hr : ∀ j, j < n → Bt (ru j) 0 99) : ∀ k, k ≤ n → ∀ j, j < n → Bt (addDn dn ru n f k j) 0 (108 + 99 * k)
  | 0, _, j, hj => (hf j hj).mono (by omega) (by omega)
  | k + 1, hk, j, hj => by
    have ih := addDn_Bt (dn := dn) hn hf hr k (by omega)
    unfold addDn
    split
    · exact (ih j hj).mono (by omega) (by omega)
    · rename_i hc
      obtain ⟨q, hq, e⟩ := (has_0 hn).mp hc
      rw [e, clamp (by omega)]
      unfold upd
      split
      · exact ((ih q hq).add (hr k (by omega)) (by omega) (by omega)).mono (by omega) (by omega)
      · exact (ih j hj).mono (by omega) (by omega)
theorem nxF_Bt {rv : pRV} {br dn : Nat → Int32} {W : pW} {n i : Nat} (hn : n ≤ 6) (h : Rg n br W) (hi : i < n) : Bt (nxF rv br dn n W i) 0 702 :=
  (addDn_Bt hn (fun j hj => nx0_Bt h hj) (fun j hj => (runI_Bt (h.lv hj)).mono (by decide) (h.lv hj).2) n (Nat.le_refl _) i hi).mono (by omega) (by omega)
/-- the new level is the lesser of what there is and the brim -/
theorem lvN_min {nx br : Nat → Int32} {i : Nat} (h1 : Bt (nx i) 0 702) (h2 : Bt (br i) 1 99) : lvN nx br i = if nx i < br i then nx i else br i := by
  have z : (0 : Int32).toInt = 0 := by decide
  have e : (nx i - br i).toInt = (nx i).toInt - (br i).toInt := by unfold Bt at *; exact fb_subI (by omega) (by omega)
  unfold lvN ovr
  by_cases hc : (0 : Int32) < nx i - br i
  · rw [if_pos hc]
    rw [lt_i, z, e] at hc
    rw [if_neg (by rw [lt_i]; omega)]
    rw [eq_i]
    unfold Bt at *
    rw [fb_subI (by omega) (by omega), e]
    omega
  · rw [if_neg hc]
    rw [lt_i, z, e] at hc
    split
    · rw [Int32.sub_zero]
    · rename_i q
      rw [lt_i] at q
      rw [Int32.sub_zero, eq_i]
      omega
theorem Rg.day {rv : pRV} {br dn : Nat → Int32} {W : pW} {n : Nat} (hn : n ≤ 6) (h : Rg n br W) : Rg n br (dayW rv br dn n W) := by
  intro i hi
  obtain ⟨h1, h2, h3, h4, h5⟩ := h i hi
  refine ⟨h1, ?_, h3, h4, ?_⟩
  · show Bt (fa_fill _ _ n i) 0 _
    rw [fa_fill_in hi, lvN_min (nxF_Bt hn h hi) h1]
    have h6 := nxF_Bt (rv := rv) (dn := dn) hn h hi
    unfold Bt at *
    split
    · rename_i q
      rw [lt_i] at q
      omega
    · omega
  · show Bt (fa_fill _ _ n i) 0 9
    rw [fa_fill_in hi]
    unfold hrN
    have o1 : (1 : Int32).toInt = 1 := by decide
    have o9 : (9 : Int32).toInt = 9 := by decide
    have e : (W.hr i + 1).toInt = (W.hr i).toInt + 1 := by unfold Bt at *; rw [fb_addI (by omega) (by omega), o1]
    split
    · split
      · rename_i q
        rw [lt_i, e, o9] at q
        unfold Bt at *
        rw [e]; omega
      · unfold Bt
        rw [o9]; omega
    · exact h5
theorem Rg.days {rv : pRV} {br dn : Nat → Int32} {W : pW} {n : Nat} (hn : n ≤ 6) (h : Rg n br W) : ∀ k, Rg n br (daysW rv br dn n k W)
  | 0 => h
  | k + 1 => (Rg.days hn h k).day hn
