/-! ===== the state stays in its bounds ===== -/
theorem days_fix (rv : pRV) (br dn : Nat → Int32) (n : Nat) (W : pW) : ∀ k, (daysW rv br dn n k W).lk = W.lk ∧ (daysW rv br dn n k W).kg = W.kg ∧ (daysW rv br dn n k W).ou = W.ou ∧ (daysW rv br dn n k W).tp = W.tp
  | 0 => ⟨rfl, rfl, rfl, rfl⟩
  | k + 1 => days_fix rv br dn n W k
theorem WGood.days {rv : pRV} {br dn lk : Nat → Int32} {n : Nat} {W : pW} (hn : n ≤ 6) (h : WGood n br lk W) (k : Nat) : WGood n br lk (daysW rv br dn n k W) := by
  obtain ⟨f1, f2, f3, f4⟩ := days_fix rv br dn n W k
  refine ⟨h.1.days hn k, h.2.1.days hn k, by rw [f3]; exact h.2.2.1, fun i hi => ?_⟩
  rw [f1, f2]
  exact h.2.2.2 i hi
theorem WGood.lk_ {br lk lk' : Nat → Int32} {n : Nat} {W : pW} (h : WGood n br lk W) (e : ∀ i, i < n → lk i = lk' i) : WGood n br lk' W := ⟨h.1, h.2.1, h.2.2.1, fun i hi => by
  obtain ⟨a, b⟩ := h.2.2.2 i hi
  exact ⟨a.trans (e i hi), b⟩⟩
theorem WGood.sOu {br lk : Nat → Int32} {n o : Nat} {W : pW} (hn : n ≤ 6) (h : WGood n br lk W) (ho : o < 2 ^ n) : WGood n br lk (W.sOu o) := ⟨h.1.sOu (Nat.lt_of_lt_of_le ho (pow_le64 hn)), h.2.1, ho, h.2.2.2⟩
theorem WGood.sHr {br lk : Nat → Int32} {n i : Nat} {v : Int32} {W : pW} (hn : n ≤ 6) (h : WGood n br lk W) (hi : i < n) (hv : Bt v 0 9) : WGood n br lk (W.sHr (upd W.hr i v)) := ⟨h.1.sHr (by omega), h.2.1.sHr hv, h.2.2.1, h.2.2.2⟩
theorem WGood.sTp {br lk : Nat → Int32} {n i : Nat} {v : Int32} {W : pW} (hn : n ≤ 6) (h : WGood n br lk W) (hi : i < n) (hv : Bt v 0 9) : WGood n br lk (W.sTp (upd W.tp i v)) := ⟨h.1.sTp (by omega), h.2.1.sTp hv, h.2.2.1, h.2.2.2⟩
theorem WGood.sKg {br lk : Nat → Int32} {n i k : Nat} {W : pW} (hn : n ≤ 6) (h : WGood n br lk W) (hi : i < n) (hk : k < 4) : WGood n br lk (W.sKg (upd W.kg i (nI k))) := ⟨h.1.sKg (by omega), h.2.1, h.2.2.1, fun j hj => by
  obtain ⟨a, b, c⟩ := h.2.2.2 j hj
  refine ⟨a, b, ?_⟩
  show ∃ k2, k2 < 4 ∧ upd W.kg i (nI k) j = nI k2
  unfold upd
  split
  · exact ⟨k, hk, rfl⟩
  · exact c⟩
theorem WGood.act {rv : pRV} {br dn lk : Nat → Int32} {n : Nat} {W : pW} {kind which v : Int32} (hn : n ≤ 6) (h : WGood n br lk W) : WGood n br lk (actW rv br dn n kind which v W).2 ∧ (actW rv br dn n kind which v W).2.lk = W.lk ∧ ((actW rv br dn n kind which v W).1 < 0 → (actW rv br dn n kind which v W).2 = W) := by
  have ho := h.2.2.1
  unfold actW
  by_cases c0 : kind.toInt = 110
  · rw [if_pos c0]
    split
    · exact ⟨h, rfl, fun _ => rfl⟩
    · refine ⟨h.days hn _, (days_fix rv br dn n W _).1, fun z => ?_⟩
      have b : Bt (sumI (daysW rv br dn n which.toNatClampNeg W).lv n) 0 594 := (sumI_Bt hn (fun i hi => (h.2.1.days (rv := rv) (dn := dn) hn _).lv hi) n (Nat.le_refl _)).mono (by omega) (by omega)
      exact absurd z (i0le b)
  rw [if_neg c0]
  by_cases c1 : eX1_has which (nI n) = 0
  · rw [if_pos c1]
    exact ⟨h, rfl, fun _ => rfl⟩
  rw [if_neg c1]
  obtain ⟨i, hi, rfl⟩ := (has_0 hn).mp c1
  rw [clamp (by omega)]
  have hx : W.ou ^^^ 2 ^ i < 2 ^ n := Nat.xor_lt_two_pow ho (Nat.pow_lt_pow_right (by decide) hi)
  split
  · split
    · exact ⟨h, rfl, fun _ => rfl⟩
    · exact ⟨h.sOu hn hx, rfl, fun z => absurd z (nI_popc _)⟩
  split
  · split
    · exact ⟨h.sOu hn hx, rfl, fun z => absurd z (nI_popc _)⟩
    · exact ⟨h, rfl, fun _ => rfl⟩
  split
  · split
    · exact ⟨h, rfl, fun _ => rfl⟩
    · exact ⟨h.sHr hn hi (Bt.z.mono (by omega) (by omega)), rfl, fun z => absurd z (i0le (h.2.1 i hi).2.2.2.2)⟩
  split
  · split
    · exact ⟨h, rfl, fun _ => rfl⟩
    · rename_i cw
      obtain ⟨k, hk, rfl⟩ := (within_0 (hi := 9) (by decide)).mp cw
      split
      · exact ⟨h, rfl, fun _ => rfl⟩
      · exact ⟨h.sTp hn hi ((Bt.lit (by omega)).mono (by omega) (by omega)), rfl, fun z => absurd z (ten_ge (h.2.1 i hi).2.2.1 (by decide))⟩
  split
  · split
    · exact ⟨h, rfl, fun _ => rfl⟩
    · rename_i cw
      obtain ⟨k, hk, rfl⟩ := king_0.mp cw
      split
      · exact ⟨h, rfl, fun _ => rfl⟩
      · obtain ⟨k2, hk2, e2⟩ := (h.2.2.2 i hi).2.2
        refine ⟨h.sKg hn hi hk, rfl, fun z => absurd z ?_⟩
        dsimp only
        rw [e2]
        exact ten_ge (b := 3) ((Bt.lit (by omega)).mono (by omega) (by omega)) (by decide)
  · exact ⟨h, rfl, fun _ => rfl⟩
section SOKS
variable {S : pS}
theorem SOk.sRw (O : SOk S) {rw : List Int64} (h : rw.length ≤ 6) : SOk (S.sRw rw) := ⟨O.1, O.2.1, O.2.2.1, O.2.2.2.1, O.2.2.2.2.1, O.2.2.2.2.2.1, O.2.2.2.2.2.2.1, O.2.2.2.2.2.2.2.1, O.2.2.2.2.2.2.2.2.1, h⟩
theorem SOk.sTl (O : SOk S) {v : Nat} (h : v ≤ 80) : SOk (S.sTl v) := ⟨O.1, h, O.2.2⟩
theorem SOk.len (O : SOk S) : S.rw.length ≤ 6 := O.2.2.2.2.2.2.2.2.2
theorem SOk.sWU (O : SOk S) {W' : pW} {U' : List pW} (hW : WGood S.n S.br S.W.lk W') (hl : U'.length ≤ 12) (hU : ∀ V, V ∈ U' → WGood S.n S.br S.W.lk V) : SOk ((S.sW W').sU U') := by
  obtain ⟨o1, o2, o3, o4, o5, o6, o7, o8, o9, o10⟩ := O
  have e : ∀ i, i < S.n → S.W.lk i = W'.lk i := fun i hi => (hW.2.2.2 i hi).1.symm
  exact ⟨o1, o2, hW.lk_ e, o4, o5, hl, fun V hV => (hU V hV).lk_ e, fun i hi hb => (o8 i hi hb).lk_ e, o9, o10⟩
theorem pushU_ok (O : SOk S) : (pushU S.U S.W).length ≤ 12 ∧ ∀ V, V ∈ pushU S.U S.W → WGood S.n S.br S.W.lk V := by
  have hl := O.2.2.2.2.2.1
  have hU := O.2.2.2.2.2.2.1
  unfold pushU
  split
  · rename_i c
    refine ⟨by simp; omega, fun V hV => ?_⟩
    rcases List.mem_append.mp hV with z | z
    · exact hU V (List.mem_of_mem_tail z)
    · rw [List.mem_singleton.mp z]; exact O.2.2.1
  · refine ⟨by simp; omega, fun V hV => ?_⟩
    rcases List.mem_append.mp hV with z | z
    · exact hU V z
    · rw [List.mem_singleton.mp z]; exact O.2.2.1
theorem SOk.act (O : SOk S) (kind which v : Int32) : SOk (o_act kind which v S).2 := by
  obtain ⟨w1, w2, w3⟩ := O.2.2.1.act (rv := S.rv) (dn := S.dn) (kind := kind) (which := which) (v := v) O.1
  obtain ⟨p1, p2⟩ := pushU_ok O
  unfold o_act
  dsimp only
  split
  · exact O.sWU (U' := S.U) w1 O.2.2.2.2.2.1 O.2.2.2.2.2.2.1
  · exact O.sWU w1 p1 p2
theorem SOk.days (O : SOk S) (k : Int32) : SOk (o_days k S).2 := by
  have h := O.act 110 k 0
  unfold o_days
  dsimp only
  split
  · exact h
  · exact h.sRw (by simp)
theorem SOk.sign (O : SOk S) (v : Int32) : SOk (o_sign v S).2 := by
  unfold o_sign
  split
  · exact ⟨O.1, by show S.tl + 4 ≤ 80; omega, O.2.2⟩
  · exact O
theorem SOk.end_ (O : SOk S) (k : Int32) : SOk (o_end k S).2 := by
  have htl := O.2.1
  unfold o_end
  split
  · exact O
  · rename_i c1
    split
    · rename_i c2
      obtain ⟨j, hj, rfl⟩ := nI_of c1
      have := (nI_leI hj (by omega)).mp c2
      refine O.sTl ?_
      rw [clamp hj]
      omega
    · exact O
theorem SOk.washes (O : SOk S) : SOk (o_washes S).2 := by
  obtain ⟨o1, o2, o3, o4, o5, o6⟩ := O
  exact ⟨o1, o2, o3, ⟨Nat.zero_le _, fun j hj => absurd hj (Nat.not_lt_zero j)⟩, o5, o6⟩
theorem SOk.ring (O : SOk S) (l k v : Int32) : SOk (o_ring l k v S).2 := by
  have hn := O.1
  unfold o_ring
  by_cases c1 : eX1_has l (nI S.n) = 0
  · rw [if_pos c1]; exact O
  rw [if_neg c1]
  by_cases c2 : eX9_isWithin k 0 20 = 0
  · rw [if_pos c2]; exact O
  rw [if_neg c2]
  by_cases c3 : eX9_isWithin v 0 99 = 0
  · rw [if_pos c3]; exact O
  rw [if_neg c3]
  by_cases c4 : S.R.len < 10
  · rw [if_pos c4]
    obtain ⟨i, hi, e1⟩ := (has_0 hn).mp c1
    obtain ⟨t, ht, e2⟩ := (within_0 (hi := 20) (by decide)).mp c2
    obtain ⟨o1, o2, o3, o4, o5, o6⟩ := O
    refine ⟨o1, o2, o3, ⟨by show S.R.len + 1 ≤ 10; omega, fun j hj => ?_⟩, o5, o6⟩
    have hj : j < S.R.len + 1 := hj
    show (∃ a, a < S.n ∧ upd S.R.la S.R.len l j = nI a) ∧ ∃ t, t ≤ 20 ∧ upd S.R.da S.R.len k j = nI t
    unfold upd
    by_cases e : j = S.R.len
    · rw [if_pos e, if_pos e]
      exact ⟨⟨i, hi, e1⟩, ⟨t, ht, e2⟩⟩
    · rw [if_neg e, if_neg e]
      exact o4.2 j (by omega)
  · rw [if_neg c4]; exact O
theorem SOk.keep (O : SOk S) (k : Int32) : SOk (o_keep k S).2 := by
  unfold o_keep
  by_cases c : eX9_isWithin k 0 1 = 0
  · rw [if_pos c]; exact O
  rw [if_neg c]
  obtain ⟨i, hi, rfl⟩ := (within_0 (hi := 1) (by decide)).mp c
  rw [clamp (by omega)]
  obtain ⟨o1, o2, o3, o4, o5, o6, o7, o8, o9, o10⟩ := O
  refine ⟨o1, o2, o3, o4, o5, o6, o7, fun j hj hb => ?_, ?_, o10⟩
  · show WGood S.n S.br S.W.lk (updK S.K i S.W j)
    unfold updK
    split
    · exact o3
    · rename_i e
      have hb : (S.ks ||| 2 ^ i).testBit j = true := hb
      rw [keep_tb S.ks o9 i (by omega) j hj] at hb
      exact o8 j hj (by simpa [e] using hb)
  · show S.ks ||| 2 ^ i < 4
    exact Nat.or_lt_two_pow (n := 2) o9 (by rcases (by omega : i = 0 ∨ i = 1) with rfl | rfl <;> decide)
theorem SOk.again (O : SOk S) (k : Int32) : SOk (o_again k S).2 := by
  unfold o_again
  by_cases c : eX9_isWithin k 0 1 = 0
  · rw [if_pos c]; exact O
  rw [if_neg c]
  obtain ⟨i, hi, rfl⟩ := (within_0 (hi := 1) (by decide)).mp c
  rw [clamp (by omega)]
  by_cases c2 : S.ks.testBit i = false
  · rw [if_pos c2]; exact O
  rw [if_neg c2]
  exact O.sWU (O.2.2.2.2.2.2.2.1 i (by omega) (by simpa using c2)) (Nat.zero_le _) (fun V hV => by cases hV)
theorem SOk.undo (O : SOk S) : SOk (o_undo S).2 := by
  unfold o_undo
  cases e : S.U.getLast? with
  | none => exact O
  | some V =>
    have hU := O.2.2.2.2.2.2.1
    exact O.sWU (hU V (List.mem_of_getLast? e)) (by rw [List.length_dropLast]; have := O.2.2.2.2.2.1; omega) (fun V' hV' => hU V' ((List.dropLast_sublist S.U).subset hV'))
theorem SOk.sheet (O : SOk S) (kind k f st : Int32) : SOk (o_sheet kind k f st S).2 := by
  have hn := O.1
  have hW := O.2.2.1
  have key : ∀ k2, WGood S.n S.br S.W.lk (S.W.sLv (fa_fill (shV kind k2 f st S.br) S.W.lv S.n)) := fun k2 => by
    refine ⟨⟨hW.1.1, fun j hj => ?_⟩, fun i hi => ?_, hW.2.2.1, hW.2.2.2⟩
    · obtain ⟨a1, a2⟩ := hW.1.2 j hj
      refine ⟨?_, a2⟩
      show fa_fill _ _ S.n j = 0
      rw [fa_fill_out (by omega)]
      exact a1
    · obtain ⟨a1, a2, a3, a4, a5⟩ := hW.2.1 i hi
      refine ⟨a1, ?_, a3, a4, a5⟩
      show Bt (fa_fill (shV kind k2 f st S.br) S.W.lv S.n i) 0 (S.br i).toInt
      rw [fa_fill_in hi]
      unfold shV
      dsimp only
      generalize (if k2 ≤ nI i then 0 else eX9_entryOf kind (f + nI i * st)) = e
      have b1 := a1.1
      have hx : (if S.br i < e then S.br i else e).toInt ≤ (S.br i).toInt := by
        by_cases c2 : S.br i < e
        · rw [if_pos c2]; exact Int.le_refl _
        · rw [if_neg c2]
          rw [lt_i] at c2
          omega
      generalize (if S.br i < e then S.br i else e) = x at hx
      have e0 : (0 : Int32).toInt = 0 := by decide
      by_cases c : 0 < x
      · rw [if_pos c]
        rw [lt_i] at c
        exact ⟨by omega, hx⟩
      · rw [if_neg c]
        exact ⟨by omega, by omega⟩
  unfold o_sheet
  split
  · exact O
  split
  · exact O
  split
  · exact O
  split
  · exact O.sWU (U' := S.U) (key 0) O.2.2.2.2.2.1 O.2.2.2.2.2.2.1
  split
  · exact O
  · exact O.sWU (U' := S.U) (key k) O.2.2.2.2.2.1 O.2.2.2.2.2.2.1
theorem SOk.rule (O : SOk S) : SOk (o_rule S).2 := by
  unfold o_rule
  split
  · exact O.tl0
  · exact O.tl0
theorem SOk.law (O : SOk S) : SOk (o_law S).2 := by
  unfold o_law
  split
  · exact O.tl0
  · exact (O.sRw (by simp)).tl0
theorem yrX_ok (O : SOk S) : ∀ f p W c, WGood S.n S.br S.W.lk W → WGood S.n S.br S.W.lk (yrX S.rv S.br S.dn S.n S.tx S.tl f p W c).2.2
  | 0, _, _, _, h => h
  | f + 1, p, W, c, h => by
    have w := h.act (rv := S.rv) (dn := S.dn) (kind := sgn S.tx S.tl 60 p) (which := sgn S.tx S.tl 80 (p + 1) - 48) (v := if sgn S.tx S.tl 60 p = 103 then sgn S.tx S.tl 60 (p + 2) - 97 else sgn S.tx S.tl 60 (p + 2) - 48) O.1
    rw [yrX]
    split
    · exact h
    · split
      · exact w.1
      · exact yrX_ok O f _ _ _ w.1
theorem SOk.year (O : SOk S) : SOk (o_year S).2 := by
  unfold o_year
  split
  · exact O.tl0
  · have w := yrX_ok O 60 0 S.W 0 O.2.2.1
    obtain ⟨p1, p2⟩ := pushU_ok O
    unfold yrE
    refine SOk.sRw ?_ (by simp)
    split
    · exact (O.sWU (U' := S.U) w O.2.2.2.2.2.1 O.2.2.2.2.2.2.1).tl0
    · exact (O.sWU w p1 p2).tl0
/-! rows are short -/
theorem crsS_len (dn : Nat → Int32) (n : Nat) : ∀ f a, (crsS dn n f a).length ≤ f
  | 0, _ => Nat.le_refl _
  | f + 1, a => by
    rw [crsS]
    split
    · exact Nat.zero_le _
    · have := crsS_len dn n f (dn a.toNatClampNeg)
      simp
      exact this
theorem hrS_len (tx : Nat → Nat) (n : Nat) (W : pW) (m : Nat) : ∀ k, (hrS tx n W m k).2.length = k
  | 0 => rfl
  | k + 1 => by
    have := hrS_len tx n W m k
    rw [hrS, hrStep]
    split <;> simp [this]
theorem rsS_len (v : Int32) : ∀ k, (rsS v k).2.length ≤ 2
  | 0 => by show (0 : Nat) ≤ 2; decide
  | k + 1 => by
    have := rsS_len v k
    rw [rsS]
    split
    · dsimp only
      split
      · simp
      · exact this
    · exact this
theorem heirs_len {tx : Nat → Nat} {tl : Nat} (h : hrFault tx tl = none) : tl ≤ 6 := by
  rcases Nat.lt_or_ge 6 tl with z | z
  · exfalso
    unfold hrFault at h
    rw [if_neg (by omega)] at h
    obtain ⟨i, i1, -⟩ := fday_some (p := fun p => eX9_isKingSign (sgn tx tl 6 p) = 0) (f := tl) (k := 0) (j := 6) (Nat.zero_le _) (by omega) (by
      unfold sgn
      rw [if_neg (fun w => by omega)]
      decide)
    rw [i1] at h
    cases h
  · exact z
theorem SOk.heirs (O : SOk S) : SOk ((S.sRw (s_heirs S.tx S.n S.W S.tl S.rw).2).sTl 0) := by
  refine (O.sRw ?_).tl0
  unfold s_heirs
  cases e : hrFault S.tx S.tl with
  | some p => exact O.len
  | none =>
    show (hrS S.tx S.n S.W S.tl S.tl).2.length ≤ 6
    rw [hrS_len]
    exact heirs_len e
theorem SOk.lakes (O : SOk S) : SOk (o_lakes S).2 := by
  have hn := O.1
  unfold o_lakes
  split
  · exact O
  dsimp only
  split
  · rename_i c1 c2
    -- every line that comes stands
    have good : ∀ f k c, lnS S.tx S.tl S.n f k = (true, c) → (∀ q, q < k → lineF S.tx S.tl (7 * q) (S.n + q) = none) → ∀ q, q < c → lineF S.tx S.tl (7 * q) (S.n + q) = none := by
      intro f
      induction f with
      | zero => intro k c h; rw [lnS] at h; cases h
      | succ f ih =>
        intro k c h hk
        rw [lnS] at h
        cases el : lineF S.tx S.tl (7 * k) (S.n + k) with
        | some q => rw [el] at h; cases h
        | none =>
          rw [el] at h
          dsimp only at h
          have hk1 : ∀ q, q < k + 1 → lineF S.tx S.tl (7 * q) (S.n + q) = none := fun q hq => by
            by_cases e : q = k
            · rw [e]; exact el
            · exact hk q (by omega)
          split at h
          · cases h; exact hk1
          · split at h
            · cases h
            · exact ih (k + 1) c h hk1
    have hall : ∀ q, q < (lnS S.tx S.tl S.n 6 0).2 → lineF S.tx S.tl (7 * q) (S.n + q) = none := good 6 0 (lnS S.tx S.tl S.n 6 0).2 (Prod.ext c2 rfl) (fun q hq => absurd hq (Nat.not_lt_zero _))
    generalize (lnS S.tx S.tl S.n 6 0).2 = c at hall ⊢
    have hc6 : S.n + c ≤ 6 := by
      rcases Nat.eq_zero_or_pos c with z | z
      · omega
      · have := hall (c - 1) (by omega)
        unfold lineF at this
        by_cases y : 6 ≤ S.n + (c - 1)
        · rw [if_pos y] at this; cases this
        · omega
    have key : ∀ k, k ≤ c → WGood (S.n + k) (addLs k S).br (addLs k S).W.lk (addLs k S).W ∧ DnOk (S.n + k) (addLs k S).dn := by
      intro k
      induction k with
      | zero => intro _; exact ⟨O.2.2.1, O.2.2.2.2.1⟩
      | succ k ih =>
        intro hk
        obtain ⟨w, dd⟩ := ih (by omega)
        obtain ⟨y1, y2, y3, y4, y5, y6, y7⟩ := addLs_q (S := S) k (by omega)
        have hl := hall k (by omega)
        unfold lineF at hl
        rw [if_neg (by omega)] at hl
        split at hl
        · cases hl
        rename_i d1
        split at hl
        · cases hl
        rename_i d2
        split at hl
        · cases hl
        rename_i d3
        split at hl
        · cases hl
        rename_i d4
        split at hl
        · cases hl
        rename_i d5
        split at hl
        · cases hl
        rename_i d6
        have d2a : ¬ eX9_isDigit (sL S.tx S.tl (7 * k + 1)) = 0 := fun z => d2 (Or.inl z)
        have d6 : sL S.tx S.tl (7 * k + 5) = 45 ∨ (¬ eX9_isDigit (sL S.tx S.tl (7 * k + 5)) = 0 ∧ ¬ nI (S.n + k) ≤ sL S.tx S.tl (7 * k + 5) - 48) := Decidable.byContradiction d6
        have s1 := sg80 (dig_ne d1)
        have s2 := sg80 (dig_ne d2a)
        have s3 := sg80 (dig_ne d3)
        have s4 := sg80 (dig_ne d4)
        obtain ⟨j1, hj1, -, f1⟩ := dig_sub d1
        obtain ⟨j2, hj2, -, f2⟩ := dig_sub d2a
        obtain ⟨j3, hj3, -, f3⟩ := dig_sub d3
        obtain ⟨j4, hj4, -, f4⟩ := dig_sub d4
        have ebr : lnBr S.tx S.tl (7 * k) = nI (10 * j1 + j2) := by
          unfold lnBr
          rw [s1, s2, f1, f2, show (10 : Int32) * nI j1 = nI (10 * j1) from pk_mul 10 j1, nI_add]
        have ebr0 : 0 < 10 * j1 + j2 := by
          rcases Nat.eq_zero_or_pos (10 * j1 + j2) with z | z
          · exfalso
            apply d2
            refine Or.inr ((brim0 d1 d2a).mp ?_)
            rw [f1, f2, show (10 : Int32) * nI j1 = nI (10 * j1) from pk_mul 10 j1, nI_add, z]
            rfl
          · exact z
        have eb : Bt (lnBr S.tx S.tl (7 * k)) 1 99 := by
          rw [ebr]
          exact (Bt.lit (by omega)).mono (by omega) (by omega)
        obtain ⟨kk, hkk, ekk⟩ : ∃ kk, kk < 4 ∧ sL S.tx S.tl (7 * k + 4) - 97 = nI kk := by
          have := in_le (c := 97) (k := 4) (by decide) (by rw [king_in]; exact d5)
          obtain ⟨j, hj, e⟩ := this
          exact ⟨j, hj, by rw [e, Nat.add_comm]; exact sub_nI j 97⟩
        have g6 : S.n + k < 6 := by omega
        rw [addLs, addL, if_pos (by omega), y2, y3]
        have wou := w.2.2.1
        refine ⟨⟨⟨?_, fun j hj => ?_⟩, fun i hi => ?_, ?_, fun i hi => ?_⟩, fun i hi => ?_⟩
        · show (addLs k S).W.ou < 64
          exact w.1.1
        · obtain ⟨a1, a2, a3, a4, a5⟩ := w.1.2 j hj
          have hne : j ≠ (addLs k S).n := by rw [y1]; omega
          exact ⟨(upd_ne hne).trans a1, (upd_ne hne).trans a2, (upd_ne hne).trans a3, (upd_ne hne).trans a4, (upd_ne hne).trans a5⟩
        · show Bt (upd (addLs k S).br (addLs k S).n (lnBr S.tx S.tl (7 * k)) i) 1 99 ∧ Bt (upd (addLs k S).W.lv (addLs k S).n (lnBr S.tx S.tl (7 * k)) i) 0 (upd (addLs k S).br (addLs k S).n (lnBr S.tx S.tl (7 * k)) i).toInt ∧ Bt (upd (addLs k S).W.tp (addLs k S).n (sgn S.tx S.tl 80 (7 * k + 2) - 48) i) 0 9 ∧ Bt (upd (addLs k S).W.lk (addLs k S).n (sgn S.tx S.tl 80 (7 * k + 3) - 48) i) 0 18 ∧ Bt (upd (addLs k S).W.hr (addLs k S).n 0 i) 0 9
          rw [y1, s3, s4, f3, f4]
          unfold upd
          by_cases e : i = S.n + k
          · rw [if_pos e, if_pos e, if_pos e, if_pos e, if_pos e]
            exact ⟨eb, ⟨by have := eb.1; omega, Int.le_refl _⟩, (Bt.lit (by omega)).mono (by omega) (by omega), (Bt.lit (by omega)).mono (by omega) (by omega), Bt.z.mono (by omega) (by omega)⟩
          · rw [if_neg e, if_neg e, if_neg e, if_neg e, if_neg e]
            exact w.2.1 i (by omega)
        · show (addLs k S).W.ou < 2 ^ (S.n + (k + 1))
          exact Nat.lt_trans wou (Nat.pow_lt_pow_right (by decide) (by omega))
        · refine ⟨rfl, ?_⟩
          show Bt (upd (addLs k S).W.lk (addLs k S).n (sgn S.tx S.tl 80 (7 * k + 3) - 48) i) 0 9 ∧ ∃ k2, k2 < 4 ∧ upd (addLs k S).W.kg (addLs k S).n (sL S.tx S.tl (7 * k + 4) - 97) i = nI k2
          rw [y1, s4, f4, ekk]
          unfold upd
          by_cases e : i = S.n + k
          · rw [if_pos e, if_pos e]
            exact ⟨(Bt.lit (by omega)).mono (by omega) (by omega), kk, hkk, rfl⟩
          · rw [if_neg e, if_neg e]
            exact (w.2.2.2 i (by omega)).2
        · show upd (addLs k S).dn (addLs k S).n (lnDn S.tx S.tl (7 * k)) i = -1 ∨ ∃ j, j < i ∧ upd (addLs k S).dn (addLs k S).n (lnDn S.tx S.tl (7 * k)) i = nI j
          rw [y1]
          unfold upd
          by_cases e : i = S.n + k
          · rw [if_pos e]
            unfold lnDn
            by_cases c45 : sL S.tx S.tl (7 * k + 5) = 45
            · rw [if_pos c45]; exact Or.inl rfl
            · rw [if_neg c45]
              obtain ⟨z1, z2⟩ := d6.resolve_left c45
              obtain ⟨j, hj, -, f6⟩ := dig_sub z1
              rw [f6, nI_leI (by omega) (by omega)] at z2
              exact Or.inr ⟨j, by omega, f6⟩
          · rw [if_neg e]
            exact dd i (by omega)
    obtain ⟨w, dd⟩ := key c (Nat.le_refl _)
    obtain ⟨y1, y2, y3, y4, y5, y6, y7⟩ := addLs_q (S := S) c hc6
    refine ⟨?_, Nat.zero_le _, ?_, ?_, ?_, Nat.zero_le _, (fun V hV => by cases hV), fun i hi hb => ?_, (by decide : (0 : Nat) < 4), ?_⟩
    · show (addLs c S).n ≤ 6
      omega
    · show WGood (addLs c S).n (addLs c S).br (addLs c S).W.lk (addLs c S).W
      rw [y1]; exact w
    · show RgsOk (addLs c S).n (addLs c S).R
      rw [y1, y5]
      refine ⟨O.2.2.2.1.1, fun j hj => ?_⟩
      obtain ⟨⟨a, ha, ea⟩, b⟩ := O.2.2.2.1.2 j hj
      exact ⟨⟨a, by omega, ea⟩, b⟩
    · show DnOk (addLs c S).n (addLs c S).dn
      rw [y1]; exact dd
    · have hb : (0 : Nat).testBit i = true := hb
      rw [Nat.zero_testBit] at hb
      cases hb
    · show (addLs c S).rw.length ≤ 6
      rw [y7]; exact O.len
  · exact O.tl0
end SOKS
