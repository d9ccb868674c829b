/-! ===== reads, the class ===== -/
theorem Bt_nI {x : Int32} {b : Nat} (h : Bt x 0 b) : x = nI x.toNatClampNeg ∧ x.toNatClampNeg ≤ b := by
  have h1 := h.1
  have h2 := h.2
  have e : x.toNatClampNeg = x.toInt.toNat := rfl
  have hlt : x.toInt < 2 ^ 31 := x.toInt_lt
  refine ⟨?_, by omega⟩
  rw [eq_i]
  have := (Bt.lit (n := x.toNatClampNeg) (by omega)).1
  have h4 := (Bt.lit (n := x.toNatClampNeg) (by omega)).2
  omega
section CR
variable {Ex : State → Nat → Prop} {Q : Option Value → pz_H → Prop} {d bc bs : Nat} {h : pz_H} {x rF n t : Nat} {br dn : Nat → Int32} {W T : pW} {rv : pRV} {rw : List Int64} {R : pG} {mk al : Nat → Int32} {len : Nat}
theorem CQ.size {s : Nat} (C : CQ h x rF n br dn W T rv rw) : CQ (s, h.2) x rF n br dn W T rv rw := C
theorem q_scan {rO : Nat} {ks : Nat} {dw : Int32} {L : List Nat} (C : CQ h x rF n br dn W T rv rw) (HTop : Top h x rF rO (some t) ks dw) (HD : Tid h t mk al L.length) (ht : x + 132 ≤ t) (hL : L = FL (fitK rv br dn n R W) (9 * n)) (hL0 : L ≠ []) (hM : MkOk rv br dn n W mk L) (hRg : Rg n br W) (hlk : ∀ i, i < n → Bt (W.lk i) 0 9) (hd : 6 ≤ d)
    (hq : ∀ h' al', CQ h' x rF n br dn W T rv (s_reads rv br dn n R W rw).2 → Tid h' t mk al' L.length → Fr (TL x rF t) h h' → Q (some (.int (s_reads rv br dn n R W rw).1)) h') : pz_V mX9_reads Ex Q d bc bs 27 [(0, .ref x), (1, .ref t), (2, .int (nI (L.length + 1))), (3, .int 0), (4, .int 0)] [] h := by
  have hr := C.1
  have hn := C.2.1
  have nX : x ∉ TL x rF t := by simp; omega
  have sub2 : ∀ {h1 h2 : pz_H}, Fr [t, t + 1, t + 2] h1 h2 → Fr (TL x rF t) h1 h2 := fun hF => hF.mono (fun b hb => by simp at hb ⊢; omega)
  have hLl : L.length ≤ 54 := by rw [hL]; have := FL_len (fitK rv br dn n R W) (9 * n); omega
  have hLp : 0 < L.length := List.length_pos_iff.mpr hL0
  have hms : ∀ j, mostS rv br dn n R W j = mxV (cn (lvK rv br dn n W (j / 21) (j % 21)) L) 100 := fun j => by rw [hL]; rfl
  have hml : ∀ j, mostS rv br dn n R W j ≤ L.length := fun j => by rw [hms]; exact mxV_le (fun v _ => cn_le _ _ _)
  unfold s_reads at hq
  rw [← hL, if_neg hL0] at hq
  -- the state of the scan
  have inner : ∀ i, i < n → (∀ (h5 : pz_H) (al5 : Nat → Int32) (fe ne : Int32), CQ h5 x rF n br dn W T rv rw → Tid h5 t mk al5 L.length → Fr (TL x rF t) h h5 → ((rdS (mostS rv br dn n R W) (21 * i + 21) = none ∧ fe = nI (L.length + 1)) ∨ ∃ b v, rdS (mostS rv br dn n R W) (21 * i + 21) = some (b, v) ∧ v ≤ L.length ∧ fe = nI v ∧ ne = nI b) → pz_V mX9_reads Ex Q d bc bs 27 [(0, .ref x), (1, .ref t), (2, .int fe), (3, .int ne), (4, .int (nI (i + 1)))] [] h5) →
      ∀ q k (h5 : pz_H) (al5 : Nat → Int32) (fe ne : Int32), k + q = 21 → CQ h5 x rF n br dn W T rv rw → Tid h5 t mk al5 L.length → Fr (TL x rF t) h h5 → ((rdS (mostS rv br dn n R W) (21 * i + k) = none ∧ fe = nI (L.length + 1)) ∨ ∃ b v, rdS (mostS rv br dn n R W) (21 * i + k) = some (b, v) ∧ v ≤ L.length ∧ fe = nI v ∧ ne = nI b) → pz_V mX9_reads Ex Q d bc bs 42 [(0, .ref x), (1, .ref t), (2, .int fe), (3, .int ne), (4, .int (nI i)), (5, .int (nI k))] [] h5 := by
    intro i hi hnext q
    induction q with
    | zero =>
      intro k h5 al5 fe ne hk C5 HD5 hF5 hst
      have e : k = 21 := hk
      subst e
      refine wX9_reads_42 hd ⟨fun _ => ?_, fun hc => absurd (nI_lt (a := 20) (b := 21) (by decide) (by decide)) hc⟩
      rw [nI_1]
      exact hnext h5 al5 fe ne C5 HD5 hF5 hst
    | succ q ih =>
      intro k h5 al5 fe ne hk C5 HD5 hF5 hst
      have ec : rdS (mostS rv br dn n R W) (21 * i + (k + 1)) = match rdS (mostS rv br dn n R W) (21 * i + k) with | none => some (21 * i + k, mostS rv br dn n R W (21 * i + k)) | some (b, v) => if mostS rv br dn n R W (21 * i + k) < v then some (21 * i + k, mostS rv br dn n R W (21 * i + k)) else some (b, v) := rfl
      have em := hms (21 * i + k)
      rw [show (21 * i + k) / 21 = i by omega, show (21 * i + k) % 21 = k by omega] at em
      have hl := hml (21 * i + k)
      refine wX9_reads_42 hd ⟨fun hc => absurd hc (nI_nlt (a := 20) (by omega) (by decide)), fun _ => ⟨HD5.i.mpr trivial, ?_⟩⟩
      refine t_alike (g := lvK rv br dn n W i k) HD5 (by omega) (by omega) hLl (fun z hz => ?_) (by omega) (fun h6 al6 HD6 hF6 => ⟨_, rfl, ?_⟩)
      · rw [hM z hz k (by omega) i (by omega)]
        have hb := ((Rg.leakW (i := L.getD z 0 / 9) (m := L.getD z 0 % 9 + 1) hRg hlk (by omega)).days (rv := rv) (dn := dn) hn k).lv hi
        have := Bt_nI (b := 99) hb
        exact ⟨this.1, by have := this.2; unfold lvK; exact Nat.lt_succ_of_le this⟩
      · rw [← em, nI_1]
        have C6 := C5.frT ht hF6
        have hF := hF5.tt (sub2 hF6)
        have e21 : (21 : Int32) * nI i + nI k = nI (21 * i + k) := by
          rw [show (21 : Int32) = nI 21 from rfl, mul_nI, nI_add]
        rw [e21]
        have take : rdS (mostS rv br dn n R W) (21 * i + (k + 1)) = some (21 * i + k, mostS rv br dn n R W (21 * i + k)) → pz_V mX9_reads Ex Q d bc bs 42 [(0, .ref x), (1, .ref t), (2, .int (nI (mostS rv br dn n R W (21 * i + k)))), (3, .int (nI (21 * i + k))), (4, .int (nI i)), (5, .int (nI (k + 1)))] [] h6 := fun e => ih (k + 1) h6 al6 _ _ (by omega) C6 HD6 hF (Or.inr ⟨_, _, e, hl, rfl, rfl⟩)
        rcases hst with ⟨e1, e2⟩ | ⟨b, v, e1, hv, e2, e3⟩
        · rw [e1] at ec
          rw [e2]
          exact ⟨fun hle => absurd hle (nI_ge (by omega) (by omega)), fun _ => take ec⟩
        · rw [e1] at ec
          dsimp only at ec
          subst e2
          refine ⟨fun hle => ?_, fun hgt => ?_⟩
          · have hnl : ¬ mostS rv br dn n R W (21 * i + k) < v := fun q => absurd hle (nI_ge q (by omega))
            rw [if_neg hnl] at ec
            exact ih (k + 1) h6 al6 _ ne (by omega) C6 HD6 hF (Or.inr ⟨b, v, ec, hv, rfl, e3⟩)
          · have hlt : mostS rv br dn n R W (21 * i + k) < v := by
              rcases Nat.lt_or_ge (mostS rv br dn n R W (21 * i + k)) v with q | q
              · exact q
              · exact absurd (nI_le q (by omega)) hgt
            rw [if_pos hlt] at ec
            exact take ec
  suffices H : ∀ q i (h5 : pz_H) (al5 : Nat → Int32) (fe ne : Int32), i + q = n → CQ h5 x rF n br dn W T rv rw → Tid h5 t mk al5 L.length → Fr (TL x rF t) h h5 → ((rdS (mostS rv br dn n R W) (21 * i) = none ∧ fe = nI (L.length + 1)) ∨ ∃ b v, rdS (mostS rv br dn n R W) (21 * i) = some (b, v) ∧ v ≤ L.length ∧ fe = nI v ∧ ne = nI b) → pz_V mX9_reads Ex Q d bc bs 27 [(0, .ref x), (1, .ref t), (2, .int fe), (3, .int ne), (4, .int (nI i))] [] h5 from H n 0 h al _ _ (Nat.zero_add _) C HD Fr.rf (Or.inl ⟨rfl, rfl⟩)
  intro q
  induction q with
  | zero =>
    intro i h5 al5 fe ne hi C5 HD5 hF5 hst
    have e : i = n := hi
    subst e
    obtain ⟨hr5, hn5, hWo5, hTo5, ⟨rO5, td5, ks5, dw5, HTop5⟩, ⟨ru5, nx5, HL5⟩, HW5, HT5, ⟨pa5, sk5, th5, len5, src5, at5, HR5, hv5⟩, ⟨nu5, HRow5, hrow5⟩⟩ := id C5
    refine wX9_reads_27 hd ?_
    simp only [HTop5.g0, HTop5.g1, HTop5.g2, HTop5.g3, HTop5.g4, HTop5.g5, HTop5.g6, HTop5.g7, HTop5.g8, HTop5.g9, HTop5.g10, HTop5.g11, HTop5.g12, HTop5.g13, HTop5.g15, HTop5.g16, HTop5.i, HL5.g0, HL5.g1, HL5.g2, HL5.g3, HL5.g4, HL5.i, HL5.r0, HL5.r1, HW5.g0, HW5.g1, HW5.g2, HW5.g3, HW5.g4, HW5.g5, HW5.g6, HW5.g7, HW5.g8, HW5.i, HW5.r0, HW5.r1, HW5.r2, HW5.r3, HW5.r4, HT5.g0, HT5.g1, HT5.g2, HT5.g3, HT5.g4, HT5.g5, HT5.g6, HT5.g7, HT5.g8, HT5.i, HT5.r0, HT5.r1, HT5.r2, HT5.r3, HT5.r4, HR5.i, HRow5.i, true_and]
    refine ⟨fun _ => q_tell C5 (by omega) (fun h6 C6 hF6 => ⟨rfl, ?_⟩), fun hc => absurd (nI_le (Nat.le_refl _) (by omega)) hc⟩
    have hi0 : 0 < i := by
      rcases Nat.eq_zero_or_pos i with q | q
      · subst q
        rw [hL] at hLp
        exact absurd hLp (Nat.not_lt_zero _)
      · exact q
    rcases hst with ⟨e1, -⟩ | ⟨b, v, e1, hv, e2, e3⟩
    · exfalso
      obtain ⟨j, hj⟩ : ∃ j, 21 * i = j + 1 := ⟨21 * i - 1, by omega⟩
      rw [hj] at e1
      unfold rdS at e1
      split at e1
      · simp at e1
      · split at e1 <;> simp at e1
    · rw [e1] at hq
      subst e2 e3
      exact hq h6 al5 C6 (HD5.fr hF6 (by intro b hb; simp at hb; omega)) (hF5.tt (hF6.mono (fun b hb => List.mem_cons_of_mem _ (List.mem_cons_of_mem _ (List.mem_cons_of_mem _ hb)))))
  | succ q ih =>
    intro i h5 al5 fe ne hi C5 HD5 hF5 hst
    obtain ⟨hr5, hn5, hWo5, hTo5, ⟨rO5, td5, ks5, dw5, HTop5⟩, ⟨ru5, nx5, HL5⟩, HW5, HT5, ⟨pa5, sk5, th5, len5, src5, at5, HR5, hv5⟩, ⟨nu5, HRow5, hrow5⟩⟩ := id C5
    refine wX9_reads_27 hd ?_
    simp only [HTop5.g0, HTop5.g1, HTop5.g2, HTop5.g3, HTop5.g4, HTop5.g5, HTop5.g6, HTop5.g7, HTop5.g8, HTop5.g9, HTop5.g10, HTop5.g11, HTop5.g12, HTop5.g13, HTop5.g15, HTop5.g16, HTop5.i, HL5.g0, HL5.g1, HL5.g2, HL5.g3, HL5.g4, HL5.i, HL5.r0, HL5.r1, HW5.g0, HW5.g1, HW5.g2, HW5.g3, HW5.g4, HW5.g5, HW5.g6, HW5.g7, HW5.g8, HW5.i, HW5.r0, HW5.r1, HW5.r2, HW5.r3, HW5.r4, HT5.g0, HT5.g1, HT5.g2, HT5.g3, HT5.g4, HT5.g5, HT5.g6, HT5.g7, HT5.g8, HT5.i, HT5.r0, HT5.r1, HT5.r2, HT5.r3, HT5.r4, HR5.i, HRow5.i, true_and]
    exact ⟨fun hc => absurd hc (nI_ge (by omega) (by omega)), fun _ => inner i (by omega) (fun h6 al6 fe6 ne6 C6 HD6 hF6 hst6 => ih (i + 1) h6 al6 fe6 ne6 (by omega) C6 HD6 hF6 hst6) 21 0 h5 al5 fe ne rfl C5 HD5 hF5 hst⟩
theorem new_at (h : pz_H) (e : pz_E) : (pz_new h e).2 h.1 = some e := pz_set_eq _ _ _
theorem new_ne {h : pz_H} {e : pz_E} {b : Nat} (hb : b ≠ h.1) : (pz_new h e).2 b = h.2 b := pz_set_ne hb
theorem new_1 (h : pz_H) (e : pz_E) : (pz_new h e).1 = h.1 + 1 := rfl
/-- the mark's object made -/
theorem t_tidNew (hd : 1 ≤ d) (hbc : 2 ≤ bc) (hbs : 6904 ≤ bs) (ht : t < h.1) (HO : h.2 t = some (aO 7 [.null, .null, .int 0])) (hq : ∀ h', h'.2 t = some (aO 7 [.ref h.1, .ref (h.1 + 1), .int 0]) → h'.2 h.1 = some (aI 6804 (fun _ => 0)) → h'.2 (h.1 + 1) = some (aI 100 (fun _ => 0)) → h'.1 = h.1 + 2 → (∀ b, b ≠ t → b ≠ h.1 → b ≠ h.1 + 1 → h'.2 b = h.2 b) → Q none h') : pz_V mX7_init Ex Q d bc bs 0 [(0, .ref t)] [] h := by
  refine wX7_init_0 hd ⟨by omega, by omega, ?_⟩
  have H1 : (pz_new h (aI 6804 (fun _ => 0))).2 t = some (aO 7 [.null, .null, .int 0]) := (new_ne (by omega)).trans HO
  refine (pF_eq H1 (Nat.le_of_ble_eq_true rfl)).mpr ⟨by omega, by omega, ?_⟩
  have H2 : (pz_new (pz_put (pz_new h (aI 6804 (fun _ => 0))) t (aO 7 ([.null, .null, .int 0].set 0 (.ref h.1)))) (aI 100 (fun _ => 0))).2 t = some (aO 7 [.ref h.1, .null, .int 0]) := (new_ne (by show t ≠ h.1 + 1; omega)).trans (put_at _ _ _)
  refine (pF_eq H2 (Nat.le_of_ble_eq_true rfl)).mpr ?_
  refine hq _ (put_at _ _ _) ?_ ?_ rfl (fun b h1 h2 h3 => ?_)
  · rw [put_ne (by omega), new_ne (by show h.1 ≠ h.1 + 1; omega), put_ne (by omega)]
    exact new_at _ _
  · rw [put_ne (by omega)]
    exact new_at (pz_put (pz_new h (aI 6804 (fun _ => 0))) t (aO 7 ([.null, .null, .int 0].set 0 (.ref h.1)))) _
  · rw [put_ne h1, new_ne (by show b ≠ h.1 + 1; exact h3), put_ne h1, new_ne h2]
theorem c_reads {rO : Nat} {td : Option Nat} {ks : Nat} {dw : Int32} (C : CQ h x rF n br dn W T rv rw) (HTop : Top h x rF rO td ks dw) (htd : td = none ∨ ∃ t mk al len, td = some t ∧ Tid h t mk al len ∧ x + 132 ≤ t) (hx : x + 132 ≤ h.1) (HG : RngT h (x + 102) R) (hR : RgsOk n R) (hRg : Rg n br W) (hlk : ∀ i, i < n → Bt (W.lk i) 0 9) (hd : 6 ≤ d) (hbc : 3 ≤ bc) (hbs : 6907 ≤ bs)
    (hq : ∀ h' T' t' mk' al' len', CQ h' x rF n br dn W T' rv (s_reads rv br dn n R W rw).2 → Top h' x rF rO (some t') ks dw → Tid h' t' mk' al' len' → (td = some t' ∧ h'.1 = h.1 ∨ td = none ∧ t' = h.1 ∧ h'.1 = h.1 + 3) → (∀ b, b ≠ x → b ∉ TL x rF t' → h'.2 b = h.2 b) → Q (some (.int (s_reads rv br dn n R W rw).1)) h') : pz_V mX9_reads Ex Q d bc bs 0 [(0, .ref x)] [] h := by
  have hr := C.1
  have hn := C.2.1
  -- from the marks taken on
  have go : ∀ (h1 : pz_H) (T1 : pW) (t : Nat) (mk al : Nat → Int32) (rO1 : Nat), CQ h1 x rF n br dn W T1 rv rw → Top h1 x rF rO (some t) ks dw → Tid h1 t mk al (FL (fitK rv br dn n R W) (9 * n)).length → x + 132 ≤ t → MkOk rv br dn n W mk (FL (fitK rv br dn n R W) (9 * n)) → (td = some t ∧ h1.1 = h.1 ∨ td = none ∧ t = h.1 ∧ h1.1 = h.1 + 3) → (∀ b, b ≠ x → b ∉ TL x rF t → h1.2 b = h.2 b) →
      pz_is h1 t 7 ∧ (pz_gI h1 t 7 2 (fun (x3 : Int32) => (¬ x3 = 0 → pz_is h1 t 7 ∧ (pz_gI h1 t 7 2 (fun (x4 : Int32) => pz_V mX9_reads Ex Q d (bc - 3) (bs - 6907) 27 [(0, .ref x), (1, .ref t), (2, .int (x4 + ((1 : Int32)))), (3, .int 0), (4, .int 0)] [] h1))) ∧ (x3 = 0 → Q (some (.int ((-2)))) h1))) := by
    intro h1 T1 t mk al _ C1 HTop1 HD1 ht hM hcase hfr
    have hll := FL_len (fitK rv br dn n R W) (9 * n)
    refine ⟨HD1.i.mpr trivial, HD1.g2.mpr ⟨fun hne => ⟨HD1.i.mpr trivial, HD1.g2.mpr ?_⟩, fun he => ?_⟩⟩
    · rw [nI_1]
      have hL0 : FL (fitK rv br dn n R W) (9 * n) ≠ [] := fun e => hne (by rw [e]; rfl)
      exact q_scan C1 HTop1 HD1 ht rfl hL0 hM hRg hlk hd (fun h2 al2 C2 HD2 hF2 => hq h2 T1 t mk al2 _ C2 (HTop1.fr hF2 (by simp; omega)) HD2 (by rcases hcase with ⟨e1, e2⟩ | ⟨e1, e2, e3⟩; exact Or.inl ⟨e1, hF2.1.trans e2⟩; exact Or.inr ⟨e1, e2, hF2.1.trans e3⟩) (fun b hb hb2 => (hF2.2 b hb2).trans (hfr b hb hb2)))
    · have e0 : FL (fitK rv br dn n R W) (9 * n) = [] := by
        rcases Nat.eq_zero_or_pos (FL (fitK rv br dn n R W) (9 * n)).length with q | q
        · exact List.eq_nil_of_length_eq_zero q
        · exact absurd he (nI_ne0 q (by omega))
      unfold s_reads at hq
      rw [if_pos e0] at hq
      exact hq h1 T1 t mk al _ C1 HTop1 HD1 hcase hfr
  refine wX9_reads_0 hd ⟨⟨hbc, hbs⟩, HTop.i.mpr trivial, ?_⟩
  refine wX9_takeTidemarks_0 (by omega) (HTop.g14.mpr ⟨fun t ht => ?_, fun hno => ?_⟩)
  · rcases htd with e | ⟨t', mk, al, len, e, HD, hxt⟩
    · rw [e] at ht; cases ht
    · have : t' = t := by rw [e] at ht; cases ht; rfl
      subst this
      subst e
      refine (HTop.h14 rfl).mpr (HTop.q14.mpr ?_)
      have HTop2 := HTop.w14 t'
      have hF2 : Fr [x] h (pz_put h x (aO 9 [.ref (x + 1), .ref (x + 3), .ref (x + 5), .ref (x + 10), .ref (x + 16), .ref (x + 22), .ref (x + 28), .ref (x + 102), .ref (x + 106), .ref (x + 109), .ref (x + 110), .ref (x + 111), .ref rF, .ref rO, .ref t', .int (nI ks), .int dw])) := fr_1 (by simp)
      have C2 := C.dwT (dw := dw) hF2 HTop2
      have HD2 := HD.fr hF2 (by intro b hb; simp at hb; omega)
      refine ⟨HD2.i.mpr trivial, HD2.p2.mpr ?_⟩
      have hF1 : Fr [t', t' + 1, t' + 2] (pz_put h x (aO 9 [.ref (x + 1), .ref (x + 3), .ref (x + 5), .ref (x + 10), .ref (x + 16), .ref (x + 22), .ref (x + 28), .ref (x + 102), .ref (x + 106), .ref (x + 109), .ref (x + 110), .ref (x + 111), .ref rF, .ref rO, .ref t', .int (nI ks), .int dw])) (pz_put (pz_put h x (aO 9 [.ref (x + 1), .ref (x + 3), .ref (x + 5), .ref (x + 10), .ref (x + 16), .ref (x + 22), .ref (x + 28), .ref (x + 102), .ref (x + 106), .ref (x + 109), .ref (x + 110), .ref (x + 111), .ref rF, .ref rO, .ref t', .int (nI ks), .int dw])) t' (aO 7 [.ref (t' + 1), .ref (t' + 2), .int (nI 0)])) := fr_1 (by simp)
      refine q_tide (Kp := fun _ => True) (C2.frT hxt hF1) (HTop2.fr hF1 (by simp; omega)) (HD2.u2 0) hxt ((HG.fr hF2 (by intro b hb; simp at hb; omega)).fr hF1 (by intro b hb; simp at hb; omega)) hR (by omega) (fun h5 T5 mk5 C5 HD5 hF5 hM5 => ⟨_, rfl, ?_⟩)
      refine go h5 T5 t' mk5 al rO C5 (HTop2.fr ((hF1.mono (l2 := TL x rF t') (by intro b hb; simp at hb ⊢; omega)).tt hF5) (by simp; omega)) HD5 hxt hM5 (Or.inl ⟨rfl, hF5.1⟩) (fun b hb hb2 => ?_)
      rw [hF5.2 b hb2]
      simp at hb2
      rw [put_ne hb2.1, put_ne hb]
  · subst hno
    refine ⟨by omega, by omega, ⟨by omega, by omega⟩, ?_⟩
    refine t_tidNew (h := pz_new h (aO 7 [.null, .null, .int 0])) (t := h.1) (by omega) (Nat.le_refl _) (Nat.le_refl _) (Nat.lt_succ_self _) (new_at _ _) (fun h1 e1 e2 e3 e4 e5 => ⟨rfl, ?_⟩)
    have e4 : h1.1 = h.1 + 3 := e4
    have e2 : h1.2 (h.1 + 1) = some (aI 6804 (fun _ => 0)) := e2
    have e3 : h1.2 (h.1 + 2) = some (aI 100 (fun _ => 0)) := e3
    have e1 : h1.2 h.1 = some (aO 7 [.ref (h.1 + 1), .ref (h.1 + 2), .int (nI 0)]) := e1
    have fr1 : ∀ b, b ≠ h.1 → b ≠ h.1 + 1 → b ≠ h.1 + 2 → h1.2 b = h.2 b := fun b g1 g2 g3 => (e5 b g1 g2 g3).trans (new_ne g1)
    have HD1 : Tid h1 h.1 (fun _ => 0) (fun _ => 0) 0 := ⟨e1, e2, e3⟩
    have hFs : Fr [h.1, h.1 + 1, h.1 + 2] (h1.1, h.2) h1 := ⟨rfl, fun b hb => by simp at hb; exact fr1 b hb.1 hb.2.1 hb.2.2⟩
    have C1 := (C.size (s := h1.1)).frT hx hFs
    have HTop1 : Top h1 x rF rO none ks dw := Top.fr (h := (h1.1, h.2)) HTop hFs (by simp; omega)
    have HG1 : RngT h1 (x + 102) R := Rng.fr (h := (h1.1, h.2)) HG hFs (by intro b hb; simp at hb; omega)
    refine HTop1.q14.mpr ?_
    have HTop2 := HTop1.w14 h.1
    have hF2 : Fr [x] h1 (pz_put h1 x (aO 9 [.ref (x + 1), .ref (x + 3), .ref (x + 5), .ref (x + 10), .ref (x + 16), .ref (x + 22), .ref (x + 28), .ref (x + 102), .ref (x + 106), .ref (x + 109), .ref (x + 110), .ref (x + 111), .ref rF, .ref rO, .ref h.1, .int (nI ks), .int dw])) := fr_1 (by simp)
    have C2 := C1.dwT (dw := dw) hF2 HTop2
    have HD2 := HD1.fr hF2 (by intro b hb; simp at hb; omega)
    refine ⟨HD2.i.mpr trivial, HD2.p2.mpr ?_⟩
    have hF3 : Fr [h.1, h.1 + 1, h.1 + 2] (pz_put h1 x (aO 9 [.ref (x + 1), .ref (x + 3), .ref (x + 5), .ref (x + 10), .ref (x + 16), .ref (x + 22), .ref (x + 28), .ref (x + 102), .ref (x + 106), .ref (x + 109), .ref (x + 110), .ref (x + 111), .ref rF, .ref rO, .ref h.1, .int (nI ks), .int dw])) (pz_put (pz_put h1 x (aO 9 [.ref (x + 1), .ref (x + 3), .ref (x + 5), .ref (x + 10), .ref (x + 16), .ref (x + 22), .ref (x + 28), .ref (x + 102), .ref (x + 106), .ref (x + 109), .ref (x + 110), .ref (x + 111), .ref rF, .ref rO, .ref h.1, .int (nI ks), .int dw])) h.1 (aO 7 [.ref (h.1 + 1), .ref (h.1 + 2), .int (nI 0)])) := fr_1 (by simp)
    refine pz_mono (Nat.le_refl _) (Nat.zero_le _) (Nat.zero_le _) (q_tide (Kp := fun _ => True) (C2.frT hx hF3) (HTop2.fr hF3 (by simp; omega)) (HD2.u2 0) hx ((HG1.fr hF2 (by intro b hb; simp at hb; omega)).fr hF3 (by intro b hb; simp at hb; omega)) hR (by omega) (fun h5 T5 mk5 C5 HD5 hF5 hM5 => ⟨_, rfl, ?_⟩))
    refine go h5 T5 h.1 mk5 _ rO C5 (HTop2.fr ((hF3.mono (l2 := TL x rF h.1) (by intro b hb; simp at hb ⊢; omega)).tt hF5) (by simp; omega)) HD5 hx hM5 (Or.inr ⟨rfl, rfl, hF5.1.trans e4⟩) (fun b hb hb2 => ?_)
    rw [hF5.2 b hb2]
    simp at hb2
    rw [put_ne hb2.1, put_ne hb]
    exact fr1 b hb2.1 hb2.2.1 hb2.2.2.1
end CR
