/-! ===== the class's questions: the world that they need, and its steps ===== -/
theorem within_0 {v : Int32} {hi : Nat} (hh : hi < 2 ^ 31) : ¬ eX9_isWithin v 0 (nI hi) = 0 ↔ ∃ k, k ≤ hi ∧ v = nI k := by
  unfold eX9_isWithin
  constructor
  · intro hq
    split at hq
    · exact absurd rfl hq
    · rename_i h0
      split at hq
      · exact absurd rfl hq
      · rename_i h1
        obtain ⟨j, h3, rfl⟩ := nI_of h0
        refine ⟨j, ?_, rfl⟩
        rcases Nat.lt_or_ge hi j with q | q
        · exact absurd (nI_lt q h3) h1
        · exact q
  · rintro ⟨k, hk, rfl⟩
    rw [if_neg (nI_pos (by omega)), if_neg (nI_nlt hk hh)]
    decide
theorem within_1 {v : Int32} {lo hi : Nat} (hl : lo < 2 ^ 31) (hh : hi < 2 ^ 31) : ¬ eX9_isWithin v (nI lo) (nI hi) = 0 ↔ ∃ k, lo ≤ k ∧ k ≤ hi ∧ v = nI k := by
  unfold eX9_isWithin
  constructor
  · intro hq
    split at hq
    · exact absurd rfl hq
    · rename_i h0
      split at hq
      · exact absurd rfl hq
      · rename_i h1
        have h00 : ¬ v < 0 := fun q => h0 (Int32.lt_of_lt_of_le q (nI_pos' hl))
        obtain ⟨j, h3, rfl⟩ := nI_of h00
        refine ⟨j, ?_, ?_, rfl⟩
        · rcases Nat.lt_or_ge j lo with q | q
          · exact absurd (nI_lt q hl) h0
          · exact q
        · rcases Nat.lt_or_ge hi j with q | q
          · exact absurd (nI_lt q h3) h1
          · exact q
  · rintro ⟨k, hk, hk2, rfl⟩
    rw [if_neg (nI_nlt hk (by omega)), if_neg (nI_nlt hk2 hh)]
    decide
def rowRel (nu : Nat → Int64) (rw : List Int64) : Prop := rw.length ≤ 6 ∧ ∀ i, i < rw.length → nu i = rw.getD i 0
def Wcl (W : pW) : Prop := ∀ j, 6 ≤ j → W.lv j = 0 ∧ W.hr j = 0 ∧ W.tp j = 0 ∧ W.lk j = 0 ∧ W.kg j = 0
def Wok (W : pW) : Prop := W.ou < 64 ∧ Wcl W
theorem Wok.day {rv : pRV} {br dn : Nat → Int32} {n : Nat} {W : pW} (hn : n ≤ 6) (h : Wok W) : Wok (dayW rv br dn n W) := by
  refine ⟨h.1, fun j hj => ?_⟩
  obtain ⟨h1, h2, h3, h4, h5⟩ := h.2 j hj
  refine ⟨?_, ?_, h3, h4, h5⟩
  · show fa_fill _ _ n j = 0
    rw [fa_fill_out (by omega)]; exact h1
  · show fa_fill _ _ n j = 0
    rw [fa_fill_out (by omega)]; exact h2
theorem Wok.days {rv : pRV} {br dn : Nat → Int32} {n : Nat} {W : pW} (hn : n ≤ 6) (h : Wok W) : ∀ k, Wok (daysW rv br dn n k W)
  | 0 => h
  | k + 1 => (Wok.days hn h k).day hn
theorem cpy_cl {f g : Nat → Int32} (hf : ∀ j, 6 ≤ j → f j = 0) (hg : ∀ j, 6 ≤ j → g j = 0) : va_cpy f g 0 0 6 = f := by
  funext j
  unfold va_cpy
  split
  · simp
  · rw [hf j (by omega), hg j (by omega)]
theorem cpy_W {A B : pW} (hA : Wok A) (hB : Wok B) : (va_cpy B.lv A.lv 0 0 6, va_cpy B.hr A.hr 0 0 6, va_cpy B.tp A.tp 0 0 6, va_cpy B.lk A.lk 0 0 6, va_cpy B.kg A.kg 0 0 6, B.ou, B.dy, B.sp, B.dr) = B := by
  rw [cpy_cl (fun j hj => (hB.2 j hj).1) (fun j hj => (hA.2 j hj).1), cpy_cl (fun j hj => (hB.2 j hj).2.1) (fun j hj => (hA.2 j hj).2.1), cpy_cl (fun j hj => (hB.2 j hj).2.2.1) (fun j hj => (hA.2 j hj).2.2.1), cpy_cl (fun j hj => (hB.2 j hj).2.2.2.1) (fun j hj => (hA.2 j hj).2.2.2.1), cpy_cl (fun j hj => (hB.2 j hj).2.2.2.2) (fun j hj => (hA.2 j hj).2.2.2.2)]
def CQ (h : pz_H) (x rF n : Nat) (br dn : Nat → Int32) (W T : pW) (rv : pRV) (rw : List Int64) : Prop :=
  (rF = x + 112 ∨ rF = x + 116) ∧ n ≤ 6 ∧ Wok W ∧ Wok T ∧ (∃ (rO : Nat) (td : Option Nat) (ks : Nat) (dw : Int32), Top h x rF rO td ks dw) ∧ (∃ ru nx, Lnd h (x + 5) br dn ru nx n) ∧ WatT h (x + 10) W ∧ WatT h (x + 22) T ∧
  (∃ (pa sk th : Nat → Int32) (len : Nat) (src : Option Nat) (at_ : Int32), Rul h rF pa sk th len src at_ ∧ RVal pa len rv) ∧ (∃ nu, Row h (x + 3) nu rw.length ∧ rowRel nu rw)
abbrev SC (x rF : Nat) : List Nat := [x + 3, x + 4, x + 8, x + 9, x + 22, x + 23, x + 24, x + 25, x + 26, x + 27, rF + 2, rF + 3]
section CQS
variable {Ex : State → Nat → Prop} {Q : Option Value → pz_H → Prop} {d bc bs : Nat} {h : pz_H} {x rF n : Nat} {br dn : Nat → Int32} {W T : pW} {rv : pRV} {rw : List Int64}
theorem t_copy {w v : Nat} {A B : pW} (HA : WatT h w A) (HB : WatT h v B) (hw : w + 6 ≤ v ∨ v + 6 ≤ w) (hd : 1 ≤ d) (hq : ∀ h', WatT h' w (va_cpy B.lv A.lv 0 0 6, va_cpy B.hr A.hr 0 0 6, va_cpy B.tp A.tp 0 0 6, va_cpy B.lk A.lk 0 0 6, va_cpy B.kg A.kg 0 0 6, B.ou, B.dy, B.sp, B.dr) → Fr [w, w + 1, w + 2, w + 3, w + 4, w + 5] h h' → Q none h') :
    pz_V mX8_copy Ex Q d bc bs 0 [(0, .ref w), (1, .ref v)] [] h := by
  have z0 : ¬ (0 : Int32) < 0 := by decide
  have z6 : ¬ (6 : Int32) < 0 := by decide
  have e0 : (0 : Int32).toNatClampNeg + (6 : Int32).toNatClampNeg ≤ 6 := by decide
  refine wX8_copy_0 hd (HB.g0.mpr (HA.g0.mpr ⟨6, 6, _, _, HB.2.1, HA.2.1, z0, z0, z6, e0, e0, ?_⟩))
  have HA := HA.v0 (va_cpy B.lv A.lv 0 0 6)
  have HB := HB.pt (b := w + 1) (e := aI 6 (va_cpy B.lv A.lv 0 0 6)) (by omega)
  refine HB.g1.mpr (HA.g1.mpr ⟨6, 6, _, _, HB.2.2.1, HA.2.2.1, z0, z0, z6, e0, e0, ?_⟩)
  have HA := HA.v1 (va_cpy B.hr A.hr 0 0 6)
  have HB := HB.pt (b := w + 2) (e := aI 6 (va_cpy B.hr A.hr 0 0 6)) (by omega)
  refine HB.g2.mpr (HA.g2.mpr ⟨6, 6, _, _, HB.2.2.2.1, HA.2.2.2.1, z0, z0, z6, e0, e0, ?_⟩)
  have HA := HA.v2 (va_cpy B.tp A.tp 0 0 6)
  have HB := HB.pt (b := w + 3) (e := aI 6 (va_cpy B.tp A.tp 0 0 6)) (by omega)
  refine HB.g3.mpr (HA.g3.mpr ⟨6, 6, _, _, HB.2.2.2.2.1, HA.2.2.2.2.1, z0, z0, z6, e0, e0, ?_⟩)
  have HA := HA.v3 (va_cpy B.lk A.lk 0 0 6)
  have HB := HB.pt (b := w + 4) (e := aI 6 (va_cpy B.lk A.lk 0 0 6)) (by omega)
  refine HB.g4.mpr (HA.g4.mpr ⟨6, 6, _, _, HB.2.2.2.2.2, HA.2.2.2.2.2, z0, z0, z6, e0, e0, ?_⟩)
  have HA := HA.v4 (va_cpy B.kg A.kg 0 0 6)
  have HB := HB.pt (b := w + 5) (e := aI 6 (va_cpy B.kg A.kg 0 0 6)) (by omega)
  refine HB.g5.mpr (HA.p5.mpr ?_)
  have HA := HA.u5 B.ou
  have HB := HB.pt (b := w) (e := aO 8 [.ref (w + 1), .ref (w + 2), .ref (w + 3), .ref (w + 4), .ref (w + 5), .int (nI B.ou), .int A.dy, .int A.sp, .int A.dr]) (by omega)
  refine HB.g6.mpr (HA.p6.mpr ?_)
  have HA := HA.u6 B.dy
  have HB := HB.pt (b := w) (e := aO 8 [.ref (w + 1), .ref (w + 2), .ref (w + 3), .ref (w + 4), .ref (w + 5), .int (nI B.ou), .int B.dy, .int A.sp, .int A.dr]) (by omega)
  refine HB.g7.mpr (HA.p7.mpr ?_)
  have HA := HA.u7 B.sp
  have HB := HB.pt (b := w) (e := aO 8 [.ref (w + 1), .ref (w + 2), .ref (w + 3), .ref (w + 4), .ref (w + 5), .int (nI B.ou), .int B.dy, .int B.sp, .int A.dr]) (by omega)
  refine HB.g8.mpr (HA.p8.mpr ?_)
  have HA := HA.u8 B.dr
  refine hq _ HA ?_
  exact ((((((((Fr.rf.put (by simp)).put (by simp)).put (by simp)).put (by simp)).put (by simp)).put (by simp)).put (by simp)).put (by simp)).put (by simp)
/-- a copy between two waters -/
theorem t_copy2 {w v : Nat} {A B : pW} (HA : WatT h w A) (HB : WatT h v B) (hA : Wok A) (hB : Wok B) (hw : w + 6 ≤ v ∨ v + 6 ≤ w) (hd : 1 ≤ d) (hq : ∀ h', WatT h' w B → Fr [w, w + 1, w + 2, w + 3, w + 4, w + 5] h h' → Q none h') :
    pz_V mX8_copy Ex Q d bc bs 0 [(0, .ref w), (1, .ref v)] [] h := t_copy HA HB hw hd (fun h' H hF => hq h' (by rw [← cpy_W hA hB]; exact H) hF)
theorem ap_sc (hr : rF = x + 112 ∨ rF = x + 116) : Ap3 (x + 5) (x + 22) rF := ⟨by omega, by omega, by omega⟩
theorem q_start (C : CQ h x rF n br dn W T rv rw) (hd : 2 ≤ d) (hq : ∀ h', CQ h' x rF n br dn W W rv rw → Fr (SC x rF) h h' → Q none h') : pz_V mX9_startTrial Ex Q d bc bs 0 [(0, .ref x)] [] h := by
  obtain ⟨hr, hn, hW, hT, ⟨rO, td, ks, dw, HTop⟩, ⟨ru, nx, HL⟩, HW, HT, ⟨pa, sk, th, len, src, at_, HR, hv⟩, ⟨nu, HRow, hrow⟩⟩ := C
  refine wX9_startTrial_0 hd (HTop.g5.mpr (HTop.g3.mpr ⟨HT.i.mpr trivial, ?_⟩))
  refine t_copy2 HT HW hT hW (by omega) (Nat.le_refl _) (fun h' HT' hF => ⟨rfl, ?_⟩)
  refine hq h' ⟨hr, hn, hW, hW, ⟨rO, td, ks, dw, HTop.fr hF (by simp <;> omega)⟩, ⟨ru, nx, HL.fr hF (by intro b hb; simp at hb; omega)⟩, HW.fr hF (by intro b hb; simp at hb; omega), HT', ⟨pa, sk, th, len, src, at_, HR.fr hF (by intro b hb; simp at hb; omega), hv⟩, ⟨nu, HRow.fr hF (by intro b hb; simp at hb; omega), hrow⟩⟩ (hF.mono (by intro b hb; simp at hb ⊢; omega))
theorem q_day (C : CQ h x rF n br dn W T rv rw) (hd : 3 ≤ d) (hq : ∀ h', CQ h' x rF n br dn W (dayW rv br dn n T) rv rw → Fr (SC x rF) h h' → Q none h') : pz_V mX1_passDay Ex Q d bc bs 0 [(0, .ref (x + 5)), (1, .ref (x + 22)), (2, .ref rF)] [] h := by
  obtain ⟨hr, hn, hW, hT, ⟨rO, td, ks, dw, HTop⟩, ⟨ru, nx, HL⟩, HW, HT, ⟨pa, sk, th, len, src, at_, HR, hv⟩, ⟨nu, HRow, hrow⟩⟩ := C
  refine t_passDay HL HT HR hn hT.1 hv (ap_sc hr) hd (fun h' ru' nx' sk' th' HL' HT' HR' hF => ?_)
  refine hq h' ⟨hr, hn, hW, hT.day hn, ⟨rO, td, ks, dw, HTop.fr hF (by simp <;> omega)⟩, ⟨ru', nx', HL'⟩, HW.fr hF (by intro b hb; simp at hb; omega), HT', ⟨pa, sk', th', len, src, at_, HR', hv⟩, ⟨nu, HRow.fr hF (by intro b hb; simp at hb; omega), hrow⟩⟩ (hF.mono (by intro b hb; simp at hb ⊢; omega))
theorem q_days {m : Nat} (C : CQ h x rF n br dn W T rv rw) (hd : 4 ≤ d) (hm : m < 2 ^ 31) (hq : ∀ h', CQ h' x rF n br dn W (daysW rv br dn n m T) rv rw → Fr (SC x rF) h h' → Q none h') : pz_V mX1_passDays Ex Q d bc bs 0 [(0, .ref (x + 5)), (1, .ref (x + 22)), (2, .ref rF), (3, .int (nI m))] [] h := by
  obtain ⟨hr, hn, hW, hT, ⟨rO, td, ks, dw, HTop⟩, ⟨ru, nx, HL⟩, HW, HT, ⟨pa, sk, th, len, src, at_, HR, hv⟩, ⟨nu, HRow, hrow⟩⟩ := C
  refine t_passDays HL HT HR hn hT.1 hv (ap_sc hr) hd hm (fun h' ru' nx' sk' th' HL' HT' HR' hF => ?_)
  refine hq h' ⟨hr, hn, hW, hT.days hn m, ⟨rO, td, ks, dw, HTop.fr hF (by simp <;> omega)⟩, ⟨ru', nx', HL'⟩, HW.fr hF (by intro b hb; simp at hb; omega), HT', ⟨pa, sk', th', len, src, at_, HR', hv⟩, ⟨nu, HRow.fr hF (by intro b hb; simp at hb; omega), hrow⟩⟩ (hF.mono (by intro b hb; simp at hb ⊢; omega))
/-! the row -/
theorem t_add {a len : Nat} {nu : Nat → Int64} {v : Int64} (H : Row h a nu len) (hl : len < 6) (hq : ∀ h', Row h' a (vp_updL nu len v) (len + 1) → Fr [a, a + 1] h h' → Q none h') : pz_V mX4_add Ex Q d bc bs 0 [(0, .ref a), (1, .long v)] [] h := by
  refine wX4_add_0 (H.g1.mpr (H.g0.mpr (H.l0.mpr ⟨fun hc => absurd hc (nI_ge hl (by decide)), fun _ => H.g0.mpr (H.g1.mpr (H.s0.mpr ⟨vin hl (by decide), ?_⟩))⟩)))
  rw [clamp (by omega)]
  have H2 := H.v0 (vp_updL nu len v)
  refine H2.g1.mpr (H2.p1.mpr ?_)
  rw [nI_1]
  exact hq _ (H2.u1 (len + 1)) ((Fr.rf.put (by simp)).put (by simp))
theorem rowRel.add {nu : Nat → Int64} {rw : List Int64} {v : Int64} (h : rowRel nu rw) (hl : rw.length < 6) : rowRel (vp_updL nu rw.length v) (rw ++ [v]) := by
  refine ⟨by simp; omega, fun i hi => ?_⟩
  simp at hi
  unfold vp_updL
  by_cases e : i = rw.length
  · subst e; simp
  · rw [if_neg e, h.2 i (by omega), List.getD_eq_getElem?_getD, List.getD_eq_getElem?_getD, List.getElem?_append_left (by omega)]
theorem t_addR {a : Nat} {nu : Nat → Int64} {rw : List Int64} {v : Int64} (H : Row h a nu rw.length) (hr : rowRel nu rw) (hl : rw.length < 6) (hq : ∀ h' nu', Row h' a nu' (rw ++ [v]).length → rowRel nu' (rw ++ [v]) → Fr [a, a + 1] h h' → Q none h') : pz_V mX4_add Ex Q d bc bs 0 [(0, .ref a), (1, .long v)] [] h :=
  t_add H hl (fun h' H' hF => hq h' _ (by rw [List.length_append]; exact H') (hr.add hl) hF)
theorem t_tell {a len : Nat} {nu : Nat → Int64} {v : Int64} (H : Row h a nu len) (hd : 1 ≤ d) (hq : ∀ h' nu', Row h' a nu' 1 → rowRel nu' [v] → Fr [a, a + 1] h h' → Q none h') : pz_V mX4_tell Ex Q d bc bs 0 [(0, .ref a), (1, .long v)] [] h := by
  refine wX4_tell_0 hd ⟨H.i.mpr trivial, H.p1.mpr ⟨(H.u1 0).i.mpr trivial, ?_⟩⟩
  exact t_addR (rw := []) (H.u1 0) ⟨by decide, fun i hi => absurd hi (Nat.not_lt_zero i)⟩ (by decide) (fun h' nu' H' hr hF => ⟨rfl, hq h' nu' H' hr (Fr.tr (Fr.rf.put (by simp)) hF (by simp))⟩)
theorem t_tell2 {a len : Nat} {nu : Nat → Int64} {v v2 : Int64} (H : Row h a nu len) (hd : 2 ≤ d) (hq : ∀ h' nu', Row h' a nu' 2 → rowRel nu' [v, v2] → Fr [a, a + 1] h h' → Q none h') : pz_V mX4_tell_ Ex Q d bc bs 0 [(0, .ref a), (1, .long v), (3, .long v2)] [] h := by
  refine wX4_tell__0 hd ⟨H.i.mpr trivial, ?_⟩
  refine t_tell H (Nat.le_refl _) (fun h1 nu1 H1 hr1 hF1 => ⟨rfl, H1.i.mpr trivial, ?_⟩)
  exact t_addR (rw := [v]) H1 hr1 (Nat.le_of_ble_eq_true rfl) (fun h' nu' H' hr hF => ⟨rfl, hq h' nu' H' hr (hF1.tr hF (by simp))⟩)
theorem t_tell3 {a len : Nat} {nu : Nat → Int64} {v v2 v3 : Int64} (H : Row h a nu len) (hd : 3 ≤ d) (hq : ∀ h' nu', Row h' a nu' 3 → rowRel nu' [v, v2, v3] → Fr [a, a + 1] h h' → Q none h') : pz_V mX4_tell__ Ex Q d bc bs 0 [(0, .ref a), (1, .long v), (3, .long v2), (5, .long v3)] [] h := by
  refine wX4_tell___0 hd ⟨H.i.mpr trivial, ?_⟩
  refine t_tell2 H (Nat.le_refl _) (fun h1 nu1 H1 hr1 hF1 => ⟨rfl, H1.i.mpr trivial, ?_⟩)
  exact t_addR (rw := [v, v2]) H1 hr1 (Nat.le_of_ble_eq_true rfl) (fun h' nu' H' hr hF => ⟨rfl, hq h' nu' H' hr (hF1.tr hF (by simp))⟩)
/-- the row told anew, in the world of the questions -/
theorem CQ.row {h' : pz_H} {nu : Nat → Int64} {rw' : List Int64} (C : CQ h x rF n br dn W T rv rw) (hF : Fr [x + 3, x + 3 + 1] h h') (H : Row h' (x + 3) nu rw'.length) (hr : rowRel nu rw') : CQ h' x rF n br dn W T rv rw' := by
  obtain ⟨hrr, hn, hW, hT, ⟨rO, td, ks, dw, HTop⟩, ⟨ru, nx, HL⟩, HW, HT, ⟨pa, sk, th, len, src, at_, HR, hv⟩, _⟩ := C
  exact ⟨hrr, hn, hW, hT, ⟨rO, td, ks, dw, HTop.fr hF (by simp <;> omega)⟩, ⟨ru, nx, HL.fr hF (by intro b hb; simp at hb; omega)⟩, HW.fr hF (by intro b hb; simp at hb; omega), HT.fr hF (by intro b hb; simp at hb; omega), ⟨pa, sk, th, len, src, at_, HR.fr hF (by intro b hb; simp at hb; omega), hv⟩, ⟨nu, H, hr⟩⟩
theorem fr_row {h' : pz_H} (hF : Fr [x + 3, x + 3 + 1] h h') : Fr (SC x rF) h h' := hF.mono (by intro b hb; simp at hb ⊢; omega)
theorem q_tell {v : Int64} (C : CQ h x rF n br dn W T rv rw) (hd : 1 ≤ d) (hq : ∀ h', CQ h' x rF n br dn W T rv [v] → Fr (SC x rF) h h' → Q none h') : pz_V mX4_tell Ex Q d bc bs 0 [(0, .ref (x + 3)), (1, .long v)] [] h := by
  obtain ⟨nu, HRow, hrow⟩ := C.2.2.2.2.2.2.2.2.2
  exact t_tell HRow hd (fun h' nu' H' hr hF => hq h' (C.row hF H' hr) (fr_row hF))
theorem q_tell2 {v v2 : Int64} (C : CQ h x rF n br dn W T rv rw) (hd : 2 ≤ d) (hq : ∀ h', CQ h' x rF n br dn W T rv [v, v2] → Fr (SC x rF) h h' → Q none h') : pz_V mX4_tell_ Ex Q d bc bs 0 [(0, .ref (x + 3)), (1, .long v), (3, .long v2)] [] h := by
  obtain ⟨nu, HRow, hrow⟩ := C.2.2.2.2.2.2.2.2.2
  exact t_tell2 HRow hd (fun h' nu' H' hr hF => hq h' (C.row hF H' hr) (fr_row hF))
theorem q_tell3 {v v2 v3 : Int64} (C : CQ h x rF n br dn W T rv rw) (hd : 3 ≤ d) (hq : ∀ h', CQ h' x rF n br dn W T rv [v, v2, v3] → Fr (SC x rF) h h' → Q none h') : pz_V mX4_tell__ Ex Q d bc bs 0 [(0, .ref (x + 3)), (1, .long v), (3, .long v2), (5, .long v3)] [] h := by
  obtain ⟨nu, HRow, hrow⟩ := C.2.2.2.2.2.2.2.2.2
  exact t_tell3 HRow hd (fun h' nu' H' hr hF => hq h' (C.row hF H' hr) (fr_row hF))
theorem q_add {v : Int64} (C : CQ h x rF n br dn W T rv rw) (hl : rw.length < 6) (hq : ∀ h', CQ h' x rF n br dn W T rv (rw ++ [v]) → Fr (SC x rF) h h' → Q none h') : pz_V mX4_add Ex Q d bc bs 0 [(0, .ref (x + 3)), (1, .long v)] [] h := by
  obtain ⟨nu, HRow, hrow⟩ := C.2.2.2.2.2.2.2.2.2
  exact t_addR HRow hrow hl (fun h' nu' H' hr hF => hq h' (C.row hF H' hr) (fr_row hF))
theorem q_clear {K : pz_H → Prop} (C : CQ h x rF n br dn W T rv rw) (hq : ∀ h', CQ h' x rF n br dn W T rv [] → Fr (SC x rF) h h' → K h') : pz_is h (x + 3) 4 ∧ pz_pF h (x + 3) 4 1 (.int 0) K := by
  obtain ⟨nu, HRow, hrow⟩ := C.2.2.2.2.2.2.2.2.2
  have hF : Fr [x + 3, x + 3 + 1] h (pz_put h (x + 3) (aO 4 [.ref (x + 3 + 1), .int (nI 0)])) := Fr.rf.put (by simp)
  exact ⟨HRow.i.mpr trivial, HRow.p1.mpr (hq _ (C.row hF (HRow.u1 0) ⟨by decide, fun i hi => absurd hi (Nat.not_lt_zero i)⟩) (fr_row hF))⟩
theorem q_total (C : CQ h x rF n br dn W T rv rw) (hd : 2 ≤ d) (hq : Q (some (.int (sumI T.lv n))) h) : pz_V mX1_total Ex Q d bc bs 0 [(0, .ref (x + 5)), (1, .ref (x + 22))] [] h := by
  obtain ⟨hr, hn, hW, hT, ⟨rO, td, ks, dw, HTop⟩, ⟨ru, nx, HL⟩, HW, HT, -⟩ := C
  exact t_total HL HT hn hd hq
theorem q_totalN (C : CQ h x rF n br dn W T rv rw) (hd : 2 ≤ d) (hq : Q (some (.int (sumI W.lv n))) h) : pz_V mX1_total Ex Q d bc bs 0 [(0, .ref (x + 5)), (1, .ref (x + 10))] [] h := by
  obtain ⟨hr, hn, hW, hT, ⟨rO, td, ks, dw, HTop⟩, ⟨ru, nx, HL⟩, HW, HT, -⟩ := C
  exact t_total HL HW hn hd hq
end CQS
