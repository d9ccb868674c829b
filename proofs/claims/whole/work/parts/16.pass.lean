/-! ===== passDay, passDays ===== -/
section PD
variable {Ex : State → Nat → Prop} {Q : Option Value → pz_H → Prop} {d bc bs : Nat} {h : pz_H} {ld w r n len : Nat} {br dn ru nx pa sk th : Nat → Int32} {src : Option Nat} {at_ : Int32} {W : pW} {rv : pRV}
theorem addDn_congr {dn ru ru' : Nat → Int32} {n : Nat} {f g : Nat → Int32} : ∀ (i : Nat), (∀ q, q < i → ru q = ru' q) → (∀ j, j < n → f j = g j) → n ≤ 6 → ∀ j, j < n → addDn dn ru n f i j = addDn dn ru' n g i j
  | 0, _, h, _, j, hj => h j hj
  | i + 1, hr, h, hn, j, hj => by
    have ih : ∀ j, j < n → addDn dn ru n f i j = addDn dn ru' n g i j := fun j hj => addDn_congr i (fun q hq => hr q (by omega)) h hn j hj
    unfold addDn
    by_cases hc : eX1_has (dn i) (nI n) = 0
    · rw [if_pos hc, if_pos hc]
      exact ih j hj
    · rw [if_neg hc, if_neg hc]
      obtain ⟨q, hq, e⟩ := (has_0 hn).mp hc
      rw [e, clamp (by omega), ih q hq, hr i (by omega)]
      unfold upd
      split
      · rfl
      · exact ih j hj
theorem t_passDay (HL : Lnd h ld br dn ru nx n) (HW : WatT h w W) (HR : Rul h r pa sk th len src at_) (hn : n ≤ 6) (ho : W.ou < 64) (hv : RVal pa len rv) (hA : Ap3 ld w r) (hd : 3 ≤ d)
    (hq : ∀ h' ru' nx' sk' th', Lnd h' ld br dn ru' nx' n → WatT h' w (dayW rv br dn n W) → Rul h' r pa sk' th' len src at_ → Fr [ld + 3, ld + 4, w, w + 1, w + 2, r + 2, r + 3] h h' → Q none h') :
    pz_V mX1_passDay Ex Q d bc bs 0 [(0, .ref ld), (1, .ref w), (2, .ref r)] [] h := by
  have hA' := hA
  obtain ⟨A1, A2, A3⟩ := hA
  refine wX1_passDay_0 hd ?_
  -- the third loop: endDay by endDay
  have loop3 : ∀ (ru' nx' : Nat → Int32), (∀ j, j < n → nx' j = nxF rv br dn n W j) → ∀ (k i : Nat) (h' : pz_H) (sk' th' : Nat → Int32), i + k = n → Lnd h' ld br dn ru' nx' n → WatT h' w (endW nx' br W i) → Rul h' r pa sk' th' len src at_ → Fr [ld + 3, ld + 4, w, w + 1, w + 2, r + 2, r + 3] h h' → pz_V mX1_passDay Ex Q d bc bs 122 [(0, .ref ld), (1, .ref w), (3, .int (nI i))] [] h' := by
    intro ru' nx' hnx k
    induction k with
    | zero =>
      intro i h' sk' th' hi HL' HW' HR' hF'
      have e : i = n := hi
      subst e
      refine wX1_passDay_122 hd (HL'.g4.mpr ⟨fun _ => HW'.g6.mpr (HW'.p6.mpr ?_), fun hc => absurd (nI_le (Nat.le_refl _) (by omega)) hc⟩)
      have eov : ∀ j, j < i → ovr nx' br j = ovr (nxF rv br dn i W) br j := fun j hj => by unfold ovr; rw [hnx j hj]
      have elv : ∀ j, j < i → lvN nx' br j = lvN (nxF rv br dn i W) br j := fun j hj => by unfold lvN; rw [hnx j hj, eov j hj]
      have esp : ∀ q, q ≤ i → spA nx' br W.sp q = spA (nxF rv br dn i W) br W.sp q := by
        intro q
        induction q with
        | zero => intro _; rfl
        | succ q ihq => intro hq; simp only [spA]; rw [ihq (by omega), eov q (by omega)]
      have edr : ∀ q, q ≤ i → drA nx' br W.lv W.dr q = drA (nxF rv br dn i W) br W.lv W.dr q := by
        intro q
        induction q with
        | zero => intro _; rfl
        | succ q ihq => intro hq; simp only [drA]; rw [ihq (by omega), elv q (by omega)]
      have eE : (endW nx' br W i).lv = (dayW rv br dn i W).lv := by
        funext j
        show fa_fill _ _ i j = fa_fill _ _ i j
        unfold fa_fill
        split
        · exact elv j (by assumption)
        · rfl
      refine hq _ ru' nx' sk' th' (HL'.pt (by omega)) ?_ (HR'.pt (by omega)) (hF'.put (by simp))
      have HW2 := HW'.u6 (W.dy + 1)
      show Wat _ w (dayW rv br dn i W).lv _ _ _ _ _ _ (spA (nxF rv br dn i W) br W.sp i) (drA (nxF rv br dn i W) br W.lv W.dr i)
      rw [← eE, ← esp i (Nat.le_refl _), ← edr i (Nat.le_refl _)]
      exact HW2
    | succ k ih =>
      intro i h' sk' th' hi HL' HW' HR' hF'
      refine wX1_passDay_122 hd (HL'.g4.mpr ⟨fun hc => absurd hc (nI_ge (by omega) (by omega)), fun _ => ⟨HL'.i.mpr trivial, ?_⟩⟩)
      refine t_endDay HL' HW' hn (by omega) ho A1 (Nat.le_refl _) (fun h2 HW2 hF2 => ⟨rfl, ?_⟩)
      rw [nI_1]
      refine ih (i + 1) h2 sk' th' (by omega) (HL'.fr hF2 (by intro b hb; simp at hb; omega)) ?_ (HR'.fr hF2 (by intro b hb; simp at hb; omega)) (hF'.tr hF2 (by intro b hb; simp at hb ⊢; omega))
      have e1 : fa_fill (lvN nx' br) W.lv i i = W.lv i := fa_fill_out (Nat.le_refl _)
      have e2 : fa_fill (hrN W.hr W.ou) W.hr i i = W.hr i := fa_fill_out (Nat.le_refl _)
      have e3 : hrN (fa_fill (hrN W.hr W.ou) W.hr i) W.ou i = hrN W.hr W.ou i := by
        generalize fa_fill (hrN W.hr W.ou) W.hr i = g9 at e2
        unfold hrN
        rw [e2]
      have HW3 : Wat h2 w (upd (fa_fill (lvN nx' br) W.lv i) i (lvN nx' br i)) (upd (fa_fill (hrN W.hr W.ou) W.hr i) i (hrN (fa_fill (hrN W.hr W.ou) W.hr i) W.ou i)) W.tp W.lk W.kg W.ou W.dy (spA nx' br W.sp (i + 1)) (if ¬ (fa_fill (lvN nx' br) W.lv i i) ≤ 0 ∧ lvN nx' br i = 0 then (if drA nx' br W.lv W.dr i + 1 < 999 then drA nx' br W.lv W.dr i + 1 else 999) else drA nx' br W.lv W.dr i) := HW2
      rw [e3, e1, fa_fill_succ, fa_fill_succ] at HW3
      exact HW3
  -- the second loop: what runs down
  have loop2 : ∀ (ru' nx0' : Nat → Int32), (∀ j, j < n → ru' j = runI rv br W j) → (∀ j, j < n → nx0' j = nx0 rv br W j) → ∀ (k i : Nat) (h' : pz_H) (sk' th' : Nat → Int32), i + k = n → Lnd h' ld br dn ru' (addDn dn ru' n nx0' i) n → WatT h' w W → Rul h' r pa sk' th' len src at_ → Fr [ld + 3, ld + 4, w, w + 1, w + 2, r + 2, r + 3] h h' → pz_V mX1_passDay Ex Q d bc bs 73 [(0, .ref ld), (1, .ref w), (3, .int (nI i))] [] h' := by
    intro ru' nx0' hru hnx k
    induction k with
    | zero =>
      intro i h' sk' th' hi HL' HW' HR' hF'
      have e : i = n := hi
      subst e
      refine wX1_passDay_73 hd (HL'.g4.mpr ⟨fun _ => ?_, fun hc => absurd (nI_le (Nat.le_refl _) (by omega)) hc⟩)
      exact loop3 ru' _ (addDn_congr i hru hnx hn) i 0 h' sk' th' (Nat.zero_add _) HL' HW' HR' hF'
    | succ k ih =>
      intro i h' sk' th' hi HL' HW' HR' hF'
      have v6 : vp_in (nI i) 6 := vin (by omega) (by decide)
      have nxt : addDn dn ru' n nx0' (i + 1) = if eX1_has (dn i) (nI n) = 0 then addDn dn ru' n nx0' i else upd (addDn dn ru' n nx0' i) (dn i).toNatClampNeg (addDn dn ru' n nx0' i (dn i).toNatClampNeg + ru' i) := rfl
      refine wX1_passDay_73 hd (HL'.g4.mpr ⟨fun hc => absurd hc (nI_ge (by omega) (by omega)), fun _ => HL'.g1.mpr (HL'.r1.mpr ⟨v6, HL'.i.mpr trivial, HL'.g4.mpr ?_⟩)⟩)
      rw [clamp (by omega), nI_1]
      refine ⟨fun hb => ?_, fun hb => HL'.g3.mpr (HL'.g1.mpr (HL'.r1.mpr ⟨v6, ?_⟩))⟩
      · rw [if_pos hb] at nxt
        exact ih (i + 1) h' sk' th' (by omega) (by rw [nxt]; exact HL') HW' HR' hF'
      · rw [if_neg hb] at nxt
        obtain ⟨q, hq', e⟩ := (has_0 hn).mp hb
        rw [clamp (by omega)]
        have vq : vp_in (dn i) 6 := by rw [e]; exact vin (by omega) (by decide)
        refine HL'.r3.mpr ⟨vq, HL'.g2.mpr (HL'.r2.mpr ⟨v6, HL'.s3.mpr ⟨vq, ?_⟩⟩)⟩
        rw [clamp (by omega)]
        refine ih (i + 1) _ sk' th' (by omega) (by rw [nxt]; exact HL'.v3 _) (HW'.pt (by omega)) (HR'.pt (by omega)) (hF'.put (by simp))
  -- the first loop: what runs out
  have loop1 : ∀ (k i : Nat) (h' : pz_H) (sk' th' : Nat → Int32), i + k = n → Lnd h' ld br dn (fa_fill (runI rv br W) ru i) (fa_fill (nx0 rv br W) nx i) n → WatT h' w W → Rul h' r pa sk' th' len src at_ → Fr [ld + 3, ld + 4, w, w + 1, w + 2, r + 2, r + 3] h h' → pz_V mX1_passDay Ex Q d bc bs 2 [(0, .ref ld), (1, .ref w), (2, .ref r), (3, .int (nI i))] [] h' := by
    intro k
    induction k with
    | zero =>
      intro i h' sk' th' hi HL' HW' HR' hF'
      have e : i = n := hi
      subst e
      refine wX1_passDay_2 hd (HL'.g4.mpr ⟨fun _ => ?_, fun hc => absurd (nI_le (Nat.le_refl _) (by omega)) hc⟩)
      exact loop2 _ _ (fun j hj => fa_fill_in hj) (fun j hj => fa_fill_in hj) i 0 h' sk' th' (Nat.zero_add _) HL' HW' HR' hF'
    | succ k ih =>
      intro i h' sk' th' hi HL' HW' HR' hF'
      have v6 : vp_in (nI i) 6 := vin (by omega) (by decide)
      refine wX1_passDay_2 hd (HL'.g4.mpr ⟨fun hc => absurd hc (nI_ge (by omega) (by omega)), fun _ => HL'.g2.mpr ⟨HL'.i.mpr trivial, ?_⟩⟩)
      refine t_runOf HL' HW' HR' hn (by omega) ho hv hA' (Nat.le_refl _) (fun h2 sk2 th2 HR2 hF2 => ⟨_, rfl, ?_⟩)
      have HL2 := HL'.fr hF2 (by intro b hb; simp at hb; omega)
      have HW2 := HW'.fr hF2 (by intro b hb; simp at hb; omega)
      refine HL2.s2.mpr ⟨v6, ?_⟩
      rw [clamp (by omega)]
      have HL3 := HL2.v2 (upd (fa_fill (runI rv br W) ru i) i (runI rv br W i))
      have HW3 := HW2.pt (b := ld + 3) (e := aI 6 (upd (fa_fill (runI rv br W) ru i) i (runI rv br W i))) (by omega)
      have HR3 := HR2.pt (b := ld + 3) (e := aI 6 (upd (fa_fill (runI rv br W) ru i) i (runI rv br W i))) (by omega)
      refine HW3.g0.mpr (HW3.r0.mpr ⟨v6, HL3.g2.mpr (HL3.r2.mpr ⟨v6, HL3.g3.mpr (HW3.g3.mpr (HW3.r3.mpr ⟨v6, HW3.g2.mpr (HW3.r2.mpr ⟨v6, HL3.s3.mpr ⟨v6, ?_⟩⟩)⟩))⟩)⟩)
      rw [clamp (by omega), nI_1]
      have e1 : upd (fa_fill (runI rv br W) ru i) i (runI rv br W i) i = runI rv br W i := pk_us
      rw [e1]
      have HL4 := HL3.v3 (upd (fa_fill (nx0 rv br W) nx i) i (nx0 rv br W i))
      rw [fa_fill_succ, fa_fill_succ] at HL4
      rw [fa_fill_succ] at HW3 HR3
      have e2 : ((W.lv i - runI rv br W i) - (if W.lk i < (W.lv i - runI rv br W i) then W.lk i else (W.lv i - runI rv br W i))) + W.tp i = nx0 rv br W i := rfl
      rw [e2, fa_fill_succ, fa_fill_succ]
      exact ih (i + 1) _ sk2 th2 (by omega) HL4 (HW3.pt (by omega)) (HR3.pt (by omega)) (((hF'.tr hF2 (by intro b hb; simp at hb ⊢; omega)).put (by simp)).put (by simp))
  exact loop1 n 0 h sk th (Nat.zero_add _) HL HW HR Fr.rf
theorem dayW_ou {rv : pRV} {br dn : Nat → Int32} {n : Nat} {W : pW} : (dayW rv br dn n W).ou = W.ou := rfl
theorem daysW_ou {rv : pRV} {br dn : Nat → Int32} {n : Nat} {W : pW} : ∀ k, (daysW rv br dn n k W).ou = W.ou
  | 0 => rfl
  | k + 1 => daysW_ou (W := W) k
theorem t_passDays {m : Nat} (HL : Lnd h ld br dn ru nx n) (HW : WatT h w W) (HR : Rul h r pa sk th len src at_) (hn : n ≤ 6) (ho : W.ou < 64) (hv : RVal pa len rv) (hA : Ap3 ld w r) (hd : 4 ≤ d) (hm : m < 2 ^ 31)
    (hq : ∀ h' ru' nx' sk' th', Lnd h' ld br dn ru' nx' n → WatT h' w (daysW rv br dn n m W) → Rul h' r pa sk' th' len src at_ → Fr [ld + 3, ld + 4, w, w + 1, w + 2, r + 2, r + 3] h h' → Q none h') :
    pz_V mX1_passDays Ex Q d bc bs 0 [(0, .ref ld), (1, .ref w), (2, .ref r), (3, .int (nI m))] [] h := by
  refine wX1_passDays_0 hd ?_
  suffices H : ∀ (k i : Nat) (h' : pz_H) (ru' nx' sk' th' : Nat → Int32), i + k = m → Lnd h' ld br dn ru' nx' n → WatT h' w (daysW rv br dn n i W) → Rul h' r pa sk' th' len src at_ → Fr [ld + 3, ld + 4, w, w + 1, w + 2, r + 2, r + 3] h h' → pz_V mX1_passDays Ex Q d bc bs 3 [(0, .ref ld), (1, .ref w), (2, .ref r), (3, .int (nI m)), (4, .int (nI i))] [] h' from H m 0 h ru nx sk th (Nat.zero_add _) HL HW HR Fr.rf
  intro k
  induction k with
  | zero =>
    intro i h' ru' nx' sk' th' hi HL' HW' HR' hF'
    have e : i = m := hi
    subst e
    exact wX1_passDays_3 hd ⟨fun _ => hq h' ru' nx' sk' th' HL' HW' HR' hF', fun hc => absurd (nI_le (Nat.le_refl _) hm) hc⟩
  | succ k ih =>
    intro i h' ru' nx' sk' th' hi HL' HW' HR' hF'
    refine wX1_passDays_3 hd ⟨fun hc => absurd hc (nI_ge (by omega) hm), fun _ => ⟨HL'.i.mpr trivial, ?_⟩⟩
    refine t_passDay HL' HW' HR' hn (by rw [daysW_ou]; exact ho) hv hA (Nat.le_refl _) (fun h2 ru2 nx2 sk2 th2 HL2 HW2 HR2 hF2 => ⟨rfl, ?_⟩)
    rw [nI_1]
    exact ih (i + 1) h2 ru2 nx2 sk2 th2 (by omega) HL2 HW2 HR2 (hF'.tr hF2 (fun b hb => hb))
end PD
