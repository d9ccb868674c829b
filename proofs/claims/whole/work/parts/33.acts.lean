/-! ===== acts: specs, and the class ===== -/
def pushU (U : List pW) (V : pW) : List pW := if U.length = 12 then U.tail ++ [V] else U ++ [V]
section SP
variable (rv : pRV) (br dn : Nat → Int32) (n : Nat)
def actW (kind which v : Int32) (W : pW) : Int32 × pW :=
  if kind.toInt = 110 then (if eX9_isWithin which 0 60 = 0 then (-1, W) else (sumI (daysW rv br dn n which.toNatClampNeg W).lv n, daysW rv br dn n which.toNatClampNeg W))
  else if eX1_has which (nI n) = 0 then (-1, W)
  else if kind.toInt = 112 then (if W.ou.testBit which.toNatClampNeg then (-2, W) else (nI (popc (W.ou ^^^ 2 ^ which.toNatClampNeg)), W.sOu (W.ou ^^^ 2 ^ which.toNatClampNeg)))
  else if kind.toInt = 115 then (if W.ou.testBit which.toNatClampNeg then (nI (popc (W.ou ^^^ 2 ^ which.toNatClampNeg)), W.sOu (W.ou ^^^ 2 ^ which.toNatClampNeg)) else (-2, W))
  else if kind.toInt = 99 then (if W.hr which.toNatClampNeg = 0 then (-2, W) else (W.hr which.toNatClampNeg, W.sHr (upd W.hr which.toNatClampNeg 0)))
  else if kind.toInt = 116 then (if eX9_isWithin v 0 9 = 0 then (-1, W) else if W.tp which.toNatClampNeg = v then (-2, W) else (10 + W.tp which.toNatClampNeg, W.sTp (upd W.tp which.toNatClampNeg v)))
  else if kind.toInt = 103 then (if eX9_isKing v = 0 then (-1, W) else if W.kg which.toNatClampNeg = v then (-2, W) else (10 + W.kg which.toNatClampNeg, W.sKg (upd W.kg which.toNatClampNeg v)))
  else (-1, W)
end SP
def o_act (kind which v : Int32) (S : pS) : pR :=
  let r := actW S.rv S.br S.dn S.n kind which v S.W
  if r.1 < 0 ∨ (kind = 110 ∧ which = 0) then (r.1, S.sW r.2) else (r.1, (S.sW r.2).sU (pushU S.U S.W))
def o_days (m : Int32) (S : pS) : pR :=
  let r := o_act 110 m 0 S
  if r.1 < 0 then r else (r.1, r.2.sRw [(r.2.W.sp - S.W.sp).toInt64, (r.2.W.dr - S.W.dr).toInt64])
def shF (n br lv : Nat → Int32) : Nat → Int32 := lv
/-- a sheet's entry, held to the lake -/
def shV (kind m f st : Int32) (br : Nat → Int32) (i : Nat) : Int32 :=
  let e := if m ≤ nI i then 0 else eX9_entryOf kind (f + nI i * st)
  if 0 < (if br i < e then br i else e) then (if br i < e then br i else e) else 0
def o_sheet (kind m f st : Int32) (S : pS) : pR :=
  if kind < 0 then (-1, S) else if 3 < kind then (-1, S) else if ¬ m ≤ 6 then (-1, S)
  else if kind = 3 then (-3, S.sW (S.W.sLv (fa_fill (shV kind 0 f st S.br) S.W.lv S.n)))
  else if ¬ 0 ≤ m then (-2, S)
  else (sumI (fa_fill (shV kind m f st S.br) S.W.lv S.n) S.n, S.sW (S.W.sLv (fa_fill (shV kind m f st S.br) S.W.lv S.n)))
section CA
variable {Ex : State → Nat → Prop} {Q : Option Value → pz_H → Prop} {d bc bs : Nat} {h h' : pz_H} {x rF rO n : Nat} {td : Option Nat} {dw : Int32} {S : pS} {br dn : Nat → Int32} {W T : pW} {rv : pRV} {rw : List Int64}
abbrev AL (x rF : Nat) : List Nat := [x + 8, x + 9, x + 10, x + 11, x + 12, x + 13, x + 14, x + 15, rF + 2, rF + 3]
theorem fr_W {h' : pz_H} (hF : Fr [x + 10, x + 11, x + 12, x + 13, x + 14, x + 15] h h') : Fr (AL x rF) h h' := hF.mono (by intro b hb; simp at hb ⊢; omega)
theorem n_days {m : Nat} (C : CQ h x rF n br dn W T rv rw) (hd : 4 ≤ d) (hm : m < 2 ^ 31) (hq : ∀ h', CQ h' x rF n br dn (daysW rv br dn n m W) T rv rw → Fr (AL x rF) h h' → Q none h') : pz_V mX1_passDays Ex Q d bc bs 0 [(0, .ref (x + 5)), (1, .ref (x + 10)), (2, .ref rF), (3, .int (nI m))] [] h := by
  obtain ⟨hr, hn, hW, hT, ⟨rO, td, ks, dw, HTop⟩, ⟨ru, nx, HL⟩, HW, HT, ⟨pa, sk, th, len, src, at_, HR, hv⟩, ⟨nu, HRow, hrow⟩⟩ := C
  refine t_passDays HL HW HR hn hW.1 hv ⟨by omega, by omega, by omega⟩ hd hm (fun h' ru' nx' sk' th' HL' HW' HR' hF => ?_)
  refine hq h' ⟨hr, hn, hW.days hn m, hT, ⟨rO, td, ks, dw, HTop.fr hF (by simp <;> omega)⟩, ⟨ru', nx', HL'⟩, HW', HT.fr hF (by intro b hb; simp at hb; omega), ⟨pa, sk', th', len, src, at_, HR', hv⟩, ⟨nu, HRow.fr hF (by intro b hb; simp at hb; omega), hrow⟩⟩ (hF.mono (by intro b hb; simp at hb ⊢; omega))
theorem n_ou {o : Nat} {K : pz_H → Prop} (C : CQ h x rF n br dn W T rv rw) (ho : o < 64) (hq : ∀ h', CQ h' x rF n br dn (W.sOu o) T rv rw → Fr (AL x rF) h h' → K h') : pz_pF h (x + 10) 8 5 (.int (nI o)) K := by
  obtain ⟨hr_, hn_, hWo_, hTo_, ⟨rO_, td_, ks_, dw_, HTop_⟩, ⟨ru_, nx_, HL_⟩, HW_, HT_, ⟨pa_, sk_, th_, len_, src_, at_, HR_, hv_⟩, ⟨nu_, HRow_, hrow_⟩⟩ := id C
  exact HW_.p5.mpr (hq _ (C.setW (fr_1 (by simp)) (HW_.u5 o) (hWo_.sOu ho)) (fr_W (fr_1 (by simp))))
theorem n_lv {i : Nat} {v : Int32} {K : pz_H → Prop} (C : CQ h x rF n br dn W T rv rw) (hi : i < 6) (hq : ∀ h', CQ h' x rF n br dn (W.sLv (upd W.lv i v)) T rv rw → Fr (AL x rF) h h' → K h') : pz_sI h (x + 10 + 1) (nI i) v K := by
  obtain ⟨hr_, hn_, hWo_, hTo_, ⟨rO_, td_, ks_, dw_, HTop_⟩, ⟨ru_, nx_, HL_⟩, HW_, HT_, ⟨pa_, sk_, th_, len_, src_, at_, HR_, hv_⟩, ⟨nu_, HRow_, hrow_⟩⟩ := id C
  refine HW_.s0.mpr ⟨vin hi (by decide), ?_⟩
  rw [clamp (by omega)]
  exact hq _ (C.setW (fr_1 (by simp)) (HW_.v0 _) (hWo_.sLv hi)) (fr_W (fr_1 (by simp)))
theorem n_hr {i : Nat} {v : Int32} {K : pz_H → Prop} (C : CQ h x rF n br dn W T rv rw) (hi : i < 6) (hq : ∀ h', CQ h' x rF n br dn (W.sHr (upd W.hr i v)) T rv rw → Fr (AL x rF) h h' → K h') : pz_sI h (x + 10 + 2) (nI i) v K := by
  obtain ⟨hr_, hn_, hWo_, hTo_, ⟨rO_, td_, ks_, dw_, HTop_⟩, ⟨ru_, nx_, HL_⟩, HW_, HT_, ⟨pa_, sk_, th_, len_, src_, at_, HR_, hv_⟩, ⟨nu_, HRow_, hrow_⟩⟩ := id C
  refine HW_.s1.mpr ⟨vin hi (by decide), ?_⟩
  rw [clamp (by omega)]
  exact hq _ (C.setW (fr_1 (by simp)) (HW_.v1 _) (hWo_.sHr hi)) (fr_W (fr_1 (by simp)))
theorem n_tp {i : Nat} {v : Int32} {K : pz_H → Prop} (C : CQ h x rF n br dn W T rv rw) (hi : i < 6) (hq : ∀ h', CQ h' x rF n br dn (W.sTp (upd W.tp i v)) T rv rw → Fr (AL x rF) h h' → K h') : pz_sI h (x + 10 + 3) (nI i) v K := by
  obtain ⟨hr_, hn_, hWo_, hTo_, ⟨rO_, td_, ks_, dw_, HTop_⟩, ⟨ru_, nx_, HL_⟩, HW_, HT_, ⟨pa_, sk_, th_, len_, src_, at_, HR_, hv_⟩, ⟨nu_, HRow_, hrow_⟩⟩ := id C
  refine HW_.s2.mpr ⟨vin hi (by decide), ?_⟩
  rw [clamp (by omega)]
  exact hq _ (C.setW (fr_1 (by simp)) (HW_.v2 _) (hWo_.sTp hi)) (fr_W (fr_1 (by simp)))
theorem n_lk {i : Nat} {v : Int32} {K : pz_H → Prop} (C : CQ h x rF n br dn W T rv rw) (hi : i < 6) (hq : ∀ h', CQ h' x rF n br dn (W.sLk (upd W.lk i v)) T rv rw → Fr (AL x rF) h h' → K h') : pz_sI h (x + 10 + 4) (nI i) v K := by
  obtain ⟨hr_, hn_, hWo_, hTo_, ⟨rO_, td_, ks_, dw_, HTop_⟩, ⟨ru_, nx_, HL_⟩, HW_, HT_, ⟨pa_, sk_, th_, len_, src_, at_, HR_, hv_⟩, ⟨nu_, HRow_, hrow_⟩⟩ := id C
  refine HW_.s3.mpr ⟨vin hi (by decide), ?_⟩
  rw [clamp (by omega)]
  exact hq _ (C.setW (fr_1 (by simp)) (HW_.v3 _) (hWo_.sLk hi)) (fr_W (fr_1 (by simp)))
theorem n_kg {i : Nat} {v : Int32} {K : pz_H → Prop} (C : CQ h x rF n br dn W T rv rw) (hi : i < 6) (hq : ∀ h', CQ h' x rF n br dn (W.sKg (upd W.kg i v)) T rv rw → Fr (AL x rF) h h' → K h') : pz_sI h (x + 10 + 5) (nI i) v K := by
  obtain ⟨hr_, hn_, hWo_, hTo_, ⟨rO_, td_, ks_, dw_, HTop_⟩, ⟨ru_, nx_, HL_⟩, HW_, HT_, ⟨pa_, sk_, th_, len_, src_, at_, HR_, hv_⟩, ⟨nu_, HRow_, hrow_⟩⟩ := id C
  refine HW_.s4.mpr ⟨vin hi (by decide), ?_⟩
  rw [clamp (by omega)]
  exact hq _ (C.setW (fr_1 (by simp)) (HW_.v4 _) (hWo_.sKg hi)) (fr_W (fr_1 (by simp)))
theorem t_move {i : Nat} {p : Bool} (C : CQ h x rF n br dn W T rv rw) (hi : i < n) (hd : 2 ≤ d) (hq : ∀ h' W', CQ h' x rF n br dn W' T rv rw → Fr (AL x rF) h h' → (∀ r : Int32, (if W.ou.testBit i = p then r = -2 ∧ W' = W else r = nI (popc (W.ou ^^^ 2 ^ i)) ∧ W' = W.sOu (W.ou ^^^ 2 ^ i)) → Q (some (.int r)) h')) : pz_V mX9_movePlug Ex Q d bc bs 0 [(0, .ref x), (1, .int (nI i)), (2, .int (if p = true then 1 else 0))] [] h := by
  obtain ⟨hr0, hn0, hWo0, hTo0, ⟨rO0, td0, ks0, dw0, HTop0⟩, ⟨ru0, nx0, HL0⟩, HW0, HT0, ⟨pa0, sk0, th0, len0, src0, at0, HR0, hv0⟩, ⟨nu0, HRow0, hrow0⟩⟩ := id C
  have hx64 : W.ou ^^^ 2 ^ i < 64 := xor64 hWo0.1 (two_lt (by omega))
  refine wX9_movePlug_0 hd ?_
  rw [shl1 i (by omega)]
  simp only [HTop0.g0, HTop0.g1, HTop0.g2, HTop0.g3, HTop0.g4, HTop0.g5, HTop0.g6, HTop0.g7, HTop0.g8, HTop0.g9, HTop0.g10, HTop0.g11, HTop0.g12, HTop0.g13, HTop0.g15, HTop0.g16, HTop0.i, HL0.g0, HL0.g1, HL0.g2, HL0.g3, HL0.g4, HL0.i, HL0.r0, HL0.r1, HW0.g0, HW0.g1, HW0.g2, HW0.g3, HW0.g4, HW0.g5, HW0.g6, HW0.g7, HW0.g8, HW0.i, HW0.r0, HW0.r1, HW0.r2, HW0.r3, HW0.r4, HT0.g0, HT0.g1, HT0.g2, HT0.g3, HT0.g4, HT0.g5, HT0.g6, HT0.g7, HT0.g8, HT0.i, HT0.r0, HT0.r1, HT0.r2, HT0.r3, HT0.r4, HR0.i, HRow0.i, xor_nI, isIn_eq W.ou hWo0.1 i (by omega), true_and]
  by_cases e : W.ou.testBit i = p
  · refine ⟨fun hc => absurd (by rw [e]) hc, fun _ => hq h W C Fr.rf (-2) (by rw [if_pos e]; exact ⟨rfl, rfl⟩)⟩
  · refine ⟨fun _ => n_ou C hx64 (fun h1 C1 hF1 => ?_), fun hc => ?_⟩
    · obtain ⟨hr1, hn1, hWo1, hTo1, ⟨rO1, td1, ks1, dw1, HTop1⟩, ⟨ru1, nx1, HL1⟩, HW1, HT1, ⟨pa1, sk1, th1, len1, src1, at1, HR1, hv1⟩, ⟨nu1, HRow1, hrow1⟩⟩ := id C1
      simp only [HTop1.g0, HTop1.g1, HTop1.g2, HTop1.g3, HTop1.g4, HTop1.g5, HTop1.g6, HTop1.g7, HTop1.g8, HTop1.g9, HTop1.g10, HTop1.g11, HTop1.g12, HTop1.g13, HTop1.g15, HTop1.g16, HTop1.i, HL1.g0, HL1.g1, HL1.g2, HL1.g3, HL1.g4, HL1.i, HL1.r0, HL1.r1, HW1.g0, HW1.g1, HW1.g2, HW1.g3, HW1.g4, HW1.g5, HW1.g6, HW1.g7, HW1.g8, HW1.i, HW1.r0, HW1.r1, HW1.r2, HW1.r3, HW1.r4, HT1.g0, HT1.g1, HT1.g2, HT1.g3, HT1.g4, HT1.g5, HT1.g6, HT1.g7, HT1.g8, HT1.i, HT1.r0, HT1.r1, HT1.r2, HT1.r3, HT1.r4, HR1.i, HRow1.i, true_and]
      exact t_bitCount hx64 ⟨_, rfl, hq h1 _ C1 hF1 _ (by rw [if_neg e]; exact ⟨rfl, rfl⟩)⟩
    · exfalso
      apply e
      cases h1 : W.ou.testBit i <;> cases p <;> simp [h1] at hc ⊢
theorem t_doAct {kind which v : Int32} (C : CQ h x rF n br dn W T rv rw) (hd : 5 ≤ d) (hq : ∀ h', CQ h' x rF n br dn (actW rv br dn n kind which v W).2 T rv rw → Fr (AL x rF) h h' → Q (some (.int (actW rv br dn n kind which v W).1)) h') : pz_V mX9_doAct Ex Q d bc bs 0 [(0, .ref x), (1, .int kind), (2, .int which), (3, .int v)] [] h := by
  obtain ⟨hr0, hn0, hWo0, hTo0, ⟨rO0, td0, ks0, dw0, HTop0⟩, ⟨ru0, nx0, HL0⟩, HW0, HT0, ⟨pa0, sk0, th0, len0, src0, at0, HR0, hv0⟩, ⟨nu0, HRow0, hrow0⟩⟩ := id C
  unfold actW at hq
  have e110 : (110 : Int32).toInt = 110 := by decide
  refine wX9_doAct_0 hd ⟨fun hne => ?_, fun he => ?_⟩
  · have hk : ¬ kind.toInt = 110 := fun q => hne (eq_i.mpr (by rw [q, e110]))
    rw [if_neg hk] at hq
    simp only [HTop0.g0, HTop0.g1, HTop0.g2, HTop0.g3, HTop0.g4, HTop0.g5, HTop0.g6, HTop0.g7, HTop0.g8, HTop0.g9, HTop0.g10, HTop0.g11, HTop0.g12, HTop0.g13, HTop0.g15, HTop0.g16, HTop0.i, HL0.g0, HL0.g1, HL0.g2, HL0.g3, HL0.g4, HL0.i, HL0.r0, HL0.r1, HW0.g0, HW0.g1, HW0.g2, HW0.g3, HW0.g4, HW0.g5, HW0.g6, HW0.g7, HW0.g8, HW0.i, HW0.r0, HW0.r1, HW0.r2, HW0.r3, HW0.r4, HT0.g0, HT0.g1, HT0.g2, HT0.g3, HT0.g4, HT0.g5, HT0.g6, HT0.g7, HT0.g8, HT0.i, HT0.r0, HT0.r1, HT0.r2, HT0.r3, HT0.r4, HR0.i, HRow0.i, true_and]
    refine wX9_doAct_24 hd ⟨fun hh => ?_, fun hh => by rw [if_pos hh] at hq; exact hq h C Fr.rf⟩
    rw [if_neg hh] at hq
    obtain ⟨i, hi, rfl⟩ := (has_0 hn0).mp hh
    rw [clamp (by omega)] at hq
    have v6 : vp_in (nI i) 6 := vin (by omega) (by decide)
    refine ⟨fun e => ⟨HTop0.i.mpr trivial, wX9_combHair_0 ?_⟩, fun e => ⟨fun hc => ?_, fun hc => ?_⟩, fun e => absurd e hk, fun e => ⟨HTop0.i.mpr trivial, ?_⟩, fun e => ⟨HTop0.i.mpr trivial, ?_⟩, fun e => ⟨fun hc => ?_, fun hc => ?_⟩, fun e => ?_⟩
    · rw [if_neg (by omega), if_neg (by omega), if_pos e] at hq
      simp only [HTop0.g0, HTop0.g1, HTop0.g2, HTop0.g3, HTop0.g4, HTop0.g5, HTop0.g6, HTop0.g7, HTop0.g8, HTop0.g9, HTop0.g10, HTop0.g11, HTop0.g12, HTop0.g13, HTop0.g15, HTop0.g16, HTop0.i, HL0.g0, HL0.g1, HL0.g2, HL0.g3, HL0.g4, HL0.i, HL0.r0, HL0.r1, HW0.g0, HW0.g1, HW0.g2, HW0.g3, HW0.g4, HW0.g5, HW0.g6, HW0.g7, HW0.g8, HW0.i, HW0.r0, HW0.r1, HW0.r2, HW0.r3, HW0.r4, HT0.g0, HT0.g1, HT0.g2, HT0.g3, HT0.g4, HT0.g5, HT0.g6, HT0.g7, HT0.g8, HT0.i, HT0.r0, HT0.r1, HT0.r2, HT0.r3, HT0.r4, HR0.i, HRow0.i, v6, clamp (i := i) (by omega), true_and]
      refine n_hr C (by omega) (fun h1 C1 hF1 => ⟨fun hne => ⟨_, rfl, ?_⟩, fun he => ⟨_, rfl, ?_⟩⟩)
      · rw [if_neg hne] at hq; exact hq h1 C1 hF1
      · rw [if_pos he] at hq
        rw [fa_upd_same he] at C1
        exact hq h1 C1 hF1
    · rw [if_neg (by omega), if_neg (by omega), if_neg (by omega), if_neg (by omega), if_pos e, if_pos hc] at hq; exact hq h C Fr.rf
    · rw [if_neg (by omega), if_neg (by omega), if_neg (by omega), if_neg (by omega), if_pos e, if_neg hc] at hq
      simp only [HTop0.g0, HTop0.g1, HTop0.g2, HTop0.g3, HTop0.g4, HTop0.g5, HTop0.g6, HTop0.g7, HTop0.g8, HTop0.g9, HTop0.g10, HTop0.g11, HTop0.g12, HTop0.g13, HTop0.g15, HTop0.g16, HTop0.i, HL0.g0, HL0.g1, HL0.g2, HL0.g3, HL0.g4, HL0.i, HL0.r0, HL0.r1, HW0.g0, HW0.g1, HW0.g2, HW0.g3, HW0.g4, HW0.g5, HW0.g6, HW0.g7, HW0.g8, HW0.i, HW0.r0, HW0.r1, HW0.r2, HW0.r3, HW0.r4, HT0.g0, HT0.g1, HT0.g2, HT0.g3, HT0.g4, HT0.g5, HT0.g6, HT0.g7, HT0.g8, HT0.i, HT0.r0, HT0.r1, HT0.r2, HT0.r3, HT0.r4, HR0.i, HRow0.i, true_and]
      refine wX9_changeEntry_0 (HW0.r4.mpr ⟨v6, ?_⟩)
      rw [clamp (by omega)]
      refine ⟨fun hne => n_kg C (by omega) (fun h1 C1 hF1 => ⟨_, rfl, ?_⟩), fun he => ⟨_, rfl, ?_⟩⟩
      · rw [if_neg hne] at hq; exact hq h1 C1 hF1
      · rw [if_pos he] at hq; exact hq h C Fr.rf
    · rw [if_pos e] at hq
      refine t_move (p := true) C hi (by omega) (fun h1 W1 C1 hF1 r hr => ⟨_, rfl, ?_⟩)
      by_cases eb : W.ou.testBit i = true
      · rw [if_pos eb] at hr hq
        rw [hr.1]; rw [hr.2] at C1
        exact hq h1 C1 hF1
      · rw [if_neg eb] at hr hq
        rw [hr.1]; rw [hr.2] at C1
        exact hq h1 C1 hF1
    · rw [if_neg (by omega), if_pos e] at hq
      refine t_move (p := false) C hi (by omega) (fun h1 W1 C1 hF1 r hr => ⟨_, rfl, ?_⟩)
      by_cases eb : W.ou.testBit i = true
      · rw [if_neg (by rw [eb]; decide)] at hr
        rw [if_pos eb] at hq
        rw [hr.1]; rw [hr.2] at C1
        exact hq h1 C1 hF1
      · rw [if_pos (by simpa using eb)] at hr
        rw [if_neg eb] at hq
        rw [hr.1]; rw [hr.2] at C1
        exact hq h1 C1 hF1
    · rw [if_neg (by omega), if_neg (by omega), if_neg (by omega), if_pos e, if_pos hc] at hq; exact hq h C Fr.rf
    · rw [if_neg (by omega), if_neg (by omega), if_neg (by omega), if_pos e, if_neg hc] at hq
      simp only [HTop0.g0, HTop0.g1, HTop0.g2, HTop0.g3, HTop0.g4, HTop0.g5, HTop0.g6, HTop0.g7, HTop0.g8, HTop0.g9, HTop0.g10, HTop0.g11, HTop0.g12, HTop0.g13, HTop0.g15, HTop0.g16, HTop0.i, HL0.g0, HL0.g1, HL0.g2, HL0.g3, HL0.g4, HL0.i, HL0.r0, HL0.r1, HW0.g0, HW0.g1, HW0.g2, HW0.g3, HW0.g4, HW0.g5, HW0.g6, HW0.g7, HW0.g8, HW0.i, HW0.r0, HW0.r1, HW0.r2, HW0.r3, HW0.r4, HT0.g0, HT0.g1, HT0.g2, HT0.g3, HT0.g4, HT0.g5, HT0.g6, HT0.g7, HT0.g8, HT0.i, HT0.r0, HT0.r1, HT0.r2, HT0.r3, HT0.r4, HR0.i, HRow0.i, true_and]
      refine wX9_changeEntry_0 (HW0.r2.mpr ⟨v6, ?_⟩)
      rw [clamp (by omega)]
      refine ⟨fun hne => n_tp C (by omega) (fun h1 C1 hF1 => ⟨_, rfl, ?_⟩), fun he => ⟨_, rfl, ?_⟩⟩
      · rw [if_neg hne] at hq; exact hq h1 C1 hF1
      · rw [if_pos he] at hq; exact hq h C Fr.rf
    · rw [if_neg (by omega), if_neg (by omega), if_neg (by omega), if_neg (by omega), if_neg (by omega)] at hq; exact hq h C Fr.rf
  · subst he
    rw [if_pos e110] at hq
    refine wX9_doAct_24 hd ⟨fun hh => ?_, fun hh => by rw [if_pos hh] at hq; exact hq h C Fr.rf⟩
    rw [if_neg hh] at hq
    obtain ⟨k, hk, rfl⟩ := (within_0 (hi := 60) (by decide)).mp hh
    rw [clamp (by omega)] at hq
    refine ⟨fun e => by omega, fun e => by omega, fun _ => ?_, fun e => by omega, fun e => by omega, fun e => by omega, fun e => by omega⟩
    simp only [HTop0.g0, HTop0.g1, HTop0.g2, HTop0.g3, HTop0.g4, HTop0.g5, HTop0.g6, HTop0.g7, HTop0.g8, HTop0.g9, HTop0.g10, HTop0.g11, HTop0.g12, HTop0.g13, HTop0.g15, HTop0.g16, HTop0.i, HL0.g0, HL0.g1, HL0.g2, HL0.g3, HL0.g4, HL0.i, HL0.r0, HL0.r1, HW0.g0, HW0.g1, HW0.g2, HW0.g3, HW0.g4, HW0.g5, HW0.g6, HW0.g7, HW0.g8, HW0.i, HW0.r0, HW0.r1, HW0.r2, HW0.r3, HW0.r4, HT0.g0, HT0.g1, HT0.g2, HT0.g3, HT0.g4, HT0.g5, HT0.g6, HT0.g7, HT0.g8, HT0.i, HT0.r0, HT0.r1, HT0.r2, HT0.r3, HT0.r4, HR0.i, HRow0.i, true_and]
    refine n_days C (by omega) (by omega) (fun h1 C1 hF1 => ⟨rfl, ?_⟩)
    obtain ⟨hr1, hn1, hWo1, hTo1, ⟨rO1, td1, ks1, dw1, HTop1⟩, ⟨ru1, nx1, HL1⟩, HW1, HT1, ⟨pa1, sk1, th1, len1, src1, at1, HR1, hv1⟩, ⟨nu1, HRow1, hrow1⟩⟩ := id C1
    simp only [HTop1.g0, HTop1.g1, HTop1.g2, HTop1.g3, HTop1.g4, HTop1.g5, HTop1.g6, HTop1.g7, HTop1.g8, HTop1.g9, HTop1.g10, HTop1.g11, HTop1.g12, HTop1.g13, HTop1.g15, HTop1.g16, HTop1.i, HL1.g0, HL1.g1, HL1.g2, HL1.g3, HL1.g4, HL1.i, HL1.r0, HL1.r1, HW1.g0, HW1.g1, HW1.g2, HW1.g3, HW1.g4, HW1.g5, HW1.g6, HW1.g7, HW1.g8, HW1.i, HW1.r0, HW1.r1, HW1.r2, HW1.r3, HW1.r4, HT1.g0, HT1.g1, HT1.g2, HT1.g3, HT1.g4, HT1.g5, HT1.g6, HT1.g7, HT1.g8, HT1.i, HT1.r0, HT1.r1, HT1.r2, HT1.r3, HT1.r4, HR1.i, HRow1.i, true_and]
    exact q_totalN C1 (by omega) ⟨_, rfl, hq h1 C1 hF1⟩
/-! the past -/
abbrev PL (x : Nat) : List Nat := List.range' (x + 28) 74
theorem pl_mem {b : Nat} : b ∈ PL x ↔ x + 28 ≤ b ∧ b < x + 102 := by
  rw [List.mem_range'_1]
theorem t_put1 {B : pW} {U : List pW} {rot : Nat} {P : Nat → pW} {g : Nat → Option Nat} (p1 : Pst h (x + 28) U.length) (p2 : h.2 (x + 28 + 1) = some (aW 12 g)) (p3 : ∀ j, j < 12 → g j = some (x + 30 + 6 * ((j + rot) % 12))) (p4 : ∀ j, j < 12 → WatT h (x + 30 + 6 * ((j + rot) % 12)) (P j) ∧ Wok (P j)) (p5 : ∀ j, j < U.length → U[j]? = some (P j)) (hU : U.length < 12) (HB : WatT h (x + 16) B) (hB : Wok B) {K : pz_H → Prop} (hq : ∀ h', PInv h' x (U ++ [B]) → Fr (PL x) h h' → K h') :
    pz_gR h (x + 28) 2 0 (fun (a3 : Nat) => pz_gI h (x + 28) 2 1 (fun (x4 : Int32) => pz_rW h a3 x4 (fun (a5 : Nat) => pz_is h a5 8 ∧ (pz_kv mX8_copy 1 0 0 (.ref a5 :: [.ref (x + 16)]) h (fun (h6 : pz_H) => pz_gI h6 (x + 28) 2 1 (fun (x7 : Int32) => pz_pF h6 (x + 28) 2 1 (.int (x7 + ((1 : Int32)))) (fun (h8 : pz_H) => K h8))))))) := by
  have hmod : ∀ j, (j + rot) % 12 < 12 := fun j => Nat.mod_lt _ (by decide)
  have hm := hmod U.length
  have HP := (p4 U.length hU).1
  refine p1.g0.mpr (p1.g1.mpr (rW_eq p2 (vin hU (by decide)) (by rw [clamp (by omega)]; exact p3 U.length hU) ⟨HP.i.mpr trivial, t_copy2 HP HB (p4 U.length hU).2 hB (by omega) (Nat.le_refl _) (fun h1 HW1 hF1 => ⟨rfl, ?_⟩)⟩))
  have q1 : Pst h1 (x + 28) U.length := p1.fr hF1 (by simp; omega)
  refine q1.g1.mpr (q1.p1.mpr ?_)
  rw [nI_1]
  have hF2 : Fr [x + 28] h1 (pz_put h1 (x + 28) (aO 2 [.ref (x + 28 + 1), .int (nI (U.length + 1))])) := fr_1 (by simp)
  have hF : Fr (PL x) h (pz_put h1 (x + 28) (aO 2 [.ref (x + 28 + 1), .int (nI (U.length + 1))])) := (hF1.mono (l2 := PL x) (by intro b hb; rw [pl_mem]; simp at hb; omega)).tr hF2 (by intro b hb; rw [pl_mem]; simp at hb; omega)
  refine hq _ ⟨rot, fun j => if j = U.length then B else P j, g, by rw [List.length_append]; exact put_at _ _ _, ?_, p3, fun j hj => ?_, fun j hj => ?_⟩ hF
  · rw [put_ne (by omega), hF1.2 _ (by simp; omega)]; exact p2
  · dsimp only
    by_cases e : j = U.length
    · subst e
      rw [if_pos rfl]
      exact ⟨HW1.fr hF2 (by intro b hb; simp at hb; omega), hB⟩
    · rw [if_neg e]
      have h1' := hmod j
      refine ⟨((p4 j hj).1.fr hF1 (fun b hb => ?_)).fr hF2 (by intro b hb; simp at hb; omega), (p4 j hj).2⟩
      simp at hb
      have : (j + rot) % 12 ≠ (U.length + rot) % 12 := by omega
      omega
  · rw [List.length_append] at hj
    have hj : j < U.length + 1 := hj
    dsimp only
    by_cases e : j = U.length
    · subst e
      rw [if_pos rfl, List.getElem?_append_right (Nat.le_refl _), Nat.sub_self]
      rfl
    · rw [if_neg e, List.getElem?_append_left (by omega)]
      exact p5 j (by omega)
theorem t_past {B : pW} {U : List pW} (H : PInv h x U) (hU : U.length ≤ 12) (HB : WatT h (x + 16) B) (hB : Wok B) (hd : 2 ≤ d) (hq : ∀ h', PInv h' x (pushU U B) → Fr (PL x) h h' → Q none h') : pz_V mX2_add Ex Q d bc bs 0 [(0, .ref (x + 28)), (1, .ref (x + 16))] [] h := by
  obtain ⟨rot, P, g, p1, p2, p3, p4, p5⟩ := H
  have hmod : ∀ j, (j + rot) % 12 < 12 := fun j => Nat.mod_lt _ (by decide)
  refine wX2_add_0 hd (p1.g1.mpr ⟨fun hne => p1.g1.mpr ⟨fun hc => ?_, fun hc => ?_⟩, fun he => ⟨p1.i.mpr trivial, ?_⟩⟩)
  · have h12 : U.length ≠ 12 := fun q => hne (by rw [q]; rfl)
    exact absurd hc (nI_ge (b := 12) (by omega) (by decide))
  · have h12 : U.length ≠ 12 := fun q => hne (by rw [q]; rfl)
    have e : pushU U B = U ++ [B] := by unfold pushU; rw [if_neg h12]
    rw [e] at hq
    exact t_put1 p1 p2 p3 p4 p5 (by omega) HB hB hq
  · have h12 : U.length = 12 := by
      have := (nI_inj' (a := U.length) (b := 12) (by omega) (by decide)).mp he
      exact this
    have e : pushU U B = U.tail ++ [B] := by unfold pushU; rw [if_pos h12]
    rw [e] at hq
    -- the oldest goes behind
    refine wX2_dropOldest_0 (p1.g0.mpr (rW_eq p2 (vin (i := 0) (by decide) (by decide)) (p3 0 (by decide)) ?_))
    suffices L : ∀ q k (h1 : pz_H) (g1 : Nat → Option Nat), k + q = 12 → 0 < k → h1.2 (x + 28 + 1) = some (aW 12 g1) → Fr [x + 28 + 1] h h1 → (∀ j, j < 12 → g1 j = if j + 1 < k then g (j + 1) else g j) → pz_V mX2_dropOldest pz_T (fun r h2 => r = none ∧ pz_gI h2 (x + 28) 2 1 (fun (x10 : Int32) => (((12 : Int32)) ≤ x10 → Q none h2) ∧ (¬ ((12 : Int32)) ≤ x10 → pz_gR h2 (x + 28) 2 0 (fun (a11 : Nat) => pz_gI h2 (x + 28) 2 1 (fun (x12 : Int32) => pz_rW h2 a11 x12 (fun (a13 : Nat) => pz_is h2 a13 8 ∧ (pz_kv mX8_copy 1 0 0 (.ref a13 :: [.ref (x + 16)]) h2 (fun (h14 : pz_H) => pz_gI h14 (x + 28) 2 1 (fun (x15 : Int32) => pz_pF h14 (x + 28) 2 1 (.int (x15 + ((1 : Int32)))) (fun (h16 : pz_H) => Q none h16)))))))))) 0 0 0 9 [(0, .ref (x + 28)), (1, .ref (x + 30 + 6 * ((0 + rot) % 12))), (2, .int (nI k))] [] h1 from L 11 1 h g rfl (by decide) p2 Fr.rf (fun j hj => by rw [if_neg (by omega)])
    intro q
    induction q with
    | zero =>
      intro k h1 g1 hk hk0 q2 hF1 hg1
      have e : k = 12 := hk
      subst e
      have q1 : Pst h1 (x + 28) U.length := p1.fr hF1 (by simp)
      have HP0 : WatT h1 (x + 30 + 6 * ((0 + rot) % 12)) (P 0) := (p4 0 (by decide)).1.fr hF1 (by intro b hb; simp at hb; omega)
      refine wX2_dropOldest_9 ⟨fun _ => q1.g0.mpr ⟨12, g1, _, q2, vin (i := 11) (by decide) (by decide), HP0.1, ?_⟩, fun hc => absurd (nI_le (a := 12) (b := 12) (by decide) (by decide)) hc⟩
      have hF2 : Fr [x + 28 + 1] h1 (pz_put h1 (x + 28 + 1) (aW 12 (va_up g1 (11 : Int32).toNatClampNeg (some (x + 30 + 6 * ((0 + rot) % 12)))))) := fr_1 (by simp)
      have q1' : Pst _ (x + 28) U.length := q1.fr hF2 (by simp)
      refine q1'.p1.mpr ⟨rfl, ?_⟩
      have hF3 : Fr [x + 28] (pz_put h1 (x + 28 + 1) (aW 12 (va_up g1 (11 : Int32).toNatClampNeg (some (x + 30 + 6 * ((0 + rot) % 12)))))) (pz_put (pz_put h1 (x + 28 + 1) (aW 12 (va_up g1 (11 : Int32).toNatClampNeg (some (x + 30 + 6 * ((0 + rot) % 12)))))) (x + 28) (aO 2 [.ref (x + 28 + 1), .int (nI 11)])) := fr_1 (by simp)
      have hF : Fr [x + 28, x + 28 + 1] h (pz_put (pz_put h1 (x + 28 + 1) (aW 12 (va_up g1 (11 : Int32).toNatClampNeg (some (x + 30 + 6 * ((0 + rot) % 12)))))) (x + 28) (aO 2 [.ref (x + 28 + 1), .int (nI 11)])) := ((hF1.tt hF2).mono (l2 := [x + 28, x + 28 + 1]) (by simp)).tr hF3 (by simp)
      have htl : U.tail.length = 11 := by rw [List.length_tail, h12]
      have s1 : Pst (pz_put (pz_put h1 (x + 28 + 1) (aW 12 (va_up g1 (11 : Int32).toNatClampNeg (some (x + 30 + 6 * ((0 + rot) % 12)))))) (x + 28) (aO 2 [.ref (x + 28 + 1), .int (nI 11)])) (x + 28) U.tail.length := by rw [htl]; exact put_at _ _ _
      refine s1.g1.mpr ⟨fun hc => absurd hc (by rw [htl]; exact nI_ge (a := 11) (b := 12) (by decide) (by decide)), fun _ => ?_⟩
      refine t_put1 (rot := rot + 1) (P := fun j => P ((j + 1) % 12)) s1 ((put_ne (by omega)).trans (put_at _ _ _)) (fun j hj => ?_) (fun j hj => ?_) (fun j hj => ?_) (by omega) (HB.fr hF (by intro b hb; simp at hb; omega)) hB (fun h5 hP5 hF5 => hq h5 hP5 ((hF.mono (by intro b hb; rw [pl_mem]; simp at hb; omega)).tt hF5))
      · show (if j = 11 then some (x + 30 + 6 * ((0 + rot) % 12)) else g1 j) = _
        by_cases e : j = 11
        · subst e
          rw [if_pos rfl]
          congr 3
          omega
        · rw [if_neg e, hg1 j hj, if_pos (by omega), p3 (j + 1) (by omega)]
          congr 3
          omega
      · have e2 : (j + (rot + 1)) % 12 = ((j + 1) % 12 + rot) % 12 := by omega
        rw [e2]
        have hlt : (j + 1) % 12 < 12 := Nat.mod_lt _ (by decide)
        have := hmod ((j + 1) % 12)
        exact ⟨(p4 _ hlt).1.fr hF (by intro b hb; simp at hb; omega), (p4 _ hlt).2⟩
      · rw [List.getElem?_tail]
        rw [htl] at hj
        rw [p5 (j + 1) (by omega), Nat.mod_eq_of_lt (by omega)]
    | succ q ih =>
      intro k h1 g1 hk hk0 q2 hF1 hg1
      have q1 : Pst h1 (x + 28) U.length := p1.fr hF1 (by simp)
      obtain ⟨k', rfl⟩ : ∃ k', k = k' + 1 := ⟨k - 1, by omega⟩
      have hmk := hmod (k' + 1)
      have HPk : WatT h1 (x + 30 + 6 * ((k' + 1 + rot) % 12)) (P (k' + 1)) := (p4 (k' + 1) (by omega)).1.fr hF1 (by intro b hb; simp at hb; omega)
      refine wX2_dropOldest_9 ⟨fun hc => absurd hc (nI_ge (b := 12) (by omega) (by decide)), fun _ => q1.g0.mpr (q1.g0.mpr (rW_eq q2 (vin (by omega) (by decide)) (by rw [clamp (by omega), hg1 _ (by omega), if_neg (by omega)]; exact p3 (k' + 1) (by omega)) ?_))⟩
      have ek : nI (k' + 1) - (1 : Int32) = nI k' := nI_pred k'
      rw [ek, nI_1]
      refine ⟨12, g1, _, q2, vin (by omega) (by decide), HPk.1, ?_⟩
      rw [clamp (by omega)]
      refine ih (k' + 1 + 1) _ _ (by omega) (by omega) (put_at _ _ _) (hF1.put (by simp)) (fun j hj => ?_)
      show (if j = k' then some (x + 30 + 6 * ((k' + 1 + rot) % 12)) else g1 j) = _
      by_cases e : j = k'
      · subst e
        rw [if_pos rfl, if_pos (by omega)]
        exact (p3 (j + 1) (by omega)).symm
      · rw [if_neg e, hg1 j hj]
        by_cases e2 : j + 1 < k' + 1
        · rw [if_pos e2, if_pos (by omega)]
        · rw [if_neg e2, if_neg (by omega)]
end CA
