/-! ===== a DAY, as the class has it ===== -/
def bcI (l0 : Int32) : Int32 := (((((((l0 - (((l0.toUInt32 >>> (((1 : Int32)).toUInt32 &&& Int32.toUInt32 31)).toInt32) &&& ((1431655765 : Int32)))) &&& ((858993459 : Int32))) + ((((l0 - (((l0.toUInt32 >>> (((1 : Int32)).toUInt32 &&& Int32.toUInt32 31)).toInt32) &&& ((1431655765 : Int32)))).toUInt32 >>> (((2 : Int32)).toUInt32 &&& Int32.toUInt32 31)).toInt32) &&& ((858993459 : Int32)))) + (((((l0 - (((l0.toUInt32 >>> (((1 : Int32)).toUInt32 &&& Int32.toUInt32 31)).toInt32) &&& ((1431655765 : Int32)))) &&& ((858993459 : Int32))) + ((((l0 - (((l0.toUInt32 >>> (((1 : Int32)).toUInt32 &&& Int32.toUInt32 31)).toInt32) &&& ((1431655765 : Int32)))).toUInt32 >>> (((2 : Int32)).toUInt32 &&& Int32.toUInt32 31)).toInt32) &&& ((858993459 : Int32)))).toUInt32 >>> (((4 : Int32)).toUInt32 &&& Int32.toUInt32 31)).toInt32)) &&& ((252645135 : Int32))) + (((((((l0 - (((l0.toUInt32 >>> (((1 : Int32)).toUInt32 &&& Int32.toUInt32 31)).toInt32) &&& ((1431655765 : Int32)))) &&& ((858993459 : Int32))) + ((((l0 - (((l0.toUInt32 >>> (((1 : Int32)).toUInt32 &&& Int32.toUInt32 31)).toInt32) &&& ((1431655765 : Int32)))).toUInt32 >>> (((2 : Int32)).toUInt32 &&& Int32.toUInt32 31)).toInt32) &&& ((858993459 : Int32)))) + (((((l0 - (((l0.toUInt32 >>> (((1 : Int32)).toUInt32 &&& Int32.toUInt32 31)).toInt32) &&& ((1431655765 : Int32)))) &&& ((858993459 : Int32))) + ((((l0 - (((l0.toUInt32 >>> (((1 : Int32)).toUInt32 &&& Int32.toUInt32 31)).toInt32) &&& ((1431655765 : Int32)))).toUInt32 >>> (((2 : Int32)).toUInt32 &&& Int32.toUInt32 31)).toInt32) &&& ((858993459 : Int32)))).toUInt32 >>> (((4 : Int32)).toUInt32 &&& Int32.toUInt32 31)).toInt32)) &&& ((252645135 : Int32))).toUInt32 >>> (((8 : Int32)).toUInt32 &&& Int32.toUInt32 31)).toInt32)) + ((((((((l0 - (((l0.toUInt32 >>> (((1 : Int32)).toUInt32 &&& Int32.toUInt32 31)).toInt32) &&& ((1431655765 : Int32)))) &&& ((858993459 : Int32))) + ((((l0 - (((l0.toUInt32 >>> (((1 : Int32)).toUInt32 &&& Int32.toUInt32 31)).toInt32) &&& ((1431655765 : Int32)))).toUInt32 >>> (((2 : Int32)).toUInt32 &&& Int32.toUInt32 31)).toInt32) &&& ((858993459 : Int32)))) + (((((l0 - (((l0.toUInt32 >>> (((1 : Int32)).toUInt32 &&& Int32.toUInt32 31)).toInt32) &&& ((1431655765 : Int32)))) &&& ((858993459 : Int32))) + ((((l0 - (((l0.toUInt32 >>> (((1 : Int32)).toUInt32 &&& Int32.toUInt32 31)).toInt32) &&& ((1431655765 : Int32)))).toUInt32 >>> (((2 : Int32)).toUInt32 &&& Int32.toUInt32 31)).toInt32) &&& ((858993459 : Int32)))).toUInt32 >>> (((4 : Int32)).toUInt32 &&& Int32.toUInt32 31)).toInt32)) &&& ((252645135 : Int32))) + (((((((l0 - (((l0.toUInt32 >>> (((1 : Int32)).toUInt32 &&& Int32.toUInt32 31)).toInt32) &&& ((1431655765 : Int32)))) &&& ((858993459 : Int32))) + ((((l0 - (((l0.toUInt32 >>> (((1 : Int32)).toUInt32 &&& Int32.toUInt32 31)).toInt32) &&& ((1431655765 : Int32)))).toUInt32 >>> (((2 : Int32)).toUInt32 &&& Int32.toUInt32 31)).toInt32) &&& ((858993459 : Int32)))) + (((((l0 - (((l0.toUInt32 >>> (((1 : Int32)).toUInt32 &&& Int32.toUInt32 31)).toInt32) &&& ((1431655765 : Int32)))) &&& ((858993459 : Int32))) + ((((l0 - (((l0.toUInt32 >>> (((1 : Int32)).toUInt32 &&& Int32.toUInt32 31)).toInt32) &&& ((1431655765 : Int32)))).toUInt32 >>> (((2 : Int32)).toUInt32 &&& Int32.toUInt32 31)).toInt32) &&& ((858993459 : Int32)))).toUInt32 >>> (((4 : Int32)).toUInt32 &&& Int32.toUInt32 31)).toInt32)) &&& ((252645135 : Int32))).toUInt32 >>> (((8 : Int32)).toUInt32 &&& Int32.toUInt32 31)).toInt32)).toUInt32 >>> (((16 : Int32)).toUInt32 &&& Int32.toUInt32 31)).toInt32)) &&& ((63 : Int32))
def popc (s : Nat) : Nat := ((List.range 6).filter (fun i => s.testBit i)).length
theorem bc_eq : ∀ s, s < 64 → bcI (nI s) = nI (popc s) := by decide +kernel
theorem t_bitCount {Ex : State → Nat → Prop} {Q : Option Value → pz_H → Prop} {d bc bs : Nat} {h : pz_H} {s : Nat} (hs : s < 64) (hq : Q (some (.int (nI (popc s)))) h) : pz_V mJ6_bitCount_0f7a4 Ex Q d bc bs 0 [(0, .int (nI s))] [] h := by
  refine wJ6_bitCount_0f7a4_0 ?_
  show Q (some (.int (bcI (nI s)))) h
  rw [bc_eq s hs]
  exact hq
abbrev pW : Type := (Nat → Int32) × (Nat → Int32) × (Nat → Int32) × (Nat → Int32) × (Nat → Int32) × Nat × Int32 × Int32 × Int32
abbrev pW.lv (W : pW) : Nat → Int32 := W.1
abbrev pW.hr (W : pW) : Nat → Int32 := W.2.1
abbrev pW.tp (W : pW) : Nat → Int32 := W.2.2.1
abbrev pW.lk (W : pW) : Nat → Int32 := W.2.2.2.1
abbrev pW.kg (W : pW) : Nat → Int32 := W.2.2.2.2.1
abbrev pW.ou (W : pW) : Nat := W.2.2.2.2.2.1
abbrev pW.dy (W : pW) : Int32 := W.2.2.2.2.2.2.1
abbrev pW.sp (W : pW) : Int32 := W.2.2.2.2.2.2.2.1
abbrev pW.dr (W : pW) : Int32 := W.2.2.2.2.2.2.2.2
abbrev WatT (h : pz_H) (w : Nat) (W : pW) : Prop := Wat h w W.lv W.hr W.tp W.lk W.kg W.ou W.dy W.sp W.dr
abbrev pRV : Type := Int32 → Int32 → Int32 → Int32 → Int32 → Int32 → Int32
/-- the RULE's parts are worth rv -/
def RVal (pa : Nat → Int32) (len : Nat) (rv : pRV) : Prop := len ≤ 40 ∧ ∀ (sk : Nat → Int32) (l1 l2 l3 l4 l5 l6 : Int32), wval pa len sk l1 l2 l3 l4 l5 l6 = rv l1 l2 l3 l4 l5 l6
def cl0 (l v : Int32) : Int32 := if (0 : Int32) < (if l < v then l else v) then (if l < v then l else v) else 0
def runI (rv : pRV) (br : Nat → Int32) (W : pW) (i : Nat) : Int32 := if W.ou.testBit i then cl0 (W.lv i) (rv (W.lv i) (br i) (W.hr i) (W.tp i) (nI (popc W.ou)) (W.dy - W.dy / 7 * 7)) else 0
def nx0 (rv : pRV) (br : Nat → Int32) (W : pW) (i : Nat) : Int32 := ((W.lv i - runI rv br W i) - (if W.lk i < (W.lv i - runI rv br W i) then W.lk i else (W.lv i - runI rv br W i))) + W.tp i
def addDn (dn ru : Nat → Int32) (n : Nat) (f : Nat → Int32) : Nat → (Nat → Int32)
  | 0 => f
  | i + 1 => if eX1_has (dn i) (nI n) = 0 then addDn dn ru n f i else upd (addDn dn ru n f i) (dn i).toNatClampNeg (addDn dn ru n f i (dn i).toNatClampNeg + ru i)
def nxF (rv : pRV) (br dn : Nat → Int32) (n : Nat) (W : pW) : Nat → Int32 := addDn dn (runI rv br W) n (nx0 rv br W) n
def ovr (nx br : Nat → Int32) (j : Nat) : Int32 := if (0 : Int32) < nx j - br j then nx j - br j else 0
def lvN (nx br : Nat → Int32) (j : Nat) : Int32 := nx j - ovr nx br j
def spA (nx br : Nat → Int32) (sp : Int32) : Nat → Int32
  | 0 => sp
  | i + 1 => if spA nx br sp i + ovr nx br i < 9999 then spA nx br sp i + ovr nx br i else 9999
def drA (nx br lv : Nat → Int32) (dr : Int32) : Nat → Int32
  | 0 => dr
  | i + 1 => if ¬ lv i ≤ 0 ∧ lvN nx br i = 0 then (if drA nx br lv dr i + 1 < 999 then drA nx br lv dr i + 1 else 999) else drA nx br lv dr i
def hrN (hr : Nat → Int32) (ou j : Nat) : Int32 := if ou.testBit j then (if hr j + 1 < 9 then hr j + 1 else 9) else hr j
def endW (nx br : Nat → Int32) (W : pW) (i : Nat) : pW := (fa_fill (lvN nx br) W.lv i, fa_fill (hrN W.hr W.ou) W.hr i, W.tp, W.lk, W.kg, W.ou, W.dy, spA nx br W.sp i, drA nx br W.lv W.dr i)
def dayW (rv : pRV) (br dn : Nat → Int32) (n : Nat) (W : pW) : pW :=
  let E := endW (nxF rv br dn n W) br W n
  (E.lv, E.hr, W.tp, W.lk, W.kg, W.ou, W.dy + 1, E.sp, E.dr)
def daysW (rv : pRV) (br dn : Nat → Int32) (n : Nat) : Nat → pW → pW
  | 0, W => W
  | k + 1, W => dayW rv br dn n (daysW rv br dn n k W)
/-- three components that lie apart -/
def Ap3 (ld w r : Nat) : Prop := (ld + 5 ≤ w ∨ w + 6 ≤ ld) ∧ (w + 6 ≤ r ∨ r + 4 ≤ w) ∧ (ld + 5 ≤ r ∨ r + 4 ≤ ld)
section DY
variable {Ex : State → Nat → Prop} {Q : Option Value → pz_H → Prop} {d bc bs : Nat} {h : pz_H} {ld w r n len : Nat} {br dn ru nx pa sk th : Nat → Int32} {src : Option Nat} {at_ : Int32} {W : pW} {rv : pRV}
theorem t_runOf {i : Nat} (HL : Lnd h ld br dn ru nx n) (HW : WatT h w W) (HR : Rul h r pa sk th len src at_) (hn : n ≤ 6) (hi : i < n) (ho : W.ou < 64) (hv : RVal pa len rv) (hA : Ap3 ld w r) (hd : 2 ≤ d)
    (hq : ∀ h' sk' th', Rul h' r pa sk' th' len src at_ → Fr [r + 2, r + 3] h h' → Q (some (.int (runI rv br W i))) h') : pz_V mX1_runOf Ex Q d bc bs 0 [(0, .ref ld), (1, .ref w), (2, .ref r), (3, .int (nI i))] [] h := by
  refine wX1_runOf_0 hd ⟨HL.i.mpr trivial, HL.g4.mpr ⟨fun hc => absurd hc (has_i hn hi), fun _ => ⟨HW.i.mpr trivial, HW.g5.mpr ⟨fun hb => ?_, fun hb => ?_⟩⟩⟩⟩
  · have hb2 : W.ou.testBit i = true := by
      cases q : W.ou.testBit i
      · exact absurd ((isIn_0 ho (by omega)).mpr q) hb
      · rfl
    refine HW.g0.mpr (HW.r0.mpr ⟨vin (by omega) (by decide), HW.g5.mpr (t_bitCount ho ⟨_, rfl, HL.g0.mpr (HL.r0.mpr ⟨vin (by omega) (by decide), HW.g1.mpr (HW.r1.mpr ⟨vin (by omega) (by decide), HW.g2.mpr (HW.r2.mpr ⟨vin (by omega) (by decide), HW.g6.mpr ⟨HR.i.mpr trivial, ?_⟩⟩)⟩)⟩)⟩)⟩)
    rw [clamp (by omega)]
    refine t_worth HR hv.1 (Nat.le_refl _) (fun h' sk' th' HR' hF => ⟨_, rfl, ?_⟩)
    rw [hv.2]
    have e : runI rv br W i = cl0 (W.lv i) (rv (W.lv i) (br i) (W.hr i) (W.tp i) (nI (popc W.ou)) (W.dy - W.dy / 7 * 7)) := by
      unfold runI
      rw [if_pos hb2]
    rw [e] at hq
    exact hq h' sk' th' HR' hF
  · have hb2 : W.ou.testBit i = false := (isIn_0 ho (by omega)).mp hb
    have e : runI rv br W i = 0 := by
      unfold runI
      rw [hb2]
      rfl
    rw [e] at hq
    exact hq h sk th HR Fr.rf
theorem t_endDay {i : Nat} (HL : Lnd h ld br dn ru nx n) (HW : WatT h w W) (hn : n ≤ 6) (hi : i < n) (ho : W.ou < 64) (hA : ld + 5 ≤ w ∨ w + 6 ≤ ld) (hd : 2 ≤ d)
    (hq : ∀ h', WatT h' w (upd W.lv i (lvN nx br i), upd W.hr i (hrN W.hr W.ou i), W.tp, W.lk, W.kg, W.ou, W.dy, (if W.sp + ovr nx br i < 9999 then W.sp + ovr nx br i else 9999), (if ¬ W.lv i ≤ 0 ∧ lvN nx br i = 0 then (if W.dr + 1 < 999 then W.dr + 1 else 999) else W.dr)) → Fr [w, w + 1, w + 2] h h' → Q none h') :
    pz_V mX1_endDay Ex Q d bc bs 0 [(0, .ref ld), (1, .ref w), (2, .int (nI i))] [] h := by
  have v6 : vp_in (nI i) 6 := vin (by omega) (by decide)
  refine wX1_endDay_0 hd (HL.g3.mpr (HL.r3.mpr ⟨v6, HL.g0.mpr (HL.r0.mpr ⟨v6, HL.g3.mpr (HL.r3.mpr ⟨v6, HW.g7.mpr (HW.p7.mpr ?_)⟩)⟩)⟩))
  rw [clamp (by omega)]
  show pz_gR _ w 8 0 _
  have eo : (if ((0 : Int32)) < (nx i - br i) then (nx i - br i) else ((0 : Int32))) = ovr nx br i := rfl
  rw [eo]
  have HW8 := HW.u7 (if (W.sp + ovr nx br i) < ((9999 : Int32)) then (W.sp + ovr nx br i) else ((9999 : Int32)))
  have hF8 : Fr [w, w + 1, w + 2] h (pz_put h w (aO 8 [.ref (w + 1), .ref (w + 2), .ref (w + 3), .ref (w + 4), .ref (w + 5), .int (nI W.ou), .int W.dy, .int (if (W.sp + ovr nx br i) < ((9999 : Int32)) then (W.sp + ovr nx br i) else ((9999 : Int32))), .int W.dr])) := Fr.rf.put (by simp)
  generalize pz_put h w (aO 8 [.ref (w + 1), .ref (w + 2), .ref (w + 3), .ref (w + 4), .ref (w + 5), .int (nI W.ou), .int W.dy, .int (if (W.sp + ovr nx br i) < ((9999 : Int32)) then (W.sp + ovr nx br i) else ((9999 : Int32))), .int W.dr]) = h8 at HW8 hF8 ⊢
  generalize hspe : (if (W.sp + ovr nx br i) < ((9999 : Int32)) then (W.sp + ovr nx br i) else ((9999 : Int32))) = sp' at HW8 hq
  have el : nx i - ovr nx br i = lvN nx br i := rfl
  rw [el]
  -- the end of it: hair, level
  have fin : ∀ (h9 : pz_H) (dr' : Int32), Wat h9 w W.lv W.hr W.tp W.lk W.kg W.ou W.dy sp' dr' → Fr [w, w + 1, w + 2] h h9 → dr' = (if ¬ W.lv i ≤ 0 ∧ lvN nx br i = 0 then (if W.dr + 1 < 999 then W.dr + 1 else 999) else W.dr) →
      (pz_is h9 w 8 ∧ (pz_gI h9 w 8 5 (fun (x11 : Int32) => ((eX9_isIn x11 (nI i)) = 0 → pz_gR h9 w 8 0 (fun (a12 : Nat) => pz_sI h9 a12 (nI i) (lvN nx br i) (fun (h13 : pz_H) => Q none h13))) ∧ (¬ (eX9_isIn x11 (nI i)) = 0 → pz_gR h9 w 8 1 (fun (a14 : Nat) => pz_gR h9 w 8 1 (fun (a15 : Nat) => pz_rI h9 a15 (nI i) (fun (x16 : Int32) => pz_sI h9 a14 (nI i) (if (x16 + ((1 : Int32))) < ((9 : Int32)) then (x16 + ((1 : Int32))) else ((9 : Int32))) (fun (h17 : pz_H) => pz_gR h17 w 8 0 (fun (a18 : Nat) => pz_sI h17 a18 (nI i) (lvN nx br i) (fun (h19 : pz_H) => Q none h19)))))))))) := by
    intro h9 dr' HW9 hF9 hdr
    subst hdr
    refine ⟨HW9.i.mpr trivial, HW9.g5.mpr ⟨fun hb => HW9.g0.mpr (HW9.s0.mpr ⟨v6, ?_⟩), fun hb => HW9.g1.mpr (HW9.g1.mpr (HW9.r1.mpr ⟨v6, HW9.s1.mpr ⟨v6, ?_⟩⟩))⟩⟩
    · have hb2 : W.ou.testBit i = false := (isIn_0 ho (by omega)).mp hb
      rw [clamp (by omega)]
      refine hq _ ?_ (hF9.put (by simp))
      have e : upd W.hr i (hrN W.hr W.ou i) = W.hr := by
        apply fa_upd_same
        unfold hrN
        rw [hb2]
        rfl
      show Wat _ w _ (upd W.hr i (hrN W.hr W.ou i)) W.tp W.lk W.kg W.ou W.dy _ _
      rw [e]
      exact HW9.v0 _
    · have hb2 : W.ou.testBit i = true := by
        cases q : W.ou.testBit i
        · exact absurd ((isIn_0 ho (by omega)).mpr q) hb
        · rfl
      rw [clamp (by omega)]
      have HWa := HW9.v1 (upd W.hr i (if (W.hr i + ((1 : Int32))) < ((9 : Int32)) then (W.hr i + ((1 : Int32))) else ((9 : Int32))))
      refine HWa.g0.mpr (HWa.s0.mpr ⟨v6, ?_⟩)
      rw [clamp (by omega)]
      refine hq _ ?_ ((hF9.put (by simp)).put (by simp))
      have e : hrN W.hr W.ou i = (if (W.hr i + ((1 : Int32))) < ((9 : Int32)) then (W.hr i + ((1 : Int32))) else ((9 : Int32))) := by
        unfold hrN
        rw [hb2]
        rfl
      show Wat _ w _ (upd W.hr i (hrN W.hr W.ou i)) W.tp W.lk W.kg W.ou W.dy _ _
      rw [e]
      exact HWa.v0 _
  refine HW8.g0.mpr (HW8.r0.mpr ⟨v6, ?_⟩)
  rw [clamp (by omega)]
  refine ⟨fun hb => fin h8 W.dr HW8 hF8 (by rw [if_neg (fun q => q.1 hb)]), fun hb => ⟨fun hb2 => fin h8 W.dr HW8 hF8 (by rw [if_neg (fun q => hb2 q.2)]), fun hb2 => HW8.g8.mpr (HW8.p8.mpr ?_)⟩⟩
  exact fin _ _ (HW8.u8 (if (W.dr + ((1 : Int32))) < ((999 : Int32)) then (W.dr + ((1 : Int32))) else ((999 : Int32)))) (hF8.put (by simp)) (by rw [if_pos (c := ¬ W.lv i ≤ 0 ∧ lvN nx br i = 0) ⟨hb, hb2⟩])
end DY
