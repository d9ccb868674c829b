/-! ===== the fewest plugs: lets, just; wants ===== -/
abbrev pW.sOu (W : pW) (o : Nat) : pW := (W.lv, W.hr, W.tp, W.lk, W.kg, o, W.dy, W.sp, W.dr)
abbrev pW.sLv (W : pW) (f : Nat → Int32) : pW := (f, W.hr, W.tp, W.lk, W.kg, W.ou, W.dy, W.sp, W.dr)
abbrev pW.sHr (W : pW) (f : Nat → Int32) : pW := (W.lv, f, W.tp, W.lk, W.kg, W.ou, W.dy, W.sp, W.dr)
abbrev pW.sTp (W : pW) (f : Nat → Int32) : pW := (W.lv, W.hr, f, W.lk, W.kg, W.ou, W.dy, W.sp, W.dr)
abbrev pW.sLk (W : pW) (f : Nat → Int32) : pW := (W.lv, W.hr, W.tp, f, W.kg, W.ou, W.dy, W.sp, W.dr)
abbrev pW.sKg (W : pW) (f : Nat → Int32) : pW := (W.lv, W.hr, W.tp, W.lk, f, W.ou, W.dy, W.sp, W.dr)
theorem upd_cl {f : Nat → Int32} {i : Nat} {v : Int32} (hf : ∀ j, 6 ≤ j → f j = 0) (hi : i < 6) : ∀ j, 6 ≤ j → upd f i v j = 0 := fun j hj => by
  unfold upd
  rw [if_neg (by omega)]
  exact hf j hj
theorem Wok.sOu {W : pW} {o : Nat} (h : Wok W) (ho : o < 64) : Wok (W.sOu o) := ⟨ho, h.2⟩
theorem Wok.sLv {W : pW} {i : Nat} {v : Int32} (h : Wok W) (hi : i < 6) : Wok (W.sLv (upd W.lv i v)) := ⟨h.1, fun j hj => ⟨upd_cl (fun j hj => (h.2 j hj).1) hi j hj, (h.2 j hj).2⟩⟩
theorem Wok.sHr {W : pW} {i : Nat} {v : Int32} (h : Wok W) (hi : i < 6) : Wok (W.sHr (upd W.hr i v)) := ⟨h.1, fun j hj => ⟨(h.2 j hj).1, upd_cl (fun j hj => (h.2 j hj).2.1) hi j hj, (h.2 j hj).2.2⟩⟩
theorem Wok.sTp {W : pW} {i : Nat} {v : Int32} (h : Wok W) (hi : i < 6) : Wok (W.sTp (upd W.tp i v)) := ⟨h.1, fun j hj => ⟨(h.2 j hj).1, (h.2 j hj).2.1, upd_cl (fun j hj => (h.2 j hj).2.2.1) hi j hj, (h.2 j hj).2.2.2⟩⟩
theorem Wok.sLk {W : pW} {i : Nat} {v : Int32} (h : Wok W) (hi : i < 6) : Wok (W.sLk (upd W.lk i v)) := ⟨h.1, fun j hj => ⟨(h.2 j hj).1, (h.2 j hj).2.1, (h.2 j hj).2.2.1, upd_cl (fun j hj => (h.2 j hj).2.2.2.1) hi j hj, (h.2 j hj).2.2.2.2⟩⟩
theorem Wok.sKg {W : pW} {i : Nat} {v : Int32} (h : Wok W) (hi : i < 6) : Wok (W.sKg (upd W.kg i v)) := ⟨h.1, fun j hj => ⟨(h.2 j hj).1, (h.2 j hj).2.1, (h.2 j hj).2.2.1, (h.2 j hj).2.2.2.1, upd_cl (fun j hj => (h.2 j hj).2.2.2.2) hi j hj⟩⟩
/-- the first of the sets with the fewest bits of which p holds -/
def fewS (p : Nat → Bool) : Nat → Option Nat
  | 0 => none
  | N + 1 => match fewS p N with
    | none => if p N then some N else none
    | some b => if popc N < popc b ∧ p N = true then some N else some b
theorem fewS_none {p : Nat → Bool} : ∀ {N : Nat}, (∀ t, t < N → p t = false) → fewS p N = none
  | 0, _ => rfl
  | N + 1, h => by
    unfold fewS
    rw [fewS_none (fun t ht => h t (by omega))]
    simp [h N (by omega)]
theorem fewS_some {p : Nat → Bool} {s : Nat} (hp : p s = true) : ∀ {N : Nat}, s < N → (∀ t, t < N → p t = true → popc s < popc t ∨ (popc s = popc t ∧ s ≤ t)) → fewS p N = some s
  | 0, h, _ => absurd h (Nat.not_lt_zero s)
  | N + 1, h, hm => by
    unfold fewS
    rcases Nat.lt_or_ge s N with h1 | h1
    · rw [fewS_some hp h1 (fun t ht => hm t (by omega))]
      dsimp only
      rw [if_neg]
      rintro ⟨h2, h3⟩
      rcases hm N (by omega) h3 with h4 | h4 <;> omega
    · have e : s = N := by omega
      subst e
      have key : ∀ M, M ≤ s → fewS p M = none ∨ ∃ b, fewS p M = some b ∧ popc s < popc b := by
        intro M
        induction M with
        | zero => intro _; exact Or.inl rfl
        | succ M ih =>
          intro hM
          have hpM : p M = true → popc s < popc M := fun q => by rcases hm M (by omega) q with h4 | h4 <;> omega
          unfold fewS
          rcases ih (by omega) with e | ⟨b, e, hb⟩
          · rw [e]
            dsimp only
            by_cases q : p M = true
            · rw [if_pos q]; exact Or.inr ⟨M, rfl, hpM q⟩
            · rw [if_neg q]; exact Or.inl rfl
          · rw [e]
            dsimp only
            by_cases q : popc M < popc b ∧ p M = true
            · rw [if_pos q]; exact Or.inr ⟨M, rfl, hpM q.2⟩
            · rw [if_neg q]; exact Or.inr ⟨b, rfl, hb⟩
      rcases key s (Nat.le_refl _) with e | ⟨b, e, hb⟩
      · rw [e]; simp [hp]
      · rw [e]; simp [hp, hb]
theorem popc_le : ∀ n, n ≤ 6 → ∀ s, s < 2 ^ n → popc s ≤ n := by decide +kernel
theorem xor_nI (a b : Nat) : nI a ^^^ nI b = nI (a ^^^ b) := by
  apply Int32.toBitVec_inj.mp
  simp [nI]
theorem xor64 {a b : Nat} (ha : a < 64) (hb : b < 64) : a ^^^ b < 64 := Nat.xor_lt_two_pow (n := 6) ha hb
theorem or64 {a b : Nat} (ha : a < 64) (hb : b < 64) : a ||| b < 64 := Nat.or_lt_two_pow (n := 6) ha hb
theorem and64 {a b : Nat} (ha : a < 64) : a &&& b < 64 := Nat.lt_of_le_of_lt Nat.and_le_left ha
theorem nI_inj' {a b : Nat} (ha : a < 2 ^ 31) (hb : b < 2 ^ 31) : nI a = nI b ↔ a = b := ⟨fun e => by
  have := congrArg Int32.toNatClampNeg e
  rw [clamp ha, clamp hb] at this
  exact this, fun e => by rw [e]⟩
def dryOf (lv : Nat → Int32) (n : Nat) : Nat := bitsOf (fun i => decide (lv i = 0)) n
section SP
variable (rv : pRV) (br dn : Nat → Int32) (n : Nat) (W : pW) (rw : List Int64)
def fewP (so dr m : Nat) (s : Nat) : Bool := decide (dryOf (daysW rv br dn n m (W.sOu (W.ou ^^^ s))).lv n &&& so = dr)
def fewA (o : Option Nat) : pA := match o with
  | none => (-2, rw)
  | some b => (nI (popc b), [(nI b).toInt64])
def s_few (so dr m : Nat) : pA := fewA rw (fewS (fewP rv br dn n W so dr m) (2 ^ n))
def s_lets (l m : Int32) : pA := if eX1_has l (nI n) = 0 then (-1, rw) else if eX9_isWithin m 0 40 = 0 then (-1, rw) else s_few rv br dn n W rw (2 ^ l.toNatClampNeg) (2 ^ l.toNatClampNeg) m.toNatClampNeg
def s_just (so m : Int32) : pA := if ¬ (so &&& (nI (2 ^ n - 1) ^^^ (-1 : Int32))) = 0 then (-1, rw) else if eX9_isWithin m 0 40 = 0 then (-1, rw) else s_few rv br dn n W rw (2 ^ n - 1) so.toNatClampNeg m.toNatClampNeg
def wantP (k : Int32) (s : Nat) : Bool := decide (s &&& kset W.kg n k = 0) && decide (sumI W.lv n < 2 * totS W.lv (kset W.kg n k ||| s) n)
def s_wants (k : Int32) : pA := if eX9_isKing k = 0 then (-1, rw) else fewA rw (fewS (wantP n W k) (2 ^ n))
end SP
section CF
variable {Ex : State → Nat → Prop} {Q : Option Value → pz_H → Prop} {d bc bs : Nat} {h : pz_H} {x rF n : Nat} {br dn : Nat → Int32} {W T : pW} {rv : pRV} {rw : List Int64}
theorem CQ.setT {h' : pz_H} {T' : pW} (C : CQ h x rF n br dn W T rv rw) (hF : Fr [x + 22, x + 23, x + 24, x + 25, x + 26, x + 27] h h') (H : WatT h' (x + 22) T') (hT' : Wok T') : CQ h' x rF n br dn W T' rv rw := by
  obtain ⟨hr_, hn_, hWo_, hTo_, ⟨rO_, td_, ks_, dw_, HTop_⟩, ⟨ru_, nx_, HL_⟩, HW_, HT_, ⟨pa_, sk_, th_, len_, src_, at_, HR_, hv_⟩, ⟨nu_, HRow_, hrow_⟩⟩ := id C
  exact ⟨hr_, hn_, hWo_, hT', ⟨rO_, td_, ks_, dw_, HTop_.fr hF (by simp <;> omega)⟩, ⟨ru_, nx_, HL_.fr hF (by intro b hb; simp at hb; omega)⟩, HW_.fr hF (by intro b hb; simp at hb; omega), H, ⟨pa_, sk_, th_, len_, src_, at_, HR_.fr hF (by intro b hb; simp at hb; omega), hv_⟩, ⟨nu_, HRow_.fr hF (by intro b hb; simp at hb; omega), hrow_⟩⟩
theorem fr_T {h' : pz_H} (hF : Fr [x + 22, x + 23, x + 24, x + 25, x + 26, x + 27] h h') : Fr (SC x rF) h h' := hF.mono (by intro b hb; simp at hb ⊢; omega)
theorem fr_1 {l : List Nat} {b : Nat} {e : pz_E} (hb : b ∈ l) : Fr l h (pz_put h b e) := Fr.rf.put hb
theorem Fr.tt {l : List Nat} {h h' h'' : pz_H} (h1 : Fr l h h') (h2 : Fr l h' h'') : Fr l h h'' := h1.tr h2 (fun _ hb => hb)
theorem q_ou {o : Nat} {K : pz_H → Prop} (C : CQ h x rF n br dn W T rv rw) (ho : o < 64) (hq : ∀ h', CQ h' x rF n br dn W (T.sOu o) rv rw → Fr (SC x rF) h h' → K h') : pz_pF h (x + 22) 8 5 (.int (nI o)) K := by
  obtain ⟨hr_, hn_, hWo_, hTo_, ⟨rO_, td_, ks_, dw_, HTop_⟩, ⟨ru_, nx_, HL_⟩, HW_, HT_, ⟨pa_, sk_, th_, len_, src_, at_, HR_, hv_⟩, ⟨nu_, HRow_, hrow_⟩⟩ := id C
  exact HT_.p5.mpr (hq _ (C.setT (fr_1 (by simp)) (HT_.u5 o) (hTo_.sOu ho)) (fr_T (fr_1 (by simp))))
theorem q_lv {i : Nat} {v : Int32} {K : pz_H → Prop} (C : CQ h x rF n br dn W T rv rw) (hi : i < 6) (hq : ∀ h', CQ h' x rF n br dn W (T.sLv (upd T.lv i v)) rv rw → Fr (SC x rF) h h' → K h') : pz_sI h (x + 22 + 1) (nI i) v K := by
  obtain ⟨hr_, hn_, hWo_, hTo_, ⟨rO_, td_, ks_, dw_, HTop_⟩, ⟨ru_, nx_, HL_⟩, HW_, HT_, ⟨pa_, sk_, th_, len_, src_, at_, HR_, hv_⟩, ⟨nu_, HRow_, hrow_⟩⟩ := id C
  refine HT_.s0.mpr ⟨vin hi (by decide), ?_⟩
  rw [clamp (by omega)]
  exact hq _ (C.setT (fr_1 (by simp)) (HT_.v0 _) (hTo_.sLv hi)) (fr_T (fr_1 (by simp)))
theorem q_hr {i : Nat} {v : Int32} {K : pz_H → Prop} (C : CQ h x rF n br dn W T rv rw) (hi : i < 6) (hq : ∀ h', CQ h' x rF n br dn W (T.sHr (upd T.hr i v)) rv rw → Fr (SC x rF) h h' → K h') : pz_sI h (x + 22 + 2) (nI i) v K := by
  obtain ⟨hr_, hn_, hWo_, hTo_, ⟨rO_, td_, ks_, dw_, HTop_⟩, ⟨ru_, nx_, HL_⟩, HW_, HT_, ⟨pa_, sk_, th_, len_, src_, at_, HR_, hv_⟩, ⟨nu_, HRow_, hrow_⟩⟩ := id C
  refine HT_.s1.mpr ⟨vin hi (by decide), ?_⟩
  rw [clamp (by omega)]
  exact hq _ (C.setT (fr_1 (by simp)) (HT_.v1 _) (hTo_.sHr hi)) (fr_T (fr_1 (by simp)))
theorem q_tp {i : Nat} {v : Int32} {K : pz_H → Prop} (C : CQ h x rF n br dn W T rv rw) (hi : i < 6) (hq : ∀ h', CQ h' x rF n br dn W (T.sTp (upd T.tp i v)) rv rw → Fr (SC x rF) h h' → K h') : pz_sI h (x + 22 + 3) (nI i) v K := by
  obtain ⟨hr_, hn_, hWo_, hTo_, ⟨rO_, td_, ks_, dw_, HTop_⟩, ⟨ru_, nx_, HL_⟩, HW_, HT_, ⟨pa_, sk_, th_, len_, src_, at_, HR_, hv_⟩, ⟨nu_, HRow_, hrow_⟩⟩ := id C
  refine HT_.s2.mpr ⟨vin hi (by decide), ?_⟩
  rw [clamp (by omega)]
  exact hq _ (C.setT (fr_1 (by simp)) (HT_.v2 _) (hTo_.sTp hi)) (fr_T (fr_1 (by simp)))
theorem q_lk {i : Nat} {v : Int32} {K : pz_H → Prop} (C : CQ h x rF n br dn W T rv rw) (hi : i < 6) (hq : ∀ h', CQ h' x rF n br dn W (T.sLk (upd T.lk i v)) rv rw → Fr (SC x rF) h h' → K h') : pz_sI h (x + 22 + 4) (nI i) v K := by
  obtain ⟨hr_, hn_, hWo_, hTo_, ⟨rO_, td_, ks_, dw_, HTop_⟩, ⟨ru_, nx_, HL_⟩, HW_, HT_, ⟨pa_, sk_, th_, len_, src_, at_, HR_, hv_⟩, ⟨nu_, HRow_, hrow_⟩⟩ := id C
  refine HT_.s3.mpr ⟨vin hi (by decide), ?_⟩
  rw [clamp (by omega)]
  exact hq _ (C.setT (fr_1 (by simp)) (HT_.v3 _) (hTo_.sLk hi)) (fr_T (fr_1 (by simp)))
theorem c_few {so dr m : Nat} (C : CQ h x rF n br dn W T rv rw) (hso : so < 64) (hdr : dr < 64) (hm : m < 100) (hd : 5 ≤ d) (hq : ∀ h' T', CQ h' x rF n br dn W T' rv (s_few rv br dn n W rw so dr m).2 → Fr (SC x rF) h h' → Q (some (.int (s_few rv br dn n W rw so dr m).1)) h') : pz_V mX9_fewestTouched Ex Q d bc bs 0 [(0, .ref x), (1, .int (nI so)), (2, .int (nI dr)), (3, .int (nI m))] [] h := by
  have hn := C.2.1
  have h64 := pow_le64 hn
  have hp2 := Nat.two_pow_pos n
  have hW := C.2.2.1
  unfold s_few at hq
  refine wX9_fewestTouched_0 hd ?_
  -- the inner loop, by the sets that are left
  have inner : ∀ many, many ≤ n → (∀ (h' : pz_H) (T' : pW), CQ h' x rF n br dn W T' rv rw → Fr (SC x rF) h h' → (∀ t, t < 2 ^ n → fewP rv br dn n W so dr m t = true → many < popc t) → pz_V mX9_fewestTouched Ex Q d bc bs 3 [(0, .ref x), (1, .int (nI so)), (2, .int (nI dr)), (3, .int (nI m)), (4, .int (nI (many + 1)))] [] h') →
      ∀ (q s : Nat) (h' : pz_H) (T' : pW), s + q = 2 ^ n → CQ h' x rF n br dn W T' rv rw → Fr (SC x rF) h h' → (∀ t, t < 2 ^ n → fewP rv br dn n W so dr m t = true → many < popc t ∨ (many = popc t ∧ s ≤ t)) → pz_V mX9_fewestTouched Ex Q d bc bs 18 [(0, .ref x), (1, .int (nI so)), (2, .int (nI dr)), (3, .int (nI m)), (4, .int (nI many)), (5, .int (nI s))] [] h' := by
    intro many hmany hnext q
    induction q with
    | zero =>
      intro s h1 T1 hs C1 hF1 hp
      obtain ⟨hr1, hn1, hWo1, hTo1, ⟨rO1, td1, ks1, dw1, HTop1⟩, ⟨ru1, nx1, HL1⟩, HW1, HT1, ⟨pa1, sk1, th1, len1, src1, at1, HR1, hv1⟩, ⟨nu1, HRow1, hrow1⟩⟩ := id C1
      refine wX9_fewestTouched_18 hd ?_
      simp only [HTop1.g0, HTop1.g1, HTop1.g2, HTop1.g3, HTop1.g4, HTop1.g5, HTop1.g6, HTop1.g7, HTop1.g8, HTop1.g9, HTop1.g10, HTop1.g11, HTop1.g12, HTop1.g13, HTop1.g15, HTop1.g16, HTop1.i, HL1.g0, HL1.g1, HL1.g2, HL1.g3, HL1.g4, HL1.i, HL1.r0, HL1.r1, HW1.g0, HW1.g1, HW1.g2, HW1.g3, HW1.g4, HW1.g5, HW1.g6, HW1.g7, HW1.g8, HW1.i, HW1.r0, HW1.r1, HW1.r2, HW1.r3, HW1.r4, HT1.g0, HT1.g1, HT1.g2, HT1.g3, HT1.g4, HT1.g5, HT1.g6, HT1.g7, HT1.g8, HT1.i, HT1.r0, HT1.r1, HT1.r2, HT1.r3, HT1.r4, HR1.i, HRow1.i, all_eq n hn, nI_1, true_and]
      refine ⟨fun _ => hnext h1 T1 C1 hF1 (fun t ht hpt => ?_), fun hc => absurd (nI_lt (by omega) (by omega)) hc⟩
      rcases hp t ht hpt with h2 | h2
      · exact h2
      · omega
    | succ q ih =>
      intro s h1 T1 hs C1 hF1 hp
      obtain ⟨hr1, hn1, hWo1, hTo1, ⟨rO1, td1, ks1, dw1, HTop1⟩, ⟨ru1, nx1, HL1⟩, HW1, HT1, ⟨pa1, sk1, th1, len1, src1, at1, HR1, hv1⟩, ⟨nu1, HRow1, hrow1⟩⟩ := id C1
      refine wX9_fewestTouched_18 hd ?_
      simp only [HTop1.g0, HTop1.g1, HTop1.g2, HTop1.g3, HTop1.g4, HTop1.g5, HTop1.g6, HTop1.g7, HTop1.g8, HTop1.g9, HTop1.g10, HTop1.g11, HTop1.g12, HTop1.g13, HTop1.g15, HTop1.g16, HTop1.i, HL1.g0, HL1.g1, HL1.g2, HL1.g3, HL1.g4, HL1.i, HL1.r0, HL1.r1, HW1.g0, HW1.g1, HW1.g2, HW1.g3, HW1.g4, HW1.g5, HW1.g6, HW1.g7, HW1.g8, HW1.i, HW1.r0, HW1.r1, HW1.r2, HW1.r3, HW1.r4, HT1.g0, HT1.g1, HT1.g2, HT1.g3, HT1.g4, HT1.g5, HT1.g6, HT1.g7, HT1.g8, HT1.i, HT1.r0, HT1.r1, HT1.r2, HT1.r3, HT1.r4, HR1.i, HRow1.i, all_eq n hn, nI_1, true_and]
      refine ⟨fun hc => absurd hc (nI_nlt (by omega) (by omega)), fun _ => t_bitCount (by omega) ⟨_, rfl, ?_⟩⟩
      dsimp only
      rw [nI_inj' (a := popc s) (b := many) (by have := popc_le n hn s (by omega); omega) (by omega)]
      refine ⟨fun hne => ih (s + 1) h1 T1 (by omega) C1 hF1 (fun t ht hpt => ?_), fun he => ⟨HTop1.i.mpr trivial, q_start C1 (by omega) (fun h2 C2 hF2 => ⟨rfl, ?_⟩)⟩⟩
      · rcases hp t ht hpt with h2 | h2
        · exact Or.inl h2
        · refine Or.inr ⟨h2.1, ?_⟩
          rcases Nat.lt_or_ge s t with h3 | h3
          · omega
          · have : s = t := by omega
            subst this
            exact absurd h2.1.symm hne
      obtain ⟨hr2, hn2, hWo2, hTo2, ⟨rO2, td2, ks2, dw2, HTop2⟩, ⟨ru2, nx2, HL2⟩, HW2, HT2, ⟨pa2, sk2, th2, len2, src2, at2, HR2, hv2⟩, ⟨nu2, HRow2, hrow2⟩⟩ := id C2
      simp only [HTop2.g0, HTop2.g1, HTop2.g2, HTop2.g3, HTop2.g4, HTop2.g5, HTop2.g6, HTop2.g7, HTop2.g8, HTop2.g9, HTop2.g10, HTop2.g11, HTop2.g12, HTop2.g13, HTop2.g15, HTop2.g16, HTop2.i, HL2.g0, HL2.g1, HL2.g2, HL2.g3, HL2.g4, HL2.i, HL2.r0, HL2.r1, HW2.g0, HW2.g1, HW2.g2, HW2.g3, HW2.g4, HW2.g5, HW2.g6, HW2.g7, HW2.g8, HW2.i, HW2.r0, HW2.r1, HW2.r2, HW2.r3, HW2.r4, HT2.g0, HT2.g1, HT2.g2, HT2.g3, HT2.g4, HT2.g5, HT2.g6, HT2.g7, HT2.g8, HT2.i, HT2.r0, HT2.r1, HT2.r2, HT2.r3, HT2.r4, HR2.i, HRow2.i, xor_nI, true_and]
      have hx64 : W.ou ^^^ s < 64 := xor64 hW.1 (by omega)
      refine q_ou C2 hx64 (fun h3 C3 hF3 => ?_)
      have hF3 := hF2.tr hF3 (fun _ hb => hb)
      obtain ⟨hr3, hn3, hWo3, hTo3, ⟨rO3, td3, ks3, dw3, HTop3⟩, ⟨ru3, nx3, HL3⟩, HW3, HT3, ⟨pa3, sk3, th3, len3, src3, at3, HR3, hv3⟩, ⟨nu3, HRow3, hrow3⟩⟩ := id C3
      simp only [HTop3.g0, HTop3.g1, HTop3.g2, HTop3.g3, HTop3.g4, HTop3.g5, HTop3.g6, HTop3.g7, HTop3.g8, HTop3.g9, HTop3.g10, HTop3.g11, HTop3.g12, HTop3.g13, HTop3.g15, HTop3.g16, HTop3.i, HL3.g0, HL3.g1, HL3.g2, HL3.g3, HL3.g4, HL3.i, HL3.r0, HL3.r1, HW3.g0, HW3.g1, HW3.g2, HW3.g3, HW3.g4, HW3.g5, HW3.g6, HW3.g7, HW3.g8, HW3.i, HW3.r0, HW3.r1, HW3.r2, HW3.r3, HW3.r4, HT3.g0, HT3.g1, HT3.g2, HT3.g3, HT3.g4, HT3.g5, HT3.g6, HT3.g7, HT3.g8, HT3.i, HT3.r0, HT3.r1, HT3.r2, HT3.r3, HT3.r4, HR3.i, HRow3.i, true_and]
      refine q_days C3 (by omega) (by omega) (fun h4 C4 hF4 => ⟨rfl, ?_⟩)
      obtain ⟨hr4, hn4, hWo4, hTo4, ⟨rO4, td4, ks4, dw4, HTop4⟩, ⟨ru4, nx4, HL4⟩, HW4, HT4, ⟨pa4, sk4, th4, len4, src4, at4, HR4, hv4⟩, ⟨nu4, HRow4, hrow4⟩⟩ := id C4
      simp only [HTop4.g0, HTop4.g1, HTop4.g2, HTop4.g3, HTop4.g4, HTop4.g5, HTop4.g6, HTop4.g7, HTop4.g8, HTop4.g9, HTop4.g10, HTop4.g11, HTop4.g12, HTop4.g13, HTop4.g15, HTop4.g16, HTop4.i, HL4.g0, HL4.g1, HL4.g2, HL4.g3, HL4.g4, HL4.i, HL4.r0, HL4.r1, HW4.g0, HW4.g1, HW4.g2, HW4.g3, HW4.g4, HW4.g5, HW4.g6, HW4.g7, HW4.g8, HW4.i, HW4.r0, HW4.r1, HW4.r2, HW4.r3, HW4.r4, HT4.g0, HT4.g1, HT4.g2, HT4.g3, HT4.g4, HT4.g5, HT4.g6, HT4.g7, HT4.g8, HT4.i, HT4.r0, HT4.r1, HT4.r2, HT4.r3, HT4.r4, HR4.i, HRow4.i, true_and]
      refine t_dry HL4 HT4 hn ⟨_, rfl, ?_⟩
      dsimp only
      rw [fa_and]
      show (¬ nI (dryOf (daysW rv br dn n m (W.sOu (W.ou ^^^ s))).lv n &&& so) = nI dr → _) ∧ (nI (dryOf (daysW rv br dn n m (W.sOu (W.ou ^^^ s))).lv n &&& so) = nI dr → _)
      have hdl : dryOf (daysW rv br dn n m (W.sOu (W.ou ^^^ s))).lv n < 64 := bitsOf_64 _ hn
      rw [nI_inj' (by have := and64 (b := so) hdl; omega) (by omega)]
      have hF := (hF1.tr hF3 (fun _ hb => hb)).tr hF4 (fun _ hb => hb)
      refine ⟨fun hne => ih (s + 1) h4 _ (by omega) C4 hF (fun t ht hpt => ?_), fun he2 => ?_⟩
      · rcases hp t ht hpt with h2 | h2
        · exact Or.inl h2
        · refine Or.inr ⟨h2.1, ?_⟩
          rcases Nat.lt_or_ge s t with h3 | h3
          · omega
          · have : s = t := by omega
            subst this
            exact absurd (of_decide_eq_true hpt) hne
      · have e : fewS (fewP rv br dn n W so dr m) (2 ^ n) = some s := by
          refine fewS_some (decide_eq_true he2) (by omega) (fun t ht hpt => ?_)
          rw [he]
          exact hp t ht hpt
        rw [e] at hq
        simp only [HTop4.g0, HTop4.g1, HTop4.g2, HTop4.g3, HTop4.g4, HTop4.g5, HTop4.g6, HTop4.g7, HTop4.g8, HTop4.g9, HTop4.g10, HTop4.g11, HTop4.g12, HTop4.g13, HTop4.g15, HTop4.g16, HTop4.i, HL4.g0, HL4.g1, HL4.g2, HL4.g3, HL4.g4, HL4.i, HL4.r0, HL4.r1, HW4.g0, HW4.g1, HW4.g2, HW4.g3, HW4.g4, HW4.g5, HW4.g6, HW4.g7, HW4.g8, HW4.i, HW4.r0, HW4.r1, HW4.r2, HW4.r3, HW4.r4, HT4.g0, HT4.g1, HT4.g2, HT4.g3, HT4.g4, HT4.g5, HT4.g6, HT4.g7, HT4.g8, HT4.i, HT4.r0, HT4.r1, HT4.r2, HT4.r3, HT4.r4, HR4.i, HRow4.i, true_and]
        refine q_tell C4 (by omega) (fun h5 C5 hF5 => ⟨rfl, ?_⟩)
        rw [← he]
        exact hq h5 _ C5 (hF.tr hF5 (fun _ hb => hb))
  suffices H : ∀ (q many : Nat) (h' : pz_H) (T' : pW), many + q = n + 1 → CQ h' x rF n br dn W T' rv rw → Fr (SC x rF) h h' → (∀ t, t < 2 ^ n → fewP rv br dn n W so dr m t = true → many ≤ popc t) → pz_V mX9_fewestTouched Ex Q d bc bs 3 [(0, .ref x), (1, .int (nI so)), (2, .int (nI dr)), (3, .int (nI m)), (4, .int (nI many))] [] h' from H (n + 1) 0 h T (Nat.zero_add _) C Fr.rf (fun t _ _ => Nat.zero_le _)
  intro q
  induction q with
  | zero =>
    intro many h1 T1 hmany C1 hF1 hp
    obtain ⟨hr1, hn1, hWo1, hTo1, ⟨rO1, td1, ks1, dw1, HTop1⟩, ⟨ru1, nx1, HL1⟩, HW1, HT1, ⟨pa1, sk1, th1, len1, src1, at1, HR1, hv1⟩, ⟨nu1, HRow1, hrow1⟩⟩ := id C1
    refine wX9_fewestTouched_3 hd ?_
    simp only [HTop1.g0, HTop1.g1, HTop1.g2, HTop1.g3, HTop1.g4, HTop1.g5, HTop1.g6, HTop1.g7, HTop1.g8, HTop1.g9, HTop1.g10, HTop1.g11, HTop1.g12, HTop1.g13, HTop1.g15, HTop1.g16, HTop1.i, HL1.g0, HL1.g1, HL1.g2, HL1.g3, HL1.g4, HL1.i, HL1.r0, HL1.r1, HW1.g0, HW1.g1, HW1.g2, HW1.g3, HW1.g4, HW1.g5, HW1.g6, HW1.g7, HW1.g8, HW1.i, HW1.r0, HW1.r1, HW1.r2, HW1.r3, HW1.r4, HT1.g0, HT1.g1, HT1.g2, HT1.g3, HT1.g4, HT1.g5, HT1.g6, HT1.g7, HT1.g8, HT1.i, HT1.r0, HT1.r1, HT1.r2, HT1.r3, HT1.r4, HR1.i, HRow1.i, true_and]
    refine ⟨fun _ => ?_, fun hc => absurd (nI_lt (by omega) (by omega)) hc⟩
    have e : fewS (fewP rv br dn n W so dr m) (2 ^ n) = none := fewS_none (fun t ht => by
      cases hpt : fewP rv br dn n W so dr m t
      · rfl
      · have := hp t ht hpt
        have := popc_le n hn t ht
        omega)
    rw [e] at hq
    exact hq h1 T1 C1 hF1
  | succ q ih =>
    intro many h1 T1 hmany C1 hF1 hp
    obtain ⟨hr1, hn1, hWo1, hTo1, ⟨rO1, td1, ks1, dw1, HTop1⟩, ⟨ru1, nx1, HL1⟩, HW1, HT1, ⟨pa1, sk1, th1, len1, src1, at1, HR1, hv1⟩, ⟨nu1, HRow1, hrow1⟩⟩ := id C1
    refine wX9_fewestTouched_3 hd ?_
    simp only [HTop1.g0, HTop1.g1, HTop1.g2, HTop1.g3, HTop1.g4, HTop1.g5, HTop1.g6, HTop1.g7, HTop1.g8, HTop1.g9, HTop1.g10, HTop1.g11, HTop1.g12, HTop1.g13, HTop1.g15, HTop1.g16, HTop1.i, HL1.g0, HL1.g1, HL1.g2, HL1.g3, HL1.g4, HL1.i, HL1.r0, HL1.r1, HW1.g0, HW1.g1, HW1.g2, HW1.g3, HW1.g4, HW1.g5, HW1.g6, HW1.g7, HW1.g8, HW1.i, HW1.r0, HW1.r1, HW1.r2, HW1.r3, HW1.r4, HT1.g0, HT1.g1, HT1.g2, HT1.g3, HT1.g4, HT1.g5, HT1.g6, HT1.g7, HT1.g8, HT1.i, HT1.r0, HT1.r1, HT1.r2, HT1.r3, HT1.r4, HR1.i, HRow1.i, true_and]
    refine ⟨fun hc => absurd hc (nI_nlt (by omega) (by omega)), fun _ => ?_⟩
    refine inner many (by omega) (fun h2 T2 C2 hF2 hp2 => ih (many + 1) h2 T2 (by omega) C2 hF2 hp2) (2 ^ n) 0 h1 T1 (Nat.zero_add _) C1 hF1 (fun t ht hpt => ?_)
    have := hp t ht hpt
    omega
theorem c_lets {l m : Int32} (C : CQ h x rF n br dn W T rv rw) (hd : 6 ≤ d) (hq : ∀ h' T', CQ h' x rF n br dn W T' rv (s_lets rv br dn n W rw l m).2 → Fr (SC x rF) h h' → Q (some (.int (s_lets rv br dn n W rw l m).1)) h') : pz_V mX9_lets Ex Q d bc bs 0 [(0, .ref x), (1, .int l), (2, .int m)] [] h := by
  obtain ⟨hr0, hn0, hWo0, hTo0, ⟨rO0, td0, ks0, dw0, HTop0⟩, ⟨ru0, nx0, HL0⟩, HW0, HT0, ⟨pa0, sk0, th0, len0, src0, at0, HR0, hv0⟩, ⟨nu0, HRow0, hrow0⟩⟩ := id C
  unfold s_lets at hq
  refine wX9_lets_0 hd ?_
  simp only [HTop0.g0, HTop0.g1, HTop0.g2, HTop0.g3, HTop0.g4, HTop0.g5, HTop0.g6, HTop0.g7, HTop0.g8, HTop0.g9, HTop0.g10, HTop0.g11, HTop0.g12, HTop0.g13, HTop0.g15, HTop0.g16, HTop0.i, HL0.g0, HL0.g1, HL0.g2, HL0.g3, HL0.g4, HL0.i, HL0.r0, HL0.r1, HW0.g0, HW0.g1, HW0.g2, HW0.g3, HW0.g4, HW0.g5, HW0.g6, HW0.g7, HW0.g8, HW0.i, HW0.r0, HW0.r1, HW0.r2, HW0.r3, HW0.r4, HT0.g0, HT0.g1, HT0.g2, HT0.g3, HT0.g4, HT0.g5, HT0.g6, HT0.g7, HT0.g8, HT0.i, HT0.r0, HT0.r1, HT0.r2, HT0.r3, HT0.r4, HR0.i, HRow0.i, true_and]
  refine ⟨fun hc => ?_, fun hc => ⟨fun hc2 => ?_, fun hc2 => ?_⟩⟩
  · rw [if_pos hc] at hq; exact hq h T C Fr.rf
  · rw [if_neg hc, if_neg hc2] at hq
    obtain ⟨i, hi, rfl⟩ := (has_0 hn0).mp hc
    obtain ⟨k, hk, rfl⟩ := (within_0 (hi := 40) (by decide)).mp hc2
    rw [clamp (by omega), clamp (by omega)] at hq
    rw [shl1 i (by omega)]
    have h2 : 2 ^ i < 64 := by
      have := Nat.pow_lt_pow_right (a := 2) (m := i) (n := 6) (by decide) (by omega)
      omega
    exact c_few C h2 h2 (by omega) (by omega) (fun h1 T1 C1 hF1 => ⟨_, rfl, hq h1 T1 C1 hF1⟩)
  · rw [if_neg hc, if_pos hc2] at hq; exact hq h T C Fr.rf
theorem c_just {so m : Int32} (C : CQ h x rF n br dn W T rv rw) (hd : 6 ≤ d) (hq : ∀ h' T', CQ h' x rF n br dn W T' rv (s_just rv br dn n W rw so m).2 → Fr (SC x rF) h h' → Q (some (.int (s_just rv br dn n W rw so m).1)) h') : pz_V mX9_just Ex Q d bc bs 0 [(0, .ref x), (1, .int so), (2, .int m)] [] h := by
  obtain ⟨hr0, hn0, hWo0, hTo0, ⟨rO0, td0, ks0, dw0, HTop0⟩, ⟨ru0, nx0, HL0⟩, HW0, HT0, ⟨pa0, sk0, th0, len0, src0, at0, HR0, hv0⟩, ⟨nu0, HRow0, hrow0⟩⟩ := id C
  unfold s_just at hq
  have h64 := pow_le64 hn0
  have hp2 := Nat.two_pow_pos n
  refine wX9_just_0 hd ?_
  simp only [HTop0.g0, HTop0.g1, HTop0.g2, HTop0.g3, HTop0.g4, HTop0.g5, HTop0.g6, HTop0.g7, HTop0.g8, HTop0.g9, HTop0.g10, HTop0.g11, HTop0.g12, HTop0.g13, HTop0.g15, HTop0.g16, HTop0.i, HL0.g0, HL0.g1, HL0.g2, HL0.g3, HL0.g4, HL0.i, HL0.r0, HL0.r1, HW0.g0, HW0.g1, HW0.g2, HW0.g3, HW0.g4, HW0.g5, HW0.g6, HW0.g7, HW0.g8, HW0.i, HW0.r0, HW0.r1, HW0.r2, HW0.r3, HW0.r4, HT0.g0, HT0.g1, HT0.g2, HT0.g3, HT0.g4, HT0.g5, HT0.g6, HT0.g7, HT0.g8, HT0.i, HT0.r0, HT0.r1, HT0.r2, HT0.r3, HT0.r4, HR0.i, HRow0.i, all_eq n hn0, true_and]
  refine ⟨fun hc => ?_, fun hc => ⟨fun hc2 => ?_, fun hc2 => ?_⟩⟩
  · rw [if_pos hc] at hq; exact hq h T C Fr.rf
  · rw [if_neg (fun q => q hc), if_neg hc2] at hq
    obtain ⟨s, hs, rfl⟩ := sub_all hn0 hc
    obtain ⟨k, hk, rfl⟩ := (within_0 (hi := 40) (by decide)).mp hc2
    rw [clamp (by omega), clamp (by omega)] at hq
    exact c_few C (by omega) (by omega) (by omega) (by omega) (fun h1 T1 C1 hF1 => ⟨_, rfl, hq h1 T1 C1 hF1⟩)
  · rw [if_neg (fun q => q hc), if_pos hc2] at hq; exact hq h T C Fr.rf
theorem ovl : ∀ o, o < 64 → ∀ s, s < 64 → s &&& o ≠ 0 → popc (s ^^^ (s &&& o)) < popc s ∧ (o ||| (s ^^^ (s &&& o))) = (o ||| s) ∧ (s ^^^ (s &&& o)) ≤ s := by decide +kernel
theorem c_wants {k : Int32} (C : CQ h x rF n br dn W T rv rw) (hd : 3 ≤ d) (hq : ∀ h' T', CQ h' x rF n br dn W T' rv (s_wants n W rw k).2 → Fr (SC x rF) h h' → Q (some (.int (s_wants n W rw k).1)) h') : pz_V mX9_wants Ex Q d bc bs 0 [(0, .ref x), (1, .int k)] [] h := by
  obtain ⟨hr0, hn0, hWo0, hTo0, ⟨rO0, td0, ks0, dw0, HTop0⟩, ⟨ru0, nx0, HL0⟩, HW0, HT0, ⟨pa0, sk0, th0, len0, src0, at0, HR0, hv0⟩, ⟨nu0, HRow0, hrow0⟩⟩ := id C
  unfold s_wants at hq
  have h64 := pow_le64 hn0
  have hp2 := Nat.two_pow_pos n
  refine wX9_wants_0 hd ?_
  simp only [HTop0.g0, HTop0.g1, HTop0.g2, HTop0.g3, HTop0.g4, HTop0.g5, HTop0.g6, HTop0.g7, HTop0.g8, HTop0.g9, HTop0.g10, HTop0.g11, HTop0.g12, HTop0.g13, HTop0.g15, HTop0.g16, HTop0.i, HL0.g0, HL0.g1, HL0.g2, HL0.g3, HL0.g4, HL0.i, HL0.r0, HL0.r1, HW0.g0, HW0.g1, HW0.g2, HW0.g3, HW0.g4, HW0.g5, HW0.g6, HW0.g7, HW0.g8, HW0.i, HW0.r0, HW0.r1, HW0.r2, HW0.r3, HW0.r4, HT0.g0, HT0.g1, HT0.g2, HT0.g3, HT0.g4, HT0.g5, HT0.g6, HT0.g7, HT0.g8, HT0.i, HT0.r0, HT0.r1, HT0.r2, HT0.r3, HT0.r4, HR0.i, HRow0.i, true_and]
  refine ⟨fun hc => ?_, fun hc => by rw [if_pos hc] at hq; exact hq h T C Fr.rf⟩
  rw [if_neg hc] at hq
  have hs : kset W.kg n k < 64 := bitsOf_64 (fun i => decide (W.kg i = k)) hn0
  refine t_heldBy HL0 HW0 hn0 ⟨_, rfl, ?_⟩
  simp only [HTop0.g0, HTop0.g1, HTop0.g2, HTop0.g3, HTop0.g4, HTop0.g5, HTop0.g6, HTop0.g7, HTop0.g8, HTop0.g9, HTop0.g10, HTop0.g11, HTop0.g12, HTop0.g13, HTop0.g15, HTop0.g16, HTop0.i, HL0.g0, HL0.g1, HL0.g2, HL0.g3, HL0.g4, HL0.i, HL0.r0, HL0.r1, HW0.g0, HW0.g1, HW0.g2, HW0.g3, HW0.g4, HW0.g5, HW0.g6, HW0.g7, HW0.g8, HW0.i, HW0.r0, HW0.r1, HW0.r2, HW0.r3, HW0.r4, HT0.g0, HT0.g1, HT0.g2, HT0.g3, HT0.g4, HT0.g5, HT0.g6, HT0.g7, HT0.g8, HT0.i, HT0.r0, HT0.r1, HT0.r2, HT0.r3, HT0.r4, HR0.i, HRow0.i, true_and]
  refine t_total HL0 HW0 hn0 (by omega) ⟨_, rfl, ?_⟩
  show pz_V mX9_wants Ex Q d bc bs 37 [(0, .ref x), (2, .int (nI (kset W.kg n k))), (3, .int (sumI W.lv n)), (4, .int (nI 0))] [] h
  have sub : ∀ t, wantP n W k t = true → sumI W.lv n < 2 * totS W.lv (kset W.kg n k ||| t) n := fun t ht => by
    unfold wantP at ht
    rw [Bool.and_eq_true] at ht
    exact of_decide_eq_true ht.2
  generalize hP : (fun t => sumI W.lv n < 2 * totS W.lv (kset W.kg n k ||| t) n) = P
  have hPt : ∀ t, P t ↔ sumI W.lv n < 2 * totS W.lv (kset W.kg n k ||| t) n := fun t => by rw [← hP]
  have inner : ∀ many, many ≤ n → (∀ t, t < 2 ^ n → P t → many ≤ popc t) → ((∀ t, t < 2 ^ n → P t → many < popc t) → pz_V mX9_wants Ex Q d bc bs 37 [(0, .ref x), (2, .int (nI (kset W.kg n k))), (3, .int (sumI W.lv n)), (4, .int (nI (many + 1)))] [] h) →
      ∀ (q s : Nat), s + q = 2 ^ n → (∀ t, t < 2 ^ n → P t → many < popc t ∨ (many = popc t ∧ s ≤ t)) → pz_V mX9_wants Ex Q d bc bs 52 [(0, .ref x), (2, .int (nI (kset W.kg n k))), (3, .int (sumI W.lv n)), (4, .int (nI many)), (5, .int (nI s))] [] h := by
    intro many hmany hall hnext q
    induction q with
    | zero =>
      intro s hs1 hp
      refine wX9_wants_52 hd ?_
      simp only [HTop0.g0, HTop0.g1, HTop0.g2, HTop0.g3, HTop0.g4, HTop0.g5, HTop0.g6, HTop0.g7, HTop0.g8, HTop0.g9, HTop0.g10, HTop0.g11, HTop0.g12, HTop0.g13, HTop0.g15, HTop0.g16, HTop0.i, HL0.g0, HL0.g1, HL0.g2, HL0.g3, HL0.g4, HL0.i, HL0.r0, HL0.r1, HW0.g0, HW0.g1, HW0.g2, HW0.g3, HW0.g4, HW0.g5, HW0.g6, HW0.g7, HW0.g8, HW0.i, HW0.r0, HW0.r1, HW0.r2, HW0.r3, HW0.r4, HT0.g0, HT0.g1, HT0.g2, HT0.g3, HT0.g4, HT0.g5, HT0.g6, HT0.g7, HT0.g8, HT0.i, HT0.r0, HT0.r1, HT0.r2, HT0.r3, HT0.r4, HR0.i, HRow0.i, all_eq n hn0, nI_1, true_and]
      refine ⟨fun _ => hnext (fun t ht hpt => ?_), fun hc => absurd (nI_lt (by omega) (by omega)) hc⟩
      rcases hp t ht hpt with h2 | h2
      · exact h2
      · omega
    | succ q ih =>
      intro s hs1 hp
      have stay : ¬ P s ∨ ¬ popc s = many → pz_V mX9_wants Ex Q d bc bs 52 [(0, .ref x), (2, .int (nI (kset W.kg n k))), (3, .int (sumI W.lv n)), (4, .int (nI many)), (5, .int (nI (s + 1)))] [] h := by
        intro hno
        refine ih (s + 1) (by omega) (fun t ht hpt => ?_)
        rcases hp t ht hpt with h2 | h2
        · exact Or.inl h2
        · refine Or.inr ⟨h2.1, ?_⟩
          rcases Nat.lt_or_ge s t with h3 | h3
          · omega
          · have : s = t := by omega
            subst this
            rcases hno with h4 | h4
            · exact absurd hpt h4
            · exact absurd h2.1.symm h4
      refine wX9_wants_52 hd ?_
      simp only [HTop0.g0, HTop0.g1, HTop0.g2, HTop0.g3, HTop0.g4, HTop0.g5, HTop0.g6, HTop0.g7, HTop0.g8, HTop0.g9, HTop0.g10, HTop0.g11, HTop0.g12, HTop0.g13, HTop0.g15, HTop0.g16, HTop0.i, HL0.g0, HL0.g1, HL0.g2, HL0.g3, HL0.g4, HL0.i, HL0.r0, HL0.r1, HW0.g0, HW0.g1, HW0.g2, HW0.g3, HW0.g4, HW0.g5, HW0.g6, HW0.g7, HW0.g8, HW0.i, HW0.r0, HW0.r1, HW0.r2, HW0.r3, HW0.r4, HT0.g0, HT0.g1, HT0.g2, HT0.g3, HT0.g4, HT0.g5, HT0.g6, HT0.g7, HT0.g8, HT0.i, HT0.r0, HT0.r1, HT0.r2, HT0.r3, HT0.r4, HR0.i, HRow0.i, all_eq n hn0, nI_1, true_and]
      refine ⟨fun hc => absurd hc (nI_nlt (by omega) (by omega)), fun _ => t_bitCount (by omega) ⟨_, rfl, ?_⟩⟩
      dsimp only
      rw [nI_inj' (a := popc s) (b := many) (by have := popc_le n hn0 s (by omega); omega) (by omega)]
      refine ⟨fun hne => stay (Or.inr hne), fun he => ?_⟩
      simp only [HTop0.g0, HTop0.g1, HTop0.g2, HTop0.g3, HTop0.g4, HTop0.g5, HTop0.g6, HTop0.g7, HTop0.g8, HTop0.g9, HTop0.g10, HTop0.g11, HTop0.g12, HTop0.g13, HTop0.g15, HTop0.g16, HTop0.i, HL0.g0, HL0.g1, HL0.g2, HL0.g3, HL0.g4, HL0.i, HL0.r0, HL0.r1, HW0.g0, HW0.g1, HW0.g2, HW0.g3, HW0.g4, HW0.g5, HW0.g6, HW0.g7, HW0.g8, HW0.i, HW0.r0, HW0.r1, HW0.r2, HW0.r3, HW0.r4, HT0.g0, HT0.g1, HT0.g2, HT0.g3, HT0.g4, HT0.g5, HT0.g6, HT0.g7, HT0.g8, HT0.i, HT0.r0, HT0.r1, HT0.r2, HT0.r3, HT0.r4, HR0.i, HRow0.i, or_nI, true_and]
      refine t_totalOf HL0 HW0 hn0 (or64 hs (by omega)) (by omega) ⟨_, rfl, ?_⟩
      refine ⟨fun hle => stay (Or.inl (fun q => absurd hle (Int32.not_le.mpr ((hPt s).mp q)))), fun hgt => ?_⟩
      have hPs : P s := (hPt s).mpr (Int32.not_le.mp hgt)
      have hno : s &&& kset W.kg n k = 0 := by
        rcases Nat.eq_zero_or_pos (s &&& kset W.kg n k) with e | e
        · exact e
        · obtain ⟨g1, g2, g3⟩ := ovl (kset W.kg n k) hs s (by omega) (by omega)
          have := hall (s ^^^ (s &&& kset W.kg n k)) (by omega) ((hPt _).mpr (by rw [g2]; exact (hPt s).mp hPs))
          omega
      have e : fewS (wantP n W k) (2 ^ n) = some s := by
        refine fewS_some ?_ (by omega) (fun t ht hpt => ?_)
        · unfold wantP
          rw [decide_eq_true hno, decide_eq_true ((hPt s).mp hPs)]
          rfl
        · rw [he]
          exact hp t ht ((hPt t).mpr (sub t hpt))
      rw [e] at hq
      simp only [HTop0.g0, HTop0.g1, HTop0.g2, HTop0.g3, HTop0.g4, HTop0.g5, HTop0.g6, HTop0.g7, HTop0.g8, HTop0.g9, HTop0.g10, HTop0.g11, HTop0.g12, HTop0.g13, HTop0.g15, HTop0.g16, HTop0.i, HL0.g0, HL0.g1, HL0.g2, HL0.g3, HL0.g4, HL0.i, HL0.r0, HL0.r1, HW0.g0, HW0.g1, HW0.g2, HW0.g3, HW0.g4, HW0.g5, HW0.g6, HW0.g7, HW0.g8, HW0.i, HW0.r0, HW0.r1, HW0.r2, HW0.r3, HW0.r4, HT0.g0, HT0.g1, HT0.g2, HT0.g3, HT0.g4, HT0.g5, HT0.g6, HT0.g7, HT0.g8, HT0.i, HT0.r0, HT0.r1, HT0.r2, HT0.r3, HT0.r4, HR0.i, HRow0.i, true_and]
      refine q_tell C (by omega) (fun h5 C5 hF5 => ⟨rfl, ?_⟩)
      rw [← he]
      exact hq h5 _ C5 hF5
  suffices H : ∀ (q many : Nat), many + q = n + 1 → (∀ t, t < 2 ^ n → P t → many ≤ popc t) → pz_V mX9_wants Ex Q d bc bs 37 [(0, .ref x), (2, .int (nI (kset W.kg n k))), (3, .int (sumI W.lv n)), (4, .int (nI many))] [] h from H (n + 1) 0 (Nat.zero_add _) (fun t _ _ => Nat.zero_le _)
  intro q
  induction q with
  | zero =>
    intro many hmany hp
    refine wX9_wants_37 hd ?_
    simp only [HTop0.g0, HTop0.g1, HTop0.g2, HTop0.g3, HTop0.g4, HTop0.g5, HTop0.g6, HTop0.g7, HTop0.g8, HTop0.g9, HTop0.g10, HTop0.g11, HTop0.g12, HTop0.g13, HTop0.g15, HTop0.g16, HTop0.i, HL0.g0, HL0.g1, HL0.g2, HL0.g3, HL0.g4, HL0.i, HL0.r0, HL0.r1, HW0.g0, HW0.g1, HW0.g2, HW0.g3, HW0.g4, HW0.g5, HW0.g6, HW0.g7, HW0.g8, HW0.i, HW0.r0, HW0.r1, HW0.r2, HW0.r3, HW0.r4, HT0.g0, HT0.g1, HT0.g2, HT0.g3, HT0.g4, HT0.g5, HT0.g6, HT0.g7, HT0.g8, HT0.i, HT0.r0, HT0.r1, HT0.r2, HT0.r3, HT0.r4, HR0.i, HRow0.i, true_and]
    refine ⟨fun _ => ?_, fun hc => absurd (nI_lt (by omega) (by omega)) hc⟩
    have e : fewS (wantP n W k) (2 ^ n) = none := fewS_none (fun t ht => by
      cases hpt : wantP n W k t
      · rfl
      · have := hp t ht ((hPt t).mpr (sub t hpt))
        have := popc_le n hn0 t ht
        omega)
    rw [e] at hq
    exact hq h T C Fr.rf
  | succ q ih =>
    intro many hmany hp
    refine wX9_wants_37 hd ?_
    simp only [HTop0.g0, HTop0.g1, HTop0.g2, HTop0.g3, HTop0.g4, HTop0.g5, HTop0.g6, HTop0.g7, HTop0.g8, HTop0.g9, HTop0.g10, HTop0.g11, HTop0.g12, HTop0.g13, HTop0.g15, HTop0.g16, HTop0.i, HL0.g0, HL0.g1, HL0.g2, HL0.g3, HL0.g4, HL0.i, HL0.r0, HL0.r1, HW0.g0, HW0.g1, HW0.g2, HW0.g3, HW0.g4, HW0.g5, HW0.g6, HW0.g7, HW0.g8, HW0.i, HW0.r0, HW0.r1, HW0.r2, HW0.r3, HW0.r4, HT0.g0, HT0.g1, HT0.g2, HT0.g3, HT0.g4, HT0.g5, HT0.g6, HT0.g7, HT0.g8, HT0.i, HT0.r0, HT0.r1, HT0.r2, HT0.r3, HT0.r4, HR0.i, HRow0.i, true_and]
    refine ⟨fun hc => absurd hc (nI_nlt (by omega) (by omega)), fun _ => ?_⟩
    refine inner many (by omega) hp (fun hp2 => ih (many + 1) (by omega) hp2) (2 ^ n) 0 (Nat.zero_add _) (fun t ht hpt => ?_)
    have := hp t ht hpt
    omega
end CF
