/-! ===== sign, end, ring, washes, keep, again, undo, count: specs, and the class ===== -/
def byteOf (v : Int32) (k : Nat) : Nat := v.toBitVec.toNat / 2 ^ (8 * k) % 256
def txSign (tx : Nat → Nat) (tl : Nat) (v : Int32) (j : Nat) : Nat := if j = tl then byteOf v 3 else if j = tl + 1 then byteOf v 2 else if j = tl + 2 then byteOf v 1 else if j = tl + 3 then byteOf v 0 else tx j
abbrev pR : Type := Int32 × pS
def o_sign (v : Int32) (S : pS) : pR := if S.tl ≤ 76 then (nI (S.tl + 4), (S.sTx (txSign S.tx S.tl v)).sTl (S.tl + 4)) else (-1, S)
def o_end (m : Int32) (S : pS) : pR := if m < 0 then (0, S) else if m ≤ nI S.tl then (1, S.sTl m.toNatClampNeg) else (0, S)
def o_ring (l m v : Int32) (S : pS) : pR := if eX1_has l (nI S.n) = 0 then (-1, S) else if eX9_isWithin m 0 20 = 0 then (-1, S) else if eX9_isWithin v 0 99 = 0 then (-1, S) else if S.R.len < 10 then (nI (S.R.len + 1), S.sR (upd S.R.la S.R.len l, upd S.R.da S.R.len m, upd S.R.le S.R.len v, S.R.len + 1)) else (-1, S)
def o_washes (S : pS) : pR := (nI S.R.len, S.sR (S.R.la, S.R.da, S.R.le, 0))
def updK (K : Nat → pW) (i : Nat) (V : pW) : Nat → pW := fun j => if j = i then V else K j
def o_keep (i : Int32) (S : pS) : pR := if eX9_isWithin i 0 1 = 0 then (0, S) else (1, (S.sK (updK S.K i.toNatClampNeg S.W)).sKs (S.ks ||| 2 ^ i.toNatClampNeg))
def o_again (i : Int32) (S : pS) : pR := if eX9_isWithin i 0 1 = 0 then (0, S) else if S.ks.testBit i.toNatClampNeg = false then (0, S) else (1, (S.sW (S.K i.toNatClampNeg)).sU [])
def o_undo (S : pS) : pR := match S.U.getLast? with
  | none => (-1, S)
  | some V => (nI (S.U.length - 1), (S.sW V).sU S.U.dropLast)
def s_count (w : Int32) (S : pS) : Int32 := if w.toInt = 0 then nI S.n else if w.toInt = 1 then S.W.dy else if w.toInt = 2 then S.W.sp else if w.toInt = 3 then S.W.dr else if w.toInt = 4 then sumI S.W.lv S.n else if w.toInt = 5 then nI S.W.ou else if w.toInt = 6 then sumI S.W.hr S.n else if w.toInt = 7 then nI (dryOf S.W.lv S.n) else if w.toInt = 8 then nI S.R.len else if w.toInt = 9 then nI S.U.length else if w.toInt = 10 then nI S.rw.length else if w.toInt = 11 then nI S.tl else if w.toInt = 12 then nI (bitsOf (fun i => decide (S.W.lv i = S.br i)) S.n) else -1
section CB
variable {Ex : State → Nat → Prop} {Q : Option Value → pz_H → Prop} {d bc bs : Nat} {h h' : pz_H} {x rF rO n : Nat} {td : Option Nat} {dw : Int32} {S : pS} {br dn : Nat → Int32} {W T : pW} {rv : pRV} {rw : List Int64}
theorem CQ.setW {W' : pW} (C : CQ h x rF n br dn W T rv rw) (hF : Fr [x + 10, x + 11, x + 12, x + 13, x + 14, x + 15] h h') (H : WatT h' (x + 10) W') (hW' : Wok W') : CQ h' x rF n br dn W' T rv rw := by
  obtain ⟨hr_, hn_, hWo_, hTo_, ⟨rO_, td_, ks_, dw_, HTop_⟩, ⟨ru_, nx_, HL_⟩, HW_, HT_, ⟨pa_, sk_, th_, len_, src_, at_, HR_, hv_⟩, ⟨nu_, HRow_, hrow_⟩⟩ := id C
  exact ⟨hr_, hn_, hW', hTo_, ⟨rO_, td_, ks_, dw_, HTop_.fr hF (by simp <;> omega)⟩, ⟨ru_, nx_, HL_.fr hF (by intro b hb; simp at hb; omega)⟩, H, HT_.fr hF (by intro b hb; simp at hb; omega), ⟨pa_, sk_, th_, len_, src_, at_, HR_.fr hF (by intro b hb; simp at hb; omega), hv_⟩, ⟨nu_, HRow_.fr hF (by intro b hb; simp at hb; omega), hrow_⟩⟩
theorem CQ.frX {l : List Nat} (C : CQ h x rF n br dn W T rv rw) (hF : Fr l h h') (hl : ∀ b ∈ l, (x + 1 ≤ b ∧ b < x + 3 ∨ x + 16 ≤ b ∧ b < x + 22 ∨ x + 28 ≤ b ∧ b < x + 112 ∨ x + 120 ≤ b)) : CQ h' x rF n br dn W T rv rw := by
  obtain ⟨hr_, hn_, hWo_, hTo_, ⟨rO_, td_, ks_, dw_, HTop_⟩, ⟨ru_, nx_, HL_⟩, HW_, HT_, ⟨pa_, sk_, th_, len_, src_, at_, HR_, hv_⟩, ⟨nu_, HRow_, hrow_⟩⟩ := id C
  exact ⟨hr_, hn_, hWo_, hTo_, ⟨rO_, td_, ks_, dw_, HTop_.fr hF (fun q => by have := hl _ q; omega)⟩, ⟨ru_, nx_, HL_.fr hF (fun b hb => by have := hl b hb; omega)⟩, HW_.fr hF (fun b hb => by have := hl b hb; omega), HT_.fr hF (fun b hb => by have := hl b hb; omega), ⟨pa_, sk_, th_, len_, src_, at_, HR_.fr hF (fun b hb => by have := hl b hb; omega), hv_⟩, ⟨nu_, HRow_.fr hF (fun b hb => by have := hl b hb; omega), hrow_⟩⟩
theorem CQ.top {rO' : Nat} {td' : Option Nat} {ks' : Nat} {dw' : Int32} (C : CQ h x rF n br dn W T rv rw) (hF : Fr [x] h h') (H : Top h' x rF rO' td' ks' dw') : CQ h' x rF n br dn W T rv rw := C.dwT (dw := dw') hF H
theorem byte_eq (v : Int32) : ∀ k, k < 4 → ((v.toUInt32 >>> ((nI (8 * k)).toUInt32 &&& Int32.toUInt32 31)).toInt32) &&& (255 : Int32) = nI (byteOf v k) := by
  intro k hk
  have e : ((v.toUInt32 >>> ((nI (8 * k)).toUInt32 &&& Int32.toUInt32 31)).toInt32) = nI (v.toBitVec.toNat / 2 ^ (8 * k)) := by
    apply Int32.toBitVec_inj.mp
    apply BitVec.eq_of_toNat_eq
    rw [pk_ushr v (nI (8 * k)) (8 * k) (by rcases (by omega : k = 0 ∨ k = 1 ∨ k = 2 ∨ k = 3) with rfl | rfl | rfl | rfl <;> decide), pk_tn]
    exact Nat.lt_of_le_of_lt (Nat.div_le_self _ _) v.toBitVec.isLt
  rw [e]
  exact fa_mask (v.toBitVec.toNat / 2 ^ (8 * k)) 8
theorem byteOf_lt (v : Int32) (k : Nat) : byteOf v k < 256 := Nat.mod_lt _ (by decide)
theorem t_addT {a : Nat} {sg : Nat → Int32} {tx : Nat → Nat} {tl : Nat} {v : Int32} (H : Txt h a sg tl) (hx : TxR sg tx) (ht : tl ≤ 80) (hq : ∀ (r : Int32) h' sg' tx' tl', Txt h' a sg' tl' → TxR sg' tx' → Fr [a, a + 1] h h' → (if tl ≤ 76 then r = 1 ∧ tx' = txSign tx tl v ∧ tl' = tl + 4 else r = 0 ∧ tx' = tx ∧ tl' = tl) → Q (some (.int r)) h') : pz_V mX6_add Ex Q d bc bs 0 [(0, .ref a), (1, .int v)] [] h := by
  refine wX6_add_0 (H.g1.mpr ⟨fun hle => ?_, fun hgt => ?_⟩)
  · have h76 : tl ≤ 76 := by
      rcases Nat.lt_or_ge 76 tl with q | q
      · exact absurd hle (nI_ge (a := 76) q (by omega))
      · exact q
    have st : ∀ (h1 : pz_H) (sg1 : Nat → Int32) (l1 k : Nat) (K : pz_H → Prop), k < 4 → l1 < 80 → Txt h1 a sg1 l1 → Fr [a, a + 1] h h1 → (∀ h2, Txt h2 a (upd sg1 l1 (nI (byteOf v k))) (l1 + 1) → Fr [a, a + 1] h h2 → pz_V mX6_add Ex Q d bc bs 14 [(0, .ref a), (1, .int v), (2, .int (nI (8 * k) + (-8 : Int32)))] [] h2) → pz_V mX6_add Ex Q d bc bs 14 [(0, .ref a), (1, .int v), (2, .int (nI (8 * k)))] [] h1 := by
      intro h1 sg1 l1 k K hk hl H1 hF1 hk2
      refine wX6_add_14 ⟨fun hc => absurd hc (nI_pos (by omega)), fun _ => ?_⟩
      rw [byte_eq v k hk]
      simp only [H1.g0, H1.g1, H1.s0, vin (i := l1) (N := 80) hl (by decide), true_and, clamp (i := l1) (by omega)]
      have H2 := H1.v0 (upd sg1 l1 (nI (byteOf v k)))
      simp only [H2.g1, H2.p1, nI_1]
      exact hk2 _ (H2.u1 (l1 + 1)) ((hF1.put (by simp)).put (by simp))
    refine st h sg tl 3 (fun _ => True) (by decide) (by omega) H Fr.rf (fun h1 H1 hF1 => ?_)
    refine st h1 _ (tl + 1) 2 (fun _ => True) (by decide) (by omega) H1 hF1 (fun h2 H2 hF2 => ?_)
    refine st h2 _ (tl + 1 + 1) 1 (fun _ => True) (by decide) (by omega) H2 hF2 (fun h3 H3 hF3 => ?_)
    refine st h3 _ (tl + 1 + 1 + 1) 0 (fun _ => True) (by decide) (by omega) H3 hF3 (fun h4 H4 hF4 => ?_)
    refine wX6_add_14 ⟨fun _ => hq 1 h4 _ (txSign tx tl v) (tl + 4) H4 (fun j hj => ?_) hF4 (by rw [if_pos h76]; exact ⟨rfl, rfl, rfl⟩), fun hc => absurd (by decide) hc⟩
    obtain ⟨g1, g2⟩ := hx j hj
    by_cases e1 : j = tl
    · simp only [upd, txSign]
      rw [if_neg (show ¬ j = tl + 1 + 1 + 1 by omega), if_neg (show ¬ j = tl + 1 + 1 by omega), if_neg (show ¬ j = tl + 1 by omega), if_pos e1, if_pos e1]
      exact ⟨rfl, byteOf_lt v 3⟩
    · by_cases e2 : j = tl + 1
      · simp only [upd, txSign]
        rw [if_neg (show ¬ j = tl + 1 + 1 + 1 by omega), if_neg (show ¬ j = tl + 1 + 1 by omega), if_pos e2, if_neg e1, if_pos e2]
        exact ⟨rfl, byteOf_lt v 2⟩
      · by_cases e3 : j = tl + 1 + 1
        · simp only [upd, txSign]
          rw [if_neg (show ¬ j = tl + 1 + 1 + 1 by omega), if_pos e3, if_neg e1, if_neg e2, if_pos (show j = tl + 2 by omega)]
          exact ⟨rfl, byteOf_lt v 1⟩
        · by_cases e4 : j = tl + 1 + 1 + 1
          · simp only [upd, txSign]
            rw [if_pos e4, if_neg e1, if_neg e2, if_neg (show ¬ j = tl + 2 by omega), if_pos (show j = tl + 3 by omega)]
            exact ⟨rfl, byteOf_lt v 0⟩
          · have e3' : ¬ j = tl + 2 := e3
            have e4' : ¬ j = tl + 3 := e4
            simp only [upd, txSign]
            rw [if_neg e4, if_neg e3, if_neg e2, if_neg e1, if_neg e1, if_neg e2, if_neg e3', if_neg e4']
            exact ⟨g1, g2⟩
  · have h76 : ¬ tl ≤ 76 := fun q => hgt (nI_le (b := 76) q (by decide))
    exact hq 0 h sg tx tl H hx Fr.rf (by rw [if_neg h76]; exact ⟨rfl, rfl, rfl⟩)
theorem C_sign {v : Int32} (I : CInv h x S) (O : SOk S) (hd : 1 ≤ d) (hq : ∀ h', CInv h' x (o_sign v S).2 → FC x h h' → Q (some (.int (o_sign v S).1)) h') : pz_V mX9_sign Ex Q d bc bs 0 [(0, .ref x), (1, .int v)] [] h := by
  obtain ⟨rF, rO, td, dw, T, C, H⟩ := I
  obtain ⟨hh1, hh2, ⟨zhsg, hh3, hh3'⟩, ⟨zhB, hh4, hh4'⟩, hh5, hh6, ⟨zhch, zhne, zhof, hh7⟩, ⟨zhg, hh8, hh8'⟩, hh9, hh10, ⟨zhb1, hh11⟩, ⟨zhb2, hh12⟩, ⟨zhpa, zhsk, zhth, zhlen, zhsrc, zhat, hh13⟩, hh14⟩ := id H
  have hn := C.2.1
  unfold o_sign at hq
  refine wX9_sign_0 hd (hh2.g0.mpr ⟨hh3.i.mpr trivial, t_addT hh3 hh3' O.2.1 (fun r h1 sg1 tx1 tl1 H1 hx1 hF1 hc => ⟨_, rfl, ?_⟩)⟩)
  have C1 := C.frX hF1 (by intro b hb; simp at hb; omega)
  by_cases h76 : S.tl ≤ 76
  · rw [if_pos h76] at hc hq
    obtain ⟨e1, e2, e3⟩ := hc
    subst e1 e2 e3
    have HT1 : Top h1 x rF rO td S.ks dw := hh2.fr hF1 (by simp <;> omega)
    refine ⟨fun hc => absurd hc (by decide), fun _ => HT1.g0.mpr ⟨H1.i.mpr trivial, H1.g1.mpr ?_⟩⟩
    exact hq h1 ⟨rF, rO, td, dw, T, C1, ⟨hh1, hh2.fr hF1 (by simp <;> omega), ⟨sg1, H1, hx1⟩, ⟨zhB, hh4.fr hF1 (by intro b hb; simp at hb; omega), hh4'⟩, hh5.fr hF1 (by intro b hb; simp at hb; omega), hh6.fr hF1 (by intro b hb; simp at hb; omega), ⟨zhch, zhne, zhof, hh7.fr hF1 (by intro b hb; simp at hb; omega)⟩, ⟨zhg, (hF1.2 _ (by simp <;> omega)).trans hh8, hh8'⟩, ⟨hh9.1.fr hF1 (by intro b hb; simp at hb; omega), hh9.2⟩, ⟨hh10.1.fr hF1 (by intro b hb; simp at hb; omega), hh10.2⟩, ⟨zhb1, (hF1.2 _ (by simp <;> omega)).trans hh11⟩, ⟨zhb2, (hF1.2 _ (by simp <;> omega)).trans hh12⟩, ⟨zhpa, zhsk, zhth, zhlen, zhsrc, zhat, hh13.fr hF1 (by intro b hb; simp at hb; omega)⟩, tdFr hh14 hF1 (by intro b hb; simp at hb; omega)⟩⟩ (FC.of hF1 (by intro b hb; simp at hb; omega))
  · rw [if_neg h76] at hc hq
    obtain ⟨e1, e2, e3⟩ := hc
    subst e1 e2 e3
    exact ⟨fun _ => hq h1 ⟨rF, rO, td, dw, T, C1, ⟨hh1, hh2.fr hF1 (by simp <;> omega), ⟨sg1, H1, hx1⟩, ⟨zhB, hh4.fr hF1 (by intro b hb; simp at hb; omega), hh4'⟩, hh5.fr hF1 (by intro b hb; simp at hb; omega), hh6.fr hF1 (by intro b hb; simp at hb; omega), ⟨zhch, zhne, zhof, hh7.fr hF1 (by intro b hb; simp at hb; omega)⟩, ⟨zhg, (hF1.2 _ (by simp <;> omega)).trans hh8, hh8'⟩, ⟨hh9.1.fr hF1 (by intro b hb; simp at hb; omega), hh9.2⟩, ⟨hh10.1.fr hF1 (by intro b hb; simp at hb; omega), hh10.2⟩, ⟨zhb1, (hF1.2 _ (by simp <;> omega)).trans hh11⟩, ⟨zhb2, (hF1.2 _ (by simp <;> omega)).trans hh12⟩, ⟨zhpa, zhsk, zhth, zhlen, zhsrc, zhat, hh13.fr hF1 (by intro b hb; simp at hb; omega)⟩, tdFr hh14 hF1 (by intro b hb; simp at hb; omega)⟩⟩ (FC.of hF1 (by intro b hb; simp at hb; omega)), fun hc => absurd rfl hc⟩
theorem i_of {v : Int32} {m : Nat} (h0 : ¬ v < 0) (h1 : v ≤ nI m) (hm : m < 2 ^ 31) : ∃ k, k ≤ m ∧ v = nI k := by
  have := (within_0 (v := v) (hi := m) hm).mp (by
    unfold eX9_isWithin
    rw [if_neg h0, if_neg (Int32.not_lt.mpr h1)]
    decide)
  exact this
theorem C_end {m : Int32} (I : CInv h x S) (O : SOk S) (hd : 1 ≤ d) (hq : ∀ h', CInv h' x (o_end m S).2 → FC x h h' → Q (some (.int (o_end m S).1)) h') : pz_V mX9_end Ex Q d bc bs 0 [(0, .ref x), (1, .int m)] [] h := by
  have I' := I
  obtain ⟨rF, rO, td, dw, T, C, H⟩ := I
  obtain ⟨hh1, hh2, ⟨zhsg, hh3, hh3'⟩, ⟨zhB, hh4, hh4'⟩, hh5, hh6, ⟨zhch, zhne, zhof, hh7⟩, ⟨zhg, hh8, hh8'⟩, hh9, hh10, ⟨zhb1, hh11⟩, ⟨zhb2, hh12⟩, ⟨zhpa, zhsk, zhth, zhlen, zhsrc, zhat, hh13⟩, hh14⟩ := id H
  have hn := C.2.1
  have htl := O.2.1
  unfold o_end at hq
  refine wX9_end_0 hd (hh2.g0.mpr ⟨hh3.i.mpr trivial, wX6_cut_0 ⟨fun hc => ⟨_, rfl, Or.inl rfl, ?_⟩, fun hc => hh3.g1.mpr ⟨fun hc2 => hh3.p1.mpr ⟨_, rfl, Or.inr rfl, ?_⟩, fun hc2 => ⟨_, rfl, Or.inl rfl, ?_⟩⟩⟩⟩)
  · rw [if_pos hc] at hq; exact hq h I' FC.rf
  · rw [if_neg hc, if_pos hc2] at hq
    obtain ⟨k, hk, rfl⟩ := i_of hc hc2 (by omega)
    rw [clamp (by omega)] at hq
    have hF1 : Fr [x + 1, x + 1 + 1] h (pz_put h (x + 1) (aO 6 [.ref (x + 1 + 1), .int (nI k)])) := fr_1 (by simp)
    have C1 := C.frX hF1 (by intro b hb; simp at hb; omega)
    exact hq _ ⟨rF, rO, td, dw, T, C1, ⟨hh1, hh2.fr hF1 (by simp <;> omega), ⟨zhsg, hh3.u1 k, hh3'⟩, ⟨zhB, hh4.fr hF1 (by intro b hb; simp at hb; omega), hh4'⟩, hh5.fr hF1 (by intro b hb; simp at hb; omega), hh6.fr hF1 (by intro b hb; simp at hb; omega), ⟨zhch, zhne, zhof, hh7.fr hF1 (by intro b hb; simp at hb; omega)⟩, ⟨zhg, (hF1.2 _ (by simp <;> omega)).trans hh8, hh8'⟩, ⟨hh9.1.fr hF1 (by intro b hb; simp at hb; omega), hh9.2⟩, ⟨hh10.1.fr hF1 (by intro b hb; simp at hb; omega), hh10.2⟩, ⟨zhb1, (hF1.2 _ (by simp <;> omega)).trans hh11⟩, ⟨zhb2, (hF1.2 _ (by simp <;> omega)).trans hh12⟩, ⟨zhpa, zhsk, zhth, zhlen, zhsrc, zhat, hh13.fr hF1 (by intro b hb; simp at hb; omega)⟩, tdFr hh14 hF1 (by intro b hb; simp at hb; omega)⟩⟩ (FC.of hF1 (by intro b hb; simp at hb; omega))
  · rw [if_neg hc, if_neg hc2] at hq; exact hq h I' FC.rf
theorem C_washes (I : CInv h x S) (O : SOk S) (hd : 1 ≤ d) (hq : ∀ h', CInv h' x (o_washes S).2 → FC x h h' → Q (some (.int (o_washes S).1)) h') : pz_V mX9_washes Ex Q d bc bs 0 [(0, .ref x)] [] h := by
  obtain ⟨rF, rO, td, dw, T, C, H⟩ := I
  obtain ⟨hh1, hh2, ⟨zhsg, hh3, hh3'⟩, ⟨zhB, hh4, hh4'⟩, hh5, hh6, ⟨zhch, zhne, zhof, hh7⟩, ⟨zhg, hh8, hh8'⟩, hh9, hh10, ⟨zhb1, hh11⟩, ⟨zhb2, hh12⟩, ⟨zhpa, zhsk, zhth, zhlen, zhsrc, zhat, hh13⟩, hh14⟩ := id H
  have hn := C.2.1
  refine wX9_washes_0 hd (hh2.g7.mpr ⟨hh6.i.mpr trivial, hh6.g3.mpr (hh2.g7.mpr ⟨hh6.i.mpr trivial, hh6.p3.mpr ?_⟩)⟩)
  have hF1 : Fr [x + 102] h (pz_put h (x + 102) (aO 3 [.ref (x + 102 + 1), .ref (x + 102 + 2), .ref (x + 102 + 3), .int (nI 0)])) := fr_1 (by simp)
  have C1 := C.frX hF1 (by intro b hb; simp at hb; omega)
  exact hq _ ⟨rF, rO, td, dw, T, C1, ⟨hh1, hh2.fr hF1 (by simp <;> omega), ⟨zhsg, hh3.fr hF1 (by intro b hb; simp at hb; omega), hh3'⟩, ⟨zhB, hh4.fr hF1 (by intro b hb; simp at hb; omega), hh4'⟩, hh5.fr hF1 (by intro b hb; simp at hb; omega), hh6.u3 0, ⟨zhch, zhne, zhof, hh7.fr hF1 (by intro b hb; simp at hb; omega)⟩, ⟨zhg, (hF1.2 _ (by simp <;> omega)).trans hh8, hh8'⟩, ⟨hh9.1.fr hF1 (by intro b hb; simp at hb; omega), hh9.2⟩, ⟨hh10.1.fr hF1 (by intro b hb; simp at hb; omega), hh10.2⟩, ⟨zhb1, (hF1.2 _ (by simp <;> omega)).trans hh11⟩, ⟨zhb2, (hF1.2 _ (by simp <;> omega)).trans hh12⟩, ⟨zhpa, zhsk, zhth, zhlen, zhsrc, zhat, hh13.fr hF1 (by intro b hb; simp at hb; omega)⟩, tdFr hh14 hF1 (by intro b hb; simp at hb; omega)⟩⟩ (FC.of hF1 (by intro b hb; simp at hb; omega))
theorem C_ring {l m v : Int32} (I : CInv h x S) (O : SOk S) (hd : 1 ≤ d) (hq : ∀ h', CInv h' x (o_ring l m v S).2 → FC x h h' → Q (some (.int (o_ring l m v S).1)) h') : pz_V mX9_ring Ex Q d bc bs 0 [(0, .ref x), (1, .int l), (2, .int m), (3, .int v)] [] h := by
  have I' := I
  obtain ⟨rF, rO, td, dw, T, C, H⟩ := I
  obtain ⟨hh1, hh2, ⟨zhsg, hh3, hh3'⟩, ⟨zhB, hh4, hh4'⟩, hh5, hh6, ⟨zhch, zhne, zhof, hh7⟩, ⟨zhg, hh8, hh8'⟩, hh9, hh10, ⟨zhb1, hh11⟩, ⟨zhb2, hh12⟩, ⟨zhpa, zhsk, zhth, zhlen, zhsrc, zhat, hh13⟩, hh14⟩ := id H
  obtain ⟨hr0, hn0, hWo0, hTo0, ⟨rO0, td0, ks0, dw0, HTop0⟩, ⟨ru0, nx0, HL0⟩, HW0, HT0, ⟨pa0, sk0, th0, len0, src0, at0, HR0, hv0⟩, ⟨nu0, HRow0, hrow0⟩⟩ := id C
  have hlen := O.2.2.2.1.1
  unfold o_ring at hq
  refine wX9_ring_0 hd ?_
  simp only [HTop0.g0, HTop0.g1, HTop0.g2, HTop0.g3, HTop0.g4, HTop0.g5, HTop0.g6, HTop0.g7, HTop0.g8, HTop0.g9, HTop0.g10, HTop0.g11, HTop0.g12, HTop0.g13, HTop0.g15, HTop0.g16, HTop0.i, HL0.g0, HL0.g1, HL0.g2, HL0.g3, HL0.g4, HL0.i, HL0.r0, HL0.r1, HW0.g0, HW0.g1, HW0.g2, HW0.g3, HW0.g4, HW0.g5, HW0.g6, HW0.g7, HW0.g8, HW0.i, HW0.r0, HW0.r1, HW0.r2, HW0.r3, HW0.r4, HT0.g0, HT0.g1, HT0.g2, HT0.g3, HT0.g4, HT0.g5, HT0.g6, HT0.g7, HT0.g8, HT0.i, HT0.r0, HT0.r1, HT0.r2, HT0.r3, HT0.r4, HR0.i, HRow0.i, hh6.i, true_and]
  refine ⟨fun hc => by rw [if_pos hc] at hq; exact hq h I' FC.rf, fun hc => ⟨fun hc2 => by rw [if_neg hc, if_pos hc2] at hq; exact hq h I' FC.rf, fun hc2 => ⟨fun hc3 => ?_, fun hc3 => by rw [if_neg hc, if_neg hc2, if_pos hc3] at hq; exact hq h I' FC.rf⟩⟩⟩
  rw [if_neg hc, if_neg hc2, if_neg hc3] at hq
  refine wX3_add_0 (hh6.g3.mpr ⟨fun hlt => ?_, fun hnl => ⟨_, rfl, ⟨fun _ => ?_, fun hc => absurd rfl hc⟩⟩⟩)
  · have hl : S.R.len < 10 := by
      rcases Nat.lt_or_ge S.R.len 10 with q | q
      · exact q
      · exact absurd hlt (nI_nlt (b := 10) q (by omega))
    rw [if_pos hl] at hq
    have v10 : vp_in (nI S.R.len) 10 := vin hl (by decide)
    simp only [hh6.g0, hh6.g3, hh6.s0, v10, true_and, clamp (i := S.R.len) (by omega)]
    have H1 := hh6.v0 (upd S.R.la S.R.len l)
    simp only [H1.g1, H1.g3, H1.s1, v10, true_and, clamp (i := S.R.len) (by omega)]
    have H2 := H1.v1 (upd S.R.da S.R.len m)
    simp only [H2.g2, H2.g3, H2.s2, v10, true_and, clamp (i := S.R.len) (by omega)]
    have H3 := H2.v2 (upd S.R.le S.R.len v)
    simp only [H3.g3, H3.p3, nI_1]
    have H4 := H3.u3 (S.R.len + 1)
    have hF4 : Fr [x + 102, x + 102 + 1, x + 102 + 2, x + 102 + 3] h _ := (((Fr.rf (h := h)).put (b := x + 102 + 1) (e := aI 10 (upd S.R.la S.R.len l)) (by simp)).put (b := x + 102 + 2) (e := aI 10 (upd S.R.da S.R.len m)) (by simp)).put (b := x + 102 + 3) (e := aI 10 (upd S.R.le S.R.len v)) (by simp) |>.put (b := x + 102) (e := aO 3 [.ref (x + 102 + 1), .ref (x + 102 + 2), .ref (x + 102 + 3), .int (nI (S.R.len + 1))]) (by simp)
    have C4 := C.frX hF4 (by intro b hb; simp at hb; omega)
    have HT4 := hh2.fr hF4 (by simp <;> omega)
    refine ⟨_, rfl, ⟨fun hc => absurd hc (by decide), fun _ => HT4.g7.mpr ⟨H4.i.mpr trivial, H4.g3.mpr ?_⟩⟩⟩
    exact hq _ ⟨rF, rO, td, dw, T, C4, ⟨hh1, hh2.fr hF4 (by simp <;> omega), ⟨zhsg, hh3.fr hF4 (by intro b hb; simp at hb; omega), hh3'⟩, ⟨zhB, hh4.fr hF4 (by intro b hb; simp at hb; omega), hh4'⟩, hh5.fr hF4 (by intro b hb; simp at hb; omega), H4, ⟨zhch, zhne, zhof, hh7.fr hF4 (by intro b hb; simp at hb; omega)⟩, ⟨zhg, (hF4.2 _ (by simp <;> omega)).trans hh8, hh8'⟩, ⟨hh9.1.fr hF4 (by intro b hb; simp at hb; omega), hh9.2⟩, ⟨hh10.1.fr hF4 (by intro b hb; simp at hb; omega), hh10.2⟩, ⟨zhb1, (hF4.2 _ (by simp <;> omega)).trans hh11⟩, ⟨zhb2, (hF4.2 _ (by simp <;> omega)).trans hh12⟩, ⟨zhpa, zhsk, zhth, zhlen, zhsrc, zhat, hh13.fr hF4 (by intro b hb; simp at hb; omega)⟩, tdFr hh14 hF4 (by intro b hb; simp at hb; omega)⟩⟩ (FC.of hF4 (by intro b hb; simp at hb; omega))
  · have hl : ¬ S.R.len < 10 := fun q => hnl (nI_lt (b := 10) q (by decide))
    rw [if_neg hl] at hq
    exact hq h I' FC.rf
theorem rW_eq {a : Nat} {m : Nat} {g : Nat → Option Nat} {i : Int32} {q : Nat} {K : Nat → Prop} (ha : h.2 a = some (aW m g)) (hi : vp_in i m) (hg : g i.toNatClampNeg = some q) (hk : K q) : pz_rW h a i K := ⟨m, g, q, ha, hi, hg, hk⟩
theorem C_keep {i : Int32} (I : CInv h x S) (O : SOk S) (hd : 2 ≤ d) (hq : ∀ h', CInv h' x (o_keep i S).2 → FC x h h' → Q (some (.int (o_keep i S).1)) h') : pz_V mX9_keep Ex Q d bc bs 0 [(0, .ref x), (1, .int i)] [] h := by
  have I' := I
  obtain ⟨rF, rO, td, dw, T, C, H⟩ := I
  obtain ⟨hh1, hh2, ⟨zhsg, hh3, hh3'⟩, ⟨zhB, hh4, hh4'⟩, hh5, hh6, ⟨zhch, zhne, zhof, hh7⟩, ⟨zhg, hh8, hh8'⟩, hh9, hh10, ⟨zhb1, hh11⟩, ⟨zhb2, hh12⟩, ⟨zhpa, zhsk, zhth, zhlen, zhsrc, zhat, hh13⟩, hh14⟩ := id H
  obtain ⟨hr0, hn0, hWo0, hTo0, ⟨rO0, td0, ks0, dw0, HTop0⟩, ⟨ru0, nx0, HL0⟩, HW0, HT0, ⟨pa0, sk0, th0, len0, src0, at0, HR0, hv0⟩, ⟨nu0, HRow0, hrow0⟩⟩ := id C
  have hks := O.2.2.2.2.2.2.2.2.1
  unfold o_keep at hq
  refine wX9_keep_0 hd ⟨fun hc => ?_, fun hc => by rw [if_pos hc] at hq; exact hq h I' FC.rf⟩
  rw [if_neg hc] at hq
  obtain ⟨k, hk, rfl⟩ := (within_0 (hi := 1) (by decide)).mp hc
  rw [clamp (by omega)] at hq
  have hk2 : k = 0 ∨ k = 1 := by omega
  have hfin : ∀ (h1 : pz_H) (w : Nat), w = x + 120 + 6 * k → WatT h1 w S.W → Fr [w, w + 1, w + 2, w + 3, w + 4, w + 5] h h1 → pz_gI h1 x 9 15 (fun (x5 : Int32) => pz_pF h1 x 9 15 (.int (x5 ||| (((1 : Int32)) <<< (nI k &&& 31)))) (fun (h6 : pz_H) => Q (some (.int 1)) h6)) := by
    intro h1 w hw HK hF1
    have HT1 : Top h1 x rF rO td S.ks dw := hh2.fr hF1 (by simp <;> omega)
    have C1 := C.frX hF1 (by intro b hb; simp at hb; omega)
    refine HT1.g15.mpr (HT1.p15.mpr ?_)
    rw [shl1 k (by omega), or_nI]
    have HT2 := HT1.u15 (S.ks ||| 2 ^ k)
    have hF2 : Fr [x] h1 (pz_put h1 x (aO 9 [.ref (x + 1), .ref (x + 3), .ref (x + 5), .ref (x + 10), .ref (x + 16), .ref (x + 22), .ref (x + 28), .ref (x + 102), .ref (x + 106), .ref (x + 109), .ref (x + 110), .ref (x + 111), .ref rF, .ref rO, va_rf td, .int (nI (S.ks ||| 2 ^ k)), .int dw])) := fr_1 (by simp)
    have C2 := C1.top hF2 HT2
    have HK2 := HK.fr hF2 (by intro b hb; simp at hb; omega)
    have hF : Fr [x, w, w + 1, w + 2, w + 3, w + 4, w + 5] h _ := (hF1.mono (l2 := [x, w, w + 1, w + 2, w + 3, w + 4, w + 5]) (fun b hb => List.mem_cons_of_mem _ hb)).tr hF2 (by simp)
    refine hq _ ⟨rF, rO, td, dw, T, C2, ?_⟩ (FC.of hF (by intro b hb; simp at hb; omega))
    rcases hk2 with e | e
    · subst e
      have e0 : w = x + 120 := by omega
      subst e0
      exact ⟨hh1, HT2, ⟨zhsg, hh3.fr hF (by intro b hb; simp at hb; omega), hh3'⟩, ⟨zhB, hh4.fr hF (by intro b hb; simp at hb; omega), hh4'⟩, hh5.fr hF (by intro b hb; simp at hb; omega), hh6.fr hF (by intro b hb; simp at hb; omega), ⟨zhch, zhne, zhof, hh7.fr hF (by intro b hb; simp at hb; omega)⟩, ⟨zhg, (hF.2 _ (by simp <;> omega)).trans hh8, hh8'⟩, ⟨HK2, hWo0⟩, ⟨hh10.1.fr hF (by intro b hb; simp at hb; omega), hh10.2⟩, ⟨zhb1, (hF.2 _ (by simp <;> omega)).trans hh11⟩, ⟨zhb2, (hF.2 _ (by simp <;> omega)).trans hh12⟩, ⟨zhpa, zhsk, zhth, zhlen, zhsrc, zhat, hh13.fr hF (by intro b hb; simp at hb; omega)⟩, tdFr hh14 hF (by intro b hb; simp at hb; omega)⟩
    · subst e
      have e0 : w = x + 126 := by omega
      subst e0
      exact ⟨hh1, HT2, ⟨zhsg, hh3.fr hF (by intro b hb; simp at hb; omega), hh3'⟩, ⟨zhB, hh4.fr hF (by intro b hb; simp at hb; omega), hh4'⟩, hh5.fr hF (by intro b hb; simp at hb; omega), hh6.fr hF (by intro b hb; simp at hb; omega), ⟨zhch, zhne, zhof, hh7.fr hF (by intro b hb; simp at hb; omega)⟩, ⟨zhg, (hF.2 _ (by simp <;> omega)).trans hh8, hh8'⟩, ⟨hh9.1.fr hF (by intro b hb; simp at hb; omega), hh9.2⟩, ⟨HK2, hWo0⟩, ⟨zhb1, (hF.2 _ (by simp <;> omega)).trans hh11⟩, ⟨zhb2, (hF.2 _ (by simp <;> omega)).trans hh12⟩, ⟨zhpa, zhsk, zhth, zhlen, zhsrc, zhat, hh13.fr hF (by intro b hb; simp at hb; omega)⟩, tdFr hh14 hF (by intro b hb; simp at hb; omega)⟩
  refine HTop0.g9.mpr ?_
  rcases hk2 with e | e
  · subst e
    refine rW_eq hh8 (vin (i := 0) (by decide) (by decide)) hh8'.1 (HTop0.g3.mpr ⟨hh9.1.i.mpr trivial, t_copy2 hh9.1 HW0 hh9.2 hWo0 (by omega) (by omega) (fun h1 HK hF1 => ⟨rfl, ?_⟩)⟩)
    exact hfin h1 (x + 120) (by omega) HK hF1
  · subst e
    refine rW_eq hh8 (vin (i := 1) (by decide) (by decide)) hh8'.2 (HTop0.g3.mpr ⟨hh10.1.i.mpr trivial, t_copy2 hh10.1 HW0 hh10.2 hWo0 (by omega) (by omega) (fun h1 HK hF1 => ⟨rfl, ?_⟩)⟩)
    exact hfin h1 (x + 126) (by omega) HK hF1
theorem Pst_rows {a len : Nat} (H : Pst h a len) : True := trivial
theorem PInv.len0 {U : List pW} (H : PInv h x U) : PInv (pz_put h (x + 28) (aO 2 [.ref (x + 28 + 1), .int (nI 0)])) x [] := by
  obtain ⟨rot, P, g, h1, h2, h3, h4, h5⟩ := H
  refine ⟨rot, P, g, put_at _ _ _, (put_ne (by omega)).trans h2, h3, fun j hj => ⟨(h4 j hj).1.pt (by omega), (h4 j hj).2⟩, fun j hj => absurd hj (Nat.not_lt_zero j)⟩
theorem PInv.st {U : List pW} (H : PInv h x U) : Pst h (x + 28) U.length := by
  obtain ⟨rot, P, g, h1, -⟩ := H
  exact h1
theorem C_again {i : Int32} (I : CInv h x S) (O : SOk S) (hd : 2 ≤ d) (hq : ∀ h', CInv h' x (o_again i S).2 → FC x h h' → Q (some (.int (o_again i S).1)) h') : pz_V mX9_again Ex Q d bc bs 0 [(0, .ref x), (1, .int i)] [] h := by
  have I' := I
  obtain ⟨rF, rO, td, dw, T, C, H⟩ := I
  obtain ⟨hh1, hh2, ⟨zhsg, hh3, hh3'⟩, ⟨zhB, hh4, hh4'⟩, hh5, hh6, ⟨zhch, zhne, zhof, hh7⟩, ⟨zhg, hh8, hh8'⟩, hh9, hh10, ⟨zhb1, hh11⟩, ⟨zhb2, hh12⟩, ⟨zhpa, zhsk, zhth, zhlen, zhsrc, zhat, hh13⟩, hh14⟩ := id H
  obtain ⟨hr0, hn0, hWo0, hTo0, ⟨rO0, td0, ks0, dw0, HTop0⟩, ⟨ru0, nx0, HL0⟩, HW0, HT0, ⟨pa0, sk0, th0, len0, src0, at0, HR0, hv0⟩, ⟨nu0, HRow0, hrow0⟩⟩ := id C
  have hks := O.2.2.2.2.2.2.2.2.1
  unfold o_again at hq
  refine wX9_again_0 hd ⟨fun hc => by rw [if_pos hc] at hq; exact hq h I' FC.rf, fun hc => hh2.g15.mpr ?_⟩
  rw [if_neg hc] at hq
  obtain ⟨k, hk, rfl⟩ := (within_0 (hi := 1) (by decide)).mp hc
  rw [clamp (by omega)] at hq
  have hk2 : k = 0 ∨ k = 1 := by omega
  refine ⟨fun hb => ?_, fun hb => by rw [if_pos ((isIn_0 (s := S.ks) (by omega) (by omega)).mp hb)] at hq; exact hq h I' FC.rf⟩
  have hb2 := (isIn_neg (s := S.ks) (by omega) (by omega)).mp hb
  rw [if_neg (by rw [hb2]; decide)] at hq
  have hfin : ∀ (h1 : pz_H), Wok (S.K k) → WatT h1 (x + 10) (S.K k) → Fr [x + 10, x + 11, x + 12, x + 13, x + 14, x + 15] h h1 → pz_gR h1 x 9 6 (fun (a6 : Nat) => pz_is h1 a6 2 ∧ (pz_pF h1 a6 2 1 (.int 0) (fun (h7 : pz_H) => Q (some (.int 1)) h7))) := by
    intro h1 hok HK hF1
    have HT1 : Top h1 x rF rO td S.ks dw := hh2.fr hF1 (by simp <;> omega)
    have C1 := C.setW hF1 HK hok
    have hP := hh5.fr hF1 (by intro b hb; simp at hb; omega)
    refine HT1.g6.mpr ⟨hP.st.i.mpr trivial, hP.st.p1.mpr ?_⟩
    have hF2 : Fr [x + 28] h1 (pz_put h1 (x + 28) (aO 2 [.ref (x + 28 + 1), .int (nI 0)])) := fr_1 (by simp)
    have C2 := C1.frX hF2 (by intro b hb; simp at hb; omega)
    have hF : Fr [x + 28, x + 10, x + 11, x + 12, x + 13, x + 14, x + 15] h _ := (hF1.mono (l2 := [x + 28, x + 10, x + 11, x + 12, x + 13, x + 14, x + 15]) (fun b hb => List.mem_cons_of_mem _ hb)).tr hF2 (by simp)
    exact hq _ ⟨rF, rO, td, dw, T, C2, ⟨hh1, hh2.fr hF (by simp <;> omega), ⟨zhsg, hh3.fr hF (by intro b hb; simp at hb; omega), hh3'⟩, ⟨zhB, hh4.fr hF (by intro b hb; simp at hb; omega), hh4'⟩, hP.len0, hh6.fr hF (by intro b hb; simp at hb; omega), ⟨zhch, zhne, zhof, hh7.fr hF (by intro b hb; simp at hb; omega)⟩, ⟨zhg, (hF.2 _ (by simp <;> omega)).trans hh8, hh8'⟩, ⟨hh9.1.fr hF (by intro b hb; simp at hb; omega), hh9.2⟩, ⟨hh10.1.fr hF (by intro b hb; simp at hb; omega), hh10.2⟩, ⟨zhb1, (hF.2 _ (by simp <;> omega)).trans hh11⟩, ⟨zhb2, (hF.2 _ (by simp <;> omega)).trans hh12⟩, ⟨zhpa, zhsk, zhth, zhlen, zhsrc, zhat, hh13.fr hF (by intro b hb; simp at hb; omega)⟩, tdFr hh14 hF (by intro b hb; simp at hb; omega)⟩⟩ (FC.of hF (by intro b hb; simp at hb; omega))
  refine HTop0.g3.mpr (HTop0.g9.mpr ?_)
  rcases hk2 with e | e
  · subst e
    refine rW_eq hh8 (vin (i := 0) (by decide) (by decide)) hh8'.1 ⟨HW0.i.mpr trivial, t_copy2 HW0 hh9.1 hWo0 hh9.2 (by omega) (by omega) (fun h1 HK hF1 => ⟨rfl, hfin h1 hh9.2 HK hF1⟩)⟩
  · subst e
    refine rW_eq hh8 (vin (i := 1) (by decide) (by decide)) hh8'.2 ⟨HW0.i.mpr trivial, t_copy2 HW0 hh10.1 hWo0 hh10.2 (by omega) (by omega) (fun h1 HK hF1 => ⟨rfl, hfin h1 hh10.2 HK hF1⟩)⟩
theorem C_undo (I : CInv h x S) (O : SOk S) (hd : 3 ≤ d) (hq : ∀ h', CInv h' x (o_undo S).2 → FC x h h' → Q (some (.int (o_undo S).1)) h') : pz_V mX9_undo Ex Q d bc bs 0 [(0, .ref x)] [] h := by
  have I' := I
  obtain ⟨rF, rO, td, dw, T, C, H⟩ := I
  obtain ⟨hh1, hh2, ⟨zhsg, hh3, hh3'⟩, ⟨zhB, hh4, hh4'⟩, hh5, hh6, ⟨zhch, zhne, zhof, hh7⟩, ⟨zhg, hh8, hh8'⟩, hh9, hh10, ⟨zhb1, hh11⟩, ⟨zhb2, hh12⟩, ⟨zhpa, zhsk, zhth, zhlen, zhsrc, zhat, hh13⟩, hh14⟩ := id H
  obtain ⟨hr0, hn0, hWo0, hTo0, ⟨rO0, td0, ks0, dw0, HTop0⟩, ⟨ru0, nx0, HL0⟩, HW0, HT0, ⟨pa0, sk0, th0, len0, src0, at0, HR0, hv0⟩, ⟨nu0, HRow0, hrow0⟩⟩ := id C
  have hU := O.2.2.2.2.2.1
  obtain ⟨rot, P, g, p1, p2, p3, p4, p5⟩ := hh5
  unfold o_undo at hq
  refine wX9_undo_0 hd (HTop0.g6.mpr (HTop0.g3.mpr ⟨p1.i.mpr trivial, ?_⟩))
  refine wX2_takeInto_0 (by omega) (p1.g1.mpr ⟨fun hle => ⟨_, rfl, ⟨fun _ => ?_, fun hc => absurd rfl hc⟩⟩, fun hgt => p1.g1.mpr ⟨fun _ => p1.g1.mpr (p1.p1.mpr ?_), fun hc => absurd (nI_le (b := 12) hU (by decide)) hc⟩⟩)
  · have h0 : S.U.length = 0 := by
      rcases Nat.eq_zero_or_pos S.U.length with q | q
      · exact q
      · exact absurd hle (nI_nle q (by omega))
    have e0 : S.U.getLast? = none := by rw [List.eq_nil_of_length_eq_zero h0]; rfl
    rw [e0] at hq
    exact hq h I' FC.rf
  · have h0 : 0 < S.U.length := by
      rcases Nat.eq_zero_or_pos S.U.length with q | q
      · exact absurd (by rw [q]; decide) hgt
      · exact q
    obtain ⟨m, hm⟩ : ∃ m, S.U.length = m + 1 := ⟨S.U.length - 1, by omega⟩
    have em : nI S.U.length - (1 : Int32) = nI m := by rw [hm]; exact nI_pred m
    rw [em]
    have hF1 : Fr [x + 28] h (pz_put h (x + 28) (aO 2 [.ref (x + 28 + 1), .int (nI m)])) := fr_1 (by simp)
    have q1 : Pst (pz_put h (x + 28) (aO 2 [.ref (x + 28 + 1), .int (nI m)])) (x + 28) m := put_at _ _ _
    have eL : S.U.getLast? = some (P m) := by
      rw [List.getLast?_eq_getElem?, hm]
      exact p5 m (by omega)
    have HP := (p4 m (by omega)).1.fr hF1 (by intro b hb; simp at hb; omega)
    have hok := (p4 m (by omega)).2
    have HW1 := HW0.fr hF1 (by intro b hb; simp at hb; omega)
    have hmod := Nat.mod_lt (m + rot) (y := 12) (by decide)
    refine q1.g0.mpr (q1.g1.mpr (rW_eq ((put_ne (by omega)).trans p2) (vin (by omega) (by decide)) (by rw [clamp (by omega)]; exact p3 m (by omega)) ⟨HW1.i.mpr trivial, t_copy2 HW1 HP hWo0 hok (by omega) (by omega) (fun h2 HW2 hF2 => ⟨rfl, ⟨_, rfl, ⟨fun hc => absurd hc (by decide), fun _ => ?_⟩⟩⟩)⟩))
    have hF : Fr [x + 28, x + 10, x + 11, x + 12, x + 13, x + 14, x + 15] h h2 := (hF1.mono (l2 := [x + 28, x + 10, x + 11, x + 12, x + 13, x + 14, x + 15]) (by simp)).tr hF2 (fun b hb => List.mem_cons_of_mem _ hb)
    have HT2 : Top h2 x rF rO td S.ks dw := hh2.fr hF (by simp <;> omega)
    have q2 : Pst h2 (x + 28) m := q1.fr hF2 (by simp)
    refine HT2.g6.mpr ⟨q2.i.mpr trivial, q2.g1.mpr ?_⟩
    rw [eL] at hq
    dsimp only at hq
    rw [show S.U.length - 1 = m by omega] at hq
    have C2 := (C.frX hF1 (by intro b hb; simp at hb; omega)).setW hF2 HW2 hok
    have hP2 : PInv h2 x S.U.dropLast := by
      refine ⟨rot, P, g, ?_, (hF.2 _ (by simp)).trans p2, p3, fun j hj => ⟨(p4 j hj).1.fr hF (fun b hb => ?_), (p4 j hj).2⟩, fun j hj => ?_⟩
      · rw [List.length_dropLast, hm]; exact q2
      · have := Nat.mod_lt (j + rot) (y := 12) (by decide)
        simp at hb
        omega
      · rw [List.length_dropLast] at hj
        rw [List.getElem?_dropLast, if_pos (by omega)]
        exact p5 j (by omega)
    exact hq h2 ⟨rF, rO, td, dw, T, C2, ⟨hh1, hh2.fr hF (by simp <;> omega), ⟨zhsg, hh3.fr hF (by intro b hb; simp at hb; omega), hh3'⟩, ⟨zhB, hh4.fr hF (by intro b hb; simp at hb; omega), hh4'⟩, hP2, hh6.fr hF (by intro b hb; simp at hb; omega), ⟨zhch, zhne, zhof, hh7.fr hF (by intro b hb; simp at hb; omega)⟩, ⟨zhg, (hF.2 _ (by simp <;> omega)).trans hh8, hh8'⟩, ⟨hh9.1.fr hF (by intro b hb; simp at hb; omega), hh9.2⟩, ⟨hh10.1.fr hF (by intro b hb; simp at hb; omega), hh10.2⟩, ⟨zhb1, (hF.2 _ (by simp <;> omega)).trans hh11⟩, ⟨zhb2, (hF.2 _ (by simp <;> omega)).trans hh12⟩, ⟨zhpa, zhsk, zhth, zhlen, zhsrc, zhat, hh13.fr hF (by intro b hb; simp at hb; omega)⟩, tdFr hh14 hF (by intro b hb; simp at hb; omega)⟩⟩ (FC.of hF (by intro b hb; simp at hb; omega))
theorem C_count {w : Int32} (I : CInv h x S) (O : SOk S) (hd : 3 ≤ d) (hq : Q (some (.int (s_count w S))) h) : pz_V mX9_count Ex Q d bc bs 0 [(0, .ref x), (1, .int w)] [] h := by
  obtain ⟨rF, rO, td, dw, T, C, H⟩ := I
  obtain ⟨hh1, hh2, ⟨zhsg, hh3, hh3'⟩, ⟨zhB, hh4, hh4'⟩, hh5, hh6, ⟨zhch, zhne, zhof, hh7⟩, ⟨zhg, hh8, hh8'⟩, hh9, hh10, ⟨zhb1, hh11⟩, ⟨zhb2, hh12⟩, ⟨zhpa, zhsk, zhth, zhlen, zhsrc, zhat, hh13⟩, hh14⟩ := id H
  obtain ⟨hr0, hn0, hWo0, hTo0, ⟨rO0, td0, ks0, dw0, HTop0⟩, ⟨ru0, nx0, HL0⟩, HW0, HT0, ⟨pa0, sk0, th0, len0, src0, at0, HR0, hv0⟩, ⟨nu0, HRow0, hrow0⟩⟩ := id C
  have hs := hh5.st
  unfold s_count at hq
  refine wX9_count_0 hd ?_
  simp only [HTop0.g0, HTop0.g1, HTop0.g2, HTop0.g3, HTop0.g4, HTop0.g5, HTop0.g6, HTop0.g7, HTop0.g8, HTop0.g9, HTop0.g10, HTop0.g11, HTop0.g12, HTop0.g13, HTop0.g15, HTop0.g16, HTop0.i, HL0.g0, HL0.g1, HL0.g2, HL0.g3, HL0.g4, HL0.i, HL0.r0, HL0.r1, HW0.g0, HW0.g1, HW0.g2, HW0.g3, HW0.g4, HW0.g5, HW0.g6, HW0.g7, HW0.g8, HW0.i, HW0.r0, HW0.r1, HW0.r2, HW0.r3, HW0.r4, HT0.g0, HT0.g1, HT0.g2, HT0.g3, HT0.g4, HT0.g5, HT0.g6, HT0.g7, HT0.g8, HT0.i, HT0.r0, HT0.r1, HT0.r2, HT0.r3, HT0.r4, HR0.i, HRow0.i, hh6.i, hh6.g3, hs.i, hs.g1, HRow0.g1, hh3.i, hh3.g1, true_and]
  refine ⟨fun e => ?_, fun e => ?_, fun e => ?_, fun e => ?_, fun e => ?_, fun e => ?_, fun e => ?_, fun e => ?_, fun e => ?_, fun e => ?_, fun e => ?_, fun e => ?_, fun e => ?_, fun e => ?_⟩
  · rw [if_pos e] at hq; exact hq
  · rw [if_neg (by omega), if_pos e] at hq; exact hq
  · rw [if_neg (by omega), if_neg (by omega), if_pos e] at hq; exact hq
  · rw [if_neg (by omega), if_neg (by omega), if_neg (by omega), if_pos e] at hq; exact hq
  · rw [if_neg (by omega), if_neg (by omega), if_neg (by omega), if_neg (by omega), if_pos e] at hq; exact t_total HL0 HW0 hn0 (by omega) ⟨_, rfl, hq⟩
  · rw [if_neg (by omega), if_neg (by omega), if_neg (by omega), if_neg (by omega), if_neg (by omega), if_pos e] at hq; exact hq
  · rw [if_neg (by omega), if_neg (by omega), if_neg (by omega), if_neg (by omega), if_neg (by omega), if_neg (by omega), if_pos e] at hq; exact t_hairOfAll HL0 HW0 hn0 ⟨_, rfl, hq⟩
  · rw [if_neg (by omega), if_neg (by omega), if_neg (by omega), if_neg (by omega), if_neg (by omega), if_neg (by omega), if_neg (by omega), if_pos e] at hq; exact t_dry HL0 HW0 hn0 ⟨_, rfl, hq⟩
  · rw [if_neg (by omega), if_neg (by omega), if_neg (by omega), if_neg (by omega), if_neg (by omega), if_neg (by omega), if_neg (by omega), if_neg (by omega), if_pos e] at hq; exact hq
  · rw [if_neg (by omega), if_neg (by omega), if_neg (by omega), if_neg (by omega), if_neg (by omega), if_neg (by omega), if_neg (by omega), if_neg (by omega), if_neg (by omega), if_pos e] at hq; exact hq
  · rw [if_neg (by omega), if_neg (by omega), if_neg (by omega), if_neg (by omega), if_neg (by omega), if_neg (by omega), if_neg (by omega), if_neg (by omega), if_neg (by omega), if_neg (by omega), if_pos e] at hq; exact hq
  · rw [if_neg (by omega), if_neg (by omega), if_neg (by omega), if_neg (by omega), if_neg (by omega), if_neg (by omega), if_neg (by omega), if_neg (by omega), if_neg (by omega), if_neg (by omega), if_neg (by omega), if_pos e] at hq; exact hq
  · rw [if_neg (by omega), if_neg (by omega), if_neg (by omega), if_neg (by omega), if_neg (by omega), if_neg (by omega), if_neg (by omega), if_neg (by omega), if_neg (by omega), if_neg (by omega), if_neg (by omega), if_neg (by omega), if_pos e] at hq; exact t_brimming HL0 HW0 hn0 ⟨_, rfl, hq⟩
  · rw [if_neg (by omega), if_neg (by omega), if_neg (by omega), if_neg (by omega), if_neg (by omega), if_neg (by omega), if_neg (by omega), if_neg (by omega), if_neg (by omega), if_neg (by omega), if_neg (by omega), if_neg (by omega), if_neg (by omega)] at hq; exact hq
end CB
