/-! ===== realm, richest, feared, threat, treaty, wants, evens: specs, and the class ===== -/
def kset (kg : Nat → Int32) (n : Nat) (k : Int32) : Nat := bitsOf (fun i => decide (kg i = k)) n
def ktot (W : pW) (n : Nat) (k : Int32) : Int32 := totS W.lv (kset W.kg n k) n
/-- the first of the best, of 0 .. k -/
def bestK (f : Nat → Int32) : Nat → Nat
  | 0 => 0
  | k + 1 => if f (bestK f k) < f (k + 1) then k + 1 else bestK f k
theorem bestK_le (f : Nat → Int32) : ∀ k, bestK f k ≤ k
  | 0 => Nat.le_refl _
  | k + 1 => by
    have := bestK_le f k
    unfold bestK
    split <;> omega
def rKing (W : pW) (n : Nat) : Nat := bestK (fun k => ktot W n (nI k)) 3
section SP
variable (rv : pRV) (br dn : Nat → Int32) (n : Nat) (W : pW) (rw : List Int64)
def s_realm (k : Int32) : pA := if eX9_isKing k = 0 then (-1, rw) else (nI (kset W.kg n k), [(ktot W n k).toInt64, (totS br (kset W.kg n k) n).toInt64])
def s_richest (m : Int32) : pA := if eX9_isWithin m 0 99 = 0 then (-1, rw) else
  let T := daysW rv br dn n m.toNatClampNeg W
  (nI (rKing T n), [(ktot T n (nI (rKing T n))).toInt64, (sumI T.lv n - ktot T n (nI (rKing T n))).toInt64])
def s_feared : pA := (nI (rKing W n), [(sumI W.lv n - ktot W n (nI (rKing W n))).toInt64])
/-- the parts: the best set so far, by the difference -/
def apart (tot v : Int32) : Int32 := if 0 ≤ (tot - 2 * v) then (tot - 2 * v) else 0 - (tot - 2 * v)
def evS (g : Nat → Int32) (tot : Int32) : Nat → Int32 × Nat
  | 0 => (tot, 0)
  | j + 1 => if (evS g tot j).1 ≤ apart tot (g (2 * (j + 1))) then evS g tot j else (apart tot (g (2 * (j + 1))), 2 * (j + 1))
def s_evens : pA :=
  let r := evS (fun s => totS W.lv s n) (sumI W.lv n) ((2 ^ n - 1) / 2)
  (r.1, [(nI r.2).toInt64])
def xorS (lv : Nat → Int32) (s : Nat) : Nat → Int32
  | 0 => 0
  | i + 1 => if s.testBit i then xorS lv s i ^^^ lv i else xorS lv s i
/-- the least lake from i on (by fuel) by which the first one wins -/
def thS (lv : Nat → Int32) (s : Nat) (o : Int32) : Nat → Nat → Option Nat
  | 0, _ => none
  | f + 1, i => if s.testBit i ∧ ¬ lv i ≤ (lv i ^^^ o) then some i else thS lv s o f (i + 1)
def s_threat (some_ : Int32) : pA := if ¬ (some_ &&& (nI (2 ^ n - 1) ^^^ (-1 : Int32))) = 0 then (-1, rw) else
  match thS W.lv some_.toNatClampNeg (xorS W.lv some_.toNatClampNeg n) n 0 with
  | none => (0, [])
  | some i => (1, [(nI i).toInt64, (W.lv i - (W.lv i ^^^ xorS W.lv some_.toNatClampNeg n)).toInt64])
end SP
theorem king_0 {k : Int32} : ¬ eX9_isKing k = 0 ↔ ∃ j, j < 4 ∧ k = nI j := by
  unfold eX9_isKing
  constructor
  · intro hq
    split at hq
    · exact absurd rfl hq
    · rename_i h0
      split at hq
      · exact absurd rfl hq
      · rename_i h1
        rcases pk_ix k (n := 4) (by decide) with h2 | h2 | ⟨j, h3, h4⟩
        · exact absurd h2 h0
        · exact absurd h2 h1
        · exact ⟨j, h3, h4⟩
  · rintro ⟨i, hi, rfl⟩
    rw [if_neg (nI_pos (by omega)), if_neg (show ¬ (4 : Int32) ≤ nI i from nI_ge (b := 4) hi (by decide))]
    decide
/-- bits of lakes that are there -/
theorem all_not : ∀ n, n ≤ 6 → nI (2 ^ n - 1) ^^^ (-1 : Int32) = -(nI (2 ^ n)) := by decide +kernel
theorem sub_all {n : Nat} (hn : n ≤ 6) {x : Int32} (h : (x &&& (nI (2 ^ n - 1) ^^^ (-1 : Int32))) = 0) : ∃ s, s < 2 ^ n ∧ x = nI s := by
  have h1 : x = x &&& nI (2 ^ n - 1) := by
    have e : x = (x &&& nI (2 ^ n - 1)) ||| (x &&& (nI (2 ^ n - 1) ^^^ (-1 : Int32))) := by
      apply Int32.toBitVec_inj.mp
      simp only [Int32.toBitVec_or, Int32.toBitVec_and, Int32.toBitVec_xor]
      rw [show (-1 : Int32).toBitVec = BitVec.allOnes 32 from by decide]
      generalize x.toBitVec = a
      generalize (nI (2 ^ n - 1)).toBitVec = b
      ext i hi
      simp only [BitVec.getElem_or, BitVec.getElem_and, BitVec.getElem_xor, BitVec.getElem_allOnes]
      cases a[i] <;> cases b[i] <;> rfl
    rw [h] at e
    simpa using e
  rw [pk_and x (m := nI (2 ^ n - 1)) n (pk_tn (by have := pow_le64 hn; omega))] at h1
  exact ⟨_, Nat.mod_lt _ (Nat.two_pow_pos n), h1⟩
section CK
variable {Ex : State → Nat → Prop} {Q : Option Value → pz_H → Prop} {d bc bs : Nat} {h : pz_H} {x rF n : Nat} {br dn : Nat → Int32} {W T : pW} {rv : pRV} {rw : List Int64}
theorem c_realm {k : Int32} (C : CQ h x rF n br dn W T rv rw) (hd : 3 ≤ d) (hq : ∀ h' T', CQ h' x rF n br dn W T' rv (s_realm br n W rw k).2 → Fr (SC x rF) h h' → Q (some (.int (s_realm br n W rw k).1)) h') : pz_V mX9_realm Ex Q d bc bs 0 [(0, .ref x), (1, .int k)] [] h := by
  obtain ⟨hr, hn, hW, hT, ⟨rO, td, ks, dw, HTop⟩, ⟨ru, nx, HL⟩, HW, HT, HRul, ⟨nu, HRow, -⟩⟩ := id C
  unfold s_realm at hq
  refine wX9_realm_0 hd ⟨fun hc => ?_, fun hc => by rw [if_pos hc] at hq; exact hq h T C Fr.rf⟩
  rw [if_neg hc] at hq
  have hs : kset W.kg n k < 64 := bitsOf_64 (fun i => decide (W.kg i = k)) hn
  refine HTop.g2.mpr (HTop.g3.mpr ⟨HL.i.mpr trivial, t_heldBy HL HW hn ⟨_, rfl, ?_⟩⟩)
  suffices H : ∀ q i, i + q = n → pz_V mX9_realm Ex Q d bc bs 27 [(0, .ref x), (2, .int (nI (kset W.kg n k))), (3, .int (totS br (kset W.kg n k) i)), (4, .int (nI i))] [] h from H n 0 (Nat.zero_add _)
  intro q
  induction q with
  | zero =>
    intro i hi
    have e : i = n := hi
    subst e
    refine wX9_realm_27 hd (HTop.g2.mpr ⟨HL.i.mpr trivial, HL.g4.mpr ⟨fun _ => HTop.g1.mpr (HTop.g2.mpr (HTop.g3.mpr ⟨HL.i.mpr trivial, t_totalOf HL HW hn hs (Nat.le_refl _) ⟨_, rfl, HRow.i.mpr trivial, ?_⟩⟩)), fun hc => absurd (nI_le (Nat.le_refl _) (by omega)) hc⟩⟩)
    exact q_tell2 C (Nat.le_refl _) (fun h5 C5 hF5 => ⟨rfl, hq h5 _ C5 hF5⟩)
  | succ q ih =>
    intro i hi
    have g := ih (i + 1) (by omega)
    have unf : totS br (kset W.kg n k) (i + 1) = totS br (kset W.kg n k) i + (if (kset W.kg n k).testBit i then br i else 0) := rfl
    refine wX9_realm_27 hd (HTop.g2.mpr ⟨HL.i.mpr trivial, HL.g4.mpr ⟨fun hc => absurd hc (nI_ge (by omega) (by omega)), fun _ => ⟨fun hb => ?_, fun hb => HTop.g2.mpr (HL.g0.mpr (HL.r0.mpr ⟨vin (by omega) (by decide), ?_⟩))⟩⟩⟩)
    · rw [nI_1]
      rw [unf, if_neg (by rw [(isIn_0 hs (by omega)).mp hb]; decide), Int32.add_zero] at g
      exact g
    · rw [clamp (by omega), nI_1]
      have e : (kset W.kg n k).testBit i = true := by
        cases q : (kset W.kg n k).testBit i
        · exact absurd ((isIn_0 hs (by omega)).mpr q) hb
        · rfl
      rw [unf, if_pos e] at g
      exact g
theorem ktot_Bt {n : Nat} {br : Nat → Int32} {T : pW} {k : Int32} (hn : n ≤ 6) (h : Rg n br T) : Bt (ktot T n k) 0 594 := (totS_Bt hn (fun i hi => h.lv hi)).mono (by omega) (by omega)
theorem t_richestKing {w ld : Nat} {ru nx : Nat → Int32} (HL : Lnd h ld br dn ru nx n) (HW : WatT h w T) (hn : n ≤ 6) (hR : Rg n br T) (hd : 2 ≤ d) (hq : Q (some (.int (nI (rKing T n)))) h) : pz_V mX1_richestKing Ex Q d bc bs 0 [(0, .ref ld), (1, .ref w)] [] h := by
  refine wX1_richestKing_0 hd ?_
  have step : ∀ k, k < 4 → ∀ (mo ki : Int32), (ktot T n (nI k) ≤ mo → pz_V mX1_richestKing Ex Q d bc bs 7 [(0, .ref ld), (1, .ref w), (2, .int mo), (3, .int ki), (4, .int (nI (k + 1)))] [] h) → (¬ ktot T n (nI k) ≤ mo → pz_V mX1_richestKing Ex Q d bc bs 7 [(0, .ref ld), (1, .ref w), (2, .int (ktot T n (nI k))), (3, .int (nI k)), (4, .int (nI (k + 1)))] [] h) → pz_V mX1_richestKing Ex Q d bc bs 7 [(0, .ref ld), (1, .ref w), (2, .int mo), (3, .int ki), (4, .int (nI k))] [] h := by
    intro k hk mo ki h1 h2
    refine wX1_richestKing_7 hd ⟨fun hc => absurd hc (nI_ge (b := 4) hk (by decide)), fun _ => ⟨HL.i.mpr trivial, t_heldBy HL HW hn ⟨_, rfl, HL.i.mpr trivial, t_totalOf HL HW hn (bitsOf_64 _ hn) (Nat.le_refl _) ⟨_, rfl, ?_⟩⟩⟩⟩
    rw [nI_1]
    exact ⟨h1, h2⟩
  have loop : ∀ q k, k + q = 3 → pz_V mX1_richestKing Ex Q d bc bs 7 [(0, .ref ld), (1, .ref w), (2, .int (ktot T n (nI (bestK (fun k => ktot T n (nI k)) k)))), (3, .int (nI (bestK (fun k => ktot T n (nI k)) k))), (4, .int (nI (k + 1)))] [] h := by
    intro q
    induction q with
    | zero =>
      intro k hk
      have e : k = 3 := hk
      subst e
      exact wX1_richestKing_7 hd ⟨fun _ => hq, fun hc => absurd (nI_le (a := 4) (b := 4) (by decide) (by decide)) hc⟩
    | succ q ih =>
      intro k hk
      have g := ih (k + 1) (by omega)
      refine step (k + 1) (by omega) _ _ (fun hc => ?_) (fun hc => ?_)
      · rw [bestK, if_neg (Int32.not_lt.mpr hc)] at g
        exact g
      · rw [bestK, if_pos (Int32.not_le.mp hc)] at g
        exact g
  refine step 0 (by decide) (-1) 0 (fun hc => ?_) (fun _ => loop 3 0 rfl)
  have h1 := (ktot_Bt (k := nI 0) hn hR).1
  rw [le_i] at hc
  have m1 : (-1 : Int32).toInt = -1 := by decide
  omega
theorem c_richest {m : Int32} (C : CQ h x rF n br dn W T rv rw) (hRg : Rg n br W) (hd : 5 ≤ d) (hq : ∀ h' T', CQ h' x rF n br dn W T' rv (s_richest rv br dn n W rw m).2 → Fr (SC x rF) h h' → Q (some (.int (s_richest rv br dn n W rw m).1)) h') : pz_V mX9_richest Ex Q d bc bs 0 [(0, .ref x), (1, .int m)] [] h := by
  obtain ⟨hr, hn, hW, hT, ⟨rO, td, ks, dw, HTop⟩, ⟨ru, nx, HL⟩, HW, HT, HRul, HRow⟩ := id C
  unfold s_richest at hq
  refine wX9_richest_0 hd ⟨fun hc => ?_, fun hc => by rw [if_pos hc] at hq; exact hq h T C Fr.rf⟩
  rw [if_neg hc] at hq
  obtain ⟨k, hk, rfl⟩ := (within_0 (hi := 99) (by decide)).mp hc
  rw [clamp (by omega)] at hq
  dsimp only at hq
  refine ⟨HTop.i.mpr trivial, q_start C (by omega) (fun h1 C1 hF1 => ⟨rfl, ?_⟩)⟩
  obtain ⟨-, -, -, -, ⟨rO1, td1, ks1, dw1, HTop1⟩, ⟨ru1, nx1, HL1⟩, -, -, -, -⟩ := id C1
  refine HTop1.g2.mpr (HTop1.g5.mpr (HTop1.g12.mpr ⟨HL1.i.mpr trivial, q_days C1 (Nat.le_refl _) (by omega) (fun h2 C2 hF2 => ⟨rfl, ?_⟩)⟩))
  obtain ⟨-, -, -, -, ⟨rO2, td2, ks2, dw2, HTop2⟩, ⟨ru2, nx2, HL2⟩, -, HT2, -, ⟨nu2, HRow2, -⟩⟩ := id C2
  refine HTop2.g2.mpr (HTop2.g5.mpr ⟨HL2.i.mpr trivial, t_richestKing HL2 HT2 hn (hRg.days hn k) (Nat.le_refl _) ⟨_, rfl, HTop2.g2.mpr (HTop2.g5.mpr (HTop2.g2.mpr (HTop2.g5.mpr ⟨HL2.i.mpr trivial, t_heldBy HL2 HT2 hn ⟨_, rfl, HL2.i.mpr trivial, t_totalOf HL2 HT2 hn (bitsOf_64 _ hn) (Nat.le_refl _) ⟨_, rfl, HTop2.g1.mpr (HTop2.g2.mpr (HTop2.g5.mpr ⟨HL2.i.mpr trivial, t_total HL2 HT2 hn (Nat.le_refl _) ⟨_, rfl, HRow2.i.mpr trivial, ?_⟩⟩))⟩⟩⟩)))⟩⟩)
  exact q_tell2 C2 (Nat.le_refl _) (fun h5 C5 hF5 => ⟨rfl, hq h5 _ C5 ((hF1.tr hF2 (fun _ hb => hb)).tr hF5 (fun _ hb => hb))⟩)
theorem c_feared (C : CQ h x rF n br dn W T rv rw) (hRg : Rg n br W) (hd : 3 ≤ d) (hq : ∀ h' T', CQ h' x rF n br dn W T' rv (s_feared n W).2 → Fr (SC x rF) h h' → Q (some (.int (s_feared n W).1)) h') : pz_V mX9_feared Ex Q d bc bs 0 [(0, .ref x)] [] h := by
  obtain ⟨hr, hn, hW, hT, ⟨rO, td, ks, dw, HTop⟩, ⟨ru, nx, HL⟩, HW, HT, HRul, ⟨nu, HRow, -⟩⟩ := id C
  refine wX9_feared_0 hd (HTop.g2.mpr (HTop.g3.mpr ⟨HL.i.mpr trivial, t_richestKing HL HW hn hRg (Nat.le_refl _) ⟨_, rfl, HTop.g1.mpr (HTop.g2.mpr (HTop.g3.mpr ⟨HL.i.mpr trivial, t_total HL HW hn (Nat.le_refl _) ⟨_, rfl, HTop.g2.mpr (HTop.g3.mpr (HTop.g2.mpr (HTop.g3.mpr ⟨HL.i.mpr trivial, t_heldBy HL HW hn ⟨_, rfl, HL.i.mpr trivial, t_totalOf HL HW hn (bitsOf_64 _ hn) (Nat.le_refl _) ⟨_, rfl, HRow.i.mpr trivial, ?_⟩⟩⟩)))⟩⟩))⟩⟩))
  exact q_tell C (Nat.le_refl _) (fun h5 C5 hF5 => ⟨rfl, hq h5 _ C5 hF5⟩)
theorem c_evens (C : CQ h x rF n br dn W T rv rw) (hd : 3 ≤ d) (hq : ∀ h' T', CQ h' x rF n br dn W T' rv (s_evens n W).2 → Fr (SC x rF) h h' → Q (some (.int (s_evens n W).1)) h') : pz_V mX9_evens Ex Q d bc bs 0 [(0, .ref x)] [] h := by
  obtain ⟨hr, hn, hW, hT, ⟨rO, td, ks, dw, HTop⟩, ⟨ru, nx, HL⟩, HW, HT, HRul, ⟨nu, HRow, -⟩⟩ := id C
  unfold s_evens at hq
  dsimp only at hq
  have h64 := pow_le64 hn
  refine wX9_evens_0 hd (HTop.g2.mpr (HTop.g3.mpr ⟨HL.i.mpr trivial, t_total HL HW hn (Nat.le_refl _) ⟨_, rfl, ?_⟩⟩))
  suffices H : ∀ q j, j + q = (2 ^ n - 1) / 2 → pz_V mX9_evens Ex Q d bc bs 19 [(0, .ref x), (1, .int (sumI W.lv n)), (2, .int (evS (fun s => totS W.lv s n) (sumI W.lv n) j).1), (3, .int (nI (evS (fun s => totS W.lv s n) (sumI W.lv n) j).2)), (4, .int (nI (2 * j + 2)))] [] h from H _ 0 (Nat.zero_add _)
  intro q
  induction q with
  | zero =>
    intro j hj
    have e : j = (2 ^ n - 1) / 2 := hj
    rw [← e] at hq
    refine wX9_evens_19 hd (HTop.g2.mpr ⟨HL.i.mpr trivial, HL.g4.mpr ?_⟩)
    rw [all_eq n hn]
    refine ⟨fun _ => HTop.g1.mpr ⟨HRow.i.mpr trivial, ?_⟩, fun hc => absurd (nI_lt (by omega) (by omega)) hc⟩
    exact q_tell C (Nat.le_refl _) (fun h5 C5 hF5 => ⟨rfl, hq h5 _ C5 hF5⟩)
  | succ q ih =>
    intro j hj
    have g := ih (j + 1) (by omega)
    refine wX9_evens_19 hd (HTop.g2.mpr ⟨HL.i.mpr trivial, HL.g4.mpr ?_⟩)
    rw [all_eq n hn]
    refine ⟨fun hc => absurd hc (nI_nlt (by omega) (by omega)), fun _ => HTop.g2.mpr (HTop.g3.mpr ⟨HL.i.mpr trivial, t_totalOf HL HW hn (by omega) (Nat.le_refl _) ⟨_, rfl, ?_⟩⟩)⟩
    dsimp only
    have e2 : nI (2 * j + 2) + (2 : Int32) = nI (2 * (j + 1) + 2) := nI_add (2 * j + 2) 2
    rw [e2]
    have e3 : (2 * j + 2) = 2 * (j + 1) := by omega
    have e4 : (if 0 ≤ (sumI W.lv n - (((2 : Int32)) * totS W.lv (2 * j + 2) n)) then (sumI W.lv n - (((2 : Int32)) * totS W.lv (2 * j + 2) n)) else 0 - (sumI W.lv n - (((2 : Int32)) * totS W.lv (2 * j + 2) n))) = apart (sumI W.lv n) (totS W.lv (2 * (j + 1)) n) := by rw [e3]; rfl
    rw [e4]
    unfold evS at g
    refine ⟨fun hc => ?_, fun hc => ?_⟩
    · rw [if_pos hc] at g; exact g
    · rw [if_neg hc] at g
      dsimp only at g
      rw [e3]
      exact g
theorem c_threat {so : Int32} (C : CQ h x rF n br dn W T rv rw) (hd : 3 ≤ d) (hq : ∀ h' T', CQ h' x rF n br dn W T' rv (s_threat n W rw so).2 → Fr (SC x rF) h h' → Q (some (.int (s_threat n W rw so).1)) h') : pz_V mX9_threat Ex Q d bc bs 0 [(0, .ref x), (1, .int so)] [] h := by
  obtain ⟨hr, hn, hW, hT, ⟨rO, td, ks, dw, HTop⟩, ⟨ru, nx, HL⟩, HW, HT, HRul, ⟨nu, HRow, -⟩⟩ := id C
  unfold s_threat at hq
  have h64 := pow_le64 hn
  refine wX9_threat_0 hd (HTop.g2.mpr ⟨HL.i.mpr trivial, HL.i.mpr trivial, HL.g4.mpr ?_⟩)
  rw [all_eq n hn]
  refine ⟨fun hc => by rw [if_pos hc] at hq; exact hq h T C Fr.rf, fun hc => ?_⟩
  rw [if_neg (fun q => q hc)] at hq
  obtain ⟨s, hs, rfl⟩ := sub_all hn hc
  rw [clamp (by omega)] at hq
  have loop2 : ∀ (h2 : pz_H), CQ h2 x rF n br dn W T rv [] → Fr (SC x rF) h h2 → ∀ f i, i + f = n → (∀ h' T', CQ h' x rF n br dn W T' rv ((match thS W.lv s (xorS W.lv s n) f i with | none => ((0 : Int32), []) | some i => (1, [(nI i).toInt64, (W.lv i - (W.lv i ^^^ xorS W.lv s n)).toInt64])) : pA).2 → Fr (SC x rF) h h' → Q (some (.int ((match thS W.lv s (xorS W.lv s n) f i with | none => ((0 : Int32), []) | some i => (1, [(nI i).toInt64, (W.lv i - (W.lv i ^^^ xorS W.lv s n)).toInt64])) : pA).1)) h') → pz_V mX9_threat Ex Q d bc bs 63 [(0, .ref x), (1, .int (nI s)), (2, .int (xorS W.lv s n)), (3, .int (nI i))] [] h2 := by
    intro h2 C2 hF2 f
    obtain ⟨-, -, -, -, ⟨rO2, td2, ks2, dw2, HTop2⟩, ⟨ru2, nx2, HL2⟩, HW2, HT2, -, ⟨nu2, HRow2, -⟩⟩ := id C2
    induction f with
    | zero =>
      intro i hi hz
      have e : i = n := hi
      subst e
      exact wX9_threat_63 hd (HTop2.g2.mpr ⟨HL2.i.mpr trivial, HL2.g4.mpr ⟨fun _ => hz h2 T C2 hF2, fun hc => absurd (nI_le (Nat.le_refl _) (by omega)) hc⟩⟩)
    | succ f ih =>
      intro i hi hz
      refine wX9_threat_63 hd (HTop2.g2.mpr ⟨HL2.i.mpr trivial, HL2.g4.mpr ⟨fun hc => absurd hc (nI_ge (by omega) (by omega)), fun _ => HTop2.g3.mpr (HW2.g0.mpr (HW2.r0.mpr ⟨vin (by omega) (by decide), ?_⟩))⟩⟩)
      rw [clamp (by omega), nI_1]
      unfold thS at hz
      refine ⟨fun hb => ?_, fun hb => HTop2.g3.mpr (HW2.g0.mpr (HW2.r0.mpr ⟨vin (by omega) (by decide), ?_⟩))⟩
      · have e := (isIn_0 (s := s) (by omega) (by omega)).mp hb
        rw [if_neg (fun q => by rw [e] at q; exact absurd q.1 (by decide))] at hz
        exact ih (i + 1) (by omega) hz
      · have e : s.testBit i = true := by
          cases q : s.testBit i
          · exact absurd ((isIn_0 (s := s) (by omega) (by omega)).mpr q) hb
          · rfl
        rw [clamp (by omega)]
        refine ⟨fun hc2 => ?_, fun hc2 => HTop2.g1.mpr (HTop2.g3.mpr (HW2.g0.mpr (HW2.r0.mpr ⟨vin (by omega) (by decide), HRow2.i.mpr trivial, ?_⟩)))⟩
        · rw [if_neg (fun q => q.2 hc2)] at hz
          exact ih (i + 1) (by omega) hz
        · rw [if_pos ⟨e, hc2⟩] at hz
          rw [clamp (by omega)]
          exact q_tell2 C2 (by omega) (fun h5 C5 hF5 => ⟨rfl, hz h5 _ C5 (hF2.tr hF5 (fun _ hb => hb))⟩)
  suffices H : ∀ q i, i + q = n → pz_V mX9_threat Ex Q d bc bs 17 [(0, .ref x), (1, .int (nI s)), (2, .int (xorS W.lv s i)), (3, .int (nI i))] [] h from H n 0 (Nat.zero_add _)
  intro q
  induction q with
  | zero =>
    intro i hi
    have e : i = n := hi
    subst e
    exact wX9_threat_17 hd (HTop.g2.mpr ⟨HL.i.mpr trivial, HL.g4.mpr ⟨fun _ => HTop.g1.mpr (q_clear C (fun h3 C3 hF3 => loop2 h3 C3 hF3 i 0 (Nat.zero_add _) hq)), fun hc => absurd (nI_le (Nat.le_refl _) (by omega)) hc⟩⟩)
  | succ q ih =>
    intro i hi
    have g := ih (i + 1) (by omega)
    unfold xorS at g
    refine wX9_threat_17 hd (HTop.g2.mpr ⟨HL.i.mpr trivial, HL.g4.mpr ⟨fun hc => absurd hc (nI_ge (by omega) (by omega)), fun _ => ⟨fun hb => ?_, fun hb => HTop.g3.mpr (HW.g0.mpr (HW.r0.mpr ⟨vin (by omega) (by decide), ?_⟩))⟩⟩⟩)
    · rw [nI_1]
      have e := (isIn_0 (s := s) (by omega) (by omega)).mp hb
      rw [if_neg (by rw [e]; decide)] at g
      exact g
    · rw [clamp (by omega), nI_1]
      have e : s.testBit i = true := by
        cases q : s.testBit i
        · exact absurd ((isIn_0 (s := s) (by omega) (by omega)).mpr q) hb
        · rfl
      rw [if_pos e] at g
      exact g
end CK
