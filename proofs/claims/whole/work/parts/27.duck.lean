/-! ===== duck: spec, and the class ===== -/
theorem half_mod {a b : Nat} (h0 : 0 < a) (hb : a < b) : 2 * (b % a) < b := by
  have h1 := Nat.mod_lt b h0
  have h2 := Nat.div_add_mod b a
  have h3 : 1 ≤ b / a := (Nat.one_le_div_iff h0).mpr (Nat.le_of_lt hb)
  have h4 : a * 1 ≤ a * (b / a) := Nat.mul_le_mul_left a h3
  omega
theorem gcd_step {a b : Nat} (hb : 0 < b) : Nat.gcd b (a % b) = Nat.gcd a b := by
  rw [Nat.gcd_comm a b, Nat.gcd_rec b a, Nat.gcd_comm]
def sumN (f : Nat → Nat) : Nat → Nat
  | 0 => 0
  | n + 1 => sumN f n + f n
section SP
variable (dn : Nat → Int32) (n : Nat)
def wayB (i o : Nat) : Bool := decide (dn i = nI o) || decide (dn o = nI i)
def ways (i : Nat) : Nat := fa_cnt (wayB dn i) n
def dkStep (p : Nat → Nat) (i : Nat) (f : Nat → Nat) : Nat → Nat := fun o => if ways dn n i = 0 then (if o = i then f o + p i * 60 else f o) else (if o < n ∧ wayB dn i o = true then f o + p i * (60 / ways dn n i) else f o)
def dkN (p : Nat → Nat) : Nat → (Nat → Nat)
  | 0 => fun _ => 0
  | i + 1 => dkStep dn n p i (dkN p i)
def dkS (fr : Nat) : Nat → (Nat → Nat)
  | 0 => fun j => if j = fr then 1 else 0
  | k + 1 => dkN dn n (dkS fr k) n
def s_duck (rw : List Int64) (fr to m : Int32) : pA := if eX1_has fr (nI n) = 0 then (-1, rw) else if eX1_has to (nI n) = 0 then (-1, rw) else if eX9_isWithin m 0 10 = 0 then (-1, rw) else
  let u := dkS dn n fr.toNatClampNeg m.toNatClampNeg to.toNatClampNeg
  let g := Nat.gcd u (60 ^ m.toNatClampNeg)
  (0, [lN (u / g), lN (60 ^ m.toNatClampNeg / g)])
end SP
theorem sumN_add1 {f : Nat → Nat} {i v : Nat} : ∀ {n : Nat}, i < n → sumN (fun o => if o = i then f o + v else f o) n = sumN f n + v
  | 0, h => absurd h (Nat.not_lt_zero i)
  | n + 1, h => by
    unfold sumN
    rcases Nat.lt_or_ge i n with q | q
    · rw [sumN_add1 q, if_neg (by omega)]
      omega
    · have e : i = n := by omega
      subst e
      rw [if_pos rfl]
      have : ∀ m, m ≤ i → sumN (fun o => if o = i then f o + v else f o) m = sumN f m := by
        intro m
        induction m with
        | zero => intro _; rfl
        | succ m ih => intro hm; unfold sumN; rw [ih (by omega), if_neg (by omega)]
      rw [this i (Nat.le_refl _)]
      omega
theorem sumN_addc {f : Nat → Nat} {p : Nat → Bool} {v N : Nat} : ∀ {n : Nat}, n ≤ N → sumN (fun o => if o < N ∧ p o = true then f o + v else f o) n = sumN f n + fa_cnt p n * v
  | 0, _ => by show 0 = 0 + fa_cnt p 0 * v; rw [show fa_cnt p 0 = 0 from rfl, Nat.zero_mul]
  | n + 1, h => by
    unfold sumN
    rw [sumN_addc (n := n) (by omega)]
    cases hp : p n
    · rw [if_neg (fun q => absurd q.2 (by decide)), fa_cnt_no hp]
      omega
    · rw [if_pos ⟨by omega, rfl⟩, fa_cnt_yes hp, Nat.add_mul]
      omega
theorem sumN_ge {f : Nat → Nat} {i : Nat} : ∀ {n : Nat}, i < n → f i ≤ sumN f n
  | 0, h => absurd h (Nat.not_lt_zero i)
  | n + 1, h => by
    unfold sumN
    rcases Nat.lt_or_ge i n with q | q
    · have := sumN_ge (f := f) q
      omega
    · have e : i = n := by omega
      subst e
      omega
theorem sixty : ∀ c, c < 7 → 0 < c → c * (60 / c) = 60 := by decide
theorem dkStep_sum {dn : Nat → Int32} {n : Nat} (hn : n ≤ 6) {p f : Nat → Nat} {i : Nat} (hi : i < n) : sumN (dkStep dn n p i f) n = sumN f n + p i * 60 := by
  have hw : ways dn n i ≤ n := fa_cnt_le _ n
  rcases Nat.eq_zero_or_pos (ways dn n i) with h0 | h0
  · have e : dkStep dn n p i f = fun o => if o = i then f o + p i * 60 else f o := by
      funext o
      unfold dkStep
      rw [if_pos h0]
    rw [e, sumN_add1 hi]
  · have e : dkStep dn n p i f = fun o => if o < n ∧ wayB dn i o = true then f o + p i * (60 / ways dn n i) else f o := by
      funext o
      unfold dkStep
      rw [if_neg (by omega)]
    rw [e, sumN_addc (Nat.le_refl _)]
    have := sixty (ways dn n i) (by omega) h0
    show sumN f n + ways dn n i * (p i * (60 / ways dn n i)) = _
    rw [Nat.mul_left_comm, this]
theorem dkN_sum {dn : Nat → Int32} {n : Nat} (hn : n ≤ 6) {p : Nat → Nat} : ∀ i, i ≤ n → sumN (dkN dn n p i) n = sumN p i * 60
  | 0, _ => by
    have : ∀ m, sumN (fun _ => 0) m = 0 := by
      intro m
      induction m with
      | zero => rfl
      | succ m ih => unfold sumN; rw [ih]
    show sumN (fun _ => 0) n = sumN p 0 * 60
    rw [this]
    rfl
  | i + 1, hi => by
    unfold dkN
    rw [dkStep_sum hn (by omega), dkN_sum hn i (by omega)]
    show _ = (sumN p i + p i) * 60
    omega
theorem dkS_sum {dn : Nat → Int32} {n : Nat} (hn : n ≤ 6) {fr : Nat} (hf : fr < n) : ∀ k, sumN (dkS dn n fr k) n = 60 ^ k
  | 0 => by
    have := sumN_add1 (f := fun _ => 0) (i := fr) (v := 1) hf
    have z : ∀ m, sumN (fun _ => 0) m = 0 := by
      intro m
      induction m with
      | zero => rfl
      | succ m ih => unfold sumN; rw [ih]
    rw [z] at this
    show sumN (fun j => if j = fr then 1 else 0) n = 1
    exact this
  | k + 1 => by
    show sumN (dkN dn n (dkS dn n fr k) n) n = 60 ^ (k + 1)
    rw [dkN_sum hn n (Nat.le_refl _), dkS_sum hn hf k, Nat.pow_succ]
theorem dk_out {dn : Nat → Int32} {n fr : Nat} (hf : fr < n) : ∀ k j, n ≤ j → dkS dn n fr k j = 0
  | 0, j, hj => by
    show (if j = fr then 1 else 0) = 0
    rw [if_neg (by omega)]
  | k + 1, j, hj => by
    have : ∀ i, i ≤ n → dkN dn n (dkS dn n fr k) i j = 0 := by
      intro i
      induction i with
      | zero => intro _; rfl
      | succ i ih =>
        intro hi
        show dkStep dn n _ i _ j = 0
        unfold dkStep
        split
        · rw [if_neg (by omega)]; exact ih (by omega)
        · rw [if_neg (fun q => by omega)]; exact ih (by omega)
    exact this n (Nat.le_refl _)
theorem pow60 {k : Nat} (hk : k ≤ 10) : 60 ^ k < 2 ^ 60 := Nat.lt_of_le_of_lt (Nat.pow_le_pow_right (by decide) hk) (by decide)
theorem dkS_lt {dn : Nat → Int32} {n : Nat} (hn : n ≤ 6) {fr k j : Nat} (hf : fr < n) (hj : j < n) : dkS dn n fr k j ≤ 60 ^ k := by
  have := sumN_ge (f := dkS dn n fr k) hj
  rw [dkS_sum hn hf] at this
  exact this
theorem shr60 : ∀ c, c < 7 → 0 < c → ((60 : Int32) / nI c).toInt64 = lN (60 / c) := by decide
theorem lpos (n : Nat) : (OfNat.ofNat n : Int64) = lN n := rfl
section CD
variable {Ex : State → Nat → Prop} {Q : Option Value → pz_H → Prop} {d bc bs : Nat} {h : pz_H} {x rF n ld u : Nat} {br dn ru nx : Nat → Int32} {W T : pW} {rv : pRV} {rw : List Int64} {ch ne : Nat → Int64} {of : Int64}
theorem t_gcd : ∀ (f a b i : Nat), b < 2 ^ f → a < 2 ^ 63 → b < 2 ^ 63 → i + (2 * f + 1) ≤ 1000 → Q (some (.long (lN (Nat.gcd a b)))) h → pz_V mX9_commonDivisor Ex Q d bc bs 9 [(4, .long (lN a)), (6, .long (lN b)), (8, .int (nI i))] [] h
  | 0, a, b, i, hf, ha, hb, hi, hq => by
    have e : b = 0 := by omega
    subst e
    rw [Nat.gcd_zero_right] at hq
    exact wX9_commonDivisor_9 ⟨fun _ => hq, fun _ => ⟨fun _ => hq, fun hc => absurd ((lg_cmp_eq _ _).mpr rfl) hc⟩⟩
  | f + 1, a, b, i, hf, ha, hb, hi, hq => by
    have b63 : ∀ {z : Nat}, z < b → z < 2 ^ 63 := fun hz => Nat.lt_trans hz hb
    refine wX9_commonDivisor_9 ⟨fun hc => absurd hc (nI_ge (b := 1000) (by omega) (by decide)), fun _ => ⟨fun h0 => ?_, fun h0 => ?_⟩⟩
    · have e := (lg_cmp_eq _ _).mp h0
      have e : b = 0 := (pk_lEQ hb (by decide)).mp e
      subst e
      rw [Nat.gcd_zero_right] at hq
      exact hq
    · have hb0 : 0 < b := by
        rcases Nat.eq_zero_or_pos b with q | q
        · exact absurd ((lg_cmp_eq _ _).mpr (by rw [q]; rfl)) h0
        · exact q
      refine ⟨fun q => by have := (pk_lEQ hb (by decide : 0 < 2 ^ 63)).mp q; omega, ?_⟩
      rw [pk_lRem ha hb0 hb, nI_1]
      have hr := Nat.mod_lt a hb0
      -- the second step
      refine wX9_commonDivisor_9 ⟨fun hc => absurd hc (nI_ge (b := 1000) (by omega) (by decide)), fun _ => ⟨fun h1 => ?_, fun h1 => ?_⟩⟩
      · have e := (lg_cmp_eq _ _).mp h1
        have e : a % b = 0 := (pk_lEQ (b63 hr) (by decide)).mp e
        rw [← gcd_step hb0, e, Nat.gcd_zero_right] at hq
        exact hq
      · have hr0 : 0 < a % b := by
          rcases Nat.eq_zero_or_pos (a % b) with q | q
          · exact absurd ((lg_cmp_eq _ _).mpr (by rw [q]; rfl)) h1
          · exact q
        refine ⟨fun q => by have := (pk_lEQ (b63 hr) (by decide : 0 < 2 ^ 63)).mp q; omega, ?_⟩
        rw [pk_lRem hb hr0 (b63 hr), nI_1]
        have h2 := half_mod hr0 hr
        have h3 := Nat.mod_lt b hr0
        refine t_gcd f (a % b) (b % (a % b)) (i + 1 + 1) (by rw [Nat.pow_succ] at hf; omega) (b63 hr) (b63 (by omega)) (by omega) ?_
        rw [gcd_step hr0, gcd_step hb0]
        exact hq
theorem t_isWay {i o : Nat} (HL : Lnd h ld br dn ru nx n) (hi : i < 6) (ho : o < 6) (hq : ∀ r : Int32, (r = 0 ↔ wayB dn i o = false) → Q (some (.int r)) h) : pz_V mX0_isWay Ex Q d bc bs 0 [(0, .ref ld), (1, .int (nI i)), (2, .int (nI o))] [] h := by
  refine wX0_isWay_0 ?_
  have vi : vp_in (nI i) 6 := vin hi (by decide)
  have vo : vp_in (nI o) 6 := vin ho (by decide)
  simp only [HL.g1, HL.r1, vi, vo, true_and, clamp (i := i) (by omega), clamp (i := o) (by omega)]
  refine ⟨fun e => hq 1 ⟨fun q => absurd q (by decide), fun q => ?_⟩, fun e => ⟨fun e2 => hq 0 ⟨fun _ => ?_, fun _ => rfl⟩, fun e2 => hq 1 ⟨fun q => absurd q (by decide), fun q => ?_⟩⟩⟩
  · simp [wayB, e] at q
  · unfold wayB; rw [decide_eq_false e, decide_eq_false e2]; rfl
  · simp [wayB, e2] at q
theorem updL_fun {f : Nat → Int64} {i : Nat} {v : Int64} {j : Nat} : vp_updL f i v j = if j = i then v else f j := rfl
theorem t_swimFrom {p f : Nat → Nat} {i : Nat} (HD : Dck h u ch ne of) (HL : Lnd h ld br dn ru nx n) (hap : u + 3 ≤ ld ∨ ld + 5 ≤ u) (hn : n ≤ 6) (hi : i < n) (hch : ∀ j, j < 6 → ch j = lN (p j)) (hne : ∀ j, j < 6 → ne j = lN (f j)) (hd : 1 ≤ d)
    (hq : ∀ h' ne', Dck h' u ch ne' of → Fr [u, u + 1, u + 2] h h' → (∀ j, j < 6 → ne' j = lN (dkStep dn n p i f j)) → Q none h') : pz_V mX0_swimFrom Ex Q d bc bs 0 [(0, .ref u), (1, .ref ld), (2, .int (nI i))] [] h := by
  refine wX0_swimFrom_0 hd ?_
  have vi : vp_in (nI i) 6 := vin (by omega) (by decide)
  have hwl : ways dn n i ≤ n := fa_cnt_le _ n
  -- the share to each
  have second : 0 < ways dn n i → ∀ r o (h1 : pz_H) (ne1 : Nat → Int64), o + r = n → Dck h1 u ch ne1 of → Fr [u, u + 1, u + 2] h h1 → (∀ j, j < 6 → ne1 j = lN (if j < o ∧ wayB dn i j = true then f j + p i * (60 / ways dn n i) else f j)) → pz_V mX0_swimFrom Ex Q d bc bs 79 [(0, .ref u), (1, .ref ld), (2, .int (nI i)), (4, .long (lN (p i * (60 / ways dn n i)))), (6, .int (nI o))] [] h1 := by
    intro hw r
    induction r with
    | zero =>
      intro o h1 ne1 ho HD1 hF1 hne1
      have e : o = n := ho
      subst e
      have HL1 := HL.fr hF1 (by intro b hb; simp at hb; omega)
      refine wX0_swimFrom_79 hd ⟨HL1.i.mpr trivial, HL1.g4.mpr ⟨fun _ => hq h1 ne1 HD1 hF1 (fun j hj => ?_), fun hc => absurd (nI_le (Nat.le_refl _) (by omega)) hc⟩⟩
      rw [hne1 j hj]
      unfold dkStep
      rw [if_neg (show ¬ ways dn o i = 0 by omega)]
    | succ r ih =>
      intro o h1 ne1 ho HD1 hF1 hne1
      have HL1 := HL.fr hF1 (by intro b hb; simp at hb; omega)
      have vo : vp_in (nI o) 6 := vin (by omega) (by decide)
      refine wX0_swimFrom_79 hd ⟨HL1.i.mpr trivial, HL1.g4.mpr ⟨fun hc => absurd hc (nI_ge (by omega) (by omega)), fun _ => HD1.g1.mpr (HD1.r1.mpr ⟨vo, t_isWay HL1 (by omega) (by omega) (fun w hw => ⟨_, rfl, ?_⟩)⟩)⟩⟩
      rw [clamp (by omega), nI_1, hne1 o (by omega), if_neg (fun q => by omega)]
      refine ⟨fun h0 => HD1.s1.mpr ⟨vo, ?_⟩, fun h0 => HD1.s1.mpr ⟨vo, ?_⟩⟩
      · rw [clamp (by omega)]
        refine ih (o + 1) _ _ (by omega) (HD1.v1 _) (hF1.put (by simp)) (fun j hj => ?_)
        rw [updL_fun]
        have hb := hw.mp h0
        by_cases e : j = o
        · subst e
          rw [if_pos rfl, if_neg (fun q => by rw [hb] at q; exact absurd q.2 (by decide))]
          exact Int64.add_zero _
        · rw [if_neg e, hne1 j hj]
          congr 1
          by_cases q : j < o
          · simp only [q, show j < o + 1 from by omega, true_and]
          · rw [if_neg (fun z => q z.1), if_neg (fun z => by omega)]
      · rw [clamp (by omega), lN_add]
        refine ih (o + 1) _ _ (by omega) (HD1.v1 _) (hF1.put (by simp)) (fun j hj => ?_)
        rw [updL_fun]
        have hb : wayB dn i o = true := by
          cases e : wayB dn i o
          · exact absurd (hw.mpr e) h0
          · rfl
        by_cases e : j = o
        · subst e
          rw [if_pos rfl, if_pos ⟨by omega, hb⟩]
        · rw [if_neg e, hne1 j hj]
          congr 1
          by_cases q : j < o
          · simp only [q, show j < o + 1 from by omega, true_and]
          · rw [if_neg (fun z => q z.1), if_neg (fun z => by omega)]
  suffices H : ∀ r o, o + r = n → pz_V mX0_swimFrom Ex Q d bc bs 5 [(0, .ref u), (1, .ref ld), (2, .int (nI i)), (3, .int (nI (fa_cnt (wayB dn i) o))), (4, .int (nI o))] [] h from H n 0 (Nat.zero_add _)
  intro r
  induction r with
  | zero =>
    intro o ho
    have e : o = n := ho
    subst e
    refine wX0_swimFrom_5 hd ⟨HL.i.mpr trivial, HL.g4.mpr ⟨fun _ => ⟨fun h0 => ?_, fun h0 => ?_⟩, fun hc => absurd (nI_le (Nat.le_refl _) (by omega)) hc⟩⟩
    · have hw : 0 < ways dn o i := by
        rcases Nat.eq_zero_or_pos (ways dn o i) with q | q
        · exact absurd (by show nI (ways dn o i) = 0; rw [q]; rfl) h0
        · exact q
      refine HD.g0.mpr (HD.r0.mpr ⟨vi, h0, ?_⟩)
      rw [clamp (by omega), hch i (by omega)]
      have es := shr60 (ways dn o i) (by omega) hw
      have es2 : ((60 : Int32) / nI (fa_cnt (wayB dn i) o)).toInt64 = lN (60 / ways dn o i) := es
      rw [es2, lN_mul]
      exact second hw o 0 h ne (Nat.zero_add _) HD Fr.rf (fun j hj => by rw [hne j hj, if_neg (fun q => absurd q.1 (Nat.not_lt_zero _))])
    · have hw : ways dn o i = 0 := by
        rcases Nat.eq_zero_or_pos (ways dn o i) with q | q
        · exact q
        · exact absurd h0 (nI_ne0 (n := ways dn o i) q (by omega))
      simp only [HD.g0, HD.g1, HD.r0, HD.r1, HD.s1, vi, true_and, clamp (i := i) (by omega), hch i (by omega), hne i (by omega), lpos 60, lN_mul, lN_add]
      refine hq _ _ (HD.v1 _) (fr_1 (by simp)) (fun j hj => ?_)
      rw [updL_fun]
      unfold dkStep
      rw [if_pos hw]
      by_cases e : j = i
      · subst e
        rw [if_pos rfl, if_pos rfl]
      · rw [if_neg e, if_neg e, hne j hj]
  | succ r ih =>
    intro o ho
    have g := ih (o + 1) (by omega)
    refine wX0_swimFrom_5 hd ⟨HL.i.mpr trivial, HL.g4.mpr ⟨fun hc => absurd hc (nI_ge (by omega) (by omega)), fun _ => t_isWay HL (by omega) (by omega) (fun w hw => ⟨_, rfl, ⟨fun h0 => ?_, fun h0 => ?_⟩⟩)⟩⟩
    · rw [fa_cnt_no (hw.mp h0)] at g
      rw [nI_1, Int32.add_zero]
      exact g
    · have hb : wayB dn i o = true := by
        cases e : wayB dn i o
        · exact absurd (hw.mpr e) h0
        · rfl
      rw [fa_cnt_yes hb] at g
      rw [nI_1, nI_1]
      exact g
theorem t_swim {p : Nat → Nat} (HD : Dck h u ch ne of) (HL : Lnd h ld br dn ru nx n) (hap : u + 3 ≤ ld ∨ ld + 5 ≤ u) (hn : n ≤ 6) (hch : ∀ j, j < 6 → ch j = lN (p j)) (hd : 2 ≤ d)
    (hq : ∀ h' ch' ne', Dck h' u ch' ne' (of * 60) → Fr [u, u + 1, u + 2] h h' → (∀ j, j < 6 → ch' j = lN (dkN dn n p n j)) → Q none h') : pz_V mX0_swim Ex Q d bc bs 0 [(0, .ref u), (1, .ref ld)] [] h := by
  refine wX0_swim_0 hd ?_
  have third : ∀ r k (h1 : pz_H) (ch1 ne1 : Nat → Int64), k + r = 6 → Dck h1 u ch1 ne1 of → Fr [u, u + 1, u + 2] h h1 → (∀ j, j < 6 → ne1 j = lN (dkN dn n p n j)) → (∀ j, j < k → ch1 j = lN (dkN dn n p n j)) → pz_V mX0_swim Ex Q d bc bs 45 [(0, .ref u), (2, .int (nI k))] [] h1 := by
    intro r
    induction r with
    | zero =>
      intro k h1 ch1 ne1 hk HD1 hF1 hne1 hch1
      have e : k = 6 := hk
      subst e
      exact wX0_swim_45 hd ⟨fun _ => HD1.g2.mpr (HD1.p2.mpr (hq _ ch1 ne1 (HD1.u2 _) (hF1.put (by simp)) hch1)), fun hc => absurd (nI_le (a := 6) (b := 6) (by decide) (by decide)) hc⟩
    | succ r ih =>
      intro k h1 ch1 ne1 hk HD1 hF1 hne1 hch1
      have vk : vp_in (nI k) 6 := vin (by omega) (by decide)
      refine wX0_swim_45 hd ⟨fun hc => absurd hc (nI_ge (b := 6) (by omega) (by decide)), fun _ => ?_⟩
      simp only [HD1.g0, HD1.g1, HD1.r1, HD1.s0, vk, true_and, clamp (i := k) (by omega), nI_1]
      refine ih (k + 1) _ _ ne1 (by omega) (HD1.v0 _) (hF1.put (by simp)) hne1 (fun j hj => ?_)
      rw [updL_fun]
      by_cases e : j = k
      · subst e; rw [if_pos rfl]; exact hne1 j (by omega)
      · rw [if_neg e]; exact hch1 j (by omega)
  have second : ∀ r i (h1 : pz_H) (ne1 : Nat → Int64), i + r = n → Dck h1 u ch ne1 of → Fr [u, u + 1, u + 2] h h1 → (∀ j, j < 6 → ne1 j = lN (dkN dn n p i j)) → pz_V mX0_swim Ex Q d bc bs 23 [(0, .ref u), (1, .ref ld), (2, .int (nI i))] [] h1 := by
    intro r
    induction r with
    | zero =>
      intro i h1 ne1 hi HD1 hF1 hne1
      have e : i = n := hi
      subst e
      have HL1 := HL.fr hF1 (by intro b hb; simp at hb; omega)
      exact wX0_swim_23 hd ⟨HL1.i.mpr trivial, HL1.g4.mpr ⟨fun _ => third 6 0 h1 ch ne1 rfl HD1 hF1 hne1 (fun j hj => absurd hj (Nat.not_lt_zero j)), fun hc => absurd (nI_le (Nat.le_refl _) (by omega)) hc⟩⟩
    | succ r ih =>
      intro i h1 ne1 hi HD1 hF1 hne1
      have HL1 := HL.fr hF1 (by intro b hb; simp at hb; omega)
      refine wX0_swim_23 hd ⟨HL1.i.mpr trivial, HL1.g4.mpr ⟨fun hc => absurd hc (nI_ge (by omega) (by omega)), fun _ => ⟨HD1.i.mpr trivial, t_swimFrom HD1 HL1 hap hn (by omega) hch hne1 (by omega) (fun h2 ne2 HD2 hF2 hne2 => ⟨rfl, ?_⟩)⟩⟩⟩
      rw [nI_1]
      exact ih (i + 1) h2 ne2 (by omega) HD2 (hF1.tt hF2) hne2
  suffices H : ∀ r k (h1 : pz_H) (ne1 : Nat → Int64), k + r = 6 → Dck h1 u ch ne1 of → Fr [u, u + 1, u + 2] h h1 → (∀ j, j < k → ne1 j = 0) → pz_V mX0_swim Ex Q d bc bs 2 [(0, .ref u), (1, .ref ld), (2, .int (nI k))] [] h1 from H 6 0 h ne rfl HD Fr.rf (fun j hj => absurd hj (Nat.not_lt_zero j))
  intro r
  induction r with
  | zero =>
    intro k h1 ne1 hk HD1 hF1 hne1
    have e : k = 6 := hk
    subst e
    exact wX0_swim_2 hd ⟨fun _ => second n 0 h1 ne1 (Nat.zero_add _) HD1 hF1 (fun j hj => hne1 j hj), fun hc => absurd (nI_le (a := 6) (b := 6) (by decide) (by decide)) hc⟩
  | succ r ih =>
    intro k h1 ne1 hk HD1 hF1 hne1
    have vk : vp_in (nI k) 6 := vin (by omega) (by decide)
    refine wX0_swim_2 hd ⟨fun hc => absurd hc (nI_ge (b := 6) (by omega) (by decide)), fun _ => ?_⟩
    simp only [HD1.g1, HD1.s1, vk, true_and, clamp (i := k) (by omega), nI_1]
    refine ih (k + 1) _ _ (by omega) (HD1.v1 _) (hF1.put (by simp)) (fun j hj => ?_)
    rw [updL_fun]
    by_cases e : j = k
    · subst e; rw [if_pos rfl]
    · rw [if_neg e]; exact hne1 j (by omega)
theorem t_sit {i : Nat} (HD : Dck h u ch ne of) (hi : i < 6) (hq : ∀ h' ch', Dck h' u ch' ne 1 → Fr [u, u + 1, u + 2] h h' → (∀ j, j < 6 → ch' j = lN (if j = i then 1 else 0)) → Q none h') : pz_V mX0_sitOn Ex Q d bc bs 0 [(0, .ref u), (1, .int (nI i))] [] h := by
  refine wX0_sitOn_0 ?_
  suffices H : ∀ r k (h1 : pz_H) (ch1 : Nat → Int64), k + r = 6 → Dck h1 u ch1 ne of → Fr [u, u + 1, u + 2] h h1 → (∀ j, j < k → ch1 j = lN (if j = i then 1 else 0)) → pz_V mX0_sitOn Ex Q d bc bs 2 [(0, .ref u), (1, .int (nI i)), (2, .int (nI k))] [] h1 from H 6 0 h ch rfl HD Fr.rf (fun j hj => absurd hj (Nat.not_lt_zero j))
  intro r
  induction r with
  | zero =>
    intro k h1 ch1 hk HD1 hF1 hch1
    have e : k = 6 := hk
    subst e
    exact wX0_sitOn_2 ⟨fun _ => HD1.p2.mpr (hq _ ch1 (HD1.u2 1) (hF1.put (by simp)) hch1), fun hc => absurd (nI_le (a := 6) (b := 6) (by decide) (by decide)) hc⟩
  | succ r ih =>
    intro k h1 ch1 hk HD1 hF1 hch1
    have vk : vp_in (nI k) 6 := vin (by omega) (by decide)
    refine wX0_sitOn_2 ⟨fun hc => absurd hc (nI_ge (b := 6) (by omega) (by decide)), fun _ => ?_⟩
    simp only [HD1.g0, HD1.s0, vk, true_and, clamp (i := k) (by omega), nI_1, nI_inj' (a := k) (b := i) (by omega) (by omega)]
    refine ⟨fun hne => ih (k + 1) _ _ (by omega) (HD1.v0 _) (hF1.put (by simp)) (fun j hj => ?_), fun he => ih (k + 1) _ _ (by omega) (HD1.v0 _) (hF1.put (by simp)) (fun j hj => ?_)⟩
    · rw [updL_fun]
      by_cases e : j = k
      · subst e; rw [if_pos rfl, if_neg hne]; rfl
      · rw [if_neg e]; exact hch1 j (by omega)
    · rw [updL_fun]
      by_cases e : j = k
      · subst e; rw [if_pos rfl, if_pos he]; rfl
      · rw [if_neg e]; exact hch1 j (by omega)
theorem c_duck {fr to m : Int32} (C : CQ h x rF n br dn W T rv rw) (HD : Dck h (x + 106) ch ne of) (hd : 3 ≤ d) (hq : ∀ h' ch' ne' of', CQ h' x rF n br dn W T rv (s_duck dn n rw fr to m).2 → Dck h' (x + 106) ch' ne' of' → Fr ((x + 106) :: (x + 107) :: (x + 108) :: SC x rF) h h' → Q (some (.int (s_duck dn n rw fr to m).1)) h') : pz_V mX9_duck Ex Q d bc bs 0 [(0, .ref x), (1, .int fr), (2, .int to), (3, .int m)] [] h := by
  obtain ⟨hr0, hn0, hWo0, hTo0, ⟨rO0, td0, ks0, dw0, HTop0⟩, ⟨ru0, nx0, HL0⟩, HW0, HT0, ⟨pa0, sk0, th0, len0, src0, at0, HR0, hv0⟩, ⟨nu0, HRow0, hrow0⟩⟩ := id C
  have hr := C.1
  unfold s_duck at hq
  refine wX9_duck_0 hd ?_
  simp only [HTop0.g0, HTop0.g1, HTop0.g2, HTop0.g3, HTop0.g4, HTop0.g5, HTop0.g6, HTop0.g7, HTop0.g8, HTop0.g9, HTop0.g10, HTop0.g11, HTop0.g12, HTop0.g13, HTop0.g15, HTop0.g16, HTop0.i, HL0.g0, HL0.g1, HL0.g2, HL0.g3, HL0.g4, HL0.i, HL0.r0, HL0.r1, HW0.g0, HW0.g1, HW0.g2, HW0.g3, HW0.g4, HW0.g5, HW0.g6, HW0.g7, HW0.g8, HW0.i, HW0.r0, HW0.r1, HW0.r2, HW0.r3, HW0.r4, HT0.g0, HT0.g1, HT0.g2, HT0.g3, HT0.g4, HT0.g5, HT0.g6, HT0.g7, HT0.g8, HT0.i, HT0.r0, HT0.r1, HT0.r2, HT0.r3, HT0.r4, HR0.i, HRow0.i, true_and]
  refine ⟨fun hc => by rw [if_pos hc] at hq; exact hq h _ _ _ C HD Fr.rf, fun hc => ⟨fun hc2 => by rw [if_neg hc, if_pos hc2] at hq; exact hq h _ _ _ C HD Fr.rf, fun hc2 => ⟨fun hc3 => ?_, fun hc3 => by rw [if_neg hc, if_neg hc2, if_pos hc3] at hq; exact hq h _ _ _ C HD Fr.rf⟩⟩⟩
  rw [if_neg hc, if_neg hc2, if_neg hc3] at hq
  obtain ⟨i, hi, rfl⟩ := (has_0 hn0).mp hc
  obtain ⟨o, ho, rfl⟩ := (has_0 hn0).mp hc2
  obtain ⟨k, hk, rfl⟩ := (within_0 (hi := 10) (by decide)).mp hc3
  rw [clamp (by omega), clamp (by omega), clamp (by omega)] at hq
  dsimp only at hq
  have vo : vp_in (nI o) 6 := vin (by omega) (by decide)
  have cf : ∀ {h1 : pz_H}, Fr [x + 106, x + 106 + 1, x + 106 + 2] h h1 → CQ h1 x rF n br dn W T rv rw := fun hF => C.fr hF (fun b hb => by simp at hb; omega)
  refine ⟨HD.i.mpr trivial, t_sit HD (by omega) (fun h1 ch1 HD1 hF1 hch1 => ⟨rfl, ?_⟩)⟩
  suffices H : ∀ r j (h2 : pz_H) (ch2 ne2 : Nat → Int64), j + r = k → Dck h2 (x + 106) ch2 ne2 (lN (60 ^ j)) → Fr [x + 106, x + 106 + 1, x + 106 + 2] h h2 → (∀ z, z < 6 → ch2 z = lN (dkS dn n i j z)) → pz_V mX9_duck Ex Q d bc bs 45 [(0, .ref x), (2, .int (nI o)), (3, .int (nI k)), (4, .int (nI j))] [] h2 from H k 0 h1 ch1 ne (Nat.zero_add _) HD1 hF1 hch1
  intro r
  induction r with
  | zero =>
    intro j h2 ch2 ne2 hj HD2 hF2 hch2
    have e : j = k := hj
    subst e
    have C2 := cf hF2
    obtain ⟨hr2, hn2, hWo2, hTo2, ⟨rO2, td2, ks2, dw2, HTop2⟩, ⟨ru2, nx2, HL2⟩, HW2, HT2, ⟨pa2, sk2, th2, len2, src2, at2, HR2, hv2⟩, ⟨nu2, HRow2, hrow2⟩⟩ := id C2
    refine wX9_duck_45 hd ?_
    simp only [HTop2.g0, HTop2.g1, HTop2.g2, HTop2.g3, HTop2.g4, HTop2.g5, HTop2.g6, HTop2.g7, HTop2.g8, HTop2.g9, HTop2.g10, HTop2.g11, HTop2.g12, HTop2.g13, HTop2.g15, HTop2.g16, HTop2.i, HL2.g0, HL2.g1, HL2.g2, HL2.g3, HL2.g4, HL2.i, HL2.r0, HL2.r1, HW2.g0, HW2.g1, HW2.g2, HW2.g3, HW2.g4, HW2.g5, HW2.g6, HW2.g7, HW2.g8, HW2.i, HW2.r0, HW2.r1, HW2.r2, HW2.r3, HW2.r4, HT2.g0, HT2.g1, HT2.g2, HT2.g3, HT2.g4, HT2.g5, HT2.g6, HT2.g7, HT2.g8, HT2.i, HT2.r0, HT2.r1, HT2.r2, HT2.r3, HT2.r4, HR2.i, HRow2.i, HD2.g0, HD2.g2, HD2.r0, vo, clamp (i := o) (by omega), hch2 o (by omega), true_and]
    refine ⟨fun _ => ?_, fun hc => absurd (nI_le (Nat.le_refl _) (by omega)) hc⟩
    have hu : dkS dn n i j o ≤ 60 ^ j := dkS_lt hn0 hi ho
    have h60 := pow60 hk
    have hp : 0 < 60 ^ j := Nat.pow_pos (by decide)
    have e1 : Nat.gcd (dkS dn n i j o) (60 ^ j) = Nat.gcd (60 ^ j) (dkS dn n i j o) := Nat.gcd_comm _ _
    have hg0 : 0 < Nat.gcd (60 ^ j) (dkS dn n i j o) := Nat.gcd_pos_of_pos_left _ hp
    have hgl : Nat.gcd (60 ^ j) (dkS dn n i j o) ≤ 60 ^ j := Nat.gcd_le_left _ hp
    refine wX9_commonDivisor_0 (t_gcd 63 (60 ^ j) (dkS dn n i j o) 0 (by omega) (by omega) (by omega) (by decide) ⟨_, rfl, ?_⟩)
    rw [e1] at hq
    generalize Nat.gcd (60 ^ j) (dkS dn n i j o) = g at hg0 hgl hq ⊢
    have gne : ¬ lN g = 0 := fun q => by have := (pk_lEQ (a := g) (b := 0) (by omega) (by decide)).mp q; omega
    refine ⟨fun hle => ?_, fun _ => ?_⟩
    · have := (lg_cmp_le _ _).mp hle
      have := (pk_lLE (a := g) (b := 0) (by omega) (by decide)).mp this
      omega
    · simp only [HTop2.g0, HTop2.g1, HTop2.g2, HTop2.g3, HTop2.g4, HTop2.g5, HTop2.g6, HTop2.g7, HTop2.g8, HTop2.g9, HTop2.g10, HTop2.g11, HTop2.g12, HTop2.g13, HTop2.g15, HTop2.g16, HTop2.i, HL2.g0, HL2.g1, HL2.g2, HL2.g3, HL2.g4, HL2.i, HL2.r0, HL2.r1, HW2.g0, HW2.g1, HW2.g2, HW2.g3, HW2.g4, HW2.g5, HW2.g6, HW2.g7, HW2.g8, HW2.i, HW2.r0, HW2.r1, HW2.r2, HW2.r3, HW2.r4, HT2.g0, HT2.g1, HT2.g2, HT2.g3, HT2.g4, HT2.g5, HT2.g6, HT2.g7, HT2.g8, HT2.i, HT2.r0, HT2.r1, HT2.r2, HT2.r3, HT2.r4, HR2.i, HRow2.i, HD2.g2, true_and]
      refine ⟨gne, gne, ?_⟩
      rw [pk_lDiv (by omega) hg0 (by omega), pk_lDiv (by omega) hg0 (by omega)]
      refine q_tell2 C2 (by omega) (fun h5 C5 hF5 => ⟨rfl, hq h5 _ _ _ C5 (HD2.fr hF5 (by intro b hb; simp at hb; omega)) ?_⟩)
      exact (hF2.mono (by intro b hb; simp at hb ⊢; omega)).tr hF5 (fun b hb => List.mem_cons_of_mem _ (List.mem_cons_of_mem _ (List.mem_cons_of_mem _ hb)))
  | succ r ih =>
    intro j h2 ch2 ne2 hj HD2 hF2 hch2
    have C2 := cf hF2
    obtain ⟨hr2, hn2, hWo2, hTo2, ⟨rO2, td2, ks2, dw2, HTop2⟩, ⟨ru2, nx2, HL2⟩, HW2, HT2, ⟨pa2, sk2, th2, len2, src2, at2, HR2, hv2⟩, ⟨nu2, HRow2, hrow2⟩⟩ := id C2
    refine wX9_duck_45 hd ?_
    simp only [HTop2.g0, HTop2.g1, HTop2.g2, HTop2.g3, HTop2.g4, HTop2.g5, HTop2.g6, HTop2.g7, HTop2.g8, HTop2.g9, HTop2.g10, HTop2.g11, HTop2.g12, HTop2.g13, HTop2.g15, HTop2.g16, HTop2.i, HL2.g0, HL2.g1, HL2.g2, HL2.g3, HL2.g4, HL2.i, HL2.r0, HL2.r1, HW2.g0, HW2.g1, HW2.g2, HW2.g3, HW2.g4, HW2.g5, HW2.g6, HW2.g7, HW2.g8, HW2.i, HW2.r0, HW2.r1, HW2.r2, HW2.r3, HW2.r4, HT2.g0, HT2.g1, HT2.g2, HT2.g3, HT2.g4, HT2.g5, HT2.g6, HT2.g7, HT2.g8, HT2.i, HT2.r0, HT2.r1, HT2.r2, HT2.r3, HT2.r4, HR2.i, HRow2.i, nI_1, HD2.i, true_and]
    refine ⟨fun hc => absurd hc (nI_ge (by omega) (by omega)), fun _ => t_swim HD2 HL2 (by omega) hn0 hch2 (by omega) (fun h3 ch3 ne3 HD3 hF3 hch3 => ⟨rfl, ?_⟩)⟩
    rw [lpos 60, lN_mul, ← Nat.pow_succ] at HD3
    exact ih (j + 1) h3 ch3 ne3 (by omega) HD3 (hF2.tt hF3) hch3
end CD
