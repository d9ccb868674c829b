/-! ===== the reference: lakes ===== -/
theorem digit_in (sg : Int32) : eX10_in sg (nI 48) (nI 48 + nI 10 - 1) = eX9_isDigit sg := by
  rw [show nI 48 + nI 10 - 1 = (57 : Int32) by decide]
  rfl
theorem down_in {sg : Int32} {num : Nat} (hn : num ≤ 6) : eX10_in sg (nI 48) (nI 48 + nI num - 1) = 0 ↔ ¬ (¬ eX9_isDigit sg = 0 ∧ ¬ nI num ≤ sg - 48) := by
  have key : ¬ eX10_in sg (nI 48) (nI 48 + nI num - 1) = 0 ↔ (¬ eX9_isDigit sg = 0 ∧ ¬ nI num ≤ sg - 48) := by
    constructor
    · intro z
      obtain ⟨j, hj, e⟩ := in_le (c := 48) (k := num) (by omega) z
      refine ⟨digit_0.mpr ⟨j, by omega, e⟩, ?_⟩
      rw [e, show nI (48 + j) - (48 : Int32) = nI j from by rw [Nat.add_comm]; exact sub_nI j 48, nI_leI (by omega) (by omega)]
      omega
    · rintro ⟨z1, z2⟩
      obtain ⟨j, hj, e⟩ := digit_0.mp z1
      rw [e, show nI (48 + j) - (48 : Int32) = nI j from by rw [Nat.add_comm]; exact sub_nI j 48, nI_leI (by omega) (by omega)] at z2
      have ec : nI 48 + nI num - (1 : Int32) = nI (47 + num) := by
        rw [nI_add, show 48 + num = (47 + num) + 1 by omega]
        exact nI_pred _
      rw [ec]
      exact (within_1 (v := sg) (lo := 48) (hi := 47 + num) (by omega) (by omega)).mpr ⟨48 + j, by omega, by omega, e⟩
  constructor
  · intro z1 z2
    exact key.mpr z2 z1
  · intro z1
    exact Decidable.byContradiction (fun z2 => z1 (key.mp z2))
theorem rdO_q {sg : Int32} {c k p : Nat} {w : Int32} (h : eX10_fine w = 0) : rdO sg c k p w = (p, w, 0) := by unfold rdO; rw [if_pos h]
theorem rdO_b {sg : Int32} {c k p : Nat} (h : eX10_in sg (nI c) (nI c + nI k - 1) = 0) : rdO sg c k p (-1) = (p, nI p, 0) := by unfold rdO; rw [if_neg fine_1, if_pos h]
theorem rdO_y {sg : Int32} {c k p : Nat} (h : ¬ eX10_in sg (nI c) (nI c + nI k - 1) = 0) : rdO sg c k p (-1) = (p + 1, -1, sg - nI c) := by unfold rdO; rw [if_neg fine_1, if_neg h]
theorem rdO_p (sg : Int32) (c k p : Nat) (w : Int32) : (rdO sg c k p w).1 ≤ p + 1 := by
  unfold rdO
  split
  · dsimp only; omega
  · split
    · dsimp only; omega
    · dsimp only; omega
theorem sg80 {tx : Nat → Nat} {tl p : Nat} (h : ¬ sgn tx tl 41 p = -1) : sgn tx tl 80 p = sgn tx tl 41 p := by
  unfold sgn at h ⊢
  by_cases c : p < tl ∧ p < 41
  · rw [if_pos c, if_pos (by omega)]
  · rw [if_neg c] at h
    exact absurd rfl h
def LnV (tx : Nat → Nat) (tl : Nat) (cm : Nat → Int32) (q : Nat) : Prop := cm (5 * q) = lnBr tx tl (7 * q) ∧ cm (5 * q + 1) = sgn tx tl 80 (7 * q + 2) - 48 ∧ cm (5 * q + 2) = sgn tx tl 80 (7 * q + 3) - 48 ∧ cm (5 * q + 3) = sgn tx tl 41 (7 * q + 4) - 97 ∧ cm (5 * q + 4) = lnDn tx tl (7 * q)
section MLA
variable {Ex : State → Nat → Prop} {Q : Option Value → pz_H → Prop} {d bc bs : Nat} {h0 h h' : pz_H} {m : Nat} {S : pS} {oT : Option pW} {T : pW} {lo lm : Int32} {rw : List Int64} {zz : pX}
variable {P P0 : pM} {le : Nat} {cm ac : Nat → Int32} {tx : Nat → Nat}
/-- the second half of a line -/
theorem RD.line2 {p k num : Nat} {w : Int32} (R : RD h0 h m P0 le 41 p w cm ac) (hx : TxB le (P0.A 5) tx) (hle : le ≤ 80) (hp : p < 1000) (hk : k < 6) (hnum : P0.I 1 + nI k = nI num) (hn6 : num ≤ 6) (hd : 3 ≤ d)
    (hq : ∀ h' p' w' v1 v2 v3 v4, p' ≤ p + 5 → RD h0 h' m P0 le 41 p' w' (upd (upd (upd (upd cm (5 * k + 1) v1) (5 * k + 2) v2) (5 * k + 3) v3) (5 * k + 4) v4) ac → (eX10_fine w = 0 → w' = w) →
      (w = -1 → (eX9_isDigit (sgn tx le 41 p) = 0 → w' = nI p) ∧ (¬ eX9_isDigit (sgn tx le 41 p) = 0 → (eX9_isDigit (sgn tx le 41 (p + 1)) = 0 → w' = nI (p + 1)) ∧ (¬ eX9_isDigit (sgn tx le 41 (p + 1)) = 0 → (eX9_isKingSign (sgn tx le 41 (p + 2)) = 0 → w' = nI (p + 2)) ∧ (¬ eX9_isKingSign (sgn tx le 41 (p + 2)) = 0 → (¬ (sgn tx le 41 (p + 3) = 45 ∨ (¬ eX9_isDigit (sgn tx le 41 (p + 3)) = 0 ∧ ¬ nI num ≤ sgn tx le 41 (p + 3) - 48)) → w' = nI (p + 3)) ∧ ((sgn tx le 41 (p + 3) = 45 ∨ (¬ eX9_isDigit (sgn tx le 41 (p + 3)) = 0 ∧ ¬ nI num ≤ sgn tx le 41 (p + 3) - 48)) → w' = -1 ∧ p' = p + 4 ∧ v1 = sgn tx le 41 p - 48 ∧ v2 = sgn tx le 41 (p + 1) - 48 ∧ v3 = sgn tx le 41 (p + 2) - 97 ∧ v4 = (if sgn tx le 41 (p + 3) = 45 then -1 else sgn tx le 41 (p + 3) - 48)))))) → Q none h') :
    pz_V mX10_readLake Ex Q d bc bs 58 [(0, .ref m), (1, .int (nI k)), (2, .int (nI (5 * k)))] [] h := by
  have b1 := rdO_p (sgn tx le 41 p) 48 10 p w
  generalize e1 : rdO (sgn tx le 41 p) 48 10 p w = r1 at b1
  have b2 := rdO_p (sgn tx le 41 r1.1) 48 10 r1.1 r1.2.1
  generalize e2 : rdO (sgn tx le 41 r1.1) 48 10 r1.1 r1.2.1 = r2 at b2
  have b3 := rdO_p (sgn tx le 41 r2.1) 97 4 r2.1 r2.2.1
  generalize e3 : rdO (sgn tx le 41 r2.1) 97 4 r2.1 r2.2.1 = r3 at b3
  -- what the whole chain gives
  have fin : ∀ h' p' w' v4, p' ≤ r3.1 + 1 → RD h0 h' m P0 le 41 p' w' (upd (upd (upd (upd cm (5 * k + 1) r1.2.2) (5 * k + 2) r2.2.2) (5 * k + 3) r3.2.2) (5 * k + 4) v4) ac → (eX10_fine r3.2.1 = 0 → w' = r3.2.1) → (r3.2.1 = -1 → (¬ (sgn tx le 41 r3.1 = 45 ∨ (¬ eX9_isDigit (sgn tx le 41 r3.1) = 0 ∧ ¬ nI num ≤ sgn tx le 41 r3.1 - 48)) → w' = nI r3.1) ∧ ((sgn tx le 41 r3.1 = 45 ∨ (¬ eX9_isDigit (sgn tx le 41 r3.1) = 0 ∧ ¬ nI num ≤ sgn tx le 41 r3.1 - 48)) → w' = -1 ∧ p' = r3.1 + 1 ∧ v4 = (if sgn tx le 41 r3.1 = 45 then -1 else sgn tx le 41 r3.1 - 48))) → Q none h' := by
    intro h' p' w' v4 hp' R' hq1 hq2
    refine hq h' p' w' _ _ _ v4 (by omega) R' (fun hw => ?_) (fun hw => ⟨fun c1 => ?_, fun c1 => ⟨fun c2 => ?_, fun c2 => ⟨fun c3 => ?_, fun c3 => ?_⟩⟩⟩)
    · rw [rdO_q hw] at e1
      subst e1
      rw [rdO_q hw] at e2
      subst e2
      rw [rdO_q hw] at e3
      subst e3
      exact hq1 hw
    · subst hw
      rw [rdO_b (by rw [digit_in]; exact c1)] at e1
      subst e1
      have fz : eX10_fine (nI p) = 0 := fine_0 (by omega)
      rw [rdO_q fz] at e2
      subst e2
      rw [rdO_q fz] at e3
      subst e3
      exact hq1 fz
    · subst hw
      rw [rdO_y (by rw [digit_in]; exact c1)] at e1
      subst e1
      rw [rdO_b (by rw [digit_in]; exact c2)] at e2
      subst e2
      have fz : eX10_fine (nI (p + 1)) = 0 := fine_0 (by omega)
      rw [rdO_q fz] at e3
      subst e3
      exact hq1 fz
    · subst hw
      rw [rdO_y (by rw [digit_in]; exact c1)] at e1
      subst e1
      rw [rdO_y (by rw [digit_in]; exact c2)] at e2
      subst e2
      rw [rdO_b (by rw [king_in]; exact c3)] at e3
      subst e3
      exact hq1 (fine_0 (by omega))
    · subst hw
      rw [rdO_y (by rw [digit_in]; exact c1)] at e1
      subst e1
      rw [rdO_y (by rw [digit_in]; exact c2)] at e2
      subst e2
      rw [rdO_y (by rw [king_in]; exact c3)] at e3
      subst e3
      obtain ⟨y1, y2⟩ := hq2 rfl
      refine ⟨y1, fun z => ?_⟩
      obtain ⟨x1, x2, x3⟩ := y2 z
      exact ⟨x1, x2, rfl, rfl, rfl, x3⟩
  refine wX10_readLake_58 hd ((R.g rfl).mpr ⟨R.is, R.one (c := 48) (k := 10) hx hle (by decide) (by omega) (by decide) (Nat.le_refl _) (fun h1 R1 => ⟨_, rfl, ?_⟩)⟩)
  rw [e1] at R1 ⊢
  refine R1.sC (q := 5 * k + 1) (nI_add (5 * k) 1) (by omega) (fun h2 R2 => (R2.g rfl).mpr ⟨R2.is, R2.one (c := 48) (k := 10) hx hle (by decide) (by omega) (by decide) (Nat.le_refl _) (fun h3 R3 => ⟨_, rfl, ?_⟩)⟩)
  rw [e2] at R3 ⊢
  refine R3.sC (q := 5 * k + 2) (nI_add (5 * k) 2) (by omega) (fun h4 R4 => (R4.g rfl).mpr ⟨R4.is, R4.one (c := 97) (k := 4) hx hle (by decide) (by omega) (by decide) (Nat.le_refl _) (fun h5 R5 => ⟨_, rfl, ?_⟩)⟩)
  rw [e3] at R5 ⊢
  refine R5.sC (q := 5 * k + 3) (nI_add (5 * k) 3) (by omega) (fun h6 R6 => (R6.g rfl).mpr ⟨R6.is, R6.passes hx hle (by decide) (by omega) (Nat.le_refl _) (fun h7 R7 => ⟨_, rfl, ?_⟩)⟩)
  by_cases fz : eX10_fine r3.2.1 = 0
  · rw [if_pos fz] at R7 ⊢
    refine ⟨fun _ => R7.n.mpr ⟨R7.is, ?_⟩, fun z => absurd rfl z⟩
    rw [hnum]
    refine R7.one (c := 48) (k := num) hx hle (by decide) (by omega) (by omega) (Nat.le_refl _) (fun h8 R8 => ⟨_, rfl, ?_⟩)
    rw [rdO_q fz] at R8 ⊢
    exact R8.sC (q := 5 * k + 4) (nI_add (5 * k) 4) (by omega) (fun h9 R9 => fin h9 _ _ _ (by omega) R9 (fun _ => rfl) (fun z => by rw [z] at fz; exact absurd fz fine_1))
  · have wm : r3.2.1 = -1 := by
      have : ∀ x : Int32, ¬ eX10_fine x = 0 → x = -1 := fun x hx => by
        unfold eX10_fine at hx
        by_cases c : x = -1
        · exact c
        · rw [if_neg c] at hx; exact absurd rfl hx
      exact this _ fz
    rw [if_neg fz] at R7 ⊢
    by_cases c45 : sgn tx le 41 r3.1 = 45
    · rw [if_pos c45] at R7
      rw [if_pos c45]
      refine ⟨fun z => absurd z (by decide), fun _ => R7.sC (q := 5 * k + 4) (nI_add (5 * k) 4) (by omega) (fun h9 R9 => fin h9 _ _ _ (Nat.le_refl _) R9 (fun z => absurd z fz) (fun _ => ⟨fun z => absurd (Or.inl c45) z, fun _ => ⟨wm, rfl, by rw [if_pos c45]⟩⟩))⟩
    · rw [if_neg c45] at R7
      rw [if_neg c45]
      refine ⟨fun _ => R7.n.mpr ⟨R7.is, ?_⟩, fun z => absurd rfl z⟩
      rw [hnum]
      refine R7.one (c := 48) (k := num) hx hle (by decide) (by omega) (by omega) (Nat.le_refl _) (fun h8 R8 => ⟨_, rfl, ?_⟩)
      rw [wm] at R8 ⊢
      by_cases ci : eX10_in (sgn tx le 41 r3.1) (nI 48) (nI 48 + nI num - 1) = 0
      · rw [rdO_b ci] at R8 ⊢
        exact R8.sC (q := 5 * k + 4) (nI_add (5 * k) 4) (by omega) (fun h9 R9 => fin h9 _ _ _ (by omega) R9 (fun z => absurd z fz) (fun _ => ⟨fun _ => rfl, fun z => absurd (z.resolve_left c45) ((down_in hn6).mp ci)⟩))
      · rw [rdO_y ci] at R8 ⊢
        exact R8.sC (q := 5 * k + 4) (nI_add (5 * k) 4) (by omega) (fun h9 R9 => fin h9 _ _ _ (Nat.le_refl _) R9 (fun z => absurd z fz) (fun _ => ⟨fun z => absurd (Decidable.byContradiction (fun y => ci ((down_in hn6).mpr y))) (fun y => z (Or.inr y)), fun _ => ⟨rfl, rfl, by rw [if_neg c45]; rfl⟩⟩))
theorem dig_sub {sg : Int32} (h : ¬ eX9_isDigit sg = 0) : ∃ j, j < 10 ∧ sg = nI (48 + j) ∧ sg - 48 = nI j := by
  obtain ⟨j, hj, e⟩ := digit_0.mp h
  exact ⟨j, hj, e, by rw [e, Nat.add_comm]; exact sub_nI j 48⟩
theorem dig_ne {sg : Int32} (h : ¬ eX9_isDigit sg = 0) : ¬ sg = -1 := fun z => by rw [z] at h; exact h (by decide)
theorem brim0 {a b : Int32} (ha : ¬ eX9_isDigit a = 0) (hb : ¬ eX9_isDigit b = 0) : 10 * (a - 48) + (b - 48) = 0 ↔ a = 48 ∧ b = 48 := by
  obtain ⟨i, hi, e1, e2⟩ := dig_sub ha
  obtain ⟨j, hj, e3, e4⟩ := dig_sub hb
  rw [e2, e4, show (10 : Int32) * nI i = nI (10 * i) from pk_mul 10 i, nI_add, e1, e3, show (48 : Int32) = nI 48 from rfl, show (0 : Int32) = nI 0 from rfl, nI_inj' (by omega) (by omega), nI_inj' (by omega) (by omega), nI_inj' (by omega) (by omega)]
  omega
/-- a line -/
theorem RD.line {k num : Nat} (R : RD h0 h m P0 le 41 (7 * k) (-1) cm ac) (hx : TxB le (P0.A 5) tx) (hle : le ≤ 80) (hk : k < 6) (hnum : P0.I 1 + nI k = nI num) (hn6 : num < 6) (hd : 3 ≤ d)
    (hq : ∀ h' p' w' cm', p' < 1000 → RD h0 h' m P0 le 41 p' w' cm' ac → (∀ q, lineF tx le (7 * k) num = some q → w' = nI q) → (lineF tx le (7 * k) num = none → w' = -1 ∧ p' = 7 * k + 6 ∧ LnV tx le cm' k ∧ (∀ j, j < 5 * k → cm' j = cm j) ∧ 7 * k + 6 ≤ le) → Q none h') :
    pz_V mX10_readLake Ex Q d bc bs 0 [(0, .ref m), (1, .int (nI k))] [] h := by
  generalize hp : 7 * k = p at R hq
  have hlf : lineF tx le p num = if eX9_isDigit (sgn tx le 41 p) = 0 then some p
      else if eX9_isDigit (sgn tx le 41 (p + 1)) = 0 ∨ (sgn tx le 41 p = 48 ∧ sgn tx le 41 (p + 1) = 48) then some (p + 1)
      else if eX9_isDigit (sgn tx le 41 (p + 2)) = 0 then some (p + 2) else if eX9_isDigit (sgn tx le 41 (p + 3)) = 0 then some (p + 3)
      else if eX9_isKingSign (sgn tx le 41 (p + 4)) = 0 then some (p + 4)
      else if ¬ (sgn tx le 41 (p + 5) = 45 ∨ (¬ eX9_isDigit (sgn tx le 41 (p + 5)) = 0 ∧ ¬ nI num ≤ sgn tx le 41 (p + 5) - 48)) then some (p + 5) else none := by
    unfold lineF
    rw [if_neg (by omega)]
  rw [hlf] at hq
  have e5 : (5 : Int32) * nI k = nI (5 * k) := pk_mul 5 k
  have b1 := rdO_p (sgn tx le 41 p) 48 10 p (-1)
  -- at fault already: the second half is quiet
  have quiet : ∀ (h5 : pz_H) (p5 : Nat) (w5 : Int32) (cm5 : Nat → Int32) (q : Nat), p5 ≤ p + 2 → RD h0 h5 m P0 le 41 p5 w5 cm5 ac → w5 = nI q → q < 1000 → (∀ h' p' w' cm', p' < 1000 → RD h0 h' m P0 le 41 p' w' cm' ac → w' = nI q → Q none h') → pz_V mX10_readLake Ex Q d bc bs 58 [(0, .ref m), (1, .int (nI k)), (2, .int (nI (5 * k)))] [] h5 := by
    intro h5 p5 w5 cm5 q hp5 R5 ew hq5 hq6
    refine R5.line2 hx hle (by omega) hk hnum (by omega) hd (fun h' p' w' v1 v2 v3 v4 hp' R' a1 _ => hq6 h' p' w' _ (by omega) R' ?_)
    rw [a1 (by rw [ew]; exact fine_0 (by omega)), ew]
  refine wX10_readLake_0 hd ⟨R.is, R.one (c := 48) (k := 10) hx hle (by decide) (by omega) (by decide) (Nat.le_refl _) (fun h1 R1 => ⟨_, rfl, (R1.g rfl).mpr ⟨R1.is, R1.one (c := 48) (k := 10) hx hle (by decide) (by omega) (by decide) (Nat.le_refl _) (fun h2 R2 => ⟨_, rfl, ?_⟩)⟩⟩)⟩
  rw [e5]
  by_cases c1 : eX9_isDigit (sgn tx le 41 p) = 0
  · rw [if_pos c1] at hq
    rw [rdO_b (by rw [digit_in]; exact c1)] at R2 ⊢
    have fz : eX10_fine (nI p) = 0 := fine_0 (by omega)
    rw [rdO_q fz] at R2 ⊢
    refine R2.sC (q := 5 * k) rfl (by omega) (fun h3 R3 => ⟨R3.is, R3.wr.mpr ⟨fun _ => quiet h3 _ _ _ p (by omega) R3 rfl (by omega) (fun h' p' w' cm' a1 a2 a3 => hq h' p' w' cm' a1 a2 (fun q hq2 => by cases hq2; exact a3) (fun z => by cases z)), fun z => absurd fz z⟩⟩)
  rw [if_neg c1] at hq
  rw [rdO_y (by rw [digit_in]; exact c1)] at R2 ⊢
  dsimp only at R2 ⊢
  by_cases c2 : eX9_isDigit (sgn tx le 41 (p + 1)) = 0
  · rw [if_pos (Or.inl c2)] at hq
    rw [rdO_b (by rw [digit_in]; exact c2)] at R2 ⊢
    have fz : eX10_fine (nI (p + 1)) = 0 := fine_0 (by omega)
    refine R2.sC (q := 5 * k) rfl (by omega) (fun h3 R3 => ⟨R3.is, R3.wr.mpr ⟨fun _ => quiet h3 _ _ _ (p + 1) (by omega) R3 rfl (by omega) (fun h' p' w' cm' a1 a2 a3 => hq h' p' w' cm' a1 a2 (fun q hq2 => by cases hq2; exact a3) (fun z => by cases z)), fun z => absurd fz z⟩⟩)
  rw [rdO_y (by rw [digit_in]; exact c2)] at R2 ⊢
  dsimp only at R2 ⊢
  rw [show sgn tx le 41 p - nI 48 = sgn tx le 41 p - 48 from rfl, show sgn tx le 41 (p + 1) - nI 48 = sgn tx le 41 (p + 1) - 48 from rfl]
  refine R2.sC (q := 5 * k) rfl (by omega) (fun h3 R3 => ⟨R3.is, R3.wr.mpr ⟨fun z => absurd z fine_1, fun _ => (R3.g rfl).mpr ((R3.rC (q := 5 * k) rfl (by omega)).mpr ?_)⟩⟩)
  rw [upd_at]
  refine ⟨fun hz => ?_, fun hz => R3.at_.mpr ⟨R3.is, R3.fault (Nat.le_refl _) (fun h4 R4 => ⟨rfl, ?_⟩)⟩⟩
  · rw [if_neg (fun z => z.elim c2 (fun y => hz ((brim0 c1 c2).mpr y)))] at hq
    refine R3.line2 hx hle (by omega) hk hnum (by omega) hd (fun h' p' w' v1 v2 v3 v4 hp' R' _ a2 => ?_)
    obtain ⟨a3, a4⟩ := a2 rfl
    rw [show p + 1 + 1 = p + 2 from rfl] at a3 a4
    by_cases c3 : eX9_isDigit (sgn tx le 41 (p + 2)) = 0
    · rw [if_pos c3] at hq
      exact hq h' p' w' _ (by omega) R' (fun q hq2 => by cases hq2; exact a3 c3) (fun z => by cases z)
    rw [if_neg c3] at hq
    obtain ⟨a5, a6⟩ := a4 c3
    by_cases c4 : eX9_isDigit (sgn tx le 41 (p + 3)) = 0
    · rw [if_pos c4] at hq
      exact hq h' p' w' _ (by omega) R' (fun q hq2 => by cases hq2; exact a5 c4) (fun z => by cases z)
    rw [if_neg c4] at hq
    obtain ⟨a7, a8⟩ := a6 c4
    by_cases c5 : eX9_isKingSign (sgn tx le 41 (p + 4)) = 0
    · rw [if_pos c5] at hq
      exact hq h' p' w' _ (by omega) R' (fun q hq2 => by cases hq2; exact a7 c5) (fun z => by cases z)
    rw [if_neg c5] at hq
    obtain ⟨a9, a10⟩ := a8 c5
    by_cases c6 : sgn tx le 41 (p + 5) = 45 ∨ (¬ eX9_isDigit (sgn tx le 41 (p + 5)) = 0 ∧ ¬ nI num ≤ sgn tx le 41 (p + 5) - 48)
    · rw [if_neg (fun z => z c6)] at hq
      obtain ⟨x1, x2, x3, x4, x5, x6⟩ := a10 c6
      have s5 : ¬ sgn tx le 41 (p + 5) = -1 := by
        rcases c6 with z | z
        · rw [z]; decide
        · exact dig_ne z.1
      have hple : p + 5 < le := by
        unfold sgn at s5
        by_cases z : p + 5 < le ∧ p + 5 < 41
        · exact z.1
        · rw [if_neg z] at s5; exact absurd rfl s5
      refine hq h' p' w' _ (by omega) R' (fun q hq2 => by cases hq2) (fun _ => ⟨x1, by omega, ?_, fun j hj => ?_, by omega⟩)
      · unfold LnV
        rw [hp, sg80 (dig_ne c3), sg80 (dig_ne c4)]
        refine ⟨?_, ?_, ?_, ?_, ?_⟩
        · rw [upd_ne (by omega), upd_ne (by omega), upd_ne (by omega), upd_ne (by omega), upd_at]
          unfold lnBr
          rw [sg80 (dig_ne c1), sg80 (dig_ne c2)]
        · rw [upd_ne (by omega), upd_ne (by omega), upd_ne (by omega), upd_at]; exact x3
        · rw [upd_ne (by omega), upd_ne (by omega), upd_at]; exact x4
        · rw [upd_ne (by omega), upd_at]; exact x5
        · rw [upd_at]; exact x6
      · rw [upd_ne (by omega), upd_ne (by omega), upd_ne (by omega), upd_ne (by omega), upd_ne (by omega)]
    · rw [if_pos c6] at hq
      exact hq h' p' w' _ (by omega) R' (fun q hq2 => by cases hq2; exact a9 c6) (fun z => by cases z)
  · rw [if_pos (Or.inr ((brim0 c1 c2).mp hz))] at hq
    rw [if_neg fine_1, show nI (p + 1 + 1) - (1 : Int32) = nI (p + 1) from nI_pred _] at R4
    exact quiet h4 _ _ _ (p + 1) (by omega) R4 rfl (by omega) (fun h' p' w' cm' a1 a2 a3 => hq h' p' w' cm' a1 a2 (fun q hq2 => by cases hq2; exact a3) (fun z => by cases z))
theorem addLs_q {S : pS} : ∀ k, S.n + k ≤ 6 → (addLs k S).n = S.n + k ∧ (addLs k S).tx = S.tx ∧ (addLs k S).tl = S.tl ∧ (addLs k S).W.ou = S.W.ou ∧ (addLs k S).R = S.R ∧ (addLs k S).rv = S.rv ∧ (addLs k S).rw = S.rw
  | 0, _ => ⟨rfl, rfl, rfl, rfl, rfl, rfl, rfl⟩
  | k + 1, h => by
    obtain ⟨a, b, c, d, e, f, g⟩ := addLs_q (S := S) k (by omega)
    rw [addLs, addL, if_pos (by omega)]
    exact ⟨by show (addLs k S).n + 1 = _; omega, b, c, d, e, f, g⟩
theorem NowR.grow {n : Nat} {a : Nat → Int32} {W : pW} {x1 x2 x3 x4 : Int32} (h : NowR n a W) (hn : n < 6) : NowR (n + 1) (upd (upd (upd (upd (upd a n x1) (6 + n) 0) (12 + n) 0) (18 + n) x2) (24 + n) x3) (upd W.lv n x1, upd W.hr n 0, upd W.tp n x2, upd W.lk n x4, upd W.kg n x3, W.ou, W.dy, W.sp, W.dr) := by
  obtain ⟨h1, h2, h3, h4, h5⟩ := h
  have lt2 : W.ou < 2 ^ (n + 1) := Nat.lt_trans h5 (Nat.pow_lt_pow_right (by decide) (by omega))
  refine ⟨fun i hi => ?_, ?_, ?_, ?_, lt2⟩
  · by_cases e : i = n
    · subst e
      refine ⟨?_, ?_, ?_, ?_, ?_⟩
      · rw [upd_ne (by omega), upd_ne (by omega), upd_ne (by omega), upd_ne (by omega), upd_at]
        exact (upd_at W.lv i x1).symm
      · rw [upd_ne (by omega), upd_ne (by omega), upd_ne (by omega), upd_at]
        show (0 : Int32) = if W.ou.testBit i then 1 else 0
        rw [Nat.testBit_lt_two_pow h5]
        rfl
      · rw [upd_ne (by omega), upd_ne (by omega), upd_at]
        exact (upd_at W.hr i 0).symm
      · rw [upd_ne (by omega), upd_at]
        exact (upd_at W.tp i x2).symm
      · rw [upd_at]
        exact (upd_at W.kg i x3).symm
    · obtain ⟨t1, t2, t3, t4, t5⟩ := h1 i (by omega)
      refine ⟨?_, ?_, ?_, ?_, ?_⟩
      · rw [upd_ne (by omega), upd_ne (by omega), upd_ne (by omega), upd_ne (by omega), upd_ne e, t1]
        exact (upd_ne e).symm
      · rw [upd_ne (by omega), upd_ne (by omega), upd_ne (by omega), upd_ne (by omega), upd_ne (by omega)]
        exact t2
      · rw [upd_ne (by omega), upd_ne (by omega), upd_ne (by omega), upd_ne (by omega), upd_ne (by omega), t3]
        exact (upd_ne e).symm
      · rw [upd_ne (by omega), upd_ne (by omega), upd_ne (by omega), upd_ne (by omega), upd_ne (by omega), t4]
        exact (upd_ne e).symm
      · rw [upd_ne (by omega), upd_ne (by omega), upd_ne (by omega), upd_ne (by omega), upd_ne (by omega), t5]
        exact (upd_ne e).symm
  · rw [upd_ne (by omega), upd_ne (by omega), upd_ne (by omega), upd_ne (by omega), upd_ne (by omega)]; exact h2
  · rw [upd_ne (by omega), upd_ne (by omega), upd_ne (by omega), upd_ne (by omega), upd_ne (by omega)]; exact h3
  · rw [upd_ne (by omega), upd_ne (by omega), upd_ne (by omega), upd_ne (by omega), upd_ne (by omega)]; exact h4
theorem M_lakes (H : MInv h0 h m S) (O : SOk S) (hd : 4 ≤ d) (hq : ∀ h', MInv h0 h' m (o_lakes S).2 → Q (some (.int (o_lakes S).1)) h') : pz_V mX10_lakes Ex Q d bc bs 0 [(0, .ref m)] [] h := by
  obtain ⟨t, P, h1, h2, h3, h4, -⟩ := H
  have B9 := h2.s9 (v := 0)
  have htl := O.2.1
  have hn := O.1
  have hx : TxB S.tl ((P.sI 9 0).A 5) S.tx := B9.2.2.2.1.le htl
  unfold o_lakes at hq
  refine wX10_lakes_0 hd (h1.pI rfl (fun ha Ha => ⟨Ha.is, m_beginText (k := 41) Ha B9.2.2.2.2.1 (by decide) (fun hb Rb => ⟨rfl, Rb.le_.mpr ⟨fun hz => ?_, fun hz => ?_⟩⟩)⟩))
  · have t0 : ¬ S.tl = 0 := fun z => hz (by rw [z]; rfl)
    rw [if_neg t0] at hq
    dsimp only at hq
    -- a fault told
    have bad : ∀ (h5 : pz_H) (p q : Nat) (w : Int32) (cm ac : Nat → Int32) (c1 : Int32), lnS S.tx S.tl S.n 6 0 = (false, q) → p < 1000 → q < 1000 → RD h0 h5 m (P.sI 9 0) S.tl 41 p w cm ac → (if S.tl ≤ p then w else if eX10_fine w = 0 then w else nI p) = nI q → pz_V mX10_lakes Ex Q d bc bs 24 [(0, .ref m), (1, .int c1), (2, .int 0)] [] h5 := by
      intro h5 p q w cm ac c1 es hp hq5 R5 ew
      rw [es, if_neg (show ¬ (false, q).1 = true from Bool.false_ne_true)] at hq
      refine wX10_lakes_24 hd ⟨fun _ => ⟨R5.is, R5.wasRight htl (by omega) (Nat.le_refl _) (fun h6 R6 => ⟨_, rfl, ?_⟩)⟩, fun z => absurd rfl z⟩
      rw [ew] at R6 ⊢
      rw [fine_0 (by omega)]
      exact ⟨fun z => absurd rfl z, fun _ => R6.wr.mpr (hq h6 (R6.inv B9 h3 h4))⟩
    -- the lakes come
    have come : ∀ (c : Nat) (h5 : pz_H) (p : Nat) (cm ac : Nat → Int32), 0 < c → S.n + c ≤ 6 → lnS S.tx S.tl S.n 6 0 = (true, c) → RD h0 h5 m (P.sI 9 0) S.tl 41 p (-1) cm ac → (∀ q, q < c → LnV S.tx S.tl cm q) → pz_V mX10_lakes Ex Q d bc bs 91 [(0, .ref m), (1, .int (nI c)), (3, .int 0)] [] h5 := by
      intro c h5 p cm ac c0 hc es R5 hv
      rw [es, if_pos rfl] at hq
      dsimp only at hq
      obtain ⟨P5, g1, K1, e1, e2, e3, e4, e5, e6, e7, e8⟩ := R5
      have B5 : MB m P5 (S.sTl 0) := B9.text K1 (by intro k hk; simp; omega) (by intro k hk; simp; omega) e2
      suffices G : ∀ f j (h' : pz_H) (P' : pM), j + f = c → MI h0 h' m P' → Kp [1] [1, 2, 3, 4] P5 P' → P'.I 1 = nI (S.n + j) → (∀ i, i < S.n + j → P'.A 2 i = (addLs j S).br i ∧ P'.A 3 i = (addLs j S).W.lk i ∧ P'.A 4 i = (addLs j S).dn i) → NowR (S.n + j) (P'.A 1) (addLs j S).W → pz_V mX10_lakes Ex Q d bc bs 91 [(0, .ref m), (1, .int (nI c)), (3, .int (nI j))] [] h' from G c 0 h5 P5 (Nat.zero_add _) g1 Kp.rf B5.1 B5.2.1 B5.2.2.1
      intro f
      induction f with
      | zero =>
        intro j h' P' hj H' K' e1' hA hN
        have e : j = c := hj
        subst e
        obtain ⟨y1, y2, y3, y4, y5, y6, y7⟩ := addLs_q (S := S) j hc
        refine wX10_lakes_91 hd ⟨fun _ => H'.pI rfl (fun h6 H6 => (H6.gI rfl).mpr (H6.pI rfl (fun h7 H7 => hq h7 (MInv.of H7 ?_ ?_ ?_)))), fun z => absurd (nI_le (Nat.le_refl _) (by omega)) z⟩
        · obtain ⟨b1, b2, b3, b4, b5, b6, b7, b8, b9⟩ := B5
          obtain ⟨cc, k1, k2, k3⟩ := b9
          refine ⟨?_, ?_, ?_, ?_, ?_, ?_, ⟨rfl, fun k V hk => by cases hk⟩, ?_, ?_⟩
          · show P'.I 1 = nI (addLs j S).n
            rw [e1', y1]
          · show ∀ i, i < (addLs j S).n → _
            rw [y1]
            exact hA
          · show NowR (addLs j S).n (P'.A 1) (addLs j S).W
            rw [y1]
            exact hN
          · show TxB 80 (P'.A 5) (addLs j S).tx
            rw [K'.2.1 5 (by decide), y2]
            exact b4
          · show P'.I 6 = nI 0
            rw [K'.1 6 (by decide)]
            exact e2
          · show RuR m _ (addLs j S).rv
            rw [y6]
            exact b6.kp (li := [1, 22, 39]) (la := [1, 2, 3, 4]) (((K'.mono (by simp) (by simp)).sI (by simp)).sI (by simp)) (by simp) (by simp) (by simp)
          · show RgR _ (addLs j S).R
            rw [y5]
            unfold RgR
            show P'.I 33 = _ ∧ ∀ q, q < S.R.len → P'.A 17 q = _ ∧ P'.A 18 q = _ ∧ P'.A 19 q = _
            rw [K'.1 33 (by decide), K'.2.1 17 (by decide), K'.2.1 18 (by decide), K'.2.1 19 (by decide)]
            exact b8
          · show KeR _ (addLs j S).n 0 _
            rw [y1]
            refine ⟨cc + 1, ?_, ?_, fun i hi => ?_⟩
            · show P'.I 39 + 1 = _
              rw [K'.1 39 (by decide), k1, nI_1]
            · have : cc ≤ S.n := k2
              omega
            · obtain ⟨b, ci, z1, z2, z3, z4, z5⟩ := k3 i hi
              refine ⟨b, ci, ?_, ?_, by omega, ?_, fun z => by rw [Nat.zero_testBit] at z; cases z⟩
              · show P'.A 25 i = _
                rw [K'.2.1 25 (by decide)]; exact z1
              · show P'.A 26 i = _
                rw [K'.2.1 26 (by decide)]; exact z2
              · rw [Nat.zero_testBit, decide_eq_false (show ¬ ci = cc + 1 by omega), Bool.and_false]
        · exact ⟨((K'.1 27 (by decide)).trans (K1.1 27 (by decide))).trans h3.1, (K'.2.2.2.trans K1.2.2.2).trans h3.2⟩
        · show RowM _ (addLs j S).rw
          rw [y7]
          exact (h4.kp (li := [6, 9, 11, 12, 13, 14, 19]) (la := [7, 16]) ((Kp.rf.sI (by simp)).tr K1) (by decide) (by decide)).kp (li := [1, 22, 39]) (la := [1, 2, 3, 4]) (((K'.mono (by simp) (by simp)).sI (by simp)).sI (by simp)) (by decide) (by decide)
      | succ f ih =>
        intro j h' P' hj H' K' e1' hA hN
        obtain ⟨y1, y2, y3, y4, y5, y6, y7⟩ := addLs_q (S := S) j (by omega)
        have hN6 : S.n + j < 6 := by omega
        have g := ih (j + 1)
        rw [addLs, addL, if_pos (by omega), y2, y3] at g
        obtain ⟨v0, v1, v2, v3, v4⟩ := hv j (by omega)
        have e5j : (5 : Int32) * nI j = nI (5 * j) := pk_mul 5 j
        have ec : ∀ q, P'.A 7 q = cm q := fun q => by rw [K'.2.1 7 (by decide), e7]
        refine wX10_lakes_91 hd ⟨fun z => absurd z (nI_ge (by omega) (by omega)), fun _ => (H'.gR rfl).mpr ((H'.gI rfl).mpr ((H'.gR rfl).mpr ((H'.rI (j := 7) (q := 5 * j) rfl e5j (by omega)).mpr (H'.sI (j := 2) (q := S.n + j) rfl e1' (by omega) (fun ha Ha => ?_)))))⟩
        refine (Ha.gR rfl).mpr ((Ha.gI rfl).mpr ((Ha.gR rfl).mpr ((Ha.rI (j := 7) (q := 5 * j + 2) rfl (by rw [e5j]; exact nI_add _ 2) (by omega)).mpr (Ha.sI (j := 3) (q := S.n + j) rfl e1' (by omega) (fun hb Hb => ?_)))))
        refine (Hb.gR rfl).mpr ((Hb.gI rfl).mpr ((Hb.gR rfl).mpr ((Hb.rI (j := 7) (q := 5 * j + 4) rfl (by rw [e5j]; exact nI_add _ 4) (by omega)).mpr (Hb.sI (j := 4) (q := S.n + j) rfl e1' (by omega) (fun hc Hc => ?_)))))
        refine (Hc.gR rfl).mpr ((Hc.gI rfl).mpr ((Hc.gR rfl).mpr ((Hc.gI rfl).mpr ((Hc.rI (j := 2) (q := S.n + j) rfl e1' (by omega)).mpr (Hc.sI (j := 1) (q := S.n + j) rfl e1' (by omega) (fun hd2 Hd => ?_))))))
        have e6 : (6 : Int32) + P'.I 1 = nI (6 + (S.n + j)) := by rw [e1']; exact nI_add 6 _
        have e12 : (12 : Int32) + P'.I 1 = nI (12 + (S.n + j)) := by rw [e1']; exact nI_add 12 _
        have e18 : (18 : Int32) + P'.I 1 = nI (18 + (S.n + j)) := by rw [e1']; exact nI_add 18 _
        have e24 : (24 : Int32) + P'.I 1 = nI (24 + (S.n + j)) := by rw [e1']; exact nI_add 24 _
        refine (Hd.gR rfl).mpr ((Hd.gI rfl).mpr (Hd.sI (j := 1) (q := 6 + (S.n + j)) rfl e6 (by omega) (fun he He => ?_)))
        refine (He.gR rfl).mpr ((He.gI rfl).mpr (He.sI (j := 1) (q := 12 + (S.n + j)) rfl e12 (by omega) (fun hf Hf => ?_)))
        refine (Hf.gR rfl).mpr ((Hf.gI rfl).mpr ((Hf.gR rfl).mpr ((Hf.rI (j := 7) (q := 5 * j + 1) rfl (by rw [e5j]; exact nI_add _ 1) (by omega)).mpr (Hf.sI (j := 1) (q := 18 + (S.n + j)) rfl e18 (by omega) (fun hg Hg => ?_)))))
        refine (Hg.gR rfl).mpr ((Hg.gI rfl).mpr ((Hg.gR rfl).mpr ((Hg.rI (j := 7) (q := 5 * j + 3) rfl (by rw [e5j]; exact nI_add _ 3) (by omega)).mpr (Hg.sI (j := 1) (q := 24 + (S.n + j)) rfl e24 (by omega) (fun hh Hh => ?_)))))
        refine (Hh.gI rfl).mpr (Hh.pI rfl (fun hi Hi => ?_))
        rw [nI_1]
        refine g hi _ (by omega) Hi ((((((((((K'.sA (by simp)).sA (by simp)).sA (by simp)).sA (by simp)).sA (by simp)).sA (by simp)).sA (by simp)).sA (by simp))).sI (by simp)) ?_ (fun i hi2 => ?_) ?_
        · show P'.I 1 + 1 = _
          rw [e1', nI_1]
          rfl
        · show upd (P'.A 2) (S.n + j) (P'.A 7 (5 * j)) i = upd (addLs j S).br (addLs j S).n (lnBr S.tx S.tl (7 * j)) i ∧ upd (P'.A 3) (S.n + j) (P'.A 7 (5 * j + 2)) i = upd (addLs j S).W.lk (addLs j S).n (sgn S.tx S.tl 80 (7 * j + 3) - 48) i ∧ upd (P'.A 4) (S.n + j) (P'.A 7 (5 * j + 4)) i = upd (addLs j S).dn (addLs j S).n (lnDn S.tx S.tl (7 * j)) i
          rw [y1, ec, ec, ec, v0, v2, v4]
          unfold upd
          by_cases e : i = S.n + j
          · rw [if_pos e, if_pos e, if_pos e, if_pos e, if_pos e, if_pos e]
            exact ⟨rfl, rfl, rfl⟩
          · rw [if_neg e, if_neg e, if_neg e, if_neg e, if_neg e, if_neg e]
            exact hA i (by omega)
        · have := hN.grow (x1 := lnBr S.tx S.tl (7 * j)) (x2 := sgn S.tx S.tl 80 (7 * j + 2) - 48) (x3 := sgn S.tx S.tl 41 (7 * j + 4) - 97) (x4 := sgn S.tx S.tl 80 (7 * j + 3) - 48) hN6
          show NowR (S.n + j + 1) (upd (upd (upd (upd (upd (P'.A 1) (S.n + j) (upd (P'.A 2) (S.n + j) (P'.A 7 (5 * j)) (S.n + j))) (6 + (S.n + j)) 0) (12 + (S.n + j)) 0) (18 + (S.n + j)) (P'.A 7 (5 * j + 1))) (24 + (S.n + j)) (P'.A 7 (5 * j + 3))) (lnW S.tx S.tl (7 * j) (addLs j S).n (addLs j S).W)
          rw [upd_at, ec, ec, ec, v0, v1, v3, y1]
          exact this
    -- the lines, one by one
    suffices G : ∀ f k (h5 : pz_H) (cm ac : Nat → Int32), k + f = 6 → k ≤ 5 → S.n + k ≤ 6 → RD h0 h5 m (P.sI 9 0) S.tl 41 (7 * k) (-1) cm ac → (∀ q, q < k → LnV S.tx S.tl cm q) → lnS S.tx S.tl S.n 6 0 = lnS S.tx S.tl S.n f k → pz_V mX10_lakes Ex Q d bc bs 24 [(0, .ref m), (1, .int (nI k)), (2, .int 1)] [] h5 from G 6 0 hb _ _ rfl (by decide) hn Rb (fun q hq2 => absurd hq2 (Nat.not_lt_zero _)) rfl
    intro f
    induction f with
    | zero => intro k h5 cm ac h6 h7; omega
    | succ f ih =>
      intro k h5 cm ac hk hk5 hnk R5 hv es
      conv at es =>
        rhs
        rw [lnS]
      have e1 : (P.sI 9 0).I 1 + nI k = nI (S.n + k) := by rw [B9.1]; exact nI_add _ _
      refine wX10_lakes_24 hd ⟨fun z => absurd z (by decide), fun _ => ⟨R5.is, R5.wr.mpr ⟨fun z => absurd z fine_1, fun _ => R5.n.mpr ?_⟩⟩⟩
      rw [e1]
      refine ⟨fun hne => ?_, fun he => ?_⟩
      · have hlt : S.n + k < 6 := by
          rcases Nat.lt_or_ge (S.n + k) 6 with z | z
          · exact z
          · exact absurd (by rw [show S.n + k = 6 by omega]; rfl) hne
        refine ⟨R5.is, R5.line hx htl (by omega) e1 hlt (Nat.le_refl _) (fun h6 p6 w6 cm6 hp6 R6 a1 a2 => ⟨rfl, R6.is, R6.passes hx htl (by decide) (by omega) (Nat.le_refl _) (fun h7 R7 => ⟨_, rfl, ?_⟩)⟩)⟩
        rw [nI_1]
        cases el : lineF S.tx S.tl (7 * k) (S.n + k) with
        | some q =>
          rw [el] at es
          have ew := a1 q el
          subst ew
          have hq1000 : q < 1000 := by
            unfold lineF at el
            repeat (split at el; first | (cases el; omega) | skip)
            cases el
          have fz : eX10_fine (nI q) = 0 := fine_0 (by omega)
          rw [if_pos fz] at R7 ⊢
          refine bad h7 p6 q _ _ _ _ es hp6 hq1000 R7 ?_
          rw [if_pos fz]
          split <;> rfl
        | none =>
          rw [el] at es
          dsimp only at es
          obtain ⟨z1, z2, z3, z4, z5⟩ := a2 el
          subst z1 z2
          have hv6 : ∀ q, q < k + 1 → LnV S.tx S.tl cm6 q := fun q hq2 => by
            by_cases e : q = k
            · rw [e]; exact z3
            · have := hv q (by omega)
              unfold LnV at this ⊢
              rw [z4 _ (by omega), z4 _ (by omega), z4 _ (by omega), z4 _ (by omega), z4 _ (by omega)]
              exact this
          rw [if_neg fine_1] at R7 ⊢
          by_cases c59 : sgn S.tx S.tl 41 (7 * k + 6) = 59
          · rw [if_pos c59] at R7 ⊢
            have hb41 : 7 * k + 6 < S.tl ∧ 7 * k + 6 < 41 := by
              by_cases z : 7 * k + 6 < S.tl ∧ 7 * k + 6 < 41
              · exact z
              · unfold sgn at c59
                rw [if_neg z] at c59
                exact absurd c59 (by decide)
            rw [if_neg (by omega), if_neg (fun z => z c59)] at es
            exact ih (k + 1) h7 cm6 ac (by omega) (by omega) (by omega) R7 hv6 es
          · rw [if_neg c59] at R7 ⊢
            by_cases ct : S.tl = 7 * k + 6
            · rw [if_pos ct] at es
              refine wX10_lakes_24 hd ⟨fun _ => ⟨R7.is, R7.wasRight htl (by omega) (Nat.le_refl _) (fun h8 R8 => ⟨_, rfl, ?_⟩)⟩, fun z => absurd rfl z⟩
              rw [if_pos (by omega)] at R8 ⊢
              exact ⟨fun _ => come (k + 1) h8 _ cm6 ac (by omega) (by omega) es R8 hv6, fun z => absurd z fine_1⟩
            · rw [if_neg ct, if_pos c59] at es
              refine bad h7 (7 * k + 6) (7 * k + 6) _ _ _ _ es (by omega) (by omega) R7 ?_
              rw [if_neg (by omega), if_neg fine_1]
      · have h6 : S.n + k = 6 := (nI_inj' (b := 6) (by omega) (by decide)).mp he
        have el : lineF S.tx S.tl (7 * k) (S.n + k) = some (7 * k) := by
          unfold lineF
          rw [if_pos (by omega)]
        rw [el] at es
        refine R5.at_.mpr ⟨R5.is, R5.fault (Nat.le_refl _) (fun h6 R6 => ⟨rfl, R6.is, R6.passes hx htl (by decide) (by omega) (Nat.le_refl _) (fun h7 R7 => ⟨_, rfl, ?_⟩)⟩)⟩
        rw [nI_1]
        rw [if_neg fine_1] at R7 ⊢
        have fz : eX10_fine (nI (7 * k)) = 0 := fine_0 (by omega)
        rw [if_pos fz] at R7 ⊢
        refine bad h7 (7 * k) (7 * k) _ _ _ _ es (by omega) (by omega) R7 ?_
        rw [if_pos fz]
        split <;> rfl
  · have t0 : S.tl = 0 := by
      rcases Nat.eq_zero_or_pos S.tl with z | z
      · exact z
      · exact absurd hz (nI_ne0 z (by omega))
    rw [if_pos t0] at hq
    have := Rb.inv B9 h3 h4
    have es : S.sTl 0 = S := by
      obtain ⟨s1, s2, s3, s4, s5, s6, s7⟩ := S
      have : s6 = 0 := t0
      subst this
      rfl
    rw [es] at this
    exact hq hb this
end MLA
