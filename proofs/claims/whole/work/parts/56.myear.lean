/-! ===== the reference: year ===== -/
def yP (tx : Nat → Nat) (tl : Nat) : Nat → Nat
  | 0 => 0
  | i + 1 => yP tx tl i + actN (sgn tx tl 60 (yP tx tl i))
theorem actN_c (k : Int32) : (actN k = 2 ∧ (k = 99 ∨ k = 110 ∨ k = 112 ∨ k = 115)) ∨ (actN k = 3 ∧ (k = 103 ∨ k = 116)) ∨ (actN k = 0 ∧ ¬ k = 99 ∧ ¬ k = 110 ∧ ¬ k = 112 ∧ ¬ k = 115 ∧ ¬ k = 103 ∧ ¬ k = 116) := by
  have e : ∀ j : Nat, j < 200 → (k = nI j ↔ k.toInt = j) := fun j hj => by
    rw [eq_i, nI_toInt (by omega)]
  have e1 : k = 99 ↔ k.toInt = 99 := e 99 (by decide)
  have e2 : k = 110 ↔ k.toInt = 110 := e 110 (by decide)
  have e3 : k = 112 ↔ k.toInt = 112 := e 112 (by decide)
  have e4 : k = 115 ↔ k.toInt = 115 := e 115 (by decide)
  have e5 : k = 103 ↔ k.toInt = 103 := e 103 (by decide)
  have e6 : k = 116 ↔ k.toInt = 116 := e 116 (by decide)
  rw [e1, e2, e3, e4, e5, e6]
  unfold actN
  by_cases c : k.toInt = 99 ∨ k.toInt = 110 ∨ k.toInt = 112 ∨ k.toInt = 115
  · rw [if_pos c]; exact Or.inl ⟨rfl, c⟩
  · rw [if_neg c]
    by_cases c2 : k.toInt = 103 ∨ k.toInt = 116
    · rw [if_pos c2]; exact Or.inr (Or.inl ⟨rfl, c2⟩)
    · rw [if_neg c2]; exact Or.inr (Or.inr ⟨rfl, by omega⟩)
/-- an act as the text tells it, at p -/
def VA (tx : Nat → Nat) (tl p : Nat) : Prop := ¬ actN (sgn tx tl 60 p) = 0 ∧ ¬ eX9_isDigit (sgn tx tl 60 (p + 1)) = 0 ∧ (sgn tx tl 60 p = 103 → ¬ eX9_isKingSign (sgn tx tl 60 (p + 2)) = 0) ∧ (sgn tx tl 60 p = 116 → ¬ eX9_isDigit (sgn tx tl 60 (p + 2)) = 0)
def AcV (tx : Nat → Nat) (tl : Nat) (ac : Nat → Int32) (k p : Nat) : Prop := ac k = sgn tx tl 60 p ∧ ac (k + 1) = sgn tx tl 60 (p + 1) - 48 ∧ (sgn tx tl 60 p = 103 → ac (k + 2) = sgn tx tl 60 (p + 2) - 97) ∧ (sgn tx tl 60 p = 116 → ac (k + 2) = sgn tx tl 60 (p + 2) - 48)
theorem sgn_lt {tx : Nat → Nat} {tl lim p : Nat} (h : ¬ sgn tx tl lim p = -1) : p < tl ∧ p < lim := by
  by_cases c : p < tl ∧ p < lim
  · exact c
  · unfold sgn at h
    rw [if_neg c] at h
    exact absurd rfl h
theorem sgn_80 {tx : Nat → Nat} {tl p : Nat} (h : ¬ sgn tx tl 60 p = -1) : sgn tx tl 80 p = sgn tx tl 60 p := by
  have := sgn_lt h
  unfold sgn
  rw [if_pos this, if_pos (by omega)]
section MYE
variable {Ex : State → Nat → Prop} {Q : Option Value → pz_H → Prop} {d bc bs : Nat} {h0 h h' : pz_H} {m : Nat} {S : pS} {oT : Option pW} {T : pW} {lo lm : Int32} {rw : List Int64} {zz : pX}
variable {P P0 : pM} {le : Nat} {cm ac : Nat → Int32} {tx : Nat → Nat}
theorem RD.act {p k : Nat} (R : RD h0 h m P0 le 60 p (-1) cm ac) (hx : TxB le (P0.A 5) tx) (hle : le ≤ 80) (hp : p < 1000) (hk : k + 2 < 240) (hd : 3 ≤ d)
    (hq : ∀ h' p' w' ac', p' < 1010 → RD h0 h' m P0 le 60 p' w' cm ac' → (∀ j, j < k → ac' j = ac j) →
      (actN (sgn tx le 60 p) = 0 → w' = nI p) → (¬ actN (sgn tx le 60 p) = 0 → eX9_isDigit (sgn tx le 60 (p + 1)) = 0 → w' = nI (p + 1)) →
      (¬ actN (sgn tx le 60 p) = 0 → ¬ eX9_isDigit (sgn tx le 60 (p + 1)) = 0 → (sgn tx le 60 p = 103 ∧ eX9_isKingSign (sgn tx le 60 (p + 2)) = 0 ∨ sgn tx le 60 p = 116 ∧ eX9_isDigit (sgn tx le 60 (p + 2)) = 0) → w' = nI (p + 2)) →
      (VA tx le p → w' = -1 ∧ p' = p + actN (sgn tx le 60 p) ∧ AcV tx le ac' k p) → Q none h') :
    pz_V mX10_readAct Ex Q d bc bs 0 [(0, .ref m), (1, .int (nI k))] [] h := by
  -- behind a kind that is one
  have body : ¬ actN (sgn tx le 60 p) = 0 → pz_V mX10_readAct Ex Q d bc bs 50 [(0, .ref m), (1, .int (nI k)), (2, .int (sgn tx le 60 p))] [] h := by
    intro hk0
    refine wX10_readAct_50 hd (R.at_.mpr (R.s13 (nI_1 p) (fun h1 R1 => (R1.g rfl).mpr (R1.sAc (q := k) rfl (by omega) (fun h2 R2 => (R2.g rfl).mpr ⟨R2.is, R2.one (c := 48) (k := 10) hx hle (by decide) (by omega) (by decide) (Nat.le_refl _) (fun h3 R3 => ⟨_, rfl, R3.sAc (q := k + 1) (nI_add k 1) (by omega) (fun h4 R4 => ?_)⟩)⟩)))))
    by_cases c1 : eX9_isDigit (sgn tx le 60 (p + 1)) = 0
    · -- the digit is wrong
      rw [rdO_b (by rw [digit_in]; exact c1)] at R4
      dsimp only at R4
      have fz : eX10_fine (nI (p + 1)) = 0 := fine_0 (by omega)
      have out : ∀ h' p' (ac' : Nat → Int32), p' < 1010 → RD h0 h' m P0 le 60 p' (nI (p + 1)) cm ac' → (∀ j, j < k → ac' j = ac j) → Q none h' := fun h' p' ac' a1 a2 a3 => hq h' p' _ ac' a1 a2 a3 (fun z => absurd z hk0) (fun _ _ => rfl) (fun _ z => absurd c1 z) (fun z => absurd c1 z.2.1)
      refine ⟨fun _ => ⟨fun _ => out h4 _ _ (by omega) R4 (fun j hj => by rw [upd_ne (by omega), upd_ne (by omega)]), fun _ => (R4.g rfl).mpr ⟨R4.is, R4.one (c := 97) (k := 4) hx hle (by decide) (by omega) (by decide) (Nat.le_refl _) (fun h5 R5 => ⟨_, rfl, ?_⟩)⟩⟩, fun z => (R4.g rfl).mpr ⟨R4.is, R4.one (c := 48) (k := 10) hx hle (by decide) (by omega) (by decide) (Nat.le_refl _) (fun h5 R5 => ⟨_, rfl, ?_⟩)⟩⟩
      · rw [rdO_q fz] at R5 ⊢
        exact R5.sAc (q := k + 2) (nI_add k 2) (by omega) (fun h6 R6 => out h6 _ _ (by omega) R6 (fun j hj => by rw [upd_ne (by omega), upd_ne (by omega), upd_ne (by omega)]))
      · rw [rdO_q fz] at R5 ⊢
        exact R5.sAc (q := k + 2) (nI_add k 2) (by omega) (fun h6 R6 => ⟨fun _ => out h6 _ _ (by omega) R6 (fun j hj => by rw [upd_ne (by omega), upd_ne (by omega), upd_ne (by omega)]), fun y => by rw [z] at y; exact absurd y (by decide)⟩)
    · rw [rdO_y (by rw [digit_in]; exact c1)] at R4
      dsimp only at R4
      rw [show p + 1 + 1 = p + 2 from rfl] at R4
      have ea : ∀ (f : Nat → Int32) (x : Int32), upd (upd (upd ac k (sgn tx le 60 p)) (k + 1) (sgn tx le 60 (p + 1) - nI 48)) (k + 2) x k = sgn tx le 60 p := fun f x => by rw [upd_ne (by omega), upd_ne (by omega), upd_at]
      refine ⟨fun n1 => ⟨fun n2 => ?_, fun y2 => (R4.g rfl).mpr ⟨R4.is, R4.one (c := 97) (k := 4) hx hle (by decide) (by omega) (by decide) (Nat.le_refl _) (fun h5 R5 => ⟨_, rfl, ?_⟩)⟩⟩, fun y1 => (R4.g rfl).mpr ⟨R4.is, R4.one (c := 48) (k := 10) hx hle (by decide) (by omega) (by decide) (Nat.le_refl _) (fun h5 R5 => ⟨_, rfl, ?_⟩)⟩⟩
      · -- two signs
        have a2 : actN (sgn tx le 60 p) = 2 := by
          rcases actN_c (sgn tx le 60 p) with z | z | z
          · exact z.1
          · exact absurd z.2 (fun y => y.elim n2 n1)
          · exact absurd z.1 hk0
        refine hq h4 _ _ _ (by omega) R4 (fun j hj => by rw [upd_ne (by omega), upd_ne (by omega)]) (fun z => absurd z hk0) (fun _ z => absurd z c1) (fun _ _ z => z.elim (fun y => absurd y.1 n2) (fun y => absurd y.1 n1)) (fun _ => ⟨rfl, by rw [a2], ?_, ?_, fun z => absurd z n2, fun z => absurd z n1⟩)
        · rw [upd_ne (by omega), upd_at]
        · rw [upd_at]; rfl
      · -- a king
        have a3 : actN (sgn tx le 60 p) = 3 := by rw [y2]; decide
        by_cases c2 : eX9_isKingSign (sgn tx le 60 (p + 2)) = 0
        · rw [rdO_b (by rw [king_in]; exact c2)] at R5 ⊢
          exact R5.sAc (q := k + 2) (nI_add k 2) (by omega) (fun h6 R6 => hq h6 _ _ _ (by dsimp only; omega) R6 (fun j hj => by rw [upd_ne (by omega), upd_ne (by omega), upd_ne (by omega)]) (fun z => absurd z hk0) (fun _ z => absurd z c1) (fun _ _ _ => rfl) (fun z => absurd c2 (z.2.2.1 y2)))
        · rw [rdO_y (by rw [king_in]; exact c2)] at R5 ⊢
          refine R5.sAc (q := k + 2) (nI_add k 2) (by omega) (fun h6 R6 => hq h6 _ _ _ (by dsimp only; omega) R6 (fun j hj => by rw [upd_ne (by omega), upd_ne (by omega), upd_ne (by omega)]) (fun z => absurd z hk0) (fun _ z => absurd z c1) (fun _ _ z => z.elim (fun y => absurd y.2 c2) (fun y => absurd y.1 n1)) (fun _ => ⟨rfl, by rw [a3], ?_, ?_, fun _ => ?_, fun z => absurd z n1⟩))
          · rw [upd_ne (by omega), upd_ne (by omega), upd_at]
          · rw [upd_ne (by omega), upd_at]; rfl
          · rw [upd_at]; rfl
      · -- a tap
        have a3 : actN (sgn tx le 60 p) = 3 := by rw [y1]; decide
        have n2 : ¬ sgn tx le 60 p = 103 := fun z => by rw [y1] at z; exact absurd z (by decide)
        by_cases c2 : eX9_isDigit (sgn tx le 60 (p + 2)) = 0
        · rw [rdO_b (by rw [digit_in]; exact c2)] at R5 ⊢
          exact R5.sAc (q := k + 2) (nI_add k 2) (by omega) (fun h6 R6 => ⟨fun _ => hq h6 _ _ _ (by dsimp only; omega) R6 (fun j hj => by rw [upd_ne (by omega), upd_ne (by omega), upd_ne (by omega)]) (fun z => absurd z hk0) (fun _ z => absurd z c1) (fun _ _ _ => rfl) (fun z => absurd c2 (z.2.2.2 y1)), fun y => absurd y n2⟩)
        · rw [rdO_y (by rw [digit_in]; exact c2)] at R5 ⊢
          refine R5.sAc (q := k + 2) (nI_add k 2) (by omega) (fun h6 R6 => ⟨fun _ => hq h6 _ _ _ (by dsimp only; omega) R6 (fun j hj => by rw [upd_ne (by omega), upd_ne (by omega), upd_ne (by omega)]) (fun z => absurd z hk0) (fun _ z => absurd z c1) (fun _ _ z => z.elim (fun y => absurd y.1 n2) (fun y => absurd y.2 c2)) (fun _ => ⟨rfl, by rw [a3], ?_, ?_, fun z => absurd z n2, fun _ => ?_⟩), fun y => absurd y n2⟩)
          · rw [upd_ne (by omega), upd_ne (by omega), upd_at]
          · rw [upd_ne (by omega), upd_at]; rfl
          · rw [upd_at]; rfl
  refine wX10_readAct_0 hd ⟨R.is, R.here hx hle (by decide) (by omega) ⟨_, rfl, ?_⟩⟩
  rcases actN_c (sgn tx le 60 p) with z | z | z
  · have bd := body (by omega)
    refine ⟨fun _ => bd, fun n1 => ⟨fun _ => bd, fun n2 => ⟨fun _ => bd, fun n3 => ⟨fun _ => bd, fun n4 => ?_⟩⟩⟩⟩
    rcases z.2 with y | y | y | y
    · exact absurd y n4
    · exact absurd y n1
    · exact absurd y n2
    · exact absurd y n3
  · have bd := body (by omega)
    refine ⟨fun _ => bd, fun n1 => ⟨fun _ => bd, fun n2 => ⟨fun _ => bd, fun n3 => ⟨fun _ => bd, fun n4 => ⟨fun _ => bd, fun n5 => ⟨fun _ => bd, fun n6 => ?_⟩⟩⟩⟩⟩⟩
    rcases z.2 with y | y
    · exact absurd y n6
    · exact absurd y n5
  · obtain ⟨z0, z1, z2, z3, z4, z5, z6⟩ := z
    refine ⟨fun y => absurd y z2, fun _ => ⟨fun y => absurd y z3, fun _ => ⟨fun y => absurd y z4, fun _ => ⟨fun y => absurd y z1, fun _ => ⟨fun y => absurd y z6, fun _ => ⟨fun y => absurd y z5, fun _ => R.at_.mpr ⟨R.is, R.fault (Nat.le_refl _) (fun h1 R1 => ⟨rfl, ?_⟩)⟩⟩⟩⟩⟩⟩⟩
    rw [if_neg fine_1] at R1
    exact hq h1 p _ ac (by omega) R1 (fun _ _ => rfl) (fun _ => rfl) (fun y => absurd z0 y) (fun y => absurd z0 y) (fun y => absurd z0 y.1)
/-- an act done -/
theorem m_act {kind a b : Int32} (H : MI h0 h m P) (B : MB m P S) (h3 : P.I 27 = -1) (O : SOk S) (hk : ¬ actN kind = 0) (ha : ∃ j, j < 10 ∧ a = nI j) (hb1 : kind = 103 → ∃ j, j < 4 ∧ b = nI j) (hb2 : kind = 116 → ∃ j, j < 10 ∧ b = nI j) (hd : 84 ≤ d)
    (hno : (actW S.rv S.br S.dn S.n kind a b S.W).1 < 0 → Q (some (.int 0)) h) (hyes : ¬ (actW S.rv S.br S.dn S.n kind a b S.W).1 < 0 → ∀ h' P', MI h0 h' m P' → MB m P' (S.sW (actW S.rv S.br S.dn S.n kind a b S.W).2) → Kp [10, 11, 12, 13, 14, 19] [10, 14, 15, 1] P P' → Q (some (.int 1)) h') :
    pz_V mX10_act Ex Q d bc bs 0 [(0, .ref m), (1, .int kind), (2, .int a), (3, .int b)] [] h := by
  have hn := O.1
  have hR := O.2.2.1.2.1
  have hD := O.2.2.2.2.1
  have ho := O.2.2.1.2.2.1
  have t99 : (99 : Int32).toInt = 99 := by decide
  have t110 : (110 : Int32).toInt = 110 := by decide
  have t112 : (112 : Int32).toInt = 112 := by decide
  have t115 : (115 : Int32).toInt = 115 := by decide
  have t103 : (103 : Int32).toInt = 103 := by decide
  have t116 : (116 : Int32).toInt = 116 := by decide
  -- the plugs
  have plug : ∀ (out : Int32), (kind = 112 ∧ out = 1 ∨ kind = 115 ∧ out = 0) → pz_is h m 10 ∧ (pz_ki mX10_refusesPlug 2 0 0 (.ref m :: [.int a, .int out]) h (fun (x8 : Int32) (h7 : pz_H) => (0 ≤ x8 → pz_gR h7 m 10 0 (fun (a9 : Nat) => (¬ kind = ((112 : Int32)) → pz_sI h7 a9 (((6 : Int32)) + a) 0 (fun (h10 : pz_H) => Q (some (.int 1)) h10)) ∧ (kind = ((112 : Int32)) → pz_sI h7 a9 (((6 : Int32)) + a) 1 (fun (h11 : pz_H) => Q (some (.int 1)) h11)))) ∧ (¬ 0 ≤ x8 → Q (some (.int 0)) h7))) := by
    intro out hko
    have spec : actW S.rv S.br S.dn S.n kind a b S.W = if eX1_has a (nI S.n) = 0 then (-1, S.W) else if (if S.W.ou.testBit a.toNatClampNeg then (1 : Int32) else 0) = out then (-2, S.W) else (nI (popc (S.W.ou ^^^ 2 ^ a.toNatClampNeg)), S.W.sOu (S.W.ou ^^^ 2 ^ a.toNatClampNeg)) := by
      unfold actW
      rcases hko with ⟨e1, e2⟩ | ⟨e1, e2⟩
      · subst e1 e2
        rw [if_neg (by decide), if_pos t112]
        cases S.W.ou.testBit a.toNatClampNeg <;> simp
      · subst e1 e2
        rw [if_neg (by decide), if_neg (show ¬ (115 : Int32).toInt = 112 by decide), if_pos t115]
        cases S.W.ou.testBit a.toNatClampNeg <;> simp
    rw [spec] at hno hyes
    refine ⟨H.is, wX10_refusesPlug_0 (Nat.le_refl _) ⟨H.is, (H.gI rfl).mpr ?_⟩⟩
    rw [B.1, isLake_eq hn]
    refine ⟨fun hc => ?_, fun hc => ⟨_, rfl, ⟨fun z => absurd z (by decide), fun _ => by rw [if_pos hc] at hno; exact hno (show (-1 : Int32) < 0 by decide)⟩⟩⟩
    rw [if_neg hc] at hno hyes
    obtain ⟨i, hi, rfl⟩ := (has_0 hn).mp hc
    rw [clamp (by omega)] at hno hyes
    refine (H.gR rfl).mpr ((H.rI (j := 1) (i := 6 + nI i) (q := 6 + i) rfl (nI_add 6 i) (by omega)).mpr ?_)
    rw [(B.2.2.1.1 i hi).2.1]
    refine ⟨fun hx => ⟨_, rfl, ⟨fun _ => (H.gR rfl).mpr ?_, fun z => absurd (by decide) z⟩⟩, fun hx => ⟨_, rfl, ⟨fun z => absurd z (by decide), fun _ => by rw [if_pos hx] at hno; exact hno (show (-2 : Int32) < 0 by decide)⟩⟩⟩
    rw [if_neg hx] at hyes
    have hy := hyes (nI_popc _)
    have hlt : S.W.ou ^^^ 2 ^ i < 2 ^ S.n := Nat.xor_lt_two_pow ho (Nat.pow_lt_pow_right (by decide) hi)
    have st : ∀ h7, MI h0 h7 m (P.sA 1 (upd (P.A 1) (6 + i) out)) → Q (some (.int 1)) h7 := fun h7 H7 => by
      refine hy h7 _ H7 (B.now (B.2.2.1.sOu (o := S.W.ou ^^^ 2 ^ i) hn hi hlt ?_ (fun q hq => ?_)) (fun _ _ => rfl)) (Kp.rf.sA (by simp))
      · rw [Nat.testBit_xor, Nat.testBit_two_pow]
        rcases hko with ⟨e1, e2⟩ | ⟨e1, e2⟩
        · rw [e2] at hx ⊢
          cases hb : S.W.ou.testBit i
          · simp
          · rw [hb] at hx; exact absurd rfl hx
        · rw [e2] at hx ⊢
          cases hb : S.W.ou.testBit i
          · rw [hb] at hx; exact absurd rfl hx
          · simp
      · show (S.W.ou ^^^ 2 ^ i).testBit q = S.W.ou.testBit q
        rw [Nat.testBit_xor, Nat.testBit_two_pow]
        simp [show ¬ i = q by omega]
    rcases hko with ⟨e1, e2⟩ | ⟨e1, e2⟩
    · rw [e2] at st
      exact ⟨fun z => absurd e1 z, fun _ => H.sI (j := 1) (i := 6 + nI i) (q := 6 + i) rfl (nI_add 6 i) (by omega) st⟩
    · rw [e2] at st
      exact ⟨fun _ => H.sI (j := 1) (i := 6 + nI i) (q := 6 + i) rfl (nI_add 6 i) (by omega) st, fun z => by rw [e1] at z; exact absurd z (by decide)⟩
  refine wX10_act_0 hd ⟨fun e => ?_, fun e => ?_, fun e => ?_, fun e => ?_, fun e => ?_⟩
  · -- combs
    have ek : kind = 99 := eq_i.mpr (e.trans t99.symm)
    subst ek
    have spec : actW S.rv S.br S.dn S.n 99 a b S.W = if eX1_has a (nI S.n) = 0 then (-1, S.W) else if S.W.hr a.toNatClampNeg = 0 then (-2, S.W) else (S.W.hr a.toNatClampNeg, S.W.sHr (upd S.W.hr a.toNatClampNeg 0)) := by
      unfold actW
      rw [if_neg (by decide), if_neg (show ¬ (99 : Int32).toInt = 112 by decide), if_neg (show ¬ (99 : Int32).toInt = 115 by decide), if_pos t99]
    rw [spec] at hno hyes
    refine ⟨H.is, wX10_refusesComb_0 (Nat.le_refl _) ⟨H.is, (H.gI rfl).mpr ?_⟩⟩
    rw [B.1, isLake_eq hn]
    refine ⟨fun hc => ?_, fun hc => ⟨_, rfl, ⟨fun z => absurd z (by decide), fun _ => by rw [if_pos hc] at hno; exact hno (show (-1 : Int32) < 0 by decide)⟩⟩⟩
    rw [if_neg hc] at hno hyes
    obtain ⟨i, hi, rfl⟩ := (has_0 hn).mp hc
    rw [clamp (by omega)] at hno hyes
    refine (H.gR rfl).mpr ((H.rI (j := 1) (i := 12 + nI i) (q := 12 + i) rfl (nI_add 12 i) (by omega)).mpr ?_)
    rw [(B.2.2.1.1 i hi).2.2.1]
    refine ⟨fun hx => ⟨_, rfl, ⟨fun _ => (H.gR rfl).mpr (H.sI (j := 1) (i := 12 + nI i) (q := 12 + i) rfl (nI_add 12 i) (by omega) (fun h7 H7 => ?_)), fun z => absurd (by decide) z⟩⟩, fun hx => ⟨_, rfl, ⟨fun z => absurd z (by decide), fun _ => by rw [if_pos hx] at hno; exact hno (show (-2 : Int32) < 0 by decide)⟩⟩⟩
    rw [if_neg hx] at hyes
    exact hyes (i0le (hR i hi).2.2.2.2) h7 _ H7 (B.now (B.2.2.1.sHr hn hi) (fun _ _ => rfl)) (Kp.rf.sA (by simp))
  · -- days
    have ek : kind = 110 := eq_i.mpr (e.trans t110.symm)
    subst ek
    obtain ⟨j, hj, rfl⟩ := ha
    have wi : ¬ eX9_isWithin (nI j) 0 60 = 0 := (within_0 (hi := 60) (by decide)).mpr ⟨j, by omega, rfl⟩
    have spec : actW S.rv S.br S.dn S.n 110 (nI j) b S.W = (sumI (daysW S.rv S.br S.dn S.n j S.W).lv S.n, daysW S.rv S.br S.dn S.n j S.W) := by
      unfold actW
      rw [if_pos t110, if_neg wi, clamp (by omega)]
    rw [spec] at hno hyes
    have bs_ : Bt (sumI (daysW S.rv S.br S.dn S.n j S.W).lv S.n) 0 594 := (sumI_Bt hn (fun i hi => (hR.days (rv := S.rv) (dn := S.dn) hn j).lv hi) S.n (Nat.le_refl _)).mono (by omega) (by omega)
    exact (H.gR rfl).mpr ⟨H.is, m_ndays H B h3 hn hD hR (by omega) (Nat.le_refl _) (fun h5 P5 H5 B5 K5 => ⟨rfl, hyes (i0le bs_) h5 P5 H5 B5 K5⟩)⟩
  · have ek : kind = 112 := eq_i.mpr (e.trans t112.symm)
    exact ⟨fun z => absurd ek z, fun _ => plug 1 (Or.inl ⟨ek, rfl⟩)⟩
  · have ek : kind = 115 := eq_i.mpr (e.trans t115.symm)
    exact ⟨fun _ => plug 0 (Or.inr ⟨ek, rfl⟩), fun z => by rw [ek] at z; exact absurd z (by decide)⟩
  · -- taps, gives
    obtain ⟨e1, e2, e3, e4⟩ := e
    have kk : kind = 103 ∨ kind = 116 := by
      rcases actN_c kind with z | z | z
      · rcases z.2 with y | y | y | y
        · rw [y] at e1; exact absurd t99 e1
        · rw [y] at e2; exact absurd t110 e2
        · rw [y] at e3; exact absurd t112 e3
        · rw [y] at e4; exact absurd t115 e4
      · exact z.2
      · exact absurd z.1 hk
    refine ⟨fun n116 => ?_, fun y116 => ?_⟩
    · have ek : kind = 103 := kk.resolve_right n116
      subst ek
      obtain ⟨v, hv, rfl⟩ := hb1 rfl
      have w1 : ¬ eX9_isKing (nI v) = 0 := king_0.mpr ⟨v, hv, rfl⟩
      have w2 : ¬ eX9_isWithin (nI v) 0 9 = 0 := (within_0 (hi := 9) (by decide)).mpr ⟨v, by omega, rfl⟩
      have spec : actW S.rv S.br S.dn S.n 103 a (nI v) S.W = if eX1_has a (nI S.n) = 0 then (-1, S.W) else if S.W.kg a.toNatClampNeg = nI v then (-2, S.W) else (10 + S.W.kg a.toNatClampNeg, S.W.sKg (upd S.W.kg a.toNatClampNeg (nI v))) := by
        unfold actW
        rw [if_neg (by decide), if_neg (show ¬ (103 : Int32).toInt = 112 by decide), if_neg (show ¬ (103 : Int32).toInt = 115 by decide), if_neg (show ¬ (103 : Int32).toInt = 99 by decide), if_neg (show ¬ (103 : Int32).toInt = 116 by decide), if_pos t103, if_neg w1]
      rw [spec] at hno hyes
      refine ⟨H.is, wX10_refusesCell_0 (Nat.le_refl _) ⟨H.is, (H.gI rfl).mpr ?_⟩⟩
      rw [B.1, isLake_eq hn, in_eq]
      refine ⟨fun hc => ⟨_, rfl, ⟨fun z => absurd z (by decide), fun _ => by rw [if_pos hc] at hno; exact hno (show (-1 : Int32) < 0 by decide)⟩⟩, fun hc => ⟨fun _ => ?_, fun z => absurd z w2⟩⟩
      rw [if_neg hc] at hno hyes
      obtain ⟨i, hi, rfl⟩ := (has_0 hn).mp hc
      rw [clamp (by omega)] at hno hyes
      refine (H.gR rfl).mpr ((H.rI (j := 1) (i := 24 + nI i) (q := 24 + i) rfl (nI_add 24 i) (by omega)).mpr ?_)
      rw [(B.2.2.1.1 i hi).2.2.2.2]
      refine ⟨fun hx => ⟨_, rfl, ⟨fun _ => (H.gR rfl).mpr (H.sI (j := 1) (i := 24 + nI i) (q := 24 + i) rfl (nI_add 24 i) (by omega) (fun h7 H7 => ?_)), fun z => absurd (by decide) z⟩⟩, fun hx => ⟨_, rfl, ⟨fun z => absurd z (by decide), fun _ => by rw [if_pos hx] at hno; exact hno (show (-2 : Int32) < 0 by decide)⟩⟩⟩
      rw [if_neg hx] at hyes
      obtain ⟨k2, hk2, e2⟩ := (O.2.2.1.2.2.2 i hi).2.2
      exact hyes (by dsimp only; rw [e2]; exact ten_ge (b := 3) ((Bt.lit (by omega)).mono (by omega) (by omega)) (by decide)) h7 _ H7 (B.now (B.2.2.1.sKg hn hi) (fun _ _ => rfl)) (Kp.rf.sA (by simp))
    · subst y116
      obtain ⟨v, hv, rfl⟩ := hb2 rfl
      have w2 : ¬ eX9_isWithin (nI v) 0 9 = 0 := (within_0 (hi := 9) (by decide)).mpr ⟨v, by omega, rfl⟩
      have spec : actW S.rv S.br S.dn S.n 116 a (nI v) S.W = if eX1_has a (nI S.n) = 0 then (-1, S.W) else if S.W.tp a.toNatClampNeg = nI v then (-2, S.W) else (10 + S.W.tp a.toNatClampNeg, S.W.sTp (upd S.W.tp a.toNatClampNeg (nI v))) := by
        unfold actW
        rw [if_neg (by decide), if_neg (show ¬ (116 : Int32).toInt = 112 by decide), if_neg (show ¬ (116 : Int32).toInt = 115 by decide), if_neg (show ¬ (116 : Int32).toInt = 99 by decide), if_pos t116, if_neg w2]
      rw [spec] at hno hyes
      refine ⟨H.is, wX10_refusesCell_0 (Nat.le_refl _) ⟨H.is, (H.gI rfl).mpr ?_⟩⟩
      rw [B.1, isLake_eq hn, in_eq]
      refine ⟨fun hc => ⟨_, rfl, ⟨fun z => absurd z (by decide), fun _ => by rw [if_pos hc] at hno; exact hno (show (-1 : Int32) < 0 by decide)⟩⟩, fun hc => ⟨fun _ => ?_, fun z => absurd z w2⟩⟩
      rw [if_neg hc] at hno hyes
      obtain ⟨i, hi, rfl⟩ := (has_0 hn).mp hc
      rw [clamp (by omega)] at hno hyes
      refine (H.gR rfl).mpr ((H.rI (j := 1) (i := 18 + nI i) (q := 18 + i) rfl (nI_add 18 i) (by omega)).mpr ?_)
      rw [(B.2.2.1.1 i hi).2.2.2.1]
      refine ⟨fun hx => ⟨_, rfl, ⟨fun _ => (H.gR rfl).mpr (H.sI (j := 1) (i := 18 + nI i) (q := 18 + i) rfl (nI_add 18 i) (by omega) (fun h7 H7 => ?_)), fun z => absurd (by decide) z⟩⟩, fun hx => ⟨_, rfl, ⟨fun z => absurd z (by decide), fun _ => by rw [if_pos hx] at hno; exact hno (show (-2 : Int32) < 0 by decide)⟩⟩⟩
      rw [if_neg hx] at hyes
      exact hyes (ten_ge (hR i hi).2.2.1 (by decide)) h7 _ H7 (B.now (B.2.2.1.sTp hn hi) (fun _ _ => rfl)) (Kp.rf.sA (by simp))
theorem M_year (H : MInv h0 h m S) (O : SOk S) (hd : 85 ≤ d) (hq : ∀ h', MInv h0 h' m (o_year S).2 → Q (some (.int (o_year S).1)) h') : pz_V mX10_year Ex Q d bc bs 0 [(0, .ref m)] [] h := by
  obtain ⟨t, P, h1, h2, h3, h4, -⟩ := H
  have B9 := h2.s9 (v := 0)
  have htl := O.2.1
  have hn := O.1
  have hx : TxB S.tl ((P.sI 9 0).A 5) S.tx := B9.2.2.2.1.le htl
  unfold o_year at hq
  -- the acts, done one by one
  have doit : ∀ (N : Nat) (h5 : pz_H) (P5 : pM), N ≤ 40 → S.tl ≤ yP S.tx S.tl N → (∀ j, j < N → yP S.tx S.tl j < S.tl ∧ VA S.tx S.tl (yP S.tx S.tl j) ∧ AcV S.tx S.tl (P5.A 16) (3 * j) (yP S.tx S.tl j)) → yrF S.tx S.tl 61 0 = none → MI h0 h5 m P5 → MB m P5 (S.sTl 0) → (P5.I 27 = -1 ∧ P5.ru = gh h0 m) → RowM P5 S.rw → NowR S.n (P5.A 12) S.W → pz_V mX10_year Ex Q d bc bs 72 [(0, .ref m), (1, .int (nI N)), (2, .int 0)] [] h5 := by
    intro N h5 P5 hN hend hac hyf H5 B5 e5 R5 N5
    rw [hyf] at hq
    dsimp only at hq
    -- behind it all
    have fin : ∀ (c : Nat) (W' : pW) (b : Bool) (h6 : pz_H) (P6 : pM), c ≤ N → (b = true ↔ c < N) → yrX S.rv S.br S.dn S.n S.tx S.tl 60 0 S.W 0 = (c, b, W') → MI h0 h6 m P6 → MB m P6 ((S.sTl 0).sW W') → Kp [10, 11, 12, 13, 14, 19] [10, 14, 15, 1] P5 P6 → (c = 0 → ∀ h7, MW h0 h7 m ((S.sTl 0).sW W') (scr P6) none (-1) (P6.I 28) S.rw → True) →
        ((nI c ≤ 0 → pz_V mX10_year Ex Q d bc bs 130 [(0, .ref m), (1, .int (nI N)), (2, .int (nI c))] [] h6) ∧ (¬ nI c ≤ 0 → pz_gR h6 m 10 23 (fun (a1 : Nat) => pz_is h6 m 10 ∧ (pz_kv mX10_remember 1 0 0 (.ref m :: [.ref a1]) h6 (fun (h2 : pz_H) => pz_V mX10_year Ex Q d bc bs 130 [(0, .ref m), (1, .int (nI N)), (2, .int (nI c))] [] h2))))) := by
      intro c W' b h6 P6 hc hb er H6 B6 K6 _
      rw [er] at hq
      unfold yrE at hq
      dsimp only at hq
      have last : ∀ (S' : pS) (h7 : pz_H) (P7 : pM), MI h0 h7 m P7 → MB m P7 S' → (P7.I 27 = -1 ∧ P7.ru = gh h0 m) → RowM P7 S.rw → S'.n = S.n → S'.W = W' → (∀ h', MInv h0 h' m (S'.sRw [if b = true then 1 else 0, (sumI W'.lv S.n).toInt64]) → Q (some (.int (nI c))) h') → pz_V mX10_year Ex Q d bc bs 130 [(0, .ref m), (1, .int (nI N)), (2, .int (nI c))] [] h7 := by
        intro S' h7 P7 H7 B7 e7 R7 eN eW hq7
        have W7 : MW h0 h7 m S' (scr P7) none (-1) (P7.I 28) S.rw := ⟨P7, H7, B7, trivial, e7.1, rfl, R7, rfl, e7.2⟩
        have sm : ∀ {Q : Option Value → pz_H → Prop} {h8 : pz_H} {rw8 : List Int64}, MW h0 h8 m S' (scr P7) none (-1) (P7.I 28) rw8 → Q (some (.int (sumI W'.lv S.n))) h8 → pz_V mX10_sumOf pz_T Q 0 0 0 0 [(0, .ref m), (1, .ref (m + 1)), (2, .int 0)] [] h8 := by
          intro Q h8 rw8 W8 hQ
          obtain ⟨P8, a1, a2, -⟩ := W8
          refine m_sumOf (j := 1) (N := 33) (o := 0) (n := S.n) a1 rfl (by rw [← eN]; exact a2.1) (by omega) ?_
          have a3 := a2.2.2.1.1
          rw [eN, eW] at a3
          rw [sumI_congr (g := W'.lv) (fun i hi => by rw [Nat.zero_add]; exact (a3 i hi).1)]
          exact hQ
        refine wX10_year_130 hd (W7.row0 (fun h8 W8 => ⟨fun hle => ?_, fun hle => ?_⟩))
        · have bf : b = false := by
            cases b
            · rfl
            · have := hb.mp rfl
              exact absurd hle (nI_ge this (by omega))
          subst bf
          exact ⟨W8.is, W8.tell (by decide) (fun h9 W9 => ⟨rfl, (W9.g rfl).mpr ⟨W9.is, sm W9 ⟨_, rfl, W9.is, W9.tell (by simp) (fun h10 W10 => ⟨rfl, hq7 h10 W10.inv⟩)⟩⟩⟩)⟩
        · have bt : b = true := hb.mpr (by
            rcases Nat.lt_or_ge c N with z | z
            · exact z
            · exact absurd (nI_le z (by omega)) hle)
          subst bt
          exact ⟨W8.is, W8.tell (by decide) (fun h9 W9 => ⟨rfl, (W9.g rfl).mpr ⟨W9.is, sm W9 ⟨_, rfl, W9.is, W9.tell (by simp) (fun h10 W10 => ⟨rfl, hq7 h10 W10.inv⟩)⟩⟩⟩)⟩
      have e6 : P6.I 27 = -1 ∧ P6.ru = gh h0 m := ⟨(K6.1 27 (by decide)).trans e5.1, K6.2.2.2.trans e5.2⟩
      have R6 : RowM P6 S.rw := R5.kp K6 (by decide) (by decide)
      refine ⟨fun hz => ?_, fun hz => ?_⟩
      · have c0 : c = 0 := by
          rcases Nat.eq_zero_or_pos c with z | z
          · exact z
          · exact absurd hz (nI_nle z (by omega))
        rw [if_pos c0] at hq
        exact last ((S.sTl 0).sW W') h6 P6 H6 B6 e6 R6 rfl rfl hq
      · have c0 : ¬ c = 0 := fun z => hz (by rw [z]; decide)
        rw [if_neg c0] at hq
        refine (H6.gR rfl).mpr ⟨H6.is, m_remember (j := 12) (n := S.n) (V := S.W) (U := S.U) rfl (by decide) H6 B6.2.2.2.2.2.2.1 O.2.2.2.2.2.1 hn (by rw [K6.2.1 12 (by decide)]; exact N5) (Nat.le_refl _) (fun h7 P7 H7 K7 U7 => ⟨rfl, last (((S.sTl 0).sW W').sU (pushU S.U S.W)) h7 P7 H7 (B6.und K7 U7) ⟨(K7.1 27 (by decide)).trans e6.1, K7.2.2.2.trans e6.2⟩ (R6.kp K7 (by decide) (by decide)) rfl rfl hq⟩)⟩
    suffices G : ∀ f c (W' : pW) (h6 : pz_H) (P6 : pM), c + f = N → WGood S.n S.br S.W.lk W' → yrX S.rv S.br S.dn S.n S.tx S.tl 60 0 S.W 0 = yrX S.rv S.br S.dn S.n S.tx S.tl (60 - c) (yP S.tx S.tl c) W' c → MI h0 h6 m P6 → MB m P6 ((S.sTl 0).sW W') → Kp [10, 11, 12, 13, 14, 19] [10, 14, 15, 1] P5 P6 → pz_V mX10_year Ex Q d bc bs 72 [(0, .ref m), (1, .int (nI N)), (2, .int (nI c))] [] h6 from G N 0 S.W h5 P5 (Nat.zero_add _) O.2.2.1 rfl H5 B5 Kp.rf
    intro f
    induction f with
    | zero =>
      intro c W' h6 P6 hc wg er H6 B6 K6
      have e : c = N := hc
      subst e
      obtain ⟨f', ef⟩ : ∃ f', 60 - c = f' + 1 := ⟨59 - c, by omega⟩
      conv at er =>
        rhs
        rw [ef, yrX, if_pos hend]
      exact wX10_year_72 hd ⟨fun _ => fin c W' false h6 P6 (Nat.le_refl _) ⟨fun z => (by cases z), fun z => absurd z (Nat.lt_irrefl _)⟩ er H6 B6 K6 (fun _ _ _ => trivial), fun y => absurd (nI_le (Nat.le_refl _) (by omega)) y⟩
    | succ f ih =>
      intro c W' h6 P6 hc wg er H6 B6 K6
      have hcN : c < N := by omega
      obtain ⟨hpt, ⟨va1, va2, va3, va4⟩, ac1, ac2, ac3, ac4⟩ := hac c hcN
      obtain ⟨f', ef⟩ : ∃ f', 60 - c = f' + 1 := ⟨59 - c, by omega⟩
      conv at er =>
        rhs
        rw [ef, yrX, if_neg (show ¬ S.tl ≤ yP S.tx S.tl c by omega)]
      have A16 : P6.A 16 = P5.A 16 := K6.2.1 16 (by decide)
      have e3c : (3 : Int32) * nI c = nI (3 * c) := pk_mul 3 c
      have O6 : SOk ((S.sTl 0).sW W') := O.tl0.sWU (U' := S.U) wg O.2.2.2.2.2.1 O.2.2.2.2.2.2.1
      obtain ⟨j1, hj1, -, fj1⟩ := dig_sub va2
      generalize hp : yP S.tx S.tl c = p at er hpt va1 va2 va3 va4 ac1 ac2 ac3 ac4 fj1
      have eyA : ∀ x : Int32, (sgn S.tx S.tl 60 p = 103 → x = sgn S.tx S.tl 60 (p + 2) - 97) → (sgn S.tx S.tl 60 p = 116 → x = sgn S.tx S.tl 60 (p + 2) - 48) → yrA S.rv S.br S.dn S.n S.tx S.tl p W' = actW S.rv S.br S.dn S.n (sgn S.tx S.tl 60 p) (sgn S.tx S.tl 60 (p + 1) - 48) x W' := by
        intro x x1 x2
        unfold yrA
        rw [sgn_80 (dig_ne va2)]
        by_cases c103 : sgn S.tx S.tl 60 p = 103
        · rw [if_pos c103, x1 c103]
        · rw [if_neg c103]
          by_cases c116 : sgn S.tx S.tl 60 p = 116
          · rw [x2 c116]
          · -- the third sign isn't looked at
            have a2 : sgn S.tx S.tl 60 p = 99 ∨ sgn S.tx S.tl 60 p = 110 ∨ sgn S.tx S.tl 60 p = 112 ∨ sgn S.tx S.tl 60 p = 115 := by
              rcases actN_c (sgn S.tx S.tl 60 p) with z | z | z
              · exact z.2
              · exact absurd z.2 (fun y => y.elim c103 c116)
              · exact absurd z.1 va1
            unfold actW
            rcases a2 with z | z | z | z
            · rw [z, if_neg (by decide), if_neg (show ¬ (99 : Int32).toInt = 112 by decide), if_neg (show ¬ (99 : Int32).toInt = 115 by decide), if_pos (show (99 : Int32).toInt = 99 by decide), if_neg (show ¬ (99 : Int32).toInt = 110 by decide), if_neg (show ¬ (99 : Int32).toInt = 112 by decide), if_neg (show ¬ (99 : Int32).toInt = 115 by decide), if_pos (show (99 : Int32).toInt = 99 by decide)]
            · rw [z, if_pos (show (110 : Int32).toInt = 110 by decide), if_pos (show (110 : Int32).toInt = 110 by decide)]
            · rw [z, if_neg (by decide), if_pos (show (112 : Int32).toInt = 112 by decide), if_neg (show ¬ (112 : Int32).toInt = 110 by decide), if_pos (show (112 : Int32).toInt = 112 by decide)]
            · rw [z, if_neg (by decide), if_neg (show ¬ (115 : Int32).toInt = 112 by decide), if_pos (show (115 : Int32).toInt = 115 by decide), if_neg (show ¬ (115 : Int32).toInt = 110 by decide), if_neg (show ¬ (115 : Int32).toInt = 112 by decide), if_pos (show (115 : Int32).toInt = 115 by decide)]
      have ey := eyA (P5.A 16 (3 * c + 2)) ac3 ac4
      have hg := wg.act (rv := S.rv) (dn := S.dn) (kind := sgn S.tx S.tl 60 p) (which := sgn S.tx S.tl 60 (p + 1) - 48) (v := P5.A 16 (3 * c + 2)) hn
      rw [ey] at er
      refine wX10_year_72 hd ⟨fun y => absurd y (nI_ge hcN (by omega)), fun _ => (H6.gR rfl).mpr ((H6.rI (j := 16) (q := 3 * c) rfl e3c (by omega)).mpr ((H6.gR rfl).mpr ((H6.rI (j := 16) (q := 3 * c + 1) rfl (by rw [e3c]; exact nI_add _ 1) (by omega)).mpr ((H6.gR rfl).mpr ((H6.rI (j := 16) (q := 3 * c + 2) rfl (by rw [e3c]; exact nI_add _ 2) (by omega)).mpr ⟨H6.is, ?_⟩)))))⟩
      rw [A16, ac1, ac2]
      refine m_act (S := (S.sTl 0).sW W') H6 B6 ((K6.1 27 (by decide)).trans e5.1) O6 va1 ⟨j1, hj1, fj1⟩ (fun c103 => ?_) (fun c116 => ?_) (Nat.le_refl _) (fun hneg => ⟨_, rfl, ⟨fun _ => ?_, fun z => absurd rfl z⟩⟩) (fun hpos h7 P7 H7 B7 K7 => ⟨_, rfl, ⟨fun z => absurd z (by decide), fun _ => ?_⟩⟩)
      · obtain ⟨j, hj, ej⟩ := in_le (c := 97) (k := 4) (by decide) (by rw [king_in]; exact va3 c103)
        exact ⟨j, hj, by rw [ac3 c103, ej, Nat.add_comm]; exact sub_nI j 97⟩
      · obtain ⟨j, hj, -, ej⟩ := dig_sub (va4 c116)
        exact ⟨j, hj, by rw [ac4 c116, ej]⟩
      · have hneg : (actW S.rv S.br S.dn S.n (sgn S.tx S.tl 60 p) (sgn S.tx S.tl 60 (p + 1) - 48) (P5.A 16 (3 * c + 2)) W').1 < 0 := hneg
        rw [if_pos hneg, hg.2.2 hneg] at er
        exact fin c W' true h6 P6 (by omega) ⟨fun _ => hcN, fun _ => rfl⟩ er H6 B6 K6 (fun _ _ _ => trivial)
      · have hpos : ¬ (actW S.rv S.br S.dn S.n (sgn S.tx S.tl 60 p) (sgn S.tx S.tl 60 (p + 1) - 48) (P5.A 16 (3 * c + 2)) W').1 < 0 := hpos
        rw [if_neg hpos] at er
        rw [nI_1]
        refine ih (c + 1) _ h7 P7 (by omega) hg.1 ?_ H7 B7 (K6.tr K7)
        rw [er, show 60 - (c + 1) = f' by omega, show yP S.tx S.tl (c + 1) = p + actN (sgn S.tx S.tl 60 p) by rw [yP, hp]]
  -- a fault
  have bad : ∀ (h5 : pz_H) (p q : Nat) (w : Int32) (cm ac : Nat → Int32) (l1 : Int32), yrF S.tx S.tl 61 0 = some q → p < 1100 → q < 1000 → RD h0 h5 m (P.sI 9 0) S.tl 60 p w cm ac → w = nI q → pz_V mX10_year Ex Q d bc bs 13 [(0, .ref m), (1, .int l1)] [] h5 := by
    intro h5 p q w cm ac l1 ef hp hq5 R5 ew
    rw [ef] at hq
    subst ew
    have fz : eX10_fine (nI q) = 0 := fine_0 (by omega)
    refine wX10_year_13 hd ⟨R5.is, R5.wr.mpr ⟨fun _ => ⟨R5.is, R5.wasRight htl (by omega) (Nat.le_refl _) (fun h6 R6 => ⟨_, rfl, ?_⟩)⟩, fun z => absurd fz z⟩⟩
    have ew : (if S.tl ≤ p then nI q else if eX10_fine (nI q) = 0 then nI q else nI p) = nI q := by
      rw [if_pos fz]
      split <;> rfl
    rw [ew] at R6 ⊢
    rw [fz]
    exact ⟨fun z => absurd rfl z, fun _ => R6.wr.mpr (hq h6 (R6.inv B9 h3 h4))⟩
  refine wX10_year_0 hd (h1.pI rfl (fun ha Ha => ⟨Ha.is, m_beginText (k := 60) Ha B9.2.2.2.2.1 (by decide) (fun hb Rb => ⟨rfl, ?_⟩)⟩))
  suffices G : ∀ f i (h5 : pz_H) (cm ac : Nat → Int32), i + f = 61 → 2 * i ≤ yP S.tx S.tl i → yP S.tx S.tl i ≤ 63 → RD h0 h5 m (P.sI 9 0) S.tl 60 (yP S.tx S.tl i) (-1) cm ac → (∀ j, j < i → yP S.tx S.tl j < S.tl ∧ VA S.tx S.tl (yP S.tx S.tl j) ∧ AcV S.tx S.tl ac (3 * j) (yP S.tx S.tl j)) → yrF S.tx S.tl 61 0 = yrF S.tx S.tl f (yP S.tx S.tl i) → pz_V mX10_year Ex Q d bc bs 13 [(0, .ref m), (1, .int (nI i))] [] h5 from G 61 0 hb _ _ rfl (Nat.le_refl _) (Nat.zero_le _) Rb (fun j hj => absurd hj (Nat.not_lt_zero _)) rfl
  intro f
  induction f with
  | zero => intro i h5 cm ac h6 h7 h8; omega
  | succ f ih =>
    intro i h5 cm ac hi h2i h63 R5 hac es
    conv at es =>
      rhs
      rw [yrF]
    have nx : yP S.tx S.tl (i + 1) = yP S.tx S.tl i + actN (sgn S.tx S.tl 60 (yP S.tx S.tl i)) := rfl
    generalize hp : yP S.tx S.tl i = p at h2i h63 R5 es nx
    refine wX10_year_13 hd ⟨R5.is, R5.wr.mpr ⟨fun z => absurd z fine_1, fun _ => R5.at_.mpr (R5.le_.mpr ⟨fun hle => ?_, fun hle => ?_⟩)⟩⟩
    · have hle : S.tl ≤ p := (nI_leI (by omega) (by omega)).mp hle
      rw [if_pos hle] at es
      refine ⟨R5.is, R5.wasRight htl (by omega) (Nat.le_refl _) (fun h6 R6 => ⟨_, rfl, ?_⟩)⟩
      rw [if_pos hle] at R6 ⊢
      refine ⟨fun _ => ?_, fun z => absurd z fine_1⟩
      obtain ⟨P6, g1, K1, e1, e2, e3, e4, e5, e6, e7, e8⟩ := R6
      have B6 : MB m P6 (S.sTl 0) := B9.text K1 (by intro k hk; simp; omega) (by intro k hk; simp; omega) e2
      refine (g1.gR rfl).mpr ((g1.gR rfl).mpr (m_lay (j1 := 1) (j2 := 12) (N2 := 33) (off := 0) g1 rfl rfl (by decide) (by decide) (fun h7 H7 => ⟨rfl, doit i h7 _ (by omega) (by rw [hp]; exact hle) (fun j hj => ?_) es H7 ?_ ⟨(K1.1 27 (by decide)).trans h3.1, K1.2.2.2.trans h3.2⟩ ?_ ?_⟩)))
      · show _ ∧ _ ∧ AcV S.tx S.tl (P6.A 16) (3 * j) (yP S.tx S.tl j)
        rw [e8]
        exact hac j hj
      · exact B6.kp (li := []) (la := [12]) (Kp.rf.sA (by simp)) (by simp) (by intro k hk; simp; omega)
      · exact (h4.kp (li := [6, 9, 11, 12, 13, 14, 19]) (la := [7, 16]) ((Kp.rf.sI (by simp)).tr K1) (by decide) (by decide)).kp (li := []) (la := [12]) (Kp.rf.sA (by simp)) (by decide) (by decide)
      · show NowR S.n (va_cpy (P6.A 1) (P6.A 12) 0 0 33) S.W
        refine NowR.cg B6.2.2.1 hn (fun q hq2 => ?_)
        have := cpy_in (f := P6.A 1) (g := P6.A 12) (o := 0) hq2
        rw [Nat.zero_add] at this
        exact this
    · have hlt : p < S.tl := by
        rcases Nat.lt_or_ge p S.tl with z | z
        · exact z
        · exact absurd (nI_le z (by omega)) hle
      rw [if_neg (by omega)] at es
      have e3i : (3 : Int32) * nI i = nI (3 * i) := pk_mul 3 i
      rw [e3i, nI_1]
      refine ⟨R5.is, R5.act hx htl (by omega) (by omega) (Nat.le_refl _) (fun h6 p6 w6 ac6 hp6 R6 a0 a1 a2 a3 a4 => ⟨rfl, ?_⟩)⟩
      by_cases c1 : actN (sgn S.tx S.tl 60 p) = 0
      · rw [if_pos c1] at es
        exact bad h6 p6 p w6 cm ac6 _ es (by omega) (by omega) R6 (a1 c1)
      rw [if_neg c1] at es
      by_cases c2 : eX9_isDigit (sgn S.tx S.tl 60 (p + 1)) = 0
      · rw [if_pos c2] at es
        exact bad h6 p6 (p + 1) w6 cm ac6 _ es (by omega) (by omega) R6 (a2 c1 c2)
      rw [if_neg c2] at es
      have hs60 := sgn_lt (dig_ne c2)
      by_cases c3 : sgn S.tx S.tl 60 p = 103 ∧ eX9_isKingSign (sgn S.tx S.tl 60 (p + 2)) = 0 ∨ sgn S.tx S.tl 60 p = 116 ∧ eX9_isDigit (sgn S.tx S.tl 60 (p + 2)) = 0
      · have c3' : actN (sgn S.tx S.tl 60 p) = 3 ∧ (if sgn S.tx S.tl 60 p = 103 then eX9_isKingSign (sgn S.tx S.tl 60 (p + 2)) = 0 else eX9_isDigit (sgn S.tx S.tl 60 (p + 2)) = 0) := by
          rcases c3 with ⟨y1, y2⟩ | ⟨y1, y2⟩
          · exact ⟨by rw [y1]; decide, by rw [if_pos y1]; exact y2⟩
          · refine ⟨by rw [y1]; decide, ?_⟩
            rw [if_neg (by rw [y1]; decide)]
            exact y2
        rw [if_pos c3'] at es
        exact bad h6 p6 (p + 2) w6 cm ac6 _ es (by omega) (by omega) R6 (a3 c1 c2 c3)
      · have va : VA S.tx S.tl p := ⟨c1, c2, fun y1 y2 => c3 (Or.inl ⟨y1, y2⟩), fun y1 y2 => c3 (Or.inr ⟨y1, y2⟩)⟩
        have c3' : ¬ (actN (sgn S.tx S.tl 60 p) = 3 ∧ (if sgn S.tx S.tl 60 p = 103 then eX9_isKingSign (sgn S.tx S.tl 60 (p + 2)) = 0 else eX9_isDigit (sgn S.tx S.tl 60 (p + 2)) = 0)) := by
          rintro ⟨y0, y⟩
          by_cases y1 : sgn S.tx S.tl 60 p = 103
          · rw [if_pos y1] at y; exact c3 (Or.inl ⟨y1, y⟩)
          · rw [if_neg y1] at y
            rcases actN_c (sgn S.tx S.tl 60 p) with z | z | z
            · omega
            · exact c3 (Or.inr ⟨z.2.resolve_left y1, y⟩)
            · omega
        rw [if_neg c3'] at es
        obtain ⟨z1, z2, z3⟩ := a4 va
        subst z1
        have hN : actN (sgn S.tx S.tl 60 p) = 2 ∨ actN (sgn S.tx S.tl 60 p) = 3 := by
          rcases actN_c (sgn S.tx S.tl 60 p) with z | z | z
          · exact Or.inl z.1
          · exact Or.inr z.1
          · exact absurd z.1 c1
        rw [z2, ← nx] at R6
        rw [← nx] at es
        refine ih (i + 1) h6 cm ac6 (by omega) (by omega) (by omega) R6 (fun j hj => ?_) es
        by_cases e : j = i
        · subst e
          rw [hp]
          exact ⟨hlt, va, z3⟩
        · obtain ⟨q1, q2, q3⟩ := hac j (by omega)
          refine ⟨q1, q2, ?_⟩
          unfold AcV at q3 ⊢
          rw [a0 _ (by omega), a0 _ (by omega), a0 _ (by omega)]
          exact q3
end MYE
