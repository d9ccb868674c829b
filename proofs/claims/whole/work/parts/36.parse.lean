/-! ===== a rule's text, read: (right, place, parts, worth) ===== -/
abbrev pEnv : Type := Nat → Int32
abbrev pP : Type := Bool × Nat × List Int32 × (pEnv → Int32)
abbrev pP.ok (r : pP) : Bool := r.1
abbrev pP.ps (r : pP) : Nat := r.2.1
abbrev pP.pt (r : pP) : List Int32 := r.2.2.1
abbrev pP.vl (r : pP) : pEnv → Int32 := r.2.2.2
def mnS (sg : Nat → Int32) : Nat → Nat → Nat
  | 0, _ => 0
  | f + 1, p => if sg p = 45 then mnS sg f (p + 1) + 1 else 0
def numN (sg : Nat → Int32) : Nat → Nat → Int32 → Nat × Int32
  | 0, p, a => (p, a)
  | f + 1, p, a => if ¬ eX9_isDigit (sg p) = 0 then numN sg f (p + 1) (10 * a + sg p - 48) else (p, a)
def letK (s : Int32) : Int32 := if s.toInt = 98 then 1 else if s.toInt = 104 then 2 else if s.toInt = 107 then 4 else if s.toInt = 108 then 0 else if s.toInt = 110 then 5 else if s.toInt = 116 then 3 else -1
def pBind (o : Option pP) (k : pP → Option pP) : Option pP := match o with
  | none => none
  | some r => if r.ok = false then some r else k r
theorem pBind_t {o : Option pP} {k : pP → Option pP} {r : pP} (h : pBind o k = some r) : (∃ r1, o = some r1 ∧ r1.ok = false ∧ r = r1) ∨ (∃ r1, o = some r1 ∧ r1.ok = true ∧ k r1 = some r) := by
  unfold pBind at h
  cases o with
  | none => cases h
  | some r1 =>
    dsimp only at h
    by_cases c : r1.ok = false
    · rw [if_pos c] at h; exact Or.inl ⟨r1, rfl, c, (Option.some.inj h).symm⟩
    · rw [if_neg c] at h; exact Or.inr ⟨r1, rfl, by simpa using c, h⟩
abbrev pZ : pEnv → Int32 := fun _ => 0
/-- modes: 0 expression, 1 sum, 2 more of a sum, 3 product, 4 more of a product, 5 signed, 6 thing -/
def prs (sg : Nat → Int32) : Nat → Nat → Nat → Nat → List Int32 → (pEnv → Int32) → Option pP
  | 0, _, _, _, _, _ => none
  | f + 1, m, dp, p, L, v =>
    if m = 0 then pBind (prs sg f 1 dp p [] pZ) (fun r => if ¬ (sg r.ps = 60 ∨ sg r.ps = 62 ∨ sg r.ps = 61) then some r else pBind (prs sg f 1 dp (r.ps + 1) [] pZ) (fun r2 => some (true, r2.ps, r.pt ++ (r2.pt ++ [2000 + sg r.ps]), fun e => joinV (sg r.ps) (r.vl e) (r2.vl e))))
    else if m = 1 then pBind (prs sg f 3 dp p [] pZ) (fun r => prs sg f 2 dp r.ps r.pt r.vl)
    else if m = 2 then (if ¬ (sg p = 43 ∨ sg p = 45) then some (true, p, L, v) else pBind (prs sg f 3 dp (p + 1) [] pZ) (fun r => prs sg f 2 dp r.ps (L ++ (r.pt ++ [2000 + sg p])) (fun e => joinV (sg p) (v e) (r.vl e))))
    else if m = 3 then pBind (prs sg f 5 dp p [] pZ) (fun r => prs sg f 4 dp r.ps r.pt r.vl)
    else if m = 4 then (if ¬ (sg p = 42 ∨ sg p = 47) then some (true, p, L, v) else pBind (prs sg f 5 dp (p + 1) [] pZ) (fun r => prs sg f 4 dp r.ps (L ++ (r.pt ++ [2000 + sg p])) (fun e => joinV (sg p) (v e) (r.vl e))))
    else if m = 5 then pBind (prs sg f 6 dp (p + mnS sg 40 p) [] pZ) (fun r => if mnS sg 40 p % 2 = 0 then some r else some (true, r.ps, r.pt ++ [2033], fun e => - r.vl e))
    else if ¬ eX9_isDigit (sg p) = 0 then some (true, (numN sg 3 p 0).1, [(numN sg 3 p 0).2], fun _ => (numN sg 3 p 0).2)
    else if sg p = 40 then (if 4 ≤ dp then some (false, p, [], pZ) else pBind (prs sg f 0 (dp + 1) (p + 1) [] pZ) (fun r => if sg r.ps = 41 then some (true, r.ps + 1, r.pt, r.vl) else some (false, r.ps, [], pZ)))
    else if letK (sg p) = -1 then some (false, p, [], pZ) else some (true, p + 1, [1000 + letK (sg p)], fun e => e (letK (sg p)).toNatClampNeg)
theorem prs_e0 (sg : Nat → Int32) (f dp p : Nat) (L : List Int32) (v : pEnv → Int32) : prs sg (f + 1) 0 dp p L v = pBind (prs sg f 1 dp p [] pZ) (fun r => if ¬ (sg r.ps = 60 ∨ sg r.ps = 62 ∨ sg r.ps = 61) then some r else pBind (prs sg f 1 dp (r.ps + 1) [] pZ) (fun r2 => some (true, r2.ps, r.pt ++ (r2.pt ++ [2000 + sg r.ps]), fun e => joinV (sg r.ps) (r.vl e) (r2.vl e)))) := by
  rw [prs]; rfl
theorem prs_e1 (sg : Nat → Int32) (f dp p : Nat) (L : List Int32) (v : pEnv → Int32) : prs sg (f + 1) 1 dp p L v = pBind (prs sg f 3 dp p [] pZ) (fun r => prs sg f 2 dp r.ps r.pt r.vl) := by
  rw [prs]; rfl
theorem prs_e2 (sg : Nat → Int32) (f dp p : Nat) (L : List Int32) (v : pEnv → Int32) : prs sg (f + 1) 2 dp p L v = (if ¬ (sg p = 43 ∨ sg p = 45) then some (true, p, L, v) else pBind (prs sg f 3 dp (p + 1) [] pZ) (fun r => prs sg f 2 dp r.ps (L ++ (r.pt ++ [2000 + sg p])) (fun e => joinV (sg p) (v e) (r.vl e)))) := by
  rw [prs]; rfl
theorem prs_e3 (sg : Nat → Int32) (f dp p : Nat) (L : List Int32) (v : pEnv → Int32) : prs sg (f + 1) 3 dp p L v = pBind (prs sg f 5 dp p [] pZ) (fun r => prs sg f 4 dp r.ps r.pt r.vl) := by
  rw [prs]; rfl
theorem prs_e4 (sg : Nat → Int32) (f dp p : Nat) (L : List Int32) (v : pEnv → Int32) : prs sg (f + 1) 4 dp p L v = (if ¬ (sg p = 42 ∨ sg p = 47) then some (true, p, L, v) else pBind (prs sg f 5 dp (p + 1) [] pZ) (fun r => prs sg f 4 dp r.ps (L ++ (r.pt ++ [2000 + sg p])) (fun e => joinV (sg p) (v e) (r.vl e)))) := by
  rw [prs]; rfl
theorem prs_e5 (sg : Nat → Int32) (f dp p : Nat) (L : List Int32) (v : pEnv → Int32) : prs sg (f + 1) 5 dp p L v = pBind (prs sg f 6 dp (p + mnS sg 40 p) [] pZ) (fun r => if mnS sg 40 p % 2 = 0 then some r else some (true, r.ps, r.pt ++ [2033], fun e => - r.vl e)) := by
  rw [prs]; rfl
theorem prs_e6 (sg : Nat → Int32) (f dp p : Nat) (L : List Int32) (v : pEnv → Int32) : prs sg (f + 1) 6 dp p L v = (if ¬ eX9_isDigit (sg p) = 0 then some (true, (numN sg 3 p 0).1, [(numN sg 3 p 0).2], fun _ => (numN sg 3 p 0).2)
    else if sg p = 40 then (if 4 ≤ dp then some (false, p, [], pZ) else pBind (prs sg f 0 (dp + 1) (p + 1) [] pZ) (fun r => if sg r.ps = 41 then some (true, r.ps + 1, r.pt, r.vl) else some (false, r.ps, [], pZ)))
    else if letK (sg p) = -1 then some (false, p, [], pZ) else some (true, p + 1, [1000 + letK (sg p)], fun e => e (letK (sg p)).toNatClampNeg)) := by
  rw [prs]; rfl
def SgOk (sg : Nat → Int32) : Prop := ∀ p, 40 ≤ p → sg p = -1
theorem digit_0 {v : Int32} : ¬ eX9_isDigit v = 0 ↔ ∃ j, j < 10 ∧ v = nI (48 + j) := by
  unfold eX9_isDigit
  constructor
  · intro hq
    split at hq
    · exact absurd rfl hq
    · rename_i h0
      split at hq
      · exact absurd rfl hq
      · rename_i h1
        have h0 := Int32.not_lt.mp h0
        have h1 := Int32.not_lt.mp h1
        rw [le_i] at h0 h1
        have e1 : (48 : Int32).toInt = 48 := by decide
        have e2 : (57 : Int32).toInt = 57 := by decide
        refine ⟨(v.toInt - 48).toNat, by omega, ?_⟩
        rw [eq_i]
        have := Bt.lit (n := 48 + (v.toInt - 48).toNat) (by omega)
        have h3 := this.1
        have h4 := this.2
        omega
  · rintro ⟨j, hj, rfl⟩
    rcases (by omega : j = 0 ∨ j = 1 ∨ j = 2 ∨ j = 3 ∨ j = 4 ∨ j = 5 ∨ j = 6 ∨ j = 7 ∨ j = 8 ∨ j = 9) with rfl | rfl | rfl | rfl | rfl | rfl | rfl | rfl | rfl | rfl <;> decide
section PP
variable {sg : Nat → Int32}
theorem mnS_le (hs : SgOk sg) : ∀ f p, p ≤ 40 → p + mnS sg f p ≤ 40
  | 0, p, hp => hp
  | f + 1, p, hp => by
    unfold mnS
    split
    · rename_i e
      have : p < 40 := by
        rcases Nat.lt_or_ge p 40 with q | q
        · exact q
        · rw [hs p q] at e; exact absurd e (by decide)
      have := mnS_le hs f (p + 1) (by omega)
      omega
    · omega
theorem numN_le (hs : SgOk sg) : ∀ f p a, p ≤ 40 → (numN sg f p a).1 ≤ 40 ∧ p ≤ (numN sg f p a).1
  | 0, p, a, hp => ⟨hp, Nat.le_refl _⟩
  | f + 1, p, a, hp => by
    unfold numN
    split
    · rename_i e
      have : p < 40 := by
        rcases Nat.lt_or_ge p 40 with q | q
        · exact q
        · rw [hs p q] at e; exact absurd (by decide) e
      have := numN_le hs f (p + 1) (10 * a + sg p - 48) (by omega)
      omega
    · exact ⟨hp, Nat.le_refl _⟩
theorem sg_lt (hs : SgOk sg) {p : Nat} {c : Int32} (h : sg p = c) (hc : c ≠ -1) : p < 40 := by
  rcases Nat.lt_or_ge p 40 with q | q
  · exact q
  · rw [hs p q] at h; exact absurd h.symm hc
theorem letK_cases (s : Int32) : letK s = -1 ∨ ∃ k, k < 6 ∧ letK s = nI k := by
  unfold letK
  split
  · exact Or.inr ⟨1, by decide, rfl⟩
  · split
    · exact Or.inr ⟨2, by decide, rfl⟩
    · split
      · exact Or.inr ⟨4, by decide, rfl⟩
      · split
        · exact Or.inr ⟨0, by decide, rfl⟩
        · split
          · exact Or.inr ⟨5, by decide, rfl⟩
          · split
            · exact Or.inr ⟨3, by decide, rfl⟩
            · exact Or.inl rfl
/-- places: a part that is right goes on, none goes behind 40; no more parts than signs -/
def posR (m p : Nat) (L : List Int32) (r : pP) : Prop := r.ps ≤ 40 ∧ p ≤ r.ps ∧ (r.ok = true → (m = 2 ∨ m = 4 → r.pt.length + p ≤ r.ps + L.length) ∧ (¬ (m = 2 ∨ m = 4) → p < r.ps ∧ r.pt.length + p ≤ r.ps))
theorem m_cases {m : Nat} (h : m ≤ 6) : m = 0 ∨ m = 1 ∨ m = 2 ∨ m = 3 ∨ m = 4 ∨ m = 5 ∨ m = 6 := by omega
theorem prs_pos (hs : SgOk sg) : ∀ (f m dp p : Nat) (L : List Int32) (v : pEnv → Int32) (r : pP), m ≤ 6 → p ≤ 40 → prs sg f m dp p L v = some r → posR m p L r := by
  intro f
  induction f with
  | zero => intro m dp p L v r _ _ h; rw [prs] at h; cases h
  | succ f ih =>
    intro m dp p L v r hm hp h
    have fail : ∀ {m' p' : Nat} {L' : List Int32} {r1 : pP}, posR m' p' L' r1 → p ≤ p' → r1.ok = false → r = r1 → posR m p L r := by
      intro m' p' L' r1 g hpp c e
      subst e
      exact ⟨g.1, by have := g.2.1; omega, fun q => by rw [c] at q; cases q⟩
    -- the chain of a sum and of a product
    have chain : ∀ {r1 : pP} {m1 m2 : Nat}, (m1 = 2 ∨ m1 = 4) → ¬ (m2 = 2 ∨ m2 = 4) → ¬ (m = 2 ∨ m = 4) → posR m2 p [] r1 → r1.ok = true → prs sg f m1 dp r1.ps r1.pt r1.vl = some r → posR m p L r := by
      intro r1 m1 m2 hm1 hm2 hmm g c hr
      have g4 := (g.2.2 c).2 hm2
      have k := ih m1 dp r1.ps _ _ r (by omega) g.1 hr
      refine ⟨k.1, by have := k.2.1; omega, fun q => ⟨fun z => absurd z hmm, fun _ => ?_⟩⟩
      have k4 := (k.2.2 q).1 hm1
      have := k.2.1
      omega
    have more : ∀ {r1 : pP} {m2 : Nat}, (m = 2 ∨ m = 4) → ¬ (m2 = 2 ∨ m2 = 4) → posR m2 (p + 1) [] r1 → r1.ok = true → prs sg f m dp r1.ps (L ++ (r1.pt ++ [2000 + sg p])) (fun e => joinV (sg p) (v e) (r1.vl e)) = some r → posR m p L r := by
      intro r1 m2 hm1 hm2 g c hr
      have g4 := (g.2.2 c).2 hm2
      have k := ih m dp r1.ps _ _ r hm g.1 hr
      refine ⟨k.1, by have := k.2.1; omega, fun q => ⟨fun _ => ?_, fun z => absurd hm1 z⟩⟩
      have k4 := (k.2.2 q).1 hm1
      simp only [List.length_append, List.length_cons, List.length_nil] at k4
      omega
    rcases m_cases hm with rfl | rfl | rfl | rfl | rfl | rfl | rfl
    · rw [prs_e0] at h
      rcases pBind_t h with ⟨r1, h1, c1, e1⟩ | ⟨r1, h1, c1, h2⟩
      · exact fail (ih 1 dp p _ _ r1 (by decide) hp h1) (Nat.le_refl _) c1 e1
      · have g := ih 1 dp p _ _ r1 (by decide) hp h1
        have g4 := (g.2.2 c1).2 (by decide)
        have g1 := g.1
        by_cases c2 : ¬ (sg r1.ps = 60 ∨ sg r1.ps = 62 ∨ sg r1.ps = 61)
        · rw [if_pos c2] at h2; cases h2
          exact ⟨g.1, g.2.1, fun _ => ⟨fun q => absurd q (by decide), fun _ => g4⟩⟩
        · rw [if_neg c2] at h2
          have hlt : r1.ps < 40 := by
            rcases Nat.lt_or_ge r1.ps 40 with q | q
            · exact q
            · exact absurd (by rw [hs _ q]; decide) c2
          rcases pBind_t h2 with ⟨r2, h3, c3, e3⟩ | ⟨r2, h3, c3, h4⟩
          · exact fail (ih 1 dp (r1.ps + 1) _ _ r2 (by decide) (by omega) h3) (by omega) c3 e3
          · have k := ih 1 dp (r1.ps + 1) _ _ r2 (by decide) (by omega) h3
            have k4 := (k.2.2 c3).2 (by decide)
            cases h4
            refine ⟨k.1, by show p ≤ r2.ps; omega, fun q => ⟨fun z => absurd z (by decide), fun _ => ?_⟩⟩
            show p < r2.ps ∧ (r1.pt ++ (r2.pt ++ [2000 + sg r1.ps])).length + p ≤ r2.ps
            simp only [List.length_append, List.length_cons, List.length_nil]
            omega
    · rw [prs_e1] at h
      rcases pBind_t h with ⟨r1, h1, c1, e1⟩ | ⟨r1, h1, c1, h2⟩
      · exact fail (ih 3 dp p _ _ r1 (by decide) hp h1) (Nat.le_refl _) c1 e1
      · exact chain (Or.inl rfl) (by decide) (by decide) (ih 3 dp p _ _ r1 (by decide) hp h1) c1 h2
    · rw [prs_e2] at h
      by_cases c0 : ¬ (sg p = 43 ∨ sg p = 45)
      · rw [if_pos c0] at h; cases h
        exact ⟨hp, Nat.le_refl _, fun _ => ⟨fun _ => by show L.length + p ≤ p + L.length; omega, fun z => absurd (by decide) z⟩⟩
      · rw [if_neg c0] at h
        have hlt : p < 40 := by
          rcases Nat.lt_or_ge p 40 with q | q
          · exact q
          · exact absurd (by rw [hs _ q]; decide) c0
        rcases pBind_t h with ⟨r1, h1, c1, e1⟩ | ⟨r1, h1, c1, h2⟩
        · exact fail (ih 3 dp (p + 1) _ _ r1 (by decide) (by omega) h1) (by omega) c1 e1
        · exact more (by decide) (by decide) (ih 3 dp (p + 1) _ _ r1 (by decide) (by omega) h1) c1 h2
    · rw [prs_e3] at h
      rcases pBind_t h with ⟨r1, h1, c1, e1⟩ | ⟨r1, h1, c1, h2⟩
      · exact fail (ih 5 dp p _ _ r1 (by decide) hp h1) (Nat.le_refl _) c1 e1
      · exact chain (Or.inr rfl) (by decide) (by decide) (ih 5 dp p _ _ r1 (by decide) hp h1) c1 h2
    · rw [prs_e4] at h
      by_cases c0 : ¬ (sg p = 42 ∨ sg p = 47)
      · rw [if_pos c0] at h; cases h
        exact ⟨hp, Nat.le_refl _, fun _ => ⟨fun _ => by show L.length + p ≤ p + L.length; omega, fun z => absurd (by decide) z⟩⟩
      · rw [if_neg c0] at h
        have hlt : p < 40 := by
          rcases Nat.lt_or_ge p 40 with q | q
          · exact q
          · exact absurd (by rw [hs _ q]; decide) c0
        rcases pBind_t h with ⟨r1, h1, c1, e1⟩ | ⟨r1, h1, c1, h2⟩
        · exact fail (ih 5 dp (p + 1) _ _ r1 (by decide) (by omega) h1) (by omega) c1 e1
        · exact more (by decide) (by decide) (ih 5 dp (p + 1) _ _ r1 (by decide) (by omega) h1) c1 h2
    · rw [prs_e5] at h
      have hmn := mnS_le hs 40 p hp
      rcases pBind_t h with ⟨r1, h1, c1, e1⟩ | ⟨r1, h1, c1, h2⟩
      · exact fail (ih 6 dp (p + mnS sg 40 p) _ _ r1 (by decide) hmn h1) (by omega) c1 e1
      · have g := ih 6 dp (p + mnS sg 40 p) _ _ r1 (by decide) hmn h1
        have g4 := (g.2.2 c1).2 (by decide)
        by_cases c2 : mnS sg 40 p % 2 = 0
        · rw [if_pos c2] at h2; cases h2
          exact ⟨g.1, by omega, fun _ => ⟨fun z => absurd z (by decide), fun _ => by omega⟩⟩
        · rw [if_neg c2] at h2; cases h2
          refine ⟨g.1, by show p ≤ r1.ps; omega, fun _ => ⟨fun z => absurd z (by decide), fun _ => ?_⟩⟩
          show p < r1.ps ∧ (r1.pt ++ [2033]).length + p ≤ r1.ps
          simp only [List.length_append, List.length_cons, List.length_nil]
          omega
    · rw [prs_e6] at h
      by_cases c0 : ¬ eX9_isDigit (sg p) = 0
      · rw [if_pos c0] at h; cases h
        have hlt : p < 40 := by
          rcases Nat.lt_or_ge p 40 with q | q
          · exact q
          · exact absurd (by rw [hs _ q]; decide) c0
        have e : numN sg 3 p 0 = numN sg 2 (p + 1) (10 * 0 + sg p - 48) := by
          show (if ¬ eX9_isDigit (sg p) = 0 then numN sg 2 (p + 1) (10 * 0 + sg p - 48) else (p, 0)) = _
          rw [if_pos c0]
        have g := numN_le hs 2 (p + 1) (10 * 0 + sg p - 48) (by omega)
        rw [← e] at g
        refine ⟨g.1, by show p ≤ (numN sg 3 p 0).1; omega, fun _ => ⟨fun z => absurd z (by decide), fun _ => ?_⟩⟩
        show p < (numN sg 3 p 0).1 ∧ 1 + p ≤ (numN sg 3 p 0).1
        omega
      · rw [if_neg c0] at h
        by_cases c1 : sg p = 40
        · rw [if_pos c1] at h
          have hlt := sg_lt hs c1 (by decide)
          by_cases c2 : 4 ≤ dp
          · rw [if_pos c2] at h; cases h
            exact ⟨hp, Nat.le_refl _, fun q => by cases q⟩
          · rw [if_neg c2] at h
            rcases pBind_t h with ⟨r1, h1, c3, e1⟩ | ⟨r1, h1, c3, h2⟩
            · exact fail (ih 0 (dp + 1) (p + 1) _ _ r1 (by decide) (by omega) h1) (by omega) c3 e1
            · have g := ih 0 (dp + 1) (p + 1) _ _ r1 (by decide) (by omega) h1
              have g4 := (g.2.2 c3).2 (by decide)
              by_cases c4 : sg r1.ps = 41
              · rw [if_pos c4] at h2; cases h2
                have := sg_lt hs c4 (by decide)
                refine ⟨by show r1.ps + 1 ≤ 40; omega, by show p ≤ r1.ps + 1; omega, fun _ => ⟨fun z => absurd z (by decide), fun _ => ?_⟩⟩
                show p < r1.ps + 1 ∧ r1.pt.length + p ≤ r1.ps + 1
                omega
              · rw [if_neg c4] at h2; cases h2
                exact ⟨g.1, by show p ≤ r1.ps; omega, fun q => by cases q⟩
        · rw [if_neg c1] at h
          by_cases c2 : letK (sg p) = -1
          · rw [if_pos c2] at h; cases h
            exact ⟨hp, Nat.le_refl _, fun q => by cases q⟩
          · rw [if_neg c2] at h; cases h
            have hlt : p < 40 := by
              rcases Nat.lt_or_ge p 40 with q | q
              · exact q
              · exact absurd (by rw [hs _ q]; decide) c2
            refine ⟨by show p + 1 ≤ 40; omega, by show p ≤ p + 1; omega, fun _ => ⟨fun z => absurd z (by decide), fun _ => ?_⟩⟩
            show p < p + 1 ∧ 1 + p ≤ p + 1
            omega
/-- fuel enough -/
def fuelN (m p : Nat) : Nat := 8 * (41 - p) + (if m = 0 then 6 else if m = 1 then 5 else if m = 3 then 4 else if m = 5 then 3 else 2)
theorem prs_some (hs : SgOk sg) : ∀ (f m dp p : Nat) (L : List Int32) (v : pEnv → Int32), m ≤ 6 → p ≤ 40 → fuelN m p ≤ f → ∃ r, prs sg f m dp p L v = some r := by
  intro f
  induction f with
  | zero =>
    intro m dp p L v hm hp hf
    unfold fuelN at hf
    omega
  | succ f ih =>
    intro m dp p L v hm hp hf
    have go : ∀ {m' p' : Nat} {k : pP → Option pP} (dp' : Nat), m' ≤ 6 → p' ≤ 40 → fuelN m' p' ≤ f → (∀ r1, posR m' p' [] r1 → r1.ok = true → ∃ r, k r1 = some r) → ∃ r, pBind (prs sg f m' dp' p' [] pZ) k = some r := by
      intro m' p' k dp' hm' hp' hf' hk
      obtain ⟨r1, e1⟩ := ih m' dp' p' [] pZ hm' hp' hf'
      unfold pBind
      rw [e1]
      dsimp only
      by_cases c : r1.ok = false
      · rw [if_pos c]; exact ⟨r1, rfl⟩
      · rw [if_neg c]
        exact hk r1 (prs_pos hs f m' dp' p' _ _ r1 hm' hp' e1) (by simpa using c)
    rcases m_cases hm with rfl | rfl | rfl | rfl | rfl | rfl | rfl
    · rw [prs_e0]
      refine go dp (by decide) hp (by unfold fuelN at hf ⊢; simp at hf ⊢; omega) (fun r1 g c => ?_)
      have g4 := (g.2.2 c).2 (by decide)
      by_cases c2 : ¬ (sg r1.ps = 60 ∨ sg r1.ps = 62 ∨ sg r1.ps = 61)
      · rw [if_pos c2]; exact ⟨r1, rfl⟩
      · rw [if_neg c2]
        have hlt : r1.ps < 40 := by
          rcases Nat.lt_or_ge r1.ps 40 with q | q
          · exact q
          · exact absurd (by rw [hs _ q]; decide) c2
        exact go dp (by decide) (by omega) (by unfold fuelN at hf ⊢; simp at hf ⊢; omega) (fun r2 _ _ => ⟨_, rfl⟩)
    · rw [prs_e1]
      refine go dp (by decide) hp (by unfold fuelN at hf ⊢; simp at hf ⊢; omega) (fun r1 g c => ?_)
      have g4 := (g.2.2 c).2 (by decide)
      exact ih 2 dp r1.ps _ _ (by decide) g.1 (by unfold fuelN at hf ⊢; simp at hf ⊢; omega)
    · rw [prs_e2]
      by_cases c0 : ¬ (sg p = 43 ∨ sg p = 45)
      · rw [if_pos c0]; exact ⟨_, rfl⟩
      · rw [if_neg c0]
        have hlt : p < 40 := by
          rcases Nat.lt_or_ge p 40 with q | q
          · exact q
          · exact absurd (by rw [hs _ q]; decide) c0
        refine go dp (by decide) (by omega) (by unfold fuelN at hf ⊢; simp at hf ⊢; omega) (fun r1 g c => ?_)
        have g4 := (g.2.2 c).2 (by decide)
        exact ih 2 dp r1.ps _ _ (by decide) g.1 (by unfold fuelN at hf ⊢; simp at hf ⊢; omega)
    · rw [prs_e3]
      refine go dp (by decide) hp (by unfold fuelN at hf ⊢; simp at hf ⊢; omega) (fun r1 g c => ?_)
      have g4 := (g.2.2 c).2 (by decide)
      exact ih 4 dp r1.ps _ _ (by decide) g.1 (by unfold fuelN at hf ⊢; simp at hf ⊢; omega)
    · rw [prs_e4]
      by_cases c0 : ¬ (sg p = 42 ∨ sg p = 47)
      · rw [if_pos c0]; exact ⟨_, rfl⟩
      · rw [if_neg c0]
        have hlt : p < 40 := by
          rcases Nat.lt_or_ge p 40 with q | q
          · exact q
          · exact absurd (by rw [hs _ q]; decide) c0
        refine go dp (by decide) (by omega) (by unfold fuelN at hf ⊢; simp at hf ⊢; omega) (fun r1 g c => ?_)
        have g4 := (g.2.2 c).2 (by decide)
        exact ih 4 dp r1.ps _ _ (by decide) g.1 (by unfold fuelN at hf ⊢; simp at hf ⊢; omega)
    · rw [prs_e5]
      have hmn := mnS_le hs 40 p hp
      refine go dp (by decide) hmn (by unfold fuelN at hf ⊢; simp at hf ⊢; omega) (fun r1 g c => ?_)
      by_cases c2 : mnS sg 40 p % 2 = 0
      · rw [if_pos c2]; exact ⟨_, rfl⟩
      · rw [if_neg c2]; exact ⟨_, rfl⟩
    · rw [prs_e6]
      by_cases c0 : ¬ eX9_isDigit (sg p) = 0
      · rw [if_pos c0]; exact ⟨_, rfl⟩
      · rw [if_neg c0]
        by_cases c1 : sg p = 40
        · rw [if_pos c1]
          have hlt := sg_lt hs c1 (by decide)
          by_cases c2 : 4 ≤ dp
          · rw [if_pos c2]; exact ⟨_, rfl⟩
          · rw [if_neg c2]
            refine go (dp + 1) (by decide) (by omega) (by unfold fuelN at hf ⊢; simp at hf ⊢; omega) (fun r1 g c => ?_)
            by_cases c4 : sg r1.ps = 41
            · rw [if_pos c4]; exact ⟨_, rfl⟩
            · rw [if_neg c4]; exact ⟨_, rfl⟩
        · rw [if_neg c1]
          by_cases c2 : letK (sg p) = -1
          · rw [if_pos c2]; exact ⟨_, rfl⟩
          · rw [if_neg c2]; exact ⟨_, rfl⟩
end PP
