/-! ===== the class reads a rule ===== -/
def RulP (h : pz_H) (q : Nat) (pa sk th : Nat → Int32) (L : List Int32) (p t : Nat) : Prop := Rul h q pa sk th L.length (some t) (nI p) ∧ ∀ j, j < L.length → pa j = L.getD j 0
def costP (m dp : Nat) : Nat := (if m = 0 then 4 else if m = 1 ∨ m = 2 then 3 else if m = 3 ∨ m = 4 then 2 else if m = 5 then 1 else 0) + (3 + 6 * (4 - dp))
section RD
variable {d bc bs : Nat} {h : pz_H} {q t : Nat} {pa sk th : Nat → Int32} {L : List Int32} {p : Nat} {s0 : Nat → Int32} {tx : Nat → Nat} {tl : Nat}
theorem RulP.frT {h' : pz_H} (H : RulP h q pa sk th L p t) (hF : Fr [t, t + 1] h h') (ht : t + 2 ≤ q ∨ q + 4 ≤ t) : RulP h' q pa sk th L p t := ⟨H.1.fr hF (by intro b hb; simp at hb; omega), H.2⟩
theorem txF {h' : pz_H} (H : Txt h t s0 tl) (hF : Fr [q, q + 1] h h') (ht : t + 2 ≤ q ∨ q + 4 ≤ t) : Txt h' t s0 tl := H.fr hF (by intro b hb; simp at hb; omega)
theorem t_hereR {Q : Option Value → pz_H → Prop} {Ex : State → Nat → Prop} (H : RulP h q pa sk th L p t) (HX : Txt h t s0 tl) (hx : TxR s0 tx) (htl : tl ≤ 80) (hp : p ≤ 40) (hd : 1 ≤ d) (hq : Q (some (.int (sgn tx tl 40 p))) h) : pz_V mX5_here Ex Q d bc bs 0 [(0, .ref q)] [] h := by
  refine wX5_here_0 hd (H.1.g4.mpr ⟨fun z hz => ?_, fun hz => by cases hz⟩)
  cases hz
  exact (H.1.h4 rfl).mpr (H.1.g5.mpr ⟨HX.i.mpr trivial, t_at (lim := 40) HX hx htl (by omega) (by omega) ⟨_, rfl, hq⟩⟩)
theorem t_addP {Q : Option Value → pz_H → Prop} {Ex : State → Nat → Prop} {v : Int32} (H : RulP h q pa sk th L p t) (hl : L.length < 40) (hq : ∀ h' pa', RulP h' q pa' sk th (L ++ [v]) p t → Fr [q, q + 1] h h' → Q none h') : pz_V mX5_addPart Ex Q d bc bs 0 [(0, .ref q), (1, .int v)] [] h := by
  have v40 : vp_in (nI L.length) 40 := vin hl (by decide)
  refine wX5_addPart_0 ?_
  simp only [H.1.g3, H.1.g0, H.1.l0, H.1.s0, v40, true_and, clamp (i := L.length) (by omega)]
  refine ⟨fun hc => absurd hc (nI_ge hl (by decide)), fun _ => ?_⟩
  have H2 := H.1.v0 (upd pa L.length v)
  simp only [H2.g3, H2.p3, nI_1]
  refine hq _ _ ⟨by rw [List.length_append]; exact H2.u3 (L.length + 1), fun j hj => ?_⟩ (((Fr.rf (h := h)).put (by simp)).put (by simp))
  rw [List.length_append] at hj
  have hj : j < L.length + 1 := hj
  unfold upd
  by_cases e : j = L.length
  · subst e
    rw [if_pos rfl, List.getD_eq_getElem?_getD, List.getElem?_append_right (Nat.le_refl _), Nat.sub_self]
    rfl
  · rw [if_neg e, H.2 j (by omega), List.getD_eq_getElem?_getD, List.getD_eq_getElem?_getD, List.getElem?_append_left (by omega)]
theorem t_inc {K : pz_H → Prop} (H : RulP h q pa sk th L p t) (hq : ∀ h', RulP h' q pa sk th L (p + 1) t → Fr [q, q + 1] h h' → K h') : pz_gI h q 5 5 (fun (x5 : Int32) => pz_pF h q 5 5 (.int (x5 + ((1 : Int32)))) K) := by
  refine H.1.g5.mpr (H.1.p5.mpr ?_)
  rw [nI_1]
  exact hq _ ⟨H.1.u5 (nI (p + 1)), H.2⟩ (fr_1 (by simp))
/-- what a reading method owes -/
def PGoal (q t : Nat) (sk th s0 : Nat → Int32) (tx : Nat → Nat) (tl : Nat) (M : pz_M) (m f : Nat) : Prop := ∀ (dp p : Nat) (h : pz_H) (pa : Nat → Int32) (L : List Int32) (r : pP) (Q : Option Value → pz_H → Prop) (d bc bs : Nat), prs (sgn tx tl 40) f m dp p [] pZ = some r → dp ≤ 4 → p ≤ 40 → RulP h q pa sk th L p t → Txt h t s0 tl → L.length ≤ p → costP m dp ≤ d →
  (∀ h' pa' L', RulP h' q pa' sk th L' r.ps t → (r.ok = true → L' = L ++ r.pt) → L'.length ≤ 40 → Fr [q, q + 1] h h' → Q (some (.int (if r.ok = true then 1 else 0))) h') → pz_V M pz_T Q d bc bs 0 [(0, .ref q), (1, .int (nI dp))] [] h
def LGoal (q t : Nat) (sk th s0 : Nat → Int32) (tx : Nat → Nat) (tl : Nat) (M : pz_M) (m f : Nat) : Prop := ∀ (dp p i : Nat) (h : pz_H) (pa : Nat → Int32) (L0 L1 : List Int32) (v : pEnv → Int32) (r : pP) (Q : Option Value → pz_H → Prop) (d bc bs : Nat), prs (sgn tx tl 40) f m dp p L1 v = some r → dp ≤ 4 → p ≤ 40 → i ≤ p → RulP h q pa sk th (L0 ++ L1) p t → Txt h t s0 tl → (L0 ++ L1).length ≤ p → costP m dp ≤ d →
  (∀ h' pa' L', RulP h' q pa' sk th L' r.ps t → (r.ok = true → L' = L0 ++ r.pt) → L'.length ≤ 40 → Fr [q, q + 1] h h' → Q (some (.int (if r.ok = true then 1 else 0))) h') → pz_V M pz_T Q d bc bs 12 [(0, .ref q), (1, .int (nI dp)), (2, .int (nI i))] [] h
theorem ok_if {b : Bool} (h : ¬ (if b = true then (1 : Int32) else 0) = 0) : b = true := by cases b <;> simp_all
theorem no_if {b : Bool} (h : (if b = true then (1 : Int32) else 0) = 0) : b = false := by cases b <;> simp_all
theorem sgk (tx : Nat → Nat) (tl : Nat) : SgOk (sgn tx tl 40) := fun p hp => by
  unfold sgn
  rw [if_neg (by omega)]
/-- all that read, by the fuel -/
theorem p_read (hx : TxR s0 tx) (htl : tl ≤ 80) (hqt : t + 2 ≤ q ∨ q + 4 ≤ t) : ∀ f, PGoal q t sk th s0 tx tl mX5_readExpression 0 f ∧ PGoal q t sk th s0 tx tl mX5_readSum 1 f ∧ LGoal q t sk th s0 tx tl mX5_readSum 2 f ∧ PGoal q t sk th s0 tx tl mX5_readProduct 3 f ∧ LGoal q t sk th s0 tx tl mX5_readProduct 4 f ∧ PGoal q t sk th s0 tx tl mX5_readSigned 5 f ∧ PGoal q t sk th s0 tx tl mX5_readThing 6 f := by
  have hs := sgk tx tl
  intro f
  induction f with
  | zero =>
    refine ⟨?_, ?_, ?_, ?_, ?_, ?_, ?_⟩
    all_goals first
      | (intro dp p h pa L r Q d bc bs hr; rw [prs] at hr; cases hr)
      | (intro dp p i h pa L0 L1 v r Q d bc bs hr; rw [prs] at hr; cases hr)
  | succ f ih =>
    obtain ⟨iE, iS, iSL, iP, iPL, iG, iT⟩ := ih
    -- a binary sign and its right side, of expressions
    refine ⟨?_, ?_, ?_, ?_, ?_, ?_, ?_⟩
    · -- expression
      intro dp p h pa L r Q d bc bs hr hdp hp H HX hL hc hq
      rw [prs_e0] at hr
      obtain ⟨d', rfl⟩ : ∃ d', d = d' + 1 := ⟨d - 1, by unfold costP at hc; simp at hc; omega⟩
      have hc1 : costP 1 dp ≤ d' := by unfold costP at hc ⊢; simp at hc ⊢; omega
      have h2 : 2 ≤ d' + 1 := by unfold costP at hc; simp at hc; omega
      refine wX5_readExpression_0 h2 ⟨H.1.i.mpr trivial, ?_⟩
      rcases pBind_t hr with ⟨r1, e1, c1, rfl⟩ | ⟨r1, e1, c1, hr⟩
      · refine iS dp p h pa L r _ _ 0 0 e1 hdp hp H HX hL hc1 (fun h1 pa1 L1 H1 g1 g2 hF1 => ⟨_, rfl, ⟨fun hne => absurd (ok_if hne) (by rw [c1]; decide), fun _ => ?_⟩⟩)
        have := hq h1 pa1 L1 H1 g1 g2 hF1
        rw [c1] at this
        exact this
      · have pos1 := prs_pos hs f 1 dp p _ _ r1 (by decide) hp e1
        have pos1' := (pos1.2.2 c1).2 (by decide)
        refine iS dp p h pa L r1 _ _ 0 0 e1 hdp hp H HX hL hc1 (fun h1 pa1 L1 H1 g1 g2 hF1 => ⟨_, rfl, ⟨fun _ => ?_, fun he => absurd (no_if he) (by rw [c1]; decide)⟩⟩)
        have eL1 := g1 c1
        subst eL1
        have HX1 := txF HX hF1 hqt
        refine ⟨H1.1.i.mpr trivial, t_hereR H1 HX1 hx htl pos1.1 (Nat.le_refl _) ⟨_, rfl, ?_⟩⟩
        -- the right side
        have right : (sgn tx tl 40 r1.ps = 60 ∨ sgn tx tl 40 r1.ps = 62 ∨ sgn tx tl 40 r1.ps = 61) → pz_gI h1 q 5 5 (fun (x5 : Int32) => pz_pF h1 q 5 5 (.int (x5 + ((1 : Int32)))) (fun (h6 : pz_H) => pz_is h6 q 5 ∧ (pz_ki mX5_readSum d' 0 0 (.ref q :: [.int (nI dp)]) h6 (fun (x8 : Int32) (h7 : pz_H) => (¬ x8 = 0 → pz_is h7 q 5 ∧ (pz_kv mX5_addPart 0 0 0 (.ref q :: [.int (((2000 : Int32)) + sgn tx tl 40 r1.ps)]) h7 (fun (h9 : pz_H) => Q (some (.int 1)) h9))) ∧ (x8 = 0 → Q (some (.int 0)) h7))))) := by
          intro hop
          rw [if_neg (fun z => z hop)] at hr
          have hlt : r1.ps < 40 := by
            rcases Nat.lt_or_ge r1.ps 40 with z | z
            · exact z
            · rw [hs _ z] at hop; exact absurd hop (by decide)
          refine t_inc H1 (fun h2 H2 hF2 => ⟨H2.1.i.mpr trivial, ?_⟩)
          have HX2 := txF HX1 hF2 hqt
          have hl2 : (L ++ r1.pt).length ≤ r1.ps + 1 := by rw [List.length_append]; omega
          rcases pBind_t hr with ⟨r2, e2, c2, rfl⟩ | ⟨r2, e2, c2, hr⟩
          · refine iS dp (r1.ps + 1) h2 pa1 _ r _ _ 0 0 e2 hdp (by omega) H2 HX2 hl2 hc1 (fun h3 pa3 L3 H3 g3 g4 hF3 => ⟨_, rfl, ⟨fun hne => absurd (ok_if hne) (by rw [c2]; decide), fun _ => ?_⟩⟩)
            have := hq h3 pa3 L3 H3 (fun z => by rw [c2] at z; cases z) g4 ((hF1.tt hF2).tt hF3)
            rw [c2] at this
            exact this
          · have pos2 := prs_pos hs f 1 dp (r1.ps + 1) _ _ r2 (by decide) (by omega) e2
            have pos2' := (pos2.2.2 c2).2 (by decide)
            refine iS dp (r1.ps + 1) h2 pa1 _ r2 _ _ 0 0 e2 hdp (by omega) H2 HX2 hl2 hc1 (fun h3 pa3 L3 H3 g3 g4 hF3 => ⟨_, rfl, ⟨fun _ => ?_, fun he => absurd (no_if he) (by rw [c2]; decide)⟩⟩)
            have eL3 := g3 c2
            subst eL3
            have hp2 := pos2.1
            have hl3 : (L ++ r1.pt ++ r2.pt).length < 40 := by simp only [List.length_append]; omega
            refine ⟨H3.1.i.mpr trivial, t_addP H3 hl3 (fun h4 pa4 H4 hF4 => ⟨rfl, ?_⟩)⟩
            cases hr
            have := hq h4 pa4 _ H4 (fun _ => by simp [List.append_assoc]) (by rw [List.length_append]; simp only [List.length_cons, List.length_nil]; omega) (((hF1.tt hF2).tt hF3).tt hF4)
            exact this
        refine ⟨fun e => right (Or.inl e), fun n1 => ⟨fun e => right (Or.inr (Or.inl e)), fun n2 => ⟨fun e => right (Or.inr (Or.inr e)), fun n3 => ?_⟩⟩⟩
        rw [if_pos (by rintro (z | z | z); exact n1 z; exact n2 z; exact n3 z)] at hr
        cases hr
        have := hq h1 pa1 _ H1 (fun _ => rfl) g2 hF1
        rw [c1] at this
        exact this
    · -- sum
      intro dp p h pa L r Q d bc bs hr hdp hp H HX hL hc hq
      rw [prs_e1] at hr
      obtain ⟨d', rfl⟩ : ∃ d', d = d' + 1 := ⟨d - 1, by unfold costP at hc; simp at hc; omega⟩
      have hc1 : costP 3 dp ≤ d' := by unfold costP at hc ⊢; simp at hc ⊢; omega
      have h2 : 2 ≤ d' + 1 := by unfold costP at hc; simp at hc; omega
      refine wX5_readSum_0 h2 ⟨H.1.i.mpr trivial, ?_⟩
      rcases pBind_t hr with ⟨r1, e1, c1, rfl⟩ | ⟨r1, e1, c1, hr⟩
      · refine iP dp p h pa L r _ _ 0 0 e1 hdp hp H HX hL hc1 (fun h1 pa1 L1 H1 g1 g2 hF1 => ⟨_, rfl, ⟨fun hne => absurd (ok_if hne) (by rw [c1]; decide), fun _ => ?_⟩⟩)
        have := hq h1 pa1 L1 H1 g1 g2 hF1
        rw [c1] at this
        exact this
      · have pos1 := prs_pos hs f 3 dp p _ _ r1 (by decide) hp e1
        have pos1' := (pos1.2.2 c1).2 (by decide)
        refine iP dp p h pa L r1 _ _ 0 0 e1 hdp hp H HX hL hc1 (fun h1 pa1 L1 H1 g1 g2 hF1 => ⟨_, rfl, ⟨fun _ => ?_, fun he => absurd (no_if he) (by rw [c1]; decide)⟩⟩)
        have eL1 := g1 c1
        subst eL1
        exact iSL dp r1.ps 0 h1 pa1 L r1.pt r1.vl r Q _ bc bs hr hdp pos1.1 (Nat.zero_le _) H1 (txF HX hF1 hqt) (by rw [List.length_append]; omega) hc (fun h2 pa2 L2 H2 g3 g4 hF2 => hq h2 pa2 L2 H2 g3 g4 (hF1.tt hF2))
    · -- more of a sum
      intro dp p i h pa L0 L1 v r Q d bc bs hr hdp hp hi H HX hL hc hq
      rw [prs_e2] at hr
      obtain ⟨d', rfl⟩ : ∃ d', d = d' + 1 := ⟨d - 1, by unfold costP at hc; simp at hc; omega⟩
      have hc1 : costP 3 dp ≤ d' := by unfold costP at hc ⊢; simp at hc ⊢; omega
      have h2 : 2 ≤ d' + 1 := by unfold costP at hc; simp at hc; omega
      have stop : ¬ (sgn tx tl 40 p = 43 ∨ sgn tx tl 40 p = 45) → Q (some (.int 1)) h := by
        intro hno
        rw [if_pos hno] at hr
        cases hr
        exact hq h pa _ H (fun _ => rfl) (by omega) Fr.rf
      have right : (sgn tx tl 40 p = 43 ∨ sgn tx tl 40 p = 45) → pz_gI h q 5 5 (fun (x3 : Int32) => pz_pF h q 5 5 (.int (x3 + ((1 : Int32)))) (fun (h4 : pz_H) => pz_is h4 q 5 ∧ (pz_ki mX5_readProduct d' 0 0 (.ref q :: [.int (nI dp)]) h4 (fun (x6 : Int32) (h5 : pz_H) => (¬ x6 = 0 → pz_is h5 q 5 ∧ (pz_kv mX5_addPart 0 0 0 (.ref q :: [.int (((2000 : Int32)) + sgn tx tl 40 p)]) h5 (fun (h7 : pz_H) => pz_V mX5_readSum pz_T Q (d' + 1) bc bs 12 [(0, .ref q), (1, .int (nI dp)), (2, .int (nI i + (1 : Int32)))] [] h7))) ∧ (x6 = 0 → Q (some (.int 0)) h5))))) := by
        intro hop
        rw [if_neg (fun z => z hop)] at hr
        have hlt : p < 40 := by
          rcases Nat.lt_or_ge p 40 with z | z
          · exact z
          · rw [hs _ z] at hop; exact absurd hop (by decide)
        refine t_inc H (fun h2 H2 hF2 => ⟨H2.1.i.mpr trivial, ?_⟩)
        have HX2 := txF HX hF2 hqt
        rcases pBind_t hr with ⟨r2, e2, c2, rfl⟩ | ⟨r2, e2, c2, hr⟩
        · refine iP dp (p + 1) h2 pa _ r _ _ 0 0 e2 hdp (by omega) H2 HX2 (by omega) hc1 (fun h3 pa3 L3 H3 g3 g4 hF3 => ⟨_, rfl, ⟨fun hne => absurd (ok_if hne) (by rw [c2]; decide), fun _ => ?_⟩⟩)
          have := hq h3 pa3 L3 H3 (fun z => by rw [c2] at z; cases z) g4 (hF2.tt hF3)
          rw [c2] at this
          exact this
        · have pos2 := prs_pos hs f 3 dp (p + 1) _ _ r2 (by decide) (by omega) e2
          have pos2' := (pos2.2.2 c2).2 (by decide)
          have hp2 := pos2.1
          rw [List.length_append] at hL
          refine iP dp (p + 1) h2 pa _ r2 _ _ 0 0 e2 hdp (by omega) H2 HX2 (by rw [List.length_append]; omega) hc1 (fun h3 pa3 L3 H3 g3 g4 hF3 => ⟨_, rfl, ⟨fun _ => ?_, fun he => absurd (no_if he) (by rw [c2]; decide)⟩⟩)
          have eL3 := g3 c2
          subst eL3
          have hl3 : (L0 ++ L1 ++ r2.pt).length < 40 := by simp only [List.length_append]; omega
          refine ⟨H3.1.i.mpr trivial, t_addP H3 hl3 (fun h4 pa4 H4 hF4 => ⟨rfl, ?_⟩)⟩
          rw [nI_1]
          have eA : L0 ++ L1 ++ r2.pt ++ [2000 + sgn tx tl 40 p] = L0 ++ (L1 ++ (r2.pt ++ [2000 + sgn tx tl 40 p])) := by simp [List.append_assoc]
          rw [eA] at H4
          refine iSL dp r2.ps (i + 1) h4 pa4 L0 _ _ r Q _ bc bs hr hdp pos2.1 (by omega) H4 (txF (txF HX2 hF3 hqt) hF4 hqt) ?_ hc (fun h5 pa5 L5 H5 g5 g6 hF5 => hq h5 pa5 L5 H5 g5 g6 (((hF2.tt hF3).tt hF4).tt hF5))
          simp only [List.length_append, List.length_cons, List.length_nil]
          omega
      refine wX5_readSum_12 h2 ⟨fun hge => stop ?_, fun _ => ⟨H.1.i.mpr trivial, t_hereR H HX hx htl hp (Nat.le_refl _) ⟨_, rfl, ⟨fun e => right (Or.inl e), fun n1 => ⟨fun e => right (Or.inr e), fun n2 => stop (by rintro (z | z); exact n1 z; exact n2 z)⟩⟩⟩⟩⟩
      have : 40 ≤ i := by
        rcases Nat.lt_or_ge i 40 with z | z
        · exact absurd hge (nI_ge (b := 40) z (by decide))
        · exact z
      rw [hs p (by omega)]
      decide
    · -- product
      intro dp p h pa L r Q d bc bs hr hdp hp H HX hL hc hq
      rw [prs_e3] at hr
      obtain ⟨d', rfl⟩ : ∃ d', d = d' + 1 := ⟨d - 1, by unfold costP at hc; simp at hc; omega⟩
      have hc1 : costP 5 dp ≤ d' := by unfold costP at hc ⊢; simp at hc ⊢; omega
      have h2 : 2 ≤ d' + 1 := by unfold costP at hc; simp at hc; omega
      refine wX5_readProduct_0 h2 ⟨H.1.i.mpr trivial, ?_⟩
      rcases pBind_t hr with ⟨r1, e1, c1, rfl⟩ | ⟨r1, e1, c1, hr⟩
      · refine iG dp p h pa L r _ _ 0 0 e1 hdp hp H HX hL hc1 (fun h1 pa1 L1 H1 g1 g2 hF1 => ⟨_, rfl, ⟨fun hne => absurd (ok_if hne) (by rw [c1]; decide), fun _ => ?_⟩⟩)
        have := hq h1 pa1 L1 H1 g1 g2 hF1
        rw [c1] at this
        exact this
      · have pos1 := prs_pos hs f 5 dp p _ _ r1 (by decide) hp e1
        have pos1' := (pos1.2.2 c1).2 (by decide)
        refine iG dp p h pa L r1 _ _ 0 0 e1 hdp hp H HX hL hc1 (fun h1 pa1 L1 H1 g1 g2 hF1 => ⟨_, rfl, ⟨fun _ => ?_, fun he => absurd (no_if he) (by rw [c1]; decide)⟩⟩)
        have eL1 := g1 c1
        subst eL1
        exact iPL dp r1.ps 0 h1 pa1 L r1.pt r1.vl r Q _ bc bs hr hdp pos1.1 (Nat.zero_le _) H1 (txF HX hF1 hqt) (by rw [List.length_append]; omega) hc (fun h2 pa2 L2 H2 g3 g4 hF2 => hq h2 pa2 L2 H2 g3 g4 (hF1.tt hF2))
    · -- more of a product
      intro dp p i h pa L0 L1 v r Q d bc bs hr hdp hp hi H HX hL hc hq
      rw [prs_e4] at hr
      obtain ⟨d', rfl⟩ : ∃ d', d = d' + 1 := ⟨d - 1, by unfold costP at hc; simp at hc; omega⟩
      have hc1 : costP 5 dp ≤ d' := by unfold costP at hc ⊢; simp at hc ⊢; omega
      have h2 : 2 ≤ d' + 1 := by unfold costP at hc; simp at hc; omega
      have stop : ¬ (sgn tx tl 40 p = 42 ∨ sgn tx tl 40 p = 47) → Q (some (.int 1)) h := by
        intro hno
        rw [if_pos hno] at hr
        cases hr
        exact hq h pa _ H (fun _ => rfl) (by omega) Fr.rf
      have right : (sgn tx tl 40 p = 42 ∨ sgn tx tl 40 p = 47) → pz_gI h q 5 5 (fun (x3 : Int32) => pz_pF h q 5 5 (.int (x3 + ((1 : Int32)))) (fun (h4 : pz_H) => pz_is h4 q 5 ∧ (pz_ki mX5_readSigned d' 0 0 (.ref q :: [.int (nI dp)]) h4 (fun (x6 : Int32) (h5 : pz_H) => (¬ x6 = 0 → pz_is h5 q 5 ∧ (pz_kv mX5_addPart 0 0 0 (.ref q :: [.int (((2000 : Int32)) + sgn tx tl 40 p)]) h5 (fun (h7 : pz_H) => pz_V mX5_readProduct pz_T Q (d' + 1) bc bs 12 [(0, .ref q), (1, .int (nI dp)), (2, .int (nI i + (1 : Int32)))] [] h7))) ∧ (x6 = 0 → Q (some (.int 0)) h5))))) := by
        intro hop
        rw [if_neg (fun z => z hop)] at hr
        have hlt : p < 40 := by
          rcases Nat.lt_or_ge p 40 with z | z
          · exact z
          · rw [hs _ z] at hop; exact absurd hop (by decide)
        refine t_inc H (fun h2 H2 hF2 => ⟨H2.1.i.mpr trivial, ?_⟩)
        have HX2 := txF HX hF2 hqt
        rcases pBind_t hr with ⟨r2, e2, c2, rfl⟩ | ⟨r2, e2, c2, hr⟩
        · refine iG dp (p + 1) h2 pa _ r _ _ 0 0 e2 hdp (by omega) H2 HX2 (by omega) hc1 (fun h3 pa3 L3 H3 g3 g4 hF3 => ⟨_, rfl, ⟨fun hne => absurd (ok_if hne) (by rw [c2]; decide), fun _ => ?_⟩⟩)
          have := hq h3 pa3 L3 H3 (fun z => by rw [c2] at z; cases z) g4 (hF2.tt hF3)
          rw [c2] at this
          exact this
        · have pos2 := prs_pos hs f 5 dp (p + 1) _ _ r2 (by decide) (by omega) e2
          have pos2' := (pos2.2.2 c2).2 (by decide)
          have hp2 := pos2.1
          rw [List.length_append] at hL
          refine iG dp (p + 1) h2 pa _ r2 _ _ 0 0 e2 hdp (by omega) H2 HX2 (by rw [List.length_append]; omega) hc1 (fun h3 pa3 L3 H3 g3 g4 hF3 => ⟨_, rfl, ⟨fun _ => ?_, fun he => absurd (no_if he) (by rw [c2]; decide)⟩⟩)
          have eL3 := g3 c2
          subst eL3
          have hl3 : (L0 ++ L1 ++ r2.pt).length < 40 := by simp only [List.length_append]; omega
          refine ⟨H3.1.i.mpr trivial, t_addP H3 hl3 (fun h4 pa4 H4 hF4 => ⟨rfl, ?_⟩)⟩
          rw [nI_1]
          have eA : L0 ++ L1 ++ r2.pt ++ [2000 + sgn tx tl 40 p] = L0 ++ (L1 ++ (r2.pt ++ [2000 + sgn tx tl 40 p])) := by simp [List.append_assoc]
          rw [eA] at H4
          refine iPL dp r2.ps (i + 1) h4 pa4 L0 _ _ r Q _ bc bs hr hdp pos2.1 (by omega) H4 (txF (txF HX2 hF3 hqt) hF4 hqt) ?_ hc (fun h5 pa5 L5 H5 g5 g6 hF5 => hq h5 pa5 L5 H5 g5 g6 (((hF2.tt hF3).tt hF4).tt hF5))
          simp only [List.length_append, List.length_cons, List.length_nil]
          omega
      refine wX5_readProduct_12 h2 ⟨fun hge => stop ?_, fun _ => ⟨H.1.i.mpr trivial, t_hereR H HX hx htl hp (Nat.le_refl _) ⟨_, rfl, ⟨fun e => right (Or.inl e), fun n1 => ⟨fun e => right (Or.inr e), fun n2 => stop (by rintro (z | z); exact n1 z; exact n2 z)⟩⟩⟩⟩⟩
      have : 40 ≤ i := by
        rcases Nat.lt_or_ge i 40 with z | z
        · exact absurd hge (nI_ge (b := 40) z (by decide))
        · exact z
      rw [hs p (by omega)]
      decide
    · -- signed
      intro dp p h pa L r Q d bc bs hr hdp hp H HX hL hc hq
      rw [prs_e5] at hr
      obtain ⟨d', rfl⟩ : ∃ d', d = d' + 1 := ⟨d - 1, by unfold costP at hc; simp at hc; omega⟩
      have hc1 : costP 6 dp ≤ d' := by unfold costP at hc ⊢; simp at hc ⊢; omega
      have h2 : 2 ≤ d' + 1 := by unfold costP at hc; simp at hc; omega
      have hmn := mnS_le hs 40 p hp
      refine wX5_readSigned_0 h2 ?_
      -- the thing behind the signs
      have thing : ∀ (h1 : pz_H) (l2 : Int32), (l2 = 0 ↔ mnS (sgn tx tl 40) 40 p % 2 = 0) → RulP h1 q pa sk th L (p + mnS (sgn tx tl 40) 40 p) t → Fr [q, q + 1] h h1 → pz_ki mX5_readThing d' 0 0 (.ref q :: [.int (nI dp)]) h1 (fun (x2 : Int32) (h1 : pz_H) => (¬ x2 = 0 → (l2 = 0 → Q (some (.int 1)) h1) ∧ (¬ l2 = 0 → pz_is h1 q 5 ∧ (pz_kv mX5_addPart 0 0 0 (.ref q :: [.int 2033]) h1 (fun (h3 : pz_H) => Q (some (.int 1)) h3)))) ∧ (x2 = 0 → Q (some (.int 0)) h1)) := by
        intro h1 l2 hl2 H1 hF1
        have HX1 := txF HX hF1 hqt
        rcases pBind_t hr with ⟨r1, e1, c1, rfl⟩ | ⟨r1, e1, c1, hr⟩
        · refine iT dp _ h1 pa L r _ _ 0 0 e1 hdp hmn H1 HX1 (by omega) hc1 (fun h3 pa3 L3 H3 g3 g4 hF3 => ⟨_, rfl, ⟨fun hne => absurd (ok_if hne) (by rw [c1]; decide), fun _ => ?_⟩⟩)
          have := hq h3 pa3 L3 H3 g3 g4 (hF1.tt hF3)
          rw [c1] at this
          exact this
        · have pos1 := prs_pos hs f 6 dp _ _ _ r1 (by decide) hmn e1
          have pos1' := (pos1.2.2 c1).2 (by decide)
          have hp1 := pos1.1
          refine iT dp _ h1 pa L r1 _ _ 0 0 e1 hdp hmn H1 HX1 (by omega) hc1 (fun h3 pa3 L3 H3 g3 g4 hF3 => ⟨_, rfl, ⟨fun _ => ⟨fun h0 => ?_, fun h0 => ?_⟩, fun he => absurd (no_if he) (by rw [c1]; decide)⟩⟩)
          · rw [if_pos (hl2.mp h0)] at hr
            cases hr
            have := hq h3 pa3 L3 H3 g3 g4 (hF1.tt hF3)
            rw [c1] at this
            exact this
          · have hodd : ¬ mnS (sgn tx tl 40) 40 p % 2 = 0 := fun z => h0 (hl2.mpr z)
            rw [if_neg hodd] at hr
            cases hr
            have eL3 := g3 c1
            subst eL3
            have hl3 : (L ++ r1.pt).length < 40 := by rw [List.length_append]; omega
            refine ⟨H3.1.i.mpr trivial, t_addP H3 hl3 (fun h4 pa4 H4 hF4 => ⟨rfl, ?_⟩)⟩
            have := hq h4 pa4 _ H4 (fun _ => by simp [List.append_assoc]) (by rw [List.length_append]; simp only [List.length_cons, List.length_nil]; omega) ((hF1.tt hF3).tt hF4)
            exact this
      suffices G : ∀ k i (h1 : pz_H) (l2 : Int32), i + k = 40 → i + mnS (sgn tx tl 40) k (p + i) = mnS (sgn tx tl 40) 40 p → (l2 = 0 ↔ i % 2 = 0) → (l2 = 0 ∨ l2 = 1) → RulP h1 q pa sk th L (p + i) t → p + i ≤ 40 → Fr [q, q + 1] h h1 → pz_V mX5_readSigned pz_T Q (d' + 1) bc bs 4 [(0, .ref q), (1, .int (nI dp)), (2, .int l2), (3, .int (nI i))] [] h1 from G 40 0 h 0 rfl (Nat.zero_add _) ⟨fun _ => rfl, fun _ => rfl⟩ (Or.inl rfl) H hp Fr.rf
      intro k
      induction k with
      | zero =>
        intro i h1 l2 hi hm hl2 hl3 H1 hpi hF1
        have ei : i = 40 := hi
        have em : i = mnS (sgn tx tl 40) 40 p := hm
        refine wX5_readSigned_4 h2 ⟨fun _ => ⟨H1.1.i.mpr trivial, thing h1 l2 (by rw [← em]; exact hl2) (by rw [← em]; exact H1) hF1⟩, fun hcc => absurd (by rw [ei]; exact nI_le (a := 40) (b := 40) (by decide) (by decide)) hcc⟩
      | succ k ihk =>
        intro i h1 l2 hi hm hl2 hl3 H1 hpi hF1
        have HX1 := txF HX hF1 hqt
        refine wX5_readSigned_4 h2 ⟨fun hcc => absurd hcc (nI_ge (b := 40) (by omega) (by decide)), fun _ => ⟨H1.1.i.mpr trivial, t_hereR H1 HX1 hx htl hpi (Nat.le_refl _) ⟨_, rfl, ⟨fun hne => ?_, fun he => ?_⟩⟩⟩⟩
        · have e0 : mnS (sgn tx tl 40) (k + 1) (p + i) = 0 := by
            show (if sgn tx tl 40 (p + i) = 45 then _ else 0) = 0
            rw [if_neg hne]
          rw [e0] at hm
          have em : i = mnS (sgn tx tl 40) 40 p := hm
          exact ⟨H1.1.i.mpr trivial, thing h1 l2 (by rw [← em]; exact hl2) (by rw [← em]; exact H1) hF1⟩
        · have e1 : mnS (sgn tx tl 40) (k + 1) (p + i) = mnS (sgn tx tl 40) k (p + i + 1) + 1 := by
            show (if sgn tx tl 40 (p + i) = 45 then _ else 0) = _
            rw [if_pos he]
          rw [e1] at hm
          have hlt := sg_lt hs he (by decide)
          refine ⟨fun h0 => t_inc H1 (fun h3 H3 hF3 => ?_), fun h0 => t_inc H1 (fun h3 H3 hF3 => ?_)⟩
          · rw [nI_1]
            exact ihk (i + 1) h3 0 (by omega) (by rw [← hm]; show i + 1 + mnS (sgn tx tl 40) k (p + (i + 1)) = _; rw [← Nat.add_assoc p i 1]; omega) ⟨fun _ => by have : ¬ i % 2 = 0 := fun z => h0 (hl2.mpr z); omega, fun _ => rfl⟩ (Or.inl rfl) H3 (by omega) (hF1.tt hF3)
          · rw [nI_1]
            exact ihk (i + 1) h3 1 (by omega) (by rw [← hm]; show i + 1 + mnS (sgn tx tl 40) k (p + (i + 1)) = _; rw [← Nat.add_assoc p i 1]; omega) ⟨fun z => absurd z (by decide), fun z => by have := hl2.mp h0; omega⟩ (Or.inr rfl) H3 (by omega) (hF1.tt hF3)
    · -- thing
      intro dp p h pa L r Q d bc bs hr hdp hp H HX hL hc hq
      rw [prs_e6] at hr
      obtain ⟨d', rfl⟩ : ∃ d', d = d' + 1 := ⟨d - 1, by unfold costP at hc; simp at hc; omega⟩
      have h3 : 3 ≤ d' + 1 := by unfold costP at hc; simp at hc; omega
      refine wX5_readThing_0 h3 ⟨H.1.i.mpr trivial, t_hereR H HX hx htl hp (Nat.le_refl _) ⟨_, rfl, ⟨fun hd0 => ?_, fun hd0 => ?_⟩⟩⟩
      · rw [if_neg (fun z => z hd0)] at hr
        refine ⟨fun hne => ?_, fun he => ?_⟩
        · rw [if_neg hne] at hr
          have letter : ∀ {x4 : Int32}, x4 = letK (sgn tx tl 40 p) → ((¬ x4 = ((-1 : Int32)) → pz_gI h q 5 5 (fun (x5 : Int32) => pz_pF h q 5 5 (.int (x5 + ((1 : Int32)))) (fun (h6 : pz_H) => pz_is h6 q 5 ∧ (pz_kv mX5_addPart 0 0 0 (.ref q :: [.int (((1000 : Int32)) + x4)]) h6 (fun (h7 : pz_H) => Q (some (.int 1)) h7))))) ∧ (x4 = ((-1 : Int32)) → Q (some (.int 0)) h)) := by
            intro x4 hx4
            subst hx4
            refine ⟨fun hn1 => ?_, fun he1 => ?_⟩
            · rw [if_neg hn1] at hr
              have hlt : p < 40 := by
                rcases Nat.lt_or_ge p 40 with z | z
                · exact z
                · exact absurd (by rw [hs _ z]; decide) hn1
              refine t_inc H (fun h2 H2 hF2 => ⟨H2.1.i.mpr trivial, t_addP H2 (by omega) (fun h4 pa4 H4 hF4 => ⟨rfl, ?_⟩)⟩)
              cases hr
              exact hq h4 pa4 _ H4 (fun _ => rfl) (by rw [List.length_append]; simp only [List.length_cons, List.length_nil]; omega) (hF2.tt hF4)
            · rw [if_pos he1] at hr
              cases hr
              exact hq h pa L H (fun z => by cases z) (by omega) Fr.rf
          refine wX5_thingOf_0 ⟨fun e => ⟨_, rfl, letter ?_⟩, fun e => ⟨_, rfl, letter ?_⟩, fun e => ⟨_, rfl, letter ?_⟩, fun e => ⟨_, rfl, letter ?_⟩, fun e => ⟨_, rfl, letter ?_⟩, fun e => ⟨_, rfl, letter ?_⟩, fun e => ⟨_, rfl, letter ?_⟩⟩
          · unfold letK; rw [if_pos e]
          · unfold letK; rw [if_neg (by omega), if_pos e]
          · unfold letK; rw [if_neg (by omega), if_neg (by omega), if_pos e]
          · unfold letK; rw [if_neg (by omega), if_neg (by omega), if_neg (by omega), if_pos e]
          · unfold letK; rw [if_neg (by omega), if_neg (by omega), if_neg (by omega), if_neg (by omega), if_pos e]
          · unfold letK; rw [if_neg (by omega), if_neg (by omega), if_neg (by omega), if_neg (by omega), if_neg (by omega), if_pos e]
          · unfold letK; rw [if_neg (by omega), if_neg (by omega), if_neg (by omega), if_neg (by omega), if_neg (by omega), if_neg (by omega)]
        · rw [if_pos he] at hr
          have hlt := sg_lt hs he (by decide)
          refine ⟨fun h4 => ?_, fun h4 => ?_⟩
          · have hd4 : 4 ≤ dp := by
              rcases Nat.lt_or_ge dp 4 with z | z
              · exact absurd h4 (nI_ge (b := 4) z (by decide))
              · exact z
            rw [if_pos hd4] at hr
            cases hr
            exact hq h pa L H (fun z => by cases z) (by omega) Fr.rf
          · have hd4 : ¬ 4 ≤ dp := fun z => h4 (nI_le (a := 4) z (by omega))
            rw [if_neg hd4] at hr
            rw [nI_1]
            obtain ⟨d2, rfl⟩ : ∃ d2, d' = d2 + 1 := ⟨d' - 1, by omega⟩
            have hc2 : costP 0 (dp + 1) ≤ d2 := by unfold costP at hc ⊢; simp at hc ⊢; omega
            refine ⟨H.1.i.mpr trivial, wX5_readInside_0 (by unfold costP at hc2; simp at hc2; omega) (t_inc H (fun h2 H2 hF2 => ⟨H2.1.i.mpr trivial, ?_⟩))⟩
            have HX2 := txF HX hF2 hqt
            have hx0 : ∀ {h9 : pz_H}, (∀ (Z : Prop), Z → Z) → Q (some (.int 0)) h9 → ∃ x : Int32, some (Value.int 0) = some (Value.int x) ∧ ((x = 0 → Q (some (.int 0)) h9) ∧ (¬ x = 0 → Q (some (.int 1)) h9)) := fun _ z => ⟨0, rfl, ⟨fun _ => z, fun hcc => absurd rfl hcc⟩⟩
            have hx1 : ∀ {h9 : pz_H}, Q (some (.int 1)) h9 → ∃ x : Int32, some (Value.int 1) = some (Value.int x) ∧ ((x = 0 → Q (some (.int 0)) h9) ∧ (¬ x = 0 → Q (some (.int 1)) h9)) := fun z => ⟨1, rfl, ⟨fun hcc => absurd hcc (by decide), fun _ => z⟩⟩
            rcases pBind_t hr with ⟨r1, e1, c1, rfl⟩ | ⟨r1, e1, c1, hr⟩
            · refine iE (dp + 1) (p + 1) h2 pa L r _ _ 0 0 e1 (by omega) (by omega) H2 HX2 (by omega) hc2 (fun h3 pa3 L3 H3 g3 g4 hF3 => ⟨_, rfl, ⟨fun _ => hx0 (fun _ z => z) ?_, fun hne => absurd (ok_if hne) (by rw [c1]; decide)⟩⟩)
              have := hq h3 pa3 L3 H3 (fun z => by rw [c1] at z; cases z) g4 (hF2.tt hF3)
              rw [c1] at this
              exact this
            · have pos1 := prs_pos hs f 0 (dp + 1) (p + 1) _ _ r1 (by decide) (by omega) e1
              refine iE (dp + 1) (p + 1) h2 pa L r1 _ _ 0 0 e1 (by omega) (by omega) H2 HX2 (by omega) hc2 (fun h3 pa3 L3 H3 g3 g4 hF3 => ⟨_, rfl, ⟨fun he0 => absurd (no_if he0) (by rw [c1]; decide), fun _ => ⟨H3.1.i.mpr trivial, t_hereR H3 (txF HX2 hF3 hqt) hx htl pos1.1 (Nat.le_refl _) ⟨_, rfl, ⟨fun h41 => ?_, fun h41 => ?_⟩⟩⟩⟩⟩)
              · rw [if_pos h41] at hr
                refine t_inc H3 (fun h5 H5 hF5 => hx1 ?_)
                cases hr
                exact hq h5 pa3 L3 H5 (fun _ => g3 c1) g4 ((hF2.tt hF3).tt hF5)
              · rw [if_neg h41] at hr
                cases hr
                exact hx0 (fun _ z => z) (hq h3 pa3 L3 H3 (fun z => by cases z) g4 (hF2.tt hF3))
      · rw [if_pos hd0] at hr
        cases hr
        refine ⟨H.1.i.mpr trivial, wX5_readNumber_0 (Nat.le_refl _) ?_⟩
        have hlt : p < 40 := by
          rcases Nat.lt_or_ge p 40 with z | z
          · exact z
          · exact absurd (by rw [hs _ z]; decide) hd0
        suffices G : ∀ k i p1 a (h1 : pz_H), i + k = 3 → p ≤ p1 → (i = 0 ∧ p1 = p ∨ p < p1) → p1 ≤ 40 → numN (sgn tx tl 40) k p1 a = numN (sgn tx tl 40) 3 p 0 → RulP h1 q pa sk th L p1 t → Fr [q, q + 1] h h1 → pz_V mX5_readNumber pz_T (fun r h' => r = none ∧ Q (some (.int 1)) h') 2 0 0 4 [(0, .ref q), (1, .int a), (2, .int (nI i))] [] h1 from G 3 0 p 0 h rfl (Nat.le_refl _) (Or.inl ⟨rfl, rfl⟩) hp rfl H Fr.rf
        -- the end
        have fin : ∀ p1 a (h1 : pz_H), p < p1 → (p1, a) = numN (sgn tx tl 40) 3 p 0 → RulP h1 q pa sk th L p1 t → Fr [q, q + 1] h h1 → pz_kv mX5_addPart 0 0 0 (.ref q :: [.int a]) h1 (fun (h4 : pz_H) => (none : Option Value) = none ∧ Q (some (.int 1)) h4) := by
          intro p1 a h1 hpp he H1 hF1
          refine t_addP H1 (by omega) (fun h4 pa4 H4 hF4 => ⟨rfl, rfl, ?_⟩)
          rw [← he] at hq
          exact hq h4 pa4 _ H4 (fun _ => rfl) (by rw [List.length_append]; simp only [List.length_cons, List.length_nil]; omega) (hF1.tt hF4)
        intro k
        induction k with
        | zero =>
          intro i p1 a h1 hi hpp hor hp1 hn H1 hF1
          have ei : i = 3 := hi
          subst ei
          exact wX5_readNumber_4 (Nat.le_refl _) ⟨fun _ => ⟨H1.1.i.mpr trivial, fin p1 a h1 (by omega) hn H1 hF1⟩, fun hcc => absurd (nI_le (a := 3) (b := 3) (by decide) (by decide)) hcc⟩
        | succ k ihk =>
          intro i p1 a h1 hi hpp hor hp1 hn H1 hF1
          have HX1 := txF HX hF1 hqt
          have en : numN (sgn tx tl 40) (k + 1) p1 a = if ¬ eX9_isDigit (sgn tx tl 40 p1) = 0 then numN (sgn tx tl 40) k (p1 + 1) (10 * a + sgn tx tl 40 p1 - 48) else (p1, a) := rfl
          rw [en] at hn
          refine wX5_readNumber_4 (Nat.le_refl _) ⟨fun hcc => absurd hcc (nI_ge (b := 3) (by omega) (by decide)), fun _ => ⟨H1.1.i.mpr trivial, t_hereR H1 HX1 hx htl hp1 (Nat.le_refl _) ⟨_, rfl, ⟨fun hz => ?_, fun hz => ⟨H1.1.i.mpr trivial, t_hereR H1 HX1 hx htl hp1 (Nat.le_refl _) ⟨_, rfl, t_inc H1 (fun h2 H2 hF2 => ?_)⟩⟩⟩⟩⟩⟩
          · rw [if_neg (fun z => z hz)] at hn
            have : p < p1 := by
              rcases hor with ⟨-, e⟩ | e
              · rw [e] at hz
                exact absurd hz hd0
              · exact e
            exact ⟨H1.1.i.mpr trivial, fin p1 a h1 this hn H1 hF1⟩
          · rw [if_pos hz] at hn
            rw [nI_1]
            have hlt1 : p1 < 40 := by
              rcases Nat.lt_or_ge p1 40 with z | z
              · exact z
              · exact absurd (by rw [hs _ z]; decide) hz
            exact ihk (i + 1) (p1 + 1) _ h2 (by omega) (by omega) (Or.inr (by omega)) (by omega) hn H2 (hF1.tt hF2)
end RD
