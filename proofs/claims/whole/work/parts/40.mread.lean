/-! ===== the reference reads a rule, and works it out ===== -/
def TxB (N : Nat) (fb : Nat → Int32) (tx : Nat → Nat) : Prop := ∀ j, j < N → fb j &&& 255 = nI (tx j) ∧ (tx j < 128 → fb j = nI (tx j)) ∧ tx j < 256
def costM (m dp p : Nat) : Nat := (if m = 0 then 3 else if m = 1 ∨ m = 2 then 2 else if m = 3 ∨ m = 4 then 1 else 0) + ((41 - p) + 4 * (4 - dp) + 5)
theorem in_digit (c : Int32) : eX10_in c 48 57 = eX9_isDigit c := rfl
theorem letter_eq (c : Int32) : eX10_letterOf c = letK c := by
  unfold eX10_letterOf letK
  have e : ∀ k : Nat, k < 200 → (c = nI k ↔ c.toInt = k) := fun k hk => by
    rw [eq_i]
    have := Bt.lit (n := k) (by omega)
    have h1 := this.1
    have h2 := this.2
    omega
  have e1 : c = 108 ↔ c.toInt = 108 := e 108 (by decide)
  have e2 : c = 98 ↔ c.toInt = 98 := e 98 (by decide)
  have e3 : c = 104 ↔ c.toInt = 104 := e 104 (by decide)
  have e4 : c = 116 ↔ c.toInt = 116 := e 116 (by decide)
  have e5 : c = 107 ↔ c.toInt = 107 := e 107 (by decide)
  have e6 : c = 110 ↔ c.toInt = 110 := e 110 (by decide)
  by_cases c1 : c.toInt = 108
  · rw [if_pos (e1.mpr c1), if_neg (by omega), if_neg (by omega), if_neg (by omega), if_pos c1]
  · rw [if_neg (fun z => c1 (e1.mp z))]
    by_cases c2 : c.toInt = 98
    · rw [if_pos (e2.mpr c2), if_pos c2]
    · rw [if_neg (fun z => c2 (e2.mp z)), if_neg c2]
      by_cases c3 : c.toInt = 104
      · rw [if_pos (e3.mpr c3), if_pos c3]
      · rw [if_neg (fun z => c3 (e3.mp z)), if_neg c3]
        by_cases c4 : c.toInt = 116
        · rw [if_pos (e4.mpr c4), if_neg (by omega), if_neg (by omega), if_neg (by omega), if_pos c4]
        · rw [if_neg (fun z => c4 (e4.mp z))]
          by_cases c5 : c.toInt = 107
          · rw [if_pos (e5.mpr c5), if_pos c5]
          · rw [if_neg (fun z => c5 (e5.mp z)), if_neg c5, if_neg c1]
            by_cases c6 : c.toInt = 110
            · rw [if_pos (e6.mpr c6), if_pos c6]
            · rw [if_neg (fun z => c6 (e6.mp z)), if_neg c6, if_neg c4]
theorem add_sub (a b c : Int32) : a + b - c = a + (b - c) := by
  rw [Int32.sub_eq_add_neg, Int32.sub_eq_add_neg, Int32.add_assoc]
section MR
variable {Ex : State → Nat → Prop} {Q : Option Value → pz_H → Prop} {d bc bs : Nat} {h h' : pz_H} {m n ty rm q le N : Nat} {tr : Int32} {ru ot rs um gm : Nat} {ia lo lm dw cm : Int32} {fb : Nat → Int32} {tx : Nat → Nat} {as_ : Nat → Int32}
variable {tp : Nat}
/-- a reader that stands at p; w: the sign at fault, -1 if none -/
abbrev MPd (h : pz_H) (m n ty rm q le tp : Nat) (tr : Int32) (ru ot rs : Nat) (ia : Int32) (um : Nat) (lo lm : Int32) (gm : Nat) (dw cm : Int32) (p : Nat) (w : Int32) : Prop := Mob h m n ty rm tr (some q) le (nI tp) p w ru ot rs ia um lo lm gm dw cm
theorem fine_1 : ¬ eX10_fine (-1) = 0 := by decide
theorem fine_0 {p : Nat} (hp : p < 2 ^ 31) : eX10_fine (nI p) = 0 := by
  unfold eX10_fine
  rw [if_neg]
  intro e
  have h1 : (0 : Int32) ≤ nI p := nI_pos' hp
  rw [e] at h1
  exact absurd h1 (by decide)
theorem m_here {p : Nat} {w : Int32} (H : MPd h m n ty rm q le tp tr ru ot rs ia um lo lm gm dw cm p w) (HB : h.2 q = some (aB N fb)) (hx : TxB le fb tx) (hle : le ≤ N) (hN : N ≤ 80) (htp : tp < 1000) (hp : p < 2000) (hq : Q (some (.int (sgn tx le tp p))) h) : pz_V mX10_here Ex Q d bc bs 0 [(0, .ref m)] [] h := by
  unfold sgn at hq
  refine wX10_here_0 (H.g13.mpr (H.g11.mpr ⟨fun hc => ?_, fun hc => H.g13.mpr (H.g12.mpr ⟨fun hc2 => ?_, fun hc2 => ?_⟩)⟩))
  · rw [if_neg (fun z => absurd hc (nI_ge z.1 (by omega)))] at hq; exact hq
  · rw [if_neg (fun z => absurd hc2 (nI_ge z.2 (by omega)))] at hq; exact hq
  · have h1 : p < le := by
      rcases Nat.lt_or_ge p le with z | z
      · exact z
      · exact absurd (nI_le z (by omega)) hc
    have h2 : p < tp := by
      rcases Nat.lt_or_ge p tp with z | z
      · exact z
      · exact absurd (nI_le z (by omega)) hc2
    rw [if_pos ⟨h1, h2⟩] at hq
    refine (H.h10 rfl).mpr (H.g13.mpr ((rB_eq HB).mpr ⟨vin (by omega) (by omega), ?_⟩))
    rw [clamp (by omega), (hx p (by omega)).1]
    exact hq
theorem m_fault {p : Nat} {w : Int32} (H : MPd h m n ty rm q le tp tr ru ot rs ia um lo lm gm dw cm p w) {v : Int32} (hd : 1 ≤ d) (hq : ∀ h' w', MPd h' m n ty rm q le tp tr ru ot rs ia um lo lm gm dw cm p w' → (w = -1 → w' = v) → (eX10_fine w = 0 → w' = w) → Fr [m] h h' → Q none h') : pz_V mX10_fault Ex Q d bc bs 0 [(0, .ref m), (1, .int v)] [] h := by
  refine wX10_fault_0 hd ⟨H.i.mpr trivial, H.g14.mpr ⟨fun hf => hq h w H (fun e => by rw [e] at hf; exact absurd hf fine_1) (fun _ => rfl) Fr.rf, fun hf => H.p14.mpr ?_⟩⟩
  exact hq _ v (H.u14 v) (fun _ => rfl) (fun z => absurd z hf) (fr_1 (by simp))
theorem m_passes {p : Nat} {w : Int32} {c : Int32} (H : MPd h m n ty rm q le tp tr ru ot rs ia um lo lm gm dw cm p w) (HB : h.2 q = some (aB N fb)) (hx : TxB le fb tx) (hle : le ≤ N) (hN : N ≤ 80) (htp : tp < 1000) (hp : p < 2000) (hd : 1 ≤ d)
    (hno : eX10_fine w = 0 → Q (some (.int 0)) h) (hyes : w = -1 → sgn tx le tp p = c → ∀ h', MPd h' m n ty rm q le tp tr ru ot rs ia um lo lm gm dw cm (p + 1) (-1) → Fr [m] h h' → Q (some (.int 1)) h') (hnot : w = -1 → ¬ sgn tx le tp p = c → Q (some (.int 0)) h) (hw : w = -1 ∨ eX10_fine w = 0) : pz_V mX10_passes Ex Q d bc bs 0 [(0, .ref m), (1, .int c)] [] h := by
  refine wX10_passes_0 hd ⟨H.i.mpr trivial, H.g14.mpr ⟨hno, fun hf => ?_⟩⟩
  rcases hw with rfl | z
  · refine ⟨H.i.mpr trivial, m_here H HB hx hle hN htp hp ⟨_, rfl, ⟨fun he => H.g13.mpr (H.p13.mpr ?_), fun hne => hnot rfl hne⟩⟩⟩
    rw [nI_1]
    exact hyes rfl he _ (H.u13 (p + 1)) (fr_1 (by simp))
  · exact absurd z hf
theorem m_oneOf {p k c : Nat} (H : MPd h m n ty rm q le tp tr ru ot rs ia um lo lm gm dw cm p (-1)) (HB : h.2 q = some (aB N fb)) (hx : TxB le fb tx) (hle : le ≤ N) (hN : N ≤ 80) (htp : tp < 1000) (hp : p < 2000) (hmq : q ≠ m) (hck : c + k ≤ 128) (hk : 0 < k) (hd : 2 ≤ d)
    (hyes : ∀ j, j < k → sgn tx le tp p = nI (c + j) → ∀ h', MPd h' m n ty rm q le tp tr ru ot rs ia um lo lm gm dw cm (p + 1) (-1) → Fr [m] h h' → Q (some (.int (sgn tx le tp p - nI c))) h') (hno : (¬ ∃ j, j < k ∧ sgn tx le tp p = nI (c + j)) → ∀ h', MPd h' m n ty rm q le tp tr ru ot rs ia um lo lm gm dw cm p (nI p) → Fr [m] h h' → Q (some (.int 0)) h') : pz_V mX10_oneOf Ex Q d bc bs 0 [(0, .ref m), (1, .int (nI c)), (2, .int (nI k))] [] h := by
  refine wX10_oneOf_0 hd ⟨H.i.mpr trivial, H.g14.mpr ⟨fun _ => ⟨H.i.mpr trivial, m_here H HB hx hle hN htp hp ⟨_, rfl, ?_⟩⟩, fun hf => absurd hf fine_1⟩⟩
  have ec : nI c + nI k - (1 : Int32) = nI (c + k - 1) := by
    rw [nI_add]
    obtain ⟨z, hz⟩ : ∃ z, c + k = z + 1 := ⟨c + k - 1, by omega⟩
    rw [hz]
    exact nI_pred z
  rw [ec]
  have hin : ¬ eX10_in (sgn tx le tp p) (nI c) (nI (c + k - 1)) = 0 ↔ ∃ j, j < k ∧ sgn tx le tp p = nI (c + j) := by
    have := within_1 (v := sgn tx le tp p) (lo := c) (hi := c + k - 1) (by omega) (by omega)
    have e : eX10_in (sgn tx le tp p) (nI c) (nI (c + k - 1)) = eX9_isWithin (sgn tx le tp p) (nI c) (nI (c + k - 1)) := rfl
    rw [e, this]
    constructor
    · rintro ⟨z, h1, h2, h3⟩
      exact ⟨z - c, by omega, by rw [h3]; congr 1; omega⟩
    · rintro ⟨j, h1, h2⟩
      exact ⟨c + j, by omega, by omega, h2⟩
  refine ⟨fun hy => ?_, fun hn => H.g13.mpr ⟨H.i.mpr trivial, m_fault H (Nat.le_refl _) (fun h1 w1 H1 g1 _ hF1 => ⟨rfl, ?_⟩)⟩⟩
  · obtain ⟨j, hj, ej⟩ := hin.mp hy
    refine H.g13.mpr (H.p13.mpr ?_)
    rw [nI_1]
    have H2 := H.u13 (p + 1)
    have hpl : p < le ∧ p < tp := by
      unfold sgn at ej
      by_cases z : p < le ∧ p < tp
      · exact z
      · rw [if_neg z] at ej
        have h1 : (0 : Int32) ≤ nI (c + j) := nI_pos' (by omega)
        rw [← ej] at h1
        exact absurd h1 (by decide)
    have et : sgn tx le tp p = nI (tx p) := by unfold sgn; rw [if_pos hpl]
    have htx : tx p = c + j := by
      rw [et] at ej
      exact (nI_inj' (by have := (hx p (by omega)).2.2; omega) (by omega)).mp ej
    have ep : nI (p + 1) - (1 : Int32) = nI p := nI_pred p
    refine (H2.h10 rfl).mpr (H2.g13.mpr ((rB_eq ((put_ne hmq).trans HB)).mpr ?_))
    rw [ep, clamp (by omega), (hx p (by omega)).2.1 (by omega), ← et]
    exact ⟨vin (by omega) (by omega), hyes j hj ej _ H2 (fr_1 (by simp))⟩
  · have e1 := g1 rfl
    subst e1
    exact hno (fun z => absurd hn (hin.mpr z)) h1 H1 hF1
/-- what the reading methods of the reference owe -/
def HGoal (m n ty rm q le : Nat) (tr : Int32) (ru ot rs : Nat) (ia : Int32) (um : Nat) (lo lm : Int32) (gm : Nat) (dw cm : Int32) (N : Nat) (fb : Nat → Int32) (as_ : Nat → Int32) (sg : Nat → Int32) (M : pz_M) (mo f : Nat) : Prop := ∀ (dp p : Nat) (h : pz_H) (r : pP) (Q : Option Value → pz_H → Prop) (d bc bs : Nat), prs sg f mo dp p [] pZ = some r → dp ≤ 4 → p ≤ 40 → MPd h m n ty rm q le 40 tr ru ot rs ia um lo lm gm dw cm p (-1) → h.2 q = some (aB N fb) → h.2 (m + 10) = some (aI 6 as_) → costM mo dp p ≤ d →
  (∀ h' p' w' v, MPd h' m n ty rm q le 40 tr ru ot rs ia um lo lm gm dw cm p' w' → (r.ok = true → w' = -1 ∧ p' = r.ps ∧ v = r.vl (fun j => if ia = 0 then 0 else as_ j)) → (r.ok = false → w' = nI r.ps ∧ p' ≤ 1000) → Fr [m] h h' → Q (some (.int v)) h') → pz_V M pz_T Q d bc bs 0 [(0, .ref m), (1, .int (nI dp))] [] h
def KGoal (m n ty rm q le : Nat) (tr : Int32) (ru ot rs : Nat) (ia : Int32) (um : Nat) (lo lm : Int32) (gm : Nat) (dw cm : Int32) (N : Nat) (fb : Nat → Int32) (as_ : Nat → Int32) (sg : Nat → Int32) (M : pz_M) (mo f : Nat) : Prop := ∀ (dp p : Nat) (h : pz_H) (L : List Int32) (vl : pEnv → Int32) (r : pP) (Q : Option Value → pz_H → Prop) (d bc bs : Nat), prs sg f mo dp p L vl = some r → dp ≤ 4 → p ≤ 40 → MPd h m n ty rm q le 40 tr ru ot rs ia um lo lm gm dw cm p (-1) → h.2 q = some (aB N fb) → h.2 (m + 10) = some (aI 6 as_) → costM mo dp p ≤ d →
  (∀ h' p' w' v, MPd h' m n ty rm q le 40 tr ru ot rs ia um lo lm gm dw cm p' w' → (r.ok = true → w' = -1 ∧ p' = r.ps ∧ v = r.vl (fun j => if ia = 0 then 0 else as_ j)) → (r.ok = false → w' = nI r.ps ∧ p' ≤ 1000) → Fr [m] h h' → Q (some (.int v)) h') → pz_V M pz_T Q d bc bs 6 [(0, .ref m), (1, .int (nI dp)), (2, .int (vl (fun j => if ia = 0 then 0 else as_ j)))] [] h
theorem m_read (hx : TxB le fb tx) (hle : le ≤ N) (hN : N ≤ 80) (hmq : q ≠ m) : ∀ f,
    HGoal m n ty rm q le tr ru ot rs ia um lo lm gm dw cm N fb as_ (sgn tx le 40) mX10_held 0 f ∧ HGoal m n ty rm q le tr ru ot rs ia um lo lm gm dw cm N fb as_ (sgn tx le 40) mX10_sum 1 f ∧ KGoal m n ty rm q le tr ru ot rs ia um lo lm gm dw cm N fb as_ (sgn tx le 40) mX10_sum 2 f ∧ HGoal m n ty rm q le tr ru ot rs ia um lo lm gm dw cm N fb as_ (sgn tx le 40) mX10_product 3 f ∧ KGoal m n ty rm q le tr ru ot rs ia um lo lm gm dw cm N fb as_ (sgn tx le 40) mX10_product 4 f ∧ HGoal m n ty rm q le tr ru ot rs ia um lo lm gm dw cm N fb as_ (sgn tx le 40) mX10_thing 5 f ∧
    (∀ f', f = f' + 1 → HGoal m n ty rm q le tr ru ot rs ia um lo lm gm dw cm N fb as_ (sgn tx le 40) mX10_held 0 f') := by
  have hs : SgOk (sgn tx le 40) := sgk tx le
  generalize hen : (fun j => if ia = 0 then (0 : Int32) else as_ j) = en
  have hen0 : ∀ j, en j = if ia = 0 then (0 : Int32) else as_ j := fun j => by rw [← hen]
  have frB : ∀ {h1 h2 : pz_H}, Fr [m] h1 h2 → h1.2 q = some (aB N fb) → h2.2 q = some (aB N fb) := fun hF e => (hF.2 _ (by simpa using hmq)).trans e
  have frA : ∀ {h1 h2 : pz_H}, Fr [m] h1 h2 → h1.2 (m + 10) = some (aI 6 as_) → h2.2 (m + 10) = some (aI 6 as_) := fun hF e => (hF.2 _ (by simp)).trans e
  intro f
  induction f with
  | zero =>
    refine ⟨?_, ?_, ?_, ?_, ?_, ?_, fun f' e => by omega⟩
    all_goals first
      | (intro dp p h r Q d bc bs hr; rw [prs] at hr; cases hr)
      | (intro dp p h L v r Q d bc bs hr; rw [prs] at hr; cases hr)
  | succ f ih =>
    obtain ⟨iE, iS, iSL, iP, iPL, iT, iE2⟩ := ih
    unfold HGoal KGoal at *
    rw [hen] at *
    refine ⟨?_, ?_, ?_, ?_, ?_, ?_, ?_⟩
    · -- held
      intro dp p h r Q d bc bs hr hdp hp H HB HA hc hq
      rw [prs_e0] at hr
      obtain ⟨d', rfl⟩ : ∃ d', d = d' + 1 := ⟨d - 1, by unfold costM at hc; simp at hc; omega⟩
      have hc1 : costM 1 dp p ≤ d' := by unfold costM at hc ⊢; simp at hc ⊢; omega
      refine wX10_held_0 (by unfold costM at hc; simp at hc; omega) ⟨H.i.mpr trivial, ?_⟩
      -- a fault behind the left side: nothing more is read
      have quiet : ∀ (h1 : pz_H) (p1 : Nat) (w1 x2 : Int32), p1 ≤ 1000 → eX10_fine w1 = 0 → MPd h1 m n ty rm q le 40 tr ru ot rs ia um lo lm gm dw cm p1 w1 → h1.2 q = some (aB N fb) → Q (some (.int x2)) h1 → pz_is h1 m 10 ∧ (pz_ki mX10_passes 1 0 0 (.ref m :: [.int 60]) h1 (fun (x4 : Int32) (h3 : pz_H) => (x4 = 0 → pz_is h3 m 10 ∧ (pz_ki mX10_passes 1 0 0 (.ref m :: [.int 62]) h3 (fun (x6 : Int32) (h5 : pz_H) => (x6 = 0 → pz_is h5 m 10 ∧ (pz_ki mX10_passes 1 0 0 (.ref m :: [.int 61]) h5 (fun (x8 : Int32) (h7 : pz_H) => (x8 = 0 → Q (some (.int x2)) h7) ∧ (¬ x8 = 0 → pz_is h7 m 10 ∧ (pz_ki mX10_sum d' 0 0 (.ref m :: [.int (nI dp)]) h7 (fun (x10 : Int32) (h9 : pz_H) => (¬ x2 = x10 → Q (some (.int 0)) h9) ∧ (x2 = x10 → Q (some (.int 1)) h9))))))) ∧ (¬ x6 = 0 → pz_is h5 m 10 ∧ (pz_ki mX10_sum d' 0 0 (.ref m :: [.int (nI dp)]) h5 (fun (x12 : Int32) (h11 : pz_H) => (x2 ≤ x12 → Q (some (.int 0)) h11) ∧ (¬ x2 ≤ x12 → Q (some (.int 1)) h11))))))) ∧ (¬ x4 = 0 → pz_is h3 m 10 ∧ (pz_ki mX10_sum d' 0 0 (.ref m :: [.int (nI dp)]) h3 (fun (x14 : Int32) (h13 : pz_H) => (x14 ≤ x2 → Q (some (.int 0)) h13) ∧ (¬ x14 ≤ x2 → Q (some (.int 1)) h13)))))) := by
        intro h1 p1 w1 x2 hp1 hf H1 HB1 hQ
        have ps : ∀ (c : Int32) {K : Option Value → pz_H → Prop}, K (some (.int 0)) h1 → pz_V mX10_passes pz_T K 1 0 0 0 [(0, .ref m), (1, .int c)] [] h1 := fun c K hK => wX10_passes_0 (Nat.le_refl _) ⟨H1.i.mpr trivial, H1.g14.mpr ⟨fun _ => hK, fun z => absurd hf z⟩⟩
        exact ⟨H1.i.mpr trivial, ps 60 ⟨_, rfl, ⟨fun _ => ⟨H1.i.mpr trivial, ps 62 ⟨_, rfl, ⟨fun _ => ⟨H1.i.mpr trivial, ps 61 ⟨_, rfl, ⟨fun _ => hQ, fun z => absurd rfl z⟩⟩⟩, fun z => absurd rfl z⟩⟩⟩, fun z => absurd rfl z⟩⟩⟩
      rcases pBind_t hr with ⟨r1, e1, c1, rfl⟩ | ⟨r1, e1, c1, hr⟩
      · refine iS dp p h r _ _ 0 0 e1 hdp hp H HB HA hc1 (fun h1 p1 w1 v1 H1 g1 g2 hF1 => ⟨_, rfl, ?_⟩)
        have pos1 := prs_pos hs f 1 dp p _ _ r (by decide) hp e1
        obtain ⟨z1, z2⟩ := g2 c1
        refine quiet h1 p1 w1 v1 z2 (by rw [z1]; exact fine_0 (by have := pos1.1; omega)) H1 (frB hF1 HB) (hq h1 p1 w1 v1 H1 g1 g2 hF1)
      · have pos1 := prs_pos hs f 1 dp p _ _ r1 (by decide) hp e1
        have pos1' := (pos1.2.2 c1).2 (by decide)
        refine iS dp p h r1 _ _ 0 0 e1 hdp hp H HB HA hc1 (fun h1 p1 w1 v1 H1 g1 g2 hF1 => ⟨_, rfl, ?_⟩)
        obtain ⟨z1, z2, z3⟩ := g1 c1
        subst z1 z2 z3
        have HB1 := frB hF1 HB
        have HA1 := frA hF1 HA
        have hp1 := pos1.1
        -- the right side
        have right : ∀ (h3 : pz_H), (sgn tx le 40 r1.ps = 60 ∨ sgn tx le 40 r1.ps = 62 ∨ sgn tx le 40 r1.ps = 61) → MPd h3 m n ty rm q le 40 tr ru ot rs ia um lo lm gm dw cm (r1.ps + 1) (-1) → Fr [m] h h3 → ∀ (K : Int32 → pz_H → Prop), (∀ x9 (h9 : pz_H), Q (some (.int (joinV (sgn tx le 40 r1.ps) (r1.vl en) x9))) h9 → K x9 h9) → pz_is h3 m 10 ∧ pz_ki mX10_sum d' 0 0 (.ref m :: [.int (nI dp)]) h3 K := by
          intro h3 hop H3 hF3 K hK
          rw [if_neg (fun z => z hop)] at hr
          have hlt : r1.ps < 40 := by
            rcases Nat.lt_or_ge r1.ps 40 with z | z
            · exact z
            · rw [hs _ z] at hop; exact absurd hop (by decide)
          have hc2 : costM 1 dp (r1.ps + 1) ≤ d' := by unfold costM at hc1 ⊢; simp at hc1 ⊢; omega
          refine ⟨H3.i.mpr trivial, ?_⟩
          rcases pBind_t hr with ⟨r2, e2, c2, rfl⟩ | ⟨r2, e2, c2, hr⟩
          · refine iS dp (r1.ps + 1) h3 r _ _ 0 0 e2 hdp (by omega) H3 (frB hF3 HB) (frA hF3 HA) hc2 (fun h5 p5 w5 v5 H5 g5 g6 hF5 => ⟨_, rfl, hK v5 h5 ?_⟩)
            exact hq h5 p5 w5 _ H5 (fun z => by rw [c2] at z; cases z) g6 (hF3.tt hF5)
          · refine iS dp (r1.ps + 1) h3 r2 _ _ 0 0 e2 hdp (by omega) H3 (frB hF3 HB) (frA hF3 HA) hc2 (fun h5 p5 w5 v5 H5 g5 g6 hF5 => ⟨_, rfl, hK v5 h5 ?_⟩)
            obtain ⟨y1, y2, y3⟩ := g5 c2
            cases hr
            exact hq h5 p5 w5 _ H5 (fun _ => ⟨y1, y2, by rw [y3]⟩) (fun z => by cases z) (hF3.tt hF5)
        have e60 : (60 : Int32).toInt = 60 := by decide
        have e61 : (61 : Int32).toInt = 61 := by decide
        have e62 : (62 : Int32).toInt = 62 := by decide
        refine ⟨H1.i.mpr trivial, m_passes H1 HB1 hx hle hN (by decide) (by omega) (Nat.le_refl _) (fun z => absurd z fine_1) (fun _ hs1 h3 H3 hF3 => ⟨_, rfl, ⟨fun z => absurd z (by decide), fun _ => ?_⟩⟩) (fun _ hn1 => ⟨_, rfl, ⟨fun _ => ⟨H1.i.mpr trivial, m_passes H1 HB1 hx hle hN (by decide) (by omega) (Nat.le_refl _) (fun z => absurd z fine_1) (fun _ hs2 h3 H3 hF3 => ⟨_, rfl, ⟨fun z => absurd z (by decide), fun _ => ?_⟩⟩) (fun _ hn2 => ⟨_, rfl, ⟨fun _ => ⟨H1.i.mpr trivial, m_passes H1 HB1 hx hle hN (by decide) (by omega) (Nat.le_refl _) (fun z => absurd z fine_1) (fun _ hs3 h3 H3 hF3 => ⟨_, rfl, ⟨fun z => absurd z (by decide), fun _ => ?_⟩⟩) (fun _ hn3 => ⟨_, rfl, ⟨fun _ => ?_, fun z => absurd rfl z⟩⟩) (Or.inl rfl)⟩, fun z => absurd rfl z⟩⟩) (Or.inl rfl)⟩, fun z => absurd rfl z⟩⟩) (Or.inl rfl)⟩
        · refine right h3 (Or.inl hs1) H3 (hF1.tt hF3) _ (fun x9 h9 hQ => ?_)
          rw [hs1] at hQ
          unfold joinV at hQ
          rw [if_neg (by rw [e60]; decide), if_neg (by rw [e60]; decide), if_neg (by rw [e60]; decide), if_neg (by rw [e60]; decide), if_pos e60] at hQ
          exact ⟨fun z => by rw [if_pos z] at hQ; exact hQ, fun z => by rw [if_neg z] at hQ; exact hQ⟩
        · refine right h3 (Or.inr (Or.inl hs2)) H3 (hF1.tt hF3) _ (fun x9 h9 hQ => ?_)
          rw [hs2] at hQ
          unfold joinV at hQ
          rw [if_neg (by rw [e62]; decide), if_neg (by rw [e62]; decide), if_neg (by rw [e62]; decide), if_neg (by rw [e62]; decide), if_neg (by rw [e62]; decide), if_pos e62] at hQ
          exact ⟨fun z => by rw [if_pos z] at hQ; exact hQ, fun z => by rw [if_neg z] at hQ; exact hQ⟩
        · refine right h3 (Or.inr (Or.inr hs3)) H3 (hF1.tt hF3) _ (fun x9 h9 hQ => ?_)
          rw [hs3] at hQ
          unfold joinV at hQ
          rw [if_neg (by rw [e61]; decide), if_neg (by rw [e61]; decide), if_neg (by rw [e61]; decide), if_neg (by rw [e61]; decide), if_neg (by rw [e61]; decide), if_neg (by rw [e61]; decide)] at hQ
          exact ⟨fun z => by rw [if_neg z] at hQ; exact hQ, fun z => by rw [if_pos z] at hQ; exact hQ⟩
        · rw [if_pos (by rintro (z | z | z); exact hn1 z; exact hn2 z; exact hn3 z)] at hr
          cases hr
          exact hq h1 r.ps (-1) (r.vl en) H1 (fun _ => ⟨rfl, rfl, rfl⟩) (fun z => by rw [c1] at z; cases z) hF1
    · -- sum
      intro dp p h r Q d bc bs hr hdp hp H HB HA hc hq
      rw [prs_e1] at hr
      obtain ⟨d', rfl⟩ : ∃ d', d = d' + 1 := ⟨d - 1, by unfold costM at hc; simp at hc; omega⟩
      have hc1 : costM 3 dp p ≤ d' := by unfold costM at hc ⊢; simp at hc ⊢; omega
      refine wX10_sum_0 (by omega) ⟨H.i.mpr trivial, ?_⟩
      rcases pBind_t hr with ⟨r1, e1, c1, rfl⟩ | ⟨r1, e1, c1, hr⟩
      · refine iP dp p h r _ _ 0 0 e1 hdp hp H HB HA hc1 (fun h1 p1 w1 v1 H1 g1 g2 hF1 => ⟨_, rfl, ?_⟩)
        have pos1 := prs_pos hs f 3 dp p _ _ r (by decide) hp e1
        have z1 := (g2 c1).1
        refine wX10_sum_6 (by omega) ⟨H1.i.mpr trivial, H1.g14.mpr ⟨fun _ => hq h1 p1 w1 v1 H1 g1 g2 hF1, fun z => absurd (by rw [z1]; exact fine_0 (by have := pos1.1; omega)) z⟩⟩
      · have pos1 := prs_pos hs f 3 dp p _ _ r1 (by decide) hp e1
        have pos1' := (pos1.2.2 c1).2 (by decide)
        refine iP dp p h r1 _ _ 0 0 e1 hdp hp H HB HA hc1 (fun h1 p1 w1 v1 H1 g1 g2 hF1 => ⟨_, rfl, ?_⟩)
        obtain ⟨z1, z2, z3⟩ := g1 c1
        subst z1 z2 z3
        exact iSL dp r1.ps h1 r1.pt r1.vl r Q _ bc bs hr hdp pos1.1 H1 (frB hF1 HB) (frA hF1 HA) (by unfold costM at hc ⊢; simp at hc ⊢; omega) (fun h2 p2 w2 v2 H2 g3 g4 hF2 => hq h2 p2 w2 v2 H2 g3 g4 (hF1.tt hF2))
    · -- more of a sum
      intro dp p h L vl r Q d bc bs hr hdp hp H HB HA hc hq
      rw [prs_e2] at hr
      obtain ⟨d', rfl⟩ : ∃ d', d = d' + 1 := ⟨d - 1, by unfold costM at hc; simp at hc; omega⟩
      have e43 : (43 : Int32).toInt = 43 := by decide
      have e45 : (45 : Int32).toInt = 45 := by decide
      have stop : ¬ (sgn tx le 40 p = 43 ∨ sgn tx le 40 p = 45) → Q (some (.int (vl en))) h := by
        intro hno
        rw [if_pos hno] at hr
        cases hr
        exact hq h p (-1) _ H (fun _ => ⟨rfl, rfl, rfl⟩) (fun z => by cases z) Fr.rf
      have right : (sgn tx le 40 p = 43 ∨ sgn tx le 40 p = 45) → ∀ (J : Int32 → Int32), (∀ x9, J x9 = joinV (sgn tx le 40 p) (vl en) x9) → pz_gI h m 10 13 (fun (x3 : Int32) => pz_pF h m 10 13 (.int (x3 + ((1 : Int32)))) (fun (h4 : pz_H) => pz_is h4 m 10 ∧ (pz_ki mX10_product d' 0 0 (.ref m :: [.int (nI dp)]) h4 (fun (x6 : Int32) (h5 : pz_H) => pz_V mX10_sum pz_T Q (d' + 1) bc bs 6 [(0, .ref m), (1, .int (nI dp)), (2, .int (J x6))] [] h5)))) := by
        intro hop J hJ
        rw [if_neg (fun z => z hop)] at hr
        have hlt : p < 40 := by
          rcases Nat.lt_or_ge p 40 with z | z
          · exact z
          · rw [hs _ z] at hop; exact absurd hop (by decide)
        refine H.g13.mpr (H.p13.mpr ?_)
        rw [nI_1]
        have H2 := H.u13 (p + 1)
        have hF2 : Fr [m] h _ := (Fr.rf (h := h)).put (b := m) (e := aO 10 [.ref (m + 1), .int (nI n), .ref (m + 2), .ref (m + 3), .ref (m + 4), .ref (m + 5), .int (nI ty), .ref (m + 6), .int (nI rm), .int tr, va_rf (some q), .int (nI le), .int (nI 40), .int (nI (p + 1)), .int (-1), .ref (m + 7), .ref ru, .ref ot, .int (nI rs), .int ia, .ref (m + 10), .ref (m + 11), .int (nI um), .ref (m + 12), .ref (m + 13), .ref (m + 14), .ref (m + 15), .int lo, .int lm, .ref (m + 16), .ref (m + 17), .ref (m + 18), .ref (m + 19), .int (nI gm), .ref (m + 20), .ref (m + 21), .ref (m + 22), .ref (m + 23), .int dw, .int cm, .ref (m + 24), .ref (m + 25), .ref (m + 26)]) (by simp)
        refine ⟨H2.i.mpr trivial, ?_⟩
        have hc2 : costM 3 dp (p + 1) ≤ d' := by unfold costM at hc ⊢; simp at hc ⊢; omega
        rcases pBind_t hr with ⟨r2, e2, c2, rfl⟩ | ⟨r2, e2, c2, hr⟩
        · refine iP dp (p + 1) _ r _ _ 0 0 e2 hdp (by omega) H2 (frB hF2 HB) (frA hF2 HA) hc2 (fun h5 p5 w5 v5 H5 g5 g6 hF5 => ⟨_, rfl, ?_⟩)
          have pos2 := prs_pos hs f 3 dp (p + 1) _ _ r (by decide) (by omega) e2
          have z1 := (g6 c2).1
          exact wX10_sum_6 (by omega) ⟨H5.i.mpr trivial, H5.g14.mpr ⟨fun _ => hq h5 p5 w5 _ H5 (fun z => by rw [c2] at z; cases z) g6 (hF2.tt hF5), fun z => absurd (by rw [z1]; exact fine_0 (by have := pos2.1; omega)) z⟩⟩
        · have pos2 := prs_pos hs f 3 dp (p + 1) _ _ r2 (by decide) (by omega) e2
          have pos2' := (pos2.2.2 c2).2 (by decide)
          refine iP dp (p + 1) _ r2 _ _ 0 0 e2 hdp (by omega) H2 (frB hF2 HB) (frA hF2 HA) hc2 (fun h5 p5 w5 v5 H5 g5 g6 hF5 => ⟨_, rfl, ?_⟩)
          obtain ⟨y1, y2, y3⟩ := g5 c2
          subst y1 y2 y3
          rw [hJ]
          exact iSL dp r2.ps h5 _ _ r Q _ bc bs hr hdp pos2.1 H5 (frB hF5 (frB hF2 HB)) (frA hF5 (frA hF2 HA)) (by unfold costM at hc ⊢; simp at hc ⊢; omega) (fun h6 p6 w6 v6 H6 g7 g8 hF6 => hq h6 p6 w6 v6 H6 g7 g8 ((hF2.tt hF5).tt hF6))
      have here : ∀ {K : Option Value → pz_H → Prop}, K (some (.int (sgn tx le 40 p))) h → pz_V mX10_here pz_T K 0 0 0 0 [(0, .ref m)] [] h := fun hK => m_here H HB hx hle hN (by decide) (by omega) hK
      have join : (sgn tx le 40 p = 43 ∨ sgn tx le 40 p = 45) → pz_V mX10_sum pz_T Q (d' + 1) bc bs 31 [(0, .ref m), (1, .int (nI dp)), (2, .int (vl en))] [] h := by
        intro hop
        refine wX10_sum_31 (by omega) ⟨H.i.mpr trivial, here ⟨_, rfl, ⟨fun hne => ?_, fun he => ?_⟩⟩⟩
        · have h45 : sgn tx le 40 p = 45 := by rcases hop with z | z; exact absurd z hne; exact z
          refine right hop (fun x6 => vl en - x6) (fun x9 => ?_)
          rw [h45]
          unfold joinV
          rw [if_neg (by rw [e45]; decide), if_neg (by rw [e45]; decide), if_pos e45]
        · refine right hop (fun x6 => vl en + x6) (fun x9 => ?_)
          rw [he]
          unfold joinV
          rw [if_neg (by rw [e43]; decide), if_pos e43]
      refine wX10_sum_6 (by omega) ⟨H.i.mpr trivial, H.g14.mpr ⟨fun z => absurd z fine_1, fun _ => ⟨H.i.mpr trivial, here ⟨_, rfl, ⟨fun e => join (Or.inl e), fun n1 => ⟨H.i.mpr trivial, here ⟨_, rfl, ⟨fun n2 => stop (by rintro (z | z); exact n1 z; exact n2 z), fun e => join (Or.inr e)⟩⟩⟩⟩⟩⟩⟩⟩
    · -- product
      intro dp p h r Q d bc bs hr hdp hp H HB HA hc hq
      rw [prs_e3] at hr
      obtain ⟨d', rfl⟩ : ∃ d', d = d' + 1 := ⟨d - 1, by unfold costM at hc; simp at hc; omega⟩
      have hc1 : costM 5 dp p ≤ d' := by unfold costM at hc ⊢; simp at hc ⊢; omega
      refine wX10_product_0 (by omega) ⟨H.i.mpr trivial, ?_⟩
      rcases pBind_t hr with ⟨r1, e1, c1, rfl⟩ | ⟨r1, e1, c1, hr⟩
      · refine iT dp p h r _ _ 0 0 e1 hdp hp H HB HA hc1 (fun h1 p1 w1 v1 H1 g1 g2 hF1 => ⟨_, rfl, ?_⟩)
        have pos1 := prs_pos hs f 5 dp p _ _ r (by decide) hp e1
        have z1 := (g2 c1).1
        refine wX10_product_6 (by omega) ⟨H1.i.mpr trivial, H1.g14.mpr ⟨fun _ => hq h1 p1 w1 v1 H1 g1 g2 hF1, fun z => absurd (by rw [z1]; exact fine_0 (by have := pos1.1; omega)) z⟩⟩
      · have pos1 := prs_pos hs f 5 dp p _ _ r1 (by decide) hp e1
        have pos1' := (pos1.2.2 c1).2 (by decide)
        refine iT dp p h r1 _ _ 0 0 e1 hdp hp H HB HA hc1 (fun h1 p1 w1 v1 H1 g1 g2 hF1 => ⟨_, rfl, ?_⟩)
        obtain ⟨z1, z2, z3⟩ := g1 c1
        subst z1 z2 z3
        exact iPL dp r1.ps h1 r1.pt r1.vl r Q _ bc bs hr hdp pos1.1 H1 (frB hF1 HB) (frA hF1 HA) (by unfold costM at hc ⊢; simp at hc ⊢; omega) (fun h2 p2 w2 v2 H2 g3 g4 hF2 => hq h2 p2 w2 v2 H2 g3 g4 (hF1.tt hF2))
    · -- more of a product
      intro dp p h L vl r Q d bc bs hr hdp hp H HB HA hc hq
      rw [prs_e4] at hr
      obtain ⟨d', rfl⟩ : ∃ d', d = d' + 1 := ⟨d - 1, by unfold costM at hc; simp at hc; omega⟩
      have e42 : (42 : Int32).toInt = 42 := by decide
      have e47 : (47 : Int32).toInt = 47 := by decide
      have stop : ¬ (sgn tx le 40 p = 42 ∨ sgn tx le 40 p = 47) → Q (some (.int (vl en))) h := by
        intro hno
        rw [if_pos hno] at hr
        cases hr
        exact hq h p (-1) _ H (fun _ => ⟨rfl, rfl, rfl⟩) (fun z => by cases z) Fr.rf
      have here : ∀ {K : Option Value → pz_H → Prop}, K (some (.int (sgn tx le 40 p))) h → pz_V mX10_here pz_T K 0 0 0 0 [(0, .ref m)] [] h := fun hK => m_here H HB hx hle hN (by decide) (by omega) hK
      have join : ∀ s0 : Int32, (s0 = 0 ∧ sgn tx le 40 p = 47 ∨ ¬ s0 = 0 ∧ sgn tx le 40 p = 42) → pz_V mX10_product pz_T Q (d' + 1) bc bs 45 [(0, .ref m), (1, .int (nI dp)), (2, .int (vl en))] [.int s0] h := by
        intro s0 hs0
        have hop : sgn tx le 40 p = 42 ∨ sgn tx le 40 p = 47 := by rcases hs0 with z | z; exact Or.inr z.2; exact Or.inl z.2
        rw [if_neg (fun z => z hop)] at hr
        have hlt : p < 40 := by
          rcases Nat.lt_or_ge p 40 with z | z
          · exact z
          · rw [hs _ z] at hop; exact absurd hop (by decide)
        refine wX10_product_45 (by omega) (H.g13.mpr (H.p13.mpr ?_))
        rw [nI_1]
        have H2 := H.u13 (p + 1)
        have hF2 : Fr [m] h _ := (Fr.rf (h := h)).put (b := m) (e := aO 10 [.ref (m + 1), .int (nI n), .ref (m + 2), .ref (m + 3), .ref (m + 4), .ref (m + 5), .int (nI ty), .ref (m + 6), .int (nI rm), .int tr, va_rf (some q), .int (nI le), .int (nI 40), .int (nI (p + 1)), .int (-1), .ref (m + 7), .ref ru, .ref ot, .int (nI rs), .int ia, .ref (m + 10), .ref (m + 11), .int (nI um), .ref (m + 12), .ref (m + 13), .ref (m + 14), .ref (m + 15), .int lo, .int lm, .ref (m + 16), .ref (m + 17), .ref (m + 18), .ref (m + 19), .int (nI gm), .ref (m + 20), .ref (m + 21), .ref (m + 22), .ref (m + 23), .int dw, .int cm, .ref (m + 24), .ref (m + 25), .ref (m + 26)]) (by simp)
        refine ⟨H2.i.mpr trivial, ?_⟩
        have hc2 : costM 5 dp (p + 1) ≤ d' := by unfold costM at hc ⊢; simp at hc ⊢; omega
        rcases pBind_t hr with ⟨r2, e2, c2, rfl⟩ | ⟨r2, e2, c2, hr⟩
        · refine iT dp (p + 1) _ r _ _ 0 0 e2 hdp (by omega) H2 (frB hF2 HB) (frA hF2 HA) hc2 (fun h5 p5 w5 v5 H5 g5 g6 hF5 => ⟨_, rfl, ?_⟩)
          have pos2 := prs_pos hs f 5 dp (p + 1) _ _ r (by decide) (by omega) e2
          have z1 := (g6 c2).1
          have out : ∀ v : Int32, pz_V mX10_product pz_T Q (d' + 1) bc bs 6 [(0, .ref m), (1, .int (nI dp)), (2, .int v)] [] h5 := fun v => wX10_product_6 (by omega) ⟨H5.i.mpr trivial, H5.g14.mpr ⟨fun _ => hq h5 p5 w5 _ H5 (fun z => by rw [c2] at z; cases z) g6 (hF2.tt hF5), fun z => absurd (by rw [z1]; exact fine_0 (by have := pos2.1; omega)) z⟩⟩
          exact ⟨fun _ => ⟨fun hv => ⟨hv, out _⟩, fun _ => out _⟩, fun _ => out _⟩
        · have pos2 := prs_pos hs f 5 dp (p + 1) _ _ r2 (by decide) (by omega) e2
          have pos2' := (pos2.2.2 c2).2 (by decide)
          refine iT dp (p + 1) _ r2 _ _ 0 0 e2 hdp (by omega) H2 (frB hF2 HB) (frA hF2 HA) hc2 (fun h5 p5 w5 v5 H5 g5 g6 hF5 => ⟨_, rfl, ?_⟩)
          obtain ⟨y1, y2, y3⟩ := g5 c2
          subst y1 y2 y3
          have next := iPL dp r2.ps h5 _ _ r Q (d' + 1) bc bs hr hdp pos2.1 H5 (frB hF5 (frB hF2 HB)) (frA hF5 (frA hF2 HA)) (by unfold costM at hc ⊢; simp at hc ⊢; omega) (fun h6 p6 w6 v6 H6 g7 g8 hF6 => hq h6 p6 w6 v6 H6 g7 g8 ((hF2.tt hF5).tt hF6))
          rcases hs0 with ⟨z0, z47⟩ | ⟨z0, z42⟩
          · rw [z47] at next
            unfold joinV at next
            rw [if_neg (by rw [e47]; decide), if_neg (by rw [e47]; decide), if_neg (by rw [e47]; decide), if_pos e47] at next
            exact ⟨fun _ => ⟨fun hv => ⟨hv, by rw [if_neg hv] at next; exact next⟩, fun hv => by rw [if_pos hv] at next; exact next⟩, fun z => absurd z0 z⟩
          · rw [z42] at next
            unfold joinV at next
            rw [if_pos e42] at next
            exact ⟨fun z => absurd z z0, fun _ => next⟩
      refine wX10_product_6 (by omega) ⟨H.i.mpr trivial, H.g14.mpr ⟨fun z => absurd z fine_1, fun _ => ⟨H.i.mpr trivial, here ⟨_, rfl, ⟨fun e => ⟨H.i.mpr trivial, here ⟨_, rfl, ⟨fun z => absurd e z, fun _ => join 1 (Or.inr ⟨by decide, e⟩)⟩⟩⟩, fun n1 => ⟨H.i.mpr trivial, here ⟨_, rfl, ⟨fun n2 => stop (by rintro (z | z); exact n1 z; exact n2 z), fun e => ⟨H.i.mpr trivial, here ⟨_, rfl, ⟨fun _ => join 0 (Or.inl ⟨rfl, e⟩), fun z => absurd z n1⟩⟩⟩⟩⟩⟩⟩⟩⟩⟩⟩
    · -- thing, with its signs
      intro dp p h r Q d bc bs hr hdp hp H HB HA hc hq
      rw [prs_e5] at hr
      -- without a sign
      have core : ∀ (p0 : Nat) (h0 : pz_H) (r1 : pP) (Q0 : Option Value → pz_H → Prop) (d0 bc0 bs0 : Nat), prs (sgn tx le 40) f 6 dp p0 [] pZ = some r1 → p0 ≤ 40 → ¬ sgn tx le 40 p0 = 45 → MPd h0 m n ty rm q le 40 tr ru ot rs ia um lo lm gm dw cm p0 (-1) → h0.2 q = some (aB N fb) → h0.2 (m + 10) = some (aI 6 as_) → costM 6 dp p0 ≤ d0 → (∀ h' p' w' v, MPd h' m n ty rm q le 40 tr ru ot rs ia um lo lm gm dw cm p' w' → (r1.ok = true → w' = -1 ∧ p' = r1.ps ∧ v = r1.vl en) → (r1.ok = false → w' = nI r1.ps ∧ p' ≤ 1000) → Fr [m] h0 h' → Q0 (some (.int v)) h') → pz_V mX10_thing pz_T Q0 d0 bc0 bs0 0 [(0, .ref m), (1, .int (nI dp))] [] h0 := by
        intro p0 h0 r1 Q0 d0 bc0 bs0 hr1 hp0 hn45 H0 HB0 HA0 hc0 hq0
        obtain ⟨f', rfl⟩ : ∃ f', f = f' + 1 := by
          cases f with
          | zero => rw [prs] at hr1; cases hr1
          | succ f' => exact ⟨f', rfl⟩
        rw [prs_e6] at hr1
        obtain ⟨d', rfl⟩ : ∃ d', d0 = d' + 1 := ⟨d0 - 1, by unfold costM at hc0; simp at hc0; omega⟩
        have h4 : 4 ≤ d' + 1 := by unfold costM at hc0; simp at hc0; omega
        have here : ∀ {K : Option Value → pz_H → Prop}, K (some (.int (sgn tx le 40 p0))) h0 → pz_V mX10_here pz_T K 0 0 0 0 [(0, .ref m)] [] h0 := fun hK => m_here H0 HB0 hx hle hN (by decide) (by omega) hK
        -- no digit, no bracket that opens: a letter, or a fault
        have tail : (eX9_isDigit (sgn tx le 40 p0) = 0 → (sgn tx le 40 p0 = 40 → 4 ≤ dp)) → pz_V mX10_thing pz_T Q0 (d' + 1) bc0 bs0 67 [(0, .ref m), (2, .int (sgn tx le 40 p0))] [] h0 := by
          intro hpar
          refine wX10_thing_67 h4 ⟨fun hd0 => ?_, fun hd0 => ?_⟩
          · rw [in_digit] at hd0
            rw [if_neg (fun z => z hd0)] at hr1
            rw [letter_eq]
            have bad : r1 = (false, p0, [], pZ) → pz_gI h0 m 10 13 (fun (x6 : Int32) => pz_is h0 m 10 ∧ (pz_kv mX10_fault 1 0 0 (.ref m :: [.int x6]) h0 (fun (h7 : pz_H) => Q0 (some (.int 0)) h7))) := by
              intro e
              subst e
              refine H0.g13.mpr ⟨H0.i.mpr trivial, m_fault H0 (Nat.le_refl _) (fun h1 w1 H1 g1 _ hF1 => ⟨rfl, ?_⟩)⟩
              exact hq0 h1 p0 w1 0 H1 (fun z => by cases z) (fun _ => ⟨g1 rfl, by omega⟩) hF1
            by_cases c40 : sgn tx le 40 p0 = 40
            · rw [if_pos c40, if_pos (hpar hd0 c40)] at hr1
              refine ⟨fun hl => absurd (by rw [c40]; decide) hl, fun _ => bad (Option.some.inj hr1).symm⟩
            · rw [if_neg c40] at hr1
              refine ⟨fun hl => ?_, fun hl => ?_⟩
              · rw [if_neg hl] at hr1
                cases hr1
                refine H0.g13.mpr (H0.p13.mpr ?_)
                rw [nI_1]
                have H2 := H0.u13 (p0 + 1)
                have hF2 : Fr [m] h0 _ := (Fr.rf (h := h0)).put (b := m) (e := aO 10 [.ref (m + 1), .int (nI n), .ref (m + 2), .ref (m + 3), .ref (m + 4), .ref (m + 5), .int (nI ty), .ref (m + 6), .int (nI rm), .int tr, va_rf (some q), .int (nI le), .int (nI 40), .int (nI (p0 + 1)), .int (-1), .ref (m + 7), .ref ru, .ref ot, .int (nI rs), .int ia, .ref (m + 10), .ref (m + 11), .int (nI um), .ref (m + 12), .ref (m + 13), .ref (m + 14), .ref (m + 15), .int lo, .int lm, .ref (m + 16), .ref (m + 17), .ref (m + 18), .ref (m + 19), .int (nI gm), .ref (m + 20), .ref (m + 21), .ref (m + 22), .ref (m + 23), .int dw, .int cm, .ref (m + 24), .ref (m + 25), .ref (m + 26)]) (by simp)
                refine H2.g19.mpr ⟨fun hz => hq0 _ (p0 + 1) (-1) 0 H2 (fun _ => ⟨rfl, rfl, ?_⟩) (fun z => by cases z) hF2, fun hz => H2.g20.mpr ((rI_eq (frA hF2 HA0)).mpr ⟨?_, ?_⟩)⟩
                · show (0 : Int32) = en (letK (sgn tx le 40 p0)).toNatClampNeg
                  rw [hen0, if_pos hz]
                · rcases letK_cases (sgn tx le 40 p0) with z | ⟨k, hk, z⟩
                  · exact absurd z hl
                  · rw [z]; exact vin hk (by decide)
                · refine hq0 _ (p0 + 1) (-1) _ H2 (fun _ => ⟨rfl, rfl, ?_⟩) (fun z => by cases z) hF2
                  show _ = en (letK (sgn tx le 40 p0)).toNatClampNeg
                  rw [hen0, if_neg hz]
              · rw [if_pos hl] at hr1
                exact bad (Option.some.inj hr1).symm
          · rw [in_digit] at hd0
            rw [if_pos hd0] at hr1
            cases hr1
            refine ⟨H0.i.mpr trivial, wX10_number_0 (Nat.le_refl _) ⟨H0.i.mpr trivial, ?_⟩⟩
            obtain ⟨j0, hj0, ej0⟩ := digit_0.mp hd0
            refine m_oneOf (c := 48) (k := 10) H0 HB0 hx hle hN (by decide) (by omega) hmq (by decide) (by decide) (Nat.le_refl _) (fun j hj ej h1 H1 hF1 => ⟨_, rfl, ?_⟩) (fun hno => absurd ⟨j0, hj0, ej0⟩ hno)
            have hlt0 : p0 < 40 := by
              rcases Nat.lt_or_ge p0 40 with z | z
              · exact z
              · exact absurd (by rw [hs _ z]; decide) hd0
            have en0 : numN (sgn tx le 40) 3 p0 0 = numN (sgn tx le 40) 2 (p0 + 1) (sgn tx le 40 p0 - 48) := by
              show (if ¬ eX9_isDigit (sgn tx le 40 p0) = 0 then numN (sgn tx le 40) 2 (p0 + 1) (10 * 0 + sgn tx le 40 p0 - 48) else (p0, 0)) = _
              rw [if_pos hd0]
              congr 1
              rw [Int32.mul_zero, Int32.zero_add]
            suffices G : ∀ k i p1 a (h2 : pz_H), i + k = 3 → p1 ≤ 40 → numN (sgn tx le 40) k p1 a = numN (sgn tx le 40) 3 p0 0 → MPd h2 m n ty rm q le 40 tr ru ot rs ia um lo lm gm dw cm p1 (-1) → Fr [m] h0 h2 → pz_V mX10_number pz_T (fun r h' => ∃ x : Int32, r = some (.int x) ∧ Q0 (some (.int x)) h') 3 0 0 11 [(0, .ref m), (1, .int 3), (2, .int a), (3, .int (nI i))] [] h2 from G 2 1 (p0 + 1) _ h1 rfl (by omega) en0.symm H1 hF1
            intro k
            induction k with
            | zero =>
              intro i p1 a h2 hi hp1 hnn H2 hF2
              have ei : i = 3 := hi
              subst ei
              have e9 : (p1, a) = numN (sgn tx le 40) 3 p0 0 := hnn
              refine wX10_number_11 (Nat.le_refl _) ⟨fun _ => ⟨_, rfl, hq0 h2 p1 (-1) a H2 (fun _ => ?_) (fun z => by cases z) hF2⟩, fun z => absurd (nI_le (a := 3) (b := 3) (by decide) (by decide)) z⟩
              show -1 = -1 ∧ p1 = (numN (sgn tx le 40) 3 p0 0).1 ∧ a = (numN (sgn tx le 40) 3 p0 0).2
              rw [← e9]
              exact ⟨rfl, rfl, rfl⟩
            | succ k ihk =>
              intro i p1 a h2 hi hp1 hnn H2 hF2
              have HB2 := frB hF2 HB0
              have en1 : numN (sgn tx le 40) (k + 1) p1 a = if ¬ eX9_isDigit (sgn tx le 40 p1) = 0 then numN (sgn tx le 40) k (p1 + 1) (10 * a + sgn tx le 40 p1 - 48) else (p1, a) := rfl
              rw [en1] at hnn
              refine wX10_number_11 (Nat.le_refl _) ⟨fun z => absurd z (nI_ge (b := 3) (by omega) (by decide)), fun _ => ⟨H2.i.mpr trivial, H2.g14.mpr ⟨fun z => absurd z fine_1, fun _ => ⟨H2.i.mpr trivial, m_here H2 HB2 hx hle hN (by decide) (by omega) ⟨_, rfl, ⟨fun hz => ?_, fun hz => ⟨H2.i.mpr trivial, ?_⟩⟩⟩⟩⟩⟩⟩
              · rw [in_digit] at hz
                rw [if_neg (fun z => z hz)] at hnn
                refine ⟨_, rfl, hq0 h2 p1 (-1) a H2 (fun _ => ?_) (fun z => by cases z) hF2⟩
                show -1 = -1 ∧ p1 = (numN (sgn tx le 40) 3 p0 0).1 ∧ a = (numN (sgn tx le 40) 3 p0 0).2
                rw [← hnn]
                exact ⟨rfl, rfl, rfl⟩
              · rw [in_digit] at hz
                rw [if_pos hz] at hnn
                obtain ⟨j1, hj1, ej1⟩ := digit_0.mp hz
                have hlt1 : p1 < 40 := by
                  rcases Nat.lt_or_ge p1 40 with z | z
                  · exact z
                  · exact absurd (by rw [hs _ z]; decide) hz
                refine m_oneOf (c := 48) (k := 10) H2 HB2 hx hle hN (by decide) (by omega) hmq (by decide) (by decide) (Nat.le_refl _) (fun j hj ej h3 H3 hF3 => ⟨_, rfl, ?_⟩) (fun hno => absurd ⟨j1, hj1, ej1⟩ hno)
                dsimp only
                rw [nI_1]
                have e8 : (10 : Int32) * a + (sgn tx le 40 p1 - nI 48) = 10 * a + sgn tx le 40 p1 - 48 := (add_sub _ _ _).symm
                rw [e8]
                exact ihk (i + 1) (p1 + 1) _ h3 (by omega) (by omega) hnn H3 (hF2.tt hF3)
        refine wX10_thing_0 h4 ⟨H0.i.mpr trivial, m_passes H0 HB0 hx hle hN (by decide) (by omega) (Nat.le_refl _) (fun z => absurd z fine_1) (fun _ z => absurd z hn45) (fun _ _ => ⟨_, rfl, ⟨fun _ => ⟨H0.i.mpr trivial, H0.g14.mpr ⟨fun _ => ⟨H0.i.mpr trivial, here ⟨_, rfl, ⟨fun hne => tail (fun _ z => absurd z hne), fun he => ⟨fun h4d => tail (fun _ _ => ?_), fun h4d => ?_⟩⟩⟩⟩, fun z => absurd z fine_1⟩⟩, fun z => absurd rfl z⟩⟩) (Or.inl rfl)⟩
        · rcases Nat.lt_or_ge dp 4 with z | z
          · exact absurd h4d (nI_ge (b := 4) z (by decide))
          · exact z
        · have hd4 : ¬ 4 ≤ dp := fun z => h4d (nI_le (a := 4) z (by omega))
          rw [if_neg (by rw [he]; decide), if_pos he, if_neg hd4] at hr1
          have hlt0 := sg_lt hs he (by decide)
          refine H0.g13.mpr (H0.p13.mpr ?_)
          rw [nI_1, nI_1]
          have H2 := H0.u13 (p0 + 1)
          have hF2 : Fr [m] h0 _ := (Fr.rf (h := h0)).put (b := m) (e := aO 10 [.ref (m + 1), .int (nI n), .ref (m + 2), .ref (m + 3), .ref (m + 4), .ref (m + 5), .int (nI ty), .ref (m + 6), .int (nI rm), .int tr, va_rf (some q), .int (nI le), .int (nI 40), .int (nI (p0 + 1)), .int (-1), .ref (m + 7), .ref ru, .ref ot, .int (nI rs), .int ia, .ref (m + 10), .ref (m + 11), .int (nI um), .ref (m + 12), .ref (m + 13), .ref (m + 14), .ref (m + 15), .int lo, .int lm, .ref (m + 16), .ref (m + 17), .ref (m + 18), .ref (m + 19), .int (nI gm), .ref (m + 20), .ref (m + 21), .ref (m + 22), .ref (m + 23), .int dw, .int cm, .ref (m + 24), .ref (m + 25), .ref (m + 26)]) (by simp)
          refine ⟨H2.i.mpr trivial, ?_⟩
          have hc2 : costM 0 (dp + 1) (p0 + 1) ≤ d' := by unfold costM at hc0 ⊢; simp at hc0 ⊢; omega
          have iE3 := iE2 f' rfl
          rw [hen] at iE3
          rcases pBind_t hr1 with ⟨r2, e2, c2, rfl⟩ | ⟨r2, e2, c2, hr1⟩
          · have pos2 := prs_pos hs f' 0 (dp + 1) (p0 + 1) _ _ r1 (by decide) (by omega) e2
            refine iE3 (dp + 1) (p0 + 1) _ r1 _ _ 0 0 e2 (by omega) (by omega) H2 (frB hF2 HB0) (frA hF2 HA0) hc2 (fun h5 p5 w5 v5 H5 g5 g6 hF5 => ⟨_, rfl, ⟨H5.i.mpr trivial, ?_⟩⟩)
            obtain ⟨z1, z2⟩ := g6 c2
            have zf : eX10_fine w5 = 0 := by rw [z1]; exact fine_0 (by have := pos2.1; omega)
            refine wX10_need_0 (Nat.le_refl _) ⟨H5.i.mpr trivial, m_passes H5 (frB hF5 (frB hF2 HB0)) hx hle hN (by decide) (by omega) (Nat.le_refl _) (fun _ => ⟨_, rfl, ⟨fun z => absurd rfl z, fun _ => H5.g13.mpr ⟨H5.i.mpr trivial, m_fault H5 (Nat.le_refl _) (fun h6 w6 H6 _ g7 hF6 => ⟨rfl, rfl, ?_⟩)⟩⟩⟩) (fun z => by rw [z] at zf; exact absurd zf fine_1) (fun z => by rw [z] at zf; exact absurd zf fine_1) (Or.inr zf)⟩
            have e6 := g7 zf
            subst e6
            exact hq0 h6 p5 _ v5 H6 (fun z => by rw [c2] at z; cases z) (fun _ => ⟨z1, z2⟩) ((hF2.tt hF5).tt hF6)
          · have pos2 := prs_pos hs f' 0 (dp + 1) (p0 + 1) _ _ r2 (by decide) (by omega) e2
            have hp2 := pos2.1
            refine iE3 (dp + 1) (p0 + 1) _ r2 _ _ 0 0 e2 (by omega) (by omega) H2 (frB hF2 HB0) (frA hF2 HA0) hc2 (fun h5 p5 w5 v5 H5 g5 g6 hF5 => ⟨_, rfl, ⟨H5.i.mpr trivial, ?_⟩⟩)
            obtain ⟨y1, y2, y3⟩ := g5 c2
            subst y1 y2 y3
            refine wX10_need_0 (Nat.le_refl _) ⟨H5.i.mpr trivial, m_passes H5 (frB hF5 (frB hF2 HB0)) hx hle hN (by decide) (by omega) (Nat.le_refl _) (fun z => absurd z fine_1) (fun _ h41 h6 H6 hF6 => ⟨_, rfl, ⟨fun _ => ⟨rfl, ?_⟩, fun z => absurd z (by decide)⟩⟩) (fun _ h41 => ⟨_, rfl, ⟨fun z => absurd rfl z, fun _ => H5.g13.mpr ⟨H5.i.mpr trivial, m_fault H5 (Nat.le_refl _) (fun h6 w6 H6 g7 _ hF6 => ⟨rfl, rfl, ?_⟩)⟩⟩⟩) (Or.inl rfl)⟩
            · rw [if_pos h41] at hr1
              cases hr1
              exact hq0 h6 _ _ _ H6 (fun _ => ⟨rfl, rfl, rfl⟩) (fun z => by cases z) ((hF2.tt hF5).tt hF6)
            · rw [if_neg h41] at hr1
              cases hr1
              exact hq0 h6 _ w6 _ H6 (fun z => by cases z) (fun _ => ⟨g7 rfl, by omega⟩) ((hF2.tt hF5).tt hF6)
      -- the signs
      have hmn := mnS_le hs 40 p hp
      have signs : ∀ (r1 : pP) k (p0 : Nat) (h0 : pz_H) (Q0 : Option Value → pz_H → Prop) (d0 bc0 bs0 : Nat), 40 ≤ k + p0 → p0 ≤ 40 → prs (sgn tx le 40) f 6 dp (p0 + mnS (sgn tx le 40) k p0) [] pZ = some r1 → MPd h0 m n ty rm q le 40 tr ru ot rs ia um lo lm gm dw cm p0 (-1) → h0.2 q = some (aB N fb) → h0.2 (m + 10) = some (aI 6 as_) → costM 6 dp p0 ≤ d0 → (∀ h' p' w' v, MPd h' m n ty rm q le 40 tr ru ot rs ia um lo lm gm dw cm p' w' → (r1.ok = true → w' = -1 ∧ p' = r1.ps ∧ v = if mnS (sgn tx le 40) k p0 % 2 = 0 then r1.vl en else - r1.vl en) → (r1.ok = false → w' = nI r1.ps ∧ p' ≤ 1000) → Fr [m] h0 h' → Q0 (some (.int v)) h') → pz_V mX10_thing pz_T Q0 d0 bc0 bs0 0 [(0, .ref m), (1, .int (nI dp))] [] h0 := by
        intro r1 k
        induction k with
        | zero =>
          intro p0 h0 Q0 d0 bc0 bs0 hk hp0 hr1 H0 HB0 HA0 hc0 hq0
          refine core p0 h0 r1 Q0 d0 bc0 bs0 hr1 hp0 (by rw [hs p0 (by omega)]; decide) H0 HB0 HA0 hc0 (fun h' p' w' v H' g1 g2 hF' => hq0 h' p' w' v H' (fun z => ?_) g2 hF')
          obtain ⟨y1, y2, y3⟩ := g1 z
          exact ⟨y1, y2, y3⟩
        | succ k ihk =>
          intro p0 h0 Q0 d0 bc0 bs0 hk hp0 hr1 H0 HB0 HA0 hc0 hq0
          have em : mnS (sgn tx le 40) (k + 1) p0 = if sgn tx le 40 p0 = 45 then mnS (sgn tx le 40) k (p0 + 1) + 1 else 0 := rfl
          by_cases c45 : sgn tx le 40 p0 = 45
          · rw [if_pos c45] at em
            rw [em] at hr1 hq0
            have hlt0 := sg_lt hs c45 (by decide)
            obtain ⟨d', rfl⟩ : ∃ d', d0 = d' + 1 := ⟨d0 - 1, by unfold costM at hc0; simp at hc0; omega⟩
            have h4 : 4 ≤ d' + 1 := by unfold costM at hc0; simp at hc0; omega
            refine wX10_thing_0 h4 ⟨H0.i.mpr trivial, m_passes H0 HB0 hx hle hN (by decide) (by omega) (Nat.le_refl _) (fun z => absurd z fine_1) (fun _ _ h1 H1 hF1 => ⟨_, rfl, ⟨fun z => absurd z (by decide), fun _ => ⟨H1.i.mpr trivial, ?_⟩⟩⟩) (fun _ z => absurd c45 z) (Or.inl rfl)⟩
            refine ihk (p0 + 1) h1 _ d' 0 0 (by omega) (by omega) (by rw [show p0 + 1 + mnS (sgn tx le 40) k (p0 + 1) = p0 + (mnS (sgn tx le 40) k (p0 + 1) + 1) by omega]; exact hr1) H1 (frB hF1 HB0) (frA hF1 HA0) (by unfold costM at hc0 ⊢; simp at hc0 ⊢; omega) (fun h' p' w' v H' g1 g2 hF' => ⟨_, rfl, hq0 h' p' w' (-v) H' (fun z => ?_) g2 (hF1.tt hF')⟩)
            obtain ⟨y1, y2, y3⟩ := g1 z
            refine ⟨y1, y2, ?_⟩
            rw [y3]
            by_cases ev : mnS (sgn tx le 40) k (p0 + 1) % 2 = 0
            · rw [if_pos ev, if_neg (by omega)]
            · rw [if_neg ev, if_pos (by omega), Int32.neg_neg]
          · rw [if_neg c45] at em
            rw [em] at hr1 hq0
            exact core p0 h0 r1 Q0 d0 bc0 bs0 hr1 hp0 c45 H0 HB0 HA0 hc0 (fun h' p' w' v H' g1 g2 hF' => hq0 h' p' w' v H' (fun z => g1 z) g2 hF')
      rcases pBind_t hr with ⟨r1, e1, c1, rfl⟩ | ⟨r1, e1, c1, hr⟩
      · exact signs r 40 p h Q d bc bs (by omega) hp e1 H HB HA (by unfold costM at hc ⊢; simp at hc ⊢; omega) (fun h' p' w' v H' _ g2 hF' => hq h' p' w' v H' (fun z => by rw [c1] at z; cases z) g2 hF')
      · refine signs r1 40 p h Q d bc bs (by omega) hp e1 H HB HA (by unfold costM at hc ⊢; simp at hc ⊢; omega) (fun h' p' w' v H' g1 g2 hF' => ?_)
        obtain ⟨y1, y2, y3⟩ := g1 c1
        by_cases c2 : mnS (sgn tx le 40) 40 p % 2 = 0
        · rw [if_pos c2] at hr y3
          cases hr
          exact hq h' p' w' v H' (fun _ => ⟨y1, y2, y3⟩) g2 hF'
        · rw [if_neg c2] at hr y3
          cases hr
          exact hq h' p' w' v H' (fun _ => ⟨y1, y2, y3⟩) (fun z => by cases z) hF'
    · intro f' e
      have : f = f' := by omega
      subst this
      exact iE
end MR
