/-! ===== what a RULE is worth: the stack machine of Rule.worth ===== -/
def joinV (op a b : Int32) : Int32 :=
  if op.toInt = 42 then a * b else if op.toInt = 43 then a + b else if op.toInt = 45 then a - b else if op.toInt = 47 then (if b = 0 then 0 else a / b) else if op.toInt = 60 then (if b ≤ a then 0 else 1) else if op.toInt = 62 then (if a ≤ b then 0 else 1) else (if a = b then 1 else 0)
def thf (l1 l2 l3 l4 l5 l6 : Int32) : Nat → Int32
  | 0 => l1
  | 1 => l2
  | 2 => l3
  | 3 => l4
  | 4 => l5
  | _ => l6
def tvv (th : Nat → Int32) (x : Int32) : Int32 := if x < 0 then 0 else if (6 : Int32) ≤ x then 0 else th x.toNatClampNeg
abbrev rSt : Type := (Nat → Int32) × Nat
def wpush (th : Nat → Int32) (p : Int32) : Int32 := if (1000 : Int32) ≤ p then tvv th (p - 1000) else p
def wstep (th : Nat → Int32) (p : Int32) (s : rSt) : rSt :=
  if p < 2000 ∧ s.2 < 40 then (upd s.1 s.2 (wpush th p), s.2 + 1)
  else if p = 2033 ∧ 0 < s.2 then (upd s.1 (s.2 - 1) (-(s.1 (s.2 - 1))), s.2)
  else if 1 < s.2 then (upd s.1 (s.2 - 2) (joinV (p - 2000) (s.1 (s.2 - 2)) (s.1 (s.2 - 1))), s.2 - 1)
  else s
def wrun (th pa : Nat → Int32) : Nat → rSt → rSt
  | 0, s => s
  | n + 1, s => wstep th (pa n) (wrun th pa n s)
def wval (pa : Nat → Int32) (len : Nat) (sk : Nat → Int32) (l1 l2 l3 l4 l5 l6 : Int32) : Int32 :=
  if len = 0 then (l1 + 2) / 3 - l3 else (wrun (thf l1 l2 l3 l4 l5 l6) pa len (sk, 0)).1 0
theorem wstep_top (th : Nat → Int32) (p : Int32) (s : rSt) (h : s.2 ≤ 40) : (wstep th p s).2 ≤ 40 := by
  unfold wstep
  split
  · dsimp only; omega
  · split
    · exact h
    · split
      · dsimp only; omega
      · exact h
theorem wrun_top (th pa : Nat → Int32) (s : rSt) (h : s.2 ≤ 40) : ∀ n, (wrun th pa n s).2 ≤ 40
  | 0 => h
  | n + 1 => wstep_top th (pa n) _ (wrun_top th pa s h n)
section RW_
variable {Ex : State → Nat → Prop} {Q : Option Value → pz_H → Prop} {d bc bs : Nat} {h : pz_H} {r len : Nat} {pa sk th : Nat → Int32} {src : Option Nat} {at_ : Int32}
theorem t_joined {op a b : Int32} (hq : Q (some (.int (joinV op a b))) h) : pz_V mX5_joined Ex Q d bc bs 0 [(0, .int op), (1, .int a), (2, .int b)] [] h := by
  refine wX5_joined_0 ?_
  unfold joinV at hq
  refine ⟨fun e => ?_, fun e => ?_, fun e => ?_, fun e => ?_, fun e => ?_, fun e => ?_, fun e => ?_⟩
  · rw [if_pos e] at hq; exact hq
  · rw [if_neg (by omega), if_pos e] at hq; exact hq
  · rw [if_neg (by omega), if_neg (by omega), if_pos e] at hq; exact hq
  · rw [if_neg (by omega), if_neg (by omega), if_neg (by omega), if_pos e] at hq
    exact ⟨fun hb => ⟨hb, by rw [if_neg hb] at hq; exact hq⟩, fun hb => by rw [if_pos hb] at hq; exact hq⟩
  · rw [if_neg (by omega), if_neg (by omega), if_neg (by omega), if_neg (by omega), if_pos e] at hq
    exact ⟨fun hb => by rw [if_pos hb] at hq; exact hq, fun hb => by rw [if_neg hb] at hq; exact hq⟩
  · rw [if_neg (by omega), if_neg (by omega), if_neg (by omega), if_neg (by omega), if_neg (by omega), if_pos e] at hq
    exact ⟨fun hb => by rw [if_pos hb] at hq; exact hq, fun hb => by rw [if_neg hb] at hq; exact hq⟩
  · rw [if_neg (by omega), if_neg (by omega), if_neg (by omega), if_neg (by omega), if_neg (by omega), if_neg (by omega)] at hq
    exact ⟨fun hb => by rw [if_neg hb] at hq; exact hq, fun hb => by rw [if_pos hb] at hq; exact hq⟩
theorem t_thing {i : Int32} (HR : Rul h r pa sk th len src at_) (hq : Q (some (.int (tvv th i))) h) : pz_V mX5_thing Ex Q d bc bs 0 [(0, .ref r), (1, .int i)] [] h := by
  refine wX5_thing_0 ?_
  unfold tvv at hq
  refine ⟨fun e => by rw [if_pos e] at hq; exact hq, fun e => ⟨fun e2 => by rw [if_neg e, if_pos e2] at hq; exact hq, fun e2 => HR.g2.mpr (HR.r2.mpr ⟨?_, by rw [if_neg e, if_neg e2] at hq; exact hq⟩)⟩⟩
  rcases pk_ix i (n := 6) (by decide) with h1 | h1 | ⟨j, h1, rfl⟩
  · exact absurd h1 e
  · exact absurd h1 e2
  · exact vin h1 (by decide)
theorem tvv_congr {th th' : Nat → Int32} (ht : ∀ j, j < 6 → th j = th' j) (x : Int32) : tvv th x = tvv th' x := by
  unfold tvv
  split
  · rfl
  · rename_i e
    split
    · rfl
    · rename_i e2
      rcases pk_ix x (n := 6) (by decide) with h1 | h1 | ⟨j, h1, rfl⟩
      · exact absurd h1 e
      · exact absurd h1 e2
      · rw [clamp (by omega)]
        exact ht j h1
theorem wstep_congr {th th' : Nat → Int32} (ht : ∀ j, j < 6 → th j = th' j) (p : Int32) (s : rSt) : wstep th p s = wstep th' p s := by
  unfold wstep wpush
  rw [tvv_congr ht]
/-- the loop of worth -/
theorem t_worth_loop {tt : Nat → Int32} (hd : 1 ≤ d) (hlen : len ≤ 40) (ht : ∀ j, j < 6 → th j = tt j) {sk0 : Nat → Int32} {h0 : pz_H}
    (hq : ∀ h' sk', Rul h' r pa sk' th len src at_ → Fr [r + 2] h0 h' → sk' 0 = (wrun tt pa len (sk0, 0)).1 0 → Q (some (.int (sk' 0))) h') :
    ∀ (k i : Nat) (h : pz_H), i + k = len → Rul h r pa (wrun tt pa i (sk0, 0)).1 th len src at_ → Fr [r + 2] h0 h → pz_V mX5_worth Ex Q d bc bs 66 [(0, .ref r), (7, .int (nI (wrun tt pa i (sk0, 0)).2)), (8, .int (nI i))] [] h := by
  intro k
  induction k with
  | zero =>
    intro i h hi HR hF
    have e : i = len := hi
    subst e
    refine wX5_worth_66 hd (HR.g3.mpr ⟨fun _ => HR.g1.mpr (HR.r1.mpr ⟨vin (i := 0) (by decide) (by decide), hq h _ HR hF rfl⟩), fun hc => absurd (nI_le (Nat.le_refl _) (by omega)) hc⟩)
  | succ k ih =>
    intro i h hi HR hF
    have htop := wrun_top tt pa (sk0, 0) (Nat.zero_le _) i
    have hnext : wrun tt pa (i + 1) (sk0, 0) = wstep tt (pa i) (wrun tt pa i (sk0, 0)) := rfl
    generalize wrun tt pa i (sk0, 0) = s at HR htop hnext ⊢
    obtain ⟨sk, top⟩ := s
    dsimp only at HR htop ⊢
    have g := ih (i + 1)
    rw [hnext] at g
    have h40 : ¬ (40 : Int32) ≤ nI i := nI_ge (b := 40) (by omega) (by decide)
    refine wX5_worth_66 hd (HR.g3.mpr ⟨fun hc => absurd hc (nI_ge (by omega) (by omega)), fun _ => ⟨fun hc => absurd hc h40, fun _ => HR.g0.mpr (HR.r0.mpr ⟨vin (by omega) (by decide), ?_⟩)⟩⟩)
    rw [clamp (by omega)]
    -- the part that isn't pushed
    have other : ¬ (pa i < 2000 ∧ top < 40) → pz_V mX5_worth Ex Q d bc bs 142 [(0, .ref r), (7, .int (nI top)), (8, .int (nI i)), (9, .int (pa i))] [] h := by
      intro hno
      have unf : wstep tt (pa i) (sk, top) = if pa i = 2033 ∧ 0 < top then (upd sk (top - 1) (-(sk (top - 1))), top) else if 1 < top then (upd sk (top - 2) (joinV (pa i - 2000) (sk (top - 2)) (sk (top - 1))), top - 1) else (sk, top) := by
        unfold wstep
        rw [if_neg hno]
      have low : ¬ (pa i = 2033 ∧ 0 < top) → (nI top ≤ 1 → pz_V mX5_worth Ex Q d bc bs 66 [(0, .ref r), (7, .int (nI top)), (8, .int (nI i + 1))] [] h) ∧ (¬ nI top ≤ 1 → pz_gR h r 5 1 (fun (a1 : Nat) => pz_gR h r 5 1 (fun (a2 : Nat) => pz_rI h a2 ((nI top + (-1 : Int32)) - ((1 : Int32))) (fun (x3 : Int32) => pz_gR h r 5 1 (fun (a4 : Nat) => pz_rI h a4 (nI top + (-1 : Int32)) (fun (x5 : Int32) => pz_ki mX5_joined 0 0 0 ([.int (pa i - ((2000 : Int32))), .int x3, .int x5]) h (fun (x7 : Int32) (h6 : pz_H) => pz_sI h6 a1 ((nI top + (-1 : Int32)) - ((1 : Int32))) x7 (fun (h8 : pz_H) => pz_V mX5_worth Ex Q d bc bs 66 [(0, .ref r), (7, .int (nI top + (-1 : Int32))), (8, .int (nI i + (1 : Int32)))] [] h8)))))))) := by
        intro hno2
        rw [if_neg hno2] at unf
        refine ⟨fun hle => ?_, fun hgt => ?_⟩
        · have h1 : ¬ 1 < top := fun q => absurd hle (nI_ge (a := 1) q (by omega))
          rw [if_neg h1] at unf
          rw [nI_1]
          rw [unf] at g
          exact g h (by omega) HR hF
        · have h1 : 1 < top := by
            rcases Nat.lt_or_ge 1 top with q | q
            · exact q
            · exact absurd (nI_le (b := 1) q (by decide)) hgt
          rw [if_pos h1] at unf
          obtain ⟨t2, rfl⟩ : ∃ t2, top = t2 + 2 := ⟨top - 2, by omega⟩
          rw [show nI (t2 + 2) + (-1 : Int32) = nI (t2 + 1) from pk_m1 (t2 + 1), show nI (t2 + 1) - (1 : Int32) = nI t2 from nI_pred t2]
          refine HR.g1.mpr (HR.g1.mpr (HR.r1.mpr ⟨vin (by omega) (by decide), HR.g1.mpr (HR.r1.mpr ⟨vin (by omega) (by decide), ?_⟩)⟩))
          rw [clamp (by omega), clamp (by omega)]
          refine t_joined ⟨_, rfl, HR.s1.mpr ⟨vin (by omega) (by decide), ?_⟩⟩
          rw [clamp (by omega), nI_1]
          rw [unf] at g
          exact g _ (by omega) (HR.v1 _) (hF.put (by simp))
      refine wX5_worth_142 hd ⟨fun hb => low (fun q => hb q.1), fun hb => ⟨fun hle => ?_, fun hgt => ?_⟩⟩
      · have h0 : ¬ 0 < top := fun q => absurd hle (nI_nle q (by omega))
        exact low (fun q => h0 q.2)
      · have h0 : 0 < top := by
          rcases Nat.lt_or_ge 0 top with q | q
          · exact q
          · exact absurd (nI_le (b := 0) q (by decide)) hgt
        rw [if_pos ⟨hb, h0⟩] at unf
        obtain ⟨t1, rfl⟩ : ∃ t1, top = t1 + 1 := ⟨top - 1, by omega⟩
        rw [show nI (t1 + 1) - (1 : Int32) = nI t1 from nI_pred t1]
        refine HR.g1.mpr (HR.g1.mpr (HR.r1.mpr ⟨vin (by omega) (by decide), HR.s1.mpr ⟨vin (by omega) (by decide), ?_⟩⟩))
        rw [clamp (by omega), nI_1]
        rw [unf] at g
        exact g _ (by omega) (HR.v1 _) (hF.put (by simp))
    refine ⟨fun hb => other (fun q => ?_), fun hb => ⟨fun hc => other (fun q => absurd hc (nI_ge (b := 40) q.2 (by decide))), fun hc => HR.g1.mpr ?_⟩⟩
    · exact absurd hb (Int32.not_le.mpr q.1)
    · have ht40 : top < 40 := by
        rcases Nat.lt_or_ge top 40 with q | q
        · exact q
        · exact absurd (nI_le (a := 40) q (by omega)) hc
      have unf : wstep tt (pa i) (sk, top) = (upd sk top (wpush tt (pa i)), top + 1) := by
        unfold wstep
        rw [if_pos ⟨Int32.not_le.mp hb, ht40⟩]
      rw [unf] at g
      refine ⟨fun h1 => ⟨HR.i.mpr trivial, t_thing HR ⟨_, rfl, HR.s1.mpr ⟨vin ht40 (by decide), ?_⟩⟩⟩, fun h1 => HR.s1.mpr ⟨vin ht40 (by decide), ?_⟩⟩
      · rw [clamp (by omega), nI_1, nI_1]
        have e : wpush tt (pa i) = tvv th (pa i - 1000) := by
          unfold wpush
          rw [if_pos h1, tvv_congr ht]
        rw [e] at g
        exact g _ (by omega) (HR.v1 _) (hF.put (by simp))
      · rw [clamp (by omega), nI_1, nI_1]
        have e : wpush tt (pa i) = pa i := by
          unfold wpush
          rw [if_neg h1]
        rw [e] at g
        exact g _ (by omega) (HR.v1 _) (hF.put (by simp))
theorem t_worth {l1 l2 l3 l4 l5 l6 : Int32} (HR : Rul h r pa sk th len src at_) (hlen : len ≤ 40) (hd : 1 ≤ d)
    (hq : ∀ h' sk' th', Rul h' r pa sk' th' len src at_ → Fr [r + 2, r + 3] h h' → Q (some (.int (wval pa len sk l1 l2 l3 l4 l5 l6))) h') :
    pz_V mX5_worth Ex Q d bc bs 0 [(0, .ref r), (1, .int l1), (2, .int l2), (3, .int l3), (4, .int l4), (5, .int l5), (6, .int l6)] [] h := by
  refine wX5_worth_0 hd (HR.g3.mpr ⟨fun hb => ?_, fun hb => ?_⟩)
  · have h0 : len ≠ 0 := fun q => hb (by rw [q]; rfl)
    have e : wval pa len sk l1 l2 l3 l4 l5 l6 = (wrun (thf l1 l2 l3 l4 l5 l6) pa len (sk, 0)).1 0 := by
      unfold wval
      rw [if_neg h0]
    rw [e] at hq
    refine HR.g2.mpr (HR.s2.mpr ⟨vin (i := 0) (by decide) (by decide), ?_⟩)
    have HR := HR.v2 (upd th 0 l1)
    refine HR.g2.mpr (HR.s2.mpr ⟨vin (i := 1) (by decide) (by decide), ?_⟩)
    have HR := HR.v2 (upd (upd th 0 l1) 1 l2)
    refine HR.g2.mpr (HR.s2.mpr ⟨vin (i := 2) (by decide) (by decide), ?_⟩)
    have HR := HR.v2 (upd (upd (upd th 0 l1) 1 l2) 2 l3)
    refine HR.g2.mpr (HR.s2.mpr ⟨vin (i := 3) (by decide) (by decide), ?_⟩)
    have HR := HR.v2 (upd (upd (upd (upd th 0 l1) 1 l2) 2 l3) 3 l4)
    refine HR.g2.mpr (HR.s2.mpr ⟨vin (i := 4) (by decide) (by decide), ?_⟩)
    have HR := HR.v2 (upd (upd (upd (upd (upd th 0 l1) 1 l2) 2 l3) 3 l4) 4 l5)
    refine HR.g2.mpr (HR.s2.mpr ⟨vin (i := 5) (by decide) (by decide), ?_⟩)
    have HR := HR.v2 (upd (upd (upd (upd (upd (upd th 0 l1) 1 l2) 2 l3) 3 l4) 4 l5) 5 l6)
    refine t_worth_loop (tt := thf l1 l2 l3 l4 l5 l6) (sk0 := sk) hd hlen ?_ ?_ len 0 _ (Nat.zero_add _) HR Fr.rf
    · intro j hj
      rcases (by omega : j = 0 ∨ j = 1 ∨ j = 2 ∨ j = 3 ∨ j = 4 ∨ j = 5) with rfl | rfl | rfl | rfl | rfl | rfl <;> simp [upd, thf]
    · intro h' sk' HR' hF' e0
      rw [e0]
      refine hq h' sk' _ HR' ?_
      refine Fr.tr (l2 := [r + 2]) ?_ hF' (by simp)
      exact (((((Fr.rf.put (by simp)).put (by simp)).put (by simp)).put (by simp)).put (by simp)).put (by simp)
  · have h0 : len = 0 := by
      rcases Nat.eq_zero_or_pos len with q | q
      · exact q
      · exact absurd hb (nI_ne0 q (by omega))
    have e : wval pa len sk l1 l2 l3 l4 l5 l6 = (l1 + 2) / 3 - l3 := by
      unfold wval
      rw [if_pos h0]
    rw [e] at hq
    exact hq h sk th HR Fr.rf
end RW_
