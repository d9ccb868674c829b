/-! ===== the class's questions: the world that they need, and its steps ===== -/
theorem within_0 {v : Int32} {hi : Nat} (hh : hi < 2 ^ 31) : ¬ eX9_isWithin v 0 (nI hi) = 0 ↔ ∃ k, k ≤ hi ∧ v = nI k := by
  unfold eX9_isWithin
  constructor
  · intro hq
    split at hq
    · exact absurd rfl hq
    · rename_i h0
      split at hq
      · exact absurd rfl hq
      · rename_i h1
        obtain ⟨j, h3, rfl⟩ := nI_of h0
        refine ⟨j, ?_, rfl⟩
        rcases Nat.lt_or_ge hi j with q | q
        · exact absurd (nI_lt q h3) h1
        · exact q
  · rintro ⟨k, hk, rfl⟩
    rw [if_neg (nI_pos (by omega)), if_neg (nI_nlt hk hh)]
    decide
theorem within_1 {v : Int32} {lo hi : Nat} (hl : lo < 2 ^ 31) (hh : hi < 2 ^ 31) : ¬ eX9_isWithin v (nI lo) (nI hi) = 0 ↔ ∃ k, lo ≤ k ∧ k ≤ hi ∧ v = nI k := by
  unfold eX9_isWithin
  constructor
  · intro hq
    split at hq
    · exact absurd rfl hq
    · rename_i h0
      split at hq
      · exact absurd rfl hq
      · rename_i h1
        have h00 : ¬ v < 0 := fun q => h0 (Int32.lt_of_lt_of_le q (nI_pos' hl))
        obtain ⟨j, h3, rfl⟩ := nI_of h00
        refine ⟨j, ?_, ?_, rfl⟩
        · rcases Nat.lt_or_ge j lo with q | q
          · exact absurd (nI_lt q hl) h0
          · exact q
        · rcases Nat.lt_or_ge hi j with q | q
          · exact absurd (nI_lt q h3) h1
          · exact q
  · rintro ⟨k, hk, hk2, rfl⟩
    rw [if_neg (nI_nlt hk (by omega)), if_neg (nI_nlt hk2 hh)]
    decide
def rowRel (nu : Nat → Int64) (rw : List Int64) : Prop := rw.length ≤ 6 ∧ ∀ i, i < rw.length → nu i = rw.getD i 0
def CQ (h : pz_H) (x rF n : Nat) (br dn : Nat → Int32) (W T : pW) (rv : pRV) (rw : List Int64) : Prop :=
  (rF = x + 112 ∨ rF = x + 116) ∧ n ≤ 6 ∧ W.ou < 64 ∧ T.ou < 64 ∧ (∃ (rO : Nat) (td : Option Nat) (ks : Nat) (dw : Int32), Top h x rF rO td ks dw) ∧ (∃ ru nx, Lnd h (x + 5) br dn ru nx n) ∧ WatT h (x + 10) W ∧ WatT h (x + 22) T ∧
  (∃ (pa sk th : Nat → Int32) (len : Nat) (src : Option Nat) (at_ : Int32), Rul h rF pa sk th len src at_ ∧ RVal pa len rv) ∧ (∃ nu, Row h (x + 3) nu rw.length ∧ rowRel nu rw)
abbrev SC (x rF : Nat) : List Nat := [x + 3, x + 4, x + 8, x + 9, x + 22, x + 23, x + 24, x + 25, x + 26, x + 27, rF + 2, rF + 3]
section CQS
variable {Ex : State → Nat → Prop} {Q : Option Value → pz_H → Prop} {d bc bs : Nat} {h : pz_H} {x rF n : Nat} {br dn : Nat → Int32} {W T : pW} {rv : pRV} {rw : List Int64}
theorem t_copy {w v : Nat} {A B : pW} (HA : WatT h w A) (HB : WatT h v B) (hw : w + 6 ≤ v ∨ v + 6 ≤ w) (hd : 1 ≤ d) (hq : ∀ h', WatT h' w (va_cpy B.lv A.lv 0 0 6, va_cpy B.hr A.hr 0 0 6, va_cpy B.tp A.tp 0 0 6, va_cpy B.lk A.lk 0 0 6, va_cpy B.kg A.kg 0 0 6, B.ou, B.dy, B.sp, B.dr) → Fr [w, w + 1, w + 2, w + 3, w + 4, w + 5] h h' → Q none h') :
    pz_V mX8_copy Ex Q d bc bs 0 [(0, .ref w), (1, .ref v)] [] h := by
  have z0 : ¬ (0 : Int32) < 0 := by decide
  have z6 : ¬ (6 : Int32) < 0 := by decide
  have e0 : (0 : Int32).toNatClampNeg + (6 : Int32).toNatClampNeg ≤ 6 := by decide
  refine wX8_copy_0 hd (HB.g0.mpr (HA.g0.mpr ⟨6, 6, _, _, HB.2.1, HA.2.1, z0, z0, z6, e0, e0, ?_⟩))
  have HA := HA.v0 (va_cpy B.lv A.lv 0 0 6)
  have HB := HB.pt (b := w + 1) (e := aI 6 (va_cpy B.lv A.lv 0 0 6)) (by omega)
  refine HB.g1.mpr (HA.g1.mpr ⟨6, 6, _, _, HB.2.2.1, HA.2.2.1, z0, z0, z6, e0, e0, ?_⟩)
  have HA := HA.v1 (va_cpy B.hr A.hr 0 0 6)
  have HB := HB.pt (b := w + 2) (e := aI 6 (va_cpy B.hr A.hr 0 0 6)) (by omega)
  refine HB.g2.mpr (HA.g2.mpr ⟨6, 6, _, _, HB.2.2.2.1, HA.2.2.2.1, z0, z0, z6, e0, e0, ?_⟩)
  have HA := HA.v2 (va_cpy B.tp A.tp 0 0 6)
  have HB := HB.pt (b := w + 3) (e := aI 6 (va_cpy B.tp A.tp 0 0 6)) (by omega)
  refine HB.g3.mpr (HA.g3.mpr ⟨6, 6, _, _, HB.2.2.2.2.1, HA.2.2.2.2.1, z0, z0, z6, e0, e0, ?_⟩)
  have HA := HA.v3 (va_cpy B.lk A.lk 0 0 6)
  have HB := HB.pt (b := w + 4) (e := aI 6 (va_cpy B.lk A.lk 0 0 6)) (by omega)
  refine HB.g4.mpr (HA.g4.mpr ⟨6, 6, _, _, HB.2.2.2.2.2, HA.2.2.2.2.2, z0, z0, z6, e0, e0, ?_⟩)
  have HA := HA.v4 (va_cpy B.kg A.kg 0 0 6)
  have HB := HB.pt (b := w + 5) (e := aI 6 (va_cpy B.kg A.kg 0 0 6)) (by omega)
  refine HB.g5.mpr (HA.p5.mpr ?_)
  have HA := HA.u5 B.ou
  have HB := HB.pt (b := w) (e := aO 8 [.ref (w + 1), .ref (w + 2), .ref (w + 3), .ref (w + 4), .ref (w + 5), .int (nI B.ou), .int A.dy, .int A.sp, .int A.dr]) (by omega)
  refine HB.g6.mpr (HA.p6.mpr ?_)
  have HA := HA.u6 B.dy
  have HB := HB.pt (b := w) (e := aO 8 [.ref (w + 1), .ref (w + 2), .ref (w + 3), .ref (w + 4), .ref (w + 5), .int (nI B.ou), .int B.dy, .int A.sp, .int A.dr]) (by omega)
  refine HB.g7.mpr (HA.p7.mpr ?_)
  have HA := HA.u7 B.sp
  have HB := HB.pt (b := w) (e := aO 8 [.ref (w + 1), .ref (w + 2), .ref (w + 3), .ref (w + 4), .ref (w + 5), .int (nI B.ou), .int B.dy, .int B.sp, .int A.dr]) (by omega)
  refine HB.g8.mpr (HA.p8.mpr ?_)
  have HA := HA.u8 B.dr
  refine hq _ HA ?_
  exact ((((((((Fr.rf.put (by simp)).put (by simp)).put (by simp)).put (by simp)).put (by simp)).put (by simp)).put (by simp)).put (by simp)).put (by simp)
end CQS
