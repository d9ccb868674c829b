/-! ===== the class and the reference side by side ===== -/
section LWI
variable {h h' h1 h2 h0 : pz_H} {x m rF rO : Nat} {td : Option Nat} {dw : Int32} {S S' : pS}
theorem CRest.fr2 {l : List Nat} (H : CRest h x rF rO td dw S) (hF : Fr l h h') (hl : ∀ b ∈ l, x + 132 ≤ b ∧ b < x + 160) : CRest h' x rF rO td dw S := by
  obtain ⟨h1, h2, ⟨sg, h3, h3'⟩, ⟨B, h4, h4'⟩, h5, h6, ⟨ch, ne, of, h7⟩, ⟨g, h8, h8'⟩, h9, h10, ⟨b1, h11⟩, ⟨b2, h12⟩, ⟨pa, sk, th, len, src, at_, h13⟩, h14⟩ := H
  refine ⟨h1, h2.fr hF (fun q => by have := hl _ q; omega), ⟨sg, h3.fr hF (fun b hb => by have := hl b hb; omega), h3'⟩, ⟨B, h4.fr hF (fun b hb => by have := hl b hb; omega), h4'⟩, h5.fr hF (fun b hb => by have := hl b hb; omega), h6.fr hF (fun b hb => by have := hl b hb; omega), ⟨ch, ne, of, h7.fr hF (fun b hb => by have := hl b hb; omega)⟩, ⟨g, (hF.2 _ (fun q => by have := hl _ q; omega)).trans h8, h8'⟩, ⟨h9.1.fr hF (fun b hb => by have := hl b hb; omega), h9.2⟩, ⟨h10.1.fr hF (fun b hb => by have := hl b hb; omega), h10.2⟩, ⟨b1, (hF.2 _ (fun q => by have := hl _ q; omega)).trans h11⟩, ⟨b2, (hF.2 _ (fun q => by have := hl _ q; omega)).trans h12⟩, ⟨pa, sk, th, len, src, at_, h13.fr hF (fun b hb => by have := hl b hb; omega)⟩, ?_⟩
  rcases h14 with e | ⟨t, mk, al, len, e, ht, hx⟩
  · exact Or.inl e
  · exact Or.inr ⟨t, mk, al, len, e, ht.fr hF (fun b hb => by have := hl b hb; omega), hx⟩
theorem CInv.fr2 {l : List Nat} (H : CInv h x S) (hF : Fr l h h') (hl : ∀ b ∈ l, x + 132 ≤ b ∧ b < x + 160) : CInv h' x S := by
  obtain ⟨rF, rO, td, dw, T, g1, g2⟩ := H
  have := g1.1
  exact ⟨rF, rO, td, dw, T, g1.fr hF (fun b hb => by have := hl b hb; omega), g2.fr2 hF hl⟩
/-- more cells made elsewhere -/
theorem CInv.up {n : Nat} (H : CInv h x S) : CInv (n, h.2) x S := H
theorem CInv.obj (H : CInv h x S) : ∃ fs, h.2 x = some (aO 9 fs) := by
  obtain ⟨rF, rO, td, dw, T, g1, g2⟩ := H
  exact ⟨_, g2.2.1⟩
theorem MInv.obj (H : MInv h0 h m S) : ∃ fs, h.2 m = some (aO 10 fs) := by
  obtain ⟨t, P, g1, g2⟩ := H
  exact ⟨_, g1.2.1⟩
def mCl (m : Nat) : List Nat := (List.range 27).map (fun j => m + j)
theorem mCl_in {m b : Nat} : b ∈ mCl m ↔ m ≤ b ∧ b < m + 27 := by
  unfold mCl
  rw [List.mem_map]
  constructor
  · rintro ⟨j, hj, rfl⟩
    have := List.mem_range.mp hj
    omega
  · intro hb
    exact ⟨b - m, List.mem_range.mpr (by omega), by omega⟩
theorem MInv.fr (H : MInv h0 h m S) (H' : MInv h0 h' m S') : Fr (mCl m) h h' := by
  obtain ⟨t, P, g1, g2⟩ := H
  obtain ⟨t', P', g1', g2'⟩ := H'
  refine ⟨g1'.1.1.trans g1.1.1.symm, fun b hb => ?_⟩
  have hb' : b < m ∨ m + 27 ≤ b := by
    rcases Nat.lt_or_ge b m with z | z
    · exact Or.inl z
    · rcases Nat.lt_or_ge b (m + 27) with y | y
      · exact absurd (mCl_in.mpr ⟨z, y⟩) hb
      · exact Or.inr y
  exact (g1'.1.2 b hb').trans (g1.1.2 b hb').symm
theorem gh_of {a b : pz_H} (e : a.2 m = b.2 m) : gh a m = gh b m := by
  unfold gh
  rw [e]
theorem MInv.mv (H : MInv h0 h m S) (hc : ∀ b, m ≤ b → b < m + 27 → h'.2 b = h.2 b) : ∃ h0', MInv h0' h' m S ∧ gh h0' m = gh h0 m := by
  obtain ⟨t, P, ⟨⟨a1, a2⟩, a3, a4⟩, b1, ⟨b2, b3⟩, b4⟩ := H
  have e : gh (h'.1, fun b => if m ≤ b ∧ b < m + 27 then h0.2 b else h'.2 b) m = gh h0 m := gh_of (if_pos ⟨Nat.le_refl _, by omega⟩)
  exact ⟨(h'.1, fun b => if m ≤ b ∧ b < m + 27 then h0.2 b else h'.2 b), ⟨t, P, ⟨⟨rfl, fun b hb => (if_neg (by omega)).symm⟩, (hc m (Nat.le_refl _) (by omega)).trans a3, fun j h1 h2 => (hc _ (by omega) (by omega)).trans (a4 j h1 h2)⟩, b1, ⟨b2, b3.trans e.symm⟩, b4⟩, e⟩
/-- both stand in the state S; the law's own long beside them -/
def LI (h : pz_H) (x : Nat) (S : pS) : Prop := CInv h x S ∧ (∃ h0, MInv h0 h (x + 132) S ∧ gh h0 (x + 132) = x + 132 + 8) ∧ SOk S ∧ x + 160 ≤ h.1 ∧ ∃ f, h.2 (x + 159) = some (aJ 1 f)
/-- the class is a step ahead -/
def LJ (h : pz_H) (x : Nat) (S S' : pS) (h0 : pz_H) : Prop := CInv h x S' ∧ (MInv h0 h (x + 132) S ∧ gh h0 (x + 132) = x + 132 + 8) ∧ SOk S ∧ x + 160 ≤ h.1 ∧ ∃ f, h.2 (x + 159) = some (aJ 1 f)
theorem LI.a (I : LI h x S) (C : CInv h1 x S') (F : FC x h h1) : ∃ h0, LJ h1 x S S' h0 := by
  obtain ⟨-, ⟨h0, g1, g2⟩, g3, g4, ⟨f, g5⟩⟩ := I
  obtain ⟨h0', k1, k2⟩ := g1.mv (h' := h1) (fun b a1 a2 => F.2 b (by omega) (by omega))
  exact ⟨h0', C, ⟨k1, k2.trans g2⟩, g3, Nat.le_trans g4 F.1, f, (F.2 _ (by omega) (by omega)).trans g5⟩
theorem LJ.b (J : LJ h1 x S S' h0) (M : MInv h0 h2 (x + 132) S') (O : SOk S') : LI h2 x S' := by
  obtain ⟨C, ⟨g1, g2⟩, -, g4, ⟨f, g5⟩⟩ := J
  have hF := g1.fr M
  have hl : ∀ b ∈ mCl (x + 132), x + 132 ≤ b ∧ b < x + 160 := fun b hb => by have := mCl_in.mp hb; omega
  refine ⟨C.fr2 hF hl, ⟨h0, M, g2⟩, O, by rw [hF.1]; exact g4, f, (hF.2 _ (fun q => by have := mCl_in.mp q; omega)).trans g5⟩
/-! the rows that are told are short -/
theorem SOk.q_later (O : SOk S) (l m : Int32) : SOk (S.sRw (s_later S.rv S.br S.dn S.n S.W S.rw l m).2) := O.sRw (by
  unfold s_later
  (repeat' split) <;> first | exact O.len | (rw [rowL_len]; exact O.1))
theorem SOk.q_dries (O : SOk S) (l : Int32) : SOk (S.sRw (s_dries S.rv S.br S.dn S.n S.W S.rw l).2) := O.sRw (by
  unfold s_dries
  (repeat' split) <;> first | exact O.len | (simp; done) | (dsimp only; simp; done))
theorem SOk.q_brims (O : SOk S) (l : Int32) : SOk (S.sRw (s_brims S.rv S.br S.dn S.n S.W S.rw l).2) := O.sRw (by
  unfold s_brims
  (repeat' split) <;> first | exact O.len | (simp; done) | (dsimp only; simp; done))
theorem SOk.q_marks (O : SOk S) (l m : Int32) : SOk (S.sRw (s_marks S.rv S.br S.dn S.n S.W S.rw l m).2) := O.sRw (by
  unfold s_marks
  (repeat' split) <;> first | exact O.len | (simp; done) | (dsimp only; simp; done))
theorem SOk.q_realm (O : SOk S) (k : Int32) : SOk (S.sRw (s_realm S.br S.n S.W S.rw k).2) := O.sRw (by
  unfold s_realm
  (repeat' split) <;> first | exact O.len | (simp; done) | (dsimp only; simp; done))
theorem SOk.q_course (O : SOk S) (l : Int32) : SOk (S.sRw (s_course S.dn S.n S.rw l).2) := O.sRw (by
  unfold s_course
  (repeat' split) <;> first | exact O.len | exact crsS_len _ _ _ _)
theorem SOk.q_basin (O : SOk S) (l : Int32) : SOk (S.sRw (s_basin S.dn S.n S.W S.rw l).2) := O.sRw (by
  unfold s_basin
  (repeat' split) <;> first | exact O.len | (simp; done) | (dsimp only; simp; done))
theorem SOk.q_order (O : SOk S) (m : Int32) : SOk (S.sRw (s_order S.rv S.br S.dn S.n S.W S.rw m).2) := O.sRw (by
  unfold s_order
  split
  · exact O.len
  · have g := orS_ok (rv := S.rv) (br := S.br) (dn := S.dn) (W := S.W) O.1 (m.toNatClampNeg + 1)
    show (orS S.rv S.br S.dn S.n S.W (m.toNatClampNeg + 1)).2.length ≤ 6
    rw [g.2]
    exact popc_le 6 (by decide) _ g.1)
theorem SOk.q_meets (O : SOk S) (l m : Int32) : SOk (S.sRw (s_meets S.rv S.br S.dn S.n S.W S.rw l m).2) := O.sRw (by
  unfold s_meets
  (repeat' split) <;> first | exact O.len | (simp; done) | (dsimp only; simp; done))
theorem SOk.q_richest (O : SOk S) (m : Int32) : SOk (S.sRw (s_richest S.rv S.br S.dn S.n S.W S.rw m).2) := O.sRw (by
  unfold s_richest
  (repeat' split) <;> first | exact O.len | (simp; done) | (dsimp only; simp; done))
theorem SOk.q_swims (O : SOk S) (l v m : Int32) : SOk (S.sRw (s_swims S.rv S.br S.dn S.n S.W S.rw l v m).2) := O.sRw (by
  unfold s_swims
  (repeat' split) <;> first | exact O.len | (simp; done) | (dsimp only; simp; done))
theorem SOk.q_lets (O : SOk S) (l m : Int32) : SOk (S.sRw (s_lets S.rv S.br S.dn S.n S.W S.rw l m).2) := O.sRw (by
  unfold s_lets s_few fewA
  (repeat' split) <;> first | exact O.len | (simp; done) | (dsimp only; simp; done))
theorem SOk.q_just (O : SOk S) (l m : Int32) : SOk (S.sRw (s_just S.rv S.br S.dn S.n S.W S.rw l m).2) := O.sRw (by
  unfold s_just s_few fewA
  (repeat' split) <;> first | exact O.len | (simp; done) | (dsimp only; simp; done))
theorem SOk.q_fills (O : SOk S) (l m : Int32) : SOk (S.sRw (s_fills S.rv S.br S.dn S.n S.W S.rw l m).2) := O.sRw (by
  unfold s_fills
  split
  · exact O.len
  · split
    · exact O.len
    · dsimp only
      split
      · exact O.len
      · exact Nat.le_of_ble_eq_true rfl)
theorem SOk.q_needs (O : SOk S) (l v m : Int32) : SOk (S.sRw (s_needs S.rv S.br S.dn S.n S.W S.rw l v m).2) := O.sRw (by
  unfold s_needs neA
  (repeat' split) <;> first | exact O.len | (simp; done) | (dsimp only; simp; done))
theorem SOk.q_crosses (O : SOk S) (m : Int32) : SOk (S.sRw (s_crosses S.rv S.br S.dn S.n S.W S.rw m).2) := O.sRw (by
  unfold s_crosses
  (repeat' split) <;> first | exact O.len | (simp; done) | (dsimp only; simp; done))
theorem SOk.q_leaks (O : SOk S) : SOk (S.sRw (s_leaks S.rv S.br S.dn S.n S.R S.W).2) := O.sRw (by
  unfold s_leaks
  obtain ⟨c, -, -, -, g⟩ := lkS_ok (rv := S.rv) (br := S.br) (dn := S.dn) (n := S.n) (R := S.R) (W := S.W) (9 * S.n) (by have := O.1; omega)
  exact Nat.le_trans g (by decide))
theorem SOk.q_threat (O : SOk S) (q : Int32) : SOk (S.sRw (s_threat S.n S.W S.rw q).2) := O.sRw (by
  unfold s_threat
  (repeat' split) <;> first | exact O.len | (simp; done) | (dsimp only; simp; done))
theorem SOk.q_wants (O : SOk S) (k : Int32) : SOk (S.sRw (s_wants S.n S.W S.rw k).2) := O.sRw (by
  unfold s_wants fewA
  (repeat' split) <;> first | exact O.len | (simp; done) | (dsimp only; simp; done))
theorem SOk.q_evens (O : SOk S) : SOk (S.sRw (s_evens S.n S.W).2) := O.sRw (by
  unfold s_evens
  simp)
theorem SOk.q_feared (O : SOk S) : SOk (S.sRw (s_feared S.n S.W).2) := O.sRw (by
  unfold s_feared
  simp)
theorem SOk.q_spoon (O : SOk S) (l v m : Int32) : SOk (S.sRw (s_spoon S.rv S.br S.dn S.n S.W S.rw l v m).2) := O.sRw (by
  unfold s_spoon
  (repeat' split) <;> first | exact O.len | (simp; done) | (dsimp only; simp; done))
theorem SOk.q_rests (O : SOk S) (v : Int32) : SOk (S.sRw (s_rests S.rw v).2) := O.sRw (by
  unfold s_rests
  split
  · exact O.len
  · exact Nat.le_trans (rsS_len _ _) (by decide))
theorem SOk.q_treaty (O : SOk S) (q : Int32) : SOk (S.sRw (s_treaty S.n S.W S.rw q).2) := O.sRw (by
  unfold s_treaty
  (repeat' split) <;> first | exact O.len | (simp; done) | (dsimp only; simp; done))
theorem SOk.q_duck (O : SOk S) (a b c : Int32) : SOk (S.sRw (s_duck S.dn S.n S.rw a b c).2) := O.sRw (by
  unfold s_duck
  (repeat' split) <;> first | exact O.len | (simp; done) | (dsimp only; simp; done))
theorem SOk.q_years (O : SOk S) (w m : Int32) : SOk (S.sRw (s_years S.rv S.br S.dn S.n S.W S.rw w m).2) := O.sRw (by
  unfold s_years
  (repeat' split) <;> first | exact O.len | (simp; done) | (dsimp only; simp; done))
theorem SOk.q_reads (O : SOk S) : SOk (S.sRw (s_reads S.rv S.br S.dn S.n S.R S.W S.rw).2) := O.sRw (by
  unfold s_reads
  (repeat' split) <;> first | exact O.len | (simp; done) | (dsimp only; simp; done))
end LWI
