/-! ===== the whole state; the class's invariant ===== -/
abbrev pS : Type := Nat × (Nat → Int32) × (Nat → Int32) × pW × (Nat → Nat) × Nat × pG × List pW × (Nat → pW) × Nat × pRV × List Int64
abbrev pS.n (S : pS) : Nat := S.1
abbrev pS.br (S : pS) : Nat → Int32 := S.2.1
abbrev pS.dn (S : pS) : Nat → Int32 := S.2.2.1
abbrev pS.W (S : pS) : pW := S.2.2.2.1
abbrev pS.tx (S : pS) : Nat → Nat := S.2.2.2.2.1
abbrev pS.tl (S : pS) : Nat := S.2.2.2.2.2.1
abbrev pS.R (S : pS) : pG := S.2.2.2.2.2.2.1
abbrev pS.U (S : pS) : List pW := S.2.2.2.2.2.2.2.1
abbrev pS.K (S : pS) : Nat → pW := S.2.2.2.2.2.2.2.2.1
abbrev pS.ks (S : pS) : Nat := S.2.2.2.2.2.2.2.2.2.1
abbrev pS.rv (S : pS) : pRV := S.2.2.2.2.2.2.2.2.2.2.1
abbrev pS.rw (S : pS) : List Int64 := S.2.2.2.2.2.2.2.2.2.2.2
abbrev pS.sN (S : pS) (v : Nat) : pS := (v, S.br, S.dn, S.W, S.tx, S.tl, S.R, S.U, S.K, S.ks, S.rv, S.rw)
abbrev pS.sBr (S : pS) (v : Nat → Int32) : pS := (S.n, v, S.dn, S.W, S.tx, S.tl, S.R, S.U, S.K, S.ks, S.rv, S.rw)
abbrev pS.sDn (S : pS) (v : Nat → Int32) : pS := (S.n, S.br, v, S.W, S.tx, S.tl, S.R, S.U, S.K, S.ks, S.rv, S.rw)
abbrev pS.sW (S : pS) (v : pW) : pS := (S.n, S.br, S.dn, v, S.tx, S.tl, S.R, S.U, S.K, S.ks, S.rv, S.rw)
abbrev pS.sTx (S : pS) (v : Nat → Nat) : pS := (S.n, S.br, S.dn, S.W, v, S.tl, S.R, S.U, S.K, S.ks, S.rv, S.rw)
abbrev pS.sTl (S : pS) (v : Nat) : pS := (S.n, S.br, S.dn, S.W, S.tx, v, S.R, S.U, S.K, S.ks, S.rv, S.rw)
abbrev pS.sR (S : pS) (v : pG) : pS := (S.n, S.br, S.dn, S.W, S.tx, S.tl, v, S.U, S.K, S.ks, S.rv, S.rw)
abbrev pS.sU (S : pS) (v : List pW) : pS := (S.n, S.br, S.dn, S.W, S.tx, S.tl, S.R, v, S.K, S.ks, S.rv, S.rw)
abbrev pS.sK (S : pS) (v : Nat → pW) : pS := (S.n, S.br, S.dn, S.W, S.tx, S.tl, S.R, S.U, v, S.ks, S.rv, S.rw)
abbrev pS.sKs (S : pS) (v : Nat) : pS := (S.n, S.br, S.dn, S.W, S.tx, S.tl, S.R, S.U, S.K, v, S.rv, S.rw)
abbrev pS.sRv (S : pS) (v : pRV) : pS := (S.n, S.br, S.dn, S.W, S.tx, S.tl, S.R, S.U, S.K, S.ks, v, S.rw)
abbrev pS.sRw (S : pS) (v : List Int64) : pS := (S.n, S.br, S.dn, S.W, S.tx, S.tl, S.R, S.U, S.K, S.ks, S.rv, v)
def PInv (h : pz_H) (x : Nat) (U : List pW) : Prop := ∃ (rot : Nat) (P : Nat → pW) (g : Nat → Option Nat), Pst h (x + 28) U.length ∧ h.2 (x + 28 + 1) = some (aW 12 g) ∧ (∀ j, j < 12 → g j = some (x + 30 + 6 * ((j + rot) % 12))) ∧ (∀ j, j < 12 → WatT h (x + 30 + 6 * ((j + rot) % 12)) (P j) ∧ Wok (P j)) ∧ (∀ j, j < U.length → U[j]? = some (P j))
def CRest (h : pz_H) (x rF rO : Nat) (td : Option Nat) (dw : Int32) (S : pS) : Prop :=
  (rF = x + 112 ∧ rO = x + 116 ∨ rF = x + 116 ∧ rO = x + 112) ∧ Top h x rF rO td S.ks dw ∧ (∃ sg, Txt h (x + 1) sg S.tl ∧ TxR sg S.tx) ∧ (∃ B, WatT h (x + 16) B ∧ Wok B) ∧ PInv h x S.U ∧ RngT h (x + 102) S.R ∧ (∃ ch ne of, Dck h (x + 106) ch ne of) ∧
  (∃ g : Nat → Option Nat, h.2 (x + 109) = some (aW 2 g) ∧ g 0 = some (x + 120) ∧ g 1 = some (x + 126)) ∧ (WatT h (x + 120) (S.K 0) ∧ Wok (S.K 0)) ∧ (WatT h (x + 126) (S.K 1) ∧ Wok (S.K 1)) ∧ (∃ b, h.2 (x + 110) = some (aI 4 b)) ∧ (∃ b, h.2 (x + 111) = some (aI 448 b)) ∧ (∃ pa sk th len src at_, Rul h rO pa sk th len src at_) ∧ (td = none ∨ ∃ t mk al len, td = some t ∧ Tid h t mk al len ∧ x + 160 ≤ t)
def CInv (h : pz_H) (x : Nat) (S : pS) : Prop := ∃ (rF rO : Nat) (td : Option Nat) (dw : Int32) (T : pW), CQ h x rF S.n S.br S.dn S.W T S.rv S.rw ∧ CRest h x rF rO td dw S
/-- what stands beside the class's cells is unchanged -/
def FC (x : Nat) (h h' : pz_H) : Prop := h.1 ≤ h'.1 ∧ ∀ b, x + 132 ≤ b → b < x + 160 → h'.2 b = h.2 b
def WGood (n : Nat) (br : Nat → Int32) (lk : Nat → Int32) (V : pW) : Prop := Wok V ∧ Rg n br V ∧ V.ou < 2 ^ n ∧ (∀ i, i < n → V.lk i = lk i ∧ Bt (V.lk i) 0 9 ∧ ∃ k, k < 4 ∧ V.kg i = nI k)
def SOk (S : pS) : Prop := S.n ≤ 6 ∧ S.tl ≤ 80 ∧ WGood S.n S.br S.W.lk S.W ∧ RgsOk S.n S.R ∧ DnOk S.n S.dn ∧ S.U.length ≤ 12 ∧ (∀ V, V ∈ S.U → WGood S.n S.br S.W.lk V) ∧ (∀ i, i < 2 → S.ks.testBit i = true → WGood S.n S.br S.W.lk (S.K i)) ∧ S.ks < 4 ∧ S.rw.length ≤ 6
section ST
variable {Ex : State → Nat → Prop} {Q : Option Value → pz_H → Prop} {d bc bs : Nat} {h h' : pz_H} {x rF rO : Nat} {td : Option Nat} {dw : Int32} {S : pS}
theorem PInv.fr {l : List Nat} {U : List pW} (H : PInv h x U) (hF : Fr l h h') (hl : ∀ b ∈ l, b < x + 28 ∨ x + 102 ≤ b) : PInv h' x U := by
  obtain ⟨rot, P, g, h1, h2, h3, h4, h5⟩ := H
  refine ⟨rot, P, g, h1.fr hF (fun q => by have := hl _ q; omega), (hF.2 _ (fun q => by have := hl _ q; omega)).trans h2, h3, fun j hj => ⟨(h4 j hj).1.fr hF (fun b hb => ?_), (h4 j hj).2⟩, h5⟩
  have := hl b hb
  have := Nat.mod_lt (j + rot) (y := 12) (by decide)
  omega
theorem CRest.fr {l : List Nat} (H : CRest h x rF rO td dw S) (hF : Fr l h h') (hl : ∀ b ∈ l, (x + 3 ≤ b ∧ b < x + 16 ∨ x + 22 ≤ b ∧ b < x + 28 ∨ rF ≤ b ∧ b < rF + 4)) : CRest h' x rF rO td dw S := by
  obtain ⟨h1, h2, ⟨sg, h3, h3'⟩, ⟨B, h4, h4'⟩, h5, h6, ⟨ch, ne, of, h7⟩, ⟨g, h8, h8'⟩, h9, h10, ⟨b1, h11⟩, ⟨b2, h12⟩, ⟨pa, sk, th, len, src, at_, h13⟩, h14⟩ := H
  refine ⟨h1, h2.fr hF (fun q => by have := hl _ q; omega), ⟨sg, h3.fr hF (fun b hb => by have := hl b hb; omega), h3'⟩, ⟨B, h4.fr hF (fun b hb => by have := hl b hb; omega), h4'⟩, h5.fr hF (fun b hb => by have := hl b hb; omega), h6.fr hF (fun b hb => by have := hl b hb; omega), ⟨ch, ne, of, h7.fr hF (fun b hb => by have := hl b hb; omega)⟩, ⟨g, (hF.2 _ (fun q => by have := hl _ q; omega)).trans h8, h8'⟩, ⟨h9.1.fr hF (fun b hb => by have := hl b hb; omega), h9.2⟩, ⟨h10.1.fr hF (fun b hb => by have := hl b hb; omega), h10.2⟩, ⟨b1, (hF.2 _ (fun q => by have := hl _ q; omega)).trans h11⟩, ⟨b2, (hF.2 _ (fun q => by have := hl _ q; omega)).trans h12⟩, ⟨pa, sk, th, len, src, at_, h13.fr hF (fun b hb => by have := hl b hb; omega)⟩, ?_⟩
  rcases h14 with e | ⟨t, mk, al, len, e, ht, hx⟩
  · exact Or.inl e
  · exact Or.inr ⟨t, mk, al, len, e, ht.fr hF (fun b hb => by have := hl b hb; omega), hx⟩
theorem sc_in {b : Nat} (hb : b ∈ SC x rF) : (x + 3 ≤ b ∧ b < x + 16 ∨ x + 22 ≤ b ∧ b < x + 28 ∨ rF ≤ b ∧ b < rF + 4) := by
  simp at hb
  omega
theorem FC.of {l : List Nat} (hF : Fr l h h') (hl : ∀ b ∈ l, b < x + 132 ∨ x + 160 ≤ b) : FC x h h' := ⟨Nat.le_of_eq hF.1.symm, fun b h1 h2 => hF.2 b (fun q => by have := hl b q; omega)⟩
theorem FC.tr {h'' : pz_H} (h1 : FC x h h') (h2 : FC x h' h'') : FC x h h'' := ⟨Nat.le_trans h1.1 h2.1, fun b g1 g2 => (h2.2 b g1 g2).trans (h1.2 b g1 g2)⟩
theorem FC.rf : FC x h h := ⟨Nat.le_refl _, fun _ _ _ => rfl⟩
/-- back from a question -/
theorem CInv.back {T' : pW} {rw' : List Int64} (hR : CRest h x rF rO td dw S) (hC : CQ h' x rF S.n S.br S.dn S.W T' S.rv rw') (hF : Fr (SC x rF) h h') : CInv h' x (S.sRw rw') ∧ FC x h h' := by
  have hr := hC.1
  exact ⟨⟨rF, rO, td, dw, T', hC, hR.fr hF (fun b hb => sc_in hb)⟩, FC.of hF (fun b hb => by have := sc_in hb; omega)⟩
end ST
