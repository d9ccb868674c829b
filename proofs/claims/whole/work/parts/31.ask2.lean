/-! ===== treaty, duck, years, heirs, reads; sign, end, ring, washes, keep, again, undo: the class over the whole state ===== -/
section CB
variable {Ex : State → Nat → Prop} {Q : Option Value → pz_H → Prop} {d bc bs : Nat} {h h' : pz_H} {x rF rO : Nat} {td : Option Nat} {dw : Int32} {S : pS}
theorem tdFr {l : List Nat} (H : td = none ∨ ∃ t mk al len, td = some t ∧ Tid h t mk al len ∧ x + 160 ≤ t) (hF : Fr l h h') (hl : ∀ b ∈ l, b < x + 160) : td = none ∨ ∃ t mk al len, td = some t ∧ Tid h' t mk al len ∧ x + 160 ≤ t := by
  rcases H with e | ⟨t, mk, al, len, e, ht, hx⟩
  · exact Or.inl e
  · exact Or.inr ⟨t, mk, al, len, e, ht.fr hF (fun b hb => by have := hl b hb; omega), hx⟩
theorem C_treaty {q : Int32} (I : CInv h x S) (O : SOk S) (hd : 3 ≤ d) (hq : ∀ h', CInv h' x (S.sRw (s_treaty S.n S.W S.rw q).2) → FC x h h' → Q (some (.int (s_treaty S.n S.W S.rw q).1)) h') : pz_V mX9_treaty Ex Q d bc bs 0 [(0, .ref x), (1, .int q)] [] h := by
  obtain ⟨rF, rO, td, dw, T, C, H⟩ := I
  obtain ⟨hh1, hh2, ⟨zhsg, hh3, hh3'⟩, ⟨zhB, hh4, hh4'⟩, hh5, hh6, ⟨zhch, zhne, zhof, hh7⟩, ⟨zhg, hh8, hh8'⟩, hh9, hh10, ⟨zhb1, hh11⟩, ⟨zhb2, hh12⟩, ⟨zhpa, zhsk, zhth, zhlen, zhsrc, zhat, hh13⟩, hh14⟩ := id H
  refine c_treaty C hh11 hd (fun h' T' b' C' HB' hF' => hq h' ⟨rF, rO, td, dw, T', C', ⟨hh1, hh2.fr hF' (by simp <;> omega), ⟨zhsg, hh3.fr hF' (by intro b hb; simp at hb; omega), hh3'⟩, ⟨zhB, hh4.fr hF' (by intro b hb; simp at hb; omega), hh4'⟩, hh5.fr hF' (by intro b hb; simp at hb; omega), hh6.fr hF' (by intro b hb; simp at hb; omega), ⟨zhch, zhne, zhof, hh7.fr hF' (by intro b hb; simp at hb; omega)⟩, ⟨zhg, (hF'.2 _ (by simp <;> omega)).trans hh8, hh8'⟩, ⟨hh9.1.fr hF' (by intro b hb; simp at hb; omega), hh9.2⟩, ⟨hh10.1.fr hF' (by intro b hb; simp at hb; omega), hh10.2⟩, ⟨b', HB'⟩, ⟨zhb2, (hF'.2 _ (by simp <;> omega)).trans hh12⟩, ⟨zhpa, zhsk, zhth, zhlen, zhsrc, zhat, hh13.fr hF' (by intro b hb; simp at hb; omega)⟩, tdFr hh14 hF' (by intro b hb; simp at hb; omega)⟩⟩ (FC.of hF' (by intro b hb; simp at hb; omega)))
theorem C_duck {a b c : Int32} (I : CInv h x S) (O : SOk S) (hd : 3 ≤ d) (hq : ∀ h', CInv h' x (S.sRw (s_duck S.dn S.n S.rw a b c).2) → FC x h h' → Q (some (.int (s_duck S.dn S.n S.rw a b c).1)) h') : pz_V mX9_duck Ex Q d bc bs 0 [(0, .ref x), (1, .int a), (2, .int b), (3, .int c)] [] h := by
  obtain ⟨rF, rO, td, dw, T, C, H⟩ := I
  obtain ⟨hh1, hh2, ⟨zhsg, hh3, hh3'⟩, ⟨zhB, hh4, hh4'⟩, hh5, hh6, ⟨zhch, zhne, zhof, hh7⟩, ⟨zhg, hh8, hh8'⟩, hh9, hh10, ⟨zhb1, hh11⟩, ⟨zhb2, hh12⟩, ⟨zhpa, zhsk, zhth, zhlen, zhsrc, zhat, hh13⟩, hh14⟩ := id H
  refine c_duck C hh7 hd (fun h' ch' ne' of' C' HD' hF' => hq h' ⟨rF, rO, td, dw, T, C', ⟨hh1, hh2.fr hF' (by simp <;> omega), ⟨zhsg, hh3.fr hF' (by intro b hb; simp at hb; omega), hh3'⟩, ⟨zhB, hh4.fr hF' (by intro b hb; simp at hb; omega), hh4'⟩, hh5.fr hF' (by intro b hb; simp at hb; omega), hh6.fr hF' (by intro b hb; simp at hb; omega), ⟨ch', ne', of', HD'⟩, ⟨zhg, (hF'.2 _ (by simp <;> omega)).trans hh8, hh8'⟩, ⟨hh9.1.fr hF' (by intro b hb; simp at hb; omega), hh9.2⟩, ⟨hh10.1.fr hF' (by intro b hb; simp at hb; omega), hh10.2⟩, ⟨zhb1, (hF'.2 _ (by simp <;> omega)).trans hh11⟩, ⟨zhb2, (hF'.2 _ (by simp <;> omega)).trans hh12⟩, ⟨zhpa, zhsk, zhth, zhlen, zhsrc, zhat, hh13.fr hF' (by intro b hb; simp at hb; omega)⟩, tdFr hh14 hF' (by intro b hb; simp at hb; omega)⟩⟩ (FC.of hF' (by intro b hb; simp at hb; omega)))
theorem C_years {w m : Int32} (I : CInv h x S) (O : SOk S) (hd : 5 ≤ d) (hq : ∀ h', CInv h' x (S.sRw (s_years S.rv S.br S.dn S.n S.W S.rw w m).2) → FC x h h' → Q (some (.int (s_years S.rv S.br S.dn S.n S.W S.rw w m).1)) h') : pz_V mX9_years Ex Q d bc bs 0 [(0, .ref x), (1, .int w), (2, .int m)] [] h := by
  obtain ⟨rF, rO, td, dw, T, C, H⟩ := I
  obtain ⟨hh1, hh2, ⟨zhsg, hh3, hh3'⟩, ⟨zhB, hh4, hh4'⟩, hh5, hh6, ⟨zhch, zhne, zhof, hh7⟩, ⟨zhg, hh8, hh8'⟩, hh9, hh10, ⟨zhb1, hh11⟩, ⟨zhb2, hh12⟩, ⟨zhpa, zhsk, zhth, zhlen, zhsrc, zhat, hh13⟩, hh14⟩ := id H
  refine c_years C hh2 hd (fun h' T' dw' C' HTop' hF' => hq h' ⟨rF, rO, td, dw', T', C', ⟨hh1, HTop', ⟨zhsg, hh3.fr hF' (by intro b hb; simp at hb; omega), hh3'⟩, ⟨zhB, hh4.fr hF' (by intro b hb; simp at hb; omega), hh4'⟩, hh5.fr hF' (by intro b hb; simp at hb; omega), hh6.fr hF' (by intro b hb; simp at hb; omega), ⟨zhch, zhne, zhof, hh7.fr hF' (by intro b hb; simp at hb; omega)⟩, ⟨zhg, (hF'.2 _ (by simp <;> omega)).trans hh8, hh8'⟩, ⟨hh9.1.fr hF' (by intro b hb; simp at hb; omega), hh9.2⟩, ⟨hh10.1.fr hF' (by intro b hb; simp at hb; omega), hh10.2⟩, ⟨zhb1, (hF'.2 _ (by simp <;> omega)).trans hh11⟩, ⟨zhb2, (hF'.2 _ (by simp <;> omega)).trans hh12⟩, ⟨zhpa, zhsk, zhth, zhlen, zhsrc, zhat, hh13.fr hF' (by intro b hb; simp at hb; omega)⟩, tdFr hh14 hF' (by intro b hb; simp at hb; omega)⟩⟩ (FC.of hF' (by intro b hb; simp at hb; omega)))
theorem C_heirs (I : CInv h x S) (O : SOk S) (hd : 3 ≤ d) (hq : ∀ h', CInv h' x ((S.sRw (s_heirs S.tx S.n S.W S.tl S.rw).2).sTl 0) → FC x h h' → Q (some (.int (s_heirs S.tx S.n S.W S.tl S.rw).1)) h') : pz_V mX9_heirs Ex Q d bc bs 0 [(0, .ref x)] [] h := by
  obtain ⟨rF, rO, td, dw, T, C, H⟩ := I
  obtain ⟨hh1, hh2, ⟨zhsg, hh3, hh3'⟩, ⟨zhB, hh4, hh4'⟩, hh5, hh6, ⟨zhch, zhne, zhof, hh7⟩, ⟨zhg, hh8, hh8'⟩, hh9, hh10, ⟨zhb1, hh11⟩, ⟨zhb2, hh12⟩, ⟨zhpa, zhsk, zhth, zhlen, zhsrc, zhat, hh13⟩, hh14⟩ := id H
  refine c_heirs C hh3 hh3' O.2.1 hh12 hd (fun h' b' C' HX' HB' hF' => hq h' ⟨rF, rO, td, dw, T, C', ⟨hh1, hh2.fr hF' (by simp <;> omega), ⟨zhsg, HX', hh3'⟩, ⟨zhB, hh4.fr hF' (by intro b hb; simp at hb; omega), hh4'⟩, hh5.fr hF' (by intro b hb; simp at hb; omega), hh6.fr hF' (by intro b hb; simp at hb; omega), ⟨zhch, zhne, zhof, hh7.fr hF' (by intro b hb; simp at hb; omega)⟩, ⟨zhg, (hF'.2 _ (by simp <;> omega)).trans hh8, hh8'⟩, ⟨hh9.1.fr hF' (by intro b hb; simp at hb; omega), hh9.2⟩, ⟨hh10.1.fr hF' (by intro b hb; simp at hb; omega), hh10.2⟩, ⟨zhb1, (hF'.2 _ (by simp <;> omega)).trans hh11⟩, ⟨b', HB'⟩, ⟨zhpa, zhsk, zhth, zhlen, zhsrc, zhat, hh13.fr hF' (by intro b hb; simp at hb; omega)⟩, tdFr hh14 hF' (by intro b hb; simp at hb; omega)⟩⟩ (FC.of hF' (by intro b hb; simp at hb; omega)))
theorem C_reads (I : CInv h x S) (O : SOk S) (hx : x + 160 ≤ h.1) (hd : 6 ≤ d) (hbc : 3 ≤ bc) (hbs : 6907 ≤ bs) (hq : ∀ h', CInv h' x (S.sRw (s_reads S.rv S.br S.dn S.n S.R S.W S.rw).2) → FC x h h' → Q (some (.int (s_reads S.rv S.br S.dn S.n S.R S.W S.rw).1)) h') : pz_V mX9_reads Ex Q d bc bs 0 [(0, .ref x)] [] h := by
  obtain ⟨rF, rO, td, dw, T, C, H⟩ := I
  obtain ⟨hh1, hh2, ⟨zhsg, hh3, hh3'⟩, ⟨zhB, hh4, hh4'⟩, hh5, hh6, ⟨zhch, zhne, zhof, hh7⟩, ⟨zhg, hh8, hh8'⟩, hh9, hh10, ⟨zhb1, hh11⟩, ⟨zhb2, hh12⟩, ⟨zhpa, zhsk, zhth, zhlen, zhsrc, zhat, hh13⟩, hh14⟩ := id H
  have htd : td = none ∨ ∃ t mk al len, td = some t ∧ Tid h t mk al len ∧ x + 132 ≤ t := by
    rcases hh14 with e | ⟨t, mk, al, len, e, ht, hx⟩
    · exact Or.inl e
    · exact Or.inr ⟨t, mk, al, len, e, ht, by omega⟩
  refine c_reads C hh2 htd (by omega) hh6 O.2.2.2.1 O.2.2.1.2.1 (fun i hi => (O.2.2.1.2.2.2 i hi).2.1) hd hbc hbs (fun h' T' t' mk' al' len' C' HTop' HD' hcase hfr => ?_)
  have ht' : x + 160 ≤ t' := by
    rcases hcase with ⟨e, -⟩ | ⟨-, e, -⟩
    · rcases hh14 with e2 | ⟨t, mk, al, len, e2, ht, hx2⟩
      · rw [e2] at e; cases e
      · rw [e2] at e; cases e; exact hx2
    · omega
  have hF' : Fr (x :: TL x rF t') (h'.1, h.2) h' := ⟨rfl, fun b hb => by
    rw [List.mem_cons, not_or] at hb
    exact hfr b hb.1 hb.2⟩
  refine hq h' ⟨rF, rO, some t', dw, T', C', ?_⟩ ⟨by rcases hcase with ⟨-, e⟩ | ⟨-, -, e⟩ <;> omega, fun b h1 h2 => hfr b (by omega) (by simp; omega)⟩
  have H' : CRest (h'.1, h.2) x rF rO td dw S := H
  clear hh2 hh3 hh4 hh5 hh6 hh7 hh8 hh9 hh10 hh11 hh12 hh13
  obtain ⟨hh1, hh2, ⟨zhsg, hh3, hh3'⟩, ⟨zhB, hh4, hh4'⟩, hh5, hh6, ⟨zhch, zhne, zhof, hh7⟩, ⟨zhg, hh8, hh8'⟩, hh9, hh10, ⟨zhb1, hh11⟩, ⟨zhb2, hh12⟩, ⟨zhpa, zhsk, zhth, zhlen, zhsrc, zhat, hh13⟩, hh14⟩ := id H'
  exact ⟨hh1, HTop', ⟨zhsg, hh3.fr hF' (by intro b hb; simp at hb; omega), hh3'⟩, ⟨zhB, hh4.fr hF' (by intro b hb; simp at hb; omega), hh4'⟩, hh5.fr hF' (by intro b hb; simp at hb; omega), hh6.fr hF' (by intro b hb; simp at hb; omega), ⟨zhch, zhne, zhof, hh7.fr hF' (by intro b hb; simp at hb; omega)⟩, ⟨zhg, (hF'.2 _ (by simp <;> omega)).trans hh8, hh8'⟩, ⟨hh9.1.fr hF' (by intro b hb; simp at hb; omega), hh9.2⟩, ⟨hh10.1.fr hF' (by intro b hb; simp at hb; omega), hh10.2⟩, ⟨zhb1, (hF'.2 _ (by simp <;> omega)).trans hh11⟩, ⟨zhb2, (hF'.2 _ (by simp <;> omega)).trans hh12⟩, ⟨zhpa, zhsk, zhth, zhlen, zhsrc, zhat, hh13.fr hF' (by intro b hb; simp at hb; omega)⟩, Or.inr ⟨t', mk', al', len', rfl, HD', ht'⟩⟩
end CB
