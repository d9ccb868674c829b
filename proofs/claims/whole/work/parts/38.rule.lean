/-! ===== what the parts are worth; rule, law: specs, and the class ===== -/
def wlist (th : Nat → Int32) (L : List Int32) (s : rSt) : rSt := L.foldl (fun s p => wstep th p s) s
theorem wrun_list (th pa : Nat → Int32) (s : rSt) : ∀ n, wrun th pa n s = wlist th ((List.range n).map pa) s
  | 0 => rfl
  | n + 1 => by
    unfold wrun
    rw [wrun_list th pa s n, List.range_succ, List.map_append]
    unfold wlist
    rw [List.foldl_append]
    rfl
/-- the parts L, worked out, leave v on the stack -/
def Ev (th : Nat → Int32) (L : List Int32) (v : Int32) : Prop := ∀ (s : Nat → Int32) (top : Nat), top + L.length ≤ 40 → ∃ s', wlist th L (s, top) = (s', top + 1) ∧ s' top = v ∧ ∀ j, j < top → s' j = s j
theorem wlist_app (th : Nat → Int32) (A B : List Int32) (s : rSt) : wlist th (A ++ B) s = wlist th B (wlist th A s) := by
  unfold wlist
  rw [List.foldl_append]
theorem Ev.one {th : Nat → Int32} {p v : Int32} (h2 : p < 2000) (hv : wpush th p = v) : Ev th [p] v := by
  intro s top ht
  refine ⟨upd s top v, ?_, ?_, fun j hj => ?_⟩
  · show wstep th p (s, top) = _
    unfold wstep
    rw [if_pos ⟨h2, by simp at ht; omega⟩, hv]
  · unfold upd; rw [if_pos rfl]
  · unfold upd; rw [if_neg (by omega)]
theorem Ev.neg {th : Nat → Int32} {L : List Int32} {a : Int32} (h : Ev th L a) : Ev th (L ++ [2033]) (-a) := by
  intro s top ht
  rw [List.length_append] at ht
  obtain ⟨s1, e1, e2, e3⟩ := h s top (by omega)
  refine ⟨upd s1 top (-a), ?_, by unfold upd; rw [if_pos rfl], fun j hj => by unfold upd; rw [if_neg (by omega)]; exact e3 j hj⟩
  rw [wlist_app, e1]
  show wstep th 2033 (s1, top + 1) = _
  unfold wstep
  rw [if_neg (fun q => absurd q.1 (by decide)), if_pos ⟨rfl, Nat.succ_pos _⟩]
  show (upd s1 (top + 1 - 1) (-(s1 (top + 1 - 1))), top + 1) = _
  rw [Nat.add_sub_cancel, e2]
theorem Ev.bin {th : Nat → Int32} {A B : List Int32} {a b op : Int32} (hA : Ev th A a) (hB : Ev th B b) (h1 : ¬ (2000 : Int32) + op < 2000) (h2 : ¬ (2000 : Int32) + op = 2033) (h3 : (2000 : Int32) + op - 2000 = op) : Ev th (A ++ (B ++ [2000 + op])) (joinV op a b) := by
  intro s top ht
  simp only [List.length_append, List.length_cons, List.length_nil] at ht
  obtain ⟨s1, e1, e2, e3⟩ := hA s top (by omega)
  obtain ⟨s2, f1, f2, f3⟩ := hB s1 (top + 1) (by omega)
  refine ⟨upd s2 top (joinV op a b), ?_, by unfold upd; rw [if_pos rfl], fun j hj => by unfold upd; rw [if_neg (by omega), f3 j (by omega)]; exact e3 j hj⟩
  rw [wlist_app, e1, wlist_app, f1]
  show wstep th (2000 + op) (s2, top + 1 + 1) = _
  unfold wstep
  rw [if_neg (fun q => h1 q.1), if_neg (fun q => h2 q.1), if_pos (by show 1 < top + 1 + 1; omega)]
  show (upd s2 (top + 1 + 1 - 2) (joinV (2000 + op - 2000) (s2 (top + 1 + 1 - 2)) (s2 (top + 1 + 1 - 1))), top + 1 + 1 - 1) = _
  rw [show top + 1 + 1 - 2 = top by omega, show top + 1 + 1 - 1 = top + 1 by omega, h3, f2, f3 top (by omega), e2]
theorem sub_nI (a b : Nat) : nI (a + b) - nI b = nI a := by
  rw [← nI_add, Int32.add_sub_cancel]
theorem numN_val {sg : Nat → Int32} : ∀ f p x, (x + 1) * 10 ^ f ≤ 1000 → ∃ y, y < 1000 ∧ (numN sg f p (nI x)).2 = nI y
  | 0, p, x, hx => ⟨x, by omega, rfl⟩
  | f + 1, p, x, hx => by
    unfold numN
    split
    · rename_i e
      obtain ⟨j, hj, ej⟩ := digit_0.mp e
      have e2 : 10 * nI x + sg p - 48 = nI (10 * x + j) := by
        rw [ej, show (10 : Int32) = nI 10 from rfl, show (48 : Int32) = nI 48 from rfl, mul_nI, nI_add, show 10 * x + (48 + j) = 10 * x + j + 48 by omega, sub_nI]
      rw [e2]
      refine numN_val f (p + 1) (10 * x + j) ?_
      have : (10 * x + j + 1) * 10 ^ f ≤ (10 * (x + 1)) * 10 ^ f := Nat.mul_le_mul_right _ (by omega)
      rw [Nat.pow_succ] at hx
      have e3 : (10 * (x + 1)) * 10 ^ f = (x + 1) * (10 ^ f * 10) := by rw [Nat.mul_comm 10 (x + 1), Nat.mul_assoc, Nat.mul_comm 10 (10 ^ f)]
      omega
    · refine ⟨x, ?_, rfl⟩
      have : (x + 1) * 1 ≤ (x + 1) * 10 ^ (f + 1) := Nat.mul_le_mul_left _ (Nat.pow_pos (by decide))
      omega
theorem prs_ev {sg : Nat → Int32} (e : pEnv) : ∀ (f m dp p : Nat) (L : List Int32) (v : pEnv → Int32) (r : pP), m ≤ 6 → prs sg f m dp p L v = some r → r.ok = true → (m = 2 ∨ m = 4 → Ev e L (v e)) → Ev e r.pt (r.vl e) := by
  intro f
  induction f with
  | zero => intro m dp p L v r _ h; rw [prs] at h; cases h
  | succ f ih =>
    intro m dp p L v r hm h hok hL
    rcases m_cases hm with rfl | rfl | rfl | rfl | rfl | rfl | rfl
    · rw [prs_e0] at h
      rcases pBind_t h with ⟨r1, h1, c1, e1⟩ | ⟨r1, h1, c1, h2⟩
      · subst e1; rw [c1] at hok; cases hok
      · have g := ih 1 dp p _ _ r1 (by decide) h1 c1 (fun q => absurd q (by decide))
        by_cases c2 : ¬ (sg r1.ps = 60 ∨ sg r1.ps = 62 ∨ sg r1.ps = 61)
        · rw [if_pos c2] at h2; cases h2; exact g
        · rw [if_neg c2] at h2
          rcases pBind_t h2 with ⟨r2, h3, c3, e3⟩ | ⟨r2, h3, c3, h4⟩
          · subst e3; rw [c3] at hok; cases hok
          · cases h4
            have k := ih 1 dp (r1.ps + 1) _ _ r2 (by decide) h3 c3 (fun q => absurd q (by decide))
            have c2' : sg r1.ps = 60 ∨ sg r1.ps = 62 ∨ sg r1.ps = 61 := Decidable.not_not.mp c2
            show Ev e (r1.pt ++ (r2.pt ++ [2000 + sg r1.ps])) (joinV (sg r1.ps) (r1.vl e) (r2.vl e))
            rcases c2' with z | z | z
            · rw [z]; exact g.bin k (by decide) (by decide) (by decide)
            · rw [z]; exact g.bin k (by decide) (by decide) (by decide)
            · rw [z]; exact g.bin k (by decide) (by decide) (by decide)
    · rw [prs_e1] at h
      rcases pBind_t h with ⟨r1, h1, c1, e1⟩ | ⟨r1, h1, c1, h2⟩
      · subst e1; rw [c1] at hok; cases hok
      · have g := ih 3 dp p _ _ r1 (by decide) h1 c1 (fun q => absurd q (by decide))
        exact ih 2 dp r1.ps _ _ r (by decide) h2 hok (fun _ => g)
    · rw [prs_e2] at h
      by_cases c0 : ¬ (sg p = 43 ∨ sg p = 45)
      · rw [if_pos c0] at h; cases h; exact hL (by decide)
      · rw [if_neg c0] at h
        have c0' : sg p = 43 ∨ sg p = 45 := Decidable.not_not.mp c0
        rcases pBind_t h with ⟨r1, h1, c1, e1⟩ | ⟨r1, h1, c1, h2⟩
        · subst e1; rw [c1] at hok; cases hok
        · have g := ih 3 dp (p + 1) _ _ r1 (by decide) h1 c1 (fun q => absurd q (by decide))
          refine ih 2 dp r1.ps _ _ r (by decide) h2 hok (fun _ => ?_)
          have hL := hL (by decide)
          rcases c0' with z | z
          · rw [z]; exact hL.bin g (by decide) (by decide) (by decide)
          · rw [z]; exact hL.bin g (by decide) (by decide) (by decide)
    · rw [prs_e3] at h
      rcases pBind_t h with ⟨r1, h1, c1, e1⟩ | ⟨r1, h1, c1, h2⟩
      · subst e1; rw [c1] at hok; cases hok
      · have g := ih 5 dp p _ _ r1 (by decide) h1 c1 (fun q => absurd q (by decide))
        exact ih 4 dp r1.ps _ _ r (by decide) h2 hok (fun _ => g)
    · rw [prs_e4] at h
      by_cases c0 : ¬ (sg p = 42 ∨ sg p = 47)
      · rw [if_pos c0] at h; cases h; exact hL (by decide)
      · rw [if_neg c0] at h
        have c0' : sg p = 42 ∨ sg p = 47 := Decidable.not_not.mp c0
        rcases pBind_t h with ⟨r1, h1, c1, e1⟩ | ⟨r1, h1, c1, h2⟩
        · subst e1; rw [c1] at hok; cases hok
        · have g := ih 5 dp (p + 1) _ _ r1 (by decide) h1 c1 (fun q => absurd q (by decide))
          refine ih 4 dp r1.ps _ _ r (by decide) h2 hok (fun _ => ?_)
          have hL := hL (by decide)
          rcases c0' with z | z
          · rw [z]; exact hL.bin g (by decide) (by decide) (by decide)
          · rw [z]; exact hL.bin g (by decide) (by decide) (by decide)
    · rw [prs_e5] at h
      rcases pBind_t h with ⟨r1, h1, c1, e1⟩ | ⟨r1, h1, c1, h2⟩
      · subst e1; rw [c1] at hok; cases hok
      · have g := ih 6 dp _ _ _ r1 (by decide) h1 c1 (fun q => absurd q (by decide))
        by_cases c2 : mnS sg 40 p % 2 = 0
        · rw [if_pos c2] at h2; cases h2; exact g
        · rw [if_neg c2] at h2; cases h2; exact g.neg
    · rw [prs_e6] at h
      by_cases c0 : ¬ eX9_isDigit (sg p) = 0
      · rw [if_pos c0] at h; cases h
        obtain ⟨y, hy, ey⟩ := numN_val (sg := sg) 3 p 0 (by decide)
        have ey : (numN sg 3 p 0).2 = nI y := ey
        show Ev e [(numN sg 3 p 0).2] (numN sg 3 p 0).2
        rw [ey]
        refine Ev.one (nI_lt (b := 2000) (by omega) (by decide)) ?_
        unfold wpush
        rw [if_neg (show ¬ (1000 : Int32) ≤ nI y from nI_ge (b := 1000) hy (by decide))]
      · rw [if_neg c0] at h
        by_cases c1 : sg p = 40
        · rw [if_pos c1] at h
          by_cases c2 : 4 ≤ dp
          · rw [if_pos c2] at h; cases h; cases hok
          · rw [if_neg c2] at h
            rcases pBind_t h with ⟨r1, h1, c3, e1⟩ | ⟨r1, h1, c3, h2⟩
            · subst e1; rw [c3] at hok; cases hok
            · have g := ih 0 (dp + 1) (p + 1) _ _ r1 (by decide) h1 c3 (fun q => absurd q (by decide))
              by_cases c4 : sg r1.ps = 41
              · rw [if_pos c4] at h2; cases h2; exact g
              · rw [if_neg c4] at h2; cases h2; cases hok
        · rw [if_neg c1] at h
          by_cases c2 : letK (sg p) = -1
          · rw [if_pos c2] at h; cases h; cases hok
          · rw [if_neg c2] at h; cases h
            rcases letK_cases (sg p) with z | ⟨k, hk, z⟩
            · exact absurd z c2
            · show Ev e [1000 + letK (sg p)] (e (letK (sg p)).toNatClampNeg)
              rw [z]
              have e2 : (1000 : Int32) + nI k = nI (1000 + k) := nI_add 1000 k
              rw [e2]
              refine Ev.one (nI_lt (b := 2000) (by omega) (by decide)) ?_
              unfold wpush
              rw [if_pos (show (1000 : Int32) ≤ nI (1000 + k) from nI_le (a := 1000) (by omega) (by omega))]
              have e3 : nI (1000 + k) - (1000 : Int32) = nI k := by rw [Nat.add_comm]; exact sub_nI k 1000
              rw [e3]
              unfold tvv
              rw [if_neg (nI_pos (by omega)), if_neg (show ¬ (6 : Int32) ≤ nI k from nI_ge (b := 6) hk (by decide))]
def rv0 : pRV := fun l _ hh _ _ _ => (l + 2) / 3 - hh
def rvOf (v : pEnv → Int32) : pRV := fun l1 l2 l3 l4 l5 l6 => v (thf l1 l2 l3 l4 l5 l6)
def parseS (sg : Nat → Int32) : pP := (prs sg 334 0 0 0 [] pZ).getD (false, 0, [], pZ)
/-- a text read as a rule: the sign at fault, and what the rule is worth -/
def rdR (tx : Nat → Nat) (tl : Nat) : Option Nat × pRV := if tl = 0 then (none, rv0) else if (parseS (sgn tx tl 40)).ok = true ∧ (parseS (sgn tx tl 40)).ps = tl then (none, rvOf (parseS (sgn tx tl 40)).vl) else (some (parseS (sgn tx tl 40)).ps, rv0)
theorem parse_eq {sg : Nat → Int32} (hs : SgOk sg) : prs sg 334 0 0 0 [] pZ = some (parseS sg) := by
  obtain ⟨r, e⟩ := prs_some hs 334 0 0 0 [] pZ (by decide) (by decide) (by decide)
  unfold parseS
  rw [e]
  rfl
def o_rule (S : pS) : pR := match (rdR S.tx S.tl).1 with
  | some p => (-1 - nI p, S.sTl 0)
  | none => (0, (S.sRv (rdR S.tx S.tl).2).sTl 0)
def lawA (S : pS) (rv : pRV) : Int32 := sumI (daysW rv S.br S.dn S.n 12 S.W).lv S.n
def o_law (S : pS) : pR := match (rdR S.tx S.tl).1 with
  | some p => (-10000 - nI p, S.sTl 0)
  | none => (lawA S (rdR S.tx S.tl).2 - lawA S S.rv, (S.sRw [(lawA S (rdR S.tx S.tl).2).toInt64, (lawA S S.rv).toInt64]).sTl 0)
theorem rdR_ps {tx : Nat → Nat} {tl p : Nat} (h : (rdR tx tl).1 = some p) : p ≤ 40 := by
  unfold rdR at h
  split at h
  · cases h
  · split at h
    · cases h
    · cases h
      exact (prs_pos (sgk tx tl) 334 0 0 0 [] pZ _ (by decide) (by decide) (parse_eq (sgk tx tl))).1
section CR
variable {Ex : State → Nat → Prop} {Q : Option Value → pz_H → Prop} {d bc bs : Nat} {h h' : pz_H} {x rF rO n : Nat} {td : Option Nat} {dw : Int32} {S : pS} {br dn : Nat → Int32} {W T : pW} {rv : pRV} {rw : List Int64} {sg : Nat → Int32} {tx : Nat → Nat} {tl : Nat} {pa sk th : Nat → Int32} {len : Nat} {src : Option Nat} {at_ : Int32} {q t : Nat}
theorem t_readR (HR : Rul h q pa sk th len src at_) (HX : Txt h t sg tl) (hx : TxR sg tx) (ht : tl ≤ 80) (hqt : t + 2 ≤ q ∨ q + 4 ≤ t) (hd : 41 ≤ d)
    (hq : ∀ h' pa' len' src' at', Rul h' q pa' sk th len' src' at' → ((rdR tx tl).1 = none → RVal pa' len' (rdR tx tl).2) → Fr [q, q + 1] h h' → Q (some (.int (match (rdR tx tl).1 with | some p => nI p | none => -1))) h') : pz_V mX5_read Ex Q d bc bs 0 [(0, .ref q), (1, .ref t)] [] h := by
  refine wX5_read_0 hd (HR.q4.mpr ?_)
  have H1 := HR.w4 t
  refine H1.p3.mpr ?_
  have H2 := H1.u3 0
  refine H2.p5.mpr ?_
  have H3 := H2.u5 0
  have hF3 : Fr [q, q + 1] h _ := (((Fr.rf (h := h)).put (b := q) (e := aO 5 [.ref (q + 1), .ref (q + 2), .ref (q + 3), .int (nI len), .ref t, .int at_]) (by simp)).put (b := q) (e := aO 5 [.ref (q + 1), .ref (q + 2), .ref (q + 3), .int (nI 0), va_rf (some t), .int at_]) (by simp)).put (b := q) (e := aO 5 [.ref (q + 1), .ref (q + 2), .ref (q + 3), .int (nI 0), va_rf (some t), .int 0]) (by simp)
  have HX3 := txF HX hF3 hqt
  have HP3 : RulP _ q pa sk th [] 0 t := ⟨H3, fun j hj => absurd hj (Nat.not_lt_zero j)⟩
  refine ⟨HX3.i.mpr trivial, HX3.g1.mpr ⟨fun h0 => ?_, fun h0 => ⟨H3.i.mpr trivial, ?_⟩⟩⟩
  · have e0 : tl = 0 := (nI_inj' (b := 0) (by omega) (by decide)).mp h0
    have er : rdR tx tl = (none, rv0) := by unfold rdR; rw [if_pos e0]
    rw [er] at hq
    refine hq _ pa 0 _ _ H3 (fun _ => ⟨by decide, fun sk l1 l2 l3 l4 l5 l6 => ?_⟩) hF3
    unfold wval
    rw [if_pos rfl]
    rfl
  · have e0 : ¬ tl = 0 := fun z => h0 (by rw [z]; rfl)
    have er : rdR tx tl = if (parseS (sgn tx tl 40)).ok = true ∧ (parseS (sgn tx tl 40)).ps = tl then (none, rvOf (parseS (sgn tx tl 40)).vl) else (some (parseS (sgn tx tl 40)).ps, rv0) := by unfold rdR; rw [if_neg e0]
    rw [er] at hq
    have pe := parse_eq (sgk tx tl)
    have pos := prs_pos (sgk tx tl) 334 0 0 0 [] pZ _ (by decide) (by decide) pe
    have ev := fun e => prs_ev (sg := sgn tx tl 40) e 334 0 0 0 [] pZ _ (by decide) pe
    refine (p_read (sk := sk) (th := th) hx ht hqt 334).1 0 0 _ pa [] (parseS (sgn tx tl 40)) _ 40 0 0 pe (by decide) (by decide) HP3 HX3 (Nat.le_refl _) (by decide) (fun h4 pa4 L4 H4 g1 g2 hF4 => ⟨_, rfl, ?_⟩)
    generalize parseS (sgn tx tl 40) = r at hq pos ev H4 g1 ⊢
    have hp := pos.1
    have hF := hF3.tt hF4
    have HX4 := txF HX3 hF4 hqt
    have bad : ¬ (r.ok = true ∧ r.ps = tl) → Q (some (.int (nI r.ps))) h4 := by
      intro hb
      rw [if_neg hb] at hq
      exact hq h4 pa4 L4.length _ _ H4.1 (fun z => by cases z) hF
    refine ⟨fun hz => H4.1.g5.mpr (bad (fun z => by rw [no_if hz] at z; exact absurd z.1 (by decide))), fun hnz => H4.1.g5.mpr ⟨HX4.i.mpr trivial, HX4.g1.mpr ⟨fun hne => H4.1.g5.mpr (bad (fun z => hne (by rw [z.2]))), fun heq => ?_⟩⟩⟩
    have hok := ok_if hnz
    have heq : r.ps = tl := (nI_inj' (by omega) (by omega)).mp heq
    rw [if_pos ⟨hok, heq⟩] at hq
    have eL : L4 = r.pt := g1 hok
    subst eL
    have hlen := (pos.2.2 hok).2 (by decide)
    refine hq h4 pa4 r.pt.length _ _ H4.1 (fun _ => ⟨by omega, fun sk l1 l2 l3 l4 l5 l6 => ?_⟩) hF
    have hmap : (List.range r.pt.length).map pa4 = r.pt := by
      apply List.ext_getElem
      · simp
      · intro i h1 h2
        simp only [List.getElem_map, List.getElem_range]
        rw [H4.2 i h2, List.getD_eq_getElem?_getD, List.getElem?_eq_getElem h2]
        rfl
    obtain ⟨s', e1, e2, -⟩ := ev (thf l1 l2 l3 l4 l5 l6) hok (fun z => absurd z (by decide)) sk 0 (by omega)
    unfold wval
    by_cases hz : r.pt.length = 0
    · exfalso
      have enil : r.pt = [] := List.eq_nil_of_length_eq_zero hz
      rw [enil] at e1
      have : (sk, 0) = (s', 0 + 1) := e1
      have e9 : (0 : Nat) = 0 + 1 := congrArg Prod.snd this
      omega
    · rw [if_neg hz, wrun_list, hmap, e1]
      exact e2
theorem C_rule (I : CInv h x S) (O : SOk S) (hd : 42 ≤ d) (hq : ∀ h', CInv h' x (o_rule S).2 → FC x h h' → Q (some (.int (o_rule S).1)) h') : pz_V mX9_rule Ex Q d bc bs 0 [(0, .ref x)] [] h := by
  obtain ⟨rF, rO, td, dw, T, C, H⟩ := I
  obtain ⟨hh1, hh2, ⟨zhsg, hh3, hh3'⟩, ⟨zhB, hh4, hh4'⟩, hh5, hh6, ⟨zhch, zhne, zhof, hh7⟩, ⟨zhg, hh8, hh8'⟩, hh9, hh10, ⟨zhb1, hh11⟩, ⟨zhb2, hh12⟩, ⟨zhpa, zhsk, zhth, zhlen, zhsrc, zhat, hh13⟩, hh14⟩ := id H
  have hr := C.1
  unfold o_rule at hq
  refine wX9_rule_0 hd (hh2.g13.mpr (hh2.g0.mpr ⟨hh13.i.mpr trivial, t_readR hh13 hh3 hh3' O.2.1 (by omega) (by omega) (fun h1 pa1 len1 src1 at1 HR1 hv1 hF1 => ⟨_, rfl, ?_⟩)⟩))
  have C1 := C.fr hF1 (by intro b hb; simp at hb; omega)
  have H1 : CRest h1 x rF rO td dw S := ⟨hh1, hh2.fr hF1 (by simp <;> omega), ⟨zhsg, hh3.fr hF1 (by intro b hb; simp at hb; omega), hh3'⟩, ⟨zhB, hh4.fr hF1 (by intro b hb; simp at hb; omega), hh4'⟩, hh5.fr hF1 (by intro b hb; simp at hb; omega), hh6.fr hF1 (by intro b hb; simp at hb; omega), ⟨zhch, zhne, zhof, hh7.fr hF1 (by intro b hb; simp at hb; omega)⟩, ⟨zhg, (hF1.2 _ (by simp <;> omega)).trans hh8, hh8'⟩, ⟨hh9.1.fr hF1 (by intro b hb; simp at hb; omega), hh9.2⟩, ⟨hh10.1.fr hF1 (by intro b hb; simp at hb; omega), hh10.2⟩, ⟨zhb1, (hF1.2 _ (by simp <;> omega)).trans hh11⟩, ⟨zhb2, (hF1.2 _ (by simp <;> omega)).trans hh12⟩, ⟨pa1, zhsk, zhth, len1, src1, at1, HR1⟩, tdFr hh14 hF1 (by intro b hb; simp at hb; omega)⟩
  have f1 : FC x h h1 := FC.of hF1 (by intro b hb; simp at hb; omega)
  refine q_clrT C1 H1 (fun h2 C2 H2 f2 hF2 => ?_)
  have HRo := HR1.fr hF2 (by intro b hb; simp at hb; omega)
  cases hf : (rdR S.tx S.tl).1 with
  | some p =>
    rw [hf] at hq
    have := rdR_ps hf
    exact ⟨fun hc => absurd hc (nI_pos (by omega)), fun _ => hq h2 ⟨rF, rO, td, dw, T, C2, H2⟩ (f1.tr f2)⟩
  | none =>
    rw [hf] at hq
    have hv := hv1 hf
    refine ⟨fun _ => ?_, fun hc => absurd (by decide) hc⟩
    have HTt := H2.2.1
    refine HTt.g12.mpr (HTt.g13.mpr (HTt.p12.mpr ?_))
    have HT3 := HTt.u12 rO
    refine HT3.p13.mpr ?_
    have HT4 := HT3.u13 rF
    have hF4 : Fr [x] h2 _ := ((Fr.rf (h := h2)).put (b := x) (e := aO 9 [.ref (x + 1), .ref (x + 3), .ref (x + 5), .ref (x + 10), .ref (x + 16), .ref (x + 22), .ref (x + 28), .ref (x + 102), .ref (x + 106), .ref (x + 109), .ref (x + 110), .ref (x + 111), .ref rO, .ref rO, va_rf td, .int (nI (S.sTl 0).ks), .int dw]) (by simp)).put (b := x) (e := aO 9 [.ref (x + 1), .ref (x + 3), .ref (x + 5), .ref (x + 10), .ref (x + 16), .ref (x + 22), .ref (x + 28), .ref (x + 102), .ref (x + 106), .ref (x + 109), .ref (x + 110), .ref (x + 111), .ref rO, .ref rF, va_rf td, .int (nI (S.sTl 0).ks), .int dw]) (by simp)
    clear hh2 hh3 hh4 hh5 hh6 hh7 hh8 hh9 hh10 hh11 hh12 hh13 hh14
    obtain ⟨hh1, hh2, ⟨zhsg, hh3, hh3'⟩, ⟨zhB, hh4, hh4'⟩, hh5, hh6, ⟨zhch, zhne, zhof, hh7⟩, ⟨zhg, hh8, hh8'⟩, hh9, hh10, ⟨zhb1, hh11⟩, ⟨zhb2, hh12⟩, ⟨zhpa, zhsk, zhth, zhlen, zhsrc, zhat, hh13⟩, hh14⟩ := id H2
    obtain ⟨hr2, hn2, hWo2, hTo2, ⟨rO2, td2, ks2, dw2, HTop2⟩, ⟨ru2, nx2, HL2⟩, HW2, HT2, ⟨pa2, sk2, th2, len2, src2, at2, HR2, hv2⟩, ⟨nu2, HRow2, hrow2⟩⟩ := id C2
    refine hq _ ⟨rO, rF, td, dw, T, ⟨by omega, hn2, hWo2, hTo2, ⟨_, _, _, _, HT4⟩, ⟨ru2, nx2, HL2.fr hF4 (by intro b hb; simp at hb; omega)⟩, HW2.fr hF4 (by intro b hb; simp at hb; omega), HT2.fr hF4 (by intro b hb; simp at hb; omega), ⟨pa1, _, _, len1, src1, at1, HRo.fr hF4 (by intro b hb; simp at hb; omega), hv⟩, ⟨nu2, HRow2.fr hF4 (by intro b hb; simp at hb; omega), hrow2⟩⟩, ?_⟩ ((f1.tr f2).tr (FC.of hF4 (by intro b hb; simp at hb; omega)))
    exact ⟨(by omega), HT4, ⟨zhsg, hh3.fr hF4 (by intro b hb; simp at hb; omega), hh3'⟩, ⟨zhB, hh4.fr hF4 (by intro b hb; simp at hb; omega), hh4'⟩, hh5.fr hF4 (by intro b hb; simp at hb; omega), hh6.fr hF4 (by intro b hb; simp at hb; omega), ⟨zhch, zhne, zhof, hh7.fr hF4 (by intro b hb; simp at hb; omega)⟩, ⟨zhg, (hF4.2 _ (by simp <;> omega)).trans hh8, hh8'⟩, ⟨hh9.1.fr hF4 (by intro b hb; simp at hb; omega), hh9.2⟩, ⟨hh10.1.fr hF4 (by intro b hb; simp at hb; omega), hh10.2⟩, ⟨zhb1, (hF4.2 _ (by simp <;> omega)).trans hh11⟩, ⟨zhb2, (hF4.2 _ (by simp <;> omega)).trans hh12⟩, ⟨pa2, sk2, th2, len2, src2, at2, HR2.fr hF4 (by intro b hb; simp at hb; omega)⟩, tdFr hh14 hF4 (by intro b hb; simp at hb; omega)⟩
theorem C_law (I : CInv h x S) (O : SOk S) (hd : 42 ≤ d) (hq : ∀ h', CInv h' x (o_law S).2 → FC x h h' → Q (some (.int (o_law S).1)) h') : pz_V mX9_law Ex Q d bc bs 0 [(0, .ref x)] [] h := by
  obtain ⟨rF, rO, td, dw, T, C, H⟩ := I
  obtain ⟨hh1, hh2, ⟨zhsg, hh3, hh3'⟩, ⟨zhB, hh4, hh4'⟩, hh5, hh6, ⟨zhch, zhne, zhof, hh7⟩, ⟨zhg, hh8, hh8'⟩, hh9, hh10, ⟨zhb1, hh11⟩, ⟨zhb2, hh12⟩, ⟨zhpa, zhsk, zhth, zhlen, zhsrc, zhat, hh13⟩, hh14⟩ := id H
  have hr := C.1
  unfold o_law at hq
  refine wX9_law_0 hd (hh2.g13.mpr (hh2.g0.mpr ⟨hh13.i.mpr trivial, t_readR hh13 hh3 hh3' O.2.1 (by omega) (by omega) (fun h1 pa1 len1 src1 at1 HR1 hv1 hF1 => ⟨_, rfl, ?_⟩)⟩))
  have C1 := C.fr hF1 (by intro b hb; simp at hb; omega)
  have H1 : CRest h1 x rF rO td dw S := ⟨hh1, hh2.fr hF1 (by simp <;> omega), ⟨zhsg, hh3.fr hF1 (by intro b hb; simp at hb; omega), hh3'⟩, ⟨zhB, hh4.fr hF1 (by intro b hb; simp at hb; omega), hh4'⟩, hh5.fr hF1 (by intro b hb; simp at hb; omega), hh6.fr hF1 (by intro b hb; simp at hb; omega), ⟨zhch, zhne, zhof, hh7.fr hF1 (by intro b hb; simp at hb; omega)⟩, ⟨zhg, (hF1.2 _ (by simp <;> omega)).trans hh8, hh8'⟩, ⟨hh9.1.fr hF1 (by intro b hb; simp at hb; omega), hh9.2⟩, ⟨hh10.1.fr hF1 (by intro b hb; simp at hb; omega), hh10.2⟩, ⟨zhb1, (hF1.2 _ (by simp <;> omega)).trans hh11⟩, ⟨zhb2, (hF1.2 _ (by simp <;> omega)).trans hh12⟩, ⟨pa1, zhsk, zhth, len1, src1, at1, HR1⟩, tdFr hh14 hF1 (by intro b hb; simp at hb; omega)⟩
  have f1 : FC x h h1 := FC.of hF1 (by intro b hb; simp at hb; omega)
  refine q_clrT C1 H1 (fun h2 C2 H2 f2 hF2 => ?_)
  have HRo := HR1.fr hF2 (by intro b hb; simp at hb; omega)
  cases hf : (rdR S.tx S.tl).1 with
  | some p =>
    rw [hf] at hq
    have := rdR_ps hf
    exact ⟨fun hc => absurd hc (nI_pos (by omega)), fun _ => hq h2 ⟨rF, rO, td, dw, T, C2, H2⟩ (f1.tr f2)⟩
  | none =>
    rw [hf] at hq
    have hv := hv1 hf
    refine ⟨fun _ => ⟨H2.2.1.i.mpr trivial, q_start C2 (Nat.le_refl _) (fun h3 C3 hF3 => ⟨rfl, ?_⟩)⟩, fun hc => absurd (by decide) hc⟩
    have H3 := H2.fr hF3 (fun b hb => sc_in hb)
    have HRo3 := HRo.fr hF3 (by intro b hb; simp at hb; omega)
    have HTt3 := H3.2.1
    obtain ⟨hr3, hn3, hWo3, hTo3, ⟨rO3, td3, ks3, dw3, HTop3⟩, ⟨ru3, nx3, HL3⟩, HW3, HT3, ⟨pa3, sk3, th3, len3, src3, at3, HR3, hv3⟩, ⟨nu3, HRow3, hrow3⟩⟩ := id C3
    refine HTt3.g2.mpr (HTt3.g5.mpr (HTt3.g13.mpr ⟨HL3.i.mpr trivial, ?_⟩))
    refine t_passDays (m := 12) HL3 HT3 HRo3 hn3 hTo3.1 hv ⟨by omega, by omega, by omega⟩ (Nat.le_refl _) (by decide) (fun h4 ru4 nx4 sk4 th4 HL4 HW4 HR4 hF4 => ⟨rfl, ?_⟩)
    have C4 : CQ h4 x rF S.n S.br S.dn S.W (daysW (rdR S.tx S.tl).2 S.br S.dn S.n 12 S.W) S.rv S.rw := ⟨hr3, hn3, hWo3, hWo3.days hn3 12, ⟨rO3, td3, ks3, dw3, HTop3.fr hF4 (by simp <;> omega)⟩, ⟨ru4, nx4, HL4⟩, HW3.fr hF4 (by intro b hb; simp at hb; omega), HW4, ⟨pa3, sk3, th3, len3, src3, at3, HR3.fr hF4 (by intro b hb; simp at hb; omega), hv3⟩, ⟨nu3, HRow3.fr hF4 (by intro b hb; simp at hb; omega), hrow3⟩⟩
    clear hh2 hh3 hh4 hh5 hh6 hh7 hh8 hh9 hh10 hh11 hh12 hh13 hh14
    have H4 : CRest h4 x rF rO td dw (S.sTl 0) := by
      obtain ⟨hh1, hh2, ⟨zhsg, hh3, hh3'⟩, ⟨zhB, hh4, hh4'⟩, hh5, hh6, ⟨zhch, zhne, zhof, hh7⟩, ⟨zhg, hh8, hh8'⟩, hh9, hh10, ⟨zhb1, hh11⟩, ⟨zhb2, hh12⟩, ⟨zhpa, zhsk, zhth, zhlen, zhsrc, zhat, hh13⟩, hh14⟩ := id H3
      exact ⟨hh1, hh2.fr hF4 (by simp <;> omega), ⟨zhsg, hh3.fr hF4 (by intro b hb; simp at hb; omega), hh3'⟩, ⟨zhB, hh4.fr hF4 (by intro b hb; simp at hb; omega), hh4'⟩, hh5.fr hF4 (by intro b hb; simp at hb; omega), hh6.fr hF4 (by intro b hb; simp at hb; omega), ⟨zhch, zhne, zhof, hh7.fr hF4 (by intro b hb; simp at hb; omega)⟩, ⟨zhg, (hF4.2 _ (by simp <;> omega)).trans hh8, hh8'⟩, ⟨hh9.1.fr hF4 (by intro b hb; simp at hb; omega), hh9.2⟩, ⟨hh10.1.fr hF4 (by intro b hb; simp at hb; omega), hh10.2⟩, ⟨zhb1, (hF4.2 _ (by simp <;> omega)).trans hh11⟩, ⟨zhb2, (hF4.2 _ (by simp <;> omega)).trans hh12⟩, ⟨pa1, sk4, th4, len1, src1, at1, HR4⟩, tdFr hh14 hF4 (by intro b hb; simp at hb; omega)⟩
    have f4 : FC x h h4 := ((f1.tr f2).tr (FC.of hF3 (fun b hb => by have := sc_in hb; omega))).tr (FC.of hF4 (by intro b hb; simp at hb; omega))
    have HTt4 := H4.2.1
    obtain ⟨hr4, hn4, hWo4, hTo4, ⟨rO4, td4, ks4, dw4, HTop4⟩, ⟨ru4, nx4, HL4⟩, HW4, HT4, ⟨pa4, sk4, th4, len4, src4, at4, HR4, hv4⟩, ⟨nu4, HRow4, hrow4⟩⟩ := id C4
    refine HTt4.g2.mpr (HTt4.g5.mpr ⟨HL4.i.mpr trivial, q_total C4 (Nat.le_refl _) ⟨_, rfl, HTt4.i.mpr trivial, q_start C4 (Nat.le_refl _) (fun h5 C5 hF5 => ⟨rfl, ?_⟩)⟩⟩)
    obtain ⟨hr5, hn5, hWo5, hTo5, ⟨rO5, td5, ks5, dw5, HTop5⟩, ⟨ru5, nx5, HL5⟩, HW5, HT5, ⟨pa5, sk5, th5, len5, src5, at5, HR5, hv5⟩, ⟨nu5, HRow5, hrow5⟩⟩ := id C5
    simp only [HTop5.g0, HTop5.g1, HTop5.g2, HTop5.g3, HTop5.g4, HTop5.g5, HTop5.g6, HTop5.g7, HTop5.g8, HTop5.g9, HTop5.g10, HTop5.g11, HTop5.g12, HTop5.g13, HTop5.g15, HTop5.g16, HTop5.i, HL5.g0, HL5.g1, HL5.g2, HL5.g3, HL5.g4, HL5.i, HL5.r0, HL5.r1, HW5.g0, HW5.g1, HW5.g2, HW5.g3, HW5.g4, HW5.g5, HW5.g6, HW5.g7, HW5.g8, HW5.i, HW5.r0, HW5.r1, HW5.r2, HW5.r3, HW5.r4, HT5.g0, HT5.g1, HT5.g2, HT5.g3, HT5.g4, HT5.g5, HT5.g6, HT5.g7, HT5.g8, HT5.i, HT5.r0, HT5.r1, HT5.r2, HT5.r3, HT5.r4, HR5.i, HRow5.i, true_and]
    refine q_days (m := 12) C5 (Nat.le_refl _) (by decide) (fun h6 C6 hF6 => ⟨rfl, ?_⟩)
    obtain ⟨hr6, hn6, hWo6, hTo6, ⟨rO6, td6, ks6, dw6, HTop6⟩, ⟨ru6, nx6, HL6⟩, HW6, HT6, ⟨pa6, sk6, th6, len6, src6, at6, HR6, hv6⟩, ⟨nu6, HRow6, hrow6⟩⟩ := id C6
    simp only [HTop6.g0, HTop6.g1, HTop6.g2, HTop6.g3, HTop6.g4, HTop6.g5, HTop6.g6, HTop6.g7, HTop6.g8, HTop6.g9, HTop6.g10, HTop6.g11, HTop6.g12, HTop6.g13, HTop6.g15, HTop6.g16, HTop6.i, HL6.g0, HL6.g1, HL6.g2, HL6.g3, HL6.g4, HL6.i, HL6.r0, HL6.r1, HW6.g0, HW6.g1, HW6.g2, HW6.g3, HW6.g4, HW6.g5, HW6.g6, HW6.g7, HW6.g8, HW6.i, HW6.r0, HW6.r1, HW6.r2, HW6.r3, HW6.r4, HT6.g0, HT6.g1, HT6.g2, HT6.g3, HT6.g4, HT6.g5, HT6.g6, HT6.g7, HT6.g8, HT6.i, HT6.r0, HT6.r1, HT6.r2, HT6.r3, HT6.r4, HR6.i, HRow6.i, true_and]
    refine q_total C6 (Nat.le_refl _) ⟨_, rfl, ?_⟩
    simp only [HTop6.g0, HTop6.g1, HTop6.g2, HTop6.g3, HTop6.g4, HTop6.g5, HTop6.g6, HTop6.g7, HTop6.g8, HTop6.g9, HTop6.g10, HTop6.g11, HTop6.g12, HTop6.g13, HTop6.g15, HTop6.g16, HTop6.i, HL6.g0, HL6.g1, HL6.g2, HL6.g3, HL6.g4, HL6.i, HL6.r0, HL6.r1, HW6.g0, HW6.g1, HW6.g2, HW6.g3, HW6.g4, HW6.g5, HW6.g6, HW6.g7, HW6.g8, HW6.i, HW6.r0, HW6.r1, HW6.r2, HW6.r3, HW6.r4, HT6.g0, HT6.g1, HT6.g2, HT6.g3, HT6.g4, HT6.g5, HT6.g6, HT6.g7, HT6.g8, HT6.i, HT6.r0, HT6.r1, HT6.r2, HT6.r3, HT6.r4, HR6.i, HRow6.i, true_and]
    refine q_tell2 C6 (Nat.le_refl _) (fun h7 C7 hF7 => ⟨rfl, ?_⟩)
    have hF := (hF5.tt hF6).tt hF7
    exact hq h7 ⟨rF, rO, td, dw, _, C7, (H4.fr hF (fun b hb => sc_in hb)).sRw⟩ (f4.tr (FC.of hF (fun b hb => by have := sc_in hb; omega)))
end CR
