def eX9_isIn (l0 : Int32) (l1 : Int32) : Int32 := if ((l0 >>> (l1 &&& 31)) &&& ((1 : Int32))) = ((1 : Int32)) then 1 else 0
theorem zX9_isIn (l0 : Int32) (l1 : Int32) : eX9_isIn l0 l1 = 0 ∨ eX9_isIn l0 l1 = 1 := by
  unfold eX9_isIn
  repeat' split
  all_goals first | exact Or.inl rfl | exact Or.inr rfl | exact Or.inl rfl
set_option maxRecDepth 20000 in
set_option maxHeartbeats 4000000 in
theorem cX9_isIn {Ex : State → Nat → Prop} {Q : Option Value → pz_H → Prop} {d bc bs : Nat} {l0 : Int32} {l1 : Int32} {h : pz_H} (hb : Q (some (.int (eX9_isIn l0 l1))) h) : pz_V mX9_isIn Ex Q d bc bs 0 [(0, .int l0), (1, .int l1)] [] h := by
  unfold eX9_isIn at hb
  refine pz_iload_n (pc' := 1) (x := l0) 0 rfl (pz_dc dX9_isIn 0 rfl) rfl ?_
  refine pz_iload_n (pc' := 2) (x := l1) 1 rfl (pz_dc dX9_isIn 1 rfl) rfl ?_
  refine pz_ishr (pc' := 3) rfl (pz_dc dX9_isIn 2 rfl) ?_
  refine pz_iconst (pc' := 4) (v := 1) rfl (pz_dc dX9_isIn 3 rfl) ki_1 ?_
  refine pz_iand (pc' := 5) rfl (pz_dc dX9_isIn 4 rfl) ?_
  refine pz_iconst (pc' := 6) (v := 1) rfl (pz_dc dX9_isIn 5 rfl) ki_1 ?_
  refine pz_icmp_ne (pc' := 9) (tgt := 13) rfl (pz_dc dX9_isIn 6 rfl) (by decide) (fun hc => ?_) (fun hc => ?_)
  · rw [if_neg hc] at hb
    refine pz_iconst (pc' := 14) (v := 0) rfl (pz_dc dX9_isIn 9 rfl) ki_0 ?_
    exact pz_zret (pz_dc dX9_isIn 10 rfl) rfl ⟨by decide, hb⟩
  · rw [if_pos hc] at hb
    refine pz_iconst (pc' := 10) (v := 1) rfl (pz_dc dX9_isIn 7 rfl) ki_1 ?_
    refine pz_goto (pc' := 14) (pz_dc dX9_isIn 8 rfl) (by decide) ?_
    exact pz_zret (pz_dc dX9_isIn 10 rfl) rfl ⟨by decide, hb⟩
def eX9_isWithin (l0 : Int32) (l1 : Int32) (l2 : Int32) : Int32 := if l0 < l1 then 0 else (if l2 < l0 then 0 else 1)
theorem zX9_isWithin (l0 : Int32) (l1 : Int32) (l2 : Int32) : eX9_isWithin l0 l1 l2 = 0 ∨ eX9_isWithin l0 l1 l2 = 1 := by
  unfold eX9_isWithin
  repeat' split
  all_goals first | exact Or.inl rfl | exact Or.inr rfl | exact Or.inl rfl
set_option maxRecDepth 20000 in
set_option maxHeartbeats 4000000 in
theorem cX9_isWithin {Ex : State → Nat → Prop} {Q : Option Value → pz_H → Prop} {d bc bs : Nat} {l0 : Int32} {l1 : Int32} {l2 : Int32} {h : pz_H} (hb : Q (some (.int (eX9_isWithin l0 l1 l2))) h) : pz_V mX9_isWithin Ex Q d bc bs 0 [(0, .int l0), (1, .int l1), (2, .int l2)] [] h := by
  unfold eX9_isWithin at hb
  refine pz_iload_n (pc' := 1) (x := l0) 0 rfl (pz_dc dX9_isWithin 0 rfl) rfl ?_
  refine pz_iload_n (pc' := 2) (x := l1) 1 rfl (pz_dc dX9_isWithin 1 rfl) rfl ?_
  refine pz_icmp_lt (pc' := 5) (tgt := 14) rfl (pz_dc dX9_isWithin 2 rfl) (by decide) (fun hc => ?_) (fun hc => ?_)
  · rw [if_pos hc] at hb
    refine pz_iconst (pc' := 15) (v := 0) rfl (pz_dc dX9_isWithin 8 rfl) ki_0 ?_
    exact pz_zret (pz_dc dX9_isWithin 9 rfl) rfl ⟨by decide, hb⟩
  · rw [if_neg hc] at hb
    refine pz_iload_n (pc' := 6) (x := l0) 0 rfl (pz_dc dX9_isWithin 3 rfl) rfl ?_
    refine pz_iload_n (pc' := 7) (x := l2) 2 rfl (pz_dc dX9_isWithin 4 rfl) rfl ?_
    refine pz_icmp_gt (pc' := 10) (tgt := 14) rfl (pz_dc dX9_isWithin 5 rfl) (by decide) (fun hc => ?_) (fun hc => ?_)
    · rw [if_pos hc] at hb
      refine pz_iconst (pc' := 15) (v := 0) rfl (pz_dc dX9_isWithin 8 rfl) ki_0 ?_
      exact pz_zret (pz_dc dX9_isWithin 9 rfl) rfl ⟨by decide, hb⟩
    · rw [if_neg hc] at hb
      refine pz_iconst (pc' := 11) (v := 1) rfl (pz_dc dX9_isWithin 6 rfl) ki_1 ?_
      refine pz_goto (pc' := 15) (pz_dc dX9_isWithin 7 rfl) (by decide) ?_
      exact pz_zret (pz_dc dX9_isWithin 9 rfl) rfl ⟨by decide, hb⟩
def eX9_isKing (l0 : Int32) : Int32 := if l0 < 0 then 0 else (if ((4 : Int32)) ≤ l0 then 0 else 1)
theorem zX9_isKing (l0 : Int32) : eX9_isKing l0 = 0 ∨ eX9_isKing l0 = 1 := by
  unfold eX9_isKing
  repeat' split
  all_goals first | exact Or.inl rfl | exact Or.inr rfl | exact Or.inl rfl
set_option maxRecDepth 20000 in
set_option maxHeartbeats 4000000 in
theorem cX9_isKing {Ex : State → Nat → Prop} {Q : Option Value → pz_H → Prop} {d bc bs : Nat} {l0 : Int32} {h : pz_H} (hb : Q (some (.int (eX9_isKing l0))) h) : pz_V mX9_isKing Ex Q d bc bs 0 [(0, .int l0)] [] h := by
  unfold eX9_isKing at hb
  refine pz_iload_n (pc' := 1) (x := l0) 0 rfl (pz_dc dX9_isKing 0 rfl) rfl ?_
  refine pz_if_lt (pc' := 4) (tgt := 13) rfl (pz_dc dX9_isKing 1 rfl) (by decide) (fun hc => ?_) (fun hc => ?_)
  · rw [if_pos hc] at hb
    refine pz_iconst (pc' := 14) (v := 0) rfl (pz_dc dX9_isKing 7 rfl) ki_0 ?_
    exact pz_zret (pz_dc dX9_isKing 8 rfl) rfl ⟨by decide, hb⟩
  · rw [if_neg hc] at hb
    refine pz_iload_n (pc' := 5) (x := l0) 0 rfl (pz_dc dX9_isKing 2 rfl) rfl ?_
    refine pz_iconst (pc' := 6) (v := 4) rfl (pz_dc dX9_isKing 3 rfl) ki_4 ?_
    refine pz_icmp_ge (pc' := 9) (tgt := 13) rfl (pz_dc dX9_isKing 4 rfl) (by decide) (fun hc => ?_) (fun hc => ?_)
    · rw [if_pos hc] at hb
      refine pz_iconst (pc' := 14) (v := 0) rfl (pz_dc dX9_isKing 7 rfl) ki_0 ?_
      exact pz_zret (pz_dc dX9_isKing 8 rfl) rfl ⟨by decide, hb⟩
    · rw [if_neg hc] at hb
      refine pz_iconst (pc' := 10) (v := 1) rfl (pz_dc dX9_isKing 5 rfl) ki_1 ?_
      refine pz_goto (pc' := 14) (pz_dc dX9_isKing 6 rfl) (by decide) ?_
      exact pz_zret (pz_dc dX9_isKing 8 rfl) rfl ⟨by decide, hb⟩
def eX9_isDigit (l0 : Int32) : Int32 := if l0 < ((48 : Int32)) then 0 else (if ((57 : Int32)) < l0 then 0 else 1)
theorem zX9_isDigit (l0 : Int32) : eX9_isDigit l0 = 0 ∨ eX9_isDigit l0 = 1 := by
  unfold eX9_isDigit
  repeat' split
  all_goals first | exact Or.inl rfl | exact Or.inr rfl | exact Or.inl rfl
set_option maxRecDepth 20000 in
set_option maxHeartbeats 4000000 in
theorem cX9_isDigit {Ex : State → Nat → Prop} {Q : Option Value → pz_H → Prop} {d bc bs : Nat} {l0 : Int32} {h : pz_H} (hb : Q (some (.int (eX9_isDigit l0))) h) : pz_V mX9_isDigit Ex Q d bc bs 0 [(0, .int l0)] [] h := by
  unfold eX9_isDigit at hb
  refine pz_iload_n (pc' := 1) (x := l0) 0 rfl (pz_dc dX9_isDigit 0 rfl) rfl ?_
  refine pz_bipush (pc' := 3) (v := 48) rfl (pz_dc dX9_isDigit 1 rfl) kb_48 ?_
  refine pz_icmp_lt (pc' := 6) (tgt := 16) rfl (pz_dc dX9_isDigit 2 rfl) (by decide) (fun hc => ?_) (fun hc => ?_)
  · rw [if_pos hc] at hb
    refine pz_iconst (pc' := 17) (v := 0) rfl (pz_dc dX9_isDigit 8 rfl) ki_0 ?_
    exact pz_zret (pz_dc dX9_isDigit 9 rfl) rfl ⟨by decide, hb⟩
  · rw [if_neg hc] at hb
    refine pz_iload_n (pc' := 7) (x := l0) 0 rfl (pz_dc dX9_isDigit 3 rfl) rfl ?_
    refine pz_bipush (pc' := 9) (v := 57) rfl (pz_dc dX9_isDigit 4 rfl) kb_57 ?_
    refine pz_icmp_gt (pc' := 12) (tgt := 16) rfl (pz_dc dX9_isDigit 5 rfl) (by decide) (fun hc => ?_) (fun hc => ?_)
    · rw [if_pos hc] at hb
      refine pz_iconst (pc' := 17) (v := 0) rfl (pz_dc dX9_isDigit 8 rfl) ki_0 ?_
      exact pz_zret (pz_dc dX9_isDigit 9 rfl) rfl ⟨by decide, hb⟩
    · rw [if_neg hc] at hb
      refine pz_iconst (pc' := 13) (v := 1) rfl (pz_dc dX9_isDigit 6 rfl) ki_1 ?_
      refine pz_goto (pc' := 17) (pz_dc dX9_isDigit 7 rfl) (by decide) ?_
      exact pz_zret (pz_dc dX9_isDigit 9 rfl) rfl ⟨by decide, hb⟩
def eX9_isKingSign (l0 : Int32) : Int32 := if l0 < ((97 : Int32)) then 0 else (if ((101 : Int32)) ≤ l0 then 0 else 1)
theorem zX9_isKingSign (l0 : Int32) : eX9_isKingSign l0 = 0 ∨ eX9_isKingSign l0 = 1 := by
  unfold eX9_isKingSign
  repeat' split
  all_goals first | exact Or.inl rfl | exact Or.inr rfl | exact Or.inl rfl
set_option maxRecDepth 20000 in
set_option maxHeartbeats 4000000 in
theorem cX9_isKingSign {Ex : State → Nat → Prop} {Q : Option Value → pz_H → Prop} {d bc bs : Nat} {l0 : Int32} {h : pz_H} (hb : Q (some (.int (eX9_isKingSign l0))) h) : pz_V mX9_isKingSign Ex Q d bc bs 0 [(0, .int l0)] [] h := by
  unfold eX9_isKingSign at hb
  refine pz_iload_n (pc' := 1) (x := l0) 0 rfl (pz_dc dX9_isKingSign 0 rfl) rfl ?_
  refine pz_bipush (pc' := 3) (v := 97) rfl (pz_dc dX9_isKingSign 1 rfl) kb_97 ?_
  refine pz_icmp_lt (pc' := 6) (tgt := 16) rfl (pz_dc dX9_isKingSign 2 rfl) (by decide) (fun hc => ?_) (fun hc => ?_)
  · rw [if_pos hc] at hb
    refine pz_iconst (pc' := 17) (v := 0) rfl (pz_dc dX9_isKingSign 8 rfl) ki_0 ?_
    exact pz_zret (pz_dc dX9_isKingSign 9 rfl) rfl ⟨by decide, hb⟩
  · rw [if_neg hc] at hb
    refine pz_iload_n (pc' := 7) (x := l0) 0 rfl (pz_dc dX9_isKingSign 3 rfl) rfl ?_
    refine pz_bipush (pc' := 9) (v := 101) rfl (pz_dc dX9_isKingSign 4 rfl) kb_101 ?_
    refine pz_icmp_ge (pc' := 12) (tgt := 16) rfl (pz_dc dX9_isKingSign 5 rfl) (by decide) (fun hc => ?_) (fun hc => ?_)
    · rw [if_pos hc] at hb
      refine pz_iconst (pc' := 17) (v := 0) rfl (pz_dc dX9_isKingSign 8 rfl) ki_0 ?_
      exact pz_zret (pz_dc dX9_isKingSign 9 rfl) rfl ⟨by decide, hb⟩
    · rw [if_neg hc] at hb
      refine pz_iconst (pc' := 13) (v := 1) rfl (pz_dc dX9_isKingSign 6 rfl) ki_1 ?_
      refine pz_goto (pc' := 17) (pz_dc dX9_isKingSign 7 rfl) (by decide) ?_
      exact pz_zret (pz_dc dX9_isKingSign 9 rfl) rfl ⟨by decide, hb⟩
def eX9_entryOf (l0 : Int32) (l1 : Int32) : Int32 := if l0 = 0 then l1.toInt8.toInt32 else (if l0 = ((1 : Int32)) then l1.toInt16.toInt32 else l1)
set_option maxRecDepth 20000 in
set_option maxHeartbeats 4000000 in
theorem cX9_entryOf {Ex : State → Nat → Prop} {Q : Option Value → pz_H → Prop} {d bc bs : Nat} {l0 : Int32} {l1 : Int32} {h : pz_H} (hb : Q (some (.int (eX9_entryOf l0 l1))) h) : pz_V mX9_entryOf Ex Q d bc bs 0 [(0, .int l0), (1, .int l1)] [] h := by
  unfold eX9_entryOf at hb
  refine pz_iload_n (pc' := 1) (x := l0) 0 rfl (pz_dc dX9_entryOf 0 rfl) rfl ?_
  refine pz_if_ne (pc' := 4) (tgt := 7) rfl (pz_dc dX9_entryOf 1 rfl) (by decide) (fun hc => ?_) (fun hc => ?_)
  · rw [if_neg hc] at hb
    refine pz_iload_n (pc' := 8) (x := l0) 0 rfl (pz_dc dX9_entryOf 5 rfl) rfl ?_
    refine pz_iconst (pc' := 9) (v := 1) rfl (pz_dc dX9_entryOf 6 rfl) ki_1 ?_
    refine pz_icmp_ne (pc' := 12) (tgt := 17) rfl (pz_dc dX9_entryOf 7 rfl) (by decide) (fun hc => ?_) (fun hc => ?_)
    · rw [if_neg hc] at hb
      refine pz_iload_n (pc' := 18) (x := l1) 1 rfl (pz_dc dX9_entryOf 11 rfl) rfl ?_
      exact pz_iret (pz_dc dX9_entryOf 12 rfl) rfl hb
    · rw [if_pos hc] at hb
      refine pz_iload_n (pc' := 13) (x := l1) 1 rfl (pz_dc dX9_entryOf 8 rfl) rfl ?_
      refine pz_i2s (pc' := 14) rfl (pz_dc dX9_entryOf 9 rfl) ?_
      refine pz_goto (pc' := 18) (pz_dc dX9_entryOf 10 rfl) (by decide) ?_
      exact pz_iret (pz_dc dX9_entryOf 12 rfl) rfl hb
  · rw [if_pos hc] at hb
    refine pz_iload_n (pc' := 5) (x := l1) 1 rfl (pz_dc dX9_entryOf 2 rfl) rfl ?_
    refine pz_i2b (pc' := 6) rfl (pz_dc dX9_entryOf 3 rfl) ?_
    exact pz_iret (pz_dc dX9_entryOf 4 rfl) rfl hb
def eX1_has (l1 : Int32) (x1 : Int32) : Int32 := if l1 < 0 then 0 else (if x1 ≤ l1 then 0 else 1)
theorem zX1_has (l1 : Int32) (x1 : Int32) : eX1_has l1 x1 = 0 ∨ eX1_has l1 x1 = 1 := by
  unfold eX1_has
  repeat' split
  all_goals first | exact Or.inl rfl | exact Or.inr rfl | exact Or.inl rfl
set_option maxRecDepth 20000 in
set_option maxHeartbeats 4000000 in
theorem cX1_has {Ex : State → Nat → Prop} {Q : Option Value → pz_H → Prop} {d bc bs : Nat} {l0 : Nat} {l1 : Int32} {h : pz_H} (hb : pz_gI h l0 1 4 (fun (x1 : Int32) => Q (some (.int (eX1_has l1 x1))) h)) : pz_V mX1_has Ex Q d bc bs 0 [(0, .ref l0), (1, .int l1)] [] h := by
  obtain ⟨fs0, x1, g0a, g0b, hb⟩ := hb
  unfold eX1_has at hb
  refine pz_iload_n (pc' := 1) (x := l1) 1 rfl (pz_dc dX1_has 0 rfl) rfl ?_
  refine pz_if_lt (pc' := 4) (tgt := 16) rfl (pz_dc dX1_has 1 rfl) (by decide) (fun hc => ?_) (fun hc => ?_)
  · rw [if_pos hc] at hb
    refine pz_iconst (pc' := 17) (v := 0) rfl (pz_dc dX1_has 8 rfl) ki_0 ?_
    exact pz_zret (pz_dc dX1_has 9 rfl) rfl ⟨by decide, hb⟩
  · rw [if_neg hc] at hb
    refine pz_iload_n (pc' := 5) (x := l1) 1 rfl (pz_dc dX1_has 2 rfl) rfl ?_
    refine pz_aload_n (pc' := 6) (x := l0) 0 rfl (pz_dc dX1_has 3 rfl) rfl ?_
    refine pz_get (M := mX1_has) fX1_24 (pc' := 9) rfl (pz_dc dX1_has 4 rfl) g0a g0b ?_
    refine pz_icmp_ge (pc' := 12) (tgt := 16) rfl (pz_dc dX1_has 5 rfl) (by decide) (fun hc => ?_) (fun hc => ?_)
    · rw [if_pos hc] at hb
      refine pz_iconst (pc' := 17) (v := 0) rfl (pz_dc dX1_has 8 rfl) ki_0 ?_
      exact pz_zret (pz_dc dX1_has 9 rfl) rfl ⟨by decide, hb⟩
    · rw [if_neg hc] at hb
      refine pz_iconst (pc' := 13) (v := 1) rfl (pz_dc dX1_has 6 rfl) ki_1 ?_
      refine pz_goto (pc' := 17) (pz_dc dX1_has 7 rfl) (by decide) ?_
      exact pz_zret (pz_dc dX1_has 9 rfl) rfl ⟨by decide, hb⟩
def eX4_has (l1 : Int32) (x1 : Int32) : Int32 := if l1 < 0 then 0 else (if x1 ≤ l1 then 0 else 1)
theorem zX4_has (l1 : Int32) (x1 : Int32) : eX4_has l1 x1 = 0 ∨ eX4_has l1 x1 = 1 := by
  unfold eX4_has
  repeat' split
  all_goals first | exact Or.inl rfl | exact Or.inr rfl | exact Or.inl rfl
set_option maxRecDepth 20000 in
set_option maxHeartbeats 4000000 in
theorem cX4_has {Ex : State → Nat → Prop} {Q : Option Value → pz_H → Prop} {d bc bs : Nat} {l0 : Nat} {l1 : Int32} {h : pz_H} (hb : pz_gI h l0 4 1 (fun (x1 : Int32) => Q (some (.int (eX4_has l1 x1))) h)) : pz_V mX4_has Ex Q d bc bs 0 [(0, .ref l0), (1, .int l1)] [] h := by
  obtain ⟨fs0, x1, g0a, g0b, hb⟩ := hb
  unfold eX4_has at hb
  refine pz_iload_n (pc' := 1) (x := l1) 1 rfl (pz_dc dX4_has 0 rfl) rfl ?_
  refine pz_if_lt (pc' := 4) (tgt := 16) rfl (pz_dc dX4_has 1 rfl) (by decide) (fun hc => ?_) (fun hc => ?_)
  · rw [if_pos hc] at hb
    refine pz_iconst (pc' := 17) (v := 0) rfl (pz_dc dX4_has 8 rfl) ki_0 ?_
    exact pz_zret (pz_dc dX4_has 9 rfl) rfl ⟨by decide, hb⟩
  · rw [if_neg hc] at hb
    refine pz_iload_n (pc' := 5) (x := l1) 1 rfl (pz_dc dX4_has 2 rfl) rfl ?_
    refine pz_aload_n (pc' := 6) (x := l0) 0 rfl (pz_dc dX4_has 3 rfl) rfl ?_
    refine pz_get (M := mX4_has) fX4_15 (pc' := 9) rfl (pz_dc dX4_has 4 rfl) g0a g0b ?_
    refine pz_icmp_ge (pc' := 12) (tgt := 16) rfl (pz_dc dX4_has 5 rfl) (by decide) (fun hc => ?_) (fun hc => ?_)
    · rw [if_pos hc] at hb
      refine pz_iconst (pc' := 17) (v := 0) rfl (pz_dc dX4_has 8 rfl) ki_0 ?_
      exact pz_zret (pz_dc dX4_has 9 rfl) rfl ⟨by decide, hb⟩
    · rw [if_neg hc] at hb
      refine pz_iconst (pc' := 13) (v := 1) rfl (pz_dc dX4_has 6 rfl) ki_1 ?_
      refine pz_goto (pc' := 17) (pz_dc dX4_has 7 rfl) (by decide) ?_
      exact pz_zret (pz_dc dX4_has 9 rfl) rfl ⟨by decide, hb⟩
def eX10_in (l0 : Int32) (l1 : Int32) (l2 : Int32) : Int32 := if l0 < l1 then 0 else (if l2 < l0 then 0 else 1)
theorem zX10_in (l0 : Int32) (l1 : Int32) (l2 : Int32) : eX10_in l0 l1 l2 = 0 ∨ eX10_in l0 l1 l2 = 1 := by
  unfold eX10_in
  repeat' split
  all_goals first | exact Or.inl rfl | exact Or.inr rfl | exact Or.inl rfl
set_option maxRecDepth 20000 in
set_option maxHeartbeats 4000000 in
theorem cX10_in {Ex : State → Nat → Prop} {Q : Option Value → pz_H → Prop} {d bc bs : Nat} {l0 : Int32} {l1 : Int32} {l2 : Int32} {h : pz_H} (hb : Q (some (.int (eX10_in l0 l1 l2))) h) : pz_V mX10_in Ex Q d bc bs 0 [(0, .int l0), (1, .int l1), (2, .int l2)] [] h := by
  unfold eX10_in at hb
  refine pz_iload_n (pc' := 1) (x := l0) 0 rfl (pz_dc dX10_in 0 rfl) rfl ?_
  refine pz_iload_n (pc' := 2) (x := l1) 1 rfl (pz_dc dX10_in 1 rfl) rfl ?_
  refine pz_icmp_lt (pc' := 5) (tgt := 14) rfl (pz_dc dX10_in 2 rfl) (by decide) (fun hc => ?_) (fun hc => ?_)
  · rw [if_pos hc] at hb
    refine pz_iconst (pc' := 15) (v := 0) rfl (pz_dc dX10_in 8 rfl) ki_0 ?_
    exact pz_zret (pz_dc dX10_in 9 rfl) rfl ⟨by decide, hb⟩
  · rw [if_neg hc] at hb
    refine pz_iload_n (pc' := 6) (x := l0) 0 rfl (pz_dc dX10_in 3 rfl) rfl ?_
    refine pz_iload_n (pc' := 7) (x := l2) 2 rfl (pz_dc dX10_in 4 rfl) rfl ?_
    refine pz_icmp_gt (pc' := 10) (tgt := 14) rfl (pz_dc dX10_in 5 rfl) (by decide) (fun hc => ?_) (fun hc => ?_)
    · rw [if_pos hc] at hb
      refine pz_iconst (pc' := 15) (v := 0) rfl (pz_dc dX10_in 8 rfl) ki_0 ?_
      exact pz_zret (pz_dc dX10_in 9 rfl) rfl ⟨by decide, hb⟩
    · rw [if_neg hc] at hb
      refine pz_iconst (pc' := 11) (v := 1) rfl (pz_dc dX10_in 6 rfl) ki_1 ?_
      refine pz_goto (pc' := 15) (pz_dc dX10_in 7 rfl) (by decide) ?_
      exact pz_zret (pz_dc dX10_in 9 rfl) rfl ⟨by decide, hb⟩
def eX10_has (l0 : Int32) (l1 : Int32) : Int32 := if ((l0 >>> (l1 &&& 31)) &&& ((1 : Int32))) = ((1 : Int32)) then 1 else 0
theorem zX10_has (l0 : Int32) (l1 : Int32) : eX10_has l0 l1 = 0 ∨ eX10_has l0 l1 = 1 := by
  unfold eX10_has
  repeat' split
  all_goals first | exact Or.inl rfl | exact Or.inr rfl | exact Or.inl rfl
set_option maxRecDepth 20000 in
set_option maxHeartbeats 4000000 in
theorem cX10_has {Ex : State → Nat → Prop} {Q : Option Value → pz_H → Prop} {d bc bs : Nat} {l0 : Int32} {l1 : Int32} {h : pz_H} (hb : Q (some (.int (eX10_has l0 l1))) h) : pz_V mX10_has Ex Q d bc bs 0 [(0, .int l0), (1, .int l1)] [] h := by
  unfold eX10_has at hb
  refine pz_iload_n (pc' := 1) (x := l0) 0 rfl (pz_dc dX10_has 0 rfl) rfl ?_
  refine pz_iload_n (pc' := 2) (x := l1) 1 rfl (pz_dc dX10_has 1 rfl) rfl ?_
  refine pz_ishr (pc' := 3) rfl (pz_dc dX10_has 2 rfl) ?_
  refine pz_iconst (pc' := 4) (v := 1) rfl (pz_dc dX10_has 3 rfl) ki_1 ?_
  refine pz_iand (pc' := 5) rfl (pz_dc dX10_has 4 rfl) ?_
  refine pz_iconst (pc' := 6) (v := 1) rfl (pz_dc dX10_has 5 rfl) ki_1 ?_
  refine pz_icmp_ne (pc' := 9) (tgt := 13) rfl (pz_dc dX10_has 6 rfl) (by decide) (fun hc => ?_) (fun hc => ?_)
  · rw [if_neg hc] at hb
    refine pz_iconst (pc' := 14) (v := 0) rfl (pz_dc dX10_has 9 rfl) ki_0 ?_
    exact pz_zret (pz_dc dX10_has 10 rfl) rfl ⟨by decide, hb⟩
  · rw [if_pos hc] at hb
    refine pz_iconst (pc' := 10) (v := 1) rfl (pz_dc dX10_has 7 rfl) ki_1 ?_
    refine pz_goto (pc' := 14) (pz_dc dX10_has 8 rfl) (by decide) ?_
    exact pz_zret (pz_dc dX10_has 10 rfl) rfl ⟨by decide, hb⟩
def eX10_isLake (l1 : Int32) (x1 : Int32) : Int32 := eX10_in l1 ((0 : Int32)) (x1 - ((1 : Int32)))
theorem zX10_isLake (l1 : Int32) (x1 : Int32) : eX10_isLake l1 x1 = 0 ∨ eX10_isLake l1 x1 = 1 := by
  unfold eX10_isLake
  repeat' split
  all_goals first | exact Or.inl rfl | exact Or.inr rfl | exact zX10_in _ _ _
set_option maxRecDepth 20000 in
set_option maxHeartbeats 4000000 in
theorem cX10_isLake {Ex : State → Nat → Prop} {Q : Option Value → pz_H → Prop} {bc bs : Nat} {l0 : Nat} {l1 : Int32} {h : pz_H} (hb : pz_gI h l0 10 1 (fun (x1 : Int32) => Q (some (.int (eX10_isLake l1 x1))) h)) : pz_V mX10_isLake Ex Q 1 bc bs 0 [(0, .ref l0), (1, .int l1)] [] h := by
  obtain ⟨fs0, x1, g0a, g0b, hb⟩ := hb
  unfold eX10_isLake at hb
  refine pz_iload_n (pc' := 1) (x := l1) 1 rfl (pz_dc dX10_isLake 0 rfl) rfl ?_
  refine pz_iconst (pc' := 2) (v := 0) rfl (pz_dc dX10_isLake 1 rfl) ki_0 ?_
  refine pz_aload_n (pc' := 3) (x := l0) 0 rfl (pz_dc dX10_isLake 2 rfl) rfl ?_
  refine pz_get (M := mX10_isLake) fX10_101 (pc' := 6) rfl (pz_dc dX10_isLake 3 rfl) g0a g0b ?_
  refine pz_iconst (pc' := 7) (v := 1) rfl (pz_dc dX10_isLake 4 rfl) ki_1 ?_
  refine pz_isub (pc' := 8) rfl (pz_dc dX10_isLake 5 rfl) ?_
  refine pz_callS (M := mX10_isLake) (N := mX10_in) (d' := 0) (bc1 := 0) (bs1 := 0) (bc2 := bc) (bs2 := bs) (pc' := 11) [.int l1, .int 0, .int (x1 - ((1 : Int32)))] sX10_104 rfl (pz_dc dX10_isLake 6 rfl) rfl (Nat.le_of_ble_eq_true rfl) (Nat.le_of_ble_eq_true rfl) rfl (by omega) (by omega) (by omega) ?_
  refine cX10_in ?_
  show pz_V mX10_isLake _ _ _ _ _ 11 [(0, .ref l0), (1, .int l1)] [.int (eX10_in l1 ((0 : Int32)) (x1 - ((1 : Int32))))] h
  exact pz_zret (pz_dc dX10_isLake 7 rfl) rfl ⟨zX10_in _ _ _, hb⟩
def eX10_isKing (l0 : Int32) : Int32 := eX10_in l0 ((0 : Int32)) ((3 : Int32))
theorem zX10_isKing (l0 : Int32) : eX10_isKing l0 = 0 ∨ eX10_isKing l0 = 1 := by
  unfold eX10_isKing
  repeat' split
  all_goals first | exact Or.inl rfl | exact Or.inr rfl | exact zX10_in _ _ _
set_option maxRecDepth 20000 in
set_option maxHeartbeats 4000000 in
theorem cX10_isKing {Ex : State → Nat → Prop} {Q : Option Value → pz_H → Prop} {bc bs : Nat} {l0 : Int32} {h : pz_H} (hb : Q (some (.int (eX10_isKing l0))) h) : pz_V mX10_isKing Ex Q 1 bc bs 0 [(0, .int l0)] [] h := by
  unfold eX10_isKing at hb
  refine pz_iload_n (pc' := 1) (x := l0) 0 rfl (pz_dc dX10_isKing 0 rfl) rfl ?_
  refine pz_iconst (pc' := 2) (v := 0) rfl (pz_dc dX10_isKing 1 rfl) ki_0 ?_
  refine pz_iconst (pc' := 3) (v := 3) rfl (pz_dc dX10_isKing 2 rfl) ki_3 ?_
  refine pz_callS (M := mX10_isKing) (N := mX10_in) (d' := 0) (bc1 := 0) (bs1 := 0) (bc2 := bc) (bs2 := bs) (pc' := 6) [.int l0, .int 0, .int 3] sX10_104 rfl (pz_dc dX10_isKing 3 rfl) rfl (Nat.le_of_ble_eq_true rfl) (Nat.le_of_ble_eq_true rfl) rfl (by omega) (by omega) (by omega) ?_
  refine cX10_in ?_
  show pz_V mX10_isKing _ _ _ _ _ 6 [(0, .int l0)] [.int (eX10_in l0 ((0 : Int32)) ((3 : Int32)))] h
  exact pz_zret (pz_dc dX10_isKing 4 rfl) rfl ⟨zX10_in _ _ _, hb⟩
def eX10_fine (x1 : Int32) : Int32 := if x1 = ((-1 : Int32)) then 1 else 0
theorem zX10_fine (x1 : Int32) : eX10_fine x1 = 0 ∨ eX10_fine x1 = 1 := by
  unfold eX10_fine
  repeat' split
  all_goals first | exact Or.inl rfl | exact Or.inr rfl | exact Or.inl rfl
set_option maxRecDepth 20000 in
set_option maxHeartbeats 4000000 in
theorem cX10_fine {Ex : State → Nat → Prop} {Q : Option Value → pz_H → Prop} {d bc bs : Nat} {l0 : Nat} {h : pz_H} (hb : pz_gI h l0 10 14 (fun (x1 : Int32) => Q (some (.int (eX10_fine x1))) h)) : pz_V mX10_fine Ex Q d bc bs 0 [(0, .ref l0)] [] h := by
  obtain ⟨fs0, x1, g0a, g0b, hb⟩ := hb
  unfold eX10_fine at hb
  refine pz_aload_n (pc' := 1) (x := l0) 0 rfl (pz_dc dX10_fine 0 rfl) rfl ?_
  refine pz_get (M := mX10_fine) fX10_127 (pc' := 4) rfl (pz_dc dX10_fine 1 rfl) g0a g0b ?_
  refine pz_iconst (pc' := 5) (v := (-1)) rfl (pz_dc dX10_fine 2 rfl) ki_m1 ?_
  refine pz_icmp_ne (pc' := 8) (tgt := 12) rfl (pz_dc dX10_fine 3 rfl) (by decide) (fun hc => ?_) (fun hc => ?_)
  · rw [if_neg hc] at hb
    refine pz_iconst (pc' := 13) (v := 0) rfl (pz_dc dX10_fine 6 rfl) ki_0 ?_
    exact pz_zret (pz_dc dX10_fine 7 rfl) rfl ⟨by decide, hb⟩
  · rw [if_pos hc] at hb
    refine pz_iconst (pc' := 9) (v := 1) rfl (pz_dc dX10_fine 4 rfl) ki_1 ?_
    refine pz_goto (pc' := 13) (pz_dc dX10_fine 5 rfl) (by decide) ?_
    exact pz_zret (pz_dc dX10_fine 7 rfl) rfl ⟨by decide, hb⟩
def eX10_areTwo (l1 : Int32) (l2 : Int32) (x1 : Int32) (x2 : Int32) : Int32 := if (eX10_isLake l1 x1) = 0 then 0 else (if (eX10_isLake l2 x2) = 0 then 0 else (if l1 = l2 then 0 else 1))
theorem zX10_areTwo (l1 : Int32) (l2 : Int32) (x1 : Int32) (x2 : Int32) : eX10_areTwo l1 l2 x1 x2 = 0 ∨ eX10_areTwo l1 l2 x1 x2 = 1 := by
  unfold eX10_areTwo
  repeat' split
  all_goals first | exact Or.inl rfl | exact Or.inr rfl | exact zX10_isLake _ _
set_option maxRecDepth 20000 in
set_option maxHeartbeats 4000000 in
theorem cX10_areTwo {Ex : State → Nat → Prop} {Q : Option Value → pz_H → Prop} {bc bs : Nat} {l0 : Nat} {l1 : Int32} {l2 : Int32} {h : pz_H} (hb : pz_gI h l0 10 1 (fun (x1 : Int32) => pz_gI h l0 10 1 (fun (x2 : Int32) => Q (some (.int (eX10_areTwo l1 l2 x1 x2))) h))) : pz_V mX10_areTwo Ex Q 2 bc bs 0 [(0, .ref l0), (1, .int l1), (2, .int l2)] [] h := by
  obtain ⟨fs0, x1, g0a, g0b, hb⟩ := hb
  obtain ⟨fs1, x2, g1a, g1b, hb⟩ := hb
  unfold eX10_areTwo at hb
  refine pz_aload_n (pc' := 1) (x := l0) 0 rfl (pz_dc dX10_areTwo 0 rfl) rfl ?_
  refine pz_iload_n (pc' := 2) (x := l1) 1 rfl (pz_dc dX10_areTwo 1 rfl) rfl ?_
  refine pz_callV (M := mX10_areTwo) (N := mX10_isLake) (d' := 1) (bc1 := 0) (bs1 := 0) (bc2 := bc) (bs2 := bs) (pc' := 5) [.int l1] vX10_108 rfl (pz_dc dX10_areTwo 2 rfl) rfl (Nat.le_of_ble_eq_true rfl) (Nat.le_of_ble_eq_true rfl) rfl (by omega) (by omega) (by omega) g0a ?_
  refine cX10_isLake ⟨_, x1, g0a, g0b, ?_⟩
  show pz_V mX10_areTwo _ _ _ _ _ 5 [(0, .ref l0), (1, .int l1), (2, .int l2)] [.int (eX10_isLake l1 x1)] h
  refine pz_if_eq (pc' := 8) (tgt := 25) rfl (pz_dc dX10_areTwo 3 rfl) (by decide) (fun hc => ?_) (fun hc => ?_)
  · rw [if_pos hc] at hb
    refine pz_iconst (pc' := 26) (v := 0) rfl (pz_dc dX10_areTwo 13 rfl) ki_0 ?_
    exact pz_zret (pz_dc dX10_areTwo 14 rfl) rfl ⟨by decide, hb⟩
  · rw [if_neg hc] at hb
    refine pz_aload_n (pc' := 9) (x := l0) 0 rfl (pz_dc dX10_areTwo 4 rfl) rfl ?_
    refine pz_iload_n (pc' := 10) (x := l2) 2 rfl (pz_dc dX10_areTwo 5 rfl) rfl ?_
    refine pz_callV (M := mX10_areTwo) (N := mX10_isLake) (d' := 1) (bc1 := 0) (bs1 := 0) (bc2 := bc) (bs2 := bs) (pc' := 13) [.int l2] vX10_108 rfl (pz_dc dX10_areTwo 6 rfl) rfl (Nat.le_of_ble_eq_true rfl) (Nat.le_of_ble_eq_true rfl) rfl (by omega) (by omega) (by omega) g1a ?_
    refine cX10_isLake ⟨_, x2, g1a, g1b, ?_⟩
    show pz_V mX10_areTwo _ _ _ _ _ 13 [(0, .ref l0), (1, .int l1), (2, .int l2)] [.int (eX10_isLake l2 x2)] h
    refine pz_if_eq (pc' := 16) (tgt := 25) rfl (pz_dc dX10_areTwo 7 rfl) (by decide) (fun hc => ?_) (fun hc => ?_)
    · rw [if_pos hc] at hb
      refine pz_iconst (pc' := 26) (v := 0) rfl (pz_dc dX10_areTwo 13 rfl) ki_0 ?_
      exact pz_zret (pz_dc dX10_areTwo 14 rfl) rfl ⟨by decide, hb⟩
    · rw [if_neg hc] at hb
      refine pz_iload_n (pc' := 17) (x := l1) 1 rfl (pz_dc dX10_areTwo 8 rfl) rfl ?_
      refine pz_iload_n (pc' := 18) (x := l2) 2 rfl (pz_dc dX10_areTwo 9 rfl) rfl ?_
      refine pz_icmp_eq (pc' := 21) (tgt := 25) rfl (pz_dc dX10_areTwo 10 rfl) (by decide) (fun hc => ?_) (fun hc => ?_)
      · rw [if_pos hc] at hb
        refine pz_iconst (pc' := 26) (v := 0) rfl (pz_dc dX10_areTwo 13 rfl) ki_0 ?_
        exact pz_zret (pz_dc dX10_areTwo 14 rfl) rfl ⟨by decide, hb⟩
      · rw [if_neg hc] at hb
        refine pz_iconst (pc' := 22) (v := 1) rfl (pz_dc dX10_areTwo 11 rfl) ki_1 ?_
        refine pz_goto (pc' := 26) (pz_dc dX10_areTwo 12 rfl) (by decide) ?_
        exact pz_zret (pz_dc dX10_areTwo 14 rfl) rfl ⟨by decide, hb⟩
def eX10_letterOf (l0 : Int32) : Int32 := if l0 = ((108 : Int32)) then 0 else (if l0 = ((98 : Int32)) then 1 else (if l0 = ((104 : Int32)) then 2 else (if l0 = ((116 : Int32)) then 3 else (if l0 = ((107 : Int32)) then 4 else (if l0 = ((110 : Int32)) then 5 else ((-1)))))))
set_option maxRecDepth 20000 in
set_option maxHeartbeats 4000000 in
theorem cX10_letterOf {Ex : State → Nat → Prop} {Q : Option Value → pz_H → Prop} {d bc bs : Nat} {l0 : Int32} {h : pz_H} (hb : Q (some (.int (eX10_letterOf l0))) h) : pz_V mX10_letterOf Ex Q d bc bs 0 [(0, .int l0)] [] h := by
  unfold eX10_letterOf at hb
  refine pz_iload_n (pc' := 1) (x := l0) 0 rfl (pz_dc dX10_letterOf 0 rfl) rfl ?_
  refine pz_bipush (pc' := 3) (v := 108) rfl (pz_dc dX10_letterOf 1 rfl) kb_108 ?_
  refine pz_icmp_ne (pc' := 6) (tgt := 10) rfl (pz_dc dX10_letterOf 2 rfl) (by decide) (fun hc => ?_) (fun hc => ?_)
  · rw [if_neg hc] at hb
    refine pz_iload_n (pc' := 11) (x := l0) 0 rfl (pz_dc dX10_letterOf 5 rfl) rfl ?_
    refine pz_bipush (pc' := 13) (v := 98) rfl (pz_dc dX10_letterOf 6 rfl) kb_98 ?_
    refine pz_icmp_ne (pc' := 16) (tgt := 20) rfl (pz_dc dX10_letterOf 7 rfl) (by decide) (fun hc => ?_) (fun hc => ?_)
    · rw [if_neg hc] at hb
      refine pz_iload_n (pc' := 21) (x := l0) 0 rfl (pz_dc dX10_letterOf 10 rfl) rfl ?_
      refine pz_bipush (pc' := 23) (v := 104) rfl (pz_dc dX10_letterOf 11 rfl) kb_104 ?_
      refine pz_icmp_ne (pc' := 26) (tgt := 30) rfl (pz_dc dX10_letterOf 12 rfl) (by decide) (fun hc => ?_) (fun hc => ?_)
      · rw [if_neg hc] at hb
        refine pz_iload_n (pc' := 31) (x := l0) 0 rfl (pz_dc dX10_letterOf 15 rfl) rfl ?_
        refine pz_bipush (pc' := 33) (v := 116) rfl (pz_dc dX10_letterOf 16 rfl) kb_116 ?_
        refine pz_icmp_ne (pc' := 36) (tgt := 40) rfl (pz_dc dX10_letterOf 17 rfl) (by decide) (fun hc => ?_) (fun hc => ?_)
        · rw [if_neg hc] at hb
          refine pz_iload_n (pc' := 41) (x := l0) 0 rfl (pz_dc dX10_letterOf 20 rfl) rfl ?_
          refine pz_bipush (pc' := 43) (v := 107) rfl (pz_dc dX10_letterOf 21 rfl) kb_107 ?_
          refine pz_icmp_ne (pc' := 46) (tgt := 50) rfl (pz_dc dX10_letterOf 22 rfl) (by decide) (fun hc => ?_) (fun hc => ?_)
          · rw [if_neg hc] at hb
            refine pz_iload_n (pc' := 51) (x := l0) 0 rfl (pz_dc dX10_letterOf 25 rfl) rfl ?_
            refine pz_bipush (pc' := 53) (v := 110) rfl (pz_dc dX10_letterOf 26 rfl) kb_110 ?_
            refine pz_icmp_ne (pc' := 56) (tgt := 60) rfl (pz_dc dX10_letterOf 27 rfl) (by decide) (fun hc => ?_) (fun hc => ?_)
            · rw [if_neg hc] at hb
              refine pz_iconst (pc' := 61) (v := (-1)) rfl (pz_dc dX10_letterOf 30 rfl) ki_m1 ?_
              exact pz_iret (pz_dc dX10_letterOf 31 rfl) rfl hb
            · rw [if_pos hc] at hb
              refine pz_iconst (pc' := 57) (v := 5) rfl (pz_dc dX10_letterOf 28 rfl) ki_5 ?_
              refine pz_goto (pc' := 61) (pz_dc dX10_letterOf 29 rfl) (by decide) ?_
              exact pz_iret (pz_dc dX10_letterOf 31 rfl) rfl hb
          · rw [if_pos hc] at hb
            refine pz_iconst (pc' := 47) (v := 4) rfl (pz_dc dX10_letterOf 23 rfl) ki_4 ?_
            refine pz_goto (pc' := 61) (pz_dc dX10_letterOf 24 rfl) (by decide) ?_
            exact pz_iret (pz_dc dX10_letterOf 31 rfl) rfl hb
        · rw [if_pos hc] at hb
          refine pz_iconst (pc' := 37) (v := 3) rfl (pz_dc dX10_letterOf 18 rfl) ki_3 ?_
          refine pz_goto (pc' := 61) (pz_dc dX10_letterOf 19 rfl) (by decide) ?_
          exact pz_iret (pz_dc dX10_letterOf 31 rfl) rfl hb
      · rw [if_pos hc] at hb
        refine pz_iconst (pc' := 27) (v := 2) rfl (pz_dc dX10_letterOf 13 rfl) ki_2 ?_
        refine pz_goto (pc' := 61) (pz_dc dX10_letterOf 14 rfl) (by decide) ?_
        exact pz_iret (pz_dc dX10_letterOf 31 rfl) rfl hb
    · rw [if_pos hc] at hb
      refine pz_iconst (pc' := 17) (v := 1) rfl (pz_dc dX10_letterOf 8 rfl) ki_1 ?_
      refine pz_goto (pc' := 61) (pz_dc dX10_letterOf 9 rfl) (by decide) ?_
      exact pz_iret (pz_dc dX10_letterOf 31 rfl) rfl hb
  · rw [if_pos hc] at hb
    refine pz_iconst (pc' := 7) (v := 0) rfl (pz_dc dX10_letterOf 3 rfl) ki_0 ?_
    refine pz_goto (pc' := 61) (pz_dc dX10_letterOf 4 rfl) (by decide) ?_
    exact pz_iret (pz_dc dX10_letterOf 31 rfl) rfl hb
def eX10_getsBy (l0 : Int32) (l1 : Int32) (l2 : Int32) : Int32 := if l0 ≤ l1 then (if l0 = l1 then (if l0 < ((5 : Int32)) then (((l2 / ((2 : Int32))) - ((l0 * l0) / ((4 : Int32)))) - ((0 : Int32))) else (if l1 < ((5 : Int32)) then (((l2 / ((2 : Int32))) - ((l0 * l0) / ((4 : Int32)))) - ((0 : Int32))) else (((l2 / ((2 : Int32))) - ((l0 * l0) / ((4 : Int32)))) - ((2 : Int32))))) else (if l0 < ((5 : Int32)) then ((((0 : Int32)) - ((l0 * l0) / ((4 : Int32)))) - ((0 : Int32))) else (if l1 < ((5 : Int32)) then ((((0 : Int32)) - ((l0 * l0) / ((4 : Int32)))) - ((0 : Int32))) else ((((0 : Int32)) - ((l0 * l0) / ((4 : Int32)))) - ((2 : Int32)))))) else (if l0 < ((5 : Int32)) then ((l2 - ((l0 * l0) / ((4 : Int32)))) - ((0 : Int32))) else (if l1 < ((5 : Int32)) then ((l2 - ((l0 * l0) / ((4 : Int32)))) - ((0 : Int32))) else ((l2 - ((l0 * l0) / ((4 : Int32)))) - ((2 : Int32)))))
set_option maxRecDepth 20000 in
set_option maxHeartbeats 4000000 in
theorem cX10_getsBy {Ex : State → Nat → Prop} {Q : Option Value → pz_H → Prop} {d bc bs : Nat} {l0 : Int32} {l1 : Int32} {l2 : Int32} {h : pz_H} (hb : Q (some (.int (eX10_getsBy l0 l1 l2))) h) : pz_V mX10_getsBy Ex Q d bc bs 0 [(0, .int l0), (1, .int l1), (2, .int l2)] [] h := by
  unfold eX10_getsBy at hb
  refine pz_iload_n (pc' := 1) (x := l0) 0 rfl (pz_dc dX10_getsBy 0 rfl) rfl ?_
  refine pz_iload_n (pc' := 2) (x := l1) 1 rfl (pz_dc dX10_getsBy 1 rfl) rfl ?_
  refine pz_icmp_le (pc' := 5) (tgt := 9) rfl (pz_dc dX10_getsBy 2 rfl) (by decide) (fun hc => ?_) (fun hc => ?_)
  · rw [if_pos hc] at hb
    refine pz_iload_n (pc' := 10) (x := l0) 0 rfl (pz_dc dX10_getsBy 5 rfl) rfl ?_
    refine pz_iload_n (pc' := 11) (x := l1) 1 rfl (pz_dc dX10_getsBy 6 rfl) rfl ?_
    refine pz_icmp_ne (pc' := 14) (tgt := 20) rfl (pz_dc dX10_getsBy 7 rfl) (by decide) (fun hc => ?_) (fun hc => ?_)
    · rw [if_neg hc] at hb
      refine pz_iconst (pc' := 21) (v := 0) rfl (pz_dc dX10_getsBy 12 rfl) ki_0 ?_
      refine pz_iload_n (pc' := 22) (x := l0) 0 rfl (pz_dc dX10_getsBy 13 rfl) rfl ?_
      refine pz_iload_n (pc' := 23) (x := l0) 0 rfl (pz_dc dX10_getsBy 14 rfl) rfl ?_
      refine pz_imul (pc' := 24) rfl (pz_dc dX10_getsBy 15 rfl) ?_
      refine pz_iconst (pc' := 25) (v := 4) rfl (pz_dc dX10_getsBy 16 rfl) ki_4 ?_
      refine pz_idiv (pc' := 26) rfl (pz_dc dX10_getsBy 17 rfl) (by decide) ?_
      refine pz_isub (pc' := 27) rfl (pz_dc dX10_getsBy 18 rfl) ?_
      refine pz_iload_n (pc' := 28) (x := l0) 0 rfl (pz_dc dX10_getsBy 19 rfl) rfl ?_
      refine pz_iconst (pc' := 29) (v := 5) rfl (pz_dc dX10_getsBy 20 rfl) ki_5 ?_
      refine pz_icmp_lt (pc' := 32) (tgt := 41) rfl (pz_dc dX10_getsBy 21 rfl) (by decide) (fun hc => ?_) (fun hc => ?_)
      · rw [if_pos hc] at hb
        refine pz_iconst (pc' := 42) (v := 0) rfl (pz_dc dX10_getsBy 27 rfl) ki_0 ?_
        refine pz_isub (pc' := 43) rfl (pz_dc dX10_getsBy 28 rfl) ?_
        exact pz_iret (pz_dc dX10_getsBy 29 rfl) rfl hb
      · rw [if_neg hc] at hb
        refine pz_iload_n (pc' := 33) (x := l1) 1 rfl (pz_dc dX10_getsBy 22 rfl) rfl ?_
        refine pz_iconst (pc' := 34) (v := 5) rfl (pz_dc dX10_getsBy 23 rfl) ki_5 ?_
        refine pz_icmp_lt (pc' := 37) (tgt := 41) rfl (pz_dc dX10_getsBy 24 rfl) (by decide) (fun hc => ?_) (fun hc => ?_)
        · rw [if_pos hc] at hb
          refine pz_iconst (pc' := 42) (v := 0) rfl (pz_dc dX10_getsBy 27 rfl) ki_0 ?_
          refine pz_isub (pc' := 43) rfl (pz_dc dX10_getsBy 28 rfl) ?_
          exact pz_iret (pz_dc dX10_getsBy 29 rfl) rfl hb
        · rw [if_neg hc] at hb
          refine pz_iconst (pc' := 38) (v := 2) rfl (pz_dc dX10_getsBy 25 rfl) ki_2 ?_
          refine pz_goto (pc' := 42) (pz_dc dX10_getsBy 26 rfl) (by decide) ?_
          refine pz_isub (pc' := 43) rfl (pz_dc dX10_getsBy 28 rfl) ?_
          exact pz_iret (pz_dc dX10_getsBy 29 rfl) rfl hb
    · rw [if_pos hc] at hb
      refine pz_iload_n (pc' := 15) (x := l2) 2 rfl (pz_dc dX10_getsBy 8 rfl) rfl ?_
      refine pz_iconst (pc' := 16) (v := 2) rfl (pz_dc dX10_getsBy 9 rfl) ki_2 ?_
      refine pz_idiv (pc' := 17) rfl (pz_dc dX10_getsBy 10 rfl) (by decide) ?_
      refine pz_goto (pc' := 21) (pz_dc dX10_getsBy 11 rfl) (by decide) ?_
      refine pz_iload_n (pc' := 22) (x := l0) 0 rfl (pz_dc dX10_getsBy 13 rfl) rfl ?_
      refine pz_iload_n (pc' := 23) (x := l0) 0 rfl (pz_dc dX10_getsBy 14 rfl) rfl ?_
      refine pz_imul (pc' := 24) rfl (pz_dc dX10_getsBy 15 rfl) ?_
      refine pz_iconst (pc' := 25) (v := 4) rfl (pz_dc dX10_getsBy 16 rfl) ki_4 ?_
      refine pz_idiv (pc' := 26) rfl (pz_dc dX10_getsBy 17 rfl) (by decide) ?_
      refine pz_isub (pc' := 27) rfl (pz_dc dX10_getsBy 18 rfl) ?_
      refine pz_iload_n (pc' := 28) (x := l0) 0 rfl (pz_dc dX10_getsBy 19 rfl) rfl ?_
      refine pz_iconst (pc' := 29) (v := 5) rfl (pz_dc dX10_getsBy 20 rfl) ki_5 ?_
      refine pz_icmp_lt (pc' := 32) (tgt := 41) rfl (pz_dc dX10_getsBy 21 rfl) (by decide) (fun hc => ?_) (fun hc => ?_)
      · rw [if_pos hc] at hb
        refine pz_iconst (pc' := 42) (v := 0) rfl (pz_dc dX10_getsBy 27 rfl) ki_0 ?_
        refine pz_isub (pc' := 43) rfl (pz_dc dX10_getsBy 28 rfl) ?_
        exact pz_iret (pz_dc dX10_getsBy 29 rfl) rfl hb
      · rw [if_neg hc] at hb
        refine pz_iload_n (pc' := 33) (x := l1) 1 rfl (pz_dc dX10_getsBy 22 rfl) rfl ?_
        refine pz_iconst (pc' := 34) (v := 5) rfl (pz_dc dX10_getsBy 23 rfl) ki_5 ?_
        refine pz_icmp_lt (pc' := 37) (tgt := 41) rfl (pz_dc dX10_getsBy 24 rfl) (by decide) (fun hc => ?_) (fun hc => ?_)
        · rw [if_pos hc] at hb
          refine pz_iconst (pc' := 42) (v := 0) rfl (pz_dc dX10_getsBy 27 rfl) ki_0 ?_
          refine pz_isub (pc' := 43) rfl (pz_dc dX10_getsBy 28 rfl) ?_
          exact pz_iret (pz_dc dX10_getsBy 29 rfl) rfl hb
        · rw [if_neg hc] at hb
          refine pz_iconst (pc' := 38) (v := 2) rfl (pz_dc dX10_getsBy 25 rfl) ki_2 ?_
          refine pz_goto (pc' := 42) (pz_dc dX10_getsBy 26 rfl) (by decide) ?_
          refine pz_isub (pc' := 43) rfl (pz_dc dX10_getsBy 28 rfl) ?_
          exact pz_iret (pz_dc dX10_getsBy 29 rfl) rfl hb
  · rw [if_neg hc] at hb
    refine pz_iload_n (pc' := 6) (x := l2) 2 rfl (pz_dc dX10_getsBy 3 rfl) rfl ?_
    refine pz_goto (pc' := 21) (pz_dc dX10_getsBy 4 rfl) (by decide) ?_
    refine pz_iload_n (pc' := 22) (x := l0) 0 rfl (pz_dc dX10_getsBy 13 rfl) rfl ?_
    refine pz_iload_n (pc' := 23) (x := l0) 0 rfl (pz_dc dX10_getsBy 14 rfl) rfl ?_
    refine pz_imul (pc' := 24) rfl (pz_dc dX10_getsBy 15 rfl) ?_
    refine pz_iconst (pc' := 25) (v := 4) rfl (pz_dc dX10_getsBy 16 rfl) ki_4 ?_
    refine pz_idiv (pc' := 26) rfl (pz_dc dX10_getsBy 17 rfl) (by decide) ?_
    refine pz_isub (pc' := 27) rfl (pz_dc dX10_getsBy 18 rfl) ?_
    refine pz_iload_n (pc' := 28) (x := l0) 0 rfl (pz_dc dX10_getsBy 19 rfl) rfl ?_
    refine pz_iconst (pc' := 29) (v := 5) rfl (pz_dc dX10_getsBy 20 rfl) ki_5 ?_
    refine pz_icmp_lt (pc' := 32) (tgt := 41) rfl (pz_dc dX10_getsBy 21 rfl) (by decide) (fun hc => ?_) (fun hc => ?_)
    · rw [if_pos hc] at hb
      refine pz_iconst (pc' := 42) (v := 0) rfl (pz_dc dX10_getsBy 27 rfl) ki_0 ?_
      refine pz_isub (pc' := 43) rfl (pz_dc dX10_getsBy 28 rfl) ?_
      exact pz_iret (pz_dc dX10_getsBy 29 rfl) rfl hb
    · rw [if_neg hc] at hb
      refine pz_iload_n (pc' := 33) (x := l1) 1 rfl (pz_dc dX10_getsBy 22 rfl) rfl ?_
      refine pz_iconst (pc' := 34) (v := 5) rfl (pz_dc dX10_getsBy 23 rfl) ki_5 ?_
      refine pz_icmp_lt (pc' := 37) (tgt := 41) rfl (pz_dc dX10_getsBy 24 rfl) (by decide) (fun hc => ?_) (fun hc => ?_)
      · rw [if_pos hc] at hb
        refine pz_iconst (pc' := 42) (v := 0) rfl (pz_dc dX10_getsBy 27 rfl) ki_0 ?_
        refine pz_isub (pc' := 43) rfl (pz_dc dX10_getsBy 28 rfl) ?_
        exact pz_iret (pz_dc dX10_getsBy 29 rfl) rfl hb
      · rw [if_neg hc] at hb
        refine pz_iconst (pc' := 38) (v := 2) rfl (pz_dc dX10_getsBy 25 rfl) ki_2 ?_
        refine pz_goto (pc' := 42) (pz_dc dX10_getsBy 26 rfl) (by decide) ?_
        refine pz_isub (pc' := 43) rfl (pz_dc dX10_getsBy 28 rfl) ?_
        exact pz_iret (pz_dc dX10_getsBy 29 rfl) rfl hb
def eX9_gain (l0 : Int32) (l1 : Int32) (l2 : Int32) : Int32 := if l0 ≤ l1 then (if l0 = l1 then (if l0 < ((5 : Int32)) then ((l2 / ((2 : Int32))) - (((l0 * l0) / ((4 : Int32))) + ((0 : Int32)))) else (if l1 < ((5 : Int32)) then ((l2 / ((2 : Int32))) - (((l0 * l0) / ((4 : Int32))) + ((0 : Int32)))) else ((l2 / ((2 : Int32))) - (((l0 * l0) / ((4 : Int32))) + ((2 : Int32)))))) else (if l0 < ((5 : Int32)) then (((0 : Int32)) - (((l0 * l0) / ((4 : Int32))) + ((0 : Int32)))) else (if l1 < ((5 : Int32)) then (((0 : Int32)) - (((l0 * l0) / ((4 : Int32))) + ((0 : Int32)))) else (((0 : Int32)) - (((l0 * l0) / ((4 : Int32))) + ((2 : Int32))))))) else (if l0 < ((5 : Int32)) then (l2 - (((l0 * l0) / ((4 : Int32))) + ((0 : Int32)))) else (if l1 < ((5 : Int32)) then (l2 - (((l0 * l0) / ((4 : Int32))) + ((0 : Int32)))) else (l2 - (((l0 * l0) / ((4 : Int32))) + ((2 : Int32))))))
set_option maxRecDepth 20000 in
set_option maxHeartbeats 4000000 in
theorem cX9_gain {Ex : State → Nat → Prop} {Q : Option Value → pz_H → Prop} {d bc bs : Nat} {l0 : Int32} {l1 : Int32} {l2 : Int32} {h : pz_H} (hb : Q (some (.int (eX9_gain l0 l1 l2))) h) : pz_V mX9_gain Ex Q d bc bs 0 [(0, .int l0), (1, .int l1), (2, .int l2)] [] h := by
  unfold eX9_gain at hb
  refine pz_iload_n (pc' := 1) (x := l0) 0 rfl (pz_dc dX9_gain 0 rfl) rfl ?_
  refine pz_iload_n (pc' := 2) (x := l1) 1 rfl (pz_dc dX9_gain 1 rfl) rfl ?_
  refine pz_icmp_le (pc' := 5) (tgt := 9) rfl (pz_dc dX9_gain 2 rfl) (by decide) (fun hc => ?_) (fun hc => ?_)
  · rw [if_pos hc] at hb
    refine pz_iload_n (pc' := 10) (x := l0) 0 rfl (pz_dc dX9_gain 5 rfl) rfl ?_
    refine pz_iload_n (pc' := 11) (x := l1) 1 rfl (pz_dc dX9_gain 6 rfl) rfl ?_
    refine pz_icmp_ne (pc' := 14) (tgt := 20) rfl (pz_dc dX9_gain 7 rfl) (by decide) (fun hc => ?_) (fun hc => ?_)
    · rw [if_neg hc] at hb
      refine pz_iconst (pc' := 21) (v := 0) rfl (pz_dc dX9_gain 12 rfl) ki_0 ?_
      refine pz_istore_n (pc' := 22) (lv' := [(3, .int 0), (0, .int l0), (1, .int l1), (2, .int l2)]) rfl (pz_dc dX9_gain 13 rfl) (by decide) rfl ?_
      refine pz_iload_n (pc' := 23) (x := l0) 1 rfl (pz_dc dX9_gain 14 rfl) rfl ?_
      refine pz_iload_n (pc' := 24) (x := l0) 1 rfl (pz_dc dX9_gain 15 rfl) rfl ?_
      refine pz_imul (pc' := 25) rfl (pz_dc dX9_gain 16 rfl) ?_
      refine pz_iconst (pc' := 26) (v := 4) rfl (pz_dc dX9_gain 17 rfl) ki_4 ?_
      refine pz_idiv (pc' := 27) rfl (pz_dc dX9_gain 18 rfl) (by decide) ?_
      refine pz_iload_n (pc' := 28) (x := l0) 1 rfl (pz_dc dX9_gain 19 rfl) rfl ?_
      refine pz_iconst (pc' := 29) (v := 5) rfl (pz_dc dX9_gain 20 rfl) ki_5 ?_
      refine pz_icmp_lt (pc' := 32) (tgt := 41) rfl (pz_dc dX9_gain 21 rfl) (by decide) (fun hc => ?_) (fun hc => ?_)
      · rw [if_pos hc] at hb
        refine pz_iconst (pc' := 42) (v := 0) rfl (pz_dc dX9_gain 27 rfl) ki_0 ?_
        refine pz_iadd (pc' := 43) rfl (pz_dc dX9_gain 28 rfl) ?_
        refine pz_istore (pc' := 45) (lv' := [(4, .int (((l0 * l0) / ((4 : Int32))) + ((0 : Int32)))), (3, .int 0), (0, .int l0), (1, .int l1), (2, .int l2)]) rfl (pz_dc dX9_gain 29 rfl) (by decide) rfl ?_
        refine pz_iload_n (pc' := 46) (x := 0) 1 rfl (pz_dc dX9_gain 30 rfl) rfl ?_
        refine pz_iload (pc' := 48) (x := ((l0 * l0) / ((4 : Int32))) + ((0 : Int32))) 0 rfl (pz_dc dX9_gain 31 rfl) rfl ?_
        refine pz_isub (pc' := 49) rfl (pz_dc dX9_gain 32 rfl) ?_
        exact pz_iret (pz_dc dX9_gain 33 rfl) rfl hb
      · rw [if_neg hc] at hb
        refine pz_iload_n (pc' := 33) (x := l1) 2 rfl (pz_dc dX9_gain 22 rfl) rfl ?_
        refine pz_iconst (pc' := 34) (v := 5) rfl (pz_dc dX9_gain 23 rfl) ki_5 ?_
        refine pz_icmp_lt (pc' := 37) (tgt := 41) rfl (pz_dc dX9_gain 24 rfl) (by decide) (fun hc => ?_) (fun hc => ?_)
        · rw [if_pos hc] at hb
          refine pz_iconst (pc' := 42) (v := 0) rfl (pz_dc dX9_gain 27 rfl) ki_0 ?_
          refine pz_iadd (pc' := 43) rfl (pz_dc dX9_gain 28 rfl) ?_
          refine pz_istore (pc' := 45) (lv' := [(4, .int (((l0 * l0) / ((4 : Int32))) + ((0 : Int32)))), (3, .int 0), (0, .int l0), (1, .int l1), (2, .int l2)]) rfl (pz_dc dX9_gain 29 rfl) (by decide) rfl ?_
          refine pz_iload_n (pc' := 46) (x := 0) 1 rfl (pz_dc dX9_gain 30 rfl) rfl ?_
          refine pz_iload (pc' := 48) (x := ((l0 * l0) / ((4 : Int32))) + ((0 : Int32))) 0 rfl (pz_dc dX9_gain 31 rfl) rfl ?_
          refine pz_isub (pc' := 49) rfl (pz_dc dX9_gain 32 rfl) ?_
          exact pz_iret (pz_dc dX9_gain 33 rfl) rfl hb
        · rw [if_neg hc] at hb
          refine pz_iconst (pc' := 38) (v := 2) rfl (pz_dc dX9_gain 25 rfl) ki_2 ?_
          refine pz_goto (pc' := 42) (pz_dc dX9_gain 26 rfl) (by decide) ?_
          refine pz_iadd (pc' := 43) rfl (pz_dc dX9_gain 28 rfl) ?_
          refine pz_istore (pc' := 45) (lv' := [(4, .int (((l0 * l0) / ((4 : Int32))) + ((2 : Int32)))), (3, .int 0), (0, .int l0), (1, .int l1), (2, .int l2)]) rfl (pz_dc dX9_gain 29 rfl) (by decide) rfl ?_
          refine pz_iload_n (pc' := 46) (x := 0) 1 rfl (pz_dc dX9_gain 30 rfl) rfl ?_
          refine pz_iload (pc' := 48) (x := ((l0 * l0) / ((4 : Int32))) + ((2 : Int32))) 0 rfl (pz_dc dX9_gain 31 rfl) rfl ?_
          refine pz_isub (pc' := 49) rfl (pz_dc dX9_gain 32 rfl) ?_
          exact pz_iret (pz_dc dX9_gain 33 rfl) rfl hb
    · rw [if_pos hc] at hb
      refine pz_iload_n (pc' := 15) (x := l2) 2 rfl (pz_dc dX9_gain 8 rfl) rfl ?_
      refine pz_iconst (pc' := 16) (v := 2) rfl (pz_dc dX9_gain 9 rfl) ki_2 ?_
      refine pz_idiv (pc' := 17) rfl (pz_dc dX9_gain 10 rfl) (by decide) ?_
      refine pz_goto (pc' := 21) (pz_dc dX9_gain 11 rfl) (by decide) ?_
      refine pz_istore_n (pc' := 22) (lv' := [(3, .int (l2 / ((2 : Int32)))), (0, .int l0), (1, .int l1), (2, .int l2)]) rfl (pz_dc dX9_gain 13 rfl) (by decide) rfl ?_
      refine pz_iload_n (pc' := 23) (x := l0) 1 rfl (pz_dc dX9_gain 14 rfl) rfl ?_
      refine pz_iload_n (pc' := 24) (x := l0) 1 rfl (pz_dc dX9_gain 15 rfl) rfl ?_
      refine pz_imul (pc' := 25) rfl (pz_dc dX9_gain 16 rfl) ?_
      refine pz_iconst (pc' := 26) (v := 4) rfl (pz_dc dX9_gain 17 rfl) ki_4 ?_
      refine pz_idiv (pc' := 27) rfl (pz_dc dX9_gain 18 rfl) (by decide) ?_
      refine pz_iload_n (pc' := 28) (x := l0) 1 rfl (pz_dc dX9_gain 19 rfl) rfl ?_
      refine pz_iconst (pc' := 29) (v := 5) rfl (pz_dc dX9_gain 20 rfl) ki_5 ?_
      refine pz_icmp_lt (pc' := 32) (tgt := 41) rfl (pz_dc dX9_gain 21 rfl) (by decide) (fun hc => ?_) (fun hc => ?_)
      · rw [if_pos hc] at hb
        refine pz_iconst (pc' := 42) (v := 0) rfl (pz_dc dX9_gain 27 rfl) ki_0 ?_
        refine pz_iadd (pc' := 43) rfl (pz_dc dX9_gain 28 rfl) ?_
        refine pz_istore (pc' := 45) (lv' := [(4, .int (((l0 * l0) / ((4 : Int32))) + ((0 : Int32)))), (3, .int (l2 / ((2 : Int32)))), (0, .int l0), (1, .int l1), (2, .int l2)]) rfl (pz_dc dX9_gain 29 rfl) (by decide) rfl ?_
        refine pz_iload_n (pc' := 46) (x := l2 / ((2 : Int32))) 1 rfl (pz_dc dX9_gain 30 rfl) rfl ?_
        refine pz_iload (pc' := 48) (x := ((l0 * l0) / ((4 : Int32))) + ((0 : Int32))) 0 rfl (pz_dc dX9_gain 31 rfl) rfl ?_
        refine pz_isub (pc' := 49) rfl (pz_dc dX9_gain 32 rfl) ?_
        exact pz_iret (pz_dc dX9_gain 33 rfl) rfl hb
      · rw [if_neg hc] at hb
        refine pz_iload_n (pc' := 33) (x := l1) 2 rfl (pz_dc dX9_gain 22 rfl) rfl ?_
        refine pz_iconst (pc' := 34) (v := 5) rfl (pz_dc dX9_gain 23 rfl) ki_5 ?_
        refine pz_icmp_lt (pc' := 37) (tgt := 41) rfl (pz_dc dX9_gain 24 rfl) (by decide) (fun hc => ?_) (fun hc => ?_)
        · rw [if_pos hc] at hb
          refine pz_iconst (pc' := 42) (v := 0) rfl (pz_dc dX9_gain 27 rfl) ki_0 ?_
          refine pz_iadd (pc' := 43) rfl (pz_dc dX9_gain 28 rfl) ?_
          refine pz_istore (pc' := 45) (lv' := [(4, .int (((l0 * l0) / ((4 : Int32))) + ((0 : Int32)))), (3, .int (l2 / ((2 : Int32)))), (0, .int l0), (1, .int l1), (2, .int l2)]) rfl (pz_dc dX9_gain 29 rfl) (by decide) rfl ?_
          refine pz_iload_n (pc' := 46) (x := l2 / ((2 : Int32))) 1 rfl (pz_dc dX9_gain 30 rfl) rfl ?_
          refine pz_iload (pc' := 48) (x := ((l0 * l0) / ((4 : Int32))) + ((0 : Int32))) 0 rfl (pz_dc dX9_gain 31 rfl) rfl ?_
          refine pz_isub (pc' := 49) rfl (pz_dc dX9_gain 32 rfl) ?_
          exact pz_iret (pz_dc dX9_gain 33 rfl) rfl hb
        · rw [if_neg hc] at hb
          refine pz_iconst (pc' := 38) (v := 2) rfl (pz_dc dX9_gain 25 rfl) ki_2 ?_
          refine pz_goto (pc' := 42) (pz_dc dX9_gain 26 rfl) (by decide) ?_
          refine pz_iadd (pc' := 43) rfl (pz_dc dX9_gain 28 rfl) ?_
          refine pz_istore (pc' := 45) (lv' := [(4, .int (((l0 * l0) / ((4 : Int32))) + ((2 : Int32)))), (3, .int (l2 / ((2 : Int32)))), (0, .int l0), (1, .int l1), (2, .int l2)]) rfl (pz_dc dX9_gain 29 rfl) (by decide) rfl ?_
          refine pz_iload_n (pc' := 46) (x := l2 / ((2 : Int32))) 1 rfl (pz_dc dX9_gain 30 rfl) rfl ?_
          refine pz_iload (pc' := 48) (x := ((l0 * l0) / ((4 : Int32))) + ((2 : Int32))) 0 rfl (pz_dc dX9_gain 31 rfl) rfl ?_
          refine pz_isub (pc' := 49) rfl (pz_dc dX9_gain 32 rfl) ?_
          exact pz_iret (pz_dc dX9_gain 33 rfl) rfl hb
  · rw [if_neg hc] at hb
    refine pz_iload_n (pc' := 6) (x := l2) 2 rfl (pz_dc dX9_gain 3 rfl) rfl ?_
    refine pz_goto (pc' := 21) (pz_dc dX9_gain 4 rfl) (by decide) ?_
    refine pz_istore_n (pc' := 22) (lv' := [(3, .int l2), (0, .int l0), (1, .int l1), (2, .int l2)]) rfl (pz_dc dX9_gain 13 rfl) (by decide) rfl ?_
    refine pz_iload_n (pc' := 23) (x := l0) 1 rfl (pz_dc dX9_gain 14 rfl) rfl ?_
    refine pz_iload_n (pc' := 24) (x := l0) 1 rfl (pz_dc dX9_gain 15 rfl) rfl ?_
    refine pz_imul (pc' := 25) rfl (pz_dc dX9_gain 16 rfl) ?_
    refine pz_iconst (pc' := 26) (v := 4) rfl (pz_dc dX9_gain 17 rfl) ki_4 ?_
    refine pz_idiv (pc' := 27) rfl (pz_dc dX9_gain 18 rfl) (by decide) ?_
    refine pz_iload_n (pc' := 28) (x := l0) 1 rfl (pz_dc dX9_gain 19 rfl) rfl ?_
    refine pz_iconst (pc' := 29) (v := 5) rfl (pz_dc dX9_gain 20 rfl) ki_5 ?_
    refine pz_icmp_lt (pc' := 32) (tgt := 41) rfl (pz_dc dX9_gain 21 rfl) (by decide) (fun hc => ?_) (fun hc => ?_)
    · rw [if_pos hc] at hb
      refine pz_iconst (pc' := 42) (v := 0) rfl (pz_dc dX9_gain 27 rfl) ki_0 ?_
      refine pz_iadd (pc' := 43) rfl (pz_dc dX9_gain 28 rfl) ?_
      refine pz_istore (pc' := 45) (lv' := [(4, .int (((l0 * l0) / ((4 : Int32))) + ((0 : Int32)))), (3, .int l2), (0, .int l0), (1, .int l1), (2, .int l2)]) rfl (pz_dc dX9_gain 29 rfl) (by decide) rfl ?_
      refine pz_iload_n (pc' := 46) (x := l2) 1 rfl (pz_dc dX9_gain 30 rfl) rfl ?_
      refine pz_iload (pc' := 48) (x := ((l0 * l0) / ((4 : Int32))) + ((0 : Int32))) 0 rfl (pz_dc dX9_gain 31 rfl) rfl ?_
      refine pz_isub (pc' := 49) rfl (pz_dc dX9_gain 32 rfl) ?_
      exact pz_iret (pz_dc dX9_gain 33 rfl) rfl hb
    · rw [if_neg hc] at hb
      refine pz_iload_n (pc' := 33) (x := l1) 2 rfl (pz_dc dX9_gain 22 rfl) rfl ?_
      refine pz_iconst (pc' := 34) (v := 5) rfl (pz_dc dX9_gain 23 rfl) ki_5 ?_
      refine pz_icmp_lt (pc' := 37) (tgt := 41) rfl (pz_dc dX9_gain 24 rfl) (by decide) (fun hc => ?_) (fun hc => ?_)
      · rw [if_pos hc] at hb
        refine pz_iconst (pc' := 42) (v := 0) rfl (pz_dc dX9_gain 27 rfl) ki_0 ?_
        refine pz_iadd (pc' := 43) rfl (pz_dc dX9_gain 28 rfl) ?_
        refine pz_istore (pc' := 45) (lv' := [(4, .int (((l0 * l0) / ((4 : Int32))) + ((0 : Int32)))), (3, .int l2), (0, .int l0), (1, .int l1), (2, .int l2)]) rfl (pz_dc dX9_gain 29 rfl) (by decide) rfl ?_
        refine pz_iload_n (pc' := 46) (x := l2) 1 rfl (pz_dc dX9_gain 30 rfl) rfl ?_
        refine pz_iload (pc' := 48) (x := ((l0 * l0) / ((4 : Int32))) + ((0 : Int32))) 0 rfl (pz_dc dX9_gain 31 rfl) rfl ?_
        refine pz_isub (pc' := 49) rfl (pz_dc dX9_gain 32 rfl) ?_
        exact pz_iret (pz_dc dX9_gain 33 rfl) rfl hb
      · rw [if_neg hc] at hb
        refine pz_iconst (pc' := 38) (v := 2) rfl (pz_dc dX9_gain 25 rfl) ki_2 ?_
        refine pz_goto (pc' := 42) (pz_dc dX9_gain 26 rfl) (by decide) ?_
        refine pz_iadd (pc' := 43) rfl (pz_dc dX9_gain 28 rfl) ?_
        refine pz_istore (pc' := 45) (lv' := [(4, .int (((l0 * l0) / ((4 : Int32))) + ((2 : Int32)))), (3, .int l2), (0, .int l0), (1, .int l1), (2, .int l2)]) rfl (pz_dc dX9_gain 29 rfl) (by decide) rfl ?_
        refine pz_iload_n (pc' := 46) (x := l2) 1 rfl (pz_dc dX9_gain 30 rfl) rfl ?_
        refine pz_iload (pc' := 48) (x := ((l0 * l0) / ((4 : Int32))) + ((2 : Int32))) 0 rfl (pz_dc dX9_gain 31 rfl) rfl ?_
        refine pz_isub (pc' := 49) rfl (pz_dc dX9_gain 32 rfl) ?_
        exact pz_iret (pz_dc dX9_gain 33 rfl) rfl hb
def eX10_all (x1 : Int32) : Int32 := (((1 : Int32)) <<< (x1 &&& 31)) - ((1 : Int32))
set_option maxRecDepth 20000 in
set_option maxHeartbeats 4000000 in
theorem cX10_all {Ex : State → Nat → Prop} {Q : Option Value → pz_H → Prop} {d bc bs : Nat} {l0 : Nat} {h : pz_H} (hb : pz_gI h l0 10 1 (fun (x1 : Int32) => Q (some (.int (eX10_all x1))) h)) : pz_V mX10_all Ex Q d bc bs 0 [(0, .ref l0)] [] h := by
  obtain ⟨fs0, x1, g0a, g0b, hb⟩ := hb
  unfold eX10_all at hb
  refine pz_iconst (pc' := 1) (v := 1) rfl (pz_dc dX10_all 0 rfl) ki_1 ?_
  refine pz_aload_n (pc' := 2) (x := l0) 0 rfl (pz_dc dX10_all 1 rfl) rfl ?_
  refine pz_get (M := mX10_all) fX10_101 (pc' := 5) rfl (pz_dc dX10_all 2 rfl) g0a g0b ?_
  refine pz_ishl (pc' := 6) rfl (pz_dc dX10_all 3 rfl) ?_
  refine pz_iconst (pc' := 7) (v := 1) rfl (pz_dc dX10_all 4 rfl) ki_1 ?_
  refine pz_isub (pc' := 8) rfl (pz_dc dX10_all 5 rfl) ?_
  exact pz_iret (pz_dc dX10_all 6 rfl) rfl hb
def eX1_all (x1 : Int32) : Int32 := (((1 : Int32)) <<< (x1 &&& 31)) - ((1 : Int32))
set_option maxRecDepth 20000 in
set_option maxHeartbeats 4000000 in
theorem cX1_all {Ex : State → Nat → Prop} {Q : Option Value → pz_H → Prop} {d bc bs : Nat} {l0 : Nat} {h : pz_H} (hb : pz_gI h l0 1 4 (fun (x1 : Int32) => Q (some (.int (eX1_all x1))) h)) : pz_V mX1_all Ex Q d bc bs 0 [(0, .ref l0)] [] h := by
  obtain ⟨fs0, x1, g0a, g0b, hb⟩ := hb
  unfold eX1_all at hb
  refine pz_iconst (pc' := 1) (v := 1) rfl (pz_dc dX1_all 0 rfl) ki_1 ?_
  refine pz_aload_n (pc' := 2) (x := l0) 0 rfl (pz_dc dX1_all 1 rfl) rfl ?_
  refine pz_get (M := mX1_all) fX1_24 (pc' := 5) rfl (pz_dc dX1_all 2 rfl) g0a g0b ?_
  refine pz_ishl (pc' := 6) rfl (pz_dc dX1_all 3 rfl) ?_
  refine pz_iconst (pc' := 7) (v := 1) rfl (pz_dc dX1_all 4 rfl) ki_1 ?_
  refine pz_isub (pc' := 8) rfl (pz_dc dX1_all 5 rfl) ?_
  exact pz_iret (pz_dc dX1_all 6 rfl) rfl hb
