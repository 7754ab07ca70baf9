theorem sg (x : Int32) : x < 0 ∨ ∃ j, j < 2 ^ 31 ∧ x = nI j := by
  by_cases h : x < 0
  · exact Or.inl h
  · exact Or.inr (nI_of h)
theorem wi (a b c : Int32) : f_X5_within a b c = f_X6_in a b c := rfl
/-- within 0 .. n - 1 -/
theorem in_c {n : Nat} (hn : n < 2 ^ 31) (v : Int32) : (f_X6_in v (nI 0) (nI n - nI 1) = nI 0 ∧ ¬ ∃ j, j < n ∧ v = nI j) ∨ ∃ j, j < n ∧ v = nI j ∧ f_X6_in v (nI 0) (nI n - nI 1) = nI 1 := by
  rcases sg v with h | ⟨j, hj, rfl⟩
  · left
    refine ⟨?_, ?_⟩
    · unfold f_X6_in; rw [nI_0]; exact if_pos h
    · rintro ⟨j, h1, rfl⟩
      exact nI_pos (by omega) h
  · rcases Nat.eq_zero_or_pos n with z | z
    · subst z
      left
      refine ⟨?_, fun ⟨k, h1, _⟩ => by omega⟩
      unfold f_X6_in
      have e : nI 0 - nI 1 = (-1) := by decide
      have q : (-1 : Int32) < nI j := by
        rw [Int32.lt_iff_toInt_lt, nI_toInt hj]
        have : (-1 : Int32).toInt = -1 := rfl
        omega
      rw [e]
      rw [if_neg (by rw [nI_0]; exact nI_pos hj), if_pos q]
    · rw [pn_sub z]
      rcases Nat.lt_or_ge j n with c | c
      · right
        refine ⟨j, c, rfl, ?_⟩
        unfold f_X6_in
        rw [if_neg (by rw [nI_0]; exact nI_pos hj), if_neg (by rw [pn_lt (by omega) hj]; omega)]
      · left
        refine ⟨?_, fun ⟨k, h1, h2⟩ => ?_⟩
        · unfold f_X6_in
          rw [if_neg (by rw [nI_0]; exact nI_pos hj), if_pos (by rw [pn_lt (by omega) hj]; omega)]
        · rw [pn_eq hj (by omega)] at h2; omega
theorem bw_c (v : Int32) : (f_X5_isBrowser v = nI 0 ∧ f_X6_in v (nI 0) (nI 4) = nI 0 ∧ ¬ ∃ j, j < 5 ∧ v = nI j) ∨ ∃ j, j < 5 ∧ v = nI j ∧ f_X5_isBrowser v = nI 1 ∧ f_X6_in v (nI 0) (nI 4) = nI 1 := by
  have e : nI 4 = nI 5 - nI 1 := by decide
  rw [e]
  rcases in_c (n := 5) (by omega) v with ⟨h1, h2⟩ | ⟨j, h1, h2, h3⟩
  · left
    refine ⟨?_, h1, h2⟩
    rcases sg v with h | ⟨j, hj, rfl⟩
    · unfold f_X5_isBrowser; rw [if_pos h]
    · exact isBr_no ((Nat.lt_or_ge j 5).elim (fun c => absurd ⟨j, c, rfl⟩ h2) id) hj
  · right
    exact ⟨j, h1, h2, by rw [h2]; exact isBr_eq h1, h3⟩
/-- a count's test: below 0, not below n, not below N -/
theorem cnt_c {n N : Nat} {c : Int32} (hc : c = nI n) (hn : n ≤ N) (hN : N < 2 ^ 31) (v : Int32) : ((if v < 0 then nI 0 else if c ≤ v then nI 0 else if nI N ≤ v then nI 0 else nI 1) = nI 0 ∧ f_X6_in v (nI 0) (nI n - nI 1) = nI 0 ∧ ¬ ∃ j, j < n ∧ v = nI j) ∨ ∃ j, j < n ∧ v = nI j ∧ (if v < 0 then nI 0 else if c ≤ v then nI 0 else if nI N ≤ v then nI 0 else nI 1) = nI 1 ∧ f_X6_in v (nI 0) (nI n - nI 1) = nI 1 := by
  subst hc
  rcases in_c (n := n) (by omega) v with ⟨h1, h2⟩ | ⟨j, h1, h2, h3⟩
  · left
    refine ⟨?_, h1, h2⟩
    rcases sg v with h | ⟨j, hj, rfl⟩
    · rw [if_pos h]
    · have c : n ≤ j := (Nat.lt_or_ge j n).elim (fun c => absurd ⟨j, c, rfl⟩ h2) id
      rw [if_neg (nI_pos hj), if_pos (nI_le c hj)]
  · right
    refine ⟨j, h1, h2, ?_, h3⟩
    rw [h2, if_neg (nI_pos (by omega)), if_neg (by rw [pn_le (by omega) (by omega)]; omega), if_neg (by rw [pn_le (by omega) (by omega)]; omega)]
section CC
variable {C off dear proved w : Nat → Int32} {nH nN nF nL t : Nat}
theorem ho_c (R : WR C w nH nN nF nL t) (v : Int32) : (f_X2_isHouse C v = nI 0 ∧ f_X6_isHouse (eV C off dear proved w) v = nI 0 ∧ ¬ ∃ j, j < nH ∧ v = nI j) ∨ ∃ j, j < nH ∧ v = nI j ∧ f_X2_isHouse C v = nI 1 ∧ f_X6_isHouse (eV C off dear proved w) v = nI 1 := by
  have e : f_X6_isHouse (eV C off dear proved w) v = f_X6_in v (nI 0) (nI nH - nI 1) := by
    unfold f_X6_isHouse; rw [pn_cl (by omega), eV_11, R.1.1]
  rw [e]
  exact cnt_c R.1.1 R.1.2 (by omega) v
theorem no_c (R : WR C w nH nN nF nL t) (v : Int32) : (f_X4_isNote w v = nI 0 ∧ f_X6_isNote (eV C off dear proved w) v = nI 0 ∧ ¬ ∃ j, j < nN ∧ v = nI j) ∨ ∃ j, j < nN ∧ v = nI j ∧ f_X4_isNote w v = nI 1 ∧ f_X6_isNote (eV C off dear proved w) v = nI 1 := by
  have e : f_X6_isNote (eV C off dear proved w) v = f_X6_in v (nI 0) (nI nN - nI 1) := by
    unfold f_X6_isNote; rw [pn_cl (by omega), eV_12, R.2.1.1]
  rw [e]
  unfold f_X4_isNote
  rw [pn_cl (by omega)]
  exact cnt_c R.2.1.1 R.2.1.2 (by omega) v
theorem fa_c (R : WR C w nH nN nF nL t) (v : Int32) : (f_X4_isFamily w v = nI 0 ∧ f_X6_in v (nI 0) (eV C off dear proved w 13 - nI 1) = nI 0 ∧ ¬ ∃ j, j < nF ∧ v = nI j) ∨ ∃ j, j < nF ∧ v = nI j ∧ f_X4_isFamily w v = nI 1 ∧ f_X6_in v (nI 0) (eV C off dear proved w 13 - nI 1) = nI 1 := by
  rw [eV_13, R.2.2.1.1]
  unfold f_X4_isFamily
  rw [pn_cl (by omega)]
  exact cnt_c R.2.2.1.1 R.2.2.1.2 (by omega) v
theorem le_c (R : WR C w nH nN nF nL t) (v : Int32) : (f_X4_isLetter w v = nI 0 ∧ f_X6_in v (nI 0) (eV C off dear proved w 14 - nI 1) = nI 0 ∧ ¬ ∃ j, j < nL ∧ v = nI j) ∨ ∃ j, j < nL ∧ v = nI j ∧ f_X4_isLetter w v = nI 1 ∧ f_X6_in v (nI 0) (eV C off dear proved w 14 - nI 1) = nI 1 := by
  rw [eV_14, R.2.2.2.1.1]
  unfold f_X4_isLetter
  rw [pn_cl (by omega)]
  exact cnt_c R.2.2.2.1.1 R.2.2.2.1.2 (by omega) v
end CC
theorem ri_c (v : Int32) : (f_X5_isRight v = nI 0 ∧ f_X6_in v (nI 0) (nI 7) = nI 0) ∨ ∃ j, j < 8 ∧ v = nI j ∧ f_X5_isRight v = nI 1 ∧ f_X6_in v (nI 0) (nI 7) = nI 1 := by
  have e : nI 7 = nI 8 - nI 1 := by decide
  rw [e]
  rcases in_c (n := 8) (by omega) v with ⟨h1, h2⟩ | ⟨j, h1, h2, h3⟩
  · left
    refine ⟨?_, h1⟩
    rcases sg v with h | ⟨j, hj, rfl⟩
    · unfold f_X5_isRight; rw [if_pos h]
    · have c : 8 ≤ j := (Nat.lt_or_ge j 8).elim (fun c => absurd ⟨j, c, rfl⟩ h2) id
      unfold f_X5_isRight; rw [if_neg (nI_pos hj), if_pos (nI_le c hj)]
  · right
    refine ⟨j, h1, h2, ?_, h3⟩
    unfold f_X5_isRight
    rw [h2, if_neg (nI_pos (by omega)), if_neg (by rw [pn_le (by omega) (by omega)]; omega)]
theorem iv_c {n : Nat} (hn : n < 2 ^ 31) (v : Int32) : (f_X6_in v (nI 0) (nI n) = nI 0 ∧ ¬ ∃ j, j ≤ n ∧ v = nI j) ∨ ∃ j, j ≤ n ∧ v = nI j ∧ f_X6_in v (nI 0) (nI n) = nI 1 := by
  rcases sg v with h | ⟨j, hj, rfl⟩
  · left
    refine ⟨?_, ?_⟩
    · unfold f_X6_in; rw [nI_0]; exact if_pos h
    · rintro ⟨j, h1, rfl⟩
      exact nI_pos (by omega) h
  · rcases Nat.lt_or_ge n j with c | c
    · left
      refine ⟨?_, fun ⟨k, h1, h2⟩ => ?_⟩
      · unfold f_X6_in
        rw [if_neg (by rw [nI_0]; exact nI_pos hj), if_pos (by rw [pn_lt (by omega) hj]; omega)]
      · rw [pn_eq hj (by omega)] at h2; omega
    · right
      refine ⟨j, c, rfl, ?_⟩
      unfold f_X6_in
      rw [if_neg (by rw [nI_0]; exact nI_pos hj), if_neg (by rw [pn_lt (by omega) hj]; omega)]
theorem i1_c {n : Nat} (hn : n < 2 ^ 31) (v : Int32) : (f_X6_in v (nI 1) (nI n) = nI 0 ∧ ¬ ∃ j, 1 ≤ j ∧ j ≤ n ∧ v = nI j) ∨ ∃ j, 1 ≤ j ∧ j ≤ n ∧ v = nI j ∧ f_X6_in v (nI 1) (nI n) = nI 1 := by
  rcases sg v with h | ⟨j, hj, rfl⟩
  · left
    refine ⟨?_, ?_⟩
    · unfold f_X6_in
      refine if_pos ?_
      have : (nI 1).toInt = 1 := rfl
      rw [Int32.lt_iff_toInt_lt] at h ⊢
      have h0 : (0 : Int32).toInt = 0 := rfl
      omega
    · rintro ⟨j, h1, h2, rfl⟩
      exact nI_pos (by omega) h
  · by_cases c : 1 ≤ j ∧ j ≤ n
    · right
      refine ⟨j, c.1, c.2, rfl, ?_⟩
      unfold f_X6_in
      rw [if_neg (by rw [pn_lt hj (by omega)]; omega), if_neg (by rw [pn_lt (by omega) hj]; omega)]
    · left
      refine ⟨?_, fun ⟨k, h1, h2, h3⟩ => ?_⟩
      · unfold f_X6_in
        by_cases c1 : 1 ≤ j
        · rw [if_neg (by rw [pn_lt hj (by omega)]; omega), if_pos (by rw [pn_lt (by omega) hj]; omega)]
        · rw [if_pos (by rw [pn_lt hj (by omega)]; omega)]
      · rw [pn_eq hj (by omega)] at h3; omega
theorem has_c {w : Nat → Int32} {nN p x : Nat} (h1 : w 1 = nI nN) (hN : nN ≤ 32) (hp : p < 9) (hx : x < nN) : f_X4_has w (nI p) (nI x) = (if bt (w (142 + x * 11 + 10)) p = true then nI 1 else nI 0) ∧ s_X4_has w (nI p) (nI x) := by
  simp (disch := omega) only [f_X4_has_23, f_X4_has_22, f_X4_has, s_X4_has_23, s_X4_has_22, s_X4_has, isNote_eq h1 hN (show x < 2 ^ 31 by omega), hx, if_true, n1z, if_false, pn_lt0, pn_le, show ¬ 9 ≤ p by omega, pn_cl, nI_add, pk_mul, pn_in, implies_true, and_true, false_implies, bit_1, n00, not_true_eq_false, and_self]
theorem has_n {w : Nat → Int32} {v1 v2 : Int32} (h : v1 < 0 ∨ nI 9 ≤ v1 ∨ f_X4_isNote w v2 = nI 0) : f_X4_has w v1 v2 = nI 0 ∧ s_X4_has w v1 v2 := by
  simp only [f_X4_has_23, f_X4_has_22, f_X4_has, s_X4_has_23, s_X4_has_22, s_X4_has, n00, n1z, if_true, if_false, not_true_eq_false, false_implies, not_false_eq_true, true_implies, implies_true, and_true, true_and]
  by_cases a : v1 < 0
  · simp only [a, if_true, not_true_eq_false, false_implies, and_self]
  · by_cases b : nI 9 ≤ v1
    · simp only [a, b, if_true, if_false, not_true_eq_false, false_implies, implies_true, and_self]
    · rcases h with h | h | h
      · exact absurd h a
      · exact absurd h b
      · simp only [a, b, h, n00, if_true, if_false, not_true_eq_false, false_implies, implies_true, and_self]
theorem has_v (C off dear proved : Nat → Int32) {w : Nat → Int32} {nN p x : Nat} (h1 : w 1 = nI nN) (hN : nN ≤ 32) (hp : p < 32) (hx : x < nN) : f_X6_has (eV C off dear proved w) (nI p) (nI x) = (if bt (w (142 + x * 11 + 10)) p = true then nI 1 else nI 0) ∧ s_X6_has (eV C off dear proved w) (nI p) (nI x) := by
  simp (disch := omega) only [f_X6_has, s_X6_has, f_X6_note, nI_add, pk_mul, pn_cl, eV_n C off dear proved w h1 hN hx, bit_1, pn_in, and_true]
