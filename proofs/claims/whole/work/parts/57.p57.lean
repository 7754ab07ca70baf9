def whB (lg rl : Nat → Int32) (v1 v2 : Int32) (i : Nat) : Bool := decide (lg (6 * i + 5) = 0) && (decide (lg (6 * i + 1) = v2) && decide (rl (f_X6_note (lg (6 * i + 3)) + nI 1).toNatClampNeg = v1))
def wh (lg rl : Nat → Int32) (v1 v2 : Int32) : Nat → Int32
  | 0 => (-1)
  | n + 1 => if whB lg rl v1 v2 n = true then lg (6 * n) else wh lg rl v1 v2 n
theorem i32_m1 (x : Int32) : x + (-1) = x - nI 1 := by
  have : (-1 : Int32) = - nI 1 := by decide
  rw [this, Int32.sub_eq_add_neg]
theorem word_c {Dg dw F lg : Nat → Int32} {nN B k s : Nat} (a1 : Dg 1 = nI k) (a3 : Dg 2 = nI s) (a5 : k ≤ 60) (a6 : k ≤ s) (a7 : s ≤ B) (a8 : ∀ i j, i < k → j < 6 → lg (6 * i + j) = dw ((s - k + i) % 60 * 6 + j)) (hB : B < 2 ^ 30) {i j : Nat} (hi : i < k) (hj : j < 6) : f_X0_word Dg dw (nI i) (nI j) = lg (6 * i + j) ∧ s_X0_word Dg dw (nI i) (nI j) := by
  unfold f_X0_word s_X0_word
  have e : nI s - nI k + nI i = nI (s - k + i) := by rw [pn_sub a6, nI_add]
  rw [a1, a3, e, fm_eq (by omega), a8 i j hi hj]
  simp (disch := omega) only [pn_lt0, pn_le, show ¬ k ≤ i by omega, if_false, pn_lt, hj, if_true, pk_mul, nI_add, pn_cl, pn_in, implies_true, and_true, true_and]
  intros
  exact (by decide : ¬ (nI 60 = 0))
section RD
variable {C off dear proved nw Dg dw F rl lg : Nat → Int32} {B : Nat}
theorem op_note (Q : QW C off dear proved nw Dg dw F rl lg B) (v1 v2 : Int32) : ∃ a, f_X5_note nw v1 v2 = a ∧ s_X5_note nw v1 v2 ∧ f_X6_note_ F rl v1 v2 = (upd F 0 (nI 0), a) ∧ s_X6_note_ F rl v1 v2 := by
  obtain ⟨nH, nN, nF, nL, t, S, R, H, T, e, D, O⟩ := Q
  have hN := R.2.1.2
  rcases no_c (off := off) (dear := dear) (proved := proved) R v1 with ⟨g1, g2, -⟩ | ⟨x, hx, rfl, g1, g2⟩
  · rw [← e] at g2
    refine ⟨(-2), ?_, ?_, ?_, ?_⟩
    · simp only [f_X5_note, g1, n00, if_true]
    · simp only [s_X5_note, g1, n00, not_true_eq_false, false_implies]
    · simp only [f_X6_note_, g2, n00, if_true]
    · simp only [s_X6_note_, sno, g2, n00, not_true_eq_false, false_implies, and_true]
  rw [← e] at g2
  rcases iv_c (n := 10) (by omega) v2 with ⟨h1, -⟩ | ⟨j, hj, rfl, h1⟩
  · refine ⟨(-2), ?_, ?_, ?_, ?_⟩
    · simp only [f_X5_note, g1, n1z, if_false, wi, h1, n00, if_true]
    · simp only [s_X5_note, wi, h1, n00, not_true_eq_false, false_implies, implies_true]
    · simp only [f_X6_note_, g2, n1z, if_false, h1, n00, if_true]
    · simp only [s_X6_note_, sno, h1, n00, not_true_eq_false, false_implies, implies_true, and_true]
  · have a := noteWord_eq (j := j) R.2.1.1 hN hx (by omega)
    have b := eV_n C off dear proved nw (j := j) R.2.1.1 hN hx (by omega)
    rw [← e] at b
    refine ⟨nw (142 + x * 11 + j), ?_, ?_, ?_, ?_⟩
    · simp only [f_X5_note, g1, n1z, if_false, wi, h1, a.1]
    · simp only [s_X5_note, a.2, implies_true]
    · simp (disch := omega) only [f_X6_note_, g2, n1z, if_false, h1, f_X6_note, nI_add, pk_mul, pn_cl, b]
    · simp (disch := omega) only [s_X6_note_, sno, f_X6_note, nI_add, pk_mul, pn_in, implies_true, and_true]
theorem letWord_eq {w : Nat → Int32} {nL l j : Nat} (h : w 3 = nI nL) (hL : nL ≤ 12) (hl : l < nL) (hj : j < 7) : f_X4_letterWord w (nI l) (nI j) = w (58 + l * 7 + j) ∧ s_X4_letterWord w (nI l) (nI j) := by
  have e0 : f_X4_isLetter w (nI l) = nI 1 := by
    unfold f_X4_isLetter
    simp (disch := omega) only [pn_cl, h, pn_lt0, pn_le, show ¬ nL ≤ l by omega, show ¬ 12 ≤ l by omega, if_false]
  simp (disch := omega) only [f_X4_letterWord_23, f_X4_letterWord_22, f_X4_letterWord, s_X4_letterWord_23, s_X4_letterWord_22, s_X4_letterWord, e0, n1z, if_false, pn_lt0, pn_le, show ¬ 7 ≤ j by omega, pn_cl, nI_add, pk_mul, pn_in, implies_true, and_true, false_implies]
theorem op_letter (Q : QW C off dear proved nw Dg dw F rl lg B) (v1 v2 : Int32) : ∃ a, f_X5_letter nw v1 v2 = a ∧ s_X5_letter nw v1 v2 ∧ f_X6_letter_ F rl v1 v2 = (upd F 0 (nI 0), a) ∧ s_X6_letter_ F rl v1 v2 := by
  obtain ⟨nH, nN, nF, nL, t, S, R, H, T, e, D, O⟩ := Q
  have hL := R.2.2.2.1.2
  rcases le_c (off := off) (dear := dear) (proved := proved) R v1 with ⟨g1, g2, -⟩ | ⟨x, hx, rfl, g1, g2⟩
  · rw [← e] at g2
    refine ⟨(-2), ?_, ?_, ?_, ?_⟩
    · simp only [f_X5_letter, g1, n00, if_true]
    · simp only [s_X5_letter, g1, n00, not_true_eq_false, false_implies]
    · simp (disch := omega) only [f_X6_letter_, pn_cl, g2, n00, if_true]
    · simp (disch := omega) only [s_X6_letter_, pn_cl, g2, n00, not_true_eq_false, false_implies]
  rw [← e] at g2
  rcases iv_c (n := 6) (by omega) v2 with ⟨h1, -⟩ | ⟨j, hj, rfl, h1⟩
  · refine ⟨(-2), ?_, ?_, ?_, ?_⟩
    · simp only [f_X5_letter, g1, n1z, if_false, wi, h1, n00, if_true]
    · simp only [s_X5_letter, wi, h1, n00, not_true_eq_false, false_implies, implies_true]
    · simp (disch := omega) only [f_X6_letter_, pn_cl, g2, n1z, if_false, h1, n00, if_true]
    · simp only [s_X6_letter_, h1, n00, not_true_eq_false, false_implies, implies_true]
  · have a := letWord_eq (j := j) R.2.2.2.1.1 hL hx (by omega)
    have b := eV_l C off dear proved nw (j := j) R.2.2.2.1.1 hL hx (by omega)
    rw [← e] at b
    refine ⟨nw (58 + x * 7 + j), ?_, ?_, ?_, ?_⟩
    · simp only [f_X5_letter, g1, n1z, if_false, wi, h1, a.1]
    · simp only [s_X5_letter, a.2, implies_true]
    · simp (disch := omega) only [f_X6_letter_, pn_cl, g2, n1z, if_false, h1, f_X6_letter, nI_add, pk_mul, b]
    · simp (disch := omega) only [s_X6_letter_, f_X6_letter, nI_add, pk_mul, pn_in, implies_true]
theorem op_family (Q : QW C off dear proved nw Dg dw F rl lg B) (v1 v2 : Int32) : ∃ a, f_X5_family nw v1 v2 = a ∧ s_X5_family nw v1 v2 ∧ f_X6_family_ F rl v1 v2 = (upd F 0 (nI 0), a) ∧ s_X6_family_ F rl v1 v2 := by
  obtain ⟨nH, nN, nF, nL, t, S, R, H, T, e, D, O⟩ := Q
  have hF := R.2.2.1.2
  rcases fa_c (off := off) (dear := dear) (proved := proved) R v1 with ⟨g1, g2, -⟩ | ⟨x, hx, rfl, g1, g2⟩
  · rw [← e] at g2
    refine ⟨(-2), ?_, ?_, ?_, ?_⟩
    · simp only [f_X5_family, g1, n00, if_true]
    · simp only [s_X5_family, g1, n00, not_true_eq_false, false_implies]
    · simp (disch := omega) only [f_X6_family_, pn_cl, g2, n00, if_true]
    · simp (disch := omega) only [s_X6_family_, pn_cl, g2, n00, not_true_eq_false, false_implies]
  rw [← e] at g2
  rcases iv_c (n := 1) (by omega) v2 with ⟨h1, -⟩ | ⟨j, hj, rfl, h1⟩
  · refine ⟨(-2), ?_, ?_, ?_, ?_⟩
    · simp only [f_X5_family, g1, n1z, if_false, wi, h1, n00, if_true]
    · simp only [s_X5_family, wi, h1, n00, not_true_eq_false, false_implies, implies_true]
    · simp (disch := omega) only [f_X6_family_, pn_cl, g2, n1z, if_false, h1, n00, if_true]
    · simp only [s_X6_family_, h1, n00, not_true_eq_false, false_implies, implies_true]
  · have a := famWord_eq (j := j) R.2.2.1.1 hF hx (by omega)
    have b := eV_f C off dear proved nw (j := j) R.2.2.1.1 hF hx (by omega)
    rw [← e] at b
    refine ⟨nw (26 + x * 2 + j), ?_, ?_, ?_, ?_⟩
    · simp only [f_X5_family, g1, n1z, if_false, wi, h1, a.1]
    · simp only [s_X5_family, a.2, implies_true]
    · simp (disch := omega) only [f_X6_family_, pn_cl, g2, n1z, if_false, h1, f_X6_family, nI_add, pk_mul, b]
    · simp (disch := omega) only [s_X6_family_, f_X6_family, nI_add, pk_mul, pn_in, implies_true]
theorem hoWord_eq {w : Nat → Int32} {h j : Nat} (hh : h < 4) (hj : j < 3) : f_X4_houseWord w (nI h) (nI j) = w (4 + h * 3 + j) ∧ s_X4_houseWord w (nI h) (nI j) := by
  simp (disch := omega) only [f_X4_houseWord_23, f_X4_houseWord_22, f_X4_houseWord, s_X4_houseWord_23, s_X4_houseWord_22, s_X4_houseWord, n1z, if_false, pn_lt0, pn_le, show ¬ 4 ≤ h by omega, show ¬ 3 ≤ j by omega, pn_cl, nI_add, pk_mul, pn_in, implies_true, and_true, false_implies]
theorem eV_h3' (C off dear proved w : Nat → Int32) {h : Nat} (hh : h < 4) : eV C off dear proved w (16 + 7 * h + 3) = if bt (C 11) h = true then nI 1 else nI 0 := by
  rw [eV_h C off dear proved w hh (by omega)]
  show bt1 (C 11) h = _
  exact bt1_v _ (by omega)
theorem eV_h1' (C off dear proved w : Nat → Int32) {h : Nat} (hh : h < 4) : eV C off dear proved w (16 + 7 * h + 1) = if bt (C 12) h = true then nI 1 else nI 0 := by
  rw [eV_h C off dear proved w hh (by omega)]
  show bt1 (C 12) h = _
  exact bt1_v _ (by omega)
theorem op_houseOf (Q : QW C off dear proved nw Dg dw F rl lg B) (v1 v2 : Int32) : ∃ a, f_X5_houseOf C off dear nw v1 v2 = a ∧ s_X5_houseOf C off dear nw v1 v2 ∧ f_X6_houseOf F rl v1 v2 = (upd F 0 (nI 0), a) ∧ s_X6_houseOf F rl v1 v2 := by
  obtain ⟨nH, nN, nF, nL, t, S, R, H, T, e, D, O⟩ := Q
  have hH := R.1.2
  rcases ho_c (off := off) (dear := dear) (proved := proved) R v1 with ⟨g1, g2, -⟩ | ⟨h, hh, rfl, g1, g2⟩
  · rw [← e] at g2
    refine ⟨(-100), ?_, ?_, ?_, ?_⟩
    · simp only [f_X5_houseOf, g1, n00, if_true]
    · simp only [s_X5_houseOf, g1, n00, not_true_eq_false, false_implies]
    · simp only [f_X6_houseOf, g2, n00, if_true]
    · simp only [s_X6_houseOf, sho, g2, n00, not_true_eq_false, false_implies, and_true]
  have h4 : h < 4 := by omega
  have on : f_X2_isOnce C (nI h) = if bt (C 12) h = true then nI 1 else nI 0 := by
    unfold f_X2_isOnce
    simp (disch := omega) only [pn_lt0, pn_le, show ¬ 4 ≤ h by omega, if_false, bit_1]
  have hw := fun j hj => hoWord_eq (w := nw) (h := h) (j := j) h4 hj
  refine ⟨_, rfl, ?_, ?_, ?_⟩
  · simp (disch := omega) only [s_X5_houseOf, (hw 0 (by omega)).2, (hw 1 (by omega)).2, (hw 2 (by omega)).2, pn_in, implies_true, and_true]
  · rw [← e] at g2
    have x3 : (if bt (C 11) h = true then nI 1 else nI 0) = if ¬ bt (C 11) h = true then nI 0 else nI 1 := by
      by_cases z : bt (C 11) h = true <;> simp [z]
    have x1 : (if bt (C 12) h = true then nI 1 else nI 0) = if ¬ bt (C 12) h = true then nI 0 else nI 1 := by
      by_cases z : bt (C 12) h = true <;> simp [z]
    simp only [f_X6_houseOf, f_X5_houseOf, g1, g2, n1z, if_false, f_X6_house]
    simp (disch := omega) only [nI_add, pk_mul, pn_cl, e, eV_h0 C off dear proved nw h4, eV_h1' C off dear proved nw h4, eV_h2 C off dear proved nw h4, eV_h3' C off dear proved nw h4, eV_h4 C off dear proved nw h4, eV_h5 C off dear proved nw h4, eV_h6 C off dear proved nw h4, eV_0, isIn_eq C h4, on, if10, hw, f_X4_time, x1, x3]
    by_cases c0 : v2 = nI 0
    · rw [if_pos c0, if_pos c0]
      by_cases z : bt (C 11) h = true
      · simp only [z, not_true_eq_false, if_false, n1z]
      · simp only [z, Bool.false_eq_true, not_false_eq_true, if_true, n00]
    by_cases c1 : v2 = nI 1
    · rw [if_neg c0, if_neg c0, if_pos c1, if_pos c1]
    by_cases c2 : v2 = nI 2
    · rw [if_neg c0, if_neg c0, if_neg c1, if_neg c1, if_pos c2, if_pos c2]
      by_cases z : bt (C 12) h = true
      · simp only [z, not_true_eq_false, if_false, n1z]
      · simp only [z, Bool.false_eq_true, not_false_eq_true, if_true, n00]
    by_cases c3 : v2 = nI 3
    · rw [if_neg c0, if_neg c0, if_neg c1, if_neg c1, if_neg c2, if_neg c2, if_pos c3, if_pos c3]
    by_cases c4 : v2 = nI 4
    · rw [if_neg c0, if_neg c0, if_neg c1, if_neg c1, if_neg c2, if_neg c2, if_neg c3, if_neg c3, if_pos c4, if_pos c4]
    by_cases c5 : v2 = nI 5
    · rw [if_neg c0, if_neg c0, if_neg c1, if_neg c1, if_neg c2, if_neg c2, if_neg c3, if_neg c3, if_neg c4, if_neg c4, if_pos c5, if_pos c5]
    by_cases c6 : v2 = nI 6
    · rw [if_neg c0, if_neg c0, if_neg c1, if_neg c1, if_neg c2, if_neg c2, if_neg c3, if_neg c3, if_neg c4, if_neg c4, if_neg c5, if_neg c5, if_pos c6, if_pos c6]
    by_cases c7 : v2 = nI 7
    · rw [if_neg c0, if_neg c0, if_neg c1, if_neg c1, if_neg c2, if_neg c2, if_neg c3, if_neg c3, if_neg c4, if_neg c4, if_neg c5, if_neg c5, if_neg c6, if_neg c6, if_pos c7, if_pos c7]
    rw [if_neg c0, if_neg c0, if_neg c1, if_neg c1, if_neg c2, if_neg c2, if_neg c3, if_neg c3, if_neg c4, if_neg c4, if_neg c5, if_neg c5, if_neg c6, if_neg c6, if_neg c7, if_neg c7]
  · simp (disch := omega) only [s_X6_houseOf, sho, f_X6_house, nI_add, pk_mul, pn_in, implies_true, and_true]
theorem op_browser (Q : QW C off dear proved nw Dg dw F rl lg B) (v1 v2 : Int32) : ∃ a, f_X5_browser proved nw v1 v2 = a ∧ s_X5_browser proved nw v1 v2 ∧ f_X6_browser_ F rl v1 v2 = (upd F 0 (nI 0), a) ∧ s_X6_browser_ F rl v1 v2 := by
  obtain ⟨nH, nN, nF, nL, t, S, R, H, T, e, D, O⟩ := Q
  rcases bw_c v1 with ⟨g1, g2, -⟩ | ⟨b, hb, rfl, g1, g2⟩
  · refine ⟨(-2), ?_, ?_, ?_, ?_⟩
    · simp only [f_X5_browser, g1, n00, if_true]
    · simp only [s_X5_browser, g1, n00, not_true_eq_false, false_implies]
    · simp only [f_X6_browser_, g2, n00, if_true]
    · simp only [s_X6_browser_, g2, n00, not_true_eq_false, false_implies]
  have sb : s_X5_browser proved nw (nI b) v2 := by
    simp (disch := omega) only [s_X5_browser, s_X4_pairOf, s_X4_knownPair, nI_add, pk_mul, pn_in, implies_true, and_true]
  rcases iv_c (n := 2) (by omega) v2 with ⟨h1, h2⟩ | ⟨j, hj, rfl, h1⟩
  · refine ⟨(-2), ?_, sb, ?_, ?_⟩
    · simp only [f_X5_browser, g1, n1z, if_false]
      rw [if_neg (fun q => h2 ⟨0, by omega, q⟩), if_neg (fun q => h2 ⟨1, by omega, q⟩), if_neg (fun q => h2 ⟨2, by omega, q⟩)]
    · simp only [f_X6_browser_, g2, n1z, if_false, h1, n00, if_true]
    · simp only [s_X6_browser_, h1, n00, not_true_eq_false, false_implies, implies_true]
  · refine ⟨rl (44 + 3 * b + j), ?_, sb, ?_, ?_⟩
    · have h3 : j = 0 ∨ j = 1 ∨ j = 2 := by omega
      rw [e]
      rcases h3 with rfl | rfl | rfl
      · simp (disch := omega) only [f_X5_browser, g1, n1z, if_false, if_true, pn_cl, eV_pr C off dear proved nw hb]
      · simp (disch := omega) only [f_X5_browser, g1, n1z, n01, if_false, if_true, f_X4_pairOf, nI_add, pk_mul, pn_cl, eV_pp C off dear proved nw hb]
      · have t0 : ¬ nI 2 = nI 0 := by decide
        simp (disch := omega) only [f_X5_browser, g1, n1z, t0, n21, if_false, if_true, f_X4_knownPair, nI_add, pk_mul, pn_cl, eV_gs C off dear proved nw hb]
    · simp (disch := omega) only [f_X6_browser_, g2, n1z, if_false, h1, f_X6_browser, nI_add, pk_mul, pn_cl]
    · simp (disch := omega) only [s_X6_browser_, f_X6_browser, nI_add, pk_mul, pn_in, implies_true]
theorem op_log (Q : QW C off dear proved nw Dg dw F rl lg B) (hB : B < 2 ^ 30) (v1 v2 : Int32) : ∃ a, f_X5_log Dg dw v1 v2 = a ∧ s_X5_log Dg dw v1 v2 ∧ f_X6_log F lg v1 v2 = (upd F 0 (nI 0), a) ∧ s_X6_log F lg v1 v2 := by
  obtain ⟨nH, nN, nF, nL, t, S, R, H, T, e, D, O⟩ := Q
  obtain ⟨h2, h3, k, s, a1, a2, a3, a4, a5, a6, a7, a8, a9⟩ := D
  have f5 : upd F 0 (nI 0) 5 = nI k := by rw [pu_n _ _ (by omega)]; exact a2
  rcases in_c (n := k) (by omega) v1 with ⟨g1, -⟩ | ⟨i, hi, rfl, g1⟩
  · refine ⟨(-2), ?_, ?_, ?_, ?_⟩
    · simp only [f_X5_log, wi, a1, g1, n00, if_true]
    · simp only [s_X5_log, wi, a1, g1, n00, not_true_eq_false, false_implies]
    · simp only [f_X6_log, f5, g1, n00, if_true]
    · simp only [s_X6_log, f5, g1, n00, not_true_eq_false, false_implies]
  rcases iv_c (n := 5) (by omega) v2 with ⟨h1, -⟩ | ⟨j, hj, rfl, h1⟩
  · refine ⟨(-2), ?_, ?_, ?_, ?_⟩
    · simp only [f_X5_log, wi, a1, g1, n1z, if_false, h1, n00, if_true]
    · simp only [s_X5_log, wi, h1, n00, not_true_eq_false, false_implies, implies_true]
    · simp only [f_X6_log, f5, g1, n1z, if_false, h1, n00, if_true]
    · simp only [s_X6_log, h1, n00, not_true_eq_false, false_implies, implies_true]
  · have w := word_c (F := F) (nN := nN) a1 a3 a5 a6 a7 a8 hB hi (show j < 6 by omega)
    refine ⟨lg (6 * i + j), ?_, ?_, ?_, ?_⟩
    · simp only [f_X5_log, wi, a1, g1, n1z, if_false, h1, w.1]
    · simp only [s_X5_log, w.2, implies_true]
    · simp (disch := omega) only [f_X6_log, f5, g1, n1z, if_false, h1, pk_mul, nI_add, pn_cl]
    · simp (disch := omega) only [s_X6_log, pk_mul, nI_add, pn_in, implies_true]
theorem where_v {F rl lg : Nat → Int32} {v1 v2 : Int32} {k nN : Nat} (hk : k ≤ 60) (h5 : F 5 = nI k) (a9 : ∀ i, i < k → ∃ x, x < nN ∧ lg (6 * i + 3) = nI x) (hN : nN ≤ 32) : ∀ (n i : Nat), k - i < n → i ≤ k → f_X6_where_30 n F rl lg v1 v2 (wh lg rl v1 v2 i) (nI i) = (F, wh lg rl v1 v2 k) ∧ s_X6_where_30 n F rl lg v1 v2 (wh lg rl v1 v2 i) (nI i)
  | 0, i, h, _ => by omega
  | n + 1, i, h, hi => by
    rw [f_X6_where_30, s_X6_where_30]
    by_cases e : i = k
    · subst e
      simp (disch := omega) only [h5, pn_le, Nat.le_refl, if_true, not_true_eq_false, false_implies, and_true]
    · have ih := where_v (F := F) (rl := rl) (lg := lg) (v1 := v1) (v2 := v2) hk h5 a9 hN n (i + 1) (by omega) (by omega)
      obtain ⟨x, hx, ex⟩ := a9 i (by omega)
      have ew : wh lg rl v1 v2 (i + 1) = if whB lg rl v1 v2 i = true then lg (6 * i) else wh lg rl v1 v2 i := rfl
      rw [ew] at ih
      unfold whB at ih
      simp (disch := omega) only [ex, f_X6_note, pk_mul, nI_add, pn_cl] at ih
      simp (disch := omega) only [h5, pn_le, show ¬ k ≤ i by omega, if_false, pk_mul, nI_add, pn_cl, ex, f_X6_note, pn_in, f_X6_where_107, s_X6_where_107, true_and, not_false_eq_true, true_implies]
      by_cases c1 : lg (6 * i + 5) = 0
      · by_cases c2 : lg (6 * i + 1) = v2
        · by_cases c3 : rl (59 + 11 * x + 1) = v1
          · simp [c1, c2, c3] at ih ⊢; exact ih
          · simp [c1, c2, c3] at ih ⊢; exact ih
        · simp [c1, c2] at ih ⊢; exact ih
      · simp [c1] at ih ⊢; exact ih
theorem where_c {nN nH nF nL t k s : Nat} {v1 v2 : Int32} (R : WR C nw nH nN nF nL t) (e : rl = eV C off dear proved nw) (a1 : Dg 1 = nI k) (a3 : Dg 2 = nI s) (a5 : k ≤ 60) (a6 : k ≤ s) (a7 : s ≤ B) (a8 : ∀ i j, i < k → j < 6 → lg (6 * i + j) = dw ((s - k + i) % 60 * 6 + j)) (hB : B < 2 ^ 30) (a9 : ∀ i, i < k → ∃ x, x < nN ∧ lg (6 * i + 3) = nI x) : ∀ (i n : Nat), i < n → i ≤ k → f_X5_where_31 n C Dg dw nw v1 v2 (nI i - nI 1) = wh lg rl v1 v2 i ∧ s_X5_where_31 n C Dg dw nw v1 v2 (nI i - nI 1)
  | 0, n, h, _ => by
    obtain ⟨n, rfl⟩ : ∃ q, n = q + 1 := ⟨n - 1, by omega⟩
    have q : nI 0 - nI 1 < 0 := by decide
    rw [f_X5_where_31, s_X5_where_31, if_pos q]
    exact ⟨rfl, fun z => absurd q z⟩
  | i + 1, n, h, hi => by
    obtain ⟨n, rfl⟩ : ∃ q, n = q + 1 := ⟨n - 1, by omega⟩
    have hN := R.2.1.2
    have ih := where_c (v1 := v1) (v2 := v2) R e a1 a3 a5 a6 a7 a8 hB a9 i n (by omega) (by omega)
    have W := fun j hj => word_c (F := Dg) (nN := nN) (j := j) a1 a3 a5 a6 a7 a8 hB (show i < k by omega) hj
    obtain ⟨x, hx, ex⟩ := a9 i (by omega)
    have nwd := noteWord_eq (j := 1) R.2.1.1 hN hx (by omega)
    have ev := eV_n C off dear proved nw (j := 1) R.2.1.1 hN hx (by omega)
    rw [← e] at ev
    have ew : wh lg rl v1 v2 (i + 1) = if whB lg rl v1 v2 i = true then lg (6 * i) else wh lg rl v1 v2 i := rfl
    have es : nI (i + 1) - nI 1 = nI i := by rw [pn_sub (by omega)]; rfl
    rw [ew, es, f_X5_where_31, s_X5_where_31]
    unfold whB
    have w0 : lg (6 * i + 0) = lg (6 * i) := rfl
    simp (disch := omega) only [ex, f_X6_note, pk_mul, nI_add, pn_cl, ev]
    simp (disch := omega) only [pn_lt0, if_false, (W 5 (by omega)).1, (W 5 (by omega)).2, (W 1 (by omega)).1, (W 1 (by omega)).2, (W 3 (by omega)).1, (W 3 (by omega)).2, (W 0 (by omega)).1, (W 0 (by omega)).2, w0, ex, nwd.1, nwd.2, f_X5_where_65, f_X5_where_64, f_X5_where_103, s_X5_where_65, s_X5_where_64, s_X5_where_103, n00, n1z, if_true, i32_m1, true_and, not_false_eq_true, true_implies, false_implies, not_true_eq_false, and_true]
    by_cases c1 : lg (6 * i + 5) = 0
    · by_cases c2 : lg (6 * i + 1) = v2
      · by_cases c3 : nw (142 + x * 11 + 1) = v1
        · simp [c1, c2, c3]
        · simp [c1, c2, c3]; exact ih
      · simp [c1, c2]; exact ih
    · simp [c1]; exact ih
theorem op_where (Q : QW C off dear proved nw Dg dw F rl lg B) (hB : B < 2 ^ 30) (v1 v2 : Int32) : ∃ a, f_X5_where C Dg dw nw v1 v2 = a ∧ s_X5_where C Dg dw nw v1 v2 ∧ f_X6_where F rl lg v1 v2 = (upd F 0 (nI 0), a) ∧ s_X6_where F rl lg v1 v2 := by
  obtain ⟨nH, nN, nF, nL, t, S, R, H, T, e, D, O⟩ := Q
  obtain ⟨h2, h3, k, s, a1, a2, a3, a4, a5, a6, a7, a8, a9⟩ := D
  have f5 : upd F 0 (nI 0) 5 = nI k := by rw [pu_n _ _ (by omega)]; exact a2
  rcases bw_c v1 with ⟨g1, g2, -⟩ | ⟨b, hb, rfl, g1, g2⟩
  · refine ⟨(-2), ?_, ?_, ?_, ?_⟩
    · simp only [f_X5_where, g1, n00, if_true]
    · simp only [s_X5_where, g1, n00, not_true_eq_false, false_implies]
    · simp only [f_X6_where, g2, n00, if_true]
    · simp only [s_X6_where, g2, n00, not_true_eq_false, false_implies]
  rcases ho_c (off := off) (dear := dear) (proved := proved) R v2 with ⟨k1, k2, -⟩ | ⟨h, hh, rfl, k1, k2⟩
  · rw [← e] at k2
    refine ⟨(-2), ?_, ?_, ?_, ?_⟩
    · simp only [f_X5_where, g1, n1z, if_false, k1, n00, if_true]
    · simp only [s_X5_where, k1, n00, not_true_eq_false, false_implies, implies_true]
    · simp only [f_X6_where, g2, n1z, if_false, k2, n00, if_true]
    · simp only [s_X6_where, sho, k2, n00, not_true_eq_false, false_implies, implies_true, and_true]
  · rw [← e] at k2
    have wc := where_c (v1 := nI b) (v2 := nI h) R e a1 a3 a5 a6 a7 a8 hB a9 k ng_F (by rw [ng_F_v]; omega) (Nat.le_refl k)
    have wv := where_v (F := upd F 0 (nI 0)) (rl := rl) (lg := lg) (v1 := nI b) (v2 := nI h) a5 f5 a9 R.2.1.2 ng_F 0 (by rw [ng_F_v]; omega) (by omega)
    refine ⟨wh lg rl (nI b) (nI h) k, ?_, ?_, ?_, ?_⟩
    · simp only [f_X5_where, g1, n1z, if_false, k1, a1]; exact wc.1
    · simp only [s_X5_where, a1]; exact fun _ _ => wc.2
    · simp only [f_X6_where, g2, n1z, if_false, k2]; exact wv.1
    · simp only [s_X6_where, sho, true_and]; exact fun _ _ => wv.2
end RD
