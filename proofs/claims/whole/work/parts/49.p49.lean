def SC (C : Nat → Int32) : Prop := ∃ e L, C 3 = nI e ∧ 1 ≤ e ∧ e ≤ 100 ∧ C 5 = nI L ∧ 1 ≤ L ∧ L ≤ 100
theorem isFam_eq {w : Nat → Int32} {nF f : Nat} (h : w 2 = nI nF) (hF : nF ≤ 16) (hf : f < 2 ^ 31) : f_X4_isFamily w (nI f) = if f < nF then nI 1 else nI 0 := by
  unfold f_X4_isFamily
  by_cases c : f < nF
  · simp (disch := omega) only [pn_cl, h, pn_lt0, pn_le, show ¬ nF ≤ f by omega, show ¬ 16 ≤ f by omega, if_false, c, if_true]
  · simp (disch := omega) only [pn_cl, h, pn_lt0, pn_le, show nF ≤ f by omega, if_false, c, if_true]
theorem famWord_eq {w : Nat → Int32} {nF f j : Nat} (h : w 2 = nI nF) (hF : nF ≤ 16) (hf : f < nF) (hj : j < 2) : f_X4_familyWord w (nI f) (nI j) = w (26 + f * 2 + j) ∧ s_X4_familyWord w (nI f) (nI j) := by
  simp (disch := omega) only [f_X4_familyWord_22, f_X4_familyWord_21, f_X4_familyWord, s_X4_familyWord_22, s_X4_familyWord_21, s_X4_familyWord, isFam_eq h hF (show f < 2 ^ 31 by omega), hf, if_true, n1z, if_false, pn_lt0, pn_le, show ¬ 2 ≤ j by omega, pn_cl, nI_add, pk_mul, pn_in, implies_true, and_true, false_implies]
theorem isEnd_eq {w : Nat → Int32} {nF f : Nat} (h : w 2 = nI nF) (hF : nF ≤ 16) (hf : f < nF) : (f_X4_isEnded w (nI f) = 0) = (w (26 + f * 2 + 1) = (-1)) ∧ s_X4_isEnded w (nI f) := by
  have k := famWord_eq (j := 1) h hF hf (by omega)
  unfold f_X4_isEnded s_X4_isEnded
  refine ⟨?_, k.2⟩
  rw [k.1]
  by_cases c : w (26 + f * 2 + 1) = (-1)
  · simp [c, n00]
  · simp [c, n1z]
theorem hear_m (C off dear proved : Nat → Int32) {w F lg : Nat → Int32} {nF : Nat} (h : w 2 = nI nF) (hF : nF ≤ 16) : ∀ (n n' f : Nat) (m : Int32), nF - f < n → nF - f < n' → f ≤ nF → ∃ M : Int32, f_X4_hearOfEnded_4 n w C m (nI f) = f_X4_hearOfEnded_40 ng_F w C M (nI 0) ∧ (s_X4_hearOfEnded_40 ng_F w C M (nI 0) → s_X4_hearOfEnded_4 n w C m (nI f)) ∧ f_X6_ticks_29 n' (eV C off dear proved w) F lg m (nI f) = f_X6_ticks_67 ng_F (eV C off dear proved w) F lg M (nI 0) ∧ (s_X6_ticks_67 ng_F (eV C off dear proved w) F lg M (nI 0) → s_X6_ticks_29 n' (eV C off dear proved w) F lg m (nI f))
  | 0, _, _, _, h1, _, _ => by omega
  | _ + 1, 0, _, _, _, h1, _ => by omega
  | n + 1, n' + 1, f, m, h1, h2, h3 => by
    have c13 : eV C off dear proved w 13 = nI nF := h
    rw [f_X4_hearOfEnded_4, s_X4_hearOfEnded_4, f_X6_ticks_29, s_X6_ticks_29]
    by_cases e : f = nF
    · subst e
      simp (disch := omega) only [pn_cl, h, c13, pn_le, Nat.le_refl, if_true, true_implies, not_true_eq_false, false_implies, and_true]
      exact ⟨m, rfl, id, rfl, id⟩
    · have hf : f < nF := by omega
      have k := isEnd_eq h hF hf
      simp (disch := omega) only [pn_cl, h, c13, pn_le, show ¬ nF ≤ f by omega, if_false, false_implies, true_and, not_false_eq_true, true_implies, k.1, k.2, f_X6_family, nI_add, pk_mul, eV_f C off dear proved w h hF hf, pn_in, f_X4_hearOfEnded_30, s_X4_hearOfEnded_30, f_X6_ticks_57, s_X6_ticks_57]
      by_cases c : w (26 + f * 2 + 1) = (-1)
      · obtain ⟨M, a1, a2, a3, a4⟩ := hear_m C off dear proved (F := F) (lg := lg) h hF n n' (f + 1) (m ||| nI 0) (by omega) (by omega) (by omega)
        simp only [c, if_true, true_implies, not_true_eq_false, false_implies, and_true]
        exact ⟨M, a1, a2, a3, a4⟩
      · obtain ⟨M, a1, a2, a3, a4⟩ := hear_m C off dear proved (F := F) (lg := lg) h hF n n' (f + 1) (m ||| (nI 1 <<< (nI f &&& 31))) (by omega) (by omega) (by omega)
        simp only [c, if_false, false_implies, not_false_eq_true, true_implies, true_and]
        exact ⟨M, a1, a2, a3, a4⟩
theorem hear_h (C off dear proved : Nat → Int32) {F lg : Nat → Int32} {nH nN nF nL t : Nat} (M : Int32) : ∀ (k h n n' : Nat) (w : Nat → Int32), h + k = 4 → 4 < n + h → 4 < n' + h → WR C w nH nN nF nL t → ∃ w', f_X4_hearOfEnded_40 n w C M (nI h) = w' ∧ s_X4_hearOfEnded_40 n w C M (nI h) ∧ f_X6_ticks_67 n' (eV C off dear proved w) F lg M (nI h) = f_X6_ticks_118 (eV C off dear proved w') F lg ∧ (s_X6_ticks_118 (eV C off dear proved w') F lg → s_X6_ticks_67 n' (eV C off dear proved w) F lg M (nI h)) ∧ WX C w w' nH nN nF nL t nN nF nL
  | 0, h, n, n', w, hk, hn, hn', R => by
    have h4 : h = 4 := by omega
    subst h4
    have hH := R.1.2
    have c11 : eV C off dear proved w 11 = nI nH := R.1.1
    obtain ⟨m, rfl⟩ : ∃ m, n = m + 1 := ⟨n - 1, by omega⟩
    obtain ⟨m', rfl⟩ : ∃ m, n' = m + 1 := ⟨n' - 1, by omega⟩
    rw [f_X4_hearOfEnded_40, s_X4_hearOfEnded_40, f_X6_ticks_67, s_X6_ticks_67]
    simp (disch := omega) only [pn_cl, c11, pn_le, hH, Nat.le_refl, if_true, true_implies, not_true_eq_false, false_implies, and_true, true_and]
    exact ⟨w, rfl, rfl, id, WX.rf R⟩
  | k + 1, h, n, n', w, hk, hn, hn', R => by
    have hH := R.1.2
    have c11 : eV C off dear proved w 11 = nI nH := R.1.1
    obtain ⟨m, rfl⟩ : ∃ m, n = m + 1 := ⟨n - 1, by omega⟩
    obtain ⟨m', rfl⟩ : ∃ m, n' = m + 1 := ⟨n' - 1, by omega⟩
    rw [f_X4_hearOfEnded_40, s_X4_hearOfEnded_40]
    simp (disch := omega) only [pn_le, show ¬ 4 ≤ h by omega, if_false, not_false_eq_true, true_implies, isIn_eq, if10, nI_add, pk_mul, pn_cl, pn_in, true_and, f_X4_hearOfEnded_90, s_X4_hearOfEnded_90]
    by_cases c : bt (C 11) h = true
    · have hh : h < nH := by
        rcases Nat.lt_or_ge h nH with z | z
        · exact z
        · have := R.2.2.2.2.2.2.2.2.1 h z (by omega)
          rw [this] at c; exact absurd c (by decide)
      have X := WX_ho (h := h) (p := 1) (y := w (4 + h * 3 + 1) ||| M) R (by omega) (by omega)
      have Y := WX_ho (h := h) (p := 0) (y := upd w (4 + h * 3 + 1) (w (4 + h * 3 + 1) ||| M) 0) X.1 (by omega) (by omega)
      obtain ⟨w', a1, a2, a3, a4, a5⟩ := hear_h C off dear proved (F := F) (lg := lg) M k (h + 1) m m' _ (by omega) (by omega) (by omega) Y.1
      rw [eV_uH C off dear proved _ _ (by omega) (by omega), eV_uH C off dear proved _ _ (by omega) (by omega)] at a3 a4
      refine ⟨w', ?_, ?_, ?_, fun s => ?_, X.tr (Y.tr a5)⟩
      · simp only [c, not_true_eq_false, if_false]; exact a1
      · simp only [c, not_true_eq_false, false_implies, true_and, not_false_eq_true, true_implies]; exact a2
      · rw [f_X6_ticks_67]
        have q : upd (eV C off dear proved w) (16 + 7 * h + 5) (w (4 + h * 3 + 1) ||| M) 0 = w 0 := by rw [pu_n _ _ (by omega)]; rfl
        simp (disch := omega) only [pn_cl, c11, pn_le, show ¬ nH ≤ h by omega, if_false, f_X6_house, nI_add, pk_mul, eV_in0 C off dear proved w (show h < 4 by omega), c, not_true_eq_false, eV_h5 C off dear proved w (show h < 4 by omega), f_X6_ticks_112, q]
        rw [pu_n w _ (by omega)] at a3
        exact a3
      · rw [s_X6_ticks_67]
        have q : upd (eV C off dear proved w) (16 + 7 * h + 5) (w (4 + h * 3 + 1) ||| M) 0 = w 0 := by rw [pu_n _ _ (by omega)]; rfl
        simp (disch := omega) only [pn_cl, c11, pn_le, show ¬ nH ≤ h by omega, false_implies, true_and, not_false_eq_true, true_implies, f_X6_house, nI_add, pk_mul, eV_in0 C off dear proved w (show h < 4 by omega), c, not_true_eq_false, eV_h5 C off dear proved w (show h < 4 by omega), s_X6_ticks_112, pn_in, q]
        rw [pu_n w _ (by omega)] at a4
        exact a4 s
    · obtain ⟨w', a1, a2, a3, a4, a5⟩ := hear_h C off dear proved (F := F) (lg := lg) M k (h + 1) m m' w (by omega) (by omega) (by omega) R
      have e1 : f_X6_ticks_67 (m' + 1) (eV C off dear proved w) F lg M (nI h) = f_X6_ticks_118 (eV C off dear proved w') F lg ∧ (s_X6_ticks_118 (eV C off dear proved w') F lg → s_X6_ticks_67 (m' + 1) (eV C off dear proved w) F lg M (nI h)) := by
        rcases Nat.lt_or_ge h nH with hh | hh
        · rw [f_X6_ticks_67, s_X6_ticks_67]
          simp (disch := omega) only [pn_cl, c11, pn_le, show ¬ nH ≤ h by omega, if_false, false_implies, true_and, not_false_eq_true, true_implies, f_X6_house, nI_add, pk_mul, eV_in0 C off dear proved w (show h < 4 by omega), c, if_true, f_X6_ticks_112, s_X6_ticks_112, pn_in, Bool.false_eq_true, not_true_eq_false, and_true]
          exact ⟨a3, a4⟩
        · -- all further houses are not in: the class changes nothing more
          have stay : ∀ (k h n : Nat), h + k = 4 → 4 < n + h → nH ≤ h → f_X4_hearOfEnded_40 n w C M (nI h) = w := by
            intro k
            induction k with
            | zero =>
              intro h n h1 h2 h3
              obtain ⟨m, rfl⟩ : ∃ m, n = m + 1 := ⟨n - 1, by omega⟩
              rw [f_X4_hearOfEnded_40]
              exact if_pos (nI_le (by omega) (by omega))
            | succ k ih =>
              intro h n h1 h2 h3
              obtain ⟨m, rfl⟩ : ∃ m, n = m + 1 := ⟨n - 1, by omega⟩
              have f := R.2.2.2.2.2.2.2.2.1 h h3 (by omega)
              rw [f_X4_hearOfEnded_40]
              simp (disch := omega) only [pn_le, show ¬ 4 ≤ h by omega, if_false, isIn_eq, if10, f, Bool.false_eq_true, not_false_eq_true, if_true, f_X4_hearOfEnded_90, nI_add]
              exact ih (h + 1) m (by omega) (by omega) (by omega)
          have ew : w' = w := a1.symm.trans (stay k (h + 1) m (by omega) (by omega) (by omega))
          rw [ew, f_X6_ticks_67, s_X6_ticks_67]
          simp (disch := omega) only [pn_cl, c11, pn_le, hh, if_true, true_implies, not_true_eq_false, false_implies, and_true]
          exact ⟨trivial, id⟩
      refine ⟨w', ?_, ?_, e1.1, e1.2, a5⟩
      · simp only [c, Bool.false_eq_true, not_false_eq_true, if_true]; exact a1
      · simp only [c, Bool.false_eq_true, not_false_eq_true, true_implies, not_true_eq_false, false_implies, and_true]; exact a2
theorem WR_t {C w : Nat → Int32} {nH nN nF nL t : Nat} (R : WR C w nH nN nF nL t) (ht : t < 40000) : WR C (upd w 0 (nI (t + 1))) nH nN nF nL (t + 1) := by
  obtain ⟨r1, r2, r3, r4, r5, r6, r7, r8, r9, r10⟩ := R
  have e : ∀ i, i ≠ 0 → upd w 0 (nI (t + 1)) i = w i := fun i hi => pu_n _ _ hi
  refine ⟨r1, ⟨by rw [e _ (by omega)]; exact r2.1, r2.2⟩, ⟨by rw [e _ (by omega)]; exact r3.1, r3.2⟩, ⟨by rw [e _ (by omega)]; exact r4.1, r4.2⟩, ⟨pu_s _ _ _, by omega⟩, fun q hq => ?_, fun l hl => ?_, fun l m p q hlm hm hp hq => ?_, r9, r10⟩
  · rw [e _ (by omega), e _ (by omega)]; exact r6 q hq
  · rw [e _ (by omega), e _ (by omega), e _ (by omega), e _ (by omega), e _ (by omega), e _ (by omega)]
    obtain ⟨a, p, b, c⟩ := r7 l hl
    exact ⟨a, p, b, by omega⟩
  · rw [e _ (by omega)] at hp hq; exact r8 l m p q hlm hm hp hq
theorem fl_none {v : Nat → Int32} {nL t L : Nat} (h14 : v 14 = nI nL) (hL : nL ≤ 12) (h0 : v 0 = nI t) (ht : t ≤ 40000) (h9 : v 9 = nI L) (hL2 : L ≤ 100) : ∀ (n m : Nat), nL - m < n → m ≤ nL → (∀ l, m ≤ l → l < nL → ∃ p, v (443 + 7 * l + 6) = nI p ∧ p ≤ t ∧ t - p < L) → f_X6_firstLate_2 n v (nI m) = (-1) ∧ s_X6_firstLate_2 n v (nI m)
  | 0, m, h1, _, _ => by omega
  | n + 1, m, h1, h2, h3 => by
    rw [f_X6_firstLate_2, s_X6_firstLate_2]
    by_cases e : m = nL
    · subst e
      simp (disch := omega) only [pn_cl, h14, pn_le, Nat.le_refl, if_true, not_true_eq_false, false_implies, and_self]
    · obtain ⟨p, e1, e2, e3⟩ := h3 m (Nat.le_refl m) (by omega)
      have ih := fl_none h14 hL h0 ht h9 hL2 n (m + 1) (by omega) (by omega) (fun l a b => h3 l (by omega) b)
      simp (disch := omega) only [pn_cl, h14, pn_le, show ¬ nL ≤ m by omega, if_false, f_X6_letter, nI_add, pk_mul, e1, h0, h9, pn_sub, pn_lt, e3, if_true, pn_in, true_implies, true_and, not_false_eq_true]
      exact ih
theorem fl_zero {v : Nat → Int32} {nL t L p : Nat} (h14 : v 14 = nI nL) (hL : nL ≤ 12) (h0 : v 0 = nI t) (ht : t ≤ 40000) (h9 : v 9 = nI L) (hL2 : L ≤ 100) (hn : 0 < nL) (hp : v (443 + 7 * 0 + 6) = nI p) (hpt : p ≤ t) (hl : L ≤ t - p) : f_X6_firstLate v = nI 0 ∧ s_X6_firstLate v := by
  unfold f_X6_firstLate s_X6_firstLate
  rw [show ng_F = 1999 + 1 from rfl, f_X6_firstLate_2, s_X6_firstLate_2]
  simp (disch := omega) only [pn_cl, h14, pn_le, show ¬ nL ≤ 0 by omega, if_false, f_X6_letter, nI_add, pk_mul, hp, h0, h9, pn_sub, pn_lt, show ¬ t - p < L by omega, pn_in, false_implies, and_true, implies_true]
theorem pt_loop (C off dear proved : Nat → Int32) {d : Bool} {nH t L : Nat} (h5 : C 5 = nI L) (hL1 : 1 ≤ L) (hL2 : L ≤ 100) : ∀ (n0 i n m : Nat) (w Dg dw F lg : Nat → Int32) (nN nF nL B : Nat), 12 - i < n → n0 < m → n0 + i ≤ 12 → WR C w nH nN nF nL t → MD d Dg dw F lg nN B → B + n0 < 2 ^ 30 → LT w nL n0 t →
    ∃ w' Dg' dw' F' lg' : Nat → Int32, ∃ nN' nF' nL', f_X4_passTick_53 n w Dg dw C off dear proved d (nI i) = (w', Dg', dw') ∧ s_X4_passTick_53 n w Dg dw C off dear proved d (nI i) ∧ s_X6_firstLate (eV C off dear proved w) ∧ f_X6_ticks_123 m (eV C off dear proved w) F lg (f_X6_firstLate (eV C off dear proved w)) = (eV C off dear proved w', F', lg') ∧ s_X6_ticks_123 m (eV C off dear proved w) F lg (f_X6_firstLate (eV C off dear proved w)) ∧ WR C w' nH nN' nF' nL' t ∧ (HV w nH nN → HV w' nH nN') ∧ nN ≤ nN' ∧ MD d Dg' dw' F' lg' nN' (B + n0) ∧ KP d Dg dw F lg Dg' dw' F' lg' := by
  intro n0
  induction n0 with
  | zero =>
    intro i n m w Dg dw F lg nN nF nL B h1 h2 h3 R M hB H
    obtain ⟨n, rfl⟩ : ∃ k, n = k + 1 := ⟨n - 1, by omega⟩
    obtain ⟨m, rfl⟩ : ∃ k, m = k + 1 := ⟨m - 1, by omega⟩
    have h14 : eV C off dear proved w 14 = nI nL := R.2.2.2.1.1
    have h0 : eV C off dear proved w 0 = nI t := R.2.2.2.2.1.1
    have h9 : eV C off dear proved w 9 = nI L := h5
    have hL := R.2.2.2.1.2
    have ht := R.2.2.2.2.1.2
    have f := fl_none h14 hL h0 ht h9 hL2 ng_F 0 (by rw [ng_F_v]; omega) (by omega) (fun l _ b => ⟨t, by rw [eV_l C off dear proved w R.2.2.2.1.1 hL b (by omega)]; exact H l (by omega) b, Nat.le_refl t, by omega⟩)
    have fl : f_X6_firstLate (eV C off dear proved w) = (-1) := f.1
    refine ⟨w, Dg, dw, F, lg, nN, nF, nL, ?_, ?_, f.2, ?_, ?_, R, id, Nat.le_refl _, MD_up M (Nat.le_refl _) (by omega), KP.rf⟩
    · rw [f_X4_passTick_53]
      rcases Nat.lt_or_ge i 12 with c | c
      · rcases Nat.eq_zero_or_pos nL with z | z
        · simp (disch := omega) only [pn_cl, pn_le, show ¬ 12 ≤ i by omega, if_false, R.2.2.2.1.1, z, n00, if_true]
        · have q : w 64 = nI t := H 0 (by omega) z
          simp (disch := omega) only [pn_cl, pn_le, show ¬ 12 ≤ i by omega, if_false, R.2.2.2.1.1, pn_eq0, show ¬ nL = 0 by omega, q, R.2.2.2.2.1.1, pn_sub, h5, show ¬ L ≤ t - t by omega]
      · exact if_pos (nI_le c (by omega))
    · rw [s_X4_passTick_53]
      rcases Nat.lt_or_ge i 12 with c | c
      · rcases Nat.eq_zero_or_pos nL with z | z
        · simp (disch := omega) only [pn_cl, R.2.2.2.1.1, z, n00, not_true_eq_false, false_implies, implies_true]
        · have q : w 64 = nI t := H 0 (by omega) z
          simp (disch := omega) only [pn_cl, pn_le, q, R.2.2.2.2.1.1, pn_sub, h5, show ¬ L ≤ t - t by omega, false_implies, implies_true]
      · exact fun q => absurd (nI_le c (by omega)) q
    · rw [fl, f_X6_ticks_123]; exact if_pos (by decide)
    · rw [fl, s_X6_ticks_123]; exact fun q => absurd (by decide) q
  | succ n0 ih =>
    intro i n m w Dg dw F lg nN nF nL B h1 h2 h3 R M hB H
    obtain ⟨n, rfl⟩ : ∃ k, n = k + 1 := ⟨n - 1, by omega⟩
    obtain ⟨m, rfl⟩ : ∃ k, m = k + 1 := ⟨m - 1, by omega⟩
    have h14 : eV C off dear proved w 14 = nI nL := R.2.2.2.1.1
    have h0 : eV C off dear proved w 0 = nI t := R.2.2.2.2.1.1
    have h9 : eV C off dear proved w 9 = nI L := h5
    have hL := R.2.2.2.1.2
    have ht := R.2.2.2.2.1.2
    rcases Nat.eq_zero_or_pos nL with z | z
    · have f := fl_none h14 hL h0 ht h9 hL2 ng_F 0 (by rw [ng_F_v]; omega) (by omega) (fun l _ b => by omega)
      have fl : f_X6_firstLate (eV C off dear proved w) = (-1) := f.1
      refine ⟨w, Dg, dw, F, lg, nN, nF, nL, ?_, ?_, f.2, ?_, ?_, R, id, Nat.le_refl _, MD_up M (Nat.le_refl _) (by omega), KP.rf⟩
      · rw [f_X4_passTick_53]
        simp (disch := omega) only [pn_cl, pn_le, show ¬ 12 ≤ i by omega, if_false, R.2.2.2.1.1, z, n00, if_true]
      · rw [s_X4_passTick_53]
        simp (disch := omega) only [pn_cl, R.2.2.2.1.1, z, n00, not_true_eq_false, false_implies, implies_true]
      · rw [fl, f_X6_ticks_123]; exact if_pos (by decide)
      · rw [fl, s_X6_ticks_123]; exact fun q => absurd (by decide) q
    · obtain ⟨p, ep, hp⟩ := (R.2.2.2.2.2.2.1 0 z).2
      have e64 : w 64 = nI p := ep
      rcases Nat.lt_or_ge (t - p) L with c | c
      · -- none is late
        have f := fl_none h14 hL h0 ht h9 hL2 ng_F 0 (by rw [ng_F_v]; omega) (by omega) (fun l _ b => by
          obtain ⟨q, eq, hq⟩ := (R.2.2.2.2.2.2.1 l b).2
          have := R.2.2.2.2.2.2.2.1 0 l p q (by omega) b ep eq
          exact ⟨q, by rw [eV_l C off dear proved w R.2.2.2.1.1 hL b (by omega)]; exact eq, hq, by omega⟩)
        have fl : f_X6_firstLate (eV C off dear proved w) = (-1) := f.1
        refine ⟨w, Dg, dw, F, lg, nN, nF, nL, ?_, ?_, f.2, ?_, ?_, R, id, Nat.le_refl _, MD_up M (Nat.le_refl _) (by omega), KP.rf⟩
        · rw [f_X4_passTick_53]
          simp (disch := omega) only [pn_cl, pn_le, show ¬ 12 ≤ i by omega, if_false, R.2.2.2.1.1, pn_eq0, show ¬ nL = 0 by omega, e64, R.2.2.2.2.1.1, pn_sub, h5, show ¬ L ≤ t - p by omega]
        · rw [s_X4_passTick_53]
          simp (disch := omega) only [pn_cl, pn_le, e64, R.2.2.2.2.1.1, pn_sub, h5, show ¬ L ≤ t - p by omega, false_implies, implies_true]
        · rw [fl, f_X6_ticks_123]; exact if_pos (by decide)
        · rw [fl, s_X6_ticks_123]; exact fun q => absurd (by decide) q
      · have f := fl_zero h14 hL h0 ht h9 hL2 z (by rw [eV_l C off dear proved w R.2.2.2.1.1 hL z (by omega)]; exact ep) hp c
        obtain ⟨w1, Dg1, dw1, F1, lg1, a1, nN1, nF1, nL1, k1, k2, k3, k4, k5, k6, k7⟩ := come_st C off dear proved R M (by omega) z
        obtain ⟨w2, Dg2, dw2, F2, lg2, nN2, nF2, nL2, j1, j2, j3, j4, j5, j6, j7, j8, j9, j10⟩ := ih (i + 1) n m w1 Dg1 dw1 F1 lg1 nN1 nF1 nL1 (B + 1) (by omega) (by omega) (by omega) k5.1 k6 (by omega) (k5.2.2.2.2 n0 (LT_rem H (Or.inl (by omega))))
        refine ⟨w2, Dg2, dw2, F2, lg2, nN2, nF2, nL2, ?_, ?_, f.2, ?_, ?_, j6, fun h => j7 (k5.2.1 (HV_rem h hL)), by have := k5.2.2.1; omega, ?_, k7.tr j10⟩
        · rw [f_X4_passTick_53]
          simp (disch := omega) only [pn_cl, pn_le, show ¬ 12 ≤ i by omega, if_false, R.2.2.2.1.1, pn_eq0, show ¬ nL = 0 by omega, e64, R.2.2.2.2.1.1, pn_sub, h5, c, if_true, f_X4_passTick_98, k1, nI_add]
          exact j1
        · rw [s_X4_passTick_53]
          simp (disch := omega) only [pn_cl, pn_le, show ¬ 12 ≤ i by omega, R.2.2.2.1.1, pn_eq0, show ¬ nL = 0 by omega, e64, R.2.2.2.2.1.1, pn_sub, h5, c, s_X4_passTick_98, k1, k2, nI_add, true_and, not_false_eq_true, true_implies]
          exact j2
        · rw [f.1, f_X6_ticks_123]
          simp (disch := omega) only [pn_lt0, if_false, k3, f_X6_ticks_133]
          exact j4
        · rw [f.1, s_X6_ticks_123]
          simp (disch := omega) only [pn_lt0, k3, k4, s_X6_ticks_133, true_and, not_false_eq_true, true_implies]
          exact ⟨j3, j5⟩
        · exact MD_up j9 (Nat.le_refl _) (by omega)
