theorem ng_F_v : ng_F = 2000 := rfl
theorem rem35 : ∀ (n k : Nat) (w : Nat → Int32), 527 - k < n → 14 < k → k ≤ 527 → f_X6_removes_35 n w (nI k) = upd (fun i => if k ≤ i ∧ i < 527 then 0 else w i) 14 (w 14 - nI 1) ∧ s_X6_removes_35 n w (nI k)
  | 0, k, w, h, _, _ => by omega
  | n + 1, k, w, h, h1, h2 => by
    rw [f_X6_removes_35, s_X6_removes_35]
    by_cases e : k = 527
    · subst e
      simp (disch := omega) only [pn_le, pn_cl, Nat.le_refl, if_true]
      refine ⟨?_, fun q => absurd trivial q⟩
      congr 1
      funext i
      rw [if_neg (by omega)]
    · have hk : k < 527 := by omega
      have ih := rem35 n (k + 1) (upd w k (nI 0)) (by omega) (by omega) (by omega)
      simp (disch := omega) only [pn_le, pn_cl, show ¬ 527 ≤ k by omega, if_false, nI_add, pn_in]
      refine ⟨?_, fun _ => ⟨trivial, ih.2⟩⟩
      rw [ih.1, pu_n _ _ (by omega)]
      congr 1
      funext i
      by_cases q : i = k
      · subst q
        rw [if_neg (by omega), if_pos (by omega), pu_s]; rfl
      · rw [pu_n _ _ q]
        by_cases q2 : k ≤ i ∧ i < 527
        · rw [if_pos q2, if_pos (by omega)]
        · rw [if_neg q2, if_neg (by omega)]
theorem rem5 : ∀ (n k : Nat) (w : Nat → Int32), 520 - k < n → k ≤ 520 → f_X6_removes_5 n w (nI k) = f_X6_removes_35 ng_F (fun i => if k ≤ i ∧ i < 520 then w (i + 7) else w i) (nI 520) ∧ (s_X6_removes_35 ng_F (fun i => if k ≤ i ∧ i < 520 then w (i + 7) else w i) (nI 520) → s_X6_removes_5 n w (nI k))
  | 0, k, w, h, _ => by omega
  | n + 1, k, w, h, h2 => by
    rw [f_X6_removes_5, s_X6_removes_5]
    have el : f_X6_letter (nI 11) = nI 520 := by decide
    rw [el]
    by_cases e : k = 520
    · subst e
      have e2 : (fun i => if 520 ≤ i ∧ i < 520 then w (i + 7) else w i) = w := by
        funext i; rw [if_neg (by omega)]
      rw [e2]
      simp (disch := omega) only [pn_le, Nat.le_refl, if_true]
      exact ⟨trivial, fun h => ⟨fun _ => h, fun q => absurd trivial q⟩⟩
    · have ih := rem5 n (k + 1) (upd w k (w (k + 7))) (by omega) (by omega)
      have e2 : (fun i => if k + 1 ≤ i ∧ i < 520 then upd w k (w (k + 7)) (i + 7) else upd w k (w (k + 7)) i) = (fun i => if k ≤ i ∧ i < 520 then w (i + 7) else w i) := by
        funext i
        by_cases q : i = k
        · subst q
          rw [if_neg (by omega), if_pos (by omega), pu_s]
        · by_cases q2 : k ≤ i ∧ i < 520
          · rw [if_pos q2, if_pos (by omega), pu_n _ _ (by omega)]
          · rw [if_neg q2, if_neg (by omega), pu_n _ _ q]
      rw [e2] at ih
      simp (disch := omega) only [pn_le, pn_cl, show ¬ 520 ≤ k by omega, if_false, nI_add, pn_in]
      exact ⟨ih.1, fun h => ⟨fun q => absurd q id, fun _ => ⟨trivial, trivial, ih.2 h⟩⟩⟩
def remV (v : Nat → Int32) (n l : Nat) : Nat → Int32 := fun i => if i = 14 then nI (n - 1) else if 443 + 7 * l ≤ i ∧ i < 520 then v (i + 7) else if 520 ≤ i ∧ i < 527 then 0 else v i
theorem remV_eq {v : Nat → Int32} {n l : Nat} (h : v 14 = nI n) (hl : l < n) (hn : n ≤ 12) : f_X6_removes v (nI l) = remV v n l ∧ s_X6_removes v (nI l) := by
  unfold f_X6_removes s_X6_removes f_X6_letter
  simp (disch := omega) only [nI_add, pk_mul]
  have a := rem5 ng_F (443 + 7 * l) v (by rw [ng_F_v]; omega) (by omega)
  have b := rem35 ng_F 520 (fun i => if 443 + 7 * l ≤ i ∧ i < 520 then v (i + 7) else v i) (by rw [ng_F_v]; omega) (by omega) (by omega)
  refine ⟨?_, a.2 b.2⟩
  rw [a.1, b.1]
  unfold remV
  funext i
  by_cases e : i = 14
  · rw [if_pos e, e, pu_s, if_neg (by omega), h, pn_sub (by omega)]
  · rw [if_neg e, pu_n _ _ e]
    by_cases q : 520 ≤ i ∧ i < 527
    · rw [if_pos q, if_neg (by omega), if_pos q]
    · rw [if_neg q, if_neg q]
def remW (w : Nat → Int32) (n l : Nat) : Nat → Int32 := fun i => if i = 3 then nI (n - 1) else if 58 + l * 7 ≤ i ∧ i < 58 + (n - 1) * 7 then w (i + 7) else w i
theorem remW_eq {w : Nat → Int32} {n l : Nat} (h : w 3 = nI n) (hl : l < n) (hn : n ≤ 12) : f_X4_takeOut w (nI l) = remW w n l ∧ s_X4_takeOut w (nI l) := by
  have e0 : f_X4_isLetter w (nI l) = nI 1 := by
    unfold f_X4_isLetter
    simp (disch := omega) only [pn_cl, h, pn_lt0, pn_le, show ¬ n ≤ l by omega, show ¬ 12 ≤ l by omega, if_false]
  unfold f_X4_takeOut s_X4_takeOut
  rw [e0, if_neg n1z]
  simp (disch := omega) only [pn_cl, h, nI_add, pk_mul, pn_sub, pn_lt0]
  refine ⟨?_, fun _ => ⟨id, id, id, by omega, by omega⟩⟩
  unfold remW
  funext i
  by_cases e : i = 3
  · rw [if_pos e, e, pu_s, pk_cpy_out (by omega), h, pn_sub (by omega)]
  · rw [if_neg e, pu_n _ _ e]
    by_cases q : 58 + l * 7 ≤ i ∧ i < 58 + (n - 1) * 7
    · rw [if_pos q, pk_cpy_in (by omega) (by omega)]
      exact congrArg w (by omega)
    · rw [if_neg q, pk_cpy_out (by omega)]
theorem eV_rem (C off dear proved w : Nat → Int32) {n l : Nat} (h : w 3 = nI n) (hl : l < n) (hn : n ≤ 12) : eV C off dear proved (remW w n l) = remV (eV C off dear proved w) n l := by
  have e1 : remW w n l = upd (fun i => if 58 + l * 7 ≤ i ∧ i < 58 + (n - 1) * 7 then w (i + 7) else w i) 3 (nI (n - 1)) := by
    funext i
    unfold remW
    by_cases e : i = 3
    · rw [if_pos e, e, pu_s]
    · rw [if_neg e, pu_n _ _ e]
  rw [e1, eV_aL C off dear proved _ (by omega)]
  funext i
  unfold remV
  by_cases e : i = 14
  · rw [if_pos e, if_pos e]
  · rw [if_neg e, if_neg e]
    by_cases e2 : 443 ≤ i ∧ i < 527
    · rw [if_pos e2]
      have key : ∀ j, 443 ≤ j → j < 527 → eV C off dear proved w j = if j < 443 + 7 * n then w (58 + (j - 443)) else 0 := by
        intro j h1 h2
        by_cases q : j < 443 + 7 * n
        · rw [if_pos q]
          have := eV_l C off dear proved w h hn (x := (j - 443) / 7) (j := (j - 443) % 7) (by omega) (by omega)
          rw [show 443 + 7 * ((j - 443) / 7) + (j - 443) % 7 = j by omega, show 58 + (j - 443) / 7 * 7 + (j - 443) % 7 = 58 + (j - 443) by omega] at this
          exact this
        · rw [if_neg q]
          have := eV_l0 C off dear proved w h (x := (j - 443) / 7) (j := (j - 443) % 7) (by omega) (by omega) (by omega)
          rw [show 443 + 7 * ((j - 443) / 7) + (j - 443) % 7 = j by omega] at this
          exact this
      by_cases q1 : 443 + 7 * l ≤ i ∧ i < 520
      · rw [if_pos q1, key (i + 7) (by omega) (by omega)]
        by_cases q2 : i < 443 + 7 * (n - 1)
        · rw [if_pos q2, if_pos (by omega), if_pos (by omega)]
          exact congrArg w (by omega)
        · rw [if_neg q2, if_neg (by omega)]
      · rw [if_neg q1]
        by_cases q3 : 520 ≤ i ∧ i < 527
        · rw [if_pos q3, if_neg (by omega)]
        · rw [if_neg q3, if_pos (by omega), if_neg (by omega), key i (by omega) (by omega), if_pos (by omega)]
    · rw [if_neg e2, if_neg (by omega), if_neg (by omega)]
      refine eV_cong C off dear proved w (if_neg (by omega)) (if_neg (by omega)) (if_neg (by omega)) i (fun a b hi => if_neg ?_)
      unfold cI
      split
      · split
        · omega
        · split
          · omega
          · first | omega | (split <;> omega)
      · split
        · omega
        · split
          · omega
          · split
            · omega
            · first | omega | (split <;> omega)
theorem remW_at {w : Nat → Int32} {n l i : Nat} (h : i ≠ 3) (h2 : i < 58 + l * 7 ∨ 142 ≤ i) (hn : n ≤ 12) : remW w n l i = w i := by
  unfold remW; rw [if_neg h, if_neg (by omega)]
theorem remW_l {w : Nat → Int32} {n l m j : Nat} (hm : m < n - 1) (hj : j < 7) : remW w n l (58 + m * 7 + j) = w (58 + (if m < l then m else m + 1) * 7 + j) := by
  unfold remW
  rw [if_neg (by omega)]
  by_cases q : m < l
  · rw [if_neg (by omega), if_pos q]
  · rw [if_pos (by omega), if_neg q]; exact congrArg w (by omega)
theorem WR_rem {C w : Nat → Int32} {nH nN nF nL t l : Nat} (R : WR C w nH nN nF nL t) (hl : l < nL) : WR C (remW w nL l) nH nN nF (nL - 1) t := by
  obtain ⟨r1, r2, r3, r4, r5, r6, r7, r8, r9, r10⟩ := R
  have hn := r4.2
  refine ⟨r1, ⟨by rw [remW_at (by omega) (by omega) hn]; exact r2.1, r2.2⟩, ⟨by rw [remW_at (by omega) (by omega) hn]; exact r3.1, r3.2⟩, ⟨by unfold remW; rw [if_pos rfl], by omega⟩, ⟨by rw [remW_at (by omega) (by omega) hn]; exact r5.1, r5.2⟩, fun q hq => ?_, fun m hm => ?_, fun m m2 p q hmm hm hp hq => ?_, r9, r10⟩
  · rw [remW_at (by omega) (by omega) hn, remW_at (by omega) (by omega) hn]
    exact r6 q hq
  · rw [remW_l hm (by omega), remW_l hm (by omega), remW_l hm (by omega), remW_l hm (by omega), remW_l hm (by omega), remW_l hm (by omega)]
    exact r7 _ (by split <;> omega)
  · rw [remW_l (by omega) (by omega)] at hp hq
    exact r8 _ _ p q (by split <;> split <;> omega) (by split <;> omega) hp hq
