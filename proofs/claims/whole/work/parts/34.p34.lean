def LV (nH nN nF : Nat) (fr to kd x y : Int32) : Prop :=
  ∃ a b k : Nat, fr = nI a ∧ a < 10 ∧ to = nI b ∧ b < 10 ∧ kd = nI k ∧
   ((k = 0 ∧ a < 5 ∧ ∃ h, h < nH ∧ x = nI h) ∨
    (k = 1 ∧ b < 5 + nH ∧ (∃ n, n < nN ∧ x = nI n) ∧ (y = (-1) ∨ (b < 5 ∧ ∃ n, n < nN ∧ y = nI n))) ∨
    (k = 2 ∧ 5 ≤ b ∧ b < 5 + nH ∧ ∃ n, n < nN ∧ x = nI n) ∨
    (k = 3 ∧ a < 5 ∧ ∃ n, n < nN ∧ x = nI n) ∨
    (k = 4 ∧ 5 ≤ a ∧ a < 5 + nH ∧ (∃ n, n < nN ∧ x = nI n) ∧ ∃ h, h < nH ∧ y = nI h) ∨
    (k = 5 ∧ 5 ≤ b ∧ b < 5 + nH ∧ ∃ f, f < nF ∧ x = nI f))
theorem LV.mono {nH nN nF nH' nN' nF' : Nat} {fr to kd x y : Int32} (h : LV nH nN nF fr to kd x y) (h1 : nH ≤ nH') (h2 : nN ≤ nN') (h3 : nF ≤ nF') : LV nH' nN' nF' fr to kd x y := by
  obtain ⟨a, b, k, e1, e2, e3, e4, e5, h⟩ := h
  refine ⟨a, b, k, e1, e2, e3, e4, e5, ?_⟩
  rcases h with ⟨q, q1, n, q2, q3⟩ | ⟨q, q1, ⟨n, q2, q3⟩, q4⟩ | ⟨q, q1, q2, n, q3, q4⟩ | ⟨q, q1, n, q2, q3⟩ | ⟨q, q1, q2, ⟨n, q3, q4⟩, m, q5, q6⟩ | ⟨q, q1, q2, n, q3, q4⟩
  · exact Or.inl ⟨q, q1, n, by omega, q3⟩
  · refine Or.inr (Or.inl ⟨q, by omega, ⟨n, by omega, q3⟩, ?_⟩)
    rcases q4 with q4 | ⟨q4, m, q5, q6⟩
    · exact Or.inl q4
    · exact Or.inr ⟨q4, m, by omega, q6⟩
  · exact Or.inr (Or.inr (Or.inl ⟨q, q1, by omega, n, by omega, q4⟩))
  · exact Or.inr (Or.inr (Or.inr (Or.inl ⟨q, q1, n, by omega, q3⟩)))
  · exact Or.inr (Or.inr (Or.inr (Or.inr (Or.inl ⟨q, q1, by omega, ⟨n, by omega, q4⟩, m, by omega, q6⟩))))
  · exact Or.inr (Or.inr (Or.inr (Or.inr (Or.inr ⟨q, q1, by omega, n, by omega, q4⟩))))
/-- the class's world is sound: counts nH nN nF nL, time t -/
def WR (C w : Nat → Int32) (nH nN nF nL t : Nat) : Prop :=
  (C 10 = nI nH ∧ nH ≤ 4) ∧ (w 1 = nI nN ∧ nN ≤ 32) ∧ (w 2 = nI nF ∧ nF ≤ 16) ∧ (w 3 = nI nL ∧ nL ≤ 12) ∧ (w 0 = nI t ∧ t ≤ 40000) ∧
  (∀ x, x < nN → (∃ h, h < nH ∧ w (142 + x * 11 + 2) = nI h) ∧ (∃ f, f < nF ∧ w (142 + x * 11 + 6) = nI f)) ∧
  (∀ l, l < nL → LV nH nN nF (w (58 + l * 7 + 0)) (w (58 + l * 7 + 1)) (w (58 + l * 7 + 2)) (w (58 + l * 7 + 3)) (w (58 + l * 7 + 4)) ∧ ∃ p, w (58 + l * 7 + 6) = nI p ∧ p ≤ t) ∧
  (∀ l m p q, l ≤ m → m < nL → w (58 + l * 7 + 6) = nI p → w (58 + m * 7 + 6) = nI q → p ≤ q ∨ 2 ^ 31 ≤ p ∨ 2 ^ 31 ≤ q) ∧
  (∀ h, nH ≤ h → h < 4 → bt (C 11) h = false) ∧ (C 9 = 0 ∨ C 9 = 1)
/-- a letter more: the class's side -/
def pL (w : Nat → Int32) (n : Nat) (g : Nat → Int32) : Nat → Int32 := upd (blk w (58 + n * 7) 7 g) 3 (nI (n + 1))
theorem blk_xL (C off dear proved w : Nat → Int32) {n : Nat} (hn : w 3 = nI n) (hm : n < 12) (g : Nat → Int32) : eV C off dear proved (blk w (58 + n * 7) 7 g) = eV C off dear proved w := by
  have h1 : ∀ k, k ≤ 7 → eV C off dear proved (blk w (58 + n * 7) k g) = eV C off dear proved w := by
    intro k
    induction k with
    | zero =>
      intro _
      have : blk w (58 + n * 7) 0 g = w := by funext i; exact blk_out (by omega)
      rw [this]
    | succ k ih =>
      intro hk
      have e : blk w (58 + n * 7) (k + 1) g = upd (blk w (58 + n * 7) k g) (58 + n * 7 + k) (g k) := by
        rw [blk_s]
        funext i
        unfold blk
        by_cases q : 58 + n * 7 ≤ i ∧ i < 58 + n * 7 + (k + 1)
        · rw [if_pos q, if_pos q]
          dsimp only
          by_cases q2 : i - (58 + n * 7) = k
          · rw [if_pos q2, q2]
          · rw [if_neg q2]
        · rw [if_neg q, if_neg q]
      rw [e, eV_xL C off dear proved _ (n := n) (g k) (by rw [blk_out (by omega)]; exact hn) (Nat.le_refl n) hm (by omega), ih (by omega)]
  exact h1 7 (Nat.le_refl 7)
theorem eV_pL (C off dear proved w : Nat → Int32) {n : Nat} (hn : w 3 = nI n) (hm : n < 12) (g : Nat → Int32) : eV C off dear proved (pL w n g) = upd (blk (eV C off dear proved w) (443 + 7 * n) 7 g) 14 (nI (n + 1)) := by
  unfold pL
  rw [eV_aL C off dear proved _ (by omega)]
  funext i
  by_cases e : i = 14
  · rw [if_pos e, e, pu_s]
  · rw [if_neg e, pu_n _ _ e, blk_xL C off dear proved w hn hm g]
    by_cases e2 : 443 ≤ i ∧ i < 527
    · rw [if_pos e2]
      by_cases e3 : i < 443 + 7 * (n + 1)
      · rw [if_pos e3]
        by_cases e4 : i < 443 + 7 * n
        · rw [blk_out (by omega), blk_out (by omega)]
          have := eV_l C off dear proved w hn (by omega) (x := (i - 443) / 7) (j := (i - 443) % 7) (by omega) (by omega)
          rw [show 443 + 7 * ((i - 443) / 7) + (i - 443) % 7 = i by omega, show 58 + (i - 443) / 7 * 7 + (i - 443) % 7 = 58 + (i - 443) by omega] at this
          exact this.symm
        · rw [blk_in (by omega) (by omega), blk_in (by omega) (by omega)]
          exact congrArg g (by omega)
      · rw [if_neg e3, blk_out (by omega)]
        have := eV_l0 C off dear proved w hn (x := (i - 443) / 7) (j := (i - 443) % 7) (by omega) (by omega) (by omega)
        rw [show 443 + 7 * ((i - 443) / 7) + (i - 443) % 7 = i by omega] at this
        exact this.symm
    · rw [if_neg e2, blk_out (by omega)]
def l7 (a0 a1 a2 a3 a4 a5 a6 : Int32) : Nat → Int32 := fun j => if j = 6 then a6 else if j = 5 then a5 else if j = 4 then a4 else if j = 3 then a3 else if j = 2 then a2 else if j = 1 then a1 else a0
theorem upd7 (f : Nat → Int32) (k : Nat) (a0 a1 a2 a3 a4 a5 a6 : Int32) : upd (upd (upd (upd (upd (upd (upd f k a0) (k + 1) a1) (k + 2) a2) (k + 3) a3) (k + 4) a4) (k + 5) a5) (k + 6) a6 = blk f k 7 (l7 a0 a1 a2 a3 a4 a5 a6) := by
  rw [blk_1 f k a0, blk_s, blk_s, blk_s, blk_s, blk_s, blk_s]
  rfl
/-- what the thief reads of a letter -/
def rdW (w : Nat → Int32) (k a b : Nat) (x y z : Int32) : Nat → Int32 :=
  if k = 5 then w else
  let w1 := if k = 0 then w else upd w (142 + x.toNatClampNeg * 11 + 10) (w (142 + x.toNatClampNeg * 11 + 10) ||| nI 16)
  let w2 := if k = 1 ∧ ¬ y = (-1) then upd w1 (142 + y.toNatClampNeg * 11 + 10) (w1 (142 + y.toNatClampNeg * 11 + 10) ||| nI 16) else w1
  if (if k = 1 then b else if k = 0 ∨ k = 3 then a else 9) < 4 then upd w2 (16 + (if k = 1 then b else if k = 0 ∨ k = 3 then a else 9) * 2 + 1) z else w2
def rdV (v : Nat → Int32) (k a b : Nat) (x y z : Int32) : Nat → Int32 :=
  if k = 5 then v else
  let v1 := if k = 0 then v else upd v (59 + 11 * x.toNatClampNeg + 10) (v (59 + 11 * x.toNatClampNeg + 10) ||| nI 16)
  let v2 := if k = 1 ∧ ¬ y = (-1) then upd v1 (59 + 11 * y.toNatClampNeg + 10) (v1 (59 + 11 * y.toNatClampNeg + 10) ||| nI 16) else v1
  if (if k = 1 then b else if k = 0 ∨ k = 3 then a else 9) < 4 then upd v2 (44 + 3 * (if k = 1 then b else if k = 0 ∨ k = 3 then a else 9) + 2) z else v2
def postW (C w : Nat → Int32) (n k a b : Nat) (x y z : Int32) : Nat → Int32 :=
  if n = 12 then w else if bt (C 8) a = true ∨ bt (C 8) b = true then rdW (pL w n (l7 (nI a) (nI b) (nI k) x y z (w 0))) k a b x y z else pL w n (l7 (nI a) (nI b) (nI k) x y z (w 0))
theorem pL_lo {w g : Nat → Int32} {n i : Nat} (h : i < 58 ∨ 142 ≤ i) (hn : n < 12) (h3 : i ≠ 3) : pL w n g i = w i := by
  unfold pL; rw [pu_n _ _ h3, blk_out (by omega)]
set_option maxRecDepth 4000 in
theorem postW_eq {C w Dg : Nat → Int32} {d : Bool} {nH nN nF n k a b : Nat} {x y z : Int32} (h1 : w 1 = nI nN) (hN : nN ≤ 32) (h3 : w 3 = nI n) (hn : n ≤ 12) (V : LV nH nN nF (nI a) (nI b) (nI k) x y) (ha : a < 10) (hb : b < 10) (hk : k < 6) :
    f_X4_post w Dg C d (nI a) (nI b) (nI k) x y z = (postW C w n k a b x y z, if n = 12 then (if d = true then upd Dg 3 (Dg 3 + nI 1) else Dg) else Dg) := by
  obtain ⟨a', b', k', e1, e2, e3, e4, e5, V⟩ := V
  rw [pn_eq (by omega) (by omega)] at e1 e3
  subst e1; subst e3
  have ek : k = k' := by
    have : k' < 6 := by rcases V with q | q | q | q | q | q <;> omega
    rwa [pn_eq (by omega) (by omega)] at e5
  subst ek
  unfold f_X4_post postW
  by_cases hf : n = 12
  · subst hf
    simp (disch := omega) only [pn_cl, h3, pn_lt0, if_false, pn_lt, Nat.lt_irrefl, f_X4_post_20, if_true]
    cases d <;> simp
  · have hn2 : n < 12 := by omega
    simp (disch := omega) only [pn_cl, h3, pn_lt0, if_false, pn_lt, hn2, if_true, hf, nI_add, pk_mul, tap_c]
    rw [show ∀ (f : Nat → Int32) (p q r u v x0 : Int32), upd (upd (upd (upd (upd (upd f (58 + n * 7) p) (58 + n * 7 + 1) q) (58 + n * 7 + 2) r) (58 + n * 7 + 3) u) (58 + n * 7 + 4) v) (58 + n * 7 + 5) x0 0 = f 0 from fun f p q r u v x0 => by rw [pu_n _ _ (by omega), pu_n _ _ (by omega), pu_n _ _ (by omega), pu_n _ _ (by omega), pu_n _ _ (by omega), pu_n _ _ (by omega)]]
    rw [upd7]
    unfold f_X4_post_128
    simp (disch := omega) only [pn_cl, nI_add, tap_c]
    rw [← pL]
    generalize hu : pL w n (l7 (nI a) (nI b) (nI k) x y z (w 0)) = u
    have u1 : u 1 = nI nN := by rw [← hu, pL_lo (by omega) hn2 (by omega)]; exact h1
    by_cases ht : bt (C 8) a = true ∨ bt (C 8) b = true
    · rw [if_pos ht, if_pos ht]
      have t1 : ∀ (f : Nat → Int32) (i : Nat) (y : Int32), i ≠ 1 → upd f i y 1 = f 1 := fun f i y h => pu_n _ _ (fun q => h q.symm)
      rcases V with ⟨rfl, q1, h, q2, rfl⟩ | ⟨rfl, q1, ⟨m, q2, rfl⟩, q4⟩ | ⟨rfl, q1, q2, m, q3, rfl⟩ | ⟨rfl, q1, m, q2, rfl⟩ | ⟨rfl, q1, q2, ⟨m, q3, rfl⟩, h, q4, rfl⟩ | ⟨rfl, q1, q2, m, q3, rfl⟩
      · simp (disch := omega) [f_X4_post_168, f_X4_post_234, f_X4_post_280, f_X4_post_294, f_X4_post_299, f_X4_post_311, rdW, u1, pn_eq, pn_eq0, pn_lt0, pn_le, pn_lt, pn_cl, nI_add, pk_mul]
        by_cases z4 : 4 ≤ a
        · simp [z4, Nat.not_lt.mpr z4]
        · simp [z4, Nat.lt_of_not_le z4]
      · rcases q4 with rfl | ⟨q4, m2, q5, rfl⟩
        · simp (disch := omega) [f_X4_post_168, f_X4_post_234, f_X4_post_280, f_X4_post_294, f_X4_post_299, f_X4_post_311, rdW, u1, t1, pn_eq, pn_eq0, pn_lt0, pn_le, pn_lt, pn_cl, nI_add, pk_mul, pn_m1]
          by_cases z4 : 4 ≤ b
          · simp [z4, Nat.not_lt.mpr z4, Nat.not_le.mpr q2, show ¬ 32 ≤ m by omega]
          · simp [z4, Nat.lt_of_not_le z4, Nat.not_le.mpr q2, show ¬ 32 ≤ m by omega]
        · simp (disch := omega) [f_X4_post_168, f_X4_post_234, f_X4_post_280, f_X4_post_294, f_X4_post_299, f_X4_post_311, rdW, u1, t1, pn_eq, pn_eq0, pn_lt0, pn_le, pn_lt, pn_cl, nI_add, pk_mul, pn_m1c]
          by_cases z4 : 4 ≤ b
          · simp [z4, Nat.not_lt.mpr z4, Nat.not_le.mpr q2, show ¬ 32 ≤ m by omega, Nat.not_le.mpr q5, show ¬ 32 ≤ m2 by omega]
          · simp [z4, Nat.lt_of_not_le z4, Nat.not_le.mpr q2, show ¬ 32 ≤ m by omega, Nat.not_le.mpr q5, show ¬ 32 ≤ m2 by omega]
      · simp (disch := omega) [f_X4_post_168, f_X4_post_234, f_X4_post_280, f_X4_post_294, f_X4_post_299, f_X4_post_311, rdW, u1, t1, pn_eq, pn_eq0, pn_lt0, pn_le, pn_lt, pn_cl, nI_add, pk_mul, Nat.not_le.mpr q3, show ¬ 32 ≤ m by omega]
      · simp (disch := omega) [f_X4_post_168, f_X4_post_234, f_X4_post_280, f_X4_post_294, f_X4_post_299, f_X4_post_311, rdW, u1, t1, pn_eq, pn_eq0, pn_lt0, pn_le, pn_lt, pn_cl, nI_add, pk_mul, Nat.not_le.mpr q2, show ¬ 32 ≤ m by omega]
        by_cases z4 : 4 ≤ a
        · simp [z4, Nat.not_lt.mpr z4]
        · simp [z4, Nat.lt_of_not_le z4]
      · simp (disch := omega) [f_X4_post_168, f_X4_post_234, f_X4_post_280, f_X4_post_294, f_X4_post_299, f_X4_post_311, rdW, u1, t1, pn_eq, pn_eq0, pn_lt0, pn_le, pn_lt, pn_cl, nI_add, pk_mul, Nat.not_le.mpr q3, show ¬ 32 ≤ m by omega]
      · simp (disch := omega) [f_X4_post_168, rdW, pn_eq, pn_eq0]
    · rw [if_neg ht, if_neg ht]
      unfold f_X4_post_168
      rw [if_pos nI_0]
