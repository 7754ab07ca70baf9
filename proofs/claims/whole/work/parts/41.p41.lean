def n11 (a0 a1 a2 a3 a4 a5 a6 a7 a8 a9 a10 : Int32) : Nat → Int32 := fun j => if j = 10 then a10 else if j = 9 then a9 else if j = 8 then a8 else if j = 7 then a7 else if j = 6 then a6 else if j = 5 then a5 else if j = 4 then a4 else if j = 3 then a3 else if j = 2 then a2 else if j = 1 then a1 else a0
theorem upd11 (f : Nat → Int32) (k : Nat) (a0 a1 a2 a3 a4 a5 a6 a7 a8 a9 a10 : Int32) : upd (upd (upd (upd (upd (upd (upd (upd (upd (upd (upd f (k + 0) a0) (k + 1) a1) (k + 2) a2) (k + 3) a3) (k + 4) a4) (k + 5) a5) (k + 6) a6) (k + 7) a7) (k + 8) a8) (k + 9) a9) (k + 10) a10 = blk f k 11 (n11 a0 a1 a2 a3 a4 a5 a6 a7 a8 a9 a10) := by
  rw [Nat.add_zero, blk_1 f k a0, blk_s, blk_s, blk_s, blk_s, blk_s, blk_s, blk_s, blk_s, blk_s, blk_s]
  rfl
def aW (w : Nat → Int32) (n : Nat) (g : Nat → Int32) : Nat → Int32 := upd (blk w (142 + n * 11) 11 g) 1 (nI (n + 1))
def aV (v : Nat → Int32) (n : Nat) (g : Nat → Int32) : Nat → Int32 := upd (blk v (59 + 11 * n) 11 g) 12 (nI (n + 1))
theorem blk_xN (C off dear proved w : Nat → Int32) {n : Nat} (hn : w 1 = nI n) (hm : n < 32) (g : Nat → Int32) : eV C off dear proved (blk w (142 + n * 11) 11 g) = eV C off dear proved w := by
  have h1 : ∀ k, k ≤ 11 → eV C off dear proved (blk w (142 + n * 11) k g) = eV C off dear proved w := by
    intro k
    induction k with
    | zero =>
      intro _
      have : blk w (142 + n * 11) 0 g = w := by funext i; exact blk_out (by omega)
      rw [this]
    | succ k ih =>
      intro hk
      have e : blk w (142 + n * 11) (k + 1) g = upd (blk w (142 + n * 11) k g) (142 + n * 11 + k) (g k) := by
        rw [blk_s]
        funext i
        unfold blk
        by_cases q : 142 + n * 11 ≤ i ∧ i < 142 + n * 11 + (k + 1)
        · rw [if_pos q, if_pos q]
          dsimp only
          by_cases q2 : i - (142 + n * 11) = k
          · rw [if_pos q2, q2]
          · rw [if_neg q2]
        · rw [if_neg q, if_neg q]
      rw [e, eV_xN C off dear proved _ (n := n) (g k) (by rw [blk_out (by omega)]; exact hn) (Nat.le_refl n) hm (by omega), ih (by omega)]
  exact h1 11 (Nat.le_refl 11)
theorem eV_aW (C off dear proved w : Nat → Int32) {n : Nat} (hn : w 1 = nI n) (hm : n < 32) (g : Nat → Int32) : eV C off dear proved (aW w n g) = aV (eV C off dear proved w) n g := by
  unfold aW aV
  rw [eV_aN C off dear proved _ (n := n) (by rw [blk_out (by omega)]; exact hn) hm, blk_xN C off dear proved w hn hm g]
  funext i
  by_cases e : i = 12
  · rw [if_pos e, e, pu_s]
  · rw [if_neg e, pu_n _ _ e]
    by_cases e2 : 59 + 11 * n ≤ i ∧ i < 59 + 11 * n + 11
    · rw [if_pos e2, blk_in (by omega) (by omega), blk_in (by omega) (by omega)]
      exact congrArg g (by omega)
    · rw [if_neg e2, blk_out (by omega)]
theorem aW_at {w g : Nat → Int32} {n i : Nat} (h : i ≠ 1) (h2 : i < 142 + n * 11) : aW w n g i = w i := by
  unfold aW; rw [pu_n _ _ h, blk_out (by omega)]
theorem aW_1 {w g : Nat → Int32} {n : Nat} : aW w n g 1 = nI (n + 1) := pu_s _ _ _
theorem aW_new {w g : Nat → Int32} {n j : Nat} (hj : j < 11) : aW w n g (142 + n * 11 + j) = g j := by
  unfold aW; rw [pu_n _ _ (by omega), blk_in (by omega) (by omega)]; exact congrArg g (by omega)
set_option maxRecDepth 4000 in
theorem add_eq {w : Nat → Int32} {n x : Nat} {kd till : Int32} (hn : w 1 = nI n) (hm : n < 32) (hx : x ≤ n) : f_X4_addNoteLike w (nI x) kd till = (aW w n (n11 kd (w (142 + x * 11 + 1)) (w (142 + x * 11 + 2)) (w (142 + x * 11 + 3)) (w 0) till (w (142 + x * 11 + 6)) (w (142 + x * 11 + 7)) (-1) (nI 0) (nI 0)), nI n) ∧ s_X4_addNoteLike w (nI x) kd till := by
  constructor
  · simp (disch := omega) only [f_X4_addNoteLike_182, f_X4_addNoteLike_99, f_X4_addNoteLike, pn_cl, hn, pn_lt0, pn_le, pn_lt, show ¬ 32 ≤ n by omega, show x < 32 by omega, if_false, if_true, nI_add, pk_mul]
    simp (disch := omega) only [pu_n]
    rw [upd11]
    rfl
  · simp (disch := omega) only [s_X4_addNoteLike_182, s_X4_addNoteLike_99, s_X4_addNoteLike, pn_cl, hn, pn_lt0, pn_le, pn_lt, show ¬ 32 ≤ n by omega, show x < 32 by omega, nI_add, pk_mul, pn_in, not_false_eq_true, true_implies, and_true]
set_option maxRecDepth 4000 in
theorem given_eq {v : Nat → Int32} {n : Nat} {kd p h r till f pr fr : Int32} (hn : v 12 = nI n) (hm : n < 32) : f_X6_given v kd p h r till f pr fr = (aV v n (n11 kd p h r (v 0) till f pr fr (nI 0) (nI 0)), nI n) ∧ s_X6_given v kd p h r till f pr fr := by
  constructor
  · simp (disch := omega) only [f_X6_given_60, f_X6_given, f_X6_note, pn_cl, hn, nI_add, pk_mul]
    simp (disch := omega) only [pu_n]
    rw [upd11, hn, nI_add]
    rfl
  · simp (disch := omega) only [s_X6_given_60, s_X6_given, s_X6_note, f_X6_note, pn_cl, hn, nI_add, pk_mul, pn_in, and_true]
