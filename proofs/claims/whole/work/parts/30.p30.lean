theorem pn_lt0 {n : Nat} (h : n < 2 ^ 31) : (nI n < 0) = False := by
  simp only [eq_iff_iff, iff_false]; exact nI_pos h
theorem pn_ge0 {n : Nat} (h : n < 2 ^ 31) : (0 ≤ nI n) = True := by
  simp only [eq_iff_iff, iff_true]; exact nI_pos' h
theorem pn_eq0 {n : Nat} (h : n < 2 ^ 31) : (nI n = 0) = (n = 0) := by
  rw [← nI_0]
  exact propext (nI_eq h (by decide))
theorem pn_le {a b : Nat} (ha : a < 2 ^ 31) (hb : b < 2 ^ 31) : (nI a ≤ nI b) = (a ≤ b) := propext (nI_leI ha hb)
theorem pn_lt {a b : Nat} (ha : a < 2 ^ 31) (hb : b < 2 ^ 31) : (nI a < nI b) = (a < b) := propext (nI_ltI ha hb)
theorem pn_eq {a b : Nat} (ha : a < 2 ^ 31) (hb : b < 2 ^ 31) : (nI a = nI b) = (a = b) := propext (nI_eq ha hb)
theorem pn_cl {n : Nat} (h : n < 2 ^ 31) : (nI n).toNatClampNeg = n := nI_clamp h
theorem pn_sub {a b : Nat} (h : b ≤ a) : nI a - nI b = nI (a - b) := pk_sub h
theorem pn_in {n N : Nat} (hN : N < 2 ^ 31) (h : n < N) : vp_in (nI n) N = True := by
  simp only [eq_iff_iff, iff_true]; exact vp_in_nI h hN
theorem pn_m1 : ((-1 : Int32) < 0) = True := by decide
theorem pn_m1c (n : Nat) (h : n < 2 ^ 31) : (nI n = (-1)) = False := by
  simp only [eq_iff_iff, iff_false]
  intro e
  have h1 : (nI n).toInt = (-1 : Int32).toInt := by rw [e]
  rw [nI_toInt h] at h1
  have : (-1 : Int32).toInt = -1 := rfl
  omega
theorem pu_s (f : Nat → Int32) (k : Nat) (x : Int32) : upd f k x k = x := pk_us
theorem pu_n (f : Nat → Int32) {k j : Nat} (x : Int32) (h : j ≠ k) : upd f k x j = f j := pk_un h
theorem pu_u (f : Nat → Int32) (k : Nat) (x y : Int32) : upd (upd f k x) k y = upd f k y := by
  funext j; unfold upd; split <;> rfl
theorem pu_c (f : Nat → Int32) {k j : Nat} (x y : Int32) (h : j ≠ k) : upd (upd f k x) j y = upd (upd f j y) k x := by
  funext i; unfold upd
  by_cases h1 : i = j
  · subst h1; simp [h]
  · simp [h1]
theorem pu_id (f : Nat → Int32) {k : Nat} {x : Int32} (h : f k = x) : upd f k x = f := by
  funext i; unfold upd; split
  · rename_i e; rw [e, h]
  · rfl
def bt1 (b : Int32) (h : Nat) : Int32 := if (b >>> (nI h &&& 31)) &&& nI 1 = nI 1 then nI 1 else nI 0
def eH (C w : Nat → Int32) (i : Nat) : Int32 :=
  if i = 0 then w 0 else if i = 1 then C 9 else if i = 2 then C 8 else if i = 3 then C 7 else if i < 11 then C (i - 4) else if i = 11 then C 10 else if i = 12 then w 1 else if i = 13 then w 2 else if i = 14 then w 3 else C 13
def eO (C off dear w : Nat → Int32) (h q : Nat) : Int32 :=
  if q = 0 then off h else if q = 1 then bt1 (C 12) h else if q = 2 then dear h else if q = 3 then bt1 (C 11) h else w (h * 3 + q)
def eB (proved w : Nat → Int32) (b q : Nat) : Int32 := if q = 0 then proved b else w (15 + b * 2 + q)
def eV (C off dear proved w : Nat → Int32) : Nat → Int32 := fun i =>
  if i < 16 then eH C w i
  else if i < 44 then eO C off dear w ((i - 16) / 7) ((i - 16) % 7)
  else if i < 59 then eB proved w ((i - 44) / 3) ((i - 44) % 3)
  else if i < 411 then (if (i - 59) / 11 < (w 1).toNatClampNeg then w (142 + (i - 59)) else 0)
  else if i < 443 then (if (i - 411) / 2 < (w 2).toNatClampNeg then w (26 + (i - 411)) else 0)
  else if i < 527 then (if (i - 443) / 7 < (w 3).toNatClampNeg then w (58 + (i - 443)) else 0)
  else 0
section EV
variable (C off dear proved w : Nat → Int32)
theorem eV_lo {i : Nat} (h : i < 16) : eV C off dear proved w i = eH C w i := by
  unfold eV; rw [if_pos h]
theorem eV_0 : eV C off dear proved w 0 = w 0 := rfl
theorem eV_1 : eV C off dear proved w 1 = C 9 := rfl
theorem eV_2 : eV C off dear proved w 2 = C 8 := rfl
theorem eV_3 : eV C off dear proved w 3 = C 7 := rfl
theorem eV_4 : eV C off dear proved w 4 = C 0 := rfl
theorem eV_5 : eV C off dear proved w 5 = C 1 := rfl
theorem eV_6 : eV C off dear proved w 6 = C 2 := rfl
theorem eV_7 : eV C off dear proved w 7 = C 3 := rfl
theorem eV_8 : eV C off dear proved w 8 = C 4 := rfl
theorem eV_9 : eV C off dear proved w 9 = C 5 := rfl
theorem eV_10 : eV C off dear proved w 10 = C 6 := rfl
theorem eV_11 : eV C off dear proved w 11 = C 10 := rfl
theorem eV_12 : eV C off dear proved w 12 = w 1 := rfl
theorem eV_13 : eV C off dear proved w 13 = w 2 := rfl
theorem eV_14 : eV C off dear proved w 14 = w 3 := rfl
theorem eV_15 : eV C off dear proved w 15 = C 13 := rfl
theorem eV_h {h q : Nat} (hh : h < 4) (hq : q < 7) : eV C off dear proved w (16 + 7 * h + q) = eO C off dear w h q := by
  unfold eV
  rw [if_neg (by omega), if_pos (by omega)]
  have e1 : (16 + 7 * h + q - 16) / 7 = h := by omega
  have e2 : (16 + 7 * h + q - 16) % 7 = q := by omega
  rw [e1, e2]
theorem eV_b {b q : Nat} (hb : b < 5) (hq : q < 3) : eV C off dear proved w (44 + 3 * b + q) = eB proved w b q := by
  unfold eV
  rw [if_neg (by omega), if_neg (by omega), if_pos (by omega)]
  have e1 : (44 + 3 * b + q - 44) / 3 = b := by omega
  have e2 : (44 + 3 * b + q - 44) % 3 = q := by omega
  rw [e1, e2]
theorem eV_n {n x j : Nat} (hn : w 1 = nI n) (hm : n ≤ 32) (hx : x < n) (hj : j < 11) : eV C off dear proved w (59 + 11 * x + j) = w (142 + x * 11 + j) := by
  unfold eV
  rw [if_neg (by omega), if_neg (by omega), if_neg (by omega), if_pos (by omega), hn, nI_clamp (by omega), if_pos (by omega)]
  exact congrArg w (by omega)
theorem eV_f {n x j : Nat} (hn : w 2 = nI n) (hm : n ≤ 16) (hx : x < n) (hj : j < 2) : eV C off dear proved w (411 + 2 * x + j) = w (26 + x * 2 + j) := by
  unfold eV
  rw [if_neg (by omega), if_neg (by omega), if_neg (by omega), if_neg (by omega), if_pos (by omega), hn, nI_clamp (by omega), if_pos (by omega)]
  exact congrArg w (by omega)
theorem eV_l {n x j : Nat} (hn : w 3 = nI n) (hm : n ≤ 12) (hx : x < n) (hj : j < 7) : eV C off dear proved w (443 + 7 * x + j) = w (58 + x * 7 + j) := by
  unfold eV
  rw [if_neg (by omega), if_neg (by omega), if_neg (by omega), if_neg (by omega), if_neg (by omega), if_pos (by omega), hn, nI_clamp (by omega), if_pos (by omega)]
  exact congrArg w (by omega)
theorem eV_big {i : Nat} (h : 527 ≤ i) : eV C off dear proved w i = 0 := by
  unfold eV
  rw [if_neg (by omega), if_neg (by omega), if_neg (by omega), if_neg (by omega), if_neg (by omega), if_neg (by omega)]
/-- two class states with one encoding -/
theorem eV_ext {C1 off1 dear1 proved1 w1 : Nat → Int32} {v : Nat → Int32} (h0 : ∀ i, i < 16 → eH C1 w1 i = v i) (h1 : ∀ h q, h < 4 → q < 7 → eO C1 off1 dear1 w1 h q = v (16 + 7 * h + q)) (h2 : ∀ b q, b < 5 → q < 3 → eB proved1 w1 b q = v (44 + 3 * b + q))
    (h3 : ∀ x j, x < 32 → j < 11 → (if x < (w1 1).toNatClampNeg then w1 (142 + x * 11 + j) else 0) = v (59 + 11 * x + j)) (h4 : ∀ x j, x < 16 → j < 2 → (if x < (w1 2).toNatClampNeg then w1 (26 + x * 2 + j) else 0) = v (411 + 2 * x + j)) (h5 : ∀ x j, x < 12 → j < 7 → (if x < (w1 3).toNatClampNeg then w1 (58 + x * 7 + j) else 0) = v (443 + 7 * x + j)) (h6 : ∀ i, 527 ≤ i → v i = 0) : eV C1 off1 dear1 proved1 w1 = v := by
  funext i
  unfold eV
  by_cases a0 : i < 16
  · rw [if_pos a0]; exact h0 i a0
  · rw [if_neg a0]
    by_cases a1 : i < 44
    · rw [if_pos a1, h1 _ _ (by omega) (by omega)]; congr 1; omega
    · rw [if_neg a1]
      by_cases a2 : i < 59
      · rw [if_pos a2, h2 _ _ (by omega) (by omega)]; congr 1; omega
      · rw [if_neg a2]
        by_cases a3 : i < 411
        · rw [if_pos a3]
          have := h3 ((i - 59) / 11) ((i - 59) % 11) (by omega) (by omega)
          have e1 : 142 + (i - 59) / 11 * 11 + (i - 59) % 11 = 142 + (i - 59) := by omega
          have e2 : 59 + 11 * ((i - 59) / 11) + (i - 59) % 11 = i := by omega
          rw [e1, e2] at this; exact this
        · rw [if_neg a3]
          by_cases a4 : i < 443
          · rw [if_pos a4]
            have := h4 ((i - 411) / 2) ((i - 411) % 2) (by omega) (by omega)
            have e1 : 26 + (i - 411) / 2 * 2 + (i - 411) % 2 = 26 + (i - 411) := by omega
            have e2 : 411 + 2 * ((i - 411) / 2) + (i - 411) % 2 = i := by omega
            rw [e1, e2] at this; exact this
          · rw [if_neg a4]
            by_cases a5 : i < 527
            · rw [if_pos a5]
              have := h5 ((i - 443) / 7) ((i - 443) % 7) (by omega) (by omega)
              have e1 : 58 + (i - 443) / 7 * 7 + (i - 443) % 7 = 58 + (i - 443) := by omega
              have e2 : 443 + 7 * ((i - 443) / 7) + (i - 443) % 7 = i := by omega
              rw [e1, e2] at this; exact this
            · rw [if_neg a5, h6 i (by omega)]
end EV
