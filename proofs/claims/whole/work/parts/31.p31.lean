def cI (i : Nat) : Nat := if i < 16 then (if i = 12 then 1 else if i = 13 then 2 else if i = 14 then 3 else 0) else if i < 44 then (i - 16) / 7 * 3 + (i - 16) % 7 else if i < 59 then 15 + (i - 44) / 3 * 2 + (i - 44) % 3 else if i < 411 then 142 + (i - 59) else if i < 443 then 26 + (i - 411) else 58 + (i - 443)
section EU
variable (C off dear proved w : Nat → Int32)
theorem eV_cong {w' : Nat → Int32} (h1 : w' 1 = w 1) (h2 : w' 2 = w 2) (h3 : w' 3 = w 3) (i : Nat) (h : (i < 16 ∨ 44 ≤ i ∨ 4 ≤ (i - 16) % 7) → (i < 44 ∨ 59 ≤ i ∨ 1 ≤ (i - 44) % 3) → i < 527 → w' (cI i) = w (cI i)) : eV C off dear proved w' i = eV C off dear proved w i := by
  unfold eV
  by_cases a0 : i < 16
  · rw [if_pos a0, if_pos a0]
    have h0 := h (Or.inl a0) (Or.inl (by omega)) (by omega)
    unfold cI at h0
    rw [if_pos a0] at h0
    unfold eH
    by_cases b0 : i = 0
    · subst b0; exact h0
    · rw [if_neg b0, if_neg b0, h1, h2, h3]
  · rw [if_neg a0, if_neg a0]
    by_cases a1 : i < 44
    · rw [if_pos a1, if_pos a1]
      unfold eO
      by_cases q : 4 ≤ (i - 16) % 7
      · have h0 := h (Or.inr (Or.inr q)) (Or.inl a1) (by omega)
        unfold cI at h0
        rw [if_neg a0, if_pos a1] at h0
        rw [if_neg (by omega), if_neg (by omega), if_neg (by omega), if_neg (by omega), if_neg (by omega), if_neg (by omega), if_neg (by omega), if_neg (by omega)]
        exact h0
      · split
        · rfl
        · split
          · rfl
          · split
            · rfl
            · split
              · rfl
              · omega
    · rw [if_neg a1, if_neg a1]
      by_cases a2 : i < 59
      · rw [if_pos a2, if_pos a2]
        unfold eB
        split
        · rfl
        · have h0 := h (Or.inr (Or.inl (by omega))) (Or.inr (Or.inr (by omega))) (by omega)
          unfold cI at h0
          rw [if_neg a0, if_neg a1, if_pos a2] at h0
          exact h0
      · rw [if_neg a2, if_neg a2]
        by_cases a3 : i < 411
        · have h0 := h (Or.inr (Or.inl (by omega))) (Or.inr (Or.inl (by omega))) (by omega)
          unfold cI at h0
          rw [if_neg a0, if_neg a1, if_neg a2, if_pos a3] at h0
          rw [if_pos a3, if_pos a3, h1, h0]
        · rw [if_neg a3, if_neg a3]
          by_cases a4 : i < 443
          · have h0 := h (Or.inr (Or.inl (by omega))) (Or.inr (Or.inl (by omega))) (by omega)
            unfold cI at h0
            rw [if_neg a0, if_neg a1, if_neg a2, if_neg a3, if_pos a4] at h0
            rw [if_pos a4, if_pos a4, h2, h0]
          · rw [if_neg a4, if_neg a4]
            by_cases a5 : i < 527
            · have h0 := h (Or.inr (Or.inl (by omega))) (Or.inr (Or.inl (by omega))) a5
              unfold cI at h0
              rw [if_neg a0, if_neg a1, if_neg a2, if_neg a3, if_neg a4] at h0
              rw [if_pos a5, if_pos a5, h3, h0]
            · rw [if_neg a5, if_neg a5]
theorem cI_n {i x j : Nat} (hx : x < 32) (hj : j < 11) (h : cI i = 142 + x * 11 + j) (hi : i < 527) : i = 59 + 11 * x + j := by
  unfold cI at h
  split at h
  · split at h
    · omega
    · split at h
      · omega
      · split at h <;> omega
  · split at h
    · omega
    · split at h
      · omega
      · split at h
        · omega
        · split at h <;> omega
theorem cI_f {i x j : Nat} (hx : x < 16) (hj : j < 2) (h : cI i = 26 + x * 2 + j) (hi : i < 527) : i = 411 + 2 * x + j := by
  unfold cI at h
  split at h
  · split at h
    · omega
    · split at h
      · omega
      · split at h <;> omega
  · split at h
    · omega
    · split at h
      · omega
      · split at h
        · omega
        · split at h <;> omega
theorem cI_l {i x j : Nat} (hx : x < 12) (hj : j < 7) (h : cI i = 58 + x * 7 + j) (hi : i < 527) : i = 443 + 7 * x + j := by
  unfold cI at h
  split at h
  · split at h
    · omega
    · split at h
      · omega
      · split at h <;> omega
  · split at h
    · omega
    · split at h
      · omega
      · split at h
        · omega
        · split at h <;> omega
theorem cI_h {i x j : Nat} (hx : x < 4) (hj : j < 3) (h : cI i = 4 + x * 3 + j) (hi : i < 527) (hq : i < 16 ∨ 44 ≤ i ∨ 4 ≤ (i - 16) % 7) (hq2 : i < 44 ∨ 59 ≤ i ∨ 1 ≤ (i - 44) % 3) : i = 16 + 7 * x + (4 + j) := by
  unfold cI at h
  split at h
  · split at h
    · omega
    · split at h
      · omega
      · split at h <;> omega
  · split at h
    · omega
    · split at h
      · omega
      · split at h
        · omega
        · split at h <;> omega
theorem cI_b {i x j : Nat} (hx : x < 5) (hj : j < 2) (h : cI i = 16 + x * 2 + j) (hi : i < 527) (hq : i < 16 ∨ 44 ≤ i ∨ 4 ≤ (i - 16) % 7) (hq2 : i < 44 ∨ 59 ≤ i ∨ 1 ≤ (i - 44) % 3) : i = 44 + 3 * x + (1 + j) := by
  unfold cI at h
  split at h
  · split at h
    · omega
    · split at h
      · omega
      · split at h <;> omega
  · split at h
    · omega
    · split at h
      · omega
      · split at h
        · omega
        · split at h <;> omega
theorem eV_uN {n x j : Nat} (y : Int32) (hn : w 1 = nI n) (hm : n ≤ 32) (hx : x < n) (hj : j < 11) : eV C off dear proved (upd w (142 + x * 11 + j) y) = upd (eV C off dear proved w) (59 + 11 * x + j) y := by
  funext i
  by_cases e : i = 59 + 11 * x + j
  · subst e
    rw [pu_s, eV_n C off dear proved _ (n := n) (by rw [pu_n _ _ (by omega)]; exact hn) hm hx hj, pu_s]
  · rw [pu_n _ _ e]
    exact eV_cong C off dear proved w (pu_n _ _ (by omega)) (pu_n _ _ (by omega)) (pu_n _ _ (by omega)) i (fun _ _ hi => pu_n _ _ (fun q => e (cI_n (by omega) hj q hi)))
theorem eV_uF {n x j : Nat} (y : Int32) (hn : w 2 = nI n) (hm : n ≤ 16) (hx : x < n) (hj : j < 2) : eV C off dear proved (upd w (26 + x * 2 + j) y) = upd (eV C off dear proved w) (411 + 2 * x + j) y := by
  funext i
  by_cases e : i = 411 + 2 * x + j
  · subst e
    rw [pu_s, eV_f C off dear proved _ (n := n) (by rw [pu_n _ _ (by omega)]; exact hn) hm hx hj, pu_s]
  · rw [pu_n _ _ e]
    exact eV_cong C off dear proved w (pu_n _ _ (by omega)) (pu_n _ _ (by omega)) (pu_n _ _ (by omega)) i (fun _ _ hi => pu_n _ _ (fun q => e (cI_f (by omega) hj q hi)))
theorem eV_uL {n x j : Nat} (y : Int32) (hn : w 3 = nI n) (hm : n ≤ 12) (hx : x < n) (hj : j < 7) : eV C off dear proved (upd w (58 + x * 7 + j) y) = upd (eV C off dear proved w) (443 + 7 * x + j) y := by
  funext i
  by_cases e : i = 443 + 7 * x + j
  · subst e
    rw [pu_s, eV_l C off dear proved _ (n := n) (by rw [pu_n _ _ (by omega)]; exact hn) hm hx hj, pu_s]
  · rw [pu_n _ _ e]
    exact eV_cong C off dear proved w (pu_n _ _ (by omega)) (pu_n _ _ (by omega)) (pu_n _ _ (by omega)) i (fun _ _ hi => pu_n _ _ (fun q => e (cI_l (by omega) hj q hi)))
theorem eV_uH {h p : Nat} (y : Int32) (hh : h < 4) (hp : p < 3) : eV C off dear proved (upd w (4 + h * 3 + p) y) = upd (eV C off dear proved w) (16 + 7 * h + (4 + p)) y := by
  funext i
  by_cases e : i = 16 + 7 * h + (4 + p)
  · subst e
    rw [pu_s, eV_h C off dear proved _ hh (by omega)]
    unfold eO
    rw [if_neg (by omega), if_neg (by omega), if_neg (by omega), if_neg (by omega), show h * 3 + (4 + p) = 4 + h * 3 + p by omega, pu_s]
  · rw [pu_n _ _ e]
    exact eV_cong C off dear proved w (pu_n _ _ (by omega)) (pu_n _ _ (by omega)) (pu_n _ _ (by omega)) i (fun h1 h2 hi => pu_n _ _ (fun q => e (cI_h hh hp q hi h1 h2)))
theorem eV_uB {b p : Nat} (y : Int32) (hb : b < 5) (hp : p < 2) : eV C off dear proved (upd w (16 + b * 2 + p) y) = upd (eV C off dear proved w) (44 + 3 * b + (1 + p)) y := by
  funext i
  by_cases e : i = 44 + 3 * b + (1 + p)
  · subst e
    rw [pu_s, eV_b C off dear proved _ hb (by omega)]
    unfold eB
    rw [if_neg (by omega), show 15 + b * 2 + (1 + p) = 16 + b * 2 + p by omega, pu_s]
  · rw [pu_n _ _ e]
    exact eV_cong C off dear proved w (pu_n _ _ (by omega)) (pu_n _ _ (by omega)) (pu_n _ _ (by omega)) i (fun h1 h2 hi => pu_n _ _ (fun q => e (cI_b hb hp q hi h1 h2)))
theorem eV_u0 (y : Int32) : eV C off dear proved (upd w 0 y) = upd (eV C off dear proved w) 0 y := by
  funext i
  by_cases e : i = 0
  · subst e; rw [pu_s]; rfl
  · rw [pu_n _ _ e]
    by_cases a0 : i < 16
    · rw [eV_lo _ _ _ _ _ a0, eV_lo _ _ _ _ _ a0]
      unfold eH
      rw [if_neg e, if_neg e]
      rfl
    · refine eV_cong C off dear proved w (w' := upd w 0 y) (pu_n _ _ (by omega)) (pu_n _ _ (by omega)) (pu_n _ _ (by omega)) i (fun h1 h2 hi => pu_n _ _ (fun q => ?_))
      unfold cI at q
      rw [if_neg a0] at q
      split at q
      · omega
      · split at q
        · omega
        · split at q
          · omega
          · split at q <;> omega
end EU
