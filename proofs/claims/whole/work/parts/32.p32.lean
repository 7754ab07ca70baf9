section EW
variable (C off dear proved w : Nat → Int32)
theorem eV_n0 {n x j : Nat} (hn : w 1 = nI n) (hm : n ≤ x) (hx : x < 32) (hj : j < 11) : eV C off dear proved w (59 + 11 * x + j) = 0 := by
  unfold eV
  rw [if_neg (by omega), if_neg (by omega), if_neg (by omega), if_pos (by omega), hn, nI_clamp (by omega), if_neg (by omega)]
theorem eV_f0 {n x j : Nat} (hn : w 2 = nI n) (hm : n ≤ x) (hx : x < 16) (hj : j < 2) : eV C off dear proved w (411 + 2 * x + j) = 0 := by
  unfold eV
  rw [if_neg (by omega), if_neg (by omega), if_neg (by omega), if_neg (by omega), if_pos (by omega), hn, nI_clamp (by omega), if_neg (by omega)]
theorem eV_l0 {n x j : Nat} (hn : w 3 = nI n) (hm : n ≤ x) (hx : x < 12) (hj : j < 7) : eV C off dear proved w (443 + 7 * x + j) = 0 := by
  unfold eV
  rw [if_neg (by omega), if_neg (by omega), if_neg (by omega), if_neg (by omega), if_neg (by omega), if_pos (by omega), hn, nI_clamp (by omega), if_neg (by omega)]
theorem eV_xN {n x j : Nat} (y : Int32) (hn : w 1 = nI n) (hm : n ≤ x) (hx : x < 32) (hj : j < 11) : eV C off dear proved (upd w (142 + x * 11 + j) y) = eV C off dear proved w := by
  funext i
  by_cases e : i = 59 + 11 * x + j
  · subst e
    rw [eV_n0 C off dear proved w hn hm hx hj, eV_n0 C off dear proved _ (n := n) (by rw [pu_n _ _ (by omega)]; exact hn) hm hx hj]
  · exact eV_cong C off dear proved w (pu_n _ _ (by omega)) (pu_n _ _ (by omega)) (pu_n _ _ (by omega)) i (fun _ _ hi => pu_n _ _ (fun q => e (cI_n (by omega) hj q hi)))
theorem eV_xL {n x j : Nat} (y : Int32) (hn : w 3 = nI n) (hm : n ≤ x) (hx : x < 12) (hj : j < 7) : eV C off dear proved (upd w (58 + x * 7 + j) y) = eV C off dear proved w := by
  funext i
  by_cases e : i = 443 + 7 * x + j
  · subst e
    rw [eV_l0 C off dear proved w hn hm hx hj, eV_l0 C off dear proved _ (n := n) (by rw [pu_n _ _ (by omega)]; exact hn) hm hx hj]
  · exact eV_cong C off dear proved w (pu_n _ _ (by omega)) (pu_n _ _ (by omega)) (pu_n _ _ (by omega)) i (fun _ _ hi => pu_n _ _ (fun q => e (cI_l (by omega) hj q hi)))
theorem eV_xF {n x j : Nat} (y : Int32) (hn : w 2 = nI n) (hm : n ≤ x) (hx : x < 16) (hj : j < 2) : eV C off dear proved (upd w (26 + x * 2 + j) y) = eV C off dear proved w := by
  funext i
  by_cases e : i = 411 + 2 * x + j
  · subst e
    rw [eV_f0 C off dear proved w hn hm hx hj, eV_f0 C off dear proved _ (n := n) (by rw [pu_n _ _ (by omega)]; exact hn) hm hx hj]
  · exact eV_cong C off dear proved w (pu_n _ _ (by omega)) (pu_n _ _ (by omega)) (pu_n _ _ (by omega)) i (fun _ _ hi => pu_n _ _ (fun q => e (cI_f (by omega) hj q hi)))
/-- a note more -/
theorem eV_aN {n : Nat} (hn : w 1 = nI n) (hm : n < 32) : eV C off dear proved (upd w 1 (nI (n + 1))) = fun i => if i = 12 then nI (n + 1) else if 59 + 11 * n ≤ i ∧ i < 59 + 11 * n + 11 then w (142 + (i - 59)) else eV C off dear proved w i := by
  funext i
  by_cases e : i = 12
  · rw [if_pos e, e, eV_12, pu_s]
  · rw [if_neg e]
    by_cases e2 : 59 + 11 * n ≤ i ∧ i < 59 + 11 * n + 11
    · rw [if_pos e2]
      unfold eV
      rw [if_neg (by omega), if_neg (by omega), if_neg (by omega), if_pos (by omega), pu_s, nI_clamp (by omega), if_pos (by omega), pu_n _ _ (by omega)]
    · rw [if_neg e2]
      unfold eV
      by_cases a0 : i < 16
      · rw [if_pos a0, if_pos a0]
        unfold eH
        rw [if_neg e, if_neg e, pu_n _ _ (show 0 ≠ 1 by omega), pu_n _ _ (show 2 ≠ 1 by omega), pu_n _ _ (show 3 ≠ 1 by omega)]
      · rw [if_neg a0, if_neg a0]
        by_cases a1 : i < 44
        · rw [if_pos a1, if_pos a1]
          unfold eO
          by_cases q0 : (i - 16) % 7 = 0
          · rw [if_pos q0, if_pos q0]
          · by_cases q1 : (i - 16) % 7 = 1
            · rw [if_neg q0, if_neg q0, if_pos q1, if_pos q1]
            · by_cases q2 : (i - 16) % 7 = 2
              · rw [if_neg q0, if_neg q0, if_neg q1, if_neg q1, if_pos q2, if_pos q2]
              · by_cases q3 : (i - 16) % 7 = 3
                · rw [if_neg q0, if_neg q0, if_neg q1, if_neg q1, if_neg q2, if_neg q2, if_pos q3, if_pos q3]
                · rw [if_neg q0, if_neg q0, if_neg q1, if_neg q1, if_neg q2, if_neg q2, if_neg q3, if_neg q3, pu_n _ _ (by omega)]
        · rw [if_neg a1, if_neg a1]
          by_cases a2 : i < 59
          · rw [if_pos a2, if_pos a2]
            unfold eB
            rw [pu_n _ _ (by omega)]
          · rw [if_neg a2, if_neg a2, pu_s, hn, nI_clamp (by omega), nI_clamp (by omega), pu_n _ _ (show 2 ≠ 1 by omega), pu_n _ _ (show 3 ≠ 1 by omega)]
            by_cases a3 : i < 411
            · rw [if_pos a3, if_pos a3, pu_n _ _ (by omega)]
              by_cases z : (i - 59) / 11 < n
              · rw [if_pos z, if_pos (by omega)]
              · rw [if_neg z, if_neg (by omega)]
            · rw [if_neg a3, if_neg a3, pu_n _ _ (by omega), pu_n _ _ (by omega)]
theorem eV_aF {n : Nat} (hn : w 2 = nI n) (hm : n < 16) : eV C off dear proved (upd w 2 (nI (n + 1))) = fun i => if i = 13 then nI (n + 1) else if 411 + 2 * n ≤ i ∧ i < 411 + 2 * n + 2 then w (26 + (i - 411)) else eV C off dear proved w i := by
  funext i
  by_cases e : i = 13
  · rw [if_pos e, e, eV_13, pu_s]
  · rw [if_neg e]
    by_cases e2 : 411 + 2 * n ≤ i ∧ i < 411 + 2 * n + 2
    · rw [if_pos e2]
      unfold eV
      rw [if_neg (by omega), if_neg (by omega), if_neg (by omega), if_neg (by omega), if_pos (by omega), pu_s, nI_clamp (by omega), if_pos (by omega), pu_n _ _ (by omega)]
    · rw [if_neg e2]
      unfold eV
      by_cases a0 : i < 16
      · rw [if_pos a0, if_pos a0]
        unfold eH
        rw [if_neg e, if_neg e, pu_n _ _ (show 0 ≠ 2 by omega), pu_n _ _ (show 1 ≠ 2 by omega), pu_n _ _ (show 3 ≠ 2 by omega)]
      · rw [if_neg a0, if_neg a0]
        by_cases a1 : i < 44
        · rw [if_pos a1, if_pos a1]
          unfold eO
          by_cases q0 : (i - 16) % 7 = 0
          · rw [if_pos q0, if_pos q0]
          · by_cases q1 : (i - 16) % 7 = 1
            · rw [if_neg q0, if_neg q0, if_pos q1, if_pos q1]
            · by_cases q2 : (i - 16) % 7 = 2
              · rw [if_neg q0, if_neg q0, if_neg q1, if_neg q1, if_pos q2, if_pos q2]
              · by_cases q3 : (i - 16) % 7 = 3
                · rw [if_neg q0, if_neg q0, if_neg q1, if_neg q1, if_neg q2, if_neg q2, if_pos q3, if_pos q3]
                · rw [if_neg q0, if_neg q0, if_neg q1, if_neg q1, if_neg q2, if_neg q2, if_neg q3, if_neg q3, pu_n _ _ (by omega)]
        · rw [if_neg a1, if_neg a1]
          by_cases a2 : i < 59
          · rw [if_pos a2, if_pos a2]
            unfold eB
            rw [pu_n _ _ (by omega)]
          · rw [if_neg a2, if_neg a2, pu_s, hn, nI_clamp (by omega), nI_clamp (by omega), pu_n _ _ (show 1 ≠ 2 by omega), pu_n _ _ (show 3 ≠ 2 by omega)]
            by_cases a3 : i < 411
            · rw [if_pos a3, if_pos a3, pu_n _ _ (by omega)]
            · rw [if_neg a3, if_neg a3]
              by_cases a4 : i < 443
              · rw [if_pos a4, if_pos a4, pu_n _ _ (by omega)]
                by_cases z : (i - 411) / 2 < n
                · rw [if_pos z, if_pos (by omega)]
                · rw [if_neg z, if_neg (by omega)]
              · rw [if_neg a4, if_neg a4, pu_n _ _ (by omega)]
/-- another number of letters: those that are now in are as the class has them, the others 0 -/
theorem eV_aL {n : Nat} (hm : n ≤ 12) : eV C off dear proved (upd w 3 (nI n)) = fun i => if i = 14 then nI n else if 443 ≤ i ∧ i < 527 then (if i < 443 + 7 * n then w (58 + (i - 443)) else 0) else eV C off dear proved w i := by
  funext i
  by_cases e : i = 14
  · rw [if_pos e, e, eV_14, pu_s]
  · rw [if_neg e]
    by_cases e2 : 443 ≤ i ∧ i < 527
    · rw [if_pos e2]
      unfold eV
      rw [if_neg (by omega), if_neg (by omega), if_neg (by omega), if_neg (by omega), if_neg (by omega), if_pos (by omega), pu_s, nI_clamp (by omega)]
      by_cases z : i < 443 + 7 * n
      · rw [if_pos z, if_pos (by omega), pu_n _ _ (by omega)]
      · rw [if_neg z, if_neg (by omega)]
    · rw [if_neg e2]
      unfold eV
      by_cases a0 : i < 16
      · rw [if_pos a0, if_pos a0]
        unfold eH
        rw [if_neg e, if_neg e, pu_n _ _ (show 0 ≠ 3 by omega), pu_n _ _ (show 1 ≠ 3 by omega), pu_n _ _ (show 2 ≠ 3 by omega)]
      · rw [if_neg a0, if_neg a0]
        by_cases a1 : i < 44
        · rw [if_pos a1, if_pos a1]
          unfold eO
          by_cases q0 : (i - 16) % 7 = 0
          · rw [if_pos q0, if_pos q0]
          · by_cases q1 : (i - 16) % 7 = 1
            · rw [if_neg q0, if_neg q0, if_pos q1, if_pos q1]
            · by_cases q2 : (i - 16) % 7 = 2
              · rw [if_neg q0, if_neg q0, if_neg q1, if_neg q1, if_pos q2, if_pos q2]
              · by_cases q3 : (i - 16) % 7 = 3
                · rw [if_neg q0, if_neg q0, if_neg q1, if_neg q1, if_neg q2, if_neg q2, if_pos q3, if_pos q3]
                · rw [if_neg q0, if_neg q0, if_neg q1, if_neg q1, if_neg q2, if_neg q2, if_neg q3, if_neg q3, pu_n _ _ (by omega)]
        · rw [if_neg a1, if_neg a1]
          by_cases a2 : i < 59
          · rw [if_pos a2, if_pos a2]
            unfold eB
            rw [pu_n _ _ (by omega)]
          · rw [if_neg a2, if_neg a2, pu_n _ _ (show 1 ≠ 3 by omega), pu_n _ _ (show 2 ≠ 3 by omega)]
            by_cases a3 : i < 411
            · rw [if_pos a3, if_pos a3, pu_n _ _ (by omega)]
            · rw [if_neg a3, if_neg a3]
              by_cases a4 : i < 443
              · rw [if_pos a4, if_pos a4, pu_n _ _ (by omega)]
              · rw [if_neg a4, if_neg a4, if_neg (by omega), if_neg (by omega)]
/-- the setting's own numbers -/
theorem eV_C {k m : Nat} (y : Int32) (hk : (k < 7 ∧ m = k + 4) ∨ (k = 7 ∧ m = 3) ∨ (k = 8 ∧ m = 2) ∨ (k = 9 ∧ m = 1) ∨ (k = 10 ∧ m = 11) ∨ (k = 13 ∧ m = 15)) : eV (upd C k y) off dear proved w = upd (eV C off dear proved w) m y := by
  funext i
  by_cases a0 : i < 16
  · rw [eV_lo _ _ _ _ _ a0]
    by_cases e : i = m
    · subst e
      rw [pu_s]
      unfold eH
      rcases hk with ⟨h1, rfl⟩ | ⟨rfl, rfl⟩ | ⟨rfl, rfl⟩ | ⟨rfl, rfl⟩ | ⟨rfl, rfl⟩ | ⟨rfl, rfl⟩
      · rw [if_neg (by omega), if_neg (by omega), if_neg (by omega), if_neg (by omega), if_pos (by omega), show k + 4 - 4 = k by omega, pu_s]
      all_goals rfl
    · rw [pu_n _ _ e, eV_lo _ _ _ _ _ a0]
      unfold eH
      by_cases z0 : i = 0
      · rw [if_pos z0, if_pos z0]
      rw [if_neg z0, if_neg z0]
      by_cases z1 : i = 1
      · rw [if_pos z1, if_pos z1, pu_n _ _ (by omega)]
      rw [if_neg z1, if_neg z1]
      by_cases z2 : i = 2
      · rw [if_pos z2, if_pos z2, pu_n _ _ (by omega)]
      rw [if_neg z2, if_neg z2]
      by_cases z3 : i = 3
      · rw [if_pos z3, if_pos z3, pu_n _ _ (by omega)]
      rw [if_neg z3, if_neg z3]
      by_cases z4 : i < 11
      · rw [if_pos z4, if_pos z4, pu_n _ _ (by omega)]
      rw [if_neg z4, if_neg z4]
      by_cases z5 : i = 11
      · rw [if_pos z5, if_pos z5, pu_n _ _ (by omega)]
      rw [if_neg z5, if_neg z5]
      by_cases z6 : i = 12
      · rw [if_pos z6, if_pos z6]
      rw [if_neg z6, if_neg z6]
      by_cases z7 : i = 13
      · rw [if_pos z7, if_pos z7]
      rw [if_neg z7, if_neg z7]
      by_cases z8 : i = 14
      · rw [if_pos z8, if_pos z8]
      rw [if_neg z8, if_neg z8, pu_n _ _ (by omega)]
  · rw [pu_n _ _ (by omega)]
    unfold eV eO
    rw [if_neg a0, if_neg a0, pu_n C y (show 11 ≠ k by omega), pu_n C y (show 12 ≠ k by omega)]
theorem eV_p {b : Nat} (y : Int32) (hb : b < 5) : eV C off dear (upd proved b y) w = upd (eV C off dear proved w) (44 + 3 * b + 0) y := by
  funext i
  by_cases e : i = 44 + 3 * b + 0
  · subst e
    rw [pu_s, eV_b _ _ _ _ _ hb (by omega)]
    unfold eB
    rw [if_pos rfl, pu_s]
  · rw [pu_n _ _ e]
    unfold eV
    by_cases a0 : i < 16
    · rw [if_pos a0, if_pos a0]
    · rw [if_neg a0, if_neg a0]
      by_cases a1 : i < 44
      · rw [if_pos a1, if_pos a1]
      · rw [if_neg a1, if_neg a1]
        by_cases a2 : i < 59
        · rw [if_pos a2, if_pos a2]
          unfold eB
          split
          · rw [pu_n _ _ (by omega)]
          · rfl
        · rw [if_neg a2, if_neg a2]
end EW
