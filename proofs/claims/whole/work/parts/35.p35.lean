theorem blk_c {f g : Nat → Int32} {k n j : Nat} {a : Int32} (h : j < k ∨ k + n ≤ j) : blk (upd f j a) k n g = upd (blk f k n g) j a := by
  funext i; unfold blk upd
  by_cases e : i = j
  · subst e
    rw [if_neg (by omega), if_pos rfl, if_pos rfl]
  · rw [if_neg e, if_neg e]
theorem n16 : nI 1 <<< (nI 4 &&& 31) = nI 16 := by decide
def postV (v : Nat → Int32) (n k a b : Nat) (x y z : Int32) : Nat → Int32 :=
  if n = 12 then v else if bt (v 2) a = true ∨ bt (v 2) b = true then rdV (upd (blk v (443 + 7 * n) 7 (l7 (nI a) (nI b) (nI k) x y z (v 0))) 14 (nI (n + 1))) k a b x y z else upd (blk v (443 + 7 * n) 7 (l7 (nI a) (nI b) (nI k) x y z (v 0))) 14 (nI (n + 1))
set_option maxRecDepth 4000 in
theorem postV_eq {v F : Nat → Int32} {nH nN nF n k a b : Nat} {x y z : Int32} (hN : nN ≤ 32) (h3 : v 14 = nI n) (hn : n ≤ 12) (V : LV nH nN nF (nI a) (nI b) (nI k) x y) (ha : a < 10) (hb : b < 10) (hk : k < 6) :
    f_X6_posts v F (nI a) (nI b) (nI k) x y z = (postV v n k a b x y z, if n = 12 then upd F 3 (F 3 + (if F 2 = 0 then nI 1 else nI 0)) else F) := by
  obtain ⟨a', b', k', e1, e2, e3, e4, e5, V⟩ := V
  rw [pn_eq (by omega) (by omega)] at e1 e3
  subst e1; subst e3
  have ek : k = k' := by
    have : k' < 6 := by rcases V with q | q | q | q | q | q <;> omega
    rwa [pn_eq (by omega) (by omega)] at e5
  subst ek
  unfold f_X6_posts postV
  by_cases hf : n = 12
  · subst hf
    simp (disch := omega) only [pn_cl, h3, if_true, f_X6_posts_26]
    by_cases hd : F 2 = 0 <;> simp [hd]
  · have hn2 : n < 12 := by omega
    simp (disch := omega) only [pn_cl, h3, f_X6_letter, pn_eq, hf, if_false, nI_add, pk_mul]
    rw [show ∀ (f : Nat → Int32) (p q r u v x0 : Int32), upd (upd (upd (upd (upd (upd f (443 + 7 * n) p) (443 + 7 * n + 1) q) (443 + 7 * n + 2) r) (443 + 7 * n + 3) u) (443 + 7 * n + 4) v) (443 + 7 * n + 5) x0 0 = f 0 from fun f p q r u v x0 => by rw [pu_n _ _ (by omega), pu_n _ _ (by omega), pu_n _ _ (by omega), pu_n _ _ (by omega), pu_n _ _ (by omega), pu_n _ _ (by omega)]]
    rw [upd7, blk_c (by omega), pu_n v _ (show 0 ≠ 14 by omega)]
    unfold f_X6_posts_102
    simp (disch := omega) only [pn_cl, tap_m]
    rw [pu_n _ _ (show 2 ≠ 14 by omega), blk_out (show 2 < 443 + 7 * n ∨ 443 + 7 * n + 7 ≤ 2 by omega)]
    generalize upd (blk v (443 + 7 * n) 7 (l7 (nI a) (nI b) (nI k) x y z (v 0))) 14 (nI (n + 1)) = u
    by_cases ht : bt (v 2) a = true ∨ bt (v 2) b = true
    · rw [if_pos ht, if_neg (fun q => q ht)]
      rcases V with ⟨rfl, q1, h, q2, rfl⟩ | ⟨rfl, q1, ⟨m, q2, rfl⟩, q4⟩ | ⟨rfl, q1, q2, m, q3, rfl⟩ | ⟨rfl, q1, m, q2, rfl⟩ | ⟨rfl, q1, q2, ⟨m, q3, rfl⟩, h, q4, rfl⟩ | ⟨rfl, q1, q2, m, q3, rfl⟩
      · simp (disch := omega) [f_X6_posts_141, f_X6_posts_148, f_X6_posts_161, f_X6_posts_172, f_X6_posts_187, f_X6_gets, f_X6_note, f_X6_browser, f_X6_in, rdV, pn_eq, pn_eq0, pn_lt0, pn_le, pn_lt, pn_cl, nI_add, pk_mul, n16]
        by_cases z4 : 3 < a
        · simp [z4, show ¬ a < 4 by omega, nI_0]
        · simp [z4, show a < 4 by omega, n1z]
      · rcases q4 with rfl | ⟨q4, m2, q5, rfl⟩
        · simp (disch := omega) [f_X6_posts_141, f_X6_posts_148, f_X6_posts_161, f_X6_posts_172, f_X6_posts_187, f_X6_gets, f_X6_note, f_X6_browser, f_X6_in, rdV, pn_eq, pn_eq0, pn_lt0, pn_le, pn_lt, pn_cl, nI_add, pk_mul, n16, pn_m1]
          by_cases z4 : 3 < b
          · simp [z4, show ¬ b < 4 by omega, nI_0]
          · simp [z4, show b < 4 by omega, n1z]
        · simp (disch := omega) [f_X6_posts_141, f_X6_posts_148, f_X6_posts_161, f_X6_posts_172, f_X6_posts_187, f_X6_gets, f_X6_note, f_X6_browser, f_X6_in, rdV, pn_eq, pn_eq0, pn_lt0, pn_le, pn_lt, pn_cl, nI_add, pk_mul, n16, pn_m1c]
          by_cases z4 : 3 < b
          · simp [z4, show ¬ b < 4 by omega, nI_0]
          · simp [z4, show b < 4 by omega, n1z]
      · simp (disch := omega) [f_X6_posts_141, f_X6_posts_148, f_X6_posts_161, f_X6_posts_172, f_X6_posts_187, f_X6_gets, f_X6_note, f_X6_browser, f_X6_in, rdV, pn_eq, pn_eq0, pn_lt0, pn_le, pn_lt, pn_cl, nI_add, pk_mul, n16, pn_m1, nI_0]
      · simp (disch := omega) [f_X6_posts_141, f_X6_posts_148, f_X6_posts_161, f_X6_posts_172, f_X6_posts_187, f_X6_gets, f_X6_note, f_X6_browser, f_X6_in, rdV, pn_eq, pn_eq0, pn_lt0, pn_le, pn_lt, pn_cl, nI_add, pk_mul, n16]
        by_cases z4 : 3 < a
        · simp [z4, show ¬ a < 4 by omega, nI_0]
        · simp [z4, show a < 4 by omega, n1z]
      · simp (disch := omega) [f_X6_posts_141, f_X6_posts_148, f_X6_posts_161, f_X6_posts_172, f_X6_posts_187, f_X6_gets, f_X6_note, f_X6_browser, f_X6_in, rdV, pn_eq, pn_eq0, pn_lt0, pn_le, pn_lt, pn_cl, nI_add, pk_mul, n16, pn_m1, nI_0]
      · simp (disch := omega) [f_X6_posts_141, f_X6_posts_148, f_X6_posts_161, f_X6_posts_172, f_X6_posts_187, f_X6_gets, f_X6_note, f_X6_browser, f_X6_in, rdV, pn_eq, pn_eq0, pn_lt0, pn_le, pn_lt, pn_cl, nI_add, pk_mul, n16, pn_m1, nI_0]
    · rw [if_neg ht, if_pos ht]
theorem eV_rd (C off dear proved u : Nat → Int32) {nH nN nF k a b : Nat} {x y z : Int32} (h1 : u 1 = nI nN) (hN : nN ≤ 32) (V : LV nH nN nF (nI a) (nI b) (nI k) x y) (ha : a < 10) (hb : b < 10) (hk : k < 6) : eV C off dear proved (rdW u k a b x y z) = rdV (eV C off dear proved u) k a b x y z := by
  obtain ⟨a', b', k', e1, e2, e3, e4, e5, V⟩ := V
  rw [pn_eq (by omega) (by omega)] at e1 e3
  subst e1; subst e3
  have ek : k = k' := by
    have : k' < 6 := by rcases V with q | q | q | q | q | q <;> omega
    rwa [pn_eq (by omega) (by omega)] at e5
  subst ek
  have key : ∀ (f : Nat → Int32) (m : Nat), f 1 = nI nN → m < nN → eV C off dear proved (upd f (142 + m * 11 + 10) (f (142 + m * 11 + 10) ||| nI 16)) = upd (eV C off dear proved f) (59 + 11 * m + 10) (eV C off dear proved f (59 + 11 * m + 10) ||| nI 16) := fun f m hf hm => by
    rw [eV_uN C off dear proved f _ hf hN hm (by omega), eV_n C off dear proved f hf hN hm (by omega)]
  have kb : ∀ (f : Nat → Int32) (o : Nat), o < 4 → eV C off dear proved (upd f (16 + o * 2 + 1) z) = upd (eV C off dear proved f) (44 + 3 * o + 2) z := fun f o ho => eV_uB C off dear proved f z (by omega) (by omega)
  have t1 : ∀ (f : Nat → Int32) (i : Nat) (y : Int32), i ≠ 1 → upd f i y 1 = f 1 := fun f i y h => pu_n _ _ (fun q => h q.symm)
  unfold rdW rdV
  rcases V with ⟨rfl, q1, h, q2, rfl⟩ | ⟨rfl, q1, ⟨m, q2, rfl⟩, q4⟩ | ⟨rfl, q1, q2, m, q3, rfl⟩ | ⟨rfl, q1, m, q2, rfl⟩ | ⟨rfl, q1, q2, ⟨m, q3, rfl⟩, h, q4, rfl⟩ | ⟨rfl, q1, q2, m, q3, rfl⟩
  · simp
    by_cases z4 : a < 4
    · simp [z4, kb]
    · simp [z4]
  · rcases q4 with rfl | ⟨q4, m2, q5, rfl⟩
    · simp (disch := omega) [pn_cl]
      by_cases z4 : b < 4
      · simp [z4, kb, key u m h1 q2]
      · simp [z4, key u m h1 q2]
    · simp (disch := omega) [pn_cl, pn_m1c]
      have e := key _ m2 (t1 u (142 + m * 11 + 10) (u (142 + m * 11 + 10) ||| nI 16) (by omega) |>.trans h1) q5
      by_cases z4 : b < 4
      · simp [z4, kb, e, key u m h1 q2]
      · simp [z4, e, key u m h1 q2]
  · simp (disch := omega) [pn_cl, key u m h1 q3]
  · simp (disch := omega) [pn_cl]
    by_cases z4 : a < 4
    · simp [z4, kb, key u m h1 q2]
    · simp [z4, key u m h1 q2]
  · simp (disch := omega) [pn_cl, key u m h1 q3]
  · simp
theorem eV_post (C off dear proved w : Nat → Int32) {nH nN nF n k a b : Nat} {x y z : Int32} (h1 : w 1 = nI nN) (hN : nN ≤ 32) (h3 : w 3 = nI n) (hn : n ≤ 12) (V : LV nH nN nF (nI a) (nI b) (nI k) x y) (ha : a < 10) (hb : b < 10) (hk : k < 6) : eV C off dear proved (postW C w n k a b x y z) = postV (eV C off dear proved w) n k a b x y z := by
  unfold postW postV
  rw [eV_2, eV_0]
  by_cases hf : n = 12
  · rw [if_pos hf, if_pos hf]
  · rw [if_neg hf, if_neg hf]
    split
    · rw [eV_rd C off dear proved _ (by rw [pL_lo (by omega) (by omega) (by omega)]; exact h1) hN V ha hb hk, eV_pL C off dear proved w h3 (by omega)]
    · rw [eV_pL C off dear proved w h3 (by omega)]
