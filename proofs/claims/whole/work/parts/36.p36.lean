theorem rdW_at {u : Nat → Int32} {k a b i : Nat} {x y z : Int32} (h : i < 16 ∨ (26 ≤ i ∧ i < 142) ∨ (142 ≤ i ∧ (i - 142) % 11 ≠ 10)) : rdW u k a b x y z i = u i := by
  unfold rdW
  split
  · rfl
  · have e1 : ∀ (f : Nat → Int32) (m : Nat) (q : Int32), upd f (142 + m * 11 + 10) q i = f i := fun f m q => pu_n _ _ (by omega)
    have e2 : ∀ (f : Nat → Int32) (o : Nat) (q : Int32), o < 4 → upd f (16 + o * 2 + 1) q i = f i := fun f o q ho => pu_n _ _ (by omega)
    dsimp only
    have e3 : ∀ c : Prop, ∀ [Decidable c], ∀ (f g : Nat → Int32), f i = u i → g i = u i → (if c then f else g) i = u i := fun c _ f g hf hg => by split <;> assumption
    have w1 : (if k = 0 then u else upd u (142 + x.toNatClampNeg * 11 + 10) (u (142 + x.toNatClampNeg * 11 + 10) ||| nI 16)) i = u i := e3 _ _ _ rfl (e1 _ _ _)
    generalize (if k = 0 then u else upd u (142 + x.toNatClampNeg * 11 + 10) (u (142 + x.toNatClampNeg * 11 + 10) ||| nI 16)) = w1' at w1 ⊢
    have w2 : (if k = 1 ∧ ¬ y = (-1) then upd w1' (142 + y.toNatClampNeg * 11 + 10) (w1' (142 + y.toNatClampNeg * 11 + 10) ||| nI 16) else w1') i = u i := e3 _ _ _ ((e1 _ _ _).trans w1) w1
    generalize (if k = 1 ∧ ¬ y = (-1) then upd w1' (142 + y.toNatClampNeg * 11 + 10) (w1' (142 + y.toNatClampNeg * 11 + 10) ||| nI 16) else w1') = w2' at w2 ⊢
    generalize (if k = 1 then b else if k = 0 ∨ k = 3 then a else 9) = o
    by_cases ho : o < 4
    · rw [if_pos ho, e2 _ _ _ ho]; exact w2
    · rw [if_neg ho]; exact w2
theorem postW_at {C w : Nat → Int32} {n k a b i : Nat} {x y z : Int32} (hn : n ≤ 12) (h : i < 3 ∨ (4 ≤ i ∧ i < 16) ∨ (26 ≤ i ∧ i < 58 + n * 7) ∨ (142 ≤ i ∧ (i - 142) % 11 ≠ 10)) : postW C w n k a b x y z i = w i := by
  unfold postW
  split
  · rfl
  · have e : pL w n (l7 (nI a) (nI b) (nI k) x y z (w 0)) i = w i := by
      unfold pL
      rw [pu_n _ _ (by omega), blk_out (by omega)]
    split
    · rw [rdW_at (by omega)]; exact e
    · exact e
theorem postW_3 {C w : Nat → Int32} {n k a b : Nat} {x y z : Int32} (h3 : w 3 = nI n) : postW C w n k a b x y z 3 = nI (if n = 12 then 12 else n + 1) := by
  unfold postW
  split
  · rename_i h; rw [h3, h]
  · split
    · rw [rdW_at (by omega)]; exact pu_s _ _ _
    · exact pu_s _ _ _
theorem postW_new {C w : Nat → Int32} {n k a b j : Nat} {x y z : Int32} (hn : n < 12) (hj : j < 7) : postW C w n k a b x y z (58 + n * 7 + j) = l7 (nI a) (nI b) (nI k) x y z (w 0) j := by
  have e : pL w n (l7 (nI a) (nI b) (nI k) x y z (w 0)) (58 + n * 7 + j) = l7 (nI a) (nI b) (nI k) x y z (w 0) j := by
    unfold pL
    rw [pu_n _ _ (by omega), blk_in (by omega) (by omega)]
    exact congrArg _ (by omega)
  unfold postW
  rw [if_neg (by omega)]
  split
  · rw [rdW_at (by omega)]; exact e
  · exact e
theorem WR_post {C w : Nat → Int32} {nH nN nF nL t k a b : Nat} {x y z : Int32} (R : WR C w nH nN nF nL t) (V : LV nH nN nF (nI a) (nI b) (nI k) x y) : WR C (postW C w nL k a b x y z) nH nN nF (if nL = 12 then 12 else nL + 1) t := by
  obtain ⟨r1, r2, r3, r4, r5, r6, r7, r8, r9, r10⟩ := R
  have hn := r4.2
  refine ⟨r1, ⟨by rw [postW_at hn (by omega)]; exact r2.1, r2.2⟩, ⟨by rw [postW_at hn (by omega)]; exact r3.1, r3.2⟩, ⟨postW_3 r4.1, by split <;> omega⟩, ⟨by rw [postW_at hn (by omega)]; exact r5.1, r5.2⟩, fun q hq => ?_, fun l hl => ?_, fun l m p q hlm hm hp hq => ?_, r9, r10⟩
  · rw [postW_at hn (by omega), postW_at hn (by omega)]
    exact r6 q hq
  · by_cases hf : nL = 12
    · rw [if_pos hf] at hl
      rw [postW_at hn (by omega), postW_at hn (by omega), postW_at hn (by omega), postW_at hn (by omega), postW_at hn (by omega), postW_at hn (by omega)]
      exact r7 l (by omega)
    · rw [if_neg hf] at hl
      rcases Nat.lt_or_ge l nL with h | h
      · rw [postW_at hn (by omega), postW_at hn (by omega), postW_at hn (by omega), postW_at hn (by omega), postW_at hn (by omega), postW_at hn (by omega)]
        exact r7 l h
      · have e : l = nL := by omega
        subst e
        rw [postW_new (by omega) (by omega), postW_new (by omega) (by omega), postW_new (by omega) (by omega), postW_new (by omega) (by omega), postW_new (by omega) (by omega), postW_new (by omega) (by omega)]
        exact ⟨V, t, r5.1, Nat.le_refl t⟩
  · by_cases hf : nL = 12
    · rw [if_pos hf] at hm
      rw [postW_at hn (by omega)] at hp hq
      exact r8 l m p q hlm (by omega) hp hq
    · rw [if_neg hf] at hm
      rcases Nat.lt_or_ge m nL with h | h
      · rw [postW_at hn (by omega)] at hp hq
        exact r8 l m p q hlm h hp hq
      · have e : m = nL := by omega
        subst e
        rw [postW_new (by omega) (by omega)] at hq
        have hq2 : w 0 = nI q := hq
        rcases Nat.lt_or_ge q (2 ^ 31) with hq3 | hq3
        · have e4 : t = q := by
            have := r5.1.symm.trans hq2
            rwa [pn_eq (by omega) hq3] at this
          rcases Nat.lt_or_ge l m with h2 | h2
          · rw [postW_at hn (by omega)] at hp
            obtain ⟨p', hp', hpt⟩ := (r7 l h2).2
            rcases Nat.lt_or_ge p (2 ^ 31) with hp3 | hp3
            · have := hp.symm.trans hp'
              rw [pn_eq hp3 (by omega)] at this
              exact Or.inl (by omega)
            · exact Or.inr (Or.inl hp3)
          · have e5 : l = m := by omega
            subst e5
            rw [postW_new (by omega) (by omega)] at hp
            have hp2 : w 0 = nI p := hp
            rcases Nat.lt_or_ge p (2 ^ 31) with hp3 | hp3
            · have := hp2.symm.trans hq2
              rw [pn_eq hp3 hq3] at this
              exact Or.inl (by omega)
            · exact Or.inr (Or.inl hp3)
        · exact Or.inr (Or.inr hq3)
set_option maxRecDepth 4000 in
theorem s_post {C w Dg : Nat → Int32} {d : Bool} {nH nN nF n k a b : Nat} {x y z : Int32} (h1 : w 1 = nI nN) (hN : nN ≤ 32) (h3 : w 3 = nI n) (hn : n ≤ 12) (V : LV nH nN nF (nI a) (nI b) (nI k) x y) (ha : a < 10) (hb : b < 10) (hk : k < 6) : s_X4_post w Dg C d (nI a) (nI b) (nI k) x y z := by
  obtain ⟨a', b', k', e1, e2, e3, e4, e5, V⟩ := V
  rw [pn_eq (by omega) (by omega)] at e1 e3
  subst e1; subst e3
  have ek : k = k' := by
    have : k' < 6 := by rcases V with q | q | q | q | q | q <;> omega
    rwa [pn_eq (by omega) (by omega)] at e5
  subst ek
  have t1 : ∀ (f : Nat → Int32) (i : Nat) (y : Int32), i ≠ 1 → upd f i y 1 = f 1 := fun f i y h => pu_n _ _ (fun q => h q.symm)
  by_cases hf : n = 12
  · subst hf
    simp (disch := omega) [s_X4_post, s_X4_post_20, h3, pn_eq, pn_eq0, pn_lt0, pn_ge0, pn_le, pn_lt, pn_cl, pn_in, nI_add, pk_mul]
  · have hn2 : n < 12 := by omega
    rcases V with ⟨rfl, q1, h, q2, rfl⟩ | ⟨rfl, q1, ⟨m, q2, rfl⟩, q4⟩ | ⟨rfl, q1, q2, m, q3, rfl⟩ | ⟨rfl, q1, m, q2, rfl⟩ | ⟨rfl, q1, q2, ⟨m, q3, rfl⟩, h, q4, rfl⟩ | ⟨rfl, q1, q2, m, q3, rfl⟩
    · simp (disch := omega) [s_X4_post_20, s_X4_post_311, s_X4_post_299, s_X4_post_294, s_X4_post_280, s_X4_post_234, s_X4_post_168, s_X4_post_128, s_X4_post, h3, h1, t1, pn_eq, pn_eq0, pn_lt0, pn_ge0, pn_le, pn_lt, pn_cl, pn_in, nI_add, pk_mul, hn2]
    · rcases q4 with rfl | ⟨q4, m2, q5, rfl⟩
      · simp (disch := omega) [s_X4_post_20, s_X4_post_311, s_X4_post_299, s_X4_post_294, s_X4_post_280, s_X4_post_234, s_X4_post_168, s_X4_post_128, s_X4_post, h3, h1, t1, pn_eq, pn_eq0, pn_lt0, pn_ge0, pn_le, pn_lt, pn_cl, pn_in, nI_add, pk_mul, hn2, pn_m1]
      · simp (disch := omega) [s_X4_post_20, s_X4_post_311, s_X4_post_299, s_X4_post_294, s_X4_post_280, s_X4_post_234, s_X4_post_168, s_X4_post_128, s_X4_post, h3, h1, t1, pn_eq, pn_eq0, pn_lt0, pn_ge0, pn_le, pn_lt, pn_cl, pn_in, nI_add, pk_mul, hn2]
    · simp (disch := omega) [s_X4_post_20, s_X4_post_311, s_X4_post_299, s_X4_post_294, s_X4_post_280, s_X4_post_234, s_X4_post_168, s_X4_post_128, s_X4_post, h3, h1, t1, pn_eq, pn_eq0, pn_lt0, pn_ge0, pn_le, pn_lt, pn_cl, pn_in, nI_add, pk_mul, hn2]
    · simp (disch := omega) [s_X4_post_20, s_X4_post_311, s_X4_post_299, s_X4_post_294, s_X4_post_280, s_X4_post_234, s_X4_post_168, s_X4_post_128, s_X4_post, h3, h1, t1, pn_eq, pn_eq0, pn_lt0, pn_ge0, pn_le, pn_lt, pn_cl, pn_in, nI_add, pk_mul, hn2]
    · simp (disch := omega) [s_X4_post_20, s_X4_post_311, s_X4_post_299, s_X4_post_294, s_X4_post_280, s_X4_post_234, s_X4_post_168, s_X4_post_128, s_X4_post, h3, h1, t1, pn_eq, pn_eq0, pn_lt0, pn_ge0, pn_le, pn_lt, pn_cl, pn_in, nI_add, pk_mul, hn2]
    · simp (disch := omega) [s_X4_post_20, s_X4_post_311, s_X4_post_299, s_X4_post_294, s_X4_post_280, s_X4_post_234, s_X4_post_168, s_X4_post_128, s_X4_post, h3, h1, t1, pn_eq, pn_eq0, pn_lt0, pn_ge0, pn_le, pn_lt, pn_cl, pn_in, nI_add, pk_mul, hn2]
set_option maxRecDepth 4000 in
theorem s_posts {v F : Nat → Int32} {nH nN nF n k a b : Nat} {x y z : Int32} (hN : nN ≤ 32) (h3 : v 14 = nI n) (hn : n ≤ 12) (V : LV nH nN nF (nI a) (nI b) (nI k) x y) (ha : a < 10) (hb : b < 10) (hk : k < 6) : s_X6_posts v F (nI a) (nI b) (nI k) x y z := by
  obtain ⟨a', b', k', e1, e2, e3, e4, e5, V⟩ := V
  rw [pn_eq (by omega) (by omega)] at e1 e3
  subst e1; subst e3
  have ek : k = k' := by
    have : k' < 6 := by rcases V with q | q | q | q | q | q <;> omega
    rwa [pn_eq (by omega) (by omega)] at e5
  subst ek
  by_cases hf : n = 12
  · subst hf
    simp (disch := omega) [s_X6_posts_26, s_X6_posts_187, s_X6_posts_172, s_X6_posts_161, s_X6_posts_148, s_X6_posts_141, s_X6_posts_102, s_X6_posts, h3, pn_eq, pn_eq0, pn_lt0, pn_ge0, pn_le, pn_lt, pn_cl, pn_in, nI_add, pk_mul]
  · have hn2 : n < 12 := by omega
    rcases V with ⟨rfl, q1, h, q2, rfl⟩ | ⟨rfl, q1, ⟨m, q2, rfl⟩, q4⟩ | ⟨rfl, q1, q2, m, q3, rfl⟩ | ⟨rfl, q1, m, q2, rfl⟩ | ⟨rfl, q1, q2, ⟨m, q3, rfl⟩, h, q4, rfl⟩ | ⟨rfl, q1, q2, m, q3, rfl⟩
    · simp (disch := omega) [s_X6_posts_26, s_X6_posts_187, s_X6_posts_172, s_X6_posts_161, s_X6_posts_148, s_X6_posts_141, s_X6_posts_102, s_X6_posts, s_X6_gets, f_X6_letter, f_X6_browser, f_X6_note, f_X6_in, h3, pn_eq, pn_eq0, pn_lt0, pn_ge0, pn_le, pn_lt, pn_cl, pn_in, nI_add, pk_mul, hf, hn2, n1z]
    · rcases q4 with rfl | ⟨q4, m2, q5, rfl⟩
      · simp (disch := omega) [s_X6_posts_26, s_X6_posts_187, s_X6_posts_172, s_X6_posts_161, s_X6_posts_148, s_X6_posts_141, s_X6_posts_102, s_X6_posts, s_X6_gets, f_X6_letter, f_X6_browser, f_X6_note, f_X6_in, h3, pn_eq, pn_eq0, pn_lt0, pn_ge0, pn_le, pn_lt, pn_cl, pn_in, nI_add, pk_mul, hf, hn2, pn_m1, n1z]
      · simp (disch := omega) [s_X6_posts_26, s_X6_posts_187, s_X6_posts_172, s_X6_posts_161, s_X6_posts_148, s_X6_posts_141, s_X6_posts_102, s_X6_posts, s_X6_gets, f_X6_letter, f_X6_browser, f_X6_note, f_X6_in, h3, pn_eq, pn_eq0, pn_lt0, pn_ge0, pn_le, pn_lt, pn_cl, pn_in, nI_add, pk_mul, hf, hn2, n1z]
    · simp (disch := omega) [s_X6_posts_26, s_X6_posts_187, s_X6_posts_172, s_X6_posts_161, s_X6_posts_148, s_X6_posts_141, s_X6_posts_102, s_X6_posts, s_X6_gets, f_X6_letter, f_X6_browser, f_X6_note, f_X6_in, h3, pn_eq, pn_eq0, pn_lt0, pn_ge0, pn_le, pn_lt, pn_cl, pn_in, nI_add, pk_mul, hf, hn2, n1z, pn_m1, nI_0]
    · simp (disch := omega) [s_X6_posts_26, s_X6_posts_187, s_X6_posts_172, s_X6_posts_161, s_X6_posts_148, s_X6_posts_141, s_X6_posts_102, s_X6_posts, s_X6_gets, f_X6_letter, f_X6_browser, f_X6_note, f_X6_in, h3, pn_eq, pn_eq0, pn_lt0, pn_ge0, pn_le, pn_lt, pn_cl, pn_in, nI_add, pk_mul, hf, hn2, n1z]
    · simp (disch := omega) [s_X6_posts_26, s_X6_posts_187, s_X6_posts_172, s_X6_posts_161, s_X6_posts_148, s_X6_posts_141, s_X6_posts_102, s_X6_posts, s_X6_gets, f_X6_letter, f_X6_browser, f_X6_note, f_X6_in, h3, pn_eq, pn_eq0, pn_lt0, pn_ge0, pn_le, pn_lt, pn_cl, pn_in, nI_add, pk_mul, hf, hn2, n1z, pn_m1, nI_0]
    · simp (disch := omega) [s_X6_posts_26, s_X6_posts_187, s_X6_posts_172, s_X6_posts_161, s_X6_posts_148, s_X6_posts_141, s_X6_posts_102, s_X6_posts, s_X6_gets, f_X6_letter, f_X6_browser, f_X6_note, f_X6_in, h3, pn_eq, pn_eq0, pn_lt0, pn_ge0, pn_le, pn_lt, pn_cl, pn_in, nI_add, pk_mul, hf, hn2, n1z, pn_m1, nI_0]
