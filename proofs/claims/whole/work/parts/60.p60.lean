theorem nne {a b : Nat} (ha : a < 2 ^ 31) (hb : b < 2 ^ 31) (h : a ≠ b) : (nI a = nI b) = False := by
  rw [pn_eq ha hb]; exact eq_false h
/-- what a script's call keeps of the reference's own numbers -/
def KG (F F' : Nat → Int32) : Prop := ∀ i, i ≠ 0 → i ≠ 3 → i ≠ 4 → i ≠ 5 → i ≠ 23 → F' i = F i
theorem KG.kf {F F' : Nat → Int32} (h : KF F F') : KG F F' := fun i a b c d _ => h i a b c d
theorem KG.tr {F F1 F2 : Nat → Int32} (a : KG F F1) (b : KG F1 F2) : KG F F2 := fun i h0 h3 h4 h5 h6 => (b i h0 h3 h4 h5 h6).trans (a i h0 h3 h4 h5 h6)
theorem KG.u (F : Nat → Int32) (y : Int32) : KG F (upd F 23 y) := fun i _ _ _ _ h => pu_n _ _ h
theorem QW_23 {C off dear proved nw Dg dw F rl lg : Nat → Int32} {B : Nat} {y : Int32} (Q : QW C off dear proved nw Dg dw F rl lg B) : QW C off dear proved nw Dg dw (upd F 23 y) rl lg B := by
  obtain ⟨nH, nN, nF, nL, t, S, R, H, T, e, D, O⟩ := Q
  obtain ⟨h2, h3, k, s, a1, a2, a3, a4, a5⟩ := D
  exact ⟨nH, nN, nF, nL, t, S, R, H, T, e, ⟨by rw [pu_n _ _ (by omega)]; exact h2, by rw [pu_n _ _ (by omega)]; exact h3, k, s, a1, by rw [pu_n _ _ (by omega)]; exact a2, a3, by rw [pu_n _ _ (by omega)]; exact a4, a5⟩, O⟩
section DON
variable {C off dear proved nw Dg dw F rl lg giv : Nat → Int32} {B : Nat}
theorem op_done (Q : QW C off dear proved nw Dg dw F rl lg B) (hB : B + 6000 < 2 ^ 30) (giv : Nat → Int32) {j : Nat} (hj : j < 8) : ∃ C' pv' Dg' dw' nw' F' rl' lg' : Nat → Int32, ∃ a : Int32, f_X5_isDone C off dear proved Dg dw nw giv (nI j) = (C', pv', Dg', dw', nw', a) ∧ s_X5_isDone C off dear proved Dg dw nw giv (nI j) ∧ f_X6_done F rl lg (nI j) (giv 0) (giv 1) (giv 2) (giv 3) = (F', rl', lg', a) ∧ s_X6_done F rl lg (nI j) (giv 0) (giv 1) (giv 2) (giv 3) ∧ QW C' off dear pv' nw' Dg' dw' F' rl' lg' (B + 6000) ∧ KF F F' := by
  rcases (show j = 0 ∨ j = 1 ∨ j = 2 ∨ j = 3 ∨ j = 4 ∨ j = 5 ∨ j = 6 ∨ j = 7 by omega) with rfl | rfl | rfl | rfl | rfl | rfl | rfl | rfl
  · obtain ⟨C', Dg', nw', F', rl', a, h1, h2, h3, h4, h5, h6⟩ := op_ask Q (giv 0) (giv 1) (giv 2)
    refine ⟨C', proved, Dg', dw, nw', F', rl', lg, if a < 0 then nI 0 else nI 1, ?_, ?_, ?_, ?_, QW_up h5 (by omega), h6⟩
    · simp (disch := omega) only [f_X5_isDone, pn_cl, h1, if_true, f_X5_isDone_70]
      split <;> rfl
    · simp (disch := omega) only [s_X5_isDone, pn_cl, h2, nne, not_true_eq_false, false_implies, true_implies, s_X5_isDone_70, and_true]
    · simp (disch := omega) only [f_X6_done, h3, if_true, f_X6_done_52]
      split <;> rfl
    · simp (disch := omega) only [s_X6_done, h4, nne, not_true_eq_false, false_implies, true_implies, s_X6_done_52, and_true]
  · obtain ⟨C', Dg', nw', F', rl', a, h1, h2, h3, h4, h5, h6⟩ := op_turn Q (giv 0) (giv 1)
    refine ⟨C', proved, Dg', dw, nw', F', rl', lg, if a < 0 then nI 0 else nI 1, ?_, ?_, ?_, ?_, QW_up h5 (by omega), h6⟩
    · simp (disch := omega) only [f_X5_isDone, pn_cl, h1, nne, if_false, if_true, f_X5_isDone_95]
      split <;> rfl
    · simp (disch := omega) only [s_X5_isDone, pn_cl, h2, nne, not_true_eq_false, not_false_eq_true, false_implies, true_implies, s_X5_isDone_95, and_true, true_and]
    · simp (disch := omega) only [f_X6_done, h3, nne, if_false, if_true, f_X6_done_67]
      split <;> rfl
    · simp (disch := omega) only [s_X6_done, h4, nne, not_true_eq_false, not_false_eq_true, false_implies, true_implies, s_X6_done_67, and_true, true_and]
  · obtain ⟨Dg', nw', F', rl', a, h1, h2, h3, h4, h5, h6, h7⟩ := op_show Q (giv 0) (giv 1) (giv 2) (giv 3)
    refine ⟨C, proved, Dg', dw, nw', F', rl', lg, a, ?_, ?_, ?_, ?_, QW_up h5 (by omega), h6⟩
    · simp (disch := omega) only [f_X5_isDone, pn_cl, h1, nne, if_false, if_true]
    · simp (disch := omega) only [s_X5_isDone, pn_cl, h1, h2, h7, nne, not_true_eq_false, not_false_eq_true, false_implies, true_implies, and_true, true_and]
    · simp (disch := omega) only [f_X6_done, h3, nne, if_false, if_true]
    · simp (disch := omega) only [s_X6_done, h3, h4, h7, nne, not_true_eq_false, not_false_eq_true, false_implies, true_implies, and_true, true_and]
  · obtain ⟨Dg', nw', F', rl', a, h1, h2, h3, h4, h5, h6, h7⟩ := op_hand Q (giv 0) (giv 1) (giv 2) (giv 3)
    refine ⟨C, proved, Dg', dw, nw', F', rl', lg, a, ?_, ?_, ?_, ?_, QW_up h5 (by omega), h6⟩
    · simp (disch := omega) only [f_X5_isDone, pn_cl, h1, nne, if_false, if_true]
    · simp (disch := omega) only [s_X5_isDone, pn_cl, h1, h2, h7, nne, not_true_eq_false, not_false_eq_true, false_implies, true_implies, and_true, true_and]
    · simp (disch := omega) only [f_X6_done, h3, nne, if_false, if_true]
    · simp (disch := omega) only [s_X6_done, h3, h4, h7, nne, not_true_eq_false, not_false_eq_true, false_implies, true_implies, and_true, true_and]
  · obtain ⟨Dg', dw', nw', F', rl', lg', a, h1, h2, h3, h4, h5, h6⟩ := op_deliver Q (by omega) (giv 0)
    refine ⟨C, proved, Dg', dw', nw', F', rl', lg', if a < 0 then nI 0 else nI 1, ?_, ?_, ?_, ?_, QW_up h5 (by omega), h6⟩
    · simp (disch := omega) only [f_X5_isDone, pn_cl, h1, nne, if_false, if_true, f_X5_isDone_172]
      split <;> rfl
    · simp (disch := omega) only [s_X5_isDone, pn_cl, h2, nne, not_true_eq_false, not_false_eq_true, false_implies, true_implies, s_X5_isDone_172, and_true, true_and]
    · simp (disch := omega) only [f_X6_done, h3, nne, if_false, if_true, f_X6_done_103]
      split <;> rfl
    · simp (disch := omega) only [s_X6_done, h4, nne, not_true_eq_false, not_false_eq_true, false_implies, true_implies, s_X6_done_103, and_true, true_and]
  · obtain ⟨Dg', dw', nw', F', rl', lg', a, h1, h2, h3, h4, h5, h6⟩ := op_tick Q hB (giv 0)
    refine ⟨C, proved, Dg', dw', nw', F', rl', lg', if a < 0 then nI 0 else nI 1, ?_, ?_, ?_, ?_, h5, h6⟩
    · simp (disch := omega) only [f_X5_isDone, pn_cl, h1, nne, if_false, if_true, f_X5_isDone_191]
      split <;> rfl
    · simp (disch := omega) only [s_X5_isDone, pn_cl, h2, nne, not_true_eq_false, not_false_eq_true, false_implies, true_implies, s_X5_isDone_191, and_true, true_and]
    · simp (disch := omega) only [f_X6_done, h3, nne, if_false, if_true, f_X6_done_117]
      split <;> rfl
    · simp (disch := omega) only [s_X6_done, h4, nne, not_true_eq_false, not_false_eq_true, false_implies, true_implies, s_X6_done_117, and_true, true_and]
  · obtain ⟨pv', F', rl', a, h1, h2, h3, h4, h5, h6, h7⟩ := op_prove Q (giv 0)
    refine ⟨C, pv', Dg, dw, nw, F', rl', lg, a, ?_, ?_, ?_, ?_, QW_up h5 (by omega), h6⟩
    · simp (disch := omega) only [f_X5_isDone, pn_cl, h1, nne, if_false, if_true]
    · simp (disch := omega) only [s_X5_isDone, pn_cl, h1, h2, h7, nne, not_true_eq_false, not_false_eq_true, false_implies, true_implies, and_true, true_and]
    · simp (disch := omega) only [f_X6_done, h3, nne, if_false, if_true]
    · simp (disch := omega) only [s_X6_done, h3, h4, h7, nne, not_true_eq_false, not_false_eq_true, false_implies, true_implies, and_true, true_and]
  · obtain ⟨Dg', nw', F', rl', a, h1, h2, h3, h4, h5, h6, h7⟩ := op_fake Q (giv 0) (giv 1)
    refine ⟨C, proved, Dg', dw, nw', F', rl', lg, a, ?_, ?_, ?_, ?_, QW_up h5 (by omega), h6⟩
    · simp (disch := omega) only [f_X5_isDone, pn_cl, h1, nne, if_false, if_true]
    · simp (disch := omega) only [s_X5_isDone, pn_cl, h1, h2, h7, nne, not_true_eq_false, not_false_eq_true, false_implies, true_implies, and_true, true_and]
    · simp (disch := omega) only [f_X6_done, h3, nne, if_false]
    · simp (disch := omega) only [s_X6_done, h3, h4, h7, nne, not_true_eq_false, not_false_eq_true, false_implies, true_implies, and_true, true_and]
end DON
theorem act8 : ∀ j, j < 8 → (lN j).toInt32 = nI j := by decide
theorem act_c (x : Int64) : (∃ j, j < 8 ∧ x = lN j ∧ ¬ lg_cmp x (0 : Int64) < 0 ∧ lg_cmp x (7 : Int64) ≤ 0 ∧ x.toInt32 = nI j ∧ f_X6_isInt x = nI 1) ∨ ((lg_cmp x (0 : Int64) < 0 ∨ ¬ lg_cmp x (7 : Int64) ≤ 0) ∧ (f_X6_isInt x = nI 0 ∨ f_X6_in x.toInt32 (nI 0) ((8 : Int32) - (nI 1)) = nI 0)) := by
  by_cases h : ∃ j, j < 8 ∧ x = lN j
  · left
    obtain ⟨j, hj, rfl⟩ := h
    refine ⟨j, hj, rfl, ?_, ?_, act8 j hj, ?_⟩
    · rw [lg_cmp_lt]
      have : (0 : Int64) = lN 0 := rfl
      rw [this, pk_lLT (by omega) (by omega)]; omega
    · rw [lg_cmp_le]
      have : (7 : Int64) = lN 7 := rfl
      rw [this, pk_lLE (by omega) (by omega)]; omega
    · unfold f_X6_isInt
      rw [act8 j hj, nI_l (by omega)]
      rw [if_pos (by unfold lg_cmp; rw [if_neg (by rw [gt_iff_lt, pk_lLT (by omega) (by omega)]; omega), if_pos rfl])]
  · right
    constructor
    · by_cases q : lg_cmp x (0 : Int64) < 0
      · exact Or.inl q
      · right
        intro q2
        rw [lg_cmp_lt] at q
        rw [lg_cmp_le] at q2
        obtain ⟨k, hk, rfl⟩ := pk_lOf q
        have : (7 : Int64) = lN 7 := rfl
        rw [this, pk_lLE hk (by omega)] at q2
        exact h ⟨k, by omega, rfl⟩
    · by_cases q : f_X6_isInt x = nI 0
      · exact Or.inl q
      · right
        have e8 : (8 : Int32) = nI 8 := rfl
        rw [e8]
        rcases in_c (n := 8) (by omega) x.toInt32 with ⟨g1, -⟩ | ⟨j, hj, ej, -⟩
        · exact g1
        · exfalso
          unfold f_X6_isInt at q
          by_cases q2 : lg_cmp x x.toInt32.toInt64 = 0
          · have e : x = x.toInt32.toInt64 := by
              unfold lg_cmp at q2
              by_cases z1 : x > x.toInt32.toInt64
              · rw [if_pos z1] at q2; exact absurd q2 (by decide)
              · rw [if_neg z1] at q2
                by_cases z2 : x = x.toInt32.toInt64
                · exact z2
                · rw [if_neg z2] at q2; exact absurd q2 (by decide)
            rw [ej, nI_l (by omega)] at e
            exact h ⟨j, hj, e⟩
          · rw [if_neg q2] at q; exact q rfl
theorem n8_c : ∀ j, j < 8 → ∃ m, 1 ≤ m ∧ m ≤ 4 ∧ ng_N8 j = nI m := by
  intro j hj
  rcases (show j = 0 ∨ j = 1 ∨ j = 2 ∨ j = 3 ∨ j = 4 ∨ j = 5 ∨ j = 6 ∨ j = 7 by omega) with rfl | rfl | rfl | rfl | rfl | rfl | rfl | rfl
  · exact ⟨3, by omega, by omega, rfl⟩
  · exact ⟨2, by omega, by omega, rfl⟩
  · exact ⟨4, by omega, by omega, rfl⟩
  · exact ⟨4, by omega, by omega, rfl⟩
  · exact ⟨1, by omega, by omega, rfl⟩
  · exact ⟨1, by omega, by omega, rfl⟩
  · exact ⟨1, by omega, by omega, rfl⟩
  · exact ⟨2, by omega, by omega, rfl⟩
theorem isInt_c {nm : Nat → Int64} {z i : Nat} (hz : z ≤ 60) (hi : i < z) : f_X3_isInt nm (nI z) (nI i) = f_X6_isInt (nm i) ∧ s_X3_isInt nm (nI z) (nI i) ∧ s_X3_intAt nm (nI z) (nI i) ∧ (f_X6_isInt (nm i) = nI 1 → f_X3_intAt nm (nI z) (nI i) = (nm i).toInt32) := by
  have e : f_X3_isInt nm (nI z) (nI i) = f_X6_isInt (nm i) := by
    unfold f_X3_isInt f_X6_isInt
    simp (disch := omega) only [pn_lt0, pn_le, show ¬ z ≤ i by omega, show ¬ 60 ≤ i by omega, if_false, pn_cl]
  have s : s_X3_isInt nm (nI z) (nI i) := by
    simp (disch := omega) only [s_X3_isInt, pn_in, implies_true, and_true]
  refine ⟨e, s, ?_, ?_⟩
  · simp (disch := omega) only [s_X3_intAt, s, pn_in, implies_true, and_true]
  · intro h
    unfold f_X3_intAt
    rw [e, h, if_neg n1z, pn_cl (by omega)]
theorem int01 (x : Int64) : f_X6_isInt x = nI 0 ∨ f_X6_isInt x = nI 1 := by
  unfold f_X6_isInt
  split
  · exact Or.inr rfl
  · exact Or.inl rfl
section SCR
variable {wid siz ss sw : Nat → Int32} {cel : Nat → Int64} {nu : Nat → Nat → Int64}
theorem read_c {F rl lg : Nat → Int32} {s z at' m : Nat} {kk : (Nat → Int32) → (Nat → Int32) → (Nat → Int32) → (Nat → Int32) → (Nat → Int32) → (Nat → Int64) → (Nat → Int32) → Int32 → Int32 → Int32 → ((Nat → Int32) × (Nat → Int32) × (Nat → Int32) × (Nat → Int32) × Int32)} {sk : (Nat → Int32) → (Nat → Int32) → (Nat → Int32) → (Nat → Int32) → (Nat → Int32) → (Nat → Int64) → (Nat → Int32) → Int32 → Int32 → Int32 → Prop} {v2 : Int32} {v4 : Int64} (hs : s < 4) (hz : z ≤ 60) (z1 : ss s = nI z) (z2 : siz s = nI z) (a4 : ∀ i, i < 60 → nu s i = cel (60 * s + i)) (hm : m ≤ 4) (hat : at' < z) : ∀ (n n' k : Nat) (giv : Nat → Int32), m - k < n → m - k < n' → k ≤ m → (k = 0 ∨ at' + k < z) → ∃ (giv' : Nat → Int32) (r : Int32), f_X5_readAct_40 n nu ss giv s (nI at') (nI m) (nI k) = (giv', r) ∧ s_X5_readAct_40 n nu ss giv s (nI at') (nI m) (nI k) ∧
    ((r = nI 0 ∧ at' + m < z ∧ f_X6_script_94 kk n' F rl lg wid siz cel giv (nI s) v2 (nI at') v4 (nI m) (nI k) = f_X6_script_204 kk ((f_X6_done F rl lg v4.toInt32 (giv' 0) (giv' 1) (giv' 2) (giv' 3)).1) ((f_X6_done F rl lg v4.toInt32 (giv' 0) (giv' 1) (giv' 2) (giv' 3)).2.1) ((f_X6_done F rl lg v4.toInt32 (giv' 0) (giv' 1) (giv' 2) (giv' 3)).2.2.1) wid siz cel giv' (nI s) v2 (nI at') (nI m) ((f_X6_done F rl lg v4.toInt32 (giv' 0) (giv' 1) (giv' 2) (giv' 3)).2.2.2) ∧ (s_X6_done F rl lg v4.toInt32 (giv' 0) (giv' 1) (giv' 2) (giv' 3) ∧ s_X6_script_204 sk ((f_X6_done F rl lg v4.toInt32 (giv' 0) (giv' 1) (giv' 2) (giv' 3)).1) ((f_X6_done F rl lg v4.toInt32 (giv' 0) (giv' 1) (giv' 2) (giv' 3)).2.1) ((f_X6_done F rl lg v4.toInt32 (giv' 0) (giv' 1) (giv' 2) (giv' 3)).2.2.1) wid siz cel giv' (nI s) v2 (nI at') (nI m) ((f_X6_done F rl lg v4.toInt32 (giv' 0) (giv' 1) (giv' 2) (giv' 3)).2.2.2) → s_X6_script_94 sk n' F rl lg wid siz cel giv (nI s) v2 (nI at') v4 (nI m) (nI k))) ∨
     (¬ r = nI 0 ∧ f_X6_script_94 kk n' F rl lg wid siz cel giv (nI s) v2 (nI at') v4 (nI m) (nI k) = (upd F 23 r, rl, lg, giv', v2) ∧ s_X6_script_94 sk n' F rl lg wid siz cel giv (nI s) v2 (nI at') v4 (nI m) (nI k)))
  | 0, _, _, _, h, _, _, _ => by omega
  | _ + 1, 0, _, _, _, h, _, _ => by omega
  | n + 1, n' + 1, k, giv, h1, h2, h3, h4 => by
    have e4 : Int32.ofNat 4 = nI 4 := rfl
    rw [f_X5_readAct_40, s_X5_readAct_40, f_X6_script_94, s_X6_script_94]
    by_cases e : k = m
    · subst e
      refine ⟨giv, nI 0, ?_, ?_, Or.inl ⟨rfl, by omega, ?_, ?_⟩⟩
      · simp (disch := omega) only [pn_le, Nat.le_refl, if_true]
      · simp (disch := omega) only [pn_le, Nat.le_refl, not_true_eq_false, false_implies]
      · simp (disch := omega) only [pn_le, Nat.le_refl, if_true, pn_cl]
      · intro q
        simp (disch := omega) only [pn_le, Nat.le_refl, true_implies, not_true_eq_false, false_implies, and_true, pn_cl]
        exact q
    · simp (disch := omega) only [e4, pn_le, show ¬ m ≤ k by omega, show ¬ 4 ≤ k by omega, if_false, not_false_eq_true, true_implies, false_implies, true_and, nI_add, pk_mul, pn_cl, pn_in, z1, z2, pn_lt]
      by_cases c : at' + 1 + k < z
      · have ic := isInt_c (nm := nu s) hz c
        have ea : nu s (at' + 1 + k) = cel (60 * s + at' + 1 + k) := by rw [a4 _ (by omega)]; congr 1; omega
        simp only [c, if_true, true_implies, ic.1, ic.2.1, ic.2.2.1, true_and]
        rw [ea]
        rcases int01 (cel (60 * s + at' + 1 + k)) with i0 | i1
        · refine ⟨giv, nI 4, ?_, ?_, Or.inr ⟨by decide, ?_, ?_⟩⟩
          · rw [i0, if_pos b_n0]
          · exact fun q => absurd (by rw [i0]; exact b_n0) q
          · rw [i0, if_pos b_n0]
          · simp (disch := omega) only [pn_in, true_and]
            exact fun q => absurd (by rw [i0]; exact b_n0) q
        · have ei := ic.2.2.2 (by rw [ea]; exact i1)
          rw [ea] at ei
          have ih := read_c (F := F) (rl := rl) (lg := lg) (kk := kk) (sk := sk) (v2 := v2) (v4 := v4) hs hz z1 z2 a4 hm hat n n' (k + 1) (upd giv k (cel (60 * s + at' + 1 + k)).toInt32) (by omega) (by omega) (by omega) (Or.inr (by omega))
          rw [ei, i1]
          simp (disch := omega) only [n1z, if_false, not_false_eq_true, true_implies, pn_in, true_and]
          exact ih
      · refine ⟨giv, nI 6, ?_, ?_, Or.inr ⟨by decide, ?_, ?_⟩⟩
        · rw [if_neg c]
        · exact fun q => absurd q c
        · rw [if_neg c]
        · exact fun q => absurd q c
theorem script_l {off dear : Nat → Int32} {s z : Nat} (hs : s < 4) (hz : z ≤ 60) (z1 : ss s = nI z) (z2 : siz s = nI z) (a4 : ∀ i, i < 60 → nu s i = cel (60 * s + i)) : ∀ (n n' at' d B : Nat) (C proved Dg dw nw giv F rl lg : Nat → Int32), z - at' < n → z - at' < n' → at' ≤ z → 2 * d ≤ at' → B + 6000 * (z - at') < 2 ^ 30 → QW C off dear proved nw Dg dw F rl lg B → F 23 = nI 0 → ∃ C' pv' Dg' dw' nw' giv' F' rl' lg' : Nat → Int32, ∃ sE' a : Int32, f_X5_script_38 n C off dear proved Dg dw nw nu sw ss giv (nI 0) s (nI d) (nI at') = (C', pv', Dg', dw', nw', giv', sE', a) ∧ s_X5_script_38 n C off dear proved Dg dw nw nu sw ss giv (nI 0) s (nI d) (nI at') ∧ f_X6_script_36 n' F rl lg wid siz cel giv (nI s) (nI d) (nI at') = (F', rl', lg', giv', a) ∧ s_X6_script_36 n' F rl lg wid siz cel giv (nI s) (nI d) (nI at') ∧ QW C' off dear pv' nw' Dg' dw' F' rl' lg' (B + 6000 * (z - at')) ∧ F' 23 = sE' ∧ KG F F'
  | 0, _, _, _, _, _, _, _, _, _, _, _, _, _, h, _, _, _, _, _, _ => by omega
  | _ + 1, 0, _, _, _, _, _, _, _, _, _, _, _, _, _, h, _, _, _, _, _ => by omega
  | n + 1, n' + 1, at', d, B, C, proved, Dg, dw, nw, giv, F, rl, lg, h1, h2, h3, h4, h5, Q, h6 => by
    rw [f_X5_script_38, s_X5_script_38, f_X6_script_36, s_X6_script_36]
    by_cases e : at' = z
    · subst e
      refine ⟨C, proved, Dg, dw, nw, giv, F, rl, lg, nI 0, nI d, ?_, ?_, ?_, ?_, QW_up Q (by omega), h6, fun _ _ _ _ _ _ => rfl⟩
      · simp (disch := omega) only [z1, pn_le, Nat.le_refl, if_true]
      · simp (disch := omega) only [z1, pn_le, Nat.le_refl, not_true_eq_false, false_implies]
      · simp (disch := omega) only [pn_cl, z2, pn_le, Nat.le_refl, if_true]
      · simp (disch := omega) only [pn_cl, pn_in, z2, pn_le, Nat.le_refl, not_true_eq_false, false_implies, and_true]
    have hat : at' < z := by omega
    have ic := isInt_c (nm := nu s) hz hat
    have ea := a4 at' (by omega)
    have sq : s_X6_script_75 F rl lg wid siz cel giv (nI d) := trivial
    rcases act_c (cel (60 * s + at')) with ⟨j, hj, ej, c1, c2, c3, c4⟩ | ⟨c1, c2⟩
    · obtain ⟨m, hm1, hm2, em⟩ := n8_c j hj
      have ei : f_X3_intAt (nu s) (nI z) (nI at') = nI j := by rw [ic.2.2.2 (by rw [ea]; exact c4), ea, c3]
      have i1 : f_X3_isInt (nu s) (nI z) (nI at') = nI 1 := by rw [ic.1, ea, c4]
      have wn : f_X5_within (nI j) (nI 0) ((8 : Int32) - (nI 1)) = nI 1 := by
        have e8 : (8 : Int32) = nI 8 := rfl
        rw [wi, e8]
        rcases in_c (n := 8) (by omega) (nI j) with ⟨-, g2⟩ | ⟨_, _, _, g1⟩
        · exact absurd ⟨j, hj, rfl⟩ g2
        · exact g1
      have en : f_X5_needs (nI j) = nI m ∧ s_X5_needs (nI j) := by
        have e8 : (8 : Int32) = nI 8 := rfl
        unfold f_X5_needs s_X5_needs
        rw [e8]
        simp (disch := omega) only [pn_lt0, pn_le, show ¬ 8 ≤ j by omega, if_false, pn_cl, em, pn_in, implies_true, and_self]
      obtain ⟨giv', r, r1, r2, r3⟩ := read_c (F := F) (rl := rl) (lg := lg) (kk := f_X6_script_36 n') (sk := s_X6_script_36 n') (v2 := nI d) (v4 := cel (60 * s + at')) (wid := wid) hs hz z1 z2 a4 hm2 hat ng_F ng_F 0 giv (by rw [ng_F_v]; omega) (by rw [ng_F_v]; omega) (by omega) (Or.inl rfl)
      have ra : f_X5_readAct nu ss giv s (nI at') = (giv', r) ∧ s_X5_readAct nu ss giv s (nI at') := by
        unfold f_X5_readAct s_X5_readAct
        rw [z1, i1, ei, wn, en.1]
        simp only [n1z, if_false, not_false_eq_true, true_implies, ic.2.1, ic.2.2.1, en.2, r2, and_true]
        exact r1
      have hk : ¬ (60 : Nat) ≤ d := by omega
      simp (disch := omega) only [z1, z2, pn_le, show ¬ z ≤ at' by omega, hk, if_false, not_false_eq_true, true_implies, ra.1, ra.2, true_and, pn_cl, pk_mul, nI_add, pn_in, c1, c2, if_true, c3, em, false_implies, and_true, not_true_eq_false]
      rcases r3 with ⟨rfl, hat2, r4, r5⟩ | ⟨hr, r4, r5⟩
      · obtain ⟨C1, pv1, Dg1, dw1, nw1, F1, rl1, lg1, a, d1, d2, d3, d4, d5, d6⟩ := op_done Q (by omega) giv' hj
        rw [c3, d3] at r4 r5
        rw [r4]
        unfold f_X5_script_61 s_X5_script_61 f_X6_script_204
        rw [z1, ei, d1, if_pos b_n0]
        simp only [n00, true_implies, ic.2.2.1, d2, true_and]
        unfold f_X5_script_87 s_X5_script_87
        by_cases ca : a = 0
        · refine ⟨C1, pv1, Dg1, dw1, nw1, giv', upd F1 23 (nI 3), rl1, lg1, nI 3, nI d, ?_, ?_, ?_, ?_, QW_23 (QW_up d5 (by omega)), pu_s _ _ _, (KG.kf d6).tr (KG.u _ _)⟩
          · rw [if_pos ca]
          · exact fun q => absurd ca q
          · rw [if_pos ca]
          · refine r5 ⟨d4, ?_⟩
            unfold s_X6_script_204
            exact fun q => absurd ca q
        · have f23 : F1 23 = nI 0 := by rw [d6 23 (by omega) (by omega) (by omega) (by omega)]; exact h6
          obtain ⟨C2, pv2, Dg2, dw2, nw2, giv2, F2, rl2, lg2, sE2, a2, i1, i2, i3, i4, i5, i6, i7⟩ := script_l (off := off) (dear := dear) hs hz z1 z2 a4 n n' (at' + (1 + m)) (d + 1) (B + 6000) C1 pv1 Dg1 dw1 nw1 giv' F1 rl1 lg1 (by omega) (by omega) (by omega) (by omega) (by omega) d5 f23
          refine ⟨C2, pv2, Dg2, dw2, nw2, giv2, F2, rl2, lg2, sE2, a2, ?_, ?_, ?_, ?_, QW_up i5 (by omega), i6, (KG.kf d6).tr i7⟩
          · rw [if_neg ca, en.1, nI_add, nI_add, nI_add]; exact i1
          · rw [en.1, nI_add, nI_add, nI_add]; exact fun _ => ⟨en.2, i2⟩
          · rw [if_neg ca, nI_add, nI_add, nI_add, Nat.add_comm m 1]; exact i3
          · refine r5 ⟨d4, ?_⟩
            unfold s_X6_script_204
            rw [nI_add, nI_add, nI_add, Nat.add_comm m 1]
            exact fun _ => i4
      · refine ⟨C, proved, Dg, dw, nw, giv', upd F 23 r, rl, lg, r, nI d, ?_, ?_, r4, r5, QW_23 (QW_up Q (by omega)), pu_s _ _ _, KG.u _ _⟩
        · unfold f_X5_script_61; rw [if_neg (show ¬ r = 0 from hr)]
        · unfold s_X5_script_61; exact fun q => absurd q hr
    · have ra : f_X5_readAct nu ss giv s (nI at') = (giv, nI 4) ∧ s_X5_readAct nu ss giv s (nI at') := by
        unfold f_X5_readAct s_X5_readAct
        rw [z1, ic.1, ea]
        rcases c2 with c2 | c2
        · rw [c2, if_pos b_n0]
          exact ⟨rfl, ic.2.1, fun q => absurd b_n0 q⟩
        · rcases int01 (cel (60 * s + at')) with i0 | i1
          · rw [i0, if_pos b_n0]
            exact ⟨rfl, ic.2.1, fun q => absurd b_n0 q⟩
          · have ei : f_X3_intAt (nu s) (nI z) (nI at') = (cel (60 * s + at')).toInt32 := by rw [ic.2.2.2 (by rw [ea]; exact i1), ea]
            rw [ei, wi, c2, i1, if_neg n1z, if_pos b_n0]
            exact ⟨rfl, ic.2.1, fun _ => ⟨ic.2.2.1, fun q => absurd b_n0 q⟩⟩
      have hk : ¬ (60 : Nat) ≤ d := by omega
      refine ⟨C, proved, Dg, dw, nw, giv, upd F 23 (nI 4), rl, lg, nI 4, nI d, ?_, ?_, ?_, ?_, QW_23 (QW_up Q (by omega)), pu_s _ _ _, KG.u _ _⟩
      · simp (disch := omega) only [z1, pn_le, show ¬ z ≤ at' by omega, hk, if_false, ra.1]
        unfold f_X5_script_61
        rw [if_neg (by decide)]
      · simp (disch := omega) only [z1, pn_le, show ¬ z ≤ at' by omega, hk, not_false_eq_true, true_implies, ra.1, ra.2, true_and]
        unfold s_X5_script_61
        exact fun q => absurd q (by decide)
      · simp (disch := omega) only [z2, pn_le, show ¬ z ≤ at' by omega, if_false, pn_cl, pk_mul, nI_add, f_X6_script_75]
        rcases c1 with c1 | c1
        · rw [if_pos c1]
        · rw [if_neg c1, ite_self]
      · simp (disch := omega) only [z2, pn_le, show ¬ z ≤ at' by omega, not_false_eq_true, true_implies, pn_cl, pk_mul, nI_add, pn_in, sq, implies_true, true_and, and_true]
        exact fun q1 q2 => c1.elim (fun z => absurd z q1) (fun z => absurd q2 z)
theorem op_script {C off dear proved Dg dw nw giv F rl lg : Nat → Int32} {sE : Int32} {B : Nat} (Q : QW C off dear proved nw Dg dw F rl lg B) (S : SL nu sw ss wid siz cel) (hB : B + 360000 < 2 ^ 30) (he : F 23 = sE) (v1 : Int32) : ∃ C' pv' Dg' dw' nw' giv' F' rl' lg' : Nat → Int32, ∃ sE' a : Int32, f_X5_script C off dear proved Dg dw nw nu sw ss giv sE v1 = (C', pv', Dg', dw', nw', giv', sE', a) ∧ s_X5_script C off dear proved Dg dw nw nu sw ss giv sE v1 ∧ f_X6_script F rl lg wid siz cel giv v1 = (F', rl', lg', giv', a) ∧ s_X6_script F rl lg wid siz cel giv v1 ∧ QW C' off dear pv' nw' Dg' dw' F' rl' lg' (B + 360000) ∧ F' 23 = sE' ∧ KG F F' := by
  have Q0 := QW_up (B' := B + 360000) (QW_0 (y := nI 0) Q) (by omega)
  have e0 : upd F 0 (nI 0) 23 = sE := by rw [pu_n _ _ (by omega)]; exact he
  rcases sl_c v1 with ⟨g1, g2, g3, g4⟩ | ⟨s, hs, rfl, g1, g2, g3, g4⟩
  · refine ⟨C, proved, Dg, dw, nw, giv, _, rl, lg, sE, (-2), ?_, ?_, ?_, ?_, Q0, e0, KG.kf (KF.r0 F)⟩
    · simp only [f_X5_script, g1, n00, if_true]
    · simp only [s_X5_script, g1, n00, g3, not_true_eq_false, false_implies, and_true]
    · simp only [f_X6_script, g2, n00, if_true]
    · simp only [s_X6_script, g2, g4, n00, not_true_eq_false, false_implies, and_true]
  obtain ⟨a1, a2, ⟨z, hz, z1, z2⟩, a4⟩ := S s hs
  rcases la_c a2 with ⟨b0, b1, b2, b3⟩ | ⟨b1, b2, b3⟩
  · refine ⟨C, proved, Dg, dw, nw, giv, _, rl, lg, sE, (-5), ?_, ?_, ?_, ?_, Q0, e0, KG.kf (KF.r0 F)⟩
    · simp (disch := omega) only [f_X5_script, g1, n1z, if_false, pn_cl, a1, b1, n00, if_true]
    · simp (disch := omega) only [s_X5_script, g3, pn_cl, pn_in, a1, b1, n00, not_true_eq_false, false_implies, implies_true, and_true]
    · simp (disch := omega) only [f_X6_script, g2, n1z, if_false, pn_cl, b2]
    · simp (disch := omega) only [s_X6_script, g4, pn_cl, pn_in, b2, false_implies, implies_true, and_true]
  · obtain ⟨C2, pv2, Dg2, dw2, nw2, giv2, F2, rl2, lg2, sE2, a2', i1, i2, i3, i4, i5, i6, i7⟩ := script_l (wid := wid) (sw := sw) (off := off) (dear := dear) hs hz z1 z2 a4 ng_F ng_F 0 0 B C proved Dg dw nw giv (upd (upd F 0 (nI 0)) 23 (nI 0)) rl lg (by rw [ng_F_v]; omega) (by rw [ng_F_v]; omega) (by omega) (by omega) (by omega) (QW_23 (QW_0 Q)) (pu_s _ _ _)
    refine ⟨C2, pv2, Dg2, dw2, nw2, giv2, F2, rl2, lg2, sE2, a2', ?_, ?_, ?_, ?_, QW_up i5 (by omega), i6, ((KG.kf (KF.r0 F)).tr (KG.u _ _)).tr i7⟩
    · simp (disch := omega) only [f_X5_script, g1, n1z, if_false, pn_cl, a1, b1]; exact i1
    · simp (disch := omega) only [s_X5_script, g3, pn_cl, pn_in, true_and]; exact fun _ _ => i2
    · simp (disch := omega) only [f_X6_script, g2, n1z, if_false, pn_cl, b2, if_true]; exact i3
    · simp (disch := omega) only [s_X6_script, g4, pn_cl, pn_in, true_and]; exact fun _ _ => i4
end SCR
