def gK (C w : Nat → Int32) (x f : Nat) : Prop := ¬ C 9 = 0 ∧ w (26 + f * 2 + 1) = (-1) ∧ ¬ (w (142 + x * 11 + 5) ≤ w 0)
theorem up_1 {C w : Nat → Int32} {nH nN nF nL t : Nat} (R : WR C w nH nN nF nL t) : (C 9 = nI 1) = (¬ C 9 = 0) := by
  rcases R.2.2.2.2.2.2.2.2.2 with h | h
  · rw [h]; decide
  · rw [h]; decide
theorem gk_c {C w : Nat → Int32} {nH nN nF nL t x f : Nat} (R : WR C w nH nN nF nL t) (hx : x < nN) (hf : f < nF) (ef : w (142 + x * 11 + 6) = nI f) : (f_X4_isGoodForKeeper w C (nI x) = 0) = (¬ gK C w x f) ∧ s_X4_isGoodForKeeper w C (nI x) := by
  have hN := R.2.1.2
  have hF := R.2.2.1.2
  unfold gK
  simp (disch := omega) only [f_X4_isGoodForKeeper_83, f_X4_isGoodForKeeper_82, f_X4_isGoodForKeeper, s_X4_isGoodForKeeper_83, s_X4_isGoodForKeeper_82, s_X4_isGoodForKeeper, pn_cl, R.2.1.1, pn_lt0, pn_le, pn_lt, show ¬ nN ≤ x by omega, show x < 32 by omega, nI_add, pk_mul, ef, show ¬ 16 ≤ f by omega, if_false, if_true, pn_in, n1z]
  by_cases a : C 9 = 0
  · simp [a, nI_0]
  · by_cases b : w (26 + f * 2 + 1) = (-1)
    · by_cases c : w (142 + x * 11 + 5) ≤ w 0
      · simp [a, b, c, nI_0, n1z]
      · simp [a, b, c, nI_0, n1z]
    · simp [a, b, nI_0, n1z]
theorem gk_v (C off dear proved : Nat → Int32) {w : Nat → Int32} {nH nN nF nL t x f : Nat} (R : WR C w nH nN nF nL t) (hx : x < nN) (hf : f < nF) (ef : w (142 + x * 11 + 6) = nI f) : (f_X6_isGood (eV C off dear proved w) (nI x) = 0) = (¬ gK C w x f) ∧ s_X6_isGood (eV C off dear proved w) (nI x) := by
  have hN := R.2.1.2
  have hF := R.2.2.1.2
  unfold gK
  simp (disch := omega) only [f_X6_isGood, f_X6_note, f_X6_family, s_X6_isGood, pn_cl, eV_1, eV_0, up_1 R, nI_add, pk_mul, eV_n C off dear proved w R.2.1.1 hN hx, ef, eV_f C off dear proved w R.2.2.1.1 hF hf, pn_in]
  by_cases a : C 9 = 0
  · simp [a, nI_0]
  · by_cases b : w (26 + f * 2 + 1) = (-1)
    · by_cases c : w (142 + x * 11 + 5) ≤ w 0
      · simp [a, b, c, nI_0, n1z]
      · simp [a, b, c, nI_0, n1z]
    · simp [a, b, nI_0, n1z]
/-- the two notes of a turn -/
def rnW (C w : Nat → Int32) (nN x : Nat) : Nat → Int32 :=
  aW (aW (upd w (142 + x * 11 + 9) (nI 1)) nN (n11 (nI 0) (w (142 + x * 11 + 1)) (w (142 + x * 11 + 2)) (w (142 + x * 11 + 3)) (w 0) (w 0 + C 0) (w (142 + x * 11 + 6)) (w (142 + x * 11 + 7)) (-1) (nI 0) (nI 0))) (nN + 1) (n11 (nI 1) (w (142 + x * 11 + 1)) (w (142 + x * 11 + 2)) (w (142 + x * 11 + 3)) (w 0) (w (142 + x * 11 + 5)) (w (142 + x * 11 + 6)) (w (142 + x * 11 + 7)) (-1) (nI 0) (nI 0))
def rnV (v : Nat → Int32) (nN x : Nat) : Nat → Int32 :=
  aV (aV (upd v (59 + 11 * x + 9) (nI 1)) nN (n11 (nI 0) (v (59 + 11 * x + 1)) (v (59 + 11 * x + 2)) (v (59 + 11 * x + 3)) (v 0) (v 0 + v 4) (v (59 + 11 * x + 6)) (v (59 + 11 * x + 7)) (-1) (nI 0) (nI 0))) (nN + 1) (n11 (nI 1) (v (59 + 11 * x + 1)) (v (59 + 11 * x + 2)) (v (59 + 11 * x + 3)) (v 0) (v (59 + 11 * x + 5)) (v (59 + 11 * x + 6)) (v (59 + 11 * x + 7)) (-1) (nI 0) (nI 0))
theorem WX_rn {C w : Nat → Int32} {nH nN nF nL t x : Nat} (R : WR C w nH nN nF nL t) (hx : x < nN) (hN : nN + 2 ≤ 32) : WX C w (rnW C w nN x) nH nN nF nL t (nN + 2) nF nL := by
  obtain ⟨⟨h, h1, h2⟩, f, f1, f2⟩ := R.2.2.2.2.2.1 x hx
  have a : WX C w (upd w (142 + x * 11 + 9) (nI 1)) nH nN nF nL t nN nF nL := WX_cg R (fun i hi => pu_n _ _ (by omega)) (fun x j hx hj => pu_n _ _ (by omega)) (fun i h1 h2 => pu_n _ _ (by omega)) (fun H y h hy h1 h2 => by rw [pu_n _ _ (by omega)]; exact H y h hy h1 h2)
  have b := WX_aW (g := n11 (nI 0) (w (142 + x * 11 + 1)) (w (142 + x * 11 + 2)) (w (142 + x * 11 + 3)) (w 0) (w 0 + C 0) (w (142 + x * 11 + 6)) (w (142 + x * 11 + 7)) (-1) (nI 0) (nI 0)) a.1 (by omega) ⟨h, h1, h2⟩ ⟨f, f1, f2⟩ rfl
  have c := WX_aW (g := n11 (nI 1) (w (142 + x * 11 + 1)) (w (142 + x * 11 + 2)) (w (142 + x * 11 + 3)) (w 0) (w (142 + x * 11 + 5)) (w (142 + x * 11 + 6)) (w (142 + x * 11 + 7)) (-1) (nI 0) (nI 0)) b.1 (by omega) ⟨h, h1, h2⟩ ⟨f, f1, f2⟩ rfl
  exact a.tr (b.tr c)
theorem eV_rn (C off dear proved : Nat → Int32) {w : Nat → Int32} {nH nN nF nL t x : Nat} (R : WR C w nH nN nF nL t) (hx : x < nN) (hN : nN + 2 ≤ 32) : eV C off dear proved (rnW C w nN x) = rnV (eV C off dear proved w) nN x := by
  have e := fun j hj => eV_n C off dear proved w (j := j) R.2.1.1 R.2.1.2 hx hj
  unfold rnW rnV
  rw [eV_aW C off dear proved _ aW_1 (by omega), eV_aW C off dear proved _ (by rw [pu_n _ _ (by omega)]; exact R.2.1.1) (by omega), eV_uN C off dear proved w _ R.2.1.1 R.2.1.2 hx (by omega), e 1 (by omega), e 2 (by omega), e 3 (by omega), e 5 (by omega), e 6 (by omega), e 7 (by omega)]
  rfl
set_option maxRecDepth 4000 in
theorem rn_c {C w : Nat → Int32} {nH nN nF nL t x : Nat} (R : WR C w nH nN nF nL t) (hx : x < nN) (hN : nN + 2 ≤ 32) : f_X4_renew_65 w C (nI x) (nI (142 + x * 11)) = (rnW C w nN x, nI 2) ∧ s_X4_renew_65 w C (nI x) (nI (142 + x * 11)) := by
  have h1 := R.2.1.1
  have a1 := add_eq (w := upd w (142 + x * 11 + 9) (nI 1)) (n := nN) (x := x) (kd := nI 0) (till := w 0 + C 0) (by rw [pu_n _ _ (by omega)]; exact h1) (by omega) (by omega)
  simp (disch := omega) only [pu_n] at a1
  have a2 := add_eq (w := aW (upd w (142 + x * 11 + 9) (nI 1)) nN (n11 (nI 0) (w (142 + x * 11 + 1)) (w (142 + x * 11 + 2)) (w (142 + x * 11 + 3)) (w 0) (w 0 + C 0) (w (142 + x * 11 + 6)) (w (142 + x * 11 + 7)) (-1) (nI 0) (nI 0))) (n := nN + 1) (x := x) (kd := nI 1) (till := w (142 + x * 11 + 5)) aW_1 (by omega) (by omega)
  have k : ∀ i, i ≠ 1 → i < 142 + x * 11 + 8 → aW (upd w (142 + x * 11 + 9) (nI 1)) nN (n11 (nI 0) (w (142 + x * 11 + 1)) (w (142 + x * 11 + 2)) (w (142 + x * 11 + 3)) (w 0) (w 0 + C 0) (w (142 + x * 11 + 6)) (w (142 + x * 11 + 7)) (-1) (nI 0) (nI 0)) i = w i := fun i h1 h2 => by rw [aW_at (by omega) (by omega), pu_n _ _ (by omega)]
  simp (disch := omega) only [k] at a2
  unfold f_X4_renew_65 s_X4_renew_65
  simp (disch := omega) only [pn_cl, h1, nI_add, pn_le, hN, if_true, pn_in, true_implies, true_and]
  simp (disch := omega) only [pu_n]
  rw [a1.1]
  unfold f_X4_renew_110 s_X4_renew_110
  simp (disch := omega) only [pn_cl, nI_add, k, pn_in]
  rw [a2.1]
  exact ⟨rfl, a1.2, trivial, a2.2⟩
set_option maxRecDepth 4000 in
theorem rn_v {v F : Nat → Int32} {b z o : Int32} {nN x : Nat} (h12 : v 12 = nI nN) (hx : x < nN) (hN : nN + 2 ≤ 32) : f_X6_turned_65 v F b z o (nI (59 + 11 * x)) = f_X6_turned_177 (rnV v nN x) F b z o (nI nN) (nI (nN + 1)) ∧ (s_X6_turned_177 (rnV v nN x) F b z o (nI nN) (nI (nN + 1)) → s_X6_turned_65 v F b z o (nI (59 + 11 * x))) := by
  have g1 := given_eq (v := upd v (59 + 11 * x + 9) (nI 1)) (n := nN) (kd := nI 0) (p := v (59 + 11 * x + 1)) (h := v (59 + 11 * x + 2)) (r := v (59 + 11 * x + 3)) (till := v 0 + v 4) (f := v (59 + 11 * x + 6)) (pr := v (59 + 11 * x + 7)) (fr := -1) (by rw [pu_n _ _ (by omega)]; exact h12) (by omega)
  rw [pu_n _ _ (by omega)] at g1
  have g2 := given_eq (v := aV (upd v (59 + 11 * x + 9) (nI 1)) nN (n11 (nI 0) (v (59 + 11 * x + 1)) (v (59 + 11 * x + 2)) (v (59 + 11 * x + 3)) (v 0) (v 0 + v 4) (v (59 + 11 * x + 6)) (v (59 + 11 * x + 7)) (-1) (nI 0) (nI 0))) (n := nN + 1) (kd := nI 1) (p := v (59 + 11 * x + 1)) (h := v (59 + 11 * x + 2)) (r := v (59 + 11 * x + 3)) (till := v (59 + 11 * x + 5)) (f := v (59 + 11 * x + 6)) (pr := v (59 + 11 * x + 7)) (fr := -1) aV_12 (by omega)
  have k : ∀ i, i ≠ 12 → i < 59 + 11 * x + 8 → aV (upd v (59 + 11 * x + 9) (nI 1)) nN (n11 (nI 0) (v (59 + 11 * x + 1)) (v (59 + 11 * x + 2)) (v (59 + 11 * x + 3)) (v 0) (v 0 + v 4) (v (59 + 11 * x + 6)) (v (59 + 11 * x + 7)) (-1) (nI 0) (nI 0)) i = v i := fun i h1 h2 => by rw [aV_at (by omega) (by omega), pu_n _ _ (by omega)]
  rw [k 0 (by omega) (by omega)] at g2
  unfold f_X6_turned_65 s_X6_turned_65
  simp (disch := omega) only [pn_cl, h12, nI_add, pn_le, show nN ≤ 30 by omega, if_true, pn_in, true_implies, true_and]
  simp (disch := omega) only [pu_n]
  rw [g1.1]
  unfold f_X6_turned_130 s_X6_turned_130
  simp (disch := omega) only [pn_cl, nI_add, k, pn_in, true_and]
  rw [g2.1]
  exact ⟨rfl, fun h => ⟨g1.2, g2.2, h⟩⟩
theorem rn_all (C off dear proved : Nat → Int32) {w : Nat → Int32} {nH nN nF nL t x f : Nat} (R : WR C w nH nN nF nL t) (hx : x < nN) (hf : f < nF) (ef : w (142 + x * 11 + 6) = nI f) :
    s_X4_renew w C (nI x) ∧
    ((f_X4_renew w C (nI x) = (w, nI 0) ∧ ∀ F b z o, f_X6_turned (eV C off dear proved w) F b (nI x) z o = (eV C off dear proved w, F, nI 0) ∧ s_X6_turned (eV C off dear proved w) F b (nI x) z o) ∨
     (f_X4_renew w C (nI x) = (w, nI 1) ∧ ∀ F b z o, f_X6_turned (eV C off dear proved w) F b (nI x) z o = ((f_X6_ends (eV C off dear proved w) F (nI f)).1, (f_X6_ends (eV C off dear proved w) F (nI f)).2, nI 1) ∧ (s_X6_ends (eV C off dear proved w) F (nI f) → s_X6_turned (eV C off dear proved w) F b (nI x) z o)) ∨
     (nN + 2 ≤ 32 ∧ f_X4_renew w C (nI x) = (rnW C w nN x, nI 2) ∧ ∀ F b z o, f_X6_turned (eV C off dear proved w) F b (nI x) z o = f_X6_turned_177 (eV C off dear proved (rnW C w nN x)) F b z o (nI nN) (nI (nN + 1)) ∧ (s_X6_turned_177 (eV C off dear proved (rnW C w nN x)) F b z o (nI nN) (nI (nN + 1)) → s_X6_turned (eV C off dear proved w) F b (nI x) z o))) := by
  have hN := R.2.1.2
  have hH := R.1.2
  obtain ⟨⟨h, hh, eh⟩, -⟩ := R.2.2.2.2.2.1 x hx
  have e := fun j hj => eV_n C off dear proved w (j := j) R.2.1.1 R.2.1.2 hx hj
  have g1 := gk_c R hx hf ef
  have g2 := gk_v C off dear proved R hx hf ef
  have c7 : eV C off dear proved w 3 = C 7 := rfl
  have c12 : eV C off dear proved w 12 = nI nN := R.2.1.1
  have k65 : ∀ {F b z o}, 30 < nN → f_X6_turned_65 (eV C off dear proved w) F b z o (nI (59 + 11 * x)) = (eV C off dear proved w, F, nI 0) ∧ s_X6_turned_65 (eV C off dear proved w) F b z o (nI (59 + 11 * x)) := fun {F b z o} h => by
    unfold f_X6_turned_65 s_X6_turned_65
    simp (disch := omega) only [pn_cl, c12, pn_le, show ¬ nN ≤ 30 by omega, if_false, false_implies, and_self]
  have j65 : 30 < nN → f_X4_renew_65 w C (nI x) (nI (142 + x * 11)) = (w, nI 0) ∧ s_X4_renew_65 w C (nI x) (nI (142 + x * 11)) := fun h => by
    unfold f_X4_renew_65 s_X4_renew_65
    simp (disch := omega) only [pn_cl, R.2.1.1, nI_add, pn_le, show ¬ nN + 2 ≤ 32 by omega, if_false, false_implies, and_self]
  simp (disch := omega) only [f_X4_renew, s_X4_renew, f_X6_turned, s_X6_turned, g1.2, g2.2, f_X6_note, f_X6_house, pn_cl, nI_add, pk_mul, eh, isIn_eq, if10, e, eV_in0 C off dear proved w (show h < 4 by omega), on_eq, isOn_eq, c7, pn_in, ef]
  by_cases a : gK C w x f
  · have q1 : (f_X4_isGoodForKeeper w C (nI x) = 0) = False := by rw [g1.1]; simp only [a, not_true_eq_false]
    have q2 : (f_X6_isGood (eV C off dear proved w) (nI x) = 0) = False := by rw [g2.1]; simp only [a, not_true_eq_false]
    simp only [q1, q2, if_false, not_false_eq_true, true_implies]
    by_cases b : bt (C 11) h = true
    · by_cases c : w (142 + x * 11 + 9) = nI 1 ∧ bt (C 7) 5 = true
      · simp only [a, b, c, not_true_eq_false, if_false, if_true, true_implies, false_implies, implies_true, and_true, true_and, not_false_eq_true]
        exact Or.inr (Or.inl fun F b z o s => s)
      · rcases Nat.lt_or_ge 30 nN with d | d
        · by_cases c1 : w (142 + x * 11 + 9) = nI 1
          · have c2 : bt (C 7) 5 = false := by
              cases q : bt (C 7) 5 with
              | false => rfl
              | true => exact absurd ⟨c1, q⟩ c
            simp only [a, b, c1, c2, not_true_eq_false, if_false, if_true, true_implies, false_implies, implies_true, and_true, true_and, not_false_eq_true, Bool.false_eq_true, (j65 d).1, (j65 d).2, (k65 d).1, (k65 d).2, true_or]
          · simp only [a, b, c1, not_true_eq_false, if_false, if_true, true_implies, false_implies, implies_true, and_true, true_and, not_false_eq_true, (j65 d).1, (j65 d).2, (k65 d).1, (k65 d).2, true_or]
        · have rc := rn_c R hx (by omega)
          have rv := fun F b z o => rn_v (F := F) (b := b) (z := z) (o := o) c12 hx (by omega)
          rw [eV_rn C off dear proved R hx (by omega)]
          by_cases c1 : w (142 + x * 11 + 9) = nI 1
          · have c2 : bt (C 7) 5 = false := by
              cases q : bt (C 7) 5 with
              | false => rfl
              | true => exact absurd ⟨c1, q⟩ c
            simp only [a, b, c1, c2, not_true_eq_false, if_false, if_true, true_implies, false_implies, implies_true, and_true, true_and, not_false_eq_true, Bool.false_eq_true, rc.1, rc.2]
            exact Or.inr (Or.inr ⟨by omega, rv⟩)
          · simp only [a, b, c1, not_true_eq_false, if_false, if_true, true_implies, false_implies, implies_true, and_true, true_and, not_false_eq_true, rc.1, rc.2]
            exact Or.inr (Or.inr ⟨by omega, rv⟩)
    · simp only [a, b, not_true_eq_false, if_false, if_true, true_implies, false_implies, implies_true, and_true, true_and, not_false_eq_true, Bool.false_eq_true, true_or]
  · have q1 : (f_X4_isGoodForKeeper w C (nI x) = 0) = True := by rw [g1.1]; simp only [a, not_false_eq_true]
    have q2 : (f_X6_isGood (eV C off dear proved w) (nI x) = 0) = True := by rw [g2.1]; simp only [a, not_false_eq_true]
    simp only [q1, q2, not_true_eq_false, if_false, if_true, true_implies, false_implies, implies_true, and_true, true_and, not_false_eq_true, true_or]
