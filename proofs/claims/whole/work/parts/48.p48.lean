def liW (w : Nat → Int32) (h x : Nat) : Nat → Int32 := hvW (upd w (4 + h * 3 + 2) (w (4 + h * 3 + 2) ||| (nI 1 <<< (nI x &&& 31)))) x (5 + h)
theorem li_st (C off dear proved : Nat → Int32) {w : Nat → Int32} {nH nN nF nL t h x : Nat} (R : WR C w nH nN nF nL t) (hh : h < nH) (hx : x < nN) :
    f_X4_letIn w (nI h) (nI x) = liW w h x ∧ s_X4_letIn w (nI h) (nI x) ∧ f_X6_gets (upd (eV C off dear proved w) (16 + 7 * h + 6) (w (4 + h * 3 + 2) ||| (nI 1 <<< (nI x &&& 31)))) (nI (5 + h)) (nI x) = eV C off dear proved (liW w h x) ∧ s_X6_gets (upd (eV C off dear proved w) (16 + 7 * h + 6) (w (4 + h * 3 + 2) ||| (nI 1 <<< (nI x &&& 31)))) (nI (5 + h)) (nI x) ∧ WX C w (liW w h x) nH nN nF nL t nN nF nL := by
  have hN := R.2.1.2
  have hH := R.1.2
  have X := WX_ho (h := h) (p := 2) (y := w (4 + h * 3 + 2) ||| (nI 1 <<< (nI x &&& 31))) R (by omega) (by omega)
  have g := gets_eq (v := upd (eV C off dear proved w) (16 + 7 * h + 6) (w (4 + h * 3 + 2) ||| (nI 1 <<< (nI x &&& 31)))) (x := x) (b := 5 + h) (by omega)
  refine ⟨?_, ?_, ?_, g.2, X.tr (WX_hv X.1 (by omega))⟩
  · simp (disch := omega) only [f_X4_letIn, isNote_eq R.2.1.1 hN (show x < 2 ^ 31 by omega), hx, if_true, n1z, if_false, pn_lt0, pn_le, show ¬ 4 ≤ h by omega, nI_add, pk_mul, pn_cl]
    rfl
  · simp (disch := omega) only [s_X4_letIn, nI_add, pk_mul, pn_in, and_self, implies_true]
  · rw [g.1]
    unfold liW
    rw [eV_hv C off dear proved X.1.2.1.1 hN hx, eV_uH C off dear proved w _ (by omega) (by omega)]
theorem show_st (C off dear proved : Nat → Int32) {w Dg dw F lg : Nat → Int32} {d : Bool} {nH nN nF nL t h x B : Nat} {v1 r : Int32} (R : WR C w nH nN nF nL t) (M : MD d Dg dw F lg nN B) (hB : B < 2 ^ 30) (hh : h < nH) (hx : x < nN) :
    ∃ w' Dg' dw' F' lg' : Nat → Int32, ∃ a : Int32, f_X4_showComes w Dg dw C off dear d v1 (nI h) (nI x) r = (w', Dg', dw', a) ∧ s_X4_showComes w Dg dw C off dear d v1 (nI h) (nI x) r ∧ f_X6_shown (eV C off dear proved w) F lg v1 (nI h) (nI x) r = (eV C off dear proved w', F', lg', a) ∧ s_X6_shown (eV C off dear proved w) F lg v1 (nI h) (nI x) r ∧ WX C w w' nH nN nF nL t nN nF nL ∧ MD d Dg' dw' F' lg' nN (B + 1) ∧ KP d Dg dw F lg Dg' dw' F' lg' ∧ a = f_X4_verdict w C off dear (nI h) (nI x) r ∧ w' = if f_X4_verdict w C off dear (nI h) (nI x) r = 0 then liW w h x else w := by
  have hH := R.1.2
  have ve := verd_eq C off dear proved (r := r) R (show h < 4 by omega) hx
  have li := li_st C off dear proved R hh hx
  have key : ∀ u : Nat → Int32, ∃ Dg' dw' F' lg' : Nat → Int32, (f_X4_showComes_21 u Dg dw C off dear d v1 (nI h) (nI x) r (f_X4_verdict w C off dear (nI h) (nI x) r) = (u, Dg', dw', f_X4_verdict w C off dear (nI h) (nI x) r)) ∧ s_X4_showComes_21 u Dg dw C off dear d v1 (nI h) (nI x) r (f_X4_verdict w C off dear (nI h) (nI x) r) ∧ f_X6_shown_41 (eV C off dear proved u) F lg v1 (nI h) (nI x) r (f_X4_verdict w C off dear (nI h) (nI x) r) = (eV C off dear proved u, F', lg', f_X4_verdict w C off dear (nI h) (nI x) r) ∧ s_X6_shown_41 (eV C off dear proved u) F lg v1 (nI h) (nI x) r (f_X4_verdict w C off dear (nI h) (nI x) r) ∧ MD d Dg' dw' F' lg' nN (B + 1) ∧ KP d Dg dw F lg Dg' dw' F' lg' := by
    intro u
    cases hd : d with
    | true =>
      rw [hd] at M
      obtain ⟨Dg', dw', F', lg', h1, h2, h3, h4, h5, h6⟩ := log_st (v := eV C off dear proved u) (v2 := v1) (v3 := nI h) (v5 := r) (v6 := f_X4_verdict w C off dear (nI h) (nI x) r) (M.1 rfl) hB hx
      rw [eV_0] at h1 h2
      refine ⟨Dg', dw', F', lg', ?_, ?_, h3, h4, ⟨fun _ => h5, fun q => Bool.noConfusion q⟩, ⟨fun q => Bool.noConfusion q, h6⟩⟩
      · simp (disch := omega) only [f_X4_showComes_21, if_true, pn_cl, h1]
      · simp (disch := omega) only [s_X4_showComes_21, true_implies, pn_cl, h2]
    | false =>
      rw [hd] at M
      have hF := M.2 rfl
      refine ⟨Dg, dw, F, lg, ?_, ?_, ?_, ?_, MD_up M (Nat.le_refl _) (by omega), KP.rf⟩
      · simp only [f_X4_showComes_21, Bool.false_eq_true, if_false]
      · simp only [s_X4_showComes_21, Bool.false_eq_true, false_implies]
      · simp only [f_X6_shown_41, hF, if_false]
      · simp only [s_X6_shown_41, hF, false_implies]
  by_cases a : f_X4_verdict w C off dear (nI h) (nI x) r = 0
  · obtain ⟨Dg', dw', F', lg', k1, k2, k3, k4, k5, k6⟩ := key (liW w h x)
    refine ⟨liW w h x, Dg', dw', F', lg', _, ?_, ?_, ?_, ?_, li.2.2.2.2, k5, k6, rfl, (if_pos a).symm⟩
    · unfold f_X4_showComes
      rw [if_pos a, li.1, k1]
    · unfold s_X4_showComes
      rw [li.1]
      exact ⟨ve.2.1, fun _ => ⟨li.2.1, k2⟩, fun q => absurd a q⟩
    · unfold f_X6_shown
      rw [ve.1, if_pos a]
      simp (disch := omega) only [f_X6_house, nI_add, pk_mul, pn_cl, eV_h6 C off dear proved w (show h < 4 by omega), li.2.2.1, k3]
    · unfold s_X6_shown
      rw [ve.1]
      simp (disch := omega) only [f_X6_house, nI_add, pk_mul, pn_cl, eV_h6 C off dear proved w (show h < 4 by omega), li.2.2.1, li.2.2.2.1, k4, pn_in, ve.2.2, true_and, implies_true]
      exact fun q => absurd a q
  · obtain ⟨Dg', dw', F', lg', k1, k2, k3, k4, k5, k6⟩ := key w
    refine ⟨w, Dg', dw', F', lg', _, ?_, ?_, ?_, ?_, WX.rf R, k5, k6, rfl, (if_neg a).symm⟩
    · unfold f_X4_showComes
      rw [if_neg a, k1]
    · unfold s_X4_showComes
      exact ⟨ve.2.1, fun q => absurd q a, fun _ => k2⟩
    · unfold f_X6_shown
      rw [ve.1, if_neg a, k3]
    · unfold s_X6_shown
      rw [ve.1]
      exact ⟨ve.2.2, fun q => absurd q a, fun _ => k4⟩
theorem HV_rem {w : Nat → Int32} {nH nN nL l : Nat} (H : HV w nH nN) (hn : nL ≤ 12) : HV (remW w nL l) nH nN := fun x h hx h1 h2 => by
  rw [remW_at (by omega) (by omega) hn]; exact H x h hx h1 h2
theorem LT_rem {w : Nat → Int32} {nL n0 t l : Nat} (H : LT w nL n0 t) (hl : l < n0 ∨ l = 0) : LT (remW w nL l) (nL - 1) (n0 - 1) t := fun m h1 h2 => by
  rw [remW_l h2 (by omega)]
  by_cases c : m < l
  · omega
  · rw [if_neg c]; exact H (m + 1) (by omega) (by omega)
set_option maxRecDepth 4000 in
theorem come_st (C off dear proved : Nat → Int32) {w Dg dw F lg : Nat → Int32} {d : Bool} {nH nN nF nL t l B : Nat} (R : WR C w nH nN nF nL t) (M : MD d Dg dw F lg nN B) (hB : B < 2 ^ 30) (hl : l < nL) :
    ∃ w' Dg' dw' F' lg' : Nat → Int32, ∃ a : Int32, ∃ nN' nF' nL', f_X4_come w Dg dw C off dear proved d (nI l) = (w', Dg', dw', a) ∧ s_X4_come w Dg dw C off dear proved d (nI l) ∧ f_X6_comes (eV C off dear proved w) F lg (nI l) = (eV C off dear proved w', F', lg', a) ∧ s_X6_comes (eV C off dear proved w) F lg (nI l) ∧ WX C (remW w nL l) w' nH nN nF (nL - 1) t nN' nF' nL' ∧ MD d Dg' dw' F' lg' nN' (B + 1) ∧ KP d Dg dw F lg Dg' dw' F' lg' := by
  have hL := R.2.2.2.1.2
  have hH := R.1.2
  have h3 := R.2.2.2.1.1
  have R0 := WR_rem R hl
  have e0 : f_X4_isLetter w (nI l) = nI 1 := by
    unfold f_X4_isLetter
    simp (disch := omega) only [pn_cl, h3, pn_lt0, pn_le, show ¬ nL ≤ l by omega, show ¬ 12 ≤ l by omega, if_false]
  have rc := remW_eq h3 hl hL
  have rv := remV_eq (v := eV C off dear proved w) h3 hl hL
  rw [← eV_rem C off dear proved w h3 hl hL] at rv
  have ee := fun j hj => eV_l C off dear proved w (j := j) h3 hL hl hj
  have ee0 : eV C off dear proved w (443 + 7 * l) = w (58 + l * 7 + 0) := ee 0 (by omega)
  have c1 : f_X4_come w Dg dw C off dear proved d (nI l) = f_X4_come_80 (remW w nL l) Dg dw C off dear proved d (w (58 + l * 7 + 0)) (w (58 + l * 7 + 1)) (w (58 + l * 7 + 2)) (w (58 + l * 7 + 3)) (w (58 + l * 7 + 4)) (w (58 + l * 7 + 5)) := by
    unfold f_X4_come
    rw [e0, if_neg n1z, rc.1]
    simp (disch := omega) only [nI_add, pk_mul, pn_cl]
    rfl
  have c2 : s_X4_come_80 (remW w nL l) Dg dw C off dear proved d (w (58 + l * 7 + 0)) (w (58 + l * 7 + 1)) (w (58 + l * 7 + 2)) (w (58 + l * 7 + 3)) (w (58 + l * 7 + 4)) (w (58 + l * 7 + 5)) → s_X4_come w Dg dw C off dear proved d (nI l) := fun s => by
    unfold s_X4_come
    rw [e0, rc.1]
    simp (disch := omega) only [nI_add, pk_mul, pn_cl, pn_in, rc.2, true_and, n1z, not_false_eq_true, true_implies]
    exact s
  have v1 : f_X6_comes (eV C off dear proved w) F lg (nI l) = f_X6_comes_50 (eV C off dear proved (remW w nL l)) F lg (w (58 + l * 7 + 0)) (w (58 + l * 7 + 1)) (w (58 + l * 7 + 2)) (w (58 + l * 7 + 3)) (w (58 + l * 7 + 4)) (w (58 + l * 7 + 5)) := by
    unfold f_X6_comes
    rw [rv.1]
    simp (disch := omega) only [f_X6_letter, nI_add, pk_mul, pn_cl, ee, ee0]
  have v2 : s_X6_comes_50 (eV C off dear proved (remW w nL l)) F lg (w (58 + l * 7 + 0)) (w (58 + l * 7 + 1)) (w (58 + l * 7 + 2)) (w (58 + l * 7 + 3)) (w (58 + l * 7 + 4)) (w (58 + l * 7 + 5)) → s_X6_comes (eV C off dear proved w) F lg (nI l) := fun s => by
    unfold s_X6_comes
    rw [rv.1]
    simp (disch := omega) only [f_X6_letter, nI_add, pk_mul, pn_cl, ee, ee0, pn_in, rv.2, true_and]
    exact s
  rw [c1, v1]
  obtain ⟨⟨a, b, k, ea, ha, eb, hb, ek, V⟩, -⟩ := R.2.2.2.2.2.2.1 l hl
  rw [ea, eb, ek] at c2 v2 ⊢
  clear c1 v1
  generalize w (58 + l * 7 + 3) = x at *
  generalize w (58 + l * 7 + 4) = y at *
  generalize w (58 + l * 7 + 5) = z at *
  generalize remW w nL l = u at *
  have s5 : ∀ b, 5 ≤ b → nI b - nI 5 = nI (b - 5) := fun b h => pn_sub h
  rcases V with ⟨rfl, q1, h, q2, rfl⟩ | ⟨rfl, q1, ⟨m, q2, rfl⟩, q4⟩ | ⟨rfl, q1, q2, m, q3, rfl⟩ | ⟨rfl, q1, m, q2, rfl⟩ | ⟨rfl, q1, q2, ⟨m, q3, rfl⟩, h, q4, rfl⟩ | ⟨rfl, q1, q2, m, q3, rfl⟩
  · by_cases ok : askOk C proved nN nF a h
    · have A := ask_yes (Dg := Dg) (d := d) (r := y) (z := z) R0 q1 q2 ok
      have B' := asked_yes C off dear proved (F := F) (r := y) (z := z) R0 q1 q2 ok
      have X := WX_askN (b := a) (h := h) (r := y) (pr := proved a) R0 ok.2.2.2.1 ok.2.2.2.2 q2
      have P := WX_post (z := z) X.1 (LV_give (nH := nH) (nN := nN + 2) (nF := nF + 1) q1 (m := nN) (m2 := nN + 1) (by omega) (by omega))
      have L := MD_lr M (LR_c (d := d) (Dg := Dg) (F := F) (nL - 1)) (show nN ≤ nN + 2 by omega) (show B ≤ B + 1 by omega)
      refine ⟨_, _, dw, _, lg, nI 1, _, _, _, ?_, c2 ?_, ?_, v2 ?_, X.tr P, L.1, L.2⟩
      · simp only [f_X4_come_80, if_true, A.1]
      · simp only [s_X4_come_80, true_implies, A.2, not_true_eq_false, false_implies, and_self]
      · simp only [f_X6_comes_50, if_true, B'.1]
      · simp only [s_X6_comes_50, true_implies, B'.2, not_true_eq_false, false_implies, and_self]
    · have A := ask_no (Dg := Dg) (d := d) (r := y) (z := z) R0 q1 q2 ok
      have B' := asked_no C off dear proved (F := F) (r := y) (z := z) R0 q1 q2 ok
      refine ⟨u, Dg, dw, F, lg, nI 0, nN, nF, nL - 1, ?_, c2 ?_, ?_, v2 ?_, WX.rf R0, MD_up M (Nat.le_refl _) (by omega), KP.rf⟩
      · simp only [f_X4_come_80, if_true, A.1]
      · simp only [s_X4_come_80, true_implies, A.2, not_true_eq_false, false_implies, and_self]
      · simp only [f_X6_comes_50, if_true, B'.1]
      · simp only [s_X6_comes_50, true_implies, B'.2, not_true_eq_false, false_implies, and_self]
  · obtain ⟨w', a', h1, h2, h3, h4, h5⟩ := give_st C off dear proved (z := z) R0 q1 q2 q4
    refine ⟨w', Dg, dw, F, lg, a', nN, nF, nL - 1, ?_, c2 ?_, ?_, v2 ?_, h5, MD_up M (Nat.le_refl _) (by omega), KP.rf⟩
    · simp only [f_X4_come_80, n01, if_false, if_true, h1]
    · simp only [s_X4_come_80, n01, false_implies, not_false_eq_true, true_implies, true_and, not_true_eq_false, h2, and_self]
    · simp only [f_X6_comes_50, n01, if_false, if_true, h3]
    · simp only [s_X6_comes_50, n01, false_implies, not_false_eq_true, true_implies, true_and, not_true_eq_false, h4, and_self]
  · obtain ⟨w', Dg', dw', F', lg', a', h1, h2, h3, h4, h5, h6, h7, -⟩ := show_st C off dear proved (v1 := nI a) (r := y) (h := b - 5) R0 M hB (by omega) q3
    have t0 : ¬ nI 2 = nI 0 := by decide
    refine ⟨w', Dg', dw', F', lg', a', nN, nF, nL - 1, ?_, c2 ?_, ?_, v2 ?_, h5, h6, h7⟩
    · simp only [f_X4_come_80, t0, n21, if_false, if_true, s5 b q1, h1]
    · simp only [s_X4_come_80, t0, n21, false_implies, not_false_eq_true, true_implies, true_and, not_true_eq_false, s5 b q1, h2, and_self]
    · simp only [f_X6_comes_50, t0, n21, if_false, if_true, s5 b q1, h3]
    · simp only [s_X6_comes_50, t0, n21, false_implies, not_false_eq_true, true_implies, true_and, not_true_eq_false, s5 b q1, h4, and_self]
  · obtain ⟨w', Dg', F', a', nN', nL', h1, h2, h3, h4, h5, h6⟩ := turn_st C off dear proved (Dg := Dg) (F := F) (d := d) (z := z) R0 q2 q1
    have L := MD_lr M h6 h5.2.2.1 (show B ≤ B + 1 by omega)
    have t0 : ¬ nI 3 = nI 0 := by decide
    have t1 : ¬ nI 3 = nI 1 := by decide
    have t2 : ¬ nI 3 = nI 2 := by decide
    refine ⟨w', Dg', dw, F', lg, a', nN', nF, nL', ?_, c2 ?_, ?_, v2 ?_, h5, L.1, L.2⟩
    · simp only [f_X4_come_80, t0, t1, t2, if_false, if_true, h1]
    · simp only [s_X4_come_80, t0, t1, t2, false_implies, not_false_eq_true, true_implies, true_and, not_true_eq_false, h2, and_self]
    · simp only [f_X6_comes_50, t0, t1, t2, if_false, if_true, h3]
    · simp only [s_X6_comes_50, t0, t1, t2, false_implies, not_false_eq_true, true_implies, true_and, not_true_eq_false, h4, and_self]
  · obtain ⟨w', Dg', F', a', nN', nL', h1, h2, h3, h4, h5, h6⟩ := hand_st C off dear proved (Dg := Dg) (F := F) (d := d) (z := z) R0 q3 q2 q4
    have L := MD_lr M h6 h5.2.2.1 (show B ≤ B + 1 by omega)
    have t0 : ¬ nI 4 = nI 0 := by decide
    have t1 : ¬ nI 4 = nI 1 := by decide
    have t2 : ¬ nI 4 = nI 2 := by decide
    have t3 : ¬ nI 4 = nI 3 := by decide
    refine ⟨w', Dg', dw, F', lg, a', nN', nF, nL', ?_, c2 ?_, ?_, v2 ?_, h5, L.1, L.2⟩
    · simp only [f_X4_come_80, t0, t1, t2, t3, if_false, if_true, h1]
    · simp only [s_X4_come_80, t0, t1, t2, t3, false_implies, not_false_eq_true, true_implies, true_and, not_true_eq_false, h2, and_self]
    · simp only [f_X6_comes_50, t0, t1, t2, t3, if_false, if_true, h3]
    · simp only [s_X6_comes_50, t0, t1, t2, t3, false_implies, not_false_eq_true, true_implies, true_and, not_true_eq_false, h4, and_self]
  · have O := over_st C off dear proved (h := b - 5) R0 (by omega) q3
    have t0 : ¬ nI 5 = nI 0 := by decide
    have t1 : ¬ nI 5 = nI 1 := by decide
    have t2 : ¬ nI 5 = nI 2 := by decide
    have t3 : ¬ nI 5 = nI 3 := by decide
    have t4 : ¬ nI 5 = nI 4 := by decide
    refine ⟨_, Dg, dw, F, lg, nI 1, nN, nF, nL - 1, ?_, c2 ?_, ?_, v2 ?_, O.2.2.2, MD_up M (Nat.le_refl _) (by omega), KP.rf⟩
    · simp only [f_X4_come_80, t0, t1, t2, t3, t4, if_false, s5 b q1, O.1]
    · simp only [s_X4_come_80, t0, t1, t2, t3, t4, false_implies, not_false_eq_true, true_implies, true_and, s5 b q1, O.2.1]
    · simp (disch := omega) only [f_X6_comes_50, t0, t1, t2, t3, t4, if_false, s5 b q1, f_X6_house, nI_add, pk_mul, pn_cl]
      rw [O.2.2.1]
    · simp (disch := omega) only [s_X6_comes_50, t0, t1, t2, t3, t4, false_implies, not_false_eq_true, true_implies, true_and, s5 b q1, f_X6_house, nI_add, pk_mul, pn_in, and_self]
