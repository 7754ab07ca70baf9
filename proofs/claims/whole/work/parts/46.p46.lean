theorem hvV_up {v : Nat → Int32} {x b i : Nat} {y : Int32} (h : i ≠ 59 + 11 * x + 10) : hvV (upd v i y) x b = upd (hvV v x b) i y := by
  unfold hvV
  rw [pu_n _ _ (fun q => h q.symm), pu_c _ _ _ (fun q => h q.symm)]
theorem or_self2 (a m : Int32) : a ||| m ||| m = a ||| m := by
  apply b_ext; intro i hi; rw [b_or, b_or]; cases bt a i <;> cases bt m i <;> rfl
theorem hvV_cm {v : Nat → Int32} {x y b : Nat} : hvV (hvV v x b) y b = hvV (hvV v y b) x b := by
  by_cases e : x = y
  · rw [e]
  · unfold hvV
    rw [pu_n _ _ (show 59 + 11 * y + 10 ≠ 59 + 11 * x + 10 by omega), pu_n _ _ (show 59 + 11 * x + 10 ≠ 59 + 11 * y + 10 by omega), pu_c _ _ _ (show 59 + 11 * y + 10 ≠ 59 + 11 * x + 10 by omega)]
def tkP (C w : Nat → Int32) (b : Nat) (z : Int32) : Prop := ¬ bt (C 7) 4 = true ∨ (¬ w (16 + b * 2 + 0) = 0 ∧ w (16 + b * 2 + 0) = z)
theorem takes_eq {C w : Nat → Int32} {b : Nat} {z : Int32} (hb : b < 5) : (f_X4_takes w C (nI b) z = 0) = (¬ tkP C w b z) ∧ s_X4_takes w C (nI b) z := by
  unfold tkP
  simp (disch := omega) only [f_X4_takes, s_X4_takes, pn_lt0, pn_lt, hb, if_true, if_false, on_eq, if10, pn_cl, nI_add, pk_mul, pn_in, implies_true, and_true]
  generalize w (16 + b * 2 + 0) = p
  by_cases a : bt (C 7) 4 = true
  · by_cases c : p = 0
    · simp [a, c, n00]
    · by_cases e : p = z
      · rw [e] at c; simp [a, e, c, n1z]
      · simp [a, c, e, n00]
  · simp [a, n1z]
theorem eV_pp (C off dear proved w : Nat → Int32) {b : Nat} (hb : b < 5) : eV C off dear proved w (44 + 3 * b + 1) = w (16 + b * 2 + 0) := by
  rw [eV_b C off dear proved w hb (by omega)]
  show w (15 + b * 2 + 1) = _
  exact congrArg w (by omega)
theorem eV_gs (C off dear proved w : Nat → Int32) {b : Nat} (hb : b < 5) : eV C off dear proved w (44 + 3 * b + 2) = w (16 + b * 2 + 1) := by
  rw [eV_b C off dear proved w hb (by omega)]
  show w (15 + b * 2 + 2) = _
  exact congrArg w (by omega)
theorem WX_br {C w : Nat → Int32} {nH nN nF nL t b p : Nat} {y : Int32} (R : WR C w nH nN nF nL t) (hb : b < 5) (hp : p < 2) : WX C w (upd w (16 + b * 2 + p) y) nH nN nF nL t nN nF nL :=
  WX_cg R (fun i hi => pu_n _ _ (by omega)) (fun x j hx hj => pu_n _ _ (by omega)) (fun i h1 h2 => pu_n _ _ (by omega)) (fun H x h hx h1 h2 => by rw [pu_n _ _ (by omega)]; exact H x h hx h1 h2)
theorem WX_ho {C w : Nat → Int32} {nH nN nF nL t h p : Nat} {y : Int32} (R : WR C w nH nN nF nL t) (hh : h < 4) (hp : p < 3) : WX C w (upd w (4 + h * 3 + p) y) nH nN nF nL t nN nF nL :=
  WX_cg R (fun i hi => pu_n _ _ (by omega)) (fun x j hx hj => pu_n _ _ (by omega)) (fun i h1 h2 => pu_n _ _ (by omega)) (fun H x h hx h1 h2 => by rw [pu_n _ _ (by omega)]; exact H x h hx h1 h2)
theorem isBr_no {b : Nat} (hb : 5 ≤ b) (h2 : b < 2 ^ 31) : f_X5_isBrowser (nI b) = nI 0 := by
  unfold f_X5_isBrowser
  simp (disch := omega) only [pn_lt0, pn_le, pn_lt, if_false, show ¬ b < 5 by omega, show 5 ≤ b by omega, if_true]
theorem m1_lt0 : ((-1 : Int32) < 0) = True := by decide
theorem letHave_m1 (w : Nat → Int32) (b : Int32) : f_X4_letHave w b (-1) = w ∧ s_X4_letHave w b (-1) := by
  unfold f_X4_letHave s_X4_letHave f_X4_isNote
  simp only [m1_lt0, if_true, n00, ite_self, not_true_eq_false, false_implies, implies_true, and_self]
theorem gets_m1 (v : Nat → Int32) (b : Int32) : f_X6_gets v b (-1) = v ∧ s_X6_gets v b (-1) := by
  unfold f_X6_gets s_X6_gets
  simp only [m1_lt0, if_true, not_true_eq_false, false_implies, and_self]
theorem give_no (C off dear proved : Nat → Int32) {w : Nat → Int32} {b : Nat} {x y z : Int32} (hb : b < 5) (h : ¬ tkP C w b z) :
    f_X4_giveComes w C (nI b) x y z = (w, nI 0) ∧ s_X4_giveComes w C (nI b) x y z ∧ f_X6_taken (eV C off dear proved w) (nI b) x y z = (eV C off dear proved w, nI 0) ∧ s_X6_taken (eV C off dear proved w) (nI b) x y z := by
  have t := takes_eq (C := C) (w := w) (z := z) hb
  have q : (f_X4_takes w C (nI b) z = 0) = True := by rw [t.1]; simp only [h, not_false_eq_true]
  have c7 : eV C off dear proved w 3 = C 7 := rfl
  have on4 : bt (C 7) 4 = true := by
    by_cases g : bt (C 7) 4 = true
    · exact g
    · exact absurd (Or.inl g) h
  refine ⟨?_, ?_, ?_, ?_⟩
  · simp only [f_X4_giveComes, isBr_eq hb, n1z, if_false, q, if_true]
  · simp only [s_X4_giveComes, isBr_eq hb, n1z, false_implies, q, not_true_eq_false, not_false_eq_true, true_implies, t.2, and_self]
  · simp (disch := omega) only [f_X6_taken, pn_le, show ¬ 5 ≤ b by omega, if_false, isOn_eq, if10, c7, on4, not_true_eq_false, f_X6_browser, nI_add, pk_mul, pn_cl, eV_pp C off dear proved w hb]
    by_cases c : w (16 + b * 2 + 0) = 0
    · rw [if_pos c]
    · rw [if_neg c, if_neg (fun e => h (Or.inr ⟨c, e⟩))]
  · simp (disch := omega) only [s_X6_taken, pn_le, show ¬ 5 ≤ b by omega, isOn_eq, if10, c7, on4, not_true_eq_false, f_X6_browser, nI_add, pk_mul, pn_cl, eV_pp C off dear proved w hb, pn_in, false_implies, true_and, not_false_eq_true, true_implies]
    exact fun c e => absurd (Or.inr ⟨c, e⟩) h
theorem give_yes (C off dear proved : Nat → Int32) {w : Nat → Int32} {nH nN nF nL t b x : Nat} {y z : Int32} (R : WR C w nH nN nF nL t) (hb : b < 5) (hx : x < nN) (hy : y = (-1) ∨ ∃ m, m < nN ∧ y = nI m) (h : tkP C w b z) :
    ∃ w', f_X4_giveComes w C (nI b) (nI x) y z = (w', nI 1) ∧ s_X4_giveComes w C (nI b) (nI x) y z ∧ f_X6_taken (eV C off dear proved w) (nI b) (nI x) y z = (eV C off dear proved w', nI 1) ∧ s_X6_taken (eV C off dear proved w) (nI b) (nI x) y z ∧ WX C w w' nH nN nF nL t nN nF nL := by
  have t := takes_eq (C := C) (w := w) (z := z) hb
  have hN := R.2.1.2
  have q : (f_X4_takes w C (nI b) z = 0) = False := by rw [t.1]; simp only [h, not_true_eq_false]
  have c7 : eV C off dear proved w 3 = C 7 := rfl
  -- the reference comes to taken_41
  have m1 : f_X6_taken (eV C off dear proved w) (nI b) (nI x) y z = f_X6_taken_41 (eV C off dear proved w) (nI b) (nI x) y (nI (44 + 3 * b)) := by
    simp (disch := omega) only [f_X6_taken, pn_le, show ¬ 5 ≤ b by omega, if_false, isOn_eq, if10, c7, f_X6_browser, nI_add, pk_mul, pn_cl, eV_pp C off dear proved w hb]
    by_cases o : bt (C 7) 4 = true
    · rcases h with h | ⟨h1, h2⟩
      · exact absurd o h
      · rw [if_neg (fun k => k o), if_neg h1, if_pos h2]
    · rw [if_pos o]
  have m2 : s_X6_taken_41 (eV C off dear proved w) (nI b) (nI x) y (nI (44 + 3 * b)) → s_X6_taken (eV C off dear proved w) (nI b) (nI x) y z := fun s => by
    simp (disch := omega) only [s_X6_taken, pn_le, show ¬ 5 ≤ b by omega, f_X6_browser, nI_add, pk_mul, pn_cl, pn_in, false_implies, true_and, not_false_eq_true, true_implies]
    exact ⟨fun _ => s, fun _ _ _ => s⟩
  rw [m1]
  have c1 : ∀ y, f_X4_giveComes w C (nI b) (nI x) y z = f_X4_giveComes_25 (f_X4_letHave w (nI b) y) C (nI b) (nI x) := fun y => by
    simp only [f_X4_giveComes, isBr_eq hb, n1z, if_false, q]
  have c2 : ∀ y, s_X4_letHave w (nI b) y → s_X4_giveComes_25 (f_X4_letHave w (nI b) y) C (nI b) (nI x) → s_X4_giveComes w C (nI b) (nI x) y z := fun y s1 s2 => by
    simp only [s_X4_giveComes, isBr_eq hb, n1z, false_implies, q, not_false_eq_true, true_implies, t.2, true_and]
    exact ⟨s1, s2⟩
  rw [c1]
  rcases hy with rfl | ⟨m, hm, rfl⟩
  · have l1 := letHave_m1 w (nI b)
    rw [l1.1]
    have X := WX_br (b := b) (p := 0) (y := nI 0) R hb (by omega)
    have Y := WX_hv (x := x) (b := b) X.1 (by omega)
    have l2 := letHave_eq (b := b) (x := x) X.1.2.1.1 hN hx (by omega)
    have g1 := gets_eq (v := upd (eV C off dear proved w) (44 + 3 * b + 1) (nI 0)) (x := x) (b := b) (by omega)
    have g2 := gets_m1 (hvV (upd (eV C off dear proved w) (44 + 3 * b + 1) (nI 0)) x b) (nI b)
    refine ⟨hvW (upd w (16 + b * 2 + 0) (nI 0)) x b, ?_, c2 _ l1.2 ?_, ?_, m2 ?_, X.tr Y⟩
    · simp (disch := omega) only [f_X4_giveComes_25, f_X4_giveComes_39, nI_add, pk_mul, pn_cl, l2.1]
    · rw [l1.1]
      simp (disch := omega) only [s_X4_giveComes_25, s_X4_giveComes_39, nI_add, pk_mul, pn_cl, l2.2, pn_in, and_self]
    · simp (disch := omega) only [f_X6_taken_41, f_X6_taken_48, f_X6_taken_54, nI_add, pn_cl, g1.1, g2.1]
      rw [eV_hv C off dear proved X.1.2.1.1 hN hx, eV_uB C off dear proved w _ hb (by omega)]
    · simp (disch := omega) only [s_X6_taken_41, s_X6_taken_48, s_X6_taken_54, nI_add, pn_cl, g1.1, g1.2, g2.2, pn_in, and_self]
  · have l1 := letHave_eq (b := b) (x := m) R.2.1.1 hN hm (by omega)
    rw [l1.1]
    have W0 := WX_hv (x := m) (b := b) R (by omega)
    have X := WX_br (b := b) (p := 0) (y := nI 0) W0.1 hb (by omega)
    have Y := WX_hv (x := x) (b := b) X.1 (by omega)
    have l2 := letHave_eq (b := b) (x := x) X.1.2.1.1 hN hx (by omega)
    have g1 := gets_eq (v := upd (eV C off dear proved w) (44 + 3 * b + 1) (nI 0)) (x := x) (b := b) (by omega)
    have g2 := gets_eq (v := hvV (upd (eV C off dear proved w) (44 + 3 * b + 1) (nI 0)) x b) (x := m) (b := b) (by omega)
    refine ⟨hvW (upd (hvW w m b) (16 + b * 2 + 0) (nI 0)) x b, ?_, c2 _ l1.2 ?_, ?_, m2 ?_, W0.tr (X.tr Y)⟩
    · simp (disch := omega) only [f_X4_giveComes_25, f_X4_giveComes_39, nI_add, pk_mul, pn_cl, l2.1]
    · rw [l1.1]
      simp (disch := omega) only [s_X4_giveComes_25, s_X4_giveComes_39, nI_add, pk_mul, pn_cl, l2.2, pn_in, and_self]
    · simp (disch := omega) only [f_X6_taken_41, f_X6_taken_48, f_X6_taken_54, nI_add, pn_cl, g1.1, g2.1]
      rw [eV_hv C off dear proved X.1.2.1.1 hN hx, eV_uB C off dear proved _ _ hb (by omega), eV_hv C off dear proved R.2.1.1 hN hm, hvV_cm, hvV_up (by omega)]
    · simp (disch := omega) only [s_X6_taken_41, s_X6_taken_48, s_X6_taken_54, nI_add, pn_cl, g1.1, g1.2, g2.2, pn_in, and_self]
theorem give_st (C off dear proved : Nat → Int32) {w : Nat → Int32} {nH nN nF nL t b x : Nat} {y z : Int32} (R : WR C w nH nN nF nL t) (hb : b < 5 + nH) (hx : x < nN) (hy : y = (-1) ∨ (b < 5 ∧ ∃ m, m < nN ∧ y = nI m)) :
    ∃ w' a, f_X4_giveComes w C (nI b) (nI x) y z = (w', a) ∧ s_X4_giveComes w C (nI b) (nI x) y z ∧ f_X6_taken (eV C off dear proved w) (nI b) (nI x) y z = (eV C off dear proved w', a) ∧ s_X6_taken (eV C off dear proved w) (nI b) (nI x) y z ∧ WX C w w' nH nN nF nL t nN nF nL := by
  have hN := R.2.1.2
  have hH := R.1.2
  rcases Nat.lt_or_ge b 5 with h5 | h5
  · by_cases h : tkP C w b z
    · obtain ⟨w', h1, h2, h3, h4, h5⟩ := give_yes C off dear proved R h5 hx (hy.imp id (fun q => q.2)) h
      exact ⟨w', nI 1, h1, h2, h3, h4, h5⟩
    · obtain ⟨h1, h2, h3, h4⟩ := give_no C off dear proved (x := nI x) (y := y) h5 h
      exact ⟨w, nI 0, h1, h2, h3, h4, WX.rf R⟩
  · rcases hy with rfl | ⟨hy, -⟩
    · have l1 := letHave_eq (b := b) (x := x) R.2.1.1 hN hx (by omega)
      have g1 := gets_eq (v := eV C off dear proved w) (x := x) (b := b) (by omega)
      have g2 := gets_m1 (hvV (eV C off dear proved w) x b) (nI b)
      refine ⟨hvW w x b, nI 1, ?_, ?_, ?_, ?_, WX_hv R hb⟩
      · simp only [f_X4_giveComes, f_X4_giveComes_39, isBr_no h5 (by omega), n00, if_true, l1.1]
      · simp only [s_X4_giveComes, s_X4_giveComes_39, isBr_no h5 (show b < 2 ^ 31 by omega), n00, true_implies, l1.2, not_true_eq_false, false_implies, and_self]
      · simp (disch := omega) only [f_X6_taken, f_X6_taken_48, f_X6_taken_54, pn_le, h5, if_true, g1.1, g2.1]
        rw [eV_hv C off dear proved R.2.1.1 hN hx]
      · simp (disch := omega) only [s_X6_taken, s_X6_taken_48, s_X6_taken_54, pn_le, h5, true_implies, not_true_eq_false, false_implies, g1.1, g1.2, g2.2, and_self]
    · omega
theorem eV_h456 (C off dear proved w : Nat → Int32) {h p : Nat} (hh : h < 4) (hp : p < 3) : eV C off dear proved w (16 + 7 * h + (4 + p)) = w (4 + h * 3 + p) := by
  rw [eV_h C off dear proved w hh (by omega)]
  unfold eO
  rw [if_neg (by omega), if_neg (by omega), if_neg (by omega), if_neg (by omega)]
  exact congrArg w (by omega)
theorem eV_h4 (C off dear proved w : Nat → Int32) {h : Nat} (hh : h < 4) : eV C off dear proved w (16 + 7 * h + 4) = w (4 + h * 3 + 0) := eV_h456 C off dear proved w (p := 0) hh (by omega)
theorem eV_h5 (C off dear proved w : Nat → Int32) {h : Nat} (hh : h < 4) : eV C off dear proved w (16 + 7 * h + 5) = w (4 + h * 3 + 1) := eV_h456 C off dear proved w (p := 1) hh (by omega)
theorem eV_h6 (C off dear proved w : Nat → Int32) {h : Nat} (hh : h < 4) : eV C off dear proved w (16 + 7 * h + 6) = w (4 + h * 3 + 2) := eV_h456 C off dear proved w (p := 2) hh (by omega)
theorem eV_h0 (C off dear proved w : Nat → Int32) {h : Nat} (hh : h < 4) : eV C off dear proved w (16 + 7 * h + 0) = off h := by
  rw [eV_h C off dear proved w hh (by omega)]; rfl
theorem eV_h2 (C off dear proved w : Nat → Int32) {h : Nat} (hh : h < 4) : eV C off dear proved w (16 + 7 * h + 2) = dear h := by
  rw [eV_h C off dear proved w hh (by omega)]; rfl
theorem eV_h1 (C off dear proved w : Nat → Int32) {h : Nat} (hh : h < 4) : (eV C off dear proved w (16 + 7 * h + 1) = nI 1) = (bt (C 12) h = true) := by
  rw [eV_h C off dear proved w hh (by omega)]
  show (bt1 (C 12) h = nI 1) = _
  rw [bt1_v _ (by omega)]; exact if11
theorem over_st (C off dear proved : Nat → Int32) {w : Nat → Int32} {nH nN nF nL t h f : Nat} (R : WR C w nH nN nF nL t) (hh : h < nH) (hf : f < nF) :
    f_X4_overComes w (nI h) (nI f) = (upd w (4 + h * 3 + 1) (w (4 + h * 3 + 1) ||| (nI 1 <<< (nI f &&& 31))), nI 1) ∧ s_X4_overComes w (nI h) (nI f) ∧ eV C off dear proved (upd w (4 + h * 3 + 1) (w (4 + h * 3 + 1) ||| (nI 1 <<< (nI f &&& 31)))) = upd (eV C off dear proved w) (16 + 7 * h + 5) (eV C off dear proved w (16 + 7 * h + 5) ||| (nI 1 <<< (nI f &&& 31))) ∧ WX C w (upd w (4 + h * 3 + 1) (w (4 + h * 3 + 1) ||| (nI 1 <<< (nI f &&& 31)))) nH nN nF nL t nN nF nL := by
  have hH := R.1.2
  have hF := R.2.2.1.2
  have e0 : f_X4_isFamily w (nI f) = nI 1 := by
    unfold f_X4_isFamily
    simp (disch := omega) only [pn_cl, R.2.2.1.1, pn_lt0, pn_le, show ¬ nF ≤ f by omega, show ¬ 16 ≤ f by omega, if_false]
  refine ⟨?_, ?_, ?_, WX_ho R (by omega) (by omega)⟩
  · simp (disch := omega) only [f_X4_overComes, pn_lt0, pn_le, show ¬ 4 ≤ h by omega, if_false, e0, n1z, nI_add, pk_mul, pn_cl]
  · simp (disch := omega) only [s_X4_overComes, e0, nI_add, pk_mul, pn_in, and_self, implies_true]
  · rw [eV_uH C off dear proved w _ (by omega) (by omega), eV_h5 C off dear proved w (by omega)]
set_option maxRecDepth 4000 in
theorem verd_eq (C off dear proved : Nat → Int32) {w : Nat → Int32} {nH nN nF nL t h x : Nat} {r : Int32} (R : WR C w nH nN nF nL t) (hh : h < 4) (hx : x < nN) :
    f_X6_verdict (eV C off dear proved w) (nI h) (nI x) r = f_X4_verdict w C off dear (nI h) (nI x) r ∧ s_X4_verdict w C off dear (nI h) (nI x) r ∧ s_X6_verdict (eV C off dear proved w) (nI h) (nI x) r := by
  have hN := R.2.1.2
  obtain ⟨⟨g, hg, eg⟩, f, hf, ef⟩ := R.2.2.2.2.2.1 x hx
  have hF := R.2.2.1.2
  have e := fun j hj => eV_n C off dear proved w (j := j) R.2.1.1 R.2.1.2 hx hj
  have c7 : eV C off dear proved w 3 = C 7 := rfl
  have c0 : eV C off dear proved w 0 = w 0 := rfl
  have c6 : eV C off dear proved w 6 = C 2 := rfl
  have c8 : eV C off dear proved w 8 = C 4 := rfl
  have c10 : eV C off dear proved w 10 = C 6 := rfl
  have on : f_X2_isOnce C (nI h) = if bt (C 12) h = true then nI 1 else nI 0 := by
    unfold f_X2_isOnce
    simp (disch := omega) only [pn_lt0, pn_le, show ¬ 4 ≤ h by omega, if_false, bit_1]
  refine ⟨?_, ?_, ?_⟩
  · -- from the end to the beginning
    have t1 : f_X6_verdict_221 (eV C off dear proved w) r (nI (16 + 7 * h)) (nI (59 + 11 * x)) (w 0 + off h) = f_X4_verdict_323 w C off dear (nI h) r (nI (142 + x * 11)) (w 0 + off h) := by
      simp (disch := omega) only [f_X6_verdict_221, f_X4_verdict_323, f_X4_verdict_378, f_X4_verdict_402, nI_add, pn_cl, e, isOn_eq, on_eq, c7, c6, c10, eV_h2 C off dear proved w hh, if10, n00, n1z, if_true, if_false]
      by_cases a : (w (142 + x * 11 + 3) >>> (r &&& 31)) &&& nI 1 = 0
      · simp only [a, if_true]
      · by_cases b : bt (C 7) 7 = true <;> by_cases c : (dear h >>> (r &&& 31)) &&& nI 1 = nI 1 <;> by_cases d : w 0 + off h - w (142 + x * 11 + 7) ≤ C 6 + C 2 <;> simp [a, b, c, d]
    have t2 : f_X6_verdict_185 (eV C off dear proved w) (nI x) r (nI (16 + 7 * h)) (nI (59 + 11 * x)) (w 0 + off h) = f_X4_verdict_269 w C off dear (nI h) (nI x) r (nI (142 + x * 11)) (nI (4 + h * 3)) (w 0 + off h) := by
      simp (disch := omega) only [f_X6_verdict_185, f_X4_verdict_269, f_X4_verdict_301, f_X4_verdict_302, t1, nI_add, pn_cl, isOn_eq, on_eq, c7, on, eV_h1 C off dear proved w hh, eV_h6 C off dear proved w hh, if10, n00, n1z, if_true, if_false, ubit_1, bit_1]
      by_cases a : bt (C 7) 2 = true <;> by_cases b : bt (C 12) h = true <;> by_cases c : bt (w (4 + h * 3 + 2)) x = true <;> simp [a, b, c]
    have t3 : f_X6_verdict_119 (eV C off dear proved w) (nI x) r (nI (16 + 7 * h)) (nI (59 + 11 * x)) (w 0 + off h) = f_X4_verdict_167 w C off dear (nI h) (nI x) r (nI (142 + x * 11)) (nI (4 + h * 3)) (w 0 + off h) := by
      simp (disch := omega) only [f_X6_verdict_119, f_X6_verdict_150, f_X4_verdict_167, f_X4_verdict_207, f_X4_verdict_247, f_X4_verdict_248, t2, nI_add, pn_cl, isOn_eq, on_eq, c7, c8, c0, e, ef, eV_h4 C off dear proved w hh, eV_h5 C off dear proved w hh, if10, n00, n1z, if_true, if_false, bit_1]
      by_cases a : bt (C 7) 3 = true <;> by_cases b : bt (w (4 + h * 3 + 1)) f = true <;> by_cases c : C 4 ≤ 0 <;> by_cases d : w 0 - w (4 + h * 3 + 0) ≤ C 4 <;> simp only [a, b, c, d, if_true, if_false, not_true_eq_false, not_false_eq_true, Bool.false_eq_true]
    have t4 : f_X6_verdict_67 (eV C off dear proved w) (nI x) r (nI (16 + 7 * h)) (nI (59 + 11 * x)) (w 0 + off h) = f_X4_verdict_97 w C off dear (nI h) (nI x) r (nI (142 + x * 11)) (nI (4 + h * 3)) (w 0 + off h) := by
      simp (disch := omega) only [f_X6_verdict_67, f_X6_verdict_93, f_X4_verdict_97, f_X4_verdict_132, t3, nI_add, pn_cl, isOn_eq, on_eq, c7, c6, e, if10]
      by_cases a : bt (C 7) 1 = true <;> by_cases b : w (142 + x * 11 + 4) - C 2 ≤ w 0 + off h <;> by_cases c : w 0 + off h < w (142 + x * 11 + 5) + C 2 <;> simp only [a, b, c, if_true, if_false, not_true_eq_false, not_false_eq_true, Bool.false_eq_true]
    simp (disch := omega) only [f_X6_verdict, f_X4_verdict, f_X6_house, f_X6_note, nI_add, pk_mul, pn_cl, eV_in0 C off dear proved w hh, isIn_eq C hh, isNote_eq R.2.1.1 hN (show x < 2 ^ 31 by omega), hx, if_true, n1z, if_false, if10, e, c0, isOn_eq, on_eq, c7, eV_h0 C off dear proved w hh, t4]
    by_cases a : bt (C 7) 0 = true <;> by_cases b : bt (C 11) h = true <;> by_cases c : w (142 + x * 11 + 0) = nI 1 <;> by_cases d : w (142 + x * 11 + 2) = nI h <;> simp only [a, b, c, d, if_true, if_false, not_true_eq_false, not_false_eq_true, Bool.false_eq_true]
  · simp (disch := omega) only [s_X4_verdict_402, s_X4_verdict_378, s_X4_verdict_323, s_X4_verdict_302, s_X4_verdict_301, s_X4_verdict_269, s_X4_verdict_248, s_X4_verdict_247, s_X4_verdict_207, s_X4_verdict_167, s_X4_verdict_132, s_X4_verdict_97, s_X4_verdict, nI_add, pk_mul, pn_in, implies_true, and_self]
  · simp (disch := omega) only [s_X6_verdict_221, s_X6_verdict_185, s_X6_verdict_150, s_X6_verdict_119, s_X6_verdict_93, s_X6_verdict_67, s_X6_verdict, f_X6_house, f_X6_note, nI_add, pk_mul, pn_in, implies_true, and_self]
