theorem post_c {C w Dg : Nat → Int32} {d : Bool} {nH nN nF nL t k a b : Nat} {x y z : Int32} (R : WR C w nH nN nF nL t) (V : LV nH nN nF (nI a) (nI b) (nI k) x y) (ha : a < 10) (hb : b < 10) (hk : k < 6) : f_X4_post w Dg C d (nI a) (nI b) (nI k) x y z = (postW C w nL k a b x y z, cD d Dg nL) ∧ s_X4_post w Dg C d (nI a) (nI b) (nI k) x y z :=
  ⟨postW_eq R.2.1.1 R.2.1.2 R.2.2.2.1.1 R.2.2.2.1.2 V ha hb hk, s_post R.2.1.1 R.2.1.2 R.2.2.2.1.1 R.2.2.2.1.2 V ha hb hk⟩
theorem n00 : (nI 0 = (0 : Int32)) = True := propext ⟨fun _ => trivial, fun _ => rfl⟩
theorem n20 : ¬ (nI 2 = 0) := by decide
theorem n21 : ¬ (nI 2 = nI 1) := by decide
theorem n12 : ¬ (nI 1 = nI 2) := by decide
theorem n02 : ¬ (nI 0 = nI 2) := by decide
theorem turn_st (C off dear proved : Nat → Int32) {w Dg F : Nat → Int32} {d : Bool} {nH nN nF nL t x b : Nat} {z : Int32} (R : WR C w nH nN nF nL t) (hx : x < nN) (hb : b < 5) :
    ∃ w' Dg' F' : Nat → Int32, ∃ a : Int32, ∃ nN' nL', f_X4_turnComes w Dg C d (nI b) (nI x) z = (w', Dg', a) ∧ s_X4_turnComes w Dg C d (nI b) (nI x) z ∧ f_X6_turned (eV C off dear proved w) F (nI b) (nI x) z (nI 0) = (eV C off dear proved w', F', a) ∧ s_X6_turned (eV C off dear proved w) F (nI b) (nI x) z (nI 0) ∧ WX C w w' nH nN nF nL t nN' nF nL' ∧ LR d Dg F Dg' F' := by
  obtain ⟨-, f, hf, ef⟩ := R.2.2.2.2.2.1 x hx
  obtain ⟨s, r⟩ := rn_all C off dear proved R hx hf ef
  unfold f_X4_turnComes s_X4_turnComes
  rcases r with ⟨e, m⟩ | ⟨e, m⟩ | ⟨hN, e, m⟩
  · rw [e]
    refine ⟨w, Dg, F, nI 0, nN, nL, ?_, ⟨s, ?_⟩, (m F _ _ _).1, (m F _ _ _).2, WX.rf R, LR.rf⟩
    · simp only [f_X4_turnComes_55, f_X4_turnComes_38, f_X4_turnComes_5, f_X4_turnComes, n02, n10, n00, if_true, if_false]
    · simp only [s_X4_turnComes_55, s_X4_turnComes_38, s_X4_turnComes_5, s_X4_turnComes, n02, n10, false_implies, not_false_eq_true, true_implies, true_and]
  · rw [e]
    have ec := endW_eq (Dg := Dg) (d := d) R hf
    obtain ⟨F', ev, lr, es⟩ := ends_eq C off dear proved (F := F) (Dg := Dg) (d := d) R hf
    obtain ⟨nL', X⟩ := WX_end (Dg := Dg) (d := d) R hf
    have nw := noteWord_eq (j := 6) R.2.1.1 R.2.1.2 hx (by omega)
    rw [ef] at nw
    refine ⟨(endW C w Dg d nN f).1, (endW C w Dg d nN f).2, F', nI 1, nN, nL', ?_, ⟨s, ?_⟩, ?_, (m F _ _ _).2 es, X, lr⟩
    · simp only [f_X4_turnComes_55, f_X4_turnComes_38, f_X4_turnComes_5, f_X4_turnComes, n12, n1z, if_true, if_false, nw.1, ec.1]
    · simp only [s_X4_turnComes_55, s_X4_turnComes_38, s_X4_turnComes_5, s_X4_turnComes, n12, false_implies, not_false_eq_true, true_implies, true_and, not_true_eq_false, nw.1, nw.2, ec.2.1, and_self]
    · rw [(m F _ _ _).1, ev]
  · rw [e]
    have X := WX_rn R hx hN
    have V := LV_give (nH := nH) (nN := nN + 2) (nF := nF) hb (m := nN) (m2 := nN + 1) (by omega) (by omega)
    have pc := post_c (Dg := Dg) (d := d) (z := z) X.1 V (by omega) (by omega) (by omega)
    have pv := posts_eV C off dear proved (F := F) (z := z) X.1 V (by omega) (by omega) (by omega)
    have P := WX_post (z := z) X.1 V
    have e1 : rnW C w nN x 1 = nI (nN + 2) := X.1.2.1.1
    have e2 : nI (nN + 2) - nI 2 = nI nN := by rw [pn_sub (by omega)]; rfl
    have e3 : nI (nN + 2) - nI 1 = nI (nN + 1) := by rw [pn_sub (by omega)]; rfl
    refine ⟨_, _, cF F nL, nI 1, _, _, ?_, ⟨s, ?_⟩, ?_, (m F _ _ _).2 ?_, X.tr P, LR_c nL⟩
    · simp (disch := omega) only [f_X4_turnComes_55, f_X4_turnComes_38, f_X4_turnComes_5, f_X4_turnComes, n21, n20, if_true, if_false, pn_cl, e1, e2, e3, pc.1]
    · simp (disch := omega) only [s_X4_turnComes_55, s_X4_turnComes_38, s_X4_turnComes_5, s_X4_turnComes, n21, not_true_eq_false, false_implies, not_false_eq_true, true_implies, true_and, pn_cl, e1, e2, e3, pc.2, and_self]
    · rw [(m F _ _ _).1]
      simp only [f_X6_turned_177, n00, if_true, pv.1]
    · simp only [s_X6_turned_177, pv.2, implies_true, n00, not_true_eq_false, false_implies, and_self]
theorem thief_st (C off dear proved : Nat → Int32) {w Dg F : Nat → Int32} {d : Bool} {nH nN nF nL t x : Nat} {z b : Int32} (R : WR C w nH nN nF nL t) (hx : x < nN) :
    ∃ w' Dg' F' : Nat → Int32, ∃ a : Int32, ∃ nN' nL', f_X4_thiefTurns w Dg C d (nI x) = (w', Dg', a) ∧ s_X4_thiefTurns w Dg C d (nI x) ∧ f_X6_turned (eV C off dear proved w) F b (nI x) z (nI 1) = (eV C off dear proved w', F', a) ∧ s_X6_turned (eV C off dear proved w) F b (nI x) z (nI 1) ∧ WX C w w' nH nN nF nL t nN' nF nL' ∧ LR d Dg F Dg' F' ∧ (a = 0 → w' = w) := by
  obtain ⟨-, f, hf, ef⟩ := R.2.2.2.2.2.1 x hx
  obtain ⟨s, r⟩ := rn_all C off dear proved R hx hf ef
  unfold f_X4_thiefTurns s_X4_thiefTurns
  rcases r with ⟨e, m⟩ | ⟨e, m⟩ | ⟨hN, e, m⟩
  · rw [e]
    refine ⟨w, Dg, F, nI 0, nN, nL, ?_, ⟨s, ?_⟩, (m F _ _ _).1, (m F _ _ _).2, WX.rf R, LR.rf, fun _ => rfl⟩
    · simp only [f_X4_thiefTurns_53, f_X4_thiefTurns_37, f_X4_thiefTurns_24, f_X4_thiefTurns_5, f_X4_thiefTurns, n02, n10, n00, if_true, if_false]
    · simp only [s_X4_thiefTurns_53, s_X4_thiefTurns_37, s_X4_thiefTurns_24, s_X4_thiefTurns_5, s_X4_thiefTurns, n02, n10, false_implies, not_false_eq_true, true_implies, true_and]
  · rw [e]
    have ec := endW_eq (Dg := Dg) (d := d) R hf
    obtain ⟨F', ev, lr, es⟩ := ends_eq C off dear proved (F := F) (Dg := Dg) (d := d) R hf
    obtain ⟨nL', X⟩ := WX_end (Dg := Dg) (d := d) R hf
    have nw := noteWord_eq (j := 6) R.2.1.1 R.2.1.2 hx (by omega)
    rw [ef] at nw
    refine ⟨(endW C w Dg d nN f).1, (endW C w Dg d nN f).2, F', nI 1, nN, nL', ?_, ⟨s, ?_⟩, ?_, (m F _ _ _).2 es, X, lr, fun h => absurd h n1z⟩
    · simp only [f_X4_thiefTurns_53, f_X4_thiefTurns_37, f_X4_thiefTurns_24, f_X4_thiefTurns_5, f_X4_thiefTurns, n12, n1z, if_true, if_false, nw.1, ec.1]
    · simp only [s_X4_thiefTurns_53, s_X4_thiefTurns_37, s_X4_thiefTurns_24, s_X4_thiefTurns_5, s_X4_thiefTurns, n12, false_implies, not_false_eq_true, true_implies, true_and, not_true_eq_false, nw.1, nw.2, ec.2.1, and_self]
    · rw [(m F _ _ _).1, ev]
  · rw [e]
    have X := WX_rn R hx hN
    have e1 : rnW C w nN x 1 = nI (nN + 2) := X.1.2.1.1
    have e2 : nI (nN + 2) - nI 2 = nI nN := by rw [pn_sub (by omega)]; rfl
    have e3 : nI (nN + 2) - nI 1 = nI (nN + 1) := by rw [pn_sub (by omega)]; rfl
    have Y := WX_hv (x := nN) (b := 4) X.1 (by omega)
    have Z := WX_hv (x := nN + 1) (b := 4) Y.1 (by omega)
    have l1 := letHave_eq (b := 4) (x := nN) X.1.2.1.1 X.1.2.1.2 (by omega) (by omega)
    have l2 := letHave_eq (b := 4) (x := nN + 1) Y.1.2.1.1 Y.1.2.1.2 (by omega) (by omega)
    have g1 := gets_eq (v := eV C off dear proved (rnW C w nN x)) (x := nN) (b := 4) (by omega)
    rw [← eV_hv C off dear proved X.1.2.1.1 X.1.2.1.2 (by omega)] at g1
    have g2 := gets_eq (v := eV C off dear proved (hvW (rnW C w nN x) nN 4)) (x := nN + 1) (b := 4) (by omega)
    rw [← eV_hv C off dear proved Y.1.2.1.1 Y.1.2.1.2 (by omega)] at g2
    have e4 : hvW (rnW C w nN x) nN 4 1 = nI (nN + 2) := Y.1.2.1.1
    refine ⟨_, Dg, F, nI 1, _, _, ?_, ⟨s, ?_⟩, ?_, (m F _ _ _).2 ?_, X.tr (Y.tr Z), LR.rf, fun h => absurd h n1z⟩
    · simp (disch := omega) only [f_X4_thiefTurns_53, f_X4_thiefTurns_37, f_X4_thiefTurns_24, f_X4_thiefTurns_5, f_X4_thiefTurns, n21, n20, if_true, if_false, pn_cl, e1, e2, e3, e4, l1.1, l2.1]
    · simp (disch := omega) only [s_X4_thiefTurns_53, s_X4_thiefTurns_37, s_X4_thiefTurns_24, s_X4_thiefTurns_5, s_X4_thiefTurns, n21, not_true_eq_false, false_implies, not_false_eq_true, true_implies, true_and, pn_cl, e1, e2, e3, e4, l1.1, l1.2, l2.1, l2.2, and_self]
    · rw [(m F _ _ _).1]
      simp only [f_X6_turned_177, n1z, if_false, f_X6_turned_191, g1.1, g2.1]
    · simp only [s_X6_turned_177, n1z, false_implies, not_false_eq_true, true_implies, true_and, s_X6_turned_191, g1.1, g1.2, g2.2, and_self]
theorem aW_upd {w g : Nat → Int32} {n j : Nat} {y : Int32} (hj : j < 11) : upd (aW w n g) (142 + n * 11 + j) y = aW w n (upd g j y) := by
  funext i
  unfold aW
  by_cases e : i = 142 + n * 11 + j
  · subst e
    rw [pu_s, pu_n _ _ (by omega), blk_in (by omega) (by omega), show 142 + n * 11 + j - (142 + n * 11) = j by omega, pu_s]
  · rw [pu_n _ _ e]
    by_cases e1 : i = 1
    · rw [e1, pu_s, pu_s]
    · rw [pu_n _ _ e1, pu_n _ _ e1]
      by_cases q : 142 + n * 11 ≤ i ∧ i < 142 + n * 11 + 11
      · rw [blk_in q.1 q.2, blk_in q.1 q.2, pu_n _ _ (by omega)]
      · rw [blk_out (by omega), blk_out (by omega)]
theorem n11_2 (a0 a1 a2 a3 a4 a5 a6 a7 a8 a9 a10 y2 y3 y8 : Int32) : upd (upd (upd (n11 a0 a1 a2 a3 a4 a5 a6 a7 a8 a9 a10) 2 y2) 3 y3) 8 y8 = n11 a0 a1 y2 y3 a4 a5 a6 a7 y8 a9 a10 := by
  funext i
  unfold upd n11
  by_cases h8 : i = 8
  · simp [h8]
  · by_cases h3 : i = 3
    · simp [h3]
    · by_cases h2 : i = 2
      · simp [h2]
      · simp [h8, h3, h2]
def hdG (w : Nat → Int32) (x h : Nat) (rt till : Int32) : Nat → Int32 := n11 (nI 2) (w (142 + x * 11 + 1)) (nI h) rt (w 0) till (w (142 + x * 11 + 6)) (w (142 + x * 11 + 7)) (nI x) (nI 0) (nI 0)
theorem LV_give1 {nH nN nF b : Nat} (hb : b < 5 + nH) (h4 : nH ≤ 4) {m : Nat} (h1 : m < nN) : LV nH nN nF (nI 9) (nI b) (nI 1) (nI m) (-1) :=
  ⟨9, b, 1, rfl, by omega, rfl, by omega, rfl, Or.inr (Or.inl ⟨rfl, by omega, ⟨m, h1, rfl⟩, Or.inl rfl⟩)⟩
set_option maxRecDepth 4000 in
theorem hand88 (C off dear proved : Nat → Int32) {w Dg F : Nat → Int32} {d : Bool} {nH nN nF nL t x b h : Nat} {rt till : Int32} (R : WR C w nH nN nF nL t) (hx : x < nN) (hN : nN < 32) (hb : b < 5 + nH) (hh : h < nH) (hr : ¬ rt = 0) :
    ∃ w' Dg' F' : Nat → Int32, ∃ nL', f_X4_handComes_88 w Dg C d (nI b) (nI x) (nI h) rt till = (w', Dg', nI 1) ∧ s_X4_handComes_88 w Dg C d (nI b) (nI x) (nI h) rt till ∧ f_X6_handed_104 (eV C off dear proved w) F (nI b) (nI x) (nI h) (nI (59 + 11 * x)) rt till = (eV C off dear proved w', F', nI 1) ∧ s_X6_handed_104 (eV C off dear proved w) F (nI b) (nI x) (nI h) (nI (59 + 11 * x)) rt till ∧ WX C w w' nH nN nF nL t (nN + 1) nF nL' ∧ LR d Dg F Dg' F' := by
  have hH := R.1.2
  obtain ⟨-, f, hf, ef⟩ := R.2.2.2.2.2.1 x hx
  have X := WX_aW (g := hdG w x h rt till) R hN ⟨h, hh, rfl⟩ ⟨f, hf, ef⟩ rfl
  have V := LV_give1 (nN := nN + 1) (nF := nF) hb hH (m := nN) (by omega)
  have pc := post_c (Dg := Dg) (d := d) (z := nI 0) X.1 V (by omega) (by omega) (by omega)
  have pv := posts_eV C off dear proved (F := F) (z := nI 0) X.1 V (by omega) (by omega) (by omega)
  have P := WX_post (z := nI 0) X.1 V
  have a1 := add_eq (w := w) (kd := nI 2) (till := till) R.2.1.1 hN (show x ≤ nN by omega)
  have ee := fun j hj => eV_n C off dear proved w (j := j) R.2.1.1 R.2.1.2 hx hj
  have g1 := given_eq (v := eV C off dear proved w) (n := nN) (kd := nI 2) (p := w (142 + x * 11 + 1)) (h := nI h) (r := rt) (till := till) (f := w (142 + x * 11 + 6)) (pr := w (142 + x * 11 + 7)) (fr := nI x) R.2.1.1 hN
  have g2 : aV (eV C off dear proved w) nN (n11 (nI 2) (w (142 + x * 11 + 1)) (nI h) rt (eV C off dear proved w 0) till (w (142 + x * 11 + 6)) (w (142 + x * 11 + 7)) (nI x) (nI 0) (nI 0)) = eV C off dear proved (aW w nN (hdG w x h rt till)) := (eV_aW C off dear proved w R.2.1.1 hN _).symm
  rw [g2] at g1
  have n1 : ¬ nI nN = (-1) := by rw [pn_m1c _ (by omega)]; exact id
  refine ⟨_, _, cF F nL, _, ?_, ?_, ?_, ?_, X.tr P, LR_c nL⟩
  · simp (disch := omega) only [f_X4_handComes_88, f_X4_handComes_103, hr, if_false, a1.1, n1, nI_add, pk_mul, pn_cl, aW_upd, n11_2]
    unfold hdG at pc
    rw [pc.1]
    rfl
  · simp (disch := omega) only [s_X4_handComes_88, s_X4_handComes_103, hr, not_false_eq_true, true_implies, a1.1, a1.2, n1, nI_add, pk_mul, pn_cl, aW_upd, n11_2, pn_in, true_and]
    unfold hdG at pc
    exact pc.2
  · simp (disch := omega) only [f_X6_handed_104, f_X6_handed_137, nI_add, pn_cl, ee, g1.1, pv.1]
  · simp (disch := omega) only [s_X6_handed_104, s_X6_handed_137, nI_add, pn_cl, ee, g1.1, g1.2, pv.2, pn_in, and_self]
theorem i32_le {a b : Int32} : (a ≤ b) = ¬ (b < a) := by
  rw [eq_iff_iff]; exact (Int32.not_lt).symm
theorem i32_min (a b : Int32) : (if b < a then b else a) = (if a ≤ b then a else b) := by
  by_cases h : b < a
  · rw [if_pos h, if_neg (by rw [i32_le]; exact fun q => q h)]
  · rw [if_neg h, if_pos (by rw [i32_le]; exact h)]
theorem hand_st (C off dear proved : Nat → Int32) {w Dg F : Nat → Int32} {d : Bool} {nH nN nF nL t x b h : Nat} {z : Int32} (R : WR C w nH nN nF nL t) (hx : x < nN) (hb : b < 5 + nH) (hh : h < nH) :
    ∃ w' Dg' F' : Nat → Int32, ∃ a : Int32, ∃ nN' nL', f_X4_handComes w Dg C d (nI b) (nI x) (nI h) z = (w', Dg', a) ∧ s_X4_handComes w Dg C d (nI b) (nI x) (nI h) z ∧ f_X6_handed (eV C off dear proved w) F (nI b) (nI x) (nI h) z = (eV C off dear proved w', F', a) ∧ s_X6_handed (eV C off dear proved w) F (nI b) (nI x) (nI h) z ∧ WX C w w' nH nN nF nL t nN' nF nL' ∧ LR d Dg F Dg' F' := by
  have hN := R.2.1.2
  have hH := R.1.2
  obtain ⟨-, f, hf, ef⟩ := R.2.2.2.2.2.1 x hx
  have e := fun j hj => eV_n C off dear proved w (j := j) R.2.1.1 R.2.1.2 hx hj
  have nw3 := noteWord_eq (j := 3) R.2.1.1 R.2.1.2 hx (by omega)
  have nw5 := noteWord_eq (j := 5) R.2.1.1 R.2.1.2 hx (by omega)
  have g1 := gk_c R hx hf ef
  have g2 := gk_v C off dear proved R hx hf ef
  have c7 : eV C off dear proved w 3 = C 7 := rfl
  have c0 : eV C off dear proved w 0 = w 0 := rfl
  have c4 : eV C off dear proved w 4 = C 0 := rfl
  have c12 : eV C off dear proved w 12 = nI nN := R.2.1.1
  simp (maxSteps := 2000000) (disch := omega) only [f_X4_handComes, s_X4_handComes, f_X6_handed, s_X6_handed, f_X6_handed_29, s_X6_handed_29, g1.2, g2.2, f_X6_note, f_X6_house, pn_cl, nI_add, pk_mul, isIn_eq, if10, e, eV_in0 C off dear proved w (show h < 4 by omega), on_eq, isOn_eq, c7, c0, c4, c12, pn_in, R.2.1.1, pn_lt, pn_eq, nw3.1, nw3.2, nw5.1, nw5.2, f_J9_min_7cf53, i32_min]
  by_cases a : gK C w x f
  · have q1 : (f_X4_isGoodForKeeper w C (nI x) = 0) = False := by rw [g1.1]; simp only [a, not_true_eq_false]
    have q2 : (f_X6_isGood (eV C off dear proved w) (nI x) = 0) = False := by rw [g2.1]; simp only [a, not_true_eq_false]
    simp only [q1, q2, if_false, not_false_eq_true, true_implies, true_and]
    by_cases b : bt (C 11) h = true
    · by_cases c : nN < 32
      · have c' : ¬ nN = 32 := by omega
        by_cases o : bt (C 7) 6 = true
        · by_cases r : z &&& w (142 + x * 11 + 3) = 0
          · refine ⟨w, Dg, F, nI 0, nN, nL, ?_, ?_, ?_, ?_, WX.rf R, LR.rf⟩
            · simp [b, c, o, r, f_X4_handComes_88]
            · simp [b, c, o, r, s_X4_handComes_88]
            · simp [b, o, r]
            · simp [b, o, r]
          · obtain ⟨w', Dg', F', nL', h1, h2, h3, h4, h5, h6⟩ := hand88 C off dear proved (Dg := Dg) (F := F) (d := d) (till := if w 0 + C 0 ≤ w (142 + x * 11 + 5) then w 0 + C 0 else w (142 + x * 11 + 5)) R hx c hb hh r
            refine ⟨w', Dg', F', nI 1, nN + 1, nL', ?_, ?_, ?_, ?_, h5, h6⟩
            · simp [b, c, o, h1]
            · simp [b, c, o, h2]
            · simp only [b, o, r, c', if_true, if_false, not_true_eq_false]
              by_cases k : w 0 + C 0 ≤ w (142 + x * 11 + 5)
              · rw [if_pos k] at h3 ⊢; exact h3
              · rw [if_neg k] at h3 ⊢; exact h3
            · by_cases k : w 0 + C 0 ≤ w (142 + x * 11 + 5)
              · rw [if_pos k] at h4; simp [b, o, r, c', k, h4]
              · rw [if_neg k] at h4; simp [b, o, r, c', k, h4]
        · by_cases r : z = 0
          · refine ⟨w, Dg, F, nI 0, nN, nL, ?_, ?_, ?_, ?_, WX.rf R, LR.rf⟩
            · simp [b, c, o, r, f_X4_handComes_88]
            · simp [b, c, o, r, s_X4_handComes_88]
            · simp [b, o, r]
            · simp [b, o, r]
          · obtain ⟨w', Dg', F', nL', h1, h2, h3, h4, h5, h6⟩ := hand88 C off dear proved (Dg := Dg) (F := F) (d := d) (till := w 0 + C 0) R hx c hb hh r
            refine ⟨w', Dg', F', nI 1, nN + 1, nL', ?_, ?_, ?_, ?_, h5, h6⟩
            · simp [b, c, o, h1]
            · simp [b, c, o, h2]
            · simp [b, o, r, c', h3]
            · simp [b, o, r, c', h4]
      · have c' : nN = 32 := by omega
        refine ⟨w, Dg, F, nI 0, nN, nL, ?_, ?_, ?_, ?_, WX.rf R, LR.rf⟩
        · simp [b, c]
        · simp [b, c]
        · simp [c']
        · simp [c']
    · refine ⟨w, Dg, F, nI 0, nN, nL, ?_, ?_, ?_, ?_, WX.rf R, LR.rf⟩
      · simp [b]
      · simp [b]
      · simp [b]
      · simp [b]
  · have q1 : (f_X4_isGoodForKeeper w C (nI x) = 0) = True := by rw [g1.1]; simp only [a, not_false_eq_true]
    have q2 : (f_X6_isGood (eV C off dear proved w) (nI x) = 0) = True := by rw [g2.1]; simp only [a, not_false_eq_true]
    refine ⟨w, Dg, F, nI 0, nN, nL, ?_, ?_, ?_, ?_, WX.rf R, LR.rf⟩
    · simp [q1]
    · simp [q1]
    · simp [q2]
    · simp [q2]
