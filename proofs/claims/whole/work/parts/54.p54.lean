section OPU
variable {C off dear proved nw Dg dw F rl lg : Nat → Int32} {B : Nat}
theorem op_prove (Q : QW C off dear proved nw Dg dw F rl lg B) (v1 : Int32) : ∃ pv' F' rl' : Nat → Int32, ∃ a : Int32, f_X5_prove C proved nw v1 = (pv', a) ∧ s_X5_prove C proved nw v1 ∧ f_X6_prove F rl v1 = (F', rl', a) ∧ s_X6_prove F rl v1 ∧ QW C off dear pv' nw Dg dw F' rl' lg B ∧ KF F F' ∧ (a = 0 ∨ a = 1) := by
  have Q0 := QW_0 (y := nI 0) Q
  obtain ⟨nH, nN, nF, nL, t, S, R, H, T, e, D, O⟩ := Q
  subst e
  rcases bw_c v1 with ⟨h1, h2, -⟩ | ⟨b, hb, rfl, h1, h2⟩
  · refine ⟨proved, _, _, nI 0, ?_, ?_, ?_, ?_, Q0, KF.r0 F, Or.inl rfl⟩
    · simp only [f_X5_prove, h1, n00, if_true]
    · simp only [s_X5_prove, h1, n00, not_true_eq_false, false_implies]
    · simp only [f_X6_prove, h2, n00, if_true]
    · simp only [s_X6_prove, h2, n00, not_true_eq_false, false_implies]
  · by_cases c : C 9 = 0
    · refine ⟨proved, _, _, nI 0, ?_, ?_, ?_, ?_, Q0, KF.r0 F, Or.inl rfl⟩
      · simp only [f_X5_prove, h1, n1z, if_false, c, if_true]
      · simp only [s_X5_prove, c, not_true_eq_false, false_implies, implies_true]
      · simp (disch := omega) only [f_X6_prove, h2, n1z, if_false, pn_cl, eV_1, c, if_true]
      · simp (disch := omega) only [s_X6_prove, pn_cl, eV_1, c, not_true_eq_false, false_implies, implies_true]
    · refine ⟨upd proved b (nw 0), upd F 0 (nI 0), upd (eV C off dear proved nw) (44 + 3 * b + 0) (nw 0), nI 1, ?_, ?_, ?_, ?_, ⟨nH, nN, nF, nL, t, S, R, H, T, (eV_p C off dear proved nw _ hb).symm, DR_0 D, O⟩, KF.r0 F, Or.inr rfl⟩
      · simp (disch := omega) only [f_X5_prove, h1, n1z, if_false, c, pn_cl, f_X4_time]
      · simp (disch := omega) only [s_X5_prove, s_X4_time, pn_in, implies_true, and_true]
      · simp (disch := omega) only [f_X6_prove, h2, n1z, if_false, pn_cl, eV_1, c, f_X6_browser, nI_add, pk_mul, eV_0]
      · simp (disch := omega) only [s_X6_prove, f_X6_browser, nI_add, pk_mul, pn_in, implies_true]
theorem leave_l {d : Bool} {nH nN t b : Nat} : ∀ (n n' f : Nat) (w Dg F : Nat → Int32) (nF nL c : Nat), WR C w nH nN nF nL t → HV w nH nN → nF - f < n → nF - f < n' → f ≤ nF → ∃ w' Dg' F' : Nat → Int32, ∃ a : Int32, ∃ nL', f_X4_endFamiliesOf_4 n w Dg C d (nI b) (nI c) (nI f) = (w', Dg', a) ∧ s_X4_endFamiliesOf_4 n w Dg C d (nI b) (nI c) (nI f) ∧ f_X6_leave_45 n' F (eV C off dear proved w) (nI b) (nI c) (nI f) = (F', eV C off dear proved w', a) ∧ s_X6_leave_45 n' F (eV C off dear proved w) (nI b) (nI c) (nI f) ∧ WR C w' nH nN nF nL' t ∧ HV w' nH nN ∧ LR d Dg F Dg' F'
  | 0, _, _, _, _, _, _, _, _, _, _, h, _, _ => by omega
  | _ + 1, 0, _, _, _, _, _, _, _, _, _, _, h, _ => by omega
  | n + 1, n' + 1, f, w, Dg, F, nF, nL, c, R, H, h1, h2, h3 => by
    have hF := R.2.2.1.2
    have h13 : eV C off dear proved w 13 = nI nF := R.2.2.1.1
    have g2 := R.2.2.1.1
    rw [f_X4_endFamiliesOf_4, s_X4_endFamiliesOf_4, f_X6_leave_45, s_X6_leave_45]
    by_cases e : f = nF
    · subst e
      refine ⟨w, Dg, F, nI c, nL, ?_, ?_, ?_, ?_, R, H, LR.rf⟩
      · simp (disch := omega) only [pn_cl, g2, pn_le, Nat.le_refl, if_true]
      · simp (disch := omega) only [pn_cl, g2, pn_le, Nat.le_refl, not_true_eq_false, false_implies]
      · simp (disch := omega) only [pn_cl, h13, pn_le, Nat.le_refl, if_true]
      · simp (disch := omega) only [pn_cl, h13, pn_le, Nat.le_refl, not_true_eq_false, false_implies]
    · have hf : f < nF := by omega
      have k0 := famWord_eq (j := 0) g2 hF hf (by omega)
      have k1 := isEnd_eq g2 hF hf
      have ev0 : eV C off dear proved w (411 + 2 * f) = w (26 + f * 2 + 0) := eV_f C off dear proved w (j := 0) g2 hF hf (by omega)
      have ev1 := eV_f C off dear proved w (j := 1) g2 hF hf (by omega)
      simp (disch := omega) only [pn_cl, g2, h13, pn_le, show ¬ nF ≤ f by omega, if_false, not_false_eq_true, true_implies, k0.1, k0.2, k1.1, k1.2, f_X6_family, nI_add, pk_mul, ev0, ev1, pn_in, true_and, f_X4_endFamiliesOf_37, f_X4_endFamiliesOf_40, s_X4_endFamiliesOf_37, s_X4_endFamiliesOf_40, f_X6_leave_96, f_X6_leave_99, s_X6_leave_96, s_X6_leave_99]
      by_cases q : w (26 + f * 2 + 0) = nI b ∧ w (26 + f * 2 + 1) = (-1)
      · have ec := endW_eq (Dg := Dg) (d := d) R hf
        obtain ⟨F1, ev, lr, es⟩ := ends_eq C off dear proved (F := F) (Dg := Dg) (d := d) R hf
        obtain ⟨nL1, X⟩ := WX_end (Dg := Dg) (d := d) R hf
        obtain ⟨w', Dg', F', a, nL', a1, a2, a3, a4, a5, a6, a7⟩ := leave_l n n' (f + 1) (endW C w Dg d nN f).1 (endW C w Dg d nN f).2 F1 nF nL1 (c + 1) X.1 (X.2.1 H) (by omega) (by omega) (by omega)
        refine ⟨w', Dg', F', a, nL', ?_, ?_, ?_, ?_, a5, a6, lr.tr a7⟩
        · simp only [q.1, q.2, if_true, ec.1]; exact a1
        · simp only [q.1, q.2, true_implies, ec.1, ec.2.1, true_and, not_true_eq_false, false_implies, and_true]; exact a2
        · simp only [q.1, q.2, if_true, ev]; exact a3
        · simp only [q.1, q.2, true_implies, ev, es, true_and, not_true_eq_false, false_implies, and_true]; exact a4
      · obtain ⟨w', Dg', F', a, nL', a1, a2, a3, a4, a5, a6, a7⟩ := leave_l n n' (f + 1) w Dg F nF nL c R H (by omega) (by omega) (by omega)
        refine ⟨w', Dg', F', a, nL', ?_, ?_, ?_, ?_, a5, a6, a7⟩
        · by_cases q1 : w (26 + f * 2 + 0) = nI b
          · rw [if_pos q1, if_neg (fun z => q ⟨q1, z⟩)]; exact a1
          · rw [if_neg q1]; exact a1
        · exact ⟨fun q1 => ⟨fun q2 => absurd ⟨q1, q2⟩ q, fun _ => a2⟩, fun _ => a2⟩
        · by_cases q1 : w (26 + f * 2 + 0) = nI b
          · rw [if_pos q1, if_neg (fun z => q ⟨q1, z⟩)]; exact a3
          · rw [if_neg q1]; exact a3
        · exact ⟨fun q1 => ⟨fun q2 => absurd ⟨q1, q2⟩ q, fun _ => a4⟩, fun _ => a4⟩
theorem op_leave (Q : QW C off dear proved nw Dg dw F rl lg B) (v1 : Int32) : ∃ pv' Dg' nw' F' rl' : Nat → Int32, ∃ a : Int32, f_X5_leave C proved Dg nw v1 = (pv', Dg', nw', a) ∧ s_X5_leave C proved Dg nw v1 ∧ f_X6_leave F rl v1 = (F', rl', a) ∧ s_X6_leave F rl v1 ∧ QW C off dear pv' nw' Dg' dw F' rl' lg B ∧ KF F F' := by
  have Q0 := QW_0 (y := nI 0) Q
  obtain ⟨nH, nN, nF, nL, t, S, R, H, T, e, D, O⟩ := Q
  subst e
  rcases bw_c v1 with ⟨h1, h2, -⟩ | ⟨b, hb, rfl, h1, h2⟩
  · refine ⟨proved, Dg, nw, _, _, (-2), ?_, ?_, ?_, ?_, Q0, KF.r0 F⟩
    · simp only [f_X5_leave, h1, n00, if_true]
    · simp only [s_X5_leave, h1, n00, not_true_eq_false, false_implies]
    · simp only [f_X6_leave, h2, n00, if_true]
    · simp only [s_X6_leave, h2, n00, not_true_eq_false, false_implies]
  · by_cases c : C 9 = 0
    · refine ⟨proved, Dg, nw, _, _, (-3), ?_, ?_, ?_, ?_, Q0, KF.r0 F⟩
      · simp only [f_X5_leave, h1, n1z, if_false, c, if_true]
      · simp only [s_X5_leave, c, not_true_eq_false, false_implies, implies_true]
      · simp (disch := omega) only [f_X6_leave, h2, n1z, if_false, pn_cl, eV_1, c, if_true]
      · simp (disch := omega) only [s_X6_leave, pn_cl, eV_1, c, not_true_eq_false, false_implies, implies_true]
    · have hF := R.2.2.1.2
      obtain ⟨w', Dg', F', a, nL', a1, a2, a3, a4, a5, a6, a7⟩ := leave_l (C := C) (off := off) (dear := dear) (proved := upd proved b (-1)) (d := true) (b := b) ng_F ng_F 0 nw Dg (upd F 0 (nI 0)) nF nL 0 R H (by rw [ng_F_v]; omega) (by rw [ng_F_v]; omega) (by omega)
      rw [eV_p C off dear proved nw _ hb] at a3 a4
      refine ⟨upd proved b (-1), Dg', w', F', _, a, ?_, ?_, ?_, ?_, ⟨nH, nN, nF, nL', t, S, a5, a6, T, rfl, DR_lr (DR_0 D) a7 (Nat.le_refl _) (Nat.le_refl _), O⟩, (KF.r0 F).tr (KF.lr a7)⟩
      · simp (disch := omega) only [f_X5_leave, h1, n1z, if_false, c, pn_cl, f_X4_endFamiliesOf, a1]
      · simp (disch := omega) only [s_X5_leave, s_X4_endFamiliesOf, pn_in, a2, implies_true, and_true]
      · simp (disch := omega) only [f_X6_leave, h2, n1z, if_false, pn_cl, eV_1, c, f_X6_browser, nI_add, pk_mul]
        exact a3
      · simp (disch := omega) only [s_X6_leave, f_X6_browser, nI_add, pk_mul, pn_in, pn_cl, true_and]
        exact fun _ _ => a4
theorem op_end (Q : QW C off dear proved nw Dg dw F rl lg B) (v1 : Int32) : ∃ Dg' nw' F' rl' : Nat → Int32, ∃ a : Int32, f_X5_end C Dg nw v1 = (Dg', nw', a) ∧ s_X5_end C Dg nw v1 ∧ f_X6_end F rl v1 = (F', rl', a) ∧ s_X6_end F rl v1 ∧ QW C off dear proved nw' Dg' dw F' rl' lg B ∧ KF F F' ∧ (a = 0 ∨ a = 1) := by
  have Q0 := QW_0 (y := nI 0) Q
  obtain ⟨nH, nN, nF, nL, t, S, R, H, T, e, D, O⟩ := Q
  subst e
  have hF := R.2.2.1.2
  rcases fa_c (off := off) (dear := dear) (proved := proved) R v1 with ⟨h1, h2, -⟩ | ⟨f, hf, rfl, h1, h2⟩
  · refine ⟨Dg, nw, _, _, nI 0, ?_, ?_, ?_, ?_, Q0, KF.r0 F, Or.inl rfl⟩
    · simp only [f_X5_end, h1, n00, if_true, ite_self]
    · simp only [s_X5_end, h1, n00, not_true_eq_false, false_implies, implies_true]
    · simp (disch := omega) only [f_X6_end, pn_cl, h2, n00, if_true]
    · simp (disch := omega) only [s_X6_end, pn_cl, h2, n00, not_true_eq_false, false_implies]
  · have k1 := isEnd_eq R.2.2.1.1 hF hf
    have ev1 := eV_f C off dear proved nw (j := 1) R.2.2.1.1 hF hf (by omega)
    by_cases c : C 9 = 0
    · refine ⟨Dg, nw, _, _, nI 0, ?_, ?_, ?_, ?_, Q0, KF.r0 F, Or.inl rfl⟩
      · simp only [f_X5_end, c, if_true]
      · simp only [s_X5_end, c, not_true_eq_false, false_implies]
      · simp (disch := omega) only [f_X6_end, pn_cl, h2, n1z, if_false, eV_1, c, if_true, ite_self]
      · simp (disch := omega) only [s_X6_end, pn_cl, f_X6_family, nI_add, pk_mul, pn_in, eV_1, c, not_true_eq_false, false_implies, implies_true, and_true]
    · by_cases q : nw (26 + f * 2 + 1) = (-1)
      · have ec := endW_eq (Dg := Dg) (d := true) R hf
        obtain ⟨F1, ev, lr, es⟩ := ends_eq C off dear proved (F := upd F 0 (nI 0)) (Dg := Dg) (d := true) R hf
        obtain ⟨nL1, X⟩ := WX_end (Dg := Dg) (d := true) R hf
        refine ⟨(endW C nw Dg true nN f).2, (endW C nw Dg true nN f).1, F1, _, nI 1, ?_, ?_, ?_, ?_, ⟨nH, nN, nF, nL1, t, S, X.1, X.2.1 H, T, rfl, DR_lr (DR_0 D) lr (Nat.le_refl _) (Nat.le_refl _), O⟩, (KF.r0 F).tr (KF.lr lr), Or.inr rfl⟩
        · simp only [f_X5_end, c, if_false, h1, n1z, k1.1, q, if_true, ec.1]
        · simp only [s_X5_end, k1.2, ec.2.1, implies_true, and_true]
        · simp (disch := omega) only [f_X6_end, pn_cl, h2, n1z, if_false, eV_1, c, f_X6_family, nI_add, pk_mul, ev1, q, if_true, ev]
        · simp (disch := omega) only [s_X6_end, pn_cl, f_X6_family, nI_add, pk_mul, pn_in, es, implies_true, and_true]
      · refine ⟨Dg, nw, _, _, nI 0, ?_, ?_, ?_, ?_, Q0, KF.r0 F, Or.inl rfl⟩
        · simp only [f_X5_end, c, if_false, h1, n1z, k1.1, q]
        · simp only [s_X5_end, k1.1, k1.2, q, false_implies, implies_true, and_true]
        · simp (disch := omega) only [f_X6_end, pn_cl, h2, n1z, if_false, f_X6_family, nI_add, pk_mul, ev1, q]
        · simp (disch := omega) only [s_X6_end, pn_cl, f_X6_family, nI_add, pk_mul, pn_in, ev1, q, false_implies, implies_true, and_true]
end OPU
