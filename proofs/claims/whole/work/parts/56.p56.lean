section OPX
variable {C off dear proved nw Dg dw F rl lg : Nat → Int32} {B : Nat}
theorem op_hand (Q : QW C off dear proved nw Dg dw F rl lg B) (v1 v2 v3 v4 : Int32) : ∃ Dg' nw' F' rl' : Nat → Int32, ∃ a : Int32, f_X5_hand C Dg nw v1 v2 v3 v4 = (Dg', nw', a) ∧ s_X5_hand C Dg nw v1 v2 v3 v4 ∧ f_X6_hand F rl v1 v2 v3 v4 = (F', rl', a) ∧ s_X6_hand F rl v1 v2 v3 v4 ∧ QW C off dear proved nw' Dg' dw F' rl' lg B ∧ KF F F' ∧ (a = 0 ∨ a = 1) := by
  have Q0 := QW_0 (y := nI 0) Q
  obtain ⟨nH, nN, nF, nL, t, W⟩ := Q
  have e := W.2.2.2.2.1
  have R := W.2.1
  have hN := R.2.1.2
  have hH := R.1.2
  rcases ho_c (off := off) (dear := dear) (proved := proved) R v1 with ⟨h1, h2, -⟩ | ⟨h, hh, rfl, h1, h2⟩
  · rw [← e] at h2
    refine ⟨Dg, nw, _, _, nI 0, ?_, ?_, ?_, ?_, Q0, KF.r0 F, Or.inl rfl⟩
    · simp only [f_X5_hand, h1, n00, if_true]
    · simp only [s_X5_hand, h1, n00, not_true_eq_false, false_implies]
    · simp only [f_X6_hand, h2, n00, if_true]
    · simp only [s_X6_hand, sho, h2, n00, not_true_eq_false, false_implies, and_true]
  rcases ho_c (off := off) (dear := dear) (proved := proved) R v3 with ⟨g1, g2, -⟩ | ⟨g, hg, rfl, g1, g2⟩
  · rw [← e] at h2 g2
    refine ⟨Dg, nw, _, _, nI 0, ?_, ?_, ?_, ?_, Q0, KF.r0 F, Or.inl rfl⟩
    · simp only [f_X5_hand, h1, n1z, if_false, g1, n00, if_true]
    · simp only [s_X5_hand, g1, n00, not_true_eq_false, false_implies, implies_true]
    · simp only [f_X6_hand, h2, n1z, if_false, g2, n00, if_true]
    · simp only [s_X6_hand, sho, g2, n00, not_true_eq_false, false_implies, implies_true, and_true]
  rw [← e] at h2 g2
  by_cases eq : nI h = nI g
  · refine ⟨Dg, nw, _, _, nI 0, ?_, ?_, ?_, ?_, Q0, KF.r0 F, Or.inl rfl⟩
    · simp only [f_X5_hand, h1, n1z, if_false, g1, eq, if_true, ite_self]
    · simp only [s_X5_hand, eq, not_true_eq_false, false_implies, implies_true]
    · simp only [f_X6_hand, h2, n1z, if_false, g2, eq, if_true, ite_self]
    · simp only [s_X6_hand, sho, eq, not_true_eq_false, false_implies, implies_true, and_true]
  rcases no_c (off := off) (dear := dear) (proved := proved) R v2 with ⟨k1, k2, -⟩ | ⟨x, hx, rfl, k1, k2⟩
  · rw [← e] at k2
    have a1 := has_n (w := nw) (v1 := nI 5 + nI h) (v2 := v2) (Or.inr (Or.inr k1))
    refine ⟨Dg, nw, _, _, nI 0, ?_, ?_, ?_, ?_, Q0, KF.r0 F, Or.inl rfl⟩
    · simp only [f_X5_hand, h1, n1z, if_false, g1, eq, a1.1, n00, if_true, ite_self]
    · simp only [s_X5_hand, a1.1, a1.2, n00, not_true_eq_false, false_implies, implies_true, and_true]
    · simp only [f_X6_hand, h2, n1z, if_false, g2, eq, k2, n00, if_true, ite_self]
    · simp only [s_X6_hand, sho, sno, k2, n00, not_true_eq_false, false_implies, implies_true, and_true]
  rw [← e] at k2
  have a1 := has_c (p := 5 + h) R.2.1.1 hN (by omega) hx
  have a2 := has_v C off dear proved (p := 5 + h) R.2.1.1 hN (by omega) hx
  rw [← e] at a2
  by_cases c : f_X6_in v4 (nI 1) (nI 255) = 0
  · refine ⟨Dg, nw, _, _, nI 0, ?_, ?_, ?_, ?_, Q0, KF.r0 F, Or.inl rfl⟩
    · simp only [f_X5_hand, wi, c, if_true, ite_self]
    · simp only [s_X5_hand, wi, c, not_true_eq_false, false_implies, implies_true]
    · simp only [f_X6_hand, c, if_true, ite_self]
    · simp only [s_X6_hand, sho, sno, nI_add, a2.2, c, not_true_eq_false, false_implies, implies_true, and_true]
  by_cases d : bt (nw (142 + x * 11 + 10)) (5 + h) = true
  · have V : LV nH nN nF (nI (5 + h)) (nI 9) (nI 4) (nI x) (nI g) := ⟨5 + h, 9, 4, rfl, by omega, rfl, by omega, rfl, Or.inr (Or.inr (Or.inr (Or.inr (Or.inl ⟨rfl, by omega, by omega, ⟨x, hx, rfl⟩, g, hg, rfl⟩))))⟩
    obtain ⟨nw2, Dg2, F2, rl2, q1, q2, q3, q4, Q2, k2'⟩ := post_rw (z := v4) (RW_0 (y := nI 0) W) V (by omega) (by omega) (by omega)
    refine ⟨Dg2, nw2, F2, rl2, nI 1, ?_, ?_, ?_, ?_, Q2, (KF.r0 F).tr k2', Or.inr rfl⟩
    · simp only [f_X5_hand, h1, n1z, if_false, g1, eq, wi, c, nI_add, a1.1, d, if_true, q1]
    · simp only [s_X5_hand, nI_add, a1.2, q2, implies_true, and_true]
    · simp only [f_X6_hand, h2, n1z, if_false, g2, eq, k2, c, nI_add, a2.1, d, if_true, q3]
    · simp only [s_X6_hand, sho, sno, nI_add, a2.2, q4, implies_true, and_true]
  · refine ⟨Dg, nw, _, _, nI 0, ?_, ?_, ?_, ?_, Q0, KF.r0 F, Or.inl rfl⟩
    · simp only [f_X5_hand, h1, n1z, if_false, g1, eq, wi, c, nI_add, a1.1, d, Bool.false_eq_true, n00, if_true]
    · simp only [s_X5_hand, nI_add, a1.1, a1.2, d, Bool.false_eq_true, if_false, n00, not_true_eq_false, false_implies, implies_true, and_true]
    · simp only [f_X6_hand, h2, n1z, if_false, g2, eq, k2, nI_add, a2.1, d, Bool.false_eq_true, n00, if_true]
    · simp only [s_X6_hand, sho, sno, nI_add, a2.1, a2.2, d, Bool.false_eq_true, if_false, n00, not_true_eq_false, false_implies, implies_true, and_true]
theorem op_fake (Q : QW C off dear proved nw Dg dw F rl lg B) (v1 v2 : Int32) : ∃ Dg' nw' F' rl' : Nat → Int32, ∃ a : Int32, f_X5_fake C Dg nw v1 v2 = (Dg', nw', a) ∧ s_X5_fake C Dg nw v1 v2 ∧ f_X6_fake F rl v1 v2 = (F', rl', a) ∧ s_X6_fake F rl v1 v2 ∧ QW C off dear proved nw' Dg' dw F' rl' lg B ∧ KF F F' ∧ (a = 0 ∨ a = 1) := by
  have Q0 := QW_0 (y := nI 0) Q
  obtain ⟨nH, nN, nF, nL, t, W⟩ := Q
  have e := W.2.2.2.2.1
  have R := W.2.1
  have hN := R.2.1.2
  have hH := R.1.2
  rcases iv_c (n := 3) (by omega) v1 with ⟨h1, -⟩ | ⟨b, hb, rfl, h1⟩
  · refine ⟨Dg, nw, _, _, nI 0, ?_, ?_, ?_, ?_, Q0, KF.r0 F, Or.inl rfl⟩
    · simp only [f_X5_fake, wi, h1, n00, if_true]
    · simp only [s_X5_fake, wi, h1, n00, not_true_eq_false, false_implies]
    · simp only [f_X6_fake, h1, n00, if_true]
    · simp only [s_X6_fake, h1, n00, not_true_eq_false, false_implies]
  rcases no_c (off := off) (dear := dear) (proved := proved) R v2 with ⟨k1, k2, -⟩ | ⟨x, hx, rfl, k1, k2⟩
  · rw [← e] at k2
    have a1 := has_n (w := nw) (v1 := nI 4) (v2 := v2) (Or.inr (Or.inr k1))
    refine ⟨Dg, nw, _, _, nI 0, ?_, ?_, ?_, ?_, Q0, KF.r0 F, Or.inl rfl⟩
    · simp only [f_X5_fake, wi, h1, n1z, if_false, a1.1, n00, if_true]
    · simp only [s_X5_fake, a1.1, a1.2, n00, not_true_eq_false, false_implies, implies_true, and_true]
    · simp only [f_X6_fake, h1, n1z, if_false, k2, n00, if_true]
    · simp only [s_X6_fake, sno, k2, n00, not_true_eq_false, false_implies, implies_true, and_true]
  rw [← e] at k2
  have a1 := has_c (p := 4) R.2.1.1 hN (by omega) hx
  have a2 := has_v C off dear proved (p := 4) R.2.1.1 hN (by omega) hx
  have a3 := eV_gs C off dear proved nw (b := b) (by omega)
  rw [← e] at a2 a3
  by_cases d : bt (nw (142 + x * 11 + 10)) 4 = true
  · have V : LV nH nN nF (nI 4) (nI b) (nI 1) (nI x) (-1) := ⟨4, b, 1, rfl, by omega, rfl, by omega, rfl, Or.inr (Or.inl ⟨rfl, by omega, ⟨x, hx, rfl⟩, Or.inl rfl⟩)⟩
    obtain ⟨nw2, Dg2, F2, rl2, q1, q2, q3, q4, Q2, k2'⟩ := post_rw (z := nw (16 + b * 2 + 1)) (RW_0 (y := nI 0) W) V (by omega) (by omega) (by omega)
    have kp : f_X4_knownPair nw (nI b) = nw (16 + b * 2 + 1) := by
      simp (disch := omega) only [f_X4_knownPair, isBr_eq (show b < 5 by omega), n1z, if_false, nI_add, pk_mul, pn_cl]
    refine ⟨Dg2, nw2, F2, rl2, nI 1, ?_, ?_, ?_, ?_, Q2, (KF.r0 F).tr k2', Or.inr rfl⟩
    · simp only [f_X5_fake, wi, h1, n1z, if_false, a1.1, d, if_true, kp, q1]
    · simp (disch := omega) only [s_X5_fake, a1.2, kp, q2, s_X4_knownPair, nI_add, pk_mul, pn_in, implies_true, and_true]
    · simp (disch := omega) only [f_X6_fake, h1, n1z, if_false, k2, a2.1, d, if_true, f_X6_browser, nI_add, pk_mul, pn_cl, a3, q3]
    · simp (disch := omega) only [s_X6_fake, sno, a2.2, f_X6_browser, nI_add, pk_mul, pn_cl, pn_in, a3, q4, implies_true, and_true]
  · refine ⟨Dg, nw, _, _, nI 0, ?_, ?_, ?_, ?_, Q0, KF.r0 F, Or.inl rfl⟩
    · simp only [f_X5_fake, wi, h1, n1z, if_false, a1.1, d, Bool.false_eq_true, n00, if_true]
    · simp only [s_X5_fake, a1.1, a1.2, d, Bool.false_eq_true, if_false, n00, not_true_eq_false, false_implies, implies_true, and_true]
    · simp only [f_X6_fake, h1, n1z, if_false, k2, a2.1, d, Bool.false_eq_true, n00, if_true]
    · simp only [s_X6_fake, sno, a2.1, a2.2, d, Bool.false_eq_true, if_false, n00, not_true_eq_false, false_implies, implies_true, and_true]
theorem op_deliver (Q : QW C off dear proved nw Dg dw F rl lg B) (hB : B < 2 ^ 30) (v1 : Int32) : ∃ Dg' dw' nw' F' rl' lg' : Nat → Int32, ∃ a : Int32, f_X5_deliver C off dear proved Dg dw nw v1 = (Dg', dw', nw', a) ∧ s_X5_deliver C off dear proved Dg dw nw v1 ∧ f_X6_deliver F rl lg v1 = (F', rl', lg', a) ∧ s_X6_deliver F rl lg v1 ∧ QW C off dear proved nw' Dg' dw' F' rl' lg' (B + 1) ∧ KF F F' := by
  have Q0 := QW_0 (y := nI 0) Q
  obtain ⟨nH, nN, nF, nL, t, S, R, H, T, e, D, O⟩ := Q
  have hL := R.2.2.2.1.2
  rcases le_c (off := off) (dear := dear) (proved := proved) R v1 with ⟨h1, h2, -⟩ | ⟨l, hl, rfl, h1, h2⟩
  · rw [← e] at h2
    refine ⟨Dg, dw, nw, _, _, lg, (-1), ?_, ?_, ?_, ?_, QW_up Q0 (by omega), KF.r0 F⟩
    · simp only [f_X5_deliver, f_X4_come, h1, n00, if_true]
    · simp only [s_X5_deliver, s_X4_come, h1, n00, not_true_eq_false, false_implies]
    · simp (disch := omega) only [f_X6_deliver, pn_cl, h2, n00, if_true]
    · simp (disch := omega) only [s_X6_deliver, pn_cl, h2, n00, not_true_eq_false, false_implies]
  · rw [← e] at h2
    obtain ⟨w', Dg', dw', F', lg', a, nN', nF', nL', k1, k2, k3, k4, k5, k6, k7⟩ := come_st C off dear proved R (d := true) (Dg := Dg) (dw := dw) (F := upd F 0 (nI 0)) (lg := lg) ⟨fun _ => DR_0 D, fun q => Bool.noConfusion q⟩ hB hl
    rw [← e] at k3 k4
    refine ⟨Dg', dw', w', F', _, lg', a, ?_, ?_, ?_, ?_, ⟨nH, nN', nF', nL', t, S, k5.1, k5.2.1 (HV_rem H hL), T, rfl, k6.1 rfl, O⟩, (KF.r0 F).tr (KF.kp k7)⟩
    · simp only [f_X5_deliver, k1]
    · exact k2
    · simp (disch := omega) only [f_X6_deliver, pn_cl, h2, n1z, if_false, k3]
    · simp (disch := omega) only [s_X6_deliver, k4, implies_true]
theorem op_lose (Q : QW C off dear proved nw Dg dw F rl lg B) (v1 : Int32) : ∃ nw' F' rl' : Nat → Int32, ∃ a : Int32, f_X5_lose nw v1 = (nw', a) ∧ s_X5_lose nw v1 ∧ f_X6_lose F rl v1 = (F', rl', a) ∧ s_X6_lose F rl v1 ∧ QW C off dear proved nw' Dg dw F' rl' lg B ∧ KF F F' ∧ (a = 0 ∨ a = 1) := by
  have Q0 := QW_0 (y := nI 0) Q
  obtain ⟨nH, nN, nF, nL, t, S, R, H, T, e, D, O⟩ := Q
  have hL := R.2.2.2.1.2
  rcases le_c (off := off) (dear := dear) (proved := proved) R v1 with ⟨h1, h2, -⟩ | ⟨l, hl, rfl, h1, h2⟩
  · rw [← e] at h2
    refine ⟨nw, _, _, nI 0, ?_, ?_, ?_, ?_, Q0, KF.r0 F, Or.inl rfl⟩
    · simp only [f_X5_lose, h1, n00, if_true]
    · simp only [s_X5_lose, h1, n00, not_true_eq_false, false_implies]
    · simp (disch := omega) only [f_X6_lose, pn_cl, h2, n00, if_true]
    · simp (disch := omega) only [s_X6_lose, pn_cl, h2, n00, not_true_eq_false, false_implies]
  · rw [← e] at h2
    have rc := remW_eq R.2.2.2.1.1 hl hL
    have rv := remV_eq (v := eV C off dear proved nw) R.2.2.2.1.1 hl hL
    rw [← eV_rem C off dear proved nw R.2.2.2.1.1 hl hL, ← e] at rv
    refine ⟨remW nw nL l, _, _, nI 1, ?_, ?_, ?_, ?_, ⟨nH, nN, nF, nL - 1, t, S, WR_rem R hl, HV_rem H hL, T, rfl, DR_0 D, O⟩, KF.r0 F, Or.inr rfl⟩
    · simp only [f_X5_lose, h1, n1z, if_false, rc.1]
    · simp only [s_X5_lose, rc.2, implies_true]
    · simp (disch := omega) only [f_X6_lose, pn_cl, h2, n1z, if_false, rv.1]
    · simp (disch := omega) only [s_X6_lose, rv.2, implies_true]
theorem op_copy (Q : QW C off dear proved nw Dg dw F rl lg B) (v1 : Int32) : ∃ Dg' nw' F' rl' : Nat → Int32, ∃ a : Int32, f_X5_copy C Dg nw v1 = (Dg', nw', a) ∧ s_X5_copy C Dg nw v1 ∧ f_X6_copy F rl v1 = (F', rl', a) ∧ s_X6_copy F rl v1 ∧ QW C off dear proved nw' Dg' dw F' rl' lg B ∧ KF F F' ∧ (a = 0 ∨ a = 1) := by
  have Q0 := QW_0 (y := nI 0) Q
  obtain ⟨nH, nN, nF, nL, t, W⟩ := Q
  have e := W.2.2.2.2.1
  have R := W.2.1
  have hL := R.2.2.2.1.2
  rcases le_c (off := off) (dear := dear) (proved := proved) R v1 with ⟨h1, h2, -⟩ | ⟨l, hl, rfl, h1, h2⟩
  · rw [← e] at h2
    refine ⟨Dg, nw, _, _, nI 0, ?_, ?_, ?_, ?_, Q0, KF.r0 F, Or.inl rfl⟩
    · simp only [f_X5_copy, f_X4_postAgain, h1, n00, if_true]
    · simp only [s_X5_copy, s_X4_postAgain, f_X4_postAgain, h1, n00, if_true, not_true_eq_false, false_implies, true_or, and_true]
    · simp (disch := omega) only [f_X6_copy, pn_cl, h2, n00, if_true]
    · simp (disch := omega) only [s_X6_copy, pn_cl, h2, n00, not_true_eq_false, false_implies]
  · rw [← e] at h2
    have r14 : rl 14 = nI nL := by rw [e, eV_14]; exact R.2.2.2.1.1
    rw [r14] at h2
    have w3 := R.2.2.2.1.1
    rcases Nat.lt_or_ge nL 12 with c | c
    · obtain ⟨V, -⟩ := R.2.2.2.2.2.2.1 l hl
      have V0 := V
      obtain ⟨a, b, k, ea, ha, eb, hb, ek, V1⟩ := V
      have hk : k < 6 := by rcases V1 with q | q | q | q | q | q <;> omega
      rw [ea, eb, ek] at V0
      obtain ⟨nw2, Dg2, F2, rl2, q1, q2, q3, q4, Q2, k2⟩ := post_rw (z := nw (58 + l * 7 + 5)) (RW_0 (y := nI 0) W) V0 ha hb hk
      rw [← ea, ← eb, ← ek] at q1 q2 q3 q4
      have ee := fun j hj => eV_l C off dear proved nw (j := j) w3 hL hl hj
      have ee0 : eV C off dear proved nw (443 + 7 * l) = nw (58 + l * 7 + 0) := ee 0 (by omega)
      rw [← e] at ee ee0
      have w0 : nw (58 + l * 7) = nw (58 + l * 7 + 0) := rfl
      refine ⟨Dg2, nw2, F2, rl2, nI 1, ?_, ?_, ?_, ?_, Q2, (KF.r0 F).tr k2, Or.inr rfl⟩
      · simp (disch := omega) only [f_X5_copy, f_X4_postAgain, h1, n1z, if_false, pn_cl, w3, pn_lt, c, if_true, nI_add, pk_mul, w0, q1]
      · simp (disch := omega) only [s_X5_copy, s_X4_postAgain, f_X4_postAgain, h1, n1z, if_false, pn_cl, w3, pn_lt, c, if_true, nI_add, pk_mul, w0, q1, q2, pn_in, implies_true, and_true, true_and]
        exact Or.inr rfl
      · simp (disch := omega) only [f_X6_copy, pn_cl, h2, n1z, if_false, r14, pn_eq, show ¬ nL = 12 by omega, f_X6_letter, nI_add, pk_mul, ee, ee0, q3]
      · simp (disch := omega) only [s_X6_copy, pn_cl, f_X6_letter, nI_add, pk_mul, ee, ee0, q4, pn_in, implies_true, and_true]
    · have h12 : nL = 12 := by omega
      subst h12
      refine ⟨Dg, nw, _, _, nI 0, ?_, ?_, ?_, ?_, Q0, KF.r0 F, Or.inl rfl⟩
      · simp (disch := omega) only [f_X5_copy, f_X4_postAgain, h1, n1z, if_false, pn_cl, w3, pn_lt, Nat.lt_irrefl]
      · simp (disch := omega) only [s_X5_copy, s_X4_postAgain, f_X4_postAgain, h1, n1z, if_false, pn_cl, w3, pn_lt, Nat.lt_irrefl, false_implies, implies_true, true_and, n00, true_or]
      · simp (disch := omega) only [f_X6_copy, pn_cl, h2, n1z, if_false, r14, if_true]
      · simp (disch := omega) only [s_X6_copy, pn_cl, r14, not_true_eq_false, false_implies, implies_true]
theorem tick_l : ∀ (k n m i j : Nat) (nw Dg dw F lg : Nat → Int32) (B nH nN nF nL t : Nat), j = i + k → k < n → k < m → j ≤ 500 → B + 12 * k < 2 ^ 30 → t + k ≤ 30000 → RW C off dear proved nw Dg dw F (eV C off dear proved nw) lg B nH nN nF nL t → ∃ Dg' dw' nw' F' rl' lg' : Nat → Int32, ∃ a : Int32, f_X5_tick_34 n C off dear proved Dg dw nw (nI j) (nI i) = (Dg', dw', nw', a) ∧ s_X5_tick_34 n C off dear proved Dg dw nw (nI j) (nI i) ∧ f_X6_tick_38 m F (eV C off dear proved nw) lg (nI j) (nI i) = (F', rl', lg', a) ∧ s_X6_tick_38 m F (eV C off dear proved nw) lg (nI j) (nI i) ∧ QW C off dear proved nw' Dg' dw' F' rl' lg' (B + 12 * k) ∧ KF F F'
  | 0, n, m, i, j, nw, Dg, dw, F, lg, B, nH, nN, nF, nL, t, hj, hn, hm, h5, hB, ht, W => by
    obtain ⟨n, rfl⟩ : ∃ q, n = q + 1 := ⟨n - 1, by omega⟩
    obtain ⟨m, rfl⟩ : ∃ q, m = q + 1 := ⟨m - 1, by omega⟩
    have e : j = i := by omega
    subst e
    refine ⟨Dg, dw, nw, F, _, lg, nw 0, ?_, ?_, ?_, ?_, ⟨nH, nN, nF, nL, t, W⟩, fun _ _ _ _ _ => rfl⟩
    · rw [f_X5_tick_34]
      simp (disch := omega) only [pn_le, Nat.le_refl, if_true, f_X4_time, pn_cl]
    · rw [s_X5_tick_34]
      simp (disch := omega) only [pn_le, Nat.le_refl, not_true_eq_false, false_implies]
    · rw [f_X6_tick_38]
      simp (disch := omega) only [pn_le, Nat.le_refl, if_true, pn_cl, eV_0]
    · rw [s_X6_tick_38]
      simp (disch := omega) only [pn_le, Nat.le_refl, not_true_eq_false, false_implies]
  | k + 1, n, m, i, j, nw, Dg, dw, F, lg, B, nH, nN, nF, nL, t, hj, hn, hm, h5, hB, ht, W => by
    obtain ⟨n, rfl⟩ : ∃ q, n = q + 1 := ⟨n - 1, by omega⟩
    obtain ⟨m, rfl⟩ : ∃ q, m = q + 1 := ⟨m - 1, by omega⟩
    obtain ⟨S, R, H, T, e, D, O⟩ := W
    obtain ⟨w', Dg', dw', F', lg', nN', nF', nL', k1, k2, k3, k4, k5, k6, k7, k8, k9⟩ := tick_st C off dear proved (d := true) S R ⟨fun _ => D, fun q => Bool.noConfusion q⟩ (by omega) (by omega)
    obtain ⟨Dg2, dw2, nw2, F2, rl2, lg2, a, a1, a2, a3, a4, a5, a6⟩ := tick_l k n m (i + 1) j w' Dg' dw' F' lg' (B + 12) nH nN' nF' nL' (t + 1) (by omega) (by omega) (by omega) h5 (by omega) (by omega) ⟨S, k5, k6 H, by omega, rfl, k8.1 rfl, O⟩
    refine ⟨Dg2, dw2, nw2, F2, rl2, lg2, a, ?_, ?_, ?_, ?_, ?_, (KF.kp k9).tr a6⟩
    · rw [f_X5_tick_34]
      simp (disch := omega) only [pn_le, show ¬ j ≤ i by omega, if_false, f_X5_tick_46, k1, nI_add]
      exact a1
    · rw [s_X5_tick_34]
      simp (disch := omega) only [pn_le, show ¬ j ≤ i by omega, not_false_eq_true, true_implies, s_X5_tick_46, k1, k2, nI_add, true_and]
      exact a2
    · rw [f_X6_tick_38]
      simp (disch := omega) only [pn_le, show ¬ j ≤ i by omega, if_false, f_X6_tick_51, k3, nI_add]
      exact a3
    · rw [s_X6_tick_38]
      simp (disch := omega) only [pn_le, show ¬ j ≤ i by omega, not_false_eq_true, true_implies, s_X6_tick_51, k3, k4, nI_add, true_and]
      exact a4
    · rw [show B + 12 * (k + 1) = B + 12 + 12 * k by omega]; exact a5
theorem op_tick (Q : QW C off dear proved nw Dg dw F rl lg B) (hB : B + 6000 < 2 ^ 30) (v1 : Int32) : ∃ Dg' dw' nw' F' rl' lg' : Nat → Int32, ∃ a : Int32, f_X5_tick C off dear proved Dg dw nw v1 = (Dg', dw', nw', a) ∧ s_X5_tick C off dear proved Dg dw nw v1 ∧ f_X6_tick F rl lg v1 = (F', rl', lg', a) ∧ s_X6_tick F rl lg v1 ∧ QW C off dear proved nw' Dg' dw' F' rl' lg' (B + 6000) ∧ KF F F' := by
  have Q0 := QW_0 (y := nI 0) Q
  obtain ⟨nH, nN, nF, nL, t, W⟩ := Q
  have e := W.2.2.2.2.1
  have R := W.2.1
  have T := W.2.2.2.1
  have w0 := R.2.2.2.2.1.1
  have r0 : rl 0 = nI t := by rw [e, eV_0]; exact w0
  rcases i1_c (n := 500) (by omega) v1 with ⟨h1, -⟩ | ⟨j, h1, h2, rfl, h3⟩
  · refine ⟨Dg, dw, nw, _, _, lg, (-2), ?_, ?_, ?_, ?_, QW_up Q0 (by omega), KF.r0 F⟩
    · simp only [f_X5_tick, wi, h1, n00, if_true]
    · simp only [s_X5_tick, wi, h1, n00, not_true_eq_false, false_implies]
    · simp only [f_X6_tick, h1, n00, if_true]
    · simp only [s_X6_tick, h1, n00, not_true_eq_false, false_implies]
  · rcases Nat.lt_or_ge 30000 (t + j) with c | c
    · refine ⟨Dg, dw, nw, _, _, lg, (-3), ?_, ?_, ?_, ?_, QW_up Q0 (by omega), KF.r0 F⟩
      · simp (disch := omega) only [f_X5_tick, wi, h3, n1z, if_false, f_X4_time, pn_cl, w0, nI_add, pn_le, show ¬ t + j ≤ 30000 by omega]
      · simp (disch := omega) only [s_X5_tick, f_X4_time, pn_cl, w0, nI_add, pn_le, show ¬ t + j ≤ 30000 by omega, false_implies, implies_true]
      · simp (disch := omega) only [f_X6_tick, h3, n1z, if_false, pn_cl, r0, nI_add, pn_le, show ¬ t + j ≤ 30000 by omega]
      · simp (disch := omega) only [s_X6_tick, pn_cl, r0, nI_add, pn_le, show ¬ t + j ≤ 30000 by omega, false_implies, implies_true]
    · rw [e] at W
      obtain ⟨Dg2, dw2, nw2, F2, rl2, lg2, a, a1, a2, a3, a4, a5, a6⟩ := tick_l (C := C) (off := off) (dear := dear) (proved := proved) j ng_F ng_F 0 j nw Dg dw (upd F 0 (nI 0)) lg B nH nN nF nL t (by omega) (by rw [ng_F_v]; omega) (by rw [ng_F_v]; omega) h2 (by omega) (by omega) (RW_0 W)
      rw [← e] at a3 a4
      refine ⟨Dg2, dw2, nw2, F2, rl2, lg2, a, ?_, ?_, ?_, ?_, QW_up a5 (by omega), (KF.r0 F).tr a6⟩
      · simp (disch := omega) only [f_X5_tick, wi, h3, n1z, if_false, f_X4_time, pn_cl, w0, nI_add, pn_le, c, if_true]
        exact a1
      · simp (disch := omega) only [s_X5_tick, f_X4_time, pn_cl, w0, nI_add, pn_le, c, true_implies]
        exact fun _ => a2
      · simp (disch := omega) only [f_X6_tick, h3, n1z, if_false, pn_cl, r0, nI_add, pn_le, c, if_true]
        exact a3
      · simp (disch := omega) only [s_X6_tick, pn_cl, r0, nI_add, pn_le, c, true_implies]
        exact fun _ => a4
end OPX
