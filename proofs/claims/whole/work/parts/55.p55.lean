section OPV
variable {C off dear proved nw Dg dw F rl lg : Nat → Int32} {B : Nat}
theorem post_rw {nH nN nF nL t k a b : Nat} {x y z : Int32} (Q : RW C off dear proved nw Dg dw F rl lg B nH nN nF nL t) (V : LV nH nN nF (nI a) (nI b) (nI k) x y) (ha : a < 10) (hb : b < 10) (hk : k < 6) : ∃ nw' Dg' F' rl' : Nat → Int32, f_X4_post nw Dg C true (nI a) (nI b) (nI k) x y z = (nw', Dg') ∧ s_X4_post nw Dg C true (nI a) (nI b) (nI k) x y z ∧ f_X6_posts rl F (nI a) (nI b) (nI k) x y z = (rl', F') ∧ s_X6_posts rl F (nI a) (nI b) (nI k) x y z ∧ QW C off dear proved nw' Dg' dw F' rl' lg B ∧ KF F F' := by
  obtain ⟨S, R, H, T, e, D, O⟩ := Q
  subst e
  have pc := post_c (Dg := Dg) (d := true) (z := z) R V ha hb hk
  have pv := posts_eV C off dear proved (F := F) (z := z) R V ha hb hk
  have P := WX_post (z := z) R V
  have L := LR_c (d := true) (Dg := Dg) (F := F) nL
  exact ⟨_, _, _, _, pc.1, pc.2, pv.1, pv.2, ⟨nH, nN, nF, _, t, S, P.1, P.2.1 H, T, rfl, DR_lr D L (Nat.le_refl _) (Nat.le_refl _), O⟩, KF.lr L⟩
theorem RW_0 {nH nN nF nL t : Nat} {y : Int32} (Q : RW C off dear proved nw Dg dw F rl lg B nH nN nF nL t) : RW C off dear proved nw Dg dw (upd F 0 y) rl lg B nH nN nF nL t := by
  obtain ⟨S, R, H, T, e, D, O⟩ := Q
  exact ⟨S, R, H, T, e, DR_0 D, O⟩
theorem pair_rw {nH nN nF nL t b : Nat} (Q : RW C off dear proved nw Dg dw F rl lg B nH nN nF nL t) (hb : b < 5) : ∃ nw' C' rl' : Nat → Int32, ∃ a : Int32, f_X4_givePair nw C (nI b) = (nw', C', a) ∧ s_X4_givePair nw C (nI b) ∧ f_X6_paired rl (nI b) = (rl', a) ∧ s_X6_paired rl (nI b) ∧ RW C' off dear proved nw' Dg dw F rl' lg B nH nN nF nL t := by
  obtain ⟨S, R, H, T, e, D, O⟩ := Q
  subst e
  have X := WX_br (b := b) (p := 0) (y := C 13 + nI 1) R hb (by omega)
  refine ⟨upd nw (16 + b * 2 + 0) (C 13 + nI 1), upd C 13 (C 13 + nI 1), upd (upd (eV C off dear proved nw) 15 (C 13 + nI 1)) (44 + 3 * b + 1) (C 13 + nI 1), C 13 + nI 1, ?_, ?_, ?_, ?_, ?_, WR_C X.1 (pu_n _ _ (by omega)) (pu_n _ _ (by omega)) (by rw [pu_n _ _ (by omega)]; exact R.2.2.2.2.2.2.2.2.2), X.2.1 H, T, ?_, D, fun h a b => by rw [pu_n _ _ (by omega)]; exact O h a b⟩
  · simp (disch := omega) only [f_X4_givePair, isBr_eq hb, n1z, if_false, nI_add, pk_mul, pn_cl, pu_s]
  · simp (disch := omega) only [s_X4_givePair, nI_add, pk_mul, pn_in, implies_true]
  · simp (disch := omega) only [f_X6_paired, f_X6_browser, nI_add, pk_mul, pn_cl, eV_15, pu_s, pu_n]
  · simp (disch := omega) only [s_X6_paired, f_X6_browser, nI_add, pk_mul, pn_in]
  · obtain ⟨e1, L, a⟩ := S
    exact ⟨e1, L, by rw [pu_n _ _ (by omega), pu_n _ _ (by omega)]; exact a⟩
  · rw [eV_C _ _ _ _ _ _ (m := 15) (by omega), eV_uB _ _ _ _ _ _ hb (by omega), pu_c _ _ _ (by omega)]
theorem op_ask (Q : QW C off dear proved nw Dg dw F rl lg B) (v1 v2 v3 : Int32) : ∃ C' Dg' nw' F' rl' : Nat → Int32, ∃ a : Int32, f_X5_ask C Dg nw v1 v2 v3 = (C', Dg', nw', a) ∧ s_X5_ask C Dg nw v1 v2 v3 ∧ f_X6_ask F rl v1 v2 v3 = (F', rl', a) ∧ s_X6_ask F rl v1 v2 v3 ∧ QW C' off dear proved nw' Dg' dw F' rl' lg B ∧ KF F F' := by
  have Q0 := QW_0 (y := nI 0) Q
  obtain ⟨nH, nN, nF, nL, t, W⟩ := Q
  have e := W.2.2.2.2.1
  have R := W.2.1
  rcases bw_c v1 with ⟨h1, h2, -⟩ | ⟨b, hb, rfl, h1, h2⟩
  · refine ⟨C, Dg, nw, _, _, (-2), ?_, ?_, ?_, ?_, Q0, KF.r0 F⟩
    · simp only [f_X5_ask, h1, n00, if_true]
    · simp only [s_X5_ask_40, s_X5_ask, h1, n00, not_true_eq_false, false_implies]
    · simp only [f_X6_ask, h2, n00, if_true]
    · simp only [s_X6_ask, h2, n00, not_true_eq_false, false_implies]
  rcases ho_c (off := off) (dear := dear) (proved := proved) R v2 with ⟨g1, g2, -⟩ | ⟨h, hh, rfl, g1, g2⟩
  · rw [← e] at g2
    refine ⟨C, Dg, nw, _, _, (-2), ?_, ?_, ?_, ?_, Q0, KF.r0 F⟩
    · simp only [f_X5_ask, h1, n1z, if_false, g1, n00, if_true]
    · simp only [s_X5_ask_40, s_X5_ask, g1, n00, not_true_eq_false, false_implies, implies_true]
    · simp only [f_X6_ask, h2, n1z, if_false, g2, n00, if_true]
    · simp only [s_X6_ask, sho, g2, n00, not_true_eq_false, false_implies, implies_true, and_true]
  rw [← e] at g2
  by_cases c : f_X6_in v3 (nI 1) (nI 255) = 0
  · refine ⟨C, Dg, nw, _, _, (-2), ?_, ?_, ?_, ?_, Q0, KF.r0 F⟩
    · simp only [f_X5_ask, h1, n1z, if_false, g1, wi, c, if_true]
    · simp only [s_X5_ask_40, s_X5_ask, wi, c, not_true_eq_false, false_implies, implies_true]
    · simp only [f_X6_ask, h2, n1z, if_false, g2, c, if_true]
    · simp only [s_X6_ask, sho, c, not_true_eq_false, false_implies, implies_true, and_true]
  · obtain ⟨nw1, C1, rl1, a, p1, p2, p3, p4, W1⟩ := pair_rw (RW_0 (y := nI 0) W) hb
    have V : LV nH nN nF (nI b) (nI 9) (nI 0) (nI h) v3 := ⟨b, 9, 0, rfl, by omega, rfl, by omega, rfl, Or.inl ⟨rfl, hb, h, hh, rfl⟩⟩
    obtain ⟨nw2, Dg2, F2, rl2, q1, q2, q3, q4, Q2, k2⟩ := post_rw (z := a) W1 V (by omega) (by omega) (by omega)
    refine ⟨C1, Dg2, nw2, F2, rl2, a, ?_, ?_, ?_, ?_, Q2, (KF.r0 F).tr k2⟩
    · simp only [f_X5_ask, h1, n1z, if_false, g1, wi, c, p1, f_X5_ask_40, q1]
    · simp only [s_X5_ask, p1, p2, s_X5_ask_40, q2, implies_true, and_true]
    · simp only [f_X6_ask, h2, n1z, if_false, g2, c, p3, f_X6_ask_41, q3]
    · simp only [s_X6_ask, sho, p3, p4, s_X6_ask_41, q4, implies_true, and_true]
theorem op_turn (Q : QW C off dear proved nw Dg dw F rl lg B) (v1 v2 : Int32) : ∃ C' Dg' nw' F' rl' : Nat → Int32, ∃ a : Int32, f_X5_turn C Dg nw v1 v2 = (C', Dg', nw', a) ∧ s_X5_turn C Dg nw v1 v2 ∧ f_X6_turn F rl v1 v2 = (F', rl', a) ∧ s_X6_turn F rl v1 v2 ∧ QW C' off dear proved nw' Dg' dw F' rl' lg B ∧ KF F F' := by
  have Q0 := QW_0 (y := nI 0) Q
  obtain ⟨nH, nN, nF, nL, t, W⟩ := Q
  have e := W.2.2.2.2.1
  have R := W.2.1
  have hN := R.2.1.2
  rcases bw_c v1 with ⟨h1, h2, -⟩ | ⟨b, hb, rfl, h1, h2⟩
  · refine ⟨C, Dg, nw, _, _, (-2), ?_, ?_, ?_, ?_, Q0, KF.r0 F⟩
    · simp only [f_X5_turn, h1, n00, if_true]
    · simp only [s_X5_turn_57, s_X5_turn, h1, n00, not_true_eq_false, false_implies]
    · simp only [f_X6_turn, h2, n00, if_true]
    · simp only [s_X6_turn, h2, n00, not_true_eq_false, false_implies]
  rcases no_c (off := off) (dear := dear) (proved := proved) R v2 with ⟨g1, g2, -⟩ | ⟨x, hx, rfl, g1, g2⟩
  · rw [← e] at g2
    refine ⟨C, Dg, nw, _, _, (-2), ?_, ?_, ?_, ?_, Q0, KF.r0 F⟩
    · simp only [f_X5_turn, h1, n1z, if_false, g1, n00, if_true]
    · simp only [s_X5_turn_57, s_X5_turn, g1, n00, not_true_eq_false, false_implies, implies_true]
    · simp only [f_X6_turn, h2, n1z, if_false, g2, n00, if_true]
    · simp only [s_X6_turn, sno, g2, n00, not_true_eq_false, false_implies, implies_true, and_true]
  rw [← e] at g2
  have a1 := has_c (p := b) R.2.1.1 hN (by omega) hx
  have a2 := has_v C off dear proved (p := b) R.2.1.1 hN (by omega) hx
  have a3 := noteWord_eq (j := 0) R.2.1.1 hN hx (by omega)
  have a4 := eV_n C off dear proved nw (j := 0) R.2.1.1 hN hx (by omega)
  rw [← e] at a2 a4
  by_cases c : bt (nw (142 + x * 11 + 10)) b = true ∧ nw (142 + x * 11 + 0) = nI 1
  · obtain ⟨nw1, C1, rl1, a, p1, p2, p3, p4, W1⟩ := pair_rw (RW_0 (y := nI 0) W) hb
    have V : LV nH nN nF (nI b) (nI 9) (nI 3) (nI x) (-1) := ⟨b, 9, 3, rfl, by omega, rfl, by omega, rfl, Or.inr (Or.inr (Or.inr (Or.inl ⟨rfl, hb, x, hx, rfl⟩)))⟩
    obtain ⟨nw2, Dg2, F2, rl2, q1, q2, q3, q4, Q2, k2⟩ := post_rw (z := a) W1 V (by omega) (by omega) (by omega)
    refine ⟨C1, Dg2, nw2, F2, rl2, a, ?_, ?_, ?_, ?_, Q2, (KF.r0 F).tr k2⟩
    · simp only [f_X5_turn, h1, n1z, if_false, g1, a1.1, c.1, if_true, a3.1, c.2, p1, f_X5_turn_57, q1]
    · simp only [s_X5_turn, a1.2, a3.2, p1, p2, s_X5_turn_57, q2, implies_true, and_true]
    · simp (disch := omega) only [f_X6_turn, h2, n1z, if_false, g2, a2.1, c.1, if_true, f_X6_note, nI_add, pk_mul, pn_cl, a4, c.2, p3, f_X6_turn_60, q3]
    · simp (disch := omega) only [s_X6_turn, sno, a2.2, f_X6_note, nI_add, pk_mul, pn_in, p3, p4, s_X6_turn_60, q4, implies_true, and_true]
  · refine ⟨C, Dg, nw, _, _, (-3), ?_, ?_, ?_, ?_, Q0, KF.r0 F⟩
    · simp only [f_X5_turn, h1, n1z, if_false, g1, a1.1, if10, a3.1]
      by_cases c1 : bt (nw (142 + x * 11 + 10)) b = true
      · rw [if_neg (fun q => q c1), if_neg (fun q => c ⟨c1, q⟩)]
      · rw [if_pos c1]
    · simp only [s_X5_turn, a1.1, a1.2, a3.1, a3.2, if10, true_and]
      exact fun _ _ c1 c2 => absurd ⟨Decidable.of_not_not c1, c2⟩ c
    · simp (disch := omega) only [f_X6_turn, h2, n1z, if_false, g2, a2.1, if10, f_X6_note, nI_add, pk_mul, pn_cl, a4]
      by_cases c1 : bt (nw (142 + x * 11 + 10)) b = true
      · rw [if_neg (fun q => q c1), if_neg (fun q => c ⟨c1, q⟩)]
      · rw [if_pos c1]
    · simp (disch := omega) only [s_X6_turn, sno, a2.1, a2.2, if10, f_X6_note, nI_add, pk_mul, pn_in, pn_cl, a4, true_and]
      exact fun _ _ c1 c2 => absurd ⟨Decidable.of_not_not c1, c2⟩ c
theorem hold_c {nH nN nF nL t p : Nat} (R : WR C nw nH nN nF nL t) (hp : p < 2 ^ 31) : f_X6_isHolder (eV C off dear proved nw) (nI p) = if p < 5 + nH then nI 1 else nI 0 := by
  have hH := R.1.2
  unfold f_X6_isHolder
  rcases Nat.lt_or_ge p 5 with c | c
  · have : f_X6_in (nI p) (nI 0) (nI 4) = nI 1 := by
      unfold f_X6_in
      rw [if_neg (by rw [nI_0]; exact nI_pos hp), if_neg (by rw [pn_lt (by omega) hp]; omega)]
    rw [this, if_neg n1z, if_pos (by omega)]
  · have e : f_X6_in (nI p) (nI 0) (nI 4) = nI 0 := by
      unfold f_X6_in
      rw [if_neg (by rw [nI_0]; exact nI_pos hp), if_pos (by rw [pn_lt (by omega) hp]; omega)]
    rw [e, if_pos (show nI 0 = 0 from rfl), pn_sub c]
    rcases ho_c (off := off) (dear := dear) (proved := proved) R (nI (p - 5)) with ⟨g1, g2, g3⟩ | ⟨h, hh, eh, g1, g2⟩
    · rw [g2, if_pos (show nI 0 = 0 from rfl), if_neg (fun z => g3 ⟨p - 5, by omega, rfl⟩)]
    · rw [pn_eq (by omega) (by omega)] at eh
      rw [g2, if_neg n1z, if_neg (by rw [pn_lt hp (by omega)]; omega), if_pos (by omega)]
theorem hold_n {nH nN nF nL t : Nat} {v : Int32} (R : WR C nw nH nN nF nL t) (hv : v < 0) : f_X6_isHolder (eV C off dear proved nw) v = nI 0 := by
  unfold f_X6_isHolder
  have e : f_X6_in v (nI 0) (nI 4) = nI 0 := by
    unfold f_X6_in; rw [nI_0]; exact if_pos hv
  have l5 : v < nI 5 := by
    rw [Int32.lt_iff_toInt_lt] at hv ⊢
    have h0 : (0 : Int32).toInt = 0 := rfl
    have h5 : (nI 5).toInt = 5 := rfl
    omega
  simp only [e, n00, if_true, l5, ite_self]
theorem op_show (Q : QW C off dear proved nw Dg dw F rl lg B) (v1 v2 v3 v4 : Int32) : ∃ Dg' nw' F' rl' : Nat → Int32, ∃ a : Int32, f_X5_show C Dg nw v1 v2 v3 v4 = (Dg', nw', a) ∧ s_X5_show C Dg nw v1 v2 v3 v4 ∧ f_X6_show F rl v1 v2 v3 v4 = (F', rl', a) ∧ s_X6_show F rl v1 v2 v3 v4 ∧ QW C off dear proved nw' Dg' dw F' rl' lg B ∧ KF F F' ∧ (a = 0 ∨ a = 1) := by
  have Q0 := QW_0 (y := nI 0) Q
  obtain ⟨nH, nN, nF, nL, t, W⟩ := Q
  have e := W.2.2.2.2.1
  have R := W.2.1
  have H := W.2.2.1
  have hN := R.2.1.2
  have hH := R.1.2
  -- whether all is well
  by_cases ok : ∃ p h x r, p < 5 + nH ∧ v1 = nI p ∧ h < nH ∧ v2 = nI h ∧ x < nN ∧ v3 = nI x ∧ r < 8 ∧ v4 = nI r ∧ bt (nw (142 + x * 11 + 10)) p = true
  · obtain ⟨p, h, x, r, hp, rfl, hh, rfl, hx, rfl, hr, rfl, hb⟩ := ok
    have V : LV nH nN nF (nI p) (nI (5 + h)) (nI 2) (nI x) (nI r) := ⟨p, 5 + h, 2, rfl, by omega, rfl, by omega, rfl, Or.inr (Or.inr (Or.inl ⟨rfl, by omega, by omega, x, hx, rfl⟩))⟩
    obtain ⟨nw2, Dg2, F2, rl2, q1, q2, q3, q4, Q2, k2⟩ := post_rw (z := nI 0) (RW_0 (y := nI 0) W) V (by omega) (by omega) (by omega)
    have a1 := has_c (p := p) R.2.1.1 hN (by omega) hx
    have a2 := has_v C off dear proved (p := p) R.2.1.1 hN (by omega) hx
    have a3 := hold_c (off := off) (dear := dear) (proved := proved) (p := p) R (by omega)
    rw [if_pos hp] at a3
    rw [← e] at a2 a3
    have b1 : f_X2_isHouse C (nI h) = nI 1 ∧ f_X6_isHouse rl (nI h) = nI 1 := by
      rw [e]
      rcases ho_c (off := off) (dear := dear) (proved := proved) R (nI h) with ⟨g1, g2, g3⟩ | ⟨_, _, _, g1, g2⟩
      · exact absurd ⟨h, hh, rfl⟩ g3
      · exact ⟨g1, g2⟩
    have b2 : f_X6_isNote rl (nI x) = nI 1 := by
      rw [e]
      rcases no_c (off := off) (dear := dear) (proved := proved) R (nI x) with ⟨g1, g2, g3⟩ | ⟨_, _, _, g1, g2⟩
      · exact absurd ⟨x, hx, rfl⟩ g3
      · exact g2
    have b3 : f_X5_isRight (nI r) = nI 1 ∧ f_X6_in (nI r) (nI 0) (nI 7) = nI 1 := by
      unfold f_X5_isRight f_X6_in
      rw [nI_0, if_neg (nI_pos (by omega)), if_neg (nI_pos (by omega)), if_neg (by rw [pn_le (by omega) (by omega)]; omega), if_neg (by rw [pn_lt (by omega) (by omega)]; omega)]
      exact ⟨rfl, rfl⟩
    refine ⟨Dg2, nw2, F2, rl2, nI 1, ?_, ?_, ?_, ?_, Q2, (KF.r0 F).tr k2, Or.inr rfl⟩
    · simp only [f_X5_show, b1.1, n1z, if_false, b3.1, a1.1, hb, if_true, nI_add, q1]
    · simp only [s_X5_show, a1.2, nI_add, q2, implies_true, and_true]
    · simp only [f_X6_show, a3, n1z, if_false, b1.2, b2, b3.2, a2.1, hb, if_true, nI_add, q3]
    · simp only [s_X6_show, s_X6_isHolder, sho, sno, a2.2, nI_add, q4, implies_true, and_true]
  · have c1 : f_X2_isHouse C v2 = 0 ∨ f_X5_isRight v4 = 0 ∨ f_X4_has nw v1 v3 = 0 := by
      rcases ho_c (off := off) (dear := dear) (proved := proved) R v2 with ⟨g1, -, -⟩ | ⟨h, hh, eh, -, -⟩
      · exact Or.inl g1
      rcases ri_c v4 with ⟨g1, -⟩ | ⟨r, hr, er, -, -⟩
      · exact Or.inr (Or.inl g1)
      refine Or.inr (Or.inr ?_)
      rcases no_c (off := off) (dear := dear) (proved := proved) R v3 with ⟨g1, -, -⟩ | ⟨x, hx, ex, -, -⟩
      · exact (has_n (Or.inr (Or.inr g1))).1
      rcases sg v1 with z | ⟨p, hp, ep⟩
      · exact (has_n (Or.inl z)).1
      rcases Nat.lt_or_ge p 9 with z | z
      · subst ex; subst ep
        rw [(has_c R.2.1.1 hN z hx).1]
        by_cases q : bt (nw (142 + x * 11 + 10)) p = true
        · rcases Nat.lt_or_ge p (5 + nH) with y | y
          · exact absurd ⟨p, h, x, r, y, rfl, hh, eh, hx, rfl, hr, er, q⟩ ok
          · have := H x (p - 5) hx (by omega) (by omega)
            rw [show 5 + (p - 5) = p by omega] at this
            rw [this] at q; exact absurd q (by decide)
        · rw [if_neg q]; rfl
      · exact (has_n (Or.inr (Or.inl (by rw [ep]; exact nI_le z hp)))).1
    have c2 : f_X6_isHolder rl v1 = 0 ∨ f_X6_isHouse rl v2 = 0 ∨ f_X6_isNote rl v3 = 0 ∨ f_X6_in v4 (nI 0) (nI 7) = 0 ∨ f_X6_has rl v1 v3 = 0 := by
      rw [e]
      rcases sg v1 with z | ⟨p, hp, ep⟩
      · exact Or.inl (hold_n R z)
      rcases (Nat.lt_or_ge p (5 + nH)).symm with z | z
      · left; rw [ep, hold_c R hp, if_neg (by omega)]; rfl
      rcases ho_c (off := off) (dear := dear) (proved := proved) R v2 with ⟨-, g1, -⟩ | ⟨h, hh, eh, -, -⟩
      · exact Or.inr (Or.inl g1)
      rcases no_c (off := off) (dear := dear) (proved := proved) R v3 with ⟨-, g1, -⟩ | ⟨x, hx, ex, -, -⟩
      · exact Or.inr (Or.inr (Or.inl g1))
      rcases ri_c v4 with ⟨-, g1⟩ | ⟨r, hr, er, -, -⟩
      · exact Or.inr (Or.inr (Or.inr (Or.inl g1)))
      refine Or.inr (Or.inr (Or.inr (Or.inr ?_)))
      subst ex; subst ep
      rw [(has_v C off dear proved R.2.1.1 hN (by omega) hx).1]
      by_cases q : bt (nw (142 + x * 11 + 10)) p = true
      · exact absurd ⟨p, h, x, r, z, rfl, hh, eh, hx, rfl, hr, er, q⟩ ok
      · rw [if_neg q]; rfl
    have sv : s_X6_has rl v1 v3 ∨ f_X6_isNote rl v3 = 0 := by
      rw [e]
      rcases no_c (off := off) (dear := dear) (proved := proved) R v3 with ⟨-, g1, -⟩ | ⟨x, hx, ex, -, -⟩
      · exact Or.inr g1
      · left; subst ex
        unfold s_X6_has f_X6_note
        simp (disch := omega) only [nI_add, pk_mul, pn_in]
    have su : s_X4_has nw v1 v3 := by
      rcases no_c (off := off) (dear := dear) (proved := proved) R v3 with ⟨g1, -, -⟩ | ⟨x, hx, ex, -, -⟩
      · exact (has_n (Or.inr (Or.inr g1))).2
      rcases sg v1 with z | ⟨p, hp, ep⟩
      · exact (has_n (Or.inl z)).2
      rcases Nat.lt_or_ge p 9 with z | z
      · subst ex; subst ep
        exact (has_c R.2.1.1 hN z hx).2
      · exact (has_n (Or.inr (Or.inl (by rw [ep]; exact nI_le z hp)))).2
    refine ⟨Dg, nw, _, _, nI 0, ?_, ?_, ?_, ?_, Q0, KF.r0 F, Or.inl rfl⟩
    · unfold f_X5_show
      rcases c1 with c | c | c
      · rw [if_pos c]
      · simp only [c, if_true, ite_self]
      · simp only [c, if_true, ite_self]
    · unfold s_X5_show
      intro d1 d2
      refine ⟨su, fun d3 => ?_⟩
      rcases c1 with c | c | c
      · exact absurd c d1
      · exact absurd c d2
      · exact absurd c d3
    · unfold f_X6_show
      rcases c2 with c | c | c | c | c <;> simp only [c, if_true, ite_self]
    · unfold s_X6_show
      refine ⟨fun _ => sho _ _, fun d1 => ⟨sho _ _, fun d2 => ⟨sno _ _, fun d3 d4 => ⟨?_, fun d5 => ?_⟩⟩⟩⟩
      · rcases sv with s | s
        · exact s
        · exact absurd s d3
      · rcases c2 with c | c | c | c | c
        · exact absurd c d1
        · exact absurd c d2
        · exact absurd c d3
        · exact absurd c d4
        · exact absurd c d5
end OPV
