theorem HV_t {w : Nat → Int32} {nH nN : Nat} {y : Int32} (H : HV w nH nN) : HV (upd w 0 y) nH nN := fun x h hx h1 h2 => by
  rw [pu_n _ _ (by omega)]; exact H x h hx h1 h2
theorem tick_st (C off dear proved : Nat → Int32) {w Dg dw F lg : Nat → Int32} {d : Bool} {nH nN nF nL t B : Nat} (S : SC C) (R : WR C w nH nN nF nL t) (M : MD d Dg dw F lg nN B) (hB : B + 12 < 2 ^ 30) (ht : t < 40000) :
    ∃ w' Dg' dw' F' lg' : Nat → Int32, ∃ nN' nF' nL', f_X4_passTick w Dg dw C off dear proved d = (w', Dg', dw') ∧ s_X4_passTick w Dg dw C off dear proved d ∧ f_X6_ticks (eV C off dear proved w) F lg = (eV C off dear proved w', F', lg') ∧ s_X6_ticks (eV C off dear proved w) F lg ∧ WR C w' nH nN' nF' nL' (t + 1) ∧ (HV w nH nN → HV w' nH nN') ∧ nN ≤ nN' ∧ MD d Dg' dw' F' lg' nN' (B + 12) ∧ KP d Dg dw F lg Dg' dw' F' lg' := by
  obtain ⟨e, L, h3, he1, he2, h5, hL1, hL2⟩ := S
  have R1 := WR_t R ht
  have h0 := R.2.2.2.2.1.1
  have c9 : eV C off dear proved (upd w 0 (nI (t + 1))) 1 = C 9 := rfl
  have c7 : eV C off dear proved (upd w 0 (nI (t + 1))) 7 = nI e := h3
  have c0 : eV C off dear proved (upd w 0 (nI (t + 1))) 0 = nI (t + 1) := by rw [eV_0]; exact pu_s _ _ _
  have hm := pn_eq0 (n := (t + 1) % e) (Nat.lt_of_le_of_lt (Nat.mod_le _ _) (by omega))
  -- the letters
  have key : ∀ u : Nat → Int32, WR C u nH nN nF nL (t + 1) → (HV w nH nN → HV u nH nN) → ∃ w' Dg' dw' F' lg' : Nat → Int32, ∃ nN' nF' nL', f_X4_passTick_51 u Dg dw C off dear proved d = (w', Dg', dw') ∧ s_X4_passTick_51 u Dg dw C off dear proved d ∧ f_X6_ticks_118 (eV C off dear proved u) F lg = (eV C off dear proved w', F', lg') ∧ s_X6_ticks_118 (eV C off dear proved u) F lg ∧ WR C w' nH nN' nF' nL' (t + 1) ∧ (HV w nH nN → HV w' nH nN') ∧ nN ≤ nN' ∧ MD d Dg' dw' F' lg' nN' (B + 12) ∧ KP d Dg dw F lg Dg' dw' F' lg' := by
    intro u Ru Hu
    have hn := Ru.2.2.2.1.2
    obtain ⟨w', Dg', dw', F', lg', nN', nF', nL', a1, a2, a3, a4, a5, a6, a7, a8, a9, a10⟩ := pt_loop C off dear proved (d := d) h5 hL1 hL2 12 0 ng_F ng_F u Dg dw F lg nN nF nL B (by rw [ng_F_v]; omega) (by rw [ng_F_v]; omega) (by omega) Ru M hB (fun m q1 q2 => by omega)
    exact ⟨w', Dg', dw', F', lg', nN', nF', nL', a1, a2, a4, ⟨a3, a5⟩, a6, fun h => a7 (Hu h), a8, a9, a10⟩
  have eu : f_X4_passTick w Dg dw C off dear proved d = if C 9 = 0 then f_X4_passTick_51 (upd w 0 (nI (t + 1))) Dg dw C off dear proved d else if (t + 1) % e = 0 then f_X4_passTick_51 (f_X4_hearOfEnded (upd w 0 (nI (t + 1))) C) Dg dw C off dear proved d else f_X4_passTick_51 (upd w 0 (nI (t + 1))) Dg dw C off dear proved d := by
    unfold f_X4_passTick
    have q : ¬ (nI e ≤ 0) := by
      rw [← nI_0, pn_le (by omega) (by omega)]; omega
    simp (disch := omega) only [pn_cl, h0, nI_add, pu_s, h3, q, if_false, pk_rem, hm, pn_eq0]
  have ev : f_X6_ticks (eV C off dear proved w) F lg = if C 9 = 0 then f_X6_ticks_118 (eV C off dear proved (upd w 0 (nI (t + 1)))) F lg else if (t + 1) % e = 0 then f_X6_ticks_29 ng_F (eV C off dear proved (upd w 0 (nI (t + 1)))) F lg (nI 0) (nI 0) else f_X6_ticks_118 (eV C off dear proved (upd w 0 (nI (t + 1)))) F lg := by
    unfold f_X6_ticks
    simp (disch := omega) only [pn_cl, eV_0, h0, nI_add]
    rw [← eV_u0 C off dear proved w]
    simp (disch := omega) only [c9, c7, c0, up_1 R, pk_rem, hm, pn_eq0]
    by_cases z : C 9 = 0
    · simp only [z, not_true_eq_false, if_false, if_true]
    · simp only [z, not_false_eq_true, if_false, if_true]
  have su : s_X4_passTick w Dg dw C off dear proved d = ((C 9 = 0 → s_X4_passTick_51 (upd w 0 (nI (t + 1))) Dg dw C off dear proved d) ∧ (¬ C 9 = 0 → ((t + 1) % e = 0 → s_X4_hearOfEnded (upd w 0 (nI (t + 1))) C ∧ s_X4_passTick_51 (f_X4_hearOfEnded (upd w 0 (nI (t + 1))) C) Dg dw C off dear proved d) ∧ (¬ (t + 1) % e = 0 → s_X4_passTick_51 (upd w 0 (nI (t + 1))) Dg dw C off dear proved d))) := by
    unfold s_X4_passTick
    have q : ¬ (nI e ≤ 0) := by
      rw [← nI_0, pn_le (by omega) (by omega)]; omega
    have q2 : ¬ (e = 0) := by omega
    simp (disch := omega) only [pn_cl, h0, nI_add, pu_s, h3, q, false_implies, true_and, pk_rem, hm, pn_eq0, q2, not_false_eq_true, true_implies]
  have sv : s_X6_ticks (eV C off dear proved w) F lg = ((¬ C 9 = 0 → ((t + 1) % e = 0 → s_X6_ticks_29 ng_F (eV C off dear proved (upd w 0 (nI (t + 1)))) F lg (nI 0) (nI 0)) ∧ (¬ (t + 1) % e = 0 → s_X6_ticks_118 (eV C off dear proved (upd w 0 (nI (t + 1)))) F lg)) ∧ (¬ ¬ C 9 = 0 → s_X6_ticks_118 (eV C off dear proved (upd w 0 (nI (t + 1)))) F lg)) := by
    unfold s_X6_ticks
    simp (disch := omega) only [pn_cl, eV_0, h0, nI_add]
    rw [← eV_u0 C off dear proved w]
    have q2 : ¬ (e = 0) := by omega
    simp (disch := omega) only [c9, c7, c0, up_1 R, pk_rem, hm, pn_eq0, q2, not_false_eq_true, true_and]
  rw [eu, ev, su, sv]
  by_cases z : C 9 = 0
  · obtain ⟨w', Dg', dw', F', lg', nN', nF', nL', k1, k2, k3, k4, k5, k6, k7, k8, k9⟩ := key _ R1 HV_t
    refine ⟨w', Dg', dw', F', lg', nN', nF', nL', ?_, ?_, ?_, ?_, k5, k6, k7, k8, k9⟩
    · rw [if_pos z]; exact k1
    · exact ⟨fun _ => k2, fun q => absurd z q⟩
    · rw [if_pos z]; exact k3
    · exact ⟨fun q => absurd z q, fun _ => k4⟩
  · by_cases y : (t + 1) % e = 0
    · have hF := R1.2.2.1.2
      obtain ⟨Mk, a1, a2, a3, a4⟩ := hear_m C off dear proved (F := F) (lg := lg) R1.2.2.1.1 hF ng_F ng_F 0 (nI 0) (by rw [ng_F_v]; omega) (by rw [ng_F_v]; omega) (by omega)
      obtain ⟨u, b1, b2, b3, b4, b5⟩ := hear_h C off dear proved (F := F) (lg := lg) Mk 4 0 ng_F ng_F _ (by omega) (by rw [ng_F_v]; omega) (by rw [ng_F_v]; omega) R1
      have eh : f_X4_hearOfEnded (upd w 0 (nI (t + 1))) C = u := a1.trans b1
      obtain ⟨w', Dg', dw', F', lg', nN', nF', nL', k1, k2, k3, k4, k5, k6, k7, k8, k9⟩ := key u b5.1 (fun h => b5.2.1 (HV_t h))
      refine ⟨w', Dg', dw', F', lg', nN', nF', nL', ?_, ?_, ?_, ?_, k5, k6, k7, k8, k9⟩
      · rw [if_neg z, if_pos y, eh]; exact k1
      · rw [eh]
        exact ⟨fun q => absurd q z, fun _ => ⟨fun _ => ⟨a2 b2, k2⟩, fun q => absurd y q⟩⟩
      · rw [if_neg z, if_pos y, a3, b3]; exact k3
      · exact ⟨fun _ => ⟨fun _ => a4 (b4 k4), fun q => absurd y q⟩, fun q => absurd z q⟩
    · obtain ⟨w', Dg', dw', F', lg', nN', nF', nL', k1, k2, k3, k4, k5, k6, k7, k8, k9⟩ := key _ R1 HV_t
      refine ⟨w', Dg', dw', F', lg', nN', nF', nL', ?_, ?_, ?_, ?_, k5, k6, k7, k8, k9⟩
      · rw [if_neg z, if_neg y]; exact k1
      · exact ⟨fun q => absurd q z, fun _ => ⟨fun q => absurd q y, fun _ => k2⟩⟩
      · rw [if_neg z, if_neg y]; exact k3
      · exact ⟨fun _ => ⟨fun q => absurd q y, fun _ => k4⟩, fun q => absurd z q⟩
