theorem eV_ho {C C' off off' dear dear' : Nat → Int32} (proved w : Nat → Int32) {h q : Nat} {y : Int32} (hh : h < 4) (hq : q < 7) (h0 : ∀ i, i ≠ 11 → i ≠ 12 → C' i = C i) (h1 : ∀ g p, g < 4 → p < 7 → eO C' off' dear' w g p = if g = h ∧ p = q then y else eO C off dear w g p) : eV C' off' dear' proved w = upd (eV C off dear proved w) (16 + 7 * h + q) y := by
  funext i
  by_cases a0 : i < 16
  · rw [pu_n _ _ (by omega), eV_lo _ _ _ _ _ a0, eV_lo _ _ _ _ _ a0]
    unfold eH
    rw [h0 9 (by omega) (by omega), h0 8 (by omega) (by omega), h0 7 (by omega) (by omega), h0 10 (by omega) (by omega), h0 13 (by omega) (by omega)]
    by_cases z : i < 11
    · rw [if_pos z, if_pos z, h0 (i - 4) (by omega) (by omega)]
    · rw [if_neg z, if_neg z]
  · by_cases a1 : i < 44
    · have := h1 ((i - 16) / 7) ((i - 16) % 7) (by omega) (by omega)
      by_cases e : i = 16 + 7 * h + q
      · rw [e, pu_s]
        rw [e] at this
        rw [if_pos (by omega)] at this
        unfold eV
        rw [if_neg (by omega), if_pos (by omega)]
        exact this
      · rw [pu_n _ _ e]
        rw [if_neg (by omega)] at this
        unfold eV
        rw [if_neg a0, if_pos a1, if_neg a0, if_pos a1]
        exact this
    · rw [pu_n _ _ (by omega)]
      unfold eV
      rw [if_neg a0, if_neg a1, if_neg a0, if_neg a1]
theorem eV_off (C off dear proved w : Nat → Int32) {h : Nat} {y : Int32} (hh : h < 4) : eV C (upd off h y) dear proved w = upd (eV C off dear proved w) (16 + 7 * h + 0) y := by
  refine eV_ho proved w hh (by omega) (fun i _ _ => rfl) (fun g p hg hp => ?_)
  unfold eO
  by_cases c : p = 0
  · subst c
    by_cases d : g = h
    · subst d; simp [pu_s]
    · simp [d, pu_n _ _ d]
  · simp [c]
theorem eV_dear (C off dear proved w : Nat → Int32) {h : Nat} {y : Int32} (hh : h < 4) : eV C off (upd dear h y) proved w = upd (eV C off dear proved w) (16 + 7 * h + 2) y := by
  refine eV_ho proved w hh (by omega) (fun i _ _ => rfl) (fun g p hg hp => ?_)
  unfold eO
  by_cases c : p = 2
  · subst c
    by_cases d : g = h
    · subst d; simp [pu_s]
    · simp [d, pu_n _ _ d]
  · simp [c]
theorem eV_cin (C off dear proved w : Nat → Int32) {h : Nat} {y z : Int32} (hh : h < 4) (h1 : ∀ g, g < 4 → bt1 y g = if g = h then z else bt1 (C 11) g) : eV (upd C 11 y) off dear proved w = upd (eV C off dear proved w) (16 + 7 * h + 3) z := by
  refine eV_ho proved w hh (by omega) (fun i hi _ => pu_n _ _ hi) (fun g p hg hp => ?_)
  unfold eO
  rw [pu_s, pu_n _ _ (by omega)]
  by_cases c0 : p = 0
  · rw [if_pos c0, if_pos c0, if_neg (by omega)]
  rw [if_neg c0, if_neg c0]
  by_cases c1 : p = 1
  · rw [if_pos c1, if_pos c1, if_neg (by omega)]
  rw [if_neg c1, if_neg c1]
  by_cases c2 : p = 2
  · rw [if_pos c2, if_pos c2, if_neg (by omega)]
  rw [if_neg c2, if_neg c2]
  by_cases c3 : p = 3
  · rw [if_pos c3, if_pos c3, h1 g hg]
    by_cases d : g = h
    · rw [if_pos d, if_pos ⟨d, c3⟩]
    · rw [if_neg d, if_neg (fun k => d k.1)]
  · rw [if_neg c3, if_neg c3, if_neg (fun k => c3 k.2)]
theorem eV_con (C off dear proved w : Nat → Int32) {h : Nat} {y z : Int32} (hh : h < 4) (h1 : ∀ g, g < 4 → bt1 y g = if g = h then z else bt1 (C 12) g) : eV (upd C 12 y) off dear proved w = upd (eV C off dear proved w) (16 + 7 * h + 1) z := by
  refine eV_ho proved w hh (by omega) (fun i _ hi => pu_n _ _ hi) (fun g p hg hp => ?_)
  unfold eO
  rw [pu_s, pu_n _ _ (by omega)]
  by_cases c0 : p = 0
  · rw [if_pos c0, if_pos c0, if_neg (by omega)]
  rw [if_neg c0, if_neg c0]
  by_cases c1 : p = 1
  · rw [if_pos c1, if_pos c1, h1 g hg]
    by_cases d : g = h
    · rw [if_pos d, if_pos ⟨d, c1⟩]
    · rw [if_neg d, if_neg (fun k => d k.1)]
  rw [if_neg c1, if_neg c1]
  rw [if_neg (fun k : g = h ∧ p = 1 => c1 k.2)]
theorem b_clr {m : Int32} {h i : Nat} (hh : h < 32) (hi : i < 32) : bt (m &&& ((nI 1 <<< (nI h &&& 31)) ^^^ (-1))) i = (bt m i && !decide (i = h)) := by
  rw [b_and, b_xor, b_sh1 h hh i hi, b_m1 i hi]; simp
theorem sho (rl : Nat → Int32) (v : Int32) : s_X6_isHouse rl v := in0
theorem sno (rl : Nat → Int32) (v : Int32) : s_X6_isNote rl v := in0
section OPT
variable {C off dear proved nw Dg dw F rl lg : Nat → Int32} {B : Nat}
theorem op_throwOut (Q : QW C off dear proved nw Dg dw F rl lg B) (v1 : Int32) : ∃ C' F' rl' : Nat → Int32, ∃ a : Int32, f_X5_throwOut C v1 = (C', a) ∧ s_X5_throwOut C v1 ∧ f_X6_throwOut F rl v1 = (F', rl', a) ∧ s_X6_throwOut F rl v1 ∧ QW C' off dear proved nw Dg dw F' rl' lg B ∧ KF F F' ∧ (a = 0 ∨ a = 1) := by
  have Q0 := QW_0 (y := nI 0) Q
  obtain ⟨nH, nN, nF, nL, t, S, R, H, T, e, D, O⟩ := Q
  subst e
  have hH := R.1.2
  rcases ho_c (off := off) (dear := dear) (proved := proved) R v1 with ⟨h1, h2, h3⟩ | ⟨h, hh, rfl, h1, h2⟩
  · have e : f_X2_isIn C v1 = nI 0 := by
      rcases sg v1 with q | ⟨j, hj, rfl⟩
      · unfold f_X2_isIn; rw [if_pos q]
      · rcases Nat.lt_or_ge j 4 with c | c
        · rw [isIn_eq C c, R.2.2.2.2.2.2.2.2.1 j ((Nat.lt_or_ge j nH).elim (fun z => absurd ⟨j, z, rfl⟩ h3) id) c]; rfl
        · unfold f_X2_isIn
          rw [if_neg (nI_pos hj), if_pos (nI_le c hj)]
    refine ⟨C, _, _, nI 0, ?_, ?_, ?_, ?_, Q0, KF.r0 F, Or.inl rfl⟩
    · simp only [f_X5_throwOut, e, n00, if_true]
    · simp only [s_X5_throwOut, e, n00, not_true_eq_false, false_implies]
    · simp only [f_X6_throwOut, h2, n00, if_true]
    · simp only [s_X6_throwOut, h2, n00, not_true_eq_false, false_implies, and_true]
      exact sho _ _
  · have e := isIn_eq C (show h < 4 by omega)
    have ei := eV_in0 C off dear proved nw (show h < 4 by omega)
    by_cases c : bt (C 11) h = true
    · refine ⟨upd C 11 (C 11 &&& ((nI 1 <<< (nI h &&& 31)) ^^^ (-1))), upd F 0 (nI 0), upd (eV C off dear proved nw) (16 + 7 * h + 3) (nI 0), nI 1, ?_, ?_, ?_, ?_, ?_, KF.r0 F, Or.inr rfl⟩
      · simp only [f_X5_throwOut, e, c, if_true, n1z, if_false]
      · simp only [s_X5_throwOut, implies_true]
      · simp (disch := omega) only [f_X6_throwOut, h2, n1z, if_false, f_X6_house, nI_add, pk_mul, pn_cl, ei, c, not_true_eq_false]
      · simp (disch := omega) only [s_X6_throwOut, f_X6_house, nI_add, pk_mul, pn_in, implies_true, and_true]
        exact sho _ _
      · refine ⟨nH, nN, nF, nL, t, ?_, ?_, H, T, ?_, DR_0 D, fun g a b => by rw [pu_n _ _ (by omega)]; exact O g a b⟩
        · obtain ⟨e1, L, a⟩ := S
          exact ⟨e1, L, by rw [pu_n _ _ (by omega), pu_n _ _ (by omega)]; exact a⟩
        · obtain ⟨r1, r2, r3, r4, r5, r6, r7, r8, r9, r10⟩ := R
          refine ⟨⟨by rw [pu_n _ _ (by omega)]; exact r1.1, r1.2⟩, r2, r3, r4, r5, r6, r7, r8, fun g a b => ?_, by rw [pu_n _ _ (by omega)]; exact r10⟩
          rw [pu_s, b_clr (by omega) (by omega), r9 g a b]; rfl
        · rw [eV_cin C off dear proved nw (h := h) (z := nI 0) (by omega)]
          intro g hg
          rw [bt1_v _ (by omega), bt1_v _ (by omega), b_clr (by omega) (by omega)]
          by_cases d : g = h
          · simp [d]
          · simp [d]
    · refine ⟨C, _, _, nI 0, ?_, ?_, ?_, ?_, Q0, KF.r0 F, Or.inl rfl⟩
      · simp only [f_X5_throwOut, e, c, Bool.false_eq_true, if_false, n00, if_true]
      · simp only [s_X5_throwOut, implies_true]
      · simp (disch := omega) only [f_X6_throwOut, h2, n1z, if_false, f_X6_house, nI_add, pk_mul, pn_cl, ei, c, Bool.false_eq_true, not_false_eq_true, if_true]
      · simp (disch := omega) only [s_X6_throwOut, f_X6_house, nI_add, pk_mul, pn_in, implies_true, and_true]
        exact sho _ _
set_option maxRecDepth 4000 in
theorem op_house (Q : QW C off dear proved nw Dg dw F rl lg B) (v1 v2 v3 : Int32) : ∃ C' off' dear' nw' F' rl' : Nat → Int32, ∃ a : Int32, f_X5_house C off dear nw v1 v2 v3 = (C', off', dear', nw', a) ∧ s_X5_house C off dear nw v1 v2 v3 ∧ f_X6_house_ F rl v1 v2 v3 = (F', rl', a) ∧ s_X6_house_ F rl v1 v2 v3 ∧ QW C' off' dear' proved nw' Dg dw F' rl' lg B ∧ KF F F' := by
  have Q0 := QW_0 (y := nI 0) Q
  obtain ⟨nH, nN, nF, nL, t, S, R, H, T, e, D, O⟩ := Q
  subst e
  have hH := R.1.2
  have c11 : eV C off dear proved nw 11 = nI nH := R.1.1
  have c10 := R.1.1
  by_cases g1 : f_X6_in v1 (-20) (nI 20) = 0
  · refine ⟨C, off, dear, nw, _, _, (-2), ?_, ?_, ?_, ?_, Q0, KF.r0 F⟩
    · simp only [f_X5_house, wi, g1, if_true]
    · simp only [s_X5_house_55, s_X5_house, wi, g1, not_true_eq_false, false_implies]
    · simp only [f_X6_house_, g1, if_true]
    · simp only [s_X6_house__83, s_X6_house_, g1, not_true_eq_false, false_implies]
  by_cases g2 : f_X6_in v3 (nI 0) (nI 255) = 0
  · refine ⟨C, off, dear, nw, _, _, (-2), ?_, ?_, ?_, ?_, Q0, KF.r0 F⟩
    · simp only [f_X5_house, wi, g1, g2, if_true, if_false]
    · simp only [s_X5_house_55, s_X5_house, wi, g2, not_true_eq_false, false_implies, implies_true]
    · simp only [f_X6_house_, g1, g2, if_true, if_false]
    · simp only [s_X6_house__83, s_X6_house_, g2, not_true_eq_false, false_implies, implies_true]
  rcases Nat.lt_or_ge nH 4 with g3 | g3
  · -- a house more
    have hne : ¬ nH = 4 := by omega
    refine ⟨upd (upd (upd C 11 (C 11 ||| (nI 1 <<< (nI nH &&& 31)))) 12 (C 12 ||| (if v2 = 0 then nI 0 else nI 1 <<< (nI nH &&& 31)))) 10 (nI (nH + 1)), upd off nH v1, upd dear nH v3, upd nw (4 + nH * 3 + 0) (nw 0), upd F 0 (nI 0), upd (upd (upd (upd (upd (upd (eV C off dear proved nw) (16 + 7 * nH + 0) v1) (16 + 7 * nH + 1) (if v2 = 0 then nI 0 else nI 1)) (16 + 7 * nH + 2) v3) (16 + 7 * nH + 3) (nI 1)) (16 + 7 * nH + 4) (nw 0)) 11 (nI (nH + 1)), nI nH, ?_, ?_, ?_, ?_, ?_, KF.r0 F⟩
    · by_cases z : v2 = 0
      · simp (disch := omega) only [f_X5_house, wi, g1, g2, if_false, c10, pn_lt, g3, if_true, f_X5_house_55, f_X2_open, f_X2_open_53, pn_lt0, z, f_X4_openHouse, pn_le, show ¬ 4 ≤ nH by omega, pn_cl, nI_add, pk_mul, pu_n]
      · simp (disch := omega) only [f_X5_house, wi, g1, g2, if_false, c10, pn_lt, g3, if_true, f_X5_house_55, f_X2_open, f_X2_open_53, pn_lt0, z, f_X4_openHouse, pn_le, show ¬ 4 ≤ nH by omega, pn_cl, nI_add, pk_mul, pu_n]
    · simp (disch := omega) only [s_X5_house_55, s_X5_house, s_X2_open_53, s_X2_open, s_X4_openHouse, c10, pn_in, nI_add, pk_mul, implies_true, and_true]
    · by_cases z : v2 = 0
      · simp (disch := omega) only [f_X6_house_, g1, g2, if_false, c11, pn_eq, hne, z, if_true, f_X6_house__83, f_X6_house, nI_add, pk_mul, pn_cl, pu_n, eV_0, pu_s, pn_sub]
        rfl
      · simp (disch := omega) only [f_X6_house_, g1, g2, if_false, c11, pn_eq, hne, z, f_X6_house__83, f_X6_house, nI_add, pk_mul, pn_cl, pu_n, eV_0, pu_s, pn_sub]
        rfl
    · simp (disch := omega) only [s_X6_house__83, s_X6_house_, c11, f_X6_house, nI_add, pk_mul, pn_cl, pn_in, implies_true, and_true]
    · have kC : ∀ i, i ≠ 10 → i ≠ 11 → i ≠ 12 → upd (upd (upd C 11 (C 11 ||| (nI 1 <<< (nI nH &&& 31)))) 12 (C 12 ||| (if v2 = 0 then nI 0 else nI 1 <<< (nI nH &&& 31)))) 10 (nI (nH + 1)) i = C i := fun i h1 h2 h3 => by rw [pu_n _ _ h1, pu_n _ _ h3, pu_n _ _ h2]
      have k11 : upd (upd (upd C 11 (C 11 ||| (nI 1 <<< (nI nH &&& 31)))) 12 (C 12 ||| (if v2 = 0 then nI 0 else nI 1 <<< (nI nH &&& 31)))) 10 (nI (nH + 1)) 11 = C 11 ||| (nI 1 <<< (nI nH &&& 31)) := by rw [pu_n _ _ (by omega), pu_n _ _ (by omega), pu_s]
      have k12 : upd (upd (upd C 11 (C 11 ||| (nI 1 <<< (nI nH &&& 31)))) 12 (C 12 ||| (if v2 = 0 then nI 0 else nI 1 <<< (nI nH &&& 31)))) 10 (nI (nH + 1)) 12 = C 12 ||| (if v2 = 0 then nI 0 else nI 1 <<< (nI nH &&& 31)) := by rw [pu_n _ _ (by omega), pu_s]
      have b12 : ∀ i, i < 4 → i ≠ nH → bt (C 12 ||| (if v2 = 0 then nI 0 else nI 1 <<< (nI nH &&& 31))) i = bt (C 12) i := fun i hi hn => by
        rw [b_or]
        by_cases z : v2 = 0
        · rw [if_pos z, b_n0, b_0, Bool.or_false]
        · rw [if_neg z, b_sh1 nH (by omega) i (by omega)]; simp [hn]
      have b11 : ∀ i, i < 4 → i ≠ nH → bt (C 11 ||| (nI 1 <<< (nI nH &&& 31))) i = bt (C 11) i := fun i hi hn => by
        rw [b_or, b_sh1 nH (by omega) i (by omega)]; simp [hn]
      have b11n : bt (C 11 ||| (nI 1 <<< (nI nH &&& 31))) nH = true := by
        rw [b_or, b_sh1 nH (by omega) nH (by omega)]; simp
      have X := WX_ho (h := nH) (p := 0) (y := nw 0) R g3 (by omega)
      refine ⟨nH + 1, nN, nF, nL, t, ?_, ?_, ?_, T, ?_, DR_0 D, fun g a b => by rw [k12, b12 g b (by omega)]; exact O g (by omega) b⟩
      · obtain ⟨e1, L, a⟩ := S
        exact ⟨e1, L, by rw [kC 3 (by omega) (by omega) (by omega), kC 5 (by omega) (by omega) (by omega)]; exact a⟩
      · obtain ⟨r1, r2, r3, r4, r5, r6, r7, r8, r9, r10⟩ := X.1
        refine ⟨⟨pu_s _ _ _, by omega⟩, r2, r3, r4, r5, fun x hx => ?_, fun l hl => ?_, r8, fun g a b => by rw [k11, b11 g b (by omega)]; exact r9 g (by omega) b, by rw [kC 9 (by omega) (by omega) (by omega)]; exact r10⟩
        · obtain ⟨⟨h, a, b⟩, c⟩ := r6 x hx
          exact ⟨⟨h, by omega, b⟩, c⟩
        · exact ⟨(r7 l hl).1.mono (by omega) (Nat.le_refl _) (Nat.le_refl _), (r7 l hl).2⟩
      · intro x h hx h1 h2
        exact X.2.1 H x h hx (by omega) h2
      · rw [eV_C _ _ _ _ _ _ (m := 11) (by omega), eV_con _ _ _ _ _ (h := nH) (z := if v2 = 0 then nI 0 else nI 1) g3, eV_cin _ _ _ _ _ (h := nH) (z := nI 1) g3, eV_dear _ _ _ _ _ g3, eV_off _ _ _ _ _ g3, eV_uH _ _ _ _ _ _ g3 (by omega)]
        · generalize eV C off dear proved nw = v
          funext i
          by_cases i11 : i = 11
          · rw [i11, pu_s, pu_s]
          · rw [pu_n _ _ i11, pu_n _ _ i11]
            by_cases i0 : i = 16 + 7 * nH + 0
            · rw [i0]; simp (disch := omega) only [pu_n, pu_s]
            · by_cases i1 : i = 16 + 7 * nH + 1
              · rw [i1]; simp (disch := omega) only [pu_n, pu_s]
              · by_cases i2 : i = 16 + 7 * nH + 2
                · rw [i2]; simp (disch := omega) only [pu_n, pu_s]
                · by_cases i3 : i = 16 + 7 * nH + 3
                  · rw [i3]; simp (disch := omega) only [pu_n, pu_s]
                  · by_cases i4 : i = 16 + 7 * nH + 4
                    · subst i4; simp (disch := omega) only [pu_n, pu_s]
                    · simp (disch := omega) only [pu_n]
        · intro g hg
          rw [bt1_v _ (by omega), bt1_v _ (by omega)]
          by_cases d : g = nH
          · subst d; rw [b11n]; simp
          · rw [b11 g hg d]; simp [d]
        · intro g hg
          rw [pu_n _ _ (by omega), bt1_v _ (by omega), bt1_v _ (by omega)]
          by_cases d : g = nH
          · subst d
            rw [if_pos rfl, b_or, O g (Nat.le_refl _) hg, Bool.false_or]
            by_cases z : v2 = 0
            · rw [if_pos z, if_pos z, b_n0, b_0]; rfl
            · rw [if_neg z, if_neg z, b_sh1 g (by omega) g (by omega)]; simp
          · rw [b12 g hg d]; simp [d]
  · have h4 : nH = 4 := by omega
    subst h4
    refine ⟨C, off, dear, nw, _, _, (-3), ?_, ?_, ?_, ?_, Q0, KF.r0 F⟩
    · simp (disch := omega) only [f_X5_house, wi, g1, g2, if_false, c10, pn_lt, Nat.lt_irrefl]
    · simp (disch := omega) only [s_X5_house_55, s_X5_house, c10, pn_lt, Nat.lt_irrefl, false_implies, implies_true]
    · simp (disch := omega) only [f_X6_house_, g1, g2, if_false, pn_cl, c11, if_true]
    · simp (disch := omega) only [s_X6_house__83, s_X6_house_, pn_cl, c11, not_true_eq_false, false_implies, implies_true]
end OPT
