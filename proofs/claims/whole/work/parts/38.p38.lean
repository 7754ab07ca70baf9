def nCd (w : Nat → Int32) (f x h : Nat) : Prop := w (142 + x * 11 + 6) = nI f ∧ ¬ w (142 + x * 11 + 0) = nI 1 ∧ w (142 + x * 11 + 2) = nI h
theorem b_set {m : Int32} {h i : Nat} (hh : h < 32) (hi : i < 32) : (bt (m ||| (nI 1 <<< (nI h &&& 31))) i = true) = (bt m i = true ∨ i = h) := by
  rw [b_or, b_sh1 h hh i hi]; simp
theorem end32 {C Dg : Nat → Int32} {d : Bool} {nN f : Nat} {w : Nat → Int32} (h1 : w 1 = nI nN) (hN : nN ≤ 32) (hh : ∀ x, x < nN → ∃ h, h < 4 ∧ w (142 + x * 11 + 2) = nI h) : ∀ (n x : Nat) (m : Int32), nN - x < n → x ≤ nN → ∃ M : Int32, (∀ h, h < 4 → ((bt M h = true) ↔ (bt m h = true ∨ ∃ y, x ≤ y ∧ y < nN ∧ nCd w f y h))) ∧ f_X4_endFamily_32 n w Dg C d (nI f) m (nI x) = f_X4_endFamily_105 w Dg C d (nI f) M ∧ (s_X4_endFamily_105 w Dg C d (nI f) M → s_X4_endFamily_32 n w Dg C d (nI f) m (nI x))
  | 0, x, m, h, _ => by omega
  | n + 1, x, m, h, hx => by
    rw [f_X4_endFamily_32, s_X4_endFamily_32]
    by_cases e : x = nN
    · subst e
      simp (disch := omega) only [pn_cl, h1, pn_le, Nat.le_refl, if_true]
      exact ⟨m, fun h _ => ⟨Or.inl, fun q => q.elim id (fun ⟨y, a, b, _⟩ => by omega)⟩, rfl, fun h => ⟨fun _ => h, fun q => absurd trivial q⟩⟩
    · have hx2 : x < nN := by omega
      obtain ⟨h0, h0a, h0b⟩ := hh x hx2
      simp (disch := omega) only [pn_cl, h1, pn_le, show ¬ nN ≤ x by omega, show ¬ 32 ≤ x by omega, if_false, nI_add, pk_mul, pn_in, f_X4_endFamily_99, s_X4_endFamily_99, h0b]
      have ih := fun m => end32 h1 hN hh n (x + 1) m (by omega) (by omega) (Dg := Dg) (d := d) (f := f) (C := C)
      by_cases c1 : w (142 + x * 11 + 6) = nI f
      · by_cases c2 : w (142 + x * 11 + 0) = nI 1
        · obtain ⟨M, a, b, c⟩ := ih m
          refine ⟨M, fun h hh4 => ?_, by rw [if_pos c1, if_pos c2]; exact b, fun s => ?_⟩
          · rw [a h hh4]
            constructor
            · rintro (q | ⟨y, q1, q2, q3⟩)
              · exact Or.inl q
              · exact Or.inr ⟨y, by omega, q2, q3⟩
            · rintro (q | ⟨y, q1, q2, q3⟩)
              · exact Or.inl q
              · rcases Nat.eq_or_lt_of_le q1 with z | z
                · subst z; exact absurd c2 q3.2.1
                · exact Or.inr ⟨y, z, q2, q3⟩
          · have c2' : w (142 + x * 11) = nI 1 := c2
            simp [c1, c2', c s]
        · obtain ⟨M, a, b, c⟩ := ih (m ||| (nI 1 <<< (nI h0 &&& 31)))
          refine ⟨M, fun h hh4 => ?_, by rw [if_pos c1, if_neg c2]; exact b, fun s => ?_⟩
          · rw [a h hh4, b_set (by omega) (by omega)]
            constructor
            · rintro ((q | q) | ⟨y, q1, q2, q3⟩)
              · exact Or.inl q
              · exact Or.inr ⟨x, Nat.le_refl x, hx2, c1, c2, by rw [q]; exact h0b⟩
              · exact Or.inr ⟨y, by omega, q2, q3⟩
            · rintro (q | ⟨y, q1, q2, q3⟩)
              · exact Or.inl (Or.inl q)
              · rcases Nat.eq_or_lt_of_le q1 with z | z
                · subst z
                  have := h0b.symm.trans q3.2.2
                  rw [pn_eq (by omega) (by omega)] at this
                  exact Or.inl (Or.inr this.symm)
                · exact Or.inr ⟨y, z, q2, q3⟩
          · have c2' : ¬ w (142 + x * 11) = nI 1 := c2
            simp [c1, c2', c s]
      · obtain ⟨M, a, b, c⟩ := ih m
        refine ⟨M, fun h hh4 => ?_, by rw [if_neg c1]; exact b, fun s => ?_⟩
        · rw [a h hh4]
          constructor
          · rintro (q | ⟨y, q1, q2, q3⟩)
            · exact Or.inl q
            · exact Or.inr ⟨y, by omega, q2, q3⟩
          · rintro (q | ⟨y, q1, q2, q3⟩)
            · exact Or.inl q
            · rcases Nat.eq_or_lt_of_le q1 with z | z
              · subst z; exact absurd q3.1 c1
              · exact Or.inr ⟨y, z, q2, q3⟩
        · simp [c1, c s]

theorem isIn_eq (C : Nat → Int32) {h : Nat} (hh : h < 4) : f_X2_isIn C (nI h) = if bt (C 11) h = true then nI 1 else nI 0 := by
  unfold f_X2_isIn
  simp (disch := omega) only [pn_lt0, pn_le, show ¬ 4 ≤ h by omega, if_false, bit_1]
def lc (w : Nat → Int32) : Nat := (w 3).toNatClampNeg
def lcV (v : Nat → Int32) : Nat := (v 14).toNatClampNeg
def qN (w : Nat → Int32) (n f h : Nat) : Bool := (List.range n).any fun x => decide (w (142 + x * 11 + 6) = nI f) && (!decide (w (142 + x * 11 + 0) = nI 1) && decide (w (142 + x * 11 + 2) = nI h))
theorem qN_iff {w : Nat → Int32} {n f h : Nat} : qN w n f h = true ↔ ∃ y, y < n ∧ nCd w f y h := by
  unfold qN nCd
  rw [List.any_eq_true]
  constructor
  · rintro ⟨y, h1, h2⟩
    simp only [Bool.and_eq_true, decide_eq_true_eq, Bool.not_eq_true', decide_eq_false_iff_not] at h2
    exact ⟨y, List.mem_range.mp h1, h2.1, h2.2.1, h2.2.2⟩
  · rintro ⟨y, h1, h2, h3, h4⟩
    refine ⟨y, List.mem_range.mpr h1, ?_⟩
    simp only [Bool.and_eq_true, decide_eq_true_eq, Bool.not_eq_true', decide_eq_false_iff_not]
    exact ⟨h2, h3, h4⟩
def stW (C : Nat → Int32) (q : Bool) (f h : Nat) (w : Nat → Int32) : Nat → Int32 := if q = true ∧ bt (C 11) h = true then postW C w (lc w) 5 9 (5 + h) (nI f) (-1) (nI 0) else w
def stD (C : Nat → Int32) (q : Bool) (h : Nat) (w : Nat → Int32) (d : Bool) (Dg : Nat → Int32) : Nat → Int32 := if (q = true ∧ bt (C 11) h = true) ∧ lc w = 12 ∧ d = true then upd Dg 3 (Dg 3 + nI 1) else Dg
theorem LV_over {nH nN nF f h : Nat} (hh : h < nH) (hH : nH ≤ 4) (hf : f < nF) : LV nH nN nF (nI 9) (nI (5 + h)) (nI 5) (nI f) (-1) :=
  ⟨9, 5 + h, 5, rfl, by omega, rfl, by omega, rfl, Or.inr (Or.inr (Or.inr (Or.inr (Or.inr ⟨rfl, by omega, by omega, f, hf, rfl⟩))))⟩
theorem lc_R {C w : Nat → Int32} {nH nN nF nL t : Nat} (R : WR C w nH nN nF nL t) : lc w = nL := by
  unfold lc; rw [R.2.2.2.1.1, nI_clamp (by have := R.2.2.2.1.2; omega)]
theorem WR_st {C w : Nat → Int32} {nH nN nF nL t f h : Nat} {q : Bool} (R : WR C w nH nN nF nL t) (hf : f < nF) (hh : h < 4) : ∃ nL', WR C (stW C q f h w) nH nN nF nL' t := by
  unfold stW
  split
  · rename_i c
    rw [lc_R R]
    have hH : h < nH := by
      rcases Nat.lt_or_ge h nH with z | z
      · exact z
      · have := R.2.2.2.2.2.2.2.2.1 h z hh
        rw [this] at c; exact absurd c.2 (by decide)
    exact ⟨_, WR_post R (LV_over hH R.1.2 hf)⟩
  · exact ⟨nL, R⟩
/-- the class posts the news, a house -/
theorem end107 {C w Dg : Nat → Int32} {d : Bool} {nH nN nF nL t f h n : Nat} {M : Int32} (R : WR C w nH nN nF nL t) (hf : f < nF) (hh : h < 4) :
    f_X4_endFamily_107 (n + 1) w Dg C d (nI f) M (nI h) = f_X4_endFamily_107 n (stW C (bt M h) f h w) (stD C (bt M h) h w d Dg) C d (nI f) M (nI (h + 1)) ∧
    (s_X4_endFamily_107 n (stW C (bt M h) f h w) (stD C (bt M h) h w d Dg) C d (nI f) M (nI (h + 1)) → s_X4_endFamily_107 (n + 1) w Dg C d (nI f) M (nI h)) := by
  have hF := R.2.2.1.2
  have hlc := lc_R R
  have hn := R.2.2.2.1.2
  rw [f_X4_endFamily_107, s_X4_endFamily_107]
  simp (disch := omega) only [pn_le, show ¬ 4 ≤ h by omega, if_false, bit_1, isIn_eq C hh, f_X4_endFamily_145, s_X4_endFamily_145, nI_add]
  by_cases c1 : bt M h = true
  · by_cases c2 : bt (C 11) h = true
    · have hH : h < nH := by
        rcases Nat.lt_or_ge h nH with z | z
        · exact z
        · have := R.2.2.2.2.2.2.2.2.1 h z hh
          rw [this] at c2; exact absurd c2 (by decide)
      have V := LV_over (nN := nN) hH R.1.2 hf
      have e := postW_eq (C := C) (Dg := Dg) (d := d) (z := nI 0) R.2.1.1 R.2.1.2 R.2.2.2.1.1 hn V (by omega) (by omega) (by omega)
      have sp := s_post (C := C) (Dg := Dg) (d := d) (z := nI 0) R.2.1.1 R.2.1.2 R.2.2.2.1.1 hn V (by omega) (by omega) (by omega)
      have es : stW C (bt M h) f h w = postW C w nL 5 9 (5 + h) (nI f) (-1) (nI 0) := by
        unfold stW; rw [if_pos ⟨c1, c2⟩, hlc]
      have ed : stD C (bt M h) h w d Dg = if nL = 12 then (if d = true then upd Dg 3 (Dg 3 + nI 1) else Dg) else Dg := by
        unfold stD; rw [hlc]
        by_cases z : nL = 12 <;> by_cases y : d = true <;> simp [c1, c2, z, y]
      rw [es, ed, e]
      simp [c1, c2, n1z, sp]
    · have es : stW C (bt M h) f h w = w := by unfold stW; rw [if_neg (fun z => c2 z.2)]
      have ed : stD C (bt M h) h w d Dg = Dg := by unfold stD; rw [if_neg (fun z => c2 z.1.2)]
      rw [es, ed]
      simp [c1, c2, nI_0]
  · have es : stW C (bt M h) f h w = w := by unfold stW; rw [if_neg (fun z => c1 z.1)]
    have ed : stD C (bt M h) h w d Dg = Dg := by unfold stD; rw [if_neg (fun z => c1 z.1.1)]
    rw [es, ed]
    simp [c1]
