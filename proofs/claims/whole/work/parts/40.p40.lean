/-- what a step does to the numbers of lost letters -/
def LR (d : Bool) (Dg F Dg' F' : Nat → Int32) : Prop := (∀ i, i ≠ 3 → F' i = F i ∧ Dg' i = Dg i) ∧ (d = true → F 2 = 0 → Dg 3 = F 3 → Dg' 3 = F' 3) ∧ (¬ F 2 = 0 → F' = F) ∧ (d = false → Dg' = Dg)
theorem LR.rf {d : Bool} {Dg F : Nat → Int32} : LR d Dg F Dg F := ⟨fun _ _ => ⟨rfl, rfl⟩, fun _ _ h => h, fun _ => rfl, fun _ => rfl⟩
theorem LR.tr {d : Bool} {Dg F Dg1 F1 Dg2 F2 : Nat → Int32} (a : LR d Dg F Dg1 F1) (b : LR d Dg1 F1 Dg2 F2) : LR d Dg F Dg2 F2 := by
  have e : F1 2 = F 2 := (a.1 2 (by decide)).1
  refine ⟨fun i hi => ⟨(b.1 i hi).1.trans (a.1 i hi).1, (b.1 i hi).2.trans (a.1 i hi).2⟩, fun h1 h2 h3 => b.2.1 h1 (e.trans h2) (a.2.1 h1 h2 h3), fun h => ?_, fun h => (b.2.2.2 h).trans (a.2.2.2 h)⟩
  rw [b.2.2.1 (by rw [e]; exact h), a.2.2.1 h]
theorem LR_c {d : Bool} {Dg F : Nat → Int32} (n : Nat) : LR d Dg F (cD d Dg n) (cF F n) := by
  unfold cD cF
  by_cases hn : n = 12
  · rw [if_pos hn, if_pos hn]
    refine ⟨fun i hi => ⟨pu_n _ _ hi, ?_⟩, fun h1 h2 h3 => ?_, fun h => ?_, fun h => ?_⟩
    · split
      · exact pu_n _ _ hi
      · rfl
    · rw [if_pos h1, if_pos h2, pu_s, pu_s, h3]
    · rw [if_neg h]
      exact pu_id _ (by rw [nI_0]; exact (Int32.add_zero _).symm)
    · rw [h]; rfl
  · rw [if_neg hn, if_neg hn]; exact LR.rf
section ENDV
variable (C off dear proved : Nat → Int32)
theorem eV_cd {w : Nat → Int32} {nN f x h : Nat} (h1 : w 1 = nI nN) (hN : nN ≤ 32) (hx : x < nN) : (eV C off dear proved w (59 + 11 * x + 6) = nI f ∧ ¬ eV C off dear proved w (59 + 11 * x + 0) = nI 1 ∧ eV C off dear proved w (59 + 11 * x + 2) = nI h) ↔ nCd w f x h := by
  rw [eV_n C off dear proved w h1 hN hx (by omega), eV_n C off dear proved w h1 hN hx (by omega), eV_n C off dear proved w h1 hN hx (by omega)]
  exact Iff.rfl
theorem eV_in {w : Nat → Int32} {h : Nat} (hh : h < 4) : (eV C off dear proved w (16 + 7 * h + 3) = nI 1) = (bt (C 11) h = true) := by
  rw [eV_h C off dear proved w hh (by omega)]
  show (bt1 (C 11) h = nI 1) = _
  rw [bt1_v _ (by omega)]
  by_cases q : bt (C 11) h = true
  · simp [q]
  · simp [q, n10]
theorem ends27 {w F : Nat → Int32} {nH nN nF nL t f h : Nat} {kk : (Nat → Int32) → (Nat → Int32) → Int32 → Int32 → ((Nat → Int32) × (Nat → Int32))} {sk : (Nat → Int32) → (Nat → Int32) → Int32 → Int32 → Prop} (R : WR C w nH nN nF nL t) (hf : f < nF) (hh : h < nH) :
    ∀ (n x : Nat) (b q : Bool), nN - x < n → x ≤ nN → ((q = true) ↔ (b = true ∨ ∃ y, x ≤ y ∧ y < nN ∧ nCd w f y h)) →
      f_X6_ends_27 kk n (eV C off dear proved w) F (nI f) (nI h) (if b = true then nI 1 else nI 0) (nI x) = kk (eV C off dear proved (stW C q f h w)) (if q = true ∧ bt (C 11) h = true then cF F (lc w) else F) (nI f) (nI (h + 1)) ∧
      (sk (eV C off dear proved (stW C q f h w)) (if q = true ∧ bt (C 11) h = true then cF F (lc w) else F) (nI f) (nI (h + 1)) → s_X6_ends_27 sk n (eV C off dear proved w) F (nI f) (nI h) (if b = true then nI 1 else nI 0) (nI x))
  | 0, x, b, q, hn, _, _ => by omega
  | n + 1, x, b, q, hn, hx, hq => by
    have hN := R.2.1.2
    have hH := R.1.2
    have h1 := R.2.1.1
    have hlc := lc_R R
    have hL := R.2.2.2.1.2
    rw [f_X6_ends_27, s_X6_ends_27]
    simp (disch := omega) only [pn_cl, eV_12, h1, pn_le, f_X6_house, f_X6_note, nI_add, pk_mul, pn_in, f_X6_ends_125, s_X6_ends_125, f_X6_ends_81, s_X6_ends_81, f_X6_ends_85, s_X6_ends_85, f_X6_ends_86, s_X6_ends_86, eV_in C off dear proved (show h < 4 by omega)]
    by_cases e : x = nN
    · subst e
      have hqb : (q = true) ↔ (b = true) := by
        rw [hq]
        exact ⟨fun z => z.elim id (fun ⟨y, a, c, _⟩ => by omega), Or.inl⟩
      cases b with
      | false =>
        have hq0 : q = false := by cases q <;> simp_all
        subst hq0
        simp [stW, nI_0]
      | true =>
        have hq0 : q = true := by simp_all
        subst hq0
        by_cases c2 : bt (C 11) h = true
        · have V := LV_over (nN := x) hh hH hf
          have h14 : eV C off dear proved w 14 = nI nL := by rw [eV_14]; exact R.2.2.2.1.1
          have e1 := postV_eq (F := F) (z := nI 0) hN h14 hL V (by omega) (by omega) (by omega)
          have s1 := s_posts (F := F) (z := nI 0) hN h14 hL V (by omega) (by omega) (by omega)
          have e2 := eV_post C off dear proved w (z := nI 0) h1 hN R.2.2.2.1.1 hL V (by omega) (by omega) (by omega)
          have es : stW C true f h w = postW C w nL 5 9 (5 + h) (nI f) (-1) (nI 0) := by unfold stW; rw [if_pos ⟨rfl, c2⟩, hlc]
          rw [es, e1, ← e2, hlc]
          simp [c2, n1z, s1, cF]
        · have es : stW C true f h w = w := by unfold stW; rw [if_neg (fun z => c2 z.2)]
          rw [es]
          simp [c2, n1z]
    · have hx2 : x < nN := by omega
      have ih := fun b => ends27 R hf hh n (x + 1) b q (by omega) (by omega) (F := F) (kk := kk) (sk := sk)
      have ecd := eV_cd C off dear proved (f := f) (h := h) h1 hN hx2
      simp only [show ¬ nN ≤ x by omega, if_false]
      cases b with
      | true =>
        have i1 := ih true (by rw [hq]; simp)
        simp only [if_true] at i1
        simp [n1z, i1.1]
        exact i1.2
      | false =>
        by_cases c : nCd w f x h
        · have i1 := ih true (by rw [hq]; exact ⟨fun _ => Or.inl rfl, fun _ => Or.inr ⟨x, Nat.le_refl x, hx2, c⟩⟩)
          obtain ⟨c1, c2, c3⟩ := ecd.mpr c
          simp only [if_true] at i1
          have c2' : ¬ eV C off dear proved w (59 + 11 * x) = nI 1 := c2
          simp [nI_0, c1, c2', c3, i1.1]
          exact i1.2
        · have i1 := ih false (by
            rw [hq]
            constructor
            · rintro (z | ⟨y, z1, z2, z3⟩)
              · cases z
              · rcases Nat.eq_or_lt_of_le z1 with u | u
                · subst u; exact absurd z3 c
                · exact Or.inr ⟨y, u, z2, z3⟩
            · rintro (z | ⟨y, z1, z2, z3⟩)
              · cases z
              · exact Or.inr ⟨y, by omega, z2, z3⟩)
          have nc : ¬ _ := fun z => c (ecd.mp z)
          simp only [Bool.false_eq_true, if_false] at i1
          by_cases k1 : eV C off dear proved w (59 + 11 * x) = nI 1
          · simp [nI_0, k1]
            simpa [nI_0] using i1
          · by_cases k2 : eV C off dear proved w (59 + 11 * x + 2) = nI h
            · by_cases k3 : eV C off dear proved w (59 + 11 * x + 6) = nI f
              · exact absurd ⟨k3, k1, k2⟩ nc
              · simp [nI_0, k1, k2, k3]
                simpa [nI_0] using i1
            · simp [nI_0, k1, k2]
              simpa [nI_0] using i1
theorem ends13 {w F : Nat → Int32} {nH nN nF nL t f h n : Nat} (R : WR C w nH nN nF nL t) (hf : f < nF) (hh : h < nH) :
    f_X6_ends_13 (n + 1) (eV C off dear proved w) F (nI f) (nI h) = f_X6_ends_13 n (eV C off dear proved (stW C (qN w nN f h) f h w)) (if qN w nN f h = true ∧ bt (C 11) h = true then cF F (lc w) else F) (nI f) (nI (h + 1)) ∧
    (s_X6_ends_13 n (eV C off dear proved (stW C (qN w nN f h) f h w)) (if qN w nN f h = true ∧ bt (C 11) h = true then cF F (lc w) else F) (nI f) (nI (h + 1)) → s_X6_ends_13 (n + 1) (eV C off dear proved w) F (nI f) (nI h)) := by
  have hH := R.1.2
  have hN := R.2.1.2
  have a := ends27 C off dear proved (F := F) (kk := f_X6_ends_13 n) (sk := s_X6_ends_13 n) R hf hh ng_F 0 false (qN w nN f h) (by rw [ng_F_v]; omega) (by omega) (by
    rw [qN_iff]
    exact ⟨fun ⟨y, z1, z2⟩ => Or.inr ⟨y, by omega, z1, z2⟩, fun z => z.elim (fun z => by cases z) (fun ⟨y, _, z1, z2⟩ => ⟨y, z1, z2⟩)⟩)
  rw [f_X6_ends_13, s_X6_ends_13]
  simp (disch := omega) only [pn_cl, eV_11, R.1.1, pn_le, show ¬ nH ≤ h by omega, if_false]
  simp only [Bool.false_eq_true, if_false] at a
  exact ⟨a.1, fun s _ => a.2 s⟩
theorem qN_st {w : Nat → Int32} {nN f h g : Nat} {q : Bool} (hn : lc w ≤ 12) : qN (stW C q f g w) nN f h = qN w nN f h := by
  have e : ∀ y j, j < 10 → stW C q f g w (142 + y * 11 + j) = w (142 + y * 11 + j) := fun y j hj => by
    unfold stW
    split
    · exact postW_at hn (by omega)
    · rfl
  have : (qN (stW C q f g w) nN f h = true) ↔ (qN w nN f h = true) := by
    rw [qN_iff, qN_iff]; unfold nCd
    simp only [e _ 6 (by omega), e _ 0 (by omega), e _ 2 (by omega)]
  cases h1 : qN w nN f h <;> cases h2 : qN (stW C q f g w) nN f h <;> simp_all
theorem st_out {w : Nat → Int32} {nH nN nF nL t f h : Nat} {q : Bool} (R : WR C w nH nN nF nL t) (hh : nH ≤ h) (h4 : h < 4) : stW C q f h w = w ∧ ∀ d Dg, stD C q h w d Dg = Dg := by
  have e := R.2.2.2.2.2.2.2.2.1 h hh h4
  constructor
  · unfold stW; rw [if_neg (fun z => by rw [e] at z; exact absurd z.2 (by decide))]
  · intro d Dg
    unfold stD; rw [if_neg (fun z => by rw [e] at z; exact absurd z.1.2 (by decide))]
theorem ends_go {nH nN nF t f : Nat} {d : Bool} {q : Nat → Bool} (hf : f < nF) : ∀ (k h n : Nat) (w F Dg : Nat → Int32) (nL : Nat), h + k = 4 → 4 < n + h → h ≤ nH → WR C w nH nN nF nL t → (∀ g, qN w nN f g = q g) →
    ∃ F' : Nat → Int32, ∃ p : (Nat → Int32) × (Nat → Int32), p = (List.range' h k).foldl (endS C q f d) (w, Dg) ∧ f_X6_ends_13 n (eV C off dear proved w) F (nI f) (nI h) = (eV C off dear proved p.1, F') ∧ LR d Dg F p.2 F' ∧ s_X6_ends_13 n (eV C off dear proved w) F (nI f) (nI h)
  | 0, h, n, w, F, Dg, nL, hk, hn, hH, R, hq => by
    have h4 := R.1.2
    refine ⟨F, (w, Dg), rfl, ?_, LR.rf, ?_⟩
    · obtain ⟨m, rfl⟩ : ∃ m, n = m + 1 := ⟨n - 1, by omega⟩
      rw [f_X6_ends_13, pn_cl (by omega), eV_11, R.1.1]
      exact if_pos (nI_le (by omega) (by omega))
    · obtain ⟨m, rfl⟩ : ∃ m, n = m + 1 := ⟨n - 1, by omega⟩
      rw [s_X6_ends_13, pn_cl (by omega), eV_11, R.1.1]
      intro z; exact absurd (nI_le (by omega) (by omega)) z
  | k + 1, h, n, w, F, Dg, nL, hk, hn, hH, R, hq => by
    have h4 := R.1.2
    obtain ⟨m, rfl⟩ : ∃ m, n = m + 1 := ⟨n - 1, by omega⟩
    rcases Nat.lt_or_ge h nH with hh | hh
    · obtain ⟨nL', R'⟩ := WR_st (q := q h) R hf (h := h) (by omega)
      have a := ends13 C off dear proved (F := F) (n := m) R hf hh
      rw [hq h] at a
      have hlc : lc w ≤ 12 := by rw [lc_R R]; exact R.2.2.2.1.2
      obtain ⟨F', p, e1, e2, e3, e4⟩ := ends_go (q := q) (d := d) hf k (h + 1) m (stW C (q h) f h w) (if q h = true ∧ bt (C 11) h = true then cF F (lc w) else F) (stD C (q h) h w d Dg) nL' (by omega) (by omega) (by omega) R' (fun g => by rw [qN_st C hlc]; exact hq g)
      refine ⟨F', p, ?_, a.1.trans e2, LR.tr ?_ e3, a.2 e4⟩
      · rw [e1, List.range'_succ, List.foldl_cons]; rfl
      · rw [stD_c]
        split
        · exact LR_c _
        · exact LR.rf
    · -- h = nH: the reference stops
      have hend : ∀ (k h : Nat), h + k = 4 → nH ≤ h → (List.range' h k).foldl (endS C q f d) (w, Dg) = (w, Dg) := by
        intro k
        induction k with
        | zero => intro h _ _; rfl
        | succ k ih =>
          intro h h1 h2
          rw [List.range'_succ, List.foldl_cons]
          have e := st_out C (f := f) (q := q h) R h2 (by omega)
          have : endS C q f d (w, Dg) h = (w, Dg) := by
            unfold endS; rw [e.1, e.2]
          rw [this]
          exact ih (h + 1) (by omega) (by omega)
      refine ⟨F, (w, Dg), (hend (k + 1) h hk hh).symm, ?_, LR.rf, ?_⟩
      · rw [f_X6_ends_13, pn_cl (by omega), eV_11, R.1.1]
        exact if_pos (nI_le hh (by omega))
      · rw [s_X6_ends_13, pn_cl (by omega), eV_11, R.1.1]
        intro z; exact absurd (nI_le hh (by omega)) z
theorem ends_eq {w F Dg : Nat → Int32} {d : Bool} {nH nN nF nL t f : Nat} (R : WR C w nH nN nF nL t) (hf : f < nF) : ∃ F', f_X6_ends (eV C off dear proved w) F (nI f) = (eV C off dear proved (endW C w Dg d nN f).1, F') ∧ LR d Dg F (endW C w Dg d nN f).2 F' ∧ s_X6_ends (eV C off dear proved w) F (nI f) := by
  have hF := R.2.2.1.2
  have R0 : WR C (upd w (26 + f * 2 + 1) (w 0)) nH nN nF nL t := WR_fam R (by omega) (by omega)
  unfold f_X6_ends s_X6_ends f_X6_family
  simp (disch := omega) only [pn_cl, nI_add, pk_mul, pn_in, eV_0]
  rw [← eV_uF C off dear proved w (w 0) R.2.2.1.1 hF hf (by omega)]
  have eq0 : ∀ h, qN (upd w (26 + f * 2 + 1) (w 0)) nN f h = qN w nN f h := fun h => by
    have e : ∀ y j, upd w (26 + f * 2 + 1) (w 0) (142 + y * 11 + j) = w (142 + y * 11 + j) := fun y j => pu_n _ _ (by omega)
    have : (qN (upd w (26 + f * 2 + 1) (w 0)) nN f h = true) ↔ (qN w nN f h = true) := by
      rw [qN_iff, qN_iff]; unfold nCd; simp only [e]
    cases h1 : qN w nN f h <;> cases h2 : qN (upd w (26 + f * 2 + 1) (w 0)) nN f h <;> simp_all
  obtain ⟨F', p, e1, e2, e3, e4⟩ := ends_go C off dear proved (d := d) (q := qN w nN f) hf 4 0 ng_F (upd w (26 + f * 2 + 1) (w 0)) F Dg nL (by omega) (by rw [ng_F_v]; omega) (by omega) R0 eq0
  have ep : p = endW C w Dg d nN f := e1
  rw [ep] at e2 e3
  exact ⟨F', e2, e3, trivial, e4⟩
end ENDV
