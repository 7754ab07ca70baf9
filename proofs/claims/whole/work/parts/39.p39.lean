def cF (F : Nat → Int32) (n : Nat) : Nat → Int32 := if n = 12 then upd F 3 (F 3 + (if F 2 = 0 then nI 1 else nI 0)) else F
def cD (d : Bool) (Dg : Nat → Int32) (n : Nat) : Nat → Int32 := if n = 12 then (if d = true then upd Dg 3 (Dg 3 + nI 1) else Dg) else Dg
theorem stD_c {C w Dg : Nat → Int32} {q d : Bool} {h : Nat} : stD C q h w d Dg = if q = true ∧ bt (C 11) h = true then cD d Dg (lc w) else Dg := by
  unfold stD cD
  by_cases c : q = true ∧ bt (C 11) h = true <;> by_cases z : lc w = 12 <;> by_cases y : d = true <;> simp [c, z, y]
theorem WR_fam {C w : Nat → Int32} {nH nN nF nL t f j : Nat} {y : Int32} (R : WR C w nH nN nF nL t) (hf : f < 16) (hj : j < 2) : WR C (upd w (26 + f * 2 + j) y) nH nN nF nL t := by
  obtain ⟨r1, r2, r3, r4, r5, r6, r7, r8, r9, r10⟩ := R
  have e : ∀ i, i < 26 ∨ 58 ≤ i → upd w (26 + f * 2 + j) y i = w i := fun i hi => pu_n _ _ (by omega)
  refine ⟨r1, ⟨by rw [e _ (by omega)]; exact r2.1, r2.2⟩, ⟨by rw [e _ (by omega)]; exact r3.1, r3.2⟩, ⟨by rw [e _ (by omega)]; exact r4.1, r4.2⟩, ⟨by rw [e _ (by omega)]; exact r5.1, r5.2⟩, fun q hq => ?_, fun l hl => ?_, fun l m p q hlm hm hp hq => ?_, r9, r10⟩
  · rw [e _ (by omega), e _ (by omega)]; exact r6 q hq
  · rw [e _ (by omega), e _ (by omega), e _ (by omega), e _ (by omega), e _ (by omega), e _ (by omega)]; exact r7 l hl
  · rw [e _ (by omega)] at hp hq; exact r8 l m p q hlm hm hp hq
def endS (C : Nat → Int32) (q : Nat → Bool) (f : Nat) (d : Bool) (p : (Nat → Int32) × (Nat → Int32)) (h : Nat) : (Nat → Int32) × (Nat → Int32) := (stW C (q h) f h p.1, stD C (q h) h p.1 d p.2)
def endP (C : Nat → Int32) (q : Nat → Bool) (f : Nat) (d : Bool) (p : (Nat → Int32) × (Nat → Int32)) : (Nat → Int32) × (Nat → Int32) := endS C q f d (endS C q f d (endS C q f d (endS C q f d p 0) 1) 2) 3
/-- the class ends a family -/
def endW (C w Dg : Nat → Int32) (d : Bool) (nN f : Nat) : (Nat → Int32) × (Nat → Int32) := endP C (qN w nN f) f d (upd w (26 + f * 2 + 1) (w 0), Dg)
theorem endW_eq {C w Dg : Nat → Int32} {d : Bool} {nH nN nF nL t f : Nat} (R : WR C w nH nN nF nL t) (hf : f < nF) : f_X4_endFamily w Dg C d (nI f) = endW C w Dg d nN f ∧ s_X4_endFamily w Dg C d (nI f) ∧ ∃ nL', WR C (endW C w Dg d nN f).1 nH nN nF nL' t := by
  have hF := R.2.2.1.2
  have hN := R.2.1.2
  have e0 : f_X4_isFamily w (nI f) = nI 1 := by
    unfold f_X4_isFamily
    simp (disch := omega) only [pn_cl, R.2.2.1.1, pn_lt0, pn_le, show ¬ nF ≤ f by omega, show ¬ 16 ≤ f by omega, if_false]
  have R0 : WR C (upd w (26 + f * 2 + 1) (w 0)) nH nN nF nL t := WR_fam R (by omega) (by omega)
  unfold f_X4_endFamily s_X4_endFamily
  rw [e0, if_neg n1z]
  simp (disch := omega) only [pn_cl, nI_add, pk_mul, pn_in]
  have eq0 : ∀ h, qN (upd w (26 + f * 2 + 1) (w 0)) nN f h = qN w nN f h := fun h => by
    have e : ∀ y j, upd w (26 + f * 2 + 1) (w 0) (142 + y * 11 + j) = w (142 + y * 11 + j) := fun y j => pu_n _ _ (by omega)
    have : (qN (upd w (26 + f * 2 + 1) (w 0)) nN f h = true) ↔ (qN w nN f h = true) := by
      rw [qN_iff, qN_iff]; unfold nCd; simp only [e]
    cases h1 : qN w nN f h <;> cases h2 : qN (upd w (26 + f * 2 + 1) (w 0)) nN f h <;> simp_all
  unfold endW
  rw [show qN w nN f = qN (upd w (26 + f * 2 + 1) (w 0)) nN f from funext fun h => (eq0 h).symm]
  generalize upd w (26 + f * 2 + 1) (w 0) = u at R0 ⊢
  obtain ⟨M, hM, e1, s1⟩ := end32 (C := C) (Dg := Dg) (d := d) (f := f) R0.2.1.1 hN (fun x hx => by obtain ⟨h, h1, h2⟩ := (R0.2.2.2.2.2.1 x hx).1; exact ⟨h, by have := R0.1.2; omega, h2⟩) ng_F 0 (nI 0) (by rw [ng_F_v]; omega) (by omega)
  have hM2 : ∀ h, h < 4 → bt M h = qN u nN f h := by
    intro h hh
    have a := hM h hh
    have b0 : bt (nI 0) h = false := by rw [b_n0, b_0]
    rw [b0] at a
    have c : (bt M h = true) ↔ (qN u nN f h = true) := by
      rw [a, qN_iff]
      constructor
      · rintro (z | ⟨y, -, z1, z2⟩)
        · cases z
        · exact ⟨y, z1, z2⟩
      · rintro ⟨y, z1, z2⟩
        exact Or.inr ⟨y, by omega, z1, z2⟩
    cases h1 : qN u nN f h <;> cases h2 : bt M h <;> simp_all
  rw [e1]
  obtain ⟨n1, R1⟩ := WR_st (q := qN u nN f 0) R0 hf (h := 0) (by omega)
  obtain ⟨n2, R2⟩ := WR_st (q := qN u nN f 1) R1 hf (h := 1) (by omega)
  obtain ⟨n3, R3⟩ := WR_st (q := qN u nN f 2) R2 hf (h := 2) (by omega)
  obtain ⟨n4, R4⟩ := WR_st (q := qN u nN f 3) R3 hf (h := 3) (by omega)
  unfold f_X4_endFamily_105
  unfold s_X4_endFamily_105 at s1
  rw [show ng_F = 1995 + 1 + 1 + 1 + 1 + 1 from rfl] at s1 ⊢
  have a1 := end107 (Dg := Dg) (d := d) (n := 1995 + 1 + 1 + 1 + 1) (M := M) R0 hf (h := 0) (by omega)
  rw [hM2 0 (by omega)] at a1
  have a2 := end107 (Dg := stD C (qN u nN f 0) 0 u d Dg) (d := d) (n := 1995 + 1 + 1 + 1) (M := M) R1 hf (h := 1) (by omega)
  rw [hM2 1 (by omega)] at a2
  have a3 := end107 (Dg := stD C (qN u nN f 1) 1 (stW C (qN u nN f 0) f 0 u) d (stD C (qN u nN f 0) 0 u d Dg)) (d := d) (n := 1995 + 1 + 1) (M := M) R2 hf (h := 2) (by omega)
  rw [hM2 2 (by omega)] at a3
  have a4 := end107 (Dg := stD C (qN u nN f 2) 2 (stW C (qN u nN f 1) f 1 (stW C (qN u nN f 0) f 0 u)) d (stD C (qN u nN f 1) 1 (stW C (qN u nN f 0) f 0 u) d (stD C (qN u nN f 0) 0 u d Dg))) (d := d) (n := 1995 + 1) (M := M) R3 hf (h := 3) (by omega)
  rw [hM2 3 (by omega)] at a4
  have z : ∀ w Dg, f_X4_endFamily_107 (1995 + 1) w Dg C d (nI f) M (nI (3 + 1)) = (w, Dg) ∧ s_X4_endFamily_107 (1995 + 1) w Dg C d (nI f) M (nI (3 + 1)) := fun w Dg => by
    rw [f_X4_endFamily_107, s_X4_endFamily_107, if_pos (by decide)]
    exact ⟨rfl, fun q => absurd (by decide) q⟩
  refine ⟨?_, ⟨trivial, s1 (a1.2 (a2.2 (a3.2 (a4.2 (z _ _).2))))⟩ |> fun h => (fun _ => h), ⟨n4, R4⟩⟩
  rw [a1.1, a2.1, a3.1, a4.1, (z _ _).1]
  rfl
