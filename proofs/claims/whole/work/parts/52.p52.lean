/-- the class and the reference, as worlds: the same -/
def RW (C off dear proved nw Dg dw F rl lg : Nat → Int32) (B nH nN nF nL t : Nat) : Prop := SC C ∧ WR C nw nH nN nF nL t ∧ HV nw nH nN ∧ t ≤ 30000 ∧ rl = eV C off dear proved nw ∧ DR Dg dw F lg nN B ∧ (∀ h, nH ≤ h → h < 4 → bt (C 12) h = false)
def QW (C off dear proved nw Dg dw F rl lg : Nat → Int32) (B : Nat) : Prop := ∃ nH nN nF nL t, RW C off dear proved nw Dg dw F rl lg B nH nN nF nL t
def KF (F F' : Nat → Int32) : Prop := ∀ i, i ≠ 0 → i ≠ 3 → i ≠ 4 → i ≠ 5 → F' i = F i
theorem KF.r0 (F : Nat → Int32) : KF F (upd F 0 (nI 0)) := fun i h _ _ _ => pu_n _ _ h
theorem KF.tr {F F1 F2 : Nat → Int32} (a : KF F F1) (b : KF F1 F2) : KF F F2 := fun i h0 h3 h4 h5 => (b i h0 h3 h4 h5).trans (a i h0 h3 h4 h5)
theorem KF.lr {d : Bool} {Dg F Dg' F' : Nat → Int32} (a : LR d Dg F Dg' F') : KF F F' := fun i _ h _ _ => (a.1 i h).1
theorem KF.kp {d : Bool} {Dg dw F lg Dg' dw' F' lg' : Nat → Int32} (a : KP d Dg dw F lg Dg' dw' F' lg') : KF F F' := fun i _ h3 h4 h5 => a.2 i h3 h4 h5
theorem DR_0 {Dg dw F lg : Nat → Int32} {nN B : Nat} {y : Int32} (D : DR Dg dw F lg nN B) : DR Dg dw (upd F 0 y) lg nN B := by
  obtain ⟨h2, h3, k, s, a1, a2, a3, a4, a5⟩ := D
  exact ⟨by rw [pu_n _ _ (by omega)]; exact h2, by rw [pu_n _ _ (by omega)]; exact h3, k, s, a1, by rw [pu_n _ _ (by omega)]; exact a2, a3, by rw [pu_n _ _ (by omega)]; exact a4, a5⟩
theorem DR_up {Dg dw F lg : Nat → Int32} {nN nN' B B' : Nat} (D : DR Dg dw F lg nN B) (h : nN ≤ nN') (hB : B ≤ B') : DR Dg dw F lg nN' B' :=
  (MD_up (d := true) ⟨fun _ => D, fun q => Bool.noConfusion q⟩ h hB).1 rfl
theorem DR_lr {Dg dw F lg Dg' F' : Nat → Int32} {nN nN' B B' : Nat} (D : DR Dg dw F lg nN B) (L : LR true Dg F Dg' F') (h : nN ≤ nN') (hB : B ≤ B') : DR Dg' dw F' lg nN' B' :=
  (MD_lr (d := true) ⟨fun _ => D, fun q => Bool.noConfusion q⟩ L h hB).1.1 rfl
theorem QW_0 {C off dear proved nw Dg dw F rl lg : Nat → Int32} {B : Nat} {y : Int32} (Q : QW C off dear proved nw Dg dw F rl lg B) : QW C off dear proved nw Dg dw (upd F 0 y) rl lg B := by
  obtain ⟨nH, nN, nF, nL, t, S, R, H, T, e, D, O⟩ := Q
  exact ⟨nH, nN, nF, nL, t, S, R, H, T, e, DR_0 D, O⟩
theorem QW_up {C off dear proved nw Dg dw F rl lg : Nat → Int32} {B B' : Nat} (Q : QW C off dear proved nw Dg dw F rl lg B) (h : B ≤ B') : QW C off dear proved nw Dg dw F rl lg B' := by
  obtain ⟨nH, nN, nF, nL, t, S, R, H, T, e, D, O⟩ := Q
  exact ⟨nH, nN, nF, nL, t, S, R, H, T, e, DR_up D (Nat.le_refl _) h, O⟩
theorem WR_C {C C' w : Nat → Int32} {nH nN nF nL t : Nat} (R : WR C w nH nN nF nL t) (h10 : C' 10 = C 10) (h11 : C' 11 = C 11) (h9 : C' 9 = 0 ∨ C' 9 = 1) : WR C' w nH nN nF nL t := by
  obtain ⟨r1, r2, r3, r4, r5, r6, r7, r8, r9, r10⟩ := R
  exact ⟨⟨by rw [h10]; exact r1.1, r1.2⟩, r2, r3, r4, r5, r6, r7, r8, fun h a b => by rw [h11]; exact r9 h a b, h9⟩
section OPS
variable {C off dear proved nw Dg dw F rl lg : Nat → Int32} {B : Nat}
theorem in0 {v a b : Int32} : f_X6_in v a b = nI 0 ∨ f_X6_in v a b = nI 1 := by
  unfold f_X6_in
  split
  · exact Or.inl rfl
  · split
    · exact Or.inl rfl
    · exact Or.inr rfl
theorem op_terms (Q : QW C off dear proved nw Dg dw F rl lg B) (v1 v2 v3 v4 v5 v6 v7 : Int32) : ∃ C' F' rl' : Nat → Int32, ∃ a : Int32, f_X5_terms C v1 v2 v3 v4 v5 v6 v7 = (C', a) ∧ s_X5_terms C v1 v2 v3 v4 v5 v6 v7 ∧ f_X6_terms F rl v1 v2 v3 v4 v5 v6 v7 = (F', rl', a) ∧ s_X6_terms F rl v1 v2 v3 v4 v5 v6 v7 ∧ QW C' off dear proved nw Dg dw F' rl' lg B ∧ KF F F' ∧ (a = 0 ∨ a = 1) := by
  have sX : s_X5_terms C v1 v2 v3 v4 v5 v6 v7 := by
    simp only [s_X5_terms_78, s_X5_terms_77, s_X5_terms_37, s_X5_terms_36, s_X5_terms, implies_true, and_true]
  by_cases ok : f_X6_in v1 (nI 1) (nI 1000) = nI 1 ∧ f_X6_in v2 (nI 1) (nI 10000) = nI 1 ∧ f_X6_in v3 (nI 0) (nI 20) = nI 1 ∧ f_X6_in v4 (nI 1) (nI 100) = nI 1 ∧ f_X6_in v5 (nI 0) (nI 1000) = nI 1 ∧ f_X6_in v6 (nI 1) (nI 100) = nI 1 ∧ f_X6_in v7 (nI 0) (nI 1000) = nI 1
  · obtain ⟨o1, o2, o3, o4, o5, o6, o7⟩ := ok
    obtain ⟨nH, nN, nF, nL, t, S, R, H, T, e, D, O⟩ := Q
    refine ⟨upd (upd (upd (upd (upd (upd (upd C 0 v1) 1 v2) 2 v3) 3 v4) 4 v5) 5 v6) 6 v7, upd F 0 (nI 0), upd (upd (upd (upd (upd (upd (upd rl 4 v1) 5 v2) 6 v3) 7 v4) 8 v5) 9 v6) 10 v7, nI 1, ?_, sX, ?_, trivial, ?_, KF.r0 F, Or.inr rfl⟩
    · simp only [f_X5_terms_78, f_X5_terms_77, f_X5_terms_37, f_X5_terms_36, f_X5_terms, wi, o1, o2, o3, o4, o5, o6, o7, n1z, if_false]
    · simp (disch := omega) only [f_X6_terms, o1, o2, o3, o4, o5, o6, o7, n1z, if_false, pn_cl]
    · have k : ∀ i, 6 < i → upd (upd (upd (upd (upd (upd (upd C 0 v1) 1 v2) 2 v3) 3 v4) 4 v5) 5 v6) 6 v7 i = C i := fun i hi => by
        rw [pu_n _ _ (by omega), pu_n _ _ (by omega), pu_n _ _ (by omega), pu_n _ _ (by omega), pu_n _ _ (by omega), pu_n _ _ (by omega), pu_n _ _ (by omega)]
      refine ⟨nH, nN, nF, nL, t, ?_, WR_C R (k 10 (by omega)) (k 11 (by omega)) (by rw [k 9 (by omega)]; exact R.2.2.2.2.2.2.2.2.2), H, T, ?_, DR_0 D, fun h a b => by rw [k 12 (by omega)]; exact O h a b⟩
      · obtain ⟨j, hj1, hj2, ej⟩ : ∃ j, 1 ≤ j ∧ j ≤ 100 ∧ v4 = nI j := by
          rcases i1_c (n := 100) (by omega) v4 with ⟨h1, -⟩ | ⟨j, h1, h2, h3, -⟩
          · rw [o4] at h1; exact absurd h1 n01
          · exact ⟨j, h1, h2, h3⟩
        obtain ⟨k, hk1, hk2, ek⟩ : ∃ j, 1 ≤ j ∧ j ≤ 100 ∧ v6 = nI j := by
          rcases i1_c (n := 100) (by omega) v6 with ⟨h1, -⟩ | ⟨j, h1, h2, h3, -⟩
          · rw [o6] at h1; exact absurd h1 n01
          · exact ⟨j, h1, h2, h3⟩
        exact ⟨j, k, by rw [pu_n _ _ (by omega), pu_n _ _ (by omega), pu_n _ _ (by omega), pu_s]; exact ej, hj1, hj2, by rw [pu_n _ _ (by omega), pu_s]; exact ek, hk1, hk2⟩
      · rw [eV_C _ _ _ _ _ _ (m := 10) (by omega), eV_C _ _ _ _ _ _ (m := 9) (by omega), eV_C _ _ _ _ _ _ (m := 8) (by omega), eV_C _ _ _ _ _ _ (m := 7) (by omega), eV_C _ _ _ _ _ _ (m := 6) (by omega), eV_C _ _ _ _ _ _ (m := 5) (by omega), eV_C _ _ _ _ _ _ (m := 4) (by omega), e]
  · refine ⟨C, upd F 0 (nI 0), rl, nI 0, ?_, sX, ?_, trivial, QW_0 Q, KF.r0 F, Or.inl rfl⟩
    · simp only [f_X5_terms_78, f_X5_terms_77, f_X5_terms_37, f_X5_terms_36, f_X5_terms, wi]
      rcases in0 (v := v1) (a := nI 1) (b := nI 1000) with o1 | o1
      · simp [o1, n00, n1z]
      rcases in0 (v := v2) (a := nI 1) (b := nI 10000) with o2 | o2
      · simp [o1, o2, n00, n1z]
      rcases in0 (v := v3) (a := nI 0) (b := nI 20) with o3 | o3
      · simp [o1, o2, o3, n00, n1z]
      rcases in0 (v := v4) (a := nI 1) (b := nI 100) with o4 | o4
      · simp [o1, o2, o3, o4, n00, n1z]
      rcases in0 (v := v5) (a := nI 0) (b := nI 1000) with o5 | o5
      · simp [o1, o2, o3, o4, o5, n00, n1z]
      rcases in0 (v := v6) (a := nI 1) (b := nI 100) with o6 | o6
      · simp [o1, o2, o3, o4, o5, o6, n00, n1z]
      rcases in0 (v := v7) (a := nI 0) (b := nI 1000) with o7 | o7
      · simp [o1, o2, o3, o4, o5, o6, o7, n00, n1z]
      exact absurd ⟨o1, o2, o3, o4, o5, o6, o7⟩ ok
    · simp only [f_X6_terms]
      rcases in0 (v := v1) (a := nI 1) (b := nI 1000) with o1 | o1
      · simp [o1, n00, n1z]
      rcases in0 (v := v2) (a := nI 1) (b := nI 10000) with o2 | o2
      · simp [o1, o2, n00, n1z]
      rcases in0 (v := v3) (a := nI 0) (b := nI 20) with o3 | o3
      · simp [o1, o2, o3, n00, n1z]
      rcases in0 (v := v4) (a := nI 1) (b := nI 100) with o4 | o4
      · simp [o1, o2, o3, o4, n00, n1z]
      rcases in0 (v := v5) (a := nI 0) (b := nI 1000) with o5 | o5
      · simp [o1, o2, o3, o4, o5, n00, n1z]
      rcases in0 (v := v6) (a := nI 1) (b := nI 100) with o6 | o6
      · simp [o1, o2, o3, o4, o5, o6, n00, n1z]
      rcases in0 (v := v7) (a := nI 0) (b := nI 1000) with o7 | o7
      · simp [o1, o2, o3, o4, o5, o6, o7, n00, n1z]
      exact absurd ⟨o1, o2, o3, o4, o5, o6, o7⟩ ok
theorem QW_C {k m : Nat} {y : Int32} (Q : QW C off dear proved nw Dg dw F rl lg B) (hk : (k = 7 ∧ m = 3) ∨ (k = 8 ∧ m = 2) ∨ (k = 9 ∧ m = 1 ∧ (y = 0 ∨ y = 1))) : QW (upd C k y) off dear proved nw Dg dw (upd F 0 (nI 0)) (upd rl m y) lg B := by
  obtain ⟨nH, nN, nF, nL, t, S, R, H, T, e, D, O⟩ := Q
  refine ⟨nH, nN, nF, nL, t, ?_, WR_C R (pu_n _ _ (by omega)) (pu_n _ _ (by omega)) ?_, H, T, ?_, DR_0 D, fun h a b => by rw [pu_n _ _ (by omega)]; exact O h a b⟩
  · obtain ⟨e1, L, a⟩ := S
    exact ⟨e1, L, by rw [pu_n _ _ (by omega), pu_n _ _ (by omega)]; exact a⟩
  · rcases hk with ⟨rfl, -⟩ | ⟨rfl, -⟩ | ⟨rfl, -, h⟩
    · rw [pu_n _ _ (by omega)]; exact R.2.2.2.2.2.2.2.2.2
    · rw [pu_n _ _ (by omega)]; exact R.2.2.2.2.2.2.2.2.2
    · rw [pu_s]; exact h
  · rw [eV_C _ _ _ _ _ _ (m := m) (by omega), e]
theorem op_checks (Q : QW C off dear proved nw Dg dw F rl lg B) (v1 : Int32) : ∃ C' F' rl' : Nat → Int32, ∃ a : Int32, f_X5_checks C v1 = (C', a) ∧ s_X5_checks C v1 ∧ f_X6_checks F rl v1 = (F', rl', a) ∧ s_X6_checks F rl v1 ∧ QW C' off dear proved nw Dg dw F' rl' lg B ∧ KF F F' := by
  have e3 : rl 3 = C 7 := by obtain ⟨nH, nN, nF, nL, t, S, R, H, T, e, D, O⟩ := Q; rw [e]; rfl
  unfold f_X5_checks f_X6_checks
  rw [wi]
  by_cases c : f_X6_in v1 (nI 0) (nI 255) = 0
  · rw [if_pos c, if_pos c]
    exact ⟨C, _, rl, _, rfl, trivial, rfl, trivial, QW_0 Q, KF.r0 F⟩
  · rw [if_neg c, if_neg c, pn_cl (by omega), e3]
    exact ⟨_, _, _, _, rfl, trivial, rfl, trivial, QW_C Q (Or.inl ⟨rfl, rfl⟩), KF.r0 F⟩
theorem op_tap (Q : QW C off dear proved nw Dg dw F rl lg B) (v1 : Int32) : ∃ C' F' rl' : Nat → Int32, ∃ a : Int32, f_X5_tap C v1 = (C', a) ∧ s_X5_tap C v1 ∧ f_X6_tap F rl v1 = (F', rl', a) ∧ s_X6_tap F rl v1 ∧ QW C' off dear proved nw Dg dw F' rl' lg B ∧ KF F F' := by
  have e3 : rl 2 = C 8 := by obtain ⟨nH, nN, nF, nL, t, S, R, H, T, e, D, O⟩ := Q; rw [e]; rfl
  unfold f_X5_tap f_X6_tap
  rw [wi]
  by_cases c : f_X6_in v1 (nI 0) (nI 511) = 0
  · rw [if_pos c, if_pos c]
    exact ⟨C, _, rl, _, rfl, trivial, rfl, trivial, QW_0 Q, KF.r0 F⟩
  · rw [if_neg c, if_neg c, pn_cl (by omega), e3]
    exact ⟨_, _, _, _, rfl, trivial, rfl, trivial, QW_C Q (Or.inr (Or.inl ⟨rfl, rfl⟩)), KF.r0 F⟩
theorem op_keeper (Q : QW C off dear proved nw Dg dw F rl lg B) (v1 : Int32) (hv : v1 = 0 ∨ v1 = 1) : ∃ C' F' rl' : Nat → Int32, ∃ a : Int32, f_X5_keeper C v1 = (C', a) ∧ s_X5_keeper C v1 ∧ f_X6_keeper F rl v1 = (F', rl', a) ∧ s_X6_keeper F rl v1 ∧ QW C' off dear proved nw Dg dw F' rl' lg B ∧ KF F F' ∧ (a = 0 ∨ a = 1) := by
  have e3 : rl 1 = C 9 := by obtain ⟨nH, nN, nF, nL, t, S, R, H, T, e, D, O⟩ := Q; rw [e]; rfl
  have h9 : C 9 = 0 ∨ C 9 = 1 := by obtain ⟨nH, nN, nF, nL, t, S, R, H, T, e, D, O⟩ := Q; exact R.2.2.2.2.2.2.2.2.2
  have i1 : (1 : Int32) = nI 1 := rfl
  have i0 : (0 : Int32) = nI 0 := rfl
  refine ⟨upd C 9 v1, upd F 0 (nI 0), upd rl 1 v1, C 9, rfl, ?_, ?_, ?_, QW_C Q (Or.inr (Or.inr ⟨rfl, rfl, hv⟩)), KF.r0 F, h9⟩
  · rcases hv with rfl | rfl <;> rcases h9 with h | h <;> simp [s_X5_keeper, h]
  · simp (disch := omega) only [f_X6_keeper_35, f_X6_keeper_20, f_X6_keeper, pn_cl, e3]
    rcases hv with rfl | rfl <;> rcases h9 with h | h <;> rw [h]
    · simp only [i0, n10, if_false, if_true]
    · simp only [i0, i1, if_true]
    · simp only [i0, i1, n10, n01, if_false]
    · simp only [i0, i1, n01, if_false, if_true]
  · simp (disch := omega) only [s_X6_keeper_35, s_X6_keeper_20, s_X6_keeper, pn_cl, e3, pn_in]
    rcases hv with rfl | rfl <;> rcases h9 with h | h <;> rw [h] <;> decide
end OPS
