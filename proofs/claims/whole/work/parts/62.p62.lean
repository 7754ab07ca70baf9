/-- the same in all places that count -/
def US (w w' : Nat → Int32) (nN nF nL : Nat) : Prop := (∀ i, i < 26 + nF * 2 → w' i = w i) ∧ (∀ i, 58 ≤ i → i < 58 + nL * 7 → w' i = w i) ∧ (∀ i, 142 ≤ i → i < 142 + nN * 11 → w' i = w i)
theorem US_AG {w w' : Nat → Int32} {nN nF nL : Nat} (h : AG w w' nN) (hF : nF ≤ 16) (hL : nL ≤ 12) : US w w' nN nF nL :=
  ⟨fun i hi => h i (by omega), fun i _ hi => h i (by omega), fun i _ hi => h i hi⟩
section MRK
variable {w w' : Nat → Int32}
theorem mix_c {e : Nat} (he : e ≤ 494) : ∀ (n k : Nat) (v : Int32), e - k < n → k ≤ e → (∀ i, k ≤ i → i < e → w' i = w i) → f_X4_mixed_6 n w' (nI e) v (nI k) = f_X4_mixed_6 n w (nI e) v (nI k) ∧ s_X4_mixed_6 n w (nI e) v (nI k)
  | 0, k, v, h, _, _ => by omega
  | n + 1, k, v, h, hk, hw => by
    rw [f_X4_mixed_6, f_X4_mixed_6, s_X4_mixed_6]
    by_cases c : k = e
    · subst c
      simp (disch := omega) only [pn_le, Nat.le_refl, if_true, not_true_eq_false, false_implies, and_true]
    · have ih := mix_c he n (k + 1) (v * nI 31 + w k) (by omega) (by omega) (fun i h1 h2 => hw i (by omega) h2)
      simp (disch := omega) only [pn_le, show ¬ e ≤ k by omega, show ¬ 494 ≤ k by omega, if_false, not_false_eq_true, true_implies, nI_add, pn_cl, pn_in, true_and, hw k (Nat.le_refl k) (by omega)]
      exact ih
theorem sm40_c {nN : Nat} (h1 : w 1 = nI nN) (hN : nN ≤ 32) (h1' : w' 1 = nI nN) : ∀ (n k : Nat) (v : Int32), nN - k < n → k ≤ nN → (∀ i, 142 ≤ i → i < 142 + nN * 11 → w' i = w i) → f_X4_mark_40 n w' v (nI k) = f_X4_mark_40 n w v (nI k) ∧ s_X4_mark_40 n w v (nI k)
  | 0, k, v, h, _, _ => by omega
  | n + 1, k, v, h, hk, hw => by
    rw [f_X4_mark_40, f_X4_mark_40, s_X4_mark_40]
    by_cases c : k = nN
    · subst c
      simp (disch := omega) only [pn_cl, h1, h1', pn_le, Nat.le_refl, if_true, not_true_eq_false, false_implies, and_true, f_X4_mark_98, s_X4_mark_98, implies_true]
    · have ih := fun v => sm40_c h1 hN h1' n (k + 1) v (by omega) (by omega) hw
      simp (disch := omega) only [pn_cl, h1, h1', pn_le, show ¬ nN ≤ k by omega, show ¬ 32 ≤ k by omega, if_false, not_false_eq_true, true_implies, false_implies, nI_add, pk_mul, pn_in, true_and, hw (142 + k * 11 + 10) (by omega) (by omega), hw (142 + k * 11 + 9) (by omega) (by omega)]
      exact ih _
theorem mark_c {nN nF nL : Nat} (h1 : w 1 = nI nN) (hN : nN ≤ 32) (h2 : w 2 = nI nF) (hF : nF ≤ 16) (h3 : w 3 = nI nL) (hL : nL ≤ 12) (u : US w w' nN nF nL) : f_X4_mark w' = f_X4_mark w ∧ s_X4_mark w := by
  have g1 : w' 1 = nI nN := by rw [u.1 1 (by omega)]; exact h1
  have g2 : w' 2 = nI nF := by rw [u.1 2 (by omega)]; exact h2
  have g3 : w' 3 = nI nL := by rw [u.1 3 (by omega)]; exact h3
  have a := fun v => mix_c (w := w) (w' := w') (e := 26 + nF * 2) (by omega) ng_F 0 v (by rw [ng_F_v]; omega) (by omega) (fun i _ hi => u.1 i hi)
  have b := fun v => mix_c (w := w) (w' := w') (e := 58 + nL * 7) (by omega) ng_F 58 v (by rw [ng_F_v]; omega) (by omega) (fun i h hi => u.2.1 i h hi)
  have c := fun v => sm40_c (w := w) (w' := w') h1 hN g1 ng_F 0 v (by rw [ng_F_v]; omega) (by omega) u.2.2
  unfold f_X4_mark s_X4_mark f_X4_mixed s_X4_mixed
  simp (disch := omega) only [pn_cl, h2, h3, g2, g3, pk_mul, nI_add]
  exact ⟨by rw [(a _).1, (b _).1, (c _).1], (a _).2, (b _).2, (c _).2⟩
theorem same_c {e : Nat} (he : e ≤ 494) : ∀ (n k : Nat), e - k < n → k ≤ e → ((f_X4_sameWords_3 n w w' (nI e) (nI k) = nI 1 ∧ ∀ i, k ≤ i → i < e → w i = w' i) ∨ (f_X4_sameWords_3 n w w' (nI e) (nI k) = nI 0 ∧ ¬ ∀ i, k ≤ i → i < e → w i = w' i)) ∧ s_X4_sameWords_3 n w w' (nI e) (nI k)
  | 0, k, h, _ => by omega
  | n + 1, k, h, hk => by
    rw [f_X4_sameWords_3, s_X4_sameWords_3]
    by_cases c : k = e
    · subst c
      simp (disch := omega) only [pn_le, Nat.le_refl, if_true, not_true_eq_false, false_implies, and_true]
      exact Or.inl ⟨trivial, fun i h1 h2 => by omega⟩
    · have ih := same_c he n (k + 1) (by omega) (by omega)
      simp (disch := omega) only [pn_le, show ¬ e ≤ k by omega, show ¬ 494 ≤ k by omega, if_false, not_false_eq_true, true_implies, nI_add, pn_cl, pn_in, true_and]
      by_cases q : w k = w' k
      · rw [if_pos q]
        refine ⟨?_, fun _ => ih.2⟩
        rcases ih.1 with ⟨a, b⟩ | ⟨a, b⟩
        · refine Or.inl ⟨a, fun i h1 h2 => ?_⟩
          rcases Nat.eq_or_lt_of_le h1 with z | z
          · rw [← z]; exact q
          · exact b i z h2
        · exact Or.inr ⟨a, fun z => b (fun i h1 h2 => z i (by omega) h2)⟩
      · rw [if_neg q]
        exact ⟨Or.inr ⟨rfl, fun z => q (z k (Nat.le_refl k) (by omega))⟩, fun z => absurd z q⟩
end MRK
section LIK
variable (C off dear proved : Nat → Int32)
theorem eV_US {w w' : Nat → Int32} {nN nF nL : Nat} (h1 : w 1 = nI nN) (hN : nN ≤ 32) (h2 : w 2 = nI nF) (hF : nF ≤ 16) (h3 : w 3 = nI nL) (hL : nL ≤ 12) (u : US w w' nN nF nL) : eV C off dear proved w' = eV C off dear proved w := by
  have g1 : w' 1 = nI nN := by rw [u.1 1 (by omega)]; exact h1
  have g2 : w' 2 = nI nF := by rw [u.1 2 (by omega)]; exact h2
  have g3 : w' 3 = nI nL := by rw [u.1 3 (by omega)]; exact h3
  funext i
  by_cases c : 59 ≤ i ∧ i < 411
  · have e : i = 59 + 11 * ((i - 59) / 11) + (i - 59) % 11 := by omega
    rw [e]
    rcases Nat.lt_or_ge ((i - 59) / 11) nN with d | d
    · rw [eV_n C off dear proved w' g1 hN d (by omega), eV_n C off dear proved w h1 hN d (by omega), u.2.2 _ (by omega) (by omega)]
    · rw [eV_n0 C off dear proved w' g1 d (by omega) (by omega), eV_n0 C off dear proved w h1 d (by omega) (by omega)]
  by_cases c2 : 411 ≤ i ∧ i < 443
  · have e : i = 411 + 2 * ((i - 411) / 2) + (i - 411) % 2 := by omega
    rw [e]
    rcases Nat.lt_or_ge ((i - 411) / 2) nF with d | d
    · rw [eV_f C off dear proved w' g2 hF d (by omega), eV_f C off dear proved w h2 hF d (by omega), u.1 _ (by omega)]
    · rw [eV_f0 C off dear proved w' g2 d (by omega) (by omega), eV_f0 C off dear proved w h2 d (by omega) (by omega)]
  by_cases c3 : 443 ≤ i ∧ i < 527
  · have e : i = 443 + 7 * ((i - 443) / 7) + (i - 443) % 7 := by omega
    rw [e]
    rcases Nat.lt_or_ge ((i - 443) / 7) nL with d | d
    · rw [eV_l C off dear proved w' g3 hL d (by omega), eV_l C off dear proved w h3 hL d (by omega), u.2.1 _ (by omega) (by omega)]
    · rw [eV_l0 C off dear proved w' g3 d (by omega) (by omega), eV_l0 C off dear proved w h3 d (by omega) (by omega)]
  · refine eV_cong C off dear proved w (u.1 1 (by omega)) (u.1 2 (by omega)) (u.1 3 (by omega)) i (fun _ _ hi => u.1 _ ?_)
    unfold cI
    split
    · split
      · omega
      · split
        · omega
        · split <;> omega
    · split
      · omega
      · split
        · omega
        · omega
theorem US_eV {w w' : Nat → Int32} {nH nN nF nL t nH' nN' nF' nL' t' : Nat} (R : WR C w nH nN nF nL t) (R' : WR C w' nH' nN' nF' nL' t') (e : eV C off dear proved w' = eV C off dear proved w) : nN' = nN ∧ nF' = nF ∧ nL' = nL ∧ US w w' nN nF nL := by
  have e12 : w' 1 = w 1 := congrFun e 12
  have e13 : w' 2 = w 2 := congrFun e 13
  have e14 : w' 3 = w 3 := congrFun e 14
  have hN := R.2.1.2
  have hN' := R'.2.1.2
  have hF := R.2.2.1.2
  have hF' := R'.2.2.1.2
  have hL := R.2.2.2.1.2
  have hL' := R'.2.2.2.1.2
  have q1 : nN' = nN := by
    rw [R.2.1.1, R'.2.1.1, pn_eq (by omega) (by omega)] at e12; exact e12
  have q2 : nF' = nF := by
    rw [R.2.2.1.1, R'.2.2.1.1, pn_eq (by omega) (by omega)] at e13; exact e13
  have q3 : nL' = nL := by
    rw [R.2.2.2.1.1, R'.2.2.2.1.1, pn_eq (by omega) (by omega)] at e14; exact e14
  subst q1; subst q2; subst q3
  refine ⟨rfl, rfl, rfl, fun i hi => ?_, fun i h1 h2 => ?_, fun i h1 h2 => ?_⟩
  · by_cases c0 : i = 0
    · subst c0; exact congrFun e 0
    by_cases c1 : i = 1
    · subst c1; exact e12
    by_cases c2 : i = 2
    · subst c2; exact e13
    by_cases c3 : i = 3
    · subst c3; exact e14
    by_cases c4 : i < 16
    · have h := congrFun e (16 + 7 * ((i - 4) / 3) + (4 + (i - 4) % 3))
      rw [eV_h456 C off dear proved w' (by omega) (by omega), eV_h456 C off dear proved w (by omega) (by omega)] at h
      have z : 4 + (i - 4) / 3 * 3 + (i - 4) % 3 = i := by omega
      rw [z] at h; exact h
    by_cases c5 : i < 26
    · by_cases p : (i - 16) % 2 = 0
      · have h := congrFun e (44 + 3 * ((i - 16) / 2) + 1)
        rw [eV_pp C off dear proved w' (by omega), eV_pp C off dear proved w (by omega)] at h
        have z : 16 + (i - 16) / 2 * 2 + 0 = i := by omega
        rw [z] at h; exact h
      · have h := congrFun e (44 + 3 * ((i - 16) / 2) + 2)
        rw [eV_gs C off dear proved w' (by omega), eV_gs C off dear proved w (by omega)] at h
        have z : 16 + (i - 16) / 2 * 2 + 1 = i := by omega
        rw [z] at h; exact h
    · have h := congrFun e (411 + 2 * ((i - 26) / 2) + (i - 26) % 2)
      rw [eV_f C off dear proved w' R'.2.2.1.1 hF (by omega) (by omega), eV_f C off dear proved w R.2.2.1.1 hF (by omega) (by omega)] at h
      have z : 26 + (i - 26) / 2 * 2 + (i - 26) % 2 = i := by omega
      rw [z] at h; exact h
  · have h := congrFun e (443 + 7 * ((i - 58) / 7) + (i - 58) % 7)
    rw [eV_l C off dear proved w' R'.2.2.2.1.1 hL (by omega) (by omega), eV_l C off dear proved w R.2.2.2.1.1 hL (by omega) (by omega)] at h
    have z : 58 + (i - 58) / 7 * 7 + (i - 58) % 7 = i := by omega
    rw [z] at h; exact h
  · have h := congrFun e (59 + 11 * ((i - 142) / 11) + (i - 142) % 11)
    rw [eV_n C off dear proved w' R'.2.1.1 hN (by omega) (by omega), eV_n C off dear proved w R.2.1.1 hN (by omega) (by omega)] at h
    have z : 142 + (i - 142) / 11 * 11 + (i - 142) % 11 = i := by omega
    rw [z] at h; exact h
/-- the mark of a world -/
def mkW (w : Nat → Int32) : Int32 := f_X4_mark w
theorem mkW_eq {w : Nat → Int32} {nH nN nF nL t : Nat} (R : WR C w nH nN nF nL t) : f_X4_mark w = mkW w ∧ s_X4_mark w := by
  have u : US w w nN nF nL := ⟨fun _ _ => rfl, fun _ _ _ => rfl, fun _ _ _ => rfl⟩
  exact ⟨rfl, (mark_c R.2.1.1 R.2.1.2 R.2.2.1.1 R.2.2.1.2 R.2.2.2.1.1 R.2.2.2.1.2 u).2⟩
theorem mkW_cg {w w' : Nat → Int32} {nH nN nF nL t : Nat} (R : WR C w nH nN nF nL t) (u : US w w' nN nF nL) : mkW w' = mkW w :=
  (mark_c R.2.1.1 R.2.1.2 R.2.2.1.1 R.2.2.1.2 R.2.2.2.1.1 R.2.2.2.1.2 u).1
theorem like_c {w w2 : Nat → Int32} {nH nN nF nL t nH' nN' nF' nL' t' : Nat} (R : WR C w nH nN nF nL t) (R' : WR C w2 nH' nN' nF' nL' t') : ((f_X4_isLike w w2 = nI 1 ∧ eV C off dear proved w2 = eV C off dear proved w) ∨ (f_X4_isLike w w2 = nI 0 ∧ ¬ eV C off dear proved w2 = eV C off dear proved w)) ∧ s_X4_isLike w w2 := by
  have hN := R.2.1.2
  have hF := R.2.2.1.2
  have hL := R.2.2.2.1.2
  have a := same_c (w := w) (w' := w2) (e := 26 + nF * 2) (by omega) ng_F 0 (by rw [ng_F_v]; omega) (by omega)
  have b := same_c (w := w) (w' := w2) (e := 58 + nL * 7) (by omega) ng_F 58 (by rw [ng_F_v]; omega) (by omega)
  have c := same_c (w := w) (w' := w2) (e := 142 + nN * 11) (by omega) ng_F 142 (by rw [ng_F_v]; omega) (by omega)
  unfold f_X4_isLike s_X4_isLike f_X4_sameWords s_X4_sameWords
  simp (disch := omega) only [pn_cl, R.2.1.1, R.2.2.1.1, R.2.2.2.1.1, pk_mul, nI_add, a.2, b.2, c.2, implies_true, and_true]
  by_cases e : eV C off dear proved w2 = eV C off dear proved w
  · left
    obtain ⟨-, -, -, u⟩ := US_eV C off dear proved R R' e
    refine ⟨?_, e⟩
    rcases a.1 with ⟨a1, -⟩ | ⟨-, a1⟩
    · rcases b.1 with ⟨b1, -⟩ | ⟨-, b1⟩
      · rcases c.1 with ⟨c1, -⟩ | ⟨-, c1⟩
        · rw [a1, b1, c1, if_neg n1z, if_neg n1z, if_neg n1z]
        · exact absurd (fun i h1 h2 => (u.2.2 i h1 h2).symm) c1
      · exact absurd (fun i h1 h2 => (u.2.1 i h1 h2).symm) b1
    · exact absurd (fun i _ h2 => (u.1 i h2).symm) a1
  · right
    refine ⟨?_, e⟩
    rcases a.1 with ⟨a1, a2⟩ | ⟨a1, -⟩
    · rcases b.1 with ⟨b1, b2⟩ | ⟨b1, -⟩
      · rcases c.1 with ⟨c1, c2⟩ | ⟨c1, -⟩
        · exact absurd (eV_US C off dear proved R.2.1.1 hN R.2.2.1.1 hF R.2.2.2.1.1 hL ⟨fun i h => (a2 i (Nat.zero_le i) h).symm, fun i h1 h2 => (b2 i h1 h2).symm, fun i h1 h2 => (c2 i h1 h2).symm⟩) e
        · rw [a1, b1, c1, if_neg n1z, if_neg n1z, if_pos b_n0]
      · rw [a1, b1, if_neg n1z, if_pos b_n0]
    · rw [a1, if_pos b_n0]
end LIK
