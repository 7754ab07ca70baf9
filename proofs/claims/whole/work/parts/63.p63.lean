theorem sum5 {v : Nat → Int32} : ∀ (n k : Nat) (a : Int32), 527 - k < n → k ≤ 527 → s_X6_sumOf_5 n v a (nI k)
  | 0, k, a, h, _ => by omega
  | n + 1, k, a, h, hk => by
    rw [s_X6_sumOf_5]
    by_cases e : k = 527
    · subst e
      simp (disch := omega) only [pn_le, Nat.le_refl, not_true_eq_false, false_implies]
    · have ih := sum5 (v := v) n (k + 1) (nI 31 * a + v k) (by omega) (by omega)
      simp (disch := omega) only [pn_le, show ¬ 527 ≤ k by omega, not_false_eq_true, true_implies, nI_add, pn_cl, pn_in, true_and]
      exact ih
theorem sum_s (v : Nat → Int32) : s_X6_sumOf v := sum5 ng_F 0 (nI 17) (by rw [ng_F_v]; omega) (by omega)
section THR
variable {F sta sm th : Nat → Int32} {U : Nat → Nat → Int32} {c : Nat}
theorem th26 {kk : (Nat → Int32) → (Nat → Int32) → (Nat → Int32) → (Nat → Int32) → Int32 → Int32 → Int32} {sk : (Nat → Int32) → (Nat → Int32) → (Nat → Int32) → (Nat → Int32) → Int32 → Int32 → Prop} {v2 : Int32} {k : Nat} (hk : k < 300) (hU : ∀ i, i < 527 → sta (527 * k + i) = U k i) (zU : NZ (U k)) (zt : NZ th) : ∀ (n i : Nat), 527 - i < n → i ≤ 527 → (∀ j, j < i → U k j = th j) → (U k = th ∧ f_X6_isThere_26 kk n F sta sm th v2 (nI k) (nI i) = nI 1 ∧ s_X6_isThere_26 sk n F sta sm th v2 (nI k) (nI i)) ∨ (¬ U k = th ∧ f_X6_isThere_26 kk n F sta sm th v2 (nI k) (nI i) = kk F sta sm th v2 (nI (k + 1)) ∧ (sk F sta sm th v2 (nI (k + 1)) → s_X6_isThere_26 sk n F sta sm th v2 (nI k) (nI i)))
  | 0, i, h, _, _ => by omega
  | n + 1, i, h, hi, hj => by
    rw [f_X6_isThere_26, s_X6_isThere_26]
    by_cases e : i = 527
    · subst e
      left
      refine ⟨?_, ?_, ?_⟩
      · funext j
        rcases Nat.lt_or_ge j 527 with z | z
        · exact hj j z
        · rw [zU j z, zt j z]
      · simp (disch := omega) only [pn_le, Nat.le_refl, if_true, f_X6_isThere_60]
      · simp (disch := omega) only [pn_le, Nat.le_refl, not_true_eq_false, false_implies, and_true, true_implies, s_X6_isThere_60]
    · have hU2 := hU i (by omega)
      simp (disch := omega) only [pn_le, show ¬ 527 ≤ i by omega, if_false, not_false_eq_true, true_implies, false_implies, true_and, pk_mul, nI_add, pn_cl, pn_in, hU2]
      by_cases q : U k i = th i
      · have ih := th26 (kk := kk) (sk := sk) (v2 := v2) hk hU zU zt n (i + 1) (by omega) (by omega) (fun j h => by
          rcases Nat.lt_or_ge j i with z | z
          · exact hj j z
          · have : j = i := by omega
            rw [this]; exact q)
        rcases ih with ⟨a1, a2, a3⟩ | ⟨a1, a2, a3⟩
        · left
          exact ⟨a1, by rw [if_pos q]; exact a2, fun _ => a3, fun z => absurd q z⟩
        · right
          exact ⟨a1, by rw [if_pos q]; exact a2, fun z => ⟨fun _ => a3 z, fun y => absurd q y⟩⟩
      · right
        refine ⟨fun z => q (by rw [z]), ?_, fun z => ⟨fun y => absurd y q, fun _ => ?_⟩⟩
        · rw [if_neg q]
          simp (disch := omega) only [f_X6_isThere_60, f_X6_isThere_70, pn_eq, e, if_false, nI_add]
        · simp (disch := omega) only [s_X6_isThere_60, s_X6_isThere_70, pn_eq, e, not_false_eq_true, true_implies, nI_add]
          exact z
theorem th2 (hF : F 15 = nI c) (hc : c ≤ 300) (hU : ∀ k, k < c → (∀ i, i < 527 → sta (527 * k + i) = U k i) ∧ NZ (U k) ∧ sm k = f_X6_sumOf (U k)) (zt : NZ th) : ∀ (n k : Nat), c - k < n → k ≤ c → (∀ j, j < k → ¬ U j = th) → ((∃ j, j < c ∧ U j = th) ∧ f_X6_isThere_2 n F sta sm th (f_X6_sumOf th) (nI k) = nI 1 ∧ s_X6_isThere_2 n F sta sm th (f_X6_sumOf th) (nI k)) ∨ ((¬ ∃ j, j < c ∧ U j = th) ∧ f_X6_isThere_2 n F sta sm th (f_X6_sumOf th) (nI k) = nI 0 ∧ s_X6_isThere_2 n F sta sm th (f_X6_sumOf th) (nI k))
  | 0, k, h, _, _ => by omega
  | n + 1, k, h, hk, hj => by
    rw [f_X6_isThere_2, s_X6_isThere_2]
    by_cases e : k = c
    · subst e
      right
      refine ⟨fun ⟨j, h1, h2⟩ => hj j h1 h2, ?_, ?_⟩
      · simp (disch := omega) only [hF, pn_le, Nat.le_refl, if_true]
      · simp (disch := omega) only [hF, pn_le, Nat.le_refl, not_true_eq_false, false_implies]
    · obtain ⟨u1, u2, u3⟩ := hU k (by omega)
      have ih := fun (hq : ¬ U k = th) => th2 hF hc hU zt n (k + 1) (by omega) (by omega) (fun j h => by
        rcases Nat.lt_or_ge j k with z | z
        · exact hj j z
        · have : j = k := by omega
          rw [this]; exact hq)
      simp (disch := omega) only [hF, pn_le, show ¬ c ≤ k by omega, if_false, not_false_eq_true, true_implies, pn_cl, pn_in, true_and, u3]
      by_cases q : f_X6_sumOf (U k) = f_X6_sumOf th
      · rw [if_pos q]
        rcases th26 (F := F) (sm := sm) (kk := f_X6_isThere_2 n) (sk := s_X6_isThere_2 n) (v2 := f_X6_sumOf th) (show k < 300 by omega) u1 u2 zt ng_F 0 (by rw [ng_F_v]; omega) (by omega) (fun j h => by omega) with ⟨a1, a2, a3⟩ | ⟨a1, a2, a3⟩
        · left
          exact ⟨⟨k, by omega, a1⟩, a2, fun _ => a3, fun z => absurd q z⟩
        · rcases ih a1 with ⟨b1, b2, b3⟩ | ⟨b1, b2, b3⟩
          · left; exact ⟨b1, a2.trans b2, fun _ => a3 b3, fun z => absurd q z⟩
          · right; exact ⟨b1, a2.trans b2, fun _ => a3 b3, fun z => absurd q z⟩
      · rw [if_neg q]
        have hq : ¬ U k = th := fun z => q (by rw [z])
        simp (disch := omega) only [f_X6_isThere_70, s_X6_isThere_70, nI_add]
        rcases ih hq with ⟨b1, b2, b3⟩ | ⟨b1, b2, b3⟩
        · left; exact ⟨b1, b2, fun z => absurd z q, fun _ => b3⟩
        · right; exact ⟨b1, b2, fun z => absurd z q, fun _ => b3⟩
theorem there_c (hF : F 15 = nI c) (hc : c ≤ 300) (hU : ∀ k, k < c → (∀ i, i < 527 → sta (527 * k + i) = U k i) ∧ NZ (U k) ∧ sm k = f_X6_sumOf (U k)) (zt : NZ th) : ((∃ j, j < c ∧ U j = th) ∧ f_X6_isThere F sta sm th (f_X6_sumOf th) = nI 1 ∧ s_X6_isThere F sta sm th (f_X6_sumOf th)) ∨ ((¬ ∃ j, j < c ∧ U j = th) ∧ f_X6_isThere F sta sm th (f_X6_sumOf th) = nI 0 ∧ s_X6_isThere F sta sm th (f_X6_sumOf th)) :=
  th2 hF hc hU zt ng_F 0 (by rw [ng_F_v]; omega) (by omega) (fun j h => by omega)
end THR
section MIX
variable (C off dear proved : Nat → Int32) {w : Nat → Int32}
def mxP (w : Nat → Int32) (b x : Nat) : Prop := bt (w (142 + x * 11 + 10)) b = true ∧ ¬ w (142 + x * 11 + 1) = nI b
theorem mx1 {nN b : Nat} (h1 : w 1 = nI nN) (hN : nN ≤ 32) : ∀ (n k : Nat), nN - k < n → k ≤ nN → f_X6_isMixed_4 n (eV C off dear proved w) (nI b) (nI 1) (nI k) = nI 1 ∧ s_X6_isMixed_4 n (eV C off dear proved w) (nI b) (nI 1) (nI k)
  | 0, k, h, _ => by omega
  | n + 1, k, h, hk => by
    have e12 : eV C off dear proved w 12 = nI nN := h1
    rw [f_X6_isMixed_4, s_X6_isMixed_4]
    by_cases e : k = nN
    · subst e
      simp (disch := omega) only [pn_cl, e12, pn_le, Nat.le_refl, if_true, not_true_eq_false, false_implies, and_true, true_implies, true_and]
      exact Or.inr rfl
    · have ih := mx1 (b := b) h1 hN n (k + 1) (by omega) (by omega)
      simp (disch := omega) only [pn_cl, e12, pn_le, show ¬ nN ≤ k by omega, if_false, not_false_eq_true, true_implies, false_implies, true_and, n1z, f_X6_isMixed_37, f_X6_isMixed_42, s_X6_isMixed_37, s_X6_isMixed_42, nI_add]
      exact ih
theorem mx0 {nN b : Nat} (h1 : w 1 = nI nN) (hN : nN ≤ 32) (hb : b < 9) : ∀ (n k : Nat), nN - k < n → k ≤ nN → ((f_X6_isMixed_4 n (eV C off dear proved w) (nI b) (nI 0) (nI k) = nI 1 ∧ ∃ x, k ≤ x ∧ x < nN ∧ mxP w b x) ∨ (f_X6_isMixed_4 n (eV C off dear proved w) (nI b) (nI 0) (nI k) = nI 0 ∧ ¬ ∃ x, k ≤ x ∧ x < nN ∧ mxP w b x)) ∧ s_X6_isMixed_4 n (eV C off dear proved w) (nI b) (nI 0) (nI k)
  | 0, k, h, _ => by omega
  | n + 1, k, h, hk => by
    have e12 : eV C off dear proved w 12 = nI nN := h1
    rw [f_X6_isMixed_4, s_X6_isMixed_4]
    by_cases e : k = nN
    · subst e
      simp (disch := omega) only [pn_cl, e12, pn_le, Nat.le_refl, if_true, not_true_eq_false, false_implies, and_true, true_implies]
      exact ⟨Or.inr ⟨trivial, fun ⟨x, a, b, _⟩ => by omega⟩, Or.inl rfl⟩
    · have hx : k < nN := by omega
      have ih := mx0 h1 hN hb n (k + 1) (by omega) (by omega)
      have i1 := mx1 C off dear proved (b := b) h1 hN n (k + 1) (by omega) (by omega)
      have hv := has_v C off dear proved (p := b) h1 hN (show b < 32 by omega) hx
      have ev := eV_n C off dear proved w (j := 1) h1 hN hx (by omega)
      have up : (∃ x, k + 1 ≤ x ∧ x < nN ∧ mxP w b x) → ∃ x, k ≤ x ∧ x < nN ∧ mxP w b x := fun ⟨x, a, b, c⟩ => ⟨x, by omega, b, c⟩
      have dn : ¬ mxP w b k → (¬ ∃ x, k + 1 ≤ x ∧ x < nN ∧ mxP w b x) → ¬ ∃ x, k ≤ x ∧ x < nN ∧ mxP w b x := fun q r ⟨x, a, b, c⟩ => by
        rcases Nat.eq_or_lt_of_le a with z | z
        · subst z; exact q c
        · exact r ⟨x, z, b, c⟩
      simp (disch := omega) only [pn_cl, e12, pn_le, show ¬ nN ≤ k by omega, if_false, not_false_eq_true, true_implies, false_implies, true_and, n00, if_true, not_true_eq_false, and_true, hv.1, hv.2, f_X6_note, pk_mul, nI_add, ev, pn_in, f_X6_isMixed_41, f_X6_isMixed_37, f_X6_isMixed_42, s_X6_isMixed_41, s_X6_isMixed_37, s_X6_isMixed_42]
      by_cases q1 : bt (w (142 + k * 11 + 10)) b = true
      · by_cases q2 : w (142 + k * 11 + 1) = nI b
        · simp only [q1, q2, if_true, n1z, if_false, true_implies, not_true_eq_false, not_false_eq_true, false_implies, and_true, true_and]
          refine ⟨?_, ih.2⟩
          rcases ih.1 with ⟨a1, a2⟩ | ⟨a1, a2⟩
          · exact Or.inl ⟨a1, up a2⟩
          · exact Or.inr ⟨a1, dn (fun z => z.2 q2) a2⟩
        · simp only [q1, q2, if_true, n1z, if_false, not_false_eq_true, true_implies, false_implies, true_and]
          exact ⟨Or.inl ⟨i1.1, k, Nat.le_refl k, hx, q1, q2⟩, i1.2⟩
      · simp only [q1, if_false, n00, if_true, true_implies, not_true_eq_false, false_implies, and_true, Bool.false_eq_true]
        refine ⟨?_, ih.2⟩
        rcases ih.1 with ⟨a1, a2⟩ | ⟨a1, a2⟩
        · exact Or.inl ⟨a1, up a2⟩
        · exact Or.inr ⟨a1, dn (fun z => q1 z.1) a2⟩
theorem st0 {J : Nat → Int32} {nN b : Nat} (h1 : w 1 = nI nN) (hN : nN ≤ 32) (hb : b < 9) (hJ : J 11 = nI b) : ∀ (n k : Nat), nN - k < n → k ≤ nN → ((f_X1_isStrangeNoteTaken_12 n J w (nI k) = nI 1 ∧ ∃ x, k ≤ x ∧ x < nN ∧ mxP w b x) ∨ (f_X1_isStrangeNoteTaken_12 n J w (nI k) = nI 0 ∧ ¬ ∃ x, k ≤ x ∧ x < nN ∧ mxP w b x)) ∧ s_X1_isStrangeNoteTaken_12 n J w (nI k)
  | 0, k, h, _ => by omega
  | n + 1, k, h, hk => by
    rw [f_X1_isStrangeNoteTaken_12, s_X1_isStrangeNoteTaken_12]
    by_cases e : k = nN
    · subst e
      simp (disch := omega) only [f_X4_notes, pn_cl, h1, pn_le, Nat.le_refl, if_true, not_true_eq_false, false_implies, and_true]
      exact Or.inr ⟨trivial, fun ⟨x, a, b, _⟩ => by omega⟩
    · have hx : k < nN := by omega
      have ih := st0 h1 hN hb hJ n (k + 1) (by omega) (by omega)
      have hv := has_c (p := b) h1 hN hb hx
      have ev := noteWord_eq (j := 1) h1 hN hx (by omega)
      have up : (∃ x, k + 1 ≤ x ∧ x < nN ∧ mxP w b x) → ∃ x, k ≤ x ∧ x < nN ∧ mxP w b x := fun ⟨x, a, b, c⟩ => ⟨x, by omega, b, c⟩
      have dn : ¬ mxP w b k → (¬ ∃ x, k + 1 ≤ x ∧ x < nN ∧ mxP w b x) → ¬ ∃ x, k ≤ x ∧ x < nN ∧ mxP w b x := fun q r ⟨x, a, b, c⟩ => by
        rcases Nat.eq_or_lt_of_le a with z | z
        · subst z; exact q c
        · exact r ⟨x, z, b, c⟩
      simp (disch := omega) only [f_X4_notes, pn_cl, h1, pn_le, show ¬ nN ≤ k by omega, if_false, not_false_eq_true, true_implies, hJ, hv.1, hv.2, ev.1, ev.2, true_and, f_X1_isStrangeNoteTaken_56, s_X1_isStrangeNoteTaken_56, nI_add]
      by_cases q1 : bt (w (142 + k * 11 + 10)) b = true
      · by_cases q2 : w (142 + k * 11 + 1) = nI b
        · simp only [q1, q2, if_true, n1z, if_false, true_implies, not_false_eq_true, false_implies, true_and]
          refine ⟨?_, ih.2⟩
          rcases ih.1 with ⟨a1, a2⟩ | ⟨a1, a2⟩
          · exact Or.inl ⟨a1, up a2⟩
          · exact Or.inr ⟨a1, dn (fun z => z.2 q2) a2⟩
        · simp only [q1, q2, if_true, n1z, if_false, not_false_eq_true, true_implies, false_implies, and_true]
          exact Or.inl ⟨trivial, k, Nat.le_refl k, hx, q1, q2⟩
      · simp only [q1, if_false, n00, if_true, true_implies, not_true_eq_false, false_implies, and_true, Bool.false_eq_true]
        refine ⟨?_, ih.2⟩
        rcases ih.1 with ⟨a1, a2⟩ | ⟨a1, a2⟩
        · exact Or.inl ⟨a1, up a2⟩
        · exact Or.inr ⟨a1, dn (fun z => q1 z.1) a2⟩
/-- the goal with strange notes: both say the same of a world -/
theorem mix_cv {J : Nat → Int32} {nN b : Nat} (h1 : w 1 = nI nN) (hN : nN ≤ 32) (hb : b < 4) (hJ : J 11 = nI b) (h10 : J 10 = nI 1) : (f_X1_isStrangeNoteTaken J w = f_X6_isMixed (eV C off dear proved w) (nI b) ∧ (f_X1_isStrangeNoteTaken J w = nI 0 ∨ f_X1_isStrangeNoteTaken J w = nI 1)) ∧ s_X1_isStrangeNoteTaken J w ∧ s_X6_isMixed (eV C off dear proved w) (nI b) := by
  have a := mx0 C off dear proved (b := b) h1 hN (by omega) ng_F 0 (by rw [ng_F_v]; omega) (by omega)
  have c := st0 (J := J) (b := b) h1 hN (by omega) hJ ng_F 0 (by rw [ng_F_v]; omega) (by omega)
  refine ⟨?_, fun _ => c.2, a.2⟩
  unfold f_X1_isStrangeNoteTaken f_X6_isMixed
  rw [if_pos h10]
  rcases a.1 with ⟨a1, a2⟩ | ⟨a1, a2⟩
  · rcases c.1 with ⟨c1, c2⟩ | ⟨c1, c2⟩
    · rw [a1, c1]; exact ⟨rfl, Or.inr rfl⟩
    · exact absurd a2 c2
  · rcases c.1 with ⟨c1, c2⟩ | ⟨c1, c2⟩
    · exact absurd c2 a2
    · rw [a1, c1]; exact ⟨rfl, Or.inl rfl⟩
end MIX
