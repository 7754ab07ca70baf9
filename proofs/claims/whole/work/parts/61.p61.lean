/-- rows of 527 with nothing behind -/
def NZ (v : Nat → Int32) : Prop := ∀ i, 527 ≤ i → v i = 0
theorem NZ_eV (C off dear proved w : Nat → Int32) : NZ (eV C off dear proved w) := fun _ h => eV_big _ _ _ _ _ h
/-- alike in all that is used -/
def AG (w w' : Nat → Int32) (nN : Nat) : Prop := ∀ i, i < 142 + nN * 11 → w' i = w i
theorem eV_AG (C off dear proved : Nat → Int32) {w w' : Nat → Int32} {nN : Nat} (h1 : w 1 = nI nN) (hN : nN ≤ 32) (h : AG w w' nN) : eV C off dear proved w' = eV C off dear proved w := by
  have h1' : w' 1 = nI nN := by rw [h 1 (by omega)]; exact h1
  funext i
  by_cases c : 59 ≤ i ∧ i < 411
  · have e : i = 59 + 11 * ((i - 59) / 11) + (i - 59) % 11 := by omega
    rw [e]
    rcases Nat.lt_or_ge ((i - 59) / 11) nN with d | d
    · rw [eV_n C off dear proved w' h1' hN d (by omega), eV_n C off dear proved w h1 hN d (by omega), h _ (by omega)]
    · rw [eV_n0 C off dear proved w' h1' d (by omega) (by omega), eV_n0 C off dear proved w h1 d (by omega) (by omega)]
  · refine eV_cong C off dear proved w (h 1 (by omega)) (h 2 (by omega)) (h 3 (by omega)) i (fun _ _ hi => h _ ?_)
    unfold cI
    split
    · split
      · omega
      · split
        · omega
        · split <;> omega
    · split
      · omega
      · split
        · omega
        · split
          · omega
          · split <;> omega
theorem WR_AG {C w w' : Nat → Int32} {nH nN nF nL t : Nat} (R : WR C w nH nN nF nL t) (h : AG w w' nN) : WR C w' nH nN nF nL t := by
  have hL := R.2.2.2.1.2
  refine WR_cg R (fun i hi => h i (by omega)) (fun x j hx hj => h _ (by omega)) (fun i h1 h2 => h i (by omega))
theorem bec_eq {tw w : Nat → Int32} {nN : Nat} (h1 : w 1 = nI nN) (hN : nN ≤ 32) : ∃ b, f_X4_become tw w = b ∧ s_X4_become tw w ∧ AG w b nN := by
  refine ⟨va_cpy w tw 0 0 (142 + nN * 11), ?_, ?_, ?_⟩
  · unfold f_X4_become
    simp (disch := omega) only [pn_cl, h1, pk_mul, nI_add, pn_lt0, if_false, pn_lt, show ¬ 494 < 142 + nN * 11 by omega]
  · unfold s_X4_become
    simp (disch := omega) only [pn_cl, h1, pk_mul, nI_add, pn_lt0, pn_lt, not_false_eq_true, implies_true, and_true, true_and, Nat.zero_add, show 142 + nN * 11 ≤ 494 by omega]
  · intro i hi
    rw [pk_cpy_in (Nat.zero_le i) (by omega)]
    congr 1
    omega
theorem cp3 {fr : Nat → Int32} {nn oo p q : Nat} (hp : p + 527 ≤ nn) (hq : q + 527 ≤ oo) (hn : nn < 2 ^ 31) (ho : oo < 2 ^ 31) : ∀ (n k : Nat) (fo : Nat → Int32), 527 - k < n → k ≤ 527 → f_X6_copy__3 n fr fo nn oo (nI p) (nI q) (nI k) = (fun i => if q + k ≤ i ∧ i < q + 527 then fr (p + (i - q)) else fo i) ∧ s_X6_copy__3 n fr fo nn oo (nI p) (nI q) (nI k)
  | 0, k, fo, h, _ => by omega
  | n + 1, k, fo, h, hk => by
    rw [f_X6_copy__3, s_X6_copy__3]
    by_cases e : k = 527
    · subst e
      simp (disch := omega) only [pn_le, Nat.le_refl, if_true, not_true_eq_false, false_implies, and_true]
      funext i
      rw [if_neg (by omega)]
    · have ih := cp3 (fr := fr) hp hq hn ho n (k + 1) (upd fo (q + k) (fr (p + k))) (by omega) (by omega)
      simp (disch := omega) only [pn_le, show ¬ 527 ≤ k by omega, if_false, not_false_eq_true, true_implies, nI_add, pn_cl, pn_in, true_and]
      refine ⟨ih.1.trans ?_, ih.2⟩
      funext i
      by_cases e2 : i = q + k
      · subst e2
        rw [if_neg (by omega), pu_s, if_pos (by omega)]
        congr 1; omega
      · rw [pu_n _ _ e2]
        by_cases z : q + (k + 1) ≤ i ∧ i < q + 527
        · rw [if_pos z, if_pos (by omega)]
        · rw [if_neg z, if_neg (by omega)]
theorem cp_eq {fr fo : Nat → Int32} {nn oo p q : Nat} (hp : p + 527 ≤ nn) (hq : q + 527 ≤ oo) (hn : nn < 2 ^ 31) (ho : oo < 2 ^ 31) : f_X6_copy_ fr fo nn oo (nI p) (nI q) = (fun i => if q ≤ i ∧ i < q + 527 then fr (p + (i - q)) else fo i) ∧ s_X6_copy_ fr fo nn oo (nI p) (nI q) :=
  cp3 (fr := fr) hp hq hn ho ng_F 0 fo (by rw [ng_F_v]; omega) (by omega)
/-- a row copied whole -/
theorem cp_all {v fo : Nat → Int32} (hv : NZ v) (hf : NZ fo) : f_X6_copy_ v fo 527 527 (nI 0) (nI 0) = v ∧ s_X6_copy_ v fo 527 527 (nI 0) (nI 0) := by
  have h := cp_eq (fr := v) (fo := fo) (nn := 527) (oo := 527) (p := 0) (q := 0) (by omega) (by omega) (by omega) (by omega)
  refine ⟨h.1.trans ?_, h.2⟩
  funext i
  by_cases c : 0 ≤ i ∧ i < 0 + 527
  · rw [if_pos c]; congr 1; omega
  · rw [if_neg c, hf i (by omega), hv i (by omega)]
section LON
variable {C off dear proved : Nat → Int32}
theorem long_l {nH h x : Nat} {Dg dw F lg rl nw : Nat → Int32} {v3 : Int32} (S : SC C) (hF : ¬ F 2 = 0) (hh : h < nH) (h4 : nH ≤ 4) : ∀ (n n' k : Nat) (w : Nat → Int32) (v4 : Int32) (nN nF nL t : Nat), 1101 - k < n → 1101 - k < n' → k ≤ 1101 → WR C w nH nN nF nL t → t + (1101 - k) ≤ 40000 → x < nN → ∃ w' a, f_X1_lastLetIn_17 n C off dear proved Dg dw nw w (nI x) (nI h) v3 v4 (nI k) = (Dg, dw, w', a) ∧ s_X1_lastLetIn_17 n C off dear proved Dg dw nw w (nI x) (nI h) v3 v4 (nI k) ∧ f_X6_longest_58 n' F rl lg (eV C off dear proved w) (nI x) (nI h) v3 v4 (nI k) = (upd F 2 (nI 0), lg, eV C off dear proved w', a) ∧ s_X6_longest_58 n' F rl lg (eV C off dear proved w) (nI x) (nI h) v3 v4 (nI k)
  | 0, _, _, _, _, _, _, _, _, h, _, _, _, _, _ => by omega
  | _ + 1, 0, _, _, _, _, _, _, _, _, h, _, _, _, _ => by omega
  | n + 1, n' + 1, k, w, v4, nN, nF, nL, t, h1, h2, h3, R, ht, hx => by
    rw [f_X1_lastLetIn_17, s_X1_lastLetIn_17, f_X6_longest_58, s_X6_longest_58]
    by_cases e : k = 1101
    · subst e
      refine ⟨w, v4, ?_, ?_, ?_, ?_⟩
      · simp (disch := omega) only [pn_lt, show (1100 : Nat) < 1101 by omega, if_true]
      · simp (disch := omega) only [pn_lt, show (1100 : Nat) < 1101 by omega, not_true_eq_false, false_implies]
      · simp (disch := omega) only [pn_lt, show (1100 : Nat) < 1101 by omega, if_true]
      · simp (disch := omega) only [pn_lt, show (1100 : Nat) < 1101 by omega, not_true_eq_false, false_implies]
    · have ve := verd_eq C off dear proved (r := v3) R (show h < 4 by omega) hx
      obtain ⟨w', Dg', dw', F', lg', nN', nF', nL', k1, k2, k3, k4, k5, k6, k7, k8, k9⟩ := tick_st C off dear proved (d := false) (Dg := Dg) (dw := dw) (F := F) (lg := lg) (B := 0) S R ⟨fun q => Bool.noConfusion q, fun _ => hF⟩ (by omega) (by omega)
      obtain ⟨e1, e2, e3, e4⟩ := k9.1 rfl
      rw [e3, e4] at k1
      rw [e1, e2] at k3
      have ih := fun v4 => long_l (x := x) (nw := nw) (rl := rl) (Dg := Dg) (dw := dw) (lg := lg) (v3 := v3) S hF hh h4 n n' (k + 1) w' v4 nN' nF' nL' (t + 1) (by omega) (by omega) (by omega) k5 (by omega) (by omega)
      simp (disch := omega) only [pn_lt, show ¬ 1100 < k by omega, if_false, not_false_eq_true, true_implies, f_X1_lastLetIn_42, f_X1_lastLetIn_49, s_X1_lastLetIn_42, s_X1_lastLetIn_49, f_X6_longest_83, f_X6_longest_91, s_X6_longest_83, s_X6_longest_91, k1, k2, k3, k4, nI_add, ve.1, ve.2.1, ve.2.2, true_and]
      by_cases q : f_X4_verdict w C off dear (nI h) (nI x) v3 = 0
      · obtain ⟨w2, a, a1, a2, a3, a4⟩ := ih (nI k)
        refine ⟨w2, a, ?_, ?_, ?_, ?_⟩
        · rw [if_pos q]; exact a1
        · exact ⟨fun _ => a2, fun z => absurd q z⟩
        · rw [if_pos q]; exact a3
        · exact ⟨fun _ => a4, fun z => absurd q z⟩
      · obtain ⟨w2, a, a1, a2, a3, a4⟩ := ih v4
        refine ⟨w2, a, ?_, ?_, ?_, ?_⟩
        · rw [if_neg q]; exact a1
        · exact ⟨fun z => absurd z q, fun _ => a2⟩
        · rw [if_neg q]; exact a3
        · exact ⟨fun z => absurd z q, fun _ => a4⟩
theorem op_longest {nw Dg dw F rl lg nwa tw : Nat → Int32} {B : Nat} (Q : QW C off dear proved nw Dg dw F rl lg B) (hz : NZ nwa) (v1 v2 v3 : Int32) : ∃ (tw' : Nat → Int32) (F' nwa' : Nat → Int32) (a : Int32), f_X5_longest C off dear proved Dg dw nw tw v1 v2 v3 = (Dg, dw, tw', a) ∧ s_X5_longest C off dear proved Dg dw nw tw v1 v2 v3 ∧ f_X6_longest F rl lg nwa v1 v2 v3 = (F', lg, nwa', a) ∧ s_X6_longest F rl lg nwa v1 v2 v3 ∧ QW C off dear proved nw Dg dw F' rl lg B ∧ KF F F' ∧ NZ nwa' := by
  have Q0 := QW_0 (y := nI 0) Q
  obtain ⟨nH, nN, nF, nL, t, S, R, H, T, e, D, O⟩ := Q
  have hN := R.2.1.2
  rcases no_c (off := off) (dear := dear) (proved := proved) R v1 with ⟨g1, g2, -⟩ | ⟨x, hx, rfl, g1, g2⟩
  · rw [← e] at g2
    refine ⟨tw, _, nwa, (-2), ?_, ?_, ?_, ?_, Q0, KF.r0 F, hz⟩
    · simp only [f_X5_longest, g1, n00, if_true]
    · simp only [s_X5_longest, g1, n00, not_true_eq_false, false_implies]
    · simp only [f_X6_longest, g2, n00, if_true]
    · simp only [s_X6_longest, sno, g2, n00, not_true_eq_false, false_implies, and_true]
  rw [← e] at g2
  rcases ho_c (off := off) (dear := dear) (proved := proved) R v2 with ⟨k1, k2, -⟩ | ⟨h, hh, rfl, k1, k2⟩
  · rw [← e] at k2
    refine ⟨tw, _, nwa, (-2), ?_, ?_, ?_, ?_, Q0, KF.r0 F, hz⟩
    · simp only [f_X5_longest, g1, n1z, if_false, k1, n00, if_true]
    · simp only [s_X5_longest, k1, n00, not_true_eq_false, false_implies, implies_true]
    · simp only [f_X6_longest, g2, n1z, if_false, k2, n00, if_true]
    · simp only [s_X6_longest, sno, sho, k2, n00, not_true_eq_false, false_implies, implies_true, and_true]
  rw [← e] at k2
  rcases ri_c v3 with ⟨r1, r2⟩ | ⟨r, hr, rfl, r1, r2⟩
  · refine ⟨tw, _, nwa, (-2), ?_, ?_, ?_, ?_, Q0, KF.r0 F, hz⟩
    · simp only [f_X5_longest, g1, n1z, if_false, k1, r1, n00, if_true]
    · simp only [s_X5_longest, r1, n00, not_true_eq_false, false_implies, implies_true]
    · simp only [f_X6_longest, g2, n1z, if_false, k2, r2, n00, if_true]
    · simp only [s_X6_longest, sno, sho, r2, n00, not_true_eq_false, false_implies, implies_true, and_true]
  · obtain ⟨b, b1, b2, b3⟩ := bec_eq (tw := tw) R.2.1.1 hN
    have hF : ¬ upd (upd F 0 (nI 0)) 2 (nI 1) 2 = 0 := by rw [pu_s]; exact n1z
    obtain ⟨w', a, a1, a2, a3, a4⟩ := long_l (C := C) (off := off) (dear := dear) (proved := proved) (Dg := Dg) (dw := dw) (lg := lg) (rl := rl) (nw := nw) (v3 := nI r) S hF hh R.1.2 ng_F ng_F 0 b (-1) nN nF nL t (by rw [ng_F_v]; omega) (by rw [ng_F_v]; omega) (by omega) (WR_AG R b3) (by omega) hx
    have ca := cp_all (v := rl) (fo := nwa) (by rw [e]; exact NZ_eV _ _ _ _ _) hz
    rw [eV_AG C off dear proved R.2.1.1 hN b3, ← e] at a3 a4
    have f2 : F 2 = nI 0 := D.1
    have eF : upd (upd (upd F 0 (nI 0)) 2 (nI 1)) 2 (nI 0) = upd F 0 (nI 0) := by
      rw [pu_u]
      exact pu_id _ (by rw [pu_n _ _ (by omega)]; exact f2)
    rw [eF] at a3
    refine ⟨w', upd F 0 (nI 0), _, a, ?_, ?_, ?_, ?_, Q0, KF.r0 F, NZ_eV C off dear proved w'⟩
    · simp only [f_X5_longest, g1, n1z, if_false, k1, r1, f_X1_lastLetIn, f_X1_lastLetIn_14, b1, a1]
    · simp only [s_X5_longest, s_X1_lastLetIn, s_X1_lastLetIn_14, b1, b2, a2, implies_true, and_true]
    · simp only [f_X6_longest, g2, n1z, if_false, k2, r2, ca.1, f_X6_longest_52, a3]
    · simp only [s_X6_longest, sno, sho, ca.1, ca.2, s_X6_longest_52, a4, implies_true, and_true]
end LON
