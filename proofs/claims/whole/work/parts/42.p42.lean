def bF (w : Nat → Int32) (f : Nat) (p : Int32) : Nat → Int32 := upd (upd (upd w (26 + f * 2 + 0) p) (26 + f * 2 + 1) (-1)) 2 (nI (f + 1))
def bV (v : Nat → Int32) (f : Nat) (p : Int32) : Nat → Int32 := upd (upd (upd v (411 + 2 * f) p) (411 + 2 * f + 1) (-1)) 13 (nI (f + 1))
theorem eV_bF (C off dear proved w : Nat → Int32) {f : Nat} {p : Int32} (hn : w 2 = nI f) (hm : f < 16) : eV C off dear proved (bF w f p) = bV (eV C off dear proved w) f p := by
  unfold bF bV
  rw [eV_aF C off dear proved _ (n := f) (by rw [pu_n _ _ (by omega), pu_n _ _ (by omega)]; exact hn) hm]
  rw [eV_xF C off dear proved _ (n := f) (-1) (by rw [pu_n _ _ (by omega)]; exact hn) (Nat.le_refl f) hm (by omega), eV_xF C off dear proved w (n := f) p hn (Nat.le_refl f) hm (by omega)]
  funext i
  by_cases e : i = 13
  · rw [if_pos e, e, pu_s]
  · rw [if_neg e, pu_n _ _ e]
    by_cases e2 : 411 + 2 * f ≤ i ∧ i < 411 + 2 * f + 2
    · rw [if_pos e2]
      by_cases e3 : i = 411 + 2 * f
      · rw [e3, show 26 + (411 + 2 * f - 411) = 26 + f * 2 + 0 by omega, pu_n _ _ (by omega), pu_s, pu_n _ _ (by omega), pu_s]
      · have e4 : i = 411 + 2 * f + 1 := by omega
        rw [e4, show 26 + (411 + 2 * f + 1 - 411) = 26 + f * 2 + 1 by omega, pu_s, pu_s]
    · rw [if_neg e2, pu_n _ _ (by omega), pu_n _ _ (by omega)]
theorem bF_at {w : Nat → Int32} {f i : Nat} {p : Int32} (h : i ≠ 2) (h2 : i < 26 + f * 2 ∨ 58 ≤ i) (hf : f < 16) : bF w f p i = w i := by
  unfold bF; rw [pu_n _ _ h, pu_n _ _ (by omega), pu_n _ _ (by omega)]
theorem WR_bF {C w : Nat → Int32} {nH nN nF nL t : Nat} {p : Int32} (R : WR C w nH nN nF nL t) (hf : nF < 16) : WR C (bF w nF p) nH nN (nF + 1) nL t := by
  obtain ⟨r1, r2, r3, r4, r5, r6, r7, r8, r9, r10⟩ := R
  have e : ∀ i, i ≠ 2 → i < 26 ∨ 58 ≤ i → bF w nF p i = w i := fun i h hi => bF_at h (by omega) hf
  refine ⟨r1, ⟨by rw [e _ (by omega) (by omega)]; exact r2.1, r2.2⟩, ⟨pu_s _ _ _, by omega⟩, ⟨by rw [e _ (by omega) (by omega)]; exact r4.1, r4.2⟩, ⟨by rw [e _ (by omega) (by omega)]; exact r5.1, r5.2⟩, fun q hq => ?_, fun l hl => ?_, fun l m p q hlm hm hp hq => ?_, r9, r10⟩
  · rw [e _ (by omega) (by omega), e _ (by omega) (by omega)]
    obtain ⟨a, f, b, c⟩ := r6 q hq
    exact ⟨a, f, by omega, c⟩
  · rw [e _ (by omega) (by omega), e _ (by omega) (by omega), e _ (by omega) (by omega), e _ (by omega) (by omega), e _ (by omega) (by omega), e _ (by omega) (by omega)]
    exact ⟨(r7 l hl).1.mono (Nat.le_refl _) (Nat.le_refl _) (by omega), (r7 l hl).2⟩
  · rw [e _ (by omega) (by omega)] at hp hq; exact r8 l m p q hlm hm hp hq
theorem WR_aW {C w g : Nat → Int32} {nH nN nF nL t : Nat} (R : WR C w nH nN nF nL t) (hn : nN < 32) (g2 : ∃ h, h < nH ∧ g 2 = nI h) (g6 : ∃ f, f < nF ∧ g 6 = nI f) : WR C (aW w nN g) nH (nN + 1) nF nL t := by
  obtain ⟨r1, r2, r3, r4, r5, r6, r7, r8, r9, r10⟩ := R
  have e : ∀ i, i ≠ 1 → i < 142 + nN * 11 → aW w nN g i = w i := fun i h hi => aW_at h hi
  refine ⟨r1, ⟨aW_1, by omega⟩, ⟨by rw [e _ (by omega) (by omega)]; exact r3.1, r3.2⟩, ⟨by rw [e _ (by omega) (by omega)]; exact r4.1, r4.2⟩, ⟨by rw [e _ (by omega) (by omega)]; exact r5.1, r5.2⟩, fun q hq => ?_, fun l hl => ?_, fun l m p q hlm hm hp hq => ?_, r9, r10⟩
  · rcases Nat.lt_or_ge q nN with z | z
    · rw [e _ (by omega) (by omega), e _ (by omega) (by omega)]; exact r6 q z
    · have : q = nN := by omega
      subst this
      rw [aW_new (by omega), aW_new (by omega)]; exact ⟨g2, g6⟩
  · have := r4.2
    rw [e _ (by omega) (by omega), e _ (by omega) (by omega), e _ (by omega) (by omega), e _ (by omega) (by omega), e _ (by omega) (by omega), e _ (by omega) (by omega)]
    exact ⟨(r7 l hl).1.mono (Nat.le_refl _) (by omega) (Nat.le_refl _), (r7 l hl).2⟩
  · have := r4.2
    rw [e _ (by omega) (by omega)] at hp hq; exact r8 l m p q hlm hm hp hq
theorem aW_over {w g f : Nat → Int32} {n : Nat} (h : ∀ i, i < 142 + n * 11 ∨ 142 + n * 11 + 11 ≤ i → f i = w i) : aW f n g = aW w n g := by
  funext i
  unfold aW
  by_cases e : i = 1
  · rw [e, pu_s, pu_s]
  · rw [pu_n _ _ e, pu_n _ _ e]
    by_cases q : 142 + n * 11 ≤ i ∧ i < 142 + n * 11 + 11
    · rw [blk_in q.1 q.2, blk_in q.1 q.2]
    · rw [blk_out (by omega), blk_out (by omega)]; exact h i (by omega)
/-- the two notes of an ask -/
def askN (C w : Nat → Int32) (nN nF b h : Nat) (r pr : Int32) : Nat → Int32 :=
  aW (aW (bF w nF (nI b)) nN (n11 (nI 0) (nI b) (nI h) r (w 0) (w 0 + C 0) (nI nF) pr (-1) (nI 0) (nI 0))) (nN + 1) (n11 (nI 1) (nI b) (nI h) r (w 0) (w 0 + C 1) (nI nF) pr (-1) (nI 0) (nI 0))
theorem WR_askN {C w : Nat → Int32} {nH nN nF nL t b h : Nat} {r pr : Int32} (R : WR C w nH nN nF nL t) (hN : nN + 2 ≤ 32) (hF : nF < 16) (hh : h < nH) : WR C (askN C w nN nF b h r pr) nH (nN + 2) (nF + 1) nL t :=
  WR_aW (WR_aW (WR_bF R hF) (by omega) ⟨h, hh, rfl⟩ ⟨nF, by omega, rfl⟩) (by omega) ⟨h, hh, rfl⟩ ⟨nF, by omega, rfl⟩
def askOk (C proved : Nat → Int32) (nN nF b h : Nat) : Prop := ¬ C 9 = 0 ∧ bt (C 11) h = true ∧ ¬ proved b = (-1) ∧ nN + 2 ≤ 32 ∧ nF < 16
theorem LV_give {nH nN nF b : Nat} (hb : b < 5) {m m2 : Nat} (h1 : m < nN) (h2 : m2 < nN) : LV nH nN nF (nI 9) (nI b) (nI 1) (nI m) (nI m2) :=
  ⟨9, b, 1, rfl, by omega, rfl, by omega, rfl, Or.inr (Or.inl ⟨rfl, by omega, ⟨m, h1, rfl⟩, Or.inr ⟨hb, m2, h2, rfl⟩⟩)⟩
theorem isBr_eq {b : Nat} (hb : b < 5) : f_X5_isBrowser (nI b) = nI 1 := by
  unfold f_X5_isBrowser
  simp (disch := omega) only [pn_lt0, pn_le, pn_lt, if_false, show b < 5 from hb, show ¬ 5 ≤ b by omega, if_true]
set_option maxRecDepth 4000 in
theorem ask_yes {C proved w Dg : Nat → Int32} {d : Bool} {nH nN nF nL t b h : Nat} {r z : Int32} (R : WR C w nH nN nF nL t) (hb : b < 5) (hh : h < nH) (ok : askOk C proved nN nF b h) :
    f_X4_askComes w Dg C proved d (nI b) (nI h) r z = (postW C (askN C w nN nF b h r (proved b)) nL 1 9 b (nI nN) (nI (nN + 1)) z, cD d Dg nL, nI 1) ∧ s_X4_askComes w Dg C proved d (nI b) (nI h) r z := by
  obtain ⟨o1, o2, o3, o4, o5⟩ := ok
  have hH := R.1.2
  have R1 := WR_bF (p := nI b) R o5
  have h1 := R.2.1.1
  have h2 := R.2.2.1.1
  have eb : f_X4_beginFamily w (nI b) = (bF w nF (nI b), nI nF) := by
    unfold f_X4_beginFamily
    simp (disch := omega) only [pn_cl, h2, pn_lt0, pn_lt, o5, if_false, if_true, nI_add, pk_mul]
    rfl
  have sb : s_X4_beginFamily w (nI b) := by
    simp (disch := omega) only [s_X4_beginFamily, pn_cl, h2, pn_lt0, pn_lt, o5, nI_add, pk_mul, pn_in, not_false_eq_true, true_implies, and_true]
  have R3 := WR_askN (b := b) (h := h) (r := r) (pr := proved b) R o4 o5 hh
  have V := LV_give (nH := nH) (nN := nN + 2) (nF := nF + 1) hb (m := nN) (m2 := nN + 1) (by omega) (by omega)
  have ep := postW_eq (C := C) (Dg := Dg) (d := d) (z := z) R3.2.1.1 R3.2.1.2 R3.2.2.2.1.1 R3.2.2.2.1.2 V (by omega) (by omega) (by omega)
  have sp := s_post (C := C) (Dg := Dg) (d := d) (z := z) R3.2.1.1 R3.2.1.2 R3.2.2.2.1.1 R3.2.2.2.1.2 V (by omega) (by omega) (by omega)
  -- the first note
  have u0 : bF w nF (nI b) 0 = w 0 := bF_at (by omega) (by omega) o5
  have a1 := add_eq (w := upd (upd (upd (upd (upd (bF w nF (nI b)) (142 + nN * 11 + 1) (nI b)) (142 + nN * 11 + 2) (nI h)) (142 + nN * 11 + 3) r) (142 + nN * 11 + 6) (nI nF)) (142 + nN * 11 + 7) (proved b)) (n := nN) (x := nN) (kd := nI 0) (till := w 0 + C 0) (by rw [pu_n _ _ (by omega), pu_n _ _ (by omega), pu_n _ _ (by omega), pu_n _ _ (by omega), pu_n _ _ (by omega)]; exact R1.2.1.1) (by omega) (Nat.le_refl _)
  have ea1 : aW (upd (upd (upd (upd (upd (bF w nF (nI b)) (142 + nN * 11 + 1) (nI b)) (142 + nN * 11 + 2) (nI h)) (142 + nN * 11 + 3) r) (142 + nN * 11 + 6) (nI nF)) (142 + nN * 11 + 7) (proved b)) nN (n11 (nI 0) (nI b) (nI h) r (w 0) (w 0 + C 0) (nI nF) (proved b) (-1) (nI 0) (nI 0)) = aW (bF w nF (nI b)) nN (n11 (nI 0) (nI b) (nI h) r (w 0) (w 0 + C 0) (nI nF) (proved b) (-1) (nI 0) (nI 0)) :=
    aW_over (fun i hi => by rw [pu_n _ _ (by omega), pu_n _ _ (by omega), pu_n _ _ (by omega), pu_n _ _ (by omega), pu_n _ _ (by omega)])
  simp (disch := omega) only [pu_s, pu_n, u0] at a1
  rw [ea1] at a1
  have a2 := add_eq (w := aW (bF w nF (nI b)) nN (n11 (nI 0) (nI b) (nI h) r (w 0) (w 0 + C 0) (nI nF) (proved b) (-1) (nI 0) (nI 0))) (n := nN + 1) (x := nN) (kd := nI 1) (till := w 0 + C 1) aW_1 (by omega) (by omega)
  have v0 : aW (bF w nF (nI b)) nN (n11 (nI 0) (nI b) (nI h) r (w 0) (w 0 + C 0) (nI nF) (proved b) (-1) (nI 0) (nI 0)) 0 = w 0 := (aW_at (by omega) (by omega)).trans u0
  simp (disch := omega) only [aW_new, v0] at a2
  simp only [show n11 (nI 0) (nI b) (nI h) r (w 0) (w 0 + C 0) (nI nF) (proved b) (-1) (nI 0) (nI 0) 1 = nI b from rfl, show n11 (nI 0) (nI b) (nI h) r (w 0) (w 0 + C 0) (nI nF) (proved b) (-1) (nI 0) (nI 0) 2 = nI h from rfl, show n11 (nI 0) (nI b) (nI h) r (w 0) (w 0 + C 0) (nI nF) (proved b) (-1) (nI 0) (nI 0) 3 = r from rfl, show n11 (nI 0) (nI b) (nI h) r (w 0) (w 0 + C 0) (nI nF) (proved b) (-1) (nI 0) (nI 0) 6 = nI nF from rfl, show n11 (nI 0) (nI b) (nI h) r (w 0) (w 0 + C 0) (nI nF) (proved b) (-1) (nI 0) (nI 0) 7 = proved b from rfl] at a2
  constructor
  · unfold f_X4_askComes f_X4_askComes_28
    simp (disch := omega) only [pn_cl, h1, h2, nI_add, pn_lt, pn_le, show ¬ 32 < nN + 2 by omega, show ¬ 16 ≤ nF by omega, if_false]
    unfold f_X4_askComes_29
    simp (disch := omega) only [isBr_eq hb, isIn_eq C (show h < 4 by omega), o2, if_true, o1, if_false, n1z, pn_cl, o3, eb]
    unfold f_X4_askComes_90
    simp (disch := omega) only [pn_cl, R1.2.1.1, nI_add, pk_mul]
    simp (disch := omega) only [pu_n, u0]
    rw [a1.1]
    unfold f_X4_askComes_186
    simp (disch := omega) only [pn_cl, v0]
    rw [a2.1]
    unfold f_X4_askComes_208
    simp only [nI_add]
    have ep' := ep
    unfold askN at ep'
    rw [ep']
    rfl
  · unfold s_X4_askComes
    simp (disch := omega) only [pn_cl, h1, h2, nI_add, pn_lt, pn_le, show ¬ 32 < nN + 2 by omega, show ¬ 16 ≤ nF by omega, false_implies, true_and, not_false_eq_true, true_implies]
    unfold s_X4_askComes_29
    simp (disch := omega) only [isBr_eq hb, isIn_eq C (show h < 4 by omega), o2, if_true, o1, n1z, pn_cl, o3, eb, sb, pn_in, not_false_eq_true, true_implies, true_and]
    unfold s_X4_askComes_90
    simp (disch := omega) only [pn_cl, R1.2.1.1, nI_add, pk_mul, pn_in, true_and]
    simp (disch := omega) only [pu_n, u0]
    rw [a1.1]
    refine ⟨a1.2, ?_⟩
    unfold s_X4_askComes_186
    simp (disch := omega) only [pn_cl, v0]
    rw [a2.1]
    refine ⟨a2.2, ?_⟩
    unfold s_X4_askComes_208
    simp only [nI_add]
    exact sp
theorem ask_no {C proved w Dg : Nat → Int32} {d : Bool} {nH nN nF nL t b h : Nat} {r z : Int32} (R : WR C w nH nN nF nL t) (hb : b < 5) (hh : h < nH) (ok : ¬ askOk C proved nN nF b h) :
    f_X4_askComes w Dg C proved d (nI b) (nI h) r z = (w, Dg, nI 0) ∧ s_X4_askComes w Dg C proved d (nI b) (nI h) r z := by
  have hH := R.1.2
  have hN := R.2.1.2
  have hF := R.2.2.1.2
  have h1 := R.2.1.1
  have h2 := R.2.2.1.1
  unfold askOk at ok
  simp (disch := omega) only [f_X4_askComes, s_X4_askComes, f_X4_askComes_28, s_X4_askComes_28, f_X4_askComes_29, s_X4_askComes_29, pn_cl, h1, h2, nI_add, pn_lt, pn_le, isBr_eq hb, isIn_eq C (show h < 4 by omega), pn_in]
  by_cases a1 : 32 < nN + 2
  · by_cases a2 : C 9 = 0 <;> by_cases a3 : bt (C 11) h = true <;> simp [a1, a2, a3, nI_0, n1z]
  · by_cases a4 : 16 ≤ nF
    · by_cases a2 : C 9 = 0 <;> by_cases a3 : bt (C 11) h = true <;> simp [a1, a2, a3, a4, nI_0, n1z]
    · by_cases a2 : C 9 = 0
      · simp [a1, a4, a2]
      · by_cases a3 : bt (C 11) h = true
        · by_cases a5 : proved b = (-1)
          · simp [a1, a2, a3, a4, a5, n1z]
          · exact absurd ⟨a2, a3, a5, by omega, by omega⟩ ok
        · simp [a1, a2, a3, a4, nI_0, n1z]
theorem eV_in0 (C off dear proved w : Nat → Int32) {h : Nat} (hh : h < 4) : (eV C off dear proved w (16 + 7 * h + 3) = 0) = (¬ bt (C 11) h = true) := by
  rw [eV_h C off dear proved w hh (by omega)]
  show (bt1 (C 11) h = 0) = _
  rw [bt1_v _ (by omega)]
  by_cases q : bt (C 11) h = true
  · simp [q, n1z]
  · simp [q, nI_0]
theorem eV_pr (C off dear proved w : Nat → Int32) {b : Nat} (hb : b < 5) : eV C off dear proved w (44 + 3 * b + 0) = proved b := by
  rw [eV_b C off dear proved w hb (by omega)]; rfl
theorem aV_at {v g : Nat → Int32} {n i : Nat} (h : i ≠ 12) (h2 : i < 59 + 11 * n) : aV v n g i = v i := by
  unfold aV; rw [pu_n _ _ h, blk_out (by omega)]
theorem aV_12 {v g : Nat → Int32} {n : Nat} : aV v n g 12 = nI (n + 1) := pu_s _ _ _
theorem bV_at {v : Nat → Int32} {f i : Nat} {p : Int32} (h : i ≠ 13) (h2 : i < 411 + 2 * f ∨ 443 ≤ i) (hf : f < 16) : bV v f p i = v i := by
  unfold bV; rw [pu_n _ _ h, pu_n _ _ (by omega), pu_n _ _ (by omega)]
def askV (v : Nat → Int32) (nN nF b h : Nat) (r pr : Int32) : Nat → Int32 :=
  aV (aV (bV v nF (nI b)) nN (n11 (nI 0) (nI b) (nI h) r (v 0) (v 0 + v 4) (nI nF) pr (-1) (nI 0) (nI 0))) (nN + 1) (n11 (nI 1) (nI b) (nI h) r (v 0) (v 0 + v 5) (nI nF) pr (-1) (nI 0) (nI 0))
theorem eV_askN (C off dear proved w : Nat → Int32) {nH nN nF nL t b h : Nat} {r pr : Int32} (R : WR C w nH nN nF nL t) (hN : nN + 2 ≤ 32) (hF : nF < 16) : eV C off dear proved (askN C w nN nF b h r pr) = askV (eV C off dear proved w) nN nF b h r pr := by
  unfold askN askV
  rw [eV_aW C off dear proved _ aW_1 (by omega), eV_aW C off dear proved _ (by rw [bF_at (by omega) (by omega) hF]; exact R.2.1.1) (by omega), eV_bF C off dear proved w R.2.2.1.1 hF]
  rfl
theorem posts_eV (C off dear proved : Nat → Int32) {w F : Nat → Int32} {nH nN nF nL t k a b : Nat} {x y z : Int32} (R : WR C w nH nN nF nL t) (V : LV nH nN nF (nI a) (nI b) (nI k) x y) (ha : a < 10) (hb : b < 10) (hk : k < 6) : f_X6_posts (eV C off dear proved w) F (nI a) (nI b) (nI k) x y z = (eV C off dear proved (postW C w nL k a b x y z), cF F nL) ∧ s_X6_posts (eV C off dear proved w) F (nI a) (nI b) (nI k) x y z := by
  have h14 : eV C off dear proved w 14 = nI nL := by rw [eV_14]; exact R.2.2.2.1.1
  refine ⟨?_, s_posts R.2.1.2 h14 R.2.2.2.1.2 V ha hb hk⟩
  rw [postV_eq R.2.1.2 h14 R.2.2.2.1.2 V ha hb hk, eV_post C off dear proved w R.2.1.1 R.2.1.2 R.2.2.2.1.1 R.2.2.2.1.2 V ha hb hk]
  rfl
set_option maxRecDepth 4000 in
theorem asked_yes (C off dear proved : Nat → Int32) {w F : Nat → Int32} {nH nN nF nL t b h : Nat} {r z : Int32} (R : WR C w nH nN nF nL t) (hb : b < 5) (hh : h < nH) (ok : askOk C proved nN nF b h) :
    f_X6_asked (eV C off dear proved w) F (nI b) (nI h) r z = (eV C off dear proved (postW C (askN C w nN nF b h r (proved b)) nL 1 9 b (nI nN) (nI (nN + 1)) z), cF F nL, nI 1) ∧ s_X6_asked (eV C off dear proved w) F (nI b) (nI h) r z := by
  obtain ⟨o1, o2, o3, o4, o5⟩ := ok
  have hH := R.1.2
  have R3 := WR_askN (b := b) (h := h) (r := r) (pr := proved b) R o4 o5 hh
  have V := LV_give (nH := nH) (nN := nN + 2) (nF := nF + 1) hb (m := nN) (m2 := nN + 1) (by omega) (by omega)
  have ep := posts_eV C off dear proved (F := F) (z := z) R3 V (by omega) (by omega) (by omega)
  rw [eV_askN C off dear proved w R o4 o5] at ep
  have v12 : eV C off dear proved w 12 = nI nN := R.2.1.1
  have v13 : eV C off dear proved w 13 = nI nF := R.2.2.1.1
  have v1 : ¬ eV C off dear proved w 1 = 0 := o1
  have vp := eV_pr C off dear proved w hb
  have vh : ¬ eV C off dear proved w (16 + 7 * h + 3) = 0 := by rw [eV_in0 C off dear proved w (by omega)]; exact fun q => q o2
  generalize eV C off dear proved w = v at ep v12 v13 v1 vp vh ⊢
  have g1 := given_eq (v := bV v nF (nI b)) (n := nN) (kd := nI 0) (p := nI b) (h := nI h) (r := r) (till := v 0 + v 4) (f := nI nF) (pr := proved b) (fr := -1) (by rw [bV_at (by omega) (by omega) o5]; exact v12) (by omega)
  rw [bV_at (by omega) (by omega) o5] at g1
  have g2 := given_eq (v := aV (bV v nF (nI b)) nN (n11 (nI 0) (nI b) (nI h) r (v 0) (v 0 + v 4) (nI nF) (proved b) (-1) (nI 0) (nI 0))) (n := nN + 1) (kd := nI 1) (p := nI b) (h := nI h) (r := r) (till := v 0 + v 5) (f := nI nF) (pr := proved b) (fr := -1) aV_12 (by omega)
  have w0 : ∀ i, i < 12 → aV (bV v nF (nI b)) nN (n11 (nI 0) (nI b) (nI h) r (v 0) (v 0 + v 4) (nI nF) (proved b) (-1) (nI 0) (nI 0)) i = v i := fun i hi => by rw [aV_at (by omega) (by omega), bV_at (by omega) (by omega) o5]
  rw [w0 0 (by omega)] at g2
  have eb : upd (upd (upd v (411 + 2 * nF) (nI b)) (411 + 2 * nF + 1) (-1)) 13 (nI (nF + 1)) = bV v nF (nI b) := rfl
  have pv : bV v nF (nI b) (44 + 3 * b + 0) = proved b := by rw [bV_at (by omega) (by omega) o5]; exact vp
  have b0 : bV v nF (nI b) 0 = v 0 := bV_at (by omega) (by omega) o5
  have b4 : bV v nF (nI b) 4 = v 4 := bV_at (by omega) (by omega) o5
  have ev : askV v nN nF b h r (proved b) = aV (aV (bV v nF (nI b)) nN (n11 (nI 0) (nI b) (nI h) r (v 0) (v 0 + v 4) (nI nF) (proved b) (-1) (nI 0) (nI 0))) (nN + 1) (n11 (nI 1) (nI b) (nI h) r (v 0) (v 0 + v 5) (nI nF) (proved b) (-1) (nI 0) (nI 0)) := rfl
  rw [ev] at ep
  have hn16 : ¬ nF = 16 := by omega
  constructor
  · unfold f_X6_asked
    simp (disch := omega) only [pn_cl, f_X6_browser, f_X6_house, f_X6_family, v12, v13, nI_add, pk_mul, v1, vp, o3, vh, pn_lt, pn_eq, hn16, show ¬ 30 < nN by omega, if_false]
    simp (disch := omega) only [pu_n, v13, nI_add, vp]
    rw [eb, g1.1]
    unfold f_X6_asked_113
    simp (disch := omega) only [pn_cl, w0]
    rw [g2.1]
    unfold f_X6_asked_137
    rw [ep.1]
  · unfold s_X6_asked
    simp (disch := omega) only [pn_cl, f_X6_browser, f_X6_house, f_X6_family, v12, v13, nI_add, pk_mul, v1, vp, o3, vh, pn_lt, pn_eq, hn16, show ¬ 30 < nN by omega, not_false_eq_true, true_implies, pn_in, true_and]
    simp (disch := omega) only [pu_n, v13, nI_add, vp]
    rw [eb, g1.1]
    refine ⟨g1.2, ?_⟩
    unfold s_X6_asked_113
    simp (disch := omega) only [pn_cl, w0]
    rw [g2.1]
    refine ⟨g2.2, ?_⟩
    unfold s_X6_asked_137
    exact ep.2
theorem asked_no (C off dear proved : Nat → Int32) {w F : Nat → Int32} {nH nN nF nL t b h : Nat} {r z : Int32} (R : WR C w nH nN nF nL t) (hb : b < 5) (hh : h < nH) (ok : ¬ askOk C proved nN nF b h) :
    f_X6_asked (eV C off dear proved w) F (nI b) (nI h) r z = (eV C off dear proved w, F, nI 0) ∧ s_X6_asked (eV C off dear proved w) F (nI b) (nI h) r z := by
  have hH := R.1.2
  have hN := R.2.1.2
  have hF := R.2.2.1.2
  unfold askOk at ok
  have v12 : eV C off dear proved w 12 = nI nN := R.2.1.1
  have v13 : eV C off dear proved w 13 = nI nF := R.2.2.1.1
  have v1 : (eV C off dear proved w 1 = 0) = (C 9 = 0) := rfl
  have vp := eV_pr C off dear proved w hb
  have vh := eV_in0 C off dear proved w (show h < 4 by omega)
  generalize eV C off dear proved w = v at v12 v13 v1 vp vh ⊢
  unfold f_X6_asked s_X6_asked
  simp (disch := omega) only [pn_cl, f_X6_browser, f_X6_house, f_X6_family, v12, v13, nI_add, pk_mul, v1, vp, vh, pn_lt, pn_eq, pn_in]
  by_cases a2 : C 9 = 0
  · simp only [a2, if_true, not_true_eq_false, false_implies, and_self]
  by_cases a5 : proved b = (-1)
  · simp only [a2, a5, if_true, if_false, not_true_eq_false, not_false_eq_true, false_implies, true_implies, and_self]
  by_cases a3 : bt (C 11) h = true
  · by_cases a1 : 30 < nN
    · simp only [a1, a2, a3, a5, if_true, if_false, not_true_eq_false, not_false_eq_true, false_implies, true_implies, and_self]
    · by_cases a4 : nF = 16
      · simp only [a1, a2, a3, a4, a5, if_true, if_false, not_true_eq_false, not_false_eq_true, false_implies, true_implies, and_self]
      · exact absurd ⟨a2, a3, a5, by omega, by omega⟩ ok
  · simp only [a2, a3, a5, if_true, if_false, not_true_eq_false, not_false_eq_true, false_implies, true_implies, and_self, Bool.false_eq_true]
