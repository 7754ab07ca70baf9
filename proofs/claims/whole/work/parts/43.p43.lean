theorem WR_cg {C w w' : Nat → Int32} {nH nN nF nL t : Nat} (R : WR C w nH nN nF nL t) (h0 : ∀ i, i < 4 → w' i = w i) (hn : ∀ x j, x < nN → j = 2 ∨ j = 6 → w' (142 + x * 11 + j) = w (142 + x * 11 + j)) (hl : ∀ i, 58 ≤ i → i < 142 → w' i = w i) : WR C w' nH nN nF nL t := by
  obtain ⟨r1, r2, r3, r4, r5, r6, r7, r8, r9, r10⟩ := R
  have h12 := r4.2
  refine ⟨r1, ⟨by rw [h0 _ (by omega)]; exact r2.1, r2.2⟩, ⟨by rw [h0 _ (by omega)]; exact r3.1, r3.2⟩, ⟨by rw [h0 _ (by omega)]; exact r4.1, r4.2⟩, ⟨by rw [h0 _ (by omega)]; exact r5.1, r5.2⟩, fun q hq => ?_, fun l hl2 => ?_, fun l m p q hlm hm hp hq => ?_, r9, r10⟩
  · rw [hn _ _ hq (Or.inl rfl), hn _ _ hq (Or.inr rfl)]; exact r6 q hq
  · rw [hl _ (by omega) (by omega), hl _ (by omega) (by omega), hl _ (by omega) (by omega), hl _ (by omega) (by omega), hl _ (by omega) (by omega), hl _ (by omega) (by omega)]; exact r7 l hl2
  · rw [hl _ (by omega) (by omega)] at hp hq; exact r8 l m p q hlm hm hp hq
/-- only opened houses hold notes -/
def HV (w : Nat → Int32) (nH nN : Nat) : Prop := ∀ x h, x < nN → nH ≤ h → h < 4 → bt (w (142 + x * 11 + 10)) (5 + h) = false
/-- letters from n0 on are of this tick -/
def LT (w : Nat → Int32) (nL n0 t : Nat) : Prop := ∀ m, n0 ≤ m → m < nL → w (58 + m * 7 + 6) = nI t
/-- a step of the world that keeps it sound -/
def WX (C w w' : Nat → Int32) (nH nN nF nL t nN' nF' nL' : Nat) : Prop := WR C w' nH nN' nF' nL' t ∧ (HV w nH nN → HV w' nH nN') ∧ nN ≤ nN' ∧ nF ≤ nF' ∧ (∀ n0, LT w nL n0 t → LT w' nL' n0 t)
theorem WX.rf {C w : Nat → Int32} {nH nN nF nL t : Nat} (R : WR C w nH nN nF nL t) : WX C w w nH nN nF nL t nN nF nL := ⟨R, id, Nat.le_refl _, Nat.le_refl _, fun _ h => h⟩
theorem WX.tr {C w w1 w2 : Nat → Int32} {nH nN nF nL t n1 f1 l1 n2 f2 l2 : Nat} (a : WX C w w1 nH nN nF nL t n1 f1 l1) (b : WX C w1 w2 nH n1 f1 l1 t n2 f2 l2) : WX C w w2 nH nN nF nL t n2 f2 l2 :=
  ⟨b.1, fun h => b.2.1 (a.2.1 h), Nat.le_trans a.2.2.1 b.2.2.1, Nat.le_trans a.2.2.2.1 b.2.2.2.1, fun n h => b.2.2.2.2 n (a.2.2.2.2 n h)⟩
/-- a step that changes neither letters nor counts -/
theorem WX_cg {C w w' : Nat → Int32} {nH nN nF nL t : Nat} (R : WR C w nH nN nF nL t) (h0 : ∀ i, i < 4 → w' i = w i) (hn : ∀ x j, x < nN → j = 2 ∨ j = 6 → w' (142 + x * 11 + j) = w (142 + x * 11 + j)) (hl : ∀ i, 58 ≤ i → i < 142 → w' i = w i) (hv : HV w nH nN → HV w' nH nN) : WX C w w' nH nN nF nL t nN nF nL :=
  ⟨WR_cg R h0 hn hl, hv, Nat.le_refl _, Nat.le_refl _, fun n h m h1 h2 => by have := R.2.2.2.1.2; rw [hl _ (by omega) (by omega)]; exact h m h1 h2⟩
theorem rdW_hv {u : Nat → Int32} {k a b i h : Nat} {x y z : Int32} (hi : 142 ≤ i) (hh : h < 4) : bt (rdW u k a b x y z i) (5 + h) = bt (u i) (5 + h) := by
  have b16 : bt (nI 16) (5 + h) = false := by
    have : ∀ h, h < 4 → bt (nI 16) (5 + h) = false := by decide
    exact this h hh
  have key : ∀ (f : Nat → Int32) (m : Nat), bt (upd f (142 + m * 11 + 10) (f (142 + m * 11 + 10) ||| nI 16) i) (5 + h) = bt (f i) (5 + h) := fun f m => by
    by_cases e : i = 142 + m * 11 + 10
    · subst e; rw [pu_s, b_or, b16, Bool.or_false]
    · rw [pu_n _ _ e]
  unfold rdW
  split
  · rfl
  · dsimp only
    have e3 : ∀ c : Prop, ∀ [Decidable c], ∀ (f g : Nat → Int32), bt (f i) (5 + h) = bt (u i) (5 + h) → bt (g i) (5 + h) = bt (u i) (5 + h) → bt ((if c then f else g) i) (5 + h) = bt (u i) (5 + h) := fun c _ f g hf hg => by split <;> assumption
    have w1 := e3 (k = 0) u (upd u (142 + x.toNatClampNeg * 11 + 10) (u (142 + x.toNatClampNeg * 11 + 10) ||| nI 16)) rfl (key _ _)
    generalize (if k = 0 then u else upd u (142 + x.toNatClampNeg * 11 + 10) (u (142 + x.toNatClampNeg * 11 + 10) ||| nI 16)) = w1' at w1 ⊢
    have w2 := e3 (k = 1 ∧ ¬ y = (-1)) (upd w1' (142 + y.toNatClampNeg * 11 + 10) (w1' (142 + y.toNatClampNeg * 11 + 10) ||| nI 16)) w1' ((key _ _).trans w1) w1
    generalize (if k = 1 ∧ ¬ y = (-1) then upd w1' (142 + y.toNatClampNeg * 11 + 10) (w1' (142 + y.toNatClampNeg * 11 + 10) ||| nI 16) else w1') = w2' at w2 ⊢
    generalize (if k = 1 then b else if k = 0 ∨ k = 3 then a else 9) = o
    by_cases ho : o < 4
    · rw [if_pos ho, pu_n _ _ (by omega)]; exact w2
    · rw [if_neg ho]; exact w2
theorem postW_hv {C w : Nat → Int32} {n k a b i h : Nat} {x y z : Int32} (hn : n ≤ 12) (hi : 142 ≤ i) (hh : h < 4) : bt (postW C w n k a b x y z i) (5 + h) = bt (w i) (5 + h) := by
  unfold postW
  split
  · rfl
  · split
    · rw [rdW_hv hi hh, pL_lo (by omega) (by omega) (by omega)]
    · rw [pL_lo (by omega) (by omega) (by omega)]
theorem WX_post {C w : Nat → Int32} {nH nN nF nL t k a b : Nat} {x y z : Int32} (R : WR C w nH nN nF nL t) (V : LV nH nN nF (nI a) (nI b) (nI k) x y) : WX C w (postW C w nL k a b x y z) nH nN nF nL t nN nF (if nL = 12 then 12 else nL + 1) := by
  have hn := R.2.2.2.1.2
  refine ⟨WR_post R V, fun H x h hx h1 h2 => ?_, Nat.le_refl _, Nat.le_refl _, fun n0 H m h1 h2 => ?_⟩
  · rw [postW_hv hn (by omega) h2]; exact H x h hx h1 h2
  · by_cases e : nL = 12
    · rw [if_pos e] at h2
      rw [postW_at hn (by omega)]; exact H m h1 (by omega)
    · rw [if_neg e] at h2
      rcases Nat.lt_or_ge m nL with z | z
      · rw [postW_at hn (by omega)]; exact H m h1 z
      · have : m = nL := by omega
        subst this
        rw [postW_new (by omega) (by omega)]
        exact R.2.2.2.2.1.1
theorem WX_st {C w : Nat → Int32} {nH nN nF nL t f h : Nat} {q : Bool} (R : WR C w nH nN nF nL t) (hf : f < nF) (hh : h < 4) : ∃ nL', WX C w (stW C q f h w) nH nN nF nL t nN nF nL' := by
  unfold stW
  split
  · rename_i c
    rw [lc_R R]
    have hH : h < nH := by
      rcases Nat.lt_or_ge h nH with z | z
      · exact z
      · have := R.2.2.2.2.2.2.2.2.1 h z hh
        rw [this] at c; exact absurd c.2 (by decide)
    exact ⟨_, WX_post R (LV_over hH R.1.2 hf)⟩
  · exact ⟨nL, WX.rf R⟩
theorem WX_fam {C w : Nat → Int32} {nH nN nF nL t f j : Nat} {y : Int32} (R : WR C w nH nN nF nL t) (hf : f < 16) (hj : j < 2) : WX C w (upd w (26 + f * 2 + j) y) nH nN nF nL t nN nF nL :=
  WX_cg R (fun i hi => pu_n _ _ (by omega)) (fun x j hx hj => pu_n _ _ (by omega)) (fun i h1 h2 => pu_n _ _ (by omega)) (fun H x h hx h1 h2 => by rw [pu_n _ _ (by omega)]; exact H x h hx h1 h2)
theorem WX_end {C w Dg : Nat → Int32} {d : Bool} {nH nN nF nL t f : Nat} (R : WR C w nH nN nF nL t) (hf : f < nF) : ∃ nL', WX C w (endW C w Dg d nN f).1 nH nN nF nL t nN nF nL' := by
  have hF := R.2.2.1.2
  have R0 := WX_fam (f := f) (j := 1) (y := w 0) R (by omega) (by omega)
  obtain ⟨n1, R1⟩ := WX_st (q := qN w nN f 0) R0.1 hf (h := 0) (by omega)
  obtain ⟨n2, R2⟩ := WX_st (q := qN w nN f 1) R1.1 hf (h := 1) (by omega)
  obtain ⟨n3, R3⟩ := WX_st (q := qN w nN f 2) R2.1 hf (h := 2) (by omega)
  obtain ⟨n4, R4⟩ := WX_st (q := qN w nN f 3) R3.1 hf (h := 3) (by omega)
  exact ⟨n4, R0.tr (R1.tr (R2.tr (R3.tr R4)))⟩
theorem WX_bF {C w : Nat → Int32} {nH nN nF nL t : Nat} {p : Int32} (R : WR C w nH nN nF nL t) (hf : nF < 16) : WX C w (bF w nF p) nH nN nF nL t nN (nF + 1) nL :=
  ⟨WR_bF R hf, fun H x h hx h1 h2 => by rw [bF_at (by omega) (by omega) hf]; exact H x h hx h1 h2, Nat.le_refl _, by omega, fun n H m h1 h2 => by rw [bF_at (by omega) (by omega) hf]; exact H m h1 h2⟩
theorem WX_aW {C w g : Nat → Int32} {nH nN nF nL t : Nat} (R : WR C w nH nN nF nL t) (hn : nN < 32) (g2 : ∃ h, h < nH ∧ g 2 = nI h) (g6 : ∃ f, f < nF ∧ g 6 = nI f) (g10 : g 10 = nI 0) : WX C w (aW w nN g) nH nN nF nL t (nN + 1) nF nL := by
  have h12 := R.2.2.2.1.2
  refine ⟨WR_aW R hn g2 g6, fun H x h hx h1 h2 => ?_, by omega, Nat.le_refl _, fun n H m h1 h2 => by rw [aW_at (by omega) (by omega)]; exact H m h1 h2⟩
  rcases Nat.lt_or_ge x nN with z | z
  · rw [aW_at (by omega) (by omega)]; exact H x h z h1 h2
  · have : x = nN := by omega
    subst this
    rw [aW_new (by omega), g10, b_n0, b_0]
theorem WX_askN {C w : Nat → Int32} {nH nN nF nL t b h : Nat} {r pr : Int32} (R : WR C w nH nN nF nL t) (hN : nN + 2 ≤ 32) (hF : nF < 16) (hh : h < nH) : WX C w (askN C w nN nF b h r pr) nH nN nF nL t (nN + 2) (nF + 1) nL := by
  have a := WX_bF (p := nI b) R hF
  have b1 := WX_aW (g := n11 (nI 0) (nI b) (nI h) r (w 0) (w 0 + C 0) (nI nF) pr (-1) (nI 0) (nI 0)) a.1 (by omega) ⟨h, hh, rfl⟩ ⟨nF, by omega, rfl⟩ rfl
  have c := WX_aW (g := n11 (nI 1) (nI b) (nI h) r (w 0) (w 0 + C 1) (nI nF) pr (-1) (nI 0) (nI 0)) b1.1 (by omega) ⟨h, hh, rfl⟩ ⟨nF, by omega, rfl⟩ rfl
  exact a.tr (b1.tr c)
/-- a holder gets a note -/
def hvW (w : Nat → Int32) (x b : Nat) : Nat → Int32 := upd w (142 + x * 11 + 10) (w (142 + x * 11 + 10) ||| (nI 1 <<< (nI b &&& 31)))
def hvV (v : Nat → Int32) (x b : Nat) : Nat → Int32 := upd v (59 + 11 * x + 10) (v (59 + 11 * x + 10) ||| (nI 1 <<< (nI b &&& 31)))
theorem eV_hv (C off dear proved : Nat → Int32) {w : Nat → Int32} {nN x b : Nat} (h1 : w 1 = nI nN) (hN : nN ≤ 32) (hx : x < nN) : eV C off dear proved (hvW w x b) = hvV (eV C off dear proved w) x b := by
  unfold hvW hvV
  rw [eV_uN C off dear proved w _ h1 hN hx (by omega), eV_n C off dear proved w h1 hN hx (by omega)]
theorem hvW_at {w : Nat → Int32} {x b i : Nat} (h : i ≠ 142 + x * 11 + 10) : hvW w x b i = w i := pu_n _ _ h
theorem WX_hv {C w : Nat → Int32} {nH nN nF nL t x b : Nat} (R : WR C w nH nN nF nL t) (hb : b < 5 + nH) : WX C w (hvW w x b) nH nN nF nL t nN nF nL := by
  have hH := R.1.2
  refine WX_cg R (fun i hi => hvW_at (by omega)) (fun y j hy hj => hvW_at (by omega)) (fun i h1 h2 => hvW_at (by omega)) (fun H y h hy h1 h2 => ?_)
  by_cases e : y = x
  · subst e
    unfold hvW
    rw [pu_s, b_or, b_sh1 b (by omega) _ (by omega), H y h hy h1 h2]
    have : ¬ (5 + h = b) := by omega
    simp [this]
  · rw [hvW_at (by omega)]; exact H y h hy h1 h2
theorem isNote_eq {w : Nat → Int32} {nN x : Nat} (h1 : w 1 = nI nN) (hN : nN ≤ 32) (hx : x < 2 ^ 31) : f_X4_isNote w (nI x) = if x < nN then nI 1 else nI 0 := by
  unfold f_X4_isNote
  by_cases h : x < nN
  · simp (disch := omega) only [pn_cl, h1, pn_lt0, pn_le, show ¬ nN ≤ x by omega, show ¬ 32 ≤ x by omega, if_false, h, if_true]
  · simp (disch := omega) only [pn_cl, h1, pn_lt0, pn_le, show nN ≤ x by omega, if_false, h, if_true]
theorem letHave_eq {w : Nat → Int32} {nN x b : Nat} (h1 : w 1 = nI nN) (hN : nN ≤ 32) (hx : x < nN) (hb : b < 9) : f_X4_letHave w (nI b) (nI x) = hvW w x b ∧ s_X4_letHave w (nI b) (nI x) := by
  unfold f_X4_letHave s_X4_letHave
  rw [isNote_eq h1 hN (by omega), if_pos hx]
  simp (disch := omega) only [pn_lt0, pn_le, show ¬ 9 ≤ b by omega, n1z, if_false, pn_cl, nI_add, pk_mul, pn_in, and_self, implies_true, and_true]
  rfl
theorem gets_eq {v : Nat → Int32} {x b : Nat} (hx : x < 32) : f_X6_gets v (nI b) (nI x) = hvV v x b ∧ s_X6_gets v (nI b) (nI x) := by
  unfold f_X6_gets s_X6_gets f_X6_note
  simp (disch := omega) only [pn_lt0, if_false, pn_cl, nI_add, pk_mul, pn_in, and_self, implies_true, and_true]
  rfl
theorem noteWord_eq {w : Nat → Int32} {nN x j : Nat} (h1 : w 1 = nI nN) (hN : nN ≤ 32) (hx : x < nN) (hj : j < 11) : f_X4_noteWord w (nI x) (nI j) = w (142 + x * 11 + j) ∧ s_X4_noteWord w (nI x) (nI j) := by
  simp (disch := omega) only [f_X4_noteWord_23, f_X4_noteWord_22, f_X4_noteWord, s_X4_noteWord_23, s_X4_noteWord_22, s_X4_noteWord, isNote_eq h1 hN (show x < 2 ^ 31 by omega), hx, if_true, n1z, if_false, pn_lt0, pn_le, show ¬ 11 ≤ j by omega, pn_cl, nI_add, pk_mul, pn_in, implies_true, and_true, false_implies]
theorem on_eq (C : Nat → Int32) {k : Nat} (hk : k < 32) : f_X2_on C (nI k) = if bt (C 7) k = true then nI 1 else nI 0 := by
  unfold f_X2_on
  simp (disch := omega) only [bit_1]
theorem isOn_eq (v : Nat → Int32) {k : Nat} (hk : k < 32) : f_X6_isOn v (nI k) = if bt (v 3) k = true then nI 1 else nI 0 := by
  unfold f_X6_isOn
  simp (disch := omega) only [pn_cl, bit_1]
theorem if10 {c : Prop} [Decidable c] : ((if c then nI 1 else nI 0) = 0) = ¬ c := by
  by_cases h : c
  · simp [h, n1z]
  · simp [h, nI_0]
theorem if11 {c : Prop} [Decidable c] : ((if c then nI 1 else nI 0) = nI 1) = c := by
  by_cases h : c
  · simp [h]
  · simp [h, n10]
