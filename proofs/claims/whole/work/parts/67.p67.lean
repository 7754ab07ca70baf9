theorem in_yes {m a b : Nat} (h1 : a ≤ m) (h2 : m ≤ b) (hb : b < 2 ^ 31) : f_X6_in (nI m) (nI a) (nI b) = nI 1 := by
  unfold f_X6_in
  rw [if_neg (by rw [pn_lt (by omega) (by omega)]; omega), if_neg (by rw [pn_lt (by omega) (by omega)]; omega)]
theorem in_no {m a b : Nat} (h : m < a ∨ b < m) (hm : m < 2 ^ 31) (ha : a < 2 ^ 31) (hb : b < 2 ^ 31) : f_X6_in (nI m) (nI a) (nI b) = nI 0 := by
  unfold f_X6_in
  by_cases c : m < a
  · rw [if_pos (by rw [pn_lt (by omega) (by omega)]; omega)]
  · rw [if_neg (by rw [pn_lt (by omega) (by omega)]; omega), if_pos (by rw [pn_lt (by omega) (by omega)]; omega)]
section MAK
variable {v F lg : jA} {v3 v4 v5 : Int32}
/-- letters -/
theorem mkA {i n : Nat} (hi : i < 12) (h14 : v 14 = nI n) (hn : n ≤ 12) : f_X6_makes v F lg (nI i) v3 v4 v5 = (if i < n then ((f_X6_comes v (upd F 24 (nI 0)) lg (nI i)).1, (f_X6_comes v (upd F 24 (nI 0)) lg (nI i)).2.1, (f_X6_comes v (upd F 24 (nI 0)) lg (nI i)).2.2.1, nI 1) else (v, upd F 24 (nI 0), lg, nI 0)) ∧ ((i < n → s_X6_comes v (upd F 24 (nI 0)) lg (nI i)) → s_X6_makes v F lg (nI i) v3 v4 v5) := by
  unfold f_X6_makes s_X6_makes
  simp (disch := omega) only [pn_le, show ¬ 12 ≤ i by omega, if_false, pn_cl, h14, pn_lt, false_implies, not_false_eq_true, true_implies, true_and]
  first | exact id | exact ⟨trivial, id⟩ | exact ⟨rfl, id⟩
/-- a tick -/
theorem mkE : f_X6_makes v F lg (nI 600) v3 v4 v5 = ((f_X6_ticks v (upd F 24 (nI 0)) lg).1, (f_X6_ticks v (upd F 24 (nI 0)) lg).2.1, (f_X6_ticks v (upd F 24 (nI 0)) lg).2.2, nI 1) ∧ (s_X6_ticks v (upd F 24 (nI 0)) lg → s_X6_makes v F lg (nI 600) v3 v4 v5) := by
  have i1 := in_no (m := 600) (a := 100) (b := 227) (by omega) (by omega) (by omega) (by omega)
  have i2 := in_no (m := 600) (a := 300) (b := 331) (by omega) (by omega) (by omega) (by omega)
  have i3 := in_no (m := 600) (a := 400) (b := 527) (by omega) (by omega) (by omega) (by omega)
  unfold f_X6_makes s_X6_makes
  simp (disch := omega) only [pn_le, Nat.reduceLeDiff, if_true, i1, i2, i3, n00, not_true_eq_false, false_implies, true_implies, and_true]
  first | exact id | exact ⟨trivial, id⟩ | exact ⟨rfl, id⟩
/-- turns -/
theorem mkC {x n : Nat} (hx : x < 32) (h12 : v 12 = nI n) (hn : n ≤ 32) : f_X6_makes v F lg (nI (300 + x)) v3 v4 v5 = (if n ≤ x then (v, upd F 24 (nI 0), lg, nI 0) else if f_X6_has v (nI 4) (nI x) = 0 then (v, upd F 24 (nI 0), lg, nI 0) else if v (59 + 11 * x) = nI 1 then ((f_X6_turned v (upd F 24 (nI 0)) (nI 4) (nI x) (nI 0) (nI 1)).1, (f_X6_turned v (upd F 24 (nI 0)) (nI 4) (nI x) (nI 0) (nI 1)).2.1, lg, nI 1) else (v, upd F 24 (nI 0), lg, nI 0)) ∧ ((x < n → s_X6_has v (nI 4) (nI x)) → (x < n → v (59 + 11 * x) = nI 1 → s_X6_turned v (upd F 24 (nI 0)) (nI 4) (nI x) (nI 0) (nI 1)) → s_X6_makes v F lg (nI (300 + x)) v3 v4 v5) := by
  have i1 := in_no (m := 300 + x) (a := 100) (b := 227) (by omega) (by omega) (by omega) (by omega)
  have i2 := in_yes (m := 300 + x) (a := 300) (b := 331) (by omega) (by omega) (by omega)
  have e : 300 + x - 300 = x := by omega
  unfold f_X6_makes s_X6_makes
  simp (disch := omega) only [pn_le, show 12 ≤ 300 + x by omega, if_true, i1, i2, n00, n1z, if_false, pn_cl, h12, pn_sub, e, f_X6_note, pk_mul, nI_add, Nat.add_zero, not_true_eq_false, not_false_eq_true, false_implies, true_implies, and_true, true_and, pn_in]
  first | exact fun h1 h2 q => ⟨h1 (by omega), fun _ z => h2 (by omega) z⟩ | exact ⟨trivial, fun h1 h2 q => ⟨h1 (by omega), fun _ z => h2 (by omega) z⟩⟩ | exact ⟨rfl, fun h1 h2 q => ⟨h1 (by omega), fun _ z => h2 (by omega) z⟩⟩
/-- gives -/
theorem mkD {to x n : Nat} (hto : to < 4) (hx : x < 32) (h12 : v 12 = nI n) (hn : n ≤ 32) : f_X6_makes v F lg (nI (400 + 32 * to + x)) v3 v4 v5 = (if n ≤ x then (v, upd F 24 (nI 0), lg, nI 0) else if f_X6_has v (nI 4) (nI x) = 0 then (v, upd F 24 (nI 0), lg, nI 0) else ((f_X6_taken v (nI to) (nI x) (-1) (v (44 + 3 * to + 2))).1, upd F 24 (nI 0), lg, nI 1)) ∧ ((x < n → s_X6_has v (nI 4) (nI x)) → (x < n → ¬ f_X6_has v (nI 4) (nI x) = 0 → s_X6_taken v (nI to) (nI x) (-1) (v (44 + 3 * to + 2))) → s_X6_makes v F lg (nI (400 + 32 * to + x)) v3 v4 v5) := by
  have i1 := in_no (m := 400 + 32 * to + x) (a := 100) (b := 227) (by omega) (by omega) (by omega) (by omega)
  have i2 := in_no (m := 400 + 32 * to + x) (a := 300) (b := 331) (by omega) (by omega) (by omega) (by omega)
  have i3 := in_yes (m := 400 + 32 * to + x) (a := 400) (b := 527) (by omega) (by omega) (by omega)
  have e1 : nI (400 + 32 * to + x) - nI 400 - (nI (400 + 32 * to + x) - nI 400) / nI 32 * nI 32 = nI x := by
    rw [pn_sub (by omega), pk_rem (by omega) (by omega) (by omega)]
    exact congrArg nI (by omega)
  have e2 : (nI (400 + 32 * to + x) - nI 400) / nI 32 = nI to := by
    rw [pn_sub (by omega), pk_div (by omega) (by omega) (by omega)]
    exact congrArg nI (by omega)
  unfold f_X6_makes s_X6_makes
  rw [e1, e2]
  simp (disch := omega) only [pn_le, show 12 ≤ 400 + 32 * to + x by omega, if_true, i1, i2, i3, n00, n1z, if_false, pn_cl, h12, f_X6_browser, pk_mul, nI_add, not_true_eq_false, not_false_eq_true, false_implies, true_implies, and_true, true_and, pn_in]
  first | exact fun h1 h2 q => ⟨h1 (by omega), fun z => h2 (by omega) z⟩ | exact ⟨trivial, fun h1 h2 q => ⟨h1 (by omega), fun z => h2 (by omega) z⟩⟩ | exact ⟨rfl, fun h1 h2 q => ⟨h1 (by omega), fun z => h2 (by omega) z⟩⟩
/-- shows -/
theorem mkB {x h n nH : Nat} (hx : x < 32) (hh : h < 4) (h12 : v 12 = nI n) (hn : n ≤ 32) (h11 : v 11 = nI nH) (hH : nH ≤ 4) : f_X6_makes v F lg (nI (100 + 4 * x + h)) v3 v4 v5 = (if n ≤ x then (v, upd F 24 (nI 0), lg, nI 0) else if nH ≤ h then (v, upd F 24 (nI 0), lg, nI 0) else if v (16 + 7 * h + 3) = 0 then (v, upd F 24 (nI 0), lg, nI 0) else if f_X6_has v (nI 4) (nI x) = 0 then (v, upd F 24 (nI 0), lg, nI 0) else if v (59 + 11 * x) = nI 1 then (v, upd F 24 (nI 0), lg, nI 0) else f_X6_makes_127 ((f_X6_shown v (upd F 24 (nI 0)) lg (nI 4) (nI h) (nI x) v5).1) ((f_X6_shown v (upd F 24 (nI 0)) lg (nI 4) (nI h) (nI x) v5).2.1) ((f_X6_shown v (upd F 24 (nI 0)) lg (nI 4) (nI h) (nI x) v5).2.2.1) v3 v4 (nI x) (nI h) ((f_X6_shown v (upd F 24 (nI 0)) lg (nI 4) (nI h) (nI x) v5).2.2.2)) ∧ ((x < n → s_X6_has v (nI 4) (nI x)) → (x < n → h < nH → ¬ v (16 + 7 * h + 3) = 0 → ¬ f_X6_has v (nI 4) (nI x) = 0 → ¬ v (59 + 11 * x) = nI 1 → s_X6_shown v (upd F 24 (nI 0)) lg (nI 4) (nI h) (nI x) v5 ∧ s_X6_makes_127 ((f_X6_shown v (upd F 24 (nI 0)) lg (nI 4) (nI h) (nI x) v5).1) ((f_X6_shown v (upd F 24 (nI 0)) lg (nI 4) (nI h) (nI x) v5).2.1) ((f_X6_shown v (upd F 24 (nI 0)) lg (nI 4) (nI h) (nI x) v5).2.2.1) v3 v4 (nI x) (nI h) ((f_X6_shown v (upd F 24 (nI 0)) lg (nI 4) (nI h) (nI x) v5).2.2.2)) → s_X6_makes v F lg (nI (100 + 4 * x + h)) v3 v4 v5) := by
  have i1 := in_yes (m := 100 + 4 * x + h) (a := 100) (b := 227) (by omega) (by omega) (by omega)
  have e1 : nI (100 + 4 * x + h) - nI 100 - (nI (100 + 4 * x + h) - nI 100) / nI 4 * nI 4 = nI h := by
    rw [pn_sub (by omega), pk_rem (by omega) (by omega) (by omega)]
    exact congrArg nI (by omega)
  have e2 : (nI (100 + 4 * x + h) - nI 100) / nI 4 = nI x := by
    rw [pn_sub (by omega), pk_div (by omega) (by omega) (by omega)]
    exact congrArg nI (by omega)
  unfold f_X6_makes s_X6_makes
  rw [e1, e2]
  simp (disch := omega) only [pn_le, show 12 ≤ 100 + 4 * x + h by omega, if_true, i1, n1z, if_false, pn_cl, h12, h11, f_X6_house, f_X6_note, pk_mul, nI_add, Nat.add_zero, not_true_eq_false, not_false_eq_true, false_implies, true_implies, and_true, true_and, pn_in]
  first | exact fun h1 h2 q1 q2 q3 => ⟨h1 (by omega), fun q4 q5 => h2 (by omega) (by omega) q3 q4 q5⟩ | exact ⟨trivial, fun h1 h2 q1 q2 q3 => ⟨h1 (by omega), fun q4 q5 => h2 (by omega) (by omega) q3 q4 q5⟩⟩ | exact ⟨rfl, fun h1 h2 q1 q2 q3 => ⟨h1 (by omega), fun q4 q5 => h2 (by omega) (by omega) q3 q4 q5⟩⟩
end MAK
section SEG
variable {C off dear proved : jA} {v2 v3 v4 v5 : Int32} {T : Nat} {kk : rK} {sk : rP} {lg bf : jA} {v6 : Int32} {k d : Nat}
theorem OC.stop {n0 c0 m0 n1 m1 n2 m2 : Nat} {X X1 : cT} {Y : rT} {came : Int32} (h : OC C off dear proved v2 v3 v4 v5 T kk sk lg bf v6 k d n0 c0 X Y m0 n1 m1 X1 came) (hc : ¬ came = nI 0) : OC C off dear proved v2 v3 v4 v5 T kk sk lg bf v6 k d n0 c0 X Y m0 n2 m2 X1 came := by
  rcases h with ⟨e, -⟩ | h | h
  · exact absurd e hc
  · exact Or.inr (Or.inl h)
  · exact Or.inr (Or.inr h)
theorem OC.go {n0 c0 m0 n1 m1 n2 m2 : Nat} {X X1 : cT} {Y : rT} {came : Int32} (h : OC C off dear proved v2 v3 v4 v5 T kk sk lg bf v6 k d n0 c0 X Y m0 n1 m1 X1 came) (hg : ∀ c1 Y1, SR C off dear proved v2 v3 v4 v5 T c1 X1 Y1 → EX d c0 c1 X Y X1 Y1 → ∃ Y2, GO C off dear proved v2 v3 v4 v5 T kk sk lg bf v6 k d n1 c1 X1 Y1 m1 n2 c1 X1 Y2 m2) : OC C off dear proved v2 v3 v4 v5 T kk sk lg bf v6 k d n0 c0 X Y m0 n2 m2 X1 came := by
  rcases h with ⟨e, c1, Y1, g⟩ | h | h
  · obtain ⟨Y2, g2⟩ := hg c1 Y1 g.1 g.2.1
    exact Or.inl ⟨e, c1, Y2, g.tr g2⟩
  · exact Or.inr (Or.inl h)
  · exact Or.inr (Or.inr h)
/-- what came: 0 and it goes on, or it ends -/
theorem OC.c0 {n0 c0 m0 n1 m1 : Nat} {X X1 : cT} {Y : rT} {came : Int32} (h : OC C off dear proved v2 v3 v4 v5 T kk sk lg bf v6 k d n0 c0 X Y m0 n1 m1 X1 came) : (came = nI 0 ∧ ∃ c1 Y1, GO C off dear proved v2 v3 v4 v5 T kk sk lg bf v6 k d n0 c0 X Y m0 n1 c1 X1 Y1 m1) ∨ (¬ came = nI 0 ∧ ¬ came = 0 ∧ ∀ n2 m2, OC C off dear proved v2 v3 v4 v5 T kk sk lg bf v6 k d n0 c0 X Y m0 n2 m2 X1 came) := by
  by_cases e : came = nI 0
  · rcases h with ⟨-, g⟩ | ⟨e2, -⟩ | ⟨e2, -⟩
    · exact Or.inl ⟨e, g⟩
    · rw [e] at e2; exact absurd e2 n10
    · rw [e] at e2; exact absurd e2 (by decide)
  · exact Or.inr ⟨e, e, fun n2 m2 => h.stop e⟩
theorem SR_pn {c : Nat} {J bef mov nxt chn : jA} {P : Nat → jA} {pn : Nat} {Y : rT} (H : SR C off dear proved v2 v3 v4 v5 T c (J, bef, mov, nxt, chn, P, pn) Y) : c ≤ pn := by
  obtain ⟨F, sta, sm, par, mv, dep, th⟩ := Y
  exact H.1.2.2.1
theorem OC.pn {n0 c m0 n1 m1 : Nat} {X : cT} {J bef mov nxt chn : jA} {P : Nat → jA} {pn : Nat} {Y : rT} {came : Int32} (h : OC C off dear proved v2 v3 v4 v5 T kk sk lg bf v6 k d n0 c X Y m0 n1 m1 (J, bef, mov, nxt, chn, P, pn) came) (hk : k < c) : k < pn := by
  obtain ⟨J0, bef0, mov0, nxt0, chn0, P0, pn0⟩ := X
  obtain ⟨F, sta, sm, par, mv, dep, th⟩ := Y
  rcases h with ⟨-, c1, ⟨F1, sta1, sm1, par1, mv1, dep1, th1⟩, h1, h2, -⟩ | ⟨-, c1, ⟨F1, sta1, sm1, par1, mv1, dep1, th1⟩, h1, h2, -⟩ | ⟨-, c1, ⟨F1, sta1, sm1, par1, mv1, dep1, th1⟩, h1, h2, -⟩
  all_goals
    have a := SR_pn h1
    have b := h2.1
    omega
/-- what a state's moves need of it -/
def AT (C : jA) (w : jA) (k d c T : Nat) (nH nN nF nL t : Nat) : cT → rT → Prop
  | (_, _, _, _, _, P, _), (_, _, _, _, _, dep, _) => k < c ∧ P k = w ∧ dep k = nI d ∧ d < 6 ∧ WR C w nH nN nF nL t ∧ t ≤ T + d
theorem AT.ex {w : jA} {c c' nH nN nF nL t : Nat} {X X' : cT} {Y Y' : rT} (h : AT C w k d c T nH nN nF nL t X Y) (e : EX d c c' X Y X' Y') : AT C w k d c' T nH nN nF nL t X' Y' := by
  obtain ⟨J, bef, mov, nxt, chn, P, pn⟩ := X
  obtain ⟨F, sta, sm, par, mv, dep, th⟩ := Y
  obtain ⟨J', bef', mov', nxt', chn', P', pn'⟩ := X'
  obtain ⟨F', sta', sm', par', mv', dep', th'⟩ := Y'
  obtain ⟨h1, h2, h3, h4⟩ := h
  obtain ⟨e1, e2, -⟩ := e
  exact ⟨by omega, (e2 k h1).1.trans h2, (e2 k h1).2.trans h3, h4⟩
/-- a move that does nothing -/
def NOP (C off dear proved : jA) (v2 v3 v4 v5 : Int32) (lg w : jA) (m : Nat) : Prop := okM m ∧ ∀ F : jA, ¬ F 2 = 0 → ∃ l, s_X6_makes (eV C off dear proved w) F lg (nI m) v3 v4 v5 ∧ (f_X6_makes (eV C off dear proved w) F lg (nI m) v3 v4 v5 = (eV C off dear proved w, upd F 24 l, lg, nI 0) ∨ (f_X6_makes (eV C off dear proved w) F lg (nI m) v3 v4 v5 = (eV C off dear proved w, upd F 24 l, lg, nI 1) ∧ (v2 = nI 0 → l = nI 0)))
theorem skips (hv : v2 = nI 0 ∨ (v2 = nI 1 ∧ ∃ b, b < 4 ∧ v3 = nI b)) {w : jA} {c nH nN nF nL t n : Nat} : ∀ (j m0 : Nat) (X : cT) (Y : rT), SR C off dear proved v2 v3 v4 v5 T c X Y → AT C w k d c T nH nN nF nL t X Y → (∀ i, i < j → NOP C off dear proved v2 v3 v4 v5 lg w (m0 + i)) → ∃ Y', GO C off dear proved v2 v3 v4 v5 T kk sk lg bf v6 k d (n + j) c X Y m0 n c X Y' (m0 + j)
  | 0, m0, X, Y, H, A, h => ⟨Y, GO.rf H⟩
  | j + 1, m0, X, Y, H, A, h => by
    obtain ⟨J, bef, mov, nxt, chn, P, pn⟩ := X
    obtain ⟨F, sta, sm, par, mv, dep, th⟩ := Y
    obtain ⟨hm, hF⟩ := h 0 (by omega)
    obtain ⟨l, s, hc⟩ := hF F H.2.2.2.1
    obtain ⟨a1, a2, a3⟩ := id A
    have step : GO C off dear proved v2 v3 v4 v5 T kk sk lg bf v6 k d (n + j + 1) c (J, bef, mov, nxt, chn, P, pn) (F, sta, sm, par, mv, dep, th) m0 (n + j) c (J, bef, mov, nxt, chn, P, pn) (upd F 24 l, sta, sm, par, mv, dep, eV C off dear proved w) (m0 + 1) := by
      rw [← a2] at s hc ⊢
      rcases hc with hc | ⟨hc, hl⟩
      · exact GO_no H a1 hm (NZ_eV _ _ _ _ _) hc s
      · exact GO_same H hv a1 hm hl hc s
    obtain ⟨Y', g⟩ := skips hv j (m0 + 1) (J, bef, mov, nxt, chn, P, pn) (upd F 24 l, sta, sm, par, mv, dep, eV C off dear proved w) step.1 (A.ex step.2.1) (fun i hi => by
      have := h (i + 1) (by omega)
      rw [show m0 + (i + 1) = m0 + 1 + i by omega] at this
      exact this)
    refine ⟨Y', ?_⟩
    have g2 := step.tr g
    rw [show m0 + 1 + j = m0 + (j + 1) by omega] at g2
    exact g2
end SEG
