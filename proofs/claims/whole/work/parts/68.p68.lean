section SGA
variable {C off dear proved : jA} {v2 v3 v4 v5 : Int32} {T : Nat} {kk : rK} {sk : rP} {lg bf : jA} {v6 : Int32} {k d : Nat}
theorem nopA {w : jA} {nH nN nF nL t i : Nat} (R : WR C w nH nN nF nL t) (h1 : nL ≤ i) (h2 : i < 12) : NOP C off dear proved v2 v3 v4 v5 lg w i := by
  refine ⟨⟨by omega, by omega, by omega, by omega, by omega⟩, fun F hF => ⟨nI 0, ?_⟩⟩
  have e14 : eV C off dear proved w 14 = nI nL := R.2.2.2.1.1
  have m := mkA (v := eV C off dear proved w) (F := F) (lg := lg) (v3 := v3) (v4 := v4) (v5 := v5) h2 e14 R.2.2.2.1.2
  exact ⟨m.2 (fun q => by omega), Or.inl (m.1.trans (if_neg (by omega)))⟩
theorem seg_A (hv : v2 = nI 0 ∨ (v2 = nI 1 ∧ ∃ b, b < 4 ∧ v3 = nI b)) {Dg dw w : jA} {nH nN nF nL t N : Nat} : ∀ (j i fuel c : Nat) (J bef mov nxt chn : jA) (P : Nat → jA) (pn : Nat) (tw : jA) (F sta sm par mv dep th : jA), i + j = nL → j < fuel → SR C off dear proved v2 v3 v4 v5 T c (J, bef, mov, nxt, chn, P, pn) (F, sta, sm, par, mv, dep, th) → AT C w k d c T nH nN nF nL t (J, bef, mov, nxt, chn, P, pn) (F, sta, sm, par, mv, dep, th) →
    ∃ J' bef' mov' nxt' chn' P' pn' tw' came, f_X1_tryLetters_5 fuel C off dear proved Dg dw J bef mov nxt chn tw P pn (nI k) k (nI 0) (nI i) = (Dg, dw, J', bef', mov', nxt', chn', tw', P', pn', came) ∧ s_X1_tryLetters_5 fuel C off dear proved Dg dw J bef mov nxt chn tw P pn (nI k) k (nI 0) (nI i) ∧ OC C off dear proved v2 v3 v4 v5 T kk sk lg bf v6 k d (N + j) c (J, bef, mov, nxt, chn, P, pn) (F, sta, sm, par, mv, dep, th) i N nL (J', bef', mov', nxt', chn', P', pn') came
  | 0, i, fuel, c, J, bef, mov, nxt, chn, P, pn, tw, F, sta, sm, par, mv, dep, th, hi, hf, H, A => by
    obtain ⟨fuel, rfl⟩ : ∃ q, fuel = q + 1 := ⟨fuel - 1, by omega⟩
    obtain ⟨a1, a2, a3, a4, a5, a6⟩ := id A
    have h3 := a5.2.2.2.1.1
    have hL := a5.2.2.2.1.2
    have e : i = nL := by omega
    subst e
    refine ⟨J, bef, mov, nxt, chn, P, pn, tw, nI 0, ?_, ?_, Or.inl ⟨rfl, c, _, GO.rf H⟩⟩
    · rw [f_X1_tryLetters_5, a2]
      simp (disch := omega) only [f_X4_letters, pn_cl, h3, pn_le, Nat.le_refl, if_true]
    · rw [s_X1_tryLetters_5, a2]
      simp (disch := omega) only [f_X4_letters, pn_cl, h3, pn_le, Nat.le_refl, not_true_eq_false, false_implies]
  | j + 1, i, fuel, c, J, bef, mov, nxt, chn, P, pn, tw, F, sta, sm, par, mv, dep, th, hi, hf, H, A => by
    obtain ⟨fuel, rfl⟩ : ∃ q, fuel = q + 1 := ⟨fuel - 1, by omega⟩
    obtain ⟨a1, a2, a3, a4, a5, a6⟩ := id A
    have h3 := a5.2.2.2.1.1
    have hL := a5.2.2.2.1.2
    obtain ⟨b, b1, b2, b3⟩ := bec_eq (tw := tw) a5.2.1.1 a5.2.1.2
    have Rb := WR_AG a5 b3
    have eb := eV_AG C off dear proved a5.2.1.1 a5.2.1.2 b3
    have hF : ¬ upd F 24 (nI 0) 2 = 0 := by rw [pu_n _ _ (by omega)]; exact H.2.2.2.1
    obtain ⟨w', Dg', dw', F', lg', a, nN', nF', nL', k1, k2, k3, k4, k5, -, k7⟩ := come_st C off dear proved (d := false) (Dg := Dg) (dw := dw) (F := upd F 24 (nI 0)) (lg := lg) (B := 0) Rb ⟨fun q => Bool.noConfusion q, fun _ => hF⟩ (by omega) (show i < nL by omega)
    obtain ⟨e1, e2, e3, e4⟩ := k7.1 rfl
    rw [e3, e4] at k1
    rw [e1, e2, eb] at k3
    rw [eb] at k4
    have e14 : eV C off dear proved w 14 = nI nL := h3
    have mA := mkA (v := eV C off dear proved w) (F := F) (lg := lg) (v3 := v3) (v4 := v4) (v5 := v5) (show i < 12 by omega) e14 hL
    obtain ⟨J1, bef1, mov1, nxt1, chn1, P1, pn1, came, r1, r2, r3⟩ := reach_st (kk := kk) (sk := sk) (bf := bf) (v6 := v6) (n := N + j) (m := i) (l := nI 0) H hv a1 a3 a4 ⟨by omega, by omega, by omega, by omega, by omega⟩ k5.1 (by omega) (fun _ => rfl) (by rw [a2]; exact mA.1.trans (by rw [if_pos (show i < nL by omega), k3])) (by rw [a2]; exact mA.2 (fun _ => k4))
    have hp := r3.pn a1
    have hni : ¬ nL ≤ i := by omega
    rcases r3.c0 with ⟨ec, c1, ⟨F1, sta1, sm1, par1, mv1, dep1, th1⟩, g⟩ | ⟨ec, ec0, hs⟩
    · subst ec
      obtain ⟨J2, bef2, mov2, nxt2, chn2, P2, pn2, tw2, came2, q1, q2, q3⟩ := seg_A hv (Dg := Dg) (dw := dw) (N := N) j (i + 1) fuel c1 J1 bef1 mov1 nxt1 chn1 P1 pn1 w' F1 sta1 sm1 par1 mv1 dep1 th1 (by omega) (by omega) g.1 (A.ex g.2.1)
      refine ⟨J2, bef2, mov2, nxt2, chn2, P2, pn2, tw2, came2, ?_, ?_, g.oc q3⟩
      · rw [f_X1_tryLetters_5, a2]
        simp (disch := omega) only [f_X4_letters, pn_cl, h3, pn_le, hni, if_false, n00, if_true, f_X1_tryLetters_26, b1, k1, f_X1_tryLetters_35, r1, f_X1_tryLetters_43, nI_add]
        exact q1
      · rw [s_X1_tryLetters_5, a2]
        simp (disch := omega) only [f_X4_letters, pn_cl, h3, pn_le, hni, not_false_eq_true, true_implies, n00, s_X1_tryLetters_26, b1, b2, k1, k2, s_X1_tryLetters_35, r1, r2, hp, s_X1_tryLetters_43, nI_add, true_and]
        exact q2
    · obtain ⟨fuel, rfl⟩ : ∃ q, fuel = q + 1 := ⟨fuel - 1, by omega⟩
      refine ⟨J1, bef1, mov1, nxt1, chn1, P1, pn1, w', came, ?_, ?_, hs _ _⟩
      · rw [f_X1_tryLetters_5, a2]
        simp (disch := omega) only [f_X4_letters, pn_cl, h3, pn_le, hni, if_false, n00, if_true, f_X1_tryLetters_26, b1, k1, f_X1_tryLetters_35, r1, f_X1_tryLetters_43, nI_add]
        rw [f_X1_tryLetters_5]
        simp only [ec0, if_false, ite_self]
      · rw [s_X1_tryLetters_5, a2]
        simp (disch := omega) only [f_X4_letters, pn_cl, h3, pn_le, hni, not_false_eq_true, true_implies, n00, s_X1_tryLetters_26, b1, b2, k1, k2, s_X1_tryLetters_35, r1, r2, hp, s_X1_tryLetters_43, nI_add, true_and]
        rw [s_X1_tryLetters_5]
        exact fun _ z => absurd z ec0
theorem st_A (hv : v2 = nI 0 ∨ (v2 = nI 1 ∧ ∃ b, b < 4 ∧ v3 = nI b)) {Dg dw w : jA} {nH nN nF nL t N c : Nat} {J bef mov nxt chn : jA} {P : Nat → jA} {pn : Nat} {tw : jA} {F sta sm par mv dep th : jA} (H : SR C off dear proved v2 v3 v4 v5 T c (J, bef, mov, nxt, chn, P, pn) (F, sta, sm, par, mv, dep, th)) (A : AT C w k d c T nH nN nF nL t (J, bef, mov, nxt, chn, P, pn) (F, sta, sm, par, mv, dep, th)) :
    ∃ J' bef' mov' nxt' chn' P' pn' tw' came, f_X1_tryLetters C off dear proved Dg dw J bef mov nxt chn tw P pn (nI k) k = (Dg, dw, J', bef', mov', nxt', chn', tw', P', pn', came) ∧ s_X1_tryLetters C off dear proved Dg dw J bef mov nxt chn tw P pn (nI k) k ∧ OC C off dear proved v2 v3 v4 v5 T kk sk lg bf v6 k d (N + 12) c (J, bef, mov, nxt, chn, P, pn) (F, sta, sm, par, mv, dep, th) 0 N 12 (J', bef', mov', nxt', chn', P', pn') came := by
  have R : WR C w nH nN nF nL t := A.2.2.2.2.1
  have hL := R.2.2.2.1.2
  obtain ⟨J', bef', mov', nxt', chn', P', pn', tw', came, q1, q2, q3⟩ := seg_A (kk := kk) (sk := sk) (bf := bf) (v6 := v6) hv (Dg := Dg) (dw := dw) (N := N + (12 - nL)) nL 0 ng_F c J bef mov nxt chn P pn tw F sta sm par mv dep th (by omega) (by rw [ng_F_v]; omega) H A
  refine ⟨J', bef', mov', nxt', chn', P', pn', tw', came, q1, q2, ?_⟩
  rw [show N + (12 - nL) + nL = N + 12 by omega] at q3
  refine q3.go fun c1 Y1 h1 h2 => ?_
  obtain ⟨Y2, g⟩ := skips (kk := kk) (sk := sk) (bf := bf) (v6 := v6) hv (n := N) (12 - nL) nL _ Y1 h1 (A.ex h2) (fun i hi => nopA R (by omega) (by omega))
  rw [show nL + (12 - nL) = 12 by omega] at g
  exact ⟨Y2, g⟩
end SGA
