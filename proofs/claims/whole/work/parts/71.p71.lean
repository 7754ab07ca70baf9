section SGC
variable {C off dear proved : jA} {v2 v3 v4 v5 : Int32} {T : Nat} {kk : rK} {sk : rP} {lg bf : jA} {v6 : Int32} {k d : Nat}
theorem okC {x : Nat} (hx : x < 32) : okM (300 + x) := ⟨by omega, by omega, by omega, by omega, by omega⟩
theorem nopC {w : jA} {nH nN nF nL t x : Nat} (R : WR C w nH nN nF nL t) (hx : x < 32) (hc : x < nN → bt (w (142 + x * 11 + 10)) 4 = true → ¬ w (142 + x * 11 + 0) = nI 1) : NOP C off dear proved v2 v3 v4 v5 lg w (300 + x) := by
  refine ⟨okC hx, fun F hF => ⟨nI 0, ?_⟩⟩
  have e12 : eV C off dear proved w 12 = nI nN := R.2.1.1
  have hN := R.2.1.2
  have m := mkC (v := eV C off dear proved w) (F := F) (lg := lg) (v3 := v3) (v4 := v4) (v5 := v5) hx e12 R.2.1.2
  by_cases c1 : nN ≤ x
  · exact ⟨m.2 (fun q => by omega) (fun q => by omega), Or.inl (m.1.trans (if_pos c1))⟩
  have hx2 : x < nN := by omega
  have hv := has_v C off dear proved (p := 4) R.2.1.1 hN (by omega) hx2
  have ek : eV C off dear proved w (59 + 11 * x) = w (142 + x * 11 + 0) := eV_n C off dear proved w (j := 0) R.2.1.1 hN hx2 (by omega)
  by_cases c4 : bt (w (142 + x * 11 + 10)) 4 = true
  · have c5 := hc hx2 c4
    refine ⟨m.2 (fun _ => hv.2) (fun _ q => absurd (by rw [← ek]; exact q) c5), Or.inl (m.1.trans ?_)⟩
    rw [if_neg c1, if_neg (by rw [hv.1, if_pos c4]; exact n1z), if_neg (by rw [ek]; exact c5)]
  · by_cases c5 : w (142 + x * 11 + 0) = nI 1
    · obtain ⟨w', Dg', F', a, nN', nL', -, -, -, k4, -⟩ := thief_st C off dear proved (d := false) (Dg := F) (F := upd F 24 (nI 0)) (z := nI 0) (b := nI 4) R hx2
      refine ⟨m.2 (fun _ => hv.2) (fun _ _ => k4), Or.inl (m.1.trans ?_)⟩
      rw [if_neg c1, if_pos (by rw [hv.1, if_neg c4]; rfl)]
    · refine ⟨m.2 (fun _ => hv.2) (fun _ q => absurd (by rw [← ek]; exact q) c5), Or.inl (m.1.trans ?_)⟩
      rw [if_neg c1, if_pos (by rw [hv.1, if_neg c4]; rfl)]
theorem seg_C (hv : v2 = nI 0 ∨ (v2 = nI 1 ∧ ∃ b, b < 4 ∧ v3 = nI b)) {Dg w : jA} {nH nN nF nL t N : Nat} : ∀ (j x fuel c : Nat) (J bef mov nxt chn : jA) (P : Nat → jA) (pn : Nat) (tw : jA) (F sta sm par mv dep th : jA), x + j = nN → j < fuel → SR C off dear proved v2 v3 v4 v5 T c (J, bef, mov, nxt, chn, P, pn) (F, sta, sm, par, mv, dep, th) → AT C w k d c T nH nN nF nL t (J, bef, mov, nxt, chn, P, pn) (F, sta, sm, par, mv, dep, th) →
    ∃ J' bef' mov' nxt' chn' P' pn' tw' came, f_X1_tryTurns_5 fuel C Dg J bef mov nxt chn tw P pn (nI k) k (nI 0) (nI x) = (Dg, J', bef', mov', nxt', chn', tw', P', pn', came) ∧ s_X1_tryTurns_5 fuel C Dg J bef mov nxt chn tw P pn (nI k) k (nI 0) (nI x) ∧ OC C off dear proved v2 v3 v4 v5 T kk sk lg bf v6 k d (N + j) c (J, bef, mov, nxt, chn, P, pn) (F, sta, sm, par, mv, dep, th) (300 + x) N (300 + nN) (J', bef', mov', nxt', chn', P', pn') came
  | 0, x, fuel, c, J, bef, mov, nxt, chn, P, pn, tw, F, sta, sm, par, mv, dep, th, hi, hf, H, A => by
    obtain ⟨fuel, rfl⟩ : ∃ q, fuel = q + 1 := ⟨fuel - 1, by omega⟩
    obtain ⟨a1, a2, a3, a4, a5, a6⟩ := id A
    have h1 := a5.2.1.1
    have hN := a5.2.1.2
    have e : x = nN := by omega
    subst e
    refine ⟨J, bef, mov, nxt, chn, P, pn, tw, nI 0, ?_, ?_, Or.inl ⟨rfl, c, _, GO.rf H⟩⟩
    · rw [f_X1_tryTurns_5, a2]
      simp (disch := omega) only [f_X4_notes, pn_cl, h1, pn_le, Nat.le_refl, if_true]
    · rw [s_X1_tryTurns_5, a2]
      simp (disch := omega) only [f_X4_notes, pn_cl, h1, pn_le, Nat.le_refl, not_true_eq_false, false_implies]
  | j + 1, x, fuel, c, J, bef, mov, nxt, chn, P, pn, tw, F, sta, sm, par, mv, dep, th, hi, hf, H, A => by
    obtain ⟨fuel, rfl⟩ : ∃ q, fuel = q + 1 := ⟨fuel - 1, by omega⟩
    obtain ⟨a1, a2, a3, a4, a5, a6⟩ := id A
    have h1 := a5.2.1.1
    have hN := a5.2.1.2
    have hx : x < nN := by omega
    have nx : ¬ nN ≤ x := by omega
    have hc := has_c (p := 4) h1 hN (by omega) hx
    have nwd := noteWord_eq (j := 0) h1 hN hx (by omega)
    by_cases ok : bt (w (142 + x * 11 + 10)) 4 = true ∧ w (142 + x * 11 + 0) = nI 1
    · obtain ⟨hb4, hk1⟩ := ok
      obtain ⟨b, b1, b2, b3⟩ := bec_eq (tw := tw) h1 hN
      have Rb := WR_AG a5 b3
      have eb := eV_AG C off dear proved h1 hN b3
      have hF' : ¬ upd F 24 (nI 0) 2 = 0 := by rw [pu_n _ _ (by omega)]; exact H.2.2.2.1
      obtain ⟨w', Dg', F', a, nN', nL', k1, k2, k3, k4, k5, k6, k7⟩ := thief_st C off dear proved (d := false) (Dg := Dg) (F := upd F 24 (nI 0)) (z := nI 0) (b := nI 4) Rb hx
      have e3 := k6.2.2.2 rfl
      have e1 := k6.2.2.1 hF'
      rw [e3] at k1
      rw [e1, eb] at k3
      rw [eb] at k4
      have e12 : eV C off dear proved w 12 = nI nN := h1
      have hv4 := has_v C off dear proved (p := 4) h1 hN (by omega) hx
      have ek : eV C off dear proved w (59 + 11 * x) = w (142 + x * 11 + 0) := eV_n C off dear proved w (j := 0) h1 hN hx (by omega)
      have mC := mkC (v := eV C off dear proved w) (F := F) (lg := lg) (v3 := v3) (v4 := v4) (v5 := v5) (show x < 32 by omega) e12 hN
      rw [k3] at mC
      have mk : f_X6_makes (eV C off dear proved (P k)) F lg (nI (300 + x)) v3 v4 v5 = (eV C off dear proved w', upd F 24 (nI 0), lg, nI 1) := by
        rw [a2]
        refine mC.1.trans ?_
        rw [if_neg nx, if_neg (by rw [hv4.1, if_pos hb4]; exact n1z), if_pos (by rw [ek]; exact hk1)]
      have smk : s_X6_makes (eV C off dear proved (P k)) F lg (nI (300 + x)) v3 v4 v5 := by
        rw [a2]
        exact mC.2 (fun _ => hv4.2) (fun _ _ => k4)
      by_cases az : a = 0
      · -- nothing came of it
        have ew : eV C off dear proved w' = eV C off dear proved (P k) := by rw [k7 az, a2]; exact eb
        rw [ew] at mk
        have g := GO_same (kk := kk) (sk := sk) (bf := bf) (v6 := v6) (d := d) (n := N + j) H hv a1 (okC (show x < 32 by omega)) (fun _ => rfl) mk smk
        obtain ⟨J2, bef2, mov2, nxt2, chn2, P2, pn2, tw2, came2, p1, p2, p3⟩ := seg_C hv (Dg := Dg) (N := N) j (x + 1) fuel c J bef mov nxt chn P pn w' _ _ _ _ _ _ _ (by omega) (by omega) g.1 (A.ex g.2.1)
        refine ⟨J2, bef2, mov2, nxt2, chn2, P2, pn2, tw2, came2, ?_, ?_, g.oc p3⟩
        · rw [f_X1_tryTurns_5, a2]
          simp (disch := omega) only [f_X4_notes, pn_cl, h1, pn_le, nx, if_false, n00, if_true, hc.1, hb4, n1z, nwd.1, hk1, b1, f_X1_tryTurns_47, k1, f_X1_tryTurns_56, az, f_X1_tryTurns_74, f_X1_tryTurns_75, nI_add]
          exact p1
        · rw [s_X1_tryTurns_5, a2]
          simp (disch := omega) only [f_X4_notes, pn_cl, h1, pn_le, nx, not_false_eq_true, true_implies, n00, hc.1, hc.2, hb4, if_true, n1z, false_implies, true_and, nwd.1, nwd.2, hk1, not_true_eq_false, and_true, b1, b2, s_X1_tryTurns_47, k1, k2, s_X1_tryTurns_56, az, s_X1_tryTurns_74, s_X1_tryTurns_75, nI_add]
          exact p2
      · obtain ⟨J1, bef1, mov1, nxt1, chn1, P1, pn1, came, r1, r2, r3⟩ := reach_st (kk := kk) (sk := sk) (bf := bf) (v6 := v6) (n := N + j) (m := 300 + x) (l := nI 0) H hv a1 a3 a4 (okC (by omega)) k5.1 (by omega) (fun _ => rfl) mk smk
        have hp := r3.pn a1
        rcases r3.c0 with ⟨ec, c1, ⟨F1, sta1, sm1, par1, mv1, dep1, th1⟩, g⟩ | ⟨ec, ec0, hs⟩
        · subst ec
          obtain ⟨J2, bef2, mov2, nxt2, chn2, P2, pn2, tw2, came2, p1, p2, p3⟩ := seg_C hv (Dg := Dg) (N := N) j (x + 1) fuel c1 J1 bef1 mov1 nxt1 chn1 P1 pn1 w' F1 sta1 sm1 par1 mv1 dep1 th1 (by omega) (by omega) g.1 (A.ex g.2.1)
          refine ⟨J2, bef2, mov2, nxt2, chn2, P2, pn2, tw2, came2, ?_, ?_, g.oc p3⟩
          · rw [f_X1_tryTurns_5, a2]
            simp (disch := omega) only [f_X4_notes, pn_cl, h1, pn_le, nx, if_false, n00, if_true, hc.1, hb4, n1z, nwd.1, hk1, b1, f_X1_tryTurns_47, k1, f_X1_tryTurns_56, az, f_X1_tryTurns_70, f_X1_tryTurns_74, f_X1_tryTurns_75, nI_add, r1]
            exact p1
          · rw [s_X1_tryTurns_5, a2]
            simp (disch := omega) only [f_X4_notes, pn_cl, h1, pn_le, nx, not_false_eq_true, true_implies, n00, hc.1, hc.2, hb4, if_true, n1z, false_implies, true_and, nwd.1, nwd.2, hk1, not_true_eq_false, and_true, b1, b2, s_X1_tryTurns_47, k1, k2, s_X1_tryTurns_56, az, s_X1_tryTurns_70, s_X1_tryTurns_74, s_X1_tryTurns_75, nI_add, r1, r2, hp]
            exact p2
        · obtain ⟨fuel, rfl⟩ : ∃ q, fuel = q + 1 := ⟨fuel - 1, by omega⟩
          refine ⟨J1, bef1, mov1, nxt1, chn1, P1, pn1, w', came, ?_, ?_, hs _ _⟩
          · rw [f_X1_tryTurns_5, a2]
            simp (disch := omega) only [f_X4_notes, pn_cl, h1, pn_le, nx, if_false, n00, if_true, hc.1, hb4, n1z, nwd.1, hk1, b1, f_X1_tryTurns_47, k1, f_X1_tryTurns_56, az, f_X1_tryTurns_70, f_X1_tryTurns_74, f_X1_tryTurns_75, nI_add, r1]
            rw [f_X1_tryTurns_5]
            simp only [ec0, if_false, ite_self]
          · rw [s_X1_tryTurns_5, a2]
            simp (disch := omega) only [f_X4_notes, pn_cl, h1, pn_le, nx, not_false_eq_true, true_implies, n00, hc.1, hc.2, hb4, if_true, n1z, false_implies, true_and, nwd.1, nwd.2, hk1, not_true_eq_false, and_true, b1, b2, s_X1_tryTurns_47, k1, k2, s_X1_tryTurns_56, az, s_X1_tryTurns_70, s_X1_tryTurns_74, s_X1_tryTurns_75, nI_add, r1, r2, hp]
            rw [s_X1_tryTurns_5]
            exact fun _ z => absurd z ec0
    · obtain ⟨Y', g⟩ := skips (kk := kk) (sk := sk) (lg := lg) (bf := bf) (v6 := v6) hv (n := N + j) 1 (300 + x) _ _ H A (fun i hi => by
        have e0 : i = 0 := by omega
        subst e0
        exact nopC a5 (by omega) (fun _ q r => ok ⟨q, r⟩))
      obtain ⟨F1, sta1, sm1, par1, mv1, dep1, th1⟩ := Y'
      obtain ⟨J2, bef2, mov2, nxt2, chn2, P2, pn2, tw2, came2, p1, p2, p3⟩ := seg_C hv (Dg := Dg) (N := N) j (x + 1) fuel c J bef mov nxt chn P pn tw F1 sta1 sm1 par1 mv1 dep1 th1 (by omega) (by omega) g.1 (A.ex g.2.1)
      refine ⟨J2, bef2, mov2, nxt2, chn2, P2, pn2, tw2, came2, ?_, ?_, g.oc p3⟩
      · rw [f_X1_tryTurns_5, a2]
        simp (disch := omega) only [f_X4_notes, pn_cl, h1, pn_le, nx, if_false, n00, if_true, hc.1, if10, nwd.1, f_X1_tryTurns_75, nI_add]
        by_cases q1 : bt (w (142 + x * 11 + 10)) 4 = true
        · rw [if_neg (fun z => z q1), if_neg (fun z => ok ⟨q1, z⟩)]; exact p1
        · rw [if_pos q1]; exact p1
      · rw [s_X1_tryTurns_5, a2]
        simp (disch := omega) only [f_X4_notes, pn_cl, h1, pn_le, nx, not_false_eq_true, true_implies, n00, hc.1, hc.2, if10, true_and, nwd.1, nwd.2, s_X1_tryTurns_75, nI_add]
        exact ⟨fun _ => p2, fun q => ⟨fun r => absurd ⟨Decidable.of_not_not q, r⟩ ok, fun _ => p2⟩⟩
theorem st_C (hv : v2 = nI 0 ∨ (v2 = nI 1 ∧ ∃ b, b < 4 ∧ v3 = nI b)) {Dg w : jA} {nH nN nF nL t N c : Nat} {J bef mov nxt chn : jA} {P : Nat → jA} {pn : Nat} {tw : jA} {F sta sm par mv dep th : jA} (H : SR C off dear proved v2 v3 v4 v5 T c (J, bef, mov, nxt, chn, P, pn) (F, sta, sm, par, mv, dep, th)) (A : AT C w k d c T nH nN nF nL t (J, bef, mov, nxt, chn, P, pn) (F, sta, sm, par, mv, dep, th)) :
    ∃ J' bef' mov' nxt' chn' P' pn' tw' came, f_X1_tryTurns C Dg J bef mov nxt chn tw P pn (nI k) k = (Dg, J', bef', mov', nxt', chn', tw', P', pn', came) ∧ s_X1_tryTurns C Dg J bef mov nxt chn tw P pn (nI k) k ∧ OC C off dear proved v2 v3 v4 v5 T kk sk lg bf v6 k d (N + 32) c (J, bef, mov, nxt, chn, P, pn) (F, sta, sm, par, mv, dep, th) 300 N 332 (J', bef', mov', nxt', chn', P', pn') came := by
  have R : WR C w nH nN nF nL t := A.2.2.2.2.1
  have hN := R.2.1.2
  obtain ⟨J', bef', mov', nxt', chn', P', pn', tw', came, q1, q2, q3⟩ := seg_C (kk := kk) (sk := sk) (bf := bf) (v6 := v6) hv (Dg := Dg) (N := N + (32 - nN)) nN 0 ng_F c J bef mov nxt chn P pn tw F sta sm par mv dep th (by omega) (by rw [ng_F_v]; omega) H A
  refine ⟨J', bef', mov', nxt', chn', P', pn', tw', came, q1, q2, ?_⟩
  rw [show N + (32 - nN) + nN = N + 32 by omega] at q3
  refine OC.go (m0 := 300) q3 fun c1 Y1 h1 h2 => ?_
  obtain ⟨Y2, g⟩ := skips (kk := kk) (sk := sk) (lg := lg) (bf := bf) (v6 := v6) hv (n := N) (32 - nN) (300 + nN) _ Y1 h1 (A.ex h2) (fun i hi => by
    have z := nopC (off := off) (dear := dear) (proved := proved) (v2 := v2) (v3 := v3) (v4 := v4) (v5 := v5) (lg := lg) (x := nN + i) R (by omega) (fun q => by omega)
    rw [show 300 + (nN + i) = 300 + nN + i by omega] at z
    exact z)
  rw [show 300 + nN + (32 - nN) = 332 by omega] at g
  exact ⟨Y2, g⟩
end SGC
