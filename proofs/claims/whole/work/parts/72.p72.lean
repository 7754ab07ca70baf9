section SGD
variable {C off dear proved : jA} {v2 v3 v4 v5 : Int32} {T : Nat} {kk : rK} {sk : rP} {lg bf : jA} {v6 : Int32} {k d : Nat}
abbrev tK5 : Type := jA → jA → jA → jA → jA → jA → jA → (Nat → jA) → Nat → Int32 → Nat → Int32 → Int32 → (jA × jA × jA × jA × jA × jA × (Nat → jA) × Nat × Int32)
abbrev tP5 : Type := jA → jA → jA → jA → jA → jA → jA → (Nat → jA) → Nat → Int32 → Nat → Int32 → Int32 → Prop
theorem okD {to x : Nat} (h : to < 4) (hx : x < 32) : okM (400 + 32 * to + x) := ⟨by omega, by omega, by omega, by omega, by omega⟩
theorem nopD {w : jA} {nH nN nF nL t to x : Nat} (R : WR C w nH nN nF nL t) (hto : to < 4) (hx : x < 32) (hc : x < nN → bt (w (142 + x * 11 + 10)) 4 = true → ¬ tkP C w to (w (16 + to * 2 + 1))) : NOP C off dear proved v2 v3 v4 v5 lg w (400 + 32 * to + x) := by
  refine ⟨okD hto hx, fun F hF => ⟨nI 0, ?_⟩⟩
  have e12 : eV C off dear proved w 12 = nI nN := R.2.1.1
  have hN := R.2.1.2
  have eg := eV_gs C off dear proved w (b := to) (by omega)
  have m := mkD (v := eV C off dear proved w) (F := F) (lg := lg) (v3 := v3) (v4 := v4) (v5 := v5) hto hx e12 R.2.1.2
  rw [eg] at m
  by_cases c1 : nN ≤ x
  · exact ⟨m.2 (fun q => by omega) (fun q => by omega), Or.inl (m.1.trans (if_pos c1))⟩
  have hx2 : x < nN := by omega
  have hv := has_v C off dear proved (p := 4) R.2.1.1 hN (by omega) hx2
  by_cases c4 : bt (w (142 + x * 11 + 10)) 4 = true
  · have gn := give_no C off dear proved (w := w) (b := to) (x := nI x) (y := (-1)) (z := w (16 + to * 2 + 1)) (by omega) (hc hx2 c4)
    rw [gn.2.2.1] at m
    refine ⟨m.2 (fun _ => hv.2) (fun _ _ => gn.2.2.2), Or.inr ⟨m.1.trans ?_, fun _ => rfl⟩⟩
    rw [if_neg c1, if_neg (by rw [hv.1, if_pos c4]; exact n1z)]
  · refine ⟨m.2 (fun _ => hv.2) (fun _ q => absurd (by rw [hv.1, if_neg c4]; rfl) q), Or.inl (m.1.trans ?_)⟩
    rw [if_neg c1, if_pos (by rw [hv.1, if_neg c4]; rfl)]
theorem seg_D40 (hv : v2 = nI 0 ∨ (v2 = nI 1 ∧ ∃ b, b < 4 ∧ v3 = nI b)) {kk5 : tK5} {sk5 : tP5} {w : jA} {nH nN nF nL t N to : Nat} (hto : to < 4) (htk : tkP C w to (w (16 + to * 2 + 1))) : ∀ (j x fuel c : Nat) (J bef mov nxt chn : jA) (P : Nat → jA) (pn : Nat) (tw : jA) (F sta sm par mv dep th : jA), x + j = nN → j < fuel → SR C off dear proved v2 v3 v4 v5 T c (J, bef, mov, nxt, chn, P, pn) (F, sta, sm, par, mv, dep, th) → AT C w k d c T nH nN nF nL t (J, bef, mov, nxt, chn, P, pn) (F, sta, sm, par, mv, dep, th) →
    ∃ J' bef' mov' nxt' chn' P' pn' tw' came, f_X1_tryGives_40 kk5 fuel C J bef mov nxt chn tw P pn (nI k) k (nI 0) (nI to) (w (16 + to * 2 + 1)) (nI x) = kk5 C J' bef' mov' nxt' chn' tw' P' pn' (nI k) k came (nI (to + 1)) ∧ (sk5 C J' bef' mov' nxt' chn' tw' P' pn' (nI k) k came (nI (to + 1)) → s_X1_tryGives_40 sk5 fuel C J bef mov nxt chn tw P pn (nI k) k (nI 0) (nI to) (w (16 + to * 2 + 1)) (nI x)) ∧ OC C off dear proved v2 v3 v4 v5 T kk sk lg bf v6 k d (N + j) c (J, bef, mov, nxt, chn, P, pn) (F, sta, sm, par, mv, dep, th) (400 + 32 * to + x) N (400 + 32 * to + nN) (J', bef', mov', nxt', chn', P', pn') came
  | 0, x, fuel, c, J, bef, mov, nxt, chn, P, pn, tw, F, sta, sm, par, mv, dep, th, hi, hf, H, A => by
    obtain ⟨fuel, rfl⟩ : ∃ q, fuel = q + 1 := ⟨fuel - 1, by omega⟩
    obtain ⟨a1, a2, a3, a4, a5, a6⟩ := id A
    have h1 := a5.2.1.1
    have hN := a5.2.1.2
    have e : x = nN := by omega
    subst e
    refine ⟨J, bef, mov, nxt, chn, P, pn, tw, nI 0, ?_, fun q => ?_, Or.inl ⟨rfl, c, _, GO.rf H⟩⟩
    · rw [f_X1_tryGives_40, a2]
      simp (disch := omega) only [f_X4_notes, pn_cl, h1, pn_le, Nat.le_refl, if_true, f_X1_tryGives_110, nI_add]
    · rw [s_X1_tryGives_40, a2]
      simp (disch := omega) only [f_X4_notes, pn_cl, h1, pn_le, Nat.le_refl, true_implies, not_true_eq_false, false_implies, and_true, s_X1_tryGives_110, nI_add]
      exact q
  | j + 1, x, fuel, c, J, bef, mov, nxt, chn, P, pn, tw, F, sta, sm, par, mv, dep, th, hi, hf, H, A => by
    obtain ⟨fuel, rfl⟩ : ∃ q, fuel = q + 1 := ⟨fuel - 1, by omega⟩
    obtain ⟨a1, a2, a3, a4, a5, a6⟩ := id A
    have h1 := a5.2.1.1
    have hN := a5.2.1.2
    have hx : x < nN := by omega
    have nx : ¬ nN ≤ x := by omega
    have hc := has_c (p := 4) h1 hN (by omega) hx
    by_cases hb4 : bt (w (142 + x * 11 + 10)) 4 = true
    · obtain ⟨b, b1, b2, b3⟩ := bec_eq (tw := tw) h1 hN
      have Rb := WR_AG a5 b3
      have eb := eV_AG C off dear proved h1 hN b3
      have tb : tkP C b to (w (16 + to * 2 + 1)) := by
        unfold tkP at htk ⊢
        rw [b3 _ (by omega)]; exact htk
      obtain ⟨w', k1, k2, k3, k4, k5⟩ := give_yes C off dear proved (y := (-1)) (z := w (16 + to * 2 + 1)) Rb (show to < 5 by omega) hx (Or.inl rfl) tb
      rw [eb] at k3 k4
      have e12 : eV C off dear proved w 12 = nI nN := h1
      have eg := eV_gs C off dear proved w (b := to) (by omega)
      have hv4 := has_v C off dear proved (p := 4) h1 hN (by omega) hx
      have mD := mkD (v := eV C off dear proved w) (F := F) (lg := lg) (v3 := v3) (v4 := v4) (v5 := v5) hto (show x < 32 by omega) e12 hN
      rw [eg, k3] at mD
      have mk : f_X6_makes (eV C off dear proved (P k)) F lg (nI (400 + 32 * to + x)) v3 v4 v5 = (eV C off dear proved w', upd F 24 (nI 0), lg, nI 1) := by
        rw [a2]
        refine mD.1.trans ?_
        rw [if_neg nx, if_neg (by rw [hv4.1, if_pos hb4]; exact n1z)]
      have smk : s_X6_makes (eV C off dear proved (P k)) F lg (nI (400 + 32 * to + x)) v3 v4 v5 := by
        rw [a2]
        exact mD.2 (fun _ => hv4.2) (fun _ _ => k4)
      obtain ⟨J1, bef1, mov1, nxt1, chn1, P1, pn1, came, r1, r2, r3⟩ := reach_st (kk := kk) (sk := sk) (bf := bf) (v6 := v6) (n := N + j) (m := 400 + 32 * to + x) (l := nI 0) H hv a1 a3 a4 (okD hto (by omega)) k5.1 (by omega) (fun _ => rfl) mk smk
      have hp := r3.pn a1
      rcases r3.c0 with ⟨ec, c1, ⟨F1, sta1, sm1, par1, mv1, dep1, th1⟩, g⟩ | ⟨ec, ec0, hs⟩
      · subst ec
        obtain ⟨J2, bef2, mov2, nxt2, chn2, P2, pn2, tw2, came2, p1, p2, p3⟩ := seg_D40 hv (kk5 := kk5) (sk5 := sk5) (N := N) hto htk j (x + 1) fuel c1 J1 bef1 mov1 nxt1 chn1 P1 pn1 w' F1 sta1 sm1 par1 mv1 dep1 th1 (by omega) (by omega) g.1 (A.ex g.2.1)
        refine ⟨J2, bef2, mov2, nxt2, chn2, P2, pn2, tw2, came2, ?_, fun z => ?_, g.oc p3⟩
        · rw [f_X1_tryGives_40, a2]
          simp (disch := omega) only [f_X4_notes, pn_cl, h1, pn_le, nx, if_false, n00, if_true, hc.1, hb4, n1z, b1, f_X1_tryGives_71, k1, f_X1_tryGives_85, f_X1_tryGives_103, f_X1_tryGives_104, pk_mul, nI_add, r1]
          exact p1
        · rw [s_X1_tryGives_40, a2]
          simp (disch := omega) only [f_X4_notes, pn_cl, h1, pn_le, nx, not_false_eq_true, true_implies, false_implies, true_and, n00, hc.1, hc.2, hb4, if_true, n1z, not_true_eq_false, and_true, b1, b2, s_X1_tryGives_71, k1, k2, s_X1_tryGives_85, s_X1_tryGives_103, s_X1_tryGives_104, pk_mul, nI_add, r1, r2, hp]
          exact p2 z
      · obtain ⟨fuel, rfl⟩ : ∃ q, fuel = q + 1 := ⟨fuel - 1, by omega⟩
        refine ⟨J1, bef1, mov1, nxt1, chn1, P1, pn1, w', came, ?_, fun z => ?_, hs _ _⟩
        · rw [f_X1_tryGives_40, a2]
          simp (disch := omega) only [f_X4_notes, pn_cl, h1, pn_le, nx, if_false, n00, if_true, hc.1, hb4, n1z, b1, f_X1_tryGives_71, k1, f_X1_tryGives_85, f_X1_tryGives_103, f_X1_tryGives_104, pk_mul, nI_add, r1]
          rw [f_X1_tryGives_40]
          simp only [ec0, if_false, ite_self, f_X1_tryGives_110, nI_add]
        · rw [s_X1_tryGives_40, a2]
          simp (disch := omega) only [f_X4_notes, pn_cl, h1, pn_le, nx, not_false_eq_true, true_implies, false_implies, true_and, n00, hc.1, hc.2, hb4, if_true, n1z, not_true_eq_false, and_true, b1, b2, s_X1_tryGives_71, k1, k2, s_X1_tryGives_85, s_X1_tryGives_103, s_X1_tryGives_104, pk_mul, nI_add, r1, r2, hp]
          rw [s_X1_tryGives_40]
          have s110 : s_X1_tryGives_110 sk5 C J1 bef1 mov1 nxt1 chn1 w' P1 pn1 (nI k) k came (nI to) := by
            unfold s_X1_tryGives_110
            rw [nI_add]; exact z
          exact ⟨fun _ => s110, fun _ => ⟨fun y => absurd y ec0, fun _ => s110⟩⟩
    · obtain ⟨Y', g⟩ := skips (kk := kk) (sk := sk) (lg := lg) (bf := bf) (v6 := v6) hv (n := N + j) 1 (400 + 32 * to + x) _ _ H A (fun i hi => by
        have e0 : i = 0 := by omega
        subst e0
        exact nopD a5 hto (by omega) (fun _ q => absurd q hb4))
      obtain ⟨F1, sta1, sm1, par1, mv1, dep1, th1⟩ := Y'
      obtain ⟨J2, bef2, mov2, nxt2, chn2, P2, pn2, tw2, came2, p1, p2, p3⟩ := seg_D40 hv (kk5 := kk5) (sk5 := sk5) (N := N) hto htk j (x + 1) fuel c J bef mov nxt chn P pn tw F1 sta1 sm1 par1 mv1 dep1 th1 (by omega) (by omega) g.1 (A.ex g.2.1)
      refine ⟨J2, bef2, mov2, nxt2, chn2, P2, pn2, tw2, came2, ?_, fun z => ?_, g.oc p3⟩
      · rw [f_X1_tryGives_40, a2]
        simp (disch := omega) only [f_X4_notes, pn_cl, h1, pn_le, nx, if_false, n00, if_true, hc.1, hb4, Bool.false_eq_true, f_X1_tryGives_104, nI_add]
        exact p1
      · rw [s_X1_tryGives_40, a2]
        simp (disch := omega) only [f_X4_notes, pn_cl, h1, pn_le, nx, not_false_eq_true, true_implies, false_implies, true_and, n00, hc.1, hc.2, hb4, Bool.false_eq_true, if_false, not_true_eq_false, and_true, s_X1_tryGives_104, nI_add]
        exact p2 z
theorem seg_D (hv : v2 = nI 0 ∨ (v2 = nI 1 ∧ ∃ b, b < 4 ∧ v3 = nI b)) {w : jA} {nH nN nF nL t N : Nat} : ∀ (j to fuel c : Nat) (J bef mov nxt chn : jA) (P : Nat → jA) (pn : Nat) (tw : jA) (F sta sm par mv dep th : jA), to + j = 4 → j < fuel → SR C off dear proved v2 v3 v4 v5 T c (J, bef, mov, nxt, chn, P, pn) (F, sta, sm, par, mv, dep, th) → AT C w k d c T nH nN nF nL t (J, bef, mov, nxt, chn, P, pn) (F, sta, sm, par, mv, dep, th) →
    ∃ J' bef' mov' nxt' chn' P' pn' tw' came, f_X1_tryGives_5 fuel C J bef mov nxt chn tw P pn (nI k) k (nI 0) (nI to) = (J', bef', mov', nxt', chn', tw', P', pn', came) ∧ s_X1_tryGives_5 fuel C J bef mov nxt chn tw P pn (nI k) k (nI 0) (nI to) ∧ OC C off dear proved v2 v3 v4 v5 T kk sk lg bf v6 k d (N + 32 * j) c (J, bef, mov, nxt, chn, P, pn) (F, sta, sm, par, mv, dep, th) (400 + 32 * to) N 528 (J', bef', mov', nxt', chn', P', pn') came
  | 0, to, fuel, c, J, bef, mov, nxt, chn, P, pn, tw, F, sta, sm, par, mv, dep, th, hi, hf, H, A => by
    obtain ⟨fuel, rfl⟩ : ∃ q, fuel = q + 1 := ⟨fuel - 1, by omega⟩
    have e : to = 4 := by omega
    subst e
    refine ⟨J, bef, mov, nxt, chn, P, pn, tw, nI 0, ?_, ?_, Or.inl ⟨rfl, c, _, GO.rf H⟩⟩
    · rw [f_X1_tryGives_5]
      simp (disch := omega) only [pn_le, Nat.le_refl, if_true]
    · rw [s_X1_tryGives_5]
      simp (disch := omega) only [pn_le, Nat.le_refl, not_true_eq_false, false_implies]
  | j + 1, to, fuel, c, J, bef, mov, nxt, chn, P, pn, tw, F, sta, sm, par, mv, dep, th, hi, hf, H, A => by
    obtain ⟨fuel, rfl⟩ : ∃ q, fuel = q + 1 := ⟨fuel - 1, by omega⟩
    obtain ⟨a1, a2, a3, a4, a5, a6⟩ := id A
    have h1 := a5.2.1.1
    have hN := a5.2.1.2
    have hto : to < 4 := by omega
    have nt : ¬ 4 ≤ to := by omega
    have kp : f_X4_knownPair w (nI to) = w (16 + to * 2 + 1) ∧ s_X4_knownPair w (nI to) := by
      simp (disch := omega) only [f_X4_knownPair, s_X4_knownPair, isBr_eq (show to < 5 by omega), n1z, if_false, nI_add, pk_mul, pn_cl, pn_in, implies_true, and_self]
    have tk := takes_eq (C := C) (w := w) (b := to) (z := w (16 + to * 2 + 1)) (by omega)
    by_cases htk : tkP C w to (w (16 + to * 2 + 1))
    · have tf : (f_X4_takes w C (nI to) (w (16 + to * 2 + 1)) = 0) = False := by rw [tk.1]; exact eq_false (fun q => q htk)
      obtain ⟨J1, bef1, mov1, nxt1, chn1, P1, pn1, tw1, came, q1, q2, q3⟩ := seg_D40 (kk := kk) (sk := sk) (bf := bf) (v6 := v6) hv (kk5 := f_X1_tryGives_5 fuel) (sk5 := s_X1_tryGives_5 fuel) (N := N + 32 * j + (32 - nN)) hto htk nN 0 ng_F c J bef mov nxt chn P pn tw F sta sm par mv dep th (by omega) (by rw [ng_F_v]; omega) H A
      rw [show N + 32 * j + (32 - nN) + nN = N + 32 * (j + 1) by omega, show 400 + 32 * to + 0 = 400 + 32 * to by omega] at q3
      have q4 : OC C off dear proved v2 v3 v4 v5 T kk sk lg bf v6 k d (N + 32 * (j + 1)) c (J, bef, mov, nxt, chn, P, pn) (F, sta, sm, par, mv, dep, th) (400 + 32 * to) (N + 32 * j) (400 + 32 * (to + 1)) (J1, bef1, mov1, nxt1, chn1, P1, pn1) came := by
        refine q3.go fun c1 Y1 h1' h2' => ?_
        obtain ⟨Y2, g⟩ := skips (kk := kk) (sk := sk) (lg := lg) (bf := bf) (v6 := v6) hv (n := N + 32 * j) (32 - nN) (400 + 32 * to + nN) _ Y1 h1' (A.ex h2') (fun i hi => by
          have z := nopD (off := off) (dear := dear) (proved := proved) (v2 := v2) (v3 := v3) (v4 := v4) (v5 := v5) (lg := lg) (to := to) (x := nN + i) a5 hto (by omega) (fun q => by omega)
          rw [show 400 + 32 * to + (nN + i) = 400 + 32 * to + nN + i by omega] at z
          exact z)
        rw [show 400 + 32 * to + nN + (32 - nN) = 400 + 32 * (to + 1) by omega] at g
        exact ⟨Y2, g⟩
      rcases q4.c0 with ⟨ec, c1, ⟨F1, sta1, sm1, par1, mv1, dep1, th1⟩, g⟩ | ⟨ec, ec0, hs⟩
      · subst ec
        obtain ⟨J2, bef2, mov2, nxt2, chn2, P2, pn2, tw2, came2, p1, p2, p3⟩ := seg_D hv (N := N) j (to + 1) fuel c1 J1 bef1 mov1 nxt1 chn1 P1 pn1 tw1 F1 sta1 sm1 par1 mv1 dep1 th1 (by omega) (by omega) g.1 (A.ex g.2.1)
        refine ⟨J2, bef2, mov2, nxt2, chn2, P2, pn2, tw2, came2, ?_, ?_, g.oc p3⟩
        · rw [f_X1_tryGives_5, a2]
          simp (disch := omega) only [pn_le, nt, if_false, n00, if_true, kp.1, tf]
          exact q1.trans p1
        · rw [s_X1_tryGives_5, a2]
          simp (disch := omega) only [pn_le, nt, not_false_eq_true, true_implies, n00, kp.1, kp.2, tk.2, tf, false_implies, true_and]
          exact q2 p2
      · obtain ⟨fuel, rfl⟩ : ∃ q, fuel = q + 1 := ⟨fuel - 1, by omega⟩
        refine ⟨J1, bef1, mov1, nxt1, chn1, P1, pn1, tw1, came, ?_, ?_, hs _ _⟩
        · rw [f_X1_tryGives_5, a2]
          simp (disch := omega) only [pn_le, nt, if_false, n00, if_true, kp.1, tf]
          refine q1.trans ?_
          rw [f_X1_tryGives_5]
          simp only [ec0, if_false, ite_self]
        · rw [s_X1_tryGives_5, a2]
          simp (disch := omega) only [pn_le, nt, not_false_eq_true, true_implies, n00, kp.1, kp.2, tk.2, tf, false_implies, true_and]
          refine q2 ?_
          rw [s_X1_tryGives_5]
          exact fun _ z => absurd z ec0
    · have tf : (f_X4_takes w C (nI to) (w (16 + to * 2 + 1)) = 0) = True := by rw [tk.1]; exact eq_true htk
      obtain ⟨Y', g⟩ := skips (kk := kk) (sk := sk) (lg := lg) (bf := bf) (v6 := v6) hv (n := N + 32 * j) 32 (400 + 32 * to) _ _ H A (fun i hi => nopD a5 hto hi (fun _ _ => htk))
      rw [show N + 32 * j + 32 = N + 32 * (j + 1) by omega, show 400 + 32 * to + 32 = 400 + 32 * (to + 1) by omega] at g
      obtain ⟨F1, sta1, sm1, par1, mv1, dep1, th1⟩ := Y'
      obtain ⟨J2, bef2, mov2, nxt2, chn2, P2, pn2, tw2, came2, p1, p2, p3⟩ := seg_D hv (N := N) j (to + 1) fuel c J bef mov nxt chn P pn tw F1 sta1 sm1 par1 mv1 dep1 th1 (by omega) (by omega) g.1 (A.ex g.2.1)
      refine ⟨J2, bef2, mov2, nxt2, chn2, P2, pn2, tw2, came2, ?_, ?_, g.oc p3⟩
      · rw [f_X1_tryGives_5, a2]
        simp (disch := omega) only [pn_le, nt, if_false, n00, if_true, kp.1, tf, f_X1_tryGives_110, nI_add]
        exact p1
      · rw [s_X1_tryGives_5, a2]
        simp (disch := omega) only [pn_le, nt, not_false_eq_true, true_implies, n00, kp.1, kp.2, tk.2, tf, not_true_eq_false, false_implies, true_and, and_true, s_X1_tryGives_110, nI_add]
        exact p2
theorem st_D (hv : v2 = nI 0 ∨ (v2 = nI 1 ∧ ∃ b, b < 4 ∧ v3 = nI b)) {w : jA} {nH nN nF nL t N c : Nat} {J bef mov nxt chn : jA} {P : Nat → jA} {pn : Nat} {tw : jA} {F sta sm par mv dep th : jA} (H : SR C off dear proved v2 v3 v4 v5 T c (J, bef, mov, nxt, chn, P, pn) (F, sta, sm, par, mv, dep, th)) (A : AT C w k d c T nH nN nF nL t (J, bef, mov, nxt, chn, P, pn) (F, sta, sm, par, mv, dep, th)) :
    ∃ J' bef' mov' nxt' chn' P' pn' tw' came, f_X1_tryGives C J bef mov nxt chn tw P pn (nI k) k = (J', bef', mov', nxt', chn', tw', P', pn', came) ∧ s_X1_tryGives C J bef mov nxt chn tw P pn (nI k) k ∧ OC C off dear proved v2 v3 v4 v5 T kk sk lg bf v6 k d (N + 128) c (J, bef, mov, nxt, chn, P, pn) (F, sta, sm, par, mv, dep, th) 400 N 528 (J', bef', mov', nxt', chn', P', pn') came :=
  seg_D (kk := kk) (sk := sk) (bf := bf) (v6 := v6) hv (N := N) 4 0 ng_F c J bef mov nxt chn P pn tw F sta sm par mv dep th (by omega) (by rw [ng_F_v]; omega) H A
end SGD
