section SGB2
variable {C off dear proved : jA} {v2 v3 v4 v5 : Int32} {T : Nat} {kk : rK} {sk : rP} {lg bf : jA} {v6 : Int32} {k d : Nat}
abbrev tK2 : Type := jA → jA → jA → jA → jA → jA → jA → jA → jA → (Nat → jA) → Nat → Int32 → Nat → Int32 → (jA × jA × jA × jA × jA × jA × (Nat → jA) × Nat × Int32)
abbrev tP2 : Type := jA → jA → jA → jA → jA → jA → jA → jA → jA → (Nat → jA) → Nat → Int32 → Nat → Int32 → Prop
theorem seg_B25 (hv : v2 = nI 0 ∨ (v2 = nI 1 ∧ ∃ b, b < 4 ∧ v3 = nI b)) {kk2 : tK2} {sk2 : tP2} {w : jA} {nH nN nF nL t N x : Nat} (hx : x < nN) (hb4 : bt (w (142 + x * 11 + 10)) 4 = true) : ∀ (j h fuel c : Nat) (J bef mov nxt chn : jA) (P : Nat → jA) (pn : Nat) (tw : jA) (F sta sm par mv dep th : jA), h + j = 4 → j < fuel → SR C off dear proved v2 v3 v4 v5 T c (J, bef, mov, nxt, chn, P, pn) (F, sta, sm, par, mv, dep, th) → AT C w k d c T nH nN nF nL t (J, bef, mov, nxt, chn, P, pn) (F, sta, sm, par, mv, dep, th) →
    ∃ J' bef' mov' nxt' chn' P' pn' tw' came, (came = nI 0 → f_X1_tryShows_25 kk2 fuel C off dear J bef mov nxt chn tw P pn (nI k) k (nI x) (nI h) = kk2 C off dear J' bef' mov' nxt' chn' tw' P' pn' (nI k) k (nI (x + 1))) ∧ (¬ came = nI 0 → f_X1_tryShows_25 kk2 fuel C off dear J bef mov nxt chn tw P pn (nI k) k (nI x) (nI h) = (J', bef', mov', nxt', chn', tw', P', pn', came)) ∧ ((came = nI 0 → sk2 C off dear J' bef' mov' nxt' chn' tw' P' pn' (nI k) k (nI (x + 1))) → s_X1_tryShows_25 sk2 fuel C off dear J bef mov nxt chn tw P pn (nI k) k (nI x) (nI h)) ∧ OC C off dear proved v2 v3 v4 v5 T kk sk lg bf v6 k d (N + j) c (J, bef, mov, nxt, chn, P, pn) (F, sta, sm, par, mv, dep, th) (100 + 4 * x + h) N (100 + 4 * x + 4) (J', bef', mov', nxt', chn', P', pn') came
  | 0, h, fuel, c, J, bef, mov, nxt, chn, P, pn, tw, F, sta, sm, par, mv, dep, th, hi, hf, H, A => by
    obtain ⟨fuel, rfl⟩ : ∃ q, fuel = q + 1 := ⟨fuel - 1, by omega⟩
    have e : h = 4 := by omega
    subst e
    refine ⟨J, bef, mov, nxt, chn, P, pn, tw, nI 0, fun _ => ?_, fun q => absurd rfl q, fun q => ?_, Or.inl ⟨rfl, c, _, GO.rf H⟩⟩
    · rw [f_X1_tryShows_25]
      simp (disch := omega) only [pn_le, Nat.le_refl, if_true, f_X1_tryShows_137, nI_add]
    · rw [s_X1_tryShows_25]
      simp (disch := omega) only [pn_le, Nat.le_refl, true_implies, not_true_eq_false, false_implies, and_true, s_X1_tryShows_137, nI_add]
      exact q rfl
  | j + 1, h, fuel, c, J, bef, mov, nxt, chn, P, pn, tw, F, sta, sm, par, mv, dep, th, hi, hf, H, A => by
    obtain ⟨fuel, rfl⟩ : ∃ q, fuel = q + 1 := ⟨fuel - 1, by omega⟩
    obtain ⟨a1, a2, a3, a4, a5, a6⟩ := id A
    have hN := a5.2.1.2
    obtain ⟨j1, j2, j3, j4⟩ := H.2.2.1
    have hh : h < 4 := by omega
    have nh : ¬ 4 ≤ h := by omega
    have ve := verd_eq C off dear proved (r := v5) a5 hh hx
    have nwd := noteWord_eq (j := 1) a5.2.1.1 hN hx (by omega)
    by_cases vz : f_X4_verdict w C off dear (nI h) (nI x) v5 = 0
    · -- let in
      obtain ⟨b, b1, b2, b3⟩ := bec_eq (tw := tw) a5.2.1.1 hN
      have Rb := WR_AG a5 b3
      have eb := eV_AG C off dear proved a5.2.1.1 hN b3
      have hF : ¬ F 2 = 0 := H.2.2.2.1
      obtain ⟨h1, -, -⟩ := verd_0 a5 hx hh vz
      have veb : f_X4_verdict b C off dear (nI h) (nI x) v5 = 0 := by
        rw [← (verd_eq C off dear proved (r := v5) Rb hh hx).1, eb, ve.1]; exact vz
      have hbb : bt (b (142 + x * 11 + 10)) 4 = true := by rw [b3 _ (by omega)]; exact hb4
      have mb := mkB_yes (proved := proved) (lg := lg) (v3 := v3) (v4 := v4) Rb hx hh hbb veb hF
      rw [eb, b3 (142 + x * 11 + 1) (by omega)] at mb
      have li := li_st C off dear proved Rb h1 hx
      by_cases gm : v2 = 0 ∧ nI h = v3 ∧ w (142 + x * 11 + 1) = v4
      · -- the goal is met
        obtain ⟨g1, g2, g3⟩ := gm
        rw [if_pos g2, if_pos g3, ← a2] at mb
        refine ⟨upd (upd J 14 (nI k)) 15 (nI (100 + 4 * x + h)), bef, mov, nxt, chn, P, pn, tw, nI 1, fun q => absurd q n01, fun _ => ?_, fun _ => ?_, meet_oc H g1 a1 a3 (okB (by omega) hh) (NZ_eV _ _ _ _ _) mb.1 mb.2 N _⟩
        · rw [f_X1_tryShows_25, a2]
          simp (disch := omega) only [pn_le, nh, if_false, j1, j2, j3, j4, vz, if_true, g1, ← g2, nwd.1, g3, f_X1_meet, pk_mul, nI_add]
        · rw [s_X1_tryShows_25, a2]
          simp (disch := omega) only [pn_le, nh, not_false_eq_true, true_implies, false_implies, true_and, j1, j2, j3, j4, vz, ve.2.1, g1, ← g2, nwd.1, nwd.2, g3, not_true_eq_false, and_true]
      · -- it goes on
        have R2 := li.2.2.2.2.1
        have hl : v2 = nI 0 → (if nI h = v3 then (if w (142 + x * 11 + 1) = v4 then nI 1 else nI 0) else nI 0) = nI 0 := fun q => by
          by_cases q1 : nI h = v3
          · by_cases q2 : w (142 + x * 11 + 1) = v4
            · exact absurd ⟨q, q1, q2⟩ gm
            · rw [if_pos q1, if_neg q2]
          · rw [if_neg q1]
        rw [← a2] at mb
        obtain ⟨J1, bef1, mov1, nxt1, chn1, P1, pn1, came, r1, r2, r3⟩ := reach_st (kk := kk) (sk := sk) (bf := bf) (v6 := v6) (n := N + j) (m := 100 + 4 * x + h) H hv a1 a3 a4 (okB (by omega) hh) R2 (by omega) (by rw [a2]; exact hl) mb.1 mb.2
        have hp := r3.pn a1
        have f25 : f_X1_tryShows_25 kk2 (fuel + 1) C off dear J bef mov nxt chn tw P pn (nI k) k (nI x) (nI h) = f_X1_tryShows_121 kk2 (f_X1_tryShows_25 kk2 fuel) C off dear J1 bef1 mov1 nxt1 chn1 (liW b h x) P1 pn1 (nI k) k (nI x) (nI h) came := by
          have f96 : f_X1_tryShows_96 kk2 (f_X1_tryShows_25 kk2 fuel) C off dear J bef mov nxt chn tw P pn (nI k) k (nI x) (nI h) (nI (100 + 4 * x + h)) = f_X1_tryShows_121 kk2 (f_X1_tryShows_25 kk2 fuel) C off dear J1 bef1 mov1 nxt1 chn1 (liW b h x) P1 pn1 (nI k) k (nI x) (nI h) came := by
            simp only [f_X1_tryShows_96, f_X1_tryShows_104, f_X1_tryShows_114, a2, b1, li.1, r1]
          rw [f_X1_tryShows_25, a2]
          simp (disch := omega) only [pn_le, nh, if_false, j1, j2, j3, j4, vz, if_true, nwd.1, pk_mul, nI_add, f96]
          by_cases q1 : v2 = 0
          · by_cases q2 : nI h = v3
            · rw [if_pos q1, if_pos q2, if_neg (fun q3 => gm ⟨q1, q2, q3⟩)]
            · rw [if_pos q1, if_neg q2]
          · rw [if_neg q1]
        have s25 : s_X1_tryShows_121 sk2 (s_X1_tryShows_25 sk2 fuel) C off dear J1 bef1 mov1 nxt1 chn1 (liW b h x) P1 pn1 (nI k) k (nI x) (nI h) came → s_X1_tryShows_25 sk2 (fuel + 1) C off dear J bef mov nxt chn tw P pn (nI k) k (nI x) (nI h) := fun q => by
          have s96 : s_X1_tryShows_96 sk2 (s_X1_tryShows_25 sk2 fuel) C off dear J bef mov nxt chn tw P pn (nI k) k (nI x) (nI h) (nI (100 + 4 * x + h)) := by
            simp only [s_X1_tryShows_96, s_X1_tryShows_104, s_X1_tryShows_114, a2, b1, b2, li.1, li.2.1, r1, r2, hp, true_and]
            exact q
          rw [s_X1_tryShows_25, a2]
          simp (disch := omega) only [pn_le, nh, not_false_eq_true, true_implies, false_implies, true_and, j1, j2, j3, j4, vz, ve.2.1, nwd.1, nwd.2, pk_mul, nI_add, s96, implies_true, and_true, not_true_eq_false]
        rcases r3.c0 with ⟨ec, c1, ⟨F1, sta1, sm1, par1, mv1, dep1, th1⟩, g⟩ | ⟨ec, ec0, hs⟩
        · subst ec
          obtain ⟨J2, bef2, mov2, nxt2, chn2, P2, pn2, tw2, came2, q1, q2, q3, q4⟩ := seg_B25 hv (kk2 := kk2) (sk2 := sk2) (N := N) hx hb4 j (h + 1) fuel c1 J1 bef1 mov1 nxt1 chn1 P1 pn1 (liW b h x) F1 sta1 sm1 par1 mv1 dep1 th1 (by omega) (by omega) g.1 (A.ex g.2.1)
          refine ⟨J2, bef2, mov2, nxt2, chn2, P2, pn2, tw2, came2, fun z => f25.trans ?_, fun z => f25.trans ?_, fun z => s25 ?_, g.oc q4⟩
          · unfold f_X1_tryShows_121 f_X1_tryShows_131
            rw [if_pos b_n0, nI_add]; exact q1 z
          · unfold f_X1_tryShows_121 f_X1_tryShows_131
            rw [if_pos b_n0, nI_add]; exact q2 z
          · unfold s_X1_tryShows_121 s_X1_tryShows_131
            rw [nI_add]; exact fun _ => q3 z
        · refine ⟨J1, bef1, mov1, nxt1, chn1, P1, pn1, liW b h x, came, fun z => absurd z ec, fun _ => f25.trans ?_, fun _ => s25 ?_, hs _ _⟩
          · unfold f_X1_tryShows_121
            rw [if_neg ec0]
          · unfold s_X1_tryShows_121
            exact fun z => absurd z ec0
    · -- not let in
      obtain ⟨Y', g⟩ := skips (kk := kk) (sk := sk) (lg := lg) (bf := bf) (v6 := v6) hv (n := N + j) 1 (100 + 4 * x + h) _ _ H A (fun i hi => by
        have e0 : i = 0 := by omega
        subst e0
        exact nopB a5 (by omega) hh (fun _ _ => vz))
      obtain ⟨F1, sta1, sm1, par1, mv1, dep1, th1⟩ := Y'
      obtain ⟨J2, bef2, mov2, nxt2, chn2, P2, pn2, tw2, came2, q1, q2, q3, q4⟩ := seg_B25 hv (kk2 := kk2) (sk2 := sk2) (N := N) hx hb4 j (h + 1) fuel c J bef mov nxt chn P pn tw F1 sta1 sm1 par1 mv1 dep1 th1 (by omega) (by omega) g.1 (A.ex g.2.1)
      refine ⟨J2, bef2, mov2, nxt2, chn2, P2, pn2, tw2, came2, fun z => ?_, fun z => ?_, fun z => ?_, g.oc q4⟩
      · rw [f_X1_tryShows_25, a2]
        simp (disch := omega) only [pn_le, nh, if_false, j4, vz, f_X1_tryShows_131, nI_add]
        exact q1 z
      · rw [f_X1_tryShows_25, a2]
        simp (disch := omega) only [pn_le, nh, if_false, j4, vz, f_X1_tryShows_131, nI_add]
        exact q2 z
      · rw [s_X1_tryShows_25, a2]
        simp (disch := omega) only [pn_le, nh, not_false_eq_true, true_implies, false_implies, true_and, j4, vz, ve.2.1, s_X1_tryShows_131, nI_add]
        exact q3 z
theorem seg_B (hv : v2 = nI 0 ∨ (v2 = nI 1 ∧ ∃ b, b < 4 ∧ v3 = nI b)) {w : jA} {nH nN nF nL t N : Nat} : ∀ (j x fuel c : Nat) (J bef mov nxt chn : jA) (P : Nat → jA) (pn : Nat) (tw : jA) (F sta sm par mv dep th : jA), x + j = nN → j < fuel → SR C off dear proved v2 v3 v4 v5 T c (J, bef, mov, nxt, chn, P, pn) (F, sta, sm, par, mv, dep, th) → AT C w k d c T nH nN nF nL t (J, bef, mov, nxt, chn, P, pn) (F, sta, sm, par, mv, dep, th) →
    ∃ J' bef' mov' nxt' chn' P' pn' tw' came, f_X1_tryShows_2 fuel C off dear J bef mov nxt chn tw P pn (nI k) k (nI x) = (J', bef', mov', nxt', chn', tw', P', pn', came) ∧ s_X1_tryShows_2 fuel C off dear J bef mov nxt chn tw P pn (nI k) k (nI x) ∧ OC C off dear proved v2 v3 v4 v5 T kk sk lg bf v6 k d (N + 4 * j) c (J, bef, mov, nxt, chn, P, pn) (F, sta, sm, par, mv, dep, th) (100 + 4 * x) N (100 + 4 * nN) (J', bef', mov', nxt', chn', P', pn') came
  | 0, x, fuel, c, J, bef, mov, nxt, chn, P, pn, tw, F, sta, sm, par, mv, dep, th, hi, hf, H, A => by
    obtain ⟨fuel, rfl⟩ : ∃ q, fuel = q + 1 := ⟨fuel - 1, by omega⟩
    obtain ⟨a1, a2, a3, a4, a5, a6⟩ := id A
    have h1 := a5.2.1.1
    have hN := a5.2.1.2
    have e : x = nN := by omega
    subst e
    refine ⟨J, bef, mov, nxt, chn, P, pn, tw, nI 0, ?_, ?_, Or.inl ⟨rfl, c, _, GO.rf H⟩⟩
    · rw [f_X1_tryShows_2, a2]
      simp (disch := omega) only [f_X4_notes, pn_cl, h1, pn_le, Nat.le_refl, if_true]
    · rw [s_X1_tryShows_2, a2]
      simp (disch := omega) only [f_X4_notes, pn_cl, h1, pn_le, Nat.le_refl, not_true_eq_false, false_implies]
  | j + 1, x, fuel, c, J, bef, mov, nxt, chn, P, pn, tw, F, sta, sm, par, mv, dep, th, hi, hf, H, A => by
    obtain ⟨fuel, rfl⟩ : ∃ q, fuel = q + 1 := ⟨fuel - 1, by omega⟩
    obtain ⟨a1, a2, a3, a4, a5, a6⟩ := id A
    have h1 := a5.2.1.1
    have hN := a5.2.1.2
    have hx : x < nN := by omega
    have nx : ¬ nN ≤ x := by omega
    have hc := has_c (p := 4) h1 hN (by omega) hx
    by_cases hb4 : bt (w (142 + x * 11 + 10)) 4 = true
    · obtain ⟨J1, bef1, mov1, nxt1, chn1, P1, pn1, tw1, came, q1, q2, q3, q4⟩ := seg_B25 (kk := kk) (sk := sk) (bf := bf) (v6 := v6) hv (kk2 := f_X1_tryShows_2 fuel) (sk2 := s_X1_tryShows_2 fuel) (N := N + 4 * j) hx hb4 4 0 ng_F c J bef mov nxt chn P pn tw F sta sm par mv dep th (by omega) (by rw [ng_F_v]; omega) H A
      rw [show N + 4 * j + 4 = N + 4 * (j + 1) by omega, show 100 + 4 * x + 0 = 100 + 4 * x by omega, show 100 + 4 * x + 4 = 100 + 4 * (x + 1) by omega] at q4
      rcases q4.c0 with ⟨ec, c1, ⟨F1, sta1, sm1, par1, mv1, dep1, th1⟩, g⟩ | ⟨ec, ec0, hs⟩
      · obtain ⟨J2, bef2, mov2, nxt2, chn2, P2, pn2, tw2, came2, p1, p2, p3⟩ := seg_B hv (N := N) j (x + 1) fuel c1 J1 bef1 mov1 nxt1 chn1 P1 pn1 tw1 F1 sta1 sm1 par1 mv1 dep1 th1 (by omega) (by omega) g.1 (A.ex g.2.1)
        refine ⟨J2, bef2, mov2, nxt2, chn2, P2, pn2, tw2, came2, ?_, ?_, g.oc p3⟩
        · rw [f_X1_tryShows_2, a2]
          simp (disch := omega) only [f_X4_notes, pn_cl, h1, pn_le, nx, if_false, hc.1, hb4, if_true, n1z]
          exact (q1 ec).trans p1
        · rw [s_X1_tryShows_2, a2]
          simp (disch := omega) only [f_X4_notes, pn_cl, h1, pn_le, nx, not_false_eq_true, true_implies, hc.1, hc.2, hb4, if_true, n1z, false_implies, true_and]
          exact q3 (fun _ => p2)
      · refine ⟨J1, bef1, mov1, nxt1, chn1, P1, pn1, tw1, came, ?_, ?_, hs _ _⟩
        · rw [f_X1_tryShows_2, a2]
          simp (disch := omega) only [f_X4_notes, pn_cl, h1, pn_le, nx, if_false, hc.1, hb4, if_true, n1z]
          exact q2 ec
        · rw [s_X1_tryShows_2, a2]
          simp (disch := omega) only [f_X4_notes, pn_cl, h1, pn_le, nx, not_false_eq_true, true_implies, hc.1, hc.2, hb4, if_true, n1z, false_implies, true_and]
          exact q3 (fun z => absurd z ec)
    · obtain ⟨Y', g⟩ := skips (kk := kk) (sk := sk) (lg := lg) (bf := bf) (v6 := v6) hv (n := N + 4 * j) 4 (100 + 4 * x) _ _ H A (fun i hi => nopB a5 (by omega) (by omega) (fun _ q => absurd q hb4))
      rw [show N + 4 * j + 4 = N + 4 * (j + 1) by omega, show 100 + 4 * x + 4 = 100 + 4 * (x + 1) by omega] at g
      obtain ⟨F1, sta1, sm1, par1, mv1, dep1, th1⟩ := Y'
      obtain ⟨J2, bef2, mov2, nxt2, chn2, P2, pn2, tw2, came2, p1, p2, p3⟩ := seg_B hv (N := N) j (x + 1) fuel c J bef mov nxt chn P pn tw F1 sta1 sm1 par1 mv1 dep1 th1 (by omega) (by omega) g.1 (A.ex g.2.1)
      refine ⟨J2, bef2, mov2, nxt2, chn2, P2, pn2, tw2, came2, ?_, ?_, g.oc p3⟩
      · rw [f_X1_tryShows_2, a2]
        simp (disch := omega) only [f_X4_notes, pn_cl, h1, pn_le, nx, if_false, hc.1, hb4, Bool.false_eq_true, n00, if_true, f_X1_tryShows_137, nI_add]
        exact p1
      · rw [s_X1_tryShows_2, a2]
        simp (disch := omega) only [f_X4_notes, pn_cl, h1, pn_le, nx, not_false_eq_true, true_implies, hc.1, hc.2, hb4, Bool.false_eq_true, if_false, n00, not_true_eq_false, false_implies, true_and, and_true, s_X1_tryShows_137, nI_add]
        exact p2
theorem st_B (hv : v2 = nI 0 ∨ (v2 = nI 1 ∧ ∃ b, b < 4 ∧ v3 = nI b)) {w : jA} {nH nN nF nL t N c : Nat} {J bef mov nxt chn : jA} {P : Nat → jA} {pn : Nat} {tw : jA} {F sta sm par mv dep th : jA} (H : SR C off dear proved v2 v3 v4 v5 T c (J, bef, mov, nxt, chn, P, pn) (F, sta, sm, par, mv, dep, th)) (A : AT C w k d c T nH nN nF nL t (J, bef, mov, nxt, chn, P, pn) (F, sta, sm, par, mv, dep, th)) :
    ∃ J' bef' mov' nxt' chn' P' pn' tw' came, f_X1_tryShows C off dear J bef mov nxt chn tw P pn (nI k) k = (J', bef', mov', nxt', chn', tw', P', pn', came) ∧ s_X1_tryShows C off dear J bef mov nxt chn tw P pn (nI k) k ∧ OC C off dear proved v2 v3 v4 v5 T kk sk lg bf v6 k d (N + 128) c (J, bef, mov, nxt, chn, P, pn) (F, sta, sm, par, mv, dep, th) 100 N 228 (J', bef', mov', nxt', chn', P', pn') came := by
  have R : WR C w nH nN nF nL t := A.2.2.2.2.1
  have hN := R.2.1.2
  obtain ⟨J', bef', mov', nxt', chn', P', pn', tw', came, q1, q2, q3⟩ := seg_B (kk := kk) (sk := sk) (bf := bf) (v6 := v6) hv (N := N + (128 - 4 * nN)) nN 0 ng_F c J bef mov nxt chn P pn tw F sta sm par mv dep th (by omega) (by rw [ng_F_v]; omega) H A
  refine ⟨J', bef', mov', nxt', chn', P', pn', tw', came, q1, q2, ?_⟩
  rw [show N + (128 - 4 * nN) + 4 * nN = N + 128 by omega] at q3
  refine OC.go (m0 := 100) q3 fun c1 Y1 h1 h2 => ?_
  obtain ⟨Y2, g⟩ := skips (kk := kk) (sk := sk) (lg := lg) (bf := bf) (v6 := v6) hv (n := N) (128 - 4 * nN) (100 + 4 * nN) _ Y1 h1 (A.ex h2) (fun i hi => by
    have z := nopB (off := off) (dear := dear) (proved := proved) (v2 := v2) (v3 := v3) (v4 := v4) (v5 := v5) (lg := lg) (x := nN + i / 4) (h := i % 4) R (by omega) (by omega) (fun q => by omega)
    rw [show 100 + 4 * (nN + i / 4) + i % 4 = 100 + 4 * nN + i by omega] at z
    exact z)
  rw [show 100 + 4 * nN + (128 - 4 * nN) = 228 by omega] at g
  exact ⟨Y2, g⟩
end SGB2
