section SGX
variable {C off dear proved : jA} {v2 v3 v4 v5 : Int32} {T : Nat} {kk : rK} {sk : rP} {lg bf : jA} {v6 : Int32} {k d : Nat}
theorem OC.jump {n c m m' n1 m1 : Nat} {X X1 : cT} {Y : rT} {came : Int32} (H : SR C off dear proved v2 v3 v4 v5 T c X Y) (h : (m = 12 ∧ m' = 100) ∨ (m = 228 ∧ m' = 300) ∨ (m = 332 ∧ m' = 400) ∨ (m = 528 ∧ m' = 600)) (o : OC C off dear proved v2 v3 v4 v5 T kk sk lg bf v6 k d (n + 1) c X Y m' n1 m1 X1 came) : OC C off dear proved v2 v3 v4 v5 T kk sk lg bf v6 k d (n + 1) c X Y m n1 m1 X1 came := (GO_jump H h).oc o
theorem x69 (hv : v2 = nI 0 ∨ (v2 = nI 1 ∧ ∃ b, b < 4 ∧ v3 = nI b)) (S : SC C) (hT : T + 6 < 40000) {Dg dw w : jA} {nH nN nF nL t N c : Nat} {J bef mov nxt chn : jA} {P : Nat → jA} {pn : Nat} {tw : jA} {F sta sm par mv dep th : jA} (H : SR C off dear proved v2 v3 v4 v5 T c (J, bef, mov, nxt, chn, P, pn) (F, sta, sm, par, mv, dep, th)) (A : AT C w k d c T nH nN nF nL t (J, bef, mov, nxt, chn, P, pn) (F, sta, sm, par, mv, dep, th)) :
    ∃ J' bef' mov' nxt' chn' P' pn' tw' came, f_X1_expand_69 C off dear proved Dg dw J bef mov nxt chn tw P pn (nI k) k (nI 0) = (Dg, dw, J', bef', mov', nxt', chn', tw', P', pn', came) ∧ s_X1_expand_69 C off dear proved Dg dw J bef mov nxt chn tw P pn (nI k) k (nI 0) ∧ OC C off dear proved v2 v3 v4 v5 T kk sk lg bf v6 k d (N + 1) c (J, bef, mov, nxt, chn, P, pn) (F, sta, sm, par, mv, dep, th) 528 N 601 (J', bef', mov', nxt', chn', P', pn') came := by
  obtain ⟨a1, a2, a3, a4, a5, a6⟩ := id A
  obtain ⟨b, b1, b2, b3⟩ := bec_eq (tw := tw) a5.2.1.1 a5.2.1.2
  have Rb := WR_AG a5 b3
  have eb := eV_AG C off dear proved a5.2.1.1 a5.2.1.2 b3
  have hF : ¬ upd F 24 (nI 0) 2 = 0 := by rw [pu_n _ _ (by omega)]; exact H.2.2.2.1
  obtain ⟨w', Dg', dw', F', lg', nN', nF', nL', k1, k2, k3, k4, k5, -, -, -, k9⟩ := tick_st C off dear proved (d := false) (Dg := Dg) (dw := dw) (F := upd F 24 (nI 0)) (lg := lg) (B := 0) S Rb ⟨fun q => Bool.noConfusion q, fun _ => hF⟩ (by omega) (by omega)
  obtain ⟨e1, e2, e3, e4⟩ := k9.1 rfl
  rw [e3, e4] at k1
  rw [e1, e2, eb] at k3
  rw [eb] at k4
  have mE := mkE (v := eV C off dear proved w) (F := F) (lg := lg) (v3 := v3) (v4 := v4) (v5 := v5)
  rw [k3] at mE
  obtain ⟨J1, bef1, mov1, nxt1, chn1, P1, pn1, came, r1, r2, r3⟩ := reach_st (kk := kk) (sk := sk) (lg := lg) (bf := bf) (v6 := v6) (n := N) (m := 600) (l := nI 0) H hv a1 a3 a4 ⟨by omega, by omega, by omega, by omega, by omega⟩ k5 (by omega) (fun _ => rfl) (by rw [a2]; exact mE.1) (by rw [a2]; exact mE.2 k4)
  refine ⟨J1, bef1, mov1, nxt1, chn1, P1, pn1, w', came, ?_, ?_, OC.jump H (by omega) r3⟩
  · simp only [f_X1_expand_69, n00, if_true, a2, b1, f_X1_expand_81, k1, f_X1_expand_88, r1]
  · simp only [s_X1_expand_69, n00, true_implies, a2, b1, b2, s_X1_expand_81, k1, k2, s_X1_expand_88, r2, and_true]
theorem x58 (hv : v2 = nI 0 ∨ (v2 = nI 1 ∧ ∃ b, b < 4 ∧ v3 = nI b)) (S : SC C) (hT : T + 6 < 40000) {Dg dw w : jA} {nH nN nF nL t N c : Nat} {J bef mov nxt chn : jA} {P : Nat → jA} {pn : Nat} {tw : jA} {F sta sm par mv dep th : jA} (H : SR C off dear proved v2 v3 v4 v5 T c (J, bef, mov, nxt, chn, P, pn) (F, sta, sm, par, mv, dep, th)) (A : AT C w k d c T nH nN nF nL t (J, bef, mov, nxt, chn, P, pn) (F, sta, sm, par, mv, dep, th)) :
    ∃ J' bef' mov' nxt' chn' P' pn' tw' came, f_X1_expand_58 C off dear proved Dg dw J bef mov nxt chn tw P pn (nI k) k (nI 0) = (Dg, dw, J', bef', mov', nxt', chn', tw', P', pn', came) ∧ s_X1_expand_58 C off dear proved Dg dw J bef mov nxt chn tw P pn (nI k) k (nI 0) ∧ OC C off dear proved v2 v3 v4 v5 T kk sk lg bf v6 k d (N + 129) c (J, bef, mov, nxt, chn, P, pn) (F, sta, sm, par, mv, dep, th) 332 N 601 (J', bef', mov', nxt', chn', P', pn') came := by
  have a1 : k < c := A.1
  obtain ⟨J1, bef1, mov1, nxt1, chn1, P1, pn1, tw1, came, r1, r2, r3⟩ := st_D (kk := kk) (sk := sk) (lg := lg) (bf := bf) (v6 := v6) (tw := tw) hv (N := N + 1) H A
  rw [show N + 1 + 128 = N + 128 + 1 by omega] at r3
  have hp := r3.pn a1
  rcases (OC.jump (m := 332) H (by omega) r3).c0 with ⟨ec, c1, ⟨F1, sta1, sm1, par1, mv1, dep1, th1⟩, g⟩ | ⟨ec, ec0, hs⟩
  · subst ec
    obtain ⟨J2, bef2, mov2, nxt2, chn2, P2, pn2, tw2, came2, p1, p2, p3⟩ := x69 (Dg := Dg) (dw := dw) (tw := tw1) (N := N) hv S hT g.1 (A.ex g.2.1)
    refine ⟨J2, bef2, mov2, nxt2, chn2, P2, pn2, tw2, came2, ?_, ?_, g.oc p3⟩
    · simp only [f_X1_expand_58, n00, if_true, r1, f_X1_expand_68]; exact p1
    · simp only [s_X1_expand_58, n00, true_implies, r1, r2, hp, s_X1_expand_68, not_true_eq_false, false_implies, and_true, true_and]; exact p2
  · refine ⟨J1, bef1, mov1, nxt1, chn1, P1, pn1, tw1, came, ?_, ?_, hs _ _⟩
    · simp only [f_X1_expand_58, n00, if_true, r1, f_X1_expand_68, f_X1_expand_69, ec0, if_false]
    · simp only [s_X1_expand_58, n00, true_implies, r1, r2, hp, s_X1_expand_68, not_true_eq_false, false_implies, and_true, true_and, s_X1_expand_69, ec0]
theorem x47 (hv : v2 = nI 0 ∨ (v2 = nI 1 ∧ ∃ b, b < 4 ∧ v3 = nI b)) (S : SC C) (hT : T + 6 < 40000) {Dg dw w : jA} {nH nN nF nL t N c : Nat} {J bef mov nxt chn : jA} {P : Nat → jA} {pn : Nat} {tw : jA} {F sta sm par mv dep th : jA} (H : SR C off dear proved v2 v3 v4 v5 T c (J, bef, mov, nxt, chn, P, pn) (F, sta, sm, par, mv, dep, th)) (A : AT C w k d c T nH nN nF nL t (J, bef, mov, nxt, chn, P, pn) (F, sta, sm, par, mv, dep, th)) :
    ∃ J' bef' mov' nxt' chn' P' pn' tw' came, f_X1_expand_47 C off dear proved Dg dw J bef mov nxt chn tw P pn (nI k) k (nI 0) = (Dg, dw, J', bef', mov', nxt', chn', tw', P', pn', came) ∧ s_X1_expand_47 C off dear proved Dg dw J bef mov nxt chn tw P pn (nI k) k (nI 0) ∧ OC C off dear proved v2 v3 v4 v5 T kk sk lg bf v6 k d (N + 161) c (J, bef, mov, nxt, chn, P, pn) (F, sta, sm, par, mv, dep, th) 228 N 601 (J', bef', mov', nxt', chn', P', pn') came := by
  have a1 : k < c := A.1
  obtain ⟨J1, bef1, mov1, nxt1, chn1, P1, pn1, tw1, came, r1, r2, r3⟩ := st_C (kk := kk) (sk := sk) (lg := lg) (bf := bf) (v6 := v6) (Dg := Dg) (tw := tw) hv (N := N + 129) H A
  rw [show N + 129 + 32 = N + 160 + 1 by omega] at r3
  have hp := r3.pn a1
  rcases (OC.jump (m := 228) H (by omega) r3).c0 with ⟨ec, c1, ⟨F1, sta1, sm1, par1, mv1, dep1, th1⟩, g⟩ | ⟨ec, ec0, hs⟩
  · subst ec
    obtain ⟨J2, bef2, mov2, nxt2, chn2, P2, pn2, tw2, came2, p1, p2, p3⟩ := x58 (Dg := Dg) (dw := dw) (tw := tw1) (N := N) hv S hT g.1 (A.ex g.2.1)
    refine ⟨J2, bef2, mov2, nxt2, chn2, P2, pn2, tw2, came2, ?_, ?_, g.oc p3⟩
    · simp only [f_X1_expand_47, n00, if_true, r1, f_X1_expand_57]; exact p1
    · simp only [s_X1_expand_47, n00, true_implies, r1, r2, hp, s_X1_expand_57, not_true_eq_false, false_implies, and_true, true_and]; exact p2
  · refine ⟨J1, bef1, mov1, nxt1, chn1, P1, pn1, tw1, came, ?_, ?_, hs _ _⟩
    · simp only [f_X1_expand_47, n00, if_true, r1, f_X1_expand_57, f_X1_expand_58, f_X1_expand_69, ec0, if_false]
    · simp only [s_X1_expand_47, n00, true_implies, r1, r2, hp, s_X1_expand_57, s_X1_expand_58, not_true_eq_false, false_implies, and_true, true_and, s_X1_expand_69, ec0, implies_true]
theorem x35 (hv : v2 = nI 0 ∨ (v2 = nI 1 ∧ ∃ b, b < 4 ∧ v3 = nI b)) (S : SC C) (hT : T + 6 < 40000) {Dg dw w : jA} {nH nN nF nL t N c : Nat} {J bef mov nxt chn : jA} {P : Nat → jA} {pn : Nat} {tw : jA} {F sta sm par mv dep th : jA} (H : SR C off dear proved v2 v3 v4 v5 T c (J, bef, mov, nxt, chn, P, pn) (F, sta, sm, par, mv, dep, th)) (A : AT C w k d c T nH nN nF nL t (J, bef, mov, nxt, chn, P, pn) (F, sta, sm, par, mv, dep, th)) :
    ∃ J' bef' mov' nxt' chn' P' pn' tw' came, f_X1_expand_35 C off dear proved Dg dw J bef mov nxt chn tw P pn (nI k) k (nI 0) = (Dg, dw, J', bef', mov', nxt', chn', tw', P', pn', came) ∧ s_X1_expand_35 C off dear proved Dg dw J bef mov nxt chn tw P pn (nI k) k (nI 0) ∧ OC C off dear proved v2 v3 v4 v5 T kk sk lg bf v6 k d (N + 289) c (J, bef, mov, nxt, chn, P, pn) (F, sta, sm, par, mv, dep, th) 12 N 601 (J', bef', mov', nxt', chn', P', pn') came := by
  have a1 : k < c := A.1
  obtain ⟨J1, bef1, mov1, nxt1, chn1, P1, pn1, tw1, came, r1, r2, r3⟩ := st_B (kk := kk) (sk := sk) (lg := lg) (bf := bf) (v6 := v6) (tw := tw) hv (N := N + 161) H A
  rw [show N + 161 + 128 = N + 288 + 1 by omega] at r3
  have hp := r3.pn a1
  rcases (OC.jump (m := 12) H (by omega) r3).c0 with ⟨ec, c1, ⟨F1, sta1, sm1, par1, mv1, dep1, th1⟩, g⟩ | ⟨ec, ec0, hs⟩
  · subst ec
    obtain ⟨J2, bef2, mov2, nxt2, chn2, P2, pn2, tw2, came2, p1, p2, p3⟩ := x47 (Dg := Dg) (dw := dw) (tw := tw1) (N := N) hv S hT g.1 (A.ex g.2.1)
    refine ⟨J2, bef2, mov2, nxt2, chn2, P2, pn2, tw2, came2, ?_, ?_, g.oc p3⟩
    · simp only [f_X1_expand_35, n00, if_true, r1, f_X1_expand_46]; exact p1
    · simp only [s_X1_expand_35, n00, true_implies, r1, r2, hp, s_X1_expand_46, not_true_eq_false, false_implies, and_true, true_and]; exact p2
  · refine ⟨J1, bef1, mov1, nxt1, chn1, P1, pn1, tw1, came, ?_, ?_, hs _ _⟩
    · simp only [f_X1_expand_35, n00, if_true, r1, f_X1_expand_46, f_X1_expand_47, f_X1_expand_58, f_X1_expand_69, ec0, if_false]
    · simp only [s_X1_expand_35, n00, true_implies, r1, r2, hp, s_X1_expand_46, s_X1_expand_47, s_X1_expand_58, not_true_eq_false, false_implies, and_true, true_and, s_X1_expand_69, ec0, implies_true]
theorem st_X (hv : v2 = nI 0 ∨ (v2 = nI 1 ∧ ∃ b, b < 4 ∧ v3 = nI b)) (S : SC C) (hT : T + 6 < 40000) {Dg dw w : jA} {nH nN nF nL t N c : Nat} {J bef mov nxt chn : jA} {P : Nat → jA} {pn : Nat} {tw : jA} {F sta sm par mv dep th : jA} (H : SR C off dear proved v2 v3 v4 v5 T c (J, bef, mov, nxt, chn, P, pn) (F, sta, sm, par, mv, dep, th)) (A : AT C w k d c T nH nN nF nL t (J, bef, mov, nxt, chn, P, pn) (F, sta, sm, par, mv, dep, th)) :
    ∃ J' bef' mov' nxt' chn' P' pn' tw' came, f_X1_expand C off dear proved Dg dw J bef mov nxt chn tw P pn (nI k) = (Dg, dw, J', bef', mov', nxt', chn', tw', P', pn', came) ∧ s_X1_expand C off dear proved Dg dw J bef mov nxt chn tw P pn (nI k) ∧ OC C off dear proved v2 v3 v4 v5 T kk sk lg bf v6 k d (N + 301) c (J, bef, mov, nxt, chn, P, pn) (F, sta, sm, par, mv, dep, th) 0 N 601 (J', bef', mov', nxt', chn', P', pn') came := by
  have a1 : k < c := A.1
  have hc := H.1.1
  have hpn := SR_pn H
  have kp : k < pn := by omega
  have k3 : ¬ 300 ≤ k := by omega
  obtain ⟨J1, bef1, mov1, nxt1, chn1, P1, pn1, tw1, came, r1, r2, r3⟩ := st_A (kk := kk) (sk := sk) (lg := lg) (bf := bf) (v6 := v6) (Dg := Dg) (dw := dw) (tw := tw) hv (N := N + 289) H A
  rw [show N + 289 + 12 = N + 301 by omega] at r3
  have hp := r3.pn a1
  rcases r3.c0 with ⟨ec, c1, ⟨F1, sta1, sm1, par1, mv1, dep1, th1⟩, g⟩ | ⟨ec, ec0, hs⟩
  · subst ec
    obtain ⟨J2, bef2, mov2, nxt2, chn2, P2, pn2, tw2, came2, p1, p2, p3⟩ := x35 (Dg := Dg) (dw := dw) (tw := tw1) (N := N) hv S hT g.1 (A.ex g.2.1)
    refine ⟨J2, bef2, mov2, nxt2, chn2, P2, pn2, tw2, came2, ?_, ?_, g.oc p3⟩
    · simp (disch := omega) only [f_X1_expand, pn_lt0, if_false, pn_le, k3, pn_cl, kp, if_true, r1]; exact p1
    · simp (disch := omega) only [s_X1_expand, pn_lt0, not_false_eq_true, pn_le, k3, true_implies, pn_cl, pn_in, kp, r1, r2, hp, not_true_eq_false, false_implies, and_true, true_and]; exact p2
  · refine ⟨J1, bef1, mov1, nxt1, chn1, P1, pn1, tw1, came, ?_, ?_, hs _ _⟩
    · simp (disch := omega) only [f_X1_expand, pn_lt0, if_false, pn_le, k3, pn_cl, kp, if_true, r1, f_X1_expand_35, f_X1_expand_47, f_X1_expand_58, f_X1_expand_69, ec0]
    · simp (disch := omega) only [s_X1_expand, pn_lt0, not_false_eq_true, pn_le, k3, true_implies, pn_cl, pn_in, kp, r1, r2, hp, not_true_eq_false, false_implies, and_true, true_and, s_X1_expand_35, s_X1_expand_47, s_X1_expand_58, s_X1_expand_69, ec0, implies_true]
end SGX
