/-- what the stops keep of the reference's numbers -/
def FS (F F' : jA) : Prop := F' 2 = nI 0 ∧ ∀ i, i ≠ 2 → i ≠ 15 → i ≠ 24 → i ≠ 25 → i ≠ 26 → F' i = F i
theorem NZ_u {v : jA} {y : Int32} (h : NZ v) : NZ (upd v 3 y) := fun i hi => by rw [pu_n _ _ (by omega)]; exact h i hi
section STO
variable {C off dear proved nw rl lg : jA} {v1 v2 v3 v4 : Int32} {n nH nN nF nL t : Nat}
/-- one search of the stops -/
theorem stop_s (S : SC C) (R : WR C nw nH nN nF nL t) (ht : t ≤ 30000) (e : rl = eV C off dear proved nw) (hv : v1 = nI 0 ∨ (v1 = nI 1 ∧ ∃ b, b < 4 ∧ v2 = nI b)) (hn : n ≤ 6) {Dg dw J bef mov nxt chn tw F sta sm par mv dep th : jA} {P : Nat → jA} {pn : Nat} (y : Int32) (hF : ¬ F 2 = 0) (hz : NZ th) (hp : pn ≤ 300) (hJ : J 10 = v1 ∧ J 11 = v2 ∧ J 12 = v3 ∧ J 13 = v4) :
    ∃ (J' bef' mov' nxt' chn' : jA) (P' : Nat → jA) (pn' : Nat) (tw' : jA) (F' sta' sm' par' mv' dep' th' : jA) (a : Int32), f_X1_search (upd C 7 y) off dear proved Dg dw nw J bef mov nxt chn tw P pn (nI n) = (Dg, dw, J', bef', mov', nxt', chn', tw', P', pn', a) ∧ s_X1_search (upd C 7 y) off dear proved Dg dw nw J bef mov nxt chn tw P pn (nI n) ∧ f_X6_search F lg sta sm par mv dep th (upd rl 3 y) v1 v2 v3 v4 (nI n) = (F', lg, sta', sm', par', mv', dep', th', a) ∧ s_X6_search F lg sta sm par mv dep th (upd rl 3 y) v1 v2 v3 v4 (nI n) ∧ FR J F J' F' ∧ NZ th' ∧ pn' ≤ 300 := by
  have S' : SC (upd C 7 y) := by
    obtain ⟨e1, L, a⟩ := S
    exact ⟨e1, L, by rw [pu_n _ _ (by omega), pu_n _ _ (by omega)]; exact a⟩
  have R' : WR (upd C 7 y) nw nH nN nF nL t := WR_C R (pu_n _ _ (by omega)) (pu_n _ _ (by omega)) (by rw [pu_n _ _ (by omega)]; exact R.2.2.2.2.2.2.2.2.2)
  have e2 : upd rl 3 y = eV (upd C 7 y) off dear proved nw := by rw [e, eV_C _ _ _ _ _ _ (m := 3) (by omega)]
  obtain ⟨J', bef', mov', nxt', chn', P', pn', tw', F', sta', sm', par', mv', dep', th', a, s1, s2, s3, s4, -, s6, s7, s8, -⟩ := search_st (off := off) (dear := dear) (proved := proved) (Dg := Dg) (dw := dw) (J := J) (bef := bef) (mov := mov) (nxt := nxt) (chn := chn) (tw := tw) (F := F) (lg := lg) (sta := sta) (sm := sm) (par := par) (mv := mv) (dep := dep) (th := th) (P := P) S' R' ht hv hn hF hz hp hJ
  rw [← e2] at s3 s4
  exact ⟨J', bef', mov', nxt', chn', P', pn', tw', F', sta', sm', par', mv', dep', th', a, s1, s2, s3, s4, s6, s7, s8⟩
/-- the reference goes on when it is full -/
theorem stop_f (S : SC C) (R : WR C nw nH nN nF nL t) (ht : t ≤ 30000) (e : rl = eV C off dear proved nw) (hv : v1 = nI 0 ∨ (v1 = nI 1 ∧ ∃ b, b < 4 ∧ v2 = nI b)) (hn : n ≤ 6) : ∀ (j k m : Nat) (set : Int32) (F sta sm par mv dep th bf : jA), k + j = 8 → j < m → ¬ F 2 = 0 → NZ th → NZ bf → ∃ F' sta' sm' par' mv' dep' th' bf' : jA, f_X6_stops_36 m F rl lg sta sm par mv dep th bf v1 v2 v3 v4 (nI n) set (nI 1) (nI k) = (F', lg, sta', sm', par', mv', dep', th', bf', (-4)) ∧ s_X6_stops_36 m F rl lg sta sm par mv dep th bf v1 v2 v3 v4 (nI n) set (nI 1) (nI k) ∧ FS F F' ∧ NZ th' ∧ NZ bf'
  | 0, k, m, set, F, sta, sm, par, mv, dep, th, bf, hk, hm, hF, zt, zb => by
    obtain ⟨m, rfl⟩ : ∃ q, m = q + 1 := ⟨m - 1, by omega⟩
    have e8 : k = 8 := by omega
    subst e8
    refine ⟨upd F 2 (nI 0), sta, sm, par, mv, dep, th, bf, ?_, ?_, ⟨pu_s _ _ _, fun i h _ _ _ _ => pu_n _ _ h⟩, zt, zb⟩
    · rw [f_X6_stops_36]
      simp (disch := omega) only [pn_le, Nat.le_refl, if_true, n1z, if_false]
    · rw [s_X6_stops_36]
      simp (disch := omega) only [pn_le, Nat.le_refl, not_true_eq_false, false_implies]
  | j + 1, k, m, set, F, sta, sm, par, mv, dep, th, bf, hk, hm, hF, zt, zb => by
    obtain ⟨m, rfl⟩ : ∃ q, m = q + 1 := ⟨m - 1, by omega⟩
    have zr : NZ rl := by rw [e]; exact NZ_eV _ _ _ _ _
    have ca := cp_all (v := rl) (fo := bf) zr zb
    have io := isOn_eq rl (k := k) (by omega)
    have n8 : ¬ 8 ≤ k := by omega
    by_cases q : bt (rl 3) k = true
    · obtain ⟨F', sta', sm', par', mv', dep', th', bf', i1, i2, i3⟩ := stop_f S R ht e hv hn j (k + 1) m set F sta sm par mv dep th bf (by omega) (by omega) hF zt zb
      refine ⟨F', sta', sm', par', mv', dep', th', bf', ?_, ?_, i3⟩
      · rw [f_X6_stops_36]
        simp (disch := omega) only [pn_le, n8, if_false, io, q, if_true, n1z, f_X6_stops_139, nI_add]
        exact i1
      · rw [s_X6_stops_36]
        simp (disch := omega) only [pn_le, n8, not_false_eq_true, true_implies, io, q, if_true, n1z, false_implies, true_and, s_X6_stops_139, nI_add]
        exact i2
    · obtain ⟨_, _, _, _, _, _, _, _, F1, sta1, sm1, par1, mv1, dep1, th1, a, -, -, s3, s4, s6, s7, -⟩ := stop_s (Dg := F) (dw := F) (J := fun i => if i = 10 then v1 else if i = 11 then v2 else if i = 12 then v3 else v4) (bef := F) (mov := F) (nxt := F) (chn := F) (tw := F) (F := F) (sta := sta) (sm := sm) (par := par) (mv := mv) (dep := dep) (th := th) (P := fun _ => F) (pn := 0) (lg := lg) (v3 := v3) (v4 := v4) S R ht e hv hn (rl 3 ||| (nI 1 <<< (nI k &&& 31))) hF zt (by omega) ⟨rfl, rfl, rfl, rfl⟩
      have hF1 : ¬ F1 2 = 0 := by rw [s6.2 2 (by omega) (by omega) (by omega) (by omega)]; exact hF
      have ih := fun set => stop_f S R ht e hv hn j (k + 1) m set F1 sta1 sm1 par1 mv1 dep1 th1 (upd rl 3 (rl 3 ||| (nI 1 <<< (nI k &&& 31)))) (by omega) (by omega) hF1 s7 (NZ_u zr)
      have fin : ∀ F', FS F1 F' → FS F F' := fun F' h => ⟨h.1, fun i h2 h3 h4 h5 h6 => (h.2 i h2 h3 h4 h5 h6).trans (s6.2 i h3 h4 h5 h6)⟩
      by_cases am : a = (-1)
      · obtain ⟨F', sta', sm', par', mv', dep', th', bf', i1, i2, i3, i4⟩ := ih (set ||| (nI 1 <<< (nI k &&& 31)))
        refine ⟨F', sta', sm', par', mv', dep', th', bf', ?_, ?_, fin _ i3, i4⟩
        · rw [f_X6_stops_36]
          simp (disch := omega) only [pn_le, n8, if_false, io, q, Bool.false_eq_true, n00, if_true, ca.1, f_X6_stops_71, pn_cl, s3, f_X6_stops_99, n1z, f_X6_stops_113, f_X6_stops_118, am, f_X6_stops_136, f_X6_stops_139, nI_add]
          exact i1
        · rw [s_X6_stops_36]
          simp (disch := omega) only [pn_le, n8, not_false_eq_true, true_implies, io, q, Bool.false_eq_true, if_false, n00, ca.1, ca.2, true_and, s_X6_stops_71, pn_cl, s3, s4, s_X6_stops_99, n1z, false_implies, s_X6_stops_113, s_X6_stops_118, am, s_X6_stops_136, s_X6_stops_139, nI_add, not_true_eq_false, and_true]
          exact i2
      · obtain ⟨F', sta', sm', par', mv', dep', th', bf', i1, i2, i3, i4⟩ := ih (set ||| nI 0)
        refine ⟨F', sta', sm', par', mv', dep', th', bf', ?_, ?_, fin _ i3, i4⟩
        · rw [f_X6_stops_36]
          simp (disch := omega) only [pn_le, n8, if_false, io, q, Bool.false_eq_true, n00, if_true, ca.1, f_X6_stops_71, pn_cl, s3, f_X6_stops_99, n1z, f_X6_stops_113, f_X6_stops_118, am, f_X6_stops_136, f_X6_stops_139, nI_add]
          exact i1
        · rw [s_X6_stops_36]
          simp (disch := omega) only [pn_le, n8, not_false_eq_true, true_implies, io, q, Bool.false_eq_true, if_false, n00, ca.1, ca.2, true_and, s_X6_stops_71, pn_cl, s3, s4, s_X6_stops_99, n1z, false_implies, s_X6_stops_113, s_X6_stops_118, am, s_X6_stops_136, s_X6_stops_139, nI_add, not_true_eq_false, and_true]
          exact i2
theorem stop_l (S : SC C) (R : WR C nw nH nN nF nL t) (ht : t ≤ 30000) (e : rl = eV C off dear proved nw) (hv : v1 = nI 0 ∨ (v1 = nI 1 ∧ ∃ b, b < 4 ∧ v2 = nI b)) (hn : n ≤ 6) {Dg dw : jA} : ∀ (j k m m' : Nat) (set : Int32) (Cc J bef mov nxt chn : jA) (P : Nat → jA) (pn : Nat) (tw : jA) (F sta sm par mv dep th bf : jA), k + j = 8 → j < m → j < m' → upd Cc 7 (C 7) = C → (J 10 = v1 ∧ J 11 = v2 ∧ J 12 = v3 ∧ J 13 = v4) → ¬ F 2 = 0 → NZ th → NZ bf → pn ≤ 300 →
    ∃ (J' bef' mov' nxt' chn' : jA) (P' : Nat → jA) (pn' : Nat) (tw' : jA) (F' sta' sm' par' mv' dep' th' bf' : jA) (a : Int32), f_X5_stops_47 m Cc off dear proved Dg dw nw J bef mov nxt chn tw P pn (nI n) (C 7) set (nI 0) (nI k) = (C, Dg, dw, J', bef', mov', nxt', chn', tw', P', pn', a) ∧ s_X5_stops_47 m Cc off dear proved Dg dw nw J bef mov nxt chn tw P pn (nI n) (C 7) set (nI 0) (nI k) ∧ f_X6_stops_36 m' F rl lg sta sm par mv dep th bf v1 v2 v3 v4 (nI n) set (nI 0) (nI k) = (F', lg, sta', sm', par', mv', dep', th', bf', a) ∧ s_X6_stops_36 m' F rl lg sta sm par mv dep th bf v1 v2 v3 v4 (nI n) set (nI 0) (nI k) ∧ (∀ i, i ≠ 9 → i ≠ 14 → i ≠ 15 → J' i = J i) ∧ FS F F' ∧ NZ th' ∧ NZ bf' ∧ pn' ≤ 300
  | 0, k, m, m', set, Cc, J, bef, mov, nxt, chn, P, pn, tw, F, sta, sm, par, mv, dep, th, bf, hk, hm, hm', hC, hJ, hF, zt, zb, hp => by
    obtain ⟨m, rfl⟩ : ∃ q, m = q + 1 := ⟨m - 1, by omega⟩
    obtain ⟨m', rfl⟩ : ∃ q, m' = q + 1 := ⟨m' - 1, by omega⟩
    have e8 : k = 8 := by omega
    subst e8
    refine ⟨J, bef, mov, nxt, chn, P, pn, tw, upd F 2 (nI 0), sta, sm, par, mv, dep, th, bf, set, ?_, ?_, ?_, ?_, fun _ _ _ _ => rfl, ⟨pu_s _ _ _, fun i h _ _ _ _ => pu_n _ _ h⟩, zt, zb, hp⟩
    · rw [f_X5_stops_47]
      simp (disch := omega) only [pn_le, Nat.le_refl, if_true, f_X5_stops_133, n00, hC]
    · rw [s_X5_stops_47]
      simp (disch := omega) only [pn_le, Nat.le_refl, true_implies, not_true_eq_false, false_implies, and_true, s_X5_stops_133]
    · rw [f_X6_stops_36]
      simp (disch := omega) only [pn_le, Nat.le_refl, if_true, n00]
    · rw [s_X6_stops_36]
      simp (disch := omega) only [pn_le, Nat.le_refl, not_true_eq_false, false_implies]
  | j + 1, k, m, m', set, Cc, J, bef, mov, nxt, chn, P, pn, tw, F, sta, sm, par, mv, dep, th, bf, hk, hm, hm', hC, hJ, hF, zt, zb, hp => by
    obtain ⟨m, rfl⟩ : ∃ q, m = q + 1 := ⟨m - 1, by omega⟩
    obtain ⟨m', rfl⟩ : ∃ q, m' = q + 1 := ⟨m' - 1, by omega⟩
    have zr : NZ rl := by rw [e]; exact NZ_eV _ _ _ _ _
    have r3 : rl 3 = C 7 := by rw [e]; rfl
    have ca := cp_all (v := rl) (fo := bf) zr zb
    have io := isOn_eq rl (k := k) (by omega)
    rw [r3] at io
    have bi := bit_0 (C 7) (h := k) (by omega)
    have n8 : ¬ 8 ≤ k := by omega
    by_cases q : bt (C 7) k = true
    · obtain ⟨J', bef', mov', nxt', chn', P', pn', tw', F', sta', sm', par', mv', dep', th', bf', a, i1, i2, i3, i4, i5⟩ := stop_l S R ht e hv hn (Dg := Dg) (dw := dw) j (k + 1) m m' set Cc J bef mov nxt chn P pn tw F sta sm par mv dep th bf (by omega) (by omega) (by omega) hC hJ hF zt zb hp
      refine ⟨J', bef', mov', nxt', chn', P', pn', tw', F', sta', sm', par', mv', dep', th', bf', a, ?_, ?_, ?_, ?_, i5⟩
      · rw [f_X5_stops_47]
        simp (disch := omega) only [pn_le, n8, if_false, n00, if_true, bi, q, Bool.true_eq_false, f_X5_stops_127, nI_add]
        exact i1
      · rw [s_X5_stops_47]
        simp (disch := omega) only [pn_le, n8, not_false_eq_true, true_implies, false_implies, true_and, n00, bi, q, Bool.true_eq_false, s_X5_stops_127, nI_add, not_true_eq_false, and_true]
        exact i2
      · rw [f_X6_stops_36]
        simp (disch := omega) only [pn_le, n8, if_false, io, q, if_true, n1z, f_X6_stops_139, nI_add]
        exact i3
      · rw [s_X6_stops_36]
        simp (disch := omega) only [pn_le, n8, not_false_eq_true, true_implies, io, q, if_true, n1z, false_implies, true_and, s_X6_stops_139, nI_add]
        exact i4
    · have qf : bt (C 7) k = false := by
        cases h : bt (C 7) k with
        | false => rfl
        | true => exact absurd h q
      have cu : ∀ y, upd Cc 7 y = upd C 7 y := fun y => by rw [← hC, pu_u]
      obtain ⟨J1, bef1, mov1, nxt1, chn1, P1, pn1, tw1, F1, sta1, sm1, par1, mv1, dep1, th1, a, s1, s2, s3, s4, s6, s7, s8⟩ := stop_s (Dg := Dg) (dw := dw) (J := J) (bef := bef) (mov := mov) (nxt := nxt) (chn := chn) (tw := tw) (F := F) (sta := sta) (sm := sm) (par := par) (mv := mv) (dep := dep) (th := th) (P := P) (pn := pn) (lg := lg) S R ht e hv hn (C 7 ||| (nI 1 <<< (nI k &&& 31))) hF zt hp hJ
      have hF1 : ¬ F1 2 = 0 := by rw [s6.2 2 (by omega) (by omega) (by omega) (by omega)]; exact hF
      have hJ1 : J1 10 = v1 ∧ J1 11 = v2 ∧ J1 12 = v3 ∧ J1 13 = v4 := by
        rw [s6.1 10 (by omega) (by omega) (by omega), s6.1 11 (by omega) (by omega) (by omega), s6.1 12 (by omega) (by omega) (by omega), s6.1 13 (by omega) (by omega) (by omega)]; exact hJ
      have hC1 : upd (upd C 7 (C 7 ||| (nI 1 <<< (nI k &&& 31)))) 7 (C 7) = C := by rw [pu_u]; exact pu_id _ rfl
      have fin : ∀ F', FS F1 F' → FS F F' := fun F' h => ⟨h.1, fun i h2 h3 h4 h5 h6 => (h.2 i h2 h3 h4 h5 h6).trans (s6.2 i h3 h4 h5 h6)⟩
      have n4 : ¬ (-4 : Int32) = (-1) := by decide
      by_cases a4 : a = (-4)
      · subst a4
        obtain ⟨F', sta', sm', par', mv', dep', th', bf', i1, i2, i3, i4, i5⟩ := stop_f S R ht e hv hn (v3 := v3) (v4 := v4) (lg := lg) j (k + 1) m' (set ||| nI 0) F1 sta1 sm1 par1 mv1 dep1 th1 (upd rl 3 (rl 3 ||| (nI 1 <<< (nI k &&& 31)))) (by omega) (by omega) hF1 s7 (NZ_u zr)
        rw [r3] at i1 i2
        obtain ⟨m, rfl⟩ : ∃ q, m = q + 1 := ⟨m - 1, by omega⟩
        refine ⟨J1, bef1, mov1, nxt1, chn1, P1, pn1, tw1, F', sta', sm', par', mv', dep', th', bf', (-4), ?_, ?_, ?_, ?_, s6.1, fin _ i3, i4, i5, s8⟩
        · rw [f_X5_stops_47]
          simp (disch := omega) only [pn_le, n8, if_false, n00, if_true, bi, qf, cu, s1, f_X5_stops_92, n4, f_X5_stops_110, f_X5_stops_125, f_X5_stops_127, nI_add]
          rw [f_X5_stops_47]
          simp only [n1z, if_false, f_X5_stops_133, ite_self, hC1]
        · rw [s_X5_stops_47]
          simp (disch := omega) only [pn_le, n8, not_false_eq_true, true_implies, false_implies, true_and, n00, bi, qf, cu, s1, s2, s_X5_stops_92, n4, s_X5_stops_110, s_X5_stops_125, s_X5_stops_127, nI_add, not_true_eq_false, and_true]
          rw [s_X5_stops_47]
          exact ⟨fun _ => trivial, fun _ => ⟨fun z => absurd z n1z, fun _ => trivial⟩⟩
        · rw [f_X6_stops_36]
          simp (disch := omega) only [pn_le, n8, if_false, io, q, Bool.false_eq_true, n00, if_true, ca.1, f_X6_stops_71, pn_cl, r3, s3, f_X6_stops_99, f_X6_stops_113, f_X6_stops_118, n4, f_X6_stops_136, f_X6_stops_139, nI_add]
          exact i1
        · rw [s_X6_stops_36]
          simp (disch := omega) only [pn_le, n8, not_false_eq_true, true_implies, io, q, Bool.false_eq_true, if_false, n00, ca.1, ca.2, true_and, s_X6_stops_71, pn_cl, r3, s3, s4, s_X6_stops_99, false_implies, s_X6_stops_113, s_X6_stops_118, n4, s_X6_stops_136, s_X6_stops_139, nI_add, not_true_eq_false, and_true]
          exact i2
      · have ih := fun set => stop_l S R ht e hv hn (Dg := Dg) (dw := dw) j (k + 1) m m' set (upd C 7 (C 7 ||| (nI 1 <<< (nI k &&& 31)))) J1 bef1 mov1 nxt1 chn1 P1 pn1 tw1 F1 sta1 sm1 par1 mv1 dep1 th1 (upd rl 3 (rl 3 ||| (nI 1 <<< (nI k &&& 31)))) (by omega) (by omega) (by omega) hC1 hJ1 hF1 s7 (NZ_u zr) s8
        have tk : ∀ x : Int32, (a = (-1) ∧ x = nI 1 <<< (nI k &&& 31)) ∨ (¬ a = (-1) ∧ x = nI 0) → ∃ (J' bef' mov' nxt' chn' : jA) (P' : Nat → jA) (pn' : Nat) (tw' : jA) (F' sta' sm' par' mv' dep' th' bf' : jA) (a : Int32), f_X5_stops_47 (m + 1) Cc off dear proved Dg dw nw J bef mov nxt chn tw P pn (nI n) (C 7) set (nI 0) (nI k) = (C, Dg, dw, J', bef', mov', nxt', chn', tw', P', pn', a) ∧ s_X5_stops_47 (m + 1) Cc off dear proved Dg dw nw J bef mov nxt chn tw P pn (nI n) (C 7) set (nI 0) (nI k) ∧ f_X6_stops_36 (m' + 1) F rl lg sta sm par mv dep th bf v1 v2 v3 v4 (nI n) set (nI 0) (nI k) = (F', lg, sta', sm', par', mv', dep', th', bf', a) ∧ s_X6_stops_36 (m' + 1) F rl lg sta sm par mv dep th bf v1 v2 v3 v4 (nI n) set (nI 0) (nI k) ∧ (∀ i, i ≠ 9 → i ≠ 14 → i ≠ 15 → J' i = J i) ∧ FS F F' ∧ NZ th' ∧ NZ bf' ∧ pn' ≤ 300 := fun x hx => by
          obtain ⟨J', bef', mov', nxt', chn', P', pn', tw', F', sta', sm', par', mv', dep', th', bf', a', i1, i2, i3, i4, i5, i6, i7⟩ := ih (set ||| x)
          rw [r3] at i3 i4
          refine ⟨J', bef', mov', nxt', chn', P', pn', tw', F', sta', sm', par', mv', dep', th', bf', a', ?_, ?_, ?_, ?_, fun i h1 h2 h3 => (i5 i h1 h2 h3).trans (s6.1 i h1 h2 h3), fin _ i6, i7⟩
          · rw [f_X5_stops_47]
            simp (disch := omega) only [pn_le, n8, if_false, n00, if_true, bi, qf, cu, s1, f_X5_stops_92, f_X5_stops_110, a4, f_X5_stops_125, f_X5_stops_127, nI_add]
            rcases hx with ⟨h1, h2⟩ | ⟨h1, h2⟩
            · rw [if_pos h1]; rw [h2] at i1; exact i1
            · rw [if_neg h1]; rw [h2] at i1; exact i1
          · rw [s_X5_stops_47]
            simp (disch := omega) only [pn_le, n8, not_false_eq_true, true_implies, false_implies, true_and, n00, bi, qf, cu, s1, s2, s_X5_stops_92, s_X5_stops_110, a4, s_X5_stops_125, s_X5_stops_127, nI_add, not_true_eq_false, and_true]
            rcases hx with ⟨h1, h2⟩ | ⟨h1, h2⟩
            · rw [h2] at i2; exact ⟨fun _ => i2, fun z => absurd h1 z⟩
            · rw [h2] at i2; exact ⟨fun z => absurd z h1, fun _ => i2⟩
          · rw [f_X6_stops_36]
            simp (disch := omega) only [pn_le, n8, if_false, io, q, Bool.false_eq_true, n00, if_true, ca.1, f_X6_stops_71, pn_cl, r3, s3, f_X6_stops_99, a4, f_X6_stops_118, f_X6_stops_136, f_X6_stops_139, nI_add]
            rcases hx with ⟨h1, h2⟩ | ⟨h1, h2⟩
            · rw [if_pos h1]; rw [h2] at i3; exact i3
            · rw [if_neg h1]; rw [h2] at i3; exact i3
          · rw [s_X6_stops_36]
            simp (disch := omega) only [pn_le, n8, not_false_eq_true, true_implies, io, q, Bool.false_eq_true, if_false, n00, ca.1, ca.2, true_and, s_X6_stops_71, pn_cl, r3, s3, s4, s_X6_stops_99, a4, false_implies, s_X6_stops_118, s_X6_stops_136, s_X6_stops_139, nI_add, not_true_eq_false, and_true]
            rcases hx with ⟨h1, h2⟩ | ⟨h1, h2⟩
            · rw [h2] at i4; exact ⟨fun _ => i4, fun z => absurd h1 z⟩
            · rw [h2] at i4; exact ⟨fun z => absurd z h1, fun _ => i4⟩
        by_cases am : a = (-1)
        · exact tk _ (Or.inl ⟨am, rfl⟩)
        · exact tk _ (Or.inr ⟨am, rfl⟩)
end STO
theorem op_stops {C off dear proved nw Dg dw J bef mov nxt chn tw F rl lg sta sm par mv dep th bf tol row : jA} {P : Nat → jA} {pn B : Nat} (Q : QW C off dear proved nw Dg dw F rl lg B) (HJ : JR J tol F row) (zt : NZ th) (zb : NZ bf) (hp : pn ≤ 300) (v1 v2 v3 v4 v5 : Int32) :
    ∃ (J' bef' mov' nxt' chn' : jA) (P' : Nat → jA) (pn' : Nat) (tw' : jA) (F' sta' sm' par' mv' dep' th' bf' : jA) (a : Int32), f_X5_stops C off dear proved Dg dw nw J bef mov nxt chn tw P pn v1 v2 v3 v4 v5 = (C, Dg, dw, J', bef', mov', nxt', chn', tw', P', pn', a) ∧ s_X5_stops C off dear proved Dg dw nw J bef mov nxt chn tw P pn v1 v2 v3 v4 v5 ∧ f_X6_stops F rl lg sta sm par mv dep th bf v1 v2 v3 v4 v5 = (F', lg, sta', sm', par', mv', dep', th', bf', a) ∧ s_X6_stops F rl lg sta sm par mv dep th bf v1 v2 v3 v4 v5 ∧ QW C off dear proved nw Dg dw F' rl lg B ∧ JR J' tol F' row ∧ NZ th' ∧ NZ bf' ∧ pn' ≤ 300 ∧ F' 23 = F 23 := by
  have Q0 := QW_0 (y := nI 0) Q
  have Q1 := Q
  obtain ⟨nH, nN, nF, nL, t, S, R, H, T, e, D, O⟩ := Q
  have qc := q_c (off := off) (dear := dear) (proved := proved) R v1 v2 v3 v4 v5
  rw [← e] at qc
  obtain ⟨a1, m, a2, a3, a4, a5⟩ := HJ
  rcases qc.2 with ⟨g1, g2⟩ | ⟨g1, g2, hv, n, hn, rfl⟩
  · refine ⟨J, bef, mov, nxt, chn, P, pn, tw, upd F 0 (nI 0), sta, sm, par, mv, dep, th, bf, (-2), ?_, ?_, ?_, ?_, Q0, ⟨by rw [pu_n _ _ (by omega)]; exact a1, m, a2, a3, by rw [pu_n _ _ (by omega)]; exact a4, a5⟩, zt, zb, hp, pu_n _ _ (by omega)⟩
    · simp only [f_X5_stops, g1, n00, if_true]
    · simp only [s_X5_stops, g1, n00, not_true_eq_false, false_implies]
    · simp only [f_X6_stops, g2, n00, if_true]
    · simp only [s_X6_stops, qc.1, g2, n00, not_true_eq_false, false_implies, and_true]
  · have hF : ¬ upd (upd F 0 (nI 0)) 2 (nI 1) 2 = 0 := by rw [pu_s]; exact n1z
    have aJ : ∀ i, i ≠ 10 → i ≠ 11 → i ≠ 12 → i ≠ 13 → f_X1_aim J v1 v2 v3 v4 i = J i := fun i h1 h2 h3 h4 => by
      unfold f_X1_aim
      rw [pu_n _ _ h4, pu_n _ _ h3, pu_n _ _ h2, pu_n _ _ h1]
    have aI : f_X1_aim J v1 v2 v3 v4 10 = v1 ∧ f_X1_aim J v1 v2 v3 v4 11 = v2 ∧ f_X1_aim J v1 v2 v3 v4 12 = v3 ∧ f_X1_aim J v1 v2 v3 v4 13 = v4 := by
      unfold f_X1_aim
      refine ⟨?_, ?_, ?_, pu_s _ _ _⟩
      · rw [pu_n _ _ (by omega), pu_n _ _ (by omega), pu_n _ _ (by omega), pu_s]
      · rw [pu_n _ _ (by omega), pu_n _ _ (by omega), pu_s]
      · rw [pu_n _ _ (by omega), pu_s]
    obtain ⟨J', bef', mov', nxt', chn', P', pn', tw', F', sta', sm', par', mv', dep', th', bf', a, i1, i2, i3, i4, i5, i6, i7, i8, i9⟩ := stop_l (lg := lg) (Dg := Dg) (dw := dw) S R T e hv hn 8 0 ng_F ng_F (nI 0) C (f_X1_aim J v1 v2 v3 v4) bef mov nxt chn P pn tw (upd (upd F 0 (nI 0)) 2 (nI 1)) sta sm par mv dep th bf (by omega) (by rw [ng_F_v]; omega) (by rw [ng_F_v]; omega) (pu_id _ rfl) aI hF zt zb hp
    have fF : ∀ i, i ≠ 0 → i ≠ 2 → i ≠ 15 → i ≠ 24 → i ≠ 25 → i ≠ 26 → F' i = F i := fun i h0 h2 h3 h4 h5 h6 => by
      rw [i6.2 i h2 h3 h4 h5 h6, pu_n _ _ h2, pu_n _ _ h0]
    have f2 : F 2 = nI 0 := D.1
    refine ⟨J', bef', mov', nxt', chn', P', pn', tw', F', sta', sm', par', mv', dep', th', bf', a, ?_, ?_, ?_, ?_, QW_F Q1 (by rw [i6.1, f2]) (fF 3 (by omega) (by omega) (by omega) (by omega) (by omega) (by omega)) (fF 4 (by omega) (by omega) (by omega) (by omega) (by omega) (by omega)) (fF 5 (by omega) (by omega) (by omega) (by omega) (by omega) (by omega)), ⟨?_, m, a2, ?_, ?_, a5⟩, i7, i8, i9, fF 23 (by omega) (by omega) (by omega) (by omega) (by omega) (by omega)⟩
    · simp only [f_X5_stops, g1, n1z, if_false, f_X5_stops_29]; exact i1
    · simp only [s_X5_stops, s_X5_stops_29]; exact fun _ => i2
    · simp only [f_X6_stops, g2, n1z, if_false]; exact i3
    · simp only [s_X6_stops, qc.1, true_and]; exact fun _ => i4
    · rw [i5 17 (by omega) (by omega) (by omega), aJ 17 (by omega) (by omega) (by omega) (by omega), fF 16 (by omega) (by omega) (by omega) (by omega) (by omega) (by omega)]; exact a1
    · rw [i5 16 (by omega) (by omega) (by omega), aJ 16 (by omega) (by omega) (by omega) (by omega)]; exact a3
    · rw [fF 17 (by omega) (by omega) (by omega) (by omega) (by omega) (by omega)]; exact a4
