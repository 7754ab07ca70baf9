abbrev cR : Type := jA × jA × jA × jA × jA × jA × jA × jA × (Nat → jA) × Nat × Int32
abbrev tK49 : Type := jA → jA → jA → jA → jA → jA → jA → jA → jA → jA → jA → jA → jA → (Nat → jA) → Nat → Int32 → Int32 → Int32 → cR
abbrev tP49 : Type := jA → jA → jA → jA → jA → jA → jA → jA → jA → jA → jA → jA → jA → (Nat → jA) → Nat → Int32 → Int32 → Int32 → Prop
def FR (J F J' F' : jA) : Prop := (∀ i, i ≠ 9 → i ≠ 14 → i ≠ 15 → J' i = J i) ∧ (∀ i, i ≠ 15 → i ≠ 24 → i ≠ 25 → i ≠ 26 → F' i = F i)
theorem FR.tr {J F J1 F1 J2 F2 : jA} (a : FR J F J1 F1) (b : FR J1 F1 J2 F2) : FR J F J2 F2 :=
  ⟨fun i h1 h2 h3 => (b.1 i h1 h2 h3).trans (a.1 i h1 h2 h3), fun i h1 h2 h3 h4 => (b.2 i h1 h2 h3 h4).trans (a.2 i h1 h2 h3 h4)⟩
/-- how a search ends, on both sides -/
def ENDS (C off dear proved : jA) (v2 v3 v4 v5 : Int32) (T : Nat) (lg Dg dw J F : jA) (cls : cR) (ref : rR) : Prop :=
  ∃ (J' bef' mov' nxt' chn' : jA) (P' : Nat → jA) (pn' : Nat) (tw' : jA) (F' sta' sm' par' mv' dep' th' : jA) (c' : Nat) (a : Int32), cls = (Dg, dw, J', bef', mov', nxt', chn', tw', P', pn', a) ∧ ref = (F', lg, sta', sm', par', mv', dep', th', a) ∧ SR C off dear proved v2 v3 v4 v5 T c' (J', bef', mov', nxt', chn', P', pn') (F', sta', sm', par', mv', dep', th') ∧ FR J F J' F' ∧
  (a = (-1) ∨ a = (-4) ∨ ∃ dp k, 1 ≤ dp ∧ dp ≤ 6 ∧ a = nI dp ∧ k < c' ∧ dep' k = nI (dp - 1) ∧ J' 14 = nI k ∧ J' 15 = F' 25 ∧ F' 26 = nI k)
section SEL
variable {C off dear proved : jA} {v2 v3 v4 v5 : Int32} {T : Nat} {lg bf : jA}
theorem ENDS.fr {Dg dw J F J1 F1 : jA} {cls : cR} {ref : rR} (f : FR J F J1 F1) (h : ENDS C off dear proved v2 v3 v4 v5 T lg Dg dw J1 F1 cls ref) : ENDS C off dear proved v2 v3 v4 v5 T lg Dg dw J F cls ref := by
  obtain ⟨J', bef', mov', nxt', chn', P', pn', tw', F', sta', sm', par', mv', dep', th', c', a, h1, h2, h3, h4, h5⟩ := h
  exact ⟨J', bef', mov', nxt', chn', P', pn', tw', F', sta', sm', par', mv', dep', th', c', a, h1, h2, h3, f.tr h4, h5⟩
theorem rF_end {kk : rK} {sk : rP} {v6 : Int32} {k n : Nat} {F sta sm par mv dep th : jA} : rF kk lg bf v2 v3 v4 v5 v6 k (n + 1) (F, sta, sm, par, mv, dep, th) 601 = kk F lg sta sm par mv dep th bf v2 v3 v4 v5 v6 (nI (k + 1)) ∧ (sk F lg sta sm par mv dep th bf v2 v3 v4 v5 v6 (nI (k + 1)) → rS sk lg bf v2 v3 v4 v5 v6 k (n + 1) (F, sta, sm, par, mv, dep, th) 601) := by
  unfold rF rS
  dsimp only
  rw [f_X6_search_66, s_X6_search_66]
  simp (disch := omega) only [pn_lt, Nat.reduceLT, if_true, f_X6_search_277, s_X6_search_277, nI_add, true_implies, not_true_eq_false, false_implies, and_true]
  first | exact id | exact ⟨trivial, id⟩ | exact ⟨rfl, id⟩
theorem L63 (hv : v2 = nI 0 ∨ (v2 = nI 1 ∧ ∃ b, b < 4 ∧ v3 = nI b)) (S : SC C) (hT : T + 6 < 40000) {n dp : Nat} (hd1 : 1 ≤ dp) (hd2 : dp ≤ n) (hn : n ≤ 6) {kk49 : tK49} {sk49 : tP49} {Dg dw nw : jA} : ∀ (j k e fuel n' c : Nat) (J bef mov nxt chn : jA) (P : Nat → jA) (pn : Nat) (tw : jA) (F sta sm par mv dep th : jA), k + j = e → j < fuel → e ≤ c → n' + k = 2000 → SR C off dear proved v2 v3 v4 v5 T c (J, bef, mov, nxt, chn, P, pn) (F, sta, sm, par, mv, dep, th) → (∀ i, k ≤ i → i < e → dep i = nI (dp - 1)) → (∀ i, e ≤ i → i < c → dep i = nI dp) →
    (∃ (J' bef' mov' nxt' chn' : jA) (P' : Nat → jA) (pn' : Nat) (tw' : jA) (F' sta' sm' par' mv' dep' th' : jA) (c' n1 : Nat), SR C off dear proved v2 v3 v4 v5 T c' (J', bef', mov', nxt', chn', P', pn') (F', sta', sm', par', mv', dep', th') ∧ FR J F J' F' ∧ e ≤ c' ∧ (∀ i, e ≤ i → i < c' → dep' i = nI dp) ∧ n1 + e = 2000 ∧
      f_X1_search_63 kk49 fuel C off dear proved Dg dw nw J bef mov nxt chn tw P pn (nI n) (nI dp) (nI e) (nI k) = kk49 C off dear proved Dg dw nw J' bef' mov' nxt' chn' tw' P' pn' (nI n) (nI e) (nI (dp + 1)) ∧ (sk49 C off dear proved Dg dw nw J' bef' mov' nxt' chn' tw' P' pn' (nI n) (nI e) (nI (dp + 1)) → s_X1_search_63 sk49 fuel C off dear proved Dg dw nw J bef mov nxt chn tw P pn (nI n) (nI dp) (nI e) (nI k)) ∧
      f_X6_search_39 n' F lg sta sm par mv dep th bf v2 v3 v4 v5 (nI n) (nI k) = f_X6_search_39 n1 F' lg sta' sm' par' mv' dep' th' bf v2 v3 v4 v5 (nI n) (nI e) ∧ (s_X6_search_39 n1 F' lg sta' sm' par' mv' dep' th' bf v2 v3 v4 v5 (nI n) (nI e) → s_X6_search_39 n' F lg sta sm par mv dep th bf v2 v3 v4 v5 (nI n) (nI k))) ∨
    (ENDS C off dear proved v2 v3 v4 v5 T lg Dg dw J F (f_X1_search_63 kk49 fuel C off dear proved Dg dw nw J bef mov nxt chn tw P pn (nI n) (nI dp) (nI e) (nI k)) (f_X6_search_39 n' F lg sta sm par mv dep th bf v2 v3 v4 v5 (nI n) (nI k)) ∧ s_X1_search_63 sk49 fuel C off dear proved Dg dw nw J bef mov nxt chn tw P pn (nI n) (nI dp) (nI e) (nI k) ∧ s_X6_search_39 n' F lg sta sm par mv dep th bf v2 v3 v4 v5 (nI n) (nI k))
  | 0, k, e, fuel, n', c, J, bef, mov, nxt, chn, P, pn, tw, F, sta, sm, par, mv, dep, th, hj, hf, hec, hn', H, D1, D2 => by
    obtain ⟨fuel, rfl⟩ : ∃ q, fuel = q + 1 := ⟨fuel - 1, by omega⟩
    have hc := H.1.1
    have ek : k = e := by omega
    subst ek
    left
    refine ⟨J, bef, mov, nxt, chn, P, pn, tw, F, sta, sm, par, mv, dep, th, c, n', H, ⟨fun _ _ _ _ => rfl, fun _ _ _ _ _ => rfl⟩, hec, D2, hn', ?_, fun q => ?_, rfl, id⟩
    · rw [f_X1_search_63]
      simp (disch := omega) only [pn_le, Nat.le_refl, if_true, nI_add]
    · rw [s_X1_search_63]
      simp (disch := omega) only [pn_le, Nat.le_refl, true_implies, not_true_eq_false, false_implies, and_true, nI_add]
      exact q
  | j + 1, k, e, fuel, n', c, J, bef, mov, nxt, chn, P, pn, tw, F, sta, sm, par, mv, dep, th, hj, hf, hec, hn', H, D1, D2 => by
    obtain ⟨fuel, rfl⟩ : ∃ q, fuel = q + 1 := ⟨fuel - 1, by omega⟩
    have hc := H.1.1
    obtain ⟨n', rfl⟩ : ∃ q, n' = q + 1 := ⟨n' - 1, by omega⟩
    have h15 : F 15 = nI c := H.2.1
    have dk := D1 k (Nat.le_refl k) (by omega)
    obtain ⟨-, -, -, ⟨d, nH, nN, nF, nL, t, u1, u2, u3, u4⟩, -⟩ := H.2.2.2.2.2 k (by omega)
    have ed : d = dp - 1 := by
      rw [dk, pn_eq (by omega) (by omega)] at u1; exact u1.symm
    have nd : ¬ nI (dp - 1) = nI n := by rw [pn_eq (by omega) (by omega)]; omega
    have A : AT C (P k) k d c T nH nN nF nL t (J, bef, mov, nxt, chn, P, pn) (F, sta, sm, par, mv, dep, th) := ⟨by omega, rfl, u1, by omega, u3, u4⟩
    obtain ⟨J1, bef1, mov1, nxt1, chn1, P1, pn1, tw1, came, r1, r2, r3⟩ := st_X (kk := f_X6_search_39 n') (sk := s_X6_search_39 n') (lg := lg) (bf := bf) (v6 := nI n) (Dg := Dg) (dw := dw) (tw := tw) (N := 1699) hv S hT H A
    have f39 : f_X6_search_39 (n' + 1) F lg sta sm par mv dep th bf v2 v3 v4 v5 (nI n) (nI k) = rF (f_X6_search_39 n') lg bf v2 v3 v4 v5 (nI n) k 2000 (F, sta, sm, par, mv, dep, th) 0 := by
      rw [f_X6_search_39]
      simp (disch := omega) only [h15, pn_le, show ¬ c ≤ k by omega, if_false, pn_cl, dk, nd]
      rfl
    have s39 : rS (s_X6_search_39 n') lg bf v2 v3 v4 v5 (nI n) k 2000 (F, sta, sm, par, mv, dep, th) 0 → s_X6_search_39 (n' + 1) F lg sta sm par mv dep th bf v2 v3 v4 v5 (nI n) (nI k) := fun q => by
      rw [s_X6_search_39]
      simp (disch := omega) only [h15, pn_le, show ¬ c ≤ k by omega, not_false_eq_true, true_implies, pn_cl, pn_in, dk, nd, false_implies, true_and]
      exact q
    have f63 : f_X1_search_63 kk49 (fuel + 1) C off dear proved Dg dw nw J bef mov nxt chn tw P pn (nI n) (nI dp) (nI e) (nI k) = f_X1_search_76 kk49 (f_X1_search_63 kk49 fuel) C off dear proved Dg dw nw J1 bef1 mov1 nxt1 chn1 tw1 P1 pn1 (nI n) (nI dp) (nI e) (nI k) came := by
      rw [f_X1_search_63]
      simp (disch := omega) only [pn_le, show ¬ e ≤ k by omega, if_false, r1]
    have s63 : s_X1_search_76 sk49 (s_X1_search_63 sk49 fuel) C off dear proved Dg dw nw J1 bef1 mov1 nxt1 chn1 tw1 P1 pn1 (nI n) (nI dp) (nI e) (nI k) came → s_X1_search_63 sk49 (fuel + 1) C off dear proved Dg dw nw J bef mov nxt chn tw P pn (nI n) (nI dp) (nI e) (nI k) := fun q => by
      rw [s_X1_search_63]
      simp (disch := omega) only [pn_le, show ¬ e ≤ k by omega, not_false_eq_true, true_implies, false_implies, true_and, r1, r2]
      exact q
    rw [f39, f63]
    rcases r3 with ⟨ec, c1, ⟨F1, sta1, sm1, par1, mv1, dep1, th1⟩, g1, g2, g3, g4⟩ | ⟨ec, c1, ⟨F1, sta1, sm1, par1, mv1, dep1, th1⟩, g1, g2, g3, g4, g5, g6, g7⟩ | ⟨ec, c1, ⟨F1, sta1, sm1, par1, mv1, dep1, th1⟩, g1, g2, g3, g4⟩
    · subst ec
      have re := rF_end (kk := f_X6_search_39 n') (sk := s_X6_search_39 n') (lg := lg) (bf := bf) (v2 := v2) (v3 := v3) (v4 := v4) (v5 := v5) (v6 := nI n) (k := k) (n := 1698) (F := F1) (sta := sta1) (sm := sm1) (par := par1) (mv := mv1) (dep := dep1) (th := th1)
      obtain ⟨x1, x2, x3, x4, x5⟩ := g2
      have f76 : f_X1_search_76 kk49 (f_X1_search_63 kk49 fuel) C off dear proved Dg dw nw J1 bef1 mov1 nxt1 chn1 tw1 P1 pn1 (nI n) (nI dp) (nI e) (nI k) (nI 0) = f_X1_search_63 kk49 fuel C off dear proved Dg dw nw J1 bef1 mov1 nxt1 chn1 tw1 P1 pn1 (nI n) (nI dp) (nI e) (nI (k + 1)) := by
        unfold f_X1_search_76
        rw [if_neg n10, if_neg (by decide), nI_add]
      have s76 : s_X1_search_63 sk49 fuel C off dear proved Dg dw nw J1 bef1 mov1 nxt1 chn1 tw1 P1 pn1 (nI n) (nI dp) (nI e) (nI (k + 1)) → s_X1_search_76 sk49 (s_X1_search_63 sk49 fuel) C off dear proved Dg dw nw J1 bef1 mov1 nxt1 chn1 tw1 P1 pn1 (nI n) (nI dp) (nI e) (nI k) (nI 0) := fun q => by
        unfold s_X1_search_76
        rw [nI_add]; exact fun _ _ => q
      have edp : d + 1 = dp := by omega
      have ih := L63 hv S hT hd1 hd2 hn (kk49 := kk49) (sk49 := sk49) (Dg := Dg) (dw := dw) (nw := nw) j (k + 1) e fuel n' c1 J1 bef1 mov1 nxt1 chn1 P1 pn1 tw1 F1 sta1 sm1 par1 mv1 dep1 th1 (by omega) (by omega) (by omega) (by omega) g1 (fun i h1 h2 => by rw [(x2 i (by omega)).2]; exact D1 i (by omega) h2) (fun i h1 h2 => by
        rcases Nat.lt_or_ge i c with z | z
        · rw [(x2 i z).2]; exact D2 i h1 z
        · rw [x3 i z h2, edp])
      have fr : FR J F J1 F1 := ⟨x4, x5⟩
      rw [f76, g3, re.1]
      rcases ih with ⟨J', bef', mov', nxt', chn', P', pn', tw', F', sta', sm', par', mv', dep', th', c', n1, i1, i2, i3, i4, i5, i6, i7, i8, i9⟩ | ⟨i1, i2, i3⟩
      · left
        exact ⟨J', bef', mov', nxt', chn', P', pn', tw', F', sta', sm', par', mv', dep', th', c', n1, i1, fr.tr i2, i3, i4, i5, i6, fun q => s63 (s76 (i7 q)), i8, fun q => s39 (g4 (re.2 (i9 q)))⟩
      · right
        exact ⟨i1.fr fr, s63 (s76 i2), s39 (g4 (re.2 i3))⟩
    · subst ec
      right
      obtain ⟨x1, x2, x3, x4, x5⟩ := g2
      refine ⟨⟨J1, bef1, mov1, nxt1, chn1, P1, pn1, tw1, F1, sta1, sm1, par1, mv1, dep1, th1, c1, nI dp, ?_, ?_, g1, ⟨x4, x5⟩, Or.inr (Or.inr ⟨dp, k, hd1, by omega, rfl, by omega, ?_, g5, g6, g7⟩)⟩, s63 ?_, s39 g4⟩
      · unfold f_X1_search_76; rw [if_pos rfl]
      · rw [g3, show d + 1 = dp by omega]; rfl
      · rw [(x2 k (by omega)).2]; exact dk
      · unfold s_X1_search_76; exact fun q => absurd rfl q
    · subst ec
      right
      obtain ⟨x1, x2, x3, x4, x5⟩ := g2
      refine ⟨⟨J1, bef1, mov1, nxt1, chn1, P1, pn1, tw1, F1, sta1, sm1, par1, mv1, dep1, th1, c1, (-4), ?_, ?_, g1, ⟨x4, x5⟩, Or.inr (Or.inl rfl)⟩, s63 ?_, s39 g4⟩
      · unfold f_X1_search_76; rw [if_neg n21, if_pos rfl]
      · rw [g3]; rfl
      · unfold s_X1_search_76; exact fun _ q => absurd rfl q
/-- the states that are too deep -/
theorem Lend {n : Nat} {F sta sm par mv dep th : jA} {c : Nat} (h15 : F 15 = nI c) (hc : c ≤ 300) (hn : n ≤ 6) : ∀ (j k n' : Nat), k + j = c → n' + k = 2000 → (∀ i, k ≤ i → i < c → dep i = nI n) → f_X6_search_39 n' F lg sta sm par mv dep th bf v2 v3 v4 v5 (nI n) (nI k) = (F, lg, sta, sm, par, mv, dep, th, (-1)) ∧ s_X6_search_39 n' F lg sta sm par mv dep th bf v2 v3 v4 v5 (nI n) (nI k)
  | 0, k, n', hj, hn', D => by
    obtain ⟨n', rfl⟩ : ∃ q, n' = q + 1 := ⟨n' - 1, by omega⟩
    have e : k = c := by omega
    subst e
    rw [f_X6_search_39, s_X6_search_39]
    simp (disch := omega) only [h15, pn_le, Nat.le_refl, if_true, not_true_eq_false, false_implies, and_true]
  | j + 1, k, n', hj, hn', D => by
    obtain ⟨n', rfl⟩ : ∃ q, n' = q + 1 := ⟨n' - 1, by omega⟩
    have dk := D k (Nat.le_refl k) (by omega)
    have ih := Lend (sta := sta) (sm := sm) (par := par) (mv := mv) (th := th) h15 hc hn j (k + 1) n' (by omega) (by omega) (fun i h1 h2 => D i (by omega) h2)
    rw [f_X6_search_39, s_X6_search_39]
    simp (disch := omega) only [h15, pn_le, show ¬ c ≤ k by omega, if_false, pn_cl, dk, if_true, f_X6_search_277, s_X6_search_277, nI_add, not_false_eq_true, true_implies, not_true_eq_false, false_implies, and_true, pn_in, true_and]
    exact ih
theorem L49 (hv : v2 = nI 0 ∨ (v2 = nI 1 ∧ ∃ b, b < 4 ∧ v3 = nI b)) (S : SC C) (hT : T + 6 < 40000) {n : Nat} (hn : n ≤ 6) {Dg dw nw : jA} : ∀ (j dp k fuel n' c : Nat) (J bef mov nxt chn : jA) (P : Nat → jA) (pn : Nat) (tw : jA) (F sta sm par mv dep th : jA), dp + j = n + 1 → 1 ≤ dp → j < fuel → k ≤ c → n' + k = 2000 → SR C off dear proved v2 v3 v4 v5 T c (J, bef, mov, nxt, chn, P, pn) (F, sta, sm, par, mv, dep, th) → (∀ i, k ≤ i → i < c → dep i = nI (dp - 1)) →
    ENDS C off dear proved v2 v3 v4 v5 T lg Dg dw J F (f_X1_search_49 fuel C off dear proved Dg dw nw J bef mov nxt chn tw P pn (nI n) (nI k) (nI dp)) (f_X6_search_39 n' F lg sta sm par mv dep th bf v2 v3 v4 v5 (nI n) (nI k)) ∧ s_X1_search_49 fuel C off dear proved Dg dw nw J bef mov nxt chn tw P pn (nI n) (nI k) (nI dp) ∧ s_X6_search_39 n' F lg sta sm par mv dep th bf v2 v3 v4 v5 (nI n) (nI k)
  | 0, dp, k, fuel, n', c, J, bef, mov, nxt, chn, P, pn, tw, F, sta, sm, par, mv, dep, th, hj, hd, hf, hk, hn', H, D => by
    obtain ⟨fuel, rfl⟩ : ∃ q, fuel = q + 1 := ⟨fuel - 1, by omega⟩
    have hc := H.1.1
    have le := Lend (lg := lg) (bf := bf) (v2 := v2) (v3 := v3) (v4 := v4) (v5 := v5) (dep := dep) (sta := sta) (sm := sm) (par := par) (mv := mv) (th := th) H.2.1 hc hn (c - k) k n' (by omega) hn' (fun i h1 h2 => by rw [D i h1 h2, show dp - 1 = n by omega])
    refine ⟨⟨J, bef, mov, nxt, chn, P, pn, tw, F, sta, sm, par, mv, dep, th, c, (-1), ?_, le.1, H, ⟨fun _ _ _ _ => rfl, fun _ _ _ _ _ => rfl⟩, Or.inl rfl⟩, ?_, le.2⟩
    · rw [f_X1_search_49]
      simp (disch := omega) only [pn_lt, show n < dp by omega, if_true]
    · rw [s_X1_search_49]
      simp (disch := omega) only [pn_lt, show n < dp by omega, not_true_eq_false, false_implies]
  | j + 1, dp, k, fuel, n', c, J, bef, mov, nxt, chn, P, pn, tw, F, sta, sm, par, mv, dep, th, hj, hd, hf, hk, hn', H, D => by
    obtain ⟨fuel, rfl⟩ : ∃ q, fuel = q + 1 := ⟨fuel - 1, by omega⟩
    have hc := H.1.1
    have h9 : J 9 = nI c := H.1.2.1
    have nl : ¬ n < dp := by omega
    have f49 : f_X1_search_49 (fuel + 1) C off dear proved Dg dw nw J bef mov nxt chn tw P pn (nI n) (nI k) (nI dp) = f_X1_search_63 (f_X1_search_49 fuel) ng_F C off dear proved Dg dw nw J bef mov nxt chn tw P pn (nI n) (nI dp) (nI c) (nI k) := by
      rw [f_X1_search_49]
      simp (disch := omega) only [pn_lt, nl, if_false, h9]
    have s49 : s_X1_search_63 (s_X1_search_49 fuel) ng_F C off dear proved Dg dw nw J bef mov nxt chn tw P pn (nI n) (nI dp) (nI c) (nI k) → s_X1_search_49 (fuel + 1) C off dear proved Dg dw nw J bef mov nxt chn tw P pn (nI n) (nI k) (nI dp) := fun q => by
      rw [s_X1_search_49]
      simp (disch := omega) only [pn_lt, nl, not_false_eq_true, true_implies, h9]
      exact q
    rcases L63 (lg := lg) (bf := bf) hv S hT hd (show dp ≤ n by omega) hn (kk49 := f_X1_search_49 fuel) (sk49 := s_X1_search_49 fuel) (Dg := Dg) (dw := dw) (nw := nw) (c - k) k c ng_F n' c J bef mov nxt chn P pn tw F sta sm par mv dep th (by omega) (by rw [ng_F_v]; omega) (Nat.le_refl c) hn' H D (fun i h1 h2 => by omega) with ⟨J', bef', mov', nxt', chn', P', pn', tw', F', sta', sm', par', mv', dep', th', c', n1, i1, i2, i3, i4, i5, i6, i7, i8, i9⟩ | ⟨i1, i2, i3⟩
    · have ih := L49 hv S hT hn (Dg := Dg) (dw := dw) (nw := nw) j (dp + 1) c fuel n1 c' J' bef' mov' nxt' chn' P' pn' tw' F' sta' sm' par' mv' dep' th' (by omega) (by omega) (by omega) i3 i5 i1 (fun i h1 h2 => i4 i h1 h2)
      rw [f49, i6, i8]
      exact ⟨ih.1.fr i2, s49 (i7 ih.2.1), i9 ih.2.2⟩
    · rw [f49]
      exact ⟨i1, s49 i2, i3⟩
end SEL
