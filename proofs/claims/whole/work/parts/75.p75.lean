/-- the way to a state -/
def PTH (bef mov par mv : jA) (dp k : Nat) : Prop := ∃ s : Nat → Nat, s (dp - 1) = k ∧ (∀ i, i < dp → s i < 300) ∧ (∀ i, mov (s i) = mv (s i) ∨ dp ≤ i) ∧ ∀ i, 0 < i → i < dp → bef (s i) = nI (s (i - 1)) ∧ par (s i) = nI (s (i - 1))
theorem SR_path {C off dear proved : jA} {v2 v3 v4 v5 : Int32} {T c : Nat} {J bef mov nxt chn : jA} {P : Nat → jA} {pn : Nat} {F sta sm par mv dep th : jA} (H : SR C off dear proved v2 v3 v4 v5 T c (J, bef, mov, nxt, chn, P, pn) (F, sta, sm, par, mv, dep, th)) : ∀ (i k : Nat), i ≤ 6 → k < c → dep k = nI i → ∃ s : Nat → Nat, s i = k ∧ (∀ j, j ≤ i → s j < c) ∧ ∀ j, 0 < j → j ≤ i → bef (s j) = nI (s (j - 1)) ∧ par (s j) = nI (s (j - 1))
  | 0, k, _, hk, _ => ⟨fun _ => k, rfl, fun _ _ => hk, fun j h1 h2 => by omega⟩
  | i + 1, k, hi, hk, hd => by
    obtain ⟨-, -, -, -, -, a6, a7⟩ := H.2.2.2.2.2 k hk
    have k0 : 0 < k := by
      rcases Nat.eq_zero_or_pos k with z | z
      · have := a6 z
        rw [hd, pn_eq (by omega) (by omega)] at this
        omega
      · exact z
    obtain ⟨p, d, b1, b2, b3, b4, b5⟩ := a7 k0
    obtain ⟨-, -, -, ⟨d', _, _, _, _, _, u1, u2, -⟩, -⟩ := H.2.2.2.2.2 p (by omega)
    have z2 : nI d = nI d' := by rw [← b4, ← u1]
    have z4 : nI (i + 1) = nI (d' + 1) := by rw [← hd, b5, ← nI_add d 1, ← nI_add d' 1, z2]
    rw [pn_eq (by omega) (by omega)] at z4
    have ed : d' = i := by omega
    rw [ed] at u1
    obtain ⟨s, s1, s2, s3⟩ := SR_path H i p (by omega) (by omega) u1
    refine ⟨fun j => if j = i + 1 then k else s j, if_pos rfl, fun j hj => ?_, fun j h1 h2 => ?_⟩
    · dsimp only
      by_cases e : j = i + 1
      · rw [if_pos e]; exact hk
      · rw [if_neg e]; exact s2 j (by omega)
    · dsimp only
      by_cases e : j = i + 1
      · subst e
        rw [if_pos rfl, if_neg (by omega), show i + 1 - 1 = i by omega, s1]
        exact ⟨b2, b3⟩
      · rw [if_neg e, if_neg (by omega)]
        exact s3 j h1 (by omega)
theorem laysb_eq {F sta sm par mv dep bf : jA} {v2 : Int32} (hF : F 15 = nI 0) : f_X6_lays_bf F sta sm par mv dep bf v2 (-1) (-1) = (upd F 15 (nI 1), (fun i => if 527 * 0 ≤ i ∧ i < 527 * 0 + 527 then bf (0 + (i - 527 * 0)) else sta i), upd sm 0 v2, upd par 0 (-1), upd mv 0 (-1), upd dep 0 (nI 0)) ∧ s_X6_lays_bf F sta sm par mv dep bf v2 (-1) (-1) := by
  have cp := cp_eq (fr := bf) (fo := sta) (nn := 527) (oo := 158100) (p := 0) (q := 527 * 0) (by omega) (by omega) (by omega) (by omega)
  simp (disch := omega) only [f_X6_lays_bf, f_X6_lays_bf_17, f_X6_lays_bf_72, s_X6_lays_bf, s_X6_lays_bf_17, s_X6_lays_bf_72, hF, pk_mul, cp.1, cp.2, pn_cl, pn_in, m1_ge, if_false, nI_add, not_false_eq_true, false_implies, true_implies, and_true, true_and]
section SCH
variable {C off dear proved : jA} {v2 v3 v4 v5 : Int32}
theorem search_st {nw Dg dw J bef mov nxt chn tw F lg sta sm par mv dep th : jA} {P : Nat → jA} {pn n nH nN nF nL t : Nat} (S : SC C) (R : WR C nw nH nN nF nL t) (ht : t ≤ 30000) (hv : v2 = nI 0 ∨ (v2 = nI 1 ∧ ∃ b, b < 4 ∧ v3 = nI b)) (hn : n ≤ 6) (hF : ¬ F 2 = 0) (hz : NZ th) (hp : pn ≤ 300) (hJ : J 10 = v2 ∧ J 11 = v3 ∧ J 12 = v4 ∧ J 13 = v5) :
    ∃ (J' bef' mov' nxt' chn' : jA) (P' : Nat → jA) (pn' : Nat) (tw' : jA) (F' sta' sm' par' mv' dep' th' : jA) (a : Int32), f_X1_search C off dear proved Dg dw nw J bef mov nxt chn tw P pn (nI n) = (Dg, dw, J', bef', mov', nxt', chn', tw', P', pn', a) ∧ s_X1_search C off dear proved Dg dw nw J bef mov nxt chn tw P pn (nI n) ∧ f_X6_search F lg sta sm par mv dep th (eV C off dear proved nw) v2 v3 v4 v5 (nI n) = (F', lg, sta', sm', par', mv', dep', th', a) ∧ s_X6_search F lg sta sm par mv dep th (eV C off dear proved nw) v2 v3 v4 v5 (nI n) ∧ J' 9 = F' 15 ∧ FR J F J' F' ∧ NZ th' ∧ pn' ≤ 300 ∧
      ((a = (-1) ∨ a = (-4) ∨ a = nI 0) ∨ ∃ dp k, 1 ≤ dp ∧ dp ≤ 6 ∧ a = nI dp ∧ k < 300 ∧ J' 14 = nI k ∧ J' 15 = F' 25 ∧ F' 26 = nI k ∧ PTH bef' mov' par' mv' dp k) := by
  have hN := R.2.1.2
  obtain ⟨b, b1, b2, b3⟩ := bec_eq (tw := tw) R.2.1.1 hN
  have Rb := WR_AG R b3
  have eb := eV_AG C off dear proved R.2.1.1 hN b3
  have e256 : Int32.ofNat 256 = nI 256 := rfl
  have fl := fillI5 (nn := 256) (v := (-1)) (by omega) ng_F 0 chn (by rw [ng_F_v]; omega) (by omega)
  have ffl : f_J7_fillI chn 256 (-1) = (fun i => if 0 ≤ i ∧ i < 256 then (-1) else chn i) := fl.1
  have sfl : s_J7_fillI chn 256 (-1) := fl.2
  have ly := laysb_eq (F := upd (upd F 15 (nI 0)) 26 (-1)) (sta := sta) (sm := sm) (par := par) (mv := mv) (dep := dep) (bf := eV C off dear proved nw) (v2 := f_X6_sumOf (eV C off dear proved nw)) (by rw [pu_n _ _ (by omega), pu_s])
  have hJ9 : ∀ i, i ≠ 9 → upd J 9 (nI 0) i = J i := fun i h => pu_n _ _ h
  have fX6 : f_X6_search F lg sta sm par mv dep th (eV C off dear proved nw) v2 v3 v4 v5 (nI n) = f_X6_search_21 (upd (upd (upd F 15 (nI 0)) 26 (-1)) 15 (nI 1)) lg (fun i => if 527 * 0 ≤ i ∧ i < 527 * 0 + 527 then eV C off dear proved nw (0 + (i - 527 * 0)) else sta i) (upd sm 0 (f_X6_sumOf (eV C off dear proved nw))) (upd par 0 (-1)) (upd mv 0 (-1)) (upd dep 0 (nI 0)) th (eV C off dear proved nw) v2 v3 v4 v5 (nI n) := by
    simp only [f_X6_search, ly.1]
  have sX6 : s_X6_search_21 (upd (upd (upd F 15 (nI 0)) 26 (-1)) 15 (nI 1)) lg (fun i => if 527 * 0 ≤ i ∧ i < 527 * 0 + 527 then eV C off dear proved nw (0 + (i - 527 * 0)) else sta i) (upd sm 0 (f_X6_sumOf (eV C off dear proved nw))) (upd par 0 (-1)) (upd mv 0 (-1)) (upd dep 0 (nI 0)) th (eV C off dear proved nw) v2 v3 v4 v5 (nI n) → s_X6_search F lg sta sm par mv dep th (eV C off dear proved nw) v2 v3 v4 v5 (nI n) := fun q => by
    simp only [s_X6_search, ly.1, ly.2, sum_s, true_and]
    exact q
  have fX1 : f_X1_search C off dear proved Dg dw nw J bef mov nxt chn tw P pn (nI n) = f_X1_search_24 C off dear proved Dg dw nw (upd J 9 (nI 0)) bef mov nxt (fun i => if 0 ≤ i ∧ i < 256 then (-1) else chn i) b P pn (nI n) := by
    simp only [f_X1_search, f_X1_search_8, ffl, b1]
  have sX1 : s_X1_search_24 C off dear proved Dg dw nw (upd J 9 (nI 0)) bef mov nxt (fun i => if 0 ≤ i ∧ i < 256 then (-1) else chn i) b P pn (nI n) → s_X1_search C off dear proved Dg dw nw J bef mov nxt chn tw P pn (nI n) := fun q => by
    simp only [s_X1_search, s_X1_search_8, ffl, sfl, b1, b2, true_and]
    exact q
  rw [fX6, fX1]
  -- the search from a start that doesn't meet the goal
  have go : f_X1_isStrangeNoteTaken (upd J 9 (nI 0)) b = nI 0 → s_X1_isStrangeNoteTaken (upd J 9 (nI 0)) b → (v2 = nI 1 → f_X6_isMixed (eV C off dear proved nw) v3 = 0 ∧ s_X6_isMixed (eV C off dear proved nw) v3) →
      ∃ (J' bef' mov' nxt' chn' : jA) (P' : Nat → jA) (pn' : Nat) (tw' : jA) (F' sta' sm' par' mv' dep' th' : jA) (a : Int32), f_X1_search_24 C off dear proved Dg dw nw (upd J 9 (nI 0)) bef mov nxt (fun i => if 0 ≤ i ∧ i < 256 then (-1) else chn i) b P pn (nI n) = (Dg, dw, J', bef', mov', nxt', chn', tw', P', pn', a) ∧ s_X1_search C off dear proved Dg dw nw J bef mov nxt chn tw P pn (nI n) ∧ f_X6_search_21 (upd (upd (upd F 15 (nI 0)) 26 (-1)) 15 (nI 1)) lg (fun i => if 527 * 0 ≤ i ∧ i < 527 * 0 + 527 then eV C off dear proved nw (0 + (i - 527 * 0)) else sta i) (upd sm 0 (f_X6_sumOf (eV C off dear proved nw))) (upd par 0 (-1)) (upd mv 0 (-1)) (upd dep 0 (nI 0)) th (eV C off dear proved nw) v2 v3 v4 v5 (nI n) = (F', lg, sta', sm', par', mv', dep', th', a) ∧ s_X6_search F lg sta sm par mv dep th (eV C off dear proved nw) v2 v3 v4 v5 (nI n) ∧ J' 9 = F' 15 ∧ FR J F J' F' ∧ NZ th' ∧ pn' ≤ 300 ∧
        ((a = (-1) ∨ a = (-4) ∨ a = nI 0) ∨ ∃ dp k, 1 ≤ dp ∧ dp ≤ 6 ∧ a = nI dp ∧ k < 300 ∧ J' 14 = nI k ∧ J' 15 = F' 25 ∧ F' 26 = nI k ∧ PTH bef' mov' par' mv' dp k) := by
    intro q1 q2 q3
    have CR0 : CR C (upd J 9 (nI 0)) nxt (fun i => if 0 ≤ i ∧ i < 256 then (-1) else chn i) P pn 0 := ⟨by omega, pu_s _ _ _, by omega, hp, fun k h => by omega, fun b hb => by dsimp only; rw [if_pos (by omega)]; rfl⟩
    have ks := keep_st C off dear proved (bef := bef) (mov := mov) (v1 := nI 0) (v2 := (-1)) CR0 Rb
    obtain ⟨J1, nxt1, chn1, P1, pn1, fk, eJ, hCR, hA⟩ : ∃ (J' nxt' chn' : jA) (P' : Nat → jA) (pn' : Nat), f_X1_keepIfNew (upd J 9 (nI 0)) bef mov nxt (fun i => if 0 ≤ i ∧ i < 256 then (-1) else chn i) b P pn (nI 0) (-1) = (J', upd bef 0 (nI 0), upd mov 0 (-1), nxt', chn', P', pn', nI 0) ∧ J' = upd (upd J 9 (nI 0)) 9 (nI 1) ∧ CR C J' nxt' chn' P' pn' 1 ∧ AG b (P' 0) nN := by
      rcases ks.2 with ⟨⟨k, h, -⟩, -⟩ | ⟨-, h, -⟩ | ⟨-, -, J', nxt', chn', P', pn', f, g, h, -, i, -⟩
      · omega
      · omega
      · exact ⟨J', nxt', chn', P', pn', f, g, h, i⟩
    have R1 := WR_AG Rb hA
    have e1 : eV C off dear proved (P1 0) = eV C off dear proved nw := by rw [eV_AG C off dear proved Rb.2.1.1 hN hA, eb]
    have jj : ∀ i, i ≠ 9 → J1 i = J i := fun i h => by rw [eJ, pu_n _ _ h, pu_n _ _ h]
    have ff : ∀ i, i ≠ 15 → i ≠ 26 → upd (upd (upd F 15 (nI 0)) 26 (-1)) 15 (nI 1) i = F i := fun i h1 h2 => by rw [pu_n _ _ h1, pu_n _ _ h2, pu_n _ _ h1]
    have SR1 : SR C off dear proved v2 v3 v4 v5 30000 1 (J1, upd bef 0 (nI 0), upd mov 0 (-1), nxt1, chn1, P1, pn1) (upd (upd (upd F 15 (nI 0)) 26 (-1)) 15 (nI 1), (fun i => if 527 * 0 ≤ i ∧ i < 527 * 0 + 527 then eV C off dear proved nw (0 + (i - 527 * 0)) else sta i), upd sm 0 (f_X6_sumOf (eV C off dear proved nw)), upd par 0 (-1), upd mv 0 (-1), upd dep 0 (nI 0), th) := by
      refine ⟨hCR, pu_s _ _ _, ?_, ?_, hz, fun k hk => ?_⟩
      · rw [jj 10 (by omega), jj 11 (by omega), jj 12 (by omega), jj 13 (by omega)]; exact hJ
      · rw [ff 2 (by omega) (by omega)]; exact hF
      · have k0 : k = 0 := by omega
        subst k0
        rw [e1, pu_s, pu_s, pu_s, pu_s]
        refine ⟨fun i hi => ?_, rfl, rfl, ⟨0, nH, nN, nF, nL, t, rfl, by omega, R1, by omega⟩, fun q => (q3 q).1, fun _ => rfl, fun q => by omega⟩
        dsimp only
        rw [if_pos (by omega)]; exact congrArg (eV C off dear proved nw) (by omega)
    obtain ⟨⟨J', bef', mov', nxt', chn', P', pn', tw', F', sta', sm', par', mv', dep', th', c', a, g1, g2, g3, g4, g5⟩, g6, g7⟩ := L49 (lg := lg) (bf := eV C off dear proved nw) (T := 30000) hv S (by omega) hn (Dg := Dg) (dw := dw) (nw := nw) n 1 0 ng_F 2000 1 J1 (upd bef 0 (nI 0)) (upd mov 0 (-1)) nxt1 chn1 P1 pn1 b _ _ _ _ _ _ th (by omega) (by omega) (by rw [ng_F_v]; omega) (by omega) (by omega) SR1 (fun i h1 h2 => by
      have : i = 0 := by omega
      rw [this, pu_s])
    have f21 : f_X6_search_21 (upd (upd (upd F 15 (nI 0)) 26 (-1)) 15 (nI 1)) lg (fun i => if 527 * 0 ≤ i ∧ i < 527 * 0 + 527 then eV C off dear proved nw (0 + (i - 527 * 0)) else sta i) (upd sm 0 (f_X6_sumOf (eV C off dear proved nw))) (upd par 0 (-1)) (upd mv 0 (-1)) (upd dep 0 (nI 0)) th (eV C off dear proved nw) v2 v3 v4 v5 (nI n) = (F', lg, sta', sm', par', mv', dep', th', a) := by
      rw [← g2]
      unfold f_X6_search_21 f_X6_search_36
      by_cases e : v2 = nI 1
      · rw [if_pos e, (q3 e).1, if_pos rfl]; rfl
      · rw [if_neg e]; rfl
    have s21 : s_X6_search F lg sta sm par mv dep th (eV C off dear proved nw) v2 v3 v4 v5 (nI n) := by
      refine sX6 ?_
      unfold s_X6_search_21 s_X6_search_36
      exact ⟨fun e => ⟨(q3 e).2, fun _ => g7⟩, fun _ => g7⟩
    refine ⟨J', bef', mov', nxt', chn', P', pn', tw', F', sta', sm', par', mv', dep', th', a, ?_, sX1 ?_, f21, s21, ?_, ⟨fun i h1 h2 h3 => ?_, fun i h1 h2 h3 h4 => ?_⟩, g3.2.2.2.2.1, g3.1.2.2.2.1, ?_⟩
    · rw [← g1]
      simp only [f_X1_search_24, q1, n00, if_true, fk, f_X1_search_44]
    · simp only [s_X1_search_24, q1, q2, n00, true_implies, ks.1, fk, s_X1_search_44, true_and]
      exact g6
    · rw [g3.1.2.1, g3.2.1]
    · rw [g4.1 i h1 h2 h3]; exact jj i h1
    · rw [g4.2 i h1 h2 h3 h4]; exact ff i h1 h4
    · rcases g5 with e | e | ⟨dp, k, d1, d2, d3, d4, d5, d6, d7, d8⟩
      · exact Or.inl (Or.inl e)
      · exact Or.inl (Or.inr (Or.inl e))
      · have hc' := g3.1.1
        obtain ⟨s, s1, s2, s3⟩ := SR_path g3 (dp - 1) k (by omega) d4 d5
        refine Or.inr ⟨dp, k, d1, d2, d3, by omega, d6, d7, d8, s, s1, fun i hi => ?_, fun i => ?_, fun i h1 h2 => s3 i h1 (by omega)⟩
        · have := s2 i (by omega); omega
        · rcases Nat.lt_or_ge i dp with z | z
          · exact Or.inl (g3.2.2.2.2.2 (s i) (s2 i (by omega))).2.2.1
          · exact Or.inr z
  rcases hv with e | ⟨e, x, hx, ex⟩
  · have q1 : f_X1_isStrangeNoteTaken (upd J 9 (nI 0)) b = nI 0 := by
      unfold f_X1_isStrangeNoteTaken
      rw [hJ9 10 (by omega), hJ.1, e, if_neg n10]
    have q2 : s_X1_isStrangeNoteTaken (upd J 9 (nI 0)) b := by
      unfold s_X1_isStrangeNoteTaken
      rw [hJ9 10 (by omega), hJ.1, e]
      exact fun q => absurd q n10
    exact go q1 q2 (fun q => absurd (e.symm.trans q) n10)
  · have mc := mix_cv C off dear proved (w := b) (J := upd J 9 (nI 0)) Rb.2.1.1 hN hx (by rw [hJ9 11 (by omega), hJ.2.1, ex]) (by rw [hJ9 10 (by omega), hJ.1, e])
    rw [eb, ← ex] at mc
    rcases mc.1.2 with q | q
    · exact go q mc.2.1 (fun _ => ⟨by rw [← mc.1.1]; exact q, mc.2.2⟩)
    · have mx : f_X6_isMixed (eV C off dear proved nw) v3 = nI 1 := by rw [← mc.1.1]; exact q
      have nm : ¬ f_X6_isMixed (eV C off dear proved nw) v3 = 0 := by rw [mx]; exact n1z
      refine ⟨upd (upd J 9 (nI 0)) 9 (nI 1), bef, mov, nxt, (fun i => if 0 ≤ i ∧ i < 256 then (-1) else chn i), P, pn, b, upd (upd (upd F 15 (nI 0)) 26 (-1)) 15 (nI 1), (fun i => if 527 * 0 ≤ i ∧ i < 527 * 0 + 527 then eV C off dear proved nw (0 + (i - 527 * 0)) else sta i), upd sm 0 (f_X6_sumOf (eV C off dear proved nw)), upd par 0 (-1), upd mv 0 (-1), upd dep 0 (nI 0), th, nI 0, ?_, sX1 ?_, ?_, sX6 ?_, ?_, ⟨fun i h1 _ _ => ?_, fun i h1 _ _ h4 => ?_⟩, hz, hp, Or.inl (Or.inr (Or.inr rfl))⟩
      · unfold f_X1_search_24
        rw [q, if_neg n1z]
      · unfold s_X1_search_24
        exact ⟨mc.2.1, fun y => absurd y (by rw [q]; exact n1z)⟩
      · unfold f_X6_search_21
        rw [if_pos e, if_neg nm]
      · unfold s_X6_search_21
        exact ⟨fun _ => ⟨mc.2.2, fun y => absurd y nm⟩, fun y => absurd e y⟩
      · rw [pu_s, pu_s]
      · rw [pu_n _ _ h1, pu_n _ _ h1]
      · rw [pu_n _ _ h1, pu_n _ _ h4, pu_n _ _ h1]
end SCH
