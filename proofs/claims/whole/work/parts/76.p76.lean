theorem m1_sub (i : Nat) : nI (i + 1) + (-1) = nI i := by rw [i32_m1, pn_sub (by omega)]; rfl
theorem m0_sub : nI 0 + (-1) = (-1) := by decide
section TEL
variable {bef mov par mv : jA} {s : Nat → Nat} {dp : Nat}
theorem tell45 {J : jA} (hs : ∀ i, i < dp → s i < 300) (hb : ∀ i, 0 < i → i < dp → bef (s i) = nI (s (i - 1))) (hd : dp ≤ 6) : ∀ (i n : Nat) (tol : jA) (m : Int32), i < dp → i + 1 < n → f_X1_tell_45 n J bef mov tol (nI (s i)) m (nI i) = (J, fun j => if j = i then m else if j < i then mov (s (j + 1)) else tol j) ∧ s_X1_tell_45 n J bef mov tol (nI (s i)) m (nI i)
  | 0, n, tol, m, hi, hn => by
    obtain ⟨n, rfl⟩ : ∃ q, n = q + 2 := ⟨n - 2, by omega⟩
    have h0 := hs 0 hi
    have n3 : ¬ 300 ≤ s 0 := by omega
    rw [f_X1_tell_45, s_X1_tell_45]
    simp (disch := omega) only [pn_lt0, if_false, pn_le, n3, not_false_eq_true, true_implies, false_implies, true_and, pn_in, f_X1_tell_83, s_X1_tell_83, m0_sub, pn_cl]
    rw [f_X1_tell_45, s_X1_tell_45, if_pos m1_lt]
    refine ⟨congrArg (fun q => (J, q)) ?_, fun z => absurd m1_lt z⟩
    funext j
    by_cases e : j = 0
    · subst e; rw [pu_s, if_pos rfl]
    · rw [pu_n _ _ e, if_neg e, if_neg (by omega)]
  | i + 1, n, tol, m, hi, hn => by
    obtain ⟨n, rfl⟩ : ∃ q, n = q + 1 := ⟨n - 1, by omega⟩
    have h0 := hs (i + 1) hi
    have n3 : ¬ 300 ≤ s (i + 1) := by omega
    have hb1 := hb (i + 1) (by omega) hi
    rw [show i + 1 - 1 = i by omega] at hb1
    have ih := tell45 (J := J) hs hb hd i n (upd tol (i + 1) m) (mov (s (i + 1))) (by omega) (by omega)
    rw [f_X1_tell_45, s_X1_tell_45]
    simp (disch := omega) only [pn_lt0, if_false, pn_le, n3, not_false_eq_true, true_implies, false_implies, true_and, pn_in, f_X1_tell_83, s_X1_tell_83, m1_sub, pn_cl, hb1]
    refine ⟨ih.1.trans ?_, ih.2⟩
    congr 1
    funext j
    by_cases e : j = i + 1
    · subst e; rw [if_neg (by omega), if_neg (by omega), pu_s, if_pos rfl]
    · rw [if_neg e]
      by_cases e2 : j = i
      · subst e2; rw [if_pos rfl, if_pos (by omega)]
      · rw [if_neg e2]
        by_cases e3 : j < i
        · rw [if_pos e3, if_pos (by omega)]
        · rw [if_neg e3, if_neg (by omega), pu_n _ _ e]
theorem jud115 {F rl lg sta sm dep th bf : jA} {v6 : Int32} (hs : ∀ i, i < dp → s i < 300) (hp : ∀ i, 0 < i → i < dp → par (s i) = nI (s (i - 1))) (hd : dp ≤ 6) : ∀ (i n : Nat) (row : jA), i + 1 < dp → i + 1 < n → f_X6_judge_115 n F rl lg sta sm par mv dep th bf row v6 (nI (s (i + 1))) (nI i) = (F, lg, sta, sm, par, mv, dep, th, bf, (fun j => if j ≤ i then mv (s (j + 1)) else row j), v6) ∧ s_X6_judge_115 n F rl lg sta sm par mv dep th bf row v6 (nI (s (i + 1))) (nI i)
  | 0, n, row, hi, hn => by
    obtain ⟨n, rfl⟩ : ∃ q, n = q + 2 := ⟨n - 2, by omega⟩
    have h0 := hs 1 hi
    rw [f_X6_judge_115, s_X6_judge_115]
    simp (disch := omega) only [pn_lt0, if_false, not_false_eq_true, true_implies, true_and, pn_in, m0_sub, pn_cl, Nat.zero_add]
    rw [f_X6_judge_115, s_X6_judge_115, if_pos m1_lt]
    refine ⟨?_, fun z => absurd m1_lt z⟩
    congr 10
    funext j
    by_cases e : j = 0
    · subst e; rw [pu_s, if_pos (by omega)]
    · rw [pu_n _ _ e, if_neg (by omega)]
  | i + 1, n, row, hi, hn => by
    obtain ⟨n, rfl⟩ : ∃ q, n = q + 1 := ⟨n - 1, by omega⟩
    have h0 := hs (i + 1 + 1) hi
    have hp1 := hp (i + 1 + 1) (by omega) hi
    rw [show i + 1 + 1 - 1 = i + 1 by omega] at hp1
    have ih := jud115 (F := F) (rl := rl) (lg := lg) (sta := sta) (sm := sm) (dep := dep) (th := th) (bf := bf) (v6 := v6) hs hp hd i n (upd row (i + 1) (mv (s (i + 1 + 1)))) (by omega) (by omega)
    rw [f_X6_judge_115, s_X6_judge_115]
    simp (disch := omega) only [pn_lt0, if_false, not_false_eq_true, true_implies, true_and, pn_in, m1_sub, pn_cl, hp1]
    refine ⟨ih.1.trans ?_, ih.2⟩
    congr 10
    funext j
    by_cases e : j = i + 1
    · subst e; rw [if_neg (by omega), pu_s, if_pos (by omega)]
    · by_cases e3 : j ≤ i
      · rw [if_pos e3, if_pos (by omega)]
      · rw [if_neg e3, if_neg (by omega), pu_n _ _ e]
end TEL
section JUD
variable {C off dear proved : jA}
/-- a question -/
theorem q_c {nw : jA} {nH nN nF nL t : Nat} (R : WR C nw nH nN nF nL t) (v1 v2 v3 v4 v5 : Int32) : s_X6_isAsked (eV C off dear proved nw) v1 v2 v3 v4 v5 ∧ ((f_X5_isQuestion C v1 v2 v3 v4 v5 = nI 0 ∧ f_X6_isAsked (eV C off dear proved nw) v1 v2 v3 v4 v5 = nI 0) ∨ (f_X5_isQuestion C v1 v2 v3 v4 v5 = nI 1 ∧ f_X6_isAsked (eV C off dear proved nw) v1 v2 v3 v4 v5 = nI 1 ∧ (v1 = nI 0 ∨ (v1 = nI 1 ∧ ∃ b, b < 4 ∧ v2 = nI b)) ∧ ∃ n, n ≤ 6 ∧ v5 = nI n)) := by
  refine ⟨fun _ _ _ _ => sho _ _, ?_⟩
  rcases ri_c v4 with ⟨r1, r2⟩ | ⟨r, hr, rfl, r1, r2⟩
  · left
    simp only [f_X5_isQuestion, f_X6_isAsked, r1, r2, n00, if_true, ite_self, and_self]
  rcases iv_c (n := 6) (by omega) v5 with ⟨h1, -⟩ | ⟨n, hn, rfl, h1⟩
  · left
    simp only [f_X5_isQuestion, f_X6_isAsked, wi, r1, r2, h1, n1z, if_false, n00, if_true, ite_self, and_self]
  rcases iv_c (n := 1) (by omega) v1 with ⟨g1, g2⟩ | ⟨g, hg, rfl, g1⟩
  · left
    have a0 : ¬ v1 = 0 := fun q => g2 ⟨0, by omega, q⟩
    have a1 : ¬ v1 = nI 1 := fun q => g2 ⟨1, by omega, q⟩
    simp only [f_X5_isQuestion, f_X6_isAsked, wi, r1, h1, g1, a0, a1, n1z, if_false, n00, if_true, and_self]
  rcases (show g = 0 ∨ g = 1 by omega) with rfl | rfl
  · rcases ho_c (off := off) (dear := dear) (proved := proved) R v2 with ⟨k1, k2, -⟩ | ⟨h, hh, rfl, k1, k2⟩
    · left
      simp only [f_X5_isQuestion, f_X6_isAsked, wi, r1, r2, h1, g1, k1, k2, n1z, if_false, n00, if_true, and_self]
    · rcases iv_c (n := 3) (by omega) v3 with ⟨j1, -⟩ | ⟨j, hj, rfl, j1⟩
      · left
        simp only [f_X5_isQuestion, f_X6_isAsked, wi, r1, r2, h1, g1, k1, k2, j1, n1z, if_false, n00, if_true, and_self]
      · right
        refine ⟨?_, ?_, Or.inl rfl, n, hn, rfl⟩
        · simp only [f_X5_isQuestion, wi, r1, h1, k1, j1, n1z, if_false, n00, if_true]
        · simp only [f_X6_isAsked, r2, h1, g1, k2, j1, n1z, if_false, n00, if_true]
  · rcases iv_c (n := 3) (by omega) v2 with ⟨j1, -⟩ | ⟨j, hj, rfl, j1⟩
    · left
      simp only [f_X5_isQuestion, f_X6_isAsked, wi, r1, r2, h1, g1, j1, n1z, if_false, n00, if_true, and_self]
    · by_cases z : v3 = 0
      · right
        refine ⟨?_, ?_, Or.inr ⟨rfl, j, by omega, rfl⟩, n, hn, rfl⟩
        · simp only [f_X5_isQuestion, wi, r1, h1, j1, z, n1z, if_false, if_true]
        · simp only [f_X6_isAsked, r2, h1, g1, j1, z, n1z, if_false, if_true]
      · left
        simp only [f_X5_isQuestion, f_X6_isAsked, wi, r1, r2, h1, g1, j1, z, n1z, if_false, if_true, and_self]
theorem QW_F {nw Dg dw F F' rl lg : jA} {B : Nat} (Q : QW C off dear proved nw Dg dw F rl lg B) (h2 : F' 2 = F 2) (h3 : F' 3 = F 3) (h4 : F' 4 = F 4) (h5 : F' 5 = F 5) : QW C off dear proved nw Dg dw F' rl lg B := by
  obtain ⟨nH, nN, nF, nL, t, S, R, H, T, e, ⟨d2, d3, k, s, a1, a2, a3, a4, a5⟩, O⟩ := Q
  exact ⟨nH, nN, nF, nL, t, S, R, H, T, e, ⟨h2.trans d2, d3.trans h3.symm, k, s, a1, h5.trans a2, a3, h4.trans a4, a5⟩, O⟩
theorem op_judge {nw Dg dw J bef mov nxt chn tol tw F rl lg sta sm par mv dep th bf row : jA} {P : Nat → jA} {pn B : Nat} (Q : QW C off dear proved nw Dg dw F rl lg B) (HJ : JR J tol F row) (zt : NZ th) (zb : NZ bf) (hp : pn ≤ 300) (v1 v2 v3 v4 v5 : Int32) :
    ∃ (J' bef' mov' nxt' chn' tol' : jA) (P' : Nat → jA) (pn' : Nat) (tw' : jA) (F' sta' sm' par' mv' dep' th' bf' row' : jA) (a : Int32), f_X5_judge C off dear proved Dg dw nw J bef mov nxt chn tol tw P pn v1 v2 v3 v4 v5 = (Dg, dw, J', bef', mov', nxt', chn', tol', tw', P', pn', a) ∧ s_X5_judge C off dear proved Dg dw nw J bef mov nxt chn tol tw P pn v1 v2 v3 v4 v5 ∧ f_X6_judge F rl lg sta sm par mv dep th bf row v1 v2 v3 v4 v5 = (F', lg, sta', sm', par', mv', dep', th', bf', row', a) ∧ s_X6_judge F rl lg sta sm par mv dep th bf row v1 v2 v3 v4 v5 ∧ QW C off dear proved nw Dg dw F' rl lg B ∧ JR J' tol' F' row' ∧ NZ th' ∧ NZ bf' ∧ pn' ≤ 300 ∧ F' 23 = F 23 := by
  have Q0 := QW_0 (y := nI 0) Q
  have Q1 := Q
  obtain ⟨nH, nN, nF, nL, t, S, R, H, T, e, D, O⟩ := Q
  have qc := q_c (off := off) (dear := dear) (proved := proved) R v1 v2 v3 v4 v5
  rw [← e] at qc
  rcases qc.2 with ⟨g1, g2⟩ | ⟨g1, g2, hv, n, hn, rfl⟩
  · refine ⟨J, bef, mov, nxt, chn, tol, P, pn, tw, upd F 0 (nI 0), sta, sm, par, mv, dep, th, bf, row, (-2), ?_, ?_, ?_, ?_, Q0, ?_, zt, zb, hp, pu_n _ _ (by omega)⟩
    · simp only [f_X5_judge, g1, n00, if_true]
    · simp only [s_X5_judge, g1, n00, not_true_eq_false, false_implies]
    · simp only [f_X6_judge, g2, n00, if_true]
    · simp only [s_X6_judge, qc.1, g2, n00, not_true_eq_false, false_implies, and_true]
    · obtain ⟨a1, m, a2, a3, a4, a5⟩ := HJ
      exact ⟨by rw [pu_n _ _ (by omega)]; exact a1, m, a2, a3, by rw [pu_n _ _ (by omega)]; exact a4, a5⟩
  · have ca := cp_all (v := rl) (fo := bf) (by rw [e]; exact NZ_eV _ _ _ _ _) zb
    have hF : ¬ upd (upd F 0 (nI 0)) 2 (nI 1) 2 = 0 := by rw [pu_s]; exact n1z
    have aJ : ∀ i, i ≠ 10 → i ≠ 11 → i ≠ 12 → i ≠ 13 → f_X1_aim J v1 v2 v3 v4 i = J i := fun i h1 h2 h3 h4 => by
      unfold f_X1_aim
      rw [pu_n _ _ h4, pu_n _ _ h3, pu_n _ _ h2, pu_n _ _ h1]
    have aI : f_X1_aim J v1 v2 v3 v4 10 = v1 ∧ f_X1_aim J v1 v2 v3 v4 11 = v2 ∧ f_X1_aim J v1 v2 v3 v4 12 = v3 ∧ f_X1_aim J v1 v2 v3 v4 13 = v4 := by
      unfold f_X1_aim
      refine ⟨?_, ?_, ?_, pu_s _ _ _⟩
      · rw [pu_n _ _ (by omega), pu_n _ _ (by omega), pu_n _ _ (by omega), pu_s]
      · rw [pu_n _ _ (by omega), pu_n _ _ (by omega), pu_s]
      · rw [pu_n _ _ (by omega), pu_s]
    obtain ⟨J', bef', mov', nxt', chn', P', pn', tw', F', sta', sm', par', mv', dep', th', a, s1, s2, s3, s4, s5, s6, s7, s8, s9⟩ := search_st (off := off) (dear := dear) (proved := proved) (Dg := Dg) (dw := dw) (J := f_X1_aim J v1 v2 v3 v4) (bef := bef) (mov := mov) (nxt := nxt) (chn := chn) (tw := tw) (F := upd (upd F 0 (nI 0)) 2 (nI 1)) (lg := lg) (sta := sta) (sm := sm) (par := par) (mv := mv) (dep := dep) (th := th) (P := P) S R T hv hn hF zt hp aI
    rw [← e] at s3 s4
    have fF : ∀ i, i ≠ 0 → i ≠ 2 → i ≠ 15 → i ≠ 24 → i ≠ 25 → i ≠ 26 → F' i = F i := fun i h0 h2 h3 h4 h5 h6 => by
      rw [s6.2 i h3 h4 h5 h6, pu_n _ _ h2, pu_n _ _ h0]
    have f2 : F 2 = nI 0 := D.1
    have fin : ∀ t0 : Int32, QW C off dear proved nw Dg dw (upd (upd (upd F' 2 (nI 0)) 16 (upd F' 2 (nI 0) 15)) 17 t0) rl lg B ∧ upd (upd (upd F' 2 (nI 0)) 16 (upd F' 2 (nI 0) 15)) 17 t0 23 = F 23 := fun t0 => by
      refine ⟨QW_F Q1 ?_ ?_ ?_ ?_, ?_⟩
      · rw [pu_n _ _ (by omega), pu_n _ _ (by omega), pu_s, f2]
      · rw [pu_n _ _ (by omega), pu_n _ _ (by omega), pu_n _ _ (by omega)]; exact fF 3 (by omega) (by omega) (by omega) (by omega) (by omega) (by omega)
      · rw [pu_n _ _ (by omega), pu_n _ _ (by omega), pu_n _ _ (by omega)]; exact fF 4 (by omega) (by omega) (by omega) (by omega) (by omega) (by omega)
      · rw [pu_n _ _ (by omega), pu_n _ _ (by omega), pu_n _ _ (by omega)]; exact fF 5 (by omega) (by omega) (by omega) (by omega) (by omega) (by omega)
      · rw [pu_n _ _ (by omega), pu_n _ _ (by omega), pu_n _ _ (by omega)]; exact fF 23 (by omega) (by omega) (by omega) (by omega) (by omega) (by omega)
    have j17 : ∀ t0 : Int32, upd (upd J' 17 (J' 9)) 16 t0 17 = upd (upd (upd F' 2 (nI 0)) 16 (upd F' 2 (nI 0) 15)) 17 t0 16 := fun t0 => by
      rw [pu_n _ _ (by omega), pu_s, pu_n _ _ (by omega), pu_s, pu_n _ _ (by omega), s5]
    have NZr : NZ rl := by rw [e]; exact NZ_eV _ _ _ _ _
    rcases s9 with hneg | ⟨dp, k, d1, d2, rfl, d4, d5, d6, d7, s, p1, p2, p3, p4⟩
    · have hle : a ≤ 0 := by
        rcases hneg with h | h | h
        · rw [h]; decide
        · rw [h]; decide
        · rw [h]; decide
      have tl : f_X1_tell J' bef' mov' tol a = (upd (upd J' 17 (J' 9)) 16 (nI 0), tol) ∧ s_X1_tell J' bef' mov' tol a := by
        have t45 : f_X1_tell_45 ng_F (upd (upd J' 17 (J' 9)) 16 (nI 0)) bef' mov' tol (upd (upd J' 17 (J' 9)) 16 (nI 0) 14) (upd (upd J' 17 (J' 9)) 16 (nI 0) 15) (upd (upd J' 17 (J' 9)) 16 (nI 0) 16 - nI 1) = (upd (upd J' 17 (J' 9)) 16 (nI 0), tol) ∧ s_X1_tell_45 ng_F (upd (upd J' 17 (J' 9)) 16 (nI 0)) bef' mov' tol (upd (upd J' 17 (J' 9)) 16 (nI 0) 14) (upd (upd J' 17 (J' 9)) 16 (nI 0) 15) (upd (upd J' 17 (J' 9)) 16 (nI 0) 16 - nI 1) := by
          have lt : upd (upd J' 17 (J' 9)) 16 (nI 0) 16 - nI 1 < 0 := by rw [pu_s]; decide
          rw [ng_F_v, f_X1_tell_45, s_X1_tell_45, if_pos lt]
          exact ⟨rfl, fun z => absurd lt z⟩
        unfold f_X1_tell s_X1_tell f_X1_tell_23 f_X1_tell_24 s_X1_tell_23 s_X1_tell_24
        rw [if_pos hle]
        exact ⟨t45.1, fun _ => t45.2, fun q => absurd hle q⟩
      refine ⟨upd (upd J' 17 (J' 9)) 16 (nI 0), bef', mov', nxt', chn', tol, P', pn', tw', upd (upd (upd F' 2 (nI 0)) 16 (upd F' 2 (nI 0) 15)) 17 (nI 0), sta', sm', par', mv', dep', th', rl, row, a, ?_, ?_, ?_, ?_, (fin _).1, ⟨j17 _, 0, by omega, pu_s _ _ _, pu_s _ _ _, fun i hi => by omega⟩, s7, NZr, s8, (fin _).2⟩
      · simp only [f_X5_judge, g1, n1z, if_false, f_X5_judge_29, s1, f_X5_judge_38, tl.1]
      · simp only [s_X5_judge, s_X5_judge_29, s1, s2, s_X5_judge_38, tl.2, implies_true, and_true]
      · simp only [f_X6_judge, g2, n1z, if_false, ca.1, f_X6_judge_40, s3, f_X6_judge_55, hle, if_true, f_X6_judge_82]
      · simp only [s_X6_judge, qc.1, ca.1, ca.2, s_X6_judge_40, s3, s4, s_X6_judge_55, hle, not_true_eq_false, false_implies, true_implies, and_true, s_X6_judge_82, implies_true]
    · have hle : ¬ nI dp ≤ 0 := nI_nle (by omega) (by omega)
      have h6 : ¬ nI 6 < nI dp := by rw [pn_lt (by omega) (by omega)]; omega
      have J14 : upd (upd J' 17 (J' 9)) 16 (nI dp) 14 = nI (s (dp - 1)) := by rw [pu_n _ _ (by omega), pu_n _ _ (by omega), d5, p1]
      have J15 : upd (upd J' 17 (J' 9)) 16 (nI dp) 15 = F' 25 := by rw [pu_n _ _ (by omega), pu_n _ _ (by omega), d6]
      have J16 : upd (upd J' 17 (J' 9)) 16 (nI dp) 16 - nI 1 = nI (dp - 1) := by rw [pu_s, pn_sub d1]
      have t45 := tell45 (bef := bef') (mov := mov') (J := upd (upd J' 17 (J' 9)) 16 (nI dp)) p2 (fun i h1 h2 => (p4 i h1 h2).1) d2 (dp - 1) ng_F tol (F' 25) (by omega) (by rw [ng_F_v]; omega)
      have tl : f_X1_tell J' bef' mov' tol (nI dp) = (upd (upd J' 17 (J' 9)) 16 (nI dp), fun j => if j = dp - 1 then F' 25 else if j < dp - 1 then mov' (s (j + 1)) else tol j) ∧ s_X1_tell J' bef' mov' tol (nI dp) := by
        unfold f_X1_tell s_X1_tell f_X1_tell_24 s_X1_tell_24
        rw [if_neg hle, if_neg h6, J14, J15, J16]
        exact ⟨t45.1, fun q => absurd q hle, fun _ => ⟨fun q => absurd q h6, fun _ => t45.2⟩⟩
      have F25 : ∀ t0 : Int32, upd (upd (upd F' 2 (nI 0)) 16 (upd F' 2 (nI 0) 15)) 17 t0 25 = F' 25 := fun t0 => by rw [pu_n _ _ (by omega), pu_n _ _ (by omega), pu_n _ _ (by omega)]
      have F26 : ∀ t0 : Int32, upd (upd (upd F' 2 (nI 0)) 16 (upd F' 2 (nI 0) 15)) 17 t0 26 = nI (s (dp - 1)) := fun t0 => by rw [pu_n _ _ (by omega), pu_n _ _ (by omega), pu_n _ _ (by omega), d7, p1]
      have j115 : f_X6_judge_115 ng_F (upd (upd (upd F' 2 (nI 0)) 16 (upd F' 2 (nI 0) 15)) 17 (nI dp)) rl lg sta' sm' par' mv' dep' th' rl (upd row (dp - 1) (F' 25)) (nI dp) (nI (s (dp - 1))) (nI dp - nI 2) = (upd (upd (upd F' 2 (nI 0)) 16 (upd F' 2 (nI 0) 15)) 17 (nI dp), lg, sta', sm', par', mv', dep', th', rl, (fun j => if j < dp - 1 then mv' (s (j + 1)) else upd row (dp - 1) (F' 25) j), nI dp) ∧ s_X6_judge_115 ng_F (upd (upd (upd F' 2 (nI 0)) 16 (upd F' 2 (nI 0) 15)) 17 (nI dp)) rl lg sta' sm' par' mv' dep' th' rl (upd row (dp - 1) (F' 25)) (nI dp) (nI (s (dp - 1))) (nI dp - nI 2) := by
        rcases Nat.lt_or_ge dp 2 with z | z
        · have e1 : dp = 1 := by omega
          subst e1
          have lt : nI 1 - nI 2 < 0 := by decide
          rw [ng_F_v, f_X6_judge_115, s_X6_judge_115, if_pos lt]
          refine ⟨?_, fun q => absurd lt q⟩
          congr 10
        · have h := jud115 (par := par') (mv := mv') (F := upd (upd (upd F' 2 (nI 0)) 16 (upd F' 2 (nI 0) 15)) 17 (nI dp)) (rl := rl) (lg := lg) (sta := sta') (sm := sm') (dep := dep') (th := th') (bf := rl) (v6 := nI dp) p2 (fun i h1 h2 => (p4 i h1 h2).2) d2 (dp - 2) ng_F (upd row (dp - 1) (F' 25)) (by omega) (by rw [ng_F_v]; omega)
          rw [show dp - 2 + 1 = dp - 1 by omega] at h
          rw [pn_sub z]
          refine ⟨h.1.trans ?_, h.2⟩
          congr 10
          funext j
          by_cases y : j ≤ dp - 2
          · rw [if_pos y, if_pos (by omega)]
          · rw [if_neg y, if_neg (by omega)]
      refine ⟨upd (upd J' 17 (J' 9)) 16 (nI dp), bef', mov', nxt', chn', (fun j => if j = dp - 1 then F' 25 else if j < dp - 1 then mov' (s (j + 1)) else tol j), P', pn', tw', upd (upd (upd F' 2 (nI 0)) 16 (upd F' 2 (nI 0) 15)) 17 (nI dp), sta', sm', par', mv', dep', th', rl, (fun j => if j < dp - 1 then mv' (s (j + 1)) else upd row (dp - 1) (F' 25) j), nI dp, ?_, ?_, ?_, ?_, (fin _).1, ⟨j17 _, dp, d2, pu_s _ _ _, pu_s _ _ _, fun i hi => ?_⟩, s7, NZr, s8, (fin _).2⟩
      · simp only [f_X5_judge, g1, n1z, if_false, f_X5_judge_29, s1, f_X5_judge_38, tl.1]
      · simp only [s_X5_judge, s_X5_judge_29, s1, s2, s_X5_judge_38, tl.2, implies_true, and_true]
      · simp (disch := omega) only [f_X6_judge, g2, n1z, if_false, ca.1, f_X6_judge_40, s3, f_X6_judge_55, hle, f_X6_judge_82, F25, F26, pn_sub, pn_cl]
        exact j115.1
      · simp (disch := omega) only [s_X6_judge, qc.1, ca.1, ca.2, s_X6_judge_40, s3, s4, s_X6_judge_55, hle, not_false_eq_true, false_implies, true_implies, true_and, s_X6_judge_82, F25, F26, implies_true, pn_sub, pn_cl, pn_in]
        exact fun _ => j115.2
      · dsimp only
        by_cases y : i = dp - 1
        · rw [if_pos y, if_neg (by omega), y, pu_s]
        · rw [if_neg y, if_pos (by omega), if_pos (by omega)]
          rcases p3 (i + 1) with q | q
          · exact q
          · omega
end JUD
