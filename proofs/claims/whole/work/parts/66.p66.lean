theorem lays_eq {F sta sm par mv dep th : jA} {v2 v4 : Int32} {c k : Nat} (hF : F 15 = nI c) (hc : c < 300) (hk : k < 300) : f_X6_lays_th F sta sm par mv dep th v2 (nI k) v4 = (upd F 15 (nI (c + 1)), (fun i => if 527 * c ≤ i ∧ i < 527 * c + 527 then th (0 + (i - 527 * c)) else sta i), upd sm c v2, upd par c (nI k), upd mv c v4, upd dep c (dep k + nI 1)) ∧ s_X6_lays_th F sta sm par mv dep th v2 (nI k) v4 := by
  have cp := cp_eq (fr := th) (fo := sta) (nn := 527) (oo := 158100) (p := 0) (q := 527 * c) (by omega) (by omega) (by omega) (by omega)
  simp (disch := omega) only [f_X6_lays_th, f_X6_lays_th_17, f_X6_lays_th_72, s_X6_lays_th, s_X6_lays_th_17, s_X6_lays_th_72, hF, pk_mul, cp.1, cp.2, pn_cl, pn_in, pn_ge0, if_true, nI_add, not_true_eq_false, false_implies, true_implies, and_true]
section REA
variable {C off dear proved : jA} {v2 v3 v4 v5 : Int32} {T : Nat} {kk : rK} {sk : rP} {lg bf : jA} {v6 : Int32} {k d : Nat}
/-- what a move leads to, on both sides -/
theorem reach_st {c n m : Nat} {J bef mov nxt chn tw : jA} {P : Nat → jA} {pn : Nat} {F sta sm par mv dep th : jA} {l : Int32} {nH nN nF nL t : Nat} (H : SR C off dear proved v2 v3 v4 v5 T c (J, bef, mov, nxt, chn, P, pn) (F, sta, sm, par, mv, dep, th)) (hv : v2 = nI 0 ∨ (v2 = nI 1 ∧ ∃ b, b < 4 ∧ v3 = nI b)) (hk : k < c) (hd : dep k = nI d) (hd6 : d < 6) (hm : okM m) (R : WR C tw nH nN nF nL t) (ht : t ≤ T + (d + 1)) (hl : v2 = nI 0 → l = nI 0)
    (mk : f_X6_makes (eV C off dear proved (P k)) F lg (nI m) v3 v4 v5 = (eV C off dear proved tw, upd F 24 l, lg, nI 1)) (smk : s_X6_makes (eV C off dear proved (P k)) F lg (nI m) v3 v4 v5) :
    ∃ J' bef' mov' nxt' chn' P' pn' came, f_X1_reach J bef mov nxt chn tw P pn (nI k) (nI m) = (J', bef', mov', nxt', chn', P', pn', came) ∧ s_X1_reach J bef mov nxt chn tw P pn (nI k) (nI m) ∧ OC C off dear proved v2 v3 v4 v5 T kk sk lg bf v6 k d (n + 1) c (J, bef, mov, nxt, chn, P, pn) (F, sta, sm, par, mv, dep, th) m n (m + 1) (J', bef', mov', nxt', chn', P', pn') came := by
  have r := r_mk (kk := kk) (sk := sk) (bf := bf) (v6 := v6) (n := n) H hk hm mk smk
  have z := NZ_eV C off dear proved tw
  have H1 := SR_24 (l := l) H z
  have f15 : upd F 24 l 15 = nI c := H1.2.1
  have hc := H.1.1
  have hJ := H.2.2.1
  have kst := keep_st C off dear proved (bef := bef) (mov := mov) (v1 := nI k) (v2 := nI m) H.1 R
  have tc := there_c f15 hc (SR_U H) z
  -- what the keeping gives, if the goal isn't met
  have keep : (v2 = nI 1 → f_X6_isMixed (eV C off dear proved tw) v3 = 0) → (rF kk lg bf v2 v3 v4 v5 v6 k (n + 1) (F, sta, sm, par, mv, dep, th) m = f_X6_search_219 kk (f_X6_search_66 kk n) (upd F 24 l) lg sta sm par mv dep (eV C off dear proved tw) bf v2 v3 v4 v5 v6 (nI k) (nI m)) → (s_X6_search_219 sk (s_X6_search_66 sk n) (upd F 24 l) lg sta sm par mv dep (eV C off dear proved tw) bf v2 v3 v4 v5 v6 (nI k) (nI m) → rS sk lg bf v2 v3 v4 v5 v6 k (n + 1) (F, sta, sm, par, mv, dep, th) m) → f_X1_isStrangeNoteTaken J tw = nI 0 → s_X1_isStrangeNoteTaken J tw → ∃ J' bef' mov' nxt' chn' P' pn' came, f_X1_reach J bef mov nxt chn tw P pn (nI k) (nI m) = (J', bef', mov', nxt', chn', P', pn', came) ∧ s_X1_reach J bef mov nxt chn tw P pn (nI k) (nI m) ∧ OC C off dear proved v2 v3 v4 v5 T kk sk lg bf v6 k d (n + 1) c (J, bef, mov, nxt, chn, P, pn) (F, sta, sm, par, mv, dep, th) m n (m + 1) (J', bef', mov', nxt', chn', P', pn') came := by
    intro hmx hf hs q1 q2
    have sr : s_X1_reach J bef mov nxt chn tw P pn (nI k) (nI m) := ⟨q2, fun _ => kst.1⟩
    have fr : f_X1_reach J bef mov nxt chn tw P pn (nI k) (nI m) = f_X1_keepIfNew J bef mov nxt chn tw P pn (nI k) (nI m) := by
      unfold f_X1_reach
      rw [q1, if_pos b_n0]
    rcases kst.2 with ⟨ex, fk⟩ | ⟨nx, ec, fk⟩ | ⟨nx, ec, J', nxt', chn', P', pn', fk, eJ, hCR, hP, hA, hpn⟩
    · obtain ⟨t1, t2⟩ : f_X6_isThere (upd F 24 l) sta sm (eV C off dear proved tw) (f_X6_sumOf (eV C off dear proved tw)) = nI 1 ∧ s_X6_isThere (upd F 24 l) sta sm (eV C off dear proved tw) (f_X6_sumOf (eV C off dear proved tw)) := by
        rcases tc with ⟨-, a, b⟩ | ⟨a, -, -⟩
        · exact ⟨a, b⟩
        · exact absurd ex a
      refine ⟨J, bef, mov, nxt, chn, P, pn, nI 0, fr.trans fk, sr, Or.inl ⟨rfl, c, (upd F 24 l, sta, sm, par, mv, dep, eV C off dear proved tw), H1, EX_24, hf.trans ?_, fun h => hs ?_⟩⟩
      · unfold f_X6_search_219 f_X6_search_271
        rw [t1, if_neg n1z, nI_add]
        rfl
      · unfold s_X6_search_219 s_X6_search_271
        rw [t1, nI_add]
        exact ⟨sum_s _, t2, fun q => absurd q n1z, fun _ => h⟩
    · obtain ⟨t1, t2⟩ : f_X6_isThere (upd F 24 l) sta sm (eV C off dear proved tw) (f_X6_sumOf (eV C off dear proved tw)) = nI 0 ∧ s_X6_isThere (upd F 24 l) sta sm (eV C off dear proved tw) (f_X6_sumOf (eV C off dear proved tw)) := by
        rcases tc with ⟨a, -, -⟩ | ⟨-, a, b⟩
        · exact absurd a nx
        · exact ⟨a, b⟩
      refine ⟨J, bef, mov, nxt, chn, P, pn, nI 2, fr.trans fk, sr, Or.inr (Or.inr ⟨rfl, c, (upd F 24 l, sta, sm, par, mv, dep, eV C off dear proved tw), H1, EX_24, hf.trans ?_, hs ?_⟩)⟩
      · unfold f_X6_search_219
        rw [t1, if_pos b_n0, f15, ec, if_pos rfl]
        rfl
      · unfold s_X6_search_219
        rw [t1, f15, ec]
        exact ⟨sum_s _, t2, fun _ q => absurd rfl q, fun q => absurd b_n0 q⟩
    · obtain ⟨t1, t2⟩ : f_X6_isThere (upd F 24 l) sta sm (eV C off dear proved tw) (f_X6_sumOf (eV C off dear proved tw)) = nI 0 ∧ s_X6_isThere (upd F 24 l) sta sm (eV C off dear proved tw) (f_X6_sumOf (eV C off dear proved tw)) := by
        rcases tc with ⟨a, -, -⟩ | ⟨-, a, b⟩
        · exact absurd a nx
        · exact ⟨a, b⟩
      have ly := lays_eq (sta := sta) (sm := sm) (par := par) (mv := mv) (dep := dep) (th := eV C off dear proved tw) (v2 := f_X6_sumOf (eV C off dear proved tw)) (v4 := nI m) f15 ec (show k < 300 by omega)
      have nc : ¬ nI c = nI 300 := by rw [pn_eq (by omega) (by omega)]; omega
      have eP : eV C off dear proved (P' c) = eV C off dear proved tw := eV_AG C off dear proved R.2.1.1 R.2.1.2 hA
      refine ⟨J', upd bef c (nI k), upd mov c (nI m), nxt', chn', P', pn', nI 0, fr.trans fk, sr, Or.inl ⟨rfl, c + 1, (upd (upd F 24 l) 15 (nI (c + 1)), (fun i => if 527 * c ≤ i ∧ i < 527 * c + 527 then eV C off dear proved tw (0 + (i - 527 * c)) else sta i), upd sm c (f_X6_sumOf (eV C off dear proved tw)), upd par c (nI k), upd mv c (nI m), upd dep c (dep k + nI 1), eV C off dear proved tw), ?_, ?_, hf.trans ?_, fun h => hs ?_⟩⟩
      · obtain ⟨g1, g2, g3, g4, g5, g6⟩ := H
        refine ⟨hCR, pu_s _ _ _, ?_, ?_, z, fun j hj => ?_⟩
        · rw [eJ, pu_n _ _ (by omega), pu_n _ _ (by omega), pu_n _ _ (by omega), pu_n _ _ (by omega)]; exact g3
        · rw [pu_n _ _ (by omega), pu_n _ _ (by omega)]; exact g4
        · rcases Nat.lt_or_ge j c with y | y
          · obtain ⟨a1, a2, a3, a4, a5, a6, a7⟩ := g6 j y
            rw [hP j y, pu_n _ _ (by omega), pu_n _ _ (by omega), pu_n _ _ (by omega), pu_n _ _ (by omega)]
            refine ⟨fun i hi => ?_, a2, a3, a4, a5, a6, fun h0 => ?_⟩
            · dsimp only; rw [if_neg (by omega)]; exact a1 i hi
            · obtain ⟨p, e, b1, b2, b3, b4, b5⟩ := a7 h0
              exact ⟨p, e, b1, by rw [pu_n _ _ (by omega)]; exact b2, by rw [pu_n _ _ (by omega)]; exact b3, by rw [pu_n _ _ (by omega)]; exact b4, b5⟩
          · have ej : j = c := by omega
            subst ej
            rw [eP, pu_s, pu_s, pu_s, pu_s, hd, nI_add]
            refine ⟨fun i hi => ?_, rfl, rfl, ⟨d + 1, nH, nN, nF, nL, t, rfl, by omega, WR_AG R hA, ht⟩, hmx, fun q => by omega, fun _ => ⟨k, d, hk, pu_s _ _ _, pu_s _ _ _, ?_, rfl⟩⟩
            · dsimp only; rw [if_pos (by omega)]; congr 1; omega
            · rw [pu_n _ _ (by omega)]; exact hd
      · refine ⟨by omega, fun j hj => ⟨hP j hj, pu_n _ _ (by omega)⟩, fun j h1 h2 => ?_, fun i h1 _ _ => ?_, fun i h1 h2 _ _ => ?_⟩
        · have ej : j = c := by omega
          rw [ej, pu_s, hd, nI_add]
        · rw [eJ, pu_n _ _ h1]
        · rw [pu_n _ _ h1, pu_n _ _ h2]
      · unfold f_X6_search_219 f_X6_search_271
        rw [t1, if_pos b_n0, f15, if_neg nc, ly.1, nI_add]
        rfl
      · unfold s_X6_search_219 s_X6_search_271
        rw [t1, f15, ly.1, nI_add]
        exact ⟨sum_s _, t2, fun _ _ => ⟨ly.2, h⟩, fun q => absurd b_n0 q⟩
  rcases hv with e | ⟨e, b, hb, eb⟩
  · -- the goal of letting in
    have q1 : f_X1_isStrangeNoteTaken J tw = nI 0 := by
      unfold f_X1_isStrangeNoteTaken
      rw [hJ.1, e, if_neg n10]
    have q2 : s_X1_isStrangeNoteTaken J tw := by
      unfold s_X1_isStrangeNoteTaken
      rw [hJ.1, e]
      exact fun q => absurd q n10
    refine keep (fun q => absurd (e.symm.trans q) n10) (r.1.trans ?_) (fun h => r.2 ?_) q1 q2
    · unfold f_X6_search_166
      rw [if_neg n1z, if_pos (by rw [e]; exact b_n0), pu_s, if_pos (by rw [hl e]; exact b_n0)]
    · unfold s_X6_search_166
      refine ⟨fun q => absurd q n1z, fun _ => ⟨fun _ => ⟨fun _ => h, fun q => ?_⟩, fun q => absurd (by rw [e]; exact b_n0) q⟩⟩
      rw [pu_s] at q
      exact absurd (by rw [hl e]; exact b_n0) q
  · have mc := mix_cv C off dear proved (J := J) R.2.1.1 R.2.1.2 hb (by rw [← eb]; exact hJ.2.1) (by rw [← e]; exact hJ.1)
    rw [← eb] at mc
    have nv : ¬ v2 = 0 := by rw [e]; exact n1z
    rcases mc.1.2 with q | q
    · have mx : f_X6_isMixed (eV C off dear proved tw) v3 = nI 0 := by rw [← mc.1.1]; exact q
      refine keep (fun _ => mx.trans b_n0) (r.1.trans ?_) (fun h => r.2 ?_) q mc.2.1
      · unfold f_X6_search_166
        rw [if_neg n1z, if_neg nv, mx, if_pos b_n0]
      · unfold s_X6_search_166
        exact ⟨fun q => absurd q n1z, fun _ => ⟨fun q => absurd q nv, fun _ => ⟨mc.2.2, fun _ => h, fun q => absurd (mx.trans b_n0) q⟩⟩⟩
    · have mx : f_X6_isMixed (eV C off dear proved tw) v3 = nI 1 := by rw [← mc.1.1]; exact q
      refine ⟨upd (upd J 14 (nI k)) 15 (nI m), bef, mov, nxt, chn, P, pn, nI 1, ?_, ⟨mc.2.1, fun y => absurd y (by rw [q]; exact n1z)⟩, Or.inr (Or.inl ⟨rfl, c, (upd (upd (upd F 24 l) 25 (nI m)) 26 (nI k), sta, sm, par, mv, dep, eV C off dear proved tw), ?_, ?_, r.1.trans ?_, r.2 ?_, ?_, ?_, ?_⟩)⟩
      · unfold f_X1_reach
        rw [q, if_neg n1z]
        rfl
      · obtain ⟨g1, g2, g3, g4, g5, g6⟩ := H
        obtain ⟨x1, x2, x3⟩ := g1
        refine ⟨⟨x1, by rw [pu_n _ _ (by omega), pu_n _ _ (by omega)]; exact x2, x3⟩, ?_, ?_, ?_, z, g6⟩
        · rw [pu_n _ _ (by omega), pu_n _ _ (by omega), pu_n _ _ (by omega)]; exact g2
        · rw [pu_n _ _ (by omega), pu_n _ _ (by omega), pu_n _ _ (by omega), pu_n _ _ (by omega), pu_n _ _ (by omega), pu_n _ _ (by omega), pu_n _ _ (by omega), pu_n _ _ (by omega)]; exact g3
        · rw [pu_n _ _ (by omega), pu_n _ _ (by omega), pu_n _ _ (by omega)]; exact g4
      · refine ⟨Nat.le_refl c, fun _ _ => ⟨rfl, rfl⟩, fun j h1 h2 => by omega, fun i _ h2 h3 => ?_, fun i _ h2 h3 h4 => ?_⟩
        · rw [pu_n _ _ h3, pu_n _ _ h2]
        · rw [pu_n _ _ h4, pu_n _ _ h3, pu_n _ _ h2]
      · unfold f_X6_search_166 f_X6_search_197
        rw [if_neg n1z, if_neg nv, mx, if_neg n1z, pn_cl (by omega), hd, nI_add]
        rfl
      · unfold s_X6_search_166 s_X6_search_197
        exact ⟨fun q => absurd q n1z, fun _ => ⟨fun y => absurd y nv, fun _ => ⟨mc.2.2, fun y => absurd y (by rw [mx]; exact n1z), fun _ => vp_in_nI (by omega) (by omega)⟩⟩⟩
      · show upd (upd J 14 (nI k)) 15 (nI m) 14 = nI k
        rw [pu_n _ _ (by omega), pu_s]
      · show upd (upd J 14 (nI k)) 15 (nI m) 15 = upd (upd (upd F 24 l) 25 (nI m)) 26 (nI k) 25
        rw [pu_s, pu_n _ _ (by omega), pu_s]
      · show upd (upd (upd F 24 l) 25 (nI m)) 26 (nI k) 26 = nI k
        rw [pu_s]
end REA
