section SGB
variable {C off dear proved : jA} {v2 v3 v4 v5 : Int32} {T : Nat} {kk : rK} {sk : rP} {lg bf : jA} {v6 : Int32} {k d : Nat}
theorem okB {x h : Nat} (hx : x < 32) (hh : h < 4) : okM (100 + 4 * x + h) := ⟨by omega, by omega, by omega, by omega, by omega⟩
theorem nopB {w : jA} {nH nN nF nL t x h : Nat} (R : WR C w nH nN nF nL t) (hx : x < 32) (hh : h < 4) (hc : x < nN → bt (w (142 + x * 11 + 10)) 4 = true → ¬ f_X4_verdict w C off dear (nI h) (nI x) v5 = 0) : NOP C off dear proved v2 v3 v4 v5 lg w (100 + 4 * x + h) := by
  refine ⟨okB hx hh, fun F hF => ⟨nI 0, ?_⟩⟩
  have e12 : eV C off dear proved w 12 = nI nN := R.2.1.1
  have e11 : eV C off dear proved w 11 = nI nH := R.1.1
  have hN := R.2.1.2
  have hF' : ¬ upd F 24 (nI 0) 2 = 0 := by rw [pu_n _ _ (by omega)]; exact hF
  have m := mkB (v := eV C off dear proved w) (F := F) (lg := lg) (v3 := v3) (v4 := v4) (v5 := v5) hx hh e12 R.2.1.2 e11 R.1.2
  by_cases c1 : nN ≤ x
  · exact ⟨m.2 (fun q => by omega) (fun q => by omega), Or.inl (m.1.trans (if_pos c1))⟩
  have hx2 : x < nN := by omega
  have hv := has_v C off dear proved (p := 4) R.2.1.1 hN (by omega) hx2
  have hi := eV_in0 C off dear proved w hh
  by_cases c2 : nH ≤ h
  · exact ⟨m.2 (fun _ => hv.2) (fun _ q => by omega), Or.inl (m.1.trans (by rw [if_neg c1, if_pos c2]))⟩
  by_cases c3 : bt (C 11) h = true
  · by_cases c4 : bt (w (142 + x * 11 + 10)) 4 = true
    · have ek : eV C off dear proved w (59 + 11 * x) = w (142 + x * 11 + 0) := eV_n C off dear proved w (j := 0) R.2.1.1 hN hx2 (by omega)
      by_cases c5 : w (142 + x * 11 + 0) = nI 1
      · refine ⟨m.2 (fun _ => hv.2) (fun _ _ _ _ q => absurd (by rw [ek]; exact c5) q), Or.inl (m.1.trans ?_)⟩
        rw [if_neg c1, if_neg c2, if_neg (by rw [hi]; exact fun q => q c3), if_neg (by rw [hv.1, if_pos c4]; exact n1z), if_pos (by rw [ek]; exact c5)]
      · obtain ⟨w', Dg', dw', F', lg', a, -, -, k3, k4, -, -, k7, k8, k9⟩ := show_st C off dear proved (d := false) (Dg := F) (dw := F) (F := upd F 24 (nI 0)) (lg := lg) (B := 0) (v1 := nI 4) (r := v5) R ⟨fun q => Bool.noConfusion q, fun _ => hF'⟩ (by omega) (show h < nH by omega) hx2
        obtain ⟨e1, e2, -, -⟩ := k7.1 rfl
        have ve := hc hx2 c4
        rw [if_neg ve] at k9
        rw [e1, e2, k9] at k3
        have na : ¬ a = 0 := by rw [k8]; exact ve
        rw [k3] at m
        refine ⟨m.2 (fun _ => hv.2) (fun _ _ _ _ _ => ⟨k4, ?_⟩), Or.inr ⟨m.1.trans ?_, fun _ => rfl⟩⟩
        · unfold s_X6_makes_127 s_X6_makes_154 s_X6_makes_155
          exact ⟨fun q => absurd q na, fun _ => Or.inl rfl⟩
        · rw [if_neg c1, if_neg c2, if_neg (by rw [hi]; exact fun q => q c3), if_neg (by rw [hv.1, if_pos c4]; exact n1z), if_neg (by rw [ek]; exact c5)]
          unfold f_X6_makes_127 f_X6_makes_154 f_X6_makes_155
          dsimp only
          rw [if_neg na, pu_u]
    · refine ⟨m.2 (fun _ => hv.2) (fun _ _ _ q => absurd (by rw [hv.1, if_neg c4]; rfl) q), Or.inl (m.1.trans ?_)⟩
      rw [if_neg c1, if_neg c2, if_neg (by rw [hi]; exact fun q => q c3), if_pos (by rw [hv.1, if_neg c4]; rfl)]
  · refine ⟨m.2 (fun _ => hv.2) (fun _ _ q => absurd (by rw [hi]; exact c3) q), Or.inl (m.1.trans ?_)⟩
    rw [if_neg c1, if_neg c2, if_pos (by rw [hi]; exact c3)]
theorem verd_0 {w : jA} {nH nN nF nL t x h : Nat} (R : WR C w nH nN nF nL t) (hx : x < nN) (hh : h < 4) (ve : f_X4_verdict w C off dear (nI h) (nI x) v5 = 0) : h < nH ∧ bt (C 11) h = true ∧ ¬ w (142 + x * 11 + 0) = nI 1 := by
  have hN := R.2.1.2
  have n2 : ¬ nI 2 = 0 := by decide
  unfold f_X4_verdict at ve
  rw [isIn_eq C hh] at ve
  by_cases c : bt (C 11) h = true
  · refine ⟨(Nat.lt_or_ge h nH).elim id (fun z => ?_), c, fun q => ?_⟩
    · rw [R.2.2.2.2.2.2.2.2.1 h z hh] at c; exact absurd c (by decide)
    · rw [if_pos c, if_neg n1z, isNote_eq R.2.1.1 hN (by omega), if_pos hx, if_neg n1z, if_pos (by simp (disch := omega) only [pk_mul, nI_add, pn_cl]; exact q)] at ve
      exact n2 ve
  · rw [if_neg c, if_pos b_n0] at ve
    exact absurd ve n1z
theorem liW_1 {w : jA} {h x : Nat} (hh : h < 4) : liW w h x (142 + x * 11 + 1) = w (142 + x * 11 + 1) := by
  unfold liW
  rw [hvW_at (by omega), pu_n _ _ (by omega)]
/-- a show that is let in -/
theorem mkB_yes {b F : jA} {nH nN nF nL t x h : Nat} (R : WR C b nH nN nF nL t) (hx : x < nN) (hh : h < 4) (c4 : bt (b (142 + x * 11 + 10)) 4 = true) (ve : f_X4_verdict b C off dear (nI h) (nI x) v5 = 0) (hF : ¬ F 2 = 0) :
    f_X6_makes (eV C off dear proved b) F lg (nI (100 + 4 * x + h)) v3 v4 v5 = (eV C off dear proved (liW b h x), upd F 24 (if nI h = v3 then (if b (142 + x * 11 + 1) = v4 then nI 1 else nI 0) else nI 0), lg, nI 1) ∧ s_X6_makes (eV C off dear proved b) F lg (nI (100 + 4 * x + h)) v3 v4 v5 := by
  obtain ⟨h1, c3, c5⟩ := verd_0 R hx hh ve
  have e12 : eV C off dear proved b 12 = nI nN := R.2.1.1
  have e11 : eV C off dear proved b 11 = nI nH := R.1.1
  have hN := R.2.1.2
  have hF' : ¬ upd F 24 (nI 0) 2 = 0 := by rw [pu_n _ _ (by omega)]; exact hF
  have m := mkB (v := eV C off dear proved b) (F := F) (lg := lg) (v3 := v3) (v4 := v4) (v5 := v5) (show x < 32 by omega) hh e12 R.2.1.2 e11 R.1.2
  have hv := has_v C off dear proved (p := 4) R.2.1.1 hN (by omega) hx
  have hi := eV_in0 C off dear proved b hh
  have ek : eV C off dear proved b (59 + 11 * x) = b (142 + x * 11 + 0) := eV_n C off dear proved b (j := 0) R.2.1.1 hN hx (by omega)
  obtain ⟨w', Dg', dw', F', lg', a, -, -, k3, k4, k5, -, k7, k8, k9⟩ := show_st C off dear proved (d := false) (Dg := F) (dw := F) (F := upd F 24 (nI 0)) (lg := lg) (B := 0) (v1 := nI 4) (r := v5) R ⟨fun q => Bool.noConfusion q, fun _ => hF'⟩ (by omega) h1 hx
  obtain ⟨e1, e2, -, -⟩ := k7.1 rfl
  rw [if_pos ve] at k9
  rw [k9] at k5
  rw [e1, e2, k9, k8, ve] at k3
  have ep : eV C off dear proved (liW b h x) (59 + 11 * x + 1) = b (142 + x * 11 + 1) := by
    rw [eV_n C off dear proved _ (j := 1) k5.1.2.1.1 hN hx (by omega), liW_1 hh]
  rw [k3] at m
  have z0 : ((0 : Int32) = 0) = True := eq_self 0
  refine ⟨m.1.trans ?_, m.2 (fun _ => hv.2) (fun _ _ _ _ _ => ⟨k4, ?_⟩)⟩
  · rw [if_neg (by omega), if_neg (by omega), if_neg (by rw [hi]; exact fun q => q c3), if_neg (by rw [hv.1, if_pos c4]; exact n1z), if_neg (by rw [ek]; exact c5)]
    unfold f_X6_makes_127 f_X6_makes_154 f_X6_makes_155
    simp (disch := omega) only [if_true, f_X6_note, pk_mul, nI_add, pn_cl, ep, pu_u]
    by_cases q1 : nI h = v3
    · by_cases q2 : b (142 + x * 11 + 1) = v4
      · simp only [q1, q2, if_true]
      · simp only [q1, q2, if_true, if_false]
    · simp only [q1, if_false]
  · unfold s_X6_makes_127 s_X6_makes_154 s_X6_makes_155
    simp (disch := omega) only [f_X6_note, pk_mul, nI_add, pn_in, true_and]
    exact ⟨fun _ => ⟨fun _ => ⟨fun _ => Or.inr rfl, fun _ => Or.inl rfl⟩, fun _ => Or.inl rfl⟩, fun q => absurd trivial q⟩
/-- the goal met by a show -/
theorem meet_oc {c n m : Nat} {J bef mov nxt chn : jA} {P : Nat → jA} {pn : Nat} {F sta sm par mv dep th th1 : jA} (H : SR C off dear proved v2 v3 v4 v5 T c (J, bef, mov, nxt, chn, P, pn) (F, sta, sm, par, mv, dep, th)) (e : v2 = nI 0) (hk : k < c) (hd : dep k = nI d) (hm : okM m) (z : NZ th1) (mk : f_X6_makes (eV C off dear proved (P k)) F lg (nI m) v3 v4 v5 = (th1, upd F 24 (nI 1), lg, nI 1)) (smk : s_X6_makes (eV C off dear proved (P k)) F lg (nI m) v3 v4 v5) (n1 m1 : Nat) :
    OC C off dear proved v2 v3 v4 v5 T kk sk lg bf v6 k d (n + 1) c (J, bef, mov, nxt, chn, P, pn) (F, sta, sm, par, mv, dep, th) m n1 m1 (upd (upd J 14 (nI k)) 15 (nI m), bef, mov, nxt, chn, P, pn) (nI 1) := by
  have r := r_mk (kk := kk) (sk := sk) (bf := bf) (v6 := v6) (n := n) H hk hm mk smk
  have v0 : v2 = 0 := e
  have hc := H.1.1
  refine Or.inr (Or.inl ⟨rfl, c, (upd (upd (upd F 24 (nI 1)) 25 (nI m)) 26 (nI k), sta, sm, par, mv, dep, th1), ?_, ?_, r.1.trans ?_, r.2 ?_, ?_, ?_, ?_⟩)
  · obtain ⟨g1, g2, g3, g4, g5, g6⟩ := H
    obtain ⟨x1, x2, x3⟩ := g1
    refine ⟨⟨x1, by rw [pu_n _ _ (by omega), pu_n _ _ (by omega)]; exact x2, x3⟩, ?_, ?_, ?_, z, g6⟩
    · rw [pu_n _ _ (by omega), pu_n _ _ (by omega), pu_n _ _ (by omega)]; exact g2
    · rw [pu_n _ _ (by omega), pu_n _ _ (by omega), pu_n _ _ (by omega), pu_n _ _ (by omega), pu_n _ _ (by omega), pu_n _ _ (by omega), pu_n _ _ (by omega), pu_n _ _ (by omega)]; exact g3
    · rw [pu_n _ _ (by omega), pu_n _ _ (by omega), pu_n _ _ (by omega)]; exact g4
  · refine ⟨Nat.le_refl c, fun _ _ => ⟨rfl, rfl⟩, fun j h1 h2 => by omega, fun i _ h2 h3 => ?_, fun i _ h2 h3 h4 => ?_⟩
    · rw [pu_n _ _ h3, pu_n _ _ h2]
    · rw [pu_n _ _ h4, pu_n _ _ h3, pu_n _ _ h2]
  · unfold f_X6_search_166 f_X6_search_197
    rw [if_neg n1z, if_pos v0, pu_s, if_neg n1z, pn_cl (by omega), hd, nI_add]
    rfl
  · unfold s_X6_search_166 s_X6_search_197
    refine ⟨fun q => absurd q n1z, fun _ => ⟨fun _ => ⟨fun q => ?_, fun _ => vp_in_nI (by omega) (by omega)⟩, fun q => absurd v0 q⟩⟩
    rw [pu_s] at q
    exact absurd q n1z
  · show upd (upd J 14 (nI k)) 15 (nI m) 14 = nI k
    rw [pu_n _ _ (by omega), pu_s]
  · show upd (upd J 14 (nI k)) 15 (nI m) 15 = upd (upd (upd F 24 (nI 1)) 25 (nI m)) 26 (nI k) 25
    rw [pu_s, pu_n _ _ (by omega), pu_s]
  · show upd (upd (upd F 24 (nI 1)) 25 (nI m)) 26 (nI k) 26 = nI k
    rw [pu_s]
end SGB
