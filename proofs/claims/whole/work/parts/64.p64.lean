def bkP (P : Nat → Nat → Int32) (k : Nat) : Nat := (mkW (P k) &&& nI 255).toNatClampNeg
theorem and255 (x : Int32) : ∃ j, j < 256 ∧ x &&& nI 255 = nI j := pk_andE x 8 (by decide)
theorem bkP_lt (P : Nat → Nat → Int32) (k : Nat) : bkP P k < 256 := by
  obtain ⟨j, hj, e⟩ := and255 (mkW (P k))
  unfold bkP; rw [e, pn_cl (by omega)]; exact hj
/-- the last one of a chain below m -/
def lb (f : Nat → Nat) (b : Nat) : Nat → Int32
  | 0 => (-1)
  | m + 1 => if f m = b then nI m else lb f b m
theorem lb_cg {f g : Nat → Nat} {b : Nat} : ∀ {m : Nat}, (∀ k, k < m → f k = g k) → lb f b m = lb g b m
  | 0, _ => rfl
  | m + 1, h => by
    rw [lb, lb, h m (by omega), lb_cg (fun k hk => h k (by omega))]
/-- the class's side of a search that has found c states -/
def CR (C J nxt chn : Nat → Int32) (P : Nat → Nat → Int32) (pn c : Nat) : Prop :=
  c ≤ 300 ∧ J 9 = nI c ∧ c ≤ pn ∧ pn ≤ 300 ∧ (∀ k, k < c → (∃ nH nN nF nL t, WR C (P k) nH nN nF nL t) ∧ nxt k = lb (bkP P) (bkP P k) k) ∧ (∀ b, b < 256 → chn b = lb (bkP P) b c)
section KEE
variable (C off dear proved : Nat → Int32) {J bef mov nxt chn tw : Nat → Int32} {P : Nat → Nat → Int32} {pn c : Nat} {v1 v2 : Int32}
theorem keep30 {nH nN nF nL t b : Nat} (H : CR C J nxt chn P pn c) (R : WR C tw nH nN nF nL t) : ∀ (m n i : Nat), m < n → m ≤ c → i + m ≤ 300 →
    ((∃ k, k < m ∧ bkP P k = b ∧ eV C off dear proved (P k) = eV C off dear proved tw) ∧ f_X1_keepIfNew_23 n J bef mov nxt chn tw P pn v1 v2 (nI b) (lb (bkP P) b m) (nI i) = (J, bef, mov, nxt, chn, P, pn, nI 0) ∧ s_X1_keepIfNew_23 n J bef mov nxt chn tw P pn v1 v2 (nI b) (lb (bkP P) b m) (nI i)) ∨
    ((¬ ∃ k, k < m ∧ bkP P k = b ∧ eV C off dear proved (P k) = eV C off dear proved tw) ∧ f_X1_keepIfNew_23 n J bef mov nxt chn tw P pn v1 v2 (nI b) (lb (bkP P) b m) (nI i) = f_X1_keepIfNew_88 J bef mov nxt chn tw P pn v1 v2 (nI b) ∧ (s_X1_keepIfNew_88 J bef mov nxt chn tw P pn v1 v2 (nI b) → s_X1_keepIfNew_23 n J bef mov nxt chn tw P pn v1 v2 (nI b) (lb (bkP P) b m) (nI i)))
  | 0, n, i, hn, hm, hi => by
    obtain ⟨n, rfl⟩ : ∃ q, n = q + 1 := ⟨n - 1, by omega⟩
    right
    rw [f_X1_keepIfNew_23, s_X1_keepIfNew_23, lb]
    refine ⟨fun ⟨k, h, _⟩ => by omega, ?_, fun q => ⟨fun _ => q, fun _ => ⟨fun _ => q, fun z => absurd m1_lt z⟩⟩⟩
    rw [if_pos m1_lt, ite_self]
  | m + 1, n, i, hn, hm, hi => by
    by_cases e : bkP P m = b
    · obtain ⟨n, rfl⟩ : ∃ q, n = q + 1 := ⟨n - 1, by omega⟩
      obtain ⟨c1, c2, c3, c4, c5, c6⟩ := H
      obtain ⟨⟨nH', nN', nF', nL', t', R'⟩, d3⟩ := c5 m (by omega)
      have lk := like_c C off dear proved R R'
      have el : lb (bkP P) b (m + 1) = nI m := by rw [lb, if_pos e]
      rw [f_X1_keepIfNew_23, s_X1_keepIfNew_23, el]
      simp (disch := omega) only [pn_le, show ¬ 300 ≤ i by omega, show ¬ 300 ≤ m by omega, if_false, pn_lt0, not_false_eq_true, true_implies, false_implies, true_and, pn_cl, pn_in, show m < pn by omega, if_true, not_true_eq_false, and_true, f_X1_keepIfNew_73, s_X1_keepIfNew_73, nI_add]
      rcases lk.1 with ⟨l1, l2⟩ | ⟨l1, l2⟩
      · left
        refine ⟨⟨m, by omega, e, l2⟩, ?_, lk.2, ?_⟩
        · rw [l1, if_neg n1z]
        · exact fun q => absurd (by rw [← l1]; exact q) n1z
      · have d4 : nxt m = lb (bkP P) b m := by rw [d3, e]
        rw [l1, d4]
        have ih := keep30 (b := b) ⟨c1, c2, c3, c4, c5, c6⟩ R m n (i + 1) (by omega) (by omega) (by omega)
        rcases ih with ⟨a1, a2, a3⟩ | ⟨a1, a2, a3⟩
        · left
          obtain ⟨k, k1, k2, k3⟩ := a1
          exact ⟨⟨k, by omega, k2, k3⟩, by rw [if_pos b_n0]; exact a2, lk.2, fun _ => a3⟩
        · right
          refine ⟨fun ⟨k, k1, k2, k3⟩ => ?_, by rw [if_pos b_n0]; exact a2, fun q => ⟨lk.2, fun _ => a3 q⟩⟩
          rcases Nat.lt_or_ge k m with z | z
          · exact a1 ⟨k, z, k2, k3⟩
          · have : k = m := by omega
            rw [this] at k3; exact l2 k3
    · have el : lb (bkP P) b (m + 1) = lb (bkP P) b m := by rw [lb, if_neg e]
      rw [el]
      have ih := keep30 (b := b) H R m n i (by omega) (by omega) (by omega)
      rcases ih with ⟨a1, a2, a3⟩ | ⟨a1, a2, a3⟩
      · left
        obtain ⟨k, k1, k2, k3⟩ := a1
        exact ⟨⟨k, by omega, k2, k3⟩, a2, a3⟩
      · right
        refine ⟨fun ⟨k, k1, k2, k3⟩ => ?_, a2, a3⟩
        rcases Nat.lt_or_ge k m with z | z
        · exact a1 ⟨k, z, k2, k3⟩
        · have : k = m := by omega
          rw [this] at k2; exact e k2
theorem keep147 {nH nN nF nL t b : Nat} (R : WR C tw nH nN nF nL t) (hJ : J 9 = nI c) (hc : c < 300) (hp : c < pn) (hb : b < 256) : ∃ q, AG tw q nN ∧ f_X1_keepIfNew_140 J bef mov nxt chn tw P pn v1 v2 (nI b) = (upd J 9 (nI (c + 1)), upd bef c v1, upd mov c v2, upd nxt c (chn b), upd chn b (nI c), va_up P c q, pn, nI 0) ∧ s_X1_keepIfNew_140 J bef mov nxt chn tw P pn v1 v2 (nI b) := by
  obtain ⟨q, q1, q2, q3⟩ := bec_eq (tw := P c) R.2.1.1 R.2.1.2
  refine ⟨q, q3, ?_, ?_⟩
  · simp (disch := omega) only [f_X1_keepIfNew_140, f_X1_keepIfNew_156, hJ, pn_cl, hp, if_true, q1, nI_add]
  · simp (disch := omega) only [s_X1_keepIfNew_140, s_X1_keepIfNew_156, hJ, pn_cl, pn_in, hp, not_true_eq_false, false_implies, true_implies, q2, and_true, true_and]
/-- keeping a state -/
theorem keep_st {nH nN nF nL t : Nat} (H : CR C J nxt chn P pn c) (R : WR C tw nH nN nF nL t) : s_X1_keepIfNew J bef mov nxt chn tw P pn v1 v2 ∧
    (((∃ k, k < c ∧ eV C off dear proved (P k) = eV C off dear proved tw) ∧ f_X1_keepIfNew J bef mov nxt chn tw P pn v1 v2 = (J, bef, mov, nxt, chn, P, pn, nI 0)) ∨
     ((¬ ∃ k, k < c ∧ eV C off dear proved (P k) = eV C off dear proved tw) ∧ c = 300 ∧ f_X1_keepIfNew J bef mov nxt chn tw P pn v1 v2 = (J, bef, mov, nxt, chn, P, pn, nI 2)) ∨
     ((¬ ∃ k, k < c ∧ eV C off dear proved (P k) = eV C off dear proved tw) ∧ c < 300 ∧ ∃ (J' nxt' chn' : Nat → Int32) (P' : Nat → Nat → Int32) (pn' : Nat), f_X1_keepIfNew J bef mov nxt chn tw P pn v1 v2 = (J', upd bef c v1, upd mov c v2, nxt', chn', P', pn', nI 0) ∧ J' = upd J 9 (nI (c + 1)) ∧ CR C J' nxt' chn' P' pn' (c + 1) ∧ (∀ k, k < c → P' k = P k) ∧ AG tw (P' c) nN ∧ pn ≤ pn')) := by
  have mk := mkW_eq C R
  obtain ⟨b, hb, eb⟩ := and255 (mkW tw)
  have H0 := H
  obtain ⟨c1, c2, c3, c4, c5, c6⟩ := H
  have k30 := keep30 C off dear proved (bef := bef) (mov := mov) (v1 := v1) (v2 := v2) (b := b) H0 R c ng_F 0 (by rw [ng_F_v]; omega) (Nat.le_refl c) (by omega)
  have fk : f_X1_keepIfNew J bef mov nxt chn tw P pn v1 v2 = f_X1_keepIfNew_23 ng_F J bef mov nxt chn tw P pn v1 v2 (nI b) (lb (bkP P) b c) (nI 0) := by
    unfold f_X1_keepIfNew
    rw [mk.1, eb, pn_cl (by omega), c6 b hb]
  have sk : s_X1_keepIfNew_23 ng_F J bef mov nxt chn tw P pn v1 v2 (nI b) (lb (bkP P) b c) (nI 0) → s_X1_keepIfNew J bef mov nxt chn tw P pn v1 v2 := by
    intro h
    unfold s_X1_keepIfNew
    rw [mk.1, eb, pn_cl (by omega), c6 b hb]
    exact ⟨mk.2, pn_in (by omega) hb ▸ trivial, h⟩
  have bk_of : ∀ k, k < c → eV C off dear proved (P k) = eV C off dear proved tw → bkP P k = b := fun k hk e => by
    obtain ⟨⟨nH', nN', nF', nL', t', R'⟩, d3⟩ := c5 k hk
    obtain ⟨-, -, -, u⟩ := US_eV C off dear proved R R' e
    unfold bkP
    rw [mkW_cg C R u, eb, pn_cl (by omega)]
  rw [fk]
  rcases k30 with ⟨⟨k, a1, -, a3⟩, a4, a5⟩ | ⟨a1, a4, a5⟩
  · exact ⟨sk a5, Or.inl ⟨⟨k, a1, a3⟩, a4⟩⟩
  · have nx : ¬ ∃ k, k < c ∧ eV C off dear proved (P k) = eV C off dear proved tw := fun ⟨k, k1, k2⟩ => a1 ⟨k, k1, bk_of k k1 k2, k2⟩
    rw [a4]
    rcases Nat.lt_or_ge c 300 with hc | hc
    · -- a state more
      have fin : ∀ (P0 : Nat → Nat → Int32) (pn0 : Nat) (q : Nat → Int32), (∀ k, k < c → P0 k = P k) → AG tw q nN → c < pn0 → pn0 ≤ 300 → CR C (upd J 9 (nI (c + 1))) (upd nxt c (chn b)) (upd chn b (nI c)) (va_up P0 c q) pn0 (c + 1) ∧ (∀ k, k < c → va_up P0 c q k = P k) ∧ AG tw (va_up P0 c q c) nN := by
        intro P0 pn0 q hP hq h1 h2
        have bk1 : ∀ k, k < c → bkP (va_up P0 c q) k = bkP P k := fun k hk => by
          unfold bkP; rw [va_n _ _ (by omega), hP k hk]
        have bk2 : bkP (va_up P0 c q) c = b := by
          unfold bkP; rw [va_s, mkW_cg C R (US_AG hq R.2.2.1.2 R.2.2.2.1.2), eb, pn_cl (by omega)]
        refine ⟨⟨by omega, pu_s _ _ _, by omega, h2, fun k hk => ?_, fun b' hb' => ?_⟩, fun k hk => by rw [va_n _ _ (by omega), hP k hk], by rw [va_s]; exact hq⟩
        · rcases Nat.lt_or_ge k c with z | z
          · obtain ⟨d1, d3⟩ := c5 k z
            rw [bk1 k z, lb_cg (fun j hj => bk1 j (by omega)), va_n _ _ (by omega), hP k z, pu_n _ _ (by omega)]
            exact ⟨d1, d3⟩
          · have : k = c := by omega
            subst this
            rw [bk2, lb_cg (fun j hj => bk1 j hj), va_s, pu_s, c6 b hb]
            exact ⟨⟨nH, nN, nF, nL, t, WR_AG R hq⟩, rfl⟩
        · rw [lb, bk2]
          by_cases z : b = b'
          · rw [if_pos z, z, pu_s]
          · rw [if_neg z, pu_n _ _ (fun y => z y.symm), c6 b' hb', lb_cg (fun j hj => bk1 j hj)]
      rcases Nat.lt_or_ge c pn with hp | hp
      · obtain ⟨q, q1, q2, q3⟩ := keep147 C (bef := bef) (mov := mov) (nxt := nxt) (chn := chn) (P := P) (v1 := v1) (v2 := v2) R c2 hc hp hb
        have f95 : f_X1_keepIfNew_88 J bef mov nxt chn tw P pn v1 v2 (nI b) = f_X1_keepIfNew_140 J bef mov nxt chn tw P pn v1 v2 (nI b) := by
          simp (disch := omega) only [f_X1_keepIfNew_88, c2, pn_lt0, if_false, pn_lt, hc, if_true, pn_cl, hp]
        have s95 : s_X1_keepIfNew_88 J bef mov nxt chn tw P pn v1 v2 (nI b) := by
          simp (disch := omega) only [s_X1_keepIfNew_88, c2, pn_cl, pn_in, hp, q3, not_true_eq_false, false_implies, implies_true, and_true]
        obtain ⟨f1, f2, f3⟩ := fin P pn q (fun k _ => rfl) q1 hp c4
        exact ⟨sk (a5 s95), Or.inr (Or.inr ⟨nx, hc, _, _, _, _, _, f95.trans q2, rfl, f1, f2, f3, Nat.le_refl _⟩)⟩
      · have ep : c = pn := by omega
        obtain ⟨q, q1, q2, q3⟩ := keep147 C (J := J) (c := c) (bef := bef) (mov := mov) (nxt := nxt) (chn := chn) (P := va_up P pn (fun _ => 0)) (pn := pn + 1) (v1 := v1) (v2 := v2) R c2 hc (by omega) hb
        have hnp : ¬ c < pn := by omega
        have f95 : f_X1_keepIfNew_88 J bef mov nxt chn tw P pn v1 v2 (nI b) = f_X1_keepIfNew_140 J bef mov nxt chn tw (va_up P pn (fun _ => 0)) (pn + 1) v1 v2 (nI b) := by
          simp (disch := omega) only [f_X1_keepIfNew_88, c2, pn_lt0, if_false, pn_lt, hc, if_true, pn_cl, hnp]
        have s95 : s_X1_keepIfNew_88 J bef mov nxt chn tw P pn v1 v2 (nI b) := by
          simp (disch := omega) only [s_X1_keepIfNew_88, c2, pn_cl, pn_in, hnp, q3, false_implies, implies_true, and_true, true_and, not_false_eq_true, true_implies]
          exact fun _ _ => ep
        obtain ⟨f1, f2, f3⟩ := fin (va_up P pn (fun _ => 0)) (pn + 1) q (fun k hk => va_n _ _ (by omega)) q1 (by omega) (by omega)
        exact ⟨sk (a5 s95), Or.inr (Or.inr ⟨nx, hc, _, _, _, _, _, f95.trans q2, rfl, f1, f2, f3, by omega⟩)⟩
    · have ec : c = 300 := by omega
      have f95 : f_X1_keepIfNew_88 J bef mov nxt chn tw P pn v1 v2 (nI b) = (J, bef, mov, nxt, chn, P, pn, nI 2) := by
        simp (disch := omega) only [f_X1_keepIfNew_88, c2, pn_lt0, if_false, pn_lt, show ¬ c < 300 by omega]
      have s95 : s_X1_keepIfNew_88 J bef mov nxt chn tw P pn v1 v2 (nI b) := by
        simp (disch := omega) only [s_X1_keepIfNew_88, c2, pn_lt, show ¬ c < 300 by omega, false_implies, implies_true]
      exact ⟨sk (a5 s95), Or.inr (Or.inl ⟨nx, ec, f95⟩)⟩
end KEE
