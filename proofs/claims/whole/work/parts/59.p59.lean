theorem lc_le (x y : Int64) : (lg_cmp x y ≤ 0) = ¬ (0 < lg_cmp x y) := by
  apply propext
  rw [lg_cmp_le, lg_cmp_gt, Int64.le_iff_toInt_le, Int64.lt_iff_toInt_lt]
  omega
theorem hd_c {z : Nat} (hz : z ≤ 60) (v2 v5 : Int32) : (f_X3_holds (nI z) v2 v5 = nI 0 ∧ (v2 < 0 ∨ v5 < 0 ∨ 0 < lg_cmp (v2.toInt64 + v5.toInt64) (nI z).toInt64)) ∨ ∃ a b, v2 = nI a ∧ v5 = nI b ∧ a + b ≤ z ∧ f_X3_holds (nI z) v2 v5 = nI 1 ∧ ¬ 0 < lg_cmp (v2.toInt64 + v5.toInt64) (nI z).toInt64 := by
  unfold f_X3_holds
  rcases sg v2 with h | ⟨a, ha, rfl⟩
  · left; exact ⟨if_pos h, Or.inl h⟩
  rcases sg v5 with h | ⟨b, hb, rfl⟩
  · left; exact ⟨by rw [if_neg (nI_pos ha), if_pos h], Or.inr (Or.inl h)⟩
  rw [nI_l ha, nI_l hb, nI_l (show z < 2 ^ 31 by omega), lN_add, lg_cmp_gt, pk_lLT (by omega) (by omega), if_neg (nI_pos ha), if_neg (nI_pos hb)]
  by_cases c : z < a
  · left; exact ⟨if_pos (by rw [pn_lt (by omega) ha]; exact c), Or.inr (Or.inr (by omega))⟩
  · rw [if_neg (by rw [pn_lt (by omega) ha]; exact c), pn_sub (by omega)]
    by_cases d : z - a < b
    · left; exact ⟨if_pos (by rw [pn_lt (by omega) hb]; exact d), Or.inr (Or.inr (by omega))⟩
    · right; exact ⟨a, b, rfl, rfl, by omega, if_neg (by rw [pn_lt (by omega) hb]; exact d), by omega⟩
section PST
variable {F wid siz : Nat → Int32}
theorem paste153 {t c b : Nat} {mvd : Nat → Int64} (ht : t < 4) (hc : c + b ≤ 60) : ∀ (n k : Nat) (cel : Nat → Int64), b - k < n → k ≤ b → f_X6_paste_153 n F wid siz cel mvd (nI t) (nI c) (nI b) (nI k) = (F, (fun i => if 60 * t + c + k ≤ i ∧ i < 60 * t + c + b then mvd (i - (60 * t + c)) else cel i), mvd, nI 0) ∧ s_X6_paste_153 n F wid siz cel mvd (nI t) (nI c) (nI b) (nI k)
  | 0, k, cel, h, _ => by omega
  | n + 1, k, cel, h, hk => by
    rw [f_X6_paste_153, s_X6_paste_153]
    by_cases e : k = b
    · subst e
      simp (disch := omega) only [pn_le, Nat.le_refl, if_true, not_true_eq_false, false_implies, and_true]
      congr 2
      funext i
      rw [if_neg (by omega)]
    · have ih := paste153 (mvd := mvd) ht hc n (k + 1) (vp_updL cel (60 * t + c + k) (mvd k)) (by omega) (by omega)
      simp (disch := omega) only [pn_le, show ¬ b ≤ k by omega, if_false, not_false_eq_true, true_implies, pk_mul, nI_add, pn_cl, pn_in, true_and]
      refine ⟨ih.1.trans ?_, ih.2⟩
      congr 2
      funext i
      by_cases e2 : i = 60 * t + c + k
      · subst e2; rw [if_neg (by omega), pk_uLs, if_pos (by omega)]; congr 1; omega
      · rw [pk_uLn e2]
        by_cases q : 60 * t + c + (k + 1) ≤ i ∧ i < 60 * t + c + b
        · rw [if_pos q, if_pos (by omega)]
        · rw [if_neg q, if_neg (by omega)]
theorem paste116 {s a t c b : Nat} {cel : Nat → Int64} (hs : s < 4) (ha : a + b ≤ 60) : ∀ (n k : Nat) (mvd : Nat → Int64), b - k < n → k ≤ b → (∀ mvd', s_X6_paste_153 ng_F F wid siz cel mvd' (nI t) (nI c) (nI b) (nI 0)) → f_X6_paste_116 n F wid siz cel mvd (nI s) (nI a) (nI t) (nI c) (nI b) (nI k) = f_X6_paste_153 ng_F F wid siz cel (fun j => if k ≤ j ∧ j < b then cel (60 * s + a + j) else mvd j) (nI t) (nI c) (nI b) (nI 0) ∧ s_X6_paste_116 n F wid siz cel mvd (nI s) (nI a) (nI t) (nI c) (nI b) (nI k)
  | 0, k, mvd, h, _, _ => by omega
  | n + 1, k, mvd, h, hk, hx => by
    rw [f_X6_paste_116, s_X6_paste_116]
    by_cases e : k = b
    · subst e
      simp (disch := omega) only [pn_le, Nat.le_refl, if_true, not_true_eq_false, false_implies, and_true, true_implies]
      refine ⟨?_, hx _⟩
      congr 1
      funext i
      rw [if_neg (by omega)]
    · have ih := paste116 (t := t) (c := c) (cel := cel) hs ha n (k + 1) (vp_updL mvd k (cel (60 * s + a + k))) (by omega) (by omega) hx
      simp (disch := omega) only [pn_le, show ¬ b ≤ k by omega, if_false, not_false_eq_true, true_implies, false_implies, pk_mul, nI_add, pn_cl, pn_in, true_and]
      refine ⟨ih.1.trans ?_, ih.2⟩
      congr 1
      funext i
      by_cases e2 : i = k
      · subst e2; rw [if_neg (by omega), pk_uLs, if_pos (by omega)]
      · rw [pk_uLn e2]
        by_cases q : k + 1 ≤ i ∧ i < b
        · rw [if_pos q, if_pos (by omega)]
        · rw [if_neg q, if_neg (by omega)]
theorem op_paste {nu : Nat → Nat → Int64} {sw ss : Nat → Int32} {cel mvd : Nat → Int64} (S : SL nu sw ss wid siz cel) (v1 v2 v3 v4 v5 : Int32) : ∃ (nu' : Nat → Nat → Int64) (cel' mvd' : Nat → Int64) (a : Int32), f_X5_paste nu sw ss v1 v2 v3 v4 v5 = (nu', a) ∧ s_X5_paste nu sw ss v1 v2 v3 v4 v5 ∧ f_X6_paste F wid siz cel mvd v1 v2 v3 v4 v5 = (upd F 0 (nI 0), cel', mvd', a) ∧ s_X6_paste F wid siz cel mvd v1 v2 v3 v4 v5 ∧ SL nu' sw ss wid siz cel' := by
  rcases sl_c v1 with ⟨g1, g2, g3, g4⟩ | ⟨s, hs, rfl, g1, g2, g3, g4⟩
  · refine ⟨nu, cel, mvd, (-2), ?_, ?_, ?_, ?_, S⟩
    · simp only [f_X5_paste, g1, n00, if_true]
    · simp only [s_X5_paste, g1, n00, g3, not_true_eq_false, false_implies, and_true]
    · simp only [f_X6_paste, g2, n00, if_true]
    · simp only [s_X6_paste, g2, g4, n00, not_true_eq_false, false_implies, and_true]
  rcases sl_c v3 with ⟨k1, k2, k3, k4⟩ | ⟨t, ht, rfl, k1, k2, k3, k4⟩
  · refine ⟨nu, cel, mvd, (-2), ?_, ?_, ?_, ?_, S⟩
    · simp only [f_X5_paste, g1, n1z, if_false, k1, n00, if_true]
    · simp only [s_X5_paste, g3, k1, k3, n00, not_true_eq_false, false_implies, implies_true, and_true]
    · simp only [f_X6_paste, g2, n1z, if_false, k2, n00, if_true]
    · simp only [s_X6_paste, g4, k2, k4, n00, not_true_eq_false, false_implies, implies_true, and_true]
  obtain ⟨a1, a2, ⟨z, hz, z1, z2⟩, a4⟩ := S s hs
  obtain ⟨b1, b2, ⟨y, hy, y1, y2⟩, b4⟩ := S t ht
  rcases la_c a2 with ⟨l0, l1, l2, l3⟩ | ⟨l1, l2, l3⟩
  · refine ⟨nu, cel, mvd, (-5), ?_, ?_, ?_, ?_, S⟩
    · simp (disch := omega) only [f_X5_paste, g1, n1z, if_false, k1, pn_cl, a1, l1, n00, if_true]
    · simp (disch := omega) only [s_X5_paste, g3, k3, pn_cl, pn_in, a1, l1, n00, not_true_eq_false, false_implies, implies_true, and_true]
    · simp (disch := omega) only [f_X6_paste, g2, n1z, if_false, k2, pn_cl, l3, if_true]
    · simp (disch := omega) only [s_X6_paste, g4, k4, pn_cl, pn_in, l3, not_true_eq_false, false_implies, implies_true, and_true]
  rcases la_c b2 with ⟨m0, m1, m2, m3⟩ | ⟨m1, m2, m3⟩
  · refine ⟨nu, cel, mvd, (-5), ?_, ?_, ?_, ?_, S⟩
    · simp (disch := omega) only [f_X5_paste, g1, n1z, if_false, k1, pn_cl, a1, l1, b1, m1, n00, if_true]
    · simp (disch := omega) only [s_X5_paste, g3, k3, pn_cl, pn_in, b1, m1, n00, not_true_eq_false, false_implies, implies_true, and_true]
    · simp (disch := omega) only [f_X6_paste, g2, n1z, if_false, k2, pn_cl, l3, m2]
    · simp (disch := omega) only [s_X6_paste, g4, k4, pn_cl, pn_in, m2, false_implies, implies_true, and_true]
  by_cases w : wid s = wid t
  · have f5 : f_X5_paste nu sw ss (nI s) v2 (nI t) v4 v5 = if f_X3_holds (nI z) v2 v5 = 0 then (nu, (-6)) else if f_X3_holds (nI y) v4 v5 = 0 then (nu, (-6)) else ((va_up nu t (va_cpy (nu s) (nu t) v2.toNatClampNeg v4.toNatClampNeg v5.toNatClampNeg)), nI 0) := by
      simp (disch := omega) only [f_X5_paste, g1, k1, n1z, if_false, pn_cl, a1, b1, l1, m1, z1, y1]
      rw [if_pos w]
    have f6 : f_X6_paste F wid siz cel mvd (nI s) v2 (nI t) v4 v5 = if v2 < 0 then (upd F 0 (nI 0), cel, mvd, (-6)) else if v4 < 0 then (upd F 0 (nI 0), cel, mvd, (-6)) else if v5 < 0 then (upd F 0 (nI 0), cel, mvd, (-6)) else if 0 < lg_cmp (v2.toInt64 + v5.toInt64) (nI z).toInt64 then (upd F 0 (nI 0), cel, mvd, (-6)) else if 0 < lg_cmp (v4.toInt64 + v5.toInt64) (nI y).toInt64 then (upd F 0 (nI 0), cel, mvd, (-6)) else f_X6_paste_116 ng_F (upd F 0 (nI 0)) wid siz cel mvd (nI s) v2 (nI t) v4 v5 (nI 0) := by
      simp (disch := omega) only [f_X6_paste, g2, k2, n1z, if_false, pn_cl, l3, m2, if_true, z2, y2, lc_le]
      rw [if_pos w]
      by_cases q : 0 < lg_cmp (v4.toInt64 + v5.toInt64) (nI y).toInt64
      · simp only [q, not_true_eq_false, if_false, if_true]
      · simp only [q, not_false_eq_true, if_false, if_true]
    have s6 : (¬ v2 < 0 → ¬ v4 < 0 → ¬ v5 < 0 → ¬ 0 < lg_cmp (v2.toInt64 + v5.toInt64) (nI z).toInt64 → ¬ 0 < lg_cmp (v4.toInt64 + v5.toInt64) (nI y).toInt64 → s_X6_paste_116 ng_F (upd F 0 (nI 0)) wid siz cel mvd (nI s) v2 (nI t) v4 v5 (nI 0)) → s_X6_paste F wid siz cel mvd (nI s) v2 (nI t) v4 v5 := by
      intro h
      simp (disch := omega) only [s_X6_paste, g4, k4, pn_cl, pn_in, z2, y2, lc_le, true_and]
      exact fun _ _ _ _ _ q1 q2 q3 q4 q5 => h q1 q2 q3 q4 q5
    have s5 : (¬ f_X3_holds (nI z) v2 v5 = 0 → ¬ f_X3_holds (nI y) v4 v5 = 0 → (¬ v2 < 0 ∧ ¬ v4 < 0 ∧ ¬ v5 < 0 ∧ v2.toNatClampNeg + v5.toNatClampNeg ≤ 60 ∧ v4.toNatClampNeg + v5.toNatClampNeg ≤ 60)) → s_X5_paste nu sw ss (nI s) v2 (nI t) v4 v5 := by
      intro h
      simp (disch := omega) only [s_X5_paste, g3, k3, pn_cl, pn_in, z1, y1, true_and]
      exact fun _ _ _ _ _ q1 q2 => h q1 q2
    rw [f5, f6]
    rcases hd_c hz v2 v5 with ⟨h1, h2⟩ | ⟨a, b, rfl, rfl, hab, h1, h2⟩
    · refine ⟨nu, cel, mvd, (-6), ?_, ?_, ?_, ?_, S⟩
      · rw [h1, if_pos b_n0]
      · exact s5 (fun q => absurd (by rw [h1]; exact b_n0) q)
      · rcases h2 with h2 | h2 | h2
        · rw [if_pos h2]
        · simp only [h2, if_true, ite_self]
        · simp only [h2, if_true, ite_self]
      · exact s6 (fun q1 _ q3 q4 => h2.elim (fun z => absurd z q1) (fun h => h.elim (fun z => absurd z q3) (fun z => absurd z q4)))
    rcases hd_c hy v4 (nI b) with ⟨h3, h4⟩ | ⟨c, b', rfl, eb, hcb, h3, h4⟩
    · refine ⟨nu, cel, mvd, (-6), ?_, ?_, ?_, ?_, S⟩
      · rw [h1, if_neg n1z, h3, if_pos b_n0]
      · exact s5 (fun _ q => absurd (by rw [h3]; exact b_n0) q)
      · rcases h4 with h2 | h2 | h2
        · simp only [h2, if_true, ite_self]
        · simp only [h2, if_true, ite_self]
        · simp only [h2, if_true, ite_self]
      · exact s6 (fun _ q2 q3 _ q5 => h4.elim (fun z => absurd z q2) (fun h => h.elim (fun z => absurd z q3) (fun z => absurd z q5)))
    have hb31 : b < 2 ^ 31 ∧ b' < 2 ^ 31 := by
      constructor <;> omega
    have eb2 : b = b' := by rwa [pn_eq hb31.1 hb31.2] at eb
    subst eb2
    have px := fun (cel mvd : Nat → Int64) => paste153 (F := upd F 0 (nI 0)) (wid := wid) (siz := siz) (mvd := mvd) ht (show c + b ≤ 60 by omega) ng_F 0 cel (by rw [ng_F_v]; omega) (by omega)
    have py := paste116 (F := upd F 0 (nI 0)) (wid := wid) (siz := siz) (t := t) (c := c) (cel := cel) hs (show a + b ≤ 60 by omega) ng_F 0 mvd (by rw [ng_F_v]; omega) (by omega) (fun m => (px cel m).2)
    refine ⟨va_up nu t (va_cpy (nu s) (nu t) a c b), (fun i => if 60 * t + c + 0 ≤ i ∧ i < 60 * t + c + b then (fun j => if 0 ≤ j ∧ j < b then cel (60 * s + a + j) else mvd j) (i - (60 * t + c)) else cel i), (fun j => if 0 ≤ j ∧ j < b then cel (60 * s + a + j) else mvd j), nI 0, ?_, ?_, ?_, ?_, ?_⟩
    · rw [h1, if_neg n1z, h3, if_neg n1z, pn_cl (by omega), pn_cl (by omega), pn_cl (by omega)]
    · refine s5 (fun _ _ => ⟨nI_pos (by omega), nI_pos (by omega), nI_pos (by omega), ?_, ?_⟩)
      · rw [pn_cl (by omega), pn_cl (by omega)]; omega
      · rw [pn_cl (by omega), pn_cl (by omega)]; omega
    · rw [if_neg (nI_pos (by omega)), if_neg (nI_pos (by omega)), if_neg (nI_pos (by omega)), if_neg h2, if_neg h4, py.1, (px _ _).1]
    · exact s6 (fun _ _ _ _ _ => py.2)
    · intro q hq
      obtain ⟨c1, c2, c3, c4⟩ := S q hq
      refine ⟨c1, c2, c3, fun i hi => ?_⟩
      by_cases e : q = t
      · subst e
        rw [va_s]
        dsimp only
        by_cases d : c ≤ i ∧ i < c + b
        · rw [pk_cpy_in d.1 d.2, if_pos (by omega), if_pos (by omega), a4 _ (by omega)]
          congr 1; omega
        · rw [pk_cpy_out (by omega), if_neg (by omega)]
          exact c4 i hi
      · rw [va_n _ _ e]
        dsimp only
        rw [if_neg (by omega)]
        exact c4 i hi
  · refine ⟨nu, cel, mvd, (-7), ?_, ?_, ?_, ?_, S⟩
    · simp (disch := omega) only [f_X5_paste, g1, k1, n1z, if_false, pn_cl, a1, b1, l1, m1]
      rw [if_neg w]
    · simp (disch := omega) only [s_X5_paste, g3, k3, pn_cl, pn_in, a1, b1, true_and]
      exact fun _ _ _ _ q => absurd q w
    · simp (disch := omega) only [f_X6_paste, g2, k2, n1z, if_false, pn_cl, l3, m2, if_true]
      rw [if_neg w]
    · simp (disch := omega) only [s_X6_paste, g4, k4, pn_cl, pn_in, true_and]
      exact fun _ _ _ _ q => absurd q w
end PST
/-- what the judge told last -/
def JR (J tol F row : Nat → Int32) : Prop := J 17 = F 16 ∧ ∃ m, m ≤ 6 ∧ J 16 = nI m ∧ F 17 = nI m ∧ ∀ i, i < m → tol i = row i
theorem op_found {J tol F row : Nat → Int32} (H : JR J tol F row) (v1 : Int32) : ∃ a, f_X5_found J tol v1 = a ∧ s_X5_found J tol v1 ∧ f_X6_found F row v1 = (upd F 0 (nI 0), a) ∧ s_X6_found F row v1 := by
  obtain ⟨-, m, hm, h1, h2, h3⟩ := H
  have f17 : upd F 0 (nI 0) 17 = nI m := by rw [pu_n _ _ (by omega)]; exact h2
  have s5 : s_X5_found J tol v1 := by
    unfold s_X5_found s_X1_toldMove
    intro a _ c
    obtain ⟨j, hj, rfl⟩ := nI_of a
    rw [pn_le (by omega) hj] at c
    exact vp_in_nI (by omega) (by omega)
  rcases in_c (n := m) (by omega) v1 with ⟨g1, g2⟩ | ⟨j, hj, rfl, g1⟩
  · refine ⟨(-1), ?_, s5, ?_, ?_⟩
    · unfold f_X5_found f_X1_toldMove
      rcases sg v1 with h | ⟨j, hj, rfl⟩
      · rw [if_pos h]
      · have c : m ≤ j := (Nat.lt_or_ge j m).elim (fun c => absurd ⟨j, c, rfl⟩ g2) id
        rw [if_neg (nI_pos hj), h1, if_pos (nI_le c hj)]
    · simp only [f_X6_found, f17, g1, n00, if_true]
    · simp only [s_X6_found, f17, g1, n00, not_true_eq_false, false_implies]
  · refine ⟨row j, ?_, s5, ?_, ?_⟩
    · unfold f_X5_found f_X1_toldMove
      rw [if_neg (nI_pos (by omega)), h1, if_neg (by rw [pn_le (by omega) (by omega)]; omega), if_neg (by rw [pn_le (by omega) (by omega)]; omega), pn_cl (by omega)]
      exact h3 j hj
    · simp (disch := omega) only [f_X6_found, f17, g1, n1z, if_false, pn_cl]
    · simp (disch := omega) only [s_X6_found, pn_in, implies_true]
theorem full_c {nu : Nat → Nat → Int64} {sw ss wid siz F rl : Nat → Int32} {cel : Nat → Int64} (S : SL nu sw ss wid siz cel) : ∀ (n m i : Nat) (c : Int32), 4 - i < n → 4 - i < m → i ≤ 4 → f_X6_count_156 m F rl wid c (nI i) = (F, f_X5_fullSlots_4 n sw c (nI i)) ∧ s_X6_count_156 m F rl wid c (nI i) ∧ s_X5_fullSlots_4 n sw c (nI i)
  | 0, _, _, _, h, _, _ => by omega
  | _ + 1, 0, _, _, _, h, _ => by omega
  | n + 1, m + 1, i, c, h1, h2, h3 => by
    rw [f_X6_count_156, s_X6_count_156, f_X5_fullSlots_4, s_X5_fullSlots_4]
    by_cases e : i = 4
    · subst e
      simp (disch := omega) only [pn_le, Nat.le_refl, if_true, not_true_eq_false, false_implies, and_true]
    · have ih := fun c => full_c (F := F) (rl := rl) S n m (i + 1) c (by omega) (by omega) (by omega)
      obtain ⟨a1, a2, -, -⟩ := S i (by omega)
      rcases sl_c (nI i) with ⟨-, g2, -, -⟩ | ⟨_, _, _, g1, -, g3, -⟩
      · unfold f_X6_isSlot f_X6_in at g2
        rw [if_neg (by rw [nI_0]; exact nI_pos (by omega)), if_neg (by rw [pn_lt (by omega) (by omega)]; omega)] at g2
        exact absurd g2 n01
      rcases la_c a2 with ⟨l0, l1, l2, l3⟩ | ⟨l1, l2, l3⟩
      · simp (disch := omega) only [pn_le, show ¬ 4 ≤ i by omega, if_false, not_false_eq_true, true_implies, pn_cl, pn_in, true_and, g1, g3, n1z, n00, a1, l1, l3, if_true, f_X6_count_176, s_X6_count_176, f_X5_fullSlots_32, s_X5_fullSlots_32, nI_add, not_true_eq_false, false_implies, and_true]
        rw [show c + nI 0 = c from Int32.add_zero c]
        exact ⟨(ih c).1, (ih c).2.1, (ih c).2.2⟩
      · simp (disch := omega) only [pn_le, show ¬ 4 ≤ i by omega, if_false, not_false_eq_true, true_implies, pn_cl, pn_in, true_and, g1, g3, n1z, a1, l1, l3, f_X6_count_176, s_X6_count_176, f_X5_fullSlots_32, s_X5_fullSlots_32, nI_add, false_implies, and_true]
        exact ⟨(ih _).1, (ih _).2.1, (ih _).2.2⟩
theorem op_count {C off dear proved nw Dg dw F rl lg J tol row : Nat → Int32} {B : Nat} {nu : Nat → Nat → Int64} {sw ss wid siz : Nat → Int32} {cel : Nat → Int64} (Q : QW C off dear proved nw Dg dw F rl lg B) (S : SL nu sw ss wid siz cel) (H : JR J tol F row) (v1 : Int32) : ∃ a, f_X5_count C Dg nw J sw v1 = a ∧ s_X5_count C Dg nw J sw v1 ∧ f_X6_count F rl wid v1 = (upd F 0 (nI 0), a) ∧ s_X6_count F rl wid v1 := by
  obtain ⟨nH, nN, nF, nL, t, S0, R, H0, T, e, D, O⟩ := Q
  obtain ⟨h2, h3, k, s, a1, a2, a3, a4, -⟩ := D
  have fc := full_c (F := upd F 0 (nI 0)) (rl := rl) S ng_F ng_F 0 (nI 0) (by rw [ng_F_v]; omega) (by rw [ng_F_v]; omega) (by omega)
  refine ⟨_, rfl, ?_, ?_, ?_⟩
  · simp only [s_X5_count, s_X5_fullSlots, fc.2.2, implies_true]
  · have u5 : upd F 0 (nI 0) 5 = Dg 1 := by rw [pu_n _ _ (by omega), a2, a1]
    have u4 : upd F 0 (nI 0) 4 = Dg 2 := by rw [pu_n _ _ (by omega), a4, a3]
    have u3 : upd F 0 (nI 0) 3 = Dg 3 := by rw [pu_n _ _ (by omega)]; exact h3.symm
    have u16 : upd F 0 (nI 0) 16 = J 17 := by rw [pu_n _ _ (by omega)]; exact H.1.symm
    have c9 : (if C 9 = 0 then nI 0 else nI 1) = C 9 := by
      rcases R.2.2.2.2.2.2.2.2.2 with h | h
      · rw [h]; rfl
      · rw [h]; rfl
    unfold f_X6_count f_X5_count
    by_cases z0 : v1 = nI 0
    · rw [if_pos z0, if_pos z0]
      simp (disch := omega) only [pn_cl, e, eV_0, f_X4_time]
    by_cases z1 : v1 = nI 1
    · rw [if_neg z0, if_neg z0, if_pos z1, if_pos z1]
      simp (disch := omega) only [pn_cl, e, eV_11]
    by_cases z2 : v1 = nI 2
    · rw [if_neg z0, if_neg z0, if_neg z1, if_neg z1, if_pos z2, if_pos z2]
      simp (disch := omega) only [pn_cl, e, eV_12, f_X4_notes]
    by_cases z3 : v1 = nI 3
    · rw [if_neg z0, if_neg z0, if_neg z1, if_neg z1, if_neg z2, if_neg z2, if_pos z3, if_pos z3]
      simp (disch := omega) only [pn_cl, e, eV_13, f_X4_families]
    by_cases z4 : v1 = nI 4
    · rw [if_neg z0, if_neg z0, if_neg z1, if_neg z1, if_neg z2, if_neg z2, if_neg z3, if_neg z3, if_pos z4, if_pos z4]
      simp (disch := omega) only [pn_cl, e, eV_14, f_X4_letters]
    by_cases z5 : v1 = nI 5
    · rw [if_neg z0, if_neg z0, if_neg z1, if_neg z1, if_neg z2, if_neg z2, if_neg z3, if_neg z3, if_neg z4, if_neg z4, if_pos z5, if_pos z5]
      simp (disch := omega) only [u5]
    by_cases z6 : v1 = nI 6
    · rw [if_neg z0, if_neg z0, if_neg z1, if_neg z1, if_neg z2, if_neg z2, if_neg z3, if_neg z3, if_neg z4, if_neg z4, if_neg z5, if_neg z5, if_pos z6, if_pos z6]
      simp (disch := omega) only [u4]
    by_cases z7 : v1 = nI 7
    · rw [if_neg z0, if_neg z0, if_neg z1, if_neg z1, if_neg z2, if_neg z2, if_neg z3, if_neg z3, if_neg z4, if_neg z4, if_neg z5, if_neg z5, if_neg z6, if_neg z6, if_pos z7, if_pos z7]
      simp (disch := omega) only [pn_cl, e, eV_3]
    by_cases z8 : v1 = nI 8
    · rw [if_neg z0, if_neg z0, if_neg z1, if_neg z1, if_neg z2, if_neg z2, if_neg z3, if_neg z3, if_neg z4, if_neg z4, if_neg z5, if_neg z5, if_neg z6, if_neg z6, if_neg z7, if_neg z7, if_pos z8, if_pos z8]
      simp (disch := omega) only [pn_cl, e, eV_1, c9]
    by_cases z9 : v1 = nI 9
    · rw [if_neg z0, if_neg z0, if_neg z1, if_neg z1, if_neg z2, if_neg z2, if_neg z3, if_neg z3, if_neg z4, if_neg z4, if_neg z5, if_neg z5, if_neg z6, if_neg z6, if_neg z7, if_neg z7, if_neg z8, if_neg z8, if_pos z9, if_pos z9]
      simp (disch := omega) only [pn_cl, e, eV_2]
    by_cases z10 : v1 = nI 10
    · rw [if_neg z0, if_neg z0, if_neg z1, if_neg z1, if_neg z2, if_neg z2, if_neg z3, if_neg z3, if_neg z4, if_neg z4, if_neg z5, if_neg z5, if_neg z6, if_neg z6, if_neg z7, if_neg z7, if_neg z8, if_neg z8, if_neg z9, if_neg z9, if_pos z10, if_pos z10]
      simp (disch := omega) only [u3]
    by_cases z11 : v1 = nI 11
    · rw [if_neg z0, if_neg z0, if_neg z1, if_neg z1, if_neg z2, if_neg z2, if_neg z3, if_neg z3, if_neg z4, if_neg z4, if_neg z5, if_neg z5, if_neg z6, if_neg z6, if_neg z7, if_neg z7, if_neg z8, if_neg z8, if_neg z9, if_neg z9, if_neg z10, if_neg z10, if_pos z11, if_pos z11]
      simp (disch := omega) only [u16]
    by_cases z12 : v1 = nI 12
    · rw [if_neg z0, if_neg z0, if_neg z1, if_neg z1, if_neg z2, if_neg z2, if_neg z3, if_neg z3, if_neg z4, if_neg z4, if_neg z5, if_neg z5, if_neg z6, if_neg z6, if_neg z7, if_neg z7, if_neg z8, if_neg z8, if_neg z9, if_neg z9, if_neg z10, if_neg z10, if_neg z11, if_neg z11, if_pos z12, if_pos z12]
      simp (disch := omega) only [fc.1, f_X5_fullSlots]
    rw [if_neg z0, if_neg z0, if_neg z1, if_neg z1, if_neg z2, if_neg z2, if_neg z3, if_neg z3, if_neg z4, if_neg z4, if_neg z5, if_neg z5, if_neg z6, if_neg z6, if_neg z7, if_neg z7, if_neg z8, if_neg z8, if_neg z9, if_neg z9, if_neg z10, if_neg z10, if_neg z11, if_neg z11, if_neg z12, if_neg z12]
  · simp only [s_X6_count, fc.2.1, implies_true]
