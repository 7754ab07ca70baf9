theorem sl_c (v : Int32) : (f_X5_isSlot v = nI 0 ∧ f_X6_isSlot v = nI 0 ∧ s_X5_isSlot v ∧ s_X6_isSlot v) ∨ ∃ s, s < 4 ∧ v = nI s ∧ f_X5_isSlot v = nI 1 ∧ f_X6_isSlot v = nI 1 ∧ s_X5_isSlot v ∧ s_X6_isSlot v := by
  have s6 : s_X6_isSlot v := in0
  have s5 : s_X5_isSlot v := by
    unfold s_X5_isSlot
    intro a b
    obtain ⟨j, hj, rfl⟩ := nI_of a
    rw [pn_le (by omega) hj] at b
    exact vp_in_nI (by omega) (by omega)
  rcases iv_c (n := 3) (by omega) v with ⟨h1, h2⟩ | ⟨j, hj, rfl, h1⟩
  · left
    refine ⟨?_, h1, s5, s6⟩
    unfold f_X5_isSlot
    rcases sg v with h | ⟨j, hj, rfl⟩
    · rw [if_pos h]
    · have c : 4 ≤ j := (Nat.lt_or_ge j 4).elim (fun c => absurd ⟨j, by omega, rfl⟩ h2) id
      rw [if_neg (nI_pos hj), if_pos (nI_le c hj)]
  · right
    refine ⟨j, by omega, rfl, ?_, h1, s5, s6⟩
    simp (disch := omega) only [f_X5_isSlot, pn_lt0, pn_le, show ¬ 4 ≤ j by omega, if_false]
theorem neg_le {v : Int32} {n : Nat} (h : v < 0) (hn : n < 2 ^ 31) : v ≤ nI n := by
  rw [Int32.le_iff_toInt_le, nI_toInt hn]
  rw [Int32.lt_iff_toInt_lt] at h
  have : (0 : Int32).toInt = 0 := rfl
  omega
theorem neg_ge {v : Int32} (h : v < 0) : ¬ 0 ≤ v := by
  rw [Int32.le_iff_toInt_le]
  rw [Int32.lt_iff_toInt_lt] at h
  have : (0 : Int32).toInt = 0 := rfl
  omega
theorem fillL6 {nn : Nat} {v : Int64} (hN : nn < 2 ^ 31) : ∀ (n k : Nat) (fb : Nat → Int64), nn - k < n → k ≤ nn → f_J7_fillL_6 n fb nn v (nI k) (nI nn) = (fun i => if k ≤ i ∧ i < nn then v else fb i) ∧ s_J7_fillL_6 n fb nn v (nI k) (nI nn)
  | 0, k, fb, h, _ => by omega
  | n + 1, k, fb, h, hk => by
    rw [f_J7_fillL_6, s_J7_fillL_6]
    by_cases e : k = nn
    · subst e
      simp (disch := omega) only [pn_le, Nat.le_refl, if_true, not_true_eq_false, false_implies, and_true]
      funext i
      rw [if_neg (by omega)]
    · have ih := fillL6 (v := v) hN n (k + 1) (vp_updL fb k v) (by omega) (by omega)
      simp (disch := omega) only [pn_le, show ¬ nn ≤ k by omega, if_false, not_false_eq_true, true_implies, pn_cl, pn_in, true_and, nI_add]
      refine ⟨ih.1.trans ?_, ih.2⟩
      funext i
      by_cases e2 : i = k
      · subst e2; rw [if_neg (by omega), pk_uLs, if_pos (by omega)]
      · rw [pk_uLn e2]
        by_cases q : k + 1 ≤ i ∧ i < nn
        · rw [if_pos q, if_pos (by omega)]
        · rw [if_neg q, if_neg (by omega)]
theorem fillI5 {nn : Nat} {v : Int32} (hN : nn < 2 ^ 31) : ∀ (n k : Nat) (fb : Nat → Int32), nn - k < n → k ≤ nn → f_J7_fillI_5 n fb nn v (nI k) (nI nn) = (fun i => if k ≤ i ∧ i < nn then v else fb i) ∧ s_J7_fillI_5 n fb nn v (nI k) (nI nn)
  | 0, k, fb, h, _ => by omega
  | n + 1, k, fb, h, hk => by
    rw [f_J7_fillI_5, s_J7_fillI_5]
    by_cases e : k = nn
    · subst e
      simp (disch := omega) only [pn_le, Nat.le_refl, if_true, not_true_eq_false, false_implies, and_true]
      funext i
      rw [if_neg (by omega)]
    · have ih := fillI5 (v := v) hN n (k + 1) (upd fb k v) (by omega) (by omega)
      simp (disch := omega) only [pn_le, show ¬ nn ≤ k by omega, if_false, not_false_eq_true, true_implies, pn_cl, pn_in, true_and, nI_add]
      refine ⟨ih.1.trans ?_, ih.2⟩
      funext i
      by_cases e2 : i = k
      · subst e2; rw [if_neg (by omega), pu_s, if_pos (by omega)]
      · rw [pu_n _ _ e2]
        by_cases q : k + 1 ≤ i ∧ i < nn
        · rw [if_pos q, if_pos (by omega)]
        · rw [if_neg q, if_neg (by omega)]
theorem row54 {F wid siz : Nat → Int32} {s : Nat} (hs : s < 4) : ∀ (n k : Nat) (cel : Nat → Int64), 60 - k < n → k ≤ 60 → f_X6_row_54 n F wid siz cel (nI s) (nI k) = (F, wid, siz, (fun i => if 60 * s + k ≤ i ∧ i < 60 * s + 60 then 0 else cel i), nI 0) ∧ s_X6_row_54 n F wid siz cel (nI s) (nI k)
  | 0, k, cel, h, _ => by omega
  | n + 1, k, cel, h, hk => by
    rw [f_X6_row_54, s_X6_row_54]
    by_cases e : k = 60
    · subst e
      simp (disch := omega) only [pn_le, Nat.le_refl, if_true, not_true_eq_false, false_implies, and_true]
      congr 4
      funext i
      rw [if_neg (by omega)]
    · have ih := row54 (F := F) (wid := wid) (siz := siz) hs n (k + 1) (vp_updL cel (60 * s + k) 0) (by omega) (by omega)
      simp (disch := omega) only [pn_le, show ¬ 60 ≤ k by omega, if_false, not_false_eq_true, true_implies, pk_mul, pn_cl, pn_in, true_and, nI_add]
      refine ⟨ih.1.trans ?_, ih.2⟩
      congr 4
      funext i
      by_cases e2 : i = 60 * s + k
      · subst e2; rw [if_neg (by omega), pk_uLs, if_pos (by omega)]
      · rw [pk_uLn e2]
        by_cases q : 60 * s + (k + 1) ≤ i ∧ i < 60 * s + 60
        · rw [if_pos q, if_pos (by omega)]
        · rw [if_neg q, if_neg (by omega)]
/-- the slots of both -/
def SL (nu : Nat → Nat → Int64) (sw ss wid siz : Nat → Int32) (cel : Nat → Int64) : Prop := ∀ s, s < 4 → sw s = wid s ∧ (wid s = (-1) ∨ ∃ w, w < 4 ∧ wid s = nI w) ∧ (∃ z, z ≤ 60 ∧ ss s = nI z ∧ siz s = nI z) ∧ ∀ i, i < 60 → nu s i = cel (60 * s + i)
theorem va_s {α : Type} (f : Nat → α) (k : Nat) (v : α) : va_up f k v k = v := if_pos rfl
theorem va_n {α : Type} (f : Nat → α) {k j : Nat} (v : α) (h : j ≠ k) : va_up f k v j = f j := if_neg h
theorem m1_ge : ¬ (0 : Int32) ≤ (-1) := by decide
theorem m1_lt : (-1 : Int32) < 0 := by decide
section SLO
variable {nu : Nat → Nat → Int64} {sw ss wid siz F : Nat → Int32} {cel : Nat → Int64}
theorem la_c {wd : Int32} (h : wd = (-1) ∨ ∃ w, w < 4 ∧ wd = nI w) : (wd = (-1) ∧ f_X3_isLaid wd = nI 0 ∧ (0 ≤ wd) = False ∧ (wd < 0) = True) ∨ (f_X3_isLaid wd = nI 1 ∧ (0 ≤ wd) = True ∧ (wd < 0) = False) := by
  rcases h with rfl | ⟨w, hw, rfl⟩
  · left
    exact ⟨rfl, if_pos rfl, eq_false m1_ge, eq_true m1_lt⟩
  · right
    refine ⟨?_, pn_ge0 (by omega), pn_lt0 (by omega)⟩
    unfold f_X3_isLaid
    exact if_neg (by rw [pn_m1c w (by omega)]; exact id)
theorem op_row (S : SL nu sw ss wid siz cel) (v1 v2 v3 : Int32) : ∃ (nu' : Nat → Nat → Int64) (sw' ss' wid' siz' : Nat → Int32) (cel' : Nat → Int64) (a : Int32), f_X5_row nu sw ss v1 v2 v3 = (nu', sw', ss', a) ∧ s_X5_row nu sw ss v1 v2 v3 ∧ f_X6_row F wid siz cel v1 v2 v3 = (upd F 0 (nI 0), wid', siz', cel', a) ∧ s_X6_row F wid siz cel v1 v2 v3 ∧ SL nu' sw' ss' wid' siz' cel' := by
  rcases sl_c v1 with ⟨g1, g2, g3, g4⟩ | ⟨s, hs, rfl, g1, g2, g3, g4⟩
  · refine ⟨nu, sw, ss, wid, siz, cel, (-2), ?_, ?_, ?_, ?_, S⟩
    · simp only [f_X5_row, g1, n00, if_true]
    · simp only [s_X5_row, g1, n00, g3, not_true_eq_false, false_implies, and_true]
    · simp only [f_X6_row, g2, n00, if_true]
    · simp only [s_X6_row, g2, g4, n00, not_true_eq_false, false_implies, and_true]
  rcases iv_c (n := 3) (by omega) v2 with ⟨h1, -⟩ | ⟨w, hw, rfl, h1⟩
  · refine ⟨nu, sw, ss, wid, siz, cel, (-2), ?_, ?_, ?_, ?_, S⟩
    · simp only [f_X5_row, g1, n1z, if_false, wi, h1, n00, if_true]
    · simp only [s_X5_row, g3, wi, h1, n00, not_true_eq_false, false_implies, implies_true, and_true]
    · simp only [f_X6_row, g2, n1z, if_false, h1, n00, if_true]
    · simp only [s_X6_row, g4, h1, n00, not_true_eq_false, false_implies, implies_true, and_true]
  rcases sg v3 with h | ⟨z, hz, rfl⟩
  · have h2 : v3 ≤ nI 60 := neg_le h (by omega)
    have h3 := neg_ge h
    refine ⟨nu, sw, ss, wid, siz, cel, (-3), ?_, ?_, ?_, ?_, S⟩
    · simp only [f_X5_row, g1, n1z, if_false, wi, h1, h2, if_true, h3]
    · simp only [s_X5_row, g3, h3, false_implies, implies_true, and_true]
    · simp only [f_X6_row, g2, n1z, if_false, h1, h2, if_true, h3]
    · simp only [s_X6_row, g4, h3, false_implies, implies_true, and_true]
  rcases Nat.lt_or_ge 60 z with c | c
  · have h2 : ¬ nI z ≤ nI 60 := by rw [pn_le hz (by omega)]; omega
    refine ⟨nu, sw, ss, wid, siz, cel, (-2), ?_, ?_, ?_, ?_, S⟩
    · simp only [f_X5_row, g1, n1z, if_false, wi, h1, h2]
    · simp only [s_X5_row, g3, h2, false_implies, implies_true, and_true]
    · simp only [f_X6_row, g2, n1z, if_false, h1, h2]
    · simp only [s_X6_row, g4, h2, false_implies, implies_true, and_true]
  · have h2 : nI z ≤ nI 60 := by rw [pn_le hz (by omega)]; exact c
    have h3 : (0 : Int32) ≤ nI z := nI_pos' hz
    have h4 : ¬ nI z < 0 := nI_pos hz
    have fl := fillL6 (nn := 60) (v := 0) (by omega) ng_F 0 (nu s) (by rw [ng_F_v]; omega) (by omega)
    have el : f_X3_lay (nu s) (sw s) (ss s) (nI w) (nI z) = ((fun i => if 0 ≤ i ∧ i < 60 then 0 else nu s i), nI w, nI z) := by
      unfold f_X3_lay f_X3_lay_19
      rw [if_neg h4, if_pos h2]
      exact congrArg (fun q => (q, nI w, nI z)) fl.1
    have sl : s_X3_lay (nu s) (sw s) (ss s) (nI w) (nI z) := fun _ _ => ⟨fl.2, trivial⟩
    have rr := row54 (F := upd F 0 (nI 0)) (wid := upd wid s (nI w)) (siz := upd siz s (nI z)) hs ng_F 0 cel (by rw [ng_F_v]; omega) (by omega)
    refine ⟨va_up nu s (fun i => if 0 ≤ i ∧ i < 60 then 0 else nu s i), va_up sw s (nI w), va_up ss s (nI z), upd wid s (nI w), upd siz s (nI z), (fun i => if 60 * s + 0 ≤ i ∧ i < 60 * s + 60 then 0 else cel i), nI 0, ?_, ?_, ?_, ?_, ?_⟩
    · simp (disch := omega) only [f_X5_row, g1, n1z, if_false, wi, h1, h2, if_true, h3, pn_cl, el]
    · simp (disch := omega) only [s_X5_row, g3, pn_cl, pn_in, sl, implies_true, and_true]
    · simp (disch := omega) only [f_X6_row, g2, n1z, if_false, h1, h2, if_true, h3, pn_cl, rr.1]
    · simp (disch := omega) only [s_X6_row, g4, pn_cl, pn_in, rr.2, implies_true, and_true]
    · intro q hq
      by_cases e : q = s
      · subst e
        rw [va_s, va_s, va_s, pu_s, pu_s]
        refine ⟨rfl, Or.inr ⟨w, by omega, rfl⟩, ⟨z, c, rfl, rfl⟩, fun i hi => ?_⟩
        dsimp only
        rw [if_pos (by omega), if_pos (by omega)]
      · obtain ⟨a1, a2, a3, a4⟩ := S q hq
        rw [va_n _ _ e, va_n _ _ e, va_n _ _ e, pu_n _ _ e, pu_n _ _ e]
        refine ⟨a1, a2, a3, fun i hi => ?_⟩
        dsimp only
        rw [if_neg (by omega)]
        exact a4 i hi
theorem op_tear (S : SL nu sw ss wid siz cel) (v1 : Int32) : ∃ (sw' ss' wid' : Nat → Int32) (a : Int32), f_X5_tear sw ss v1 = (sw', ss', a) ∧ s_X5_tear sw ss v1 ∧ f_X6_tear F wid v1 = (upd F 0 (nI 0), wid', a) ∧ s_X6_tear F wid v1 ∧ SL nu sw' ss' wid' siz cel ∧ (a = 0 ∨ a = 1) := by
  rcases sl_c v1 with ⟨g1, g2, g3, g4⟩ | ⟨s, hs, rfl, g1, g2, g3, g4⟩
  · refine ⟨sw, ss, wid, nI 0, ?_, ?_, ?_, ?_, S, Or.inl rfl⟩
    · simp only [f_X5_tear, g1, n00, if_true]
    · simp only [s_X5_tear, g1, n00, g3, not_true_eq_false, false_implies, and_true]
    · simp only [f_X6_tear, g2, n00, if_true]
    · simp only [s_X6_tear, g2, g4, n00, not_true_eq_false, false_implies, and_true]
  obtain ⟨a1, a2, a3, a4⟩ := S s hs
  rcases la_c a2 with ⟨b0, b1, b2, b3⟩ | ⟨b1, b2, b3⟩
  · refine ⟨sw, ss, wid, nI 0, ?_, ?_, ?_, ?_, S, Or.inl rfl⟩
    · simp (disch := omega) only [f_X5_tear, g1, n1z, if_false, pn_cl, a1, b1, n00, if_true]
    · simp (disch := omega) only [s_X5_tear, g3, pn_cl, pn_in, implies_true, and_true]
    · simp (disch := omega) only [f_X6_tear, g2, n1z, if_false, pn_cl, b2]
    · simp (disch := omega) only [s_X6_tear, g4, pn_cl, pn_in, implies_true, and_true]
  · refine ⟨va_up sw s (-1), va_up ss s (ss s), upd wid s (-1), nI 1, ?_, ?_, ?_, ?_, ?_, Or.inr rfl⟩
    · simp (disch := omega) only [f_X5_tear, g1, n1z, if_false, pn_cl, a1, b1]
    · simp (disch := omega) only [s_X5_tear, g3, pn_cl, pn_in, implies_true, and_true]
    · simp (disch := omega) only [f_X6_tear, g2, n1z, if_false, pn_cl, b2, if_true]
    · simp (disch := omega) only [s_X6_tear, g4, pn_cl, pn_in, implies_true, and_true]
    · intro q hq
      by_cases e : q = s
      · subst e
        rw [va_s, va_s, pu_s]
        exact ⟨rfl, Or.inl rfl, a3, a4⟩
      · rw [va_n _ _ e, va_n _ _ e, pu_n _ _ e]
        exact S q hq
theorem cut_e (w : Int32) (v : Int64) : f_X3_cut w v = f_X6_cut w v := by
  unfold f_X3_cut f_X6_cut
  rw [b_n0]
theorem op_write (S : SL nu sw ss wid siz cel) (v1 v2 : Int32) (v3 : Int64) : ∃ (nu' : Nat → Nat → Int64) (cel' : Nat → Int64) (a : Int32), f_X5_write nu sw ss v1 v2 v3 = (nu', a) ∧ s_X5_write nu sw ss v1 v2 v3 ∧ f_X6_write F wid siz cel v1 v2 v3 = (upd F 0 (nI 0), cel', a) ∧ s_X6_write F wid siz cel v1 v2 v3 ∧ SL nu' sw ss wid siz cel' := by
  rcases sl_c v1 with ⟨g1, g2, g3, g4⟩ | ⟨s, hs, rfl, g1, g2, g3, g4⟩
  · refine ⟨nu, cel, (-2), ?_, ?_, ?_, ?_, S⟩
    · simp only [f_X5_write, g1, n00, if_true]
    · simp only [s_X5_write, g1, n00, g3, not_true_eq_false, false_implies, and_true]
    · simp only [f_X6_write, g2, n00, if_true]
    · simp only [s_X6_write, g2, g4, n00, not_true_eq_false, false_implies, and_true]
  obtain ⟨a1, a2, ⟨z, hz, z1, z2⟩, a4⟩ := S s hs
  rcases la_c a2 with ⟨b0, b1, b2, b3⟩ | ⟨b1, b2, b3⟩
  · refine ⟨nu, cel, (-5), ?_, ?_, ?_, ?_, S⟩
    · simp (disch := omega) only [f_X5_write, g1, n1z, if_false, pn_cl, a1, b1, n00, if_true]
    · simp (disch := omega) only [s_X5_write, g3, pn_cl, pn_in, a1, b1, n00, not_true_eq_false, false_implies, implies_true, and_true]
    · simp (disch := omega) only [f_X6_write, g2, n1z, if_false, pn_cl, b2]
    · simp (disch := omega) only [s_X6_write, g4, pn_cl, pn_in, b2, false_implies, implies_true, and_true]
  · rcases in_c (n := z) (by omega) v2 with ⟨h1, h2⟩ | ⟨j, hj, rfl, h1⟩
    · have hp : f_X3_put (nu s) (sw s) (ss s) v2 v3 = (nu s, nI 0) := by
        unfold f_X3_put
        rcases sg v2 with h | ⟨j, hj, rfl⟩
        · rw [if_pos h]
        · have c : z ≤ j := (Nat.lt_or_ge j z).elim (fun c => absurd ⟨j, c, rfl⟩ h2) id
          rw [if_neg (nI_pos hj), z1, if_pos (nI_le c hj)]
      have sp : s_X3_put (nu s) (sw s) (ss s) v2 v3 := by
        unfold s_X3_put
        intro a b c
        obtain ⟨j, hj, rfl⟩ := nI_of a
        rw [pn_lt hj (by omega)] at c
        exact vp_in_nI c (by omega)
      refine ⟨va_up nu s (nu s), cel, (-6), ?_, ?_, ?_, ?_, ?_⟩
      · simp (disch := omega) only [f_X5_write, g1, n1z, if_false, pn_cl, a1, b1]
        rw [a1] at hp
        simp only [hp, f_X5_write_37, n00, if_true]
      · simp (disch := omega) only [s_X5_write, g3, pn_cl, pn_in, sp, s_X5_write_37, implies_true, and_true]
      · simp (disch := omega) only [f_X6_write, g2, n1z, if_false, pn_cl, b2, if_true, z2, h1, n00]
      · simp (disch := omega) only [s_X6_write, g4, pn_cl, pn_in, z2, h1, n00, not_true_eq_false, false_implies, implies_true, and_true]
      · intro q hq
        by_cases e : q = s
        · subst e; rw [va_s]; exact S q hq
        · rw [va_n _ _ e]; exact S q hq
    · have hp : f_X3_put (nu s) (sw s) (ss s) (nI j) v3 = (vp_updL (nu s) j (f_X3_cut (sw s) v3), nI 1) := by
        unfold f_X3_put
        simp (disch := omega) only [pn_lt0, if_false, z1, pn_le, show ¬ z ≤ j by omega, pn_lt, show j < 60 by omega, if_true, pn_cl]
      have sp : s_X3_put (nu s) (sw s) (ss s) (nI j) v3 := by
        unfold s_X3_put
        intro a b c
        exact vp_in_nI (by omega) (by omega)
      refine ⟨va_up nu s (vp_updL (nu s) j (f_X3_cut (sw s) v3)), vp_updL cel (60 * s + j) (f_X6_cut (wid s) v3), nI 0, ?_, ?_, ?_, ?_, ?_⟩
      · simp (disch := omega) only [f_X5_write, g1, n1z, if_false, pn_cl, hp, f_X5_write_37]
        rw [a1, b1, if_neg n1z]
      · simp (disch := omega) only [s_X5_write, g3, pn_cl, pn_in, sp, s_X5_write_37, implies_true, and_true]
      · simp (disch := omega) only [f_X6_write, g2, n1z, if_false, pn_cl, b2, if_true, z2, h1, pk_mul, nI_add]
      · simp (disch := omega) only [s_X6_write, g4, pn_cl, pn_in, pk_mul, nI_add, implies_true, and_true]
      · intro q hq
        obtain ⟨c1, c2, c3, c4⟩ := S q hq
        refine ⟨c1, c2, c3, fun i hi => ?_⟩
        by_cases e : q = s
        · subst e
          rw [va_s, a1, cut_e]
          by_cases e2 : i = j
          · subst e2; rw [pk_uLs, pk_uLs]
          · rw [pk_uLn e2, pk_uLn (by omega)]; exact c4 i hi
        · rw [va_n _ _ e, pk_uLn (by omega)]; exact c4 i hi
end SLO
