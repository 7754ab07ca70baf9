theorem nI_xor (a b : Nat) : nI a ^^^ nI b = nI (a ^^^ b) := by
  apply Int32.toBitVec_inj.mp
  rw [Int32.toBitVec_xor]
  show BitVec.ofNat 32 a ^^^ BitVec.ofNat 32 b = BitVec.ofNat 32 (a ^^^ b)
  exact (BitVec.ofNat_xor).symm
theorem fm_eq {s : Nat} (hs : s < 2 ^ 31) : f_J9_floorMod_7cf53 (nI s) (nI 60) = nI (s % 60) := by
  unfold f_J9_floorMod_7cf53
  rw [nI_xor]
  have h : s ^^^ 60 < 2 ^ 31 := Nat.xor_lt_two_pow hs (by omega)
  simp (disch := omega) only [pn_ge0, if_true, pk_rem]
/-- the class's ring and the reference's list -/
def DR (Dg dw F lg : Nat → Int32) (nN B : Nat) : Prop := F 2 = 0 ∧ Dg 3 = F 3 ∧ ∃ k s, Dg 1 = nI k ∧ F 5 = nI k ∧ Dg 2 = nI s ∧ F 4 = nI s ∧ k ≤ 60 ∧ k ≤ s ∧ s ≤ B ∧ (∀ i j, i < k → j < 6 → lg (6 * i + j) = dw ((s - k + i) % 60 * 6 + j)) ∧ (∀ i, i < k → ∃ x, x < nN ∧ lg (6 * i + 3) = nI x)
def MD (d : Bool) (Dg dw F lg : Nat → Int32) (nN B : Nat) : Prop := (d = true → DR Dg dw F lg nN B) ∧ (d = false → ¬ F 2 = 0)
def KP (d : Bool) (Dg dw F lg Dg' dw' F' lg' : Nat → Int32) : Prop := (d = false → F' = F ∧ lg' = lg ∧ Dg' = Dg ∧ dw' = dw) ∧ (∀ i, i ≠ 3 → i ≠ 4 → i ≠ 5 → F' i = F i)
theorem KP.rf {d : Bool} {Dg dw F lg : Nat → Int32} : KP d Dg dw F lg Dg dw F lg := ⟨fun _ => ⟨rfl, rfl, rfl, rfl⟩, fun _ _ _ _ => rfl⟩
theorem KP.tr {d : Bool} {Dg dw F lg Dg1 dw1 F1 lg1 Dg2 dw2 F2 lg2 : Nat → Int32} (a : KP d Dg dw F lg Dg1 dw1 F1 lg1) (b : KP d Dg1 dw1 F1 lg1 Dg2 dw2 F2 lg2) : KP d Dg dw F lg Dg2 dw2 F2 lg2 := by
  refine ⟨fun h => ?_, fun i h3 h4 h5 => (b.2 i h3 h4 h5).trans (a.2 i h3 h4 h5)⟩
  obtain ⟨a1, a2, a3, a4⟩ := a.1 h
  obtain ⟨b1, b2, b3, b4⟩ := b.1 h
  exact ⟨b1.trans a1, b2.trans a2, b3.trans a3, b4.trans a4⟩
theorem MD_lr {d : Bool} {Dg dw F lg Dg' F' : Nat → Int32} {nN nN' B B' : Nat} (M : MD d Dg dw F lg nN B) (L : LR d Dg F Dg' F') (h : nN ≤ nN') (hB : B ≤ B') : MD d Dg' dw F' lg nN' B' ∧ KP d Dg dw F lg Dg' dw F' lg := by
  refine ⟨⟨fun hd => ?_, fun hd => ?_⟩, fun hd => ?_, fun i h3 _ _ => (L.1 i h3).1⟩
  · obtain ⟨h2, h3, k, s, a1, a2, a3, a4, a5, a6, a7, a8, a9⟩ := M.1 hd
    refine ⟨by rw [(L.1 2 (by decide)).1]; exact h2, L.2.1 hd h2 h3, k, s, by rw [(L.1 1 (by decide)).2]; exact a1, by rw [(L.1 5 (by decide)).1]; exact a2, by rw [(L.1 2 (by decide)).2]; exact a3, by rw [(L.1 4 (by decide)).1]; exact a4, a5, a6, by omega, a8, fun i hi => ?_⟩
    obtain ⟨x, x1, x2⟩ := a9 i hi
    exact ⟨x, by omega, x2⟩
  · rw [(L.1 2 (by decide)).1]; exact M.2 hd
  · exact ⟨L.2.2.1 (M.2 hd), rfl, L.2.2.2 hd, rfl⟩
theorem MD_up {d : Bool} {Dg dw F lg : Nat → Int32} {nN nN' B B' : Nat} (M : MD d Dg dw F lg nN B) (h : nN ≤ nN') (hB : B ≤ B') : MD d Dg dw F lg nN' B' := (MD_lr M LR.rf h hB).1
theorem shown73 {v F : Nat → Int32} {v2 v3 v4 v5 v6 : Int32} : ∀ (n k : Nat) (lg : Nat → Int32), 354 - k < n → k ≤ 354 → f_X6_shown_73 n v F lg v2 v3 v4 v5 v6 (nI k) = f_X6_shown_114 v (upd F 5 (F 5 - nI 1)) (fun i => if k ≤ i ∧ i < 354 then lg (i + 6) else lg i) v2 v3 v4 v5 v6 ∧ (s_X6_shown_114 v (upd F 5 (F 5 - nI 1)) (fun i => if k ≤ i ∧ i < 354 then lg (i + 6) else lg i) v2 v3 v4 v5 v6 → s_X6_shown_73 n v F lg v2 v3 v4 v5 v6 (nI k))
  | 0, k, lg, h, _ => by omega
  | n + 1, k, lg, h, h2 => by
    rw [f_X6_shown_73, s_X6_shown_73]
    by_cases e : k = 354
    · subst e
      have e2 : (fun i => if 354 ≤ i ∧ i < 354 then lg (i + 6) else lg i) = lg := by
        funext i; rw [if_neg (by omega)]
      rw [e2]
      simp (disch := omega) only [pn_le, Nat.le_refl, if_true]
      exact ⟨trivial, fun h => ⟨fun _ => h, fun q => absurd trivial q⟩⟩
    · have ih := shown73 (v := v) (F := F) (v2 := v2) (v3 := v3) (v4 := v4) (v5 := v5) (v6 := v6) n (k + 1) (upd lg k (lg (k + 6))) (by omega) (by omega)
      have e2 : (fun i => if k + 1 ≤ i ∧ i < 354 then upd lg k (lg (k + 6)) (i + 6) else upd lg k (lg (k + 6)) i) = (fun i => if k ≤ i ∧ i < 354 then lg (i + 6) else lg i) := by
        funext i
        by_cases q : i = k
        · subst q
          rw [if_neg (by omega), if_pos (by omega), pu_s]
        · by_cases q2 : k ≤ i ∧ i < 354
          · rw [if_pos q2, if_pos (by omega), pu_n _ _ (by omega)]
          · rw [if_neg q2, if_neg (by omega), pu_n _ _ q]
      rw [e2] at ih
      simp (disch := omega) only [pn_le, pn_cl, show ¬ 354 ≤ k by omega, if_false, nI_add, pn_in]
      exact ⟨ih.1, fun h => ⟨fun q => absurd q id, fun _ => ⟨trivial, trivial, ih.2 h⟩⟩⟩
def l6 (a0 a1 a2 a3 a4 a5 : Int32) : Nat → Int32 := fun j => if j = 5 then a5 else if j = 4 then a4 else if j = 3 then a3 else if j = 2 then a2 else if j = 1 then a1 else a0
theorem upd6 (f : Nat → Int32) (k : Nat) (a0 a1 a2 a3 a4 a5 : Int32) : upd (upd (upd (upd (upd (upd f k a0) (k + 1) a1) (k + 2) a2) (k + 3) a3) (k + 4) a4) (k + 5) a5 = blk f k 6 (l6 a0 a1 a2 a3 a4 a5) := by
  rw [blk_1 f k a0, blk_s, blk_s, blk_s, blk_s, blk_s]
  rfl
theorem upd6' (f : Nat → Int32) (k : Nat) (a0 a1 a2 a3 a4 a5 : Int32) : upd (upd (upd (upd (upd (upd f (k + 0) a0) (k + 1) a1) (k + 2) a2) (k + 3) a3) (k + 4) a4) (k + 5) a5 = blk f k 6 (l6 a0 a1 a2 a3 a4 a5) := upd6 f k a0 a1 a2 a3 a4 a5
theorem shown114 {v F lg : Nat → Int32} {k : Nat} {v2 v3 v4 v5 v6 : Int32} (h : F 5 = nI k) (hk : k < 60) : f_X6_shown_114 v F lg v2 v3 v4 v5 v6 = (v, upd F 5 (nI (k + 1)), blk lg (6 * k) 6 (l6 (v 0) v3 v2 v4 v5 v6), v6) ∧ s_X6_shown_114 v F lg v2 v3 v4 v5 v6 := by
  unfold f_X6_shown_114 s_X6_shown_114
  simp (disch := omega) only [h, pk_mul, nI_add, pn_cl, pn_in, and_self, and_true]
  rw [upd6]
set_option maxRecDepth 4000 in
theorem log_st {v Dg dw F lg : Nat → Int32} {nN B x : Nat} {v2 v3 v5 v6 : Int32} (D : DR Dg dw F lg nN B) (hB : B < 2 ^ 30) (hx : x < nN) :
    ∃ Dg' dw' F' lg' : Nat → Int32, f_X0_add Dg dw (v 0) v3 v2 (nI x) v5 v6 = (Dg', dw') ∧ s_X0_add Dg dw (v 0) v3 v2 (nI x) v5 v6 ∧ f_X6_shown_41 v F lg v2 v3 (nI x) v5 v6 = (v, F', lg', v6) ∧ s_X6_shown_41 v F lg v2 v3 (nI x) v5 v6 ∧ DR Dg' dw' F' lg' nN (B + 1) ∧ (∀ i, i ≠ 3 → i ≠ 4 → i ≠ 5 → F' i = F i) := by
  obtain ⟨h2, h3, k, s, a1, a2, a3, a4, a5, a6, a7, a8, a9⟩ := D
  have sa : s_X0_add Dg dw (v 0) v3 v2 (nI x) v5 v6 := by
    unfold s_X0_add
    rw [a3, fm_eq (by omega)]
    simp (disch := omega) only [pk_mul, nI_add, pn_in, and_true]
    exact (by decide : ¬ (nI 60 = 0))
  have fw : upd (upd (upd (upd (upd (upd dw (nI (s % 60) * nI 6 + nI 0).toNatClampNeg (v 0)) (nI (s % 60) * nI 6 + nI 1).toNatClampNeg v3) (nI (s % 60) * nI 6 + nI 2).toNatClampNeg v2) (nI (s % 60) * nI 6 + nI 3).toNatClampNeg (nI x)) (nI (s % 60) * nI 6 + nI 4).toNatClampNeg v5) (nI (s % 60) * nI 6 + nI 5).toNatClampNeg v6 = blk dw (s % 60 * 6) 6 (l6 (v 0) v3 v2 (nI x) v5 v6) := by
    simp (disch := omega) only [pk_mul, nI_add, pn_cl]
    rw [upd6']
  by_cases hk : k = 60
  · subst hk
    refine ⟨upd Dg 2 (nI (s + 1)), blk dw (s % 60 * 6) 6 (l6 (v 0) v3 v2 (nI x) v5 v6), upd (upd (upd F 4 (nI (s + 1))) 5 (nI 59)) 5 (nI 60), blk (fun i => if 0 ≤ i ∧ i < 354 then lg (i + 6) else lg i) (6 * 59) 6 (l6 (v 0) v3 v2 (nI x) v5 v6), ?_, sa, ?_, ?_, ?_, ?_⟩
    · unfold f_X0_add
      rw [a3, fm_eq (by omega), fw, pu_n _ _ (by omega), a1, nI_add]
      exact if_pos (nI_le (by omega) (by omega))
    · unfold f_X6_shown_41
      rw [if_pos h2, a4, nI_add, pu_n _ _ (by omega), a2, if_pos rfl, (shown73 ng_F 0 lg (by rw [ng_F_v]; omega) (by omega)).1]
      have e5 : upd F 4 (nI (s + 1)) 5 - nI 1 = nI 59 := by rw [pu_n _ _ (by omega), a2, pn_sub (by omega)]
      rw [e5]
      exact (shown114 (k := 59) (pu_s _ _ _) (by omega)).1
    · unfold s_X6_shown_41
      rw [a4, nI_add, pu_n _ _ (by omega), a2]
      refine fun _ => ⟨fun _ => (shown73 ng_F 0 lg (by rw [ng_F_v]; omega) (by omega)).2 ?_, fun h => absurd rfl h⟩
      have e5 : upd F 4 (nI (s + 1)) 5 - nI 1 = nI 59 := by rw [pu_n _ _ (by omega), a2, pn_sub (by omega)]
      rw [e5]
      exact (shown114 (k := 59) (pu_s _ _ _) (by omega)).2
    · refine ⟨by rw [pu_n _ _ (by omega), pu_n _ _ (by omega), pu_n _ _ (by omega)]; exact h2, by rw [pu_n _ _ (by omega), pu_n _ _ (by omega), pu_n _ _ (by omega), pu_n _ _ (by omega)]; exact h3, 60, s + 1, by rw [pu_n _ _ (by omega)]; exact a1, pu_s _ _ _, pu_s _ _ _, by rw [pu_n _ _ (by omega), pu_n _ _ (by omega), pu_s], by omega, by omega, by omega, fun i j hi hj => ?_, fun i hi => ?_⟩
      · rcases Nat.lt_or_ge i 59 with c | c
        · rw [blk_out (by omega), if_pos (by omega), blk_out (by omega)]
          have := a8 (i + 1) j (by omega) hj
          rw [show 6 * i + j + 6 = 6 * (i + 1) + j by omega, this]
          exact congrArg dw (by omega)
        · have : i = 59 := by omega
          subst this
          rw [blk_in (by omega) (by omega), blk_in (by omega) (by omega)]
          exact congrArg _ (by omega)
      · rcases Nat.lt_or_ge i 59 with c | c
        · rw [blk_out (by omega), if_pos (by omega)]
          have := a9 (i + 1) (by omega)
          rw [show 6 * i + 3 + 6 = 6 * (i + 1) + 3 by omega]; exact this
        · have : i = 59 := by omega
          subst this
          rw [blk_in (by omega) (by omega)]
          exact ⟨x, hx, rfl⟩
    · intro i i3 i4 i5
      rw [pu_n _ _ i5, pu_n _ _ i5, pu_n _ _ i4]
  · refine ⟨upd (upd Dg 2 (nI (s + 1))) 1 (nI (k + 1)), blk dw (s % 60 * 6) 6 (l6 (v 0) v3 v2 (nI x) v5 v6), upd (upd F 4 (nI (s + 1))) 5 (nI (k + 1)), blk lg (6 * k) 6 (l6 (v 0) v3 v2 (nI x) v5 v6), ?_, sa, ?_, ?_, ?_, ?_⟩
    · unfold f_X0_add
      rw [a3, fm_eq (by omega), fw, pu_n _ _ (by omega), a1, nI_add, nI_add]
      exact if_neg (fun h => by rw [pn_le (by omega) (by omega)] at h; omega)
    · unfold f_X6_shown_41
      rw [if_pos h2, a4, nI_add, if_neg (by rw [pu_n _ _ (by omega), a2, pn_eq (by omega) (by omega)]; exact hk)]
      exact (shown114 (by rw [pu_n _ _ (by omega)]; exact a2) (by omega)).1
    · unfold s_X6_shown_41
      rw [a4, nI_add]
      refine fun _ => ⟨fun h => ?_, fun _ => (shown114 (by rw [pu_n _ _ (by omega)]; exact a2) (by omega)).2⟩
      rw [pu_n _ _ (by omega), a2, pn_eq (by omega) (by omega)] at h
      exact absurd h hk
    · refine ⟨by rw [pu_n _ _ (by omega), pu_n _ _ (by omega)]; exact h2, by rw [pu_n _ _ (by omega), pu_n _ _ (by omega), pu_n _ _ (by omega), pu_n _ _ (by omega)]; exact h3, k + 1, s + 1, pu_s _ _ _, pu_s _ _ _, by rw [pu_n _ _ (by omega), pu_s], by rw [pu_n _ _ (by omega), pu_s], by omega, by omega, by omega, fun i j hi hj => ?_, fun i hi => ?_⟩
      · rcases Nat.lt_or_ge i k with c | c
        · rw [blk_out (by omega), blk_out (by omega), a8 i j c hj]
          exact congrArg dw (by omega)
        · have : i = k := by omega
          subst this
          rw [blk_in (by omega) (by omega), blk_in (by omega) (by omega)]
          exact congrArg _ (by omega)
      · rcases Nat.lt_or_ge i k with c | c
        · rw [blk_out (by omega)]; exact a9 i c
        · have : i = k := by omega
          subst this
          rw [blk_in (by omega) (by omega)]
          exact ⟨x, hx, show l6 (v 0) v3 v2 (nI x) v5 v6 (6 * i + 3 - 6 * i) = nI x by rw [show 6 * i + 3 - 6 * i = 3 by omega]; rfl⟩
    · intro i i3 i4 i5
      rw [pu_n _ _ i5, pu_n _ _ i4]
