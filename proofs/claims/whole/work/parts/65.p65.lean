abbrev jA : Type := Nat → Int32
abbrev cT : Type := jA × jA × jA × jA × jA × (Nat → jA) × Nat
abbrev rT : Type := jA × jA × jA × jA × jA × jA × jA
abbrev rR : Type := jA × jA × jA × jA × jA × jA × jA × jA × Int32
abbrev rK : Type := jA → jA → jA → jA → jA → jA → jA → jA → jA → Int32 → Int32 → Int32 → Int32 → Int32 → Int32 → rR
abbrev rP : Type := jA → jA → jA → jA → jA → jA → jA → jA → jA → Int32 → Int32 → Int32 → Int32 → Int32 → Int32 → Prop
/-- both sides of a search that has found c states -/
def SR (C off dear proved : jA) (v2 v3 v4 v5 : Int32) (T c : Nat) : cT → rT → Prop
  | (J, bef, mov, nxt, chn, P, pn), (F, sta, sm, par, mv, dep, th) => CR C J nxt chn P pn c ∧ F 15 = nI c ∧ (J 10 = v2 ∧ J 11 = v3 ∧ J 12 = v4 ∧ J 13 = v5) ∧ ¬ F 2 = 0 ∧ NZ th ∧
    (∀ k, k < c → (∀ i, i < 527 → sta (527 * k + i) = eV C off dear proved (P k) i) ∧ sm k = f_X6_sumOf (eV C off dear proved (P k)) ∧ mov k = mv k ∧
      (∃ d nH nN nF nL t, dep k = nI d ∧ d ≤ 6 ∧ WR C (P k) nH nN nF nL t ∧ t ≤ T + d) ∧ (v2 = nI 1 → f_X6_isMixed (eV C off dear proved (P k)) v3 = 0) ∧
      (k = 0 → dep k = nI 0) ∧ (0 < k → ∃ p d, p < k ∧ bef k = nI p ∧ par k = nI p ∧ dep p = nI d ∧ dep k = nI (d + 1)))
/-- what a state's moves keep -/
def EX (d c c' : Nat) : cT → rT → cT → rT → Prop
  | (J, _, _, _, _, P, _), (F, _, _, _, _, dep, _), (J', _, _, _, _, P', _), (F', _, _, _, _, dep', _) => c ≤ c' ∧ (∀ k, k < c → P' k = P k ∧ dep' k = dep k) ∧ (∀ k, c ≤ k → k < c' → dep' k = nI (d + 1)) ∧ (∀ i, i ≠ 9 → i ≠ 14 → i ≠ 15 → J' i = J i) ∧ (∀ i, i ≠ 15 → i ≠ 24 → i ≠ 25 → i ≠ 26 → F' i = F i)
theorem EX.rf {d c : Nat} {X : cT} {Y : rT} : EX d c c X Y X Y := ⟨Nat.le_refl c, fun _ _ => ⟨rfl, rfl⟩, fun k h1 h2 => absurd h2 (Nat.not_lt.mpr h1), fun _ _ _ _ => rfl, fun _ _ _ _ _ => rfl⟩
theorem EX.tr {d c c1 c2 : Nat} {X X1 X2 : cT} {Y Y1 Y2 : rT} (a : EX d c c1 X Y X1 Y1) (b : EX d c1 c2 X1 Y1 X2 Y2) : EX d c c2 X Y X2 Y2 := by
  obtain ⟨J, bef, mov, nxt, chn, P, pn⟩ := X
  obtain ⟨J1, bef1, mov1, nxt1, chn1, P1, pn1⟩ := X1
  obtain ⟨J2, bef2, mov2, nxt2, chn2, P2, pn2⟩ := X2
  obtain ⟨F, sta, sm, par, mv, dep, th⟩ := Y
  obtain ⟨F1, sta1, sm1, par1, mv1, dep1, th1⟩ := Y1
  obtain ⟨F2, sta2, sm2, par2, mv2, dep2, th2⟩ := Y2
  obtain ⟨a1, a2, a3, a4, a5⟩ := a
  obtain ⟨b1, b2, b3, b4, b5⟩ := b
  refine ⟨Nat.le_trans a1 b1, fun k hk => ?_, fun k h1 h2 => ?_, fun i h1 h2 h3 => (b4 i h1 h2 h3).trans (a4 i h1 h2 h3), fun i h1 h2 h3 h4 => (b5 i h1 h2 h3 h4).trans (a5 i h1 h2 h3 h4)⟩
  · have q := a2 k hk
    have r := b2 k (by omega)
    exact ⟨r.1.trans q.1, r.2.trans q.2⟩
  · rcases Nat.lt_or_ge k c1 with z | z
    · exact (b2 k z).2.trans (a3 k h1 z)
    · exact b3 k z h2
def rF (kk : rK) (lg bf : jA) (v2 v3 v4 v5 v6 : Int32) (k n : Nat) : rT → Nat → rR
  | (F, sta, sm, par, mv, dep, th), m => f_X6_search_66 kk n F lg sta sm par mv dep th bf v2 v3 v4 v5 v6 (nI k) (nI m)
def rS (sk : rP) (lg bf : jA) (v2 v3 v4 v5 v6 : Int32) (k n : Nat) : rT → Nat → Prop
  | (F, sta, sm, par, mv, dep, th), m => s_X6_search_66 sk n F lg sta sm par mv dep th bf v2 v3 v4 v5 v6 (nI k) (nI m)
def rE (lg : jA) : rT → Int32 → rR
  | (F, sta, sm, par, mv, dep, th), a => (F, lg, sta, sm, par, mv, dep, th, a)
section SEA
variable (C off dear proved : jA) (v2 v3 v4 v5 : Int32) (T : Nat) (kk : rK) (sk : rP) (lg bf : jA) (v6 : Int32) (k d : Nat)
/-- the reference goes on -/
def GO (n0 c0 : Nat) (X : cT) (Y : rT) (m0 n1 c1 : Nat) (X1 : cT) (Y1 : rT) (m1 : Nat) : Prop :=
  SR C off dear proved v2 v3 v4 v5 T c1 X1 Y1 ∧ EX d c0 c1 X Y X1 Y1 ∧ rF kk lg bf v2 v3 v4 v5 v6 k n0 Y m0 = rF kk lg bf v2 v3 v4 v5 v6 k n1 Y1 m1 ∧ (rS sk lg bf v2 v3 v4 v5 v6 k n1 Y1 m1 → rS sk lg bf v2 v3 v4 v5 v6 k n0 Y m0)
def OC (n0 c0 : Nat) (X : cT) (Y : rT) (m0 n1 m1 : Nat) (X1 : cT) (came : Int32) : Prop :=
  (came = nI 0 ∧ ∃ c1 Y1, GO C off dear proved v2 v3 v4 v5 T kk sk lg bf v6 k d n0 c0 X Y m0 n1 c1 X1 Y1 m1) ∨
  (came = nI 1 ∧ ∃ c1 Y1, SR C off dear proved v2 v3 v4 v5 T c1 X1 Y1 ∧ EX d c0 c1 X Y X1 Y1 ∧ rF kk lg bf v2 v3 v4 v5 v6 k n0 Y m0 = rE lg Y1 (nI (d + 1)) ∧ rS sk lg bf v2 v3 v4 v5 v6 k n0 Y m0 ∧ X1.1 14 = nI k ∧ X1.1 15 = Y1.1 25 ∧ Y1.1 26 = nI k) ∨
  (came = nI 2 ∧ ∃ c1 Y1, SR C off dear proved v2 v3 v4 v5 T c1 X1 Y1 ∧ EX d c0 c1 X Y X1 Y1 ∧ rF kk lg bf v2 v3 v4 v5 v6 k n0 Y m0 = rE lg Y1 (-4) ∧ rS sk lg bf v2 v3 v4 v5 v6 k n0 Y m0)
variable {C off dear proved v2 v3 v4 v5 T kk sk lg bf v6 k d}
theorem GO.tr {n0 c0 m0 n1 c1 m1 n2 c2 m2 : Nat} {X X1 X2 : cT} {Y Y1 Y2 : rT} (a : GO C off dear proved v2 v3 v4 v5 T kk sk lg bf v6 k d n0 c0 X Y m0 n1 c1 X1 Y1 m1) (b : GO C off dear proved v2 v3 v4 v5 T kk sk lg bf v6 k d n1 c1 X1 Y1 m1 n2 c2 X2 Y2 m2) : GO C off dear proved v2 v3 v4 v5 T kk sk lg bf v6 k d n0 c0 X Y m0 n2 c2 X2 Y2 m2 :=
  ⟨b.1, a.2.1.tr b.2.1, a.2.2.1.trans b.2.2.1, fun h => a.2.2.2 (b.2.2.2 h)⟩
theorem GO.oc {n0 c0 m0 n1 c1 m1 n2 m2 : Nat} {X X1 X2 : cT} {Y Y1 : rT} {came : Int32} (a : GO C off dear proved v2 v3 v4 v5 T kk sk lg bf v6 k d n0 c0 X Y m0 n1 c1 X1 Y1 m1) (b : OC C off dear proved v2 v3 v4 v5 T kk sk lg bf v6 k d n1 c1 X1 Y1 m1 n2 m2 X2 came) : OC C off dear proved v2 v3 v4 v5 T kk sk lg bf v6 k d n0 c0 X Y m0 n2 m2 X2 came := by
  rcases b with ⟨e, c2, Y2, h⟩ | ⟨e, c2, Y2, h1, h2, h3, h4, h5⟩ | ⟨e, c2, Y2, h1, h2, h3, h4⟩
  · exact Or.inl ⟨e, c2, Y2, a.tr h⟩
  · exact Or.inr (Or.inl ⟨e, c2, Y2, h1, a.2.1.tr h2, a.2.2.1.trans h3, a.2.2.2 h4, h5⟩)
  · exact Or.inr (Or.inr ⟨e, c2, Y2, h1, a.2.1.tr h2, a.2.2.1.trans h3, a.2.2.2 h4⟩)
theorem GO.rf {n c m : Nat} {X : cT} {Y : rT} (h : SR C off dear proved v2 v3 v4 v5 T c X Y) : GO C off dear proved v2 v3 v4 v5 T kk sk lg bf v6 k d n c X Y m n c X Y m := ⟨h, EX.rf, rfl, id⟩
/-- the moves' numbers -/
def okM (m : Nat) : Prop := m ≤ 600 ∧ m ≠ 12 ∧ m ≠ 228 ∧ m ≠ 332 ∧ m ≠ 528
theorem SR_24 {c : Nat} {X : cT} {F sta sm par mv dep th th1 : jA} {l : Int32} (H : SR C off dear proved v2 v3 v4 v5 T c X (F, sta, sm, par, mv, dep, th)) (z : NZ th1) : SR C off dear proved v2 v3 v4 v5 T c X (upd F 24 l, sta, sm, par, mv, dep, th1) := by
  obtain ⟨J, bef, mov, nxt, chn, P, pn⟩ := X
  obtain ⟨h1, h2, h3, h4, -, h6⟩ := H
  exact ⟨h1, by rw [pu_n _ _ (by omega)]; exact h2, h3, by rw [pu_n _ _ (by omega)]; exact h4, z, h6⟩
theorem EX_24 {c : Nat} {X : cT} {F sta sm par mv dep th th1 : jA} {l : Int32} : EX d c c X (F, sta, sm, par, mv, dep, th) X (upd F 24 l, sta, sm, par, mv, dep, th1) := by
  obtain ⟨J, bef, mov, nxt, chn, P, pn⟩ := X
  exact ⟨Nat.le_refl c, fun _ _ => ⟨rfl, rfl⟩, fun k h1 h2 => absurd h2 (Nat.not_lt.mpr h1), fun _ _ _ _ => rfl, fun i _ h _ _ => pu_n _ _ h⟩
/-- one move of the reference, up to what comes of it -/
theorem r_mk {c n m : Nat} {J bef mov nxt chn : jA} {P : Nat → jA} {pn : Nat} {F sta sm par mv dep th th1 F1 : jA} {t1 : Int32} (H : SR C off dear proved v2 v3 v4 v5 T c (J, bef, mov, nxt, chn, P, pn) (F, sta, sm, par, mv, dep, th)) (hk : k < c) (hm : okM m) (mk : f_X6_makes (eV C off dear proved (P k)) F lg (nI m) v3 v4 v5 = (th1, F1, lg, t1)) (smk : s_X6_makes (eV C off dear proved (P k)) F lg (nI m) v3 v4 v5) :
    rF kk lg bf v2 v3 v4 v5 v6 k (n + 1) (F, sta, sm, par, mv, dep, th) m = f_X6_search_166 kk (f_X6_search_66 kk n) F1 lg sta sm par mv dep th1 bf v2 v3 v4 v5 v6 (nI k) (nI m) t1 ∧ (s_X6_search_166 sk (s_X6_search_66 sk n) F1 lg sta sm par mv dep th1 bf v2 v3 v4 v5 v6 (nI k) (nI m) t1 → rS sk lg bf v2 v3 v4 v5 v6 k (n + 1) (F, sta, sm, par, mv, dep, th) m) := by
  obtain ⟨h1, h2, h3, h4, h5, h6⟩ := H
  obtain ⟨m1, m2, m3, m4, m5⟩ := hm
  have hc := h1.1
  obtain ⟨u1, -⟩ := h6 k hk
  have cp : f_X6_copy_ sta th 158100 527 (nI (527 * k)) (nI 0) = eV C off dear proved (P k) ∧ s_X6_copy_ sta th 158100 527 (nI (527 * k)) (nI 0) := by
    have h := cp_eq (fr := sta) (fo := th) (nn := 158100) (oo := 527) (p := 527 * k) (q := 0) (by omega) (by omega) (by omega) (by omega)
    refine ⟨h.1.trans ?_, h.2⟩
    funext i
    rcases Nat.lt_or_ge i 527 with z | z
    · rw [if_pos (by omega), ← u1 i z]; congr 1
    · rw [if_neg (by omega), h5 i z, NZ_eV C off dear proved (P k) i z]
  unfold rF rS
  dsimp only
  rw [f_X6_search_66, s_X6_search_66]
  simp (disch := omega) only [pn_lt, show ¬ 600 < m by omega, if_false, not_false_eq_true, true_implies, false_implies, true_and, nne, f_X6_search_133, s_X6_search_133, pk_mul, cp.1, cp.2, f_X6_search_151, s_X6_search_151, mk, smk]
  first | exact id | exact ⟨trivial, id⟩ | exact ⟨rfl, id⟩
theorem r_jump {n m m' : Nat} {Y : rT} (h : (m = 12 ∧ m' = 100) ∨ (m = 228 ∧ m' = 300) ∨ (m = 332 ∧ m' = 400) ∨ (m = 528 ∧ m' = 600)) : rF kk lg bf v2 v3 v4 v5 v6 k (n + 1) Y m = rF kk lg bf v2 v3 v4 v5 v6 k (n + 1) Y m' ∧ (rS sk lg bf v2 v3 v4 v5 v6 k (n + 1) Y m' → rS sk lg bf v2 v3 v4 v5 v6 k (n + 1) Y m) := by
  obtain ⟨F, sta, sm, par, mv, dep, th⟩ := Y
  unfold rF rS
  dsimp only
  rw [f_X6_search_66, f_X6_search_66, s_X6_search_66, s_X6_search_66]
  rcases h with ⟨rfl, rfl⟩ | ⟨rfl, rfl⟩ | ⟨rfl, rfl⟩ | ⟨rfl, rfl⟩
  all_goals
    simp (disch := omega) only [pn_lt, Nat.reduceLT, if_false, not_false_eq_true, true_implies, false_implies, true_and, and_true, nne, if_true, not_true_eq_false, imp_self, and_self]
theorem GO_jump {n c m m' : Nat} {X : cT} {Y : rT} (H : SR C off dear proved v2 v3 v4 v5 T c X Y) (h : (m = 12 ∧ m' = 100) ∨ (m = 228 ∧ m' = 300) ∨ (m = 332 ∧ m' = 400) ∨ (m = 528 ∧ m' = 600)) : GO C off dear proved v2 v3 v4 v5 T kk sk lg bf v6 k d (n + 1) c X Y m (n + 1) c X Y m' :=
  ⟨H, EX.rf, (r_jump (sk := sk) h).1, (r_jump (kk := kk) h).2⟩
/-- a move that can't be made -/
theorem GO_no {c n m : Nat} {J bef mov nxt chn : jA} {P : Nat → jA} {pn : Nat} {F sta sm par mv dep th th1 : jA} {l : Int32} (H : SR C off dear proved v2 v3 v4 v5 T c (J, bef, mov, nxt, chn, P, pn) (F, sta, sm, par, mv, dep, th)) (hk : k < c) (hm : okM m) (z : NZ th1) (mk : f_X6_makes (eV C off dear proved (P k)) F lg (nI m) v3 v4 v5 = (th1, upd F 24 l, lg, nI 0)) (smk : s_X6_makes (eV C off dear proved (P k)) F lg (nI m) v3 v4 v5) :
    GO C off dear proved v2 v3 v4 v5 T kk sk lg bf v6 k d (n + 1) c (J, bef, mov, nxt, chn, P, pn) (F, sta, sm, par, mv, dep, th) m n c (J, bef, mov, nxt, chn, P, pn) (upd F 24 l, sta, sm, par, mv, dep, th1) (m + 1) := by
  have r := r_mk (kk := kk) (sk := sk) (bf := bf) (v6 := v6) (n := n) H hk hm mk smk
  refine ⟨SR_24 H z, EX_24, r.1.trans ?_, fun h => r.2 ?_⟩
  · unfold f_X6_search_166 f_X6_search_271
    rw [if_pos b_n0, nI_add]
    rfl
  · unfold s_X6_search_166 s_X6_search_271
    rw [nI_add]
    exact ⟨fun _ => h, fun q => absurd b_n0 q⟩
theorem SR_U {c : Nat} {J bef mov nxt chn : jA} {P : Nat → jA} {pn : Nat} {F sta sm par mv dep th : jA} (H : SR C off dear proved v2 v3 v4 v5 T c (J, bef, mov, nxt, chn, P, pn) (F, sta, sm, par, mv, dep, th)) : ∀ k, k < c → (∀ i, i < 527 → sta (527 * k + i) = eV C off dear proved (P k) i) ∧ NZ (eV C off dear proved (P k)) ∧ sm k = f_X6_sumOf (eV C off dear proved (P k)) :=
  fun k hk => ⟨(H.2.2.2.2.2 k hk).1, NZ_eV _ _ _ _ _, (H.2.2.2.2.2 k hk).2.1⟩
/-- a move that leads back -/
theorem GO_same {c n m : Nat} {J bef mov nxt chn : jA} {P : Nat → jA} {pn : Nat} {F sta sm par mv dep th : jA} {l : Int32} (H : SR C off dear proved v2 v3 v4 v5 T c (J, bef, mov, nxt, chn, P, pn) (F, sta, sm, par, mv, dep, th)) (hv : v2 = nI 0 ∨ (v2 = nI 1 ∧ ∃ b, b < 4 ∧ v3 = nI b)) (hk : k < c) (hm : okM m) (hl : v2 = nI 0 → l = nI 0) (mk : f_X6_makes (eV C off dear proved (P k)) F lg (nI m) v3 v4 v5 = (eV C off dear proved (P k), upd F 24 l, lg, nI 1)) (smk : s_X6_makes (eV C off dear proved (P k)) F lg (nI m) v3 v4 v5) :
    GO C off dear proved v2 v3 v4 v5 T kk sk lg bf v6 k d (n + 1) c (J, bef, mov, nxt, chn, P, pn) (F, sta, sm, par, mv, dep, th) m n c (J, bef, mov, nxt, chn, P, pn) (upd F 24 l, sta, sm, par, mv, dep, eV C off dear proved (P k)) (m + 1) := by
  have r := r_mk (kk := kk) (sk := sk) (bf := bf) (v6 := v6) (n := n) H hk hm mk smk
  have z := NZ_eV C off dear proved (P k)
  have H1 := SR_24 (l := l) H z
  have f15 : upd F 24 l 15 = nI c := H1.2.1
  have tc := there_c f15 H.1.1 (SR_U H) z
  obtain ⟨t1, t2⟩ : f_X6_isThere (upd F 24 l) sta sm (eV C off dear proved (P k)) (f_X6_sumOf (eV C off dear proved (P k))) = nI 1 ∧ s_X6_isThere (upd F 24 l) sta sm (eV C off dear proved (P k)) (f_X6_sumOf (eV C off dear proved (P k))) := by
    rcases tc with ⟨-, a, b⟩ | ⟨a, -, -⟩
    · exact ⟨a, b⟩
    · exact absurd ⟨k, hk, rfl⟩ a
  have f219 : f_X6_search_219 kk (f_X6_search_66 kk n) (upd F 24 l) lg sta sm par mv dep (eV C off dear proved (P k)) bf v2 v3 v4 v5 v6 (nI k) (nI m) = rF kk lg bf v2 v3 v4 v5 v6 k n (upd F 24 l, sta, sm, par, mv, dep, eV C off dear proved (P k)) (m + 1) := by
    unfold f_X6_search_219 f_X6_search_271
    rw [t1, if_neg n1z, nI_add]
    rfl
  have s219 : rS sk lg bf v2 v3 v4 v5 v6 k n (upd F 24 l, sta, sm, par, mv, dep, eV C off dear proved (P k)) (m + 1) → s_X6_search_219 sk (s_X6_search_66 sk n) (upd F 24 l) lg sta sm par mv dep (eV C off dear proved (P k)) bf v2 v3 v4 v5 v6 (nI k) (nI m) := fun h => by
    unfold s_X6_search_219 s_X6_search_271
    rw [t1, nI_add]
    exact ⟨sum_s _, t2, fun q => absurd q n1z, fun _ => h⟩
  refine ⟨H1, EX_24, r.1.trans ?_, fun h => r.2 ?_⟩
  · unfold f_X6_search_166
    rw [if_neg n1z]
    rcases hv with e | ⟨e, -⟩
    · rw [if_pos (by rw [e]; exact b_n0), pu_s, if_pos (by rw [hl e]; exact b_n0)]
      exact f219
    · have mx := (H.2.2.2.2.2 k hk).2.2.2.2.1 e
      rw [if_neg (by rw [e]; exact n1z), mx, if_pos rfl]
      exact f219
  · unfold s_X6_search_166
    refine ⟨fun q => absurd q n1z, fun _ => ⟨fun e => ⟨fun _ => s219 h, fun q => ?_⟩, fun e => ?_⟩⟩
    · rw [pu_s] at q
      exact absurd (by rw [hl e]; exact b_n0) q
    · rcases hv with e2 | ⟨e2, b, hb, eb⟩
      · exact absurd (by rw [e2]; exact b_n0) e
      · have mx := (H.2.2.2.2.2 k hk).2.2.2.2.1 e2
        obtain ⟨⟨nH, nN, nF, nL, t, R⟩, -⟩ := H.1.2.2.2.2.1 k hk
        have hJ := H.2.2.1
        have mc := mix_cv C off dear proved (J := J) R.2.1.1 R.2.1.2 hb (by rw [← eb]; exact hJ.2.1) (by rw [← e2]; exact hJ.1)
        rw [← eb] at mc
        exact ⟨mc.2.2, fun _ => s219 h, fun q => absurd mx q⟩
end SEA
