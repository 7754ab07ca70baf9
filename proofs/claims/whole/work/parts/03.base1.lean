abbrev ng_AC : Type := (Nat × vp_A) ⊕ (Nat × List Value)
abbrev ng_AM : Type := List ng_AC
abbrev ng_GG : Type := Launch × va_G × (Nat → ClassId) × Nat × (UInt32 → Nat) × Nat × (Nat → Int32)
abbrev ng_MD : Type := String × MethodName × ByteArray × Nat × Option FieldType × Nat × Nat × Nat
abbrev ng_LL : Type := List (Option Value)
def ng_l (G : ng_GG) : Launch := G.1
def ng_D (G : ng_GG) : va_G := G.2.1
def ng_A (G : ng_GG) : Nat → ClassId := G.2.2.1
def ng_B (G : ng_GG) : Nat := G.2.2.2.1
def ng_ad (G : ng_GG) : UInt32 → Nat := G.2.2.2.2.1
def ng_n (G : ng_GG) : Nat := G.2.2.2.2.2.1
def ng_xs (G : ng_GG) : Nat → Int32 := G.2.2.2.2.2.2
abbrev md_o (md : ng_MD) : String := md.1
abbrev md_y (md : ng_MD) : MethodName := md.2.1
abbrev md_c (md : ng_MD) : ByteArray := md.2.2.1
abbrev md_L (md : ng_MD) : Nat := md.2.2.2.1
abbrev md_r (md : ng_MD) : Option FieldType := md.2.2.2.2.1
abbrev md_p (md : ng_MD) : Nat := md.2.2.2.2.2.1
abbrev md_F (md : ng_MD) : Nat := md.2.2.2.2.2.2.1
abbrev md_W (md : ng_MD) : Nat := md.2.2.2.2.2.2.2
def ng_fr (G : ng_GG) : Nat → Prop := fun q => ng_B G ≤ q
def ng_av (G : ng_GG) : Value → Value
  | .ref k => .ref (ng_B G + k)
  | .float u => .ref (ng_ad G u)
  | .int x => .int x
  | .long x => .long x
  | .double x => .double x
  | .null => .null
  | .retAddr x => .retAddr x
def ng_aa (G : ng_GG) : vp_A → vp_A
  | (n, .inl f) => (n, .inl f)
  | (n, .inr (.inl f)) => (n, .inr (.inl f))
  | (n, .inr (.inr (.inl f))) => (n, .inr (.inr (.inl f)))
  | (n, .inr (.inr (.inr (.inl f)))) => (n, .inr (.inr (.inr (.inl f))))
  | (n, .inr (.inr (.inr (.inr f)))) => (n, .inr (.inr (.inr (.inr (fun i => (f i).map (fun k => ng_B G + k))))))
def ng_ac (G : ng_GG) : ng_AC → va_E
  | .inl (t, a) => .inl (ng_A G t, ng_aa G a)
  | .inr (c, fs) => .inr (c, fs.map (ng_av G))
def ng_ws (G : ng_GG) (M : ng_AM) : va_W := M.zipIdx.map (fun q => (ng_B G + q.2, ng_ac G q.1))
def ng_cs : ng_AC → Nat
  | .inl (_, n, _) => n
  | .inr (_, fs) => fs.length
def ng_sz (M : ng_AM) : Nat := (M.map ng_cs).sum
def ng_tys (G : ng_GG) : List (ClassId × FieldType) := [(ng_A G 0, .int), (ng_A G 1, .long), (ng_A G 2, .object RX4), (ng_A G 3, .object RX3)]
theorem ng_ws_i (G : ng_GG) (M : ng_AM) (k : Nat) : (ng_ws G M)[k]? = (M[k]?).map (fun c => (ng_B G + k, ng_ac G c)) := by
  simp [ng_ws, List.getElem?_zipIdx]
  cases M[k]? <;> simp
theorem ng_ws_g {G : ng_GG} {M : ng_AM} {k : Nat} {c : ng_AC} (h : M[k]? = some c) : (ng_ws G M)[k]? = some (ng_B G + k, ng_ac G c) := by
  rw [ng_ws_i, h]; rfl
theorem ng_ws_s (G : ng_GG) (M : ng_AM) (k : Nat) (c : ng_AC) : (ng_ws G M).set k (ng_B G + k, ng_ac G c) = ng_ws G (M.set k c) := by
  apply List.ext_getElem?
  intro i
  rw [ng_ws_i, List.getElem?_set, List.getElem?_set]
  have hlen : (ng_ws G M).length = M.length := by simp [ng_ws]
  rw [hlen, ng_ws_i]
  by_cases h : k = i
  · subst h
    by_cases h2 : k < M.length <;> simp [h2]
  · simp [h]
theorem ng_ws_p (G : ng_GG) (M : ng_AM) (c : ng_AC) : ng_ws G (M ++ [c]) = ng_ws G M ++ [(ng_B G + M.length, ng_ac G c)] := by
  simp [ng_ws, List.zipIdx_append]
theorem ng_ws_D (G : ng_GG) (M : ng_AM) : va_D (ng_fr G) (ng_ws G M) := by
  constructor
  · intro i j p q hi hj hpq
    rw [ng_ws_i] at hi hj
    cases h1 : M[i]? with
    | none => rw [h1] at hi; cases hi
    | some a =>
      cases h2 : M[j]? with
      | none => rw [h2] at hj; cases hj
      | some b =>
        rw [h1] at hi; rw [h2] at hj
        cases hi; cases hj
        simp only at hpq
        omega
  · intro k q hk
    rw [ng_ws_i] at hk
    cases h1 : M[k]? with
    | none => rw [h1] at hk; cases hk
    | some a => rw [h1] at hk; cases hk; exact Nat.le_add_right _ _
theorem ng_sz_s {M : ng_AM} {k : Nat} {c c' : ng_AC} (h : M[k]? = some c) (hc : ng_cs c' = ng_cs c) : ng_sz (M.set k c') = ng_sz M := by
  unfold ng_sz
  congr 1
  apply List.ext_getElem?
  intro i
  rw [List.getElem?_map, List.getElem?_map, List.getElem?_set]
  by_cases hk : k = i
  · subst hk
    obtain ⟨hl, he⟩ := List.getElem?_eq_some_iff.mp h
    simp [hl, hc, he]
  · simp [hk]
theorem ng_sz_p (M : ng_AM) (c : ng_AC) : ng_sz (M ++ [c]) = ng_sz M + ng_cs c := by
  simp [ng_sz]
theorem ng_av_c (G : ng_GG) (v : Value) : (ng_av G v).category = v.category := by cases v <;> rfl
theorem ng_av_cs (G : ng_GG) (st : List Value) : ((st.map (ng_av G)).map fun v => v.category).sum = (st.map fun v => v.category).sum := by
  rw [List.map_map]
  congr 1
  apply List.map_congr_left
  intro v _
  exact ng_av_c G v
def ng_la (G : ng_GG) : Nat → ng_LL → List (Nat × Value)
  | _, [] => []
  | i, none :: L => ng_la G (i + 1) L
  | i, some v :: L => (i, ng_av G v) :: ng_la G (i + 1) L
theorem ng_la_m (G : ng_GG) : ∀ (L : ng_LL) (i : Nat) (q : Nat × Value), q ∈ ng_la G i L ↔ ∃ (k : Nat) (v : Value), L[k]? = some (some v) ∧ q = (i + k, ng_av G v)
  | [], i, q => by simp [ng_la]
  | none :: L, i, q => by
    rw [ng_la, ng_la_m G L (i + 1) q]
    constructor
    · rintro ⟨k, v, h1, h2⟩
      exact ⟨k + 1, v, by simpa using h1, by rw [h2]; congr 1; omega⟩
    · rintro ⟨k, v, h1, h2⟩
      cases k with
      | zero => simp at h1
      | succ k => exact ⟨k, v, by simpa using h1, by rw [h2]; congr 1; omega⟩
  | some x :: L, i, q => by
    rw [ng_la, List.mem_cons, ng_la_m G L (i + 1) q]
    constructor
    · rintro (h | ⟨k, v, h1, h2⟩)
      · exact ⟨0, x, by simp, by rw [h]; rfl⟩
      · exact ⟨k + 1, v, by simpa using h1, by rw [h2]; congr 1; omega⟩
    · rintro ⟨k, v, h1, h2⟩
      cases k with
      | zero => simp at h1; left; rw [h2, h1]; rfl
      | succ k => right; exact ⟨k, v, by simpa using h1, by rw [h2]; congr 1; omega⟩
def ng_LH (G : ng_GG) (L : ng_LL) (ls : Array Slot) : Prop := lv_has ls L.length (ng_la G 0 L)
theorem ng_LH.at {G : ng_GG} {L : ng_LL} {ls : Array Slot} (h : ng_LH G L ls) {i : Nat} {v : Value} (hi : L[i]? = some (some v)) : ls[i]? = some (.val (ng_av G v)) :=
  h.2.2 (i, ng_av G v) ((ng_la_m G L 0 _).mpr ⟨i, v, hi, by simp⟩)
def ng_cl (L : ng_LL) (k : Nat) : ng_LL := match L[k]? with
  | some (some (.long _)) => L.set k none
  | some (some (.double _)) => L.set k none
  | _ => L
def ng_s1 (L : ng_LL) (i : Nat) (v : Value) : ng_LL := match i with
  | 0 => L.set 0 (some v)
  | k + 1 => (ng_cl L k).set (k + 1) (some v)
def ng_s2 (L : ng_LL) (i : Nat) (v : Value) : ng_LL := (ng_s1 L i v).set (i + 1) none
theorem ng_cl_l (L : ng_LL) (k : Nat) : (ng_cl L k).length = L.length := by
  unfold ng_cl
  split <;> simp
theorem ng_s1_l (L : ng_LL) (i : Nat) (v : Value) : (ng_s1 L i v).length = L.length := by
  cases i with
  | zero => simp [ng_s1]
  | succ k => simp [ng_s1, ng_cl_l]
theorem ng_s2_l (L : ng_LL) (i : Nat) (v : Value) : (ng_s2 L i v).length = L.length := by
  simp [ng_s2, ng_s1_l]
theorem ng_cl_g {L : ng_LL} {k j : Nat} {w : Value} (h : (ng_cl L k)[j]? = some (some w)) : L[j]? = some (some w) ∧ ¬ (j = k ∧ w.category = 2) := by
  unfold ng_cl at h
  split at h
  · rename_i x hx
    rw [List.getElem?_set] at h
    by_cases e : k = j
    · subst e
      by_cases h2 : k < L.length <;> simp [h2] at h
    · simp [e] at h
      exact ⟨h, fun q => e q.1.symm⟩
  · rename_i x hx
    rw [List.getElem?_set] at h
    by_cases e : k = j
    · subst e
      by_cases h2 : k < L.length <;> simp [h2] at h
    · simp [e] at h
      exact ⟨h, fun q => e q.1.symm⟩
  · rename_i hx1 hx2
    refine ⟨h, fun q => ?_⟩
    obtain ⟨rfl, hc⟩ := q
    cases w with
    | long x => exact hx1 x h
    | double x => exact hx2 x h
    | _ => simp [Value.category] at hc
theorem ng_s1_g {L : ng_LL} {i j : Nat} {v w : Value} (h : (ng_s1 L i v)[j]? = some (some w)) : (j = i ∧ w = v) ∨ (j ≠ i ∧ L[j]? = some (some w) ∧ ¬ (j + 1 = i ∧ w.category = 2)) := by
  cases i with
  | zero =>
    simp only [ng_s1] at h
    rw [List.getElem?_set] at h
    by_cases e : 0 = j
    · subst e
      by_cases h2 : 0 < L.length <;> simp [h2] at h
      exact Or.inl ⟨rfl, h.symm⟩
    · simp [e] at h
      exact Or.inr ⟨fun q => e q.symm, h, fun q => by omega⟩
  | succ k =>
    simp only [ng_s1] at h
    rw [List.getElem?_set] at h
    by_cases e : k + 1 = j
    · subst e
      by_cases h2 : k + 1 < (ng_cl L k).length <;> simp [h2] at h
      exact Or.inl ⟨rfl, h.symm⟩
    · simp [e] at h
      obtain ⟨h1, h2⟩ := ng_cl_g h
      exact Or.inr ⟨fun q => e q.symm, h1, fun q => h2 ⟨by omega, q.2⟩⟩
theorem ng_LH.sub {G : ng_GG} {L : ng_LL} {ls : Array Slot} {nL : Nat} {lv : List (Nat × Value)} (h : lv_has ls nL lv) (hL : L.length = nL) (hs : ∀ q ∈ ng_la G 0 L, q ∈ lv) : ng_LH G L ls :=
  ⟨by rw [hL]; exact h.1, h.2.1, fun q hq => h.2.2 q (hs q hq)⟩
theorem ng_LH.st1 {G : ng_GG} {L : ng_LL} {ls : Array Slot} {i : Nat} {v : Value} (h : lv_has ls L.length ((i, ng_av G v) :: (ng_la G 0 L).filter (fun q => !(q.1 == i) && !(q.1 + 1 == i && q.2.category == 2)))) : ng_LH G (ng_s1 L i v) ls := by
  refine ng_LH.sub h (ng_s1_l L i v) fun q hq => ?_
  obtain ⟨k, w, h1, rfl⟩ := (ng_la_m G _ 0 q).mp hq
  rcases ng_s1_g h1 with ⟨rfl, rfl⟩ | ⟨h2, h3, h4⟩
  · simp
  · refine List.mem_cons_of_mem _ (List.mem_filter.mpr ⟨(ng_la_m G L 0 _).mpr ⟨k, w, h3, rfl⟩, ?_⟩)
    simp [ng_av_c]
    exact ⟨h2, Classical.not_and_iff_not_or_not.mp h4⟩
theorem ng_LH.st2 {G : ng_GG} {L : ng_LL} {ls : Array Slot} {i : Nat} {v : Value} (h : lv_has ls L.length ((i, ng_av G v) :: (ng_la G 0 L).filter (fun q => !(q.1 == i) && (!(q.1 == i + 1) && !(q.1 + 1 == i && q.2.category == 2))))) : ng_LH G (ng_s2 L i v) ls := by
  refine ng_LH.sub h (ng_s2_l L i v) fun q hq => ?_
  obtain ⟨k, w, h1, rfl⟩ := (ng_la_m G _ 0 q).mp hq
  unfold ng_s2 at h1
  rw [List.getElem?_set] at h1
  by_cases e : i + 1 = k
  · subst e
    by_cases h2 : i + 1 < (ng_s1 L i v).length <;> simp [h2] at h1
  · simp [e] at h1
    rcases ng_s1_g h1 with ⟨rfl, rfl⟩ | ⟨h2, h3, h4⟩
    · simp
    · refine List.mem_cons_of_mem _ (List.mem_filter.mpr ⟨(ng_la_m G L 0 _).mpr ⟨k, w, h3, rfl⟩, ?_⟩)
      simp [ng_av_c]
      exact ⟨h2, fun q => e q.symm, Classical.not_and_iff_not_or_not.mp h4⟩
