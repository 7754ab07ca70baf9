def ng_nest : Cond → Bool
  | .methodLinkNest .. => true
  | _ => false
def ng_CT (U : State) : Prop := (∀ w ∈ lw_tbl, goodWord w = true → w.before #[] U = true) ∧ (∀ w ∈ lw_tbl, ng_nest w = true → w.before #[] U = true) ∧ va_AO RX4 U ∧ va_AO RX3 U
theorem ng_CT.use {U : State} (h : ng_CT U) {args : Array Value} {w : Cond} (hw : w ∈ lw_tbl) (hg : goodWord w = true) : w.before args U = true :=
  word_at (State.WarmedH.refl U) (good_of_word hg) (h.1 w hw hg)
theorem ng_CT.moved {s U : State} (hW : s.WarmedH U.vm) (h : ng_CT s) : ng_CT U := by
  refine ⟨fun w hw hg => word_at hW (good_of_word hg) (h.1 w hw hg), fun w hw hn => ?_, h.2.2.1.moved hW.alike, h.2.2.2.moved hW.alike⟩
  have h1 := h.2.1 w hw hn
  cases w with
  | methodLinkNest a i x b => exact va_Nw.warmM hW h1
  | _ => cases hn
def ng_nd : Nat → Value := fun j => .int (([3, 2, 4, 4, 1, 1, 1, 2] : List Int32).getD j 0)
def ng_ST (G : ng_GG) (U : State) (H : Heap) : Prop := va_Z RX5 "NEEDS" "[I" (.ref (ng_ad G 0)) (ng_fr G) U H ∧ va_T .int (ng_ad G 0) 8 ng_nd (ng_fr G) U H ∧ va_Z RX6 "NEEDS" "[I" (.ref (ng_ad G 1)) (ng_fr G) U H ∧ va_T .int (ng_ad G 1) 8 ng_nd (ng_fr G) U H ∧ va_X (ng_ad G 2) (ng_n G) (ng_xs G) U H ∧ ng_ad G 2 < ng_B G ∧ ng_B G ≤ H.size
theorem ng_ST.moved {G : ng_GG} {u U : State} {H : Heap} (hvm : u.vm.Alike U.vm) (h : ng_ST G u H) : ng_ST G U H :=
  ⟨h.1.moved hvm, h.2.1.moved hvm, h.2.2.1.moved hvm, h.2.2.2.1.moved hvm, h.2.2.2.2.1.moved hvm, h.2.2.2.2.2⟩
theorem ng_ST.kept {G : ng_GG} {U : State} {H H1 : Heap} (h : ng_ST G U H) (hz : H.size ≤ H1.size) (hq : ∀ a : Nat, a < H.size → ¬ ng_fr G a → H1[a]? = H[a]?) : ng_ST G U H1 := by
  obtain ⟨h1, h2, h3, h4, h5, h6, h7⟩ := h
  exact ⟨h1.kept hq, h2.kept hq, h3.kept hq, h4.kept hq, h5.kept (hq _ (Nat.lt_of_lt_of_le h6 h7) (Nat.not_le.mpr h6)), h6, Nat.le_trans h7 hz⟩
def ng_CX (G : ng_GG) (md : ng_MD) (p : Program) (R : Room) (s : State) (m : MethodId) (meth : Method) (c : Code) : Prop :=
  p.tables.exec = Jvm.exec ∧ c.code = md_c md ∧ meth.sig.returnType = md_r md ∧ c.maxLocals = md_L md ∧ s.vm.findClass (md_o md) = some m.cls ∧ meth.locks = false ∧ ((md_y md).name = "<init>" → meth.name = "<init>") ∧ ng_CT s ∧ va_K (ng_D G) vwCl (ng_tys G) s ∧ ng_ST G s s.heap ∧ md_F md ≤ R.frames ∧ md_W md ≤ R.locals
def ng_QC (G : ng_GG) (r : Option Value) (M' : ng_AM) : Array Value → State → Outcome → State → Prop := fun _ st oc t =>
  oc = .returned (r.map (ng_av G)) ∧ va_P (ng_D G) vwCl (ng_ws G M') t.heap ∧ va_F (ng_fr G) st t
abbrev ng_RR : Type := Option Value × ng_AM
def ng_Ev (G : ng_GG) (md : ng_MD) (pc : Nat) (L : ng_LL) (st : List Value) (M : ng_AM) (X : ng_RR) : Prop :=
  M.length ≤ X.2.length ∧ ng_sz M ≤ ng_sz X.2 ∧
  ∀ (p : Program) (e : Env) (R : Room) (s : State) (m : MethodId) (args : Array Value) (below : List Frame) (meth : Method) (c : Code), ng_CX G md p R s m meth c →
  ∀ (H : Heap) (locs : List Loc) (cells slots : Nat) (ls : Array Slot) (n0 z0 : Nat), s.heap.size = ng_B G + n0 → va_P (ng_D G) vwCl (ng_ws G M) H → va_S (ng_fr G) s.heap H locs → ng_LH G L ls → L.length = md_L md →
    cells + n0 = M.length → slots + z0 = ng_sz M → X.2.length ≤ n0 + R.cells → ng_sz X.2 ≤ z0 + R.slots →
    W p (ng_l G) e R s m args below meth c H locs cells slots (MQ below (ng_QC G X.1 X.2) args s (X.2.length - n0) (ng_sz X.2 - z0) (ng_fr G)) (F0 m pc ls (st.map (ng_av G)))
/-- a step that leaves the heap -/
theorem ng_Ev.pure {G : ng_GG} {md : ng_MD} {pc pc' : Nat} {L L' : ng_LL} {st st' : List Value} {M : ng_AM} {X : ng_RR} (k : ng_Ev G md pc' L' st' M X) (hL : L'.length = L.length)
    (h : ∀ {p : Program} {e : Env} {R : Room} {s : State} {m : MethodId} {args : Array Value} {below : List Frame} {meth : Method} {c : Code} {H : Heap} {locs : List Loc} {cells slots : Nat} {ls : Array Slot} {Q : State → Prop}, ng_CX G md p R s m meth c → va_P (ng_D G) vwCl (ng_ws G M) H → va_S (ng_fr G) s.heap H locs → ng_LH G L ls → L.length = md_L md →
      (∀ ls' : Array Slot, ng_LH G L' ls' → W p (ng_l G) e R s m args below meth c H locs cells slots Q (F0 m pc' ls' (st'.map (ng_av G)))) → W p (ng_l G) e R s m args below meth c H locs cells slots Q (F0 m pc ls (st.map (ng_av G)))) : ng_Ev G md pc L st M X := by
  refine ⟨k.1, k.2.1, fun p e R s m args below meth c C H locs cells slots ls n0 z0 h1 h2 h3 h4 h5 h6 h7 h8 h9 => ?_⟩
  exact h C h2 h3 h4 h5 fun ls' h4' => k.2.2 p e R s m args below meth c C H locs cells slots ls' n0 z0 h1 h2 h3 h4' (hL.trans h5) h6 h7 h8 h9
/-- fewer known places -/
def ng_sub : ng_LL → ng_LL → Prop
  | [], [] => True
  | none :: L', _ :: L => ng_sub L' L
  | some v :: L', some w :: L => v = w ∧ ng_sub L' L
  | _, _ => False
theorem ng_sub_l : ∀ {L' L : ng_LL}, ng_sub L' L → L'.length = L.length
  | [], [], _ => rfl
  | none :: L', _ :: L, h => by simp [ng_sub_l (L' := L') (L := L) h]
  | some v :: L', some w :: L, h => by simp [ng_sub_l (L' := L') (L := L) h.2]
  | some v :: L', none :: L, h => by cases h
  | [], _ :: _, h => by cases h
  | some _ :: _, [], h => by cases h
  | none :: _, [], h => by cases h
theorem ng_sub_g : ∀ {L' L : ng_LL}, ng_sub L' L → ∀ (k : Nat) (v : Value), L'[k]? = some (some v) → L[k]? = some (some v)
  | [], [], _, k, v, h => by simp at h
  | none :: L', x :: L, h, k, v, hk => by
    cases k with
    | zero => simp at hk
    | succ k => simpa using ng_sub_g (L' := L') (L := L) h k v (by simpa using hk)
  | some y :: L', some w :: L, h, k, v, hk => by
    cases k with
    | zero => simp at hk; simp [← hk, h.1]
    | succ k => simpa using ng_sub_g (L' := L') (L := L) h.2 k v (by simpa using hk)
  | some v :: L', none :: L, h, _, _, _ => by cases h
  | [], _ :: _, h, _, _, _ => by cases h
  | some _ :: _, [], h, _, _, _ => by cases h
  | none :: _, [], h, _, _, _ => by cases h
theorem ev_sub {G : ng_GG} {md : ng_MD} {pc : Nat} {L L' : ng_LL} {st : List Value} {M : ng_AM} {X : ng_RR} (k : ng_Ev G md pc L' st M X) (h : ng_sub L' L) : ng_Ev G md pc L st M X := by
  refine k.pure (ng_sub_l h) fun C _ _ hl _ kk => kk _ (ng_LH.sub hl (ng_sub_l h) fun q hq => ?_)
  obtain ⟨j, v, h1, rfl⟩ := (ng_la_m G _ 0 q).mp hq
  exact (ng_la_m G _ 0 _).mpr ⟨j, v, ng_sub_g h j v h1, rfl⟩
section EVR
variable {G : ng_GG} {md : ng_MD} {pc : Nat} {L : ng_LL} {st : List Value} {M : ng_AM} {X : ng_RR}
theorem ev_iconst {n : Int} {v : Int32} (hd : decode (md_c md) pc = .ok (.iconst n, 1)) (hv : Int32.ofInt n = v) (k : ng_Ev G md (pc + 1) L (.int v :: st) M X) : ng_Ev G md pc L st M X :=
  k.pure rfl fun C _ _ hl _ kk => lv_iconst C.1 C.2.1 hd hv (kk _ hl)
theorem ev_bipush {n : Int} {v : Int32} (hd : decode (md_c md) pc = .ok (.bipush n, 2)) (hv : (Int8.ofInt n).toInt32 = v) (k : ng_Ev G md (pc + 2) L (.int v :: st) M X) : ng_Ev G md pc L st M X :=
  k.pure rfl fun C _ _ hl _ kk => lv_bipush C.1 C.2.1 hd hv (kk _ hl)
theorem ev_sipush {n : Int} {v : Int32} (hd : decode (md_c md) pc = .ok (.sipush n, 3)) (hv : (Int16.ofInt n).toInt32 = v) (k : ng_Ev G md (pc + 3) L (.int v :: st) M X) : ng_Ev G md pc L st M X :=
  k.pure rfl fun C _ _ hl _ kk => lv_sipush C.1 C.2.1 hd hv (kk _ hl)
theorem ev_lconst {n : Fin 2} {v : Int64} (hd : decode (md_c md) pc = .ok (.lconst n, 1)) (hv : Int64.ofNat (n : Nat) = v) (k : ng_Ev G md (pc + 1) L (.long v :: st) M X) : ng_Ev G md pc L st M X :=
  k.pure rfl fun C _ _ hl _ kk => lv_lconst C.1 C.2.1 hd hv (kk _ hl)
theorem ev_null (hd : decode (md_c md) pc = .ok (.aconst_null, 1)) (k : ng_Ev G md (pc + 1) L (.null :: st) M X) : ng_Ev G md pc L st M X :=
  k.pure rfl fun C _ _ hl _ kk => lv_null C.1 C.2.1 hd (kk _ hl)
theorem ev_ldc {i : Nat} {v : Int32} (hw : Cond.constant (md_o md) i v ∈ lw_tbl) (hd : decode (md_c md) pc = .ok (.ldc i, 2)) (k : ng_Ev G md (pc + 2) L (.int v :: st) M X) : ng_Ev G md pc L st M X :=
  k.pure rfl fun C _ _ hl _ kk => lv_ldc C.1 C.2.1 C.2.2.2.2.1 (C.2.2.2.2.2.2.2.1.use hw rfl) hd (kk _ hl)
theorem ev_ldc2 {i : Nat} {v : Int64} (hw : Cond.constantLong (md_o md) i v ∈ lw_tbl) (hd : decode (md_c md) pc = .ok (.ldc2_w i, 3)) (k : ng_Ev G md (pc + 3) L (.long v :: st) M X) : ng_Ev G md pc L st M X :=
  k.pure rfl fun C _ _ hl _ kk => lv_ldc2 C.1 C.2.1 C.2.2.2.2.1 (C.2.2.2.2.2.2.2.1.use hw rfl) hd (kk _ hl)
theorem ev_iload_n {j : Fin 4} {i : Nat} {x : Int32} (hd : decode (md_c md) pc = .ok (.iload_n j, 1)) (hi : (j : Nat) = i) (hx : L[i]? = some (some (.int x))) (k : ng_Ev G md (pc + 1) L (.int x :: st) M X) : ng_Ev G md pc L st M X :=
  k.pure rfl fun C _ _ hl _ kk => lv_iload_n C.1 C.2.1 hd hi (hl.at hx) (kk _ hl)
theorem ev_iload {i : Nat} {x : Int32} (hd : decode (md_c md) pc = .ok (.iload i, 2)) (hx : L[i]? = some (some (.int x))) (k : ng_Ev G md (pc + 2) L (.int x :: st) M X) : ng_Ev G md pc L st M X :=
  k.pure rfl fun C _ _ hl _ kk => lv_iload C.1 C.2.1 hd (hl.at hx) (kk _ hl)
theorem ev_lload_n {j : Fin 4} {i : Nat} {x : Int64} (hd : decode (md_c md) pc = .ok (.lload_n j, 1)) (hi : (j : Nat) = i) (hx : L[i]? = some (some (.long x))) (k : ng_Ev G md (pc + 1) L (.long x :: st) M X) : ng_Ev G md pc L st M X :=
  k.pure rfl fun C _ _ hl _ kk => lv_lload_n C.1 C.2.1 hd hi (hl.at hx) (kk _ hl)
theorem ev_lload {i : Nat} {x : Int64} (hd : decode (md_c md) pc = .ok (.lload i, 2)) (hx : L[i]? = some (some (.long x))) (k : ng_Ev G md (pc + 2) L (.long x :: st) M X) : ng_Ev G md pc L st M X :=
  k.pure rfl fun C _ _ hl _ kk => lv_lload C.1 C.2.1 hd (hl.at hx) (kk _ hl)
def ng_isA : Value → Bool
  | .ref _ => true
  | .null => true
  | .float _ => true
  | _ => false
theorem ev_aload_n {j : Fin 4} {i : Nat} {v : Value} (hd : decode (md_c md) pc = .ok (.aload_n j, 1)) (hi : (j : Nat) = i) (hx : L[i]? = some (some v)) (hv : ng_isA v = true) (k : ng_Ev G md (pc + 1) L (v :: st) M X) : ng_Ev G md pc L st M X := by
  cases v with
  | ref a => exact k.pure rfl fun C _ _ hl _ kk => lv_aload_n C.1 C.2.1 hd hi (hl.at hx) (kk _ hl)
  | float a => exact k.pure rfl fun C _ _ hl _ kk => lv_aload_n C.1 C.2.1 hd hi (hl.at hx) (kk _ hl)
  | null => exact k.pure rfl fun C _ _ hl _ kk => lv_aload_nN C.1 C.2.1 hd hi (hl.at hx) (kk _ hl)
  | _ => cases hv
theorem ev_aload {i : Nat} {v : Value} (hd : decode (md_c md) pc = .ok (.aload i, 2)) (hx : L[i]? = some (some v)) (hv : ng_isA v = true) (k : ng_Ev G md (pc + 2) L (v :: st) M X) : ng_Ev G md pc L st M X := by
  cases v with
  | ref a => exact k.pure rfl fun C _ _ hl _ kk => lv_aload C.1 C.2.1 hd (hl.at hx) (kk _ hl)
  | float a => exact k.pure rfl fun C _ _ hl _ kk => lv_aload C.1 C.2.1 hd (hl.at hx) (kk _ hl)
  | null => exact k.pure rfl fun C _ _ hl _ kk => lv_aloadN C.1 C.2.1 hd (hl.at hx) (kk _ hl)
  | _ => cases hv
theorem ev_istore_n {j : Fin 4} {i : Nat} {x : Int32} {L' : ng_LL} (hd : decode (md_c md) pc = .ok (.istore_n j, 1)) (hi : (j : Nat) = i) (hn : i < L.length) (hL : ng_s1 L i (.int x) = L') (k : ng_Ev G md (pc + 1) L' st M X) : ng_Ev G md pc L (.int x :: st) M X := by
  subst hL
  exact k.pure (ng_s1_l _ _ _) fun C _ _ hl _ kk => lv_istore_n C.1 C.2.1 hd hi hl hn rfl (fun ls' h' => kk ls' (ng_LH.st1 (v := .int x) h'))
theorem ev_istore {i : Nat} {x : Int32} {L' : ng_LL} (hd : decode (md_c md) pc = .ok (.istore i, 2)) (hn : i < L.length) (hL : ng_s1 L i (.int x) = L') (k : ng_Ev G md (pc + 2) L' st M X) : ng_Ev G md pc L (.int x :: st) M X := by
  subst hL
  exact k.pure (ng_s1_l _ _ _) fun C _ _ hl _ kk => lv_istore C.1 C.2.1 hd hl hn rfl (fun ls' h' => kk ls' (ng_LH.st1 (v := .int x) h'))
theorem ev_lstore {i : Nat} {x : Int64} {L' : ng_LL} (hd : decode (md_c md) pc = .ok (.lstore i, 2)) (hn : i + 1 < L.length) (hL : ng_s2 L i (.long x) = L') (k : ng_Ev G md (pc + 2) L' st M X) : ng_Ev G md pc L (.long x :: st) M X := by
  subst hL
  exact k.pure (ng_s2_l _ _ _) fun C _ _ hl _ kk => lv_lstore C.1 C.2.1 hd hl hn rfl (fun ls' h' => kk ls' (ng_LH.st2 (v := .long x) h'))
theorem ev_astore_n {j : Fin 4} {i : Nat} {v : Value} {L' : ng_LL} (hd : decode (md_c md) pc = .ok (.astore_n j, 1)) (hi : (j : Nat) = i) (hn : i < L.length) (hv : ng_isA v = true) (hL : ng_s1 L i v = L') (k : ng_Ev G md (pc + 1) L' st M X) : ng_Ev G md pc L (v :: st) M X := by
  subst hL
  cases v with
  | ref a => exact k.pure (ng_s1_l _ _ _) fun C _ _ hl _ kk => lv_astore_n C.1 C.2.1 hd hi hl hn rfl (fun ls' h' => kk ls' (ng_LH.st1 (v := .ref a) h'))
  | float a => exact k.pure (ng_s1_l _ _ _) fun C _ _ hl _ kk => lv_astore_n C.1 C.2.1 hd hi hl hn rfl (fun ls' h' => kk ls' (ng_LH.st1 (v := .float a) h'))
  | null => exact k.pure (ng_s1_l _ _ _) fun C _ _ hl _ kk => lv_astore_nN C.1 C.2.1 hd hi hl hn rfl (fun ls' h' => kk ls' (ng_LH.st1 (v := .null) h'))
  | _ => cases hv
theorem ev_astore {i : Nat} {v : Value} {L' : ng_LL} (hd : decode (md_c md) pc = .ok (.astore i, 2)) (hn : i < L.length) (hv : ng_isA v = true) (hL : ng_s1 L i v = L') (k : ng_Ev G md (pc + 2) L' st M X) : ng_Ev G md pc L (v :: st) M X := by
  subst hL
  cases v with
  | ref a => exact k.pure (ng_s1_l _ _ _) fun C _ _ hl _ kk => lv_astore C.1 C.2.1 hd hl hn rfl (fun ls' h' => kk ls' (ng_LH.st1 (v := .ref a) h'))
  | float a => exact k.pure (ng_s1_l _ _ _) fun C _ _ hl _ kk => lv_astore C.1 C.2.1 hd hl hn rfl (fun ls' h' => kk ls' (ng_LH.st1 (v := .float a) h'))
  | null => exact k.pure (ng_s1_l _ _ _) fun C _ _ hl _ kk => lv_astoreN C.1 C.2.1 hd hl hn rfl (fun ls' h' => kk ls' (ng_LH.st1 (v := .null) h'))
  | _ => cases hv
theorem ev_iinc {i : Nat} {n : Int} {x v : Int32} {L' : ng_LL} (hd : decode (md_c md) pc = .ok (.iinc i n, 3)) (hx : L[i]? = some (some (.int x))) (hv : x + Int32.ofInt n = v) (hL : ng_s1 L i (.int v) = L') (k : ng_Ev G md (pc + 3) L' st M X) : ng_Ev G md pc L st M X := by
  subst hL
  refine k.pure (ng_s1_l _ _ _) fun C _ _ hl _ kk => ?_
  obtain ⟨q, hq⟩ := List.getElem?_of_mem ((ng_la_m G L 0 (i, .int x)).mpr ⟨i, .int x, hx, by simp [ng_av]⟩)
  exact lv_iinc C.1 C.2.1 hd hl hq hv (List.getElem?_eq_some_iff.mp hx).1 rfl (fun ls' h' => kk ls' (ng_LH.st1 (v := .int v) h'))
theorem ev_iadd {x y : Int32} (hd : decode (md_c md) pc = .ok (.iadd, 1)) (k : ng_Ev G md (pc + 1) L (.int (x + y) :: st) M X) : ng_Ev G md pc L (.int y :: .int x :: st) M X :=
  k.pure rfl fun C _ _ hl _ kk => lv_iadd C.1 C.2.1 hd (kk _ hl)
theorem ev_isub {x y : Int32} (hd : decode (md_c md) pc = .ok (.isub, 1)) (k : ng_Ev G md (pc + 1) L (.int (x - y) :: st) M X) : ng_Ev G md pc L (.int y :: .int x :: st) M X :=
  k.pure rfl fun C _ _ hl _ kk => lv_isub C.1 C.2.1 hd (kk _ hl)
theorem ev_imul {x y : Int32} (hd : decode (md_c md) pc = .ok (.imul, 1)) (k : ng_Ev G md (pc + 1) L (.int (x * y) :: st) M X) : ng_Ev G md pc L (.int y :: .int x :: st) M X :=
  k.pure rfl fun C _ _ hl _ kk => lv_imul C.1 C.2.1 hd (kk _ hl)
theorem ev_iand {x y : Int32} (hd : decode (md_c md) pc = .ok (.iand, 1)) (k : ng_Ev G md (pc + 1) L (.int (x &&& y) :: st) M X) : ng_Ev G md pc L (.int y :: .int x :: st) M X :=
  k.pure rfl fun C _ _ hl _ kk => lv_iand C.1 C.2.1 hd (kk _ hl)
theorem ev_ior {x y : Int32} (hd : decode (md_c md) pc = .ok (.ior, 1)) (k : ng_Ev G md (pc + 1) L (.int (x ||| y) :: st) M X) : ng_Ev G md pc L (.int y :: .int x :: st) M X :=
  k.pure rfl fun C _ _ hl _ kk => lv_ior C.1 C.2.1 hd (kk _ hl)
theorem ev_ixor {x y : Int32} (hd : decode (md_c md) pc = .ok (.ixor, 1)) (k : ng_Ev G md (pc + 1) L (.int (x ^^^ y) :: st) M X) : ng_Ev G md pc L (.int y :: .int x :: st) M X :=
  k.pure rfl fun C _ _ hl _ kk => lv_ixor C.1 C.2.1 hd (kk _ hl)
theorem ev_ishl {x y : Int32} (hd : decode (md_c md) pc = .ok (.ishl, 1)) (k : ng_Ev G md (pc + 1) L (.int (x <<< (y &&& 31)) :: st) M X) : ng_Ev G md pc L (.int y :: .int x :: st) M X :=
  k.pure rfl fun C _ _ hl _ kk => lv_ishl C.1 C.2.1 hd (kk _ hl)
theorem ev_ishr {x y : Int32} (hd : decode (md_c md) pc = .ok (.ishr, 1)) (k : ng_Ev G md (pc + 1) L (.int (x >>> (y &&& 31)) :: st) M X) : ng_Ev G md pc L (.int y :: .int x :: st) M X :=
  k.pure rfl fun C _ _ hl _ kk => lv_ishr C.1 C.2.1 hd (kk _ hl)
theorem ev_idiv {x y : Int32} (hd : decode (md_c md) pc = .ok (.idiv, 1)) (hne : ¬ y = 0) (k : ng_Ev G md (pc + 1) L (.int (x / y) :: st) M X) : ng_Ev G md pc L (.int y :: .int x :: st) M X :=
  k.pure rfl fun C _ _ hl _ kk => lv_idiv C.1 C.2.1 hd hne (kk _ hl)
theorem ev_irem {x y : Int32} (hd : decode (md_c md) pc = .ok (.irem, 1)) (hne : ¬ y = 0) (k : ng_Ev G md (pc + 1) L (.int (x - x / y * y) :: st) M X) : ng_Ev G md pc L (.int y :: .int x :: st) M X :=
  k.pure rfl fun C _ _ hl _ kk => lv_irem C.1 C.2.1 hd hne (kk _ hl)
theorem ev_ladd {x y : Int64} (hd : decode (md_c md) pc = .ok (.ladd, 1)) (k : ng_Ev G md (pc + 1) L (.long (x + y) :: st) M X) : ng_Ev G md pc L (.long y :: .long x :: st) M X :=
  k.pure rfl fun C _ _ hl _ kk => lv_ladd C.1 C.2.1 hd (kk _ hl)
theorem ev_lor {x y : Int64} (hd : decode (md_c md) pc = .ok (.lor, 1)) (k : ng_Ev G md (pc + 1) L (.long (x ||| y) :: st) M X) : ng_Ev G md pc L (.long y :: .long x :: st) M X :=
  k.pure rfl fun C _ _ hl _ kk => lv_lor C.1 C.2.1 hd (kk _ hl)
theorem ev_land {x y : Int64} (hd : decode (md_c md) pc = .ok (.land, 1)) (k : ng_Ev G md (pc + 1) L (.long (x &&& y) :: st) M X) : ng_Ev G md pc L (.long y :: .long x :: st) M X :=
  k.pure rfl fun C _ _ hl _ kk => lv_land C.1 C.2.1 hd (kk _ hl)
theorem ev_iushr {x y : Int32} (hd : decode (md_c md) pc = .ok (.iushr, 1)) (k : ng_Ev G md (pc + 1) L (.int ((x.toUInt32 >>> (y.toUInt32 &&& Int32.toUInt32 31)).toInt32) :: st) M X) : ng_Ev G md pc L (.int y :: .int x :: st) M X :=
  k.pure rfl fun C _ _ hl _ kk => lv_iushr C.1 C.2.1 hd rfl (kk _ hl)
theorem ev_lshl {x : Int64} {y : Int32} (hd : decode (md_c md) pc = .ok (.lshl, 1)) (k : ng_Ev G md (pc + 1) L (.long (x <<< (y.toInt64 &&& 63)) :: st) M X) : ng_Ev G md pc L (.int y :: .long x :: st) M X :=
  k.pure rfl fun C _ _ hl _ kk => lv_lshl C.1 C.2.1 hd rfl (kk _ hl)
theorem ev_i2l {x : Int32} (hd : decode (md_c md) pc = .ok (.i2l, 1)) (k : ng_Ev G md (pc + 1) L (.long (x.toInt64) :: st) M X) : ng_Ev G md pc L (.int x :: st) M X :=
  k.pure rfl fun C _ _ hl _ kk => lv_i2l C.1 C.2.1 hd rfl (kk _ hl)
theorem ev_l2i {x : Int64} (hd : decode (md_c md) pc = .ok (.l2i, 1)) (k : ng_Ev G md (pc + 1) L (.int (x.toInt32) :: st) M X) : ng_Ev G md pc L (.long x :: st) M X :=
  k.pure rfl fun C _ _ hl _ kk => lv_l2i C.1 C.2.1 hd rfl (kk _ hl)
theorem ev_i2b {x : Int32} (hd : decode (md_c md) pc = .ok (.i2b, 1)) (k : ng_Ev G md (pc + 1) L (.int (x.toInt8.toInt32) :: st) M X) : ng_Ev G md pc L (.int x :: st) M X :=
  k.pure rfl fun C _ _ hl _ kk => lv_i2b C.1 C.2.1 hd rfl (kk _ hl)
theorem ev_i2s {x : Int32} (hd : decode (md_c md) pc = .ok (.i2s, 1)) (k : ng_Ev G md (pc + 1) L (.int (x.toInt16.toInt32) :: st) M X) : ng_Ev G md pc L (.int x :: st) M X :=
  k.pure rfl fun C _ _ hl _ kk => lv_i2s C.1 C.2.1 hd rfl (kk _ hl)
theorem ev_lcmp {x y : Int64} (hd : decode (md_c md) pc = .ok (.lcmp, 1)) (k : ng_Ev G md (pc + 1) L (.int (lg_cmp x y) :: st) M X) : ng_Ev G md pc L (.long y :: .long x :: st) M X :=
  k.pure rfl fun C _ _ hl _ kk => W.lcmp C.1 C.2.1 hd (kk _ hl)
theorem ev_dup {v : Value} (hd : decode (md_c md) pc = .ok (.dup, 1)) (hv : v.category = 1) (k : ng_Ev G md (pc + 1) L (v :: v :: st) M X) : ng_Ev G md pc L (v :: st) M X :=
  k.pure rfl fun C _ _ hl _ kk => lv_dup C.1 C.2.1 hd ((ng_av_c G v).trans hv) (kk _ hl)
theorem ev_pop {v : Value} (hd : decode (md_c md) pc = .ok (.pop, 1)) (hv : v.category = 1) (k : ng_Ev G md (pc + 1) L st M X) : ng_Ev G md pc L (v :: st) M X :=
  k.pure rfl fun C _ _ hl _ kk => lv_pop C.1 C.2.1 hd ((ng_av_c G v).trans hv) (kk _ hl)
theorem ev_dup2 {v w : Value} (hd : decode (md_c md) pc = .ok (.dup2, 1)) (hv : v.category = 1) (hw : w.category = 1) (k : ng_Ev G md (pc + 1) L (v :: w :: v :: w :: st) M X) : ng_Ev G md pc L (v :: w :: st) M X :=
  k.pure rfl fun C _ _ hl _ kk => lv_dup2_11 C.1 C.2.1 hd ((ng_av_c G v).trans hv) ((ng_av_c G w).trans hw) (kk _ hl)
theorem ev_goto {off : Int} {tgt : Nat} (hd : decode (md_c md) pc = .ok (.goto off, 3)) (ht : (pc : Int) + off = (tgt : Int)) (k : ng_Ev G md tgt L st M X) : ng_Ev G md pc L st M X :=
  k.pure rfl fun C _ _ hl _ kk => lv_goto C.1 C.2.1 hd ht (kk _ hl)
theorem ng_Ev.br {c : Prop} [hc : Decidable c] {tgt pc' : Nat} {st' : List Value} {X Y : ng_RR} (kt : c → ng_Ev G md tgt L st' M X) (kf : ¬ c → ng_Ev G md pc' L st' M Y)
    (h : ∀ {p : Program} {e : Env} {R : Room} {s : State} {m : MethodId} {args : Array Value} {below : List Frame} {meth : Method} {co : Code} {H : Heap} {locs : List Loc} {cells slots : Nat} {ls : Array Slot} {Q : State → Prop}, ng_CX G md p R s m meth co → 
      (c → W p (ng_l G) e R s m args below meth co H locs cells slots Q (F0 m tgt ls (st'.map (ng_av G)))) → (¬ c → W p (ng_l G) e R s m args below meth co H locs cells slots Q (F0 m pc' ls (st'.map (ng_av G)))) → W p (ng_l G) e R s m args below meth co H locs cells slots Q (F0 m pc ls (st.map (ng_av G)))) : ng_Ev G md pc L st M (if c then X else Y) := by
  by_cases q : c
  · rw [if_pos q]
    exact (kt q).pure rfl fun C _ _ hl _ kk => h C (fun _ => kk _ hl) (fun z => absurd q z)
  · rw [if_neg q]
    exact (kf q).pure rfl fun C _ _ hl _ kk => h C (fun z => absurd z q) (fun _ => kk _ hl)
theorem ev_if_eq {x : Int32} [hc : Decidable (x = 0)] {off : Int} {tgt : Nat} {Y : ng_RR} (hd : decode (md_c md) pc = .ok (.ifCond .eq off, 3)) (ht : (pc : Int) + off = (tgt : Int)) (kt : x = 0 → ng_Ev G md tgt L st M X) (kf : ¬ x = 0 → ng_Ev G md (pc + 3) L st M Y) : ng_Ev G md pc L (.int x :: st) M (if x = 0 then X else Y) :=
  ng_Ev.br kt kf fun C a b => lv_if_eq C.1 C.2.1 hd ht a b
theorem ev_icmp_eq {x y : Int32} [hc : Decidable (x = y)] {off : Int} {tgt : Nat} {Y : ng_RR} (hd : decode (md_c md) pc = .ok (.if_icmp .eq off, 3)) (ht : (pc : Int) + off = (tgt : Int)) (kt : x = y → ng_Ev G md tgt L st M X) (kf : ¬ x = y → ng_Ev G md (pc + 3) L st M Y) : ng_Ev G md pc L (.int y :: .int x :: st) M (if x = y then X else Y) :=
  ng_Ev.br kt kf fun C a b => lv_icmp_eq C.1 C.2.1 hd ht a b
theorem ev_if_ne {x : Int32} [hc : Decidable (x = 0)] {off : Int} {tgt : Nat} {Y : ng_RR} (hd : decode (md_c md) pc = .ok (.ifCond .ne off, 3)) (ht : (pc : Int) + off = (tgt : Int)) (kt : ¬ x = 0 → ng_Ev G md tgt L st M Y) (kf : x = 0 → ng_Ev G md (pc + 3) L st M X) : ng_Ev G md pc L (.int x :: st) M (if x = 0 then X else Y) :=
  ng_Ev.br kf kt fun C a b => lv_if_ne C.1 C.2.1 hd ht b a
theorem ev_icmp_ne {x y : Int32} [hc : Decidable (x = y)] {off : Int} {tgt : Nat} {Y : ng_RR} (hd : decode (md_c md) pc = .ok (.if_icmp .ne off, 3)) (ht : (pc : Int) + off = (tgt : Int)) (kt : ¬ x = y → ng_Ev G md tgt L st M Y) (kf : x = y → ng_Ev G md (pc + 3) L st M X) : ng_Ev G md pc L (.int y :: .int x :: st) M (if x = y then X else Y) :=
  ng_Ev.br kf kt fun C a b => lv_icmp_ne C.1 C.2.1 hd ht b a
theorem ev_if_lt {x : Int32} [hc : Decidable (x < 0)] {off : Int} {tgt : Nat} {Y : ng_RR} (hd : decode (md_c md) pc = .ok (.ifCond .lt off, 3)) (ht : (pc : Int) + off = (tgt : Int)) (kt : x < 0 → ng_Ev G md tgt L st M X) (kf : ¬ x < 0 → ng_Ev G md (pc + 3) L st M Y) : ng_Ev G md pc L (.int x :: st) M (if x < 0 then X else Y) :=
  ng_Ev.br kt kf fun C a b => lv_if_lt C.1 C.2.1 hd ht a b
theorem ev_icmp_lt {x y : Int32} [hc : Decidable (x < y)] {off : Int} {tgt : Nat} {Y : ng_RR} (hd : decode (md_c md) pc = .ok (.if_icmp .lt off, 3)) (ht : (pc : Int) + off = (tgt : Int)) (kt : x < y → ng_Ev G md tgt L st M X) (kf : ¬ x < y → ng_Ev G md (pc + 3) L st M Y) : ng_Ev G md pc L (.int y :: .int x :: st) M (if x < y then X else Y) :=
  ng_Ev.br kt kf fun C a b => lv_icmp_lt C.1 C.2.1 hd ht a b
theorem ev_if_ge {x : Int32} [hc : Decidable (0 ≤ x)] {off : Int} {tgt : Nat} {Y : ng_RR} (hd : decode (md_c md) pc = .ok (.ifCond .ge off, 3)) (ht : (pc : Int) + off = (tgt : Int)) (kt : 0 ≤ x → ng_Ev G md tgt L st M X) (kf : ¬ 0 ≤ x → ng_Ev G md (pc + 3) L st M Y) : ng_Ev G md pc L (.int x :: st) M (if 0 ≤ x then X else Y) :=
  ng_Ev.br kt kf fun C a b => lv_if_ge C.1 C.2.1 hd ht a b
theorem ev_icmp_ge {x y : Int32} [hc : Decidable (y ≤ x)] {off : Int} {tgt : Nat} {Y : ng_RR} (hd : decode (md_c md) pc = .ok (.if_icmp .ge off, 3)) (ht : (pc : Int) + off = (tgt : Int)) (kt : y ≤ x → ng_Ev G md tgt L st M X) (kf : ¬ y ≤ x → ng_Ev G md (pc + 3) L st M Y) : ng_Ev G md pc L (.int y :: .int x :: st) M (if y ≤ x then X else Y) :=
  ng_Ev.br kt kf fun C a b => lv_icmp_ge C.1 C.2.1 hd ht a b
theorem ev_if_gt {x : Int32} [hc : Decidable (0 < x)] {off : Int} {tgt : Nat} {Y : ng_RR} (hd : decode (md_c md) pc = .ok (.ifCond .gt off, 3)) (ht : (pc : Int) + off = (tgt : Int)) (kt : 0 < x → ng_Ev G md tgt L st M X) (kf : ¬ 0 < x → ng_Ev G md (pc + 3) L st M Y) : ng_Ev G md pc L (.int x :: st) M (if 0 < x then X else Y) :=
  ng_Ev.br kt kf fun C a b => lv_if_gt C.1 C.2.1 hd ht a b
theorem ev_icmp_gt {x y : Int32} [hc : Decidable (y < x)] {off : Int} {tgt : Nat} {Y : ng_RR} (hd : decode (md_c md) pc = .ok (.if_icmp .gt off, 3)) (ht : (pc : Int) + off = (tgt : Int)) (kt : y < x → ng_Ev G md tgt L st M X) (kf : ¬ y < x → ng_Ev G md (pc + 3) L st M Y) : ng_Ev G md pc L (.int y :: .int x :: st) M (if y < x then X else Y) :=
  ng_Ev.br kt kf fun C a b => lv_icmp_gt C.1 C.2.1 hd ht a b
theorem ev_if_le {x : Int32} [hc : Decidable (x ≤ 0)] {off : Int} {tgt : Nat} {Y : ng_RR} (hd : decode (md_c md) pc = .ok (.ifCond .le off, 3)) (ht : (pc : Int) + off = (tgt : Int)) (kt : x ≤ 0 → ng_Ev G md tgt L st M X) (kf : ¬ x ≤ 0 → ng_Ev G md (pc + 3) L st M Y) : ng_Ev G md pc L (.int x :: st) M (if x ≤ 0 then X else Y) :=
  ng_Ev.br kt kf fun C a b => lv_if_le C.1 C.2.1 hd ht a b
theorem ev_icmp_le {x y : Int32} [hc : Decidable (x ≤ y)] {off : Int} {tgt : Nat} {Y : ng_RR} (hd : decode (md_c md) pc = .ok (.if_icmp .le off, 3)) (ht : (pc : Int) + off = (tgt : Int)) (kt : x ≤ y → ng_Ev G md tgt L st M X) (kf : ¬ x ≤ y → ng_Ev G md (pc + 3) L st M Y) : ng_Ev G md pc L (.int y :: .int x :: st) M (if x ≤ y then X else Y) :=
  ng_Ev.br kt kf fun C a b => lv_icmp_le C.1 C.2.1 hd ht a b
theorem ev_ifnull_r {a : Nat} {off : Int} (hd : decode (md_c md) pc = .ok (.ifnull off, 3)) (k : ng_Ev G md (pc + 3) L st M X) : ng_Ev G md pc L (.ref a :: st) M X :=
  k.pure rfl fun C _ _ hl _ kk => lv_ifnull C.1 C.2.1 hd (kk _ hl)
theorem ev_ifnull_n {off : Int} {tgt : Nat} (hd : decode (md_c md) pc = .ok (.ifnull off, 3)) (ht : (pc : Int) + off = (tgt : Int)) (k : ng_Ev G md tgt L st M X) : ng_Ev G md pc L (.null :: st) M X :=
  k.pure rfl fun C _ _ hl _ kk => lv_ifnullN C.1 C.2.1 hd ht (kk _ hl)
theorem ev_ifnonnull_r {a : Nat} {off : Int} {tgt : Nat} (hd : decode (md_c md) pc = .ok (.ifnonnull off, 3)) (ht : (pc : Int) + off = (tgt : Int)) (k : ng_Ev G md tgt L st M X) : ng_Ev G md pc L (.ref a :: st) M X :=
  k.pure rfl fun C _ _ hl _ kk => lv_ifnonnull C.1 C.2.1 hd ht (kk _ hl)
theorem ev_ifnonnull_n {off : Int} (hd : decode (md_c md) pc = .ok (.ifnonnull off, 3)) (k : ng_Ev G md (pc + 3) L st M X) : ng_Ev G md pc L (.null :: st) M X :=
  k.pure rfl fun C _ _ hl _ kk => lv_ifnonnullN C.1 C.2.1 hd (kk _ hl)
theorem ev_tab_in {dflt lo hi : Int} {offs : Array Int} {len : Nat} {x : Int32} {off : Int} {tgt : Nat} (hd : decode (md_c md) pc = .ok (.tableswitch dflt lo hi offs, len)) (h1 : ¬ x.toInt < lo) (h2 : ¬ hi < x.toInt) (ho : offs[(x.toInt - lo).toNat]? = some off) (ht : (pc : Int) + off = (tgt : Int)) (k : ng_Ev G md tgt L st M X) : ng_Ev G md pc L (.int x :: st) M X :=
  k.pure rfl fun C _ _ hl _ kk => lv_tableIn C.1 C.2.1 hd h1 h2 ho ht (kk _ hl)
theorem ev_tab_out {dflt lo hi : Int} {offs : Array Int} {len : Nat} {x : Int32} {tgt : Nat} (hd : decode (md_c md) pc = .ok (.tableswitch dflt lo hi offs, len)) (h : x.toInt < lo ∨ hi < x.toInt) (ht : (pc : Int) + dflt = (tgt : Int)) (k : ng_Ev G md tgt L st M X) : ng_Ev G md pc L (.int x :: st) M X :=
  k.pure rfl fun C _ _ hl _ kk => lv_tableOut C.1 C.2.1 hd h ht (kk _ hl)
end EVR
