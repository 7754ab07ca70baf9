section EVH
variable {G : ng_GG} {md : ng_MD} {pc : Nat} {L : ng_LL} {st : List Value} {M : ng_AM} {X : ng_RR}
theorem ng_Ev.heap {pc' : Nat} {st' : List Value} {M1 : ng_AM} (k : ng_Ev G md pc' L st' M1 X) (hn : M1.length = M.length) (hz : ng_sz M1 = ng_sz M)
    (h : ∀ {p : Program} {e : Env} {R : Room} {s : State} {m : MethodId} {args : Array Value} {below : List Frame} {meth : Method} {c : Code} {H : Heap} {locs : List Loc} {cells slots : Nat} {ls : Array Slot} {Q : State → Prop}, ng_CX G md p R s m meth c → va_P (ng_D G) vwCl (ng_ws G M) H → va_S (ng_fr G) s.heap H locs → ls.size = md_L md →
      (∀ (H1 : Heap) (locs1 : List Loc), va_P (ng_D G) vwCl (ng_ws G M1) H1 → va_S (ng_fr G) s.heap H1 locs1 → W p (ng_l G) e R s m args below meth c H1 locs1 cells slots Q (F0 m pc' ls (st'.map (ng_av G)))) → W p (ng_l G) e R s m args below meth c H locs cells slots Q (F0 m pc ls (st.map (ng_av G)))) : ng_Ev G md pc L st M X := by
  refine ⟨by rw [← hn]; exact k.1, by rw [← hz]; exact k.2.1, fun p e R s m args below meth c C H locs cells slots ls n0 z0 h1 h2 h3 h4 h5 h6 h7 h8 h9 => ?_⟩
  exact h C h2 h3 (h4.1.trans h5) fun H1 locs1 g2 g3 => k.2.2 p e R s m args below meth c C H1 locs1 cells slots ls n0 z0 h1 g2 g3 h4 h5 (h6.trans hn.symm) (h7.trans hz.symm) h8 h9
/-- the heap has just the cells that are counted -/
theorem ng_hs {p : Program} {l : Launch} {e : Env} {R : Room} {s : State} {m : MethodId} {args : Array Value} {below : List Frame} {meth : Method} {c : Code} {H : Heap} {locs : List Loc} {cells slots : Nat} {Q : State → Prop} {g : JFrame}
    (h : H.size ≤ s.heap.size + cells → W p l e R s m args below meth c H locs cells slots Q g) : W p l e R s m args below meth c H locs cells slots Q g := by
  intro T hT S
  exact h (by rw [← hT]; exact S.heapSize) T hT S
theorem ng_q {q : Nat} {e : va_E} (hD : va_D (ng_fr G) (ng_ws G M ++ [(q, e)])) (hq : q < ng_B G + M.length + 1) : q = ng_B G + M.length := by
  have hlen : (ng_ws G M).length = M.length := by simp [ng_ws]
  have h1 : (ng_ws G M ++ [(q, e)])[M.length]? = some (q, e) := by rw [List.getElem?_append_right (by omega)]; simp [hlen]
  have h2 : ng_B G ≤ q := hD.2 _ _ h1
  rcases Nat.lt_or_ge q (ng_B G + M.length) with h3 | h3
  · exfalso
    have h4 : q - ng_B G < M.length := by omega
    have h5 : (ng_ws G M ++ [(q, e)])[q - ng_B G]? = some (ng_B G + (q - ng_B G), ng_ac G M[q - ng_B G]) := by
      rw [List.getElem?_append_left (by omega)]
      exact ng_ws_g (List.getElem?_eq_getElem h4)
    have h6 := hD.1 _ _ _ _ h1 h5 (by simp only; omega)
    omega
  · omega
theorem ng_Ev.mk {pc' : Nat} {st0 : List Value} {c0 : ng_AC} (k : ng_Ev G md pc' L (.ref M.length :: st) (M ++ [c0]) X)
    (h : ∀ {p : Program} {e : Env} {R : Room} {s : State} {m : MethodId} {args : Array Value} {below : List Frame} {meth : Method} {c : Code} {H : Heap} {locs : List Loc} {cells slots : Nat} {ls : Array Slot} {Q : State → Prop}, ng_CX G md p R s m meth c → va_P (ng_D G) vwCl (ng_ws G M) H → va_S (ng_fr G) s.heap H locs → (∀ q, s.heap.size ≤ q → ng_fr G q) → cells + 1 ≤ R.cells → slots + ng_cs c0 ≤ R.slots →
      (∀ (q : Nat) (H1 : Heap), va_P (ng_D G) vwCl (ng_ws G M ++ [(q, ng_ac G c0)]) H1 → va_D (ng_fr G) (ng_ws G M ++ [(q, ng_ac G c0)]) → va_S (ng_fr G) s.heap H1 locs → W p (ng_l G) e R s m args below meth c H1 locs (cells + 1) (slots + ng_cs c0) Q (F0 m pc' ls (.ref q :: st.map (ng_av G)))) → W p (ng_l G) e R s m args below meth c H locs cells slots Q (F0 m pc ls (st0.map (ng_av G)))) : ng_Ev G md pc L st0 M X := by
  have k1 := k.1
  have k2 := k.2.1
  rw [List.length_append, List.length_singleton] at k1
  rw [ng_sz_p] at k2
  refine ⟨by omega, by omega, fun p e R s m args below meth c C H locs cells slots ls n0 z0 h1 h2 h3 h4 h5 h6 h7 h8 h9 => ?_⟩
  refine h C h2 h3 (fun q hq => by show ng_B G ≤ q; omega) (by omega) (by omega) fun q H1 g1 g2 g3 => ?_
  refine ng_hs fun hsz => ?_
  have hlen : (ng_ws G M).length = M.length := by simp [ng_ws]
  have hlt : q < H1.size := (g1 M.length (q, ng_ac G c0) (by rw [List.getElem?_append_right (by omega)]; simp [hlen])).lt
  have hq : q = ng_B G + M.length := ng_q g2 (by omega)
  subst hq
  rw [← ng_ws_p] at g1
  exact k.2.2 p e R s m args below meth c C H1 locs (cells + 1) (slots + ng_cs c0) ls n0 z0 h1 g1 g3 h4 h5 (by rw [List.length_append, List.length_singleton]; omega) (by rw [ng_sz_p]; omega) h8 h9
def ng_okC (C : String) (T : u_T) (N : Nat) : Prop := ∀ w ∈ u_ws C T N, w ∈ lw_tbl ∧ goodWord w = true
def ng_fld (own : String) (idx ci k : Nat) : Prop := ∃ (C : String) (T : u_T) (N : Nat), vwCl[ci]? = some (C, T, N) ∧ ng_okC C T N ∧ k < N ∧ Cond.fieldLink own idx (T k).1 (T k).2.1 (T k).2.2.1 ∈ lw_tbl
def ng_fls (own : String) (idx ci k : Nat) (ty : FieldType) (fin : Bool) : Prop := ∃ (C : String) (T : u_T) (N : Nat) (ty0 : Nat → FieldType), vwCl[ci]? = some (C, T, N) ∧ ng_okC C T N ∧ k < N ∧ Cond.fieldLink own idx (T k).1 (T k).2.1 (T k).2.2.1 ∈ lw_tbl ∧
  (∀ k, k < N → parseFieldDescriptor (T k).2.2.1 = some (ty0 k)) ∧ (∀ a, a < N → ∀ b, b < N → a ≠ b → (T a).2.1 ≠ (T b).2.1) ∧ (T k).2.2.2 = fin ∧ parseFieldDescriptor (T k).2.2.1 = some ty ∧ (fin = true → (T k).1 = own)
theorem ng_okC.hts {C : String} {T : u_T} {N : Nat} (h : ng_okC C T N) {s : State} (hC : ng_CT s) {args : Array Value} : ∀ w ∈ u_ws C T N, w.before args s = true := fun w hw => hC.use (h w hw).1 (h w hw).2
def ng_fit (ty : FieldType) (v : Value) : Prop := narrow ty v = v ∧ fits ty v = true ∧ (match v with | .float _ => False | _ => True)
theorem ng_fit.av {ty : FieldType} {v : Value} (h : ng_fit ty v) : narrow ty (ng_av G v) = ng_av G v ∧ fits ty (ng_av G v) = true := by
  obtain ⟨h1, h2, h3⟩ := h
  cases v with
  | float u => cases h3
  | ref a => exact ⟨by cases ty <;> rfl, by cases ty <;> first | rfl | exact h2⟩
  | _ => exact ⟨h1, h2⟩
theorem ng_fit_i (x : Int32) : ng_fit .int (.int x) := ⟨rfl, rfl, trivial⟩
theorem ng_fit_o (C : String) (a : Nat) : ng_fit (.object C) (.ref a) := ⟨rfl, rfl, trivial⟩
theorem ng_fit_n (C : String) : ng_fit (.object C) .null := ⟨rfl, rfl, trivial⟩
theorem ng_fit_a (t : FieldType) (a : Nat) : ng_fit (.array t) (.ref a) := ⟨rfl, rfl, trivial⟩
theorem ng_fit_0 : ng_fit .boolean (.int 0) := ⟨by decide, by decide, trivial⟩
theorem ng_fit_1 : ng_fit .boolean (.int 1) := ⟨by decide, by decide, trivial⟩
theorem ng_fit_z {x : Int32} (h : x = 0 ∨ x = 1) : ng_fit .boolean (.int x) := by
  rcases h with rfl | rfl
  · exact ng_fit_0
  · exact ng_fit_1
theorem ev_get {idx a : Nat} {fs : List Value} {v : Value} (ci k : Nat) (hf : ng_fld (md_o md) idx ci k) (hM : M[a]? = some (.inr (ci, fs))) (hv : fs[k]? = some v) (hd : decode (md_c md) pc = .ok (.getfield idx, 3)) (kk : ng_Ev G md (pc + 3) L (v :: st) M X) : ng_Ev G md pc L (.ref a :: st) M X := by
  obtain ⟨C, T, N, hc, hu, hk, hl⟩ := hf
  refine kk.pure rfl fun K hP _ hls _ k2 => va_get K.1 K.2.1 (hu.hts K.2.2.2.2.2.2.2.1) (fun _ h => h) K.2.2.2.2.1 K.2.2.2.2.2.2.2.2.1 hP a (ng_ws_g hM) hc k hk (K.2.2.2.2.2.2.2.1.use hl rfl) (fun _ h => h) (v := ng_av G v) (by rw [List.getElem?_map, hv]; rfl) hd (k2 _ hls)
theorem ng_set_c {k : Nat} {c c' : ng_AC} (h : M[k]? = some c) : (M.set k c').length = M.length := by simp
theorem ev_put {idx a : Nat} {fs fs' : List Value} {v : Value} {ty : FieldType} {M1 : ng_AM} (ci k : Nat) (hf : ng_fls (md_o md) idx ci k ty false) (hM : M[a]? = some (.inr (ci, fs))) (hl : k < fs.length) (hs : fs.set k v = fs') (hM1 : M.set a (.inr (ci, fs')) = M1) (hv : ng_fit ty v) (hd : decode (md_c md) pc = .ok (.putfield idx, 3)) (kk : ng_Ev G md (pc + 3) L st M1 X) : ng_Ev G md pc L (v :: .ref a :: st) M X := by
  obtain ⟨C, T, N, ty0, hc, hu, hk, hlk, h1, h2, h3, h4, -⟩ := hf
  subst hs
  subst hM1
  refine kk.heap (by simp) (ng_sz_s hM (by simp [ng_cs])) fun K hP hS _ k2 => va_put K.1 K.2.1 (hu.hts K.2.2.2.2.2.2.2.1) (fun _ h => h) ty0 h1 h2 K.2.2.2.2.1 K.2.2.2.2.2.2.2.2.1 hP (ng_ws_D G M) hS a (ng_ws_g hM) hc k hk (K.2.2.2.2.2.2.2.1.use hlk rfl) (fun _ h => h) h3 h4 (hv.av (G := G)).1 (hv.av (G := G)).2 (by rw [List.length_map]; exact hl) hd (fun H1 locs1 g1 _ g3 => k2 H1 locs1 ?_ g3)
  rw [← List.map_set] at g1
  rw [← ng_ws_s]
  exact g1
theorem ev_putF {idx a : Nat} {fs fs' : List Value} {v : Value} {ty : FieldType} {M1 : ng_AM} (ci k : Nat) (hf : ng_fls (md_o md) idx ci k ty true) (hi : (md_y md).name = "<init>") (hM : M[a]? = some (.inr (ci, fs))) (hl : k < fs.length) (hs : fs.set k v = fs') (hM1 : M.set a (.inr (ci, fs')) = M1) (hv : ng_fit ty v) (hd : decode (md_c md) pc = .ok (.putfield idx, 3)) (kk : ng_Ev G md (pc + 3) L st M1 X) : ng_Ev G md pc L (v :: .ref a :: st) M X := by
  obtain ⟨C, T, N, ty0, hc, hu, hk, hlk, h1, h2, h3, h4, h5⟩ := hf
  subst hs
  subst hM1
  refine kk.heap (by simp) (ng_sz_s hM (by simp [ng_cs])) fun K hP hS _ k2 => va_putF K.1 K.2.1 (hu.hts K.2.2.2.2.2.2.2.1) (fun _ h => h) ty0 h1 h2 K.2.2.2.2.1 K.2.2.2.2.2.2.2.2.1 hP (ng_ws_D G M) hS a (ng_ws_g hM) hc k hk (K.2.2.2.2.2.2.2.1.use hlk rfl) (fun _ h => h) h3 (K.2.2.2.2.2.2.1 hi) (h5 rfl) h4 (hv.av (G := G)).1 (hv.av (G := G)).2 (by rw [List.length_map]; exact hl) hd (fun H1 locs1 g1 _ g3 => k2 H1 locs1 ?_ g3)
  rw [← List.map_set] at g1
  rw [← ng_ws_s]
  exact g1
theorem ev_iald {a n : Nat} {f : Nat → Int32} {i : Int32} (hM : M[a]? = some (.inl (0, n, .inl f))) (hin : vp_in i n) (hd : decode (md_c md) pc = .ok (.iaload, 1)) (kk : ng_Ev G md (pc + 1) L (.int (f i.toNatClampNeg) :: st) M X) : ng_Ev G md pc L (.int i :: .ref a :: st) M X :=
  kk.pure rfl fun K hP _ hls _ k2 => va_iald K.1 K.2.1 K.2.2.2.2.2.2.2.2.1 hP a 0 (ng_ws_g hM) rfl hin hd (k2 _ hls)
theorem ev_lald {a n : Nat} {f : Nat → Int64} {i : Int32} (hM : M[a]? = some (.inl (1, n, .inr (.inl f)))) (hin : vp_in i n) (hd : decode (md_c md) pc = .ok (.laload, 1)) (kk : ng_Ev G md (pc + 1) L (.long (f i.toNatClampNeg) :: st) M X) : ng_Ev G md pc L (.int i :: .ref a :: st) M X :=
  kk.pure rfl fun K hP _ hls _ k2 => va_lald K.1 K.2.1 K.2.2.2.2.2.2.2.2.1 hP a 1 (ng_ws_g hM) rfl hin hd (k2 _ hls)
theorem ev_iast {a n : Nat} {f : Nat → Int32} {i x : Int32} {M1 : ng_AM} (hM : M[a]? = some (.inl (0, n, .inl f))) (hin : vp_in i n) (hM1 : M.set a (.inl (0, n, .inl (upd f i.toNatClampNeg x))) = M1) (hd : decode (md_c md) pc = .ok (.iastore, 1)) (kk : ng_Ev G md (pc + 1) L st M1 X) : ng_Ev G md pc L (.int x :: .int i :: .ref a :: st) M X := by
  subst hM1
  refine kk.heap (by simp) (ng_sz_s hM rfl) fun K hP hS _ k2 => va_iast K.1 K.2.1 K.2.2.2.2.2.2.2.2.1 hP (ng_ws_D G M) hS a 0 (ng_ws_g hM) rfl hin hd (fun H1 locs1 g1 _ g3 => k2 H1 locs1 ?_ g3)
  rw [← ng_ws_s]
  exact g1
theorem ev_last {a n : Nat} {f : Nat → Int64} {i : Int32} {x : Int64} {M1 : ng_AM} (hM : M[a]? = some (.inl (1, n, .inr (.inl f)))) (hin : vp_in i n) (hM1 : M.set a (.inl (1, n, .inr (.inl (vp_updL f i.toNatClampNeg x)))) = M1) (hd : decode (md_c md) pc = .ok (.lastore, 1)) (kk : ng_Ev G md (pc + 1) L st M1 X) : ng_Ev G md pc L (.long x :: .int i :: .ref a :: st) M X := by
  subst hM1
  refine kk.heap (by simp) (ng_sz_s hM rfl) fun K hP hS _ k2 => va_last K.1 K.2.1 K.2.2.2.2.2.2.2.2.1 hP (ng_ws_D G M) hS a 1 (ng_ws_g hM) rfl hin hd (fun H1 locs1 g1 _ g3 => k2 H1 locs1 ?_ g3)
  rw [← ng_ws_s]
  exact g1
theorem ng_rf_av (o : Option Nat) : va_rf (o.map (fun k => ng_B G + k)) = ng_av G (va_rf o) := by cases o <;> rfl
theorem ev_aald {a n t : Nat} {f : Nat → Option Nat} {i : Int32} (C : String) (ht : ∀ G : ng_GG, (ng_tys G)[t]? = some (ng_A G t, .object C)) (hM : M[a]? = some (.inl (t, n, .inr (.inr (.inr (.inr f)))))) (hin : vp_in i n) (hd : decode (md_c md) pc = .ok (.aaload, 1)) (kk : ng_Ev G md (pc + 1) L (va_rf (f i.toNatClampNeg) :: st) M X) : ng_Ev G md pc L (.int i :: .ref a :: st) M X := by
  refine kk.pure rfl fun K hP _ hls _ k2 => va_aldq K.1 K.2.1 K.2.2.2.2.2.2.2.2.1 hP a t (ng_ws_g hM) (ht G) hin hd ?_
  rw [ng_rf_av]
  exact k2 _ hls
theorem ev_aast {a n t v ci : Nat} {f : Nat → Option Nat} {vs : List Value} {i : Int32} {M1 : ng_AM} (r : vw_C) (ht : ∀ G : ng_GG, (ng_tys G)[t]? = some (ng_A G t, .object r.1)) (hc : vwCl[ci]? = some r) (hM : M[a]? = some (.inl (t, n, .inr (.inr (.inr (.inr f)))))) (hv : M[v]? = some (.inr (ci, vs))) (hin : vp_in i n) (hM1 : M.set a (.inl (t, n, .inr (.inr (.inr (.inr (va_up f i.toNatClampNeg (some v))))))) = M1) (hd : decode (md_c md) pc = .ok (.aastore, 1)) (kk : ng_Ev G md (pc + 1) L st M1 X) : ng_Ev G md pc L (.ref v :: .int i :: .ref a :: st) M X := by
  subst hM1
  refine kk.heap (by simp) (ng_sz_s hM rfl) fun K hP hS _ k2 => va_astq K.1 K.2.1 K.2.2.2.2.2.2.2.2.1 hP (ng_ws_D G M) hS a t v ci (ng_ws_g hM) (ht G) (ng_ws_g hv) hc hin hd (fun H1 locs1 g1 _ g3 => k2 H1 locs1 ?_ g3)
  rw [← ng_ws_s]
  have e : (fun i_1 => Option.map (fun k => ng_B G + k) (va_up f i.toNatClampNeg (some v) i_1)) = va_up (fun i => Option.map (fun k => ng_B G + k) (f i)) i.toNatClampNeg (some (ng_B G + v)) := by
    funext j
    unfold va_up
    split <;> rfl
  show va_P _ _ (List.set _ _ (_, Sum.inl (_, _, Sum.inr (Sum.inr (Sum.inr (Sum.inr _)))))) _
  rw [e]
  exact g1
theorem ev_alen {a t : Nat} {x : vp_A} {v : Int32} (ty : FieldType) (ht : ∀ G : ng_GG, (ng_tys G)[t]? = some (ng_A G t, ty)) (hM : M[a]? = some (.inl (t, x))) (hv : Int32.ofNat x.1 = v) (hd : decode (md_c md) pc = .ok (.arraylength, 1)) (kk : ng_Ev G md (pc + 1) L (.int v :: st) M X) : ng_Ev G md pc L (.ref a :: st) M X := by
  refine kk.pure rfl fun K hP _ hls _ k2 => va_alen K.1 K.2.1 K.2.2.2.2.2.2.2.2.1 hP a t (ng_ws_g hM) (ht G) (v := v) ?_ hd (k2 _ hls)
  rw [← hv]
  obtain ⟨n, x⟩ := x
  rcases x with x | x | x | x | x <;> rfl
theorem ev_new {idx : Nat} (ci : Nat) (C : String) (T : u_T) (N : Nat) (ty : Nat → FieldType) (fs : List Value) (hc : vwCl[ci]? = some (C, T, N)) (hu : ng_okC C T N) (hty : ∀ k, k < N → parseFieldDescriptor (T k).2.2.1 = some (ty k)) (h1 : Cond.classLink (md_o md) idx C ∈ lw_tbl) (h2 : Cond.instantiable C N ∈ lw_tbl) (h3 : Cond.initialized C ∈ lw_tbl) (hl : fs.length = N) (hm : ∀ G : ng_GG, fs.map (ng_av G) = fs) (hfs : ∀ j, j < N → defaultValue (ty j) = vp_V fs j) (hd : decode (md_c md) pc = .ok (.new idx, 3))
    (kk : ng_Ev G md (pc + 3) L (.ref M.length :: st) (M ++ [.inr (ci, fs)]) X) : ng_Ev G md pc L st M X := by
  subst hl
  refine kk.mk fun K hP hS hA q1 q2 k2 => va_new (ci := ci) (fs := fs) K.1 K.2.1 (hu.hts K.2.2.2.2.2.2.2.1) (fun _ h => h) ty hty K.2.2.2.2.1 (K.2.2.2.2.2.2.2.1.use h1 rfl) (K.2.2.2.2.2.2.2.1.use h2 rfl) (K.2.2.2.2.2.2.2.1.use h3 rfl) K.2.2.2.2.2.2.2.2.1 hP (ng_ws_D G M) hS hA hc hfs q1 q2 hd (fun q H1 g1 g2 g3 => k2 q H1 ?_ ?_ g3)
  · show va_P _ _ (_ ++ [(q, .inr (ci, fs.map (ng_av G)))]) _
    rw [hm]; exact g1
  · show va_D _ (_ ++ [(q, .inr (ci, fs.map (ng_av G)))])
    rw [hm]; exact g2
theorem ng_cA {s : State} {D : va_G} {cl : List vw_C} {tys : List (ClassId × FieldType)} {cA cB : ClassId} {ty : FieldType} {t : Nat} (h : va_K D cl (tys ++ [(cA, ty)]) s) (ht : tys[t]? = some (cB, ty)) : cA = cB := by
  have e1 := (h.2 tys.length (cA, ty) (by simp)).2
  have hl := (List.getElem?_eq_some_iff.mp ht).1
  have e2 := (h.2 t (cB, ty) (by rw [List.getElem?_append_left hl]; exact ht)).2
  cases ty with
  | object C =>
    obtain ⟨_, _, _, _, _, h4⟩ := e1
    obtain ⟨_, _, _, _, _, h5⟩ := e2
    exact Option.some.inj (h4.symm.trans h5)
  | _ => exact Option.some.inj (Eq.symm (Eq.trans (Eq.symm e2) e1))
theorem ev_newi {n : Int32} (N : Nat) (h1 : Cond.arrayClass .int ∈ lw_tbl) (hn : ¬ n < 0) (hN : n.toNatClampNeg = N) (hb : N * 4 ≤ 536870912) (hd : decode (md_c md) pc = .ok (.newarray .int, 2)) (kk : ng_Ev G md (pc + 2) L (.ref M.length :: st) (M ++ [.inl (0, N, .inl (fun _ => 0))]) X) : ng_Ev G md pc L (.int n :: st) M X := by
  refine kk.mk fun K hP hS hA q1 q2 k2 => va_newa (atype := .int) (ty := .int) (a0 := (N, .inl (fun _ => 0))) K.1 K.2.1 (K.2.2.2.2.2.2.2.1.use h1 rfl) rfl K.2.2.2.2.2.2.2.2.1 hP (ng_ws_D G M) hS hA (fun cA => rfl) hn hN hb q1 q2 hd (fun q cA H1 g0 g1 g2 g3 => ?_)
  have e := ng_cA (t := 0) g0 rfl
  subst e
  exact k2 q H1 g1 g2 g3
theorem ev_newl {n : Int32} (N : Nat) (h1 : Cond.arrayClass .long ∈ lw_tbl) (hn : ¬ n < 0) (hN : n.toNatClampNeg = N) (hb : N * 8 ≤ 536870912) (hd : decode (md_c md) pc = .ok (.newarray .long, 2)) (kk : ng_Ev G md (pc + 2) L (.ref M.length :: st) (M ++ [.inl (1, N, .inr (.inl (fun _ => 0)))]) X) : ng_Ev G md pc L (.int n :: st) M X := by
  refine kk.mk fun K hP hS hA q1 q2 k2 => va_newa (atype := .long) (ty := .long) (a0 := (N, .inr (.inl (fun _ => 0)))) K.1 K.2.1 (K.2.2.2.2.2.2.2.1.use h1 rfl) rfl K.2.2.2.2.2.2.2.2.1 hP (ng_ws_D G M) hS hA (fun cA => rfl) hn hN hb q1 q2 hd (fun q cA H1 g0 g1 g2 g3 => ?_)
  have e := ng_cA (t := 1) g0 rfl
  subst e
  exact k2 q H1 g1 g2 g3
theorem ev_anew {n : Int32} {idx : Nat} (t : Nat) (C : String) (N : Nat) (ht : ∀ G : ng_GG, (ng_tys G)[t]? = some (ng_A G t, .object C)) (hC : C = RX4 ∨ C = RX3) (h1 : Cond.classLink (md_o md) idx C ∈ lw_tbl) (hn : ¬ n < 0) (hN : n.toNatClampNeg = N) (hb : N * 4 ≤ 536870912) (hd : decode (md_c md) pc = .ok (.anewarray idx, 3)) (kk : ng_Ev G md (pc + 3) L (.ref M.length :: st) (M ++ [.inl (t, N, .inr (.inr (.inr (.inr (fun _ => none)))))]) X) : ng_Ev G md pc L (.int n :: st) M X := by
  refine kk.mk fun K hP hS hA q1 q2 k2 => va_newq (C := C) K.1 K.2.1 K.2.2.2.2.1 (K.2.2.2.2.2.2.2.1.use h1 rfl) (by rcases hC with rfl | rfl <;> first | exact K.2.2.2.2.2.2.2.1.2.2.1 | exact K.2.2.2.2.2.2.2.1.2.2.2) K.2.2.2.2.2.2.2.2.1 hP (ng_ws_D G M) hS hA hn hN hb q1 q2 hd (fun q cA H1 g0 g1 g2 g3 => ?_)
  have e := ng_cA (t := t) g0 (ht G)
  subst e
  exact k2 q H1 g1 g2 g3
theorem ev_gets5 {idx : Nat} (hw : Cond.fieldLink (md_o md) idx RX5 "NEEDS" "[I" ∈ lw_tbl) (hd : decode (md_c md) pc = .ok (.getstatic idx, 3)) (kk : ng_Ev G md (pc + 3) L (.float 0 :: st) M X) : ng_Ev G md pc L st M X :=
  kk.pure rfl fun K _ hS hls _ k2 => va_gets K.1 K.2.1 K.2.2.2.2.2.2.2.2.2.1.1 hS K.2.2.2.2.1 (K.2.2.2.2.2.2.2.1.use hw rfl) (fun _ h => h) hd (k2 _ hls)
theorem ev_gets6 {idx : Nat} (hw : Cond.fieldLink (md_o md) idx RX6 "NEEDS" "[I" ∈ lw_tbl) (hd : decode (md_c md) pc = .ok (.getstatic idx, 3)) (kk : ng_Ev G md (pc + 3) L (.float 1 :: st) M X) : ng_Ev G md pc L st M X :=
  kk.pure rfl fun K _ hS hls _ k2 => va_gets K.1 K.2.1 K.2.2.2.2.2.2.2.2.2.1.2.2.1 hS K.2.2.2.2.1 (K.2.2.2.2.2.2.2.1.use hw rfl) (fun _ h => h) hd (k2 _ hls)
def ng_N8 (i : Nat) : Int32 := ([3, 2, 4, 4, 1, 1, 1, 2] : List Int32).getD i 0
theorem ev_tld5 {i : Int32} (hin : vp_in i 8) (hd : decode (md_c md) pc = .ok (.iaload, 1)) (kk : ng_Ev G md (pc + 1) L (.int (ng_N8 i.toNatClampNeg) :: st) M X) : ng_Ev G md pc L (.int i :: .float 0 :: st) M X :=
  kk.pure rfl fun K _ hS hls _ k2 => va_ti K.1 K.2.1 K.2.2.2.2.2.2.2.2.2.1.2.1 hS hin (v := .int (ng_N8 i.toNatClampNeg)) rfl hd (k2 _ hls)
theorem ev_tld6 {i : Int32} (hin : vp_in i 8) (hd : decode (md_c md) pc = .ok (.iaload, 1)) (kk : ng_Ev G md (pc + 1) L (.int (ng_N8 i.toNatClampNeg) :: st) M X) : ng_Ev G md pc L (.int i :: .float 1 :: st) M X :=
  kk.pure rfl fun K _ hS hls _ k2 => va_ti K.1 K.2.1 K.2.2.2.2.2.2.2.2.2.1.2.2.2.1 hS hin (v := .int (ng_N8 i.toNatClampNeg)) rfl hd (k2 _ hls)
theorem ev_tlen5 (hd : decode (md_c md) pc = .ok (.arraylength, 1)) (kk : ng_Ev G md (pc + 1) L (.int 8 :: st) M X) : ng_Ev G md pc L (.float 0 :: st) M X :=
  kk.pure rfl fun K _ hS hls _ k2 => va_tlen K.1 K.2.1 K.2.2.2.2.2.2.2.2.2.1.2.1 hS (v := 8) rfl hd (k2 _ hls)
theorem ev_sld {i : Int32} (hin : vp_in i (ng_n G)) (hd : decode (md_c md) pc = .ok (.iaload, 1)) (kk : ng_Ev G md (pc + 1) L (.int (ng_xs G i.toNatClampNeg) :: st) M X) : ng_Ev G md pc L (.int i :: .float 2 :: st) M X :=
  kk.pure rfl fun K _ hS hls _ k2 => va_sld K.1 K.2.1 K.2.2.2.2.2.2.2.2.2.1.2.2.2.2.1 (Nat.lt_of_lt_of_le K.2.2.2.2.2.2.2.2.2.1.2.2.2.2.2.1 K.2.2.2.2.2.2.2.2.2.1.2.2.2.2.2.2) (Nat.not_le.mpr K.2.2.2.2.2.2.2.2.2.1.2.2.2.2.2.1) hS hin hd (k2 _ hls)
theorem ev_slen (hd : decode (md_c md) pc = .ok (.arraylength, 1)) (kk : ng_Ev G md (pc + 1) L (.int (Int32.ofNat (ng_n G)) :: st) M X) : ng_Ev G md pc L (.float 2 :: st) M X :=
  kk.pure rfl fun K _ hS hls _ k2 => va_slen K.1 K.2.1 K.2.2.2.2.2.2.2.2.2.1.2.2.2.2.1 (Nat.lt_of_lt_of_le K.2.2.2.2.2.2.2.2.2.1.2.2.2.2.2.1 K.2.2.2.2.2.2.2.2.2.1.2.2.2.2.2.2) (Nat.not_le.mpr K.2.2.2.2.2.2.2.2.2.1.2.2.2.2.2.1) hS hd (k2 _ hls)
def ng_okA (own : String) (idx : Nat) : Prop := Cond.methodLink own idx arraycopyName ∈ lw_tbl ∧ Cond.native arraycopyName ∈ lw_tbl ∧ Cond.static arraycopyName ∈ lw_tbl ∧ Cond.initialized "java/lang/System" ∈ lw_tbl
theorem ev_copyi {idx a0 a n0 n1 : Nat} {f g : Nat → Int32} {sp dp n : Int32} {M1 : ng_AM} (ho : ng_okA (md_o md) idx) (hM0 : M[a0]? = some (.inl (0, n0, .inl f))) (hM : M[a]? = some (.inl (0, n1, .inl g))) (h1 : ¬ sp < 0) (h2 : ¬ dp < 0) (h3 : ¬ n < 0) (h4 : sp.toNatClampNeg + n.toNatClampNeg ≤ n0) (h5 : dp.toNatClampNeg + n.toNatClampNeg ≤ n1)
    (hfr : 1 ≤ md_F md) (hlo : (st.map fun v => v.category).sum + 18 ≤ md_W md) (hM1 : M.set a (.inl (0, n1, .inl (va_cpy f g sp.toNatClampNeg dp.toNatClampNeg n.toNatClampNeg))) = M1) (hd : decode (md_c md) pc = .ok (.invokestatic idx, 3)) (kk : ng_Ev G md (pc + 3) L st M1 X) : ng_Ev G md pc L (.int n :: .int dp :: .ref a :: .int sp :: .ref a0 :: st) M X := by
  subst hM1
  refine kk.heap (by simp) (ng_sz_s hM rfl) fun K hP hS hls k2 => va_copyi K.1 K.2.1 (K.2.2.2.1.trans hls.symm) K.2.2.2.2.1 (K.2.2.2.2.2.2.2.1.use ho.1 rfl) (K.2.2.2.2.2.2.2.1.use ho.2.1 rfl) (K.2.2.2.2.2.2.2.1.use ho.2.2.1 rfl) (K.2.2.2.2.2.2.2.1.use ho.2.2.2 rfl) K.2.2.2.2.2.2.2.2.1 hP (ng_ws_D G M) hS a0 a 0 0 (ty := .int) (ng_ws_g hM0) (ng_ws_g hM) rfl rfl rfl h1 h2 h3 h4 h5 (fun _ _ => rfl) (Nat.le_trans hfr K.2.2.2.2.2.2.2.2.2.2.1) ?_ hd (fun H1 locs1 g1 _ g3 => k2 H1 locs1 ?_ g3)
  · rw [ng_av_cs]
    exact Nat.le_trans hlo K.2.2.2.2.2.2.2.2.2.2.2
  · rw [← ng_ws_s]
    exact g1
theorem ev_copyl {idx a0 a n0 n1 : Nat} {f g : Nat → Int64} {sp dp n : Int32} {M1 : ng_AM} (ho : ng_okA (md_o md) idx) (hM0 : M[a0]? = some (.inl (1, n0, .inr (.inl f)))) (hM : M[a]? = some (.inl (1, n1, .inr (.inl g)))) (h1 : ¬ sp < 0) (h2 : ¬ dp < 0) (h3 : ¬ n < 0) (h4 : sp.toNatClampNeg + n.toNatClampNeg ≤ n0) (h5 : dp.toNatClampNeg + n.toNatClampNeg ≤ n1)
    (hfr : 1 ≤ md_F md) (hlo : (st.map fun v => v.category).sum + 18 ≤ md_W md) (hM1 : M.set a (.inl (1, n1, .inr (.inl (va_cpy f g sp.toNatClampNeg dp.toNatClampNeg n.toNatClampNeg)))) = M1) (hd : decode (md_c md) pc = .ok (.invokestatic idx, 3)) (kk : ng_Ev G md (pc + 3) L st M1 X) : ng_Ev G md pc L (.int n :: .int dp :: .ref a :: .int sp :: .ref a0 :: st) M X := by
  subst hM1
  refine kk.heap (by simp) (ng_sz_s hM rfl) fun K hP hS hls k2 => va_copyl K.1 K.2.1 (K.2.2.2.1.trans hls.symm) K.2.2.2.2.1 (K.2.2.2.2.2.2.2.1.use ho.1 rfl) (K.2.2.2.2.2.2.2.1.use ho.2.1 rfl) (K.2.2.2.2.2.2.2.1.use ho.2.2.1 rfl) (K.2.2.2.2.2.2.2.1.use ho.2.2.2 rfl) K.2.2.2.2.2.2.2.2.1 hP (ng_ws_D G M) hS a0 a 1 1 (ty := .long) (ng_ws_g hM0) (ng_ws_g hM) rfl rfl rfl h1 h2 h3 h4 h5 (fun _ _ => rfl) (Nat.le_trans hfr K.2.2.2.2.2.2.2.2.2.2.1) ?_ hd (fun H1 locs1 g1 _ g3 => k2 H1 locs1 ?_ g3)
  · rw [ng_av_cs]
    exact Nat.le_trans hlo K.2.2.2.2.2.2.2.2.2.2.2
  · rw [← ng_ws_s]
    exact g1
def ng_okO (own : String) (idx : Nat) : Prop := Cond.methodLink own idx objectInit ∈ lw_tbl ∧ Cond.instanceMethod objectInit ∈ lw_tbl ∧ Cond.code objectInit ⟨#[0xb1]⟩ 1 none ∈ lw_tbl
theorem ev_oinit {idx a : Nat} (ho : ng_okO (md_o md) idx) (hfr : 1 ≤ md_F md) (hlo : (st.map fun v => v.category).sum + 12 ≤ md_W md) (hd : decode (md_c md) pc = .ok (.invokespecial idx, 3)) (kk : ng_Ev G md (pc + 3) L st M X) : ng_Ev G md pc L (.ref a :: st) M X := by
  refine kk.pure rfl fun K hP hS hls hL k2 => W.objInit K.1 K.2.1 K.2.2.2.2.1 (K.2.2.2.2.2.2.2.1.use ho.1 rfl) (K.2.2.2.2.2.2.2.1.use ho.2.1 rfl) (K.2.2.2.2.2.2.2.1.use ho.2.2 rfl) rfl ((hls.1.trans hL).trans K.2.2.2.1.symm) rfl hd (Nat.le_trans hfr K.2.2.2.2.2.2.2.2.2.2.1) ?_ (k2 _ hls)
  rw [ng_av_cs]
  have e := Nat.le_trans hlo K.2.2.2.2.2.2.2.2.2.2.2
  have e0 : (F0 ‹MethodId› pc ‹Array Slot› (ng_av G (.ref a) :: st.map (ng_av G))).monitorRoom = 0 := rfl
  first | omega | (simp only [e0]; omega) | (rw [show ∀ x : Nat, 2 * 0 + x = x from fun x => by omega]; exact e)
theorem ng_Ev.ret {r : Option Value} (h : ∀ {p : Program} {e : Env} {R : Room} {s : State} {m : MethodId} {args : Array Value} {below : List Frame} {meth : Method} {c : Code} {H : Heap} {locs : List Loc} {cells slots : Nat} {ls : Array Slot}, ng_CX G md p R s m meth c → (∀ t : State, t.heap = H → s.WarmedH t.vm → ng_QC G r M args s (.returned (r.map (ng_av G))) t) → (∀ q ∈ locs, ng_fr G q.base) → W p (ng_l G) e R s m args below meth c H locs cells slots (MQ below (ng_QC G r M) args s cells slots (ng_fr G)) (F0 m pc ls (st.map (ng_av G)))) : ng_Ev G md pc L st M (r, M) := by
  refine ⟨Nat.le_refl _, Nat.le_refl _, fun p e R s m args below meth c C H locs cells slots ls n0 z0 h1 h2 h3 h4 h5 h6 h7 h8 h9 => ?_⟩
  have e1 : M.length - n0 = cells := by omega
  have e2 : ng_sz M - z0 = slots := by omega
  show W _ _ _ _ _ _ _ _ _ _ _ _ _ _ (MQ below (ng_QC G r M) args s (M.length - n0) (ng_sz M - z0) (ng_fr G)) _
  rw [e1, e2]
  exact h C (fun t ht _ => ⟨rfl, by rw [ht]; exact h2, h3.F ht⟩) h3.2.2
theorem ev_iret {v : Int32} {ty : FieldType} (hr : md_r md = some ty) (hn : narrow ty (.int v) = .int v) (hd : decode (md_c md) pc = .ok (.ireturn, 1)) : ng_Ev G md pc L [.int v] M (some (.int v), M) :=
  ng_Ev.ret (r := some (.int v)) fun C hq hf => W.zret (v := v) C.1 C.2.1 (C.2.2.1.trans hr) hn hq hf hd C.2.2.2.2.2.1
theorem ev_lret {v : Int64} (hr : md_r md = some .long) (hd : decode (md_c md) pc = .ok (.lreturn, 1)) : ng_Ev G md pc L [.long v] M (some (.long v), M) :=
  ng_Ev.ret (r := some (.long v)) fun C hq hf => W.lret (v := v) C.1 C.2.1 (C.2.2.1.trans hr) hq hf hd C.2.2.2.2.2.1
theorem ev_vret (hr : md_r md = none) (hd : decode (md_c md) pc = .ok (.return_, 1)) : ng_Ev G md pc L [] M (none, M) :=
  ng_Ev.ret (r := none) fun C hq hf => W.vret C.1 C.2.1 (C.2.2.1.trans hr) hq hf hd C.2.2.2.2.2.1
end EVH
