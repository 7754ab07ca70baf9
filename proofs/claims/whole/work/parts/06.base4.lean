def ng_sl (As : List Value) : ng_LL := As.flatMap (fun v => if v.category = 2 then [some v, none] else [some v])
def ng_en (n : Nat) (As : List Value) : ng_LL := ng_sl As ++ List.replicate (n - (ng_sl As).length) none
theorem ng_la_none (G : ng_GG) : ∀ (k i : Nat), ng_la G i (List.replicate k none) = []
  | 0, i => rfl
  | k + 1, i => by rw [List.replicate_succ, ng_la, ng_la_none G k (i + 1)]
theorem ng_la_sl (G : ng_GG) : ∀ (As : List Value) (k i : Nat), ng_la G i (ng_sl As ++ List.replicate k none) = lv_args i (As.map (ng_av G))
  | [], k, i => by
    show ng_la G i (List.replicate k none) = lv_args i []
    rw [ng_la_none]; rfl
  | v :: As, k, i => by
    have ih := ng_la_sl G As k
    cases v <;> simp_all [ng_sl, Value.category, ng_la, lv_args, ng_av]
theorem ng_sl_len (G : ng_GG) : ∀ (As : List Value), (lg_sl (As.map (ng_av G))).length = (ng_sl As).length
  | [] => rfl
  | v :: As => by
    have ih := ng_sl_len G As
    unfold lg_sl ng_sl at ih
    cases v <;> simp_all [lg_sl, ng_sl, ng_av, Value.category]
def ng_Pc (G : ng_GG) (As : List Value) (M : ng_AM) : Array Value → State → Prop := va_Pc (As.map (ng_av G)) (fun U => U.heap.size = ng_B G + M.length ∧ va_P (ng_D G) vwCl (ng_ws G M) U.heap ∧ ng_CT U ∧ va_K (ng_D G) vwCl (ng_tys G) U ∧ ng_ST G U U.heap)
abbrev ng_wd (cd : ng_MD) : List Cond := [.code (md_y cd) (md_c cd) (md_L cd) (md_r cd)]
def ng_rm (cd : ng_MD) (M M' : ng_AM) : Room := { frames := md_F cd, cells := M'.length - M.length, slots := ng_sz M' - ng_sz M, locals := md_W cd }
theorem ng_ofW {l : Launch} {y : MethodName} {ws ws' : List Cond} {rm : Room} {Pc : Array Value → State → Prop} {Qc : Array Value → State → Outcome → State → Prop} {mc ms : Nat} {free : Addr → Prop} {cc : ByteArray} {maxL : Nat} {ret : Option FieldType}
    (hy : plainFor y = true) (hw : ws = Cond.code y cc maxL ret :: ws')
    (body : ∀ p e s m args below meth c s₁, BodyLoose p l y (headSpec ws rm) cc maxL ret e s m args below meth c s₁ → c.maxLocals = maxL → Pc args s →
      W p l e (headSpec ws rm).room s m args below meth c s.heap [] 0 0 (MQ below Qc args s mc ms free) (entryFrame m args maxL)) : Met l y ws rm Pc Qc mc ms free := by
  refine MetFree.of_bodySF (code := cc) (maxLocals := maxL) (ret := ret) hy ?_ ?_
  · intro args s m h hn
    obtain ⟨meth, c, h1, h2, h3, h4, h5, h6, -, -⟩ := Cond.code_spec hn (atoms_spec (ws := ws) h _ (by rw [hw]; exact List.mem_cons_self))
    exact ⟨meth, c, h1, h2, h3, h4, h5, h6⟩
  · intro p e s m args below meth c s₁ B hml hP _
    have hh0 : s₁.heap = s.heap := by rw [B.state]; rfl
    obtain ⟨t, a1, o, b1, b2, b3⟩ := body p e s m args below meth c s₁ B hml hP s₁ hh0 (Stand.of_body B)
    exact ⟨t, o, a1, b1, b2, ⟨b3.1, b3.2⟩⟩
theorem ng_met {G : ng_GG} {cd : ng_MD} {As : List Value} {M : ng_AM} {X : ng_RR} (h : ng_Ev G cd 0 (ng_en (md_L cd) As) [] M X) (hp : plainFor (md_y cd) = true) (ho : (md_y cd).cls = md_o cd) (hn : (ng_sl As).length ≤ md_L cd) :
    Met (ng_l G) (md_y cd) (ng_wd cd) (ng_rm cd M X.2) (ng_Pc G As M) (ng_QC G X.1 X.2) (X.2.length - M.length) (ng_sz X.2 - ng_sz M) (ng_fr G) := by
  refine ng_ofW (cc := md_c cd) (maxL := md_L cd) (ret := md_r cd) hp rfl ?_
  intro p e s m args below meth c s₁ B hml hv
  obtain ⟨rfl, hsz, hP, hC, hK, hS⟩ := hv
  have hown : s.vm.findClass (md_y cd).cls = some m.cls := findClass_of_methodNamed B.named
  rw [ho] at hown
  have k1 := h.1
  have k2 := h.2.1
  have hl := lv_entry (As.map (ng_av G)) (n := md_L cd) (by rw [ng_sl_len]; exact hn)
  rw [lg_entry_eq]
  have hlen : (ng_en (md_L cd) As).length = md_L cd := by simp [ng_en]; omega
  refine h.2.2 p e (headSpec (ng_wd cd) (ng_rm cd M X.2)).room s m _ below meth c ⟨B.exec, B.bytes, B.returns, hml, hown, B.notSynchronized, (fun h => (name_of_methodNamed B.named B.method).1.trans h), hC, hK, hS, Nat.le_refl _, Nat.le_refl _⟩ s.heap [] 0 0 _ M.length (ng_sz M) hsz hP va_S.rf ⟨?_, hl.2.1, ?_⟩ hlen (by omega) (by omega) ?_ ?_
  · rw [hlen]; exact hl.1
  · intro q hq
    refine hl.2.2 q ?_
    rw [ng_en, ng_la_sl] at hq
    exact hq
  · show X.2.length ≤ M.length + (X.2.length - M.length)
    omega
  · show ng_sz X.2 ≤ ng_sz M + (ng_sz X.2 - ng_sz M)
    omega
theorem ng_blind (G : ng_GG) (As : List Value) (M : ng_AM) : FrameBlind (ng_Pc G As M) := by
  intro a U g mk h
  obtain ⟨h1, h2, h3, h4, h5, h6⟩ := h
  exact ⟨h1, h2, h3, h4.moved (U := U.calling g mk a) (State.WarmedH.refl U), va_K.moved (u := U) (U := U.calling g mk a) (Vm.Alike.refl U.vm) h5, ng_ST.moved (u := U) (U := U.calling g mk a) (Vm.Alike.refl U.vm) h6⟩
section CALLS
variable {G : ng_GG} {md : ng_MD} {pc : Nat} {L : ng_LL} {M : ng_AM} {X : ng_RR}
def ng_okB (cd : ng_MD) : Prop := Cond.code (md_y cd) (md_c cd) (md_L cd) (md_r cd) ∈ lw_tbl ∧ Cond.initialized (md_y cd).cls ∈ lw_tbl ∧ ((md_y cd).cls ≠ "java/lang/invoke/MethodHandle" ∧ (md_y cd).cls ≠ "java/lang/invoke/VarHandle") ∧ (parseMethodDescriptor (md_y cd).desc).map (fun d => d.parameters.length) = some (md_p cd) ∧ plainFor (md_y cd) = true ∧ (md_y cd).cls = md_o cd
def ng_okV (cd : ng_MD) : Prop := ng_okB cd ∧ Cond.instanceMethod (md_y cd) ∈ lw_tbl ∧ Cond.selects (md_y cd).cls (md_y cd) (md_y cd) ∈ lw_tbl
def ng_okS (cd : ng_MD) : Prop := ng_okB cd ∧ Cond.static (md_y cd) ∈ lw_tbl
def ng_okI (cd : ng_MD) : Prop := ng_okB cd ∧ Cond.instanceMethod (md_y cd) ∈ lw_tbl ∧ (md_y cd).name = "<init>" ∧ md_r cd = none
def ng_rok (cd md : ng_MD) : Prop := md_F cd + 1 ≤ md_F md ∧ 8 + (md_L cd + 11) + md_W cd ≤ md_W md
theorem ng_run {p : Program} {e : Env} {R : Room} {s : State} {m : MethodId} {args : Array Value} {below : List Frame} {meth : Method} {c : Code} {H : Heap} {locs : List Loc} {cells slots mc ms : Nat} {Q : State → Prop} {ls : Array Slot} {st0 rest : List Value} {r : Option Value} {M1 : ng_AM} {a : Array Value} {l : Launch}
    (hr : va_Run p l e R s m args below meth c H locs cells slots mc ms (F0 m pc ls st0) rest (ng_QC G r M1 a) (ng_fr G)) (hS : va_S (ng_fr G) s.heap H locs)
    (kk : ∀ (H1 : Heap) (locs1 : List Loc), va_P (ng_D G) vwCl (ng_ws G M1) H1 → va_S (ng_fr G) s.heap H1 locs1 → W p l e R s m args below meth c H1 locs1 (cells + mc) (slots + ms) Q (F0 m (pc + 3) ls ((r.map (ng_av G)).toList ++ rest))) : W p l e R s m args below meth c H locs cells slots Q (F0 m pc ls st0) := by
  intro T hT Y
  obtain ⟨v, st₀, t, T', Ls, h0, Y', hL, e1, e2, ⟨hv, hp, hz, hk⟩, stp⟩ := hr T hT Y
  cases hv
  rw [h0] at hz hk
  obtain ⟨t2, a1, b1⟩ := kk T'.heap (locs ++ Ls) (by rw [e1]; exact hp) ⟨Nat.le_trans hS.1 (by rw [e1]; exact hz), fun q h1 h2 => by rw [e1, hk q (Nat.lt_of_lt_of_le h1 hS.1) h2]; exact hS.2.1 q h1 h2, fun q hq => by
      rcases List.mem_append.mp hq with h | h
      · exact hS.2.2 q h
      · exact hL q h⟩ T' rfl Y'
  exact ⟨t2, stp t2 a1, b1⟩
theorem ng_Ev.call {cd : ng_MD} {st0 st : List Value} {As : List Value} {Y : ng_RR} (h1 : ng_Ev G cd 0 (ng_en (md_L cd) As) [] M Y) (h2 : ng_Ev G md (pc + 3) L (Y.1.toList ++ st) Y.2 X) (hB : ng_okB cd) (hn : (ng_sl As).length ≤ md_L cd)
    (h : ∀ {p : Program} {e : Env} {R : Room} {s : State} {m : MethodId} {args : Array Value} {below : List Frame} {meth : Method} {c : Code} {H : Heap} {locs : List Loc} {cells slots : Nat} {ls : Array Slot}, ng_CX G md p R s m meth c → va_P (ng_D G) vwCl (ng_ws G M) H → ls.size = md_L md → 
      Met (ng_l G) (md_y cd) (ng_wd cd) (ng_rm cd M Y.2) (ng_Pc G As M) (ng_QC G Y.1 Y.2) (Y.2.length - M.length) (ng_sz Y.2 - ng_sz M) (ng_fr G) →
      (∀ U : State, U.heap = H → s.WarmedH U.vm → ng_Pc G As M (As.map (ng_av G)).toArray U) → cells + (Y.2.length - M.length) ≤ R.cells ∧ slots + (ng_sz Y.2 - ng_sz M) ≤ R.slots →
      va_Run p (ng_l G) e R s m args below meth c H locs cells slots (Y.2.length - M.length) (ng_sz Y.2 - ng_sz M) (F0 m pc ls (st0.map (ng_av G))) (st.map (ng_av G)) (ng_QC G Y.1 Y.2 (As.map (ng_av G)).toArray) (ng_fr G)) : ng_Ev G md pc L st0 M X := by
  have k1 := h1.1
  have k2 := h1.2.1
  have k3 := h2.1
  have k4 := h2.2.1
  refine ⟨by omega, by omega, fun p e R s m args below meth c C H locs cells slots ls n0 z0 g1 g2 g3 g4 g5 g6 g7 g8 g9 => ?_⟩
  refine ng_hs fun hsz => ?_
  have hsz2 : H.size = ng_B G + M.length := by
    have hlo : ng_B G + M.length ≤ H.size := by
      rcases Nat.eq_zero_or_pos M.length with z | z
      · have := g3.1
        omega
      · have hh : M.length - 1 < M.length := by omega
        have := (g2 (M.length - 1) _ (ng_ws_g (List.getElem?_eq_getElem hh))).lt
        simp only at this
        omega
    omega
  refine ng_run (h C g2 (g4.1.trans g5) (ng_met h1 hB.2.2.2.2.1 hB.2.2.2.2.2 hn) (fun U hU hW => ⟨rfl, by rw [hU]; exact hsz2, by rw [hU]; exact g2, C.2.2.2.2.2.2.2.1.moved hW, va_K.moved hW.alike C.2.2.2.2.2.2.2.2.1, ?_⟩) ⟨by omega, by omega⟩) g3 fun H1 locs1 q1 q2 => ?_
  · rw [hU]
    exact (C.2.2.2.2.2.2.2.2.2.1.kept g3.1 g3.2.1).moved hW.alike
  · have := h2.2.2 p e R s m args below meth c C H1 locs1 (cells + (Y.2.length - M.length)) (slots + (ng_sz Y.2 - ng_sz M)) ls n0 z0 g1 q1 q2 g4 g5 (by omega) (by omega) g8 g9
    rw [List.map_append] at this
    cases hY : Y.1 with
    | none => rw [hY] at this; exact this
    | some v => rw [hY] at this; exact this
theorem ng_cb {cd : ng_MD} {Y2 : ng_AM} (hB : ng_okB cd) (hR : ng_rok cd md) {own : String} {idx : Nat} (hl : Cond.methodLink own idx (md_y cd) ∈ lw_tbl) {p : Program} {R : Room} {s : State} {m : MethodId} {args : Array Value} {meth : Method} {c : Code} (C : ng_CX G md p R s m meth c) :
    CallB R s args own idx (md_y cd) (md_c cd) (md_L cd) (md_r cd) (ng_wd cd) (ng_rm cd M Y2) (Y2.length - M.length) (ng_sz Y2 - ng_sz M) (md_p cd) := by
  have T := C.2.2.2.2.2.2.2.1
  refine ⟨rfl, rfl, Nat.le_trans hR.1 C.2.2.2.2.2.2.2.2.2.2.1, Nat.le_trans hR.2 C.2.2.2.2.2.2.2.2.2.2.2, fun w hw a' U hW => ?_, List.mem_cons_self, T.use hB.1 rfl, T.use hB.2.1 rfl, hB.2.2.1, fun sig hsig => ?_, T.use hl rfl⟩
  · rw [List.mem_singleton.mp hw]
    exact (T.moved hW).use hB.1 rfl
  · have h2 := hB.2.2.2.1
    rw [hsig] at h2
    exact (Option.some.inj h2).symm
theorem ng_cn {cd : ng_MD} {Y2 : ng_AM} (hB : ng_okB cd) (hR : ng_rok cd md) {own host : String} {idx : Nat} (hl : Cond.methodLinkNest own idx (md_y cd) host ∈ lw_tbl) {p : Program} {R : Room} {s : State} {m : MethodId} {args : Array Value} {meth : Method} {c : Code} (C : ng_CX G md p R s m meth c) :
    va_CN R s args own idx (md_y cd) host (md_c cd) (md_L cd) (md_r cd) (ng_wd cd) (ng_rm cd M Y2) (Y2.length - M.length) (ng_sz Y2 - ng_sz M) (md_p cd) := by
  have T := C.2.2.2.2.2.2.2.1
  refine ⟨⟨rfl, rfl, Nat.le_trans hR.1 C.2.2.2.2.2.2.2.2.2.2.1, Nat.le_trans hR.2 C.2.2.2.2.2.2.2.2.2.2.2, fun w hw a' U hW => ?_, List.mem_cons_self⟩, T.use hB.1 rfl, T.use hB.2.1 rfl, hB.2.2.1, fun sig hsig => ?_, va_Nw.use rfl (T.2.1 _ hl rfl)⟩
  · rw [List.mem_singleton.mp hw]
    exact (T.moved hW).use hB.1 rfl
  · have h2 := hB.2.2.2.1
    rw [hsig] at h2
    exact (Option.some.inj h2).symm
theorem ev_callV {cd : ng_MD} {idx b ci : Nat} {fs : List Value} {As st st0 : List Value} {Y : ng_RR} {r : vw_C} (ok : ng_okV cd) (hl : Cond.methodLink (md_o md) idx (md_y cd) ∈ lw_tbl) (hR : ng_rok cd md) (hM : M[b]? = some (.inr (ci, fs))) (hc : vwCl[ci]? = some r) (hr : r.1 = (md_y cd).cls) (hn : As.length = md_p cd) (hsl : (ng_sl (.ref b :: As)).length ≤ md_L cd) (hs : st0 = As.reverse ++ .ref b :: st) (hw : (st.map fun v => v.category).sum ≤ 8) (hd : decode (md_c md) pc = .ok (.invokevirtual idx, 3))
    (h1 : ng_Ev G cd 0 (ng_en (md_L cd) (.ref b :: As)) [] M Y) (h2 : ng_Ev G md (pc + 3) L (Y.1.toList ++ st) Y.2 X) : ng_Ev G md pc L st0 M X := by
  subst hs
  refine ng_Ev.call h1 h2 ok.1 hsl fun C hP hls hM2 hU hf => ?_
  refine va_runV (C := (md_y cd).cls) (As := As.map (ng_av G)) (rest := st.map (ng_av G)) (Ts := []) (own := md_o md) ⟨C.1, C.2.1, C.2.2.2.1, C.2.2.2.2.1, fun _ h => by cases h⟩ hM2 ⟨ng_cb ok.1 hR hl C, C.2.2.2.2.2.2.2.1.use ok.2.1 rfl, C.2.2.2.2.2.2.2.1.use ok.2.2 rfl⟩ ⟨ng_blind _ _ _, ?_, hU⟩ rfl (by rw [List.length_map]; exact hn) hls (by simp [ng_av]) (lv_room (by rw [ng_av_cs]; exact hw)) hd hf
  rw [← hr]
  exact va_recv C.2.2.2.2.2.2.2.2.1 hP hc (ng_ws_g hM)
theorem ev_callS {cd : ng_MD} {idx : Nat} {As st st0 : List Value} {Y : ng_RR} (ok : ng_okS cd) (hl : Cond.methodLink (md_o md) idx (md_y cd) ∈ lw_tbl) (hR : ng_rok cd md) (hn : As.length = md_p cd) (hsl : (ng_sl As).length ≤ md_L cd) (hs : st0 = As.reverse ++ st) (hw : (st.map fun v => v.category).sum ≤ 8) (hd : decode (md_c md) pc = .ok (.invokestatic idx, 3))
    (h1 : ng_Ev G cd 0 (ng_en (md_L cd) As) [] M Y) (h2 : ng_Ev G md (pc + 3) L (Y.1.toList ++ st) Y.2 X) : ng_Ev G md pc L st0 M X := by
  subst hs
  refine ng_Ev.call h1 h2 ok.1 hsl fun C hP hls hM2 hU hf => ?_
  exact va_runS (As := As.map (ng_av G)) (rest := st.map (ng_av G)) (Ts := []) (own := md_o md) ⟨C.1, C.2.1, C.2.2.2.1, C.2.2.2.2.1, fun _ h => by cases h⟩ hM2 ⟨ng_cb ok.1 hR hl C, C.2.2.2.2.2.2.2.1.use ok.2 rfl⟩ ⟨ng_blind _ _ _, hU⟩ rfl (by rw [List.length_map]; exact hn) hls (by simp) (lv_room (by rw [ng_av_cs]; exact hw)) hd hf
theorem ev_callSN {cd : ng_MD} {idx : Nat} {host : String} {As st st0 : List Value} {Y : ng_RR} (ok : ng_okS cd) (hl : Cond.methodLinkNest (md_o md) idx (md_y cd) host ∈ lw_tbl) (hR : ng_rok cd md) (hn : As.length = md_p cd) (hsl : (ng_sl As).length ≤ md_L cd) (hs : st0 = As.reverse ++ st) (hw : (st.map fun v => v.category).sum ≤ 8) (hd : decode (md_c md) pc = .ok (.invokestatic idx, 3))
    (h1 : ng_Ev G cd 0 (ng_en (md_L cd) As) [] M Y) (h2 : ng_Ev G md (pc + 3) L (Y.1.toList ++ st) Y.2 X) : ng_Ev G md pc L st0 M X := by
  subst hs
  refine ng_Ev.call h1 h2 ok.1 hsl fun C hP hls hM2 hU hf => ?_
  exact va_runSN (As := As.map (ng_av G)) (rest := st.map (ng_av G)) (Ts := []) (own := md_o md) (host := host) ⟨C.1, C.2.1, C.2.2.2.1, C.2.2.2.2.1, fun _ h => by cases h⟩ hM2 ⟨ng_cn ok.1 hR hl C, C.2.2.2.2.2.2.2.1.use ok.2 rfl, trivial⟩ ⟨ng_blind _ _ _, hU⟩ rfl (by rw [List.length_map]; exact hn) hls (by simp) (lv_room (by rw [ng_av_cs]; exact hw)) hd hf
theorem ev_callI {cd : ng_MD} {idx b : Nat} {As st st0 : List Value} {Y : ng_RR} (ok : ng_okI cd) (hl : Cond.methodLink (md_o md) idx (md_y cd) ∈ lw_tbl) (hR : ng_rok cd md) (hn : As.length = md_p cd) (hsl : (ng_sl (.ref b :: As)).length ≤ md_L cd) (hs : st0 = As.reverse ++ .ref b :: st) (hw : (st.map fun v => v.category).sum ≤ 8) (hd : decode (md_c md) pc = .ok (.invokespecial idx, 3))
    (h1 : ng_Ev G cd 0 (ng_en (md_L cd) (.ref b :: As)) [] M Y) (h2 : ng_Ev G md (pc + 3) L (Y.1.toList ++ st) Y.2 X) : ng_Ev G md pc L st0 M X := by
  subst hs
  refine ng_Ev.call h1 h2 ok.1 hsl fun C hP hls hM2 hU hf => ?_
  have hcb := ng_cb (M := M) (Y2 := Y.2) (args := ‹Array Value›) ok.1 hR hl C
  rw [ok.2.2.2] at hcb
  exact va_runI (As := As.map (ng_av G)) (rest := st.map (ng_av G)) (Ts := []) (own := md_o md) ⟨C.1, C.2.1, C.2.2.2.1, C.2.2.2.2.1, fun _ h => by cases h⟩ hM2 ⟨hcb, ok.2.2.1, C.2.2.2.2.2.2.2.1.use ok.2.1 rfl⟩ ⟨ng_blind _ _ _, hU⟩ rfl (by rw [List.length_map]; exact hn) hls (by simp [ng_av]) (lv_room (by rw [ng_av_cs]; exact hw)) hd hf
theorem ev_callIN {cd : ng_MD} {idx b : Nat} {host : String} {As st st0 : List Value} {Y : ng_RR} (ok : ng_okI cd) (hl : Cond.methodLinkNest (md_o md) idx (md_y cd) host ∈ lw_tbl) (hR : ng_rok cd md) (hn : As.length = md_p cd) (hsl : (ng_sl (.ref b :: As)).length ≤ md_L cd) (hs : st0 = As.reverse ++ .ref b :: st) (hw : (st.map fun v => v.category).sum ≤ 8) (hd : decode (md_c md) pc = .ok (.invokespecial idx, 3))
    (h1 : ng_Ev G cd 0 (ng_en (md_L cd) (.ref b :: As)) [] M Y) (h2 : ng_Ev G md (pc + 3) L (Y.1.toList ++ st) Y.2 X) : ng_Ev G md pc L st0 M X := by
  subst hs
  refine ng_Ev.call h1 h2 ok.1 hsl fun C hP hls hM2 hU hf => ?_
  have hcb := ng_cn (M := M) (Y2 := Y.2) (args := ‹Array Value›) ok.1 hR hl C
  rw [ok.2.2.2] at hcb
  exact va_runIN (As := As.map (ng_av G)) (rest := st.map (ng_av G)) (Ts := []) (own := md_o md) (host := host) ⟨C.1, C.2.1, C.2.2.2.1, C.2.2.2.2.1, fun _ h => by cases h⟩ hM2 ⟨hcb, ok.2.2.1, C.2.2.2.2.2.2.2.1.use ok.2.1 rfl⟩ ⟨ng_blind _ _ _, hU⟩ rfl (by rw [List.length_map]; exact hn) hls (by simp [ng_av]) (lv_room (by rw [ng_av_cs]; exact hw)) hd hf
end CALLS
