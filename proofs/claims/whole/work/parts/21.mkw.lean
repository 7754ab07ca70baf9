theorem m_X4_init {G : ng_GG} {M M2 : ng_AM} {q s : Nat} {dv : Value} (hM : M[q]? = some (.inr (4, [.null, .null, .null]))) (hdv : dv = .null ∨ ∃ x, dv = .ref x) (h2 : (M ++ ([.inl (0, 494, .inl (fun _ => 0))] : ng_AM)).set q (.inr (4, [.ref M.length, .ref s, dv])) = M2) : ng_Ev G md_X4_init 0 (ng_en 3 [.ref q, .ref s, dv]) [] M (none, M2) := by
  subst h2
  have hlt : q < M.length := (List.getElem?_eq_some_iff.mp hM).1
  have hfit : ng_fit (.object "NoteGate$Diary") dv := by
    rcases hdv with rfl | ⟨x, rfl⟩
    · exact ng_fit_n _
    · exact ng_fit_o _ _
  have hA : ng_isA dv = true := by
    rcases hdv with rfl | ⟨x, rfl⟩ <;> rfl
  have hc : (ng_en 3 [.ref q, .ref s, dv]) = [some (.ref q), some (.ref s), some dv] := by
    rcases hdv with rfl | ⟨x, rfl⟩ <;> rfl
  rw [hc]
  have g0 : (M ++ [(.inl (0, 494, .inl (fun _ => 0)) : ng_AC)])[q]? = some (.inr (4, [.null, .null, .null])) := by rw [List.getElem?_append_left hlt]; exact hM
  have hl2 : q < (M ++ [(.inl (0, 494, .inl (fun _ => 0)) : ng_AC)]).length := by rw [List.length_append]; omega
  refine ev_aload_n dX4_init_0 rfl rfl rfl ?_
  refine ev_oinit lk_RX4_5 (Nat.le_of_ble_eq_true rfl) (Nat.le_of_ble_eq_true rfl) dX4_init_1 ?_
  refine ev_aload_n dX4_init_4 rfl rfl rfl ?_
  refine ev_sipush (v := nI 494) dX4_init_5 (by decide) ?_
  refine ev_newi 494 arr_I (by decide) (by decide) (by decide) dX4_init_8 ?_
  refine ev_putF 4 0 fs_RX4_11 rfl g0 (ng_lt rfl) rfl rfl (ng_fit_a _ _) dX4_init_10 ?_
  refine ev_aload_n dX4_init_13 rfl rfl rfl ?_
  refine ev_aload_n dX4_init_14 rfl rfl rfl ?_
  refine ev_putF 4 1 fs_RX4_15 rfl (List.getElem?_set_self hl2) (ng_lt rfl) rfl rfl (ng_fit_o _ _) dX4_init_15 ?_
  refine ev_aload_n dX4_init_18 rfl rfl rfl ?_
  refine ev_aload_n dX4_init_19 rfl rfl hA ?_
  refine ev_putF 4 2 fs_RX4_19 rfl (List.getElem?_set_self (by rw [List.length_set]; exact hl2)) (ng_lt rfl) rfl rfl hfit dX4_init_20 ?_
  rw [List.set_set, List.set_set]
  exact ev_vret rfl dX4_init_23
theorem bk_callI {G : ng_GG} {md : ng_MD} {pc : Nat} {L : ng_LL} {M M2 : ng_AM} {X : ng_RR} {cd : ng_MD} {idx b : Nat} {As st st0 : List Value} (ok : ng_okI cd) (hl : Cond.methodLink (md_o md) idx (md_y cd) ∈ lw_tbl) (hR : ng_rok cd md) (hn : As.length = md_p cd) (hsl : (ng_sl (.ref b :: As)).length.ble (md_L cd) = true) (hs : st0 = As.reverse ++ .ref b :: st) (hw : ((st.map fun v : Value => v.category).sum).ble 8 = true) (hd : decode (md_c md) pc = .ok (.invokespecial idx, 3))
    (h1 : ng_Ev G cd 0 (ng_en (md_L cd) (.ref b :: As)) [] M (none, M2)) (h2 : ng_Ev G md (pc + 3) L st M2 X) : ng_Ev G md pc L st0 M X :=
  ev_callI ok hl hR hn (Nat.le_of_ble_eq_true hsl) hs (Nat.le_of_ble_eq_true hw) hd h1 h2
theorem bk_callIN {G : ng_GG} {md : ng_MD} {pc : Nat} {L : ng_LL} {M M2 : ng_AM} {X : ng_RR} {cd : ng_MD} {idx b : Nat} {host : String} {As st st0 : List Value} (ok : ng_okI cd) (hl : Cond.methodLinkNest (md_o md) idx (md_y cd) host ∈ lw_tbl) (hR : ng_rok cd md) (hn : As.length = md_p cd) (hsl : (ng_sl (.ref b :: As)).length.ble (md_L cd) = true) (hs : st0 = As.reverse ++ .ref b :: st) (hw : ((st.map fun v : Value => v.category).sum).ble 8 = true) (hd : decode (md_c md) pc = .ok (.invokespecial idx, 3))
    (h1 : ng_Ev G cd 0 (ng_en (md_L cd) (.ref b :: As)) [] M (none, M2)) (h2 : ng_Ev G md (pc + 3) L st M2 X) : ng_Ev G md pc L st0 M X :=
  ev_callIN ok hl hR hn (Nat.le_of_ble_eq_true hsl) hs (Nat.le_of_ble_eq_true hw) hd h1 h2
theorem ev_mkw {G : ng_GG} {hn : (Nat → Int32) → (Nat → Int32) → (Nat → Int32) → (Nat → Int32) → (Nat → Int32) → (Nat → Int32) → (Nat → Int32) → (Nat → Int32) → (Nat → Int32) → (Nat → Int32) → (Nat → Int32) → (Nat → Int32) → (Nat → Int32) → (Nat → Int32) → (Nat → Nat → Int64) → (Nat → Int32) → (Nat → Int32) → (Nat → Int32) → Int32 → (Nat → Nat → Int32) → Nat → ng_AM} (V : ng_NL hn) {C : Nat → Int32} {off : Nat → Int32} {dear : Nat → Int32} {proved : Nat → Int32} {Dg : Nat → Int32} {dw : Nat → Int32} {nw : Nat → Int32} {J : Nat → Int32} {bef : Nat → Int32} {mov : Nat → Int32} {nxt : Nat → Int32} {chn : Nat → Int32} {tol : Nat → Int32} {tw : Nat → Int32} {nu : Nat → Nat → Int64} {sw : Nat → Int32} {ss : Nat → Int32} {giv : Nat → Int32} {sE : Int32} {P : Nat → Nat → Int32} {pn : Nat} {L : ng_LL} {st : List Value} {X : ng_RR} {i : Int32} (hL : L[0]? = some (some (.ref 9))) (hi : i.toNatClampNeg = pn) (hin : vp_in i 300) (hw0 : (((Value.int i :: .ref 10 :: st).map fun v : Value => v.category).sum).ble 7 = true) (k : ng_Ev G md_X1_keepIfNew 140 L st (hn C off dear proved Dg dw nw J bef mov nxt chn tol tw nu sw ss giv sE (va_up P pn (fun _ => 0)) (pn + 1)) X) : ng_Ev G md_X1_keepIfNew 127 L (.int i :: .ref 10 :: st) (hn C off dear proved Dg dw nw J bef mov nxt chn tol tw nu sw ss giv sE P pn) X := by
  have hw := Nat.le_of_ble_eq_true hw0
  have hlen := NL_len V (C := C) (off := off) (dear := dear) (proved := proved) (Dg := Dg) (dw := dw) (nw := nw) (J := J) (bef := bef) (mov := mov) (nxt := nxt) (chn := chn) (tol := tol) (tw := tw) (nu := nu) (sw := sw) (ss := ss) (giv := giv) (sE := sE) (P := P) (pn := pn)
  have hgrow := NL_grow V (C := C) (off := off) (dear := dear) (proved := proved) (Dg := Dg) (dw := dw) (nw := nw) (J := J) (bef := bef) (mov := mov) (nxt := nxt) (chn := chn) (tol := tol) (tw := tw) (nu := nu) (sw := sw) (ss := ss) (giv := giv) (sE := sE) (P := P) (pn := pn)
  have g9 := NL_g9 V (C := C) (off := off) (dear := dear) (proved := proved) (Dg := Dg) (dw := dw) (nw := nw) (J := J) (bef := bef) (mov := mov) (nxt := nxt) (chn := chn) (tol := tol) (tw := tw) (nu := nu) (sw := sw) (ss := ss) (giv := giv) (sE := sE) (P := P) (pn := pn)
  have g10 := NL_g10 V (C := C) (off := off) (dear := dear) (proved := proved) (Dg := Dg) (dw := dw) (nw := nw) (J := J) (bef := bef) (mov := mov) (nxt := nxt) (chn := chn) (tol := tol) (tw := tw) (nu := nu) (sw := sw) (ss := ss) (giv := giv) (sE := sE) (P := P) (pn := pn)
  rw [← hgrow] at k
  generalize hn C off dear proved Dg dw nw J bef mov nxt chn tol tw nu sw ss giv sE P pn = M at hlen g9 g10 k ⊢
  refine ev_new 4 RX4 TX4 3 tyX4 [.null, .null, .null] rfl okC_X4 tyX4_ok cl_RX1_11 inst_X4 init_X4 rfl (fun _ => rfl) (fun j hj => by rcases (show j = 0 ∨ j = 1 ∨ j = 2 by omega) with rfl | rfl | rfl <;> rfl) dX1_keepIfNew_127 ?_
  refine ev_dup dX1_keepIfNew_130 rfl ?_
  refine ev_aload_n dX1_keepIfNew_131 rfl hL rfl ?_
  refine ev_get 1 0 fl_RX1_61 ((List.getElem?_append_left (by omega)).trans g9) rfl dX1_keepIfNew_132 ?_
  refine ev_null dX1_keepIfNew_135 ?_
  have hsum : (([Value.ref M.length, .int i, .ref 10] ++ st).map fun v : Value => v.category).sum ≤ 8 := by
    simp [Value.category] at hw ⊢; omega
  refine bk_callI (As := [.ref 1, .null]) (st := .ref M.length :: .int i :: .ref 10 :: st) (M2 := M ++ [.inr (4, [.ref (46 + 2 * pn), .ref 1, .null]), .inl (0, 494, .inl (fun _ => 0))]) ok_X4_init lk_RX1_69 (ng_rok.of rfl rfl) rfl rfl rfl (Nat.ble_eq.mpr hsum) dX1_keepIfNew_136 (m_X4_init (q := M.length) (s := 1) (dv := .null) (by rw [List.getElem?_append_right (Nat.le_refl _)]; simp) (Or.inl rfl) ?_) ?_
  · rw [List.append_assoc, List.set_append_right _ _ (Nat.le_refl _)]
    simp [hlen]
    exact (by omega : (45 + 2 * pn + 1 : Nat) = 46 + 2 * pn)
  · refine ev_aast (t := 2) (ci := 4) (RX4, TX4, 3) (fun _ => rfl) rfl (n := 300) (f := ng_sn pn) ((List.getElem?_append_left (by omega)).trans g10) (vs := [.ref (46 + 2 * pn), .ref 1, .null]) (by rw [List.getElem?_append_right (Nat.le_refl _)]; simp) hin rfl dX1_keepIfNew_139 ?_
    rw [hi, hlen]
    exact k
