def K_X6_isHouse (hf : (Nat → Int32) → (Nat → Int32) → (Nat → Int32) → (Nat → Int32) → (Nat → Int32) → (Nat → Int32) → (Nat → Int32) → (Nat → Int32) → (Nat → Int32) → (Nat → Int32) → (Nat → Int32) → (Nat → Int32) → (Nat → Int32) → (Nat → Int32) → (Nat → Int64) → (Nat → Int64) → (Nat → Int32) → ng_AM) (F : Nat → Int32) (rl : Nat → Int32) (lg : Nat → Int32) (sta : Nat → Int32) (sm : Nat → Int32) (par : Nat → Int32) (mv : Nat → Int32) (dep : Nat → Int32) (nwa : Nat → Int32) (th : Nat → Int32) (bf : Nat → Int32) (row : Nat → Int32) (wid : Nat → Int32) (siz : Nat → Int32) (cel : Nat → Int64) (mvd : Nat → Int64) (ned : Nat → Int32) (r : Int32) : ng_RR := (some (.int (r)), hf F rl lg sta sm par mv dep nwa th bf row wid siz cel mvd ned)
def f_X6_isHouse  (rl : Nat → Int32) (v1 : Int32) : Int32 := (f_X6_in v1 (nI 0) ((rl (nI 11).toNatClampNeg) - (nI 1)))
def s_X6_isHouse  (rl : Nat → Int32) (v1 : Int32) : Prop := ((f_X6_in v1 (nI 0) ((rl (nI 11).toNatClampNeg) - (nI 1))) = 0 ∨ (f_X6_in v1 (nI 0) ((rl (nI 11).toNatClampNeg) - (nI 1))) = 1)
set_option maxRecDepth 100000 in
set_option maxHeartbeats 4000000 in
theorem e_X6_isHouse {G : ng_GG} {hf : (Nat → Int32) → (Nat → Int32) → (Nat → Int32) → (Nat → Int32) → (Nat → Int32) → (Nat → Int32) → (Nat → Int32) → (Nat → Int32) → (Nat → Int32) → (Nat → Int32) → (Nat → Int32) → (Nat → Int32) → (Nat → Int32) → (Nat → Int32) → (Nat → Int64) → (Nat → Int64) → (Nat → Int32) → ng_AM}  (V : ng_FL hf ) {F : Nat → Int32} {rl : Nat → Int32} {lg : Nat → Int32} {sta : Nat → Int32} {sm : Nat → Int32} {par : Nat → Int32} {mv : Nat → Int32} {dep : Nat → Int32} {nwa : Nat → Int32} {th : Nat → Int32} {bf : Nat → Int32} {row : Nat → Int32} {wid : Nat → Int32} {siz : Nat → Int32} {cel : Nat → Int64} {mvd : Nat → Int64} {ned : Nat → Int32}  {v1 : Int32} (h : s_X6_isHouse  rl v1)  : ng_Ev G md_X6_isHouse 0 [some (.ref 28), some (.int v1)] [] (hf F rl lg sta sm par mv dep nwa th bf row wid siz cel mvd ned) (K_X6_isHouse hf F rl lg sta sm par mv dep nwa th bf row wid siz cel mvd ned (f_X6_isHouse  rl v1)) := by
  unfold s_X6_isHouse at h
  unfold f_X6_isHouse
  refine ev_iload_n dX6_isHouse_0 rfl rfl ?_
  refine ev_iconst (v := nI 0) dX6_isHouse_1 (by decide) ?_
  refine ev_aload_n dX6_isHouse_2 rfl rfl rfl ?_
  refine ev_get 6 1 fl_RX6_9 (FL_g28 V) rfl dX6_isHouse_3 ?_
  refine ev_bipush (v := nI 11) dX6_isHouse_6 (by decide) ?_
  refine ev_iald (FL_g29 V) (vp_in_nI (by decide) (by decide)) dX6_isHouse_8 ?_
  refine ev_iconst (v := nI 1) dX6_isHouse_9 (by decide) ?_
  refine ev_isub dX6_isHouse_10 ?_
  refine bk_callS (As := [.int v1, .int (nI 0), .int ((rl (nI 11).toNatClampNeg) - (nI 1))]) (st := []) (st2 := [.int (f_X6_in v1 (nI 0) ((rl (nI 11).toNatClampNeg) - (nI 1)))]) (M2 := hf F rl lg sta sm par mv dep nwa th bf row wid siz cel mvd ned) ok_X6_in lk_RX6_67 (ng_rok.of rfl rfl) rfl rfl rfl rfl dX6_isHouse_11 (m_X6_in trivial) rfl rfl ?_
  exact ev_iret rfl (ng_nz h) dX6_isHouse_14
theorem m_X6_isHouse {G : ng_GG} {hf : (Nat → Int32) → (Nat → Int32) → (Nat → Int32) → (Nat → Int32) → (Nat → Int32) → (Nat → Int32) → (Nat → Int32) → (Nat → Int32) → (Nat → Int32) → (Nat → Int32) → (Nat → Int32) → (Nat → Int32) → (Nat → Int32) → (Nat → Int32) → (Nat → Int64) → (Nat → Int64) → (Nat → Int32) → ng_AM}  (V : ng_FL hf ) {F : Nat → Int32} {rl : Nat → Int32} {lg : Nat → Int32} {sta : Nat → Int32} {sm : Nat → Int32} {par : Nat → Int32} {mv : Nat → Int32} {dep : Nat → Int32} {nwa : Nat → Int32} {th : Nat → Int32} {bf : Nat → Int32} {row : Nat → Int32} {wid : Nat → Int32} {siz : Nat → Int32} {cel : Nat → Int64} {mvd : Nat → Int64} {ned : Nat → Int32} {v1 : Int32} (h : s_X6_isHouse rl v1)  : ng_Ev G md_X6_isHouse 0 (ng_en 2 [.ref 28, .int v1]) [] (hf F rl lg sta sm par mv dep nwa th bf row wid siz cel mvd ned) (K_X6_isHouse hf F rl lg sta sm par mv dep nwa th bf row wid siz cel mvd ned (f_X6_isHouse rl v1)) := e_X6_isHouse V h 
def K_X6_isNote (hf : (Nat → Int32) → (Nat → Int32) → (Nat → Int32) → (Nat → Int32) → (Nat → Int32) → (Nat → Int32) → (Nat → Int32) → (Nat → Int32) → (Nat → Int32) → (Nat → Int32) → (Nat → Int32) → (Nat → Int32) → (Nat → Int32) → (Nat → Int32) → (Nat → Int64) → (Nat → Int64) → (Nat → Int32) → ng_AM) (F : Nat → Int32) (rl : Nat → Int32) (lg : Nat → Int32) (sta : Nat → Int32) (sm : Nat → Int32) (par : Nat → Int32) (mv : Nat → Int32) (dep : Nat → Int32) (nwa : Nat → Int32) (th : Nat → Int32) (bf : Nat → Int32) (row : Nat → Int32) (wid : Nat → Int32) (siz : Nat → Int32) (cel : Nat → Int64) (mvd : Nat → Int64) (ned : Nat → Int32) (r : Int32) : ng_RR := (some (.int (r)), hf F rl lg sta sm par mv dep nwa th bf row wid siz cel mvd ned)
def f_X6_isNote  (rl : Nat → Int32) (v1 : Int32) : Int32 := (f_X6_in v1 (nI 0) ((rl (nI 12).toNatClampNeg) - (nI 1)))
def s_X6_isNote  (rl : Nat → Int32) (v1 : Int32) : Prop := ((f_X6_in v1 (nI 0) ((rl (nI 12).toNatClampNeg) - (nI 1))) = 0 ∨ (f_X6_in v1 (nI 0) ((rl (nI 12).toNatClampNeg) - (nI 1))) = 1)
set_option maxRecDepth 100000 in
set_option maxHeartbeats 4000000 in
theorem e_X6_isNote {G : ng_GG} {hf : (Nat → Int32) → (Nat → Int32) → (Nat → Int32) → (Nat → Int32) → (Nat → Int32) → (Nat → Int32) → (Nat → Int32) → (Nat → Int32) → (Nat → Int32) → (Nat → Int32) → (Nat → Int32) → (Nat → Int32) → (Nat → Int32) → (Nat → Int32) → (Nat → Int64) → (Nat → Int64) → (Nat → Int32) → ng_AM}  (V : ng_FL hf ) {F : Nat → Int32} {rl : Nat → Int32} {lg : Nat → Int32} {sta : Nat → Int32} {sm : Nat → Int32} {par : Nat → Int32} {mv : Nat → Int32} {dep : Nat → Int32} {nwa : Nat → Int32} {th : Nat → Int32} {bf : Nat → Int32} {row : Nat → Int32} {wid : Nat → Int32} {siz : Nat → Int32} {cel : Nat → Int64} {mvd : Nat → Int64} {ned : Nat → Int32}  {v1 : Int32} (h : s_X6_isNote  rl v1)  : ng_Ev G md_X6_isNote 0 [some (.ref 28), some (.int v1)] [] (hf F rl lg sta sm par mv dep nwa th bf row wid siz cel mvd ned) (K_X6_isNote hf F rl lg sta sm par mv dep nwa th bf row wid siz cel mvd ned (f_X6_isNote  rl v1)) := by
  unfold s_X6_isNote at h
  unfold f_X6_isNote
  refine ev_iload_n dX6_isNote_0 rfl rfl ?_
  refine ev_iconst (v := nI 0) dX6_isNote_1 (by decide) ?_
  refine ev_aload_n dX6_isNote_2 rfl rfl rfl ?_
  refine ev_get 6 1 fl_RX6_9 (FL_g28 V) rfl dX6_isNote_3 ?_
  refine ev_bipush (v := nI 12) dX6_isNote_6 (by decide) ?_
  refine ev_iald (FL_g29 V) (vp_in_nI (by decide) (by decide)) dX6_isNote_8 ?_
  refine ev_iconst (v := nI 1) dX6_isNote_9 (by decide) ?_
  refine ev_isub dX6_isNote_10 ?_
  refine bk_callS (As := [.int v1, .int (nI 0), .int ((rl (nI 12).toNatClampNeg) - (nI 1))]) (st := []) (st2 := [.int (f_X6_in v1 (nI 0) ((rl (nI 12).toNatClampNeg) - (nI 1)))]) (M2 := hf F rl lg sta sm par mv dep nwa th bf row wid siz cel mvd ned) ok_X6_in lk_RX6_67 (ng_rok.of rfl rfl) rfl rfl rfl rfl dX6_isNote_11 (m_X6_in trivial) rfl rfl ?_
  exact ev_iret rfl (ng_nz h) dX6_isNote_14
theorem m_X6_isNote {G : ng_GG} {hf : (Nat → Int32) → (Nat → Int32) → (Nat → Int32) → (Nat → Int32) → (Nat → Int32) → (Nat → Int32) → (Nat → Int32) → (Nat → Int32) → (Nat → Int32) → (Nat → Int32) → (Nat → Int32) → (Nat → Int32) → (Nat → Int32) → (Nat → Int32) → (Nat → Int64) → (Nat → Int64) → (Nat → Int32) → ng_AM}  (V : ng_FL hf ) {F : Nat → Int32} {rl : Nat → Int32} {lg : Nat → Int32} {sta : Nat → Int32} {sm : Nat → Int32} {par : Nat → Int32} {mv : Nat → Int32} {dep : Nat → Int32} {nwa : Nat → Int32} {th : Nat → Int32} {bf : Nat → Int32} {row : Nat → Int32} {wid : Nat → Int32} {siz : Nat → Int32} {cel : Nat → Int64} {mvd : Nat → Int64} {ned : Nat → Int32} {v1 : Int32} (h : s_X6_isNote rl v1)  : ng_Ev G md_X6_isNote 0 (ng_en 2 [.ref 28, .int v1]) [] (hf F rl lg sta sm par mv dep nwa th bf row wid siz cel mvd ned) (K_X6_isNote hf F rl lg sta sm par mv dep nwa th bf row wid siz cel mvd ned (f_X6_isNote rl v1)) := e_X6_isNote V h 
def K_X6_terms (hf : (Nat → Int32) → (Nat → Int32) → (Nat → Int32) → (Nat → Int32) → (Nat → Int32) → (Nat → Int32) → (Nat → Int32) → (Nat → Int32) → (Nat → Int32) → (Nat → Int32) → (Nat → Int32) → (Nat → Int32) → (Nat → Int32) → (Nat → Int32) → (Nat → Int64) → (Nat → Int64) → (Nat → Int32) → ng_AM) (lg : Nat → Int32) (sta : Nat → Int32) (sm : Nat → Int32) (par : Nat → Int32) (mv : Nat → Int32) (dep : Nat → Int32) (nwa : Nat → Int32) (th : Nat → Int32) (bf : Nat → Int32) (row : Nat → Int32) (wid : Nat → Int32) (siz : Nat → Int32) (cel : Nat → Int64) (mvd : Nat → Int64) (ned : Nat → Int32) (r : (Nat → Int32) × (Nat → Int32) × Int32) : ng_RR := (some (.int (r.2.2)), hf (r.1) (r.2.1) lg sta sm par mv dep nwa th bf row wid siz cel mvd ned)
def f_X6_terms  (F : Nat → Int32) (rl : Nat → Int32) (v1 : Int32) (v2 : Int32) (v3 : Int32) (v4 : Int32) (v5 : Int32) (v6 : Int32) (v7 : Int32) : (Nat → Int32) × (Nat → Int32) × Int32 := (if (f_X6_in v1 (nI 1) (nI 1000)) = 0 then ((upd F 0 (nI 0)), rl, nI 0) else (if (f_X6_in v2 (nI 1) (nI 10000)) = 0 then ((upd F 0 (nI 0)), rl, nI 0) else (if (f_X6_in v3 (nI 0) (nI 20)) = 0 then ((upd F 0 (nI 0)), rl, nI 0) else (if (f_X6_in v4 (nI 1) (nI 100)) = 0 then ((upd F 0 (nI 0)), rl, nI 0) else (if (f_X6_in v5 (nI 0) (nI 1000)) = 0 then ((upd F 0 (nI 0)), rl, nI 0) else (if (f_X6_in v6 (nI 1) (nI 100)) = 0 then ((upd F 0 (nI 0)), rl, nI 0) else (if (f_X6_in v7 (nI 0) (nI 1000)) = 0 then ((upd F 0 (nI 0)), rl, nI 0) else ((upd F 0 (nI 0)), (upd (upd (upd (upd (upd (upd (upd rl (nI 4).toNatClampNeg v1) (nI 5).toNatClampNeg v2) (nI 6).toNatClampNeg v3) (nI 7).toNatClampNeg v4) (nI 8).toNatClampNeg v5) (nI 9).toNatClampNeg v6) (nI 10).toNatClampNeg v7), nI 1))))))))
def s_X6_terms  (F : Nat → Int32) (rl : Nat → Int32) (v1 : Int32) (v2 : Int32) (v3 : Int32) (v4 : Int32) (v5 : Int32) (v6 : Int32) (v7 : Int32) : Prop := True
set_option maxRecDepth 100000 in
set_option maxHeartbeats 4000000 in
theorem e_X6_terms {G : ng_GG} {hf : (Nat → Int32) → (Nat → Int32) → (Nat → Int32) → (Nat → Int32) → (Nat → Int32) → (Nat → Int32) → (Nat → Int32) → (Nat → Int32) → (Nat → Int32) → (Nat → Int32) → (Nat → Int32) → (Nat → Int32) → (Nat → Int32) → (Nat → Int32) → (Nat → Int64) → (Nat → Int64) → (Nat → Int32) → ng_AM}  (V : ng_FL hf ) {F : Nat → Int32} {rl : Nat → Int32} {lg : Nat → Int32} {sta : Nat → Int32} {sm : Nat → Int32} {par : Nat → Int32} {mv : Nat → Int32} {dep : Nat → Int32} {nwa : Nat → Int32} {th : Nat → Int32} {bf : Nat → Int32} {row : Nat → Int32} {wid : Nat → Int32} {siz : Nat → Int32} {cel : Nat → Int64} {mvd : Nat → Int64} {ned : Nat → Int32}  {v1 : Int32} {v2 : Int32} {v3 : Int32} {v4 : Int32} {v5 : Int32} {v6 : Int32} {v7 : Int32} (h : s_X6_terms  F rl v1 v2 v3 v4 v5 v6 v7)  : ng_Ev G md_X6_terms 0 [some (.ref 28), some (.int v1), some (.int v2), some (.int v3), some (.int v4), some (.int v5), some (.int v6), some (.int v7)] [] (hf F rl lg sta sm par mv dep nwa th bf row wid siz cel mvd ned) (K_X6_terms hf lg sta sm par mv dep nwa th bf row wid siz cel mvd ned (f_X6_terms  F rl v1 v2 v3 v4 v5 v6 v7)) := by
  unfold s_X6_terms at h
  unfold f_X6_terms
  refine ev_aload_n dX6_terms_0 rfl rfl rfl ?_
  refine ev_iconst (v := nI 0) dX6_terms_1 (by decide) ?_
  refine ev_put 6 0 fs_RX6_64 (FL_g28 V) (ng_lt rfl) rfl (FL_s28 V (F' := (upd F 0 (nI 0)))) (ng_fit_i _) dX6_terms_2 ?_
  refine ev_iload_n dX6_terms_5 rfl rfl ?_
  refine ev_iconst (v := nI 1) dX6_terms_6 (by decide) ?_
  refine ev_sipush (v := nI 1000) dX6_terms_7 (by decide) ?_
  refine bk_callS (As := [.int v1, .int (nI 1), .int (nI 1000)]) (st := []) (st2 := [.int (f_X6_in v1 (nI 1) (nI 1000))]) (M2 := hf (upd F 0 (nI 0)) rl lg sta sm par mv dep nwa th bf row wid siz cel mvd ned) ok_X6_in lk_RX6_67 (ng_rok.of rfl rfl) rfl rfl rfl rfl dX6_terms_10 (m_X6_in trivial) rfl rfl ?_
  refine bk_if_eq (tgt := 83) dX6_terms_13 (by decide) (fun c13 => ?_) (fun c13 => ?_)
  · refine ev_iconst (v := nI 0) dX6_terms_83 (by decide) ?_
    exact ev_iret rfl (by decide) dX6_terms_84
  · refine ev_iload_n dX6_terms_16 rfl rfl ?_
    refine ev_iconst (v := nI 1) dX6_terms_17 (by decide) ?_
    refine ev_sipush (v := nI 10000) dX6_terms_18 (by decide) ?_
    refine bk_callS (As := [.int v2, .int (nI 1), .int (nI 10000)]) (st := []) (st2 := [.int (f_X6_in v2 (nI 1) (nI 10000))]) (M2 := hf (upd F 0 (nI 0)) rl lg sta sm par mv dep nwa th bf row wid siz cel mvd ned) ok_X6_in lk_RX6_67 (ng_rok.of rfl rfl) rfl rfl rfl rfl dX6_terms_21 (m_X6_in trivial) rfl rfl ?_
    refine bk_if_eq (tgt := 83) dX6_terms_24 (by decide) (fun c24 => ?_) (fun c24 => ?_)
    · refine ev_iconst (v := nI 0) dX6_terms_83 (by decide) ?_
      exact ev_iret rfl (by decide) dX6_terms_84
    · refine ev_iload_n dX6_terms_27 rfl rfl ?_
      refine ev_iconst (v := nI 0) dX6_terms_28 (by decide) ?_
      refine ev_bipush (v := nI 20) dX6_terms_29 (by decide) ?_
      refine bk_callS (As := [.int v3, .int (nI 0), .int (nI 20)]) (st := []) (st2 := [.int (f_X6_in v3 (nI 0) (nI 20))]) (M2 := hf (upd F 0 (nI 0)) rl lg sta sm par mv dep nwa th bf row wid siz cel mvd ned) ok_X6_in lk_RX6_67 (ng_rok.of rfl rfl) rfl rfl rfl rfl dX6_terms_31 (m_X6_in trivial) rfl rfl ?_
      refine bk_if_eq (tgt := 83) dX6_terms_34 (by decide) (fun c34 => ?_) (fun c34 => ?_)
      · refine ev_iconst (v := nI 0) dX6_terms_83 (by decide) ?_
        exact ev_iret rfl (by decide) dX6_terms_84
      · refine ev_iload dX6_terms_37 rfl ?_
        refine ev_iconst (v := nI 1) dX6_terms_39 (by decide) ?_
        refine ev_bipush (v := nI 100) dX6_terms_40 (by decide) ?_
        refine bk_callS (As := [.int v4, .int (nI 1), .int (nI 100)]) (st := []) (st2 := [.int (f_X6_in v4 (nI 1) (nI 100))]) (M2 := hf (upd F 0 (nI 0)) rl lg sta sm par mv dep nwa th bf row wid siz cel mvd ned) ok_X6_in lk_RX6_67 (ng_rok.of rfl rfl) rfl rfl rfl rfl dX6_terms_42 (m_X6_in trivial) rfl rfl ?_
        refine bk_if_eq (tgt := 83) dX6_terms_45 (by decide) (fun c45 => ?_) (fun c45 => ?_)
        · refine ev_iconst (v := nI 0) dX6_terms_83 (by decide) ?_
          exact ev_iret rfl (by decide) dX6_terms_84
        · refine ev_iload dX6_terms_48 rfl ?_
          refine ev_iconst (v := nI 0) dX6_terms_50 (by decide) ?_
          refine ev_sipush (v := nI 1000) dX6_terms_51 (by decide) ?_
          refine bk_callS (As := [.int v5, .int (nI 0), .int (nI 1000)]) (st := []) (st2 := [.int (f_X6_in v5 (nI 0) (nI 1000))]) (M2 := hf (upd F 0 (nI 0)) rl lg sta sm par mv dep nwa th bf row wid siz cel mvd ned) ok_X6_in lk_RX6_67 (ng_rok.of rfl rfl) rfl rfl rfl rfl dX6_terms_54 (m_X6_in trivial) rfl rfl ?_
          refine bk_if_eq (tgt := 83) dX6_terms_57 (by decide) (fun c57 => ?_) (fun c57 => ?_)
          · refine ev_iconst (v := nI 0) dX6_terms_83 (by decide) ?_
            exact ev_iret rfl (by decide) dX6_terms_84
          · refine ev_iload dX6_terms_60 rfl ?_
            refine ev_iconst (v := nI 1) dX6_terms_62 (by decide) ?_
            refine ev_bipush (v := nI 100) dX6_terms_63 (by decide) ?_
            refine bk_callS (As := [.int v6, .int (nI 1), .int (nI 100)]) (st := []) (st2 := [.int (f_X6_in v6 (nI 1) (nI 100))]) (M2 := hf (upd F 0 (nI 0)) rl lg sta sm par mv dep nwa th bf row wid siz cel mvd ned) ok_X6_in lk_RX6_67 (ng_rok.of rfl rfl) rfl rfl rfl rfl dX6_terms_65 (m_X6_in trivial) rfl rfl ?_
            refine bk_if_eq (tgt := 83) dX6_terms_68 (by decide) (fun c68 => ?_) (fun c68 => ?_)
            · refine ev_iconst (v := nI 0) dX6_terms_83 (by decide) ?_
              exact ev_iret rfl (by decide) dX6_terms_84
            · refine ev_iload dX6_terms_71 rfl ?_
              refine ev_iconst (v := nI 0) dX6_terms_73 (by decide) ?_
              refine ev_sipush (v := nI 1000) dX6_terms_74 (by decide) ?_
              refine bk_callS (As := [.int v7, .int (nI 0), .int (nI 1000)]) (st := []) (st2 := [.int (f_X6_in v7 (nI 0) (nI 1000))]) (M2 := hf (upd F 0 (nI 0)) rl lg sta sm par mv dep nwa th bf row wid siz cel mvd ned) ok_X6_in lk_RX6_67 (ng_rok.of rfl rfl) rfl rfl rfl rfl dX6_terms_77 (m_X6_in trivial) rfl rfl ?_
              refine bk_if_ne (tgt := 85) dX6_terms_80 (by decide) (fun c80 => ?_) (fun c80 => ?_)
              · refine ev_aload_n dX6_terms_85 rfl rfl rfl ?_
                refine ev_get 6 1 fl_RX6_9 (FL_g28 V) rfl dX6_terms_86 ?_
                refine ev_iconst (v := nI 4) dX6_terms_89 (by decide) ?_
                refine ev_iload_n dX6_terms_90 rfl rfl ?_
                refine ev_iast (FL_g29 V) (vp_in_nI (by decide) (by decide)) (FL_s29 V) dX6_terms_91 ?_
                refine ev_aload_n dX6_terms_92 rfl rfl rfl ?_
                refine ev_get 6 1 fl_RX6_9 (FL_g28 V) rfl dX6_terms_93 ?_
                refine ev_iconst (v := nI 5) dX6_terms_96 (by decide) ?_
                refine ev_iload_n dX6_terms_97 rfl rfl ?_
                refine ev_iast (FL_g29 V) (vp_in_nI (by decide) (by decide)) (FL_s29 V) dX6_terms_98 ?_
                refine ev_aload_n dX6_terms_99 rfl rfl rfl ?_
                refine ev_get 6 1 fl_RX6_9 (FL_g28 V) rfl dX6_terms_100 ?_
                refine ev_bipush (v := nI 6) dX6_terms_103 (by decide) ?_
                refine ev_iload_n dX6_terms_105 rfl rfl ?_
                refine ev_iast (FL_g29 V) (vp_in_nI (by decide) (by decide)) (FL_s29 V) dX6_terms_106 ?_
                refine ev_aload_n dX6_terms_107 rfl rfl rfl ?_
                refine ev_get 6 1 fl_RX6_9 (FL_g28 V) rfl dX6_terms_108 ?_
                refine ev_bipush (v := nI 7) dX6_terms_111 (by decide) ?_
                refine ev_iload dX6_terms_113 rfl ?_
                refine ev_iast (FL_g29 V) (vp_in_nI (by decide) (by decide)) (FL_s29 V) dX6_terms_115 ?_
                refine ev_aload_n dX6_terms_116 rfl rfl rfl ?_
                refine ev_get 6 1 fl_RX6_9 (FL_g28 V) rfl dX6_terms_117 ?_
                refine ev_bipush (v := nI 8) dX6_terms_120 (by decide) ?_
                refine ev_iload dX6_terms_122 rfl ?_
                refine ev_iast (FL_g29 V) (vp_in_nI (by decide) (by decide)) (FL_s29 V) dX6_terms_124 ?_
                refine ev_aload_n dX6_terms_125 rfl rfl rfl ?_
                refine ev_get 6 1 fl_RX6_9 (FL_g28 V) rfl dX6_terms_126 ?_
                refine ev_bipush (v := nI 9) dX6_terms_129 (by decide) ?_
                refine ev_iload dX6_terms_131 rfl ?_
                refine ev_iast (FL_g29 V) (vp_in_nI (by decide) (by decide)) (FL_s29 V) dX6_terms_133 ?_
                refine ev_aload_n dX6_terms_134 rfl rfl rfl ?_
                refine ev_get 6 1 fl_RX6_9 (FL_g28 V) rfl dX6_terms_135 ?_
                refine ev_bipush (v := nI 10) dX6_terms_138 (by decide) ?_
                refine ev_iload dX6_terms_140 rfl ?_
                refine ev_iast (FL_g29 V) (vp_in_nI (by decide) (by decide)) (FL_s29 V) dX6_terms_142 ?_
                refine ev_iconst (v := nI 1) dX6_terms_143 (by decide) ?_
                exact ev_iret rfl (by decide) dX6_terms_144
              · refine ev_iconst (v := nI 0) dX6_terms_83 (by decide) ?_
                exact ev_iret rfl (by decide) dX6_terms_84
theorem m_X6_terms {G : ng_GG} {hf : (Nat → Int32) → (Nat → Int32) → (Nat → Int32) → (Nat → Int32) → (Nat → Int32) → (Nat → Int32) → (Nat → Int32) → (Nat → Int32) → (Nat → Int32) → (Nat → Int32) → (Nat → Int32) → (Nat → Int32) → (Nat → Int32) → (Nat → Int32) → (Nat → Int64) → (Nat → Int64) → (Nat → Int32) → ng_AM}  (V : ng_FL hf ) {F : Nat → Int32} {rl : Nat → Int32} {lg : Nat → Int32} {sta : Nat → Int32} {sm : Nat → Int32} {par : Nat → Int32} {mv : Nat → Int32} {dep : Nat → Int32} {nwa : Nat → Int32} {th : Nat → Int32} {bf : Nat → Int32} {row : Nat → Int32} {wid : Nat → Int32} {siz : Nat → Int32} {cel : Nat → Int64} {mvd : Nat → Int64} {ned : Nat → Int32} {v1 : Int32} {v2 : Int32} {v3 : Int32} {v4 : Int32} {v5 : Int32} {v6 : Int32} {v7 : Int32} (h : s_X6_terms F rl v1 v2 v3 v4 v5 v6 v7)  : ng_Ev G md_X6_terms 0 (ng_en 8 [.ref 28, .int v1, .int v2, .int v3, .int v4, .int v5, .int v6, .int v7]) [] (hf F rl lg sta sm par mv dep nwa th bf row wid siz cel mvd ned) (K_X6_terms hf lg sta sm par mv dep nwa th bf row wid siz cel mvd ned (f_X6_terms F rl v1 v2 v3 v4 v5 v6 v7)) := e_X6_terms V h 
def K_X6_checks (hf : (Nat → Int32) → (Nat → Int32) → (Nat → Int32) → (Nat → Int32) → (Nat → Int32) → (Nat → Int32) → (Nat → Int32) → (Nat → Int32) → (Nat → Int32) → (Nat → Int32) → (Nat → Int32) → (Nat → Int32) → (Nat → Int32) → (Nat → Int32) → (Nat → Int64) → (Nat → Int64) → (Nat → Int32) → ng_AM) (lg : Nat → Int32) (sta : Nat → Int32) (sm : Nat → Int32) (par : Nat → Int32) (mv : Nat → Int32) (dep : Nat → Int32) (nwa : Nat → Int32) (th : Nat → Int32) (bf : Nat → Int32) (row : Nat → Int32) (wid : Nat → Int32) (siz : Nat → Int32) (cel : Nat → Int64) (mvd : Nat → Int64) (ned : Nat → Int32) (r : (Nat → Int32) × (Nat → Int32) × Int32) : ng_RR := (some (.int (r.2.2)), hf (r.1) (r.2.1) lg sta sm par mv dep nwa th bf row wid siz cel mvd ned)
def f_X6_checks  (F : Nat → Int32) (rl : Nat → Int32) (v1 : Int32) : (Nat → Int32) × (Nat → Int32) × Int32 := (if (f_X6_in v1 (nI 0) (nI 255)) = 0 then ((upd F 0 (nI 0)), rl, (-2)) else ((upd F 0 (nI 0)), (upd rl (nI 3).toNatClampNeg v1), (rl (nI 3).toNatClampNeg)))
def s_X6_checks  (F : Nat → Int32) (rl : Nat → Int32) (v1 : Int32) : Prop := True
set_option maxRecDepth 100000 in
set_option maxHeartbeats 4000000 in
theorem e_X6_checks {G : ng_GG} {hf : (Nat → Int32) → (Nat → Int32) → (Nat → Int32) → (Nat → Int32) → (Nat → Int32) → (Nat → Int32) → (Nat → Int32) → (Nat → Int32) → (Nat → Int32) → (Nat → Int32) → (Nat → Int32) → (Nat → Int32) → (Nat → Int32) → (Nat → Int32) → (Nat → Int64) → (Nat → Int64) → (Nat → Int32) → ng_AM}  (V : ng_FL hf ) {F : Nat → Int32} {rl : Nat → Int32} {lg : Nat → Int32} {sta : Nat → Int32} {sm : Nat → Int32} {par : Nat → Int32} {mv : Nat → Int32} {dep : Nat → Int32} {nwa : Nat → Int32} {th : Nat → Int32} {bf : Nat → Int32} {row : Nat → Int32} {wid : Nat → Int32} {siz : Nat → Int32} {cel : Nat → Int64} {mvd : Nat → Int64} {ned : Nat → Int32}  {v1 : Int32} (h : s_X6_checks  F rl v1)  : ng_Ev G md_X6_checks 0 [some (.ref 28), some (.int v1), none] [] (hf F rl lg sta sm par mv dep nwa th bf row wid siz cel mvd ned) (K_X6_checks hf lg sta sm par mv dep nwa th bf row wid siz cel mvd ned (f_X6_checks  F rl v1)) := by
  unfold s_X6_checks at h
  unfold f_X6_checks
  refine ev_aload_n dX6_checks_0 rfl rfl rfl ?_
  refine ev_iconst (v := nI 0) dX6_checks_1 (by decide) ?_
  refine ev_put 6 0 fs_RX6_64 (FL_g28 V) (ng_lt rfl) rfl (FL_s28 V (F' := (upd F 0 (nI 0)))) (ng_fit_i _) dX6_checks_2 ?_
  refine ev_iload_n dX6_checks_5 rfl rfl ?_
  refine ev_iconst (v := nI 0) dX6_checks_6 (by decide) ?_
  refine ev_sipush (v := nI 255) dX6_checks_7 (by decide) ?_
  refine bk_callS (As := [.int v1, .int (nI 0), .int (nI 255)]) (st := []) (st2 := [.int (f_X6_in v1 (nI 0) (nI 255))]) (M2 := hf (upd F 0 (nI 0)) rl lg sta sm par mv dep nwa th bf row wid siz cel mvd ned) ok_X6_in lk_RX6_67 (ng_rok.of rfl rfl) rfl rfl rfl rfl dX6_checks_10 (m_X6_in trivial) rfl rfl ?_
  refine bk_if_ne (tgt := 19) dX6_checks_13 (by decide) (fun c13 => ?_) (fun c13 => ?_)
  · refine ev_aload_n dX6_checks_19 rfl rfl rfl ?_
    refine ev_get 6 1 fl_RX6_9 (FL_g28 V) rfl dX6_checks_20 ?_
    refine ev_iconst (v := nI 3) dX6_checks_23 (by decide) ?_
    refine ev_iald (FL_g29 V) (vp_in_nI (by decide) (by decide)) dX6_checks_24 ?_
    refine ev_istore_n (L' := [some (.ref 28), some (.int v1), some (.int (rl (nI 3).toNatClampNeg))]) dX6_checks_25 rfl (ng_lt rfl) rfl ?_
    refine ev_aload_n dX6_checks_26 rfl rfl rfl ?_
    refine ev_get 6 1 fl_RX6_9 (FL_g28 V) rfl dX6_checks_27 ?_
    refine ev_iconst (v := nI 3) dX6_checks_30 (by decide) ?_
    refine ev_iload_n dX6_checks_31 rfl rfl ?_
    refine ev_iast (FL_g29 V) (vp_in_nI (by decide) (by decide)) (FL_s29 V) dX6_checks_32 ?_
    refine ev_iload_n dX6_checks_33 rfl rfl ?_
    exact ev_iret rfl rfl dX6_checks_34
  · refine ev_bipush (v := (-2)) dX6_checks_16 (by decide) ?_
    exact ev_iret rfl rfl dX6_checks_18
theorem m_X6_checks {G : ng_GG} {hf : (Nat → Int32) → (Nat → Int32) → (Nat → Int32) → (Nat → Int32) → (Nat → Int32) → (Nat → Int32) → (Nat → Int32) → (Nat → Int32) → (Nat → Int32) → (Nat → Int32) → (Nat → Int32) → (Nat → Int32) → (Nat → Int32) → (Nat → Int32) → (Nat → Int64) → (Nat → Int64) → (Nat → Int32) → ng_AM}  (V : ng_FL hf ) {F : Nat → Int32} {rl : Nat → Int32} {lg : Nat → Int32} {sta : Nat → Int32} {sm : Nat → Int32} {par : Nat → Int32} {mv : Nat → Int32} {dep : Nat → Int32} {nwa : Nat → Int32} {th : Nat → Int32} {bf : Nat → Int32} {row : Nat → Int32} {wid : Nat → Int32} {siz : Nat → Int32} {cel : Nat → Int64} {mvd : Nat → Int64} {ned : Nat → Int32} {v1 : Int32} (h : s_X6_checks F rl v1)  : ng_Ev G md_X6_checks 0 (ng_en 3 [.ref 28, .int v1]) [] (hf F rl lg sta sm par mv dep nwa th bf row wid siz cel mvd ned) (K_X6_checks hf lg sta sm par mv dep nwa th bf row wid siz cel mvd ned (f_X6_checks F rl v1)) := e_X6_checks V h 
def K_X6_house_ (hf : (Nat → Int32) → (Nat → Int32) → (Nat → Int32) → (Nat → Int32) → (Nat → Int32) → (Nat → Int32) → (Nat → Int32) → (Nat → Int32) → (Nat → Int32) → (Nat → Int32) → (Nat → Int32) → (Nat → Int32) → (Nat → Int32) → (Nat → Int32) → (Nat → Int64) → (Nat → Int64) → (Nat → Int32) → ng_AM) (lg : Nat → Int32) (sta : Nat → Int32) (sm : Nat → Int32) (par : Nat → Int32) (mv : Nat → Int32) (dep : Nat → Int32) (nwa : Nat → Int32) (th : Nat → Int32) (bf : Nat → Int32) (row : Nat → Int32) (wid : Nat → Int32) (siz : Nat → Int32) (cel : Nat → Int64) (mvd : Nat → Int64) (ned : Nat → Int32) (r : (Nat → Int32) × (Nat → Int32) × Int32) : ng_RR := (some (.int (r.2.2)), hf (r.1) (r.2.1) lg sta sm par mv dep nwa th bf row wid siz cel mvd ned)
def f_X6_house__83  (F : Nat → Int32) (rl : Nat → Int32) (v3 : Int32) (v4 : Int32) (t0 : Int32) (t1 : Int32) : (Nat → Int32) × (Nat → Int32) × Int32 := (F, (upd (upd (upd (upd (upd rl t1.toNatClampNeg t0) (v4 + (nI 2)).toNatClampNeg v3) (v4 + (nI 3)).toNatClampNeg (nI 1)) (v4 + (nI 4)).toNatClampNeg ((upd (upd (upd rl t1.toNatClampNeg t0) (v4 + (nI 2)).toNatClampNeg v3) (v4 + (nI 3)).toNatClampNeg (nI 1)) (nI 0).toNatClampNeg)) (nI 11).toNatClampNeg (((upd (upd (upd (upd rl t1.toNatClampNeg t0) (v4 + (nI 2)).toNatClampNeg v3) (v4 + (nI 3)).toNatClampNeg (nI 1)) (v4 + (nI 4)).toNatClampNeg ((upd (upd (upd rl t1.toNatClampNeg t0) (v4 + (nI 2)).toNatClampNeg v3) (v4 + (nI 3)).toNatClampNeg (nI 1)) (nI 0).toNatClampNeg)) (nI 11).toNatClampNeg) + (nI 1))), (((upd (upd (upd (upd (upd rl t1.toNatClampNeg t0) (v4 + (nI 2)).toNatClampNeg v3) (v4 + (nI 3)).toNatClampNeg (nI 1)) (v4 + (nI 4)).toNatClampNeg ((upd (upd (upd rl t1.toNatClampNeg t0) (v4 + (nI 2)).toNatClampNeg v3) (v4 + (nI 3)).toNatClampNeg (nI 1)) (nI 0).toNatClampNeg)) (nI 11).toNatClampNeg (((upd (upd (upd (upd rl t1.toNatClampNeg t0) (v4 + (nI 2)).toNatClampNeg v3) (v4 + (nI 3)).toNatClampNeg (nI 1)) (v4 + (nI 4)).toNatClampNeg ((upd (upd (upd rl t1.toNatClampNeg t0) (v4 + (nI 2)).toNatClampNeg v3) (v4 + (nI 3)).toNatClampNeg (nI 1)) (nI 0).toNatClampNeg)) (nI 11).toNatClampNeg) + (nI 1))) (nI 11).toNatClampNeg) - (nI 1)))
def s_X6_house__83  (F : Nat → Int32) (rl : Nat → Int32) (v3 : Int32) (v4 : Int32) (t0 : Int32) (t1 : Int32) : Prop := (vp_in t1 527 ∧ (vp_in (v4 + (nI 2)) 527 ∧ (vp_in (v4 + (nI 3)) 527 ∧ vp_in (v4 + (nI 4)) 527)))
set_option maxRecDepth 100000 in
set_option maxHeartbeats 4000000 in
theorem e_X6_house__83 {G : ng_GG} {hf : (Nat → Int32) → (Nat → Int32) → (Nat → Int32) → (Nat → Int32) → (Nat → Int32) → (Nat → Int32) → (Nat → Int32) → (Nat → Int32) → (Nat → Int32) → (Nat → Int32) → (Nat → Int32) → (Nat → Int32) → (Nat → Int32) → (Nat → Int32) → (Nat → Int64) → (Nat → Int64) → (Nat → Int32) → ng_AM}  (V : ng_FL hf ) {F : Nat → Int32} {rl : Nat → Int32} {lg : Nat → Int32} {sta : Nat → Int32} {sm : Nat → Int32} {par : Nat → Int32} {mv : Nat → Int32} {dep : Nat → Int32} {nwa : Nat → Int32} {th : Nat → Int32} {bf : Nat → Int32} {row : Nat → Int32} {wid : Nat → Int32} {siz : Nat → Int32} {cel : Nat → Int64} {mvd : Nat → Int64} {ned : Nat → Int32}  {v3 : Int32} {v4 : Int32} {t0 : Int32} {t1 : Int32} (h : s_X6_house__83  F rl v3 v4 t0 t1)  : ng_Ev G md_X6_house_ 83 [some (.ref 28), none, none, some (.int v3), some (.int v4)] [.int t0, .int t1, .ref 29] (hf F rl lg sta sm par mv dep nwa th bf row wid siz cel mvd ned) (K_X6_house_ hf lg sta sm par mv dep nwa th bf row wid siz cel mvd ned (f_X6_house__83  F rl v3 v4 t0 t1)) := by
  unfold s_X6_house__83 at h
  unfold f_X6_house__83
  have hi83 := h.1
  replace h := h.2
  refine ev_iast (FL_g29 V) hi83 (FL_s29 V) dX6_house__83 ?_
  refine ev_aload_n dX6_house__84 rfl rfl rfl ?_
  refine ev_get 6 1 fl_RX6_9 (FL_g28 V) rfl dX6_house__85 ?_
  refine ev_iload dX6_house__88 rfl ?_
  refine ev_iconst (v := nI 2) dX6_house__90 (by decide) ?_
  refine ev_iadd dX6_house__91 ?_
  refine ev_iload_n dX6_house__92 rfl rfl ?_
  have hi93 := h.1
  replace h := h.2
  refine ev_iast (FL_g29 V) hi93 (FL_s29 V) dX6_house__93 ?_
  refine ev_aload_n dX6_house__94 rfl rfl rfl ?_
  refine ev_get 6 1 fl_RX6_9 (FL_g28 V) rfl dX6_house__95 ?_
  refine ev_iload dX6_house__98 rfl ?_
  refine ev_iconst (v := nI 3) dX6_house__100 (by decide) ?_
  refine ev_iadd dX6_house__101 ?_
  refine ev_iconst (v := nI 1) dX6_house__102 (by decide) ?_
  have hi103 := h.1
  replace h := h.2
  refine ev_iast (FL_g29 V) hi103 (FL_s29 V) dX6_house__103 ?_
  refine ev_aload_n dX6_house__104 rfl rfl rfl ?_
  refine ev_get 6 1 fl_RX6_9 (FL_g28 V) rfl dX6_house__105 ?_
  refine ev_iload dX6_house__108 rfl ?_
  refine ev_iconst (v := nI 4) dX6_house__110 (by decide) ?_
  refine ev_iadd dX6_house__111 ?_
  refine ev_aload_n dX6_house__112 rfl rfl rfl ?_
  refine ev_get 6 1 fl_RX6_9 (FL_g28 V) rfl dX6_house__113 ?_
  refine ev_iconst (v := nI 0) dX6_house__116 (by decide) ?_
  refine ev_iald (FL_g29 V) (vp_in_nI (by decide) (by decide)) dX6_house__117 ?_
  have hi118 := h
  refine ev_iast (FL_g29 V) hi118 (FL_s29 V) dX6_house__118 ?_
  refine ev_aload_n dX6_house__119 rfl rfl rfl ?_
  refine ev_get 6 1 fl_RX6_9 (FL_g28 V) rfl dX6_house__120 ?_
  refine ev_bipush (v := nI 11) dX6_house__123 (by decide) ?_
  refine ev_dup2 dX6_house__125 rfl rfl ?_
  refine ev_iald (FL_g29 V) (vp_in_nI (by decide) (by decide)) dX6_house__126 ?_
  refine ev_iconst (v := nI 1) dX6_house__127 (by decide) ?_
  refine ev_iadd dX6_house__128 ?_
  refine ev_iast (FL_g29 V) (vp_in_nI (by decide) (by decide)) (FL_s29 V) dX6_house__129 ?_
  refine ev_aload_n dX6_house__130 rfl rfl rfl ?_
  refine ev_get 6 1 fl_RX6_9 (FL_g28 V) rfl dX6_house__131 ?_
  refine ev_bipush (v := nI 11) dX6_house__134 (by decide) ?_
  refine ev_iald (FL_g29 V) (vp_in_nI (by decide) (by decide)) dX6_house__136 ?_
  refine ev_iconst (v := nI 1) dX6_house__137 (by decide) ?_
  refine ev_isub dX6_house__138 ?_
  exact ev_iret rfl rfl dX6_house__139
def f_X6_house_  (F : Nat → Int32) (rl : Nat → Int32) (v1 : Int32) (v2 : Int32) (v3 : Int32) : (Nat → Int32) × (Nat → Int32) × Int32 := (if (f_X6_in v1 (-20) (nI 20)) = 0 then ((upd F 0 (nI 0)), rl, (-2)) else (if (f_X6_in v3 (nI 0) (nI 255)) = 0 then ((upd F 0 (nI 0)), rl, (-2)) else (if (rl (nI 11).toNatClampNeg) = (nI 4) then ((upd F 0 (nI 0)), rl, (-3)) else (if v2 = 0 then f_X6_house__83 (upd F 0 (nI 0)) (upd rl ((f_X6_house (rl (nI 11).toNatClampNeg)) + (nI 0)).toNatClampNeg v1) v3 (f_X6_house (rl (nI 11).toNatClampNeg)) (nI 0) ((f_X6_house (rl (nI 11).toNatClampNeg)) + (nI 1)) else f_X6_house__83 (upd F 0 (nI 0)) (upd rl ((f_X6_house (rl (nI 11).toNatClampNeg)) + (nI 0)).toNatClampNeg v1) v3 (f_X6_house (rl (nI 11).toNatClampNeg)) (nI 1) ((f_X6_house (rl (nI 11).toNatClampNeg)) + (nI 1))))))
def s_X6_house_  (F : Nat → Int32) (rl : Nat → Int32) (v1 : Int32) (v2 : Int32) (v3 : Int32) : Prop := (¬ (f_X6_in v1 (-20) (nI 20)) = 0 → (¬ (f_X6_in v3 (nI 0) (nI 255)) = 0 → (¬ (rl (nI 11).toNatClampNeg) = (nI 4) → (vp_in ((f_X6_house (rl (nI 11).toNatClampNeg)) + (nI 0)) 527 ∧ ((v2 = 0 → s_X6_house__83 (upd F 0 (nI 0)) (upd rl ((f_X6_house (rl (nI 11).toNatClampNeg)) + (nI 0)).toNatClampNeg v1) v3 (f_X6_house (rl (nI 11).toNatClampNeg)) (nI 0) ((f_X6_house (rl (nI 11).toNatClampNeg)) + (nI 1))) ∧ (¬ v2 = 0 → s_X6_house__83 (upd F 0 (nI 0)) (upd rl ((f_X6_house (rl (nI 11).toNatClampNeg)) + (nI 0)).toNatClampNeg v1) v3 (f_X6_house (rl (nI 11).toNatClampNeg)) (nI 1) ((f_X6_house (rl (nI 11).toNatClampNeg)) + (nI 1))))))))
set_option maxRecDepth 100000 in
set_option maxHeartbeats 4000000 in
theorem e_X6_house_ {G : ng_GG} {hf : (Nat → Int32) → (Nat → Int32) → (Nat → Int32) → (Nat → Int32) → (Nat → Int32) → (Nat → Int32) → (Nat → Int32) → (Nat → Int32) → (Nat → Int32) → (Nat → Int32) → (Nat → Int32) → (Nat → Int32) → (Nat → Int32) → (Nat → Int32) → (Nat → Int64) → (Nat → Int64) → (Nat → Int32) → ng_AM}  (V : ng_FL hf ) {F : Nat → Int32} {rl : Nat → Int32} {lg : Nat → Int32} {sta : Nat → Int32} {sm : Nat → Int32} {par : Nat → Int32} {mv : Nat → Int32} {dep : Nat → Int32} {nwa : Nat → Int32} {th : Nat → Int32} {bf : Nat → Int32} {row : Nat → Int32} {wid : Nat → Int32} {siz : Nat → Int32} {cel : Nat → Int64} {mvd : Nat → Int64} {ned : Nat → Int32}  {v1 : Int32} {v2 : Int32} {v3 : Int32} (h : s_X6_house_  F rl v1 v2 v3)  : ng_Ev G md_X6_house_ 0 [some (.ref 28), some (.int v1), some (.int v2), some (.int v3), none] [] (hf F rl lg sta sm par mv dep nwa th bf row wid siz cel mvd ned) (K_X6_house_ hf lg sta sm par mv dep nwa th bf row wid siz cel mvd ned (f_X6_house_  F rl v1 v2 v3)) := by
  unfold s_X6_house_ at h
  unfold f_X6_house_
  refine ev_aload_n dX6_house__0 rfl rfl rfl ?_
  refine ev_iconst (v := nI 0) dX6_house__1 (by decide) ?_
  refine ev_put 6 0 fs_RX6_64 (FL_g28 V) (ng_lt rfl) rfl (FL_s28 V (F' := (upd F 0 (nI 0)))) (ng_fit_i _) dX6_house__2 ?_
  refine ev_iload_n dX6_house__5 rfl rfl ?_
  refine ev_bipush (v := (-20)) dX6_house__6 (by decide) ?_
  refine ev_bipush (v := nI 20) dX6_house__8 (by decide) ?_
  refine bk_callS (As := [.int v1, .int (-20), .int (nI 20)]) (st := []) (st2 := [.int (f_X6_in v1 (-20) (nI 20))]) (M2 := hf (upd F 0 (nI 0)) rl lg sta sm par mv dep nwa th bf row wid siz cel mvd ned) ok_X6_in lk_RX6_67 (ng_rok.of rfl rfl) rfl rfl rfl rfl dX6_house__10 (m_X6_in trivial) rfl rfl ?_
  refine bk_if_eq (tgt := 27) dX6_house__13 (by decide) (fun c13 => ?_) (fun c13 => ?_)
  · refine ev_bipush (v := (-2)) dX6_house__27 (by decide) ?_
    exact ev_iret rfl rfl dX6_house__29
  · replace h := h c13
    refine ev_iload_n dX6_house__16 rfl rfl ?_
    refine ev_iconst (v := nI 0) dX6_house__17 (by decide) ?_
    refine ev_sipush (v := nI 255) dX6_house__18 (by decide) ?_
    refine bk_callS (As := [.int v3, .int (nI 0), .int (nI 255)]) (st := []) (st2 := [.int (f_X6_in v3 (nI 0) (nI 255))]) (M2 := hf (upd F 0 (nI 0)) rl lg sta sm par mv dep nwa th bf row wid siz cel mvd ned) ok_X6_in lk_RX6_67 (ng_rok.of rfl rfl) rfl rfl rfl rfl dX6_house__21 (m_X6_in trivial) rfl rfl ?_
    refine bk_if_ne (tgt := 30) dX6_house__24 (by decide) (fun c24 => ?_) (fun c24 => ?_)
    · replace h := h c24
      refine ev_aload_n dX6_house__30 rfl rfl rfl ?_
      refine ev_get 6 1 fl_RX6_9 (FL_g28 V) rfl dX6_house__31 ?_
      refine ev_bipush (v := nI 11) dX6_house__34 (by decide) ?_
      refine ev_iald (FL_g29 V) (vp_in_nI (by decide) (by decide)) dX6_house__36 ?_
      refine ev_iconst (v := nI 4) dX6_house__37 (by decide) ?_
      refine bk_icmp_ne (tgt := 44) dX6_house__38 (by decide) (fun c38 => ?_) (fun c38 => ?_)
      · replace h := h c38
        refine ev_aload_n dX6_house__44 rfl rfl rfl ?_
        refine ev_get 6 1 fl_RX6_9 (FL_g28 V) rfl dX6_house__45 ?_
        refine ev_bipush (v := nI 11) dX6_house__48 (by decide) ?_
        refine ev_iald (FL_g29 V) (vp_in_nI (by decide) (by decide)) dX6_house__50 ?_
        refine bk_callS (As := [.int (rl (nI 11).toNatClampNeg)]) (st := []) (st2 := [.int (f_X6_house (rl (nI 11).toNatClampNeg))]) (M2 := hf (upd F 0 (nI 0)) rl lg sta sm par mv dep nwa th bf row wid siz cel mvd ned) ok_X6_house lk_RX6_75 (ng_rok.of rfl rfl) rfl rfl rfl rfl dX6_house__51 (m_X6_house trivial) rfl rfl ?_
        refine ev_istore (L' := [some (.ref 28), some (.int v1), some (.int v2), some (.int v3), some (.int (f_X6_house (rl (nI 11).toNatClampNeg)))]) dX6_house__54 (ng_lt rfl) rfl ?_
        refine ev_aload_n dX6_house__56 rfl rfl rfl ?_
        refine ev_get 6 1 fl_RX6_9 (FL_g28 V) rfl dX6_house__57 ?_
        refine ev_iload dX6_house__60 rfl ?_
        refine ev_iconst (v := nI 0) dX6_house__62 (by decide) ?_
        refine ev_iadd dX6_house__63 ?_
        refine ev_iload_n dX6_house__64 rfl rfl ?_
        have hi65 := h.1
        replace h := h.2
        refine ev_iast (FL_g29 V) hi65 (FL_s29 V) dX6_house__65 ?_
        refine ev_aload_n dX6_house__66 rfl rfl rfl ?_
        refine ev_get 6 1 fl_RX6_9 (FL_g28 V) rfl dX6_house__67 ?_
        refine ev_iload dX6_house__70 rfl ?_
        refine ev_iconst (v := nI 1) dX6_house__72 (by decide) ?_
        refine ev_iadd dX6_house__73 ?_
        refine ev_iload_n dX6_house__74 rfl rfl ?_
        refine bk_if_eq (tgt := 82) dX6_house__75 (by decide) (fun c75 => ?_) (fun c75 => ?_)
        · replace h := h.1 c75
          refine ev_iconst (v := nI 0) dX6_house__82 (by decide) ?_
          exact ev_sub (e_X6_house__83 V h) (sub_s (sub_n (sub_n (sub_s (sub_s sub_e)))))
        · replace h := h.2 c75
          refine ev_iconst (v := nI 1) dX6_house__78 (by decide) ?_
          refine ev_goto (tgt := 83) dX6_house__79 (by decide) ?_
          exact ev_sub (e_X6_house__83 V h) (sub_s (sub_n (sub_n (sub_s (sub_s sub_e)))))
      · refine ev_bipush (v := (-3)) dX6_house__41 (by decide) ?_
        exact ev_iret rfl rfl dX6_house__43
    · refine ev_bipush (v := (-2)) dX6_house__27 (by decide) ?_
      exact ev_iret rfl rfl dX6_house__29
theorem m_X6_house_ {G : ng_GG} {hf : (Nat → Int32) → (Nat → Int32) → (Nat → Int32) → (Nat → Int32) → (Nat → Int32) → (Nat → Int32) → (Nat → Int32) → (Nat → Int32) → (Nat → Int32) → (Nat → Int32) → (Nat → Int32) → (Nat → Int32) → (Nat → Int32) → (Nat → Int32) → (Nat → Int64) → (Nat → Int64) → (Nat → Int32) → ng_AM}  (V : ng_FL hf ) {F : Nat → Int32} {rl : Nat → Int32} {lg : Nat → Int32} {sta : Nat → Int32} {sm : Nat → Int32} {par : Nat → Int32} {mv : Nat → Int32} {dep : Nat → Int32} {nwa : Nat → Int32} {th : Nat → Int32} {bf : Nat → Int32} {row : Nat → Int32} {wid : Nat → Int32} {siz : Nat → Int32} {cel : Nat → Int64} {mvd : Nat → Int64} {ned : Nat → Int32} {v1 : Int32} {v2 : Int32} {v3 : Int32} (h : s_X6_house_ F rl v1 v2 v3)  : ng_Ev G md_X6_house_ 0 (ng_en 5 [.ref 28, .int v1, .int v2, .int v3]) [] (hf F rl lg sta sm par mv dep nwa th bf row wid siz cel mvd ned) (K_X6_house_ hf lg sta sm par mv dep nwa th bf row wid siz cel mvd ned (f_X6_house_ F rl v1 v2 v3)) := e_X6_house_ V h 
def K_X6_throwOut (hf : (Nat → Int32) → (Nat → Int32) → (Nat → Int32) → (Nat → Int32) → (Nat → Int32) → (Nat → Int32) → (Nat → Int32) → (Nat → Int32) → (Nat → Int32) → (Nat → Int32) → (Nat → Int32) → (Nat → Int32) → (Nat → Int32) → (Nat → Int32) → (Nat → Int64) → (Nat → Int64) → (Nat → Int32) → ng_AM) (lg : Nat → Int32) (sta : Nat → Int32) (sm : Nat → Int32) (par : Nat → Int32) (mv : Nat → Int32) (dep : Nat → Int32) (nwa : Nat → Int32) (th : Nat → Int32) (bf : Nat → Int32) (row : Nat → Int32) (wid : Nat → Int32) (siz : Nat → Int32) (cel : Nat → Int64) (mvd : Nat → Int64) (ned : Nat → Int32) (r : (Nat → Int32) × (Nat → Int32) × Int32) : ng_RR := (some (.int (r.2.2)), hf (r.1) (r.2.1) lg sta sm par mv dep nwa th bf row wid siz cel mvd ned)
def f_X6_throwOut  (F : Nat → Int32) (rl : Nat → Int32) (v1 : Int32) : (Nat → Int32) × (Nat → Int32) × Int32 := (if (f_X6_isHouse rl v1) = 0 then ((upd F 0 (nI 0)), rl, nI 0) else (if (rl ((f_X6_house v1) + (nI 3)).toNatClampNeg) = 0 then ((upd F 0 (nI 0)), rl, nI 0) else ((upd F 0 (nI 0)), (upd rl ((f_X6_house v1) + (nI 3)).toNatClampNeg (nI 0)), nI 1)))
def s_X6_throwOut  (F : Nat → Int32) (rl : Nat → Int32) (v1 : Int32) : Prop := (s_X6_isHouse rl v1 ∧ (¬ (f_X6_isHouse rl v1) = 0 → (vp_in ((f_X6_house v1) + (nI 3)) 527 ∧ (¬ (rl ((f_X6_house v1) + (nI 3)).toNatClampNeg) = 0 → vp_in ((f_X6_house v1) + (nI 3)) 527))))
set_option maxRecDepth 100000 in
set_option maxHeartbeats 4000000 in
theorem e_X6_throwOut {G : ng_GG} {hf : (Nat → Int32) → (Nat → Int32) → (Nat → Int32) → (Nat → Int32) → (Nat → Int32) → (Nat → Int32) → (Nat → Int32) → (Nat → Int32) → (Nat → Int32) → (Nat → Int32) → (Nat → Int32) → (Nat → Int32) → (Nat → Int32) → (Nat → Int32) → (Nat → Int64) → (Nat → Int64) → (Nat → Int32) → ng_AM}  (V : ng_FL hf ) {F : Nat → Int32} {rl : Nat → Int32} {lg : Nat → Int32} {sta : Nat → Int32} {sm : Nat → Int32} {par : Nat → Int32} {mv : Nat → Int32} {dep : Nat → Int32} {nwa : Nat → Int32} {th : Nat → Int32} {bf : Nat → Int32} {row : Nat → Int32} {wid : Nat → Int32} {siz : Nat → Int32} {cel : Nat → Int64} {mvd : Nat → Int64} {ned : Nat → Int32}  {v1 : Int32} (h : s_X6_throwOut  F rl v1)  : ng_Ev G md_X6_throwOut 0 [some (.ref 28), some (.int v1)] [] (hf F rl lg sta sm par mv dep nwa th bf row wid siz cel mvd ned) (K_X6_throwOut hf lg sta sm par mv dep nwa th bf row wid siz cel mvd ned (f_X6_throwOut  F rl v1)) := by
  unfold s_X6_throwOut at h
  unfold f_X6_throwOut
  refine ev_aload_n dX6_throwOut_0 rfl rfl rfl ?_
  refine ev_iconst (v := nI 0) dX6_throwOut_1 (by decide) ?_
  refine ev_put 6 0 fs_RX6_64 (FL_g28 V) (ng_lt rfl) rfl (FL_s28 V (F' := (upd F 0 (nI 0)))) (ng_fit_i _) dX6_throwOut_2 ?_
  refine ev_aload_n dX6_throwOut_5 rfl rfl rfl ?_
  refine ev_iload_n dX6_throwOut_6 rfl rfl ?_
  have hs7 := h.1
  replace h := h.2
  refine bk_callV (As := [.int v1]) (st := []) (st2 := [.int (f_X6_isHouse rl v1)]) (M2 := hf (upd F 0 (nI 0)) rl lg sta sm par mv dep nwa th bf row wid siz cel mvd ned) ok_X6_isHouse lk_RX6_78 (ng_rok.of rfl rfl) (FL_g28 V) rfl rfl rfl rfl rfl rfl dX6_throwOut_7 (m_X6_isHouse V hs7) rfl rfl ?_
  refine bk_if_eq (tgt := 27) dX6_throwOut_10 (by decide) (fun c10 => ?_) (fun c10 => ?_)
  · refine ev_iconst (v := nI 0) dX6_throwOut_27 (by decide) ?_
    exact ev_iret rfl (by decide) dX6_throwOut_28
  · replace h := h c10
    refine ev_aload_n dX6_throwOut_13 rfl rfl rfl ?_
    refine ev_get 6 1 fl_RX6_9 (FL_g28 V) rfl dX6_throwOut_14 ?_
    refine ev_iload_n dX6_throwOut_17 rfl rfl ?_
    refine bk_callS (As := [.int v1]) (st := [.ref 29]) (st2 := [.int (f_X6_house v1), .ref 29]) (M2 := hf (upd F 0 (nI 0)) rl lg sta sm par mv dep nwa th bf row wid siz cel mvd ned) ok_X6_house lk_RX6_75 (ng_rok.of rfl rfl) rfl rfl rfl rfl dX6_throwOut_18 (m_X6_house trivial) rfl rfl ?_
    refine ev_iconst (v := nI 3) dX6_throwOut_21 (by decide) ?_
    refine ev_iadd dX6_throwOut_22 ?_
    have hi23 := h.1
    replace h := h.2
    refine ev_iald (FL_g29 V) hi23 dX6_throwOut_23 ?_
    refine bk_if_ne (tgt := 29) dX6_throwOut_24 (by decide) (fun c24 => ?_) (fun c24 => ?_)
    · replace h := h c24
      refine ev_aload_n dX6_throwOut_29 rfl rfl rfl ?_
      refine ev_get 6 1 fl_RX6_9 (FL_g28 V) rfl dX6_throwOut_30 ?_
      refine ev_iload_n dX6_throwOut_33 rfl rfl ?_
      refine bk_callS (As := [.int v1]) (st := [.ref 29]) (st2 := [.int (f_X6_house v1), .ref 29]) (M2 := hf (upd F 0 (nI 0)) rl lg sta sm par mv dep nwa th bf row wid siz cel mvd ned) ok_X6_house lk_RX6_75 (ng_rok.of rfl rfl) rfl rfl rfl rfl dX6_throwOut_34 (m_X6_house trivial) rfl rfl ?_
      refine ev_iconst (v := nI 3) dX6_throwOut_37 (by decide) ?_
      refine ev_iadd dX6_throwOut_38 ?_
      refine ev_iconst (v := nI 0) dX6_throwOut_39 (by decide) ?_
      have hi40 := h
      refine ev_iast (FL_g29 V) hi40 (FL_s29 V) dX6_throwOut_40 ?_
      refine ev_iconst (v := nI 1) dX6_throwOut_41 (by decide) ?_
      exact ev_iret rfl (by decide) dX6_throwOut_42
    · refine ev_iconst (v := nI 0) dX6_throwOut_27 (by decide) ?_
      exact ev_iret rfl (by decide) dX6_throwOut_28
theorem m_X6_throwOut {G : ng_GG} {hf : (Nat → Int32) → (Nat → Int32) → (Nat → Int32) → (Nat → Int32) → (Nat → Int32) → (Nat → Int32) → (Nat → Int32) → (Nat → Int32) → (Nat → Int32) → (Nat → Int32) → (Nat → Int32) → (Nat → Int32) → (Nat → Int32) → (Nat → Int32) → (Nat → Int64) → (Nat → Int64) → (Nat → Int32) → ng_AM}  (V : ng_FL hf ) {F : Nat → Int32} {rl : Nat → Int32} {lg : Nat → Int32} {sta : Nat → Int32} {sm : Nat → Int32} {par : Nat → Int32} {mv : Nat → Int32} {dep : Nat → Int32} {nwa : Nat → Int32} {th : Nat → Int32} {bf : Nat → Int32} {row : Nat → Int32} {wid : Nat → Int32} {siz : Nat → Int32} {cel : Nat → Int64} {mvd : Nat → Int64} {ned : Nat → Int32} {v1 : Int32} (h : s_X6_throwOut F rl v1)  : ng_Ev G md_X6_throwOut 0 (ng_en 2 [.ref 28, .int v1]) [] (hf F rl lg sta sm par mv dep nwa th bf row wid siz cel mvd ned) (K_X6_throwOut hf lg sta sm par mv dep nwa th bf row wid siz cel mvd ned (f_X6_throwOut F rl v1)) := e_X6_throwOut V h 
def K_X6_keeper (hf : (Nat → Int32) → (Nat → Int32) → (Nat → Int32) → (Nat → Int32) → (Nat → Int32) → (Nat → Int32) → (Nat → Int32) → (Nat → Int32) → (Nat → Int32) → (Nat → Int32) → (Nat → Int32) → (Nat → Int32) → (Nat → Int32) → (Nat → Int32) → (Nat → Int64) → (Nat → Int64) → (Nat → Int32) → ng_AM) (lg : Nat → Int32) (sta : Nat → Int32) (sm : Nat → Int32) (par : Nat → Int32) (mv : Nat → Int32) (dep : Nat → Int32) (nwa : Nat → Int32) (th : Nat → Int32) (bf : Nat → Int32) (row : Nat → Int32) (wid : Nat → Int32) (siz : Nat → Int32) (cel : Nat → Int64) (mvd : Nat → Int64) (ned : Nat → Int32) (r : (Nat → Int32) × (Nat → Int32) × Int32) : ng_RR := (some (.int (r.2.2)), hf (r.1) (r.2.1) lg sta sm par mv dep nwa th bf row wid siz cel mvd ned)
def f_X6_keeper_35  (F : Nat → Int32) (rl : Nat → Int32) (v2 : Int32) (t0 : Int32) (t1 : Int32) : (Nat → Int32) × (Nat → Int32) × Int32 := (F, (upd rl t1.toNatClampNeg t0), v2)
def s_X6_keeper_35  (F : Nat → Int32) (rl : Nat → Int32) (v2 : Int32) (t0 : Int32) (t1 : Int32) : Prop := (vp_in t1 527 ∧ (v2 = 0 ∨ v2 = 1))
set_option maxRecDepth 100000 in
set_option maxHeartbeats 4000000 in
theorem e_X6_keeper_35 {G : ng_GG} {hf : (Nat → Int32) → (Nat → Int32) → (Nat → Int32) → (Nat → Int32) → (Nat → Int32) → (Nat → Int32) → (Nat → Int32) → (Nat → Int32) → (Nat → Int32) → (Nat → Int32) → (Nat → Int32) → (Nat → Int32) → (Nat → Int32) → (Nat → Int32) → (Nat → Int64) → (Nat → Int64) → (Nat → Int32) → ng_AM}  (V : ng_FL hf ) {F : Nat → Int32} {rl : Nat → Int32} {lg : Nat → Int32} {sta : Nat → Int32} {sm : Nat → Int32} {par : Nat → Int32} {mv : Nat → Int32} {dep : Nat → Int32} {nwa : Nat → Int32} {th : Nat → Int32} {bf : Nat → Int32} {row : Nat → Int32} {wid : Nat → Int32} {siz : Nat → Int32} {cel : Nat → Int64} {mvd : Nat → Int64} {ned : Nat → Int32}  {v2 : Int32} {t0 : Int32} {t1 : Int32} (h : s_X6_keeper_35  F rl v2 t0 t1)  : ng_Ev G md_X6_keeper 35 [none, none, some (.int v2)] [.int t0, .int t1, .ref 29] (hf F rl lg sta sm par mv dep nwa th bf row wid siz cel mvd ned) (K_X6_keeper hf lg sta sm par mv dep nwa th bf row wid siz cel mvd ned (f_X6_keeper_35  F rl v2 t0 t1)) := by
  unfold s_X6_keeper_35 at h
  unfold f_X6_keeper_35
  have hi35 := h.1
  replace h := h.2
  refine ev_iast (FL_g29 V) hi35 (FL_s29 V) dX6_keeper_35 ?_
  refine ev_iload_n dX6_keeper_36 rfl rfl ?_
  exact ev_iret rfl (ng_nz h) dX6_keeper_37
def f_X6_keeper_20  (F : Nat → Int32) (rl : Nat → Int32) (v1 : Int32) (t0 : Int32) : (Nat → Int32) × (Nat → Int32) × Int32 := (if v1 = 0 then f_X6_keeper_35 F rl t0 (nI 0) (nI 1) else f_X6_keeper_35 F rl t0 (nI 1) (nI 1))
def s_X6_keeper_20  (F : Nat → Int32) (rl : Nat → Int32) (v1 : Int32) (t0 : Int32) : Prop := ((v1 = 0 → s_X6_keeper_35 F rl t0 (nI 0) (nI 1)) ∧ (¬ v1 = 0 → s_X6_keeper_35 F rl t0 (nI 1) (nI 1)))
set_option maxRecDepth 100000 in
set_option maxHeartbeats 4000000 in
theorem e_X6_keeper_20 {G : ng_GG} {hf : (Nat → Int32) → (Nat → Int32) → (Nat → Int32) → (Nat → Int32) → (Nat → Int32) → (Nat → Int32) → (Nat → Int32) → (Nat → Int32) → (Nat → Int32) → (Nat → Int32) → (Nat → Int32) → (Nat → Int32) → (Nat → Int32) → (Nat → Int32) → (Nat → Int64) → (Nat → Int64) → (Nat → Int32) → ng_AM}  (V : ng_FL hf ) {F : Nat → Int32} {rl : Nat → Int32} {lg : Nat → Int32} {sta : Nat → Int32} {sm : Nat → Int32} {par : Nat → Int32} {mv : Nat → Int32} {dep : Nat → Int32} {nwa : Nat → Int32} {th : Nat → Int32} {bf : Nat → Int32} {row : Nat → Int32} {wid : Nat → Int32} {siz : Nat → Int32} {cel : Nat → Int64} {mvd : Nat → Int64} {ned : Nat → Int32}  {v1 : Int32} {t0 : Int32} (h : s_X6_keeper_20  F rl v1 t0)  : ng_Ev G md_X6_keeper 20 [some (.ref 28), some (.int v1), none] [.int t0] (hf F rl lg sta sm par mv dep nwa th bf row wid siz cel mvd ned) (K_X6_keeper hf lg sta sm par mv dep nwa th bf row wid siz cel mvd ned (f_X6_keeper_20  F rl v1 t0)) := by
  unfold s_X6_keeper_20 at h
  unfold f_X6_keeper_20
  refine ev_istore_n (L' := [some (.ref 28), some (.int v1), some (.int t0)]) dX6_keeper_20 rfl (ng_lt rfl) rfl ?_
  refine ev_aload_n dX6_keeper_21 rfl rfl rfl ?_
  refine ev_get 6 1 fl_RX6_9 (FL_g28 V) rfl dX6_keeper_22 ?_
  refine ev_iconst (v := nI 1) dX6_keeper_25 (by decide) ?_
  refine ev_iload_n dX6_keeper_26 rfl rfl ?_
  refine bk_if_eq (tgt := 34) dX6_keeper_27 (by decide) (fun c27 => ?_) (fun c27 => ?_)
  · replace h := h.1 c27
    refine ev_iconst (v := nI 0) dX6_keeper_34 (by decide) ?_
    exact ev_sub (e_X6_keeper_35 V h) (sub_n (sub_n (sub_s sub_e)))
  · replace h := h.2 c27
    refine ev_iconst (v := nI 1) dX6_keeper_30 (by decide) ?_
    refine ev_goto (tgt := 35) dX6_keeper_31 (by decide) ?_
    exact ev_sub (e_X6_keeper_35 V h) (sub_n (sub_n (sub_s sub_e)))
def f_X6_keeper  (F : Nat → Int32) (rl : Nat → Int32) (v1 : Int32) : (Nat → Int32) × (Nat → Int32) × Int32 := (if (rl (nI 1).toNatClampNeg) = (nI 1) then f_X6_keeper_20 (upd F 0 (nI 0)) rl v1 (nI 1) else f_X6_keeper_20 (upd F 0 (nI 0)) rl v1 (nI 0))
def s_X6_keeper  (F : Nat → Int32) (rl : Nat → Int32) (v1 : Int32) : Prop := (((rl (nI 1).toNatClampNeg) = (nI 1) → s_X6_keeper_20 (upd F 0 (nI 0)) rl v1 (nI 1)) ∧ (¬ (rl (nI 1).toNatClampNeg) = (nI 1) → s_X6_keeper_20 (upd F 0 (nI 0)) rl v1 (nI 0)))
set_option maxRecDepth 100000 in
set_option maxHeartbeats 4000000 in
theorem e_X6_keeper {G : ng_GG} {hf : (Nat → Int32) → (Nat → Int32) → (Nat → Int32) → (Nat → Int32) → (Nat → Int32) → (Nat → Int32) → (Nat → Int32) → (Nat → Int32) → (Nat → Int32) → (Nat → Int32) → (Nat → Int32) → (Nat → Int32) → (Nat → Int32) → (Nat → Int32) → (Nat → Int64) → (Nat → Int64) → (Nat → Int32) → ng_AM}  (V : ng_FL hf ) {F : Nat → Int32} {rl : Nat → Int32} {lg : Nat → Int32} {sta : Nat → Int32} {sm : Nat → Int32} {par : Nat → Int32} {mv : Nat → Int32} {dep : Nat → Int32} {nwa : Nat → Int32} {th : Nat → Int32} {bf : Nat → Int32} {row : Nat → Int32} {wid : Nat → Int32} {siz : Nat → Int32} {cel : Nat → Int64} {mvd : Nat → Int64} {ned : Nat → Int32}  {v1 : Int32} (h : s_X6_keeper  F rl v1)  : ng_Ev G md_X6_keeper 0 [some (.ref 28), some (.int v1), none] [] (hf F rl lg sta sm par mv dep nwa th bf row wid siz cel mvd ned) (K_X6_keeper hf lg sta sm par mv dep nwa th bf row wid siz cel mvd ned (f_X6_keeper  F rl v1)) := by
  unfold s_X6_keeper at h
  unfold f_X6_keeper
  refine ev_aload_n dX6_keeper_0 rfl rfl rfl ?_
  refine ev_iconst (v := nI 0) dX6_keeper_1 (by decide) ?_
  refine ev_put 6 0 fs_RX6_64 (FL_g28 V) (ng_lt rfl) rfl (FL_s28 V (F' := (upd F 0 (nI 0)))) (ng_fit_i _) dX6_keeper_2 ?_
  refine ev_aload_n dX6_keeper_5 rfl rfl rfl ?_
  refine ev_get 6 1 fl_RX6_9 (FL_g28 V) rfl dX6_keeper_6 ?_
  refine ev_iconst (v := nI 1) dX6_keeper_9 (by decide) ?_
  refine ev_iald (FL_g29 V) (vp_in_nI (by decide) (by decide)) dX6_keeper_10 ?_
  refine ev_iconst (v := nI 1) dX6_keeper_11 (by decide) ?_
  refine bk_icmp_ne (tgt := 19) dX6_keeper_12 (by decide) (fun c12 => ?_) (fun c12 => ?_)
  · replace h := h.2 c12
    refine ev_iconst (v := nI 0) dX6_keeper_19 (by decide) ?_
    exact ev_sub (e_X6_keeper_20 V h) (sub_s (sub_s (sub_n sub_e)))
  · replace h := h.1 c12
    refine ev_iconst (v := nI 1) dX6_keeper_15 (by decide) ?_
    refine ev_goto (tgt := 20) dX6_keeper_16 (by decide) ?_
    exact ev_sub (e_X6_keeper_20 V h) (sub_s (sub_s (sub_n sub_e)))
theorem m_X6_keeper {G : ng_GG} {hf : (Nat → Int32) → (Nat → Int32) → (Nat → Int32) → (Nat → Int32) → (Nat → Int32) → (Nat → Int32) → (Nat → Int32) → (Nat → Int32) → (Nat → Int32) → (Nat → Int32) → (Nat → Int32) → (Nat → Int32) → (Nat → Int32) → (Nat → Int32) → (Nat → Int64) → (Nat → Int64) → (Nat → Int32) → ng_AM}  (V : ng_FL hf ) {F : Nat → Int32} {rl : Nat → Int32} {lg : Nat → Int32} {sta : Nat → Int32} {sm : Nat → Int32} {par : Nat → Int32} {mv : Nat → Int32} {dep : Nat → Int32} {nwa : Nat → Int32} {th : Nat → Int32} {bf : Nat → Int32} {row : Nat → Int32} {wid : Nat → Int32} {siz : Nat → Int32} {cel : Nat → Int64} {mvd : Nat → Int64} {ned : Nat → Int32} {v1 : Int32} (h : s_X6_keeper F rl v1)  : ng_Ev G md_X6_keeper 0 (ng_en 3 [.ref 28, .int v1]) [] (hf F rl lg sta sm par mv dep nwa th bf row wid siz cel mvd ned) (K_X6_keeper hf lg sta sm par mv dep nwa th bf row wid siz cel mvd ned (f_X6_keeper F rl v1)) := e_X6_keeper V h 
def K_X6_tap (hf : (Nat → Int32) → (Nat → Int32) → (Nat → Int32) → (Nat → Int32) → (Nat → Int32) → (Nat → Int32) → (Nat → Int32) → (Nat → Int32) → (Nat → Int32) → (Nat → Int32) → (Nat → Int32) → (Nat → Int32) → (Nat → Int32) → (Nat → Int32) → (Nat → Int64) → (Nat → Int64) → (Nat → Int32) → ng_AM) (lg : Nat → Int32) (sta : Nat → Int32) (sm : Nat → Int32) (par : Nat → Int32) (mv : Nat → Int32) (dep : Nat → Int32) (nwa : Nat → Int32) (th : Nat → Int32) (bf : Nat → Int32) (row : Nat → Int32) (wid : Nat → Int32) (siz : Nat → Int32) (cel : Nat → Int64) (mvd : Nat → Int64) (ned : Nat → Int32) (r : (Nat → Int32) × (Nat → Int32) × Int32) : ng_RR := (some (.int (r.2.2)), hf (r.1) (r.2.1) lg sta sm par mv dep nwa th bf row wid siz cel mvd ned)
def f_X6_tap  (F : Nat → Int32) (rl : Nat → Int32) (v1 : Int32) : (Nat → Int32) × (Nat → Int32) × Int32 := (if (f_X6_in v1 (nI 0) (nI 511)) = 0 then ((upd F 0 (nI 0)), rl, (-2)) else ((upd F 0 (nI 0)), (upd rl (nI 2).toNatClampNeg v1), (rl (nI 2).toNatClampNeg)))
def s_X6_tap  (F : Nat → Int32) (rl : Nat → Int32) (v1 : Int32) : Prop := True
set_option maxRecDepth 100000 in
set_option maxHeartbeats 4000000 in
theorem e_X6_tap {G : ng_GG} {hf : (Nat → Int32) → (Nat → Int32) → (Nat → Int32) → (Nat → Int32) → (Nat → Int32) → (Nat → Int32) → (Nat → Int32) → (Nat → Int32) → (Nat → Int32) → (Nat → Int32) → (Nat → Int32) → (Nat → Int32) → (Nat → Int32) → (Nat → Int32) → (Nat → Int64) → (Nat → Int64) → (Nat → Int32) → ng_AM}  (V : ng_FL hf ) {F : Nat → Int32} {rl : Nat → Int32} {lg : Nat → Int32} {sta : Nat → Int32} {sm : Nat → Int32} {par : Nat → Int32} {mv : Nat → Int32} {dep : Nat → Int32} {nwa : Nat → Int32} {th : Nat → Int32} {bf : Nat → Int32} {row : Nat → Int32} {wid : Nat → Int32} {siz : Nat → Int32} {cel : Nat → Int64} {mvd : Nat → Int64} {ned : Nat → Int32}  {v1 : Int32} (h : s_X6_tap  F rl v1)  : ng_Ev G md_X6_tap 0 [some (.ref 28), some (.int v1), none] [] (hf F rl lg sta sm par mv dep nwa th bf row wid siz cel mvd ned) (K_X6_tap hf lg sta sm par mv dep nwa th bf row wid siz cel mvd ned (f_X6_tap  F rl v1)) := by
  unfold s_X6_tap at h
  unfold f_X6_tap
  refine ev_aload_n dX6_tap_0 rfl rfl rfl ?_
  refine ev_iconst (v := nI 0) dX6_tap_1 (by decide) ?_
  refine ev_put 6 0 fs_RX6_64 (FL_g28 V) (ng_lt rfl) rfl (FL_s28 V (F' := (upd F 0 (nI 0)))) (ng_fit_i _) dX6_tap_2 ?_
  refine ev_iload_n dX6_tap_5 rfl rfl ?_
  refine ev_iconst (v := nI 0) dX6_tap_6 (by decide) ?_
  refine ev_sipush (v := nI 511) dX6_tap_7 (by decide) ?_
  refine bk_callS (As := [.int v1, .int (nI 0), .int (nI 511)]) (st := []) (st2 := [.int (f_X6_in v1 (nI 0) (nI 511))]) (M2 := hf (upd F 0 (nI 0)) rl lg sta sm par mv dep nwa th bf row wid siz cel mvd ned) ok_X6_in lk_RX6_67 (ng_rok.of rfl rfl) rfl rfl rfl rfl dX6_tap_10 (m_X6_in trivial) rfl rfl ?_
  refine bk_if_ne (tgt := 19) dX6_tap_13 (by decide) (fun c13 => ?_) (fun c13 => ?_)
  · refine ev_aload_n dX6_tap_19 rfl rfl rfl ?_
    refine ev_get 6 1 fl_RX6_9 (FL_g28 V) rfl dX6_tap_20 ?_
    refine ev_iconst (v := nI 2) dX6_tap_23 (by decide) ?_
    refine ev_iald (FL_g29 V) (vp_in_nI (by decide) (by decide)) dX6_tap_24 ?_
    refine ev_istore_n (L' := [some (.ref 28), some (.int v1), some (.int (rl (nI 2).toNatClampNeg))]) dX6_tap_25 rfl (ng_lt rfl) rfl ?_
    refine ev_aload_n dX6_tap_26 rfl rfl rfl ?_
    refine ev_get 6 1 fl_RX6_9 (FL_g28 V) rfl dX6_tap_27 ?_
    refine ev_iconst (v := nI 2) dX6_tap_30 (by decide) ?_
    refine ev_iload_n dX6_tap_31 rfl rfl ?_
    refine ev_iast (FL_g29 V) (vp_in_nI (by decide) (by decide)) (FL_s29 V) dX6_tap_32 ?_
    refine ev_iload_n dX6_tap_33 rfl rfl ?_
    exact ev_iret rfl rfl dX6_tap_34
  · refine ev_bipush (v := (-2)) dX6_tap_16 (by decide) ?_
    exact ev_iret rfl rfl dX6_tap_18
theorem m_X6_tap {G : ng_GG} {hf : (Nat → Int32) → (Nat → Int32) → (Nat → Int32) → (Nat → Int32) → (Nat → Int32) → (Nat → Int32) → (Nat → Int32) → (Nat → Int32) → (Nat → Int32) → (Nat → Int32) → (Nat → Int32) → (Nat → Int32) → (Nat → Int32) → (Nat → Int32) → (Nat → Int64) → (Nat → Int64) → (Nat → Int32) → ng_AM}  (V : ng_FL hf ) {F : Nat → Int32} {rl : Nat → Int32} {lg : Nat → Int32} {sta : Nat → Int32} {sm : Nat → Int32} {par : Nat → Int32} {mv : Nat → Int32} {dep : Nat → Int32} {nwa : Nat → Int32} {th : Nat → Int32} {bf : Nat → Int32} {row : Nat → Int32} {wid : Nat → Int32} {siz : Nat → Int32} {cel : Nat → Int64} {mvd : Nat → Int64} {ned : Nat → Int32} {v1 : Int32} (h : s_X6_tap F rl v1)  : ng_Ev G md_X6_tap 0 (ng_en 3 [.ref 28, .int v1]) [] (hf F rl lg sta sm par mv dep nwa th bf row wid siz cel mvd ned) (K_X6_tap hf lg sta sm par mv dep nwa th bf row wid siz cel mvd ned (f_X6_tap F rl v1)) := e_X6_tap V h 
def K_X6_prove (hf : (Nat → Int32) → (Nat → Int32) → (Nat → Int32) → (Nat → Int32) → (Nat → Int32) → (Nat → Int32) → (Nat → Int32) → (Nat → Int32) → (Nat → Int32) → (Nat → Int32) → (Nat → Int32) → (Nat → Int32) → (Nat → Int32) → (Nat → Int32) → (Nat → Int64) → (Nat → Int64) → (Nat → Int32) → ng_AM) (lg : Nat → Int32) (sta : Nat → Int32) (sm : Nat → Int32) (par : Nat → Int32) (mv : Nat → Int32) (dep : Nat → Int32) (nwa : Nat → Int32) (th : Nat → Int32) (bf : Nat → Int32) (row : Nat → Int32) (wid : Nat → Int32) (siz : Nat → Int32) (cel : Nat → Int64) (mvd : Nat → Int64) (ned : Nat → Int32) (r : (Nat → Int32) × (Nat → Int32) × Int32) : ng_RR := (some (.int (r.2.2)), hf (r.1) (r.2.1) lg sta sm par mv dep nwa th bf row wid siz cel mvd ned)
def f_X6_prove  (F : Nat → Int32) (rl : Nat → Int32) (v1 : Int32) : (Nat → Int32) × (Nat → Int32) × Int32 := (if (f_X6_in v1 (nI 0) (nI 4)) = 0 then ((upd F 0 (nI 0)), rl, nI 0) else (if (rl (nI 1).toNatClampNeg) = 0 then ((upd F 0 (nI 0)), rl, nI 0) else ((upd F 0 (nI 0)), (upd rl ((f_X6_browser v1) + (nI 0)).toNatClampNeg (rl (nI 0).toNatClampNeg)), nI 1)))
def s_X6_prove  (F : Nat → Int32) (rl : Nat → Int32) (v1 : Int32) : Prop := (¬ (f_X6_in v1 (nI 0) (nI 4)) = 0 → (¬ (rl (nI 1).toNatClampNeg) = 0 → vp_in ((f_X6_browser v1) + (nI 0)) 527))
set_option maxRecDepth 100000 in
set_option maxHeartbeats 4000000 in
theorem e_X6_prove {G : ng_GG} {hf : (Nat → Int32) → (Nat → Int32) → (Nat → Int32) → (Nat → Int32) → (Nat → Int32) → (Nat → Int32) → (Nat → Int32) → (Nat → Int32) → (Nat → Int32) → (Nat → Int32) → (Nat → Int32) → (Nat → Int32) → (Nat → Int32) → (Nat → Int32) → (Nat → Int64) → (Nat → Int64) → (Nat → Int32) → ng_AM}  (V : ng_FL hf ) {F : Nat → Int32} {rl : Nat → Int32} {lg : Nat → Int32} {sta : Nat → Int32} {sm : Nat → Int32} {par : Nat → Int32} {mv : Nat → Int32} {dep : Nat → Int32} {nwa : Nat → Int32} {th : Nat → Int32} {bf : Nat → Int32} {row : Nat → Int32} {wid : Nat → Int32} {siz : Nat → Int32} {cel : Nat → Int64} {mvd : Nat → Int64} {ned : Nat → Int32}  {v1 : Int32} (h : s_X6_prove  F rl v1)  : ng_Ev G md_X6_prove 0 [some (.ref 28), some (.int v1)] [] (hf F rl lg sta sm par mv dep nwa th bf row wid siz cel mvd ned) (K_X6_prove hf lg sta sm par mv dep nwa th bf row wid siz cel mvd ned (f_X6_prove  F rl v1)) := by
  unfold s_X6_prove at h
  unfold f_X6_prove
  refine ev_aload_n dX6_prove_0 rfl rfl rfl ?_
  refine ev_iconst (v := nI 0) dX6_prove_1 (by decide) ?_
  refine ev_put 6 0 fs_RX6_64 (FL_g28 V) (ng_lt rfl) rfl (FL_s28 V (F' := (upd F 0 (nI 0)))) (ng_fit_i _) dX6_prove_2 ?_
  refine ev_iload_n dX6_prove_5 rfl rfl ?_
  refine ev_iconst (v := nI 0) dX6_prove_6 (by decide) ?_
  refine ev_iconst (v := nI 4) dX6_prove_7 (by decide) ?_
  refine bk_callS (As := [.int v1, .int (nI 0), .int (nI 4)]) (st := []) (st2 := [.int (f_X6_in v1 (nI 0) (nI 4))]) (M2 := hf (upd F 0 (nI 0)) rl lg sta sm par mv dep nwa th bf row wid siz cel mvd ned) ok_X6_in lk_RX6_67 (ng_rok.of rfl rfl) rfl rfl rfl rfl dX6_prove_8 (m_X6_in trivial) rfl rfl ?_
  refine bk_if_eq (tgt := 23) dX6_prove_11 (by decide) (fun c11 => ?_) (fun c11 => ?_)
  · refine ev_iconst (v := nI 0) dX6_prove_23 (by decide) ?_
    exact ev_iret rfl (by decide) dX6_prove_24
  · replace h := h c11
    refine ev_aload_n dX6_prove_14 rfl rfl rfl ?_
    refine ev_get 6 1 fl_RX6_9 (FL_g28 V) rfl dX6_prove_15 ?_
    refine ev_iconst (v := nI 1) dX6_prove_18 (by decide) ?_
    refine ev_iald (FL_g29 V) (vp_in_nI (by decide) (by decide)) dX6_prove_19 ?_
    refine bk_if_ne (tgt := 25) dX6_prove_20 (by decide) (fun c20 => ?_) (fun c20 => ?_)
    · replace h := h c20
      refine ev_aload_n dX6_prove_25 rfl rfl rfl ?_
      refine ev_get 6 1 fl_RX6_9 (FL_g28 V) rfl dX6_prove_26 ?_
      refine ev_iload_n dX6_prove_29 rfl rfl ?_
      refine bk_callS (As := [.int v1]) (st := [.ref 29]) (st2 := [.int (f_X6_browser v1), .ref 29]) (M2 := hf (upd F 0 (nI 0)) rl lg sta sm par mv dep nwa th bf row wid siz cel mvd ned) ok_X6_browser lk_RX6_82 (ng_rok.of rfl rfl) rfl rfl rfl rfl dX6_prove_30 (m_X6_browser trivial) rfl rfl ?_
      refine ev_iconst (v := nI 0) dX6_prove_33 (by decide) ?_
      refine ev_iadd dX6_prove_34 ?_
      refine ev_aload_n dX6_prove_35 rfl rfl rfl ?_
      refine ev_get 6 1 fl_RX6_9 (FL_g28 V) rfl dX6_prove_36 ?_
      refine ev_iconst (v := nI 0) dX6_prove_39 (by decide) ?_
      refine ev_iald (FL_g29 V) (vp_in_nI (by decide) (by decide)) dX6_prove_40 ?_
      have hi41 := h
      refine ev_iast (FL_g29 V) hi41 (FL_s29 V) dX6_prove_41 ?_
      refine ev_iconst (v := nI 1) dX6_prove_42 (by decide) ?_
      exact ev_iret rfl (by decide) dX6_prove_43
    · refine ev_iconst (v := nI 0) dX6_prove_23 (by decide) ?_
      exact ev_iret rfl (by decide) dX6_prove_24
theorem m_X6_prove {G : ng_GG} {hf : (Nat → Int32) → (Nat → Int32) → (Nat → Int32) → (Nat → Int32) → (Nat → Int32) → (Nat → Int32) → (Nat → Int32) → (Nat → Int32) → (Nat → Int32) → (Nat → Int32) → (Nat → Int32) → (Nat → Int32) → (Nat → Int32) → (Nat → Int32) → (Nat → Int64) → (Nat → Int64) → (Nat → Int32) → ng_AM}  (V : ng_FL hf ) {F : Nat → Int32} {rl : Nat → Int32} {lg : Nat → Int32} {sta : Nat → Int32} {sm : Nat → Int32} {par : Nat → Int32} {mv : Nat → Int32} {dep : Nat → Int32} {nwa : Nat → Int32} {th : Nat → Int32} {bf : Nat → Int32} {row : Nat → Int32} {wid : Nat → Int32} {siz : Nat → Int32} {cel : Nat → Int64} {mvd : Nat → Int64} {ned : Nat → Int32} {v1 : Int32} (h : s_X6_prove F rl v1)  : ng_Ev G md_X6_prove 0 (ng_en 2 [.ref 28, .int v1]) [] (hf F rl lg sta sm par mv dep nwa th bf row wid siz cel mvd ned) (K_X6_prove hf lg sta sm par mv dep nwa th bf row wid siz cel mvd ned (f_X6_prove F rl v1)) := e_X6_prove V h 
def K_X6_leave (hf : (Nat → Int32) → (Nat → Int32) → (Nat → Int32) → (Nat → Int32) → (Nat → Int32) → (Nat → Int32) → (Nat → Int32) → (Nat → Int32) → (Nat → Int32) → (Nat → Int32) → (Nat → Int32) → (Nat → Int32) → (Nat → Int32) → (Nat → Int32) → (Nat → Int64) → (Nat → Int64) → (Nat → Int32) → ng_AM) (lg : Nat → Int32) (sta : Nat → Int32) (sm : Nat → Int32) (par : Nat → Int32) (mv : Nat → Int32) (dep : Nat → Int32) (nwa : Nat → Int32) (th : Nat → Int32) (bf : Nat → Int32) (row : Nat → Int32) (wid : Nat → Int32) (siz : Nat → Int32) (cel : Nat → Int64) (mvd : Nat → Int64) (ned : Nat → Int32) (r : (Nat → Int32) × (Nat → Int32) × Int32) : ng_RR := (some (.int (r.2.2)), hf (r.1) (r.2.1) lg sta sm par mv dep nwa th bf row wid siz cel mvd ned)
def f_X6_leave_99 (kk45 : (Nat → Int32) → (Nat → Int32) → Int32 → Int32 → Int32 → ((Nat → Int32) × (Nat → Int32) × Int32)) (F : Nat → Int32) (rl : Nat → Int32) (v1 : Int32) (v2 : Int32) (v3 : Int32) : (Nat → Int32) × (Nat → Int32) × Int32 := kk45 F rl v1 v2 (v3 + nI 1)
def s_X6_leave_99 (sk45 : (Nat → Int32) → (Nat → Int32) → Int32 → Int32 → Int32 → Prop) (F : Nat → Int32) (rl : Nat → Int32) (v1 : Int32) (v2 : Int32) (v3 : Int32) : Prop := sk45 F rl v1 v2 (v3 + nI 1)
set_option maxRecDepth 100000 in
set_option maxHeartbeats 4000000 in
theorem e_X6_leave_99 {G : ng_GG} {hf : (Nat → Int32) → (Nat → Int32) → (Nat → Int32) → (Nat → Int32) → (Nat → Int32) → (Nat → Int32) → (Nat → Int32) → (Nat → Int32) → (Nat → Int32) → (Nat → Int32) → (Nat → Int32) → (Nat → Int32) → (Nat → Int32) → (Nat → Int32) → (Nat → Int64) → (Nat → Int64) → (Nat → Int32) → ng_AM}  (V : ng_FL hf ) {F : Nat → Int32} {rl : Nat → Int32} {lg : Nat → Int32} {sta : Nat → Int32} {sm : Nat → Int32} {par : Nat → Int32} {mv : Nat → Int32} {dep : Nat → Int32} {nwa : Nat → Int32} {th : Nat → Int32} {bf : Nat → Int32} {row : Nat → Int32} {wid : Nat → Int32} {siz : Nat → Int32} {cel : Nat → Int64} {mvd : Nat → Int64} {ned : Nat → Int32} {kk45 : (Nat → Int32) → (Nat → Int32) → Int32 → Int32 → Int32 → ((Nat → Int32) × (Nat → Int32) × Int32)} {sk45 : (Nat → Int32) → (Nat → Int32) → Int32 → Int32 → Int32 → Prop} (hk45 : ∀ (F : Nat → Int32) (rl : Nat → Int32) (lg : Nat → Int32) (sta : Nat → Int32) (sm : Nat → Int32) (par : Nat → Int32) (mv : Nat → Int32) (dep : Nat → Int32) (nwa : Nat → Int32) (th : Nat → Int32) (bf : Nat → Int32) (row : Nat → Int32) (wid : Nat → Int32) (siz : Nat → Int32) (cel : Nat → Int64) (mvd : Nat → Int64) (ned : Nat → Int32) (v1 : Int32) (v2 : Int32) (v3 : Int32), sk45 F rl v1 v2 v3 → ng_Ev G md_X6_leave 45 [some (.ref 28), some (.int v1), some (.int v2), some (.int v3)] [] (hf F rl lg sta sm par mv dep nwa th bf row wid siz cel mvd ned) (K_X6_leave hf lg sta sm par mv dep nwa th bf row wid siz cel mvd ned (kk45 F rl v1 v2 v3))) {v1 : Int32} {v2 : Int32} {v3 : Int32} (h : s_X6_leave_99 sk45 F rl v1 v2 v3)  : ng_Ev G md_X6_leave 99 [some (.ref 28), some (.int v1), some (.int v2), some (.int v3)] [] (hf F rl lg sta sm par mv dep nwa th bf row wid siz cel mvd ned) (K_X6_leave hf lg sta sm par mv dep nwa th bf row wid siz cel mvd ned (f_X6_leave_99 kk45 F rl v1 v2 v3)) := by
  unfold s_X6_leave_99 at h
  unfold f_X6_leave_99
  refine ev_iinc (v := v3 + nI 1) (L' := [some (.ref 28), some (.int v1), some (.int v2), some (.int (v3 + nI 1))]) dX6_leave_99 rfl (by rfl) rfl ?_
  refine ev_goto (tgt := 45) dX6_leave_102 (by decide) ?_
  exact ev_sub (hk45 F rl lg sta sm par mv dep nwa th bf row wid siz cel mvd ned v1 v2 (v3 + nI 1) h) (sub_s (sub_s (sub_s (sub_s sub_e))))
def f_X6_leave_96 (kk45 : (Nat → Int32) → (Nat → Int32) → Int32 → Int32 → Int32 → ((Nat → Int32) × (Nat → Int32) × Int32)) (F : Nat → Int32) (rl : Nat → Int32) (v1 : Int32) (v2 : Int32) (v3 : Int32) : (Nat → Int32) × (Nat → Int32) × Int32 := f_X6_leave_99 kk45 F rl v1 (v2 + nI 1) v3
def s_X6_leave_96 (sk45 : (Nat → Int32) → (Nat → Int32) → Int32 → Int32 → Int32 → Prop) (F : Nat → Int32) (rl : Nat → Int32) (v1 : Int32) (v2 : Int32) (v3 : Int32) : Prop := s_X6_leave_99 sk45 F rl v1 (v2 + nI 1) v3
set_option maxRecDepth 100000 in
set_option maxHeartbeats 4000000 in
theorem e_X6_leave_96 {G : ng_GG} {hf : (Nat → Int32) → (Nat → Int32) → (Nat → Int32) → (Nat → Int32) → (Nat → Int32) → (Nat → Int32) → (Nat → Int32) → (Nat → Int32) → (Nat → Int32) → (Nat → Int32) → (Nat → Int32) → (Nat → Int32) → (Nat → Int32) → (Nat → Int32) → (Nat → Int64) → (Nat → Int64) → (Nat → Int32) → ng_AM}  (V : ng_FL hf ) {F : Nat → Int32} {rl : Nat → Int32} {lg : Nat → Int32} {sta : Nat → Int32} {sm : Nat → Int32} {par : Nat → Int32} {mv : Nat → Int32} {dep : Nat → Int32} {nwa : Nat → Int32} {th : Nat → Int32} {bf : Nat → Int32} {row : Nat → Int32} {wid : Nat → Int32} {siz : Nat → Int32} {cel : Nat → Int64} {mvd : Nat → Int64} {ned : Nat → Int32} {kk45 : (Nat → Int32) → (Nat → Int32) → Int32 → Int32 → Int32 → ((Nat → Int32) × (Nat → Int32) × Int32)} {sk45 : (Nat → Int32) → (Nat → Int32) → Int32 → Int32 → Int32 → Prop} (hk45 : ∀ (F : Nat → Int32) (rl : Nat → Int32) (lg : Nat → Int32) (sta : Nat → Int32) (sm : Nat → Int32) (par : Nat → Int32) (mv : Nat → Int32) (dep : Nat → Int32) (nwa : Nat → Int32) (th : Nat → Int32) (bf : Nat → Int32) (row : Nat → Int32) (wid : Nat → Int32) (siz : Nat → Int32) (cel : Nat → Int64) (mvd : Nat → Int64) (ned : Nat → Int32) (v1 : Int32) (v2 : Int32) (v3 : Int32), sk45 F rl v1 v2 v3 → ng_Ev G md_X6_leave 45 [some (.ref 28), some (.int v1), some (.int v2), some (.int v3)] [] (hf F rl lg sta sm par mv dep nwa th bf row wid siz cel mvd ned) (K_X6_leave hf lg sta sm par mv dep nwa th bf row wid siz cel mvd ned (kk45 F rl v1 v2 v3))) {v1 : Int32} {v2 : Int32} {v3 : Int32} (h : s_X6_leave_96 sk45 F rl v1 v2 v3)  : ng_Ev G md_X6_leave 96 [some (.ref 28), some (.int v1), some (.int v2), some (.int v3)] [] (hf F rl lg sta sm par mv dep nwa th bf row wid siz cel mvd ned) (K_X6_leave hf lg sta sm par mv dep nwa th bf row wid siz cel mvd ned (f_X6_leave_96 kk45 F rl v1 v2 v3)) := by
  unfold s_X6_leave_96 at h
  unfold f_X6_leave_96
  refine ev_iinc (v := v2 + nI 1) (L' := [some (.ref 28), some (.int v1), some (.int (v2 + nI 1)), some (.int v3)]) dX6_leave_96 rfl (by rfl) rfl ?_
  exact ev_sub (e_X6_leave_99 V hk45 h) (sub_s (sub_s (sub_s (sub_s sub_e))))
def f_X6_leave_45  : Nat → (Nat → Int32) → (Nat → Int32) → Int32 → Int32 → Int32 → ((Nat → Int32) × (Nat → Int32) × Int32)
  | 0, F, rl, _, _, _ => (F, rl, 0)
  | n + 1, F, rl, v1, v2, v3 => (if (rl (nI 13).toNatClampNeg) ≤ v3 then (F, rl, v2) else (if (rl (f_X6_family v3).toNatClampNeg) = v1 then (if (rl ((f_X6_family v3) + (nI 1)).toNatClampNeg) = (-1) then f_X6_leave_96 (f_X6_leave_45 n) ((f_X6_ends rl F v3).2) ((f_X6_ends rl F v3).1) v1 v2 v3 else f_X6_leave_99 (f_X6_leave_45 n) F rl v1 v2 v3) else f_X6_leave_99 (f_X6_leave_45 n) F rl v1 v2 v3))
def s_X6_leave_45  : Nat → (Nat → Int32) → (Nat → Int32) → Int32 → Int32 → Int32 → Prop
  | 0, _, _, _, _, _ => False
  | n + 1, F, rl, v1, v2, v3 => (¬ (rl (nI 13).toNatClampNeg) ≤ v3 → (vp_in (f_X6_family v3) 527 ∧ (((rl (f_X6_family v3).toNatClampNeg) = v1 → (vp_in ((f_X6_family v3) + (nI 1)) 527 ∧ (((rl ((f_X6_family v3) + (nI 1)).toNatClampNeg) = (-1) → (s_X6_ends rl F v3 ∧ s_X6_leave_96 (s_X6_leave_45 n) ((f_X6_ends rl F v3).2) ((f_X6_ends rl F v3).1) v1 v2 v3)) ∧ (¬ (rl ((f_X6_family v3) + (nI 1)).toNatClampNeg) = (-1) → s_X6_leave_99 (s_X6_leave_45 n) F rl v1 v2 v3)))) ∧ (¬ (rl (f_X6_family v3).toNatClampNeg) = v1 → s_X6_leave_99 (s_X6_leave_45 n) F rl v1 v2 v3))))
set_option maxRecDepth 100000 in
set_option maxHeartbeats 4000000 in
theorem e_X6_leave_45 {G : ng_GG} {hf : (Nat → Int32) → (Nat → Int32) → (Nat → Int32) → (Nat → Int32) → (Nat → Int32) → (Nat → Int32) → (Nat → Int32) → (Nat → Int32) → (Nat → Int32) → (Nat → Int32) → (Nat → Int32) → (Nat → Int32) → (Nat → Int32) → (Nat → Int32) → (Nat → Int64) → (Nat → Int64) → (Nat → Int32) → ng_AM}  (V : ng_FL hf )  : ∀ (n : Nat) (F : Nat → Int32) (rl : Nat → Int32) (lg : Nat → Int32) (sta : Nat → Int32) (sm : Nat → Int32) (par : Nat → Int32) (mv : Nat → Int32) (dep : Nat → Int32) (nwa : Nat → Int32) (th : Nat → Int32) (bf : Nat → Int32) (row : Nat → Int32) (wid : Nat → Int32) (siz : Nat → Int32) (cel : Nat → Int64) (mvd : Nat → Int64) (ned : Nat → Int32) (v1 : Int32) (v2 : Int32) (v3 : Int32), s_X6_leave_45  n F rl v1 v2 v3 → ng_Ev G md_X6_leave 45 [some (.ref 28), some (.int v1), some (.int v2), some (.int v3)] [] (hf F rl lg sta sm par mv dep nwa th bf row wid siz cel mvd ned) (K_X6_leave hf lg sta sm par mv dep nwa th bf row wid siz cel mvd ned (f_X6_leave_45  n F rl v1 v2 v3)) := by
  intro n
  induction n with
  | zero => intro F rl lg sta sm par mv dep nwa th bf row wid siz cel mvd ned v1 v2 v3 h; exact False.elim h
  | succ n ih =>
    intro F rl lg sta sm par mv dep nwa th bf row wid siz cel mvd ned v1 v2 v3 h 
    rw [s_X6_leave_45] at h
    rw [f_X6_leave_45]
    refine ev_iload_n dX6_leave_45 rfl rfl ?_
    refine ev_aload_n dX6_leave_46 rfl rfl rfl ?_
    refine ev_get 6 1 fl_RX6_9 (FL_g28 V) rfl dX6_leave_47 ?_
    refine ev_bipush (v := nI 13) dX6_leave_50 (by decide) ?_
    refine ev_iald (FL_g29 V) (vp_in_nI (by decide) (by decide)) dX6_leave_52 ?_
    refine bk_icmp_ge (tgt := 105) dX6_leave_53 (by decide) (fun c53 => ?_) (fun c53 => ?_)
    · refine ev_iload_n dX6_leave_105 rfl rfl ?_
      exact ev_iret rfl rfl dX6_leave_106
    · replace h := h c53
      refine ev_aload_n dX6_leave_56 rfl rfl rfl ?_
      refine ev_get 6 1 fl_RX6_9 (FL_g28 V) rfl dX6_leave_57 ?_
      refine ev_iload_n dX6_leave_60 rfl rfl ?_
      refine bk_callS (As := [.int v3]) (st := [.ref 29]) (st2 := [.int (f_X6_family v3), .ref 29]) (M2 := hf F rl lg sta sm par mv dep nwa th bf row wid siz cel mvd ned) ok_X6_family lk_RX6_85 (ng_rok.of rfl rfl) rfl rfl rfl rfl dX6_leave_61 (m_X6_family trivial) rfl rfl ?_
      have hi64 := h.1
      replace h := h.2
      refine ev_iald (FL_g29 V) hi64 dX6_leave_64 ?_
      refine ev_iload_n dX6_leave_65 rfl rfl ?_
      refine bk_icmp_ne (tgt := 99) dX6_leave_66 (by decide) (fun c66 => ?_) (fun c66 => ?_)
      · replace h := h.2 c66
        exact ev_sub (e_X6_leave_99 V ih h) (sub_s (sub_s (sub_s (sub_s sub_e))))
      · replace h := h.1 c66
        refine ev_aload_n dX6_leave_69 rfl rfl rfl ?_
        refine ev_get 6 1 fl_RX6_9 (FL_g28 V) rfl dX6_leave_70 ?_
        refine ev_iload_n dX6_leave_73 rfl rfl ?_
        refine bk_callS (As := [.int v3]) (st := [.ref 29]) (st2 := [.int (f_X6_family v3), .ref 29]) (M2 := hf F rl lg sta sm par mv dep nwa th bf row wid siz cel mvd ned) ok_X6_family lk_RX6_85 (ng_rok.of rfl rfl) rfl rfl rfl rfl dX6_leave_74 (m_X6_family trivial) rfl rfl ?_
        refine ev_iconst (v := nI 1) dX6_leave_77 (by decide) ?_
        refine ev_iadd dX6_leave_78 ?_
        have hi79 := h.1
        replace h := h.2
        refine ev_iald (FL_g29 V) hi79 dX6_leave_79 ?_
        refine ev_iconst (v := (-1)) dX6_leave_80 (by decide) ?_
        refine bk_icmp_eq (tgt := 87) dX6_leave_81 (by decide) (fun c81 => ?_) (fun c81 => ?_)
        · replace h := h.1 c81
          refine ev_aload_n dX6_leave_87 rfl rfl rfl ?_
          refine ev_aload_n dX6_leave_88 rfl rfl rfl ?_
          refine ev_get 6 1 fl_RX6_9 (FL_g28 V) rfl dX6_leave_89 ?_
          refine ev_iload_n dX6_leave_92 rfl rfl ?_
          have hs93 := h.1
          replace h := h.2
          refine bk_callV (As := [.ref 29, .int v3]) (st := []) (st2 := []) (M2 := hf ((f_X6_ends rl F v3).2) ((f_X6_ends rl F v3).1) lg sta sm par mv dep nwa th bf row wid siz cel mvd ned) ok_X6_ends lk_RX6_88 (ng_rok.of rfl rfl) (FL_g28 V) rfl rfl rfl rfl rfl rfl dX6_leave_93 (m_X6_ends (FL_rl V sta sm par mv dep nwa th bf row wid siz cel mvd ned) hs93) rfl rfl ?_
          exact ev_sub (e_X6_leave_96 V ih h) (sub_s (sub_s (sub_s (sub_s sub_e))))
        · replace h := h.2 c81
          refine ev_goto (tgt := 99) dX6_leave_84 (by decide) ?_
          exact ev_sub (e_X6_leave_99 V ih h) (sub_s (sub_s (sub_s (sub_s sub_e))))
def f_X6_leave  (F : Nat → Int32) (rl : Nat → Int32) (v1 : Int32) : (Nat → Int32) × (Nat → Int32) × Int32 := (if (f_X6_in v1 (nI 0) (nI 4)) = 0 then ((upd F 0 (nI 0)), rl, (-2)) else (if (rl (nI 1).toNatClampNeg) = 0 then ((upd F 0 (nI 0)), rl, (-3)) else f_X6_leave_45 ng_F (upd F 0 (nI 0)) (upd rl ((f_X6_browser v1) + (nI 0)).toNatClampNeg (-1)) v1 (nI 0) (nI 0)))
def s_X6_leave  (F : Nat → Int32) (rl : Nat → Int32) (v1 : Int32) : Prop := (¬ (f_X6_in v1 (nI 0) (nI 4)) = 0 → (¬ (rl (nI 1).toNatClampNeg) = 0 → (vp_in ((f_X6_browser v1) + (nI 0)) 527 ∧ s_X6_leave_45 ng_F (upd F 0 (nI 0)) (upd rl ((f_X6_browser v1) + (nI 0)).toNatClampNeg (-1)) v1 (nI 0) (nI 0))))
set_option maxRecDepth 100000 in
set_option maxHeartbeats 4000000 in
theorem e_X6_leave {G : ng_GG} {hf : (Nat → Int32) → (Nat → Int32) → (Nat → Int32) → (Nat → Int32) → (Nat → Int32) → (Nat → Int32) → (Nat → Int32) → (Nat → Int32) → (Nat → Int32) → (Nat → Int32) → (Nat → Int32) → (Nat → Int32) → (Nat → Int32) → (Nat → Int32) → (Nat → Int64) → (Nat → Int64) → (Nat → Int32) → ng_AM}  (V : ng_FL hf ) {F : Nat → Int32} {rl : Nat → Int32} {lg : Nat → Int32} {sta : Nat → Int32} {sm : Nat → Int32} {par : Nat → Int32} {mv : Nat → Int32} {dep : Nat → Int32} {nwa : Nat → Int32} {th : Nat → Int32} {bf : Nat → Int32} {row : Nat → Int32} {wid : Nat → Int32} {siz : Nat → Int32} {cel : Nat → Int64} {mvd : Nat → Int64} {ned : Nat → Int32}  {v1 : Int32} (h : s_X6_leave  F rl v1)  : ng_Ev G md_X6_leave 0 [some (.ref 28), some (.int v1), none, none] [] (hf F rl lg sta sm par mv dep nwa th bf row wid siz cel mvd ned) (K_X6_leave hf lg sta sm par mv dep nwa th bf row wid siz cel mvd ned (f_X6_leave  F rl v1)) := by
  unfold s_X6_leave at h
  unfold f_X6_leave
  refine ev_aload_n dX6_leave_0 rfl rfl rfl ?_
  refine ev_iconst (v := nI 0) dX6_leave_1 (by decide) ?_
  refine ev_put 6 0 fs_RX6_64 (FL_g28 V) (ng_lt rfl) rfl (FL_s28 V (F' := (upd F 0 (nI 0)))) (ng_fit_i _) dX6_leave_2 ?_
  refine ev_iload_n dX6_leave_5 rfl rfl ?_
  refine ev_iconst (v := nI 0) dX6_leave_6 (by decide) ?_
  refine ev_iconst (v := nI 4) dX6_leave_7 (by decide) ?_
  refine bk_callS (As := [.int v1, .int (nI 0), .int (nI 4)]) (st := []) (st2 := [.int (f_X6_in v1 (nI 0) (nI 4))]) (M2 := hf (upd F 0 (nI 0)) rl lg sta sm par mv dep nwa th bf row wid siz cel mvd ned) ok_X6_in lk_RX6_67 (ng_rok.of rfl rfl) rfl rfl rfl rfl dX6_leave_8 (m_X6_in trivial) rfl rfl ?_
  refine bk_if_ne (tgt := 17) dX6_leave_11 (by decide) (fun c11 => ?_) (fun c11 => ?_)
  · replace h := h c11
    refine ev_aload_n dX6_leave_17 rfl rfl rfl ?_
    refine ev_get 6 1 fl_RX6_9 (FL_g28 V) rfl dX6_leave_18 ?_
    refine ev_iconst (v := nI 1) dX6_leave_21 (by decide) ?_
    refine ev_iald (FL_g29 V) (vp_in_nI (by decide) (by decide)) dX6_leave_22 ?_
    refine bk_if_ne (tgt := 29) dX6_leave_23 (by decide) (fun c23 => ?_) (fun c23 => ?_)
    · replace h := h c23
      refine ev_aload_n dX6_leave_29 rfl rfl rfl ?_
      refine ev_get 6 1 fl_RX6_9 (FL_g28 V) rfl dX6_leave_30 ?_
      refine ev_iload_n dX6_leave_33 rfl rfl ?_
      refine bk_callS (As := [.int v1]) (st := [.ref 29]) (st2 := [.int (f_X6_browser v1), .ref 29]) (M2 := hf (upd F 0 (nI 0)) rl lg sta sm par mv dep nwa th bf row wid siz cel mvd ned) ok_X6_browser lk_RX6_82 (ng_rok.of rfl rfl) rfl rfl rfl rfl dX6_leave_34 (m_X6_browser trivial) rfl rfl ?_
      refine ev_iconst (v := nI 0) dX6_leave_37 (by decide) ?_
      refine ev_iadd dX6_leave_38 ?_
      refine ev_iconst (v := (-1)) dX6_leave_39 (by decide) ?_
      have hi40 := h.1
      replace h := h.2
      refine ev_iast (FL_g29 V) hi40 (FL_s29 V) dX6_leave_40 ?_
      refine ev_iconst (v := nI 0) dX6_leave_41 (by decide) ?_
      refine ev_istore_n (L' := [some (.ref 28), some (.int v1), some (.int (nI 0)), none]) dX6_leave_42 rfl (ng_lt rfl) rfl ?_
      refine ev_iconst (v := nI 0) dX6_leave_43 (by decide) ?_
      refine ev_istore_n (L' := [some (.ref 28), some (.int v1), some (.int (nI 0)), some (.int (nI 0))]) dX6_leave_44 rfl (ng_lt rfl) rfl ?_
      exact ev_sub (e_X6_leave_45 V ng_F (upd F 0 (nI 0)) (upd rl ((f_X6_browser v1) + (nI 0)).toNatClampNeg (-1)) lg sta sm par mv dep nwa th bf row wid siz cel mvd ned v1 (nI 0) (nI 0) h) (sub_s (sub_s (sub_s (sub_s sub_e))))
    · refine ev_bipush (v := (-3)) dX6_leave_26 (by decide) ?_
      exact ev_iret rfl rfl dX6_leave_28
  · refine ev_bipush (v := (-2)) dX6_leave_14 (by decide) ?_
    exact ev_iret rfl rfl dX6_leave_16
theorem m_X6_leave {G : ng_GG} {hf : (Nat → Int32) → (Nat → Int32) → (Nat → Int32) → (Nat → Int32) → (Nat → Int32) → (Nat → Int32) → (Nat → Int32) → (Nat → Int32) → (Nat → Int32) → (Nat → Int32) → (Nat → Int32) → (Nat → Int32) → (Nat → Int32) → (Nat → Int32) → (Nat → Int64) → (Nat → Int64) → (Nat → Int32) → ng_AM}  (V : ng_FL hf ) {F : Nat → Int32} {rl : Nat → Int32} {lg : Nat → Int32} {sta : Nat → Int32} {sm : Nat → Int32} {par : Nat → Int32} {mv : Nat → Int32} {dep : Nat → Int32} {nwa : Nat → Int32} {th : Nat → Int32} {bf : Nat → Int32} {row : Nat → Int32} {wid : Nat → Int32} {siz : Nat → Int32} {cel : Nat → Int64} {mvd : Nat → Int64} {ned : Nat → Int32} {v1 : Int32} (h : s_X6_leave F rl v1)  : ng_Ev G md_X6_leave 0 (ng_en 4 [.ref 28, .int v1]) [] (hf F rl lg sta sm par mv dep nwa th bf row wid siz cel mvd ned) (K_X6_leave hf lg sta sm par mv dep nwa th bf row wid siz cel mvd ned (f_X6_leave F rl v1)) := e_X6_leave V h 
def K_X6_end (hf : (Nat → Int32) → (Nat → Int32) → (Nat → Int32) → (Nat → Int32) → (Nat → Int32) → (Nat → Int32) → (Nat → Int32) → (Nat → Int32) → (Nat → Int32) → (Nat → Int32) → (Nat → Int32) → (Nat → Int32) → (Nat → Int32) → (Nat → Int32) → (Nat → Int64) → (Nat → Int64) → (Nat → Int32) → ng_AM) (lg : Nat → Int32) (sta : Nat → Int32) (sm : Nat → Int32) (par : Nat → Int32) (mv : Nat → Int32) (dep : Nat → Int32) (nwa : Nat → Int32) (th : Nat → Int32) (bf : Nat → Int32) (row : Nat → Int32) (wid : Nat → Int32) (siz : Nat → Int32) (cel : Nat → Int64) (mvd : Nat → Int64) (ned : Nat → Int32) (r : (Nat → Int32) × (Nat → Int32) × Int32) : ng_RR := (some (.int (r.2.2)), hf (r.1) (r.2.1) lg sta sm par mv dep nwa th bf row wid siz cel mvd ned)
def f_X6_end  (F : Nat → Int32) (rl : Nat → Int32) (v1 : Int32) : (Nat → Int32) × (Nat → Int32) × Int32 := (if (f_X6_in v1 (nI 0) ((rl (nI 13).toNatClampNeg) - (nI 1))) = 0 then ((upd F 0 (nI 0)), rl, nI 0) else (if (rl ((f_X6_family v1) + (nI 1)).toNatClampNeg) = (-1) then (if (rl (nI 1).toNatClampNeg) = 0 then ((upd F 0 (nI 0)), rl, nI 0) else ((f_X6_ends rl (upd F 0 (nI 0)) v1).2, (f_X6_ends rl (upd F 0 (nI 0)) v1).1, nI 1)) else ((upd F 0 (nI 0)), rl, nI 0)))
def s_X6_end  (F : Nat → Int32) (rl : Nat → Int32) (v1 : Int32) : Prop := (¬ (f_X6_in v1 (nI 0) ((rl (nI 13).toNatClampNeg) - (nI 1))) = 0 → (vp_in ((f_X6_family v1) + (nI 1)) 527 ∧ ((rl ((f_X6_family v1) + (nI 1)).toNatClampNeg) = (-1) → (¬ (rl (nI 1).toNatClampNeg) = 0 → s_X6_ends rl (upd F 0 (nI 0)) v1))))
set_option maxRecDepth 100000 in
set_option maxHeartbeats 4000000 in
theorem e_X6_end {G : ng_GG} {hf : (Nat → Int32) → (Nat → Int32) → (Nat → Int32) → (Nat → Int32) → (Nat → Int32) → (Nat → Int32) → (Nat → Int32) → (Nat → Int32) → (Nat → Int32) → (Nat → Int32) → (Nat → Int32) → (Nat → Int32) → (Nat → Int32) → (Nat → Int32) → (Nat → Int64) → (Nat → Int64) → (Nat → Int32) → ng_AM}  (V : ng_FL hf ) {F : Nat → Int32} {rl : Nat → Int32} {lg : Nat → Int32} {sta : Nat → Int32} {sm : Nat → Int32} {par : Nat → Int32} {mv : Nat → Int32} {dep : Nat → Int32} {nwa : Nat → Int32} {th : Nat → Int32} {bf : Nat → Int32} {row : Nat → Int32} {wid : Nat → Int32} {siz : Nat → Int32} {cel : Nat → Int64} {mvd : Nat → Int64} {ned : Nat → Int32}  {v1 : Int32} (h : s_X6_end  F rl v1)  : ng_Ev G md_X6_end 0 [some (.ref 28), some (.int v1)] [] (hf F rl lg sta sm par mv dep nwa th bf row wid siz cel mvd ned) (K_X6_end hf lg sta sm par mv dep nwa th bf row wid siz cel mvd ned (f_X6_end  F rl v1)) := by
  unfold s_X6_end at h
  unfold f_X6_end
  refine ev_aload_n dX6_end_0 rfl rfl rfl ?_
  refine ev_iconst (v := nI 0) dX6_end_1 (by decide) ?_
  refine ev_put 6 0 fs_RX6_64 (FL_g28 V) (ng_lt rfl) rfl (FL_s28 V (F' := (upd F 0 (nI 0)))) (ng_fit_i _) dX6_end_2 ?_
  refine ev_iload_n dX6_end_5 rfl rfl ?_
  refine ev_iconst (v := nI 0) dX6_end_6 (by decide) ?_
  refine ev_aload_n dX6_end_7 rfl rfl rfl ?_
  refine ev_get 6 1 fl_RX6_9 (FL_g28 V) rfl dX6_end_8 ?_
  refine ev_bipush (v := nI 13) dX6_end_11 (by decide) ?_
  refine ev_iald (FL_g29 V) (vp_in_nI (by decide) (by decide)) dX6_end_13 ?_
  refine ev_iconst (v := nI 1) dX6_end_14 (by decide) ?_
  refine ev_isub dX6_end_15 ?_
  refine bk_callS (As := [.int v1, .int (nI 0), .int ((rl (nI 13).toNatClampNeg) - (nI 1))]) (st := []) (st2 := [.int (f_X6_in v1 (nI 0) ((rl (nI 13).toNatClampNeg) - (nI 1)))]) (M2 := hf (upd F 0 (nI 0)) rl lg sta sm par mv dep nwa th bf row wid siz cel mvd ned) ok_X6_in lk_RX6_67 (ng_rok.of rfl rfl) rfl rfl rfl rfl dX6_end_16 (m_X6_in trivial) rfl rfl ?_
  refine bk_if_eq (tgt := 46) dX6_end_19 (by decide) (fun c19 => ?_) (fun c19 => ?_)
  · refine ev_iconst (v := nI 0) dX6_end_46 (by decide) ?_
    exact ev_iret rfl (by decide) dX6_end_47
  · replace h := h c19
    refine ev_aload_n dX6_end_22 rfl rfl rfl ?_
    refine ev_get 6 1 fl_RX6_9 (FL_g28 V) rfl dX6_end_23 ?_
    refine ev_iload_n dX6_end_26 rfl rfl ?_
    refine bk_callS (As := [.int v1]) (st := [.ref 29]) (st2 := [.int (f_X6_family v1), .ref 29]) (M2 := hf (upd F 0 (nI 0)) rl lg sta sm par mv dep nwa th bf row wid siz cel mvd ned) ok_X6_family lk_RX6_85 (ng_rok.of rfl rfl) rfl rfl rfl rfl dX6_end_27 (m_X6_family trivial) rfl rfl ?_
    refine ev_iconst (v := nI 1) dX6_end_30 (by decide) ?_
    refine ev_iadd dX6_end_31 ?_
    have hi32 := h.1
    replace h := h.2
    refine ev_iald (FL_g29 V) hi32 dX6_end_32 ?_
    refine ev_iconst (v := (-1)) dX6_end_33 (by decide) ?_
    refine bk_icmp_ne (tgt := 46) dX6_end_34 (by decide) (fun c34 => ?_) (fun c34 => ?_)
    · refine ev_iconst (v := nI 0) dX6_end_46 (by decide) ?_
      exact ev_iret rfl (by decide) dX6_end_47
    · replace h := h c34
      refine ev_aload_n dX6_end_37 rfl rfl rfl ?_
      refine ev_get 6 1 fl_RX6_9 (FL_g28 V) rfl dX6_end_38 ?_
      refine ev_iconst (v := nI 1) dX6_end_41 (by decide) ?_
      refine ev_iald (FL_g29 V) (vp_in_nI (by decide) (by decide)) dX6_end_42 ?_
      refine bk_if_ne (tgt := 48) dX6_end_43 (by decide) (fun c43 => ?_) (fun c43 => ?_)
      · replace h := h c43
        refine ev_aload_n dX6_end_48 rfl rfl rfl ?_
        refine ev_aload_n dX6_end_49 rfl rfl rfl ?_
        refine ev_get 6 1 fl_RX6_9 (FL_g28 V) rfl dX6_end_50 ?_
        refine ev_iload_n dX6_end_53 rfl rfl ?_
        have hs54 := h
        refine bk_callV (As := [.ref 29, .int v1]) (st := []) (st2 := []) (M2 := hf ((f_X6_ends rl (upd F 0 (nI 0)) v1).2) ((f_X6_ends rl (upd F 0 (nI 0)) v1).1) lg sta sm par mv dep nwa th bf row wid siz cel mvd ned) ok_X6_ends lk_RX6_88 (ng_rok.of rfl rfl) (FL_g28 V) rfl rfl rfl rfl rfl rfl dX6_end_54 (m_X6_ends (FL_rl V sta sm par mv dep nwa th bf row wid siz cel mvd ned) hs54) rfl rfl ?_
        refine ev_iconst (v := nI 1) dX6_end_57 (by decide) ?_
        exact ev_iret rfl (by decide) dX6_end_58
      · refine ev_iconst (v := nI 0) dX6_end_46 (by decide) ?_
        exact ev_iret rfl (by decide) dX6_end_47
theorem m_X6_end {G : ng_GG} {hf : (Nat → Int32) → (Nat → Int32) → (Nat → Int32) → (Nat → Int32) → (Nat → Int32) → (Nat → Int32) → (Nat → Int32) → (Nat → Int32) → (Nat → Int32) → (Nat → Int32) → (Nat → Int32) → (Nat → Int32) → (Nat → Int32) → (Nat → Int32) → (Nat → Int64) → (Nat → Int64) → (Nat → Int32) → ng_AM}  (V : ng_FL hf ) {F : Nat → Int32} {rl : Nat → Int32} {lg : Nat → Int32} {sta : Nat → Int32} {sm : Nat → Int32} {par : Nat → Int32} {mv : Nat → Int32} {dep : Nat → Int32} {nwa : Nat → Int32} {th : Nat → Int32} {bf : Nat → Int32} {row : Nat → Int32} {wid : Nat → Int32} {siz : Nat → Int32} {cel : Nat → Int64} {mvd : Nat → Int64} {ned : Nat → Int32} {v1 : Int32} (h : s_X6_end F rl v1)  : ng_Ev G md_X6_end 0 (ng_en 2 [.ref 28, .int v1]) [] (hf F rl lg sta sm par mv dep nwa th bf row wid siz cel mvd ned) (K_X6_end hf lg sta sm par mv dep nwa th bf row wid siz cel mvd ned (f_X6_end F rl v1)) := e_X6_end V h 
def K_X6_paired (hf : (Nat → Int32) → (Nat → Int32) → (Nat → Int32) → (Nat → Int32) → (Nat → Int32) → (Nat → Int32) → (Nat → Int32) → (Nat → Int32) → (Nat → Int32) → (Nat → Int32) → (Nat → Int32) → (Nat → Int32) → (Nat → Int32) → (Nat → Int32) → (Nat → Int64) → (Nat → Int64) → (Nat → Int32) → ng_AM) (F : Nat → Int32) (lg : Nat → Int32) (sta : Nat → Int32) (sm : Nat → Int32) (par : Nat → Int32) (mv : Nat → Int32) (dep : Nat → Int32) (nwa : Nat → Int32) (th : Nat → Int32) (bf : Nat → Int32) (row : Nat → Int32) (wid : Nat → Int32) (siz : Nat → Int32) (cel : Nat → Int64) (mvd : Nat → Int64) (ned : Nat → Int32) (r : (Nat → Int32) × Int32) : ng_RR := (some (.int (r.2)), hf F (r.1) lg sta sm par mv dep nwa th bf row wid siz cel mvd ned)
def f_X6_paired  (rl : Nat → Int32) (v1 : Int32) : (Nat → Int32) × Int32 := ((upd (upd rl (nI 15).toNatClampNeg ((rl (nI 15).toNatClampNeg) + (nI 1))) ((f_X6_browser v1) + (nI 1)).toNatClampNeg ((upd rl (nI 15).toNatClampNeg ((rl (nI 15).toNatClampNeg) + (nI 1))) (nI 15).toNatClampNeg)), ((upd (upd rl (nI 15).toNatClampNeg ((rl (nI 15).toNatClampNeg) + (nI 1))) ((f_X6_browser v1) + (nI 1)).toNatClampNeg ((upd rl (nI 15).toNatClampNeg ((rl (nI 15).toNatClampNeg) + (nI 1))) (nI 15).toNatClampNeg)) (nI 15).toNatClampNeg))
def s_X6_paired  (rl : Nat → Int32) (v1 : Int32) : Prop := vp_in ((f_X6_browser v1) + (nI 1)) 527
set_option maxRecDepth 100000 in
set_option maxHeartbeats 4000000 in
theorem e_X6_paired {G : ng_GG} {hf : (Nat → Int32) → (Nat → Int32) → (Nat → Int32) → (Nat → Int32) → (Nat → Int32) → (Nat → Int32) → (Nat → Int32) → (Nat → Int32) → (Nat → Int32) → (Nat → Int32) → (Nat → Int32) → (Nat → Int32) → (Nat → Int32) → (Nat → Int32) → (Nat → Int64) → (Nat → Int64) → (Nat → Int32) → ng_AM}  (V : ng_FL hf ) {F : Nat → Int32} {rl : Nat → Int32} {lg : Nat → Int32} {sta : Nat → Int32} {sm : Nat → Int32} {par : Nat → Int32} {mv : Nat → Int32} {dep : Nat → Int32} {nwa : Nat → Int32} {th : Nat → Int32} {bf : Nat → Int32} {row : Nat → Int32} {wid : Nat → Int32} {siz : Nat → Int32} {cel : Nat → Int64} {mvd : Nat → Int64} {ned : Nat → Int32}  {v1 : Int32} (h : s_X6_paired  rl v1)  : ng_Ev G md_X6_paired 0 [some (.ref 28), some (.int v1)] [] (hf F rl lg sta sm par mv dep nwa th bf row wid siz cel mvd ned) (K_X6_paired hf F lg sta sm par mv dep nwa th bf row wid siz cel mvd ned (f_X6_paired  rl v1)) := by
  unfold s_X6_paired at h
  unfold f_X6_paired
  refine ev_aload_n dX6_paired_0 rfl rfl rfl ?_
  refine ev_get 6 1 fl_RX6_9 (FL_g28 V) rfl dX6_paired_1 ?_
  refine ev_bipush (v := nI 15) dX6_paired_4 (by decide) ?_
  refine ev_dup2 dX6_paired_6 rfl rfl ?_
  refine ev_iald (FL_g29 V) (vp_in_nI (by decide) (by decide)) dX6_paired_7 ?_
  refine ev_iconst (v := nI 1) dX6_paired_8 (by decide) ?_
  refine ev_iadd dX6_paired_9 ?_
  refine ev_iast (FL_g29 V) (vp_in_nI (by decide) (by decide)) (FL_s29 V) dX6_paired_10 ?_
  refine ev_aload_n dX6_paired_11 rfl rfl rfl ?_
  refine ev_get 6 1 fl_RX6_9 (FL_g28 V) rfl dX6_paired_12 ?_
  refine ev_iload_n dX6_paired_15 rfl rfl ?_
  refine bk_callS (As := [.int v1]) (st := [.ref 29]) (st2 := [.int (f_X6_browser v1), .ref 29]) (M2 := hf F (upd rl (nI 15).toNatClampNeg ((rl (nI 15).toNatClampNeg) + (nI 1))) lg sta sm par mv dep nwa th bf row wid siz cel mvd ned) ok_X6_browser lk_RX6_82 (ng_rok.of rfl rfl) rfl rfl rfl rfl dX6_paired_16 (m_X6_browser trivial) rfl rfl ?_
  refine ev_iconst (v := nI 1) dX6_paired_19 (by decide) ?_
  refine ev_iadd dX6_paired_20 ?_
  refine ev_aload_n dX6_paired_21 rfl rfl rfl ?_
  refine ev_get 6 1 fl_RX6_9 (FL_g28 V) rfl dX6_paired_22 ?_
  refine ev_bipush (v := nI 15) dX6_paired_25 (by decide) ?_
  refine ev_iald (FL_g29 V) (vp_in_nI (by decide) (by decide)) dX6_paired_27 ?_
  have hi28 := h
  refine ev_iast (FL_g29 V) hi28 (FL_s29 V) dX6_paired_28 ?_
  refine ev_aload_n dX6_paired_29 rfl rfl rfl ?_
  refine ev_get 6 1 fl_RX6_9 (FL_g28 V) rfl dX6_paired_30 ?_
  refine ev_bipush (v := nI 15) dX6_paired_33 (by decide) ?_
  refine ev_iald (FL_g29 V) (vp_in_nI (by decide) (by decide)) dX6_paired_35 ?_
  exact ev_iret rfl rfl dX6_paired_36
theorem m_X6_paired {G : ng_GG} {hf : (Nat → Int32) → (Nat → Int32) → (Nat → Int32) → (Nat → Int32) → (Nat → Int32) → (Nat → Int32) → (Nat → Int32) → (Nat → Int32) → (Nat → Int32) → (Nat → Int32) → (Nat → Int32) → (Nat → Int32) → (Nat → Int32) → (Nat → Int32) → (Nat → Int64) → (Nat → Int64) → (Nat → Int32) → ng_AM}  (V : ng_FL hf ) {F : Nat → Int32} {rl : Nat → Int32} {lg : Nat → Int32} {sta : Nat → Int32} {sm : Nat → Int32} {par : Nat → Int32} {mv : Nat → Int32} {dep : Nat → Int32} {nwa : Nat → Int32} {th : Nat → Int32} {bf : Nat → Int32} {row : Nat → Int32} {wid : Nat → Int32} {siz : Nat → Int32} {cel : Nat → Int64} {mvd : Nat → Int64} {ned : Nat → Int32} {v1 : Int32} (h : s_X6_paired rl v1)  : ng_Ev G md_X6_paired 0 (ng_en 2 [.ref 28, .int v1]) [] (hf F rl lg sta sm par mv dep nwa th bf row wid siz cel mvd ned) (K_X6_paired hf F lg sta sm par mv dep nwa th bf row wid siz cel mvd ned (f_X6_paired rl v1)) := e_X6_paired V h 
def K_X6_ask (hf : (Nat → Int32) → (Nat → Int32) → (Nat → Int32) → (Nat → Int32) → (Nat → Int32) → (Nat → Int32) → (Nat → Int32) → (Nat → Int32) → (Nat → Int32) → (Nat → Int32) → (Nat → Int32) → (Nat → Int32) → (Nat → Int32) → (Nat → Int32) → (Nat → Int64) → (Nat → Int64) → (Nat → Int32) → ng_AM) (lg : Nat → Int32) (sta : Nat → Int32) (sm : Nat → Int32) (par : Nat → Int32) (mv : Nat → Int32) (dep : Nat → Int32) (nwa : Nat → Int32) (th : Nat → Int32) (bf : Nat → Int32) (row : Nat → Int32) (wid : Nat → Int32) (siz : Nat → Int32) (cel : Nat → Int64) (mvd : Nat → Int64) (ned : Nat → Int32) (r : (Nat → Int32) × (Nat → Int32) × Int32) : ng_RR := (some (.int (r.2.2)), hf (r.1) (r.2.1) lg sta sm par mv dep nwa th bf row wid siz cel mvd ned)
def f_X6_ask_41  (F : Nat → Int32) (rl : Nat → Int32) (v1 : Int32) (v2 : Int32) (v3 : Int32) (t0 : Int32) : (Nat → Int32) × (Nat → Int32) × Int32 := ((f_X6_posts rl F v1 (nI 9) (nI 0) v2 v3 t0).2, (f_X6_posts rl F v1 (nI 9) (nI 0) v2 v3 t0).1, t0)
def s_X6_ask_41  (F : Nat → Int32) (rl : Nat → Int32) (v1 : Int32) (v2 : Int32) (v3 : Int32) (t0 : Int32) : Prop := s_X6_posts rl F v1 (nI 9) (nI 0) v2 v3 t0
set_option maxRecDepth 100000 in
set_option maxHeartbeats 4000000 in
theorem e_X6_ask_41 {G : ng_GG} {hf : (Nat → Int32) → (Nat → Int32) → (Nat → Int32) → (Nat → Int32) → (Nat → Int32) → (Nat → Int32) → (Nat → Int32) → (Nat → Int32) → (Nat → Int32) → (Nat → Int32) → (Nat → Int32) → (Nat → Int32) → (Nat → Int32) → (Nat → Int32) → (Nat → Int64) → (Nat → Int64) → (Nat → Int32) → ng_AM}  (V : ng_FL hf ) {F : Nat → Int32} {rl : Nat → Int32} {lg : Nat → Int32} {sta : Nat → Int32} {sm : Nat → Int32} {par : Nat → Int32} {mv : Nat → Int32} {dep : Nat → Int32} {nwa : Nat → Int32} {th : Nat → Int32} {bf : Nat → Int32} {row : Nat → Int32} {wid : Nat → Int32} {siz : Nat → Int32} {cel : Nat → Int64} {mvd : Nat → Int64} {ned : Nat → Int32}  {v1 : Int32} {v2 : Int32} {v3 : Int32} {t0 : Int32} (h : s_X6_ask_41  F rl v1 v2 v3 t0)  : ng_Ev G md_X6_ask 41 [some (.ref 28), some (.int v1), some (.int v2), some (.int v3), none] [.int t0] (hf F rl lg sta sm par mv dep nwa th bf row wid siz cel mvd ned) (K_X6_ask hf lg sta sm par mv dep nwa th bf row wid siz cel mvd ned (f_X6_ask_41  F rl v1 v2 v3 t0)) := by
  unfold s_X6_ask_41 at h
  unfold f_X6_ask_41
  refine ev_istore (L' := [some (.ref 28), some (.int v1), some (.int v2), some (.int v3), some (.int t0)]) dX6_ask_41 (ng_lt rfl) rfl ?_
  refine ev_aload_n dX6_ask_43 rfl rfl rfl ?_
  refine ev_aload_n dX6_ask_44 rfl rfl rfl ?_
  refine ev_get 6 1 fl_RX6_9 (FL_g28 V) rfl dX6_ask_45 ?_
  refine ev_iload_n dX6_ask_48 rfl rfl ?_
  refine ev_bipush (v := nI 9) dX6_ask_49 (by decide) ?_
  refine ev_iconst (v := nI 0) dX6_ask_51 (by decide) ?_
  refine ev_iload_n dX6_ask_52 rfl rfl ?_
  refine ev_iload_n dX6_ask_53 rfl rfl ?_
  refine ev_iload dX6_ask_54 rfl ?_
  have hs56 := h
  refine bk_callV (As := [.ref 29, .int v1, .int (nI 9), .int (nI 0), .int v2, .int v3, .int t0]) (st := []) (st2 := []) (M2 := hf ((f_X6_posts rl F v1 (nI 9) (nI 0) v2 v3 t0).2) ((f_X6_posts rl F v1 (nI 9) (nI 0) v2 v3 t0).1) lg sta sm par mv dep nwa th bf row wid siz cel mvd ned) ok_X6_posts lk_RX6_106 (ng_rok.of rfl rfl) (FL_g28 V) rfl rfl rfl rfl rfl rfl dX6_ask_56 (m_X6_posts (FL_rl V sta sm par mv dep nwa th bf row wid siz cel mvd ned) hs56) rfl rfl ?_
  refine ev_iload dX6_ask_59 rfl ?_
  exact ev_iret rfl rfl dX6_ask_61
def f_X6_ask  (F : Nat → Int32) (rl : Nat → Int32) (v1 : Int32) (v2 : Int32) (v3 : Int32) : (Nat → Int32) × (Nat → Int32) × Int32 := (if (f_X6_in v1 (nI 0) (nI 4)) = 0 then ((upd F 0 (nI 0)), rl, (-2)) else (if (f_X6_isHouse rl v2) = 0 then ((upd F 0 (nI 0)), rl, (-2)) else (if (f_X6_in v3 (nI 1) (nI 255)) = 0 then ((upd F 0 (nI 0)), rl, (-2)) else f_X6_ask_41 (upd F 0 (nI 0)) ((f_X6_paired rl v1).1) v1 v2 v3 ((f_X6_paired rl v1).2))))
def s_X6_ask  (F : Nat → Int32) (rl : Nat → Int32) (v1 : Int32) (v2 : Int32) (v3 : Int32) : Prop := (¬ (f_X6_in v1 (nI 0) (nI 4)) = 0 → (s_X6_isHouse rl v2 ∧ (¬ (f_X6_isHouse rl v2) = 0 → (¬ (f_X6_in v3 (nI 1) (nI 255)) = 0 → (s_X6_paired rl v1 ∧ s_X6_ask_41 (upd F 0 (nI 0)) ((f_X6_paired rl v1).1) v1 v2 v3 ((f_X6_paired rl v1).2))))))
set_option maxRecDepth 100000 in
set_option maxHeartbeats 4000000 in
theorem e_X6_ask {G : ng_GG} {hf : (Nat → Int32) → (Nat → Int32) → (Nat → Int32) → (Nat → Int32) → (Nat → Int32) → (Nat → Int32) → (Nat → Int32) → (Nat → Int32) → (Nat → Int32) → (Nat → Int32) → (Nat → Int32) → (Nat → Int32) → (Nat → Int32) → (Nat → Int32) → (Nat → Int64) → (Nat → Int64) → (Nat → Int32) → ng_AM}  (V : ng_FL hf ) {F : Nat → Int32} {rl : Nat → Int32} {lg : Nat → Int32} {sta : Nat → Int32} {sm : Nat → Int32} {par : Nat → Int32} {mv : Nat → Int32} {dep : Nat → Int32} {nwa : Nat → Int32} {th : Nat → Int32} {bf : Nat → Int32} {row : Nat → Int32} {wid : Nat → Int32} {siz : Nat → Int32} {cel : Nat → Int64} {mvd : Nat → Int64} {ned : Nat → Int32}  {v1 : Int32} {v2 : Int32} {v3 : Int32} (h : s_X6_ask  F rl v1 v2 v3)  : ng_Ev G md_X6_ask 0 [some (.ref 28), some (.int v1), some (.int v2), some (.int v3), none] [] (hf F rl lg sta sm par mv dep nwa th bf row wid siz cel mvd ned) (K_X6_ask hf lg sta sm par mv dep nwa th bf row wid siz cel mvd ned (f_X6_ask  F rl v1 v2 v3)) := by
  unfold s_X6_ask at h
  unfold f_X6_ask
  refine ev_aload_n dX6_ask_0 rfl rfl rfl ?_
  refine ev_iconst (v := nI 0) dX6_ask_1 (by decide) ?_
  refine ev_put 6 0 fs_RX6_64 (FL_g28 V) (ng_lt rfl) rfl (FL_s28 V (F' := (upd F 0 (nI 0)))) (ng_fit_i _) dX6_ask_2 ?_
  refine ev_iload_n dX6_ask_5 rfl rfl ?_
  refine ev_iconst (v := nI 0) dX6_ask_6 (by decide) ?_
  refine ev_iconst (v := nI 4) dX6_ask_7 (by decide) ?_
  refine bk_callS (As := [.int v1, .int (nI 0), .int (nI 4)]) (st := []) (st2 := [.int (f_X6_in v1 (nI 0) (nI 4))]) (M2 := hf (upd F 0 (nI 0)) rl lg sta sm par mv dep nwa th bf row wid siz cel mvd ned) ok_X6_in lk_RX6_67 (ng_rok.of rfl rfl) rfl rfl rfl rfl dX6_ask_8 (m_X6_in trivial) rfl rfl ?_
  refine bk_if_eq (tgt := 33) dX6_ask_11 (by decide) (fun c11 => ?_) (fun c11 => ?_)
  · refine ev_bipush (v := (-2)) dX6_ask_33 (by decide) ?_
    exact ev_iret rfl rfl dX6_ask_35
  · replace h := h c11
    refine ev_aload_n dX6_ask_14 rfl rfl rfl ?_
    refine ev_iload_n dX6_ask_15 rfl rfl ?_
    have hs16 := h.1
    replace h := h.2
    refine bk_callV (As := [.int v2]) (st := []) (st2 := [.int (f_X6_isHouse rl v2)]) (M2 := hf (upd F 0 (nI 0)) rl lg sta sm par mv dep nwa th bf row wid siz cel mvd ned) ok_X6_isHouse lk_RX6_78 (ng_rok.of rfl rfl) (FL_g28 V) rfl rfl rfl rfl rfl rfl dX6_ask_16 (m_X6_isHouse V hs16) rfl rfl ?_
    refine bk_if_eq (tgt := 33) dX6_ask_19 (by decide) (fun c19 => ?_) (fun c19 => ?_)
    · refine ev_bipush (v := (-2)) dX6_ask_33 (by decide) ?_
      exact ev_iret rfl rfl dX6_ask_35
    · replace h := h c19
      refine ev_iload_n dX6_ask_22 rfl rfl ?_
      refine ev_iconst (v := nI 1) dX6_ask_23 (by decide) ?_
      refine ev_sipush (v := nI 255) dX6_ask_24 (by decide) ?_
      refine bk_callS (As := [.int v3, .int (nI 1), .int (nI 255)]) (st := []) (st2 := [.int (f_X6_in v3 (nI 1) (nI 255))]) (M2 := hf (upd F 0 (nI 0)) rl lg sta sm par mv dep nwa th bf row wid siz cel mvd ned) ok_X6_in lk_RX6_67 (ng_rok.of rfl rfl) rfl rfl rfl rfl dX6_ask_27 (m_X6_in trivial) rfl rfl ?_
      refine bk_if_ne (tgt := 36) dX6_ask_30 (by decide) (fun c30 => ?_) (fun c30 => ?_)
      · replace h := h c30
        refine ev_aload_n dX6_ask_36 rfl rfl rfl ?_
        refine ev_iload_n dX6_ask_37 rfl rfl ?_
        have hs38 := h.1
        replace h := h.2
        refine bk_callV (As := [.int v1]) (st := []) (st2 := [.int ((f_X6_paired rl v1).2)]) (M2 := hf (upd F 0 (nI 0)) ((f_X6_paired rl v1).1) lg sta sm par mv dep nwa th bf row wid siz cel mvd ned) ok_X6_paired lk_RX6_159 (ng_rok.of rfl rfl) (FL_g28 V) rfl rfl rfl rfl rfl rfl dX6_ask_38 (m_X6_paired V hs38) rfl rfl ?_
        exact ev_sub (e_X6_ask_41 V h) (sub_s (sub_s (sub_s (sub_s (sub_n sub_e)))))
      · refine ev_bipush (v := (-2)) dX6_ask_33 (by decide) ?_
        exact ev_iret rfl rfl dX6_ask_35
theorem m_X6_ask {G : ng_GG} {hf : (Nat → Int32) → (Nat → Int32) → (Nat → Int32) → (Nat → Int32) → (Nat → Int32) → (Nat → Int32) → (Nat → Int32) → (Nat → Int32) → (Nat → Int32) → (Nat → Int32) → (Nat → Int32) → (Nat → Int32) → (Nat → Int32) → (Nat → Int32) → (Nat → Int64) → (Nat → Int64) → (Nat → Int32) → ng_AM}  (V : ng_FL hf ) {F : Nat → Int32} {rl : Nat → Int32} {lg : Nat → Int32} {sta : Nat → Int32} {sm : Nat → Int32} {par : Nat → Int32} {mv : Nat → Int32} {dep : Nat → Int32} {nwa : Nat → Int32} {th : Nat → Int32} {bf : Nat → Int32} {row : Nat → Int32} {wid : Nat → Int32} {siz : Nat → Int32} {cel : Nat → Int64} {mvd : Nat → Int64} {ned : Nat → Int32} {v1 : Int32} {v2 : Int32} {v3 : Int32} (h : s_X6_ask F rl v1 v2 v3)  : ng_Ev G md_X6_ask 0 (ng_en 5 [.ref 28, .int v1, .int v2, .int v3]) [] (hf F rl lg sta sm par mv dep nwa th bf row wid siz cel mvd ned) (K_X6_ask hf lg sta sm par mv dep nwa th bf row wid siz cel mvd ned (f_X6_ask F rl v1 v2 v3)) := e_X6_ask V h 
def K_X6_turn (hf : (Nat → Int32) → (Nat → Int32) → (Nat → Int32) → (Nat → Int32) → (Nat → Int32) → (Nat → Int32) → (Nat → Int32) → (Nat → Int32) → (Nat → Int32) → (Nat → Int32) → (Nat → Int32) → (Nat → Int32) → (Nat → Int32) → (Nat → Int32) → (Nat → Int64) → (Nat → Int64) → (Nat → Int32) → ng_AM) (lg : Nat → Int32) (sta : Nat → Int32) (sm : Nat → Int32) (par : Nat → Int32) (mv : Nat → Int32) (dep : Nat → Int32) (nwa : Nat → Int32) (th : Nat → Int32) (bf : Nat → Int32) (row : Nat → Int32) (wid : Nat → Int32) (siz : Nat → Int32) (cel : Nat → Int64) (mvd : Nat → Int64) (ned : Nat → Int32) (r : (Nat → Int32) × (Nat → Int32) × Int32) : ng_RR := (some (.int (r.2.2)), hf (r.1) (r.2.1) lg sta sm par mv dep nwa th bf row wid siz cel mvd ned)
def f_X6_turn_60  (F : Nat → Int32) (rl : Nat → Int32) (v1 : Int32) (v2 : Int32) (t0 : Int32) : (Nat → Int32) × (Nat → Int32) × Int32 := ((f_X6_posts rl F v1 (nI 9) (nI 3) v2 (-1) t0).2, (f_X6_posts rl F v1 (nI 9) (nI 3) v2 (-1) t0).1, t0)
def s_X6_turn_60  (F : Nat → Int32) (rl : Nat → Int32) (v1 : Int32) (v2 : Int32) (t0 : Int32) : Prop := s_X6_posts rl F v1 (nI 9) (nI 3) v2 (-1) t0
set_option maxRecDepth 100000 in
set_option maxHeartbeats 4000000 in
theorem e_X6_turn_60 {G : ng_GG} {hf : (Nat → Int32) → (Nat → Int32) → (Nat → Int32) → (Nat → Int32) → (Nat → Int32) → (Nat → Int32) → (Nat → Int32) → (Nat → Int32) → (Nat → Int32) → (Nat → Int32) → (Nat → Int32) → (Nat → Int32) → (Nat → Int32) → (Nat → Int32) → (Nat → Int64) → (Nat → Int64) → (Nat → Int32) → ng_AM}  (V : ng_FL hf ) {F : Nat → Int32} {rl : Nat → Int32} {lg : Nat → Int32} {sta : Nat → Int32} {sm : Nat → Int32} {par : Nat → Int32} {mv : Nat → Int32} {dep : Nat → Int32} {nwa : Nat → Int32} {th : Nat → Int32} {bf : Nat → Int32} {row : Nat → Int32} {wid : Nat → Int32} {siz : Nat → Int32} {cel : Nat → Int64} {mvd : Nat → Int64} {ned : Nat → Int32}  {v1 : Int32} {v2 : Int32} {t0 : Int32} (h : s_X6_turn_60  F rl v1 v2 t0)  : ng_Ev G md_X6_turn 60 [some (.ref 28), some (.int v1), some (.int v2), none] [.int t0] (hf F rl lg sta sm par mv dep nwa th bf row wid siz cel mvd ned) (K_X6_turn hf lg sta sm par mv dep nwa th bf row wid siz cel mvd ned (f_X6_turn_60  F rl v1 v2 t0)) := by
  unfold s_X6_turn_60 at h
  unfold f_X6_turn_60
  refine ev_istore_n (L' := [some (.ref 28), some (.int v1), some (.int v2), some (.int t0)]) dX6_turn_60 rfl (ng_lt rfl) rfl ?_
  refine ev_aload_n dX6_turn_61 rfl rfl rfl ?_
  refine ev_aload_n dX6_turn_62 rfl rfl rfl ?_
  refine ev_get 6 1 fl_RX6_9 (FL_g28 V) rfl dX6_turn_63 ?_
  refine ev_iload_n dX6_turn_66 rfl rfl ?_
  refine ev_bipush (v := nI 9) dX6_turn_67 (by decide) ?_
  refine ev_iconst (v := nI 3) dX6_turn_69 (by decide) ?_
  refine ev_iload_n dX6_turn_70 rfl rfl ?_
  refine ev_iconst (v := (-1)) dX6_turn_71 (by decide) ?_
  refine ev_iload_n dX6_turn_72 rfl rfl ?_
  have hs73 := h
  refine bk_callV (As := [.ref 29, .int v1, .int (nI 9), .int (nI 3), .int v2, .int (-1), .int t0]) (st := []) (st2 := []) (M2 := hf ((f_X6_posts rl F v1 (nI 9) (nI 3) v2 (-1) t0).2) ((f_X6_posts rl F v1 (nI 9) (nI 3) v2 (-1) t0).1) lg sta sm par mv dep nwa th bf row wid siz cel mvd ned) ok_X6_posts lk_RX6_106 (ng_rok.of rfl rfl) (FL_g28 V) rfl rfl rfl rfl rfl rfl dX6_turn_73 (m_X6_posts (FL_rl V sta sm par mv dep nwa th bf row wid siz cel mvd ned) hs73) rfl rfl ?_
  refine ev_iload_n dX6_turn_76 rfl rfl ?_
  exact ev_iret rfl rfl dX6_turn_77
def f_X6_turn  (F : Nat → Int32) (rl : Nat → Int32) (v1 : Int32) (v2 : Int32) : (Nat → Int32) × (Nat → Int32) × Int32 := (if (f_X6_in v1 (nI 0) (nI 4)) = 0 then ((upd F 0 (nI 0)), rl, (-2)) else (if (f_X6_isNote rl v2) = 0 then ((upd F 0 (nI 0)), rl, (-2)) else (if (f_X6_has rl v1 v2) = 0 then ((upd F 0 (nI 0)), rl, (-3)) else (if (rl ((f_X6_note v2) + (nI 0)).toNatClampNeg) = (nI 1) then f_X6_turn_60 (upd F 0 (nI 0)) ((f_X6_paired rl v1).1) v1 v2 ((f_X6_paired rl v1).2) else ((upd F 0 (nI 0)), rl, (-3))))))
def s_X6_turn  (F : Nat → Int32) (rl : Nat → Int32) (v1 : Int32) (v2 : Int32) : Prop := (¬ (f_X6_in v1 (nI 0) (nI 4)) = 0 → (s_X6_isNote rl v2 ∧ (¬ (f_X6_isNote rl v2) = 0 → (s_X6_has rl v1 v2 ∧ (¬ (f_X6_has rl v1 v2) = 0 → (vp_in ((f_X6_note v2) + (nI 0)) 527 ∧ ((rl ((f_X6_note v2) + (nI 0)).toNatClampNeg) = (nI 1) → (s_X6_paired rl v1 ∧ s_X6_turn_60 (upd F 0 (nI 0)) ((f_X6_paired rl v1).1) v1 v2 ((f_X6_paired rl v1).2)))))))))
set_option maxRecDepth 100000 in
set_option maxHeartbeats 4000000 in
theorem e_X6_turn {G : ng_GG} {hf : (Nat → Int32) → (Nat → Int32) → (Nat → Int32) → (Nat → Int32) → (Nat → Int32) → (Nat → Int32) → (Nat → Int32) → (Nat → Int32) → (Nat → Int32) → (Nat → Int32) → (Nat → Int32) → (Nat → Int32) → (Nat → Int32) → (Nat → Int32) → (Nat → Int64) → (Nat → Int64) → (Nat → Int32) → ng_AM}  (V : ng_FL hf ) {F : Nat → Int32} {rl : Nat → Int32} {lg : Nat → Int32} {sta : Nat → Int32} {sm : Nat → Int32} {par : Nat → Int32} {mv : Nat → Int32} {dep : Nat → Int32} {nwa : Nat → Int32} {th : Nat → Int32} {bf : Nat → Int32} {row : Nat → Int32} {wid : Nat → Int32} {siz : Nat → Int32} {cel : Nat → Int64} {mvd : Nat → Int64} {ned : Nat → Int32}  {v1 : Int32} {v2 : Int32} (h : s_X6_turn  F rl v1 v2)  : ng_Ev G md_X6_turn 0 [some (.ref 28), some (.int v1), some (.int v2), none] [] (hf F rl lg sta sm par mv dep nwa th bf row wid siz cel mvd ned) (K_X6_turn hf lg sta sm par mv dep nwa th bf row wid siz cel mvd ned (f_X6_turn  F rl v1 v2)) := by
  unfold s_X6_turn at h
  unfold f_X6_turn
  refine ev_aload_n dX6_turn_0 rfl rfl rfl ?_
  refine ev_iconst (v := nI 0) dX6_turn_1 (by decide) ?_
  refine ev_put 6 0 fs_RX6_64 (FL_g28 V) (ng_lt rfl) rfl (FL_s28 V (F' := (upd F 0 (nI 0)))) (ng_fit_i _) dX6_turn_2 ?_
  refine ev_iload_n dX6_turn_5 rfl rfl ?_
  refine ev_iconst (v := nI 0) dX6_turn_6 (by decide) ?_
  refine ev_iconst (v := nI 4) dX6_turn_7 (by decide) ?_
  refine bk_callS (As := [.int v1, .int (nI 0), .int (nI 4)]) (st := []) (st2 := [.int (f_X6_in v1 (nI 0) (nI 4))]) (M2 := hf (upd F 0 (nI 0)) rl lg sta sm par mv dep nwa th bf row wid siz cel mvd ned) ok_X6_in lk_RX6_67 (ng_rok.of rfl rfl) rfl rfl rfl rfl dX6_turn_8 (m_X6_in trivial) rfl rfl ?_
  refine bk_if_eq (tgt := 22) dX6_turn_11 (by decide) (fun c11 => ?_) (fun c11 => ?_)
  · refine ev_bipush (v := (-2)) dX6_turn_22 (by decide) ?_
    exact ev_iret rfl rfl dX6_turn_24
  · replace h := h c11
    refine ev_aload_n dX6_turn_14 rfl rfl rfl ?_
    refine ev_iload_n dX6_turn_15 rfl rfl ?_
    have hs16 := h.1
    replace h := h.2
    refine bk_callV (As := [.int v2]) (st := []) (st2 := [.int (f_X6_isNote rl v2)]) (M2 := hf (upd F 0 (nI 0)) rl lg sta sm par mv dep nwa th bf row wid siz cel mvd ned) ok_X6_isNote lk_RX6_162 (ng_rok.of rfl rfl) (FL_g28 V) rfl rfl rfl rfl rfl rfl dX6_turn_16 (m_X6_isNote V hs16) rfl rfl ?_
    refine bk_if_ne (tgt := 25) dX6_turn_19 (by decide) (fun c19 => ?_) (fun c19 => ?_)
    · replace h := h c19
      refine ev_aload_n dX6_turn_25 rfl rfl rfl ?_
      refine ev_get 6 1 fl_RX6_9 (FL_g28 V) rfl dX6_turn_26 ?_
      refine ev_iload_n dX6_turn_29 rfl rfl ?_
      refine ev_iload_n dX6_turn_30 rfl rfl ?_
      have hs31 := h.1
      replace h := h.2
      refine bk_callS (As := [.ref 29, .int v1, .int v2]) (st := []) (st2 := [.int (f_X6_has rl v1 v2)]) (M2 := hf (upd F 0 (nI 0)) rl lg sta sm par mv dep nwa th bf row wid siz cel mvd ned) ok_X6_has lk_RX6_165 (ng_rok.of rfl rfl) rfl rfl rfl rfl dX6_turn_31 (m_X6_has (FL_Rrl V) hs31) rfl rfl ?_
      refine bk_if_eq (tgt := 52) dX6_turn_34 (by decide) (fun c34 => ?_) (fun c34 => ?_)
      · refine ev_bipush (v := (-3)) dX6_turn_52 (by decide) ?_
        exact ev_iret rfl rfl dX6_turn_54
      · replace h := h c34
        refine ev_aload_n dX6_turn_37 rfl rfl rfl ?_
        refine ev_get 6 1 fl_RX6_9 (FL_g28 V) rfl dX6_turn_38 ?_
        refine ev_iload_n dX6_turn_41 rfl rfl ?_
        refine bk_callS (As := [.int v2]) (st := [.ref 29]) (st2 := [.int (f_X6_note v2), .ref 29]) (M2 := hf (upd F 0 (nI 0)) rl lg sta sm par mv dep nwa th bf row wid siz cel mvd ned) ok_X6_note lk_RX6_71 (ng_rok.of rfl rfl) rfl rfl rfl rfl dX6_turn_42 (m_X6_note trivial) rfl rfl ?_
        refine ev_iconst (v := nI 0) dX6_turn_45 (by decide) ?_
        refine ev_iadd dX6_turn_46 ?_
        have hi47 := h.1
        replace h := h.2
        refine ev_iald (FL_g29 V) hi47 dX6_turn_47 ?_
        refine ev_iconst (v := nI 1) dX6_turn_48 (by decide) ?_
        refine bk_icmp_eq (tgt := 55) dX6_turn_49 (by decide) (fun c49 => ?_) (fun c49 => ?_)
        · replace h := h c49
          refine ev_aload_n dX6_turn_55 rfl rfl rfl ?_
          refine ev_iload_n dX6_turn_56 rfl rfl ?_
          have hs57 := h.1
          replace h := h.2
          refine bk_callV (As := [.int v1]) (st := []) (st2 := [.int ((f_X6_paired rl v1).2)]) (M2 := hf (upd F 0 (nI 0)) ((f_X6_paired rl v1).1) lg sta sm par mv dep nwa th bf row wid siz cel mvd ned) ok_X6_paired lk_RX6_159 (ng_rok.of rfl rfl) (FL_g28 V) rfl rfl rfl rfl rfl rfl dX6_turn_57 (m_X6_paired V hs57) rfl rfl ?_
          exact ev_sub (e_X6_turn_60 V h) (sub_s (sub_s (sub_s (sub_n sub_e))))
        · refine ev_bipush (v := (-3)) dX6_turn_52 (by decide) ?_
          exact ev_iret rfl rfl dX6_turn_54
    · refine ev_bipush (v := (-2)) dX6_turn_22 (by decide) ?_
      exact ev_iret rfl rfl dX6_turn_24
theorem m_X6_turn {G : ng_GG} {hf : (Nat → Int32) → (Nat → Int32) → (Nat → Int32) → (Nat → Int32) → (Nat → Int32) → (Nat → Int32) → (Nat → Int32) → (Nat → Int32) → (Nat → Int32) → (Nat → Int32) → (Nat → Int32) → (Nat → Int32) → (Nat → Int32) → (Nat → Int32) → (Nat → Int64) → (Nat → Int64) → (Nat → Int32) → ng_AM}  (V : ng_FL hf ) {F : Nat → Int32} {rl : Nat → Int32} {lg : Nat → Int32} {sta : Nat → Int32} {sm : Nat → Int32} {par : Nat → Int32} {mv : Nat → Int32} {dep : Nat → Int32} {nwa : Nat → Int32} {th : Nat → Int32} {bf : Nat → Int32} {row : Nat → Int32} {wid : Nat → Int32} {siz : Nat → Int32} {cel : Nat → Int64} {mvd : Nat → Int64} {ned : Nat → Int32} {v1 : Int32} {v2 : Int32} (h : s_X6_turn F rl v1 v2)  : ng_Ev G md_X6_turn 0 (ng_en 4 [.ref 28, .int v1, .int v2]) [] (hf F rl lg sta sm par mv dep nwa th bf row wid siz cel mvd ned) (K_X6_turn hf lg sta sm par mv dep nwa th bf row wid siz cel mvd ned (f_X6_turn F rl v1 v2)) := e_X6_turn V h 
def K_X6_isHolder (hf : (Nat → Int32) → (Nat → Int32) → (Nat → Int32) → (Nat → Int32) → (Nat → Int32) → (Nat → Int32) → (Nat → Int32) → (Nat → Int32) → (Nat → Int32) → (Nat → Int32) → (Nat → Int32) → (Nat → Int32) → (Nat → Int32) → (Nat → Int32) → (Nat → Int64) → (Nat → Int64) → (Nat → Int32) → ng_AM) (F : Nat → Int32) (rl : Nat → Int32) (lg : Nat → Int32) (sta : Nat → Int32) (sm : Nat → Int32) (par : Nat → Int32) (mv : Nat → Int32) (dep : Nat → Int32) (nwa : Nat → Int32) (th : Nat → Int32) (bf : Nat → Int32) (row : Nat → Int32) (wid : Nat → Int32) (siz : Nat → Int32) (cel : Nat → Int64) (mvd : Nat → Int64) (ned : Nat → Int32) (r : Int32) : ng_RR := (some (.int (r)), hf F rl lg sta sm par mv dep nwa th bf row wid siz cel mvd ned)
def f_X6_isHolder  (rl : Nat → Int32) (v1 : Int32) : Int32 := (if (f_X6_in v1 (nI 0) (nI 4)) = 0 then (if (f_X6_isHouse rl (v1 - (nI 5))) = 0 then nI 0 else (if v1 < (nI 5) then nI 0 else nI 1)) else nI 1)
def s_X6_isHolder  (rl : Nat → Int32) (v1 : Int32) : Prop := ((f_X6_in v1 (nI 0) (nI 4)) = 0 → s_X6_isHouse rl (v1 - (nI 5)))
set_option maxRecDepth 100000 in
set_option maxHeartbeats 4000000 in
theorem e_X6_isHolder {G : ng_GG} {hf : (Nat → Int32) → (Nat → Int32) → (Nat → Int32) → (Nat → Int32) → (Nat → Int32) → (Nat → Int32) → (Nat → Int32) → (Nat → Int32) → (Nat → Int32) → (Nat → Int32) → (Nat → Int32) → (Nat → Int32) → (Nat → Int32) → (Nat → Int32) → (Nat → Int64) → (Nat → Int64) → (Nat → Int32) → ng_AM}  (V : ng_FL hf ) {F : Nat → Int32} {rl : Nat → Int32} {lg : Nat → Int32} {sta : Nat → Int32} {sm : Nat → Int32} {par : Nat → Int32} {mv : Nat → Int32} {dep : Nat → Int32} {nwa : Nat → Int32} {th : Nat → Int32} {bf : Nat → Int32} {row : Nat → Int32} {wid : Nat → Int32} {siz : Nat → Int32} {cel : Nat → Int64} {mvd : Nat → Int64} {ned : Nat → Int32}  {v1 : Int32} (h : s_X6_isHolder  rl v1)  : ng_Ev G md_X6_isHolder 0 [some (.ref 28), some (.int v1)] [] (hf F rl lg sta sm par mv dep nwa th bf row wid siz cel mvd ned) (K_X6_isHolder hf F rl lg sta sm par mv dep nwa th bf row wid siz cel mvd ned (f_X6_isHolder  rl v1)) := by
  unfold s_X6_isHolder at h
  unfold f_X6_isHolder
  refine ev_iload_n dX6_isHolder_0 rfl rfl ?_
  refine ev_iconst (v := nI 0) dX6_isHolder_1 (by decide) ?_
  refine ev_iconst (v := nI 4) dX6_isHolder_2 (by decide) ?_
  refine bk_callS (As := [.int v1, .int (nI 0), .int (nI 4)]) (st := []) (st2 := [.int (f_X6_in v1 (nI 0) (nI 4))]) (M2 := hf F rl lg sta sm par mv dep nwa th bf row wid siz cel mvd ned) ok_X6_in lk_RX6_67 (ng_rok.of rfl rfl) rfl rfl rfl rfl dX6_isHolder_3 (m_X6_in trivial) rfl rfl ?_
  refine bk_if_ne (tgt := 24) dX6_isHolder_6 (by decide) (fun c6 => ?_) (fun c6 => ?_)
  · refine ev_iconst (v := nI 1) dX6_isHolder_24 (by decide) ?_
    refine ev_goto (tgt := 29) dX6_isHolder_25 (by decide) ?_
    exact ev_iret rfl (by decide) dX6_isHolder_29
  · replace h := h c6
    refine ev_aload_n dX6_isHolder_9 rfl rfl rfl ?_
    refine ev_iload_n dX6_isHolder_10 rfl rfl ?_
    refine ev_iconst (v := nI 5) dX6_isHolder_11 (by decide) ?_
    refine ev_isub dX6_isHolder_12 ?_
    have hs13 := h
    refine bk_callV (As := [.int (v1 - (nI 5))]) (st := []) (st2 := [.int (f_X6_isHouse rl (v1 - (nI 5)))]) (M2 := hf F rl lg sta sm par mv dep nwa th bf row wid siz cel mvd ned) ok_X6_isHouse lk_RX6_78 (ng_rok.of rfl rfl) (FL_g28 V) rfl rfl rfl rfl rfl rfl dX6_isHolder_13 (m_X6_isHouse V hs13) rfl rfl ?_
    refine bk_if_eq (tgt := 28) dX6_isHolder_16 (by decide) (fun c16 => ?_) (fun c16 => ?_)
    · refine ev_iconst (v := nI 0) dX6_isHolder_28 (by decide) ?_
      exact ev_iret rfl (by decide) dX6_isHolder_29
    · refine ev_iload_n dX6_isHolder_19 rfl rfl ?_
      refine ev_iconst (v := nI 5) dX6_isHolder_20 (by decide) ?_
      refine bk_icmp_lt (tgt := 28) dX6_isHolder_21 (by decide) (fun c21 => ?_) (fun c21 => ?_)
      · refine ev_iconst (v := nI 0) dX6_isHolder_28 (by decide) ?_
        exact ev_iret rfl (by decide) dX6_isHolder_29
      · refine ev_iconst (v := nI 1) dX6_isHolder_24 (by decide) ?_
        refine ev_goto (tgt := 29) dX6_isHolder_25 (by decide) ?_
        exact ev_iret rfl (by decide) dX6_isHolder_29
theorem m_X6_isHolder {G : ng_GG} {hf : (Nat → Int32) → (Nat → Int32) → (Nat → Int32) → (Nat → Int32) → (Nat → Int32) → (Nat → Int32) → (Nat → Int32) → (Nat → Int32) → (Nat → Int32) → (Nat → Int32) → (Nat → Int32) → (Nat → Int32) → (Nat → Int32) → (Nat → Int32) → (Nat → Int64) → (Nat → Int64) → (Nat → Int32) → ng_AM}  (V : ng_FL hf ) {F : Nat → Int32} {rl : Nat → Int32} {lg : Nat → Int32} {sta : Nat → Int32} {sm : Nat → Int32} {par : Nat → Int32} {mv : Nat → Int32} {dep : Nat → Int32} {nwa : Nat → Int32} {th : Nat → Int32} {bf : Nat → Int32} {row : Nat → Int32} {wid : Nat → Int32} {siz : Nat → Int32} {cel : Nat → Int64} {mvd : Nat → Int64} {ned : Nat → Int32} {v1 : Int32} (h : s_X6_isHolder rl v1)  : ng_Ev G md_X6_isHolder 0 (ng_en 2 [.ref 28, .int v1]) [] (hf F rl lg sta sm par mv dep nwa th bf row wid siz cel mvd ned) (K_X6_isHolder hf F rl lg sta sm par mv dep nwa th bf row wid siz cel mvd ned (f_X6_isHolder rl v1)) := e_X6_isHolder V h 
def K_X6_show (hf : (Nat → Int32) → (Nat → Int32) → (Nat → Int32) → (Nat → Int32) → (Nat → Int32) → (Nat → Int32) → (Nat → Int32) → (Nat → Int32) → (Nat → Int32) → (Nat → Int32) → (Nat → Int32) → (Nat → Int32) → (Nat → Int32) → (Nat → Int32) → (Nat → Int64) → (Nat → Int64) → (Nat → Int32) → ng_AM) (lg : Nat → Int32) (sta : Nat → Int32) (sm : Nat → Int32) (par : Nat → Int32) (mv : Nat → Int32) (dep : Nat → Int32) (nwa : Nat → Int32) (th : Nat → Int32) (bf : Nat → Int32) (row : Nat → Int32) (wid : Nat → Int32) (siz : Nat → Int32) (cel : Nat → Int64) (mvd : Nat → Int64) (ned : Nat → Int32) (r : (Nat → Int32) × (Nat → Int32) × Int32) : ng_RR := (some (.int (r.2.2)), hf (r.1) (r.2.1) lg sta sm par mv dep nwa th bf row wid siz cel mvd ned)
def f_X6_show  (F : Nat → Int32) (rl : Nat → Int32) (v1 : Int32) (v2 : Int32) (v3 : Int32) (v4 : Int32) : (Nat → Int32) × (Nat → Int32) × Int32 := (if (f_X6_isHolder rl v1) = 0 then ((upd F 0 (nI 0)), rl, nI 0) else (if (f_X6_isHouse rl v2) = 0 then ((upd F 0 (nI 0)), rl, nI 0) else (if (f_X6_isNote rl v3) = 0 then ((upd F 0 (nI 0)), rl, nI 0) else (if (f_X6_in v4 (nI 0) (nI 7)) = 0 then ((upd F 0 (nI 0)), rl, nI 0) else (if (f_X6_has rl v1 v3) = 0 then ((upd F 0 (nI 0)), rl, nI 0) else ((f_X6_posts rl (upd F 0 (nI 0)) v1 ((nI 5) + v2) (nI 2) v3 v4 (nI 0)).2, (f_X6_posts rl (upd F 0 (nI 0)) v1 ((nI 5) + v2) (nI 2) v3 v4 (nI 0)).1, nI 1))))))
def s_X6_show  (F : Nat → Int32) (rl : Nat → Int32) (v1 : Int32) (v2 : Int32) (v3 : Int32) (v4 : Int32) : Prop := (s_X6_isHolder rl v1 ∧ (¬ (f_X6_isHolder rl v1) = 0 → (s_X6_isHouse rl v2 ∧ (¬ (f_X6_isHouse rl v2) = 0 → (s_X6_isNote rl v3 ∧ (¬ (f_X6_isNote rl v3) = 0 → (¬ (f_X6_in v4 (nI 0) (nI 7)) = 0 → (s_X6_has rl v1 v3 ∧ (¬ (f_X6_has rl v1 v3) = 0 → s_X6_posts rl (upd F 0 (nI 0)) v1 ((nI 5) + v2) (nI 2) v3 v4 (nI 0))))))))))
set_option maxRecDepth 100000 in
set_option maxHeartbeats 4000000 in
theorem e_X6_show {G : ng_GG} {hf : (Nat → Int32) → (Nat → Int32) → (Nat → Int32) → (Nat → Int32) → (Nat → Int32) → (Nat → Int32) → (Nat → Int32) → (Nat → Int32) → (Nat → Int32) → (Nat → Int32) → (Nat → Int32) → (Nat → Int32) → (Nat → Int32) → (Nat → Int32) → (Nat → Int64) → (Nat → Int64) → (Nat → Int32) → ng_AM}  (V : ng_FL hf ) {F : Nat → Int32} {rl : Nat → Int32} {lg : Nat → Int32} {sta : Nat → Int32} {sm : Nat → Int32} {par : Nat → Int32} {mv : Nat → Int32} {dep : Nat → Int32} {nwa : Nat → Int32} {th : Nat → Int32} {bf : Nat → Int32} {row : Nat → Int32} {wid : Nat → Int32} {siz : Nat → Int32} {cel : Nat → Int64} {mvd : Nat → Int64} {ned : Nat → Int32}  {v1 : Int32} {v2 : Int32} {v3 : Int32} {v4 : Int32} (h : s_X6_show  F rl v1 v2 v3 v4)  : ng_Ev G md_X6_show 0 [some (.ref 28), some (.int v1), some (.int v2), some (.int v3), some (.int v4)] [] (hf F rl lg sta sm par mv dep nwa th bf row wid siz cel mvd ned) (K_X6_show hf lg sta sm par mv dep nwa th bf row wid siz cel mvd ned (f_X6_show  F rl v1 v2 v3 v4)) := by
  unfold s_X6_show at h
  unfold f_X6_show
  refine ev_aload_n dX6_show_0 rfl rfl rfl ?_
  refine ev_iconst (v := nI 0) dX6_show_1 (by decide) ?_
  refine ev_put 6 0 fs_RX6_64 (FL_g28 V) (ng_lt rfl) rfl (FL_s28 V (F' := (upd F 0 (nI 0)))) (ng_fit_i _) dX6_show_2 ?_
  refine ev_aload_n dX6_show_5 rfl rfl rfl ?_
  refine ev_iload_n dX6_show_6 rfl rfl ?_
  have hs7 := h.1
  replace h := h.2
  refine bk_callV (As := [.int v1]) (st := []) (st2 := [.int (f_X6_isHolder rl v1)]) (M2 := hf (upd F 0 (nI 0)) rl lg sta sm par mv dep nwa th bf row wid siz cel mvd ned) ok_X6_isHolder lk_RX6_169 (ng_rok.of rfl rfl) (FL_g28 V) rfl rfl rfl rfl rfl rfl dX6_show_7 (m_X6_isHolder V hs7) rfl rfl ?_
  refine bk_if_eq (tgt := 52) dX6_show_10 (by decide) (fun c10 => ?_) (fun c10 => ?_)
  · refine ev_iconst (v := nI 0) dX6_show_52 (by decide) ?_
    exact ev_iret rfl (by decide) dX6_show_53
  · replace h := h c10
    refine ev_aload_n dX6_show_13 rfl rfl rfl ?_
    refine ev_iload_n dX6_show_14 rfl rfl ?_
    have hs15 := h.1
    replace h := h.2
    refine bk_callV (As := [.int v2]) (st := []) (st2 := [.int (f_X6_isHouse rl v2)]) (M2 := hf (upd F 0 (nI 0)) rl lg sta sm par mv dep nwa th bf row wid siz cel mvd ned) ok_X6_isHouse lk_RX6_78 (ng_rok.of rfl rfl) (FL_g28 V) rfl rfl rfl rfl rfl rfl dX6_show_15 (m_X6_isHouse V hs15) rfl rfl ?_
    refine bk_if_eq (tgt := 52) dX6_show_18 (by decide) (fun c18 => ?_) (fun c18 => ?_)
    · refine ev_iconst (v := nI 0) dX6_show_52 (by decide) ?_
      exact ev_iret rfl (by decide) dX6_show_53
    · replace h := h c18
      refine ev_aload_n dX6_show_21 rfl rfl rfl ?_
      refine ev_iload_n dX6_show_22 rfl rfl ?_
      have hs23 := h.1
      replace h := h.2
      refine bk_callV (As := [.int v3]) (st := []) (st2 := [.int (f_X6_isNote rl v3)]) (M2 := hf (upd F 0 (nI 0)) rl lg sta sm par mv dep nwa th bf row wid siz cel mvd ned) ok_X6_isNote lk_RX6_162 (ng_rok.of rfl rfl) (FL_g28 V) rfl rfl rfl rfl rfl rfl dX6_show_23 (m_X6_isNote V hs23) rfl rfl ?_
      refine bk_if_eq (tgt := 52) dX6_show_26 (by decide) (fun c26 => ?_) (fun c26 => ?_)
      · refine ev_iconst (v := nI 0) dX6_show_52 (by decide) ?_
        exact ev_iret rfl (by decide) dX6_show_53
      · replace h := h c26
        refine ev_iload dX6_show_29 rfl ?_
        refine ev_iconst (v := nI 0) dX6_show_31 (by decide) ?_
        refine ev_bipush (v := nI 7) dX6_show_32 (by decide) ?_
        refine bk_callS (As := [.int v4, .int (nI 0), .int (nI 7)]) (st := []) (st2 := [.int (f_X6_in v4 (nI 0) (nI 7))]) (M2 := hf (upd F 0 (nI 0)) rl lg sta sm par mv dep nwa th bf row wid siz cel mvd ned) ok_X6_in lk_RX6_67 (ng_rok.of rfl rfl) rfl rfl rfl rfl dX6_show_34 (m_X6_in trivial) rfl rfl ?_
        refine bk_if_eq (tgt := 52) dX6_show_37 (by decide) (fun c37 => ?_) (fun c37 => ?_)
        · refine ev_iconst (v := nI 0) dX6_show_52 (by decide) ?_
          exact ev_iret rfl (by decide) dX6_show_53
        · replace h := h c37
          refine ev_aload_n dX6_show_40 rfl rfl rfl ?_
          refine ev_get 6 1 fl_RX6_9 (FL_g28 V) rfl dX6_show_41 ?_
          refine ev_iload_n dX6_show_44 rfl rfl ?_
          refine ev_iload_n dX6_show_45 rfl rfl ?_
          have hs46 := h.1
          replace h := h.2
          refine bk_callS (As := [.ref 29, .int v1, .int v3]) (st := []) (st2 := [.int (f_X6_has rl v1 v3)]) (M2 := hf (upd F 0 (nI 0)) rl lg sta sm par mv dep nwa th bf row wid siz cel mvd ned) ok_X6_has lk_RX6_165 (ng_rok.of rfl rfl) rfl rfl rfl rfl dX6_show_46 (m_X6_has (FL_Rrl V) hs46) rfl rfl ?_
          refine bk_if_ne (tgt := 54) dX6_show_49 (by decide) (fun c49 => ?_) (fun c49 => ?_)
          · replace h := h c49
            refine ev_aload_n dX6_show_54 rfl rfl rfl ?_
            refine ev_aload_n dX6_show_55 rfl rfl rfl ?_
            refine ev_get 6 1 fl_RX6_9 (FL_g28 V) rfl dX6_show_56 ?_
            refine ev_iload_n dX6_show_59 rfl rfl ?_
            refine ev_iconst (v := nI 5) dX6_show_60 (by decide) ?_
            refine ev_iload_n dX6_show_61 rfl rfl ?_
            refine ev_iadd dX6_show_62 ?_
            refine ev_iconst (v := nI 2) dX6_show_63 (by decide) ?_
            refine ev_iload_n dX6_show_64 rfl rfl ?_
            refine ev_iload dX6_show_65 rfl ?_
            refine ev_iconst (v := nI 0) dX6_show_67 (by decide) ?_
            have hs68 := h
            refine bk_callV (As := [.ref 29, .int v1, .int ((nI 5) + v2), .int (nI 2), .int v3, .int v4, .int (nI 0)]) (st := []) (st2 := []) (M2 := hf ((f_X6_posts rl (upd F 0 (nI 0)) v1 ((nI 5) + v2) (nI 2) v3 v4 (nI 0)).2) ((f_X6_posts rl (upd F 0 (nI 0)) v1 ((nI 5) + v2) (nI 2) v3 v4 (nI 0)).1) lg sta sm par mv dep nwa th bf row wid siz cel mvd ned) ok_X6_posts lk_RX6_106 (ng_rok.of rfl rfl) (FL_g28 V) rfl rfl rfl rfl rfl rfl dX6_show_68 (m_X6_posts (FL_rl V sta sm par mv dep nwa th bf row wid siz cel mvd ned) hs68) rfl rfl ?_
            refine ev_iconst (v := nI 1) dX6_show_71 (by decide) ?_
            exact ev_iret rfl (by decide) dX6_show_72
          · refine ev_iconst (v := nI 0) dX6_show_52 (by decide) ?_
            exact ev_iret rfl (by decide) dX6_show_53
theorem m_X6_show {G : ng_GG} {hf : (Nat → Int32) → (Nat → Int32) → (Nat → Int32) → (Nat → Int32) → (Nat → Int32) → (Nat → Int32) → (Nat → Int32) → (Nat → Int32) → (Nat → Int32) → (Nat → Int32) → (Nat → Int32) → (Nat → Int32) → (Nat → Int32) → (Nat → Int32) → (Nat → Int64) → (Nat → Int64) → (Nat → Int32) → ng_AM}  (V : ng_FL hf ) {F : Nat → Int32} {rl : Nat → Int32} {lg : Nat → Int32} {sta : Nat → Int32} {sm : Nat → Int32} {par : Nat → Int32} {mv : Nat → Int32} {dep : Nat → Int32} {nwa : Nat → Int32} {th : Nat → Int32} {bf : Nat → Int32} {row : Nat → Int32} {wid : Nat → Int32} {siz : Nat → Int32} {cel : Nat → Int64} {mvd : Nat → Int64} {ned : Nat → Int32} {v1 : Int32} {v2 : Int32} {v3 : Int32} {v4 : Int32} (h : s_X6_show F rl v1 v2 v3 v4)  : ng_Ev G md_X6_show 0 (ng_en 5 [.ref 28, .int v1, .int v2, .int v3, .int v4]) [] (hf F rl lg sta sm par mv dep nwa th bf row wid siz cel mvd ned) (K_X6_show hf lg sta sm par mv dep nwa th bf row wid siz cel mvd ned (f_X6_show F rl v1 v2 v3 v4)) := e_X6_show V h 
def K_X6_hand (hf : (Nat → Int32) → (Nat → Int32) → (Nat → Int32) → (Nat → Int32) → (Nat → Int32) → (Nat → Int32) → (Nat → Int32) → (Nat → Int32) → (Nat → Int32) → (Nat → Int32) → (Nat → Int32) → (Nat → Int32) → (Nat → Int32) → (Nat → Int32) → (Nat → Int64) → (Nat → Int64) → (Nat → Int32) → ng_AM) (lg : Nat → Int32) (sta : Nat → Int32) (sm : Nat → Int32) (par : Nat → Int32) (mv : Nat → Int32) (dep : Nat → Int32) (nwa : Nat → Int32) (th : Nat → Int32) (bf : Nat → Int32) (row : Nat → Int32) (wid : Nat → Int32) (siz : Nat → Int32) (cel : Nat → Int64) (mvd : Nat → Int64) (ned : Nat → Int32) (r : (Nat → Int32) × (Nat → Int32) × Int32) : ng_RR := (some (.int (r.2.2)), hf (r.1) (r.2.1) lg sta sm par mv dep nwa th bf row wid siz cel mvd ned)
def f_X6_hand  (F : Nat → Int32) (rl : Nat → Int32) (v1 : Int32) (v2 : Int32) (v3 : Int32) (v4 : Int32) : (Nat → Int32) × (Nat → Int32) × Int32 := (if (f_X6_isHouse rl v1) = 0 then ((upd F 0 (nI 0)), rl, nI 0) else (if (f_X6_isHouse rl v3) = 0 then ((upd F 0 (nI 0)), rl, nI 0) else (if v1 = v3 then ((upd F 0 (nI 0)), rl, nI 0) else (if (f_X6_isNote rl v2) = 0 then ((upd F 0 (nI 0)), rl, nI 0) else (if (f_X6_has rl ((nI 5) + v1) v2) = 0 then ((upd F 0 (nI 0)), rl, nI 0) else (if (f_X6_in v4 (nI 1) (nI 255)) = 0 then ((upd F 0 (nI 0)), rl, nI 0) else ((f_X6_posts rl (upd F 0 (nI 0)) ((nI 5) + v1) (nI 9) (nI 4) v2 v3 v4).2, (f_X6_posts rl (upd F 0 (nI 0)) ((nI 5) + v1) (nI 9) (nI 4) v2 v3 v4).1, nI 1)))))))
def s_X6_hand  (F : Nat → Int32) (rl : Nat → Int32) (v1 : Int32) (v2 : Int32) (v3 : Int32) (v4 : Int32) : Prop := (s_X6_isHouse rl v1 ∧ (¬ (f_X6_isHouse rl v1) = 0 → (s_X6_isHouse rl v3 ∧ (¬ (f_X6_isHouse rl v3) = 0 → (¬ v1 = v3 → (s_X6_isNote rl v2 ∧ (¬ (f_X6_isNote rl v2) = 0 → (s_X6_has rl ((nI 5) + v1) v2 ∧ (¬ (f_X6_has rl ((nI 5) + v1) v2) = 0 → (¬ (f_X6_in v4 (nI 1) (nI 255)) = 0 → s_X6_posts rl (upd F 0 (nI 0)) ((nI 5) + v1) (nI 9) (nI 4) v2 v3 v4))))))))))
set_option maxRecDepth 100000 in
set_option maxHeartbeats 4000000 in
theorem e_X6_hand {G : ng_GG} {hf : (Nat → Int32) → (Nat → Int32) → (Nat → Int32) → (Nat → Int32) → (Nat → Int32) → (Nat → Int32) → (Nat → Int32) → (Nat → Int32) → (Nat → Int32) → (Nat → Int32) → (Nat → Int32) → (Nat → Int32) → (Nat → Int32) → (Nat → Int32) → (Nat → Int64) → (Nat → Int64) → (Nat → Int32) → ng_AM}  (V : ng_FL hf ) {F : Nat → Int32} {rl : Nat → Int32} {lg : Nat → Int32} {sta : Nat → Int32} {sm : Nat → Int32} {par : Nat → Int32} {mv : Nat → Int32} {dep : Nat → Int32} {nwa : Nat → Int32} {th : Nat → Int32} {bf : Nat → Int32} {row : Nat → Int32} {wid : Nat → Int32} {siz : Nat → Int32} {cel : Nat → Int64} {mvd : Nat → Int64} {ned : Nat → Int32}  {v1 : Int32} {v2 : Int32} {v3 : Int32} {v4 : Int32} (h : s_X6_hand  F rl v1 v2 v3 v4)  : ng_Ev G md_X6_hand 0 [some (.ref 28), some (.int v1), some (.int v2), some (.int v3), some (.int v4)] [] (hf F rl lg sta sm par mv dep nwa th bf row wid siz cel mvd ned) (K_X6_hand hf lg sta sm par mv dep nwa th bf row wid siz cel mvd ned (f_X6_hand  F rl v1 v2 v3 v4)) := by
  unfold s_X6_hand at h
  unfold f_X6_hand
  refine ev_aload_n dX6_hand_0 rfl rfl rfl ?_
  refine ev_iconst (v := nI 0) dX6_hand_1 (by decide) ?_
  refine ev_put 6 0 fs_RX6_64 (FL_g28 V) (ng_lt rfl) rfl (FL_s28 V (F' := (upd F 0 (nI 0)))) (ng_fit_i _) dX6_hand_2 ?_
  refine ev_aload_n dX6_hand_5 rfl rfl rfl ?_
  refine ev_iload_n dX6_hand_6 rfl rfl ?_
  have hs7 := h.1
  replace h := h.2
  refine bk_callV (As := [.int v1]) (st := []) (st2 := [.int (f_X6_isHouse rl v1)]) (M2 := hf (upd F 0 (nI 0)) rl lg sta sm par mv dep nwa th bf row wid siz cel mvd ned) ok_X6_isHouse lk_RX6_78 (ng_rok.of rfl rfl) (FL_g28 V) rfl rfl rfl rfl rfl rfl dX6_hand_7 (m_X6_isHouse V hs7) rfl rfl ?_
  refine bk_if_eq (tgt := 60) dX6_hand_10 (by decide) (fun c10 => ?_) (fun c10 => ?_)
  · refine ev_iconst (v := nI 0) dX6_hand_60 (by decide) ?_
    exact ev_iret rfl (by decide) dX6_hand_61
  · replace h := h c10
    refine ev_aload_n dX6_hand_13 rfl rfl rfl ?_
    refine ev_iload_n dX6_hand_14 rfl rfl ?_
    have hs15 := h.1
    replace h := h.2
    refine bk_callV (As := [.int v3]) (st := []) (st2 := [.int (f_X6_isHouse rl v3)]) (M2 := hf (upd F 0 (nI 0)) rl lg sta sm par mv dep nwa th bf row wid siz cel mvd ned) ok_X6_isHouse lk_RX6_78 (ng_rok.of rfl rfl) (FL_g28 V) rfl rfl rfl rfl rfl rfl dX6_hand_15 (m_X6_isHouse V hs15) rfl rfl ?_
    refine bk_if_eq (tgt := 60) dX6_hand_18 (by decide) (fun c18 => ?_) (fun c18 => ?_)
    · refine ev_iconst (v := nI 0) dX6_hand_60 (by decide) ?_
      exact ev_iret rfl (by decide) dX6_hand_61
    · replace h := h c18
      refine ev_iload_n dX6_hand_21 rfl rfl ?_
      refine ev_iload_n dX6_hand_22 rfl rfl ?_
      refine bk_icmp_eq (tgt := 60) dX6_hand_23 (by decide) (fun c23 => ?_) (fun c23 => ?_)
      · refine ev_iconst (v := nI 0) dX6_hand_60 (by decide) ?_
        exact ev_iret rfl (by decide) dX6_hand_61
      · replace h := h c23
        refine ev_aload_n dX6_hand_26 rfl rfl rfl ?_
        refine ev_iload_n dX6_hand_27 rfl rfl ?_
        have hs28 := h.1
        replace h := h.2
        refine bk_callV (As := [.int v2]) (st := []) (st2 := [.int (f_X6_isNote rl v2)]) (M2 := hf (upd F 0 (nI 0)) rl lg sta sm par mv dep nwa th bf row wid siz cel mvd ned) ok_X6_isNote lk_RX6_162 (ng_rok.of rfl rfl) (FL_g28 V) rfl rfl rfl rfl rfl rfl dX6_hand_28 (m_X6_isNote V hs28) rfl rfl ?_
        refine bk_if_eq (tgt := 60) dX6_hand_31 (by decide) (fun c31 => ?_) (fun c31 => ?_)
        · refine ev_iconst (v := nI 0) dX6_hand_60 (by decide) ?_
          exact ev_iret rfl (by decide) dX6_hand_61
        · replace h := h c31
          refine ev_aload_n dX6_hand_34 rfl rfl rfl ?_
          refine ev_get 6 1 fl_RX6_9 (FL_g28 V) rfl dX6_hand_35 ?_
          refine ev_iconst (v := nI 5) dX6_hand_38 (by decide) ?_
          refine ev_iload_n dX6_hand_39 rfl rfl ?_
          refine ev_iadd dX6_hand_40 ?_
          refine ev_iload_n dX6_hand_41 rfl rfl ?_
          have hs42 := h.1
          replace h := h.2
          refine bk_callS (As := [.ref 29, .int ((nI 5) + v1), .int v2]) (st := []) (st2 := [.int (f_X6_has rl ((nI 5) + v1) v2)]) (M2 := hf (upd F 0 (nI 0)) rl lg sta sm par mv dep nwa th bf row wid siz cel mvd ned) ok_X6_has lk_RX6_165 (ng_rok.of rfl rfl) rfl rfl rfl rfl dX6_hand_42 (m_X6_has (FL_Rrl V) hs42) rfl rfl ?_
          refine bk_if_eq (tgt := 60) dX6_hand_45 (by decide) (fun c45 => ?_) (fun c45 => ?_)
          · refine ev_iconst (v := nI 0) dX6_hand_60 (by decide) ?_
            exact ev_iret rfl (by decide) dX6_hand_61
          · replace h := h c45
            refine ev_iload dX6_hand_48 rfl ?_
            refine ev_iconst (v := nI 1) dX6_hand_50 (by decide) ?_
            refine ev_sipush (v := nI 255) dX6_hand_51 (by decide) ?_
            refine bk_callS (As := [.int v4, .int (nI 1), .int (nI 255)]) (st := []) (st2 := [.int (f_X6_in v4 (nI 1) (nI 255))]) (M2 := hf (upd F 0 (nI 0)) rl lg sta sm par mv dep nwa th bf row wid siz cel mvd ned) ok_X6_in lk_RX6_67 (ng_rok.of rfl rfl) rfl rfl rfl rfl dX6_hand_54 (m_X6_in trivial) rfl rfl ?_
            refine bk_if_ne (tgt := 62) dX6_hand_57 (by decide) (fun c57 => ?_) (fun c57 => ?_)
            · replace h := h c57
              refine ev_aload_n dX6_hand_62 rfl rfl rfl ?_
              refine ev_aload_n dX6_hand_63 rfl rfl rfl ?_
              refine ev_get 6 1 fl_RX6_9 (FL_g28 V) rfl dX6_hand_64 ?_
              refine ev_iconst (v := nI 5) dX6_hand_67 (by decide) ?_
              refine ev_iload_n dX6_hand_68 rfl rfl ?_
              refine ev_iadd dX6_hand_69 ?_
              refine ev_bipush (v := nI 9) dX6_hand_70 (by decide) ?_
              refine ev_iconst (v := nI 4) dX6_hand_72 (by decide) ?_
              refine ev_iload_n dX6_hand_73 rfl rfl ?_
              refine ev_iload_n dX6_hand_74 rfl rfl ?_
              refine ev_iload dX6_hand_75 rfl ?_
              have hs77 := h
              refine bk_callV (As := [.ref 29, .int ((nI 5) + v1), .int (nI 9), .int (nI 4), .int v2, .int v3, .int v4]) (st := []) (st2 := []) (M2 := hf ((f_X6_posts rl (upd F 0 (nI 0)) ((nI 5) + v1) (nI 9) (nI 4) v2 v3 v4).2) ((f_X6_posts rl (upd F 0 (nI 0)) ((nI 5) + v1) (nI 9) (nI 4) v2 v3 v4).1) lg sta sm par mv dep nwa th bf row wid siz cel mvd ned) ok_X6_posts lk_RX6_106 (ng_rok.of rfl rfl) (FL_g28 V) rfl rfl rfl rfl rfl rfl dX6_hand_77 (m_X6_posts (FL_rl V sta sm par mv dep nwa th bf row wid siz cel mvd ned) hs77) rfl rfl ?_
              refine ev_iconst (v := nI 1) dX6_hand_80 (by decide) ?_
              exact ev_iret rfl (by decide) dX6_hand_81
            · refine ev_iconst (v := nI 0) dX6_hand_60 (by decide) ?_
              exact ev_iret rfl (by decide) dX6_hand_61
theorem m_X6_hand {G : ng_GG} {hf : (Nat → Int32) → (Nat → Int32) → (Nat → Int32) → (Nat → Int32) → (Nat → Int32) → (Nat → Int32) → (Nat → Int32) → (Nat → Int32) → (Nat → Int32) → (Nat → Int32) → (Nat → Int32) → (Nat → Int32) → (Nat → Int32) → (Nat → Int32) → (Nat → Int64) → (Nat → Int64) → (Nat → Int32) → ng_AM}  (V : ng_FL hf ) {F : Nat → Int32} {rl : Nat → Int32} {lg : Nat → Int32} {sta : Nat → Int32} {sm : Nat → Int32} {par : Nat → Int32} {mv : Nat → Int32} {dep : Nat → Int32} {nwa : Nat → Int32} {th : Nat → Int32} {bf : Nat → Int32} {row : Nat → Int32} {wid : Nat → Int32} {siz : Nat → Int32} {cel : Nat → Int64} {mvd : Nat → Int64} {ned : Nat → Int32} {v1 : Int32} {v2 : Int32} {v3 : Int32} {v4 : Int32} (h : s_X6_hand F rl v1 v2 v3 v4)  : ng_Ev G md_X6_hand 0 (ng_en 5 [.ref 28, .int v1, .int v2, .int v3, .int v4]) [] (hf F rl lg sta sm par mv dep nwa th bf row wid siz cel mvd ned) (K_X6_hand hf lg sta sm par mv dep nwa th bf row wid siz cel mvd ned (f_X6_hand F rl v1 v2 v3 v4)) := e_X6_hand V h 
def K_X6_fake (hf : (Nat → Int32) → (Nat → Int32) → (Nat → Int32) → (Nat → Int32) → (Nat → Int32) → (Nat → Int32) → (Nat → Int32) → (Nat → Int32) → (Nat → Int32) → (Nat → Int32) → (Nat → Int32) → (Nat → Int32) → (Nat → Int32) → (Nat → Int32) → (Nat → Int64) → (Nat → Int64) → (Nat → Int32) → ng_AM) (lg : Nat → Int32) (sta : Nat → Int32) (sm : Nat → Int32) (par : Nat → Int32) (mv : Nat → Int32) (dep : Nat → Int32) (nwa : Nat → Int32) (th : Nat → Int32) (bf : Nat → Int32) (row : Nat → Int32) (wid : Nat → Int32) (siz : Nat → Int32) (cel : Nat → Int64) (mvd : Nat → Int64) (ned : Nat → Int32) (r : (Nat → Int32) × (Nat → Int32) × Int32) : ng_RR := (some (.int (r.2.2)), hf (r.1) (r.2.1) lg sta sm par mv dep nwa th bf row wid siz cel mvd ned)
def f_X6_fake  (F : Nat → Int32) (rl : Nat → Int32) (v1 : Int32) (v2 : Int32) : (Nat → Int32) × (Nat → Int32) × Int32 := (if (f_X6_in v1 (nI 0) (nI 3)) = 0 then ((upd F 0 (nI 0)), rl, nI 0) else (if (f_X6_isNote rl v2) = 0 then ((upd F 0 (nI 0)), rl, nI 0) else (if (f_X6_has rl (nI 4) v2) = 0 then ((upd F 0 (nI 0)), rl, nI 0) else ((f_X6_posts rl (upd F 0 (nI 0)) (nI 4) v1 (nI 1) v2 (-1) (rl ((f_X6_browser v1) + (nI 2)).toNatClampNeg)).2, (f_X6_posts rl (upd F 0 (nI 0)) (nI 4) v1 (nI 1) v2 (-1) (rl ((f_X6_browser v1) + (nI 2)).toNatClampNeg)).1, nI 1))))
def s_X6_fake  (F : Nat → Int32) (rl : Nat → Int32) (v1 : Int32) (v2 : Int32) : Prop := (¬ (f_X6_in v1 (nI 0) (nI 3)) = 0 → (s_X6_isNote rl v2 ∧ (¬ (f_X6_isNote rl v2) = 0 → (s_X6_has rl (nI 4) v2 ∧ (¬ (f_X6_has rl (nI 4) v2) = 0 → (vp_in ((f_X6_browser v1) + (nI 2)) 527 ∧ s_X6_posts rl (upd F 0 (nI 0)) (nI 4) v1 (nI 1) v2 (-1) (rl ((f_X6_browser v1) + (nI 2)).toNatClampNeg)))))))
set_option maxRecDepth 100000 in
set_option maxHeartbeats 4000000 in
theorem e_X6_fake {G : ng_GG} {hf : (Nat → Int32) → (Nat → Int32) → (Nat → Int32) → (Nat → Int32) → (Nat → Int32) → (Nat → Int32) → (Nat → Int32) → (Nat → Int32) → (Nat → Int32) → (Nat → Int32) → (Nat → Int32) → (Nat → Int32) → (Nat → Int32) → (Nat → Int32) → (Nat → Int64) → (Nat → Int64) → (Nat → Int32) → ng_AM}  (V : ng_FL hf ) {F : Nat → Int32} {rl : Nat → Int32} {lg : Nat → Int32} {sta : Nat → Int32} {sm : Nat → Int32} {par : Nat → Int32} {mv : Nat → Int32} {dep : Nat → Int32} {nwa : Nat → Int32} {th : Nat → Int32} {bf : Nat → Int32} {row : Nat → Int32} {wid : Nat → Int32} {siz : Nat → Int32} {cel : Nat → Int64} {mvd : Nat → Int64} {ned : Nat → Int32}  {v1 : Int32} {v2 : Int32} (h : s_X6_fake  F rl v1 v2)  : ng_Ev G md_X6_fake 0 [some (.ref 28), some (.int v1), some (.int v2)] [] (hf F rl lg sta sm par mv dep nwa th bf row wid siz cel mvd ned) (K_X6_fake hf lg sta sm par mv dep nwa th bf row wid siz cel mvd ned (f_X6_fake  F rl v1 v2)) := by
  unfold s_X6_fake at h
  unfold f_X6_fake
  refine ev_aload_n dX6_fake_0 rfl rfl rfl ?_
  refine ev_iconst (v := nI 0) dX6_fake_1 (by decide) ?_
  refine ev_put 6 0 fs_RX6_64 (FL_g28 V) (ng_lt rfl) rfl (FL_s28 V (F' := (upd F 0 (nI 0)))) (ng_fit_i _) dX6_fake_2 ?_
  refine ev_iload_n dX6_fake_5 rfl rfl ?_
  refine ev_iconst (v := nI 0) dX6_fake_6 (by decide) ?_
  refine ev_iconst (v := nI 3) dX6_fake_7 (by decide) ?_
  refine bk_callS (As := [.int v1, .int (nI 0), .int (nI 3)]) (st := []) (st2 := [.int (f_X6_in v1 (nI 0) (nI 3))]) (M2 := hf (upd F 0 (nI 0)) rl lg sta sm par mv dep nwa th bf row wid siz cel mvd ned) ok_X6_in lk_RX6_67 (ng_rok.of rfl rfl) rfl rfl rfl rfl dX6_fake_8 (m_X6_in trivial) rfl rfl ?_
  refine bk_if_eq (tgt := 34) dX6_fake_11 (by decide) (fun c11 => ?_) (fun c11 => ?_)
  · refine ev_iconst (v := nI 0) dX6_fake_34 (by decide) ?_
    exact ev_iret rfl (by decide) dX6_fake_35
  · replace h := h c11
    refine ev_aload_n dX6_fake_14 rfl rfl rfl ?_
    refine ev_iload_n dX6_fake_15 rfl rfl ?_
    have hs16 := h.1
    replace h := h.2
    refine bk_callV (As := [.int v2]) (st := []) (st2 := [.int (f_X6_isNote rl v2)]) (M2 := hf (upd F 0 (nI 0)) rl lg sta sm par mv dep nwa th bf row wid siz cel mvd ned) ok_X6_isNote lk_RX6_162 (ng_rok.of rfl rfl) (FL_g28 V) rfl rfl rfl rfl rfl rfl dX6_fake_16 (m_X6_isNote V hs16) rfl rfl ?_
    refine bk_if_eq (tgt := 34) dX6_fake_19 (by decide) (fun c19 => ?_) (fun c19 => ?_)
    · refine ev_iconst (v := nI 0) dX6_fake_34 (by decide) ?_
      exact ev_iret rfl (by decide) dX6_fake_35
    · replace h := h c19
      refine ev_aload_n dX6_fake_22 rfl rfl rfl ?_
      refine ev_get 6 1 fl_RX6_9 (FL_g28 V) rfl dX6_fake_23 ?_
      refine ev_iconst (v := nI 4) dX6_fake_26 (by decide) ?_
      refine ev_iload_n dX6_fake_27 rfl rfl ?_
      have hs28 := h.1
      replace h := h.2
      refine bk_callS (As := [.ref 29, .int (nI 4), .int v2]) (st := []) (st2 := [.int (f_X6_has rl (nI 4) v2)]) (M2 := hf (upd F 0 (nI 0)) rl lg sta sm par mv dep nwa th bf row wid siz cel mvd ned) ok_X6_has lk_RX6_165 (ng_rok.of rfl rfl) rfl rfl rfl rfl dX6_fake_28 (m_X6_has (FL_Rrl V) hs28) rfl rfl ?_
      refine bk_if_ne (tgt := 36) dX6_fake_31 (by decide) (fun c31 => ?_) (fun c31 => ?_)
      · replace h := h c31
        refine ev_aload_n dX6_fake_36 rfl rfl rfl ?_
        refine ev_aload_n dX6_fake_37 rfl rfl rfl ?_
        refine ev_get 6 1 fl_RX6_9 (FL_g28 V) rfl dX6_fake_38 ?_
        refine ev_iconst (v := nI 4) dX6_fake_41 (by decide) ?_
        refine ev_iload_n dX6_fake_42 rfl rfl ?_
        refine ev_iconst (v := nI 1) dX6_fake_43 (by decide) ?_
        refine ev_iload_n dX6_fake_44 rfl rfl ?_
        refine ev_iconst (v := (-1)) dX6_fake_45 (by decide) ?_
        refine ev_aload_n dX6_fake_46 rfl rfl rfl ?_
        refine ev_get 6 1 fl_RX6_9 (FL_g28 V) rfl dX6_fake_47 ?_
        refine ev_iload_n dX6_fake_50 rfl rfl ?_
        refine bk_callS (As := [.int v1]) (st := [.ref 29, .int (-1), .int v2, .int (nI 1), .int v1, .int (nI 4), .ref 29, .ref 28]) (st2 := [.int (f_X6_browser v1), .ref 29, .int (-1), .int v2, .int (nI 1), .int v1, .int (nI 4), .ref 29, .ref 28]) (M2 := hf (upd F 0 (nI 0)) rl lg sta sm par mv dep nwa th bf row wid siz cel mvd ned) ok_X6_browser lk_RX6_82 (ng_rok.of rfl rfl) rfl rfl rfl rfl dX6_fake_51 (m_X6_browser trivial) rfl rfl ?_
        refine ev_iconst (v := nI 2) dX6_fake_54 (by decide) ?_
        refine ev_iadd dX6_fake_55 ?_
        have hi56 := h.1
        replace h := h.2
        refine ev_iald (FL_g29 V) hi56 dX6_fake_56 ?_
        have hs57 := h
        refine bk_callV (As := [.ref 29, .int (nI 4), .int v1, .int (nI 1), .int v2, .int (-1), .int (rl ((f_X6_browser v1) + (nI 2)).toNatClampNeg)]) (st := []) (st2 := []) (M2 := hf ((f_X6_posts rl (upd F 0 (nI 0)) (nI 4) v1 (nI 1) v2 (-1) (rl ((f_X6_browser v1) + (nI 2)).toNatClampNeg)).2) ((f_X6_posts rl (upd F 0 (nI 0)) (nI 4) v1 (nI 1) v2 (-1) (rl ((f_X6_browser v1) + (nI 2)).toNatClampNeg)).1) lg sta sm par mv dep nwa th bf row wid siz cel mvd ned) ok_X6_posts lk_RX6_106 (ng_rok.of rfl rfl) (FL_g28 V) rfl rfl rfl rfl rfl rfl dX6_fake_57 (m_X6_posts (FL_rl V sta sm par mv dep nwa th bf row wid siz cel mvd ned) hs57) rfl rfl ?_
        refine ev_iconst (v := nI 1) dX6_fake_60 (by decide) ?_
        exact ev_iret rfl (by decide) dX6_fake_61
      · refine ev_iconst (v := nI 0) dX6_fake_34 (by decide) ?_
        exact ev_iret rfl (by decide) dX6_fake_35
theorem m_X6_fake {G : ng_GG} {hf : (Nat → Int32) → (Nat → Int32) → (Nat → Int32) → (Nat → Int32) → (Nat → Int32) → (Nat → Int32) → (Nat → Int32) → (Nat → Int32) → (Nat → Int32) → (Nat → Int32) → (Nat → Int32) → (Nat → Int32) → (Nat → Int32) → (Nat → Int32) → (Nat → Int64) → (Nat → Int64) → (Nat → Int32) → ng_AM}  (V : ng_FL hf ) {F : Nat → Int32} {rl : Nat → Int32} {lg : Nat → Int32} {sta : Nat → Int32} {sm : Nat → Int32} {par : Nat → Int32} {mv : Nat → Int32} {dep : Nat → Int32} {nwa : Nat → Int32} {th : Nat → Int32} {bf : Nat → Int32} {row : Nat → Int32} {wid : Nat → Int32} {siz : Nat → Int32} {cel : Nat → Int64} {mvd : Nat → Int64} {ned : Nat → Int32} {v1 : Int32} {v2 : Int32} (h : s_X6_fake F rl v1 v2)  : ng_Ev G md_X6_fake 0 (ng_en 3 [.ref 28, .int v1, .int v2]) [] (hf F rl lg sta sm par mv dep nwa th bf row wid siz cel mvd ned) (K_X6_fake hf lg sta sm par mv dep nwa th bf row wid siz cel mvd ned (f_X6_fake F rl v1 v2)) := e_X6_fake V h 
def K_X6_deliver (hf : (Nat → Int32) → (Nat → Int32) → (Nat → Int32) → (Nat → Int32) → (Nat → Int32) → (Nat → Int32) → (Nat → Int32) → (Nat → Int32) → (Nat → Int32) → (Nat → Int32) → (Nat → Int32) → (Nat → Int32) → (Nat → Int32) → (Nat → Int32) → (Nat → Int64) → (Nat → Int64) → (Nat → Int32) → ng_AM) (sta : Nat → Int32) (sm : Nat → Int32) (par : Nat → Int32) (mv : Nat → Int32) (dep : Nat → Int32) (nwa : Nat → Int32) (th : Nat → Int32) (bf : Nat → Int32) (row : Nat → Int32) (wid : Nat → Int32) (siz : Nat → Int32) (cel : Nat → Int64) (mvd : Nat → Int64) (ned : Nat → Int32) (r : (Nat → Int32) × (Nat → Int32) × (Nat → Int32) × Int32) : ng_RR := (some (.int (r.2.2.2)), hf (r.1) (r.2.1) (r.2.2.1) sta sm par mv dep nwa th bf row wid siz cel mvd ned)
def f_X6_deliver  (F : Nat → Int32) (rl : Nat → Int32) (lg : Nat → Int32) (v1 : Int32) : (Nat → Int32) × (Nat → Int32) × (Nat → Int32) × Int32 := (if (f_X6_in v1 (nI 0) ((rl (nI 14).toNatClampNeg) - (nI 1))) = 0 then ((upd F 0 (nI 0)), rl, lg, (-1)) else ((f_X6_comes rl (upd F 0 (nI 0)) lg v1).2.1, (f_X6_comes rl (upd F 0 (nI 0)) lg v1).1, (f_X6_comes rl (upd F 0 (nI 0)) lg v1).2.2.1, (f_X6_comes rl (upd F 0 (nI 0)) lg v1).2.2.2))
def s_X6_deliver  (F : Nat → Int32) (rl : Nat → Int32) (lg : Nat → Int32) (v1 : Int32) : Prop := (¬ (f_X6_in v1 (nI 0) ((rl (nI 14).toNatClampNeg) - (nI 1))) = 0 → s_X6_comes rl (upd F 0 (nI 0)) lg v1)
set_option maxRecDepth 100000 in
set_option maxHeartbeats 4000000 in
theorem e_X6_deliver {G : ng_GG} {hf : (Nat → Int32) → (Nat → Int32) → (Nat → Int32) → (Nat → Int32) → (Nat → Int32) → (Nat → Int32) → (Nat → Int32) → (Nat → Int32) → (Nat → Int32) → (Nat → Int32) → (Nat → Int32) → (Nat → Int32) → (Nat → Int32) → (Nat → Int32) → (Nat → Int64) → (Nat → Int64) → (Nat → Int32) → ng_AM}  (V : ng_FL hf ) {F : Nat → Int32} {rl : Nat → Int32} {lg : Nat → Int32} {sta : Nat → Int32} {sm : Nat → Int32} {par : Nat → Int32} {mv : Nat → Int32} {dep : Nat → Int32} {nwa : Nat → Int32} {th : Nat → Int32} {bf : Nat → Int32} {row : Nat → Int32} {wid : Nat → Int32} {siz : Nat → Int32} {cel : Nat → Int64} {mvd : Nat → Int64} {ned : Nat → Int32}  {v1 : Int32} (h : s_X6_deliver  F rl lg v1)  : ng_Ev G md_X6_deliver 0 [some (.ref 28), some (.int v1)] [] (hf F rl lg sta sm par mv dep nwa th bf row wid siz cel mvd ned) (K_X6_deliver hf sta sm par mv dep nwa th bf row wid siz cel mvd ned (f_X6_deliver  F rl lg v1)) := by
  unfold s_X6_deliver at h
  unfold f_X6_deliver
  refine ev_aload_n dX6_deliver_0 rfl rfl rfl ?_
  refine ev_iconst (v := nI 0) dX6_deliver_1 (by decide) ?_
  refine ev_put 6 0 fs_RX6_64 (FL_g28 V) (ng_lt rfl) rfl (FL_s28 V (F' := (upd F 0 (nI 0)))) (ng_fit_i _) dX6_deliver_2 ?_
  refine ev_iload_n dX6_deliver_5 rfl rfl ?_
  refine ev_iconst (v := nI 0) dX6_deliver_6 (by decide) ?_
  refine ev_aload_n dX6_deliver_7 rfl rfl rfl ?_
  refine ev_get 6 1 fl_RX6_9 (FL_g28 V) rfl dX6_deliver_8 ?_
  refine ev_bipush (v := nI 14) dX6_deliver_11 (by decide) ?_
  refine ev_iald (FL_g29 V) (vp_in_nI (by decide) (by decide)) dX6_deliver_13 ?_
  refine ev_iconst (v := nI 1) dX6_deliver_14 (by decide) ?_
  refine ev_isub dX6_deliver_15 ?_
  refine bk_callS (As := [.int v1, .int (nI 0), .int ((rl (nI 14).toNatClampNeg) - (nI 1))]) (st := []) (st2 := [.int (f_X6_in v1 (nI 0) ((rl (nI 14).toNatClampNeg) - (nI 1)))]) (M2 := hf (upd F 0 (nI 0)) rl lg sta sm par mv dep nwa th bf row wid siz cel mvd ned) ok_X6_in lk_RX6_67 (ng_rok.of rfl rfl) rfl rfl rfl rfl dX6_deliver_16 (m_X6_in trivial) rfl rfl ?_
  refine bk_if_eq (tgt := 34) dX6_deliver_19 (by decide) (fun c19 => ?_) (fun c19 => ?_)
  · refine ev_iconst (v := (-1)) dX6_deliver_34 (by decide) ?_
    exact ev_iret rfl rfl dX6_deliver_35
  · replace h := h c19
    refine ev_aload_n dX6_deliver_22 rfl rfl rfl ?_
    refine ev_aload_n dX6_deliver_23 rfl rfl rfl ?_
    refine ev_get 6 1 fl_RX6_9 (FL_g28 V) rfl dX6_deliver_24 ?_
    refine ev_iload_n dX6_deliver_27 rfl rfl ?_
    have hs28 := h
    refine bk_callV (As := [.ref 29, .int v1]) (st := []) (st2 := [.int ((f_X6_comes rl (upd F 0 (nI 0)) lg v1).2.2.2)]) (M2 := hf ((f_X6_comes rl (upd F 0 (nI 0)) lg v1).2.1) ((f_X6_comes rl (upd F 0 (nI 0)) lg v1).1) ((f_X6_comes rl (upd F 0 (nI 0)) lg v1).2.2.1) sta sm par mv dep nwa th bf row wid siz cel mvd ned) ok_X6_comes lk_RX6_155 (ng_rok.of rfl rfl) (FL_g28 V) rfl rfl rfl rfl rfl rfl dX6_deliver_28 (m_X6_comes (FL_rl V sta sm par mv dep nwa th bf row wid siz cel mvd ned) hs28) rfl rfl ?_
    refine ev_goto (tgt := 35) dX6_deliver_31 (by decide) ?_
    exact ev_iret rfl rfl dX6_deliver_35
theorem m_X6_deliver {G : ng_GG} {hf : (Nat → Int32) → (Nat → Int32) → (Nat → Int32) → (Nat → Int32) → (Nat → Int32) → (Nat → Int32) → (Nat → Int32) → (Nat → Int32) → (Nat → Int32) → (Nat → Int32) → (Nat → Int32) → (Nat → Int32) → (Nat → Int32) → (Nat → Int32) → (Nat → Int64) → (Nat → Int64) → (Nat → Int32) → ng_AM}  (V : ng_FL hf ) {F : Nat → Int32} {rl : Nat → Int32} {lg : Nat → Int32} {sta : Nat → Int32} {sm : Nat → Int32} {par : Nat → Int32} {mv : Nat → Int32} {dep : Nat → Int32} {nwa : Nat → Int32} {th : Nat → Int32} {bf : Nat → Int32} {row : Nat → Int32} {wid : Nat → Int32} {siz : Nat → Int32} {cel : Nat → Int64} {mvd : Nat → Int64} {ned : Nat → Int32} {v1 : Int32} (h : s_X6_deliver F rl lg v1)  : ng_Ev G md_X6_deliver 0 (ng_en 2 [.ref 28, .int v1]) [] (hf F rl lg sta sm par mv dep nwa th bf row wid siz cel mvd ned) (K_X6_deliver hf sta sm par mv dep nwa th bf row wid siz cel mvd ned (f_X6_deliver F rl lg v1)) := e_X6_deliver V h 
def K_X6_copy (hf : (Nat → Int32) → (Nat → Int32) → (Nat → Int32) → (Nat → Int32) → (Nat → Int32) → (Nat → Int32) → (Nat → Int32) → (Nat → Int32) → (Nat → Int32) → (Nat → Int32) → (Nat → Int32) → (Nat → Int32) → (Nat → Int32) → (Nat → Int32) → (Nat → Int64) → (Nat → Int64) → (Nat → Int32) → ng_AM) (lg : Nat → Int32) (sta : Nat → Int32) (sm : Nat → Int32) (par : Nat → Int32) (mv : Nat → Int32) (dep : Nat → Int32) (nwa : Nat → Int32) (th : Nat → Int32) (bf : Nat → Int32) (row : Nat → Int32) (wid : Nat → Int32) (siz : Nat → Int32) (cel : Nat → Int64) (mvd : Nat → Int64) (ned : Nat → Int32) (r : (Nat → Int32) × (Nat → Int32) × Int32) : ng_RR := (some (.int (r.2.2)), hf (r.1) (r.2.1) lg sta sm par mv dep nwa th bf row wid siz cel mvd ned)
def f_X6_copy  (F : Nat → Int32) (rl : Nat → Int32) (v1 : Int32) : (Nat → Int32) × (Nat → Int32) × Int32 := (if (f_X6_in v1 (nI 0) ((rl (nI 14).toNatClampNeg) - (nI 1))) = 0 then ((upd F 0 (nI 0)), rl, nI 0) else (if (rl (nI 14).toNatClampNeg) = (nI 12) then ((upd F 0 (nI 0)), rl, nI 0) else ((f_X6_posts rl (upd F 0 (nI 0)) (rl (f_X6_letter v1).toNatClampNeg) (rl ((f_X6_letter v1) + (nI 1)).toNatClampNeg) (rl ((f_X6_letter v1) + (nI 2)).toNatClampNeg) (rl ((f_X6_letter v1) + (nI 3)).toNatClampNeg) (rl ((f_X6_letter v1) + (nI 4)).toNatClampNeg) (rl ((f_X6_letter v1) + (nI 5)).toNatClampNeg)).2, (f_X6_posts rl (upd F 0 (nI 0)) (rl (f_X6_letter v1).toNatClampNeg) (rl ((f_X6_letter v1) + (nI 1)).toNatClampNeg) (rl ((f_X6_letter v1) + (nI 2)).toNatClampNeg) (rl ((f_X6_letter v1) + (nI 3)).toNatClampNeg) (rl ((f_X6_letter v1) + (nI 4)).toNatClampNeg) (rl ((f_X6_letter v1) + (nI 5)).toNatClampNeg)).1, nI 1)))
def s_X6_copy  (F : Nat → Int32) (rl : Nat → Int32) (v1 : Int32) : Prop := (¬ (f_X6_in v1 (nI 0) ((rl (nI 14).toNatClampNeg) - (nI 1))) = 0 → (¬ (rl (nI 14).toNatClampNeg) = (nI 12) → (vp_in (f_X6_letter v1) 527 ∧ (vp_in ((f_X6_letter v1) + (nI 1)) 527 ∧ (vp_in ((f_X6_letter v1) + (nI 2)) 527 ∧ (vp_in ((f_X6_letter v1) + (nI 3)) 527 ∧ (vp_in ((f_X6_letter v1) + (nI 4)) 527 ∧ (vp_in ((f_X6_letter v1) + (nI 5)) 527 ∧ s_X6_posts rl (upd F 0 (nI 0)) (rl (f_X6_letter v1).toNatClampNeg) (rl ((f_X6_letter v1) + (nI 1)).toNatClampNeg) (rl ((f_X6_letter v1) + (nI 2)).toNatClampNeg) (rl ((f_X6_letter v1) + (nI 3)).toNatClampNeg) (rl ((f_X6_letter v1) + (nI 4)).toNatClampNeg) (rl ((f_X6_letter v1) + (nI 5)).toNatClampNeg)))))))))
set_option maxRecDepth 100000 in
set_option maxHeartbeats 4000000 in
theorem e_X6_copy {G : ng_GG} {hf : (Nat → Int32) → (Nat → Int32) → (Nat → Int32) → (Nat → Int32) → (Nat → Int32) → (Nat → Int32) → (Nat → Int32) → (Nat → Int32) → (Nat → Int32) → (Nat → Int32) → (Nat → Int32) → (Nat → Int32) → (Nat → Int32) → (Nat → Int32) → (Nat → Int64) → (Nat → Int64) → (Nat → Int32) → ng_AM}  (V : ng_FL hf ) {F : Nat → Int32} {rl : Nat → Int32} {lg : Nat → Int32} {sta : Nat → Int32} {sm : Nat → Int32} {par : Nat → Int32} {mv : Nat → Int32} {dep : Nat → Int32} {nwa : Nat → Int32} {th : Nat → Int32} {bf : Nat → Int32} {row : Nat → Int32} {wid : Nat → Int32} {siz : Nat → Int32} {cel : Nat → Int64} {mvd : Nat → Int64} {ned : Nat → Int32}  {v1 : Int32} (h : s_X6_copy  F rl v1)  : ng_Ev G md_X6_copy 0 [some (.ref 28), some (.int v1), none] [] (hf F rl lg sta sm par mv dep nwa th bf row wid siz cel mvd ned) (K_X6_copy hf lg sta sm par mv dep nwa th bf row wid siz cel mvd ned (f_X6_copy  F rl v1)) := by
  unfold s_X6_copy at h
  unfold f_X6_copy
  refine ev_aload_n dX6_copy_0 rfl rfl rfl ?_
  refine ev_iconst (v := nI 0) dX6_copy_1 (by decide) ?_
  refine ev_put 6 0 fs_RX6_64 (FL_g28 V) (ng_lt rfl) rfl (FL_s28 V (F' := (upd F 0 (nI 0)))) (ng_fit_i _) dX6_copy_2 ?_
  refine ev_iload_n dX6_copy_5 rfl rfl ?_
  refine ev_iconst (v := nI 0) dX6_copy_6 (by decide) ?_
  refine ev_aload_n dX6_copy_7 rfl rfl rfl ?_
  refine ev_get 6 1 fl_RX6_9 (FL_g28 V) rfl dX6_copy_8 ?_
  refine ev_bipush (v := nI 14) dX6_copy_11 (by decide) ?_
  refine ev_iald (FL_g29 V) (vp_in_nI (by decide) (by decide)) dX6_copy_13 ?_
  refine ev_iconst (v := nI 1) dX6_copy_14 (by decide) ?_
  refine ev_isub dX6_copy_15 ?_
  refine bk_callS (As := [.int v1, .int (nI 0), .int ((rl (nI 14).toNatClampNeg) - (nI 1))]) (st := []) (st2 := [.int (f_X6_in v1 (nI 0) ((rl (nI 14).toNatClampNeg) - (nI 1)))]) (M2 := hf (upd F 0 (nI 0)) rl lg sta sm par mv dep nwa th bf row wid siz cel mvd ned) ok_X6_in lk_RX6_67 (ng_rok.of rfl rfl) rfl rfl rfl rfl dX6_copy_16 (m_X6_in trivial) rfl rfl ?_
  refine bk_if_eq (tgt := 34) dX6_copy_19 (by decide) (fun c19 => ?_) (fun c19 => ?_)
  · refine ev_iconst (v := nI 0) dX6_copy_34 (by decide) ?_
    exact ev_iret rfl (by decide) dX6_copy_35
  · replace h := h c19
    refine ev_aload_n dX6_copy_22 rfl rfl rfl ?_
    refine ev_get 6 1 fl_RX6_9 (FL_g28 V) rfl dX6_copy_23 ?_
    refine ev_bipush (v := nI 14) dX6_copy_26 (by decide) ?_
    refine ev_iald (FL_g29 V) (vp_in_nI (by decide) (by decide)) dX6_copy_28 ?_
    refine ev_bipush (v := nI 12) dX6_copy_29 (by decide) ?_
    refine bk_icmp_ne (tgt := 36) dX6_copy_31 (by decide) (fun c31 => ?_) (fun c31 => ?_)
    · replace h := h c31
      refine ev_iload_n dX6_copy_36 rfl rfl ?_
      refine bk_callS (As := [.int v1]) (st := []) (st2 := [.int (f_X6_letter v1)]) (M2 := hf (upd F 0 (nI 0)) rl lg sta sm par mv dep nwa th bf row wid siz cel mvd ned) ok_X6_letter lk_RX6_99 (ng_rok.of rfl rfl) rfl rfl rfl rfl dX6_copy_37 (m_X6_letter trivial) rfl rfl ?_
      refine ev_istore_n (L' := [some (.ref 28), some (.int v1), some (.int (f_X6_letter v1))]) dX6_copy_40 rfl (ng_lt rfl) rfl ?_
      refine ev_aload_n dX6_copy_41 rfl rfl rfl ?_
      refine ev_aload_n dX6_copy_42 rfl rfl rfl ?_
      refine ev_get 6 1 fl_RX6_9 (FL_g28 V) rfl dX6_copy_43 ?_
      refine ev_aload_n dX6_copy_46 rfl rfl rfl ?_
      refine ev_get 6 1 fl_RX6_9 (FL_g28 V) rfl dX6_copy_47 ?_
      refine ev_iload_n dX6_copy_50 rfl rfl ?_
      have hi51 := h.1
      replace h := h.2
      refine ev_iald (FL_g29 V) hi51 dX6_copy_51 ?_
      refine ev_aload_n dX6_copy_52 rfl rfl rfl ?_
      refine ev_get 6 1 fl_RX6_9 (FL_g28 V) rfl dX6_copy_53 ?_
      refine ev_iload_n dX6_copy_56 rfl rfl ?_
      refine ev_iconst (v := nI 1) dX6_copy_57 (by decide) ?_
      refine ev_iadd dX6_copy_58 ?_
      have hi59 := h.1
      replace h := h.2
      refine ev_iald (FL_g29 V) hi59 dX6_copy_59 ?_
      refine ev_aload_n dX6_copy_60 rfl rfl rfl ?_
      refine ev_get 6 1 fl_RX6_9 (FL_g28 V) rfl dX6_copy_61 ?_
      refine ev_iload_n dX6_copy_64 rfl rfl ?_
      refine ev_iconst (v := nI 2) dX6_copy_65 (by decide) ?_
      refine ev_iadd dX6_copy_66 ?_
      have hi67 := h.1
      replace h := h.2
      refine ev_iald (FL_g29 V) hi67 dX6_copy_67 ?_
      refine ev_aload_n dX6_copy_68 rfl rfl rfl ?_
      refine ev_get 6 1 fl_RX6_9 (FL_g28 V) rfl dX6_copy_69 ?_
      refine ev_iload_n dX6_copy_72 rfl rfl ?_
      refine ev_iconst (v := nI 3) dX6_copy_73 (by decide) ?_
      refine ev_iadd dX6_copy_74 ?_
      have hi75 := h.1
      replace h := h.2
      refine ev_iald (FL_g29 V) hi75 dX6_copy_75 ?_
      refine ev_aload_n dX6_copy_76 rfl rfl rfl ?_
      refine ev_get 6 1 fl_RX6_9 (FL_g28 V) rfl dX6_copy_77 ?_
      refine ev_iload_n dX6_copy_80 rfl rfl ?_
      refine ev_iconst (v := nI 4) dX6_copy_81 (by decide) ?_
      refine ev_iadd dX6_copy_82 ?_
      have hi83 := h.1
      replace h := h.2
      refine ev_iald (FL_g29 V) hi83 dX6_copy_83 ?_
      refine ev_aload_n dX6_copy_84 rfl rfl rfl ?_
      refine ev_get 6 1 fl_RX6_9 (FL_g28 V) rfl dX6_copy_85 ?_
      refine ev_iload_n dX6_copy_88 rfl rfl ?_
      refine ev_iconst (v := nI 5) dX6_copy_89 (by decide) ?_
      refine ev_iadd dX6_copy_90 ?_
      have hi91 := h.1
      replace h := h.2
      refine ev_iald (FL_g29 V) hi91 dX6_copy_91 ?_
      have hs92 := h
      refine bk_callV (As := [.ref 29, .int (rl (f_X6_letter v1).toNatClampNeg), .int (rl ((f_X6_letter v1) + (nI 1)).toNatClampNeg), .int (rl ((f_X6_letter v1) + (nI 2)).toNatClampNeg), .int (rl ((f_X6_letter v1) + (nI 3)).toNatClampNeg), .int (rl ((f_X6_letter v1) + (nI 4)).toNatClampNeg), .int (rl ((f_X6_letter v1) + (nI 5)).toNatClampNeg)]) (st := []) (st2 := []) (M2 := hf ((f_X6_posts rl (upd F 0 (nI 0)) (rl (f_X6_letter v1).toNatClampNeg) (rl ((f_X6_letter v1) + (nI 1)).toNatClampNeg) (rl ((f_X6_letter v1) + (nI 2)).toNatClampNeg) (rl ((f_X6_letter v1) + (nI 3)).toNatClampNeg) (rl ((f_X6_letter v1) + (nI 4)).toNatClampNeg) (rl ((f_X6_letter v1) + (nI 5)).toNatClampNeg)).2) ((f_X6_posts rl (upd F 0 (nI 0)) (rl (f_X6_letter v1).toNatClampNeg) (rl ((f_X6_letter v1) + (nI 1)).toNatClampNeg) (rl ((f_X6_letter v1) + (nI 2)).toNatClampNeg) (rl ((f_X6_letter v1) + (nI 3)).toNatClampNeg) (rl ((f_X6_letter v1) + (nI 4)).toNatClampNeg) (rl ((f_X6_letter v1) + (nI 5)).toNatClampNeg)).1) lg sta sm par mv dep nwa th bf row wid siz cel mvd ned) ok_X6_posts lk_RX6_106 (ng_rok.of rfl rfl) (FL_g28 V) rfl rfl rfl rfl rfl rfl dX6_copy_92 (m_X6_posts (FL_rl V sta sm par mv dep nwa th bf row wid siz cel mvd ned) hs92) rfl rfl ?_
      refine ev_iconst (v := nI 1) dX6_copy_95 (by decide) ?_
      exact ev_iret rfl (by decide) dX6_copy_96
    · refine ev_iconst (v := nI 0) dX6_copy_34 (by decide) ?_
      exact ev_iret rfl (by decide) dX6_copy_35
theorem m_X6_copy {G : ng_GG} {hf : (Nat → Int32) → (Nat → Int32) → (Nat → Int32) → (Nat → Int32) → (Nat → Int32) → (Nat → Int32) → (Nat → Int32) → (Nat → Int32) → (Nat → Int32) → (Nat → Int32) → (Nat → Int32) → (Nat → Int32) → (Nat → Int32) → (Nat → Int32) → (Nat → Int64) → (Nat → Int64) → (Nat → Int32) → ng_AM}  (V : ng_FL hf ) {F : Nat → Int32} {rl : Nat → Int32} {lg : Nat → Int32} {sta : Nat → Int32} {sm : Nat → Int32} {par : Nat → Int32} {mv : Nat → Int32} {dep : Nat → Int32} {nwa : Nat → Int32} {th : Nat → Int32} {bf : Nat → Int32} {row : Nat → Int32} {wid : Nat → Int32} {siz : Nat → Int32} {cel : Nat → Int64} {mvd : Nat → Int64} {ned : Nat → Int32} {v1 : Int32} (h : s_X6_copy F rl v1)  : ng_Ev G md_X6_copy 0 (ng_en 3 [.ref 28, .int v1]) [] (hf F rl lg sta sm par mv dep nwa th bf row wid siz cel mvd ned) (K_X6_copy hf lg sta sm par mv dep nwa th bf row wid siz cel mvd ned (f_X6_copy F rl v1)) := e_X6_copy V h 
def K_X6_lose (hf : (Nat → Int32) → (Nat → Int32) → (Nat → Int32) → (Nat → Int32) → (Nat → Int32) → (Nat → Int32) → (Nat → Int32) → (Nat → Int32) → (Nat → Int32) → (Nat → Int32) → (Nat → Int32) → (Nat → Int32) → (Nat → Int32) → (Nat → Int32) → (Nat → Int64) → (Nat → Int64) → (Nat → Int32) → ng_AM) (lg : Nat → Int32) (sta : Nat → Int32) (sm : Nat → Int32) (par : Nat → Int32) (mv : Nat → Int32) (dep : Nat → Int32) (nwa : Nat → Int32) (th : Nat → Int32) (bf : Nat → Int32) (row : Nat → Int32) (wid : Nat → Int32) (siz : Nat → Int32) (cel : Nat → Int64) (mvd : Nat → Int64) (ned : Nat → Int32) (r : (Nat → Int32) × (Nat → Int32) × Int32) : ng_RR := (some (.int (r.2.2)), hf (r.1) (r.2.1) lg sta sm par mv dep nwa th bf row wid siz cel mvd ned)
def f_X6_lose  (F : Nat → Int32) (rl : Nat → Int32) (v1 : Int32) : (Nat → Int32) × (Nat → Int32) × Int32 := (if (f_X6_in v1 (nI 0) ((rl (nI 14).toNatClampNeg) - (nI 1))) = 0 then ((upd F 0 (nI 0)), rl, nI 0) else ((upd F 0 (nI 0)), (f_X6_removes rl v1), nI 1))
def s_X6_lose  (F : Nat → Int32) (rl : Nat → Int32) (v1 : Int32) : Prop := (¬ (f_X6_in v1 (nI 0) ((rl (nI 14).toNatClampNeg) - (nI 1))) = 0 → s_X6_removes rl v1)
set_option maxRecDepth 100000 in
set_option maxHeartbeats 4000000 in
theorem e_X6_lose {G : ng_GG} {hf : (Nat → Int32) → (Nat → Int32) → (Nat → Int32) → (Nat → Int32) → (Nat → Int32) → (Nat → Int32) → (Nat → Int32) → (Nat → Int32) → (Nat → Int32) → (Nat → Int32) → (Nat → Int32) → (Nat → Int32) → (Nat → Int32) → (Nat → Int32) → (Nat → Int64) → (Nat → Int64) → (Nat → Int32) → ng_AM}  (V : ng_FL hf ) {F : Nat → Int32} {rl : Nat → Int32} {lg : Nat → Int32} {sta : Nat → Int32} {sm : Nat → Int32} {par : Nat → Int32} {mv : Nat → Int32} {dep : Nat → Int32} {nwa : Nat → Int32} {th : Nat → Int32} {bf : Nat → Int32} {row : Nat → Int32} {wid : Nat → Int32} {siz : Nat → Int32} {cel : Nat → Int64} {mvd : Nat → Int64} {ned : Nat → Int32}  {v1 : Int32} (h : s_X6_lose  F rl v1)  : ng_Ev G md_X6_lose 0 [some (.ref 28), some (.int v1)] [] (hf F rl lg sta sm par mv dep nwa th bf row wid siz cel mvd ned) (K_X6_lose hf lg sta sm par mv dep nwa th bf row wid siz cel mvd ned (f_X6_lose  F rl v1)) := by
  unfold s_X6_lose at h
  unfold f_X6_lose
  refine ev_aload_n dX6_lose_0 rfl rfl rfl ?_
  refine ev_iconst (v := nI 0) dX6_lose_1 (by decide) ?_
  refine ev_put 6 0 fs_RX6_64 (FL_g28 V) (ng_lt rfl) rfl (FL_s28 V (F' := (upd F 0 (nI 0)))) (ng_fit_i _) dX6_lose_2 ?_
  refine ev_iload_n dX6_lose_5 rfl rfl ?_
  refine ev_iconst (v := nI 0) dX6_lose_6 (by decide) ?_
  refine ev_aload_n dX6_lose_7 rfl rfl rfl ?_
  refine ev_get 6 1 fl_RX6_9 (FL_g28 V) rfl dX6_lose_8 ?_
  refine ev_bipush (v := nI 14) dX6_lose_11 (by decide) ?_
  refine ev_iald (FL_g29 V) (vp_in_nI (by decide) (by decide)) dX6_lose_13 ?_
  refine ev_iconst (v := nI 1) dX6_lose_14 (by decide) ?_
  refine ev_isub dX6_lose_15 ?_
  refine bk_callS (As := [.int v1, .int (nI 0), .int ((rl (nI 14).toNatClampNeg) - (nI 1))]) (st := []) (st2 := [.int (f_X6_in v1 (nI 0) ((rl (nI 14).toNatClampNeg) - (nI 1)))]) (M2 := hf (upd F 0 (nI 0)) rl lg sta sm par mv dep nwa th bf row wid siz cel mvd ned) ok_X6_in lk_RX6_67 (ng_rok.of rfl rfl) rfl rfl rfl rfl dX6_lose_16 (m_X6_in trivial) rfl rfl ?_
  refine bk_if_ne (tgt := 24) dX6_lose_19 (by decide) (fun c19 => ?_) (fun c19 => ?_)
  · replace h := h c19
    refine ev_aload_n dX6_lose_24 rfl rfl rfl ?_
    refine ev_get 6 1 fl_RX6_9 (FL_g28 V) rfl dX6_lose_25 ?_
    refine ev_iload_n dX6_lose_28 rfl rfl ?_
    have hs29 := h
    refine bk_callS (As := [.ref 29, .int v1]) (st := []) (st2 := []) (M2 := hf (upd F 0 (nI 0)) (f_X6_removes rl v1) lg sta sm par mv dep nwa th bf row wid siz cel mvd ned) ok_X6_removes lk_RX6_131 (ng_rok.of rfl rfl) rfl rfl rfl rfl dX6_lose_29 (m_X6_removes (FL_rl V sta sm par mv dep nwa th bf row wid siz cel mvd ned) hs29) rfl rfl ?_
    refine ev_iconst (v := nI 1) dX6_lose_32 (by decide) ?_
    exact ev_iret rfl (by decide) dX6_lose_33
  · refine ev_iconst (v := nI 0) dX6_lose_22 (by decide) ?_
    exact ev_iret rfl (by decide) dX6_lose_23
theorem m_X6_lose {G : ng_GG} {hf : (Nat → Int32) → (Nat → Int32) → (Nat → Int32) → (Nat → Int32) → (Nat → Int32) → (Nat → Int32) → (Nat → Int32) → (Nat → Int32) → (Nat → Int32) → (Nat → Int32) → (Nat → Int32) → (Nat → Int32) → (Nat → Int32) → (Nat → Int32) → (Nat → Int64) → (Nat → Int64) → (Nat → Int32) → ng_AM}  (V : ng_FL hf ) {F : Nat → Int32} {rl : Nat → Int32} {lg : Nat → Int32} {sta : Nat → Int32} {sm : Nat → Int32} {par : Nat → Int32} {mv : Nat → Int32} {dep : Nat → Int32} {nwa : Nat → Int32} {th : Nat → Int32} {bf : Nat → Int32} {row : Nat → Int32} {wid : Nat → Int32} {siz : Nat → Int32} {cel : Nat → Int64} {mvd : Nat → Int64} {ned : Nat → Int32} {v1 : Int32} (h : s_X6_lose F rl v1)  : ng_Ev G md_X6_lose 0 (ng_en 2 [.ref 28, .int v1]) [] (hf F rl lg sta sm par mv dep nwa th bf row wid siz cel mvd ned) (K_X6_lose hf lg sta sm par mv dep nwa th bf row wid siz cel mvd ned (f_X6_lose F rl v1)) := e_X6_lose V h 
def K_X6_tick (hf : (Nat → Int32) → (Nat → Int32) → (Nat → Int32) → (Nat → Int32) → (Nat → Int32) → (Nat → Int32) → (Nat → Int32) → (Nat → Int32) → (Nat → Int32) → (Nat → Int32) → (Nat → Int32) → (Nat → Int32) → (Nat → Int32) → (Nat → Int32) → (Nat → Int64) → (Nat → Int64) → (Nat → Int32) → ng_AM) (sta : Nat → Int32) (sm : Nat → Int32) (par : Nat → Int32) (mv : Nat → Int32) (dep : Nat → Int32) (nwa : Nat → Int32) (th : Nat → Int32) (bf : Nat → Int32) (row : Nat → Int32) (wid : Nat → Int32) (siz : Nat → Int32) (cel : Nat → Int64) (mvd : Nat → Int64) (ned : Nat → Int32) (r : (Nat → Int32) × (Nat → Int32) × (Nat → Int32) × Int32) : ng_RR := (some (.int (r.2.2.2)), hf (r.1) (r.2.1) (r.2.2.1) sta sm par mv dep nwa th bf row wid siz cel mvd ned)
def f_X6_tick_51 (kk38 : (Nat → Int32) → (Nat → Int32) → (Nat → Int32) → Int32 → Int32 → ((Nat → Int32) × (Nat → Int32) × (Nat → Int32) × Int32)) (F : Nat → Int32) (rl : Nat → Int32) (lg : Nat → Int32) (v1 : Int32) (v2 : Int32) : (Nat → Int32) × (Nat → Int32) × (Nat → Int32) × Int32 := kk38 F rl lg v1 (v2 + nI 1)
def s_X6_tick_51 (sk38 : (Nat → Int32) → (Nat → Int32) → (Nat → Int32) → Int32 → Int32 → Prop) (F : Nat → Int32) (rl : Nat → Int32) (lg : Nat → Int32) (v1 : Int32) (v2 : Int32) : Prop := sk38 F rl lg v1 (v2 + nI 1)
set_option maxRecDepth 100000 in
set_option maxHeartbeats 4000000 in
theorem e_X6_tick_51 {G : ng_GG} {hf : (Nat → Int32) → (Nat → Int32) → (Nat → Int32) → (Nat → Int32) → (Nat → Int32) → (Nat → Int32) → (Nat → Int32) → (Nat → Int32) → (Nat → Int32) → (Nat → Int32) → (Nat → Int32) → (Nat → Int32) → (Nat → Int32) → (Nat → Int32) → (Nat → Int64) → (Nat → Int64) → (Nat → Int32) → ng_AM}  (V : ng_FL hf ) {F : Nat → Int32} {rl : Nat → Int32} {lg : Nat → Int32} {sta : Nat → Int32} {sm : Nat → Int32} {par : Nat → Int32} {mv : Nat → Int32} {dep : Nat → Int32} {nwa : Nat → Int32} {th : Nat → Int32} {bf : Nat → Int32} {row : Nat → Int32} {wid : Nat → Int32} {siz : Nat → Int32} {cel : Nat → Int64} {mvd : Nat → Int64} {ned : Nat → Int32} {kk38 : (Nat → Int32) → (Nat → Int32) → (Nat → Int32) → Int32 → Int32 → ((Nat → Int32) × (Nat → Int32) × (Nat → Int32) × Int32)} {sk38 : (Nat → Int32) → (Nat → Int32) → (Nat → Int32) → Int32 → Int32 → Prop} (hk38 : ∀ (F : Nat → Int32) (rl : Nat → Int32) (lg : Nat → Int32) (sta : Nat → Int32) (sm : Nat → Int32) (par : Nat → Int32) (mv : Nat → Int32) (dep : Nat → Int32) (nwa : Nat → Int32) (th : Nat → Int32) (bf : Nat → Int32) (row : Nat → Int32) (wid : Nat → Int32) (siz : Nat → Int32) (cel : Nat → Int64) (mvd : Nat → Int64) (ned : Nat → Int32) (v1 : Int32) (v2 : Int32), sk38 F rl lg v1 v2 → ng_Ev G md_X6_tick 38 [some (.ref 28), some (.int v1), some (.int v2)] [] (hf F rl lg sta sm par mv dep nwa th bf row wid siz cel mvd ned) (K_X6_tick hf sta sm par mv dep nwa th bf row wid siz cel mvd ned (kk38 F rl lg v1 v2))) {v1 : Int32} {v2 : Int32} (h : s_X6_tick_51 sk38 F rl lg v1 v2)  : ng_Ev G md_X6_tick 51 [some (.ref 28), some (.int v1), some (.int v2)] [] (hf F rl lg sta sm par mv dep nwa th bf row wid siz cel mvd ned) (K_X6_tick hf sta sm par mv dep nwa th bf row wid siz cel mvd ned (f_X6_tick_51 kk38 F rl lg v1 v2)) := by
  unfold s_X6_tick_51 at h
  unfold f_X6_tick_51
  refine ev_iinc (v := v2 + nI 1) (L' := [some (.ref 28), some (.int v1), some (.int (v2 + nI 1))]) dX6_tick_51 rfl (by rfl) rfl ?_
  refine ev_goto (tgt := 38) dX6_tick_54 (by decide) ?_
  exact ev_sub (hk38 F rl lg sta sm par mv dep nwa th bf row wid siz cel mvd ned v1 (v2 + nI 1) h) (sub_s (sub_s (sub_s sub_e)))
def f_X6_tick_38  : Nat → (Nat → Int32) → (Nat → Int32) → (Nat → Int32) → Int32 → Int32 → ((Nat → Int32) × (Nat → Int32) × (Nat → Int32) × Int32)
  | 0, F, rl, lg, _, _ => (F, rl, lg, 0)
  | n + 1, F, rl, lg, v1, v2 => (if v1 ≤ v2 then (F, rl, lg, (rl (nI 0).toNatClampNeg)) else f_X6_tick_51 (f_X6_tick_38 n) ((f_X6_ticks rl F lg).2.1) ((f_X6_ticks rl F lg).1) ((f_X6_ticks rl F lg).2.2) v1 v2)
def s_X6_tick_38  : Nat → (Nat → Int32) → (Nat → Int32) → (Nat → Int32) → Int32 → Int32 → Prop
  | 0, _, _, _, _, _ => False
  | n + 1, F, rl, lg, v1, v2 => (¬ v1 ≤ v2 → (s_X6_ticks rl F lg ∧ s_X6_tick_51 (s_X6_tick_38 n) ((f_X6_ticks rl F lg).2.1) ((f_X6_ticks rl F lg).1) ((f_X6_ticks rl F lg).2.2) v1 v2))
set_option maxRecDepth 100000 in
set_option maxHeartbeats 4000000 in
theorem e_X6_tick_38 {G : ng_GG} {hf : (Nat → Int32) → (Nat → Int32) → (Nat → Int32) → (Nat → Int32) → (Nat → Int32) → (Nat → Int32) → (Nat → Int32) → (Nat → Int32) → (Nat → Int32) → (Nat → Int32) → (Nat → Int32) → (Nat → Int32) → (Nat → Int32) → (Nat → Int32) → (Nat → Int64) → (Nat → Int64) → (Nat → Int32) → ng_AM}  (V : ng_FL hf )  : ∀ (n : Nat) (F : Nat → Int32) (rl : Nat → Int32) (lg : Nat → Int32) (sta : Nat → Int32) (sm : Nat → Int32) (par : Nat → Int32) (mv : Nat → Int32) (dep : Nat → Int32) (nwa : Nat → Int32) (th : Nat → Int32) (bf : Nat → Int32) (row : Nat → Int32) (wid : Nat → Int32) (siz : Nat → Int32) (cel : Nat → Int64) (mvd : Nat → Int64) (ned : Nat → Int32) (v1 : Int32) (v2 : Int32), s_X6_tick_38  n F rl lg v1 v2 → ng_Ev G md_X6_tick 38 [some (.ref 28), some (.int v1), some (.int v2)] [] (hf F rl lg sta sm par mv dep nwa th bf row wid siz cel mvd ned) (K_X6_tick hf sta sm par mv dep nwa th bf row wid siz cel mvd ned (f_X6_tick_38  n F rl lg v1 v2)) := by
  intro n
  induction n with
  | zero => intro F rl lg sta sm par mv dep nwa th bf row wid siz cel mvd ned v1 v2 h; exact False.elim h
  | succ n ih =>
    intro F rl lg sta sm par mv dep nwa th bf row wid siz cel mvd ned v1 v2 h 
    rw [s_X6_tick_38] at h
    rw [f_X6_tick_38]
    refine ev_iload_n dX6_tick_38 rfl rfl ?_
    refine ev_iload_n dX6_tick_39 rfl rfl ?_
    refine bk_icmp_ge (tgt := 57) dX6_tick_40 (by decide) (fun c40 => ?_) (fun c40 => ?_)
    · refine ev_aload_n dX6_tick_57 rfl rfl rfl ?_
      refine ev_get 6 1 fl_RX6_9 (FL_g28 V) rfl dX6_tick_58 ?_
      refine ev_iconst (v := nI 0) dX6_tick_61 (by decide) ?_
      refine ev_iald (FL_g29 V) (vp_in_nI (by decide) (by decide)) dX6_tick_62 ?_
      exact ev_iret rfl rfl dX6_tick_63
    · replace h := h c40
      refine ev_aload_n dX6_tick_43 rfl rfl rfl ?_
      refine ev_aload_n dX6_tick_44 rfl rfl rfl ?_
      refine ev_get 6 1 fl_RX6_9 (FL_g28 V) rfl dX6_tick_45 ?_
      have hs48 := h.1
      replace h := h.2
      refine bk_callV (As := [.ref 29]) (st := []) (st2 := []) (M2 := hf ((f_X6_ticks rl F lg).2.1) ((f_X6_ticks rl F lg).1) ((f_X6_ticks rl F lg).2.2) sta sm par mv dep nwa th bf row wid siz cel mvd ned) ok_X6_ticks lk_RX6_172 (ng_rok.of rfl rfl) (FL_g28 V) rfl rfl rfl rfl rfl rfl dX6_tick_48 (m_X6_ticks (FL_rl V sta sm par mv dep nwa th bf row wid siz cel mvd ned) hs48) rfl rfl ?_
      exact ev_sub (e_X6_tick_51 V ih h) (sub_s (sub_s (sub_s sub_e)))
def f_X6_tick  (F : Nat → Int32) (rl : Nat → Int32) (lg : Nat → Int32) (v1 : Int32) : (Nat → Int32) × (Nat → Int32) × (Nat → Int32) × Int32 := (if (f_X6_in v1 (nI 1) (nI 500)) = 0 then ((upd F 0 (nI 0)), rl, lg, (-2)) else (if ((rl (nI 0).toNatClampNeg) + v1) ≤ (nI 30000) then f_X6_tick_38 ng_F (upd F 0 (nI 0)) rl lg v1 (nI 0) else ((upd F 0 (nI 0)), rl, lg, (-3))))
def s_X6_tick  (F : Nat → Int32) (rl : Nat → Int32) (lg : Nat → Int32) (v1 : Int32) : Prop := (¬ (f_X6_in v1 (nI 1) (nI 500)) = 0 → (((rl (nI 0).toNatClampNeg) + v1) ≤ (nI 30000) → s_X6_tick_38 ng_F (upd F 0 (nI 0)) rl lg v1 (nI 0)))
set_option maxRecDepth 100000 in
set_option maxHeartbeats 4000000 in
theorem e_X6_tick {G : ng_GG} {hf : (Nat → Int32) → (Nat → Int32) → (Nat → Int32) → (Nat → Int32) → (Nat → Int32) → (Nat → Int32) → (Nat → Int32) → (Nat → Int32) → (Nat → Int32) → (Nat → Int32) → (Nat → Int32) → (Nat → Int32) → (Nat → Int32) → (Nat → Int32) → (Nat → Int64) → (Nat → Int64) → (Nat → Int32) → ng_AM}  (V : ng_FL hf ) {F : Nat → Int32} {rl : Nat → Int32} {lg : Nat → Int32} {sta : Nat → Int32} {sm : Nat → Int32} {par : Nat → Int32} {mv : Nat → Int32} {dep : Nat → Int32} {nwa : Nat → Int32} {th : Nat → Int32} {bf : Nat → Int32} {row : Nat → Int32} {wid : Nat → Int32} {siz : Nat → Int32} {cel : Nat → Int64} {mvd : Nat → Int64} {ned : Nat → Int32}  {v1 : Int32} (h : s_X6_tick  F rl lg v1)  : ng_Ev G md_X6_tick 0 [some (.ref 28), some (.int v1), none] [] (hf F rl lg sta sm par mv dep nwa th bf row wid siz cel mvd ned) (K_X6_tick hf sta sm par mv dep nwa th bf row wid siz cel mvd ned (f_X6_tick  F rl lg v1)) := by
  unfold s_X6_tick at h
  unfold f_X6_tick
  refine ev_aload_n dX6_tick_0 rfl rfl rfl ?_
  refine ev_iconst (v := nI 0) dX6_tick_1 (by decide) ?_
  refine ev_put 6 0 fs_RX6_64 (FL_g28 V) (ng_lt rfl) rfl (FL_s28 V (F' := (upd F 0 (nI 0)))) (ng_fit_i _) dX6_tick_2 ?_
  refine ev_iload_n dX6_tick_5 rfl rfl ?_
  refine ev_iconst (v := nI 1) dX6_tick_6 (by decide) ?_
  refine ev_sipush (v := nI 500) dX6_tick_7 (by decide) ?_
  refine bk_callS (As := [.int v1, .int (nI 1), .int (nI 500)]) (st := []) (st2 := [.int (f_X6_in v1 (nI 1) (nI 500))]) (M2 := hf (upd F 0 (nI 0)) rl lg sta sm par mv dep nwa th bf row wid siz cel mvd ned) ok_X6_in lk_RX6_67 (ng_rok.of rfl rfl) rfl rfl rfl rfl dX6_tick_10 (m_X6_in trivial) rfl rfl ?_
  refine bk_if_ne (tgt := 19) dX6_tick_13 (by decide) (fun c13 => ?_) (fun c13 => ?_)
  · replace h := h c13
    refine ev_aload_n dX6_tick_19 rfl rfl rfl ?_
    refine ev_get 6 1 fl_RX6_9 (FL_g28 V) rfl dX6_tick_20 ?_
    refine ev_iconst (v := nI 0) dX6_tick_23 (by decide) ?_
    refine ev_iald (FL_g29 V) (vp_in_nI (by decide) (by decide)) dX6_tick_24 ?_
    refine ev_iload_n dX6_tick_25 rfl rfl ?_
    refine ev_iadd dX6_tick_26 ?_
    refine ev_sipush (v := nI 30000) dX6_tick_27 (by decide) ?_
    refine bk_icmp_le (tgt := 36) dX6_tick_30 (by decide) (fun c30 => ?_) (fun c30 => ?_)
    · replace h := h c30
      refine ev_iconst (v := nI 0) dX6_tick_36 (by decide) ?_
      refine ev_istore_n (L' := [some (.ref 28), some (.int v1), some (.int (nI 0))]) dX6_tick_37 rfl (ng_lt rfl) rfl ?_
      exact ev_sub (e_X6_tick_38 V ng_F (upd F 0 (nI 0)) rl lg sta sm par mv dep nwa th bf row wid siz cel mvd ned v1 (nI 0) h) (sub_s (sub_s (sub_s sub_e)))
    · refine ev_bipush (v := (-3)) dX6_tick_33 (by decide) ?_
      exact ev_iret rfl rfl dX6_tick_35
  · refine ev_bipush (v := (-2)) dX6_tick_16 (by decide) ?_
    exact ev_iret rfl rfl dX6_tick_18
theorem m_X6_tick {G : ng_GG} {hf : (Nat → Int32) → (Nat → Int32) → (Nat → Int32) → (Nat → Int32) → (Nat → Int32) → (Nat → Int32) → (Nat → Int32) → (Nat → Int32) → (Nat → Int32) → (Nat → Int32) → (Nat → Int32) → (Nat → Int32) → (Nat → Int32) → (Nat → Int32) → (Nat → Int64) → (Nat → Int64) → (Nat → Int32) → ng_AM}  (V : ng_FL hf ) {F : Nat → Int32} {rl : Nat → Int32} {lg : Nat → Int32} {sta : Nat → Int32} {sm : Nat → Int32} {par : Nat → Int32} {mv : Nat → Int32} {dep : Nat → Int32} {nwa : Nat → Int32} {th : Nat → Int32} {bf : Nat → Int32} {row : Nat → Int32} {wid : Nat → Int32} {siz : Nat → Int32} {cel : Nat → Int64} {mvd : Nat → Int64} {ned : Nat → Int32} {v1 : Int32} (h : s_X6_tick F rl lg v1)  : ng_Ev G md_X6_tick 0 (ng_en 3 [.ref 28, .int v1]) [] (hf F rl lg sta sm par mv dep nwa th bf row wid siz cel mvd ned) (K_X6_tick hf sta sm par mv dep nwa th bf row wid siz cel mvd ned (f_X6_tick F rl lg v1)) := e_X6_tick V h 
def K_X6_isAsked (hf : (Nat → Int32) → (Nat → Int32) → (Nat → Int32) → (Nat → Int32) → (Nat → Int32) → (Nat → Int32) → (Nat → Int32) → (Nat → Int32) → (Nat → Int32) → (Nat → Int32) → (Nat → Int32) → (Nat → Int32) → (Nat → Int32) → (Nat → Int32) → (Nat → Int64) → (Nat → Int64) → (Nat → Int32) → ng_AM) (F : Nat → Int32) (rl : Nat → Int32) (lg : Nat → Int32) (sta : Nat → Int32) (sm : Nat → Int32) (par : Nat → Int32) (mv : Nat → Int32) (dep : Nat → Int32) (nwa : Nat → Int32) (th : Nat → Int32) (bf : Nat → Int32) (row : Nat → Int32) (wid : Nat → Int32) (siz : Nat → Int32) (cel : Nat → Int64) (mvd : Nat → Int64) (ned : Nat → Int32) (r : Int32) : ng_RR := (some (.int (r)), hf F rl lg sta sm par mv dep nwa th bf row wid siz cel mvd ned)
def f_X6_isAsked  (rl : Nat → Int32) (v1 : Int32) (v2 : Int32) (v3 : Int32) (v4 : Int32) (v5 : Int32) : Int32 := (if (f_X6_in v1 (nI 0) (nI 1)) = 0 then nI 0 else (if (f_X6_in v4 (nI 0) (nI 7)) = 0 then nI 0 else (if (f_X6_in v5 (nI 0) (nI 6)) = 0 then nI 0 else (if v1 = 0 then (if (f_X6_isHouse rl v2) = 0 then nI 0 else (if (f_X6_in v3 (nI 0) (nI 3)) = 0 then nI 0 else nI 1)) else (if (f_X6_in v2 (nI 0) (nI 3)) = 0 then nI 0 else (if v3 = 0 then nI 1 else nI 0))))))
def s_X6_isAsked  (rl : Nat → Int32) (v1 : Int32) (v2 : Int32) (v3 : Int32) (v4 : Int32) (v5 : Int32) : Prop := (¬ (f_X6_in v1 (nI 0) (nI 1)) = 0 → (¬ (f_X6_in v4 (nI 0) (nI 7)) = 0 → (¬ (f_X6_in v5 (nI 0) (nI 6)) = 0 → (v1 = 0 → s_X6_isHouse rl v2))))
set_option maxRecDepth 100000 in
set_option maxHeartbeats 4000000 in
theorem e_X6_isAsked {G : ng_GG} {hf : (Nat → Int32) → (Nat → Int32) → (Nat → Int32) → (Nat → Int32) → (Nat → Int32) → (Nat → Int32) → (Nat → Int32) → (Nat → Int32) → (Nat → Int32) → (Nat → Int32) → (Nat → Int32) → (Nat → Int32) → (Nat → Int32) → (Nat → Int32) → (Nat → Int64) → (Nat → Int64) → (Nat → Int32) → ng_AM}  (V : ng_FL hf ) {F : Nat → Int32} {rl : Nat → Int32} {lg : Nat → Int32} {sta : Nat → Int32} {sm : Nat → Int32} {par : Nat → Int32} {mv : Nat → Int32} {dep : Nat → Int32} {nwa : Nat → Int32} {th : Nat → Int32} {bf : Nat → Int32} {row : Nat → Int32} {wid : Nat → Int32} {siz : Nat → Int32} {cel : Nat → Int64} {mvd : Nat → Int64} {ned : Nat → Int32}  {v1 : Int32} {v2 : Int32} {v3 : Int32} {v4 : Int32} {v5 : Int32} (h : s_X6_isAsked  rl v1 v2 v3 v4 v5)  : ng_Ev G md_X6_isAsked 0 [some (.ref 28), some (.int v1), some (.int v2), some (.int v3), some (.int v4), some (.int v5)] [] (hf F rl lg sta sm par mv dep nwa th bf row wid siz cel mvd ned) (K_X6_isAsked hf F rl lg sta sm par mv dep nwa th bf row wid siz cel mvd ned (f_X6_isAsked  rl v1 v2 v3 v4 v5)) := by
  unfold s_X6_isAsked at h
  unfold f_X6_isAsked
  refine ev_iload_n dX6_isAsked_0 rfl rfl ?_
  refine ev_iconst (v := nI 0) dX6_isAsked_1 (by decide) ?_
  refine ev_iconst (v := nI 1) dX6_isAsked_2 (by decide) ?_
  refine bk_callS (As := [.int v1, .int (nI 0), .int (nI 1)]) (st := []) (st2 := [.int (f_X6_in v1 (nI 0) (nI 1))]) (M2 := hf F rl lg sta sm par mv dep nwa th bf row wid siz cel mvd ned) ok_X6_in lk_RX6_67 (ng_rok.of rfl rfl) rfl rfl rfl rfl dX6_isAsked_3 (m_X6_in trivial) rfl rfl ?_
  refine bk_if_eq (tgt := 31) dX6_isAsked_6 (by decide) (fun c6 => ?_) (fun c6 => ?_)
  · refine ev_iconst (v := nI 0) dX6_isAsked_31 (by decide) ?_
    exact ev_iret rfl (by decide) dX6_isAsked_32
  · replace h := h c6
    refine ev_iload dX6_isAsked_9 rfl ?_
    refine ev_iconst (v := nI 0) dX6_isAsked_11 (by decide) ?_
    refine ev_bipush (v := nI 7) dX6_isAsked_12 (by decide) ?_
    refine bk_callS (As := [.int v4, .int (nI 0), .int (nI 7)]) (st := []) (st2 := [.int (f_X6_in v4 (nI 0) (nI 7))]) (M2 := hf F rl lg sta sm par mv dep nwa th bf row wid siz cel mvd ned) ok_X6_in lk_RX6_67 (ng_rok.of rfl rfl) rfl rfl rfl rfl dX6_isAsked_14 (m_X6_in trivial) rfl rfl ?_
    refine bk_if_eq (tgt := 31) dX6_isAsked_17 (by decide) (fun c17 => ?_) (fun c17 => ?_)
    · refine ev_iconst (v := nI 0) dX6_isAsked_31 (by decide) ?_
      exact ev_iret rfl (by decide) dX6_isAsked_32
    · replace h := h c17
      refine ev_iload dX6_isAsked_20 rfl ?_
      refine ev_iconst (v := nI 0) dX6_isAsked_22 (by decide) ?_
      refine ev_bipush (v := nI 6) dX6_isAsked_23 (by decide) ?_
      refine bk_callS (As := [.int v5, .int (nI 0), .int (nI 6)]) (st := []) (st2 := [.int (f_X6_in v5 (nI 0) (nI 6))]) (M2 := hf F rl lg sta sm par mv dep nwa th bf row wid siz cel mvd ned) ok_X6_in lk_RX6_67 (ng_rok.of rfl rfl) rfl rfl rfl rfl dX6_isAsked_25 (m_X6_in trivial) rfl rfl ?_
      refine bk_if_ne (tgt := 33) dX6_isAsked_28 (by decide) (fun c28 => ?_) (fun c28 => ?_)
      · replace h := h c28
        refine ev_iload_n dX6_isAsked_33 rfl rfl ?_
        refine bk_if_ne (tgt := 62) dX6_isAsked_34 (by decide) (fun c34 => ?_) (fun c34 => ?_)
        · refine ev_iload_n dX6_isAsked_62 rfl rfl ?_
          refine ev_iconst (v := nI 0) dX6_isAsked_63 (by decide) ?_
          refine ev_iconst (v := nI 3) dX6_isAsked_64 (by decide) ?_
          refine bk_callS (As := [.int v2, .int (nI 0), .int (nI 3)]) (st := []) (st2 := [.int (f_X6_in v2 (nI 0) (nI 3))]) (M2 := hf F rl lg sta sm par mv dep nwa th bf row wid siz cel mvd ned) ok_X6_in lk_RX6_67 (ng_rok.of rfl rfl) rfl rfl rfl rfl dX6_isAsked_65 (m_X6_in trivial) rfl rfl ?_
          refine bk_if_eq (tgt := 79) dX6_isAsked_68 (by decide) (fun c68 => ?_) (fun c68 => ?_)
          · refine ev_iconst (v := nI 0) dX6_isAsked_79 (by decide) ?_
            exact ev_iret rfl (by decide) dX6_isAsked_80
          · refine ev_iload_n dX6_isAsked_71 rfl rfl ?_
            refine bk_if_ne (tgt := 79) dX6_isAsked_72 (by decide) (fun c72 => ?_) (fun c72 => ?_)
            · refine ev_iconst (v := nI 0) dX6_isAsked_79 (by decide) ?_
              exact ev_iret rfl (by decide) dX6_isAsked_80
            · refine ev_iconst (v := nI 1) dX6_isAsked_75 (by decide) ?_
              refine ev_goto (tgt := 80) dX6_isAsked_76 (by decide) ?_
              exact ev_iret rfl (by decide) dX6_isAsked_80
        · replace h := h c34
          refine ev_aload_n dX6_isAsked_37 rfl rfl rfl ?_
          refine ev_iload_n dX6_isAsked_38 rfl rfl ?_
          have hs39 := h
          refine bk_callV (As := [.int v2]) (st := []) (st2 := [.int (f_X6_isHouse rl v2)]) (M2 := hf F rl lg sta sm par mv dep nwa th bf row wid siz cel mvd ned) ok_X6_isHouse lk_RX6_78 (ng_rok.of rfl rfl) (FL_g28 V) rfl rfl rfl rfl rfl rfl dX6_isAsked_39 (m_X6_isHouse V hs39) rfl rfl ?_
          refine bk_if_eq (tgt := 58) dX6_isAsked_42 (by decide) (fun c42 => ?_) (fun c42 => ?_)
          · refine ev_iconst (v := nI 0) dX6_isAsked_58 (by decide) ?_
            refine ev_goto (tgt := 80) dX6_isAsked_59 (by decide) ?_
            exact ev_iret rfl (by decide) dX6_isAsked_80
          · refine ev_iload_n dX6_isAsked_45 rfl rfl ?_
            refine ev_iconst (v := nI 0) dX6_isAsked_46 (by decide) ?_
            refine ev_iconst (v := nI 3) dX6_isAsked_47 (by decide) ?_
            refine bk_callS (As := [.int v3, .int (nI 0), .int (nI 3)]) (st := []) (st2 := [.int (f_X6_in v3 (nI 0) (nI 3))]) (M2 := hf F rl lg sta sm par mv dep nwa th bf row wid siz cel mvd ned) ok_X6_in lk_RX6_67 (ng_rok.of rfl rfl) rfl rfl rfl rfl dX6_isAsked_48 (m_X6_in trivial) rfl rfl ?_
            refine bk_if_eq (tgt := 58) dX6_isAsked_51 (by decide) (fun c51 => ?_) (fun c51 => ?_)
            · refine ev_iconst (v := nI 0) dX6_isAsked_58 (by decide) ?_
              refine ev_goto (tgt := 80) dX6_isAsked_59 (by decide) ?_
              exact ev_iret rfl (by decide) dX6_isAsked_80
            · refine ev_iconst (v := nI 1) dX6_isAsked_54 (by decide) ?_
              refine ev_goto (tgt := 80) dX6_isAsked_55 (by decide) ?_
              exact ev_iret rfl (by decide) dX6_isAsked_80
      · refine ev_iconst (v := nI 0) dX6_isAsked_31 (by decide) ?_
        exact ev_iret rfl (by decide) dX6_isAsked_32
theorem m_X6_isAsked {G : ng_GG} {hf : (Nat → Int32) → (Nat → Int32) → (Nat → Int32) → (Nat → Int32) → (Nat → Int32) → (Nat → Int32) → (Nat → Int32) → (Nat → Int32) → (Nat → Int32) → (Nat → Int32) → (Nat → Int32) → (Nat → Int32) → (Nat → Int32) → (Nat → Int32) → (Nat → Int64) → (Nat → Int64) → (Nat → Int32) → ng_AM}  (V : ng_FL hf ) {F : Nat → Int32} {rl : Nat → Int32} {lg : Nat → Int32} {sta : Nat → Int32} {sm : Nat → Int32} {par : Nat → Int32} {mv : Nat → Int32} {dep : Nat → Int32} {nwa : Nat → Int32} {th : Nat → Int32} {bf : Nat → Int32} {row : Nat → Int32} {wid : Nat → Int32} {siz : Nat → Int32} {cel : Nat → Int64} {mvd : Nat → Int64} {ned : Nat → Int32} {v1 : Int32} {v2 : Int32} {v3 : Int32} {v4 : Int32} {v5 : Int32} (h : s_X6_isAsked rl v1 v2 v3 v4 v5)  : ng_Ev G md_X6_isAsked 0 (ng_en 6 [.ref 28, .int v1, .int v2, .int v3, .int v4, .int v5]) [] (hf F rl lg sta sm par mv dep nwa th bf row wid siz cel mvd ned) (K_X6_isAsked hf F rl lg sta sm par mv dep nwa th bf row wid siz cel mvd ned (f_X6_isAsked rl v1 v2 v3 v4 v5)) := e_X6_isAsked V h 
def K_X6_lays_bf (hf : (Nat → Int32) → (Nat → Int32) → (Nat → Int32) → (Nat → Int32) → (Nat → Int32) → (Nat → Int32) → (Nat → Int32) → (Nat → Int32) → (Nat → Int32) → (Nat → Int32) → (Nat → Int32) → (Nat → Int32) → (Nat → Int32) → (Nat → Int32) → (Nat → Int64) → (Nat → Int64) → (Nat → Int32) → ng_AM) (rl : Nat → Int32) (lg : Nat → Int32) (nwa : Nat → Int32) (th : Nat → Int32) (bf : Nat → Int32) (row : Nat → Int32) (wid : Nat → Int32) (siz : Nat → Int32) (cel : Nat → Int64) (mvd : Nat → Int64) (ned : Nat → Int32) (r : (Nat → Int32) × (Nat → Int32) × (Nat → Int32) × (Nat → Int32) × (Nat → Int32) × (Nat → Int32)) : ng_RR := (none, hf (r.1) rl lg (r.2.1) (r.2.2.1) (r.2.2.2.1) (r.2.2.2.2.1) (r.2.2.2.2.2) nwa th bf row wid siz cel mvd ned)
def f_X6_lays_bf_72  (F : Nat → Int32) (sta : Nat → Int32) (sm : Nat → Int32) (par : Nat → Int32) (mv : Nat → Int32) (dep : Nat → Int32) (bf : Nat → Int32) (t0 : Int32) (t1 : Int32) : (Nat → Int32) × (Nat → Int32) × (Nat → Int32) × (Nat → Int32) × (Nat → Int32) × (Nat → Int32) := ((upd F 15 ((F 15) + (nI 1))), sta, sm, par, mv, (upd dep t1.toNatClampNeg t0))
def s_X6_lays_bf_72  (F : Nat → Int32) (sta : Nat → Int32) (sm : Nat → Int32) (par : Nat → Int32) (mv : Nat → Int32) (dep : Nat → Int32) (bf : Nat → Int32) (t0 : Int32) (t1 : Int32) : Prop := vp_in t1 300
set_option maxRecDepth 100000 in
set_option maxHeartbeats 4000000 in
theorem e_X6_lays_bf_72 {G : ng_GG} {hf : (Nat → Int32) → (Nat → Int32) → (Nat → Int32) → (Nat → Int32) → (Nat → Int32) → (Nat → Int32) → (Nat → Int32) → (Nat → Int32) → (Nat → Int32) → (Nat → Int32) → (Nat → Int32) → (Nat → Int32) → (Nat → Int32) → (Nat → Int32) → (Nat → Int64) → (Nat → Int64) → (Nat → Int32) → ng_AM}  (V : ng_FL hf ) {F : Nat → Int32} {rl : Nat → Int32} {lg : Nat → Int32} {sta : Nat → Int32} {sm : Nat → Int32} {par : Nat → Int32} {mv : Nat → Int32} {dep : Nat → Int32} {nwa : Nat → Int32} {th : Nat → Int32} {bf : Nat → Int32} {row : Nat → Int32} {wid : Nat → Int32} {siz : Nat → Int32} {cel : Nat → Int64} {mvd : Nat → Int64} {ned : Nat → Int32}  {t0 : Int32} {t1 : Int32} (h : s_X6_lays_bf_72  F sta sm par mv dep bf t0 t1)  : ng_Ev G md_X6_lays 72 [some (.ref 28), none, none, none, none] [.int t0, .int t1, .ref 35] (hf F rl lg sta sm par mv dep nwa th bf row wid siz cel mvd ned) (K_X6_lays_bf hf rl lg nwa th bf row wid siz cel mvd ned (f_X6_lays_bf_72  F sta sm par mv dep bf t0 t1)) := by
  unfold s_X6_lays_bf_72 at h
  unfold f_X6_lays_bf_72
  have hi72 := h
  refine ev_iast (FL_g35 V) hi72 (FL_s35 V) dX6_lays_72 ?_
  refine ev_aload_n dX6_lays_73 rfl rfl rfl ?_
  refine ev_dup dX6_lays_74 rfl ?_
  refine ev_get 6 15 fl_RX6_179 (FL_g28 V) rfl dX6_lays_75 ?_
  refine ev_iconst (v := nI 1) dX6_lays_78 (by decide) ?_
  refine ev_iadd dX6_lays_79 ?_
  refine ev_put 6 15 fs_RX6_179 (FL_g28 V) (ng_lt rfl) rfl (FL_s28 V (F' := (upd F 15 ((F 15) + (nI 1))))) (ng_fit_i _) dX6_lays_80 ?_
  exact ev_vret rfl dX6_lays_83
def f_X6_lays_bf_17  (F : Nat → Int32) (sta : Nat → Int32) (sm : Nat → Int32) (par : Nat → Int32) (mv : Nat → Int32) (dep : Nat → Int32) (bf : Nat → Int32) (v2 : Int32) (v3 : Int32) (v4 : Int32) : (Nat → Int32) × (Nat → Int32) × (Nat → Int32) × (Nat → Int32) × (Nat → Int32) × (Nat → Int32) := (if 0 ≤ v3 then f_X6_lays_bf_72 F sta (upd sm (F 15).toNatClampNeg v2) (upd par (F 15).toNatClampNeg v3) (upd mv (F 15).toNatClampNeg v4) dep bf ((dep v3.toNatClampNeg) + (nI 1)) (F 15) else f_X6_lays_bf_72 F sta (upd sm (F 15).toNatClampNeg v2) (upd par (F 15).toNatClampNeg v3) (upd mv (F 15).toNatClampNeg v4) dep bf (nI 0) (F 15))
def s_X6_lays_bf_17  (F : Nat → Int32) (sta : Nat → Int32) (sm : Nat → Int32) (par : Nat → Int32) (mv : Nat → Int32) (dep : Nat → Int32) (bf : Nat → Int32) (v2 : Int32) (v3 : Int32) (v4 : Int32) : Prop := (vp_in (F 15) 300 ∧ (vp_in (F 15) 300 ∧ (vp_in (F 15) 300 ∧ ((0 ≤ v3 → (vp_in v3 300 ∧ s_X6_lays_bf_72 F sta (upd sm (F 15).toNatClampNeg v2) (upd par (F 15).toNatClampNeg v3) (upd mv (F 15).toNatClampNeg v4) dep bf ((dep v3.toNatClampNeg) + (nI 1)) (F 15))) ∧ (¬ 0 ≤ v3 → s_X6_lays_bf_72 F sta (upd sm (F 15).toNatClampNeg v2) (upd par (F 15).toNatClampNeg v3) (upd mv (F 15).toNatClampNeg v4) dep bf (nI 0) (F 15))))))
set_option maxRecDepth 100000 in
set_option maxHeartbeats 4000000 in
theorem e_X6_lays_bf_17 {G : ng_GG} {hf : (Nat → Int32) → (Nat → Int32) → (Nat → Int32) → (Nat → Int32) → (Nat → Int32) → (Nat → Int32) → (Nat → Int32) → (Nat → Int32) → (Nat → Int32) → (Nat → Int32) → (Nat → Int32) → (Nat → Int32) → (Nat → Int32) → (Nat → Int32) → (Nat → Int64) → (Nat → Int64) → (Nat → Int32) → ng_AM}  (V : ng_FL hf ) {F : Nat → Int32} {rl : Nat → Int32} {lg : Nat → Int32} {sta : Nat → Int32} {sm : Nat → Int32} {par : Nat → Int32} {mv : Nat → Int32} {dep : Nat → Int32} {nwa : Nat → Int32} {th : Nat → Int32} {bf : Nat → Int32} {row : Nat → Int32} {wid : Nat → Int32} {siz : Nat → Int32} {cel : Nat → Int64} {mvd : Nat → Int64} {ned : Nat → Int32}  {v2 : Int32} {v3 : Int32} {v4 : Int32} (h : s_X6_lays_bf_17  F sta sm par mv dep bf v2 v3 v4)  : ng_Ev G md_X6_lays 17 [some (.ref 28), none, some (.int v2), some (.int v3), some (.int v4)] [] (hf F rl lg sta sm par mv dep nwa th bf row wid siz cel mvd ned) (K_X6_lays_bf hf rl lg nwa th bf row wid siz cel mvd ned (f_X6_lays_bf_17  F sta sm par mv dep bf v2 v3 v4)) := by
  unfold s_X6_lays_bf_17 at h
  unfold f_X6_lays_bf_17
  refine ev_aload_n dX6_lays_17 rfl rfl rfl ?_
  refine ev_get 6 8 fl_RX6_20 (FL_g28 V) rfl dX6_lays_18 ?_
  refine ev_aload_n dX6_lays_21 rfl rfl rfl ?_
  refine ev_get 6 15 fl_RX6_179 (FL_g28 V) rfl dX6_lays_22 ?_
  refine ev_iload_n dX6_lays_25 rfl rfl ?_
  have hi26 := h.1
  replace h := h.2
  refine ev_iast (FL_g32 V) hi26 (FL_s32 V) dX6_lays_26 ?_
  refine ev_aload_n dX6_lays_27 rfl rfl rfl ?_
  refine ev_get 6 9 fl_RX6_23 (FL_g28 V) rfl dX6_lays_28 ?_
  refine ev_aload_n dX6_lays_31 rfl rfl rfl ?_
  refine ev_get 6 15 fl_RX6_179 (FL_g28 V) rfl dX6_lays_32 ?_
  refine ev_iload_n dX6_lays_35 rfl rfl ?_
  have hi36 := h.1
  replace h := h.2
  refine ev_iast (FL_g33 V) hi36 (FL_s33 V) dX6_lays_36 ?_
  refine ev_aload_n dX6_lays_37 rfl rfl rfl ?_
  refine ev_get 6 10 fl_RX6_26 (FL_g28 V) rfl dX6_lays_38 ?_
  refine ev_aload_n dX6_lays_41 rfl rfl rfl ?_
  refine ev_get 6 15 fl_RX6_179 (FL_g28 V) rfl dX6_lays_42 ?_
  refine ev_iload dX6_lays_45 rfl ?_
  have hi47 := h.1
  replace h := h.2
  refine ev_iast (FL_g34 V) hi47 (FL_s34 V) dX6_lays_47 ?_
  refine ev_aload_n dX6_lays_48 rfl rfl rfl ?_
  refine ev_get 6 11 fl_RX6_29 (FL_g28 V) rfl dX6_lays_49 ?_
  refine ev_aload_n dX6_lays_52 rfl rfl rfl ?_
  refine ev_get 6 15 fl_RX6_179 (FL_g28 V) rfl dX6_lays_53 ?_
  refine ev_iload_n dX6_lays_56 rfl rfl ?_
  refine bk_if_ge (tgt := 64) dX6_lays_57 (by decide) (fun c57 => ?_) (fun c57 => ?_)
  · replace h := h.1 c57
    refine ev_aload_n dX6_lays_64 rfl rfl rfl ?_
    refine ev_get 6 11 fl_RX6_29 (FL_g28 V) rfl dX6_lays_65 ?_
    refine ev_iload_n dX6_lays_68 rfl rfl ?_
    have hi69 := h.1
    replace h := h.2
    refine ev_iald (FL_g35 V) hi69 dX6_lays_69 ?_
    refine ev_iconst (v := nI 1) dX6_lays_70 (by decide) ?_
    refine ev_iadd dX6_lays_71 ?_
    exact ev_sub (e_X6_lays_bf_72 V h) (sub_s (sub_n (sub_n (sub_n (sub_n sub_e)))))
  · replace h := h.2 c57
    refine ev_iconst (v := nI 0) dX6_lays_60 (by decide) ?_
    refine ev_goto (tgt := 72) dX6_lays_61 (by decide) ?_
    exact ev_sub (e_X6_lays_bf_72 V h) (sub_s (sub_n (sub_n (sub_n (sub_n sub_e)))))
def f_X6_lays_bf  (F : Nat → Int32) (sta : Nat → Int32) (sm : Nat → Int32) (par : Nat → Int32) (mv : Nat → Int32) (dep : Nat → Int32) (bf : Nat → Int32) (v2 : Int32) (v3 : Int32) (v4 : Int32) : (Nat → Int32) × (Nat → Int32) × (Nat → Int32) × (Nat → Int32) × (Nat → Int32) × (Nat → Int32) := f_X6_lays_bf_17 F (f_X6_copy_ bf sta 527 158100 (nI 0) ((nI 527) * (F 15))) sm par mv dep bf v2 v3 v4
def s_X6_lays_bf  (F : Nat → Int32) (sta : Nat → Int32) (sm : Nat → Int32) (par : Nat → Int32) (mv : Nat → Int32) (dep : Nat → Int32) (bf : Nat → Int32) (v2 : Int32) (v3 : Int32) (v4 : Int32) : Prop := (s_X6_copy_ bf sta 527 158100 (nI 0) ((nI 527) * (F 15)) ∧ s_X6_lays_bf_17 F (f_X6_copy_ bf sta 527 158100 (nI 0) ((nI 527) * (F 15))) sm par mv dep bf v2 v3 v4)
set_option maxRecDepth 100000 in
set_option maxHeartbeats 4000000 in
theorem e_X6_lays_bf {G : ng_GG} {hf : (Nat → Int32) → (Nat → Int32) → (Nat → Int32) → (Nat → Int32) → (Nat → Int32) → (Nat → Int32) → (Nat → Int32) → (Nat → Int32) → (Nat → Int32) → (Nat → Int32) → (Nat → Int32) → (Nat → Int32) → (Nat → Int32) → (Nat → Int32) → (Nat → Int64) → (Nat → Int64) → (Nat → Int32) → ng_AM}  (V : ng_FL hf ) {F : Nat → Int32} {rl : Nat → Int32} {lg : Nat → Int32} {sta : Nat → Int32} {sm : Nat → Int32} {par : Nat → Int32} {mv : Nat → Int32} {dep : Nat → Int32} {nwa : Nat → Int32} {th : Nat → Int32} {bf : Nat → Int32} {row : Nat → Int32} {wid : Nat → Int32} {siz : Nat → Int32} {cel : Nat → Int64} {mvd : Nat → Int64} {ned : Nat → Int32}  {v2 : Int32} {v3 : Int32} {v4 : Int32} (h : s_X6_lays_bf  F sta sm par mv dep bf v2 v3 v4)  : ng_Ev G md_X6_lays 0 [some (.ref 28), some (.ref 38), some (.int v2), some (.int v3), some (.int v4)] [] (hf F rl lg sta sm par mv dep nwa th bf row wid siz cel mvd ned) (K_X6_lays_bf hf rl lg nwa th bf row wid siz cel mvd ned (f_X6_lays_bf  F sta sm par mv dep bf v2 v3 v4)) := by
  unfold s_X6_lays_bf at h
  unfold f_X6_lays_bf
  refine ev_aload_n dX6_lays_0 rfl rfl rfl ?_
  refine ev_iconst (v := nI 0) dX6_lays_1 (by decide) ?_
  refine ev_aload_n dX6_lays_2 rfl rfl rfl ?_
  refine ev_get 6 7 fl_RX6_17 (FL_g28 V) rfl dX6_lays_3 ?_
  refine ev_sipush (v := nI 527) dX6_lays_6 (by decide) ?_
  refine ev_aload_n dX6_lays_9 rfl rfl rfl ?_
  refine ev_get 6 15 fl_RX6_179 (FL_g28 V) rfl dX6_lays_10 ?_
  refine ev_imul dX6_lays_13 ?_
  have hs14 := h.1
  replace h := h.2
  refine bk_callS (As := [.ref 38, .int (nI 0), .ref 31, .int ((nI 527) * (F 15))]) (st := []) (st2 := []) (M2 := hf F rl lg (f_X6_copy_ bf sta 527 158100 (nI 0) ((nI 527) * (F 15))) sm par mv dep nwa th bf row wid siz cel mvd ned) ok_X6_copy_ lk_RX6_182 (ng_rok.of rfl rfl) rfl rfl rfl rfl dX6_lays_14 (m_X6_copy_ (show ng_CL (fun fr fo => hf F rl lg fo sm par mv dep nwa th fr row wid siz cel mvd ned) 38 31 527 158100 from ⟨fun _ _ => FL_g38 V, fun _ _ => FL_g31 V, fun _ _ _ => FL_s31 V⟩) hs14) rfl rfl ?_
  exact ev_sub (e_X6_lays_bf_17 V h) (sub_s (sub_n (sub_s (sub_s (sub_s sub_e)))))
theorem m_X6_lays_bf {G : ng_GG} {hf : (Nat → Int32) → (Nat → Int32) → (Nat → Int32) → (Nat → Int32) → (Nat → Int32) → (Nat → Int32) → (Nat → Int32) → (Nat → Int32) → (Nat → Int32) → (Nat → Int32) → (Nat → Int32) → (Nat → Int32) → (Nat → Int32) → (Nat → Int32) → (Nat → Int64) → (Nat → Int64) → (Nat → Int32) → ng_AM}  (V : ng_FL hf ) {F : Nat → Int32} {rl : Nat → Int32} {lg : Nat → Int32} {sta : Nat → Int32} {sm : Nat → Int32} {par : Nat → Int32} {mv : Nat → Int32} {dep : Nat → Int32} {nwa : Nat → Int32} {th : Nat → Int32} {bf : Nat → Int32} {row : Nat → Int32} {wid : Nat → Int32} {siz : Nat → Int32} {cel : Nat → Int64} {mvd : Nat → Int64} {ned : Nat → Int32} {v2 : Int32} {v3 : Int32} {v4 : Int32} (h : s_X6_lays_bf F sta sm par mv dep bf v2 v3 v4)  : ng_Ev G md_X6_lays 0 (ng_en 5 [.ref 28, .ref 38, .int v2, .int v3, .int v4]) [] (hf F rl lg sta sm par mv dep nwa th bf row wid siz cel mvd ned) (K_X6_lays_bf hf rl lg nwa th bf row wid siz cel mvd ned (f_X6_lays_bf F sta sm par mv dep bf v2 v3 v4)) := e_X6_lays_bf V h 
def K_X6_lays_th (hf : (Nat → Int32) → (Nat → Int32) → (Nat → Int32) → (Nat → Int32) → (Nat → Int32) → (Nat → Int32) → (Nat → Int32) → (Nat → Int32) → (Nat → Int32) → (Nat → Int32) → (Nat → Int32) → (Nat → Int32) → (Nat → Int32) → (Nat → Int32) → (Nat → Int64) → (Nat → Int64) → (Nat → Int32) → ng_AM) (rl : Nat → Int32) (lg : Nat → Int32) (nwa : Nat → Int32) (th : Nat → Int32) (bf : Nat → Int32) (row : Nat → Int32) (wid : Nat → Int32) (siz : Nat → Int32) (cel : Nat → Int64) (mvd : Nat → Int64) (ned : Nat → Int32) (r : (Nat → Int32) × (Nat → Int32) × (Nat → Int32) × (Nat → Int32) × (Nat → Int32) × (Nat → Int32)) : ng_RR := (none, hf (r.1) rl lg (r.2.1) (r.2.2.1) (r.2.2.2.1) (r.2.2.2.2.1) (r.2.2.2.2.2) nwa th bf row wid siz cel mvd ned)
def f_X6_lays_th_72  (F : Nat → Int32) (sta : Nat → Int32) (sm : Nat → Int32) (par : Nat → Int32) (mv : Nat → Int32) (dep : Nat → Int32) (th : Nat → Int32) (t0 : Int32) (t1 : Int32) : (Nat → Int32) × (Nat → Int32) × (Nat → Int32) × (Nat → Int32) × (Nat → Int32) × (Nat → Int32) := ((upd F 15 ((F 15) + (nI 1))), sta, sm, par, mv, (upd dep t1.toNatClampNeg t0))
def s_X6_lays_th_72  (F : Nat → Int32) (sta : Nat → Int32) (sm : Nat → Int32) (par : Nat → Int32) (mv : Nat → Int32) (dep : Nat → Int32) (th : Nat → Int32) (t0 : Int32) (t1 : Int32) : Prop := vp_in t1 300
set_option maxRecDepth 100000 in
set_option maxHeartbeats 4000000 in
theorem e_X6_lays_th_72 {G : ng_GG} {hf : (Nat → Int32) → (Nat → Int32) → (Nat → Int32) → (Nat → Int32) → (Nat → Int32) → (Nat → Int32) → (Nat → Int32) → (Nat → Int32) → (Nat → Int32) → (Nat → Int32) → (Nat → Int32) → (Nat → Int32) → (Nat → Int32) → (Nat → Int32) → (Nat → Int64) → (Nat → Int64) → (Nat → Int32) → ng_AM}  (V : ng_FL hf ) {F : Nat → Int32} {rl : Nat → Int32} {lg : Nat → Int32} {sta : Nat → Int32} {sm : Nat → Int32} {par : Nat → Int32} {mv : Nat → Int32} {dep : Nat → Int32} {nwa : Nat → Int32} {th : Nat → Int32} {bf : Nat → Int32} {row : Nat → Int32} {wid : Nat → Int32} {siz : Nat → Int32} {cel : Nat → Int64} {mvd : Nat → Int64} {ned : Nat → Int32}  {t0 : Int32} {t1 : Int32} (h : s_X6_lays_th_72  F sta sm par mv dep th t0 t1)  : ng_Ev G md_X6_lays 72 [some (.ref 28), none, none, none, none] [.int t0, .int t1, .ref 35] (hf F rl lg sta sm par mv dep nwa th bf row wid siz cel mvd ned) (K_X6_lays_th hf rl lg nwa th bf row wid siz cel mvd ned (f_X6_lays_th_72  F sta sm par mv dep th t0 t1)) := by
  unfold s_X6_lays_th_72 at h
  unfold f_X6_lays_th_72
  have hi72 := h
  refine ev_iast (FL_g35 V) hi72 (FL_s35 V) dX6_lays_72 ?_
  refine ev_aload_n dX6_lays_73 rfl rfl rfl ?_
  refine ev_dup dX6_lays_74 rfl ?_
  refine ev_get 6 15 fl_RX6_179 (FL_g28 V) rfl dX6_lays_75 ?_
  refine ev_iconst (v := nI 1) dX6_lays_78 (by decide) ?_
  refine ev_iadd dX6_lays_79 ?_
  refine ev_put 6 15 fs_RX6_179 (FL_g28 V) (ng_lt rfl) rfl (FL_s28 V (F' := (upd F 15 ((F 15) + (nI 1))))) (ng_fit_i _) dX6_lays_80 ?_
  exact ev_vret rfl dX6_lays_83
def f_X6_lays_th_17  (F : Nat → Int32) (sta : Nat → Int32) (sm : Nat → Int32) (par : Nat → Int32) (mv : Nat → Int32) (dep : Nat → Int32) (th : Nat → Int32) (v2 : Int32) (v3 : Int32) (v4 : Int32) : (Nat → Int32) × (Nat → Int32) × (Nat → Int32) × (Nat → Int32) × (Nat → Int32) × (Nat → Int32) := (if 0 ≤ v3 then f_X6_lays_th_72 F sta (upd sm (F 15).toNatClampNeg v2) (upd par (F 15).toNatClampNeg v3) (upd mv (F 15).toNatClampNeg v4) dep th ((dep v3.toNatClampNeg) + (nI 1)) (F 15) else f_X6_lays_th_72 F sta (upd sm (F 15).toNatClampNeg v2) (upd par (F 15).toNatClampNeg v3) (upd mv (F 15).toNatClampNeg v4) dep th (nI 0) (F 15))
def s_X6_lays_th_17  (F : Nat → Int32) (sta : Nat → Int32) (sm : Nat → Int32) (par : Nat → Int32) (mv : Nat → Int32) (dep : Nat → Int32) (th : Nat → Int32) (v2 : Int32) (v3 : Int32) (v4 : Int32) : Prop := (vp_in (F 15) 300 ∧ (vp_in (F 15) 300 ∧ (vp_in (F 15) 300 ∧ ((0 ≤ v3 → (vp_in v3 300 ∧ s_X6_lays_th_72 F sta (upd sm (F 15).toNatClampNeg v2) (upd par (F 15).toNatClampNeg v3) (upd mv (F 15).toNatClampNeg v4) dep th ((dep v3.toNatClampNeg) + (nI 1)) (F 15))) ∧ (¬ 0 ≤ v3 → s_X6_lays_th_72 F sta (upd sm (F 15).toNatClampNeg v2) (upd par (F 15).toNatClampNeg v3) (upd mv (F 15).toNatClampNeg v4) dep th (nI 0) (F 15))))))
set_option maxRecDepth 100000 in
set_option maxHeartbeats 4000000 in
theorem e_X6_lays_th_17 {G : ng_GG} {hf : (Nat → Int32) → (Nat → Int32) → (Nat → Int32) → (Nat → Int32) → (Nat → Int32) → (Nat → Int32) → (Nat → Int32) → (Nat → Int32) → (Nat → Int32) → (Nat → Int32) → (Nat → Int32) → (Nat → Int32) → (Nat → Int32) → (Nat → Int32) → (Nat → Int64) → (Nat → Int64) → (Nat → Int32) → ng_AM}  (V : ng_FL hf ) {F : Nat → Int32} {rl : Nat → Int32} {lg : Nat → Int32} {sta : Nat → Int32} {sm : Nat → Int32} {par : Nat → Int32} {mv : Nat → Int32} {dep : Nat → Int32} {nwa : Nat → Int32} {th : Nat → Int32} {bf : Nat → Int32} {row : Nat → Int32} {wid : Nat → Int32} {siz : Nat → Int32} {cel : Nat → Int64} {mvd : Nat → Int64} {ned : Nat → Int32}  {v2 : Int32} {v3 : Int32} {v4 : Int32} (h : s_X6_lays_th_17  F sta sm par mv dep th v2 v3 v4)  : ng_Ev G md_X6_lays 17 [some (.ref 28), none, some (.int v2), some (.int v3), some (.int v4)] [] (hf F rl lg sta sm par mv dep nwa th bf row wid siz cel mvd ned) (K_X6_lays_th hf rl lg nwa th bf row wid siz cel mvd ned (f_X6_lays_th_17  F sta sm par mv dep th v2 v3 v4)) := by
  unfold s_X6_lays_th_17 at h
  unfold f_X6_lays_th_17
  refine ev_aload_n dX6_lays_17 rfl rfl rfl ?_
  refine ev_get 6 8 fl_RX6_20 (FL_g28 V) rfl dX6_lays_18 ?_
  refine ev_aload_n dX6_lays_21 rfl rfl rfl ?_
  refine ev_get 6 15 fl_RX6_179 (FL_g28 V) rfl dX6_lays_22 ?_
  refine ev_iload_n dX6_lays_25 rfl rfl ?_
  have hi26 := h.1
  replace h := h.2
  refine ev_iast (FL_g32 V) hi26 (FL_s32 V) dX6_lays_26 ?_
  refine ev_aload_n dX6_lays_27 rfl rfl rfl ?_
  refine ev_get 6 9 fl_RX6_23 (FL_g28 V) rfl dX6_lays_28 ?_
  refine ev_aload_n dX6_lays_31 rfl rfl rfl ?_
  refine ev_get 6 15 fl_RX6_179 (FL_g28 V) rfl dX6_lays_32 ?_
  refine ev_iload_n dX6_lays_35 rfl rfl ?_
  have hi36 := h.1
  replace h := h.2
  refine ev_iast (FL_g33 V) hi36 (FL_s33 V) dX6_lays_36 ?_
  refine ev_aload_n dX6_lays_37 rfl rfl rfl ?_
  refine ev_get 6 10 fl_RX6_26 (FL_g28 V) rfl dX6_lays_38 ?_
  refine ev_aload_n dX6_lays_41 rfl rfl rfl ?_
  refine ev_get 6 15 fl_RX6_179 (FL_g28 V) rfl dX6_lays_42 ?_
  refine ev_iload dX6_lays_45 rfl ?_
  have hi47 := h.1
  replace h := h.2
  refine ev_iast (FL_g34 V) hi47 (FL_s34 V) dX6_lays_47 ?_
  refine ev_aload_n dX6_lays_48 rfl rfl rfl ?_
  refine ev_get 6 11 fl_RX6_29 (FL_g28 V) rfl dX6_lays_49 ?_
  refine ev_aload_n dX6_lays_52 rfl rfl rfl ?_
  refine ev_get 6 15 fl_RX6_179 (FL_g28 V) rfl dX6_lays_53 ?_
  refine ev_iload_n dX6_lays_56 rfl rfl ?_
  refine bk_if_ge (tgt := 64) dX6_lays_57 (by decide) (fun c57 => ?_) (fun c57 => ?_)
  · replace h := h.1 c57
    refine ev_aload_n dX6_lays_64 rfl rfl rfl ?_
    refine ev_get 6 11 fl_RX6_29 (FL_g28 V) rfl dX6_lays_65 ?_
    refine ev_iload_n dX6_lays_68 rfl rfl ?_
    have hi69 := h.1
    replace h := h.2
    refine ev_iald (FL_g35 V) hi69 dX6_lays_69 ?_
    refine ev_iconst (v := nI 1) dX6_lays_70 (by decide) ?_
    refine ev_iadd dX6_lays_71 ?_
    exact ev_sub (e_X6_lays_th_72 V h) (sub_s (sub_n (sub_n (sub_n (sub_n sub_e)))))
  · replace h := h.2 c57
    refine ev_iconst (v := nI 0) dX6_lays_60 (by decide) ?_
    refine ev_goto (tgt := 72) dX6_lays_61 (by decide) ?_
    exact ev_sub (e_X6_lays_th_72 V h) (sub_s (sub_n (sub_n (sub_n (sub_n sub_e)))))
def f_X6_lays_th  (F : Nat → Int32) (sta : Nat → Int32) (sm : Nat → Int32) (par : Nat → Int32) (mv : Nat → Int32) (dep : Nat → Int32) (th : Nat → Int32) (v2 : Int32) (v3 : Int32) (v4 : Int32) : (Nat → Int32) × (Nat → Int32) × (Nat → Int32) × (Nat → Int32) × (Nat → Int32) × (Nat → Int32) := f_X6_lays_th_17 F (f_X6_copy_ th sta 527 158100 (nI 0) ((nI 527) * (F 15))) sm par mv dep th v2 v3 v4
def s_X6_lays_th  (F : Nat → Int32) (sta : Nat → Int32) (sm : Nat → Int32) (par : Nat → Int32) (mv : Nat → Int32) (dep : Nat → Int32) (th : Nat → Int32) (v2 : Int32) (v3 : Int32) (v4 : Int32) : Prop := (s_X6_copy_ th sta 527 158100 (nI 0) ((nI 527) * (F 15)) ∧ s_X6_lays_th_17 F (f_X6_copy_ th sta 527 158100 (nI 0) ((nI 527) * (F 15))) sm par mv dep th v2 v3 v4)
set_option maxRecDepth 100000 in
set_option maxHeartbeats 4000000 in
theorem e_X6_lays_th {G : ng_GG} {hf : (Nat → Int32) → (Nat → Int32) → (Nat → Int32) → (Nat → Int32) → (Nat → Int32) → (Nat → Int32) → (Nat → Int32) → (Nat → Int32) → (Nat → Int32) → (Nat → Int32) → (Nat → Int32) → (Nat → Int32) → (Nat → Int32) → (Nat → Int32) → (Nat → Int64) → (Nat → Int64) → (Nat → Int32) → ng_AM}  (V : ng_FL hf ) {F : Nat → Int32} {rl : Nat → Int32} {lg : Nat → Int32} {sta : Nat → Int32} {sm : Nat → Int32} {par : Nat → Int32} {mv : Nat → Int32} {dep : Nat → Int32} {nwa : Nat → Int32} {th : Nat → Int32} {bf : Nat → Int32} {row : Nat → Int32} {wid : Nat → Int32} {siz : Nat → Int32} {cel : Nat → Int64} {mvd : Nat → Int64} {ned : Nat → Int32}  {v2 : Int32} {v3 : Int32} {v4 : Int32} (h : s_X6_lays_th  F sta sm par mv dep th v2 v3 v4)  : ng_Ev G md_X6_lays 0 [some (.ref 28), some (.ref 37), some (.int v2), some (.int v3), some (.int v4)] [] (hf F rl lg sta sm par mv dep nwa th bf row wid siz cel mvd ned) (K_X6_lays_th hf rl lg nwa th bf row wid siz cel mvd ned (f_X6_lays_th  F sta sm par mv dep th v2 v3 v4)) := by
  unfold s_X6_lays_th at h
  unfold f_X6_lays_th
  refine ev_aload_n dX6_lays_0 rfl rfl rfl ?_
  refine ev_iconst (v := nI 0) dX6_lays_1 (by decide) ?_
  refine ev_aload_n dX6_lays_2 rfl rfl rfl ?_
  refine ev_get 6 7 fl_RX6_17 (FL_g28 V) rfl dX6_lays_3 ?_
  refine ev_sipush (v := nI 527) dX6_lays_6 (by decide) ?_
  refine ev_aload_n dX6_lays_9 rfl rfl rfl ?_
  refine ev_get 6 15 fl_RX6_179 (FL_g28 V) rfl dX6_lays_10 ?_
  refine ev_imul dX6_lays_13 ?_
  have hs14 := h.1
  replace h := h.2
  refine bk_callS (As := [.ref 37, .int (nI 0), .ref 31, .int ((nI 527) * (F 15))]) (st := []) (st2 := []) (M2 := hf F rl lg (f_X6_copy_ th sta 527 158100 (nI 0) ((nI 527) * (F 15))) sm par mv dep nwa th bf row wid siz cel mvd ned) ok_X6_copy_ lk_RX6_182 (ng_rok.of rfl rfl) rfl rfl rfl rfl dX6_lays_14 (m_X6_copy_ (show ng_CL (fun fr fo => hf F rl lg fo sm par mv dep nwa fr bf row wid siz cel mvd ned) 37 31 527 158100 from ⟨fun _ _ => FL_g37 V, fun _ _ => FL_g31 V, fun _ _ _ => FL_s31 V⟩) hs14) rfl rfl ?_
  exact ev_sub (e_X6_lays_th_17 V h) (sub_s (sub_n (sub_s (sub_s (sub_s sub_e)))))
theorem m_X6_lays_th {G : ng_GG} {hf : (Nat → Int32) → (Nat → Int32) → (Nat → Int32) → (Nat → Int32) → (Nat → Int32) → (Nat → Int32) → (Nat → Int32) → (Nat → Int32) → (Nat → Int32) → (Nat → Int32) → (Nat → Int32) → (Nat → Int32) → (Nat → Int32) → (Nat → Int32) → (Nat → Int64) → (Nat → Int64) → (Nat → Int32) → ng_AM}  (V : ng_FL hf ) {F : Nat → Int32} {rl : Nat → Int32} {lg : Nat → Int32} {sta : Nat → Int32} {sm : Nat → Int32} {par : Nat → Int32} {mv : Nat → Int32} {dep : Nat → Int32} {nwa : Nat → Int32} {th : Nat → Int32} {bf : Nat → Int32} {row : Nat → Int32} {wid : Nat → Int32} {siz : Nat → Int32} {cel : Nat → Int64} {mvd : Nat → Int64} {ned : Nat → Int32} {v2 : Int32} {v3 : Int32} {v4 : Int32} (h : s_X6_lays_th F sta sm par mv dep th v2 v3 v4)  : ng_Ev G md_X6_lays 0 (ng_en 5 [.ref 28, .ref 37, .int v2, .int v3, .int v4]) [] (hf F rl lg sta sm par mv dep nwa th bf row wid siz cel mvd ned) (K_X6_lays_th hf rl lg nwa th bf row wid siz cel mvd ned (f_X6_lays_th F sta sm par mv dep th v2 v3 v4)) := e_X6_lays_th V h 
def K_X6_isThere (hf : (Nat → Int32) → (Nat → Int32) → (Nat → Int32) → (Nat → Int32) → (Nat → Int32) → (Nat → Int32) → (Nat → Int32) → (Nat → Int32) → (Nat → Int32) → (Nat → Int32) → (Nat → Int32) → (Nat → Int32) → (Nat → Int32) → (Nat → Int32) → (Nat → Int64) → (Nat → Int64) → (Nat → Int32) → ng_AM) (F : Nat → Int32) (rl : Nat → Int32) (lg : Nat → Int32) (sta : Nat → Int32) (sm : Nat → Int32) (par : Nat → Int32) (mv : Nat → Int32) (dep : Nat → Int32) (nwa : Nat → Int32) (th : Nat → Int32) (bf : Nat → Int32) (row : Nat → Int32) (wid : Nat → Int32) (siz : Nat → Int32) (cel : Nat → Int64) (mvd : Nat → Int64) (ned : Nat → Int32) (r : Int32) : ng_RR := (some (.int (r)), hf F rl lg sta sm par mv dep nwa th bf row wid siz cel mvd ned)
def f_X6_isThere_70 (kk2 : (Nat → Int32) → (Nat → Int32) → (Nat → Int32) → (Nat → Int32) → Int32 → Int32 → (Int32)) (F : Nat → Int32) (sta : Nat → Int32) (sm : Nat → Int32) (th : Nat → Int32) (v2 : Int32) (v3 : Int32) : Int32 := kk2 F sta sm th v2 (v3 + nI 1)
def s_X6_isThere_70 (sk2 : (Nat → Int32) → (Nat → Int32) → (Nat → Int32) → (Nat → Int32) → Int32 → Int32 → Prop) (F : Nat → Int32) (sta : Nat → Int32) (sm : Nat → Int32) (th : Nat → Int32) (v2 : Int32) (v3 : Int32) : Prop := sk2 F sta sm th v2 (v3 + nI 1)
set_option maxRecDepth 100000 in
set_option maxHeartbeats 4000000 in
theorem e_X6_isThere_70 {G : ng_GG} {hf : (Nat → Int32) → (Nat → Int32) → (Nat → Int32) → (Nat → Int32) → (Nat → Int32) → (Nat → Int32) → (Nat → Int32) → (Nat → Int32) → (Nat → Int32) → (Nat → Int32) → (Nat → Int32) → (Nat → Int32) → (Nat → Int32) → (Nat → Int32) → (Nat → Int64) → (Nat → Int64) → (Nat → Int32) → ng_AM}  (V : ng_FL hf ) {F : Nat → Int32} {rl : Nat → Int32} {lg : Nat → Int32} {sta : Nat → Int32} {sm : Nat → Int32} {par : Nat → Int32} {mv : Nat → Int32} {dep : Nat → Int32} {nwa : Nat → Int32} {th : Nat → Int32} {bf : Nat → Int32} {row : Nat → Int32} {wid : Nat → Int32} {siz : Nat → Int32} {cel : Nat → Int64} {mvd : Nat → Int64} {ned : Nat → Int32} {kk2 : (Nat → Int32) → (Nat → Int32) → (Nat → Int32) → (Nat → Int32) → Int32 → Int32 → (Int32)} {sk2 : (Nat → Int32) → (Nat → Int32) → (Nat → Int32) → (Nat → Int32) → Int32 → Int32 → Prop} (hk2 : ∀ (F : Nat → Int32) (rl : Nat → Int32) (lg : Nat → Int32) (sta : Nat → Int32) (sm : Nat → Int32) (par : Nat → Int32) (mv : Nat → Int32) (dep : Nat → Int32) (nwa : Nat → Int32) (th : Nat → Int32) (bf : Nat → Int32) (row : Nat → Int32) (wid : Nat → Int32) (siz : Nat → Int32) (cel : Nat → Int64) (mvd : Nat → Int64) (ned : Nat → Int32) (v2 : Int32) (v3 : Int32), sk2 F sta sm th v2 v3 → ng_Ev G md_X6_isThere 2 [some (.ref 28), some (.ref 37), some (.int v2), some (.int v3), none] [] (hf F rl lg sta sm par mv dep nwa th bf row wid siz cel mvd ned) (K_X6_isThere hf F rl lg sta sm par mv dep nwa th bf row wid siz cel mvd ned (kk2 F sta sm th v2 v3))) {v2 : Int32} {v3 : Int32} (h : s_X6_isThere_70 sk2 F sta sm th v2 v3)  : ng_Ev G md_X6_isThere 70 [some (.ref 28), some (.ref 37), some (.int v2), some (.int v3), none] [] (hf F rl lg sta sm par mv dep nwa th bf row wid siz cel mvd ned) (K_X6_isThere hf F rl lg sta sm par mv dep nwa th bf row wid siz cel mvd ned (f_X6_isThere_70 kk2 F sta sm th v2 v3)) := by
  unfold s_X6_isThere_70 at h
  unfold f_X6_isThere_70
  refine ev_iinc (v := v3 + nI 1) (L' := [some (.ref 28), some (.ref 37), some (.int v2), some (.int (v3 + nI 1)), none]) dX6_isThere_70 rfl (by rfl) rfl ?_
  refine ev_goto (tgt := 2) dX6_isThere_73 (by decide) ?_
  exact ev_sub (hk2 F rl lg sta sm par mv dep nwa th bf row wid siz cel mvd ned v2 (v3 + nI 1) h) (sub_s (sub_s (sub_s (sub_s (sub_n sub_e)))))
def f_X6_isThere_60 (kk2 : (Nat → Int32) → (Nat → Int32) → (Nat → Int32) → (Nat → Int32) → Int32 → Int32 → (Int32)) (F : Nat → Int32) (sta : Nat → Int32) (sm : Nat → Int32) (th : Nat → Int32) (v2 : Int32) (v3 : Int32) (v4 : Int32) : Int32 := (if v4 = (nI 527) then nI 1 else f_X6_isThere_70 kk2 F sta sm th v2 v3)
def s_X6_isThere_60 (sk2 : (Nat → Int32) → (Nat → Int32) → (Nat → Int32) → (Nat → Int32) → Int32 → Int32 → Prop) (F : Nat → Int32) (sta : Nat → Int32) (sm : Nat → Int32) (th : Nat → Int32) (v2 : Int32) (v3 : Int32) (v4 : Int32) : Prop := (¬ v4 = (nI 527) → s_X6_isThere_70 sk2 F sta sm th v2 v3)
set_option maxRecDepth 100000 in
set_option maxHeartbeats 4000000 in
theorem e_X6_isThere_60 {G : ng_GG} {hf : (Nat → Int32) → (Nat → Int32) → (Nat → Int32) → (Nat → Int32) → (Nat → Int32) → (Nat → Int32) → (Nat → Int32) → (Nat → Int32) → (Nat → Int32) → (Nat → Int32) → (Nat → Int32) → (Nat → Int32) → (Nat → Int32) → (Nat → Int32) → (Nat → Int64) → (Nat → Int64) → (Nat → Int32) → ng_AM}  (V : ng_FL hf ) {F : Nat → Int32} {rl : Nat → Int32} {lg : Nat → Int32} {sta : Nat → Int32} {sm : Nat → Int32} {par : Nat → Int32} {mv : Nat → Int32} {dep : Nat → Int32} {nwa : Nat → Int32} {th : Nat → Int32} {bf : Nat → Int32} {row : Nat → Int32} {wid : Nat → Int32} {siz : Nat → Int32} {cel : Nat → Int64} {mvd : Nat → Int64} {ned : Nat → Int32} {kk2 : (Nat → Int32) → (Nat → Int32) → (Nat → Int32) → (Nat → Int32) → Int32 → Int32 → (Int32)} {sk2 : (Nat → Int32) → (Nat → Int32) → (Nat → Int32) → (Nat → Int32) → Int32 → Int32 → Prop} (hk2 : ∀ (F : Nat → Int32) (rl : Nat → Int32) (lg : Nat → Int32) (sta : Nat → Int32) (sm : Nat → Int32) (par : Nat → Int32) (mv : Nat → Int32) (dep : Nat → Int32) (nwa : Nat → Int32) (th : Nat → Int32) (bf : Nat → Int32) (row : Nat → Int32) (wid : Nat → Int32) (siz : Nat → Int32) (cel : Nat → Int64) (mvd : Nat → Int64) (ned : Nat → Int32) (v2 : Int32) (v3 : Int32), sk2 F sta sm th v2 v3 → ng_Ev G md_X6_isThere 2 [some (.ref 28), some (.ref 37), some (.int v2), some (.int v3), none] [] (hf F rl lg sta sm par mv dep nwa th bf row wid siz cel mvd ned) (K_X6_isThere hf F rl lg sta sm par mv dep nwa th bf row wid siz cel mvd ned (kk2 F sta sm th v2 v3))) {v2 : Int32} {v3 : Int32} {v4 : Int32} (h : s_X6_isThere_60 sk2 F sta sm th v2 v3 v4)  : ng_Ev G md_X6_isThere 60 [some (.ref 28), some (.ref 37), some (.int v2), some (.int v3), some (.int v4)] [] (hf F rl lg sta sm par mv dep nwa th bf row wid siz cel mvd ned) (K_X6_isThere hf F rl lg sta sm par mv dep nwa th bf row wid siz cel mvd ned (f_X6_isThere_60 kk2 F sta sm th v2 v3 v4)) := by
  unfold s_X6_isThere_60 at h
  unfold f_X6_isThere_60
  refine ev_iload dX6_isThere_60 rfl ?_
  refine ev_sipush (v := nI 527) dX6_isThere_62 (by decide) ?_
  refine bk_icmp_ne (tgt := 70) dX6_isThere_65 (by decide) (fun c65 => ?_) (fun c65 => ?_)
  · replace h := h c65
    exact ev_sub (e_X6_isThere_70 V hk2 h) (sub_s (sub_s (sub_s (sub_s (sub_n sub_e)))))
  · refine ev_iconst (v := nI 1) dX6_isThere_68 (by decide) ?_
    exact ev_iret rfl (by decide) dX6_isThere_69
def f_X6_isThere_26 (kk2 : (Nat → Int32) → (Nat → Int32) → (Nat → Int32) → (Nat → Int32) → Int32 → Int32 → (Int32)) : Nat → (Nat → Int32) → (Nat → Int32) → (Nat → Int32) → (Nat → Int32) → Int32 → Int32 → Int32 → (Int32)
  | 0, _, _, _, _, _, _, _ => 0
  | n + 1, F, sta, sm, th, v2, v3, v4 => (if (nI 527) ≤ v4 then f_X6_isThere_60 kk2 F sta sm th v2 v3 v4 else (if (sta (((nI 527) * v3) + v4).toNatClampNeg) = (th v4.toNatClampNeg) then f_X6_isThere_26 kk2 n F sta sm th v2 v3 (v4 + nI 1) else f_X6_isThere_60 kk2 F sta sm th v2 v3 v4))
def s_X6_isThere_26 (sk2 : (Nat → Int32) → (Nat → Int32) → (Nat → Int32) → (Nat → Int32) → Int32 → Int32 → Prop) : Nat → (Nat → Int32) → (Nat → Int32) → (Nat → Int32) → (Nat → Int32) → Int32 → Int32 → Int32 → Prop
  | 0, _, _, _, _, _, _, _ => False
  | n + 1, F, sta, sm, th, v2, v3, v4 => (((nI 527) ≤ v4 → s_X6_isThere_60 sk2 F sta sm th v2 v3 v4) ∧ (¬ (nI 527) ≤ v4 → (vp_in (((nI 527) * v3) + v4) 158100 ∧ (vp_in v4 527 ∧ (((sta (((nI 527) * v3) + v4).toNatClampNeg) = (th v4.toNatClampNeg) → s_X6_isThere_26 sk2 n F sta sm th v2 v3 (v4 + nI 1)) ∧ (¬ (sta (((nI 527) * v3) + v4).toNatClampNeg) = (th v4.toNatClampNeg) → s_X6_isThere_60 sk2 F sta sm th v2 v3 v4))))))
set_option maxRecDepth 100000 in
set_option maxHeartbeats 4000000 in
theorem e_X6_isThere_26 {G : ng_GG} {hf : (Nat → Int32) → (Nat → Int32) → (Nat → Int32) → (Nat → Int32) → (Nat → Int32) → (Nat → Int32) → (Nat → Int32) → (Nat → Int32) → (Nat → Int32) → (Nat → Int32) → (Nat → Int32) → (Nat → Int32) → (Nat → Int32) → (Nat → Int32) → (Nat → Int64) → (Nat → Int64) → (Nat → Int32) → ng_AM}  (V : ng_FL hf ) {kk2 : (Nat → Int32) → (Nat → Int32) → (Nat → Int32) → (Nat → Int32) → Int32 → Int32 → (Int32)} {sk2 : (Nat → Int32) → (Nat → Int32) → (Nat → Int32) → (Nat → Int32) → Int32 → Int32 → Prop} (hk2 : ∀ (F : Nat → Int32) (rl : Nat → Int32) (lg : Nat → Int32) (sta : Nat → Int32) (sm : Nat → Int32) (par : Nat → Int32) (mv : Nat → Int32) (dep : Nat → Int32) (nwa : Nat → Int32) (th : Nat → Int32) (bf : Nat → Int32) (row : Nat → Int32) (wid : Nat → Int32) (siz : Nat → Int32) (cel : Nat → Int64) (mvd : Nat → Int64) (ned : Nat → Int32) (v2 : Int32) (v3 : Int32), sk2 F sta sm th v2 v3 → ng_Ev G md_X6_isThere 2 [some (.ref 28), some (.ref 37), some (.int v2), some (.int v3), none] [] (hf F rl lg sta sm par mv dep nwa th bf row wid siz cel mvd ned) (K_X6_isThere hf F rl lg sta sm par mv dep nwa th bf row wid siz cel mvd ned (kk2 F sta sm th v2 v3))) : ∀ (n : Nat) (F : Nat → Int32) (rl : Nat → Int32) (lg : Nat → Int32) (sta : Nat → Int32) (sm : Nat → Int32) (par : Nat → Int32) (mv : Nat → Int32) (dep : Nat → Int32) (nwa : Nat → Int32) (th : Nat → Int32) (bf : Nat → Int32) (row : Nat → Int32) (wid : Nat → Int32) (siz : Nat → Int32) (cel : Nat → Int64) (mvd : Nat → Int64) (ned : Nat → Int32) (v2 : Int32) (v3 : Int32) (v4 : Int32), s_X6_isThere_26 sk2 n F sta sm th v2 v3 v4 → ng_Ev G md_X6_isThere 26 [some (.ref 28), some (.ref 37), some (.int v2), some (.int v3), some (.int v4)] [] (hf F rl lg sta sm par mv dep nwa th bf row wid siz cel mvd ned) (K_X6_isThere hf F rl lg sta sm par mv dep nwa th bf row wid siz cel mvd ned (f_X6_isThere_26 kk2 n F sta sm th v2 v3 v4)) := by
  intro n
  induction n with
  | zero => intro F rl lg sta sm par mv dep nwa th bf row wid siz cel mvd ned v2 v3 v4 h; exact False.elim h
  | succ n ih =>
    intro F rl lg sta sm par mv dep nwa th bf row wid siz cel mvd ned v2 v3 v4 h 
    rw [s_X6_isThere_26] at h
    rw [f_X6_isThere_26]
    refine ev_iload dX6_isThere_26 rfl ?_
    refine ev_sipush (v := nI 527) dX6_isThere_28 (by decide) ?_
    refine bk_icmp_ge (tgt := 60) dX6_isThere_31 (by decide) (fun c31 => ?_) (fun c31 => ?_)
    · replace h := h.1 c31
      exact ev_sub (e_X6_isThere_60 V hk2 h) (sub_s (sub_s (sub_s (sub_s (sub_s sub_e)))))
    · replace h := h.2 c31
      refine ev_aload_n dX6_isThere_34 rfl rfl rfl ?_
      refine ev_get 6 7 fl_RX6_17 (FL_g28 V) rfl dX6_isThere_35 ?_
      refine ev_sipush (v := nI 527) dX6_isThere_38 (by decide) ?_
      refine ev_iload_n dX6_isThere_41 rfl rfl ?_
      refine ev_imul dX6_isThere_42 ?_
      refine ev_iload dX6_isThere_43 rfl ?_
      refine ev_iadd dX6_isThere_45 ?_
      have hi46 := h.1
      replace h := h.2
      refine ev_iald (FL_g31 V) hi46 dX6_isThere_46 ?_
      refine ev_aload_n dX6_isThere_47 rfl rfl rfl ?_
      refine ev_iload dX6_isThere_48 rfl ?_
      have hi50 := h.1
      replace h := h.2
      refine ev_iald (FL_g37 V) hi50 dX6_isThere_50 ?_
      refine bk_icmp_ne (tgt := 60) dX6_isThere_51 (by decide) (fun c51 => ?_) (fun c51 => ?_)
      · replace h := h.2 c51
        exact ev_sub (e_X6_isThere_60 V hk2 h) (sub_s (sub_s (sub_s (sub_s (sub_s sub_e)))))
      · replace h := h.1 c51
        refine ev_iinc (v := v4 + nI 1) (L' := [some (.ref 28), some (.ref 37), some (.int v2), some (.int v3), some (.int (v4 + nI 1))]) dX6_isThere_54 rfl (by rfl) rfl ?_
        refine ev_goto (tgt := 26) dX6_isThere_57 (by decide) ?_
        exact ev_sub (ih F rl lg sta sm par mv dep nwa th bf row wid siz cel mvd ned v2 v3 (v4 + nI 1) h) (sub_s (sub_s (sub_s (sub_s (sub_s sub_e)))))
def f_X6_isThere_2  : Nat → (Nat → Int32) → (Nat → Int32) → (Nat → Int32) → (Nat → Int32) → Int32 → Int32 → (Int32)
  | 0, _, _, _, _, _, _ => 0
  | n + 1, F, sta, sm, th, v2, v3 => (if (F 15) ≤ v3 then nI 0 else (if (sm v3.toNatClampNeg) = v2 then f_X6_isThere_26 (f_X6_isThere_2 n) ng_F F sta sm th v2 v3 (nI 0) else f_X6_isThere_70 (f_X6_isThere_2 n) F sta sm th v2 v3))
def s_X6_isThere_2  : Nat → (Nat → Int32) → (Nat → Int32) → (Nat → Int32) → (Nat → Int32) → Int32 → Int32 → Prop
  | 0, _, _, _, _, _, _ => False
  | n + 1, F, sta, sm, th, v2, v3 => (¬ (F 15) ≤ v3 → (vp_in v3 300 ∧ (((sm v3.toNatClampNeg) = v2 → s_X6_isThere_26 (s_X6_isThere_2 n) ng_F F sta sm th v2 v3 (nI 0)) ∧ (¬ (sm v3.toNatClampNeg) = v2 → s_X6_isThere_70 (s_X6_isThere_2 n) F sta sm th v2 v3))))
set_option maxRecDepth 100000 in
set_option maxHeartbeats 4000000 in
theorem e_X6_isThere_2 {G : ng_GG} {hf : (Nat → Int32) → (Nat → Int32) → (Nat → Int32) → (Nat → Int32) → (Nat → Int32) → (Nat → Int32) → (Nat → Int32) → (Nat → Int32) → (Nat → Int32) → (Nat → Int32) → (Nat → Int32) → (Nat → Int32) → (Nat → Int32) → (Nat → Int32) → (Nat → Int64) → (Nat → Int64) → (Nat → Int32) → ng_AM}  (V : ng_FL hf )  : ∀ (n : Nat) (F : Nat → Int32) (rl : Nat → Int32) (lg : Nat → Int32) (sta : Nat → Int32) (sm : Nat → Int32) (par : Nat → Int32) (mv : Nat → Int32) (dep : Nat → Int32) (nwa : Nat → Int32) (th : Nat → Int32) (bf : Nat → Int32) (row : Nat → Int32) (wid : Nat → Int32) (siz : Nat → Int32) (cel : Nat → Int64) (mvd : Nat → Int64) (ned : Nat → Int32) (v2 : Int32) (v3 : Int32), s_X6_isThere_2  n F sta sm th v2 v3 → ng_Ev G md_X6_isThere 2 [some (.ref 28), some (.ref 37), some (.int v2), some (.int v3), none] [] (hf F rl lg sta sm par mv dep nwa th bf row wid siz cel mvd ned) (K_X6_isThere hf F rl lg sta sm par mv dep nwa th bf row wid siz cel mvd ned (f_X6_isThere_2  n F sta sm th v2 v3)) := by
  intro n
  induction n with
  | zero => intro F rl lg sta sm par mv dep nwa th bf row wid siz cel mvd ned v2 v3 h; exact False.elim h
  | succ n ih =>
    intro F rl lg sta sm par mv dep nwa th bf row wid siz cel mvd ned v2 v3 h 
    rw [s_X6_isThere_2] at h
    rw [f_X6_isThere_2]
    refine ev_iload_n dX6_isThere_2 rfl rfl ?_
    refine ev_aload_n dX6_isThere_3 rfl rfl rfl ?_
    refine ev_get 6 15 fl_RX6_179 (FL_g28 V) rfl dX6_isThere_4 ?_
    refine bk_icmp_ge (tgt := 76) dX6_isThere_7 (by decide) (fun c7 => ?_) (fun c7 => ?_)
    · refine ev_iconst (v := nI 0) dX6_isThere_76 (by decide) ?_
      exact ev_iret rfl (by decide) dX6_isThere_77
    · replace h := h c7
      refine ev_aload_n dX6_isThere_10 rfl rfl rfl ?_
      refine ev_get 6 8 fl_RX6_20 (FL_g28 V) rfl dX6_isThere_11 ?_
      refine ev_iload_n dX6_isThere_14 rfl rfl ?_
      have hi15 := h.1
      replace h := h.2
      refine ev_iald (FL_g32 V) hi15 dX6_isThere_15 ?_
      refine ev_iload_n dX6_isThere_16 rfl rfl ?_
      refine bk_icmp_eq (tgt := 23) dX6_isThere_17 (by decide) (fun c17 => ?_) (fun c17 => ?_)
      · replace h := h.1 c17
        refine ev_iconst (v := nI 0) dX6_isThere_23 (by decide) ?_
        refine ev_istore (L' := [some (.ref 28), some (.ref 37), some (.int v2), some (.int v3), some (.int (nI 0))]) dX6_isThere_24 (ng_lt rfl) rfl ?_
        exact ev_sub (e_X6_isThere_26 V ih ng_F F rl lg sta sm par mv dep nwa th bf row wid siz cel mvd ned v2 v3 (nI 0) h) (sub_s (sub_s (sub_s (sub_s (sub_s sub_e)))))
      · replace h := h.2 c17
        refine ev_goto (tgt := 70) dX6_isThere_20 (by decide) ?_
        exact ev_sub (e_X6_isThere_70 V ih h) (sub_s (sub_s (sub_s (sub_s (sub_n sub_e)))))
def f_X6_isThere  (F : Nat → Int32) (sta : Nat → Int32) (sm : Nat → Int32) (th : Nat → Int32) (v2 : Int32) : Int32 := f_X6_isThere_2 ng_F F sta sm th v2 (nI 0)
def s_X6_isThere  (F : Nat → Int32) (sta : Nat → Int32) (sm : Nat → Int32) (th : Nat → Int32) (v2 : Int32) : Prop := s_X6_isThere_2 ng_F F sta sm th v2 (nI 0)
set_option maxRecDepth 100000 in
set_option maxHeartbeats 4000000 in
theorem e_X6_isThere {G : ng_GG} {hf : (Nat → Int32) → (Nat → Int32) → (Nat → Int32) → (Nat → Int32) → (Nat → Int32) → (Nat → Int32) → (Nat → Int32) → (Nat → Int32) → (Nat → Int32) → (Nat → Int32) → (Nat → Int32) → (Nat → Int32) → (Nat → Int32) → (Nat → Int32) → (Nat → Int64) → (Nat → Int64) → (Nat → Int32) → ng_AM}  (V : ng_FL hf ) {F : Nat → Int32} {rl : Nat → Int32} {lg : Nat → Int32} {sta : Nat → Int32} {sm : Nat → Int32} {par : Nat → Int32} {mv : Nat → Int32} {dep : Nat → Int32} {nwa : Nat → Int32} {th : Nat → Int32} {bf : Nat → Int32} {row : Nat → Int32} {wid : Nat → Int32} {siz : Nat → Int32} {cel : Nat → Int64} {mvd : Nat → Int64} {ned : Nat → Int32}  {v2 : Int32} (h : s_X6_isThere  F sta sm th v2)  : ng_Ev G md_X6_isThere 0 [some (.ref 28), some (.ref 37), some (.int v2), none, none] [] (hf F rl lg sta sm par mv dep nwa th bf row wid siz cel mvd ned) (K_X6_isThere hf F rl lg sta sm par mv dep nwa th bf row wid siz cel mvd ned (f_X6_isThere  F sta sm th v2)) := by
  unfold s_X6_isThere at h
  unfold f_X6_isThere
  refine ev_iconst (v := nI 0) dX6_isThere_0 (by decide) ?_
  refine ev_istore_n (L' := [some (.ref 28), some (.ref 37), some (.int v2), some (.int (nI 0)), none]) dX6_isThere_1 rfl (ng_lt rfl) rfl ?_
  exact ev_sub (e_X6_isThere_2 V ng_F F rl lg sta sm par mv dep nwa th bf row wid siz cel mvd ned v2 (nI 0) h) (sub_s (sub_s (sub_s (sub_s (sub_n sub_e)))))
theorem m_X6_isThere {G : ng_GG} {hf : (Nat → Int32) → (Nat → Int32) → (Nat → Int32) → (Nat → Int32) → (Nat → Int32) → (Nat → Int32) → (Nat → Int32) → (Nat → Int32) → (Nat → Int32) → (Nat → Int32) → (Nat → Int32) → (Nat → Int32) → (Nat → Int32) → (Nat → Int32) → (Nat → Int64) → (Nat → Int64) → (Nat → Int32) → ng_AM}  (V : ng_FL hf ) {F : Nat → Int32} {rl : Nat → Int32} {lg : Nat → Int32} {sta : Nat → Int32} {sm : Nat → Int32} {par : Nat → Int32} {mv : Nat → Int32} {dep : Nat → Int32} {nwa : Nat → Int32} {th : Nat → Int32} {bf : Nat → Int32} {row : Nat → Int32} {wid : Nat → Int32} {siz : Nat → Int32} {cel : Nat → Int64} {mvd : Nat → Int64} {ned : Nat → Int32} {v2 : Int32} (h : s_X6_isThere F sta sm th v2)  : ng_Ev G md_X6_isThere 0 (ng_en 5 [.ref 28, .ref 37, .int v2]) [] (hf F rl lg sta sm par mv dep nwa th bf row wid siz cel mvd ned) (K_X6_isThere hf F rl lg sta sm par mv dep nwa th bf row wid siz cel mvd ned (f_X6_isThere F sta sm th v2)) := e_X6_isThere V h 
def K_X6_search (hf : (Nat → Int32) → (Nat → Int32) → (Nat → Int32) → (Nat → Int32) → (Nat → Int32) → (Nat → Int32) → (Nat → Int32) → (Nat → Int32) → (Nat → Int32) → (Nat → Int32) → (Nat → Int32) → (Nat → Int32) → (Nat → Int32) → (Nat → Int32) → (Nat → Int64) → (Nat → Int64) → (Nat → Int32) → ng_AM) (rl : Nat → Int32) (nwa : Nat → Int32) (bf : Nat → Int32) (row : Nat → Int32) (wid : Nat → Int32) (siz : Nat → Int32) (cel : Nat → Int64) (mvd : Nat → Int64) (ned : Nat → Int32) (r : (Nat → Int32) × (Nat → Int32) × (Nat → Int32) × (Nat → Int32) × (Nat → Int32) × (Nat → Int32) × (Nat → Int32) × (Nat → Int32) × Int32) : ng_RR := (some (.int (r.2.2.2.2.2.2.2.2)), hf (r.1) rl (r.2.1) (r.2.2.1) (r.2.2.2.1) (r.2.2.2.2.1) (r.2.2.2.2.2.1) (r.2.2.2.2.2.2.1) nwa (r.2.2.2.2.2.2.2.1) bf row wid siz cel mvd ned)
def f_X6_search_197  (F : Nat → Int32) (lg : Nat → Int32) (sta : Nat → Int32) (sm : Nat → Int32) (par : Nat → Int32) (mv : Nat → Int32) (dep : Nat → Int32) (th : Nat → Int32) (bf : Nat → Int32) (v7 : Int32) (v8 : Int32) : (Nat → Int32) × (Nat → Int32) × (Nat → Int32) × (Nat → Int32) × (Nat → Int32) × (Nat → Int32) × (Nat → Int32) × (Nat → Int32) × Int32 := ((upd (upd F 25 v8) 26 v7), lg, sta, sm, par, mv, dep, th, ((dep v7.toNatClampNeg) + (nI 1)))
def s_X6_search_197  (F : Nat → Int32) (lg : Nat → Int32) (sta : Nat → Int32) (sm : Nat → Int32) (par : Nat → Int32) (mv : Nat → Int32) (dep : Nat → Int32) (th : Nat → Int32) (bf : Nat → Int32) (v7 : Int32) (v8 : Int32) : Prop := vp_in v7 300
set_option maxRecDepth 100000 in
set_option maxHeartbeats 4000000 in
theorem e_X6_search_197 {G : ng_GG} {hf : (Nat → Int32) → (Nat → Int32) → (Nat → Int32) → (Nat → Int32) → (Nat → Int32) → (Nat → Int32) → (Nat → Int32) → (Nat → Int32) → (Nat → Int32) → (Nat → Int32) → (Nat → Int32) → (Nat → Int32) → (Nat → Int32) → (Nat → Int32) → (Nat → Int64) → (Nat → Int64) → (Nat → Int32) → ng_AM}  (V : ng_FL hf ) {F : Nat → Int32} {rl : Nat → Int32} {lg : Nat → Int32} {sta : Nat → Int32} {sm : Nat → Int32} {par : Nat → Int32} {mv : Nat → Int32} {dep : Nat → Int32} {nwa : Nat → Int32} {th : Nat → Int32} {bf : Nat → Int32} {row : Nat → Int32} {wid : Nat → Int32} {siz : Nat → Int32} {cel : Nat → Int64} {mvd : Nat → Int64} {ned : Nat → Int32}  {v7 : Int32} {v8 : Int32} (h : s_X6_search_197  F lg sta sm par mv dep th bf v7 v8)  : ng_Ev G md_X6_search 197 [some (.ref 28), none, none, none, none, none, none, some (.int v7), some (.int v8), none] [] (hf F rl lg sta sm par mv dep nwa th bf row wid siz cel mvd ned) (K_X6_search hf rl nwa bf row wid siz cel mvd ned (f_X6_search_197  F lg sta sm par mv dep th bf v7 v8)) := by
  unfold s_X6_search_197 at h
  unfold f_X6_search_197
  refine ev_aload_n dX6_search_197 rfl rfl rfl ?_
  refine ev_iload dX6_search_198 rfl ?_
  refine ev_put 6 25 fs_RX6_203 (FL_g28 V) (ng_lt rfl) rfl (FL_s28 V (F' := (upd F 25 v8))) (ng_fit_i _) dX6_search_200 ?_
  refine ev_aload_n dX6_search_203 rfl rfl rfl ?_
  refine ev_iload dX6_search_204 rfl ?_
  refine ev_put 6 26 fs_RX6_186 (FL_g28 V) (ng_lt rfl) rfl (FL_s28 V (F' := (upd (upd F 25 v8) 26 v7))) (ng_fit_i _) dX6_search_206 ?_
  refine ev_aload_n dX6_search_209 rfl rfl rfl ?_
  refine ev_get 6 11 fl_RX6_29 (FL_g28 V) rfl dX6_search_210 ?_
  refine ev_iload dX6_search_213 rfl ?_
  have hi215 := h
  refine ev_iald (FL_g35 V) hi215 dX6_search_215 ?_
  refine ev_iconst (v := nI 1) dX6_search_216 (by decide) ?_
  refine ev_iadd dX6_search_217 ?_
  exact ev_iret rfl rfl dX6_search_218
def f_X6_search_271 (kk39 : (Nat → Int32) → (Nat → Int32) → (Nat → Int32) → (Nat → Int32) → (Nat → Int32) → (Nat → Int32) → (Nat → Int32) → (Nat → Int32) → (Nat → Int32) → Int32 → Int32 → Int32 → Int32 → Int32 → Int32 → ((Nat → Int32) × (Nat → Int32) × (Nat → Int32) × (Nat → Int32) × (Nat → Int32) × (Nat → Int32) × (Nat → Int32) × (Nat → Int32) × Int32)) (kk66 : (Nat → Int32) → (Nat → Int32) → (Nat → Int32) → (Nat → Int32) → (Nat → Int32) → (Nat → Int32) → (Nat → Int32) → (Nat → Int32) → (Nat → Int32) → Int32 → Int32 → Int32 → Int32 → Int32 → Int32 → Int32 → ((Nat → Int32) × (Nat → Int32) × (Nat → Int32) × (Nat → Int32) × (Nat → Int32) × (Nat → Int32) × (Nat → Int32) × (Nat → Int32) × Int32)) (F : Nat → Int32) (lg : Nat → Int32) (sta : Nat → Int32) (sm : Nat → Int32) (par : Nat → Int32) (mv : Nat → Int32) (dep : Nat → Int32) (th : Nat → Int32) (bf : Nat → Int32) (v2 : Int32) (v3 : Int32) (v4 : Int32) (v5 : Int32) (v6 : Int32) (v7 : Int32) (v8 : Int32) : (Nat → Int32) × (Nat → Int32) × (Nat → Int32) × (Nat → Int32) × (Nat → Int32) × (Nat → Int32) × (Nat → Int32) × (Nat → Int32) × Int32 := kk66 F lg sta sm par mv dep th bf v2 v3 v4 v5 v6 v7 (v8 + nI 1)
def s_X6_search_271 (sk39 : (Nat → Int32) → (Nat → Int32) → (Nat → Int32) → (Nat → Int32) → (Nat → Int32) → (Nat → Int32) → (Nat → Int32) → (Nat → Int32) → (Nat → Int32) → Int32 → Int32 → Int32 → Int32 → Int32 → Int32 → Prop) (sk66 : (Nat → Int32) → (Nat → Int32) → (Nat → Int32) → (Nat → Int32) → (Nat → Int32) → (Nat → Int32) → (Nat → Int32) → (Nat → Int32) → (Nat → Int32) → Int32 → Int32 → Int32 → Int32 → Int32 → Int32 → Int32 → Prop) (F : Nat → Int32) (lg : Nat → Int32) (sta : Nat → Int32) (sm : Nat → Int32) (par : Nat → Int32) (mv : Nat → Int32) (dep : Nat → Int32) (th : Nat → Int32) (bf : Nat → Int32) (v2 : Int32) (v3 : Int32) (v4 : Int32) (v5 : Int32) (v6 : Int32) (v7 : Int32) (v8 : Int32) : Prop := sk66 F lg sta sm par mv dep th bf v2 v3 v4 v5 v6 v7 (v8 + nI 1)
set_option maxRecDepth 100000 in
set_option maxHeartbeats 4000000 in
theorem e_X6_search_271 {G : ng_GG} {hf : (Nat → Int32) → (Nat → Int32) → (Nat → Int32) → (Nat → Int32) → (Nat → Int32) → (Nat → Int32) → (Nat → Int32) → (Nat → Int32) → (Nat → Int32) → (Nat → Int32) → (Nat → Int32) → (Nat → Int32) → (Nat → Int32) → (Nat → Int32) → (Nat → Int64) → (Nat → Int64) → (Nat → Int32) → ng_AM}  (V : ng_FL hf ) {F : Nat → Int32} {rl : Nat → Int32} {lg : Nat → Int32} {sta : Nat → Int32} {sm : Nat → Int32} {par : Nat → Int32} {mv : Nat → Int32} {dep : Nat → Int32} {nwa : Nat → Int32} {th : Nat → Int32} {bf : Nat → Int32} {row : Nat → Int32} {wid : Nat → Int32} {siz : Nat → Int32} {cel : Nat → Int64} {mvd : Nat → Int64} {ned : Nat → Int32} {kk39 : (Nat → Int32) → (Nat → Int32) → (Nat → Int32) → (Nat → Int32) → (Nat → Int32) → (Nat → Int32) → (Nat → Int32) → (Nat → Int32) → (Nat → Int32) → Int32 → Int32 → Int32 → Int32 → Int32 → Int32 → ((Nat → Int32) × (Nat → Int32) × (Nat → Int32) × (Nat → Int32) × (Nat → Int32) × (Nat → Int32) × (Nat → Int32) × (Nat → Int32) × Int32)} {sk39 : (Nat → Int32) → (Nat → Int32) → (Nat → Int32) → (Nat → Int32) → (Nat → Int32) → (Nat → Int32) → (Nat → Int32) → (Nat → Int32) → (Nat → Int32) → Int32 → Int32 → Int32 → Int32 → Int32 → Int32 → Prop} {kk66 : (Nat → Int32) → (Nat → Int32) → (Nat → Int32) → (Nat → Int32) → (Nat → Int32) → (Nat → Int32) → (Nat → Int32) → (Nat → Int32) → (Nat → Int32) → Int32 → Int32 → Int32 → Int32 → Int32 → Int32 → Int32 → ((Nat → Int32) × (Nat → Int32) × (Nat → Int32) × (Nat → Int32) × (Nat → Int32) × (Nat → Int32) × (Nat → Int32) × (Nat → Int32) × Int32)} {sk66 : (Nat → Int32) → (Nat → Int32) → (Nat → Int32) → (Nat → Int32) → (Nat → Int32) → (Nat → Int32) → (Nat → Int32) → (Nat → Int32) → (Nat → Int32) → Int32 → Int32 → Int32 → Int32 → Int32 → Int32 → Int32 → Prop} (hk39 : ∀ (F : Nat → Int32) (rl : Nat → Int32) (lg : Nat → Int32) (sta : Nat → Int32) (sm : Nat → Int32) (par : Nat → Int32) (mv : Nat → Int32) (dep : Nat → Int32) (nwa : Nat → Int32) (th : Nat → Int32) (bf : Nat → Int32) (row : Nat → Int32) (wid : Nat → Int32) (siz : Nat → Int32) (cel : Nat → Int64) (mvd : Nat → Int64) (ned : Nat → Int32) (v2 : Int32) (v3 : Int32) (v4 : Int32) (v5 : Int32) (v6 : Int32) (v7 : Int32), sk39 F lg sta sm par mv dep th bf v2 v3 v4 v5 v6 v7 → ng_Ev G md_X6_search 39 [some (.ref 28), none, some (.int v2), some (.int v3), some (.int v4), some (.int v5), some (.int v6), some (.int v7), none, none] [] (hf F rl lg sta sm par mv dep nwa th bf row wid siz cel mvd ned) (K_X6_search hf rl nwa bf row wid siz cel mvd ned (kk39 F lg sta sm par mv dep th bf v2 v3 v4 v5 v6 v7))) (hk66 : ∀ (F : Nat → Int32) (rl : Nat → Int32) (lg : Nat → Int32) (sta : Nat → Int32) (sm : Nat → Int32) (par : Nat → Int32) (mv : Nat → Int32) (dep : Nat → Int32) (nwa : Nat → Int32) (th : Nat → Int32) (bf : Nat → Int32) (row : Nat → Int32) (wid : Nat → Int32) (siz : Nat → Int32) (cel : Nat → Int64) (mvd : Nat → Int64) (ned : Nat → Int32) (v2 : Int32) (v3 : Int32) (v4 : Int32) (v5 : Int32) (v6 : Int32) (v7 : Int32) (v8 : Int32), sk66 F lg sta sm par mv dep th bf v2 v3 v4 v5 v6 v7 v8 → ng_Ev G md_X6_search 66 [some (.ref 28), none, some (.int v2), some (.int v3), some (.int v4), some (.int v5), some (.int v6), some (.int v7), some (.int v8), none] [] (hf F rl lg sta sm par mv dep nwa th bf row wid siz cel mvd ned) (K_X6_search hf rl nwa bf row wid siz cel mvd ned (kk66 F lg sta sm par mv dep th bf v2 v3 v4 v5 v6 v7 v8))) {v2 : Int32} {v3 : Int32} {v4 : Int32} {v5 : Int32} {v6 : Int32} {v7 : Int32} {v8 : Int32} (h : s_X6_search_271 sk39 sk66 F lg sta sm par mv dep th bf v2 v3 v4 v5 v6 v7 v8)  : ng_Ev G md_X6_search 271 [some (.ref 28), none, some (.int v2), some (.int v3), some (.int v4), some (.int v5), some (.int v6), some (.int v7), some (.int v8), none] [] (hf F rl lg sta sm par mv dep nwa th bf row wid siz cel mvd ned) (K_X6_search hf rl nwa bf row wid siz cel mvd ned (f_X6_search_271 kk39 kk66 F lg sta sm par mv dep th bf v2 v3 v4 v5 v6 v7 v8)) := by
  unfold s_X6_search_271 at h
  unfold f_X6_search_271
  refine ev_iinc (v := v8 + nI 1) (L' := [some (.ref 28), none, some (.int v2), some (.int v3), some (.int v4), some (.int v5), some (.int v6), some (.int v7), some (.int (v8 + nI 1)), none]) dX6_search_271 rfl (by rfl) rfl ?_
  refine ev_goto (tgt := 66) dX6_search_274 (by decide) ?_
  exact ev_sub (hk66 F rl lg sta sm par mv dep nwa th bf row wid siz cel mvd ned v2 v3 v4 v5 v6 v7 (v8 + nI 1) h) (sub_s (sub_n (sub_s (sub_s (sub_s (sub_s (sub_s (sub_s (sub_s (sub_n sub_e))))))))))
def f_X6_search_219 (kk39 : (Nat → Int32) → (Nat → Int32) → (Nat → Int32) → (Nat → Int32) → (Nat → Int32) → (Nat → Int32) → (Nat → Int32) → (Nat → Int32) → (Nat → Int32) → Int32 → Int32 → Int32 → Int32 → Int32 → Int32 → ((Nat → Int32) × (Nat → Int32) × (Nat → Int32) × (Nat → Int32) × (Nat → Int32) × (Nat → Int32) × (Nat → Int32) × (Nat → Int32) × Int32)) (kk66 : (Nat → Int32) → (Nat → Int32) → (Nat → Int32) → (Nat → Int32) → (Nat → Int32) → (Nat → Int32) → (Nat → Int32) → (Nat → Int32) → (Nat → Int32) → Int32 → Int32 → Int32 → Int32 → Int32 → Int32 → Int32 → ((Nat → Int32) × (Nat → Int32) × (Nat → Int32) × (Nat → Int32) × (Nat → Int32) × (Nat → Int32) × (Nat → Int32) × (Nat → Int32) × Int32)) (F : Nat → Int32) (lg : Nat → Int32) (sta : Nat → Int32) (sm : Nat → Int32) (par : Nat → Int32) (mv : Nat → Int32) (dep : Nat → Int32) (th : Nat → Int32) (bf : Nat → Int32) (v2 : Int32) (v3 : Int32) (v4 : Int32) (v5 : Int32) (v6 : Int32) (v7 : Int32) (v8 : Int32) : (Nat → Int32) × (Nat → Int32) × (Nat → Int32) × (Nat → Int32) × (Nat → Int32) × (Nat → Int32) × (Nat → Int32) × (Nat → Int32) × Int32 := (if (f_X6_isThere F sta sm th (f_X6_sumOf th)) = 0 then (if (F 15) = (nI 300) then (F, lg, sta, sm, par, mv, dep, th, (-4)) else f_X6_search_271 kk39 kk66 ((f_X6_lays_th F sta sm par mv dep th (f_X6_sumOf th) v7 v8).1) lg ((f_X6_lays_th F sta sm par mv dep th (f_X6_sumOf th) v7 v8).2.1) ((f_X6_lays_th F sta sm par mv dep th (f_X6_sumOf th) v7 v8).2.2.1) ((f_X6_lays_th F sta sm par mv dep th (f_X6_sumOf th) v7 v8).2.2.2.1) ((f_X6_lays_th F sta sm par mv dep th (f_X6_sumOf th) v7 v8).2.2.2.2.1) ((f_X6_lays_th F sta sm par mv dep th (f_X6_sumOf th) v7 v8).2.2.2.2.2) th bf v2 v3 v4 v5 v6 v7 v8) else f_X6_search_271 kk39 kk66 F lg sta sm par mv dep th bf v2 v3 v4 v5 v6 v7 v8)
def s_X6_search_219 (sk39 : (Nat → Int32) → (Nat → Int32) → (Nat → Int32) → (Nat → Int32) → (Nat → Int32) → (Nat → Int32) → (Nat → Int32) → (Nat → Int32) → (Nat → Int32) → Int32 → Int32 → Int32 → Int32 → Int32 → Int32 → Prop) (sk66 : (Nat → Int32) → (Nat → Int32) → (Nat → Int32) → (Nat → Int32) → (Nat → Int32) → (Nat → Int32) → (Nat → Int32) → (Nat → Int32) → (Nat → Int32) → Int32 → Int32 → Int32 → Int32 → Int32 → Int32 → Int32 → Prop) (F : Nat → Int32) (lg : Nat → Int32) (sta : Nat → Int32) (sm : Nat → Int32) (par : Nat → Int32) (mv : Nat → Int32) (dep : Nat → Int32) (th : Nat → Int32) (bf : Nat → Int32) (v2 : Int32) (v3 : Int32) (v4 : Int32) (v5 : Int32) (v6 : Int32) (v7 : Int32) (v8 : Int32) : Prop := (s_X6_sumOf th ∧ (s_X6_isThere F sta sm th (f_X6_sumOf th) ∧ (((f_X6_isThere F sta sm th (f_X6_sumOf th)) = 0 → (¬ (F 15) = (nI 300) → (s_X6_lays_th F sta sm par mv dep th (f_X6_sumOf th) v7 v8 ∧ s_X6_search_271 sk39 sk66 ((f_X6_lays_th F sta sm par mv dep th (f_X6_sumOf th) v7 v8).1) lg ((f_X6_lays_th F sta sm par mv dep th (f_X6_sumOf th) v7 v8).2.1) ((f_X6_lays_th F sta sm par mv dep th (f_X6_sumOf th) v7 v8).2.2.1) ((f_X6_lays_th F sta sm par mv dep th (f_X6_sumOf th) v7 v8).2.2.2.1) ((f_X6_lays_th F sta sm par mv dep th (f_X6_sumOf th) v7 v8).2.2.2.2.1) ((f_X6_lays_th F sta sm par mv dep th (f_X6_sumOf th) v7 v8).2.2.2.2.2) th bf v2 v3 v4 v5 v6 v7 v8))) ∧ (¬ (f_X6_isThere F sta sm th (f_X6_sumOf th)) = 0 → s_X6_search_271 sk39 sk66 F lg sta sm par mv dep th bf v2 v3 v4 v5 v6 v7 v8))))
set_option maxRecDepth 100000 in
set_option maxHeartbeats 4000000 in
theorem e_X6_search_219 {G : ng_GG} {hf : (Nat → Int32) → (Nat → Int32) → (Nat → Int32) → (Nat → Int32) → (Nat → Int32) → (Nat → Int32) → (Nat → Int32) → (Nat → Int32) → (Nat → Int32) → (Nat → Int32) → (Nat → Int32) → (Nat → Int32) → (Nat → Int32) → (Nat → Int32) → (Nat → Int64) → (Nat → Int64) → (Nat → Int32) → ng_AM}  (V : ng_FL hf ) {F : Nat → Int32} {rl : Nat → Int32} {lg : Nat → Int32} {sta : Nat → Int32} {sm : Nat → Int32} {par : Nat → Int32} {mv : Nat → Int32} {dep : Nat → Int32} {nwa : Nat → Int32} {th : Nat → Int32} {bf : Nat → Int32} {row : Nat → Int32} {wid : Nat → Int32} {siz : Nat → Int32} {cel : Nat → Int64} {mvd : Nat → Int64} {ned : Nat → Int32} {kk39 : (Nat → Int32) → (Nat → Int32) → (Nat → Int32) → (Nat → Int32) → (Nat → Int32) → (Nat → Int32) → (Nat → Int32) → (Nat → Int32) → (Nat → Int32) → Int32 → Int32 → Int32 → Int32 → Int32 → Int32 → ((Nat → Int32) × (Nat → Int32) × (Nat → Int32) × (Nat → Int32) × (Nat → Int32) × (Nat → Int32) × (Nat → Int32) × (Nat → Int32) × Int32)} {sk39 : (Nat → Int32) → (Nat → Int32) → (Nat → Int32) → (Nat → Int32) → (Nat → Int32) → (Nat → Int32) → (Nat → Int32) → (Nat → Int32) → (Nat → Int32) → Int32 → Int32 → Int32 → Int32 → Int32 → Int32 → Prop} {kk66 : (Nat → Int32) → (Nat → Int32) → (Nat → Int32) → (Nat → Int32) → (Nat → Int32) → (Nat → Int32) → (Nat → Int32) → (Nat → Int32) → (Nat → Int32) → Int32 → Int32 → Int32 → Int32 → Int32 → Int32 → Int32 → ((Nat → Int32) × (Nat → Int32) × (Nat → Int32) × (Nat → Int32) × (Nat → Int32) × (Nat → Int32) × (Nat → Int32) × (Nat → Int32) × Int32)} {sk66 : (Nat → Int32) → (Nat → Int32) → (Nat → Int32) → (Nat → Int32) → (Nat → Int32) → (Nat → Int32) → (Nat → Int32) → (Nat → Int32) → (Nat → Int32) → Int32 → Int32 → Int32 → Int32 → Int32 → Int32 → Int32 → Prop} (hk39 : ∀ (F : Nat → Int32) (rl : Nat → Int32) (lg : Nat → Int32) (sta : Nat → Int32) (sm : Nat → Int32) (par : Nat → Int32) (mv : Nat → Int32) (dep : Nat → Int32) (nwa : Nat → Int32) (th : Nat → Int32) (bf : Nat → Int32) (row : Nat → Int32) (wid : Nat → Int32) (siz : Nat → Int32) (cel : Nat → Int64) (mvd : Nat → Int64) (ned : Nat → Int32) (v2 : Int32) (v3 : Int32) (v4 : Int32) (v5 : Int32) (v6 : Int32) (v7 : Int32), sk39 F lg sta sm par mv dep th bf v2 v3 v4 v5 v6 v7 → ng_Ev G md_X6_search 39 [some (.ref 28), none, some (.int v2), some (.int v3), some (.int v4), some (.int v5), some (.int v6), some (.int v7), none, none] [] (hf F rl lg sta sm par mv dep nwa th bf row wid siz cel mvd ned) (K_X6_search hf rl nwa bf row wid siz cel mvd ned (kk39 F lg sta sm par mv dep th bf v2 v3 v4 v5 v6 v7))) (hk66 : ∀ (F : Nat → Int32) (rl : Nat → Int32) (lg : Nat → Int32) (sta : Nat → Int32) (sm : Nat → Int32) (par : Nat → Int32) (mv : Nat → Int32) (dep : Nat → Int32) (nwa : Nat → Int32) (th : Nat → Int32) (bf : Nat → Int32) (row : Nat → Int32) (wid : Nat → Int32) (siz : Nat → Int32) (cel : Nat → Int64) (mvd : Nat → Int64) (ned : Nat → Int32) (v2 : Int32) (v3 : Int32) (v4 : Int32) (v5 : Int32) (v6 : Int32) (v7 : Int32) (v8 : Int32), sk66 F lg sta sm par mv dep th bf v2 v3 v4 v5 v6 v7 v8 → ng_Ev G md_X6_search 66 [some (.ref 28), none, some (.int v2), some (.int v3), some (.int v4), some (.int v5), some (.int v6), some (.int v7), some (.int v8), none] [] (hf F rl lg sta sm par mv dep nwa th bf row wid siz cel mvd ned) (K_X6_search hf rl nwa bf row wid siz cel mvd ned (kk66 F lg sta sm par mv dep th bf v2 v3 v4 v5 v6 v7 v8))) {v2 : Int32} {v3 : Int32} {v4 : Int32} {v5 : Int32} {v6 : Int32} {v7 : Int32} {v8 : Int32} (h : s_X6_search_219 sk39 sk66 F lg sta sm par mv dep th bf v2 v3 v4 v5 v6 v7 v8)  : ng_Ev G md_X6_search 219 [some (.ref 28), none, some (.int v2), some (.int v3), some (.int v4), some (.int v5), some (.int v6), some (.int v7), some (.int v8), none] [] (hf F rl lg sta sm par mv dep nwa th bf row wid siz cel mvd ned) (K_X6_search hf rl nwa bf row wid siz cel mvd ned (f_X6_search_219 kk39 kk66 F lg sta sm par mv dep th bf v2 v3 v4 v5 v6 v7 v8)) := by
  unfold s_X6_search_219 at h
  unfold f_X6_search_219
  refine ev_aload_n dX6_search_219 rfl rfl rfl ?_
  refine ev_get 6 13 fl_RX6_35 (FL_g28 V) rfl dX6_search_220 ?_
  have hs223 := h.1
  replace h := h.2
  refine bk_callS (As := [.ref 37]) (st := []) (st2 := [.int (f_X6_sumOf th)]) (M2 := hf F rl lg sta sm par mv dep nwa th bf row wid siz cel mvd ned) ok_X6_sumOf lk_RX6_189 (ng_rok.of rfl rfl) rfl rfl rfl rfl dX6_search_223 (m_X6_sumOf (FL_Rth V) hs223) rfl rfl ?_
  refine ev_istore (L' := [some (.ref 28), none, some (.int v2), some (.int v3), some (.int v4), some (.int v5), some (.int v6), some (.int v7), some (.int v8), some (.int (f_X6_sumOf th))]) dX6_search_226 (ng_lt rfl) rfl ?_
  refine ev_aload_n dX6_search_228 rfl rfl rfl ?_
  refine ev_aload_n dX6_search_229 rfl rfl rfl ?_
  refine ev_get 6 13 fl_RX6_35 (FL_g28 V) rfl dX6_search_230 ?_
  refine ev_iload dX6_search_233 rfl ?_
  have hs235 := h.1
  replace h := h.2
  refine bk_callV (As := [.ref 37, .int (f_X6_sumOf th)]) (st := []) (st2 := [.int (f_X6_isThere F sta sm th (f_X6_sumOf th))]) (M2 := hf F rl lg sta sm par mv dep nwa th bf row wid siz cel mvd ned) ok_X6_isThere lk_RX6_206 (ng_rok.of rfl rfl) (FL_g28 V) rfl rfl rfl rfl rfl rfl dX6_search_235 (m_X6_isThere V hs235) rfl rfl ?_
  refine bk_if_eq (tgt := 244) dX6_search_238 (by decide) (fun c238 => ?_) (fun c238 => ?_)
  · replace h := h.1 c238
    refine ev_aload_n dX6_search_244 rfl rfl rfl ?_
    refine ev_get 6 15 fl_RX6_179 (FL_g28 V) rfl dX6_search_245 ?_
    refine ev_sipush (v := nI 300) dX6_search_248 (by decide) ?_
    refine bk_icmp_ne (tgt := 257) dX6_search_251 (by decide) (fun c251 => ?_) (fun c251 => ?_)
    · replace h := h c251
      refine ev_aload_n dX6_search_257 rfl rfl rfl ?_
      refine ev_aload_n dX6_search_258 rfl rfl rfl ?_
      refine ev_get 6 13 fl_RX6_35 (FL_g28 V) rfl dX6_search_259 ?_
      refine ev_iload dX6_search_262 rfl ?_
      refine ev_iload dX6_search_264 rfl ?_
      refine ev_iload dX6_search_266 rfl ?_
      have hs268 := h.1
      replace h := h.2
      refine bk_callV (As := [.ref 37, .int (f_X6_sumOf th), .int v7, .int v8]) (st := []) (st2 := []) (M2 := hf ((f_X6_lays_th F sta sm par mv dep th (f_X6_sumOf th) v7 v8).1) rl lg ((f_X6_lays_th F sta sm par mv dep th (f_X6_sumOf th) v7 v8).2.1) ((f_X6_lays_th F sta sm par mv dep th (f_X6_sumOf th) v7 v8).2.2.1) ((f_X6_lays_th F sta sm par mv dep th (f_X6_sumOf th) v7 v8).2.2.2.1) ((f_X6_lays_th F sta sm par mv dep th (f_X6_sumOf th) v7 v8).2.2.2.2.1) ((f_X6_lays_th F sta sm par mv dep th (f_X6_sumOf th) v7 v8).2.2.2.2.2) nwa th bf row wid siz cel mvd ned) ok_X6_lays lk_RX6_192 (ng_rok.of rfl rfl) (FL_g28 V) rfl rfl rfl rfl rfl rfl dX6_search_268 (m_X6_lays_th V hs268) rfl rfl ?_
      exact ev_sub (e_X6_search_271 V hk39 hk66 h) (sub_s (sub_n (sub_s (sub_s (sub_s (sub_s (sub_s (sub_s (sub_s (sub_n sub_e))))))))))
    · refine ev_bipush (v := (-4)) dX6_search_254 (by decide) ?_
      exact ev_iret rfl rfl dX6_search_256
  · replace h := h.2 c238
    refine ev_goto (tgt := 271) dX6_search_241 (by decide) ?_
    exact ev_sub (e_X6_search_271 V hk39 hk66 h) (sub_s (sub_n (sub_s (sub_s (sub_s (sub_s (sub_s (sub_s (sub_s (sub_n sub_e))))))))))
def f_X6_search_166 (kk39 : (Nat → Int32) → (Nat → Int32) → (Nat → Int32) → (Nat → Int32) → (Nat → Int32) → (Nat → Int32) → (Nat → Int32) → (Nat → Int32) → (Nat → Int32) → Int32 → Int32 → Int32 → Int32 → Int32 → Int32 → ((Nat → Int32) × (Nat → Int32) × (Nat → Int32) × (Nat → Int32) × (Nat → Int32) × (Nat → Int32) × (Nat → Int32) × (Nat → Int32) × Int32)) (kk66 : (Nat → Int32) → (Nat → Int32) → (Nat → Int32) → (Nat → Int32) → (Nat → Int32) → (Nat → Int32) → (Nat → Int32) → (Nat → Int32) → (Nat → Int32) → Int32 → Int32 → Int32 → Int32 → Int32 → Int32 → Int32 → ((Nat → Int32) × (Nat → Int32) × (Nat → Int32) × (Nat → Int32) × (Nat → Int32) × (Nat → Int32) × (Nat → Int32) × (Nat → Int32) × Int32)) (F : Nat → Int32) (lg : Nat → Int32) (sta : Nat → Int32) (sm : Nat → Int32) (par : Nat → Int32) (mv : Nat → Int32) (dep : Nat → Int32) (th : Nat → Int32) (bf : Nat → Int32) (v2 : Int32) (v3 : Int32) (v4 : Int32) (v5 : Int32) (v6 : Int32) (v7 : Int32) (v8 : Int32) (t0 : Int32) : (Nat → Int32) × (Nat → Int32) × (Nat → Int32) × (Nat → Int32) × (Nat → Int32) × (Nat → Int32) × (Nat → Int32) × (Nat → Int32) × Int32 := (if t0 = 0 then f_X6_search_271 kk39 kk66 F lg sta sm par mv dep th bf v2 v3 v4 v5 v6 v7 v8 else (if v2 = 0 then (if (F 24) = 0 then f_X6_search_219 kk39 kk66 F lg sta sm par mv dep th bf v2 v3 v4 v5 v6 v7 v8 else f_X6_search_197 F lg sta sm par mv dep th bf v7 v8) else (if (f_X6_isMixed th v3) = 0 then f_X6_search_219 kk39 kk66 F lg sta sm par mv dep th bf v2 v3 v4 v5 v6 v7 v8 else f_X6_search_197 F lg sta sm par mv dep th bf v7 v8)))
def s_X6_search_166 (sk39 : (Nat → Int32) → (Nat → Int32) → (Nat → Int32) → (Nat → Int32) → (Nat → Int32) → (Nat → Int32) → (Nat → Int32) → (Nat → Int32) → (Nat → Int32) → Int32 → Int32 → Int32 → Int32 → Int32 → Int32 → Prop) (sk66 : (Nat → Int32) → (Nat → Int32) → (Nat → Int32) → (Nat → Int32) → (Nat → Int32) → (Nat → Int32) → (Nat → Int32) → (Nat → Int32) → (Nat → Int32) → Int32 → Int32 → Int32 → Int32 → Int32 → Int32 → Int32 → Prop) (F : Nat → Int32) (lg : Nat → Int32) (sta : Nat → Int32) (sm : Nat → Int32) (par : Nat → Int32) (mv : Nat → Int32) (dep : Nat → Int32) (th : Nat → Int32) (bf : Nat → Int32) (v2 : Int32) (v3 : Int32) (v4 : Int32) (v5 : Int32) (v6 : Int32) (v7 : Int32) (v8 : Int32) (t0 : Int32) : Prop := ((t0 = 0 → s_X6_search_271 sk39 sk66 F lg sta sm par mv dep th bf v2 v3 v4 v5 v6 v7 v8) ∧ (¬ t0 = 0 → ((v2 = 0 → (((F 24) = 0 → s_X6_search_219 sk39 sk66 F lg sta sm par mv dep th bf v2 v3 v4 v5 v6 v7 v8) ∧ (¬ (F 24) = 0 → s_X6_search_197 F lg sta sm par mv dep th bf v7 v8))) ∧ (¬ v2 = 0 → (s_X6_isMixed th v3 ∧ (((f_X6_isMixed th v3) = 0 → s_X6_search_219 sk39 sk66 F lg sta sm par mv dep th bf v2 v3 v4 v5 v6 v7 v8) ∧ (¬ (f_X6_isMixed th v3) = 0 → s_X6_search_197 F lg sta sm par mv dep th bf v7 v8)))))))
set_option maxRecDepth 100000 in
set_option maxHeartbeats 4000000 in
theorem e_X6_search_166 {G : ng_GG} {hf : (Nat → Int32) → (Nat → Int32) → (Nat → Int32) → (Nat → Int32) → (Nat → Int32) → (Nat → Int32) → (Nat → Int32) → (Nat → Int32) → (Nat → Int32) → (Nat → Int32) → (Nat → Int32) → (Nat → Int32) → (Nat → Int32) → (Nat → Int32) → (Nat → Int64) → (Nat → Int64) → (Nat → Int32) → ng_AM}  (V : ng_FL hf ) {F : Nat → Int32} {rl : Nat → Int32} {lg : Nat → Int32} {sta : Nat → Int32} {sm : Nat → Int32} {par : Nat → Int32} {mv : Nat → Int32} {dep : Nat → Int32} {nwa : Nat → Int32} {th : Nat → Int32} {bf : Nat → Int32} {row : Nat → Int32} {wid : Nat → Int32} {siz : Nat → Int32} {cel : Nat → Int64} {mvd : Nat → Int64} {ned : Nat → Int32} {kk39 : (Nat → Int32) → (Nat → Int32) → (Nat → Int32) → (Nat → Int32) → (Nat → Int32) → (Nat → Int32) → (Nat → Int32) → (Nat → Int32) → (Nat → Int32) → Int32 → Int32 → Int32 → Int32 → Int32 → Int32 → ((Nat → Int32) × (Nat → Int32) × (Nat → Int32) × (Nat → Int32) × (Nat → Int32) × (Nat → Int32) × (Nat → Int32) × (Nat → Int32) × Int32)} {sk39 : (Nat → Int32) → (Nat → Int32) → (Nat → Int32) → (Nat → Int32) → (Nat → Int32) → (Nat → Int32) → (Nat → Int32) → (Nat → Int32) → (Nat → Int32) → Int32 → Int32 → Int32 → Int32 → Int32 → Int32 → Prop} {kk66 : (Nat → Int32) → (Nat → Int32) → (Nat → Int32) → (Nat → Int32) → (Nat → Int32) → (Nat → Int32) → (Nat → Int32) → (Nat → Int32) → (Nat → Int32) → Int32 → Int32 → Int32 → Int32 → Int32 → Int32 → Int32 → ((Nat → Int32) × (Nat → Int32) × (Nat → Int32) × (Nat → Int32) × (Nat → Int32) × (Nat → Int32) × (Nat → Int32) × (Nat → Int32) × Int32)} {sk66 : (Nat → Int32) → (Nat → Int32) → (Nat → Int32) → (Nat → Int32) → (Nat → Int32) → (Nat → Int32) → (Nat → Int32) → (Nat → Int32) → (Nat → Int32) → Int32 → Int32 → Int32 → Int32 → Int32 → Int32 → Int32 → Prop} (hk39 : ∀ (F : Nat → Int32) (rl : Nat → Int32) (lg : Nat → Int32) (sta : Nat → Int32) (sm : Nat → Int32) (par : Nat → Int32) (mv : Nat → Int32) (dep : Nat → Int32) (nwa : Nat → Int32) (th : Nat → Int32) (bf : Nat → Int32) (row : Nat → Int32) (wid : Nat → Int32) (siz : Nat → Int32) (cel : Nat → Int64) (mvd : Nat → Int64) (ned : Nat → Int32) (v2 : Int32) (v3 : Int32) (v4 : Int32) (v5 : Int32) (v6 : Int32) (v7 : Int32), sk39 F lg sta sm par mv dep th bf v2 v3 v4 v5 v6 v7 → ng_Ev G md_X6_search 39 [some (.ref 28), none, some (.int v2), some (.int v3), some (.int v4), some (.int v5), some (.int v6), some (.int v7), none, none] [] (hf F rl lg sta sm par mv dep nwa th bf row wid siz cel mvd ned) (K_X6_search hf rl nwa bf row wid siz cel mvd ned (kk39 F lg sta sm par mv dep th bf v2 v3 v4 v5 v6 v7))) (hk66 : ∀ (F : Nat → Int32) (rl : Nat → Int32) (lg : Nat → Int32) (sta : Nat → Int32) (sm : Nat → Int32) (par : Nat → Int32) (mv : Nat → Int32) (dep : Nat → Int32) (nwa : Nat → Int32) (th : Nat → Int32) (bf : Nat → Int32) (row : Nat → Int32) (wid : Nat → Int32) (siz : Nat → Int32) (cel : Nat → Int64) (mvd : Nat → Int64) (ned : Nat → Int32) (v2 : Int32) (v3 : Int32) (v4 : Int32) (v5 : Int32) (v6 : Int32) (v7 : Int32) (v8 : Int32), sk66 F lg sta sm par mv dep th bf v2 v3 v4 v5 v6 v7 v8 → ng_Ev G md_X6_search 66 [some (.ref 28), none, some (.int v2), some (.int v3), some (.int v4), some (.int v5), some (.int v6), some (.int v7), some (.int v8), none] [] (hf F rl lg sta sm par mv dep nwa th bf row wid siz cel mvd ned) (K_X6_search hf rl nwa bf row wid siz cel mvd ned (kk66 F lg sta sm par mv dep th bf v2 v3 v4 v5 v6 v7 v8))) {v2 : Int32} {v3 : Int32} {v4 : Int32} {v5 : Int32} {v6 : Int32} {v7 : Int32} {v8 : Int32} {t0 : Int32} (h : s_X6_search_166 sk39 sk66 F lg sta sm par mv dep th bf v2 v3 v4 v5 v6 v7 v8 t0)  : ng_Ev G md_X6_search 166 [some (.ref 28), none, some (.int v2), some (.int v3), some (.int v4), some (.int v5), some (.int v6), some (.int v7), some (.int v8), none] [.int t0] (hf F rl lg sta sm par mv dep nwa th bf row wid siz cel mvd ned) (K_X6_search hf rl nwa bf row wid siz cel mvd ned (f_X6_search_166 kk39 kk66 F lg sta sm par mv dep th bf v2 v3 v4 v5 v6 v7 v8 t0)) := by
  unfold s_X6_search_166 at h
  unfold f_X6_search_166
  refine bk_if_ne (tgt := 172) dX6_search_166 (by decide) (fun c166 => ?_) (fun c166 => ?_)
  · replace h := h.2 c166
    refine ev_iload_n dX6_search_172 rfl rfl ?_
    refine bk_if_ne (tgt := 186) dX6_search_173 (by decide) (fun c173 => ?_) (fun c173 => ?_)
    · replace h := h.2 c173
      refine ev_aload_n dX6_search_186 rfl rfl rfl ?_
      refine ev_get 6 13 fl_RX6_35 (FL_g28 V) rfl dX6_search_187 ?_
      refine ev_iload_n dX6_search_190 rfl rfl ?_
      have hs191 := h.1
      replace h := h.2
      refine bk_callS (As := [.ref 37, .int v3]) (st := []) (st2 := [.int (f_X6_isMixed th v3)]) (M2 := hf F rl lg sta sm par mv dep nwa th bf row wid siz cel mvd ned) ok_X6_isMixed lk_RX6_196 (ng_rok.of rfl rfl) rfl rfl rfl rfl dX6_search_191 (m_X6_isMixed (FL_Rth V) hs191) rfl rfl ?_
      refine bk_if_eq (tgt := 219) dX6_search_194 (by decide) (fun c194 => ?_) (fun c194 => ?_)
      · replace h := h.1 c194
        exact ev_sub (e_X6_search_219 V hk39 hk66 h) (sub_s (sub_n (sub_s (sub_s (sub_s (sub_s (sub_s (sub_s (sub_s (sub_n sub_e))))))))))
      · replace h := h.2 c194
        exact ev_sub (e_X6_search_197 V h) (sub_s (sub_n (sub_n (sub_n (sub_n (sub_n (sub_n (sub_s (sub_s (sub_n sub_e))))))))))
    · replace h := h.1 c173
      refine ev_aload_n dX6_search_176 rfl rfl rfl ?_
      refine ev_get 6 24 fl_RX6_176 (FL_g28 V) rfl dX6_search_177 ?_
      refine bk_if_eq (tgt := 219) dX6_search_180 (by decide) (fun c180 => ?_) (fun c180 => ?_)
      · replace h := h.1 c180
        exact ev_sub (e_X6_search_219 V hk39 hk66 h) (sub_s (sub_n (sub_s (sub_s (sub_s (sub_s (sub_s (sub_s (sub_s (sub_n sub_e))))))))))
      · replace h := h.2 c180
        refine ev_goto (tgt := 197) dX6_search_183 (by decide) ?_
        exact ev_sub (e_X6_search_197 V h) (sub_s (sub_n (sub_n (sub_n (sub_n (sub_n (sub_n (sub_s (sub_s (sub_n sub_e))))))))))
  · replace h := h.1 c166
    refine ev_goto (tgt := 271) dX6_search_169 (by decide) ?_
    exact ev_sub (e_X6_search_271 V hk39 hk66 h) (sub_s (sub_n (sub_s (sub_s (sub_s (sub_s (sub_s (sub_s (sub_s (sub_n sub_e))))))))))
def f_X6_search_151 (kk39 : (Nat → Int32) → (Nat → Int32) → (Nat → Int32) → (Nat → Int32) → (Nat → Int32) → (Nat → Int32) → (Nat → Int32) → (Nat → Int32) → (Nat → Int32) → Int32 → Int32 → Int32 → Int32 → Int32 → Int32 → ((Nat → Int32) × (Nat → Int32) × (Nat → Int32) × (Nat → Int32) × (Nat → Int32) × (Nat → Int32) × (Nat → Int32) × (Nat → Int32) × Int32)) (kk66 : (Nat → Int32) → (Nat → Int32) → (Nat → Int32) → (Nat → Int32) → (Nat → Int32) → (Nat → Int32) → (Nat → Int32) → (Nat → Int32) → (Nat → Int32) → Int32 → Int32 → Int32 → Int32 → Int32 → Int32 → Int32 → ((Nat → Int32) × (Nat → Int32) × (Nat → Int32) × (Nat → Int32) × (Nat → Int32) × (Nat → Int32) × (Nat → Int32) × (Nat → Int32) × Int32)) (F : Nat → Int32) (lg : Nat → Int32) (sta : Nat → Int32) (sm : Nat → Int32) (par : Nat → Int32) (mv : Nat → Int32) (dep : Nat → Int32) (th : Nat → Int32) (bf : Nat → Int32) (v2 : Int32) (v3 : Int32) (v4 : Int32) (v5 : Int32) (v6 : Int32) (v7 : Int32) (v8 : Int32) : (Nat → Int32) × (Nat → Int32) × (Nat → Int32) × (Nat → Int32) × (Nat → Int32) × (Nat → Int32) × (Nat → Int32) × (Nat → Int32) × Int32 := f_X6_search_166 kk39 kk66 ((f_X6_makes th F lg v8 v3 v4 v5).2.1) ((f_X6_makes th F lg v8 v3 v4 v5).2.2.1) sta sm par mv dep ((f_X6_makes th F lg v8 v3 v4 v5).1) bf v2 v3 v4 v5 v6 v7 v8 ((f_X6_makes th F lg v8 v3 v4 v5).2.2.2)
def s_X6_search_151 (sk39 : (Nat → Int32) → (Nat → Int32) → (Nat → Int32) → (Nat → Int32) → (Nat → Int32) → (Nat → Int32) → (Nat → Int32) → (Nat → Int32) → (Nat → Int32) → Int32 → Int32 → Int32 → Int32 → Int32 → Int32 → Prop) (sk66 : (Nat → Int32) → (Nat → Int32) → (Nat → Int32) → (Nat → Int32) → (Nat → Int32) → (Nat → Int32) → (Nat → Int32) → (Nat → Int32) → (Nat → Int32) → Int32 → Int32 → Int32 → Int32 → Int32 → Int32 → Int32 → Prop) (F : Nat → Int32) (lg : Nat → Int32) (sta : Nat → Int32) (sm : Nat → Int32) (par : Nat → Int32) (mv : Nat → Int32) (dep : Nat → Int32) (th : Nat → Int32) (bf : Nat → Int32) (v2 : Int32) (v3 : Int32) (v4 : Int32) (v5 : Int32) (v6 : Int32) (v7 : Int32) (v8 : Int32) : Prop := (s_X6_makes th F lg v8 v3 v4 v5 ∧ s_X6_search_166 sk39 sk66 ((f_X6_makes th F lg v8 v3 v4 v5).2.1) ((f_X6_makes th F lg v8 v3 v4 v5).2.2.1) sta sm par mv dep ((f_X6_makes th F lg v8 v3 v4 v5).1) bf v2 v3 v4 v5 v6 v7 v8 ((f_X6_makes th F lg v8 v3 v4 v5).2.2.2))
set_option maxRecDepth 100000 in
set_option maxHeartbeats 4000000 in
theorem e_X6_search_151 {G : ng_GG} {hf : (Nat → Int32) → (Nat → Int32) → (Nat → Int32) → (Nat → Int32) → (Nat → Int32) → (Nat → Int32) → (Nat → Int32) → (Nat → Int32) → (Nat → Int32) → (Nat → Int32) → (Nat → Int32) → (Nat → Int32) → (Nat → Int32) → (Nat → Int32) → (Nat → Int64) → (Nat → Int64) → (Nat → Int32) → ng_AM}  (V : ng_FL hf ) {F : Nat → Int32} {rl : Nat → Int32} {lg : Nat → Int32} {sta : Nat → Int32} {sm : Nat → Int32} {par : Nat → Int32} {mv : Nat → Int32} {dep : Nat → Int32} {nwa : Nat → Int32} {th : Nat → Int32} {bf : Nat → Int32} {row : Nat → Int32} {wid : Nat → Int32} {siz : Nat → Int32} {cel : Nat → Int64} {mvd : Nat → Int64} {ned : Nat → Int32} {kk39 : (Nat → Int32) → (Nat → Int32) → (Nat → Int32) → (Nat → Int32) → (Nat → Int32) → (Nat → Int32) → (Nat → Int32) → (Nat → Int32) → (Nat → Int32) → Int32 → Int32 → Int32 → Int32 → Int32 → Int32 → ((Nat → Int32) × (Nat → Int32) × (Nat → Int32) × (Nat → Int32) × (Nat → Int32) × (Nat → Int32) × (Nat → Int32) × (Nat → Int32) × Int32)} {sk39 : (Nat → Int32) → (Nat → Int32) → (Nat → Int32) → (Nat → Int32) → (Nat → Int32) → (Nat → Int32) → (Nat → Int32) → (Nat → Int32) → (Nat → Int32) → Int32 → Int32 → Int32 → Int32 → Int32 → Int32 → Prop} {kk66 : (Nat → Int32) → (Nat → Int32) → (Nat → Int32) → (Nat → Int32) → (Nat → Int32) → (Nat → Int32) → (Nat → Int32) → (Nat → Int32) → (Nat → Int32) → Int32 → Int32 → Int32 → Int32 → Int32 → Int32 → Int32 → ((Nat → Int32) × (Nat → Int32) × (Nat → Int32) × (Nat → Int32) × (Nat → Int32) × (Nat → Int32) × (Nat → Int32) × (Nat → Int32) × Int32)} {sk66 : (Nat → Int32) → (Nat → Int32) → (Nat → Int32) → (Nat → Int32) → (Nat → Int32) → (Nat → Int32) → (Nat → Int32) → (Nat → Int32) → (Nat → Int32) → Int32 → Int32 → Int32 → Int32 → Int32 → Int32 → Int32 → Prop} (hk39 : ∀ (F : Nat → Int32) (rl : Nat → Int32) (lg : Nat → Int32) (sta : Nat → Int32) (sm : Nat → Int32) (par : Nat → Int32) (mv : Nat → Int32) (dep : Nat → Int32) (nwa : Nat → Int32) (th : Nat → Int32) (bf : Nat → Int32) (row : Nat → Int32) (wid : Nat → Int32) (siz : Nat → Int32) (cel : Nat → Int64) (mvd : Nat → Int64) (ned : Nat → Int32) (v2 : Int32) (v3 : Int32) (v4 : Int32) (v5 : Int32) (v6 : Int32) (v7 : Int32), sk39 F lg sta sm par mv dep th bf v2 v3 v4 v5 v6 v7 → ng_Ev G md_X6_search 39 [some (.ref 28), none, some (.int v2), some (.int v3), some (.int v4), some (.int v5), some (.int v6), some (.int v7), none, none] [] (hf F rl lg sta sm par mv dep nwa th bf row wid siz cel mvd ned) (K_X6_search hf rl nwa bf row wid siz cel mvd ned (kk39 F lg sta sm par mv dep th bf v2 v3 v4 v5 v6 v7))) (hk66 : ∀ (F : Nat → Int32) (rl : Nat → Int32) (lg : Nat → Int32) (sta : Nat → Int32) (sm : Nat → Int32) (par : Nat → Int32) (mv : Nat → Int32) (dep : Nat → Int32) (nwa : Nat → Int32) (th : Nat → Int32) (bf : Nat → Int32) (row : Nat → Int32) (wid : Nat → Int32) (siz : Nat → Int32) (cel : Nat → Int64) (mvd : Nat → Int64) (ned : Nat → Int32) (v2 : Int32) (v3 : Int32) (v4 : Int32) (v5 : Int32) (v6 : Int32) (v7 : Int32) (v8 : Int32), sk66 F lg sta sm par mv dep th bf v2 v3 v4 v5 v6 v7 v8 → ng_Ev G md_X6_search 66 [some (.ref 28), none, some (.int v2), some (.int v3), some (.int v4), some (.int v5), some (.int v6), some (.int v7), some (.int v8), none] [] (hf F rl lg sta sm par mv dep nwa th bf row wid siz cel mvd ned) (K_X6_search hf rl nwa bf row wid siz cel mvd ned (kk66 F lg sta sm par mv dep th bf v2 v3 v4 v5 v6 v7 v8))) {v2 : Int32} {v3 : Int32} {v4 : Int32} {v5 : Int32} {v6 : Int32} {v7 : Int32} {v8 : Int32} (h : s_X6_search_151 sk39 sk66 F lg sta sm par mv dep th bf v2 v3 v4 v5 v6 v7 v8)  : ng_Ev G md_X6_search 151 [some (.ref 28), none, some (.int v2), some (.int v3), some (.int v4), some (.int v5), some (.int v6), some (.int v7), some (.int v8), none] [] (hf F rl lg sta sm par mv dep nwa th bf row wid siz cel mvd ned) (K_X6_search hf rl nwa bf row wid siz cel mvd ned (f_X6_search_151 kk39 kk66 F lg sta sm par mv dep th bf v2 v3 v4 v5 v6 v7 v8)) := by
  unfold s_X6_search_151 at h
  unfold f_X6_search_151
  refine ev_aload_n dX6_search_151 rfl rfl rfl ?_
  refine ev_aload_n dX6_search_152 rfl rfl rfl ?_
  refine ev_get 6 13 fl_RX6_35 (FL_g28 V) rfl dX6_search_153 ?_
  refine ev_iload dX6_search_156 rfl ?_
  refine ev_iload_n dX6_search_158 rfl rfl ?_
  refine ev_iload dX6_search_159 rfl ?_
  refine ev_iload dX6_search_161 rfl ?_
  have hs163 := h.1
  replace h := h.2
  refine bk_callV (As := [.ref 37, .int v8, .int v3, .int v4, .int v5]) (st := []) (st2 := [.int ((f_X6_makes th F lg v8 v3 v4 v5).2.2.2)]) (M2 := hf ((f_X6_makes th F lg v8 v3 v4 v5).2.1) rl ((f_X6_makes th F lg v8 v3 v4 v5).2.2.1) sta sm par mv dep nwa ((f_X6_makes th F lg v8 v3 v4 v5).1) bf row wid siz cel mvd ned) ok_X6_makes lk_RX6_199 (ng_rok.of rfl rfl) (FL_g28 V) rfl rfl rfl rfl rfl rfl dX6_search_163 (m_X6_makes (FL_th V rl sta sm par mv dep nwa bf row wid siz cel mvd ned) hs163) rfl rfl ?_
  exact ev_sub (e_X6_search_166 V hk39 hk66 h) (sub_s (sub_n (sub_s (sub_s (sub_s (sub_s (sub_s (sub_s (sub_s (sub_n sub_e))))))))))
def f_X6_search_133 (kk39 : (Nat → Int32) → (Nat → Int32) → (Nat → Int32) → (Nat → Int32) → (Nat → Int32) → (Nat → Int32) → (Nat → Int32) → (Nat → Int32) → (Nat → Int32) → Int32 → Int32 → Int32 → Int32 → Int32 → Int32 → ((Nat → Int32) × (Nat → Int32) × (Nat → Int32) × (Nat → Int32) × (Nat → Int32) × (Nat → Int32) × (Nat → Int32) × (Nat → Int32) × Int32)) (kk66 : (Nat → Int32) → (Nat → Int32) → (Nat → Int32) → (Nat → Int32) → (Nat → Int32) → (Nat → Int32) → (Nat → Int32) → (Nat → Int32) → (Nat → Int32) → Int32 → Int32 → Int32 → Int32 → Int32 → Int32 → Int32 → ((Nat → Int32) × (Nat → Int32) × (Nat → Int32) × (Nat → Int32) × (Nat → Int32) × (Nat → Int32) × (Nat → Int32) × (Nat → Int32) × Int32)) (F : Nat → Int32) (lg : Nat → Int32) (sta : Nat → Int32) (sm : Nat → Int32) (par : Nat → Int32) (mv : Nat → Int32) (dep : Nat → Int32) (th : Nat → Int32) (bf : Nat → Int32) (v2 : Int32) (v3 : Int32) (v4 : Int32) (v5 : Int32) (v6 : Int32) (v7 : Int32) (v8 : Int32) : (Nat → Int32) × (Nat → Int32) × (Nat → Int32) × (Nat → Int32) × (Nat → Int32) × (Nat → Int32) × (Nat → Int32) × (Nat → Int32) × Int32 := f_X6_search_151 kk39 kk66 F lg sta sm par mv dep (f_X6_copy_ sta th 158100 527 ((nI 527) * v7) (nI 0)) bf v2 v3 v4 v5 v6 v7 v8
def s_X6_search_133 (sk39 : (Nat → Int32) → (Nat → Int32) → (Nat → Int32) → (Nat → Int32) → (Nat → Int32) → (Nat → Int32) → (Nat → Int32) → (Nat → Int32) → (Nat → Int32) → Int32 → Int32 → Int32 → Int32 → Int32 → Int32 → Prop) (sk66 : (Nat → Int32) → (Nat → Int32) → (Nat → Int32) → (Nat → Int32) → (Nat → Int32) → (Nat → Int32) → (Nat → Int32) → (Nat → Int32) → (Nat → Int32) → Int32 → Int32 → Int32 → Int32 → Int32 → Int32 → Int32 → Prop) (F : Nat → Int32) (lg : Nat → Int32) (sta : Nat → Int32) (sm : Nat → Int32) (par : Nat → Int32) (mv : Nat → Int32) (dep : Nat → Int32) (th : Nat → Int32) (bf : Nat → Int32) (v2 : Int32) (v3 : Int32) (v4 : Int32) (v5 : Int32) (v6 : Int32) (v7 : Int32) (v8 : Int32) : Prop := (s_X6_copy_ sta th 158100 527 ((nI 527) * v7) (nI 0) ∧ s_X6_search_151 sk39 sk66 F lg sta sm par mv dep (f_X6_copy_ sta th 158100 527 ((nI 527) * v7) (nI 0)) bf v2 v3 v4 v5 v6 v7 v8)
set_option maxRecDepth 100000 in
set_option maxHeartbeats 4000000 in
theorem e_X6_search_133 {G : ng_GG} {hf : (Nat → Int32) → (Nat → Int32) → (Nat → Int32) → (Nat → Int32) → (Nat → Int32) → (Nat → Int32) → (Nat → Int32) → (Nat → Int32) → (Nat → Int32) → (Nat → Int32) → (Nat → Int32) → (Nat → Int32) → (Nat → Int32) → (Nat → Int32) → (Nat → Int64) → (Nat → Int64) → (Nat → Int32) → ng_AM}  (V : ng_FL hf ) {F : Nat → Int32} {rl : Nat → Int32} {lg : Nat → Int32} {sta : Nat → Int32} {sm : Nat → Int32} {par : Nat → Int32} {mv : Nat → Int32} {dep : Nat → Int32} {nwa : Nat → Int32} {th : Nat → Int32} {bf : Nat → Int32} {row : Nat → Int32} {wid : Nat → Int32} {siz : Nat → Int32} {cel : Nat → Int64} {mvd : Nat → Int64} {ned : Nat → Int32} {kk39 : (Nat → Int32) → (Nat → Int32) → (Nat → Int32) → (Nat → Int32) → (Nat → Int32) → (Nat → Int32) → (Nat → Int32) → (Nat → Int32) → (Nat → Int32) → Int32 → Int32 → Int32 → Int32 → Int32 → Int32 → ((Nat → Int32) × (Nat → Int32) × (Nat → Int32) × (Nat → Int32) × (Nat → Int32) × (Nat → Int32) × (Nat → Int32) × (Nat → Int32) × Int32)} {sk39 : (Nat → Int32) → (Nat → Int32) → (Nat → Int32) → (Nat → Int32) → (Nat → Int32) → (Nat → Int32) → (Nat → Int32) → (Nat → Int32) → (Nat → Int32) → Int32 → Int32 → Int32 → Int32 → Int32 → Int32 → Prop} {kk66 : (Nat → Int32) → (Nat → Int32) → (Nat → Int32) → (Nat → Int32) → (Nat → Int32) → (Nat → Int32) → (Nat → Int32) → (Nat → Int32) → (Nat → Int32) → Int32 → Int32 → Int32 → Int32 → Int32 → Int32 → Int32 → ((Nat → Int32) × (Nat → Int32) × (Nat → Int32) × (Nat → Int32) × (Nat → Int32) × (Nat → Int32) × (Nat → Int32) × (Nat → Int32) × Int32)} {sk66 : (Nat → Int32) → (Nat → Int32) → (Nat → Int32) → (Nat → Int32) → (Nat → Int32) → (Nat → Int32) → (Nat → Int32) → (Nat → Int32) → (Nat → Int32) → Int32 → Int32 → Int32 → Int32 → Int32 → Int32 → Int32 → Prop} (hk39 : ∀ (F : Nat → Int32) (rl : Nat → Int32) (lg : Nat → Int32) (sta : Nat → Int32) (sm : Nat → Int32) (par : Nat → Int32) (mv : Nat → Int32) (dep : Nat → Int32) (nwa : Nat → Int32) (th : Nat → Int32) (bf : Nat → Int32) (row : Nat → Int32) (wid : Nat → Int32) (siz : Nat → Int32) (cel : Nat → Int64) (mvd : Nat → Int64) (ned : Nat → Int32) (v2 : Int32) (v3 : Int32) (v4 : Int32) (v5 : Int32) (v6 : Int32) (v7 : Int32), sk39 F lg sta sm par mv dep th bf v2 v3 v4 v5 v6 v7 → ng_Ev G md_X6_search 39 [some (.ref 28), none, some (.int v2), some (.int v3), some (.int v4), some (.int v5), some (.int v6), some (.int v7), none, none] [] (hf F rl lg sta sm par mv dep nwa th bf row wid siz cel mvd ned) (K_X6_search hf rl nwa bf row wid siz cel mvd ned (kk39 F lg sta sm par mv dep th bf v2 v3 v4 v5 v6 v7))) (hk66 : ∀ (F : Nat → Int32) (rl : Nat → Int32) (lg : Nat → Int32) (sta : Nat → Int32) (sm : Nat → Int32) (par : Nat → Int32) (mv : Nat → Int32) (dep : Nat → Int32) (nwa : Nat → Int32) (th : Nat → Int32) (bf : Nat → Int32) (row : Nat → Int32) (wid : Nat → Int32) (siz : Nat → Int32) (cel : Nat → Int64) (mvd : Nat → Int64) (ned : Nat → Int32) (v2 : Int32) (v3 : Int32) (v4 : Int32) (v5 : Int32) (v6 : Int32) (v7 : Int32) (v8 : Int32), sk66 F lg sta sm par mv dep th bf v2 v3 v4 v5 v6 v7 v8 → ng_Ev G md_X6_search 66 [some (.ref 28), none, some (.int v2), some (.int v3), some (.int v4), some (.int v5), some (.int v6), some (.int v7), some (.int v8), none] [] (hf F rl lg sta sm par mv dep nwa th bf row wid siz cel mvd ned) (K_X6_search hf rl nwa bf row wid siz cel mvd ned (kk66 F lg sta sm par mv dep th bf v2 v3 v4 v5 v6 v7 v8))) {v2 : Int32} {v3 : Int32} {v4 : Int32} {v5 : Int32} {v6 : Int32} {v7 : Int32} {v8 : Int32} (h : s_X6_search_133 sk39 sk66 F lg sta sm par mv dep th bf v2 v3 v4 v5 v6 v7 v8)  : ng_Ev G md_X6_search 133 [some (.ref 28), none, some (.int v2), some (.int v3), some (.int v4), some (.int v5), some (.int v6), some (.int v7), some (.int v8), none] [] (hf F rl lg sta sm par mv dep nwa th bf row wid siz cel mvd ned) (K_X6_search hf rl nwa bf row wid siz cel mvd ned (f_X6_search_133 kk39 kk66 F lg sta sm par mv dep th bf v2 v3 v4 v5 v6 v7 v8)) := by
  unfold s_X6_search_133 at h
  unfold f_X6_search_133
  refine ev_aload_n dX6_search_133 rfl rfl rfl ?_
  refine ev_get 6 7 fl_RX6_17 (FL_g28 V) rfl dX6_search_134 ?_
  refine ev_sipush (v := nI 527) dX6_search_137 (by decide) ?_
  refine ev_iload dX6_search_140 rfl ?_
  refine ev_imul dX6_search_142 ?_
  refine ev_aload_n dX6_search_143 rfl rfl rfl ?_
  refine ev_get 6 13 fl_RX6_35 (FL_g28 V) rfl dX6_search_144 ?_
  refine ev_iconst (v := nI 0) dX6_search_147 (by decide) ?_
  have hs148 := h.1
  replace h := h.2
  refine bk_callS (As := [.ref 31, .int ((nI 527) * v7), .ref 37, .int (nI 0)]) (st := []) (st2 := []) (M2 := hf F rl lg sta sm par mv dep nwa (f_X6_copy_ sta th 158100 527 ((nI 527) * v7) (nI 0)) bf row wid siz cel mvd ned) ok_X6_copy_ lk_RX6_182 (ng_rok.of rfl rfl) rfl rfl rfl rfl dX6_search_148 (m_X6_copy_ (show ng_CL (fun fr fo => hf F rl lg fr sm par mv dep nwa fo bf row wid siz cel mvd ned) 31 37 158100 527 from ⟨fun _ _ => FL_g31 V, fun _ _ => FL_g37 V, fun _ _ _ => FL_s37 V⟩) hs148) rfl rfl ?_
  exact ev_sub (e_X6_search_151 V hk39 hk66 h) (sub_s (sub_n (sub_s (sub_s (sub_s (sub_s (sub_s (sub_s (sub_s (sub_n sub_e))))))))))
def f_X6_search_277 (kk39 : (Nat → Int32) → (Nat → Int32) → (Nat → Int32) → (Nat → Int32) → (Nat → Int32) → (Nat → Int32) → (Nat → Int32) → (Nat → Int32) → (Nat → Int32) → Int32 → Int32 → Int32 → Int32 → Int32 → Int32 → ((Nat → Int32) × (Nat → Int32) × (Nat → Int32) × (Nat → Int32) × (Nat → Int32) × (Nat → Int32) × (Nat → Int32) × (Nat → Int32) × Int32)) (F : Nat → Int32) (lg : Nat → Int32) (sta : Nat → Int32) (sm : Nat → Int32) (par : Nat → Int32) (mv : Nat → Int32) (dep : Nat → Int32) (th : Nat → Int32) (bf : Nat → Int32) (v2 : Int32) (v3 : Int32) (v4 : Int32) (v5 : Int32) (v6 : Int32) (v7 : Int32) : (Nat → Int32) × (Nat → Int32) × (Nat → Int32) × (Nat → Int32) × (Nat → Int32) × (Nat → Int32) × (Nat → Int32) × (Nat → Int32) × Int32 := kk39 F lg sta sm par mv dep th bf v2 v3 v4 v5 v6 (v7 + nI 1)
def s_X6_search_277 (sk39 : (Nat → Int32) → (Nat → Int32) → (Nat → Int32) → (Nat → Int32) → (Nat → Int32) → (Nat → Int32) → (Nat → Int32) → (Nat → Int32) → (Nat → Int32) → Int32 → Int32 → Int32 → Int32 → Int32 → Int32 → Prop) (F : Nat → Int32) (lg : Nat → Int32) (sta : Nat → Int32) (sm : Nat → Int32) (par : Nat → Int32) (mv : Nat → Int32) (dep : Nat → Int32) (th : Nat → Int32) (bf : Nat → Int32) (v2 : Int32) (v3 : Int32) (v4 : Int32) (v5 : Int32) (v6 : Int32) (v7 : Int32) : Prop := sk39 F lg sta sm par mv dep th bf v2 v3 v4 v5 v6 (v7 + nI 1)
set_option maxRecDepth 100000 in
set_option maxHeartbeats 4000000 in
theorem e_X6_search_277 {G : ng_GG} {hf : (Nat → Int32) → (Nat → Int32) → (Nat → Int32) → (Nat → Int32) → (Nat → Int32) → (Nat → Int32) → (Nat → Int32) → (Nat → Int32) → (Nat → Int32) → (Nat → Int32) → (Nat → Int32) → (Nat → Int32) → (Nat → Int32) → (Nat → Int32) → (Nat → Int64) → (Nat → Int64) → (Nat → Int32) → ng_AM}  (V : ng_FL hf ) {F : Nat → Int32} {rl : Nat → Int32} {lg : Nat → Int32} {sta : Nat → Int32} {sm : Nat → Int32} {par : Nat → Int32} {mv : Nat → Int32} {dep : Nat → Int32} {nwa : Nat → Int32} {th : Nat → Int32} {bf : Nat → Int32} {row : Nat → Int32} {wid : Nat → Int32} {siz : Nat → Int32} {cel : Nat → Int64} {mvd : Nat → Int64} {ned : Nat → Int32} {kk39 : (Nat → Int32) → (Nat → Int32) → (Nat → Int32) → (Nat → Int32) → (Nat → Int32) → (Nat → Int32) → (Nat → Int32) → (Nat → Int32) → (Nat → Int32) → Int32 → Int32 → Int32 → Int32 → Int32 → Int32 → ((Nat → Int32) × (Nat → Int32) × (Nat → Int32) × (Nat → Int32) × (Nat → Int32) × (Nat → Int32) × (Nat → Int32) × (Nat → Int32) × Int32)} {sk39 : (Nat → Int32) → (Nat → Int32) → (Nat → Int32) → (Nat → Int32) → (Nat → Int32) → (Nat → Int32) → (Nat → Int32) → (Nat → Int32) → (Nat → Int32) → Int32 → Int32 → Int32 → Int32 → Int32 → Int32 → Prop} (hk39 : ∀ (F : Nat → Int32) (rl : Nat → Int32) (lg : Nat → Int32) (sta : Nat → Int32) (sm : Nat → Int32) (par : Nat → Int32) (mv : Nat → Int32) (dep : Nat → Int32) (nwa : Nat → Int32) (th : Nat → Int32) (bf : Nat → Int32) (row : Nat → Int32) (wid : Nat → Int32) (siz : Nat → Int32) (cel : Nat → Int64) (mvd : Nat → Int64) (ned : Nat → Int32) (v2 : Int32) (v3 : Int32) (v4 : Int32) (v5 : Int32) (v6 : Int32) (v7 : Int32), sk39 F lg sta sm par mv dep th bf v2 v3 v4 v5 v6 v7 → ng_Ev G md_X6_search 39 [some (.ref 28), none, some (.int v2), some (.int v3), some (.int v4), some (.int v5), some (.int v6), some (.int v7), none, none] [] (hf F rl lg sta sm par mv dep nwa th bf row wid siz cel mvd ned) (K_X6_search hf rl nwa bf row wid siz cel mvd ned (kk39 F lg sta sm par mv dep th bf v2 v3 v4 v5 v6 v7))) {v2 : Int32} {v3 : Int32} {v4 : Int32} {v5 : Int32} {v6 : Int32} {v7 : Int32} (h : s_X6_search_277 sk39 F lg sta sm par mv dep th bf v2 v3 v4 v5 v6 v7)  : ng_Ev G md_X6_search 277 [some (.ref 28), none, some (.int v2), some (.int v3), some (.int v4), some (.int v5), some (.int v6), some (.int v7), none, none] [] (hf F rl lg sta sm par mv dep nwa th bf row wid siz cel mvd ned) (K_X6_search hf rl nwa bf row wid siz cel mvd ned (f_X6_search_277 kk39 F lg sta sm par mv dep th bf v2 v3 v4 v5 v6 v7)) := by
  unfold s_X6_search_277 at h
  unfold f_X6_search_277
  refine ev_iinc (v := v7 + nI 1) (L' := [some (.ref 28), none, some (.int v2), some (.int v3), some (.int v4), some (.int v5), some (.int v6), some (.int (v7 + nI 1)), none, none]) dX6_search_277 rfl (by rfl) rfl ?_
  refine ev_goto (tgt := 39) dX6_search_280 (by decide) ?_
  exact ev_sub (hk39 F rl lg sta sm par mv dep nwa th bf row wid siz cel mvd ned v2 v3 v4 v5 v6 (v7 + nI 1) h) (sub_s (sub_n (sub_s (sub_s (sub_s (sub_s (sub_s (sub_s (sub_n (sub_n sub_e))))))))))
def f_X6_search_66 (kk39 : (Nat → Int32) → (Nat → Int32) → (Nat → Int32) → (Nat → Int32) → (Nat → Int32) → (Nat → Int32) → (Nat → Int32) → (Nat → Int32) → (Nat → Int32) → Int32 → Int32 → Int32 → Int32 → Int32 → Int32 → ((Nat → Int32) × (Nat → Int32) × (Nat → Int32) × (Nat → Int32) × (Nat → Int32) × (Nat → Int32) × (Nat → Int32) × (Nat → Int32) × Int32)) : Nat → (Nat → Int32) → (Nat → Int32) → (Nat → Int32) → (Nat → Int32) → (Nat → Int32) → (Nat → Int32) → (Nat → Int32) → (Nat → Int32) → (Nat → Int32) → Int32 → Int32 → Int32 → Int32 → Int32 → Int32 → Int32 → ((Nat → Int32) × (Nat → Int32) × (Nat → Int32) × (Nat → Int32) × (Nat → Int32) × (Nat → Int32) × (Nat → Int32) × (Nat → Int32) × Int32)
  | 0, F, lg, sta, sm, par, mv, dep, th, _, _, _, _, _, _, _, _ => (F, lg, sta, sm, par, mv, dep, th, 0)
  | n + 1, F, lg, sta, sm, par, mv, dep, th, bf, v2, v3, v4, v5, v6, v7, v8 => (if (nI 600) < v8 then f_X6_search_277 kk39 F lg sta sm par mv dep th bf v2 v3 v4 v5 v6 v7 else (if v8 = (nI 12) then f_X6_search_133 kk39 (f_X6_search_66 kk39 n) F lg sta sm par mv dep th bf v2 v3 v4 v5 v6 v7 (nI 100) else (if v8 = (nI 228) then f_X6_search_133 kk39 (f_X6_search_66 kk39 n) F lg sta sm par mv dep th bf v2 v3 v4 v5 v6 v7 (nI 300) else (if v8 = (nI 332) then f_X6_search_133 kk39 (f_X6_search_66 kk39 n) F lg sta sm par mv dep th bf v2 v3 v4 v5 v6 v7 (nI 400) else (if v8 = (nI 528) then f_X6_search_133 kk39 (f_X6_search_66 kk39 n) F lg sta sm par mv dep th bf v2 v3 v4 v5 v6 v7 (nI 600) else f_X6_search_133 kk39 (f_X6_search_66 kk39 n) F lg sta sm par mv dep th bf v2 v3 v4 v5 v6 v7 v8)))))
def s_X6_search_66 (sk39 : (Nat → Int32) → (Nat → Int32) → (Nat → Int32) → (Nat → Int32) → (Nat → Int32) → (Nat → Int32) → (Nat → Int32) → (Nat → Int32) → (Nat → Int32) → Int32 → Int32 → Int32 → Int32 → Int32 → Int32 → Prop) : Nat → (Nat → Int32) → (Nat → Int32) → (Nat → Int32) → (Nat → Int32) → (Nat → Int32) → (Nat → Int32) → (Nat → Int32) → (Nat → Int32) → (Nat → Int32) → Int32 → Int32 → Int32 → Int32 → Int32 → Int32 → Int32 → Prop
  | 0, _, _, _, _, _, _, _, _, _, _, _, _, _, _, _, _ => False
  | n + 1, F, lg, sta, sm, par, mv, dep, th, bf, v2, v3, v4, v5, v6, v7, v8 => (((nI 600) < v8 → s_X6_search_277 sk39 F lg sta sm par mv dep th bf v2 v3 v4 v5 v6 v7) ∧ (¬ (nI 600) < v8 → ((v8 = (nI 12) → s_X6_search_133 sk39 (s_X6_search_66 sk39 n) F lg sta sm par mv dep th bf v2 v3 v4 v5 v6 v7 (nI 100)) ∧ (¬ v8 = (nI 12) → ((v8 = (nI 228) → s_X6_search_133 sk39 (s_X6_search_66 sk39 n) F lg sta sm par mv dep th bf v2 v3 v4 v5 v6 v7 (nI 300)) ∧ (¬ v8 = (nI 228) → ((v8 = (nI 332) → s_X6_search_133 sk39 (s_X6_search_66 sk39 n) F lg sta sm par mv dep th bf v2 v3 v4 v5 v6 v7 (nI 400)) ∧ (¬ v8 = (nI 332) → ((v8 = (nI 528) → s_X6_search_133 sk39 (s_X6_search_66 sk39 n) F lg sta sm par mv dep th bf v2 v3 v4 v5 v6 v7 (nI 600)) ∧ (¬ v8 = (nI 528) → s_X6_search_133 sk39 (s_X6_search_66 sk39 n) F lg sta sm par mv dep th bf v2 v3 v4 v5 v6 v7 v8))))))))))
set_option maxRecDepth 100000 in
set_option maxHeartbeats 4000000 in
theorem e_X6_search_66 {G : ng_GG} {hf : (Nat → Int32) → (Nat → Int32) → (Nat → Int32) → (Nat → Int32) → (Nat → Int32) → (Nat → Int32) → (Nat → Int32) → (Nat → Int32) → (Nat → Int32) → (Nat → Int32) → (Nat → Int32) → (Nat → Int32) → (Nat → Int32) → (Nat → Int32) → (Nat → Int64) → (Nat → Int64) → (Nat → Int32) → ng_AM}  (V : ng_FL hf ) {kk39 : (Nat → Int32) → (Nat → Int32) → (Nat → Int32) → (Nat → Int32) → (Nat → Int32) → (Nat → Int32) → (Nat → Int32) → (Nat → Int32) → (Nat → Int32) → Int32 → Int32 → Int32 → Int32 → Int32 → Int32 → ((Nat → Int32) × (Nat → Int32) × (Nat → Int32) × (Nat → Int32) × (Nat → Int32) × (Nat → Int32) × (Nat → Int32) × (Nat → Int32) × Int32)} {sk39 : (Nat → Int32) → (Nat → Int32) → (Nat → Int32) → (Nat → Int32) → (Nat → Int32) → (Nat → Int32) → (Nat → Int32) → (Nat → Int32) → (Nat → Int32) → Int32 → Int32 → Int32 → Int32 → Int32 → Int32 → Prop} (hk39 : ∀ (F : Nat → Int32) (rl : Nat → Int32) (lg : Nat → Int32) (sta : Nat → Int32) (sm : Nat → Int32) (par : Nat → Int32) (mv : Nat → Int32) (dep : Nat → Int32) (nwa : Nat → Int32) (th : Nat → Int32) (bf : Nat → Int32) (row : Nat → Int32) (wid : Nat → Int32) (siz : Nat → Int32) (cel : Nat → Int64) (mvd : Nat → Int64) (ned : Nat → Int32) (v2 : Int32) (v3 : Int32) (v4 : Int32) (v5 : Int32) (v6 : Int32) (v7 : Int32), sk39 F lg sta sm par mv dep th bf v2 v3 v4 v5 v6 v7 → ng_Ev G md_X6_search 39 [some (.ref 28), none, some (.int v2), some (.int v3), some (.int v4), some (.int v5), some (.int v6), some (.int v7), none, none] [] (hf F rl lg sta sm par mv dep nwa th bf row wid siz cel mvd ned) (K_X6_search hf rl nwa bf row wid siz cel mvd ned (kk39 F lg sta sm par mv dep th bf v2 v3 v4 v5 v6 v7))) : ∀ (n : Nat) (F : Nat → Int32) (rl : Nat → Int32) (lg : Nat → Int32) (sta : Nat → Int32) (sm : Nat → Int32) (par : Nat → Int32) (mv : Nat → Int32) (dep : Nat → Int32) (nwa : Nat → Int32) (th : Nat → Int32) (bf : Nat → Int32) (row : Nat → Int32) (wid : Nat → Int32) (siz : Nat → Int32) (cel : Nat → Int64) (mvd : Nat → Int64) (ned : Nat → Int32) (v2 : Int32) (v3 : Int32) (v4 : Int32) (v5 : Int32) (v6 : Int32) (v7 : Int32) (v8 : Int32), s_X6_search_66 sk39 n F lg sta sm par mv dep th bf v2 v3 v4 v5 v6 v7 v8 → ng_Ev G md_X6_search 66 [some (.ref 28), none, some (.int v2), some (.int v3), some (.int v4), some (.int v5), some (.int v6), some (.int v7), some (.int v8), none] [] (hf F rl lg sta sm par mv dep nwa th bf row wid siz cel mvd ned) (K_X6_search hf rl nwa bf row wid siz cel mvd ned (f_X6_search_66 kk39 n F lg sta sm par mv dep th bf v2 v3 v4 v5 v6 v7 v8)) := by
  intro n
  induction n with
  | zero => intro F rl lg sta sm par mv dep nwa th bf row wid siz cel mvd ned v2 v3 v4 v5 v6 v7 v8 h; exact False.elim h
  | succ n ih =>
    intro F rl lg sta sm par mv dep nwa th bf row wid siz cel mvd ned v2 v3 v4 v5 v6 v7 v8 h 
    rw [s_X6_search_66] at h
    rw [f_X6_search_66]
    refine ev_iload dX6_search_66 rfl ?_
    refine ev_sipush (v := nI 600) dX6_search_68 (by decide) ?_
    refine bk_icmp_gt (tgt := 277) dX6_search_71 (by decide) (fun c71 => ?_) (fun c71 => ?_)
    · replace h := h.1 c71
      exact ev_sub (e_X6_search_277 V hk39 h) (sub_s (sub_n (sub_s (sub_s (sub_s (sub_s (sub_s (sub_s (sub_n (sub_n sub_e))))))))))
    · replace h := h.2 c71
      refine ev_iload dX6_search_74 rfl ?_
      refine ev_bipush (v := nI 12) dX6_search_76 (by decide) ?_
      refine bk_icmp_ne (tgt := 88) dX6_search_78 (by decide) (fun c78 => ?_) (fun c78 => ?_)
      · replace h := h.2 c78
        refine ev_iload dX6_search_88 rfl ?_
        refine ev_sipush (v := nI 228) dX6_search_90 (by decide) ?_
        refine bk_icmp_ne (tgt := 104) dX6_search_93 (by decide) (fun c93 => ?_) (fun c93 => ?_)
        · replace h := h.2 c93
          refine ev_iload dX6_search_104 rfl ?_
          refine ev_sipush (v := nI 332) dX6_search_106 (by decide) ?_
          refine bk_icmp_ne (tgt := 120) dX6_search_109 (by decide) (fun c109 => ?_) (fun c109 => ?_)
          · replace h := h.2 c109
            refine ev_iload dX6_search_120 rfl ?_
            refine ev_sipush (v := nI 528) dX6_search_122 (by decide) ?_
            refine bk_icmp_ne (tgt := 133) dX6_search_125 (by decide) (fun c125 => ?_) (fun c125 => ?_)
            · replace h := h.2 c125
              exact ev_sub (e_X6_search_133 V hk39 ih h) (sub_s (sub_n (sub_s (sub_s (sub_s (sub_s (sub_s (sub_s (sub_s (sub_n sub_e))))))))))
            · replace h := h.1 c125
              refine ev_sipush (v := nI 600) dX6_search_128 (by decide) ?_
              refine ev_istore (L' := [some (.ref 28), none, some (.int v2), some (.int v3), some (.int v4), some (.int v5), some (.int v6), some (.int v7), some (.int (nI 600)), none]) dX6_search_131 (ng_lt rfl) rfl ?_
              exact ev_sub (e_X6_search_133 V hk39 ih h) (sub_s (sub_n (sub_s (sub_s (sub_s (sub_s (sub_s (sub_s (sub_s (sub_n sub_e))))))))))
          · replace h := h.1 c109
            refine ev_sipush (v := nI 400) dX6_search_112 (by decide) ?_
            refine ev_istore (L' := [some (.ref 28), none, some (.int v2), some (.int v3), some (.int v4), some (.int v5), some (.int v6), some (.int v7), some (.int (nI 400)), none]) dX6_search_115 (ng_lt rfl) rfl ?_
            refine ev_goto (tgt := 133) dX6_search_117 (by decide) ?_
            exact ev_sub (e_X6_search_133 V hk39 ih h) (sub_s (sub_n (sub_s (sub_s (sub_s (sub_s (sub_s (sub_s (sub_s (sub_n sub_e))))))))))
        · replace h := h.1 c93
          refine ev_sipush (v := nI 300) dX6_search_96 (by decide) ?_
          refine ev_istore (L' := [some (.ref 28), none, some (.int v2), some (.int v3), some (.int v4), some (.int v5), some (.int v6), some (.int v7), some (.int (nI 300)), none]) dX6_search_99 (ng_lt rfl) rfl ?_
          refine ev_goto (tgt := 133) dX6_search_101 (by decide) ?_
          exact ev_sub (e_X6_search_133 V hk39 ih h) (sub_s (sub_n (sub_s (sub_s (sub_s (sub_s (sub_s (sub_s (sub_s (sub_n sub_e))))))))))
      · replace h := h.1 c78
        refine ev_bipush (v := nI 100) dX6_search_81 (by decide) ?_
        refine ev_istore (L' := [some (.ref 28), none, some (.int v2), some (.int v3), some (.int v4), some (.int v5), some (.int v6), some (.int v7), some (.int (nI 100)), none]) dX6_search_83 (ng_lt rfl) rfl ?_
        refine ev_goto (tgt := 133) dX6_search_85 (by decide) ?_
        exact ev_sub (e_X6_search_133 V hk39 ih h) (sub_s (sub_n (sub_s (sub_s (sub_s (sub_s (sub_s (sub_s (sub_s (sub_n sub_e))))))))))
def f_X6_search_39  : Nat → (Nat → Int32) → (Nat → Int32) → (Nat → Int32) → (Nat → Int32) → (Nat → Int32) → (Nat → Int32) → (Nat → Int32) → (Nat → Int32) → (Nat → Int32) → Int32 → Int32 → Int32 → Int32 → Int32 → Int32 → ((Nat → Int32) × (Nat → Int32) × (Nat → Int32) × (Nat → Int32) × (Nat → Int32) × (Nat → Int32) × (Nat → Int32) × (Nat → Int32) × Int32)
  | 0, F, lg, sta, sm, par, mv, dep, th, _, _, _, _, _, _, _ => (F, lg, sta, sm, par, mv, dep, th, 0)
  | n + 1, F, lg, sta, sm, par, mv, dep, th, bf, v2, v3, v4, v5, v6, v7 => (if (F 15) ≤ v7 then (F, lg, sta, sm, par, mv, dep, th, (-1)) else (if (dep v7.toNatClampNeg) = v6 then f_X6_search_277 (f_X6_search_39 n) F lg sta sm par mv dep th bf v2 v3 v4 v5 v6 v7 else f_X6_search_66 (f_X6_search_39 n) ng_F F lg sta sm par mv dep th bf v2 v3 v4 v5 v6 v7 (nI 0)))
def s_X6_search_39  : Nat → (Nat → Int32) → (Nat → Int32) → (Nat → Int32) → (Nat → Int32) → (Nat → Int32) → (Nat → Int32) → (Nat → Int32) → (Nat → Int32) → (Nat → Int32) → Int32 → Int32 → Int32 → Int32 → Int32 → Int32 → Prop
  | 0, _, _, _, _, _, _, _, _, _, _, _, _, _, _, _ => False
  | n + 1, F, lg, sta, sm, par, mv, dep, th, bf, v2, v3, v4, v5, v6, v7 => (¬ (F 15) ≤ v7 → (vp_in v7 300 ∧ (((dep v7.toNatClampNeg) = v6 → s_X6_search_277 (s_X6_search_39 n) F lg sta sm par mv dep th bf v2 v3 v4 v5 v6 v7) ∧ (¬ (dep v7.toNatClampNeg) = v6 → s_X6_search_66 (s_X6_search_39 n) ng_F F lg sta sm par mv dep th bf v2 v3 v4 v5 v6 v7 (nI 0)))))
set_option maxRecDepth 100000 in
set_option maxHeartbeats 4000000 in
theorem e_X6_search_39 {G : ng_GG} {hf : (Nat → Int32) → (Nat → Int32) → (Nat → Int32) → (Nat → Int32) → (Nat → Int32) → (Nat → Int32) → (Nat → Int32) → (Nat → Int32) → (Nat → Int32) → (Nat → Int32) → (Nat → Int32) → (Nat → Int32) → (Nat → Int32) → (Nat → Int32) → (Nat → Int64) → (Nat → Int64) → (Nat → Int32) → ng_AM}  (V : ng_FL hf )  : ∀ (n : Nat) (F : Nat → Int32) (rl : Nat → Int32) (lg : Nat → Int32) (sta : Nat → Int32) (sm : Nat → Int32) (par : Nat → Int32) (mv : Nat → Int32) (dep : Nat → Int32) (nwa : Nat → Int32) (th : Nat → Int32) (bf : Nat → Int32) (row : Nat → Int32) (wid : Nat → Int32) (siz : Nat → Int32) (cel : Nat → Int64) (mvd : Nat → Int64) (ned : Nat → Int32) (v2 : Int32) (v3 : Int32) (v4 : Int32) (v5 : Int32) (v6 : Int32) (v7 : Int32), s_X6_search_39  n F lg sta sm par mv dep th bf v2 v3 v4 v5 v6 v7 → ng_Ev G md_X6_search 39 [some (.ref 28), none, some (.int v2), some (.int v3), some (.int v4), some (.int v5), some (.int v6), some (.int v7), none, none] [] (hf F rl lg sta sm par mv dep nwa th bf row wid siz cel mvd ned) (K_X6_search hf rl nwa bf row wid siz cel mvd ned (f_X6_search_39  n F lg sta sm par mv dep th bf v2 v3 v4 v5 v6 v7)) := by
  intro n
  induction n with
  | zero => intro F rl lg sta sm par mv dep nwa th bf row wid siz cel mvd ned v2 v3 v4 v5 v6 v7 h; exact False.elim h
  | succ n ih =>
    intro F rl lg sta sm par mv dep nwa th bf row wid siz cel mvd ned v2 v3 v4 v5 v6 v7 h 
    rw [s_X6_search_39] at h
    rw [f_X6_search_39]
    refine ev_iload dX6_search_39 rfl ?_
    refine ev_aload_n dX6_search_41 rfl rfl rfl ?_
    refine ev_get 6 15 fl_RX6_179 (FL_g28 V) rfl dX6_search_42 ?_
    refine bk_icmp_ge (tgt := 283) dX6_search_45 (by decide) (fun c45 => ?_) (fun c45 => ?_)
    · refine ev_iconst (v := (-1)) dX6_search_283 (by decide) ?_
      exact ev_iret rfl rfl dX6_search_284
    · replace h := h c45
      refine ev_aload_n dX6_search_48 rfl rfl rfl ?_
      refine ev_get 6 11 fl_RX6_29 (FL_g28 V) rfl dX6_search_49 ?_
      refine ev_iload dX6_search_52 rfl ?_
      have hi54 := h.1
      replace h := h.2
      refine ev_iald (FL_g35 V) hi54 dX6_search_54 ?_
      refine ev_iload dX6_search_55 rfl ?_
      refine bk_icmp_ne (tgt := 63) dX6_search_57 (by decide) (fun c57 => ?_) (fun c57 => ?_)
      · replace h := h.2 c57
        refine ev_iconst (v := nI 0) dX6_search_63 (by decide) ?_
        refine ev_istore (L' := [some (.ref 28), none, some (.int v2), some (.int v3), some (.int v4), some (.int v5), some (.int v6), some (.int v7), some (.int (nI 0)), none]) dX6_search_64 (ng_lt rfl) rfl ?_
        exact ev_sub (e_X6_search_66 V ih ng_F F rl lg sta sm par mv dep nwa th bf row wid siz cel mvd ned v2 v3 v4 v5 v6 v7 (nI 0) h) (sub_s (sub_n (sub_s (sub_s (sub_s (sub_s (sub_s (sub_s (sub_s (sub_n sub_e))))))))))
      · replace h := h.1 c57
        refine ev_goto (tgt := 277) dX6_search_60 (by decide) ?_
        exact ev_sub (e_X6_search_277 V ih h) (sub_s (sub_n (sub_s (sub_s (sub_s (sub_s (sub_s (sub_s (sub_n (sub_n sub_e))))))))))
def f_X6_search_36  (F : Nat → Int32) (lg : Nat → Int32) (sta : Nat → Int32) (sm : Nat → Int32) (par : Nat → Int32) (mv : Nat → Int32) (dep : Nat → Int32) (th : Nat → Int32) (bf : Nat → Int32) (v2 : Int32) (v3 : Int32) (v4 : Int32) (v5 : Int32) (v6 : Int32) : (Nat → Int32) × (Nat → Int32) × (Nat → Int32) × (Nat → Int32) × (Nat → Int32) × (Nat → Int32) × (Nat → Int32) × (Nat → Int32) × Int32 := f_X6_search_39 ng_F F lg sta sm par mv dep th bf v2 v3 v4 v5 v6 (nI 0)
def s_X6_search_36  (F : Nat → Int32) (lg : Nat → Int32) (sta : Nat → Int32) (sm : Nat → Int32) (par : Nat → Int32) (mv : Nat → Int32) (dep : Nat → Int32) (th : Nat → Int32) (bf : Nat → Int32) (v2 : Int32) (v3 : Int32) (v4 : Int32) (v5 : Int32) (v6 : Int32) : Prop := s_X6_search_39 ng_F F lg sta sm par mv dep th bf v2 v3 v4 v5 v6 (nI 0)
set_option maxRecDepth 100000 in
set_option maxHeartbeats 4000000 in
theorem e_X6_search_36 {G : ng_GG} {hf : (Nat → Int32) → (Nat → Int32) → (Nat → Int32) → (Nat → Int32) → (Nat → Int32) → (Nat → Int32) → (Nat → Int32) → (Nat → Int32) → (Nat → Int32) → (Nat → Int32) → (Nat → Int32) → (Nat → Int32) → (Nat → Int32) → (Nat → Int32) → (Nat → Int64) → (Nat → Int64) → (Nat → Int32) → ng_AM}  (V : ng_FL hf ) {F : Nat → Int32} {rl : Nat → Int32} {lg : Nat → Int32} {sta : Nat → Int32} {sm : Nat → Int32} {par : Nat → Int32} {mv : Nat → Int32} {dep : Nat → Int32} {nwa : Nat → Int32} {th : Nat → Int32} {bf : Nat → Int32} {row : Nat → Int32} {wid : Nat → Int32} {siz : Nat → Int32} {cel : Nat → Int64} {mvd : Nat → Int64} {ned : Nat → Int32}  {v2 : Int32} {v3 : Int32} {v4 : Int32} {v5 : Int32} {v6 : Int32} (h : s_X6_search_36  F lg sta sm par mv dep th bf v2 v3 v4 v5 v6)  : ng_Ev G md_X6_search 36 [some (.ref 28), none, some (.int v2), some (.int v3), some (.int v4), some (.int v5), some (.int v6), none, none, none] [] (hf F rl lg sta sm par mv dep nwa th bf row wid siz cel mvd ned) (K_X6_search hf rl nwa bf row wid siz cel mvd ned (f_X6_search_36  F lg sta sm par mv dep th bf v2 v3 v4 v5 v6)) := by
  unfold s_X6_search_36 at h
  unfold f_X6_search_36
  refine ev_iconst (v := nI 0) dX6_search_36 (by decide) ?_
  refine ev_istore (L' := [some (.ref 28), none, some (.int v2), some (.int v3), some (.int v4), some (.int v5), some (.int v6), some (.int (nI 0)), none, none]) dX6_search_37 (ng_lt rfl) rfl ?_
  exact ev_sub (e_X6_search_39 V ng_F F rl lg sta sm par mv dep nwa th bf row wid siz cel mvd ned v2 v3 v4 v5 v6 (nI 0) h) (sub_s (sub_n (sub_s (sub_s (sub_s (sub_s (sub_s (sub_s (sub_n (sub_n sub_e))))))))))
def f_X6_search_21  (F : Nat → Int32) (lg : Nat → Int32) (sta : Nat → Int32) (sm : Nat → Int32) (par : Nat → Int32) (mv : Nat → Int32) (dep : Nat → Int32) (th : Nat → Int32) (bf : Nat → Int32) (v2 : Int32) (v3 : Int32) (v4 : Int32) (v5 : Int32) (v6 : Int32) : (Nat → Int32) × (Nat → Int32) × (Nat → Int32) × (Nat → Int32) × (Nat → Int32) × (Nat → Int32) × (Nat → Int32) × (Nat → Int32) × Int32 := (if v2 = (nI 1) then (if (f_X6_isMixed bf v3) = 0 then f_X6_search_36 F lg sta sm par mv dep th bf v2 v3 v4 v5 v6 else (F, lg, sta, sm, par, mv, dep, th, nI 0)) else f_X6_search_36 F lg sta sm par mv dep th bf v2 v3 v4 v5 v6)
def s_X6_search_21  (F : Nat → Int32) (lg : Nat → Int32) (sta : Nat → Int32) (sm : Nat → Int32) (par : Nat → Int32) (mv : Nat → Int32) (dep : Nat → Int32) (th : Nat → Int32) (bf : Nat → Int32) (v2 : Int32) (v3 : Int32) (v4 : Int32) (v5 : Int32) (v6 : Int32) : Prop := ((v2 = (nI 1) → (s_X6_isMixed bf v3 ∧ ((f_X6_isMixed bf v3) = 0 → s_X6_search_36 F lg sta sm par mv dep th bf v2 v3 v4 v5 v6))) ∧ (¬ v2 = (nI 1) → s_X6_search_36 F lg sta sm par mv dep th bf v2 v3 v4 v5 v6))
set_option maxRecDepth 100000 in
set_option maxHeartbeats 4000000 in
theorem e_X6_search_21 {G : ng_GG} {hf : (Nat → Int32) → (Nat → Int32) → (Nat → Int32) → (Nat → Int32) → (Nat → Int32) → (Nat → Int32) → (Nat → Int32) → (Nat → Int32) → (Nat → Int32) → (Nat → Int32) → (Nat → Int32) → (Nat → Int32) → (Nat → Int32) → (Nat → Int32) → (Nat → Int64) → (Nat → Int64) → (Nat → Int32) → ng_AM}  (V : ng_FL hf ) {F : Nat → Int32} {rl : Nat → Int32} {lg : Nat → Int32} {sta : Nat → Int32} {sm : Nat → Int32} {par : Nat → Int32} {mv : Nat → Int32} {dep : Nat → Int32} {nwa : Nat → Int32} {th : Nat → Int32} {bf : Nat → Int32} {row : Nat → Int32} {wid : Nat → Int32} {siz : Nat → Int32} {cel : Nat → Int64} {mvd : Nat → Int64} {ned : Nat → Int32}  {v2 : Int32} {v3 : Int32} {v4 : Int32} {v5 : Int32} {v6 : Int32} (h : s_X6_search_21  F lg sta sm par mv dep th bf v2 v3 v4 v5 v6)  : ng_Ev G md_X6_search 21 [some (.ref 28), some (.ref 38), some (.int v2), some (.int v3), some (.int v4), some (.int v5), some (.int v6), none, none, none] [] (hf F rl lg sta sm par mv dep nwa th bf row wid siz cel mvd ned) (K_X6_search hf rl nwa bf row wid siz cel mvd ned (f_X6_search_21  F lg sta sm par mv dep th bf v2 v3 v4 v5 v6)) := by
  unfold s_X6_search_21 at h
  unfold f_X6_search_21
  refine ev_iload_n dX6_search_21 rfl rfl ?_
  refine ev_iconst (v := nI 1) dX6_search_22 (by decide) ?_
  refine bk_icmp_ne (tgt := 36) dX6_search_23 (by decide) (fun c23 => ?_) (fun c23 => ?_)
  · replace h := h.2 c23
    exact ev_sub (e_X6_search_36 V h) (sub_s (sub_n (sub_s (sub_s (sub_s (sub_s (sub_s (sub_n (sub_n (sub_n sub_e))))))))))
  · replace h := h.1 c23
    refine ev_aload_n dX6_search_26 rfl rfl rfl ?_
    refine ev_iload_n dX6_search_27 rfl rfl ?_
    have hs28 := h.1
    replace h := h.2
    refine bk_callS (As := [.ref 38, .int v3]) (st := []) (st2 := [.int (f_X6_isMixed bf v3)]) (M2 := hf F rl lg sta sm par mv dep nwa th bf row wid siz cel mvd ned) ok_X6_isMixed lk_RX6_196 (ng_rok.of rfl rfl) rfl rfl rfl rfl dX6_search_28 (m_X6_isMixed (FL_Rbf V) hs28) rfl rfl ?_
    refine bk_if_eq (tgt := 36) dX6_search_31 (by decide) (fun c31 => ?_) (fun c31 => ?_)
    · replace h := h c31
      exact ev_sub (e_X6_search_36 V h) (sub_s (sub_n (sub_s (sub_s (sub_s (sub_s (sub_s (sub_n (sub_n (sub_n sub_e))))))))))
    · refine ev_iconst (v := nI 0) dX6_search_34 (by decide) ?_
      exact ev_iret rfl rfl dX6_search_35
def f_X6_search  (F : Nat → Int32) (lg : Nat → Int32) (sta : Nat → Int32) (sm : Nat → Int32) (par : Nat → Int32) (mv : Nat → Int32) (dep : Nat → Int32) (th : Nat → Int32) (bf : Nat → Int32) (v2 : Int32) (v3 : Int32) (v4 : Int32) (v5 : Int32) (v6 : Int32) : (Nat → Int32) × (Nat → Int32) × (Nat → Int32) × (Nat → Int32) × (Nat → Int32) × (Nat → Int32) × (Nat → Int32) × (Nat → Int32) × Int32 := f_X6_search_21 ((f_X6_lays_bf (upd (upd F 15 (nI 0)) 26 (-1)) sta sm par mv dep bf (f_X6_sumOf bf) (-1) (-1)).1) lg ((f_X6_lays_bf (upd (upd F 15 (nI 0)) 26 (-1)) sta sm par mv dep bf (f_X6_sumOf bf) (-1) (-1)).2.1) ((f_X6_lays_bf (upd (upd F 15 (nI 0)) 26 (-1)) sta sm par mv dep bf (f_X6_sumOf bf) (-1) (-1)).2.2.1) ((f_X6_lays_bf (upd (upd F 15 (nI 0)) 26 (-1)) sta sm par mv dep bf (f_X6_sumOf bf) (-1) (-1)).2.2.2.1) ((f_X6_lays_bf (upd (upd F 15 (nI 0)) 26 (-1)) sta sm par mv dep bf (f_X6_sumOf bf) (-1) (-1)).2.2.2.2.1) ((f_X6_lays_bf (upd (upd F 15 (nI 0)) 26 (-1)) sta sm par mv dep bf (f_X6_sumOf bf) (-1) (-1)).2.2.2.2.2) th bf v2 v3 v4 v5 v6
def s_X6_search  (F : Nat → Int32) (lg : Nat → Int32) (sta : Nat → Int32) (sm : Nat → Int32) (par : Nat → Int32) (mv : Nat → Int32) (dep : Nat → Int32) (th : Nat → Int32) (bf : Nat → Int32) (v2 : Int32) (v3 : Int32) (v4 : Int32) (v5 : Int32) (v6 : Int32) : Prop := (s_X6_sumOf bf ∧ (s_X6_lays_bf (upd (upd F 15 (nI 0)) 26 (-1)) sta sm par mv dep bf (f_X6_sumOf bf) (-1) (-1) ∧ s_X6_search_21 ((f_X6_lays_bf (upd (upd F 15 (nI 0)) 26 (-1)) sta sm par mv dep bf (f_X6_sumOf bf) (-1) (-1)).1) lg ((f_X6_lays_bf (upd (upd F 15 (nI 0)) 26 (-1)) sta sm par mv dep bf (f_X6_sumOf bf) (-1) (-1)).2.1) ((f_X6_lays_bf (upd (upd F 15 (nI 0)) 26 (-1)) sta sm par mv dep bf (f_X6_sumOf bf) (-1) (-1)).2.2.1) ((f_X6_lays_bf (upd (upd F 15 (nI 0)) 26 (-1)) sta sm par mv dep bf (f_X6_sumOf bf) (-1) (-1)).2.2.2.1) ((f_X6_lays_bf (upd (upd F 15 (nI 0)) 26 (-1)) sta sm par mv dep bf (f_X6_sumOf bf) (-1) (-1)).2.2.2.2.1) ((f_X6_lays_bf (upd (upd F 15 (nI 0)) 26 (-1)) sta sm par mv dep bf (f_X6_sumOf bf) (-1) (-1)).2.2.2.2.2) th bf v2 v3 v4 v5 v6))
set_option maxRecDepth 100000 in
set_option maxHeartbeats 4000000 in
theorem e_X6_search {G : ng_GG} {hf : (Nat → Int32) → (Nat → Int32) → (Nat → Int32) → (Nat → Int32) → (Nat → Int32) → (Nat → Int32) → (Nat → Int32) → (Nat → Int32) → (Nat → Int32) → (Nat → Int32) → (Nat → Int32) → (Nat → Int32) → (Nat → Int32) → (Nat → Int32) → (Nat → Int64) → (Nat → Int64) → (Nat → Int32) → ng_AM}  (V : ng_FL hf ) {F : Nat → Int32} {rl : Nat → Int32} {lg : Nat → Int32} {sta : Nat → Int32} {sm : Nat → Int32} {par : Nat → Int32} {mv : Nat → Int32} {dep : Nat → Int32} {nwa : Nat → Int32} {th : Nat → Int32} {bf : Nat → Int32} {row : Nat → Int32} {wid : Nat → Int32} {siz : Nat → Int32} {cel : Nat → Int64} {mvd : Nat → Int64} {ned : Nat → Int32}  {v2 : Int32} {v3 : Int32} {v4 : Int32} {v5 : Int32} {v6 : Int32} (h : s_X6_search  F lg sta sm par mv dep th bf v2 v3 v4 v5 v6)  : ng_Ev G md_X6_search 0 [some (.ref 28), some (.ref 38), some (.int v2), some (.int v3), some (.int v4), some (.int v5), some (.int v6), none, none, none] [] (hf F rl lg sta sm par mv dep nwa th bf row wid siz cel mvd ned) (K_X6_search hf rl nwa bf row wid siz cel mvd ned (f_X6_search  F lg sta sm par mv dep th bf v2 v3 v4 v5 v6)) := by
  unfold s_X6_search at h
  unfold f_X6_search
  refine ev_aload_n dX6_search_0 rfl rfl rfl ?_
  refine ev_iconst (v := nI 0) dX6_search_1 (by decide) ?_
  refine ev_put 6 15 fs_RX6_179 (FL_g28 V) (ng_lt rfl) rfl (FL_s28 V (F' := (upd F 15 (nI 0)))) (ng_fit_i _) dX6_search_2 ?_
  refine ev_aload_n dX6_search_5 rfl rfl rfl ?_
  refine ev_iconst (v := (-1)) dX6_search_6 (by decide) ?_
  refine ev_put 6 26 fs_RX6_186 (FL_g28 V) (ng_lt rfl) rfl (FL_s28 V (F' := (upd (upd F 15 (nI 0)) 26 (-1)))) (ng_fit_i _) dX6_search_7 ?_
  refine ev_aload_n dX6_search_10 rfl rfl rfl ?_
  refine ev_aload_n dX6_search_11 rfl rfl rfl ?_
  refine ev_aload_n dX6_search_12 rfl rfl rfl ?_
  have hs13 := h.1
  replace h := h.2
  refine bk_callS (As := [.ref 38]) (st := [.ref 38, .ref 28]) (st2 := [.int (f_X6_sumOf bf), .ref 38, .ref 28]) (M2 := hf (upd (upd F 15 (nI 0)) 26 (-1)) rl lg sta sm par mv dep nwa th bf row wid siz cel mvd ned) ok_X6_sumOf lk_RX6_189 (ng_rok.of rfl rfl) rfl rfl rfl rfl dX6_search_13 (m_X6_sumOf (FL_Rbf V) hs13) rfl rfl ?_
  refine ev_iconst (v := (-1)) dX6_search_16 (by decide) ?_
  refine ev_iconst (v := (-1)) dX6_search_17 (by decide) ?_
  have hs18 := h.1
  replace h := h.2
  refine bk_callV (As := [.ref 38, .int (f_X6_sumOf bf), .int (-1), .int (-1)]) (st := []) (st2 := []) (M2 := hf ((f_X6_lays_bf (upd (upd F 15 (nI 0)) 26 (-1)) sta sm par mv dep bf (f_X6_sumOf bf) (-1) (-1)).1) rl lg ((f_X6_lays_bf (upd (upd F 15 (nI 0)) 26 (-1)) sta sm par mv dep bf (f_X6_sumOf bf) (-1) (-1)).2.1) ((f_X6_lays_bf (upd (upd F 15 (nI 0)) 26 (-1)) sta sm par mv dep bf (f_X6_sumOf bf) (-1) (-1)).2.2.1) ((f_X6_lays_bf (upd (upd F 15 (nI 0)) 26 (-1)) sta sm par mv dep bf (f_X6_sumOf bf) (-1) (-1)).2.2.2.1) ((f_X6_lays_bf (upd (upd F 15 (nI 0)) 26 (-1)) sta sm par mv dep bf (f_X6_sumOf bf) (-1) (-1)).2.2.2.2.1) ((f_X6_lays_bf (upd (upd F 15 (nI 0)) 26 (-1)) sta sm par mv dep bf (f_X6_sumOf bf) (-1) (-1)).2.2.2.2.2) nwa th bf row wid siz cel mvd ned) ok_X6_lays lk_RX6_192 (ng_rok.of rfl rfl) (FL_g28 V) rfl rfl rfl rfl rfl rfl dX6_search_18 (m_X6_lays_bf V hs18) rfl rfl ?_
  exact ev_sub (e_X6_search_21 V h) (sub_s (sub_s (sub_s (sub_s (sub_s (sub_s (sub_s (sub_n (sub_n (sub_n sub_e))))))))))
theorem m_X6_search {G : ng_GG} {hf : (Nat → Int32) → (Nat → Int32) → (Nat → Int32) → (Nat → Int32) → (Nat → Int32) → (Nat → Int32) → (Nat → Int32) → (Nat → Int32) → (Nat → Int32) → (Nat → Int32) → (Nat → Int32) → (Nat → Int32) → (Nat → Int32) → (Nat → Int32) → (Nat → Int64) → (Nat → Int64) → (Nat → Int32) → ng_AM}  (V : ng_FL hf ) {F : Nat → Int32} {rl : Nat → Int32} {lg : Nat → Int32} {sta : Nat → Int32} {sm : Nat → Int32} {par : Nat → Int32} {mv : Nat → Int32} {dep : Nat → Int32} {nwa : Nat → Int32} {th : Nat → Int32} {bf : Nat → Int32} {row : Nat → Int32} {wid : Nat → Int32} {siz : Nat → Int32} {cel : Nat → Int64} {mvd : Nat → Int64} {ned : Nat → Int32} {v2 : Int32} {v3 : Int32} {v4 : Int32} {v5 : Int32} {v6 : Int32} (h : s_X6_search F lg sta sm par mv dep th bf v2 v3 v4 v5 v6)  : ng_Ev G md_X6_search 0 (ng_en 10 [.ref 28, .ref 38, .int v2, .int v3, .int v4, .int v5, .int v6]) [] (hf F rl lg sta sm par mv dep nwa th bf row wid siz cel mvd ned) (K_X6_search hf rl nwa bf row wid siz cel mvd ned (f_X6_search F lg sta sm par mv dep th bf v2 v3 v4 v5 v6)) := e_X6_search V h 
