def K_X6_judge (hf : (Nat → Int32) → (Nat → Int32) → (Nat → Int32) → (Nat → Int32) → (Nat → Int32) → (Nat → Int32) → (Nat → Int32) → (Nat → Int32) → (Nat → Int32) → (Nat → Int32) → (Nat → Int32) → (Nat → Int32) → (Nat → Int32) → (Nat → Int32) → (Nat → Int64) → (Nat → Int64) → (Nat → Int32) → ng_AM) (rl : Nat → Int32) (nwa : Nat → Int32) (wid : Nat → Int32) (siz : Nat → Int32) (cel : Nat → Int64) (mvd : Nat → Int64) (ned : Nat → Int32) (r : (Nat → Int32) × (Nat → Int32) × (Nat → Int32) × (Nat → Int32) × (Nat → Int32) × (Nat → Int32) × (Nat → Int32) × (Nat → Int32) × (Nat → Int32) × (Nat → Int32) × Int32) : ng_RR := (some (.int (r.2.2.2.2.2.2.2.2.2.2)), hf (r.1) rl (r.2.1) (r.2.2.1) (r.2.2.2.1) (r.2.2.2.2.1) (r.2.2.2.2.2.1) (r.2.2.2.2.2.2.1) nwa (r.2.2.2.2.2.2.2.1) (r.2.2.2.2.2.2.2.2.1) (r.2.2.2.2.2.2.2.2.2.1) wid siz cel mvd ned)
def f_X6_judge_115  : Nat → (Nat → Int32) → (Nat → Int32) → (Nat → Int32) → (Nat → Int32) → (Nat → Int32) → (Nat → Int32) → (Nat → Int32) → (Nat → Int32) → (Nat → Int32) → (Nat → Int32) → (Nat → Int32) → Int32 → Int32 → Int32 → ((Nat → Int32) × (Nat → Int32) × (Nat → Int32) × (Nat → Int32) × (Nat → Int32) × (Nat → Int32) × (Nat → Int32) × (Nat → Int32) × (Nat → Int32) × (Nat → Int32) × Int32)
  | 0, F, _, lg, sta, sm, par, mv, dep, th, bf, row, _, _, _ => (F, lg, sta, sm, par, mv, dep, th, bf, row, 0)
  | n + 1, F, rl, lg, sta, sm, par, mv, dep, th, bf, row, v6, v7, v8 => (if v8 < 0 then (F, lg, sta, sm, par, mv, dep, th, bf, row, v6) else f_X6_judge_115 n F rl lg sta sm par mv dep th bf (upd row v8.toNatClampNeg (mv v7.toNatClampNeg)) v6 (par v7.toNatClampNeg) (v8 + (-1)))
def s_X6_judge_115  : Nat → (Nat → Int32) → (Nat → Int32) → (Nat → Int32) → (Nat → Int32) → (Nat → Int32) → (Nat → Int32) → (Nat → Int32) → (Nat → Int32) → (Nat → Int32) → (Nat → Int32) → (Nat → Int32) → Int32 → Int32 → Int32 → Prop
  | 0, _, _, _, _, _, _, _, _, _, _, _, _, _, _ => False
  | n + 1, F, rl, lg, sta, sm, par, mv, dep, th, bf, row, v6, v7, v8 => (¬ v8 < 0 → (vp_in v7 300 ∧ (vp_in v8 6 ∧ (vp_in v7 300 ∧ s_X6_judge_115 n F rl lg sta sm par mv dep th bf (upd row v8.toNatClampNeg (mv v7.toNatClampNeg)) v6 (par v7.toNatClampNeg) (v8 + (-1))))))
set_option maxRecDepth 100000 in
set_option maxHeartbeats 4000000 in
theorem e_X6_judge_115 {G : ng_GG} {hf : (Nat → Int32) → (Nat → Int32) → (Nat → Int32) → (Nat → Int32) → (Nat → Int32) → (Nat → Int32) → (Nat → Int32) → (Nat → Int32) → (Nat → Int32) → (Nat → Int32) → (Nat → Int32) → (Nat → Int32) → (Nat → Int32) → (Nat → Int32) → (Nat → Int64) → (Nat → Int64) → (Nat → Int32) → ng_AM}  (V : ng_FL hf )  : ∀ (n : Nat) (F : Nat → Int32) (rl : Nat → Int32) (lg : Nat → Int32) (sta : Nat → Int32) (sm : Nat → Int32) (par : Nat → Int32) (mv : Nat → Int32) (dep : Nat → Int32) (nwa : Nat → Int32) (th : Nat → Int32) (bf : Nat → Int32) (row : Nat → Int32) (wid : Nat → Int32) (siz : Nat → Int32) (cel : Nat → Int64) (mvd : Nat → Int64) (ned : Nat → Int32) (v6 : Int32) (v7 : Int32) (v8 : Int32), s_X6_judge_115  n F rl lg sta sm par mv dep th bf row v6 v7 v8 → ng_Ev G md_X6_judge 115 [some (.ref 28), none, none, none, none, none, some (.int v6), some (.int v7), some (.int v8)] [] (hf F rl lg sta sm par mv dep nwa th bf row wid siz cel mvd ned) (K_X6_judge hf rl nwa wid siz cel mvd ned (f_X6_judge_115  n F rl lg sta sm par mv dep th bf row v6 v7 v8)) := by
  intro n
  induction n with
  | zero => intro F rl lg sta sm par mv dep nwa th bf row wid siz cel mvd ned v6 v7 v8 h; exact False.elim h
  | succ n ih =>
    intro F rl lg sta sm par mv dep nwa th bf row wid siz cel mvd ned v6 v7 v8 h 
    rw [s_X6_judge_115] at h
    rw [f_X6_judge_115]
    refine ev_iload dX6_judge_115 rfl ?_
    refine bk_if_lt (tgt := 149) dX6_judge_117 (by decide) (fun c117 => ?_) (fun c117 => ?_)
    · refine ev_iload dX6_judge_149 rfl ?_
      exact ev_iret rfl rfl dX6_judge_151
    · replace h := h c117
      refine ev_aload_n dX6_judge_120 rfl rfl rfl ?_
      refine ev_get 6 18 fl_RX6_41 (FL_g28 V) rfl dX6_judge_121 ?_
      refine ev_iload dX6_judge_124 rfl ?_
      refine ev_aload_n dX6_judge_126 rfl rfl rfl ?_
      refine ev_get 6 10 fl_RX6_26 (FL_g28 V) rfl dX6_judge_127 ?_
      refine ev_iload dX6_judge_130 rfl ?_
      have hi132 := h.1
      replace h := h.2
      refine ev_iald (FL_g34 V) hi132 dX6_judge_132 ?_
      have hi133 := h.1
      replace h := h.2
      refine ev_iast (FL_g39 V) hi133 (FL_s39 V) dX6_judge_133 ?_
      refine ev_aload_n dX6_judge_134 rfl rfl rfl ?_
      refine ev_get 6 9 fl_RX6_23 (FL_g28 V) rfl dX6_judge_135 ?_
      refine ev_iload dX6_judge_138 rfl ?_
      have hi140 := h.1
      replace h := h.2
      refine ev_iald (FL_g33 V) hi140 dX6_judge_140 ?_
      refine ev_istore (L' := [some (.ref 28), none, none, none, none, none, some (.int v6), some (.int (par v7.toNatClampNeg)), some (.int v8)]) dX6_judge_141 (ng_lt rfl) rfl ?_
      refine ev_iinc (v := v8 + (-1)) (L' := [some (.ref 28), none, none, none, none, none, some (.int v6), some (.int (par v7.toNatClampNeg)), some (.int (v8 + (-1)))]) dX6_judge_143 rfl (by rfl) rfl ?_
      refine ev_goto (tgt := 115) dX6_judge_146 (by decide) ?_
      exact ev_sub (ih F rl lg sta sm par mv dep nwa th bf (upd row v8.toNatClampNeg (mv v7.toNatClampNeg)) wid siz cel mvd ned v6 (par v7.toNatClampNeg) (v8 + (-1)) h) (sub_s (sub_n (sub_n (sub_n (sub_n (sub_n (sub_s (sub_s (sub_s sub_e)))))))))
def f_X6_judge_82  (F : Nat → Int32) (rl : Nat → Int32) (lg : Nat → Int32) (sta : Nat → Int32) (sm : Nat → Int32) (par : Nat → Int32) (mv : Nat → Int32) (dep : Nat → Int32) (th : Nat → Int32) (bf : Nat → Int32) (row : Nat → Int32) (v6 : Int32) (t0 : Int32) : (Nat → Int32) × (Nat → Int32) × (Nat → Int32) × (Nat → Int32) × (Nat → Int32) × (Nat → Int32) × (Nat → Int32) × (Nat → Int32) × (Nat → Int32) × (Nat → Int32) × Int32 := (if v6 ≤ 0 then ((upd F 17 t0), lg, sta, sm, par, mv, dep, th, bf, row, v6) else f_X6_judge_115 ng_F (upd F 17 t0) rl lg sta sm par mv dep th bf (upd row (v6 - (nI 1)).toNatClampNeg ((upd F 17 t0) 25)) v6 ((upd F 17 t0) 26) (v6 - (nI 2)))
def s_X6_judge_82  (F : Nat → Int32) (rl : Nat → Int32) (lg : Nat → Int32) (sta : Nat → Int32) (sm : Nat → Int32) (par : Nat → Int32) (mv : Nat → Int32) (dep : Nat → Int32) (th : Nat → Int32) (bf : Nat → Int32) (row : Nat → Int32) (v6 : Int32) (t0 : Int32) : Prop := (¬ v6 ≤ 0 → (vp_in (v6 - (nI 1)) 6 ∧ s_X6_judge_115 ng_F (upd F 17 t0) rl lg sta sm par mv dep th bf (upd row (v6 - (nI 1)).toNatClampNeg ((upd F 17 t0) 25)) v6 ((upd F 17 t0) 26) (v6 - (nI 2))))
set_option maxRecDepth 100000 in
set_option maxHeartbeats 4000000 in
theorem e_X6_judge_82 {G : ng_GG} {hf : (Nat → Int32) → (Nat → Int32) → (Nat → Int32) → (Nat → Int32) → (Nat → Int32) → (Nat → Int32) → (Nat → Int32) → (Nat → Int32) → (Nat → Int32) → (Nat → Int32) → (Nat → Int32) → (Nat → Int32) → (Nat → Int32) → (Nat → Int32) → (Nat → Int64) → (Nat → Int64) → (Nat → Int32) → ng_AM}  (V : ng_FL hf ) {F : Nat → Int32} {rl : Nat → Int32} {lg : Nat → Int32} {sta : Nat → Int32} {sm : Nat → Int32} {par : Nat → Int32} {mv : Nat → Int32} {dep : Nat → Int32} {nwa : Nat → Int32} {th : Nat → Int32} {bf : Nat → Int32} {row : Nat → Int32} {wid : Nat → Int32} {siz : Nat → Int32} {cel : Nat → Int64} {mvd : Nat → Int64} {ned : Nat → Int32}  {v6 : Int32} {t0 : Int32} (h : s_X6_judge_82  F rl lg sta sm par mv dep th bf row v6 t0)  : ng_Ev G md_X6_judge 82 [some (.ref 28), none, none, none, none, none, some (.int v6), none, none] [.int t0, .ref 28] (hf F rl lg sta sm par mv dep nwa th bf row wid siz cel mvd ned) (K_X6_judge hf rl nwa wid siz cel mvd ned (f_X6_judge_82  F rl lg sta sm par mv dep th bf row v6 t0)) := by
  unfold s_X6_judge_82 at h
  unfold f_X6_judge_82
  refine ev_put 6 17 fs_RX6_220 (FL_g28 V) (ng_lt rfl) rfl (FL_s28 V (F' := (upd F 17 t0))) (ng_fit_i _) dX6_judge_82 ?_
  refine ev_iload dX6_judge_85 rfl ?_
  refine bk_if_le (tgt := 149) dX6_judge_87 (by decide) (fun c87 => ?_) (fun c87 => ?_)
  · refine ev_iload dX6_judge_149 rfl ?_
    exact ev_iret rfl rfl dX6_judge_151
  · replace h := h c87
    refine ev_aload_n dX6_judge_90 rfl rfl rfl ?_
    refine ev_get 6 18 fl_RX6_41 (FL_g28 V) rfl dX6_judge_91 ?_
    refine ev_iload dX6_judge_94 rfl ?_
    refine ev_iconst (v := nI 1) dX6_judge_96 (by decide) ?_
    refine ev_isub dX6_judge_97 ?_
    refine ev_aload_n dX6_judge_98 rfl rfl rfl ?_
    refine ev_get 6 25 fl_RX6_203 (FL_g28 V) rfl dX6_judge_99 ?_
    have hi102 := h.1
    replace h := h.2
    refine ev_iast (FL_g39 V) hi102 (FL_s39 V) dX6_judge_102 ?_
    refine ev_aload_n dX6_judge_103 rfl rfl rfl ?_
    refine ev_get 6 26 fl_RX6_186 (FL_g28 V) rfl dX6_judge_104 ?_
    refine ev_istore (L' := [some (.ref 28), none, none, none, none, none, some (.int v6), some (.int ((upd F 17 t0) 26)), none]) dX6_judge_107 (ng_lt rfl) rfl ?_
    refine ev_iload dX6_judge_109 rfl ?_
    refine ev_iconst (v := nI 2) dX6_judge_111 (by decide) ?_
    refine ev_isub dX6_judge_112 ?_
    refine ev_istore (L' := [some (.ref 28), none, none, none, none, none, some (.int v6), some (.int ((upd F 17 t0) 26)), some (.int (v6 - (nI 2)))]) dX6_judge_113 (ng_lt rfl) rfl ?_
    exact ev_sub (e_X6_judge_115 V ng_F (upd F 17 t0) rl lg sta sm par mv dep nwa th bf (upd row (v6 - (nI 1)).toNatClampNeg ((upd F 17 t0) 25)) wid siz cel mvd ned v6 ((upd F 17 t0) 26) (v6 - (nI 2)) h) (sub_s (sub_n (sub_n (sub_n (sub_n (sub_n (sub_s (sub_s (sub_s sub_e)))))))))
def f_X6_judge_55  (F : Nat → Int32) (rl : Nat → Int32) (lg : Nat → Int32) (sta : Nat → Int32) (sm : Nat → Int32) (par : Nat → Int32) (mv : Nat → Int32) (dep : Nat → Int32) (th : Nat → Int32) (bf : Nat → Int32) (row : Nat → Int32) (t0 : Int32) : (Nat → Int32) × (Nat → Int32) × (Nat → Int32) × (Nat → Int32) × (Nat → Int32) × (Nat → Int32) × (Nat → Int32) × (Nat → Int32) × (Nat → Int32) × (Nat → Int32) × Int32 := (if t0 ≤ 0 then f_X6_judge_82 (upd (upd F 2 (nI 0)) 16 ((upd F 2 (nI 0)) 15)) rl lg sta sm par mv dep th bf row t0 (nI 0) else f_X6_judge_82 (upd (upd F 2 (nI 0)) 16 ((upd F 2 (nI 0)) 15)) rl lg sta sm par mv dep th bf row t0 t0)
def s_X6_judge_55  (F : Nat → Int32) (rl : Nat → Int32) (lg : Nat → Int32) (sta : Nat → Int32) (sm : Nat → Int32) (par : Nat → Int32) (mv : Nat → Int32) (dep : Nat → Int32) (th : Nat → Int32) (bf : Nat → Int32) (row : Nat → Int32) (t0 : Int32) : Prop := ((t0 ≤ 0 → s_X6_judge_82 (upd (upd F 2 (nI 0)) 16 ((upd F 2 (nI 0)) 15)) rl lg sta sm par mv dep th bf row t0 (nI 0)) ∧ (¬ t0 ≤ 0 → s_X6_judge_82 (upd (upd F 2 (nI 0)) 16 ((upd F 2 (nI 0)) 15)) rl lg sta sm par mv dep th bf row t0 t0))
set_option maxRecDepth 100000 in
set_option maxHeartbeats 4000000 in
theorem e_X6_judge_55 {G : ng_GG} {hf : (Nat → Int32) → (Nat → Int32) → (Nat → Int32) → (Nat → Int32) → (Nat → Int32) → (Nat → Int32) → (Nat → Int32) → (Nat → Int32) → (Nat → Int32) → (Nat → Int32) → (Nat → Int32) → (Nat → Int32) → (Nat → Int32) → (Nat → Int32) → (Nat → Int64) → (Nat → Int64) → (Nat → Int32) → ng_AM}  (V : ng_FL hf ) {F : Nat → Int32} {rl : Nat → Int32} {lg : Nat → Int32} {sta : Nat → Int32} {sm : Nat → Int32} {par : Nat → Int32} {mv : Nat → Int32} {dep : Nat → Int32} {nwa : Nat → Int32} {th : Nat → Int32} {bf : Nat → Int32} {row : Nat → Int32} {wid : Nat → Int32} {siz : Nat → Int32} {cel : Nat → Int64} {mvd : Nat → Int64} {ned : Nat → Int32}  {t0 : Int32} (h : s_X6_judge_55  F rl lg sta sm par mv dep th bf row t0)  : ng_Ev G md_X6_judge 55 [some (.ref 28), none, none, none, none, none, none, none, none] [.int t0] (hf F rl lg sta sm par mv dep nwa th bf row wid siz cel mvd ned) (K_X6_judge hf rl nwa wid siz cel mvd ned (f_X6_judge_55  F rl lg sta sm par mv dep th bf row t0)) := by
  unfold s_X6_judge_55 at h
  unfold f_X6_judge_55
  refine ev_istore (L' := [some (.ref 28), none, none, none, none, none, some (.int t0), none, none]) dX6_judge_55 (ng_lt rfl) rfl ?_
  refine ev_aload_n dX6_judge_57 rfl rfl rfl ?_
  refine ev_iconst (v := nI 0) dX6_judge_58 (by decide) ?_
  refine ev_put 6 2 fs_RX6_95 (FL_g28 V) (ng_lt rfl) rfl (FL_s28 V (F' := (upd F 2 (nI 0)))) ng_fit_0 dX6_judge_59 ?_
  refine ev_aload_n dX6_judge_62 rfl rfl rfl ?_
  refine ev_aload_n dX6_judge_63 rfl rfl rfl ?_
  refine ev_get 6 15 fl_RX6_179 (FL_g28 V) rfl dX6_judge_64 ?_
  refine ev_put 6 16 fs_RX6_217 (FL_g28 V) (ng_lt rfl) rfl (FL_s28 V (F' := (upd (upd F 2 (nI 0)) 16 ((upd F 2 (nI 0)) 15)))) (ng_fit_i _) dX6_judge_67 ?_
  refine ev_aload_n dX6_judge_70 rfl rfl rfl ?_
  refine ev_iload dX6_judge_71 rfl ?_
  refine bk_if_le (tgt := 81) dX6_judge_73 (by decide) (fun c73 => ?_) (fun c73 => ?_)
  · replace h := h.1 c73
    refine ev_iconst (v := nI 0) dX6_judge_81 (by decide) ?_
    exact ev_sub (e_X6_judge_82 V h) (sub_s (sub_n (sub_n (sub_n (sub_n (sub_n (sub_s (sub_n (sub_n sub_e)))))))))
  · replace h := h.2 c73
    refine ev_iload dX6_judge_76 rfl ?_
    refine ev_goto (tgt := 82) dX6_judge_78 (by decide) ?_
    exact ev_sub (e_X6_judge_82 V h) (sub_s (sub_n (sub_n (sub_n (sub_n (sub_n (sub_s (sub_n (sub_n sub_e)))))))))
def f_X6_judge_40  (F : Nat → Int32) (rl : Nat → Int32) (lg : Nat → Int32) (sta : Nat → Int32) (sm : Nat → Int32) (par : Nat → Int32) (mv : Nat → Int32) (dep : Nat → Int32) (th : Nat → Int32) (bf : Nat → Int32) (row : Nat → Int32) (v1 : Int32) (v2 : Int32) (v3 : Int32) (v4 : Int32) (v5 : Int32) : (Nat → Int32) × (Nat → Int32) × (Nat → Int32) × (Nat → Int32) × (Nat → Int32) × (Nat → Int32) × (Nat → Int32) × (Nat → Int32) × (Nat → Int32) × (Nat → Int32) × Int32 := f_X6_judge_55 ((f_X6_search F lg sta sm par mv dep th bf v1 v2 v3 v4 v5).1) rl ((f_X6_search F lg sta sm par mv dep th bf v1 v2 v3 v4 v5).2.1) ((f_X6_search F lg sta sm par mv dep th bf v1 v2 v3 v4 v5).2.2.1) ((f_X6_search F lg sta sm par mv dep th bf v1 v2 v3 v4 v5).2.2.2.1) ((f_X6_search F lg sta sm par mv dep th bf v1 v2 v3 v4 v5).2.2.2.2.1) ((f_X6_search F lg sta sm par mv dep th bf v1 v2 v3 v4 v5).2.2.2.2.2.1) ((f_X6_search F lg sta sm par mv dep th bf v1 v2 v3 v4 v5).2.2.2.2.2.2.1) ((f_X6_search F lg sta sm par mv dep th bf v1 v2 v3 v4 v5).2.2.2.2.2.2.2.1) bf row ((f_X6_search F lg sta sm par mv dep th bf v1 v2 v3 v4 v5).2.2.2.2.2.2.2.2)
def s_X6_judge_40  (F : Nat → Int32) (rl : Nat → Int32) (lg : Nat → Int32) (sta : Nat → Int32) (sm : Nat → Int32) (par : Nat → Int32) (mv : Nat → Int32) (dep : Nat → Int32) (th : Nat → Int32) (bf : Nat → Int32) (row : Nat → Int32) (v1 : Int32) (v2 : Int32) (v3 : Int32) (v4 : Int32) (v5 : Int32) : Prop := (s_X6_search F lg sta sm par mv dep th bf v1 v2 v3 v4 v5 ∧ s_X6_judge_55 ((f_X6_search F lg sta sm par mv dep th bf v1 v2 v3 v4 v5).1) rl ((f_X6_search F lg sta sm par mv dep th bf v1 v2 v3 v4 v5).2.1) ((f_X6_search F lg sta sm par mv dep th bf v1 v2 v3 v4 v5).2.2.1) ((f_X6_search F lg sta sm par mv dep th bf v1 v2 v3 v4 v5).2.2.2.1) ((f_X6_search F lg sta sm par mv dep th bf v1 v2 v3 v4 v5).2.2.2.2.1) ((f_X6_search F lg sta sm par mv dep th bf v1 v2 v3 v4 v5).2.2.2.2.2.1) ((f_X6_search F lg sta sm par mv dep th bf v1 v2 v3 v4 v5).2.2.2.2.2.2.1) ((f_X6_search F lg sta sm par mv dep th bf v1 v2 v3 v4 v5).2.2.2.2.2.2.2.1) bf row ((f_X6_search F lg sta sm par mv dep th bf v1 v2 v3 v4 v5).2.2.2.2.2.2.2.2))
set_option maxRecDepth 100000 in
set_option maxHeartbeats 4000000 in
theorem e_X6_judge_40 {G : ng_GG} {hf : (Nat → Int32) → (Nat → Int32) → (Nat → Int32) → (Nat → Int32) → (Nat → Int32) → (Nat → Int32) → (Nat → Int32) → (Nat → Int32) → (Nat → Int32) → (Nat → Int32) → (Nat → Int32) → (Nat → Int32) → (Nat → Int32) → (Nat → Int32) → (Nat → Int64) → (Nat → Int64) → (Nat → Int32) → ng_AM}  (V : ng_FL hf ) {F : Nat → Int32} {rl : Nat → Int32} {lg : Nat → Int32} {sta : Nat → Int32} {sm : Nat → Int32} {par : Nat → Int32} {mv : Nat → Int32} {dep : Nat → Int32} {nwa : Nat → Int32} {th : Nat → Int32} {bf : Nat → Int32} {row : Nat → Int32} {wid : Nat → Int32} {siz : Nat → Int32} {cel : Nat → Int64} {mvd : Nat → Int64} {ned : Nat → Int32}  {v1 : Int32} {v2 : Int32} {v3 : Int32} {v4 : Int32} {v5 : Int32} (h : s_X6_judge_40  F rl lg sta sm par mv dep th bf row v1 v2 v3 v4 v5)  : ng_Ev G md_X6_judge 40 [some (.ref 28), some (.int v1), some (.int v2), some (.int v3), some (.int v4), some (.int v5), none, none, none] [] (hf F rl lg sta sm par mv dep nwa th bf row wid siz cel mvd ned) (K_X6_judge hf rl nwa wid siz cel mvd ned (f_X6_judge_40  F rl lg sta sm par mv dep th bf row v1 v2 v3 v4 v5)) := by
  unfold s_X6_judge_40 at h
  unfold f_X6_judge_40
  refine ev_aload_n dX6_judge_40 rfl rfl rfl ?_
  refine ev_aload_n dX6_judge_41 rfl rfl rfl ?_
  refine ev_get 6 14 fl_RX6_38 (FL_g28 V) rfl dX6_judge_42 ?_
  refine ev_iload_n dX6_judge_45 rfl rfl ?_
  refine ev_iload_n dX6_judge_46 rfl rfl ?_
  refine ev_iload_n dX6_judge_47 rfl rfl ?_
  refine ev_iload dX6_judge_48 rfl ?_
  refine ev_iload dX6_judge_50 rfl ?_
  have hs52 := h.1
  replace h := h.2
  refine bk_callV (As := [.ref 38, .int v1, .int v2, .int v3, .int v4, .int v5]) (st := []) (st2 := [.int ((f_X6_search F lg sta sm par mv dep th bf v1 v2 v3 v4 v5).2.2.2.2.2.2.2.2)]) (M2 := hf ((f_X6_search F lg sta sm par mv dep th bf v1 v2 v3 v4 v5).1) rl ((f_X6_search F lg sta sm par mv dep th bf v1 v2 v3 v4 v5).2.1) ((f_X6_search F lg sta sm par mv dep th bf v1 v2 v3 v4 v5).2.2.1) ((f_X6_search F lg sta sm par mv dep th bf v1 v2 v3 v4 v5).2.2.2.1) ((f_X6_search F lg sta sm par mv dep th bf v1 v2 v3 v4 v5).2.2.2.2.1) ((f_X6_search F lg sta sm par mv dep th bf v1 v2 v3 v4 v5).2.2.2.2.2.1) ((f_X6_search F lg sta sm par mv dep th bf v1 v2 v3 v4 v5).2.2.2.2.2.2.1) nwa ((f_X6_search F lg sta sm par mv dep th bf v1 v2 v3 v4 v5).2.2.2.2.2.2.2.1) bf row wid siz cel mvd ned) ok_X6_search lk_RX6_213 (ng_rok.of rfl rfl) (FL_g28 V) rfl rfl rfl rfl rfl rfl dX6_judge_52 (m_X6_search V hs52) rfl rfl ?_
  exact ev_sub (e_X6_judge_55 V h) (sub_s (sub_n (sub_n (sub_n (sub_n (sub_n (sub_n (sub_n (sub_n sub_e)))))))))
def f_X6_judge  (F : Nat → Int32) (rl : Nat → Int32) (lg : Nat → Int32) (sta : Nat → Int32) (sm : Nat → Int32) (par : Nat → Int32) (mv : Nat → Int32) (dep : Nat → Int32) (th : Nat → Int32) (bf : Nat → Int32) (row : Nat → Int32) (v1 : Int32) (v2 : Int32) (v3 : Int32) (v4 : Int32) (v5 : Int32) : (Nat → Int32) × (Nat → Int32) × (Nat → Int32) × (Nat → Int32) × (Nat → Int32) × (Nat → Int32) × (Nat → Int32) × (Nat → Int32) × (Nat → Int32) × (Nat → Int32) × Int32 := (if (f_X6_isAsked rl v1 v2 v3 v4 v5) = 0 then ((upd F 0 (nI 0)), lg, sta, sm, par, mv, dep, th, bf, row, (-2)) else f_X6_judge_40 (upd (upd F 0 (nI 0)) 2 (nI 1)) rl lg sta sm par mv dep th (f_X6_copy_ rl bf 527 527 (nI 0) (nI 0)) row v1 v2 v3 v4 v5)
def s_X6_judge  (F : Nat → Int32) (rl : Nat → Int32) (lg : Nat → Int32) (sta : Nat → Int32) (sm : Nat → Int32) (par : Nat → Int32) (mv : Nat → Int32) (dep : Nat → Int32) (th : Nat → Int32) (bf : Nat → Int32) (row : Nat → Int32) (v1 : Int32) (v2 : Int32) (v3 : Int32) (v4 : Int32) (v5 : Int32) : Prop := (s_X6_isAsked rl v1 v2 v3 v4 v5 ∧ (¬ (f_X6_isAsked rl v1 v2 v3 v4 v5) = 0 → (s_X6_copy_ rl bf 527 527 (nI 0) (nI 0) ∧ s_X6_judge_40 (upd (upd F 0 (nI 0)) 2 (nI 1)) rl lg sta sm par mv dep th (f_X6_copy_ rl bf 527 527 (nI 0) (nI 0)) row v1 v2 v3 v4 v5)))
set_option maxRecDepth 100000 in
set_option maxHeartbeats 4000000 in
theorem e_X6_judge {G : ng_GG} {hf : (Nat → Int32) → (Nat → Int32) → (Nat → Int32) → (Nat → Int32) → (Nat → Int32) → (Nat → Int32) → (Nat → Int32) → (Nat → Int32) → (Nat → Int32) → (Nat → Int32) → (Nat → Int32) → (Nat → Int32) → (Nat → Int32) → (Nat → Int32) → (Nat → Int64) → (Nat → Int64) → (Nat → Int32) → ng_AM}  (V : ng_FL hf ) {F : Nat → Int32} {rl : Nat → Int32} {lg : Nat → Int32} {sta : Nat → Int32} {sm : Nat → Int32} {par : Nat → Int32} {mv : Nat → Int32} {dep : Nat → Int32} {nwa : Nat → Int32} {th : Nat → Int32} {bf : Nat → Int32} {row : Nat → Int32} {wid : Nat → Int32} {siz : Nat → Int32} {cel : Nat → Int64} {mvd : Nat → Int64} {ned : Nat → Int32}  {v1 : Int32} {v2 : Int32} {v3 : Int32} {v4 : Int32} {v5 : Int32} (h : s_X6_judge  F rl lg sta sm par mv dep th bf row v1 v2 v3 v4 v5)  : ng_Ev G md_X6_judge 0 [some (.ref 28), some (.int v1), some (.int v2), some (.int v3), some (.int v4), some (.int v5), none, none, none] [] (hf F rl lg sta sm par mv dep nwa th bf row wid siz cel mvd ned) (K_X6_judge hf rl nwa wid siz cel mvd ned (f_X6_judge  F rl lg sta sm par mv dep th bf row v1 v2 v3 v4 v5)) := by
  unfold s_X6_judge at h
  unfold f_X6_judge
  refine ev_aload_n dX6_judge_0 rfl rfl rfl ?_
  refine ev_iconst (v := nI 0) dX6_judge_1 (by decide) ?_
  refine ev_put 6 0 fs_RX6_64 (FL_g28 V) (ng_lt rfl) rfl (FL_s28 V (F' := (upd F 0 (nI 0)))) (ng_fit_i _) dX6_judge_2 ?_
  refine ev_aload_n dX6_judge_5 rfl rfl rfl ?_
  refine ev_iload_n dX6_judge_6 rfl rfl ?_
  refine ev_iload_n dX6_judge_7 rfl rfl ?_
  refine ev_iload_n dX6_judge_8 rfl rfl ?_
  refine ev_iload dX6_judge_9 rfl ?_
  refine ev_iload dX6_judge_11 rfl ?_
  have hs13 := h.1
  replace h := h.2
  refine bk_callV (As := [.int v1, .int v2, .int v3, .int v4, .int v5]) (st := []) (st2 := [.int (f_X6_isAsked rl v1 v2 v3 v4 v5)]) (M2 := hf (upd F 0 (nI 0)) rl lg sta sm par mv dep nwa th bf row wid siz cel mvd ned) ok_X6_isAsked lk_RX6_209 (ng_rok.of rfl rfl) (FL_g28 V) rfl rfl rfl rfl rfl rfl dX6_judge_13 (m_X6_isAsked V hs13) rfl rfl ?_
  refine bk_if_ne (tgt := 22) dX6_judge_16 (by decide) (fun c16 => ?_) (fun c16 => ?_)
  · replace h := h c16
    refine ev_aload_n dX6_judge_22 rfl rfl rfl ?_
    refine ev_iconst (v := nI 1) dX6_judge_23 (by decide) ?_
    refine ev_put 6 2 fs_RX6_95 (FL_g28 V) (ng_lt rfl) rfl (FL_s28 V (F' := (upd (upd F 0 (nI 0)) 2 (nI 1)))) ng_fit_1 dX6_judge_24 ?_
    refine ev_aload_n dX6_judge_27 rfl rfl rfl ?_
    refine ev_get 6 1 fl_RX6_9 (FL_g28 V) rfl dX6_judge_28 ?_
    refine ev_iconst (v := nI 0) dX6_judge_31 (by decide) ?_
    refine ev_aload_n dX6_judge_32 rfl rfl rfl ?_
    refine ev_get 6 14 fl_RX6_38 (FL_g28 V) rfl dX6_judge_33 ?_
    refine ev_iconst (v := nI 0) dX6_judge_36 (by decide) ?_
    have hs37 := h.1
    replace h := h.2
    refine bk_callS (As := [.ref 29, .int (nI 0), .ref 38, .int (nI 0)]) (st := []) (st2 := []) (M2 := hf (upd (upd F 0 (nI 0)) 2 (nI 1)) rl lg sta sm par mv dep nwa th (f_X6_copy_ rl bf 527 527 (nI 0) (nI 0)) row wid siz cel mvd ned) ok_X6_copy_ lk_RX6_182 (ng_rok.of rfl rfl) rfl rfl rfl rfl dX6_judge_37 (m_X6_copy_ (show ng_CL (fun fr fo => hf (upd (upd F 0 (nI 0)) 2 (nI 1)) fr lg sta sm par mv dep nwa th fo row wid siz cel mvd ned) 29 38 527 527 from ⟨fun _ _ => FL_g29 V, fun _ _ => FL_g38 V, fun _ _ _ => FL_s38 V⟩) hs37) rfl rfl ?_
    exact ev_sub (e_X6_judge_40 V h) (sub_s (sub_s (sub_s (sub_s (sub_s (sub_s (sub_n (sub_n (sub_n sub_e)))))))))
  · refine ev_bipush (v := (-2)) dX6_judge_19 (by decide) ?_
    exact ev_iret rfl rfl dX6_judge_21
theorem m_X6_judge {G : ng_GG} {hf : (Nat → Int32) → (Nat → Int32) → (Nat → Int32) → (Nat → Int32) → (Nat → Int32) → (Nat → Int32) → (Nat → Int32) → (Nat → Int32) → (Nat → Int32) → (Nat → Int32) → (Nat → Int32) → (Nat → Int32) → (Nat → Int32) → (Nat → Int32) → (Nat → Int64) → (Nat → Int64) → (Nat → Int32) → ng_AM}  (V : ng_FL hf ) {F : Nat → Int32} {rl : Nat → Int32} {lg : Nat → Int32} {sta : Nat → Int32} {sm : Nat → Int32} {par : Nat → Int32} {mv : Nat → Int32} {dep : Nat → Int32} {nwa : Nat → Int32} {th : Nat → Int32} {bf : Nat → Int32} {row : Nat → Int32} {wid : Nat → Int32} {siz : Nat → Int32} {cel : Nat → Int64} {mvd : Nat → Int64} {ned : Nat → Int32} {v1 : Int32} {v2 : Int32} {v3 : Int32} {v4 : Int32} {v5 : Int32} (h : s_X6_judge F rl lg sta sm par mv dep th bf row v1 v2 v3 v4 v5)  : ng_Ev G md_X6_judge 0 (ng_en 9 [.ref 28, .int v1, .int v2, .int v3, .int v4, .int v5]) [] (hf F rl lg sta sm par mv dep nwa th bf row wid siz cel mvd ned) (K_X6_judge hf rl nwa wid siz cel mvd ned (f_X6_judge F rl lg sta sm par mv dep th bf row v1 v2 v3 v4 v5)) := e_X6_judge V h 
def K_X6_found (hf : (Nat → Int32) → (Nat → Int32) → (Nat → Int32) → (Nat → Int32) → (Nat → Int32) → (Nat → Int32) → (Nat → Int32) → (Nat → Int32) → (Nat → Int32) → (Nat → Int32) → (Nat → Int32) → (Nat → Int32) → (Nat → Int32) → (Nat → Int32) → (Nat → Int64) → (Nat → Int64) → (Nat → Int32) → ng_AM) (rl : Nat → Int32) (lg : Nat → Int32) (sta : Nat → Int32) (sm : Nat → Int32) (par : Nat → Int32) (mv : Nat → Int32) (dep : Nat → Int32) (nwa : Nat → Int32) (th : Nat → Int32) (bf : Nat → Int32) (row : Nat → Int32) (wid : Nat → Int32) (siz : Nat → Int32) (cel : Nat → Int64) (mvd : Nat → Int64) (ned : Nat → Int32) (r : (Nat → Int32) × Int32) : ng_RR := (some (.int (r.2)), hf (r.1) rl lg sta sm par mv dep nwa th bf row wid siz cel mvd ned)
def f_X6_found  (F : Nat → Int32) (row : Nat → Int32) (v1 : Int32) : (Nat → Int32) × Int32 := (if (f_X6_in v1 (nI 0) (((upd F 0 (nI 0)) 17) - (nI 1))) = 0 then ((upd F 0 (nI 0)), (-1)) else ((upd F 0 (nI 0)), (row v1.toNatClampNeg)))
def s_X6_found  (F : Nat → Int32) (row : Nat → Int32) (v1 : Int32) : Prop := (¬ (f_X6_in v1 (nI 0) (((upd F 0 (nI 0)) 17) - (nI 1))) = 0 → vp_in v1 6)
set_option maxRecDepth 100000 in
set_option maxHeartbeats 4000000 in
theorem e_X6_found {G : ng_GG} {hf : (Nat → Int32) → (Nat → Int32) → (Nat → Int32) → (Nat → Int32) → (Nat → Int32) → (Nat → Int32) → (Nat → Int32) → (Nat → Int32) → (Nat → Int32) → (Nat → Int32) → (Nat → Int32) → (Nat → Int32) → (Nat → Int32) → (Nat → Int32) → (Nat → Int64) → (Nat → Int64) → (Nat → Int32) → ng_AM}  (V : ng_FL hf ) {F : Nat → Int32} {rl : Nat → Int32} {lg : Nat → Int32} {sta : Nat → Int32} {sm : Nat → Int32} {par : Nat → Int32} {mv : Nat → Int32} {dep : Nat → Int32} {nwa : Nat → Int32} {th : Nat → Int32} {bf : Nat → Int32} {row : Nat → Int32} {wid : Nat → Int32} {siz : Nat → Int32} {cel : Nat → Int64} {mvd : Nat → Int64} {ned : Nat → Int32}  {v1 : Int32} (h : s_X6_found  F row v1)  : ng_Ev G md_X6_found 0 [some (.ref 28), some (.int v1)] [] (hf F rl lg sta sm par mv dep nwa th bf row wid siz cel mvd ned) (K_X6_found hf rl lg sta sm par mv dep nwa th bf row wid siz cel mvd ned (f_X6_found  F row v1)) := by
  unfold s_X6_found at h
  unfold f_X6_found
  refine ev_aload_n dX6_found_0 rfl rfl rfl ?_
  refine ev_iconst (v := nI 0) dX6_found_1 (by decide) ?_
  refine ev_put 6 0 fs_RX6_64 (FL_g28 V) (ng_lt rfl) rfl (FL_s28 V (F' := (upd F 0 (nI 0)))) (ng_fit_i _) dX6_found_2 ?_
  refine ev_iload_n dX6_found_5 rfl rfl ?_
  refine ev_iconst (v := nI 0) dX6_found_6 (by decide) ?_
  refine ev_aload_n dX6_found_7 rfl rfl rfl ?_
  refine ev_get 6 17 fl_RX6_220 (FL_g28 V) rfl dX6_found_8 ?_
  refine ev_iconst (v := nI 1) dX6_found_11 (by decide) ?_
  refine ev_isub dX6_found_12 ?_
  refine bk_callS (As := [.int v1, .int (nI 0), .int (((upd F 0 (nI 0)) 17) - (nI 1))]) (st := []) (st2 := [.int (f_X6_in v1 (nI 0) (((upd F 0 (nI 0)) 17) - (nI 1)))]) (M2 := hf (upd F 0 (nI 0)) rl lg sta sm par mv dep nwa th bf row wid siz cel mvd ned) ok_X6_in lk_RX6_67 (ng_rok.of rfl rfl) rfl rfl rfl rfl dX6_found_13 (m_X6_in trivial) rfl rfl ?_
  refine bk_if_eq (tgt := 28) dX6_found_16 (by decide) (fun c16 => ?_) (fun c16 => ?_)
  · refine ev_iconst (v := (-1)) dX6_found_28 (by decide) ?_
    exact ev_iret rfl rfl dX6_found_29
  · replace h := h c16
    refine ev_aload_n dX6_found_19 rfl rfl rfl ?_
    refine ev_get 6 18 fl_RX6_41 (FL_g28 V) rfl dX6_found_20 ?_
    refine ev_iload_n dX6_found_23 rfl rfl ?_
    have hi24 := h
    refine ev_iald (FL_g39 V) hi24 dX6_found_24 ?_
    refine ev_goto (tgt := 29) dX6_found_25 (by decide) ?_
    exact ev_iret rfl rfl dX6_found_29
theorem m_X6_found {G : ng_GG} {hf : (Nat → Int32) → (Nat → Int32) → (Nat → Int32) → (Nat → Int32) → (Nat → Int32) → (Nat → Int32) → (Nat → Int32) → (Nat → Int32) → (Nat → Int32) → (Nat → Int32) → (Nat → Int32) → (Nat → Int32) → (Nat → Int32) → (Nat → Int32) → (Nat → Int64) → (Nat → Int64) → (Nat → Int32) → ng_AM}  (V : ng_FL hf ) {F : Nat → Int32} {rl : Nat → Int32} {lg : Nat → Int32} {sta : Nat → Int32} {sm : Nat → Int32} {par : Nat → Int32} {mv : Nat → Int32} {dep : Nat → Int32} {nwa : Nat → Int32} {th : Nat → Int32} {bf : Nat → Int32} {row : Nat → Int32} {wid : Nat → Int32} {siz : Nat → Int32} {cel : Nat → Int64} {mvd : Nat → Int64} {ned : Nat → Int32} {v1 : Int32} (h : s_X6_found F row v1)  : ng_Ev G md_X6_found 0 (ng_en 2 [.ref 28, .int v1]) [] (hf F rl lg sta sm par mv dep nwa th bf row wid siz cel mvd ned) (K_X6_found hf rl lg sta sm par mv dep nwa th bf row wid siz cel mvd ned (f_X6_found F row v1)) := e_X6_found V h 
def K_X6_stops (hf : (Nat → Int32) → (Nat → Int32) → (Nat → Int32) → (Nat → Int32) → (Nat → Int32) → (Nat → Int32) → (Nat → Int32) → (Nat → Int32) → (Nat → Int32) → (Nat → Int32) → (Nat → Int32) → (Nat → Int32) → (Nat → Int32) → (Nat → Int32) → (Nat → Int64) → (Nat → Int64) → (Nat → Int32) → ng_AM) (rl : Nat → Int32) (nwa : Nat → Int32) (row : Nat → Int32) (wid : Nat → Int32) (siz : Nat → Int32) (cel : Nat → Int64) (mvd : Nat → Int64) (ned : Nat → Int32) (r : (Nat → Int32) × (Nat → Int32) × (Nat → Int32) × (Nat → Int32) × (Nat → Int32) × (Nat → Int32) × (Nat → Int32) × (Nat → Int32) × (Nat → Int32) × Int32) : ng_RR := (some (.int (r.2.2.2.2.2.2.2.2.2)), hf (r.1) rl (r.2.1) (r.2.2.1) (r.2.2.2.1) (r.2.2.2.2.1) (r.2.2.2.2.2.1) (r.2.2.2.2.2.2.1) nwa (r.2.2.2.2.2.2.2.1) (r.2.2.2.2.2.2.2.2.1) row wid siz cel mvd ned)
def f_X6_stops_139 (kk36 : (Nat → Int32) → (Nat → Int32) → (Nat → Int32) → (Nat → Int32) → (Nat → Int32) → (Nat → Int32) → (Nat → Int32) → (Nat → Int32) → (Nat → Int32) → (Nat → Int32) → Int32 → Int32 → Int32 → Int32 → Int32 → Int32 → Int32 → Int32 → ((Nat → Int32) × (Nat → Int32) × (Nat → Int32) × (Nat → Int32) × (Nat → Int32) × (Nat → Int32) × (Nat → Int32) × (Nat → Int32) × (Nat → Int32) × Int32)) (F : Nat → Int32) (rl : Nat → Int32) (lg : Nat → Int32) (sta : Nat → Int32) (sm : Nat → Int32) (par : Nat → Int32) (mv : Nat → Int32) (dep : Nat → Int32) (th : Nat → Int32) (bf : Nat → Int32) (v1 : Int32) (v2 : Int32) (v3 : Int32) (v4 : Int32) (v5 : Int32) (v6 : Int32) (v7 : Int32) (v8 : Int32) : (Nat → Int32) × (Nat → Int32) × (Nat → Int32) × (Nat → Int32) × (Nat → Int32) × (Nat → Int32) × (Nat → Int32) × (Nat → Int32) × (Nat → Int32) × Int32 := kk36 F rl lg sta sm par mv dep th bf v1 v2 v3 v4 v5 v6 v7 (v8 + nI 1)
def s_X6_stops_139 (sk36 : (Nat → Int32) → (Nat → Int32) → (Nat → Int32) → (Nat → Int32) → (Nat → Int32) → (Nat → Int32) → (Nat → Int32) → (Nat → Int32) → (Nat → Int32) → (Nat → Int32) → Int32 → Int32 → Int32 → Int32 → Int32 → Int32 → Int32 → Int32 → Prop) (F : Nat → Int32) (rl : Nat → Int32) (lg : Nat → Int32) (sta : Nat → Int32) (sm : Nat → Int32) (par : Nat → Int32) (mv : Nat → Int32) (dep : Nat → Int32) (th : Nat → Int32) (bf : Nat → Int32) (v1 : Int32) (v2 : Int32) (v3 : Int32) (v4 : Int32) (v5 : Int32) (v6 : Int32) (v7 : Int32) (v8 : Int32) : Prop := sk36 F rl lg sta sm par mv dep th bf v1 v2 v3 v4 v5 v6 v7 (v8 + nI 1)
set_option maxRecDepth 100000 in
set_option maxHeartbeats 4000000 in
theorem e_X6_stops_139 {G : ng_GG} {hf : (Nat → Int32) → (Nat → Int32) → (Nat → Int32) → (Nat → Int32) → (Nat → Int32) → (Nat → Int32) → (Nat → Int32) → (Nat → Int32) → (Nat → Int32) → (Nat → Int32) → (Nat → Int32) → (Nat → Int32) → (Nat → Int32) → (Nat → Int32) → (Nat → Int64) → (Nat → Int64) → (Nat → Int32) → ng_AM}  (V : ng_FL hf ) {F : Nat → Int32} {rl : Nat → Int32} {lg : Nat → Int32} {sta : Nat → Int32} {sm : Nat → Int32} {par : Nat → Int32} {mv : Nat → Int32} {dep : Nat → Int32} {nwa : Nat → Int32} {th : Nat → Int32} {bf : Nat → Int32} {row : Nat → Int32} {wid : Nat → Int32} {siz : Nat → Int32} {cel : Nat → Int64} {mvd : Nat → Int64} {ned : Nat → Int32} {kk36 : (Nat → Int32) → (Nat → Int32) → (Nat → Int32) → (Nat → Int32) → (Nat → Int32) → (Nat → Int32) → (Nat → Int32) → (Nat → Int32) → (Nat → Int32) → (Nat → Int32) → Int32 → Int32 → Int32 → Int32 → Int32 → Int32 → Int32 → Int32 → ((Nat → Int32) × (Nat → Int32) × (Nat → Int32) × (Nat → Int32) × (Nat → Int32) × (Nat → Int32) × (Nat → Int32) × (Nat → Int32) × (Nat → Int32) × Int32)} {sk36 : (Nat → Int32) → (Nat → Int32) → (Nat → Int32) → (Nat → Int32) → (Nat → Int32) → (Nat → Int32) → (Nat → Int32) → (Nat → Int32) → (Nat → Int32) → (Nat → Int32) → Int32 → Int32 → Int32 → Int32 → Int32 → Int32 → Int32 → Int32 → Prop} (hk36 : ∀ (F : Nat → Int32) (rl : Nat → Int32) (lg : Nat → Int32) (sta : Nat → Int32) (sm : Nat → Int32) (par : Nat → Int32) (mv : Nat → Int32) (dep : Nat → Int32) (nwa : Nat → Int32) (th : Nat → Int32) (bf : Nat → Int32) (row : Nat → Int32) (wid : Nat → Int32) (siz : Nat → Int32) (cel : Nat → Int64) (mvd : Nat → Int64) (ned : Nat → Int32) (v1 : Int32) (v2 : Int32) (v3 : Int32) (v4 : Int32) (v5 : Int32) (v6 : Int32) (v7 : Int32) (v8 : Int32), sk36 F rl lg sta sm par mv dep th bf v1 v2 v3 v4 v5 v6 v7 v8 → ng_Ev G md_X6_stops 36 [some (.ref 28), some (.int v1), some (.int v2), some (.int v3), some (.int v4), some (.int v5), some (.int v6), some (.int v7), some (.int v8), none] [] (hf F rl lg sta sm par mv dep nwa th bf row wid siz cel mvd ned) (K_X6_stops hf rl nwa row wid siz cel mvd ned (kk36 F rl lg sta sm par mv dep th bf v1 v2 v3 v4 v5 v6 v7 v8))) {v1 : Int32} {v2 : Int32} {v3 : Int32} {v4 : Int32} {v5 : Int32} {v6 : Int32} {v7 : Int32} {v8 : Int32} (h : s_X6_stops_139 sk36 F rl lg sta sm par mv dep th bf v1 v2 v3 v4 v5 v6 v7 v8)  : ng_Ev G md_X6_stops 139 [some (.ref 28), some (.int v1), some (.int v2), some (.int v3), some (.int v4), some (.int v5), some (.int v6), some (.int v7), some (.int v8), none] [] (hf F rl lg sta sm par mv dep nwa th bf row wid siz cel mvd ned) (K_X6_stops hf rl nwa row wid siz cel mvd ned (f_X6_stops_139 kk36 F rl lg sta sm par mv dep th bf v1 v2 v3 v4 v5 v6 v7 v8)) := by
  unfold s_X6_stops_139 at h
  unfold f_X6_stops_139
  refine ev_iinc (v := v8 + nI 1) (L' := [some (.ref 28), some (.int v1), some (.int v2), some (.int v3), some (.int v4), some (.int v5), some (.int v6), some (.int v7), some (.int (v8 + nI 1)), none]) dX6_stops_139 rfl (by rfl) rfl ?_
  refine ev_goto (tgt := 36) dX6_stops_142 (by decide) ?_
  exact ev_sub (hk36 F rl lg sta sm par mv dep nwa th bf row wid siz cel mvd ned v1 v2 v3 v4 v5 v6 v7 (v8 + nI 1) h) (sub_s (sub_s (sub_s (sub_s (sub_s (sub_s (sub_s (sub_s (sub_s (sub_n sub_e))))))))))
def f_X6_stops_136 (kk36 : (Nat → Int32) → (Nat → Int32) → (Nat → Int32) → (Nat → Int32) → (Nat → Int32) → (Nat → Int32) → (Nat → Int32) → (Nat → Int32) → (Nat → Int32) → (Nat → Int32) → Int32 → Int32 → Int32 → Int32 → Int32 → Int32 → Int32 → Int32 → ((Nat → Int32) × (Nat → Int32) × (Nat → Int32) × (Nat → Int32) × (Nat → Int32) × (Nat → Int32) × (Nat → Int32) × (Nat → Int32) × (Nat → Int32) × Int32)) (F : Nat → Int32) (rl : Nat → Int32) (lg : Nat → Int32) (sta : Nat → Int32) (sm : Nat → Int32) (par : Nat → Int32) (mv : Nat → Int32) (dep : Nat → Int32) (th : Nat → Int32) (bf : Nat → Int32) (v1 : Int32) (v2 : Int32) (v3 : Int32) (v4 : Int32) (v5 : Int32) (v7 : Int32) (v8 : Int32) (t0 : Int32) (t1 : Int32) : (Nat → Int32) × (Nat → Int32) × (Nat → Int32) × (Nat → Int32) × (Nat → Int32) × (Nat → Int32) × (Nat → Int32) × (Nat → Int32) × (Nat → Int32) × Int32 := f_X6_stops_139 kk36 F rl lg sta sm par mv dep th bf v1 v2 v3 v4 v5 (t1 ||| t0) v7 v8
def s_X6_stops_136 (sk36 : (Nat → Int32) → (Nat → Int32) → (Nat → Int32) → (Nat → Int32) → (Nat → Int32) → (Nat → Int32) → (Nat → Int32) → (Nat → Int32) → (Nat → Int32) → (Nat → Int32) → Int32 → Int32 → Int32 → Int32 → Int32 → Int32 → Int32 → Int32 → Prop) (F : Nat → Int32) (rl : Nat → Int32) (lg : Nat → Int32) (sta : Nat → Int32) (sm : Nat → Int32) (par : Nat → Int32) (mv : Nat → Int32) (dep : Nat → Int32) (th : Nat → Int32) (bf : Nat → Int32) (v1 : Int32) (v2 : Int32) (v3 : Int32) (v4 : Int32) (v5 : Int32) (v7 : Int32) (v8 : Int32) (t0 : Int32) (t1 : Int32) : Prop := s_X6_stops_139 sk36 F rl lg sta sm par mv dep th bf v1 v2 v3 v4 v5 (t1 ||| t0) v7 v8
set_option maxRecDepth 100000 in
set_option maxHeartbeats 4000000 in
theorem e_X6_stops_136 {G : ng_GG} {hf : (Nat → Int32) → (Nat → Int32) → (Nat → Int32) → (Nat → Int32) → (Nat → Int32) → (Nat → Int32) → (Nat → Int32) → (Nat → Int32) → (Nat → Int32) → (Nat → Int32) → (Nat → Int32) → (Nat → Int32) → (Nat → Int32) → (Nat → Int32) → (Nat → Int64) → (Nat → Int64) → (Nat → Int32) → ng_AM}  (V : ng_FL hf ) {F : Nat → Int32} {rl : Nat → Int32} {lg : Nat → Int32} {sta : Nat → Int32} {sm : Nat → Int32} {par : Nat → Int32} {mv : Nat → Int32} {dep : Nat → Int32} {nwa : Nat → Int32} {th : Nat → Int32} {bf : Nat → Int32} {row : Nat → Int32} {wid : Nat → Int32} {siz : Nat → Int32} {cel : Nat → Int64} {mvd : Nat → Int64} {ned : Nat → Int32} {kk36 : (Nat → Int32) → (Nat → Int32) → (Nat → Int32) → (Nat → Int32) → (Nat → Int32) → (Nat → Int32) → (Nat → Int32) → (Nat → Int32) → (Nat → Int32) → (Nat → Int32) → Int32 → Int32 → Int32 → Int32 → Int32 → Int32 → Int32 → Int32 → ((Nat → Int32) × (Nat → Int32) × (Nat → Int32) × (Nat → Int32) × (Nat → Int32) × (Nat → Int32) × (Nat → Int32) × (Nat → Int32) × (Nat → Int32) × Int32)} {sk36 : (Nat → Int32) → (Nat → Int32) → (Nat → Int32) → (Nat → Int32) → (Nat → Int32) → (Nat → Int32) → (Nat → Int32) → (Nat → Int32) → (Nat → Int32) → (Nat → Int32) → Int32 → Int32 → Int32 → Int32 → Int32 → Int32 → Int32 → Int32 → Prop} (hk36 : ∀ (F : Nat → Int32) (rl : Nat → Int32) (lg : Nat → Int32) (sta : Nat → Int32) (sm : Nat → Int32) (par : Nat → Int32) (mv : Nat → Int32) (dep : Nat → Int32) (nwa : Nat → Int32) (th : Nat → Int32) (bf : Nat → Int32) (row : Nat → Int32) (wid : Nat → Int32) (siz : Nat → Int32) (cel : Nat → Int64) (mvd : Nat → Int64) (ned : Nat → Int32) (v1 : Int32) (v2 : Int32) (v3 : Int32) (v4 : Int32) (v5 : Int32) (v6 : Int32) (v7 : Int32) (v8 : Int32), sk36 F rl lg sta sm par mv dep th bf v1 v2 v3 v4 v5 v6 v7 v8 → ng_Ev G md_X6_stops 36 [some (.ref 28), some (.int v1), some (.int v2), some (.int v3), some (.int v4), some (.int v5), some (.int v6), some (.int v7), some (.int v8), none] [] (hf F rl lg sta sm par mv dep nwa th bf row wid siz cel mvd ned) (K_X6_stops hf rl nwa row wid siz cel mvd ned (kk36 F rl lg sta sm par mv dep th bf v1 v2 v3 v4 v5 v6 v7 v8))) {v1 : Int32} {v2 : Int32} {v3 : Int32} {v4 : Int32} {v5 : Int32} {v7 : Int32} {v8 : Int32} {t0 : Int32} {t1 : Int32} (h : s_X6_stops_136 sk36 F rl lg sta sm par mv dep th bf v1 v2 v3 v4 v5 v7 v8 t0 t1)  : ng_Ev G md_X6_stops 136 [some (.ref 28), some (.int v1), some (.int v2), some (.int v3), some (.int v4), some (.int v5), none, some (.int v7), some (.int v8), none] [.int t0, .int t1] (hf F rl lg sta sm par mv dep nwa th bf row wid siz cel mvd ned) (K_X6_stops hf rl nwa row wid siz cel mvd ned (f_X6_stops_136 kk36 F rl lg sta sm par mv dep th bf v1 v2 v3 v4 v5 v7 v8 t0 t1)) := by
  unfold s_X6_stops_136 at h
  unfold f_X6_stops_136
  refine ev_ior dX6_stops_136 ?_
  refine ev_istore (L' := [some (.ref 28), some (.int v1), some (.int v2), some (.int v3), some (.int v4), some (.int v5), some (.int (t1 ||| t0)), some (.int v7), some (.int v8), none]) dX6_stops_137 (ng_lt rfl) rfl ?_
  exact ev_sub (e_X6_stops_139 V hk36 h) (sub_s (sub_s (sub_s (sub_s (sub_s (sub_s (sub_s (sub_s (sub_s (sub_n sub_e))))))))))
def f_X6_stops_118 (kk36 : (Nat → Int32) → (Nat → Int32) → (Nat → Int32) → (Nat → Int32) → (Nat → Int32) → (Nat → Int32) → (Nat → Int32) → (Nat → Int32) → (Nat → Int32) → (Nat → Int32) → Int32 → Int32 → Int32 → Int32 → Int32 → Int32 → Int32 → Int32 → ((Nat → Int32) × (Nat → Int32) × (Nat → Int32) × (Nat → Int32) × (Nat → Int32) × (Nat → Int32) × (Nat → Int32) × (Nat → Int32) × (Nat → Int32) × Int32)) (F : Nat → Int32) (rl : Nat → Int32) (lg : Nat → Int32) (sta : Nat → Int32) (sm : Nat → Int32) (par : Nat → Int32) (mv : Nat → Int32) (dep : Nat → Int32) (th : Nat → Int32) (bf : Nat → Int32) (v1 : Int32) (v2 : Int32) (v3 : Int32) (v4 : Int32) (v5 : Int32) (v6 : Int32) (v8 : Int32) (v9 : Int32) (t0 : Int32) : (Nat → Int32) × (Nat → Int32) × (Nat → Int32) × (Nat → Int32) × (Nat → Int32) × (Nat → Int32) × (Nat → Int32) × (Nat → Int32) × (Nat → Int32) × Int32 := (if v9 = (-1) then f_X6_stops_136 kk36 F rl lg sta sm par mv dep th bf v1 v2 v3 v4 v5 t0 v8 ((nI 1) <<< (v8 &&& 31)) v6 else f_X6_stops_136 kk36 F rl lg sta sm par mv dep th bf v1 v2 v3 v4 v5 t0 v8 (nI 0) v6)
def s_X6_stops_118 (sk36 : (Nat → Int32) → (Nat → Int32) → (Nat → Int32) → (Nat → Int32) → (Nat → Int32) → (Nat → Int32) → (Nat → Int32) → (Nat → Int32) → (Nat → Int32) → (Nat → Int32) → Int32 → Int32 → Int32 → Int32 → Int32 → Int32 → Int32 → Int32 → Prop) (F : Nat → Int32) (rl : Nat → Int32) (lg : Nat → Int32) (sta : Nat → Int32) (sm : Nat → Int32) (par : Nat → Int32) (mv : Nat → Int32) (dep : Nat → Int32) (th : Nat → Int32) (bf : Nat → Int32) (v1 : Int32) (v2 : Int32) (v3 : Int32) (v4 : Int32) (v5 : Int32) (v6 : Int32) (v8 : Int32) (v9 : Int32) (t0 : Int32) : Prop := ((v9 = (-1) → s_X6_stops_136 sk36 F rl lg sta sm par mv dep th bf v1 v2 v3 v4 v5 t0 v8 ((nI 1) <<< (v8 &&& 31)) v6) ∧ (¬ v9 = (-1) → s_X6_stops_136 sk36 F rl lg sta sm par mv dep th bf v1 v2 v3 v4 v5 t0 v8 (nI 0) v6))
set_option maxRecDepth 100000 in
set_option maxHeartbeats 4000000 in
theorem e_X6_stops_118 {G : ng_GG} {hf : (Nat → Int32) → (Nat → Int32) → (Nat → Int32) → (Nat → Int32) → (Nat → Int32) → (Nat → Int32) → (Nat → Int32) → (Nat → Int32) → (Nat → Int32) → (Nat → Int32) → (Nat → Int32) → (Nat → Int32) → (Nat → Int32) → (Nat → Int32) → (Nat → Int64) → (Nat → Int64) → (Nat → Int32) → ng_AM}  (V : ng_FL hf ) {F : Nat → Int32} {rl : Nat → Int32} {lg : Nat → Int32} {sta : Nat → Int32} {sm : Nat → Int32} {par : Nat → Int32} {mv : Nat → Int32} {dep : Nat → Int32} {nwa : Nat → Int32} {th : Nat → Int32} {bf : Nat → Int32} {row : Nat → Int32} {wid : Nat → Int32} {siz : Nat → Int32} {cel : Nat → Int64} {mvd : Nat → Int64} {ned : Nat → Int32} {kk36 : (Nat → Int32) → (Nat → Int32) → (Nat → Int32) → (Nat → Int32) → (Nat → Int32) → (Nat → Int32) → (Nat → Int32) → (Nat → Int32) → (Nat → Int32) → (Nat → Int32) → Int32 → Int32 → Int32 → Int32 → Int32 → Int32 → Int32 → Int32 → ((Nat → Int32) × (Nat → Int32) × (Nat → Int32) × (Nat → Int32) × (Nat → Int32) × (Nat → Int32) × (Nat → Int32) × (Nat → Int32) × (Nat → Int32) × Int32)} {sk36 : (Nat → Int32) → (Nat → Int32) → (Nat → Int32) → (Nat → Int32) → (Nat → Int32) → (Nat → Int32) → (Nat → Int32) → (Nat → Int32) → (Nat → Int32) → (Nat → Int32) → Int32 → Int32 → Int32 → Int32 → Int32 → Int32 → Int32 → Int32 → Prop} (hk36 : ∀ (F : Nat → Int32) (rl : Nat → Int32) (lg : Nat → Int32) (sta : Nat → Int32) (sm : Nat → Int32) (par : Nat → Int32) (mv : Nat → Int32) (dep : Nat → Int32) (nwa : Nat → Int32) (th : Nat → Int32) (bf : Nat → Int32) (row : Nat → Int32) (wid : Nat → Int32) (siz : Nat → Int32) (cel : Nat → Int64) (mvd : Nat → Int64) (ned : Nat → Int32) (v1 : Int32) (v2 : Int32) (v3 : Int32) (v4 : Int32) (v5 : Int32) (v6 : Int32) (v7 : Int32) (v8 : Int32), sk36 F rl lg sta sm par mv dep th bf v1 v2 v3 v4 v5 v6 v7 v8 → ng_Ev G md_X6_stops 36 [some (.ref 28), some (.int v1), some (.int v2), some (.int v3), some (.int v4), some (.int v5), some (.int v6), some (.int v7), some (.int v8), none] [] (hf F rl lg sta sm par mv dep nwa th bf row wid siz cel mvd ned) (K_X6_stops hf rl nwa row wid siz cel mvd ned (kk36 F rl lg sta sm par mv dep th bf v1 v2 v3 v4 v5 v6 v7 v8))) {v1 : Int32} {v2 : Int32} {v3 : Int32} {v4 : Int32} {v5 : Int32} {v6 : Int32} {v8 : Int32} {v9 : Int32} {t0 : Int32} (h : s_X6_stops_118 sk36 F rl lg sta sm par mv dep th bf v1 v2 v3 v4 v5 v6 v8 v9 t0)  : ng_Ev G md_X6_stops 118 [some (.ref 28), some (.int v1), some (.int v2), some (.int v3), some (.int v4), some (.int v5), some (.int v6), none, some (.int v8), some (.int v9)] [.int t0] (hf F rl lg sta sm par mv dep nwa th bf row wid siz cel mvd ned) (K_X6_stops hf rl nwa row wid siz cel mvd ned (f_X6_stops_118 kk36 F rl lg sta sm par mv dep th bf v1 v2 v3 v4 v5 v6 v8 v9 t0)) := by
  unfold s_X6_stops_118 at h
  unfold f_X6_stops_118
  refine ev_istore (L' := [some (.ref 28), some (.int v1), some (.int v2), some (.int v3), some (.int v4), some (.int v5), some (.int v6), some (.int t0), some (.int v8), some (.int v9)]) dX6_stops_118 (ng_lt rfl) rfl ?_
  refine ev_iload dX6_stops_120 rfl ?_
  refine ev_iload dX6_stops_122 rfl ?_
  refine ev_iconst (v := (-1)) dX6_stops_124 (by decide) ?_
  refine bk_icmp_ne (tgt := 135) dX6_stops_125 (by decide) (fun c125 => ?_) (fun c125 => ?_)
  · replace h := h.2 c125
    refine ev_iconst (v := nI 0) dX6_stops_135 (by decide) ?_
    exact ev_sub (e_X6_stops_136 V hk36 h) (sub_s (sub_s (sub_s (sub_s (sub_s (sub_s (sub_n (sub_s (sub_s (sub_n sub_e))))))))))
  · replace h := h.1 c125
    refine ev_iconst (v := nI 1) dX6_stops_128 (by decide) ?_
    refine ev_iload dX6_stops_129 rfl ?_
    refine ev_ishl dX6_stops_131 ?_
    refine ev_goto (tgt := 136) dX6_stops_132 (by decide) ?_
    exact ev_sub (e_X6_stops_136 V hk36 h) (sub_s (sub_s (sub_s (sub_s (sub_s (sub_s (sub_n (sub_s (sub_s (sub_n sub_e))))))))))
def f_X6_stops_113 (kk36 : (Nat → Int32) → (Nat → Int32) → (Nat → Int32) → (Nat → Int32) → (Nat → Int32) → (Nat → Int32) → (Nat → Int32) → (Nat → Int32) → (Nat → Int32) → (Nat → Int32) → Int32 → Int32 → Int32 → Int32 → Int32 → Int32 → Int32 → Int32 → ((Nat → Int32) × (Nat → Int32) × (Nat → Int32) × (Nat → Int32) × (Nat → Int32) × (Nat → Int32) × (Nat → Int32) × (Nat → Int32) × (Nat → Int32) × Int32)) (F : Nat → Int32) (rl : Nat → Int32) (lg : Nat → Int32) (sta : Nat → Int32) (sm : Nat → Int32) (par : Nat → Int32) (mv : Nat → Int32) (dep : Nat → Int32) (th : Nat → Int32) (bf : Nat → Int32) (v1 : Int32) (v2 : Int32) (v3 : Int32) (v4 : Int32) (v5 : Int32) (v6 : Int32) (v8 : Int32) (v9 : Int32) : (Nat → Int32) × (Nat → Int32) × (Nat → Int32) × (Nat → Int32) × (Nat → Int32) × (Nat → Int32) × (Nat → Int32) × (Nat → Int32) × (Nat → Int32) × Int32 := f_X6_stops_118 kk36 F rl lg sta sm par mv dep th bf v1 v2 v3 v4 v5 v6 v8 v9 (nI 1)
def s_X6_stops_113 (sk36 : (Nat → Int32) → (Nat → Int32) → (Nat → Int32) → (Nat → Int32) → (Nat → Int32) → (Nat → Int32) → (Nat → Int32) → (Nat → Int32) → (Nat → Int32) → (Nat → Int32) → Int32 → Int32 → Int32 → Int32 → Int32 → Int32 → Int32 → Int32 → Prop) (F : Nat → Int32) (rl : Nat → Int32) (lg : Nat → Int32) (sta : Nat → Int32) (sm : Nat → Int32) (par : Nat → Int32) (mv : Nat → Int32) (dep : Nat → Int32) (th : Nat → Int32) (bf : Nat → Int32) (v1 : Int32) (v2 : Int32) (v3 : Int32) (v4 : Int32) (v5 : Int32) (v6 : Int32) (v8 : Int32) (v9 : Int32) : Prop := s_X6_stops_118 sk36 F rl lg sta sm par mv dep th bf v1 v2 v3 v4 v5 v6 v8 v9 (nI 1)
set_option maxRecDepth 100000 in
set_option maxHeartbeats 4000000 in
theorem e_X6_stops_113 {G : ng_GG} {hf : (Nat → Int32) → (Nat → Int32) → (Nat → Int32) → (Nat → Int32) → (Nat → Int32) → (Nat → Int32) → (Nat → Int32) → (Nat → Int32) → (Nat → Int32) → (Nat → Int32) → (Nat → Int32) → (Nat → Int32) → (Nat → Int32) → (Nat → Int32) → (Nat → Int64) → (Nat → Int64) → (Nat → Int32) → ng_AM}  (V : ng_FL hf ) {F : Nat → Int32} {rl : Nat → Int32} {lg : Nat → Int32} {sta : Nat → Int32} {sm : Nat → Int32} {par : Nat → Int32} {mv : Nat → Int32} {dep : Nat → Int32} {nwa : Nat → Int32} {th : Nat → Int32} {bf : Nat → Int32} {row : Nat → Int32} {wid : Nat → Int32} {siz : Nat → Int32} {cel : Nat → Int64} {mvd : Nat → Int64} {ned : Nat → Int32} {kk36 : (Nat → Int32) → (Nat → Int32) → (Nat → Int32) → (Nat → Int32) → (Nat → Int32) → (Nat → Int32) → (Nat → Int32) → (Nat → Int32) → (Nat → Int32) → (Nat → Int32) → Int32 → Int32 → Int32 → Int32 → Int32 → Int32 → Int32 → Int32 → ((Nat → Int32) × (Nat → Int32) × (Nat → Int32) × (Nat → Int32) × (Nat → Int32) × (Nat → Int32) × (Nat → Int32) × (Nat → Int32) × (Nat → Int32) × Int32)} {sk36 : (Nat → Int32) → (Nat → Int32) → (Nat → Int32) → (Nat → Int32) → (Nat → Int32) → (Nat → Int32) → (Nat → Int32) → (Nat → Int32) → (Nat → Int32) → (Nat → Int32) → Int32 → Int32 → Int32 → Int32 → Int32 → Int32 → Int32 → Int32 → Prop} (hk36 : ∀ (F : Nat → Int32) (rl : Nat → Int32) (lg : Nat → Int32) (sta : Nat → Int32) (sm : Nat → Int32) (par : Nat → Int32) (mv : Nat → Int32) (dep : Nat → Int32) (nwa : Nat → Int32) (th : Nat → Int32) (bf : Nat → Int32) (row : Nat → Int32) (wid : Nat → Int32) (siz : Nat → Int32) (cel : Nat → Int64) (mvd : Nat → Int64) (ned : Nat → Int32) (v1 : Int32) (v2 : Int32) (v3 : Int32) (v4 : Int32) (v5 : Int32) (v6 : Int32) (v7 : Int32) (v8 : Int32), sk36 F rl lg sta sm par mv dep th bf v1 v2 v3 v4 v5 v6 v7 v8 → ng_Ev G md_X6_stops 36 [some (.ref 28), some (.int v1), some (.int v2), some (.int v3), some (.int v4), some (.int v5), some (.int v6), some (.int v7), some (.int v8), none] [] (hf F rl lg sta sm par mv dep nwa th bf row wid siz cel mvd ned) (K_X6_stops hf rl nwa row wid siz cel mvd ned (kk36 F rl lg sta sm par mv dep th bf v1 v2 v3 v4 v5 v6 v7 v8))) {v1 : Int32} {v2 : Int32} {v3 : Int32} {v4 : Int32} {v5 : Int32} {v6 : Int32} {v8 : Int32} {v9 : Int32} (h : s_X6_stops_113 sk36 F rl lg sta sm par mv dep th bf v1 v2 v3 v4 v5 v6 v8 v9)  : ng_Ev G md_X6_stops 113 [some (.ref 28), some (.int v1), some (.int v2), some (.int v3), some (.int v4), some (.int v5), some (.int v6), none, some (.int v8), some (.int v9)] [] (hf F rl lg sta sm par mv dep nwa th bf row wid siz cel mvd ned) (K_X6_stops hf rl nwa row wid siz cel mvd ned (f_X6_stops_113 kk36 F rl lg sta sm par mv dep th bf v1 v2 v3 v4 v5 v6 v8 v9)) := by
  unfold s_X6_stops_113 at h
  unfold f_X6_stops_113
  refine ev_iconst (v := nI 1) dX6_stops_113 (by decide) ?_
  refine ev_goto (tgt := 118) dX6_stops_114 (by decide) ?_
  exact ev_sub (e_X6_stops_118 V hk36 h) (sub_s (sub_s (sub_s (sub_s (sub_s (sub_s (sub_s (sub_n (sub_s (sub_s sub_e))))))))))
def f_X6_stops_99 (kk36 : (Nat → Int32) → (Nat → Int32) → (Nat → Int32) → (Nat → Int32) → (Nat → Int32) → (Nat → Int32) → (Nat → Int32) → (Nat → Int32) → (Nat → Int32) → (Nat → Int32) → Int32 → Int32 → Int32 → Int32 → Int32 → Int32 → Int32 → Int32 → ((Nat → Int32) × (Nat → Int32) × (Nat → Int32) × (Nat → Int32) × (Nat → Int32) × (Nat → Int32) × (Nat → Int32) × (Nat → Int32) × (Nat → Int32) × Int32)) (F : Nat → Int32) (rl : Nat → Int32) (lg : Nat → Int32) (sta : Nat → Int32) (sm : Nat → Int32) (par : Nat → Int32) (mv : Nat → Int32) (dep : Nat → Int32) (th : Nat → Int32) (bf : Nat → Int32) (v1 : Int32) (v2 : Int32) (v3 : Int32) (v4 : Int32) (v5 : Int32) (v6 : Int32) (v7 : Int32) (v8 : Int32) (t0 : Int32) : (Nat → Int32) × (Nat → Int32) × (Nat → Int32) × (Nat → Int32) × (Nat → Int32) × (Nat → Int32) × (Nat → Int32) × (Nat → Int32) × (Nat → Int32) × Int32 := (if v7 = 0 then (if t0 = (-4) then f_X6_stops_113 kk36 F rl lg sta sm par mv dep th bf v1 v2 v3 v4 v5 v6 v8 t0 else f_X6_stops_118 kk36 F rl lg sta sm par mv dep th bf v1 v2 v3 v4 v5 v6 v8 t0 (nI 0)) else f_X6_stops_113 kk36 F rl lg sta sm par mv dep th bf v1 v2 v3 v4 v5 v6 v8 t0)
def s_X6_stops_99 (sk36 : (Nat → Int32) → (Nat → Int32) → (Nat → Int32) → (Nat → Int32) → (Nat → Int32) → (Nat → Int32) → (Nat → Int32) → (Nat → Int32) → (Nat → Int32) → (Nat → Int32) → Int32 → Int32 → Int32 → Int32 → Int32 → Int32 → Int32 → Int32 → Prop) (F : Nat → Int32) (rl : Nat → Int32) (lg : Nat → Int32) (sta : Nat → Int32) (sm : Nat → Int32) (par : Nat → Int32) (mv : Nat → Int32) (dep : Nat → Int32) (th : Nat → Int32) (bf : Nat → Int32) (v1 : Int32) (v2 : Int32) (v3 : Int32) (v4 : Int32) (v5 : Int32) (v6 : Int32) (v7 : Int32) (v8 : Int32) (t0 : Int32) : Prop := ((v7 = 0 → ((t0 = (-4) → s_X6_stops_113 sk36 F rl lg sta sm par mv dep th bf v1 v2 v3 v4 v5 v6 v8 t0) ∧ (¬ t0 = (-4) → s_X6_stops_118 sk36 F rl lg sta sm par mv dep th bf v1 v2 v3 v4 v5 v6 v8 t0 (nI 0)))) ∧ (¬ v7 = 0 → s_X6_stops_113 sk36 F rl lg sta sm par mv dep th bf v1 v2 v3 v4 v5 v6 v8 t0))
set_option maxRecDepth 100000 in
set_option maxHeartbeats 4000000 in
theorem e_X6_stops_99 {G : ng_GG} {hf : (Nat → Int32) → (Nat → Int32) → (Nat → Int32) → (Nat → Int32) → (Nat → Int32) → (Nat → Int32) → (Nat → Int32) → (Nat → Int32) → (Nat → Int32) → (Nat → Int32) → (Nat → Int32) → (Nat → Int32) → (Nat → Int32) → (Nat → Int32) → (Nat → Int64) → (Nat → Int64) → (Nat → Int32) → ng_AM}  (V : ng_FL hf ) {F : Nat → Int32} {rl : Nat → Int32} {lg : Nat → Int32} {sta : Nat → Int32} {sm : Nat → Int32} {par : Nat → Int32} {mv : Nat → Int32} {dep : Nat → Int32} {nwa : Nat → Int32} {th : Nat → Int32} {bf : Nat → Int32} {row : Nat → Int32} {wid : Nat → Int32} {siz : Nat → Int32} {cel : Nat → Int64} {mvd : Nat → Int64} {ned : Nat → Int32} {kk36 : (Nat → Int32) → (Nat → Int32) → (Nat → Int32) → (Nat → Int32) → (Nat → Int32) → (Nat → Int32) → (Nat → Int32) → (Nat → Int32) → (Nat → Int32) → (Nat → Int32) → Int32 → Int32 → Int32 → Int32 → Int32 → Int32 → Int32 → Int32 → ((Nat → Int32) × (Nat → Int32) × (Nat → Int32) × (Nat → Int32) × (Nat → Int32) × (Nat → Int32) × (Nat → Int32) × (Nat → Int32) × (Nat → Int32) × Int32)} {sk36 : (Nat → Int32) → (Nat → Int32) → (Nat → Int32) → (Nat → Int32) → (Nat → Int32) → (Nat → Int32) → (Nat → Int32) → (Nat → Int32) → (Nat → Int32) → (Nat → Int32) → Int32 → Int32 → Int32 → Int32 → Int32 → Int32 → Int32 → Int32 → Prop} (hk36 : ∀ (F : Nat → Int32) (rl : Nat → Int32) (lg : Nat → Int32) (sta : Nat → Int32) (sm : Nat → Int32) (par : Nat → Int32) (mv : Nat → Int32) (dep : Nat → Int32) (nwa : Nat → Int32) (th : Nat → Int32) (bf : Nat → Int32) (row : Nat → Int32) (wid : Nat → Int32) (siz : Nat → Int32) (cel : Nat → Int64) (mvd : Nat → Int64) (ned : Nat → Int32) (v1 : Int32) (v2 : Int32) (v3 : Int32) (v4 : Int32) (v5 : Int32) (v6 : Int32) (v7 : Int32) (v8 : Int32), sk36 F rl lg sta sm par mv dep th bf v1 v2 v3 v4 v5 v6 v7 v8 → ng_Ev G md_X6_stops 36 [some (.ref 28), some (.int v1), some (.int v2), some (.int v3), some (.int v4), some (.int v5), some (.int v6), some (.int v7), some (.int v8), none] [] (hf F rl lg sta sm par mv dep nwa th bf row wid siz cel mvd ned) (K_X6_stops hf rl nwa row wid siz cel mvd ned (kk36 F rl lg sta sm par mv dep th bf v1 v2 v3 v4 v5 v6 v7 v8))) {v1 : Int32} {v2 : Int32} {v3 : Int32} {v4 : Int32} {v5 : Int32} {v6 : Int32} {v7 : Int32} {v8 : Int32} {t0 : Int32} (h : s_X6_stops_99 sk36 F rl lg sta sm par mv dep th bf v1 v2 v3 v4 v5 v6 v7 v8 t0)  : ng_Ev G md_X6_stops 99 [some (.ref 28), some (.int v1), some (.int v2), some (.int v3), some (.int v4), some (.int v5), some (.int v6), some (.int v7), some (.int v8), none] [.int t0] (hf F rl lg sta sm par mv dep nwa th bf row wid siz cel mvd ned) (K_X6_stops hf rl nwa row wid siz cel mvd ned (f_X6_stops_99 kk36 F rl lg sta sm par mv dep th bf v1 v2 v3 v4 v5 v6 v7 v8 t0)) := by
  unfold s_X6_stops_99 at h
  unfold f_X6_stops_99
  refine ev_istore (L' := [some (.ref 28), some (.int v1), some (.int v2), some (.int v3), some (.int v4), some (.int v5), some (.int v6), some (.int v7), some (.int v8), some (.int t0)]) dX6_stops_99 (ng_lt rfl) rfl ?_
  refine ev_iload dX6_stops_101 rfl ?_
  refine bk_if_ne (tgt := 113) dX6_stops_103 (by decide) (fun c103 => ?_) (fun c103 => ?_)
  · replace h := h.2 c103
    exact ev_sub (e_X6_stops_113 V hk36 h) (sub_s (sub_s (sub_s (sub_s (sub_s (sub_s (sub_s (sub_n (sub_s (sub_s sub_e))))))))))
  · replace h := h.1 c103
    refine ev_iload dX6_stops_106 rfl ?_
    refine ev_bipush (v := (-4)) dX6_stops_108 (by decide) ?_
    refine bk_icmp_ne (tgt := 117) dX6_stops_110 (by decide) (fun c110 => ?_) (fun c110 => ?_)
    · replace h := h.2 c110
      refine ev_iconst (v := nI 0) dX6_stops_117 (by decide) ?_
      exact ev_sub (e_X6_stops_118 V hk36 h) (sub_s (sub_s (sub_s (sub_s (sub_s (sub_s (sub_s (sub_n (sub_s (sub_s sub_e))))))))))
    · replace h := h.1 c110
      exact ev_sub (e_X6_stops_113 V hk36 h) (sub_s (sub_s (sub_s (sub_s (sub_s (sub_s (sub_s (sub_n (sub_s (sub_s sub_e))))))))))
def f_X6_stops_71 (kk36 : (Nat → Int32) → (Nat → Int32) → (Nat → Int32) → (Nat → Int32) → (Nat → Int32) → (Nat → Int32) → (Nat → Int32) → (Nat → Int32) → (Nat → Int32) → (Nat → Int32) → Int32 → Int32 → Int32 → Int32 → Int32 → Int32 → Int32 → Int32 → ((Nat → Int32) × (Nat → Int32) × (Nat → Int32) × (Nat → Int32) × (Nat → Int32) × (Nat → Int32) × (Nat → Int32) × (Nat → Int32) × (Nat → Int32) × Int32)) (F : Nat → Int32) (rl : Nat → Int32) (lg : Nat → Int32) (sta : Nat → Int32) (sm : Nat → Int32) (par : Nat → Int32) (mv : Nat → Int32) (dep : Nat → Int32) (th : Nat → Int32) (bf : Nat → Int32) (v1 : Int32) (v2 : Int32) (v3 : Int32) (v4 : Int32) (v5 : Int32) (v6 : Int32) (v7 : Int32) (v8 : Int32) : (Nat → Int32) × (Nat → Int32) × (Nat → Int32) × (Nat → Int32) × (Nat → Int32) × (Nat → Int32) × (Nat → Int32) × (Nat → Int32) × (Nat → Int32) × Int32 := f_X6_stops_99 kk36 ((f_X6_search F lg sta sm par mv dep th (upd bf (nI 3).toNatClampNeg ((bf (nI 3).toNatClampNeg) ||| ((nI 1) <<< (v8 &&& 31)))) v1 v2 v3 v4 v5).1) rl ((f_X6_search F lg sta sm par mv dep th (upd bf (nI 3).toNatClampNeg ((bf (nI 3).toNatClampNeg) ||| ((nI 1) <<< (v8 &&& 31)))) v1 v2 v3 v4 v5).2.1) ((f_X6_search F lg sta sm par mv dep th (upd bf (nI 3).toNatClampNeg ((bf (nI 3).toNatClampNeg) ||| ((nI 1) <<< (v8 &&& 31)))) v1 v2 v3 v4 v5).2.2.1) ((f_X6_search F lg sta sm par mv dep th (upd bf (nI 3).toNatClampNeg ((bf (nI 3).toNatClampNeg) ||| ((nI 1) <<< (v8 &&& 31)))) v1 v2 v3 v4 v5).2.2.2.1) ((f_X6_search F lg sta sm par mv dep th (upd bf (nI 3).toNatClampNeg ((bf (nI 3).toNatClampNeg) ||| ((nI 1) <<< (v8 &&& 31)))) v1 v2 v3 v4 v5).2.2.2.2.1) ((f_X6_search F lg sta sm par mv dep th (upd bf (nI 3).toNatClampNeg ((bf (nI 3).toNatClampNeg) ||| ((nI 1) <<< (v8 &&& 31)))) v1 v2 v3 v4 v5).2.2.2.2.2.1) ((f_X6_search F lg sta sm par mv dep th (upd bf (nI 3).toNatClampNeg ((bf (nI 3).toNatClampNeg) ||| ((nI 1) <<< (v8 &&& 31)))) v1 v2 v3 v4 v5).2.2.2.2.2.2.1) ((f_X6_search F lg sta sm par mv dep th (upd bf (nI 3).toNatClampNeg ((bf (nI 3).toNatClampNeg) ||| ((nI 1) <<< (v8 &&& 31)))) v1 v2 v3 v4 v5).2.2.2.2.2.2.2.1) (upd bf (nI 3).toNatClampNeg ((bf (nI 3).toNatClampNeg) ||| ((nI 1) <<< (v8 &&& 31)))) v1 v2 v3 v4 v5 v6 v7 v8 ((f_X6_search F lg sta sm par mv dep th (upd bf (nI 3).toNatClampNeg ((bf (nI 3).toNatClampNeg) ||| ((nI 1) <<< (v8 &&& 31)))) v1 v2 v3 v4 v5).2.2.2.2.2.2.2.2)
def s_X6_stops_71 (sk36 : (Nat → Int32) → (Nat → Int32) → (Nat → Int32) → (Nat → Int32) → (Nat → Int32) → (Nat → Int32) → (Nat → Int32) → (Nat → Int32) → (Nat → Int32) → (Nat → Int32) → Int32 → Int32 → Int32 → Int32 → Int32 → Int32 → Int32 → Int32 → Prop) (F : Nat → Int32) (rl : Nat → Int32) (lg : Nat → Int32) (sta : Nat → Int32) (sm : Nat → Int32) (par : Nat → Int32) (mv : Nat → Int32) (dep : Nat → Int32) (th : Nat → Int32) (bf : Nat → Int32) (v1 : Int32) (v2 : Int32) (v3 : Int32) (v4 : Int32) (v5 : Int32) (v6 : Int32) (v7 : Int32) (v8 : Int32) : Prop := (s_X6_search F lg sta sm par mv dep th (upd bf (nI 3).toNatClampNeg ((bf (nI 3).toNatClampNeg) ||| ((nI 1) <<< (v8 &&& 31)))) v1 v2 v3 v4 v5 ∧ s_X6_stops_99 sk36 ((f_X6_search F lg sta sm par mv dep th (upd bf (nI 3).toNatClampNeg ((bf (nI 3).toNatClampNeg) ||| ((nI 1) <<< (v8 &&& 31)))) v1 v2 v3 v4 v5).1) rl ((f_X6_search F lg sta sm par mv dep th (upd bf (nI 3).toNatClampNeg ((bf (nI 3).toNatClampNeg) ||| ((nI 1) <<< (v8 &&& 31)))) v1 v2 v3 v4 v5).2.1) ((f_X6_search F lg sta sm par mv dep th (upd bf (nI 3).toNatClampNeg ((bf (nI 3).toNatClampNeg) ||| ((nI 1) <<< (v8 &&& 31)))) v1 v2 v3 v4 v5).2.2.1) ((f_X6_search F lg sta sm par mv dep th (upd bf (nI 3).toNatClampNeg ((bf (nI 3).toNatClampNeg) ||| ((nI 1) <<< (v8 &&& 31)))) v1 v2 v3 v4 v5).2.2.2.1) ((f_X6_search F lg sta sm par mv dep th (upd bf (nI 3).toNatClampNeg ((bf (nI 3).toNatClampNeg) ||| ((nI 1) <<< (v8 &&& 31)))) v1 v2 v3 v4 v5).2.2.2.2.1) ((f_X6_search F lg sta sm par mv dep th (upd bf (nI 3).toNatClampNeg ((bf (nI 3).toNatClampNeg) ||| ((nI 1) <<< (v8 &&& 31)))) v1 v2 v3 v4 v5).2.2.2.2.2.1) ((f_X6_search F lg sta sm par mv dep th (upd bf (nI 3).toNatClampNeg ((bf (nI 3).toNatClampNeg) ||| ((nI 1) <<< (v8 &&& 31)))) v1 v2 v3 v4 v5).2.2.2.2.2.2.1) ((f_X6_search F lg sta sm par mv dep th (upd bf (nI 3).toNatClampNeg ((bf (nI 3).toNatClampNeg) ||| ((nI 1) <<< (v8 &&& 31)))) v1 v2 v3 v4 v5).2.2.2.2.2.2.2.1) (upd bf (nI 3).toNatClampNeg ((bf (nI 3).toNatClampNeg) ||| ((nI 1) <<< (v8 &&& 31)))) v1 v2 v3 v4 v5 v6 v7 v8 ((f_X6_search F lg sta sm par mv dep th (upd bf (nI 3).toNatClampNeg ((bf (nI 3).toNatClampNeg) ||| ((nI 1) <<< (v8 &&& 31)))) v1 v2 v3 v4 v5).2.2.2.2.2.2.2.2))
set_option maxRecDepth 100000 in
set_option maxHeartbeats 4000000 in
theorem e_X6_stops_71 {G : ng_GG} {hf : (Nat → Int32) → (Nat → Int32) → (Nat → Int32) → (Nat → Int32) → (Nat → Int32) → (Nat → Int32) → (Nat → Int32) → (Nat → Int32) → (Nat → Int32) → (Nat → Int32) → (Nat → Int32) → (Nat → Int32) → (Nat → Int32) → (Nat → Int32) → (Nat → Int64) → (Nat → Int64) → (Nat → Int32) → ng_AM}  (V : ng_FL hf ) {F : Nat → Int32} {rl : Nat → Int32} {lg : Nat → Int32} {sta : Nat → Int32} {sm : Nat → Int32} {par : Nat → Int32} {mv : Nat → Int32} {dep : Nat → Int32} {nwa : Nat → Int32} {th : Nat → Int32} {bf : Nat → Int32} {row : Nat → Int32} {wid : Nat → Int32} {siz : Nat → Int32} {cel : Nat → Int64} {mvd : Nat → Int64} {ned : Nat → Int32} {kk36 : (Nat → Int32) → (Nat → Int32) → (Nat → Int32) → (Nat → Int32) → (Nat → Int32) → (Nat → Int32) → (Nat → Int32) → (Nat → Int32) → (Nat → Int32) → (Nat → Int32) → Int32 → Int32 → Int32 → Int32 → Int32 → Int32 → Int32 → Int32 → ((Nat → Int32) × (Nat → Int32) × (Nat → Int32) × (Nat → Int32) × (Nat → Int32) × (Nat → Int32) × (Nat → Int32) × (Nat → Int32) × (Nat → Int32) × Int32)} {sk36 : (Nat → Int32) → (Nat → Int32) → (Nat → Int32) → (Nat → Int32) → (Nat → Int32) → (Nat → Int32) → (Nat → Int32) → (Nat → Int32) → (Nat → Int32) → (Nat → Int32) → Int32 → Int32 → Int32 → Int32 → Int32 → Int32 → Int32 → Int32 → Prop} (hk36 : ∀ (F : Nat → Int32) (rl : Nat → Int32) (lg : Nat → Int32) (sta : Nat → Int32) (sm : Nat → Int32) (par : Nat → Int32) (mv : Nat → Int32) (dep : Nat → Int32) (nwa : Nat → Int32) (th : Nat → Int32) (bf : Nat → Int32) (row : Nat → Int32) (wid : Nat → Int32) (siz : Nat → Int32) (cel : Nat → Int64) (mvd : Nat → Int64) (ned : Nat → Int32) (v1 : Int32) (v2 : Int32) (v3 : Int32) (v4 : Int32) (v5 : Int32) (v6 : Int32) (v7 : Int32) (v8 : Int32), sk36 F rl lg sta sm par mv dep th bf v1 v2 v3 v4 v5 v6 v7 v8 → ng_Ev G md_X6_stops 36 [some (.ref 28), some (.int v1), some (.int v2), some (.int v3), some (.int v4), some (.int v5), some (.int v6), some (.int v7), some (.int v8), none] [] (hf F rl lg sta sm par mv dep nwa th bf row wid siz cel mvd ned) (K_X6_stops hf rl nwa row wid siz cel mvd ned (kk36 F rl lg sta sm par mv dep th bf v1 v2 v3 v4 v5 v6 v7 v8))) {v1 : Int32} {v2 : Int32} {v3 : Int32} {v4 : Int32} {v5 : Int32} {v6 : Int32} {v7 : Int32} {v8 : Int32} (h : s_X6_stops_71 sk36 F rl lg sta sm par mv dep th bf v1 v2 v3 v4 v5 v6 v7 v8)  : ng_Ev G md_X6_stops 71 [some (.ref 28), some (.int v1), some (.int v2), some (.int v3), some (.int v4), some (.int v5), some (.int v6), some (.int v7), some (.int v8), none] [] (hf F rl lg sta sm par mv dep nwa th bf row wid siz cel mvd ned) (K_X6_stops hf rl nwa row wid siz cel mvd ned (f_X6_stops_71 kk36 F rl lg sta sm par mv dep th bf v1 v2 v3 v4 v5 v6 v7 v8)) := by
  unfold s_X6_stops_71 at h
  unfold f_X6_stops_71
  refine ev_aload_n dX6_stops_71 rfl rfl rfl ?_
  refine ev_get 6 14 fl_RX6_38 (FL_g28 V) rfl dX6_stops_72 ?_
  refine ev_iconst (v := nI 3) dX6_stops_75 (by decide) ?_
  refine ev_dup2 dX6_stops_76 rfl rfl ?_
  refine ev_iald (FL_g38 V) (vp_in_nI (by decide) (by decide)) dX6_stops_77 ?_
  refine ev_iconst (v := nI 1) dX6_stops_78 (by decide) ?_
  refine ev_iload dX6_stops_79 rfl ?_
  refine ev_ishl dX6_stops_81 ?_
  refine ev_ior dX6_stops_82 ?_
  refine ev_iast (FL_g38 V) (vp_in_nI (by decide) (by decide)) (FL_s38 V) dX6_stops_83 ?_
  refine ev_aload_n dX6_stops_84 rfl rfl rfl ?_
  refine ev_aload_n dX6_stops_85 rfl rfl rfl ?_
  refine ev_get 6 14 fl_RX6_38 (FL_g28 V) rfl dX6_stops_86 ?_
  refine ev_iload_n dX6_stops_89 rfl rfl ?_
  refine ev_iload_n dX6_stops_90 rfl rfl ?_
  refine ev_iload_n dX6_stops_91 rfl rfl ?_
  refine ev_iload dX6_stops_92 rfl ?_
  refine ev_iload dX6_stops_94 rfl ?_
  have hs96 := h.1
  replace h := h.2
  refine bk_callV (As := [.ref 38, .int v1, .int v2, .int v3, .int v4, .int v5]) (st := []) (st2 := [.int ((f_X6_search F lg sta sm par mv dep th (upd bf (nI 3).toNatClampNeg ((bf (nI 3).toNatClampNeg) ||| ((nI 1) <<< (v8 &&& 31)))) v1 v2 v3 v4 v5).2.2.2.2.2.2.2.2)]) (M2 := hf ((f_X6_search F lg sta sm par mv dep th (upd bf (nI 3).toNatClampNeg ((bf (nI 3).toNatClampNeg) ||| ((nI 1) <<< (v8 &&& 31)))) v1 v2 v3 v4 v5).1) rl ((f_X6_search F lg sta sm par mv dep th (upd bf (nI 3).toNatClampNeg ((bf (nI 3).toNatClampNeg) ||| ((nI 1) <<< (v8 &&& 31)))) v1 v2 v3 v4 v5).2.1) ((f_X6_search F lg sta sm par mv dep th (upd bf (nI 3).toNatClampNeg ((bf (nI 3).toNatClampNeg) ||| ((nI 1) <<< (v8 &&& 31)))) v1 v2 v3 v4 v5).2.2.1) ((f_X6_search F lg sta sm par mv dep th (upd bf (nI 3).toNatClampNeg ((bf (nI 3).toNatClampNeg) ||| ((nI 1) <<< (v8 &&& 31)))) v1 v2 v3 v4 v5).2.2.2.1) ((f_X6_search F lg sta sm par mv dep th (upd bf (nI 3).toNatClampNeg ((bf (nI 3).toNatClampNeg) ||| ((nI 1) <<< (v8 &&& 31)))) v1 v2 v3 v4 v5).2.2.2.2.1) ((f_X6_search F lg sta sm par mv dep th (upd bf (nI 3).toNatClampNeg ((bf (nI 3).toNatClampNeg) ||| ((nI 1) <<< (v8 &&& 31)))) v1 v2 v3 v4 v5).2.2.2.2.2.1) ((f_X6_search F lg sta sm par mv dep th (upd bf (nI 3).toNatClampNeg ((bf (nI 3).toNatClampNeg) ||| ((nI 1) <<< (v8 &&& 31)))) v1 v2 v3 v4 v5).2.2.2.2.2.2.1) nwa ((f_X6_search F lg sta sm par mv dep th (upd bf (nI 3).toNatClampNeg ((bf (nI 3).toNatClampNeg) ||| ((nI 1) <<< (v8 &&& 31)))) v1 v2 v3 v4 v5).2.2.2.2.2.2.2.1) (upd bf (nI 3).toNatClampNeg ((bf (nI 3).toNatClampNeg) ||| ((nI 1) <<< (v8 &&& 31)))) row wid siz cel mvd ned) ok_X6_search lk_RX6_213 (ng_rok.of rfl rfl) (FL_g28 V) rfl rfl rfl rfl rfl rfl dX6_stops_96 (m_X6_search V hs96) rfl rfl ?_
  exact ev_sub (e_X6_stops_99 V hk36 h) (sub_s (sub_s (sub_s (sub_s (sub_s (sub_s (sub_s (sub_s (sub_s (sub_n sub_e))))))))))
def f_X6_stops_36  : Nat → (Nat → Int32) → (Nat → Int32) → (Nat → Int32) → (Nat → Int32) → (Nat → Int32) → (Nat → Int32) → (Nat → Int32) → (Nat → Int32) → (Nat → Int32) → (Nat → Int32) → Int32 → Int32 → Int32 → Int32 → Int32 → Int32 → Int32 → Int32 → ((Nat → Int32) × (Nat → Int32) × (Nat → Int32) × (Nat → Int32) × (Nat → Int32) × (Nat → Int32) × (Nat → Int32) × (Nat → Int32) × (Nat → Int32) × Int32)
  | 0, F, _, lg, sta, sm, par, mv, dep, th, bf, _, _, _, _, _, _, _, _ => (F, lg, sta, sm, par, mv, dep, th, bf, 0)
  | n + 1, F, rl, lg, sta, sm, par, mv, dep, th, bf, v1, v2, v3, v4, v5, v6, v7, v8 => (if (nI 8) ≤ v8 then (if v7 = 0 then ((upd F 2 (nI 0)), lg, sta, sm, par, mv, dep, th, bf, v6) else ((upd F 2 (nI 0)), lg, sta, sm, par, mv, dep, th, bf, (-4))) else (if (f_X6_isOn rl v8) = 0 then f_X6_stops_71 (f_X6_stops_36 n) F rl lg sta sm par mv dep th (f_X6_copy_ rl bf 527 527 (nI 0) (nI 0)) v1 v2 v3 v4 v5 v6 v7 v8 else f_X6_stops_139 (f_X6_stops_36 n) F rl lg sta sm par mv dep th bf v1 v2 v3 v4 v5 v6 v7 v8))
def s_X6_stops_36  : Nat → (Nat → Int32) → (Nat → Int32) → (Nat → Int32) → (Nat → Int32) → (Nat → Int32) → (Nat → Int32) → (Nat → Int32) → (Nat → Int32) → (Nat → Int32) → (Nat → Int32) → Int32 → Int32 → Int32 → Int32 → Int32 → Int32 → Int32 → Int32 → Prop
  | 0, _, _, _, _, _, _, _, _, _, _, _, _, _, _, _, _, _, _ => False
  | n + 1, F, rl, lg, sta, sm, par, mv, dep, th, bf, v1, v2, v3, v4, v5, v6, v7, v8 => (¬ (nI 8) ≤ v8 → (((f_X6_isOn rl v8) = 0 → (s_X6_copy_ rl bf 527 527 (nI 0) (nI 0) ∧ s_X6_stops_71 (s_X6_stops_36 n) F rl lg sta sm par mv dep th (f_X6_copy_ rl bf 527 527 (nI 0) (nI 0)) v1 v2 v3 v4 v5 v6 v7 v8)) ∧ (¬ (f_X6_isOn rl v8) = 0 → s_X6_stops_139 (s_X6_stops_36 n) F rl lg sta sm par mv dep th bf v1 v2 v3 v4 v5 v6 v7 v8)))
set_option maxRecDepth 100000 in
set_option maxHeartbeats 4000000 in
theorem e_X6_stops_36 {G : ng_GG} {hf : (Nat → Int32) → (Nat → Int32) → (Nat → Int32) → (Nat → Int32) → (Nat → Int32) → (Nat → Int32) → (Nat → Int32) → (Nat → Int32) → (Nat → Int32) → (Nat → Int32) → (Nat → Int32) → (Nat → Int32) → (Nat → Int32) → (Nat → Int32) → (Nat → Int64) → (Nat → Int64) → (Nat → Int32) → ng_AM}  (V : ng_FL hf )  : ∀ (n : Nat) (F : Nat → Int32) (rl : Nat → Int32) (lg : Nat → Int32) (sta : Nat → Int32) (sm : Nat → Int32) (par : Nat → Int32) (mv : Nat → Int32) (dep : Nat → Int32) (nwa : Nat → Int32) (th : Nat → Int32) (bf : Nat → Int32) (row : Nat → Int32) (wid : Nat → Int32) (siz : Nat → Int32) (cel : Nat → Int64) (mvd : Nat → Int64) (ned : Nat → Int32) (v1 : Int32) (v2 : Int32) (v3 : Int32) (v4 : Int32) (v5 : Int32) (v6 : Int32) (v7 : Int32) (v8 : Int32), s_X6_stops_36  n F rl lg sta sm par mv dep th bf v1 v2 v3 v4 v5 v6 v7 v8 → ng_Ev G md_X6_stops 36 [some (.ref 28), some (.int v1), some (.int v2), some (.int v3), some (.int v4), some (.int v5), some (.int v6), some (.int v7), some (.int v8), none] [] (hf F rl lg sta sm par mv dep nwa th bf row wid siz cel mvd ned) (K_X6_stops hf rl nwa row wid siz cel mvd ned (f_X6_stops_36  n F rl lg sta sm par mv dep th bf v1 v2 v3 v4 v5 v6 v7 v8)) := by
  intro n
  induction n with
  | zero => intro F rl lg sta sm par mv dep nwa th bf row wid siz cel mvd ned v1 v2 v3 v4 v5 v6 v7 v8 h; exact False.elim h
  | succ n ih =>
    intro F rl lg sta sm par mv dep nwa th bf row wid siz cel mvd ned v1 v2 v3 v4 v5 v6 v7 v8 h 
    rw [s_X6_stops_36] at h
    rw [f_X6_stops_36]
    refine ev_iload dX6_stops_36 rfl ?_
    refine ev_bipush (v := nI 8) dX6_stops_38 (by decide) ?_
    refine bk_icmp_ge (tgt := 145) dX6_stops_40 (by decide) (fun c40 => ?_) (fun c40 => ?_)
    · refine ev_aload_n dX6_stops_145 rfl rfl rfl ?_
      refine ev_iconst (v := nI 0) dX6_stops_146 (by decide) ?_
      refine ev_put 6 2 fs_RX6_95 (FL_g28 V) (ng_lt rfl) rfl (FL_s28 V (F' := (upd F 2 (nI 0)))) ng_fit_0 dX6_stops_147 ?_
      refine ev_iload dX6_stops_150 rfl ?_
      refine bk_if_eq (tgt := 160) dX6_stops_152 (by decide) (fun c152 => ?_) (fun c152 => ?_)
      · refine ev_iload dX6_stops_160 rfl ?_
        exact ev_iret rfl rfl dX6_stops_162
      · refine ev_bipush (v := (-4)) dX6_stops_155 (by decide) ?_
        refine ev_goto (tgt := 162) dX6_stops_157 (by decide) ?_
        exact ev_iret rfl rfl dX6_stops_162
    · replace h := h c40
      refine ev_aload_n dX6_stops_43 rfl rfl rfl ?_
      refine ev_get 6 1 fl_RX6_9 (FL_g28 V) rfl dX6_stops_44 ?_
      refine ev_iload dX6_stops_47 rfl ?_
      refine bk_callS (As := [.ref 29, .int v8]) (st := []) (st2 := [.int (f_X6_isOn rl v8)]) (M2 := hf F rl lg sta sm par mv dep nwa th bf row wid siz cel mvd ned) ok_X6_isOn lk_RX6_118 (ng_rok.of rfl rfl) rfl rfl rfl rfl dX6_stops_49 (m_X6_isOn (FL_Rrl V) trivial) rfl rfl ?_
      refine bk_if_eq (tgt := 58) dX6_stops_52 (by decide) (fun c52 => ?_) (fun c52 => ?_)
      · replace h := h.1 c52
        refine ev_aload_n dX6_stops_58 rfl rfl rfl ?_
        refine ev_get 6 1 fl_RX6_9 (FL_g28 V) rfl dX6_stops_59 ?_
        refine ev_iconst (v := nI 0) dX6_stops_62 (by decide) ?_
        refine ev_aload_n dX6_stops_63 rfl rfl rfl ?_
        refine ev_get 6 14 fl_RX6_38 (FL_g28 V) rfl dX6_stops_64 ?_
        refine ev_iconst (v := nI 0) dX6_stops_67 (by decide) ?_
        have hs68 := h.1
        replace h := h.2
        refine bk_callS (As := [.ref 29, .int (nI 0), .ref 38, .int (nI 0)]) (st := []) (st2 := []) (M2 := hf F rl lg sta sm par mv dep nwa th (f_X6_copy_ rl bf 527 527 (nI 0) (nI 0)) row wid siz cel mvd ned) ok_X6_copy_ lk_RX6_182 (ng_rok.of rfl rfl) rfl rfl rfl rfl dX6_stops_68 (m_X6_copy_ (show ng_CL (fun fr fo => hf F fr lg sta sm par mv dep nwa th fo row wid siz cel mvd ned) 29 38 527 527 from ⟨fun _ _ => FL_g29 V, fun _ _ => FL_g38 V, fun _ _ _ => FL_s38 V⟩) hs68) rfl rfl ?_
        exact ev_sub (e_X6_stops_71 V ih h) (sub_s (sub_s (sub_s (sub_s (sub_s (sub_s (sub_s (sub_s (sub_s (sub_n sub_e))))))))))
      · replace h := h.2 c52
        refine ev_goto (tgt := 139) dX6_stops_55 (by decide) ?_
        exact ev_sub (e_X6_stops_139 V ih h) (sub_s (sub_s (sub_s (sub_s (sub_s (sub_s (sub_s (sub_s (sub_s (sub_n sub_e))))))))))
def f_X6_stops  (F : Nat → Int32) (rl : Nat → Int32) (lg : Nat → Int32) (sta : Nat → Int32) (sm : Nat → Int32) (par : Nat → Int32) (mv : Nat → Int32) (dep : Nat → Int32) (th : Nat → Int32) (bf : Nat → Int32) (v1 : Int32) (v2 : Int32) (v3 : Int32) (v4 : Int32) (v5 : Int32) : (Nat → Int32) × (Nat → Int32) × (Nat → Int32) × (Nat → Int32) × (Nat → Int32) × (Nat → Int32) × (Nat → Int32) × (Nat → Int32) × (Nat → Int32) × Int32 := (if (f_X6_isAsked rl v1 v2 v3 v4 v5) = 0 then ((upd F 0 (nI 0)), lg, sta, sm, par, mv, dep, th, bf, (-2)) else f_X6_stops_36 ng_F (upd (upd F 0 (nI 0)) 2 (nI 1)) rl lg sta sm par mv dep th bf v1 v2 v3 v4 v5 (nI 0) (nI 0) (nI 0))
def s_X6_stops  (F : Nat → Int32) (rl : Nat → Int32) (lg : Nat → Int32) (sta : Nat → Int32) (sm : Nat → Int32) (par : Nat → Int32) (mv : Nat → Int32) (dep : Nat → Int32) (th : Nat → Int32) (bf : Nat → Int32) (v1 : Int32) (v2 : Int32) (v3 : Int32) (v4 : Int32) (v5 : Int32) : Prop := (s_X6_isAsked rl v1 v2 v3 v4 v5 ∧ (¬ (f_X6_isAsked rl v1 v2 v3 v4 v5) = 0 → s_X6_stops_36 ng_F (upd (upd F 0 (nI 0)) 2 (nI 1)) rl lg sta sm par mv dep th bf v1 v2 v3 v4 v5 (nI 0) (nI 0) (nI 0)))
set_option maxRecDepth 100000 in
set_option maxHeartbeats 4000000 in
theorem e_X6_stops {G : ng_GG} {hf : (Nat → Int32) → (Nat → Int32) → (Nat → Int32) → (Nat → Int32) → (Nat → Int32) → (Nat → Int32) → (Nat → Int32) → (Nat → Int32) → (Nat → Int32) → (Nat → Int32) → (Nat → Int32) → (Nat → Int32) → (Nat → Int32) → (Nat → Int32) → (Nat → Int64) → (Nat → Int64) → (Nat → Int32) → ng_AM}  (V : ng_FL hf ) {F : Nat → Int32} {rl : Nat → Int32} {lg : Nat → Int32} {sta : Nat → Int32} {sm : Nat → Int32} {par : Nat → Int32} {mv : Nat → Int32} {dep : Nat → Int32} {nwa : Nat → Int32} {th : Nat → Int32} {bf : Nat → Int32} {row : Nat → Int32} {wid : Nat → Int32} {siz : Nat → Int32} {cel : Nat → Int64} {mvd : Nat → Int64} {ned : Nat → Int32}  {v1 : Int32} {v2 : Int32} {v3 : Int32} {v4 : Int32} {v5 : Int32} (h : s_X6_stops  F rl lg sta sm par mv dep th bf v1 v2 v3 v4 v5)  : ng_Ev G md_X6_stops 0 [some (.ref 28), some (.int v1), some (.int v2), some (.int v3), some (.int v4), some (.int v5), none, none, none, none] [] (hf F rl lg sta sm par mv dep nwa th bf row wid siz cel mvd ned) (K_X6_stops hf rl nwa row wid siz cel mvd ned (f_X6_stops  F rl lg sta sm par mv dep th bf v1 v2 v3 v4 v5)) := by
  unfold s_X6_stops at h
  unfold f_X6_stops
  refine ev_aload_n dX6_stops_0 rfl rfl rfl ?_
  refine ev_iconst (v := nI 0) dX6_stops_1 (by decide) ?_
  refine ev_put 6 0 fs_RX6_64 (FL_g28 V) (ng_lt rfl) rfl (FL_s28 V (F' := (upd F 0 (nI 0)))) (ng_fit_i _) dX6_stops_2 ?_
  refine ev_aload_n dX6_stops_5 rfl rfl rfl ?_
  refine ev_iload_n dX6_stops_6 rfl rfl ?_
  refine ev_iload_n dX6_stops_7 rfl rfl ?_
  refine ev_iload_n dX6_stops_8 rfl rfl ?_
  refine ev_iload dX6_stops_9 rfl ?_
  refine ev_iload dX6_stops_11 rfl ?_
  have hs13 := h.1
  replace h := h.2
  refine bk_callV (As := [.int v1, .int v2, .int v3, .int v4, .int v5]) (st := []) (st2 := [.int (f_X6_isAsked rl v1 v2 v3 v4 v5)]) (M2 := hf (upd F 0 (nI 0)) rl lg sta sm par mv dep nwa th bf row wid siz cel mvd ned) ok_X6_isAsked lk_RX6_209 (ng_rok.of rfl rfl) (FL_g28 V) rfl rfl rfl rfl rfl rfl dX6_stops_13 (m_X6_isAsked V hs13) rfl rfl ?_
  refine bk_if_ne (tgt := 22) dX6_stops_16 (by decide) (fun c16 => ?_) (fun c16 => ?_)
  · replace h := h c16
    refine ev_iconst (v := nI 0) dX6_stops_22 (by decide) ?_
    refine ev_istore (L' := [some (.ref 28), some (.int v1), some (.int v2), some (.int v3), some (.int v4), some (.int v5), some (.int (nI 0)), none, none, none]) dX6_stops_23 (ng_lt rfl) rfl ?_
    refine ev_iconst (v := nI 0) dX6_stops_25 (by decide) ?_
    refine ev_istore (L' := [some (.ref 28), some (.int v1), some (.int v2), some (.int v3), some (.int v4), some (.int v5), some (.int (nI 0)), some (.int (nI 0)), none, none]) dX6_stops_26 (ng_lt rfl) rfl ?_
    refine ev_aload_n dX6_stops_28 rfl rfl rfl ?_
    refine ev_iconst (v := nI 1) dX6_stops_29 (by decide) ?_
    refine ev_put 6 2 fs_RX6_95 (FL_g28 V) (ng_lt rfl) rfl (FL_s28 V (F' := (upd (upd F 0 (nI 0)) 2 (nI 1)))) ng_fit_1 dX6_stops_30 ?_
    refine ev_iconst (v := nI 0) dX6_stops_33 (by decide) ?_
    refine ev_istore (L' := [some (.ref 28), some (.int v1), some (.int v2), some (.int v3), some (.int v4), some (.int v5), some (.int (nI 0)), some (.int (nI 0)), some (.int (nI 0)), none]) dX6_stops_34 (ng_lt rfl) rfl ?_
    exact ev_sub (e_X6_stops_36 V ng_F (upd (upd F 0 (nI 0)) 2 (nI 1)) rl lg sta sm par mv dep nwa th bf row wid siz cel mvd ned v1 v2 v3 v4 v5 (nI 0) (nI 0) (nI 0) h) (sub_s (sub_s (sub_s (sub_s (sub_s (sub_s (sub_s (sub_s (sub_s (sub_n sub_e))))))))))
  · refine ev_bipush (v := (-2)) dX6_stops_19 (by decide) ?_
    exact ev_iret rfl rfl dX6_stops_21
theorem m_X6_stops {G : ng_GG} {hf : (Nat → Int32) → (Nat → Int32) → (Nat → Int32) → (Nat → Int32) → (Nat → Int32) → (Nat → Int32) → (Nat → Int32) → (Nat → Int32) → (Nat → Int32) → (Nat → Int32) → (Nat → Int32) → (Nat → Int32) → (Nat → Int32) → (Nat → Int32) → (Nat → Int64) → (Nat → Int64) → (Nat → Int32) → ng_AM}  (V : ng_FL hf ) {F : Nat → Int32} {rl : Nat → Int32} {lg : Nat → Int32} {sta : Nat → Int32} {sm : Nat → Int32} {par : Nat → Int32} {mv : Nat → Int32} {dep : Nat → Int32} {nwa : Nat → Int32} {th : Nat → Int32} {bf : Nat → Int32} {row : Nat → Int32} {wid : Nat → Int32} {siz : Nat → Int32} {cel : Nat → Int64} {mvd : Nat → Int64} {ned : Nat → Int32} {v1 : Int32} {v2 : Int32} {v3 : Int32} {v4 : Int32} {v5 : Int32} (h : s_X6_stops F rl lg sta sm par mv dep th bf v1 v2 v3 v4 v5)  : ng_Ev G md_X6_stops 0 (ng_en 10 [.ref 28, .int v1, .int v2, .int v3, .int v4, .int v5]) [] (hf F rl lg sta sm par mv dep nwa th bf row wid siz cel mvd ned) (K_X6_stops hf rl nwa row wid siz cel mvd ned (f_X6_stops F rl lg sta sm par mv dep th bf v1 v2 v3 v4 v5)) := e_X6_stops V h 
def K_X6_longest (hf : (Nat → Int32) → (Nat → Int32) → (Nat → Int32) → (Nat → Int32) → (Nat → Int32) → (Nat → Int32) → (Nat → Int32) → (Nat → Int32) → (Nat → Int32) → (Nat → Int32) → (Nat → Int32) → (Nat → Int32) → (Nat → Int32) → (Nat → Int32) → (Nat → Int64) → (Nat → Int64) → (Nat → Int32) → ng_AM) (rl : Nat → Int32) (sta : Nat → Int32) (sm : Nat → Int32) (par : Nat → Int32) (mv : Nat → Int32) (dep : Nat → Int32) (th : Nat → Int32) (bf : Nat → Int32) (row : Nat → Int32) (wid : Nat → Int32) (siz : Nat → Int32) (cel : Nat → Int64) (mvd : Nat → Int64) (ned : Nat → Int32) (r : (Nat → Int32) × (Nat → Int32) × (Nat → Int32) × Int32) : ng_RR := (some (.int (r.2.2.2)), hf (r.1) rl (r.2.1) sta sm par mv dep (r.2.2.1) th bf row wid siz cel mvd ned)
def f_X6_longest_91 (kk58 : (Nat → Int32) → (Nat → Int32) → (Nat → Int32) → (Nat → Int32) → Int32 → Int32 → Int32 → Int32 → Int32 → ((Nat → Int32) × (Nat → Int32) × (Nat → Int32) × Int32)) (F : Nat → Int32) (rl : Nat → Int32) (lg : Nat → Int32) (nwa : Nat → Int32) (v1 : Int32) (v2 : Int32) (v3 : Int32) (v4 : Int32) (v5 : Int32) : (Nat → Int32) × (Nat → Int32) × (Nat → Int32) × Int32 := kk58 F rl lg nwa v1 v2 v3 v4 (v5 + nI 1)
def s_X6_longest_91 (sk58 : (Nat → Int32) → (Nat → Int32) → (Nat → Int32) → (Nat → Int32) → Int32 → Int32 → Int32 → Int32 → Int32 → Prop) (F : Nat → Int32) (rl : Nat → Int32) (lg : Nat → Int32) (nwa : Nat → Int32) (v1 : Int32) (v2 : Int32) (v3 : Int32) (v4 : Int32) (v5 : Int32) : Prop := sk58 F rl lg nwa v1 v2 v3 v4 (v5 + nI 1)
set_option maxRecDepth 100000 in
set_option maxHeartbeats 4000000 in
theorem e_X6_longest_91 {G : ng_GG} {hf : (Nat → Int32) → (Nat → Int32) → (Nat → Int32) → (Nat → Int32) → (Nat → Int32) → (Nat → Int32) → (Nat → Int32) → (Nat → Int32) → (Nat → Int32) → (Nat → Int32) → (Nat → Int32) → (Nat → Int32) → (Nat → Int32) → (Nat → Int32) → (Nat → Int64) → (Nat → Int64) → (Nat → Int32) → ng_AM}  (V : ng_FL hf ) {F : Nat → Int32} {rl : Nat → Int32} {lg : Nat → Int32} {sta : Nat → Int32} {sm : Nat → Int32} {par : Nat → Int32} {mv : Nat → Int32} {dep : Nat → Int32} {nwa : Nat → Int32} {th : Nat → Int32} {bf : Nat → Int32} {row : Nat → Int32} {wid : Nat → Int32} {siz : Nat → Int32} {cel : Nat → Int64} {mvd : Nat → Int64} {ned : Nat → Int32} {kk58 : (Nat → Int32) → (Nat → Int32) → (Nat → Int32) → (Nat → Int32) → Int32 → Int32 → Int32 → Int32 → Int32 → ((Nat → Int32) × (Nat → Int32) × (Nat → Int32) × Int32)} {sk58 : (Nat → Int32) → (Nat → Int32) → (Nat → Int32) → (Nat → Int32) → Int32 → Int32 → Int32 → Int32 → Int32 → Prop} (hk58 : ∀ (F : Nat → Int32) (rl : Nat → Int32) (lg : Nat → Int32) (sta : Nat → Int32) (sm : Nat → Int32) (par : Nat → Int32) (mv : Nat → Int32) (dep : Nat → Int32) (nwa : Nat → Int32) (th : Nat → Int32) (bf : Nat → Int32) (row : Nat → Int32) (wid : Nat → Int32) (siz : Nat → Int32) (cel : Nat → Int64) (mvd : Nat → Int64) (ned : Nat → Int32) (v1 : Int32) (v2 : Int32) (v3 : Int32) (v4 : Int32) (v5 : Int32), sk58 F rl lg nwa v1 v2 v3 v4 v5 → ng_Ev G md_X6_longest 58 [some (.ref 28), some (.int v1), some (.int v2), some (.int v3), some (.int v4), some (.int v5)] [] (hf F rl lg sta sm par mv dep nwa th bf row wid siz cel mvd ned) (K_X6_longest hf rl sta sm par mv dep th bf row wid siz cel mvd ned (kk58 F rl lg nwa v1 v2 v3 v4 v5))) {v1 : Int32} {v2 : Int32} {v3 : Int32} {v4 : Int32} {v5 : Int32} (h : s_X6_longest_91 sk58 F rl lg nwa v1 v2 v3 v4 v5)  : ng_Ev G md_X6_longest 91 [some (.ref 28), some (.int v1), some (.int v2), some (.int v3), some (.int v4), some (.int v5)] [] (hf F rl lg sta sm par mv dep nwa th bf row wid siz cel mvd ned) (K_X6_longest hf rl sta sm par mv dep th bf row wid siz cel mvd ned (f_X6_longest_91 kk58 F rl lg nwa v1 v2 v3 v4 v5)) := by
  unfold s_X6_longest_91 at h
  unfold f_X6_longest_91
  refine ev_iinc (v := v5 + nI 1) (L' := [some (.ref 28), some (.int v1), some (.int v2), some (.int v3), some (.int v4), some (.int (v5 + nI 1))]) dX6_longest_91 rfl (by rfl) rfl ?_
  refine ev_goto (tgt := 58) dX6_longest_94 (by decide) ?_
  exact ev_sub (hk58 F rl lg sta sm par mv dep nwa th bf row wid siz cel mvd ned v1 v2 v3 v4 (v5 + nI 1) h) (sub_s (sub_s (sub_s (sub_s (sub_s (sub_s sub_e))))))
def f_X6_longest_83 (kk58 : (Nat → Int32) → (Nat → Int32) → (Nat → Int32) → (Nat → Int32) → Int32 → Int32 → Int32 → Int32 → Int32 → ((Nat → Int32) × (Nat → Int32) × (Nat → Int32) × Int32)) (F : Nat → Int32) (rl : Nat → Int32) (lg : Nat → Int32) (nwa : Nat → Int32) (v1 : Int32) (v2 : Int32) (v3 : Int32) (v4 : Int32) (v5 : Int32) : (Nat → Int32) × (Nat → Int32) × (Nat → Int32) × Int32 := f_X6_longest_91 kk58 ((f_X6_ticks nwa F lg).2.1) rl ((f_X6_ticks nwa F lg).2.2) ((f_X6_ticks nwa F lg).1) v1 v2 v3 v4 v5
def s_X6_longest_83 (sk58 : (Nat → Int32) → (Nat → Int32) → (Nat → Int32) → (Nat → Int32) → Int32 → Int32 → Int32 → Int32 → Int32 → Prop) (F : Nat → Int32) (rl : Nat → Int32) (lg : Nat → Int32) (nwa : Nat → Int32) (v1 : Int32) (v2 : Int32) (v3 : Int32) (v4 : Int32) (v5 : Int32) : Prop := (s_X6_ticks nwa F lg ∧ s_X6_longest_91 sk58 ((f_X6_ticks nwa F lg).2.1) rl ((f_X6_ticks nwa F lg).2.2) ((f_X6_ticks nwa F lg).1) v1 v2 v3 v4 v5)
set_option maxRecDepth 100000 in
set_option maxHeartbeats 4000000 in
theorem e_X6_longest_83 {G : ng_GG} {hf : (Nat → Int32) → (Nat → Int32) → (Nat → Int32) → (Nat → Int32) → (Nat → Int32) → (Nat → Int32) → (Nat → Int32) → (Nat → Int32) → (Nat → Int32) → (Nat → Int32) → (Nat → Int32) → (Nat → Int32) → (Nat → Int32) → (Nat → Int32) → (Nat → Int64) → (Nat → Int64) → (Nat → Int32) → ng_AM}  (V : ng_FL hf ) {F : Nat → Int32} {rl : Nat → Int32} {lg : Nat → Int32} {sta : Nat → Int32} {sm : Nat → Int32} {par : Nat → Int32} {mv : Nat → Int32} {dep : Nat → Int32} {nwa : Nat → Int32} {th : Nat → Int32} {bf : Nat → Int32} {row : Nat → Int32} {wid : Nat → Int32} {siz : Nat → Int32} {cel : Nat → Int64} {mvd : Nat → Int64} {ned : Nat → Int32} {kk58 : (Nat → Int32) → (Nat → Int32) → (Nat → Int32) → (Nat → Int32) → Int32 → Int32 → Int32 → Int32 → Int32 → ((Nat → Int32) × (Nat → Int32) × (Nat → Int32) × Int32)} {sk58 : (Nat → Int32) → (Nat → Int32) → (Nat → Int32) → (Nat → Int32) → Int32 → Int32 → Int32 → Int32 → Int32 → Prop} (hk58 : ∀ (F : Nat → Int32) (rl : Nat → Int32) (lg : Nat → Int32) (sta : Nat → Int32) (sm : Nat → Int32) (par : Nat → Int32) (mv : Nat → Int32) (dep : Nat → Int32) (nwa : Nat → Int32) (th : Nat → Int32) (bf : Nat → Int32) (row : Nat → Int32) (wid : Nat → Int32) (siz : Nat → Int32) (cel : Nat → Int64) (mvd : Nat → Int64) (ned : Nat → Int32) (v1 : Int32) (v2 : Int32) (v3 : Int32) (v4 : Int32) (v5 : Int32), sk58 F rl lg nwa v1 v2 v3 v4 v5 → ng_Ev G md_X6_longest 58 [some (.ref 28), some (.int v1), some (.int v2), some (.int v3), some (.int v4), some (.int v5)] [] (hf F rl lg sta sm par mv dep nwa th bf row wid siz cel mvd ned) (K_X6_longest hf rl sta sm par mv dep th bf row wid siz cel mvd ned (kk58 F rl lg nwa v1 v2 v3 v4 v5))) {v1 : Int32} {v2 : Int32} {v3 : Int32} {v4 : Int32} {v5 : Int32} (h : s_X6_longest_83 sk58 F rl lg nwa v1 v2 v3 v4 v5)  : ng_Ev G md_X6_longest 83 [some (.ref 28), some (.int v1), some (.int v2), some (.int v3), some (.int v4), some (.int v5)] [] (hf F rl lg sta sm par mv dep nwa th bf row wid siz cel mvd ned) (K_X6_longest hf rl sta sm par mv dep th bf row wid siz cel mvd ned (f_X6_longest_83 kk58 F rl lg nwa v1 v2 v3 v4 v5)) := by
  unfold s_X6_longest_83 at h
  unfold f_X6_longest_83
  refine ev_aload_n dX6_longest_83 rfl rfl rfl ?_
  refine ev_aload_n dX6_longest_84 rfl rfl rfl ?_
  refine ev_get 6 12 fl_RX6_32 (FL_g28 V) rfl dX6_longest_85 ?_
  have hs88 := h.1
  replace h := h.2
  refine bk_callV (As := [.ref 36]) (st := []) (st2 := []) (M2 := hf ((f_X6_ticks nwa F lg).2.1) rl ((f_X6_ticks nwa F lg).2.2) sta sm par mv dep ((f_X6_ticks nwa F lg).1) th bf row wid siz cel mvd ned) ok_X6_ticks lk_RX6_172 (ng_rok.of rfl rfl) (FL_g28 V) rfl rfl rfl rfl rfl rfl dX6_longest_88 (m_X6_ticks (FL_nwa V rl sta sm par mv dep th bf row wid siz cel mvd ned) hs88) rfl rfl ?_
  exact ev_sub (e_X6_longest_91 V hk58 h) (sub_s (sub_s (sub_s (sub_s (sub_s (sub_s sub_e))))))
def f_X6_longest_58  : Nat → (Nat → Int32) → (Nat → Int32) → (Nat → Int32) → (Nat → Int32) → Int32 → Int32 → Int32 → Int32 → Int32 → ((Nat → Int32) × (Nat → Int32) × (Nat → Int32) × Int32)
  | 0, F, _, lg, nwa, _, _, _, _, _ => (F, lg, nwa, 0)
  | n + 1, F, rl, lg, nwa, v1, v2, v3, v4, v5 => (if (nI 1100) < v5 then ((upd F 2 (nI 0)), lg, nwa, v4) else (if (f_X6_verdict nwa v2 v1 v3) = 0 then f_X6_longest_83 (f_X6_longest_58 n) F rl lg nwa v1 v2 v3 v5 v5 else f_X6_longest_83 (f_X6_longest_58 n) F rl lg nwa v1 v2 v3 v4 v5))
def s_X6_longest_58  : Nat → (Nat → Int32) → (Nat → Int32) → (Nat → Int32) → (Nat → Int32) → Int32 → Int32 → Int32 → Int32 → Int32 → Prop
  | 0, _, _, _, _, _, _, _, _, _ => False
  | n + 1, F, rl, lg, nwa, v1, v2, v3, v4, v5 => (¬ (nI 1100) < v5 → (s_X6_verdict nwa v2 v1 v3 ∧ (((f_X6_verdict nwa v2 v1 v3) = 0 → s_X6_longest_83 (s_X6_longest_58 n) F rl lg nwa v1 v2 v3 v5 v5) ∧ (¬ (f_X6_verdict nwa v2 v1 v3) = 0 → s_X6_longest_83 (s_X6_longest_58 n) F rl lg nwa v1 v2 v3 v4 v5))))
set_option maxRecDepth 100000 in
set_option maxHeartbeats 4000000 in
theorem e_X6_longest_58 {G : ng_GG} {hf : (Nat → Int32) → (Nat → Int32) → (Nat → Int32) → (Nat → Int32) → (Nat → Int32) → (Nat → Int32) → (Nat → Int32) → (Nat → Int32) → (Nat → Int32) → (Nat → Int32) → (Nat → Int32) → (Nat → Int32) → (Nat → Int32) → (Nat → Int32) → (Nat → Int64) → (Nat → Int64) → (Nat → Int32) → ng_AM}  (V : ng_FL hf )  : ∀ (n : Nat) (F : Nat → Int32) (rl : Nat → Int32) (lg : Nat → Int32) (sta : Nat → Int32) (sm : Nat → Int32) (par : Nat → Int32) (mv : Nat → Int32) (dep : Nat → Int32) (nwa : Nat → Int32) (th : Nat → Int32) (bf : Nat → Int32) (row : Nat → Int32) (wid : Nat → Int32) (siz : Nat → Int32) (cel : Nat → Int64) (mvd : Nat → Int64) (ned : Nat → Int32) (v1 : Int32) (v2 : Int32) (v3 : Int32) (v4 : Int32) (v5 : Int32), s_X6_longest_58  n F rl lg nwa v1 v2 v3 v4 v5 → ng_Ev G md_X6_longest 58 [some (.ref 28), some (.int v1), some (.int v2), some (.int v3), some (.int v4), some (.int v5)] [] (hf F rl lg sta sm par mv dep nwa th bf row wid siz cel mvd ned) (K_X6_longest hf rl sta sm par mv dep th bf row wid siz cel mvd ned (f_X6_longest_58  n F rl lg nwa v1 v2 v3 v4 v5)) := by
  intro n
  induction n with
  | zero => intro F rl lg sta sm par mv dep nwa th bf row wid siz cel mvd ned v1 v2 v3 v4 v5 h; exact False.elim h
  | succ n ih =>
    intro F rl lg sta sm par mv dep nwa th bf row wid siz cel mvd ned v1 v2 v3 v4 v5 h 
    rw [s_X6_longest_58] at h
    rw [f_X6_longest_58]
    refine ev_iload dX6_longest_58 rfl ?_
    refine ev_sipush (v := nI 1100) dX6_longest_60 (by decide) ?_
    refine bk_icmp_gt (tgt := 97) dX6_longest_63 (by decide) (fun c63 => ?_) (fun c63 => ?_)
    · refine ev_aload_n dX6_longest_97 rfl rfl rfl ?_
      refine ev_iconst (v := nI 0) dX6_longest_98 (by decide) ?_
      refine ev_put 6 2 fs_RX6_95 (FL_g28 V) (ng_lt rfl) rfl (FL_s28 V (F' := (upd F 2 (nI 0)))) ng_fit_0 dX6_longest_99 ?_
      refine ev_iload dX6_longest_102 rfl ?_
      exact ev_iret rfl rfl dX6_longest_104
    · replace h := h c63
      refine ev_aload_n dX6_longest_66 rfl rfl rfl ?_
      refine ev_get 6 12 fl_RX6_32 (FL_g28 V) rfl dX6_longest_67 ?_
      refine ev_iload_n dX6_longest_70 rfl rfl ?_
      refine ev_iload_n dX6_longest_71 rfl rfl ?_
      refine ev_iload_n dX6_longest_72 rfl rfl ?_
      have hs73 := h.1
      replace h := h.2
      refine bk_callS (As := [.ref 36, .int v2, .int v1, .int v3]) (st := []) (st2 := [.int (f_X6_verdict nwa v2 v1 v3)]) (M2 := hf F rl lg sta sm par mv dep nwa th bf row wid siz cel mvd ned) ok_X6_verdict lk_RX6_121 (ng_rok.of rfl rfl) rfl rfl rfl rfl dX6_longest_73 (m_X6_verdict (FL_Rnwa V) hs73) rfl rfl ?_
      refine bk_if_ne (tgt := 83) dX6_longest_76 (by decide) (fun c76 => ?_) (fun c76 => ?_)
      · replace h := h.2 c76
        exact ev_sub (e_X6_longest_83 V ih h) (sub_s (sub_s (sub_s (sub_s (sub_s (sub_s sub_e))))))
      · replace h := h.1 c76
        refine ev_iload dX6_longest_79 rfl ?_
        refine ev_istore (L' := [some (.ref 28), some (.int v1), some (.int v2), some (.int v3), some (.int v5), some (.int v5)]) dX6_longest_81 (ng_lt rfl) rfl ?_
        exact ev_sub (e_X6_longest_83 V ih h) (sub_s (sub_s (sub_s (sub_s (sub_s (sub_s sub_e))))))
def f_X6_longest_52  (F : Nat → Int32) (rl : Nat → Int32) (lg : Nat → Int32) (nwa : Nat → Int32) (v1 : Int32) (v2 : Int32) (v3 : Int32) : (Nat → Int32) × (Nat → Int32) × (Nat → Int32) × Int32 := f_X6_longest_58 ng_F F rl lg nwa v1 v2 v3 (-1) (nI 0)
def s_X6_longest_52  (F : Nat → Int32) (rl : Nat → Int32) (lg : Nat → Int32) (nwa : Nat → Int32) (v1 : Int32) (v2 : Int32) (v3 : Int32) : Prop := s_X6_longest_58 ng_F F rl lg nwa v1 v2 v3 (-1) (nI 0)
set_option maxRecDepth 100000 in
set_option maxHeartbeats 4000000 in
theorem e_X6_longest_52 {G : ng_GG} {hf : (Nat → Int32) → (Nat → Int32) → (Nat → Int32) → (Nat → Int32) → (Nat → Int32) → (Nat → Int32) → (Nat → Int32) → (Nat → Int32) → (Nat → Int32) → (Nat → Int32) → (Nat → Int32) → (Nat → Int32) → (Nat → Int32) → (Nat → Int32) → (Nat → Int64) → (Nat → Int64) → (Nat → Int32) → ng_AM}  (V : ng_FL hf ) {F : Nat → Int32} {rl : Nat → Int32} {lg : Nat → Int32} {sta : Nat → Int32} {sm : Nat → Int32} {par : Nat → Int32} {mv : Nat → Int32} {dep : Nat → Int32} {nwa : Nat → Int32} {th : Nat → Int32} {bf : Nat → Int32} {row : Nat → Int32} {wid : Nat → Int32} {siz : Nat → Int32} {cel : Nat → Int64} {mvd : Nat → Int64} {ned : Nat → Int32}  {v1 : Int32} {v2 : Int32} {v3 : Int32} (h : s_X6_longest_52  F rl lg nwa v1 v2 v3)  : ng_Ev G md_X6_longest 52 [some (.ref 28), some (.int v1), some (.int v2), some (.int v3), none, none] [] (hf F rl lg sta sm par mv dep nwa th bf row wid siz cel mvd ned) (K_X6_longest hf rl sta sm par mv dep th bf row wid siz cel mvd ned (f_X6_longest_52  F rl lg nwa v1 v2 v3)) := by
  unfold s_X6_longest_52 at h
  unfold f_X6_longest_52
  refine ev_iconst (v := (-1)) dX6_longest_52 (by decide) ?_
  refine ev_istore (L' := [some (.ref 28), some (.int v1), some (.int v2), some (.int v3), some (.int (-1)), none]) dX6_longest_53 (ng_lt rfl) rfl ?_
  refine ev_iconst (v := nI 0) dX6_longest_55 (by decide) ?_
  refine ev_istore (L' := [some (.ref 28), some (.int v1), some (.int v2), some (.int v3), some (.int (-1)), some (.int (nI 0))]) dX6_longest_56 (ng_lt rfl) rfl ?_
  exact ev_sub (e_X6_longest_58 V ng_F F rl lg sta sm par mv dep nwa th bf row wid siz cel mvd ned v1 v2 v3 (-1) (nI 0) h) (sub_s (sub_s (sub_s (sub_s (sub_s (sub_s sub_e))))))
def f_X6_longest  (F : Nat → Int32) (rl : Nat → Int32) (lg : Nat → Int32) (nwa : Nat → Int32) (v1 : Int32) (v2 : Int32) (v3 : Int32) : (Nat → Int32) × (Nat → Int32) × (Nat → Int32) × Int32 := (if (f_X6_isNote rl v1) = 0 then ((upd F 0 (nI 0)), lg, nwa, (-2)) else (if (f_X6_isHouse rl v2) = 0 then ((upd F 0 (nI 0)), lg, nwa, (-2)) else (if (f_X6_in v3 (nI 0) (nI 7)) = 0 then ((upd F 0 (nI 0)), lg, nwa, (-2)) else f_X6_longest_52 (upd (upd F 0 (nI 0)) 2 (nI 1)) rl lg (f_X6_copy_ rl nwa 527 527 (nI 0) (nI 0)) v1 v2 v3)))
def s_X6_longest  (F : Nat → Int32) (rl : Nat → Int32) (lg : Nat → Int32) (nwa : Nat → Int32) (v1 : Int32) (v2 : Int32) (v3 : Int32) : Prop := (s_X6_isNote rl v1 ∧ (¬ (f_X6_isNote rl v1) = 0 → (s_X6_isHouse rl v2 ∧ (¬ (f_X6_isHouse rl v2) = 0 → (¬ (f_X6_in v3 (nI 0) (nI 7)) = 0 → (s_X6_copy_ rl nwa 527 527 (nI 0) (nI 0) ∧ s_X6_longest_52 (upd (upd F 0 (nI 0)) 2 (nI 1)) rl lg (f_X6_copy_ rl nwa 527 527 (nI 0) (nI 0)) v1 v2 v3))))))
set_option maxRecDepth 100000 in
set_option maxHeartbeats 4000000 in
theorem e_X6_longest {G : ng_GG} {hf : (Nat → Int32) → (Nat → Int32) → (Nat → Int32) → (Nat → Int32) → (Nat → Int32) → (Nat → Int32) → (Nat → Int32) → (Nat → Int32) → (Nat → Int32) → (Nat → Int32) → (Nat → Int32) → (Nat → Int32) → (Nat → Int32) → (Nat → Int32) → (Nat → Int64) → (Nat → Int64) → (Nat → Int32) → ng_AM}  (V : ng_FL hf ) {F : Nat → Int32} {rl : Nat → Int32} {lg : Nat → Int32} {sta : Nat → Int32} {sm : Nat → Int32} {par : Nat → Int32} {mv : Nat → Int32} {dep : Nat → Int32} {nwa : Nat → Int32} {th : Nat → Int32} {bf : Nat → Int32} {row : Nat → Int32} {wid : Nat → Int32} {siz : Nat → Int32} {cel : Nat → Int64} {mvd : Nat → Int64} {ned : Nat → Int32}  {v1 : Int32} {v2 : Int32} {v3 : Int32} (h : s_X6_longest  F rl lg nwa v1 v2 v3)  : ng_Ev G md_X6_longest 0 [some (.ref 28), some (.int v1), some (.int v2), some (.int v3), none, none] [] (hf F rl lg sta sm par mv dep nwa th bf row wid siz cel mvd ned) (K_X6_longest hf rl sta sm par mv dep th bf row wid siz cel mvd ned (f_X6_longest  F rl lg nwa v1 v2 v3)) := by
  unfold s_X6_longest at h
  unfold f_X6_longest
  refine ev_aload_n dX6_longest_0 rfl rfl rfl ?_
  refine ev_iconst (v := nI 0) dX6_longest_1 (by decide) ?_
  refine ev_put 6 0 fs_RX6_64 (FL_g28 V) (ng_lt rfl) rfl (FL_s28 V (F' := (upd F 0 (nI 0)))) (ng_fit_i _) dX6_longest_2 ?_
  refine ev_aload_n dX6_longest_5 rfl rfl rfl ?_
  refine ev_iload_n dX6_longest_6 rfl rfl ?_
  have hs7 := h.1
  replace h := h.2
  refine bk_callV (As := [.int v1]) (st := []) (st2 := [.int (f_X6_isNote rl v1)]) (M2 := hf (upd F 0 (nI 0)) rl lg sta sm par mv dep nwa th bf row wid siz cel mvd ned) ok_X6_isNote lk_RX6_162 (ng_rok.of rfl rfl) (FL_g28 V) rfl rfl rfl rfl rfl rfl dX6_longest_7 (m_X6_isNote V hs7) rfl rfl ?_
  refine bk_if_eq (tgt := 31) dX6_longest_10 (by decide) (fun c10 => ?_) (fun c10 => ?_)
  · refine ev_bipush (v := (-2)) dX6_longest_31 (by decide) ?_
    exact ev_iret rfl rfl dX6_longest_33
  · replace h := h c10
    refine ev_aload_n dX6_longest_13 rfl rfl rfl ?_
    refine ev_iload_n dX6_longest_14 rfl rfl ?_
    have hs15 := h.1
    replace h := h.2
    refine bk_callV (As := [.int v2]) (st := []) (st2 := [.int (f_X6_isHouse rl v2)]) (M2 := hf (upd F 0 (nI 0)) rl lg sta sm par mv dep nwa th bf row wid siz cel mvd ned) ok_X6_isHouse lk_RX6_78 (ng_rok.of rfl rfl) (FL_g28 V) rfl rfl rfl rfl rfl rfl dX6_longest_15 (m_X6_isHouse V hs15) rfl rfl ?_
    refine bk_if_eq (tgt := 31) dX6_longest_18 (by decide) (fun c18 => ?_) (fun c18 => ?_)
    · refine ev_bipush (v := (-2)) dX6_longest_31 (by decide) ?_
      exact ev_iret rfl rfl dX6_longest_33
    · replace h := h c18
      refine ev_iload_n dX6_longest_21 rfl rfl ?_
      refine ev_iconst (v := nI 0) dX6_longest_22 (by decide) ?_
      refine ev_bipush (v := nI 7) dX6_longest_23 (by decide) ?_
      refine bk_callS (As := [.int v3, .int (nI 0), .int (nI 7)]) (st := []) (st2 := [.int (f_X6_in v3 (nI 0) (nI 7))]) (M2 := hf (upd F 0 (nI 0)) rl lg sta sm par mv dep nwa th bf row wid siz cel mvd ned) ok_X6_in lk_RX6_67 (ng_rok.of rfl rfl) rfl rfl rfl rfl dX6_longest_25 (m_X6_in trivial) rfl rfl ?_
      refine bk_if_ne (tgt := 34) dX6_longest_28 (by decide) (fun c28 => ?_) (fun c28 => ?_)
      · replace h := h c28
        refine ev_aload_n dX6_longest_34 rfl rfl rfl ?_
        refine ev_iconst (v := nI 1) dX6_longest_35 (by decide) ?_
        refine ev_put 6 2 fs_RX6_95 (FL_g28 V) (ng_lt rfl) rfl (FL_s28 V (F' := (upd (upd F 0 (nI 0)) 2 (nI 1)))) ng_fit_1 dX6_longest_36 ?_
        refine ev_aload_n dX6_longest_39 rfl rfl rfl ?_
        refine ev_get 6 1 fl_RX6_9 (FL_g28 V) rfl dX6_longest_40 ?_
        refine ev_iconst (v := nI 0) dX6_longest_43 (by decide) ?_
        refine ev_aload_n dX6_longest_44 rfl rfl rfl ?_
        refine ev_get 6 12 fl_RX6_32 (FL_g28 V) rfl dX6_longest_45 ?_
        refine ev_iconst (v := nI 0) dX6_longest_48 (by decide) ?_
        have hs49 := h.1
        replace h := h.2
        refine bk_callS (As := [.ref 29, .int (nI 0), .ref 36, .int (nI 0)]) (st := []) (st2 := []) (M2 := hf (upd (upd F 0 (nI 0)) 2 (nI 1)) rl lg sta sm par mv dep (f_X6_copy_ rl nwa 527 527 (nI 0) (nI 0)) th bf row wid siz cel mvd ned) ok_X6_copy_ lk_RX6_182 (ng_rok.of rfl rfl) rfl rfl rfl rfl dX6_longest_49 (m_X6_copy_ (show ng_CL (fun fr fo => hf (upd (upd F 0 (nI 0)) 2 (nI 1)) fr lg sta sm par mv dep fo th bf row wid siz cel mvd ned) 29 36 527 527 from ⟨fun _ _ => FL_g29 V, fun _ _ => FL_g36 V, fun _ _ _ => FL_s36 V⟩) hs49) rfl rfl ?_
        exact ev_sub (e_X6_longest_52 V h) (sub_s (sub_s (sub_s (sub_s (sub_n (sub_n sub_e))))))
      · refine ev_bipush (v := (-2)) dX6_longest_31 (by decide) ?_
        exact ev_iret rfl rfl dX6_longest_33
theorem m_X6_longest {G : ng_GG} {hf : (Nat → Int32) → (Nat → Int32) → (Nat → Int32) → (Nat → Int32) → (Nat → Int32) → (Nat → Int32) → (Nat → Int32) → (Nat → Int32) → (Nat → Int32) → (Nat → Int32) → (Nat → Int32) → (Nat → Int32) → (Nat → Int32) → (Nat → Int32) → (Nat → Int64) → (Nat → Int64) → (Nat → Int32) → ng_AM}  (V : ng_FL hf ) {F : Nat → Int32} {rl : Nat → Int32} {lg : Nat → Int32} {sta : Nat → Int32} {sm : Nat → Int32} {par : Nat → Int32} {mv : Nat → Int32} {dep : Nat → Int32} {nwa : Nat → Int32} {th : Nat → Int32} {bf : Nat → Int32} {row : Nat → Int32} {wid : Nat → Int32} {siz : Nat → Int32} {cel : Nat → Int64} {mvd : Nat → Int64} {ned : Nat → Int32} {v1 : Int32} {v2 : Int32} {v3 : Int32} (h : s_X6_longest F rl lg nwa v1 v2 v3)  : ng_Ev G md_X6_longest 0 (ng_en 6 [.ref 28, .int v1, .int v2, .int v3]) [] (hf F rl lg sta sm par mv dep nwa th bf row wid siz cel mvd ned) (K_X6_longest hf rl sta sm par mv dep th bf row wid siz cel mvd ned (f_X6_longest F rl lg nwa v1 v2 v3)) := e_X6_longest V h 
def K_X6_note_ (hf : (Nat → Int32) → (Nat → Int32) → (Nat → Int32) → (Nat → Int32) → (Nat → Int32) → (Nat → Int32) → (Nat → Int32) → (Nat → Int32) → (Nat → Int32) → (Nat → Int32) → (Nat → Int32) → (Nat → Int32) → (Nat → Int32) → (Nat → Int32) → (Nat → Int64) → (Nat → Int64) → (Nat → Int32) → ng_AM) (rl : Nat → Int32) (lg : Nat → Int32) (sta : Nat → Int32) (sm : Nat → Int32) (par : Nat → Int32) (mv : Nat → Int32) (dep : Nat → Int32) (nwa : Nat → Int32) (th : Nat → Int32) (bf : Nat → Int32) (row : Nat → Int32) (wid : Nat → Int32) (siz : Nat → Int32) (cel : Nat → Int64) (mvd : Nat → Int64) (ned : Nat → Int32) (r : (Nat → Int32) × Int32) : ng_RR := (some (.int (r.2)), hf (r.1) rl lg sta sm par mv dep nwa th bf row wid siz cel mvd ned)
def f_X6_note_  (F : Nat → Int32) (rl : Nat → Int32) (v1 : Int32) (v2 : Int32) : (Nat → Int32) × Int32 := (if (f_X6_isNote rl v1) = 0 then ((upd F 0 (nI 0)), (-2)) else (if (f_X6_in v2 (nI 0) (nI 10)) = 0 then ((upd F 0 (nI 0)), (-2)) else ((upd F 0 (nI 0)), (rl ((f_X6_note v1) + v2).toNatClampNeg))))
def s_X6_note_  (F : Nat → Int32) (rl : Nat → Int32) (v1 : Int32) (v2 : Int32) : Prop := (s_X6_isNote rl v1 ∧ (¬ (f_X6_isNote rl v1) = 0 → (¬ (f_X6_in v2 (nI 0) (nI 10)) = 0 → vp_in ((f_X6_note v1) + v2) 527)))
set_option maxRecDepth 100000 in
set_option maxHeartbeats 4000000 in
theorem e_X6_note_ {G : ng_GG} {hf : (Nat → Int32) → (Nat → Int32) → (Nat → Int32) → (Nat → Int32) → (Nat → Int32) → (Nat → Int32) → (Nat → Int32) → (Nat → Int32) → (Nat → Int32) → (Nat → Int32) → (Nat → Int32) → (Nat → Int32) → (Nat → Int32) → (Nat → Int32) → (Nat → Int64) → (Nat → Int64) → (Nat → Int32) → ng_AM}  (V : ng_FL hf ) {F : Nat → Int32} {rl : Nat → Int32} {lg : Nat → Int32} {sta : Nat → Int32} {sm : Nat → Int32} {par : Nat → Int32} {mv : Nat → Int32} {dep : Nat → Int32} {nwa : Nat → Int32} {th : Nat → Int32} {bf : Nat → Int32} {row : Nat → Int32} {wid : Nat → Int32} {siz : Nat → Int32} {cel : Nat → Int64} {mvd : Nat → Int64} {ned : Nat → Int32}  {v1 : Int32} {v2 : Int32} (h : s_X6_note_  F rl v1 v2)  : ng_Ev G md_X6_note_ 0 [some (.ref 28), some (.int v1), some (.int v2)] [] (hf F rl lg sta sm par mv dep nwa th bf row wid siz cel mvd ned) (K_X6_note_ hf rl lg sta sm par mv dep nwa th bf row wid siz cel mvd ned (f_X6_note_  F rl v1 v2)) := by
  unfold s_X6_note_ at h
  unfold f_X6_note_
  refine ev_aload_n dX6_note__0 rfl rfl rfl ?_
  refine ev_iconst (v := nI 0) dX6_note__1 (by decide) ?_
  refine ev_put 6 0 fs_RX6_64 (FL_g28 V) (ng_lt rfl) rfl (FL_s28 V (F' := (upd F 0 (nI 0)))) (ng_fit_i _) dX6_note__2 ?_
  refine ev_aload_n dX6_note__5 rfl rfl rfl ?_
  refine ev_iload_n dX6_note__6 rfl rfl ?_
  have hs7 := h.1
  replace h := h.2
  refine bk_callV (As := [.int v1]) (st := []) (st2 := [.int (f_X6_isNote rl v1)]) (M2 := hf (upd F 0 (nI 0)) rl lg sta sm par mv dep nwa th bf row wid siz cel mvd ned) ok_X6_isNote lk_RX6_162 (ng_rok.of rfl rfl) (FL_g28 V) rfl rfl rfl rfl rfl rfl dX6_note__7 (m_X6_isNote V hs7) rfl rfl ?_
  refine bk_if_eq (tgt := 37) dX6_note__10 (by decide) (fun c10 => ?_) (fun c10 => ?_)
  · refine ev_bipush (v := (-2)) dX6_note__37 (by decide) ?_
    exact ev_iret rfl rfl dX6_note__39
  · replace h := h c10
    refine ev_iload_n dX6_note__13 rfl rfl ?_
    refine ev_iconst (v := nI 0) dX6_note__14 (by decide) ?_
    refine ev_bipush (v := nI 10) dX6_note__15 (by decide) ?_
    refine bk_callS (As := [.int v2, .int (nI 0), .int (nI 10)]) (st := []) (st2 := [.int (f_X6_in v2 (nI 0) (nI 10))]) (M2 := hf (upd F 0 (nI 0)) rl lg sta sm par mv dep nwa th bf row wid siz cel mvd ned) ok_X6_in lk_RX6_67 (ng_rok.of rfl rfl) rfl rfl rfl rfl dX6_note__17 (m_X6_in trivial) rfl rfl ?_
    refine bk_if_eq (tgt := 37) dX6_note__20 (by decide) (fun c20 => ?_) (fun c20 => ?_)
    · refine ev_bipush (v := (-2)) dX6_note__37 (by decide) ?_
      exact ev_iret rfl rfl dX6_note__39
    · replace h := h c20
      refine ev_aload_n dX6_note__23 rfl rfl rfl ?_
      refine ev_get 6 1 fl_RX6_9 (FL_g28 V) rfl dX6_note__24 ?_
      refine ev_iload_n dX6_note__27 rfl rfl ?_
      refine bk_callS (As := [.int v1]) (st := [.ref 29]) (st2 := [.int (f_X6_note v1), .ref 29]) (M2 := hf (upd F 0 (nI 0)) rl lg sta sm par mv dep nwa th bf row wid siz cel mvd ned) ok_X6_note lk_RX6_71 (ng_rok.of rfl rfl) rfl rfl rfl rfl dX6_note__28 (m_X6_note trivial) rfl rfl ?_
      refine ev_iload_n dX6_note__31 rfl rfl ?_
      refine ev_iadd dX6_note__32 ?_
      have hi33 := h
      refine ev_iald (FL_g29 V) hi33 dX6_note__33 ?_
      refine ev_goto (tgt := 39) dX6_note__34 (by decide) ?_
      exact ev_iret rfl rfl dX6_note__39
theorem m_X6_note_ {G : ng_GG} {hf : (Nat → Int32) → (Nat → Int32) → (Nat → Int32) → (Nat → Int32) → (Nat → Int32) → (Nat → Int32) → (Nat → Int32) → (Nat → Int32) → (Nat → Int32) → (Nat → Int32) → (Nat → Int32) → (Nat → Int32) → (Nat → Int32) → (Nat → Int32) → (Nat → Int64) → (Nat → Int64) → (Nat → Int32) → ng_AM}  (V : ng_FL hf ) {F : Nat → Int32} {rl : Nat → Int32} {lg : Nat → Int32} {sta : Nat → Int32} {sm : Nat → Int32} {par : Nat → Int32} {mv : Nat → Int32} {dep : Nat → Int32} {nwa : Nat → Int32} {th : Nat → Int32} {bf : Nat → Int32} {row : Nat → Int32} {wid : Nat → Int32} {siz : Nat → Int32} {cel : Nat → Int64} {mvd : Nat → Int64} {ned : Nat → Int32} {v1 : Int32} {v2 : Int32} (h : s_X6_note_ F rl v1 v2)  : ng_Ev G md_X6_note_ 0 (ng_en 3 [.ref 28, .int v1, .int v2]) [] (hf F rl lg sta sm par mv dep nwa th bf row wid siz cel mvd ned) (K_X6_note_ hf rl lg sta sm par mv dep nwa th bf row wid siz cel mvd ned (f_X6_note_ F rl v1 v2)) := e_X6_note_ V h 
def K_X6_letter_ (hf : (Nat → Int32) → (Nat → Int32) → (Nat → Int32) → (Nat → Int32) → (Nat → Int32) → (Nat → Int32) → (Nat → Int32) → (Nat → Int32) → (Nat → Int32) → (Nat → Int32) → (Nat → Int32) → (Nat → Int32) → (Nat → Int32) → (Nat → Int32) → (Nat → Int64) → (Nat → Int64) → (Nat → Int32) → ng_AM) (rl : Nat → Int32) (lg : Nat → Int32) (sta : Nat → Int32) (sm : Nat → Int32) (par : Nat → Int32) (mv : Nat → Int32) (dep : Nat → Int32) (nwa : Nat → Int32) (th : Nat → Int32) (bf : Nat → Int32) (row : Nat → Int32) (wid : Nat → Int32) (siz : Nat → Int32) (cel : Nat → Int64) (mvd : Nat → Int64) (ned : Nat → Int32) (r : (Nat → Int32) × Int32) : ng_RR := (some (.int (r.2)), hf (r.1) rl lg sta sm par mv dep nwa th bf row wid siz cel mvd ned)
def f_X6_letter_  (F : Nat → Int32) (rl : Nat → Int32) (v1 : Int32) (v2 : Int32) : (Nat → Int32) × Int32 := (if (f_X6_in v1 (nI 0) ((rl (nI 14).toNatClampNeg) - (nI 1))) = 0 then ((upd F 0 (nI 0)), (-2)) else (if (f_X6_in v2 (nI 0) (nI 6)) = 0 then ((upd F 0 (nI 0)), (-2)) else ((upd F 0 (nI 0)), (rl ((f_X6_letter v1) + v2).toNatClampNeg))))
def s_X6_letter_  (F : Nat → Int32) (rl : Nat → Int32) (v1 : Int32) (v2 : Int32) : Prop := (¬ (f_X6_in v1 (nI 0) ((rl (nI 14).toNatClampNeg) - (nI 1))) = 0 → (¬ (f_X6_in v2 (nI 0) (nI 6)) = 0 → vp_in ((f_X6_letter v1) + v2) 527))
set_option maxRecDepth 100000 in
set_option maxHeartbeats 4000000 in
theorem e_X6_letter_ {G : ng_GG} {hf : (Nat → Int32) → (Nat → Int32) → (Nat → Int32) → (Nat → Int32) → (Nat → Int32) → (Nat → Int32) → (Nat → Int32) → (Nat → Int32) → (Nat → Int32) → (Nat → Int32) → (Nat → Int32) → (Nat → Int32) → (Nat → Int32) → (Nat → Int32) → (Nat → Int64) → (Nat → Int64) → (Nat → Int32) → ng_AM}  (V : ng_FL hf ) {F : Nat → Int32} {rl : Nat → Int32} {lg : Nat → Int32} {sta : Nat → Int32} {sm : Nat → Int32} {par : Nat → Int32} {mv : Nat → Int32} {dep : Nat → Int32} {nwa : Nat → Int32} {th : Nat → Int32} {bf : Nat → Int32} {row : Nat → Int32} {wid : Nat → Int32} {siz : Nat → Int32} {cel : Nat → Int64} {mvd : Nat → Int64} {ned : Nat → Int32}  {v1 : Int32} {v2 : Int32} (h : s_X6_letter_  F rl v1 v2)  : ng_Ev G md_X6_letter_ 0 [some (.ref 28), some (.int v1), some (.int v2)] [] (hf F rl lg sta sm par mv dep nwa th bf row wid siz cel mvd ned) (K_X6_letter_ hf rl lg sta sm par mv dep nwa th bf row wid siz cel mvd ned (f_X6_letter_  F rl v1 v2)) := by
  unfold s_X6_letter_ at h
  unfold f_X6_letter_
  refine ev_aload_n dX6_letter__0 rfl rfl rfl ?_
  refine ev_iconst (v := nI 0) dX6_letter__1 (by decide) ?_
  refine ev_put 6 0 fs_RX6_64 (FL_g28 V) (ng_lt rfl) rfl (FL_s28 V (F' := (upd F 0 (nI 0)))) (ng_fit_i _) dX6_letter__2 ?_
  refine ev_iload_n dX6_letter__5 rfl rfl ?_
  refine ev_iconst (v := nI 0) dX6_letter__6 (by decide) ?_
  refine ev_aload_n dX6_letter__7 rfl rfl rfl ?_
  refine ev_get 6 1 fl_RX6_9 (FL_g28 V) rfl dX6_letter__8 ?_
  refine ev_bipush (v := nI 14) dX6_letter__11 (by decide) ?_
  refine ev_iald (FL_g29 V) (vp_in_nI (by decide) (by decide)) dX6_letter__13 ?_
  refine ev_iconst (v := nI 1) dX6_letter__14 (by decide) ?_
  refine ev_isub dX6_letter__15 ?_
  refine bk_callS (As := [.int v1, .int (nI 0), .int ((rl (nI 14).toNatClampNeg) - (nI 1))]) (st := []) (st2 := [.int (f_X6_in v1 (nI 0) ((rl (nI 14).toNatClampNeg) - (nI 1)))]) (M2 := hf (upd F 0 (nI 0)) rl lg sta sm par mv dep nwa th bf row wid siz cel mvd ned) ok_X6_in lk_RX6_67 (ng_rok.of rfl rfl) rfl rfl rfl rfl dX6_letter__16 (m_X6_in trivial) rfl rfl ?_
  refine bk_if_eq (tgt := 46) dX6_letter__19 (by decide) (fun c19 => ?_) (fun c19 => ?_)
  · refine ev_bipush (v := (-2)) dX6_letter__46 (by decide) ?_
    exact ev_iret rfl rfl dX6_letter__48
  · replace h := h c19
    refine ev_iload_n dX6_letter__22 rfl rfl ?_
    refine ev_iconst (v := nI 0) dX6_letter__23 (by decide) ?_
    refine ev_bipush (v := nI 6) dX6_letter__24 (by decide) ?_
    refine bk_callS (As := [.int v2, .int (nI 0), .int (nI 6)]) (st := []) (st2 := [.int (f_X6_in v2 (nI 0) (nI 6))]) (M2 := hf (upd F 0 (nI 0)) rl lg sta sm par mv dep nwa th bf row wid siz cel mvd ned) ok_X6_in lk_RX6_67 (ng_rok.of rfl rfl) rfl rfl rfl rfl dX6_letter__26 (m_X6_in trivial) rfl rfl ?_
    refine bk_if_eq (tgt := 46) dX6_letter__29 (by decide) (fun c29 => ?_) (fun c29 => ?_)
    · refine ev_bipush (v := (-2)) dX6_letter__46 (by decide) ?_
      exact ev_iret rfl rfl dX6_letter__48
    · replace h := h c29
      refine ev_aload_n dX6_letter__32 rfl rfl rfl ?_
      refine ev_get 6 1 fl_RX6_9 (FL_g28 V) rfl dX6_letter__33 ?_
      refine ev_iload_n dX6_letter__36 rfl rfl ?_
      refine bk_callS (As := [.int v1]) (st := [.ref 29]) (st2 := [.int (f_X6_letter v1), .ref 29]) (M2 := hf (upd F 0 (nI 0)) rl lg sta sm par mv dep nwa th bf row wid siz cel mvd ned) ok_X6_letter lk_RX6_99 (ng_rok.of rfl rfl) rfl rfl rfl rfl dX6_letter__37 (m_X6_letter trivial) rfl rfl ?_
      refine ev_iload_n dX6_letter__40 rfl rfl ?_
      refine ev_iadd dX6_letter__41 ?_
      have hi42 := h
      refine ev_iald (FL_g29 V) hi42 dX6_letter__42 ?_
      refine ev_goto (tgt := 48) dX6_letter__43 (by decide) ?_
      exact ev_iret rfl rfl dX6_letter__48
theorem m_X6_letter_ {G : ng_GG} {hf : (Nat → Int32) → (Nat → Int32) → (Nat → Int32) → (Nat → Int32) → (Nat → Int32) → (Nat → Int32) → (Nat → Int32) → (Nat → Int32) → (Nat → Int32) → (Nat → Int32) → (Nat → Int32) → (Nat → Int32) → (Nat → Int32) → (Nat → Int32) → (Nat → Int64) → (Nat → Int64) → (Nat → Int32) → ng_AM}  (V : ng_FL hf ) {F : Nat → Int32} {rl : Nat → Int32} {lg : Nat → Int32} {sta : Nat → Int32} {sm : Nat → Int32} {par : Nat → Int32} {mv : Nat → Int32} {dep : Nat → Int32} {nwa : Nat → Int32} {th : Nat → Int32} {bf : Nat → Int32} {row : Nat → Int32} {wid : Nat → Int32} {siz : Nat → Int32} {cel : Nat → Int64} {mvd : Nat → Int64} {ned : Nat → Int32} {v1 : Int32} {v2 : Int32} (h : s_X6_letter_ F rl v1 v2)  : ng_Ev G md_X6_letter_ 0 (ng_en 3 [.ref 28, .int v1, .int v2]) [] (hf F rl lg sta sm par mv dep nwa th bf row wid siz cel mvd ned) (K_X6_letter_ hf rl lg sta sm par mv dep nwa th bf row wid siz cel mvd ned (f_X6_letter_ F rl v1 v2)) := e_X6_letter_ V h 
def K_X6_family_ (hf : (Nat → Int32) → (Nat → Int32) → (Nat → Int32) → (Nat → Int32) → (Nat → Int32) → (Nat → Int32) → (Nat → Int32) → (Nat → Int32) → (Nat → Int32) → (Nat → Int32) → (Nat → Int32) → (Nat → Int32) → (Nat → Int32) → (Nat → Int32) → (Nat → Int64) → (Nat → Int64) → (Nat → Int32) → ng_AM) (rl : Nat → Int32) (lg : Nat → Int32) (sta : Nat → Int32) (sm : Nat → Int32) (par : Nat → Int32) (mv : Nat → Int32) (dep : Nat → Int32) (nwa : Nat → Int32) (th : Nat → Int32) (bf : Nat → Int32) (row : Nat → Int32) (wid : Nat → Int32) (siz : Nat → Int32) (cel : Nat → Int64) (mvd : Nat → Int64) (ned : Nat → Int32) (r : (Nat → Int32) × Int32) : ng_RR := (some (.int (r.2)), hf (r.1) rl lg sta sm par mv dep nwa th bf row wid siz cel mvd ned)
def f_X6_family_  (F : Nat → Int32) (rl : Nat → Int32) (v1 : Int32) (v2 : Int32) : (Nat → Int32) × Int32 := (if (f_X6_in v1 (nI 0) ((rl (nI 13).toNatClampNeg) - (nI 1))) = 0 then ((upd F 0 (nI 0)), (-2)) else (if (f_X6_in v2 (nI 0) (nI 1)) = 0 then ((upd F 0 (nI 0)), (-2)) else ((upd F 0 (nI 0)), (rl ((f_X6_family v1) + v2).toNatClampNeg))))
def s_X6_family_  (F : Nat → Int32) (rl : Nat → Int32) (v1 : Int32) (v2 : Int32) : Prop := (¬ (f_X6_in v1 (nI 0) ((rl (nI 13).toNatClampNeg) - (nI 1))) = 0 → (¬ (f_X6_in v2 (nI 0) (nI 1)) = 0 → vp_in ((f_X6_family v1) + v2) 527))
set_option maxRecDepth 100000 in
set_option maxHeartbeats 4000000 in
theorem e_X6_family_ {G : ng_GG} {hf : (Nat → Int32) → (Nat → Int32) → (Nat → Int32) → (Nat → Int32) → (Nat → Int32) → (Nat → Int32) → (Nat → Int32) → (Nat → Int32) → (Nat → Int32) → (Nat → Int32) → (Nat → Int32) → (Nat → Int32) → (Nat → Int32) → (Nat → Int32) → (Nat → Int64) → (Nat → Int64) → (Nat → Int32) → ng_AM}  (V : ng_FL hf ) {F : Nat → Int32} {rl : Nat → Int32} {lg : Nat → Int32} {sta : Nat → Int32} {sm : Nat → Int32} {par : Nat → Int32} {mv : Nat → Int32} {dep : Nat → Int32} {nwa : Nat → Int32} {th : Nat → Int32} {bf : Nat → Int32} {row : Nat → Int32} {wid : Nat → Int32} {siz : Nat → Int32} {cel : Nat → Int64} {mvd : Nat → Int64} {ned : Nat → Int32}  {v1 : Int32} {v2 : Int32} (h : s_X6_family_  F rl v1 v2)  : ng_Ev G md_X6_family_ 0 [some (.ref 28), some (.int v1), some (.int v2)] [] (hf F rl lg sta sm par mv dep nwa th bf row wid siz cel mvd ned) (K_X6_family_ hf rl lg sta sm par mv dep nwa th bf row wid siz cel mvd ned (f_X6_family_  F rl v1 v2)) := by
  unfold s_X6_family_ at h
  unfold f_X6_family_
  refine ev_aload_n dX6_family__0 rfl rfl rfl ?_
  refine ev_iconst (v := nI 0) dX6_family__1 (by decide) ?_
  refine ev_put 6 0 fs_RX6_64 (FL_g28 V) (ng_lt rfl) rfl (FL_s28 V (F' := (upd F 0 (nI 0)))) (ng_fit_i _) dX6_family__2 ?_
  refine ev_iload_n dX6_family__5 rfl rfl ?_
  refine ev_iconst (v := nI 0) dX6_family__6 (by decide) ?_
  refine ev_aload_n dX6_family__7 rfl rfl rfl ?_
  refine ev_get 6 1 fl_RX6_9 (FL_g28 V) rfl dX6_family__8 ?_
  refine ev_bipush (v := nI 13) dX6_family__11 (by decide) ?_
  refine ev_iald (FL_g29 V) (vp_in_nI (by decide) (by decide)) dX6_family__13 ?_
  refine ev_iconst (v := nI 1) dX6_family__14 (by decide) ?_
  refine ev_isub dX6_family__15 ?_
  refine bk_callS (As := [.int v1, .int (nI 0), .int ((rl (nI 13).toNatClampNeg) - (nI 1))]) (st := []) (st2 := [.int (f_X6_in v1 (nI 0) ((rl (nI 13).toNatClampNeg) - (nI 1)))]) (M2 := hf (upd F 0 (nI 0)) rl lg sta sm par mv dep nwa th bf row wid siz cel mvd ned) ok_X6_in lk_RX6_67 (ng_rok.of rfl rfl) rfl rfl rfl rfl dX6_family__16 (m_X6_in trivial) rfl rfl ?_
  refine bk_if_eq (tgt := 45) dX6_family__19 (by decide) (fun c19 => ?_) (fun c19 => ?_)
  · refine ev_bipush (v := (-2)) dX6_family__45 (by decide) ?_
    exact ev_iret rfl rfl dX6_family__47
  · replace h := h c19
    refine ev_iload_n dX6_family__22 rfl rfl ?_
    refine ev_iconst (v := nI 0) dX6_family__23 (by decide) ?_
    refine ev_iconst (v := nI 1) dX6_family__24 (by decide) ?_
    refine bk_callS (As := [.int v2, .int (nI 0), .int (nI 1)]) (st := []) (st2 := [.int (f_X6_in v2 (nI 0) (nI 1))]) (M2 := hf (upd F 0 (nI 0)) rl lg sta sm par mv dep nwa th bf row wid siz cel mvd ned) ok_X6_in lk_RX6_67 (ng_rok.of rfl rfl) rfl rfl rfl rfl dX6_family__25 (m_X6_in trivial) rfl rfl ?_
    refine bk_if_eq (tgt := 45) dX6_family__28 (by decide) (fun c28 => ?_) (fun c28 => ?_)
    · refine ev_bipush (v := (-2)) dX6_family__45 (by decide) ?_
      exact ev_iret rfl rfl dX6_family__47
    · replace h := h c28
      refine ev_aload_n dX6_family__31 rfl rfl rfl ?_
      refine ev_get 6 1 fl_RX6_9 (FL_g28 V) rfl dX6_family__32 ?_
      refine ev_iload_n dX6_family__35 rfl rfl ?_
      refine bk_callS (As := [.int v1]) (st := [.ref 29]) (st2 := [.int (f_X6_family v1), .ref 29]) (M2 := hf (upd F 0 (nI 0)) rl lg sta sm par mv dep nwa th bf row wid siz cel mvd ned) ok_X6_family lk_RX6_85 (ng_rok.of rfl rfl) rfl rfl rfl rfl dX6_family__36 (m_X6_family trivial) rfl rfl ?_
      refine ev_iload_n dX6_family__39 rfl rfl ?_
      refine ev_iadd dX6_family__40 ?_
      have hi41 := h
      refine ev_iald (FL_g29 V) hi41 dX6_family__41 ?_
      refine ev_goto (tgt := 47) dX6_family__42 (by decide) ?_
      exact ev_iret rfl rfl dX6_family__47
theorem m_X6_family_ {G : ng_GG} {hf : (Nat → Int32) → (Nat → Int32) → (Nat → Int32) → (Nat → Int32) → (Nat → Int32) → (Nat → Int32) → (Nat → Int32) → (Nat → Int32) → (Nat → Int32) → (Nat → Int32) → (Nat → Int32) → (Nat → Int32) → (Nat → Int32) → (Nat → Int32) → (Nat → Int64) → (Nat → Int64) → (Nat → Int32) → ng_AM}  (V : ng_FL hf ) {F : Nat → Int32} {rl : Nat → Int32} {lg : Nat → Int32} {sta : Nat → Int32} {sm : Nat → Int32} {par : Nat → Int32} {mv : Nat → Int32} {dep : Nat → Int32} {nwa : Nat → Int32} {th : Nat → Int32} {bf : Nat → Int32} {row : Nat → Int32} {wid : Nat → Int32} {siz : Nat → Int32} {cel : Nat → Int64} {mvd : Nat → Int64} {ned : Nat → Int32} {v1 : Int32} {v2 : Int32} (h : s_X6_family_ F rl v1 v2)  : ng_Ev G md_X6_family_ 0 (ng_en 3 [.ref 28, .int v1, .int v2]) [] (hf F rl lg sta sm par mv dep nwa th bf row wid siz cel mvd ned) (K_X6_family_ hf rl lg sta sm par mv dep nwa th bf row wid siz cel mvd ned (f_X6_family_ F rl v1 v2)) := e_X6_family_ V h 
def K_X6_houseOf (hf : (Nat → Int32) → (Nat → Int32) → (Nat → Int32) → (Nat → Int32) → (Nat → Int32) → (Nat → Int32) → (Nat → Int32) → (Nat → Int32) → (Nat → Int32) → (Nat → Int32) → (Nat → Int32) → (Nat → Int32) → (Nat → Int32) → (Nat → Int32) → (Nat → Int64) → (Nat → Int64) → (Nat → Int32) → ng_AM) (rl : Nat → Int32) (lg : Nat → Int32) (sta : Nat → Int32) (sm : Nat → Int32) (par : Nat → Int32) (mv : Nat → Int32) (dep : Nat → Int32) (nwa : Nat → Int32) (th : Nat → Int32) (bf : Nat → Int32) (row : Nat → Int32) (wid : Nat → Int32) (siz : Nat → Int32) (cel : Nat → Int64) (mvd : Nat → Int64) (ned : Nat → Int32) (r : (Nat → Int32) × Int32) : ng_RR := (some (.int (r.2)), hf (r.1) rl lg sta sm par mv dep nwa th bf row wid siz cel mvd ned)
def f_X6_houseOf  (F : Nat → Int32) (rl : Nat → Int32) (v1 : Int32) (v2 : Int32) : (Nat → Int32) × Int32 := (if (f_X6_isHouse rl v1) = 0 then ((upd F 0 (nI 0)), (-100)) else (if v2 = nI 0 then ((upd F 0 (nI 0)), (rl ((f_X6_house v1) + (nI 3)).toNatClampNeg)) else (if v2 = nI 1 then ((upd F 0 (nI 0)), (rl ((f_X6_house v1) + (nI 0)).toNatClampNeg)) else (if v2 = nI 2 then ((upd F 0 (nI 0)), (rl ((f_X6_house v1) + (nI 1)).toNatClampNeg)) else (if v2 = nI 3 then ((upd F 0 (nI 0)), (rl ((f_X6_house v1) + (nI 2)).toNatClampNeg)) else (if v2 = nI 4 then ((upd F 0 (nI 0)), (rl ((f_X6_house v1) + (nI 4)).toNatClampNeg)) else (if v2 = nI 5 then ((upd F 0 (nI 0)), (rl ((f_X6_house v1) + (nI 5)).toNatClampNeg)) else (if v2 = nI 6 then ((upd F 0 (nI 0)), (rl ((f_X6_house v1) + (nI 6)).toNatClampNeg)) else (if v2 = nI 7 then ((upd F 0 (nI 0)), ((rl (nI 0).toNatClampNeg) + (rl ((f_X6_house v1) + (nI 0)).toNatClampNeg))) else ((upd F 0 (nI 0)), (-100)))))))))))
def s_X6_houseOf  (F : Nat → Int32) (rl : Nat → Int32) (v1 : Int32) (v2 : Int32) : Prop := (s_X6_isHouse rl v1 ∧ (¬ (f_X6_isHouse rl v1) = 0 → ((v2 = nI 0 → vp_in ((f_X6_house v1) + (nI 3)) 527) ∧ (¬ v2 = nI 0 → ((v2 = nI 1 → vp_in ((f_X6_house v1) + (nI 0)) 527) ∧ (¬ v2 = nI 1 → ((v2 = nI 2 → vp_in ((f_X6_house v1) + (nI 1)) 527) ∧ (¬ v2 = nI 2 → ((v2 = nI 3 → vp_in ((f_X6_house v1) + (nI 2)) 527) ∧ (¬ v2 = nI 3 → ((v2 = nI 4 → vp_in ((f_X6_house v1) + (nI 4)) 527) ∧ (¬ v2 = nI 4 → ((v2 = nI 5 → vp_in ((f_X6_house v1) + (nI 5)) 527) ∧ (¬ v2 = nI 5 → ((v2 = nI 6 → vp_in ((f_X6_house v1) + (nI 6)) 527) ∧ (¬ v2 = nI 6 → (v2 = nI 7 → vp_in ((f_X6_house v1) + (nI 0)) 527)))))))))))))))))
set_option maxRecDepth 100000 in
set_option maxHeartbeats 4000000 in
theorem e_X6_houseOf {G : ng_GG} {hf : (Nat → Int32) → (Nat → Int32) → (Nat → Int32) → (Nat → Int32) → (Nat → Int32) → (Nat → Int32) → (Nat → Int32) → (Nat → Int32) → (Nat → Int32) → (Nat → Int32) → (Nat → Int32) → (Nat → Int32) → (Nat → Int32) → (Nat → Int32) → (Nat → Int64) → (Nat → Int64) → (Nat → Int32) → ng_AM}  (V : ng_FL hf ) {F : Nat → Int32} {rl : Nat → Int32} {lg : Nat → Int32} {sta : Nat → Int32} {sm : Nat → Int32} {par : Nat → Int32} {mv : Nat → Int32} {dep : Nat → Int32} {nwa : Nat → Int32} {th : Nat → Int32} {bf : Nat → Int32} {row : Nat → Int32} {wid : Nat → Int32} {siz : Nat → Int32} {cel : Nat → Int64} {mvd : Nat → Int64} {ned : Nat → Int32}  {v1 : Int32} {v2 : Int32} (h : s_X6_houseOf  F rl v1 v2)  : ng_Ev G md_X6_houseOf 0 [some (.ref 28), some (.int v1), some (.int v2), none] [] (hf F rl lg sta sm par mv dep nwa th bf row wid siz cel mvd ned) (K_X6_houseOf hf rl lg sta sm par mv dep nwa th bf row wid siz cel mvd ned (f_X6_houseOf  F rl v1 v2)) := by
  unfold s_X6_houseOf at h
  unfold f_X6_houseOf
  refine ev_aload_n dX6_houseOf_0 rfl rfl rfl ?_
  refine ev_iconst (v := nI 0) dX6_houseOf_1 (by decide) ?_
  refine ev_put 6 0 fs_RX6_64 (FL_g28 V) (ng_lt rfl) rfl (FL_s28 V (F' := (upd F 0 (nI 0)))) (ng_fit_i _) dX6_houseOf_2 ?_
  refine ev_aload_n dX6_houseOf_5 rfl rfl rfl ?_
  refine ev_iload_n dX6_houseOf_6 rfl rfl ?_
  have hs7 := h.1
  replace h := h.2
  refine bk_callV (As := [.int v1]) (st := []) (st2 := [.int (f_X6_isHouse rl v1)]) (M2 := hf (upd F 0 (nI 0)) rl lg sta sm par mv dep nwa th bf row wid siz cel mvd ned) ok_X6_isHouse lk_RX6_78 (ng_rok.of rfl rfl) (FL_g28 V) rfl rfl rfl rfl rfl rfl dX6_houseOf_7 (m_X6_isHouse V hs7) rfl rfl ?_
  refine bk_if_ne (tgt := 16) dX6_houseOf_10 (by decide) (fun c10 => ?_) (fun c10 => ?_)
  · replace h := h c10
    refine ev_iload_n dX6_houseOf_16 rfl rfl ?_
    refine bk_callS (As := [.int v1]) (st := []) (st2 := [.int (f_X6_house v1)]) (M2 := hf (upd F 0 (nI 0)) rl lg sta sm par mv dep nwa th bf row wid siz cel mvd ned) ok_X6_house lk_RX6_75 (ng_rok.of rfl rfl) rfl rfl rfl rfl dX6_houseOf_17 (m_X6_house trivial) rfl rfl ?_
    refine ev_istore_n (L' := [some (.ref 28), some (.int v1), some (.int v2), some (.int (f_X6_house v1))]) dX6_houseOf_20 rfl (ng_lt rfl) rfl ?_
    refine ev_iload_n dX6_houseOf_21 rfl rfl ?_
    refine bk_cases (fun c22_0 => ?_) (fun c22_0 => ?_)
    · replace h := h.1 c22_0
      refine ev_tab_k (k := 0) (tgt := 68) dX6_houseOf_22 c22_0 (by decide) (by decide) (by decide) rfl (by decide) ?_
      refine ev_aload_n dX6_houseOf_68 rfl rfl rfl ?_
      refine ev_get 6 1 fl_RX6_9 (FL_g28 V) rfl dX6_houseOf_69 ?_
      refine ev_iload_n dX6_houseOf_72 rfl rfl ?_
      refine ev_iconst (v := nI 3) dX6_houseOf_73 (by decide) ?_
      refine ev_iadd dX6_houseOf_74 ?_
      have hi75 := h
      refine ev_iald (FL_g29 V) hi75 dX6_houseOf_75 ?_
      exact ev_iret rfl rfl dX6_houseOf_76
    · replace h := h.2 c22_0
      refine bk_cases (fun c22_1 => ?_) (fun c22_1 => ?_)
      · replace h := h.1 c22_1
        refine ev_tab_k (k := 1) (tgt := 77) dX6_houseOf_22 c22_1 (by decide) (by decide) (by decide) rfl (by decide) ?_
        refine ev_aload_n dX6_houseOf_77 rfl rfl rfl ?_
        refine ev_get 6 1 fl_RX6_9 (FL_g28 V) rfl dX6_houseOf_78 ?_
        refine ev_iload_n dX6_houseOf_81 rfl rfl ?_
        refine ev_iconst (v := nI 0) dX6_houseOf_82 (by decide) ?_
        refine ev_iadd dX6_houseOf_83 ?_
        have hi84 := h
        refine ev_iald (FL_g29 V) hi84 dX6_houseOf_84 ?_
        exact ev_iret rfl rfl dX6_houseOf_85
      · replace h := h.2 c22_1
        refine bk_cases (fun c22_2 => ?_) (fun c22_2 => ?_)
        · replace h := h.1 c22_2
          refine ev_tab_k (k := 2) (tgt := 86) dX6_houseOf_22 c22_2 (by decide) (by decide) (by decide) rfl (by decide) ?_
          refine ev_aload_n dX6_houseOf_86 rfl rfl rfl ?_
          refine ev_get 6 1 fl_RX6_9 (FL_g28 V) rfl dX6_houseOf_87 ?_
          refine ev_iload_n dX6_houseOf_90 rfl rfl ?_
          refine ev_iconst (v := nI 1) dX6_houseOf_91 (by decide) ?_
          refine ev_iadd dX6_houseOf_92 ?_
          have hi93 := h
          refine ev_iald (FL_g29 V) hi93 dX6_houseOf_93 ?_
          exact ev_iret rfl rfl dX6_houseOf_94
        · replace h := h.2 c22_2
          refine bk_cases (fun c22_3 => ?_) (fun c22_3 => ?_)
          · replace h := h.1 c22_3
            refine ev_tab_k (k := 3) (tgt := 95) dX6_houseOf_22 c22_3 (by decide) (by decide) (by decide) rfl (by decide) ?_
            refine ev_aload_n dX6_houseOf_95 rfl rfl rfl ?_
            refine ev_get 6 1 fl_RX6_9 (FL_g28 V) rfl dX6_houseOf_96 ?_
            refine ev_iload_n dX6_houseOf_99 rfl rfl ?_
            refine ev_iconst (v := nI 2) dX6_houseOf_100 (by decide) ?_
            refine ev_iadd dX6_houseOf_101 ?_
            have hi102 := h
            refine ev_iald (FL_g29 V) hi102 dX6_houseOf_102 ?_
            exact ev_iret rfl rfl dX6_houseOf_103
          · replace h := h.2 c22_3
            refine bk_cases (fun c22_4 => ?_) (fun c22_4 => ?_)
            · replace h := h.1 c22_4
              refine ev_tab_k (k := 4) (tgt := 104) dX6_houseOf_22 c22_4 (by decide) (by decide) (by decide) rfl (by decide) ?_
              refine ev_aload_n dX6_houseOf_104 rfl rfl rfl ?_
              refine ev_get 6 1 fl_RX6_9 (FL_g28 V) rfl dX6_houseOf_105 ?_
              refine ev_iload_n dX6_houseOf_108 rfl rfl ?_
              refine ev_iconst (v := nI 4) dX6_houseOf_109 (by decide) ?_
              refine ev_iadd dX6_houseOf_110 ?_
              have hi111 := h
              refine ev_iald (FL_g29 V) hi111 dX6_houseOf_111 ?_
              exact ev_iret rfl rfl dX6_houseOf_112
            · replace h := h.2 c22_4
              refine bk_cases (fun c22_5 => ?_) (fun c22_5 => ?_)
              · replace h := h.1 c22_5
                refine ev_tab_k (k := 5) (tgt := 113) dX6_houseOf_22 c22_5 (by decide) (by decide) (by decide) rfl (by decide) ?_
                refine ev_aload_n dX6_houseOf_113 rfl rfl rfl ?_
                refine ev_get 6 1 fl_RX6_9 (FL_g28 V) rfl dX6_houseOf_114 ?_
                refine ev_iload_n dX6_houseOf_117 rfl rfl ?_
                refine ev_iconst (v := nI 5) dX6_houseOf_118 (by decide) ?_
                refine ev_iadd dX6_houseOf_119 ?_
                have hi120 := h
                refine ev_iald (FL_g29 V) hi120 dX6_houseOf_120 ?_
                exact ev_iret rfl rfl dX6_houseOf_121
              · replace h := h.2 c22_5
                refine bk_cases (fun c22_6 => ?_) (fun c22_6 => ?_)
                · replace h := h.1 c22_6
                  refine ev_tab_k (k := 6) (tgt := 122) dX6_houseOf_22 c22_6 (by decide) (by decide) (by decide) rfl (by decide) ?_
                  refine ev_aload_n dX6_houseOf_122 rfl rfl rfl ?_
                  refine ev_get 6 1 fl_RX6_9 (FL_g28 V) rfl dX6_houseOf_123 ?_
                  refine ev_iload_n dX6_houseOf_126 rfl rfl ?_
                  refine ev_bipush (v := nI 6) dX6_houseOf_127 (by decide) ?_
                  refine ev_iadd dX6_houseOf_129 ?_
                  have hi130 := h
                  refine ev_iald (FL_g29 V) hi130 dX6_houseOf_130 ?_
                  exact ev_iret rfl rfl dX6_houseOf_131
                · replace h := h.2 c22_6
                  refine bk_cases (fun c22_7 => ?_) (fun c22_7 => ?_)
                  · replace h := h c22_7
                    refine ev_tab_k (k := 7) (tgt := 132) dX6_houseOf_22 c22_7 (by decide) (by decide) (by decide) rfl (by decide) ?_
                    refine ev_aload_n dX6_houseOf_132 rfl rfl rfl ?_
                    refine ev_get 6 1 fl_RX6_9 (FL_g28 V) rfl dX6_houseOf_133 ?_
                    refine ev_iconst (v := nI 0) dX6_houseOf_136 (by decide) ?_
                    refine ev_iald (FL_g29 V) (vp_in_nI (by decide) (by decide)) dX6_houseOf_137 ?_
                    refine ev_aload_n dX6_houseOf_138 rfl rfl rfl ?_
                    refine ev_get 6 1 fl_RX6_9 (FL_g28 V) rfl dX6_houseOf_139 ?_
                    refine ev_iload_n dX6_houseOf_142 rfl rfl ?_
                    refine ev_iconst (v := nI 0) dX6_houseOf_143 (by decide) ?_
                    refine ev_iadd dX6_houseOf_144 ?_
                    have hi145 := h
                    refine ev_iald (FL_g29 V) hi145 dX6_houseOf_145 ?_
                    refine ev_iadd dX6_houseOf_146 ?_
                    exact ev_iret rfl rfl dX6_houseOf_147
                  · refine ev_tab_d (hi := 7) (tgt := 148) (m := 7) dX6_houseOf_22 rfl (fun q hq => match q, hq with | 0, _ => c22_0 | 1, _ => c22_1 | 2, _ => c22_2 | 3, _ => c22_3 | 4, _ => c22_4 | 5, _ => c22_5 | 6, _ => c22_6 | 7, _ => c22_7 | (q + 8), hq => absurd hq (by omega)) (by decide) ?_
                    refine ev_bipush (v := (-100)) dX6_houseOf_148 (by decide) ?_
                    exact ev_iret rfl rfl dX6_houseOf_150
  · refine ev_bipush (v := (-100)) dX6_houseOf_13 (by decide) ?_
    exact ev_iret rfl rfl dX6_houseOf_15
theorem m_X6_houseOf {G : ng_GG} {hf : (Nat → Int32) → (Nat → Int32) → (Nat → Int32) → (Nat → Int32) → (Nat → Int32) → (Nat → Int32) → (Nat → Int32) → (Nat → Int32) → (Nat → Int32) → (Nat → Int32) → (Nat → Int32) → (Nat → Int32) → (Nat → Int32) → (Nat → Int32) → (Nat → Int64) → (Nat → Int64) → (Nat → Int32) → ng_AM}  (V : ng_FL hf ) {F : Nat → Int32} {rl : Nat → Int32} {lg : Nat → Int32} {sta : Nat → Int32} {sm : Nat → Int32} {par : Nat → Int32} {mv : Nat → Int32} {dep : Nat → Int32} {nwa : Nat → Int32} {th : Nat → Int32} {bf : Nat → Int32} {row : Nat → Int32} {wid : Nat → Int32} {siz : Nat → Int32} {cel : Nat → Int64} {mvd : Nat → Int64} {ned : Nat → Int32} {v1 : Int32} {v2 : Int32} (h : s_X6_houseOf F rl v1 v2)  : ng_Ev G md_X6_houseOf 0 (ng_en 4 [.ref 28, .int v1, .int v2]) [] (hf F rl lg sta sm par mv dep nwa th bf row wid siz cel mvd ned) (K_X6_houseOf hf rl lg sta sm par mv dep nwa th bf row wid siz cel mvd ned (f_X6_houseOf F rl v1 v2)) := e_X6_houseOf V h 
def K_X6_browser_ (hf : (Nat → Int32) → (Nat → Int32) → (Nat → Int32) → (Nat → Int32) → (Nat → Int32) → (Nat → Int32) → (Nat → Int32) → (Nat → Int32) → (Nat → Int32) → (Nat → Int32) → (Nat → Int32) → (Nat → Int32) → (Nat → Int32) → (Nat → Int32) → (Nat → Int64) → (Nat → Int64) → (Nat → Int32) → ng_AM) (rl : Nat → Int32) (lg : Nat → Int32) (sta : Nat → Int32) (sm : Nat → Int32) (par : Nat → Int32) (mv : Nat → Int32) (dep : Nat → Int32) (nwa : Nat → Int32) (th : Nat → Int32) (bf : Nat → Int32) (row : Nat → Int32) (wid : Nat → Int32) (siz : Nat → Int32) (cel : Nat → Int64) (mvd : Nat → Int64) (ned : Nat → Int32) (r : (Nat → Int32) × Int32) : ng_RR := (some (.int (r.2)), hf (r.1) rl lg sta sm par mv dep nwa th bf row wid siz cel mvd ned)
def f_X6_browser_  (F : Nat → Int32) (rl : Nat → Int32) (v1 : Int32) (v2 : Int32) : (Nat → Int32) × Int32 := (if (f_X6_in v1 (nI 0) (nI 4)) = 0 then ((upd F 0 (nI 0)), (-2)) else (if (f_X6_in v2 (nI 0) (nI 2)) = 0 then ((upd F 0 (nI 0)), (-2)) else ((upd F 0 (nI 0)), (rl ((f_X6_browser v1) + v2).toNatClampNeg))))
def s_X6_browser_  (F : Nat → Int32) (rl : Nat → Int32) (v1 : Int32) (v2 : Int32) : Prop := (¬ (f_X6_in v1 (nI 0) (nI 4)) = 0 → (¬ (f_X6_in v2 (nI 0) (nI 2)) = 0 → vp_in ((f_X6_browser v1) + v2) 527))
set_option maxRecDepth 100000 in
set_option maxHeartbeats 4000000 in
theorem e_X6_browser_ {G : ng_GG} {hf : (Nat → Int32) → (Nat → Int32) → (Nat → Int32) → (Nat → Int32) → (Nat → Int32) → (Nat → Int32) → (Nat → Int32) → (Nat → Int32) → (Nat → Int32) → (Nat → Int32) → (Nat → Int32) → (Nat → Int32) → (Nat → Int32) → (Nat → Int32) → (Nat → Int64) → (Nat → Int64) → (Nat → Int32) → ng_AM}  (V : ng_FL hf ) {F : Nat → Int32} {rl : Nat → Int32} {lg : Nat → Int32} {sta : Nat → Int32} {sm : Nat → Int32} {par : Nat → Int32} {mv : Nat → Int32} {dep : Nat → Int32} {nwa : Nat → Int32} {th : Nat → Int32} {bf : Nat → Int32} {row : Nat → Int32} {wid : Nat → Int32} {siz : Nat → Int32} {cel : Nat → Int64} {mvd : Nat → Int64} {ned : Nat → Int32}  {v1 : Int32} {v2 : Int32} (h : s_X6_browser_  F rl v1 v2)  : ng_Ev G md_X6_browser_ 0 [some (.ref 28), some (.int v1), some (.int v2)] [] (hf F rl lg sta sm par mv dep nwa th bf row wid siz cel mvd ned) (K_X6_browser_ hf rl lg sta sm par mv dep nwa th bf row wid siz cel mvd ned (f_X6_browser_  F rl v1 v2)) := by
  unfold s_X6_browser_ at h
  unfold f_X6_browser_
  refine ev_aload_n dX6_browser__0 rfl rfl rfl ?_
  refine ev_iconst (v := nI 0) dX6_browser__1 (by decide) ?_
  refine ev_put 6 0 fs_RX6_64 (FL_g28 V) (ng_lt rfl) rfl (FL_s28 V (F' := (upd F 0 (nI 0)))) (ng_fit_i _) dX6_browser__2 ?_
  refine ev_iload_n dX6_browser__5 rfl rfl ?_
  refine ev_iconst (v := nI 0) dX6_browser__6 (by decide) ?_
  refine ev_iconst (v := nI 4) dX6_browser__7 (by decide) ?_
  refine bk_callS (As := [.int v1, .int (nI 0), .int (nI 4)]) (st := []) (st2 := [.int (f_X6_in v1 (nI 0) (nI 4))]) (M2 := hf (upd F 0 (nI 0)) rl lg sta sm par mv dep nwa th bf row wid siz cel mvd ned) ok_X6_in lk_RX6_67 (ng_rok.of rfl rfl) rfl rfl rfl rfl dX6_browser__8 (m_X6_in trivial) rfl rfl ?_
  refine bk_if_eq (tgt := 37) dX6_browser__11 (by decide) (fun c11 => ?_) (fun c11 => ?_)
  · refine ev_bipush (v := (-2)) dX6_browser__37 (by decide) ?_
    exact ev_iret rfl rfl dX6_browser__39
  · replace h := h c11
    refine ev_iload_n dX6_browser__14 rfl rfl ?_
    refine ev_iconst (v := nI 0) dX6_browser__15 (by decide) ?_
    refine ev_iconst (v := nI 2) dX6_browser__16 (by decide) ?_
    refine bk_callS (As := [.int v2, .int (nI 0), .int (nI 2)]) (st := []) (st2 := [.int (f_X6_in v2 (nI 0) (nI 2))]) (M2 := hf (upd F 0 (nI 0)) rl lg sta sm par mv dep nwa th bf row wid siz cel mvd ned) ok_X6_in lk_RX6_67 (ng_rok.of rfl rfl) rfl rfl rfl rfl dX6_browser__17 (m_X6_in trivial) rfl rfl ?_
    refine bk_if_eq (tgt := 37) dX6_browser__20 (by decide) (fun c20 => ?_) (fun c20 => ?_)
    · refine ev_bipush (v := (-2)) dX6_browser__37 (by decide) ?_
      exact ev_iret rfl rfl dX6_browser__39
    · replace h := h c20
      refine ev_aload_n dX6_browser__23 rfl rfl rfl ?_
      refine ev_get 6 1 fl_RX6_9 (FL_g28 V) rfl dX6_browser__24 ?_
      refine ev_iload_n dX6_browser__27 rfl rfl ?_
      refine bk_callS (As := [.int v1]) (st := [.ref 29]) (st2 := [.int (f_X6_browser v1), .ref 29]) (M2 := hf (upd F 0 (nI 0)) rl lg sta sm par mv dep nwa th bf row wid siz cel mvd ned) ok_X6_browser lk_RX6_82 (ng_rok.of rfl rfl) rfl rfl rfl rfl dX6_browser__28 (m_X6_browser trivial) rfl rfl ?_
      refine ev_iload_n dX6_browser__31 rfl rfl ?_
      refine ev_iadd dX6_browser__32 ?_
      have hi33 := h
      refine ev_iald (FL_g29 V) hi33 dX6_browser__33 ?_
      refine ev_goto (tgt := 39) dX6_browser__34 (by decide) ?_
      exact ev_iret rfl rfl dX6_browser__39
theorem m_X6_browser_ {G : ng_GG} {hf : (Nat → Int32) → (Nat → Int32) → (Nat → Int32) → (Nat → Int32) → (Nat → Int32) → (Nat → Int32) → (Nat → Int32) → (Nat → Int32) → (Nat → Int32) → (Nat → Int32) → (Nat → Int32) → (Nat → Int32) → (Nat → Int32) → (Nat → Int32) → (Nat → Int64) → (Nat → Int64) → (Nat → Int32) → ng_AM}  (V : ng_FL hf ) {F : Nat → Int32} {rl : Nat → Int32} {lg : Nat → Int32} {sta : Nat → Int32} {sm : Nat → Int32} {par : Nat → Int32} {mv : Nat → Int32} {dep : Nat → Int32} {nwa : Nat → Int32} {th : Nat → Int32} {bf : Nat → Int32} {row : Nat → Int32} {wid : Nat → Int32} {siz : Nat → Int32} {cel : Nat → Int64} {mvd : Nat → Int64} {ned : Nat → Int32} {v1 : Int32} {v2 : Int32} (h : s_X6_browser_ F rl v1 v2)  : ng_Ev G md_X6_browser_ 0 (ng_en 3 [.ref 28, .int v1, .int v2]) [] (hf F rl lg sta sm par mv dep nwa th bf row wid siz cel mvd ned) (K_X6_browser_ hf rl lg sta sm par mv dep nwa th bf row wid siz cel mvd ned (f_X6_browser_ F rl v1 v2)) := e_X6_browser_ V h 
def K_X6_log (hf : (Nat → Int32) → (Nat → Int32) → (Nat → Int32) → (Nat → Int32) → (Nat → Int32) → (Nat → Int32) → (Nat → Int32) → (Nat → Int32) → (Nat → Int32) → (Nat → Int32) → (Nat → Int32) → (Nat → Int32) → (Nat → Int32) → (Nat → Int32) → (Nat → Int64) → (Nat → Int64) → (Nat → Int32) → ng_AM) (rl : Nat → Int32) (lg : Nat → Int32) (sta : Nat → Int32) (sm : Nat → Int32) (par : Nat → Int32) (mv : Nat → Int32) (dep : Nat → Int32) (nwa : Nat → Int32) (th : Nat → Int32) (bf : Nat → Int32) (row : Nat → Int32) (wid : Nat → Int32) (siz : Nat → Int32) (cel : Nat → Int64) (mvd : Nat → Int64) (ned : Nat → Int32) (r : (Nat → Int32) × Int32) : ng_RR := (some (.int (r.2)), hf (r.1) rl lg sta sm par mv dep nwa th bf row wid siz cel mvd ned)
def f_X6_log  (F : Nat → Int32) (lg : Nat → Int32) (v1 : Int32) (v2 : Int32) : (Nat → Int32) × Int32 := (if (f_X6_in v1 (nI 0) (((upd F 0 (nI 0)) 5) - (nI 1))) = 0 then ((upd F 0 (nI 0)), (-2)) else (if (f_X6_in v2 (nI 0) (nI 5)) = 0 then ((upd F 0 (nI 0)), (-2)) else ((upd F 0 (nI 0)), (lg (((nI 6) * v1) + v2).toNatClampNeg))))
def s_X6_log  (F : Nat → Int32) (lg : Nat → Int32) (v1 : Int32) (v2 : Int32) : Prop := (¬ (f_X6_in v1 (nI 0) (((upd F 0 (nI 0)) 5) - (nI 1))) = 0 → (¬ (f_X6_in v2 (nI 0) (nI 5)) = 0 → vp_in (((nI 6) * v1) + v2) 360))
set_option maxRecDepth 100000 in
set_option maxHeartbeats 4000000 in
theorem e_X6_log {G : ng_GG} {hf : (Nat → Int32) → (Nat → Int32) → (Nat → Int32) → (Nat → Int32) → (Nat → Int32) → (Nat → Int32) → (Nat → Int32) → (Nat → Int32) → (Nat → Int32) → (Nat → Int32) → (Nat → Int32) → (Nat → Int32) → (Nat → Int32) → (Nat → Int32) → (Nat → Int64) → (Nat → Int64) → (Nat → Int32) → ng_AM}  (V : ng_FL hf ) {F : Nat → Int32} {rl : Nat → Int32} {lg : Nat → Int32} {sta : Nat → Int32} {sm : Nat → Int32} {par : Nat → Int32} {mv : Nat → Int32} {dep : Nat → Int32} {nwa : Nat → Int32} {th : Nat → Int32} {bf : Nat → Int32} {row : Nat → Int32} {wid : Nat → Int32} {siz : Nat → Int32} {cel : Nat → Int64} {mvd : Nat → Int64} {ned : Nat → Int32}  {v1 : Int32} {v2 : Int32} (h : s_X6_log  F lg v1 v2)  : ng_Ev G md_X6_log 0 [some (.ref 28), some (.int v1), some (.int v2)] [] (hf F rl lg sta sm par mv dep nwa th bf row wid siz cel mvd ned) (K_X6_log hf rl lg sta sm par mv dep nwa th bf row wid siz cel mvd ned (f_X6_log  F lg v1 v2)) := by
  unfold s_X6_log at h
  unfold f_X6_log
  refine ev_aload_n dX6_log_0 rfl rfl rfl ?_
  refine ev_iconst (v := nI 0) dX6_log_1 (by decide) ?_
  refine ev_put 6 0 fs_RX6_64 (FL_g28 V) (ng_lt rfl) rfl (FL_s28 V (F' := (upd F 0 (nI 0)))) (ng_fit_i _) dX6_log_2 ?_
  refine ev_iload_n dX6_log_5 rfl rfl ?_
  refine ev_iconst (v := nI 0) dX6_log_6 (by decide) ?_
  refine ev_aload_n dX6_log_7 rfl rfl rfl ?_
  refine ev_get 6 5 fl_RX6_128 (FL_g28 V) rfl dX6_log_8 ?_
  refine ev_iconst (v := nI 1) dX6_log_11 (by decide) ?_
  refine ev_isub dX6_log_12 ?_
  refine bk_callS (As := [.int v1, .int (nI 0), .int (((upd F 0 (nI 0)) 5) - (nI 1))]) (st := []) (st2 := [.int (f_X6_in v1 (nI 0) (((upd F 0 (nI 0)) 5) - (nI 1)))]) (M2 := hf (upd F 0 (nI 0)) rl lg sta sm par mv dep nwa th bf row wid siz cel mvd ned) ok_X6_in lk_RX6_67 (ng_rok.of rfl rfl) rfl rfl rfl rfl dX6_log_13 (m_X6_in trivial) rfl rfl ?_
  refine bk_if_eq (tgt := 42) dX6_log_16 (by decide) (fun c16 => ?_) (fun c16 => ?_)
  · refine ev_bipush (v := (-2)) dX6_log_42 (by decide) ?_
    exact ev_iret rfl rfl dX6_log_44
  · replace h := h c16
    refine ev_iload_n dX6_log_19 rfl rfl ?_
    refine ev_iconst (v := nI 0) dX6_log_20 (by decide) ?_
    refine ev_iconst (v := nI 5) dX6_log_21 (by decide) ?_
    refine bk_callS (As := [.int v2, .int (nI 0), .int (nI 5)]) (st := []) (st2 := [.int (f_X6_in v2 (nI 0) (nI 5))]) (M2 := hf (upd F 0 (nI 0)) rl lg sta sm par mv dep nwa th bf row wid siz cel mvd ned) ok_X6_in lk_RX6_67 (ng_rok.of rfl rfl) rfl rfl rfl rfl dX6_log_22 (m_X6_in trivial) rfl rfl ?_
    refine bk_if_eq (tgt := 42) dX6_log_25 (by decide) (fun c25 => ?_) (fun c25 => ?_)
    · refine ev_bipush (v := (-2)) dX6_log_42 (by decide) ?_
      exact ev_iret rfl rfl dX6_log_44
    · replace h := h c25
      refine ev_aload_n dX6_log_28 rfl rfl rfl ?_
      refine ev_get 6 6 fl_RX6_13 (FL_g28 V) rfl dX6_log_29 ?_
      refine ev_bipush (v := nI 6) dX6_log_32 (by decide) ?_
      refine ev_iload_n dX6_log_34 rfl rfl ?_
      refine ev_imul dX6_log_35 ?_
      refine ev_iload_n dX6_log_36 rfl rfl ?_
      refine ev_iadd dX6_log_37 ?_
      have hi38 := h
      refine ev_iald (FL_g30 V) hi38 dX6_log_38 ?_
      refine ev_goto (tgt := 44) dX6_log_39 (by decide) ?_
      exact ev_iret rfl rfl dX6_log_44
theorem m_X6_log {G : ng_GG} {hf : (Nat → Int32) → (Nat → Int32) → (Nat → Int32) → (Nat → Int32) → (Nat → Int32) → (Nat → Int32) → (Nat → Int32) → (Nat → Int32) → (Nat → Int32) → (Nat → Int32) → (Nat → Int32) → (Nat → Int32) → (Nat → Int32) → (Nat → Int32) → (Nat → Int64) → (Nat → Int64) → (Nat → Int32) → ng_AM}  (V : ng_FL hf ) {F : Nat → Int32} {rl : Nat → Int32} {lg : Nat → Int32} {sta : Nat → Int32} {sm : Nat → Int32} {par : Nat → Int32} {mv : Nat → Int32} {dep : Nat → Int32} {nwa : Nat → Int32} {th : Nat → Int32} {bf : Nat → Int32} {row : Nat → Int32} {wid : Nat → Int32} {siz : Nat → Int32} {cel : Nat → Int64} {mvd : Nat → Int64} {ned : Nat → Int32} {v1 : Int32} {v2 : Int32} (h : s_X6_log F lg v1 v2)  : ng_Ev G md_X6_log 0 (ng_en 3 [.ref 28, .int v1, .int v2]) [] (hf F rl lg sta sm par mv dep nwa th bf row wid siz cel mvd ned) (K_X6_log hf rl lg sta sm par mv dep nwa th bf row wid siz cel mvd ned (f_X6_log F lg v1 v2)) := e_X6_log V h 
def K_X6_where (hf : (Nat → Int32) → (Nat → Int32) → (Nat → Int32) → (Nat → Int32) → (Nat → Int32) → (Nat → Int32) → (Nat → Int32) → (Nat → Int32) → (Nat → Int32) → (Nat → Int32) → (Nat → Int32) → (Nat → Int32) → (Nat → Int32) → (Nat → Int32) → (Nat → Int64) → (Nat → Int64) → (Nat → Int32) → ng_AM) (rl : Nat → Int32) (lg : Nat → Int32) (sta : Nat → Int32) (sm : Nat → Int32) (par : Nat → Int32) (mv : Nat → Int32) (dep : Nat → Int32) (nwa : Nat → Int32) (th : Nat → Int32) (bf : Nat → Int32) (row : Nat → Int32) (wid : Nat → Int32) (siz : Nat → Int32) (cel : Nat → Int64) (mvd : Nat → Int64) (ned : Nat → Int32) (r : (Nat → Int32) × Int32) : ng_RR := (some (.int (r.2)), hf (r.1) rl lg sta sm par mv dep nwa th bf row wid siz cel mvd ned)
def f_X6_where_107 (kk30 : (Nat → Int32) → (Nat → Int32) → (Nat → Int32) → Int32 → Int32 → Int32 → Int32 → ((Nat → Int32) × Int32)) (F : Nat → Int32) (rl : Nat → Int32) (lg : Nat → Int32) (v1 : Int32) (v2 : Int32) (v3 : Int32) (v4 : Int32) : (Nat → Int32) × Int32 := kk30 F rl lg v1 v2 v3 (v4 + nI 1)
def s_X6_where_107 (sk30 : (Nat → Int32) → (Nat → Int32) → (Nat → Int32) → Int32 → Int32 → Int32 → Int32 → Prop) (F : Nat → Int32) (rl : Nat → Int32) (lg : Nat → Int32) (v1 : Int32) (v2 : Int32) (v3 : Int32) (v4 : Int32) : Prop := sk30 F rl lg v1 v2 v3 (v4 + nI 1)
set_option maxRecDepth 100000 in
set_option maxHeartbeats 4000000 in
theorem e_X6_where_107 {G : ng_GG} {hf : (Nat → Int32) → (Nat → Int32) → (Nat → Int32) → (Nat → Int32) → (Nat → Int32) → (Nat → Int32) → (Nat → Int32) → (Nat → Int32) → (Nat → Int32) → (Nat → Int32) → (Nat → Int32) → (Nat → Int32) → (Nat → Int32) → (Nat → Int32) → (Nat → Int64) → (Nat → Int64) → (Nat → Int32) → ng_AM}  (V : ng_FL hf ) {F : Nat → Int32} {rl : Nat → Int32} {lg : Nat → Int32} {sta : Nat → Int32} {sm : Nat → Int32} {par : Nat → Int32} {mv : Nat → Int32} {dep : Nat → Int32} {nwa : Nat → Int32} {th : Nat → Int32} {bf : Nat → Int32} {row : Nat → Int32} {wid : Nat → Int32} {siz : Nat → Int32} {cel : Nat → Int64} {mvd : Nat → Int64} {ned : Nat → Int32} {kk30 : (Nat → Int32) → (Nat → Int32) → (Nat → Int32) → Int32 → Int32 → Int32 → Int32 → ((Nat → Int32) × Int32)} {sk30 : (Nat → Int32) → (Nat → Int32) → (Nat → Int32) → Int32 → Int32 → Int32 → Int32 → Prop} (hk30 : ∀ (F : Nat → Int32) (rl : Nat → Int32) (lg : Nat → Int32) (sta : Nat → Int32) (sm : Nat → Int32) (par : Nat → Int32) (mv : Nat → Int32) (dep : Nat → Int32) (nwa : Nat → Int32) (th : Nat → Int32) (bf : Nat → Int32) (row : Nat → Int32) (wid : Nat → Int32) (siz : Nat → Int32) (cel : Nat → Int64) (mvd : Nat → Int64) (ned : Nat → Int32) (v1 : Int32) (v2 : Int32) (v3 : Int32) (v4 : Int32), sk30 F rl lg v1 v2 v3 v4 → ng_Ev G md_X6_where 30 [some (.ref 28), some (.int v1), some (.int v2), some (.int v3), some (.int v4)] [] (hf F rl lg sta sm par mv dep nwa th bf row wid siz cel mvd ned) (K_X6_where hf rl lg sta sm par mv dep nwa th bf row wid siz cel mvd ned (kk30 F rl lg v1 v2 v3 v4))) {v1 : Int32} {v2 : Int32} {v3 : Int32} {v4 : Int32} (h : s_X6_where_107 sk30 F rl lg v1 v2 v3 v4)  : ng_Ev G md_X6_where 107 [some (.ref 28), some (.int v1), some (.int v2), some (.int v3), some (.int v4)] [] (hf F rl lg sta sm par mv dep nwa th bf row wid siz cel mvd ned) (K_X6_where hf rl lg sta sm par mv dep nwa th bf row wid siz cel mvd ned (f_X6_where_107 kk30 F rl lg v1 v2 v3 v4)) := by
  unfold s_X6_where_107 at h
  unfold f_X6_where_107
  refine ev_iinc (v := v4 + nI 1) (L' := [some (.ref 28), some (.int v1), some (.int v2), some (.int v3), some (.int (v4 + nI 1))]) dX6_where_107 rfl (by rfl) rfl ?_
  refine ev_goto (tgt := 30) dX6_where_110 (by decide) ?_
  exact ev_sub (hk30 F rl lg sta sm par mv dep nwa th bf row wid siz cel mvd ned v1 v2 v3 (v4 + nI 1) h) (sub_s (sub_s (sub_s (sub_s (sub_s sub_e)))))
def f_X6_where_30  : Nat → (Nat → Int32) → (Nat → Int32) → (Nat → Int32) → Int32 → Int32 → Int32 → Int32 → ((Nat → Int32) × Int32)
  | 0, F, _, _, _, _, _, _ => (F, 0)
  | n + 1, F, rl, lg, v1, v2, v3, v4 => (if (F 5) ≤ v4 then (F, v3) else (if (lg (((nI 6) * v4) + (nI 5)).toNatClampNeg) = 0 then (if (lg (((nI 6) * v4) + (nI 1)).toNatClampNeg) = v2 then (if (rl ((f_X6_note (lg (((nI 6) * v4) + (nI 3)).toNatClampNeg)) + (nI 1)).toNatClampNeg) = v1 then f_X6_where_107 (f_X6_where_30 n) F rl lg v1 v2 (lg ((nI 6) * v4).toNatClampNeg) v4 else f_X6_where_107 (f_X6_where_30 n) F rl lg v1 v2 v3 v4) else f_X6_where_107 (f_X6_where_30 n) F rl lg v1 v2 v3 v4) else f_X6_where_107 (f_X6_where_30 n) F rl lg v1 v2 v3 v4))
def s_X6_where_30  : Nat → (Nat → Int32) → (Nat → Int32) → (Nat → Int32) → Int32 → Int32 → Int32 → Int32 → Prop
  | 0, _, _, _, _, _, _, _ => False
  | n + 1, F, rl, lg, v1, v2, v3, v4 => (¬ (F 5) ≤ v4 → (vp_in (((nI 6) * v4) + (nI 5)) 360 ∧ (((lg (((nI 6) * v4) + (nI 5)).toNatClampNeg) = 0 → (vp_in (((nI 6) * v4) + (nI 1)) 360 ∧ (((lg (((nI 6) * v4) + (nI 1)).toNatClampNeg) = v2 → (vp_in (((nI 6) * v4) + (nI 3)) 360 ∧ (vp_in ((f_X6_note (lg (((nI 6) * v4) + (nI 3)).toNatClampNeg)) + (nI 1)) 527 ∧ (((rl ((f_X6_note (lg (((nI 6) * v4) + (nI 3)).toNatClampNeg)) + (nI 1)).toNatClampNeg) = v1 → (vp_in ((nI 6) * v4) 360 ∧ s_X6_where_107 (s_X6_where_30 n) F rl lg v1 v2 (lg ((nI 6) * v4).toNatClampNeg) v4)) ∧ (¬ (rl ((f_X6_note (lg (((nI 6) * v4) + (nI 3)).toNatClampNeg)) + (nI 1)).toNatClampNeg) = v1 → s_X6_where_107 (s_X6_where_30 n) F rl lg v1 v2 v3 v4))))) ∧ (¬ (lg (((nI 6) * v4) + (nI 1)).toNatClampNeg) = v2 → s_X6_where_107 (s_X6_where_30 n) F rl lg v1 v2 v3 v4)))) ∧ (¬ (lg (((nI 6) * v4) + (nI 5)).toNatClampNeg) = 0 → s_X6_where_107 (s_X6_where_30 n) F rl lg v1 v2 v3 v4))))
set_option maxRecDepth 100000 in
set_option maxHeartbeats 4000000 in
theorem e_X6_where_30 {G : ng_GG} {hf : (Nat → Int32) → (Nat → Int32) → (Nat → Int32) → (Nat → Int32) → (Nat → Int32) → (Nat → Int32) → (Nat → Int32) → (Nat → Int32) → (Nat → Int32) → (Nat → Int32) → (Nat → Int32) → (Nat → Int32) → (Nat → Int32) → (Nat → Int32) → (Nat → Int64) → (Nat → Int64) → (Nat → Int32) → ng_AM}  (V : ng_FL hf )  : ∀ (n : Nat) (F : Nat → Int32) (rl : Nat → Int32) (lg : Nat → Int32) (sta : Nat → Int32) (sm : Nat → Int32) (par : Nat → Int32) (mv : Nat → Int32) (dep : Nat → Int32) (nwa : Nat → Int32) (th : Nat → Int32) (bf : Nat → Int32) (row : Nat → Int32) (wid : Nat → Int32) (siz : Nat → Int32) (cel : Nat → Int64) (mvd : Nat → Int64) (ned : Nat → Int32) (v1 : Int32) (v2 : Int32) (v3 : Int32) (v4 : Int32), s_X6_where_30  n F rl lg v1 v2 v3 v4 → ng_Ev G md_X6_where 30 [some (.ref 28), some (.int v1), some (.int v2), some (.int v3), some (.int v4)] [] (hf F rl lg sta sm par mv dep nwa th bf row wid siz cel mvd ned) (K_X6_where hf rl lg sta sm par mv dep nwa th bf row wid siz cel mvd ned (f_X6_where_30  n F rl lg v1 v2 v3 v4)) := by
  intro n
  induction n with
  | zero => intro F rl lg sta sm par mv dep nwa th bf row wid siz cel mvd ned v1 v2 v3 v4 h; exact False.elim h
  | succ n ih =>
    intro F rl lg sta sm par mv dep nwa th bf row wid siz cel mvd ned v1 v2 v3 v4 h 
    rw [s_X6_where_30] at h
    rw [f_X6_where_30]
    refine ev_iload dX6_where_30 rfl ?_
    refine ev_aload_n dX6_where_32 rfl rfl rfl ?_
    refine ev_get 6 5 fl_RX6_128 (FL_g28 V) rfl dX6_where_33 ?_
    refine bk_icmp_ge (tgt := 113) dX6_where_36 (by decide) (fun c36 => ?_) (fun c36 => ?_)
    · refine ev_iload_n dX6_where_113 rfl rfl ?_
      exact ev_iret rfl rfl dX6_where_114
    · replace h := h c36
      refine ev_aload_n dX6_where_39 rfl rfl rfl ?_
      refine ev_get 6 6 fl_RX6_13 (FL_g28 V) rfl dX6_where_40 ?_
      refine ev_bipush (v := nI 6) dX6_where_43 (by decide) ?_
      refine ev_iload dX6_where_45 rfl ?_
      refine ev_imul dX6_where_47 ?_
      refine ev_iconst (v := nI 5) dX6_where_48 (by decide) ?_
      refine ev_iadd dX6_where_49 ?_
      have hi50 := h.1
      replace h := h.2
      refine ev_iald (FL_g30 V) hi50 dX6_where_50 ?_
      refine bk_if_ne (tgt := 107) dX6_where_51 (by decide) (fun c51 => ?_) (fun c51 => ?_)
      · replace h := h.2 c51
        exact ev_sub (e_X6_where_107 V ih h) (sub_s (sub_s (sub_s (sub_s (sub_s sub_e)))))
      · replace h := h.1 c51
        refine ev_aload_n dX6_where_54 rfl rfl rfl ?_
        refine ev_get 6 6 fl_RX6_13 (FL_g28 V) rfl dX6_where_55 ?_
        refine ev_bipush (v := nI 6) dX6_where_58 (by decide) ?_
        refine ev_iload dX6_where_60 rfl ?_
        refine ev_imul dX6_where_62 ?_
        refine ev_iconst (v := nI 1) dX6_where_63 (by decide) ?_
        refine ev_iadd dX6_where_64 ?_
        have hi65 := h.1
        replace h := h.2
        refine ev_iald (FL_g30 V) hi65 dX6_where_65 ?_
        refine ev_iload_n dX6_where_66 rfl rfl ?_
        refine bk_icmp_ne (tgt := 107) dX6_where_67 (by decide) (fun c67 => ?_) (fun c67 => ?_)
        · replace h := h.2 c67
          exact ev_sub (e_X6_where_107 V ih h) (sub_s (sub_s (sub_s (sub_s (sub_s sub_e)))))
        · replace h := h.1 c67
          refine ev_aload_n dX6_where_70 rfl rfl rfl ?_
          refine ev_get 6 1 fl_RX6_9 (FL_g28 V) rfl dX6_where_71 ?_
          refine ev_aload_n dX6_where_74 rfl rfl rfl ?_
          refine ev_get 6 6 fl_RX6_13 (FL_g28 V) rfl dX6_where_75 ?_
          refine ev_bipush (v := nI 6) dX6_where_78 (by decide) ?_
          refine ev_iload dX6_where_80 rfl ?_
          refine ev_imul dX6_where_82 ?_
          refine ev_iconst (v := nI 3) dX6_where_83 (by decide) ?_
          refine ev_iadd dX6_where_84 ?_
          have hi85 := h.1
          replace h := h.2
          refine ev_iald (FL_g30 V) hi85 dX6_where_85 ?_
          refine bk_callS (As := [.int (lg (((nI 6) * v4) + (nI 3)).toNatClampNeg)]) (st := [.ref 29]) (st2 := [.int (f_X6_note (lg (((nI 6) * v4) + (nI 3)).toNatClampNeg)), .ref 29]) (M2 := hf F rl lg sta sm par mv dep nwa th bf row wid siz cel mvd ned) ok_X6_note lk_RX6_71 (ng_rok.of rfl rfl) rfl rfl rfl rfl dX6_where_86 (m_X6_note trivial) rfl rfl ?_
          refine ev_iconst (v := nI 1) dX6_where_89 (by decide) ?_
          refine ev_iadd dX6_where_90 ?_
          have hi91 := h.1
          replace h := h.2
          refine ev_iald (FL_g29 V) hi91 dX6_where_91 ?_
          refine ev_iload_n dX6_where_92 rfl rfl ?_
          refine bk_icmp_ne (tgt := 107) dX6_where_93 (by decide) (fun c93 => ?_) (fun c93 => ?_)
          · replace h := h.2 c93
            exact ev_sub (e_X6_where_107 V ih h) (sub_s (sub_s (sub_s (sub_s (sub_s sub_e)))))
          · replace h := h.1 c93
            refine ev_aload_n dX6_where_96 rfl rfl rfl ?_
            refine ev_get 6 6 fl_RX6_13 (FL_g28 V) rfl dX6_where_97 ?_
            refine ev_bipush (v := nI 6) dX6_where_100 (by decide) ?_
            refine ev_iload dX6_where_102 rfl ?_
            refine ev_imul dX6_where_104 ?_
            have hi105 := h.1
            replace h := h.2
            refine ev_iald (FL_g30 V) hi105 dX6_where_105 ?_
            refine ev_istore_n (L' := [some (.ref 28), some (.int v1), some (.int v2), some (.int (lg ((nI 6) * v4).toNatClampNeg)), some (.int v4)]) dX6_where_106 rfl (ng_lt rfl) rfl ?_
            exact ev_sub (e_X6_where_107 V ih h) (sub_s (sub_s (sub_s (sub_s (sub_s sub_e)))))
def f_X6_where  (F : Nat → Int32) (rl : Nat → Int32) (lg : Nat → Int32) (v1 : Int32) (v2 : Int32) : (Nat → Int32) × Int32 := (if (f_X6_in v1 (nI 0) (nI 4)) = 0 then ((upd F 0 (nI 0)), (-2)) else (if (f_X6_isHouse rl v2) = 0 then ((upd F 0 (nI 0)), (-2)) else f_X6_where_30 ng_F (upd F 0 (nI 0)) rl lg v1 v2 (-1) (nI 0)))
def s_X6_where  (F : Nat → Int32) (rl : Nat → Int32) (lg : Nat → Int32) (v1 : Int32) (v2 : Int32) : Prop := (¬ (f_X6_in v1 (nI 0) (nI 4)) = 0 → (s_X6_isHouse rl v2 ∧ (¬ (f_X6_isHouse rl v2) = 0 → s_X6_where_30 ng_F (upd F 0 (nI 0)) rl lg v1 v2 (-1) (nI 0))))
set_option maxRecDepth 100000 in
set_option maxHeartbeats 4000000 in
theorem e_X6_where {G : ng_GG} {hf : (Nat → Int32) → (Nat → Int32) → (Nat → Int32) → (Nat → Int32) → (Nat → Int32) → (Nat → Int32) → (Nat → Int32) → (Nat → Int32) → (Nat → Int32) → (Nat → Int32) → (Nat → Int32) → (Nat → Int32) → (Nat → Int32) → (Nat → Int32) → (Nat → Int64) → (Nat → Int64) → (Nat → Int32) → ng_AM}  (V : ng_FL hf ) {F : Nat → Int32} {rl : Nat → Int32} {lg : Nat → Int32} {sta : Nat → Int32} {sm : Nat → Int32} {par : Nat → Int32} {mv : Nat → Int32} {dep : Nat → Int32} {nwa : Nat → Int32} {th : Nat → Int32} {bf : Nat → Int32} {row : Nat → Int32} {wid : Nat → Int32} {siz : Nat → Int32} {cel : Nat → Int64} {mvd : Nat → Int64} {ned : Nat → Int32}  {v1 : Int32} {v2 : Int32} (h : s_X6_where  F rl lg v1 v2)  : ng_Ev G md_X6_where 0 [some (.ref 28), some (.int v1), some (.int v2), none, none] [] (hf F rl lg sta sm par mv dep nwa th bf row wid siz cel mvd ned) (K_X6_where hf rl lg sta sm par mv dep nwa th bf row wid siz cel mvd ned (f_X6_where  F rl lg v1 v2)) := by
  unfold s_X6_where at h
  unfold f_X6_where
  refine ev_aload_n dX6_where_0 rfl rfl rfl ?_
  refine ev_iconst (v := nI 0) dX6_where_1 (by decide) ?_
  refine ev_put 6 0 fs_RX6_64 (FL_g28 V) (ng_lt rfl) rfl (FL_s28 V (F' := (upd F 0 (nI 0)))) (ng_fit_i _) dX6_where_2 ?_
  refine ev_iload_n dX6_where_5 rfl rfl ?_
  refine ev_iconst (v := nI 0) dX6_where_6 (by decide) ?_
  refine ev_iconst (v := nI 4) dX6_where_7 (by decide) ?_
  refine bk_callS (As := [.int v1, .int (nI 0), .int (nI 4)]) (st := []) (st2 := [.int (f_X6_in v1 (nI 0) (nI 4))]) (M2 := hf (upd F 0 (nI 0)) rl lg sta sm par mv dep nwa th bf row wid siz cel mvd ned) ok_X6_in lk_RX6_67 (ng_rok.of rfl rfl) rfl rfl rfl rfl dX6_where_8 (m_X6_in trivial) rfl rfl ?_
  refine bk_if_eq (tgt := 22) dX6_where_11 (by decide) (fun c11 => ?_) (fun c11 => ?_)
  · refine ev_bipush (v := (-2)) dX6_where_22 (by decide) ?_
    exact ev_iret rfl rfl dX6_where_24
  · replace h := h c11
    refine ev_aload_n dX6_where_14 rfl rfl rfl ?_
    refine ev_iload_n dX6_where_15 rfl rfl ?_
    have hs16 := h.1
    replace h := h.2
    refine bk_callV (As := [.int v2]) (st := []) (st2 := [.int (f_X6_isHouse rl v2)]) (M2 := hf (upd F 0 (nI 0)) rl lg sta sm par mv dep nwa th bf row wid siz cel mvd ned) ok_X6_isHouse lk_RX6_78 (ng_rok.of rfl rfl) (FL_g28 V) rfl rfl rfl rfl rfl rfl dX6_where_16 (m_X6_isHouse V hs16) rfl rfl ?_
    refine bk_if_ne (tgt := 25) dX6_where_19 (by decide) (fun c19 => ?_) (fun c19 => ?_)
    · replace h := h c19
      refine ev_iconst (v := (-1)) dX6_where_25 (by decide) ?_
      refine ev_istore_n (L' := [some (.ref 28), some (.int v1), some (.int v2), some (.int (-1)), none]) dX6_where_26 rfl (ng_lt rfl) rfl ?_
      refine ev_iconst (v := nI 0) dX6_where_27 (by decide) ?_
      refine ev_istore (L' := [some (.ref 28), some (.int v1), some (.int v2), some (.int (-1)), some (.int (nI 0))]) dX6_where_28 (ng_lt rfl) rfl ?_
      exact ev_sub (e_X6_where_30 V ng_F (upd F 0 (nI 0)) rl lg sta sm par mv dep nwa th bf row wid siz cel mvd ned v1 v2 (-1) (nI 0) h) (sub_s (sub_s (sub_s (sub_s (sub_s sub_e)))))
    · refine ev_bipush (v := (-2)) dX6_where_22 (by decide) ?_
      exact ev_iret rfl rfl dX6_where_24
theorem m_X6_where {G : ng_GG} {hf : (Nat → Int32) → (Nat → Int32) → (Nat → Int32) → (Nat → Int32) → (Nat → Int32) → (Nat → Int32) → (Nat → Int32) → (Nat → Int32) → (Nat → Int32) → (Nat → Int32) → (Nat → Int32) → (Nat → Int32) → (Nat → Int32) → (Nat → Int32) → (Nat → Int64) → (Nat → Int64) → (Nat → Int32) → ng_AM}  (V : ng_FL hf ) {F : Nat → Int32} {rl : Nat → Int32} {lg : Nat → Int32} {sta : Nat → Int32} {sm : Nat → Int32} {par : Nat → Int32} {mv : Nat → Int32} {dep : Nat → Int32} {nwa : Nat → Int32} {th : Nat → Int32} {bf : Nat → Int32} {row : Nat → Int32} {wid : Nat → Int32} {siz : Nat → Int32} {cel : Nat → Int64} {mvd : Nat → Int64} {ned : Nat → Int32} {v1 : Int32} {v2 : Int32} (h : s_X6_where F rl lg v1 v2)  : ng_Ev G md_X6_where 0 (ng_en 5 [.ref 28, .int v1, .int v2]) [] (hf F rl lg sta sm par mv dep nwa th bf row wid siz cel mvd ned) (K_X6_where hf rl lg sta sm par mv dep nwa th bf row wid siz cel mvd ned (f_X6_where F rl lg v1 v2)) := e_X6_where V h 
def K_X6_count (hf : (Nat → Int32) → (Nat → Int32) → (Nat → Int32) → (Nat → Int32) → (Nat → Int32) → (Nat → Int32) → (Nat → Int32) → (Nat → Int32) → (Nat → Int32) → (Nat → Int32) → (Nat → Int32) → (Nat → Int32) → (Nat → Int32) → (Nat → Int32) → (Nat → Int64) → (Nat → Int64) → (Nat → Int32) → ng_AM) (rl : Nat → Int32) (lg : Nat → Int32) (sta : Nat → Int32) (sm : Nat → Int32) (par : Nat → Int32) (mv : Nat → Int32) (dep : Nat → Int32) (nwa : Nat → Int32) (th : Nat → Int32) (bf : Nat → Int32) (row : Nat → Int32) (wid : Nat → Int32) (siz : Nat → Int32) (cel : Nat → Int64) (mvd : Nat → Int64) (ned : Nat → Int32) (r : (Nat → Int32) × Int32) : ng_RR := (some (.int (r.2)), hf (r.1) rl lg sta sm par mv dep nwa th bf row wid siz cel mvd ned)
def f_X6_count_176 (kk156 : (Nat → Int32) → (Nat → Int32) → (Nat → Int32) → Int32 → Int32 → ((Nat → Int32) × Int32)) (F : Nat → Int32) (rl : Nat → Int32) (wid : Nat → Int32) (v3 : Int32) (t0 : Int32) (t1 : Int32) : (Nat → Int32) × Int32 := kk156 F rl wid (t1 + t0) (v3 + nI 1)
def s_X6_count_176 (sk156 : (Nat → Int32) → (Nat → Int32) → (Nat → Int32) → Int32 → Int32 → Prop) (F : Nat → Int32) (rl : Nat → Int32) (wid : Nat → Int32) (v3 : Int32) (t0 : Int32) (t1 : Int32) : Prop := sk156 F rl wid (t1 + t0) (v3 + nI 1)
set_option maxRecDepth 100000 in
set_option maxHeartbeats 4000000 in
theorem e_X6_count_176 {G : ng_GG} {hf : (Nat → Int32) → (Nat → Int32) → (Nat → Int32) → (Nat → Int32) → (Nat → Int32) → (Nat → Int32) → (Nat → Int32) → (Nat → Int32) → (Nat → Int32) → (Nat → Int32) → (Nat → Int32) → (Nat → Int32) → (Nat → Int32) → (Nat → Int32) → (Nat → Int64) → (Nat → Int64) → (Nat → Int32) → ng_AM}  (V : ng_FL hf ) {F : Nat → Int32} {rl : Nat → Int32} {lg : Nat → Int32} {sta : Nat → Int32} {sm : Nat → Int32} {par : Nat → Int32} {mv : Nat → Int32} {dep : Nat → Int32} {nwa : Nat → Int32} {th : Nat → Int32} {bf : Nat → Int32} {row : Nat → Int32} {wid : Nat → Int32} {siz : Nat → Int32} {cel : Nat → Int64} {mvd : Nat → Int64} {ned : Nat → Int32} {kk156 : (Nat → Int32) → (Nat → Int32) → (Nat → Int32) → Int32 → Int32 → ((Nat → Int32) × Int32)} {sk156 : (Nat → Int32) → (Nat → Int32) → (Nat → Int32) → Int32 → Int32 → Prop} (hk156 : ∀ (F : Nat → Int32) (rl : Nat → Int32) (lg : Nat → Int32) (sta : Nat → Int32) (sm : Nat → Int32) (par : Nat → Int32) (mv : Nat → Int32) (dep : Nat → Int32) (nwa : Nat → Int32) (th : Nat → Int32) (bf : Nat → Int32) (row : Nat → Int32) (wid : Nat → Int32) (siz : Nat → Int32) (cel : Nat → Int64) (mvd : Nat → Int64) (ned : Nat → Int32) (v2 : Int32) (v3 : Int32), sk156 F rl wid v2 v3 → ng_Ev G md_X6_count 156 [some (.ref 28), none, some (.int v2), some (.int v3)] [] (hf F rl lg sta sm par mv dep nwa th bf row wid siz cel mvd ned) (K_X6_count hf rl lg sta sm par mv dep nwa th bf row wid siz cel mvd ned (kk156 F rl wid v2 v3))) {v3 : Int32} {t0 : Int32} {t1 : Int32} (h : s_X6_count_176 sk156 F rl wid v3 t0 t1)  : ng_Ev G md_X6_count 176 [some (.ref 28), none, none, some (.int v3)] [.int t0, .int t1] (hf F rl lg sta sm par mv dep nwa th bf row wid siz cel mvd ned) (K_X6_count hf rl lg sta sm par mv dep nwa th bf row wid siz cel mvd ned (f_X6_count_176 kk156 F rl wid v3 t0 t1)) := by
  unfold s_X6_count_176 at h
  unfold f_X6_count_176
  refine ev_iadd dX6_count_176 ?_
  refine ev_istore_n (L' := [some (.ref 28), none, some (.int (t1 + t0)), some (.int v3)]) dX6_count_177 rfl (ng_lt rfl) rfl ?_
  refine ev_iinc (v := v3 + nI 1) (L' := [some (.ref 28), none, some (.int (t1 + t0)), some (.int (v3 + nI 1))]) dX6_count_178 rfl (by rfl) rfl ?_
  refine ev_goto (tgt := 156) dX6_count_181 (by decide) ?_
  exact ev_sub (hk156 F rl lg sta sm par mv dep nwa th bf row wid siz cel mvd ned (t1 + t0) (v3 + nI 1) h) (sub_s (sub_n (sub_s (sub_s sub_e))))
def f_X6_count_156  : Nat → (Nat → Int32) → (Nat → Int32) → (Nat → Int32) → Int32 → Int32 → ((Nat → Int32) × Int32)
  | 0, F, _, _, _, _ => (F, 0)
  | n + 1, F, rl, wid, v2, v3 => (if (nI 4) ≤ v3 then (F, v2) else (if (wid v3.toNatClampNeg) < 0 then f_X6_count_176 (f_X6_count_156 n) F rl wid v3 (nI 0) v2 else f_X6_count_176 (f_X6_count_156 n) F rl wid v3 (nI 1) v2))
def s_X6_count_156  : Nat → (Nat → Int32) → (Nat → Int32) → (Nat → Int32) → Int32 → Int32 → Prop
  | 0, _, _, _, _, _ => False
  | n + 1, F, rl, wid, v2, v3 => (¬ (nI 4) ≤ v3 → (vp_in v3 4 ∧ (((wid v3.toNatClampNeg) < 0 → s_X6_count_176 (s_X6_count_156 n) F rl wid v3 (nI 0) v2) ∧ (¬ (wid v3.toNatClampNeg) < 0 → s_X6_count_176 (s_X6_count_156 n) F rl wid v3 (nI 1) v2))))
set_option maxRecDepth 100000 in
set_option maxHeartbeats 4000000 in
theorem e_X6_count_156 {G : ng_GG} {hf : (Nat → Int32) → (Nat → Int32) → (Nat → Int32) → (Nat → Int32) → (Nat → Int32) → (Nat → Int32) → (Nat → Int32) → (Nat → Int32) → (Nat → Int32) → (Nat → Int32) → (Nat → Int32) → (Nat → Int32) → (Nat → Int32) → (Nat → Int32) → (Nat → Int64) → (Nat → Int64) → (Nat → Int32) → ng_AM}  (V : ng_FL hf )  : ∀ (n : Nat) (F : Nat → Int32) (rl : Nat → Int32) (lg : Nat → Int32) (sta : Nat → Int32) (sm : Nat → Int32) (par : Nat → Int32) (mv : Nat → Int32) (dep : Nat → Int32) (nwa : Nat → Int32) (th : Nat → Int32) (bf : Nat → Int32) (row : Nat → Int32) (wid : Nat → Int32) (siz : Nat → Int32) (cel : Nat → Int64) (mvd : Nat → Int64) (ned : Nat → Int32) (v2 : Int32) (v3 : Int32), s_X6_count_156  n F rl wid v2 v3 → ng_Ev G md_X6_count 156 [some (.ref 28), none, some (.int v2), some (.int v3)] [] (hf F rl lg sta sm par mv dep nwa th bf row wid siz cel mvd ned) (K_X6_count hf rl lg sta sm par mv dep nwa th bf row wid siz cel mvd ned (f_X6_count_156  n F rl wid v2 v3)) := by
  intro n
  induction n with
  | zero => intro F rl lg sta sm par mv dep nwa th bf row wid siz cel mvd ned v2 v3 h; exact False.elim h
  | succ n ih =>
    intro F rl lg sta sm par mv dep nwa th bf row wid siz cel mvd ned v2 v3 h 
    rw [s_X6_count_156] at h
    rw [f_X6_count_156]
    refine ev_iload_n dX6_count_156 rfl rfl ?_
    refine ev_iconst (v := nI 4) dX6_count_157 (by decide) ?_
    refine bk_icmp_ge (tgt := 184) dX6_count_158 (by decide) (fun c158 => ?_) (fun c158 => ?_)
    · refine ev_iload_n dX6_count_184 rfl rfl ?_
      exact ev_iret rfl rfl dX6_count_185
    · replace h := h c158
      refine ev_iload_n dX6_count_161 rfl rfl ?_
      refine ev_aload_n dX6_count_162 rfl rfl rfl ?_
      refine ev_get 6 19 fl_RX6_44 (FL_g28 V) rfl dX6_count_163 ?_
      refine ev_iload_n dX6_count_166 rfl rfl ?_
      have hi167 := h.1
      replace h := h.2
      refine ev_iald (FL_g40 V) hi167 dX6_count_167 ?_
      refine bk_if_lt (tgt := 175) dX6_count_168 (by decide) (fun c168 => ?_) (fun c168 => ?_)
      · replace h := h.1 c168
        refine ev_iconst (v := nI 0) dX6_count_175 (by decide) ?_
        exact ev_sub (e_X6_count_176 V ih h) (sub_s (sub_n (sub_n (sub_s sub_e))))
      · replace h := h.2 c168
        refine ev_iconst (v := nI 1) dX6_count_171 (by decide) ?_
        refine ev_goto (tgt := 176) dX6_count_172 (by decide) ?_
        exact ev_sub (e_X6_count_176 V ih h) (sub_s (sub_n (sub_n (sub_s sub_e))))
def f_X6_count  (F : Nat → Int32) (rl : Nat → Int32) (wid : Nat → Int32) (v1 : Int32) : (Nat → Int32) × Int32 := (if v1 = nI 0 then ((upd F 0 (nI 0)), (rl (nI 0).toNatClampNeg)) else (if v1 = nI 1 then ((upd F 0 (nI 0)), (rl (nI 11).toNatClampNeg)) else (if v1 = nI 2 then ((upd F 0 (nI 0)), (rl (nI 12).toNatClampNeg)) else (if v1 = nI 3 then ((upd F 0 (nI 0)), (rl (nI 13).toNatClampNeg)) else (if v1 = nI 4 then ((upd F 0 (nI 0)), (rl (nI 14).toNatClampNeg)) else (if v1 = nI 5 then ((upd F 0 (nI 0)), ((upd F 0 (nI 0)) 5)) else (if v1 = nI 6 then ((upd F 0 (nI 0)), ((upd F 0 (nI 0)) 4)) else (if v1 = nI 7 then ((upd F 0 (nI 0)), (rl (nI 3).toNatClampNeg)) else (if v1 = nI 8 then ((upd F 0 (nI 0)), (rl (nI 1).toNatClampNeg)) else (if v1 = nI 9 then ((upd F 0 (nI 0)), (rl (nI 2).toNatClampNeg)) else (if v1 = nI 10 then ((upd F 0 (nI 0)), ((upd F 0 (nI 0)) 3)) else (if v1 = nI 11 then ((upd F 0 (nI 0)), ((upd F 0 (nI 0)) 16)) else (if v1 = nI 12 then f_X6_count_156 ng_F (upd F 0 (nI 0)) rl wid (nI 0) (nI 0) else ((upd F 0 (nI 0)), (-1)))))))))))))))
def s_X6_count  (F : Nat → Int32) (rl : Nat → Int32) (wid : Nat → Int32) (v1 : Int32) : Prop := (¬ v1 = nI 0 → (¬ v1 = nI 1 → (¬ v1 = nI 2 → (¬ v1 = nI 3 → (¬ v1 = nI 4 → (¬ v1 = nI 5 → (¬ v1 = nI 6 → (¬ v1 = nI 7 → (¬ v1 = nI 8 → (¬ v1 = nI 9 → (¬ v1 = nI 10 → (¬ v1 = nI 11 → (v1 = nI 12 → s_X6_count_156 ng_F (upd F 0 (nI 0)) rl wid (nI 0) (nI 0))))))))))))))
set_option maxRecDepth 100000 in
set_option maxHeartbeats 4000000 in
theorem e_X6_count {G : ng_GG} {hf : (Nat → Int32) → (Nat → Int32) → (Nat → Int32) → (Nat → Int32) → (Nat → Int32) → (Nat → Int32) → (Nat → Int32) → (Nat → Int32) → (Nat → Int32) → (Nat → Int32) → (Nat → Int32) → (Nat → Int32) → (Nat → Int32) → (Nat → Int32) → (Nat → Int64) → (Nat → Int64) → (Nat → Int32) → ng_AM}  (V : ng_FL hf ) {F : Nat → Int32} {rl : Nat → Int32} {lg : Nat → Int32} {sta : Nat → Int32} {sm : Nat → Int32} {par : Nat → Int32} {mv : Nat → Int32} {dep : Nat → Int32} {nwa : Nat → Int32} {th : Nat → Int32} {bf : Nat → Int32} {row : Nat → Int32} {wid : Nat → Int32} {siz : Nat → Int32} {cel : Nat → Int64} {mvd : Nat → Int64} {ned : Nat → Int32}  {v1 : Int32} (h : s_X6_count  F rl wid v1)  : ng_Ev G md_X6_count 0 [some (.ref 28), some (.int v1), none, none] [] (hf F rl lg sta sm par mv dep nwa th bf row wid siz cel mvd ned) (K_X6_count hf rl lg sta sm par mv dep nwa th bf row wid siz cel mvd ned (f_X6_count  F rl wid v1)) := by
  unfold s_X6_count at h
  unfold f_X6_count
  refine ev_aload_n dX6_count_0 rfl rfl rfl ?_
  refine ev_iconst (v := nI 0) dX6_count_1 (by decide) ?_
  refine ev_put 6 0 fs_RX6_64 (FL_g28 V) (ng_lt rfl) rfl (FL_s28 V (F' := (upd F 0 (nI 0)))) (ng_fit_i _) dX6_count_2 ?_
  refine ev_iload_n dX6_count_5 rfl rfl ?_
  refine bk_cases (fun c6_0 => ?_) (fun c6_0 => ?_)
  · refine ev_tab_k (k := 0) (tgt := 72) dX6_count_6 c6_0 (by decide) (by decide) (by decide) rfl (by decide) ?_
    refine ev_aload_n dX6_count_72 rfl rfl rfl ?_
    refine ev_get 6 1 fl_RX6_9 (FL_g28 V) rfl dX6_count_73 ?_
    refine ev_iconst (v := nI 0) dX6_count_76 (by decide) ?_
    refine ev_iald (FL_g29 V) (vp_in_nI (by decide) (by decide)) dX6_count_77 ?_
    exact ev_iret rfl rfl dX6_count_78
  · replace h := h c6_0
    refine bk_cases (fun c6_1 => ?_) (fun c6_1 => ?_)
    · refine ev_tab_k (k := 1) (tgt := 79) dX6_count_6 c6_1 (by decide) (by decide) (by decide) rfl (by decide) ?_
      refine ev_aload_n dX6_count_79 rfl rfl rfl ?_
      refine ev_get 6 1 fl_RX6_9 (FL_g28 V) rfl dX6_count_80 ?_
      refine ev_bipush (v := nI 11) dX6_count_83 (by decide) ?_
      refine ev_iald (FL_g29 V) (vp_in_nI (by decide) (by decide)) dX6_count_85 ?_
      exact ev_iret rfl rfl dX6_count_86
    · replace h := h c6_1
      refine bk_cases (fun c6_2 => ?_) (fun c6_2 => ?_)
      · refine ev_tab_k (k := 2) (tgt := 87) dX6_count_6 c6_2 (by decide) (by decide) (by decide) rfl (by decide) ?_
        refine ev_aload_n dX6_count_87 rfl rfl rfl ?_
        refine ev_get 6 1 fl_RX6_9 (FL_g28 V) rfl dX6_count_88 ?_
        refine ev_bipush (v := nI 12) dX6_count_91 (by decide) ?_
        refine ev_iald (FL_g29 V) (vp_in_nI (by decide) (by decide)) dX6_count_93 ?_
        exact ev_iret rfl rfl dX6_count_94
      · replace h := h c6_2
        refine bk_cases (fun c6_3 => ?_) (fun c6_3 => ?_)
        · refine ev_tab_k (k := 3) (tgt := 95) dX6_count_6 c6_3 (by decide) (by decide) (by decide) rfl (by decide) ?_
          refine ev_aload_n dX6_count_95 rfl rfl rfl ?_
          refine ev_get 6 1 fl_RX6_9 (FL_g28 V) rfl dX6_count_96 ?_
          refine ev_bipush (v := nI 13) dX6_count_99 (by decide) ?_
          refine ev_iald (FL_g29 V) (vp_in_nI (by decide) (by decide)) dX6_count_101 ?_
          exact ev_iret rfl rfl dX6_count_102
        · replace h := h c6_3
          refine bk_cases (fun c6_4 => ?_) (fun c6_4 => ?_)
          · refine ev_tab_k (k := 4) (tgt := 103) dX6_count_6 c6_4 (by decide) (by decide) (by decide) rfl (by decide) ?_
            refine ev_aload_n dX6_count_103 rfl rfl rfl ?_
            refine ev_get 6 1 fl_RX6_9 (FL_g28 V) rfl dX6_count_104 ?_
            refine ev_bipush (v := nI 14) dX6_count_107 (by decide) ?_
            refine ev_iald (FL_g29 V) (vp_in_nI (by decide) (by decide)) dX6_count_109 ?_
            exact ev_iret rfl rfl dX6_count_110
          · replace h := h c6_4
            refine bk_cases (fun c6_5 => ?_) (fun c6_5 => ?_)
            · refine ev_tab_k (k := 5) (tgt := 111) dX6_count_6 c6_5 (by decide) (by decide) (by decide) rfl (by decide) ?_
              refine ev_aload_n dX6_count_111 rfl rfl rfl ?_
              refine ev_get 6 5 fl_RX6_128 (FL_g28 V) rfl dX6_count_112 ?_
              exact ev_iret rfl rfl dX6_count_115
            · replace h := h c6_5
              refine bk_cases (fun c6_6 => ?_) (fun c6_6 => ?_)
              · refine ev_tab_k (k := 6) (tgt := 116) dX6_count_6 c6_6 (by decide) (by decide) (by decide) rfl (by decide) ?_
                refine ev_aload_n dX6_count_116 rfl rfl rfl ?_
                refine ev_get 6 4 fl_RX6_125 (FL_g28 V) rfl dX6_count_117 ?_
                exact ev_iret rfl rfl dX6_count_120
              · replace h := h c6_6
                refine bk_cases (fun c6_7 => ?_) (fun c6_7 => ?_)
                · refine ev_tab_k (k := 7) (tgt := 121) dX6_count_6 c6_7 (by decide) (by decide) (by decide) rfl (by decide) ?_
                  refine ev_aload_n dX6_count_121 rfl rfl rfl ?_
                  refine ev_get 6 1 fl_RX6_9 (FL_g28 V) rfl dX6_count_122 ?_
                  refine ev_iconst (v := nI 3) dX6_count_125 (by decide) ?_
                  refine ev_iald (FL_g29 V) (vp_in_nI (by decide) (by decide)) dX6_count_126 ?_
                  exact ev_iret rfl rfl dX6_count_127
                · replace h := h c6_7
                  refine bk_cases (fun c6_8 => ?_) (fun c6_8 => ?_)
                  · refine ev_tab_k (k := 8) (tgt := 128) dX6_count_6 c6_8 (by decide) (by decide) (by decide) rfl (by decide) ?_
                    refine ev_aload_n dX6_count_128 rfl rfl rfl ?_
                    refine ev_get 6 1 fl_RX6_9 (FL_g28 V) rfl dX6_count_129 ?_
                    refine ev_iconst (v := nI 1) dX6_count_132 (by decide) ?_
                    refine ev_iald (FL_g29 V) (vp_in_nI (by decide) (by decide)) dX6_count_133 ?_
                    exact ev_iret rfl rfl dX6_count_134
                  · replace h := h c6_8
                    refine bk_cases (fun c6_9 => ?_) (fun c6_9 => ?_)
                    · refine ev_tab_k (k := 9) (tgt := 135) dX6_count_6 c6_9 (by decide) (by decide) (by decide) rfl (by decide) ?_
                      refine ev_aload_n dX6_count_135 rfl rfl rfl ?_
                      refine ev_get 6 1 fl_RX6_9 (FL_g28 V) rfl dX6_count_136 ?_
                      refine ev_iconst (v := nI 2) dX6_count_139 (by decide) ?_
                      refine ev_iald (FL_g29 V) (vp_in_nI (by decide) (by decide)) dX6_count_140 ?_
                      exact ev_iret rfl rfl dX6_count_141
                    · replace h := h c6_9
                      refine bk_cases (fun c6_10 => ?_) (fun c6_10 => ?_)
                      · refine ev_tab_k (k := 10) (tgt := 142) dX6_count_6 c6_10 (by decide) (by decide) (by decide) rfl (by decide) ?_
                        refine ev_aload_n dX6_count_142 rfl rfl rfl ?_
                        refine ev_get 6 3 fl_RX6_92 (FL_g28 V) rfl dX6_count_143 ?_
                        exact ev_iret rfl rfl dX6_count_146
                      · replace h := h c6_10
                        refine bk_cases (fun c6_11 => ?_) (fun c6_11 => ?_)
                        · refine ev_tab_k (k := 11) (tgt := 147) dX6_count_6 c6_11 (by decide) (by decide) (by decide) rfl (by decide) ?_
                          refine ev_aload_n dX6_count_147 rfl rfl rfl ?_
                          refine ev_get 6 16 fl_RX6_217 (FL_g28 V) rfl dX6_count_148 ?_
                          exact ev_iret rfl rfl dX6_count_151
                        · replace h := h c6_11
                          refine bk_cases (fun c6_12 => ?_) (fun c6_12 => ?_)
                          · replace h := h c6_12
                            refine ev_tab_k (k := 12) (tgt := 152) dX6_count_6 c6_12 (by decide) (by decide) (by decide) rfl (by decide) ?_
                            refine ev_iconst (v := nI 0) dX6_count_152 (by decide) ?_
                            refine ev_istore_n (L' := [some (.ref 28), some (.int v1), some (.int (nI 0)), none]) dX6_count_153 rfl (ng_lt rfl) rfl ?_
                            refine ev_iconst (v := nI 0) dX6_count_154 (by decide) ?_
                            refine ev_istore_n (L' := [some (.ref 28), some (.int v1), some (.int (nI 0)), some (.int (nI 0))]) dX6_count_155 rfl (ng_lt rfl) rfl ?_
                            exact ev_sub (e_X6_count_156 V ng_F (upd F 0 (nI 0)) rl lg sta sm par mv dep nwa th bf row wid siz cel mvd ned (nI 0) (nI 0) h) (sub_s (sub_n (sub_s (sub_s sub_e))))
                          · refine ev_tab_d (hi := 12) (tgt := 186) (m := 12) dX6_count_6 rfl (fun q hq => match q, hq with | 0, _ => c6_0 | 1, _ => c6_1 | 2, _ => c6_2 | 3, _ => c6_3 | 4, _ => c6_4 | 5, _ => c6_5 | 6, _ => c6_6 | 7, _ => c6_7 | 8, _ => c6_8 | 9, _ => c6_9 | 10, _ => c6_10 | 11, _ => c6_11 | 12, _ => c6_12 | (q + 13), hq => absurd hq (by omega)) (by decide) ?_
                            refine ev_iconst (v := (-1)) dX6_count_186 (by decide) ?_
                            exact ev_iret rfl rfl dX6_count_187
theorem m_X6_count {G : ng_GG} {hf : (Nat → Int32) → (Nat → Int32) → (Nat → Int32) → (Nat → Int32) → (Nat → Int32) → (Nat → Int32) → (Nat → Int32) → (Nat → Int32) → (Nat → Int32) → (Nat → Int32) → (Nat → Int32) → (Nat → Int32) → (Nat → Int32) → (Nat → Int32) → (Nat → Int64) → (Nat → Int64) → (Nat → Int32) → ng_AM}  (V : ng_FL hf ) {F : Nat → Int32} {rl : Nat → Int32} {lg : Nat → Int32} {sta : Nat → Int32} {sm : Nat → Int32} {par : Nat → Int32} {mv : Nat → Int32} {dep : Nat → Int32} {nwa : Nat → Int32} {th : Nat → Int32} {bf : Nat → Int32} {row : Nat → Int32} {wid : Nat → Int32} {siz : Nat → Int32} {cel : Nat → Int64} {mvd : Nat → Int64} {ned : Nat → Int32} {v1 : Int32} (h : s_X6_count F rl wid v1)  : ng_Ev G md_X6_count 0 (ng_en 4 [.ref 28, .int v1]) [] (hf F rl lg sta sm par mv dep nwa th bf row wid siz cel mvd ned) (K_X6_count hf rl lg sta sm par mv dep nwa th bf row wid siz cel mvd ned (f_X6_count F rl wid v1)) := e_X6_count V h 
def K_X6_row (hf : (Nat → Int32) → (Nat → Int32) → (Nat → Int32) → (Nat → Int32) → (Nat → Int32) → (Nat → Int32) → (Nat → Int32) → (Nat → Int32) → (Nat → Int32) → (Nat → Int32) → (Nat → Int32) → (Nat → Int32) → (Nat → Int32) → (Nat → Int32) → (Nat → Int64) → (Nat → Int64) → (Nat → Int32) → ng_AM) (rl : Nat → Int32) (lg : Nat → Int32) (sta : Nat → Int32) (sm : Nat → Int32) (par : Nat → Int32) (mv : Nat → Int32) (dep : Nat → Int32) (nwa : Nat → Int32) (th : Nat → Int32) (bf : Nat → Int32) (row : Nat → Int32) (mvd : Nat → Int64) (ned : Nat → Int32) (r : (Nat → Int32) × (Nat → Int32) × (Nat → Int32) × (Nat → Int64) × Int32) : ng_RR := (some (.int (r.2.2.2.2)), hf (r.1) rl lg sta sm par mv dep nwa th bf row (r.2.1) (r.2.2.1) (r.2.2.2.1) mvd ned)
def f_X6_row_54  : Nat → (Nat → Int32) → (Nat → Int32) → (Nat → Int32) → (Nat → Int64) → Int32 → Int32 → ((Nat → Int32) × (Nat → Int32) × (Nat → Int32) × (Nat → Int64) × Int32)
  | 0, F, wid, siz, cel, _, _ => (F, wid, siz, cel, 0)
  | n + 1, F, wid, siz, cel, v1, v4 => (if (nI 60) ≤ v4 then (F, wid, siz, cel, nI 0) else f_X6_row_54 n F wid siz (vp_updL cel (((nI 60) * v1) + v4).toNatClampNeg (0 : Int64)) v1 (v4 + nI 1))
def s_X6_row_54  : Nat → (Nat → Int32) → (Nat → Int32) → (Nat → Int32) → (Nat → Int64) → Int32 → Int32 → Prop
  | 0, _, _, _, _, _, _ => False
  | n + 1, F, wid, siz, cel, v1, v4 => (¬ (nI 60) ≤ v4 → (vp_in (((nI 60) * v1) + v4) 240 ∧ s_X6_row_54 n F wid siz (vp_updL cel (((nI 60) * v1) + v4).toNatClampNeg (0 : Int64)) v1 (v4 + nI 1)))
set_option maxRecDepth 100000 in
set_option maxHeartbeats 4000000 in
theorem e_X6_row_54 {G : ng_GG} {hf : (Nat → Int32) → (Nat → Int32) → (Nat → Int32) → (Nat → Int32) → (Nat → Int32) → (Nat → Int32) → (Nat → Int32) → (Nat → Int32) → (Nat → Int32) → (Nat → Int32) → (Nat → Int32) → (Nat → Int32) → (Nat → Int32) → (Nat → Int32) → (Nat → Int64) → (Nat → Int64) → (Nat → Int32) → ng_AM}  (V : ng_FL hf )  : ∀ (n : Nat) (F : Nat → Int32) (rl : Nat → Int32) (lg : Nat → Int32) (sta : Nat → Int32) (sm : Nat → Int32) (par : Nat → Int32) (mv : Nat → Int32) (dep : Nat → Int32) (nwa : Nat → Int32) (th : Nat → Int32) (bf : Nat → Int32) (row : Nat → Int32) (wid : Nat → Int32) (siz : Nat → Int32) (cel : Nat → Int64) (mvd : Nat → Int64) (ned : Nat → Int32) (v1 : Int32) (v4 : Int32), s_X6_row_54  n F wid siz cel v1 v4 → ng_Ev G md_X6_row 54 [some (.ref 28), some (.int v1), none, none, some (.int v4)] [] (hf F rl lg sta sm par mv dep nwa th bf row wid siz cel mvd ned) (K_X6_row hf rl lg sta sm par mv dep nwa th bf row mvd ned (f_X6_row_54  n F wid siz cel v1 v4)) := by
  intro n
  induction n with
  | zero => intro F rl lg sta sm par mv dep nwa th bf row wid siz cel mvd ned v1 v4 h; exact False.elim h
  | succ n ih =>
    intro F rl lg sta sm par mv dep nwa th bf row wid siz cel mvd ned v1 v4 h 
    rw [s_X6_row_54] at h
    rw [f_X6_row_54]
    refine ev_iload dX6_row_54 rfl ?_
    refine ev_bipush (v := nI 60) dX6_row_56 (by decide) ?_
    refine bk_icmp_ge (tgt := 80) dX6_row_58 (by decide) (fun c58 => ?_) (fun c58 => ?_)
    · refine ev_iconst (v := nI 0) dX6_row_80 (by decide) ?_
      exact ev_iret rfl rfl dX6_row_81
    · replace h := h c58
      refine ev_aload_n dX6_row_61 rfl rfl rfl ?_
      refine ev_get 6 21 fl_RX6_50 (FL_g28 V) rfl dX6_row_62 ?_
      refine ev_bipush (v := nI 60) dX6_row_65 (by decide) ?_
      refine ev_iload_n dX6_row_67 rfl rfl ?_
      refine ev_imul dX6_row_68 ?_
      refine ev_iload dX6_row_69 rfl ?_
      refine ev_iadd dX6_row_71 ?_
      refine ev_lconst (v := 0) dX6_row_72 (by decide) ?_
      have hi73 := h.1
      replace h := h.2
      refine ev_last (FL_g42 V) hi73 (FL_s42 V) dX6_row_73 ?_
      refine ev_iinc (v := v4 + nI 1) (L' := [some (.ref 28), some (.int v1), none, none, some (.int (v4 + nI 1))]) dX6_row_74 rfl (by rfl) rfl ?_
      refine ev_goto (tgt := 54) dX6_row_77 (by decide) ?_
      exact ev_sub (ih F rl lg sta sm par mv dep nwa th bf row wid siz (vp_updL cel (((nI 60) * v1) + v4).toNatClampNeg (0 : Int64)) mvd ned v1 (v4 + nI 1) h) (sub_s (sub_s (sub_n (sub_n (sub_s sub_e)))))
def f_X6_row  (F : Nat → Int32) (wid : Nat → Int32) (siz : Nat → Int32) (cel : Nat → Int64) (v1 : Int32) (v2 : Int32) (v3 : Int32) : (Nat → Int32) × (Nat → Int32) × (Nat → Int32) × (Nat → Int64) × Int32 := (if (f_X6_isSlot v1) = 0 then ((upd F 0 (nI 0)), wid, siz, cel, (-2)) else (if (f_X6_in v2 (nI 0) (nI 3)) = 0 then ((upd F 0 (nI 0)), wid, siz, cel, (-2)) else (if v3 ≤ (nI 60) then (if 0 ≤ v3 then f_X6_row_54 ng_F (upd F 0 (nI 0)) (upd wid v1.toNatClampNeg v2) (upd siz v1.toNatClampNeg v3) cel v1 (nI 0) else ((upd F 0 (nI 0)), wid, siz, cel, (-3))) else ((upd F 0 (nI 0)), wid, siz, cel, (-2)))))
def s_X6_row  (F : Nat → Int32) (wid : Nat → Int32) (siz : Nat → Int32) (cel : Nat → Int64) (v1 : Int32) (v2 : Int32) (v3 : Int32) : Prop := (s_X6_isSlot v1 ∧ (¬ (f_X6_isSlot v1) = 0 → (¬ (f_X6_in v2 (nI 0) (nI 3)) = 0 → (v3 ≤ (nI 60) → (0 ≤ v3 → (vp_in v1 4 ∧ (vp_in v1 4 ∧ s_X6_row_54 ng_F (upd F 0 (nI 0)) (upd wid v1.toNatClampNeg v2) (upd siz v1.toNatClampNeg v3) cel v1 (nI 0))))))))
set_option maxRecDepth 100000 in
set_option maxHeartbeats 4000000 in
theorem e_X6_row {G : ng_GG} {hf : (Nat → Int32) → (Nat → Int32) → (Nat → Int32) → (Nat → Int32) → (Nat → Int32) → (Nat → Int32) → (Nat → Int32) → (Nat → Int32) → (Nat → Int32) → (Nat → Int32) → (Nat → Int32) → (Nat → Int32) → (Nat → Int32) → (Nat → Int32) → (Nat → Int64) → (Nat → Int64) → (Nat → Int32) → ng_AM}  (V : ng_FL hf ) {F : Nat → Int32} {rl : Nat → Int32} {lg : Nat → Int32} {sta : Nat → Int32} {sm : Nat → Int32} {par : Nat → Int32} {mv : Nat → Int32} {dep : Nat → Int32} {nwa : Nat → Int32} {th : Nat → Int32} {bf : Nat → Int32} {row : Nat → Int32} {wid : Nat → Int32} {siz : Nat → Int32} {cel : Nat → Int64} {mvd : Nat → Int64} {ned : Nat → Int32}  {v1 : Int32} {v2 : Int32} {v3 : Int32} (h : s_X6_row  F wid siz cel v1 v2 v3)  : ng_Ev G md_X6_row 0 [some (.ref 28), some (.int v1), some (.int v2), some (.int v3), none] [] (hf F rl lg sta sm par mv dep nwa th bf row wid siz cel mvd ned) (K_X6_row hf rl lg sta sm par mv dep nwa th bf row mvd ned (f_X6_row  F wid siz cel v1 v2 v3)) := by
  unfold s_X6_row at h
  unfold f_X6_row
  refine ev_aload_n dX6_row_0 rfl rfl rfl ?_
  refine ev_iconst (v := nI 0) dX6_row_1 (by decide) ?_
  refine ev_put 6 0 fs_RX6_64 (FL_g28 V) (ng_lt rfl) rfl (FL_s28 V (F' := (upd F 0 (nI 0)))) (ng_fit_i _) dX6_row_2 ?_
  refine ev_iload_n dX6_row_5 rfl rfl ?_
  have hs6 := h.1
  replace h := h.2
  refine bk_callS (As := [.int v1]) (st := []) (st2 := [.int (f_X6_isSlot v1)]) (M2 := hf (upd F 0 (nI 0)) rl lg sta sm par mv dep nwa th bf row wid siz cel mvd ned) ok_X6_isSlot lk_RX6_223 (ng_rok.of rfl rfl) rfl rfl rfl rfl dX6_row_6 (m_X6_isSlot hs6) rfl rfl ?_
  refine bk_if_eq (tgt := 27) dX6_row_9 (by decide) (fun c9 => ?_) (fun c9 => ?_)
  · refine ev_bipush (v := (-2)) dX6_row_27 (by decide) ?_
    exact ev_iret rfl rfl dX6_row_29
  · replace h := h c9
    refine ev_iload_n dX6_row_12 rfl rfl ?_
    refine ev_iconst (v := nI 0) dX6_row_13 (by decide) ?_
    refine ev_iconst (v := nI 3) dX6_row_14 (by decide) ?_
    refine bk_callS (As := [.int v2, .int (nI 0), .int (nI 3)]) (st := []) (st2 := [.int (f_X6_in v2 (nI 0) (nI 3))]) (M2 := hf (upd F 0 (nI 0)) rl lg sta sm par mv dep nwa th bf row wid siz cel mvd ned) ok_X6_in lk_RX6_67 (ng_rok.of rfl rfl) rfl rfl rfl rfl dX6_row_15 (m_X6_in trivial) rfl rfl ?_
    refine bk_if_eq (tgt := 27) dX6_row_18 (by decide) (fun c18 => ?_) (fun c18 => ?_)
    · refine ev_bipush (v := (-2)) dX6_row_27 (by decide) ?_
      exact ev_iret rfl rfl dX6_row_29
    · replace h := h c18
      refine ev_iload_n dX6_row_21 rfl rfl ?_
      refine ev_bipush (v := nI 60) dX6_row_22 (by decide) ?_
      refine bk_icmp_le (tgt := 30) dX6_row_24 (by decide) (fun c24 => ?_) (fun c24 => ?_)
      · replace h := h c24
        refine ev_iload_n dX6_row_30 rfl rfl ?_
        refine bk_if_ge (tgt := 37) dX6_row_31 (by decide) (fun c31 => ?_) (fun c31 => ?_)
        · replace h := h c31
          refine ev_aload_n dX6_row_37 rfl rfl rfl ?_
          refine ev_get 6 19 fl_RX6_44 (FL_g28 V) rfl dX6_row_38 ?_
          refine ev_iload_n dX6_row_41 rfl rfl ?_
          refine ev_iload_n dX6_row_42 rfl rfl ?_
          have hi43 := h.1
          replace h := h.2
          refine ev_iast (FL_g40 V) hi43 (FL_s40 V) dX6_row_43 ?_
          refine ev_aload_n dX6_row_44 rfl rfl rfl ?_
          refine ev_get 6 20 fl_RX6_47 (FL_g28 V) rfl dX6_row_45 ?_
          refine ev_iload_n dX6_row_48 rfl rfl ?_
          refine ev_iload_n dX6_row_49 rfl rfl ?_
          have hi50 := h.1
          replace h := h.2
          refine ev_iast (FL_g41 V) hi50 (FL_s41 V) dX6_row_50 ?_
          refine ev_iconst (v := nI 0) dX6_row_51 (by decide) ?_
          refine ev_istore (L' := [some (.ref 28), some (.int v1), some (.int v2), some (.int v3), some (.int (nI 0))]) dX6_row_52 (ng_lt rfl) rfl ?_
          exact ev_sub (e_X6_row_54 V ng_F (upd F 0 (nI 0)) rl lg sta sm par mv dep nwa th bf row (upd wid v1.toNatClampNeg v2) (upd siz v1.toNatClampNeg v3) cel mvd ned v1 (nI 0) h) (sub_s (sub_s (sub_n (sub_n (sub_s sub_e)))))
        · refine ev_bipush (v := (-3)) dX6_row_34 (by decide) ?_
          exact ev_iret rfl rfl dX6_row_36
      · refine ev_bipush (v := (-2)) dX6_row_27 (by decide) ?_
        exact ev_iret rfl rfl dX6_row_29
theorem m_X6_row {G : ng_GG} {hf : (Nat → Int32) → (Nat → Int32) → (Nat → Int32) → (Nat → Int32) → (Nat → Int32) → (Nat → Int32) → (Nat → Int32) → (Nat → Int32) → (Nat → Int32) → (Nat → Int32) → (Nat → Int32) → (Nat → Int32) → (Nat → Int32) → (Nat → Int32) → (Nat → Int64) → (Nat → Int64) → (Nat → Int32) → ng_AM}  (V : ng_FL hf ) {F : Nat → Int32} {rl : Nat → Int32} {lg : Nat → Int32} {sta : Nat → Int32} {sm : Nat → Int32} {par : Nat → Int32} {mv : Nat → Int32} {dep : Nat → Int32} {nwa : Nat → Int32} {th : Nat → Int32} {bf : Nat → Int32} {row : Nat → Int32} {wid : Nat → Int32} {siz : Nat → Int32} {cel : Nat → Int64} {mvd : Nat → Int64} {ned : Nat → Int32} {v1 : Int32} {v2 : Int32} {v3 : Int32} (h : s_X6_row F wid siz cel v1 v2 v3)  : ng_Ev G md_X6_row 0 (ng_en 5 [.ref 28, .int v1, .int v2, .int v3]) [] (hf F rl lg sta sm par mv dep nwa th bf row wid siz cel mvd ned) (K_X6_row hf rl lg sta sm par mv dep nwa th bf row mvd ned (f_X6_row F wid siz cel v1 v2 v3)) := e_X6_row V h 
def K_X6_tear (hf : (Nat → Int32) → (Nat → Int32) → (Nat → Int32) → (Nat → Int32) → (Nat → Int32) → (Nat → Int32) → (Nat → Int32) → (Nat → Int32) → (Nat → Int32) → (Nat → Int32) → (Nat → Int32) → (Nat → Int32) → (Nat → Int32) → (Nat → Int32) → (Nat → Int64) → (Nat → Int64) → (Nat → Int32) → ng_AM) (rl : Nat → Int32) (lg : Nat → Int32) (sta : Nat → Int32) (sm : Nat → Int32) (par : Nat → Int32) (mv : Nat → Int32) (dep : Nat → Int32) (nwa : Nat → Int32) (th : Nat → Int32) (bf : Nat → Int32) (row : Nat → Int32) (siz : Nat → Int32) (cel : Nat → Int64) (mvd : Nat → Int64) (ned : Nat → Int32) (r : (Nat → Int32) × (Nat → Int32) × Int32) : ng_RR := (some (.int (r.2.2)), hf (r.1) rl lg sta sm par mv dep nwa th bf row (r.2.1) siz cel mvd ned)
def f_X6_tear  (F : Nat → Int32) (wid : Nat → Int32) (v1 : Int32) : (Nat → Int32) × (Nat → Int32) × Int32 := (if (f_X6_isSlot v1) = 0 then ((upd F 0 (nI 0)), wid, nI 0) else (if 0 ≤ (wid v1.toNatClampNeg) then ((upd F 0 (nI 0)), (upd wid v1.toNatClampNeg (-1)), nI 1) else ((upd F 0 (nI 0)), wid, nI 0)))
def s_X6_tear  (F : Nat → Int32) (wid : Nat → Int32) (v1 : Int32) : Prop := (s_X6_isSlot v1 ∧ (¬ (f_X6_isSlot v1) = 0 → (vp_in v1 4 ∧ (0 ≤ (wid v1.toNatClampNeg) → vp_in v1 4))))
set_option maxRecDepth 100000 in
set_option maxHeartbeats 4000000 in
theorem e_X6_tear {G : ng_GG} {hf : (Nat → Int32) → (Nat → Int32) → (Nat → Int32) → (Nat → Int32) → (Nat → Int32) → (Nat → Int32) → (Nat → Int32) → (Nat → Int32) → (Nat → Int32) → (Nat → Int32) → (Nat → Int32) → (Nat → Int32) → (Nat → Int32) → (Nat → Int32) → (Nat → Int64) → (Nat → Int64) → (Nat → Int32) → ng_AM}  (V : ng_FL hf ) {F : Nat → Int32} {rl : Nat → Int32} {lg : Nat → Int32} {sta : Nat → Int32} {sm : Nat → Int32} {par : Nat → Int32} {mv : Nat → Int32} {dep : Nat → Int32} {nwa : Nat → Int32} {th : Nat → Int32} {bf : Nat → Int32} {row : Nat → Int32} {wid : Nat → Int32} {siz : Nat → Int32} {cel : Nat → Int64} {mvd : Nat → Int64} {ned : Nat → Int32}  {v1 : Int32} (h : s_X6_tear  F wid v1)  : ng_Ev G md_X6_tear 0 [some (.ref 28), some (.int v1)] [] (hf F rl lg sta sm par mv dep nwa th bf row wid siz cel mvd ned) (K_X6_tear hf rl lg sta sm par mv dep nwa th bf row siz cel mvd ned (f_X6_tear  F wid v1)) := by
  unfold s_X6_tear at h
  unfold f_X6_tear
  refine ev_aload_n dX6_tear_0 rfl rfl rfl ?_
  refine ev_iconst (v := nI 0) dX6_tear_1 (by decide) ?_
  refine ev_put 6 0 fs_RX6_64 (FL_g28 V) (ng_lt rfl) rfl (FL_s28 V (F' := (upd F 0 (nI 0)))) (ng_fit_i _) dX6_tear_2 ?_
  refine ev_iload_n dX6_tear_5 rfl rfl ?_
  have hs6 := h.1
  replace h := h.2
  refine bk_callS (As := [.int v1]) (st := []) (st2 := [.int (f_X6_isSlot v1)]) (M2 := hf (upd F 0 (nI 0)) rl lg sta sm par mv dep nwa th bf row wid siz cel mvd ned) ok_X6_isSlot lk_RX6_223 (ng_rok.of rfl rfl) rfl rfl rfl rfl dX6_tear_6 (m_X6_isSlot hs6) rfl rfl ?_
  refine bk_if_eq (tgt := 21) dX6_tear_9 (by decide) (fun c9 => ?_) (fun c9 => ?_)
  · refine ev_iconst (v := nI 0) dX6_tear_21 (by decide) ?_
    exact ev_iret rfl (by decide) dX6_tear_22
  · replace h := h c9
    refine ev_aload_n dX6_tear_12 rfl rfl rfl ?_
    refine ev_get 6 19 fl_RX6_44 (FL_g28 V) rfl dX6_tear_13 ?_
    refine ev_iload_n dX6_tear_16 rfl rfl ?_
    have hi17 := h.1
    replace h := h.2
    refine ev_iald (FL_g40 V) hi17 dX6_tear_17 ?_
    refine bk_if_ge (tgt := 23) dX6_tear_18 (by decide) (fun c18 => ?_) (fun c18 => ?_)
    · replace h := h c18
      refine ev_aload_n dX6_tear_23 rfl rfl rfl ?_
      refine ev_get 6 19 fl_RX6_44 (FL_g28 V) rfl dX6_tear_24 ?_
      refine ev_iload_n dX6_tear_27 rfl rfl ?_
      refine ev_iconst (v := (-1)) dX6_tear_28 (by decide) ?_
      have hi29 := h
      refine ev_iast (FL_g40 V) hi29 (FL_s40 V) dX6_tear_29 ?_
      refine ev_iconst (v := nI 1) dX6_tear_30 (by decide) ?_
      exact ev_iret rfl (by decide) dX6_tear_31
    · refine ev_iconst (v := nI 0) dX6_tear_21 (by decide) ?_
      exact ev_iret rfl (by decide) dX6_tear_22
theorem m_X6_tear {G : ng_GG} {hf : (Nat → Int32) → (Nat → Int32) → (Nat → Int32) → (Nat → Int32) → (Nat → Int32) → (Nat → Int32) → (Nat → Int32) → (Nat → Int32) → (Nat → Int32) → (Nat → Int32) → (Nat → Int32) → (Nat → Int32) → (Nat → Int32) → (Nat → Int32) → (Nat → Int64) → (Nat → Int64) → (Nat → Int32) → ng_AM}  (V : ng_FL hf ) {F : Nat → Int32} {rl : Nat → Int32} {lg : Nat → Int32} {sta : Nat → Int32} {sm : Nat → Int32} {par : Nat → Int32} {mv : Nat → Int32} {dep : Nat → Int32} {nwa : Nat → Int32} {th : Nat → Int32} {bf : Nat → Int32} {row : Nat → Int32} {wid : Nat → Int32} {siz : Nat → Int32} {cel : Nat → Int64} {mvd : Nat → Int64} {ned : Nat → Int32} {v1 : Int32} (h : s_X6_tear F wid v1)  : ng_Ev G md_X6_tear 0 (ng_en 2 [.ref 28, .int v1]) [] (hf F rl lg sta sm par mv dep nwa th bf row wid siz cel mvd ned) (K_X6_tear hf rl lg sta sm par mv dep nwa th bf row siz cel mvd ned (f_X6_tear F wid v1)) := e_X6_tear V h 
def K_X6_write (hf : (Nat → Int32) → (Nat → Int32) → (Nat → Int32) → (Nat → Int32) → (Nat → Int32) → (Nat → Int32) → (Nat → Int32) → (Nat → Int32) → (Nat → Int32) → (Nat → Int32) → (Nat → Int32) → (Nat → Int32) → (Nat → Int32) → (Nat → Int32) → (Nat → Int64) → (Nat → Int64) → (Nat → Int32) → ng_AM) (rl : Nat → Int32) (lg : Nat → Int32) (sta : Nat → Int32) (sm : Nat → Int32) (par : Nat → Int32) (mv : Nat → Int32) (dep : Nat → Int32) (nwa : Nat → Int32) (th : Nat → Int32) (bf : Nat → Int32) (row : Nat → Int32) (wid : Nat → Int32) (siz : Nat → Int32) (mvd : Nat → Int64) (ned : Nat → Int32) (r : (Nat → Int32) × (Nat → Int64) × Int32) : ng_RR := (some (.int (r.2.2)), hf (r.1) rl lg sta sm par mv dep nwa th bf row wid siz (r.2.1) mvd ned)
def f_X6_write  (F : Nat → Int32) (wid : Nat → Int32) (siz : Nat → Int32) (cel : Nat → Int64) (v1 : Int32) (v2 : Int32) (v3 : Int64) : (Nat → Int32) × (Nat → Int64) × Int32 := (if (f_X6_isSlot v1) = 0 then ((upd F 0 (nI 0)), cel, (-2)) else (if 0 ≤ (wid v1.toNatClampNeg) then (if (f_X6_in v2 (nI 0) ((siz v1.toNatClampNeg) - (nI 1))) = 0 then ((upd F 0 (nI 0)), cel, (-6)) else ((upd F 0 (nI 0)), (vp_updL cel (((nI 60) * v1) + v2).toNatClampNeg (f_X6_cut (wid v1.toNatClampNeg) v3)), nI 0)) else ((upd F 0 (nI 0)), cel, (-5))))
def s_X6_write  (F : Nat → Int32) (wid : Nat → Int32) (siz : Nat → Int32) (cel : Nat → Int64) (v1 : Int32) (v2 : Int32) (v3 : Int64) : Prop := (s_X6_isSlot v1 ∧ (¬ (f_X6_isSlot v1) = 0 → (vp_in v1 4 ∧ (0 ≤ (wid v1.toNatClampNeg) → (vp_in v1 4 ∧ (¬ (f_X6_in v2 (nI 0) ((siz v1.toNatClampNeg) - (nI 1))) = 0 → (vp_in v1 4 ∧ vp_in (((nI 60) * v1) + v2) 240)))))))
set_option maxRecDepth 100000 in
set_option maxHeartbeats 4000000 in
theorem e_X6_write {G : ng_GG} {hf : (Nat → Int32) → (Nat → Int32) → (Nat → Int32) → (Nat → Int32) → (Nat → Int32) → (Nat → Int32) → (Nat → Int32) → (Nat → Int32) → (Nat → Int32) → (Nat → Int32) → (Nat → Int32) → (Nat → Int32) → (Nat → Int32) → (Nat → Int32) → (Nat → Int64) → (Nat → Int64) → (Nat → Int32) → ng_AM}  (V : ng_FL hf ) {F : Nat → Int32} {rl : Nat → Int32} {lg : Nat → Int32} {sta : Nat → Int32} {sm : Nat → Int32} {par : Nat → Int32} {mv : Nat → Int32} {dep : Nat → Int32} {nwa : Nat → Int32} {th : Nat → Int32} {bf : Nat → Int32} {row : Nat → Int32} {wid : Nat → Int32} {siz : Nat → Int32} {cel : Nat → Int64} {mvd : Nat → Int64} {ned : Nat → Int32}  {v1 : Int32} {v2 : Int32} {v3 : Int64} (h : s_X6_write  F wid siz cel v1 v2 v3)  : ng_Ev G md_X6_write 0 [some (.ref 28), some (.int v1), some (.int v2), some (.long v3), none] [] (hf F rl lg sta sm par mv dep nwa th bf row wid siz cel mvd ned) (K_X6_write hf rl lg sta sm par mv dep nwa th bf row wid siz mvd ned (f_X6_write  F wid siz cel v1 v2 v3)) := by
  unfold s_X6_write at h
  unfold f_X6_write
  refine ev_aload_n dX6_write_0 rfl rfl rfl ?_
  refine ev_iconst (v := nI 0) dX6_write_1 (by decide) ?_
  refine ev_put 6 0 fs_RX6_64 (FL_g28 V) (ng_lt rfl) rfl (FL_s28 V (F' := (upd F 0 (nI 0)))) (ng_fit_i _) dX6_write_2 ?_
  refine ev_iload_n dX6_write_5 rfl rfl ?_
  have hs6 := h.1
  replace h := h.2
  refine bk_callS (As := [.int v1]) (st := []) (st2 := [.int (f_X6_isSlot v1)]) (M2 := hf (upd F 0 (nI 0)) rl lg sta sm par mv dep nwa th bf row wid siz cel mvd ned) ok_X6_isSlot lk_RX6_223 (ng_rok.of rfl rfl) rfl rfl rfl rfl dX6_write_6 (m_X6_isSlot hs6) rfl rfl ?_
  refine bk_if_ne (tgt := 15) dX6_write_9 (by decide) (fun c9 => ?_) (fun c9 => ?_)
  · replace h := h c9
    refine ev_aload_n dX6_write_15 rfl rfl rfl ?_
    refine ev_get 6 19 fl_RX6_44 (FL_g28 V) rfl dX6_write_16 ?_
    refine ev_iload_n dX6_write_19 rfl rfl ?_
    have hi20 := h.1
    replace h := h.2
    refine ev_iald (FL_g40 V) hi20 dX6_write_20 ?_
    refine bk_if_ge (tgt := 27) dX6_write_21 (by decide) (fun c21 => ?_) (fun c21 => ?_)
    · replace h := h c21
      refine ev_iload_n dX6_write_27 rfl rfl ?_
      refine ev_iconst (v := nI 0) dX6_write_28 (by decide) ?_
      refine ev_aload_n dX6_write_29 rfl rfl rfl ?_
      refine ev_get 6 20 fl_RX6_47 (FL_g28 V) rfl dX6_write_30 ?_
      refine ev_iload_n dX6_write_33 rfl rfl ?_
      have hi34 := h.1
      replace h := h.2
      refine ev_iald (FL_g41 V) hi34 dX6_write_34 ?_
      refine ev_iconst (v := nI 1) dX6_write_35 (by decide) ?_
      refine ev_isub dX6_write_36 ?_
      refine bk_callS (As := [.int v2, .int (nI 0), .int ((siz v1.toNatClampNeg) - (nI 1))]) (st := []) (st2 := [.int (f_X6_in v2 (nI 0) ((siz v1.toNatClampNeg) - (nI 1)))]) (M2 := hf (upd F 0 (nI 0)) rl lg sta sm par mv dep nwa th bf row wid siz cel mvd ned) ok_X6_in lk_RX6_67 (ng_rok.of rfl rfl) rfl rfl rfl rfl dX6_write_37 (m_X6_in trivial) rfl rfl ?_
      refine bk_if_ne (tgt := 46) dX6_write_40 (by decide) (fun c40 => ?_) (fun c40 => ?_)
      · replace h := h c40
        refine ev_aload_n dX6_write_46 rfl rfl rfl ?_
        refine ev_get 6 21 fl_RX6_50 (FL_g28 V) rfl dX6_write_47 ?_
        refine ev_bipush (v := nI 60) dX6_write_50 (by decide) ?_
        refine ev_iload_n dX6_write_52 rfl rfl ?_
        refine ev_imul dX6_write_53 ?_
        refine ev_iload_n dX6_write_54 rfl rfl ?_
        refine ev_iadd dX6_write_55 ?_
        refine ev_aload_n dX6_write_56 rfl rfl rfl ?_
        refine ev_get 6 19 fl_RX6_44 (FL_g28 V) rfl dX6_write_57 ?_
        refine ev_iload_n dX6_write_60 rfl rfl ?_
        have hi61 := h.1
        replace h := h.2
        refine ev_iald (FL_g40 V) hi61 dX6_write_61 ?_
        refine ev_lload_n dX6_write_62 rfl rfl ?_
        refine bk_callS (As := [.int (wid v1.toNatClampNeg), .long v3]) (st := [.int (((nI 60) * v1) + v2), .ref 42]) (st2 := [.long (f_X6_cut (wid v1.toNatClampNeg) v3), .int (((nI 60) * v1) + v2), .ref 42]) (M2 := hf (upd F 0 (nI 0)) rl lg sta sm par mv dep nwa th bf row wid siz cel mvd ned) ok_X6_cut lk_RX6_226 (ng_rok.of rfl rfl) rfl rfl rfl rfl dX6_write_63 (m_X6_cut trivial) rfl rfl ?_
        have hi66 := h
        refine ev_last (FL_g42 V) hi66 (FL_s42 V) dX6_write_66 ?_
        refine ev_iconst (v := nI 0) dX6_write_67 (by decide) ?_
        exact ev_iret rfl rfl dX6_write_68
      · refine ev_bipush (v := (-6)) dX6_write_43 (by decide) ?_
        exact ev_iret rfl rfl dX6_write_45
    · refine ev_bipush (v := (-5)) dX6_write_24 (by decide) ?_
      exact ev_iret rfl rfl dX6_write_26
  · refine ev_bipush (v := (-2)) dX6_write_12 (by decide) ?_
    exact ev_iret rfl rfl dX6_write_14
theorem m_X6_write {G : ng_GG} {hf : (Nat → Int32) → (Nat → Int32) → (Nat → Int32) → (Nat → Int32) → (Nat → Int32) → (Nat → Int32) → (Nat → Int32) → (Nat → Int32) → (Nat → Int32) → (Nat → Int32) → (Nat → Int32) → (Nat → Int32) → (Nat → Int32) → (Nat → Int32) → (Nat → Int64) → (Nat → Int64) → (Nat → Int32) → ng_AM}  (V : ng_FL hf ) {F : Nat → Int32} {rl : Nat → Int32} {lg : Nat → Int32} {sta : Nat → Int32} {sm : Nat → Int32} {par : Nat → Int32} {mv : Nat → Int32} {dep : Nat → Int32} {nwa : Nat → Int32} {th : Nat → Int32} {bf : Nat → Int32} {row : Nat → Int32} {wid : Nat → Int32} {siz : Nat → Int32} {cel : Nat → Int64} {mvd : Nat → Int64} {ned : Nat → Int32} {v1 : Int32} {v2 : Int32} {v3 : Int64} (h : s_X6_write F wid siz cel v1 v2 v3)  : ng_Ev G md_X6_write 0 (ng_en 5 [.ref 28, .int v1, .int v2, .long v3]) [] (hf F rl lg sta sm par mv dep nwa th bf row wid siz cel mvd ned) (K_X6_write hf rl lg sta sm par mv dep nwa th bf row wid siz mvd ned (f_X6_write F wid siz cel v1 v2 v3)) := e_X6_write V h 
def K_X6_paste (hf : (Nat → Int32) → (Nat → Int32) → (Nat → Int32) → (Nat → Int32) → (Nat → Int32) → (Nat → Int32) → (Nat → Int32) → (Nat → Int32) → (Nat → Int32) → (Nat → Int32) → (Nat → Int32) → (Nat → Int32) → (Nat → Int32) → (Nat → Int32) → (Nat → Int64) → (Nat → Int64) → (Nat → Int32) → ng_AM) (rl : Nat → Int32) (lg : Nat → Int32) (sta : Nat → Int32) (sm : Nat → Int32) (par : Nat → Int32) (mv : Nat → Int32) (dep : Nat → Int32) (nwa : Nat → Int32) (th : Nat → Int32) (bf : Nat → Int32) (row : Nat → Int32) (wid : Nat → Int32) (siz : Nat → Int32) (ned : Nat → Int32) (r : (Nat → Int32) × (Nat → Int64) × (Nat → Int64) × Int32) : ng_RR := (some (.int (r.2.2.2)), hf (r.1) rl lg sta sm par mv dep nwa th bf row wid siz (r.2.1) (r.2.2.1) ned)
def f_X6_paste_153  : Nat → (Nat → Int32) → (Nat → Int32) → (Nat → Int32) → (Nat → Int64) → (Nat → Int64) → Int32 → Int32 → Int32 → Int32 → ((Nat → Int32) × (Nat → Int64) × (Nat → Int64) × Int32)
  | 0, F, _, _, cel, mvd, _, _, _, _ => (F, cel, mvd, 0)
  | n + 1, F, wid, siz, cel, mvd, v3, v4, v5, v6 => (if v5 ≤ v6 then (F, cel, mvd, nI 0) else f_X6_paste_153 n F wid siz (vp_updL cel ((((nI 60) * v3) + v4) + v6).toNatClampNeg (mvd v6.toNatClampNeg)) mvd v3 v4 v5 (v6 + nI 1))
def s_X6_paste_153  : Nat → (Nat → Int32) → (Nat → Int32) → (Nat → Int32) → (Nat → Int64) → (Nat → Int64) → Int32 → Int32 → Int32 → Int32 → Prop
  | 0, _, _, _, _, _, _, _, _, _ => False
  | n + 1, F, wid, siz, cel, mvd, v3, v4, v5, v6 => (¬ v5 ≤ v6 → (vp_in v6 60 ∧ (vp_in ((((nI 60) * v3) + v4) + v6) 240 ∧ s_X6_paste_153 n F wid siz (vp_updL cel ((((nI 60) * v3) + v4) + v6).toNatClampNeg (mvd v6.toNatClampNeg)) mvd v3 v4 v5 (v6 + nI 1))))
set_option maxRecDepth 100000 in
set_option maxHeartbeats 4000000 in
theorem e_X6_paste_153 {G : ng_GG} {hf : (Nat → Int32) → (Nat → Int32) → (Nat → Int32) → (Nat → Int32) → (Nat → Int32) → (Nat → Int32) → (Nat → Int32) → (Nat → Int32) → (Nat → Int32) → (Nat → Int32) → (Nat → Int32) → (Nat → Int32) → (Nat → Int32) → (Nat → Int32) → (Nat → Int64) → (Nat → Int64) → (Nat → Int32) → ng_AM}  (V : ng_FL hf )  : ∀ (n : Nat) (F : Nat → Int32) (rl : Nat → Int32) (lg : Nat → Int32) (sta : Nat → Int32) (sm : Nat → Int32) (par : Nat → Int32) (mv : Nat → Int32) (dep : Nat → Int32) (nwa : Nat → Int32) (th : Nat → Int32) (bf : Nat → Int32) (row : Nat → Int32) (wid : Nat → Int32) (siz : Nat → Int32) (cel : Nat → Int64) (mvd : Nat → Int64) (ned : Nat → Int32) (v3 : Int32) (v4 : Int32) (v5 : Int32) (v6 : Int32), s_X6_paste_153  n F wid siz cel mvd v3 v4 v5 v6 → ng_Ev G md_X6_paste 153 [some (.ref 28), none, none, some (.int v3), some (.int v4), some (.int v5), some (.int v6)] [] (hf F rl lg sta sm par mv dep nwa th bf row wid siz cel mvd ned) (K_X6_paste hf rl lg sta sm par mv dep nwa th bf row wid siz ned (f_X6_paste_153  n F wid siz cel mvd v3 v4 v5 v6)) := by
  intro n
  induction n with
  | zero => intro F rl lg sta sm par mv dep nwa th bf row wid siz cel mvd ned v3 v4 v5 v6 h; exact False.elim h
  | succ n ih =>
    intro F rl lg sta sm par mv dep nwa th bf row wid siz cel mvd ned v3 v4 v5 v6 h 
    rw [s_X6_paste_153] at h
    rw [f_X6_paste_153]
    refine ev_iload dX6_paste_153 rfl ?_
    refine ev_iload dX6_paste_155 rfl ?_
    refine bk_icmp_ge (tgt := 188) dX6_paste_157 (by decide) (fun c157 => ?_) (fun c157 => ?_)
    · refine ev_iconst (v := nI 0) dX6_paste_188 (by decide) ?_
      exact ev_iret rfl rfl dX6_paste_189
    · replace h := h c157
      refine ev_aload_n dX6_paste_160 rfl rfl rfl ?_
      refine ev_get 6 21 fl_RX6_50 (FL_g28 V) rfl dX6_paste_161 ?_
      refine ev_bipush (v := nI 60) dX6_paste_164 (by decide) ?_
      refine ev_iload_n dX6_paste_166 rfl rfl ?_
      refine ev_imul dX6_paste_167 ?_
      refine ev_iload dX6_paste_168 rfl ?_
      refine ev_iadd dX6_paste_170 ?_
      refine ev_iload dX6_paste_171 rfl ?_
      refine ev_iadd dX6_paste_173 ?_
      refine ev_aload_n dX6_paste_174 rfl rfl rfl ?_
      refine ev_get 6 22 fl_RX6_54 (FL_g28 V) rfl dX6_paste_175 ?_
      refine ev_iload dX6_paste_178 rfl ?_
      have hi180 := h.1
      replace h := h.2
      refine ev_lald (FL_g43 V) hi180 dX6_paste_180 ?_
      have hi181 := h.1
      replace h := h.2
      refine ev_last (FL_g42 V) hi181 (FL_s42 V) dX6_paste_181 ?_
      refine ev_iinc (v := v6 + nI 1) (L' := [some (.ref 28), none, none, some (.int v3), some (.int v4), some (.int v5), some (.int (v6 + nI 1))]) dX6_paste_182 rfl (by rfl) rfl ?_
      refine ev_goto (tgt := 153) dX6_paste_185 (by decide) ?_
      exact ev_sub (ih F rl lg sta sm par mv dep nwa th bf row wid siz (vp_updL cel ((((nI 60) * v3) + v4) + v6).toNatClampNeg (mvd v6.toNatClampNeg)) mvd ned v3 v4 v5 (v6 + nI 1) h) (sub_s (sub_n (sub_n (sub_s (sub_s (sub_s (sub_s sub_e)))))))
def f_X6_paste_116  : Nat → (Nat → Int32) → (Nat → Int32) → (Nat → Int32) → (Nat → Int64) → (Nat → Int64) → Int32 → Int32 → Int32 → Int32 → Int32 → Int32 → ((Nat → Int32) × (Nat → Int64) × (Nat → Int64) × Int32)
  | 0, F, _, _, cel, mvd, _, _, _, _, _, _ => (F, cel, mvd, 0)
  | n + 1, F, wid, siz, cel, mvd, v1, v2, v3, v4, v5, v6 => (if v5 ≤ v6 then f_X6_paste_153 ng_F F wid siz cel mvd v3 v4 v5 (nI 0) else f_X6_paste_116 n F wid siz cel (vp_updL mvd v6.toNatClampNeg (cel ((((nI 60) * v1) + v2) + v6).toNatClampNeg)) v1 v2 v3 v4 v5 (v6 + nI 1))
def s_X6_paste_116  : Nat → (Nat → Int32) → (Nat → Int32) → (Nat → Int32) → (Nat → Int64) → (Nat → Int64) → Int32 → Int32 → Int32 → Int32 → Int32 → Int32 → Prop
  | 0, _, _, _, _, _, _, _, _, _, _, _ => False
  | n + 1, F, wid, siz, cel, mvd, v1, v2, v3, v4, v5, v6 => ((v5 ≤ v6 → s_X6_paste_153 ng_F F wid siz cel mvd v3 v4 v5 (nI 0)) ∧ (¬ v5 ≤ v6 → (vp_in ((((nI 60) * v1) + v2) + v6) 240 ∧ (vp_in v6 60 ∧ s_X6_paste_116 n F wid siz cel (vp_updL mvd v6.toNatClampNeg (cel ((((nI 60) * v1) + v2) + v6).toNatClampNeg)) v1 v2 v3 v4 v5 (v6 + nI 1)))))
set_option maxRecDepth 100000 in
set_option maxHeartbeats 4000000 in
theorem e_X6_paste_116 {G : ng_GG} {hf : (Nat → Int32) → (Nat → Int32) → (Nat → Int32) → (Nat → Int32) → (Nat → Int32) → (Nat → Int32) → (Nat → Int32) → (Nat → Int32) → (Nat → Int32) → (Nat → Int32) → (Nat → Int32) → (Nat → Int32) → (Nat → Int32) → (Nat → Int32) → (Nat → Int64) → (Nat → Int64) → (Nat → Int32) → ng_AM}  (V : ng_FL hf )  : ∀ (n : Nat) (F : Nat → Int32) (rl : Nat → Int32) (lg : Nat → Int32) (sta : Nat → Int32) (sm : Nat → Int32) (par : Nat → Int32) (mv : Nat → Int32) (dep : Nat → Int32) (nwa : Nat → Int32) (th : Nat → Int32) (bf : Nat → Int32) (row : Nat → Int32) (wid : Nat → Int32) (siz : Nat → Int32) (cel : Nat → Int64) (mvd : Nat → Int64) (ned : Nat → Int32) (v1 : Int32) (v2 : Int32) (v3 : Int32) (v4 : Int32) (v5 : Int32) (v6 : Int32), s_X6_paste_116  n F wid siz cel mvd v1 v2 v3 v4 v5 v6 → ng_Ev G md_X6_paste 116 [some (.ref 28), some (.int v1), some (.int v2), some (.int v3), some (.int v4), some (.int v5), some (.int v6)] [] (hf F rl lg sta sm par mv dep nwa th bf row wid siz cel mvd ned) (K_X6_paste hf rl lg sta sm par mv dep nwa th bf row wid siz ned (f_X6_paste_116  n F wid siz cel mvd v1 v2 v3 v4 v5 v6)) := by
  intro n
  induction n with
  | zero => intro F rl lg sta sm par mv dep nwa th bf row wid siz cel mvd ned v1 v2 v3 v4 v5 v6 h; exact False.elim h
  | succ n ih =>
    intro F rl lg sta sm par mv dep nwa th bf row wid siz cel mvd ned v1 v2 v3 v4 v5 v6 h 
    rw [s_X6_paste_116] at h
    rw [f_X6_paste_116]
    refine ev_iload dX6_paste_116 rfl ?_
    refine ev_iload dX6_paste_118 rfl ?_
    refine bk_icmp_ge (tgt := 150) dX6_paste_120 (by decide) (fun c120 => ?_) (fun c120 => ?_)
    · replace h := h.1 c120
      refine ev_iconst (v := nI 0) dX6_paste_150 (by decide) ?_
      refine ev_istore (L' := [some (.ref 28), some (.int v1), some (.int v2), some (.int v3), some (.int v4), some (.int v5), some (.int (nI 0))]) dX6_paste_151 (ng_lt rfl) rfl ?_
      exact ev_sub (e_X6_paste_153 V ng_F F rl lg sta sm par mv dep nwa th bf row wid siz cel mvd ned v3 v4 v5 (nI 0) h) (sub_s (sub_n (sub_n (sub_s (sub_s (sub_s (sub_s sub_e)))))))
    · replace h := h.2 c120
      refine ev_aload_n dX6_paste_123 rfl rfl rfl ?_
      refine ev_get 6 22 fl_RX6_54 (FL_g28 V) rfl dX6_paste_124 ?_
      refine ev_iload dX6_paste_127 rfl ?_
      refine ev_aload_n dX6_paste_129 rfl rfl rfl ?_
      refine ev_get 6 21 fl_RX6_50 (FL_g28 V) rfl dX6_paste_130 ?_
      refine ev_bipush (v := nI 60) dX6_paste_133 (by decide) ?_
      refine ev_iload_n dX6_paste_135 rfl rfl ?_
      refine ev_imul dX6_paste_136 ?_
      refine ev_iload_n dX6_paste_137 rfl rfl ?_
      refine ev_iadd dX6_paste_138 ?_
      refine ev_iload dX6_paste_139 rfl ?_
      refine ev_iadd dX6_paste_141 ?_
      have hi142 := h.1
      replace h := h.2
      refine ev_lald (FL_g42 V) hi142 dX6_paste_142 ?_
      have hi143 := h.1
      replace h := h.2
      refine ev_last (FL_g43 V) hi143 (FL_s43 V) dX6_paste_143 ?_
      refine ev_iinc (v := v6 + nI 1) (L' := [some (.ref 28), some (.int v1), some (.int v2), some (.int v3), some (.int v4), some (.int v5), some (.int (v6 + nI 1))]) dX6_paste_144 rfl (by rfl) rfl ?_
      refine ev_goto (tgt := 116) dX6_paste_147 (by decide) ?_
      exact ev_sub (ih F rl lg sta sm par mv dep nwa th bf row wid siz cel (vp_updL mvd v6.toNatClampNeg (cel ((((nI 60) * v1) + v2) + v6).toNatClampNeg)) ned v1 v2 v3 v4 v5 (v6 + nI 1) h) (sub_s (sub_s (sub_s (sub_s (sub_s (sub_s (sub_s sub_e)))))))
def f_X6_paste  (F : Nat → Int32) (wid : Nat → Int32) (siz : Nat → Int32) (cel : Nat → Int64) (mvd : Nat → Int64) (v1 : Int32) (v2 : Int32) (v3 : Int32) (v4 : Int32) (v5 : Int32) : (Nat → Int32) × (Nat → Int64) × (Nat → Int64) × Int32 := (if (f_X6_isSlot v1) = 0 then ((upd F 0 (nI 0)), cel, mvd, (-2)) else (if (f_X6_isSlot v3) = 0 then ((upd F 0 (nI 0)), cel, mvd, (-2)) else (if (wid v1.toNatClampNeg) < 0 then ((upd F 0 (nI 0)), cel, mvd, (-5)) else (if 0 ≤ (wid v3.toNatClampNeg) then (if (wid v1.toNatClampNeg) = (wid v3.toNatClampNeg) then (if v2 < 0 then ((upd F 0 (nI 0)), cel, mvd, (-6)) else (if v4 < 0 then ((upd F 0 (nI 0)), cel, mvd, (-6)) else (if v5 < 0 then ((upd F 0 (nI 0)), cel, mvd, (-6)) else (if 0 < (lg_cmp (v2.toInt64 + v5.toInt64) ((siz v1.toNatClampNeg).toInt64)) then ((upd F 0 (nI 0)), cel, mvd, (-6)) else (if (lg_cmp (v4.toInt64 + v5.toInt64) ((siz v3.toNatClampNeg).toInt64)) ≤ 0 then f_X6_paste_116 ng_F (upd F 0 (nI 0)) wid siz cel mvd v1 v2 v3 v4 v5 (nI 0) else ((upd F 0 (nI 0)), cel, mvd, (-6))))))) else ((upd F 0 (nI 0)), cel, mvd, (-7))) else ((upd F 0 (nI 0)), cel, mvd, (-5))))))
def s_X6_paste  (F : Nat → Int32) (wid : Nat → Int32) (siz : Nat → Int32) (cel : Nat → Int64) (mvd : Nat → Int64) (v1 : Int32) (v2 : Int32) (v3 : Int32) (v4 : Int32) (v5 : Int32) : Prop := (s_X6_isSlot v1 ∧ (¬ (f_X6_isSlot v1) = 0 → (s_X6_isSlot v3 ∧ (¬ (f_X6_isSlot v3) = 0 → (vp_in v1 4 ∧ (¬ (wid v1.toNatClampNeg) < 0 → (vp_in v3 4 ∧ (0 ≤ (wid v3.toNatClampNeg) → (vp_in v1 4 ∧ (vp_in v3 4 ∧ ((wid v1.toNatClampNeg) = (wid v3.toNatClampNeg) → (¬ v2 < 0 → (¬ v4 < 0 → (¬ v5 < 0 → (vp_in v1 4 ∧ (¬ 0 < (lg_cmp (v2.toInt64 + v5.toInt64) ((siz v1.toNatClampNeg).toInt64)) → (vp_in v3 4 ∧ ((lg_cmp (v4.toInt64 + v5.toInt64) ((siz v3.toNatClampNeg).toInt64)) ≤ 0 → s_X6_paste_116 ng_F (upd F 0 (nI 0)) wid siz cel mvd v1 v2 v3 v4 v5 (nI 0)))))))))))))))))))
set_option maxRecDepth 100000 in
set_option maxHeartbeats 4000000 in
theorem e_X6_paste {G : ng_GG} {hf : (Nat → Int32) → (Nat → Int32) → (Nat → Int32) → (Nat → Int32) → (Nat → Int32) → (Nat → Int32) → (Nat → Int32) → (Nat → Int32) → (Nat → Int32) → (Nat → Int32) → (Nat → Int32) → (Nat → Int32) → (Nat → Int32) → (Nat → Int32) → (Nat → Int64) → (Nat → Int64) → (Nat → Int32) → ng_AM}  (V : ng_FL hf ) {F : Nat → Int32} {rl : Nat → Int32} {lg : Nat → Int32} {sta : Nat → Int32} {sm : Nat → Int32} {par : Nat → Int32} {mv : Nat → Int32} {dep : Nat → Int32} {nwa : Nat → Int32} {th : Nat → Int32} {bf : Nat → Int32} {row : Nat → Int32} {wid : Nat → Int32} {siz : Nat → Int32} {cel : Nat → Int64} {mvd : Nat → Int64} {ned : Nat → Int32}  {v1 : Int32} {v2 : Int32} {v3 : Int32} {v4 : Int32} {v5 : Int32} (h : s_X6_paste  F wid siz cel mvd v1 v2 v3 v4 v5)  : ng_Ev G md_X6_paste 0 [some (.ref 28), some (.int v1), some (.int v2), some (.int v3), some (.int v4), some (.int v5), none] [] (hf F rl lg sta sm par mv dep nwa th bf row wid siz cel mvd ned) (K_X6_paste hf rl lg sta sm par mv dep nwa th bf row wid siz ned (f_X6_paste  F wid siz cel mvd v1 v2 v3 v4 v5)) := by
  unfold s_X6_paste at h
  unfold f_X6_paste
  refine ev_aload_n dX6_paste_0 rfl rfl rfl ?_
  refine ev_iconst (v := nI 0) dX6_paste_1 (by decide) ?_
  refine ev_put 6 0 fs_RX6_64 (FL_g28 V) (ng_lt rfl) rfl (FL_s28 V (F' := (upd F 0 (nI 0)))) (ng_fit_i _) dX6_paste_2 ?_
  refine ev_iload_n dX6_paste_5 rfl rfl ?_
  have hs6 := h.1
  replace h := h.2
  refine bk_callS (As := [.int v1]) (st := []) (st2 := [.int (f_X6_isSlot v1)]) (M2 := hf (upd F 0 (nI 0)) rl lg sta sm par mv dep nwa th bf row wid siz cel mvd ned) ok_X6_isSlot lk_RX6_223 (ng_rok.of rfl rfl) rfl rfl rfl rfl dX6_paste_6 (m_X6_isSlot hs6) rfl rfl ?_
  refine bk_if_eq (tgt := 19) dX6_paste_9 (by decide) (fun c9 => ?_) (fun c9 => ?_)
  · refine ev_bipush (v := (-2)) dX6_paste_19 (by decide) ?_
    exact ev_iret rfl rfl dX6_paste_21
  · replace h := h c9
    refine ev_iload_n dX6_paste_12 rfl rfl ?_
    have hs13 := h.1
    replace h := h.2
    refine bk_callS (As := [.int v3]) (st := []) (st2 := [.int (f_X6_isSlot v3)]) (M2 := hf (upd F 0 (nI 0)) rl lg sta sm par mv dep nwa th bf row wid siz cel mvd ned) ok_X6_isSlot lk_RX6_223 (ng_rok.of rfl rfl) rfl rfl rfl rfl dX6_paste_13 (m_X6_isSlot hs13) rfl rfl ?_
    refine bk_if_ne (tgt := 22) dX6_paste_16 (by decide) (fun c16 => ?_) (fun c16 => ?_)
    · replace h := h c16
      refine ev_aload_n dX6_paste_22 rfl rfl rfl ?_
      refine ev_get 6 19 fl_RX6_44 (FL_g28 V) rfl dX6_paste_23 ?_
      refine ev_iload_n dX6_paste_26 rfl rfl ?_
      have hi27 := h.1
      replace h := h.2
      refine ev_iald (FL_g40 V) hi27 dX6_paste_27 ?_
      refine bk_if_lt (tgt := 40) dX6_paste_28 (by decide) (fun c28 => ?_) (fun c28 => ?_)
      · refine ev_bipush (v := (-5)) dX6_paste_40 (by decide) ?_
        exact ev_iret rfl rfl dX6_paste_42
      · replace h := h c28
        refine ev_aload_n dX6_paste_31 rfl rfl rfl ?_
        refine ev_get 6 19 fl_RX6_44 (FL_g28 V) rfl dX6_paste_32 ?_
        refine ev_iload_n dX6_paste_35 rfl rfl ?_
        have hi36 := h.1
        replace h := h.2
        refine ev_iald (FL_g40 V) hi36 dX6_paste_36 ?_
        refine bk_if_ge (tgt := 43) dX6_paste_37 (by decide) (fun c37 => ?_) (fun c37 => ?_)
        · replace h := h c37
          refine ev_aload_n dX6_paste_43 rfl rfl rfl ?_
          refine ev_get 6 19 fl_RX6_44 (FL_g28 V) rfl dX6_paste_44 ?_
          refine ev_iload_n dX6_paste_47 rfl rfl ?_
          have hi48 := h.1
          replace h := h.2
          refine ev_iald (FL_g40 V) hi48 dX6_paste_48 ?_
          refine ev_aload_n dX6_paste_49 rfl rfl rfl ?_
          refine ev_get 6 19 fl_RX6_44 (FL_g28 V) rfl dX6_paste_50 ?_
          refine ev_iload_n dX6_paste_53 rfl rfl ?_
          have hi54 := h.1
          replace h := h.2
          refine ev_iald (FL_g40 V) hi54 dX6_paste_54 ?_
          refine bk_icmp_eq (tgt := 61) dX6_paste_55 (by decide) (fun c55 => ?_) (fun c55 => ?_)
          · replace h := h c55
            refine ev_iload_n dX6_paste_61 rfl rfl ?_
            refine bk_if_lt (tgt := 110) dX6_paste_62 (by decide) (fun c62 => ?_) (fun c62 => ?_)
            · refine ev_bipush (v := (-6)) dX6_paste_110 (by decide) ?_
              exact ev_iret rfl rfl dX6_paste_112
            · replace h := h c62
              refine ev_iload dX6_paste_65 rfl ?_
              refine bk_if_lt (tgt := 110) dX6_paste_67 (by decide) (fun c67 => ?_) (fun c67 => ?_)
              · refine ev_bipush (v := (-6)) dX6_paste_110 (by decide) ?_
                exact ev_iret rfl rfl dX6_paste_112
              · replace h := h c67
                refine ev_iload dX6_paste_70 rfl ?_
                refine bk_if_lt (tgt := 110) dX6_paste_72 (by decide) (fun c72 => ?_) (fun c72 => ?_)
                · refine ev_bipush (v := (-6)) dX6_paste_110 (by decide) ?_
                  exact ev_iret rfl rfl dX6_paste_112
                · replace h := h c72
                  refine ev_iload_n dX6_paste_75 rfl rfl ?_
                  refine ev_i2l dX6_paste_76 ?_
                  refine ev_iload dX6_paste_77 rfl ?_
                  refine ev_i2l dX6_paste_79 ?_
                  refine ev_ladd dX6_paste_80 ?_
                  refine ev_aload_n dX6_paste_81 rfl rfl rfl ?_
                  refine ev_get 6 20 fl_RX6_47 (FL_g28 V) rfl dX6_paste_82 ?_
                  refine ev_iload_n dX6_paste_85 rfl rfl ?_
                  have hi86 := h.1
                  replace h := h.2
                  refine ev_iald (FL_g41 V) hi86 dX6_paste_86 ?_
                  refine ev_i2l dX6_paste_87 ?_
                  refine ev_lcmp dX6_paste_88 ?_
                  refine bk_if_gt (tgt := 110) dX6_paste_89 (by decide) (fun c89 => ?_) (fun c89 => ?_)
                  · refine ev_bipush (v := (-6)) dX6_paste_110 (by decide) ?_
                    exact ev_iret rfl rfl dX6_paste_112
                  · replace h := h c89
                    refine ev_iload dX6_paste_92 rfl ?_
                    refine ev_i2l dX6_paste_94 ?_
                    refine ev_iload dX6_paste_95 rfl ?_
                    refine ev_i2l dX6_paste_97 ?_
                    refine ev_ladd dX6_paste_98 ?_
                    refine ev_aload_n dX6_paste_99 rfl rfl rfl ?_
                    refine ev_get 6 20 fl_RX6_47 (FL_g28 V) rfl dX6_paste_100 ?_
                    refine ev_iload_n dX6_paste_103 rfl rfl ?_
                    have hi104 := h.1
                    replace h := h.2
                    refine ev_iald (FL_g41 V) hi104 dX6_paste_104 ?_
                    refine ev_i2l dX6_paste_105 ?_
                    refine ev_lcmp dX6_paste_106 ?_
                    refine bk_if_le (tgt := 113) dX6_paste_107 (by decide) (fun c107 => ?_) (fun c107 => ?_)
                    · replace h := h c107
                      refine ev_iconst (v := nI 0) dX6_paste_113 (by decide) ?_
                      refine ev_istore (L' := [some (.ref 28), some (.int v1), some (.int v2), some (.int v3), some (.int v4), some (.int v5), some (.int (nI 0))]) dX6_paste_114 (ng_lt rfl) rfl ?_
                      exact ev_sub (e_X6_paste_116 V ng_F (upd F 0 (nI 0)) rl lg sta sm par mv dep nwa th bf row wid siz cel mvd ned v1 v2 v3 v4 v5 (nI 0) h) (sub_s (sub_s (sub_s (sub_s (sub_s (sub_s (sub_s sub_e)))))))
                    · refine ev_bipush (v := (-6)) dX6_paste_110 (by decide) ?_
                      exact ev_iret rfl rfl dX6_paste_112
          · refine ev_bipush (v := (-7)) dX6_paste_58 (by decide) ?_
            exact ev_iret rfl rfl dX6_paste_60
        · refine ev_bipush (v := (-5)) dX6_paste_40 (by decide) ?_
          exact ev_iret rfl rfl dX6_paste_42
    · refine ev_bipush (v := (-2)) dX6_paste_19 (by decide) ?_
      exact ev_iret rfl rfl dX6_paste_21
theorem m_X6_paste {G : ng_GG} {hf : (Nat → Int32) → (Nat → Int32) → (Nat → Int32) → (Nat → Int32) → (Nat → Int32) → (Nat → Int32) → (Nat → Int32) → (Nat → Int32) → (Nat → Int32) → (Nat → Int32) → (Nat → Int32) → (Nat → Int32) → (Nat → Int32) → (Nat → Int32) → (Nat → Int64) → (Nat → Int64) → (Nat → Int32) → ng_AM}  (V : ng_FL hf ) {F : Nat → Int32} {rl : Nat → Int32} {lg : Nat → Int32} {sta : Nat → Int32} {sm : Nat → Int32} {par : Nat → Int32} {mv : Nat → Int32} {dep : Nat → Int32} {nwa : Nat → Int32} {th : Nat → Int32} {bf : Nat → Int32} {row : Nat → Int32} {wid : Nat → Int32} {siz : Nat → Int32} {cel : Nat → Int64} {mvd : Nat → Int64} {ned : Nat → Int32} {v1 : Int32} {v2 : Int32} {v3 : Int32} {v4 : Int32} {v5 : Int32} (h : s_X6_paste F wid siz cel mvd v1 v2 v3 v4 v5)  : ng_Ev G md_X6_paste 0 (ng_en 7 [.ref 28, .int v1, .int v2, .int v3, .int v4, .int v5]) [] (hf F rl lg sta sm par mv dep nwa th bf row wid siz cel mvd ned) (K_X6_paste hf rl lg sta sm par mv dep nwa th bf row wid siz ned (f_X6_paste F wid siz cel mvd v1 v2 v3 v4 v5)) := e_X6_paste V h 
def K_X6_done (hf : (Nat → Int32) → (Nat → Int32) → (Nat → Int32) → (Nat → Int32) → (Nat → Int32) → (Nat → Int32) → (Nat → Int32) → (Nat → Int32) → (Nat → Int32) → (Nat → Int32) → (Nat → Int32) → (Nat → Int32) → (Nat → Int32) → (Nat → Int32) → (Nat → Int64) → (Nat → Int64) → (Nat → Int32) → ng_AM) (sta : Nat → Int32) (sm : Nat → Int32) (par : Nat → Int32) (mv : Nat → Int32) (dep : Nat → Int32) (nwa : Nat → Int32) (th : Nat → Int32) (bf : Nat → Int32) (row : Nat → Int32) (wid : Nat → Int32) (siz : Nat → Int32) (cel : Nat → Int64) (mvd : Nat → Int64) (ned : Nat → Int32) (r : (Nat → Int32) × (Nat → Int32) × (Nat → Int32) × Int32) : ng_RR := (some (.int (r.2.2.2)), hf (r.1) (r.2.1) (r.2.2.1) sta sm par mv dep nwa th bf row wid siz cel mvd ned)
def f_X6_done_52  (F : Nat → Int32) (rl : Nat → Int32) (lg : Nat → Int32) (t0 : Int32) : (Nat → Int32) × (Nat → Int32) × (Nat → Int32) × Int32 := (if t0 < 0 then (F, rl, lg, nI 0) else (F, rl, lg, nI 1))
def s_X6_done_52  (F : Nat → Int32) (rl : Nat → Int32) (lg : Nat → Int32) (t0 : Int32) : Prop := True
set_option maxRecDepth 100000 in
set_option maxHeartbeats 4000000 in
theorem e_X6_done_52 {G : ng_GG} {hf : (Nat → Int32) → (Nat → Int32) → (Nat → Int32) → (Nat → Int32) → (Nat → Int32) → (Nat → Int32) → (Nat → Int32) → (Nat → Int32) → (Nat → Int32) → (Nat → Int32) → (Nat → Int32) → (Nat → Int32) → (Nat → Int32) → (Nat → Int32) → (Nat → Int64) → (Nat → Int64) → (Nat → Int32) → ng_AM}  (V : ng_FL hf ) {F : Nat → Int32} {rl : Nat → Int32} {lg : Nat → Int32} {sta : Nat → Int32} {sm : Nat → Int32} {par : Nat → Int32} {mv : Nat → Int32} {dep : Nat → Int32} {nwa : Nat → Int32} {th : Nat → Int32} {bf : Nat → Int32} {row : Nat → Int32} {wid : Nat → Int32} {siz : Nat → Int32} {cel : Nat → Int64} {mvd : Nat → Int64} {ned : Nat → Int32}  {t0 : Int32} (h : s_X6_done_52  F rl lg t0)  : ng_Ev G md_X6_done 52 [none, none, none, none, none, none] [.int t0] (hf F rl lg sta sm par mv dep nwa th bf row wid siz cel mvd ned) (K_X6_done hf sta sm par mv dep nwa th bf row wid siz cel mvd ned (f_X6_done_52  F rl lg t0)) := by
  unfold s_X6_done_52 at h
  unfold f_X6_done_52
  refine bk_if_lt (tgt := 59) dX6_done_52 (by decide) (fun c52 => ?_) (fun c52 => ?_)
  · refine ev_iconst (v := nI 0) dX6_done_59 (by decide) ?_
    exact ev_iret rfl (by decide) dX6_done_60
  · refine ev_iconst (v := nI 1) dX6_done_55 (by decide) ?_
    refine ev_goto (tgt := 60) dX6_done_56 (by decide) ?_
    exact ev_iret rfl (by decide) dX6_done_60
def f_X6_done_67  (F : Nat → Int32) (rl : Nat → Int32) (lg : Nat → Int32) (t0 : Int32) : (Nat → Int32) × (Nat → Int32) × (Nat → Int32) × Int32 := (if t0 < 0 then (F, rl, lg, nI 0) else (F, rl, lg, nI 1))
def s_X6_done_67  (F : Nat → Int32) (rl : Nat → Int32) (lg : Nat → Int32) (t0 : Int32) : Prop := True
set_option maxRecDepth 100000 in
set_option maxHeartbeats 4000000 in
theorem e_X6_done_67 {G : ng_GG} {hf : (Nat → Int32) → (Nat → Int32) → (Nat → Int32) → (Nat → Int32) → (Nat → Int32) → (Nat → Int32) → (Nat → Int32) → (Nat → Int32) → (Nat → Int32) → (Nat → Int32) → (Nat → Int32) → (Nat → Int32) → (Nat → Int32) → (Nat → Int32) → (Nat → Int64) → (Nat → Int64) → (Nat → Int32) → ng_AM}  (V : ng_FL hf ) {F : Nat → Int32} {rl : Nat → Int32} {lg : Nat → Int32} {sta : Nat → Int32} {sm : Nat → Int32} {par : Nat → Int32} {mv : Nat → Int32} {dep : Nat → Int32} {nwa : Nat → Int32} {th : Nat → Int32} {bf : Nat → Int32} {row : Nat → Int32} {wid : Nat → Int32} {siz : Nat → Int32} {cel : Nat → Int64} {mvd : Nat → Int64} {ned : Nat → Int32}  {t0 : Int32} (h : s_X6_done_67  F rl lg t0)  : ng_Ev G md_X6_done 67 [none, none, none, none, none, none] [.int t0] (hf F rl lg sta sm par mv dep nwa th bf row wid siz cel mvd ned) (K_X6_done hf sta sm par mv dep nwa th bf row wid siz cel mvd ned (f_X6_done_67  F rl lg t0)) := by
  unfold s_X6_done_67 at h
  unfold f_X6_done_67
  refine bk_if_lt (tgt := 74) dX6_done_67 (by decide) (fun c67 => ?_) (fun c67 => ?_)
  · refine ev_iconst (v := nI 0) dX6_done_74 (by decide) ?_
    exact ev_iret rfl (by decide) dX6_done_75
  · refine ev_iconst (v := nI 1) dX6_done_70 (by decide) ?_
    refine ev_goto (tgt := 75) dX6_done_71 (by decide) ?_
    exact ev_iret rfl (by decide) dX6_done_75
def f_X6_done_103  (F : Nat → Int32) (rl : Nat → Int32) (lg : Nat → Int32) (t0 : Int32) : (Nat → Int32) × (Nat → Int32) × (Nat → Int32) × Int32 := (if t0 < 0 then (F, rl, lg, nI 0) else (F, rl, lg, nI 1))
def s_X6_done_103  (F : Nat → Int32) (rl : Nat → Int32) (lg : Nat → Int32) (t0 : Int32) : Prop := True
set_option maxRecDepth 100000 in
set_option maxHeartbeats 4000000 in
theorem e_X6_done_103 {G : ng_GG} {hf : (Nat → Int32) → (Nat → Int32) → (Nat → Int32) → (Nat → Int32) → (Nat → Int32) → (Nat → Int32) → (Nat → Int32) → (Nat → Int32) → (Nat → Int32) → (Nat → Int32) → (Nat → Int32) → (Nat → Int32) → (Nat → Int32) → (Nat → Int32) → (Nat → Int64) → (Nat → Int64) → (Nat → Int32) → ng_AM}  (V : ng_FL hf ) {F : Nat → Int32} {rl : Nat → Int32} {lg : Nat → Int32} {sta : Nat → Int32} {sm : Nat → Int32} {par : Nat → Int32} {mv : Nat → Int32} {dep : Nat → Int32} {nwa : Nat → Int32} {th : Nat → Int32} {bf : Nat → Int32} {row : Nat → Int32} {wid : Nat → Int32} {siz : Nat → Int32} {cel : Nat → Int64} {mvd : Nat → Int64} {ned : Nat → Int32}  {t0 : Int32} (h : s_X6_done_103  F rl lg t0)  : ng_Ev G md_X6_done 103 [none, none, none, none, none, none] [.int t0] (hf F rl lg sta sm par mv dep nwa th bf row wid siz cel mvd ned) (K_X6_done hf sta sm par mv dep nwa th bf row wid siz cel mvd ned (f_X6_done_103  F rl lg t0)) := by
  unfold s_X6_done_103 at h
  unfold f_X6_done_103
  refine bk_if_lt (tgt := 110) dX6_done_103 (by decide) (fun c103 => ?_) (fun c103 => ?_)
  · refine ev_iconst (v := nI 0) dX6_done_110 (by decide) ?_
    exact ev_iret rfl (by decide) dX6_done_111
  · refine ev_iconst (v := nI 1) dX6_done_106 (by decide) ?_
    refine ev_goto (tgt := 111) dX6_done_107 (by decide) ?_
    exact ev_iret rfl (by decide) dX6_done_111
def f_X6_done_117  (F : Nat → Int32) (rl : Nat → Int32) (lg : Nat → Int32) (t0 : Int32) : (Nat → Int32) × (Nat → Int32) × (Nat → Int32) × Int32 := (if t0 < 0 then (F, rl, lg, nI 0) else (F, rl, lg, nI 1))
def s_X6_done_117  (F : Nat → Int32) (rl : Nat → Int32) (lg : Nat → Int32) (t0 : Int32) : Prop := True
set_option maxRecDepth 100000 in
set_option maxHeartbeats 4000000 in
theorem e_X6_done_117 {G : ng_GG} {hf : (Nat → Int32) → (Nat → Int32) → (Nat → Int32) → (Nat → Int32) → (Nat → Int32) → (Nat → Int32) → (Nat → Int32) → (Nat → Int32) → (Nat → Int32) → (Nat → Int32) → (Nat → Int32) → (Nat → Int32) → (Nat → Int32) → (Nat → Int32) → (Nat → Int64) → (Nat → Int64) → (Nat → Int32) → ng_AM}  (V : ng_FL hf ) {F : Nat → Int32} {rl : Nat → Int32} {lg : Nat → Int32} {sta : Nat → Int32} {sm : Nat → Int32} {par : Nat → Int32} {mv : Nat → Int32} {dep : Nat → Int32} {nwa : Nat → Int32} {th : Nat → Int32} {bf : Nat → Int32} {row : Nat → Int32} {wid : Nat → Int32} {siz : Nat → Int32} {cel : Nat → Int64} {mvd : Nat → Int64} {ned : Nat → Int32}  {t0 : Int32} (h : s_X6_done_117  F rl lg t0)  : ng_Ev G md_X6_done 117 [none, none, none, none, none, none] [.int t0] (hf F rl lg sta sm par mv dep nwa th bf row wid siz cel mvd ned) (K_X6_done hf sta sm par mv dep nwa th bf row wid siz cel mvd ned (f_X6_done_117  F rl lg t0)) := by
  unfold s_X6_done_117 at h
  unfold f_X6_done_117
  refine bk_if_lt (tgt := 124) dX6_done_117 (by decide) (fun c117 => ?_) (fun c117 => ?_)
  · refine ev_iconst (v := nI 0) dX6_done_124 (by decide) ?_
    exact ev_iret rfl (by decide) dX6_done_125
  · refine ev_iconst (v := nI 1) dX6_done_120 (by decide) ?_
    refine ev_goto (tgt := 125) dX6_done_121 (by decide) ?_
    exact ev_iret rfl (by decide) dX6_done_125
def f_X6_done  (F : Nat → Int32) (rl : Nat → Int32) (lg : Nat → Int32) (v1 : Int32) (v2 : Int32) (v3 : Int32) (v4 : Int32) (v5 : Int32) : (Nat → Int32) × (Nat → Int32) × (Nat → Int32) × Int32 := (if v1 = nI 0 then f_X6_done_52 ((f_X6_ask F rl v2 v3 v4).1) ((f_X6_ask F rl v2 v3 v4).2.1) lg ((f_X6_ask F rl v2 v3 v4).2.2) else (if v1 = nI 1 then f_X6_done_67 ((f_X6_turn F rl v2 v3).1) ((f_X6_turn F rl v2 v3).2.1) lg ((f_X6_turn F rl v2 v3).2.2) else (if v1 = nI 2 then ((f_X6_show F rl v2 v3 v4 v5).1, (f_X6_show F rl v2 v3 v4 v5).2.1, lg, (f_X6_show F rl v2 v3 v4 v5).2.2) else (if v1 = nI 3 then ((f_X6_hand F rl v2 v3 v4 v5).1, (f_X6_hand F rl v2 v3 v4 v5).2.1, lg, (f_X6_hand F rl v2 v3 v4 v5).2.2) else (if v1 = nI 4 then f_X6_done_103 ((f_X6_deliver F rl lg v2).1) ((f_X6_deliver F rl lg v2).2.1) ((f_X6_deliver F rl lg v2).2.2.1) ((f_X6_deliver F rl lg v2).2.2.2) else (if v1 = nI 5 then f_X6_done_117 ((f_X6_tick F rl lg v2).1) ((f_X6_tick F rl lg v2).2.1) ((f_X6_tick F rl lg v2).2.2.1) ((f_X6_tick F rl lg v2).2.2.2) else (if v1 = nI 6 then ((f_X6_prove F rl v2).1, (f_X6_prove F rl v2).2.1, lg, (f_X6_prove F rl v2).2.2) else ((f_X6_fake F rl v2 v3).1, (f_X6_fake F rl v2 v3).2.1, lg, (f_X6_fake F rl v2 v3).2.2))))))))
def s_X6_done  (F : Nat → Int32) (rl : Nat → Int32) (lg : Nat → Int32) (v1 : Int32) (v2 : Int32) (v3 : Int32) (v4 : Int32) (v5 : Int32) : Prop := ((v1 = nI 0 → (s_X6_ask F rl v2 v3 v4 ∧ s_X6_done_52 ((f_X6_ask F rl v2 v3 v4).1) ((f_X6_ask F rl v2 v3 v4).2.1) lg ((f_X6_ask F rl v2 v3 v4).2.2))) ∧ (¬ v1 = nI 0 → ((v1 = nI 1 → (s_X6_turn F rl v2 v3 ∧ s_X6_done_67 ((f_X6_turn F rl v2 v3).1) ((f_X6_turn F rl v2 v3).2.1) lg ((f_X6_turn F rl v2 v3).2.2))) ∧ (¬ v1 = nI 1 → ((v1 = nI 2 → (s_X6_show F rl v2 v3 v4 v5 ∧ (((f_X6_show F rl v2 v3 v4 v5).2.2) = 0 ∨ ((f_X6_show F rl v2 v3 v4 v5).2.2) = 1))) ∧ (¬ v1 = nI 2 → ((v1 = nI 3 → (s_X6_hand F rl v2 v3 v4 v5 ∧ (((f_X6_hand F rl v2 v3 v4 v5).2.2) = 0 ∨ ((f_X6_hand F rl v2 v3 v4 v5).2.2) = 1))) ∧ (¬ v1 = nI 3 → ((v1 = nI 4 → (s_X6_deliver F rl lg v2 ∧ s_X6_done_103 ((f_X6_deliver F rl lg v2).1) ((f_X6_deliver F rl lg v2).2.1) ((f_X6_deliver F rl lg v2).2.2.1) ((f_X6_deliver F rl lg v2).2.2.2))) ∧ (¬ v1 = nI 4 → ((v1 = nI 5 → (s_X6_tick F rl lg v2 ∧ s_X6_done_117 ((f_X6_tick F rl lg v2).1) ((f_X6_tick F rl lg v2).2.1) ((f_X6_tick F rl lg v2).2.2.1) ((f_X6_tick F rl lg v2).2.2.2))) ∧ (¬ v1 = nI 5 → ((v1 = nI 6 → (s_X6_prove F rl v2 ∧ (((f_X6_prove F rl v2).2.2) = 0 ∨ ((f_X6_prove F rl v2).2.2) = 1))) ∧ (¬ v1 = nI 6 → (s_X6_fake F rl v2 v3 ∧ (((f_X6_fake F rl v2 v3).2.2) = 0 ∨ ((f_X6_fake F rl v2 v3).2.2) = 1))))))))))))))))
set_option maxRecDepth 100000 in
set_option maxHeartbeats 4000000 in
theorem e_X6_done {G : ng_GG} {hf : (Nat → Int32) → (Nat → Int32) → (Nat → Int32) → (Nat → Int32) → (Nat → Int32) → (Nat → Int32) → (Nat → Int32) → (Nat → Int32) → (Nat → Int32) → (Nat → Int32) → (Nat → Int32) → (Nat → Int32) → (Nat → Int32) → (Nat → Int32) → (Nat → Int64) → (Nat → Int64) → (Nat → Int32) → ng_AM}  (V : ng_FL hf ) {F : Nat → Int32} {rl : Nat → Int32} {lg : Nat → Int32} {sta : Nat → Int32} {sm : Nat → Int32} {par : Nat → Int32} {mv : Nat → Int32} {dep : Nat → Int32} {nwa : Nat → Int32} {th : Nat → Int32} {bf : Nat → Int32} {row : Nat → Int32} {wid : Nat → Int32} {siz : Nat → Int32} {cel : Nat → Int64} {mvd : Nat → Int64} {ned : Nat → Int32}  {v1 : Int32} {v2 : Int32} {v3 : Int32} {v4 : Int32} {v5 : Int32} (h : s_X6_done  F rl lg v1 v2 v3 v4 v5)  : ng_Ev G md_X6_done 0 [some (.ref 28), some (.int v1), some (.int v2), some (.int v3), some (.int v4), some (.int v5)] [] (hf F rl lg sta sm par mv dep nwa th bf row wid siz cel mvd ned) (K_X6_done hf sta sm par mv dep nwa th bf row wid siz cel mvd ned (f_X6_done  F rl lg v1 v2 v3 v4 v5)) := by
  unfold s_X6_done at h
  unfold f_X6_done
  refine ev_iload_n dX6_done_0 rfl rfl ?_
  refine bk_cases (fun c1_0 => ?_) (fun c1_0 => ?_)
  · replace h := h.1 c1_0
    refine ev_tab_k (k := 0) (tgt := 44) dX6_done_1 c1_0 (by decide) (by decide) (by decide) rfl (by decide) ?_
    refine ev_aload_n dX6_done_44 rfl rfl rfl ?_
    refine ev_iload_n dX6_done_45 rfl rfl ?_
    refine ev_iload_n dX6_done_46 rfl rfl ?_
    refine ev_iload dX6_done_47 rfl ?_
    have hs49 := h.1
    replace h := h.2
    refine bk_callV (As := [.int v2, .int v3, .int v4]) (st := []) (st2 := [.int ((f_X6_ask F rl v2 v3 v4).2.2)]) (M2 := hf ((f_X6_ask F rl v2 v3 v4).1) ((f_X6_ask F rl v2 v3 v4).2.1) lg sta sm par mv dep nwa th bf row wid siz cel mvd ned) ok_X6_ask lk_RX6_230 (ng_rok.of rfl rfl) (FL_g28 V) rfl rfl rfl rfl rfl rfl dX6_done_49 (m_X6_ask V hs49) rfl rfl ?_
    exact ev_sub (e_X6_done_52 V h) (sub_n (sub_n (sub_n (sub_n (sub_n (sub_n sub_e))))))
  · replace h := h.2 c1_0
    refine bk_cases (fun c1_1 => ?_) (fun c1_1 => ?_)
    · replace h := h.1 c1_1
      refine ev_tab_k (k := 1) (tgt := 61) dX6_done_1 c1_1 (by decide) (by decide) (by decide) rfl (by decide) ?_
      refine ev_aload_n dX6_done_61 rfl rfl rfl ?_
      refine ev_iload_n dX6_done_62 rfl rfl ?_
      refine ev_iload_n dX6_done_63 rfl rfl ?_
      have hs64 := h.1
      replace h := h.2
      refine bk_callV (As := [.int v2, .int v3]) (st := []) (st2 := [.int ((f_X6_turn F rl v2 v3).2.2)]) (M2 := hf ((f_X6_turn F rl v2 v3).1) ((f_X6_turn F rl v2 v3).2.1) lg sta sm par mv dep nwa th bf row wid siz cel mvd ned) ok_X6_turn lk_RX6_234 (ng_rok.of rfl rfl) (FL_g28 V) rfl rfl rfl rfl rfl rfl dX6_done_64 (m_X6_turn V hs64) rfl rfl ?_
      exact ev_sub (e_X6_done_67 V h) (sub_n (sub_n (sub_n (sub_n (sub_n (sub_n sub_e))))))
    · replace h := h.2 c1_1
      refine bk_cases (fun c1_2 => ?_) (fun c1_2 => ?_)
      · replace h := h.1 c1_2
        refine ev_tab_k (k := 2) (tgt := 76) dX6_done_1 c1_2 (by decide) (by decide) (by decide) rfl (by decide) ?_
        refine ev_aload_n dX6_done_76 rfl rfl rfl ?_
        refine ev_iload_n dX6_done_77 rfl rfl ?_
        refine ev_iload_n dX6_done_78 rfl rfl ?_
        refine ev_iload dX6_done_79 rfl ?_
        refine ev_iload dX6_done_81 rfl ?_
        have hs83 := h.1
        replace h := h.2
        refine bk_callV (As := [.int v2, .int v3, .int v4, .int v5]) (st := []) (st2 := [.int ((f_X6_show F rl v2 v3 v4 v5).2.2)]) (M2 := hf ((f_X6_show F rl v2 v3 v4 v5).1) ((f_X6_show F rl v2 v3 v4 v5).2.1) lg sta sm par mv dep nwa th bf row wid siz cel mvd ned) ok_X6_show lk_RX6_238 (ng_rok.of rfl rfl) (FL_g28 V) rfl rfl rfl rfl rfl rfl dX6_done_83 (m_X6_show V hs83) rfl rfl ?_
        exact ev_iret rfl (ng_nz h) dX6_done_86
      · replace h := h.2 c1_2
        refine bk_cases (fun c1_3 => ?_) (fun c1_3 => ?_)
        · replace h := h.1 c1_3
          refine ev_tab_k (k := 3) (tgt := 87) dX6_done_1 c1_3 (by decide) (by decide) (by decide) rfl (by decide) ?_
          refine ev_aload_n dX6_done_87 rfl rfl rfl ?_
          refine ev_iload_n dX6_done_88 rfl rfl ?_
          refine ev_iload_n dX6_done_89 rfl rfl ?_
          refine ev_iload dX6_done_90 rfl ?_
          refine ev_iload dX6_done_92 rfl ?_
          have hs94 := h.1
          replace h := h.2
          refine bk_callV (As := [.int v2, .int v3, .int v4, .int v5]) (st := []) (st2 := [.int ((f_X6_hand F rl v2 v3 v4 v5).2.2)]) (M2 := hf ((f_X6_hand F rl v2 v3 v4 v5).1) ((f_X6_hand F rl v2 v3 v4 v5).2.1) lg sta sm par mv dep nwa th bf row wid siz cel mvd ned) ok_X6_hand lk_RX6_242 (ng_rok.of rfl rfl) (FL_g28 V) rfl rfl rfl rfl rfl rfl dX6_done_94 (m_X6_hand V hs94) rfl rfl ?_
          exact ev_iret rfl (ng_nz h) dX6_done_97
        · replace h := h.2 c1_3
          refine bk_cases (fun c1_4 => ?_) (fun c1_4 => ?_)
          · replace h := h.1 c1_4
            refine ev_tab_k (k := 4) (tgt := 98) dX6_done_1 c1_4 (by decide) (by decide) (by decide) rfl (by decide) ?_
            refine ev_aload_n dX6_done_98 rfl rfl rfl ?_
            refine ev_iload_n dX6_done_99 rfl rfl ?_
            have hs100 := h.1
            replace h := h.2
            refine bk_callV (As := [.int v2]) (st := []) (st2 := [.int ((f_X6_deliver F rl lg v2).2.2.2)]) (M2 := hf ((f_X6_deliver F rl lg v2).1) ((f_X6_deliver F rl lg v2).2.1) ((f_X6_deliver F rl lg v2).2.2.1) sta sm par mv dep nwa th bf row wid siz cel mvd ned) ok_X6_deliver lk_RX6_245 (ng_rok.of rfl rfl) (FL_g28 V) rfl rfl rfl rfl rfl rfl dX6_done_100 (m_X6_deliver V hs100) rfl rfl ?_
            exact ev_sub (e_X6_done_103 V h) (sub_n (sub_n (sub_n (sub_n (sub_n (sub_n sub_e))))))
          · replace h := h.2 c1_4
            refine bk_cases (fun c1_5 => ?_) (fun c1_5 => ?_)
            · replace h := h.1 c1_5
              refine ev_tab_k (k := 5) (tgt := 112) dX6_done_1 c1_5 (by decide) (by decide) (by decide) rfl (by decide) ?_
              refine ev_aload_n dX6_done_112 rfl rfl rfl ?_
              refine ev_iload_n dX6_done_113 rfl rfl ?_
              have hs114 := h.1
              replace h := h.2
              refine bk_callV (As := [.int v2]) (st := []) (st2 := [.int ((f_X6_tick F rl lg v2).2.2.2)]) (M2 := hf ((f_X6_tick F rl lg v2).1) ((f_X6_tick F rl lg v2).2.1) ((f_X6_tick F rl lg v2).2.2.1) sta sm par mv dep nwa th bf row wid siz cel mvd ned) ok_X6_tick lk_RX6_248 (ng_rok.of rfl rfl) (FL_g28 V) rfl rfl rfl rfl rfl rfl dX6_done_114 (m_X6_tick V hs114) rfl rfl ?_
              exact ev_sub (e_X6_done_117 V h) (sub_n (sub_n (sub_n (sub_n (sub_n (sub_n sub_e))))))
            · replace h := h.2 c1_5
              refine bk_cases (fun c1_6 => ?_) (fun c1_6 => ?_)
              · replace h := h.1 c1_6
                refine ev_tab_k (k := 6) (tgt := 126) dX6_done_1 c1_6 (by decide) (by decide) (by decide) rfl (by decide) ?_
                refine ev_aload_n dX6_done_126 rfl rfl rfl ?_
                refine ev_iload_n dX6_done_127 rfl rfl ?_
                have hs128 := h.1
                replace h := h.2
                refine bk_callV (As := [.int v2]) (st := []) (st2 := [.int ((f_X6_prove F rl v2).2.2)]) (M2 := hf ((f_X6_prove F rl v2).1) ((f_X6_prove F rl v2).2.1) lg sta sm par mv dep nwa th bf row wid siz cel mvd ned) ok_X6_prove lk_RX6_251 (ng_rok.of rfl rfl) (FL_g28 V) rfl rfl rfl rfl rfl rfl dX6_done_128 (m_X6_prove V hs128) rfl rfl ?_
                exact ev_iret rfl (ng_nz h) dX6_done_131
              · replace h := h.2 c1_6
                refine ev_tab_d (hi := 6) (tgt := 132) (m := 6) dX6_done_1 rfl (fun q hq => match q, hq with | 0, _ => c1_0 | 1, _ => c1_1 | 2, _ => c1_2 | 3, _ => c1_3 | 4, _ => c1_4 | 5, _ => c1_5 | 6, _ => c1_6 | (q + 7), hq => absurd hq (by omega)) (by decide) ?_
                refine ev_aload_n dX6_done_132 rfl rfl rfl ?_
                refine ev_iload_n dX6_done_133 rfl rfl ?_
                refine ev_iload_n dX6_done_134 rfl rfl ?_
                have hs135 := h.1
                replace h := h.2
                refine bk_callV (As := [.int v2, .int v3]) (st := []) (st2 := [.int ((f_X6_fake F rl v2 v3).2.2)]) (M2 := hf ((f_X6_fake F rl v2 v3).1) ((f_X6_fake F rl v2 v3).2.1) lg sta sm par mv dep nwa th bf row wid siz cel mvd ned) ok_X6_fake lk_RX6_254 (ng_rok.of rfl rfl) (FL_g28 V) rfl rfl rfl rfl rfl rfl dX6_done_135 (m_X6_fake V hs135) rfl rfl ?_
                exact ev_iret rfl (ng_nz h) dX6_done_138
theorem m_X6_done {G : ng_GG} {hf : (Nat → Int32) → (Nat → Int32) → (Nat → Int32) → (Nat → Int32) → (Nat → Int32) → (Nat → Int32) → (Nat → Int32) → (Nat → Int32) → (Nat → Int32) → (Nat → Int32) → (Nat → Int32) → (Nat → Int32) → (Nat → Int32) → (Nat → Int32) → (Nat → Int64) → (Nat → Int64) → (Nat → Int32) → ng_AM}  (V : ng_FL hf ) {F : Nat → Int32} {rl : Nat → Int32} {lg : Nat → Int32} {sta : Nat → Int32} {sm : Nat → Int32} {par : Nat → Int32} {mv : Nat → Int32} {dep : Nat → Int32} {nwa : Nat → Int32} {th : Nat → Int32} {bf : Nat → Int32} {row : Nat → Int32} {wid : Nat → Int32} {siz : Nat → Int32} {cel : Nat → Int64} {mvd : Nat → Int64} {ned : Nat → Int32} {v1 : Int32} {v2 : Int32} {v3 : Int32} {v4 : Int32} {v5 : Int32} (h : s_X6_done F rl lg v1 v2 v3 v4 v5)  : ng_Ev G md_X6_done 0 (ng_en 6 [.ref 28, .int v1, .int v2, .int v3, .int v4, .int v5]) [] (hf F rl lg sta sm par mv dep nwa th bf row wid siz cel mvd ned) (K_X6_done hf sta sm par mv dep nwa th bf row wid siz cel mvd ned (f_X6_done F rl lg v1 v2 v3 v4 v5)) := e_X6_done V h 
def K_X6_script (hf : (Nat → Int32) → (Nat → Int32) → (Nat → Int32) → (Nat → Int32) → (Nat → Int32) → (Nat → Int32) → (Nat → Int32) → (Nat → Int32) → (Nat → Int32) → (Nat → Int32) → (Nat → Int32) → (Nat → Int32) → (Nat → Int32) → (Nat → Int32) → (Nat → Int64) → (Nat → Int64) → (Nat → Int32) → ng_AM) (sta : Nat → Int32) (sm : Nat → Int32) (par : Nat → Int32) (mv : Nat → Int32) (dep : Nat → Int32) (nwa : Nat → Int32) (th : Nat → Int32) (bf : Nat → Int32) (row : Nat → Int32) (wid : Nat → Int32) (siz : Nat → Int32) (cel : Nat → Int64) (mvd : Nat → Int64) (r : (Nat → Int32) × (Nat → Int32) × (Nat → Int32) × (Nat → Int32) × Int32) : ng_RR := (some (.int (r.2.2.2.2)), hf (r.1) (r.2.1) (r.2.2.1) sta sm par mv dep nwa th bf row wid siz cel mvd (r.2.2.2.1))
def f_X6_script_75  (F : Nat → Int32) (rl : Nat → Int32) (lg : Nat → Int32) (wid : Nat → Int32) (siz : Nat → Int32) (cel : Nat → Int64) (ned : Nat → Int32) (v2 : Int32) : (Nat → Int32) × (Nat → Int32) × (Nat → Int32) × (Nat → Int32) × Int32 := ((upd F 23 (nI 4)), rl, lg, ned, v2)
def s_X6_script_75  (F : Nat → Int32) (rl : Nat → Int32) (lg : Nat → Int32) (wid : Nat → Int32) (siz : Nat → Int32) (cel : Nat → Int64) (ned : Nat → Int32) (v2 : Int32) : Prop := True
set_option maxRecDepth 100000 in
set_option maxHeartbeats 4000000 in
theorem e_X6_script_75 {G : ng_GG} {hf : (Nat → Int32) → (Nat → Int32) → (Nat → Int32) → (Nat → Int32) → (Nat → Int32) → (Nat → Int32) → (Nat → Int32) → (Nat → Int32) → (Nat → Int32) → (Nat → Int32) → (Nat → Int32) → (Nat → Int32) → (Nat → Int32) → (Nat → Int32) → (Nat → Int64) → (Nat → Int64) → (Nat → Int32) → ng_AM}  (V : ng_FL hf ) {F : Nat → Int32} {rl : Nat → Int32} {lg : Nat → Int32} {sta : Nat → Int32} {sm : Nat → Int32} {par : Nat → Int32} {mv : Nat → Int32} {dep : Nat → Int32} {nwa : Nat → Int32} {th : Nat → Int32} {bf : Nat → Int32} {row : Nat → Int32} {wid : Nat → Int32} {siz : Nat → Int32} {cel : Nat → Int64} {mvd : Nat → Int64} {ned : Nat → Int32}  {v2 : Int32} (h : s_X6_script_75  F rl lg wid siz cel ned v2)  : ng_Ev G md_X6_script 75 [some (.ref 28), none, some (.int v2), none, none, none, none, none, none, none] [] (hf F rl lg sta sm par mv dep nwa th bf row wid siz cel mvd ned) (K_X6_script hf sta sm par mv dep nwa th bf row wid siz cel mvd (f_X6_script_75  F rl lg wid siz cel ned v2)) := by
  unfold s_X6_script_75 at h
  unfold f_X6_script_75
  refine ev_aload_n dX6_script_75 rfl rfl rfl ?_
  refine ev_iconst (v := nI 4) dX6_script_76 (by decide) ?_
  refine ev_put 6 23 fs_RX6_57 (FL_g28 V) (ng_lt rfl) rfl (FL_s28 V (F' := (upd F 23 (nI 4)))) (ng_fit_i _) dX6_script_77 ?_
  refine ev_iload_n dX6_script_80 rfl rfl ?_
  exact ev_iret rfl rfl dX6_script_81
def f_X6_script_204 (kk36 : (Nat → Int32) → (Nat → Int32) → (Nat → Int32) → (Nat → Int32) → (Nat → Int32) → (Nat → Int64) → (Nat → Int32) → Int32 → Int32 → Int32 → ((Nat → Int32) × (Nat → Int32) × (Nat → Int32) × (Nat → Int32) × Int32)) (F : Nat → Int32) (rl : Nat → Int32) (lg : Nat → Int32) (wid : Nat → Int32) (siz : Nat → Int32) (cel : Nat → Int64) (ned : Nat → Int32) (v1 : Int32) (v2 : Int32) (v3 : Int32) (v6 : Int32) (t0 : Int32) : (Nat → Int32) × (Nat → Int32) × (Nat → Int32) × (Nat → Int32) × Int32 := (if t0 = 0 then ((upd F 23 (nI 3)), rl, lg, ned, v2) else kk36 F rl lg wid siz cel ned v1 (v2 + nI 1) (v3 + (v6 + (nI 1))))
def s_X6_script_204 (sk36 : (Nat → Int32) → (Nat → Int32) → (Nat → Int32) → (Nat → Int32) → (Nat → Int32) → (Nat → Int64) → (Nat → Int32) → Int32 → Int32 → Int32 → Prop) (F : Nat → Int32) (rl : Nat → Int32) (lg : Nat → Int32) (wid : Nat → Int32) (siz : Nat → Int32) (cel : Nat → Int64) (ned : Nat → Int32) (v1 : Int32) (v2 : Int32) (v3 : Int32) (v6 : Int32) (t0 : Int32) : Prop := (¬ t0 = 0 → sk36 F rl lg wid siz cel ned v1 (v2 + nI 1) (v3 + (v6 + (nI 1))))
set_option maxRecDepth 100000 in
set_option maxHeartbeats 4000000 in
theorem e_X6_script_204 {G : ng_GG} {hf : (Nat → Int32) → (Nat → Int32) → (Nat → Int32) → (Nat → Int32) → (Nat → Int32) → (Nat → Int32) → (Nat → Int32) → (Nat → Int32) → (Nat → Int32) → (Nat → Int32) → (Nat → Int32) → (Nat → Int32) → (Nat → Int32) → (Nat → Int32) → (Nat → Int64) → (Nat → Int64) → (Nat → Int32) → ng_AM}  (V : ng_FL hf ) {F : Nat → Int32} {rl : Nat → Int32} {lg : Nat → Int32} {sta : Nat → Int32} {sm : Nat → Int32} {par : Nat → Int32} {mv : Nat → Int32} {dep : Nat → Int32} {nwa : Nat → Int32} {th : Nat → Int32} {bf : Nat → Int32} {row : Nat → Int32} {wid : Nat → Int32} {siz : Nat → Int32} {cel : Nat → Int64} {mvd : Nat → Int64} {ned : Nat → Int32} {kk36 : (Nat → Int32) → (Nat → Int32) → (Nat → Int32) → (Nat → Int32) → (Nat → Int32) → (Nat → Int64) → (Nat → Int32) → Int32 → Int32 → Int32 → ((Nat → Int32) × (Nat → Int32) × (Nat → Int32) × (Nat → Int32) × Int32)} {sk36 : (Nat → Int32) → (Nat → Int32) → (Nat → Int32) → (Nat → Int32) → (Nat → Int32) → (Nat → Int64) → (Nat → Int32) → Int32 → Int32 → Int32 → Prop} (hk36 : ∀ (F : Nat → Int32) (rl : Nat → Int32) (lg : Nat → Int32) (sta : Nat → Int32) (sm : Nat → Int32) (par : Nat → Int32) (mv : Nat → Int32) (dep : Nat → Int32) (nwa : Nat → Int32) (th : Nat → Int32) (bf : Nat → Int32) (row : Nat → Int32) (wid : Nat → Int32) (siz : Nat → Int32) (cel : Nat → Int64) (mvd : Nat → Int64) (ned : Nat → Int32) (v1 : Int32) (v2 : Int32) (v3 : Int32), sk36 F rl lg wid siz cel ned v1 v2 v3 → ng_Ev G md_X6_script 36 [some (.ref 28), some (.int v1), some (.int v2), some (.int v3), none, none, none, none, none, none] [] (hf F rl lg sta sm par mv dep nwa th bf row wid siz cel mvd ned) (K_X6_script hf sta sm par mv dep nwa th bf row wid siz cel mvd (kk36 F rl lg wid siz cel ned v1 v2 v3))) {v1 : Int32} {v2 : Int32} {v3 : Int32} {v6 : Int32} {t0 : Int32} (h : s_X6_script_204 sk36 F rl lg wid siz cel ned v1 v2 v3 v6 t0)  : ng_Ev G md_X6_script 204 [some (.ref 28), some (.int v1), some (.int v2), some (.int v3), none, none, some (.int v6), none, none, none] [.int t0] (hf F rl lg sta sm par mv dep nwa th bf row wid siz cel mvd ned) (K_X6_script hf sta sm par mv dep nwa th bf row wid siz cel mvd (f_X6_script_204 kk36 F rl lg wid siz cel ned v1 v2 v3 v6 t0)) := by
  unfold s_X6_script_204 at h
  unfold f_X6_script_204
  refine bk_if_ne (tgt := 214) dX6_script_204 (by decide) (fun c204 => ?_) (fun c204 => ?_)
  · replace h := h c204
    refine ev_iinc (v := v2 + nI 1) (L' := [some (.ref 28), some (.int v1), some (.int (v2 + nI 1)), some (.int v3), none, none, some (.int v6), none, none, none]) dX6_script_214 rfl (by rfl) rfl ?_
    refine ev_iload_n dX6_script_217 rfl rfl ?_
    refine ev_iload dX6_script_218 rfl ?_
    refine ev_iconst (v := nI 1) dX6_script_220 (by decide) ?_
    refine ev_iadd dX6_script_221 ?_
    refine ev_iadd dX6_script_222 ?_
    refine ev_istore_n (L' := [some (.ref 28), some (.int v1), some (.int (v2 + nI 1)), some (.int (v3 + (v6 + (nI 1)))), none, none, some (.int v6), none, none, none]) dX6_script_223 rfl (ng_lt rfl) rfl ?_
    refine ev_goto (tgt := 36) dX6_script_224 (by decide) ?_
    exact ev_sub (hk36 F rl lg sta sm par mv dep nwa th bf row wid siz cel mvd ned v1 (v2 + nI 1) (v3 + (v6 + (nI 1))) h) (sub_s (sub_s (sub_s (sub_s (sub_n (sub_n (sub_n (sub_n (sub_n (sub_n sub_e))))))))))
  · refine ev_aload_n dX6_script_207 rfl rfl rfl ?_
    refine ev_iconst (v := nI 3) dX6_script_208 (by decide) ?_
    refine ev_put 6 23 fs_RX6_57 (FL_g28 V) (ng_lt rfl) rfl (FL_s28 V (F' := (upd F 23 (nI 3)))) (ng_fit_i _) dX6_script_209 ?_
    refine ev_iload_n dX6_script_212 rfl rfl ?_
    exact ev_iret rfl rfl dX6_script_213
def f_X6_script_94 (kk36 : (Nat → Int32) → (Nat → Int32) → (Nat → Int32) → (Nat → Int32) → (Nat → Int32) → (Nat → Int64) → (Nat → Int32) → Int32 → Int32 → Int32 → ((Nat → Int32) × (Nat → Int32) × (Nat → Int32) × (Nat → Int32) × Int32)) : Nat → (Nat → Int32) → (Nat → Int32) → (Nat → Int32) → (Nat → Int32) → (Nat → Int32) → (Nat → Int64) → (Nat → Int32) → Int32 → Int32 → Int32 → Int64 → Int32 → Int32 → ((Nat → Int32) × (Nat → Int32) × (Nat → Int32) × (Nat → Int32) × Int32)
  | 0, F, rl, lg, _, _, _, ned, _, _, _, _, _, _ => (F, rl, lg, ned, 0)
  | n + 1, F, rl, lg, wid, siz, cel, ned, v1, v2, v3, v4, v6, v7 => (if v6 ≤ v7 then f_X6_script_204 kk36 ((f_X6_done F rl lg v4.toInt32 (ned (nI 0).toNatClampNeg) (ned (nI 1).toNatClampNeg) (ned (nI 2).toNatClampNeg) (ned (nI 3).toNatClampNeg)).1) ((f_X6_done F rl lg v4.toInt32 (ned (nI 0).toNatClampNeg) (ned (nI 1).toNatClampNeg) (ned (nI 2).toNatClampNeg) (ned (nI 3).toNatClampNeg)).2.1) ((f_X6_done F rl lg v4.toInt32 (ned (nI 0).toNatClampNeg) (ned (nI 1).toNatClampNeg) (ned (nI 2).toNatClampNeg) (ned (nI 3).toNatClampNeg)).2.2.1) wid siz cel ned v1 v2 v3 v6 ((f_X6_done F rl lg v4.toInt32 (ned (nI 0).toNatClampNeg) (ned (nI 1).toNatClampNeg) (ned (nI 2).toNatClampNeg) (ned (nI 3).toNatClampNeg)).2.2.2) else (if ((v3 + (nI 1)) + v7) < (siz v1.toNatClampNeg) then (if (f_X6_isInt (cel (((((nI 60) * v1) + v3) + (nI 1)) + v7).toNatClampNeg)) = 0 then ((upd F 23 (nI 4)), rl, lg, ned, v2) else f_X6_script_94 kk36 n F rl lg wid siz cel (upd ned v7.toNatClampNeg ((cel (((((nI 60) * v1) + v3) + (nI 1)) + v7).toNatClampNeg).toInt32)) v1 v2 v3 v4 v6 (v7 + nI 1)) else ((upd F 23 (nI 6)), rl, lg, ned, v2)))
def s_X6_script_94 (sk36 : (Nat → Int32) → (Nat → Int32) → (Nat → Int32) → (Nat → Int32) → (Nat → Int32) → (Nat → Int64) → (Nat → Int32) → Int32 → Int32 → Int32 → Prop) : Nat → (Nat → Int32) → (Nat → Int32) → (Nat → Int32) → (Nat → Int32) → (Nat → Int32) → (Nat → Int64) → (Nat → Int32) → Int32 → Int32 → Int32 → Int64 → Int32 → Int32 → Prop
  | 0, _, _, _, _, _, _, _, _, _, _, _, _, _ => False
  | n + 1, F, rl, lg, wid, siz, cel, ned, v1, v2, v3, v4, v6, v7 => ((v6 ≤ v7 → (s_X6_done F rl lg v4.toInt32 (ned (nI 0).toNatClampNeg) (ned (nI 1).toNatClampNeg) (ned (nI 2).toNatClampNeg) (ned (nI 3).toNatClampNeg) ∧ s_X6_script_204 sk36 ((f_X6_done F rl lg v4.toInt32 (ned (nI 0).toNatClampNeg) (ned (nI 1).toNatClampNeg) (ned (nI 2).toNatClampNeg) (ned (nI 3).toNatClampNeg)).1) ((f_X6_done F rl lg v4.toInt32 (ned (nI 0).toNatClampNeg) (ned (nI 1).toNatClampNeg) (ned (nI 2).toNatClampNeg) (ned (nI 3).toNatClampNeg)).2.1) ((f_X6_done F rl lg v4.toInt32 (ned (nI 0).toNatClampNeg) (ned (nI 1).toNatClampNeg) (ned (nI 2).toNatClampNeg) (ned (nI 3).toNatClampNeg)).2.2.1) wid siz cel ned v1 v2 v3 v6 ((f_X6_done F rl lg v4.toInt32 (ned (nI 0).toNatClampNeg) (ned (nI 1).toNatClampNeg) (ned (nI 2).toNatClampNeg) (ned (nI 3).toNatClampNeg)).2.2.2))) ∧ (¬ v6 ≤ v7 → (vp_in v1 4 ∧ (((v3 + (nI 1)) + v7) < (siz v1.toNatClampNeg) → (vp_in (((((nI 60) * v1) + v3) + (nI 1)) + v7) 240 ∧ (¬ (f_X6_isInt (cel (((((nI 60) * v1) + v3) + (nI 1)) + v7).toNatClampNeg)) = 0 → (vp_in v7 4 ∧ s_X6_script_94 sk36 n F rl lg wid siz cel (upd ned v7.toNatClampNeg ((cel (((((nI 60) * v1) + v3) + (nI 1)) + v7).toNatClampNeg).toInt32)) v1 v2 v3 v4 v6 (v7 + nI 1))))))))
set_option maxRecDepth 100000 in
set_option maxHeartbeats 4000000 in
theorem e_X6_script_94 {G : ng_GG} {hf : (Nat → Int32) → (Nat → Int32) → (Nat → Int32) → (Nat → Int32) → (Nat → Int32) → (Nat → Int32) → (Nat → Int32) → (Nat → Int32) → (Nat → Int32) → (Nat → Int32) → (Nat → Int32) → (Nat → Int32) → (Nat → Int32) → (Nat → Int32) → (Nat → Int64) → (Nat → Int64) → (Nat → Int32) → ng_AM}  (V : ng_FL hf ) {kk36 : (Nat → Int32) → (Nat → Int32) → (Nat → Int32) → (Nat → Int32) → (Nat → Int32) → (Nat → Int64) → (Nat → Int32) → Int32 → Int32 → Int32 → ((Nat → Int32) × (Nat → Int32) × (Nat → Int32) × (Nat → Int32) × Int32)} {sk36 : (Nat → Int32) → (Nat → Int32) → (Nat → Int32) → (Nat → Int32) → (Nat → Int32) → (Nat → Int64) → (Nat → Int32) → Int32 → Int32 → Int32 → Prop} (hk36 : ∀ (F : Nat → Int32) (rl : Nat → Int32) (lg : Nat → Int32) (sta : Nat → Int32) (sm : Nat → Int32) (par : Nat → Int32) (mv : Nat → Int32) (dep : Nat → Int32) (nwa : Nat → Int32) (th : Nat → Int32) (bf : Nat → Int32) (row : Nat → Int32) (wid : Nat → Int32) (siz : Nat → Int32) (cel : Nat → Int64) (mvd : Nat → Int64) (ned : Nat → Int32) (v1 : Int32) (v2 : Int32) (v3 : Int32), sk36 F rl lg wid siz cel ned v1 v2 v3 → ng_Ev G md_X6_script 36 [some (.ref 28), some (.int v1), some (.int v2), some (.int v3), none, none, none, none, none, none] [] (hf F rl lg sta sm par mv dep nwa th bf row wid siz cel mvd ned) (K_X6_script hf sta sm par mv dep nwa th bf row wid siz cel mvd (kk36 F rl lg wid siz cel ned v1 v2 v3))) : ∀ (n : Nat) (F : Nat → Int32) (rl : Nat → Int32) (lg : Nat → Int32) (sta : Nat → Int32) (sm : Nat → Int32) (par : Nat → Int32) (mv : Nat → Int32) (dep : Nat → Int32) (nwa : Nat → Int32) (th : Nat → Int32) (bf : Nat → Int32) (row : Nat → Int32) (wid : Nat → Int32) (siz : Nat → Int32) (cel : Nat → Int64) (mvd : Nat → Int64) (ned : Nat → Int32) (v1 : Int32) (v2 : Int32) (v3 : Int32) (v4 : Int64) (v6 : Int32) (v7 : Int32), s_X6_script_94 sk36 n F rl lg wid siz cel ned v1 v2 v3 v4 v6 v7 → ng_Ev G md_X6_script 94 [some (.ref 28), some (.int v1), some (.int v2), some (.int v3), some (.long v4), none, some (.int v6), some (.int v7), none, none] [] (hf F rl lg sta sm par mv dep nwa th bf row wid siz cel mvd ned) (K_X6_script hf sta sm par mv dep nwa th bf row wid siz cel mvd (f_X6_script_94 kk36 n F rl lg wid siz cel ned v1 v2 v3 v4 v6 v7)) := by
  intro n
  induction n with
  | zero => intro F rl lg sta sm par mv dep nwa th bf row wid siz cel mvd ned v1 v2 v3 v4 v6 v7 h; exact False.elim h
  | succ n ih =>
    intro F rl lg sta sm par mv dep nwa th bf row wid siz cel mvd ned v1 v2 v3 v4 v6 v7 h 
    rw [s_X6_script_94] at h
    rw [f_X6_script_94]
    refine ev_iload dX6_script_94 rfl ?_
    refine ev_iload dX6_script_96 rfl ?_
    refine bk_icmp_ge (tgt := 173) dX6_script_98 (by decide) (fun c98 => ?_) (fun c98 => ?_)
    · replace h := h.1 c98
      refine ev_aload_n dX6_script_173 rfl rfl rfl ?_
      refine ev_lload dX6_script_174 rfl ?_
      refine ev_l2i dX6_script_176 ?_
      refine ev_aload_n dX6_script_177 rfl rfl rfl ?_
      refine ev_get 6 27 fl_RX6_61 (FL_g28 V) rfl dX6_script_178 ?_
      refine ev_iconst (v := nI 0) dX6_script_181 (by decide) ?_
      refine ev_iald (FL_g44 V) (vp_in_nI (by decide) (by decide)) dX6_script_182 ?_
      refine ev_aload_n dX6_script_183 rfl rfl rfl ?_
      refine ev_get 6 27 fl_RX6_61 (FL_g28 V) rfl dX6_script_184 ?_
      refine ev_iconst (v := nI 1) dX6_script_187 (by decide) ?_
      refine ev_iald (FL_g44 V) (vp_in_nI (by decide) (by decide)) dX6_script_188 ?_
      refine ev_aload_n dX6_script_189 rfl rfl rfl ?_
      refine ev_get 6 27 fl_RX6_61 (FL_g28 V) rfl dX6_script_190 ?_
      refine ev_iconst (v := nI 2) dX6_script_193 (by decide) ?_
      refine ev_iald (FL_g44 V) (vp_in_nI (by decide) (by decide)) dX6_script_194 ?_
      refine ev_aload_n dX6_script_195 rfl rfl rfl ?_
      refine ev_get 6 27 fl_RX6_61 (FL_g28 V) rfl dX6_script_196 ?_
      refine ev_iconst (v := nI 3) dX6_script_199 (by decide) ?_
      refine ev_iald (FL_g44 V) (vp_in_nI (by decide) (by decide)) dX6_script_200 ?_
      have hs201 := h.1
      replace h := h.2
      refine bk_callV (As := [.int v4.toInt32, .int (ned (nI 0).toNatClampNeg), .int (ned (nI 1).toNatClampNeg), .int (ned (nI 2).toNatClampNeg), .int (ned (nI 3).toNatClampNeg)]) (st := []) (st2 := [.int ((f_X6_done F rl lg v4.toInt32 (ned (nI 0).toNatClampNeg) (ned (nI 1).toNatClampNeg) (ned (nI 2).toNatClampNeg) (ned (nI 3).toNatClampNeg)).2.2.2)]) (M2 := hf ((f_X6_done F rl lg v4.toInt32 (ned (nI 0).toNatClampNeg) (ned (nI 1).toNatClampNeg) (ned (nI 2).toNatClampNeg) (ned (nI 3).toNatClampNeg)).1) ((f_X6_done F rl lg v4.toInt32 (ned (nI 0).toNatClampNeg) (ned (nI 1).toNatClampNeg) (ned (nI 2).toNatClampNeg) (ned (nI 3).toNatClampNeg)).2.1) ((f_X6_done F rl lg v4.toInt32 (ned (nI 0).toNatClampNeg) (ned (nI 1).toNatClampNeg) (ned (nI 2).toNatClampNeg) (ned (nI 3).toNatClampNeg)).2.2.1) sta sm par mv dep nwa th bf row wid siz cel mvd ned) ok_X6_done lk_RX6_267 (ng_rok.of rfl rfl) (FL_g28 V) rfl rfl rfl rfl rfl rfl dX6_script_201 (m_X6_done V hs201) rfl rfl ?_
      exact ev_sub (e_X6_script_204 V hk36 h) (sub_s (sub_s (sub_s (sub_s (sub_n (sub_n (sub_s (sub_n (sub_n (sub_n sub_e))))))))))
    · replace h := h.2 c98
      refine ev_iload_n dX6_script_101 rfl rfl ?_
      refine ev_iconst (v := nI 1) dX6_script_102 (by decide) ?_
      refine ev_iadd dX6_script_103 ?_
      refine ev_iload dX6_script_104 rfl ?_
      refine ev_iadd dX6_script_106 ?_
      refine ev_aload_n dX6_script_107 rfl rfl rfl ?_
      refine ev_get 6 20 fl_RX6_47 (FL_g28 V) rfl dX6_script_108 ?_
      refine ev_iload_n dX6_script_111 rfl rfl ?_
      have hi112 := h.1
      replace h := h.2
      refine ev_iald (FL_g41 V) hi112 dX6_script_112 ?_
      refine bk_icmp_lt (tgt := 124) dX6_script_113 (by decide) (fun c113 => ?_) (fun c113 => ?_)
      · replace h := h c113
        refine ev_aload_n dX6_script_124 rfl rfl rfl ?_
        refine ev_get 6 21 fl_RX6_50 (FL_g28 V) rfl dX6_script_125 ?_
        refine ev_bipush (v := nI 60) dX6_script_128 (by decide) ?_
        refine ev_iload_n dX6_script_130 rfl rfl ?_
        refine ev_imul dX6_script_131 ?_
        refine ev_iload_n dX6_script_132 rfl rfl ?_
        refine ev_iadd dX6_script_133 ?_
        refine ev_iconst (v := nI 1) dX6_script_134 (by decide) ?_
        refine ev_iadd dX6_script_135 ?_
        refine ev_iload dX6_script_136 rfl ?_
        refine ev_iadd dX6_script_138 ?_
        have hi139 := h.1
        replace h := h.2
        refine ev_lald (FL_g42 V) hi139 dX6_script_139 ?_
        refine ev_lstore (L' := [some (.ref 28), some (.int v1), some (.int v2), some (.int v3), some (.long v4), none, some (.int v6), some (.int v7), some (.long (cel (((((nI 60) * v1) + v3) + (nI 1)) + v7).toNatClampNeg)), none]) dX6_script_140 (ng_lt rfl) rfl ?_
        refine ev_lload dX6_script_142 rfl ?_
        refine bk_callS (As := [.long (cel (((((nI 60) * v1) + v3) + (nI 1)) + v7).toNatClampNeg)]) (st := []) (st2 := [.int (f_X6_isInt (cel (((((nI 60) * v1) + v3) + (nI 1)) + v7).toNatClampNeg))]) (M2 := hf F rl lg sta sm par mv dep nwa th bf row wid siz cel mvd ned) ok_X6_isInt lk_RX6_263 (ng_rok.of rfl rfl) rfl rfl rfl rfl dX6_script_144 (m_X6_isInt trivial) rfl rfl ?_
        refine bk_if_ne (tgt := 157) dX6_script_147 (by decide) (fun c147 => ?_) (fun c147 => ?_)
        · replace h := h c147
          refine ev_aload_n dX6_script_157 rfl rfl rfl ?_
          refine ev_get 6 27 fl_RX6_61 (FL_g28 V) rfl dX6_script_158 ?_
          refine ev_iload dX6_script_161 rfl ?_
          refine ev_lload dX6_script_163 rfl ?_
          refine ev_l2i dX6_script_165 ?_
          have hi166 := h.1
          replace h := h.2
          refine ev_iast (FL_g44 V) hi166 (FL_s44 V) dX6_script_166 ?_
          refine ev_iinc (v := v7 + nI 1) (L' := [some (.ref 28), some (.int v1), some (.int v2), some (.int v3), some (.long v4), none, some (.int v6), some (.int (v7 + nI 1)), some (.long (cel (((((nI 60) * v1) + v3) + (nI 1)) + v7).toNatClampNeg)), none]) dX6_script_167 rfl (by rfl) rfl ?_
          refine ev_goto (tgt := 94) dX6_script_170 (by decide) ?_
          exact ev_sub (ih F rl lg sta sm par mv dep nwa th bf row wid siz cel mvd (upd ned v7.toNatClampNeg ((cel (((((nI 60) * v1) + v3) + (nI 1)) + v7).toNatClampNeg).toInt32)) v1 v2 v3 v4 v6 (v7 + nI 1) h) (sub_s (sub_s (sub_s (sub_s (sub_s (sub_n (sub_s (sub_s (sub_n (sub_n sub_e))))))))))
        · refine ev_aload_n dX6_script_150 rfl rfl rfl ?_
          refine ev_iconst (v := nI 4) dX6_script_151 (by decide) ?_
          refine ev_put 6 23 fs_RX6_57 (FL_g28 V) (ng_lt rfl) rfl (FL_s28 V (F' := (upd F 23 (nI 4)))) (ng_fit_i _) dX6_script_152 ?_
          refine ev_iload_n dX6_script_155 rfl rfl ?_
          exact ev_iret rfl rfl dX6_script_156
      · refine ev_aload_n dX6_script_116 rfl rfl rfl ?_
        refine ev_bipush (v := nI 6) dX6_script_117 (by decide) ?_
        refine ev_put 6 23 fs_RX6_57 (FL_g28 V) (ng_lt rfl) rfl (FL_s28 V (F' := (upd F 23 (nI 6)))) (ng_fit_i _) dX6_script_119 ?_
        refine ev_iload_n dX6_script_122 rfl rfl ?_
        exact ev_iret rfl rfl dX6_script_123
def f_X6_script_36  : Nat → (Nat → Int32) → (Nat → Int32) → (Nat → Int32) → (Nat → Int32) → (Nat → Int32) → (Nat → Int64) → (Nat → Int32) → Int32 → Int32 → Int32 → ((Nat → Int32) × (Nat → Int32) × (Nat → Int32) × (Nat → Int32) × Int32)
  | 0, F, rl, lg, _, _, _, ned, _, _, _ => (F, rl, lg, ned, 0)
  | n + 1, F, rl, lg, wid, siz, cel, ned, v1, v2, v3 => (if (siz v1.toNatClampNeg) ≤ v3 then (F, rl, lg, ned, v2) else (if (lg_cmp (cel (((nI 60) * v1) + v3).toNatClampNeg) (0 : Int64)) < 0 then f_X6_script_75 F rl lg wid siz cel ned v2 else (if (lg_cmp (cel (((nI 60) * v1) + v3).toNatClampNeg) (7 : Int64)) ≤ 0 then f_X6_script_94 (f_X6_script_36 n) ng_F F rl lg wid siz cel ned v1 v2 v3 (cel (((nI 60) * v1) + v3).toNatClampNeg) (ng_N8 ((cel (((nI 60) * v1) + v3).toNatClampNeg).toInt32).toNatClampNeg) (nI 0) else f_X6_script_75 F rl lg wid siz cel ned v2)))
def s_X6_script_36  : Nat → (Nat → Int32) → (Nat → Int32) → (Nat → Int32) → (Nat → Int32) → (Nat → Int32) → (Nat → Int64) → (Nat → Int32) → Int32 → Int32 → Int32 → Prop
  | 0, _, _, _, _, _, _, _, _, _, _ => False
  | n + 1, F, rl, lg, wid, siz, cel, ned, v1, v2, v3 => (vp_in v1 4 ∧ (¬ (siz v1.toNatClampNeg) ≤ v3 → (vp_in (((nI 60) * v1) + v3) 240 ∧ (((lg_cmp (cel (((nI 60) * v1) + v3).toNatClampNeg) (0 : Int64)) < 0 → s_X6_script_75 F rl lg wid siz cel ned v2) ∧ (¬ (lg_cmp (cel (((nI 60) * v1) + v3).toNatClampNeg) (0 : Int64)) < 0 → (((lg_cmp (cel (((nI 60) * v1) + v3).toNatClampNeg) (7 : Int64)) ≤ 0 → (vp_in ((cel (((nI 60) * v1) + v3).toNatClampNeg).toInt32) 8 ∧ s_X6_script_94 (s_X6_script_36 n) ng_F F rl lg wid siz cel ned v1 v2 v3 (cel (((nI 60) * v1) + v3).toNatClampNeg) (ng_N8 ((cel (((nI 60) * v1) + v3).toNatClampNeg).toInt32).toNatClampNeg) (nI 0))) ∧ (¬ (lg_cmp (cel (((nI 60) * v1) + v3).toNatClampNeg) (7 : Int64)) ≤ 0 → s_X6_script_75 F rl lg wid siz cel ned v2)))))))
set_option maxRecDepth 100000 in
set_option maxHeartbeats 4000000 in
theorem e_X6_script_36 {G : ng_GG} {hf : (Nat → Int32) → (Nat → Int32) → (Nat → Int32) → (Nat → Int32) → (Nat → Int32) → (Nat → Int32) → (Nat → Int32) → (Nat → Int32) → (Nat → Int32) → (Nat → Int32) → (Nat → Int32) → (Nat → Int32) → (Nat → Int32) → (Nat → Int32) → (Nat → Int64) → (Nat → Int64) → (Nat → Int32) → ng_AM}  (V : ng_FL hf )  : ∀ (n : Nat) (F : Nat → Int32) (rl : Nat → Int32) (lg : Nat → Int32) (sta : Nat → Int32) (sm : Nat → Int32) (par : Nat → Int32) (mv : Nat → Int32) (dep : Nat → Int32) (nwa : Nat → Int32) (th : Nat → Int32) (bf : Nat → Int32) (row : Nat → Int32) (wid : Nat → Int32) (siz : Nat → Int32) (cel : Nat → Int64) (mvd : Nat → Int64) (ned : Nat → Int32) (v1 : Int32) (v2 : Int32) (v3 : Int32), s_X6_script_36  n F rl lg wid siz cel ned v1 v2 v3 → ng_Ev G md_X6_script 36 [some (.ref 28), some (.int v1), some (.int v2), some (.int v3), none, none, none, none, none, none] [] (hf F rl lg sta sm par mv dep nwa th bf row wid siz cel mvd ned) (K_X6_script hf sta sm par mv dep nwa th bf row wid siz cel mvd (f_X6_script_36  n F rl lg wid siz cel ned v1 v2 v3)) := by
  intro n
  induction n with
  | zero => intro F rl lg sta sm par mv dep nwa th bf row wid siz cel mvd ned v1 v2 v3 h; exact False.elim h
  | succ n ih =>
    intro F rl lg sta sm par mv dep nwa th bf row wid siz cel mvd ned v1 v2 v3 h 
    rw [s_X6_script_36] at h
    rw [f_X6_script_36]
    refine ev_iload_n dX6_script_36 rfl rfl ?_
    refine ev_aload_n dX6_script_37 rfl rfl rfl ?_
    refine ev_get 6 20 fl_RX6_47 (FL_g28 V) rfl dX6_script_38 ?_
    refine ev_iload_n dX6_script_41 rfl rfl ?_
    have hi42 := h.1
    replace h := h.2
    refine ev_iald (FL_g41 V) hi42 dX6_script_42 ?_
    refine bk_icmp_ge (tgt := 227) dX6_script_43 (by decide) (fun c43 => ?_) (fun c43 => ?_)
    · refine ev_iload_n dX6_script_227 rfl rfl ?_
      exact ev_iret rfl rfl dX6_script_228
    · replace h := h c43
      refine ev_aload_n dX6_script_46 rfl rfl rfl ?_
      refine ev_get 6 21 fl_RX6_50 (FL_g28 V) rfl dX6_script_47 ?_
      refine ev_bipush (v := nI 60) dX6_script_50 (by decide) ?_
      refine ev_iload_n dX6_script_52 rfl rfl ?_
      refine ev_imul dX6_script_53 ?_
      refine ev_iload_n dX6_script_54 rfl rfl ?_
      refine ev_iadd dX6_script_55 ?_
      have hi56 := h.1
      replace h := h.2
      refine ev_lald (FL_g42 V) hi56 dX6_script_56 ?_
      refine ev_lstore (L' := [some (.ref 28), some (.int v1), some (.int v2), some (.int v3), some (.long (cel (((nI 60) * v1) + v3).toNatClampNeg)), none, none, none, none, none]) dX6_script_57 (ng_lt rfl) rfl ?_
      refine ev_lload dX6_script_59 rfl ?_
      refine ev_lconst (v := 0) dX6_script_61 (by decide) ?_
      refine ev_lcmp dX6_script_62 ?_
      refine bk_if_lt (tgt := 75) dX6_script_63 (by decide) (fun c63 => ?_) (fun c63 => ?_)
      · replace h := h.1 c63
        exact ev_sub (e_X6_script_75 V h) (sub_s (sub_n (sub_s (sub_n (sub_n (sub_n (sub_n (sub_n (sub_n (sub_n sub_e))))))))))
      · replace h := h.2 c63
        refine ev_lload dX6_script_66 rfl ?_
        refine ev_ldc2 kc_RX6_258 dX6_script_68 ?_
        refine ev_lcmp dX6_script_71 ?_
        refine bk_if_le (tgt := 82) dX6_script_72 (by decide) (fun c72 => ?_) (fun c72 => ?_)
        · replace h := h.1 c72
          refine ev_gets6 fl_RX6_260 dX6_script_82 ?_
          refine ev_lload dX6_script_85 rfl ?_
          refine ev_l2i dX6_script_87 ?_
          have hi88 := h.1
          replace h := h.2
          refine ev_tld6 hi88 dX6_script_88 ?_
          refine ev_istore (L' := [some (.ref 28), some (.int v1), some (.int v2), some (.int v3), some (.long (cel (((nI 60) * v1) + v3).toNatClampNeg)), none, some (.int (ng_N8 ((cel (((nI 60) * v1) + v3).toNatClampNeg).toInt32).toNatClampNeg)), none, none, none]) dX6_script_89 (ng_lt rfl) rfl ?_
          refine ev_iconst (v := nI 0) dX6_script_91 (by decide) ?_
          refine ev_istore (L' := [some (.ref 28), some (.int v1), some (.int v2), some (.int v3), some (.long (cel (((nI 60) * v1) + v3).toNatClampNeg)), none, some (.int (ng_N8 ((cel (((nI 60) * v1) + v3).toNatClampNeg).toInt32).toNatClampNeg)), some (.int (nI 0)), none, none]) dX6_script_92 (ng_lt rfl) rfl ?_
          exact ev_sub (e_X6_script_94 V ih ng_F F rl lg sta sm par mv dep nwa th bf row wid siz cel mvd ned v1 v2 v3 (cel (((nI 60) * v1) + v3).toNatClampNeg) (ng_N8 ((cel (((nI 60) * v1) + v3).toNatClampNeg).toInt32).toNatClampNeg) (nI 0) h) (sub_s (sub_s (sub_s (sub_s (sub_s (sub_n (sub_s (sub_s (sub_n (sub_n sub_e))))))))))
        · replace h := h.2 c72
          exact ev_sub (e_X6_script_75 V h) (sub_s (sub_n (sub_s (sub_n (sub_n (sub_n (sub_n (sub_n (sub_n (sub_n sub_e))))))))))
def f_X6_script  (F : Nat → Int32) (rl : Nat → Int32) (lg : Nat → Int32) (wid : Nat → Int32) (siz : Nat → Int32) (cel : Nat → Int64) (ned : Nat → Int32) (v1 : Int32) : (Nat → Int32) × (Nat → Int32) × (Nat → Int32) × (Nat → Int32) × Int32 := (if (f_X6_isSlot v1) = 0 then ((upd F 0 (nI 0)), rl, lg, ned, (-2)) else (if 0 ≤ (wid v1.toNatClampNeg) then f_X6_script_36 ng_F (upd (upd F 0 (nI 0)) 23 (nI 0)) rl lg wid siz cel ned v1 (nI 0) (nI 0) else ((upd F 0 (nI 0)), rl, lg, ned, (-5))))
def s_X6_script  (F : Nat → Int32) (rl : Nat → Int32) (lg : Nat → Int32) (wid : Nat → Int32) (siz : Nat → Int32) (cel : Nat → Int64) (ned : Nat → Int32) (v1 : Int32) : Prop := (s_X6_isSlot v1 ∧ (¬ (f_X6_isSlot v1) = 0 → (vp_in v1 4 ∧ (0 ≤ (wid v1.toNatClampNeg) → s_X6_script_36 ng_F (upd (upd F 0 (nI 0)) 23 (nI 0)) rl lg wid siz cel ned v1 (nI 0) (nI 0)))))
set_option maxRecDepth 100000 in
set_option maxHeartbeats 4000000 in
theorem e_X6_script {G : ng_GG} {hf : (Nat → Int32) → (Nat → Int32) → (Nat → Int32) → (Nat → Int32) → (Nat → Int32) → (Nat → Int32) → (Nat → Int32) → (Nat → Int32) → (Nat → Int32) → (Nat → Int32) → (Nat → Int32) → (Nat → Int32) → (Nat → Int32) → (Nat → Int32) → (Nat → Int64) → (Nat → Int64) → (Nat → Int32) → ng_AM}  (V : ng_FL hf ) {F : Nat → Int32} {rl : Nat → Int32} {lg : Nat → Int32} {sta : Nat → Int32} {sm : Nat → Int32} {par : Nat → Int32} {mv : Nat → Int32} {dep : Nat → Int32} {nwa : Nat → Int32} {th : Nat → Int32} {bf : Nat → Int32} {row : Nat → Int32} {wid : Nat → Int32} {siz : Nat → Int32} {cel : Nat → Int64} {mvd : Nat → Int64} {ned : Nat → Int32}  {v1 : Int32} (h : s_X6_script  F rl lg wid siz cel ned v1)  : ng_Ev G md_X6_script 0 [some (.ref 28), some (.int v1), none, none, none, none, none, none, none, none] [] (hf F rl lg sta sm par mv dep nwa th bf row wid siz cel mvd ned) (K_X6_script hf sta sm par mv dep nwa th bf row wid siz cel mvd (f_X6_script  F rl lg wid siz cel ned v1)) := by
  unfold s_X6_script at h
  unfold f_X6_script
  refine ev_aload_n dX6_script_0 rfl rfl rfl ?_
  refine ev_iconst (v := nI 0) dX6_script_1 (by decide) ?_
  refine ev_put 6 0 fs_RX6_64 (FL_g28 V) (ng_lt rfl) rfl (FL_s28 V (F' := (upd F 0 (nI 0)))) (ng_fit_i _) dX6_script_2 ?_
  refine ev_iload_n dX6_script_5 rfl rfl ?_
  have hs6 := h.1
  replace h := h.2
  refine bk_callS (As := [.int v1]) (st := []) (st2 := [.int (f_X6_isSlot v1)]) (M2 := hf (upd F 0 (nI 0)) rl lg sta sm par mv dep nwa th bf row wid siz cel mvd ned) ok_X6_isSlot lk_RX6_223 (ng_rok.of rfl rfl) rfl rfl rfl rfl dX6_script_6 (m_X6_isSlot hs6) rfl rfl ?_
  refine bk_if_ne (tgt := 15) dX6_script_9 (by decide) (fun c9 => ?_) (fun c9 => ?_)
  · replace h := h c9
    refine ev_aload_n dX6_script_15 rfl rfl rfl ?_
    refine ev_get 6 19 fl_RX6_44 (FL_g28 V) rfl dX6_script_16 ?_
    refine ev_iload_n dX6_script_19 rfl rfl ?_
    have hi20 := h.1
    replace h := h.2
    refine ev_iald (FL_g40 V) hi20 dX6_script_20 ?_
    refine bk_if_ge (tgt := 27) dX6_script_21 (by decide) (fun c21 => ?_) (fun c21 => ?_)
    · replace h := h c21
      refine ev_iconst (v := nI 0) dX6_script_27 (by decide) ?_
      refine ev_istore_n (L' := [some (.ref 28), some (.int v1), some (.int (nI 0)), none, none, none, none, none, none, none]) dX6_script_28 rfl (ng_lt rfl) rfl ?_
      refine ev_iconst (v := nI 0) dX6_script_29 (by decide) ?_
      refine ev_istore_n (L' := [some (.ref 28), some (.int v1), some (.int (nI 0)), some (.int (nI 0)), none, none, none, none, none, none]) dX6_script_30 rfl (ng_lt rfl) rfl ?_
      refine ev_aload_n dX6_script_31 rfl rfl rfl ?_
      refine ev_iconst (v := nI 0) dX6_script_32 (by decide) ?_
      refine ev_put 6 23 fs_RX6_57 (FL_g28 V) (ng_lt rfl) rfl (FL_s28 V (F' := (upd (upd F 0 (nI 0)) 23 (nI 0)))) (ng_fit_i _) dX6_script_33 ?_
      exact ev_sub (e_X6_script_36 V ng_F (upd (upd F 0 (nI 0)) 23 (nI 0)) rl lg sta sm par mv dep nwa th bf row wid siz cel mvd ned v1 (nI 0) (nI 0) h) (sub_s (sub_s (sub_s (sub_s (sub_n (sub_n (sub_n (sub_n (sub_n (sub_n sub_e))))))))))
    · refine ev_bipush (v := (-5)) dX6_script_24 (by decide) ?_
      exact ev_iret rfl rfl dX6_script_26
  · refine ev_bipush (v := (-2)) dX6_script_12 (by decide) ?_
    exact ev_iret rfl rfl dX6_script_14
theorem m_X6_script {G : ng_GG} {hf : (Nat → Int32) → (Nat → Int32) → (Nat → Int32) → (Nat → Int32) → (Nat → Int32) → (Nat → Int32) → (Nat → Int32) → (Nat → Int32) → (Nat → Int32) → (Nat → Int32) → (Nat → Int32) → (Nat → Int32) → (Nat → Int32) → (Nat → Int32) → (Nat → Int64) → (Nat → Int64) → (Nat → Int32) → ng_AM}  (V : ng_FL hf ) {F : Nat → Int32} {rl : Nat → Int32} {lg : Nat → Int32} {sta : Nat → Int32} {sm : Nat → Int32} {par : Nat → Int32} {mv : Nat → Int32} {dep : Nat → Int32} {nwa : Nat → Int32} {th : Nat → Int32} {bf : Nat → Int32} {row : Nat → Int32} {wid : Nat → Int32} {siz : Nat → Int32} {cel : Nat → Int64} {mvd : Nat → Int64} {ned : Nat → Int32} {v1 : Int32} (h : s_X6_script F rl lg wid siz cel ned v1)  : ng_Ev G md_X6_script 0 (ng_en 10 [.ref 28, .int v1]) [] (hf F rl lg sta sm par mv dep nwa th bf row wid siz cel mvd ned) (K_X6_script hf sta sm par mv dep nwa th bf row wid siz cel mvd (f_X6_script F rl lg wid siz cel ned v1)) := e_X6_script V h 
def K_X6_why (hf : (Nat → Int32) → (Nat → Int32) → (Nat → Int32) → (Nat → Int32) → (Nat → Int32) → (Nat → Int32) → (Nat → Int32) → (Nat → Int32) → (Nat → Int32) → (Nat → Int32) → (Nat → Int32) → (Nat → Int32) → (Nat → Int32) → (Nat → Int32) → (Nat → Int64) → (Nat → Int64) → (Nat → Int32) → ng_AM) (rl : Nat → Int32) (lg : Nat → Int32) (sta : Nat → Int32) (sm : Nat → Int32) (par : Nat → Int32) (mv : Nat → Int32) (dep : Nat → Int32) (nwa : Nat → Int32) (th : Nat → Int32) (bf : Nat → Int32) (row : Nat → Int32) (wid : Nat → Int32) (siz : Nat → Int32) (cel : Nat → Int64) (mvd : Nat → Int64) (ned : Nat → Int32) (r : (Nat → Int32) × Int32) : ng_RR := (some (.int (r.2)), hf (r.1) rl lg sta sm par mv dep nwa th bf row wid siz cel mvd ned)
def f_X6_why  (F : Nat → Int32)  : (Nat → Int32) × Int32 := ((upd F 0 (nI 0)), ((upd F 0 (nI 0)) 23))
def s_X6_why  (F : Nat → Int32)  : Prop := True
set_option maxRecDepth 100000 in
set_option maxHeartbeats 4000000 in
theorem e_X6_why {G : ng_GG} {hf : (Nat → Int32) → (Nat → Int32) → (Nat → Int32) → (Nat → Int32) → (Nat → Int32) → (Nat → Int32) → (Nat → Int32) → (Nat → Int32) → (Nat → Int32) → (Nat → Int32) → (Nat → Int32) → (Nat → Int32) → (Nat → Int32) → (Nat → Int32) → (Nat → Int64) → (Nat → Int64) → (Nat → Int32) → ng_AM}  (V : ng_FL hf ) {F : Nat → Int32} {rl : Nat → Int32} {lg : Nat → Int32} {sta : Nat → Int32} {sm : Nat → Int32} {par : Nat → Int32} {mv : Nat → Int32} {dep : Nat → Int32} {nwa : Nat → Int32} {th : Nat → Int32} {bf : Nat → Int32} {row : Nat → Int32} {wid : Nat → Int32} {siz : Nat → Int32} {cel : Nat → Int64} {mvd : Nat → Int64} {ned : Nat → Int32}   (h : s_X6_why  F)  : ng_Ev G md_X6_why 0 [some (.ref 28)] [] (hf F rl lg sta sm par mv dep nwa th bf row wid siz cel mvd ned) (K_X6_why hf rl lg sta sm par mv dep nwa th bf row wid siz cel mvd ned (f_X6_why  F)) := by
  unfold s_X6_why at h
  unfold f_X6_why
  refine ev_aload_n dX6_why_0 rfl rfl rfl ?_
  refine ev_iconst (v := nI 0) dX6_why_1 (by decide) ?_
  refine ev_put 6 0 fs_RX6_64 (FL_g28 V) (ng_lt rfl) rfl (FL_s28 V (F' := (upd F 0 (nI 0)))) (ng_fit_i _) dX6_why_2 ?_
  refine ev_aload_n dX6_why_5 rfl rfl rfl ?_
  refine ev_get 6 23 fl_RX6_57 (FL_g28 V) rfl dX6_why_6 ?_
  exact ev_iret rfl rfl dX6_why_9
theorem m_X6_why {G : ng_GG} {hf : (Nat → Int32) → (Nat → Int32) → (Nat → Int32) → (Nat → Int32) → (Nat → Int32) → (Nat → Int32) → (Nat → Int32) → (Nat → Int32) → (Nat → Int32) → (Nat → Int32) → (Nat → Int32) → (Nat → Int32) → (Nat → Int32) → (Nat → Int32) → (Nat → Int64) → (Nat → Int64) → (Nat → Int32) → ng_AM}  (V : ng_FL hf ) {F : Nat → Int32} {rl : Nat → Int32} {lg : Nat → Int32} {sta : Nat → Int32} {sm : Nat → Int32} {par : Nat → Int32} {mv : Nat → Int32} {dep : Nat → Int32} {nwa : Nat → Int32} {th : Nat → Int32} {bf : Nat → Int32} {row : Nat → Int32} {wid : Nat → Int32} {siz : Nat → Int32} {cel : Nat → Int64} {mvd : Nat → Int64} {ned : Nat → Int32}  (h : s_X6_why F)  : ng_Ev G md_X6_why 0 (ng_en 1 [.ref 28]) [] (hf F rl lg sta sm par mv dep nwa th bf row wid siz cel mvd ned) (K_X6_why hf rl lg sta sm par mv dep nwa th bf row wid siz cel mvd ned (f_X6_why F)) := e_X6_why V h 
