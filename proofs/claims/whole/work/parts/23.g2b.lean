def K_X4_letHave (hp : (Nat → Int32) → (Nat → Int32) → (Nat → Int32) → (Nat → Int32) → (Nat → Int32) → (Nat → Int32) → (Nat → Int32) → ng_AM) (Dg : Nat → Int32) (dw : Nat → Int32) (C : Nat → Int32) (off : Nat → Int32) (dear : Nat → Int32) (proved : Nat → Int32) (r : (Nat → Int32)) : ng_RR := (none, hp (r) Dg dw C off dear proved)
def f_X4_letHave  (w : Nat → Int32) (v1 : Int32) (v2 : Int32) : (Nat → Int32) := (if v1 < 0 then w else (if (nI 9) ≤ v1 then w else (if (f_X4_isNote w v2) = 0 then w else (upd w (((nI 142) + (v2 * (nI 11))) + (nI 10)).toNatClampNeg ((w (((nI 142) + (v2 * (nI 11))) + (nI 10)).toNatClampNeg) ||| ((nI 1) <<< (v1 &&& 31)))))))
def s_X4_letHave  (w : Nat → Int32) (v1 : Int32) (v2 : Int32) : Prop := (¬ v1 < 0 → (¬ (nI 9) ≤ v1 → (¬ (f_X4_isNote w v2) = 0 → (vp_in (((nI 142) + (v2 * (nI 11))) + (nI 10)) 494 ∧ vp_in (((nI 142) + (v2 * (nI 11))) + (nI 10)) 494))))
set_option maxRecDepth 100000 in
set_option maxHeartbeats 4000000 in
theorem e_X4_letHave {G : ng_GG} {hp : (Nat → Int32) → (Nat → Int32) → (Nat → Int32) → (Nat → Int32) → (Nat → Int32) → (Nat → Int32) → (Nat → Int32) → ng_AM} {k : Nat} {a : Nat} {d : Bool} (V : ng_WL hp k a d) {w : Nat → Int32} {Dg : Nat → Int32} {dw : Nat → Int32} {C : Nat → Int32} {off : Nat → Int32} {dear : Nat → Int32} {proved : Nat → Int32}  {v1 : Int32} {v2 : Int32} (h : s_X4_letHave  w v1 v2)  : ng_Ev G md_X4_letHave 0 [some (.ref k), some (.int v1), some (.int v2)] [] (hp w Dg dw C off dear proved) (K_X4_letHave hp Dg dw C off dear proved (f_X4_letHave  w v1 v2)) := by
  unfold s_X4_letHave at h
  unfold f_X4_letHave
  refine ev_iload_n dX4_letHave_0 rfl rfl ?_
  refine bk_if_lt (tgt := 40) dX4_letHave_1 (by decide) (fun c1 => ?_) (fun c1 => ?_)
  · exact ev_vret rfl dX4_letHave_40
  · replace h := h c1
    refine ev_iload_n dX4_letHave_4 rfl rfl ?_
    refine ev_bipush (v := nI 9) dX4_letHave_5 (by decide) ?_
    refine bk_icmp_ge (tgt := 40) dX4_letHave_7 (by decide) (fun c7 => ?_) (fun c7 => ?_)
    · exact ev_vret rfl dX4_letHave_40
    · replace h := h c7
      refine ev_aload_n dX4_letHave_10 rfl rfl rfl ?_
      refine ev_iload_n dX4_letHave_11 rfl rfl ?_
      refine bk_callV (As := [.int v2]) (st := []) (st2 := [.int (f_X4_isNote w v2)]) (M2 := hp w Dg dw C off dear proved) ok_X4_isNote lk_RX4_23 (ng_rok.of rfl rfl) (WL_gk V) rfl rfl rfl rfl rfl rfl dX4_letHave_12 (m_X4_isNote (WL_R V) trivial) rfl rfl ?_
      refine bk_if_eq (tgt := 40) dX4_letHave_15 (by decide) (fun c15 => ?_) (fun c15 => ?_)
      · exact ev_vret rfl dX4_letHave_40
      · replace h := h c15
        refine ev_aload_n dX4_letHave_18 rfl rfl rfl ?_
        refine ev_get 4 0 fl_RX4_11 (WL_gk V) rfl dX4_letHave_19 ?_
        refine ev_sipush (v := nI 142) dX4_letHave_22 (by decide) ?_
        refine ev_iload_n dX4_letHave_25 rfl rfl ?_
        refine ev_bipush (v := nI 11) dX4_letHave_26 (by decide) ?_
        refine ev_imul dX4_letHave_28 ?_
        refine ev_iadd dX4_letHave_29 ?_
        refine ev_bipush (v := nI 10) dX4_letHave_30 (by decide) ?_
        refine ev_iadd dX4_letHave_32 ?_
        refine ev_dup2 dX4_letHave_33 rfl rfl ?_
        have hi34 := h.1
        replace h := h.2
        refine ev_iald (WL_ga V) hi34 dX4_letHave_34 ?_
        refine ev_iconst (v := nI 1) dX4_letHave_35 (by decide) ?_
        refine ev_iload_n dX4_letHave_36 rfl rfl ?_
        refine ev_ishl dX4_letHave_37 ?_
        refine ev_ior dX4_letHave_38 ?_
        have hi39 := h
        refine ev_iast (WL_ga V) hi39 (WL_sa V) dX4_letHave_39 ?_
        exact ev_vret rfl dX4_letHave_40
theorem m_X4_letHave {G : ng_GG} {hp : (Nat → Int32) → (Nat → Int32) → (Nat → Int32) → (Nat → Int32) → (Nat → Int32) → (Nat → Int32) → (Nat → Int32) → ng_AM} {k : Nat} {a : Nat} {d : Bool} (V : ng_WL hp k a d) {w : Nat → Int32} {Dg : Nat → Int32} {dw : Nat → Int32} {C : Nat → Int32} {off : Nat → Int32} {dear : Nat → Int32} {proved : Nat → Int32} {v1 : Int32} {v2 : Int32} (h : s_X4_letHave w v1 v2)  : ng_Ev G md_X4_letHave 0 (ng_en 3 [.ref k, .int v1, .int v2]) [] (hp w Dg dw C off dear proved) (K_X4_letHave hp Dg dw C off dear proved (f_X4_letHave w v1 v2)) := e_X4_letHave V h 
def K_X4_openHouse (hp : (Nat → Int32) → (Nat → Int32) → (Nat → Int32) → (Nat → Int32) → (Nat → Int32) → (Nat → Int32) → (Nat → Int32) → ng_AM) (Dg : Nat → Int32) (dw : Nat → Int32) (C : Nat → Int32) (off : Nat → Int32) (dear : Nat → Int32) (proved : Nat → Int32) (r : (Nat → Int32)) : ng_RR := (none, hp (r) Dg dw C off dear proved)
def f_X4_openHouse  (w : Nat → Int32) (v1 : Int32) : (Nat → Int32) := (if v1 < 0 then w else (if (nI 4) ≤ v1 then w else (upd w (((nI 4) + (v1 * (nI 3))) + (nI 0)).toNatClampNeg (w (nI 0).toNatClampNeg))))
def s_X4_openHouse  (w : Nat → Int32) (v1 : Int32) : Prop := (¬ v1 < 0 → (¬ (nI 4) ≤ v1 → vp_in (((nI 4) + (v1 * (nI 3))) + (nI 0)) 494))
set_option maxRecDepth 100000 in
set_option maxHeartbeats 4000000 in
theorem e_X4_openHouse {G : ng_GG} {hp : (Nat → Int32) → (Nat → Int32) → (Nat → Int32) → (Nat → Int32) → (Nat → Int32) → (Nat → Int32) → (Nat → Int32) → ng_AM} {k : Nat} {a : Nat} {d : Bool} (V : ng_WL hp k a d) {w : Nat → Int32} {Dg : Nat → Int32} {dw : Nat → Int32} {C : Nat → Int32} {off : Nat → Int32} {dear : Nat → Int32} {proved : Nat → Int32}  {v1 : Int32} (h : s_X4_openHouse  w v1)  : ng_Ev G md_X4_openHouse 0 [some (.ref k), some (.int v1)] [] (hp w Dg dw C off dear proved) (K_X4_openHouse hp Dg dw C off dear proved (f_X4_openHouse  w v1)) := by
  unfold s_X4_openHouse at h
  unfold f_X4_openHouse
  refine ev_iload_n dX4_openHouse_0 rfl rfl ?_
  refine bk_if_lt (tgt := 27) dX4_openHouse_1 (by decide) (fun c1 => ?_) (fun c1 => ?_)
  · exact ev_vret rfl dX4_openHouse_27
  · replace h := h c1
    refine ev_iload_n dX4_openHouse_4 rfl rfl ?_
    refine ev_iconst (v := nI 4) dX4_openHouse_5 (by decide) ?_
    refine bk_icmp_ge (tgt := 27) dX4_openHouse_6 (by decide) (fun c6 => ?_) (fun c6 => ?_)
    · exact ev_vret rfl dX4_openHouse_27
    · replace h := h c6
      refine ev_aload_n dX4_openHouse_9 rfl rfl rfl ?_
      refine ev_get 4 0 fl_RX4_11 (WL_gk V) rfl dX4_openHouse_10 ?_
      refine ev_iconst (v := nI 4) dX4_openHouse_13 (by decide) ?_
      refine ev_iload_n dX4_openHouse_14 rfl rfl ?_
      refine ev_iconst (v := nI 3) dX4_openHouse_15 (by decide) ?_
      refine ev_imul dX4_openHouse_16 ?_
      refine ev_iadd dX4_openHouse_17 ?_
      refine ev_iconst (v := nI 0) dX4_openHouse_18 (by decide) ?_
      refine ev_iadd dX4_openHouse_19 ?_
      refine ev_aload_n dX4_openHouse_20 rfl rfl rfl ?_
      refine ev_get 4 0 fl_RX4_11 (WL_gk V) rfl dX4_openHouse_21 ?_
      refine ev_iconst (v := nI 0) dX4_openHouse_24 (by decide) ?_
      refine ev_iald (WL_ga V) (vp_in_nI (by decide) (by decide)) dX4_openHouse_25 ?_
      have hi26 := h
      refine ev_iast (WL_ga V) hi26 (WL_sa V) dX4_openHouse_26 ?_
      exact ev_vret rfl dX4_openHouse_27
theorem m_X4_openHouse {G : ng_GG} {hp : (Nat → Int32) → (Nat → Int32) → (Nat → Int32) → (Nat → Int32) → (Nat → Int32) → (Nat → Int32) → (Nat → Int32) → ng_AM} {k : Nat} {a : Nat} {d : Bool} (V : ng_WL hp k a d) {w : Nat → Int32} {Dg : Nat → Int32} {dw : Nat → Int32} {C : Nat → Int32} {off : Nat → Int32} {dear : Nat → Int32} {proved : Nat → Int32} {v1 : Int32} (h : s_X4_openHouse w v1)  : ng_Ev G md_X4_openHouse 0 (ng_en 2 [.ref k, .int v1]) [] (hp w Dg dw C off dear proved) (K_X4_openHouse hp Dg dw C off dear proved (f_X4_openHouse w v1)) := e_X4_openHouse V h 
def K_X4_givePair (hp : (Nat → Int32) → (Nat → Int32) → (Nat → Int32) → (Nat → Int32) → (Nat → Int32) → (Nat → Int32) → (Nat → Int32) → ng_AM) (Dg : Nat → Int32) (dw : Nat → Int32) (off : Nat → Int32) (dear : Nat → Int32) (proved : Nat → Int32) (r : (Nat → Int32) × (Nat → Int32) × Int32) : ng_RR := (some (.int (r.2.2)), hp (r.1) Dg dw (r.2.1) off dear proved)
def f_X4_givePair  (w : Nat → Int32) (C : Nat → Int32) (v1 : Int32) : (Nat → Int32) × (Nat → Int32) × Int32 := (if (f_X5_isBrowser v1) = 0 then (w, (upd C 13 ((C 13) + (nI 1))), ((upd C 13 ((C 13) + (nI 1))) 13)) else ((upd w (((nI 16) + (v1 * (nI 2))) + (nI 0)).toNatClampNeg ((upd C 13 ((C 13) + (nI 1))) 13)), (upd C 13 ((C 13) + (nI 1))), ((upd C 13 ((C 13) + (nI 1))) 13)))
def s_X4_givePair  (w : Nat → Int32) (C : Nat → Int32) (v1 : Int32) : Prop := (¬ (f_X5_isBrowser v1) = 0 → vp_in (((nI 16) + (v1 * (nI 2))) + (nI 0)) 494)
set_option maxRecDepth 100000 in
set_option maxHeartbeats 4000000 in
theorem e_X4_givePair {G : ng_GG} {hp : (Nat → Int32) → (Nat → Int32) → (Nat → Int32) → (Nat → Int32) → (Nat → Int32) → (Nat → Int32) → (Nat → Int32) → ng_AM} {k : Nat} {a : Nat} {d : Bool} (V : ng_WL hp k a d) {w : Nat → Int32} {Dg : Nat → Int32} {dw : Nat → Int32} {C : Nat → Int32} {off : Nat → Int32} {dear : Nat → Int32} {proved : Nat → Int32}  {v1 : Int32} (h : s_X4_givePair  w C v1)  : ng_Ev G md_X4_givePair 0 [some (.ref k), some (.int v1)] [] (hp w Dg dw C off dear proved) (K_X4_givePair hp Dg dw off dear proved (f_X4_givePair  w C v1)) := by
  unfold s_X4_givePair at h
  unfold f_X4_givePair
  refine ev_aload_n dX4_givePair_0 rfl rfl rfl ?_
  refine ev_get 4 1 fl_RX4_15 (WL_gk V) rfl dX4_givePair_1 ?_
  refine ev_dup dX4_givePair_4 rfl ?_
  refine ev_get 2 13 fl_RX4_40 (WL_g1 V) rfl dX4_givePair_5 ?_
  refine ev_iconst (v := nI 1) dX4_givePair_8 (by decide) ?_
  refine ev_iadd dX4_givePair_9 ?_
  refine ev_put 2 13 fs_RX4_40 (WL_g1 V) (ng_lt rfl) rfl (WL_s1 V (C' := (upd C 13 ((C 13) + (nI 1))))) (ng_fit_i _) dX4_givePair_10 ?_
  refine ev_iload_n dX4_givePair_13 rfl rfl ?_
  refine bk_callSN (As := [.int v1]) (st := []) (st2 := [.int (f_X5_isBrowser v1)]) (M2 := hp w Dg dw (upd C 13 ((C 13) + (nI 1))) off dear proved) ok_X5_isBrowser lk_RX4_33 (ng_rok.of rfl rfl) rfl rfl rfl rfl dX4_givePair_14 (m_X5_isBrowser trivial) rfl rfl ?_
  refine bk_if_eq (tgt := 40) dX4_givePair_17 (by decide) (fun c17 => ?_) (fun c17 => ?_)
  · refine ev_aload_n dX4_givePair_40 rfl rfl rfl ?_
    refine ev_get 4 1 fl_RX4_15 (WL_gk V) rfl dX4_givePair_41 ?_
    refine ev_get 2 13 fl_RX4_40 (WL_g1 V) rfl dX4_givePair_44 ?_
    exact ev_iret rfl rfl dX4_givePair_47
  · replace h := h c17
    refine ev_aload_n dX4_givePair_20 rfl rfl rfl ?_
    refine ev_get 4 0 fl_RX4_11 (WL_gk V) rfl dX4_givePair_21 ?_
    refine ev_bipush (v := nI 16) dX4_givePair_24 (by decide) ?_
    refine ev_iload_n dX4_givePair_26 rfl rfl ?_
    refine ev_iconst (v := nI 2) dX4_givePair_27 (by decide) ?_
    refine ev_imul dX4_givePair_28 ?_
    refine ev_iadd dX4_givePair_29 ?_
    refine ev_iconst (v := nI 0) dX4_givePair_30 (by decide) ?_
    refine ev_iadd dX4_givePair_31 ?_
    refine ev_aload_n dX4_givePair_32 rfl rfl rfl ?_
    refine ev_get 4 1 fl_RX4_15 (WL_gk V) rfl dX4_givePair_33 ?_
    refine ev_get 2 13 fl_RX4_40 (WL_g1 V) rfl dX4_givePair_36 ?_
    have hi39 := h
    refine ev_iast (WL_ga V) hi39 (WL_sa V) dX4_givePair_39 ?_
    refine ev_aload_n dX4_givePair_40 rfl rfl rfl ?_
    refine ev_get 4 1 fl_RX4_15 (WL_gk V) rfl dX4_givePair_41 ?_
    refine ev_get 2 13 fl_RX4_40 (WL_g1 V) rfl dX4_givePair_44 ?_
    exact ev_iret rfl rfl dX4_givePair_47
theorem m_X4_givePair {G : ng_GG} {hp : (Nat → Int32) → (Nat → Int32) → (Nat → Int32) → (Nat → Int32) → (Nat → Int32) → (Nat → Int32) → (Nat → Int32) → ng_AM} {k : Nat} {a : Nat} {d : Bool} (V : ng_WL hp k a d) {w : Nat → Int32} {Dg : Nat → Int32} {dw : Nat → Int32} {C : Nat → Int32} {off : Nat → Int32} {dear : Nat → Int32} {proved : Nat → Int32} {v1 : Int32} (h : s_X4_givePair w C v1)  : ng_Ev G md_X4_givePair 0 (ng_en 2 [.ref k, .int v1]) [] (hp w Dg dw C off dear proved) (K_X4_givePair hp Dg dw off dear proved (f_X4_givePair w C v1)) := e_X4_givePair V h 
def K_X4_post (hp : (Nat → Int32) → (Nat → Int32) → (Nat → Int32) → (Nat → Int32) → (Nat → Int32) → (Nat → Int32) → (Nat → Int32) → ng_AM) (dw : Nat → Int32) (C : Nat → Int32) (off : Nat → Int32) (dear : Nat → Int32) (proved : Nat → Int32) (r : (Nat → Int32) × (Nat → Int32)) : ng_RR := (none, hp (r.1) (r.2) dw C off dear proved)
def f_X4_post_20  (w : Nat → Int32) (Dg : Nat → Int32) (C : Nat → Int32) (d : Bool)  : (Nat → Int32) × (Nat → Int32) := (if d = true then (w, (upd Dg 3 ((Dg 3) + (nI 1)))) else (w, Dg))
def s_X4_post_20  (w : Nat → Int32) (Dg : Nat → Int32) (C : Nat → Int32) (d : Bool)  : Prop := True
set_option maxRecDepth 100000 in
set_option maxHeartbeats 4000000 in
theorem e_X4_post_20 {G : ng_GG} {hp : (Nat → Int32) → (Nat → Int32) → (Nat → Int32) → (Nat → Int32) → (Nat → Int32) → (Nat → Int32) → (Nat → Int32) → ng_AM} {k : Nat} {a : Nat} {d : Bool} (V : ng_WL hp k a d) {w : Nat → Int32} {Dg : Nat → Int32} {dw : Nat → Int32} {C : Nat → Int32} {off : Nat → Int32} {dear : Nat → Int32} {proved : Nat → Int32}   (h : s_X4_post_20  w Dg C d)  : ng_Ev G md_X4_post 20 [some (.ref k), none, none, none, none, none, none, none, none, none, none, none, none] [] (hp w Dg dw C off dear proved) (K_X4_post hp dw C off dear proved (f_X4_post_20  w Dg C d)) := by
  unfold s_X4_post_20 at h
  unfold f_X4_post_20
  refine ev_aload_n dX4_post_20 rfl rfl rfl ?_
  refine ev_get 4 2 fl_RX4_19 (WL_gk V) rfl dX4_post_21 ?_
  refine bk_ifnull_d (tgt := 40) dX4_post_24 (by decide) (fun c24 => ?_) (fun c24 => ?_)
  · subst c24
    refine ev_aload_n dX4_post_27 rfl rfl rfl ?_
    refine ev_get 4 2 fl_RX4_19 (WL_gk V) rfl dX4_post_28 ?_
    refine ev_dup dX4_post_31 rfl ?_
    refine ev_get 0 3 fl_RX4_46 (WL_g5 V) rfl dX4_post_32 ?_
    refine ev_iconst (v := nI 1) dX4_post_35 (by decide) ?_
    refine ev_iadd dX4_post_36 ?_
    refine ev_put 0 3 fs_RX4_46 (WL_g5 V) (ng_lt rfl) rfl (WL_s5 V (Dg' := (upd Dg 3 ((Dg 3) + (nI 1))))) (ng_fit_i _) dX4_post_37 ?_
    exact ev_vret rfl dX4_post_40
  · exact ev_vret rfl dX4_post_40
def f_X4_post_311  (w : Nat → Int32) (Dg : Nat → Int32) (C : Nat → Int32) (d : Bool) (v6 : Int32) (v11 : Int32) (t0 : Int32) : (Nat → Int32) × (Nat → Int32) := (if v11 = 0 then (w, Dg) else (if t0 < 0 then (w, Dg) else (if (nI 4) ≤ t0 then (w, Dg) else ((upd w (((nI 16) + (t0 * (nI 2))) + (nI 1)).toNatClampNeg v6), Dg))))
def s_X4_post_311  (w : Nat → Int32) (Dg : Nat → Int32) (C : Nat → Int32) (d : Bool) (v6 : Int32) (v11 : Int32) (t0 : Int32) : Prop := (¬ v11 = 0 → (¬ t0 < 0 → (¬ (nI 4) ≤ t0 → vp_in (((nI 16) + (t0 * (nI 2))) + (nI 1)) 494)))
set_option maxRecDepth 100000 in
set_option maxHeartbeats 4000000 in
theorem e_X4_post_311 {G : ng_GG} {hp : (Nat → Int32) → (Nat → Int32) → (Nat → Int32) → (Nat → Int32) → (Nat → Int32) → (Nat → Int32) → (Nat → Int32) → ng_AM} {k : Nat} {a : Nat} {d : Bool} (V : ng_WL hp k a d) {w : Nat → Int32} {Dg : Nat → Int32} {dw : Nat → Int32} {C : Nat → Int32} {off : Nat → Int32} {dear : Nat → Int32} {proved : Nat → Int32}  {v6 : Int32} {v11 : Int32} {t0 : Int32} (h : s_X4_post_311  w Dg C d v6 v11 t0)  : ng_Ev G md_X4_post 311 [some (.ref k), none, none, none, none, none, some (.int v6), none, none, none, none, some (.int v11), none] [.int t0] (hp w Dg dw C off dear proved) (K_X4_post hp dw C off dear proved (f_X4_post_311  w Dg C d v6 v11 t0)) := by
  unfold s_X4_post_311 at h
  unfold f_X4_post_311
  refine ev_istore (L' := [some (.ref k), none, none, none, none, none, some (.int v6), none, none, none, none, some (.int v11), some (.int t0)]) dX4_post_311 (ng_lt rfl) rfl ?_
  refine ev_iload dX4_post_313 rfl ?_
  refine bk_if_eq (tgt := 345) dX4_post_315 (by decide) (fun c315 => ?_) (fun c315 => ?_)
  · exact ev_vret rfl dX4_post_345
  · replace h := h c315
    refine ev_iload dX4_post_318 rfl ?_
    refine bk_if_lt (tgt := 345) dX4_post_320 (by decide) (fun c320 => ?_) (fun c320 => ?_)
    · exact ev_vret rfl dX4_post_345
    · replace h := h c320
      refine ev_iload dX4_post_323 rfl ?_
      refine ev_iconst (v := nI 4) dX4_post_325 (by decide) ?_
      refine bk_icmp_ge (tgt := 345) dX4_post_326 (by decide) (fun c326 => ?_) (fun c326 => ?_)
      · exact ev_vret rfl dX4_post_345
      · replace h := h c326
        refine ev_aload_n dX4_post_329 rfl rfl rfl ?_
        refine ev_get 4 0 fl_RX4_11 (WL_gk V) rfl dX4_post_330 ?_
        refine ev_bipush (v := nI 16) dX4_post_333 (by decide) ?_
        refine ev_iload dX4_post_335 rfl ?_
        refine ev_iconst (v := nI 2) dX4_post_337 (by decide) ?_
        refine ev_imul dX4_post_338 ?_
        refine ev_iadd dX4_post_339 ?_
        refine ev_iconst (v := nI 1) dX4_post_340 (by decide) ?_
        refine ev_iadd dX4_post_341 ?_
        refine ev_iload dX4_post_342 rfl ?_
        have hi344 := h
        refine ev_iast (WL_ga V) hi344 (WL_sa V) dX4_post_344 ?_
        exact ev_vret rfl dX4_post_345
def f_X4_post_299  (w : Nat → Int32) (Dg : Nat → Int32) (C : Nat → Int32) (d : Bool) (v1 : Int32) (v2 : Int32) (v3 : Int32) (v6 : Int32) (t0 : Int32) : (Nat → Int32) × (Nat → Int32) := (if v3 = (nI 1) then f_X4_post_311 w Dg C d v6 t0 v2 else f_X4_post_311 w Dg C d v6 t0 v1)
def s_X4_post_299  (w : Nat → Int32) (Dg : Nat → Int32) (C : Nat → Int32) (d : Bool) (v1 : Int32) (v2 : Int32) (v3 : Int32) (v6 : Int32) (t0 : Int32) : Prop := ((v3 = (nI 1) → s_X4_post_311 w Dg C d v6 t0 v2) ∧ (¬ v3 = (nI 1) → s_X4_post_311 w Dg C d v6 t0 v1))
set_option maxRecDepth 100000 in
set_option maxHeartbeats 4000000 in
theorem e_X4_post_299 {G : ng_GG} {hp : (Nat → Int32) → (Nat → Int32) → (Nat → Int32) → (Nat → Int32) → (Nat → Int32) → (Nat → Int32) → (Nat → Int32) → ng_AM} {k : Nat} {a : Nat} {d : Bool} (V : ng_WL hp k a d) {w : Nat → Int32} {Dg : Nat → Int32} {dw : Nat → Int32} {C : Nat → Int32} {off : Nat → Int32} {dear : Nat → Int32} {proved : Nat → Int32}  {v1 : Int32} {v2 : Int32} {v3 : Int32} {v6 : Int32} {t0 : Int32} (h : s_X4_post_299  w Dg C d v1 v2 v3 v6 t0)  : ng_Ev G md_X4_post 299 [some (.ref k), some (.int v1), some (.int v2), some (.int v3), none, none, some (.int v6), none, none, none, none, none, none] [.int t0] (hp w Dg dw C off dear proved) (K_X4_post hp dw C off dear proved (f_X4_post_299  w Dg C d v1 v2 v3 v6 t0)) := by
  unfold s_X4_post_299 at h
  unfold f_X4_post_299
  refine ev_istore (L' := [some (.ref k), some (.int v1), some (.int v2), some (.int v3), none, none, some (.int v6), none, none, none, none, some (.int t0), none]) dX4_post_299 (ng_lt rfl) rfl ?_
  refine ev_iload_n dX4_post_301 rfl rfl ?_
  refine ev_iconst (v := nI 1) dX4_post_302 (by decide) ?_
  refine bk_icmp_ne (tgt := 310) dX4_post_303 (by decide) (fun c303 => ?_) (fun c303 => ?_)
  · replace h := h.2 c303
    refine ev_iload_n dX4_post_310 rfl rfl ?_
    exact ev_sub (e_X4_post_311 V h) (sub_s (sub_n (sub_n (sub_n (sub_n (sub_n (sub_s (sub_n (sub_n (sub_n (sub_n (sub_s (sub_n sub_e)))))))))))))
  · replace h := h.1 c303
    refine ev_iload_n dX4_post_306 rfl rfl ?_
    refine ev_goto (tgt := 311) dX4_post_307 (by decide) ?_
    exact ev_sub (e_X4_post_311 V h) (sub_s (sub_n (sub_n (sub_n (sub_n (sub_n (sub_s (sub_n (sub_n (sub_n (sub_n (sub_s (sub_n sub_e)))))))))))))
def f_X4_post_294  (w : Nat → Int32) (Dg : Nat → Int32) (C : Nat → Int32) (d : Bool) (v1 : Int32) (v2 : Int32) (v3 : Int32) (v6 : Int32) : (Nat → Int32) × (Nat → Int32) := f_X4_post_299 w Dg C d v1 v2 v3 v6 (nI 1)
def s_X4_post_294  (w : Nat → Int32) (Dg : Nat → Int32) (C : Nat → Int32) (d : Bool) (v1 : Int32) (v2 : Int32) (v3 : Int32) (v6 : Int32) : Prop := s_X4_post_299 w Dg C d v1 v2 v3 v6 (nI 1)
set_option maxRecDepth 100000 in
set_option maxHeartbeats 4000000 in
theorem e_X4_post_294 {G : ng_GG} {hp : (Nat → Int32) → (Nat → Int32) → (Nat → Int32) → (Nat → Int32) → (Nat → Int32) → (Nat → Int32) → (Nat → Int32) → ng_AM} {k : Nat} {a : Nat} {d : Bool} (V : ng_WL hp k a d) {w : Nat → Int32} {Dg : Nat → Int32} {dw : Nat → Int32} {C : Nat → Int32} {off : Nat → Int32} {dear : Nat → Int32} {proved : Nat → Int32}  {v1 : Int32} {v2 : Int32} {v3 : Int32} {v6 : Int32} (h : s_X4_post_294  w Dg C d v1 v2 v3 v6)  : ng_Ev G md_X4_post 294 [some (.ref k), some (.int v1), some (.int v2), some (.int v3), none, none, some (.int v6), none, none, none, none, none, none] [] (hp w Dg dw C off dear proved) (K_X4_post hp dw C off dear proved (f_X4_post_294  w Dg C d v1 v2 v3 v6)) := by
  unfold s_X4_post_294 at h
  unfold f_X4_post_294
  refine ev_iconst (v := nI 1) dX4_post_294 (by decide) ?_
  refine ev_goto (tgt := 299) dX4_post_295 (by decide) ?_
  exact ev_sub (e_X4_post_299 V h) (sub_s (sub_s (sub_s (sub_s (sub_n (sub_n (sub_s (sub_n (sub_n (sub_n (sub_n (sub_n (sub_n sub_e)))))))))))))
def f_X4_post_280  (w : Nat → Int32) (Dg : Nat → Int32) (C : Nat → Int32) (d : Bool) (v1 : Int32) (v2 : Int32) (v3 : Int32) (v6 : Int32) : (Nat → Int32) × (Nat → Int32) := (if v3 = 0 then f_X4_post_294 w Dg C d v1 v2 v3 v6 else (if v3 = (nI 3) then f_X4_post_294 w Dg C d v1 v2 v3 v6 else (if v3 = (nI 1) then f_X4_post_294 w Dg C d v1 v2 v3 v6 else f_X4_post_299 w Dg C d v1 v2 v3 v6 (nI 0))))
def s_X4_post_280  (w : Nat → Int32) (Dg : Nat → Int32) (C : Nat → Int32) (d : Bool) (v1 : Int32) (v2 : Int32) (v3 : Int32) (v6 : Int32) : Prop := ((v3 = 0 → s_X4_post_294 w Dg C d v1 v2 v3 v6) ∧ (¬ v3 = 0 → ((v3 = (nI 3) → s_X4_post_294 w Dg C d v1 v2 v3 v6) ∧ (¬ v3 = (nI 3) → ((v3 = (nI 1) → s_X4_post_294 w Dg C d v1 v2 v3 v6) ∧ (¬ v3 = (nI 1) → s_X4_post_299 w Dg C d v1 v2 v3 v6 (nI 0)))))))
set_option maxRecDepth 100000 in
set_option maxHeartbeats 4000000 in
theorem e_X4_post_280 {G : ng_GG} {hp : (Nat → Int32) → (Nat → Int32) → (Nat → Int32) → (Nat → Int32) → (Nat → Int32) → (Nat → Int32) → (Nat → Int32) → ng_AM} {k : Nat} {a : Nat} {d : Bool} (V : ng_WL hp k a d) {w : Nat → Int32} {Dg : Nat → Int32} {dw : Nat → Int32} {C : Nat → Int32} {off : Nat → Int32} {dear : Nat → Int32} {proved : Nat → Int32}  {v1 : Int32} {v2 : Int32} {v3 : Int32} {v6 : Int32} (h : s_X4_post_280  w Dg C d v1 v2 v3 v6)  : ng_Ev G md_X4_post 280 [some (.ref k), some (.int v1), some (.int v2), some (.int v3), none, none, some (.int v6), none, none, none, none, none, none] [] (hp w Dg dw C off dear proved) (K_X4_post hp dw C off dear proved (f_X4_post_280  w Dg C d v1 v2 v3 v6)) := by
  unfold s_X4_post_280 at h
  unfold f_X4_post_280
  refine ev_iload_n dX4_post_280 rfl rfl ?_
  refine bk_if_eq (tgt := 294) dX4_post_281 (by decide) (fun c281 => ?_) (fun c281 => ?_)
  · replace h := h.1 c281
    exact ev_sub (e_X4_post_294 V h) (sub_s (sub_s (sub_s (sub_s (sub_n (sub_n (sub_s (sub_n (sub_n (sub_n (sub_n (sub_n (sub_n sub_e)))))))))))))
  · replace h := h.2 c281
    refine ev_iload_n dX4_post_284 rfl rfl ?_
    refine ev_iconst (v := nI 3) dX4_post_285 (by decide) ?_
    refine bk_icmp_eq (tgt := 294) dX4_post_286 (by decide) (fun c286 => ?_) (fun c286 => ?_)
    · replace h := h.1 c286
      exact ev_sub (e_X4_post_294 V h) (sub_s (sub_s (sub_s (sub_s (sub_n (sub_n (sub_s (sub_n (sub_n (sub_n (sub_n (sub_n (sub_n sub_e)))))))))))))
    · replace h := h.2 c286
      refine ev_iload_n dX4_post_289 rfl rfl ?_
      refine ev_iconst (v := nI 1) dX4_post_290 (by decide) ?_
      refine bk_icmp_ne (tgt := 298) dX4_post_291 (by decide) (fun c291 => ?_) (fun c291 => ?_)
      · replace h := h.2 c291
        refine ev_iconst (v := nI 0) dX4_post_298 (by decide) ?_
        exact ev_sub (e_X4_post_299 V h) (sub_s (sub_s (sub_s (sub_s (sub_n (sub_n (sub_s (sub_n (sub_n (sub_n (sub_n (sub_n (sub_n sub_e)))))))))))))
      · replace h := h.1 c291
        exact ev_sub (e_X4_post_294 V h) (sub_s (sub_s (sub_s (sub_s (sub_n (sub_n (sub_s (sub_n (sub_n (sub_n (sub_n (sub_n (sub_n sub_e)))))))))))))
def f_X4_post_234  (w : Nat → Int32) (Dg : Nat → Int32) (C : Nat → Int32) (d : Bool) (v1 : Int32) (v2 : Int32) (v3 : Int32) (v5 : Int32) (v6 : Int32) (v10 : Int32) : (Nat → Int32) × (Nat → Int32) := (if v3 = (nI 1) then (if v5 < 0 then f_X4_post_280 w Dg C d v1 v2 v3 v6 else (if v10 ≤ v5 then f_X4_post_280 w Dg C d v1 v2 v3 v6 else (if (nI 32) ≤ v5 then f_X4_post_280 w Dg C d v1 v2 v3 v6 else f_X4_post_280 (upd w (((nI 142) + (v5 * (nI 11))) + (nI 10)).toNatClampNeg ((w (((nI 142) + (v5 * (nI 11))) + (nI 10)).toNatClampNeg) ||| (nI 16))) Dg C d v1 v2 v3 v6))) else f_X4_post_280 w Dg C d v1 v2 v3 v6)
def s_X4_post_234  (w : Nat → Int32) (Dg : Nat → Int32) (C : Nat → Int32) (d : Bool) (v1 : Int32) (v2 : Int32) (v3 : Int32) (v5 : Int32) (v6 : Int32) (v10 : Int32) : Prop := ((v3 = (nI 1) → ((v5 < 0 → s_X4_post_280 w Dg C d v1 v2 v3 v6) ∧ (¬ v5 < 0 → ((v10 ≤ v5 → s_X4_post_280 w Dg C d v1 v2 v3 v6) ∧ (¬ v10 ≤ v5 → (((nI 32) ≤ v5 → s_X4_post_280 w Dg C d v1 v2 v3 v6) ∧ (¬ (nI 32) ≤ v5 → (vp_in (((nI 142) + (v5 * (nI 11))) + (nI 10)) 494 ∧ (vp_in (((nI 142) + (v5 * (nI 11))) + (nI 10)) 494 ∧ s_X4_post_280 (upd w (((nI 142) + (v5 * (nI 11))) + (nI 10)).toNatClampNeg ((w (((nI 142) + (v5 * (nI 11))) + (nI 10)).toNatClampNeg) ||| (nI 16))) Dg C d v1 v2 v3 v6))))))))) ∧ (¬ v3 = (nI 1) → s_X4_post_280 w Dg C d v1 v2 v3 v6))
set_option maxRecDepth 100000 in
set_option maxHeartbeats 4000000 in
theorem e_X4_post_234 {G : ng_GG} {hp : (Nat → Int32) → (Nat → Int32) → (Nat → Int32) → (Nat → Int32) → (Nat → Int32) → (Nat → Int32) → (Nat → Int32) → ng_AM} {k : Nat} {a : Nat} {d : Bool} (V : ng_WL hp k a d) {w : Nat → Int32} {Dg : Nat → Int32} {dw : Nat → Int32} {C : Nat → Int32} {off : Nat → Int32} {dear : Nat → Int32} {proved : Nat → Int32}  {v1 : Int32} {v2 : Int32} {v3 : Int32} {v5 : Int32} {v6 : Int32} {v10 : Int32} (h : s_X4_post_234  w Dg C d v1 v2 v3 v5 v6 v10)  : ng_Ev G md_X4_post 234 [some (.ref k), some (.int v1), some (.int v2), some (.int v3), none, some (.int v5), some (.int v6), none, none, none, some (.int v10), none, none] [] (hp w Dg dw C off dear proved) (K_X4_post hp dw C off dear proved (f_X4_post_234  w Dg C d v1 v2 v3 v5 v6 v10)) := by
  unfold s_X4_post_234 at h
  unfold f_X4_post_234
  refine ev_iload_n dX4_post_234 rfl rfl ?_
  refine ev_iconst (v := nI 1) dX4_post_235 (by decide) ?_
  refine bk_icmp_ne (tgt := 280) dX4_post_236 (by decide) (fun c236 => ?_) (fun c236 => ?_)
  · replace h := h.2 c236
    exact ev_sub (e_X4_post_280 V h) (sub_s (sub_s (sub_s (sub_s (sub_n (sub_n (sub_s (sub_n (sub_n (sub_n (sub_n (sub_n (sub_n sub_e)))))))))))))
  · replace h := h.1 c236
    refine ev_iload dX4_post_239 rfl ?_
    refine bk_if_lt (tgt := 280) dX4_post_241 (by decide) (fun c241 => ?_) (fun c241 => ?_)
    · replace h := h.1 c241
      exact ev_sub (e_X4_post_280 V h) (sub_s (sub_s (sub_s (sub_s (sub_n (sub_n (sub_s (sub_n (sub_n (sub_n (sub_n (sub_n (sub_n sub_e)))))))))))))
    · replace h := h.2 c241
      refine ev_iload dX4_post_244 rfl ?_
      refine ev_iload dX4_post_246 rfl ?_
      refine bk_icmp_ge (tgt := 280) dX4_post_248 (by decide) (fun c248 => ?_) (fun c248 => ?_)
      · replace h := h.1 c248
        exact ev_sub (e_X4_post_280 V h) (sub_s (sub_s (sub_s (sub_s (sub_n (sub_n (sub_s (sub_n (sub_n (sub_n (sub_n (sub_n (sub_n sub_e)))))))))))))
      · replace h := h.2 c248
        refine ev_iload dX4_post_251 rfl ?_
        refine ev_bipush (v := nI 32) dX4_post_253 (by decide) ?_
        refine bk_icmp_ge (tgt := 280) dX4_post_255 (by decide) (fun c255 => ?_) (fun c255 => ?_)
        · replace h := h.1 c255
          exact ev_sub (e_X4_post_280 V h) (sub_s (sub_s (sub_s (sub_s (sub_n (sub_n (sub_s (sub_n (sub_n (sub_n (sub_n (sub_n (sub_n sub_e)))))))))))))
        · replace h := h.2 c255
          refine ev_aload_n dX4_post_258 rfl rfl rfl ?_
          refine ev_get 4 0 fl_RX4_11 (WL_gk V) rfl dX4_post_259 ?_
          refine ev_sipush (v := nI 142) dX4_post_262 (by decide) ?_
          refine ev_iload dX4_post_265 rfl ?_
          refine ev_bipush (v := nI 11) dX4_post_267 (by decide) ?_
          refine ev_imul dX4_post_269 ?_
          refine ev_iadd dX4_post_270 ?_
          refine ev_bipush (v := nI 10) dX4_post_271 (by decide) ?_
          refine ev_iadd dX4_post_273 ?_
          refine ev_dup2 dX4_post_274 rfl rfl ?_
          have hi275 := h.1
          replace h := h.2
          refine ev_iald (WL_ga V) hi275 dX4_post_275 ?_
          refine ev_bipush (v := nI 16) dX4_post_276 (by decide) ?_
          refine ev_ior dX4_post_278 ?_
          have hi279 := h.1
          replace h := h.2
          refine ev_iast (WL_ga V) hi279 (WL_sa V) dX4_post_279 ?_
          exact ev_sub (e_X4_post_280 V h) (sub_s (sub_s (sub_s (sub_s (sub_n (sub_n (sub_s (sub_n (sub_n (sub_n (sub_n (sub_n (sub_n sub_e)))))))))))))
def f_X4_post_168  (w : Nat → Int32) (Dg : Nat → Int32) (C : Nat → Int32) (d : Bool) (v1 : Int32) (v2 : Int32) (v3 : Int32) (v4 : Int32) (v5 : Int32) (v6 : Int32) (t0 : Int32) : (Nat → Int32) × (Nat → Int32) := (if t0 = 0 then (w, Dg) else (if v3 = (nI 5) then (w, Dg) else (if v3 = 0 then f_X4_post_234 w Dg C d v1 v2 v3 v5 v6 (w (nI 1).toNatClampNeg) else (if v4 < 0 then f_X4_post_234 w Dg C d v1 v2 v3 v5 v6 (w (nI 1).toNatClampNeg) else (if (w (nI 1).toNatClampNeg) ≤ v4 then f_X4_post_234 w Dg C d v1 v2 v3 v5 v6 (w (nI 1).toNatClampNeg) else (if (nI 32) ≤ v4 then f_X4_post_234 w Dg C d v1 v2 v3 v5 v6 (w (nI 1).toNatClampNeg) else f_X4_post_234 (upd w (((nI 142) + (v4 * (nI 11))) + (nI 10)).toNatClampNeg ((w (((nI 142) + (v4 * (nI 11))) + (nI 10)).toNatClampNeg) ||| (nI 16))) Dg C d v1 v2 v3 v5 v6 (w (nI 1).toNatClampNeg)))))))
def s_X4_post_168  (w : Nat → Int32) (Dg : Nat → Int32) (C : Nat → Int32) (d : Bool) (v1 : Int32) (v2 : Int32) (v3 : Int32) (v4 : Int32) (v5 : Int32) (v6 : Int32) (t0 : Int32) : Prop := (¬ t0 = 0 → (¬ v3 = (nI 5) → ((v3 = 0 → s_X4_post_234 w Dg C d v1 v2 v3 v5 v6 (w (nI 1).toNatClampNeg)) ∧ (¬ v3 = 0 → ((v4 < 0 → s_X4_post_234 w Dg C d v1 v2 v3 v5 v6 (w (nI 1).toNatClampNeg)) ∧ (¬ v4 < 0 → (((w (nI 1).toNatClampNeg) ≤ v4 → s_X4_post_234 w Dg C d v1 v2 v3 v5 v6 (w (nI 1).toNatClampNeg)) ∧ (¬ (w (nI 1).toNatClampNeg) ≤ v4 → (((nI 32) ≤ v4 → s_X4_post_234 w Dg C d v1 v2 v3 v5 v6 (w (nI 1).toNatClampNeg)) ∧ (¬ (nI 32) ≤ v4 → (vp_in (((nI 142) + (v4 * (nI 11))) + (nI 10)) 494 ∧ (vp_in (((nI 142) + (v4 * (nI 11))) + (nI 10)) 494 ∧ s_X4_post_234 (upd w (((nI 142) + (v4 * (nI 11))) + (nI 10)).toNatClampNeg ((w (((nI 142) + (v4 * (nI 11))) + (nI 10)).toNatClampNeg) ||| (nI 16))) Dg C d v1 v2 v3 v5 v6 (w (nI 1).toNatClampNeg)))))))))))))
set_option maxRecDepth 100000 in
set_option maxHeartbeats 4000000 in
theorem e_X4_post_168 {G : ng_GG} {hp : (Nat → Int32) → (Nat → Int32) → (Nat → Int32) → (Nat → Int32) → (Nat → Int32) → (Nat → Int32) → (Nat → Int32) → ng_AM} {k : Nat} {a : Nat} {d : Bool} (V : ng_WL hp k a d) {w : Nat → Int32} {Dg : Nat → Int32} {dw : Nat → Int32} {C : Nat → Int32} {off : Nat → Int32} {dear : Nat → Int32} {proved : Nat → Int32}  {v1 : Int32} {v2 : Int32} {v3 : Int32} {v4 : Int32} {v5 : Int32} {v6 : Int32} {t0 : Int32} (h : s_X4_post_168  w Dg C d v1 v2 v3 v4 v5 v6 t0)  : ng_Ev G md_X4_post 168 [some (.ref k), some (.int v1), some (.int v2), some (.int v3), some (.int v4), some (.int v5), some (.int v6), none, none, none, none, none, none] [.int t0] (hp w Dg dw C off dear proved) (K_X4_post hp dw C off dear proved (f_X4_post_168  w Dg C d v1 v2 v3 v4 v5 v6 t0)) := by
  unfold s_X4_post_168 at h
  unfold f_X4_post_168
  refine ev_istore (L' := [some (.ref k), some (.int v1), some (.int v2), some (.int v3), some (.int v4), some (.int v5), some (.int v6), none, none, some (.int t0), none, none, none]) dX4_post_168 (ng_lt rfl) rfl ?_
  refine ev_iload dX4_post_170 rfl ?_
  refine bk_if_eq (tgt := 180) dX4_post_172 (by decide) (fun c172 => ?_) (fun c172 => ?_)
  · exact ev_vret rfl dX4_post_180
  · replace h := h c172
    refine ev_iload_n dX4_post_175 rfl rfl ?_
    refine ev_iconst (v := nI 5) dX4_post_176 (by decide) ?_
    refine bk_icmp_ne (tgt := 181) dX4_post_177 (by decide) (fun c177 => ?_) (fun c177 => ?_)
    · replace h := h c177
      refine ev_aload_n dX4_post_181 rfl rfl rfl ?_
      refine ev_get 4 0 fl_RX4_11 (WL_gk V) rfl dX4_post_182 ?_
      refine ev_iconst (v := nI 1) dX4_post_185 (by decide) ?_
      refine ev_iald (WL_ga V) (vp_in_nI (by decide) (by decide)) dX4_post_186 ?_
      refine ev_istore (L' := [some (.ref k), some (.int v1), some (.int v2), some (.int v3), some (.int v4), some (.int v5), some (.int v6), none, none, some (.int t0), some (.int (w (nI 1).toNatClampNeg)), none, none]) dX4_post_187 (ng_lt rfl) rfl ?_
      refine ev_iload_n dX4_post_189 rfl rfl ?_
      refine bk_if_eq (tgt := 234) dX4_post_190 (by decide) (fun c190 => ?_) (fun c190 => ?_)
      · replace h := h.1 c190
        exact ev_sub (e_X4_post_234 V h) (sub_s (sub_s (sub_s (sub_s (sub_n (sub_s (sub_s (sub_n (sub_n (sub_n (sub_s (sub_n (sub_n sub_e)))))))))))))
      · replace h := h.2 c190
        refine ev_iload dX4_post_193 rfl ?_
        refine bk_if_lt (tgt := 234) dX4_post_195 (by decide) (fun c195 => ?_) (fun c195 => ?_)
        · replace h := h.1 c195
          exact ev_sub (e_X4_post_234 V h) (sub_s (sub_s (sub_s (sub_s (sub_n (sub_s (sub_s (sub_n (sub_n (sub_n (sub_s (sub_n (sub_n sub_e)))))))))))))
        · replace h := h.2 c195
          refine ev_iload dX4_post_198 rfl ?_
          refine ev_iload dX4_post_200 rfl ?_
          refine bk_icmp_ge (tgt := 234) dX4_post_202 (by decide) (fun c202 => ?_) (fun c202 => ?_)
          · replace h := h.1 c202
            exact ev_sub (e_X4_post_234 V h) (sub_s (sub_s (sub_s (sub_s (sub_n (sub_s (sub_s (sub_n (sub_n (sub_n (sub_s (sub_n (sub_n sub_e)))))))))))))
          · replace h := h.2 c202
            refine ev_iload dX4_post_205 rfl ?_
            refine ev_bipush (v := nI 32) dX4_post_207 (by decide) ?_
            refine bk_icmp_ge (tgt := 234) dX4_post_209 (by decide) (fun c209 => ?_) (fun c209 => ?_)
            · replace h := h.1 c209
              exact ev_sub (e_X4_post_234 V h) (sub_s (sub_s (sub_s (sub_s (sub_n (sub_s (sub_s (sub_n (sub_n (sub_n (sub_s (sub_n (sub_n sub_e)))))))))))))
            · replace h := h.2 c209
              refine ev_aload_n dX4_post_212 rfl rfl rfl ?_
              refine ev_get 4 0 fl_RX4_11 (WL_gk V) rfl dX4_post_213 ?_
              refine ev_sipush (v := nI 142) dX4_post_216 (by decide) ?_
              refine ev_iload dX4_post_219 rfl ?_
              refine ev_bipush (v := nI 11) dX4_post_221 (by decide) ?_
              refine ev_imul dX4_post_223 ?_
              refine ev_iadd dX4_post_224 ?_
              refine ev_bipush (v := nI 10) dX4_post_225 (by decide) ?_
              refine ev_iadd dX4_post_227 ?_
              refine ev_dup2 dX4_post_228 rfl rfl ?_
              have hi229 := h.1
              replace h := h.2
              refine ev_iald (WL_ga V) hi229 dX4_post_229 ?_
              refine ev_bipush (v := nI 16) dX4_post_230 (by decide) ?_
              refine ev_ior dX4_post_232 ?_
              have hi233 := h.1
              replace h := h.2
              refine ev_iast (WL_ga V) hi233 (WL_sa V) dX4_post_233 ?_
              exact ev_sub (e_X4_post_234 V h) (sub_s (sub_s (sub_s (sub_s (sub_n (sub_s (sub_s (sub_n (sub_n (sub_n (sub_s (sub_n (sub_n sub_e)))))))))))))
    · exact ev_vret rfl dX4_post_180
def f_X4_post_128  (w : Nat → Int32) (Dg : Nat → Int32) (C : Nat → Int32) (d : Bool) (v1 : Int32) (v2 : Int32) (v3 : Int32) (v4 : Int32) (v5 : Int32) (v6 : Int32) (v7 : Int32) : (Nat → Int32) × (Nat → Int32) := (if ((((C 8) >>> (v1 &&& 31)) ||| ((C 8) >>> (v2 &&& 31))) &&& (nI 1)) = (nI 1) then f_X4_post_168 (upd w (nI 3).toNatClampNeg (v7 + (nI 1))) Dg C d v1 v2 v3 v4 v5 v6 (nI 1) else f_X4_post_168 (upd w (nI 3).toNatClampNeg (v7 + (nI 1))) Dg C d v1 v2 v3 v4 v5 v6 (nI 0))
def s_X4_post_128  (w : Nat → Int32) (Dg : Nat → Int32) (C : Nat → Int32) (d : Bool) (v1 : Int32) (v2 : Int32) (v3 : Int32) (v4 : Int32) (v5 : Int32) (v6 : Int32) (v7 : Int32) : Prop := ((((((C 8) >>> (v1 &&& 31)) ||| ((C 8) >>> (v2 &&& 31))) &&& (nI 1)) = (nI 1) → s_X4_post_168 (upd w (nI 3).toNatClampNeg (v7 + (nI 1))) Dg C d v1 v2 v3 v4 v5 v6 (nI 1)) ∧ (¬ ((((C 8) >>> (v1 &&& 31)) ||| ((C 8) >>> (v2 &&& 31))) &&& (nI 1)) = (nI 1) → s_X4_post_168 (upd w (nI 3).toNatClampNeg (v7 + (nI 1))) Dg C d v1 v2 v3 v4 v5 v6 (nI 0)))
set_option maxRecDepth 100000 in
set_option maxHeartbeats 4000000 in
theorem e_X4_post_128 {G : ng_GG} {hp : (Nat → Int32) → (Nat → Int32) → (Nat → Int32) → (Nat → Int32) → (Nat → Int32) → (Nat → Int32) → (Nat → Int32) → ng_AM} {k : Nat} {a : Nat} {d : Bool} (V : ng_WL hp k a d) {w : Nat → Int32} {Dg : Nat → Int32} {dw : Nat → Int32} {C : Nat → Int32} {off : Nat → Int32} {dear : Nat → Int32} {proved : Nat → Int32}  {v1 : Int32} {v2 : Int32} {v3 : Int32} {v4 : Int32} {v5 : Int32} {v6 : Int32} {v7 : Int32} (h : s_X4_post_128  w Dg C d v1 v2 v3 v4 v5 v6 v7)  : ng_Ev G md_X4_post 128 [some (.ref k), some (.int v1), some (.int v2), some (.int v3), some (.int v4), some (.int v5), some (.int v6), some (.int v7), none, none, none, none, none] [] (hp w Dg dw C off dear proved) (K_X4_post hp dw C off dear proved (f_X4_post_128  w Dg C d v1 v2 v3 v4 v5 v6 v7)) := by
  unfold s_X4_post_128 at h
  unfold f_X4_post_128
  refine ev_aload_n dX4_post_128 rfl rfl rfl ?_
  refine ev_get 4 0 fl_RX4_11 (WL_gk V) rfl dX4_post_129 ?_
  refine ev_iconst (v := nI 3) dX4_post_132 (by decide) ?_
  refine ev_iload dX4_post_133 rfl ?_
  refine ev_iconst (v := nI 1) dX4_post_135 (by decide) ?_
  refine ev_iadd dX4_post_136 ?_
  refine ev_iast (WL_ga V) (vp_in_nI (by decide) (by decide)) (WL_sa V) dX4_post_137 ?_
  refine ev_aload_n dX4_post_138 rfl rfl rfl ?_
  refine ev_get 4 1 fl_RX4_15 (WL_gk V) rfl dX4_post_139 ?_
  refine ev_get 2 8 fl_RX4_51 (WL_g1 V) rfl dX4_post_142 ?_
  refine ev_iload_n dX4_post_145 rfl rfl ?_
  refine ev_ishr dX4_post_146 ?_
  refine ev_aload_n dX4_post_147 rfl rfl rfl ?_
  refine ev_get 4 1 fl_RX4_15 (WL_gk V) rfl dX4_post_148 ?_
  refine ev_get 2 8 fl_RX4_51 (WL_g1 V) rfl dX4_post_151 ?_
  refine ev_iload_n dX4_post_154 rfl rfl ?_
  refine ev_ishr dX4_post_155 ?_
  refine ev_ior dX4_post_156 ?_
  refine ev_iconst (v := nI 1) dX4_post_157 (by decide) ?_
  refine ev_iand dX4_post_158 ?_
  refine ev_iconst (v := nI 1) dX4_post_159 (by decide) ?_
  refine bk_icmp_ne (tgt := 167) dX4_post_160 (by decide) (fun c160 => ?_) (fun c160 => ?_)
  · replace h := h.2 c160
    refine ev_iconst (v := nI 0) dX4_post_167 (by decide) ?_
    exact ev_sub (e_X4_post_168 V h) (sub_s (sub_s (sub_s (sub_s (sub_s (sub_s (sub_s (sub_n (sub_n (sub_n (sub_n (sub_n (sub_n sub_e)))))))))))))
  · replace h := h.1 c160
    refine ev_iconst (v := nI 1) dX4_post_163 (by decide) ?_
    refine ev_goto (tgt := 168) dX4_post_164 (by decide) ?_
    exact ev_sub (e_X4_post_168 V h) (sub_s (sub_s (sub_s (sub_s (sub_s (sub_s (sub_s (sub_n (sub_n (sub_n (sub_n (sub_n (sub_n sub_e)))))))))))))
def f_X4_post  (w : Nat → Int32) (Dg : Nat → Int32) (C : Nat → Int32) (d : Bool) (v1 : Int32) (v2 : Int32) (v3 : Int32) (v4 : Int32) (v5 : Int32) (v6 : Int32) : (Nat → Int32) × (Nat → Int32) := (if (w (nI 3).toNatClampNeg) < 0 then f_X4_post_20 w Dg C d else (if (w (nI 3).toNatClampNeg) < (nI 12) then f_X4_post_128 (upd (upd (upd (upd (upd (upd (upd w ((nI 58) + ((w (nI 3).toNatClampNeg) * (nI 7))).toNatClampNeg v1) (((nI 58) + ((w (nI 3).toNatClampNeg) * (nI 7))) + (nI 1)).toNatClampNeg v2) (((nI 58) + ((w (nI 3).toNatClampNeg) * (nI 7))) + (nI 2)).toNatClampNeg v3) (((nI 58) + ((w (nI 3).toNatClampNeg) * (nI 7))) + (nI 3)).toNatClampNeg v4) (((nI 58) + ((w (nI 3).toNatClampNeg) * (nI 7))) + (nI 4)).toNatClampNeg v5) (((nI 58) + ((w (nI 3).toNatClampNeg) * (nI 7))) + (nI 5)).toNatClampNeg v6) (((nI 58) + ((w (nI 3).toNatClampNeg) * (nI 7))) + (nI 6)).toNatClampNeg ((upd (upd (upd (upd (upd (upd w ((nI 58) + ((w (nI 3).toNatClampNeg) * (nI 7))).toNatClampNeg v1) (((nI 58) + ((w (nI 3).toNatClampNeg) * (nI 7))) + (nI 1)).toNatClampNeg v2) (((nI 58) + ((w (nI 3).toNatClampNeg) * (nI 7))) + (nI 2)).toNatClampNeg v3) (((nI 58) + ((w (nI 3).toNatClampNeg) * (nI 7))) + (nI 3)).toNatClampNeg v4) (((nI 58) + ((w (nI 3).toNatClampNeg) * (nI 7))) + (nI 4)).toNatClampNeg v5) (((nI 58) + ((w (nI 3).toNatClampNeg) * (nI 7))) + (nI 5)).toNatClampNeg v6) (nI 0).toNatClampNeg)) Dg C d v1 v2 v3 v4 v5 v6 (w (nI 3).toNatClampNeg) else f_X4_post_20 w Dg C d))
def s_X4_post  (w : Nat → Int32) (Dg : Nat → Int32) (C : Nat → Int32) (d : Bool) (v1 : Int32) (v2 : Int32) (v3 : Int32) (v4 : Int32) (v5 : Int32) (v6 : Int32) : Prop := (((w (nI 3).toNatClampNeg) < 0 → s_X4_post_20 w Dg C d) ∧ (¬ (w (nI 3).toNatClampNeg) < 0 → (((w (nI 3).toNatClampNeg) < (nI 12) → (vp_in ((nI 58) + ((w (nI 3).toNatClampNeg) * (nI 7))) 494 ∧ (vp_in (((nI 58) + ((w (nI 3).toNatClampNeg) * (nI 7))) + (nI 1)) 494 ∧ (vp_in (((nI 58) + ((w (nI 3).toNatClampNeg) * (nI 7))) + (nI 2)) 494 ∧ (vp_in (((nI 58) + ((w (nI 3).toNatClampNeg) * (nI 7))) + (nI 3)) 494 ∧ (vp_in (((nI 58) + ((w (nI 3).toNatClampNeg) * (nI 7))) + (nI 4)) 494 ∧ (vp_in (((nI 58) + ((w (nI 3).toNatClampNeg) * (nI 7))) + (nI 5)) 494 ∧ (vp_in (((nI 58) + ((w (nI 3).toNatClampNeg) * (nI 7))) + (nI 6)) 494 ∧ s_X4_post_128 (upd (upd (upd (upd (upd (upd (upd w ((nI 58) + ((w (nI 3).toNatClampNeg) * (nI 7))).toNatClampNeg v1) (((nI 58) + ((w (nI 3).toNatClampNeg) * (nI 7))) + (nI 1)).toNatClampNeg v2) (((nI 58) + ((w (nI 3).toNatClampNeg) * (nI 7))) + (nI 2)).toNatClampNeg v3) (((nI 58) + ((w (nI 3).toNatClampNeg) * (nI 7))) + (nI 3)).toNatClampNeg v4) (((nI 58) + ((w (nI 3).toNatClampNeg) * (nI 7))) + (nI 4)).toNatClampNeg v5) (((nI 58) + ((w (nI 3).toNatClampNeg) * (nI 7))) + (nI 5)).toNatClampNeg v6) (((nI 58) + ((w (nI 3).toNatClampNeg) * (nI 7))) + (nI 6)).toNatClampNeg ((upd (upd (upd (upd (upd (upd w ((nI 58) + ((w (nI 3).toNatClampNeg) * (nI 7))).toNatClampNeg v1) (((nI 58) + ((w (nI 3).toNatClampNeg) * (nI 7))) + (nI 1)).toNatClampNeg v2) (((nI 58) + ((w (nI 3).toNatClampNeg) * (nI 7))) + (nI 2)).toNatClampNeg v3) (((nI 58) + ((w (nI 3).toNatClampNeg) * (nI 7))) + (nI 3)).toNatClampNeg v4) (((nI 58) + ((w (nI 3).toNatClampNeg) * (nI 7))) + (nI 4)).toNatClampNeg v5) (((nI 58) + ((w (nI 3).toNatClampNeg) * (nI 7))) + (nI 5)).toNatClampNeg v6) (nI 0).toNatClampNeg)) Dg C d v1 v2 v3 v4 v5 v6 (w (nI 3).toNatClampNeg))))))))) ∧ (¬ (w (nI 3).toNatClampNeg) < (nI 12) → s_X4_post_20 w Dg C d))))
set_option maxRecDepth 100000 in
set_option maxHeartbeats 4000000 in
theorem e_X4_post {G : ng_GG} {hp : (Nat → Int32) → (Nat → Int32) → (Nat → Int32) → (Nat → Int32) → (Nat → Int32) → (Nat → Int32) → (Nat → Int32) → ng_AM} {k : Nat} {a : Nat} {d : Bool} (V : ng_WL hp k a d) {w : Nat → Int32} {Dg : Nat → Int32} {dw : Nat → Int32} {C : Nat → Int32} {off : Nat → Int32} {dear : Nat → Int32} {proved : Nat → Int32}  {v1 : Int32} {v2 : Int32} {v3 : Int32} {v4 : Int32} {v5 : Int32} {v6 : Int32} (h : s_X4_post  w Dg C d v1 v2 v3 v4 v5 v6)  : ng_Ev G md_X4_post 0 [some (.ref k), some (.int v1), some (.int v2), some (.int v3), some (.int v4), some (.int v5), some (.int v6), none, none, none, none, none, none] [] (hp w Dg dw C off dear proved) (K_X4_post hp dw C off dear proved (f_X4_post  w Dg C d v1 v2 v3 v4 v5 v6)) := by
  unfold s_X4_post at h
  unfold f_X4_post
  refine ev_aload_n dX4_post_0 rfl rfl rfl ?_
  refine ev_get 4 0 fl_RX4_11 (WL_gk V) rfl dX4_post_1 ?_
  refine ev_iconst (v := nI 3) dX4_post_4 (by decide) ?_
  refine ev_iald (WL_ga V) (vp_in_nI (by decide) (by decide)) dX4_post_5 ?_
  refine ev_istore (L' := [some (.ref k), some (.int v1), some (.int v2), some (.int v3), some (.int v4), some (.int v5), some (.int v6), some (.int (w (nI 3).toNatClampNeg)), none, none, none, none, none]) dX4_post_6 (ng_lt rfl) rfl ?_
  refine ev_iload dX4_post_8 rfl ?_
  refine bk_if_lt (tgt := 20) dX4_post_10 (by decide) (fun c10 => ?_) (fun c10 => ?_)
  · replace h := h.1 c10
    exact ev_sub (e_X4_post_20 V h) (sub_s (sub_n (sub_n (sub_n (sub_n (sub_n (sub_n (sub_n (sub_n (sub_n (sub_n (sub_n (sub_n sub_e)))))))))))))
  · replace h := h.2 c10
    refine ev_iload dX4_post_13 rfl ?_
    refine ev_bipush (v := nI 12) dX4_post_15 (by decide) ?_
    refine bk_icmp_lt (tgt := 41) dX4_post_17 (by decide) (fun c17 => ?_) (fun c17 => ?_)
    · replace h := h.1 c17
      refine ev_bipush (v := nI 58) dX4_post_41 (by decide) ?_
      refine ev_iload dX4_post_43 rfl ?_
      refine ev_bipush (v := nI 7) dX4_post_45 (by decide) ?_
      refine ev_imul dX4_post_47 ?_
      refine ev_iadd dX4_post_48 ?_
      refine ev_istore (L' := [some (.ref k), some (.int v1), some (.int v2), some (.int v3), some (.int v4), some (.int v5), some (.int v6), some (.int (w (nI 3).toNatClampNeg)), some (.int ((nI 58) + ((w (nI 3).toNatClampNeg) * (nI 7)))), none, none, none, none]) dX4_post_49 (ng_lt rfl) rfl ?_
      refine ev_aload_n dX4_post_51 rfl rfl rfl ?_
      refine ev_get 4 0 fl_RX4_11 (WL_gk V) rfl dX4_post_52 ?_
      refine ev_iload dX4_post_55 rfl ?_
      refine ev_iload_n dX4_post_57 rfl rfl ?_
      have hi58 := h.1
      replace h := h.2
      refine ev_iast (WL_ga V) hi58 (WL_sa V) dX4_post_58 ?_
      refine ev_aload_n dX4_post_59 rfl rfl rfl ?_
      refine ev_get 4 0 fl_RX4_11 (WL_gk V) rfl dX4_post_60 ?_
      refine ev_iload dX4_post_63 rfl ?_
      refine ev_iconst (v := nI 1) dX4_post_65 (by decide) ?_
      refine ev_iadd dX4_post_66 ?_
      refine ev_iload_n dX4_post_67 rfl rfl ?_
      have hi68 := h.1
      replace h := h.2
      refine ev_iast (WL_ga V) hi68 (WL_sa V) dX4_post_68 ?_
      refine ev_aload_n dX4_post_69 rfl rfl rfl ?_
      refine ev_get 4 0 fl_RX4_11 (WL_gk V) rfl dX4_post_70 ?_
      refine ev_iload dX4_post_73 rfl ?_
      refine ev_iconst (v := nI 2) dX4_post_75 (by decide) ?_
      refine ev_iadd dX4_post_76 ?_
      refine ev_iload_n dX4_post_77 rfl rfl ?_
      have hi78 := h.1
      replace h := h.2
      refine ev_iast (WL_ga V) hi78 (WL_sa V) dX4_post_78 ?_
      refine ev_aload_n dX4_post_79 rfl rfl rfl ?_
      refine ev_get 4 0 fl_RX4_11 (WL_gk V) rfl dX4_post_80 ?_
      refine ev_iload dX4_post_83 rfl ?_
      refine ev_iconst (v := nI 3) dX4_post_85 (by decide) ?_
      refine ev_iadd dX4_post_86 ?_
      refine ev_iload dX4_post_87 rfl ?_
      have hi89 := h.1
      replace h := h.2
      refine ev_iast (WL_ga V) hi89 (WL_sa V) dX4_post_89 ?_
      refine ev_aload_n dX4_post_90 rfl rfl rfl ?_
      refine ev_get 4 0 fl_RX4_11 (WL_gk V) rfl dX4_post_91 ?_
      refine ev_iload dX4_post_94 rfl ?_
      refine ev_iconst (v := nI 4) dX4_post_96 (by decide) ?_
      refine ev_iadd dX4_post_97 ?_
      refine ev_iload dX4_post_98 rfl ?_
      have hi100 := h.1
      replace h := h.2
      refine ev_iast (WL_ga V) hi100 (WL_sa V) dX4_post_100 ?_
      refine ev_aload_n dX4_post_101 rfl rfl rfl ?_
      refine ev_get 4 0 fl_RX4_11 (WL_gk V) rfl dX4_post_102 ?_
      refine ev_iload dX4_post_105 rfl ?_
      refine ev_iconst (v := nI 5) dX4_post_107 (by decide) ?_
      refine ev_iadd dX4_post_108 ?_
      refine ev_iload dX4_post_109 rfl ?_
      have hi111 := h.1
      replace h := h.2
      refine ev_iast (WL_ga V) hi111 (WL_sa V) dX4_post_111 ?_
      refine ev_aload_n dX4_post_112 rfl rfl rfl ?_
      refine ev_get 4 0 fl_RX4_11 (WL_gk V) rfl dX4_post_113 ?_
      refine ev_iload dX4_post_116 rfl ?_
      refine ev_bipush (v := nI 6) dX4_post_118 (by decide) ?_
      refine ev_iadd dX4_post_120 ?_
      refine ev_aload_n dX4_post_121 rfl rfl rfl ?_
      refine ev_get 4 0 fl_RX4_11 (WL_gk V) rfl dX4_post_122 ?_
      refine ev_iconst (v := nI 0) dX4_post_125 (by decide) ?_
      refine ev_iald (WL_ga V) (vp_in_nI (by decide) (by decide)) dX4_post_126 ?_
      have hi127 := h.1
      replace h := h.2
      refine ev_iast (WL_ga V) hi127 (WL_sa V) dX4_post_127 ?_
      exact ev_sub (e_X4_post_128 V h) (sub_s (sub_s (sub_s (sub_s (sub_s (sub_s (sub_s (sub_s (sub_n (sub_n (sub_n (sub_n (sub_n sub_e)))))))))))))
    · replace h := h.2 c17
      exact ev_sub (e_X4_post_20 V h) (sub_s (sub_n (sub_n (sub_n (sub_n (sub_n (sub_n (sub_n (sub_n (sub_n (sub_n (sub_n (sub_n sub_e)))))))))))))
theorem m_X4_post {G : ng_GG} {hp : (Nat → Int32) → (Nat → Int32) → (Nat → Int32) → (Nat → Int32) → (Nat → Int32) → (Nat → Int32) → (Nat → Int32) → ng_AM} {k : Nat} {a : Nat} {d : Bool} (V : ng_WL hp k a d) {w : Nat → Int32} {Dg : Nat → Int32} {dw : Nat → Int32} {C : Nat → Int32} {off : Nat → Int32} {dear : Nat → Int32} {proved : Nat → Int32} {v1 : Int32} {v2 : Int32} {v3 : Int32} {v4 : Int32} {v5 : Int32} {v6 : Int32} (h : s_X4_post w Dg C d v1 v2 v3 v4 v5 v6)  : ng_Ev G md_X4_post 0 (ng_en 13 [.ref k, .int v1, .int v2, .int v3, .int v4, .int v5, .int v6]) [] (hp w Dg dw C off dear proved) (K_X4_post hp dw C off dear proved (f_X4_post w Dg C d v1 v2 v3 v4 v5 v6)) := e_X4_post V h 
def K_X4_postAgain (hp : (Nat → Int32) → (Nat → Int32) → (Nat → Int32) → (Nat → Int32) → (Nat → Int32) → (Nat → Int32) → (Nat → Int32) → ng_AM) (dw : Nat → Int32) (C : Nat → Int32) (off : Nat → Int32) (dear : Nat → Int32) (proved : Nat → Int32) (r : (Nat → Int32) × (Nat → Int32) × Int32) : ng_RR := (some (.int (r.2.2)), hp (r.1) (r.2.1) dw C off dear proved)
def f_X4_postAgain  (w : Nat → Int32) (Dg : Nat → Int32) (C : Nat → Int32) (d : Bool) (v1 : Int32) : (Nat → Int32) × (Nat → Int32) × Int32 := (if (f_X4_isLetter w v1) = 0 then (w, Dg, nI 0) else (if (w (nI 3).toNatClampNeg) < (nI 12) then ((f_X4_post w Dg C d (w ((nI 58) + (v1 * (nI 7))).toNatClampNeg) (w (((nI 58) + (v1 * (nI 7))) + (nI 1)).toNatClampNeg) (w (((nI 58) + (v1 * (nI 7))) + (nI 2)).toNatClampNeg) (w (((nI 58) + (v1 * (nI 7))) + (nI 3)).toNatClampNeg) (w (((nI 58) + (v1 * (nI 7))) + (nI 4)).toNatClampNeg) (w (((nI 58) + (v1 * (nI 7))) + (nI 5)).toNatClampNeg)).1, (f_X4_post w Dg C d (w ((nI 58) + (v1 * (nI 7))).toNatClampNeg) (w (((nI 58) + (v1 * (nI 7))) + (nI 1)).toNatClampNeg) (w (((nI 58) + (v1 * (nI 7))) + (nI 2)).toNatClampNeg) (w (((nI 58) + (v1 * (nI 7))) + (nI 3)).toNatClampNeg) (w (((nI 58) + (v1 * (nI 7))) + (nI 4)).toNatClampNeg) (w (((nI 58) + (v1 * (nI 7))) + (nI 5)).toNatClampNeg)).2, nI 1) else (w, Dg, nI 0)))
def s_X4_postAgain  (w : Nat → Int32) (Dg : Nat → Int32) (C : Nat → Int32) (d : Bool) (v1 : Int32) : Prop := (¬ (f_X4_isLetter w v1) = 0 → ((w (nI 3).toNatClampNeg) < (nI 12) → (vp_in ((nI 58) + (v1 * (nI 7))) 494 ∧ (vp_in (((nI 58) + (v1 * (nI 7))) + (nI 1)) 494 ∧ (vp_in (((nI 58) + (v1 * (nI 7))) + (nI 2)) 494 ∧ (vp_in (((nI 58) + (v1 * (nI 7))) + (nI 3)) 494 ∧ (vp_in (((nI 58) + (v1 * (nI 7))) + (nI 4)) 494 ∧ (vp_in (((nI 58) + (v1 * (nI 7))) + (nI 5)) 494 ∧ s_X4_post w Dg C d (w ((nI 58) + (v1 * (nI 7))).toNatClampNeg) (w (((nI 58) + (v1 * (nI 7))) + (nI 1)).toNatClampNeg) (w (((nI 58) + (v1 * (nI 7))) + (nI 2)).toNatClampNeg) (w (((nI 58) + (v1 * (nI 7))) + (nI 3)).toNatClampNeg) (w (((nI 58) + (v1 * (nI 7))) + (nI 4)).toNatClampNeg) (w (((nI 58) + (v1 * (nI 7))) + (nI 5)).toNatClampNeg)))))))))
set_option maxRecDepth 100000 in
set_option maxHeartbeats 4000000 in
theorem e_X4_postAgain {G : ng_GG} {hp : (Nat → Int32) → (Nat → Int32) → (Nat → Int32) → (Nat → Int32) → (Nat → Int32) → (Nat → Int32) → (Nat → Int32) → ng_AM} {k : Nat} {a : Nat} {d : Bool} (V : ng_WL hp k a d) {w : Nat → Int32} {Dg : Nat → Int32} {dw : Nat → Int32} {C : Nat → Int32} {off : Nat → Int32} {dear : Nat → Int32} {proved : Nat → Int32}  {v1 : Int32} (h : s_X4_postAgain  w Dg C d v1)  : ng_Ev G md_X4_postAgain 0 [some (.ref k), some (.int v1), none] [] (hp w Dg dw C off dear proved) (K_X4_postAgain hp dw C off dear proved (f_X4_postAgain  w Dg C d v1)) := by
  unfold s_X4_postAgain at h
  unfold f_X4_postAgain
  refine ev_aload_n dX4_postAgain_0 rfl rfl rfl ?_
  refine ev_iload_n dX4_postAgain_1 rfl rfl ?_
  refine bk_callV (As := [.int v1]) (st := []) (st2 := [.int (f_X4_isLetter w v1)]) (M2 := hp w Dg dw C off dear proved) ok_X4_isLetter lk_RX4_30 (ng_rok.of rfl rfl) (WL_gk V) rfl rfl rfl rfl rfl rfl dX4_postAgain_2 (m_X4_isLetter (WL_R V) trivial) rfl rfl ?_
  refine bk_if_eq (tgt := 19) dX4_postAgain_5 (by decide) (fun c5 => ?_) (fun c5 => ?_)
  · refine ev_iconst (v := nI 0) dX4_postAgain_19 (by decide) ?_
    exact ev_iret rfl (by decide) dX4_postAgain_20
  · replace h := h c5
    refine ev_aload_n dX4_postAgain_8 rfl rfl rfl ?_
    refine ev_get 4 0 fl_RX4_11 (WL_gk V) rfl dX4_postAgain_9 ?_
    refine ev_iconst (v := nI 3) dX4_postAgain_12 (by decide) ?_
    refine ev_iald (WL_ga V) (vp_in_nI (by decide) (by decide)) dX4_postAgain_13 ?_
    refine ev_bipush (v := nI 12) dX4_postAgain_14 (by decide) ?_
    refine bk_icmp_lt (tgt := 21) dX4_postAgain_16 (by decide) (fun c16 => ?_) (fun c16 => ?_)
    · replace h := h c16
      refine ev_bipush (v := nI 58) dX4_postAgain_21 (by decide) ?_
      refine ev_iload_n dX4_postAgain_23 rfl rfl ?_
      refine ev_bipush (v := nI 7) dX4_postAgain_24 (by decide) ?_
      refine ev_imul dX4_postAgain_26 ?_
      refine ev_iadd dX4_postAgain_27 ?_
      refine ev_istore_n (L' := [some (.ref k), some (.int v1), some (.int ((nI 58) + (v1 * (nI 7))))]) dX4_postAgain_28 rfl (ng_lt rfl) rfl ?_
      refine ev_aload_n dX4_postAgain_29 rfl rfl rfl ?_
      refine ev_aload_n dX4_postAgain_30 rfl rfl rfl ?_
      refine ev_get 4 0 fl_RX4_11 (WL_gk V) rfl dX4_postAgain_31 ?_
      refine ev_iload_n dX4_postAgain_34 rfl rfl ?_
      have hi35 := h.1
      replace h := h.2
      refine ev_iald (WL_ga V) hi35 dX4_postAgain_35 ?_
      refine ev_aload_n dX4_postAgain_36 rfl rfl rfl ?_
      refine ev_get 4 0 fl_RX4_11 (WL_gk V) rfl dX4_postAgain_37 ?_
      refine ev_iload_n dX4_postAgain_40 rfl rfl ?_
      refine ev_iconst (v := nI 1) dX4_postAgain_41 (by decide) ?_
      refine ev_iadd dX4_postAgain_42 ?_
      have hi43 := h.1
      replace h := h.2
      refine ev_iald (WL_ga V) hi43 dX4_postAgain_43 ?_
      refine ev_aload_n dX4_postAgain_44 rfl rfl rfl ?_
      refine ev_get 4 0 fl_RX4_11 (WL_gk V) rfl dX4_postAgain_45 ?_
      refine ev_iload_n dX4_postAgain_48 rfl rfl ?_
      refine ev_iconst (v := nI 2) dX4_postAgain_49 (by decide) ?_
      refine ev_iadd dX4_postAgain_50 ?_
      have hi51 := h.1
      replace h := h.2
      refine ev_iald (WL_ga V) hi51 dX4_postAgain_51 ?_
      refine ev_aload_n dX4_postAgain_52 rfl rfl rfl ?_
      refine ev_get 4 0 fl_RX4_11 (WL_gk V) rfl dX4_postAgain_53 ?_
      refine ev_iload_n dX4_postAgain_56 rfl rfl ?_
      refine ev_iconst (v := nI 3) dX4_postAgain_57 (by decide) ?_
      refine ev_iadd dX4_postAgain_58 ?_
      have hi59 := h.1
      replace h := h.2
      refine ev_iald (WL_ga V) hi59 dX4_postAgain_59 ?_
      refine ev_aload_n dX4_postAgain_60 rfl rfl rfl ?_
      refine ev_get 4 0 fl_RX4_11 (WL_gk V) rfl dX4_postAgain_61 ?_
      refine ev_iload_n dX4_postAgain_64 rfl rfl ?_
      refine ev_iconst (v := nI 4) dX4_postAgain_65 (by decide) ?_
      refine ev_iadd dX4_postAgain_66 ?_
      have hi67 := h.1
      replace h := h.2
      refine ev_iald (WL_ga V) hi67 dX4_postAgain_67 ?_
      refine ev_aload_n dX4_postAgain_68 rfl rfl rfl ?_
      refine ev_get 4 0 fl_RX4_11 (WL_gk V) rfl dX4_postAgain_69 ?_
      refine ev_iload_n dX4_postAgain_72 rfl rfl ?_
      refine ev_iconst (v := nI 5) dX4_postAgain_73 (by decide) ?_
      refine ev_iadd dX4_postAgain_74 ?_
      have hi75 := h.1
      replace h := h.2
      refine ev_iald (WL_ga V) hi75 dX4_postAgain_75 ?_
      have hs76 := h
      refine bk_callV (As := [.int (w ((nI 58) + (v1 * (nI 7))).toNatClampNeg), .int (w (((nI 58) + (v1 * (nI 7))) + (nI 1)).toNatClampNeg), .int (w (((nI 58) + (v1 * (nI 7))) + (nI 2)).toNatClampNeg), .int (w (((nI 58) + (v1 * (nI 7))) + (nI 3)).toNatClampNeg), .int (w (((nI 58) + (v1 * (nI 7))) + (nI 4)).toNatClampNeg), .int (w (((nI 58) + (v1 * (nI 7))) + (nI 5)).toNatClampNeg)]) (st := []) (st2 := []) (M2 := hp ((f_X4_post w Dg C d (w ((nI 58) + (v1 * (nI 7))).toNatClampNeg) (w (((nI 58) + (v1 * (nI 7))) + (nI 1)).toNatClampNeg) (w (((nI 58) + (v1 * (nI 7))) + (nI 2)).toNatClampNeg) (w (((nI 58) + (v1 * (nI 7))) + (nI 3)).toNatClampNeg) (w (((nI 58) + (v1 * (nI 7))) + (nI 4)).toNatClampNeg) (w (((nI 58) + (v1 * (nI 7))) + (nI 5)).toNatClampNeg)).1) ((f_X4_post w Dg C d (w ((nI 58) + (v1 * (nI 7))).toNatClampNeg) (w (((nI 58) + (v1 * (nI 7))) + (nI 1)).toNatClampNeg) (w (((nI 58) + (v1 * (nI 7))) + (nI 2)).toNatClampNeg) (w (((nI 58) + (v1 * (nI 7))) + (nI 3)).toNatClampNeg) (w (((nI 58) + (v1 * (nI 7))) + (nI 4)).toNatClampNeg) (w (((nI 58) + (v1 * (nI 7))) + (nI 5)).toNatClampNeg)).2) dw C off dear proved) ok_X4_post lk_RX4_54 (ng_rok.of rfl rfl) (WL_gk V) rfl rfl rfl rfl rfl rfl dX4_postAgain_76 (m_X4_post V hs76) rfl rfl ?_
      refine ev_iconst (v := nI 1) dX4_postAgain_79 (by decide) ?_
      exact ev_iret rfl (by decide) dX4_postAgain_80
    · refine ev_iconst (v := nI 0) dX4_postAgain_19 (by decide) ?_
      exact ev_iret rfl (by decide) dX4_postAgain_20
theorem m_X4_postAgain {G : ng_GG} {hp : (Nat → Int32) → (Nat → Int32) → (Nat → Int32) → (Nat → Int32) → (Nat → Int32) → (Nat → Int32) → (Nat → Int32) → ng_AM} {k : Nat} {a : Nat} {d : Bool} (V : ng_WL hp k a d) {w : Nat → Int32} {Dg : Nat → Int32} {dw : Nat → Int32} {C : Nat → Int32} {off : Nat → Int32} {dear : Nat → Int32} {proved : Nat → Int32} {v1 : Int32} (h : s_X4_postAgain w Dg C d v1)  : ng_Ev G md_X4_postAgain 0 (ng_en 3 [.ref k, .int v1]) [] (hp w Dg dw C off dear proved) (K_X4_postAgain hp dw C off dear proved (f_X4_postAgain w Dg C d v1)) := e_X4_postAgain V h 
def K_X4_takeOut (hp : (Nat → Int32) → (Nat → Int32) → (Nat → Int32) → (Nat → Int32) → (Nat → Int32) → (Nat → Int32) → (Nat → Int32) → ng_AM) (Dg : Nat → Int32) (dw : Nat → Int32) (C : Nat → Int32) (off : Nat → Int32) (dear : Nat → Int32) (proved : Nat → Int32) (r : (Nat → Int32)) : ng_RR := (none, hp (r) Dg dw C off dear proved)
def f_X4_takeOut  (w : Nat → Int32) (v1 : Int32) : (Nat → Int32) := (if (f_X4_isLetter w v1) = 0 then w else (upd (va_cpy w w (((nI 58) + (v1 * (nI 7))) + (nI 7)).toNatClampNeg ((nI 58) + (v1 * (nI 7))).toNatClampNeg ((((w (nI 3).toNatClampNeg) - (nI 1)) - v1) * (nI 7)).toNatClampNeg) (nI 3).toNatClampNeg (((va_cpy w w (((nI 58) + (v1 * (nI 7))) + (nI 7)).toNatClampNeg ((nI 58) + (v1 * (nI 7))).toNatClampNeg ((((w (nI 3).toNatClampNeg) - (nI 1)) - v1) * (nI 7)).toNatClampNeg) (nI 3).toNatClampNeg) - (nI 1))))
def s_X4_takeOut  (w : Nat → Int32) (v1 : Int32) : Prop := (¬ (f_X4_isLetter w v1) = 0 → (¬ (((nI 58) + (v1 * (nI 7))) + (nI 7)) < 0 ∧ ¬ ((nI 58) + (v1 * (nI 7))) < 0 ∧ ¬ ((((w (nI 3).toNatClampNeg) - (nI 1)) - v1) * (nI 7)) < 0 ∧ (((nI 58) + (v1 * (nI 7))) + (nI 7)).toNatClampNeg + ((((w (nI 3).toNatClampNeg) - (nI 1)) - v1) * (nI 7)).toNatClampNeg ≤ 494 ∧ ((nI 58) + (v1 * (nI 7))).toNatClampNeg + ((((w (nI 3).toNatClampNeg) - (nI 1)) - v1) * (nI 7)).toNatClampNeg ≤ 494))
set_option maxRecDepth 100000 in
set_option maxHeartbeats 4000000 in
theorem e_X4_takeOut {G : ng_GG} {hp : (Nat → Int32) → (Nat → Int32) → (Nat → Int32) → (Nat → Int32) → (Nat → Int32) → (Nat → Int32) → (Nat → Int32) → ng_AM} {k : Nat} {a : Nat} {d : Bool} (V : ng_WL hp k a d) {w : Nat → Int32} {Dg : Nat → Int32} {dw : Nat → Int32} {C : Nat → Int32} {off : Nat → Int32} {dear : Nat → Int32} {proved : Nat → Int32}  {v1 : Int32} (h : s_X4_takeOut  w v1)  : ng_Ev G md_X4_takeOut 0 [some (.ref k), some (.int v1), none, none] [] (hp w Dg dw C off dear proved) (K_X4_takeOut hp Dg dw C off dear proved (f_X4_takeOut  w v1)) := by
  unfold s_X4_takeOut at h
  unfold f_X4_takeOut
  refine ev_aload_n dX4_takeOut_0 rfl rfl rfl ?_
  refine ev_iload_n dX4_takeOut_1 rfl rfl ?_
  refine bk_callV (As := [.int v1]) (st := []) (st2 := [.int (f_X4_isLetter w v1)]) (M2 := hp w Dg dw C off dear proved) ok_X4_isLetter lk_RX4_30 (ng_rok.of rfl rfl) (WL_gk V) rfl rfl rfl rfl rfl rfl dX4_takeOut_2 (m_X4_isLetter (WL_R V) trivial) rfl rfl ?_
  refine bk_if_ne (tgt := 9) dX4_takeOut_5 (by decide) (fun c5 => ?_) (fun c5 => ?_)
  · replace h := h c5
    refine ev_bipush (v := nI 58) dX4_takeOut_9 (by decide) ?_
    refine ev_iload_n dX4_takeOut_11 rfl rfl ?_
    refine ev_bipush (v := nI 7) dX4_takeOut_12 (by decide) ?_
    refine ev_imul dX4_takeOut_14 ?_
    refine ev_iadd dX4_takeOut_15 ?_
    refine ev_istore_n (L' := [some (.ref k), some (.int v1), some (.int ((nI 58) + (v1 * (nI 7)))), none]) dX4_takeOut_16 rfl (ng_lt rfl) rfl ?_
    refine ev_aload_n dX4_takeOut_17 rfl rfl rfl ?_
    refine ev_get 4 0 fl_RX4_11 (WL_gk V) rfl dX4_takeOut_18 ?_
    refine ev_iconst (v := nI 3) dX4_takeOut_21 (by decide) ?_
    refine ev_iald (WL_ga V) (vp_in_nI (by decide) (by decide)) dX4_takeOut_22 ?_
    refine ev_iconst (v := nI 1) dX4_takeOut_23 (by decide) ?_
    refine ev_isub dX4_takeOut_24 ?_
    refine ev_iload_n dX4_takeOut_25 rfl rfl ?_
    refine ev_isub dX4_takeOut_26 ?_
    refine ev_bipush (v := nI 7) dX4_takeOut_27 (by decide) ?_
    refine ev_imul dX4_takeOut_29 ?_
    refine ev_istore_n (L' := [some (.ref k), some (.int v1), some (.int ((nI 58) + (v1 * (nI 7)))), some (.int ((((w (nI 3).toNatClampNeg) - (nI 1)) - v1) * (nI 7)))]) dX4_takeOut_30 rfl (ng_lt rfl) rfl ?_
    refine ev_aload_n dX4_takeOut_31 rfl rfl rfl ?_
    refine ev_get 4 0 fl_RX4_11 (WL_gk V) rfl dX4_takeOut_32 ?_
    refine ev_iload_n dX4_takeOut_35 rfl rfl ?_
    refine ev_bipush (v := nI 7) dX4_takeOut_36 (by decide) ?_
    refine ev_iadd dX4_takeOut_38 ?_
    refine ev_aload_n dX4_takeOut_39 rfl rfl rfl ?_
    refine ev_get 4 0 fl_RX4_11 (WL_gk V) rfl dX4_takeOut_40 ?_
    refine ev_iload_n dX4_takeOut_43 rfl rfl ?_
    refine ev_iload_n dX4_takeOut_44 rfl rfl ?_
    have ha45 := h
    refine ev_copyi lk_RX4_58 (WL_ga V) (WL_ga V) ha45.1 ha45.2.1 ha45.2.2.1 ha45.2.2.2.1 ha45.2.2.2.2 (Nat.le_of_ble_eq_true rfl) (Nat.le_of_ble_eq_true rfl) (WL_sa V) dX4_takeOut_45 ?_
    refine ev_aload_n dX4_takeOut_48 rfl rfl rfl ?_
    refine ev_get 4 0 fl_RX4_11 (WL_gk V) rfl dX4_takeOut_49 ?_
    refine ev_iconst (v := nI 3) dX4_takeOut_52 (by decide) ?_
    refine ev_dup2 dX4_takeOut_53 rfl rfl ?_
    refine ev_iald (WL_ga V) (vp_in_nI (by decide) (by decide)) dX4_takeOut_54 ?_
    refine ev_iconst (v := nI 1) dX4_takeOut_55 (by decide) ?_
    refine ev_isub dX4_takeOut_56 ?_
    refine ev_iast (WL_ga V) (vp_in_nI (by decide) (by decide)) (WL_sa V) dX4_takeOut_57 ?_
    exact ev_vret rfl dX4_takeOut_58
  · exact ev_vret rfl dX4_takeOut_8
theorem m_X4_takeOut {G : ng_GG} {hp : (Nat → Int32) → (Nat → Int32) → (Nat → Int32) → (Nat → Int32) → (Nat → Int32) → (Nat → Int32) → (Nat → Int32) → ng_AM} {k : Nat} {a : Nat} {d : Bool} (V : ng_WL hp k a d) {w : Nat → Int32} {Dg : Nat → Int32} {dw : Nat → Int32} {C : Nat → Int32} {off : Nat → Int32} {dear : Nat → Int32} {proved : Nat → Int32} {v1 : Int32} (h : s_X4_takeOut w v1)  : ng_Ev G md_X4_takeOut 0 (ng_en 4 [.ref k, .int v1]) [] (hp w Dg dw C off dear proved) (K_X4_takeOut hp Dg dw C off dear proved (f_X4_takeOut w v1)) := e_X4_takeOut V h 
def K_X4_beginFamily (hp : (Nat → Int32) → (Nat → Int32) → (Nat → Int32) → (Nat → Int32) → (Nat → Int32) → (Nat → Int32) → (Nat → Int32) → ng_AM) (Dg : Nat → Int32) (dw : Nat → Int32) (C : Nat → Int32) (off : Nat → Int32) (dear : Nat → Int32) (proved : Nat → Int32) (r : (Nat → Int32) × Int32) : ng_RR := (some (.int (r.2)), hp (r.1) Dg dw C off dear proved)
def f_X4_beginFamily  (w : Nat → Int32) (v1 : Int32) : (Nat → Int32) × Int32 := (if (w (nI 2).toNatClampNeg) < 0 then (w, (-1)) else (if (w (nI 2).toNatClampNeg) < (nI 16) then ((upd (upd (upd w (((nI 26) + ((w (nI 2).toNatClampNeg) * (nI 2))) + (nI 0)).toNatClampNeg v1) (((nI 26) + ((w (nI 2).toNatClampNeg) * (nI 2))) + (nI 1)).toNatClampNeg (-1)) (nI 2).toNatClampNeg ((w (nI 2).toNatClampNeg) + (nI 1))), (w (nI 2).toNatClampNeg)) else (w, (-1))))
def s_X4_beginFamily  (w : Nat → Int32) (v1 : Int32) : Prop := (¬ (w (nI 2).toNatClampNeg) < 0 → ((w (nI 2).toNatClampNeg) < (nI 16) → (vp_in (((nI 26) + ((w (nI 2).toNatClampNeg) * (nI 2))) + (nI 0)) 494 ∧ vp_in (((nI 26) + ((w (nI 2).toNatClampNeg) * (nI 2))) + (nI 1)) 494)))
set_option maxRecDepth 100000 in
set_option maxHeartbeats 4000000 in
theorem e_X4_beginFamily {G : ng_GG} {hp : (Nat → Int32) → (Nat → Int32) → (Nat → Int32) → (Nat → Int32) → (Nat → Int32) → (Nat → Int32) → (Nat → Int32) → ng_AM} {k : Nat} {a : Nat} {d : Bool} (V : ng_WL hp k a d) {w : Nat → Int32} {Dg : Nat → Int32} {dw : Nat → Int32} {C : Nat → Int32} {off : Nat → Int32} {dear : Nat → Int32} {proved : Nat → Int32}  {v1 : Int32} (h : s_X4_beginFamily  w v1)  : ng_Ev G md_X4_beginFamily 0 [some (.ref k), some (.int v1), none] [] (hp w Dg dw C off dear proved) (K_X4_beginFamily hp Dg dw C off dear proved (f_X4_beginFamily  w v1)) := by
  unfold s_X4_beginFamily at h
  unfold f_X4_beginFamily
  refine ev_aload_n dX4_beginFamily_0 rfl rfl rfl ?_
  refine ev_get 4 0 fl_RX4_11 (WL_gk V) rfl dX4_beginFamily_1 ?_
  refine ev_iconst (v := nI 2) dX4_beginFamily_4 (by decide) ?_
  refine ev_iald (WL_ga V) (vp_in_nI (by decide) (by decide)) dX4_beginFamily_5 ?_
  refine ev_istore_n (L' := [some (.ref k), some (.int v1), some (.int (w (nI 2).toNatClampNeg))]) dX4_beginFamily_6 rfl (ng_lt rfl) rfl ?_
  refine ev_iload_n dX4_beginFamily_7 rfl rfl ?_
  refine bk_if_lt (tgt := 17) dX4_beginFamily_8 (by decide) (fun c8 => ?_) (fun c8 => ?_)
  · refine ev_iconst (v := (-1)) dX4_beginFamily_17 (by decide) ?_
    exact ev_iret rfl rfl dX4_beginFamily_18
  · replace h := h c8
    refine ev_iload_n dX4_beginFamily_11 rfl rfl ?_
    refine ev_bipush (v := nI 16) dX4_beginFamily_12 (by decide) ?_
    refine bk_icmp_lt (tgt := 19) dX4_beginFamily_14 (by decide) (fun c14 => ?_) (fun c14 => ?_)
    · replace h := h c14
      refine ev_aload_n dX4_beginFamily_19 rfl rfl rfl ?_
      refine ev_get 4 0 fl_RX4_11 (WL_gk V) rfl dX4_beginFamily_20 ?_
      refine ev_bipush (v := nI 26) dX4_beginFamily_23 (by decide) ?_
      refine ev_iload_n dX4_beginFamily_25 rfl rfl ?_
      refine ev_iconst (v := nI 2) dX4_beginFamily_26 (by decide) ?_
      refine ev_imul dX4_beginFamily_27 ?_
      refine ev_iadd dX4_beginFamily_28 ?_
      refine ev_iconst (v := nI 0) dX4_beginFamily_29 (by decide) ?_
      refine ev_iadd dX4_beginFamily_30 ?_
      refine ev_iload_n dX4_beginFamily_31 rfl rfl ?_
      have hi32 := h.1
      replace h := h.2
      refine ev_iast (WL_ga V) hi32 (WL_sa V) dX4_beginFamily_32 ?_
      refine ev_aload_n dX4_beginFamily_33 rfl rfl rfl ?_
      refine ev_get 4 0 fl_RX4_11 (WL_gk V) rfl dX4_beginFamily_34 ?_
      refine ev_bipush (v := nI 26) dX4_beginFamily_37 (by decide) ?_
      refine ev_iload_n dX4_beginFamily_39 rfl rfl ?_
      refine ev_iconst (v := nI 2) dX4_beginFamily_40 (by decide) ?_
      refine ev_imul dX4_beginFamily_41 ?_
      refine ev_iadd dX4_beginFamily_42 ?_
      refine ev_iconst (v := nI 1) dX4_beginFamily_43 (by decide) ?_
      refine ev_iadd dX4_beginFamily_44 ?_
      refine ev_iconst (v := (-1)) dX4_beginFamily_45 (by decide) ?_
      have hi46 := h
      refine ev_iast (WL_ga V) hi46 (WL_sa V) dX4_beginFamily_46 ?_
      refine ev_aload_n dX4_beginFamily_47 rfl rfl rfl ?_
      refine ev_get 4 0 fl_RX4_11 (WL_gk V) rfl dX4_beginFamily_48 ?_
      refine ev_iconst (v := nI 2) dX4_beginFamily_51 (by decide) ?_
      refine ev_iload_n dX4_beginFamily_52 rfl rfl ?_
      refine ev_iconst (v := nI 1) dX4_beginFamily_53 (by decide) ?_
      refine ev_iadd dX4_beginFamily_54 ?_
      refine ev_iast (WL_ga V) (vp_in_nI (by decide) (by decide)) (WL_sa V) dX4_beginFamily_55 ?_
      refine ev_iload_n dX4_beginFamily_56 rfl rfl ?_
      exact ev_iret rfl rfl dX4_beginFamily_57
    · refine ev_iconst (v := (-1)) dX4_beginFamily_17 (by decide) ?_
      exact ev_iret rfl rfl dX4_beginFamily_18
theorem m_X4_beginFamily {G : ng_GG} {hp : (Nat → Int32) → (Nat → Int32) → (Nat → Int32) → (Nat → Int32) → (Nat → Int32) → (Nat → Int32) → (Nat → Int32) → ng_AM} {k : Nat} {a : Nat} {d : Bool} (V : ng_WL hp k a d) {w : Nat → Int32} {Dg : Nat → Int32} {dw : Nat → Int32} {C : Nat → Int32} {off : Nat → Int32} {dear : Nat → Int32} {proved : Nat → Int32} {v1 : Int32} (h : s_X4_beginFamily w v1)  : ng_Ev G md_X4_beginFamily 0 (ng_en 3 [.ref k, .int v1]) [] (hp w Dg dw C off dear proved) (K_X4_beginFamily hp Dg dw C off dear proved (f_X4_beginFamily w v1)) := e_X4_beginFamily V h 
def K_X4_addNoteLike (hp : (Nat → Int32) → (Nat → Int32) → (Nat → Int32) → (Nat → Int32) → (Nat → Int32) → (Nat → Int32) → (Nat → Int32) → ng_AM) (Dg : Nat → Int32) (dw : Nat → Int32) (C : Nat → Int32) (off : Nat → Int32) (dear : Nat → Int32) (proved : Nat → Int32) (r : (Nat → Int32) × Int32) : ng_RR := (some (.int (r.2)), hp (r.1) Dg dw C off dear proved)
def f_X4_addNoteLike_182  (w : Nat → Int32) (v4 : Int32) (v5 : Int32) : (Nat → Int32) × Int32 := ((upd (upd (upd (upd w (v5 + (nI 8)).toNatClampNeg (-1)) (v5 + (nI 9)).toNatClampNeg (nI 0)) (v5 + (nI 10)).toNatClampNeg (nI 0)) (nI 1).toNatClampNeg (v4 + (nI 1))), v4)
def s_X4_addNoteLike_182  (w : Nat → Int32) (v4 : Int32) (v5 : Int32) : Prop := (vp_in (v5 + (nI 8)) 494 ∧ (vp_in (v5 + (nI 9)) 494 ∧ vp_in (v5 + (nI 10)) 494))
set_option maxRecDepth 100000 in
set_option maxHeartbeats 4000000 in
theorem e_X4_addNoteLike_182 {G : ng_GG} {hp : (Nat → Int32) → (Nat → Int32) → (Nat → Int32) → (Nat → Int32) → (Nat → Int32) → (Nat → Int32) → (Nat → Int32) → ng_AM} {k : Nat} {a : Nat} {d : Bool} (V : ng_WL hp k a d) {w : Nat → Int32} {Dg : Nat → Int32} {dw : Nat → Int32} {C : Nat → Int32} {off : Nat → Int32} {dear : Nat → Int32} {proved : Nat → Int32}  {v4 : Int32} {v5 : Int32} (h : s_X4_addNoteLike_182  w v4 v5)  : ng_Ev G md_X4_addNoteLike 182 [some (.ref k), none, none, none, some (.int v4), some (.int v5), none] [] (hp w Dg dw C off dear proved) (K_X4_addNoteLike hp Dg dw C off dear proved (f_X4_addNoteLike_182  w v4 v5)) := by
  unfold s_X4_addNoteLike_182 at h
  unfold f_X4_addNoteLike_182
  refine ev_aload_n dX4_addNoteLike_182 rfl rfl rfl ?_
  refine ev_get 4 0 fl_RX4_11 (WL_gk V) rfl dX4_addNoteLike_183 ?_
  refine ev_iload dX4_addNoteLike_186 rfl ?_
  refine ev_bipush (v := nI 8) dX4_addNoteLike_188 (by decide) ?_
  refine ev_iadd dX4_addNoteLike_190 ?_
  refine ev_iconst (v := (-1)) dX4_addNoteLike_191 (by decide) ?_
  have hi192 := h.1
  replace h := h.2
  refine ev_iast (WL_ga V) hi192 (WL_sa V) dX4_addNoteLike_192 ?_
  refine ev_aload_n dX4_addNoteLike_193 rfl rfl rfl ?_
  refine ev_get 4 0 fl_RX4_11 (WL_gk V) rfl dX4_addNoteLike_194 ?_
  refine ev_iload dX4_addNoteLike_197 rfl ?_
  refine ev_bipush (v := nI 9) dX4_addNoteLike_199 (by decide) ?_
  refine ev_iadd dX4_addNoteLike_201 ?_
  refine ev_iconst (v := nI 0) dX4_addNoteLike_202 (by decide) ?_
  have hi203 := h.1
  replace h := h.2
  refine ev_iast (WL_ga V) hi203 (WL_sa V) dX4_addNoteLike_203 ?_
  refine ev_aload_n dX4_addNoteLike_204 rfl rfl rfl ?_
  refine ev_get 4 0 fl_RX4_11 (WL_gk V) rfl dX4_addNoteLike_205 ?_
  refine ev_iload dX4_addNoteLike_208 rfl ?_
  refine ev_bipush (v := nI 10) dX4_addNoteLike_210 (by decide) ?_
  refine ev_iadd dX4_addNoteLike_212 ?_
  refine ev_iconst (v := nI 0) dX4_addNoteLike_213 (by decide) ?_
  have hi214 := h
  refine ev_iast (WL_ga V) hi214 (WL_sa V) dX4_addNoteLike_214 ?_
  refine ev_aload_n dX4_addNoteLike_215 rfl rfl rfl ?_
  refine ev_get 4 0 fl_RX4_11 (WL_gk V) rfl dX4_addNoteLike_216 ?_
  refine ev_iconst (v := nI 1) dX4_addNoteLike_219 (by decide) ?_
  refine ev_iload dX4_addNoteLike_220 rfl ?_
  refine ev_iconst (v := nI 1) dX4_addNoteLike_222 (by decide) ?_
  refine ev_iadd dX4_addNoteLike_223 ?_
  refine ev_iast (WL_ga V) (vp_in_nI (by decide) (by decide)) (WL_sa V) dX4_addNoteLike_224 ?_
  refine ev_iload dX4_addNoteLike_225 rfl ?_
  exact ev_iret rfl rfl dX4_addNoteLike_227
def f_X4_addNoteLike_99  (w : Nat → Int32) (v3 : Int32) (v4 : Int32) (v5 : Int32) (v6 : Int32) : (Nat → Int32) × Int32 := f_X4_addNoteLike_182 (upd (upd (upd (upd (upd w (v5 + (nI 3)).toNatClampNeg (w (v6 + (nI 3)).toNatClampNeg)) (v5 + (nI 4)).toNatClampNeg ((upd w (v5 + (nI 3)).toNatClampNeg (w (v6 + (nI 3)).toNatClampNeg)) (nI 0).toNatClampNeg)) (v5 + (nI 5)).toNatClampNeg v3) (v5 + (nI 6)).toNatClampNeg ((upd (upd (upd w (v5 + (nI 3)).toNatClampNeg (w (v6 + (nI 3)).toNatClampNeg)) (v5 + (nI 4)).toNatClampNeg ((upd w (v5 + (nI 3)).toNatClampNeg (w (v6 + (nI 3)).toNatClampNeg)) (nI 0).toNatClampNeg)) (v5 + (nI 5)).toNatClampNeg v3) (v6 + (nI 6)).toNatClampNeg)) (v5 + (nI 7)).toNatClampNeg ((upd (upd (upd (upd w (v5 + (nI 3)).toNatClampNeg (w (v6 + (nI 3)).toNatClampNeg)) (v5 + (nI 4)).toNatClampNeg ((upd w (v5 + (nI 3)).toNatClampNeg (w (v6 + (nI 3)).toNatClampNeg)) (nI 0).toNatClampNeg)) (v5 + (nI 5)).toNatClampNeg v3) (v5 + (nI 6)).toNatClampNeg ((upd (upd (upd w (v5 + (nI 3)).toNatClampNeg (w (v6 + (nI 3)).toNatClampNeg)) (v5 + (nI 4)).toNatClampNeg ((upd w (v5 + (nI 3)).toNatClampNeg (w (v6 + (nI 3)).toNatClampNeg)) (nI 0).toNatClampNeg)) (v5 + (nI 5)).toNatClampNeg v3) (v6 + (nI 6)).toNatClampNeg)) (v6 + (nI 7)).toNatClampNeg)) v4 v5
def s_X4_addNoteLike_99  (w : Nat → Int32) (v3 : Int32) (v4 : Int32) (v5 : Int32) (v6 : Int32) : Prop := (vp_in (v6 + (nI 3)) 494 ∧ (vp_in (v5 + (nI 3)) 494 ∧ (vp_in (v5 + (nI 4)) 494 ∧ (vp_in (v5 + (nI 5)) 494 ∧ (vp_in (v6 + (nI 6)) 494 ∧ (vp_in (v5 + (nI 6)) 494 ∧ (vp_in (v6 + (nI 7)) 494 ∧ (vp_in (v5 + (nI 7)) 494 ∧ s_X4_addNoteLike_182 (upd (upd (upd (upd (upd w (v5 + (nI 3)).toNatClampNeg (w (v6 + (nI 3)).toNatClampNeg)) (v5 + (nI 4)).toNatClampNeg ((upd w (v5 + (nI 3)).toNatClampNeg (w (v6 + (nI 3)).toNatClampNeg)) (nI 0).toNatClampNeg)) (v5 + (nI 5)).toNatClampNeg v3) (v5 + (nI 6)).toNatClampNeg ((upd (upd (upd w (v5 + (nI 3)).toNatClampNeg (w (v6 + (nI 3)).toNatClampNeg)) (v5 + (nI 4)).toNatClampNeg ((upd w (v5 + (nI 3)).toNatClampNeg (w (v6 + (nI 3)).toNatClampNeg)) (nI 0).toNatClampNeg)) (v5 + (nI 5)).toNatClampNeg v3) (v6 + (nI 6)).toNatClampNeg)) (v5 + (nI 7)).toNatClampNeg ((upd (upd (upd (upd w (v5 + (nI 3)).toNatClampNeg (w (v6 + (nI 3)).toNatClampNeg)) (v5 + (nI 4)).toNatClampNeg ((upd w (v5 + (nI 3)).toNatClampNeg (w (v6 + (nI 3)).toNatClampNeg)) (nI 0).toNatClampNeg)) (v5 + (nI 5)).toNatClampNeg v3) (v5 + (nI 6)).toNatClampNeg ((upd (upd (upd w (v5 + (nI 3)).toNatClampNeg (w (v6 + (nI 3)).toNatClampNeg)) (v5 + (nI 4)).toNatClampNeg ((upd w (v5 + (nI 3)).toNatClampNeg (w (v6 + (nI 3)).toNatClampNeg)) (nI 0).toNatClampNeg)) (v5 + (nI 5)).toNatClampNeg v3) (v6 + (nI 6)).toNatClampNeg)) (v6 + (nI 7)).toNatClampNeg)) v4 v5))))))))
set_option maxRecDepth 100000 in
set_option maxHeartbeats 4000000 in
theorem e_X4_addNoteLike_99 {G : ng_GG} {hp : (Nat → Int32) → (Nat → Int32) → (Nat → Int32) → (Nat → Int32) → (Nat → Int32) → (Nat → Int32) → (Nat → Int32) → ng_AM} {k : Nat} {a : Nat} {d : Bool} (V : ng_WL hp k a d) {w : Nat → Int32} {Dg : Nat → Int32} {dw : Nat → Int32} {C : Nat → Int32} {off : Nat → Int32} {dear : Nat → Int32} {proved : Nat → Int32}  {v3 : Int32} {v4 : Int32} {v5 : Int32} {v6 : Int32} (h : s_X4_addNoteLike_99  w v3 v4 v5 v6)  : ng_Ev G md_X4_addNoteLike 99 [some (.ref k), none, none, some (.int v3), some (.int v4), some (.int v5), some (.int v6)] [] (hp w Dg dw C off dear proved) (K_X4_addNoteLike hp Dg dw C off dear proved (f_X4_addNoteLike_99  w v3 v4 v5 v6)) := by
  unfold s_X4_addNoteLike_99 at h
  unfold f_X4_addNoteLike_99
  refine ev_aload_n dX4_addNoteLike_99 rfl rfl rfl ?_
  refine ev_get 4 0 fl_RX4_11 (WL_gk V) rfl dX4_addNoteLike_100 ?_
  refine ev_iload dX4_addNoteLike_103 rfl ?_
  refine ev_iconst (v := nI 3) dX4_addNoteLike_105 (by decide) ?_
  refine ev_iadd dX4_addNoteLike_106 ?_
  refine ev_aload_n dX4_addNoteLike_107 rfl rfl rfl ?_
  refine ev_get 4 0 fl_RX4_11 (WL_gk V) rfl dX4_addNoteLike_108 ?_
  refine ev_iload dX4_addNoteLike_111 rfl ?_
  refine ev_iconst (v := nI 3) dX4_addNoteLike_113 (by decide) ?_
  refine ev_iadd dX4_addNoteLike_114 ?_
  have hi115 := h.1
  replace h := h.2
  refine ev_iald (WL_ga V) hi115 dX4_addNoteLike_115 ?_
  have hi116 := h.1
  replace h := h.2
  refine ev_iast (WL_ga V) hi116 (WL_sa V) dX4_addNoteLike_116 ?_
  refine ev_aload_n dX4_addNoteLike_117 rfl rfl rfl ?_
  refine ev_get 4 0 fl_RX4_11 (WL_gk V) rfl dX4_addNoteLike_118 ?_
  refine ev_iload dX4_addNoteLike_121 rfl ?_
  refine ev_iconst (v := nI 4) dX4_addNoteLike_123 (by decide) ?_
  refine ev_iadd dX4_addNoteLike_124 ?_
  refine ev_aload_n dX4_addNoteLike_125 rfl rfl rfl ?_
  refine ev_get 4 0 fl_RX4_11 (WL_gk V) rfl dX4_addNoteLike_126 ?_
  refine ev_iconst (v := nI 0) dX4_addNoteLike_129 (by decide) ?_
  refine ev_iald (WL_ga V) (vp_in_nI (by decide) (by decide)) dX4_addNoteLike_130 ?_
  have hi131 := h.1
  replace h := h.2
  refine ev_iast (WL_ga V) hi131 (WL_sa V) dX4_addNoteLike_131 ?_
  refine ev_aload_n dX4_addNoteLike_132 rfl rfl rfl ?_
  refine ev_get 4 0 fl_RX4_11 (WL_gk V) rfl dX4_addNoteLike_133 ?_
  refine ev_iload dX4_addNoteLike_136 rfl ?_
  refine ev_iconst (v := nI 5) dX4_addNoteLike_138 (by decide) ?_
  refine ev_iadd dX4_addNoteLike_139 ?_
  refine ev_iload_n dX4_addNoteLike_140 rfl rfl ?_
  have hi141 := h.1
  replace h := h.2
  refine ev_iast (WL_ga V) hi141 (WL_sa V) dX4_addNoteLike_141 ?_
  refine ev_aload_n dX4_addNoteLike_142 rfl rfl rfl ?_
  refine ev_get 4 0 fl_RX4_11 (WL_gk V) rfl dX4_addNoteLike_143 ?_
  refine ev_iload dX4_addNoteLike_146 rfl ?_
  refine ev_bipush (v := nI 6) dX4_addNoteLike_148 (by decide) ?_
  refine ev_iadd dX4_addNoteLike_150 ?_
  refine ev_aload_n dX4_addNoteLike_151 rfl rfl rfl ?_
  refine ev_get 4 0 fl_RX4_11 (WL_gk V) rfl dX4_addNoteLike_152 ?_
  refine ev_iload dX4_addNoteLike_155 rfl ?_
  refine ev_bipush (v := nI 6) dX4_addNoteLike_157 (by decide) ?_
  refine ev_iadd dX4_addNoteLike_159 ?_
  have hi160 := h.1
  replace h := h.2
  refine ev_iald (WL_ga V) hi160 dX4_addNoteLike_160 ?_
  have hi161 := h.1
  replace h := h.2
  refine ev_iast (WL_ga V) hi161 (WL_sa V) dX4_addNoteLike_161 ?_
  refine ev_aload_n dX4_addNoteLike_162 rfl rfl rfl ?_
  refine ev_get 4 0 fl_RX4_11 (WL_gk V) rfl dX4_addNoteLike_163 ?_
  refine ev_iload dX4_addNoteLike_166 rfl ?_
  refine ev_bipush (v := nI 7) dX4_addNoteLike_168 (by decide) ?_
  refine ev_iadd dX4_addNoteLike_170 ?_
  refine ev_aload_n dX4_addNoteLike_171 rfl rfl rfl ?_
  refine ev_get 4 0 fl_RX4_11 (WL_gk V) rfl dX4_addNoteLike_172 ?_
  refine ev_iload dX4_addNoteLike_175 rfl ?_
  refine ev_bipush (v := nI 7) dX4_addNoteLike_177 (by decide) ?_
  refine ev_iadd dX4_addNoteLike_179 ?_
  have hi180 := h.1
  replace h := h.2
  refine ev_iald (WL_ga V) hi180 dX4_addNoteLike_180 ?_
  have hi181 := h.1
  replace h := h.2
  refine ev_iast (WL_ga V) hi181 (WL_sa V) dX4_addNoteLike_181 ?_
  exact ev_sub (e_X4_addNoteLike_182 V h) (sub_s (sub_n (sub_n (sub_n (sub_s (sub_s (sub_n sub_e)))))))
def f_X4_addNoteLike  (w : Nat → Int32) (v1 : Int32) (v2 : Int32) (v3 : Int32) : (Nat → Int32) × Int32 := (if (w (nI 1).toNatClampNeg) < 0 then (w, (-1)) else (if (nI 32) ≤ (w (nI 1).toNatClampNeg) then (w, (-1)) else (if v1 < 0 then (w, (-1)) else (if v1 < (nI 32) then f_X4_addNoteLike_99 (upd (upd (upd w (((nI 142) + ((w (nI 1).toNatClampNeg) * (nI 11))) + (nI 0)).toNatClampNeg v2) (((nI 142) + ((w (nI 1).toNatClampNeg) * (nI 11))) + (nI 1)).toNatClampNeg ((upd w (((nI 142) + ((w (nI 1).toNatClampNeg) * (nI 11))) + (nI 0)).toNatClampNeg v2) (((nI 142) + (v1 * (nI 11))) + (nI 1)).toNatClampNeg)) (((nI 142) + ((w (nI 1).toNatClampNeg) * (nI 11))) + (nI 2)).toNatClampNeg ((upd (upd w (((nI 142) + ((w (nI 1).toNatClampNeg) * (nI 11))) + (nI 0)).toNatClampNeg v2) (((nI 142) + ((w (nI 1).toNatClampNeg) * (nI 11))) + (nI 1)).toNatClampNeg ((upd w (((nI 142) + ((w (nI 1).toNatClampNeg) * (nI 11))) + (nI 0)).toNatClampNeg v2) (((nI 142) + (v1 * (nI 11))) + (nI 1)).toNatClampNeg)) (((nI 142) + (v1 * (nI 11))) + (nI 2)).toNatClampNeg)) v3 (w (nI 1).toNatClampNeg) ((nI 142) + ((w (nI 1).toNatClampNeg) * (nI 11))) ((nI 142) + (v1 * (nI 11))) else (w, (-1))))))
def s_X4_addNoteLike  (w : Nat → Int32) (v1 : Int32) (v2 : Int32) (v3 : Int32) : Prop := (¬ (w (nI 1).toNatClampNeg) < 0 → (¬ (nI 32) ≤ (w (nI 1).toNatClampNeg) → (¬ v1 < 0 → (v1 < (nI 32) → (vp_in (((nI 142) + ((w (nI 1).toNatClampNeg) * (nI 11))) + (nI 0)) 494 ∧ (vp_in (((nI 142) + (v1 * (nI 11))) + (nI 1)) 494 ∧ (vp_in (((nI 142) + ((w (nI 1).toNatClampNeg) * (nI 11))) + (nI 1)) 494 ∧ (vp_in (((nI 142) + (v1 * (nI 11))) + (nI 2)) 494 ∧ (vp_in (((nI 142) + ((w (nI 1).toNatClampNeg) * (nI 11))) + (nI 2)) 494 ∧ s_X4_addNoteLike_99 (upd (upd (upd w (((nI 142) + ((w (nI 1).toNatClampNeg) * (nI 11))) + (nI 0)).toNatClampNeg v2) (((nI 142) + ((w (nI 1).toNatClampNeg) * (nI 11))) + (nI 1)).toNatClampNeg ((upd w (((nI 142) + ((w (nI 1).toNatClampNeg) * (nI 11))) + (nI 0)).toNatClampNeg v2) (((nI 142) + (v1 * (nI 11))) + (nI 1)).toNatClampNeg)) (((nI 142) + ((w (nI 1).toNatClampNeg) * (nI 11))) + (nI 2)).toNatClampNeg ((upd (upd w (((nI 142) + ((w (nI 1).toNatClampNeg) * (nI 11))) + (nI 0)).toNatClampNeg v2) (((nI 142) + ((w (nI 1).toNatClampNeg) * (nI 11))) + (nI 1)).toNatClampNeg ((upd w (((nI 142) + ((w (nI 1).toNatClampNeg) * (nI 11))) + (nI 0)).toNatClampNeg v2) (((nI 142) + (v1 * (nI 11))) + (nI 1)).toNatClampNeg)) (((nI 142) + (v1 * (nI 11))) + (nI 2)).toNatClampNeg)) v3 (w (nI 1).toNatClampNeg) ((nI 142) + ((w (nI 1).toNatClampNeg) * (nI 11))) ((nI 142) + (v1 * (nI 11))))))))))))
set_option maxRecDepth 100000 in
set_option maxHeartbeats 4000000 in
theorem e_X4_addNoteLike {G : ng_GG} {hp : (Nat → Int32) → (Nat → Int32) → (Nat → Int32) → (Nat → Int32) → (Nat → Int32) → (Nat → Int32) → (Nat → Int32) → ng_AM} {k : Nat} {a : Nat} {d : Bool} (V : ng_WL hp k a d) {w : Nat → Int32} {Dg : Nat → Int32} {dw : Nat → Int32} {C : Nat → Int32} {off : Nat → Int32} {dear : Nat → Int32} {proved : Nat → Int32}  {v1 : Int32} {v2 : Int32} {v3 : Int32} (h : s_X4_addNoteLike  w v1 v2 v3)  : ng_Ev G md_X4_addNoteLike 0 [some (.ref k), some (.int v1), some (.int v2), some (.int v3), none, none, none] [] (hp w Dg dw C off dear proved) (K_X4_addNoteLike hp Dg dw C off dear proved (f_X4_addNoteLike  w v1 v2 v3)) := by
  unfold s_X4_addNoteLike at h
  unfold f_X4_addNoteLike
  refine ev_aload_n dX4_addNoteLike_0 rfl rfl rfl ?_
  refine ev_get 4 0 fl_RX4_11 (WL_gk V) rfl dX4_addNoteLike_1 ?_
  refine ev_iconst (v := nI 1) dX4_addNoteLike_4 (by decide) ?_
  refine ev_iald (WL_ga V) (vp_in_nI (by decide) (by decide)) dX4_addNoteLike_5 ?_
  refine ev_istore (L' := [some (.ref k), some (.int v1), some (.int v2), some (.int v3), some (.int (w (nI 1).toNatClampNeg)), none, none]) dX4_addNoteLike_6 (ng_lt rfl) rfl ?_
  refine ev_iload dX4_addNoteLike_8 rfl ?_
  refine bk_if_lt (tgt := 30) dX4_addNoteLike_10 (by decide) (fun c10 => ?_) (fun c10 => ?_)
  · refine ev_iconst (v := (-1)) dX4_addNoteLike_30 (by decide) ?_
    exact ev_iret rfl rfl dX4_addNoteLike_31
  · replace h := h c10
    refine ev_iload dX4_addNoteLike_13 rfl ?_
    refine ev_bipush (v := nI 32) dX4_addNoteLike_15 (by decide) ?_
    refine bk_icmp_ge (tgt := 30) dX4_addNoteLike_17 (by decide) (fun c17 => ?_) (fun c17 => ?_)
    · refine ev_iconst (v := (-1)) dX4_addNoteLike_30 (by decide) ?_
      exact ev_iret rfl rfl dX4_addNoteLike_31
    · replace h := h c17
      refine ev_iload_n dX4_addNoteLike_20 rfl rfl ?_
      refine bk_if_lt (tgt := 30) dX4_addNoteLike_21 (by decide) (fun c21 => ?_) (fun c21 => ?_)
      · refine ev_iconst (v := (-1)) dX4_addNoteLike_30 (by decide) ?_
        exact ev_iret rfl rfl dX4_addNoteLike_31
      · replace h := h c21
        refine ev_iload_n dX4_addNoteLike_24 rfl rfl ?_
        refine ev_bipush (v := nI 32) dX4_addNoteLike_25 (by decide) ?_
        refine bk_icmp_lt (tgt := 32) dX4_addNoteLike_27 (by decide) (fun c27 => ?_) (fun c27 => ?_)
        · replace h := h c27
          refine ev_sipush (v := nI 142) dX4_addNoteLike_32 (by decide) ?_
          refine ev_iload dX4_addNoteLike_35 rfl ?_
          refine ev_bipush (v := nI 11) dX4_addNoteLike_37 (by decide) ?_
          refine ev_imul dX4_addNoteLike_39 ?_
          refine ev_iadd dX4_addNoteLike_40 ?_
          refine ev_istore (L' := [some (.ref k), some (.int v1), some (.int v2), some (.int v3), some (.int (w (nI 1).toNatClampNeg)), some (.int ((nI 142) + ((w (nI 1).toNatClampNeg) * (nI 11)))), none]) dX4_addNoteLike_41 (ng_lt rfl) rfl ?_
          refine ev_sipush (v := nI 142) dX4_addNoteLike_43 (by decide) ?_
          refine ev_iload_n dX4_addNoteLike_46 rfl rfl ?_
          refine ev_bipush (v := nI 11) dX4_addNoteLike_47 (by decide) ?_
          refine ev_imul dX4_addNoteLike_49 ?_
          refine ev_iadd dX4_addNoteLike_50 ?_
          refine ev_istore (L' := [some (.ref k), some (.int v1), some (.int v2), some (.int v3), some (.int (w (nI 1).toNatClampNeg)), some (.int ((nI 142) + ((w (nI 1).toNatClampNeg) * (nI 11)))), some (.int ((nI 142) + (v1 * (nI 11))))]) dX4_addNoteLike_51 (ng_lt rfl) rfl ?_
          refine ev_aload_n dX4_addNoteLike_53 rfl rfl rfl ?_
          refine ev_get 4 0 fl_RX4_11 (WL_gk V) rfl dX4_addNoteLike_54 ?_
          refine ev_iload dX4_addNoteLike_57 rfl ?_
          refine ev_iconst (v := nI 0) dX4_addNoteLike_59 (by decide) ?_
          refine ev_iadd dX4_addNoteLike_60 ?_
          refine ev_iload_n dX4_addNoteLike_61 rfl rfl ?_
          have hi62 := h.1
          replace h := h.2
          refine ev_iast (WL_ga V) hi62 (WL_sa V) dX4_addNoteLike_62 ?_
          refine ev_aload_n dX4_addNoteLike_63 rfl rfl rfl ?_
          refine ev_get 4 0 fl_RX4_11 (WL_gk V) rfl dX4_addNoteLike_64 ?_
          refine ev_iload dX4_addNoteLike_67 rfl ?_
          refine ev_iconst (v := nI 1) dX4_addNoteLike_69 (by decide) ?_
          refine ev_iadd dX4_addNoteLike_70 ?_
          refine ev_aload_n dX4_addNoteLike_71 rfl rfl rfl ?_
          refine ev_get 4 0 fl_RX4_11 (WL_gk V) rfl dX4_addNoteLike_72 ?_
          refine ev_iload dX4_addNoteLike_75 rfl ?_
          refine ev_iconst (v := nI 1) dX4_addNoteLike_77 (by decide) ?_
          refine ev_iadd dX4_addNoteLike_78 ?_
          have hi79 := h.1
          replace h := h.2
          refine ev_iald (WL_ga V) hi79 dX4_addNoteLike_79 ?_
          have hi80 := h.1
          replace h := h.2
          refine ev_iast (WL_ga V) hi80 (WL_sa V) dX4_addNoteLike_80 ?_
          refine ev_aload_n dX4_addNoteLike_81 rfl rfl rfl ?_
          refine ev_get 4 0 fl_RX4_11 (WL_gk V) rfl dX4_addNoteLike_82 ?_
          refine ev_iload dX4_addNoteLike_85 rfl ?_
          refine ev_iconst (v := nI 2) dX4_addNoteLike_87 (by decide) ?_
          refine ev_iadd dX4_addNoteLike_88 ?_
          refine ev_aload_n dX4_addNoteLike_89 rfl rfl rfl ?_
          refine ev_get 4 0 fl_RX4_11 (WL_gk V) rfl dX4_addNoteLike_90 ?_
          refine ev_iload dX4_addNoteLike_93 rfl ?_
          refine ev_iconst (v := nI 2) dX4_addNoteLike_95 (by decide) ?_
          refine ev_iadd dX4_addNoteLike_96 ?_
          have hi97 := h.1
          replace h := h.2
          refine ev_iald (WL_ga V) hi97 dX4_addNoteLike_97 ?_
          have hi98 := h.1
          replace h := h.2
          refine ev_iast (WL_ga V) hi98 (WL_sa V) dX4_addNoteLike_98 ?_
          exact ev_sub (e_X4_addNoteLike_99 V h) (sub_s (sub_n (sub_n (sub_s (sub_s (sub_s (sub_s sub_e)))))))
        · refine ev_iconst (v := (-1)) dX4_addNoteLike_30 (by decide) ?_
          exact ev_iret rfl rfl dX4_addNoteLike_31
theorem m_X4_addNoteLike {G : ng_GG} {hp : (Nat → Int32) → (Nat → Int32) → (Nat → Int32) → (Nat → Int32) → (Nat → Int32) → (Nat → Int32) → (Nat → Int32) → ng_AM} {k : Nat} {a : Nat} {d : Bool} (V : ng_WL hp k a d) {w : Nat → Int32} {Dg : Nat → Int32} {dw : Nat → Int32} {C : Nat → Int32} {off : Nat → Int32} {dear : Nat → Int32} {proved : Nat → Int32} {v1 : Int32} {v2 : Int32} {v3 : Int32} (h : s_X4_addNoteLike w v1 v2 v3)  : ng_Ev G md_X4_addNoteLike 0 (ng_en 7 [.ref k, .int v1, .int v2, .int v3]) [] (hp w Dg dw C off dear proved) (K_X4_addNoteLike hp Dg dw C off dear proved (f_X4_addNoteLike w v1 v2 v3)) := e_X4_addNoteLike V h 
def K_X4_letIn (hp : (Nat → Int32) → (Nat → Int32) → (Nat → Int32) → (Nat → Int32) → (Nat → Int32) → (Nat → Int32) → (Nat → Int32) → ng_AM) (Dg : Nat → Int32) (dw : Nat → Int32) (C : Nat → Int32) (off : Nat → Int32) (dear : Nat → Int32) (proved : Nat → Int32) (r : (Nat → Int32)) : ng_RR := (none, hp (r) Dg dw C off dear proved)
def f_X4_letIn  (w : Nat → Int32) (v1 : Int32) (v2 : Int32) : (Nat → Int32) := (if v1 < 0 then w else (if (nI 4) ≤ v1 then w else (if (f_X4_isNote w v2) = 0 then w else (upd (upd w (((nI 4) + (v1 * (nI 3))) + (nI 2)).toNatClampNeg ((w (((nI 4) + (v1 * (nI 3))) + (nI 2)).toNatClampNeg) ||| ((nI 1) <<< (v2 &&& 31)))) (((nI 142) + (v2 * (nI 11))) + (nI 10)).toNatClampNeg (((upd w (((nI 4) + (v1 * (nI 3))) + (nI 2)).toNatClampNeg ((w (((nI 4) + (v1 * (nI 3))) + (nI 2)).toNatClampNeg) ||| ((nI 1) <<< (v2 &&& 31)))) (((nI 142) + (v2 * (nI 11))) + (nI 10)).toNatClampNeg) ||| ((nI 1) <<< (((nI 5) + v1) &&& 31)))))))
def s_X4_letIn  (w : Nat → Int32) (v1 : Int32) (v2 : Int32) : Prop := (¬ v1 < 0 → (¬ (nI 4) ≤ v1 → (¬ (f_X4_isNote w v2) = 0 → (vp_in (((nI 4) + (v1 * (nI 3))) + (nI 2)) 494 ∧ (vp_in (((nI 4) + (v1 * (nI 3))) + (nI 2)) 494 ∧ (vp_in (((nI 142) + (v2 * (nI 11))) + (nI 10)) 494 ∧ vp_in (((nI 142) + (v2 * (nI 11))) + (nI 10)) 494))))))
set_option maxRecDepth 100000 in
set_option maxHeartbeats 4000000 in
theorem e_X4_letIn {G : ng_GG} {hp : (Nat → Int32) → (Nat → Int32) → (Nat → Int32) → (Nat → Int32) → (Nat → Int32) → (Nat → Int32) → (Nat → Int32) → ng_AM} {k : Nat} {a : Nat} {d : Bool} (V : ng_WL hp k a d) {w : Nat → Int32} {Dg : Nat → Int32} {dw : Nat → Int32} {C : Nat → Int32} {off : Nat → Int32} {dear : Nat → Int32} {proved : Nat → Int32}  {v1 : Int32} {v2 : Int32} (h : s_X4_letIn  w v1 v2)  : ng_Ev G md_X4_letIn 0 [some (.ref k), some (.int v1), some (.int v2)] [] (hp w Dg dw C off dear proved) (K_X4_letIn hp Dg dw C off dear proved (f_X4_letIn  w v1 v2)) := by
  unfold s_X4_letIn at h
  unfold f_X4_letIn
  refine ev_iload_n dX4_letIn_0 rfl rfl ?_
  refine bk_if_lt (tgt := 59) dX4_letIn_1 (by decide) (fun c1 => ?_) (fun c1 => ?_)
  · exact ev_vret rfl dX4_letIn_59
  · replace h := h c1
    refine ev_iload_n dX4_letIn_4 rfl rfl ?_
    refine ev_iconst (v := nI 4) dX4_letIn_5 (by decide) ?_
    refine bk_icmp_ge (tgt := 59) dX4_letIn_6 (by decide) (fun c6 => ?_) (fun c6 => ?_)
    · exact ev_vret rfl dX4_letIn_59
    · replace h := h c6
      refine ev_aload_n dX4_letIn_9 rfl rfl rfl ?_
      refine ev_iload_n dX4_letIn_10 rfl rfl ?_
      refine bk_callV (As := [.int v2]) (st := []) (st2 := [.int (f_X4_isNote w v2)]) (M2 := hp w Dg dw C off dear proved) ok_X4_isNote lk_RX4_23 (ng_rok.of rfl rfl) (WL_gk V) rfl rfl rfl rfl rfl rfl dX4_letIn_11 (m_X4_isNote (WL_R V) trivial) rfl rfl ?_
      refine bk_if_eq (tgt := 59) dX4_letIn_14 (by decide) (fun c14 => ?_) (fun c14 => ?_)
      · exact ev_vret rfl dX4_letIn_59
      · replace h := h c14
        refine ev_aload_n dX4_letIn_17 rfl rfl rfl ?_
        refine ev_get 4 0 fl_RX4_11 (WL_gk V) rfl dX4_letIn_18 ?_
        refine ev_iconst (v := nI 4) dX4_letIn_21 (by decide) ?_
        refine ev_iload_n dX4_letIn_22 rfl rfl ?_
        refine ev_iconst (v := nI 3) dX4_letIn_23 (by decide) ?_
        refine ev_imul dX4_letIn_24 ?_
        refine ev_iadd dX4_letIn_25 ?_
        refine ev_iconst (v := nI 2) dX4_letIn_26 (by decide) ?_
        refine ev_iadd dX4_letIn_27 ?_
        refine ev_dup2 dX4_letIn_28 rfl rfl ?_
        have hi29 := h.1
        replace h := h.2
        refine ev_iald (WL_ga V) hi29 dX4_letIn_29 ?_
        refine ev_iconst (v := nI 1) dX4_letIn_30 (by decide) ?_
        refine ev_iload_n dX4_letIn_31 rfl rfl ?_
        refine ev_ishl dX4_letIn_32 ?_
        refine ev_ior dX4_letIn_33 ?_
        have hi34 := h.1
        replace h := h.2
        refine ev_iast (WL_ga V) hi34 (WL_sa V) dX4_letIn_34 ?_
        refine ev_aload_n dX4_letIn_35 rfl rfl rfl ?_
        refine ev_get 4 0 fl_RX4_11 (WL_gk V) rfl dX4_letIn_36 ?_
        refine ev_sipush (v := nI 142) dX4_letIn_39 (by decide) ?_
        refine ev_iload_n dX4_letIn_42 rfl rfl ?_
        refine ev_bipush (v := nI 11) dX4_letIn_43 (by decide) ?_
        refine ev_imul dX4_letIn_45 ?_
        refine ev_iadd dX4_letIn_46 ?_
        refine ev_bipush (v := nI 10) dX4_letIn_47 (by decide) ?_
        refine ev_iadd dX4_letIn_49 ?_
        refine ev_dup2 dX4_letIn_50 rfl rfl ?_
        have hi51 := h.1
        replace h := h.2
        refine ev_iald (WL_ga V) hi51 dX4_letIn_51 ?_
        refine ev_iconst (v := nI 1) dX4_letIn_52 (by decide) ?_
        refine ev_iconst (v := nI 5) dX4_letIn_53 (by decide) ?_
        refine ev_iload_n dX4_letIn_54 rfl rfl ?_
        refine ev_iadd dX4_letIn_55 ?_
        refine ev_ishl dX4_letIn_56 ?_
        refine ev_ior dX4_letIn_57 ?_
        have hi58 := h
        refine ev_iast (WL_ga V) hi58 (WL_sa V) dX4_letIn_58 ?_
        exact ev_vret rfl dX4_letIn_59
theorem m_X4_letIn {G : ng_GG} {hp : (Nat → Int32) → (Nat → Int32) → (Nat → Int32) → (Nat → Int32) → (Nat → Int32) → (Nat → Int32) → (Nat → Int32) → ng_AM} {k : Nat} {a : Nat} {d : Bool} (V : ng_WL hp k a d) {w : Nat → Int32} {Dg : Nat → Int32} {dw : Nat → Int32} {C : Nat → Int32} {off : Nat → Int32} {dear : Nat → Int32} {proved : Nat → Int32} {v1 : Int32} {v2 : Int32} (h : s_X4_letIn w v1 v2)  : ng_Ev G md_X4_letIn 0 (ng_en 3 [.ref k, .int v1, .int v2]) [] (hp w Dg dw C off dear proved) (K_X4_letIn hp Dg dw C off dear proved (f_X4_letIn w v1 v2)) := e_X4_letIn V h 
def K_X4_endFamily (hp : (Nat → Int32) → (Nat → Int32) → (Nat → Int32) → (Nat → Int32) → (Nat → Int32) → (Nat → Int32) → (Nat → Int32) → ng_AM) (dw : Nat → Int32) (C : Nat → Int32) (off : Nat → Int32) (dear : Nat → Int32) (proved : Nat → Int32) (r : (Nat → Int32) × (Nat → Int32)) : ng_RR := (none, hp (r.1) (r.2) dw C off dear proved)
def f_X4_endFamily_99 (kk32 : (Nat → Int32) → (Nat → Int32) → (Nat → Int32) → (Bool) → Int32 → Int32 → Int32 → ((Nat → Int32) × (Nat → Int32))) (w : Nat → Int32) (Dg : Nat → Int32) (C : Nat → Int32) (d : Bool) (v1 : Int32) (v2 : Int32) (v3 : Int32) : (Nat → Int32) × (Nat → Int32) := kk32 w Dg C d v1 v2 (v3 + nI 1)
def s_X4_endFamily_99 (sk32 : (Nat → Int32) → (Nat → Int32) → (Nat → Int32) → (Bool) → Int32 → Int32 → Int32 → Prop) (w : Nat → Int32) (Dg : Nat → Int32) (C : Nat → Int32) (d : Bool) (v1 : Int32) (v2 : Int32) (v3 : Int32) : Prop := sk32 w Dg C d v1 v2 (v3 + nI 1)
set_option maxRecDepth 100000 in
set_option maxHeartbeats 4000000 in
theorem e_X4_endFamily_99 {G : ng_GG} {hp : (Nat → Int32) → (Nat → Int32) → (Nat → Int32) → (Nat → Int32) → (Nat → Int32) → (Nat → Int32) → (Nat → Int32) → ng_AM} {k : Nat} {a : Nat} {d : Bool} (V : ng_WL hp k a d) {w : Nat → Int32} {Dg : Nat → Int32} {dw : Nat → Int32} {C : Nat → Int32} {off : Nat → Int32} {dear : Nat → Int32} {proved : Nat → Int32} {kk32 : (Nat → Int32) → (Nat → Int32) → (Nat → Int32) → (Bool) → Int32 → Int32 → Int32 → ((Nat → Int32) × (Nat → Int32))} {sk32 : (Nat → Int32) → (Nat → Int32) → (Nat → Int32) → (Bool) → Int32 → Int32 → Int32 → Prop} (hk32 : ∀ (w : Nat → Int32) (Dg : Nat → Int32) (dw : Nat → Int32) (C : Nat → Int32) (off : Nat → Int32) (dear : Nat → Int32) (proved : Nat → Int32) (v1 : Int32) (v2 : Int32) (v3 : Int32), sk32 w Dg C d v1 v2 v3 → ng_Ev G md_X4_endFamily 32 [some (.ref k), some (.int v1), some (.int v2), some (.int v3), none] [] (hp w Dg dw C off dear proved) (K_X4_endFamily hp dw C off dear proved (kk32 w Dg C d v1 v2 v3))) {v1 : Int32} {v2 : Int32} {v3 : Int32} (h : s_X4_endFamily_99 sk32 w Dg C d v1 v2 v3)  : ng_Ev G md_X4_endFamily 99 [some (.ref k), some (.int v1), some (.int v2), some (.int v3), none] [] (hp w Dg dw C off dear proved) (K_X4_endFamily hp dw C off dear proved (f_X4_endFamily_99 kk32 w Dg C d v1 v2 v3)) := by
  unfold s_X4_endFamily_99 at h
  unfold f_X4_endFamily_99
  refine ev_iinc (v := v3 + nI 1) (L' := [some (.ref k), some (.int v1), some (.int v2), some (.int (v3 + nI 1)), none]) dX4_endFamily_99 rfl (by rfl) rfl ?_
  refine ev_goto (tgt := 32) dX4_endFamily_102 (by decide) ?_
  exact ev_sub (hk32 w Dg dw C off dear proved v1 v2 (v3 + nI 1) h) (sub_s (sub_s (sub_s (sub_s (sub_n sub_e)))))
def f_X4_endFamily_145 (kk107 : (Nat → Int32) → (Nat → Int32) → (Nat → Int32) → (Bool) → Int32 → Int32 → Int32 → ((Nat → Int32) × (Nat → Int32))) (w : Nat → Int32) (Dg : Nat → Int32) (C : Nat → Int32) (d : Bool) (v1 : Int32) (v2 : Int32) (v3 : Int32) : (Nat → Int32) × (Nat → Int32) := kk107 w Dg C d v1 v2 (v3 + nI 1)
def s_X4_endFamily_145 (sk107 : (Nat → Int32) → (Nat → Int32) → (Nat → Int32) → (Bool) → Int32 → Int32 → Int32 → Prop) (w : Nat → Int32) (Dg : Nat → Int32) (C : Nat → Int32) (d : Bool) (v1 : Int32) (v2 : Int32) (v3 : Int32) : Prop := sk107 w Dg C d v1 v2 (v3 + nI 1)
set_option maxRecDepth 100000 in
set_option maxHeartbeats 4000000 in
theorem e_X4_endFamily_145 {G : ng_GG} {hp : (Nat → Int32) → (Nat → Int32) → (Nat → Int32) → (Nat → Int32) → (Nat → Int32) → (Nat → Int32) → (Nat → Int32) → ng_AM} {k : Nat} {a : Nat} {d : Bool} (V : ng_WL hp k a d) {w : Nat → Int32} {Dg : Nat → Int32} {dw : Nat → Int32} {C : Nat → Int32} {off : Nat → Int32} {dear : Nat → Int32} {proved : Nat → Int32} {kk107 : (Nat → Int32) → (Nat → Int32) → (Nat → Int32) → (Bool) → Int32 → Int32 → Int32 → ((Nat → Int32) × (Nat → Int32))} {sk107 : (Nat → Int32) → (Nat → Int32) → (Nat → Int32) → (Bool) → Int32 → Int32 → Int32 → Prop} (hk107 : ∀ (w : Nat → Int32) (Dg : Nat → Int32) (dw : Nat → Int32) (C : Nat → Int32) (off : Nat → Int32) (dear : Nat → Int32) (proved : Nat → Int32) (v1 : Int32) (v2 : Int32) (v3 : Int32), sk107 w Dg C d v1 v2 v3 → ng_Ev G md_X4_endFamily 107 [some (.ref k), some (.int v1), some (.int v2), some (.int v3), none] [] (hp w Dg dw C off dear proved) (K_X4_endFamily hp dw C off dear proved (kk107 w Dg C d v1 v2 v3))) {v1 : Int32} {v2 : Int32} {v3 : Int32} (h : s_X4_endFamily_145 sk107 w Dg C d v1 v2 v3)  : ng_Ev G md_X4_endFamily 145 [some (.ref k), some (.int v1), some (.int v2), some (.int v3), none] [] (hp w Dg dw C off dear proved) (K_X4_endFamily hp dw C off dear proved (f_X4_endFamily_145 kk107 w Dg C d v1 v2 v3)) := by
  unfold s_X4_endFamily_145 at h
  unfold f_X4_endFamily_145
  refine ev_iinc (v := v3 + nI 1) (L' := [some (.ref k), some (.int v1), some (.int v2), some (.int (v3 + nI 1)), none]) dX4_endFamily_145 rfl (by rfl) rfl ?_
  refine ev_goto (tgt := 107) dX4_endFamily_148 (by decide) ?_
  exact ev_sub (hk107 w Dg dw C off dear proved v1 v2 (v3 + nI 1) h) (sub_s (sub_s (sub_s (sub_s (sub_n sub_e)))))
def f_X4_endFamily_107  : Nat → (Nat → Int32) → (Nat → Int32) → (Nat → Int32) → (Bool) → Int32 → Int32 → Int32 → ((Nat → Int32) × (Nat → Int32))
  | 0, w, Dg, _, _, _, _, _ => (w, Dg)
  | n + 1, w, Dg, C, d, v1, v2, v3 => (if (nI 4) ≤ v3 then (w, Dg) else (if ((v2 >>> (v3 &&& 31)) &&& (nI 1)) = (nI 1) then (if (f_X2_isIn C v3) = 0 then f_X4_endFamily_145 (f_X4_endFamily_107 n) w Dg C d v1 v2 v3 else f_X4_endFamily_145 (f_X4_endFamily_107 n) ((f_X4_post w Dg C d (nI 9) ((nI 5) + v3) (nI 5) v1 (-1) (nI 0)).1) ((f_X4_post w Dg C d (nI 9) ((nI 5) + v3) (nI 5) v1 (-1) (nI 0)).2) C d v1 v2 v3) else f_X4_endFamily_145 (f_X4_endFamily_107 n) w Dg C d v1 v2 v3))
def s_X4_endFamily_107  : Nat → (Nat → Int32) → (Nat → Int32) → (Nat → Int32) → (Bool) → Int32 → Int32 → Int32 → Prop
  | 0, _, _, _, _, _, _, _ => False
  | n + 1, w, Dg, C, d, v1, v2, v3 => (¬ (nI 4) ≤ v3 → ((((v2 >>> (v3 &&& 31)) &&& (nI 1)) = (nI 1) → (((f_X2_isIn C v3) = 0 → s_X4_endFamily_145 (s_X4_endFamily_107 n) w Dg C d v1 v2 v3) ∧ (¬ (f_X2_isIn C v3) = 0 → (s_X4_post w Dg C d (nI 9) ((nI 5) + v3) (nI 5) v1 (-1) (nI 0) ∧ s_X4_endFamily_145 (s_X4_endFamily_107 n) ((f_X4_post w Dg C d (nI 9) ((nI 5) + v3) (nI 5) v1 (-1) (nI 0)).1) ((f_X4_post w Dg C d (nI 9) ((nI 5) + v3) (nI 5) v1 (-1) (nI 0)).2) C d v1 v2 v3)))) ∧ (¬ ((v2 >>> (v3 &&& 31)) &&& (nI 1)) = (nI 1) → s_X4_endFamily_145 (s_X4_endFamily_107 n) w Dg C d v1 v2 v3)))
set_option maxRecDepth 100000 in
set_option maxHeartbeats 4000000 in
theorem e_X4_endFamily_107 {G : ng_GG} {hp : (Nat → Int32) → (Nat → Int32) → (Nat → Int32) → (Nat → Int32) → (Nat → Int32) → (Nat → Int32) → (Nat → Int32) → ng_AM} {k : Nat} {a : Nat} {d : Bool} (V : ng_WL hp k a d)  : ∀ (n : Nat) (w : Nat → Int32) (Dg : Nat → Int32) (dw : Nat → Int32) (C : Nat → Int32) (off : Nat → Int32) (dear : Nat → Int32) (proved : Nat → Int32) (v1 : Int32) (v2 : Int32) (v3 : Int32), s_X4_endFamily_107  n w Dg C d v1 v2 v3 → ng_Ev G md_X4_endFamily 107 [some (.ref k), some (.int v1), some (.int v2), some (.int v3), none] [] (hp w Dg dw C off dear proved) (K_X4_endFamily hp dw C off dear proved (f_X4_endFamily_107  n w Dg C d v1 v2 v3)) := by
  intro n
  induction n with
  | zero => intro w Dg dw C off dear proved v1 v2 v3 h; exact False.elim h
  | succ n ih =>
    intro w Dg dw C off dear proved v1 v2 v3 h 
    rw [s_X4_endFamily_107] at h
    rw [f_X4_endFamily_107]
    refine ev_iload_n dX4_endFamily_107 rfl rfl ?_
    refine ev_iconst (v := nI 4) dX4_endFamily_108 (by decide) ?_
    refine bk_icmp_ge (tgt := 151) dX4_endFamily_109 (by decide) (fun c109 => ?_) (fun c109 => ?_)
    · exact ev_vret rfl dX4_endFamily_151
    · replace h := h c109
      refine ev_iload_n dX4_endFamily_112 rfl rfl ?_
      refine ev_iload_n dX4_endFamily_113 rfl rfl ?_
      refine ev_ishr dX4_endFamily_114 ?_
      refine ev_iconst (v := nI 1) dX4_endFamily_115 (by decide) ?_
      refine ev_iand dX4_endFamily_116 ?_
      refine ev_iconst (v := nI 1) dX4_endFamily_117 (by decide) ?_
      refine bk_icmp_ne (tgt := 145) dX4_endFamily_118 (by decide) (fun c118 => ?_) (fun c118 => ?_)
      · replace h := h.2 c118
        exact ev_sub (e_X4_endFamily_145 V ih h) (sub_s (sub_s (sub_s (sub_s (sub_n sub_e)))))
      · replace h := h.1 c118
        refine ev_aload_n dX4_endFamily_121 rfl rfl rfl ?_
        refine ev_get 4 1 fl_RX4_15 (WL_gk V) rfl dX4_endFamily_122 ?_
        refine ev_iload_n dX4_endFamily_125 rfl rfl ?_
        refine bk_callV (As := [.int v3]) (st := []) (st2 := [.int (f_X2_isIn C v3)]) (M2 := hp w Dg dw C off dear proved) ok_X2_isIn lk_RX4_92 (ng_rok.of rfl rfl) (WL_g1 V) rfl rfl rfl rfl rfl rfl dX4_endFamily_126 (m_X2_isIn (WL_RS V) trivial) rfl rfl ?_
        refine bk_if_eq (tgt := 145) dX4_endFamily_129 (by decide) (fun c129 => ?_) (fun c129 => ?_)
        · replace h := h.1 c129
          exact ev_sub (e_X4_endFamily_145 V ih h) (sub_s (sub_s (sub_s (sub_s (sub_n sub_e)))))
        · replace h := h.2 c129
          refine ev_aload_n dX4_endFamily_132 rfl rfl rfl ?_
          refine ev_bipush (v := nI 9) dX4_endFamily_133 (by decide) ?_
          refine ev_iconst (v := nI 5) dX4_endFamily_135 (by decide) ?_
          refine ev_iload_n dX4_endFamily_136 rfl rfl ?_
          refine ev_iadd dX4_endFamily_137 ?_
          refine ev_iconst (v := nI 5) dX4_endFamily_138 (by decide) ?_
          refine ev_iload_n dX4_endFamily_139 rfl rfl ?_
          refine ev_iconst (v := (-1)) dX4_endFamily_140 (by decide) ?_
          refine ev_iconst (v := nI 0) dX4_endFamily_141 (by decide) ?_
          have hs142 := h.1
          replace h := h.2
          refine bk_callV (As := [.int (nI 9), .int ((nI 5) + v3), .int (nI 5), .int v1, .int (-1), .int (nI 0)]) (st := []) (st2 := []) (M2 := hp ((f_X4_post w Dg C d (nI 9) ((nI 5) + v3) (nI 5) v1 (-1) (nI 0)).1) ((f_X4_post w Dg C d (nI 9) ((nI 5) + v3) (nI 5) v1 (-1) (nI 0)).2) dw C off dear proved) ok_X4_post lk_RX4_54 (ng_rok.of rfl rfl) (WL_gk V) rfl rfl rfl rfl rfl rfl dX4_endFamily_142 (m_X4_post V hs142) rfl rfl ?_
          exact ev_sub (e_X4_endFamily_145 V ih h) (sub_s (sub_s (sub_s (sub_s (sub_n sub_e)))))
def f_X4_endFamily_105  (w : Nat → Int32) (Dg : Nat → Int32) (C : Nat → Int32) (d : Bool) (v1 : Int32) (v2 : Int32) : (Nat → Int32) × (Nat → Int32) := f_X4_endFamily_107 ng_F w Dg C d v1 v2 (nI 0)
def s_X4_endFamily_105  (w : Nat → Int32) (Dg : Nat → Int32) (C : Nat → Int32) (d : Bool) (v1 : Int32) (v2 : Int32) : Prop := s_X4_endFamily_107 ng_F w Dg C d v1 v2 (nI 0)
set_option maxRecDepth 100000 in
set_option maxHeartbeats 4000000 in
theorem e_X4_endFamily_105 {G : ng_GG} {hp : (Nat → Int32) → (Nat → Int32) → (Nat → Int32) → (Nat → Int32) → (Nat → Int32) → (Nat → Int32) → (Nat → Int32) → ng_AM} {k : Nat} {a : Nat} {d : Bool} (V : ng_WL hp k a d) {w : Nat → Int32} {Dg : Nat → Int32} {dw : Nat → Int32} {C : Nat → Int32} {off : Nat → Int32} {dear : Nat → Int32} {proved : Nat → Int32}  {v1 : Int32} {v2 : Int32} (h : s_X4_endFamily_105  w Dg C d v1 v2)  : ng_Ev G md_X4_endFamily 105 [some (.ref k), some (.int v1), some (.int v2), none, none] [] (hp w Dg dw C off dear proved) (K_X4_endFamily hp dw C off dear proved (f_X4_endFamily_105  w Dg C d v1 v2)) := by
  unfold s_X4_endFamily_105 at h
  unfold f_X4_endFamily_105
  refine ev_iconst (v := nI 0) dX4_endFamily_105 (by decide) ?_
  refine ev_istore_n (L' := [some (.ref k), some (.int v1), some (.int v2), some (.int (nI 0)), none]) dX4_endFamily_106 rfl (ng_lt rfl) rfl ?_
  exact ev_sub (e_X4_endFamily_107 V ng_F w Dg dw C off dear proved v1 v2 (nI 0) h) (sub_s (sub_s (sub_s (sub_s (sub_n sub_e)))))
def f_X4_endFamily_32  : Nat → (Nat → Int32) → (Nat → Int32) → (Nat → Int32) → (Bool) → Int32 → Int32 → Int32 → ((Nat → Int32) × (Nat → Int32))
  | 0, w, Dg, _, _, _, _, _ => (w, Dg)
  | n + 1, w, Dg, C, d, v1, v2, v3 => (if (w (nI 1).toNatClampNeg) ≤ v3 then f_X4_endFamily_105 w Dg C d v1 v2 else (if (nI 32) ≤ v3 then f_X4_endFamily_105 w Dg C d v1 v2 else (if (w (((nI 142) + (v3 * (nI 11))) + (nI 6)).toNatClampNeg) = v1 then (if (w (((nI 142) + (v3 * (nI 11))) + (nI 0)).toNatClampNeg) = (nI 1) then f_X4_endFamily_99 (f_X4_endFamily_32 n) w Dg C d v1 v2 v3 else f_X4_endFamily_99 (f_X4_endFamily_32 n) w Dg C d v1 (v2 ||| ((nI 1) <<< ((w (((nI 142) + (v3 * (nI 11))) + (nI 2)).toNatClampNeg) &&& 31))) v3) else f_X4_endFamily_99 (f_X4_endFamily_32 n) w Dg C d v1 v2 v3)))
def s_X4_endFamily_32  : Nat → (Nat → Int32) → (Nat → Int32) → (Nat → Int32) → (Bool) → Int32 → Int32 → Int32 → Prop
  | 0, _, _, _, _, _, _, _ => False
  | n + 1, w, Dg, C, d, v1, v2, v3 => (((w (nI 1).toNatClampNeg) ≤ v3 → s_X4_endFamily_105 w Dg C d v1 v2) ∧ (¬ (w (nI 1).toNatClampNeg) ≤ v3 → (((nI 32) ≤ v3 → s_X4_endFamily_105 w Dg C d v1 v2) ∧ (¬ (nI 32) ≤ v3 → (vp_in (((nI 142) + (v3 * (nI 11))) + (nI 6)) 494 ∧ (((w (((nI 142) + (v3 * (nI 11))) + (nI 6)).toNatClampNeg) = v1 → (vp_in (((nI 142) + (v3 * (nI 11))) + (nI 0)) 494 ∧ (((w (((nI 142) + (v3 * (nI 11))) + (nI 0)).toNatClampNeg) = (nI 1) → s_X4_endFamily_99 (s_X4_endFamily_32 n) w Dg C d v1 v2 v3) ∧ (¬ (w (((nI 142) + (v3 * (nI 11))) + (nI 0)).toNatClampNeg) = (nI 1) → (vp_in (((nI 142) + (v3 * (nI 11))) + (nI 2)) 494 ∧ s_X4_endFamily_99 (s_X4_endFamily_32 n) w Dg C d v1 (v2 ||| ((nI 1) <<< ((w (((nI 142) + (v3 * (nI 11))) + (nI 2)).toNatClampNeg) &&& 31))) v3))))) ∧ (¬ (w (((nI 142) + (v3 * (nI 11))) + (nI 6)).toNatClampNeg) = v1 → s_X4_endFamily_99 (s_X4_endFamily_32 n) w Dg C d v1 v2 v3)))))))
set_option maxRecDepth 100000 in
set_option maxHeartbeats 4000000 in
theorem e_X4_endFamily_32 {G : ng_GG} {hp : (Nat → Int32) → (Nat → Int32) → (Nat → Int32) → (Nat → Int32) → (Nat → Int32) → (Nat → Int32) → (Nat → Int32) → ng_AM} {k : Nat} {a : Nat} {d : Bool} (V : ng_WL hp k a d)  : ∀ (n : Nat) (w : Nat → Int32) (Dg : Nat → Int32) (dw : Nat → Int32) (C : Nat → Int32) (off : Nat → Int32) (dear : Nat → Int32) (proved : Nat → Int32) (v1 : Int32) (v2 : Int32) (v3 : Int32), s_X4_endFamily_32  n w Dg C d v1 v2 v3 → ng_Ev G md_X4_endFamily 32 [some (.ref k), some (.int v1), some (.int v2), some (.int v3), none] [] (hp w Dg dw C off dear proved) (K_X4_endFamily hp dw C off dear proved (f_X4_endFamily_32  n w Dg C d v1 v2 v3)) := by
  intro n
  induction n with
  | zero => intro w Dg dw C off dear proved v1 v2 v3 h; exact False.elim h
  | succ n ih =>
    intro w Dg dw C off dear proved v1 v2 v3 h 
    rw [s_X4_endFamily_32] at h
    rw [f_X4_endFamily_32]
    refine ev_iload_n dX4_endFamily_32 rfl rfl ?_
    refine ev_aload_n dX4_endFamily_33 rfl rfl rfl ?_
    refine ev_get 4 0 fl_RX4_11 (WL_gk V) rfl dX4_endFamily_34 ?_
    refine ev_iconst (v := nI 1) dX4_endFamily_37 (by decide) ?_
    refine ev_iald (WL_ga V) (vp_in_nI (by decide) (by decide)) dX4_endFamily_38 ?_
    refine bk_icmp_ge (tgt := 105) dX4_endFamily_39 (by decide) (fun c39 => ?_) (fun c39 => ?_)
    · replace h := h.1 c39
      exact ev_sub (e_X4_endFamily_105 V h) (sub_s (sub_s (sub_s (sub_n (sub_n sub_e)))))
    · replace h := h.2 c39
      refine ev_iload_n dX4_endFamily_42 rfl rfl ?_
      refine ev_bipush (v := nI 32) dX4_endFamily_43 (by decide) ?_
      refine bk_icmp_ge (tgt := 105) dX4_endFamily_45 (by decide) (fun c45 => ?_) (fun c45 => ?_)
      · replace h := h.1 c45
        exact ev_sub (e_X4_endFamily_105 V h) (sub_s (sub_s (sub_s (sub_n (sub_n sub_e)))))
      · replace h := h.2 c45
        refine ev_sipush (v := nI 142) dX4_endFamily_48 (by decide) ?_
        refine ev_iload_n dX4_endFamily_51 rfl rfl ?_
        refine ev_bipush (v := nI 11) dX4_endFamily_52 (by decide) ?_
        refine ev_imul dX4_endFamily_54 ?_
        refine ev_iadd dX4_endFamily_55 ?_
        refine ev_istore (L' := [some (.ref k), some (.int v1), some (.int v2), some (.int v3), some (.int ((nI 142) + (v3 * (nI 11))))]) dX4_endFamily_56 (ng_lt rfl) rfl ?_
        refine ev_aload_n dX4_endFamily_58 rfl rfl rfl ?_
        refine ev_get 4 0 fl_RX4_11 (WL_gk V) rfl dX4_endFamily_59 ?_
        refine ev_iload dX4_endFamily_62 rfl ?_
        refine ev_bipush (v := nI 6) dX4_endFamily_64 (by decide) ?_
        refine ev_iadd dX4_endFamily_66 ?_
        have hi67 := h.1
        replace h := h.2
        refine ev_iald (WL_ga V) hi67 dX4_endFamily_67 ?_
        refine ev_iload_n dX4_endFamily_68 rfl rfl ?_
        refine bk_icmp_ne (tgt := 99) dX4_endFamily_69 (by decide) (fun c69 => ?_) (fun c69 => ?_)
        · replace h := h.2 c69
          exact ev_sub (e_X4_endFamily_99 V ih h) (sub_s (sub_s (sub_s (sub_s (sub_n sub_e)))))
        · replace h := h.1 c69
          refine ev_aload_n dX4_endFamily_72 rfl rfl rfl ?_
          refine ev_get 4 0 fl_RX4_11 (WL_gk V) rfl dX4_endFamily_73 ?_
          refine ev_iload dX4_endFamily_76 rfl ?_
          refine ev_iconst (v := nI 0) dX4_endFamily_78 (by decide) ?_
          refine ev_iadd dX4_endFamily_79 ?_
          have hi80 := h.1
          replace h := h.2
          refine ev_iald (WL_ga V) hi80 dX4_endFamily_80 ?_
          refine ev_iconst (v := nI 1) dX4_endFamily_81 (by decide) ?_
          refine bk_icmp_eq (tgt := 99) dX4_endFamily_82 (by decide) (fun c82 => ?_) (fun c82 => ?_)
          · replace h := h.1 c82
            exact ev_sub (e_X4_endFamily_99 V ih h) (sub_s (sub_s (sub_s (sub_s (sub_n sub_e)))))
          · replace h := h.2 c82
            refine ev_iload_n dX4_endFamily_85 rfl rfl ?_
            refine ev_iconst (v := nI 1) dX4_endFamily_86 (by decide) ?_
            refine ev_aload_n dX4_endFamily_87 rfl rfl rfl ?_
            refine ev_get 4 0 fl_RX4_11 (WL_gk V) rfl dX4_endFamily_88 ?_
            refine ev_iload dX4_endFamily_91 rfl ?_
            refine ev_iconst (v := nI 2) dX4_endFamily_93 (by decide) ?_
            refine ev_iadd dX4_endFamily_94 ?_
            have hi95 := h.1
            replace h := h.2
            refine ev_iald (WL_ga V) hi95 dX4_endFamily_95 ?_
            refine ev_ishl dX4_endFamily_96 ?_
            refine ev_ior dX4_endFamily_97 ?_
            refine ev_istore_n (L' := [some (.ref k), some (.int v1), some (.int (v2 ||| ((nI 1) <<< ((w (((nI 142) + (v3 * (nI 11))) + (nI 2)).toNatClampNeg) &&& 31)))), some (.int v3), some (.int ((nI 142) + (v3 * (nI 11))))]) dX4_endFamily_98 rfl (ng_lt rfl) rfl ?_
            exact ev_sub (e_X4_endFamily_99 V ih h) (sub_s (sub_s (sub_s (sub_s (sub_n sub_e)))))
def f_X4_endFamily  (w : Nat → Int32) (Dg : Nat → Int32) (C : Nat → Int32) (d : Bool) (v1 : Int32) : (Nat → Int32) × (Nat → Int32) := (if (f_X4_isFamily w v1) = 0 then (w, Dg) else f_X4_endFamily_32 ng_F (upd w (((nI 26) + (v1 * (nI 2))) + (nI 1)).toNatClampNeg (w (nI 0).toNatClampNeg)) Dg C d v1 (nI 0) (nI 0))
def s_X4_endFamily  (w : Nat → Int32) (Dg : Nat → Int32) (C : Nat → Int32) (d : Bool) (v1 : Int32) : Prop := (¬ (f_X4_isFamily w v1) = 0 → (vp_in (((nI 26) + (v1 * (nI 2))) + (nI 1)) 494 ∧ s_X4_endFamily_32 ng_F (upd w (((nI 26) + (v1 * (nI 2))) + (nI 1)).toNatClampNeg (w (nI 0).toNatClampNeg)) Dg C d v1 (nI 0) (nI 0)))
set_option maxRecDepth 100000 in
set_option maxHeartbeats 4000000 in
theorem e_X4_endFamily {G : ng_GG} {hp : (Nat → Int32) → (Nat → Int32) → (Nat → Int32) → (Nat → Int32) → (Nat → Int32) → (Nat → Int32) → (Nat → Int32) → ng_AM} {k : Nat} {a : Nat} {d : Bool} (V : ng_WL hp k a d) {w : Nat → Int32} {Dg : Nat → Int32} {dw : Nat → Int32} {C : Nat → Int32} {off : Nat → Int32} {dear : Nat → Int32} {proved : Nat → Int32}  {v1 : Int32} (h : s_X4_endFamily  w Dg C d v1)  : ng_Ev G md_X4_endFamily 0 [some (.ref k), some (.int v1), none, none, none] [] (hp w Dg dw C off dear proved) (K_X4_endFamily hp dw C off dear proved (f_X4_endFamily  w Dg C d v1)) := by
  unfold s_X4_endFamily at h
  unfold f_X4_endFamily
  refine ev_aload_n dX4_endFamily_0 rfl rfl rfl ?_
  refine ev_iload_n dX4_endFamily_1 rfl rfl ?_
  refine bk_callV (As := [.int v1]) (st := []) (st2 := [.int (f_X4_isFamily w v1)]) (M2 := hp w Dg dw C off dear proved) ok_X4_isFamily lk_RX4_27 (ng_rok.of rfl rfl) (WL_gk V) rfl rfl rfl rfl rfl rfl dX4_endFamily_2 (m_X4_isFamily (WL_R V) trivial) rfl rfl ?_
  refine bk_if_ne (tgt := 9) dX4_endFamily_5 (by decide) (fun c5 => ?_) (fun c5 => ?_)
  · replace h := h c5
    refine ev_aload_n dX4_endFamily_9 rfl rfl rfl ?_
    refine ev_get 4 0 fl_RX4_11 (WL_gk V) rfl dX4_endFamily_10 ?_
    refine ev_bipush (v := nI 26) dX4_endFamily_13 (by decide) ?_
    refine ev_iload_n dX4_endFamily_15 rfl rfl ?_
    refine ev_iconst (v := nI 2) dX4_endFamily_16 (by decide) ?_
    refine ev_imul dX4_endFamily_17 ?_
    refine ev_iadd dX4_endFamily_18 ?_
    refine ev_iconst (v := nI 1) dX4_endFamily_19 (by decide) ?_
    refine ev_iadd dX4_endFamily_20 ?_
    refine ev_aload_n dX4_endFamily_21 rfl rfl rfl ?_
    refine ev_get 4 0 fl_RX4_11 (WL_gk V) rfl dX4_endFamily_22 ?_
    refine ev_iconst (v := nI 0) dX4_endFamily_25 (by decide) ?_
    refine ev_iald (WL_ga V) (vp_in_nI (by decide) (by decide)) dX4_endFamily_26 ?_
    have hi27 := h.1
    replace h := h.2
    refine ev_iast (WL_ga V) hi27 (WL_sa V) dX4_endFamily_27 ?_
    refine ev_iconst (v := nI 0) dX4_endFamily_28 (by decide) ?_
    refine ev_istore_n (L' := [some (.ref k), some (.int v1), some (.int (nI 0)), none, none]) dX4_endFamily_29 rfl (ng_lt rfl) rfl ?_
    refine ev_iconst (v := nI 0) dX4_endFamily_30 (by decide) ?_
    refine ev_istore_n (L' := [some (.ref k), some (.int v1), some (.int (nI 0)), some (.int (nI 0)), none]) dX4_endFamily_31 rfl (ng_lt rfl) rfl ?_
    exact ev_sub (e_X4_endFamily_32 V ng_F (upd w (((nI 26) + (v1 * (nI 2))) + (nI 1)).toNatClampNeg (w (nI 0).toNatClampNeg)) Dg dw C off dear proved v1 (nI 0) (nI 0) h) (sub_s (sub_s (sub_s (sub_s (sub_n sub_e)))))
  · exact ev_vret rfl dX4_endFamily_8
theorem m_X4_endFamily {G : ng_GG} {hp : (Nat → Int32) → (Nat → Int32) → (Nat → Int32) → (Nat → Int32) → (Nat → Int32) → (Nat → Int32) → (Nat → Int32) → ng_AM} {k : Nat} {a : Nat} {d : Bool} (V : ng_WL hp k a d) {w : Nat → Int32} {Dg : Nat → Int32} {dw : Nat → Int32} {C : Nat → Int32} {off : Nat → Int32} {dear : Nat → Int32} {proved : Nat → Int32} {v1 : Int32} (h : s_X4_endFamily w Dg C d v1)  : ng_Ev G md_X4_endFamily 0 (ng_en 5 [.ref k, .int v1]) [] (hp w Dg dw C off dear proved) (K_X4_endFamily hp dw C off dear proved (f_X4_endFamily w Dg C d v1)) := e_X4_endFamily V h 
def K_X4_endFamiliesOf (hp : (Nat → Int32) → (Nat → Int32) → (Nat → Int32) → (Nat → Int32) → (Nat → Int32) → (Nat → Int32) → (Nat → Int32) → ng_AM) (dw : Nat → Int32) (C : Nat → Int32) (off : Nat → Int32) (dear : Nat → Int32) (proved : Nat → Int32) (r : (Nat → Int32) × (Nat → Int32) × Int32) : ng_RR := (some (.int (r.2.2)), hp (r.1) (r.2.1) dw C off dear proved)
def f_X4_endFamiliesOf_40 (kk4 : (Nat → Int32) → (Nat → Int32) → (Nat → Int32) → (Bool) → Int32 → Int32 → Int32 → ((Nat → Int32) × (Nat → Int32) × Int32)) (w : Nat → Int32) (Dg : Nat → Int32) (C : Nat → Int32) (d : Bool) (v1 : Int32) (v2 : Int32) (v3 : Int32) : (Nat → Int32) × (Nat → Int32) × Int32 := kk4 w Dg C d v1 v2 (v3 + nI 1)
def s_X4_endFamiliesOf_40 (sk4 : (Nat → Int32) → (Nat → Int32) → (Nat → Int32) → (Bool) → Int32 → Int32 → Int32 → Prop) (w : Nat → Int32) (Dg : Nat → Int32) (C : Nat → Int32) (d : Bool) (v1 : Int32) (v2 : Int32) (v3 : Int32) : Prop := sk4 w Dg C d v1 v2 (v3 + nI 1)
set_option maxRecDepth 100000 in
set_option maxHeartbeats 4000000 in
theorem e_X4_endFamiliesOf_40 {G : ng_GG} {hp : (Nat → Int32) → (Nat → Int32) → (Nat → Int32) → (Nat → Int32) → (Nat → Int32) → (Nat → Int32) → (Nat → Int32) → ng_AM} {k : Nat} {a : Nat} {d : Bool} (V : ng_WL hp k a d) {w : Nat → Int32} {Dg : Nat → Int32} {dw : Nat → Int32} {C : Nat → Int32} {off : Nat → Int32} {dear : Nat → Int32} {proved : Nat → Int32} {kk4 : (Nat → Int32) → (Nat → Int32) → (Nat → Int32) → (Bool) → Int32 → Int32 → Int32 → ((Nat → Int32) × (Nat → Int32) × Int32)} {sk4 : (Nat → Int32) → (Nat → Int32) → (Nat → Int32) → (Bool) → Int32 → Int32 → Int32 → Prop} (hk4 : ∀ (w : Nat → Int32) (Dg : Nat → Int32) (dw : Nat → Int32) (C : Nat → Int32) (off : Nat → Int32) (dear : Nat → Int32) (proved : Nat → Int32) (v1 : Int32) (v2 : Int32) (v3 : Int32), sk4 w Dg C d v1 v2 v3 → ng_Ev G md_X4_endFamiliesOf 4 [some (.ref k), some (.int v1), some (.int v2), some (.int v3)] [] (hp w Dg dw C off dear proved) (K_X4_endFamiliesOf hp dw C off dear proved (kk4 w Dg C d v1 v2 v3))) {v1 : Int32} {v2 : Int32} {v3 : Int32} (h : s_X4_endFamiliesOf_40 sk4 w Dg C d v1 v2 v3)  : ng_Ev G md_X4_endFamiliesOf 40 [some (.ref k), some (.int v1), some (.int v2), some (.int v3)] [] (hp w Dg dw C off dear proved) (K_X4_endFamiliesOf hp dw C off dear proved (f_X4_endFamiliesOf_40 kk4 w Dg C d v1 v2 v3)) := by
  unfold s_X4_endFamiliesOf_40 at h
  unfold f_X4_endFamiliesOf_40
  refine ev_iinc (v := v3 + nI 1) (L' := [some (.ref k), some (.int v1), some (.int v2), some (.int (v3 + nI 1))]) dX4_endFamiliesOf_40 rfl (by rfl) rfl ?_
  refine ev_goto (tgt := 4) dX4_endFamiliesOf_43 (by decide) ?_
  exact ev_sub (hk4 w Dg dw C off dear proved v1 v2 (v3 + nI 1) h) (sub_s (sub_s (sub_s (sub_s sub_e))))
def f_X4_endFamiliesOf_37 (kk4 : (Nat → Int32) → (Nat → Int32) → (Nat → Int32) → (Bool) → Int32 → Int32 → Int32 → ((Nat → Int32) × (Nat → Int32) × Int32)) (w : Nat → Int32) (Dg : Nat → Int32) (C : Nat → Int32) (d : Bool) (v1 : Int32) (v2 : Int32) (v3 : Int32) : (Nat → Int32) × (Nat → Int32) × Int32 := f_X4_endFamiliesOf_40 kk4 w Dg C d v1 (v2 + nI 1) v3
def s_X4_endFamiliesOf_37 (sk4 : (Nat → Int32) → (Nat → Int32) → (Nat → Int32) → (Bool) → Int32 → Int32 → Int32 → Prop) (w : Nat → Int32) (Dg : Nat → Int32) (C : Nat → Int32) (d : Bool) (v1 : Int32) (v2 : Int32) (v3 : Int32) : Prop := s_X4_endFamiliesOf_40 sk4 w Dg C d v1 (v2 + nI 1) v3
set_option maxRecDepth 100000 in
set_option maxHeartbeats 4000000 in
theorem e_X4_endFamiliesOf_37 {G : ng_GG} {hp : (Nat → Int32) → (Nat → Int32) → (Nat → Int32) → (Nat → Int32) → (Nat → Int32) → (Nat → Int32) → (Nat → Int32) → ng_AM} {k : Nat} {a : Nat} {d : Bool} (V : ng_WL hp k a d) {w : Nat → Int32} {Dg : Nat → Int32} {dw : Nat → Int32} {C : Nat → Int32} {off : Nat → Int32} {dear : Nat → Int32} {proved : Nat → Int32} {kk4 : (Nat → Int32) → (Nat → Int32) → (Nat → Int32) → (Bool) → Int32 → Int32 → Int32 → ((Nat → Int32) × (Nat → Int32) × Int32)} {sk4 : (Nat → Int32) → (Nat → Int32) → (Nat → Int32) → (Bool) → Int32 → Int32 → Int32 → Prop} (hk4 : ∀ (w : Nat → Int32) (Dg : Nat → Int32) (dw : Nat → Int32) (C : Nat → Int32) (off : Nat → Int32) (dear : Nat → Int32) (proved : Nat → Int32) (v1 : Int32) (v2 : Int32) (v3 : Int32), sk4 w Dg C d v1 v2 v3 → ng_Ev G md_X4_endFamiliesOf 4 [some (.ref k), some (.int v1), some (.int v2), some (.int v3)] [] (hp w Dg dw C off dear proved) (K_X4_endFamiliesOf hp dw C off dear proved (kk4 w Dg C d v1 v2 v3))) {v1 : Int32} {v2 : Int32} {v3 : Int32} (h : s_X4_endFamiliesOf_37 sk4 w Dg C d v1 v2 v3)  : ng_Ev G md_X4_endFamiliesOf 37 [some (.ref k), some (.int v1), some (.int v2), some (.int v3)] [] (hp w Dg dw C off dear proved) (K_X4_endFamiliesOf hp dw C off dear proved (f_X4_endFamiliesOf_37 kk4 w Dg C d v1 v2 v3)) := by
  unfold s_X4_endFamiliesOf_37 at h
  unfold f_X4_endFamiliesOf_37
  refine ev_iinc (v := v2 + nI 1) (L' := [some (.ref k), some (.int v1), some (.int (v2 + nI 1)), some (.int v3)]) dX4_endFamiliesOf_37 rfl (by rfl) rfl ?_
  exact ev_sub (e_X4_endFamiliesOf_40 V hk4 h) (sub_s (sub_s (sub_s (sub_s sub_e))))
def f_X4_endFamiliesOf_4  : Nat → (Nat → Int32) → (Nat → Int32) → (Nat → Int32) → (Bool) → Int32 → Int32 → Int32 → ((Nat → Int32) × (Nat → Int32) × Int32)
  | 0, w, Dg, _, _, _, _, _ => (w, Dg, 0)
  | n + 1, w, Dg, C, d, v1, v2, v3 => (if (w (nI 2).toNatClampNeg) ≤ v3 then (w, Dg, v2) else (if (f_X4_familyWord w v3 (nI 0)) = v1 then (if (f_X4_isEnded w v3) = 0 then f_X4_endFamiliesOf_37 (f_X4_endFamiliesOf_4 n) ((f_X4_endFamily w Dg C d v3).1) ((f_X4_endFamily w Dg C d v3).2) C d v1 v2 v3 else f_X4_endFamiliesOf_40 (f_X4_endFamiliesOf_4 n) w Dg C d v1 v2 v3) else f_X4_endFamiliesOf_40 (f_X4_endFamiliesOf_4 n) w Dg C d v1 v2 v3))
def s_X4_endFamiliesOf_4  : Nat → (Nat → Int32) → (Nat → Int32) → (Nat → Int32) → (Bool) → Int32 → Int32 → Int32 → Prop
  | 0, _, _, _, _, _, _, _ => False
  | n + 1, w, Dg, C, d, v1, v2, v3 => (¬ (w (nI 2).toNatClampNeg) ≤ v3 → (s_X4_familyWord w v3 (nI 0) ∧ (((f_X4_familyWord w v3 (nI 0)) = v1 → (s_X4_isEnded w v3 ∧ (((f_X4_isEnded w v3) = 0 → (s_X4_endFamily w Dg C d v3 ∧ s_X4_endFamiliesOf_37 (s_X4_endFamiliesOf_4 n) ((f_X4_endFamily w Dg C d v3).1) ((f_X4_endFamily w Dg C d v3).2) C d v1 v2 v3)) ∧ (¬ (f_X4_isEnded w v3) = 0 → s_X4_endFamiliesOf_40 (s_X4_endFamiliesOf_4 n) w Dg C d v1 v2 v3)))) ∧ (¬ (f_X4_familyWord w v3 (nI 0)) = v1 → s_X4_endFamiliesOf_40 (s_X4_endFamiliesOf_4 n) w Dg C d v1 v2 v3))))
set_option maxRecDepth 100000 in
set_option maxHeartbeats 4000000 in
theorem e_X4_endFamiliesOf_4 {G : ng_GG} {hp : (Nat → Int32) → (Nat → Int32) → (Nat → Int32) → (Nat → Int32) → (Nat → Int32) → (Nat → Int32) → (Nat → Int32) → ng_AM} {k : Nat} {a : Nat} {d : Bool} (V : ng_WL hp k a d)  : ∀ (n : Nat) (w : Nat → Int32) (Dg : Nat → Int32) (dw : Nat → Int32) (C : Nat → Int32) (off : Nat → Int32) (dear : Nat → Int32) (proved : Nat → Int32) (v1 : Int32) (v2 : Int32) (v3 : Int32), s_X4_endFamiliesOf_4  n w Dg C d v1 v2 v3 → ng_Ev G md_X4_endFamiliesOf 4 [some (.ref k), some (.int v1), some (.int v2), some (.int v3)] [] (hp w Dg dw C off dear proved) (K_X4_endFamiliesOf hp dw C off dear proved (f_X4_endFamiliesOf_4  n w Dg C d v1 v2 v3)) := by
  intro n
  induction n with
  | zero => intro w Dg dw C off dear proved v1 v2 v3 h; exact False.elim h
  | succ n ih =>
    intro w Dg dw C off dear proved v1 v2 v3 h 
    rw [s_X4_endFamiliesOf_4] at h
    rw [f_X4_endFamiliesOf_4]
    refine ev_iload_n dX4_endFamiliesOf_4 rfl rfl ?_
    refine ev_aload_n dX4_endFamiliesOf_5 rfl rfl rfl ?_
    refine ev_get 4 0 fl_RX4_11 (WL_gk V) rfl dX4_endFamiliesOf_6 ?_
    refine ev_iconst (v := nI 2) dX4_endFamiliesOf_9 (by decide) ?_
    refine ev_iald (WL_ga V) (vp_in_nI (by decide) (by decide)) dX4_endFamiliesOf_10 ?_
    refine bk_icmp_ge (tgt := 46) dX4_endFamiliesOf_11 (by decide) (fun c11 => ?_) (fun c11 => ?_)
    · refine ev_iload_n dX4_endFamiliesOf_46 rfl rfl ?_
      exact ev_iret rfl rfl dX4_endFamiliesOf_47
    · replace h := h c11
      refine ev_aload_n dX4_endFamiliesOf_14 rfl rfl rfl ?_
      refine ev_iload_n dX4_endFamiliesOf_15 rfl rfl ?_
      refine ev_iconst (v := nI 0) dX4_endFamiliesOf_16 (by decide) ?_
      have hs17 := h.1
      replace h := h.2
      refine bk_callV (As := [.int v3, .int (nI 0)]) (st := []) (st2 := [.int (f_X4_familyWord w v3 (nI 0))]) (M2 := hp w Dg dw C off dear proved) ok_X4_familyWord lk_RX4_36 (ng_rok.of rfl rfl) (WL_gk V) rfl rfl rfl rfl rfl rfl dX4_endFamiliesOf_17 (m_X4_familyWord (WL_R V) hs17) rfl rfl ?_
      refine ev_iload_n dX4_endFamiliesOf_20 rfl rfl ?_
      refine bk_icmp_ne (tgt := 40) dX4_endFamiliesOf_21 (by decide) (fun c21 => ?_) (fun c21 => ?_)
      · replace h := h.2 c21
        exact ev_sub (e_X4_endFamiliesOf_40 V ih h) (sub_s (sub_s (sub_s (sub_s sub_e))))
      · replace h := h.1 c21
        refine ev_aload_n dX4_endFamiliesOf_24 rfl rfl rfl ?_
        refine ev_iload_n dX4_endFamiliesOf_25 rfl rfl ?_
        have hs26 := h.1
        replace h := h.2
        refine bk_callV (As := [.int v3]) (st := []) (st2 := [.int (f_X4_isEnded w v3)]) (M2 := hp w Dg dw C off dear proved) ok_X4_isEnded lk_RX4_166 (ng_rok.of rfl rfl) (WL_gk V) rfl rfl rfl rfl rfl rfl dX4_endFamiliesOf_26 (m_X4_isEnded (WL_R V) hs26) rfl rfl ?_
        refine bk_if_ne (tgt := 40) dX4_endFamiliesOf_29 (by decide) (fun c29 => ?_) (fun c29 => ?_)
        · replace h := h.2 c29
          exact ev_sub (e_X4_endFamiliesOf_40 V ih h) (sub_s (sub_s (sub_s (sub_s sub_e))))
        · replace h := h.1 c29
          refine ev_aload_n dX4_endFamiliesOf_32 rfl rfl rfl ?_
          refine ev_iload_n dX4_endFamiliesOf_33 rfl rfl ?_
          have hs34 := h.1
          replace h := h.2
          refine bk_callV (As := [.int v3]) (st := []) (st2 := []) (M2 := hp ((f_X4_endFamily w Dg C d v3).1) ((f_X4_endFamily w Dg C d v3).2) dw C off dear proved) ok_X4_endFamily lk_RX4_117 (ng_rok.of rfl rfl) (WL_gk V) rfl rfl rfl rfl rfl rfl dX4_endFamiliesOf_34 (m_X4_endFamily V hs34) rfl rfl ?_
          exact ev_sub (e_X4_endFamiliesOf_37 V ih h) (sub_s (sub_s (sub_s (sub_s sub_e))))
def f_X4_endFamiliesOf  (w : Nat → Int32) (Dg : Nat → Int32) (C : Nat → Int32) (d : Bool) (v1 : Int32) : (Nat → Int32) × (Nat → Int32) × Int32 := f_X4_endFamiliesOf_4 ng_F w Dg C d v1 (nI 0) (nI 0)
def s_X4_endFamiliesOf  (w : Nat → Int32) (Dg : Nat → Int32) (C : Nat → Int32) (d : Bool) (v1 : Int32) : Prop := s_X4_endFamiliesOf_4 ng_F w Dg C d v1 (nI 0) (nI 0)
set_option maxRecDepth 100000 in
set_option maxHeartbeats 4000000 in
theorem e_X4_endFamiliesOf {G : ng_GG} {hp : (Nat → Int32) → (Nat → Int32) → (Nat → Int32) → (Nat → Int32) → (Nat → Int32) → (Nat → Int32) → (Nat → Int32) → ng_AM} {k : Nat} {a : Nat} {d : Bool} (V : ng_WL hp k a d) {w : Nat → Int32} {Dg : Nat → Int32} {dw : Nat → Int32} {C : Nat → Int32} {off : Nat → Int32} {dear : Nat → Int32} {proved : Nat → Int32}  {v1 : Int32} (h : s_X4_endFamiliesOf  w Dg C d v1)  : ng_Ev G md_X4_endFamiliesOf 0 [some (.ref k), some (.int v1), none, none] [] (hp w Dg dw C off dear proved) (K_X4_endFamiliesOf hp dw C off dear proved (f_X4_endFamiliesOf  w Dg C d v1)) := by
  unfold s_X4_endFamiliesOf at h
  unfold f_X4_endFamiliesOf
  refine ev_iconst (v := nI 0) dX4_endFamiliesOf_0 (by decide) ?_
  refine ev_istore_n (L' := [some (.ref k), some (.int v1), some (.int (nI 0)), none]) dX4_endFamiliesOf_1 rfl (ng_lt rfl) rfl ?_
  refine ev_iconst (v := nI 0) dX4_endFamiliesOf_2 (by decide) ?_
  refine ev_istore_n (L' := [some (.ref k), some (.int v1), some (.int (nI 0)), some (.int (nI 0))]) dX4_endFamiliesOf_3 rfl (ng_lt rfl) rfl ?_
  exact ev_sub (e_X4_endFamiliesOf_4 V ng_F w Dg dw C off dear proved v1 (nI 0) (nI 0) h) (sub_s (sub_s (sub_s (sub_s sub_e))))
theorem m_X4_endFamiliesOf {G : ng_GG} {hp : (Nat → Int32) → (Nat → Int32) → (Nat → Int32) → (Nat → Int32) → (Nat → Int32) → (Nat → Int32) → (Nat → Int32) → ng_AM} {k : Nat} {a : Nat} {d : Bool} (V : ng_WL hp k a d) {w : Nat → Int32} {Dg : Nat → Int32} {dw : Nat → Int32} {C : Nat → Int32} {off : Nat → Int32} {dear : Nat → Int32} {proved : Nat → Int32} {v1 : Int32} (h : s_X4_endFamiliesOf w Dg C d v1)  : ng_Ev G md_X4_endFamiliesOf 0 (ng_en 4 [.ref k, .int v1]) [] (hp w Dg dw C off dear proved) (K_X4_endFamiliesOf hp dw C off dear proved (f_X4_endFamiliesOf w Dg C d v1)) := e_X4_endFamiliesOf V h 
def K_X4_renew (hp : (Nat → Int32) → (Nat → Int32) → (Nat → Int32) → (Nat → Int32) → (Nat → Int32) → (Nat → Int32) → (Nat → Int32) → ng_AM) (Dg : Nat → Int32) (dw : Nat → Int32) (C : Nat → Int32) (off : Nat → Int32) (dear : Nat → Int32) (proved : Nat → Int32) (r : (Nat → Int32) × Int32) : ng_RR := (some (.int (r.2)), hp (r.1) Dg dw C off dear proved)
def f_X4_renew_110  (w : Nat → Int32) (C : Nat → Int32) (v1 : Int32) (v2 : Int32) (t0 : Int32) : (Nat → Int32) × Int32 := ((f_X4_addNoteLike w v1 (nI 1) (w (v2 + (nI 5)).toNatClampNeg)).1, nI 2)
def s_X4_renew_110  (w : Nat → Int32) (C : Nat → Int32) (v1 : Int32) (v2 : Int32) (t0 : Int32) : Prop := (vp_in (v2 + (nI 5)) 494 ∧ s_X4_addNoteLike w v1 (nI 1) (w (v2 + (nI 5)).toNatClampNeg))
set_option maxRecDepth 100000 in
set_option maxHeartbeats 4000000 in
theorem e_X4_renew_110 {G : ng_GG} {hp : (Nat → Int32) → (Nat → Int32) → (Nat → Int32) → (Nat → Int32) → (Nat → Int32) → (Nat → Int32) → (Nat → Int32) → ng_AM} {k : Nat} {a : Nat} {d : Bool} (V : ng_WL hp k a d) {w : Nat → Int32} {Dg : Nat → Int32} {dw : Nat → Int32} {C : Nat → Int32} {off : Nat → Int32} {dear : Nat → Int32} {proved : Nat → Int32}  {v1 : Int32} {v2 : Int32} {t0 : Int32} (h : s_X4_renew_110  w C v1 v2 t0)  : ng_Ev G md_X4_renew 110 [some (.ref k), some (.int v1), some (.int v2)] [.int t0] (hp w Dg dw C off dear proved) (K_X4_renew hp Dg dw C off dear proved (f_X4_renew_110  w C v1 v2 t0)) := by
  unfold s_X4_renew_110 at h
  unfold f_X4_renew_110
  refine ev_pop dX4_renew_110 rfl ?_
  refine ev_aload_n dX4_renew_111 rfl rfl rfl ?_
  refine ev_iload_n dX4_renew_112 rfl rfl ?_
  refine ev_iconst (v := nI 1) dX4_renew_113 (by decide) ?_
  refine ev_aload_n dX4_renew_114 rfl rfl rfl ?_
  refine ev_get 4 0 fl_RX4_11 (WL_gk V) rfl dX4_renew_115 ?_
  refine ev_iload_n dX4_renew_118 rfl rfl ?_
  refine ev_iconst (v := nI 5) dX4_renew_119 (by decide) ?_
  refine ev_iadd dX4_renew_120 ?_
  have hi121 := h.1
  replace h := h.2
  refine ev_iald (WL_ga V) hi121 dX4_renew_121 ?_
  have hs122 := h
  refine bk_callV (As := [.int v1, .int (nI 1), .int (w (v2 + (nI 5)).toNatClampNeg)]) (st := []) (st2 := [.int ((f_X4_addNoteLike w v1 (nI 1) (w (v2 + (nI 5)).toNatClampNeg)).2)]) (M2 := hp ((f_X4_addNoteLike w v1 (nI 1) (w (v2 + (nI 5)).toNatClampNeg)).1) Dg dw C off dear proved) ok_X4_addNoteLike lk_RX4_105 (ng_rok.of rfl rfl) (WL_gk V) rfl rfl rfl rfl rfl rfl dX4_renew_122 (m_X4_addNoteLike V hs122) rfl rfl ?_
  refine ev_pop dX4_renew_125 rfl ?_
  refine ev_iconst (v := nI 2) dX4_renew_126 (by decide) ?_
  exact ev_iret rfl rfl dX4_renew_127
def f_X4_renew_65  (w : Nat → Int32) (C : Nat → Int32) (v1 : Int32) (v2 : Int32) : (Nat → Int32) × Int32 := (if ((w (nI 1).toNatClampNeg) + (nI 2)) ≤ (nI 32) then f_X4_renew_110 ((f_X4_addNoteLike (upd w (v2 + (nI 9)).toNatClampNeg (nI 1)) v1 (nI 0) (((upd w (v2 + (nI 9)).toNatClampNeg (nI 1)) (nI 0).toNatClampNeg) + (C 0))).1) C v1 v2 ((f_X4_addNoteLike (upd w (v2 + (nI 9)).toNatClampNeg (nI 1)) v1 (nI 0) (((upd w (v2 + (nI 9)).toNatClampNeg (nI 1)) (nI 0).toNatClampNeg) + (C 0))).2) else (w, nI 0))
def s_X4_renew_65  (w : Nat → Int32) (C : Nat → Int32) (v1 : Int32) (v2 : Int32) : Prop := (((w (nI 1).toNatClampNeg) + (nI 2)) ≤ (nI 32) → (vp_in (v2 + (nI 9)) 494 ∧ (s_X4_addNoteLike (upd w (v2 + (nI 9)).toNatClampNeg (nI 1)) v1 (nI 0) (((upd w (v2 + (nI 9)).toNatClampNeg (nI 1)) (nI 0).toNatClampNeg) + (C 0)) ∧ s_X4_renew_110 ((f_X4_addNoteLike (upd w (v2 + (nI 9)).toNatClampNeg (nI 1)) v1 (nI 0) (((upd w (v2 + (nI 9)).toNatClampNeg (nI 1)) (nI 0).toNatClampNeg) + (C 0))).1) C v1 v2 ((f_X4_addNoteLike (upd w (v2 + (nI 9)).toNatClampNeg (nI 1)) v1 (nI 0) (((upd w (v2 + (nI 9)).toNatClampNeg (nI 1)) (nI 0).toNatClampNeg) + (C 0))).2))))
set_option maxRecDepth 100000 in
set_option maxHeartbeats 4000000 in
theorem e_X4_renew_65 {G : ng_GG} {hp : (Nat → Int32) → (Nat → Int32) → (Nat → Int32) → (Nat → Int32) → (Nat → Int32) → (Nat → Int32) → (Nat → Int32) → ng_AM} {k : Nat} {a : Nat} {d : Bool} (V : ng_WL hp k a d) {w : Nat → Int32} {Dg : Nat → Int32} {dw : Nat → Int32} {C : Nat → Int32} {off : Nat → Int32} {dear : Nat → Int32} {proved : Nat → Int32}  {v1 : Int32} {v2 : Int32} (h : s_X4_renew_65  w C v1 v2)  : ng_Ev G md_X4_renew 65 [some (.ref k), some (.int v1), some (.int v2)] [] (hp w Dg dw C off dear proved) (K_X4_renew hp Dg dw C off dear proved (f_X4_renew_65  w C v1 v2)) := by
  unfold s_X4_renew_65 at h
  unfold f_X4_renew_65
  refine ev_aload_n dX4_renew_65 rfl rfl rfl ?_
  refine ev_get 4 0 fl_RX4_11 (WL_gk V) rfl dX4_renew_66 ?_
  refine ev_iconst (v := nI 1) dX4_renew_69 (by decide) ?_
  refine ev_iald (WL_ga V) (vp_in_nI (by decide) (by decide)) dX4_renew_70 ?_
  refine ev_iconst (v := nI 2) dX4_renew_71 (by decide) ?_
  refine ev_iadd dX4_renew_72 ?_
  refine ev_bipush (v := nI 32) dX4_renew_73 (by decide) ?_
  refine bk_icmp_le (tgt := 80) dX4_renew_75 (by decide) (fun c75 => ?_) (fun c75 => ?_)
  · replace h := h c75
    refine ev_aload_n dX4_renew_80 rfl rfl rfl ?_
    refine ev_get 4 0 fl_RX4_11 (WL_gk V) rfl dX4_renew_81 ?_
    refine ev_iload_n dX4_renew_84 rfl rfl ?_
    refine ev_bipush (v := nI 9) dX4_renew_85 (by decide) ?_
    refine ev_iadd dX4_renew_87 ?_
    refine ev_iconst (v := nI 1) dX4_renew_88 (by decide) ?_
    have hi89 := h.1
    replace h := h.2
    refine ev_iast (WL_ga V) hi89 (WL_sa V) dX4_renew_89 ?_
    refine ev_aload_n dX4_renew_90 rfl rfl rfl ?_
    refine ev_iload_n dX4_renew_91 rfl rfl ?_
    refine ev_iconst (v := nI 0) dX4_renew_92 (by decide) ?_
    refine ev_aload_n dX4_renew_93 rfl rfl rfl ?_
    refine ev_get 4 0 fl_RX4_11 (WL_gk V) rfl dX4_renew_94 ?_
    refine ev_iconst (v := nI 0) dX4_renew_97 (by decide) ?_
    refine ev_iald (WL_ga V) (vp_in_nI (by decide) (by decide)) dX4_renew_98 ?_
    refine ev_aload_n dX4_renew_99 rfl rfl rfl ?_
    refine ev_get 4 1 fl_RX4_15 (WL_gk V) rfl dX4_renew_100 ?_
    refine ev_get 2 0 fl_RX4_102 (WL_g1 V) rfl dX4_renew_103 ?_
    refine ev_iadd dX4_renew_106 ?_
    have hs107 := h.1
    replace h := h.2
    refine bk_callV (As := [.int v1, .int (nI 0), .int (((upd w (v2 + (nI 9)).toNatClampNeg (nI 1)) (nI 0).toNatClampNeg) + (C 0))]) (st := []) (st2 := [.int ((f_X4_addNoteLike (upd w (v2 + (nI 9)).toNatClampNeg (nI 1)) v1 (nI 0) (((upd w (v2 + (nI 9)).toNatClampNeg (nI 1)) (nI 0).toNatClampNeg) + (C 0))).2)]) (M2 := hp ((f_X4_addNoteLike (upd w (v2 + (nI 9)).toNatClampNeg (nI 1)) v1 (nI 0) (((upd w (v2 + (nI 9)).toNatClampNeg (nI 1)) (nI 0).toNatClampNeg) + (C 0))).1) Dg dw C off dear proved) ok_X4_addNoteLike lk_RX4_105 (ng_rok.of rfl rfl) (WL_gk V) rfl rfl rfl rfl rfl rfl dX4_renew_107 (m_X4_addNoteLike V hs107) rfl rfl ?_
    exact ev_sub (e_X4_renew_110 V h) (sub_s (sub_s (sub_s sub_e)))
  · refine ev_iconst (v := nI 0) dX4_renew_78 (by decide) ?_
    exact ev_iret rfl rfl dX4_renew_79
def f_X4_renew  (w : Nat → Int32) (C : Nat → Int32) (v1 : Int32) : (Nat → Int32) × Int32 := (if (f_X4_isGoodForKeeper w C v1) = 0 then (w, nI 0) else (if (f_X2_isIn C (w (((nI 142) + (v1 * (nI 11))) + (nI 2)).toNatClampNeg)) = 0 then (w, nI 0) else (if (w (((nI 142) + (v1 * (nI 11))) + (nI 9)).toNatClampNeg) = (nI 1) then (if (f_X2_on C (nI 5)) = 0 then f_X4_renew_65 w C v1 ((nI 142) + (v1 * (nI 11))) else (w, nI 1)) else f_X4_renew_65 w C v1 ((nI 142) + (v1 * (nI 11))))))
def s_X4_renew  (w : Nat → Int32) (C : Nat → Int32) (v1 : Int32) : Prop := (s_X4_isGoodForKeeper w C v1 ∧ (¬ (f_X4_isGoodForKeeper w C v1) = 0 → (vp_in (((nI 142) + (v1 * (nI 11))) + (nI 2)) 494 ∧ (¬ (f_X2_isIn C (w (((nI 142) + (v1 * (nI 11))) + (nI 2)).toNatClampNeg)) = 0 → (vp_in (((nI 142) + (v1 * (nI 11))) + (nI 9)) 494 ∧ (((w (((nI 142) + (v1 * (nI 11))) + (nI 9)).toNatClampNeg) = (nI 1) → ((f_X2_on C (nI 5)) = 0 → s_X4_renew_65 w C v1 ((nI 142) + (v1 * (nI 11))))) ∧ (¬ (w (((nI 142) + (v1 * (nI 11))) + (nI 9)).toNatClampNeg) = (nI 1) → s_X4_renew_65 w C v1 ((nI 142) + (v1 * (nI 11))))))))))
set_option maxRecDepth 100000 in
set_option maxHeartbeats 4000000 in
theorem e_X4_renew {G : ng_GG} {hp : (Nat → Int32) → (Nat → Int32) → (Nat → Int32) → (Nat → Int32) → (Nat → Int32) → (Nat → Int32) → (Nat → Int32) → ng_AM} {k : Nat} {a : Nat} {d : Bool} (V : ng_WL hp k a d) {w : Nat → Int32} {Dg : Nat → Int32} {dw : Nat → Int32} {C : Nat → Int32} {off : Nat → Int32} {dear : Nat → Int32} {proved : Nat → Int32}  {v1 : Int32} (h : s_X4_renew  w C v1)  : ng_Ev G md_X4_renew 0 [some (.ref k), some (.int v1), none] [] (hp w Dg dw C off dear proved) (K_X4_renew hp Dg dw C off dear proved (f_X4_renew  w C v1)) := by
  unfold s_X4_renew at h
  unfold f_X4_renew
  refine ev_aload_n dX4_renew_0 rfl rfl rfl ?_
  refine ev_iload_n dX4_renew_1 rfl rfl ?_
  have hs2 := h.1
  replace h := h.2
  refine bk_callV (As := [.int v1]) (st := []) (st2 := [.int (f_X4_isGoodForKeeper w C v1)]) (M2 := hp w Dg dw C off dear proved) ok_X4_isGoodForKeeper lk_RX4_124 (ng_rok.of rfl rfl) (WL_gk V) rfl rfl rfl rfl rfl rfl dX4_renew_2 (m_X4_isGoodForKeeper (WL_R V) hs2) rfl rfl ?_
  refine bk_if_ne (tgt := 10) dX4_renew_5 (by decide) (fun c5 => ?_) (fun c5 => ?_)
  · replace h := h c5
    refine ev_sipush (v := nI 142) dX4_renew_10 (by decide) ?_
    refine ev_iload_n dX4_renew_13 rfl rfl ?_
    refine ev_bipush (v := nI 11) dX4_renew_14 (by decide) ?_
    refine ev_imul dX4_renew_16 ?_
    refine ev_iadd dX4_renew_17 ?_
    refine ev_istore_n (L' := [some (.ref k), some (.int v1), some (.int ((nI 142) + (v1 * (nI 11))))]) dX4_renew_18 rfl (ng_lt rfl) rfl ?_
    refine ev_aload_n dX4_renew_19 rfl rfl rfl ?_
    refine ev_get 4 1 fl_RX4_15 (WL_gk V) rfl dX4_renew_20 ?_
    refine ev_aload_n dX4_renew_23 rfl rfl rfl ?_
    refine ev_get 4 0 fl_RX4_11 (WL_gk V) rfl dX4_renew_24 ?_
    refine ev_iload_n dX4_renew_27 rfl rfl ?_
    refine ev_iconst (v := nI 2) dX4_renew_28 (by decide) ?_
    refine ev_iadd dX4_renew_29 ?_
    have hi30 := h.1
    replace h := h.2
    refine ev_iald (WL_ga V) hi30 dX4_renew_30 ?_
    refine bk_callV (As := [.int (w (((nI 142) + (v1 * (nI 11))) + (nI 2)).toNatClampNeg)]) (st := []) (st2 := [.int (f_X2_isIn C (w (((nI 142) + (v1 * (nI 11))) + (nI 2)).toNatClampNeg))]) (M2 := hp w Dg dw C off dear proved) ok_X2_isIn lk_RX4_92 (ng_rok.of rfl rfl) (WL_g1 V) rfl rfl rfl rfl rfl rfl dX4_renew_31 (m_X2_isIn (WL_RS V) trivial) rfl rfl ?_
    refine bk_if_ne (tgt := 39) dX4_renew_34 (by decide) (fun c34 => ?_) (fun c34 => ?_)
    · replace h := h c34
      refine ev_aload_n dX4_renew_39 rfl rfl rfl ?_
      refine ev_get 4 0 fl_RX4_11 (WL_gk V) rfl dX4_renew_40 ?_
      refine ev_iload_n dX4_renew_43 rfl rfl ?_
      refine ev_bipush (v := nI 9) dX4_renew_44 (by decide) ?_
      refine ev_iadd dX4_renew_46 ?_
      have hi47 := h.1
      replace h := h.2
      refine ev_iald (WL_ga V) hi47 dX4_renew_47 ?_
      refine ev_iconst (v := nI 1) dX4_renew_48 (by decide) ?_
      refine bk_icmp_ne (tgt := 65) dX4_renew_49 (by decide) (fun c49 => ?_) (fun c49 => ?_)
      · replace h := h.2 c49
        exact ev_sub (e_X4_renew_65 V h) (sub_s (sub_s (sub_s sub_e)))
      · replace h := h.1 c49
        refine ev_aload_n dX4_renew_52 rfl rfl rfl ?_
        refine ev_get 4 1 fl_RX4_15 (WL_gk V) rfl dX4_renew_53 ?_
        refine ev_iconst (v := nI 5) dX4_renew_56 (by decide) ?_
        refine bk_callV (As := [.int (nI 5)]) (st := []) (st2 := [.int (f_X2_on C (nI 5))]) (M2 := hp w Dg dw C off dear proved) ok_X2_on lk_RX4_127 (ng_rok.of rfl rfl) (WL_g1 V) rfl rfl rfl rfl rfl rfl dX4_renew_57 (m_X2_on (WL_RS V) trivial) rfl rfl ?_
        refine bk_if_eq (tgt := 65) dX4_renew_60 (by decide) (fun c60 => ?_) (fun c60 => ?_)
        · replace h := h c60
          exact ev_sub (e_X4_renew_65 V h) (sub_s (sub_s (sub_s sub_e)))
        · refine ev_iconst (v := nI 1) dX4_renew_63 (by decide) ?_
          exact ev_iret rfl rfl dX4_renew_64
    · refine ev_iconst (v := nI 0) dX4_renew_37 (by decide) ?_
      exact ev_iret rfl rfl dX4_renew_38
  · refine ev_iconst (v := nI 0) dX4_renew_8 (by decide) ?_
    exact ev_iret rfl rfl dX4_renew_9
theorem m_X4_renew {G : ng_GG} {hp : (Nat → Int32) → (Nat → Int32) → (Nat → Int32) → (Nat → Int32) → (Nat → Int32) → (Nat → Int32) → (Nat → Int32) → ng_AM} {k : Nat} {a : Nat} {d : Bool} (V : ng_WL hp k a d) {w : Nat → Int32} {Dg : Nat → Int32} {dw : Nat → Int32} {C : Nat → Int32} {off : Nat → Int32} {dear : Nat → Int32} {proved : Nat → Int32} {v1 : Int32} (h : s_X4_renew w C v1)  : ng_Ev G md_X4_renew 0 (ng_en 3 [.ref k, .int v1]) [] (hp w Dg dw C off dear proved) (K_X4_renew hp Dg dw C off dear proved (f_X4_renew w C v1)) := e_X4_renew V h 
def K_X4_turnComes (hp : (Nat → Int32) → (Nat → Int32) → (Nat → Int32) → (Nat → Int32) → (Nat → Int32) → (Nat → Int32) → (Nat → Int32) → ng_AM) (dw : Nat → Int32) (C : Nat → Int32) (off : Nat → Int32) (dear : Nat → Int32) (proved : Nat → Int32) (r : (Nat → Int32) × (Nat → Int32) × Int32) : ng_RR := (some (.int (r.2.2)), hp (r.1) (r.2.1) dw C off dear proved)
def f_X4_turnComes_55  (w : Nat → Int32) (Dg : Nat → Int32) (C : Nat → Int32) (d : Bool) (v4 : Int32) : (Nat → Int32) × (Nat → Int32) × Int32 := (if v4 = 0 then (w, Dg, nI 0) else (w, Dg, nI 1))
def s_X4_turnComes_55  (w : Nat → Int32) (Dg : Nat → Int32) (C : Nat → Int32) (d : Bool) (v4 : Int32) : Prop := True
set_option maxRecDepth 100000 in
set_option maxHeartbeats 4000000 in
theorem e_X4_turnComes_55 {G : ng_GG} {hp : (Nat → Int32) → (Nat → Int32) → (Nat → Int32) → (Nat → Int32) → (Nat → Int32) → (Nat → Int32) → (Nat → Int32) → ng_AM} {k : Nat} {a : Nat} {d : Bool} (V : ng_WL hp k a d) {w : Nat → Int32} {Dg : Nat → Int32} {dw : Nat → Int32} {C : Nat → Int32} {off : Nat → Int32} {dear : Nat → Int32} {proved : Nat → Int32}  {v4 : Int32} (h : s_X4_turnComes_55  w Dg C d v4)  : ng_Ev G md_X4_turnComes 55 [none, none, none, none, some (.int v4)] [] (hp w Dg dw C off dear proved) (K_X4_turnComes hp dw C off dear proved (f_X4_turnComes_55  w Dg C d v4)) := by
  unfold s_X4_turnComes_55 at h
  unfold f_X4_turnComes_55
  refine ev_iload dX4_turnComes_55 rfl ?_
  refine bk_if_ne (tgt := 64) dX4_turnComes_57 (by decide) (fun c57 => ?_) (fun c57 => ?_)
  · refine ev_iconst (v := nI 1) dX4_turnComes_64 (by decide) ?_
    exact ev_iret rfl rfl dX4_turnComes_65
  · refine ev_iconst (v := nI 0) dX4_turnComes_60 (by decide) ?_
    refine ev_goto (tgt := 65) dX4_turnComes_61 (by decide) ?_
    exact ev_iret rfl rfl dX4_turnComes_65
def f_X4_turnComes_38  (w : Nat → Int32) (Dg : Nat → Int32) (C : Nat → Int32) (d : Bool) (v2 : Int32) (v4 : Int32) : (Nat → Int32) × (Nat → Int32) × Int32 := (if v4 = (nI 1) then f_X4_turnComes_55 ((f_X4_endFamily w Dg C d (f_X4_noteWord w v2 (nI 6))).1) ((f_X4_endFamily w Dg C d (f_X4_noteWord w v2 (nI 6))).2) C d v4 else f_X4_turnComes_55 w Dg C d v4)
def s_X4_turnComes_38  (w : Nat → Int32) (Dg : Nat → Int32) (C : Nat → Int32) (d : Bool) (v2 : Int32) (v4 : Int32) : Prop := ((v4 = (nI 1) → (s_X4_noteWord w v2 (nI 6) ∧ (s_X4_endFamily w Dg C d (f_X4_noteWord w v2 (nI 6)) ∧ s_X4_turnComes_55 ((f_X4_endFamily w Dg C d (f_X4_noteWord w v2 (nI 6))).1) ((f_X4_endFamily w Dg C d (f_X4_noteWord w v2 (nI 6))).2) C d v4))) ∧ (¬ v4 = (nI 1) → s_X4_turnComes_55 w Dg C d v4))
set_option maxRecDepth 100000 in
set_option maxHeartbeats 4000000 in
theorem e_X4_turnComes_38 {G : ng_GG} {hp : (Nat → Int32) → (Nat → Int32) → (Nat → Int32) → (Nat → Int32) → (Nat → Int32) → (Nat → Int32) → (Nat → Int32) → ng_AM} {k : Nat} {a : Nat} {d : Bool} (V : ng_WL hp k a d) {w : Nat → Int32} {Dg : Nat → Int32} {dw : Nat → Int32} {C : Nat → Int32} {off : Nat → Int32} {dear : Nat → Int32} {proved : Nat → Int32}  {v2 : Int32} {v4 : Int32} (h : s_X4_turnComes_38  w Dg C d v2 v4)  : ng_Ev G md_X4_turnComes 38 [some (.ref k), none, some (.int v2), none, some (.int v4)] [] (hp w Dg dw C off dear proved) (K_X4_turnComes hp dw C off dear proved (f_X4_turnComes_38  w Dg C d v2 v4)) := by
  unfold s_X4_turnComes_38 at h
  unfold f_X4_turnComes_38
  refine ev_iload dX4_turnComes_38 rfl ?_
  refine ev_iconst (v := nI 1) dX4_turnComes_40 (by decide) ?_
  refine bk_icmp_ne (tgt := 55) dX4_turnComes_41 (by decide) (fun c41 => ?_) (fun c41 => ?_)
  · replace h := h.2 c41
    exact ev_sub (e_X4_turnComes_55 V h) (sub_n (sub_n (sub_n (sub_n (sub_s sub_e)))))
  · replace h := h.1 c41
    refine ev_aload_n dX4_turnComes_44 rfl rfl rfl ?_
    refine ev_aload_n dX4_turnComes_45 rfl rfl rfl ?_
    refine ev_iload_n dX4_turnComes_46 rfl rfl ?_
    refine ev_bipush (v := nI 6) dX4_turnComes_47 (by decide) ?_
    have hs49 := h.1
    replace h := h.2
    refine bk_callV (As := [.int v2, .int (nI 6)]) (st := [.ref k]) (st2 := [.int (f_X4_noteWord w v2 (nI 6)), .ref k]) (M2 := hp w Dg dw C off dear proved) ok_X4_noteWord lk_RX4_114 (ng_rok.of rfl rfl) (WL_gk V) rfl rfl rfl rfl rfl rfl dX4_turnComes_49 (m_X4_noteWord (WL_R V) hs49) rfl rfl ?_
    have hs52 := h.1
    replace h := h.2
    refine bk_callV (As := [.int (f_X4_noteWord w v2 (nI 6))]) (st := []) (st2 := []) (M2 := hp ((f_X4_endFamily w Dg C d (f_X4_noteWord w v2 (nI 6))).1) ((f_X4_endFamily w Dg C d (f_X4_noteWord w v2 (nI 6))).2) dw C off dear proved) ok_X4_endFamily lk_RX4_117 (ng_rok.of rfl rfl) (WL_gk V) rfl rfl rfl rfl rfl rfl dX4_turnComes_52 (m_X4_endFamily V hs52) rfl rfl ?_
    exact ev_sub (e_X4_turnComes_55 V h) (sub_n (sub_n (sub_n (sub_n (sub_s sub_e)))))
def f_X4_turnComes_5  (w : Nat → Int32) (Dg : Nat → Int32) (C : Nat → Int32) (d : Bool) (v1 : Int32) (v2 : Int32) (v3 : Int32) (t0 : Int32) : (Nat → Int32) × (Nat → Int32) × Int32 := (if t0 = (nI 2) then f_X4_turnComes_38 ((f_X4_post w Dg C d (nI 9) v1 (nI 1) ((w (nI 1).toNatClampNeg) - (nI 2)) ((w (nI 1).toNatClampNeg) - (nI 1)) v3).1) ((f_X4_post w Dg C d (nI 9) v1 (nI 1) ((w (nI 1).toNatClampNeg) - (nI 2)) ((w (nI 1).toNatClampNeg) - (nI 1)) v3).2) C d v2 t0 else f_X4_turnComes_38 w Dg C d v2 t0)
def s_X4_turnComes_5  (w : Nat → Int32) (Dg : Nat → Int32) (C : Nat → Int32) (d : Bool) (v1 : Int32) (v2 : Int32) (v3 : Int32) (t0 : Int32) : Prop := ((t0 = (nI 2) → (s_X4_post w Dg C d (nI 9) v1 (nI 1) ((w (nI 1).toNatClampNeg) - (nI 2)) ((w (nI 1).toNatClampNeg) - (nI 1)) v3 ∧ s_X4_turnComes_38 ((f_X4_post w Dg C d (nI 9) v1 (nI 1) ((w (nI 1).toNatClampNeg) - (nI 2)) ((w (nI 1).toNatClampNeg) - (nI 1)) v3).1) ((f_X4_post w Dg C d (nI 9) v1 (nI 1) ((w (nI 1).toNatClampNeg) - (nI 2)) ((w (nI 1).toNatClampNeg) - (nI 1)) v3).2) C d v2 t0)) ∧ (¬ t0 = (nI 2) → s_X4_turnComes_38 w Dg C d v2 t0))
set_option maxRecDepth 100000 in
set_option maxHeartbeats 4000000 in
theorem e_X4_turnComes_5 {G : ng_GG} {hp : (Nat → Int32) → (Nat → Int32) → (Nat → Int32) → (Nat → Int32) → (Nat → Int32) → (Nat → Int32) → (Nat → Int32) → ng_AM} {k : Nat} {a : Nat} {d : Bool} (V : ng_WL hp k a d) {w : Nat → Int32} {Dg : Nat → Int32} {dw : Nat → Int32} {C : Nat → Int32} {off : Nat → Int32} {dear : Nat → Int32} {proved : Nat → Int32}  {v1 : Int32} {v2 : Int32} {v3 : Int32} {t0 : Int32} (h : s_X4_turnComes_5  w Dg C d v1 v2 v3 t0)  : ng_Ev G md_X4_turnComes 5 [some (.ref k), some (.int v1), some (.int v2), some (.int v3), none] [.int t0] (hp w Dg dw C off dear proved) (K_X4_turnComes hp dw C off dear proved (f_X4_turnComes_5  w Dg C d v1 v2 v3 t0)) := by
  unfold s_X4_turnComes_5 at h
  unfold f_X4_turnComes_5
  refine ev_istore (L' := [some (.ref k), some (.int v1), some (.int v2), some (.int v3), some (.int t0)]) dX4_turnComes_5 (ng_lt rfl) rfl ?_
  refine ev_iload dX4_turnComes_7 rfl ?_
  refine ev_iconst (v := nI 2) dX4_turnComes_9 (by decide) ?_
  refine bk_icmp_ne (tgt := 38) dX4_turnComes_10 (by decide) (fun c10 => ?_) (fun c10 => ?_)
  · replace h := h.2 c10
    exact ev_sub (e_X4_turnComes_38 V h) (sub_s (sub_n (sub_s (sub_n (sub_s sub_e)))))
  · replace h := h.1 c10
    refine ev_aload_n dX4_turnComes_13 rfl rfl rfl ?_
    refine ev_bipush (v := nI 9) dX4_turnComes_14 (by decide) ?_
    refine ev_iload_n dX4_turnComes_16 rfl rfl ?_
    refine ev_iconst (v := nI 1) dX4_turnComes_17 (by decide) ?_
    refine ev_aload_n dX4_turnComes_18 rfl rfl rfl ?_
    refine ev_get 4 0 fl_RX4_11 (WL_gk V) rfl dX4_turnComes_19 ?_
    refine ev_iconst (v := nI 1) dX4_turnComes_22 (by decide) ?_
    refine ev_iald (WL_ga V) (vp_in_nI (by decide) (by decide)) dX4_turnComes_23 ?_
    refine ev_iconst (v := nI 2) dX4_turnComes_24 (by decide) ?_
    refine ev_isub dX4_turnComes_25 ?_
    refine ev_aload_n dX4_turnComes_26 rfl rfl rfl ?_
    refine ev_get 4 0 fl_RX4_11 (WL_gk V) rfl dX4_turnComes_27 ?_
    refine ev_iconst (v := nI 1) dX4_turnComes_30 (by decide) ?_
    refine ev_iald (WL_ga V) (vp_in_nI (by decide) (by decide)) dX4_turnComes_31 ?_
    refine ev_iconst (v := nI 1) dX4_turnComes_32 (by decide) ?_
    refine ev_isub dX4_turnComes_33 ?_
    refine ev_iload_n dX4_turnComes_34 rfl rfl ?_
    have hs35 := h.1
    replace h := h.2
    refine bk_callV (As := [.int (nI 9), .int v1, .int (nI 1), .int ((w (nI 1).toNatClampNeg) - (nI 2)), .int ((w (nI 1).toNatClampNeg) - (nI 1)), .int v3]) (st := []) (st2 := []) (M2 := hp ((f_X4_post w Dg C d (nI 9) v1 (nI 1) ((w (nI 1).toNatClampNeg) - (nI 2)) ((w (nI 1).toNatClampNeg) - (nI 1)) v3).1) ((f_X4_post w Dg C d (nI 9) v1 (nI 1) ((w (nI 1).toNatClampNeg) - (nI 2)) ((w (nI 1).toNatClampNeg) - (nI 1)) v3).2) dw C off dear proved) ok_X4_post lk_RX4_54 (ng_rok.of rfl rfl) (WL_gk V) rfl rfl rfl rfl rfl rfl dX4_turnComes_35 (m_X4_post V hs35) rfl rfl ?_
    exact ev_sub (e_X4_turnComes_38 V h) (sub_s (sub_n (sub_s (sub_n (sub_s sub_e)))))
def f_X4_turnComes  (w : Nat → Int32) (Dg : Nat → Int32) (C : Nat → Int32) (d : Bool) (v1 : Int32) (v2 : Int32) (v3 : Int32) : (Nat → Int32) × (Nat → Int32) × Int32 := f_X4_turnComes_5 ((f_X4_renew w C v2).1) Dg C d v1 v2 v3 ((f_X4_renew w C v2).2)
def s_X4_turnComes  (w : Nat → Int32) (Dg : Nat → Int32) (C : Nat → Int32) (d : Bool) (v1 : Int32) (v2 : Int32) (v3 : Int32) : Prop := (s_X4_renew w C v2 ∧ s_X4_turnComes_5 ((f_X4_renew w C v2).1) Dg C d v1 v2 v3 ((f_X4_renew w C v2).2))
set_option maxRecDepth 100000 in
set_option maxHeartbeats 4000000 in
theorem e_X4_turnComes {G : ng_GG} {hp : (Nat → Int32) → (Nat → Int32) → (Nat → Int32) → (Nat → Int32) → (Nat → Int32) → (Nat → Int32) → (Nat → Int32) → ng_AM} {k : Nat} {a : Nat} {d : Bool} (V : ng_WL hp k a d) {w : Nat → Int32} {Dg : Nat → Int32} {dw : Nat → Int32} {C : Nat → Int32} {off : Nat → Int32} {dear : Nat → Int32} {proved : Nat → Int32}  {v1 : Int32} {v2 : Int32} {v3 : Int32} (h : s_X4_turnComes  w Dg C d v1 v2 v3)  : ng_Ev G md_X4_turnComes 0 [some (.ref k), some (.int v1), some (.int v2), some (.int v3), none] [] (hp w Dg dw C off dear proved) (K_X4_turnComes hp dw C off dear proved (f_X4_turnComes  w Dg C d v1 v2 v3)) := by
  unfold s_X4_turnComes at h
  unfold f_X4_turnComes
  refine ev_aload_n dX4_turnComes_0 rfl rfl rfl ?_
  refine ev_iload_n dX4_turnComes_1 rfl rfl ?_
  have hs2 := h.1
  replace h := h.2
  refine bk_callV (As := [.int v2]) (st := []) (st2 := [.int ((f_X4_renew w C v2).2)]) (M2 := hp ((f_X4_renew w C v2).1) Dg dw C off dear proved) ok_X4_renew lk_RX4_111 (ng_rok.of rfl rfl) (WL_gk V) rfl rfl rfl rfl rfl rfl dX4_turnComes_2 (m_X4_renew V hs2) rfl rfl ?_
  exact ev_sub (e_X4_turnComes_5 V h) (sub_s (sub_s (sub_s (sub_s (sub_n sub_e)))))
theorem m_X4_turnComes {G : ng_GG} {hp : (Nat → Int32) → (Nat → Int32) → (Nat → Int32) → (Nat → Int32) → (Nat → Int32) → (Nat → Int32) → (Nat → Int32) → ng_AM} {k : Nat} {a : Nat} {d : Bool} (V : ng_WL hp k a d) {w : Nat → Int32} {Dg : Nat → Int32} {dw : Nat → Int32} {C : Nat → Int32} {off : Nat → Int32} {dear : Nat → Int32} {proved : Nat → Int32} {v1 : Int32} {v2 : Int32} {v3 : Int32} (h : s_X4_turnComes w Dg C d v1 v2 v3)  : ng_Ev G md_X4_turnComes 0 (ng_en 5 [.ref k, .int v1, .int v2, .int v3]) [] (hp w Dg dw C off dear proved) (K_X4_turnComes hp dw C off dear proved (f_X4_turnComes w Dg C d v1 v2 v3)) := e_X4_turnComes V h 
