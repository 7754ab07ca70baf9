def K_X4_thiefTurns (hp : (Nat → Int32) → (Nat → Int32) → (Nat → Int32) → (Nat → Int32) → (Nat → Int32) → (Nat → Int32) → (Nat → Int32) → ng_AM) (dw : Nat → Int32) (C : Nat → Int32) (off : Nat → Int32) (dear : Nat → Int32) (proved : Nat → Int32) (r : (Nat → Int32) × (Nat → Int32) × Int32) : ng_RR := (some (.int (r.2.2)), hp (r.1) (r.2.1) dw C off dear proved)
def f_X4_thiefTurns_53  (w : Nat → Int32) (Dg : Nat → Int32) (C : Nat → Int32) (d : Bool) (v2 : Int32) : (Nat → Int32) × (Nat → Int32) × Int32 := (if v2 = 0 then (w, Dg, nI 0) else (w, Dg, nI 1))
def s_X4_thiefTurns_53  (w : Nat → Int32) (Dg : Nat → Int32) (C : Nat → Int32) (d : Bool) (v2 : Int32) : Prop := True
set_option maxRecDepth 100000 in
set_option maxHeartbeats 4000000 in
theorem e_X4_thiefTurns_53 {G : ng_GG} {hp : (Nat → Int32) → (Nat → Int32) → (Nat → Int32) → (Nat → Int32) → (Nat → Int32) → (Nat → Int32) → (Nat → Int32) → ng_AM} {k : Nat} {a : Nat} {d : Bool} (V : ng_WL hp k a d) {w : Nat → Int32} {Dg : Nat → Int32} {dw : Nat → Int32} {C : Nat → Int32} {off : Nat → Int32} {dear : Nat → Int32} {proved : Nat → Int32}  {v2 : Int32} (h : s_X4_thiefTurns_53  w Dg C d v2)  : ng_Ev G md_X4_thiefTurns 53 [none, none, some (.int v2)] [] (hp w Dg dw C off dear proved) (K_X4_thiefTurns hp dw C off dear proved (f_X4_thiefTurns_53  w Dg C d v2)) := by
  unfold s_X4_thiefTurns_53 at h
  unfold f_X4_thiefTurns_53
  refine ev_iload_n dX4_thiefTurns_53 rfl rfl ?_
  refine bk_if_eq (tgt := 61) dX4_thiefTurns_54 (by decide) (fun c54 => ?_) (fun c54 => ?_)
  · refine ev_iconst (v := nI 0) dX4_thiefTurns_61 (by decide) ?_
    exact ev_iret rfl (by decide) dX4_thiefTurns_62
  · refine ev_iconst (v := nI 1) dX4_thiefTurns_57 (by decide) ?_
    refine ev_goto (tgt := 62) dX4_thiefTurns_58 (by decide) ?_
    exact ev_iret rfl (by decide) dX4_thiefTurns_62
def f_X4_thiefTurns_37  (w : Nat → Int32) (Dg : Nat → Int32) (C : Nat → Int32) (d : Bool) (v1 : Int32) (v2 : Int32) : (Nat → Int32) × (Nat → Int32) × Int32 := (if v2 = (nI 1) then f_X4_thiefTurns_53 ((f_X4_endFamily w Dg C d (f_X4_noteWord w v1 (nI 6))).1) ((f_X4_endFamily w Dg C d (f_X4_noteWord w v1 (nI 6))).2) C d v2 else f_X4_thiefTurns_53 w Dg C d v2)
def s_X4_thiefTurns_37  (w : Nat → Int32) (Dg : Nat → Int32) (C : Nat → Int32) (d : Bool) (v1 : Int32) (v2 : Int32) : Prop := ((v2 = (nI 1) → (s_X4_noteWord w v1 (nI 6) ∧ (s_X4_endFamily w Dg C d (f_X4_noteWord w v1 (nI 6)) ∧ s_X4_thiefTurns_53 ((f_X4_endFamily w Dg C d (f_X4_noteWord w v1 (nI 6))).1) ((f_X4_endFamily w Dg C d (f_X4_noteWord w v1 (nI 6))).2) C d v2))) ∧ (¬ v2 = (nI 1) → s_X4_thiefTurns_53 w Dg C d v2))
set_option maxRecDepth 100000 in
set_option maxHeartbeats 4000000 in
theorem e_X4_thiefTurns_37 {G : ng_GG} {hp : (Nat → Int32) → (Nat → Int32) → (Nat → Int32) → (Nat → Int32) → (Nat → Int32) → (Nat → Int32) → (Nat → Int32) → ng_AM} {k : Nat} {a : Nat} {d : Bool} (V : ng_WL hp k a d) {w : Nat → Int32} {Dg : Nat → Int32} {dw : Nat → Int32} {C : Nat → Int32} {off : Nat → Int32} {dear : Nat → Int32} {proved : Nat → Int32}  {v1 : Int32} {v2 : Int32} (h : s_X4_thiefTurns_37  w Dg C d v1 v2)  : ng_Ev G md_X4_thiefTurns 37 [some (.ref k), some (.int v1), some (.int v2)] [] (hp w Dg dw C off dear proved) (K_X4_thiefTurns hp dw C off dear proved (f_X4_thiefTurns_37  w Dg C d v1 v2)) := by
  unfold s_X4_thiefTurns_37 at h
  unfold f_X4_thiefTurns_37
  refine ev_iload_n dX4_thiefTurns_37 rfl rfl ?_
  refine ev_iconst (v := nI 1) dX4_thiefTurns_38 (by decide) ?_
  refine bk_icmp_ne (tgt := 53) dX4_thiefTurns_39 (by decide) (fun c39 => ?_) (fun c39 => ?_)
  · replace h := h.2 c39
    exact ev_sub (e_X4_thiefTurns_53 V h) (sub_n (sub_n (sub_s sub_e)))
  · replace h := h.1 c39
    refine ev_aload_n dX4_thiefTurns_42 rfl rfl rfl ?_
    refine ev_aload_n dX4_thiefTurns_43 rfl rfl rfl ?_
    refine ev_iload_n dX4_thiefTurns_44 rfl rfl ?_
    refine ev_bipush (v := nI 6) dX4_thiefTurns_45 (by decide) ?_
    have hs47 := h.1
    replace h := h.2
    refine bk_callV (As := [.int v1, .int (nI 6)]) (st := [.ref k]) (st2 := [.int (f_X4_noteWord w v1 (nI 6)), .ref k]) (M2 := hp w Dg dw C off dear proved) ok_X4_noteWord lk_RX4_114 (ng_rok.of rfl rfl) (WL_gk V) rfl rfl rfl rfl rfl rfl dX4_thiefTurns_47 (m_X4_noteWord (WL_R V) hs47) rfl rfl ?_
    have hs50 := h.1
    replace h := h.2
    refine bk_callV (As := [.int (f_X4_noteWord w v1 (nI 6))]) (st := []) (st2 := []) (M2 := hp ((f_X4_endFamily w Dg C d (f_X4_noteWord w v1 (nI 6))).1) ((f_X4_endFamily w Dg C d (f_X4_noteWord w v1 (nI 6))).2) dw C off dear proved) ok_X4_endFamily lk_RX4_117 (ng_rok.of rfl rfl) (WL_gk V) rfl rfl rfl rfl rfl rfl dX4_thiefTurns_50 (m_X4_endFamily V hs50) rfl rfl ?_
    exact ev_sub (e_X4_thiefTurns_53 V h) (sub_n (sub_n (sub_s sub_e)))
def f_X4_thiefTurns_24  (w : Nat → Int32) (Dg : Nat → Int32) (C : Nat → Int32) (d : Bool) (v1 : Int32) (v2 : Int32) : (Nat → Int32) × (Nat → Int32) × Int32 := f_X4_thiefTurns_37 (f_X4_letHave w (nI 4) ((w (nI 1).toNatClampNeg) - (nI 1))) Dg C d v1 v2
def s_X4_thiefTurns_24  (w : Nat → Int32) (Dg : Nat → Int32) (C : Nat → Int32) (d : Bool) (v1 : Int32) (v2 : Int32) : Prop := (s_X4_letHave w (nI 4) ((w (nI 1).toNatClampNeg) - (nI 1)) ∧ s_X4_thiefTurns_37 (f_X4_letHave w (nI 4) ((w (nI 1).toNatClampNeg) - (nI 1))) Dg C d v1 v2)
set_option maxRecDepth 100000 in
set_option maxHeartbeats 4000000 in
theorem e_X4_thiefTurns_24 {G : ng_GG} {hp : (Nat → Int32) → (Nat → Int32) → (Nat → Int32) → (Nat → Int32) → (Nat → Int32) → (Nat → Int32) → (Nat → Int32) → ng_AM} {k : Nat} {a : Nat} {d : Bool} (V : ng_WL hp k a d) {w : Nat → Int32} {Dg : Nat → Int32} {dw : Nat → Int32} {C : Nat → Int32} {off : Nat → Int32} {dear : Nat → Int32} {proved : Nat → Int32}  {v1 : Int32} {v2 : Int32} (h : s_X4_thiefTurns_24  w Dg C d v1 v2)  : ng_Ev G md_X4_thiefTurns 24 [some (.ref k), some (.int v1), some (.int v2)] [] (hp w Dg dw C off dear proved) (K_X4_thiefTurns hp dw C off dear proved (f_X4_thiefTurns_24  w Dg C d v1 v2)) := by
  unfold s_X4_thiefTurns_24 at h
  unfold f_X4_thiefTurns_24
  refine ev_aload_n dX4_thiefTurns_24 rfl rfl rfl ?_
  refine ev_iconst (v := nI 4) dX4_thiefTurns_25 (by decide) ?_
  refine ev_aload_n dX4_thiefTurns_26 rfl rfl rfl ?_
  refine ev_get 4 0 fl_RX4_11 (WL_gk V) rfl dX4_thiefTurns_27 ?_
  refine ev_iconst (v := nI 1) dX4_thiefTurns_30 (by decide) ?_
  refine ev_iald (WL_ga V) (vp_in_nI (by decide) (by decide)) dX4_thiefTurns_31 ?_
  refine ev_iconst (v := nI 1) dX4_thiefTurns_32 (by decide) ?_
  refine ev_isub dX4_thiefTurns_33 ?_
  have hs34 := h.1
  replace h := h.2
  refine bk_callV (As := [.int (nI 4), .int ((w (nI 1).toNatClampNeg) - (nI 1))]) (st := []) (st2 := []) (M2 := hp (f_X4_letHave w (nI 4) ((w (nI 1).toNatClampNeg) - (nI 1))) Dg dw C off dear proved) ok_X4_letHave lk_RX4_120 (ng_rok.of rfl rfl) (WL_gk V) rfl rfl rfl rfl rfl rfl dX4_thiefTurns_34 (m_X4_letHave V hs34) rfl rfl ?_
  exact ev_sub (e_X4_thiefTurns_37 V h) (sub_s (sub_s (sub_s sub_e)))
def f_X4_thiefTurns_5  (w : Nat → Int32) (Dg : Nat → Int32) (C : Nat → Int32) (d : Bool) (v1 : Int32) (t0 : Int32) : (Nat → Int32) × (Nat → Int32) × Int32 := (if t0 = (nI 2) then f_X4_thiefTurns_24 (f_X4_letHave w (nI 4) ((w (nI 1).toNatClampNeg) - (nI 2))) Dg C d v1 t0 else f_X4_thiefTurns_37 w Dg C d v1 t0)
def s_X4_thiefTurns_5  (w : Nat → Int32) (Dg : Nat → Int32) (C : Nat → Int32) (d : Bool) (v1 : Int32) (t0 : Int32) : Prop := ((t0 = (nI 2) → (s_X4_letHave w (nI 4) ((w (nI 1).toNatClampNeg) - (nI 2)) ∧ s_X4_thiefTurns_24 (f_X4_letHave w (nI 4) ((w (nI 1).toNatClampNeg) - (nI 2))) Dg C d v1 t0)) ∧ (¬ t0 = (nI 2) → s_X4_thiefTurns_37 w Dg C d v1 t0))
set_option maxRecDepth 100000 in
set_option maxHeartbeats 4000000 in
theorem e_X4_thiefTurns_5 {G : ng_GG} {hp : (Nat → Int32) → (Nat → Int32) → (Nat → Int32) → (Nat → Int32) → (Nat → Int32) → (Nat → Int32) → (Nat → Int32) → ng_AM} {k : Nat} {a : Nat} {d : Bool} (V : ng_WL hp k a d) {w : Nat → Int32} {Dg : Nat → Int32} {dw : Nat → Int32} {C : Nat → Int32} {off : Nat → Int32} {dear : Nat → Int32} {proved : Nat → Int32}  {v1 : Int32} {t0 : Int32} (h : s_X4_thiefTurns_5  w Dg C d v1 t0)  : ng_Ev G md_X4_thiefTurns 5 [some (.ref k), some (.int v1), none] [.int t0] (hp w Dg dw C off dear proved) (K_X4_thiefTurns hp dw C off dear proved (f_X4_thiefTurns_5  w Dg C d v1 t0)) := by
  unfold s_X4_thiefTurns_5 at h
  unfold f_X4_thiefTurns_5
  refine ev_istore_n (L' := [some (.ref k), some (.int v1), some (.int t0)]) dX4_thiefTurns_5 rfl (ng_lt rfl) rfl ?_
  refine ev_iload_n dX4_thiefTurns_6 rfl rfl ?_
  refine ev_iconst (v := nI 2) dX4_thiefTurns_7 (by decide) ?_
  refine bk_icmp_ne (tgt := 37) dX4_thiefTurns_8 (by decide) (fun c8 => ?_) (fun c8 => ?_)
  · replace h := h.2 c8
    exact ev_sub (e_X4_thiefTurns_37 V h) (sub_s (sub_s (sub_s sub_e)))
  · replace h := h.1 c8
    refine ev_aload_n dX4_thiefTurns_11 rfl rfl rfl ?_
    refine ev_iconst (v := nI 4) dX4_thiefTurns_12 (by decide) ?_
    refine ev_aload_n dX4_thiefTurns_13 rfl rfl rfl ?_
    refine ev_get 4 0 fl_RX4_11 (WL_gk V) rfl dX4_thiefTurns_14 ?_
    refine ev_iconst (v := nI 1) dX4_thiefTurns_17 (by decide) ?_
    refine ev_iald (WL_ga V) (vp_in_nI (by decide) (by decide)) dX4_thiefTurns_18 ?_
    refine ev_iconst (v := nI 2) dX4_thiefTurns_19 (by decide) ?_
    refine ev_isub dX4_thiefTurns_20 ?_
    have hs21 := h.1
    replace h := h.2
    refine bk_callV (As := [.int (nI 4), .int ((w (nI 1).toNatClampNeg) - (nI 2))]) (st := []) (st2 := []) (M2 := hp (f_X4_letHave w (nI 4) ((w (nI 1).toNatClampNeg) - (nI 2))) Dg dw C off dear proved) ok_X4_letHave lk_RX4_120 (ng_rok.of rfl rfl) (WL_gk V) rfl rfl rfl rfl rfl rfl dX4_thiefTurns_21 (m_X4_letHave V hs21) rfl rfl ?_
    exact ev_sub (e_X4_thiefTurns_24 V h) (sub_s (sub_s (sub_s sub_e)))
def f_X4_thiefTurns  (w : Nat → Int32) (Dg : Nat → Int32) (C : Nat → Int32) (d : Bool) (v1 : Int32) : (Nat → Int32) × (Nat → Int32) × Int32 := f_X4_thiefTurns_5 ((f_X4_renew w C v1).1) Dg C d v1 ((f_X4_renew w C v1).2)
def s_X4_thiefTurns  (w : Nat → Int32) (Dg : Nat → Int32) (C : Nat → Int32) (d : Bool) (v1 : Int32) : Prop := (s_X4_renew w C v1 ∧ s_X4_thiefTurns_5 ((f_X4_renew w C v1).1) Dg C d v1 ((f_X4_renew w C v1).2))
set_option maxRecDepth 100000 in
set_option maxHeartbeats 4000000 in
theorem e_X4_thiefTurns {G : ng_GG} {hp : (Nat → Int32) → (Nat → Int32) → (Nat → Int32) → (Nat → Int32) → (Nat → Int32) → (Nat → Int32) → (Nat → Int32) → ng_AM} {k : Nat} {a : Nat} {d : Bool} (V : ng_WL hp k a d) {w : Nat → Int32} {Dg : Nat → Int32} {dw : Nat → Int32} {C : Nat → Int32} {off : Nat → Int32} {dear : Nat → Int32} {proved : Nat → Int32}  {v1 : Int32} (h : s_X4_thiefTurns  w Dg C d v1)  : ng_Ev G md_X4_thiefTurns 0 [some (.ref k), some (.int v1), none] [] (hp w Dg dw C off dear proved) (K_X4_thiefTurns hp dw C off dear proved (f_X4_thiefTurns  w Dg C d v1)) := by
  unfold s_X4_thiefTurns at h
  unfold f_X4_thiefTurns
  refine ev_aload_n dX4_thiefTurns_0 rfl rfl rfl ?_
  refine ev_iload_n dX4_thiefTurns_1 rfl rfl ?_
  have hs2 := h.1
  replace h := h.2
  refine bk_callV (As := [.int v1]) (st := []) (st2 := [.int ((f_X4_renew w C v1).2)]) (M2 := hp ((f_X4_renew w C v1).1) Dg dw C off dear proved) ok_X4_renew lk_RX4_111 (ng_rok.of rfl rfl) (WL_gk V) rfl rfl rfl rfl rfl rfl dX4_thiefTurns_2 (m_X4_renew V hs2) rfl rfl ?_
  exact ev_sub (e_X4_thiefTurns_5 V h) (sub_s (sub_s (sub_n sub_e)))
theorem m_X4_thiefTurns {G : ng_GG} {hp : (Nat → Int32) → (Nat → Int32) → (Nat → Int32) → (Nat → Int32) → (Nat → Int32) → (Nat → Int32) → (Nat → Int32) → ng_AM} {k : Nat} {a : Nat} {d : Bool} (V : ng_WL hp k a d) {w : Nat → Int32} {Dg : Nat → Int32} {dw : Nat → Int32} {C : Nat → Int32} {off : Nat → Int32} {dear : Nat → Int32} {proved : Nat → Int32} {v1 : Int32} (h : s_X4_thiefTurns w Dg C d v1)  : ng_Ev G md_X4_thiefTurns 0 (ng_en 3 [.ref k, .int v1]) [] (hp w Dg dw C off dear proved) (K_X4_thiefTurns hp dw C off dear proved (f_X4_thiefTurns w Dg C d v1)) := e_X4_thiefTurns V h 
def K_X4_handComes (hp : (Nat → Int32) → (Nat → Int32) → (Nat → Int32) → (Nat → Int32) → (Nat → Int32) → (Nat → Int32) → (Nat → Int32) → ng_AM) (dw : Nat → Int32) (C : Nat → Int32) (off : Nat → Int32) (dear : Nat → Int32) (proved : Nat → Int32) (r : (Nat → Int32) × (Nat → Int32) × Int32) : ng_RR := (some (.int (r.2.2)), hp (r.1) (r.2.1) dw C off dear proved)
def f_X4_handComes_103  (w : Nat → Int32) (Dg : Nat → Int32) (C : Nat → Int32) (d : Bool) (v1 : Int32) (v2 : Int32) (v3 : Int32) (v5 : Int32) (t0 : Int32) : (Nat → Int32) × (Nat → Int32) × Int32 := (if t0 = (-1) then (w, Dg, nI 0) else ((f_X4_post (upd (upd (upd w (((nI 142) + (t0 * (nI 11))) + (nI 2)).toNatClampNeg v3) (((nI 142) + (t0 * (nI 11))) + (nI 3)).toNatClampNeg v5) (((nI 142) + (t0 * (nI 11))) + (nI 8)).toNatClampNeg v2) Dg C d (nI 9) v1 (nI 1) t0 (-1) (nI 0)).1, (f_X4_post (upd (upd (upd w (((nI 142) + (t0 * (nI 11))) + (nI 2)).toNatClampNeg v3) (((nI 142) + (t0 * (nI 11))) + (nI 3)).toNatClampNeg v5) (((nI 142) + (t0 * (nI 11))) + (nI 8)).toNatClampNeg v2) Dg C d (nI 9) v1 (nI 1) t0 (-1) (nI 0)).2, nI 1))
def s_X4_handComes_103  (w : Nat → Int32) (Dg : Nat → Int32) (C : Nat → Int32) (d : Bool) (v1 : Int32) (v2 : Int32) (v3 : Int32) (v5 : Int32) (t0 : Int32) : Prop := (¬ t0 = (-1) → (vp_in (((nI 142) + (t0 * (nI 11))) + (nI 2)) 494 ∧ (vp_in (((nI 142) + (t0 * (nI 11))) + (nI 3)) 494 ∧ (vp_in (((nI 142) + (t0 * (nI 11))) + (nI 8)) 494 ∧ s_X4_post (upd (upd (upd w (((nI 142) + (t0 * (nI 11))) + (nI 2)).toNatClampNeg v3) (((nI 142) + (t0 * (nI 11))) + (nI 3)).toNatClampNeg v5) (((nI 142) + (t0 * (nI 11))) + (nI 8)).toNatClampNeg v2) Dg C d (nI 9) v1 (nI 1) t0 (-1) (nI 0)))))
set_option maxRecDepth 100000 in
set_option maxHeartbeats 4000000 in
theorem e_X4_handComes_103 {G : ng_GG} {hp : (Nat → Int32) → (Nat → Int32) → (Nat → Int32) → (Nat → Int32) → (Nat → Int32) → (Nat → Int32) → (Nat → Int32) → ng_AM} {k : Nat} {a : Nat} {d : Bool} (V : ng_WL hp k a d) {w : Nat → Int32} {Dg : Nat → Int32} {dw : Nat → Int32} {C : Nat → Int32} {off : Nat → Int32} {dear : Nat → Int32} {proved : Nat → Int32}  {v1 : Int32} {v2 : Int32} {v3 : Int32} {v5 : Int32} {t0 : Int32} (h : s_X4_handComes_103  w Dg C d v1 v2 v3 v5 t0)  : ng_Ev G md_X4_handComes 103 [some (.ref k), some (.int v1), some (.int v2), some (.int v3), none, some (.int v5), none, none, none] [.int t0] (hp w Dg dw C off dear proved) (K_X4_handComes hp dw C off dear proved (f_X4_handComes_103  w Dg C d v1 v2 v3 v5 t0)) := by
  unfold s_X4_handComes_103 at h
  unfold f_X4_handComes_103
  refine ev_istore (L' := [some (.ref k), some (.int v1), some (.int v2), some (.int v3), none, some (.int v5), none, some (.int t0), none]) dX4_handComes_103 (ng_lt rfl) rfl ?_
  refine ev_iload dX4_handComes_105 rfl ?_
  refine ev_iconst (v := (-1)) dX4_handComes_107 (by decide) ?_
  refine bk_icmp_ne (tgt := 113) dX4_handComes_108 (by decide) (fun c108 => ?_) (fun c108 => ?_)
  · replace h := h c108
    refine ev_sipush (v := nI 142) dX4_handComes_113 (by decide) ?_
    refine ev_iload dX4_handComes_116 rfl ?_
    refine ev_bipush (v := nI 11) dX4_handComes_118 (by decide) ?_
    refine ev_imul dX4_handComes_120 ?_
    refine ev_iadd dX4_handComes_121 ?_
    refine ev_istore (L' := [some (.ref k), some (.int v1), some (.int v2), some (.int v3), none, some (.int v5), none, some (.int t0), some (.int ((nI 142) + (t0 * (nI 11))))]) dX4_handComes_122 (ng_lt rfl) rfl ?_
    refine ev_aload_n dX4_handComes_124 rfl rfl rfl ?_
    refine ev_get 4 0 fl_RX4_11 (WL_gk V) rfl dX4_handComes_125 ?_
    refine ev_iload dX4_handComes_128 rfl ?_
    refine ev_iconst (v := nI 2) dX4_handComes_130 (by decide) ?_
    refine ev_iadd dX4_handComes_131 ?_
    refine ev_iload_n dX4_handComes_132 rfl rfl ?_
    have hi133 := h.1
    replace h := h.2
    refine ev_iast (WL_ga V) hi133 (WL_sa V) dX4_handComes_133 ?_
    refine ev_aload_n dX4_handComes_134 rfl rfl rfl ?_
    refine ev_get 4 0 fl_RX4_11 (WL_gk V) rfl dX4_handComes_135 ?_
    refine ev_iload dX4_handComes_138 rfl ?_
    refine ev_iconst (v := nI 3) dX4_handComes_140 (by decide) ?_
    refine ev_iadd dX4_handComes_141 ?_
    refine ev_iload dX4_handComes_142 rfl ?_
    have hi144 := h.1
    replace h := h.2
    refine ev_iast (WL_ga V) hi144 (WL_sa V) dX4_handComes_144 ?_
    refine ev_aload_n dX4_handComes_145 rfl rfl rfl ?_
    refine ev_get 4 0 fl_RX4_11 (WL_gk V) rfl dX4_handComes_146 ?_
    refine ev_iload dX4_handComes_149 rfl ?_
    refine ev_bipush (v := nI 8) dX4_handComes_151 (by decide) ?_
    refine ev_iadd dX4_handComes_153 ?_
    refine ev_iload_n dX4_handComes_154 rfl rfl ?_
    have hi155 := h.1
    replace h := h.2
    refine ev_iast (WL_ga V) hi155 (WL_sa V) dX4_handComes_155 ?_
    refine ev_aload_n dX4_handComes_156 rfl rfl rfl ?_
    refine ev_bipush (v := nI 9) dX4_handComes_157 (by decide) ?_
    refine ev_iload_n dX4_handComes_159 rfl rfl ?_
    refine ev_iconst (v := nI 1) dX4_handComes_160 (by decide) ?_
    refine ev_iload dX4_handComes_161 rfl ?_
    refine ev_iconst (v := (-1)) dX4_handComes_163 (by decide) ?_
    refine ev_iconst (v := nI 0) dX4_handComes_164 (by decide) ?_
    have hs165 := h
    refine bk_callV (As := [.int (nI 9), .int v1, .int (nI 1), .int t0, .int (-1), .int (nI 0)]) (st := []) (st2 := []) (M2 := hp ((f_X4_post (upd (upd (upd w (((nI 142) + (t0 * (nI 11))) + (nI 2)).toNatClampNeg v3) (((nI 142) + (t0 * (nI 11))) + (nI 3)).toNatClampNeg v5) (((nI 142) + (t0 * (nI 11))) + (nI 8)).toNatClampNeg v2) Dg C d (nI 9) v1 (nI 1) t0 (-1) (nI 0)).1) ((f_X4_post (upd (upd (upd w (((nI 142) + (t0 * (nI 11))) + (nI 2)).toNatClampNeg v3) (((nI 142) + (t0 * (nI 11))) + (nI 3)).toNatClampNeg v5) (((nI 142) + (t0 * (nI 11))) + (nI 8)).toNatClampNeg v2) Dg C d (nI 9) v1 (nI 1) t0 (-1) (nI 0)).2) dw C off dear proved) ok_X4_post lk_RX4_54 (ng_rok.of rfl rfl) (WL_gk V) rfl rfl rfl rfl rfl rfl dX4_handComes_165 (m_X4_post V hs165) rfl rfl ?_
    refine ev_iconst (v := nI 1) dX4_handComes_168 (by decide) ?_
    exact ev_iret rfl rfl dX4_handComes_169
  · refine ev_iconst (v := nI 0) dX4_handComes_111 (by decide) ?_
    exact ev_iret rfl rfl dX4_handComes_112
def f_X4_handComes_88  (w : Nat → Int32) (Dg : Nat → Int32) (C : Nat → Int32) (d : Bool) (v1 : Int32) (v2 : Int32) (v3 : Int32) (v5 : Int32) (v6 : Int32) : (Nat → Int32) × (Nat → Int32) × Int32 := (if v5 = 0 then (w, Dg, nI 0) else f_X4_handComes_103 ((f_X4_addNoteLike w v2 (nI 2) v6).1) Dg C d v1 v2 v3 v5 ((f_X4_addNoteLike w v2 (nI 2) v6).2))
def s_X4_handComes_88  (w : Nat → Int32) (Dg : Nat → Int32) (C : Nat → Int32) (d : Bool) (v1 : Int32) (v2 : Int32) (v3 : Int32) (v5 : Int32) (v6 : Int32) : Prop := (¬ v5 = 0 → (s_X4_addNoteLike w v2 (nI 2) v6 ∧ s_X4_handComes_103 ((f_X4_addNoteLike w v2 (nI 2) v6).1) Dg C d v1 v2 v3 v5 ((f_X4_addNoteLike w v2 (nI 2) v6).2)))
set_option maxRecDepth 100000 in
set_option maxHeartbeats 4000000 in
theorem e_X4_handComes_88 {G : ng_GG} {hp : (Nat → Int32) → (Nat → Int32) → (Nat → Int32) → (Nat → Int32) → (Nat → Int32) → (Nat → Int32) → (Nat → Int32) → ng_AM} {k : Nat} {a : Nat} {d : Bool} (V : ng_WL hp k a d) {w : Nat → Int32} {Dg : Nat → Int32} {dw : Nat → Int32} {C : Nat → Int32} {off : Nat → Int32} {dear : Nat → Int32} {proved : Nat → Int32}  {v1 : Int32} {v2 : Int32} {v3 : Int32} {v5 : Int32} {v6 : Int32} (h : s_X4_handComes_88  w Dg C d v1 v2 v3 v5 v6)  : ng_Ev G md_X4_handComes 88 [some (.ref k), some (.int v1), some (.int v2), some (.int v3), none, some (.int v5), some (.int v6), none, none] [] (hp w Dg dw C off dear proved) (K_X4_handComes hp dw C off dear proved (f_X4_handComes_88  w Dg C d v1 v2 v3 v5 v6)) := by
  unfold s_X4_handComes_88 at h
  unfold f_X4_handComes_88
  refine ev_iload dX4_handComes_88 rfl ?_
  refine bk_if_ne (tgt := 95) dX4_handComes_90 (by decide) (fun c90 => ?_) (fun c90 => ?_)
  · replace h := h c90
    refine ev_aload_n dX4_handComes_95 rfl rfl rfl ?_
    refine ev_iload_n dX4_handComes_96 rfl rfl ?_
    refine ev_iconst (v := nI 2) dX4_handComes_97 (by decide) ?_
    refine ev_iload dX4_handComes_98 rfl ?_
    have hs100 := h.1
    replace h := h.2
    refine bk_callV (As := [.int v2, .int (nI 2), .int v6]) (st := []) (st2 := [.int ((f_X4_addNoteLike w v2 (nI 2) v6).2)]) (M2 := hp ((f_X4_addNoteLike w v2 (nI 2) v6).1) Dg dw C off dear proved) ok_X4_addNoteLike lk_RX4_105 (ng_rok.of rfl rfl) (WL_gk V) rfl rfl rfl rfl rfl rfl dX4_handComes_100 (m_X4_addNoteLike V hs100) rfl rfl ?_
    exact ev_sub (e_X4_handComes_103 V h) (sub_s (sub_s (sub_s (sub_s (sub_n (sub_s (sub_n (sub_n (sub_n sub_e)))))))))
  · refine ev_iconst (v := nI 0) dX4_handComes_93 (by decide) ?_
    exact ev_iret rfl rfl dX4_handComes_94
def f_X4_handComes  (w : Nat → Int32) (Dg : Nat → Int32) (C : Nat → Int32) (d : Bool) (v1 : Int32) (v2 : Int32) (v3 : Int32) (v4 : Int32) : (Nat → Int32) × (Nat → Int32) × Int32 := (if (f_X4_isGoodForKeeper w C v2) = 0 then (w, Dg, nI 0) else (if (f_X2_isIn C v3) = 0 then (w, Dg, nI 0) else (if (w (nI 1).toNatClampNeg) < (nI 32) then (if (f_X2_on C (nI 6)) = 0 then f_X4_handComes_88 w Dg C d v1 v2 v3 v4 ((w (nI 0).toNatClampNeg) + (C 0)) else f_X4_handComes_88 w Dg C d v1 v2 v3 (v4 &&& (f_X4_noteWord w v2 (nI 3))) (f_J9_min_7cf53 ((w (nI 0).toNatClampNeg) + (C 0)) (f_X4_noteWord w v2 (nI 5)))) else (w, Dg, nI 0))))
def s_X4_handComes  (w : Nat → Int32) (Dg : Nat → Int32) (C : Nat → Int32) (d : Bool) (v1 : Int32) (v2 : Int32) (v3 : Int32) (v4 : Int32) : Prop := (s_X4_isGoodForKeeper w C v2 ∧ (¬ (f_X4_isGoodForKeeper w C v2) = 0 → (¬ (f_X2_isIn C v3) = 0 → ((w (nI 1).toNatClampNeg) < (nI 32) → (((f_X2_on C (nI 6)) = 0 → s_X4_handComes_88 w Dg C d v1 v2 v3 v4 ((w (nI 0).toNatClampNeg) + (C 0))) ∧ (¬ (f_X2_on C (nI 6)) = 0 → (s_X4_noteWord w v2 (nI 3) ∧ (s_X4_noteWord w v2 (nI 5) ∧ s_X4_handComes_88 w Dg C d v1 v2 v3 (v4 &&& (f_X4_noteWord w v2 (nI 3))) (f_J9_min_7cf53 ((w (nI 0).toNatClampNeg) + (C 0)) (f_X4_noteWord w v2 (nI 5)))))))))))
set_option maxRecDepth 100000 in
set_option maxHeartbeats 4000000 in
theorem e_X4_handComes {G : ng_GG} {hp : (Nat → Int32) → (Nat → Int32) → (Nat → Int32) → (Nat → Int32) → (Nat → Int32) → (Nat → Int32) → (Nat → Int32) → ng_AM} {k : Nat} {a : Nat} {d : Bool} (V : ng_WL hp k a d) {w : Nat → Int32} {Dg : Nat → Int32} {dw : Nat → Int32} {C : Nat → Int32} {off : Nat → Int32} {dear : Nat → Int32} {proved : Nat → Int32}  {v1 : Int32} {v2 : Int32} {v3 : Int32} {v4 : Int32} (h : s_X4_handComes  w Dg C d v1 v2 v3 v4)  : ng_Ev G md_X4_handComes 0 [some (.ref k), some (.int v1), some (.int v2), some (.int v3), some (.int v4), none, none, none, none] [] (hp w Dg dw C off dear proved) (K_X4_handComes hp dw C off dear proved (f_X4_handComes  w Dg C d v1 v2 v3 v4)) := by
  unfold s_X4_handComes at h
  unfold f_X4_handComes
  refine ev_aload_n dX4_handComes_0 rfl rfl rfl ?_
  refine ev_iload_n dX4_handComes_1 rfl rfl ?_
  have hs2 := h.1
  replace h := h.2
  refine bk_callV (As := [.int v2]) (st := []) (st2 := [.int (f_X4_isGoodForKeeper w C v2)]) (M2 := hp w Dg dw C off dear proved) ok_X4_isGoodForKeeper lk_RX4_124 (ng_rok.of rfl rfl) (WL_gk V) rfl rfl rfl rfl rfl rfl dX4_handComes_2 (m_X4_isGoodForKeeper (WL_R V) hs2) rfl rfl ?_
  refine bk_if_eq (tgt := 30) dX4_handComes_5 (by decide) (fun c5 => ?_) (fun c5 => ?_)
  · refine ev_iconst (v := nI 0) dX4_handComes_30 (by decide) ?_
    exact ev_iret rfl rfl dX4_handComes_31
  · replace h := h c5
    refine ev_aload_n dX4_handComes_8 rfl rfl rfl ?_
    refine ev_get 4 1 fl_RX4_15 (WL_gk V) rfl dX4_handComes_9 ?_
    refine ev_iload_n dX4_handComes_12 rfl rfl ?_
    refine bk_callV (As := [.int v3]) (st := []) (st2 := [.int (f_X2_isIn C v3)]) (M2 := hp w Dg dw C off dear proved) ok_X2_isIn lk_RX4_92 (ng_rok.of rfl rfl) (WL_g1 V) rfl rfl rfl rfl rfl rfl dX4_handComes_13 (m_X2_isIn (WL_RS V) trivial) rfl rfl ?_
    refine bk_if_eq (tgt := 30) dX4_handComes_16 (by decide) (fun c16 => ?_) (fun c16 => ?_)
    · refine ev_iconst (v := nI 0) dX4_handComes_30 (by decide) ?_
      exact ev_iret rfl rfl dX4_handComes_31
    · replace h := h c16
      refine ev_aload_n dX4_handComes_19 rfl rfl rfl ?_
      refine ev_get 4 0 fl_RX4_11 (WL_gk V) rfl dX4_handComes_20 ?_
      refine ev_iconst (v := nI 1) dX4_handComes_23 (by decide) ?_
      refine ev_iald (WL_ga V) (vp_in_nI (by decide) (by decide)) dX4_handComes_24 ?_
      refine ev_bipush (v := nI 32) dX4_handComes_25 (by decide) ?_
      refine bk_icmp_lt (tgt := 32) dX4_handComes_27 (by decide) (fun c27 => ?_) (fun c27 => ?_)
      · replace h := h c27
        refine ev_iload dX4_handComes_32 rfl ?_
        refine ev_istore (L' := [some (.ref k), some (.int v1), some (.int v2), some (.int v3), some (.int v4), some (.int v4), none, none, none]) dX4_handComes_34 (ng_lt rfl) rfl ?_
        refine ev_aload_n dX4_handComes_36 rfl rfl rfl ?_
        refine ev_get 4 0 fl_RX4_11 (WL_gk V) rfl dX4_handComes_37 ?_
        refine ev_iconst (v := nI 0) dX4_handComes_40 (by decide) ?_
        refine ev_iald (WL_ga V) (vp_in_nI (by decide) (by decide)) dX4_handComes_41 ?_
        refine ev_aload_n dX4_handComes_42 rfl rfl rfl ?_
        refine ev_get 4 1 fl_RX4_15 (WL_gk V) rfl dX4_handComes_43 ?_
        refine ev_get 2 0 fl_RX4_102 (WL_g1 V) rfl dX4_handComes_46 ?_
        refine ev_iadd dX4_handComes_49 ?_
        refine ev_istore (L' := [some (.ref k), some (.int v1), some (.int v2), some (.int v3), some (.int v4), some (.int v4), some (.int ((w (nI 0).toNatClampNeg) + (C 0))), none, none]) dX4_handComes_50 (ng_lt rfl) rfl ?_
        refine ev_aload_n dX4_handComes_52 rfl rfl rfl ?_
        refine ev_get 4 1 fl_RX4_15 (WL_gk V) rfl dX4_handComes_53 ?_
        refine ev_bipush (v := nI 6) dX4_handComes_56 (by decide) ?_
        refine bk_callV (As := [.int (nI 6)]) (st := []) (st2 := [.int (f_X2_on C (nI 6))]) (M2 := hp w Dg dw C off dear proved) ok_X2_on lk_RX4_127 (ng_rok.of rfl rfl) (WL_g1 V) rfl rfl rfl rfl rfl rfl dX4_handComes_58 (m_X2_on (WL_RS V) trivial) rfl rfl ?_
        refine bk_if_eq (tgt := 88) dX4_handComes_61 (by decide) (fun c61 => ?_) (fun c61 => ?_)
        · replace h := h.1 c61
          exact ev_sub (e_X4_handComes_88 V h) (sub_s (sub_s (sub_s (sub_s (sub_n (sub_s (sub_s (sub_n (sub_n sub_e)))))))))
        · replace h := h.2 c61
          refine ev_iload dX4_handComes_64 rfl ?_
          refine ev_aload_n dX4_handComes_66 rfl rfl rfl ?_
          refine ev_iload_n dX4_handComes_67 rfl rfl ?_
          refine ev_iconst (v := nI 3) dX4_handComes_68 (by decide) ?_
          have hs69 := h.1
          replace h := h.2
          refine bk_callV (As := [.int v2, .int (nI 3)]) (st := [.int v4]) (st2 := [.int (f_X4_noteWord w v2 (nI 3)), .int v4]) (M2 := hp w Dg dw C off dear proved) ok_X4_noteWord lk_RX4_114 (ng_rok.of rfl rfl) (WL_gk V) rfl rfl rfl rfl rfl rfl dX4_handComes_69 (m_X4_noteWord (WL_R V) hs69) rfl rfl ?_
          refine ev_iand dX4_handComes_72 ?_
          refine ev_istore (L' := [some (.ref k), some (.int v1), some (.int v2), some (.int v3), some (.int v4), some (.int (v4 &&& (f_X4_noteWord w v2 (nI 3)))), some (.int ((w (nI 0).toNatClampNeg) + (C 0))), none, none]) dX4_handComes_73 (ng_lt rfl) rfl ?_
          refine ev_iload dX4_handComes_75 rfl ?_
          refine ev_aload_n dX4_handComes_77 rfl rfl rfl ?_
          refine ev_iload_n dX4_handComes_78 rfl rfl ?_
          refine ev_iconst (v := nI 5) dX4_handComes_79 (by decide) ?_
          have hs80 := h.1
          replace h := h.2
          refine bk_callV (As := [.int v2, .int (nI 5)]) (st := [.int ((w (nI 0).toNatClampNeg) + (C 0))]) (st2 := [.int (f_X4_noteWord w v2 (nI 5)), .int ((w (nI 0).toNatClampNeg) + (C 0))]) (M2 := hp w Dg dw C off dear proved) ok_X4_noteWord lk_RX4_114 (ng_rok.of rfl rfl) (WL_gk V) rfl rfl rfl rfl rfl rfl dX4_handComes_80 (m_X4_noteWord (WL_R V) hs80) rfl rfl ?_
          refine bk_callS (As := [.int ((w (nI 0).toNatClampNeg) + (C 0)), .int (f_X4_noteWord w v2 (nI 5))]) (st := []) (st2 := [.int (f_J9_min_7cf53 ((w (nI 0).toNatClampNeg) + (C 0)) (f_X4_noteWord w v2 (nI 5)))]) (M2 := hp w Dg dw C off dear proved) ok_J9_min_7cf53 lk_RX4_130 (ng_rok.of rfl rfl) rfl rfl rfl rfl dX4_handComes_83 (m_J9_min_7cf53 trivial) rfl rfl ?_
          refine ev_istore (L' := [some (.ref k), some (.int v1), some (.int v2), some (.int v3), some (.int v4), some (.int (v4 &&& (f_X4_noteWord w v2 (nI 3)))), some (.int (f_J9_min_7cf53 ((w (nI 0).toNatClampNeg) + (C 0)) (f_X4_noteWord w v2 (nI 5)))), none, none]) dX4_handComes_86 (ng_lt rfl) rfl ?_
          exact ev_sub (e_X4_handComes_88 V h) (sub_s (sub_s (sub_s (sub_s (sub_n (sub_s (sub_s (sub_n (sub_n sub_e)))))))))
      · refine ev_iconst (v := nI 0) dX4_handComes_30 (by decide) ?_
        exact ev_iret rfl rfl dX4_handComes_31
theorem m_X4_handComes {G : ng_GG} {hp : (Nat → Int32) → (Nat → Int32) → (Nat → Int32) → (Nat → Int32) → (Nat → Int32) → (Nat → Int32) → (Nat → Int32) → ng_AM} {k : Nat} {a : Nat} {d : Bool} (V : ng_WL hp k a d) {w : Nat → Int32} {Dg : Nat → Int32} {dw : Nat → Int32} {C : Nat → Int32} {off : Nat → Int32} {dear : Nat → Int32} {proved : Nat → Int32} {v1 : Int32} {v2 : Int32} {v3 : Int32} {v4 : Int32} (h : s_X4_handComes w Dg C d v1 v2 v3 v4)  : ng_Ev G md_X4_handComes 0 (ng_en 9 [.ref k, .int v1, .int v2, .int v3, .int v4]) [] (hp w Dg dw C off dear proved) (K_X4_handComes hp dw C off dear proved (f_X4_handComes w Dg C d v1 v2 v3 v4)) := e_X4_handComes V h 
def K_X4_askComes (hp : (Nat → Int32) → (Nat → Int32) → (Nat → Int32) → (Nat → Int32) → (Nat → Int32) → (Nat → Int32) → (Nat → Int32) → ng_AM) (dw : Nat → Int32) (C : Nat → Int32) (off : Nat → Int32) (dear : Nat → Int32) (proved : Nat → Int32) (r : (Nat → Int32) × (Nat → Int32) × Int32) : ng_RR := (some (.int (r.2.2)), hp (r.1) (r.2.1) dw C off dear proved)
def f_X4_askComes_208  (w : Nat → Int32) (Dg : Nat → Int32) (C : Nat → Int32) (proved : Nat → Int32) (d : Bool) (v1 : Int32) (v4 : Int32) (v8 : Int32) (t0 : Int32) : (Nat → Int32) × (Nat → Int32) × Int32 := ((f_X4_post w Dg C d (nI 9) v1 (nI 1) v8 (v8 + (nI 1)) v4).1, (f_X4_post w Dg C d (nI 9) v1 (nI 1) v8 (v8 + (nI 1)) v4).2, nI 1)
def s_X4_askComes_208  (w : Nat → Int32) (Dg : Nat → Int32) (C : Nat → Int32) (proved : Nat → Int32) (d : Bool) (v1 : Int32) (v4 : Int32) (v8 : Int32) (t0 : Int32) : Prop := s_X4_post w Dg C d (nI 9) v1 (nI 1) v8 (v8 + (nI 1)) v4
set_option maxRecDepth 100000 in
set_option maxHeartbeats 4000000 in
theorem e_X4_askComes_208 {G : ng_GG} {hp : (Nat → Int32) → (Nat → Int32) → (Nat → Int32) → (Nat → Int32) → (Nat → Int32) → (Nat → Int32) → (Nat → Int32) → ng_AM} {k : Nat} {a : Nat} {d : Bool} (V : ng_WL hp k a d) {w : Nat → Int32} {Dg : Nat → Int32} {dw : Nat → Int32} {C : Nat → Int32} {off : Nat → Int32} {dear : Nat → Int32} {proved : Nat → Int32}  {v1 : Int32} {v4 : Int32} {v8 : Int32} {t0 : Int32} (h : s_X4_askComes_208  w Dg C proved d v1 v4 v8 t0)  : ng_Ev G md_X4_askComes 208 [some (.ref k), some (.int v1), none, none, some (.int v4), none, none, none, some (.int v8), none] [.int t0] (hp w Dg dw C off dear proved) (K_X4_askComes hp dw C off dear proved (f_X4_askComes_208  w Dg C proved d v1 v4 v8 t0)) := by
  unfold s_X4_askComes_208 at h
  unfold f_X4_askComes_208
  refine ev_pop dX4_askComes_208 rfl ?_
  refine ev_aload_n dX4_askComes_209 rfl rfl rfl ?_
  refine ev_bipush (v := nI 9) dX4_askComes_210 (by decide) ?_
  refine ev_iload_n dX4_askComes_212 rfl rfl ?_
  refine ev_iconst (v := nI 1) dX4_askComes_213 (by decide) ?_
  refine ev_iload dX4_askComes_214 rfl ?_
  refine ev_iload dX4_askComes_216 rfl ?_
  refine ev_iconst (v := nI 1) dX4_askComes_218 (by decide) ?_
  refine ev_iadd dX4_askComes_219 ?_
  refine ev_iload dX4_askComes_220 rfl ?_
  have hs222 := h
  refine bk_callV (As := [.int (nI 9), .int v1, .int (nI 1), .int v8, .int (v8 + (nI 1)), .int v4]) (st := []) (st2 := []) (M2 := hp ((f_X4_post w Dg C d (nI 9) v1 (nI 1) v8 (v8 + (nI 1)) v4).1) ((f_X4_post w Dg C d (nI 9) v1 (nI 1) v8 (v8 + (nI 1)) v4).2) dw C off dear proved) ok_X4_post lk_RX4_54 (ng_rok.of rfl rfl) (WL_gk V) rfl rfl rfl rfl rfl rfl dX4_askComes_222 (m_X4_post V hs222) rfl rfl ?_
  refine ev_iconst (v := nI 1) dX4_askComes_225 (by decide) ?_
  exact ev_iret rfl rfl dX4_askComes_226
def f_X4_askComes_186  (w : Nat → Int32) (Dg : Nat → Int32) (C : Nat → Int32) (proved : Nat → Int32) (d : Bool) (v1 : Int32) (v4 : Int32) (v8 : Int32) (t0 : Int32) : (Nat → Int32) × (Nat → Int32) × Int32 := f_X4_askComes_208 ((f_X4_addNoteLike w v8 (nI 1) ((w (nI 0).toNatClampNeg) + (C 1))).1) Dg C proved d v1 v4 v8 ((f_X4_addNoteLike w v8 (nI 1) ((w (nI 0).toNatClampNeg) + (C 1))).2)
def s_X4_askComes_186  (w : Nat → Int32) (Dg : Nat → Int32) (C : Nat → Int32) (proved : Nat → Int32) (d : Bool) (v1 : Int32) (v4 : Int32) (v8 : Int32) (t0 : Int32) : Prop := (s_X4_addNoteLike w v8 (nI 1) ((w (nI 0).toNatClampNeg) + (C 1)) ∧ s_X4_askComes_208 ((f_X4_addNoteLike w v8 (nI 1) ((w (nI 0).toNatClampNeg) + (C 1))).1) Dg C proved d v1 v4 v8 ((f_X4_addNoteLike w v8 (nI 1) ((w (nI 0).toNatClampNeg) + (C 1))).2))
set_option maxRecDepth 100000 in
set_option maxHeartbeats 4000000 in
theorem e_X4_askComes_186 {G : ng_GG} {hp : (Nat → Int32) → (Nat → Int32) → (Nat → Int32) → (Nat → Int32) → (Nat → Int32) → (Nat → Int32) → (Nat → Int32) → ng_AM} {k : Nat} {a : Nat} {d : Bool} (V : ng_WL hp k a d) {w : Nat → Int32} {Dg : Nat → Int32} {dw : Nat → Int32} {C : Nat → Int32} {off : Nat → Int32} {dear : Nat → Int32} {proved : Nat → Int32}  {v1 : Int32} {v4 : Int32} {v8 : Int32} {t0 : Int32} (h : s_X4_askComes_186  w Dg C proved d v1 v4 v8 t0)  : ng_Ev G md_X4_askComes 186 [some (.ref k), some (.int v1), none, none, some (.int v4), none, none, none, some (.int v8), none] [.int t0] (hp w Dg dw C off dear proved) (K_X4_askComes hp dw C off dear proved (f_X4_askComes_186  w Dg C proved d v1 v4 v8 t0)) := by
  unfold s_X4_askComes_186 at h
  unfold f_X4_askComes_186
  refine ev_pop dX4_askComes_186 rfl ?_
  refine ev_aload_n dX4_askComes_187 rfl rfl rfl ?_
  refine ev_iload dX4_askComes_188 rfl ?_
  refine ev_iconst (v := nI 1) dX4_askComes_190 (by decide) ?_
  refine ev_aload_n dX4_askComes_191 rfl rfl rfl ?_
  refine ev_get 4 0 fl_RX4_11 (WL_gk V) rfl dX4_askComes_192 ?_
  refine ev_iconst (v := nI 0) dX4_askComes_195 (by decide) ?_
  refine ev_iald (WL_ga V) (vp_in_nI (by decide) (by decide)) dX4_askComes_196 ?_
  refine ev_aload_n dX4_askComes_197 rfl rfl rfl ?_
  refine ev_get 4 1 fl_RX4_15 (WL_gk V) rfl dX4_askComes_198 ?_
  refine ev_get 2 1 fl_RX4_108 (WL_g1 V) rfl dX4_askComes_201 ?_
  refine ev_iadd dX4_askComes_204 ?_
  have hs205 := h.1
  replace h := h.2
  refine bk_callV (As := [.int v8, .int (nI 1), .int ((w (nI 0).toNatClampNeg) + (C 1))]) (st := []) (st2 := [.int ((f_X4_addNoteLike w v8 (nI 1) ((w (nI 0).toNatClampNeg) + (C 1))).2)]) (M2 := hp ((f_X4_addNoteLike w v8 (nI 1) ((w (nI 0).toNatClampNeg) + (C 1))).1) Dg dw C off dear proved) ok_X4_addNoteLike lk_RX4_105 (ng_rok.of rfl rfl) (WL_gk V) rfl rfl rfl rfl rfl rfl dX4_askComes_205 (m_X4_addNoteLike V hs205) rfl rfl ?_
  exact ev_sub (e_X4_askComes_208 V h) (sub_s (sub_s (sub_n (sub_n (sub_s (sub_n (sub_n (sub_n (sub_s (sub_n sub_e))))))))))
def f_X4_askComes_90  (w : Nat → Int32) (Dg : Nat → Int32) (C : Nat → Int32) (proved : Nat → Int32) (d : Bool) (v1 : Int32) (v2 : Int32) (v3 : Int32) (v4 : Int32) (v6 : Int32) (t0 : Int32) : (Nat → Int32) × (Nat → Int32) × Int32 := f_X4_askComes_186 ((f_X4_addNoteLike (upd (upd (upd (upd (upd w (((nI 142) + ((w (nI 1).toNatClampNeg) * (nI 11))) + (nI 1)).toNatClampNeg v1) (((nI 142) + ((w (nI 1).toNatClampNeg) * (nI 11))) + (nI 2)).toNatClampNeg v2) (((nI 142) + ((w (nI 1).toNatClampNeg) * (nI 11))) + (nI 3)).toNatClampNeg v3) (((nI 142) + ((w (nI 1).toNatClampNeg) * (nI 11))) + (nI 6)).toNatClampNeg t0) (((nI 142) + ((w (nI 1).toNatClampNeg) * (nI 11))) + (nI 7)).toNatClampNeg v6) (w (nI 1).toNatClampNeg) (nI 0) (((upd (upd (upd (upd (upd w (((nI 142) + ((w (nI 1).toNatClampNeg) * (nI 11))) + (nI 1)).toNatClampNeg v1) (((nI 142) + ((w (nI 1).toNatClampNeg) * (nI 11))) + (nI 2)).toNatClampNeg v2) (((nI 142) + ((w (nI 1).toNatClampNeg) * (nI 11))) + (nI 3)).toNatClampNeg v3) (((nI 142) + ((w (nI 1).toNatClampNeg) * (nI 11))) + (nI 6)).toNatClampNeg t0) (((nI 142) + ((w (nI 1).toNatClampNeg) * (nI 11))) + (nI 7)).toNatClampNeg v6) (nI 0).toNatClampNeg) + (C 0))).1) Dg C proved d v1 v4 (w (nI 1).toNatClampNeg) ((f_X4_addNoteLike (upd (upd (upd (upd (upd w (((nI 142) + ((w (nI 1).toNatClampNeg) * (nI 11))) + (nI 1)).toNatClampNeg v1) (((nI 142) + ((w (nI 1).toNatClampNeg) * (nI 11))) + (nI 2)).toNatClampNeg v2) (((nI 142) + ((w (nI 1).toNatClampNeg) * (nI 11))) + (nI 3)).toNatClampNeg v3) (((nI 142) + ((w (nI 1).toNatClampNeg) * (nI 11))) + (nI 6)).toNatClampNeg t0) (((nI 142) + ((w (nI 1).toNatClampNeg) * (nI 11))) + (nI 7)).toNatClampNeg v6) (w (nI 1).toNatClampNeg) (nI 0) (((upd (upd (upd (upd (upd w (((nI 142) + ((w (nI 1).toNatClampNeg) * (nI 11))) + (nI 1)).toNatClampNeg v1) (((nI 142) + ((w (nI 1).toNatClampNeg) * (nI 11))) + (nI 2)).toNatClampNeg v2) (((nI 142) + ((w (nI 1).toNatClampNeg) * (nI 11))) + (nI 3)).toNatClampNeg v3) (((nI 142) + ((w (nI 1).toNatClampNeg) * (nI 11))) + (nI 6)).toNatClampNeg t0) (((nI 142) + ((w (nI 1).toNatClampNeg) * (nI 11))) + (nI 7)).toNatClampNeg v6) (nI 0).toNatClampNeg) + (C 0))).2)
def s_X4_askComes_90  (w : Nat → Int32) (Dg : Nat → Int32) (C : Nat → Int32) (proved : Nat → Int32) (d : Bool) (v1 : Int32) (v2 : Int32) (v3 : Int32) (v4 : Int32) (v6 : Int32) (t0 : Int32) : Prop := (vp_in (((nI 142) + ((w (nI 1).toNatClampNeg) * (nI 11))) + (nI 1)) 494 ∧ (vp_in (((nI 142) + ((w (nI 1).toNatClampNeg) * (nI 11))) + (nI 2)) 494 ∧ (vp_in (((nI 142) + ((w (nI 1).toNatClampNeg) * (nI 11))) + (nI 3)) 494 ∧ (vp_in (((nI 142) + ((w (nI 1).toNatClampNeg) * (nI 11))) + (nI 6)) 494 ∧ (vp_in (((nI 142) + ((w (nI 1).toNatClampNeg) * (nI 11))) + (nI 7)) 494 ∧ (s_X4_addNoteLike (upd (upd (upd (upd (upd w (((nI 142) + ((w (nI 1).toNatClampNeg) * (nI 11))) + (nI 1)).toNatClampNeg v1) (((nI 142) + ((w (nI 1).toNatClampNeg) * (nI 11))) + (nI 2)).toNatClampNeg v2) (((nI 142) + ((w (nI 1).toNatClampNeg) * (nI 11))) + (nI 3)).toNatClampNeg v3) (((nI 142) + ((w (nI 1).toNatClampNeg) * (nI 11))) + (nI 6)).toNatClampNeg t0) (((nI 142) + ((w (nI 1).toNatClampNeg) * (nI 11))) + (nI 7)).toNatClampNeg v6) (w (nI 1).toNatClampNeg) (nI 0) (((upd (upd (upd (upd (upd w (((nI 142) + ((w (nI 1).toNatClampNeg) * (nI 11))) + (nI 1)).toNatClampNeg v1) (((nI 142) + ((w (nI 1).toNatClampNeg) * (nI 11))) + (nI 2)).toNatClampNeg v2) (((nI 142) + ((w (nI 1).toNatClampNeg) * (nI 11))) + (nI 3)).toNatClampNeg v3) (((nI 142) + ((w (nI 1).toNatClampNeg) * (nI 11))) + (nI 6)).toNatClampNeg t0) (((nI 142) + ((w (nI 1).toNatClampNeg) * (nI 11))) + (nI 7)).toNatClampNeg v6) (nI 0).toNatClampNeg) + (C 0)) ∧ s_X4_askComes_186 ((f_X4_addNoteLike (upd (upd (upd (upd (upd w (((nI 142) + ((w (nI 1).toNatClampNeg) * (nI 11))) + (nI 1)).toNatClampNeg v1) (((nI 142) + ((w (nI 1).toNatClampNeg) * (nI 11))) + (nI 2)).toNatClampNeg v2) (((nI 142) + ((w (nI 1).toNatClampNeg) * (nI 11))) + (nI 3)).toNatClampNeg v3) (((nI 142) + ((w (nI 1).toNatClampNeg) * (nI 11))) + (nI 6)).toNatClampNeg t0) (((nI 142) + ((w (nI 1).toNatClampNeg) * (nI 11))) + (nI 7)).toNatClampNeg v6) (w (nI 1).toNatClampNeg) (nI 0) (((upd (upd (upd (upd (upd w (((nI 142) + ((w (nI 1).toNatClampNeg) * (nI 11))) + (nI 1)).toNatClampNeg v1) (((nI 142) + ((w (nI 1).toNatClampNeg) * (nI 11))) + (nI 2)).toNatClampNeg v2) (((nI 142) + ((w (nI 1).toNatClampNeg) * (nI 11))) + (nI 3)).toNatClampNeg v3) (((nI 142) + ((w (nI 1).toNatClampNeg) * (nI 11))) + (nI 6)).toNatClampNeg t0) (((nI 142) + ((w (nI 1).toNatClampNeg) * (nI 11))) + (nI 7)).toNatClampNeg v6) (nI 0).toNatClampNeg) + (C 0))).1) Dg C proved d v1 v4 (w (nI 1).toNatClampNeg) ((f_X4_addNoteLike (upd (upd (upd (upd (upd w (((nI 142) + ((w (nI 1).toNatClampNeg) * (nI 11))) + (nI 1)).toNatClampNeg v1) (((nI 142) + ((w (nI 1).toNatClampNeg) * (nI 11))) + (nI 2)).toNatClampNeg v2) (((nI 142) + ((w (nI 1).toNatClampNeg) * (nI 11))) + (nI 3)).toNatClampNeg v3) (((nI 142) + ((w (nI 1).toNatClampNeg) * (nI 11))) + (nI 6)).toNatClampNeg t0) (((nI 142) + ((w (nI 1).toNatClampNeg) * (nI 11))) + (nI 7)).toNatClampNeg v6) (w (nI 1).toNatClampNeg) (nI 0) (((upd (upd (upd (upd (upd w (((nI 142) + ((w (nI 1).toNatClampNeg) * (nI 11))) + (nI 1)).toNatClampNeg v1) (((nI 142) + ((w (nI 1).toNatClampNeg) * (nI 11))) + (nI 2)).toNatClampNeg v2) (((nI 142) + ((w (nI 1).toNatClampNeg) * (nI 11))) + (nI 3)).toNatClampNeg v3) (((nI 142) + ((w (nI 1).toNatClampNeg) * (nI 11))) + (nI 6)).toNatClampNeg t0) (((nI 142) + ((w (nI 1).toNatClampNeg) * (nI 11))) + (nI 7)).toNatClampNeg v6) (nI 0).toNatClampNeg) + (C 0))).2)))))))
set_option maxRecDepth 100000 in
set_option maxHeartbeats 4000000 in
theorem e_X4_askComes_90 {G : ng_GG} {hp : (Nat → Int32) → (Nat → Int32) → (Nat → Int32) → (Nat → Int32) → (Nat → Int32) → (Nat → Int32) → (Nat → Int32) → ng_AM} {k : Nat} {a : Nat} {d : Bool} (V : ng_WL hp k a d) {w : Nat → Int32} {Dg : Nat → Int32} {dw : Nat → Int32} {C : Nat → Int32} {off : Nat → Int32} {dear : Nat → Int32} {proved : Nat → Int32}  {v1 : Int32} {v2 : Int32} {v3 : Int32} {v4 : Int32} {v6 : Int32} {t0 : Int32} (h : s_X4_askComes_90  w Dg C proved d v1 v2 v3 v4 v6 t0)  : ng_Ev G md_X4_askComes 90 [some (.ref k), some (.int v1), some (.int v2), some (.int v3), some (.int v4), none, some (.int v6), none, none, none] [.int t0] (hp w Dg dw C off dear proved) (K_X4_askComes hp dw C off dear proved (f_X4_askComes_90  w Dg C proved d v1 v2 v3 v4 v6 t0)) := by
  unfold s_X4_askComes_90 at h
  unfold f_X4_askComes_90
  refine ev_istore (L' := [some (.ref k), some (.int v1), some (.int v2), some (.int v3), some (.int v4), none, some (.int v6), some (.int t0), none, none]) dX4_askComes_90 (ng_lt rfl) rfl ?_
  refine ev_aload_n dX4_askComes_92 rfl rfl rfl ?_
  refine ev_get 4 0 fl_RX4_11 (WL_gk V) rfl dX4_askComes_93 ?_
  refine ev_iconst (v := nI 1) dX4_askComes_96 (by decide) ?_
  refine ev_iald (WL_ga V) (vp_in_nI (by decide) (by decide)) dX4_askComes_97 ?_
  refine ev_istore (L' := [some (.ref k), some (.int v1), some (.int v2), some (.int v3), some (.int v4), none, some (.int v6), some (.int t0), some (.int (w (nI 1).toNatClampNeg)), none]) dX4_askComes_98 (ng_lt rfl) rfl ?_
  refine ev_sipush (v := nI 142) dX4_askComes_100 (by decide) ?_
  refine ev_iload dX4_askComes_103 rfl ?_
  refine ev_bipush (v := nI 11) dX4_askComes_105 (by decide) ?_
  refine ev_imul dX4_askComes_107 ?_
  refine ev_iadd dX4_askComes_108 ?_
  refine ev_istore (L' := [some (.ref k), some (.int v1), some (.int v2), some (.int v3), some (.int v4), none, some (.int v6), some (.int t0), some (.int (w (nI 1).toNatClampNeg)), some (.int ((nI 142) + ((w (nI 1).toNatClampNeg) * (nI 11))))]) dX4_askComes_109 (ng_lt rfl) rfl ?_
  refine ev_aload_n dX4_askComes_111 rfl rfl rfl ?_
  refine ev_get 4 0 fl_RX4_11 (WL_gk V) rfl dX4_askComes_112 ?_
  refine ev_iload dX4_askComes_115 rfl ?_
  refine ev_iconst (v := nI 1) dX4_askComes_117 (by decide) ?_
  refine ev_iadd dX4_askComes_118 ?_
  refine ev_iload_n dX4_askComes_119 rfl rfl ?_
  have hi120 := h.1
  replace h := h.2
  refine ev_iast (WL_ga V) hi120 (WL_sa V) dX4_askComes_120 ?_
  refine ev_aload_n dX4_askComes_121 rfl rfl rfl ?_
  refine ev_get 4 0 fl_RX4_11 (WL_gk V) rfl dX4_askComes_122 ?_
  refine ev_iload dX4_askComes_125 rfl ?_
  refine ev_iconst (v := nI 2) dX4_askComes_127 (by decide) ?_
  refine ev_iadd dX4_askComes_128 ?_
  refine ev_iload_n dX4_askComes_129 rfl rfl ?_
  have hi130 := h.1
  replace h := h.2
  refine ev_iast (WL_ga V) hi130 (WL_sa V) dX4_askComes_130 ?_
  refine ev_aload_n dX4_askComes_131 rfl rfl rfl ?_
  refine ev_get 4 0 fl_RX4_11 (WL_gk V) rfl dX4_askComes_132 ?_
  refine ev_iload dX4_askComes_135 rfl ?_
  refine ev_iconst (v := nI 3) dX4_askComes_137 (by decide) ?_
  refine ev_iadd dX4_askComes_138 ?_
  refine ev_iload_n dX4_askComes_139 rfl rfl ?_
  have hi140 := h.1
  replace h := h.2
  refine ev_iast (WL_ga V) hi140 (WL_sa V) dX4_askComes_140 ?_
  refine ev_aload_n dX4_askComes_141 rfl rfl rfl ?_
  refine ev_get 4 0 fl_RX4_11 (WL_gk V) rfl dX4_askComes_142 ?_
  refine ev_iload dX4_askComes_145 rfl ?_
  refine ev_bipush (v := nI 6) dX4_askComes_147 (by decide) ?_
  refine ev_iadd dX4_askComes_149 ?_
  refine ev_iload dX4_askComes_150 rfl ?_
  have hi152 := h.1
  replace h := h.2
  refine ev_iast (WL_ga V) hi152 (WL_sa V) dX4_askComes_152 ?_
  refine ev_aload_n dX4_askComes_153 rfl rfl rfl ?_
  refine ev_get 4 0 fl_RX4_11 (WL_gk V) rfl dX4_askComes_154 ?_
  refine ev_iload dX4_askComes_157 rfl ?_
  refine ev_bipush (v := nI 7) dX4_askComes_159 (by decide) ?_
  refine ev_iadd dX4_askComes_161 ?_
  refine ev_iload dX4_askComes_162 rfl ?_
  have hi164 := h.1
  replace h := h.2
  refine ev_iast (WL_ga V) hi164 (WL_sa V) dX4_askComes_164 ?_
  refine ev_aload_n dX4_askComes_165 rfl rfl rfl ?_
  refine ev_iload dX4_askComes_166 rfl ?_
  refine ev_iconst (v := nI 0) dX4_askComes_168 (by decide) ?_
  refine ev_aload_n dX4_askComes_169 rfl rfl rfl ?_
  refine ev_get 4 0 fl_RX4_11 (WL_gk V) rfl dX4_askComes_170 ?_
  refine ev_iconst (v := nI 0) dX4_askComes_173 (by decide) ?_
  refine ev_iald (WL_ga V) (vp_in_nI (by decide) (by decide)) dX4_askComes_174 ?_
  refine ev_aload_n dX4_askComes_175 rfl rfl rfl ?_
  refine ev_get 4 1 fl_RX4_15 (WL_gk V) rfl dX4_askComes_176 ?_
  refine ev_get 2 0 fl_RX4_102 (WL_g1 V) rfl dX4_askComes_179 ?_
  refine ev_iadd dX4_askComes_182 ?_
  have hs183 := h.1
  replace h := h.2
  refine bk_callV (As := [.int (w (nI 1).toNatClampNeg), .int (nI 0), .int (((upd (upd (upd (upd (upd w (((nI 142) + ((w (nI 1).toNatClampNeg) * (nI 11))) + (nI 1)).toNatClampNeg v1) (((nI 142) + ((w (nI 1).toNatClampNeg) * (nI 11))) + (nI 2)).toNatClampNeg v2) (((nI 142) + ((w (nI 1).toNatClampNeg) * (nI 11))) + (nI 3)).toNatClampNeg v3) (((nI 142) + ((w (nI 1).toNatClampNeg) * (nI 11))) + (nI 6)).toNatClampNeg t0) (((nI 142) + ((w (nI 1).toNatClampNeg) * (nI 11))) + (nI 7)).toNatClampNeg v6) (nI 0).toNatClampNeg) + (C 0))]) (st := []) (st2 := [.int ((f_X4_addNoteLike (upd (upd (upd (upd (upd w (((nI 142) + ((w (nI 1).toNatClampNeg) * (nI 11))) + (nI 1)).toNatClampNeg v1) (((nI 142) + ((w (nI 1).toNatClampNeg) * (nI 11))) + (nI 2)).toNatClampNeg v2) (((nI 142) + ((w (nI 1).toNatClampNeg) * (nI 11))) + (nI 3)).toNatClampNeg v3) (((nI 142) + ((w (nI 1).toNatClampNeg) * (nI 11))) + (nI 6)).toNatClampNeg t0) (((nI 142) + ((w (nI 1).toNatClampNeg) * (nI 11))) + (nI 7)).toNatClampNeg v6) (w (nI 1).toNatClampNeg) (nI 0) (((upd (upd (upd (upd (upd w (((nI 142) + ((w (nI 1).toNatClampNeg) * (nI 11))) + (nI 1)).toNatClampNeg v1) (((nI 142) + ((w (nI 1).toNatClampNeg) * (nI 11))) + (nI 2)).toNatClampNeg v2) (((nI 142) + ((w (nI 1).toNatClampNeg) * (nI 11))) + (nI 3)).toNatClampNeg v3) (((nI 142) + ((w (nI 1).toNatClampNeg) * (nI 11))) + (nI 6)).toNatClampNeg t0) (((nI 142) + ((w (nI 1).toNatClampNeg) * (nI 11))) + (nI 7)).toNatClampNeg v6) (nI 0).toNatClampNeg) + (C 0))).2)]) (M2 := hp ((f_X4_addNoteLike (upd (upd (upd (upd (upd w (((nI 142) + ((w (nI 1).toNatClampNeg) * (nI 11))) + (nI 1)).toNatClampNeg v1) (((nI 142) + ((w (nI 1).toNatClampNeg) * (nI 11))) + (nI 2)).toNatClampNeg v2) (((nI 142) + ((w (nI 1).toNatClampNeg) * (nI 11))) + (nI 3)).toNatClampNeg v3) (((nI 142) + ((w (nI 1).toNatClampNeg) * (nI 11))) + (nI 6)).toNatClampNeg t0) (((nI 142) + ((w (nI 1).toNatClampNeg) * (nI 11))) + (nI 7)).toNatClampNeg v6) (w (nI 1).toNatClampNeg) (nI 0) (((upd (upd (upd (upd (upd w (((nI 142) + ((w (nI 1).toNatClampNeg) * (nI 11))) + (nI 1)).toNatClampNeg v1) (((nI 142) + ((w (nI 1).toNatClampNeg) * (nI 11))) + (nI 2)).toNatClampNeg v2) (((nI 142) + ((w (nI 1).toNatClampNeg) * (nI 11))) + (nI 3)).toNatClampNeg v3) (((nI 142) + ((w (nI 1).toNatClampNeg) * (nI 11))) + (nI 6)).toNatClampNeg t0) (((nI 142) + ((w (nI 1).toNatClampNeg) * (nI 11))) + (nI 7)).toNatClampNeg v6) (nI 0).toNatClampNeg) + (C 0))).1) Dg dw C off dear proved) ok_X4_addNoteLike lk_RX4_105 (ng_rok.of rfl rfl) (WL_gk V) rfl rfl rfl rfl rfl rfl dX4_askComes_183 (m_X4_addNoteLike V hs183) rfl rfl ?_
  exact ev_sub (e_X4_askComes_186 V h) (sub_s (sub_s (sub_n (sub_n (sub_s (sub_n (sub_n (sub_n (sub_s (sub_n sub_e))))))))))
def f_X4_askComes_29  (w : Nat → Int32) (Dg : Nat → Int32) (C : Nat → Int32) (proved : Nat → Int32) (d : Bool) (v1 : Int32) (v2 : Int32) (v3 : Int32) (v4 : Int32) (t0 : Int32) : (Nat → Int32) × (Nat → Int32) × Int32 := (if (C 9) = 0 then (w, Dg, nI 0) else (if (f_X5_isBrowser v1) = 0 then (w, Dg, nI 0) else (if (f_X2_isIn C v2) = 0 then (w, Dg, nI 0) else (if t0 = 0 then (w, Dg, nI 0) else (if (proved v1.toNatClampNeg) = (-1) then (w, Dg, nI 0) else f_X4_askComes_90 ((f_X4_beginFamily w v1).1) Dg C proved d v1 v2 v3 v4 (proved v1.toNatClampNeg) ((f_X4_beginFamily w v1).2))))))
def s_X4_askComes_29  (w : Nat → Int32) (Dg : Nat → Int32) (C : Nat → Int32) (proved : Nat → Int32) (d : Bool) (v1 : Int32) (v2 : Int32) (v3 : Int32) (v4 : Int32) (t0 : Int32) : Prop := (¬ (C 9) = 0 → (¬ (f_X5_isBrowser v1) = 0 → (¬ (f_X2_isIn C v2) = 0 → (¬ t0 = 0 → (vp_in v1 5 ∧ (¬ (proved v1.toNatClampNeg) = (-1) → (s_X4_beginFamily w v1 ∧ s_X4_askComes_90 ((f_X4_beginFamily w v1).1) Dg C proved d v1 v2 v3 v4 (proved v1.toNatClampNeg) ((f_X4_beginFamily w v1).2))))))))
set_option maxRecDepth 100000 in
set_option maxHeartbeats 4000000 in
theorem e_X4_askComes_29 {G : ng_GG} {hp : (Nat → Int32) → (Nat → Int32) → (Nat → Int32) → (Nat → Int32) → (Nat → Int32) → (Nat → Int32) → (Nat → Int32) → ng_AM} {k : Nat} {a : Nat} {d : Bool} (V : ng_WL hp k a d) {w : Nat → Int32} {Dg : Nat → Int32} {dw : Nat → Int32} {C : Nat → Int32} {off : Nat → Int32} {dear : Nat → Int32} {proved : Nat → Int32}  {v1 : Int32} {v2 : Int32} {v3 : Int32} {v4 : Int32} {t0 : Int32} (h : s_X4_askComes_29  w Dg C proved d v1 v2 v3 v4 t0)  : ng_Ev G md_X4_askComes 29 [some (.ref k), some (.int v1), some (.int v2), some (.int v3), some (.int v4), none, none, none, none, none] [.int t0] (hp w Dg dw C off dear proved) (K_X4_askComes hp dw C off dear proved (f_X4_askComes_29  w Dg C proved d v1 v2 v3 v4 t0)) := by
  unfold s_X4_askComes_29 at h
  unfold f_X4_askComes_29
  refine ev_istore (L' := [some (.ref k), some (.int v1), some (.int v2), some (.int v3), some (.int v4), some (.int t0), none, none, none, none]) dX4_askComes_29 (ng_lt rfl) rfl ?_
  refine ev_aload_n dX4_askComes_31 rfl rfl rfl ?_
  refine ev_get 4 1 fl_RX4_15 (WL_gk V) rfl dX4_askComes_32 ?_
  refine ev_get 2 9 fl_RX4_88 (WL_g1 V) rfl dX4_askComes_35 ?_
  refine bk_if_eq (tgt := 64) dX4_askComes_38 (by decide) (fun c38 => ?_) (fun c38 => ?_)
  · refine ev_iconst (v := nI 0) dX4_askComes_64 (by decide) ?_
    exact ev_iret rfl rfl dX4_askComes_65
  · replace h := h c38
    refine ev_iload_n dX4_askComes_41 rfl rfl ?_
    refine bk_callSN (As := [.int v1]) (st := []) (st2 := [.int (f_X5_isBrowser v1)]) (M2 := hp w Dg dw C off dear proved) ok_X5_isBrowser lk_RX4_33 (ng_rok.of rfl rfl) rfl rfl rfl rfl dX4_askComes_42 (m_X5_isBrowser trivial) rfl rfl ?_
    refine bk_if_eq (tgt := 64) dX4_askComes_45 (by decide) (fun c45 => ?_) (fun c45 => ?_)
    · refine ev_iconst (v := nI 0) dX4_askComes_64 (by decide) ?_
      exact ev_iret rfl rfl dX4_askComes_65
    · replace h := h c45
      refine ev_aload_n dX4_askComes_48 rfl rfl rfl ?_
      refine ev_get 4 1 fl_RX4_15 (WL_gk V) rfl dX4_askComes_49 ?_
      refine ev_iload_n dX4_askComes_52 rfl rfl ?_
      refine bk_callV (As := [.int v2]) (st := []) (st2 := [.int (f_X2_isIn C v2)]) (M2 := hp w Dg dw C off dear proved) ok_X2_isIn lk_RX4_92 (ng_rok.of rfl rfl) (WL_g1 V) rfl rfl rfl rfl rfl rfl dX4_askComes_53 (m_X2_isIn (WL_RS V) trivial) rfl rfl ?_
      refine bk_if_eq (tgt := 64) dX4_askComes_56 (by decide) (fun c56 => ?_) (fun c56 => ?_)
      · refine ev_iconst (v := nI 0) dX4_askComes_64 (by decide) ?_
        exact ev_iret rfl rfl dX4_askComes_65
      · replace h := h c56
        refine ev_iload dX4_askComes_59 rfl ?_
        refine bk_if_ne (tgt := 66) dX4_askComes_61 (by decide) (fun c61 => ?_) (fun c61 => ?_)
        · replace h := h c61
          refine ev_aload_n dX4_askComes_66 rfl rfl rfl ?_
          refine ev_get 4 1 fl_RX4_15 (WL_gk V) rfl dX4_askComes_67 ?_
          refine ev_get 2 16 fl_RX4_95 (WL_g1 V) rfl dX4_askComes_70 ?_
          refine ev_iload_n dX4_askComes_73 rfl rfl ?_
          have hi74 := h.1
          replace h := h.2
          refine ev_iald (WL_g4 V) hi74 dX4_askComes_74 ?_
          refine ev_istore (L' := [some (.ref k), some (.int v1), some (.int v2), some (.int v3), some (.int v4), some (.int t0), some (.int (proved v1.toNatClampNeg)), none, none, none]) dX4_askComes_75 (ng_lt rfl) rfl ?_
          refine ev_iload dX4_askComes_77 rfl ?_
          refine ev_iconst (v := (-1)) dX4_askComes_79 (by decide) ?_
          refine bk_icmp_ne (tgt := 85) dX4_askComes_80 (by decide) (fun c80 => ?_) (fun c80 => ?_)
          · replace h := h c80
            refine ev_aload_n dX4_askComes_85 rfl rfl rfl ?_
            refine ev_iload_n dX4_askComes_86 rfl rfl ?_
            have hs87 := h.1
            replace h := h.2
            refine bk_callV (As := [.int v1]) (st := []) (st2 := [.int ((f_X4_beginFamily w v1).2)]) (M2 := hp ((f_X4_beginFamily w v1).1) Dg dw C off dear proved) ok_X4_beginFamily lk_RX4_98 (ng_rok.of rfl rfl) (WL_gk V) rfl rfl rfl rfl rfl rfl dX4_askComes_87 (m_X4_beginFamily V hs87) rfl rfl ?_
            exact ev_sub (e_X4_askComes_90 V h) (sub_s (sub_s (sub_s (sub_s (sub_s (sub_n (sub_s (sub_n (sub_n (sub_n sub_e))))))))))
          · refine ev_iconst (v := nI 0) dX4_askComes_83 (by decide) ?_
            exact ev_iret rfl rfl dX4_askComes_84
        · refine ev_iconst (v := nI 0) dX4_askComes_64 (by decide) ?_
          exact ev_iret rfl rfl dX4_askComes_65
def f_X4_askComes_28  (w : Nat → Int32) (Dg : Nat → Int32) (C : Nat → Int32) (proved : Nat → Int32) (d : Bool) (v1 : Int32) (v2 : Int32) (v3 : Int32) (v4 : Int32) : (Nat → Int32) × (Nat → Int32) × Int32 := f_X4_askComes_29 w Dg C proved d v1 v2 v3 v4 (nI 0)
def s_X4_askComes_28  (w : Nat → Int32) (Dg : Nat → Int32) (C : Nat → Int32) (proved : Nat → Int32) (d : Bool) (v1 : Int32) (v2 : Int32) (v3 : Int32) (v4 : Int32) : Prop := s_X4_askComes_29 w Dg C proved d v1 v2 v3 v4 (nI 0)
set_option maxRecDepth 100000 in
set_option maxHeartbeats 4000000 in
theorem e_X4_askComes_28 {G : ng_GG} {hp : (Nat → Int32) → (Nat → Int32) → (Nat → Int32) → (Nat → Int32) → (Nat → Int32) → (Nat → Int32) → (Nat → Int32) → ng_AM} {k : Nat} {a : Nat} {d : Bool} (V : ng_WL hp k a d) {w : Nat → Int32} {Dg : Nat → Int32} {dw : Nat → Int32} {C : Nat → Int32} {off : Nat → Int32} {dear : Nat → Int32} {proved : Nat → Int32}  {v1 : Int32} {v2 : Int32} {v3 : Int32} {v4 : Int32} (h : s_X4_askComes_28  w Dg C proved d v1 v2 v3 v4)  : ng_Ev G md_X4_askComes 28 [some (.ref k), some (.int v1), some (.int v2), some (.int v3), some (.int v4), none, none, none, none, none] [] (hp w Dg dw C off dear proved) (K_X4_askComes hp dw C off dear proved (f_X4_askComes_28  w Dg C proved d v1 v2 v3 v4)) := by
  unfold s_X4_askComes_28 at h
  unfold f_X4_askComes_28
  refine ev_iconst (v := nI 0) dX4_askComes_28 (by decide) ?_
  exact ev_sub (e_X4_askComes_29 V h) (sub_s (sub_s (sub_s (sub_s (sub_s (sub_n (sub_n (sub_n (sub_n (sub_n sub_e))))))))))
def f_X4_askComes  (w : Nat → Int32) (Dg : Nat → Int32) (C : Nat → Int32) (proved : Nat → Int32) (d : Bool) (v1 : Int32) (v2 : Int32) (v3 : Int32) (v4 : Int32) : (Nat → Int32) × (Nat → Int32) × Int32 := (if (nI 32) < ((w (nI 1).toNatClampNeg) + (nI 2)) then f_X4_askComes_28 w Dg C proved d v1 v2 v3 v4 else (if (nI 16) ≤ (w (nI 2).toNatClampNeg) then f_X4_askComes_28 w Dg C proved d v1 v2 v3 v4 else f_X4_askComes_29 w Dg C proved d v1 v2 v3 v4 (nI 1)))
def s_X4_askComes  (w : Nat → Int32) (Dg : Nat → Int32) (C : Nat → Int32) (proved : Nat → Int32) (d : Bool) (v1 : Int32) (v2 : Int32) (v3 : Int32) (v4 : Int32) : Prop := (((nI 32) < ((w (nI 1).toNatClampNeg) + (nI 2)) → s_X4_askComes_28 w Dg C proved d v1 v2 v3 v4) ∧ (¬ (nI 32) < ((w (nI 1).toNatClampNeg) + (nI 2)) → (((nI 16) ≤ (w (nI 2).toNatClampNeg) → s_X4_askComes_28 w Dg C proved d v1 v2 v3 v4) ∧ (¬ (nI 16) ≤ (w (nI 2).toNatClampNeg) → s_X4_askComes_29 w Dg C proved d v1 v2 v3 v4 (nI 1)))))
set_option maxRecDepth 100000 in
set_option maxHeartbeats 4000000 in
theorem e_X4_askComes {G : ng_GG} {hp : (Nat → Int32) → (Nat → Int32) → (Nat → Int32) → (Nat → Int32) → (Nat → Int32) → (Nat → Int32) → (Nat → Int32) → ng_AM} {k : Nat} {a : Nat} {d : Bool} (V : ng_WL hp k a d) {w : Nat → Int32} {Dg : Nat → Int32} {dw : Nat → Int32} {C : Nat → Int32} {off : Nat → Int32} {dear : Nat → Int32} {proved : Nat → Int32}  {v1 : Int32} {v2 : Int32} {v3 : Int32} {v4 : Int32} (h : s_X4_askComes  w Dg C proved d v1 v2 v3 v4)  : ng_Ev G md_X4_askComes 0 [some (.ref k), some (.int v1), some (.int v2), some (.int v3), some (.int v4), none, none, none, none, none] [] (hp w Dg dw C off dear proved) (K_X4_askComes hp dw C off dear proved (f_X4_askComes  w Dg C proved d v1 v2 v3 v4)) := by
  unfold s_X4_askComes at h
  unfold f_X4_askComes
  refine ev_aload_n dX4_askComes_0 rfl rfl rfl ?_
  refine ev_get 4 0 fl_RX4_11 (WL_gk V) rfl dX4_askComes_1 ?_
  refine ev_iconst (v := nI 1) dX4_askComes_4 (by decide) ?_
  refine ev_iald (WL_ga V) (vp_in_nI (by decide) (by decide)) dX4_askComes_5 ?_
  refine ev_iconst (v := nI 2) dX4_askComes_6 (by decide) ?_
  refine ev_iadd dX4_askComes_7 ?_
  refine ev_bipush (v := nI 32) dX4_askComes_8 (by decide) ?_
  refine bk_icmp_gt (tgt := 28) dX4_askComes_10 (by decide) (fun c10 => ?_) (fun c10 => ?_)
  · replace h := h.1 c10
    exact ev_sub (e_X4_askComes_28 V h) (sub_s (sub_s (sub_s (sub_s (sub_s (sub_n (sub_n (sub_n (sub_n (sub_n sub_e))))))))))
  · replace h := h.2 c10
    refine ev_aload_n dX4_askComes_13 rfl rfl rfl ?_
    refine ev_get 4 0 fl_RX4_11 (WL_gk V) rfl dX4_askComes_14 ?_
    refine ev_iconst (v := nI 2) dX4_askComes_17 (by decide) ?_
    refine ev_iald (WL_ga V) (vp_in_nI (by decide) (by decide)) dX4_askComes_18 ?_
    refine ev_bipush (v := nI 16) dX4_askComes_19 (by decide) ?_
    refine bk_icmp_ge (tgt := 28) dX4_askComes_21 (by decide) (fun c21 => ?_) (fun c21 => ?_)
    · replace h := h.1 c21
      exact ev_sub (e_X4_askComes_28 V h) (sub_s (sub_s (sub_s (sub_s (sub_s (sub_n (sub_n (sub_n (sub_n (sub_n sub_e))))))))))
    · replace h := h.2 c21
      refine ev_iconst (v := nI 1) dX4_askComes_24 (by decide) ?_
      refine ev_goto (tgt := 29) dX4_askComes_25 (by decide) ?_
      exact ev_sub (e_X4_askComes_29 V h) (sub_s (sub_s (sub_s (sub_s (sub_s (sub_n (sub_n (sub_n (sub_n (sub_n sub_e))))))))))
theorem m_X4_askComes {G : ng_GG} {hp : (Nat → Int32) → (Nat → Int32) → (Nat → Int32) → (Nat → Int32) → (Nat → Int32) → (Nat → Int32) → (Nat → Int32) → ng_AM} {k : Nat} {a : Nat} {d : Bool} (V : ng_WL hp k a d) {w : Nat → Int32} {Dg : Nat → Int32} {dw : Nat → Int32} {C : Nat → Int32} {off : Nat → Int32} {dear : Nat → Int32} {proved : Nat → Int32} {v1 : Int32} {v2 : Int32} {v3 : Int32} {v4 : Int32} (h : s_X4_askComes w Dg C proved d v1 v2 v3 v4)  : ng_Ev G md_X4_askComes 0 (ng_en 10 [.ref k, .int v1, .int v2, .int v3, .int v4]) [] (hp w Dg dw C off dear proved) (K_X4_askComes hp dw C off dear proved (f_X4_askComes w Dg C proved d v1 v2 v3 v4)) := e_X4_askComes V h 
def K_X4_giveComes (hp : (Nat → Int32) → (Nat → Int32) → (Nat → Int32) → (Nat → Int32) → (Nat → Int32) → (Nat → Int32) → (Nat → Int32) → ng_AM) (Dg : Nat → Int32) (dw : Nat → Int32) (C : Nat → Int32) (off : Nat → Int32) (dear : Nat → Int32) (proved : Nat → Int32) (r : (Nat → Int32) × Int32) : ng_RR := (some (.int (r.2)), hp (r.1) Dg dw C off dear proved)
def f_X4_giveComes_39  (w : Nat → Int32) (C : Nat → Int32) (v1 : Int32) (v2 : Int32) : (Nat → Int32) × Int32 := ((f_X4_letHave w v1 v2), nI 1)
def s_X4_giveComes_39  (w : Nat → Int32) (C : Nat → Int32) (v1 : Int32) (v2 : Int32) : Prop := s_X4_letHave w v1 v2
set_option maxRecDepth 100000 in
set_option maxHeartbeats 4000000 in
theorem e_X4_giveComes_39 {G : ng_GG} {hp : (Nat → Int32) → (Nat → Int32) → (Nat → Int32) → (Nat → Int32) → (Nat → Int32) → (Nat → Int32) → (Nat → Int32) → ng_AM} {k : Nat} {a : Nat} {d : Bool} (V : ng_WL hp k a d) {w : Nat → Int32} {Dg : Nat → Int32} {dw : Nat → Int32} {C : Nat → Int32} {off : Nat → Int32} {dear : Nat → Int32} {proved : Nat → Int32}  {v1 : Int32} {v2 : Int32} (h : s_X4_giveComes_39  w C v1 v2)  : ng_Ev G md_X4_giveComes 39 [some (.ref k), some (.int v1), some (.int v2), none, none] [] (hp w Dg dw C off dear proved) (K_X4_giveComes hp Dg dw C off dear proved (f_X4_giveComes_39  w C v1 v2)) := by
  unfold s_X4_giveComes_39 at h
  unfold f_X4_giveComes_39
  refine ev_aload_n dX4_giveComes_39 rfl rfl rfl ?_
  refine ev_iload_n dX4_giveComes_40 rfl rfl ?_
  refine ev_iload_n dX4_giveComes_41 rfl rfl ?_
  have hs42 := h
  refine bk_callV (As := [.int v1, .int v2]) (st := []) (st2 := []) (M2 := hp (f_X4_letHave w v1 v2) Dg dw C off dear proved) ok_X4_letHave lk_RX4_120 (ng_rok.of rfl rfl) (WL_gk V) rfl rfl rfl rfl rfl rfl dX4_giveComes_42 (m_X4_letHave V hs42) rfl rfl ?_
  refine ev_iconst (v := nI 1) dX4_giveComes_45 (by decide) ?_
  exact ev_iret rfl rfl dX4_giveComes_46
def f_X4_giveComes_25  (w : Nat → Int32) (C : Nat → Int32) (v1 : Int32) (v2 : Int32) : (Nat → Int32) × Int32 := f_X4_giveComes_39 (upd w (((nI 16) + (v1 * (nI 2))) + (nI 0)).toNatClampNeg (nI 0)) C v1 v2
def s_X4_giveComes_25  (w : Nat → Int32) (C : Nat → Int32) (v1 : Int32) (v2 : Int32) : Prop := (vp_in (((nI 16) + (v1 * (nI 2))) + (nI 0)) 494 ∧ s_X4_giveComes_39 (upd w (((nI 16) + (v1 * (nI 2))) + (nI 0)).toNatClampNeg (nI 0)) C v1 v2)
set_option maxRecDepth 100000 in
set_option maxHeartbeats 4000000 in
theorem e_X4_giveComes_25 {G : ng_GG} {hp : (Nat → Int32) → (Nat → Int32) → (Nat → Int32) → (Nat → Int32) → (Nat → Int32) → (Nat → Int32) → (Nat → Int32) → ng_AM} {k : Nat} {a : Nat} {d : Bool} (V : ng_WL hp k a d) {w : Nat → Int32} {Dg : Nat → Int32} {dw : Nat → Int32} {C : Nat → Int32} {off : Nat → Int32} {dear : Nat → Int32} {proved : Nat → Int32}  {v1 : Int32} {v2 : Int32} (h : s_X4_giveComes_25  w C v1 v2)  : ng_Ev G md_X4_giveComes 25 [some (.ref k), some (.int v1), some (.int v2), none, none] [] (hp w Dg dw C off dear proved) (K_X4_giveComes hp Dg dw C off dear proved (f_X4_giveComes_25  w C v1 v2)) := by
  unfold s_X4_giveComes_25 at h
  unfold f_X4_giveComes_25
  refine ev_aload_n dX4_giveComes_25 rfl rfl rfl ?_
  refine ev_get 4 0 fl_RX4_11 (WL_gk V) rfl dX4_giveComes_26 ?_
  refine ev_bipush (v := nI 16) dX4_giveComes_29 (by decide) ?_
  refine ev_iload_n dX4_giveComes_31 rfl rfl ?_
  refine ev_iconst (v := nI 2) dX4_giveComes_32 (by decide) ?_
  refine ev_imul dX4_giveComes_33 ?_
  refine ev_iadd dX4_giveComes_34 ?_
  refine ev_iconst (v := nI 0) dX4_giveComes_35 (by decide) ?_
  refine ev_iadd dX4_giveComes_36 ?_
  refine ev_iconst (v := nI 0) dX4_giveComes_37 (by decide) ?_
  have hi38 := h.1
  replace h := h.2
  refine ev_iast (WL_ga V) hi38 (WL_sa V) dX4_giveComes_38 ?_
  exact ev_sub (e_X4_giveComes_39 V h) (sub_s (sub_s (sub_s (sub_n (sub_n sub_e)))))
def f_X4_giveComes  (w : Nat → Int32) (C : Nat → Int32) (v1 : Int32) (v2 : Int32) (v3 : Int32) (v4 : Int32) : (Nat → Int32) × Int32 := (if (f_X5_isBrowser v1) = 0 then f_X4_giveComes_39 w C v1 v2 else (if (f_X4_takes w C v1 v4) = 0 then (w, nI 0) else f_X4_giveComes_25 (f_X4_letHave w v1 v3) C v1 v2))
def s_X4_giveComes  (w : Nat → Int32) (C : Nat → Int32) (v1 : Int32) (v2 : Int32) (v3 : Int32) (v4 : Int32) : Prop := (((f_X5_isBrowser v1) = 0 → s_X4_giveComes_39 w C v1 v2) ∧ (¬ (f_X5_isBrowser v1) = 0 → (s_X4_takes w C v1 v4 ∧ (¬ (f_X4_takes w C v1 v4) = 0 → (s_X4_letHave w v1 v3 ∧ s_X4_giveComes_25 (f_X4_letHave w v1 v3) C v1 v2)))))
set_option maxRecDepth 100000 in
set_option maxHeartbeats 4000000 in
theorem e_X4_giveComes {G : ng_GG} {hp : (Nat → Int32) → (Nat → Int32) → (Nat → Int32) → (Nat → Int32) → (Nat → Int32) → (Nat → Int32) → (Nat → Int32) → ng_AM} {k : Nat} {a : Nat} {d : Bool} (V : ng_WL hp k a d) {w : Nat → Int32} {Dg : Nat → Int32} {dw : Nat → Int32} {C : Nat → Int32} {off : Nat → Int32} {dear : Nat → Int32} {proved : Nat → Int32}  {v1 : Int32} {v2 : Int32} {v3 : Int32} {v4 : Int32} (h : s_X4_giveComes  w C v1 v2 v3 v4)  : ng_Ev G md_X4_giveComes 0 [some (.ref k), some (.int v1), some (.int v2), some (.int v3), some (.int v4)] [] (hp w Dg dw C off dear proved) (K_X4_giveComes hp Dg dw C off dear proved (f_X4_giveComes  w C v1 v2 v3 v4)) := by
  unfold s_X4_giveComes at h
  unfold f_X4_giveComes
  refine ev_iload_n dX4_giveComes_0 rfl rfl ?_
  refine bk_callSN (As := [.int v1]) (st := []) (st2 := [.int (f_X5_isBrowser v1)]) (M2 := hp w Dg dw C off dear proved) ok_X5_isBrowser lk_RX4_33 (ng_rok.of rfl rfl) rfl rfl rfl rfl dX4_giveComes_1 (m_X5_isBrowser trivial) rfl rfl ?_
  refine bk_if_eq (tgt := 39) dX4_giveComes_4 (by decide) (fun c4 => ?_) (fun c4 => ?_)
  · replace h := h.1 c4
    exact ev_sub (e_X4_giveComes_39 V h) (sub_s (sub_s (sub_s (sub_n (sub_n sub_e)))))
  · replace h := h.2 c4
    refine ev_aload_n dX4_giveComes_7 rfl rfl rfl ?_
    refine ev_iload_n dX4_giveComes_8 rfl rfl ?_
    refine ev_iload dX4_giveComes_9 rfl ?_
    have hs11 := h.1
    replace h := h.2
    refine bk_callV (As := [.int v1, .int v4]) (st := []) (st2 := [.int (f_X4_takes w C v1 v4)]) (M2 := hp w Dg dw C off dear proved) ok_X4_takes lk_RX4_135 (ng_rok.of rfl rfl) (WL_gk V) rfl rfl rfl rfl rfl rfl dX4_giveComes_11 (m_X4_takes (WL_R V) hs11) rfl rfl ?_
    refine bk_if_ne (tgt := 19) dX4_giveComes_14 (by decide) (fun c14 => ?_) (fun c14 => ?_)
    · replace h := h c14
      refine ev_aload_n dX4_giveComes_19 rfl rfl rfl ?_
      refine ev_iload_n dX4_giveComes_20 rfl rfl ?_
      refine ev_iload_n dX4_giveComes_21 rfl rfl ?_
      have hs22 := h.1
      replace h := h.2
      refine bk_callV (As := [.int v1, .int v3]) (st := []) (st2 := []) (M2 := hp (f_X4_letHave w v1 v3) Dg dw C off dear proved) ok_X4_letHave lk_RX4_120 (ng_rok.of rfl rfl) (WL_gk V) rfl rfl rfl rfl rfl rfl dX4_giveComes_22 (m_X4_letHave V hs22) rfl rfl ?_
      exact ev_sub (e_X4_giveComes_25 V h) (sub_s (sub_s (sub_s (sub_n (sub_n sub_e)))))
    · refine ev_iconst (v := nI 0) dX4_giveComes_17 (by decide) ?_
      exact ev_iret rfl rfl dX4_giveComes_18
theorem m_X4_giveComes {G : ng_GG} {hp : (Nat → Int32) → (Nat → Int32) → (Nat → Int32) → (Nat → Int32) → (Nat → Int32) → (Nat → Int32) → (Nat → Int32) → ng_AM} {k : Nat} {a : Nat} {d : Bool} (V : ng_WL hp k a d) {w : Nat → Int32} {Dg : Nat → Int32} {dw : Nat → Int32} {C : Nat → Int32} {off : Nat → Int32} {dear : Nat → Int32} {proved : Nat → Int32} {v1 : Int32} {v2 : Int32} {v3 : Int32} {v4 : Int32} (h : s_X4_giveComes w C v1 v2 v3 v4)  : ng_Ev G md_X4_giveComes 0 (ng_en 5 [.ref k, .int v1, .int v2, .int v3, .int v4]) [] (hp w Dg dw C off dear proved) (K_X4_giveComes hp Dg dw C off dear proved (f_X4_giveComes w C v1 v2 v3 v4)) := e_X4_giveComes V h 
def K_X4_overComes (hp : (Nat → Int32) → (Nat → Int32) → (Nat → Int32) → (Nat → Int32) → (Nat → Int32) → (Nat → Int32) → (Nat → Int32) → ng_AM) (Dg : Nat → Int32) (dw : Nat → Int32) (C : Nat → Int32) (off : Nat → Int32) (dear : Nat → Int32) (proved : Nat → Int32) (r : (Nat → Int32) × Int32) : ng_RR := (some (.int (r.2)), hp (r.1) Dg dw C off dear proved)
def f_X4_overComes  (w : Nat → Int32) (v1 : Int32) (v2 : Int32) : (Nat → Int32) × Int32 := (if v1 < 0 then (w, nI 1) else (if (nI 4) ≤ v1 then (w, nI 1) else (if (f_X4_isFamily w v2) = 0 then (w, nI 1) else ((upd w (((nI 4) + (v1 * (nI 3))) + (nI 1)).toNatClampNeg ((w (((nI 4) + (v1 * (nI 3))) + (nI 1)).toNatClampNeg) ||| ((nI 1) <<< (v2 &&& 31)))), nI 1))))
def s_X4_overComes  (w : Nat → Int32) (v1 : Int32) (v2 : Int32) : Prop := (¬ v1 < 0 → (¬ (nI 4) ≤ v1 → (¬ (f_X4_isFamily w v2) = 0 → (vp_in (((nI 4) + (v1 * (nI 3))) + (nI 1)) 494 ∧ vp_in (((nI 4) + (v1 * (nI 3))) + (nI 1)) 494))))
set_option maxRecDepth 100000 in
set_option maxHeartbeats 4000000 in
theorem e_X4_overComes {G : ng_GG} {hp : (Nat → Int32) → (Nat → Int32) → (Nat → Int32) → (Nat → Int32) → (Nat → Int32) → (Nat → Int32) → (Nat → Int32) → ng_AM} {k : Nat} {a : Nat} {d : Bool} (V : ng_WL hp k a d) {w : Nat → Int32} {Dg : Nat → Int32} {dw : Nat → Int32} {C : Nat → Int32} {off : Nat → Int32} {dear : Nat → Int32} {proved : Nat → Int32}  {v1 : Int32} {v2 : Int32} (h : s_X4_overComes  w v1 v2)  : ng_Ev G md_X4_overComes 0 [some (.ref k), some (.int v1), some (.int v2)] [] (hp w Dg dw C off dear proved) (K_X4_overComes hp Dg dw C off dear proved (f_X4_overComes  w v1 v2)) := by
  unfold s_X4_overComes at h
  unfold f_X4_overComes
  refine ev_iload_n dX4_overComes_0 rfl rfl ?_
  refine bk_if_lt (tgt := 35) dX4_overComes_1 (by decide) (fun c1 => ?_) (fun c1 => ?_)
  · refine ev_iconst (v := nI 1) dX4_overComes_35 (by decide) ?_
    exact ev_iret rfl rfl dX4_overComes_36
  · replace h := h c1
    refine ev_iload_n dX4_overComes_4 rfl rfl ?_
    refine ev_iconst (v := nI 4) dX4_overComes_5 (by decide) ?_
    refine bk_icmp_ge (tgt := 35) dX4_overComes_6 (by decide) (fun c6 => ?_) (fun c6 => ?_)
    · refine ev_iconst (v := nI 1) dX4_overComes_35 (by decide) ?_
      exact ev_iret rfl rfl dX4_overComes_36
    · replace h := h c6
      refine ev_aload_n dX4_overComes_9 rfl rfl rfl ?_
      refine ev_iload_n dX4_overComes_10 rfl rfl ?_
      refine bk_callV (As := [.int v2]) (st := []) (st2 := [.int (f_X4_isFamily w v2)]) (M2 := hp w Dg dw C off dear proved) ok_X4_isFamily lk_RX4_27 (ng_rok.of rfl rfl) (WL_gk V) rfl rfl rfl rfl rfl rfl dX4_overComes_11 (m_X4_isFamily (WL_R V) trivial) rfl rfl ?_
      refine bk_if_eq (tgt := 35) dX4_overComes_14 (by decide) (fun c14 => ?_) (fun c14 => ?_)
      · refine ev_iconst (v := nI 1) dX4_overComes_35 (by decide) ?_
        exact ev_iret rfl rfl dX4_overComes_36
      · replace h := h c14
        refine ev_aload_n dX4_overComes_17 rfl rfl rfl ?_
        refine ev_get 4 0 fl_RX4_11 (WL_gk V) rfl dX4_overComes_18 ?_
        refine ev_iconst (v := nI 4) dX4_overComes_21 (by decide) ?_
        refine ev_iload_n dX4_overComes_22 rfl rfl ?_
        refine ev_iconst (v := nI 3) dX4_overComes_23 (by decide) ?_
        refine ev_imul dX4_overComes_24 ?_
        refine ev_iadd dX4_overComes_25 ?_
        refine ev_iconst (v := nI 1) dX4_overComes_26 (by decide) ?_
        refine ev_iadd dX4_overComes_27 ?_
        refine ev_dup2 dX4_overComes_28 rfl rfl ?_
        have hi29 := h.1
        replace h := h.2
        refine ev_iald (WL_ga V) hi29 dX4_overComes_29 ?_
        refine ev_iconst (v := nI 1) dX4_overComes_30 (by decide) ?_
        refine ev_iload_n dX4_overComes_31 rfl rfl ?_
        refine ev_ishl dX4_overComes_32 ?_
        refine ev_ior dX4_overComes_33 ?_
        have hi34 := h
        refine ev_iast (WL_ga V) hi34 (WL_sa V) dX4_overComes_34 ?_
        refine ev_iconst (v := nI 1) dX4_overComes_35 (by decide) ?_
        exact ev_iret rfl rfl dX4_overComes_36
theorem m_X4_overComes {G : ng_GG} {hp : (Nat → Int32) → (Nat → Int32) → (Nat → Int32) → (Nat → Int32) → (Nat → Int32) → (Nat → Int32) → (Nat → Int32) → ng_AM} {k : Nat} {a : Nat} {d : Bool} (V : ng_WL hp k a d) {w : Nat → Int32} {Dg : Nat → Int32} {dw : Nat → Int32} {C : Nat → Int32} {off : Nat → Int32} {dear : Nat → Int32} {proved : Nat → Int32} {v1 : Int32} {v2 : Int32} (h : s_X4_overComes w v1 v2)  : ng_Ev G md_X4_overComes 0 (ng_en 3 [.ref k, .int v1, .int v2]) [] (hp w Dg dw C off dear proved) (K_X4_overComes hp Dg dw C off dear proved (f_X4_overComes w v1 v2)) := e_X4_overComes V h 
def K_X4_showComes (hp : (Nat → Int32) → (Nat → Int32) → (Nat → Int32) → (Nat → Int32) → (Nat → Int32) → (Nat → Int32) → (Nat → Int32) → ng_AM) (C : Nat → Int32) (off : Nat → Int32) (dear : Nat → Int32) (proved : Nat → Int32) (r : (Nat → Int32) × (Nat → Int32) × (Nat → Int32) × Int32) : ng_RR := (some (.int (r.2.2.2)), hp (r.1) (r.2.1) (r.2.2.1) C off dear proved)
def f_X4_showComes_21  (w : Nat → Int32) (Dg : Nat → Int32) (dw : Nat → Int32) (C : Nat → Int32) (off : Nat → Int32) (dear : Nat → Int32) (d : Bool) (v1 : Int32) (v2 : Int32) (v3 : Int32) (v4 : Int32) (v5 : Int32) : (Nat → Int32) × (Nat → Int32) × (Nat → Int32) × Int32 := (if d = true then (w, (f_X0_add Dg dw (w (nI 0).toNatClampNeg) v2 v1 v3 v4 v5).1, (f_X0_add Dg dw (w (nI 0).toNatClampNeg) v2 v1 v3 v4 v5).2, v5) else (w, Dg, dw, v5))
def s_X4_showComes_21  (w : Nat → Int32) (Dg : Nat → Int32) (dw : Nat → Int32) (C : Nat → Int32) (off : Nat → Int32) (dear : Nat → Int32) (d : Bool) (v1 : Int32) (v2 : Int32) (v3 : Int32) (v4 : Int32) (v5 : Int32) : Prop := (d = true → s_X0_add Dg dw (w (nI 0).toNatClampNeg) v2 v1 v3 v4 v5)
set_option maxRecDepth 100000 in
set_option maxHeartbeats 4000000 in
theorem e_X4_showComes_21 {G : ng_GG} {hp : (Nat → Int32) → (Nat → Int32) → (Nat → Int32) → (Nat → Int32) → (Nat → Int32) → (Nat → Int32) → (Nat → Int32) → ng_AM} {k : Nat} {a : Nat} {d : Bool} (V : ng_WL hp k a d) {w : Nat → Int32} {Dg : Nat → Int32} {dw : Nat → Int32} {C : Nat → Int32} {off : Nat → Int32} {dear : Nat → Int32} {proved : Nat → Int32}  {v1 : Int32} {v2 : Int32} {v3 : Int32} {v4 : Int32} {v5 : Int32} (h : s_X4_showComes_21  w Dg dw C off dear d v1 v2 v3 v4 v5)  : ng_Ev G md_X4_showComes 21 [some (.ref k), some (.int v1), some (.int v2), some (.int v3), some (.int v4), some (.int v5)] [] (hp w Dg dw C off dear proved) (K_X4_showComes hp C off dear proved (f_X4_showComes_21  w Dg dw C off dear d v1 v2 v3 v4 v5)) := by
  unfold s_X4_showComes_21 at h
  unfold f_X4_showComes_21
  refine ev_aload_n dX4_showComes_21 rfl rfl rfl ?_
  refine ev_get 4 2 fl_RX4_19 (WL_gk V) rfl dX4_showComes_22 ?_
  refine bk_ifnull_d (tgt := 48) dX4_showComes_25 (by decide) (fun c25 => ?_) (fun c25 => ?_)
  · replace h := h c25
    subst c25
    refine ev_aload_n dX4_showComes_28 rfl rfl rfl ?_
    refine ev_get 4 2 fl_RX4_19 (WL_gk V) rfl dX4_showComes_29 ?_
    refine ev_aload_n dX4_showComes_32 rfl rfl rfl ?_
    refine ev_get 4 0 fl_RX4_11 (WL_gk V) rfl dX4_showComes_33 ?_
    refine ev_iconst (v := nI 0) dX4_showComes_36 (by decide) ?_
    refine ev_iald (WL_ga V) (vp_in_nI (by decide) (by decide)) dX4_showComes_37 ?_
    refine ev_iload_n dX4_showComes_38 rfl rfl ?_
    refine ev_iload_n dX4_showComes_39 rfl rfl ?_
    refine ev_iload_n dX4_showComes_40 rfl rfl ?_
    refine ev_iload dX4_showComes_41 rfl ?_
    refine ev_iload dX4_showComes_43 rfl ?_
    have hs45 := h
    refine bk_callV (As := [.int (w (nI 0).toNatClampNeg), .int v2, .int v1, .int v3, .int v4, .int v5]) (st := []) (st2 := []) (M2 := hp w ((f_X0_add Dg dw (w (nI 0).toNatClampNeg) v2 v1 v3 v4 v5).1) ((f_X0_add Dg dw (w (nI 0).toNatClampNeg) v2 v1 v3 v4 v5).2) C off dear proved) ok_X0_add lk_RX4_145 (ng_rok.of rfl rfl) (WL_g5 V) rfl rfl rfl rfl rfl rfl dX4_showComes_45 (m_X0_add (WL_D V w C off dear proved) hs45) rfl rfl ?_
    refine ev_iload dX4_showComes_48 rfl ?_
    exact ev_iret rfl rfl dX4_showComes_50
  · refine ev_iload dX4_showComes_48 rfl ?_
    exact ev_iret rfl rfl dX4_showComes_50
def f_X4_showComes  (w : Nat → Int32) (Dg : Nat → Int32) (dw : Nat → Int32) (C : Nat → Int32) (off : Nat → Int32) (dear : Nat → Int32) (d : Bool) (v1 : Int32) (v2 : Int32) (v3 : Int32) (v4 : Int32) : (Nat → Int32) × (Nat → Int32) × (Nat → Int32) × Int32 := (if (f_X4_verdict w C off dear v2 v3 v4) = 0 then f_X4_showComes_21 (f_X4_letIn w v2 v3) Dg dw C off dear d v1 v2 v3 v4 (f_X4_verdict w C off dear v2 v3 v4) else f_X4_showComes_21 w Dg dw C off dear d v1 v2 v3 v4 (f_X4_verdict w C off dear v2 v3 v4))
def s_X4_showComes  (w : Nat → Int32) (Dg : Nat → Int32) (dw : Nat → Int32) (C : Nat → Int32) (off : Nat → Int32) (dear : Nat → Int32) (d : Bool) (v1 : Int32) (v2 : Int32) (v3 : Int32) (v4 : Int32) : Prop := (s_X4_verdict w C off dear v2 v3 v4 ∧ (((f_X4_verdict w C off dear v2 v3 v4) = 0 → (s_X4_letIn w v2 v3 ∧ s_X4_showComes_21 (f_X4_letIn w v2 v3) Dg dw C off dear d v1 v2 v3 v4 (f_X4_verdict w C off dear v2 v3 v4))) ∧ (¬ (f_X4_verdict w C off dear v2 v3 v4) = 0 → s_X4_showComes_21 w Dg dw C off dear d v1 v2 v3 v4 (f_X4_verdict w C off dear v2 v3 v4))))
set_option maxRecDepth 100000 in
set_option maxHeartbeats 4000000 in
theorem e_X4_showComes {G : ng_GG} {hp : (Nat → Int32) → (Nat → Int32) → (Nat → Int32) → (Nat → Int32) → (Nat → Int32) → (Nat → Int32) → (Nat → Int32) → ng_AM} {k : Nat} {a : Nat} {d : Bool} (V : ng_WL hp k a d) {w : Nat → Int32} {Dg : Nat → Int32} {dw : Nat → Int32} {C : Nat → Int32} {off : Nat → Int32} {dear : Nat → Int32} {proved : Nat → Int32}  {v1 : Int32} {v2 : Int32} {v3 : Int32} {v4 : Int32} (h : s_X4_showComes  w Dg dw C off dear d v1 v2 v3 v4)  : ng_Ev G md_X4_showComes 0 [some (.ref k), some (.int v1), some (.int v2), some (.int v3), some (.int v4), none] [] (hp w Dg dw C off dear proved) (K_X4_showComes hp C off dear proved (f_X4_showComes  w Dg dw C off dear d v1 v2 v3 v4)) := by
  unfold s_X4_showComes at h
  unfold f_X4_showComes
  refine ev_aload_n dX4_showComes_0 rfl rfl rfl ?_
  refine ev_iload_n dX4_showComes_1 rfl rfl ?_
  refine ev_iload_n dX4_showComes_2 rfl rfl ?_
  refine ev_iload dX4_showComes_3 rfl ?_
  have hs5 := h.1
  replace h := h.2
  refine bk_callV (As := [.int v2, .int v3, .int v4]) (st := []) (st2 := [.int (f_X4_verdict w C off dear v2 v3 v4)]) (M2 := hp w Dg dw C off dear proved) ok_X4_verdict lk_RX4_139 (ng_rok.of rfl rfl) (WL_gk V) rfl rfl rfl rfl rfl rfl dX4_showComes_5 (m_X4_verdict (WL_R V) hs5) rfl rfl ?_
  refine ev_istore (L' := [some (.ref k), some (.int v1), some (.int v2), some (.int v3), some (.int v4), some (.int (f_X4_verdict w C off dear v2 v3 v4))]) dX4_showComes_8 (ng_lt rfl) rfl ?_
  refine ev_iload dX4_showComes_10 rfl ?_
  refine bk_if_ne (tgt := 21) dX4_showComes_12 (by decide) (fun c12 => ?_) (fun c12 => ?_)
  · replace h := h.2 c12
    exact ev_sub (e_X4_showComes_21 V h) (sub_s (sub_s (sub_s (sub_s (sub_s (sub_s sub_e))))))
  · replace h := h.1 c12
    refine ev_aload_n dX4_showComes_15 rfl rfl rfl ?_
    refine ev_iload_n dX4_showComes_16 rfl rfl ?_
    refine ev_iload_n dX4_showComes_17 rfl rfl ?_
    have hs18 := h.1
    replace h := h.2
    refine bk_callV (As := [.int v2, .int v3]) (st := []) (st2 := []) (M2 := hp (f_X4_letIn w v2 v3) Dg dw C off dear proved) ok_X4_letIn lk_RX4_142 (ng_rok.of rfl rfl) (WL_gk V) rfl rfl rfl rfl rfl rfl dX4_showComes_18 (m_X4_letIn V hs18) rfl rfl ?_
    exact ev_sub (e_X4_showComes_21 V h) (sub_s (sub_s (sub_s (sub_s (sub_s (sub_s sub_e))))))
theorem m_X4_showComes {G : ng_GG} {hp : (Nat → Int32) → (Nat → Int32) → (Nat → Int32) → (Nat → Int32) → (Nat → Int32) → (Nat → Int32) → (Nat → Int32) → ng_AM} {k : Nat} {a : Nat} {d : Bool} (V : ng_WL hp k a d) {w : Nat → Int32} {Dg : Nat → Int32} {dw : Nat → Int32} {C : Nat → Int32} {off : Nat → Int32} {dear : Nat → Int32} {proved : Nat → Int32} {v1 : Int32} {v2 : Int32} {v3 : Int32} {v4 : Int32} (h : s_X4_showComes w Dg dw C off dear d v1 v2 v3 v4)  : ng_Ev G md_X4_showComes 0 (ng_en 6 [.ref k, .int v1, .int v2, .int v3, .int v4]) [] (hp w Dg dw C off dear proved) (K_X4_showComes hp C off dear proved (f_X4_showComes w Dg dw C off dear d v1 v2 v3 v4)) := e_X4_showComes V h 
def K_X4_come (hp : (Nat → Int32) → (Nat → Int32) → (Nat → Int32) → (Nat → Int32) → (Nat → Int32) → (Nat → Int32) → (Nat → Int32) → ng_AM) (C : Nat → Int32) (off : Nat → Int32) (dear : Nat → Int32) (proved : Nat → Int32) (r : (Nat → Int32) × (Nat → Int32) × (Nat → Int32) × Int32) : ng_RR := (some (.int (r.2.2.2)), hp (r.1) (r.2.1) (r.2.2.1) C off dear proved)
def f_X4_come_80  (w : Nat → Int32) (Dg : Nat → Int32) (dw : Nat → Int32) (C : Nat → Int32) (off : Nat → Int32) (dear : Nat → Int32) (proved : Nat → Int32) (d : Bool) (v3 : Int32) (v4 : Int32) (v5 : Int32) (v6 : Int32) (v7 : Int32) (v8 : Int32) : (Nat → Int32) × (Nat → Int32) × (Nat → Int32) × Int32 := (if v5 = nI 0 then ((f_X4_askComes w Dg C proved d v3 v6 v7 v8).1, (f_X4_askComes w Dg C proved d v3 v6 v7 v8).2.1, dw, (f_X4_askComes w Dg C proved d v3 v6 v7 v8).2.2) else (if v5 = nI 1 then ((f_X4_giveComes w C v4 v6 v7 v8).1, Dg, dw, (f_X4_giveComes w C v4 v6 v7 v8).2) else (if v5 = nI 2 then ((f_X4_showComes w Dg dw C off dear d v3 (v4 - (nI 5)) v6 v7).1, (f_X4_showComes w Dg dw C off dear d v3 (v4 - (nI 5)) v6 v7).2.1, (f_X4_showComes w Dg dw C off dear d v3 (v4 - (nI 5)) v6 v7).2.2.1, (f_X4_showComes w Dg dw C off dear d v3 (v4 - (nI 5)) v6 v7).2.2.2) else (if v5 = nI 3 then ((f_X4_turnComes w Dg C d v3 v6 v8).1, (f_X4_turnComes w Dg C d v3 v6 v8).2.1, dw, (f_X4_turnComes w Dg C d v3 v6 v8).2.2) else (if v5 = nI 4 then ((f_X4_handComes w Dg C d v3 v6 v7 v8).1, (f_X4_handComes w Dg C d v3 v6 v7 v8).2.1, dw, (f_X4_handComes w Dg C d v3 v6 v7 v8).2.2) else ((f_X4_overComes w (v4 - (nI 5)) v6).1, Dg, dw, (f_X4_overComes w (v4 - (nI 5)) v6).2))))))
def s_X4_come_80  (w : Nat → Int32) (Dg : Nat → Int32) (dw : Nat → Int32) (C : Nat → Int32) (off : Nat → Int32) (dear : Nat → Int32) (proved : Nat → Int32) (d : Bool) (v3 : Int32) (v4 : Int32) (v5 : Int32) (v6 : Int32) (v7 : Int32) (v8 : Int32) : Prop := ((v5 = nI 0 → s_X4_askComes w Dg C proved d v3 v6 v7 v8) ∧ (¬ v5 = nI 0 → ((v5 = nI 1 → s_X4_giveComes w C v4 v6 v7 v8) ∧ (¬ v5 = nI 1 → ((v5 = nI 2 → s_X4_showComes w Dg dw C off dear d v3 (v4 - (nI 5)) v6 v7) ∧ (¬ v5 = nI 2 → ((v5 = nI 3 → s_X4_turnComes w Dg C d v3 v6 v8) ∧ (¬ v5 = nI 3 → ((v5 = nI 4 → s_X4_handComes w Dg C d v3 v6 v7 v8) ∧ (¬ v5 = nI 4 → s_X4_overComes w (v4 - (nI 5)) v6))))))))))
set_option maxRecDepth 100000 in
set_option maxHeartbeats 4000000 in
theorem e_X4_come_80 {G : ng_GG} {hp : (Nat → Int32) → (Nat → Int32) → (Nat → Int32) → (Nat → Int32) → (Nat → Int32) → (Nat → Int32) → (Nat → Int32) → ng_AM} {k : Nat} {a : Nat} {d : Bool} (V : ng_WL hp k a d) {w : Nat → Int32} {Dg : Nat → Int32} {dw : Nat → Int32} {C : Nat → Int32} {off : Nat → Int32} {dear : Nat → Int32} {proved : Nat → Int32}  {v3 : Int32} {v4 : Int32} {v5 : Int32} {v6 : Int32} {v7 : Int32} {v8 : Int32} (h : s_X4_come_80  w Dg dw C off dear proved d v3 v4 v5 v6 v7 v8)  : ng_Ev G md_X4_come 80 [some (.ref k), none, none, some (.int v3), some (.int v4), some (.int v5), some (.int v6), some (.int v7), some (.int v8)] [] (hp w Dg dw C off dear proved) (K_X4_come hp C off dear proved (f_X4_come_80  w Dg dw C off dear proved d v3 v4 v5 v6 v7 v8)) := by
  unfold s_X4_come_80 at h
  unfold f_X4_come_80
  refine ev_iload dX4_come_80 rfl ?_
  refine bk_cases (fun c82_0 => ?_) (fun c82_0 => ?_)
  · replace h := h.1 c82_0
    refine ev_tab_k (k := 0) (tgt := 116) dX4_come_82 c82_0 (by decide) (by decide) (by decide) rfl (by decide) ?_
    refine ev_aload_n dX4_come_116 rfl rfl rfl ?_
    refine ev_iload_n dX4_come_117 rfl rfl ?_
    refine ev_iload dX4_come_118 rfl ?_
    refine ev_iload dX4_come_120 rfl ?_
    refine ev_iload dX4_come_122 rfl ?_
    have hs124 := h
    refine bk_callV (As := [.int v3, .int v6, .int v7, .int v8]) (st := []) (st2 := [.int ((f_X4_askComes w Dg C proved d v3 v6 v7 v8).2.2)]) (M2 := hp ((f_X4_askComes w Dg C proved d v3 v6 v7 v8).1) ((f_X4_askComes w Dg C proved d v3 v6 v7 v8).2.1) dw C off dear proved) ok_X4_askComes lk_RX4_68 (ng_rok.of rfl rfl) (WL_gk V) rfl rfl rfl rfl rfl rfl dX4_come_124 (m_X4_askComes V hs124) rfl rfl ?_
    exact ev_iret rfl rfl dX4_come_127
  · replace h := h.2 c82_0
    refine bk_cases (fun c82_1 => ?_) (fun c82_1 => ?_)
    · replace h := h.1 c82_1
      refine ev_tab_k (k := 1) (tgt := 128) dX4_come_82 c82_1 (by decide) (by decide) (by decide) rfl (by decide) ?_
      refine ev_aload_n dX4_come_128 rfl rfl rfl ?_
      refine ev_iload dX4_come_129 rfl ?_
      refine ev_iload dX4_come_131 rfl ?_
      refine ev_iload dX4_come_133 rfl ?_
      refine ev_iload dX4_come_135 rfl ?_
      have hs137 := h
      refine bk_callV (As := [.int v4, .int v6, .int v7, .int v8]) (st := []) (st2 := [.int ((f_X4_giveComes w C v4 v6 v7 v8).2)]) (M2 := hp ((f_X4_giveComes w C v4 v6 v7 v8).1) Dg dw C off dear proved) ok_X4_giveComes lk_RX4_72 (ng_rok.of rfl rfl) (WL_gk V) rfl rfl rfl rfl rfl rfl dX4_come_137 (m_X4_giveComes V hs137) rfl rfl ?_
      exact ev_iret rfl rfl dX4_come_140
    · replace h := h.2 c82_1
      refine bk_cases (fun c82_2 => ?_) (fun c82_2 => ?_)
      · replace h := h.1 c82_2
        refine ev_tab_k (k := 2) (tgt := 141) dX4_come_82 c82_2 (by decide) (by decide) (by decide) rfl (by decide) ?_
        refine ev_aload_n dX4_come_141 rfl rfl rfl ?_
        refine ev_iload_n dX4_come_142 rfl rfl ?_
        refine ev_iload dX4_come_143 rfl ?_
        refine ev_iconst (v := nI 5) dX4_come_145 (by decide) ?_
        refine ev_isub dX4_come_146 ?_
        refine ev_iload dX4_come_147 rfl ?_
        refine ev_iload dX4_come_149 rfl ?_
        have hs151 := h
        refine bk_callV (As := [.int v3, .int (v4 - (nI 5)), .int v6, .int v7]) (st := []) (st2 := [.int ((f_X4_showComes w Dg dw C off dear d v3 (v4 - (nI 5)) v6 v7).2.2.2)]) (M2 := hp ((f_X4_showComes w Dg dw C off dear d v3 (v4 - (nI 5)) v6 v7).1) ((f_X4_showComes w Dg dw C off dear d v3 (v4 - (nI 5)) v6 v7).2.1) ((f_X4_showComes w Dg dw C off dear d v3 (v4 - (nI 5)) v6 v7).2.2.1) C off dear proved) ok_X4_showComes lk_RX4_75 (ng_rok.of rfl rfl) (WL_gk V) rfl rfl rfl rfl rfl rfl dX4_come_151 (m_X4_showComes V hs151) rfl rfl ?_
        exact ev_iret rfl rfl dX4_come_154
      · replace h := h.2 c82_2
        refine bk_cases (fun c82_3 => ?_) (fun c82_3 => ?_)
        · replace h := h.1 c82_3
          refine ev_tab_k (k := 3) (tgt := 155) dX4_come_82 c82_3 (by decide) (by decide) (by decide) rfl (by decide) ?_
          refine ev_aload_n dX4_come_155 rfl rfl rfl ?_
          refine ev_iload_n dX4_come_156 rfl rfl ?_
          refine ev_iload dX4_come_157 rfl ?_
          refine ev_iload dX4_come_159 rfl ?_
          have hs161 := h
          refine bk_callV (As := [.int v3, .int v6, .int v8]) (st := []) (st2 := [.int ((f_X4_turnComes w Dg C d v3 v6 v8).2.2)]) (M2 := hp ((f_X4_turnComes w Dg C d v3 v6 v8).1) ((f_X4_turnComes w Dg C d v3 v6 v8).2.1) dw C off dear proved) ok_X4_turnComes lk_RX4_78 (ng_rok.of rfl rfl) (WL_gk V) rfl rfl rfl rfl rfl rfl dX4_come_161 (m_X4_turnComes V hs161) rfl rfl ?_
          exact ev_iret rfl rfl dX4_come_164
        · replace h := h.2 c82_3
          refine bk_cases (fun c82_4 => ?_) (fun c82_4 => ?_)
          · replace h := h.1 c82_4
            refine ev_tab_k (k := 4) (tgt := 165) dX4_come_82 c82_4 (by decide) (by decide) (by decide) rfl (by decide) ?_
            refine ev_aload_n dX4_come_165 rfl rfl rfl ?_
            refine ev_iload_n dX4_come_166 rfl rfl ?_
            refine ev_iload dX4_come_167 rfl ?_
            refine ev_iload dX4_come_169 rfl ?_
            refine ev_iload dX4_come_171 rfl ?_
            have hs173 := h
            refine bk_callV (As := [.int v3, .int v6, .int v7, .int v8]) (st := []) (st2 := [.int ((f_X4_handComes w Dg C d v3 v6 v7 v8).2.2)]) (M2 := hp ((f_X4_handComes w Dg C d v3 v6 v7 v8).1) ((f_X4_handComes w Dg C d v3 v6 v7 v8).2.1) dw C off dear proved) ok_X4_handComes lk_RX4_82 (ng_rok.of rfl rfl) (WL_gk V) rfl rfl rfl rfl rfl rfl dX4_come_173 (m_X4_handComes V hs173) rfl rfl ?_
            exact ev_iret rfl rfl dX4_come_176
          · replace h := h.2 c82_4
            refine ev_tab_d (hi := 4) (tgt := 177) (m := 4) dX4_come_82 rfl (fun q hq => match q, hq with | 0, _ => c82_0 | 1, _ => c82_1 | 2, _ => c82_2 | 3, _ => c82_3 | 4, _ => c82_4 | (q + 5), hq => absurd hq (by omega)) (by decide) ?_
            refine ev_aload_n dX4_come_177 rfl rfl rfl ?_
            refine ev_iload dX4_come_178 rfl ?_
            refine ev_iconst (v := nI 5) dX4_come_180 (by decide) ?_
            refine ev_isub dX4_come_181 ?_
            refine ev_iload dX4_come_182 rfl ?_
            have hs184 := h
            refine bk_callV (As := [.int (v4 - (nI 5)), .int v6]) (st := []) (st2 := [.int ((f_X4_overComes w (v4 - (nI 5)) v6).2)]) (M2 := hp ((f_X4_overComes w (v4 - (nI 5)) v6).1) Dg dw C off dear proved) ok_X4_overComes lk_RX4_85 (ng_rok.of rfl rfl) (WL_gk V) rfl rfl rfl rfl rfl rfl dX4_come_184 (m_X4_overComes V hs184) rfl rfl ?_
            exact ev_iret rfl rfl dX4_come_187
def f_X4_come  (w : Nat → Int32) (Dg : Nat → Int32) (dw : Nat → Int32) (C : Nat → Int32) (off : Nat → Int32) (dear : Nat → Int32) (proved : Nat → Int32) (d : Bool) (v1 : Int32) : (Nat → Int32) × (Nat → Int32) × (Nat → Int32) × Int32 := (if (f_X4_isLetter w v1) = 0 then (w, Dg, dw, (-1)) else f_X4_come_80 (f_X4_takeOut w v1) Dg dw C off dear proved d (w ((nI 58) + (v1 * (nI 7))).toNatClampNeg) (w (((nI 58) + (v1 * (nI 7))) + (nI 1)).toNatClampNeg) (w (((nI 58) + (v1 * (nI 7))) + (nI 2)).toNatClampNeg) (w (((nI 58) + (v1 * (nI 7))) + (nI 3)).toNatClampNeg) (w (((nI 58) + (v1 * (nI 7))) + (nI 4)).toNatClampNeg) (w (((nI 58) + (v1 * (nI 7))) + (nI 5)).toNatClampNeg))
def s_X4_come  (w : Nat → Int32) (Dg : Nat → Int32) (dw : Nat → Int32) (C : Nat → Int32) (off : Nat → Int32) (dear : Nat → Int32) (proved : Nat → Int32) (d : Bool) (v1 : Int32) : Prop := (¬ (f_X4_isLetter w v1) = 0 → (vp_in ((nI 58) + (v1 * (nI 7))) 494 ∧ (vp_in (((nI 58) + (v1 * (nI 7))) + (nI 1)) 494 ∧ (vp_in (((nI 58) + (v1 * (nI 7))) + (nI 2)) 494 ∧ (vp_in (((nI 58) + (v1 * (nI 7))) + (nI 3)) 494 ∧ (vp_in (((nI 58) + (v1 * (nI 7))) + (nI 4)) 494 ∧ (vp_in (((nI 58) + (v1 * (nI 7))) + (nI 5)) 494 ∧ (s_X4_takeOut w v1 ∧ s_X4_come_80 (f_X4_takeOut w v1) Dg dw C off dear proved d (w ((nI 58) + (v1 * (nI 7))).toNatClampNeg) (w (((nI 58) + (v1 * (nI 7))) + (nI 1)).toNatClampNeg) (w (((nI 58) + (v1 * (nI 7))) + (nI 2)).toNatClampNeg) (w (((nI 58) + (v1 * (nI 7))) + (nI 3)).toNatClampNeg) (w (((nI 58) + (v1 * (nI 7))) + (nI 4)).toNatClampNeg) (w (((nI 58) + (v1 * (nI 7))) + (nI 5)).toNatClampNeg)))))))))
set_option maxRecDepth 100000 in
set_option maxHeartbeats 4000000 in
theorem e_X4_come {G : ng_GG} {hp : (Nat → Int32) → (Nat → Int32) → (Nat → Int32) → (Nat → Int32) → (Nat → Int32) → (Nat → Int32) → (Nat → Int32) → ng_AM} {k : Nat} {a : Nat} {d : Bool} (V : ng_WL hp k a d) {w : Nat → Int32} {Dg : Nat → Int32} {dw : Nat → Int32} {C : Nat → Int32} {off : Nat → Int32} {dear : Nat → Int32} {proved : Nat → Int32}  {v1 : Int32} (h : s_X4_come  w Dg dw C off dear proved d v1)  : ng_Ev G md_X4_come 0 [some (.ref k), some (.int v1), none, none, none, none, none, none, none] [] (hp w Dg dw C off dear proved) (K_X4_come hp C off dear proved (f_X4_come  w Dg dw C off dear proved d v1)) := by
  unfold s_X4_come at h
  unfold f_X4_come
  refine ev_aload_n dX4_come_0 rfl rfl rfl ?_
  refine ev_iload_n dX4_come_1 rfl rfl ?_
  refine bk_callV (As := [.int v1]) (st := []) (st2 := [.int (f_X4_isLetter w v1)]) (M2 := hp w Dg dw C off dear proved) ok_X4_isLetter lk_RX4_30 (ng_rok.of rfl rfl) (WL_gk V) rfl rfl rfl rfl rfl rfl dX4_come_2 (m_X4_isLetter (WL_R V) trivial) rfl rfl ?_
  refine bk_if_ne (tgt := 10) dX4_come_5 (by decide) (fun c5 => ?_) (fun c5 => ?_)
  · replace h := h c5
    refine ev_bipush (v := nI 58) dX4_come_10 (by decide) ?_
    refine ev_iload_n dX4_come_12 rfl rfl ?_
    refine ev_bipush (v := nI 7) dX4_come_13 (by decide) ?_
    refine ev_imul dX4_come_15 ?_
    refine ev_iadd dX4_come_16 ?_
    refine ev_istore_n (L' := [some (.ref k), some (.int v1), some (.int ((nI 58) + (v1 * (nI 7)))), none, none, none, none, none, none]) dX4_come_17 rfl (ng_lt rfl) rfl ?_
    refine ev_aload_n dX4_come_18 rfl rfl rfl ?_
    refine ev_get 4 0 fl_RX4_11 (WL_gk V) rfl dX4_come_19 ?_
    refine ev_iload_n dX4_come_22 rfl rfl ?_
    have hi23 := h.1
    replace h := h.2
    refine ev_iald (WL_ga V) hi23 dX4_come_23 ?_
    refine ev_istore_n (L' := [some (.ref k), some (.int v1), some (.int ((nI 58) + (v1 * (nI 7)))), some (.int (w ((nI 58) + (v1 * (nI 7))).toNatClampNeg)), none, none, none, none, none]) dX4_come_24 rfl (ng_lt rfl) rfl ?_
    refine ev_aload_n dX4_come_25 rfl rfl rfl ?_
    refine ev_get 4 0 fl_RX4_11 (WL_gk V) rfl dX4_come_26 ?_
    refine ev_iload_n dX4_come_29 rfl rfl ?_
    refine ev_iconst (v := nI 1) dX4_come_30 (by decide) ?_
    refine ev_iadd dX4_come_31 ?_
    have hi32 := h.1
    replace h := h.2
    refine ev_iald (WL_ga V) hi32 dX4_come_32 ?_
    refine ev_istore (L' := [some (.ref k), some (.int v1), some (.int ((nI 58) + (v1 * (nI 7)))), some (.int (w ((nI 58) + (v1 * (nI 7))).toNatClampNeg)), some (.int (w (((nI 58) + (v1 * (nI 7))) + (nI 1)).toNatClampNeg)), none, none, none, none]) dX4_come_33 (ng_lt rfl) rfl ?_
    refine ev_aload_n dX4_come_35 rfl rfl rfl ?_
    refine ev_get 4 0 fl_RX4_11 (WL_gk V) rfl dX4_come_36 ?_
    refine ev_iload_n dX4_come_39 rfl rfl ?_
    refine ev_iconst (v := nI 2) dX4_come_40 (by decide) ?_
    refine ev_iadd dX4_come_41 ?_
    have hi42 := h.1
    replace h := h.2
    refine ev_iald (WL_ga V) hi42 dX4_come_42 ?_
    refine ev_istore (L' := [some (.ref k), some (.int v1), some (.int ((nI 58) + (v1 * (nI 7)))), some (.int (w ((nI 58) + (v1 * (nI 7))).toNatClampNeg)), some (.int (w (((nI 58) + (v1 * (nI 7))) + (nI 1)).toNatClampNeg)), some (.int (w (((nI 58) + (v1 * (nI 7))) + (nI 2)).toNatClampNeg)), none, none, none]) dX4_come_43 (ng_lt rfl) rfl ?_
    refine ev_aload_n dX4_come_45 rfl rfl rfl ?_
    refine ev_get 4 0 fl_RX4_11 (WL_gk V) rfl dX4_come_46 ?_
    refine ev_iload_n dX4_come_49 rfl rfl ?_
    refine ev_iconst (v := nI 3) dX4_come_50 (by decide) ?_
    refine ev_iadd dX4_come_51 ?_
    have hi52 := h.1
    replace h := h.2
    refine ev_iald (WL_ga V) hi52 dX4_come_52 ?_
    refine ev_istore (L' := [some (.ref k), some (.int v1), some (.int ((nI 58) + (v1 * (nI 7)))), some (.int (w ((nI 58) + (v1 * (nI 7))).toNatClampNeg)), some (.int (w (((nI 58) + (v1 * (nI 7))) + (nI 1)).toNatClampNeg)), some (.int (w (((nI 58) + (v1 * (nI 7))) + (nI 2)).toNatClampNeg)), some (.int (w (((nI 58) + (v1 * (nI 7))) + (nI 3)).toNatClampNeg)), none, none]) dX4_come_53 (ng_lt rfl) rfl ?_
    refine ev_aload_n dX4_come_55 rfl rfl rfl ?_
    refine ev_get 4 0 fl_RX4_11 (WL_gk V) rfl dX4_come_56 ?_
    refine ev_iload_n dX4_come_59 rfl rfl ?_
    refine ev_iconst (v := nI 4) dX4_come_60 (by decide) ?_
    refine ev_iadd dX4_come_61 ?_
    have hi62 := h.1
    replace h := h.2
    refine ev_iald (WL_ga V) hi62 dX4_come_62 ?_
    refine ev_istore (L' := [some (.ref k), some (.int v1), some (.int ((nI 58) + (v1 * (nI 7)))), some (.int (w ((nI 58) + (v1 * (nI 7))).toNatClampNeg)), some (.int (w (((nI 58) + (v1 * (nI 7))) + (nI 1)).toNatClampNeg)), some (.int (w (((nI 58) + (v1 * (nI 7))) + (nI 2)).toNatClampNeg)), some (.int (w (((nI 58) + (v1 * (nI 7))) + (nI 3)).toNatClampNeg)), some (.int (w (((nI 58) + (v1 * (nI 7))) + (nI 4)).toNatClampNeg)), none]) dX4_come_63 (ng_lt rfl) rfl ?_
    refine ev_aload_n dX4_come_65 rfl rfl rfl ?_
    refine ev_get 4 0 fl_RX4_11 (WL_gk V) rfl dX4_come_66 ?_
    refine ev_iload_n dX4_come_69 rfl rfl ?_
    refine ev_iconst (v := nI 5) dX4_come_70 (by decide) ?_
    refine ev_iadd dX4_come_71 ?_
    have hi72 := h.1
    replace h := h.2
    refine ev_iald (WL_ga V) hi72 dX4_come_72 ?_
    refine ev_istore (L' := [some (.ref k), some (.int v1), some (.int ((nI 58) + (v1 * (nI 7)))), some (.int (w ((nI 58) + (v1 * (nI 7))).toNatClampNeg)), some (.int (w (((nI 58) + (v1 * (nI 7))) + (nI 1)).toNatClampNeg)), some (.int (w (((nI 58) + (v1 * (nI 7))) + (nI 2)).toNatClampNeg)), some (.int (w (((nI 58) + (v1 * (nI 7))) + (nI 3)).toNatClampNeg)), some (.int (w (((nI 58) + (v1 * (nI 7))) + (nI 4)).toNatClampNeg)), some (.int (w (((nI 58) + (v1 * (nI 7))) + (nI 5)).toNatClampNeg))]) dX4_come_73 (ng_lt rfl) rfl ?_
    refine ev_aload_n dX4_come_75 rfl rfl rfl ?_
    refine ev_iload_n dX4_come_76 rfl rfl ?_
    have hs77 := h.1
    replace h := h.2
    refine bk_callV (As := [.int v1]) (st := []) (st2 := []) (M2 := hp (f_X4_takeOut w v1) Dg dw C off dear proved) ok_X4_takeOut lk_RX4_64 (ng_rok.of rfl rfl) (WL_gk V) rfl rfl rfl rfl rfl rfl dX4_come_77 (m_X4_takeOut V hs77) rfl rfl ?_
    exact ev_sub (e_X4_come_80 V h) (sub_s (sub_n (sub_n (sub_s (sub_s (sub_s (sub_s (sub_s (sub_s sub_e)))))))))
  · refine ev_iconst (v := (-1)) dX4_come_8 (by decide) ?_
    exact ev_iret rfl rfl dX4_come_9
theorem m_X4_come {G : ng_GG} {hp : (Nat → Int32) → (Nat → Int32) → (Nat → Int32) → (Nat → Int32) → (Nat → Int32) → (Nat → Int32) → (Nat → Int32) → ng_AM} {k : Nat} {a : Nat} {d : Bool} (V : ng_WL hp k a d) {w : Nat → Int32} {Dg : Nat → Int32} {dw : Nat → Int32} {C : Nat → Int32} {off : Nat → Int32} {dear : Nat → Int32} {proved : Nat → Int32} {v1 : Int32} (h : s_X4_come w Dg dw C off dear proved d v1)  : ng_Ev G md_X4_come 0 (ng_en 9 [.ref k, .int v1]) [] (hp w Dg dw C off dear proved) (K_X4_come hp C off dear proved (f_X4_come w Dg dw C off dear proved d v1)) := e_X4_come V h 
def K_X4_hearOfEnded (hp : (Nat → Int32) → (Nat → Int32) → (Nat → Int32) → (Nat → Int32) → (Nat → Int32) → (Nat → Int32) → (Nat → Int32) → ng_AM) (Dg : Nat → Int32) (dw : Nat → Int32) (C : Nat → Int32) (off : Nat → Int32) (dear : Nat → Int32) (proved : Nat → Int32) (r : (Nat → Int32)) : ng_RR := (none, hp (r) Dg dw C off dear proved)
def f_X4_hearOfEnded_30 (kk4 : (Nat → Int32) → (Nat → Int32) → Int32 → Int32 → ((Nat → Int32))) (w : Nat → Int32) (C : Nat → Int32) (v2 : Int32) (t0 : Int32) (t1 : Int32) : (Nat → Int32) := kk4 w C (t1 ||| t0) (v2 + nI 1)
def s_X4_hearOfEnded_30 (sk4 : (Nat → Int32) → (Nat → Int32) → Int32 → Int32 → Prop) (w : Nat → Int32) (C : Nat → Int32) (v2 : Int32) (t0 : Int32) (t1 : Int32) : Prop := sk4 w C (t1 ||| t0) (v2 + nI 1)
set_option maxRecDepth 100000 in
set_option maxHeartbeats 4000000 in
theorem e_X4_hearOfEnded_30 {G : ng_GG} {hp : (Nat → Int32) → (Nat → Int32) → (Nat → Int32) → (Nat → Int32) → (Nat → Int32) → (Nat → Int32) → (Nat → Int32) → ng_AM} {k : Nat} {a : Nat} {d : Bool} (V : ng_WL hp k a d) {w : Nat → Int32} {Dg : Nat → Int32} {dw : Nat → Int32} {C : Nat → Int32} {off : Nat → Int32} {dear : Nat → Int32} {proved : Nat → Int32} {kk4 : (Nat → Int32) → (Nat → Int32) → Int32 → Int32 → ((Nat → Int32))} {sk4 : (Nat → Int32) → (Nat → Int32) → Int32 → Int32 → Prop} (hk4 : ∀ (w : Nat → Int32) (Dg : Nat → Int32) (dw : Nat → Int32) (C : Nat → Int32) (off : Nat → Int32) (dear : Nat → Int32) (proved : Nat → Int32) (v1 : Int32) (v2 : Int32), sk4 w C v1 v2 → ng_Ev G md_X4_hearOfEnded 4 [some (.ref k), some (.int v1), some (.int v2)] [] (hp w Dg dw C off dear proved) (K_X4_hearOfEnded hp Dg dw C off dear proved (kk4 w C v1 v2))) {v2 : Int32} {t0 : Int32} {t1 : Int32} (h : s_X4_hearOfEnded_30 sk4 w C v2 t0 t1)  : ng_Ev G md_X4_hearOfEnded 30 [some (.ref k), none, some (.int v2)] [.int t0, .int t1] (hp w Dg dw C off dear proved) (K_X4_hearOfEnded hp Dg dw C off dear proved (f_X4_hearOfEnded_30 kk4 w C v2 t0 t1)) := by
  unfold s_X4_hearOfEnded_30 at h
  unfold f_X4_hearOfEnded_30
  refine ev_ior dX4_hearOfEnded_30 ?_
  refine ev_istore_n (L' := [some (.ref k), some (.int (t1 ||| t0)), some (.int v2)]) dX4_hearOfEnded_31 rfl (ng_lt rfl) rfl ?_
  refine ev_iinc (v := v2 + nI 1) (L' := [some (.ref k), some (.int (t1 ||| t0)), some (.int (v2 + nI 1))]) dX4_hearOfEnded_32 rfl (by rfl) rfl ?_
  refine ev_goto (tgt := 4) dX4_hearOfEnded_35 (by decide) ?_
  exact ev_sub (hk4 w Dg dw C off dear proved (t1 ||| t0) (v2 + nI 1) h) (sub_s (sub_s (sub_s sub_e)))
def f_X4_hearOfEnded_90 (kk40 : (Nat → Int32) → (Nat → Int32) → Int32 → Int32 → ((Nat → Int32))) (w : Nat → Int32) (C : Nat → Int32) (v1 : Int32) (v2 : Int32) : (Nat → Int32) := kk40 w C v1 (v2 + nI 1)
def s_X4_hearOfEnded_90 (sk40 : (Nat → Int32) → (Nat → Int32) → Int32 → Int32 → Prop) (w : Nat → Int32) (C : Nat → Int32) (v1 : Int32) (v2 : Int32) : Prop := sk40 w C v1 (v2 + nI 1)
set_option maxRecDepth 100000 in
set_option maxHeartbeats 4000000 in
theorem e_X4_hearOfEnded_90 {G : ng_GG} {hp : (Nat → Int32) → (Nat → Int32) → (Nat → Int32) → (Nat → Int32) → (Nat → Int32) → (Nat → Int32) → (Nat → Int32) → ng_AM} {k : Nat} {a : Nat} {d : Bool} (V : ng_WL hp k a d) {w : Nat → Int32} {Dg : Nat → Int32} {dw : Nat → Int32} {C : Nat → Int32} {off : Nat → Int32} {dear : Nat → Int32} {proved : Nat → Int32} {kk40 : (Nat → Int32) → (Nat → Int32) → Int32 → Int32 → ((Nat → Int32))} {sk40 : (Nat → Int32) → (Nat → Int32) → Int32 → Int32 → Prop} (hk40 : ∀ (w : Nat → Int32) (Dg : Nat → Int32) (dw : Nat → Int32) (C : Nat → Int32) (off : Nat → Int32) (dear : Nat → Int32) (proved : Nat → Int32) (v1 : Int32) (v2 : Int32), sk40 w C v1 v2 → ng_Ev G md_X4_hearOfEnded 40 [some (.ref k), some (.int v1), some (.int v2)] [] (hp w Dg dw C off dear proved) (K_X4_hearOfEnded hp Dg dw C off dear proved (kk40 w C v1 v2))) {v1 : Int32} {v2 : Int32} (h : s_X4_hearOfEnded_90 sk40 w C v1 v2)  : ng_Ev G md_X4_hearOfEnded 90 [some (.ref k), some (.int v1), some (.int v2)] [] (hp w Dg dw C off dear proved) (K_X4_hearOfEnded hp Dg dw C off dear proved (f_X4_hearOfEnded_90 kk40 w C v1 v2)) := by
  unfold s_X4_hearOfEnded_90 at h
  unfold f_X4_hearOfEnded_90
  refine ev_iinc (v := v2 + nI 1) (L' := [some (.ref k), some (.int v1), some (.int (v2 + nI 1))]) dX4_hearOfEnded_90 rfl (by rfl) rfl ?_
  refine ev_goto (tgt := 40) dX4_hearOfEnded_93 (by decide) ?_
  exact ev_sub (hk40 w Dg dw C off dear proved v1 (v2 + nI 1) h) (sub_s (sub_s (sub_s sub_e)))
def f_X4_hearOfEnded_40  : Nat → (Nat → Int32) → (Nat → Int32) → Int32 → Int32 → ((Nat → Int32))
  | 0, w, _, _, _ => w
  | n + 1, w, C, v1, v2 => (if (nI 4) ≤ v2 then w else (if (f_X2_isIn C v2) = 0 then f_X4_hearOfEnded_90 (f_X4_hearOfEnded_40 n) w C v1 v2 else f_X4_hearOfEnded_90 (f_X4_hearOfEnded_40 n) (upd (upd w (((nI 4) + (v2 * (nI 3))) + (nI 1)).toNatClampNeg ((w (((nI 4) + (v2 * (nI 3))) + (nI 1)).toNatClampNeg) ||| v1)) (((nI 4) + (v2 * (nI 3))) + (nI 0)).toNatClampNeg ((upd w (((nI 4) + (v2 * (nI 3))) + (nI 1)).toNatClampNeg ((w (((nI 4) + (v2 * (nI 3))) + (nI 1)).toNatClampNeg) ||| v1)) (nI 0).toNatClampNeg)) C v1 v2))
def s_X4_hearOfEnded_40  : Nat → (Nat → Int32) → (Nat → Int32) → Int32 → Int32 → Prop
  | 0, _, _, _, _ => False
  | n + 1, w, C, v1, v2 => (¬ (nI 4) ≤ v2 → (((f_X2_isIn C v2) = 0 → s_X4_hearOfEnded_90 (s_X4_hearOfEnded_40 n) w C v1 v2) ∧ (¬ (f_X2_isIn C v2) = 0 → (vp_in (((nI 4) + (v2 * (nI 3))) + (nI 1)) 494 ∧ (vp_in (((nI 4) + (v2 * (nI 3))) + (nI 1)) 494 ∧ (vp_in (((nI 4) + (v2 * (nI 3))) + (nI 0)) 494 ∧ s_X4_hearOfEnded_90 (s_X4_hearOfEnded_40 n) (upd (upd w (((nI 4) + (v2 * (nI 3))) + (nI 1)).toNatClampNeg ((w (((nI 4) + (v2 * (nI 3))) + (nI 1)).toNatClampNeg) ||| v1)) (((nI 4) + (v2 * (nI 3))) + (nI 0)).toNatClampNeg ((upd w (((nI 4) + (v2 * (nI 3))) + (nI 1)).toNatClampNeg ((w (((nI 4) + (v2 * (nI 3))) + (nI 1)).toNatClampNeg) ||| v1)) (nI 0).toNatClampNeg)) C v1 v2))))))
set_option maxRecDepth 100000 in
set_option maxHeartbeats 4000000 in
theorem e_X4_hearOfEnded_40 {G : ng_GG} {hp : (Nat → Int32) → (Nat → Int32) → (Nat → Int32) → (Nat → Int32) → (Nat → Int32) → (Nat → Int32) → (Nat → Int32) → ng_AM} {k : Nat} {a : Nat} {d : Bool} (V : ng_WL hp k a d)  : ∀ (n : Nat) (w : Nat → Int32) (Dg : Nat → Int32) (dw : Nat → Int32) (C : Nat → Int32) (off : Nat → Int32) (dear : Nat → Int32) (proved : Nat → Int32) (v1 : Int32) (v2 : Int32), s_X4_hearOfEnded_40  n w C v1 v2 → ng_Ev G md_X4_hearOfEnded 40 [some (.ref k), some (.int v1), some (.int v2)] [] (hp w Dg dw C off dear proved) (K_X4_hearOfEnded hp Dg dw C off dear proved (f_X4_hearOfEnded_40  n w C v1 v2)) := by
  intro n
  induction n with
  | zero => intro w Dg dw C off dear proved v1 v2 h; exact False.elim h
  | succ n ih =>
    intro w Dg dw C off dear proved v1 v2 h 
    rw [s_X4_hearOfEnded_40] at h
    rw [f_X4_hearOfEnded_40]
    refine ev_iload_n dX4_hearOfEnded_40 rfl rfl ?_
    refine ev_iconst (v := nI 4) dX4_hearOfEnded_41 (by decide) ?_
    refine bk_icmp_ge (tgt := 96) dX4_hearOfEnded_42 (by decide) (fun c42 => ?_) (fun c42 => ?_)
    · exact ev_vret rfl dX4_hearOfEnded_96
    · replace h := h c42
      refine ev_aload_n dX4_hearOfEnded_45 rfl rfl rfl ?_
      refine ev_get 4 1 fl_RX4_15 (WL_gk V) rfl dX4_hearOfEnded_46 ?_
      refine ev_iload_n dX4_hearOfEnded_49 rfl rfl ?_
      refine bk_callV (As := [.int v2]) (st := []) (st2 := [.int (f_X2_isIn C v2)]) (M2 := hp w Dg dw C off dear proved) ok_X2_isIn lk_RX4_92 (ng_rok.of rfl rfl) (WL_g1 V) rfl rfl rfl rfl rfl rfl dX4_hearOfEnded_50 (m_X2_isIn (WL_RS V) trivial) rfl rfl ?_
      refine bk_if_eq (tgt := 90) dX4_hearOfEnded_53 (by decide) (fun c53 => ?_) (fun c53 => ?_)
      · replace h := h.1 c53
        exact ev_sub (e_X4_hearOfEnded_90 V ih h) (sub_s (sub_s (sub_s sub_e)))
      · replace h := h.2 c53
        refine ev_aload_n dX4_hearOfEnded_56 rfl rfl rfl ?_
        refine ev_get 4 0 fl_RX4_11 (WL_gk V) rfl dX4_hearOfEnded_57 ?_
        refine ev_iconst (v := nI 4) dX4_hearOfEnded_60 (by decide) ?_
        refine ev_iload_n dX4_hearOfEnded_61 rfl rfl ?_
        refine ev_iconst (v := nI 3) dX4_hearOfEnded_62 (by decide) ?_
        refine ev_imul dX4_hearOfEnded_63 ?_
        refine ev_iadd dX4_hearOfEnded_64 ?_
        refine ev_iconst (v := nI 1) dX4_hearOfEnded_65 (by decide) ?_
        refine ev_iadd dX4_hearOfEnded_66 ?_
        refine ev_dup2 dX4_hearOfEnded_67 rfl rfl ?_
        have hi68 := h.1
        replace h := h.2
        refine ev_iald (WL_ga V) hi68 dX4_hearOfEnded_68 ?_
        refine ev_iload_n dX4_hearOfEnded_69 rfl rfl ?_
        refine ev_ior dX4_hearOfEnded_70 ?_
        have hi71 := h.1
        replace h := h.2
        refine ev_iast (WL_ga V) hi71 (WL_sa V) dX4_hearOfEnded_71 ?_
        refine ev_aload_n dX4_hearOfEnded_72 rfl rfl rfl ?_
        refine ev_get 4 0 fl_RX4_11 (WL_gk V) rfl dX4_hearOfEnded_73 ?_
        refine ev_iconst (v := nI 4) dX4_hearOfEnded_76 (by decide) ?_
        refine ev_iload_n dX4_hearOfEnded_77 rfl rfl ?_
        refine ev_iconst (v := nI 3) dX4_hearOfEnded_78 (by decide) ?_
        refine ev_imul dX4_hearOfEnded_79 ?_
        refine ev_iadd dX4_hearOfEnded_80 ?_
        refine ev_iconst (v := nI 0) dX4_hearOfEnded_81 (by decide) ?_
        refine ev_iadd dX4_hearOfEnded_82 ?_
        refine ev_aload_n dX4_hearOfEnded_83 rfl rfl rfl ?_
        refine ev_get 4 0 fl_RX4_11 (WL_gk V) rfl dX4_hearOfEnded_84 ?_
        refine ev_iconst (v := nI 0) dX4_hearOfEnded_87 (by decide) ?_
        refine ev_iald (WL_ga V) (vp_in_nI (by decide) (by decide)) dX4_hearOfEnded_88 ?_
        have hi89 := h.1
        replace h := h.2
        refine ev_iast (WL_ga V) hi89 (WL_sa V) dX4_hearOfEnded_89 ?_
        exact ev_sub (e_X4_hearOfEnded_90 V ih h) (sub_s (sub_s (sub_s sub_e)))
def f_X4_hearOfEnded_4  : Nat → (Nat → Int32) → (Nat → Int32) → Int32 → Int32 → ((Nat → Int32))
  | 0, w, _, _, _ => w
  | n + 1, w, C, v1, v2 => (if (w (nI 2).toNatClampNeg) ≤ v2 then f_X4_hearOfEnded_40 ng_F w C v1 (nI 0) else (if (f_X4_isEnded w v2) = 0 then f_X4_hearOfEnded_30 (f_X4_hearOfEnded_4 n) w C v2 (nI 0) v1 else f_X4_hearOfEnded_30 (f_X4_hearOfEnded_4 n) w C v2 ((nI 1) <<< (v2 &&& 31)) v1))
def s_X4_hearOfEnded_4  : Nat → (Nat → Int32) → (Nat → Int32) → Int32 → Int32 → Prop
  | 0, _, _, _, _ => False
  | n + 1, w, C, v1, v2 => (((w (nI 2).toNatClampNeg) ≤ v2 → s_X4_hearOfEnded_40 ng_F w C v1 (nI 0)) ∧ (¬ (w (nI 2).toNatClampNeg) ≤ v2 → (s_X4_isEnded w v2 ∧ (((f_X4_isEnded w v2) = 0 → s_X4_hearOfEnded_30 (s_X4_hearOfEnded_4 n) w C v2 (nI 0) v1) ∧ (¬ (f_X4_isEnded w v2) = 0 → s_X4_hearOfEnded_30 (s_X4_hearOfEnded_4 n) w C v2 ((nI 1) <<< (v2 &&& 31)) v1)))))
set_option maxRecDepth 100000 in
set_option maxHeartbeats 4000000 in
theorem e_X4_hearOfEnded_4 {G : ng_GG} {hp : (Nat → Int32) → (Nat → Int32) → (Nat → Int32) → (Nat → Int32) → (Nat → Int32) → (Nat → Int32) → (Nat → Int32) → ng_AM} {k : Nat} {a : Nat} {d : Bool} (V : ng_WL hp k a d)  : ∀ (n : Nat) (w : Nat → Int32) (Dg : Nat → Int32) (dw : Nat → Int32) (C : Nat → Int32) (off : Nat → Int32) (dear : Nat → Int32) (proved : Nat → Int32) (v1 : Int32) (v2 : Int32), s_X4_hearOfEnded_4  n w C v1 v2 → ng_Ev G md_X4_hearOfEnded 4 [some (.ref k), some (.int v1), some (.int v2)] [] (hp w Dg dw C off dear proved) (K_X4_hearOfEnded hp Dg dw C off dear proved (f_X4_hearOfEnded_4  n w C v1 v2)) := by
  intro n
  induction n with
  | zero => intro w Dg dw C off dear proved v1 v2 h; exact False.elim h
  | succ n ih =>
    intro w Dg dw C off dear proved v1 v2 h 
    rw [s_X4_hearOfEnded_4] at h
    rw [f_X4_hearOfEnded_4]
    refine ev_iload_n dX4_hearOfEnded_4 rfl rfl ?_
    refine ev_aload_n dX4_hearOfEnded_5 rfl rfl rfl ?_
    refine ev_get 4 0 fl_RX4_11 (WL_gk V) rfl dX4_hearOfEnded_6 ?_
    refine ev_iconst (v := nI 2) dX4_hearOfEnded_9 (by decide) ?_
    refine ev_iald (WL_ga V) (vp_in_nI (by decide) (by decide)) dX4_hearOfEnded_10 ?_
    refine bk_icmp_ge (tgt := 38) dX4_hearOfEnded_11 (by decide) (fun c11 => ?_) (fun c11 => ?_)
    · replace h := h.1 c11
      refine ev_iconst (v := nI 0) dX4_hearOfEnded_38 (by decide) ?_
      refine ev_istore_n (L' := [some (.ref k), some (.int v1), some (.int (nI 0))]) dX4_hearOfEnded_39 rfl (ng_lt rfl) rfl ?_
      exact ev_sub (e_X4_hearOfEnded_40 V ng_F w Dg dw C off dear proved v1 (nI 0) h) (sub_s (sub_s (sub_s sub_e)))
    · replace h := h.2 c11
      refine ev_iload_n dX4_hearOfEnded_14 rfl rfl ?_
      refine ev_aload_n dX4_hearOfEnded_15 rfl rfl rfl ?_
      refine ev_iload_n dX4_hearOfEnded_16 rfl rfl ?_
      have hs17 := h.1
      replace h := h.2
      refine bk_callV (As := [.int v2]) (st := [.int v1]) (st2 := [.int (f_X4_isEnded w v2), .int v1]) (M2 := hp w Dg dw C off dear proved) ok_X4_isEnded lk_RX4_166 (ng_rok.of rfl rfl) (WL_gk V) rfl rfl rfl rfl rfl rfl dX4_hearOfEnded_17 (m_X4_isEnded (WL_R V) hs17) rfl rfl ?_
      refine bk_if_eq (tgt := 29) dX4_hearOfEnded_20 (by decide) (fun c20 => ?_) (fun c20 => ?_)
      · replace h := h.1 c20
        refine ev_iconst (v := nI 0) dX4_hearOfEnded_29 (by decide) ?_
        exact ev_sub (e_X4_hearOfEnded_30 V ih h) (sub_s (sub_n (sub_s sub_e)))
      · replace h := h.2 c20
        refine ev_iconst (v := nI 1) dX4_hearOfEnded_23 (by decide) ?_
        refine ev_iload_n dX4_hearOfEnded_24 rfl rfl ?_
        refine ev_ishl dX4_hearOfEnded_25 ?_
        refine ev_goto (tgt := 30) dX4_hearOfEnded_26 (by decide) ?_
        exact ev_sub (e_X4_hearOfEnded_30 V ih h) (sub_s (sub_n (sub_s sub_e)))
def f_X4_hearOfEnded  (w : Nat → Int32) (C : Nat → Int32)  : (Nat → Int32) := f_X4_hearOfEnded_4 ng_F w C (nI 0) (nI 0)
def s_X4_hearOfEnded  (w : Nat → Int32) (C : Nat → Int32)  : Prop := s_X4_hearOfEnded_4 ng_F w C (nI 0) (nI 0)
set_option maxRecDepth 100000 in
set_option maxHeartbeats 4000000 in
theorem e_X4_hearOfEnded {G : ng_GG} {hp : (Nat → Int32) → (Nat → Int32) → (Nat → Int32) → (Nat → Int32) → (Nat → Int32) → (Nat → Int32) → (Nat → Int32) → ng_AM} {k : Nat} {a : Nat} {d : Bool} (V : ng_WL hp k a d) {w : Nat → Int32} {Dg : Nat → Int32} {dw : Nat → Int32} {C : Nat → Int32} {off : Nat → Int32} {dear : Nat → Int32} {proved : Nat → Int32}   (h : s_X4_hearOfEnded  w C)  : ng_Ev G md_X4_hearOfEnded 0 [some (.ref k), none, none] [] (hp w Dg dw C off dear proved) (K_X4_hearOfEnded hp Dg dw C off dear proved (f_X4_hearOfEnded  w C)) := by
  unfold s_X4_hearOfEnded at h
  unfold f_X4_hearOfEnded
  refine ev_iconst (v := nI 0) dX4_hearOfEnded_0 (by decide) ?_
  refine ev_istore_n (L' := [some (.ref k), some (.int (nI 0)), none]) dX4_hearOfEnded_1 rfl (ng_lt rfl) rfl ?_
  refine ev_iconst (v := nI 0) dX4_hearOfEnded_2 (by decide) ?_
  refine ev_istore_n (L' := [some (.ref k), some (.int (nI 0)), some (.int (nI 0))]) dX4_hearOfEnded_3 rfl (ng_lt rfl) rfl ?_
  exact ev_sub (e_X4_hearOfEnded_4 V ng_F w Dg dw C off dear proved (nI 0) (nI 0) h) (sub_s (sub_s (sub_s sub_e)))
theorem m_X4_hearOfEnded {G : ng_GG} {hp : (Nat → Int32) → (Nat → Int32) → (Nat → Int32) → (Nat → Int32) → (Nat → Int32) → (Nat → Int32) → (Nat → Int32) → ng_AM} {k : Nat} {a : Nat} {d : Bool} (V : ng_WL hp k a d) {w : Nat → Int32} {Dg : Nat → Int32} {dw : Nat → Int32} {C : Nat → Int32} {off : Nat → Int32} {dear : Nat → Int32} {proved : Nat → Int32}  (h : s_X4_hearOfEnded w C)  : ng_Ev G md_X4_hearOfEnded 0 (ng_en 3 [.ref k]) [] (hp w Dg dw C off dear proved) (K_X4_hearOfEnded hp Dg dw C off dear proved (f_X4_hearOfEnded w C)) := e_X4_hearOfEnded V h 
def K_X4_passTick (hp : (Nat → Int32) → (Nat → Int32) → (Nat → Int32) → (Nat → Int32) → (Nat → Int32) → (Nat → Int32) → (Nat → Int32) → ng_AM) (C : Nat → Int32) (off : Nat → Int32) (dear : Nat → Int32) (proved : Nat → Int32) (r : (Nat → Int32) × (Nat → Int32) × (Nat → Int32)) : ng_RR := (none, hp (r.1) (r.2.1) (r.2.2) C off dear proved)
def f_X4_passTick_98 (kk53 : (Nat → Int32) → (Nat → Int32) → (Nat → Int32) → (Nat → Int32) → (Nat → Int32) → (Nat → Int32) → (Nat → Int32) → (Bool) → Int32 → ((Nat → Int32) × (Nat → Int32) × (Nat → Int32))) (w : Nat → Int32) (Dg : Nat → Int32) (dw : Nat → Int32) (C : Nat → Int32) (off : Nat → Int32) (dear : Nat → Int32) (proved : Nat → Int32) (d : Bool) (v1 : Int32) (t0 : Int32) : (Nat → Int32) × (Nat → Int32) × (Nat → Int32) := kk53 w Dg dw C off dear proved d (v1 + nI 1)
def s_X4_passTick_98 (sk53 : (Nat → Int32) → (Nat → Int32) → (Nat → Int32) → (Nat → Int32) → (Nat → Int32) → (Nat → Int32) → (Nat → Int32) → (Bool) → Int32 → Prop) (w : Nat → Int32) (Dg : Nat → Int32) (dw : Nat → Int32) (C : Nat → Int32) (off : Nat → Int32) (dear : Nat → Int32) (proved : Nat → Int32) (d : Bool) (v1 : Int32) (t0 : Int32) : Prop := sk53 w Dg dw C off dear proved d (v1 + nI 1)
set_option maxRecDepth 100000 in
set_option maxHeartbeats 4000000 in
theorem e_X4_passTick_98 {G : ng_GG} {hp : (Nat → Int32) → (Nat → Int32) → (Nat → Int32) → (Nat → Int32) → (Nat → Int32) → (Nat → Int32) → (Nat → Int32) → ng_AM} {k : Nat} {a : Nat} {d : Bool} (V : ng_WL hp k a d) {w : Nat → Int32} {Dg : Nat → Int32} {dw : Nat → Int32} {C : Nat → Int32} {off : Nat → Int32} {dear : Nat → Int32} {proved : Nat → Int32} {kk53 : (Nat → Int32) → (Nat → Int32) → (Nat → Int32) → (Nat → Int32) → (Nat → Int32) → (Nat → Int32) → (Nat → Int32) → (Bool) → Int32 → ((Nat → Int32) × (Nat → Int32) × (Nat → Int32))} {sk53 : (Nat → Int32) → (Nat → Int32) → (Nat → Int32) → (Nat → Int32) → (Nat → Int32) → (Nat → Int32) → (Nat → Int32) → (Bool) → Int32 → Prop} (hk53 : ∀ (w : Nat → Int32) (Dg : Nat → Int32) (dw : Nat → Int32) (C : Nat → Int32) (off : Nat → Int32) (dear : Nat → Int32) (proved : Nat → Int32) (v1 : Int32), sk53 w Dg dw C off dear proved d v1 → ng_Ev G md_X4_passTick 53 [some (.ref k), some (.int v1)] [] (hp w Dg dw C off dear proved) (K_X4_passTick hp C off dear proved (kk53 w Dg dw C off dear proved d v1))) {v1 : Int32} {t0 : Int32} (h : s_X4_passTick_98 sk53 w Dg dw C off dear proved d v1 t0)  : ng_Ev G md_X4_passTick 98 [some (.ref k), some (.int v1)] [.int t0] (hp w Dg dw C off dear proved) (K_X4_passTick hp C off dear proved (f_X4_passTick_98 kk53 w Dg dw C off dear proved d v1 t0)) := by
  unfold s_X4_passTick_98 at h
  unfold f_X4_passTick_98
  refine ev_pop dX4_passTick_98 rfl ?_
  refine ev_iinc (v := v1 + nI 1) (L' := [some (.ref k), some (.int (v1 + nI 1))]) dX4_passTick_99 rfl (by rfl) rfl ?_
  refine ev_goto (tgt := 53) dX4_passTick_102 (by decide) ?_
  exact ev_sub (hk53 w Dg dw C off dear proved (v1 + nI 1) h) (sub_s (sub_s sub_e))
def f_X4_passTick_53  : Nat → (Nat → Int32) → (Nat → Int32) → (Nat → Int32) → (Nat → Int32) → (Nat → Int32) → (Nat → Int32) → (Nat → Int32) → (Bool) → Int32 → ((Nat → Int32) × (Nat → Int32) × (Nat → Int32))
  | 0, w, Dg, dw, _, _, _, _, _, _ => (w, Dg, dw)
  | n + 1, w, Dg, dw, C, off, dear, proved, d, v1 => (if (nI 12) ≤ v1 then (w, Dg, dw) else (if (w (nI 3).toNatClampNeg) = 0 then (w, Dg, dw) else (if (C 5) ≤ ((w (nI 0).toNatClampNeg) - (w (nI 64).toNatClampNeg)) then f_X4_passTick_98 (f_X4_passTick_53 n) ((f_X4_come w Dg dw C off dear proved d (nI 0)).1) ((f_X4_come w Dg dw C off dear proved d (nI 0)).2.1) ((f_X4_come w Dg dw C off dear proved d (nI 0)).2.2.1) C off dear proved d v1 ((f_X4_come w Dg dw C off dear proved d (nI 0)).2.2.2) else (w, Dg, dw))))
def s_X4_passTick_53  : Nat → (Nat → Int32) → (Nat → Int32) → (Nat → Int32) → (Nat → Int32) → (Nat → Int32) → (Nat → Int32) → (Nat → Int32) → (Bool) → Int32 → Prop
  | 0, _, _, _, _, _, _, _, _, _ => False
  | n + 1, w, Dg, dw, C, off, dear, proved, d, v1 => (¬ (nI 12) ≤ v1 → (¬ (w (nI 3).toNatClampNeg) = 0 → ((C 5) ≤ ((w (nI 0).toNatClampNeg) - (w (nI 64).toNatClampNeg)) → (s_X4_come w Dg dw C off dear proved d (nI 0) ∧ s_X4_passTick_98 (s_X4_passTick_53 n) ((f_X4_come w Dg dw C off dear proved d (nI 0)).1) ((f_X4_come w Dg dw C off dear proved d (nI 0)).2.1) ((f_X4_come w Dg dw C off dear proved d (nI 0)).2.2.1) C off dear proved d v1 ((f_X4_come w Dg dw C off dear proved d (nI 0)).2.2.2)))))
set_option maxRecDepth 100000 in
set_option maxHeartbeats 4000000 in
theorem e_X4_passTick_53 {G : ng_GG} {hp : (Nat → Int32) → (Nat → Int32) → (Nat → Int32) → (Nat → Int32) → (Nat → Int32) → (Nat → Int32) → (Nat → Int32) → ng_AM} {k : Nat} {a : Nat} {d : Bool} (V : ng_WL hp k a d)  : ∀ (n : Nat) (w : Nat → Int32) (Dg : Nat → Int32) (dw : Nat → Int32) (C : Nat → Int32) (off : Nat → Int32) (dear : Nat → Int32) (proved : Nat → Int32) (v1 : Int32), s_X4_passTick_53  n w Dg dw C off dear proved d v1 → ng_Ev G md_X4_passTick 53 [some (.ref k), some (.int v1)] [] (hp w Dg dw C off dear proved) (K_X4_passTick hp C off dear proved (f_X4_passTick_53  n w Dg dw C off dear proved d v1)) := by
  intro n
  induction n with
  | zero => intro w Dg dw C off dear proved v1 h; exact False.elim h
  | succ n ih =>
    intro w Dg dw C off dear proved v1 h 
    rw [s_X4_passTick_53] at h
    rw [f_X4_passTick_53]
    refine ev_iload_n dX4_passTick_53 rfl rfl ?_
    refine ev_bipush (v := nI 12) dX4_passTick_54 (by decide) ?_
    refine bk_icmp_ge (tgt := 105) dX4_passTick_56 (by decide) (fun c56 => ?_) (fun c56 => ?_)
    · exact ev_vret rfl dX4_passTick_105
    · replace h := h c56
      refine ev_aload_n dX4_passTick_59 rfl rfl rfl ?_
      refine ev_get 4 0 fl_RX4_11 (WL_gk V) rfl dX4_passTick_60 ?_
      refine ev_iconst (v := nI 3) dX4_passTick_63 (by decide) ?_
      refine ev_iald (WL_ga V) (vp_in_nI (by decide) (by decide)) dX4_passTick_64 ?_
      refine bk_if_eq (tgt := 92) dX4_passTick_65 (by decide) (fun c65 => ?_) (fun c65 => ?_)
      · exact ev_vret rfl dX4_passTick_92
      · replace h := h c65
        refine ev_aload_n dX4_passTick_68 rfl rfl rfl ?_
        refine ev_get 4 0 fl_RX4_11 (WL_gk V) rfl dX4_passTick_69 ?_
        refine ev_iconst (v := nI 0) dX4_passTick_72 (by decide) ?_
        refine ev_iald (WL_ga V) (vp_in_nI (by decide) (by decide)) dX4_passTick_73 ?_
        refine ev_aload_n dX4_passTick_74 rfl rfl rfl ?_
        refine ev_get 4 0 fl_RX4_11 (WL_gk V) rfl dX4_passTick_75 ?_
        refine ev_bipush (v := nI 64) dX4_passTick_78 (by decide) ?_
        refine ev_iald (WL_ga V) (vp_in_nI (by decide) (by decide)) dX4_passTick_80 ?_
        refine ev_isub dX4_passTick_81 ?_
        refine ev_aload_n dX4_passTick_82 rfl rfl rfl ?_
        refine ev_get 4 1 fl_RX4_15 (WL_gk V) rfl dX4_passTick_83 ?_
        refine ev_get 2 5 fl_RX4_175 (WL_g1 V) rfl dX4_passTick_86 ?_
        refine bk_icmp_ge (tgt := 93) dX4_passTick_89 (by decide) (fun c89 => ?_) (fun c89 => ?_)
        · replace h := h c89
          refine ev_aload_n dX4_passTick_93 rfl rfl rfl ?_
          refine ev_iconst (v := nI 0) dX4_passTick_94 (by decide) ?_
          have hs95 := h.1
          replace h := h.2
          refine bk_callV (As := [.int (nI 0)]) (st := []) (st2 := [.int ((f_X4_come w Dg dw C off dear proved d (nI 0)).2.2.2)]) (M2 := hp ((f_X4_come w Dg dw C off dear proved d (nI 0)).1) ((f_X4_come w Dg dw C off dear proved d (nI 0)).2.1) ((f_X4_come w Dg dw C off dear proved d (nI 0)).2.2.1) C off dear proved) ok_X4_come lk_RX4_178 (ng_rok.of rfl rfl) (WL_gk V) rfl rfl rfl rfl rfl rfl dX4_passTick_95 (m_X4_come V hs95) rfl rfl ?_
          exact ev_sub (e_X4_passTick_98 V ih h) (sub_s (sub_s sub_e))
        · exact ev_vret rfl dX4_passTick_92
def f_X4_passTick_51  (w : Nat → Int32) (Dg : Nat → Int32) (dw : Nat → Int32) (C : Nat → Int32) (off : Nat → Int32) (dear : Nat → Int32) (proved : Nat → Int32) (d : Bool)  : (Nat → Int32) × (Nat → Int32) × (Nat → Int32) := f_X4_passTick_53 ng_F w Dg dw C off dear proved d (nI 0)
def s_X4_passTick_51  (w : Nat → Int32) (Dg : Nat → Int32) (dw : Nat → Int32) (C : Nat → Int32) (off : Nat → Int32) (dear : Nat → Int32) (proved : Nat → Int32) (d : Bool)  : Prop := s_X4_passTick_53 ng_F w Dg dw C off dear proved d (nI 0)
set_option maxRecDepth 100000 in
set_option maxHeartbeats 4000000 in
theorem e_X4_passTick_51 {G : ng_GG} {hp : (Nat → Int32) → (Nat → Int32) → (Nat → Int32) → (Nat → Int32) → (Nat → Int32) → (Nat → Int32) → (Nat → Int32) → ng_AM} {k : Nat} {a : Nat} {d : Bool} (V : ng_WL hp k a d) {w : Nat → Int32} {Dg : Nat → Int32} {dw : Nat → Int32} {C : Nat → Int32} {off : Nat → Int32} {dear : Nat → Int32} {proved : Nat → Int32}   (h : s_X4_passTick_51  w Dg dw C off dear proved d)  : ng_Ev G md_X4_passTick 51 [some (.ref k), none] [] (hp w Dg dw C off dear proved) (K_X4_passTick hp C off dear proved (f_X4_passTick_51  w Dg dw C off dear proved d)) := by
  unfold s_X4_passTick_51 at h
  unfold f_X4_passTick_51
  refine ev_iconst (v := nI 0) dX4_passTick_51 (by decide) ?_
  refine ev_istore_n (L' := [some (.ref k), some (.int (nI 0))]) dX4_passTick_52 rfl (ng_lt rfl) rfl ?_
  exact ev_sub (e_X4_passTick_53 V ng_F w Dg dw C off dear proved (nI 0) h) (sub_s (sub_s sub_e))
def f_X4_passTick  (w : Nat → Int32) (Dg : Nat → Int32) (dw : Nat → Int32) (C : Nat → Int32) (off : Nat → Int32) (dear : Nat → Int32) (proved : Nat → Int32) (d : Bool)  : (Nat → Int32) × (Nat → Int32) × (Nat → Int32) := (if (C 9) = 0 then f_X4_passTick_51 (upd w (nI 0).toNatClampNeg ((w (nI 0).toNatClampNeg) + (nI 1))) Dg dw C off dear proved d else (if (C 3) ≤ 0 then f_X4_passTick_51 (upd w (nI 0).toNatClampNeg ((w (nI 0).toNatClampNeg) + (nI 1))) Dg dw C off dear proved d else (if (((upd w (nI 0).toNatClampNeg ((w (nI 0).toNatClampNeg) + (nI 1))) (nI 0).toNatClampNeg) - ((upd w (nI 0).toNatClampNeg ((w (nI 0).toNatClampNeg) + (nI 1))) (nI 0).toNatClampNeg) / (C 3) * (C 3)) = 0 then f_X4_passTick_51 (f_X4_hearOfEnded (upd w (nI 0).toNatClampNeg ((w (nI 0).toNatClampNeg) + (nI 1))) C) Dg dw C off dear proved d else f_X4_passTick_51 (upd w (nI 0).toNatClampNeg ((w (nI 0).toNatClampNeg) + (nI 1))) Dg dw C off dear proved d)))
def s_X4_passTick  (w : Nat → Int32) (Dg : Nat → Int32) (dw : Nat → Int32) (C : Nat → Int32) (off : Nat → Int32) (dear : Nat → Int32) (proved : Nat → Int32) (d : Bool)  : Prop := (((C 9) = 0 → s_X4_passTick_51 (upd w (nI 0).toNatClampNeg ((w (nI 0).toNatClampNeg) + (nI 1))) Dg dw C off dear proved d) ∧ (¬ (C 9) = 0 → (((C 3) ≤ 0 → s_X4_passTick_51 (upd w (nI 0).toNatClampNeg ((w (nI 0).toNatClampNeg) + (nI 1))) Dg dw C off dear proved d) ∧ (¬ (C 3) ≤ 0 → (¬ (C 3) = 0 ∧ (((((upd w (nI 0).toNatClampNeg ((w (nI 0).toNatClampNeg) + (nI 1))) (nI 0).toNatClampNeg) - ((upd w (nI 0).toNatClampNeg ((w (nI 0).toNatClampNeg) + (nI 1))) (nI 0).toNatClampNeg) / (C 3) * (C 3)) = 0 → (s_X4_hearOfEnded (upd w (nI 0).toNatClampNeg ((w (nI 0).toNatClampNeg) + (nI 1))) C ∧ s_X4_passTick_51 (f_X4_hearOfEnded (upd w (nI 0).toNatClampNeg ((w (nI 0).toNatClampNeg) + (nI 1))) C) Dg dw C off dear proved d)) ∧ (¬ (((upd w (nI 0).toNatClampNeg ((w (nI 0).toNatClampNeg) + (nI 1))) (nI 0).toNatClampNeg) - ((upd w (nI 0).toNatClampNeg ((w (nI 0).toNatClampNeg) + (nI 1))) (nI 0).toNatClampNeg) / (C 3) * (C 3)) = 0 → s_X4_passTick_51 (upd w (nI 0).toNatClampNeg ((w (nI 0).toNatClampNeg) + (nI 1))) Dg dw C off dear proved d)))))))
set_option maxRecDepth 100000 in
set_option maxHeartbeats 4000000 in
theorem e_X4_passTick {G : ng_GG} {hp : (Nat → Int32) → (Nat → Int32) → (Nat → Int32) → (Nat → Int32) → (Nat → Int32) → (Nat → Int32) → (Nat → Int32) → ng_AM} {k : Nat} {a : Nat} {d : Bool} (V : ng_WL hp k a d) {w : Nat → Int32} {Dg : Nat → Int32} {dw : Nat → Int32} {C : Nat → Int32} {off : Nat → Int32} {dear : Nat → Int32} {proved : Nat → Int32}   (h : s_X4_passTick  w Dg dw C off dear proved d)  : ng_Ev G md_X4_passTick 0 [some (.ref k), none] [] (hp w Dg dw C off dear proved) (K_X4_passTick hp C off dear proved (f_X4_passTick  w Dg dw C off dear proved d)) := by
  unfold s_X4_passTick at h
  unfold f_X4_passTick
  refine ev_aload_n dX4_passTick_0 rfl rfl rfl ?_
  refine ev_get 4 0 fl_RX4_11 (WL_gk V) rfl dX4_passTick_1 ?_
  refine ev_iconst (v := nI 0) dX4_passTick_4 (by decide) ?_
  refine ev_dup2 dX4_passTick_5 rfl rfl ?_
  refine ev_iald (WL_ga V) (vp_in_nI (by decide) (by decide)) dX4_passTick_6 ?_
  refine ev_iconst (v := nI 1) dX4_passTick_7 (by decide) ?_
  refine ev_iadd dX4_passTick_8 ?_
  refine ev_iast (WL_ga V) (vp_in_nI (by decide) (by decide)) (WL_sa V) dX4_passTick_9 ?_
  refine ev_aload_n dX4_passTick_10 rfl rfl rfl ?_
  refine ev_get 4 1 fl_RX4_15 (WL_gk V) rfl dX4_passTick_11 ?_
  refine ev_get 2 9 fl_RX4_88 (WL_g1 V) rfl dX4_passTick_14 ?_
  refine bk_if_eq (tgt := 51) dX4_passTick_17 (by decide) (fun c17 => ?_) (fun c17 => ?_)
  · replace h := h.1 c17
    exact ev_sub (e_X4_passTick_51 V h) (sub_s (sub_n sub_e))
  · replace h := h.2 c17
    refine ev_aload_n dX4_passTick_20 rfl rfl rfl ?_
    refine ev_get 4 1 fl_RX4_15 (WL_gk V) rfl dX4_passTick_21 ?_
    refine ev_get 2 3 fl_RX4_169 (WL_g1 V) rfl dX4_passTick_24 ?_
    refine bk_if_le (tgt := 51) dX4_passTick_27 (by decide) (fun c27 => ?_) (fun c27 => ?_)
    · replace h := h.1 c27
      exact ev_sub (e_X4_passTick_51 V h) (sub_s (sub_n sub_e))
    · replace h := h.2 c27
      refine ev_aload_n dX4_passTick_30 rfl rfl rfl ?_
      refine ev_get 4 0 fl_RX4_11 (WL_gk V) rfl dX4_passTick_31 ?_
      refine ev_iconst (v := nI 0) dX4_passTick_34 (by decide) ?_
      refine ev_iald (WL_ga V) (vp_in_nI (by decide) (by decide)) dX4_passTick_35 ?_
      refine ev_aload_n dX4_passTick_36 rfl rfl rfl ?_
      refine ev_get 4 1 fl_RX4_15 (WL_gk V) rfl dX4_passTick_37 ?_
      refine ev_get 2 3 fl_RX4_169 (WL_g1 V) rfl dX4_passTick_40 ?_
      have hz43 := h.1
      replace h := h.2
      refine ev_irem dX4_passTick_43 hz43 ?_
      refine bk_if_ne (tgt := 51) dX4_passTick_44 (by decide) (fun c44 => ?_) (fun c44 => ?_)
      · replace h := h.2 c44
        exact ev_sub (e_X4_passTick_51 V h) (sub_s (sub_n sub_e))
      · replace h := h.1 c44
        refine ev_aload_n dX4_passTick_47 rfl rfl rfl ?_
        have hs48 := h.1
        replace h := h.2
        refine bk_callV (As := []) (st := []) (st2 := []) (M2 := hp (f_X4_hearOfEnded (upd w (nI 0).toNatClampNeg ((w (nI 0).toNatClampNeg) + (nI 1))) C) Dg dw C off dear proved) ok_X4_hearOfEnded lk_RX4_172 (ng_rok.of rfl rfl) (WL_gk V) rfl rfl rfl rfl rfl rfl dX4_passTick_48 (m_X4_hearOfEnded V hs48) rfl rfl ?_
        exact ev_sub (e_X4_passTick_51 V h) (sub_s (sub_n sub_e))
theorem m_X4_passTick {G : ng_GG} {hp : (Nat → Int32) → (Nat → Int32) → (Nat → Int32) → (Nat → Int32) → (Nat → Int32) → (Nat → Int32) → (Nat → Int32) → ng_AM} {k : Nat} {a : Nat} {d : Bool} (V : ng_WL hp k a d) {w : Nat → Int32} {Dg : Nat → Int32} {dw : Nat → Int32} {C : Nat → Int32} {off : Nat → Int32} {dear : Nat → Int32} {proved : Nat → Int32}  (h : s_X4_passTick w Dg dw C off dear proved d)  : ng_Ev G md_X4_passTick 0 (ng_en 2 [.ref k]) [] (hp w Dg dw C off dear proved) (K_X4_passTick hp C off dear proved (f_X4_passTick w Dg dw C off dear proved d)) := e_X4_passTick V h 
def K_X4_become (hv : (Nat → Int32) → ng_AM)  (r : (Nat → Int32)) : ng_RR := (none, hv (r))
def f_X4_become  (w : Nat → Int32) (w2 : Nat → Int32)  : (Nat → Int32) := (if ((nI 142) + ((w2 (nI 1).toNatClampNeg) * (nI 11))) < 0 then w else (if (nI 494) < ((nI 142) + ((w2 (nI 1).toNatClampNeg) * (nI 11))) then w else (va_cpy w2 w (nI 0).toNatClampNeg (nI 0).toNatClampNeg ((nI 142) + ((w2 (nI 1).toNatClampNeg) * (nI 11))).toNatClampNeg)))
def s_X4_become  (w : Nat → Int32) (w2 : Nat → Int32)  : Prop := (¬ ((nI 142) + ((w2 (nI 1).toNatClampNeg) * (nI 11))) < 0 → (¬ (nI 494) < ((nI 142) + ((w2 (nI 1).toNatClampNeg) * (nI 11))) → (¬ (nI 0) < 0 ∧ ¬ (nI 0) < 0 ∧ ¬ ((nI 142) + ((w2 (nI 1).toNatClampNeg) * (nI 11))) < 0 ∧ (nI 0).toNatClampNeg + ((nI 142) + ((w2 (nI 1).toNatClampNeg) * (nI 11))).toNatClampNeg ≤ 494 ∧ (nI 0).toNatClampNeg + ((nI 142) + ((w2 (nI 1).toNatClampNeg) * (nI 11))).toNatClampNeg ≤ 494)))
set_option maxRecDepth 100000 in
set_option maxHeartbeats 4000000 in
theorem e_X4_become {G : ng_GG} {hv : (Nat → Int32) → ng_AM} {k : Nat} {a : Nat} {dv : Value} {k2 : Nat} {a2 : Nat} {dv2 : Value} {w2 : Nat → Int32} (V : ng_VL hv k a dv k2 a2 dv2 w2) {w : Nat → Int32}   (h : s_X4_become  w w2)  : ng_Ev G md_X4_become 0 [some (.ref k), some (.ref k2), none] [] (hv w) (K_X4_become hv  (f_X4_become  w w2)) := by
  unfold s_X4_become at h
  unfold f_X4_become
  refine ev_sipush (v := nI 142) dX4_become_0 (by decide) ?_
  refine ev_aload_n dX4_become_3 rfl rfl rfl ?_
  refine ev_get 4 0 fl_RX4_11 (VL_gk2 V) rfl dX4_become_4 ?_
  refine ev_iconst (v := nI 1) dX4_become_7 (by decide) ?_
  refine ev_iald (VL_ga2 V) (vp_in_nI (by decide) (by decide)) dX4_become_8 ?_
  refine ev_bipush (v := nI 11) dX4_become_9 (by decide) ?_
  refine ev_imul dX4_become_11 ?_
  refine ev_iadd dX4_become_12 ?_
  refine ev_istore_n (L' := [some (.ref k), some (.ref k2), some (.int ((nI 142) + ((w2 (nI 1).toNatClampNeg) * (nI 11))))]) dX4_become_13 rfl (ng_lt rfl) rfl ?_
  refine ev_iload_n dX4_become_14 rfl rfl ?_
  refine bk_if_lt (tgt := 39) dX4_become_15 (by decide) (fun c15 => ?_) (fun c15 => ?_)
  · exact ev_vret rfl dX4_become_39
  · replace h := h c15
    refine ev_iload_n dX4_become_18 rfl rfl ?_
    refine ev_sipush (v := nI 494) dX4_become_19 (by decide) ?_
    refine bk_icmp_gt (tgt := 39) dX4_become_22 (by decide) (fun c22 => ?_) (fun c22 => ?_)
    · exact ev_vret rfl dX4_become_39
    · replace h := h c22
      refine ev_aload_n dX4_become_25 rfl rfl rfl ?_
      refine ev_get 4 0 fl_RX4_11 (VL_gk2 V) rfl dX4_become_26 ?_
      refine ev_iconst (v := nI 0) dX4_become_29 (by decide) ?_
      refine ev_aload_n dX4_become_30 rfl rfl rfl ?_
      refine ev_get 4 0 fl_RX4_11 (VL_gk V) rfl dX4_become_31 ?_
      refine ev_iconst (v := nI 0) dX4_become_34 (by decide) ?_
      refine ev_iload_n dX4_become_35 rfl rfl ?_
      have ha36 := h
      refine ev_copyi lk_RX4_58 (VL_ga2 V) (VL_ga V) ha36.1 ha36.2.1 ha36.2.2.1 ha36.2.2.2.1 ha36.2.2.2.2 (Nat.le_of_ble_eq_true rfl) (Nat.le_of_ble_eq_true rfl) (VL_sa V) dX4_become_36 ?_
      exact ev_vret rfl dX4_become_39
theorem m_X4_become {G : ng_GG} {hv : (Nat → Int32) → ng_AM} {k : Nat} {a : Nat} {dv : Value} {k2 : Nat} {a2 : Nat} {dv2 : Value} {w2 : Nat → Int32} (V : ng_VL hv k a dv k2 a2 dv2 w2) {w : Nat → Int32}  (h : s_X4_become w w2)  : ng_Ev G md_X4_become 0 (ng_en 3 [.ref k, .ref k2]) [] (hv w) (K_X4_become hv  (f_X4_become w w2)) := e_X4_become V h 
