def K_X5_isSlot (hn : (Nat → Int32) → (Nat → Int32) → (Nat → Int32) → (Nat → Int32) → (Nat → Int32) → (Nat → Int32) → (Nat → Int32) → (Nat → Int32) → (Nat → Int32) → (Nat → Int32) → (Nat → Int32) → (Nat → Int32) → (Nat → Int32) → (Nat → Int32) → (Nat → Nat → Int64) → (Nat → Int32) → (Nat → Int32) → (Nat → Int32) → Int32 → (Nat → Nat → Int32) → Nat → ng_AM) (C : Nat → Int32) (off : Nat → Int32) (dear : Nat → Int32) (proved : Nat → Int32) (Dg : Nat → Int32) (dw : Nat → Int32) (nw : Nat → Int32) (J : Nat → Int32) (bef : Nat → Int32) (mov : Nat → Int32) (nxt : Nat → Int32) (chn : Nat → Int32) (tol : Nat → Int32) (tw : Nat → Int32) (nu : Nat → Nat → Int64) (sw : Nat → Int32) (ss : Nat → Int32) (giv : Nat → Int32) (sE : Int32) (P : Nat → Nat → Int32) (pn : Nat) (r : Int32) : ng_RR := (some (.int (r)), hn C off dear proved Dg dw nw J bef mov nxt chn tol tw nu sw ss giv sE P pn)
def f_X5_isSlot   (v1 : Int32) : Int32 := (if v1 < 0 then nI 0 else (if (nI 4) ≤ v1 then nI 0 else nI 1))
def s_X5_isSlot   (v1 : Int32) : Prop := (¬ v1 < 0 → (¬ (nI 4) ≤ v1 → vp_in v1 4))
set_option maxRecDepth 100000 in
set_option maxHeartbeats 4000000 in
theorem e_X5_isSlot {G : ng_GG} {hn : (Nat → Int32) → (Nat → Int32) → (Nat → Int32) → (Nat → Int32) → (Nat → Int32) → (Nat → Int32) → (Nat → Int32) → (Nat → Int32) → (Nat → Int32) → (Nat → Int32) → (Nat → Int32) → (Nat → Int32) → (Nat → Int32) → (Nat → Int32) → (Nat → Nat → Int64) → (Nat → Int32) → (Nat → Int32) → (Nat → Int32) → Int32 → (Nat → Nat → Int32) → Nat → ng_AM}  (V : ng_NL hn ) {C : Nat → Int32} {off : Nat → Int32} {dear : Nat → Int32} {proved : Nat → Int32} {Dg : Nat → Int32} {dw : Nat → Int32} {nw : Nat → Int32} {J : Nat → Int32} {bef : Nat → Int32} {mov : Nat → Int32} {nxt : Nat → Int32} {chn : Nat → Int32} {tol : Nat → Int32} {tw : Nat → Int32} {nu : Nat → Nat → Int64} {sw : Nat → Int32} {ss : Nat → Int32} {giv : Nat → Int32} {sE : Int32} {P : Nat → Nat → Int32} {pn : Nat}  {v1 : Int32} (h : s_X5_isSlot  v1)  : ng_Ev G md_X5_isSlot 0 [some (.ref 0), some (.int v1)] [] (hn C off dear proved Dg dw nw J bef mov nxt chn tol tw nu sw ss giv sE P pn) (K_X5_isSlot hn C off dear proved Dg dw nw J bef mov nxt chn tol tw nu sw ss giv sE P pn (f_X5_isSlot  v1)) := by
  unfold s_X5_isSlot at h
  unfold f_X5_isSlot
  refine ev_iload_n dX5_isSlot_0 rfl rfl ?_
  refine bk_if_lt (tgt := 22) dX5_isSlot_1 (by decide) (fun c1 => ?_) (fun c1 => ?_)
  · refine ev_iconst (v := nI 0) dX5_isSlot_22 (by decide) ?_
    exact ev_iret rfl (by decide) dX5_isSlot_23
  · replace h := h c1
    refine ev_iload_n dX5_isSlot_4 rfl rfl ?_
    refine ev_iconst (v := nI 4) dX5_isSlot_5 (by decide) ?_
    refine bk_icmp_ge (tgt := 22) dX5_isSlot_6 (by decide) (fun c6 => ?_) (fun c6 => ?_)
    · refine ev_iconst (v := nI 0) dX5_isSlot_22 (by decide) ?_
      exact ev_iret rfl (by decide) dX5_isSlot_23
    · replace h := h c6
      refine ev_aload_n dX5_isSlot_9 rfl rfl rfl ?_
      refine ev_get 5 4 fl_RX5_43 (NL_g0 V) rfl dX5_isSlot_10 ?_
      refine ev_iload_n dX5_isSlot_13 rfl rfl ?_
      have hi14 := h
      refine ev_slot (NL_g18 V) hi14 dX5_isSlot_14 ?_
      refine ev_ifnull_r dX5_isSlot_15 ?_
      refine ev_iconst (v := nI 1) dX5_isSlot_18 (by decide) ?_
      refine ev_goto (tgt := 23) dX5_isSlot_19 (by decide) ?_
      exact ev_iret rfl (by decide) dX5_isSlot_23
theorem m_X5_isSlot {G : ng_GG} {hn : (Nat → Int32) → (Nat → Int32) → (Nat → Int32) → (Nat → Int32) → (Nat → Int32) → (Nat → Int32) → (Nat → Int32) → (Nat → Int32) → (Nat → Int32) → (Nat → Int32) → (Nat → Int32) → (Nat → Int32) → (Nat → Int32) → (Nat → Int32) → (Nat → Nat → Int64) → (Nat → Int32) → (Nat → Int32) → (Nat → Int32) → Int32 → (Nat → Nat → Int32) → Nat → ng_AM}  (V : ng_NL hn ) {C : Nat → Int32} {off : Nat → Int32} {dear : Nat → Int32} {proved : Nat → Int32} {Dg : Nat → Int32} {dw : Nat → Int32} {nw : Nat → Int32} {J : Nat → Int32} {bef : Nat → Int32} {mov : Nat → Int32} {nxt : Nat → Int32} {chn : Nat → Int32} {tol : Nat → Int32} {tw : Nat → Int32} {nu : Nat → Nat → Int64} {sw : Nat → Int32} {ss : Nat → Int32} {giv : Nat → Int32} {sE : Int32} {P : Nat → Nat → Int32} {pn : Nat} {v1 : Int32} (h : s_X5_isSlot v1)  : ng_Ev G md_X5_isSlot 0 (ng_en 2 [.ref 0, .int v1]) [] (hn C off dear proved Dg dw nw J bef mov nxt chn tol tw nu sw ss giv sE P pn) (K_X5_isSlot hn C off dear proved Dg dw nw J bef mov nxt chn tol tw nu sw ss giv sE P pn (f_X5_isSlot v1)) := e_X5_isSlot V h 
def K_X5_isQuestion (hn : (Nat → Int32) → (Nat → Int32) → (Nat → Int32) → (Nat → Int32) → (Nat → Int32) → (Nat → Int32) → (Nat → Int32) → (Nat → Int32) → (Nat → Int32) → (Nat → Int32) → (Nat → Int32) → (Nat → Int32) → (Nat → Int32) → (Nat → Int32) → (Nat → Nat → Int64) → (Nat → Int32) → (Nat → Int32) → (Nat → Int32) → Int32 → (Nat → Nat → Int32) → Nat → ng_AM) (C : Nat → Int32) (off : Nat → Int32) (dear : Nat → Int32) (proved : Nat → Int32) (Dg : Nat → Int32) (dw : Nat → Int32) (nw : Nat → Int32) (J : Nat → Int32) (bef : Nat → Int32) (mov : Nat → Int32) (nxt : Nat → Int32) (chn : Nat → Int32) (tol : Nat → Int32) (tw : Nat → Int32) (nu : Nat → Nat → Int64) (sw : Nat → Int32) (ss : Nat → Int32) (giv : Nat → Int32) (sE : Int32) (P : Nat → Nat → Int32) (pn : Nat) (r : Int32) : ng_RR := (some (.int (r)), hn C off dear proved Dg dw nw J bef mov nxt chn tol tw nu sw ss giv sE P pn)
def f_X5_isQuestion  (C : Nat → Int32) (v1 : Int32) (v2 : Int32) (v3 : Int32) (v4 : Int32) (v5 : Int32) : Int32 := (if (f_X5_isRight v4) = 0 then nI 0 else (if (f_X5_within v5 (nI 0) (nI 6)) = 0 then nI 0 else (if v1 = 0 then (if (f_X2_isHouse C v2) = 0 then nI 0 else (if (f_X5_within v3 (nI 0) (nI 3)) = 0 then nI 0 else nI 1)) else (if v1 = (nI 1) then (if (f_X5_within v2 (nI 0) (nI 3)) = 0 then nI 0 else (if v3 = 0 then nI 1 else nI 0)) else nI 0))))
def s_X5_isQuestion  (C : Nat → Int32) (v1 : Int32) (v2 : Int32) (v3 : Int32) (v4 : Int32) (v5 : Int32) : Prop := True
set_option maxRecDepth 100000 in
set_option maxHeartbeats 4000000 in
theorem e_X5_isQuestion {G : ng_GG} {hn : (Nat → Int32) → (Nat → Int32) → (Nat → Int32) → (Nat → Int32) → (Nat → Int32) → (Nat → Int32) → (Nat → Int32) → (Nat → Int32) → (Nat → Int32) → (Nat → Int32) → (Nat → Int32) → (Nat → Int32) → (Nat → Int32) → (Nat → Int32) → (Nat → Nat → Int64) → (Nat → Int32) → (Nat → Int32) → (Nat → Int32) → Int32 → (Nat → Nat → Int32) → Nat → ng_AM}  (V : ng_NL hn ) {C : Nat → Int32} {off : Nat → Int32} {dear : Nat → Int32} {proved : Nat → Int32} {Dg : Nat → Int32} {dw : Nat → Int32} {nw : Nat → Int32} {J : Nat → Int32} {bef : Nat → Int32} {mov : Nat → Int32} {nxt : Nat → Int32} {chn : Nat → Int32} {tol : Nat → Int32} {tw : Nat → Int32} {nu : Nat → Nat → Int64} {sw : Nat → Int32} {ss : Nat → Int32} {giv : Nat → Int32} {sE : Int32} {P : Nat → Nat → Int32} {pn : Nat}  {v1 : Int32} {v2 : Int32} {v3 : Int32} {v4 : Int32} {v5 : Int32} (h : s_X5_isQuestion  C v1 v2 v3 v4 v5)  : ng_Ev G md_X5_isQuestion 0 [some (.ref 0), some (.int v1), some (.int v2), some (.int v3), some (.int v4), some (.int v5)] [] (hn C off dear proved Dg dw nw J bef mov nxt chn tol tw nu sw ss giv sE P pn) (K_X5_isQuestion hn C off dear proved Dg dw nw J bef mov nxt chn tol tw nu sw ss giv sE P pn (f_X5_isQuestion  C v1 v2 v3 v4 v5)) := by
  unfold s_X5_isQuestion at h
  unfold f_X5_isQuestion
  refine ev_iload dX5_isQuestion_0 rfl ?_
  refine bk_callS (As := [.int v4]) (st := []) (st2 := [.int (f_X5_isRight v4)]) (M2 := hn C off dear proved Dg dw nw J bef mov nxt chn tol tw nu sw ss giv sE P pn) ok_X5_isRight lk_RX5_153 (ng_rok.of rfl rfl) rfl rfl rfl rfl dX5_isQuestion_2 (m_X5_isRight trivial) rfl rfl ?_
  refine bk_if_eq (tgt := 19) dX5_isQuestion_5 (by decide) (fun c5 => ?_) (fun c5 => ?_)
  · refine ev_iconst (v := nI 0) dX5_isQuestion_19 (by decide) ?_
    exact ev_iret rfl (by decide) dX5_isQuestion_20
  · refine ev_iload dX5_isQuestion_8 rfl ?_
    refine ev_iconst (v := nI 0) dX5_isQuestion_10 (by decide) ?_
    refine ev_bipush (v := nI 6) dX5_isQuestion_11 (by decide) ?_
    refine bk_callS (As := [.int v5, .int (nI 0), .int (nI 6)]) (st := []) (st2 := [.int (f_X5_within v5 (nI 0) (nI 6))]) (M2 := hn C off dear proved Dg dw nw J bef mov nxt chn tol tw nu sw ss giv sE P pn) ok_X5_within lk_RX5_56 (ng_rok.of rfl rfl) rfl rfl rfl rfl dX5_isQuestion_13 (m_X5_within trivial) rfl rfl ?_
    refine bk_if_ne (tgt := 21) dX5_isQuestion_16 (by decide) (fun c16 => ?_) (fun c16 => ?_)
    · refine ev_iload_n dX5_isQuestion_21 rfl rfl ?_
      refine bk_if_ne (tgt := 51) dX5_isQuestion_22 (by decide) (fun c22 => ?_) (fun c22 => ?_)
      · refine ev_iload_n dX5_isQuestion_51 rfl rfl ?_
        refine ev_iconst (v := nI 1) dX5_isQuestion_52 (by decide) ?_
        refine bk_icmp_ne (tgt := 73) dX5_isQuestion_53 (by decide) (fun c53 => ?_) (fun c53 => ?_)
        · refine ev_iconst (v := nI 0) dX5_isQuestion_73 (by decide) ?_
          exact ev_iret rfl (by decide) dX5_isQuestion_74
        · refine ev_iload_n dX5_isQuestion_56 rfl rfl ?_
          refine ev_iconst (v := nI 0) dX5_isQuestion_57 (by decide) ?_
          refine ev_iconst (v := nI 3) dX5_isQuestion_58 (by decide) ?_
          refine bk_callS (As := [.int v2, .int (nI 0), .int (nI 3)]) (st := []) (st2 := [.int (f_X5_within v2 (nI 0) (nI 3))]) (M2 := hn C off dear proved Dg dw nw J bef mov nxt chn tol tw nu sw ss giv sE P pn) ok_X5_within lk_RX5_56 (ng_rok.of rfl rfl) rfl rfl rfl rfl dX5_isQuestion_59 (m_X5_within trivial) rfl rfl ?_
          refine bk_if_eq (tgt := 73) dX5_isQuestion_62 (by decide) (fun c62 => ?_) (fun c62 => ?_)
          · refine ev_iconst (v := nI 0) dX5_isQuestion_73 (by decide) ?_
            exact ev_iret rfl (by decide) dX5_isQuestion_74
          · refine ev_iload_n dX5_isQuestion_65 rfl rfl ?_
            refine bk_if_ne (tgt := 73) dX5_isQuestion_66 (by decide) (fun c66 => ?_) (fun c66 => ?_)
            · refine ev_iconst (v := nI 0) dX5_isQuestion_73 (by decide) ?_
              exact ev_iret rfl (by decide) dX5_isQuestion_74
            · refine ev_iconst (v := nI 1) dX5_isQuestion_69 (by decide) ?_
              refine ev_goto (tgt := 74) dX5_isQuestion_70 (by decide) ?_
              exact ev_iret rfl (by decide) dX5_isQuestion_74
      · refine ev_aload_n dX5_isQuestion_25 rfl rfl rfl ?_
        refine ev_get 5 0 fl_RX5_10 (NL_g0 V) rfl dX5_isQuestion_26 ?_
        refine ev_iload_n dX5_isQuestion_29 rfl rfl ?_
        refine bk_callV (As := [.int v2]) (st := []) (st2 := [.int (f_X2_isHouse C v2)]) (M2 := hn C off dear proved Dg dw nw J bef mov nxt chn tol tw nu sw ss giv sE P pn) ok_X2_isHouse lk_RX5_132 (ng_rok.of rfl rfl) (NL_g1 V) rfl rfl rfl rfl rfl rfl dX5_isQuestion_30 (m_X2_isHouse (NL_RS V) trivial) rfl rfl ?_
        refine bk_if_eq (tgt := 49) dX5_isQuestion_33 (by decide) (fun c33 => ?_) (fun c33 => ?_)
        · refine ev_iconst (v := nI 0) dX5_isQuestion_49 (by decide) ?_
          exact ev_iret rfl (by decide) dX5_isQuestion_50
        · refine ev_iload_n dX5_isQuestion_36 rfl rfl ?_
          refine ev_iconst (v := nI 0) dX5_isQuestion_37 (by decide) ?_
          refine ev_iconst (v := nI 3) dX5_isQuestion_38 (by decide) ?_
          refine bk_callS (As := [.int v3, .int (nI 0), .int (nI 3)]) (st := []) (st2 := [.int (f_X5_within v3 (nI 0) (nI 3))]) (M2 := hn C off dear proved Dg dw nw J bef mov nxt chn tol tw nu sw ss giv sE P pn) ok_X5_within lk_RX5_56 (ng_rok.of rfl rfl) rfl rfl rfl rfl dX5_isQuestion_39 (m_X5_within trivial) rfl rfl ?_
          refine bk_if_eq (tgt := 49) dX5_isQuestion_42 (by decide) (fun c42 => ?_) (fun c42 => ?_)
          · refine ev_iconst (v := nI 0) dX5_isQuestion_49 (by decide) ?_
            exact ev_iret rfl (by decide) dX5_isQuestion_50
          · refine ev_iconst (v := nI 1) dX5_isQuestion_45 (by decide) ?_
            refine ev_goto (tgt := 50) dX5_isQuestion_46 (by decide) ?_
            exact ev_iret rfl (by decide) dX5_isQuestion_50
    · refine ev_iconst (v := nI 0) dX5_isQuestion_19 (by decide) ?_
      exact ev_iret rfl (by decide) dX5_isQuestion_20
theorem m_X5_isQuestion {G : ng_GG} {hn : (Nat → Int32) → (Nat → Int32) → (Nat → Int32) → (Nat → Int32) → (Nat → Int32) → (Nat → Int32) → (Nat → Int32) → (Nat → Int32) → (Nat → Int32) → (Nat → Int32) → (Nat → Int32) → (Nat → Int32) → (Nat → Int32) → (Nat → Int32) → (Nat → Nat → Int64) → (Nat → Int32) → (Nat → Int32) → (Nat → Int32) → Int32 → (Nat → Nat → Int32) → Nat → ng_AM}  (V : ng_NL hn ) {C : Nat → Int32} {off : Nat → Int32} {dear : Nat → Int32} {proved : Nat → Int32} {Dg : Nat → Int32} {dw : Nat → Int32} {nw : Nat → Int32} {J : Nat → Int32} {bef : Nat → Int32} {mov : Nat → Int32} {nxt : Nat → Int32} {chn : Nat → Int32} {tol : Nat → Int32} {tw : Nat → Int32} {nu : Nat → Nat → Int64} {sw : Nat → Int32} {ss : Nat → Int32} {giv : Nat → Int32} {sE : Int32} {P : Nat → Nat → Int32} {pn : Nat} {v1 : Int32} {v2 : Int32} {v3 : Int32} {v4 : Int32} {v5 : Int32} (h : s_X5_isQuestion C v1 v2 v3 v4 v5)  : ng_Ev G md_X5_isQuestion 0 (ng_en 6 [.ref 0, .int v1, .int v2, .int v3, .int v4, .int v5]) [] (hn C off dear proved Dg dw nw J bef mov nxt chn tol tw nu sw ss giv sE P pn) (K_X5_isQuestion hn C off dear proved Dg dw nw J bef mov nxt chn tol tw nu sw ss giv sE P pn (f_X5_isQuestion C v1 v2 v3 v4 v5)) := e_X5_isQuestion V h 
def K_X5_fullSlots (hn : (Nat → Int32) → (Nat → Int32) → (Nat → Int32) → (Nat → Int32) → (Nat → Int32) → (Nat → Int32) → (Nat → Int32) → (Nat → Int32) → (Nat → Int32) → (Nat → Int32) → (Nat → Int32) → (Nat → Int32) → (Nat → Int32) → (Nat → Int32) → (Nat → Nat → Int64) → (Nat → Int32) → (Nat → Int32) → (Nat → Int32) → Int32 → (Nat → Nat → Int32) → Nat → ng_AM) (C : Nat → Int32) (off : Nat → Int32) (dear : Nat → Int32) (proved : Nat → Int32) (Dg : Nat → Int32) (dw : Nat → Int32) (nw : Nat → Int32) (J : Nat → Int32) (bef : Nat → Int32) (mov : Nat → Int32) (nxt : Nat → Int32) (chn : Nat → Int32) (tol : Nat → Int32) (tw : Nat → Int32) (nu : Nat → Nat → Int64) (sw : Nat → Int32) (ss : Nat → Int32) (giv : Nat → Int32) (sE : Int32) (P : Nat → Nat → Int32) (pn : Nat) (r : Int32) : ng_RR := (some (.int (r)), hn C off dear proved Dg dw nw J bef mov nxt chn tol tw nu sw ss giv sE P pn)
def f_X5_fullSlots_32 (kk4 : (Nat → Int32) → Int32 → Int32 → (Int32)) (sw : Nat → Int32) (v1 : Int32) (v2 : Int32) : Int32 := kk4 sw v1 (v2 + nI 1)
def s_X5_fullSlots_32 (sk4 : (Nat → Int32) → Int32 → Int32 → Prop) (sw : Nat → Int32) (v1 : Int32) (v2 : Int32) : Prop := sk4 sw v1 (v2 + nI 1)
set_option maxRecDepth 100000 in
set_option maxHeartbeats 4000000 in
theorem e_X5_fullSlots_32 {G : ng_GG} {hn : (Nat → Int32) → (Nat → Int32) → (Nat → Int32) → (Nat → Int32) → (Nat → Int32) → (Nat → Int32) → (Nat → Int32) → (Nat → Int32) → (Nat → Int32) → (Nat → Int32) → (Nat → Int32) → (Nat → Int32) → (Nat → Int32) → (Nat → Int32) → (Nat → Nat → Int64) → (Nat → Int32) → (Nat → Int32) → (Nat → Int32) → Int32 → (Nat → Nat → Int32) → Nat → ng_AM}  (V : ng_NL hn ) {C : Nat → Int32} {off : Nat → Int32} {dear : Nat → Int32} {proved : Nat → Int32} {Dg : Nat → Int32} {dw : Nat → Int32} {nw : Nat → Int32} {J : Nat → Int32} {bef : Nat → Int32} {mov : Nat → Int32} {nxt : Nat → Int32} {chn : Nat → Int32} {tol : Nat → Int32} {tw : Nat → Int32} {nu : Nat → Nat → Int64} {sw : Nat → Int32} {ss : Nat → Int32} {giv : Nat → Int32} {sE : Int32} {P : Nat → Nat → Int32} {pn : Nat} {kk4 : (Nat → Int32) → Int32 → Int32 → (Int32)} {sk4 : (Nat → Int32) → Int32 → Int32 → Prop} (hk4 : ∀ (C : Nat → Int32) (off : Nat → Int32) (dear : Nat → Int32) (proved : Nat → Int32) (Dg : Nat → Int32) (dw : Nat → Int32) (nw : Nat → Int32) (J : Nat → Int32) (bef : Nat → Int32) (mov : Nat → Int32) (nxt : Nat → Int32) (chn : Nat → Int32) (tol : Nat → Int32) (tw : Nat → Int32) (nu : Nat → Nat → Int64) (sw : Nat → Int32) (ss : Nat → Int32) (giv : Nat → Int32) (sE : Int32) (P : Nat → Nat → Int32) (pn : Nat) (v1 : Int32) (v2 : Int32), sk4 sw v1 v2 → ng_Ev G md_X5_fullSlots 4 [some (.ref 0), some (.int v1), some (.int v2)] [] (hn C off dear proved Dg dw nw J bef mov nxt chn tol tw nu sw ss giv sE P pn) (K_X5_fullSlots hn C off dear proved Dg dw nw J bef mov nxt chn tol tw nu sw ss giv sE P pn (kk4 sw v1 v2))) {v1 : Int32} {v2 : Int32} (h : s_X5_fullSlots_32 sk4 sw v1 v2)  : ng_Ev G md_X5_fullSlots 32 [some (.ref 0), some (.int v1), some (.int v2)] [] (hn C off dear proved Dg dw nw J bef mov nxt chn tol tw nu sw ss giv sE P pn) (K_X5_fullSlots hn C off dear proved Dg dw nw J bef mov nxt chn tol tw nu sw ss giv sE P pn (f_X5_fullSlots_32 kk4 sw v1 v2)) := by
  unfold s_X5_fullSlots_32 at h
  unfold f_X5_fullSlots_32
  refine ev_iinc (v := v2 + nI 1) (L' := [some (.ref 0), some (.int v1), some (.int (v2 + nI 1))]) dX5_fullSlots_32 rfl (by rfl) rfl ?_
  refine ev_goto (tgt := 4) dX5_fullSlots_35 (by decide) ?_
  exact ev_sub (hk4 C off dear proved Dg dw nw J bef mov nxt chn tol tw nu sw ss giv sE P pn v1 (v2 + nI 1) h) (sub_s (sub_s (sub_s sub_e)))
def f_X5_fullSlots_4  : Nat → (Nat → Int32) → Int32 → Int32 → (Int32)
  | 0, _, _, _ => 0
  | n + 1, sw, v1, v2 => (if (nI 4) ≤ v2 then v1 else (if (f_X5_isSlot v2) = 0 then f_X5_fullSlots_32 (f_X5_fullSlots_4 n) sw v1 v2 else (if (f_X3_isLaid (sw v2.toNatClampNeg)) = 0 then f_X5_fullSlots_32 (f_X5_fullSlots_4 n) sw v1 v2 else f_X5_fullSlots_32 (f_X5_fullSlots_4 n) sw (v1 + nI 1) v2)))
def s_X5_fullSlots_4  : Nat → (Nat → Int32) → Int32 → Int32 → Prop
  | 0, _, _, _ => False
  | n + 1, sw, v1, v2 => (¬ (nI 4) ≤ v2 → (s_X5_isSlot v2 ∧ (((f_X5_isSlot v2) = 0 → s_X5_fullSlots_32 (s_X5_fullSlots_4 n) sw v1 v2) ∧ (¬ (f_X5_isSlot v2) = 0 → (vp_in v2 4 ∧ (((f_X3_isLaid (sw v2.toNatClampNeg)) = 0 → s_X5_fullSlots_32 (s_X5_fullSlots_4 n) sw v1 v2) ∧ (¬ (f_X3_isLaid (sw v2.toNatClampNeg)) = 0 → s_X5_fullSlots_32 (s_X5_fullSlots_4 n) sw (v1 + nI 1) v2)))))))
set_option maxRecDepth 100000 in
set_option maxHeartbeats 4000000 in
theorem e_X5_fullSlots_4 {G : ng_GG} {hn : (Nat → Int32) → (Nat → Int32) → (Nat → Int32) → (Nat → Int32) → (Nat → Int32) → (Nat → Int32) → (Nat → Int32) → (Nat → Int32) → (Nat → Int32) → (Nat → Int32) → (Nat → Int32) → (Nat → Int32) → (Nat → Int32) → (Nat → Int32) → (Nat → Nat → Int64) → (Nat → Int32) → (Nat → Int32) → (Nat → Int32) → Int32 → (Nat → Nat → Int32) → Nat → ng_AM}  (V : ng_NL hn )  : ∀ (n : Nat) (C : Nat → Int32) (off : Nat → Int32) (dear : Nat → Int32) (proved : Nat → Int32) (Dg : Nat → Int32) (dw : Nat → Int32) (nw : Nat → Int32) (J : Nat → Int32) (bef : Nat → Int32) (mov : Nat → Int32) (nxt : Nat → Int32) (chn : Nat → Int32) (tol : Nat → Int32) (tw : Nat → Int32) (nu : Nat → Nat → Int64) (sw : Nat → Int32) (ss : Nat → Int32) (giv : Nat → Int32) (sE : Int32) (P : Nat → Nat → Int32) (pn : Nat) (v1 : Int32) (v2 : Int32), s_X5_fullSlots_4  n sw v1 v2 → ng_Ev G md_X5_fullSlots 4 [some (.ref 0), some (.int v1), some (.int v2)] [] (hn C off dear proved Dg dw nw J bef mov nxt chn tol tw nu sw ss giv sE P pn) (K_X5_fullSlots hn C off dear proved Dg dw nw J bef mov nxt chn tol tw nu sw ss giv sE P pn (f_X5_fullSlots_4  n sw v1 v2)) := by
  intro n
  induction n with
  | zero => intro C off dear proved Dg dw nw J bef mov nxt chn tol tw nu sw ss giv sE P pn v1 v2 h; exact False.elim h
  | succ n ih =>
    intro C off dear proved Dg dw nw J bef mov nxt chn tol tw nu sw ss giv sE P pn v1 v2 h 
    rw [s_X5_fullSlots_4] at h
    rw [f_X5_fullSlots_4]
    refine ev_iload_n dX5_fullSlots_4 rfl rfl ?_
    refine ev_iconst (v := nI 4) dX5_fullSlots_5 (by decide) ?_
    refine bk_icmp_ge (tgt := 38) dX5_fullSlots_6 (by decide) (fun c6 => ?_) (fun c6 => ?_)
    · refine ev_iload_n dX5_fullSlots_38 rfl rfl ?_
      exact ev_iret rfl rfl dX5_fullSlots_39
    · replace h := h c6
      refine ev_aload_n dX5_fullSlots_9 rfl rfl rfl ?_
      refine ev_iload_n dX5_fullSlots_10 rfl rfl ?_
      have hs11 := h.1
      replace h := h.2
      refine bk_callV (As := [.int v2]) (st := []) (st2 := [.int (f_X5_isSlot v2)]) (M2 := hn C off dear proved Dg dw nw J bef mov nxt chn tol tw nu sw ss giv sE P pn) ok_X5_isSlot lk_RX5_243 (ng_rok.of rfl rfl) (NL_g0 V) rfl rfl rfl rfl rfl rfl dX5_fullSlots_11 (m_X5_isSlot V hs11) rfl rfl ?_
      refine bk_if_eq (tgt := 32) dX5_fullSlots_14 (by decide) (fun c14 => ?_) (fun c14 => ?_)
      · replace h := h.1 c14
        exact ev_sub (e_X5_fullSlots_32 V ih h) (sub_s (sub_s (sub_s sub_e)))
      · replace h := h.2 c14
        refine ev_aload_n dX5_fullSlots_17 rfl rfl rfl ?_
        refine ev_get 5 4 fl_RX5_43 (NL_g0 V) rfl dX5_fullSlots_18 ?_
        refine ev_iload_n dX5_fullSlots_21 rfl rfl ?_
        have hi22 := h.1
        replace h := h.2
        refine ev_slot (NL_g18 V) hi22 dX5_fullSlots_22 ?_
        refine bk_callV (As := []) (st := []) (st2 := [.int (f_X3_isLaid (sw v2.toNatClampNeg))]) (M2 := hn C off dear proved Dg dw nw J bef mov nxt chn tol tw nu sw ss giv sE P pn) ok_X3_isLaid lk_RX5_250 (ng_rok.of rfl rfl) (NL_gs V (ng_slt hi22)) rfl rfl rfl rfl rfl rfl dX5_fullSlots_23 (m_X3_isLaid (NL_RT V (ng_slt hi22)) trivial) rfl rfl ?_
        refine bk_if_eq (tgt := 32) dX5_fullSlots_26 (by decide) (fun c26 => ?_) (fun c26 => ?_)
        · replace h := h.1 c26
          exact ev_sub (e_X5_fullSlots_32 V ih h) (sub_s (sub_s (sub_s sub_e)))
        · replace h := h.2 c26
          refine ev_iinc (v := v1 + nI 1) (L' := [some (.ref 0), some (.int (v1 + nI 1)), some (.int v2)]) dX5_fullSlots_29 rfl (by rfl) rfl ?_
          exact ev_sub (e_X5_fullSlots_32 V ih h) (sub_s (sub_s (sub_s sub_e)))
def f_X5_fullSlots  (sw : Nat → Int32)  : Int32 := f_X5_fullSlots_4 ng_F sw (nI 0) (nI 0)
def s_X5_fullSlots  (sw : Nat → Int32)  : Prop := s_X5_fullSlots_4 ng_F sw (nI 0) (nI 0)
set_option maxRecDepth 100000 in
set_option maxHeartbeats 4000000 in
theorem e_X5_fullSlots {G : ng_GG} {hn : (Nat → Int32) → (Nat → Int32) → (Nat → Int32) → (Nat → Int32) → (Nat → Int32) → (Nat → Int32) → (Nat → Int32) → (Nat → Int32) → (Nat → Int32) → (Nat → Int32) → (Nat → Int32) → (Nat → Int32) → (Nat → Int32) → (Nat → Int32) → (Nat → Nat → Int64) → (Nat → Int32) → (Nat → Int32) → (Nat → Int32) → Int32 → (Nat → Nat → Int32) → Nat → ng_AM}  (V : ng_NL hn ) {C : Nat → Int32} {off : Nat → Int32} {dear : Nat → Int32} {proved : Nat → Int32} {Dg : Nat → Int32} {dw : Nat → Int32} {nw : Nat → Int32} {J : Nat → Int32} {bef : Nat → Int32} {mov : Nat → Int32} {nxt : Nat → Int32} {chn : Nat → Int32} {tol : Nat → Int32} {tw : Nat → Int32} {nu : Nat → Nat → Int64} {sw : Nat → Int32} {ss : Nat → Int32} {giv : Nat → Int32} {sE : Int32} {P : Nat → Nat → Int32} {pn : Nat}   (h : s_X5_fullSlots  sw)  : ng_Ev G md_X5_fullSlots 0 [some (.ref 0), none, none] [] (hn C off dear proved Dg dw nw J bef mov nxt chn tol tw nu sw ss giv sE P pn) (K_X5_fullSlots hn C off dear proved Dg dw nw J bef mov nxt chn tol tw nu sw ss giv sE P pn (f_X5_fullSlots  sw)) := by
  unfold s_X5_fullSlots at h
  unfold f_X5_fullSlots
  refine ev_iconst (v := nI 0) dX5_fullSlots_0 (by decide) ?_
  refine ev_istore_n (L' := [some (.ref 0), some (.int (nI 0)), none]) dX5_fullSlots_1 rfl (ng_lt rfl) rfl ?_
  refine ev_iconst (v := nI 0) dX5_fullSlots_2 (by decide) ?_
  refine ev_istore_n (L' := [some (.ref 0), some (.int (nI 0)), some (.int (nI 0))]) dX5_fullSlots_3 rfl (ng_lt rfl) rfl ?_
  exact ev_sub (e_X5_fullSlots_4 V ng_F C off dear proved Dg dw nw J bef mov nxt chn tol tw nu sw ss giv sE P pn (nI 0) (nI 0) h) (sub_s (sub_s (sub_s sub_e)))
theorem m_X5_fullSlots {G : ng_GG} {hn : (Nat → Int32) → (Nat → Int32) → (Nat → Int32) → (Nat → Int32) → (Nat → Int32) → (Nat → Int32) → (Nat → Int32) → (Nat → Int32) → (Nat → Int32) → (Nat → Int32) → (Nat → Int32) → (Nat → Int32) → (Nat → Int32) → (Nat → Int32) → (Nat → Nat → Int64) → (Nat → Int32) → (Nat → Int32) → (Nat → Int32) → Int32 → (Nat → Nat → Int32) → Nat → ng_AM}  (V : ng_NL hn ) {C : Nat → Int32} {off : Nat → Int32} {dear : Nat → Int32} {proved : Nat → Int32} {Dg : Nat → Int32} {dw : Nat → Int32} {nw : Nat → Int32} {J : Nat → Int32} {bef : Nat → Int32} {mov : Nat → Int32} {nxt : Nat → Int32} {chn : Nat → Int32} {tol : Nat → Int32} {tw : Nat → Int32} {nu : Nat → Nat → Int64} {sw : Nat → Int32} {ss : Nat → Int32} {giv : Nat → Int32} {sE : Int32} {P : Nat → Nat → Int32} {pn : Nat}  (h : s_X5_fullSlots sw)  : ng_Ev G md_X5_fullSlots 0 (ng_en 3 [.ref 0]) [] (hn C off dear proved Dg dw nw J bef mov nxt chn tol tw nu sw ss giv sE P pn) (K_X5_fullSlots hn C off dear proved Dg dw nw J bef mov nxt chn tol tw nu sw ss giv sE P pn (f_X5_fullSlots sw)) := e_X5_fullSlots V h 
def K_X5_terms (hn : (Nat → Int32) → (Nat → Int32) → (Nat → Int32) → (Nat → Int32) → (Nat → Int32) → (Nat → Int32) → (Nat → Int32) → (Nat → Int32) → (Nat → Int32) → (Nat → Int32) → (Nat → Int32) → (Nat → Int32) → (Nat → Int32) → (Nat → Int32) → (Nat → Nat → Int64) → (Nat → Int32) → (Nat → Int32) → (Nat → Int32) → Int32 → (Nat → Nat → Int32) → Nat → ng_AM) (off : Nat → Int32) (dear : Nat → Int32) (proved : Nat → Int32) (Dg : Nat → Int32) (dw : Nat → Int32) (nw : Nat → Int32) (J : Nat → Int32) (bef : Nat → Int32) (mov : Nat → Int32) (nxt : Nat → Int32) (chn : Nat → Int32) (tol : Nat → Int32) (tw : Nat → Int32) (nu : Nat → Nat → Int64) (sw : Nat → Int32) (ss : Nat → Int32) (giv : Nat → Int32) (sE : Int32) (P : Nat → Nat → Int32) (pn : Nat) (r : (Nat → Int32) × Int32) : ng_RR := (some (.int (r.2)), hn (r.1) off dear proved Dg dw nw J bef mov nxt chn tol tw nu sw ss giv sE P pn)
def f_X5_terms_78  (C : Nat → Int32) (v1 : Int32) (v2 : Int32) (v3 : Int32) (v4 : Int32) (v5 : Int32) (v6 : Int32) (v7 : Int32) (v8 : Int32) (t0 : Int32) : (Nat → Int32) × Int32 := (if v8 = 0 then (C, nI 0) else (if t0 = 0 then (C, nI 0) else (if (f_X5_within v7 (nI 0) (nI 1000)) = 0 then (C, nI 0) else ((upd (upd (upd (upd (upd (upd (upd C 0 v1) 1 v2) 2 v3) 3 v4) 4 v5) 5 v6) 6 v7), nI 1))))
def s_X5_terms_78  (C : Nat → Int32) (v1 : Int32) (v2 : Int32) (v3 : Int32) (v4 : Int32) (v5 : Int32) (v6 : Int32) (v7 : Int32) (v8 : Int32) (t0 : Int32) : Prop := True
set_option maxRecDepth 100000 in
set_option maxHeartbeats 4000000 in
theorem e_X5_terms_78 {G : ng_GG} {hn : (Nat → Int32) → (Nat → Int32) → (Nat → Int32) → (Nat → Int32) → (Nat → Int32) → (Nat → Int32) → (Nat → Int32) → (Nat → Int32) → (Nat → Int32) → (Nat → Int32) → (Nat → Int32) → (Nat → Int32) → (Nat → Int32) → (Nat → Int32) → (Nat → Nat → Int64) → (Nat → Int32) → (Nat → Int32) → (Nat → Int32) → Int32 → (Nat → Nat → Int32) → Nat → ng_AM}  (V : ng_NL hn ) {C : Nat → Int32} {off : Nat → Int32} {dear : Nat → Int32} {proved : Nat → Int32} {Dg : Nat → Int32} {dw : Nat → Int32} {nw : Nat → Int32} {J : Nat → Int32} {bef : Nat → Int32} {mov : Nat → Int32} {nxt : Nat → Int32} {chn : Nat → Int32} {tol : Nat → Int32} {tw : Nat → Int32} {nu : Nat → Nat → Int64} {sw : Nat → Int32} {ss : Nat → Int32} {giv : Nat → Int32} {sE : Int32} {P : Nat → Nat → Int32} {pn : Nat}  {v1 : Int32} {v2 : Int32} {v3 : Int32} {v4 : Int32} {v5 : Int32} {v6 : Int32} {v7 : Int32} {v8 : Int32} {t0 : Int32} (h : s_X5_terms_78  C v1 v2 v3 v4 v5 v6 v7 v8 t0)  : ng_Ev G md_X5_terms 78 [some (.ref 0), some (.int v1), some (.int v2), some (.int v3), some (.int v4), some (.int v5), some (.int v6), some (.int v7), some (.int v8), none] [.int t0] (hn C off dear proved Dg dw nw J bef mov nxt chn tol tw nu sw ss giv sE P pn) (K_X5_terms hn off dear proved Dg dw nw J bef mov nxt chn tol tw nu sw ss giv sE P pn (f_X5_terms_78  C v1 v2 v3 v4 v5 v6 v7 v8 t0)) := by
  unfold s_X5_terms_78 at h
  unfold f_X5_terms_78
  refine ev_istore (L' := [some (.ref 0), some (.int v1), some (.int v2), some (.int v3), some (.int v4), some (.int v5), some (.int v6), some (.int v7), some (.int v8), some (.int t0)]) dX5_terms_78 (ng_lt rfl) rfl ?_
  refine ev_iload dX5_terms_80 rfl ?_
  refine bk_if_eq (tgt := 102) dX5_terms_82 (by decide) (fun c82 => ?_) (fun c82 => ?_)
  · refine ev_iconst (v := nI 0) dX5_terms_102 (by decide) ?_
    exact ev_iret rfl (by decide) dX5_terms_103
  · refine ev_iload dX5_terms_85 rfl ?_
    refine bk_if_eq (tgt := 102) dX5_terms_87 (by decide) (fun c87 => ?_) (fun c87 => ?_)
    · refine ev_iconst (v := nI 0) dX5_terms_102 (by decide) ?_
      exact ev_iret rfl (by decide) dX5_terms_103
    · refine ev_iload dX5_terms_90 rfl ?_
      refine ev_iconst (v := nI 0) dX5_terms_92 (by decide) ?_
      refine ev_sipush (v := nI 1000) dX5_terms_93 (by decide) ?_
      refine bk_callS (As := [.int v7, .int (nI 0), .int (nI 1000)]) (st := []) (st2 := [.int (f_X5_within v7 (nI 0) (nI 1000))]) (M2 := hn C off dear proved Dg dw nw J bef mov nxt chn tol tw nu sw ss giv sE P pn) ok_X5_within lk_RX5_56 (ng_rok.of rfl rfl) rfl rfl rfl rfl dX5_terms_96 (m_X5_within trivial) rfl rfl ?_
      refine bk_if_ne (tgt := 104) dX5_terms_99 (by decide) (fun c99 => ?_) (fun c99 => ?_)
      · refine ev_aload_n dX5_terms_104 rfl rfl rfl ?_
        refine ev_get 5 0 fl_RX5_10 (NL_g0 V) rfl dX5_terms_105 ?_
        refine ev_iload_n dX5_terms_108 rfl rfl ?_
        refine ev_put 2 0 fs_RX5_60 (NL_g1 V) (ng_lt rfl) rfl (NL_s1 V (C' := (upd C 0 v1))) (ng_fit_i _) dX5_terms_109 ?_
        refine ev_aload_n dX5_terms_112 rfl rfl rfl ?_
        refine ev_get 5 0 fl_RX5_10 (NL_g0 V) rfl dX5_terms_113 ?_
        refine ev_iload_n dX5_terms_116 rfl rfl ?_
        refine ev_put 2 1 fs_RX5_63 (NL_g1 V) (ng_lt rfl) rfl (NL_s1 V (C' := (upd (upd C 0 v1) 1 v2))) (ng_fit_i _) dX5_terms_117 ?_
        refine ev_aload_n dX5_terms_120 rfl rfl rfl ?_
        refine ev_get 5 0 fl_RX5_10 (NL_g0 V) rfl dX5_terms_121 ?_
        refine ev_iload_n dX5_terms_124 rfl rfl ?_
        refine ev_put 2 2 fs_RX5_66 (NL_g1 V) (ng_lt rfl) rfl (NL_s1 V (C' := (upd (upd (upd C 0 v1) 1 v2) 2 v3))) (ng_fit_i _) dX5_terms_125 ?_
        refine ev_aload_n dX5_terms_128 rfl rfl rfl ?_
        refine ev_get 5 0 fl_RX5_10 (NL_g0 V) rfl dX5_terms_129 ?_
        refine ev_iload dX5_terms_132 rfl ?_
        refine ev_put 2 3 fs_RX5_69 (NL_g1 V) (ng_lt rfl) rfl (NL_s1 V (C' := (upd (upd (upd (upd C 0 v1) 1 v2) 2 v3) 3 v4))) (ng_fit_i _) dX5_terms_134 ?_
        refine ev_aload_n dX5_terms_137 rfl rfl rfl ?_
        refine ev_get 5 0 fl_RX5_10 (NL_g0 V) rfl dX5_terms_138 ?_
        refine ev_iload dX5_terms_141 rfl ?_
        refine ev_put 2 4 fs_RX5_72 (NL_g1 V) (ng_lt rfl) rfl (NL_s1 V (C' := (upd (upd (upd (upd (upd C 0 v1) 1 v2) 2 v3) 3 v4) 4 v5))) (ng_fit_i _) dX5_terms_143 ?_
        refine ev_aload_n dX5_terms_146 rfl rfl rfl ?_
        refine ev_get 5 0 fl_RX5_10 (NL_g0 V) rfl dX5_terms_147 ?_
        refine ev_iload dX5_terms_150 rfl ?_
        refine ev_put 2 5 fs_RX5_75 (NL_g1 V) (ng_lt rfl) rfl (NL_s1 V (C' := (upd (upd (upd (upd (upd (upd C 0 v1) 1 v2) 2 v3) 3 v4) 4 v5) 5 v6))) (ng_fit_i _) dX5_terms_152 ?_
        refine ev_aload_n dX5_terms_155 rfl rfl rfl ?_
        refine ev_get 5 0 fl_RX5_10 (NL_g0 V) rfl dX5_terms_156 ?_
        refine ev_iload dX5_terms_159 rfl ?_
        refine ev_put 2 6 fs_RX5_78 (NL_g1 V) (ng_lt rfl) rfl (NL_s1 V (C' := (upd (upd (upd (upd (upd (upd (upd C 0 v1) 1 v2) 2 v3) 3 v4) 4 v5) 5 v6) 6 v7))) (ng_fit_i _) dX5_terms_161 ?_
        refine ev_iconst (v := nI 1) dX5_terms_164 (by decide) ?_
        exact ev_iret rfl (by decide) dX5_terms_165
      · refine ev_iconst (v := nI 0) dX5_terms_102 (by decide) ?_
        exact ev_iret rfl (by decide) dX5_terms_103
def f_X5_terms_77  (C : Nat → Int32) (v1 : Int32) (v2 : Int32) (v3 : Int32) (v4 : Int32) (v5 : Int32) (v6 : Int32) (v7 : Int32) (v8 : Int32) : (Nat → Int32) × Int32 := f_X5_terms_78 C v1 v2 v3 v4 v5 v6 v7 v8 (nI 0)
def s_X5_terms_77  (C : Nat → Int32) (v1 : Int32) (v2 : Int32) (v3 : Int32) (v4 : Int32) (v5 : Int32) (v6 : Int32) (v7 : Int32) (v8 : Int32) : Prop := s_X5_terms_78 C v1 v2 v3 v4 v5 v6 v7 v8 (nI 0)
set_option maxRecDepth 100000 in
set_option maxHeartbeats 4000000 in
theorem e_X5_terms_77 {G : ng_GG} {hn : (Nat → Int32) → (Nat → Int32) → (Nat → Int32) → (Nat → Int32) → (Nat → Int32) → (Nat → Int32) → (Nat → Int32) → (Nat → Int32) → (Nat → Int32) → (Nat → Int32) → (Nat → Int32) → (Nat → Int32) → (Nat → Int32) → (Nat → Int32) → (Nat → Nat → Int64) → (Nat → Int32) → (Nat → Int32) → (Nat → Int32) → Int32 → (Nat → Nat → Int32) → Nat → ng_AM}  (V : ng_NL hn ) {C : Nat → Int32} {off : Nat → Int32} {dear : Nat → Int32} {proved : Nat → Int32} {Dg : Nat → Int32} {dw : Nat → Int32} {nw : Nat → Int32} {J : Nat → Int32} {bef : Nat → Int32} {mov : Nat → Int32} {nxt : Nat → Int32} {chn : Nat → Int32} {tol : Nat → Int32} {tw : Nat → Int32} {nu : Nat → Nat → Int64} {sw : Nat → Int32} {ss : Nat → Int32} {giv : Nat → Int32} {sE : Int32} {P : Nat → Nat → Int32} {pn : Nat}  {v1 : Int32} {v2 : Int32} {v3 : Int32} {v4 : Int32} {v5 : Int32} {v6 : Int32} {v7 : Int32} {v8 : Int32} (h : s_X5_terms_77  C v1 v2 v3 v4 v5 v6 v7 v8)  : ng_Ev G md_X5_terms 77 [some (.ref 0), some (.int v1), some (.int v2), some (.int v3), some (.int v4), some (.int v5), some (.int v6), some (.int v7), some (.int v8), none] [] (hn C off dear proved Dg dw nw J bef mov nxt chn tol tw nu sw ss giv sE P pn) (K_X5_terms hn off dear proved Dg dw nw J bef mov nxt chn tol tw nu sw ss giv sE P pn (f_X5_terms_77  C v1 v2 v3 v4 v5 v6 v7 v8)) := by
  unfold s_X5_terms_77 at h
  unfold f_X5_terms_77
  refine ev_iconst (v := nI 0) dX5_terms_77 (by decide) ?_
  exact ev_sub (e_X5_terms_78 V h) (sub_s (sub_s (sub_s (sub_s (sub_s (sub_s (sub_s (sub_s (sub_s (sub_n sub_e))))))))))
def f_X5_terms_37  (C : Nat → Int32) (v1 : Int32) (v2 : Int32) (v3 : Int32) (v4 : Int32) (v5 : Int32) (v6 : Int32) (v7 : Int32) (t0 : Int32) : (Nat → Int32) × Int32 := (if (f_X5_within v4 (nI 1) (nI 100)) = 0 then f_X5_terms_77 C v1 v2 v3 v4 v5 v6 v7 t0 else (if (f_X5_within v5 (nI 0) (nI 1000)) = 0 then f_X5_terms_77 C v1 v2 v3 v4 v5 v6 v7 t0 else (if (f_X5_within v6 (nI 1) (nI 100)) = 0 then f_X5_terms_77 C v1 v2 v3 v4 v5 v6 v7 t0 else f_X5_terms_78 C v1 v2 v3 v4 v5 v6 v7 t0 (nI 1))))
def s_X5_terms_37  (C : Nat → Int32) (v1 : Int32) (v2 : Int32) (v3 : Int32) (v4 : Int32) (v5 : Int32) (v6 : Int32) (v7 : Int32) (t0 : Int32) : Prop := (((f_X5_within v4 (nI 1) (nI 100)) = 0 → s_X5_terms_77 C v1 v2 v3 v4 v5 v6 v7 t0) ∧ (¬ (f_X5_within v4 (nI 1) (nI 100)) = 0 → (((f_X5_within v5 (nI 0) (nI 1000)) = 0 → s_X5_terms_77 C v1 v2 v3 v4 v5 v6 v7 t0) ∧ (¬ (f_X5_within v5 (nI 0) (nI 1000)) = 0 → (((f_X5_within v6 (nI 1) (nI 100)) = 0 → s_X5_terms_77 C v1 v2 v3 v4 v5 v6 v7 t0) ∧ (¬ (f_X5_within v6 (nI 1) (nI 100)) = 0 → s_X5_terms_78 C v1 v2 v3 v4 v5 v6 v7 t0 (nI 1)))))))
set_option maxRecDepth 100000 in
set_option maxHeartbeats 4000000 in
theorem e_X5_terms_37 {G : ng_GG} {hn : (Nat → Int32) → (Nat → Int32) → (Nat → Int32) → (Nat → Int32) → (Nat → Int32) → (Nat → Int32) → (Nat → Int32) → (Nat → Int32) → (Nat → Int32) → (Nat → Int32) → (Nat → Int32) → (Nat → Int32) → (Nat → Int32) → (Nat → Int32) → (Nat → Nat → Int64) → (Nat → Int32) → (Nat → Int32) → (Nat → Int32) → Int32 → (Nat → Nat → Int32) → Nat → ng_AM}  (V : ng_NL hn ) {C : Nat → Int32} {off : Nat → Int32} {dear : Nat → Int32} {proved : Nat → Int32} {Dg : Nat → Int32} {dw : Nat → Int32} {nw : Nat → Int32} {J : Nat → Int32} {bef : Nat → Int32} {mov : Nat → Int32} {nxt : Nat → Int32} {chn : Nat → Int32} {tol : Nat → Int32} {tw : Nat → Int32} {nu : Nat → Nat → Int64} {sw : Nat → Int32} {ss : Nat → Int32} {giv : Nat → Int32} {sE : Int32} {P : Nat → Nat → Int32} {pn : Nat}  {v1 : Int32} {v2 : Int32} {v3 : Int32} {v4 : Int32} {v5 : Int32} {v6 : Int32} {v7 : Int32} {t0 : Int32} (h : s_X5_terms_37  C v1 v2 v3 v4 v5 v6 v7 t0)  : ng_Ev G md_X5_terms 37 [some (.ref 0), some (.int v1), some (.int v2), some (.int v3), some (.int v4), some (.int v5), some (.int v6), some (.int v7), none, none] [.int t0] (hn C off dear proved Dg dw nw J bef mov nxt chn tol tw nu sw ss giv sE P pn) (K_X5_terms hn off dear proved Dg dw nw J bef mov nxt chn tol tw nu sw ss giv sE P pn (f_X5_terms_37  C v1 v2 v3 v4 v5 v6 v7 t0)) := by
  unfold s_X5_terms_37 at h
  unfold f_X5_terms_37
  refine ev_istore (L' := [some (.ref 0), some (.int v1), some (.int v2), some (.int v3), some (.int v4), some (.int v5), some (.int v6), some (.int v7), some (.int t0), none]) dX5_terms_37 (ng_lt rfl) rfl ?_
  refine ev_iload dX5_terms_39 rfl ?_
  refine ev_iconst (v := nI 1) dX5_terms_41 (by decide) ?_
  refine ev_bipush (v := nI 100) dX5_terms_42 (by decide) ?_
  refine bk_callS (As := [.int v4, .int (nI 1), .int (nI 100)]) (st := []) (st2 := [.int (f_X5_within v4 (nI 1) (nI 100))]) (M2 := hn C off dear proved Dg dw nw J bef mov nxt chn tol tw nu sw ss giv sE P pn) ok_X5_within lk_RX5_56 (ng_rok.of rfl rfl) rfl rfl rfl rfl dX5_terms_44 (m_X5_within trivial) rfl rfl ?_
  refine bk_if_eq (tgt := 77) dX5_terms_47 (by decide) (fun c47 => ?_) (fun c47 => ?_)
  · replace h := h.1 c47
    exact ev_sub (e_X5_terms_77 V h) (sub_s (sub_s (sub_s (sub_s (sub_s (sub_s (sub_s (sub_s (sub_s (sub_n sub_e))))))))))
  · replace h := h.2 c47
    refine ev_iload dX5_terms_50 rfl ?_
    refine ev_iconst (v := nI 0) dX5_terms_52 (by decide) ?_
    refine ev_sipush (v := nI 1000) dX5_terms_53 (by decide) ?_
    refine bk_callS (As := [.int v5, .int (nI 0), .int (nI 1000)]) (st := []) (st2 := [.int (f_X5_within v5 (nI 0) (nI 1000))]) (M2 := hn C off dear proved Dg dw nw J bef mov nxt chn tol tw nu sw ss giv sE P pn) ok_X5_within lk_RX5_56 (ng_rok.of rfl rfl) rfl rfl rfl rfl dX5_terms_56 (m_X5_within trivial) rfl rfl ?_
    refine bk_if_eq (tgt := 77) dX5_terms_59 (by decide) (fun c59 => ?_) (fun c59 => ?_)
    · replace h := h.1 c59
      exact ev_sub (e_X5_terms_77 V h) (sub_s (sub_s (sub_s (sub_s (sub_s (sub_s (sub_s (sub_s (sub_s (sub_n sub_e))))))))))
    · replace h := h.2 c59
      refine ev_iload dX5_terms_62 rfl ?_
      refine ev_iconst (v := nI 1) dX5_terms_64 (by decide) ?_
      refine ev_bipush (v := nI 100) dX5_terms_65 (by decide) ?_
      refine bk_callS (As := [.int v6, .int (nI 1), .int (nI 100)]) (st := []) (st2 := [.int (f_X5_within v6 (nI 1) (nI 100))]) (M2 := hn C off dear proved Dg dw nw J bef mov nxt chn tol tw nu sw ss giv sE P pn) ok_X5_within lk_RX5_56 (ng_rok.of rfl rfl) rfl rfl rfl rfl dX5_terms_67 (m_X5_within trivial) rfl rfl ?_
      refine bk_if_eq (tgt := 77) dX5_terms_70 (by decide) (fun c70 => ?_) (fun c70 => ?_)
      · replace h := h.1 c70
        exact ev_sub (e_X5_terms_77 V h) (sub_s (sub_s (sub_s (sub_s (sub_s (sub_s (sub_s (sub_s (sub_s (sub_n sub_e))))))))))
      · replace h := h.2 c70
        refine ev_iconst (v := nI 1) dX5_terms_73 (by decide) ?_
        refine ev_goto (tgt := 78) dX5_terms_74 (by decide) ?_
        exact ev_sub (e_X5_terms_78 V h) (sub_s (sub_s (sub_s (sub_s (sub_s (sub_s (sub_s (sub_s (sub_s (sub_n sub_e))))))))))
def f_X5_terms_36  (C : Nat → Int32) (v1 : Int32) (v2 : Int32) (v3 : Int32) (v4 : Int32) (v5 : Int32) (v6 : Int32) (v7 : Int32) : (Nat → Int32) × Int32 := f_X5_terms_37 C v1 v2 v3 v4 v5 v6 v7 (nI 0)
def s_X5_terms_36  (C : Nat → Int32) (v1 : Int32) (v2 : Int32) (v3 : Int32) (v4 : Int32) (v5 : Int32) (v6 : Int32) (v7 : Int32) : Prop := s_X5_terms_37 C v1 v2 v3 v4 v5 v6 v7 (nI 0)
set_option maxRecDepth 100000 in
set_option maxHeartbeats 4000000 in
theorem e_X5_terms_36 {G : ng_GG} {hn : (Nat → Int32) → (Nat → Int32) → (Nat → Int32) → (Nat → Int32) → (Nat → Int32) → (Nat → Int32) → (Nat → Int32) → (Nat → Int32) → (Nat → Int32) → (Nat → Int32) → (Nat → Int32) → (Nat → Int32) → (Nat → Int32) → (Nat → Int32) → (Nat → Nat → Int64) → (Nat → Int32) → (Nat → Int32) → (Nat → Int32) → Int32 → (Nat → Nat → Int32) → Nat → ng_AM}  (V : ng_NL hn ) {C : Nat → Int32} {off : Nat → Int32} {dear : Nat → Int32} {proved : Nat → Int32} {Dg : Nat → Int32} {dw : Nat → Int32} {nw : Nat → Int32} {J : Nat → Int32} {bef : Nat → Int32} {mov : Nat → Int32} {nxt : Nat → Int32} {chn : Nat → Int32} {tol : Nat → Int32} {tw : Nat → Int32} {nu : Nat → Nat → Int64} {sw : Nat → Int32} {ss : Nat → Int32} {giv : Nat → Int32} {sE : Int32} {P : Nat → Nat → Int32} {pn : Nat}  {v1 : Int32} {v2 : Int32} {v3 : Int32} {v4 : Int32} {v5 : Int32} {v6 : Int32} {v7 : Int32} (h : s_X5_terms_36  C v1 v2 v3 v4 v5 v6 v7)  : ng_Ev G md_X5_terms 36 [some (.ref 0), some (.int v1), some (.int v2), some (.int v3), some (.int v4), some (.int v5), some (.int v6), some (.int v7), none, none] [] (hn C off dear proved Dg dw nw J bef mov nxt chn tol tw nu sw ss giv sE P pn) (K_X5_terms hn off dear proved Dg dw nw J bef mov nxt chn tol tw nu sw ss giv sE P pn (f_X5_terms_36  C v1 v2 v3 v4 v5 v6 v7)) := by
  unfold s_X5_terms_36 at h
  unfold f_X5_terms_36
  refine ev_iconst (v := nI 0) dX5_terms_36 (by decide) ?_
  exact ev_sub (e_X5_terms_37 V h) (sub_s (sub_s (sub_s (sub_s (sub_s (sub_s (sub_s (sub_s (sub_n (sub_n sub_e))))))))))
def f_X5_terms  (C : Nat → Int32) (v1 : Int32) (v2 : Int32) (v3 : Int32) (v4 : Int32) (v5 : Int32) (v6 : Int32) (v7 : Int32) : (Nat → Int32) × Int32 := (if (f_X5_within v1 (nI 1) (nI 1000)) = 0 then f_X5_terms_36 C v1 v2 v3 v4 v5 v6 v7 else (if (f_X5_within v2 (nI 1) (nI 10000)) = 0 then f_X5_terms_36 C v1 v2 v3 v4 v5 v6 v7 else (if (f_X5_within v3 (nI 0) (nI 20)) = 0 then f_X5_terms_36 C v1 v2 v3 v4 v5 v6 v7 else f_X5_terms_37 C v1 v2 v3 v4 v5 v6 v7 (nI 1))))
def s_X5_terms  (C : Nat → Int32) (v1 : Int32) (v2 : Int32) (v3 : Int32) (v4 : Int32) (v5 : Int32) (v6 : Int32) (v7 : Int32) : Prop := (((f_X5_within v1 (nI 1) (nI 1000)) = 0 → s_X5_terms_36 C v1 v2 v3 v4 v5 v6 v7) ∧ (¬ (f_X5_within v1 (nI 1) (nI 1000)) = 0 → (((f_X5_within v2 (nI 1) (nI 10000)) = 0 → s_X5_terms_36 C v1 v2 v3 v4 v5 v6 v7) ∧ (¬ (f_X5_within v2 (nI 1) (nI 10000)) = 0 → (((f_X5_within v3 (nI 0) (nI 20)) = 0 → s_X5_terms_36 C v1 v2 v3 v4 v5 v6 v7) ∧ (¬ (f_X5_within v3 (nI 0) (nI 20)) = 0 → s_X5_terms_37 C v1 v2 v3 v4 v5 v6 v7 (nI 1)))))))
set_option maxRecDepth 100000 in
set_option maxHeartbeats 4000000 in
theorem e_X5_terms {G : ng_GG} {hn : (Nat → Int32) → (Nat → Int32) → (Nat → Int32) → (Nat → Int32) → (Nat → Int32) → (Nat → Int32) → (Nat → Int32) → (Nat → Int32) → (Nat → Int32) → (Nat → Int32) → (Nat → Int32) → (Nat → Int32) → (Nat → Int32) → (Nat → Int32) → (Nat → Nat → Int64) → (Nat → Int32) → (Nat → Int32) → (Nat → Int32) → Int32 → (Nat → Nat → Int32) → Nat → ng_AM}  (V : ng_NL hn ) {C : Nat → Int32} {off : Nat → Int32} {dear : Nat → Int32} {proved : Nat → Int32} {Dg : Nat → Int32} {dw : Nat → Int32} {nw : Nat → Int32} {J : Nat → Int32} {bef : Nat → Int32} {mov : Nat → Int32} {nxt : Nat → Int32} {chn : Nat → Int32} {tol : Nat → Int32} {tw : Nat → Int32} {nu : Nat → Nat → Int64} {sw : Nat → Int32} {ss : Nat → Int32} {giv : Nat → Int32} {sE : Int32} {P : Nat → Nat → Int32} {pn : Nat}  {v1 : Int32} {v2 : Int32} {v3 : Int32} {v4 : Int32} {v5 : Int32} {v6 : Int32} {v7 : Int32} (h : s_X5_terms  C v1 v2 v3 v4 v5 v6 v7)  : ng_Ev G md_X5_terms 0 [some (.ref 0), some (.int v1), some (.int v2), some (.int v3), some (.int v4), some (.int v5), some (.int v6), some (.int v7), none, none] [] (hn C off dear proved Dg dw nw J bef mov nxt chn tol tw nu sw ss giv sE P pn) (K_X5_terms hn off dear proved Dg dw nw J bef mov nxt chn tol tw nu sw ss giv sE P pn (f_X5_terms  C v1 v2 v3 v4 v5 v6 v7)) := by
  unfold s_X5_terms at h
  unfold f_X5_terms
  refine ev_iload_n dX5_terms_0 rfl rfl ?_
  refine ev_iconst (v := nI 1) dX5_terms_1 (by decide) ?_
  refine ev_sipush (v := nI 1000) dX5_terms_2 (by decide) ?_
  refine bk_callS (As := [.int v1, .int (nI 1), .int (nI 1000)]) (st := []) (st2 := [.int (f_X5_within v1 (nI 1) (nI 1000))]) (M2 := hn C off dear proved Dg dw nw J bef mov nxt chn tol tw nu sw ss giv sE P pn) ok_X5_within lk_RX5_56 (ng_rok.of rfl rfl) rfl rfl rfl rfl dX5_terms_5 (m_X5_within trivial) rfl rfl ?_
  refine bk_if_eq (tgt := 36) dX5_terms_8 (by decide) (fun c8 => ?_) (fun c8 => ?_)
  · replace h := h.1 c8
    exact ev_sub (e_X5_terms_36 V h) (sub_s (sub_s (sub_s (sub_s (sub_s (sub_s (sub_s (sub_s (sub_n (sub_n sub_e))))))))))
  · replace h := h.2 c8
    refine ev_iload_n dX5_terms_11 rfl rfl ?_
    refine ev_iconst (v := nI 1) dX5_terms_12 (by decide) ?_
    refine ev_sipush (v := nI 10000) dX5_terms_13 (by decide) ?_
    refine bk_callS (As := [.int v2, .int (nI 1), .int (nI 10000)]) (st := []) (st2 := [.int (f_X5_within v2 (nI 1) (nI 10000))]) (M2 := hn C off dear proved Dg dw nw J bef mov nxt chn tol tw nu sw ss giv sE P pn) ok_X5_within lk_RX5_56 (ng_rok.of rfl rfl) rfl rfl rfl rfl dX5_terms_16 (m_X5_within trivial) rfl rfl ?_
    refine bk_if_eq (tgt := 36) dX5_terms_19 (by decide) (fun c19 => ?_) (fun c19 => ?_)
    · replace h := h.1 c19
      exact ev_sub (e_X5_terms_36 V h) (sub_s (sub_s (sub_s (sub_s (sub_s (sub_s (sub_s (sub_s (sub_n (sub_n sub_e))))))))))
    · replace h := h.2 c19
      refine ev_iload_n dX5_terms_22 rfl rfl ?_
      refine ev_iconst (v := nI 0) dX5_terms_23 (by decide) ?_
      refine ev_bipush (v := nI 20) dX5_terms_24 (by decide) ?_
      refine bk_callS (As := [.int v3, .int (nI 0), .int (nI 20)]) (st := []) (st2 := [.int (f_X5_within v3 (nI 0) (nI 20))]) (M2 := hn C off dear proved Dg dw nw J bef mov nxt chn tol tw nu sw ss giv sE P pn) ok_X5_within lk_RX5_56 (ng_rok.of rfl rfl) rfl rfl rfl rfl dX5_terms_26 (m_X5_within trivial) rfl rfl ?_
      refine bk_if_eq (tgt := 36) dX5_terms_29 (by decide) (fun c29 => ?_) (fun c29 => ?_)
      · replace h := h.1 c29
        exact ev_sub (e_X5_terms_36 V h) (sub_s (sub_s (sub_s (sub_s (sub_s (sub_s (sub_s (sub_s (sub_n (sub_n sub_e))))))))))
      · replace h := h.2 c29
        refine ev_iconst (v := nI 1) dX5_terms_32 (by decide) ?_
        refine ev_goto (tgt := 37) dX5_terms_33 (by decide) ?_
        exact ev_sub (e_X5_terms_37 V h) (sub_s (sub_s (sub_s (sub_s (sub_s (sub_s (sub_s (sub_s (sub_n (sub_n sub_e))))))))))
theorem m_X5_terms {G : ng_GG} {hn : (Nat → Int32) → (Nat → Int32) → (Nat → Int32) → (Nat → Int32) → (Nat → Int32) → (Nat → Int32) → (Nat → Int32) → (Nat → Int32) → (Nat → Int32) → (Nat → Int32) → (Nat → Int32) → (Nat → Int32) → (Nat → Int32) → (Nat → Int32) → (Nat → Nat → Int64) → (Nat → Int32) → (Nat → Int32) → (Nat → Int32) → Int32 → (Nat → Nat → Int32) → Nat → ng_AM}  (V : ng_NL hn ) {C : Nat → Int32} {off : Nat → Int32} {dear : Nat → Int32} {proved : Nat → Int32} {Dg : Nat → Int32} {dw : Nat → Int32} {nw : Nat → Int32} {J : Nat → Int32} {bef : Nat → Int32} {mov : Nat → Int32} {nxt : Nat → Int32} {chn : Nat → Int32} {tol : Nat → Int32} {tw : Nat → Int32} {nu : Nat → Nat → Int64} {sw : Nat → Int32} {ss : Nat → Int32} {giv : Nat → Int32} {sE : Int32} {P : Nat → Nat → Int32} {pn : Nat} {v1 : Int32} {v2 : Int32} {v3 : Int32} {v4 : Int32} {v5 : Int32} {v6 : Int32} {v7 : Int32} (h : s_X5_terms C v1 v2 v3 v4 v5 v6 v7)  : ng_Ev G md_X5_terms 0 (ng_en 10 [.ref 0, .int v1, .int v2, .int v3, .int v4, .int v5, .int v6, .int v7]) [] (hn C off dear proved Dg dw nw J bef mov nxt chn tol tw nu sw ss giv sE P pn) (K_X5_terms hn off dear proved Dg dw nw J bef mov nxt chn tol tw nu sw ss giv sE P pn (f_X5_terms C v1 v2 v3 v4 v5 v6 v7)) := e_X5_terms V h 
def K_X5_checks (hn : (Nat → Int32) → (Nat → Int32) → (Nat → Int32) → (Nat → Int32) → (Nat → Int32) → (Nat → Int32) → (Nat → Int32) → (Nat → Int32) → (Nat → Int32) → (Nat → Int32) → (Nat → Int32) → (Nat → Int32) → (Nat → Int32) → (Nat → Int32) → (Nat → Nat → Int64) → (Nat → Int32) → (Nat → Int32) → (Nat → Int32) → Int32 → (Nat → Nat → Int32) → Nat → ng_AM) (off : Nat → Int32) (dear : Nat → Int32) (proved : Nat → Int32) (Dg : Nat → Int32) (dw : Nat → Int32) (nw : Nat → Int32) (J : Nat → Int32) (bef : Nat → Int32) (mov : Nat → Int32) (nxt : Nat → Int32) (chn : Nat → Int32) (tol : Nat → Int32) (tw : Nat → Int32) (nu : Nat → Nat → Int64) (sw : Nat → Int32) (ss : Nat → Int32) (giv : Nat → Int32) (sE : Int32) (P : Nat → Nat → Int32) (pn : Nat) (r : (Nat → Int32) × Int32) : ng_RR := (some (.int (r.2)), hn (r.1) off dear proved Dg dw nw J bef mov nxt chn tol tw nu sw ss giv sE P pn)
def f_X5_checks  (C : Nat → Int32) (v1 : Int32) : (Nat → Int32) × Int32 := (if (f_X5_within v1 (nI 0) (nI 255)) = 0 then (C, (-2)) else ((upd C 7 v1), (C 7)))
def s_X5_checks  (C : Nat → Int32) (v1 : Int32) : Prop := True
set_option maxRecDepth 100000 in
set_option maxHeartbeats 4000000 in
theorem e_X5_checks {G : ng_GG} {hn : (Nat → Int32) → (Nat → Int32) → (Nat → Int32) → (Nat → Int32) → (Nat → Int32) → (Nat → Int32) → (Nat → Int32) → (Nat → Int32) → (Nat → Int32) → (Nat → Int32) → (Nat → Int32) → (Nat → Int32) → (Nat → Int32) → (Nat → Int32) → (Nat → Nat → Int64) → (Nat → Int32) → (Nat → Int32) → (Nat → Int32) → Int32 → (Nat → Nat → Int32) → Nat → ng_AM}  (V : ng_NL hn ) {C : Nat → Int32} {off : Nat → Int32} {dear : Nat → Int32} {proved : Nat → Int32} {Dg : Nat → Int32} {dw : Nat → Int32} {nw : Nat → Int32} {J : Nat → Int32} {bef : Nat → Int32} {mov : Nat → Int32} {nxt : Nat → Int32} {chn : Nat → Int32} {tol : Nat → Int32} {tw : Nat → Int32} {nu : Nat → Nat → Int64} {sw : Nat → Int32} {ss : Nat → Int32} {giv : Nat → Int32} {sE : Int32} {P : Nat → Nat → Int32} {pn : Nat}  {v1 : Int32} (h : s_X5_checks  C v1)  : ng_Ev G md_X5_checks 0 [some (.ref 0), some (.int v1), none] [] (hn C off dear proved Dg dw nw J bef mov nxt chn tol tw nu sw ss giv sE P pn) (K_X5_checks hn off dear proved Dg dw nw J bef mov nxt chn tol tw nu sw ss giv sE P pn (f_X5_checks  C v1)) := by
  unfold s_X5_checks at h
  unfold f_X5_checks
  refine ev_iload_n dX5_checks_0 rfl rfl ?_
  refine ev_iconst (v := nI 0) dX5_checks_1 (by decide) ?_
  refine ev_sipush (v := nI 255) dX5_checks_2 (by decide) ?_
  refine bk_callS (As := [.int v1, .int (nI 0), .int (nI 255)]) (st := []) (st2 := [.int (f_X5_within v1 (nI 0) (nI 255))]) (M2 := hn C off dear proved Dg dw nw J bef mov nxt chn tol tw nu sw ss giv sE P pn) ok_X5_within lk_RX5_56 (ng_rok.of rfl rfl) rfl rfl rfl rfl dX5_checks_5 (m_X5_within trivial) rfl rfl ?_
  refine bk_if_ne (tgt := 14) dX5_checks_8 (by decide) (fun c8 => ?_) (fun c8 => ?_)
  · refine ev_aload_n dX5_checks_14 rfl rfl rfl ?_
    refine ev_get 5 0 fl_RX5_10 (NL_g0 V) rfl dX5_checks_15 ?_
    refine ev_get 2 7 fl_RX5_81 (NL_g1 V) rfl dX5_checks_18 ?_
    refine ev_istore_n (L' := [some (.ref 0), some (.int v1), some (.int (C 7))]) dX5_checks_21 rfl (ng_lt rfl) rfl ?_
    refine ev_aload_n dX5_checks_22 rfl rfl rfl ?_
    refine ev_get 5 0 fl_RX5_10 (NL_g0 V) rfl dX5_checks_23 ?_
    refine ev_iload_n dX5_checks_26 rfl rfl ?_
    refine ev_put 2 7 fs_RX5_81 (NL_g1 V) (ng_lt rfl) rfl (NL_s1 V (C' := (upd C 7 v1))) (ng_fit_i _) dX5_checks_27 ?_
    refine ev_iload_n dX5_checks_30 rfl rfl ?_
    exact ev_iret rfl rfl dX5_checks_31
  · refine ev_bipush (v := (-2)) dX5_checks_11 (by decide) ?_
    exact ev_iret rfl rfl dX5_checks_13
theorem m_X5_checks {G : ng_GG} {hn : (Nat → Int32) → (Nat → Int32) → (Nat → Int32) → (Nat → Int32) → (Nat → Int32) → (Nat → Int32) → (Nat → Int32) → (Nat → Int32) → (Nat → Int32) → (Nat → Int32) → (Nat → Int32) → (Nat → Int32) → (Nat → Int32) → (Nat → Int32) → (Nat → Nat → Int64) → (Nat → Int32) → (Nat → Int32) → (Nat → Int32) → Int32 → (Nat → Nat → Int32) → Nat → ng_AM}  (V : ng_NL hn ) {C : Nat → Int32} {off : Nat → Int32} {dear : Nat → Int32} {proved : Nat → Int32} {Dg : Nat → Int32} {dw : Nat → Int32} {nw : Nat → Int32} {J : Nat → Int32} {bef : Nat → Int32} {mov : Nat → Int32} {nxt : Nat → Int32} {chn : Nat → Int32} {tol : Nat → Int32} {tw : Nat → Int32} {nu : Nat → Nat → Int64} {sw : Nat → Int32} {ss : Nat → Int32} {giv : Nat → Int32} {sE : Int32} {P : Nat → Nat → Int32} {pn : Nat} {v1 : Int32} (h : s_X5_checks C v1)  : ng_Ev G md_X5_checks 0 (ng_en 3 [.ref 0, .int v1]) [] (hn C off dear proved Dg dw nw J bef mov nxt chn tol tw nu sw ss giv sE P pn) (K_X5_checks hn off dear proved Dg dw nw J bef mov nxt chn tol tw nu sw ss giv sE P pn (f_X5_checks C v1)) := e_X5_checks V h 
def K_X5_house (hn : (Nat → Int32) → (Nat → Int32) → (Nat → Int32) → (Nat → Int32) → (Nat → Int32) → (Nat → Int32) → (Nat → Int32) → (Nat → Int32) → (Nat → Int32) → (Nat → Int32) → (Nat → Int32) → (Nat → Int32) → (Nat → Int32) → (Nat → Int32) → (Nat → Nat → Int64) → (Nat → Int32) → (Nat → Int32) → (Nat → Int32) → Int32 → (Nat → Nat → Int32) → Nat → ng_AM) (proved : Nat → Int32) (Dg : Nat → Int32) (dw : Nat → Int32) (J : Nat → Int32) (bef : Nat → Int32) (mov : Nat → Int32) (nxt : Nat → Int32) (chn : Nat → Int32) (tol : Nat → Int32) (tw : Nat → Int32) (nu : Nat → Nat → Int64) (sw : Nat → Int32) (ss : Nat → Int32) (giv : Nat → Int32) (sE : Int32) (P : Nat → Nat → Int32) (pn : Nat) (r : (Nat → Int32) × (Nat → Int32) × (Nat → Int32) × (Nat → Int32) × Int32) : ng_RR := (some (.int (r.2.2.2.2)), hn (r.1) (r.2.1) (r.2.2.1) proved Dg dw (r.2.2.2.1) J bef mov nxt chn tol tw nu sw ss giv sE P pn)
def f_X5_house_55  (C : Nat → Int32) (off : Nat → Int32) (dear : Nat → Int32) (nw : Nat → Int32) (v4 : Int32) : (Nat → Int32) × (Nat → Int32) × (Nat → Int32) × (Nat → Int32) × Int32 := (C, off, dear, (f_X4_openHouse nw v4), v4)
def s_X5_house_55  (C : Nat → Int32) (off : Nat → Int32) (dear : Nat → Int32) (nw : Nat → Int32) (v4 : Int32) : Prop := s_X4_openHouse nw v4
set_option maxRecDepth 100000 in
set_option maxHeartbeats 4000000 in
theorem e_X5_house_55 {G : ng_GG} {hn : (Nat → Int32) → (Nat → Int32) → (Nat → Int32) → (Nat → Int32) → (Nat → Int32) → (Nat → Int32) → (Nat → Int32) → (Nat → Int32) → (Nat → Int32) → (Nat → Int32) → (Nat → Int32) → (Nat → Int32) → (Nat → Int32) → (Nat → Int32) → (Nat → Nat → Int64) → (Nat → Int32) → (Nat → Int32) → (Nat → Int32) → Int32 → (Nat → Nat → Int32) → Nat → ng_AM}  (V : ng_NL hn ) {C : Nat → Int32} {off : Nat → Int32} {dear : Nat → Int32} {proved : Nat → Int32} {Dg : Nat → Int32} {dw : Nat → Int32} {nw : Nat → Int32} {J : Nat → Int32} {bef : Nat → Int32} {mov : Nat → Int32} {nxt : Nat → Int32} {chn : Nat → Int32} {tol : Nat → Int32} {tw : Nat → Int32} {nu : Nat → Nat → Int64} {sw : Nat → Int32} {ss : Nat → Int32} {giv : Nat → Int32} {sE : Int32} {P : Nat → Nat → Int32} {pn : Nat}  {v4 : Int32} (h : s_X5_house_55  C off dear nw v4)  : ng_Ev G md_X5_house 55 [some (.ref 0), none, none, none, some (.int v4)] [] (hn C off dear proved Dg dw nw J bef mov nxt chn tol tw nu sw ss giv sE P pn) (K_X5_house hn proved Dg dw J bef mov nxt chn tol tw nu sw ss giv sE P pn (f_X5_house_55  C off dear nw v4)) := by
  unfold s_X5_house_55 at h
  unfold f_X5_house_55
  refine ev_aload_n dX5_house_55 rfl rfl rfl ?_
  refine ev_get 5 2 fl_RX5_28 (NL_g0 V) rfl dX5_house_56 ?_
  refine ev_iload dX5_house_59 rfl ?_
  have hs61 := h
  refine bk_callV (As := [.int v4]) (st := []) (st2 := []) (M2 := hn C off dear proved Dg dw (f_X4_openHouse nw v4) J bef mov nxt chn tol tw nu sw ss giv sE P pn) ok_X4_openHouse lk_RX5_91 (ng_rok.of rfl rfl) (NL_g7 V) rfl rfl rfl rfl rfl rfl dX5_house_61 (m_X4_openHouse (NL_now V J bef mov nxt chn tol tw nu sw ss giv sE P pn) hs61) rfl rfl ?_
  refine ev_iload dX5_house_64 rfl ?_
  exact ev_iret rfl rfl dX5_house_66
def f_X5_house  (C : Nat → Int32) (off : Nat → Int32) (dear : Nat → Int32) (nw : Nat → Int32) (v1 : Int32) (v2 : Int32) (v3 : Int32) : (Nat → Int32) × (Nat → Int32) × (Nat → Int32) × (Nat → Int32) × Int32 := (if (f_X5_within v1 (-20) (nI 20)) = 0 then (C, off, dear, nw, (-2)) else (if (f_X5_within v3 (nI 0) (nI 255)) = 0 then (C, off, dear, nw, (-2)) else (if (C 10) < (nI 4) then f_X5_house_55 ((f_X2_open C off dear (C 10) v1 v2 v3).1) ((f_X2_open C off dear (C 10) v1 v2 v3).2.1) ((f_X2_open C off dear (C 10) v1 v2 v3).2.2) nw (C 10) else (C, off, dear, nw, (-3)))))
def s_X5_house  (C : Nat → Int32) (off : Nat → Int32) (dear : Nat → Int32) (nw : Nat → Int32) (v1 : Int32) (v2 : Int32) (v3 : Int32) : Prop := (¬ (f_X5_within v1 (-20) (nI 20)) = 0 → (¬ (f_X5_within v3 (nI 0) (nI 255)) = 0 → ((C 10) < (nI 4) → (s_X2_open C off dear (C 10) v1 v2 v3 ∧ s_X5_house_55 ((f_X2_open C off dear (C 10) v1 v2 v3).1) ((f_X2_open C off dear (C 10) v1 v2 v3).2.1) ((f_X2_open C off dear (C 10) v1 v2 v3).2.2) nw (C 10)))))
set_option maxRecDepth 100000 in
set_option maxHeartbeats 4000000 in
theorem e_X5_house {G : ng_GG} {hn : (Nat → Int32) → (Nat → Int32) → (Nat → Int32) → (Nat → Int32) → (Nat → Int32) → (Nat → Int32) → (Nat → Int32) → (Nat → Int32) → (Nat → Int32) → (Nat → Int32) → (Nat → Int32) → (Nat → Int32) → (Nat → Int32) → (Nat → Int32) → (Nat → Nat → Int64) → (Nat → Int32) → (Nat → Int32) → (Nat → Int32) → Int32 → (Nat → Nat → Int32) → Nat → ng_AM}  (V : ng_NL hn ) {C : Nat → Int32} {off : Nat → Int32} {dear : Nat → Int32} {proved : Nat → Int32} {Dg : Nat → Int32} {dw : Nat → Int32} {nw : Nat → Int32} {J : Nat → Int32} {bef : Nat → Int32} {mov : Nat → Int32} {nxt : Nat → Int32} {chn : Nat → Int32} {tol : Nat → Int32} {tw : Nat → Int32} {nu : Nat → Nat → Int64} {sw : Nat → Int32} {ss : Nat → Int32} {giv : Nat → Int32} {sE : Int32} {P : Nat → Nat → Int32} {pn : Nat}  {v1 : Int32} {v2 : Int32} {v3 : Int32} (h : s_X5_house  C off dear nw v1 v2 v3)  : ng_Ev G md_X5_house 0 [some (.ref 0), some (.int v1), some (.int v2), some (.int v3), none] [] (hn C off dear proved Dg dw nw J bef mov nxt chn tol tw nu sw ss giv sE P pn) (K_X5_house hn proved Dg dw J bef mov nxt chn tol tw nu sw ss giv sE P pn (f_X5_house  C off dear nw v1 v2 v3)) := by
  unfold s_X5_house at h
  unfold f_X5_house
  refine ev_iload_n dX5_house_0 rfl rfl ?_
  refine ev_bipush (v := (-20)) dX5_house_1 (by decide) ?_
  refine ev_bipush (v := nI 20) dX5_house_3 (by decide) ?_
  refine bk_callS (As := [.int v1, .int (-20), .int (nI 20)]) (st := []) (st2 := [.int (f_X5_within v1 (-20) (nI 20))]) (M2 := hn C off dear proved Dg dw nw J bef mov nxt chn tol tw nu sw ss giv sE P pn) ok_X5_within lk_RX5_56 (ng_rok.of rfl rfl) rfl rfl rfl rfl dX5_house_5 (m_X5_within trivial) rfl rfl ?_
  refine bk_if_eq (tgt := 22) dX5_house_8 (by decide) (fun c8 => ?_) (fun c8 => ?_)
  · refine ev_bipush (v := (-2)) dX5_house_22 (by decide) ?_
    exact ev_iret rfl rfl dX5_house_24
  · replace h := h c8
    refine ev_iload_n dX5_house_11 rfl rfl ?_
    refine ev_iconst (v := nI 0) dX5_house_12 (by decide) ?_
    refine ev_sipush (v := nI 255) dX5_house_13 (by decide) ?_
    refine bk_callS (As := [.int v3, .int (nI 0), .int (nI 255)]) (st := []) (st2 := [.int (f_X5_within v3 (nI 0) (nI 255))]) (M2 := hn C off dear proved Dg dw nw J bef mov nxt chn tol tw nu sw ss giv sE P pn) ok_X5_within lk_RX5_56 (ng_rok.of rfl rfl) rfl rfl rfl rfl dX5_house_16 (m_X5_within trivial) rfl rfl ?_
    refine bk_if_ne (tgt := 25) dX5_house_19 (by decide) (fun c19 => ?_) (fun c19 => ?_)
    · replace h := h c19
      refine ev_aload_n dX5_house_25 rfl rfl rfl ?_
      refine ev_get 5 0 fl_RX5_10 (NL_g0 V) rfl dX5_house_26 ?_
      refine ev_get 2 10 fl_RX5_84 (NL_g1 V) rfl dX5_house_29 ?_
      refine ev_istore (L' := [some (.ref 0), some (.int v1), some (.int v2), some (.int v3), some (.int (C 10))]) dX5_house_32 (ng_lt rfl) rfl ?_
      refine ev_iload dX5_house_34 rfl ?_
      refine ev_iconst (v := nI 4) dX5_house_36 (by decide) ?_
      refine bk_icmp_lt (tgt := 43) dX5_house_37 (by decide) (fun c37 => ?_) (fun c37 => ?_)
      · replace h := h c37
        refine ev_aload_n dX5_house_43 rfl rfl rfl ?_
        refine ev_get 5 0 fl_RX5_10 (NL_g0 V) rfl dX5_house_44 ?_
        refine ev_iload dX5_house_47 rfl ?_
        refine ev_iload_n dX5_house_49 rfl rfl ?_
        refine ev_iload_n dX5_house_50 rfl rfl ?_
        refine ev_iload_n dX5_house_51 rfl rfl ?_
        have hs52 := h.1
        replace h := h.2
        refine bk_callV (As := [.int (C 10), .int v1, .int v2, .int v3]) (st := []) (st2 := []) (M2 := hn ((f_X2_open C off dear (C 10) v1 v2 v3).1) ((f_X2_open C off dear (C 10) v1 v2 v3).2.1) ((f_X2_open C off dear (C 10) v1 v2 v3).2.2) proved Dg dw nw J bef mov nxt chn tol tw nu sw ss giv sE P pn) ok_X2_open lk_RX5_87 (ng_rok.of rfl rfl) (NL_g1 V) rfl rfl rfl rfl rfl rfl dX5_house_52 (m_X2_open (NL_S V Dg dw nw J bef mov nxt chn tol tw nu sw ss giv sE P pn) hs52) rfl rfl ?_
        exact ev_sub (e_X5_house_55 V h) (sub_s (sub_n (sub_n (sub_n (sub_s sub_e)))))
      · refine ev_bipush (v := (-3)) dX5_house_40 (by decide) ?_
        exact ev_iret rfl rfl dX5_house_42
    · refine ev_bipush (v := (-2)) dX5_house_22 (by decide) ?_
      exact ev_iret rfl rfl dX5_house_24
theorem m_X5_house {G : ng_GG} {hn : (Nat → Int32) → (Nat → Int32) → (Nat → Int32) → (Nat → Int32) → (Nat → Int32) → (Nat → Int32) → (Nat → Int32) → (Nat → Int32) → (Nat → Int32) → (Nat → Int32) → (Nat → Int32) → (Nat → Int32) → (Nat → Int32) → (Nat → Int32) → (Nat → Nat → Int64) → (Nat → Int32) → (Nat → Int32) → (Nat → Int32) → Int32 → (Nat → Nat → Int32) → Nat → ng_AM}  (V : ng_NL hn ) {C : Nat → Int32} {off : Nat → Int32} {dear : Nat → Int32} {proved : Nat → Int32} {Dg : Nat → Int32} {dw : Nat → Int32} {nw : Nat → Int32} {J : Nat → Int32} {bef : Nat → Int32} {mov : Nat → Int32} {nxt : Nat → Int32} {chn : Nat → Int32} {tol : Nat → Int32} {tw : Nat → Int32} {nu : Nat → Nat → Int64} {sw : Nat → Int32} {ss : Nat → Int32} {giv : Nat → Int32} {sE : Int32} {P : Nat → Nat → Int32} {pn : Nat} {v1 : Int32} {v2 : Int32} {v3 : Int32} (h : s_X5_house C off dear nw v1 v2 v3)  : ng_Ev G md_X5_house 0 (ng_en 5 [.ref 0, .int v1, .int v2, .int v3]) [] (hn C off dear proved Dg dw nw J bef mov nxt chn tol tw nu sw ss giv sE P pn) (K_X5_house hn proved Dg dw J bef mov nxt chn tol tw nu sw ss giv sE P pn (f_X5_house C off dear nw v1 v2 v3)) := e_X5_house V h 
def K_X5_throwOut (hn : (Nat → Int32) → (Nat → Int32) → (Nat → Int32) → (Nat → Int32) → (Nat → Int32) → (Nat → Int32) → (Nat → Int32) → (Nat → Int32) → (Nat → Int32) → (Nat → Int32) → (Nat → Int32) → (Nat → Int32) → (Nat → Int32) → (Nat → Int32) → (Nat → Nat → Int64) → (Nat → Int32) → (Nat → Int32) → (Nat → Int32) → Int32 → (Nat → Nat → Int32) → Nat → ng_AM) (off : Nat → Int32) (dear : Nat → Int32) (proved : Nat → Int32) (Dg : Nat → Int32) (dw : Nat → Int32) (nw : Nat → Int32) (J : Nat → Int32) (bef : Nat → Int32) (mov : Nat → Int32) (nxt : Nat → Int32) (chn : Nat → Int32) (tol : Nat → Int32) (tw : Nat → Int32) (nu : Nat → Nat → Int64) (sw : Nat → Int32) (ss : Nat → Int32) (giv : Nat → Int32) (sE : Int32) (P : Nat → Nat → Int32) (pn : Nat) (r : (Nat → Int32) × Int32) : ng_RR := (some (.int (r.2)), hn (r.1) off dear proved Dg dw nw J bef mov nxt chn tol tw nu sw ss giv sE P pn)
def f_X5_throwOut  (C : Nat → Int32) (v1 : Int32) : (Nat → Int32) × Int32 := (if (f_X2_isIn C v1) = 0 then (C, nI 0) else ((upd C 11 ((C 11) &&& (((nI 1) <<< (v1 &&& 31)) ^^^ (-1)))), nI 1))
def s_X5_throwOut  (C : Nat → Int32) (v1 : Int32) : Prop := True
set_option maxRecDepth 100000 in
set_option maxHeartbeats 4000000 in
theorem e_X5_throwOut {G : ng_GG} {hn : (Nat → Int32) → (Nat → Int32) → (Nat → Int32) → (Nat → Int32) → (Nat → Int32) → (Nat → Int32) → (Nat → Int32) → (Nat → Int32) → (Nat → Int32) → (Nat → Int32) → (Nat → Int32) → (Nat → Int32) → (Nat → Int32) → (Nat → Int32) → (Nat → Nat → Int64) → (Nat → Int32) → (Nat → Int32) → (Nat → Int32) → Int32 → (Nat → Nat → Int32) → Nat → ng_AM}  (V : ng_NL hn ) {C : Nat → Int32} {off : Nat → Int32} {dear : Nat → Int32} {proved : Nat → Int32} {Dg : Nat → Int32} {dw : Nat → Int32} {nw : Nat → Int32} {J : Nat → Int32} {bef : Nat → Int32} {mov : Nat → Int32} {nxt : Nat → Int32} {chn : Nat → Int32} {tol : Nat → Int32} {tw : Nat → Int32} {nu : Nat → Nat → Int64} {sw : Nat → Int32} {ss : Nat → Int32} {giv : Nat → Int32} {sE : Int32} {P : Nat → Nat → Int32} {pn : Nat}  {v1 : Int32} (h : s_X5_throwOut  C v1)  : ng_Ev G md_X5_throwOut 0 [some (.ref 0), some (.int v1)] [] (hn C off dear proved Dg dw nw J bef mov nxt chn tol tw nu sw ss giv sE P pn) (K_X5_throwOut hn off dear proved Dg dw nw J bef mov nxt chn tol tw nu sw ss giv sE P pn (f_X5_throwOut  C v1)) := by
  unfold s_X5_throwOut at h
  unfold f_X5_throwOut
  refine ev_aload_n dX5_throwOut_0 rfl rfl rfl ?_
  refine ev_get 5 0 fl_RX5_10 (NL_g0 V) rfl dX5_throwOut_1 ?_
  refine ev_iload_n dX5_throwOut_4 rfl rfl ?_
  refine bk_callV (As := [.int v1]) (st := []) (st2 := [.int (f_X2_isIn C v1)]) (M2 := hn C off dear proved Dg dw nw J bef mov nxt chn tol tw nu sw ss giv sE P pn) ok_X2_isIn lk_RX5_95 (ng_rok.of rfl rfl) (NL_g1 V) rfl rfl rfl rfl rfl rfl dX5_throwOut_5 (m_X2_isIn (NL_RS V) trivial) rfl rfl ?_
  refine bk_if_ne (tgt := 13) dX5_throwOut_8 (by decide) (fun c8 => ?_) (fun c8 => ?_)
  · refine ev_aload_n dX5_throwOut_13 rfl rfl rfl ?_
    refine ev_get 5 0 fl_RX5_10 (NL_g0 V) rfl dX5_throwOut_14 ?_
    refine ev_dup dX5_throwOut_17 rfl ?_
    refine ev_get 2 11 fl_RX5_99 (NL_g1 V) rfl dX5_throwOut_18 ?_
    refine ev_iconst (v := nI 1) dX5_throwOut_21 (by decide) ?_
    refine ev_iload_n dX5_throwOut_22 rfl rfl ?_
    refine ev_ishl dX5_throwOut_23 ?_
    refine ev_iconst (v := (-1)) dX5_throwOut_24 (by decide) ?_
    refine ev_ixor dX5_throwOut_25 ?_
    refine ev_iand dX5_throwOut_26 ?_
    refine ev_put 2 11 fs_RX5_99 (NL_g1 V) (ng_lt rfl) rfl (NL_s1 V (C' := (upd C 11 ((C 11) &&& (((nI 1) <<< (v1 &&& 31)) ^^^ (-1)))))) (ng_fit_i _) dX5_throwOut_27 ?_
    refine ev_iconst (v := nI 1) dX5_throwOut_30 (by decide) ?_
    exact ev_iret rfl (by decide) dX5_throwOut_31
  · refine ev_iconst (v := nI 0) dX5_throwOut_11 (by decide) ?_
    exact ev_iret rfl (by decide) dX5_throwOut_12
theorem m_X5_throwOut {G : ng_GG} {hn : (Nat → Int32) → (Nat → Int32) → (Nat → Int32) → (Nat → Int32) → (Nat → Int32) → (Nat → Int32) → (Nat → Int32) → (Nat → Int32) → (Nat → Int32) → (Nat → Int32) → (Nat → Int32) → (Nat → Int32) → (Nat → Int32) → (Nat → Int32) → (Nat → Nat → Int64) → (Nat → Int32) → (Nat → Int32) → (Nat → Int32) → Int32 → (Nat → Nat → Int32) → Nat → ng_AM}  (V : ng_NL hn ) {C : Nat → Int32} {off : Nat → Int32} {dear : Nat → Int32} {proved : Nat → Int32} {Dg : Nat → Int32} {dw : Nat → Int32} {nw : Nat → Int32} {J : Nat → Int32} {bef : Nat → Int32} {mov : Nat → Int32} {nxt : Nat → Int32} {chn : Nat → Int32} {tol : Nat → Int32} {tw : Nat → Int32} {nu : Nat → Nat → Int64} {sw : Nat → Int32} {ss : Nat → Int32} {giv : Nat → Int32} {sE : Int32} {P : Nat → Nat → Int32} {pn : Nat} {v1 : Int32} (h : s_X5_throwOut C v1)  : ng_Ev G md_X5_throwOut 0 (ng_en 2 [.ref 0, .int v1]) [] (hn C off dear proved Dg dw nw J bef mov nxt chn tol tw nu sw ss giv sE P pn) (K_X5_throwOut hn off dear proved Dg dw nw J bef mov nxt chn tol tw nu sw ss giv sE P pn (f_X5_throwOut C v1)) := e_X5_throwOut V h 
def K_X5_keeper (hn : (Nat → Int32) → (Nat → Int32) → (Nat → Int32) → (Nat → Int32) → (Nat → Int32) → (Nat → Int32) → (Nat → Int32) → (Nat → Int32) → (Nat → Int32) → (Nat → Int32) → (Nat → Int32) → (Nat → Int32) → (Nat → Int32) → (Nat → Int32) → (Nat → Nat → Int64) → (Nat → Int32) → (Nat → Int32) → (Nat → Int32) → Int32 → (Nat → Nat → Int32) → Nat → ng_AM) (off : Nat → Int32) (dear : Nat → Int32) (proved : Nat → Int32) (Dg : Nat → Int32) (dw : Nat → Int32) (nw : Nat → Int32) (J : Nat → Int32) (bef : Nat → Int32) (mov : Nat → Int32) (nxt : Nat → Int32) (chn : Nat → Int32) (tol : Nat → Int32) (tw : Nat → Int32) (nu : Nat → Nat → Int64) (sw : Nat → Int32) (ss : Nat → Int32) (giv : Nat → Int32) (sE : Int32) (P : Nat → Nat → Int32) (pn : Nat) (r : (Nat → Int32) × Int32) : ng_RR := (some (.int (r.2)), hn (r.1) off dear proved Dg dw nw J bef mov nxt chn tol tw nu sw ss giv sE P pn)
def f_X5_keeper  (C : Nat → Int32) (v1 : Int32) : (Nat → Int32) × Int32 := ((upd C 9 v1), (C 9))
def s_X5_keeper  (C : Nat → Int32) (v1 : Int32) : Prop := ((v1 = 0 ∨ v1 = 1) ∧ ((C 9) = 0 ∨ (C 9) = 1))
set_option maxRecDepth 100000 in
set_option maxHeartbeats 4000000 in
theorem e_X5_keeper {G : ng_GG} {hn : (Nat → Int32) → (Nat → Int32) → (Nat → Int32) → (Nat → Int32) → (Nat → Int32) → (Nat → Int32) → (Nat → Int32) → (Nat → Int32) → (Nat → Int32) → (Nat → Int32) → (Nat → Int32) → (Nat → Int32) → (Nat → Int32) → (Nat → Int32) → (Nat → Nat → Int64) → (Nat → Int32) → (Nat → Int32) → (Nat → Int32) → Int32 → (Nat → Nat → Int32) → Nat → ng_AM}  (V : ng_NL hn ) {C : Nat → Int32} {off : Nat → Int32} {dear : Nat → Int32} {proved : Nat → Int32} {Dg : Nat → Int32} {dw : Nat → Int32} {nw : Nat → Int32} {J : Nat → Int32} {bef : Nat → Int32} {mov : Nat → Int32} {nxt : Nat → Int32} {chn : Nat → Int32} {tol : Nat → Int32} {tw : Nat → Int32} {nu : Nat → Nat → Int64} {sw : Nat → Int32} {ss : Nat → Int32} {giv : Nat → Int32} {sE : Int32} {P : Nat → Nat → Int32} {pn : Nat}  {v1 : Int32} (h : s_X5_keeper  C v1)  : ng_Ev G md_X5_keeper 0 [some (.ref 0), some (.int v1), none] [] (hn C off dear proved Dg dw nw J bef mov nxt chn tol tw nu sw ss giv sE P pn) (K_X5_keeper hn off dear proved Dg dw nw J bef mov nxt chn tol tw nu sw ss giv sE P pn (f_X5_keeper  C v1)) := by
  unfold s_X5_keeper at h
  unfold f_X5_keeper
  refine ev_aload_n dX5_keeper_0 rfl rfl rfl ?_
  refine ev_get 5 0 fl_RX5_10 (NL_g0 V) rfl dX5_keeper_1 ?_
  refine ev_get 2 9 fl_RX5_102 (NL_g1 V) rfl dX5_keeper_4 ?_
  refine ev_istore_n (L' := [some (.ref 0), some (.int v1), some (.int (C 9))]) dX5_keeper_7 rfl (ng_lt rfl) rfl ?_
  refine ev_aload_n dX5_keeper_8 rfl rfl rfl ?_
  refine ev_get 5 0 fl_RX5_10 (NL_g0 V) rfl dX5_keeper_9 ?_
  refine ev_iload_n dX5_keeper_12 rfl rfl ?_
  have hz13 := h.1
  replace h := h.2
  refine ev_put 2 9 fs_RX5_102 (NL_g1 V) (ng_lt rfl) rfl (NL_s1 V (C' := (upd C 9 v1))) (ng_fit_z hz13) dX5_keeper_13 ?_
  refine ev_iload_n dX5_keeper_16 rfl rfl ?_
  exact ev_iret rfl (ng_nz h) dX5_keeper_17
theorem m_X5_keeper {G : ng_GG} {hn : (Nat → Int32) → (Nat → Int32) → (Nat → Int32) → (Nat → Int32) → (Nat → Int32) → (Nat → Int32) → (Nat → Int32) → (Nat → Int32) → (Nat → Int32) → (Nat → Int32) → (Nat → Int32) → (Nat → Int32) → (Nat → Int32) → (Nat → Int32) → (Nat → Nat → Int64) → (Nat → Int32) → (Nat → Int32) → (Nat → Int32) → Int32 → (Nat → Nat → Int32) → Nat → ng_AM}  (V : ng_NL hn ) {C : Nat → Int32} {off : Nat → Int32} {dear : Nat → Int32} {proved : Nat → Int32} {Dg : Nat → Int32} {dw : Nat → Int32} {nw : Nat → Int32} {J : Nat → Int32} {bef : Nat → Int32} {mov : Nat → Int32} {nxt : Nat → Int32} {chn : Nat → Int32} {tol : Nat → Int32} {tw : Nat → Int32} {nu : Nat → Nat → Int64} {sw : Nat → Int32} {ss : Nat → Int32} {giv : Nat → Int32} {sE : Int32} {P : Nat → Nat → Int32} {pn : Nat} {v1 : Int32} (h : s_X5_keeper C v1)  : ng_Ev G md_X5_keeper 0 (ng_en 3 [.ref 0, .int v1]) [] (hn C off dear proved Dg dw nw J bef mov nxt chn tol tw nu sw ss giv sE P pn) (K_X5_keeper hn off dear proved Dg dw nw J bef mov nxt chn tol tw nu sw ss giv sE P pn (f_X5_keeper C v1)) := e_X5_keeper V h 
def K_X5_tap (hn : (Nat → Int32) → (Nat → Int32) → (Nat → Int32) → (Nat → Int32) → (Nat → Int32) → (Nat → Int32) → (Nat → Int32) → (Nat → Int32) → (Nat → Int32) → (Nat → Int32) → (Nat → Int32) → (Nat → Int32) → (Nat → Int32) → (Nat → Int32) → (Nat → Nat → Int64) → (Nat → Int32) → (Nat → Int32) → (Nat → Int32) → Int32 → (Nat → Nat → Int32) → Nat → ng_AM) (off : Nat → Int32) (dear : Nat → Int32) (proved : Nat → Int32) (Dg : Nat → Int32) (dw : Nat → Int32) (nw : Nat → Int32) (J : Nat → Int32) (bef : Nat → Int32) (mov : Nat → Int32) (nxt : Nat → Int32) (chn : Nat → Int32) (tol : Nat → Int32) (tw : Nat → Int32) (nu : Nat → Nat → Int64) (sw : Nat → Int32) (ss : Nat → Int32) (giv : Nat → Int32) (sE : Int32) (P : Nat → Nat → Int32) (pn : Nat) (r : (Nat → Int32) × Int32) : ng_RR := (some (.int (r.2)), hn (r.1) off dear proved Dg dw nw J bef mov nxt chn tol tw nu sw ss giv sE P pn)
def f_X5_tap  (C : Nat → Int32) (v1 : Int32) : (Nat → Int32) × Int32 := (if (f_X5_within v1 (nI 0) (nI 511)) = 0 then (C, (-2)) else ((upd C 8 v1), (C 8)))
def s_X5_tap  (C : Nat → Int32) (v1 : Int32) : Prop := True
set_option maxRecDepth 100000 in
set_option maxHeartbeats 4000000 in
theorem e_X5_tap {G : ng_GG} {hn : (Nat → Int32) → (Nat → Int32) → (Nat → Int32) → (Nat → Int32) → (Nat → Int32) → (Nat → Int32) → (Nat → Int32) → (Nat → Int32) → (Nat → Int32) → (Nat → Int32) → (Nat → Int32) → (Nat → Int32) → (Nat → Int32) → (Nat → Int32) → (Nat → Nat → Int64) → (Nat → Int32) → (Nat → Int32) → (Nat → Int32) → Int32 → (Nat → Nat → Int32) → Nat → ng_AM}  (V : ng_NL hn ) {C : Nat → Int32} {off : Nat → Int32} {dear : Nat → Int32} {proved : Nat → Int32} {Dg : Nat → Int32} {dw : Nat → Int32} {nw : Nat → Int32} {J : Nat → Int32} {bef : Nat → Int32} {mov : Nat → Int32} {nxt : Nat → Int32} {chn : Nat → Int32} {tol : Nat → Int32} {tw : Nat → Int32} {nu : Nat → Nat → Int64} {sw : Nat → Int32} {ss : Nat → Int32} {giv : Nat → Int32} {sE : Int32} {P : Nat → Nat → Int32} {pn : Nat}  {v1 : Int32} (h : s_X5_tap  C v1)  : ng_Ev G md_X5_tap 0 [some (.ref 0), some (.int v1), none] [] (hn C off dear proved Dg dw nw J bef mov nxt chn tol tw nu sw ss giv sE P pn) (K_X5_tap hn off dear proved Dg dw nw J bef mov nxt chn tol tw nu sw ss giv sE P pn (f_X5_tap  C v1)) := by
  unfold s_X5_tap at h
  unfold f_X5_tap
  refine ev_iload_n dX5_tap_0 rfl rfl ?_
  refine ev_iconst (v := nI 0) dX5_tap_1 (by decide) ?_
  refine ev_sipush (v := nI 511) dX5_tap_2 (by decide) ?_
  refine bk_callS (As := [.int v1, .int (nI 0), .int (nI 511)]) (st := []) (st2 := [.int (f_X5_within v1 (nI 0) (nI 511))]) (M2 := hn C off dear proved Dg dw nw J bef mov nxt chn tol tw nu sw ss giv sE P pn) ok_X5_within lk_RX5_56 (ng_rok.of rfl rfl) rfl rfl rfl rfl dX5_tap_5 (m_X5_within trivial) rfl rfl ?_
  refine bk_if_ne (tgt := 14) dX5_tap_8 (by decide) (fun c8 => ?_) (fun c8 => ?_)
  · refine ev_aload_n dX5_tap_14 rfl rfl rfl ?_
    refine ev_get 5 0 fl_RX5_10 (NL_g0 V) rfl dX5_tap_15 ?_
    refine ev_get 2 8 fl_RX5_106 (NL_g1 V) rfl dX5_tap_18 ?_
    refine ev_istore_n (L' := [some (.ref 0), some (.int v1), some (.int (C 8))]) dX5_tap_21 rfl (ng_lt rfl) rfl ?_
    refine ev_aload_n dX5_tap_22 rfl rfl rfl ?_
    refine ev_get 5 0 fl_RX5_10 (NL_g0 V) rfl dX5_tap_23 ?_
    refine ev_iload_n dX5_tap_26 rfl rfl ?_
    refine ev_put 2 8 fs_RX5_106 (NL_g1 V) (ng_lt rfl) rfl (NL_s1 V (C' := (upd C 8 v1))) (ng_fit_i _) dX5_tap_27 ?_
    refine ev_iload_n dX5_tap_30 rfl rfl ?_
    exact ev_iret rfl rfl dX5_tap_31
  · refine ev_bipush (v := (-2)) dX5_tap_11 (by decide) ?_
    exact ev_iret rfl rfl dX5_tap_13
theorem m_X5_tap {G : ng_GG} {hn : (Nat → Int32) → (Nat → Int32) → (Nat → Int32) → (Nat → Int32) → (Nat → Int32) → (Nat → Int32) → (Nat → Int32) → (Nat → Int32) → (Nat → Int32) → (Nat → Int32) → (Nat → Int32) → (Nat → Int32) → (Nat → Int32) → (Nat → Int32) → (Nat → Nat → Int64) → (Nat → Int32) → (Nat → Int32) → (Nat → Int32) → Int32 → (Nat → Nat → Int32) → Nat → ng_AM}  (V : ng_NL hn ) {C : Nat → Int32} {off : Nat → Int32} {dear : Nat → Int32} {proved : Nat → Int32} {Dg : Nat → Int32} {dw : Nat → Int32} {nw : Nat → Int32} {J : Nat → Int32} {bef : Nat → Int32} {mov : Nat → Int32} {nxt : Nat → Int32} {chn : Nat → Int32} {tol : Nat → Int32} {tw : Nat → Int32} {nu : Nat → Nat → Int64} {sw : Nat → Int32} {ss : Nat → Int32} {giv : Nat → Int32} {sE : Int32} {P : Nat → Nat → Int32} {pn : Nat} {v1 : Int32} (h : s_X5_tap C v1)  : ng_Ev G md_X5_tap 0 (ng_en 3 [.ref 0, .int v1]) [] (hn C off dear proved Dg dw nw J bef mov nxt chn tol tw nu sw ss giv sE P pn) (K_X5_tap hn off dear proved Dg dw nw J bef mov nxt chn tol tw nu sw ss giv sE P pn (f_X5_tap C v1)) := e_X5_tap V h 
def K_X5_prove (hn : (Nat → Int32) → (Nat → Int32) → (Nat → Int32) → (Nat → Int32) → (Nat → Int32) → (Nat → Int32) → (Nat → Int32) → (Nat → Int32) → (Nat → Int32) → (Nat → Int32) → (Nat → Int32) → (Nat → Int32) → (Nat → Int32) → (Nat → Int32) → (Nat → Nat → Int64) → (Nat → Int32) → (Nat → Int32) → (Nat → Int32) → Int32 → (Nat → Nat → Int32) → Nat → ng_AM) (C : Nat → Int32) (off : Nat → Int32) (dear : Nat → Int32) (Dg : Nat → Int32) (dw : Nat → Int32) (nw : Nat → Int32) (J : Nat → Int32) (bef : Nat → Int32) (mov : Nat → Int32) (nxt : Nat → Int32) (chn : Nat → Int32) (tol : Nat → Int32) (tw : Nat → Int32) (nu : Nat → Nat → Int64) (sw : Nat → Int32) (ss : Nat → Int32) (giv : Nat → Int32) (sE : Int32) (P : Nat → Nat → Int32) (pn : Nat) (r : (Nat → Int32) × Int32) : ng_RR := (some (.int (r.2)), hn C off dear (r.1) Dg dw nw J bef mov nxt chn tol tw nu sw ss giv sE P pn)
def f_X5_prove  (C : Nat → Int32) (proved : Nat → Int32) (nw : Nat → Int32) (v1 : Int32) : (Nat → Int32) × Int32 := (if (f_X5_isBrowser v1) = 0 then (proved, nI 0) else (if (C 9) = 0 then (proved, nI 0) else ((upd proved v1.toNatClampNeg (f_X4_time nw)), nI 1)))
def s_X5_prove  (C : Nat → Int32) (proved : Nat → Int32) (nw : Nat → Int32) (v1 : Int32) : Prop := (¬ (f_X5_isBrowser v1) = 0 → (¬ (C 9) = 0 → vp_in v1 5))
set_option maxRecDepth 100000 in
set_option maxHeartbeats 4000000 in
theorem e_X5_prove {G : ng_GG} {hn : (Nat → Int32) → (Nat → Int32) → (Nat → Int32) → (Nat → Int32) → (Nat → Int32) → (Nat → Int32) → (Nat → Int32) → (Nat → Int32) → (Nat → Int32) → (Nat → Int32) → (Nat → Int32) → (Nat → Int32) → (Nat → Int32) → (Nat → Int32) → (Nat → Nat → Int64) → (Nat → Int32) → (Nat → Int32) → (Nat → Int32) → Int32 → (Nat → Nat → Int32) → Nat → ng_AM}  (V : ng_NL hn ) {C : Nat → Int32} {off : Nat → Int32} {dear : Nat → Int32} {proved : Nat → Int32} {Dg : Nat → Int32} {dw : Nat → Int32} {nw : Nat → Int32} {J : Nat → Int32} {bef : Nat → Int32} {mov : Nat → Int32} {nxt : Nat → Int32} {chn : Nat → Int32} {tol : Nat → Int32} {tw : Nat → Int32} {nu : Nat → Nat → Int64} {sw : Nat → Int32} {ss : Nat → Int32} {giv : Nat → Int32} {sE : Int32} {P : Nat → Nat → Int32} {pn : Nat}  {v1 : Int32} (h : s_X5_prove  C proved nw v1)  : ng_Ev G md_X5_prove 0 [some (.ref 0), some (.int v1)] [] (hn C off dear proved Dg dw nw J bef mov nxt chn tol tw nu sw ss giv sE P pn) (K_X5_prove hn C off dear Dg dw nw J bef mov nxt chn tol tw nu sw ss giv sE P pn (f_X5_prove  C proved nw v1)) := by
  unfold s_X5_prove at h
  unfold f_X5_prove
  refine ev_iload_n dX5_prove_0 rfl rfl ?_
  refine bk_callS (As := [.int v1]) (st := []) (st2 := [.int (f_X5_isBrowser v1)]) (M2 := hn C off dear proved Dg dw nw J bef mov nxt chn tol tw nu sw ss giv sE P pn) ok_X5_isBrowser lk_RX5_109 (ng_rok.of rfl rfl) rfl rfl rfl rfl dX5_prove_1 (m_X5_isBrowser trivial) rfl rfl ?_
  refine bk_if_eq (tgt := 17) dX5_prove_4 (by decide) (fun c4 => ?_) (fun c4 => ?_)
  · refine ev_iconst (v := nI 0) dX5_prove_17 (by decide) ?_
    exact ev_iret rfl (by decide) dX5_prove_18
  · replace h := h c4
    refine ev_aload_n dX5_prove_7 rfl rfl rfl ?_
    refine ev_get 5 0 fl_RX5_10 (NL_g0 V) rfl dX5_prove_8 ?_
    refine ev_get 2 9 fl_RX5_102 (NL_g1 V) rfl dX5_prove_11 ?_
    refine bk_if_ne (tgt := 19) dX5_prove_14 (by decide) (fun c14 => ?_) (fun c14 => ?_)
    · replace h := h c14
      refine ev_aload_n dX5_prove_19 rfl rfl rfl ?_
      refine ev_get 5 0 fl_RX5_10 (NL_g0 V) rfl dX5_prove_20 ?_
      refine ev_get 2 16 fl_RX5_112 (NL_g1 V) rfl dX5_prove_23 ?_
      refine ev_iload_n dX5_prove_26 rfl rfl ?_
      refine ev_aload_n dX5_prove_27 rfl rfl rfl ?_
      refine ev_get 5 2 fl_RX5_28 (NL_g0 V) rfl dX5_prove_28 ?_
      refine bk_callV (As := []) (st := [.int v1, .ref 4]) (st2 := [.int (f_X4_time nw), .int v1, .ref 4]) (M2 := hn C off dear proved Dg dw nw J bef mov nxt chn tol tw nu sw ss giv sE P pn) ok_X4_time lk_RX5_115 (ng_rok.of rfl rfl) (NL_g7 V) rfl rfl rfl rfl rfl rfl dX5_prove_31 (m_X4_time (NL_R7 V) trivial) rfl rfl ?_
      have hi34 := h
      refine ev_iast (NL_g4 V) hi34 (NL_s4 V) dX5_prove_34 ?_
      refine ev_iconst (v := nI 1) dX5_prove_35 (by decide) ?_
      exact ev_iret rfl (by decide) dX5_prove_36
    · refine ev_iconst (v := nI 0) dX5_prove_17 (by decide) ?_
      exact ev_iret rfl (by decide) dX5_prove_18
theorem m_X5_prove {G : ng_GG} {hn : (Nat → Int32) → (Nat → Int32) → (Nat → Int32) → (Nat → Int32) → (Nat → Int32) → (Nat → Int32) → (Nat → Int32) → (Nat → Int32) → (Nat → Int32) → (Nat → Int32) → (Nat → Int32) → (Nat → Int32) → (Nat → Int32) → (Nat → Int32) → (Nat → Nat → Int64) → (Nat → Int32) → (Nat → Int32) → (Nat → Int32) → Int32 → (Nat → Nat → Int32) → Nat → ng_AM}  (V : ng_NL hn ) {C : Nat → Int32} {off : Nat → Int32} {dear : Nat → Int32} {proved : Nat → Int32} {Dg : Nat → Int32} {dw : Nat → Int32} {nw : Nat → Int32} {J : Nat → Int32} {bef : Nat → Int32} {mov : Nat → Int32} {nxt : Nat → Int32} {chn : Nat → Int32} {tol : Nat → Int32} {tw : Nat → Int32} {nu : Nat → Nat → Int64} {sw : Nat → Int32} {ss : Nat → Int32} {giv : Nat → Int32} {sE : Int32} {P : Nat → Nat → Int32} {pn : Nat} {v1 : Int32} (h : s_X5_prove C proved nw v1)  : ng_Ev G md_X5_prove 0 (ng_en 2 [.ref 0, .int v1]) [] (hn C off dear proved Dg dw nw J bef mov nxt chn tol tw nu sw ss giv sE P pn) (K_X5_prove hn C off dear Dg dw nw J bef mov nxt chn tol tw nu sw ss giv sE P pn (f_X5_prove C proved nw v1)) := e_X5_prove V h 
def K_X5_leave (hn : (Nat → Int32) → (Nat → Int32) → (Nat → Int32) → (Nat → Int32) → (Nat → Int32) → (Nat → Int32) → (Nat → Int32) → (Nat → Int32) → (Nat → Int32) → (Nat → Int32) → (Nat → Int32) → (Nat → Int32) → (Nat → Int32) → (Nat → Int32) → (Nat → Nat → Int64) → (Nat → Int32) → (Nat → Int32) → (Nat → Int32) → Int32 → (Nat → Nat → Int32) → Nat → ng_AM) (C : Nat → Int32) (off : Nat → Int32) (dear : Nat → Int32) (dw : Nat → Int32) (J : Nat → Int32) (bef : Nat → Int32) (mov : Nat → Int32) (nxt : Nat → Int32) (chn : Nat → Int32) (tol : Nat → Int32) (tw : Nat → Int32) (nu : Nat → Nat → Int64) (sw : Nat → Int32) (ss : Nat → Int32) (giv : Nat → Int32) (sE : Int32) (P : Nat → Nat → Int32) (pn : Nat) (r : (Nat → Int32) × (Nat → Int32) × (Nat → Int32) × Int32) : ng_RR := (some (.int (r.2.2.2)), hn C off dear (r.1) (r.2.1) dw (r.2.2.1) J bef mov nxt chn tol tw nu sw ss giv sE P pn)
def f_X5_leave  (C : Nat → Int32) (proved : Nat → Int32) (Dg : Nat → Int32) (nw : Nat → Int32) (v1 : Int32) : (Nat → Int32) × (Nat → Int32) × (Nat → Int32) × Int32 := (if (f_X5_isBrowser v1) = 0 then (proved, Dg, nw, (-2)) else (if (C 9) = 0 then (proved, Dg, nw, (-3)) else ((upd proved v1.toNatClampNeg (-1)), (f_X4_endFamiliesOf nw Dg C true v1).2.1, (f_X4_endFamiliesOf nw Dg C true v1).1, (f_X4_endFamiliesOf nw Dg C true v1).2.2)))
def s_X5_leave  (C : Nat → Int32) (proved : Nat → Int32) (Dg : Nat → Int32) (nw : Nat → Int32) (v1 : Int32) : Prop := (¬ (f_X5_isBrowser v1) = 0 → (¬ (C 9) = 0 → (vp_in v1 5 ∧ s_X4_endFamiliesOf nw Dg C true v1)))
set_option maxRecDepth 100000 in
set_option maxHeartbeats 4000000 in
theorem e_X5_leave {G : ng_GG} {hn : (Nat → Int32) → (Nat → Int32) → (Nat → Int32) → (Nat → Int32) → (Nat → Int32) → (Nat → Int32) → (Nat → Int32) → (Nat → Int32) → (Nat → Int32) → (Nat → Int32) → (Nat → Int32) → (Nat → Int32) → (Nat → Int32) → (Nat → Int32) → (Nat → Nat → Int64) → (Nat → Int32) → (Nat → Int32) → (Nat → Int32) → Int32 → (Nat → Nat → Int32) → Nat → ng_AM}  (V : ng_NL hn ) {C : Nat → Int32} {off : Nat → Int32} {dear : Nat → Int32} {proved : Nat → Int32} {Dg : Nat → Int32} {dw : Nat → Int32} {nw : Nat → Int32} {J : Nat → Int32} {bef : Nat → Int32} {mov : Nat → Int32} {nxt : Nat → Int32} {chn : Nat → Int32} {tol : Nat → Int32} {tw : Nat → Int32} {nu : Nat → Nat → Int64} {sw : Nat → Int32} {ss : Nat → Int32} {giv : Nat → Int32} {sE : Int32} {P : Nat → Nat → Int32} {pn : Nat}  {v1 : Int32} (h : s_X5_leave  C proved Dg nw v1)  : ng_Ev G md_X5_leave 0 [some (.ref 0), some (.int v1)] [] (hn C off dear proved Dg dw nw J bef mov nxt chn tol tw nu sw ss giv sE P pn) (K_X5_leave hn C off dear dw J bef mov nxt chn tol tw nu sw ss giv sE P pn (f_X5_leave  C proved Dg nw v1)) := by
  unfold s_X5_leave at h
  unfold f_X5_leave
  refine ev_iload_n dX5_leave_0 rfl rfl ?_
  refine bk_callS (As := [.int v1]) (st := []) (st2 := [.int (f_X5_isBrowser v1)]) (M2 := hn C off dear proved Dg dw nw J bef mov nxt chn tol tw nu sw ss giv sE P pn) ok_X5_isBrowser lk_RX5_109 (ng_rok.of rfl rfl) rfl rfl rfl rfl dX5_leave_1 (m_X5_isBrowser trivial) rfl rfl ?_
  refine bk_if_ne (tgt := 10) dX5_leave_4 (by decide) (fun c4 => ?_) (fun c4 => ?_)
  · replace h := h c4
    refine ev_aload_n dX5_leave_10 rfl rfl rfl ?_
    refine ev_get 5 0 fl_RX5_10 (NL_g0 V) rfl dX5_leave_11 ?_
    refine ev_get 2 9 fl_RX5_102 (NL_g1 V) rfl dX5_leave_14 ?_
    refine bk_if_ne (tgt := 23) dX5_leave_17 (by decide) (fun c17 => ?_) (fun c17 => ?_)
    · replace h := h c17
      refine ev_aload_n dX5_leave_23 rfl rfl rfl ?_
      refine ev_get 5 0 fl_RX5_10 (NL_g0 V) rfl dX5_leave_24 ?_
      refine ev_get 2 16 fl_RX5_112 (NL_g1 V) rfl dX5_leave_27 ?_
      refine ev_iload_n dX5_leave_30 rfl rfl ?_
      refine ev_iconst (v := (-1)) dX5_leave_31 (by decide) ?_
      have hi32 := h.1
      replace h := h.2
      refine ev_iast (NL_g4 V) hi32 (NL_s4 V) dX5_leave_32 ?_
      refine ev_aload_n dX5_leave_33 rfl rfl rfl ?_
      refine ev_get 5 2 fl_RX5_28 (NL_g0 V) rfl dX5_leave_34 ?_
      refine ev_iload_n dX5_leave_37 rfl rfl ?_
      have hs38 := h
      refine bk_callV (As := [.int v1]) (st := []) (st2 := [.int ((f_X4_endFamiliesOf nw Dg C true v1).2.2)]) (M2 := hn C off dear (upd proved v1.toNatClampNeg (-1)) ((f_X4_endFamiliesOf nw Dg C true v1).2.1) dw ((f_X4_endFamiliesOf nw Dg C true v1).1) J bef mov nxt chn tol tw nu sw ss giv sE P pn) ok_X4_endFamiliesOf lk_RX5_119 (ng_rok.of rfl rfl) (NL_g7 V) rfl rfl rfl rfl rfl rfl dX5_leave_38 (m_X4_endFamiliesOf (NL_now V J bef mov nxt chn tol tw nu sw ss giv sE P pn) hs38) rfl rfl ?_
      exact ev_iret rfl rfl dX5_leave_41
    · refine ev_bipush (v := (-3)) dX5_leave_20 (by decide) ?_
      exact ev_iret rfl rfl dX5_leave_22
  · refine ev_bipush (v := (-2)) dX5_leave_7 (by decide) ?_
    exact ev_iret rfl rfl dX5_leave_9
theorem m_X5_leave {G : ng_GG} {hn : (Nat → Int32) → (Nat → Int32) → (Nat → Int32) → (Nat → Int32) → (Nat → Int32) → (Nat → Int32) → (Nat → Int32) → (Nat → Int32) → (Nat → Int32) → (Nat → Int32) → (Nat → Int32) → (Nat → Int32) → (Nat → Int32) → (Nat → Int32) → (Nat → Nat → Int64) → (Nat → Int32) → (Nat → Int32) → (Nat → Int32) → Int32 → (Nat → Nat → Int32) → Nat → ng_AM}  (V : ng_NL hn ) {C : Nat → Int32} {off : Nat → Int32} {dear : Nat → Int32} {proved : Nat → Int32} {Dg : Nat → Int32} {dw : Nat → Int32} {nw : Nat → Int32} {J : Nat → Int32} {bef : Nat → Int32} {mov : Nat → Int32} {nxt : Nat → Int32} {chn : Nat → Int32} {tol : Nat → Int32} {tw : Nat → Int32} {nu : Nat → Nat → Int64} {sw : Nat → Int32} {ss : Nat → Int32} {giv : Nat → Int32} {sE : Int32} {P : Nat → Nat → Int32} {pn : Nat} {v1 : Int32} (h : s_X5_leave C proved Dg nw v1)  : ng_Ev G md_X5_leave 0 (ng_en 2 [.ref 0, .int v1]) [] (hn C off dear proved Dg dw nw J bef mov nxt chn tol tw nu sw ss giv sE P pn) (K_X5_leave hn C off dear dw J bef mov nxt chn tol tw nu sw ss giv sE P pn (f_X5_leave C proved Dg nw v1)) := e_X5_leave V h 
def K_X5_end (hn : (Nat → Int32) → (Nat → Int32) → (Nat → Int32) → (Nat → Int32) → (Nat → Int32) → (Nat → Int32) → (Nat → Int32) → (Nat → Int32) → (Nat → Int32) → (Nat → Int32) → (Nat → Int32) → (Nat → Int32) → (Nat → Int32) → (Nat → Int32) → (Nat → Nat → Int64) → (Nat → Int32) → (Nat → Int32) → (Nat → Int32) → Int32 → (Nat → Nat → Int32) → Nat → ng_AM) (C : Nat → Int32) (off : Nat → Int32) (dear : Nat → Int32) (proved : Nat → Int32) (dw : Nat → Int32) (J : Nat → Int32) (bef : Nat → Int32) (mov : Nat → Int32) (nxt : Nat → Int32) (chn : Nat → Int32) (tol : Nat → Int32) (tw : Nat → Int32) (nu : Nat → Nat → Int64) (sw : Nat → Int32) (ss : Nat → Int32) (giv : Nat → Int32) (sE : Int32) (P : Nat → Nat → Int32) (pn : Nat) (r : (Nat → Int32) × (Nat → Int32) × Int32) : ng_RR := (some (.int (r.2.2)), hn C off dear proved (r.1) dw (r.2.1) J bef mov nxt chn tol tw nu sw ss giv sE P pn)
def f_X5_end  (C : Nat → Int32) (Dg : Nat → Int32) (nw : Nat → Int32) (v1 : Int32) : (Nat → Int32) × (Nat → Int32) × Int32 := (if (C 9) = 0 then (Dg, nw, nI 0) else (if (f_X4_isFamily nw v1) = 0 then (Dg, nw, nI 0) else (if (f_X4_isEnded nw v1) = 0 then ((f_X4_endFamily nw Dg C true v1).2, (f_X4_endFamily nw Dg C true v1).1, nI 1) else (Dg, nw, nI 0))))
def s_X5_end  (C : Nat → Int32) (Dg : Nat → Int32) (nw : Nat → Int32) (v1 : Int32) : Prop := (¬ (C 9) = 0 → (¬ (f_X4_isFamily nw v1) = 0 → (s_X4_isEnded nw v1 ∧ ((f_X4_isEnded nw v1) = 0 → s_X4_endFamily nw Dg C true v1))))
set_option maxRecDepth 100000 in
set_option maxHeartbeats 4000000 in
theorem e_X5_end {G : ng_GG} {hn : (Nat → Int32) → (Nat → Int32) → (Nat → Int32) → (Nat → Int32) → (Nat → Int32) → (Nat → Int32) → (Nat → Int32) → (Nat → Int32) → (Nat → Int32) → (Nat → Int32) → (Nat → Int32) → (Nat → Int32) → (Nat → Int32) → (Nat → Int32) → (Nat → Nat → Int64) → (Nat → Int32) → (Nat → Int32) → (Nat → Int32) → Int32 → (Nat → Nat → Int32) → Nat → ng_AM}  (V : ng_NL hn ) {C : Nat → Int32} {off : Nat → Int32} {dear : Nat → Int32} {proved : Nat → Int32} {Dg : Nat → Int32} {dw : Nat → Int32} {nw : Nat → Int32} {J : Nat → Int32} {bef : Nat → Int32} {mov : Nat → Int32} {nxt : Nat → Int32} {chn : Nat → Int32} {tol : Nat → Int32} {tw : Nat → Int32} {nu : Nat → Nat → Int64} {sw : Nat → Int32} {ss : Nat → Int32} {giv : Nat → Int32} {sE : Int32} {P : Nat → Nat → Int32} {pn : Nat}  {v1 : Int32} (h : s_X5_end  C Dg nw v1)  : ng_Ev G md_X5_end 0 [some (.ref 0), some (.int v1)] [] (hn C off dear proved Dg dw nw J bef mov nxt chn tol tw nu sw ss giv sE P pn) (K_X5_end hn C off dear proved dw J bef mov nxt chn tol tw nu sw ss giv sE P pn (f_X5_end  C Dg nw v1)) := by
  unfold s_X5_end at h
  unfold f_X5_end
  refine ev_aload_n dX5_end_0 rfl rfl rfl ?_
  refine ev_get 5 0 fl_RX5_10 (NL_g0 V) rfl dX5_end_1 ?_
  refine ev_get 2 9 fl_RX5_102 (NL_g1 V) rfl dX5_end_4 ?_
  refine bk_if_eq (tgt := 32) dX5_end_7 (by decide) (fun c7 => ?_) (fun c7 => ?_)
  · refine ev_iconst (v := nI 0) dX5_end_32 (by decide) ?_
    exact ev_iret rfl (by decide) dX5_end_33
  · replace h := h c7
    refine ev_aload_n dX5_end_10 rfl rfl rfl ?_
    refine ev_get 5 2 fl_RX5_28 (NL_g0 V) rfl dX5_end_11 ?_
    refine ev_iload_n dX5_end_14 rfl rfl ?_
    refine bk_callV (As := [.int v1]) (st := []) (st2 := [.int (f_X4_isFamily nw v1)]) (M2 := hn C off dear proved Dg dw nw J bef mov nxt chn tol tw nu sw ss giv sE P pn) ok_X4_isFamily lk_RX5_123 (ng_rok.of rfl rfl) (NL_g7 V) rfl rfl rfl rfl rfl rfl dX5_end_15 (m_X4_isFamily (NL_R7 V) trivial) rfl rfl ?_
    refine bk_if_eq (tgt := 32) dX5_end_18 (by decide) (fun c18 => ?_) (fun c18 => ?_)
    · refine ev_iconst (v := nI 0) dX5_end_32 (by decide) ?_
      exact ev_iret rfl (by decide) dX5_end_33
    · replace h := h c18
      refine ev_aload_n dX5_end_21 rfl rfl rfl ?_
      refine ev_get 5 2 fl_RX5_28 (NL_g0 V) rfl dX5_end_22 ?_
      refine ev_iload_n dX5_end_25 rfl rfl ?_
      have hs26 := h.1
      replace h := h.2
      refine bk_callV (As := [.int v1]) (st := []) (st2 := [.int (f_X4_isEnded nw v1)]) (M2 := hn C off dear proved Dg dw nw J bef mov nxt chn tol tw nu sw ss giv sE P pn) ok_X4_isEnded lk_RX5_126 (ng_rok.of rfl rfl) (NL_g7 V) rfl rfl rfl rfl rfl rfl dX5_end_26 (m_X4_isEnded (NL_R7 V) hs26) rfl rfl ?_
      refine bk_if_eq (tgt := 34) dX5_end_29 (by decide) (fun c29 => ?_) (fun c29 => ?_)
      · replace h := h c29
        refine ev_aload_n dX5_end_34 rfl rfl rfl ?_
        refine ev_get 5 2 fl_RX5_28 (NL_g0 V) rfl dX5_end_35 ?_
        refine ev_iload_n dX5_end_38 rfl rfl ?_
        have hs39 := h
        refine bk_callV (As := [.int v1]) (st := []) (st2 := []) (M2 := hn C off dear proved ((f_X4_endFamily nw Dg C true v1).2) dw ((f_X4_endFamily nw Dg C true v1).1) J bef mov nxt chn tol tw nu sw ss giv sE P pn) ok_X4_endFamily lk_RX5_129 (ng_rok.of rfl rfl) (NL_g7 V) rfl rfl rfl rfl rfl rfl dX5_end_39 (m_X4_endFamily (NL_now V J bef mov nxt chn tol tw nu sw ss giv sE P pn) hs39) rfl rfl ?_
        refine ev_iconst (v := nI 1) dX5_end_42 (by decide) ?_
        exact ev_iret rfl (by decide) dX5_end_43
      · refine ev_iconst (v := nI 0) dX5_end_32 (by decide) ?_
        exact ev_iret rfl (by decide) dX5_end_33
theorem m_X5_end {G : ng_GG} {hn : (Nat → Int32) → (Nat → Int32) → (Nat → Int32) → (Nat → Int32) → (Nat → Int32) → (Nat → Int32) → (Nat → Int32) → (Nat → Int32) → (Nat → Int32) → (Nat → Int32) → (Nat → Int32) → (Nat → Int32) → (Nat → Int32) → (Nat → Int32) → (Nat → Nat → Int64) → (Nat → Int32) → (Nat → Int32) → (Nat → Int32) → Int32 → (Nat → Nat → Int32) → Nat → ng_AM}  (V : ng_NL hn ) {C : Nat → Int32} {off : Nat → Int32} {dear : Nat → Int32} {proved : Nat → Int32} {Dg : Nat → Int32} {dw : Nat → Int32} {nw : Nat → Int32} {J : Nat → Int32} {bef : Nat → Int32} {mov : Nat → Int32} {nxt : Nat → Int32} {chn : Nat → Int32} {tol : Nat → Int32} {tw : Nat → Int32} {nu : Nat → Nat → Int64} {sw : Nat → Int32} {ss : Nat → Int32} {giv : Nat → Int32} {sE : Int32} {P : Nat → Nat → Int32} {pn : Nat} {v1 : Int32} (h : s_X5_end C Dg nw v1)  : ng_Ev G md_X5_end 0 (ng_en 2 [.ref 0, .int v1]) [] (hn C off dear proved Dg dw nw J bef mov nxt chn tol tw nu sw ss giv sE P pn) (K_X5_end hn C off dear proved dw J bef mov nxt chn tol tw nu sw ss giv sE P pn (f_X5_end C Dg nw v1)) := e_X5_end V h 
def K_X5_ask (hn : (Nat → Int32) → (Nat → Int32) → (Nat → Int32) → (Nat → Int32) → (Nat → Int32) → (Nat → Int32) → (Nat → Int32) → (Nat → Int32) → (Nat → Int32) → (Nat → Int32) → (Nat → Int32) → (Nat → Int32) → (Nat → Int32) → (Nat → Int32) → (Nat → Nat → Int64) → (Nat → Int32) → (Nat → Int32) → (Nat → Int32) → Int32 → (Nat → Nat → Int32) → Nat → ng_AM) (off : Nat → Int32) (dear : Nat → Int32) (proved : Nat → Int32) (dw : Nat → Int32) (J : Nat → Int32) (bef : Nat → Int32) (mov : Nat → Int32) (nxt : Nat → Int32) (chn : Nat → Int32) (tol : Nat → Int32) (tw : Nat → Int32) (nu : Nat → Nat → Int64) (sw : Nat → Int32) (ss : Nat → Int32) (giv : Nat → Int32) (sE : Int32) (P : Nat → Nat → Int32) (pn : Nat) (r : (Nat → Int32) × (Nat → Int32) × (Nat → Int32) × Int32) : ng_RR := (some (.int (r.2.2.2)), hn (r.1) off dear proved (r.2.1) dw (r.2.2.1) J bef mov nxt chn tol tw nu sw ss giv sE P pn)
def f_X5_ask_40  (C : Nat → Int32) (Dg : Nat → Int32) (nw : Nat → Int32) (v1 : Int32) (v2 : Int32) (v3 : Int32) (t0 : Int32) : (Nat → Int32) × (Nat → Int32) × (Nat → Int32) × Int32 := (C, (f_X4_post nw Dg C true v1 (nI 9) (nI 0) v2 v3 t0).2, (f_X4_post nw Dg C true v1 (nI 9) (nI 0) v2 v3 t0).1, t0)
def s_X5_ask_40  (C : Nat → Int32) (Dg : Nat → Int32) (nw : Nat → Int32) (v1 : Int32) (v2 : Int32) (v3 : Int32) (t0 : Int32) : Prop := s_X4_post nw Dg C true v1 (nI 9) (nI 0) v2 v3 t0
set_option maxRecDepth 100000 in
set_option maxHeartbeats 4000000 in
theorem e_X5_ask_40 {G : ng_GG} {hn : (Nat → Int32) → (Nat → Int32) → (Nat → Int32) → (Nat → Int32) → (Nat → Int32) → (Nat → Int32) → (Nat → Int32) → (Nat → Int32) → (Nat → Int32) → (Nat → Int32) → (Nat → Int32) → (Nat → Int32) → (Nat → Int32) → (Nat → Int32) → (Nat → Nat → Int64) → (Nat → Int32) → (Nat → Int32) → (Nat → Int32) → Int32 → (Nat → Nat → Int32) → Nat → ng_AM}  (V : ng_NL hn ) {C : Nat → Int32} {off : Nat → Int32} {dear : Nat → Int32} {proved : Nat → Int32} {Dg : Nat → Int32} {dw : Nat → Int32} {nw : Nat → Int32} {J : Nat → Int32} {bef : Nat → Int32} {mov : Nat → Int32} {nxt : Nat → Int32} {chn : Nat → Int32} {tol : Nat → Int32} {tw : Nat → Int32} {nu : Nat → Nat → Int64} {sw : Nat → Int32} {ss : Nat → Int32} {giv : Nat → Int32} {sE : Int32} {P : Nat → Nat → Int32} {pn : Nat}  {v1 : Int32} {v2 : Int32} {v3 : Int32} {t0 : Int32} (h : s_X5_ask_40  C Dg nw v1 v2 v3 t0)  : ng_Ev G md_X5_ask 40 [some (.ref 0), some (.int v1), some (.int v2), some (.int v3), none] [.int t0] (hn C off dear proved Dg dw nw J bef mov nxt chn tol tw nu sw ss giv sE P pn) (K_X5_ask hn off dear proved dw J bef mov nxt chn tol tw nu sw ss giv sE P pn (f_X5_ask_40  C Dg nw v1 v2 v3 t0)) := by
  unfold s_X5_ask_40 at h
  unfold f_X5_ask_40
  refine ev_istore (L' := [some (.ref 0), some (.int v1), some (.int v2), some (.int v3), some (.int t0)]) dX5_ask_40 (ng_lt rfl) rfl ?_
  refine ev_aload_n dX5_ask_42 rfl rfl rfl ?_
  refine ev_get 5 2 fl_RX5_28 (NL_g0 V) rfl dX5_ask_43 ?_
  refine ev_iload_n dX5_ask_46 rfl rfl ?_
  refine ev_bipush (v := nI 9) dX5_ask_47 (by decide) ?_
  refine ev_iconst (v := nI 0) dX5_ask_49 (by decide) ?_
  refine ev_iload_n dX5_ask_50 rfl rfl ?_
  refine ev_iload_n dX5_ask_51 rfl rfl ?_
  refine ev_iload dX5_ask_52 rfl ?_
  have hs54 := h
  refine bk_callV (As := [.int v1, .int (nI 9), .int (nI 0), .int v2, .int v3, .int t0]) (st := []) (st2 := []) (M2 := hn C off dear proved ((f_X4_post nw Dg C true v1 (nI 9) (nI 0) v2 v3 t0).2) dw ((f_X4_post nw Dg C true v1 (nI 9) (nI 0) v2 v3 t0).1) J bef mov nxt chn tol tw nu sw ss giv sE P pn) ok_X4_post lk_RX5_138 (ng_rok.of rfl rfl) (NL_g7 V) rfl rfl rfl rfl rfl rfl dX5_ask_54 (m_X4_post (NL_now V J bef mov nxt chn tol tw nu sw ss giv sE P pn) hs54) rfl rfl ?_
  refine ev_iload dX5_ask_57 rfl ?_
  exact ev_iret rfl rfl dX5_ask_59
def f_X5_ask  (C : Nat → Int32) (Dg : Nat → Int32) (nw : Nat → Int32) (v1 : Int32) (v2 : Int32) (v3 : Int32) : (Nat → Int32) × (Nat → Int32) × (Nat → Int32) × Int32 := (if (f_X5_isBrowser v1) = 0 then (C, Dg, nw, (-2)) else (if (f_X2_isHouse C v2) = 0 then (C, Dg, nw, (-2)) else (if (f_X5_within v3 (nI 1) (nI 255)) = 0 then (C, Dg, nw, (-2)) else f_X5_ask_40 ((f_X4_givePair nw C v1).2.1) Dg ((f_X4_givePair nw C v1).1) v1 v2 v3 ((f_X4_givePair nw C v1).2.2))))
def s_X5_ask  (C : Nat → Int32) (Dg : Nat → Int32) (nw : Nat → Int32) (v1 : Int32) (v2 : Int32) (v3 : Int32) : Prop := (¬ (f_X5_isBrowser v1) = 0 → (¬ (f_X2_isHouse C v2) = 0 → (¬ (f_X5_within v3 (nI 1) (nI 255)) = 0 → (s_X4_givePair nw C v1 ∧ s_X5_ask_40 ((f_X4_givePair nw C v1).2.1) Dg ((f_X4_givePair nw C v1).1) v1 v2 v3 ((f_X4_givePair nw C v1).2.2)))))
set_option maxRecDepth 100000 in
set_option maxHeartbeats 4000000 in
theorem e_X5_ask {G : ng_GG} {hn : (Nat → Int32) → (Nat → Int32) → (Nat → Int32) → (Nat → Int32) → (Nat → Int32) → (Nat → Int32) → (Nat → Int32) → (Nat → Int32) → (Nat → Int32) → (Nat → Int32) → (Nat → Int32) → (Nat → Int32) → (Nat → Int32) → (Nat → Int32) → (Nat → Nat → Int64) → (Nat → Int32) → (Nat → Int32) → (Nat → Int32) → Int32 → (Nat → Nat → Int32) → Nat → ng_AM}  (V : ng_NL hn ) {C : Nat → Int32} {off : Nat → Int32} {dear : Nat → Int32} {proved : Nat → Int32} {Dg : Nat → Int32} {dw : Nat → Int32} {nw : Nat → Int32} {J : Nat → Int32} {bef : Nat → Int32} {mov : Nat → Int32} {nxt : Nat → Int32} {chn : Nat → Int32} {tol : Nat → Int32} {tw : Nat → Int32} {nu : Nat → Nat → Int64} {sw : Nat → Int32} {ss : Nat → Int32} {giv : Nat → Int32} {sE : Int32} {P : Nat → Nat → Int32} {pn : Nat}  {v1 : Int32} {v2 : Int32} {v3 : Int32} (h : s_X5_ask  C Dg nw v1 v2 v3)  : ng_Ev G md_X5_ask 0 [some (.ref 0), some (.int v1), some (.int v2), some (.int v3), none] [] (hn C off dear proved Dg dw nw J bef mov nxt chn tol tw nu sw ss giv sE P pn) (K_X5_ask hn off dear proved dw J bef mov nxt chn tol tw nu sw ss giv sE P pn (f_X5_ask  C Dg nw v1 v2 v3)) := by
  unfold s_X5_ask at h
  unfold f_X5_ask
  refine ev_iload_n dX5_ask_0 rfl rfl ?_
  refine bk_callS (As := [.int v1]) (st := []) (st2 := [.int (f_X5_isBrowser v1)]) (M2 := hn C off dear proved Dg dw nw J bef mov nxt chn tol tw nu sw ss giv sE P pn) ok_X5_isBrowser lk_RX5_109 (ng_rok.of rfl rfl) rfl rfl rfl rfl dX5_ask_1 (m_X5_isBrowser trivial) rfl rfl ?_
  refine bk_if_eq (tgt := 29) dX5_ask_4 (by decide) (fun c4 => ?_) (fun c4 => ?_)
  · refine ev_bipush (v := (-2)) dX5_ask_29 (by decide) ?_
    exact ev_iret rfl rfl dX5_ask_31
  · replace h := h c4
    refine ev_aload_n dX5_ask_7 rfl rfl rfl ?_
    refine ev_get 5 0 fl_RX5_10 (NL_g0 V) rfl dX5_ask_8 ?_
    refine ev_iload_n dX5_ask_11 rfl rfl ?_
    refine bk_callV (As := [.int v2]) (st := []) (st2 := [.int (f_X2_isHouse C v2)]) (M2 := hn C off dear proved Dg dw nw J bef mov nxt chn tol tw nu sw ss giv sE P pn) ok_X2_isHouse lk_RX5_132 (ng_rok.of rfl rfl) (NL_g1 V) rfl rfl rfl rfl rfl rfl dX5_ask_12 (m_X2_isHouse (NL_RS V) trivial) rfl rfl ?_
    refine bk_if_eq (tgt := 29) dX5_ask_15 (by decide) (fun c15 => ?_) (fun c15 => ?_)
    · refine ev_bipush (v := (-2)) dX5_ask_29 (by decide) ?_
      exact ev_iret rfl rfl dX5_ask_31
    · replace h := h c15
      refine ev_iload_n dX5_ask_18 rfl rfl ?_
      refine ev_iconst (v := nI 1) dX5_ask_19 (by decide) ?_
      refine ev_sipush (v := nI 255) dX5_ask_20 (by decide) ?_
      refine bk_callS (As := [.int v3, .int (nI 1), .int (nI 255)]) (st := []) (st2 := [.int (f_X5_within v3 (nI 1) (nI 255))]) (M2 := hn C off dear proved Dg dw nw J bef mov nxt chn tol tw nu sw ss giv sE P pn) ok_X5_within lk_RX5_56 (ng_rok.of rfl rfl) rfl rfl rfl rfl dX5_ask_23 (m_X5_within trivial) rfl rfl ?_
      refine bk_if_ne (tgt := 32) dX5_ask_26 (by decide) (fun c26 => ?_) (fun c26 => ?_)
      · replace h := h c26
        refine ev_aload_n dX5_ask_32 rfl rfl rfl ?_
        refine ev_get 5 2 fl_RX5_28 (NL_g0 V) rfl dX5_ask_33 ?_
        refine ev_iload_n dX5_ask_36 rfl rfl ?_
        have hs37 := h.1
        replace h := h.2
        refine bk_callV (As := [.int v1]) (st := []) (st2 := [.int ((f_X4_givePair nw C v1).2.2)]) (M2 := hn ((f_X4_givePair nw C v1).2.1) off dear proved Dg dw ((f_X4_givePair nw C v1).1) J bef mov nxt chn tol tw nu sw ss giv sE P pn) ok_X4_givePair lk_RX5_135 (ng_rok.of rfl rfl) (NL_g7 V) rfl rfl rfl rfl rfl rfl dX5_ask_37 (m_X4_givePair (NL_now V J bef mov nxt chn tol tw nu sw ss giv sE P pn) hs37) rfl rfl ?_
        exact ev_sub (e_X5_ask_40 V h) (sub_s (sub_s (sub_s (sub_s (sub_n sub_e)))))
      · refine ev_bipush (v := (-2)) dX5_ask_29 (by decide) ?_
        exact ev_iret rfl rfl dX5_ask_31
theorem m_X5_ask {G : ng_GG} {hn : (Nat → Int32) → (Nat → Int32) → (Nat → Int32) → (Nat → Int32) → (Nat → Int32) → (Nat → Int32) → (Nat → Int32) → (Nat → Int32) → (Nat → Int32) → (Nat → Int32) → (Nat → Int32) → (Nat → Int32) → (Nat → Int32) → (Nat → Int32) → (Nat → Nat → Int64) → (Nat → Int32) → (Nat → Int32) → (Nat → Int32) → Int32 → (Nat → Nat → Int32) → Nat → ng_AM}  (V : ng_NL hn ) {C : Nat → Int32} {off : Nat → Int32} {dear : Nat → Int32} {proved : Nat → Int32} {Dg : Nat → Int32} {dw : Nat → Int32} {nw : Nat → Int32} {J : Nat → Int32} {bef : Nat → Int32} {mov : Nat → Int32} {nxt : Nat → Int32} {chn : Nat → Int32} {tol : Nat → Int32} {tw : Nat → Int32} {nu : Nat → Nat → Int64} {sw : Nat → Int32} {ss : Nat → Int32} {giv : Nat → Int32} {sE : Int32} {P : Nat → Nat → Int32} {pn : Nat} {v1 : Int32} {v2 : Int32} {v3 : Int32} (h : s_X5_ask C Dg nw v1 v2 v3)  : ng_Ev G md_X5_ask 0 (ng_en 5 [.ref 0, .int v1, .int v2, .int v3]) [] (hn C off dear proved Dg dw nw J bef mov nxt chn tol tw nu sw ss giv sE P pn) (K_X5_ask hn off dear proved dw J bef mov nxt chn tol tw nu sw ss giv sE P pn (f_X5_ask C Dg nw v1 v2 v3)) := e_X5_ask V h 
def K_X5_turn (hn : (Nat → Int32) → (Nat → Int32) → (Nat → Int32) → (Nat → Int32) → (Nat → Int32) → (Nat → Int32) → (Nat → Int32) → (Nat → Int32) → (Nat → Int32) → (Nat → Int32) → (Nat → Int32) → (Nat → Int32) → (Nat → Int32) → (Nat → Int32) → (Nat → Nat → Int64) → (Nat → Int32) → (Nat → Int32) → (Nat → Int32) → Int32 → (Nat → Nat → Int32) → Nat → ng_AM) (off : Nat → Int32) (dear : Nat → Int32) (proved : Nat → Int32) (dw : Nat → Int32) (J : Nat → Int32) (bef : Nat → Int32) (mov : Nat → Int32) (nxt : Nat → Int32) (chn : Nat → Int32) (tol : Nat → Int32) (tw : Nat → Int32) (nu : Nat → Nat → Int64) (sw : Nat → Int32) (ss : Nat → Int32) (giv : Nat → Int32) (sE : Int32) (P : Nat → Nat → Int32) (pn : Nat) (r : (Nat → Int32) × (Nat → Int32) × (Nat → Int32) × Int32) : ng_RR := (some (.int (r.2.2.2)), hn (r.1) off dear proved (r.2.1) dw (r.2.2.1) J bef mov nxt chn tol tw nu sw ss giv sE P pn)
def f_X5_turn_57  (C : Nat → Int32) (Dg : Nat → Int32) (nw : Nat → Int32) (v1 : Int32) (v2 : Int32) (t0 : Int32) : (Nat → Int32) × (Nat → Int32) × (Nat → Int32) × Int32 := (C, (f_X4_post nw Dg C true v1 (nI 9) (nI 3) v2 (-1) t0).2, (f_X4_post nw Dg C true v1 (nI 9) (nI 3) v2 (-1) t0).1, t0)
def s_X5_turn_57  (C : Nat → Int32) (Dg : Nat → Int32) (nw : Nat → Int32) (v1 : Int32) (v2 : Int32) (t0 : Int32) : Prop := s_X4_post nw Dg C true v1 (nI 9) (nI 3) v2 (-1) t0
set_option maxRecDepth 100000 in
set_option maxHeartbeats 4000000 in
theorem e_X5_turn_57 {G : ng_GG} {hn : (Nat → Int32) → (Nat → Int32) → (Nat → Int32) → (Nat → Int32) → (Nat → Int32) → (Nat → Int32) → (Nat → Int32) → (Nat → Int32) → (Nat → Int32) → (Nat → Int32) → (Nat → Int32) → (Nat → Int32) → (Nat → Int32) → (Nat → Int32) → (Nat → Nat → Int64) → (Nat → Int32) → (Nat → Int32) → (Nat → Int32) → Int32 → (Nat → Nat → Int32) → Nat → ng_AM}  (V : ng_NL hn ) {C : Nat → Int32} {off : Nat → Int32} {dear : Nat → Int32} {proved : Nat → Int32} {Dg : Nat → Int32} {dw : Nat → Int32} {nw : Nat → Int32} {J : Nat → Int32} {bef : Nat → Int32} {mov : Nat → Int32} {nxt : Nat → Int32} {chn : Nat → Int32} {tol : Nat → Int32} {tw : Nat → Int32} {nu : Nat → Nat → Int64} {sw : Nat → Int32} {ss : Nat → Int32} {giv : Nat → Int32} {sE : Int32} {P : Nat → Nat → Int32} {pn : Nat}  {v1 : Int32} {v2 : Int32} {t0 : Int32} (h : s_X5_turn_57  C Dg nw v1 v2 t0)  : ng_Ev G md_X5_turn 57 [some (.ref 0), some (.int v1), some (.int v2), none] [.int t0] (hn C off dear proved Dg dw nw J bef mov nxt chn tol tw nu sw ss giv sE P pn) (K_X5_turn hn off dear proved dw J bef mov nxt chn tol tw nu sw ss giv sE P pn (f_X5_turn_57  C Dg nw v1 v2 t0)) := by
  unfold s_X5_turn_57 at h
  unfold f_X5_turn_57
  refine ev_istore_n (L' := [some (.ref 0), some (.int v1), some (.int v2), some (.int t0)]) dX5_turn_57 rfl (ng_lt rfl) rfl ?_
  refine ev_aload_n dX5_turn_58 rfl rfl rfl ?_
  refine ev_get 5 2 fl_RX5_28 (NL_g0 V) rfl dX5_turn_59 ?_
  refine ev_iload_n dX5_turn_62 rfl rfl ?_
  refine ev_bipush (v := nI 9) dX5_turn_63 (by decide) ?_
  refine ev_iconst (v := nI 3) dX5_turn_65 (by decide) ?_
  refine ev_iload_n dX5_turn_66 rfl rfl ?_
  refine ev_iconst (v := (-1)) dX5_turn_67 (by decide) ?_
  refine ev_iload_n dX5_turn_68 rfl rfl ?_
  have hs69 := h
  refine bk_callV (As := [.int v1, .int (nI 9), .int (nI 3), .int v2, .int (-1), .int t0]) (st := []) (st2 := []) (M2 := hn C off dear proved ((f_X4_post nw Dg C true v1 (nI 9) (nI 3) v2 (-1) t0).2) dw ((f_X4_post nw Dg C true v1 (nI 9) (nI 3) v2 (-1) t0).1) J bef mov nxt chn tol tw nu sw ss giv sE P pn) ok_X4_post lk_RX5_138 (ng_rok.of rfl rfl) (NL_g7 V) rfl rfl rfl rfl rfl rfl dX5_turn_69 (m_X4_post (NL_now V J bef mov nxt chn tol tw nu sw ss giv sE P pn) hs69) rfl rfl ?_
  refine ev_iload_n dX5_turn_72 rfl rfl ?_
  exact ev_iret rfl rfl dX5_turn_73
def f_X5_turn  (C : Nat → Int32) (Dg : Nat → Int32) (nw : Nat → Int32) (v1 : Int32) (v2 : Int32) : (Nat → Int32) × (Nat → Int32) × (Nat → Int32) × Int32 := (if (f_X5_isBrowser v1) = 0 then (C, Dg, nw, (-2)) else (if (f_X4_isNote nw v2) = 0 then (C, Dg, nw, (-2)) else (if (f_X4_has nw v1 v2) = 0 then (C, Dg, nw, (-3)) else (if (f_X4_noteWord nw v2 (nI 0)) = (nI 1) then f_X5_turn_57 ((f_X4_givePair nw C v1).2.1) Dg ((f_X4_givePair nw C v1).1) v1 v2 ((f_X4_givePair nw C v1).2.2) else (C, Dg, nw, (-3))))))
def s_X5_turn  (C : Nat → Int32) (Dg : Nat → Int32) (nw : Nat → Int32) (v1 : Int32) (v2 : Int32) : Prop := (¬ (f_X5_isBrowser v1) = 0 → (¬ (f_X4_isNote nw v2) = 0 → (s_X4_has nw v1 v2 ∧ (¬ (f_X4_has nw v1 v2) = 0 → (s_X4_noteWord nw v2 (nI 0) ∧ ((f_X4_noteWord nw v2 (nI 0)) = (nI 1) → (s_X4_givePair nw C v1 ∧ s_X5_turn_57 ((f_X4_givePair nw C v1).2.1) Dg ((f_X4_givePair nw C v1).1) v1 v2 ((f_X4_givePair nw C v1).2.2))))))))
set_option maxRecDepth 100000 in
set_option maxHeartbeats 4000000 in
theorem e_X5_turn {G : ng_GG} {hn : (Nat → Int32) → (Nat → Int32) → (Nat → Int32) → (Nat → Int32) → (Nat → Int32) → (Nat → Int32) → (Nat → Int32) → (Nat → Int32) → (Nat → Int32) → (Nat → Int32) → (Nat → Int32) → (Nat → Int32) → (Nat → Int32) → (Nat → Int32) → (Nat → Nat → Int64) → (Nat → Int32) → (Nat → Int32) → (Nat → Int32) → Int32 → (Nat → Nat → Int32) → Nat → ng_AM}  (V : ng_NL hn ) {C : Nat → Int32} {off : Nat → Int32} {dear : Nat → Int32} {proved : Nat → Int32} {Dg : Nat → Int32} {dw : Nat → Int32} {nw : Nat → Int32} {J : Nat → Int32} {bef : Nat → Int32} {mov : Nat → Int32} {nxt : Nat → Int32} {chn : Nat → Int32} {tol : Nat → Int32} {tw : Nat → Int32} {nu : Nat → Nat → Int64} {sw : Nat → Int32} {ss : Nat → Int32} {giv : Nat → Int32} {sE : Int32} {P : Nat → Nat → Int32} {pn : Nat}  {v1 : Int32} {v2 : Int32} (h : s_X5_turn  C Dg nw v1 v2)  : ng_Ev G md_X5_turn 0 [some (.ref 0), some (.int v1), some (.int v2), none] [] (hn C off dear proved Dg dw nw J bef mov nxt chn tol tw nu sw ss giv sE P pn) (K_X5_turn hn off dear proved dw J bef mov nxt chn tol tw nu sw ss giv sE P pn (f_X5_turn  C Dg nw v1 v2)) := by
  unfold s_X5_turn at h
  unfold f_X5_turn
  refine ev_iload_n dX5_turn_0 rfl rfl ?_
  refine bk_callS (As := [.int v1]) (st := []) (st2 := [.int (f_X5_isBrowser v1)]) (M2 := hn C off dear proved Dg dw nw J bef mov nxt chn tol tw nu sw ss giv sE P pn) ok_X5_isBrowser lk_RX5_109 (ng_rok.of rfl rfl) rfl rfl rfl rfl dX5_turn_1 (m_X5_isBrowser trivial) rfl rfl ?_
  refine bk_if_eq (tgt := 18) dX5_turn_4 (by decide) (fun c4 => ?_) (fun c4 => ?_)
  · refine ev_bipush (v := (-2)) dX5_turn_18 (by decide) ?_
    exact ev_iret rfl rfl dX5_turn_20
  · replace h := h c4
    refine ev_aload_n dX5_turn_7 rfl rfl rfl ?_
    refine ev_get 5 2 fl_RX5_28 (NL_g0 V) rfl dX5_turn_8 ?_
    refine ev_iload_n dX5_turn_11 rfl rfl ?_
    refine bk_callV (As := [.int v2]) (st := []) (st2 := [.int (f_X4_isNote nw v2)]) (M2 := hn C off dear proved Dg dw nw J bef mov nxt chn tol tw nu sw ss giv sE P pn) ok_X4_isNote lk_RX5_142 (ng_rok.of rfl rfl) (NL_g7 V) rfl rfl rfl rfl rfl rfl dX5_turn_12 (m_X4_isNote (NL_R7 V) trivial) rfl rfl ?_
    refine bk_if_ne (tgt := 21) dX5_turn_15 (by decide) (fun c15 => ?_) (fun c15 => ?_)
    · replace h := h c15
      refine ev_aload_n dX5_turn_21 rfl rfl rfl ?_
      refine ev_get 5 2 fl_RX5_28 (NL_g0 V) rfl dX5_turn_22 ?_
      refine ev_iload_n dX5_turn_25 rfl rfl ?_
      refine ev_iload_n dX5_turn_26 rfl rfl ?_
      have hs27 := h.1
      replace h := h.2
      refine bk_callV (As := [.int v1, .int v2]) (st := []) (st2 := [.int (f_X4_has nw v1 v2)]) (M2 := hn C off dear proved Dg dw nw J bef mov nxt chn tol tw nu sw ss giv sE P pn) ok_X4_has lk_RX5_145 (ng_rok.of rfl rfl) (NL_g7 V) rfl rfl rfl rfl rfl rfl dX5_turn_27 (m_X4_has (NL_R7 V) hs27) rfl rfl ?_
      refine bk_if_eq (tgt := 46) dX5_turn_30 (by decide) (fun c30 => ?_) (fun c30 => ?_)
      · refine ev_bipush (v := (-3)) dX5_turn_46 (by decide) ?_
        exact ev_iret rfl rfl dX5_turn_48
      · replace h := h c30
        refine ev_aload_n dX5_turn_33 rfl rfl rfl ?_
        refine ev_get 5 2 fl_RX5_28 (NL_g0 V) rfl dX5_turn_34 ?_
        refine ev_iload_n dX5_turn_37 rfl rfl ?_
        refine ev_iconst (v := nI 0) dX5_turn_38 (by decide) ?_
        have hs39 := h.1
        replace h := h.2
        refine bk_callV (As := [.int v2, .int (nI 0)]) (st := []) (st2 := [.int (f_X4_noteWord nw v2 (nI 0))]) (M2 := hn C off dear proved Dg dw nw J bef mov nxt chn tol tw nu sw ss giv sE P pn) ok_X4_noteWord lk_RX5_149 (ng_rok.of rfl rfl) (NL_g7 V) rfl rfl rfl rfl rfl rfl dX5_turn_39 (m_X4_noteWord (NL_R7 V) hs39) rfl rfl ?_
        refine ev_iconst (v := nI 1) dX5_turn_42 (by decide) ?_
        refine bk_icmp_eq (tgt := 49) dX5_turn_43 (by decide) (fun c43 => ?_) (fun c43 => ?_)
        · replace h := h c43
          refine ev_aload_n dX5_turn_49 rfl rfl rfl ?_
          refine ev_get 5 2 fl_RX5_28 (NL_g0 V) rfl dX5_turn_50 ?_
          refine ev_iload_n dX5_turn_53 rfl rfl ?_
          have hs54 := h.1
          replace h := h.2
          refine bk_callV (As := [.int v1]) (st := []) (st2 := [.int ((f_X4_givePair nw C v1).2.2)]) (M2 := hn ((f_X4_givePair nw C v1).2.1) off dear proved Dg dw ((f_X4_givePair nw C v1).1) J bef mov nxt chn tol tw nu sw ss giv sE P pn) ok_X4_givePair lk_RX5_135 (ng_rok.of rfl rfl) (NL_g7 V) rfl rfl rfl rfl rfl rfl dX5_turn_54 (m_X4_givePair (NL_now V J bef mov nxt chn tol tw nu sw ss giv sE P pn) hs54) rfl rfl ?_
          exact ev_sub (e_X5_turn_57 V h) (sub_s (sub_s (sub_s (sub_n sub_e))))
        · refine ev_bipush (v := (-3)) dX5_turn_46 (by decide) ?_
          exact ev_iret rfl rfl dX5_turn_48
    · refine ev_bipush (v := (-2)) dX5_turn_18 (by decide) ?_
      exact ev_iret rfl rfl dX5_turn_20
theorem m_X5_turn {G : ng_GG} {hn : (Nat → Int32) → (Nat → Int32) → (Nat → Int32) → (Nat → Int32) → (Nat → Int32) → (Nat → Int32) → (Nat → Int32) → (Nat → Int32) → (Nat → Int32) → (Nat → Int32) → (Nat → Int32) → (Nat → Int32) → (Nat → Int32) → (Nat → Int32) → (Nat → Nat → Int64) → (Nat → Int32) → (Nat → Int32) → (Nat → Int32) → Int32 → (Nat → Nat → Int32) → Nat → ng_AM}  (V : ng_NL hn ) {C : Nat → Int32} {off : Nat → Int32} {dear : Nat → Int32} {proved : Nat → Int32} {Dg : Nat → Int32} {dw : Nat → Int32} {nw : Nat → Int32} {J : Nat → Int32} {bef : Nat → Int32} {mov : Nat → Int32} {nxt : Nat → Int32} {chn : Nat → Int32} {tol : Nat → Int32} {tw : Nat → Int32} {nu : Nat → Nat → Int64} {sw : Nat → Int32} {ss : Nat → Int32} {giv : Nat → Int32} {sE : Int32} {P : Nat → Nat → Int32} {pn : Nat} {v1 : Int32} {v2 : Int32} (h : s_X5_turn C Dg nw v1 v2)  : ng_Ev G md_X5_turn 0 (ng_en 4 [.ref 0, .int v1, .int v2]) [] (hn C off dear proved Dg dw nw J bef mov nxt chn tol tw nu sw ss giv sE P pn) (K_X5_turn hn off dear proved dw J bef mov nxt chn tol tw nu sw ss giv sE P pn (f_X5_turn C Dg nw v1 v2)) := e_X5_turn V h 
def K_X5_show (hn : (Nat → Int32) → (Nat → Int32) → (Nat → Int32) → (Nat → Int32) → (Nat → Int32) → (Nat → Int32) → (Nat → Int32) → (Nat → Int32) → (Nat → Int32) → (Nat → Int32) → (Nat → Int32) → (Nat → Int32) → (Nat → Int32) → (Nat → Int32) → (Nat → Nat → Int64) → (Nat → Int32) → (Nat → Int32) → (Nat → Int32) → Int32 → (Nat → Nat → Int32) → Nat → ng_AM) (C : Nat → Int32) (off : Nat → Int32) (dear : Nat → Int32) (proved : Nat → Int32) (dw : Nat → Int32) (J : Nat → Int32) (bef : Nat → Int32) (mov : Nat → Int32) (nxt : Nat → Int32) (chn : Nat → Int32) (tol : Nat → Int32) (tw : Nat → Int32) (nu : Nat → Nat → Int64) (sw : Nat → Int32) (ss : Nat → Int32) (giv : Nat → Int32) (sE : Int32) (P : Nat → Nat → Int32) (pn : Nat) (r : (Nat → Int32) × (Nat → Int32) × Int32) : ng_RR := (some (.int (r.2.2)), hn C off dear proved (r.1) dw (r.2.1) J bef mov nxt chn tol tw nu sw ss giv sE P pn)
def f_X5_show  (C : Nat → Int32) (Dg : Nat → Int32) (nw : Nat → Int32) (v1 : Int32) (v2 : Int32) (v3 : Int32) (v4 : Int32) : (Nat → Int32) × (Nat → Int32) × Int32 := (if (f_X2_isHouse C v2) = 0 then (Dg, nw, nI 0) else (if (f_X5_isRight v4) = 0 then (Dg, nw, nI 0) else (if (f_X4_has nw v1 v3) = 0 then (Dg, nw, nI 0) else ((f_X4_post nw Dg C true v1 ((nI 5) + v2) (nI 2) v3 v4 (nI 0)).2, (f_X4_post nw Dg C true v1 ((nI 5) + v2) (nI 2) v3 v4 (nI 0)).1, nI 1))))
def s_X5_show  (C : Nat → Int32) (Dg : Nat → Int32) (nw : Nat → Int32) (v1 : Int32) (v2 : Int32) (v3 : Int32) (v4 : Int32) : Prop := (¬ (f_X2_isHouse C v2) = 0 → (¬ (f_X5_isRight v4) = 0 → (s_X4_has nw v1 v3 ∧ (¬ (f_X4_has nw v1 v3) = 0 → s_X4_post nw Dg C true v1 ((nI 5) + v2) (nI 2) v3 v4 (nI 0)))))
set_option maxRecDepth 100000 in
set_option maxHeartbeats 4000000 in
theorem e_X5_show {G : ng_GG} {hn : (Nat → Int32) → (Nat → Int32) → (Nat → Int32) → (Nat → Int32) → (Nat → Int32) → (Nat → Int32) → (Nat → Int32) → (Nat → Int32) → (Nat → Int32) → (Nat → Int32) → (Nat → Int32) → (Nat → Int32) → (Nat → Int32) → (Nat → Int32) → (Nat → Nat → Int64) → (Nat → Int32) → (Nat → Int32) → (Nat → Int32) → Int32 → (Nat → Nat → Int32) → Nat → ng_AM}  (V : ng_NL hn ) {C : Nat → Int32} {off : Nat → Int32} {dear : Nat → Int32} {proved : Nat → Int32} {Dg : Nat → Int32} {dw : Nat → Int32} {nw : Nat → Int32} {J : Nat → Int32} {bef : Nat → Int32} {mov : Nat → Int32} {nxt : Nat → Int32} {chn : Nat → Int32} {tol : Nat → Int32} {tw : Nat → Int32} {nu : Nat → Nat → Int64} {sw : Nat → Int32} {ss : Nat → Int32} {giv : Nat → Int32} {sE : Int32} {P : Nat → Nat → Int32} {pn : Nat}  {v1 : Int32} {v2 : Int32} {v3 : Int32} {v4 : Int32} (h : s_X5_show  C Dg nw v1 v2 v3 v4)  : ng_Ev G md_X5_show 0 [some (.ref 0), some (.int v1), some (.int v2), some (.int v3), some (.int v4)] [] (hn C off dear proved Dg dw nw J bef mov nxt chn tol tw nu sw ss giv sE P pn) (K_X5_show hn C off dear proved dw J bef mov nxt chn tol tw nu sw ss giv sE P pn (f_X5_show  C Dg nw v1 v2 v3 v4)) := by
  unfold s_X5_show at h
  unfold f_X5_show
  refine ev_aload_n dX5_show_0 rfl rfl rfl ?_
  refine ev_get 5 0 fl_RX5_10 (NL_g0 V) rfl dX5_show_1 ?_
  refine ev_iload_n dX5_show_4 rfl rfl ?_
  refine bk_callV (As := [.int v2]) (st := []) (st2 := [.int (f_X2_isHouse C v2)]) (M2 := hn C off dear proved Dg dw nw J bef mov nxt chn tol tw nu sw ss giv sE P pn) ok_X2_isHouse lk_RX5_132 (ng_rok.of rfl rfl) (NL_g1 V) rfl rfl rfl rfl rfl rfl dX5_show_5 (m_X2_isHouse (NL_RS V) trivial) rfl rfl ?_
  refine bk_if_eq (tgt := 31) dX5_show_8 (by decide) (fun c8 => ?_) (fun c8 => ?_)
  · refine ev_iconst (v := nI 0) dX5_show_31 (by decide) ?_
    exact ev_iret rfl (by decide) dX5_show_32
  · replace h := h c8
    refine ev_iload dX5_show_11 rfl ?_
    refine bk_callS (As := [.int v4]) (st := []) (st2 := [.int (f_X5_isRight v4)]) (M2 := hn C off dear proved Dg dw nw J bef mov nxt chn tol tw nu sw ss giv sE P pn) ok_X5_isRight lk_RX5_153 (ng_rok.of rfl rfl) rfl rfl rfl rfl dX5_show_13 (m_X5_isRight trivial) rfl rfl ?_
    refine bk_if_eq (tgt := 31) dX5_show_16 (by decide) (fun c16 => ?_) (fun c16 => ?_)
    · refine ev_iconst (v := nI 0) dX5_show_31 (by decide) ?_
      exact ev_iret rfl (by decide) dX5_show_32
    · replace h := h c16
      refine ev_aload_n dX5_show_19 rfl rfl rfl ?_
      refine ev_get 5 2 fl_RX5_28 (NL_g0 V) rfl dX5_show_20 ?_
      refine ev_iload_n dX5_show_23 rfl rfl ?_
      refine ev_iload_n dX5_show_24 rfl rfl ?_
      have hs25 := h.1
      replace h := h.2
      refine bk_callV (As := [.int v1, .int v3]) (st := []) (st2 := [.int (f_X4_has nw v1 v3)]) (M2 := hn C off dear proved Dg dw nw J bef mov nxt chn tol tw nu sw ss giv sE P pn) ok_X4_has lk_RX5_145 (ng_rok.of rfl rfl) (NL_g7 V) rfl rfl rfl rfl rfl rfl dX5_show_25 (m_X4_has (NL_R7 V) hs25) rfl rfl ?_
      refine bk_if_ne (tgt := 33) dX5_show_28 (by decide) (fun c28 => ?_) (fun c28 => ?_)
      · replace h := h c28
        refine ev_aload_n dX5_show_33 rfl rfl rfl ?_
        refine ev_get 5 2 fl_RX5_28 (NL_g0 V) rfl dX5_show_34 ?_
        refine ev_iload_n dX5_show_37 rfl rfl ?_
        refine ev_iconst (v := nI 5) dX5_show_38 (by decide) ?_
        refine ev_iload_n dX5_show_39 rfl rfl ?_
        refine ev_iadd dX5_show_40 ?_
        refine ev_iconst (v := nI 2) dX5_show_41 (by decide) ?_
        refine ev_iload_n dX5_show_42 rfl rfl ?_
        refine ev_iload dX5_show_43 rfl ?_
        refine ev_iconst (v := nI 0) dX5_show_45 (by decide) ?_
        have hs46 := h
        refine bk_callV (As := [.int v1, .int ((nI 5) + v2), .int (nI 2), .int v3, .int v4, .int (nI 0)]) (st := []) (st2 := []) (M2 := hn C off dear proved ((f_X4_post nw Dg C true v1 ((nI 5) + v2) (nI 2) v3 v4 (nI 0)).2) dw ((f_X4_post nw Dg C true v1 ((nI 5) + v2) (nI 2) v3 v4 (nI 0)).1) J bef mov nxt chn tol tw nu sw ss giv sE P pn) ok_X4_post lk_RX5_138 (ng_rok.of rfl rfl) (NL_g7 V) rfl rfl rfl rfl rfl rfl dX5_show_46 (m_X4_post (NL_now V J bef mov nxt chn tol tw nu sw ss giv sE P pn) hs46) rfl rfl ?_
        refine ev_iconst (v := nI 1) dX5_show_49 (by decide) ?_
        exact ev_iret rfl (by decide) dX5_show_50
      · refine ev_iconst (v := nI 0) dX5_show_31 (by decide) ?_
        exact ev_iret rfl (by decide) dX5_show_32
theorem m_X5_show {G : ng_GG} {hn : (Nat → Int32) → (Nat → Int32) → (Nat → Int32) → (Nat → Int32) → (Nat → Int32) → (Nat → Int32) → (Nat → Int32) → (Nat → Int32) → (Nat → Int32) → (Nat → Int32) → (Nat → Int32) → (Nat → Int32) → (Nat → Int32) → (Nat → Int32) → (Nat → Nat → Int64) → (Nat → Int32) → (Nat → Int32) → (Nat → Int32) → Int32 → (Nat → Nat → Int32) → Nat → ng_AM}  (V : ng_NL hn ) {C : Nat → Int32} {off : Nat → Int32} {dear : Nat → Int32} {proved : Nat → Int32} {Dg : Nat → Int32} {dw : Nat → Int32} {nw : Nat → Int32} {J : Nat → Int32} {bef : Nat → Int32} {mov : Nat → Int32} {nxt : Nat → Int32} {chn : Nat → Int32} {tol : Nat → Int32} {tw : Nat → Int32} {nu : Nat → Nat → Int64} {sw : Nat → Int32} {ss : Nat → Int32} {giv : Nat → Int32} {sE : Int32} {P : Nat → Nat → Int32} {pn : Nat} {v1 : Int32} {v2 : Int32} {v3 : Int32} {v4 : Int32} (h : s_X5_show C Dg nw v1 v2 v3 v4)  : ng_Ev G md_X5_show 0 (ng_en 5 [.ref 0, .int v1, .int v2, .int v3, .int v4]) [] (hn C off dear proved Dg dw nw J bef mov nxt chn tol tw nu sw ss giv sE P pn) (K_X5_show hn C off dear proved dw J bef mov nxt chn tol tw nu sw ss giv sE P pn (f_X5_show C Dg nw v1 v2 v3 v4)) := e_X5_show V h 
def K_X5_hand (hn : (Nat → Int32) → (Nat → Int32) → (Nat → Int32) → (Nat → Int32) → (Nat → Int32) → (Nat → Int32) → (Nat → Int32) → (Nat → Int32) → (Nat → Int32) → (Nat → Int32) → (Nat → Int32) → (Nat → Int32) → (Nat → Int32) → (Nat → Int32) → (Nat → Nat → Int64) → (Nat → Int32) → (Nat → Int32) → (Nat → Int32) → Int32 → (Nat → Nat → Int32) → Nat → ng_AM) (C : Nat → Int32) (off : Nat → Int32) (dear : Nat → Int32) (proved : Nat → Int32) (dw : Nat → Int32) (J : Nat → Int32) (bef : Nat → Int32) (mov : Nat → Int32) (nxt : Nat → Int32) (chn : Nat → Int32) (tol : Nat → Int32) (tw : Nat → Int32) (nu : Nat → Nat → Int64) (sw : Nat → Int32) (ss : Nat → Int32) (giv : Nat → Int32) (sE : Int32) (P : Nat → Nat → Int32) (pn : Nat) (r : (Nat → Int32) × (Nat → Int32) × Int32) : ng_RR := (some (.int (r.2.2)), hn C off dear proved (r.1) dw (r.2.1) J bef mov nxt chn tol tw nu sw ss giv sE P pn)
def f_X5_hand  (C : Nat → Int32) (Dg : Nat → Int32) (nw : Nat → Int32) (v1 : Int32) (v2 : Int32) (v3 : Int32) (v4 : Int32) : (Nat → Int32) × (Nat → Int32) × Int32 := (if (f_X2_isHouse C v1) = 0 then (Dg, nw, nI 0) else (if (f_X2_isHouse C v3) = 0 then (Dg, nw, nI 0) else (if v1 = v3 then (Dg, nw, nI 0) else (if (f_X5_within v4 (nI 1) (nI 255)) = 0 then (Dg, nw, nI 0) else (if (f_X4_has nw ((nI 5) + v1) v2) = 0 then (Dg, nw, nI 0) else ((f_X4_post nw Dg C true ((nI 5) + v1) (nI 9) (nI 4) v2 v3 v4).2, (f_X4_post nw Dg C true ((nI 5) + v1) (nI 9) (nI 4) v2 v3 v4).1, nI 1))))))
def s_X5_hand  (C : Nat → Int32) (Dg : Nat → Int32) (nw : Nat → Int32) (v1 : Int32) (v2 : Int32) (v3 : Int32) (v4 : Int32) : Prop := (¬ (f_X2_isHouse C v1) = 0 → (¬ (f_X2_isHouse C v3) = 0 → (¬ v1 = v3 → (¬ (f_X5_within v4 (nI 1) (nI 255)) = 0 → (s_X4_has nw ((nI 5) + v1) v2 ∧ (¬ (f_X4_has nw ((nI 5) + v1) v2) = 0 → s_X4_post nw Dg C true ((nI 5) + v1) (nI 9) (nI 4) v2 v3 v4))))))
set_option maxRecDepth 100000 in
set_option maxHeartbeats 4000000 in
theorem e_X5_hand {G : ng_GG} {hn : (Nat → Int32) → (Nat → Int32) → (Nat → Int32) → (Nat → Int32) → (Nat → Int32) → (Nat → Int32) → (Nat → Int32) → (Nat → Int32) → (Nat → Int32) → (Nat → Int32) → (Nat → Int32) → (Nat → Int32) → (Nat → Int32) → (Nat → Int32) → (Nat → Nat → Int64) → (Nat → Int32) → (Nat → Int32) → (Nat → Int32) → Int32 → (Nat → Nat → Int32) → Nat → ng_AM}  (V : ng_NL hn ) {C : Nat → Int32} {off : Nat → Int32} {dear : Nat → Int32} {proved : Nat → Int32} {Dg : Nat → Int32} {dw : Nat → Int32} {nw : Nat → Int32} {J : Nat → Int32} {bef : Nat → Int32} {mov : Nat → Int32} {nxt : Nat → Int32} {chn : Nat → Int32} {tol : Nat → Int32} {tw : Nat → Int32} {nu : Nat → Nat → Int64} {sw : Nat → Int32} {ss : Nat → Int32} {giv : Nat → Int32} {sE : Int32} {P : Nat → Nat → Int32} {pn : Nat}  {v1 : Int32} {v2 : Int32} {v3 : Int32} {v4 : Int32} (h : s_X5_hand  C Dg nw v1 v2 v3 v4)  : ng_Ev G md_X5_hand 0 [some (.ref 0), some (.int v1), some (.int v2), some (.int v3), some (.int v4), none] [] (hn C off dear proved Dg dw nw J bef mov nxt chn tol tw nu sw ss giv sE P pn) (K_X5_hand hn C off dear proved dw J bef mov nxt chn tol tw nu sw ss giv sE P pn (f_X5_hand  C Dg nw v1 v2 v3 v4)) := by
  unfold s_X5_hand at h
  unfold f_X5_hand
  refine ev_aload_n dX5_hand_0 rfl rfl rfl ?_
  refine ev_get 5 0 fl_RX5_10 (NL_g0 V) rfl dX5_hand_1 ?_
  refine ev_iload_n dX5_hand_4 rfl rfl ?_
  refine bk_callV (As := [.int v1]) (st := []) (st2 := [.int (f_X2_isHouse C v1)]) (M2 := hn C off dear proved Dg dw nw J bef mov nxt chn tol tw nu sw ss giv sE P pn) ok_X2_isHouse lk_RX5_132 (ng_rok.of rfl rfl) (NL_g1 V) rfl rfl rfl rfl rfl rfl dX5_hand_5 (m_X2_isHouse (NL_RS V) trivial) rfl rfl ?_
  refine bk_if_eq (tgt := 27) dX5_hand_8 (by decide) (fun c8 => ?_) (fun c8 => ?_)
  · refine ev_iconst (v := nI 0) dX5_hand_27 (by decide) ?_
    exact ev_iret rfl (by decide) dX5_hand_28
  · replace h := h c8
    refine ev_aload_n dX5_hand_11 rfl rfl rfl ?_
    refine ev_get 5 0 fl_RX5_10 (NL_g0 V) rfl dX5_hand_12 ?_
    refine ev_iload_n dX5_hand_15 rfl rfl ?_
    refine bk_callV (As := [.int v3]) (st := []) (st2 := [.int (f_X2_isHouse C v3)]) (M2 := hn C off dear proved Dg dw nw J bef mov nxt chn tol tw nu sw ss giv sE P pn) ok_X2_isHouse lk_RX5_132 (ng_rok.of rfl rfl) (NL_g1 V) rfl rfl rfl rfl rfl rfl dX5_hand_16 (m_X2_isHouse (NL_RS V) trivial) rfl rfl ?_
    refine bk_if_eq (tgt := 27) dX5_hand_19 (by decide) (fun c19 => ?_) (fun c19 => ?_)
    · refine ev_iconst (v := nI 0) dX5_hand_27 (by decide) ?_
      exact ev_iret rfl (by decide) dX5_hand_28
    · replace h := h c19
      refine ev_iload_n dX5_hand_22 rfl rfl ?_
      refine ev_iload_n dX5_hand_23 rfl rfl ?_
      refine bk_icmp_ne (tgt := 29) dX5_hand_24 (by decide) (fun c24 => ?_) (fun c24 => ?_)
      · replace h := h c24
        refine ev_iconst (v := nI 5) dX5_hand_29 (by decide) ?_
        refine ev_iload_n dX5_hand_30 rfl rfl ?_
        refine ev_iadd dX5_hand_31 ?_
        refine ev_istore (L' := [some (.ref 0), some (.int v1), some (.int v2), some (.int v3), some (.int v4), some (.int ((nI 5) + v1))]) dX5_hand_32 (ng_lt rfl) rfl ?_
        refine ev_iload dX5_hand_34 rfl ?_
        refine ev_iconst (v := nI 1) dX5_hand_36 (by decide) ?_
        refine ev_sipush (v := nI 255) dX5_hand_37 (by decide) ?_
        refine bk_callS (As := [.int v4, .int (nI 1), .int (nI 255)]) (st := []) (st2 := [.int (f_X5_within v4 (nI 1) (nI 255))]) (M2 := hn C off dear proved Dg dw nw J bef mov nxt chn tol tw nu sw ss giv sE P pn) ok_X5_within lk_RX5_56 (ng_rok.of rfl rfl) rfl rfl rfl rfl dX5_hand_40 (m_X5_within trivial) rfl rfl ?_
        refine bk_if_eq (tgt := 59) dX5_hand_43 (by decide) (fun c43 => ?_) (fun c43 => ?_)
        · refine ev_iconst (v := nI 0) dX5_hand_59 (by decide) ?_
          exact ev_iret rfl (by decide) dX5_hand_60
        · replace h := h c43
          refine ev_aload_n dX5_hand_46 rfl rfl rfl ?_
          refine ev_get 5 2 fl_RX5_28 (NL_g0 V) rfl dX5_hand_47 ?_
          refine ev_iload dX5_hand_50 rfl ?_
          refine ev_iload_n dX5_hand_52 rfl rfl ?_
          have hs53 := h.1
          replace h := h.2
          refine bk_callV (As := [.int ((nI 5) + v1), .int v2]) (st := []) (st2 := [.int (f_X4_has nw ((nI 5) + v1) v2)]) (M2 := hn C off dear proved Dg dw nw J bef mov nxt chn tol tw nu sw ss giv sE P pn) ok_X4_has lk_RX5_145 (ng_rok.of rfl rfl) (NL_g7 V) rfl rfl rfl rfl rfl rfl dX5_hand_53 (m_X4_has (NL_R7 V) hs53) rfl rfl ?_
          refine bk_if_ne (tgt := 61) dX5_hand_56 (by decide) (fun c56 => ?_) (fun c56 => ?_)
          · replace h := h c56
            refine ev_aload_n dX5_hand_61 rfl rfl rfl ?_
            refine ev_get 5 2 fl_RX5_28 (NL_g0 V) rfl dX5_hand_62 ?_
            refine ev_iload dX5_hand_65 rfl ?_
            refine ev_bipush (v := nI 9) dX5_hand_67 (by decide) ?_
            refine ev_iconst (v := nI 4) dX5_hand_69 (by decide) ?_
            refine ev_iload_n dX5_hand_70 rfl rfl ?_
            refine ev_iload_n dX5_hand_71 rfl rfl ?_
            refine ev_iload dX5_hand_72 rfl ?_
            have hs74 := h
            refine bk_callV (As := [.int ((nI 5) + v1), .int (nI 9), .int (nI 4), .int v2, .int v3, .int v4]) (st := []) (st2 := []) (M2 := hn C off dear proved ((f_X4_post nw Dg C true ((nI 5) + v1) (nI 9) (nI 4) v2 v3 v4).2) dw ((f_X4_post nw Dg C true ((nI 5) + v1) (nI 9) (nI 4) v2 v3 v4).1) J bef mov nxt chn tol tw nu sw ss giv sE P pn) ok_X4_post lk_RX5_138 (ng_rok.of rfl rfl) (NL_g7 V) rfl rfl rfl rfl rfl rfl dX5_hand_74 (m_X4_post (NL_now V J bef mov nxt chn tol tw nu sw ss giv sE P pn) hs74) rfl rfl ?_
            refine ev_iconst (v := nI 1) dX5_hand_77 (by decide) ?_
            exact ev_iret rfl (by decide) dX5_hand_78
          · refine ev_iconst (v := nI 0) dX5_hand_59 (by decide) ?_
            exact ev_iret rfl (by decide) dX5_hand_60
      · refine ev_iconst (v := nI 0) dX5_hand_27 (by decide) ?_
        exact ev_iret rfl (by decide) dX5_hand_28
theorem m_X5_hand {G : ng_GG} {hn : (Nat → Int32) → (Nat → Int32) → (Nat → Int32) → (Nat → Int32) → (Nat → Int32) → (Nat → Int32) → (Nat → Int32) → (Nat → Int32) → (Nat → Int32) → (Nat → Int32) → (Nat → Int32) → (Nat → Int32) → (Nat → Int32) → (Nat → Int32) → (Nat → Nat → Int64) → (Nat → Int32) → (Nat → Int32) → (Nat → Int32) → Int32 → (Nat → Nat → Int32) → Nat → ng_AM}  (V : ng_NL hn ) {C : Nat → Int32} {off : Nat → Int32} {dear : Nat → Int32} {proved : Nat → Int32} {Dg : Nat → Int32} {dw : Nat → Int32} {nw : Nat → Int32} {J : Nat → Int32} {bef : Nat → Int32} {mov : Nat → Int32} {nxt : Nat → Int32} {chn : Nat → Int32} {tol : Nat → Int32} {tw : Nat → Int32} {nu : Nat → Nat → Int64} {sw : Nat → Int32} {ss : Nat → Int32} {giv : Nat → Int32} {sE : Int32} {P : Nat → Nat → Int32} {pn : Nat} {v1 : Int32} {v2 : Int32} {v3 : Int32} {v4 : Int32} (h : s_X5_hand C Dg nw v1 v2 v3 v4)  : ng_Ev G md_X5_hand 0 (ng_en 6 [.ref 0, .int v1, .int v2, .int v3, .int v4]) [] (hn C off dear proved Dg dw nw J bef mov nxt chn tol tw nu sw ss giv sE P pn) (K_X5_hand hn C off dear proved dw J bef mov nxt chn tol tw nu sw ss giv sE P pn (f_X5_hand C Dg nw v1 v2 v3 v4)) := e_X5_hand V h 
def K_X5_fake (hn : (Nat → Int32) → (Nat → Int32) → (Nat → Int32) → (Nat → Int32) → (Nat → Int32) → (Nat → Int32) → (Nat → Int32) → (Nat → Int32) → (Nat → Int32) → (Nat → Int32) → (Nat → Int32) → (Nat → Int32) → (Nat → Int32) → (Nat → Int32) → (Nat → Nat → Int64) → (Nat → Int32) → (Nat → Int32) → (Nat → Int32) → Int32 → (Nat → Nat → Int32) → Nat → ng_AM) (C : Nat → Int32) (off : Nat → Int32) (dear : Nat → Int32) (proved : Nat → Int32) (dw : Nat → Int32) (J : Nat → Int32) (bef : Nat → Int32) (mov : Nat → Int32) (nxt : Nat → Int32) (chn : Nat → Int32) (tol : Nat → Int32) (tw : Nat → Int32) (nu : Nat → Nat → Int64) (sw : Nat → Int32) (ss : Nat → Int32) (giv : Nat → Int32) (sE : Int32) (P : Nat → Nat → Int32) (pn : Nat) (r : (Nat → Int32) × (Nat → Int32) × Int32) : ng_RR := (some (.int (r.2.2)), hn C off dear proved (r.1) dw (r.2.1) J bef mov nxt chn tol tw nu sw ss giv sE P pn)
def f_X5_fake  (C : Nat → Int32) (Dg : Nat → Int32) (nw : Nat → Int32) (v1 : Int32) (v2 : Int32) : (Nat → Int32) × (Nat → Int32) × Int32 := (if (f_X5_within v1 (nI 0) (nI 3)) = 0 then (Dg, nw, nI 0) else (if (f_X4_has nw (nI 4) v2) = 0 then (Dg, nw, nI 0) else ((f_X4_post nw Dg C true (nI 4) v1 (nI 1) v2 (-1) (f_X4_knownPair nw v1)).2, (f_X4_post nw Dg C true (nI 4) v1 (nI 1) v2 (-1) (f_X4_knownPair nw v1)).1, nI 1)))
def s_X5_fake  (C : Nat → Int32) (Dg : Nat → Int32) (nw : Nat → Int32) (v1 : Int32) (v2 : Int32) : Prop := (¬ (f_X5_within v1 (nI 0) (nI 3)) = 0 → (s_X4_has nw (nI 4) v2 ∧ (¬ (f_X4_has nw (nI 4) v2) = 0 → (s_X4_knownPair nw v1 ∧ s_X4_post nw Dg C true (nI 4) v1 (nI 1) v2 (-1) (f_X4_knownPair nw v1)))))
set_option maxRecDepth 100000 in
set_option maxHeartbeats 4000000 in
theorem e_X5_fake {G : ng_GG} {hn : (Nat → Int32) → (Nat → Int32) → (Nat → Int32) → (Nat → Int32) → (Nat → Int32) → (Nat → Int32) → (Nat → Int32) → (Nat → Int32) → (Nat → Int32) → (Nat → Int32) → (Nat → Int32) → (Nat → Int32) → (Nat → Int32) → (Nat → Int32) → (Nat → Nat → Int64) → (Nat → Int32) → (Nat → Int32) → (Nat → Int32) → Int32 → (Nat → Nat → Int32) → Nat → ng_AM}  (V : ng_NL hn ) {C : Nat → Int32} {off : Nat → Int32} {dear : Nat → Int32} {proved : Nat → Int32} {Dg : Nat → Int32} {dw : Nat → Int32} {nw : Nat → Int32} {J : Nat → Int32} {bef : Nat → Int32} {mov : Nat → Int32} {nxt : Nat → Int32} {chn : Nat → Int32} {tol : Nat → Int32} {tw : Nat → Int32} {nu : Nat → Nat → Int64} {sw : Nat → Int32} {ss : Nat → Int32} {giv : Nat → Int32} {sE : Int32} {P : Nat → Nat → Int32} {pn : Nat}  {v1 : Int32} {v2 : Int32} (h : s_X5_fake  C Dg nw v1 v2)  : ng_Ev G md_X5_fake 0 [some (.ref 0), some (.int v1), some (.int v2)] [] (hn C off dear proved Dg dw nw J bef mov nxt chn tol tw nu sw ss giv sE P pn) (K_X5_fake hn C off dear proved dw J bef mov nxt chn tol tw nu sw ss giv sE P pn (f_X5_fake  C Dg nw v1 v2)) := by
  unfold s_X5_fake at h
  unfold f_X5_fake
  refine ev_iload_n dX5_fake_0 rfl rfl ?_
  refine ev_iconst (v := nI 0) dX5_fake_1 (by decide) ?_
  refine ev_iconst (v := nI 3) dX5_fake_2 (by decide) ?_
  refine bk_callS (As := [.int v1, .int (nI 0), .int (nI 3)]) (st := []) (st2 := [.int (f_X5_within v1 (nI 0) (nI 3))]) (M2 := hn C off dear proved Dg dw nw J bef mov nxt chn tol tw nu sw ss giv sE P pn) ok_X5_within lk_RX5_56 (ng_rok.of rfl rfl) rfl rfl rfl rfl dX5_fake_3 (m_X5_within trivial) rfl rfl ?_
  refine bk_if_eq (tgt := 21) dX5_fake_6 (by decide) (fun c6 => ?_) (fun c6 => ?_)
  · refine ev_iconst (v := nI 0) dX5_fake_21 (by decide) ?_
    exact ev_iret rfl (by decide) dX5_fake_22
  · replace h := h c6
    refine ev_aload_n dX5_fake_9 rfl rfl rfl ?_
    refine ev_get 5 2 fl_RX5_28 (NL_g0 V) rfl dX5_fake_10 ?_
    refine ev_iconst (v := nI 4) dX5_fake_13 (by decide) ?_
    refine ev_iload_n dX5_fake_14 rfl rfl ?_
    have hs15 := h.1
    replace h := h.2
    refine bk_callV (As := [.int (nI 4), .int v2]) (st := []) (st2 := [.int (f_X4_has nw (nI 4) v2)]) (M2 := hn C off dear proved Dg dw nw J bef mov nxt chn tol tw nu sw ss giv sE P pn) ok_X4_has lk_RX5_145 (ng_rok.of rfl rfl) (NL_g7 V) rfl rfl rfl rfl rfl rfl dX5_fake_15 (m_X4_has (NL_R7 V) hs15) rfl rfl ?_
    refine bk_if_ne (tgt := 23) dX5_fake_18 (by decide) (fun c18 => ?_) (fun c18 => ?_)
    · replace h := h c18
      refine ev_aload_n dX5_fake_23 rfl rfl rfl ?_
      refine ev_get 5 2 fl_RX5_28 (NL_g0 V) rfl dX5_fake_24 ?_
      refine ev_iconst (v := nI 4) dX5_fake_27 (by decide) ?_
      refine ev_iload_n dX5_fake_28 rfl rfl ?_
      refine ev_iconst (v := nI 1) dX5_fake_29 (by decide) ?_
      refine ev_iload_n dX5_fake_30 rfl rfl ?_
      refine ev_iconst (v := (-1)) dX5_fake_31 (by decide) ?_
      refine ev_aload_n dX5_fake_32 rfl rfl rfl ?_
      refine ev_get 5 2 fl_RX5_28 (NL_g0 V) rfl dX5_fake_33 ?_
      refine ev_iload_n dX5_fake_36 rfl rfl ?_
      have hs37 := h.1
      replace h := h.2
      refine bk_callV (As := [.int v1]) (st := [.int (-1), .int v2, .int (nI 1), .int v1, .int (nI 4), .ref 7]) (st2 := [.int (f_X4_knownPair nw v1), .int (-1), .int v2, .int (nI 1), .int v1, .int (nI 4), .ref 7]) (M2 := hn C off dear proved Dg dw nw J bef mov nxt chn tol tw nu sw ss giv sE P pn) ok_X4_knownPair lk_RX5_156 (ng_rok.of rfl rfl) (NL_g7 V) rfl rfl rfl rfl rfl rfl dX5_fake_37 (m_X4_knownPair (NL_R7 V) hs37) rfl rfl ?_
      have hs40 := h
      refine bk_callV (As := [.int (nI 4), .int v1, .int (nI 1), .int v2, .int (-1), .int (f_X4_knownPair nw v1)]) (st := []) (st2 := []) (M2 := hn C off dear proved ((f_X4_post nw Dg C true (nI 4) v1 (nI 1) v2 (-1) (f_X4_knownPair nw v1)).2) dw ((f_X4_post nw Dg C true (nI 4) v1 (nI 1) v2 (-1) (f_X4_knownPair nw v1)).1) J bef mov nxt chn tol tw nu sw ss giv sE P pn) ok_X4_post lk_RX5_138 (ng_rok.of rfl rfl) (NL_g7 V) rfl rfl rfl rfl rfl rfl dX5_fake_40 (m_X4_post (NL_now V J bef mov nxt chn tol tw nu sw ss giv sE P pn) hs40) rfl rfl ?_
      refine ev_iconst (v := nI 1) dX5_fake_43 (by decide) ?_
      exact ev_iret rfl (by decide) dX5_fake_44
    · refine ev_iconst (v := nI 0) dX5_fake_21 (by decide) ?_
      exact ev_iret rfl (by decide) dX5_fake_22
theorem m_X5_fake {G : ng_GG} {hn : (Nat → Int32) → (Nat → Int32) → (Nat → Int32) → (Nat → Int32) → (Nat → Int32) → (Nat → Int32) → (Nat → Int32) → (Nat → Int32) → (Nat → Int32) → (Nat → Int32) → (Nat → Int32) → (Nat → Int32) → (Nat → Int32) → (Nat → Int32) → (Nat → Nat → Int64) → (Nat → Int32) → (Nat → Int32) → (Nat → Int32) → Int32 → (Nat → Nat → Int32) → Nat → ng_AM}  (V : ng_NL hn ) {C : Nat → Int32} {off : Nat → Int32} {dear : Nat → Int32} {proved : Nat → Int32} {Dg : Nat → Int32} {dw : Nat → Int32} {nw : Nat → Int32} {J : Nat → Int32} {bef : Nat → Int32} {mov : Nat → Int32} {nxt : Nat → Int32} {chn : Nat → Int32} {tol : Nat → Int32} {tw : Nat → Int32} {nu : Nat → Nat → Int64} {sw : Nat → Int32} {ss : Nat → Int32} {giv : Nat → Int32} {sE : Int32} {P : Nat → Nat → Int32} {pn : Nat} {v1 : Int32} {v2 : Int32} (h : s_X5_fake C Dg nw v1 v2)  : ng_Ev G md_X5_fake 0 (ng_en 3 [.ref 0, .int v1, .int v2]) [] (hn C off dear proved Dg dw nw J bef mov nxt chn tol tw nu sw ss giv sE P pn) (K_X5_fake hn C off dear proved dw J bef mov nxt chn tol tw nu sw ss giv sE P pn (f_X5_fake C Dg nw v1 v2)) := e_X5_fake V h 
def K_X5_deliver (hn : (Nat → Int32) → (Nat → Int32) → (Nat → Int32) → (Nat → Int32) → (Nat → Int32) → (Nat → Int32) → (Nat → Int32) → (Nat → Int32) → (Nat → Int32) → (Nat → Int32) → (Nat → Int32) → (Nat → Int32) → (Nat → Int32) → (Nat → Int32) → (Nat → Nat → Int64) → (Nat → Int32) → (Nat → Int32) → (Nat → Int32) → Int32 → (Nat → Nat → Int32) → Nat → ng_AM) (C : Nat → Int32) (off : Nat → Int32) (dear : Nat → Int32) (proved : Nat → Int32) (J : Nat → Int32) (bef : Nat → Int32) (mov : Nat → Int32) (nxt : Nat → Int32) (chn : Nat → Int32) (tol : Nat → Int32) (tw : Nat → Int32) (nu : Nat → Nat → Int64) (sw : Nat → Int32) (ss : Nat → Int32) (giv : Nat → Int32) (sE : Int32) (P : Nat → Nat → Int32) (pn : Nat) (r : (Nat → Int32) × (Nat → Int32) × (Nat → Int32) × Int32) : ng_RR := (some (.int (r.2.2.2)), hn C off dear proved (r.1) (r.2.1) (r.2.2.1) J bef mov nxt chn tol tw nu sw ss giv sE P pn)
def f_X5_deliver  (C : Nat → Int32) (off : Nat → Int32) (dear : Nat → Int32) (proved : Nat → Int32) (Dg : Nat → Int32) (dw : Nat → Int32) (nw : Nat → Int32) (v1 : Int32) : (Nat → Int32) × (Nat → Int32) × (Nat → Int32) × Int32 := ((f_X4_come nw Dg dw C off dear proved true v1).2.1, (f_X4_come nw Dg dw C off dear proved true v1).2.2.1, (f_X4_come nw Dg dw C off dear proved true v1).1, (f_X4_come nw Dg dw C off dear proved true v1).2.2.2)
def s_X5_deliver  (C : Nat → Int32) (off : Nat → Int32) (dear : Nat → Int32) (proved : Nat → Int32) (Dg : Nat → Int32) (dw : Nat → Int32) (nw : Nat → Int32) (v1 : Int32) : Prop := s_X4_come nw Dg dw C off dear proved true v1
set_option maxRecDepth 100000 in
set_option maxHeartbeats 4000000 in
theorem e_X5_deliver {G : ng_GG} {hn : (Nat → Int32) → (Nat → Int32) → (Nat → Int32) → (Nat → Int32) → (Nat → Int32) → (Nat → Int32) → (Nat → Int32) → (Nat → Int32) → (Nat → Int32) → (Nat → Int32) → (Nat → Int32) → (Nat → Int32) → (Nat → Int32) → (Nat → Int32) → (Nat → Nat → Int64) → (Nat → Int32) → (Nat → Int32) → (Nat → Int32) → Int32 → (Nat → Nat → Int32) → Nat → ng_AM}  (V : ng_NL hn ) {C : Nat → Int32} {off : Nat → Int32} {dear : Nat → Int32} {proved : Nat → Int32} {Dg : Nat → Int32} {dw : Nat → Int32} {nw : Nat → Int32} {J : Nat → Int32} {bef : Nat → Int32} {mov : Nat → Int32} {nxt : Nat → Int32} {chn : Nat → Int32} {tol : Nat → Int32} {tw : Nat → Int32} {nu : Nat → Nat → Int64} {sw : Nat → Int32} {ss : Nat → Int32} {giv : Nat → Int32} {sE : Int32} {P : Nat → Nat → Int32} {pn : Nat}  {v1 : Int32} (h : s_X5_deliver  C off dear proved Dg dw nw v1)  : ng_Ev G md_X5_deliver 0 [some (.ref 0), some (.int v1)] [] (hn C off dear proved Dg dw nw J bef mov nxt chn tol tw nu sw ss giv sE P pn) (K_X5_deliver hn C off dear proved J bef mov nxt chn tol tw nu sw ss giv sE P pn (f_X5_deliver  C off dear proved Dg dw nw v1)) := by
  unfold s_X5_deliver at h
  unfold f_X5_deliver
  refine ev_aload_n dX5_deliver_0 rfl rfl rfl ?_
  refine ev_get 5 2 fl_RX5_28 (NL_g0 V) rfl dX5_deliver_1 ?_
  refine ev_iload_n dX5_deliver_4 rfl rfl ?_
  have hs5 := h
  refine bk_callV (As := [.int v1]) (st := []) (st2 := [.int ((f_X4_come nw Dg dw C off dear proved true v1).2.2.2)]) (M2 := hn C off dear proved ((f_X4_come nw Dg dw C off dear proved true v1).2.1) ((f_X4_come nw Dg dw C off dear proved true v1).2.2.1) ((f_X4_come nw Dg dw C off dear proved true v1).1) J bef mov nxt chn tol tw nu sw ss giv sE P pn) ok_X4_come lk_RX5_159 (ng_rok.of rfl rfl) (NL_g7 V) rfl rfl rfl rfl rfl rfl dX5_deliver_5 (m_X4_come (NL_now V J bef mov nxt chn tol tw nu sw ss giv sE P pn) hs5) rfl rfl ?_
  exact ev_iret rfl rfl dX5_deliver_8
theorem m_X5_deliver {G : ng_GG} {hn : (Nat → Int32) → (Nat → Int32) → (Nat → Int32) → (Nat → Int32) → (Nat → Int32) → (Nat → Int32) → (Nat → Int32) → (Nat → Int32) → (Nat → Int32) → (Nat → Int32) → (Nat → Int32) → (Nat → Int32) → (Nat → Int32) → (Nat → Int32) → (Nat → Nat → Int64) → (Nat → Int32) → (Nat → Int32) → (Nat → Int32) → Int32 → (Nat → Nat → Int32) → Nat → ng_AM}  (V : ng_NL hn ) {C : Nat → Int32} {off : Nat → Int32} {dear : Nat → Int32} {proved : Nat → Int32} {Dg : Nat → Int32} {dw : Nat → Int32} {nw : Nat → Int32} {J : Nat → Int32} {bef : Nat → Int32} {mov : Nat → Int32} {nxt : Nat → Int32} {chn : Nat → Int32} {tol : Nat → Int32} {tw : Nat → Int32} {nu : Nat → Nat → Int64} {sw : Nat → Int32} {ss : Nat → Int32} {giv : Nat → Int32} {sE : Int32} {P : Nat → Nat → Int32} {pn : Nat} {v1 : Int32} (h : s_X5_deliver C off dear proved Dg dw nw v1)  : ng_Ev G md_X5_deliver 0 (ng_en 2 [.ref 0, .int v1]) [] (hn C off dear proved Dg dw nw J bef mov nxt chn tol tw nu sw ss giv sE P pn) (K_X5_deliver hn C off dear proved J bef mov nxt chn tol tw nu sw ss giv sE P pn (f_X5_deliver C off dear proved Dg dw nw v1)) := e_X5_deliver V h 
def K_X5_copy (hn : (Nat → Int32) → (Nat → Int32) → (Nat → Int32) → (Nat → Int32) → (Nat → Int32) → (Nat → Int32) → (Nat → Int32) → (Nat → Int32) → (Nat → Int32) → (Nat → Int32) → (Nat → Int32) → (Nat → Int32) → (Nat → Int32) → (Nat → Int32) → (Nat → Nat → Int64) → (Nat → Int32) → (Nat → Int32) → (Nat → Int32) → Int32 → (Nat → Nat → Int32) → Nat → ng_AM) (C : Nat → Int32) (off : Nat → Int32) (dear : Nat → Int32) (proved : Nat → Int32) (dw : Nat → Int32) (J : Nat → Int32) (bef : Nat → Int32) (mov : Nat → Int32) (nxt : Nat → Int32) (chn : Nat → Int32) (tol : Nat → Int32) (tw : Nat → Int32) (nu : Nat → Nat → Int64) (sw : Nat → Int32) (ss : Nat → Int32) (giv : Nat → Int32) (sE : Int32) (P : Nat → Nat → Int32) (pn : Nat) (r : (Nat → Int32) × (Nat → Int32) × Int32) : ng_RR := (some (.int (r.2.2)), hn C off dear proved (r.1) dw (r.2.1) J bef mov nxt chn tol tw nu sw ss giv sE P pn)
def f_X5_copy  (C : Nat → Int32) (Dg : Nat → Int32) (nw : Nat → Int32) (v1 : Int32) : (Nat → Int32) × (Nat → Int32) × Int32 := ((f_X4_postAgain nw Dg C true v1).2.1, (f_X4_postAgain nw Dg C true v1).1, (f_X4_postAgain nw Dg C true v1).2.2)
def s_X5_copy  (C : Nat → Int32) (Dg : Nat → Int32) (nw : Nat → Int32) (v1 : Int32) : Prop := (s_X4_postAgain nw Dg C true v1 ∧ (((f_X4_postAgain nw Dg C true v1).2.2) = 0 ∨ ((f_X4_postAgain nw Dg C true v1).2.2) = 1))
set_option maxRecDepth 100000 in
set_option maxHeartbeats 4000000 in
theorem e_X5_copy {G : ng_GG} {hn : (Nat → Int32) → (Nat → Int32) → (Nat → Int32) → (Nat → Int32) → (Nat → Int32) → (Nat → Int32) → (Nat → Int32) → (Nat → Int32) → (Nat → Int32) → (Nat → Int32) → (Nat → Int32) → (Nat → Int32) → (Nat → Int32) → (Nat → Int32) → (Nat → Nat → Int64) → (Nat → Int32) → (Nat → Int32) → (Nat → Int32) → Int32 → (Nat → Nat → Int32) → Nat → ng_AM}  (V : ng_NL hn ) {C : Nat → Int32} {off : Nat → Int32} {dear : Nat → Int32} {proved : Nat → Int32} {Dg : Nat → Int32} {dw : Nat → Int32} {nw : Nat → Int32} {J : Nat → Int32} {bef : Nat → Int32} {mov : Nat → Int32} {nxt : Nat → Int32} {chn : Nat → Int32} {tol : Nat → Int32} {tw : Nat → Int32} {nu : Nat → Nat → Int64} {sw : Nat → Int32} {ss : Nat → Int32} {giv : Nat → Int32} {sE : Int32} {P : Nat → Nat → Int32} {pn : Nat}  {v1 : Int32} (h : s_X5_copy  C Dg nw v1)  : ng_Ev G md_X5_copy 0 [some (.ref 0), some (.int v1)] [] (hn C off dear proved Dg dw nw J bef mov nxt chn tol tw nu sw ss giv sE P pn) (K_X5_copy hn C off dear proved dw J bef mov nxt chn tol tw nu sw ss giv sE P pn (f_X5_copy  C Dg nw v1)) := by
  unfold s_X5_copy at h
  unfold f_X5_copy
  refine ev_aload_n dX5_copy_0 rfl rfl rfl ?_
  refine ev_get 5 2 fl_RX5_28 (NL_g0 V) rfl dX5_copy_1 ?_
  refine ev_iload_n dX5_copy_4 rfl rfl ?_
  have hs5 := h.1
  replace h := h.2
  refine bk_callV (As := [.int v1]) (st := []) (st2 := [.int ((f_X4_postAgain nw Dg C true v1).2.2)]) (M2 := hn C off dear proved ((f_X4_postAgain nw Dg C true v1).2.1) dw ((f_X4_postAgain nw Dg C true v1).1) J bef mov nxt chn tol tw nu sw ss giv sE P pn) ok_X4_postAgain lk_RX5_162 (ng_rok.of rfl rfl) (NL_g7 V) rfl rfl rfl rfl rfl rfl dX5_copy_5 (m_X4_postAgain (NL_now V J bef mov nxt chn tol tw nu sw ss giv sE P pn) hs5) rfl rfl ?_
  exact ev_iret rfl (ng_nz h) dX5_copy_8
theorem m_X5_copy {G : ng_GG} {hn : (Nat → Int32) → (Nat → Int32) → (Nat → Int32) → (Nat → Int32) → (Nat → Int32) → (Nat → Int32) → (Nat → Int32) → (Nat → Int32) → (Nat → Int32) → (Nat → Int32) → (Nat → Int32) → (Nat → Int32) → (Nat → Int32) → (Nat → Int32) → (Nat → Nat → Int64) → (Nat → Int32) → (Nat → Int32) → (Nat → Int32) → Int32 → (Nat → Nat → Int32) → Nat → ng_AM}  (V : ng_NL hn ) {C : Nat → Int32} {off : Nat → Int32} {dear : Nat → Int32} {proved : Nat → Int32} {Dg : Nat → Int32} {dw : Nat → Int32} {nw : Nat → Int32} {J : Nat → Int32} {bef : Nat → Int32} {mov : Nat → Int32} {nxt : Nat → Int32} {chn : Nat → Int32} {tol : Nat → Int32} {tw : Nat → Int32} {nu : Nat → Nat → Int64} {sw : Nat → Int32} {ss : Nat → Int32} {giv : Nat → Int32} {sE : Int32} {P : Nat → Nat → Int32} {pn : Nat} {v1 : Int32} (h : s_X5_copy C Dg nw v1)  : ng_Ev G md_X5_copy 0 (ng_en 2 [.ref 0, .int v1]) [] (hn C off dear proved Dg dw nw J bef mov nxt chn tol tw nu sw ss giv sE P pn) (K_X5_copy hn C off dear proved dw J bef mov nxt chn tol tw nu sw ss giv sE P pn (f_X5_copy C Dg nw v1)) := e_X5_copy V h 
def K_X5_lose (hn : (Nat → Int32) → (Nat → Int32) → (Nat → Int32) → (Nat → Int32) → (Nat → Int32) → (Nat → Int32) → (Nat → Int32) → (Nat → Int32) → (Nat → Int32) → (Nat → Int32) → (Nat → Int32) → (Nat → Int32) → (Nat → Int32) → (Nat → Int32) → (Nat → Nat → Int64) → (Nat → Int32) → (Nat → Int32) → (Nat → Int32) → Int32 → (Nat → Nat → Int32) → Nat → ng_AM) (C : Nat → Int32) (off : Nat → Int32) (dear : Nat → Int32) (proved : Nat → Int32) (Dg : Nat → Int32) (dw : Nat → Int32) (J : Nat → Int32) (bef : Nat → Int32) (mov : Nat → Int32) (nxt : Nat → Int32) (chn : Nat → Int32) (tol : Nat → Int32) (tw : Nat → Int32) (nu : Nat → Nat → Int64) (sw : Nat → Int32) (ss : Nat → Int32) (giv : Nat → Int32) (sE : Int32) (P : Nat → Nat → Int32) (pn : Nat) (r : (Nat → Int32) × Int32) : ng_RR := (some (.int (r.2)), hn C off dear proved Dg dw (r.1) J bef mov nxt chn tol tw nu sw ss giv sE P pn)
def f_X5_lose  (nw : Nat → Int32) (v1 : Int32) : (Nat → Int32) × Int32 := (if (f_X4_isLetter nw v1) = 0 then (nw, nI 0) else ((f_X4_takeOut nw v1), nI 1))
def s_X5_lose  (nw : Nat → Int32) (v1 : Int32) : Prop := (¬ (f_X4_isLetter nw v1) = 0 → s_X4_takeOut nw v1)
set_option maxRecDepth 100000 in
set_option maxHeartbeats 4000000 in
theorem e_X5_lose {G : ng_GG} {hn : (Nat → Int32) → (Nat → Int32) → (Nat → Int32) → (Nat → Int32) → (Nat → Int32) → (Nat → Int32) → (Nat → Int32) → (Nat → Int32) → (Nat → Int32) → (Nat → Int32) → (Nat → Int32) → (Nat → Int32) → (Nat → Int32) → (Nat → Int32) → (Nat → Nat → Int64) → (Nat → Int32) → (Nat → Int32) → (Nat → Int32) → Int32 → (Nat → Nat → Int32) → Nat → ng_AM}  (V : ng_NL hn ) {C : Nat → Int32} {off : Nat → Int32} {dear : Nat → Int32} {proved : Nat → Int32} {Dg : Nat → Int32} {dw : Nat → Int32} {nw : Nat → Int32} {J : Nat → Int32} {bef : Nat → Int32} {mov : Nat → Int32} {nxt : Nat → Int32} {chn : Nat → Int32} {tol : Nat → Int32} {tw : Nat → Int32} {nu : Nat → Nat → Int64} {sw : Nat → Int32} {ss : Nat → Int32} {giv : Nat → Int32} {sE : Int32} {P : Nat → Nat → Int32} {pn : Nat}  {v1 : Int32} (h : s_X5_lose  nw v1)  : ng_Ev G md_X5_lose 0 [some (.ref 0), some (.int v1)] [] (hn C off dear proved Dg dw nw J bef mov nxt chn tol tw nu sw ss giv sE P pn) (K_X5_lose hn C off dear proved Dg dw J bef mov nxt chn tol tw nu sw ss giv sE P pn (f_X5_lose  nw v1)) := by
  unfold s_X5_lose at h
  unfold f_X5_lose
  refine ev_aload_n dX5_lose_0 rfl rfl rfl ?_
  refine ev_get 5 2 fl_RX5_28 (NL_g0 V) rfl dX5_lose_1 ?_
  refine ev_iload_n dX5_lose_4 rfl rfl ?_
  refine bk_callV (As := [.int v1]) (st := []) (st2 := [.int (f_X4_isLetter nw v1)]) (M2 := hn C off dear proved Dg dw nw J bef mov nxt chn tol tw nu sw ss giv sE P pn) ok_X4_isLetter lk_RX5_165 (ng_rok.of rfl rfl) (NL_g7 V) rfl rfl rfl rfl rfl rfl dX5_lose_5 (m_X4_isLetter (NL_R7 V) trivial) rfl rfl ?_
  refine bk_if_ne (tgt := 13) dX5_lose_8 (by decide) (fun c8 => ?_) (fun c8 => ?_)
  · replace h := h c8
    refine ev_aload_n dX5_lose_13 rfl rfl rfl ?_
    refine ev_get 5 2 fl_RX5_28 (NL_g0 V) rfl dX5_lose_14 ?_
    refine ev_iload_n dX5_lose_17 rfl rfl ?_
    have hs18 := h
    refine bk_callV (As := [.int v1]) (st := []) (st2 := []) (M2 := hn C off dear proved Dg dw (f_X4_takeOut nw v1) J bef mov nxt chn tol tw nu sw ss giv sE P pn) ok_X4_takeOut lk_RX5_168 (ng_rok.of rfl rfl) (NL_g7 V) rfl rfl rfl rfl rfl rfl dX5_lose_18 (m_X4_takeOut (NL_now V J bef mov nxt chn tol tw nu sw ss giv sE P pn) hs18) rfl rfl ?_
    refine ev_iconst (v := nI 1) dX5_lose_21 (by decide) ?_
    exact ev_iret rfl (by decide) dX5_lose_22
  · refine ev_iconst (v := nI 0) dX5_lose_11 (by decide) ?_
    exact ev_iret rfl (by decide) dX5_lose_12
theorem m_X5_lose {G : ng_GG} {hn : (Nat → Int32) → (Nat → Int32) → (Nat → Int32) → (Nat → Int32) → (Nat → Int32) → (Nat → Int32) → (Nat → Int32) → (Nat → Int32) → (Nat → Int32) → (Nat → Int32) → (Nat → Int32) → (Nat → Int32) → (Nat → Int32) → (Nat → Int32) → (Nat → Nat → Int64) → (Nat → Int32) → (Nat → Int32) → (Nat → Int32) → Int32 → (Nat → Nat → Int32) → Nat → ng_AM}  (V : ng_NL hn ) {C : Nat → Int32} {off : Nat → Int32} {dear : Nat → Int32} {proved : Nat → Int32} {Dg : Nat → Int32} {dw : Nat → Int32} {nw : Nat → Int32} {J : Nat → Int32} {bef : Nat → Int32} {mov : Nat → Int32} {nxt : Nat → Int32} {chn : Nat → Int32} {tol : Nat → Int32} {tw : Nat → Int32} {nu : Nat → Nat → Int64} {sw : Nat → Int32} {ss : Nat → Int32} {giv : Nat → Int32} {sE : Int32} {P : Nat → Nat → Int32} {pn : Nat} {v1 : Int32} (h : s_X5_lose nw v1)  : ng_Ev G md_X5_lose 0 (ng_en 2 [.ref 0, .int v1]) [] (hn C off dear proved Dg dw nw J bef mov nxt chn tol tw nu sw ss giv sE P pn) (K_X5_lose hn C off dear proved Dg dw J bef mov nxt chn tol tw nu sw ss giv sE P pn (f_X5_lose nw v1)) := e_X5_lose V h 
def K_X5_tick (hn : (Nat → Int32) → (Nat → Int32) → (Nat → Int32) → (Nat → Int32) → (Nat → Int32) → (Nat → Int32) → (Nat → Int32) → (Nat → Int32) → (Nat → Int32) → (Nat → Int32) → (Nat → Int32) → (Nat → Int32) → (Nat → Int32) → (Nat → Int32) → (Nat → Nat → Int64) → (Nat → Int32) → (Nat → Int32) → (Nat → Int32) → Int32 → (Nat → Nat → Int32) → Nat → ng_AM) (C : Nat → Int32) (off : Nat → Int32) (dear : Nat → Int32) (proved : Nat → Int32) (J : Nat → Int32) (bef : Nat → Int32) (mov : Nat → Int32) (nxt : Nat → Int32) (chn : Nat → Int32) (tol : Nat → Int32) (tw : Nat → Int32) (nu : Nat → Nat → Int64) (sw : Nat → Int32) (ss : Nat → Int32) (giv : Nat → Int32) (sE : Int32) (P : Nat → Nat → Int32) (pn : Nat) (r : (Nat → Int32) × (Nat → Int32) × (Nat → Int32) × Int32) : ng_RR := (some (.int (r.2.2.2)), hn C off dear proved (r.1) (r.2.1) (r.2.2.1) J bef mov nxt chn tol tw nu sw ss giv sE P pn)
def f_X5_tick_46 (kk34 : (Nat → Int32) → (Nat → Int32) → (Nat → Int32) → (Nat → Int32) → (Nat → Int32) → (Nat → Int32) → (Nat → Int32) → Int32 → Int32 → ((Nat → Int32) × (Nat → Int32) × (Nat → Int32) × Int32)) (C : Nat → Int32) (off : Nat → Int32) (dear : Nat → Int32) (proved : Nat → Int32) (Dg : Nat → Int32) (dw : Nat → Int32) (nw : Nat → Int32) (v1 : Int32) (v2 : Int32) : (Nat → Int32) × (Nat → Int32) × (Nat → Int32) × Int32 := kk34 C off dear proved Dg dw nw v1 (v2 + nI 1)
def s_X5_tick_46 (sk34 : (Nat → Int32) → (Nat → Int32) → (Nat → Int32) → (Nat → Int32) → (Nat → Int32) → (Nat → Int32) → (Nat → Int32) → Int32 → Int32 → Prop) (C : Nat → Int32) (off : Nat → Int32) (dear : Nat → Int32) (proved : Nat → Int32) (Dg : Nat → Int32) (dw : Nat → Int32) (nw : Nat → Int32) (v1 : Int32) (v2 : Int32) : Prop := sk34 C off dear proved Dg dw nw v1 (v2 + nI 1)
set_option maxRecDepth 100000 in
set_option maxHeartbeats 4000000 in
theorem e_X5_tick_46 {G : ng_GG} {hn : (Nat → Int32) → (Nat → Int32) → (Nat → Int32) → (Nat → Int32) → (Nat → Int32) → (Nat → Int32) → (Nat → Int32) → (Nat → Int32) → (Nat → Int32) → (Nat → Int32) → (Nat → Int32) → (Nat → Int32) → (Nat → Int32) → (Nat → Int32) → (Nat → Nat → Int64) → (Nat → Int32) → (Nat → Int32) → (Nat → Int32) → Int32 → (Nat → Nat → Int32) → Nat → ng_AM}  (V : ng_NL hn ) {C : Nat → Int32} {off : Nat → Int32} {dear : Nat → Int32} {proved : Nat → Int32} {Dg : Nat → Int32} {dw : Nat → Int32} {nw : Nat → Int32} {J : Nat → Int32} {bef : Nat → Int32} {mov : Nat → Int32} {nxt : Nat → Int32} {chn : Nat → Int32} {tol : Nat → Int32} {tw : Nat → Int32} {nu : Nat → Nat → Int64} {sw : Nat → Int32} {ss : Nat → Int32} {giv : Nat → Int32} {sE : Int32} {P : Nat → Nat → Int32} {pn : Nat} {kk34 : (Nat → Int32) → (Nat → Int32) → (Nat → Int32) → (Nat → Int32) → (Nat → Int32) → (Nat → Int32) → (Nat → Int32) → Int32 → Int32 → ((Nat → Int32) × (Nat → Int32) × (Nat → Int32) × Int32)} {sk34 : (Nat → Int32) → (Nat → Int32) → (Nat → Int32) → (Nat → Int32) → (Nat → Int32) → (Nat → Int32) → (Nat → Int32) → Int32 → Int32 → Prop} (hk34 : ∀ (C : Nat → Int32) (off : Nat → Int32) (dear : Nat → Int32) (proved : Nat → Int32) (Dg : Nat → Int32) (dw : Nat → Int32) (nw : Nat → Int32) (J : Nat → Int32) (bef : Nat → Int32) (mov : Nat → Int32) (nxt : Nat → Int32) (chn : Nat → Int32) (tol : Nat → Int32) (tw : Nat → Int32) (nu : Nat → Nat → Int64) (sw : Nat → Int32) (ss : Nat → Int32) (giv : Nat → Int32) (sE : Int32) (P : Nat → Nat → Int32) (pn : Nat) (v1 : Int32) (v2 : Int32), sk34 C off dear proved Dg dw nw v1 v2 → ng_Ev G md_X5_tick 34 [some (.ref 0), some (.int v1), some (.int v2)] [] (hn C off dear proved Dg dw nw J bef mov nxt chn tol tw nu sw ss giv sE P pn) (K_X5_tick hn C off dear proved J bef mov nxt chn tol tw nu sw ss giv sE P pn (kk34 C off dear proved Dg dw nw v1 v2))) {v1 : Int32} {v2 : Int32} (h : s_X5_tick_46 sk34 C off dear proved Dg dw nw v1 v2)  : ng_Ev G md_X5_tick 46 [some (.ref 0), some (.int v1), some (.int v2)] [] (hn C off dear proved Dg dw nw J bef mov nxt chn tol tw nu sw ss giv sE P pn) (K_X5_tick hn C off dear proved J bef mov nxt chn tol tw nu sw ss giv sE P pn (f_X5_tick_46 kk34 C off dear proved Dg dw nw v1 v2)) := by
  unfold s_X5_tick_46 at h
  unfold f_X5_tick_46
  refine ev_iinc (v := v2 + nI 1) (L' := [some (.ref 0), some (.int v1), some (.int (v2 + nI 1))]) dX5_tick_46 rfl (by rfl) rfl ?_
  refine ev_goto (tgt := 34) dX5_tick_49 (by decide) ?_
  exact ev_sub (hk34 C off dear proved Dg dw nw J bef mov nxt chn tol tw nu sw ss giv sE P pn v1 (v2 + nI 1) h) (sub_s (sub_s (sub_s sub_e)))
def f_X5_tick_34  : Nat → (Nat → Int32) → (Nat → Int32) → (Nat → Int32) → (Nat → Int32) → (Nat → Int32) → (Nat → Int32) → (Nat → Int32) → Int32 → Int32 → ((Nat → Int32) × (Nat → Int32) × (Nat → Int32) × Int32)
  | 0, _, _, _, _, Dg, dw, nw, _, _ => (Dg, dw, nw, 0)
  | n + 1, C, off, dear, proved, Dg, dw, nw, v1, v2 => (if v1 ≤ v2 then (Dg, dw, nw, (f_X4_time nw)) else f_X5_tick_46 (f_X5_tick_34 n) C off dear proved ((f_X4_passTick nw Dg dw C off dear proved true).2.1) ((f_X4_passTick nw Dg dw C off dear proved true).2.2) ((f_X4_passTick nw Dg dw C off dear proved true).1) v1 v2)
def s_X5_tick_34  : Nat → (Nat → Int32) → (Nat → Int32) → (Nat → Int32) → (Nat → Int32) → (Nat → Int32) → (Nat → Int32) → (Nat → Int32) → Int32 → Int32 → Prop
  | 0, _, _, _, _, _, _, _, _, _ => False
  | n + 1, C, off, dear, proved, Dg, dw, nw, v1, v2 => (¬ v1 ≤ v2 → (s_X4_passTick nw Dg dw C off dear proved true ∧ s_X5_tick_46 (s_X5_tick_34 n) C off dear proved ((f_X4_passTick nw Dg dw C off dear proved true).2.1) ((f_X4_passTick nw Dg dw C off dear proved true).2.2) ((f_X4_passTick nw Dg dw C off dear proved true).1) v1 v2))
set_option maxRecDepth 100000 in
set_option maxHeartbeats 4000000 in
theorem e_X5_tick_34 {G : ng_GG} {hn : (Nat → Int32) → (Nat → Int32) → (Nat → Int32) → (Nat → Int32) → (Nat → Int32) → (Nat → Int32) → (Nat → Int32) → (Nat → Int32) → (Nat → Int32) → (Nat → Int32) → (Nat → Int32) → (Nat → Int32) → (Nat → Int32) → (Nat → Int32) → (Nat → Nat → Int64) → (Nat → Int32) → (Nat → Int32) → (Nat → Int32) → Int32 → (Nat → Nat → Int32) → Nat → ng_AM}  (V : ng_NL hn )  : ∀ (n : Nat) (C : Nat → Int32) (off : Nat → Int32) (dear : Nat → Int32) (proved : Nat → Int32) (Dg : Nat → Int32) (dw : Nat → Int32) (nw : Nat → Int32) (J : Nat → Int32) (bef : Nat → Int32) (mov : Nat → Int32) (nxt : Nat → Int32) (chn : Nat → Int32) (tol : Nat → Int32) (tw : Nat → Int32) (nu : Nat → Nat → Int64) (sw : Nat → Int32) (ss : Nat → Int32) (giv : Nat → Int32) (sE : Int32) (P : Nat → Nat → Int32) (pn : Nat) (v1 : Int32) (v2 : Int32), s_X5_tick_34  n C off dear proved Dg dw nw v1 v2 → ng_Ev G md_X5_tick 34 [some (.ref 0), some (.int v1), some (.int v2)] [] (hn C off dear proved Dg dw nw J bef mov nxt chn tol tw nu sw ss giv sE P pn) (K_X5_tick hn C off dear proved J bef mov nxt chn tol tw nu sw ss giv sE P pn (f_X5_tick_34  n C off dear proved Dg dw nw v1 v2)) := by
  intro n
  induction n with
  | zero => intro C off dear proved Dg dw nw J bef mov nxt chn tol tw nu sw ss giv sE P pn v1 v2 h; exact False.elim h
  | succ n ih =>
    intro C off dear proved Dg dw nw J bef mov nxt chn tol tw nu sw ss giv sE P pn v1 v2 h 
    rw [s_X5_tick_34] at h
    rw [f_X5_tick_34]
    refine ev_iload_n dX5_tick_34 rfl rfl ?_
    refine ev_iload_n dX5_tick_35 rfl rfl ?_
    refine bk_icmp_ge (tgt := 52) dX5_tick_36 (by decide) (fun c36 => ?_) (fun c36 => ?_)
    · refine ev_aload_n dX5_tick_52 rfl rfl rfl ?_
      refine ev_get 5 2 fl_RX5_28 (NL_g0 V) rfl dX5_tick_53 ?_
      refine bk_callV (As := []) (st := []) (st2 := [.int (f_X4_time nw)]) (M2 := hn C off dear proved Dg dw nw J bef mov nxt chn tol tw nu sw ss giv sE P pn) ok_X4_time lk_RX5_115 (ng_rok.of rfl rfl) (NL_g7 V) rfl rfl rfl rfl rfl rfl dX5_tick_56 (m_X4_time (NL_R7 V) trivial) rfl rfl ?_
      exact ev_iret rfl rfl dX5_tick_59
    · replace h := h c36
      refine ev_aload_n dX5_tick_39 rfl rfl rfl ?_
      refine ev_get 5 2 fl_RX5_28 (NL_g0 V) rfl dX5_tick_40 ?_
      have hs43 := h.1
      replace h := h.2
      refine bk_callV (As := []) (st := []) (st2 := []) (M2 := hn C off dear proved ((f_X4_passTick nw Dg dw C off dear proved true).2.1) ((f_X4_passTick nw Dg dw C off dear proved true).2.2) ((f_X4_passTick nw Dg dw C off dear proved true).1) J bef mov nxt chn tol tw nu sw ss giv sE P pn) ok_X4_passTick lk_RX5_171 (ng_rok.of rfl rfl) (NL_g7 V) rfl rfl rfl rfl rfl rfl dX5_tick_43 (m_X4_passTick (NL_now V J bef mov nxt chn tol tw nu sw ss giv sE P pn) hs43) rfl rfl ?_
      exact ev_sub (e_X5_tick_46 V ih h) (sub_s (sub_s (sub_s sub_e)))
def f_X5_tick  (C : Nat → Int32) (off : Nat → Int32) (dear : Nat → Int32) (proved : Nat → Int32) (Dg : Nat → Int32) (dw : Nat → Int32) (nw : Nat → Int32) (v1 : Int32) : (Nat → Int32) × (Nat → Int32) × (Nat → Int32) × Int32 := (if (f_X5_within v1 (nI 1) (nI 500)) = 0 then (Dg, dw, nw, (-2)) else (if ((f_X4_time nw) + v1) ≤ (nI 30000) then f_X5_tick_34 ng_F C off dear proved Dg dw nw v1 (nI 0) else (Dg, dw, nw, (-3))))
def s_X5_tick  (C : Nat → Int32) (off : Nat → Int32) (dear : Nat → Int32) (proved : Nat → Int32) (Dg : Nat → Int32) (dw : Nat → Int32) (nw : Nat → Int32) (v1 : Int32) : Prop := (¬ (f_X5_within v1 (nI 1) (nI 500)) = 0 → (((f_X4_time nw) + v1) ≤ (nI 30000) → s_X5_tick_34 ng_F C off dear proved Dg dw nw v1 (nI 0)))
set_option maxRecDepth 100000 in
set_option maxHeartbeats 4000000 in
theorem e_X5_tick {G : ng_GG} {hn : (Nat → Int32) → (Nat → Int32) → (Nat → Int32) → (Nat → Int32) → (Nat → Int32) → (Nat → Int32) → (Nat → Int32) → (Nat → Int32) → (Nat → Int32) → (Nat → Int32) → (Nat → Int32) → (Nat → Int32) → (Nat → Int32) → (Nat → Int32) → (Nat → Nat → Int64) → (Nat → Int32) → (Nat → Int32) → (Nat → Int32) → Int32 → (Nat → Nat → Int32) → Nat → ng_AM}  (V : ng_NL hn ) {C : Nat → Int32} {off : Nat → Int32} {dear : Nat → Int32} {proved : Nat → Int32} {Dg : Nat → Int32} {dw : Nat → Int32} {nw : Nat → Int32} {J : Nat → Int32} {bef : Nat → Int32} {mov : Nat → Int32} {nxt : Nat → Int32} {chn : Nat → Int32} {tol : Nat → Int32} {tw : Nat → Int32} {nu : Nat → Nat → Int64} {sw : Nat → Int32} {ss : Nat → Int32} {giv : Nat → Int32} {sE : Int32} {P : Nat → Nat → Int32} {pn : Nat}  {v1 : Int32} (h : s_X5_tick  C off dear proved Dg dw nw v1)  : ng_Ev G md_X5_tick 0 [some (.ref 0), some (.int v1), none] [] (hn C off dear proved Dg dw nw J bef mov nxt chn tol tw nu sw ss giv sE P pn) (K_X5_tick hn C off dear proved J bef mov nxt chn tol tw nu sw ss giv sE P pn (f_X5_tick  C off dear proved Dg dw nw v1)) := by
  unfold s_X5_tick at h
  unfold f_X5_tick
  refine ev_iload_n dX5_tick_0 rfl rfl ?_
  refine ev_iconst (v := nI 1) dX5_tick_1 (by decide) ?_
  refine ev_sipush (v := nI 500) dX5_tick_2 (by decide) ?_
  refine bk_callS (As := [.int v1, .int (nI 1), .int (nI 500)]) (st := []) (st2 := [.int (f_X5_within v1 (nI 1) (nI 500))]) (M2 := hn C off dear proved Dg dw nw J bef mov nxt chn tol tw nu sw ss giv sE P pn) ok_X5_within lk_RX5_56 (ng_rok.of rfl rfl) rfl rfl rfl rfl dX5_tick_5 (m_X5_within trivial) rfl rfl ?_
  refine bk_if_ne (tgt := 14) dX5_tick_8 (by decide) (fun c8 => ?_) (fun c8 => ?_)
  · replace h := h c8
    refine ev_aload_n dX5_tick_14 rfl rfl rfl ?_
    refine ev_get 5 2 fl_RX5_28 (NL_g0 V) rfl dX5_tick_15 ?_
    refine bk_callV (As := []) (st := []) (st2 := [.int (f_X4_time nw)]) (M2 := hn C off dear proved Dg dw nw J bef mov nxt chn tol tw nu sw ss giv sE P pn) ok_X4_time lk_RX5_115 (ng_rok.of rfl rfl) (NL_g7 V) rfl rfl rfl rfl rfl rfl dX5_tick_18 (m_X4_time (NL_R7 V) trivial) rfl rfl ?_
    refine ev_iload_n dX5_tick_21 rfl rfl ?_
    refine ev_iadd dX5_tick_22 ?_
    refine ev_sipush (v := nI 30000) dX5_tick_23 (by decide) ?_
    refine bk_icmp_le (tgt := 32) dX5_tick_26 (by decide) (fun c26 => ?_) (fun c26 => ?_)
    · replace h := h c26
      refine ev_iconst (v := nI 0) dX5_tick_32 (by decide) ?_
      refine ev_istore_n (L' := [some (.ref 0), some (.int v1), some (.int (nI 0))]) dX5_tick_33 rfl (ng_lt rfl) rfl ?_
      exact ev_sub (e_X5_tick_34 V ng_F C off dear proved Dg dw nw J bef mov nxt chn tol tw nu sw ss giv sE P pn v1 (nI 0) h) (sub_s (sub_s (sub_s sub_e)))
    · refine ev_bipush (v := (-3)) dX5_tick_29 (by decide) ?_
      exact ev_iret rfl rfl dX5_tick_31
  · refine ev_bipush (v := (-2)) dX5_tick_11 (by decide) ?_
    exact ev_iret rfl rfl dX5_tick_13
theorem m_X5_tick {G : ng_GG} {hn : (Nat → Int32) → (Nat → Int32) → (Nat → Int32) → (Nat → Int32) → (Nat → Int32) → (Nat → Int32) → (Nat → Int32) → (Nat → Int32) → (Nat → Int32) → (Nat → Int32) → (Nat → Int32) → (Nat → Int32) → (Nat → Int32) → (Nat → Int32) → (Nat → Nat → Int64) → (Nat → Int32) → (Nat → Int32) → (Nat → Int32) → Int32 → (Nat → Nat → Int32) → Nat → ng_AM}  (V : ng_NL hn ) {C : Nat → Int32} {off : Nat → Int32} {dear : Nat → Int32} {proved : Nat → Int32} {Dg : Nat → Int32} {dw : Nat → Int32} {nw : Nat → Int32} {J : Nat → Int32} {bef : Nat → Int32} {mov : Nat → Int32} {nxt : Nat → Int32} {chn : Nat → Int32} {tol : Nat → Int32} {tw : Nat → Int32} {nu : Nat → Nat → Int64} {sw : Nat → Int32} {ss : Nat → Int32} {giv : Nat → Int32} {sE : Int32} {P : Nat → Nat → Int32} {pn : Nat} {v1 : Int32} (h : s_X5_tick C off dear proved Dg dw nw v1)  : ng_Ev G md_X5_tick 0 (ng_en 3 [.ref 0, .int v1]) [] (hn C off dear proved Dg dw nw J bef mov nxt chn tol tw nu sw ss giv sE P pn) (K_X5_tick hn C off dear proved J bef mov nxt chn tol tw nu sw ss giv sE P pn (f_X5_tick C off dear proved Dg dw nw v1)) := e_X5_tick V h 
def K_X5_judge (hn : (Nat → Int32) → (Nat → Int32) → (Nat → Int32) → (Nat → Int32) → (Nat → Int32) → (Nat → Int32) → (Nat → Int32) → (Nat → Int32) → (Nat → Int32) → (Nat → Int32) → (Nat → Int32) → (Nat → Int32) → (Nat → Int32) → (Nat → Int32) → (Nat → Nat → Int64) → (Nat → Int32) → (Nat → Int32) → (Nat → Int32) → Int32 → (Nat → Nat → Int32) → Nat → ng_AM) (C : Nat → Int32) (off : Nat → Int32) (dear : Nat → Int32) (proved : Nat → Int32) (nw : Nat → Int32) (nu : Nat → Nat → Int64) (sw : Nat → Int32) (ss : Nat → Int32) (giv : Nat → Int32) (sE : Int32) (r : (Nat → Int32) × (Nat → Int32) × (Nat → Int32) × (Nat → Int32) × (Nat → Int32) × (Nat → Int32) × (Nat → Int32) × (Nat → Int32) × (Nat → Int32) × (Nat → Nat → Int32) × (Nat) × Int32) : ng_RR := (some (.int (r.2.2.2.2.2.2.2.2.2.2.2)), hn C off dear proved (r.1) (r.2.1) nw (r.2.2.1) (r.2.2.2.1) (r.2.2.2.2.1) (r.2.2.2.2.2.1) (r.2.2.2.2.2.2.1) (r.2.2.2.2.2.2.2.1) (r.2.2.2.2.2.2.2.2.1) nu sw ss giv sE (r.2.2.2.2.2.2.2.2.2.1) (r.2.2.2.2.2.2.2.2.2.2.1))
def f_X5_judge_38  (C : Nat → Int32) (off : Nat → Int32) (dear : Nat → Int32) (proved : Nat → Int32) (Dg : Nat → Int32) (dw : Nat → Int32) (nw : Nat → Int32) (J : Nat → Int32) (bef : Nat → Int32) (mov : Nat → Int32) (nxt : Nat → Int32) (chn : Nat → Int32) (tol : Nat → Int32) (tw : Nat → Int32) (P : Nat → Nat → Int32) (pn : Nat) (t0 : Int32) : (Nat → Int32) × (Nat → Int32) × (Nat → Int32) × (Nat → Int32) × (Nat → Int32) × (Nat → Int32) × (Nat → Int32) × (Nat → Int32) × (Nat → Int32) × (Nat → Nat → Int32) × (Nat) × Int32 := (Dg, dw, (f_X1_tell J bef mov tol t0).1, bef, mov, nxt, chn, (f_X1_tell J bef mov tol t0).2, tw, P, pn, t0)
def s_X5_judge_38  (C : Nat → Int32) (off : Nat → Int32) (dear : Nat → Int32) (proved : Nat → Int32) (Dg : Nat → Int32) (dw : Nat → Int32) (nw : Nat → Int32) (J : Nat → Int32) (bef : Nat → Int32) (mov : Nat → Int32) (nxt : Nat → Int32) (chn : Nat → Int32) (tol : Nat → Int32) (tw : Nat → Int32) (P : Nat → Nat → Int32) (pn : Nat) (t0 : Int32) : Prop := s_X1_tell J bef mov tol t0
set_option maxRecDepth 100000 in
set_option maxHeartbeats 4000000 in
theorem e_X5_judge_38 {G : ng_GG} {hn : (Nat → Int32) → (Nat → Int32) → (Nat → Int32) → (Nat → Int32) → (Nat → Int32) → (Nat → Int32) → (Nat → Int32) → (Nat → Int32) → (Nat → Int32) → (Nat → Int32) → (Nat → Int32) → (Nat → Int32) → (Nat → Int32) → (Nat → Int32) → (Nat → Nat → Int64) → (Nat → Int32) → (Nat → Int32) → (Nat → Int32) → Int32 → (Nat → Nat → Int32) → Nat → ng_AM}  (V : ng_NL hn ) {C : Nat → Int32} {off : Nat → Int32} {dear : Nat → Int32} {proved : Nat → Int32} {Dg : Nat → Int32} {dw : Nat → Int32} {nw : Nat → Int32} {J : Nat → Int32} {bef : Nat → Int32} {mov : Nat → Int32} {nxt : Nat → Int32} {chn : Nat → Int32} {tol : Nat → Int32} {tw : Nat → Int32} {nu : Nat → Nat → Int64} {sw : Nat → Int32} {ss : Nat → Int32} {giv : Nat → Int32} {sE : Int32} {P : Nat → Nat → Int32} {pn : Nat}  {t0 : Int32} (h : s_X5_judge_38  C off dear proved Dg dw nw J bef mov nxt chn tol tw P pn t0)  : ng_Ev G md_X5_judge 38 [some (.ref 0), none, none, none, none, none, none] [.int t0] (hn C off dear proved Dg dw nw J bef mov nxt chn tol tw nu sw ss giv sE P pn) (K_X5_judge hn C off dear proved nw nu sw ss giv sE (f_X5_judge_38  C off dear proved Dg dw nw J bef mov nxt chn tol tw P pn t0)) := by
  unfold s_X5_judge_38 at h
  unfold f_X5_judge_38
  refine ev_istore (L' := [some (.ref 0), none, none, none, none, none, some (.int t0)]) dX5_judge_38 (ng_lt rfl) rfl ?_
  refine ev_aload_n dX5_judge_40 rfl rfl rfl ?_
  refine ev_get 5 3 fl_RX5_37 (NL_g0 V) rfl dX5_judge_41 ?_
  refine ev_iload dX5_judge_44 rfl ?_
  have hs46 := h
  refine bk_callV (As := [.int t0]) (st := []) (st2 := []) (M2 := hn C off dear proved Dg dw nw ((f_X1_tell J bef mov tol t0).1) bef mov nxt chn ((f_X1_tell J bef mov tol t0).2) tw nu sw ss giv sE P pn) ok_X1_tell lk_RX5_185 (ng_rok.of rfl rfl) (NL_g9 V) rfl rfl rfl rfl rfl rfl dX5_judge_46 (m_X1_tell V hs46) rfl rfl ?_
  refine ev_iload dX5_judge_49 rfl ?_
  exact ev_iret rfl rfl dX5_judge_51
def f_X5_judge_29  (C : Nat → Int32) (off : Nat → Int32) (dear : Nat → Int32) (proved : Nat → Int32) (Dg : Nat → Int32) (dw : Nat → Int32) (nw : Nat → Int32) (J : Nat → Int32) (bef : Nat → Int32) (mov : Nat → Int32) (nxt : Nat → Int32) (chn : Nat → Int32) (tol : Nat → Int32) (tw : Nat → Int32) (P : Nat → Nat → Int32) (pn : Nat) (v5 : Int32) : (Nat → Int32) × (Nat → Int32) × (Nat → Int32) × (Nat → Int32) × (Nat → Int32) × (Nat → Int32) × (Nat → Int32) × (Nat → Int32) × (Nat → Int32) × (Nat → Nat → Int32) × (Nat) × Int32 := f_X5_judge_38 C off dear proved ((f_X1_search C off dear proved Dg dw nw J bef mov nxt chn tw P pn v5).1) ((f_X1_search C off dear proved Dg dw nw J bef mov nxt chn tw P pn v5).2.1) nw ((f_X1_search C off dear proved Dg dw nw J bef mov nxt chn tw P pn v5).2.2.1) ((f_X1_search C off dear proved Dg dw nw J bef mov nxt chn tw P pn v5).2.2.2.1) ((f_X1_search C off dear proved Dg dw nw J bef mov nxt chn tw P pn v5).2.2.2.2.1) ((f_X1_search C off dear proved Dg dw nw J bef mov nxt chn tw P pn v5).2.2.2.2.2.1) ((f_X1_search C off dear proved Dg dw nw J bef mov nxt chn tw P pn v5).2.2.2.2.2.2.1) tol ((f_X1_search C off dear proved Dg dw nw J bef mov nxt chn tw P pn v5).2.2.2.2.2.2.2.1) ((f_X1_search C off dear proved Dg dw nw J bef mov nxt chn tw P pn v5).2.2.2.2.2.2.2.2.1) ((f_X1_search C off dear proved Dg dw nw J bef mov nxt chn tw P pn v5).2.2.2.2.2.2.2.2.2.1) ((f_X1_search C off dear proved Dg dw nw J bef mov nxt chn tw P pn v5).2.2.2.2.2.2.2.2.2.2)
def s_X5_judge_29  (C : Nat → Int32) (off : Nat → Int32) (dear : Nat → Int32) (proved : Nat → Int32) (Dg : Nat → Int32) (dw : Nat → Int32) (nw : Nat → Int32) (J : Nat → Int32) (bef : Nat → Int32) (mov : Nat → Int32) (nxt : Nat → Int32) (chn : Nat → Int32) (tol : Nat → Int32) (tw : Nat → Int32) (P : Nat → Nat → Int32) (pn : Nat) (v5 : Int32) : Prop := (s_X1_search C off dear proved Dg dw nw J bef mov nxt chn tw P pn v5 ∧ s_X5_judge_38 C off dear proved ((f_X1_search C off dear proved Dg dw nw J bef mov nxt chn tw P pn v5).1) ((f_X1_search C off dear proved Dg dw nw J bef mov nxt chn tw P pn v5).2.1) nw ((f_X1_search C off dear proved Dg dw nw J bef mov nxt chn tw P pn v5).2.2.1) ((f_X1_search C off dear proved Dg dw nw J bef mov nxt chn tw P pn v5).2.2.2.1) ((f_X1_search C off dear proved Dg dw nw J bef mov nxt chn tw P pn v5).2.2.2.2.1) ((f_X1_search C off dear proved Dg dw nw J bef mov nxt chn tw P pn v5).2.2.2.2.2.1) ((f_X1_search C off dear proved Dg dw nw J bef mov nxt chn tw P pn v5).2.2.2.2.2.2.1) tol ((f_X1_search C off dear proved Dg dw nw J bef mov nxt chn tw P pn v5).2.2.2.2.2.2.2.1) ((f_X1_search C off dear proved Dg dw nw J bef mov nxt chn tw P pn v5).2.2.2.2.2.2.2.2.1) ((f_X1_search C off dear proved Dg dw nw J bef mov nxt chn tw P pn v5).2.2.2.2.2.2.2.2.2.1) ((f_X1_search C off dear proved Dg dw nw J bef mov nxt chn tw P pn v5).2.2.2.2.2.2.2.2.2.2))
set_option maxRecDepth 100000 in
set_option maxHeartbeats 4000000 in
theorem e_X5_judge_29 {G : ng_GG} {hn : (Nat → Int32) → (Nat → Int32) → (Nat → Int32) → (Nat → Int32) → (Nat → Int32) → (Nat → Int32) → (Nat → Int32) → (Nat → Int32) → (Nat → Int32) → (Nat → Int32) → (Nat → Int32) → (Nat → Int32) → (Nat → Int32) → (Nat → Int32) → (Nat → Nat → Int64) → (Nat → Int32) → (Nat → Int32) → (Nat → Int32) → Int32 → (Nat → Nat → Int32) → Nat → ng_AM}  (V : ng_NL hn ) {C : Nat → Int32} {off : Nat → Int32} {dear : Nat → Int32} {proved : Nat → Int32} {Dg : Nat → Int32} {dw : Nat → Int32} {nw : Nat → Int32} {J : Nat → Int32} {bef : Nat → Int32} {mov : Nat → Int32} {nxt : Nat → Int32} {chn : Nat → Int32} {tol : Nat → Int32} {tw : Nat → Int32} {nu : Nat → Nat → Int64} {sw : Nat → Int32} {ss : Nat → Int32} {giv : Nat → Int32} {sE : Int32} {P : Nat → Nat → Int32} {pn : Nat}  {v5 : Int32} (h : s_X5_judge_29  C off dear proved Dg dw nw J bef mov nxt chn tol tw P pn v5)  : ng_Ev G md_X5_judge 29 [some (.ref 0), none, none, none, none, some (.int v5), none] [] (hn C off dear proved Dg dw nw J bef mov nxt chn tol tw nu sw ss giv sE P pn) (K_X5_judge hn C off dear proved nw nu sw ss giv sE (f_X5_judge_29  C off dear proved Dg dw nw J bef mov nxt chn tol tw P pn v5)) := by
  unfold s_X5_judge_29 at h
  unfold f_X5_judge_29
  refine ev_aload_n dX5_judge_29 rfl rfl rfl ?_
  refine ev_get 5 3 fl_RX5_37 (NL_g0 V) rfl dX5_judge_30 ?_
  refine ev_iload dX5_judge_33 rfl ?_
  have hs35 := h.1
  replace h := h.2
  refine bk_callV (As := [.int v5]) (st := []) (st2 := [.int ((f_X1_search C off dear proved Dg dw nw J bef mov nxt chn tw P pn v5).2.2.2.2.2.2.2.2.2.2)]) (M2 := hn C off dear proved ((f_X1_search C off dear proved Dg dw nw J bef mov nxt chn tw P pn v5).1) ((f_X1_search C off dear proved Dg dw nw J bef mov nxt chn tw P pn v5).2.1) nw ((f_X1_search C off dear proved Dg dw nw J bef mov nxt chn tw P pn v5).2.2.1) ((f_X1_search C off dear proved Dg dw nw J bef mov nxt chn tw P pn v5).2.2.2.1) ((f_X1_search C off dear proved Dg dw nw J bef mov nxt chn tw P pn v5).2.2.2.2.1) ((f_X1_search C off dear proved Dg dw nw J bef mov nxt chn tw P pn v5).2.2.2.2.2.1) ((f_X1_search C off dear proved Dg dw nw J bef mov nxt chn tw P pn v5).2.2.2.2.2.2.1) tol ((f_X1_search C off dear proved Dg dw nw J bef mov nxt chn tw P pn v5).2.2.2.2.2.2.2.1) nu sw ss giv sE ((f_X1_search C off dear proved Dg dw nw J bef mov nxt chn tw P pn v5).2.2.2.2.2.2.2.2.1) ((f_X1_search C off dear proved Dg dw nw J bef mov nxt chn tw P pn v5).2.2.2.2.2.2.2.2.2.1)) ok_X1_search lk_RX5_182 (ng_rok.of rfl rfl) (NL_g9 V) rfl rfl rfl rfl rfl rfl dX5_judge_35 (m_X1_search V hs35) rfl rfl ?_
  exact ev_sub (e_X5_judge_38 V h) (sub_s (sub_n (sub_n (sub_n (sub_n (sub_n (sub_n sub_e)))))))
def f_X5_judge  (C : Nat → Int32) (off : Nat → Int32) (dear : Nat → Int32) (proved : Nat → Int32) (Dg : Nat → Int32) (dw : Nat → Int32) (nw : Nat → Int32) (J : Nat → Int32) (bef : Nat → Int32) (mov : Nat → Int32) (nxt : Nat → Int32) (chn : Nat → Int32) (tol : Nat → Int32) (tw : Nat → Int32) (P : Nat → Nat → Int32) (pn : Nat) (v1 : Int32) (v2 : Int32) (v3 : Int32) (v4 : Int32) (v5 : Int32) : (Nat → Int32) × (Nat → Int32) × (Nat → Int32) × (Nat → Int32) × (Nat → Int32) × (Nat → Int32) × (Nat → Int32) × (Nat → Int32) × (Nat → Int32) × (Nat → Nat → Int32) × (Nat) × Int32 := (if (f_X5_isQuestion C v1 v2 v3 v4 v5) = 0 then (Dg, dw, J, bef, mov, nxt, chn, tol, tw, P, pn, (-2)) else f_X5_judge_29 C off dear proved Dg dw nw (f_X1_aim J v1 v2 v3 v4) bef mov nxt chn tol tw P pn v5)
def s_X5_judge  (C : Nat → Int32) (off : Nat → Int32) (dear : Nat → Int32) (proved : Nat → Int32) (Dg : Nat → Int32) (dw : Nat → Int32) (nw : Nat → Int32) (J : Nat → Int32) (bef : Nat → Int32) (mov : Nat → Int32) (nxt : Nat → Int32) (chn : Nat → Int32) (tol : Nat → Int32) (tw : Nat → Int32) (P : Nat → Nat → Int32) (pn : Nat) (v1 : Int32) (v2 : Int32) (v3 : Int32) (v4 : Int32) (v5 : Int32) : Prop := (¬ (f_X5_isQuestion C v1 v2 v3 v4 v5) = 0 → s_X5_judge_29 C off dear proved Dg dw nw (f_X1_aim J v1 v2 v3 v4) bef mov nxt chn tol tw P pn v5)
set_option maxRecDepth 100000 in
set_option maxHeartbeats 4000000 in
theorem e_X5_judge {G : ng_GG} {hn : (Nat → Int32) → (Nat → Int32) → (Nat → Int32) → (Nat → Int32) → (Nat → Int32) → (Nat → Int32) → (Nat → Int32) → (Nat → Int32) → (Nat → Int32) → (Nat → Int32) → (Nat → Int32) → (Nat → Int32) → (Nat → Int32) → (Nat → Int32) → (Nat → Nat → Int64) → (Nat → Int32) → (Nat → Int32) → (Nat → Int32) → Int32 → (Nat → Nat → Int32) → Nat → ng_AM}  (V : ng_NL hn ) {C : Nat → Int32} {off : Nat → Int32} {dear : Nat → Int32} {proved : Nat → Int32} {Dg : Nat → Int32} {dw : Nat → Int32} {nw : Nat → Int32} {J : Nat → Int32} {bef : Nat → Int32} {mov : Nat → Int32} {nxt : Nat → Int32} {chn : Nat → Int32} {tol : Nat → Int32} {tw : Nat → Int32} {nu : Nat → Nat → Int64} {sw : Nat → Int32} {ss : Nat → Int32} {giv : Nat → Int32} {sE : Int32} {P : Nat → Nat → Int32} {pn : Nat}  {v1 : Int32} {v2 : Int32} {v3 : Int32} {v4 : Int32} {v5 : Int32} (h : s_X5_judge  C off dear proved Dg dw nw J bef mov nxt chn tol tw P pn v1 v2 v3 v4 v5)  : ng_Ev G md_X5_judge 0 [some (.ref 0), some (.int v1), some (.int v2), some (.int v3), some (.int v4), some (.int v5), none] [] (hn C off dear proved Dg dw nw J bef mov nxt chn tol tw nu sw ss giv sE P pn) (K_X5_judge hn C off dear proved nw nu sw ss giv sE (f_X5_judge  C off dear proved Dg dw nw J bef mov nxt chn tol tw P pn v1 v2 v3 v4 v5)) := by
  unfold s_X5_judge at h
  unfold f_X5_judge
  refine ev_aload_n dX5_judge_0 rfl rfl rfl ?_
  refine ev_iload_n dX5_judge_1 rfl rfl ?_
  refine ev_iload_n dX5_judge_2 rfl rfl ?_
  refine ev_iload_n dX5_judge_3 rfl rfl ?_
  refine ev_iload dX5_judge_4 rfl ?_
  refine ev_iload dX5_judge_6 rfl ?_
  refine bk_callV (As := [.int v1, .int v2, .int v3, .int v4, .int v5]) (st := []) (st2 := [.int (f_X5_isQuestion C v1 v2 v3 v4 v5)]) (M2 := hn C off dear proved Dg dw nw J bef mov nxt chn tol tw nu sw ss giv sE P pn) ok_X5_isQuestion lk_RX5_174 (ng_rok.of rfl rfl) (NL_g0 V) rfl rfl rfl rfl rfl rfl dX5_judge_8 (m_X5_isQuestion V trivial) rfl rfl ?_
  refine bk_if_ne (tgt := 17) dX5_judge_11 (by decide) (fun c11 => ?_) (fun c11 => ?_)
  · replace h := h c11
    refine ev_aload_n dX5_judge_17 rfl rfl rfl ?_
    refine ev_get 5 3 fl_RX5_37 (NL_g0 V) rfl dX5_judge_18 ?_
    refine ev_iload_n dX5_judge_21 rfl rfl ?_
    refine ev_iload_n dX5_judge_22 rfl rfl ?_
    refine ev_iload_n dX5_judge_23 rfl rfl ?_
    refine ev_iload dX5_judge_24 rfl ?_
    refine bk_callV (As := [.int v1, .int v2, .int v3, .int v4]) (st := []) (st2 := []) (M2 := hn C off dear proved Dg dw nw (f_X1_aim J v1 v2 v3 v4) bef mov nxt chn tol tw nu sw ss giv sE P pn) ok_X1_aim lk_RX5_178 (ng_rok.of rfl rfl) (NL_g9 V) rfl rfl rfl rfl rfl rfl dX5_judge_26 (m_X1_aim V trivial) rfl rfl ?_
    exact ev_sub (e_X5_judge_29 V h) (sub_s (sub_n (sub_n (sub_n (sub_n (sub_s (sub_n sub_e)))))))
  · refine ev_bipush (v := (-2)) dX5_judge_14 (by decide) ?_
    exact ev_iret rfl rfl dX5_judge_16
theorem m_X5_judge {G : ng_GG} {hn : (Nat → Int32) → (Nat → Int32) → (Nat → Int32) → (Nat → Int32) → (Nat → Int32) → (Nat → Int32) → (Nat → Int32) → (Nat → Int32) → (Nat → Int32) → (Nat → Int32) → (Nat → Int32) → (Nat → Int32) → (Nat → Int32) → (Nat → Int32) → (Nat → Nat → Int64) → (Nat → Int32) → (Nat → Int32) → (Nat → Int32) → Int32 → (Nat → Nat → Int32) → Nat → ng_AM}  (V : ng_NL hn ) {C : Nat → Int32} {off : Nat → Int32} {dear : Nat → Int32} {proved : Nat → Int32} {Dg : Nat → Int32} {dw : Nat → Int32} {nw : Nat → Int32} {J : Nat → Int32} {bef : Nat → Int32} {mov : Nat → Int32} {nxt : Nat → Int32} {chn : Nat → Int32} {tol : Nat → Int32} {tw : Nat → Int32} {nu : Nat → Nat → Int64} {sw : Nat → Int32} {ss : Nat → Int32} {giv : Nat → Int32} {sE : Int32} {P : Nat → Nat → Int32} {pn : Nat} {v1 : Int32} {v2 : Int32} {v3 : Int32} {v4 : Int32} {v5 : Int32} (h : s_X5_judge C off dear proved Dg dw nw J bef mov nxt chn tol tw P pn v1 v2 v3 v4 v5)  : ng_Ev G md_X5_judge 0 (ng_en 7 [.ref 0, .int v1, .int v2, .int v3, .int v4, .int v5]) [] (hn C off dear proved Dg dw nw J bef mov nxt chn tol tw nu sw ss giv sE P pn) (K_X5_judge hn C off dear proved nw nu sw ss giv sE (f_X5_judge C off dear proved Dg dw nw J bef mov nxt chn tol tw P pn v1 v2 v3 v4 v5)) := e_X5_judge V h 
def K_X5_found (hn : (Nat → Int32) → (Nat → Int32) → (Nat → Int32) → (Nat → Int32) → (Nat → Int32) → (Nat → Int32) → (Nat → Int32) → (Nat → Int32) → (Nat → Int32) → (Nat → Int32) → (Nat → Int32) → (Nat → Int32) → (Nat → Int32) → (Nat → Int32) → (Nat → Nat → Int64) → (Nat → Int32) → (Nat → Int32) → (Nat → Int32) → Int32 → (Nat → Nat → Int32) → Nat → ng_AM) (C : Nat → Int32) (off : Nat → Int32) (dear : Nat → Int32) (proved : Nat → Int32) (Dg : Nat → Int32) (dw : Nat → Int32) (nw : Nat → Int32) (J : Nat → Int32) (bef : Nat → Int32) (mov : Nat → Int32) (nxt : Nat → Int32) (chn : Nat → Int32) (tol : Nat → Int32) (tw : Nat → Int32) (nu : Nat → Nat → Int64) (sw : Nat → Int32) (ss : Nat → Int32) (giv : Nat → Int32) (sE : Int32) (P : Nat → Nat → Int32) (pn : Nat) (r : Int32) : ng_RR := (some (.int (r)), hn C off dear proved Dg dw nw J bef mov nxt chn tol tw nu sw ss giv sE P pn)
def f_X5_found  (J : Nat → Int32) (tol : Nat → Int32) (v1 : Int32) : Int32 := (f_X1_toldMove J tol v1)
def s_X5_found  (J : Nat → Int32) (tol : Nat → Int32) (v1 : Int32) : Prop := s_X1_toldMove J tol v1
set_option maxRecDepth 100000 in
set_option maxHeartbeats 4000000 in
theorem e_X5_found {G : ng_GG} {hn : (Nat → Int32) → (Nat → Int32) → (Nat → Int32) → (Nat → Int32) → (Nat → Int32) → (Nat → Int32) → (Nat → Int32) → (Nat → Int32) → (Nat → Int32) → (Nat → Int32) → (Nat → Int32) → (Nat → Int32) → (Nat → Int32) → (Nat → Int32) → (Nat → Nat → Int64) → (Nat → Int32) → (Nat → Int32) → (Nat → Int32) → Int32 → (Nat → Nat → Int32) → Nat → ng_AM}  (V : ng_NL hn ) {C : Nat → Int32} {off : Nat → Int32} {dear : Nat → Int32} {proved : Nat → Int32} {Dg : Nat → Int32} {dw : Nat → Int32} {nw : Nat → Int32} {J : Nat → Int32} {bef : Nat → Int32} {mov : Nat → Int32} {nxt : Nat → Int32} {chn : Nat → Int32} {tol : Nat → Int32} {tw : Nat → Int32} {nu : Nat → Nat → Int64} {sw : Nat → Int32} {ss : Nat → Int32} {giv : Nat → Int32} {sE : Int32} {P : Nat → Nat → Int32} {pn : Nat}  {v1 : Int32} (h : s_X5_found  J tol v1)  : ng_Ev G md_X5_found 0 [some (.ref 0), some (.int v1)] [] (hn C off dear proved Dg dw nw J bef mov nxt chn tol tw nu sw ss giv sE P pn) (K_X5_found hn C off dear proved Dg dw nw J bef mov nxt chn tol tw nu sw ss giv sE P pn (f_X5_found  J tol v1)) := by
  unfold s_X5_found at h
  unfold f_X5_found
  refine ev_aload_n dX5_found_0 rfl rfl rfl ?_
  refine ev_get 5 3 fl_RX5_37 (NL_g0 V) rfl dX5_found_1 ?_
  refine ev_iload_n dX5_found_4 rfl rfl ?_
  have hs5 := h
  refine bk_callV (As := [.int v1]) (st := []) (st2 := [.int (f_X1_toldMove J tol v1)]) (M2 := hn C off dear proved Dg dw nw J bef mov nxt chn tol tw nu sw ss giv sE P pn) ok_X1_toldMove lk_RX5_188 (ng_rok.of rfl rfl) (NL_g9 V) rfl rfl rfl rfl rfl rfl dX5_found_5 (m_X1_toldMove V hs5) rfl rfl ?_
  exact ev_iret rfl rfl dX5_found_8
theorem m_X5_found {G : ng_GG} {hn : (Nat → Int32) → (Nat → Int32) → (Nat → Int32) → (Nat → Int32) → (Nat → Int32) → (Nat → Int32) → (Nat → Int32) → (Nat → Int32) → (Nat → Int32) → (Nat → Int32) → (Nat → Int32) → (Nat → Int32) → (Nat → Int32) → (Nat → Int32) → (Nat → Nat → Int64) → (Nat → Int32) → (Nat → Int32) → (Nat → Int32) → Int32 → (Nat → Nat → Int32) → Nat → ng_AM}  (V : ng_NL hn ) {C : Nat → Int32} {off : Nat → Int32} {dear : Nat → Int32} {proved : Nat → Int32} {Dg : Nat → Int32} {dw : Nat → Int32} {nw : Nat → Int32} {J : Nat → Int32} {bef : Nat → Int32} {mov : Nat → Int32} {nxt : Nat → Int32} {chn : Nat → Int32} {tol : Nat → Int32} {tw : Nat → Int32} {nu : Nat → Nat → Int64} {sw : Nat → Int32} {ss : Nat → Int32} {giv : Nat → Int32} {sE : Int32} {P : Nat → Nat → Int32} {pn : Nat} {v1 : Int32} (h : s_X5_found J tol v1)  : ng_Ev G md_X5_found 0 (ng_en 2 [.ref 0, .int v1]) [] (hn C off dear proved Dg dw nw J bef mov nxt chn tol tw nu sw ss giv sE P pn) (K_X5_found hn C off dear proved Dg dw nw J bef mov nxt chn tol tw nu sw ss giv sE P pn (f_X5_found J tol v1)) := e_X5_found V h 
def K_X5_stops (hn : (Nat → Int32) → (Nat → Int32) → (Nat → Int32) → (Nat → Int32) → (Nat → Int32) → (Nat → Int32) → (Nat → Int32) → (Nat → Int32) → (Nat → Int32) → (Nat → Int32) → (Nat → Int32) → (Nat → Int32) → (Nat → Int32) → (Nat → Int32) → (Nat → Nat → Int64) → (Nat → Int32) → (Nat → Int32) → (Nat → Int32) → Int32 → (Nat → Nat → Int32) → Nat → ng_AM) (off : Nat → Int32) (dear : Nat → Int32) (proved : Nat → Int32) (nw : Nat → Int32) (tol : Nat → Int32) (nu : Nat → Nat → Int64) (sw : Nat → Int32) (ss : Nat → Int32) (giv : Nat → Int32) (sE : Int32) (r : (Nat → Int32) × (Nat → Int32) × (Nat → Int32) × (Nat → Int32) × (Nat → Int32) × (Nat → Int32) × (Nat → Int32) × (Nat → Int32) × (Nat → Int32) × (Nat → Nat → Int32) × (Nat) × Int32) : ng_RR := (some (.int (r.2.2.2.2.2.2.2.2.2.2.2)), hn (r.1) off dear proved (r.2.1) (r.2.2.1) nw (r.2.2.2.1) (r.2.2.2.2.1) (r.2.2.2.2.2.1) (r.2.2.2.2.2.2.1) (r.2.2.2.2.2.2.2.1) tol (r.2.2.2.2.2.2.2.2.1) nu sw ss giv sE (r.2.2.2.2.2.2.2.2.2.1) (r.2.2.2.2.2.2.2.2.2.2.1))
def f_X5_stops_127 (kk47 : (Nat → Int32) → (Nat → Int32) → (Nat → Int32) → (Nat → Int32) → (Nat → Int32) → (Nat → Int32) → (Nat → Int32) → (Nat → Int32) → (Nat → Int32) → (Nat → Int32) → (Nat → Int32) → (Nat → Int32) → (Nat → Int32) → (Nat → Nat → Int32) → (Nat) → Int32 → Int32 → Int32 → Int32 → Int32 → ((Nat → Int32) × (Nat → Int32) × (Nat → Int32) × (Nat → Int32) × (Nat → Int32) × (Nat → Int32) × (Nat → Int32) × (Nat → Int32) × (Nat → Int32) × (Nat → Nat → Int32) × (Nat) × Int32)) (C : Nat → Int32) (off : Nat → Int32) (dear : Nat → Int32) (proved : Nat → Int32) (Dg : Nat → Int32) (dw : Nat → Int32) (nw : Nat → Int32) (J : Nat → Int32) (bef : Nat → Int32) (mov : Nat → Int32) (nxt : Nat → Int32) (chn : Nat → Int32) (tw : Nat → Int32) (P : Nat → Nat → Int32) (pn : Nat) (v5 : Int32) (v6 : Int32) (v7 : Int32) (v8 : Int32) (v9 : Int32) : (Nat → Int32) × (Nat → Int32) × (Nat → Int32) × (Nat → Int32) × (Nat → Int32) × (Nat → Int32) × (Nat → Int32) × (Nat → Int32) × (Nat → Int32) × (Nat → Nat → Int32) × (Nat) × Int32 := kk47 C off dear proved Dg dw nw J bef mov nxt chn tw P pn v5 v6 v7 v8 (v9 + nI 1)
def s_X5_stops_127 (sk47 : (Nat → Int32) → (Nat → Int32) → (Nat → Int32) → (Nat → Int32) → (Nat → Int32) → (Nat → Int32) → (Nat → Int32) → (Nat → Int32) → (Nat → Int32) → (Nat → Int32) → (Nat → Int32) → (Nat → Int32) → (Nat → Int32) → (Nat → Nat → Int32) → (Nat) → Int32 → Int32 → Int32 → Int32 → Int32 → Prop) (C : Nat → Int32) (off : Nat → Int32) (dear : Nat → Int32) (proved : Nat → Int32) (Dg : Nat → Int32) (dw : Nat → Int32) (nw : Nat → Int32) (J : Nat → Int32) (bef : Nat → Int32) (mov : Nat → Int32) (nxt : Nat → Int32) (chn : Nat → Int32) (tw : Nat → Int32) (P : Nat → Nat → Int32) (pn : Nat) (v5 : Int32) (v6 : Int32) (v7 : Int32) (v8 : Int32) (v9 : Int32) : Prop := sk47 C off dear proved Dg dw nw J bef mov nxt chn tw P pn v5 v6 v7 v8 (v9 + nI 1)
set_option maxRecDepth 100000 in
set_option maxHeartbeats 4000000 in
theorem e_X5_stops_127 {G : ng_GG} {hn : (Nat → Int32) → (Nat → Int32) → (Nat → Int32) → (Nat → Int32) → (Nat → Int32) → (Nat → Int32) → (Nat → Int32) → (Nat → Int32) → (Nat → Int32) → (Nat → Int32) → (Nat → Int32) → (Nat → Int32) → (Nat → Int32) → (Nat → Int32) → (Nat → Nat → Int64) → (Nat → Int32) → (Nat → Int32) → (Nat → Int32) → Int32 → (Nat → Nat → Int32) → Nat → ng_AM}  (V : ng_NL hn ) {C : Nat → Int32} {off : Nat → Int32} {dear : Nat → Int32} {proved : Nat → Int32} {Dg : Nat → Int32} {dw : Nat → Int32} {nw : Nat → Int32} {J : Nat → Int32} {bef : Nat → Int32} {mov : Nat → Int32} {nxt : Nat → Int32} {chn : Nat → Int32} {tol : Nat → Int32} {tw : Nat → Int32} {nu : Nat → Nat → Int64} {sw : Nat → Int32} {ss : Nat → Int32} {giv : Nat → Int32} {sE : Int32} {P : Nat → Nat → Int32} {pn : Nat} {kk47 : (Nat → Int32) → (Nat → Int32) → (Nat → Int32) → (Nat → Int32) → (Nat → Int32) → (Nat → Int32) → (Nat → Int32) → (Nat → Int32) → (Nat → Int32) → (Nat → Int32) → (Nat → Int32) → (Nat → Int32) → (Nat → Int32) → (Nat → Nat → Int32) → (Nat) → Int32 → Int32 → Int32 → Int32 → Int32 → ((Nat → Int32) × (Nat → Int32) × (Nat → Int32) × (Nat → Int32) × (Nat → Int32) × (Nat → Int32) × (Nat → Int32) × (Nat → Int32) × (Nat → Int32) × (Nat → Nat → Int32) × (Nat) × Int32)} {sk47 : (Nat → Int32) → (Nat → Int32) → (Nat → Int32) → (Nat → Int32) → (Nat → Int32) → (Nat → Int32) → (Nat → Int32) → (Nat → Int32) → (Nat → Int32) → (Nat → Int32) → (Nat → Int32) → (Nat → Int32) → (Nat → Int32) → (Nat → Nat → Int32) → (Nat) → Int32 → Int32 → Int32 → Int32 → Int32 → Prop} (hk47 : ∀ (C : Nat → Int32) (off : Nat → Int32) (dear : Nat → Int32) (proved : Nat → Int32) (Dg : Nat → Int32) (dw : Nat → Int32) (nw : Nat → Int32) (J : Nat → Int32) (bef : Nat → Int32) (mov : Nat → Int32) (nxt : Nat → Int32) (chn : Nat → Int32) (tol : Nat → Int32) (tw : Nat → Int32) (nu : Nat → Nat → Int64) (sw : Nat → Int32) (ss : Nat → Int32) (giv : Nat → Int32) (sE : Int32) (P : Nat → Nat → Int32) (pn : Nat) (v5 : Int32) (v6 : Int32) (v7 : Int32) (v8 : Int32) (v9 : Int32), sk47 C off dear proved Dg dw nw J bef mov nxt chn tw P pn v5 v6 v7 v8 v9 → ng_Ev G md_X5_stops 47 [some (.ref 0), none, none, none, none, some (.int v5), some (.int v6), some (.int v7), some (.int v8), some (.int v9), none] [] (hn C off dear proved Dg dw nw J bef mov nxt chn tol tw nu sw ss giv sE P pn) (K_X5_stops hn off dear proved nw tol nu sw ss giv sE (kk47 C off dear proved Dg dw nw J bef mov nxt chn tw P pn v5 v6 v7 v8 v9))) {v5 : Int32} {v6 : Int32} {v7 : Int32} {v8 : Int32} {v9 : Int32} (h : s_X5_stops_127 sk47 C off dear proved Dg dw nw J bef mov nxt chn tw P pn v5 v6 v7 v8 v9)  : ng_Ev G md_X5_stops 127 [some (.ref 0), none, none, none, none, some (.int v5), some (.int v6), some (.int v7), some (.int v8), some (.int v9), none] [] (hn C off dear proved Dg dw nw J bef mov nxt chn tol tw nu sw ss giv sE P pn) (K_X5_stops hn off dear proved nw tol nu sw ss giv sE (f_X5_stops_127 kk47 C off dear proved Dg dw nw J bef mov nxt chn tw P pn v5 v6 v7 v8 v9)) := by
  unfold s_X5_stops_127 at h
  unfold f_X5_stops_127
  refine ev_iinc (v := v9 + nI 1) (L' := [some (.ref 0), none, none, none, none, some (.int v5), some (.int v6), some (.int v7), some (.int v8), some (.int (v9 + nI 1)), none]) dX5_stops_127 rfl (by rfl) rfl ?_
  refine ev_goto (tgt := 47) dX5_stops_130 (by decide) ?_
  exact ev_sub (hk47 C off dear proved Dg dw nw J bef mov nxt chn tol tw nu sw ss giv sE P pn v5 v6 v7 v8 (v9 + nI 1) h) (sub_s (sub_n (sub_n (sub_n (sub_n (sub_s (sub_s (sub_s (sub_s (sub_s (sub_n sub_e)))))))))))
def f_X5_stops_125 (kk47 : (Nat → Int32) → (Nat → Int32) → (Nat → Int32) → (Nat → Int32) → (Nat → Int32) → (Nat → Int32) → (Nat → Int32) → (Nat → Int32) → (Nat → Int32) → (Nat → Int32) → (Nat → Int32) → (Nat → Int32) → (Nat → Int32) → (Nat → Nat → Int32) → (Nat) → Int32 → Int32 → Int32 → Int32 → Int32 → ((Nat → Int32) × (Nat → Int32) × (Nat → Int32) × (Nat → Int32) × (Nat → Int32) × (Nat → Int32) × (Nat → Int32) × (Nat → Int32) × (Nat → Int32) × (Nat → Nat → Int32) × (Nat) × Int32)) (C : Nat → Int32) (off : Nat → Int32) (dear : Nat → Int32) (proved : Nat → Int32) (Dg : Nat → Int32) (dw : Nat → Int32) (nw : Nat → Int32) (J : Nat → Int32) (bef : Nat → Int32) (mov : Nat → Int32) (nxt : Nat → Int32) (chn : Nat → Int32) (tw : Nat → Int32) (P : Nat → Nat → Int32) (pn : Nat) (v5 : Int32) (v6 : Int32) (v7 : Int32) (v9 : Int32) (t0 : Int32) : (Nat → Int32) × (Nat → Int32) × (Nat → Int32) × (Nat → Int32) × (Nat → Int32) × (Nat → Int32) × (Nat → Int32) × (Nat → Int32) × (Nat → Int32) × (Nat → Nat → Int32) × (Nat) × Int32 := f_X5_stops_127 kk47 C off dear proved Dg dw nw J bef mov nxt chn tw P pn v5 v6 v7 t0 v9
def s_X5_stops_125 (sk47 : (Nat → Int32) → (Nat → Int32) → (Nat → Int32) → (Nat → Int32) → (Nat → Int32) → (Nat → Int32) → (Nat → Int32) → (Nat → Int32) → (Nat → Int32) → (Nat → Int32) → (Nat → Int32) → (Nat → Int32) → (Nat → Int32) → (Nat → Nat → Int32) → (Nat) → Int32 → Int32 → Int32 → Int32 → Int32 → Prop) (C : Nat → Int32) (off : Nat → Int32) (dear : Nat → Int32) (proved : Nat → Int32) (Dg : Nat → Int32) (dw : Nat → Int32) (nw : Nat → Int32) (J : Nat → Int32) (bef : Nat → Int32) (mov : Nat → Int32) (nxt : Nat → Int32) (chn : Nat → Int32) (tw : Nat → Int32) (P : Nat → Nat → Int32) (pn : Nat) (v5 : Int32) (v6 : Int32) (v7 : Int32) (v9 : Int32) (t0 : Int32) : Prop := s_X5_stops_127 sk47 C off dear proved Dg dw nw J bef mov nxt chn tw P pn v5 v6 v7 t0 v9
set_option maxRecDepth 100000 in
set_option maxHeartbeats 4000000 in
theorem e_X5_stops_125 {G : ng_GG} {hn : (Nat → Int32) → (Nat → Int32) → (Nat → Int32) → (Nat → Int32) → (Nat → Int32) → (Nat → Int32) → (Nat → Int32) → (Nat → Int32) → (Nat → Int32) → (Nat → Int32) → (Nat → Int32) → (Nat → Int32) → (Nat → Int32) → (Nat → Int32) → (Nat → Nat → Int64) → (Nat → Int32) → (Nat → Int32) → (Nat → Int32) → Int32 → (Nat → Nat → Int32) → Nat → ng_AM}  (V : ng_NL hn ) {C : Nat → Int32} {off : Nat → Int32} {dear : Nat → Int32} {proved : Nat → Int32} {Dg : Nat → Int32} {dw : Nat → Int32} {nw : Nat → Int32} {J : Nat → Int32} {bef : Nat → Int32} {mov : Nat → Int32} {nxt : Nat → Int32} {chn : Nat → Int32} {tol : Nat → Int32} {tw : Nat → Int32} {nu : Nat → Nat → Int64} {sw : Nat → Int32} {ss : Nat → Int32} {giv : Nat → Int32} {sE : Int32} {P : Nat → Nat → Int32} {pn : Nat} {kk47 : (Nat → Int32) → (Nat → Int32) → (Nat → Int32) → (Nat → Int32) → (Nat → Int32) → (Nat → Int32) → (Nat → Int32) → (Nat → Int32) → (Nat → Int32) → (Nat → Int32) → (Nat → Int32) → (Nat → Int32) → (Nat → Int32) → (Nat → Nat → Int32) → (Nat) → Int32 → Int32 → Int32 → Int32 → Int32 → ((Nat → Int32) × (Nat → Int32) × (Nat → Int32) × (Nat → Int32) × (Nat → Int32) × (Nat → Int32) × (Nat → Int32) × (Nat → Int32) × (Nat → Int32) × (Nat → Nat → Int32) × (Nat) × Int32)} {sk47 : (Nat → Int32) → (Nat → Int32) → (Nat → Int32) → (Nat → Int32) → (Nat → Int32) → (Nat → Int32) → (Nat → Int32) → (Nat → Int32) → (Nat → Int32) → (Nat → Int32) → (Nat → Int32) → (Nat → Int32) → (Nat → Int32) → (Nat → Nat → Int32) → (Nat) → Int32 → Int32 → Int32 → Int32 → Int32 → Prop} (hk47 : ∀ (C : Nat → Int32) (off : Nat → Int32) (dear : Nat → Int32) (proved : Nat → Int32) (Dg : Nat → Int32) (dw : Nat → Int32) (nw : Nat → Int32) (J : Nat → Int32) (bef : Nat → Int32) (mov : Nat → Int32) (nxt : Nat → Int32) (chn : Nat → Int32) (tol : Nat → Int32) (tw : Nat → Int32) (nu : Nat → Nat → Int64) (sw : Nat → Int32) (ss : Nat → Int32) (giv : Nat → Int32) (sE : Int32) (P : Nat → Nat → Int32) (pn : Nat) (v5 : Int32) (v6 : Int32) (v7 : Int32) (v8 : Int32) (v9 : Int32), sk47 C off dear proved Dg dw nw J bef mov nxt chn tw P pn v5 v6 v7 v8 v9 → ng_Ev G md_X5_stops 47 [some (.ref 0), none, none, none, none, some (.int v5), some (.int v6), some (.int v7), some (.int v8), some (.int v9), none] [] (hn C off dear proved Dg dw nw J bef mov nxt chn tol tw nu sw ss giv sE P pn) (K_X5_stops hn off dear proved nw tol nu sw ss giv sE (kk47 C off dear proved Dg dw nw J bef mov nxt chn tw P pn v5 v6 v7 v8 v9))) {v5 : Int32} {v6 : Int32} {v7 : Int32} {v9 : Int32} {t0 : Int32} (h : s_X5_stops_125 sk47 C off dear proved Dg dw nw J bef mov nxt chn tw P pn v5 v6 v7 v9 t0)  : ng_Ev G md_X5_stops 125 [some (.ref 0), none, none, none, none, some (.int v5), some (.int v6), some (.int v7), none, some (.int v9), none] [.int t0] (hn C off dear proved Dg dw nw J bef mov nxt chn tol tw nu sw ss giv sE P pn) (K_X5_stops hn off dear proved nw tol nu sw ss giv sE (f_X5_stops_125 kk47 C off dear proved Dg dw nw J bef mov nxt chn tw P pn v5 v6 v7 v9 t0)) := by
  unfold s_X5_stops_125 at h
  unfold f_X5_stops_125
  refine ev_istore (L' := [some (.ref 0), none, none, none, none, some (.int v5), some (.int v6), some (.int v7), some (.int t0), some (.int v9), none]) dX5_stops_125 (ng_lt rfl) rfl ?_
  exact ev_sub (e_X5_stops_127 V hk47 h) (sub_s (sub_n (sub_n (sub_n (sub_n (sub_s (sub_s (sub_s (sub_s (sub_s (sub_n sub_e)))))))))))
def f_X5_stops_110 (kk47 : (Nat → Int32) → (Nat → Int32) → (Nat → Int32) → (Nat → Int32) → (Nat → Int32) → (Nat → Int32) → (Nat → Int32) → (Nat → Int32) → (Nat → Int32) → (Nat → Int32) → (Nat → Int32) → (Nat → Int32) → (Nat → Int32) → (Nat → Nat → Int32) → (Nat) → Int32 → Int32 → Int32 → Int32 → Int32 → ((Nat → Int32) × (Nat → Int32) × (Nat → Int32) × (Nat → Int32) × (Nat → Int32) × (Nat → Int32) × (Nat → Int32) × (Nat → Int32) × (Nat → Int32) × (Nat → Nat → Int32) × (Nat) × Int32)) (C : Nat → Int32) (off : Nat → Int32) (dear : Nat → Int32) (proved : Nat → Int32) (Dg : Nat → Int32) (dw : Nat → Int32) (nw : Nat → Int32) (J : Nat → Int32) (bef : Nat → Int32) (mov : Nat → Int32) (nxt : Nat → Int32) (chn : Nat → Int32) (tw : Nat → Int32) (P : Nat → Nat → Int32) (pn : Nat) (v5 : Int32) (v6 : Int32) (v9 : Int32) (v10 : Int32) (t0 : Int32) (t1 : Int32) : (Nat → Int32) × (Nat → Int32) × (Nat → Int32) × (Nat → Int32) × (Nat → Int32) × (Nat → Int32) × (Nat → Int32) × (Nat → Int32) × (Nat → Int32) × (Nat → Nat → Int32) × (Nat) × Int32 := (if v10 = (-4) then f_X5_stops_125 kk47 C off dear proved Dg dw nw J bef mov nxt chn tw P pn v5 v6 (t1 ||| t0) v9 (nI 1) else f_X5_stops_125 kk47 C off dear proved Dg dw nw J bef mov nxt chn tw P pn v5 v6 (t1 ||| t0) v9 (nI 0))
def s_X5_stops_110 (sk47 : (Nat → Int32) → (Nat → Int32) → (Nat → Int32) → (Nat → Int32) → (Nat → Int32) → (Nat → Int32) → (Nat → Int32) → (Nat → Int32) → (Nat → Int32) → (Nat → Int32) → (Nat → Int32) → (Nat → Int32) → (Nat → Int32) → (Nat → Nat → Int32) → (Nat) → Int32 → Int32 → Int32 → Int32 → Int32 → Prop) (C : Nat → Int32) (off : Nat → Int32) (dear : Nat → Int32) (proved : Nat → Int32) (Dg : Nat → Int32) (dw : Nat → Int32) (nw : Nat → Int32) (J : Nat → Int32) (bef : Nat → Int32) (mov : Nat → Int32) (nxt : Nat → Int32) (chn : Nat → Int32) (tw : Nat → Int32) (P : Nat → Nat → Int32) (pn : Nat) (v5 : Int32) (v6 : Int32) (v9 : Int32) (v10 : Int32) (t0 : Int32) (t1 : Int32) : Prop := ((v10 = (-4) → s_X5_stops_125 sk47 C off dear proved Dg dw nw J bef mov nxt chn tw P pn v5 v6 (t1 ||| t0) v9 (nI 1)) ∧ (¬ v10 = (-4) → s_X5_stops_125 sk47 C off dear proved Dg dw nw J bef mov nxt chn tw P pn v5 v6 (t1 ||| t0) v9 (nI 0)))
set_option maxRecDepth 100000 in
set_option maxHeartbeats 4000000 in
theorem e_X5_stops_110 {G : ng_GG} {hn : (Nat → Int32) → (Nat → Int32) → (Nat → Int32) → (Nat → Int32) → (Nat → Int32) → (Nat → Int32) → (Nat → Int32) → (Nat → Int32) → (Nat → Int32) → (Nat → Int32) → (Nat → Int32) → (Nat → Int32) → (Nat → Int32) → (Nat → Int32) → (Nat → Nat → Int64) → (Nat → Int32) → (Nat → Int32) → (Nat → Int32) → Int32 → (Nat → Nat → Int32) → Nat → ng_AM}  (V : ng_NL hn ) {C : Nat → Int32} {off : Nat → Int32} {dear : Nat → Int32} {proved : Nat → Int32} {Dg : Nat → Int32} {dw : Nat → Int32} {nw : Nat → Int32} {J : Nat → Int32} {bef : Nat → Int32} {mov : Nat → Int32} {nxt : Nat → Int32} {chn : Nat → Int32} {tol : Nat → Int32} {tw : Nat → Int32} {nu : Nat → Nat → Int64} {sw : Nat → Int32} {ss : Nat → Int32} {giv : Nat → Int32} {sE : Int32} {P : Nat → Nat → Int32} {pn : Nat} {kk47 : (Nat → Int32) → (Nat → Int32) → (Nat → Int32) → (Nat → Int32) → (Nat → Int32) → (Nat → Int32) → (Nat → Int32) → (Nat → Int32) → (Nat → Int32) → (Nat → Int32) → (Nat → Int32) → (Nat → Int32) → (Nat → Int32) → (Nat → Nat → Int32) → (Nat) → Int32 → Int32 → Int32 → Int32 → Int32 → ((Nat → Int32) × (Nat → Int32) × (Nat → Int32) × (Nat → Int32) × (Nat → Int32) × (Nat → Int32) × (Nat → Int32) × (Nat → Int32) × (Nat → Int32) × (Nat → Nat → Int32) × (Nat) × Int32)} {sk47 : (Nat → Int32) → (Nat → Int32) → (Nat → Int32) → (Nat → Int32) → (Nat → Int32) → (Nat → Int32) → (Nat → Int32) → (Nat → Int32) → (Nat → Int32) → (Nat → Int32) → (Nat → Int32) → (Nat → Int32) → (Nat → Int32) → (Nat → Nat → Int32) → (Nat) → Int32 → Int32 → Int32 → Int32 → Int32 → Prop} (hk47 : ∀ (C : Nat → Int32) (off : Nat → Int32) (dear : Nat → Int32) (proved : Nat → Int32) (Dg : Nat → Int32) (dw : Nat → Int32) (nw : Nat → Int32) (J : Nat → Int32) (bef : Nat → Int32) (mov : Nat → Int32) (nxt : Nat → Int32) (chn : Nat → Int32) (tol : Nat → Int32) (tw : Nat → Int32) (nu : Nat → Nat → Int64) (sw : Nat → Int32) (ss : Nat → Int32) (giv : Nat → Int32) (sE : Int32) (P : Nat → Nat → Int32) (pn : Nat) (v5 : Int32) (v6 : Int32) (v7 : Int32) (v8 : Int32) (v9 : Int32), sk47 C off dear proved Dg dw nw J bef mov nxt chn tw P pn v5 v6 v7 v8 v9 → ng_Ev G md_X5_stops 47 [some (.ref 0), none, none, none, none, some (.int v5), some (.int v6), some (.int v7), some (.int v8), some (.int v9), none] [] (hn C off dear proved Dg dw nw J bef mov nxt chn tol tw nu sw ss giv sE P pn) (K_X5_stops hn off dear proved nw tol nu sw ss giv sE (kk47 C off dear proved Dg dw nw J bef mov nxt chn tw P pn v5 v6 v7 v8 v9))) {v5 : Int32} {v6 : Int32} {v9 : Int32} {v10 : Int32} {t0 : Int32} {t1 : Int32} (h : s_X5_stops_110 sk47 C off dear proved Dg dw nw J bef mov nxt chn tw P pn v5 v6 v9 v10 t0 t1)  : ng_Ev G md_X5_stops 110 [some (.ref 0), none, none, none, none, some (.int v5), some (.int v6), none, none, some (.int v9), some (.int v10)] [.int t0, .int t1] (hn C off dear proved Dg dw nw J bef mov nxt chn tol tw nu sw ss giv sE P pn) (K_X5_stops hn off dear proved nw tol nu sw ss giv sE (f_X5_stops_110 kk47 C off dear proved Dg dw nw J bef mov nxt chn tw P pn v5 v6 v9 v10 t0 t1)) := by
  unfold s_X5_stops_110 at h
  unfold f_X5_stops_110
  refine ev_ior dX5_stops_110 ?_
  refine ev_istore (L' := [some (.ref 0), none, none, none, none, some (.int v5), some (.int v6), some (.int (t1 ||| t0)), none, some (.int v9), some (.int v10)]) dX5_stops_111 (ng_lt rfl) rfl ?_
  refine ev_iload dX5_stops_113 rfl ?_
  refine ev_bipush (v := (-4)) dX5_stops_115 (by decide) ?_
  refine bk_icmp_ne (tgt := 124) dX5_stops_117 (by decide) (fun c117 => ?_) (fun c117 => ?_)
  · replace h := h.2 c117
    refine ev_iconst (v := nI 0) dX5_stops_124 (by decide) ?_
    exact ev_sub (e_X5_stops_125 V hk47 h) (sub_s (sub_n (sub_n (sub_n (sub_n (sub_s (sub_s (sub_s (sub_n (sub_s (sub_n sub_e)))))))))))
  · replace h := h.1 c117
    refine ev_iconst (v := nI 1) dX5_stops_120 (by decide) ?_
    refine ev_goto (tgt := 125) dX5_stops_121 (by decide) ?_
    exact ev_sub (e_X5_stops_125 V hk47 h) (sub_s (sub_n (sub_n (sub_n (sub_n (sub_s (sub_s (sub_s (sub_n (sub_s (sub_n sub_e)))))))))))
def f_X5_stops_92 (kk47 : (Nat → Int32) → (Nat → Int32) → (Nat → Int32) → (Nat → Int32) → (Nat → Int32) → (Nat → Int32) → (Nat → Int32) → (Nat → Int32) → (Nat → Int32) → (Nat → Int32) → (Nat → Int32) → (Nat → Int32) → (Nat → Int32) → (Nat → Nat → Int32) → (Nat) → Int32 → Int32 → Int32 → Int32 → Int32 → ((Nat → Int32) × (Nat → Int32) × (Nat → Int32) × (Nat → Int32) × (Nat → Int32) × (Nat → Int32) × (Nat → Int32) × (Nat → Int32) × (Nat → Int32) × (Nat → Nat → Int32) × (Nat) × Int32)) (C : Nat → Int32) (off : Nat → Int32) (dear : Nat → Int32) (proved : Nat → Int32) (Dg : Nat → Int32) (dw : Nat → Int32) (nw : Nat → Int32) (J : Nat → Int32) (bef : Nat → Int32) (mov : Nat → Int32) (nxt : Nat → Int32) (chn : Nat → Int32) (tw : Nat → Int32) (P : Nat → Nat → Int32) (pn : Nat) (v5 : Int32) (v6 : Int32) (v7 : Int32) (v9 : Int32) (t0 : Int32) : (Nat → Int32) × (Nat → Int32) × (Nat → Int32) × (Nat → Int32) × (Nat → Int32) × (Nat → Int32) × (Nat → Int32) × (Nat → Int32) × (Nat → Int32) × (Nat → Nat → Int32) × (Nat) × Int32 := (if t0 = (-1) then f_X5_stops_110 kk47 C off dear proved Dg dw nw J bef mov nxt chn tw P pn v5 v6 v9 t0 ((nI 1) <<< (v9 &&& 31)) v7 else f_X5_stops_110 kk47 C off dear proved Dg dw nw J bef mov nxt chn tw P pn v5 v6 v9 t0 (nI 0) v7)
def s_X5_stops_92 (sk47 : (Nat → Int32) → (Nat → Int32) → (Nat → Int32) → (Nat → Int32) → (Nat → Int32) → (Nat → Int32) → (Nat → Int32) → (Nat → Int32) → (Nat → Int32) → (Nat → Int32) → (Nat → Int32) → (Nat → Int32) → (Nat → Int32) → (Nat → Nat → Int32) → (Nat) → Int32 → Int32 → Int32 → Int32 → Int32 → Prop) (C : Nat → Int32) (off : Nat → Int32) (dear : Nat → Int32) (proved : Nat → Int32) (Dg : Nat → Int32) (dw : Nat → Int32) (nw : Nat → Int32) (J : Nat → Int32) (bef : Nat → Int32) (mov : Nat → Int32) (nxt : Nat → Int32) (chn : Nat → Int32) (tw : Nat → Int32) (P : Nat → Nat → Int32) (pn : Nat) (v5 : Int32) (v6 : Int32) (v7 : Int32) (v9 : Int32) (t0 : Int32) : Prop := ((t0 = (-1) → s_X5_stops_110 sk47 C off dear proved Dg dw nw J bef mov nxt chn tw P pn v5 v6 v9 t0 ((nI 1) <<< (v9 &&& 31)) v7) ∧ (¬ t0 = (-1) → s_X5_stops_110 sk47 C off dear proved Dg dw nw J bef mov nxt chn tw P pn v5 v6 v9 t0 (nI 0) v7))
set_option maxRecDepth 100000 in
set_option maxHeartbeats 4000000 in
theorem e_X5_stops_92 {G : ng_GG} {hn : (Nat → Int32) → (Nat → Int32) → (Nat → Int32) → (Nat → Int32) → (Nat → Int32) → (Nat → Int32) → (Nat → Int32) → (Nat → Int32) → (Nat → Int32) → (Nat → Int32) → (Nat → Int32) → (Nat → Int32) → (Nat → Int32) → (Nat → Int32) → (Nat → Nat → Int64) → (Nat → Int32) → (Nat → Int32) → (Nat → Int32) → Int32 → (Nat → Nat → Int32) → Nat → ng_AM}  (V : ng_NL hn ) {C : Nat → Int32} {off : Nat → Int32} {dear : Nat → Int32} {proved : Nat → Int32} {Dg : Nat → Int32} {dw : Nat → Int32} {nw : Nat → Int32} {J : Nat → Int32} {bef : Nat → Int32} {mov : Nat → Int32} {nxt : Nat → Int32} {chn : Nat → Int32} {tol : Nat → Int32} {tw : Nat → Int32} {nu : Nat → Nat → Int64} {sw : Nat → Int32} {ss : Nat → Int32} {giv : Nat → Int32} {sE : Int32} {P : Nat → Nat → Int32} {pn : Nat} {kk47 : (Nat → Int32) → (Nat → Int32) → (Nat → Int32) → (Nat → Int32) → (Nat → Int32) → (Nat → Int32) → (Nat → Int32) → (Nat → Int32) → (Nat → Int32) → (Nat → Int32) → (Nat → Int32) → (Nat → Int32) → (Nat → Int32) → (Nat → Nat → Int32) → (Nat) → Int32 → Int32 → Int32 → Int32 → Int32 → ((Nat → Int32) × (Nat → Int32) × (Nat → Int32) × (Nat → Int32) × (Nat → Int32) × (Nat → Int32) × (Nat → Int32) × (Nat → Int32) × (Nat → Int32) × (Nat → Nat → Int32) × (Nat) × Int32)} {sk47 : (Nat → Int32) → (Nat → Int32) → (Nat → Int32) → (Nat → Int32) → (Nat → Int32) → (Nat → Int32) → (Nat → Int32) → (Nat → Int32) → (Nat → Int32) → (Nat → Int32) → (Nat → Int32) → (Nat → Int32) → (Nat → Int32) → (Nat → Nat → Int32) → (Nat) → Int32 → Int32 → Int32 → Int32 → Int32 → Prop} (hk47 : ∀ (C : Nat → Int32) (off : Nat → Int32) (dear : Nat → Int32) (proved : Nat → Int32) (Dg : Nat → Int32) (dw : Nat → Int32) (nw : Nat → Int32) (J : Nat → Int32) (bef : Nat → Int32) (mov : Nat → Int32) (nxt : Nat → Int32) (chn : Nat → Int32) (tol : Nat → Int32) (tw : Nat → Int32) (nu : Nat → Nat → Int64) (sw : Nat → Int32) (ss : Nat → Int32) (giv : Nat → Int32) (sE : Int32) (P : Nat → Nat → Int32) (pn : Nat) (v5 : Int32) (v6 : Int32) (v7 : Int32) (v8 : Int32) (v9 : Int32), sk47 C off dear proved Dg dw nw J bef mov nxt chn tw P pn v5 v6 v7 v8 v9 → ng_Ev G md_X5_stops 47 [some (.ref 0), none, none, none, none, some (.int v5), some (.int v6), some (.int v7), some (.int v8), some (.int v9), none] [] (hn C off dear proved Dg dw nw J bef mov nxt chn tol tw nu sw ss giv sE P pn) (K_X5_stops hn off dear proved nw tol nu sw ss giv sE (kk47 C off dear proved Dg dw nw J bef mov nxt chn tw P pn v5 v6 v7 v8 v9))) {v5 : Int32} {v6 : Int32} {v7 : Int32} {v9 : Int32} {t0 : Int32} (h : s_X5_stops_92 sk47 C off dear proved Dg dw nw J bef mov nxt chn tw P pn v5 v6 v7 v9 t0)  : ng_Ev G md_X5_stops 92 [some (.ref 0), none, none, none, none, some (.int v5), some (.int v6), some (.int v7), none, some (.int v9), none] [.int t0] (hn C off dear proved Dg dw nw J bef mov nxt chn tol tw nu sw ss giv sE P pn) (K_X5_stops hn off dear proved nw tol nu sw ss giv sE (f_X5_stops_92 kk47 C off dear proved Dg dw nw J bef mov nxt chn tw P pn v5 v6 v7 v9 t0)) := by
  unfold s_X5_stops_92 at h
  unfold f_X5_stops_92
  refine ev_istore (L' := [some (.ref 0), none, none, none, none, some (.int v5), some (.int v6), some (.int v7), none, some (.int v9), some (.int t0)]) dX5_stops_92 (ng_lt rfl) rfl ?_
  refine ev_iload dX5_stops_94 rfl ?_
  refine ev_iload dX5_stops_96 rfl ?_
  refine ev_iconst (v := (-1)) dX5_stops_98 (by decide) ?_
  refine bk_icmp_ne (tgt := 109) dX5_stops_99 (by decide) (fun c99 => ?_) (fun c99 => ?_)
  · replace h := h.2 c99
    refine ev_iconst (v := nI 0) dX5_stops_109 (by decide) ?_
    exact ev_sub (e_X5_stops_110 V hk47 h) (sub_s (sub_n (sub_n (sub_n (sub_n (sub_s (sub_s (sub_n (sub_n (sub_s (sub_s sub_e)))))))))))
  · replace h := h.1 c99
    refine ev_iconst (v := nI 1) dX5_stops_102 (by decide) ?_
    refine ev_iload dX5_stops_103 rfl ?_
    refine ev_ishl dX5_stops_105 ?_
    refine ev_goto (tgt := 110) dX5_stops_106 (by decide) ?_
    exact ev_sub (e_X5_stops_110 V hk47 h) (sub_s (sub_n (sub_n (sub_n (sub_n (sub_s (sub_s (sub_n (sub_n (sub_s (sub_s sub_e)))))))))))
def f_X5_stops_133  (C : Nat → Int32) (off : Nat → Int32) (dear : Nat → Int32) (proved : Nat → Int32) (Dg : Nat → Int32) (dw : Nat → Int32) (nw : Nat → Int32) (J : Nat → Int32) (bef : Nat → Int32) (mov : Nat → Int32) (nxt : Nat → Int32) (chn : Nat → Int32) (tw : Nat → Int32) (P : Nat → Nat → Int32) (pn : Nat) (v6 : Int32) (v7 : Int32) (v8 : Int32) : (Nat → Int32) × (Nat → Int32) × (Nat → Int32) × (Nat → Int32) × (Nat → Int32) × (Nat → Int32) × (Nat → Int32) × (Nat → Int32) × (Nat → Int32) × (Nat → Nat → Int32) × (Nat) × Int32 := (if v8 = 0 then ((upd C 7 v6), Dg, dw, J, bef, mov, nxt, chn, tw, P, pn, v7) else ((upd C 7 v6), Dg, dw, J, bef, mov, nxt, chn, tw, P, pn, (-4)))
def s_X5_stops_133  (C : Nat → Int32) (off : Nat → Int32) (dear : Nat → Int32) (proved : Nat → Int32) (Dg : Nat → Int32) (dw : Nat → Int32) (nw : Nat → Int32) (J : Nat → Int32) (bef : Nat → Int32) (mov : Nat → Int32) (nxt : Nat → Int32) (chn : Nat → Int32) (tw : Nat → Int32) (P : Nat → Nat → Int32) (pn : Nat) (v6 : Int32) (v7 : Int32) (v8 : Int32) : Prop := True
set_option maxRecDepth 100000 in
set_option maxHeartbeats 4000000 in
theorem e_X5_stops_133 {G : ng_GG} {hn : (Nat → Int32) → (Nat → Int32) → (Nat → Int32) → (Nat → Int32) → (Nat → Int32) → (Nat → Int32) → (Nat → Int32) → (Nat → Int32) → (Nat → Int32) → (Nat → Int32) → (Nat → Int32) → (Nat → Int32) → (Nat → Int32) → (Nat → Int32) → (Nat → Nat → Int64) → (Nat → Int32) → (Nat → Int32) → (Nat → Int32) → Int32 → (Nat → Nat → Int32) → Nat → ng_AM}  (V : ng_NL hn ) {C : Nat → Int32} {off : Nat → Int32} {dear : Nat → Int32} {proved : Nat → Int32} {Dg : Nat → Int32} {dw : Nat → Int32} {nw : Nat → Int32} {J : Nat → Int32} {bef : Nat → Int32} {mov : Nat → Int32} {nxt : Nat → Int32} {chn : Nat → Int32} {tol : Nat → Int32} {tw : Nat → Int32} {nu : Nat → Nat → Int64} {sw : Nat → Int32} {ss : Nat → Int32} {giv : Nat → Int32} {sE : Int32} {P : Nat → Nat → Int32} {pn : Nat}  {v6 : Int32} {v7 : Int32} {v8 : Int32} (h : s_X5_stops_133  C off dear proved Dg dw nw J bef mov nxt chn tw P pn v6 v7 v8)  : ng_Ev G md_X5_stops 133 [some (.ref 0), none, none, none, none, none, some (.int v6), some (.int v7), some (.int v8), none, none] [] (hn C off dear proved Dg dw nw J bef mov nxt chn tol tw nu sw ss giv sE P pn) (K_X5_stops hn off dear proved nw tol nu sw ss giv sE (f_X5_stops_133  C off dear proved Dg dw nw J bef mov nxt chn tw P pn v6 v7 v8)) := by
  unfold s_X5_stops_133 at h
  unfold f_X5_stops_133
  refine ev_aload_n dX5_stops_133 rfl rfl rfl ?_
  refine ev_get 5 0 fl_RX5_10 (NL_g0 V) rfl dX5_stops_134 ?_
  refine ev_iload dX5_stops_137 rfl ?_
  refine ev_put 2 7 fs_RX5_81 (NL_g1 V) (ng_lt rfl) rfl (NL_s1 V (C' := (upd C 7 v6))) (ng_fit_i _) dX5_stops_139 ?_
  refine ev_iload dX5_stops_142 rfl ?_
  refine bk_if_eq (tgt := 152) dX5_stops_144 (by decide) (fun c144 => ?_) (fun c144 => ?_)
  · refine ev_iload dX5_stops_152 rfl ?_
    exact ev_iret rfl rfl dX5_stops_154
  · refine ev_bipush (v := (-4)) dX5_stops_147 (by decide) ?_
    refine ev_goto (tgt := 154) dX5_stops_149 (by decide) ?_
    exact ev_iret rfl rfl dX5_stops_154
def f_X5_stops_47  : Nat → (Nat → Int32) → (Nat → Int32) → (Nat → Int32) → (Nat → Int32) → (Nat → Int32) → (Nat → Int32) → (Nat → Int32) → (Nat → Int32) → (Nat → Int32) → (Nat → Int32) → (Nat → Int32) → (Nat → Int32) → (Nat → Int32) → (Nat → Nat → Int32) → (Nat) → Int32 → Int32 → Int32 → Int32 → Int32 → ((Nat → Int32) × (Nat → Int32) × (Nat → Int32) × (Nat → Int32) × (Nat → Int32) × (Nat → Int32) × (Nat → Int32) × (Nat → Int32) × (Nat → Int32) × (Nat → Nat → Int32) × (Nat) × Int32)
  | 0, C, _, _, _, Dg, dw, _, J, bef, mov, nxt, chn, tw, P, pn, _, _, _, _, _ => (C, Dg, dw, J, bef, mov, nxt, chn, tw, P, pn, 0)
  | n + 1, C, off, dear, proved, Dg, dw, nw, J, bef, mov, nxt, chn, tw, P, pn, v5, v6, v7, v8, v9 => (if (nI 8) ≤ v9 then f_X5_stops_133 C off dear proved Dg dw nw J bef mov nxt chn tw P pn v6 v7 v8 else (if v8 = 0 then (if ((v6 >>> (v9 &&& 31)) &&& (nI 1)) = 0 then f_X5_stops_92 (f_X5_stops_47 n) (upd C 7 (v6 ||| ((nI 1) <<< (v9 &&& 31)))) off dear proved ((f_X1_search (upd C 7 (v6 ||| ((nI 1) <<< (v9 &&& 31)))) off dear proved Dg dw nw J bef mov nxt chn tw P pn v5).1) ((f_X1_search (upd C 7 (v6 ||| ((nI 1) <<< (v9 &&& 31)))) off dear proved Dg dw nw J bef mov nxt chn tw P pn v5).2.1) nw ((f_X1_search (upd C 7 (v6 ||| ((nI 1) <<< (v9 &&& 31)))) off dear proved Dg dw nw J bef mov nxt chn tw P pn v5).2.2.1) ((f_X1_search (upd C 7 (v6 ||| ((nI 1) <<< (v9 &&& 31)))) off dear proved Dg dw nw J bef mov nxt chn tw P pn v5).2.2.2.1) ((f_X1_search (upd C 7 (v6 ||| ((nI 1) <<< (v9 &&& 31)))) off dear proved Dg dw nw J bef mov nxt chn tw P pn v5).2.2.2.2.1) ((f_X1_search (upd C 7 (v6 ||| ((nI 1) <<< (v9 &&& 31)))) off dear proved Dg dw nw J bef mov nxt chn tw P pn v5).2.2.2.2.2.1) ((f_X1_search (upd C 7 (v6 ||| ((nI 1) <<< (v9 &&& 31)))) off dear proved Dg dw nw J bef mov nxt chn tw P pn v5).2.2.2.2.2.2.1) ((f_X1_search (upd C 7 (v6 ||| ((nI 1) <<< (v9 &&& 31)))) off dear proved Dg dw nw J bef mov nxt chn tw P pn v5).2.2.2.2.2.2.2.1) ((f_X1_search (upd C 7 (v6 ||| ((nI 1) <<< (v9 &&& 31)))) off dear proved Dg dw nw J bef mov nxt chn tw P pn v5).2.2.2.2.2.2.2.2.1) ((f_X1_search (upd C 7 (v6 ||| ((nI 1) <<< (v9 &&& 31)))) off dear proved Dg dw nw J bef mov nxt chn tw P pn v5).2.2.2.2.2.2.2.2.2.1) v5 v6 v7 v9 ((f_X1_search (upd C 7 (v6 ||| ((nI 1) <<< (v9 &&& 31)))) off dear proved Dg dw nw J bef mov nxt chn tw P pn v5).2.2.2.2.2.2.2.2.2.2) else f_X5_stops_127 (f_X5_stops_47 n) C off dear proved Dg dw nw J bef mov nxt chn tw P pn v5 v6 v7 v8 v9) else f_X5_stops_133 C off dear proved Dg dw nw J bef mov nxt chn tw P pn v6 v7 v8))
def s_X5_stops_47  : Nat → (Nat → Int32) → (Nat → Int32) → (Nat → Int32) → (Nat → Int32) → (Nat → Int32) → (Nat → Int32) → (Nat → Int32) → (Nat → Int32) → (Nat → Int32) → (Nat → Int32) → (Nat → Int32) → (Nat → Int32) → (Nat → Int32) → (Nat → Nat → Int32) → (Nat) → Int32 → Int32 → Int32 → Int32 → Int32 → Prop
  | 0, _, _, _, _, _, _, _, _, _, _, _, _, _, _, _, _, _, _, _, _ => False
  | n + 1, C, off, dear, proved, Dg, dw, nw, J, bef, mov, nxt, chn, tw, P, pn, v5, v6, v7, v8, v9 => (((nI 8) ≤ v9 → s_X5_stops_133 C off dear proved Dg dw nw J bef mov nxt chn tw P pn v6 v7 v8) ∧ (¬ (nI 8) ≤ v9 → ((v8 = 0 → ((((v6 >>> (v9 &&& 31)) &&& (nI 1)) = 0 → (s_X1_search (upd C 7 (v6 ||| ((nI 1) <<< (v9 &&& 31)))) off dear proved Dg dw nw J bef mov nxt chn tw P pn v5 ∧ s_X5_stops_92 (s_X5_stops_47 n) (upd C 7 (v6 ||| ((nI 1) <<< (v9 &&& 31)))) off dear proved ((f_X1_search (upd C 7 (v6 ||| ((nI 1) <<< (v9 &&& 31)))) off dear proved Dg dw nw J bef mov nxt chn tw P pn v5).1) ((f_X1_search (upd C 7 (v6 ||| ((nI 1) <<< (v9 &&& 31)))) off dear proved Dg dw nw J bef mov nxt chn tw P pn v5).2.1) nw ((f_X1_search (upd C 7 (v6 ||| ((nI 1) <<< (v9 &&& 31)))) off dear proved Dg dw nw J bef mov nxt chn tw P pn v5).2.2.1) ((f_X1_search (upd C 7 (v6 ||| ((nI 1) <<< (v9 &&& 31)))) off dear proved Dg dw nw J bef mov nxt chn tw P pn v5).2.2.2.1) ((f_X1_search (upd C 7 (v6 ||| ((nI 1) <<< (v9 &&& 31)))) off dear proved Dg dw nw J bef mov nxt chn tw P pn v5).2.2.2.2.1) ((f_X1_search (upd C 7 (v6 ||| ((nI 1) <<< (v9 &&& 31)))) off dear proved Dg dw nw J bef mov nxt chn tw P pn v5).2.2.2.2.2.1) ((f_X1_search (upd C 7 (v6 ||| ((nI 1) <<< (v9 &&& 31)))) off dear proved Dg dw nw J bef mov nxt chn tw P pn v5).2.2.2.2.2.2.1) ((f_X1_search (upd C 7 (v6 ||| ((nI 1) <<< (v9 &&& 31)))) off dear proved Dg dw nw J bef mov nxt chn tw P pn v5).2.2.2.2.2.2.2.1) ((f_X1_search (upd C 7 (v6 ||| ((nI 1) <<< (v9 &&& 31)))) off dear proved Dg dw nw J bef mov nxt chn tw P pn v5).2.2.2.2.2.2.2.2.1) ((f_X1_search (upd C 7 (v6 ||| ((nI 1) <<< (v9 &&& 31)))) off dear proved Dg dw nw J bef mov nxt chn tw P pn v5).2.2.2.2.2.2.2.2.2.1) v5 v6 v7 v9 ((f_X1_search (upd C 7 (v6 ||| ((nI 1) <<< (v9 &&& 31)))) off dear proved Dg dw nw J bef mov nxt chn tw P pn v5).2.2.2.2.2.2.2.2.2.2))) ∧ (¬ ((v6 >>> (v9 &&& 31)) &&& (nI 1)) = 0 → s_X5_stops_127 (s_X5_stops_47 n) C off dear proved Dg dw nw J bef mov nxt chn tw P pn v5 v6 v7 v8 v9))) ∧ (¬ v8 = 0 → s_X5_stops_133 C off dear proved Dg dw nw J bef mov nxt chn tw P pn v6 v7 v8))))
set_option maxRecDepth 100000 in
set_option maxHeartbeats 4000000 in
theorem e_X5_stops_47 {G : ng_GG} {hn : (Nat → Int32) → (Nat → Int32) → (Nat → Int32) → (Nat → Int32) → (Nat → Int32) → (Nat → Int32) → (Nat → Int32) → (Nat → Int32) → (Nat → Int32) → (Nat → Int32) → (Nat → Int32) → (Nat → Int32) → (Nat → Int32) → (Nat → Int32) → (Nat → Nat → Int64) → (Nat → Int32) → (Nat → Int32) → (Nat → Int32) → Int32 → (Nat → Nat → Int32) → Nat → ng_AM}  (V : ng_NL hn )  : ∀ (n : Nat) (C : Nat → Int32) (off : Nat → Int32) (dear : Nat → Int32) (proved : Nat → Int32) (Dg : Nat → Int32) (dw : Nat → Int32) (nw : Nat → Int32) (J : Nat → Int32) (bef : Nat → Int32) (mov : Nat → Int32) (nxt : Nat → Int32) (chn : Nat → Int32) (tol : Nat → Int32) (tw : Nat → Int32) (nu : Nat → Nat → Int64) (sw : Nat → Int32) (ss : Nat → Int32) (giv : Nat → Int32) (sE : Int32) (P : Nat → Nat → Int32) (pn : Nat) (v5 : Int32) (v6 : Int32) (v7 : Int32) (v8 : Int32) (v9 : Int32), s_X5_stops_47  n C off dear proved Dg dw nw J bef mov nxt chn tw P pn v5 v6 v7 v8 v9 → ng_Ev G md_X5_stops 47 [some (.ref 0), none, none, none, none, some (.int v5), some (.int v6), some (.int v7), some (.int v8), some (.int v9), none] [] (hn C off dear proved Dg dw nw J bef mov nxt chn tol tw nu sw ss giv sE P pn) (K_X5_stops hn off dear proved nw tol nu sw ss giv sE (f_X5_stops_47  n C off dear proved Dg dw nw J bef mov nxt chn tw P pn v5 v6 v7 v8 v9)) := by
  intro n
  induction n with
  | zero => intro C off dear proved Dg dw nw J bef mov nxt chn tol tw nu sw ss giv sE P pn v5 v6 v7 v8 v9 h; exact False.elim h
  | succ n ih =>
    intro C off dear proved Dg dw nw J bef mov nxt chn tol tw nu sw ss giv sE P pn v5 v6 v7 v8 v9 h 
    rw [s_X5_stops_47] at h
    rw [f_X5_stops_47]
    refine ev_iload dX5_stops_47 rfl ?_
    refine ev_bipush (v := nI 8) dX5_stops_49 (by decide) ?_
    refine bk_icmp_ge (tgt := 133) dX5_stops_51 (by decide) (fun c51 => ?_) (fun c51 => ?_)
    · replace h := h.1 c51
      exact ev_sub (e_X5_stops_133 V h) (sub_s (sub_n (sub_n (sub_n (sub_n (sub_n (sub_s (sub_s (sub_s (sub_n (sub_n sub_e)))))))))))
    · replace h := h.2 c51
      refine ev_iload dX5_stops_54 rfl ?_
      refine bk_if_ne (tgt := 133) dX5_stops_56 (by decide) (fun c56 => ?_) (fun c56 => ?_)
      · replace h := h.2 c56
        exact ev_sub (e_X5_stops_133 V h) (sub_s (sub_n (sub_n (sub_n (sub_n (sub_n (sub_s (sub_s (sub_s (sub_n (sub_n sub_e)))))))))))
      · replace h := h.1 c56
        refine ev_iload dX5_stops_59 rfl ?_
        refine ev_iload dX5_stops_61 rfl ?_
        refine ev_ishr dX5_stops_63 ?_
        refine ev_iconst (v := nI 1) dX5_stops_64 (by decide) ?_
        refine ev_iand dX5_stops_65 ?_
        refine bk_if_ne (tgt := 127) dX5_stops_66 (by decide) (fun c66 => ?_) (fun c66 => ?_)
        · replace h := h.2 c66
          exact ev_sub (e_X5_stops_127 V ih h) (sub_s (sub_n (sub_n (sub_n (sub_n (sub_s (sub_s (sub_s (sub_s (sub_s (sub_n sub_e)))))))))))
        · replace h := h.1 c66
          refine ev_aload_n dX5_stops_69 rfl rfl rfl ?_
          refine ev_get 5 0 fl_RX5_10 (NL_g0 V) rfl dX5_stops_70 ?_
          refine ev_iload dX5_stops_73 rfl ?_
          refine ev_iconst (v := nI 1) dX5_stops_75 (by decide) ?_
          refine ev_iload dX5_stops_76 rfl ?_
          refine ev_ishl dX5_stops_78 ?_
          refine ev_ior dX5_stops_79 ?_
          refine ev_put 2 7 fs_RX5_81 (NL_g1 V) (ng_lt rfl) rfl (NL_s1 V (C' := (upd C 7 (v6 ||| ((nI 1) <<< (v9 &&& 31)))))) (ng_fit_i _) dX5_stops_80 ?_
          refine ev_aload_n dX5_stops_83 rfl rfl rfl ?_
          refine ev_get 5 3 fl_RX5_37 (NL_g0 V) rfl dX5_stops_84 ?_
          refine ev_iload dX5_stops_87 rfl ?_
          have hs89 := h.1
          replace h := h.2
          refine bk_callV (As := [.int v5]) (st := []) (st2 := [.int ((f_X1_search (upd C 7 (v6 ||| ((nI 1) <<< (v9 &&& 31)))) off dear proved Dg dw nw J bef mov nxt chn tw P pn v5).2.2.2.2.2.2.2.2.2.2)]) (M2 := hn (upd C 7 (v6 ||| ((nI 1) <<< (v9 &&& 31)))) off dear proved ((f_X1_search (upd C 7 (v6 ||| ((nI 1) <<< (v9 &&& 31)))) off dear proved Dg dw nw J bef mov nxt chn tw P pn v5).1) ((f_X1_search (upd C 7 (v6 ||| ((nI 1) <<< (v9 &&& 31)))) off dear proved Dg dw nw J bef mov nxt chn tw P pn v5).2.1) nw ((f_X1_search (upd C 7 (v6 ||| ((nI 1) <<< (v9 &&& 31)))) off dear proved Dg dw nw J bef mov nxt chn tw P pn v5).2.2.1) ((f_X1_search (upd C 7 (v6 ||| ((nI 1) <<< (v9 &&& 31)))) off dear proved Dg dw nw J bef mov nxt chn tw P pn v5).2.2.2.1) ((f_X1_search (upd C 7 (v6 ||| ((nI 1) <<< (v9 &&& 31)))) off dear proved Dg dw nw J bef mov nxt chn tw P pn v5).2.2.2.2.1) ((f_X1_search (upd C 7 (v6 ||| ((nI 1) <<< (v9 &&& 31)))) off dear proved Dg dw nw J bef mov nxt chn tw P pn v5).2.2.2.2.2.1) ((f_X1_search (upd C 7 (v6 ||| ((nI 1) <<< (v9 &&& 31)))) off dear proved Dg dw nw J bef mov nxt chn tw P pn v5).2.2.2.2.2.2.1) tol ((f_X1_search (upd C 7 (v6 ||| ((nI 1) <<< (v9 &&& 31)))) off dear proved Dg dw nw J bef mov nxt chn tw P pn v5).2.2.2.2.2.2.2.1) nu sw ss giv sE ((f_X1_search (upd C 7 (v6 ||| ((nI 1) <<< (v9 &&& 31)))) off dear proved Dg dw nw J bef mov nxt chn tw P pn v5).2.2.2.2.2.2.2.2.1) ((f_X1_search (upd C 7 (v6 ||| ((nI 1) <<< (v9 &&& 31)))) off dear proved Dg dw nw J bef mov nxt chn tw P pn v5).2.2.2.2.2.2.2.2.2.1)) ok_X1_search lk_RX5_182 (ng_rok.of rfl rfl) (NL_g9 V) rfl rfl rfl rfl rfl rfl dX5_stops_89 (m_X1_search V hs89) rfl rfl ?_
          exact ev_sub (e_X5_stops_92 V ih h) (sub_s (sub_n (sub_n (sub_n (sub_n (sub_s (sub_s (sub_s (sub_n (sub_s (sub_n sub_e)))))))))))
def f_X5_stops_29  (C : Nat → Int32) (off : Nat → Int32) (dear : Nat → Int32) (proved : Nat → Int32) (Dg : Nat → Int32) (dw : Nat → Int32) (nw : Nat → Int32) (J : Nat → Int32) (bef : Nat → Int32) (mov : Nat → Int32) (nxt : Nat → Int32) (chn : Nat → Int32) (tw : Nat → Int32) (P : Nat → Nat → Int32) (pn : Nat) (v5 : Int32) : (Nat → Int32) × (Nat → Int32) × (Nat → Int32) × (Nat → Int32) × (Nat → Int32) × (Nat → Int32) × (Nat → Int32) × (Nat → Int32) × (Nat → Int32) × (Nat → Nat → Int32) × (Nat) × Int32 := f_X5_stops_47 ng_F C off dear proved Dg dw nw J bef mov nxt chn tw P pn v5 (C 7) (nI 0) (nI 0) (nI 0)
def s_X5_stops_29  (C : Nat → Int32) (off : Nat → Int32) (dear : Nat → Int32) (proved : Nat → Int32) (Dg : Nat → Int32) (dw : Nat → Int32) (nw : Nat → Int32) (J : Nat → Int32) (bef : Nat → Int32) (mov : Nat → Int32) (nxt : Nat → Int32) (chn : Nat → Int32) (tw : Nat → Int32) (P : Nat → Nat → Int32) (pn : Nat) (v5 : Int32) : Prop := s_X5_stops_47 ng_F C off dear proved Dg dw nw J bef mov nxt chn tw P pn v5 (C 7) (nI 0) (nI 0) (nI 0)
set_option maxRecDepth 100000 in
set_option maxHeartbeats 4000000 in
theorem e_X5_stops_29 {G : ng_GG} {hn : (Nat → Int32) → (Nat → Int32) → (Nat → Int32) → (Nat → Int32) → (Nat → Int32) → (Nat → Int32) → (Nat → Int32) → (Nat → Int32) → (Nat → Int32) → (Nat → Int32) → (Nat → Int32) → (Nat → Int32) → (Nat → Int32) → (Nat → Int32) → (Nat → Nat → Int64) → (Nat → Int32) → (Nat → Int32) → (Nat → Int32) → Int32 → (Nat → Nat → Int32) → Nat → ng_AM}  (V : ng_NL hn ) {C : Nat → Int32} {off : Nat → Int32} {dear : Nat → Int32} {proved : Nat → Int32} {Dg : Nat → Int32} {dw : Nat → Int32} {nw : Nat → Int32} {J : Nat → Int32} {bef : Nat → Int32} {mov : Nat → Int32} {nxt : Nat → Int32} {chn : Nat → Int32} {tol : Nat → Int32} {tw : Nat → Int32} {nu : Nat → Nat → Int64} {sw : Nat → Int32} {ss : Nat → Int32} {giv : Nat → Int32} {sE : Int32} {P : Nat → Nat → Int32} {pn : Nat}  {v5 : Int32} (h : s_X5_stops_29  C off dear proved Dg dw nw J bef mov nxt chn tw P pn v5)  : ng_Ev G md_X5_stops 29 [some (.ref 0), none, none, none, none, some (.int v5), none, none, none, none, none] [] (hn C off dear proved Dg dw nw J bef mov nxt chn tol tw nu sw ss giv sE P pn) (K_X5_stops hn off dear proved nw tol nu sw ss giv sE (f_X5_stops_29  C off dear proved Dg dw nw J bef mov nxt chn tw P pn v5)) := by
  unfold s_X5_stops_29 at h
  unfold f_X5_stops_29
  refine ev_aload_n dX5_stops_29 rfl rfl rfl ?_
  refine ev_get 5 0 fl_RX5_10 (NL_g0 V) rfl dX5_stops_30 ?_
  refine ev_get 2 7 fl_RX5_81 (NL_g1 V) rfl dX5_stops_33 ?_
  refine ev_istore (L' := [some (.ref 0), none, none, none, none, some (.int v5), some (.int (C 7)), none, none, none, none]) dX5_stops_36 (ng_lt rfl) rfl ?_
  refine ev_iconst (v := nI 0) dX5_stops_38 (by decide) ?_
  refine ev_istore (L' := [some (.ref 0), none, none, none, none, some (.int v5), some (.int (C 7)), some (.int (nI 0)), none, none, none]) dX5_stops_39 (ng_lt rfl) rfl ?_
  refine ev_iconst (v := nI 0) dX5_stops_41 (by decide) ?_
  refine ev_istore (L' := [some (.ref 0), none, none, none, none, some (.int v5), some (.int (C 7)), some (.int (nI 0)), some (.int (nI 0)), none, none]) dX5_stops_42 (ng_lt rfl) rfl ?_
  refine ev_iconst (v := nI 0) dX5_stops_44 (by decide) ?_
  refine ev_istore (L' := [some (.ref 0), none, none, none, none, some (.int v5), some (.int (C 7)), some (.int (nI 0)), some (.int (nI 0)), some (.int (nI 0)), none]) dX5_stops_45 (ng_lt rfl) rfl ?_
  exact ev_sub (e_X5_stops_47 V ng_F C off dear proved Dg dw nw J bef mov nxt chn tol tw nu sw ss giv sE P pn v5 (C 7) (nI 0) (nI 0) (nI 0) h) (sub_s (sub_n (sub_n (sub_n (sub_n (sub_s (sub_s (sub_s (sub_s (sub_s (sub_n sub_e)))))))))))
def f_X5_stops  (C : Nat → Int32) (off : Nat → Int32) (dear : Nat → Int32) (proved : Nat → Int32) (Dg : Nat → Int32) (dw : Nat → Int32) (nw : Nat → Int32) (J : Nat → Int32) (bef : Nat → Int32) (mov : Nat → Int32) (nxt : Nat → Int32) (chn : Nat → Int32) (tw : Nat → Int32) (P : Nat → Nat → Int32) (pn : Nat) (v1 : Int32) (v2 : Int32) (v3 : Int32) (v4 : Int32) (v5 : Int32) : (Nat → Int32) × (Nat → Int32) × (Nat → Int32) × (Nat → Int32) × (Nat → Int32) × (Nat → Int32) × (Nat → Int32) × (Nat → Int32) × (Nat → Int32) × (Nat → Nat → Int32) × (Nat) × Int32 := (if (f_X5_isQuestion C v1 v2 v3 v4 v5) = 0 then (C, Dg, dw, J, bef, mov, nxt, chn, tw, P, pn, (-2)) else f_X5_stops_29 C off dear proved Dg dw nw (f_X1_aim J v1 v2 v3 v4) bef mov nxt chn tw P pn v5)
def s_X5_stops  (C : Nat → Int32) (off : Nat → Int32) (dear : Nat → Int32) (proved : Nat → Int32) (Dg : Nat → Int32) (dw : Nat → Int32) (nw : Nat → Int32) (J : Nat → Int32) (bef : Nat → Int32) (mov : Nat → Int32) (nxt : Nat → Int32) (chn : Nat → Int32) (tw : Nat → Int32) (P : Nat → Nat → Int32) (pn : Nat) (v1 : Int32) (v2 : Int32) (v3 : Int32) (v4 : Int32) (v5 : Int32) : Prop := (¬ (f_X5_isQuestion C v1 v2 v3 v4 v5) = 0 → s_X5_stops_29 C off dear proved Dg dw nw (f_X1_aim J v1 v2 v3 v4) bef mov nxt chn tw P pn v5)
set_option maxRecDepth 100000 in
set_option maxHeartbeats 4000000 in
theorem e_X5_stops {G : ng_GG} {hn : (Nat → Int32) → (Nat → Int32) → (Nat → Int32) → (Nat → Int32) → (Nat → Int32) → (Nat → Int32) → (Nat → Int32) → (Nat → Int32) → (Nat → Int32) → (Nat → Int32) → (Nat → Int32) → (Nat → Int32) → (Nat → Int32) → (Nat → Int32) → (Nat → Nat → Int64) → (Nat → Int32) → (Nat → Int32) → (Nat → Int32) → Int32 → (Nat → Nat → Int32) → Nat → ng_AM}  (V : ng_NL hn ) {C : Nat → Int32} {off : Nat → Int32} {dear : Nat → Int32} {proved : Nat → Int32} {Dg : Nat → Int32} {dw : Nat → Int32} {nw : Nat → Int32} {J : Nat → Int32} {bef : Nat → Int32} {mov : Nat → Int32} {nxt : Nat → Int32} {chn : Nat → Int32} {tol : Nat → Int32} {tw : Nat → Int32} {nu : Nat → Nat → Int64} {sw : Nat → Int32} {ss : Nat → Int32} {giv : Nat → Int32} {sE : Int32} {P : Nat → Nat → Int32} {pn : Nat}  {v1 : Int32} {v2 : Int32} {v3 : Int32} {v4 : Int32} {v5 : Int32} (h : s_X5_stops  C off dear proved Dg dw nw J bef mov nxt chn tw P pn v1 v2 v3 v4 v5)  : ng_Ev G md_X5_stops 0 [some (.ref 0), some (.int v1), some (.int v2), some (.int v3), some (.int v4), some (.int v5), none, none, none, none, none] [] (hn C off dear proved Dg dw nw J bef mov nxt chn tol tw nu sw ss giv sE P pn) (K_X5_stops hn off dear proved nw tol nu sw ss giv sE (f_X5_stops  C off dear proved Dg dw nw J bef mov nxt chn tw P pn v1 v2 v3 v4 v5)) := by
  unfold s_X5_stops at h
  unfold f_X5_stops
  refine ev_aload_n dX5_stops_0 rfl rfl rfl ?_
  refine ev_iload_n dX5_stops_1 rfl rfl ?_
  refine ev_iload_n dX5_stops_2 rfl rfl ?_
  refine ev_iload_n dX5_stops_3 rfl rfl ?_
  refine ev_iload dX5_stops_4 rfl ?_
  refine ev_iload dX5_stops_6 rfl ?_
  refine bk_callV (As := [.int v1, .int v2, .int v3, .int v4, .int v5]) (st := []) (st2 := [.int (f_X5_isQuestion C v1 v2 v3 v4 v5)]) (M2 := hn C off dear proved Dg dw nw J bef mov nxt chn tol tw nu sw ss giv sE P pn) ok_X5_isQuestion lk_RX5_174 (ng_rok.of rfl rfl) (NL_g0 V) rfl rfl rfl rfl rfl rfl dX5_stops_8 (m_X5_isQuestion V trivial) rfl rfl ?_
  refine bk_if_ne (tgt := 17) dX5_stops_11 (by decide) (fun c11 => ?_) (fun c11 => ?_)
  · replace h := h c11
    refine ev_aload_n dX5_stops_17 rfl rfl rfl ?_
    refine ev_get 5 3 fl_RX5_37 (NL_g0 V) rfl dX5_stops_18 ?_
    refine ev_iload_n dX5_stops_21 rfl rfl ?_
    refine ev_iload_n dX5_stops_22 rfl rfl ?_
    refine ev_iload_n dX5_stops_23 rfl rfl ?_
    refine ev_iload dX5_stops_24 rfl ?_
    refine bk_callV (As := [.int v1, .int v2, .int v3, .int v4]) (st := []) (st2 := []) (M2 := hn C off dear proved Dg dw nw (f_X1_aim J v1 v2 v3 v4) bef mov nxt chn tol tw nu sw ss giv sE P pn) ok_X1_aim lk_RX5_178 (ng_rok.of rfl rfl) (NL_g9 V) rfl rfl rfl rfl rfl rfl dX5_stops_26 (m_X1_aim V trivial) rfl rfl ?_
    exact ev_sub (e_X5_stops_29 V h) (sub_s (sub_n (sub_n (sub_n (sub_n (sub_s (sub_n (sub_n (sub_n (sub_n (sub_n sub_e)))))))))))
  · refine ev_bipush (v := (-2)) dX5_stops_14 (by decide) ?_
    exact ev_iret rfl rfl dX5_stops_16
theorem m_X5_stops {G : ng_GG} {hn : (Nat → Int32) → (Nat → Int32) → (Nat → Int32) → (Nat → Int32) → (Nat → Int32) → (Nat → Int32) → (Nat → Int32) → (Nat → Int32) → (Nat → Int32) → (Nat → Int32) → (Nat → Int32) → (Nat → Int32) → (Nat → Int32) → (Nat → Int32) → (Nat → Nat → Int64) → (Nat → Int32) → (Nat → Int32) → (Nat → Int32) → Int32 → (Nat → Nat → Int32) → Nat → ng_AM}  (V : ng_NL hn ) {C : Nat → Int32} {off : Nat → Int32} {dear : Nat → Int32} {proved : Nat → Int32} {Dg : Nat → Int32} {dw : Nat → Int32} {nw : Nat → Int32} {J : Nat → Int32} {bef : Nat → Int32} {mov : Nat → Int32} {nxt : Nat → Int32} {chn : Nat → Int32} {tol : Nat → Int32} {tw : Nat → Int32} {nu : Nat → Nat → Int64} {sw : Nat → Int32} {ss : Nat → Int32} {giv : Nat → Int32} {sE : Int32} {P : Nat → Nat → Int32} {pn : Nat} {v1 : Int32} {v2 : Int32} {v3 : Int32} {v4 : Int32} {v5 : Int32} (h : s_X5_stops C off dear proved Dg dw nw J bef mov nxt chn tw P pn v1 v2 v3 v4 v5)  : ng_Ev G md_X5_stops 0 (ng_en 11 [.ref 0, .int v1, .int v2, .int v3, .int v4, .int v5]) [] (hn C off dear proved Dg dw nw J bef mov nxt chn tol tw nu sw ss giv sE P pn) (K_X5_stops hn off dear proved nw tol nu sw ss giv sE (f_X5_stops C off dear proved Dg dw nw J bef mov nxt chn tw P pn v1 v2 v3 v4 v5)) := e_X5_stops V h 
def K_X5_longest (hn : (Nat → Int32) → (Nat → Int32) → (Nat → Int32) → (Nat → Int32) → (Nat → Int32) → (Nat → Int32) → (Nat → Int32) → (Nat → Int32) → (Nat → Int32) → (Nat → Int32) → (Nat → Int32) → (Nat → Int32) → (Nat → Int32) → (Nat → Int32) → (Nat → Nat → Int64) → (Nat → Int32) → (Nat → Int32) → (Nat → Int32) → Int32 → (Nat → Nat → Int32) → Nat → ng_AM) (C : Nat → Int32) (off : Nat → Int32) (dear : Nat → Int32) (proved : Nat → Int32) (nw : Nat → Int32) (J : Nat → Int32) (bef : Nat → Int32) (mov : Nat → Int32) (nxt : Nat → Int32) (chn : Nat → Int32) (tol : Nat → Int32) (nu : Nat → Nat → Int64) (sw : Nat → Int32) (ss : Nat → Int32) (giv : Nat → Int32) (sE : Int32) (P : Nat → Nat → Int32) (pn : Nat) (r : (Nat → Int32) × (Nat → Int32) × (Nat → Int32) × Int32) : ng_RR := (some (.int (r.2.2.2)), hn C off dear proved (r.1) (r.2.1) nw J bef mov nxt chn tol (r.2.2.1) nu sw ss giv sE P pn)
def f_X5_longest  (C : Nat → Int32) (off : Nat → Int32) (dear : Nat → Int32) (proved : Nat → Int32) (Dg : Nat → Int32) (dw : Nat → Int32) (nw : Nat → Int32) (tw : Nat → Int32) (v1 : Int32) (v2 : Int32) (v3 : Int32) : (Nat → Int32) × (Nat → Int32) × (Nat → Int32) × Int32 := (if (f_X4_isNote nw v1) = 0 then (Dg, dw, tw, (-2)) else (if (f_X2_isHouse C v2) = 0 then (Dg, dw, tw, (-2)) else (if (f_X5_isRight v3) = 0 then (Dg, dw, tw, (-2)) else ((f_X1_lastLetIn C off dear proved Dg dw nw tw v1 v2 v3).1, (f_X1_lastLetIn C off dear proved Dg dw nw tw v1 v2 v3).2.1, (f_X1_lastLetIn C off dear proved Dg dw nw tw v1 v2 v3).2.2.1, (f_X1_lastLetIn C off dear proved Dg dw nw tw v1 v2 v3).2.2.2))))
def s_X5_longest  (C : Nat → Int32) (off : Nat → Int32) (dear : Nat → Int32) (proved : Nat → Int32) (Dg : Nat → Int32) (dw : Nat → Int32) (nw : Nat → Int32) (tw : Nat → Int32) (v1 : Int32) (v2 : Int32) (v3 : Int32) : Prop := (¬ (f_X4_isNote nw v1) = 0 → (¬ (f_X2_isHouse C v2) = 0 → (¬ (f_X5_isRight v3) = 0 → s_X1_lastLetIn C off dear proved Dg dw nw tw v1 v2 v3)))
set_option maxRecDepth 100000 in
set_option maxHeartbeats 4000000 in
theorem e_X5_longest {G : ng_GG} {hn : (Nat → Int32) → (Nat → Int32) → (Nat → Int32) → (Nat → Int32) → (Nat → Int32) → (Nat → Int32) → (Nat → Int32) → (Nat → Int32) → (Nat → Int32) → (Nat → Int32) → (Nat → Int32) → (Nat → Int32) → (Nat → Int32) → (Nat → Int32) → (Nat → Nat → Int64) → (Nat → Int32) → (Nat → Int32) → (Nat → Int32) → Int32 → (Nat → Nat → Int32) → Nat → ng_AM}  (V : ng_NL hn ) {C : Nat → Int32} {off : Nat → Int32} {dear : Nat → Int32} {proved : Nat → Int32} {Dg : Nat → Int32} {dw : Nat → Int32} {nw : Nat → Int32} {J : Nat → Int32} {bef : Nat → Int32} {mov : Nat → Int32} {nxt : Nat → Int32} {chn : Nat → Int32} {tol : Nat → Int32} {tw : Nat → Int32} {nu : Nat → Nat → Int64} {sw : Nat → Int32} {ss : Nat → Int32} {giv : Nat → Int32} {sE : Int32} {P : Nat → Nat → Int32} {pn : Nat}  {v1 : Int32} {v2 : Int32} {v3 : Int32} (h : s_X5_longest  C off dear proved Dg dw nw tw v1 v2 v3)  : ng_Ev G md_X5_longest 0 [some (.ref 0), some (.int v1), some (.int v2), some (.int v3)] [] (hn C off dear proved Dg dw nw J bef mov nxt chn tol tw nu sw ss giv sE P pn) (K_X5_longest hn C off dear proved nw J bef mov nxt chn tol nu sw ss giv sE P pn (f_X5_longest  C off dear proved Dg dw nw tw v1 v2 v3)) := by
  unfold s_X5_longest at h
  unfold f_X5_longest
  refine ev_aload_n dX5_longest_0 rfl rfl rfl ?_
  refine ev_get 5 2 fl_RX5_28 (NL_g0 V) rfl dX5_longest_1 ?_
  refine ev_iload_n dX5_longest_4 rfl rfl ?_
  refine bk_callV (As := [.int v1]) (st := []) (st2 := [.int (f_X4_isNote nw v1)]) (M2 := hn C off dear proved Dg dw nw J bef mov nxt chn tol tw nu sw ss giv sE P pn) ok_X4_isNote lk_RX5_142 (ng_rok.of rfl rfl) (NL_g7 V) rfl rfl rfl rfl rfl rfl dX5_longest_5 (m_X4_isNote (NL_R7 V) trivial) rfl rfl ?_
  refine bk_if_eq (tgt := 29) dX5_longest_8 (by decide) (fun c8 => ?_) (fun c8 => ?_)
  · refine ev_bipush (v := (-2)) dX5_longest_29 (by decide) ?_
    exact ev_iret rfl rfl dX5_longest_31
  · replace h := h c8
    refine ev_aload_n dX5_longest_11 rfl rfl rfl ?_
    refine ev_get 5 0 fl_RX5_10 (NL_g0 V) rfl dX5_longest_12 ?_
    refine ev_iload_n dX5_longest_15 rfl rfl ?_
    refine bk_callV (As := [.int v2]) (st := []) (st2 := [.int (f_X2_isHouse C v2)]) (M2 := hn C off dear proved Dg dw nw J bef mov nxt chn tol tw nu sw ss giv sE P pn) ok_X2_isHouse lk_RX5_132 (ng_rok.of rfl rfl) (NL_g1 V) rfl rfl rfl rfl rfl rfl dX5_longest_16 (m_X2_isHouse (NL_RS V) trivial) rfl rfl ?_
    refine bk_if_eq (tgt := 29) dX5_longest_19 (by decide) (fun c19 => ?_) (fun c19 => ?_)
    · refine ev_bipush (v := (-2)) dX5_longest_29 (by decide) ?_
      exact ev_iret rfl rfl dX5_longest_31
    · replace h := h c19
      refine ev_iload_n dX5_longest_22 rfl rfl ?_
      refine bk_callS (As := [.int v3]) (st := []) (st2 := [.int (f_X5_isRight v3)]) (M2 := hn C off dear proved Dg dw nw J bef mov nxt chn tol tw nu sw ss giv sE P pn) ok_X5_isRight lk_RX5_153 (ng_rok.of rfl rfl) rfl rfl rfl rfl dX5_longest_23 (m_X5_isRight trivial) rfl rfl ?_
      refine bk_if_ne (tgt := 32) dX5_longest_26 (by decide) (fun c26 => ?_) (fun c26 => ?_)
      · replace h := h c26
        refine ev_aload_n dX5_longest_32 rfl rfl rfl ?_
        refine ev_get 5 3 fl_RX5_37 (NL_g0 V) rfl dX5_longest_33 ?_
        refine ev_iload_n dX5_longest_36 rfl rfl ?_
        refine ev_iload_n dX5_longest_37 rfl rfl ?_
        refine ev_iload_n dX5_longest_38 rfl rfl ?_
        have hs39 := h
        refine bk_callV (As := [.int v1, .int v2, .int v3]) (st := []) (st2 := [.int ((f_X1_lastLetIn C off dear proved Dg dw nw tw v1 v2 v3).2.2.2)]) (M2 := hn C off dear proved ((f_X1_lastLetIn C off dear proved Dg dw nw tw v1 v2 v3).1) ((f_X1_lastLetIn C off dear proved Dg dw nw tw v1 v2 v3).2.1) nw J bef mov nxt chn tol ((f_X1_lastLetIn C off dear proved Dg dw nw tw v1 v2 v3).2.2.1) nu sw ss giv sE P pn) ok_X1_lastLetIn lk_RX5_191 (ng_rok.of rfl rfl) (NL_g9 V) rfl rfl rfl rfl rfl rfl dX5_longest_39 (m_X1_lastLetIn V hs39) rfl rfl ?_
        exact ev_iret rfl rfl dX5_longest_42
      · refine ev_bipush (v := (-2)) dX5_longest_29 (by decide) ?_
        exact ev_iret rfl rfl dX5_longest_31
theorem m_X5_longest {G : ng_GG} {hn : (Nat → Int32) → (Nat → Int32) → (Nat → Int32) → (Nat → Int32) → (Nat → Int32) → (Nat → Int32) → (Nat → Int32) → (Nat → Int32) → (Nat → Int32) → (Nat → Int32) → (Nat → Int32) → (Nat → Int32) → (Nat → Int32) → (Nat → Int32) → (Nat → Nat → Int64) → (Nat → Int32) → (Nat → Int32) → (Nat → Int32) → Int32 → (Nat → Nat → Int32) → Nat → ng_AM}  (V : ng_NL hn ) {C : Nat → Int32} {off : Nat → Int32} {dear : Nat → Int32} {proved : Nat → Int32} {Dg : Nat → Int32} {dw : Nat → Int32} {nw : Nat → Int32} {J : Nat → Int32} {bef : Nat → Int32} {mov : Nat → Int32} {nxt : Nat → Int32} {chn : Nat → Int32} {tol : Nat → Int32} {tw : Nat → Int32} {nu : Nat → Nat → Int64} {sw : Nat → Int32} {ss : Nat → Int32} {giv : Nat → Int32} {sE : Int32} {P : Nat → Nat → Int32} {pn : Nat} {v1 : Int32} {v2 : Int32} {v3 : Int32} (h : s_X5_longest C off dear proved Dg dw nw tw v1 v2 v3)  : ng_Ev G md_X5_longest 0 (ng_en 4 [.ref 0, .int v1, .int v2, .int v3]) [] (hn C off dear proved Dg dw nw J bef mov nxt chn tol tw nu sw ss giv sE P pn) (K_X5_longest hn C off dear proved nw J bef mov nxt chn tol nu sw ss giv sE P pn (f_X5_longest C off dear proved Dg dw nw tw v1 v2 v3)) := e_X5_longest V h 
def K_X5_note (hn : (Nat → Int32) → (Nat → Int32) → (Nat → Int32) → (Nat → Int32) → (Nat → Int32) → (Nat → Int32) → (Nat → Int32) → (Nat → Int32) → (Nat → Int32) → (Nat → Int32) → (Nat → Int32) → (Nat → Int32) → (Nat → Int32) → (Nat → Int32) → (Nat → Nat → Int64) → (Nat → Int32) → (Nat → Int32) → (Nat → Int32) → Int32 → (Nat → Nat → Int32) → Nat → ng_AM) (C : Nat → Int32) (off : Nat → Int32) (dear : Nat → Int32) (proved : Nat → Int32) (Dg : Nat → Int32) (dw : Nat → Int32) (nw : Nat → Int32) (J : Nat → Int32) (bef : Nat → Int32) (mov : Nat → Int32) (nxt : Nat → Int32) (chn : Nat → Int32) (tol : Nat → Int32) (tw : Nat → Int32) (nu : Nat → Nat → Int64) (sw : Nat → Int32) (ss : Nat → Int32) (giv : Nat → Int32) (sE : Int32) (P : Nat → Nat → Int32) (pn : Nat) (r : Int32) : ng_RR := (some (.int (r)), hn C off dear proved Dg dw nw J bef mov nxt chn tol tw nu sw ss giv sE P pn)
def f_X5_note  (nw : Nat → Int32) (v1 : Int32) (v2 : Int32) : Int32 := (if (f_X4_isNote nw v1) = 0 then (-2) else (if (f_X5_within v2 (nI 0) (nI 10)) = 0 then (-2) else (f_X4_noteWord nw v1 v2)))
def s_X5_note  (nw : Nat → Int32) (v1 : Int32) (v2 : Int32) : Prop := (¬ (f_X4_isNote nw v1) = 0 → (¬ (f_X5_within v2 (nI 0) (nI 10)) = 0 → s_X4_noteWord nw v1 v2))
set_option maxRecDepth 100000 in
set_option maxHeartbeats 4000000 in
theorem e_X5_note {G : ng_GG} {hn : (Nat → Int32) → (Nat → Int32) → (Nat → Int32) → (Nat → Int32) → (Nat → Int32) → (Nat → Int32) → (Nat → Int32) → (Nat → Int32) → (Nat → Int32) → (Nat → Int32) → (Nat → Int32) → (Nat → Int32) → (Nat → Int32) → (Nat → Int32) → (Nat → Nat → Int64) → (Nat → Int32) → (Nat → Int32) → (Nat → Int32) → Int32 → (Nat → Nat → Int32) → Nat → ng_AM}  (V : ng_NL hn ) {C : Nat → Int32} {off : Nat → Int32} {dear : Nat → Int32} {proved : Nat → Int32} {Dg : Nat → Int32} {dw : Nat → Int32} {nw : Nat → Int32} {J : Nat → Int32} {bef : Nat → Int32} {mov : Nat → Int32} {nxt : Nat → Int32} {chn : Nat → Int32} {tol : Nat → Int32} {tw : Nat → Int32} {nu : Nat → Nat → Int64} {sw : Nat → Int32} {ss : Nat → Int32} {giv : Nat → Int32} {sE : Int32} {P : Nat → Nat → Int32} {pn : Nat}  {v1 : Int32} {v2 : Int32} (h : s_X5_note  nw v1 v2)  : ng_Ev G md_X5_note 0 [some (.ref 0), some (.int v1), some (.int v2)] [] (hn C off dear proved Dg dw nw J bef mov nxt chn tol tw nu sw ss giv sE P pn) (K_X5_note hn C off dear proved Dg dw nw J bef mov nxt chn tol tw nu sw ss giv sE P pn (f_X5_note  nw v1 v2)) := by
  unfold s_X5_note at h
  unfold f_X5_note
  refine ev_aload_n dX5_note_0 rfl rfl rfl ?_
  refine ev_get 5 2 fl_RX5_28 (NL_g0 V) rfl dX5_note_1 ?_
  refine ev_iload_n dX5_note_4 rfl rfl ?_
  refine bk_callV (As := [.int v1]) (st := []) (st2 := [.int (f_X4_isNote nw v1)]) (M2 := hn C off dear proved Dg dw nw J bef mov nxt chn tol tw nu sw ss giv sE P pn) ok_X4_isNote lk_RX5_142 (ng_rok.of rfl rfl) (NL_g7 V) rfl rfl rfl rfl rfl rfl dX5_note_5 (m_X4_isNote (NL_R7 V) trivial) rfl rfl ?_
  refine bk_if_eq (tgt := 21) dX5_note_8 (by decide) (fun c8 => ?_) (fun c8 => ?_)
  · refine ev_bipush (v := (-2)) dX5_note_21 (by decide) ?_
    exact ev_iret rfl rfl dX5_note_23
  · replace h := h c8
    refine ev_iload_n dX5_note_11 rfl rfl ?_
    refine ev_iconst (v := nI 0) dX5_note_12 (by decide) ?_
    refine ev_bipush (v := nI 10) dX5_note_13 (by decide) ?_
    refine bk_callS (As := [.int v2, .int (nI 0), .int (nI 10)]) (st := []) (st2 := [.int (f_X5_within v2 (nI 0) (nI 10))]) (M2 := hn C off dear proved Dg dw nw J bef mov nxt chn tol tw nu sw ss giv sE P pn) ok_X5_within lk_RX5_56 (ng_rok.of rfl rfl) rfl rfl rfl rfl dX5_note_15 (m_X5_within trivial) rfl rfl ?_
    refine bk_if_ne (tgt := 24) dX5_note_18 (by decide) (fun c18 => ?_) (fun c18 => ?_)
    · replace h := h c18
      refine ev_aload_n dX5_note_24 rfl rfl rfl ?_
      refine ev_get 5 2 fl_RX5_28 (NL_g0 V) rfl dX5_note_25 ?_
      refine ev_iload_n dX5_note_28 rfl rfl ?_
      refine ev_iload_n dX5_note_29 rfl rfl ?_
      have hs30 := h
      refine bk_callV (As := [.int v1, .int v2]) (st := []) (st2 := [.int (f_X4_noteWord nw v1 v2)]) (M2 := hn C off dear proved Dg dw nw J bef mov nxt chn tol tw nu sw ss giv sE P pn) ok_X4_noteWord lk_RX5_149 (ng_rok.of rfl rfl) (NL_g7 V) rfl rfl rfl rfl rfl rfl dX5_note_30 (m_X4_noteWord (NL_R7 V) hs30) rfl rfl ?_
      exact ev_iret rfl rfl dX5_note_33
    · refine ev_bipush (v := (-2)) dX5_note_21 (by decide) ?_
      exact ev_iret rfl rfl dX5_note_23
theorem m_X5_note {G : ng_GG} {hn : (Nat → Int32) → (Nat → Int32) → (Nat → Int32) → (Nat → Int32) → (Nat → Int32) → (Nat → Int32) → (Nat → Int32) → (Nat → Int32) → (Nat → Int32) → (Nat → Int32) → (Nat → Int32) → (Nat → Int32) → (Nat → Int32) → (Nat → Int32) → (Nat → Nat → Int64) → (Nat → Int32) → (Nat → Int32) → (Nat → Int32) → Int32 → (Nat → Nat → Int32) → Nat → ng_AM}  (V : ng_NL hn ) {C : Nat → Int32} {off : Nat → Int32} {dear : Nat → Int32} {proved : Nat → Int32} {Dg : Nat → Int32} {dw : Nat → Int32} {nw : Nat → Int32} {J : Nat → Int32} {bef : Nat → Int32} {mov : Nat → Int32} {nxt : Nat → Int32} {chn : Nat → Int32} {tol : Nat → Int32} {tw : Nat → Int32} {nu : Nat → Nat → Int64} {sw : Nat → Int32} {ss : Nat → Int32} {giv : Nat → Int32} {sE : Int32} {P : Nat → Nat → Int32} {pn : Nat} {v1 : Int32} {v2 : Int32} (h : s_X5_note nw v1 v2)  : ng_Ev G md_X5_note 0 (ng_en 3 [.ref 0, .int v1, .int v2]) [] (hn C off dear proved Dg dw nw J bef mov nxt chn tol tw nu sw ss giv sE P pn) (K_X5_note hn C off dear proved Dg dw nw J bef mov nxt chn tol tw nu sw ss giv sE P pn (f_X5_note nw v1 v2)) := e_X5_note V h 
def K_X5_letter (hn : (Nat → Int32) → (Nat → Int32) → (Nat → Int32) → (Nat → Int32) → (Nat → Int32) → (Nat → Int32) → (Nat → Int32) → (Nat → Int32) → (Nat → Int32) → (Nat → Int32) → (Nat → Int32) → (Nat → Int32) → (Nat → Int32) → (Nat → Int32) → (Nat → Nat → Int64) → (Nat → Int32) → (Nat → Int32) → (Nat → Int32) → Int32 → (Nat → Nat → Int32) → Nat → ng_AM) (C : Nat → Int32) (off : Nat → Int32) (dear : Nat → Int32) (proved : Nat → Int32) (Dg : Nat → Int32) (dw : Nat → Int32) (nw : Nat → Int32) (J : Nat → Int32) (bef : Nat → Int32) (mov : Nat → Int32) (nxt : Nat → Int32) (chn : Nat → Int32) (tol : Nat → Int32) (tw : Nat → Int32) (nu : Nat → Nat → Int64) (sw : Nat → Int32) (ss : Nat → Int32) (giv : Nat → Int32) (sE : Int32) (P : Nat → Nat → Int32) (pn : Nat) (r : Int32) : ng_RR := (some (.int (r)), hn C off dear proved Dg dw nw J bef mov nxt chn tol tw nu sw ss giv sE P pn)
def f_X5_letter  (nw : Nat → Int32) (v1 : Int32) (v2 : Int32) : Int32 := (if (f_X4_isLetter nw v1) = 0 then (-2) else (if (f_X5_within v2 (nI 0) (nI 6)) = 0 then (-2) else (f_X4_letterWord nw v1 v2)))
def s_X5_letter  (nw : Nat → Int32) (v1 : Int32) (v2 : Int32) : Prop := (¬ (f_X4_isLetter nw v1) = 0 → (¬ (f_X5_within v2 (nI 0) (nI 6)) = 0 → s_X4_letterWord nw v1 v2))
set_option maxRecDepth 100000 in
set_option maxHeartbeats 4000000 in
theorem e_X5_letter {G : ng_GG} {hn : (Nat → Int32) → (Nat → Int32) → (Nat → Int32) → (Nat → Int32) → (Nat → Int32) → (Nat → Int32) → (Nat → Int32) → (Nat → Int32) → (Nat → Int32) → (Nat → Int32) → (Nat → Int32) → (Nat → Int32) → (Nat → Int32) → (Nat → Int32) → (Nat → Nat → Int64) → (Nat → Int32) → (Nat → Int32) → (Nat → Int32) → Int32 → (Nat → Nat → Int32) → Nat → ng_AM}  (V : ng_NL hn ) {C : Nat → Int32} {off : Nat → Int32} {dear : Nat → Int32} {proved : Nat → Int32} {Dg : Nat → Int32} {dw : Nat → Int32} {nw : Nat → Int32} {J : Nat → Int32} {bef : Nat → Int32} {mov : Nat → Int32} {nxt : Nat → Int32} {chn : Nat → Int32} {tol : Nat → Int32} {tw : Nat → Int32} {nu : Nat → Nat → Int64} {sw : Nat → Int32} {ss : Nat → Int32} {giv : Nat → Int32} {sE : Int32} {P : Nat → Nat → Int32} {pn : Nat}  {v1 : Int32} {v2 : Int32} (h : s_X5_letter  nw v1 v2)  : ng_Ev G md_X5_letter 0 [some (.ref 0), some (.int v1), some (.int v2)] [] (hn C off dear proved Dg dw nw J bef mov nxt chn tol tw nu sw ss giv sE P pn) (K_X5_letter hn C off dear proved Dg dw nw J bef mov nxt chn tol tw nu sw ss giv sE P pn (f_X5_letter  nw v1 v2)) := by
  unfold s_X5_letter at h
  unfold f_X5_letter
  refine ev_aload_n dX5_letter_0 rfl rfl rfl ?_
  refine ev_get 5 2 fl_RX5_28 (NL_g0 V) rfl dX5_letter_1 ?_
  refine ev_iload_n dX5_letter_4 rfl rfl ?_
  refine bk_callV (As := [.int v1]) (st := []) (st2 := [.int (f_X4_isLetter nw v1)]) (M2 := hn C off dear proved Dg dw nw J bef mov nxt chn tol tw nu sw ss giv sE P pn) ok_X4_isLetter lk_RX5_165 (ng_rok.of rfl rfl) (NL_g7 V) rfl rfl rfl rfl rfl rfl dX5_letter_5 (m_X4_isLetter (NL_R7 V) trivial) rfl rfl ?_
  refine bk_if_eq (tgt := 21) dX5_letter_8 (by decide) (fun c8 => ?_) (fun c8 => ?_)
  · refine ev_bipush (v := (-2)) dX5_letter_21 (by decide) ?_
    exact ev_iret rfl rfl dX5_letter_23
  · replace h := h c8
    refine ev_iload_n dX5_letter_11 rfl rfl ?_
    refine ev_iconst (v := nI 0) dX5_letter_12 (by decide) ?_
    refine ev_bipush (v := nI 6) dX5_letter_13 (by decide) ?_
    refine bk_callS (As := [.int v2, .int (nI 0), .int (nI 6)]) (st := []) (st2 := [.int (f_X5_within v2 (nI 0) (nI 6))]) (M2 := hn C off dear proved Dg dw nw J bef mov nxt chn tol tw nu sw ss giv sE P pn) ok_X5_within lk_RX5_56 (ng_rok.of rfl rfl) rfl rfl rfl rfl dX5_letter_15 (m_X5_within trivial) rfl rfl ?_
    refine bk_if_ne (tgt := 24) dX5_letter_18 (by decide) (fun c18 => ?_) (fun c18 => ?_)
    · replace h := h c18
      refine ev_aload_n dX5_letter_24 rfl rfl rfl ?_
      refine ev_get 5 2 fl_RX5_28 (NL_g0 V) rfl dX5_letter_25 ?_
      refine ev_iload_n dX5_letter_28 rfl rfl ?_
      refine ev_iload_n dX5_letter_29 rfl rfl ?_
      have hs30 := h
      refine bk_callV (As := [.int v1, .int v2]) (st := []) (st2 := [.int (f_X4_letterWord nw v1 v2)]) (M2 := hn C off dear proved Dg dw nw J bef mov nxt chn tol tw nu sw ss giv sE P pn) ok_X4_letterWord lk_RX5_195 (ng_rok.of rfl rfl) (NL_g7 V) rfl rfl rfl rfl rfl rfl dX5_letter_30 (m_X4_letterWord (NL_R7 V) hs30) rfl rfl ?_
      exact ev_iret rfl rfl dX5_letter_33
    · refine ev_bipush (v := (-2)) dX5_letter_21 (by decide) ?_
      exact ev_iret rfl rfl dX5_letter_23
theorem m_X5_letter {G : ng_GG} {hn : (Nat → Int32) → (Nat → Int32) → (Nat → Int32) → (Nat → Int32) → (Nat → Int32) → (Nat → Int32) → (Nat → Int32) → (Nat → Int32) → (Nat → Int32) → (Nat → Int32) → (Nat → Int32) → (Nat → Int32) → (Nat → Int32) → (Nat → Int32) → (Nat → Nat → Int64) → (Nat → Int32) → (Nat → Int32) → (Nat → Int32) → Int32 → (Nat → Nat → Int32) → Nat → ng_AM}  (V : ng_NL hn ) {C : Nat → Int32} {off : Nat → Int32} {dear : Nat → Int32} {proved : Nat → Int32} {Dg : Nat → Int32} {dw : Nat → Int32} {nw : Nat → Int32} {J : Nat → Int32} {bef : Nat → Int32} {mov : Nat → Int32} {nxt : Nat → Int32} {chn : Nat → Int32} {tol : Nat → Int32} {tw : Nat → Int32} {nu : Nat → Nat → Int64} {sw : Nat → Int32} {ss : Nat → Int32} {giv : Nat → Int32} {sE : Int32} {P : Nat → Nat → Int32} {pn : Nat} {v1 : Int32} {v2 : Int32} (h : s_X5_letter nw v1 v2)  : ng_Ev G md_X5_letter 0 (ng_en 3 [.ref 0, .int v1, .int v2]) [] (hn C off dear proved Dg dw nw J bef mov nxt chn tol tw nu sw ss giv sE P pn) (K_X5_letter hn C off dear proved Dg dw nw J bef mov nxt chn tol tw nu sw ss giv sE P pn (f_X5_letter nw v1 v2)) := e_X5_letter V h 
def K_X5_family (hn : (Nat → Int32) → (Nat → Int32) → (Nat → Int32) → (Nat → Int32) → (Nat → Int32) → (Nat → Int32) → (Nat → Int32) → (Nat → Int32) → (Nat → Int32) → (Nat → Int32) → (Nat → Int32) → (Nat → Int32) → (Nat → Int32) → (Nat → Int32) → (Nat → Nat → Int64) → (Nat → Int32) → (Nat → Int32) → (Nat → Int32) → Int32 → (Nat → Nat → Int32) → Nat → ng_AM) (C : Nat → Int32) (off : Nat → Int32) (dear : Nat → Int32) (proved : Nat → Int32) (Dg : Nat → Int32) (dw : Nat → Int32) (nw : Nat → Int32) (J : Nat → Int32) (bef : Nat → Int32) (mov : Nat → Int32) (nxt : Nat → Int32) (chn : Nat → Int32) (tol : Nat → Int32) (tw : Nat → Int32) (nu : Nat → Nat → Int64) (sw : Nat → Int32) (ss : Nat → Int32) (giv : Nat → Int32) (sE : Int32) (P : Nat → Nat → Int32) (pn : Nat) (r : Int32) : ng_RR := (some (.int (r)), hn C off dear proved Dg dw nw J bef mov nxt chn tol tw nu sw ss giv sE P pn)
def f_X5_family  (nw : Nat → Int32) (v1 : Int32) (v2 : Int32) : Int32 := (if (f_X4_isFamily nw v1) = 0 then (-2) else (if (f_X5_within v2 (nI 0) (nI 1)) = 0 then (-2) else (f_X4_familyWord nw v1 v2)))
def s_X5_family  (nw : Nat → Int32) (v1 : Int32) (v2 : Int32) : Prop := (¬ (f_X4_isFamily nw v1) = 0 → (¬ (f_X5_within v2 (nI 0) (nI 1)) = 0 → s_X4_familyWord nw v1 v2))
set_option maxRecDepth 100000 in
set_option maxHeartbeats 4000000 in
theorem e_X5_family {G : ng_GG} {hn : (Nat → Int32) → (Nat → Int32) → (Nat → Int32) → (Nat → Int32) → (Nat → Int32) → (Nat → Int32) → (Nat → Int32) → (Nat → Int32) → (Nat → Int32) → (Nat → Int32) → (Nat → Int32) → (Nat → Int32) → (Nat → Int32) → (Nat → Int32) → (Nat → Nat → Int64) → (Nat → Int32) → (Nat → Int32) → (Nat → Int32) → Int32 → (Nat → Nat → Int32) → Nat → ng_AM}  (V : ng_NL hn ) {C : Nat → Int32} {off : Nat → Int32} {dear : Nat → Int32} {proved : Nat → Int32} {Dg : Nat → Int32} {dw : Nat → Int32} {nw : Nat → Int32} {J : Nat → Int32} {bef : Nat → Int32} {mov : Nat → Int32} {nxt : Nat → Int32} {chn : Nat → Int32} {tol : Nat → Int32} {tw : Nat → Int32} {nu : Nat → Nat → Int64} {sw : Nat → Int32} {ss : Nat → Int32} {giv : Nat → Int32} {sE : Int32} {P : Nat → Nat → Int32} {pn : Nat}  {v1 : Int32} {v2 : Int32} (h : s_X5_family  nw v1 v2)  : ng_Ev G md_X5_family 0 [some (.ref 0), some (.int v1), some (.int v2)] [] (hn C off dear proved Dg dw nw J bef mov nxt chn tol tw nu sw ss giv sE P pn) (K_X5_family hn C off dear proved Dg dw nw J bef mov nxt chn tol tw nu sw ss giv sE P pn (f_X5_family  nw v1 v2)) := by
  unfold s_X5_family at h
  unfold f_X5_family
  refine ev_aload_n dX5_family_0 rfl rfl rfl ?_
  refine ev_get 5 2 fl_RX5_28 (NL_g0 V) rfl dX5_family_1 ?_
  refine ev_iload_n dX5_family_4 rfl rfl ?_
  refine bk_callV (As := [.int v1]) (st := []) (st2 := [.int (f_X4_isFamily nw v1)]) (M2 := hn C off dear proved Dg dw nw J bef mov nxt chn tol tw nu sw ss giv sE P pn) ok_X4_isFamily lk_RX5_123 (ng_rok.of rfl rfl) (NL_g7 V) rfl rfl rfl rfl rfl rfl dX5_family_5 (m_X4_isFamily (NL_R7 V) trivial) rfl rfl ?_
  refine bk_if_eq (tgt := 20) dX5_family_8 (by decide) (fun c8 => ?_) (fun c8 => ?_)
  · refine ev_bipush (v := (-2)) dX5_family_20 (by decide) ?_
    exact ev_iret rfl rfl dX5_family_22
  · replace h := h c8
    refine ev_iload_n dX5_family_11 rfl rfl ?_
    refine ev_iconst (v := nI 0) dX5_family_12 (by decide) ?_
    refine ev_iconst (v := nI 1) dX5_family_13 (by decide) ?_
    refine bk_callS (As := [.int v2, .int (nI 0), .int (nI 1)]) (st := []) (st2 := [.int (f_X5_within v2 (nI 0) (nI 1))]) (M2 := hn C off dear proved Dg dw nw J bef mov nxt chn tol tw nu sw ss giv sE P pn) ok_X5_within lk_RX5_56 (ng_rok.of rfl rfl) rfl rfl rfl rfl dX5_family_14 (m_X5_within trivial) rfl rfl ?_
    refine bk_if_ne (tgt := 23) dX5_family_17 (by decide) (fun c17 => ?_) (fun c17 => ?_)
    · replace h := h c17
      refine ev_aload_n dX5_family_23 rfl rfl rfl ?_
      refine ev_get 5 2 fl_RX5_28 (NL_g0 V) rfl dX5_family_24 ?_
      refine ev_iload_n dX5_family_27 rfl rfl ?_
      refine ev_iload_n dX5_family_28 rfl rfl ?_
      have hs29 := h
      refine bk_callV (As := [.int v1, .int v2]) (st := []) (st2 := [.int (f_X4_familyWord nw v1 v2)]) (M2 := hn C off dear proved Dg dw nw J bef mov nxt chn tol tw nu sw ss giv sE P pn) ok_X4_familyWord lk_RX5_198 (ng_rok.of rfl rfl) (NL_g7 V) rfl rfl rfl rfl rfl rfl dX5_family_29 (m_X4_familyWord (NL_R7 V) hs29) rfl rfl ?_
      exact ev_iret rfl rfl dX5_family_32
    · refine ev_bipush (v := (-2)) dX5_family_20 (by decide) ?_
      exact ev_iret rfl rfl dX5_family_22
theorem m_X5_family {G : ng_GG} {hn : (Nat → Int32) → (Nat → Int32) → (Nat → Int32) → (Nat → Int32) → (Nat → Int32) → (Nat → Int32) → (Nat → Int32) → (Nat → Int32) → (Nat → Int32) → (Nat → Int32) → (Nat → Int32) → (Nat → Int32) → (Nat → Int32) → (Nat → Int32) → (Nat → Nat → Int64) → (Nat → Int32) → (Nat → Int32) → (Nat → Int32) → Int32 → (Nat → Nat → Int32) → Nat → ng_AM}  (V : ng_NL hn ) {C : Nat → Int32} {off : Nat → Int32} {dear : Nat → Int32} {proved : Nat → Int32} {Dg : Nat → Int32} {dw : Nat → Int32} {nw : Nat → Int32} {J : Nat → Int32} {bef : Nat → Int32} {mov : Nat → Int32} {nxt : Nat → Int32} {chn : Nat → Int32} {tol : Nat → Int32} {tw : Nat → Int32} {nu : Nat → Nat → Int64} {sw : Nat → Int32} {ss : Nat → Int32} {giv : Nat → Int32} {sE : Int32} {P : Nat → Nat → Int32} {pn : Nat} {v1 : Int32} {v2 : Int32} (h : s_X5_family nw v1 v2)  : ng_Ev G md_X5_family 0 (ng_en 3 [.ref 0, .int v1, .int v2]) [] (hn C off dear proved Dg dw nw J bef mov nxt chn tol tw nu sw ss giv sE P pn) (K_X5_family hn C off dear proved Dg dw nw J bef mov nxt chn tol tw nu sw ss giv sE P pn (f_X5_family nw v1 v2)) := e_X5_family V h 
def K_X5_houseOf (hn : (Nat → Int32) → (Nat → Int32) → (Nat → Int32) → (Nat → Int32) → (Nat → Int32) → (Nat → Int32) → (Nat → Int32) → (Nat → Int32) → (Nat → Int32) → (Nat → Int32) → (Nat → Int32) → (Nat → Int32) → (Nat → Int32) → (Nat → Int32) → (Nat → Nat → Int64) → (Nat → Int32) → (Nat → Int32) → (Nat → Int32) → Int32 → (Nat → Nat → Int32) → Nat → ng_AM) (C : Nat → Int32) (off : Nat → Int32) (dear : Nat → Int32) (proved : Nat → Int32) (Dg : Nat → Int32) (dw : Nat → Int32) (nw : Nat → Int32) (J : Nat → Int32) (bef : Nat → Int32) (mov : Nat → Int32) (nxt : Nat → Int32) (chn : Nat → Int32) (tol : Nat → Int32) (tw : Nat → Int32) (nu : Nat → Nat → Int64) (sw : Nat → Int32) (ss : Nat → Int32) (giv : Nat → Int32) (sE : Int32) (P : Nat → Nat → Int32) (pn : Nat) (r : Int32) : ng_RR := (some (.int (r)), hn C off dear proved Dg dw nw J bef mov nxt chn tol tw nu sw ss giv sE P pn)
def f_X5_houseOf  (C : Nat → Int32) (off : Nat → Int32) (dear : Nat → Int32) (nw : Nat → Int32) (v1 : Int32) (v2 : Int32) : Int32 := (if (f_X2_isHouse C v1) = 0 then (-100) else (if v2 = nI 0 then (if (f_X2_isIn C v1) = 0 then nI 0 else nI 1) else (if v2 = nI 1 then (off v1.toNatClampNeg) else (if v2 = nI 2 then (if (f_X2_isOnce C v1) = 0 then nI 0 else nI 1) else (if v2 = nI 3 then (dear v1.toNatClampNeg) else (if v2 = nI 4 then (f_X4_houseWord nw v1 (nI 0)) else (if v2 = nI 5 then (f_X4_houseWord nw v1 (nI 1)) else (if v2 = nI 6 then (f_X4_houseWord nw v1 (nI 2)) else (if v2 = nI 7 then ((f_X4_time nw) + (off v1.toNatClampNeg)) else (-100))))))))))
def s_X5_houseOf  (C : Nat → Int32) (off : Nat → Int32) (dear : Nat → Int32) (nw : Nat → Int32) (v1 : Int32) (v2 : Int32) : Prop := (¬ (f_X2_isHouse C v1) = 0 → (¬ v2 = nI 0 → ((v2 = nI 1 → vp_in v1 4) ∧ (¬ v2 = nI 1 → (¬ v2 = nI 2 → ((v2 = nI 3 → vp_in v1 4) ∧ (¬ v2 = nI 3 → ((v2 = nI 4 → s_X4_houseWord nw v1 (nI 0)) ∧ (¬ v2 = nI 4 → ((v2 = nI 5 → s_X4_houseWord nw v1 (nI 1)) ∧ (¬ v2 = nI 5 → ((v2 = nI 6 → s_X4_houseWord nw v1 (nI 2)) ∧ (¬ v2 = nI 6 → (v2 = nI 7 → vp_in v1 4))))))))))))))
set_option maxRecDepth 100000 in
set_option maxHeartbeats 4000000 in
theorem e_X5_houseOf {G : ng_GG} {hn : (Nat → Int32) → (Nat → Int32) → (Nat → Int32) → (Nat → Int32) → (Nat → Int32) → (Nat → Int32) → (Nat → Int32) → (Nat → Int32) → (Nat → Int32) → (Nat → Int32) → (Nat → Int32) → (Nat → Int32) → (Nat → Int32) → (Nat → Int32) → (Nat → Nat → Int64) → (Nat → Int32) → (Nat → Int32) → (Nat → Int32) → Int32 → (Nat → Nat → Int32) → Nat → ng_AM}  (V : ng_NL hn ) {C : Nat → Int32} {off : Nat → Int32} {dear : Nat → Int32} {proved : Nat → Int32} {Dg : Nat → Int32} {dw : Nat → Int32} {nw : Nat → Int32} {J : Nat → Int32} {bef : Nat → Int32} {mov : Nat → Int32} {nxt : Nat → Int32} {chn : Nat → Int32} {tol : Nat → Int32} {tw : Nat → Int32} {nu : Nat → Nat → Int64} {sw : Nat → Int32} {ss : Nat → Int32} {giv : Nat → Int32} {sE : Int32} {P : Nat → Nat → Int32} {pn : Nat}  {v1 : Int32} {v2 : Int32} (h : s_X5_houseOf  C off dear nw v1 v2)  : ng_Ev G md_X5_houseOf 0 [some (.ref 0), some (.int v1), some (.int v2)] [] (hn C off dear proved Dg dw nw J bef mov nxt chn tol tw nu sw ss giv sE P pn) (K_X5_houseOf hn C off dear proved Dg dw nw J bef mov nxt chn tol tw nu sw ss giv sE P pn (f_X5_houseOf  C off dear nw v1 v2)) := by
  unfold s_X5_houseOf at h
  unfold f_X5_houseOf
  refine ev_aload_n dX5_houseOf_0 rfl rfl rfl ?_
  refine ev_get 5 0 fl_RX5_10 (NL_g0 V) rfl dX5_houseOf_1 ?_
  refine ev_iload_n dX5_houseOf_4 rfl rfl ?_
  refine bk_callV (As := [.int v1]) (st := []) (st2 := [.int (f_X2_isHouse C v1)]) (M2 := hn C off dear proved Dg dw nw J bef mov nxt chn tol tw nu sw ss giv sE P pn) ok_X2_isHouse lk_RX5_132 (ng_rok.of rfl rfl) (NL_g1 V) rfl rfl rfl rfl rfl rfl dX5_houseOf_5 (m_X2_isHouse (NL_RS V) trivial) rfl rfl ?_
  refine bk_if_ne (tgt := 14) dX5_houseOf_8 (by decide) (fun c8 => ?_) (fun c8 => ?_)
  · replace h := h c8
    refine ev_iload_n dX5_houseOf_14 rfl rfl ?_
    refine bk_cases (fun c15_0 => ?_) (fun c15_0 => ?_)
    · refine ev_tab_k (k := 0) (tgt := 60) dX5_houseOf_15 c15_0 (by decide) (by decide) (by decide) rfl (by decide) ?_
      refine ev_aload_n dX5_houseOf_60 rfl rfl rfl ?_
      refine ev_get 5 0 fl_RX5_10 (NL_g0 V) rfl dX5_houseOf_61 ?_
      refine ev_iload_n dX5_houseOf_64 rfl rfl ?_
      refine bk_callV (As := [.int v1]) (st := []) (st2 := [.int (f_X2_isIn C v1)]) (M2 := hn C off dear proved Dg dw nw J bef mov nxt chn tol tw nu sw ss giv sE P pn) ok_X2_isIn lk_RX5_95 (ng_rok.of rfl rfl) (NL_g1 V) rfl rfl rfl rfl rfl rfl dX5_houseOf_65 (m_X2_isIn (NL_RS V) trivial) rfl rfl ?_
      refine bk_if_eq (tgt := 75) dX5_houseOf_68 (by decide) (fun c68 => ?_) (fun c68 => ?_)
      · refine ev_iconst (v := nI 0) dX5_houseOf_75 (by decide) ?_
        exact ev_iret rfl rfl dX5_houseOf_76
      · refine ev_iconst (v := nI 1) dX5_houseOf_71 (by decide) ?_
        refine ev_goto (tgt := 76) dX5_houseOf_72 (by decide) ?_
        exact ev_iret rfl rfl dX5_houseOf_76
    · replace h := h c15_0
      refine bk_cases (fun c15_1 => ?_) (fun c15_1 => ?_)
      · replace h := h.1 c15_1
        refine ev_tab_k (k := 1) (tgt := 77) dX5_houseOf_15 c15_1 (by decide) (by decide) (by decide) rfl (by decide) ?_
        refine ev_aload_n dX5_houseOf_77 rfl rfl rfl ?_
        refine ev_get 5 0 fl_RX5_10 (NL_g0 V) rfl dX5_houseOf_78 ?_
        refine ev_get 2 14 fl_RX5_201 (NL_g1 V) rfl dX5_houseOf_81 ?_
        refine ev_iload_n dX5_houseOf_84 rfl rfl ?_
        have hi85 := h
        refine ev_iald (NL_g2 V) hi85 dX5_houseOf_85 ?_
        exact ev_iret rfl rfl dX5_houseOf_86
      · replace h := h.2 c15_1
        refine bk_cases (fun c15_2 => ?_) (fun c15_2 => ?_)
        · refine ev_tab_k (k := 2) (tgt := 87) dX5_houseOf_15 c15_2 (by decide) (by decide) (by decide) rfl (by decide) ?_
          refine ev_aload_n dX5_houseOf_87 rfl rfl rfl ?_
          refine ev_get 5 0 fl_RX5_10 (NL_g0 V) rfl dX5_houseOf_88 ?_
          refine ev_iload_n dX5_houseOf_91 rfl rfl ?_
          refine bk_callV (As := [.int v1]) (st := []) (st2 := [.int (f_X2_isOnce C v1)]) (M2 := hn C off dear proved Dg dw nw J bef mov nxt chn tol tw nu sw ss giv sE P pn) ok_X2_isOnce lk_RX5_204 (ng_rok.of rfl rfl) (NL_g1 V) rfl rfl rfl rfl rfl rfl dX5_houseOf_92 (m_X2_isOnce (NL_RS V) trivial) rfl rfl ?_
          refine bk_if_eq (tgt := 102) dX5_houseOf_95 (by decide) (fun c95 => ?_) (fun c95 => ?_)
          · refine ev_iconst (v := nI 0) dX5_houseOf_102 (by decide) ?_
            exact ev_iret rfl rfl dX5_houseOf_103
          · refine ev_iconst (v := nI 1) dX5_houseOf_98 (by decide) ?_
            refine ev_goto (tgt := 103) dX5_houseOf_99 (by decide) ?_
            exact ev_iret rfl rfl dX5_houseOf_103
        · replace h := h c15_2
          refine bk_cases (fun c15_3 => ?_) (fun c15_3 => ?_)
          · replace h := h.1 c15_3
            refine ev_tab_k (k := 3) (tgt := 104) dX5_houseOf_15 c15_3 (by decide) (by decide) (by decide) rfl (by decide) ?_
            refine ev_aload_n dX5_houseOf_104 rfl rfl rfl ?_
            refine ev_get 5 0 fl_RX5_10 (NL_g0 V) rfl dX5_houseOf_105 ?_
            refine ev_get 2 15 fl_RX5_207 (NL_g1 V) rfl dX5_houseOf_108 ?_
            refine ev_iload_n dX5_houseOf_111 rfl rfl ?_
            have hi112 := h
            refine ev_iald (NL_g3 V) hi112 dX5_houseOf_112 ?_
            exact ev_iret rfl rfl dX5_houseOf_113
          · replace h := h.2 c15_3
            refine bk_cases (fun c15_4 => ?_) (fun c15_4 => ?_)
            · replace h := h.1 c15_4
              refine ev_tab_k (k := 4) (tgt := 114) dX5_houseOf_15 c15_4 (by decide) (by decide) (by decide) rfl (by decide) ?_
              refine ev_aload_n dX5_houseOf_114 rfl rfl rfl ?_
              refine ev_get 5 2 fl_RX5_28 (NL_g0 V) rfl dX5_houseOf_115 ?_
              refine ev_iload_n dX5_houseOf_118 rfl rfl ?_
              refine ev_iconst (v := nI 0) dX5_houseOf_119 (by decide) ?_
              have hs120 := h
              refine bk_callV (As := [.int v1, .int (nI 0)]) (st := []) (st2 := [.int (f_X4_houseWord nw v1 (nI 0))]) (M2 := hn C off dear proved Dg dw nw J bef mov nxt chn tol tw nu sw ss giv sE P pn) ok_X4_houseWord lk_RX5_210 (ng_rok.of rfl rfl) (NL_g7 V) rfl rfl rfl rfl rfl rfl dX5_houseOf_120 (m_X4_houseWord (NL_R7 V) hs120) rfl rfl ?_
              exact ev_iret rfl rfl dX5_houseOf_123
            · replace h := h.2 c15_4
              refine bk_cases (fun c15_5 => ?_) (fun c15_5 => ?_)
              · replace h := h.1 c15_5
                refine ev_tab_k (k := 5) (tgt := 124) dX5_houseOf_15 c15_5 (by decide) (by decide) (by decide) rfl (by decide) ?_
                refine ev_aload_n dX5_houseOf_124 rfl rfl rfl ?_
                refine ev_get 5 2 fl_RX5_28 (NL_g0 V) rfl dX5_houseOf_125 ?_
                refine ev_iload_n dX5_houseOf_128 rfl rfl ?_
                refine ev_iconst (v := nI 1) dX5_houseOf_129 (by decide) ?_
                have hs130 := h
                refine bk_callV (As := [.int v1, .int (nI 1)]) (st := []) (st2 := [.int (f_X4_houseWord nw v1 (nI 1))]) (M2 := hn C off dear proved Dg dw nw J bef mov nxt chn tol tw nu sw ss giv sE P pn) ok_X4_houseWord lk_RX5_210 (ng_rok.of rfl rfl) (NL_g7 V) rfl rfl rfl rfl rfl rfl dX5_houseOf_130 (m_X4_houseWord (NL_R7 V) hs130) rfl rfl ?_
                exact ev_iret rfl rfl dX5_houseOf_133
              · replace h := h.2 c15_5
                refine bk_cases (fun c15_6 => ?_) (fun c15_6 => ?_)
                · replace h := h.1 c15_6
                  refine ev_tab_k (k := 6) (tgt := 134) dX5_houseOf_15 c15_6 (by decide) (by decide) (by decide) rfl (by decide) ?_
                  refine ev_aload_n dX5_houseOf_134 rfl rfl rfl ?_
                  refine ev_get 5 2 fl_RX5_28 (NL_g0 V) rfl dX5_houseOf_135 ?_
                  refine ev_iload_n dX5_houseOf_138 rfl rfl ?_
                  refine ev_iconst (v := nI 2) dX5_houseOf_139 (by decide) ?_
                  have hs140 := h
                  refine bk_callV (As := [.int v1, .int (nI 2)]) (st := []) (st2 := [.int (f_X4_houseWord nw v1 (nI 2))]) (M2 := hn C off dear proved Dg dw nw J bef mov nxt chn tol tw nu sw ss giv sE P pn) ok_X4_houseWord lk_RX5_210 (ng_rok.of rfl rfl) (NL_g7 V) rfl rfl rfl rfl rfl rfl dX5_houseOf_140 (m_X4_houseWord (NL_R7 V) hs140) rfl rfl ?_
                  exact ev_iret rfl rfl dX5_houseOf_143
                · replace h := h.2 c15_6
                  refine bk_cases (fun c15_7 => ?_) (fun c15_7 => ?_)
                  · replace h := h c15_7
                    refine ev_tab_k (k := 7) (tgt := 144) dX5_houseOf_15 c15_7 (by decide) (by decide) (by decide) rfl (by decide) ?_
                    refine ev_aload_n dX5_houseOf_144 rfl rfl rfl ?_
                    refine ev_get 5 2 fl_RX5_28 (NL_g0 V) rfl dX5_houseOf_145 ?_
                    refine bk_callV (As := []) (st := []) (st2 := [.int (f_X4_time nw)]) (M2 := hn C off dear proved Dg dw nw J bef mov nxt chn tol tw nu sw ss giv sE P pn) ok_X4_time lk_RX5_115 (ng_rok.of rfl rfl) (NL_g7 V) rfl rfl rfl rfl rfl rfl dX5_houseOf_148 (m_X4_time (NL_R7 V) trivial) rfl rfl ?_
                    refine ev_aload_n dX5_houseOf_151 rfl rfl rfl ?_
                    refine ev_get 5 0 fl_RX5_10 (NL_g0 V) rfl dX5_houseOf_152 ?_
                    refine ev_get 2 14 fl_RX5_201 (NL_g1 V) rfl dX5_houseOf_155 ?_
                    refine ev_iload_n dX5_houseOf_158 rfl rfl ?_
                    have hi159 := h
                    refine ev_iald (NL_g2 V) hi159 dX5_houseOf_159 ?_
                    refine ev_iadd dX5_houseOf_160 ?_
                    exact ev_iret rfl rfl dX5_houseOf_161
                  · refine ev_tab_d (hi := 7) (tgt := 162) (m := 7) dX5_houseOf_15 rfl (fun q hq => match q, hq with | 0, _ => c15_0 | 1, _ => c15_1 | 2, _ => c15_2 | 3, _ => c15_3 | 4, _ => c15_4 | 5, _ => c15_5 | 6, _ => c15_6 | 7, _ => c15_7 | (q + 8), hq => absurd hq (by omega)) (by decide) ?_
                    refine ev_bipush (v := (-100)) dX5_houseOf_162 (by decide) ?_
                    exact ev_iret rfl rfl dX5_houseOf_164
  · refine ev_bipush (v := (-100)) dX5_houseOf_11 (by decide) ?_
    exact ev_iret rfl rfl dX5_houseOf_13
theorem m_X5_houseOf {G : ng_GG} {hn : (Nat → Int32) → (Nat → Int32) → (Nat → Int32) → (Nat → Int32) → (Nat → Int32) → (Nat → Int32) → (Nat → Int32) → (Nat → Int32) → (Nat → Int32) → (Nat → Int32) → (Nat → Int32) → (Nat → Int32) → (Nat → Int32) → (Nat → Int32) → (Nat → Nat → Int64) → (Nat → Int32) → (Nat → Int32) → (Nat → Int32) → Int32 → (Nat → Nat → Int32) → Nat → ng_AM}  (V : ng_NL hn ) {C : Nat → Int32} {off : Nat → Int32} {dear : Nat → Int32} {proved : Nat → Int32} {Dg : Nat → Int32} {dw : Nat → Int32} {nw : Nat → Int32} {J : Nat → Int32} {bef : Nat → Int32} {mov : Nat → Int32} {nxt : Nat → Int32} {chn : Nat → Int32} {tol : Nat → Int32} {tw : Nat → Int32} {nu : Nat → Nat → Int64} {sw : Nat → Int32} {ss : Nat → Int32} {giv : Nat → Int32} {sE : Int32} {P : Nat → Nat → Int32} {pn : Nat} {v1 : Int32} {v2 : Int32} (h : s_X5_houseOf C off dear nw v1 v2)  : ng_Ev G md_X5_houseOf 0 (ng_en 3 [.ref 0, .int v1, .int v2]) [] (hn C off dear proved Dg dw nw J bef mov nxt chn tol tw nu sw ss giv sE P pn) (K_X5_houseOf hn C off dear proved Dg dw nw J bef mov nxt chn tol tw nu sw ss giv sE P pn (f_X5_houseOf C off dear nw v1 v2)) := e_X5_houseOf V h 
def K_X5_browser (hn : (Nat → Int32) → (Nat → Int32) → (Nat → Int32) → (Nat → Int32) → (Nat → Int32) → (Nat → Int32) → (Nat → Int32) → (Nat → Int32) → (Nat → Int32) → (Nat → Int32) → (Nat → Int32) → (Nat → Int32) → (Nat → Int32) → (Nat → Int32) → (Nat → Nat → Int64) → (Nat → Int32) → (Nat → Int32) → (Nat → Int32) → Int32 → (Nat → Nat → Int32) → Nat → ng_AM) (C : Nat → Int32) (off : Nat → Int32) (dear : Nat → Int32) (proved : Nat → Int32) (Dg : Nat → Int32) (dw : Nat → Int32) (nw : Nat → Int32) (J : Nat → Int32) (bef : Nat → Int32) (mov : Nat → Int32) (nxt : Nat → Int32) (chn : Nat → Int32) (tol : Nat → Int32) (tw : Nat → Int32) (nu : Nat → Nat → Int64) (sw : Nat → Int32) (ss : Nat → Int32) (giv : Nat → Int32) (sE : Int32) (P : Nat → Nat → Int32) (pn : Nat) (r : Int32) : ng_RR := (some (.int (r)), hn C off dear proved Dg dw nw J bef mov nxt chn tol tw nu sw ss giv sE P pn)
def f_X5_browser  (proved : Nat → Int32) (nw : Nat → Int32) (v1 : Int32) (v2 : Int32) : Int32 := (if (f_X5_isBrowser v1) = 0 then (-2) else (if v2 = nI 0 then (proved v1.toNatClampNeg) else (if v2 = nI 1 then (f_X4_pairOf nw v1) else (if v2 = nI 2 then (f_X4_knownPair nw v1) else (-2)))))
def s_X5_browser  (proved : Nat → Int32) (nw : Nat → Int32) (v1 : Int32) (v2 : Int32) : Prop := (¬ (f_X5_isBrowser v1) = 0 → ((v2 = nI 0 → vp_in v1 5) ∧ (¬ v2 = nI 0 → ((v2 = nI 1 → s_X4_pairOf nw v1) ∧ (¬ v2 = nI 1 → (v2 = nI 2 → s_X4_knownPair nw v1))))))
set_option maxRecDepth 100000 in
set_option maxHeartbeats 4000000 in
theorem e_X5_browser {G : ng_GG} {hn : (Nat → Int32) → (Nat → Int32) → (Nat → Int32) → (Nat → Int32) → (Nat → Int32) → (Nat → Int32) → (Nat → Int32) → (Nat → Int32) → (Nat → Int32) → (Nat → Int32) → (Nat → Int32) → (Nat → Int32) → (Nat → Int32) → (Nat → Int32) → (Nat → Nat → Int64) → (Nat → Int32) → (Nat → Int32) → (Nat → Int32) → Int32 → (Nat → Nat → Int32) → Nat → ng_AM}  (V : ng_NL hn ) {C : Nat → Int32} {off : Nat → Int32} {dear : Nat → Int32} {proved : Nat → Int32} {Dg : Nat → Int32} {dw : Nat → Int32} {nw : Nat → Int32} {J : Nat → Int32} {bef : Nat → Int32} {mov : Nat → Int32} {nxt : Nat → Int32} {chn : Nat → Int32} {tol : Nat → Int32} {tw : Nat → Int32} {nu : Nat → Nat → Int64} {sw : Nat → Int32} {ss : Nat → Int32} {giv : Nat → Int32} {sE : Int32} {P : Nat → Nat → Int32} {pn : Nat}  {v1 : Int32} {v2 : Int32} (h : s_X5_browser  proved nw v1 v2)  : ng_Ev G md_X5_browser 0 [some (.ref 0), some (.int v1), some (.int v2)] [] (hn C off dear proved Dg dw nw J bef mov nxt chn tol tw nu sw ss giv sE P pn) (K_X5_browser hn C off dear proved Dg dw nw J bef mov nxt chn tol tw nu sw ss giv sE P pn (f_X5_browser  proved nw v1 v2)) := by
  unfold s_X5_browser at h
  unfold f_X5_browser
  refine ev_iload_n dX5_browser_0 rfl rfl ?_
  refine bk_callS (As := [.int v1]) (st := []) (st2 := [.int (f_X5_isBrowser v1)]) (M2 := hn C off dear proved Dg dw nw J bef mov nxt chn tol tw nu sw ss giv sE P pn) ok_X5_isBrowser lk_RX5_109 (ng_rok.of rfl rfl) rfl rfl rfl rfl dX5_browser_1 (m_X5_isBrowser trivial) rfl rfl ?_
  refine bk_if_ne (tgt := 10) dX5_browser_4 (by decide) (fun c4 => ?_) (fun c4 => ?_)
  · replace h := h c4
    refine ev_iload_n dX5_browser_10 rfl rfl ?_
    refine bk_cases (fun c11_0 => ?_) (fun c11_0 => ?_)
    · replace h := h.1 c11_0
      refine ev_tab_k (k := 0) (tgt := 36) dX5_browser_11 c11_0 (by decide) (by decide) (by decide) rfl (by decide) ?_
      refine ev_aload_n dX5_browser_36 rfl rfl rfl ?_
      refine ev_get 5 0 fl_RX5_10 (NL_g0 V) rfl dX5_browser_37 ?_
      refine ev_get 2 16 fl_RX5_112 (NL_g1 V) rfl dX5_browser_40 ?_
      refine ev_iload_n dX5_browser_43 rfl rfl ?_
      have hi44 := h
      refine ev_iald (NL_g4 V) hi44 dX5_browser_44 ?_
      exact ev_iret rfl rfl dX5_browser_45
    · replace h := h.2 c11_0
      refine bk_cases (fun c11_1 => ?_) (fun c11_1 => ?_)
      · replace h := h.1 c11_1
        refine ev_tab_k (k := 1) (tgt := 46) dX5_browser_11 c11_1 (by decide) (by decide) (by decide) rfl (by decide) ?_
        refine ev_aload_n dX5_browser_46 rfl rfl rfl ?_
        refine ev_get 5 2 fl_RX5_28 (NL_g0 V) rfl dX5_browser_47 ?_
        refine ev_iload_n dX5_browser_50 rfl rfl ?_
        have hs51 := h
        refine bk_callV (As := [.int v1]) (st := []) (st2 := [.int (f_X4_pairOf nw v1)]) (M2 := hn C off dear proved Dg dw nw J bef mov nxt chn tol tw nu sw ss giv sE P pn) ok_X4_pairOf lk_RX5_213 (ng_rok.of rfl rfl) (NL_g7 V) rfl rfl rfl rfl rfl rfl dX5_browser_51 (m_X4_pairOf (NL_R7 V) hs51) rfl rfl ?_
        exact ev_iret rfl rfl dX5_browser_54
      · replace h := h.2 c11_1
        refine bk_cases (fun c11_2 => ?_) (fun c11_2 => ?_)
        · replace h := h c11_2
          refine ev_tab_k (k := 2) (tgt := 55) dX5_browser_11 c11_2 (by decide) (by decide) (by decide) rfl (by decide) ?_
          refine ev_aload_n dX5_browser_55 rfl rfl rfl ?_
          refine ev_get 5 2 fl_RX5_28 (NL_g0 V) rfl dX5_browser_56 ?_
          refine ev_iload_n dX5_browser_59 rfl rfl ?_
          have hs60 := h
          refine bk_callV (As := [.int v1]) (st := []) (st2 := [.int (f_X4_knownPair nw v1)]) (M2 := hn C off dear proved Dg dw nw J bef mov nxt chn tol tw nu sw ss giv sE P pn) ok_X4_knownPair lk_RX5_156 (ng_rok.of rfl rfl) (NL_g7 V) rfl rfl rfl rfl rfl rfl dX5_browser_60 (m_X4_knownPair (NL_R7 V) hs60) rfl rfl ?_
          exact ev_iret rfl rfl dX5_browser_63
        · refine ev_tab_d (hi := 2) (tgt := 64) (m := 2) dX5_browser_11 rfl (fun q hq => match q, hq with | 0, _ => c11_0 | 1, _ => c11_1 | 2, _ => c11_2 | (q + 3), hq => absurd hq (by omega)) (by decide) ?_
          refine ev_bipush (v := (-2)) dX5_browser_64 (by decide) ?_
          exact ev_iret rfl rfl dX5_browser_66
  · refine ev_bipush (v := (-2)) dX5_browser_7 (by decide) ?_
    exact ev_iret rfl rfl dX5_browser_9
theorem m_X5_browser {G : ng_GG} {hn : (Nat → Int32) → (Nat → Int32) → (Nat → Int32) → (Nat → Int32) → (Nat → Int32) → (Nat → Int32) → (Nat → Int32) → (Nat → Int32) → (Nat → Int32) → (Nat → Int32) → (Nat → Int32) → (Nat → Int32) → (Nat → Int32) → (Nat → Int32) → (Nat → Nat → Int64) → (Nat → Int32) → (Nat → Int32) → (Nat → Int32) → Int32 → (Nat → Nat → Int32) → Nat → ng_AM}  (V : ng_NL hn ) {C : Nat → Int32} {off : Nat → Int32} {dear : Nat → Int32} {proved : Nat → Int32} {Dg : Nat → Int32} {dw : Nat → Int32} {nw : Nat → Int32} {J : Nat → Int32} {bef : Nat → Int32} {mov : Nat → Int32} {nxt : Nat → Int32} {chn : Nat → Int32} {tol : Nat → Int32} {tw : Nat → Int32} {nu : Nat → Nat → Int64} {sw : Nat → Int32} {ss : Nat → Int32} {giv : Nat → Int32} {sE : Int32} {P : Nat → Nat → Int32} {pn : Nat} {v1 : Int32} {v2 : Int32} (h : s_X5_browser proved nw v1 v2)  : ng_Ev G md_X5_browser 0 (ng_en 3 [.ref 0, .int v1, .int v2]) [] (hn C off dear proved Dg dw nw J bef mov nxt chn tol tw nu sw ss giv sE P pn) (K_X5_browser hn C off dear proved Dg dw nw J bef mov nxt chn tol tw nu sw ss giv sE P pn (f_X5_browser proved nw v1 v2)) := e_X5_browser V h 
def K_X5_log (hn : (Nat → Int32) → (Nat → Int32) → (Nat → Int32) → (Nat → Int32) → (Nat → Int32) → (Nat → Int32) → (Nat → Int32) → (Nat → Int32) → (Nat → Int32) → (Nat → Int32) → (Nat → Int32) → (Nat → Int32) → (Nat → Int32) → (Nat → Int32) → (Nat → Nat → Int64) → (Nat → Int32) → (Nat → Int32) → (Nat → Int32) → Int32 → (Nat → Nat → Int32) → Nat → ng_AM) (C : Nat → Int32) (off : Nat → Int32) (dear : Nat → Int32) (proved : Nat → Int32) (Dg : Nat → Int32) (dw : Nat → Int32) (nw : Nat → Int32) (J : Nat → Int32) (bef : Nat → Int32) (mov : Nat → Int32) (nxt : Nat → Int32) (chn : Nat → Int32) (tol : Nat → Int32) (tw : Nat → Int32) (nu : Nat → Nat → Int64) (sw : Nat → Int32) (ss : Nat → Int32) (giv : Nat → Int32) (sE : Int32) (P : Nat → Nat → Int32) (pn : Nat) (r : Int32) : ng_RR := (some (.int (r)), hn C off dear proved Dg dw nw J bef mov nxt chn tol tw nu sw ss giv sE P pn)
def f_X5_log  (Dg : Nat → Int32) (dw : Nat → Int32) (v1 : Int32) (v2 : Int32) : Int32 := (if (f_X5_within v1 (nI 0) ((Dg 1) - (nI 1))) = 0 then (-2) else (if (f_X5_within v2 (nI 0) (nI 5)) = 0 then (-2) else (f_X0_word Dg dw v1 v2)))
def s_X5_log  (Dg : Nat → Int32) (dw : Nat → Int32) (v1 : Int32) (v2 : Int32) : Prop := (¬ (f_X5_within v1 (nI 0) ((Dg 1) - (nI 1))) = 0 → (¬ (f_X5_within v2 (nI 0) (nI 5)) = 0 → s_X0_word Dg dw v1 v2))
set_option maxRecDepth 100000 in
set_option maxHeartbeats 4000000 in
theorem e_X5_log {G : ng_GG} {hn : (Nat → Int32) → (Nat → Int32) → (Nat → Int32) → (Nat → Int32) → (Nat → Int32) → (Nat → Int32) → (Nat → Int32) → (Nat → Int32) → (Nat → Int32) → (Nat → Int32) → (Nat → Int32) → (Nat → Int32) → (Nat → Int32) → (Nat → Int32) → (Nat → Nat → Int64) → (Nat → Int32) → (Nat → Int32) → (Nat → Int32) → Int32 → (Nat → Nat → Int32) → Nat → ng_AM}  (V : ng_NL hn ) {C : Nat → Int32} {off : Nat → Int32} {dear : Nat → Int32} {proved : Nat → Int32} {Dg : Nat → Int32} {dw : Nat → Int32} {nw : Nat → Int32} {J : Nat → Int32} {bef : Nat → Int32} {mov : Nat → Int32} {nxt : Nat → Int32} {chn : Nat → Int32} {tol : Nat → Int32} {tw : Nat → Int32} {nu : Nat → Nat → Int64} {sw : Nat → Int32} {ss : Nat → Int32} {giv : Nat → Int32} {sE : Int32} {P : Nat → Nat → Int32} {pn : Nat}  {v1 : Int32} {v2 : Int32} (h : s_X5_log  Dg dw v1 v2)  : ng_Ev G md_X5_log 0 [some (.ref 0), some (.int v1), some (.int v2)] [] (hn C off dear proved Dg dw nw J bef mov nxt chn tol tw nu sw ss giv sE P pn) (K_X5_log hn C off dear proved Dg dw nw J bef mov nxt chn tol tw nu sw ss giv sE P pn (f_X5_log  Dg dw v1 v2)) := by
  unfold s_X5_log at h
  unfold f_X5_log
  refine ev_iload_n dX5_log_0 rfl rfl ?_
  refine ev_iconst (v := nI 0) dX5_log_1 (by decide) ?_
  refine ev_aload_n dX5_log_2 rfl rfl rfl ?_
  refine ev_get 5 1 fl_RX5_19 (NL_g0 V) rfl dX5_log_3 ?_
  refine ev_get 0 1 fl_RX5_216 (NL_g5 V) rfl dX5_log_6 ?_
  refine ev_iconst (v := nI 1) dX5_log_9 (by decide) ?_
  refine ev_isub dX5_log_10 ?_
  refine bk_callS (As := [.int v1, .int (nI 0), .int ((Dg 1) - (nI 1))]) (st := []) (st2 := [.int (f_X5_within v1 (nI 0) ((Dg 1) - (nI 1)))]) (M2 := hn C off dear proved Dg dw nw J bef mov nxt chn tol tw nu sw ss giv sE P pn) ok_X5_within lk_RX5_56 (ng_rok.of rfl rfl) rfl rfl rfl rfl dX5_log_11 (m_X5_within trivial) rfl rfl ?_
  refine bk_if_eq (tgt := 26) dX5_log_14 (by decide) (fun c14 => ?_) (fun c14 => ?_)
  · refine ev_bipush (v := (-2)) dX5_log_26 (by decide) ?_
    exact ev_iret rfl rfl dX5_log_28
  · replace h := h c14
    refine ev_iload_n dX5_log_17 rfl rfl ?_
    refine ev_iconst (v := nI 0) dX5_log_18 (by decide) ?_
    refine ev_iconst (v := nI 5) dX5_log_19 (by decide) ?_
    refine bk_callS (As := [.int v2, .int (nI 0), .int (nI 5)]) (st := []) (st2 := [.int (f_X5_within v2 (nI 0) (nI 5))]) (M2 := hn C off dear proved Dg dw nw J bef mov nxt chn tol tw nu sw ss giv sE P pn) ok_X5_within lk_RX5_56 (ng_rok.of rfl rfl) rfl rfl rfl rfl dX5_log_20 (m_X5_within trivial) rfl rfl ?_
    refine bk_if_ne (tgt := 29) dX5_log_23 (by decide) (fun c23 => ?_) (fun c23 => ?_)
    · replace h := h c23
      refine ev_aload_n dX5_log_29 rfl rfl rfl ?_
      refine ev_get 5 1 fl_RX5_19 (NL_g0 V) rfl dX5_log_30 ?_
      refine ev_iload_n dX5_log_33 rfl rfl ?_
      refine ev_iload_n dX5_log_34 rfl rfl ?_
      have hs35 := h
      refine bk_callV (As := [.int v1, .int v2]) (st := []) (st2 := [.int (f_X0_word Dg dw v1 v2)]) (M2 := hn C off dear proved Dg dw nw J bef mov nxt chn tol tw nu sw ss giv sE P pn) ok_X0_word lk_RX5_219 (ng_rok.of rfl rfl) (NL_g5 V) rfl rfl rfl rfl rfl rfl dX5_log_35 (m_X0_word (NL_RD V) hs35) rfl rfl ?_
      exact ev_iret rfl rfl dX5_log_38
    · refine ev_bipush (v := (-2)) dX5_log_26 (by decide) ?_
      exact ev_iret rfl rfl dX5_log_28
theorem m_X5_log {G : ng_GG} {hn : (Nat → Int32) → (Nat → Int32) → (Nat → Int32) → (Nat → Int32) → (Nat → Int32) → (Nat → Int32) → (Nat → Int32) → (Nat → Int32) → (Nat → Int32) → (Nat → Int32) → (Nat → Int32) → (Nat → Int32) → (Nat → Int32) → (Nat → Int32) → (Nat → Nat → Int64) → (Nat → Int32) → (Nat → Int32) → (Nat → Int32) → Int32 → (Nat → Nat → Int32) → Nat → ng_AM}  (V : ng_NL hn ) {C : Nat → Int32} {off : Nat → Int32} {dear : Nat → Int32} {proved : Nat → Int32} {Dg : Nat → Int32} {dw : Nat → Int32} {nw : Nat → Int32} {J : Nat → Int32} {bef : Nat → Int32} {mov : Nat → Int32} {nxt : Nat → Int32} {chn : Nat → Int32} {tol : Nat → Int32} {tw : Nat → Int32} {nu : Nat → Nat → Int64} {sw : Nat → Int32} {ss : Nat → Int32} {giv : Nat → Int32} {sE : Int32} {P : Nat → Nat → Int32} {pn : Nat} {v1 : Int32} {v2 : Int32} (h : s_X5_log Dg dw v1 v2)  : ng_Ev G md_X5_log 0 (ng_en 3 [.ref 0, .int v1, .int v2]) [] (hn C off dear proved Dg dw nw J bef mov nxt chn tol tw nu sw ss giv sE P pn) (K_X5_log hn C off dear proved Dg dw nw J bef mov nxt chn tol tw nu sw ss giv sE P pn (f_X5_log Dg dw v1 v2)) := e_X5_log V h 
def K_X5_where (hn : (Nat → Int32) → (Nat → Int32) → (Nat → Int32) → (Nat → Int32) → (Nat → Int32) → (Nat → Int32) → (Nat → Int32) → (Nat → Int32) → (Nat → Int32) → (Nat → Int32) → (Nat → Int32) → (Nat → Int32) → (Nat → Int32) → (Nat → Int32) → (Nat → Nat → Int64) → (Nat → Int32) → (Nat → Int32) → (Nat → Int32) → Int32 → (Nat → Nat → Int32) → Nat → ng_AM) (C : Nat → Int32) (off : Nat → Int32) (dear : Nat → Int32) (proved : Nat → Int32) (Dg : Nat → Int32) (dw : Nat → Int32) (nw : Nat → Int32) (J : Nat → Int32) (bef : Nat → Int32) (mov : Nat → Int32) (nxt : Nat → Int32) (chn : Nat → Int32) (tol : Nat → Int32) (tw : Nat → Int32) (nu : Nat → Nat → Int64) (sw : Nat → Int32) (ss : Nat → Int32) (giv : Nat → Int32) (sE : Int32) (P : Nat → Nat → Int32) (pn : Nat) (r : Int32) : ng_RR := (some (.int (r)), hn C off dear proved Dg dw nw J bef mov nxt chn tol tw nu sw ss giv sE P pn)
def f_X5_where_103 (kk31 : (Nat → Int32) → (Nat → Int32) → (Nat → Int32) → (Nat → Int32) → Int32 → Int32 → Int32 → (Int32)) (C : Nat → Int32) (Dg : Nat → Int32) (dw : Nat → Int32) (nw : Nat → Int32) (v1 : Int32) (v2 : Int32) (v3 : Int32) : Int32 := kk31 C Dg dw nw v1 v2 (v3 + (-1))
def s_X5_where_103 (sk31 : (Nat → Int32) → (Nat → Int32) → (Nat → Int32) → (Nat → Int32) → Int32 → Int32 → Int32 → Prop) (C : Nat → Int32) (Dg : Nat → Int32) (dw : Nat → Int32) (nw : Nat → Int32) (v1 : Int32) (v2 : Int32) (v3 : Int32) : Prop := sk31 C Dg dw nw v1 v2 (v3 + (-1))
set_option maxRecDepth 100000 in
set_option maxHeartbeats 4000000 in
theorem e_X5_where_103 {G : ng_GG} {hn : (Nat → Int32) → (Nat → Int32) → (Nat → Int32) → (Nat → Int32) → (Nat → Int32) → (Nat → Int32) → (Nat → Int32) → (Nat → Int32) → (Nat → Int32) → (Nat → Int32) → (Nat → Int32) → (Nat → Int32) → (Nat → Int32) → (Nat → Int32) → (Nat → Nat → Int64) → (Nat → Int32) → (Nat → Int32) → (Nat → Int32) → Int32 → (Nat → Nat → Int32) → Nat → ng_AM}  (V : ng_NL hn ) {C : Nat → Int32} {off : Nat → Int32} {dear : Nat → Int32} {proved : Nat → Int32} {Dg : Nat → Int32} {dw : Nat → Int32} {nw : Nat → Int32} {J : Nat → Int32} {bef : Nat → Int32} {mov : Nat → Int32} {nxt : Nat → Int32} {chn : Nat → Int32} {tol : Nat → Int32} {tw : Nat → Int32} {nu : Nat → Nat → Int64} {sw : Nat → Int32} {ss : Nat → Int32} {giv : Nat → Int32} {sE : Int32} {P : Nat → Nat → Int32} {pn : Nat} {kk31 : (Nat → Int32) → (Nat → Int32) → (Nat → Int32) → (Nat → Int32) → Int32 → Int32 → Int32 → (Int32)} {sk31 : (Nat → Int32) → (Nat → Int32) → (Nat → Int32) → (Nat → Int32) → Int32 → Int32 → Int32 → Prop} (hk31 : ∀ (C : Nat → Int32) (off : Nat → Int32) (dear : Nat → Int32) (proved : Nat → Int32) (Dg : Nat → Int32) (dw : Nat → Int32) (nw : Nat → Int32) (J : Nat → Int32) (bef : Nat → Int32) (mov : Nat → Int32) (nxt : Nat → Int32) (chn : Nat → Int32) (tol : Nat → Int32) (tw : Nat → Int32) (nu : Nat → Nat → Int64) (sw : Nat → Int32) (ss : Nat → Int32) (giv : Nat → Int32) (sE : Int32) (P : Nat → Nat → Int32) (pn : Nat) (v1 : Int32) (v2 : Int32) (v3 : Int32), sk31 C Dg dw nw v1 v2 v3 → ng_Ev G md_X5_where 31 [some (.ref 0), some (.int v1), some (.int v2), some (.int v3), none] [] (hn C off dear proved Dg dw nw J bef mov nxt chn tol tw nu sw ss giv sE P pn) (K_X5_where hn C off dear proved Dg dw nw J bef mov nxt chn tol tw nu sw ss giv sE P pn (kk31 C Dg dw nw v1 v2 v3))) {v1 : Int32} {v2 : Int32} {v3 : Int32} (h : s_X5_where_103 sk31 C Dg dw nw v1 v2 v3)  : ng_Ev G md_X5_where 103 [some (.ref 0), some (.int v1), some (.int v2), some (.int v3), none] [] (hn C off dear proved Dg dw nw J bef mov nxt chn tol tw nu sw ss giv sE P pn) (K_X5_where hn C off dear proved Dg dw nw J bef mov nxt chn tol tw nu sw ss giv sE P pn (f_X5_where_103 kk31 C Dg dw nw v1 v2 v3)) := by
  unfold s_X5_where_103 at h
  unfold f_X5_where_103
  refine ev_iinc (v := v3 + (-1)) (L' := [some (.ref 0), some (.int v1), some (.int v2), some (.int (v3 + (-1))), none]) dX5_where_103 rfl (by rfl) rfl ?_
  refine ev_goto (tgt := 31) dX5_where_106 (by decide) ?_
  exact ev_sub (hk31 C off dear proved Dg dw nw J bef mov nxt chn tol tw nu sw ss giv sE P pn v1 v2 (v3 + (-1)) h) (sub_s (sub_s (sub_s (sub_s (sub_n sub_e)))))
def f_X5_where_65 (kk31 : (Nat → Int32) → (Nat → Int32) → (Nat → Int32) → (Nat → Int32) → Int32 → Int32 → Int32 → (Int32)) (C : Nat → Int32) (Dg : Nat → Int32) (dw : Nat → Int32) (nw : Nat → Int32) (v1 : Int32) (v2 : Int32) (v3 : Int32) (t0 : Int32) : Int32 := (if t0 = 0 then f_X5_where_103 kk31 C Dg dw nw v1 v2 v3 else (if (f_X4_noteWord nw (f_X0_word Dg dw v3 (nI 3)) (nI 1)) = v1 then (f_X0_word Dg dw v3 (nI 0)) else f_X5_where_103 kk31 C Dg dw nw v1 v2 v3))
def s_X5_where_65 (sk31 : (Nat → Int32) → (Nat → Int32) → (Nat → Int32) → (Nat → Int32) → Int32 → Int32 → Int32 → Prop) (C : Nat → Int32) (Dg : Nat → Int32) (dw : Nat → Int32) (nw : Nat → Int32) (v1 : Int32) (v2 : Int32) (v3 : Int32) (t0 : Int32) : Prop := ((t0 = 0 → s_X5_where_103 sk31 C Dg dw nw v1 v2 v3) ∧ (¬ t0 = 0 → (s_X0_word Dg dw v3 (nI 3) ∧ (s_X4_noteWord nw (f_X0_word Dg dw v3 (nI 3)) (nI 1) ∧ (((f_X4_noteWord nw (f_X0_word Dg dw v3 (nI 3)) (nI 1)) = v1 → s_X0_word Dg dw v3 (nI 0)) ∧ (¬ (f_X4_noteWord nw (f_X0_word Dg dw v3 (nI 3)) (nI 1)) = v1 → s_X5_where_103 sk31 C Dg dw nw v1 v2 v3))))))
set_option maxRecDepth 100000 in
set_option maxHeartbeats 4000000 in
theorem e_X5_where_65 {G : ng_GG} {hn : (Nat → Int32) → (Nat → Int32) → (Nat → Int32) → (Nat → Int32) → (Nat → Int32) → (Nat → Int32) → (Nat → Int32) → (Nat → Int32) → (Nat → Int32) → (Nat → Int32) → (Nat → Int32) → (Nat → Int32) → (Nat → Int32) → (Nat → Int32) → (Nat → Nat → Int64) → (Nat → Int32) → (Nat → Int32) → (Nat → Int32) → Int32 → (Nat → Nat → Int32) → Nat → ng_AM}  (V : ng_NL hn ) {C : Nat → Int32} {off : Nat → Int32} {dear : Nat → Int32} {proved : Nat → Int32} {Dg : Nat → Int32} {dw : Nat → Int32} {nw : Nat → Int32} {J : Nat → Int32} {bef : Nat → Int32} {mov : Nat → Int32} {nxt : Nat → Int32} {chn : Nat → Int32} {tol : Nat → Int32} {tw : Nat → Int32} {nu : Nat → Nat → Int64} {sw : Nat → Int32} {ss : Nat → Int32} {giv : Nat → Int32} {sE : Int32} {P : Nat → Nat → Int32} {pn : Nat} {kk31 : (Nat → Int32) → (Nat → Int32) → (Nat → Int32) → (Nat → Int32) → Int32 → Int32 → Int32 → (Int32)} {sk31 : (Nat → Int32) → (Nat → Int32) → (Nat → Int32) → (Nat → Int32) → Int32 → Int32 → Int32 → Prop} (hk31 : ∀ (C : Nat → Int32) (off : Nat → Int32) (dear : Nat → Int32) (proved : Nat → Int32) (Dg : Nat → Int32) (dw : Nat → Int32) (nw : Nat → Int32) (J : Nat → Int32) (bef : Nat → Int32) (mov : Nat → Int32) (nxt : Nat → Int32) (chn : Nat → Int32) (tol : Nat → Int32) (tw : Nat → Int32) (nu : Nat → Nat → Int64) (sw : Nat → Int32) (ss : Nat → Int32) (giv : Nat → Int32) (sE : Int32) (P : Nat → Nat → Int32) (pn : Nat) (v1 : Int32) (v2 : Int32) (v3 : Int32), sk31 C Dg dw nw v1 v2 v3 → ng_Ev G md_X5_where 31 [some (.ref 0), some (.int v1), some (.int v2), some (.int v3), none] [] (hn C off dear proved Dg dw nw J bef mov nxt chn tol tw nu sw ss giv sE P pn) (K_X5_where hn C off dear proved Dg dw nw J bef mov nxt chn tol tw nu sw ss giv sE P pn (kk31 C Dg dw nw v1 v2 v3))) {v1 : Int32} {v2 : Int32} {v3 : Int32} {t0 : Int32} (h : s_X5_where_65 sk31 C Dg dw nw v1 v2 v3 t0)  : ng_Ev G md_X5_where 65 [some (.ref 0), some (.int v1), some (.int v2), some (.int v3), none] [.int t0] (hn C off dear proved Dg dw nw J bef mov nxt chn tol tw nu sw ss giv sE P pn) (K_X5_where hn C off dear proved Dg dw nw J bef mov nxt chn tol tw nu sw ss giv sE P pn (f_X5_where_65 kk31 C Dg dw nw v1 v2 v3 t0)) := by
  unfold s_X5_where_65 at h
  unfold f_X5_where_65
  refine ev_istore (L' := [some (.ref 0), some (.int v1), some (.int v2), some (.int v3), some (.int t0)]) dX5_where_65 (ng_lt rfl) rfl ?_
  refine ev_iload dX5_where_67 rfl ?_
  refine bk_if_eq (tgt := 103) dX5_where_69 (by decide) (fun c69 => ?_) (fun c69 => ?_)
  · replace h := h.1 c69
    exact ev_sub (e_X5_where_103 V hk31 h) (sub_s (sub_s (sub_s (sub_s (sub_n sub_e)))))
  · replace h := h.2 c69
    refine ev_aload_n dX5_where_72 rfl rfl rfl ?_
    refine ev_get 5 2 fl_RX5_28 (NL_g0 V) rfl dX5_where_73 ?_
    refine ev_aload_n dX5_where_76 rfl rfl rfl ?_
    refine ev_get 5 1 fl_RX5_19 (NL_g0 V) rfl dX5_where_77 ?_
    refine ev_iload_n dX5_where_80 rfl rfl ?_
    refine ev_iconst (v := nI 3) dX5_where_81 (by decide) ?_
    have hs82 := h.1
    replace h := h.2
    refine bk_callV (As := [.int v3, .int (nI 3)]) (st := [.ref 7]) (st2 := [.int (f_X0_word Dg dw v3 (nI 3)), .ref 7]) (M2 := hn C off dear proved Dg dw nw J bef mov nxt chn tol tw nu sw ss giv sE P pn) ok_X0_word lk_RX5_219 (ng_rok.of rfl rfl) (NL_g5 V) rfl rfl rfl rfl rfl rfl dX5_where_82 (m_X0_word (NL_RD V) hs82) rfl rfl ?_
    refine ev_iconst (v := nI 1) dX5_where_85 (by decide) ?_
    have hs86 := h.1
    replace h := h.2
    refine bk_callV (As := [.int (f_X0_word Dg dw v3 (nI 3)), .int (nI 1)]) (st := []) (st2 := [.int (f_X4_noteWord nw (f_X0_word Dg dw v3 (nI 3)) (nI 1))]) (M2 := hn C off dear proved Dg dw nw J bef mov nxt chn tol tw nu sw ss giv sE P pn) ok_X4_noteWord lk_RX5_149 (ng_rok.of rfl rfl) (NL_g7 V) rfl rfl rfl rfl rfl rfl dX5_where_86 (m_X4_noteWord (NL_R7 V) hs86) rfl rfl ?_
    refine ev_iload_n dX5_where_89 rfl rfl ?_
    refine bk_icmp_ne (tgt := 103) dX5_where_90 (by decide) (fun c90 => ?_) (fun c90 => ?_)
    · replace h := h.2 c90
      exact ev_sub (e_X5_where_103 V hk31 h) (sub_s (sub_s (sub_s (sub_s (sub_n sub_e)))))
    · replace h := h.1 c90
      refine ev_aload_n dX5_where_93 rfl rfl rfl ?_
      refine ev_get 5 1 fl_RX5_19 (NL_g0 V) rfl dX5_where_94 ?_
      refine ev_iload_n dX5_where_97 rfl rfl ?_
      refine ev_iconst (v := nI 0) dX5_where_98 (by decide) ?_
      have hs99 := h
      refine bk_callV (As := [.int v3, .int (nI 0)]) (st := []) (st2 := [.int (f_X0_word Dg dw v3 (nI 0))]) (M2 := hn C off dear proved Dg dw nw J bef mov nxt chn tol tw nu sw ss giv sE P pn) ok_X0_word lk_RX5_219 (ng_rok.of rfl rfl) (NL_g5 V) rfl rfl rfl rfl rfl rfl dX5_where_99 (m_X0_word (NL_RD V) hs99) rfl rfl ?_
      exact ev_iret rfl rfl dX5_where_102
def f_X5_where_64 (kk31 : (Nat → Int32) → (Nat → Int32) → (Nat → Int32) → (Nat → Int32) → Int32 → Int32 → Int32 → (Int32)) (C : Nat → Int32) (Dg : Nat → Int32) (dw : Nat → Int32) (nw : Nat → Int32) (v1 : Int32) (v2 : Int32) (v3 : Int32) : Int32 := f_X5_where_65 kk31 C Dg dw nw v1 v2 v3 (nI 0)
def s_X5_where_64 (sk31 : (Nat → Int32) → (Nat → Int32) → (Nat → Int32) → (Nat → Int32) → Int32 → Int32 → Int32 → Prop) (C : Nat → Int32) (Dg : Nat → Int32) (dw : Nat → Int32) (nw : Nat → Int32) (v1 : Int32) (v2 : Int32) (v3 : Int32) : Prop := s_X5_where_65 sk31 C Dg dw nw v1 v2 v3 (nI 0)
set_option maxRecDepth 100000 in
set_option maxHeartbeats 4000000 in
theorem e_X5_where_64 {G : ng_GG} {hn : (Nat → Int32) → (Nat → Int32) → (Nat → Int32) → (Nat → Int32) → (Nat → Int32) → (Nat → Int32) → (Nat → Int32) → (Nat → Int32) → (Nat → Int32) → (Nat → Int32) → (Nat → Int32) → (Nat → Int32) → (Nat → Int32) → (Nat → Int32) → (Nat → Nat → Int64) → (Nat → Int32) → (Nat → Int32) → (Nat → Int32) → Int32 → (Nat → Nat → Int32) → Nat → ng_AM}  (V : ng_NL hn ) {C : Nat → Int32} {off : Nat → Int32} {dear : Nat → Int32} {proved : Nat → Int32} {Dg : Nat → Int32} {dw : Nat → Int32} {nw : Nat → Int32} {J : Nat → Int32} {bef : Nat → Int32} {mov : Nat → Int32} {nxt : Nat → Int32} {chn : Nat → Int32} {tol : Nat → Int32} {tw : Nat → Int32} {nu : Nat → Nat → Int64} {sw : Nat → Int32} {ss : Nat → Int32} {giv : Nat → Int32} {sE : Int32} {P : Nat → Nat → Int32} {pn : Nat} {kk31 : (Nat → Int32) → (Nat → Int32) → (Nat → Int32) → (Nat → Int32) → Int32 → Int32 → Int32 → (Int32)} {sk31 : (Nat → Int32) → (Nat → Int32) → (Nat → Int32) → (Nat → Int32) → Int32 → Int32 → Int32 → Prop} (hk31 : ∀ (C : Nat → Int32) (off : Nat → Int32) (dear : Nat → Int32) (proved : Nat → Int32) (Dg : Nat → Int32) (dw : Nat → Int32) (nw : Nat → Int32) (J : Nat → Int32) (bef : Nat → Int32) (mov : Nat → Int32) (nxt : Nat → Int32) (chn : Nat → Int32) (tol : Nat → Int32) (tw : Nat → Int32) (nu : Nat → Nat → Int64) (sw : Nat → Int32) (ss : Nat → Int32) (giv : Nat → Int32) (sE : Int32) (P : Nat → Nat → Int32) (pn : Nat) (v1 : Int32) (v2 : Int32) (v3 : Int32), sk31 C Dg dw nw v1 v2 v3 → ng_Ev G md_X5_where 31 [some (.ref 0), some (.int v1), some (.int v2), some (.int v3), none] [] (hn C off dear proved Dg dw nw J bef mov nxt chn tol tw nu sw ss giv sE P pn) (K_X5_where hn C off dear proved Dg dw nw J bef mov nxt chn tol tw nu sw ss giv sE P pn (kk31 C Dg dw nw v1 v2 v3))) {v1 : Int32} {v2 : Int32} {v3 : Int32} (h : s_X5_where_64 sk31 C Dg dw nw v1 v2 v3)  : ng_Ev G md_X5_where 64 [some (.ref 0), some (.int v1), some (.int v2), some (.int v3), none] [] (hn C off dear proved Dg dw nw J bef mov nxt chn tol tw nu sw ss giv sE P pn) (K_X5_where hn C off dear proved Dg dw nw J bef mov nxt chn tol tw nu sw ss giv sE P pn (f_X5_where_64 kk31 C Dg dw nw v1 v2 v3)) := by
  unfold s_X5_where_64 at h
  unfold f_X5_where_64
  refine ev_iconst (v := nI 0) dX5_where_64 (by decide) ?_
  exact ev_sub (e_X5_where_65 V hk31 h) (sub_s (sub_s (sub_s (sub_s (sub_n sub_e)))))
def f_X5_where_31  : Nat → (Nat → Int32) → (Nat → Int32) → (Nat → Int32) → (Nat → Int32) → Int32 → Int32 → Int32 → (Int32)
  | 0, _, _, _, _, _, _, _ => 0
  | n + 1, C, Dg, dw, nw, v1, v2, v3 => (if v3 < 0 then (-1) else (if (f_X0_word Dg dw v3 (nI 5)) = 0 then (if (f_X0_word Dg dw v3 (nI 1)) = v2 then f_X5_where_65 (f_X5_where_31 n) C Dg dw nw v1 v2 v3 (nI 1) else f_X5_where_64 (f_X5_where_31 n) C Dg dw nw v1 v2 v3) else f_X5_where_64 (f_X5_where_31 n) C Dg dw nw v1 v2 v3))
def s_X5_where_31  : Nat → (Nat → Int32) → (Nat → Int32) → (Nat → Int32) → (Nat → Int32) → Int32 → Int32 → Int32 → Prop
  | 0, _, _, _, _, _, _, _ => False
  | n + 1, C, Dg, dw, nw, v1, v2, v3 => (¬ v3 < 0 → (s_X0_word Dg dw v3 (nI 5) ∧ (((f_X0_word Dg dw v3 (nI 5)) = 0 → (s_X0_word Dg dw v3 (nI 1) ∧ (((f_X0_word Dg dw v3 (nI 1)) = v2 → s_X5_where_65 (s_X5_where_31 n) C Dg dw nw v1 v2 v3 (nI 1)) ∧ (¬ (f_X0_word Dg dw v3 (nI 1)) = v2 → s_X5_where_64 (s_X5_where_31 n) C Dg dw nw v1 v2 v3)))) ∧ (¬ (f_X0_word Dg dw v3 (nI 5)) = 0 → s_X5_where_64 (s_X5_where_31 n) C Dg dw nw v1 v2 v3))))
set_option maxRecDepth 100000 in
set_option maxHeartbeats 4000000 in
theorem e_X5_where_31 {G : ng_GG} {hn : (Nat → Int32) → (Nat → Int32) → (Nat → Int32) → (Nat → Int32) → (Nat → Int32) → (Nat → Int32) → (Nat → Int32) → (Nat → Int32) → (Nat → Int32) → (Nat → Int32) → (Nat → Int32) → (Nat → Int32) → (Nat → Int32) → (Nat → Int32) → (Nat → Nat → Int64) → (Nat → Int32) → (Nat → Int32) → (Nat → Int32) → Int32 → (Nat → Nat → Int32) → Nat → ng_AM}  (V : ng_NL hn )  : ∀ (n : Nat) (C : Nat → Int32) (off : Nat → Int32) (dear : Nat → Int32) (proved : Nat → Int32) (Dg : Nat → Int32) (dw : Nat → Int32) (nw : Nat → Int32) (J : Nat → Int32) (bef : Nat → Int32) (mov : Nat → Int32) (nxt : Nat → Int32) (chn : Nat → Int32) (tol : Nat → Int32) (tw : Nat → Int32) (nu : Nat → Nat → Int64) (sw : Nat → Int32) (ss : Nat → Int32) (giv : Nat → Int32) (sE : Int32) (P : Nat → Nat → Int32) (pn : Nat) (v1 : Int32) (v2 : Int32) (v3 : Int32), s_X5_where_31  n C Dg dw nw v1 v2 v3 → ng_Ev G md_X5_where 31 [some (.ref 0), some (.int v1), some (.int v2), some (.int v3), none] [] (hn C off dear proved Dg dw nw J bef mov nxt chn tol tw nu sw ss giv sE P pn) (K_X5_where hn C off dear proved Dg dw nw J bef mov nxt chn tol tw nu sw ss giv sE P pn (f_X5_where_31  n C Dg dw nw v1 v2 v3)) := by
  intro n
  induction n with
  | zero => intro C off dear proved Dg dw nw J bef mov nxt chn tol tw nu sw ss giv sE P pn v1 v2 v3 h; exact False.elim h
  | succ n ih =>
    intro C off dear proved Dg dw nw J bef mov nxt chn tol tw nu sw ss giv sE P pn v1 v2 v3 h 
    rw [s_X5_where_31] at h
    rw [f_X5_where_31]
    refine ev_iload_n dX5_where_31 rfl rfl ?_
    refine bk_if_lt (tgt := 109) dX5_where_32 (by decide) (fun c32 => ?_) (fun c32 => ?_)
    · refine ev_iconst (v := (-1)) dX5_where_109 (by decide) ?_
      exact ev_iret rfl rfl dX5_where_110
    · replace h := h c32
      refine ev_aload_n dX5_where_35 rfl rfl rfl ?_
      refine ev_get 5 1 fl_RX5_19 (NL_g0 V) rfl dX5_where_36 ?_
      refine ev_iload_n dX5_where_39 rfl rfl ?_
      refine ev_iconst (v := nI 5) dX5_where_40 (by decide) ?_
      have hs41 := h.1
      replace h := h.2
      refine bk_callV (As := [.int v3, .int (nI 5)]) (st := []) (st2 := [.int (f_X0_word Dg dw v3 (nI 5))]) (M2 := hn C off dear proved Dg dw nw J bef mov nxt chn tol tw nu sw ss giv sE P pn) ok_X0_word lk_RX5_219 (ng_rok.of rfl rfl) (NL_g5 V) rfl rfl rfl rfl rfl rfl dX5_where_41 (m_X0_word (NL_RD V) hs41) rfl rfl ?_
      refine bk_if_ne (tgt := 64) dX5_where_44 (by decide) (fun c44 => ?_) (fun c44 => ?_)
      · replace h := h.2 c44
        exact ev_sub (e_X5_where_64 V ih h) (sub_s (sub_s (sub_s (sub_s (sub_n sub_e)))))
      · replace h := h.1 c44
        refine ev_aload_n dX5_where_47 rfl rfl rfl ?_
        refine ev_get 5 1 fl_RX5_19 (NL_g0 V) rfl dX5_where_48 ?_
        refine ev_iload_n dX5_where_51 rfl rfl ?_
        refine ev_iconst (v := nI 1) dX5_where_52 (by decide) ?_
        have hs53 := h.1
        replace h := h.2
        refine bk_callV (As := [.int v3, .int (nI 1)]) (st := []) (st2 := [.int (f_X0_word Dg dw v3 (nI 1))]) (M2 := hn C off dear proved Dg dw nw J bef mov nxt chn tol tw nu sw ss giv sE P pn) ok_X0_word lk_RX5_219 (ng_rok.of rfl rfl) (NL_g5 V) rfl rfl rfl rfl rfl rfl dX5_where_53 (m_X0_word (NL_RD V) hs53) rfl rfl ?_
        refine ev_iload_n dX5_where_56 rfl rfl ?_
        refine bk_icmp_ne (tgt := 64) dX5_where_57 (by decide) (fun c57 => ?_) (fun c57 => ?_)
        · replace h := h.2 c57
          exact ev_sub (e_X5_where_64 V ih h) (sub_s (sub_s (sub_s (sub_s (sub_n sub_e)))))
        · replace h := h.1 c57
          refine ev_iconst (v := nI 1) dX5_where_60 (by decide) ?_
          refine ev_goto (tgt := 65) dX5_where_61 (by decide) ?_
          exact ev_sub (e_X5_where_65 V ih h) (sub_s (sub_s (sub_s (sub_s (sub_n sub_e)))))
def f_X5_where  (C : Nat → Int32) (Dg : Nat → Int32) (dw : Nat → Int32) (nw : Nat → Int32) (v1 : Int32) (v2 : Int32) : Int32 := (if (f_X5_isBrowser v1) = 0 then (-2) else (if (f_X2_isHouse C v2) = 0 then (-2) else f_X5_where_31 ng_F C Dg dw nw v1 v2 ((Dg 1) - (nI 1))))
def s_X5_where  (C : Nat → Int32) (Dg : Nat → Int32) (dw : Nat → Int32) (nw : Nat → Int32) (v1 : Int32) (v2 : Int32) : Prop := (¬ (f_X5_isBrowser v1) = 0 → (¬ (f_X2_isHouse C v2) = 0 → s_X5_where_31 ng_F C Dg dw nw v1 v2 ((Dg 1) - (nI 1))))
set_option maxRecDepth 100000 in
set_option maxHeartbeats 4000000 in
theorem e_X5_where {G : ng_GG} {hn : (Nat → Int32) → (Nat → Int32) → (Nat → Int32) → (Nat → Int32) → (Nat → Int32) → (Nat → Int32) → (Nat → Int32) → (Nat → Int32) → (Nat → Int32) → (Nat → Int32) → (Nat → Int32) → (Nat → Int32) → (Nat → Int32) → (Nat → Int32) → (Nat → Nat → Int64) → (Nat → Int32) → (Nat → Int32) → (Nat → Int32) → Int32 → (Nat → Nat → Int32) → Nat → ng_AM}  (V : ng_NL hn ) {C : Nat → Int32} {off : Nat → Int32} {dear : Nat → Int32} {proved : Nat → Int32} {Dg : Nat → Int32} {dw : Nat → Int32} {nw : Nat → Int32} {J : Nat → Int32} {bef : Nat → Int32} {mov : Nat → Int32} {nxt : Nat → Int32} {chn : Nat → Int32} {tol : Nat → Int32} {tw : Nat → Int32} {nu : Nat → Nat → Int64} {sw : Nat → Int32} {ss : Nat → Int32} {giv : Nat → Int32} {sE : Int32} {P : Nat → Nat → Int32} {pn : Nat}  {v1 : Int32} {v2 : Int32} (h : s_X5_where  C Dg dw nw v1 v2)  : ng_Ev G md_X5_where 0 [some (.ref 0), some (.int v1), some (.int v2), none, none] [] (hn C off dear proved Dg dw nw J bef mov nxt chn tol tw nu sw ss giv sE P pn) (K_X5_where hn C off dear proved Dg dw nw J bef mov nxt chn tol tw nu sw ss giv sE P pn (f_X5_where  C Dg dw nw v1 v2)) := by
  unfold s_X5_where at h
  unfold f_X5_where
  refine ev_iload_n dX5_where_0 rfl rfl ?_
  refine bk_callS (As := [.int v1]) (st := []) (st2 := [.int (f_X5_isBrowser v1)]) (M2 := hn C off dear proved Dg dw nw J bef mov nxt chn tol tw nu sw ss giv sE P pn) ok_X5_isBrowser lk_RX5_109 (ng_rok.of rfl rfl) rfl rfl rfl rfl dX5_where_1 (m_X5_isBrowser trivial) rfl rfl ?_
  refine bk_if_eq (tgt := 18) dX5_where_4 (by decide) (fun c4 => ?_) (fun c4 => ?_)
  · refine ev_bipush (v := (-2)) dX5_where_18 (by decide) ?_
    exact ev_iret rfl rfl dX5_where_20
  · replace h := h c4
    refine ev_aload_n dX5_where_7 rfl rfl rfl ?_
    refine ev_get 5 0 fl_RX5_10 (NL_g0 V) rfl dX5_where_8 ?_
    refine ev_iload_n dX5_where_11 rfl rfl ?_
    refine bk_callV (As := [.int v2]) (st := []) (st2 := [.int (f_X2_isHouse C v2)]) (M2 := hn C off dear proved Dg dw nw J bef mov nxt chn tol tw nu sw ss giv sE P pn) ok_X2_isHouse lk_RX5_132 (ng_rok.of rfl rfl) (NL_g1 V) rfl rfl rfl rfl rfl rfl dX5_where_12 (m_X2_isHouse (NL_RS V) trivial) rfl rfl ?_
    refine bk_if_ne (tgt := 21) dX5_where_15 (by decide) (fun c15 => ?_) (fun c15 => ?_)
    · replace h := h c15
      refine ev_aload_n dX5_where_21 rfl rfl rfl ?_
      refine ev_get 5 1 fl_RX5_19 (NL_g0 V) rfl dX5_where_22 ?_
      refine ev_get 0 1 fl_RX5_216 (NL_g5 V) rfl dX5_where_25 ?_
      refine ev_iconst (v := nI 1) dX5_where_28 (by decide) ?_
      refine ev_isub dX5_where_29 ?_
      refine ev_istore_n (L' := [some (.ref 0), some (.int v1), some (.int v2), some (.int ((Dg 1) - (nI 1))), none]) dX5_where_30 rfl (ng_lt rfl) rfl ?_
      exact ev_sub (e_X5_where_31 V ng_F C off dear proved Dg dw nw J bef mov nxt chn tol tw nu sw ss giv sE P pn v1 v2 ((Dg 1) - (nI 1)) h) (sub_s (sub_s (sub_s (sub_s (sub_n sub_e)))))
    · refine ev_bipush (v := (-2)) dX5_where_18 (by decide) ?_
      exact ev_iret rfl rfl dX5_where_20
theorem m_X5_where {G : ng_GG} {hn : (Nat → Int32) → (Nat → Int32) → (Nat → Int32) → (Nat → Int32) → (Nat → Int32) → (Nat → Int32) → (Nat → Int32) → (Nat → Int32) → (Nat → Int32) → (Nat → Int32) → (Nat → Int32) → (Nat → Int32) → (Nat → Int32) → (Nat → Int32) → (Nat → Nat → Int64) → (Nat → Int32) → (Nat → Int32) → (Nat → Int32) → Int32 → (Nat → Nat → Int32) → Nat → ng_AM}  (V : ng_NL hn ) {C : Nat → Int32} {off : Nat → Int32} {dear : Nat → Int32} {proved : Nat → Int32} {Dg : Nat → Int32} {dw : Nat → Int32} {nw : Nat → Int32} {J : Nat → Int32} {bef : Nat → Int32} {mov : Nat → Int32} {nxt : Nat → Int32} {chn : Nat → Int32} {tol : Nat → Int32} {tw : Nat → Int32} {nu : Nat → Nat → Int64} {sw : Nat → Int32} {ss : Nat → Int32} {giv : Nat → Int32} {sE : Int32} {P : Nat → Nat → Int32} {pn : Nat} {v1 : Int32} {v2 : Int32} (h : s_X5_where C Dg dw nw v1 v2)  : ng_Ev G md_X5_where 0 (ng_en 5 [.ref 0, .int v1, .int v2]) [] (hn C off dear proved Dg dw nw J bef mov nxt chn tol tw nu sw ss giv sE P pn) (K_X5_where hn C off dear proved Dg dw nw J bef mov nxt chn tol tw nu sw ss giv sE P pn (f_X5_where C Dg dw nw v1 v2)) := e_X5_where V h 
def K_X5_count (hn : (Nat → Int32) → (Nat → Int32) → (Nat → Int32) → (Nat → Int32) → (Nat → Int32) → (Nat → Int32) → (Nat → Int32) → (Nat → Int32) → (Nat → Int32) → (Nat → Int32) → (Nat → Int32) → (Nat → Int32) → (Nat → Int32) → (Nat → Int32) → (Nat → Nat → Int64) → (Nat → Int32) → (Nat → Int32) → (Nat → Int32) → Int32 → (Nat → Nat → Int32) → Nat → ng_AM) (C : Nat → Int32) (off : Nat → Int32) (dear : Nat → Int32) (proved : Nat → Int32) (Dg : Nat → Int32) (dw : Nat → Int32) (nw : Nat → Int32) (J : Nat → Int32) (bef : Nat → Int32) (mov : Nat → Int32) (nxt : Nat → Int32) (chn : Nat → Int32) (tol : Nat → Int32) (tw : Nat → Int32) (nu : Nat → Nat → Int64) (sw : Nat → Int32) (ss : Nat → Int32) (giv : Nat → Int32) (sE : Int32) (P : Nat → Nat → Int32) (pn : Nat) (r : Int32) : ng_RR := (some (.int (r)), hn C off dear proved Dg dw nw J bef mov nxt chn tol tw nu sw ss giv sE P pn)
def f_X5_count  (C : Nat → Int32) (Dg : Nat → Int32) (nw : Nat → Int32) (J : Nat → Int32) (sw : Nat → Int32) (v1 : Int32) : Int32 := (if v1 = nI 0 then (f_X4_time nw) else (if v1 = nI 1 then (C 10) else (if v1 = nI 2 then (f_X4_notes nw) else (if v1 = nI 3 then (f_X4_families nw) else (if v1 = nI 4 then (f_X4_letters nw) else (if v1 = nI 5 then (Dg 1) else (if v1 = nI 6 then (Dg 2) else (if v1 = nI 7 then (C 7) else (if v1 = nI 8 then (if (C 9) = 0 then nI 0 else nI 1) else (if v1 = nI 9 then (C 8) else (if v1 = nI 10 then (Dg 3) else (if v1 = nI 11 then (J 17) else (if v1 = nI 12 then (f_X5_fullSlots sw) else (-1))))))))))))))
def s_X5_count  (C : Nat → Int32) (Dg : Nat → Int32) (nw : Nat → Int32) (J : Nat → Int32) (sw : Nat → Int32) (v1 : Int32) : Prop := (¬ v1 = nI 0 → (¬ v1 = nI 1 → (¬ v1 = nI 2 → (¬ v1 = nI 3 → (¬ v1 = nI 4 → (¬ v1 = nI 5 → (¬ v1 = nI 6 → (¬ v1 = nI 7 → (¬ v1 = nI 8 → (¬ v1 = nI 9 → (¬ v1 = nI 10 → (¬ v1 = nI 11 → (v1 = nI 12 → s_X5_fullSlots sw)))))))))))))
set_option maxRecDepth 100000 in
set_option maxHeartbeats 4000000 in
theorem e_X5_count {G : ng_GG} {hn : (Nat → Int32) → (Nat → Int32) → (Nat → Int32) → (Nat → Int32) → (Nat → Int32) → (Nat → Int32) → (Nat → Int32) → (Nat → Int32) → (Nat → Int32) → (Nat → Int32) → (Nat → Int32) → (Nat → Int32) → (Nat → Int32) → (Nat → Int32) → (Nat → Nat → Int64) → (Nat → Int32) → (Nat → Int32) → (Nat → Int32) → Int32 → (Nat → Nat → Int32) → Nat → ng_AM}  (V : ng_NL hn ) {C : Nat → Int32} {off : Nat → Int32} {dear : Nat → Int32} {proved : Nat → Int32} {Dg : Nat → Int32} {dw : Nat → Int32} {nw : Nat → Int32} {J : Nat → Int32} {bef : Nat → Int32} {mov : Nat → Int32} {nxt : Nat → Int32} {chn : Nat → Int32} {tol : Nat → Int32} {tw : Nat → Int32} {nu : Nat → Nat → Int64} {sw : Nat → Int32} {ss : Nat → Int32} {giv : Nat → Int32} {sE : Int32} {P : Nat → Nat → Int32} {pn : Nat}  {v1 : Int32} (h : s_X5_count  C Dg nw J sw v1)  : ng_Ev G md_X5_count 0 [some (.ref 0), some (.int v1)] [] (hn C off dear proved Dg dw nw J bef mov nxt chn tol tw nu sw ss giv sE P pn) (K_X5_count hn C off dear proved Dg dw nw J bef mov nxt chn tol tw nu sw ss giv sE P pn (f_X5_count  C Dg nw J sw v1)) := by
  unfold s_X5_count at h
  unfold f_X5_count
  refine ev_iload_n dX5_count_0 rfl rfl ?_
  refine bk_cases (fun c1_0 => ?_) (fun c1_0 => ?_)
  · refine ev_tab_k (k := 0) (tgt := 68) dX5_count_1 c1_0 (by decide) (by decide) (by decide) rfl (by decide) ?_
    refine ev_aload_n dX5_count_68 rfl rfl rfl ?_
    refine ev_get 5 2 fl_RX5_28 (NL_g0 V) rfl dX5_count_69 ?_
    refine bk_callV (As := []) (st := []) (st2 := [.int (f_X4_time nw)]) (M2 := hn C off dear proved Dg dw nw J bef mov nxt chn tol tw nu sw ss giv sE P pn) ok_X4_time lk_RX5_115 (ng_rok.of rfl rfl) (NL_g7 V) rfl rfl rfl rfl rfl rfl dX5_count_72 (m_X4_time (NL_R7 V) trivial) rfl rfl ?_
    exact ev_iret rfl rfl dX5_count_75
  · replace h := h c1_0
    refine bk_cases (fun c1_1 => ?_) (fun c1_1 => ?_)
    · refine ev_tab_k (k := 1) (tgt := 76) dX5_count_1 c1_1 (by decide) (by decide) (by decide) rfl (by decide) ?_
      refine ev_aload_n dX5_count_76 rfl rfl rfl ?_
      refine ev_get 5 0 fl_RX5_10 (NL_g0 V) rfl dX5_count_77 ?_
      refine ev_get 2 10 fl_RX5_84 (NL_g1 V) rfl dX5_count_80 ?_
      exact ev_iret rfl rfl dX5_count_83
    · replace h := h c1_1
      refine bk_cases (fun c1_2 => ?_) (fun c1_2 => ?_)
      · refine ev_tab_k (k := 2) (tgt := 84) dX5_count_1 c1_2 (by decide) (by decide) (by decide) rfl (by decide) ?_
        refine ev_aload_n dX5_count_84 rfl rfl rfl ?_
        refine ev_get 5 2 fl_RX5_28 (NL_g0 V) rfl dX5_count_85 ?_
        refine bk_callV (As := []) (st := []) (st2 := [.int (f_X4_notes nw)]) (M2 := hn C off dear proved Dg dw nw J bef mov nxt chn tol tw nu sw ss giv sE P pn) ok_X4_notes lk_RX5_222 (ng_rok.of rfl rfl) (NL_g7 V) rfl rfl rfl rfl rfl rfl dX5_count_88 (m_X4_notes (NL_R7 V) trivial) rfl rfl ?_
        exact ev_iret rfl rfl dX5_count_91
      · replace h := h c1_2
        refine bk_cases (fun c1_3 => ?_) (fun c1_3 => ?_)
        · refine ev_tab_k (k := 3) (tgt := 92) dX5_count_1 c1_3 (by decide) (by decide) (by decide) rfl (by decide) ?_
          refine ev_aload_n dX5_count_92 rfl rfl rfl ?_
          refine ev_get 5 2 fl_RX5_28 (NL_g0 V) rfl dX5_count_93 ?_
          refine bk_callV (As := []) (st := []) (st2 := [.int (f_X4_families nw)]) (M2 := hn C off dear proved Dg dw nw J bef mov nxt chn tol tw nu sw ss giv sE P pn) ok_X4_families lk_RX5_225 (ng_rok.of rfl rfl) (NL_g7 V) rfl rfl rfl rfl rfl rfl dX5_count_96 (m_X4_families (NL_R7 V) trivial) rfl rfl ?_
          exact ev_iret rfl rfl dX5_count_99
        · replace h := h c1_3
          refine bk_cases (fun c1_4 => ?_) (fun c1_4 => ?_)
          · refine ev_tab_k (k := 4) (tgt := 100) dX5_count_1 c1_4 (by decide) (by decide) (by decide) rfl (by decide) ?_
            refine ev_aload_n dX5_count_100 rfl rfl rfl ?_
            refine ev_get 5 2 fl_RX5_28 (NL_g0 V) rfl dX5_count_101 ?_
            refine bk_callV (As := []) (st := []) (st2 := [.int (f_X4_letters nw)]) (M2 := hn C off dear proved Dg dw nw J bef mov nxt chn tol tw nu sw ss giv sE P pn) ok_X4_letters lk_RX5_228 (ng_rok.of rfl rfl) (NL_g7 V) rfl rfl rfl rfl rfl rfl dX5_count_104 (m_X4_letters (NL_R7 V) trivial) rfl rfl ?_
            exact ev_iret rfl rfl dX5_count_107
          · replace h := h c1_4
            refine bk_cases (fun c1_5 => ?_) (fun c1_5 => ?_)
            · refine ev_tab_k (k := 5) (tgt := 108) dX5_count_1 c1_5 (by decide) (by decide) (by decide) rfl (by decide) ?_
              refine ev_aload_n dX5_count_108 rfl rfl rfl ?_
              refine ev_get 5 1 fl_RX5_19 (NL_g0 V) rfl dX5_count_109 ?_
              refine ev_get 0 1 fl_RX5_216 (NL_g5 V) rfl dX5_count_112 ?_
              exact ev_iret rfl rfl dX5_count_115
            · replace h := h c1_5
              refine bk_cases (fun c1_6 => ?_) (fun c1_6 => ?_)
              · refine ev_tab_k (k := 6) (tgt := 116) dX5_count_1 c1_6 (by decide) (by decide) (by decide) rfl (by decide) ?_
                refine ev_aload_n dX5_count_116 rfl rfl rfl ?_
                refine ev_get 5 1 fl_RX5_19 (NL_g0 V) rfl dX5_count_117 ?_
                refine ev_get 0 2 fl_RX5_231 (NL_g5 V) rfl dX5_count_120 ?_
                exact ev_iret rfl rfl dX5_count_123
              · replace h := h c1_6
                refine bk_cases (fun c1_7 => ?_) (fun c1_7 => ?_)
                · refine ev_tab_k (k := 7) (tgt := 124) dX5_count_1 c1_7 (by decide) (by decide) (by decide) rfl (by decide) ?_
                  refine ev_aload_n dX5_count_124 rfl rfl rfl ?_
                  refine ev_get 5 0 fl_RX5_10 (NL_g0 V) rfl dX5_count_125 ?_
                  refine ev_get 2 7 fl_RX5_81 (NL_g1 V) rfl dX5_count_128 ?_
                  exact ev_iret rfl rfl dX5_count_131
                · replace h := h c1_7
                  refine bk_cases (fun c1_8 => ?_) (fun c1_8 => ?_)
                  · refine ev_tab_k (k := 8) (tgt := 132) dX5_count_1 c1_8 (by decide) (by decide) (by decide) rfl (by decide) ?_
                    refine ev_aload_n dX5_count_132 rfl rfl rfl ?_
                    refine ev_get 5 0 fl_RX5_10 (NL_g0 V) rfl dX5_count_133 ?_
                    refine ev_get 2 9 fl_RX5_102 (NL_g1 V) rfl dX5_count_136 ?_
                    refine bk_if_eq (tgt := 146) dX5_count_139 (by decide) (fun c139 => ?_) (fun c139 => ?_)
                    · refine ev_iconst (v := nI 0) dX5_count_146 (by decide) ?_
                      exact ev_iret rfl rfl dX5_count_147
                    · refine ev_iconst (v := nI 1) dX5_count_142 (by decide) ?_
                      refine ev_goto (tgt := 147) dX5_count_143 (by decide) ?_
                      exact ev_iret rfl rfl dX5_count_147
                  · replace h := h c1_8
                    refine bk_cases (fun c1_9 => ?_) (fun c1_9 => ?_)
                    · refine ev_tab_k (k := 9) (tgt := 148) dX5_count_1 c1_9 (by decide) (by decide) (by decide) rfl (by decide) ?_
                      refine ev_aload_n dX5_count_148 rfl rfl rfl ?_
                      refine ev_get 5 0 fl_RX5_10 (NL_g0 V) rfl dX5_count_149 ?_
                      refine ev_get 2 8 fl_RX5_106 (NL_g1 V) rfl dX5_count_152 ?_
                      exact ev_iret rfl rfl dX5_count_155
                    · replace h := h c1_9
                      refine bk_cases (fun c1_10 => ?_) (fun c1_10 => ?_)
                      · refine ev_tab_k (k := 10) (tgt := 156) dX5_count_1 c1_10 (by decide) (by decide) (by decide) rfl (by decide) ?_
                        refine ev_aload_n dX5_count_156 rfl rfl rfl ?_
                        refine ev_get 5 1 fl_RX5_19 (NL_g0 V) rfl dX5_count_157 ?_
                        refine ev_get 0 3 fl_RX5_234 (NL_g5 V) rfl dX5_count_160 ?_
                        exact ev_iret rfl rfl dX5_count_163
                      · replace h := h c1_10
                        refine bk_cases (fun c1_11 => ?_) (fun c1_11 => ?_)
                        · refine ev_tab_k (k := 11) (tgt := 164) dX5_count_1 c1_11 (by decide) (by decide) (by decide) rfl (by decide) ?_
                          refine ev_aload_n dX5_count_164 rfl rfl rfl ?_
                          refine ev_get 5 3 fl_RX5_37 (NL_g0 V) rfl dX5_count_165 ?_
                          refine ev_get 1 17 fl_RX5_237 (NL_g9 V) rfl dX5_count_168 ?_
                          exact ev_iret rfl rfl dX5_count_171
                        · replace h := h c1_11
                          refine bk_cases (fun c1_12 => ?_) (fun c1_12 => ?_)
                          · replace h := h c1_12
                            refine ev_tab_k (k := 12) (tgt := 172) dX5_count_1 c1_12 (by decide) (by decide) (by decide) rfl (by decide) ?_
                            refine ev_aload_n dX5_count_172 rfl rfl rfl ?_
                            have hs173 := h
                            refine bk_callV (As := []) (st := []) (st2 := [.int (f_X5_fullSlots sw)]) (M2 := hn C off dear proved Dg dw nw J bef mov nxt chn tol tw nu sw ss giv sE P pn) ok_X5_fullSlots lk_RX5_240 (ng_rok.of rfl rfl) (NL_g0 V) rfl rfl rfl rfl rfl rfl dX5_count_173 (m_X5_fullSlots V hs173) rfl rfl ?_
                            exact ev_iret rfl rfl dX5_count_176
                          · refine ev_tab_d (hi := 12) (tgt := 177) (m := 12) dX5_count_1 rfl (fun q hq => match q, hq with | 0, _ => c1_0 | 1, _ => c1_1 | 2, _ => c1_2 | 3, _ => c1_3 | 4, _ => c1_4 | 5, _ => c1_5 | 6, _ => c1_6 | 7, _ => c1_7 | 8, _ => c1_8 | 9, _ => c1_9 | 10, _ => c1_10 | 11, _ => c1_11 | 12, _ => c1_12 | (q + 13), hq => absurd hq (by omega)) (by decide) ?_
                            refine ev_iconst (v := (-1)) dX5_count_177 (by decide) ?_
                            exact ev_iret rfl rfl dX5_count_178
theorem m_X5_count {G : ng_GG} {hn : (Nat → Int32) → (Nat → Int32) → (Nat → Int32) → (Nat → Int32) → (Nat → Int32) → (Nat → Int32) → (Nat → Int32) → (Nat → Int32) → (Nat → Int32) → (Nat → Int32) → (Nat → Int32) → (Nat → Int32) → (Nat → Int32) → (Nat → Int32) → (Nat → Nat → Int64) → (Nat → Int32) → (Nat → Int32) → (Nat → Int32) → Int32 → (Nat → Nat → Int32) → Nat → ng_AM}  (V : ng_NL hn ) {C : Nat → Int32} {off : Nat → Int32} {dear : Nat → Int32} {proved : Nat → Int32} {Dg : Nat → Int32} {dw : Nat → Int32} {nw : Nat → Int32} {J : Nat → Int32} {bef : Nat → Int32} {mov : Nat → Int32} {nxt : Nat → Int32} {chn : Nat → Int32} {tol : Nat → Int32} {tw : Nat → Int32} {nu : Nat → Nat → Int64} {sw : Nat → Int32} {ss : Nat → Int32} {giv : Nat → Int32} {sE : Int32} {P : Nat → Nat → Int32} {pn : Nat} {v1 : Int32} (h : s_X5_count C Dg nw J sw v1)  : ng_Ev G md_X5_count 0 (ng_en 2 [.ref 0, .int v1]) [] (hn C off dear proved Dg dw nw J bef mov nxt chn tol tw nu sw ss giv sE P pn) (K_X5_count hn C off dear proved Dg dw nw J bef mov nxt chn tol tw nu sw ss giv sE P pn (f_X5_count C Dg nw J sw v1)) := e_X5_count V h 
def K_X5_row (hn : (Nat → Int32) → (Nat → Int32) → (Nat → Int32) → (Nat → Int32) → (Nat → Int32) → (Nat → Int32) → (Nat → Int32) → (Nat → Int32) → (Nat → Int32) → (Nat → Int32) → (Nat → Int32) → (Nat → Int32) → (Nat → Int32) → (Nat → Int32) → (Nat → Nat → Int64) → (Nat → Int32) → (Nat → Int32) → (Nat → Int32) → Int32 → (Nat → Nat → Int32) → Nat → ng_AM) (C : Nat → Int32) (off : Nat → Int32) (dear : Nat → Int32) (proved : Nat → Int32) (Dg : Nat → Int32) (dw : Nat → Int32) (nw : Nat → Int32) (J : Nat → Int32) (bef : Nat → Int32) (mov : Nat → Int32) (nxt : Nat → Int32) (chn : Nat → Int32) (tol : Nat → Int32) (tw : Nat → Int32) (giv : Nat → Int32) (sE : Int32) (P : Nat → Nat → Int32) (pn : Nat) (r : (Nat → Nat → Int64) × (Nat → Int32) × (Nat → Int32) × Int32) : ng_RR := (some (.int (r.2.2.2)), hn C off dear proved Dg dw nw J bef mov nxt chn tol tw (r.1) (r.2.1) (r.2.2.1) giv sE P pn)
def f_X5_row  (nu : Nat → Nat → Int64) (sw : Nat → Int32) (ss : Nat → Int32) (v1 : Int32) (v2 : Int32) (v3 : Int32) : (Nat → Nat → Int64) × (Nat → Int32) × (Nat → Int32) × Int32 := (if (f_X5_isSlot v1) = 0 then (nu, sw, ss, (-2)) else (if (f_X5_within v2 (nI 0) (nI 3)) = 0 then (nu, sw, ss, (-2)) else (if v3 ≤ (nI 60) then (if 0 ≤ v3 then ((va_up nu v1.toNatClampNeg (f_X3_lay (nu v1.toNatClampNeg) (sw v1.toNatClampNeg) (ss v1.toNatClampNeg) v2 v3).1), (va_up sw v1.toNatClampNeg (f_X3_lay (nu v1.toNatClampNeg) (sw v1.toNatClampNeg) (ss v1.toNatClampNeg) v2 v3).2.1), (va_up ss v1.toNatClampNeg (f_X3_lay (nu v1.toNatClampNeg) (sw v1.toNatClampNeg) (ss v1.toNatClampNeg) v2 v3).2.2), nI 0) else (nu, sw, ss, (-3))) else (nu, sw, ss, (-2)))))
def s_X5_row  (nu : Nat → Nat → Int64) (sw : Nat → Int32) (ss : Nat → Int32) (v1 : Int32) (v2 : Int32) (v3 : Int32) : Prop := (s_X5_isSlot v1 ∧ (¬ (f_X5_isSlot v1) = 0 → (¬ (f_X5_within v2 (nI 0) (nI 3)) = 0 → (v3 ≤ (nI 60) → (0 ≤ v3 → (vp_in v1 4 ∧ s_X3_lay (nu v1.toNatClampNeg) (sw v1.toNatClampNeg) (ss v1.toNatClampNeg) v2 v3))))))
set_option maxRecDepth 100000 in
set_option maxHeartbeats 4000000 in
theorem e_X5_row {G : ng_GG} {hn : (Nat → Int32) → (Nat → Int32) → (Nat → Int32) → (Nat → Int32) → (Nat → Int32) → (Nat → Int32) → (Nat → Int32) → (Nat → Int32) → (Nat → Int32) → (Nat → Int32) → (Nat → Int32) → (Nat → Int32) → (Nat → Int32) → (Nat → Int32) → (Nat → Nat → Int64) → (Nat → Int32) → (Nat → Int32) → (Nat → Int32) → Int32 → (Nat → Nat → Int32) → Nat → ng_AM}  (V : ng_NL hn ) {C : Nat → Int32} {off : Nat → Int32} {dear : Nat → Int32} {proved : Nat → Int32} {Dg : Nat → Int32} {dw : Nat → Int32} {nw : Nat → Int32} {J : Nat → Int32} {bef : Nat → Int32} {mov : Nat → Int32} {nxt : Nat → Int32} {chn : Nat → Int32} {tol : Nat → Int32} {tw : Nat → Int32} {nu : Nat → Nat → Int64} {sw : Nat → Int32} {ss : Nat → Int32} {giv : Nat → Int32} {sE : Int32} {P : Nat → Nat → Int32} {pn : Nat}  {v1 : Int32} {v2 : Int32} {v3 : Int32} (h : s_X5_row  nu sw ss v1 v2 v3)  : ng_Ev G md_X5_row 0 [some (.ref 0), some (.int v1), some (.int v2), some (.int v3)] [] (hn C off dear proved Dg dw nw J bef mov nxt chn tol tw nu sw ss giv sE P pn) (K_X5_row hn C off dear proved Dg dw nw J bef mov nxt chn tol tw giv sE P pn (f_X5_row  nu sw ss v1 v2 v3)) := by
  unfold s_X5_row at h
  unfold f_X5_row
  refine ev_aload_n dX5_row_0 rfl rfl rfl ?_
  refine ev_iload_n dX5_row_1 rfl rfl ?_
  have hs2 := h.1
  replace h := h.2
  refine bk_callV (As := [.int v1]) (st := []) (st2 := [.int (f_X5_isSlot v1)]) (M2 := hn C off dear proved Dg dw nw J bef mov nxt chn tol tw nu sw ss giv sE P pn) ok_X5_isSlot lk_RX5_243 (ng_rok.of rfl rfl) (NL_g0 V) rfl rfl rfl rfl rfl rfl dX5_row_2 (m_X5_isSlot V hs2) rfl rfl ?_
  refine bk_if_eq (tgt := 23) dX5_row_5 (by decide) (fun c5 => ?_) (fun c5 => ?_)
  · refine ev_bipush (v := (-2)) dX5_row_23 (by decide) ?_
    exact ev_iret rfl rfl dX5_row_25
  · replace h := h c5
    refine ev_iload_n dX5_row_8 rfl rfl ?_
    refine ev_iconst (v := nI 0) dX5_row_9 (by decide) ?_
    refine ev_iconst (v := nI 3) dX5_row_10 (by decide) ?_
    refine bk_callS (As := [.int v2, .int (nI 0), .int (nI 3)]) (st := []) (st2 := [.int (f_X5_within v2 (nI 0) (nI 3))]) (M2 := hn C off dear proved Dg dw nw J bef mov nxt chn tol tw nu sw ss giv sE P pn) ok_X5_within lk_RX5_56 (ng_rok.of rfl rfl) rfl rfl rfl rfl dX5_row_11 (m_X5_within trivial) rfl rfl ?_
    refine bk_if_eq (tgt := 23) dX5_row_14 (by decide) (fun c14 => ?_) (fun c14 => ?_)
    · refine ev_bipush (v := (-2)) dX5_row_23 (by decide) ?_
      exact ev_iret rfl rfl dX5_row_25
    · replace h := h c14
      refine ev_iload_n dX5_row_17 rfl rfl ?_
      refine ev_bipush (v := nI 60) dX5_row_18 (by decide) ?_
      refine bk_icmp_le (tgt := 26) dX5_row_20 (by decide) (fun c20 => ?_) (fun c20 => ?_)
      · replace h := h c20
        refine ev_iload_n dX5_row_26 rfl rfl ?_
        refine bk_if_ge (tgt := 33) dX5_row_27 (by decide) (fun c27 => ?_) (fun c27 => ?_)
        · replace h := h c27
          refine ev_aload_n dX5_row_33 rfl rfl rfl ?_
          refine ev_get 5 4 fl_RX5_43 (NL_g0 V) rfl dX5_row_34 ?_
          refine ev_iload_n dX5_row_37 rfl rfl ?_
          have hi38 := h.1
          replace h := h.2
          refine ev_slot (NL_g18 V) hi38 dX5_row_38 ?_
          refine ev_iload_n dX5_row_39 rfl rfl ?_
          refine ev_iload_n dX5_row_40 rfl rfl ?_
          have hs41 := h
          refine bk_callV (As := [.int v2, .int v3]) (st := []) (st2 := []) (M2 := hn C off dear proved Dg dw nw J bef mov nxt chn tol tw (va_up nu v1.toNatClampNeg (f_X3_lay (nu v1.toNatClampNeg) (sw v1.toNatClampNeg) (ss v1.toNatClampNeg) v2 v3).1) (va_up sw v1.toNatClampNeg (f_X3_lay (nu v1.toNatClampNeg) (sw v1.toNatClampNeg) (ss v1.toNatClampNeg) v2 v3).2.1) (va_up ss v1.toNatClampNeg (f_X3_lay (nu v1.toNatClampNeg) (sw v1.toNatClampNeg) (ss v1.toNatClampNeg) v2 v3).2.2) giv sE P pn) ok_X3_lay lk_RX5_246 (ng_rok.of rfl rfl) (NL_gs V (ng_slt hi38)) rfl rfl rfl rfl rfl rfl dX5_row_41 (ng_cast (m_X3_lay (NL_T V C off dear proved Dg dw nw J bef mov nxt chn tol tw nu sw ss giv sE P pn v1.toNatClampNeg (ng_slt hi38)) hs41) (by simp only [ng_up_self]) rfl) rfl (by first | rfl | (simp only [K_X3_lay, ng_up_self])) ?_
          refine ev_iconst (v := nI 0) dX5_row_44 (by decide) ?_
          exact ev_iret rfl rfl dX5_row_45
        · refine ev_bipush (v := (-3)) dX5_row_30 (by decide) ?_
          exact ev_iret rfl rfl dX5_row_32
      · refine ev_bipush (v := (-2)) dX5_row_23 (by decide) ?_
        exact ev_iret rfl rfl dX5_row_25
theorem m_X5_row {G : ng_GG} {hn : (Nat → Int32) → (Nat → Int32) → (Nat → Int32) → (Nat → Int32) → (Nat → Int32) → (Nat → Int32) → (Nat → Int32) → (Nat → Int32) → (Nat → Int32) → (Nat → Int32) → (Nat → Int32) → (Nat → Int32) → (Nat → Int32) → (Nat → Int32) → (Nat → Nat → Int64) → (Nat → Int32) → (Nat → Int32) → (Nat → Int32) → Int32 → (Nat → Nat → Int32) → Nat → ng_AM}  (V : ng_NL hn ) {C : Nat → Int32} {off : Nat → Int32} {dear : Nat → Int32} {proved : Nat → Int32} {Dg : Nat → Int32} {dw : Nat → Int32} {nw : Nat → Int32} {J : Nat → Int32} {bef : Nat → Int32} {mov : Nat → Int32} {nxt : Nat → Int32} {chn : Nat → Int32} {tol : Nat → Int32} {tw : Nat → Int32} {nu : Nat → Nat → Int64} {sw : Nat → Int32} {ss : Nat → Int32} {giv : Nat → Int32} {sE : Int32} {P : Nat → Nat → Int32} {pn : Nat} {v1 : Int32} {v2 : Int32} {v3 : Int32} (h : s_X5_row nu sw ss v1 v2 v3)  : ng_Ev G md_X5_row 0 (ng_en 4 [.ref 0, .int v1, .int v2, .int v3]) [] (hn C off dear proved Dg dw nw J bef mov nxt chn tol tw nu sw ss giv sE P pn) (K_X5_row hn C off dear proved Dg dw nw J bef mov nxt chn tol tw giv sE P pn (f_X5_row nu sw ss v1 v2 v3)) := e_X5_row V h 
def K_X5_tear (hn : (Nat → Int32) → (Nat → Int32) → (Nat → Int32) → (Nat → Int32) → (Nat → Int32) → (Nat → Int32) → (Nat → Int32) → (Nat → Int32) → (Nat → Int32) → (Nat → Int32) → (Nat → Int32) → (Nat → Int32) → (Nat → Int32) → (Nat → Int32) → (Nat → Nat → Int64) → (Nat → Int32) → (Nat → Int32) → (Nat → Int32) → Int32 → (Nat → Nat → Int32) → Nat → ng_AM) (C : Nat → Int32) (off : Nat → Int32) (dear : Nat → Int32) (proved : Nat → Int32) (Dg : Nat → Int32) (dw : Nat → Int32) (nw : Nat → Int32) (J : Nat → Int32) (bef : Nat → Int32) (mov : Nat → Int32) (nxt : Nat → Int32) (chn : Nat → Int32) (tol : Nat → Int32) (tw : Nat → Int32) (nu : Nat → Nat → Int64) (giv : Nat → Int32) (sE : Int32) (P : Nat → Nat → Int32) (pn : Nat) (r : (Nat → Int32) × (Nat → Int32) × Int32) : ng_RR := (some (.int (r.2.2)), hn C off dear proved Dg dw nw J bef mov nxt chn tol tw nu (r.1) (r.2.1) giv sE P pn)
def f_X5_tear  (sw : Nat → Int32) (ss : Nat → Int32) (v1 : Int32) : (Nat → Int32) × (Nat → Int32) × Int32 := (if (f_X5_isSlot v1) = 0 then (sw, ss, nI 0) else (if (f_X3_isLaid (sw v1.toNatClampNeg)) = 0 then (sw, ss, nI 0) else ((va_up sw v1.toNatClampNeg (-1)), (va_up ss v1.toNatClampNeg (ss v1.toNatClampNeg)), nI 1)))
def s_X5_tear  (sw : Nat → Int32) (ss : Nat → Int32) (v1 : Int32) : Prop := (s_X5_isSlot v1 ∧ (¬ (f_X5_isSlot v1) = 0 → (vp_in v1 4 ∧ (¬ (f_X3_isLaid (sw v1.toNatClampNeg)) = 0 → vp_in v1 4))))
set_option maxRecDepth 100000 in
set_option maxHeartbeats 4000000 in
theorem e_X5_tear {G : ng_GG} {hn : (Nat → Int32) → (Nat → Int32) → (Nat → Int32) → (Nat → Int32) → (Nat → Int32) → (Nat → Int32) → (Nat → Int32) → (Nat → Int32) → (Nat → Int32) → (Nat → Int32) → (Nat → Int32) → (Nat → Int32) → (Nat → Int32) → (Nat → Int32) → (Nat → Nat → Int64) → (Nat → Int32) → (Nat → Int32) → (Nat → Int32) → Int32 → (Nat → Nat → Int32) → Nat → ng_AM}  (V : ng_NL hn ) {C : Nat → Int32} {off : Nat → Int32} {dear : Nat → Int32} {proved : Nat → Int32} {Dg : Nat → Int32} {dw : Nat → Int32} {nw : Nat → Int32} {J : Nat → Int32} {bef : Nat → Int32} {mov : Nat → Int32} {nxt : Nat → Int32} {chn : Nat → Int32} {tol : Nat → Int32} {tw : Nat → Int32} {nu : Nat → Nat → Int64} {sw : Nat → Int32} {ss : Nat → Int32} {giv : Nat → Int32} {sE : Int32} {P : Nat → Nat → Int32} {pn : Nat}  {v1 : Int32} (h : s_X5_tear  sw ss v1)  : ng_Ev G md_X5_tear 0 [some (.ref 0), some (.int v1)] [] (hn C off dear proved Dg dw nw J bef mov nxt chn tol tw nu sw ss giv sE P pn) (K_X5_tear hn C off dear proved Dg dw nw J bef mov nxt chn tol tw nu giv sE P pn (f_X5_tear  sw ss v1)) := by
  unfold s_X5_tear at h
  unfold f_X5_tear
  refine ev_aload_n dX5_tear_0 rfl rfl rfl ?_
  refine ev_iload_n dX5_tear_1 rfl rfl ?_
  have hs2 := h.1
  replace h := h.2
  refine bk_callV (As := [.int v1]) (st := []) (st2 := [.int (f_X5_isSlot v1)]) (M2 := hn C off dear proved Dg dw nw J bef mov nxt chn tol tw nu sw ss giv sE P pn) ok_X5_isSlot lk_RX5_243 (ng_rok.of rfl rfl) (NL_g0 V) rfl rfl rfl rfl rfl rfl dX5_tear_2 (m_X5_isSlot V hs2) rfl rfl ?_
  refine bk_if_eq (tgt := 20) dX5_tear_5 (by decide) (fun c5 => ?_) (fun c5 => ?_)
  · refine ev_iconst (v := nI 0) dX5_tear_20 (by decide) ?_
    exact ev_iret rfl (by decide) dX5_tear_21
  · replace h := h c5
    refine ev_aload_n dX5_tear_8 rfl rfl rfl ?_
    refine ev_get 5 4 fl_RX5_43 (NL_g0 V) rfl dX5_tear_9 ?_
    refine ev_iload_n dX5_tear_12 rfl rfl ?_
    have hi13 := h.1
    replace h := h.2
    refine ev_slot (NL_g18 V) hi13 dX5_tear_13 ?_
    refine bk_callV (As := []) (st := []) (st2 := [.int (f_X3_isLaid (sw v1.toNatClampNeg))]) (M2 := hn C off dear proved Dg dw nw J bef mov nxt chn tol tw nu sw ss giv sE P pn) ok_X3_isLaid lk_RX5_250 (ng_rok.of rfl rfl) (NL_gs V (ng_slt hi13)) rfl rfl rfl rfl rfl rfl dX5_tear_14 (m_X3_isLaid (NL_RT V (ng_slt hi13)) trivial) rfl rfl ?_
    refine bk_if_ne (tgt := 22) dX5_tear_17 (by decide) (fun c17 => ?_) (fun c17 => ?_)
    · replace h := h c17
      refine ev_aload_n dX5_tear_22 rfl rfl rfl ?_
      refine ev_get 5 4 fl_RX5_43 (NL_g0 V) rfl dX5_tear_23 ?_
      refine ev_iload_n dX5_tear_26 rfl rfl ?_
      have hi27 := h
      refine ev_slot (NL_g18 V) hi27 dX5_tear_27 ?_
      refine ev_iconst (v := (-1)) dX5_tear_28 (by decide) ?_
      refine ev_put 3 1 fs_RX5_254 (NL_gs V (ng_slt hi27)) (ng_lt rfl) rfl (NL_ss V (ng_slt hi27)) (ng_fit_i _) dX5_tear_29 ?_
      refine ev_iconst (v := nI 1) dX5_tear_32 (by decide) ?_
      exact ev_iret rfl (by decide) dX5_tear_33
    · refine ev_iconst (v := nI 0) dX5_tear_20 (by decide) ?_
      exact ev_iret rfl (by decide) dX5_tear_21
theorem m_X5_tear {G : ng_GG} {hn : (Nat → Int32) → (Nat → Int32) → (Nat → Int32) → (Nat → Int32) → (Nat → Int32) → (Nat → Int32) → (Nat → Int32) → (Nat → Int32) → (Nat → Int32) → (Nat → Int32) → (Nat → Int32) → (Nat → Int32) → (Nat → Int32) → (Nat → Int32) → (Nat → Nat → Int64) → (Nat → Int32) → (Nat → Int32) → (Nat → Int32) → Int32 → (Nat → Nat → Int32) → Nat → ng_AM}  (V : ng_NL hn ) {C : Nat → Int32} {off : Nat → Int32} {dear : Nat → Int32} {proved : Nat → Int32} {Dg : Nat → Int32} {dw : Nat → Int32} {nw : Nat → Int32} {J : Nat → Int32} {bef : Nat → Int32} {mov : Nat → Int32} {nxt : Nat → Int32} {chn : Nat → Int32} {tol : Nat → Int32} {tw : Nat → Int32} {nu : Nat → Nat → Int64} {sw : Nat → Int32} {ss : Nat → Int32} {giv : Nat → Int32} {sE : Int32} {P : Nat → Nat → Int32} {pn : Nat} {v1 : Int32} (h : s_X5_tear sw ss v1)  : ng_Ev G md_X5_tear 0 (ng_en 2 [.ref 0, .int v1]) [] (hn C off dear proved Dg dw nw J bef mov nxt chn tol tw nu sw ss giv sE P pn) (K_X5_tear hn C off dear proved Dg dw nw J bef mov nxt chn tol tw nu giv sE P pn (f_X5_tear sw ss v1)) := e_X5_tear V h 
def K_X5_write (hn : (Nat → Int32) → (Nat → Int32) → (Nat → Int32) → (Nat → Int32) → (Nat → Int32) → (Nat → Int32) → (Nat → Int32) → (Nat → Int32) → (Nat → Int32) → (Nat → Int32) → (Nat → Int32) → (Nat → Int32) → (Nat → Int32) → (Nat → Int32) → (Nat → Nat → Int64) → (Nat → Int32) → (Nat → Int32) → (Nat → Int32) → Int32 → (Nat → Nat → Int32) → Nat → ng_AM) (C : Nat → Int32) (off : Nat → Int32) (dear : Nat → Int32) (proved : Nat → Int32) (Dg : Nat → Int32) (dw : Nat → Int32) (nw : Nat → Int32) (J : Nat → Int32) (bef : Nat → Int32) (mov : Nat → Int32) (nxt : Nat → Int32) (chn : Nat → Int32) (tol : Nat → Int32) (tw : Nat → Int32) (sw : Nat → Int32) (ss : Nat → Int32) (giv : Nat → Int32) (sE : Int32) (P : Nat → Nat → Int32) (pn : Nat) (r : (Nat → Nat → Int64) × Int32) : ng_RR := (some (.int (r.2)), hn C off dear proved Dg dw nw J bef mov nxt chn tol tw (r.1) sw ss giv sE P pn)
def f_X5_write_37  (nu : Nat → Nat → Int64) (sw : Nat → Int32) (ss : Nat → Int32) (t0 : Int32) : (Nat → Nat → Int64) × Int32 := (if t0 = 0 then (nu, (-6)) else (nu, nI 0))
def s_X5_write_37  (nu : Nat → Nat → Int64) (sw : Nat → Int32) (ss : Nat → Int32) (t0 : Int32) : Prop := True
set_option maxRecDepth 100000 in
set_option maxHeartbeats 4000000 in
theorem e_X5_write_37 {G : ng_GG} {hn : (Nat → Int32) → (Nat → Int32) → (Nat → Int32) → (Nat → Int32) → (Nat → Int32) → (Nat → Int32) → (Nat → Int32) → (Nat → Int32) → (Nat → Int32) → (Nat → Int32) → (Nat → Int32) → (Nat → Int32) → (Nat → Int32) → (Nat → Int32) → (Nat → Nat → Int64) → (Nat → Int32) → (Nat → Int32) → (Nat → Int32) → Int32 → (Nat → Nat → Int32) → Nat → ng_AM}  (V : ng_NL hn ) {C : Nat → Int32} {off : Nat → Int32} {dear : Nat → Int32} {proved : Nat → Int32} {Dg : Nat → Int32} {dw : Nat → Int32} {nw : Nat → Int32} {J : Nat → Int32} {bef : Nat → Int32} {mov : Nat → Int32} {nxt : Nat → Int32} {chn : Nat → Int32} {tol : Nat → Int32} {tw : Nat → Int32} {nu : Nat → Nat → Int64} {sw : Nat → Int32} {ss : Nat → Int32} {giv : Nat → Int32} {sE : Int32} {P : Nat → Nat → Int32} {pn : Nat}  {t0 : Int32} (h : s_X5_write_37  nu sw ss t0)  : ng_Ev G md_X5_write 37 [none, none, none, none, none] [.int t0] (hn C off dear proved Dg dw nw J bef mov nxt chn tol tw nu sw ss giv sE P pn) (K_X5_write hn C off dear proved Dg dw nw J bef mov nxt chn tol tw sw ss giv sE P pn (f_X5_write_37  nu sw ss t0)) := by
  unfold s_X5_write_37 at h
  unfold f_X5_write_37
  refine bk_if_eq (tgt := 44) dX5_write_37 (by decide) (fun c37 => ?_) (fun c37 => ?_)
  · refine ev_bipush (v := (-6)) dX5_write_44 (by decide) ?_
    exact ev_iret rfl rfl dX5_write_46
  · refine ev_iconst (v := nI 0) dX5_write_40 (by decide) ?_
    refine ev_goto (tgt := 46) dX5_write_41 (by decide) ?_
    exact ev_iret rfl rfl dX5_write_46
def f_X5_write  (nu : Nat → Nat → Int64) (sw : Nat → Int32) (ss : Nat → Int32) (v1 : Int32) (v2 : Int32) (v3 : Int64) : (Nat → Nat → Int64) × Int32 := (if (f_X5_isSlot v1) = 0 then (nu, (-2)) else (if (f_X3_isLaid (sw v1.toNatClampNeg)) = 0 then (nu, (-5)) else f_X5_write_37 (va_up nu v1.toNatClampNeg (f_X3_put (nu v1.toNatClampNeg) (sw v1.toNatClampNeg) (ss v1.toNatClampNeg) v2 v3).1) sw ss ((f_X3_put (nu v1.toNatClampNeg) (sw v1.toNatClampNeg) (ss v1.toNatClampNeg) v2 v3).2)))
def s_X5_write  (nu : Nat → Nat → Int64) (sw : Nat → Int32) (ss : Nat → Int32) (v1 : Int32) (v2 : Int32) (v3 : Int64) : Prop := (s_X5_isSlot v1 ∧ (¬ (f_X5_isSlot v1) = 0 → (vp_in v1 4 ∧ (¬ (f_X3_isLaid (sw v1.toNatClampNeg)) = 0 → (vp_in v1 4 ∧ (s_X3_put (nu v1.toNatClampNeg) (sw v1.toNatClampNeg) (ss v1.toNatClampNeg) v2 v3 ∧ s_X5_write_37 (va_up nu v1.toNatClampNeg (f_X3_put (nu v1.toNatClampNeg) (sw v1.toNatClampNeg) (ss v1.toNatClampNeg) v2 v3).1) sw ss ((f_X3_put (nu v1.toNatClampNeg) (sw v1.toNatClampNeg) (ss v1.toNatClampNeg) v2 v3).2)))))))
set_option maxRecDepth 100000 in
set_option maxHeartbeats 4000000 in
theorem e_X5_write {G : ng_GG} {hn : (Nat → Int32) → (Nat → Int32) → (Nat → Int32) → (Nat → Int32) → (Nat → Int32) → (Nat → Int32) → (Nat → Int32) → (Nat → Int32) → (Nat → Int32) → (Nat → Int32) → (Nat → Int32) → (Nat → Int32) → (Nat → Int32) → (Nat → Int32) → (Nat → Nat → Int64) → (Nat → Int32) → (Nat → Int32) → (Nat → Int32) → Int32 → (Nat → Nat → Int32) → Nat → ng_AM}  (V : ng_NL hn ) {C : Nat → Int32} {off : Nat → Int32} {dear : Nat → Int32} {proved : Nat → Int32} {Dg : Nat → Int32} {dw : Nat → Int32} {nw : Nat → Int32} {J : Nat → Int32} {bef : Nat → Int32} {mov : Nat → Int32} {nxt : Nat → Int32} {chn : Nat → Int32} {tol : Nat → Int32} {tw : Nat → Int32} {nu : Nat → Nat → Int64} {sw : Nat → Int32} {ss : Nat → Int32} {giv : Nat → Int32} {sE : Int32} {P : Nat → Nat → Int32} {pn : Nat}  {v1 : Int32} {v2 : Int32} {v3 : Int64} (h : s_X5_write  nu sw ss v1 v2 v3)  : ng_Ev G md_X5_write 0 [some (.ref 0), some (.int v1), some (.int v2), some (.long v3), none] [] (hn C off dear proved Dg dw nw J bef mov nxt chn tol tw nu sw ss giv sE P pn) (K_X5_write hn C off dear proved Dg dw nw J bef mov nxt chn tol tw sw ss giv sE P pn (f_X5_write  nu sw ss v1 v2 v3)) := by
  unfold s_X5_write at h
  unfold f_X5_write
  refine ev_aload_n dX5_write_0 rfl rfl rfl ?_
  refine ev_iload_n dX5_write_1 rfl rfl ?_
  have hs2 := h.1
  replace h := h.2
  refine bk_callV (As := [.int v1]) (st := []) (st2 := [.int (f_X5_isSlot v1)]) (M2 := hn C off dear proved Dg dw nw J bef mov nxt chn tol tw nu sw ss giv sE P pn) ok_X5_isSlot lk_RX5_243 (ng_rok.of rfl rfl) (NL_g0 V) rfl rfl rfl rfl rfl rfl dX5_write_2 (m_X5_isSlot V hs2) rfl rfl ?_
  refine bk_if_ne (tgt := 11) dX5_write_5 (by decide) (fun c5 => ?_) (fun c5 => ?_)
  · replace h := h c5
    refine ev_aload_n dX5_write_11 rfl rfl rfl ?_
    refine ev_get 5 4 fl_RX5_43 (NL_g0 V) rfl dX5_write_12 ?_
    refine ev_iload_n dX5_write_15 rfl rfl ?_
    have hi16 := h.1
    replace h := h.2
    refine ev_slot (NL_g18 V) hi16 dX5_write_16 ?_
    refine bk_callV (As := []) (st := []) (st2 := [.int (f_X3_isLaid (sw v1.toNatClampNeg))]) (M2 := hn C off dear proved Dg dw nw J bef mov nxt chn tol tw nu sw ss giv sE P pn) ok_X3_isLaid lk_RX5_250 (ng_rok.of rfl rfl) (NL_gs V (ng_slt hi16)) rfl rfl rfl rfl rfl rfl dX5_write_17 (m_X3_isLaid (NL_RT V (ng_slt hi16)) trivial) rfl rfl ?_
    refine bk_if_ne (tgt := 26) dX5_write_20 (by decide) (fun c20 => ?_) (fun c20 => ?_)
    · replace h := h c20
      refine ev_aload_n dX5_write_26 rfl rfl rfl ?_
      refine ev_get 5 4 fl_RX5_43 (NL_g0 V) rfl dX5_write_27 ?_
      refine ev_iload_n dX5_write_30 rfl rfl ?_
      have hi31 := h.1
      replace h := h.2
      refine ev_slot (NL_g18 V) hi31 dX5_write_31 ?_
      refine ev_iload_n dX5_write_32 rfl rfl ?_
      refine ev_lload_n dX5_write_33 rfl rfl ?_
      have hs34 := h.1
      replace h := h.2
      refine bk_callV (As := [.int v2, .long v3]) (st := []) (st2 := [.int ((f_X3_put (nu v1.toNatClampNeg) (sw v1.toNatClampNeg) (ss v1.toNatClampNeg) v2 v3).2)]) (M2 := hn C off dear proved Dg dw nw J bef mov nxt chn tol tw (va_up nu v1.toNatClampNeg (f_X3_put (nu v1.toNatClampNeg) (sw v1.toNatClampNeg) (ss v1.toNatClampNeg) v2 v3).1) sw ss giv sE P pn) ok_X3_put lk_RX5_257 (ng_rok.of rfl rfl) (NL_gs V (ng_slt hi31)) rfl rfl rfl rfl rfl rfl dX5_write_34 (ng_cast (m_X3_put (NL_T V C off dear proved Dg dw nw J bef mov nxt chn tol tw nu sw ss giv sE P pn v1.toNatClampNeg (ng_slt hi31)) hs34) (by simp only [ng_up_self]) rfl) rfl (by first | rfl | (simp only [K_X3_put, ng_up_self])) ?_
      exact ev_sub (e_X5_write_37 V h) (sub_n (sub_n (sub_n (sub_n (sub_n sub_e)))))
    · refine ev_bipush (v := (-5)) dX5_write_23 (by decide) ?_
      exact ev_iret rfl rfl dX5_write_25
  · refine ev_bipush (v := (-2)) dX5_write_8 (by decide) ?_
    exact ev_iret rfl rfl dX5_write_10
theorem m_X5_write {G : ng_GG} {hn : (Nat → Int32) → (Nat → Int32) → (Nat → Int32) → (Nat → Int32) → (Nat → Int32) → (Nat → Int32) → (Nat → Int32) → (Nat → Int32) → (Nat → Int32) → (Nat → Int32) → (Nat → Int32) → (Nat → Int32) → (Nat → Int32) → (Nat → Int32) → (Nat → Nat → Int64) → (Nat → Int32) → (Nat → Int32) → (Nat → Int32) → Int32 → (Nat → Nat → Int32) → Nat → ng_AM}  (V : ng_NL hn ) {C : Nat → Int32} {off : Nat → Int32} {dear : Nat → Int32} {proved : Nat → Int32} {Dg : Nat → Int32} {dw : Nat → Int32} {nw : Nat → Int32} {J : Nat → Int32} {bef : Nat → Int32} {mov : Nat → Int32} {nxt : Nat → Int32} {chn : Nat → Int32} {tol : Nat → Int32} {tw : Nat → Int32} {nu : Nat → Nat → Int64} {sw : Nat → Int32} {ss : Nat → Int32} {giv : Nat → Int32} {sE : Int32} {P : Nat → Nat → Int32} {pn : Nat} {v1 : Int32} {v2 : Int32} {v3 : Int64} (h : s_X5_write nu sw ss v1 v2 v3)  : ng_Ev G md_X5_write 0 (ng_en 5 [.ref 0, .int v1, .int v2, .long v3]) [] (hn C off dear proved Dg dw nw J bef mov nxt chn tol tw nu sw ss giv sE P pn) (K_X5_write hn C off dear proved Dg dw nw J bef mov nxt chn tol tw sw ss giv sE P pn (f_X5_write nu sw ss v1 v2 v3)) := e_X5_write V h 
def K_X5_paste (hn : (Nat → Int32) → (Nat → Int32) → (Nat → Int32) → (Nat → Int32) → (Nat → Int32) → (Nat → Int32) → (Nat → Int32) → (Nat → Int32) → (Nat → Int32) → (Nat → Int32) → (Nat → Int32) → (Nat → Int32) → (Nat → Int32) → (Nat → Int32) → (Nat → Nat → Int64) → (Nat → Int32) → (Nat → Int32) → (Nat → Int32) → Int32 → (Nat → Nat → Int32) → Nat → ng_AM) (C : Nat → Int32) (off : Nat → Int32) (dear : Nat → Int32) (proved : Nat → Int32) (Dg : Nat → Int32) (dw : Nat → Int32) (nw : Nat → Int32) (J : Nat → Int32) (bef : Nat → Int32) (mov : Nat → Int32) (nxt : Nat → Int32) (chn : Nat → Int32) (tol : Nat → Int32) (tw : Nat → Int32) (sw : Nat → Int32) (ss : Nat → Int32) (giv : Nat → Int32) (sE : Int32) (P : Nat → Nat → Int32) (pn : Nat) (r : (Nat → Nat → Int64) × Int32) : ng_RR := (some (.int (r.2)), hn C off dear proved Dg dw nw J bef mov nxt chn tol tw (r.1) sw ss giv sE P pn)
def f_X5_paste  (nu : Nat → Nat → Int64) (sw : Nat → Int32) (ss : Nat → Int32) (v1 : Int32) (v2 : Int32) (v3 : Int32) (v4 : Int32) (v5 : Int32) : (Nat → Nat → Int64) × Int32 := (if (f_X5_isSlot v1) = 0 then (nu, (-2)) else (if (f_X5_isSlot v3) = 0 then (nu, (-2)) else (if (f_X3_isLaid (sw v1.toNatClampNeg)) = 0 then (nu, (-5)) else (if (f_X3_isLaid (sw v3.toNatClampNeg)) = 0 then (nu, (-5)) else (if (sw v1.toNatClampNeg) = (sw v3.toNatClampNeg) then (if (f_X3_holds (ss v1.toNatClampNeg) v2 v5) = 0 then (nu, (-6)) else (if (f_X3_holds (ss v3.toNatClampNeg) v4 v5) = 0 then (nu, (-6)) else ((va_up nu v3.toNatClampNeg (va_cpy (nu v1.toNatClampNeg) (nu v3.toNatClampNeg) v2.toNatClampNeg v4.toNatClampNeg v5.toNatClampNeg)), nI 0))) else (nu, (-7)))))))
def s_X5_paste  (nu : Nat → Nat → Int64) (sw : Nat → Int32) (ss : Nat → Int32) (v1 : Int32) (v2 : Int32) (v3 : Int32) (v4 : Int32) (v5 : Int32) : Prop := (s_X5_isSlot v1 ∧ (¬ (f_X5_isSlot v1) = 0 → (s_X5_isSlot v3 ∧ (¬ (f_X5_isSlot v3) = 0 → (vp_in v1 4 ∧ (vp_in v3 4 ∧ (¬ (f_X3_isLaid (sw v1.toNatClampNeg)) = 0 → (¬ (f_X3_isLaid (sw v3.toNatClampNeg)) = 0 → ((sw v1.toNatClampNeg) = (sw v3.toNatClampNeg) → (¬ (f_X3_holds (ss v1.toNatClampNeg) v2 v5) = 0 → (¬ (f_X3_holds (ss v3.toNatClampNeg) v4 v5) = 0 → (¬ v2 < 0 ∧ ¬ v4 < 0 ∧ ¬ v5 < 0 ∧ v2.toNatClampNeg + v5.toNatClampNeg ≤ 60 ∧ v4.toNatClampNeg + v5.toNatClampNeg ≤ 60))))))))))))
set_option maxRecDepth 100000 in
set_option maxHeartbeats 4000000 in
theorem e_X5_paste {G : ng_GG} {hn : (Nat → Int32) → (Nat → Int32) → (Nat → Int32) → (Nat → Int32) → (Nat → Int32) → (Nat → Int32) → (Nat → Int32) → (Nat → Int32) → (Nat → Int32) → (Nat → Int32) → (Nat → Int32) → (Nat → Int32) → (Nat → Int32) → (Nat → Int32) → (Nat → Nat → Int64) → (Nat → Int32) → (Nat → Int32) → (Nat → Int32) → Int32 → (Nat → Nat → Int32) → Nat → ng_AM}  (V : ng_NL hn ) {C : Nat → Int32} {off : Nat → Int32} {dear : Nat → Int32} {proved : Nat → Int32} {Dg : Nat → Int32} {dw : Nat → Int32} {nw : Nat → Int32} {J : Nat → Int32} {bef : Nat → Int32} {mov : Nat → Int32} {nxt : Nat → Int32} {chn : Nat → Int32} {tol : Nat → Int32} {tw : Nat → Int32} {nu : Nat → Nat → Int64} {sw : Nat → Int32} {ss : Nat → Int32} {giv : Nat → Int32} {sE : Int32} {P : Nat → Nat → Int32} {pn : Nat}  {v1 : Int32} {v2 : Int32} {v3 : Int32} {v4 : Int32} {v5 : Int32} (h : s_X5_paste  nu sw ss v1 v2 v3 v4 v5)  : ng_Ev G md_X5_paste 0 [some (.ref 0), some (.int v1), some (.int v2), some (.int v3), some (.int v4), some (.int v5), none, none] [] (hn C off dear proved Dg dw nw J bef mov nxt chn tol tw nu sw ss giv sE P pn) (K_X5_paste hn C off dear proved Dg dw nw J bef mov nxt chn tol tw sw ss giv sE P pn (f_X5_paste  nu sw ss v1 v2 v3 v4 v5)) := by
  unfold s_X5_paste at h
  unfold f_X5_paste
  refine ev_aload_n dX5_paste_0 rfl rfl rfl ?_
  refine ev_iload_n dX5_paste_1 rfl rfl ?_
  have hs2 := h.1
  replace h := h.2
  refine bk_callV (As := [.int v1]) (st := []) (st2 := [.int (f_X5_isSlot v1)]) (M2 := hn C off dear proved Dg dw nw J bef mov nxt chn tol tw nu sw ss giv sE P pn) ok_X5_isSlot lk_RX5_243 (ng_rok.of rfl rfl) (NL_g0 V) rfl rfl rfl rfl rfl rfl dX5_paste_2 (m_X5_isSlot V hs2) rfl rfl ?_
  refine bk_if_eq (tgt := 16) dX5_paste_5 (by decide) (fun c5 => ?_) (fun c5 => ?_)
  · refine ev_bipush (v := (-2)) dX5_paste_16 (by decide) ?_
    exact ev_iret rfl rfl dX5_paste_18
  · replace h := h c5
    refine ev_aload_n dX5_paste_8 rfl rfl rfl ?_
    refine ev_iload_n dX5_paste_9 rfl rfl ?_
    have hs10 := h.1
    replace h := h.2
    refine bk_callV (As := [.int v3]) (st := []) (st2 := [.int (f_X5_isSlot v3)]) (M2 := hn C off dear proved Dg dw nw J bef mov nxt chn tol tw nu sw ss giv sE P pn) ok_X5_isSlot lk_RX5_243 (ng_rok.of rfl rfl) (NL_g0 V) rfl rfl rfl rfl rfl rfl dX5_paste_10 (m_X5_isSlot V hs10) rfl rfl ?_
    refine bk_if_ne (tgt := 19) dX5_paste_13 (by decide) (fun c13 => ?_) (fun c13 => ?_)
    · replace h := h c13
      refine ev_aload_n dX5_paste_19 rfl rfl rfl ?_
      refine ev_get 5 4 fl_RX5_43 (NL_g0 V) rfl dX5_paste_20 ?_
      refine ev_iload_n dX5_paste_23 rfl rfl ?_
      have hi24 := h.1
      replace h := h.2
      refine ev_slot (NL_g18 V) hi24 dX5_paste_24 ?_
      refine ev_astore (L' := [some (.ref 0), some (.int v1), some (.int v2), some (.int v3), some (.int v4), some (.int v5), some (.ref (19 + 2 * v1.toNatClampNeg)), none]) dX5_paste_25 (ng_lt rfl) rfl rfl ?_
      refine ev_aload_n dX5_paste_27 rfl rfl rfl ?_
      refine ev_get 5 4 fl_RX5_43 (NL_g0 V) rfl dX5_paste_28 ?_
      refine ev_iload_n dX5_paste_31 rfl rfl ?_
      have hi32 := h.1
      replace h := h.2
      refine ev_slot (NL_g18 V) hi32 dX5_paste_32 ?_
      refine ev_astore (L' := [some (.ref 0), some (.int v1), some (.int v2), some (.int v3), some (.int v4), some (.int v5), some (.ref (19 + 2 * v1.toNatClampNeg)), some (.ref (19 + 2 * v3.toNatClampNeg))]) dX5_paste_33 (ng_lt rfl) rfl rfl ?_
      refine ev_aload dX5_paste_35 rfl rfl ?_
      refine bk_callV (As := []) (st := []) (st2 := [.int (f_X3_isLaid (sw v1.toNatClampNeg))]) (M2 := hn C off dear proved Dg dw nw J bef mov nxt chn tol tw nu sw ss giv sE P pn) ok_X3_isLaid lk_RX5_250 (ng_rok.of rfl rfl) (NL_gs V (ng_slt hi24)) rfl rfl rfl rfl rfl rfl dX5_paste_37 (m_X3_isLaid (NL_RT V (ng_slt hi24)) trivial) rfl rfl ?_
      refine bk_if_eq (tgt := 51) dX5_paste_40 (by decide) (fun c40 => ?_) (fun c40 => ?_)
      · refine ev_bipush (v := (-5)) dX5_paste_51 (by decide) ?_
        exact ev_iret rfl rfl dX5_paste_53
      · replace h := h c40
        refine ev_aload dX5_paste_43 rfl rfl ?_
        refine bk_callV (As := []) (st := []) (st2 := [.int (f_X3_isLaid (sw v3.toNatClampNeg))]) (M2 := hn C off dear proved Dg dw nw J bef mov nxt chn tol tw nu sw ss giv sE P pn) ok_X3_isLaid lk_RX5_250 (ng_rok.of rfl rfl) (NL_gs V (ng_slt hi32)) rfl rfl rfl rfl rfl rfl dX5_paste_45 (m_X3_isLaid (NL_RT V (ng_slt hi32)) trivial) rfl rfl ?_
        refine bk_if_ne (tgt := 54) dX5_paste_48 (by decide) (fun c48 => ?_) (fun c48 => ?_)
        · replace h := h c48
          refine ev_aload dX5_paste_54 rfl rfl ?_
          refine ev_get 3 1 fl_RX5_254 (NL_gs V (ng_slt hi24)) rfl dX5_paste_56 ?_
          refine ev_aload dX5_paste_59 rfl rfl ?_
          refine ev_get 3 1 fl_RX5_254 (NL_gs V (ng_slt hi32)) rfl dX5_paste_61 ?_
          refine bk_icmp_eq (tgt := 70) dX5_paste_64 (by decide) (fun c64 => ?_) (fun c64 => ?_)
          · replace h := h c64
            refine ev_aload dX5_paste_70 rfl rfl ?_
            refine ev_iload_n dX5_paste_72 rfl rfl ?_
            refine ev_iload dX5_paste_73 rfl ?_
            refine bk_callV (As := [.int v2, .int v5]) (st := []) (st2 := [.int (f_X3_holds (ss v1.toNatClampNeg) v2 v5)]) (M2 := hn C off dear proved Dg dw nw J bef mov nxt chn tol tw nu sw ss giv sE P pn) ok_X3_holds lk_RX5_261 (ng_rok.of rfl rfl) (NL_gs V (ng_slt hi24)) rfl rfl rfl rfl rfl rfl dX5_paste_75 (m_X3_holds (NL_RT V (ng_slt hi24)) trivial) rfl rfl ?_
            refine bk_if_eq (tgt := 93) dX5_paste_78 (by decide) (fun c78 => ?_) (fun c78 => ?_)
            · refine ev_bipush (v := (-6)) dX5_paste_93 (by decide) ?_
              exact ev_iret rfl rfl dX5_paste_95
            · replace h := h c78
              refine ev_aload dX5_paste_81 rfl rfl ?_
              refine ev_iload dX5_paste_83 rfl ?_
              refine ev_iload dX5_paste_85 rfl ?_
              refine bk_callV (As := [.int v4, .int v5]) (st := []) (st2 := [.int (f_X3_holds (ss v3.toNatClampNeg) v4 v5)]) (M2 := hn C off dear proved Dg dw nw J bef mov nxt chn tol tw nu sw ss giv sE P pn) ok_X3_holds lk_RX5_261 (ng_rok.of rfl rfl) (NL_gs V (ng_slt hi32)) rfl rfl rfl rfl rfl rfl dX5_paste_87 (m_X3_holds (NL_RT V (ng_slt hi32)) trivial) rfl rfl ?_
              refine bk_if_ne (tgt := 96) dX5_paste_90 (by decide) (fun c90 => ?_) (fun c90 => ?_)
              · replace h := h c90
                refine ev_aload dX5_paste_96 rfl rfl ?_
                refine ev_get 3 0 fl_RX5_264 (NL_gs V (ng_slt hi24)) rfl dX5_paste_98 ?_
                refine ev_iload_n dX5_paste_101 rfl rfl ?_
                refine ev_aload dX5_paste_102 rfl rfl ?_
                refine ev_get 3 0 fl_RX5_264 (NL_gs V (ng_slt hi32)) rfl dX5_paste_104 ?_
                refine ev_iload dX5_paste_107 rfl ?_
                refine ev_iload dX5_paste_109 rfl ?_
                have ha111 := h
                refine ev_copyl lk_RX5_268 (NL_gt V (ng_slt hi24)) (NL_gt V (ng_slt hi32)) ha111.1 ha111.2.1 ha111.2.2.1 ha111.2.2.2.1 ha111.2.2.2.2 (Nat.le_of_ble_eq_true rfl) (Nat.le_of_ble_eq_true rfl) (NL_st V (ng_slt hi32)) dX5_paste_111 ?_
                refine ev_iconst (v := nI 0) dX5_paste_114 (by decide) ?_
                exact ev_iret rfl rfl dX5_paste_115
              · refine ev_bipush (v := (-6)) dX5_paste_93 (by decide) ?_
                exact ev_iret rfl rfl dX5_paste_95
          · refine ev_bipush (v := (-7)) dX5_paste_67 (by decide) ?_
            exact ev_iret rfl rfl dX5_paste_69
        · refine ev_bipush (v := (-5)) dX5_paste_51 (by decide) ?_
          exact ev_iret rfl rfl dX5_paste_53
    · refine ev_bipush (v := (-2)) dX5_paste_16 (by decide) ?_
      exact ev_iret rfl rfl dX5_paste_18
theorem m_X5_paste {G : ng_GG} {hn : (Nat → Int32) → (Nat → Int32) → (Nat → Int32) → (Nat → Int32) → (Nat → Int32) → (Nat → Int32) → (Nat → Int32) → (Nat → Int32) → (Nat → Int32) → (Nat → Int32) → (Nat → Int32) → (Nat → Int32) → (Nat → Int32) → (Nat → Int32) → (Nat → Nat → Int64) → (Nat → Int32) → (Nat → Int32) → (Nat → Int32) → Int32 → (Nat → Nat → Int32) → Nat → ng_AM}  (V : ng_NL hn ) {C : Nat → Int32} {off : Nat → Int32} {dear : Nat → Int32} {proved : Nat → Int32} {Dg : Nat → Int32} {dw : Nat → Int32} {nw : Nat → Int32} {J : Nat → Int32} {bef : Nat → Int32} {mov : Nat → Int32} {nxt : Nat → Int32} {chn : Nat → Int32} {tol : Nat → Int32} {tw : Nat → Int32} {nu : Nat → Nat → Int64} {sw : Nat → Int32} {ss : Nat → Int32} {giv : Nat → Int32} {sE : Int32} {P : Nat → Nat → Int32} {pn : Nat} {v1 : Int32} {v2 : Int32} {v3 : Int32} {v4 : Int32} {v5 : Int32} (h : s_X5_paste nu sw ss v1 v2 v3 v4 v5)  : ng_Ev G md_X5_paste 0 (ng_en 8 [.ref 0, .int v1, .int v2, .int v3, .int v4, .int v5]) [] (hn C off dear proved Dg dw nw J bef mov nxt chn tol tw nu sw ss giv sE P pn) (K_X5_paste hn C off dear proved Dg dw nw J bef mov nxt chn tol tw sw ss giv sE P pn (f_X5_paste nu sw ss v1 v2 v3 v4 v5)) := e_X5_paste V h 
def K_X5_readAct (hn : (Nat → Int32) → (Nat → Int32) → (Nat → Int32) → (Nat → Int32) → (Nat → Int32) → (Nat → Int32) → (Nat → Int32) → (Nat → Int32) → (Nat → Int32) → (Nat → Int32) → (Nat → Int32) → (Nat → Int32) → (Nat → Int32) → (Nat → Int32) → (Nat → Nat → Int64) → (Nat → Int32) → (Nat → Int32) → (Nat → Int32) → Int32 → (Nat → Nat → Int32) → Nat → ng_AM) (C : Nat → Int32) (off : Nat → Int32) (dear : Nat → Int32) (proved : Nat → Int32) (Dg : Nat → Int32) (dw : Nat → Int32) (nw : Nat → Int32) (J : Nat → Int32) (bef : Nat → Int32) (mov : Nat → Int32) (nxt : Nat → Int32) (chn : Nat → Int32) (tol : Nat → Int32) (tw : Nat → Int32) (nu : Nat → Nat → Int64) (sw : Nat → Int32) (ss : Nat → Int32) (sE : Int32) (P : Nat → Nat → Int32) (pn : Nat) (r : (Nat → Int32) × Int32) : ng_RR := (some (.int (r.2)), hn C off dear proved Dg dw nw J bef mov nxt chn tol tw nu sw ss (r.1) sE P pn)
def f_X5_readAct_40  : Nat → (Nat → Nat → Int64) → (Nat → Int32) → (Nat → Int32) → Nat → Int32 → Int32 → Int32 → ((Nat → Int32) × Int32)
  | 0, _, _, giv, _, _, _, _ => (giv, 0)
  | n + 1, nu, ss, giv, j1, v2, v3, v4 => (if v3 ≤ v4 then (giv, nI 0) else (if (Int32.ofNat 4) ≤ v4 then (giv, nI 0) else (if ((v2 + (nI 1)) + v4) < (ss j1) then (if (f_X3_isInt (nu j1) (ss j1) ((v2 + (nI 1)) + v4)) = 0 then (giv, nI 4) else f_X5_readAct_40 n nu ss (upd giv v4.toNatClampNeg (f_X3_intAt (nu j1) (ss j1) ((v2 + (nI 1)) + v4))) j1 v2 v3 (v4 + nI 1)) else (giv, nI 6))))
def s_X5_readAct_40  : Nat → (Nat → Nat → Int64) → (Nat → Int32) → (Nat → Int32) → Nat → Int32 → Int32 → Int32 → Prop
  | 0, _, _, _, _, _, _, _ => False
  | n + 1, nu, ss, giv, j1, v2, v3, v4 => (¬ v3 ≤ v4 → (¬ (Int32.ofNat 4) ≤ v4 → (((v2 + (nI 1)) + v4) < (ss j1) → (s_X3_isInt (nu j1) (ss j1) ((v2 + (nI 1)) + v4) ∧ (¬ (f_X3_isInt (nu j1) (ss j1) ((v2 + (nI 1)) + v4)) = 0 → (s_X3_intAt (nu j1) (ss j1) ((v2 + (nI 1)) + v4) ∧ (vp_in v4 4 ∧ s_X5_readAct_40 n nu ss (upd giv v4.toNatClampNeg (f_X3_intAt (nu j1) (ss j1) ((v2 + (nI 1)) + v4))) j1 v2 v3 (v4 + nI 1))))))))
set_option maxRecDepth 100000 in
set_option maxHeartbeats 4000000 in
theorem e_X5_readAct_40 {G : ng_GG} {hn : (Nat → Int32) → (Nat → Int32) → (Nat → Int32) → (Nat → Int32) → (Nat → Int32) → (Nat → Int32) → (Nat → Int32) → (Nat → Int32) → (Nat → Int32) → (Nat → Int32) → (Nat → Int32) → (Nat → Int32) → (Nat → Int32) → (Nat → Int32) → (Nat → Nat → Int64) → (Nat → Int32) → (Nat → Int32) → (Nat → Int32) → Int32 → (Nat → Nat → Int32) → Nat → ng_AM}  (V : ng_NL hn )  : ∀ (n : Nat) (C : Nat → Int32) (off : Nat → Int32) (dear : Nat → Int32) (proved : Nat → Int32) (Dg : Nat → Int32) (dw : Nat → Int32) (nw : Nat → Int32) (J : Nat → Int32) (bef : Nat → Int32) (mov : Nat → Int32) (nxt : Nat → Int32) (chn : Nat → Int32) (tol : Nat → Int32) (tw : Nat → Int32) (nu : Nat → Nat → Int64) (sw : Nat → Int32) (ss : Nat → Int32) (giv : Nat → Int32) (sE : Int32) (P : Nat → Nat → Int32) (pn : Nat) (j1 : Nat) (v2 : Int32) (v3 : Int32) (v4 : Int32), s_X5_readAct_40  n nu ss giv j1 v2 v3 v4 → j1 < 4 → ng_Ev G md_X5_readAct 40 [some (.ref 0), some (.ref (19 + 2 * j1)), some (.int v2), some (.int v3), some (.int v4), none] [] (hn C off dear proved Dg dw nw J bef mov nxt chn tol tw nu sw ss giv sE P pn) (K_X5_readAct hn C off dear proved Dg dw nw J bef mov nxt chn tol tw nu sw ss sE P pn (f_X5_readAct_40  n nu ss giv j1 v2 v3 v4)) := by
  intro n
  induction n with
  | zero => intro C off dear proved Dg dw nw J bef mov nxt chn tol tw nu sw ss giv sE P pn j1 v2 v3 v4 h; exact False.elim h
  | succ n ih =>
    intro C off dear proved Dg dw nw J bef mov nxt chn tol tw nu sw ss giv sE P pn j1 v2 v3 v4 h hj1
    rw [s_X5_readAct_40] at h
    rw [f_X5_readAct_40]
    refine ev_iload dX5_readAct_40 rfl ?_
    refine ev_iload_n dX5_readAct_42 rfl rfl ?_
    refine bk_icmp_ge (tgt := 106) dX5_readAct_43 (by decide) (fun c43 => ?_) (fun c43 => ?_)
    · refine ev_iconst (v := nI 0) dX5_readAct_106 (by decide) ?_
      exact ev_iret rfl rfl dX5_readAct_107
    · replace h := h c43
      refine ev_iload dX5_readAct_46 rfl ?_
      refine ev_aload_n dX5_readAct_48 rfl rfl rfl ?_
      refine ev_get 5 5 fl_RX5_48 (NL_g0 V) rfl dX5_readAct_49 ?_
      refine ev_alen (v := (Int32.ofNat 4)) .int (fun _ => rfl) (NL_g27 V) rfl dX5_readAct_52 ?_
      refine bk_icmp_ge (tgt := 106) dX5_readAct_53 (by decide) (fun c53 => ?_) (fun c53 => ?_)
      · refine ev_iconst (v := nI 0) dX5_readAct_106 (by decide) ?_
        exact ev_iret rfl rfl dX5_readAct_107
      · replace h := h c53
        refine ev_iload_n dX5_readAct_56 rfl rfl ?_
        refine ev_iconst (v := nI 1) dX5_readAct_57 (by decide) ?_
        refine ev_iadd dX5_readAct_58 ?_
        refine ev_iload dX5_readAct_59 rfl ?_
        refine ev_iadd dX5_readAct_61 ?_
        refine ev_istore (L' := [some (.ref 0), some (.ref (19 + 2 * j1)), some (.int v2), some (.int v3), some (.int v4), some (.int ((v2 + (nI 1)) + v4))]) dX5_readAct_62 (ng_lt rfl) rfl ?_
        refine ev_iload dX5_readAct_64 rfl ?_
        refine ev_aload_n dX5_readAct_66 rfl rfl rfl ?_
        refine ev_get 3 2 fl_RX5_274 (NL_gs V hj1) rfl dX5_readAct_67 ?_
        refine bk_icmp_lt (tgt := 76) dX5_readAct_70 (by decide) (fun c70 => ?_) (fun c70 => ?_)
        · replace h := h c70
          refine ev_aload_n dX5_readAct_76 rfl rfl rfl ?_
          refine ev_iload dX5_readAct_77 rfl ?_
          have hs79 := h.1
          replace h := h.2
          refine bk_callV (As := [.int ((v2 + (nI 1)) + v4)]) (st := []) (st2 := [.int (f_X3_isInt (nu j1) (ss j1) ((v2 + (nI 1)) + v4))]) (M2 := hn C off dear proved Dg dw nw J bef mov nxt chn tol tw nu sw ss giv sE P pn) ok_X3_isInt lk_RX5_293 (ng_rok.of rfl rfl) (NL_gs V hj1) rfl rfl rfl rfl rfl rfl dX5_readAct_79 (m_X3_isInt (NL_RT V hj1) hs79) rfl rfl ?_
          refine bk_if_ne (tgt := 87) dX5_readAct_82 (by decide) (fun c82 => ?_) (fun c82 => ?_)
          · replace h := h c82
            refine ev_aload_n dX5_readAct_87 rfl rfl rfl ?_
            refine ev_get 5 5 fl_RX5_48 (NL_g0 V) rfl dX5_readAct_88 ?_
            refine ev_iload dX5_readAct_91 rfl ?_
            refine ev_aload_n dX5_readAct_93 rfl rfl rfl ?_
            refine ev_iload dX5_readAct_94 rfl ?_
            have hs96 := h.1
            replace h := h.2
            refine bk_callV (As := [.int ((v2 + (nI 1)) + v4)]) (st := [.int v4, .ref 27]) (st2 := [.int (f_X3_intAt (nu j1) (ss j1) ((v2 + (nI 1)) + v4)), .int v4, .ref 27]) (M2 := hn C off dear proved Dg dw nw J bef mov nxt chn tol tw nu sw ss giv sE P pn) ok_X3_intAt lk_RX5_281 (ng_rok.of rfl rfl) (NL_gs V hj1) rfl rfl rfl rfl rfl rfl dX5_readAct_96 (m_X3_intAt (NL_RT V hj1) hs96) rfl rfl ?_
            have hi99 := h.1
            replace h := h.2
            refine ev_iast (NL_g27 V) hi99 (NL_s27 V) dX5_readAct_99 ?_
            refine ev_iinc (v := v4 + nI 1) (L' := [some (.ref 0), some (.ref (19 + 2 * j1)), some (.int v2), some (.int v3), some (.int (v4 + nI 1)), some (.int ((v2 + (nI 1)) + v4))]) dX5_readAct_100 rfl (by rfl) rfl ?_
            refine ev_goto (tgt := 40) dX5_readAct_103 (by decide) ?_
            exact ev_sub (ih C off dear proved Dg dw nw J bef mov nxt chn tol tw nu sw ss (upd giv v4.toNatClampNeg (f_X3_intAt (nu j1) (ss j1) ((v2 + (nI 1)) + v4))) sE P pn j1 v2 v3 (v4 + nI 1) h hj1) (sub_s (sub_s (sub_s (sub_s (sub_s (sub_n sub_e))))))
          · refine ev_iconst (v := nI 4) dX5_readAct_85 (by decide) ?_
            exact ev_iret rfl rfl dX5_readAct_86
        · refine ev_bipush (v := nI 6) dX5_readAct_73 (by decide) ?_
          exact ev_iret rfl rfl dX5_readAct_75
def f_X5_readAct  (nu : Nat → Nat → Int64) (ss : Nat → Int32) (giv : Nat → Int32) (j1 : Nat) (v2 : Int32) : (Nat → Int32) × Int32 := (if (f_X3_isInt (nu j1) (ss j1) v2) = 0 then (giv, nI 4) else (if (f_X5_within (f_X3_intAt (nu j1) (ss j1) v2) (nI 0) ((8 : Int32) - (nI 1))) = 0 then (giv, nI 4) else f_X5_readAct_40 ng_F nu ss giv j1 v2 (f_X5_needs (f_X3_intAt (nu j1) (ss j1) v2)) (nI 0)))
def s_X5_readAct  (nu : Nat → Nat → Int64) (ss : Nat → Int32) (giv : Nat → Int32) (j1 : Nat) (v2 : Int32) : Prop := (s_X3_isInt (nu j1) (ss j1) v2 ∧ (¬ (f_X3_isInt (nu j1) (ss j1) v2) = 0 → (s_X3_intAt (nu j1) (ss j1) v2 ∧ (¬ (f_X5_within (f_X3_intAt (nu j1) (ss j1) v2) (nI 0) ((8 : Int32) - (nI 1))) = 0 → (s_X3_intAt (nu j1) (ss j1) v2 ∧ (s_X5_needs (f_X3_intAt (nu j1) (ss j1) v2) ∧ s_X5_readAct_40 ng_F nu ss giv j1 v2 (f_X5_needs (f_X3_intAt (nu j1) (ss j1) v2)) (nI 0)))))))
set_option maxRecDepth 100000 in
set_option maxHeartbeats 4000000 in
theorem e_X5_readAct {G : ng_GG} {hn : (Nat → Int32) → (Nat → Int32) → (Nat → Int32) → (Nat → Int32) → (Nat → Int32) → (Nat → Int32) → (Nat → Int32) → (Nat → Int32) → (Nat → Int32) → (Nat → Int32) → (Nat → Int32) → (Nat → Int32) → (Nat → Int32) → (Nat → Int32) → (Nat → Nat → Int64) → (Nat → Int32) → (Nat → Int32) → (Nat → Int32) → Int32 → (Nat → Nat → Int32) → Nat → ng_AM}  (V : ng_NL hn ) {C : Nat → Int32} {off : Nat → Int32} {dear : Nat → Int32} {proved : Nat → Int32} {Dg : Nat → Int32} {dw : Nat → Int32} {nw : Nat → Int32} {J : Nat → Int32} {bef : Nat → Int32} {mov : Nat → Int32} {nxt : Nat → Int32} {chn : Nat → Int32} {tol : Nat → Int32} {tw : Nat → Int32} {nu : Nat → Nat → Int64} {sw : Nat → Int32} {ss : Nat → Int32} {giv : Nat → Int32} {sE : Int32} {P : Nat → Nat → Int32} {pn : Nat}  {j1 : Nat} {v2 : Int32} (h : s_X5_readAct  nu ss giv j1 v2) (hj1 : j1 < 4) : ng_Ev G md_X5_readAct 0 [some (.ref 0), some (.ref (19 + 2 * j1)), some (.int v2), none, none, none] [] (hn C off dear proved Dg dw nw J bef mov nxt chn tol tw nu sw ss giv sE P pn) (K_X5_readAct hn C off dear proved Dg dw nw J bef mov nxt chn tol tw nu sw ss sE P pn (f_X5_readAct  nu ss giv j1 v2)) := by
  unfold s_X5_readAct at h
  unfold f_X5_readAct
  refine ev_aload_n dX5_readAct_0 rfl rfl rfl ?_
  refine ev_iload_n dX5_readAct_1 rfl rfl ?_
  have hs2 := h.1
  replace h := h.2
  refine bk_callV (As := [.int v2]) (st := []) (st2 := [.int (f_X3_isInt (nu j1) (ss j1) v2)]) (M2 := hn C off dear proved Dg dw nw J bef mov nxt chn tol tw nu sw ss giv sE P pn) ok_X3_isInt lk_RX5_293 (ng_rok.of rfl rfl) (NL_gs V hj1) rfl rfl rfl rfl rfl rfl dX5_readAct_2 (m_X3_isInt (NL_RT V hj1) hs2) rfl rfl ?_
  refine bk_if_eq (tgt := 26) dX5_readAct_5 (by decide) (fun c5 => ?_) (fun c5 => ?_)
  · refine ev_iconst (v := nI 4) dX5_readAct_26 (by decide) ?_
    exact ev_iret rfl rfl dX5_readAct_27
  · replace h := h c5
    refine ev_aload_n dX5_readAct_8 rfl rfl rfl ?_
    refine ev_iload_n dX5_readAct_9 rfl rfl ?_
    have hs10 := h.1
    replace h := h.2
    refine bk_callV (As := [.int v2]) (st := []) (st2 := [.int (f_X3_intAt (nu j1) (ss j1) v2)]) (M2 := hn C off dear proved Dg dw nw J bef mov nxt chn tol tw nu sw ss giv sE P pn) ok_X3_intAt lk_RX5_281 (ng_rok.of rfl rfl) (NL_gs V hj1) rfl rfl rfl rfl rfl rfl dX5_readAct_10 (m_X3_intAt (NL_RT V hj1) hs10) rfl rfl ?_
    refine ev_iconst (v := nI 0) dX5_readAct_13 (by decide) ?_
    refine ev_gets5 fl_RX5_290 dX5_readAct_14 ?_
    refine ev_tlen5 dX5_readAct_17 ?_
    refine ev_iconst (v := nI 1) dX5_readAct_18 (by decide) ?_
    refine ev_isub dX5_readAct_19 ?_
    refine bk_callS (As := [.int (f_X3_intAt (nu j1) (ss j1) v2), .int (nI 0), .int ((8 : Int32) - (nI 1))]) (st := []) (st2 := [.int (f_X5_within (f_X3_intAt (nu j1) (ss j1) v2) (nI 0) ((8 : Int32) - (nI 1)))]) (M2 := hn C off dear proved Dg dw nw J bef mov nxt chn tol tw nu sw ss giv sE P pn) ok_X5_within lk_RX5_56 (ng_rok.of rfl rfl) rfl rfl rfl rfl dX5_readAct_20 (m_X5_within trivial) rfl rfl ?_
    refine bk_if_ne (tgt := 28) dX5_readAct_23 (by decide) (fun c23 => ?_) (fun c23 => ?_)
    · replace h := h c23
      refine ev_aload_n dX5_readAct_28 rfl rfl rfl ?_
      refine ev_iload_n dX5_readAct_29 rfl rfl ?_
      have hs30 := h.1
      replace h := h.2
      refine bk_callV (As := [.int v2]) (st := []) (st2 := [.int (f_X3_intAt (nu j1) (ss j1) v2)]) (M2 := hn C off dear proved Dg dw nw J bef mov nxt chn tol tw nu sw ss giv sE P pn) ok_X3_intAt lk_RX5_281 (ng_rok.of rfl rfl) (NL_gs V hj1) rfl rfl rfl rfl rfl rfl dX5_readAct_30 (m_X3_intAt (NL_RT V hj1) hs30) rfl rfl ?_
      have hs33 := h.1
      replace h := h.2
      refine bk_callS (As := [.int (f_X3_intAt (nu j1) (ss j1) v2)]) (st := []) (st2 := [.int (f_X5_needs (f_X3_intAt (nu j1) (ss j1) v2))]) (M2 := hn C off dear proved Dg dw nw J bef mov nxt chn tol tw nu sw ss giv sE P pn) ok_X5_needs lk_RX5_287 (ng_rok.of rfl rfl) rfl rfl rfl rfl dX5_readAct_33 (m_X5_needs hs33) rfl rfl ?_
      refine ev_istore_n (L' := [some (.ref 0), some (.ref (19 + 2 * j1)), some (.int v2), some (.int (f_X5_needs (f_X3_intAt (nu j1) (ss j1) v2))), none, none]) dX5_readAct_36 rfl (ng_lt rfl) rfl ?_
      refine ev_iconst (v := nI 0) dX5_readAct_37 (by decide) ?_
      refine ev_istore (L' := [some (.ref 0), some (.ref (19 + 2 * j1)), some (.int v2), some (.int (f_X5_needs (f_X3_intAt (nu j1) (ss j1) v2))), some (.int (nI 0)), none]) dX5_readAct_38 (ng_lt rfl) rfl ?_
      exact ev_sub (e_X5_readAct_40 V ng_F C off dear proved Dg dw nw J bef mov nxt chn tol tw nu sw ss giv sE P pn j1 v2 (f_X5_needs (f_X3_intAt (nu j1) (ss j1) v2)) (nI 0) h hj1) (sub_s (sub_s (sub_s (sub_s (sub_s (sub_n sub_e))))))
    · refine ev_iconst (v := nI 4) dX5_readAct_26 (by decide) ?_
      exact ev_iret rfl rfl dX5_readAct_27
theorem m_X5_readAct {G : ng_GG} {hn : (Nat → Int32) → (Nat → Int32) → (Nat → Int32) → (Nat → Int32) → (Nat → Int32) → (Nat → Int32) → (Nat → Int32) → (Nat → Int32) → (Nat → Int32) → (Nat → Int32) → (Nat → Int32) → (Nat → Int32) → (Nat → Int32) → (Nat → Int32) → (Nat → Nat → Int64) → (Nat → Int32) → (Nat → Int32) → (Nat → Int32) → Int32 → (Nat → Nat → Int32) → Nat → ng_AM}  (V : ng_NL hn ) {C : Nat → Int32} {off : Nat → Int32} {dear : Nat → Int32} {proved : Nat → Int32} {Dg : Nat → Int32} {dw : Nat → Int32} {nw : Nat → Int32} {J : Nat → Int32} {bef : Nat → Int32} {mov : Nat → Int32} {nxt : Nat → Int32} {chn : Nat → Int32} {tol : Nat → Int32} {tw : Nat → Int32} {nu : Nat → Nat → Int64} {sw : Nat → Int32} {ss : Nat → Int32} {giv : Nat → Int32} {sE : Int32} {P : Nat → Nat → Int32} {pn : Nat} {j1 : Nat} {v2 : Int32} (h : s_X5_readAct nu ss giv j1 v2) (hj1 : j1 < 4) : ng_Ev G md_X5_readAct 0 (ng_en 6 [.ref 0, .ref (19 + 2 * j1), .int v2]) [] (hn C off dear proved Dg dw nw J bef mov nxt chn tol tw nu sw ss giv sE P pn) (K_X5_readAct hn C off dear proved Dg dw nw J bef mov nxt chn tol tw nu sw ss sE P pn (f_X5_readAct nu ss giv j1 v2)) := e_X5_readAct V h hj1
def K_X5_isDone (hn : (Nat → Int32) → (Nat → Int32) → (Nat → Int32) → (Nat → Int32) → (Nat → Int32) → (Nat → Int32) → (Nat → Int32) → (Nat → Int32) → (Nat → Int32) → (Nat → Int32) → (Nat → Int32) → (Nat → Int32) → (Nat → Int32) → (Nat → Int32) → (Nat → Nat → Int64) → (Nat → Int32) → (Nat → Int32) → (Nat → Int32) → Int32 → (Nat → Nat → Int32) → Nat → ng_AM) (off : Nat → Int32) (dear : Nat → Int32) (J : Nat → Int32) (bef : Nat → Int32) (mov : Nat → Int32) (nxt : Nat → Int32) (chn : Nat → Int32) (tol : Nat → Int32) (tw : Nat → Int32) (nu : Nat → Nat → Int64) (sw : Nat → Int32) (ss : Nat → Int32) (giv : Nat → Int32) (sE : Int32) (P : Nat → Nat → Int32) (pn : Nat) (r : (Nat → Int32) × (Nat → Int32) × (Nat → Int32) × (Nat → Int32) × (Nat → Int32) × Int32) : ng_RR := (some (.int (r.2.2.2.2.2)), hn (r.1) off dear (r.2.1) (r.2.2.1) (r.2.2.2.1) (r.2.2.2.2.1) J bef mov nxt chn tol tw nu sw ss giv sE P pn)
def f_X5_isDone_70  (C : Nat → Int32) (off : Nat → Int32) (dear : Nat → Int32) (proved : Nat → Int32) (Dg : Nat → Int32) (dw : Nat → Int32) (nw : Nat → Int32) (giv : Nat → Int32) (t0 : Int32) : (Nat → Int32) × (Nat → Int32) × (Nat → Int32) × (Nat → Int32) × (Nat → Int32) × Int32 := (if t0 < 0 then (C, proved, Dg, dw, nw, nI 0) else (C, proved, Dg, dw, nw, nI 1))
def s_X5_isDone_70  (C : Nat → Int32) (off : Nat → Int32) (dear : Nat → Int32) (proved : Nat → Int32) (Dg : Nat → Int32) (dw : Nat → Int32) (nw : Nat → Int32) (giv : Nat → Int32) (t0 : Int32) : Prop := True
set_option maxRecDepth 100000 in
set_option maxHeartbeats 4000000 in
theorem e_X5_isDone_70 {G : ng_GG} {hn : (Nat → Int32) → (Nat → Int32) → (Nat → Int32) → (Nat → Int32) → (Nat → Int32) → (Nat → Int32) → (Nat → Int32) → (Nat → Int32) → (Nat → Int32) → (Nat → Int32) → (Nat → Int32) → (Nat → Int32) → (Nat → Int32) → (Nat → Int32) → (Nat → Nat → Int64) → (Nat → Int32) → (Nat → Int32) → (Nat → Int32) → Int32 → (Nat → Nat → Int32) → Nat → ng_AM}  (V : ng_NL hn ) {C : Nat → Int32} {off : Nat → Int32} {dear : Nat → Int32} {proved : Nat → Int32} {Dg : Nat → Int32} {dw : Nat → Int32} {nw : Nat → Int32} {J : Nat → Int32} {bef : Nat → Int32} {mov : Nat → Int32} {nxt : Nat → Int32} {chn : Nat → Int32} {tol : Nat → Int32} {tw : Nat → Int32} {nu : Nat → Nat → Int64} {sw : Nat → Int32} {ss : Nat → Int32} {giv : Nat → Int32} {sE : Int32} {P : Nat → Nat → Int32} {pn : Nat}  {t0 : Int32} (h : s_X5_isDone_70  C off dear proved Dg dw nw giv t0)  : ng_Ev G md_X5_isDone 70 [none, none] [.int t0] (hn C off dear proved Dg dw nw J bef mov nxt chn tol tw nu sw ss giv sE P pn) (K_X5_isDone hn off dear J bef mov nxt chn tol tw nu sw ss giv sE P pn (f_X5_isDone_70  C off dear proved Dg dw nw giv t0)) := by
  unfold s_X5_isDone_70 at h
  unfold f_X5_isDone_70
  refine bk_if_lt (tgt := 77) dX5_isDone_70 (by decide) (fun c70 => ?_) (fun c70 => ?_)
  · refine ev_iconst (v := nI 0) dX5_isDone_77 (by decide) ?_
    exact ev_iret rfl (by decide) dX5_isDone_78
  · refine ev_iconst (v := nI 1) dX5_isDone_73 (by decide) ?_
    refine ev_goto (tgt := 78) dX5_isDone_74 (by decide) ?_
    exact ev_iret rfl (by decide) dX5_isDone_78
def f_X5_isDone_95  (C : Nat → Int32) (off : Nat → Int32) (dear : Nat → Int32) (proved : Nat → Int32) (Dg : Nat → Int32) (dw : Nat → Int32) (nw : Nat → Int32) (giv : Nat → Int32) (t0 : Int32) : (Nat → Int32) × (Nat → Int32) × (Nat → Int32) × (Nat → Int32) × (Nat → Int32) × Int32 := (if t0 < 0 then (C, proved, Dg, dw, nw, nI 0) else (C, proved, Dg, dw, nw, nI 1))
def s_X5_isDone_95  (C : Nat → Int32) (off : Nat → Int32) (dear : Nat → Int32) (proved : Nat → Int32) (Dg : Nat → Int32) (dw : Nat → Int32) (nw : Nat → Int32) (giv : Nat → Int32) (t0 : Int32) : Prop := True
set_option maxRecDepth 100000 in
set_option maxHeartbeats 4000000 in
theorem e_X5_isDone_95 {G : ng_GG} {hn : (Nat → Int32) → (Nat → Int32) → (Nat → Int32) → (Nat → Int32) → (Nat → Int32) → (Nat → Int32) → (Nat → Int32) → (Nat → Int32) → (Nat → Int32) → (Nat → Int32) → (Nat → Int32) → (Nat → Int32) → (Nat → Int32) → (Nat → Int32) → (Nat → Nat → Int64) → (Nat → Int32) → (Nat → Int32) → (Nat → Int32) → Int32 → (Nat → Nat → Int32) → Nat → ng_AM}  (V : ng_NL hn ) {C : Nat → Int32} {off : Nat → Int32} {dear : Nat → Int32} {proved : Nat → Int32} {Dg : Nat → Int32} {dw : Nat → Int32} {nw : Nat → Int32} {J : Nat → Int32} {bef : Nat → Int32} {mov : Nat → Int32} {nxt : Nat → Int32} {chn : Nat → Int32} {tol : Nat → Int32} {tw : Nat → Int32} {nu : Nat → Nat → Int64} {sw : Nat → Int32} {ss : Nat → Int32} {giv : Nat → Int32} {sE : Int32} {P : Nat → Nat → Int32} {pn : Nat}  {t0 : Int32} (h : s_X5_isDone_95  C off dear proved Dg dw nw giv t0)  : ng_Ev G md_X5_isDone 95 [none, none] [.int t0] (hn C off dear proved Dg dw nw J bef mov nxt chn tol tw nu sw ss giv sE P pn) (K_X5_isDone hn off dear J bef mov nxt chn tol tw nu sw ss giv sE P pn (f_X5_isDone_95  C off dear proved Dg dw nw giv t0)) := by
  unfold s_X5_isDone_95 at h
  unfold f_X5_isDone_95
  refine bk_if_lt (tgt := 102) dX5_isDone_95 (by decide) (fun c95 => ?_) (fun c95 => ?_)
  · refine ev_iconst (v := nI 0) dX5_isDone_102 (by decide) ?_
    exact ev_iret rfl (by decide) dX5_isDone_103
  · refine ev_iconst (v := nI 1) dX5_isDone_98 (by decide) ?_
    refine ev_goto (tgt := 103) dX5_isDone_99 (by decide) ?_
    exact ev_iret rfl (by decide) dX5_isDone_103
def f_X5_isDone_172  (C : Nat → Int32) (off : Nat → Int32) (dear : Nat → Int32) (proved : Nat → Int32) (Dg : Nat → Int32) (dw : Nat → Int32) (nw : Nat → Int32) (giv : Nat → Int32) (t0 : Int32) : (Nat → Int32) × (Nat → Int32) × (Nat → Int32) × (Nat → Int32) × (Nat → Int32) × Int32 := (if t0 < 0 then (C, proved, Dg, dw, nw, nI 0) else (C, proved, Dg, dw, nw, nI 1))
def s_X5_isDone_172  (C : Nat → Int32) (off : Nat → Int32) (dear : Nat → Int32) (proved : Nat → Int32) (Dg : Nat → Int32) (dw : Nat → Int32) (nw : Nat → Int32) (giv : Nat → Int32) (t0 : Int32) : Prop := True
set_option maxRecDepth 100000 in
set_option maxHeartbeats 4000000 in
theorem e_X5_isDone_172 {G : ng_GG} {hn : (Nat → Int32) → (Nat → Int32) → (Nat → Int32) → (Nat → Int32) → (Nat → Int32) → (Nat → Int32) → (Nat → Int32) → (Nat → Int32) → (Nat → Int32) → (Nat → Int32) → (Nat → Int32) → (Nat → Int32) → (Nat → Int32) → (Nat → Int32) → (Nat → Nat → Int64) → (Nat → Int32) → (Nat → Int32) → (Nat → Int32) → Int32 → (Nat → Nat → Int32) → Nat → ng_AM}  (V : ng_NL hn ) {C : Nat → Int32} {off : Nat → Int32} {dear : Nat → Int32} {proved : Nat → Int32} {Dg : Nat → Int32} {dw : Nat → Int32} {nw : Nat → Int32} {J : Nat → Int32} {bef : Nat → Int32} {mov : Nat → Int32} {nxt : Nat → Int32} {chn : Nat → Int32} {tol : Nat → Int32} {tw : Nat → Int32} {nu : Nat → Nat → Int64} {sw : Nat → Int32} {ss : Nat → Int32} {giv : Nat → Int32} {sE : Int32} {P : Nat → Nat → Int32} {pn : Nat}  {t0 : Int32} (h : s_X5_isDone_172  C off dear proved Dg dw nw giv t0)  : ng_Ev G md_X5_isDone 172 [none, none] [.int t0] (hn C off dear proved Dg dw nw J bef mov nxt chn tol tw nu sw ss giv sE P pn) (K_X5_isDone hn off dear J bef mov nxt chn tol tw nu sw ss giv sE P pn (f_X5_isDone_172  C off dear proved Dg dw nw giv t0)) := by
  unfold s_X5_isDone_172 at h
  unfold f_X5_isDone_172
  refine bk_if_lt (tgt := 179) dX5_isDone_172 (by decide) (fun c172 => ?_) (fun c172 => ?_)
  · refine ev_iconst (v := nI 0) dX5_isDone_179 (by decide) ?_
    exact ev_iret rfl (by decide) dX5_isDone_180
  · refine ev_iconst (v := nI 1) dX5_isDone_175 (by decide) ?_
    refine ev_goto (tgt := 180) dX5_isDone_176 (by decide) ?_
    exact ev_iret rfl (by decide) dX5_isDone_180
def f_X5_isDone_191  (C : Nat → Int32) (off : Nat → Int32) (dear : Nat → Int32) (proved : Nat → Int32) (Dg : Nat → Int32) (dw : Nat → Int32) (nw : Nat → Int32) (giv : Nat → Int32) (t0 : Int32) : (Nat → Int32) × (Nat → Int32) × (Nat → Int32) × (Nat → Int32) × (Nat → Int32) × Int32 := (if t0 < 0 then (C, proved, Dg, dw, nw, nI 0) else (C, proved, Dg, dw, nw, nI 1))
def s_X5_isDone_191  (C : Nat → Int32) (off : Nat → Int32) (dear : Nat → Int32) (proved : Nat → Int32) (Dg : Nat → Int32) (dw : Nat → Int32) (nw : Nat → Int32) (giv : Nat → Int32) (t0 : Int32) : Prop := True
set_option maxRecDepth 100000 in
set_option maxHeartbeats 4000000 in
theorem e_X5_isDone_191 {G : ng_GG} {hn : (Nat → Int32) → (Nat → Int32) → (Nat → Int32) → (Nat → Int32) → (Nat → Int32) → (Nat → Int32) → (Nat → Int32) → (Nat → Int32) → (Nat → Int32) → (Nat → Int32) → (Nat → Int32) → (Nat → Int32) → (Nat → Int32) → (Nat → Int32) → (Nat → Nat → Int64) → (Nat → Int32) → (Nat → Int32) → (Nat → Int32) → Int32 → (Nat → Nat → Int32) → Nat → ng_AM}  (V : ng_NL hn ) {C : Nat → Int32} {off : Nat → Int32} {dear : Nat → Int32} {proved : Nat → Int32} {Dg : Nat → Int32} {dw : Nat → Int32} {nw : Nat → Int32} {J : Nat → Int32} {bef : Nat → Int32} {mov : Nat → Int32} {nxt : Nat → Int32} {chn : Nat → Int32} {tol : Nat → Int32} {tw : Nat → Int32} {nu : Nat → Nat → Int64} {sw : Nat → Int32} {ss : Nat → Int32} {giv : Nat → Int32} {sE : Int32} {P : Nat → Nat → Int32} {pn : Nat}  {t0 : Int32} (h : s_X5_isDone_191  C off dear proved Dg dw nw giv t0)  : ng_Ev G md_X5_isDone 191 [none, none] [.int t0] (hn C off dear proved Dg dw nw J bef mov nxt chn tol tw nu sw ss giv sE P pn) (K_X5_isDone hn off dear J bef mov nxt chn tol tw nu sw ss giv sE P pn (f_X5_isDone_191  C off dear proved Dg dw nw giv t0)) := by
  unfold s_X5_isDone_191 at h
  unfold f_X5_isDone_191
  refine bk_if_lt (tgt := 198) dX5_isDone_191 (by decide) (fun c191 => ?_) (fun c191 => ?_)
  · refine ev_iconst (v := nI 0) dX5_isDone_198 (by decide) ?_
    exact ev_iret rfl (by decide) dX5_isDone_199
  · refine ev_iconst (v := nI 1) dX5_isDone_194 (by decide) ?_
    refine ev_goto (tgt := 199) dX5_isDone_195 (by decide) ?_
    exact ev_iret rfl (by decide) dX5_isDone_199
def f_X5_isDone  (C : Nat → Int32) (off : Nat → Int32) (dear : Nat → Int32) (proved : Nat → Int32) (Dg : Nat → Int32) (dw : Nat → Int32) (nw : Nat → Int32) (giv : Nat → Int32) (v1 : Int32) : (Nat → Int32) × (Nat → Int32) × (Nat → Int32) × (Nat → Int32) × (Nat → Int32) × Int32 := (if v1 = nI 0 then f_X5_isDone_70 ((f_X5_ask C Dg nw (giv (nI 0).toNatClampNeg) (giv (nI 1).toNatClampNeg) (giv (nI 2).toNatClampNeg)).1) off dear proved ((f_X5_ask C Dg nw (giv (nI 0).toNatClampNeg) (giv (nI 1).toNatClampNeg) (giv (nI 2).toNatClampNeg)).2.1) dw ((f_X5_ask C Dg nw (giv (nI 0).toNatClampNeg) (giv (nI 1).toNatClampNeg) (giv (nI 2).toNatClampNeg)).2.2.1) giv ((f_X5_ask C Dg nw (giv (nI 0).toNatClampNeg) (giv (nI 1).toNatClampNeg) (giv (nI 2).toNatClampNeg)).2.2.2) else (if v1 = nI 1 then f_X5_isDone_95 ((f_X5_turn C Dg nw (giv (nI 0).toNatClampNeg) (giv (nI 1).toNatClampNeg)).1) off dear proved ((f_X5_turn C Dg nw (giv (nI 0).toNatClampNeg) (giv (nI 1).toNatClampNeg)).2.1) dw ((f_X5_turn C Dg nw (giv (nI 0).toNatClampNeg) (giv (nI 1).toNatClampNeg)).2.2.1) giv ((f_X5_turn C Dg nw (giv (nI 0).toNatClampNeg) (giv (nI 1).toNatClampNeg)).2.2.2) else (if v1 = nI 2 then (C, proved, (f_X5_show C Dg nw (giv (nI 0).toNatClampNeg) (giv (nI 1).toNatClampNeg) (giv (nI 2).toNatClampNeg) (giv (nI 3).toNatClampNeg)).1, dw, (f_X5_show C Dg nw (giv (nI 0).toNatClampNeg) (giv (nI 1).toNatClampNeg) (giv (nI 2).toNatClampNeg) (giv (nI 3).toNatClampNeg)).2.1, (f_X5_show C Dg nw (giv (nI 0).toNatClampNeg) (giv (nI 1).toNatClampNeg) (giv (nI 2).toNatClampNeg) (giv (nI 3).toNatClampNeg)).2.2) else (if v1 = nI 3 then (C, proved, (f_X5_hand C Dg nw (giv (nI 0).toNatClampNeg) (giv (nI 1).toNatClampNeg) (giv (nI 2).toNatClampNeg) (giv (nI 3).toNatClampNeg)).1, dw, (f_X5_hand C Dg nw (giv (nI 0).toNatClampNeg) (giv (nI 1).toNatClampNeg) (giv (nI 2).toNatClampNeg) (giv (nI 3).toNatClampNeg)).2.1, (f_X5_hand C Dg nw (giv (nI 0).toNatClampNeg) (giv (nI 1).toNatClampNeg) (giv (nI 2).toNatClampNeg) (giv (nI 3).toNatClampNeg)).2.2) else (if v1 = nI 4 then f_X5_isDone_172 C off dear proved ((f_X5_deliver C off dear proved Dg dw nw (giv (nI 0).toNatClampNeg)).1) ((f_X5_deliver C off dear proved Dg dw nw (giv (nI 0).toNatClampNeg)).2.1) ((f_X5_deliver C off dear proved Dg dw nw (giv (nI 0).toNatClampNeg)).2.2.1) giv ((f_X5_deliver C off dear proved Dg dw nw (giv (nI 0).toNatClampNeg)).2.2.2) else (if v1 = nI 5 then f_X5_isDone_191 C off dear proved ((f_X5_tick C off dear proved Dg dw nw (giv (nI 0).toNatClampNeg)).1) ((f_X5_tick C off dear proved Dg dw nw (giv (nI 0).toNatClampNeg)).2.1) ((f_X5_tick C off dear proved Dg dw nw (giv (nI 0).toNatClampNeg)).2.2.1) giv ((f_X5_tick C off dear proved Dg dw nw (giv (nI 0).toNatClampNeg)).2.2.2) else (if v1 = nI 6 then (C, (f_X5_prove C proved nw (giv (nI 0).toNatClampNeg)).1, Dg, dw, nw, (f_X5_prove C proved nw (giv (nI 0).toNatClampNeg)).2) else (if v1 = nI 7 then (C, proved, (f_X5_fake C Dg nw (giv (nI 0).toNatClampNeg) (giv (nI 1).toNatClampNeg)).1, dw, (f_X5_fake C Dg nw (giv (nI 0).toNatClampNeg) (giv (nI 1).toNatClampNeg)).2.1, (f_X5_fake C Dg nw (giv (nI 0).toNatClampNeg) (giv (nI 1).toNatClampNeg)).2.2) else (C, proved, Dg, dw, nw, nI 0)))))))))
def s_X5_isDone  (C : Nat → Int32) (off : Nat → Int32) (dear : Nat → Int32) (proved : Nat → Int32) (Dg : Nat → Int32) (dw : Nat → Int32) (nw : Nat → Int32) (giv : Nat → Int32) (v1 : Int32) : Prop := ((v1 = nI 0 → (s_X5_ask C Dg nw (giv (nI 0).toNatClampNeg) (giv (nI 1).toNatClampNeg) (giv (nI 2).toNatClampNeg) ∧ s_X5_isDone_70 ((f_X5_ask C Dg nw (giv (nI 0).toNatClampNeg) (giv (nI 1).toNatClampNeg) (giv (nI 2).toNatClampNeg)).1) off dear proved ((f_X5_ask C Dg nw (giv (nI 0).toNatClampNeg) (giv (nI 1).toNatClampNeg) (giv (nI 2).toNatClampNeg)).2.1) dw ((f_X5_ask C Dg nw (giv (nI 0).toNatClampNeg) (giv (nI 1).toNatClampNeg) (giv (nI 2).toNatClampNeg)).2.2.1) giv ((f_X5_ask C Dg nw (giv (nI 0).toNatClampNeg) (giv (nI 1).toNatClampNeg) (giv (nI 2).toNatClampNeg)).2.2.2))) ∧ (¬ v1 = nI 0 → ((v1 = nI 1 → (s_X5_turn C Dg nw (giv (nI 0).toNatClampNeg) (giv (nI 1).toNatClampNeg) ∧ s_X5_isDone_95 ((f_X5_turn C Dg nw (giv (nI 0).toNatClampNeg) (giv (nI 1).toNatClampNeg)).1) off dear proved ((f_X5_turn C Dg nw (giv (nI 0).toNatClampNeg) (giv (nI 1).toNatClampNeg)).2.1) dw ((f_X5_turn C Dg nw (giv (nI 0).toNatClampNeg) (giv (nI 1).toNatClampNeg)).2.2.1) giv ((f_X5_turn C Dg nw (giv (nI 0).toNatClampNeg) (giv (nI 1).toNatClampNeg)).2.2.2))) ∧ (¬ v1 = nI 1 → ((v1 = nI 2 → (s_X5_show C Dg nw (giv (nI 0).toNatClampNeg) (giv (nI 1).toNatClampNeg) (giv (nI 2).toNatClampNeg) (giv (nI 3).toNatClampNeg) ∧ (((f_X5_show C Dg nw (giv (nI 0).toNatClampNeg) (giv (nI 1).toNatClampNeg) (giv (nI 2).toNatClampNeg) (giv (nI 3).toNatClampNeg)).2.2) = 0 ∨ ((f_X5_show C Dg nw (giv (nI 0).toNatClampNeg) (giv (nI 1).toNatClampNeg) (giv (nI 2).toNatClampNeg) (giv (nI 3).toNatClampNeg)).2.2) = 1))) ∧ (¬ v1 = nI 2 → ((v1 = nI 3 → (s_X5_hand C Dg nw (giv (nI 0).toNatClampNeg) (giv (nI 1).toNatClampNeg) (giv (nI 2).toNatClampNeg) (giv (nI 3).toNatClampNeg) ∧ (((f_X5_hand C Dg nw (giv (nI 0).toNatClampNeg) (giv (nI 1).toNatClampNeg) (giv (nI 2).toNatClampNeg) (giv (nI 3).toNatClampNeg)).2.2) = 0 ∨ ((f_X5_hand C Dg nw (giv (nI 0).toNatClampNeg) (giv (nI 1).toNatClampNeg) (giv (nI 2).toNatClampNeg) (giv (nI 3).toNatClampNeg)).2.2) = 1))) ∧ (¬ v1 = nI 3 → ((v1 = nI 4 → (s_X5_deliver C off dear proved Dg dw nw (giv (nI 0).toNatClampNeg) ∧ s_X5_isDone_172 C off dear proved ((f_X5_deliver C off dear proved Dg dw nw (giv (nI 0).toNatClampNeg)).1) ((f_X5_deliver C off dear proved Dg dw nw (giv (nI 0).toNatClampNeg)).2.1) ((f_X5_deliver C off dear proved Dg dw nw (giv (nI 0).toNatClampNeg)).2.2.1) giv ((f_X5_deliver C off dear proved Dg dw nw (giv (nI 0).toNatClampNeg)).2.2.2))) ∧ (¬ v1 = nI 4 → ((v1 = nI 5 → (s_X5_tick C off dear proved Dg dw nw (giv (nI 0).toNatClampNeg) ∧ s_X5_isDone_191 C off dear proved ((f_X5_tick C off dear proved Dg dw nw (giv (nI 0).toNatClampNeg)).1) ((f_X5_tick C off dear proved Dg dw nw (giv (nI 0).toNatClampNeg)).2.1) ((f_X5_tick C off dear proved Dg dw nw (giv (nI 0).toNatClampNeg)).2.2.1) giv ((f_X5_tick C off dear proved Dg dw nw (giv (nI 0).toNatClampNeg)).2.2.2))) ∧ (¬ v1 = nI 5 → ((v1 = nI 6 → (s_X5_prove C proved nw (giv (nI 0).toNatClampNeg) ∧ (((f_X5_prove C proved nw (giv (nI 0).toNatClampNeg)).2) = 0 ∨ ((f_X5_prove C proved nw (giv (nI 0).toNatClampNeg)).2) = 1))) ∧ (¬ v1 = nI 6 → (v1 = nI 7 → (s_X5_fake C Dg nw (giv (nI 0).toNatClampNeg) (giv (nI 1).toNatClampNeg) ∧ (((f_X5_fake C Dg nw (giv (nI 0).toNatClampNeg) (giv (nI 1).toNatClampNeg)).2.2) = 0 ∨ ((f_X5_fake C Dg nw (giv (nI 0).toNatClampNeg) (giv (nI 1).toNatClampNeg)).2.2) = 1)))))))))))))))))
set_option maxRecDepth 100000 in
set_option maxHeartbeats 4000000 in
theorem e_X5_isDone {G : ng_GG} {hn : (Nat → Int32) → (Nat → Int32) → (Nat → Int32) → (Nat → Int32) → (Nat → Int32) → (Nat → Int32) → (Nat → Int32) → (Nat → Int32) → (Nat → Int32) → (Nat → Int32) → (Nat → Int32) → (Nat → Int32) → (Nat → Int32) → (Nat → Int32) → (Nat → Nat → Int64) → (Nat → Int32) → (Nat → Int32) → (Nat → Int32) → Int32 → (Nat → Nat → Int32) → Nat → ng_AM}  (V : ng_NL hn ) {C : Nat → Int32} {off : Nat → Int32} {dear : Nat → Int32} {proved : Nat → Int32} {Dg : Nat → Int32} {dw : Nat → Int32} {nw : Nat → Int32} {J : Nat → Int32} {bef : Nat → Int32} {mov : Nat → Int32} {nxt : Nat → Int32} {chn : Nat → Int32} {tol : Nat → Int32} {tw : Nat → Int32} {nu : Nat → Nat → Int64} {sw : Nat → Int32} {ss : Nat → Int32} {giv : Nat → Int32} {sE : Int32} {P : Nat → Nat → Int32} {pn : Nat}  {v1 : Int32} (h : s_X5_isDone  C off dear proved Dg dw nw giv v1)  : ng_Ev G md_X5_isDone 0 [some (.ref 0), some (.int v1)] [] (hn C off dear proved Dg dw nw J bef mov nxt chn tol tw nu sw ss giv sE P pn) (K_X5_isDone hn off dear J bef mov nxt chn tol tw nu sw ss giv sE P pn (f_X5_isDone  C off dear proved Dg dw nw giv v1)) := by
  unfold s_X5_isDone at h
  unfold f_X5_isDone
  refine ev_iload_n dX5_isDone_0 rfl rfl ?_
  refine bk_cases (fun c1_0 => ?_) (fun c1_0 => ?_)
  · replace h := h.1 c1_0
    refine ev_tab_k (k := 0) (tgt := 48) dX5_isDone_1 c1_0 (by decide) (by decide) (by decide) rfl (by decide) ?_
    refine ev_aload_n dX5_isDone_48 rfl rfl rfl ?_
    refine ev_aload_n dX5_isDone_49 rfl rfl rfl ?_
    refine ev_get 5 5 fl_RX5_48 (NL_g0 V) rfl dX5_isDone_50 ?_
    refine ev_iconst (v := nI 0) dX5_isDone_53 (by decide) ?_
    refine ev_iald (NL_g27 V) (vp_in_nI (by decide) (by decide)) dX5_isDone_54 ?_
    refine ev_aload_n dX5_isDone_55 rfl rfl rfl ?_
    refine ev_get 5 5 fl_RX5_48 (NL_g0 V) rfl dX5_isDone_56 ?_
    refine ev_iconst (v := nI 1) dX5_isDone_59 (by decide) ?_
    refine ev_iald (NL_g27 V) (vp_in_nI (by decide) (by decide)) dX5_isDone_60 ?_
    refine ev_aload_n dX5_isDone_61 rfl rfl rfl ?_
    refine ev_get 5 5 fl_RX5_48 (NL_g0 V) rfl dX5_isDone_62 ?_
    refine ev_iconst (v := nI 2) dX5_isDone_65 (by decide) ?_
    refine ev_iald (NL_g27 V) (vp_in_nI (by decide) (by decide)) dX5_isDone_66 ?_
    have hs67 := h.1
    replace h := h.2
    refine bk_callV (As := [.int (giv (nI 0).toNatClampNeg), .int (giv (nI 1).toNatClampNeg), .int (giv (nI 2).toNatClampNeg)]) (st := []) (st2 := [.int ((f_X5_ask C Dg nw (giv (nI 0).toNatClampNeg) (giv (nI 1).toNatClampNeg) (giv (nI 2).toNatClampNeg)).2.2.2)]) (M2 := hn ((f_X5_ask C Dg nw (giv (nI 0).toNatClampNeg) (giv (nI 1).toNatClampNeg) (giv (nI 2).toNatClampNeg)).1) off dear proved ((f_X5_ask C Dg nw (giv (nI 0).toNatClampNeg) (giv (nI 1).toNatClampNeg) (giv (nI 2).toNatClampNeg)).2.1) dw ((f_X5_ask C Dg nw (giv (nI 0).toNatClampNeg) (giv (nI 1).toNatClampNeg) (giv (nI 2).toNatClampNeg)).2.2.1) J bef mov nxt chn tol tw nu sw ss giv sE P pn) ok_X5_ask lk_RX5_296 (ng_rok.of rfl rfl) (NL_g0 V) rfl rfl rfl rfl rfl rfl dX5_isDone_67 (m_X5_ask V hs67) rfl rfl ?_
    exact ev_sub (e_X5_isDone_70 V h) (sub_n (sub_n sub_e))
  · replace h := h.2 c1_0
    refine bk_cases (fun c1_1 => ?_) (fun c1_1 => ?_)
    · replace h := h.1 c1_1
      refine ev_tab_k (k := 1) (tgt := 79) dX5_isDone_1 c1_1 (by decide) (by decide) (by decide) rfl (by decide) ?_
      refine ev_aload_n dX5_isDone_79 rfl rfl rfl ?_
      refine ev_aload_n dX5_isDone_80 rfl rfl rfl ?_
      refine ev_get 5 5 fl_RX5_48 (NL_g0 V) rfl dX5_isDone_81 ?_
      refine ev_iconst (v := nI 0) dX5_isDone_84 (by decide) ?_
      refine ev_iald (NL_g27 V) (vp_in_nI (by decide) (by decide)) dX5_isDone_85 ?_
      refine ev_aload_n dX5_isDone_86 rfl rfl rfl ?_
      refine ev_get 5 5 fl_RX5_48 (NL_g0 V) rfl dX5_isDone_87 ?_
      refine ev_iconst (v := nI 1) dX5_isDone_90 (by decide) ?_
      refine ev_iald (NL_g27 V) (vp_in_nI (by decide) (by decide)) dX5_isDone_91 ?_
      have hs92 := h.1
      replace h := h.2
      refine bk_callV (As := [.int (giv (nI 0).toNatClampNeg), .int (giv (nI 1).toNatClampNeg)]) (st := []) (st2 := [.int ((f_X5_turn C Dg nw (giv (nI 0).toNatClampNeg) (giv (nI 1).toNatClampNeg)).2.2.2)]) (M2 := hn ((f_X5_turn C Dg nw (giv (nI 0).toNatClampNeg) (giv (nI 1).toNatClampNeg)).1) off dear proved ((f_X5_turn C Dg nw (giv (nI 0).toNatClampNeg) (giv (nI 1).toNatClampNeg)).2.1) dw ((f_X5_turn C Dg nw (giv (nI 0).toNatClampNeg) (giv (nI 1).toNatClampNeg)).2.2.1) J bef mov nxt chn tol tw nu sw ss giv sE P pn) ok_X5_turn lk_RX5_299 (ng_rok.of rfl rfl) (NL_g0 V) rfl rfl rfl rfl rfl rfl dX5_isDone_92 (m_X5_turn V hs92) rfl rfl ?_
      exact ev_sub (e_X5_isDone_95 V h) (sub_n (sub_n sub_e))
    · replace h := h.2 c1_1
      refine bk_cases (fun c1_2 => ?_) (fun c1_2 => ?_)
      · replace h := h.1 c1_2
        refine ev_tab_k (k := 2) (tgt := 104) dX5_isDone_1 c1_2 (by decide) (by decide) (by decide) rfl (by decide) ?_
        refine ev_aload_n dX5_isDone_104 rfl rfl rfl ?_
        refine ev_aload_n dX5_isDone_105 rfl rfl rfl ?_
        refine ev_get 5 5 fl_RX5_48 (NL_g0 V) rfl dX5_isDone_106 ?_
        refine ev_iconst (v := nI 0) dX5_isDone_109 (by decide) ?_
        refine ev_iald (NL_g27 V) (vp_in_nI (by decide) (by decide)) dX5_isDone_110 ?_
        refine ev_aload_n dX5_isDone_111 rfl rfl rfl ?_
        refine ev_get 5 5 fl_RX5_48 (NL_g0 V) rfl dX5_isDone_112 ?_
        refine ev_iconst (v := nI 1) dX5_isDone_115 (by decide) ?_
        refine ev_iald (NL_g27 V) (vp_in_nI (by decide) (by decide)) dX5_isDone_116 ?_
        refine ev_aload_n dX5_isDone_117 rfl rfl rfl ?_
        refine ev_get 5 5 fl_RX5_48 (NL_g0 V) rfl dX5_isDone_118 ?_
        refine ev_iconst (v := nI 2) dX5_isDone_121 (by decide) ?_
        refine ev_iald (NL_g27 V) (vp_in_nI (by decide) (by decide)) dX5_isDone_122 ?_
        refine ev_aload_n dX5_isDone_123 rfl rfl rfl ?_
        refine ev_get 5 5 fl_RX5_48 (NL_g0 V) rfl dX5_isDone_124 ?_
        refine ev_iconst (v := nI 3) dX5_isDone_127 (by decide) ?_
        refine ev_iald (NL_g27 V) (vp_in_nI (by decide) (by decide)) dX5_isDone_128 ?_
        have hs129 := h.1
        replace h := h.2
        refine bk_callV (As := [.int (giv (nI 0).toNatClampNeg), .int (giv (nI 1).toNatClampNeg), .int (giv (nI 2).toNatClampNeg), .int (giv (nI 3).toNatClampNeg)]) (st := []) (st2 := [.int ((f_X5_show C Dg nw (giv (nI 0).toNatClampNeg) (giv (nI 1).toNatClampNeg) (giv (nI 2).toNatClampNeg) (giv (nI 3).toNatClampNeg)).2.2)]) (M2 := hn C off dear proved ((f_X5_show C Dg nw (giv (nI 0).toNatClampNeg) (giv (nI 1).toNatClampNeg) (giv (nI 2).toNatClampNeg) (giv (nI 3).toNatClampNeg)).1) dw ((f_X5_show C Dg nw (giv (nI 0).toNatClampNeg) (giv (nI 1).toNatClampNeg) (giv (nI 2).toNatClampNeg) (giv (nI 3).toNatClampNeg)).2.1) J bef mov nxt chn tol tw nu sw ss giv sE P pn) ok_X5_show lk_RX5_302 (ng_rok.of rfl rfl) (NL_g0 V) rfl rfl rfl rfl rfl rfl dX5_isDone_129 (m_X5_show V hs129) rfl rfl ?_
        exact ev_iret rfl (ng_nz h) dX5_isDone_132
      · replace h := h.2 c1_2
        refine bk_cases (fun c1_3 => ?_) (fun c1_3 => ?_)
        · replace h := h.1 c1_3
          refine ev_tab_k (k := 3) (tgt := 133) dX5_isDone_1 c1_3 (by decide) (by decide) (by decide) rfl (by decide) ?_
          refine ev_aload_n dX5_isDone_133 rfl rfl rfl ?_
          refine ev_aload_n dX5_isDone_134 rfl rfl rfl ?_
          refine ev_get 5 5 fl_RX5_48 (NL_g0 V) rfl dX5_isDone_135 ?_
          refine ev_iconst (v := nI 0) dX5_isDone_138 (by decide) ?_
          refine ev_iald (NL_g27 V) (vp_in_nI (by decide) (by decide)) dX5_isDone_139 ?_
          refine ev_aload_n dX5_isDone_140 rfl rfl rfl ?_
          refine ev_get 5 5 fl_RX5_48 (NL_g0 V) rfl dX5_isDone_141 ?_
          refine ev_iconst (v := nI 1) dX5_isDone_144 (by decide) ?_
          refine ev_iald (NL_g27 V) (vp_in_nI (by decide) (by decide)) dX5_isDone_145 ?_
          refine ev_aload_n dX5_isDone_146 rfl rfl rfl ?_
          refine ev_get 5 5 fl_RX5_48 (NL_g0 V) rfl dX5_isDone_147 ?_
          refine ev_iconst (v := nI 2) dX5_isDone_150 (by decide) ?_
          refine ev_iald (NL_g27 V) (vp_in_nI (by decide) (by decide)) dX5_isDone_151 ?_
          refine ev_aload_n dX5_isDone_152 rfl rfl rfl ?_
          refine ev_get 5 5 fl_RX5_48 (NL_g0 V) rfl dX5_isDone_153 ?_
          refine ev_iconst (v := nI 3) dX5_isDone_156 (by decide) ?_
          refine ev_iald (NL_g27 V) (vp_in_nI (by decide) (by decide)) dX5_isDone_157 ?_
          have hs158 := h.1
          replace h := h.2
          refine bk_callV (As := [.int (giv (nI 0).toNatClampNeg), .int (giv (nI 1).toNatClampNeg), .int (giv (nI 2).toNatClampNeg), .int (giv (nI 3).toNatClampNeg)]) (st := []) (st2 := [.int ((f_X5_hand C Dg nw (giv (nI 0).toNatClampNeg) (giv (nI 1).toNatClampNeg) (giv (nI 2).toNatClampNeg) (giv (nI 3).toNatClampNeg)).2.2)]) (M2 := hn C off dear proved ((f_X5_hand C Dg nw (giv (nI 0).toNatClampNeg) (giv (nI 1).toNatClampNeg) (giv (nI 2).toNatClampNeg) (giv (nI 3).toNatClampNeg)).1) dw ((f_X5_hand C Dg nw (giv (nI 0).toNatClampNeg) (giv (nI 1).toNatClampNeg) (giv (nI 2).toNatClampNeg) (giv (nI 3).toNatClampNeg)).2.1) J bef mov nxt chn tol tw nu sw ss giv sE P pn) ok_X5_hand lk_RX5_306 (ng_rok.of rfl rfl) (NL_g0 V) rfl rfl rfl rfl rfl rfl dX5_isDone_158 (m_X5_hand V hs158) rfl rfl ?_
          exact ev_iret rfl (ng_nz h) dX5_isDone_161
        · replace h := h.2 c1_3
          refine bk_cases (fun c1_4 => ?_) (fun c1_4 => ?_)
          · replace h := h.1 c1_4
            refine ev_tab_k (k := 4) (tgt := 162) dX5_isDone_1 c1_4 (by decide) (by decide) (by decide) rfl (by decide) ?_
            refine ev_aload_n dX5_isDone_162 rfl rfl rfl ?_
            refine ev_aload_n dX5_isDone_163 rfl rfl rfl ?_
            refine ev_get 5 5 fl_RX5_48 (NL_g0 V) rfl dX5_isDone_164 ?_
            refine ev_iconst (v := nI 0) dX5_isDone_167 (by decide) ?_
            refine ev_iald (NL_g27 V) (vp_in_nI (by decide) (by decide)) dX5_isDone_168 ?_
            have hs169 := h.1
            replace h := h.2
            refine bk_callV (As := [.int (giv (nI 0).toNatClampNeg)]) (st := []) (st2 := [.int ((f_X5_deliver C off dear proved Dg dw nw (giv (nI 0).toNatClampNeg)).2.2.2)]) (M2 := hn C off dear proved ((f_X5_deliver C off dear proved Dg dw nw (giv (nI 0).toNatClampNeg)).1) ((f_X5_deliver C off dear proved Dg dw nw (giv (nI 0).toNatClampNeg)).2.1) ((f_X5_deliver C off dear proved Dg dw nw (giv (nI 0).toNatClampNeg)).2.2.1) J bef mov nxt chn tol tw nu sw ss giv sE P pn) ok_X5_deliver lk_RX5_309 (ng_rok.of rfl rfl) (NL_g0 V) rfl rfl rfl rfl rfl rfl dX5_isDone_169 (m_X5_deliver V hs169) rfl rfl ?_
            exact ev_sub (e_X5_isDone_172 V h) (sub_n (sub_n sub_e))
          · replace h := h.2 c1_4
            refine bk_cases (fun c1_5 => ?_) (fun c1_5 => ?_)
            · replace h := h.1 c1_5
              refine ev_tab_k (k := 5) (tgt := 181) dX5_isDone_1 c1_5 (by decide) (by decide) (by decide) rfl (by decide) ?_
              refine ev_aload_n dX5_isDone_181 rfl rfl rfl ?_
              refine ev_aload_n dX5_isDone_182 rfl rfl rfl ?_
              refine ev_get 5 5 fl_RX5_48 (NL_g0 V) rfl dX5_isDone_183 ?_
              refine ev_iconst (v := nI 0) dX5_isDone_186 (by decide) ?_
              refine ev_iald (NL_g27 V) (vp_in_nI (by decide) (by decide)) dX5_isDone_187 ?_
              have hs188 := h.1
              replace h := h.2
              refine bk_callV (As := [.int (giv (nI 0).toNatClampNeg)]) (st := []) (st2 := [.int ((f_X5_tick C off dear proved Dg dw nw (giv (nI 0).toNatClampNeg)).2.2.2)]) (M2 := hn C off dear proved ((f_X5_tick C off dear proved Dg dw nw (giv (nI 0).toNatClampNeg)).1) ((f_X5_tick C off dear proved Dg dw nw (giv (nI 0).toNatClampNeg)).2.1) ((f_X5_tick C off dear proved Dg dw nw (giv (nI 0).toNatClampNeg)).2.2.1) J bef mov nxt chn tol tw nu sw ss giv sE P pn) ok_X5_tick lk_RX5_312 (ng_rok.of rfl rfl) (NL_g0 V) rfl rfl rfl rfl rfl rfl dX5_isDone_188 (m_X5_tick V hs188) rfl rfl ?_
              exact ev_sub (e_X5_isDone_191 V h) (sub_n (sub_n sub_e))
            · replace h := h.2 c1_5
              refine bk_cases (fun c1_6 => ?_) (fun c1_6 => ?_)
              · replace h := h.1 c1_6
                refine ev_tab_k (k := 6) (tgt := 200) dX5_isDone_1 c1_6 (by decide) (by decide) (by decide) rfl (by decide) ?_
                refine ev_aload_n dX5_isDone_200 rfl rfl rfl ?_
                refine ev_aload_n dX5_isDone_201 rfl rfl rfl ?_
                refine ev_get 5 5 fl_RX5_48 (NL_g0 V) rfl dX5_isDone_202 ?_
                refine ev_iconst (v := nI 0) dX5_isDone_205 (by decide) ?_
                refine ev_iald (NL_g27 V) (vp_in_nI (by decide) (by decide)) dX5_isDone_206 ?_
                have hs207 := h.1
                replace h := h.2
                refine bk_callV (As := [.int (giv (nI 0).toNatClampNeg)]) (st := []) (st2 := [.int ((f_X5_prove C proved nw (giv (nI 0).toNatClampNeg)).2)]) (M2 := hn C off dear ((f_X5_prove C proved nw (giv (nI 0).toNatClampNeg)).1) Dg dw nw J bef mov nxt chn tol tw nu sw ss giv sE P pn) ok_X5_prove lk_RX5_315 (ng_rok.of rfl rfl) (NL_g0 V) rfl rfl rfl rfl rfl rfl dX5_isDone_207 (m_X5_prove V hs207) rfl rfl ?_
                exact ev_iret rfl (ng_nz h) dX5_isDone_210
              · replace h := h.2 c1_6
                refine bk_cases (fun c1_7 => ?_) (fun c1_7 => ?_)
                · replace h := h c1_7
                  refine ev_tab_k (k := 7) (tgt := 211) dX5_isDone_1 c1_7 (by decide) (by decide) (by decide) rfl (by decide) ?_
                  refine ev_aload_n dX5_isDone_211 rfl rfl rfl ?_
                  refine ev_aload_n dX5_isDone_212 rfl rfl rfl ?_
                  refine ev_get 5 5 fl_RX5_48 (NL_g0 V) rfl dX5_isDone_213 ?_
                  refine ev_iconst (v := nI 0) dX5_isDone_216 (by decide) ?_
                  refine ev_iald (NL_g27 V) (vp_in_nI (by decide) (by decide)) dX5_isDone_217 ?_
                  refine ev_aload_n dX5_isDone_218 rfl rfl rfl ?_
                  refine ev_get 5 5 fl_RX5_48 (NL_g0 V) rfl dX5_isDone_219 ?_
                  refine ev_iconst (v := nI 1) dX5_isDone_222 (by decide) ?_
                  refine ev_iald (NL_g27 V) (vp_in_nI (by decide) (by decide)) dX5_isDone_223 ?_
                  have hs224 := h.1
                  replace h := h.2
                  refine bk_callV (As := [.int (giv (nI 0).toNatClampNeg), .int (giv (nI 1).toNatClampNeg)]) (st := []) (st2 := [.int ((f_X5_fake C Dg nw (giv (nI 0).toNatClampNeg) (giv (nI 1).toNatClampNeg)).2.2)]) (M2 := hn C off dear proved ((f_X5_fake C Dg nw (giv (nI 0).toNatClampNeg) (giv (nI 1).toNatClampNeg)).1) dw ((f_X5_fake C Dg nw (giv (nI 0).toNatClampNeg) (giv (nI 1).toNatClampNeg)).2.1) J bef mov nxt chn tol tw nu sw ss giv sE P pn) ok_X5_fake lk_RX5_318 (ng_rok.of rfl rfl) (NL_g0 V) rfl rfl rfl rfl rfl rfl dX5_isDone_224 (m_X5_fake V hs224) rfl rfl ?_
                  exact ev_iret rfl (ng_nz h) dX5_isDone_227
                · refine ev_tab_d (hi := 7) (tgt := 228) (m := 7) dX5_isDone_1 rfl (fun q hq => match q, hq with | 0, _ => c1_0 | 1, _ => c1_1 | 2, _ => c1_2 | 3, _ => c1_3 | 4, _ => c1_4 | 5, _ => c1_5 | 6, _ => c1_6 | 7, _ => c1_7 | (q + 8), hq => absurd hq (by omega)) (by decide) ?_
                  refine ev_iconst (v := nI 0) dX5_isDone_228 (by decide) ?_
                  exact ev_iret rfl (by decide) dX5_isDone_229
theorem m_X5_isDone {G : ng_GG} {hn : (Nat → Int32) → (Nat → Int32) → (Nat → Int32) → (Nat → Int32) → (Nat → Int32) → (Nat → Int32) → (Nat → Int32) → (Nat → Int32) → (Nat → Int32) → (Nat → Int32) → (Nat → Int32) → (Nat → Int32) → (Nat → Int32) → (Nat → Int32) → (Nat → Nat → Int64) → (Nat → Int32) → (Nat → Int32) → (Nat → Int32) → Int32 → (Nat → Nat → Int32) → Nat → ng_AM}  (V : ng_NL hn ) {C : Nat → Int32} {off : Nat → Int32} {dear : Nat → Int32} {proved : Nat → Int32} {Dg : Nat → Int32} {dw : Nat → Int32} {nw : Nat → Int32} {J : Nat → Int32} {bef : Nat → Int32} {mov : Nat → Int32} {nxt : Nat → Int32} {chn : Nat → Int32} {tol : Nat → Int32} {tw : Nat → Int32} {nu : Nat → Nat → Int64} {sw : Nat → Int32} {ss : Nat → Int32} {giv : Nat → Int32} {sE : Int32} {P : Nat → Nat → Int32} {pn : Nat} {v1 : Int32} (h : s_X5_isDone C off dear proved Dg dw nw giv v1)  : ng_Ev G md_X5_isDone 0 (ng_en 2 [.ref 0, .int v1]) [] (hn C off dear proved Dg dw nw J bef mov nxt chn tol tw nu sw ss giv sE P pn) (K_X5_isDone hn off dear J bef mov nxt chn tol tw nu sw ss giv sE P pn (f_X5_isDone C off dear proved Dg dw nw giv v1)) := e_X5_isDone V h 
def K_X5_script (hn : (Nat → Int32) → (Nat → Int32) → (Nat → Int32) → (Nat → Int32) → (Nat → Int32) → (Nat → Int32) → (Nat → Int32) → (Nat → Int32) → (Nat → Int32) → (Nat → Int32) → (Nat → Int32) → (Nat → Int32) → (Nat → Int32) → (Nat → Int32) → (Nat → Nat → Int64) → (Nat → Int32) → (Nat → Int32) → (Nat → Int32) → Int32 → (Nat → Nat → Int32) → Nat → ng_AM) (off : Nat → Int32) (dear : Nat → Int32) (J : Nat → Int32) (bef : Nat → Int32) (mov : Nat → Int32) (nxt : Nat → Int32) (chn : Nat → Int32) (tol : Nat → Int32) (tw : Nat → Int32) (nu : Nat → Nat → Int64) (sw : Nat → Int32) (ss : Nat → Int32) (P : Nat → Nat → Int32) (pn : Nat) (r : (Nat → Int32) × (Nat → Int32) × (Nat → Int32) × (Nat → Int32) × (Nat → Int32) × (Nat → Int32) × (Int32) × Int32) : ng_RR := (some (.int (r.2.2.2.2.2.2.2)), hn (r.1) off dear (r.2.1) (r.2.2.1) (r.2.2.2.1) (r.2.2.2.2.1) J bef mov nxt chn tol tw nu sw ss (r.2.2.2.2.2.1) (r.2.2.2.2.2.2.1) P pn)
def f_X5_script_87 (kk38 : (Nat → Int32) → (Nat → Int32) → (Nat → Int32) → (Nat → Int32) → (Nat → Int32) → (Nat → Int32) → (Nat → Int32) → (Nat → Nat → Int64) → (Nat → Int32) → (Nat → Int32) → (Nat → Int32) → (Int32) → Nat → Int32 → Int32 → ((Nat → Int32) × (Nat → Int32) × (Nat → Int32) × (Nat → Int32) × (Nat → Int32) × (Nat → Int32) × (Int32) × Int32)) (C : Nat → Int32) (off : Nat → Int32) (dear : Nat → Int32) (proved : Nat → Int32) (Dg : Nat → Int32) (dw : Nat → Int32) (nw : Nat → Int32) (nu : Nat → Nat → Int64) (sw : Nat → Int32) (ss : Nat → Int32) (giv : Nat → Int32) (sE : Int32) (j2 : Nat) (v3 : Int32) (v4 : Int32) (v5 : Int32) (t0 : Int32) : (Nat → Int32) × (Nat → Int32) × (Nat → Int32) × (Nat → Int32) × (Nat → Int32) × (Nat → Int32) × (Int32) × Int32 := (if t0 = 0 then (C, proved, Dg, dw, nw, giv, nI 3, v3) else kk38 C off dear proved Dg dw nw nu sw ss giv sE j2 (v3 + nI 1) (v4 + ((nI 1) + (f_X5_needs v5))))
def s_X5_script_87 (sk38 : (Nat → Int32) → (Nat → Int32) → (Nat → Int32) → (Nat → Int32) → (Nat → Int32) → (Nat → Int32) → (Nat → Int32) → (Nat → Nat → Int64) → (Nat → Int32) → (Nat → Int32) → (Nat → Int32) → (Int32) → Nat → Int32 → Int32 → Prop) (C : Nat → Int32) (off : Nat → Int32) (dear : Nat → Int32) (proved : Nat → Int32) (Dg : Nat → Int32) (dw : Nat → Int32) (nw : Nat → Int32) (nu : Nat → Nat → Int64) (sw : Nat → Int32) (ss : Nat → Int32) (giv : Nat → Int32) (sE : Int32) (j2 : Nat) (v3 : Int32) (v4 : Int32) (v5 : Int32) (t0 : Int32) : Prop := (¬ t0 = 0 → (s_X5_needs v5 ∧ sk38 C off dear proved Dg dw nw nu sw ss giv sE j2 (v3 + nI 1) (v4 + ((nI 1) + (f_X5_needs v5)))))
set_option maxRecDepth 100000 in
set_option maxHeartbeats 4000000 in
theorem e_X5_script_87 {G : ng_GG} {hn : (Nat → Int32) → (Nat → Int32) → (Nat → Int32) → (Nat → Int32) → (Nat → Int32) → (Nat → Int32) → (Nat → Int32) → (Nat → Int32) → (Nat → Int32) → (Nat → Int32) → (Nat → Int32) → (Nat → Int32) → (Nat → Int32) → (Nat → Int32) → (Nat → Nat → Int64) → (Nat → Int32) → (Nat → Int32) → (Nat → Int32) → Int32 → (Nat → Nat → Int32) → Nat → ng_AM}  (V : ng_NL hn ) {C : Nat → Int32} {off : Nat → Int32} {dear : Nat → Int32} {proved : Nat → Int32} {Dg : Nat → Int32} {dw : Nat → Int32} {nw : Nat → Int32} {J : Nat → Int32} {bef : Nat → Int32} {mov : Nat → Int32} {nxt : Nat → Int32} {chn : Nat → Int32} {tol : Nat → Int32} {tw : Nat → Int32} {nu : Nat → Nat → Int64} {sw : Nat → Int32} {ss : Nat → Int32} {giv : Nat → Int32} {sE : Int32} {P : Nat → Nat → Int32} {pn : Nat} {kk38 : (Nat → Int32) → (Nat → Int32) → (Nat → Int32) → (Nat → Int32) → (Nat → Int32) → (Nat → Int32) → (Nat → Int32) → (Nat → Nat → Int64) → (Nat → Int32) → (Nat → Int32) → (Nat → Int32) → (Int32) → Nat → Int32 → Int32 → ((Nat → Int32) × (Nat → Int32) × (Nat → Int32) × (Nat → Int32) × (Nat → Int32) × (Nat → Int32) × (Int32) × Int32)} {sk38 : (Nat → Int32) → (Nat → Int32) → (Nat → Int32) → (Nat → Int32) → (Nat → Int32) → (Nat → Int32) → (Nat → Int32) → (Nat → Nat → Int64) → (Nat → Int32) → (Nat → Int32) → (Nat → Int32) → (Int32) → Nat → Int32 → Int32 → Prop} (hk38 : ∀ (C : Nat → Int32) (off : Nat → Int32) (dear : Nat → Int32) (proved : Nat → Int32) (Dg : Nat → Int32) (dw : Nat → Int32) (nw : Nat → Int32) (J : Nat → Int32) (bef : Nat → Int32) (mov : Nat → Int32) (nxt : Nat → Int32) (chn : Nat → Int32) (tol : Nat → Int32) (tw : Nat → Int32) (nu : Nat → Nat → Int64) (sw : Nat → Int32) (ss : Nat → Int32) (giv : Nat → Int32) (sE : Int32) (P : Nat → Nat → Int32) (pn : Nat) (j2 : Nat) (v3 : Int32) (v4 : Int32), sk38 C off dear proved Dg dw nw nu sw ss giv sE j2 v3 v4 → j2 < 4 → ng_Ev G md_X5_script 38 [some (.ref 0), none, some (.ref (19 + 2 * j2)), some (.int v3), some (.int v4), none] [] (hn C off dear proved Dg dw nw J bef mov nxt chn tol tw nu sw ss giv sE P pn) (K_X5_script hn off dear J bef mov nxt chn tol tw nu sw ss P pn (kk38 C off dear proved Dg dw nw nu sw ss giv sE j2 v3 v4))) {j2 : Nat} {v3 : Int32} {v4 : Int32} {v5 : Int32} {t0 : Int32} (h : s_X5_script_87 sk38 C off dear proved Dg dw nw nu sw ss giv sE j2 v3 v4 v5 t0) (hj2 : j2 < 4) : ng_Ev G md_X5_script 87 [some (.ref 0), none, some (.ref (19 + 2 * j2)), some (.int v3), some (.int v4), some (.int v5)] [.int t0] (hn C off dear proved Dg dw nw J bef mov nxt chn tol tw nu sw ss giv sE P pn) (K_X5_script hn off dear J bef mov nxt chn tol tw nu sw ss P pn (f_X5_script_87 kk38 C off dear proved Dg dw nw nu sw ss giv sE j2 v3 v4 v5 t0)) := by
  unfold s_X5_script_87 at h
  unfold f_X5_script_87
  refine bk_if_ne (tgt := 97) dX5_script_87 (by decide) (fun c87 => ?_) (fun c87 => ?_)
  · replace h := h c87
    refine ev_iinc (v := v3 + nI 1) (L' := [some (.ref 0), none, some (.ref (19 + 2 * j2)), some (.int (v3 + nI 1)), some (.int v4), some (.int v5)]) dX5_script_97 rfl (by rfl) rfl ?_
    refine ev_iload dX5_script_100 rfl ?_
    refine ev_iconst (v := nI 1) dX5_script_102 (by decide) ?_
    refine ev_iload dX5_script_103 rfl ?_
    have hs105 := h.1
    replace h := h.2
    refine bk_callS (As := [.int v5]) (st := [.int (nI 1), .int v4]) (st2 := [.int (f_X5_needs v5), .int (nI 1), .int v4]) (M2 := hn C off dear proved Dg dw nw J bef mov nxt chn tol tw nu sw ss giv sE P pn) ok_X5_needs lk_RX5_287 (ng_rok.of rfl rfl) rfl rfl rfl rfl dX5_script_105 (m_X5_needs hs105) rfl rfl ?_
    refine ev_iadd dX5_script_108 ?_
    refine ev_iadd dX5_script_109 ?_
    refine ev_istore (L' := [some (.ref 0), none, some (.ref (19 + 2 * j2)), some (.int (v3 + nI 1)), some (.int (v4 + ((nI 1) + (f_X5_needs v5)))), some (.int v5)]) dX5_script_110 (ng_lt rfl) rfl ?_
    refine ev_goto (tgt := 38) dX5_script_112 (by decide) ?_
    exact ev_sub (hk38 C off dear proved Dg dw nw J bef mov nxt chn tol tw nu sw ss giv sE P pn j2 (v3 + nI 1) (v4 + ((nI 1) + (f_X5_needs v5))) h hj2) (sub_s (sub_n (sub_s (sub_s (sub_s (sub_n sub_e))))))
  · refine ev_aload_n dX5_script_90 rfl rfl rfl ?_
    refine ev_iconst (v := nI 3) dX5_script_91 (by decide) ?_
    refine ev_put 5 6 fs_RX5_52 (NL_g0 V) (ng_lt rfl) rfl (NL_s0 V) (ng_fit_i _) dX5_script_92 ?_
    refine ev_iload_n dX5_script_95 rfl rfl ?_
    exact ev_iret rfl rfl dX5_script_96
def f_X5_script_61 (kk38 : (Nat → Int32) → (Nat → Int32) → (Nat → Int32) → (Nat → Int32) → (Nat → Int32) → (Nat → Int32) → (Nat → Int32) → (Nat → Nat → Int64) → (Nat → Int32) → (Nat → Int32) → (Nat → Int32) → (Int32) → Nat → Int32 → Int32 → ((Nat → Int32) × (Nat → Int32) × (Nat → Int32) × (Nat → Int32) × (Nat → Int32) × (Nat → Int32) × (Int32) × Int32)) (C : Nat → Int32) (off : Nat → Int32) (dear : Nat → Int32) (proved : Nat → Int32) (Dg : Nat → Int32) (dw : Nat → Int32) (nw : Nat → Int32) (nu : Nat → Nat → Int64) (sw : Nat → Int32) (ss : Nat → Int32) (giv : Nat → Int32) (sE : Int32) (j2 : Nat) (v3 : Int32) (v4 : Int32) (t0 : Int32) : (Nat → Int32) × (Nat → Int32) × (Nat → Int32) × (Nat → Int32) × (Nat → Int32) × (Nat → Int32) × (Int32) × Int32 := (if t0 = 0 then f_X5_script_87 kk38 ((f_X5_isDone C off dear proved Dg dw nw giv (f_X3_intAt (nu j2) (ss j2) v4)).1) off dear ((f_X5_isDone C off dear proved Dg dw nw giv (f_X3_intAt (nu j2) (ss j2) v4)).2.1) ((f_X5_isDone C off dear proved Dg dw nw giv (f_X3_intAt (nu j2) (ss j2) v4)).2.2.1) ((f_X5_isDone C off dear proved Dg dw nw giv (f_X3_intAt (nu j2) (ss j2) v4)).2.2.2.1) ((f_X5_isDone C off dear proved Dg dw nw giv (f_X3_intAt (nu j2) (ss j2) v4)).2.2.2.2.1) nu sw ss giv t0 j2 v3 v4 (f_X3_intAt (nu j2) (ss j2) v4) ((f_X5_isDone C off dear proved Dg dw nw giv (f_X3_intAt (nu j2) (ss j2) v4)).2.2.2.2.2) else (C, proved, Dg, dw, nw, giv, t0, v3))
def s_X5_script_61 (sk38 : (Nat → Int32) → (Nat → Int32) → (Nat → Int32) → (Nat → Int32) → (Nat → Int32) → (Nat → Int32) → (Nat → Int32) → (Nat → Nat → Int64) → (Nat → Int32) → (Nat → Int32) → (Nat → Int32) → (Int32) → Nat → Int32 → Int32 → Prop) (C : Nat → Int32) (off : Nat → Int32) (dear : Nat → Int32) (proved : Nat → Int32) (Dg : Nat → Int32) (dw : Nat → Int32) (nw : Nat → Int32) (nu : Nat → Nat → Int64) (sw : Nat → Int32) (ss : Nat → Int32) (giv : Nat → Int32) (sE : Int32) (j2 : Nat) (v3 : Int32) (v4 : Int32) (t0 : Int32) : Prop := (t0 = 0 → (s_X3_intAt (nu j2) (ss j2) v4 ∧ (s_X5_isDone C off dear proved Dg dw nw giv (f_X3_intAt (nu j2) (ss j2) v4) ∧ s_X5_script_87 sk38 ((f_X5_isDone C off dear proved Dg dw nw giv (f_X3_intAt (nu j2) (ss j2) v4)).1) off dear ((f_X5_isDone C off dear proved Dg dw nw giv (f_X3_intAt (nu j2) (ss j2) v4)).2.1) ((f_X5_isDone C off dear proved Dg dw nw giv (f_X3_intAt (nu j2) (ss j2) v4)).2.2.1) ((f_X5_isDone C off dear proved Dg dw nw giv (f_X3_intAt (nu j2) (ss j2) v4)).2.2.2.1) ((f_X5_isDone C off dear proved Dg dw nw giv (f_X3_intAt (nu j2) (ss j2) v4)).2.2.2.2.1) nu sw ss giv t0 j2 v3 v4 (f_X3_intAt (nu j2) (ss j2) v4) ((f_X5_isDone C off dear proved Dg dw nw giv (f_X3_intAt (nu j2) (ss j2) v4)).2.2.2.2.2))))
set_option maxRecDepth 100000 in
set_option maxHeartbeats 4000000 in
theorem e_X5_script_61 {G : ng_GG} {hn : (Nat → Int32) → (Nat → Int32) → (Nat → Int32) → (Nat → Int32) → (Nat → Int32) → (Nat → Int32) → (Nat → Int32) → (Nat → Int32) → (Nat → Int32) → (Nat → Int32) → (Nat → Int32) → (Nat → Int32) → (Nat → Int32) → (Nat → Int32) → (Nat → Nat → Int64) → (Nat → Int32) → (Nat → Int32) → (Nat → Int32) → Int32 → (Nat → Nat → Int32) → Nat → ng_AM}  (V : ng_NL hn ) {C : Nat → Int32} {off : Nat → Int32} {dear : Nat → Int32} {proved : Nat → Int32} {Dg : Nat → Int32} {dw : Nat → Int32} {nw : Nat → Int32} {J : Nat → Int32} {bef : Nat → Int32} {mov : Nat → Int32} {nxt : Nat → Int32} {chn : Nat → Int32} {tol : Nat → Int32} {tw : Nat → Int32} {nu : Nat → Nat → Int64} {sw : Nat → Int32} {ss : Nat → Int32} {giv : Nat → Int32} {sE : Int32} {P : Nat → Nat → Int32} {pn : Nat} {kk38 : (Nat → Int32) → (Nat → Int32) → (Nat → Int32) → (Nat → Int32) → (Nat → Int32) → (Nat → Int32) → (Nat → Int32) → (Nat → Nat → Int64) → (Nat → Int32) → (Nat → Int32) → (Nat → Int32) → (Int32) → Nat → Int32 → Int32 → ((Nat → Int32) × (Nat → Int32) × (Nat → Int32) × (Nat → Int32) × (Nat → Int32) × (Nat → Int32) × (Int32) × Int32)} {sk38 : (Nat → Int32) → (Nat → Int32) → (Nat → Int32) → (Nat → Int32) → (Nat → Int32) → (Nat → Int32) → (Nat → Int32) → (Nat → Nat → Int64) → (Nat → Int32) → (Nat → Int32) → (Nat → Int32) → (Int32) → Nat → Int32 → Int32 → Prop} (hk38 : ∀ (C : Nat → Int32) (off : Nat → Int32) (dear : Nat → Int32) (proved : Nat → Int32) (Dg : Nat → Int32) (dw : Nat → Int32) (nw : Nat → Int32) (J : Nat → Int32) (bef : Nat → Int32) (mov : Nat → Int32) (nxt : Nat → Int32) (chn : Nat → Int32) (tol : Nat → Int32) (tw : Nat → Int32) (nu : Nat → Nat → Int64) (sw : Nat → Int32) (ss : Nat → Int32) (giv : Nat → Int32) (sE : Int32) (P : Nat → Nat → Int32) (pn : Nat) (j2 : Nat) (v3 : Int32) (v4 : Int32), sk38 C off dear proved Dg dw nw nu sw ss giv sE j2 v3 v4 → j2 < 4 → ng_Ev G md_X5_script 38 [some (.ref 0), none, some (.ref (19 + 2 * j2)), some (.int v3), some (.int v4), none] [] (hn C off dear proved Dg dw nw J bef mov nxt chn tol tw nu sw ss giv sE P pn) (K_X5_script hn off dear J bef mov nxt chn tol tw nu sw ss P pn (kk38 C off dear proved Dg dw nw nu sw ss giv sE j2 v3 v4))) {j2 : Nat} {v3 : Int32} {v4 : Int32} {t0 : Int32} (h : s_X5_script_61 sk38 C off dear proved Dg dw nw nu sw ss giv sE j2 v3 v4 t0) (hj2 : j2 < 4) : ng_Ev G md_X5_script 61 [some (.ref 0), none, some (.ref (19 + 2 * j2)), some (.int v3), some (.int v4), none] [.int t0, .ref 0] (hn C off dear proved Dg dw nw J bef mov nxt chn tol tw nu sw ss giv sE P pn) (K_X5_script hn off dear J bef mov nxt chn tol tw nu sw ss P pn (f_X5_script_61 kk38 C off dear proved Dg dw nw nu sw ss giv sE j2 v3 v4 t0)) := by
  unfold s_X5_script_61 at h
  unfold f_X5_script_61
  refine ev_put 5 6 fs_RX5_52 (NL_g0 V) (ng_lt rfl) rfl (NL_s0 V) (ng_fit_i _) dX5_script_61 ?_
  refine ev_aload_n dX5_script_64 rfl rfl rfl ?_
  refine ev_get 5 6 fl_RX5_52 (NL_g0 V) rfl dX5_script_65 ?_
  refine bk_if_eq (tgt := 73) dX5_script_68 (by decide) (fun c68 => ?_) (fun c68 => ?_)
  · replace h := h c68
    refine ev_aload_n dX5_script_73 rfl rfl rfl ?_
    refine ev_iload dX5_script_74 rfl ?_
    have hs76 := h.1
    replace h := h.2
    refine bk_callV (As := [.int v4]) (st := []) (st2 := [.int (f_X3_intAt (nu j2) (ss j2) v4)]) (M2 := hn C off dear proved Dg dw nw J bef mov nxt chn tol tw nu sw ss giv t0 P pn) ok_X3_intAt lk_RX5_281 (ng_rok.of rfl rfl) (NL_gs V hj2) rfl rfl rfl rfl rfl rfl dX5_script_76 (m_X3_intAt (NL_RT V hj2) hs76) rfl rfl ?_
    refine ev_istore (L' := [some (.ref 0), none, some (.ref (19 + 2 * j2)), some (.int v3), some (.int v4), some (.int (f_X3_intAt (nu j2) (ss j2) v4))]) dX5_script_79 (ng_lt rfl) rfl ?_
    refine ev_aload_n dX5_script_81 rfl rfl rfl ?_
    refine ev_iload dX5_script_82 rfl ?_
    have hs84 := h.1
    replace h := h.2
    refine bk_callV (As := [.int (f_X3_intAt (nu j2) (ss j2) v4)]) (st := []) (st2 := [.int ((f_X5_isDone C off dear proved Dg dw nw giv (f_X3_intAt (nu j2) (ss j2) v4)).2.2.2.2.2)]) (M2 := hn ((f_X5_isDone C off dear proved Dg dw nw giv (f_X3_intAt (nu j2) (ss j2) v4)).1) off dear ((f_X5_isDone C off dear proved Dg dw nw giv (f_X3_intAt (nu j2) (ss j2) v4)).2.1) ((f_X5_isDone C off dear proved Dg dw nw giv (f_X3_intAt (nu j2) (ss j2) v4)).2.2.1) ((f_X5_isDone C off dear proved Dg dw nw giv (f_X3_intAt (nu j2) (ss j2) v4)).2.2.2.1) ((f_X5_isDone C off dear proved Dg dw nw giv (f_X3_intAt (nu j2) (ss j2) v4)).2.2.2.2.1) J bef mov nxt chn tol tw nu sw ss giv t0 P pn) ok_X5_isDone lk_RX5_284 (ng_rok.of rfl rfl) (NL_g0 V) rfl rfl rfl rfl rfl rfl dX5_script_84 (m_X5_isDone V hs84) rfl rfl ?_
    exact ev_sub (e_X5_script_87 V hk38 h hj2) (sub_s (sub_n (sub_s (sub_s (sub_s (sub_s sub_e))))))
  · refine ev_iload_n dX5_script_71 rfl rfl ?_
    exact ev_iret rfl rfl dX5_script_72
def f_X5_script_38  : Nat → (Nat → Int32) → (Nat → Int32) → (Nat → Int32) → (Nat → Int32) → (Nat → Int32) → (Nat → Int32) → (Nat → Int32) → (Nat → Nat → Int64) → (Nat → Int32) → (Nat → Int32) → (Nat → Int32) → (Int32) → Nat → Int32 → Int32 → ((Nat → Int32) × (Nat → Int32) × (Nat → Int32) × (Nat → Int32) × (Nat → Int32) × (Nat → Int32) × (Int32) × Int32)
  | 0, C, _, _, proved, Dg, dw, nw, _, _, _, giv, sE, _, _, _ => (C, proved, Dg, dw, nw, giv, sE, 0)
  | n + 1, C, off, dear, proved, Dg, dw, nw, nu, sw, ss, giv, sE, j2, v3, v4 => (if (ss j2) ≤ v4 then (C, proved, Dg, dw, nw, giv, sE, v3) else (if (nI 60) ≤ v3 then (C, proved, Dg, dw, nw, giv, sE, v3) else f_X5_script_61 (f_X5_script_38 n) C off dear proved Dg dw nw nu sw ss ((f_X5_readAct nu ss giv j2 v4).1) sE j2 v3 v4 ((f_X5_readAct nu ss giv j2 v4).2)))
def s_X5_script_38  : Nat → (Nat → Int32) → (Nat → Int32) → (Nat → Int32) → (Nat → Int32) → (Nat → Int32) → (Nat → Int32) → (Nat → Int32) → (Nat → Nat → Int64) → (Nat → Int32) → (Nat → Int32) → (Nat → Int32) → (Int32) → Nat → Int32 → Int32 → Prop
  | 0, _, _, _, _, _, _, _, _, _, _, _, _, _, _, _ => False
  | n + 1, C, off, dear, proved, Dg, dw, nw, nu, sw, ss, giv, sE, j2, v3, v4 => (¬ (ss j2) ≤ v4 → (¬ (nI 60) ≤ v3 → (s_X5_readAct nu ss giv j2 v4 ∧ s_X5_script_61 (s_X5_script_38 n) C off dear proved Dg dw nw nu sw ss ((f_X5_readAct nu ss giv j2 v4).1) sE j2 v3 v4 ((f_X5_readAct nu ss giv j2 v4).2))))
set_option maxRecDepth 100000 in
set_option maxHeartbeats 4000000 in
theorem e_X5_script_38 {G : ng_GG} {hn : (Nat → Int32) → (Nat → Int32) → (Nat → Int32) → (Nat → Int32) → (Nat → Int32) → (Nat → Int32) → (Nat → Int32) → (Nat → Int32) → (Nat → Int32) → (Nat → Int32) → (Nat → Int32) → (Nat → Int32) → (Nat → Int32) → (Nat → Int32) → (Nat → Nat → Int64) → (Nat → Int32) → (Nat → Int32) → (Nat → Int32) → Int32 → (Nat → Nat → Int32) → Nat → ng_AM}  (V : ng_NL hn )  : ∀ (n : Nat) (C : Nat → Int32) (off : Nat → Int32) (dear : Nat → Int32) (proved : Nat → Int32) (Dg : Nat → Int32) (dw : Nat → Int32) (nw : Nat → Int32) (J : Nat → Int32) (bef : Nat → Int32) (mov : Nat → Int32) (nxt : Nat → Int32) (chn : Nat → Int32) (tol : Nat → Int32) (tw : Nat → Int32) (nu : Nat → Nat → Int64) (sw : Nat → Int32) (ss : Nat → Int32) (giv : Nat → Int32) (sE : Int32) (P : Nat → Nat → Int32) (pn : Nat) (j2 : Nat) (v3 : Int32) (v4 : Int32), s_X5_script_38  n C off dear proved Dg dw nw nu sw ss giv sE j2 v3 v4 → j2 < 4 → ng_Ev G md_X5_script 38 [some (.ref 0), none, some (.ref (19 + 2 * j2)), some (.int v3), some (.int v4), none] [] (hn C off dear proved Dg dw nw J bef mov nxt chn tol tw nu sw ss giv sE P pn) (K_X5_script hn off dear J bef mov nxt chn tol tw nu sw ss P pn (f_X5_script_38  n C off dear proved Dg dw nw nu sw ss giv sE j2 v3 v4)) := by
  intro n
  induction n with
  | zero => intro C off dear proved Dg dw nw J bef mov nxt chn tol tw nu sw ss giv sE P pn j2 v3 v4 h; exact False.elim h
  | succ n ih =>
    intro C off dear proved Dg dw nw J bef mov nxt chn tol tw nu sw ss giv sE P pn j2 v3 v4 h hj2
    rw [s_X5_script_38] at h
    rw [f_X5_script_38]
    refine ev_iload dX5_script_38 rfl ?_
    refine ev_aload_n dX5_script_40 rfl rfl rfl ?_
    refine ev_get 3 2 fl_RX5_274 (NL_gs V hj2) rfl dX5_script_41 ?_
    refine bk_icmp_ge (tgt := 115) dX5_script_44 (by decide) (fun c44 => ?_) (fun c44 => ?_)
    · refine ev_iload_n dX5_script_115 rfl rfl ?_
      exact ev_iret rfl rfl dX5_script_116
    · replace h := h c44
      refine ev_iload_n dX5_script_47 rfl rfl ?_
      refine ev_bipush (v := nI 60) dX5_script_48 (by decide) ?_
      refine bk_icmp_ge (tgt := 115) dX5_script_50 (by decide) (fun c50 => ?_) (fun c50 => ?_)
      · refine ev_iload_n dX5_script_115 rfl rfl ?_
        exact ev_iret rfl rfl dX5_script_116
      · replace h := h c50
        refine ev_aload_n dX5_script_53 rfl rfl rfl ?_
        refine ev_aload_n dX5_script_54 rfl rfl rfl ?_
        refine ev_aload_n dX5_script_55 rfl rfl rfl ?_
        refine ev_iload dX5_script_56 rfl ?_
        have hs58 := h.1
        replace h := h.2
        refine bk_callV (As := [.ref (19 + 2 * j2), .int v4]) (st := [.ref 0]) (st2 := [.int ((f_X5_readAct nu ss giv j2 v4).2), .ref 0]) (M2 := hn C off dear proved Dg dw nw J bef mov nxt chn tol tw nu sw ss ((f_X5_readAct nu ss giv j2 v4).1) sE P pn) ok_X5_readAct lk_RX5_277 (ng_rok.of rfl rfl) (NL_g0 V) rfl rfl rfl rfl rfl rfl dX5_script_58 (m_X5_readAct V hs58 hj2) rfl rfl ?_
        exact ev_sub (e_X5_script_61 V ih h hj2) (sub_s (sub_n (sub_s (sub_s (sub_s (sub_n sub_e))))))
def f_X5_script  (C : Nat → Int32) (off : Nat → Int32) (dear : Nat → Int32) (proved : Nat → Int32) (Dg : Nat → Int32) (dw : Nat → Int32) (nw : Nat → Int32) (nu : Nat → Nat → Int64) (sw : Nat → Int32) (ss : Nat → Int32) (giv : Nat → Int32) (sE : Int32) (v1 : Int32) : (Nat → Int32) × (Nat → Int32) × (Nat → Int32) × (Nat → Int32) × (Nat → Int32) × (Nat → Int32) × (Int32) × Int32 := (if (f_X5_isSlot v1) = 0 then (C, proved, Dg, dw, nw, giv, sE, (-2)) else (if (f_X3_isLaid (sw v1.toNatClampNeg)) = 0 then (C, proved, Dg, dw, nw, giv, sE, (-5)) else f_X5_script_38 ng_F C off dear proved Dg dw nw nu sw ss giv (nI 0) v1.toNatClampNeg (nI 0) (nI 0)))
def s_X5_script  (C : Nat → Int32) (off : Nat → Int32) (dear : Nat → Int32) (proved : Nat → Int32) (Dg : Nat → Int32) (dw : Nat → Int32) (nw : Nat → Int32) (nu : Nat → Nat → Int64) (sw : Nat → Int32) (ss : Nat → Int32) (giv : Nat → Int32) (sE : Int32) (v1 : Int32) : Prop := (s_X5_isSlot v1 ∧ (¬ (f_X5_isSlot v1) = 0 → (vp_in v1 4 ∧ (¬ (f_X3_isLaid (sw v1.toNatClampNeg)) = 0 → s_X5_script_38 ng_F C off dear proved Dg dw nw nu sw ss giv (nI 0) v1.toNatClampNeg (nI 0) (nI 0)))))
set_option maxRecDepth 100000 in
set_option maxHeartbeats 4000000 in
theorem e_X5_script {G : ng_GG} {hn : (Nat → Int32) → (Nat → Int32) → (Nat → Int32) → (Nat → Int32) → (Nat → Int32) → (Nat → Int32) → (Nat → Int32) → (Nat → Int32) → (Nat → Int32) → (Nat → Int32) → (Nat → Int32) → (Nat → Int32) → (Nat → Int32) → (Nat → Int32) → (Nat → Nat → Int64) → (Nat → Int32) → (Nat → Int32) → (Nat → Int32) → Int32 → (Nat → Nat → Int32) → Nat → ng_AM}  (V : ng_NL hn ) {C : Nat → Int32} {off : Nat → Int32} {dear : Nat → Int32} {proved : Nat → Int32} {Dg : Nat → Int32} {dw : Nat → Int32} {nw : Nat → Int32} {J : Nat → Int32} {bef : Nat → Int32} {mov : Nat → Int32} {nxt : Nat → Int32} {chn : Nat → Int32} {tol : Nat → Int32} {tw : Nat → Int32} {nu : Nat → Nat → Int64} {sw : Nat → Int32} {ss : Nat → Int32} {giv : Nat → Int32} {sE : Int32} {P : Nat → Nat → Int32} {pn : Nat}  {v1 : Int32} (h : s_X5_script  C off dear proved Dg dw nw nu sw ss giv sE v1)  : ng_Ev G md_X5_script 0 [some (.ref 0), some (.int v1), none, none, none, none] [] (hn C off dear proved Dg dw nw J bef mov nxt chn tol tw nu sw ss giv sE P pn) (K_X5_script hn off dear J bef mov nxt chn tol tw nu sw ss P pn (f_X5_script  C off dear proved Dg dw nw nu sw ss giv sE v1)) := by
  unfold s_X5_script at h
  unfold f_X5_script
  refine ev_aload_n dX5_script_0 rfl rfl rfl ?_
  refine ev_iload_n dX5_script_1 rfl rfl ?_
  have hs2 := h.1
  replace h := h.2
  refine bk_callV (As := [.int v1]) (st := []) (st2 := [.int (f_X5_isSlot v1)]) (M2 := hn C off dear proved Dg dw nw J bef mov nxt chn tol tw nu sw ss giv sE P pn) ok_X5_isSlot lk_RX5_243 (ng_rok.of rfl rfl) (NL_g0 V) rfl rfl rfl rfl rfl rfl dX5_script_2 (m_X5_isSlot V hs2) rfl rfl ?_
  refine bk_if_ne (tgt := 11) dX5_script_5 (by decide) (fun c5 => ?_) (fun c5 => ?_)
  · replace h := h c5
    refine ev_aload_n dX5_script_11 rfl rfl rfl ?_
    refine ev_get 5 4 fl_RX5_43 (NL_g0 V) rfl dX5_script_12 ?_
    refine ev_iload_n dX5_script_15 rfl rfl ?_
    have hi16 := h.1
    replace h := h.2
    refine ev_slot (NL_g18 V) hi16 dX5_script_16 ?_
    refine ev_astore_n (L' := [some (.ref 0), some (.int v1), some (.ref (19 + 2 * v1.toNatClampNeg)), none, none, none]) dX5_script_17 rfl (ng_lt rfl) rfl rfl ?_
    refine ev_aload_n dX5_script_18 rfl rfl rfl ?_
    refine bk_callV (As := []) (st := []) (st2 := [.int (f_X3_isLaid (sw v1.toNatClampNeg))]) (M2 := hn C off dear proved Dg dw nw J bef mov nxt chn tol tw nu sw ss giv sE P pn) ok_X3_isLaid lk_RX5_250 (ng_rok.of rfl rfl) (NL_gs V (ng_slt hi16)) rfl rfl rfl rfl rfl rfl dX5_script_19 (m_X3_isLaid (NL_RT V (ng_slt hi16)) trivial) rfl rfl ?_
    refine bk_if_ne (tgt := 28) dX5_script_22 (by decide) (fun c22 => ?_) (fun c22 => ?_)
    · replace h := h c22
      refine ev_aload_n dX5_script_28 rfl rfl rfl ?_
      refine ev_iconst (v := nI 0) dX5_script_29 (by decide) ?_
      refine ev_put 5 6 fs_RX5_52 (NL_g0 V) (ng_lt rfl) rfl (NL_s0 V) (ng_fit_i _) dX5_script_30 ?_
      refine ev_iconst (v := nI 0) dX5_script_33 (by decide) ?_
      refine ev_istore_n (L' := [some (.ref 0), some (.int v1), some (.ref (19 + 2 * v1.toNatClampNeg)), some (.int (nI 0)), none, none]) dX5_script_34 rfl (ng_lt rfl) rfl ?_
      refine ev_iconst (v := nI 0) dX5_script_35 (by decide) ?_
      refine ev_istore (L' := [some (.ref 0), some (.int v1), some (.ref (19 + 2 * v1.toNatClampNeg)), some (.int (nI 0)), some (.int (nI 0)), none]) dX5_script_36 (ng_lt rfl) rfl ?_
      exact ev_sub (e_X5_script_38 V ng_F C off dear proved Dg dw nw J bef mov nxt chn tol tw nu sw ss giv (nI 0) P pn v1.toNatClampNeg (nI 0) (nI 0) h (ng_slt hi16)) (sub_s (sub_n (sub_s (sub_s (sub_s (sub_n sub_e))))))
    · refine ev_bipush (v := (-5)) dX5_script_25 (by decide) ?_
      exact ev_iret rfl rfl dX5_script_27
  · refine ev_bipush (v := (-2)) dX5_script_8 (by decide) ?_
    exact ev_iret rfl rfl dX5_script_10
theorem m_X5_script {G : ng_GG} {hn : (Nat → Int32) → (Nat → Int32) → (Nat → Int32) → (Nat → Int32) → (Nat → Int32) → (Nat → Int32) → (Nat → Int32) → (Nat → Int32) → (Nat → Int32) → (Nat → Int32) → (Nat → Int32) → (Nat → Int32) → (Nat → Int32) → (Nat → Int32) → (Nat → Nat → Int64) → (Nat → Int32) → (Nat → Int32) → (Nat → Int32) → Int32 → (Nat → Nat → Int32) → Nat → ng_AM}  (V : ng_NL hn ) {C : Nat → Int32} {off : Nat → Int32} {dear : Nat → Int32} {proved : Nat → Int32} {Dg : Nat → Int32} {dw : Nat → Int32} {nw : Nat → Int32} {J : Nat → Int32} {bef : Nat → Int32} {mov : Nat → Int32} {nxt : Nat → Int32} {chn : Nat → Int32} {tol : Nat → Int32} {tw : Nat → Int32} {nu : Nat → Nat → Int64} {sw : Nat → Int32} {ss : Nat → Int32} {giv : Nat → Int32} {sE : Int32} {P : Nat → Nat → Int32} {pn : Nat} {v1 : Int32} (h : s_X5_script C off dear proved Dg dw nw nu sw ss giv sE v1)  : ng_Ev G md_X5_script 0 (ng_en 6 [.ref 0, .int v1]) [] (hn C off dear proved Dg dw nw J bef mov nxt chn tol tw nu sw ss giv sE P pn) (K_X5_script hn off dear J bef mov nxt chn tol tw nu sw ss P pn (f_X5_script C off dear proved Dg dw nw nu sw ss giv sE v1)) := e_X5_script V h 
def K_X5_why (hn : (Nat → Int32) → (Nat → Int32) → (Nat → Int32) → (Nat → Int32) → (Nat → Int32) → (Nat → Int32) → (Nat → Int32) → (Nat → Int32) → (Nat → Int32) → (Nat → Int32) → (Nat → Int32) → (Nat → Int32) → (Nat → Int32) → (Nat → Int32) → (Nat → Nat → Int64) → (Nat → Int32) → (Nat → Int32) → (Nat → Int32) → Int32 → (Nat → Nat → Int32) → Nat → ng_AM) (C : Nat → Int32) (off : Nat → Int32) (dear : Nat → Int32) (proved : Nat → Int32) (Dg : Nat → Int32) (dw : Nat → Int32) (nw : Nat → Int32) (J : Nat → Int32) (bef : Nat → Int32) (mov : Nat → Int32) (nxt : Nat → Int32) (chn : Nat → Int32) (tol : Nat → Int32) (tw : Nat → Int32) (nu : Nat → Nat → Int64) (sw : Nat → Int32) (ss : Nat → Int32) (giv : Nat → Int32) (sE : Int32) (P : Nat → Nat → Int32) (pn : Nat) (r : Int32) : ng_RR := (some (.int (r)), hn C off dear proved Dg dw nw J bef mov nxt chn tol tw nu sw ss giv sE P pn)
def f_X5_why  (sE : Int32)  : Int32 := sE
def s_X5_why  (sE : Int32)  : Prop := True
set_option maxRecDepth 100000 in
set_option maxHeartbeats 4000000 in
theorem e_X5_why {G : ng_GG} {hn : (Nat → Int32) → (Nat → Int32) → (Nat → Int32) → (Nat → Int32) → (Nat → Int32) → (Nat → Int32) → (Nat → Int32) → (Nat → Int32) → (Nat → Int32) → (Nat → Int32) → (Nat → Int32) → (Nat → Int32) → (Nat → Int32) → (Nat → Int32) → (Nat → Nat → Int64) → (Nat → Int32) → (Nat → Int32) → (Nat → Int32) → Int32 → (Nat → Nat → Int32) → Nat → ng_AM}  (V : ng_NL hn ) {C : Nat → Int32} {off : Nat → Int32} {dear : Nat → Int32} {proved : Nat → Int32} {Dg : Nat → Int32} {dw : Nat → Int32} {nw : Nat → Int32} {J : Nat → Int32} {bef : Nat → Int32} {mov : Nat → Int32} {nxt : Nat → Int32} {chn : Nat → Int32} {tol : Nat → Int32} {tw : Nat → Int32} {nu : Nat → Nat → Int64} {sw : Nat → Int32} {ss : Nat → Int32} {giv : Nat → Int32} {sE : Int32} {P : Nat → Nat → Int32} {pn : Nat}   (h : s_X5_why  sE)  : ng_Ev G md_X5_why 0 [some (.ref 0)] [] (hn C off dear proved Dg dw nw J bef mov nxt chn tol tw nu sw ss giv sE P pn) (K_X5_why hn C off dear proved Dg dw nw J bef mov nxt chn tol tw nu sw ss giv sE P pn (f_X5_why  sE)) := by
  unfold s_X5_why at h
  unfold f_X5_why
  refine ev_aload_n dX5_why_0 rfl rfl rfl ?_
  refine ev_get 5 6 fl_RX5_52 (NL_g0 V) rfl dX5_why_1 ?_
  exact ev_iret rfl rfl dX5_why_4
theorem m_X5_why {G : ng_GG} {hn : (Nat → Int32) → (Nat → Int32) → (Nat → Int32) → (Nat → Int32) → (Nat → Int32) → (Nat → Int32) → (Nat → Int32) → (Nat → Int32) → (Nat → Int32) → (Nat → Int32) → (Nat → Int32) → (Nat → Int32) → (Nat → Int32) → (Nat → Int32) → (Nat → Nat → Int64) → (Nat → Int32) → (Nat → Int32) → (Nat → Int32) → Int32 → (Nat → Nat → Int32) → Nat → ng_AM}  (V : ng_NL hn ) {C : Nat → Int32} {off : Nat → Int32} {dear : Nat → Int32} {proved : Nat → Int32} {Dg : Nat → Int32} {dw : Nat → Int32} {nw : Nat → Int32} {J : Nat → Int32} {bef : Nat → Int32} {mov : Nat → Int32} {nxt : Nat → Int32} {chn : Nat → Int32} {tol : Nat → Int32} {tw : Nat → Int32} {nu : Nat → Nat → Int64} {sw : Nat → Int32} {ss : Nat → Int32} {giv : Nat → Int32} {sE : Int32} {P : Nat → Nat → Int32} {pn : Nat}  (h : s_X5_why sE)  : ng_Ev G md_X5_why 0 (ng_en 1 [.ref 0]) [] (hn C off dear proved Dg dw nw J bef mov nxt chn tol tw nu sw ss giv sE P pn) (K_X5_why hn C off dear proved Dg dw nw J bef mov nxt chn tol tw nu sw ss giv sE P pn (f_X5_why sE)) := e_X5_why V h 
