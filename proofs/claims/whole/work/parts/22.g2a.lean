def K_X4_time (M : ng_AM) (r : Int32) : ng_RR := (some (.int (r)), M)
def f_X4_time  (w : Nat → Int32)  : Int32 := (w (nI 0).toNatClampNeg)
def s_X4_time  (w : Nat → Int32)  : Prop := True
set_option maxRecDepth 100000 in
set_option maxHeartbeats 4000000 in
theorem e_X4_time {G : ng_GG} {M : ng_AM} {k : Nat} {a : Nat} {dv : Value} {w : Nat → Int32} {C : Nat → Int32} {off : Nat → Int32} {dear : Nat → Int32} {proved : Nat → Int32} (V : ng_RW M k a dv w C off dear proved)    (h : s_X4_time  w)  : ng_Ev G md_X4_time 0 [some (.ref k)] [] (M) (K_X4_time M (f_X4_time  w)) := by
  unfold s_X4_time at h
  unfold f_X4_time
  refine ev_aload_n dX4_time_0 rfl rfl rfl ?_
  refine ev_get 4 0 fl_RX4_11 (RW_gk V) rfl dX4_time_1 ?_
  refine ev_iconst (v := nI 0) dX4_time_4 (by decide) ?_
  refine ev_iald (RW_ga V) (vp_in_nI (by decide) (by decide)) dX4_time_5 ?_
  exact ev_iret rfl rfl dX4_time_6
theorem m_X4_time {G : ng_GG} {M : ng_AM} {k : Nat} {a : Nat} {dv : Value} {w : Nat → Int32} {C : Nat → Int32} {off : Nat → Int32} {dear : Nat → Int32} {proved : Nat → Int32} (V : ng_RW M k a dv w C off dear proved)   (h : s_X4_time w)  : ng_Ev G md_X4_time 0 (ng_en 1 [.ref k]) [] (M) (K_X4_time M (f_X4_time w)) := e_X4_time V h 
def K_X4_notes (M : ng_AM) (r : Int32) : ng_RR := (some (.int (r)), M)
def f_X4_notes  (w : Nat → Int32)  : Int32 := (w (nI 1).toNatClampNeg)
def s_X4_notes  (w : Nat → Int32)  : Prop := True
set_option maxRecDepth 100000 in
set_option maxHeartbeats 4000000 in
theorem e_X4_notes {G : ng_GG} {M : ng_AM} {k : Nat} {a : Nat} {dv : Value} {w : Nat → Int32} {C : Nat → Int32} {off : Nat → Int32} {dear : Nat → Int32} {proved : Nat → Int32} (V : ng_RW M k a dv w C off dear proved)    (h : s_X4_notes  w)  : ng_Ev G md_X4_notes 0 [some (.ref k)] [] (M) (K_X4_notes M (f_X4_notes  w)) := by
  unfold s_X4_notes at h
  unfold f_X4_notes
  refine ev_aload_n dX4_notes_0 rfl rfl rfl ?_
  refine ev_get 4 0 fl_RX4_11 (RW_gk V) rfl dX4_notes_1 ?_
  refine ev_iconst (v := nI 1) dX4_notes_4 (by decide) ?_
  refine ev_iald (RW_ga V) (vp_in_nI (by decide) (by decide)) dX4_notes_5 ?_
  exact ev_iret rfl rfl dX4_notes_6
theorem m_X4_notes {G : ng_GG} {M : ng_AM} {k : Nat} {a : Nat} {dv : Value} {w : Nat → Int32} {C : Nat → Int32} {off : Nat → Int32} {dear : Nat → Int32} {proved : Nat → Int32} (V : ng_RW M k a dv w C off dear proved)   (h : s_X4_notes w)  : ng_Ev G md_X4_notes 0 (ng_en 1 [.ref k]) [] (M) (K_X4_notes M (f_X4_notes w)) := e_X4_notes V h 
def K_X4_families (M : ng_AM) (r : Int32) : ng_RR := (some (.int (r)), M)
def f_X4_families  (w : Nat → Int32)  : Int32 := (w (nI 2).toNatClampNeg)
def s_X4_families  (w : Nat → Int32)  : Prop := True
set_option maxRecDepth 100000 in
set_option maxHeartbeats 4000000 in
theorem e_X4_families {G : ng_GG} {M : ng_AM} {k : Nat} {a : Nat} {dv : Value} {w : Nat → Int32} {C : Nat → Int32} {off : Nat → Int32} {dear : Nat → Int32} {proved : Nat → Int32} (V : ng_RW M k a dv w C off dear proved)    (h : s_X4_families  w)  : ng_Ev G md_X4_families 0 [some (.ref k)] [] (M) (K_X4_families M (f_X4_families  w)) := by
  unfold s_X4_families at h
  unfold f_X4_families
  refine ev_aload_n dX4_families_0 rfl rfl rfl ?_
  refine ev_get 4 0 fl_RX4_11 (RW_gk V) rfl dX4_families_1 ?_
  refine ev_iconst (v := nI 2) dX4_families_4 (by decide) ?_
  refine ev_iald (RW_ga V) (vp_in_nI (by decide) (by decide)) dX4_families_5 ?_
  exact ev_iret rfl rfl dX4_families_6
theorem m_X4_families {G : ng_GG} {M : ng_AM} {k : Nat} {a : Nat} {dv : Value} {w : Nat → Int32} {C : Nat → Int32} {off : Nat → Int32} {dear : Nat → Int32} {proved : Nat → Int32} (V : ng_RW M k a dv w C off dear proved)   (h : s_X4_families w)  : ng_Ev G md_X4_families 0 (ng_en 1 [.ref k]) [] (M) (K_X4_families M (f_X4_families w)) := e_X4_families V h 
def K_X4_letters (M : ng_AM) (r : Int32) : ng_RR := (some (.int (r)), M)
def f_X4_letters  (w : Nat → Int32)  : Int32 := (w (nI 3).toNatClampNeg)
def s_X4_letters  (w : Nat → Int32)  : Prop := True
set_option maxRecDepth 100000 in
set_option maxHeartbeats 4000000 in
theorem e_X4_letters {G : ng_GG} {M : ng_AM} {k : Nat} {a : Nat} {dv : Value} {w : Nat → Int32} {C : Nat → Int32} {off : Nat → Int32} {dear : Nat → Int32} {proved : Nat → Int32} (V : ng_RW M k a dv w C off dear proved)    (h : s_X4_letters  w)  : ng_Ev G md_X4_letters 0 [some (.ref k)] [] (M) (K_X4_letters M (f_X4_letters  w)) := by
  unfold s_X4_letters at h
  unfold f_X4_letters
  refine ev_aload_n dX4_letters_0 rfl rfl rfl ?_
  refine ev_get 4 0 fl_RX4_11 (RW_gk V) rfl dX4_letters_1 ?_
  refine ev_iconst (v := nI 3) dX4_letters_4 (by decide) ?_
  refine ev_iald (RW_ga V) (vp_in_nI (by decide) (by decide)) dX4_letters_5 ?_
  exact ev_iret rfl rfl dX4_letters_6
theorem m_X4_letters {G : ng_GG} {M : ng_AM} {k : Nat} {a : Nat} {dv : Value} {w : Nat → Int32} {C : Nat → Int32} {off : Nat → Int32} {dear : Nat → Int32} {proved : Nat → Int32} (V : ng_RW M k a dv w C off dear proved)   (h : s_X4_letters w)  : ng_Ev G md_X4_letters 0 (ng_en 1 [.ref k]) [] (M) (K_X4_letters M (f_X4_letters w)) := e_X4_letters V h 
def K_X4_isNote (M : ng_AM) (r : Int32) : ng_RR := (some (.int (r)), M)
def f_X4_isNote  (w : Nat → Int32) (v1 : Int32) : Int32 := (if v1 < 0 then nI 0 else (if (w (nI 1).toNatClampNeg) ≤ v1 then nI 0 else (if (nI 32) ≤ v1 then nI 0 else nI 1)))
def s_X4_isNote  (w : Nat → Int32) (v1 : Int32) : Prop := True
set_option maxRecDepth 100000 in
set_option maxHeartbeats 4000000 in
theorem e_X4_isNote {G : ng_GG} {M : ng_AM} {k : Nat} {a : Nat} {dv : Value} {w : Nat → Int32} {C : Nat → Int32} {off : Nat → Int32} {dear : Nat → Int32} {proved : Nat → Int32} (V : ng_RW M k a dv w C off dear proved)   {v1 : Int32} (h : s_X4_isNote  w v1)  : ng_Ev G md_X4_isNote 0 [some (.ref k), some (.int v1)] [] (M) (K_X4_isNote M (f_X4_isNote  w v1)) := by
  unfold s_X4_isNote at h
  unfold f_X4_isNote
  refine ev_iload_n dX4_isNote_0 rfl rfl ?_
  refine bk_if_lt (tgt := 24) dX4_isNote_1 (by decide) (fun c1 => ?_) (fun c1 => ?_)
  · refine ev_iconst (v := nI 0) dX4_isNote_24 (by decide) ?_
    exact ev_iret rfl (by decide) dX4_isNote_25
  · refine ev_iload_n dX4_isNote_4 rfl rfl ?_
    refine ev_aload_n dX4_isNote_5 rfl rfl rfl ?_
    refine ev_get 4 0 fl_RX4_11 (RW_gk V) rfl dX4_isNote_6 ?_
    refine ev_iconst (v := nI 1) dX4_isNote_9 (by decide) ?_
    refine ev_iald (RW_ga V) (vp_in_nI (by decide) (by decide)) dX4_isNote_10 ?_
    refine bk_icmp_ge (tgt := 24) dX4_isNote_11 (by decide) (fun c11 => ?_) (fun c11 => ?_)
    · refine ev_iconst (v := nI 0) dX4_isNote_24 (by decide) ?_
      exact ev_iret rfl (by decide) dX4_isNote_25
    · refine ev_iload_n dX4_isNote_14 rfl rfl ?_
      refine ev_bipush (v := nI 32) dX4_isNote_15 (by decide) ?_
      refine bk_icmp_ge (tgt := 24) dX4_isNote_17 (by decide) (fun c17 => ?_) (fun c17 => ?_)
      · refine ev_iconst (v := nI 0) dX4_isNote_24 (by decide) ?_
        exact ev_iret rfl (by decide) dX4_isNote_25
      · refine ev_iconst (v := nI 1) dX4_isNote_20 (by decide) ?_
        refine ev_goto (tgt := 25) dX4_isNote_21 (by decide) ?_
        exact ev_iret rfl (by decide) dX4_isNote_25
theorem m_X4_isNote {G : ng_GG} {M : ng_AM} {k : Nat} {a : Nat} {dv : Value} {w : Nat → Int32} {C : Nat → Int32} {off : Nat → Int32} {dear : Nat → Int32} {proved : Nat → Int32} (V : ng_RW M k a dv w C off dear proved)  {v1 : Int32} (h : s_X4_isNote w v1)  : ng_Ev G md_X4_isNote 0 (ng_en 2 [.ref k, .int v1]) [] (M) (K_X4_isNote M (f_X4_isNote w v1)) := e_X4_isNote V h 
def K_X4_isFamily (M : ng_AM) (r : Int32) : ng_RR := (some (.int (r)), M)
def f_X4_isFamily  (w : Nat → Int32) (v1 : Int32) : Int32 := (if v1 < 0 then nI 0 else (if (w (nI 2).toNatClampNeg) ≤ v1 then nI 0 else (if (nI 16) ≤ v1 then nI 0 else nI 1)))
def s_X4_isFamily  (w : Nat → Int32) (v1 : Int32) : Prop := True
set_option maxRecDepth 100000 in
set_option maxHeartbeats 4000000 in
theorem e_X4_isFamily {G : ng_GG} {M : ng_AM} {k : Nat} {a : Nat} {dv : Value} {w : Nat → Int32} {C : Nat → Int32} {off : Nat → Int32} {dear : Nat → Int32} {proved : Nat → Int32} (V : ng_RW M k a dv w C off dear proved)   {v1 : Int32} (h : s_X4_isFamily  w v1)  : ng_Ev G md_X4_isFamily 0 [some (.ref k), some (.int v1)] [] (M) (K_X4_isFamily M (f_X4_isFamily  w v1)) := by
  unfold s_X4_isFamily at h
  unfold f_X4_isFamily
  refine ev_iload_n dX4_isFamily_0 rfl rfl ?_
  refine bk_if_lt (tgt := 24) dX4_isFamily_1 (by decide) (fun c1 => ?_) (fun c1 => ?_)
  · refine ev_iconst (v := nI 0) dX4_isFamily_24 (by decide) ?_
    exact ev_iret rfl (by decide) dX4_isFamily_25
  · refine ev_iload_n dX4_isFamily_4 rfl rfl ?_
    refine ev_aload_n dX4_isFamily_5 rfl rfl rfl ?_
    refine ev_get 4 0 fl_RX4_11 (RW_gk V) rfl dX4_isFamily_6 ?_
    refine ev_iconst (v := nI 2) dX4_isFamily_9 (by decide) ?_
    refine ev_iald (RW_ga V) (vp_in_nI (by decide) (by decide)) dX4_isFamily_10 ?_
    refine bk_icmp_ge (tgt := 24) dX4_isFamily_11 (by decide) (fun c11 => ?_) (fun c11 => ?_)
    · refine ev_iconst (v := nI 0) dX4_isFamily_24 (by decide) ?_
      exact ev_iret rfl (by decide) dX4_isFamily_25
    · refine ev_iload_n dX4_isFamily_14 rfl rfl ?_
      refine ev_bipush (v := nI 16) dX4_isFamily_15 (by decide) ?_
      refine bk_icmp_ge (tgt := 24) dX4_isFamily_17 (by decide) (fun c17 => ?_) (fun c17 => ?_)
      · refine ev_iconst (v := nI 0) dX4_isFamily_24 (by decide) ?_
        exact ev_iret rfl (by decide) dX4_isFamily_25
      · refine ev_iconst (v := nI 1) dX4_isFamily_20 (by decide) ?_
        refine ev_goto (tgt := 25) dX4_isFamily_21 (by decide) ?_
        exact ev_iret rfl (by decide) dX4_isFamily_25
theorem m_X4_isFamily {G : ng_GG} {M : ng_AM} {k : Nat} {a : Nat} {dv : Value} {w : Nat → Int32} {C : Nat → Int32} {off : Nat → Int32} {dear : Nat → Int32} {proved : Nat → Int32} (V : ng_RW M k a dv w C off dear proved)  {v1 : Int32} (h : s_X4_isFamily w v1)  : ng_Ev G md_X4_isFamily 0 (ng_en 2 [.ref k, .int v1]) [] (M) (K_X4_isFamily M (f_X4_isFamily w v1)) := e_X4_isFamily V h 
def K_X4_isLetter (M : ng_AM) (r : Int32) : ng_RR := (some (.int (r)), M)
def f_X4_isLetter  (w : Nat → Int32) (v1 : Int32) : Int32 := (if v1 < 0 then nI 0 else (if (w (nI 3).toNatClampNeg) ≤ v1 then nI 0 else (if (nI 12) ≤ v1 then nI 0 else nI 1)))
def s_X4_isLetter  (w : Nat → Int32) (v1 : Int32) : Prop := True
set_option maxRecDepth 100000 in
set_option maxHeartbeats 4000000 in
theorem e_X4_isLetter {G : ng_GG} {M : ng_AM} {k : Nat} {a : Nat} {dv : Value} {w : Nat → Int32} {C : Nat → Int32} {off : Nat → Int32} {dear : Nat → Int32} {proved : Nat → Int32} (V : ng_RW M k a dv w C off dear proved)   {v1 : Int32} (h : s_X4_isLetter  w v1)  : ng_Ev G md_X4_isLetter 0 [some (.ref k), some (.int v1)] [] (M) (K_X4_isLetter M (f_X4_isLetter  w v1)) := by
  unfold s_X4_isLetter at h
  unfold f_X4_isLetter
  refine ev_iload_n dX4_isLetter_0 rfl rfl ?_
  refine bk_if_lt (tgt := 24) dX4_isLetter_1 (by decide) (fun c1 => ?_) (fun c1 => ?_)
  · refine ev_iconst (v := nI 0) dX4_isLetter_24 (by decide) ?_
    exact ev_iret rfl (by decide) dX4_isLetter_25
  · refine ev_iload_n dX4_isLetter_4 rfl rfl ?_
    refine ev_aload_n dX4_isLetter_5 rfl rfl rfl ?_
    refine ev_get 4 0 fl_RX4_11 (RW_gk V) rfl dX4_isLetter_6 ?_
    refine ev_iconst (v := nI 3) dX4_isLetter_9 (by decide) ?_
    refine ev_iald (RW_ga V) (vp_in_nI (by decide) (by decide)) dX4_isLetter_10 ?_
    refine bk_icmp_ge (tgt := 24) dX4_isLetter_11 (by decide) (fun c11 => ?_) (fun c11 => ?_)
    · refine ev_iconst (v := nI 0) dX4_isLetter_24 (by decide) ?_
      exact ev_iret rfl (by decide) dX4_isLetter_25
    · refine ev_iload_n dX4_isLetter_14 rfl rfl ?_
      refine ev_bipush (v := nI 12) dX4_isLetter_15 (by decide) ?_
      refine bk_icmp_ge (tgt := 24) dX4_isLetter_17 (by decide) (fun c17 => ?_) (fun c17 => ?_)
      · refine ev_iconst (v := nI 0) dX4_isLetter_24 (by decide) ?_
        exact ev_iret rfl (by decide) dX4_isLetter_25
      · refine ev_iconst (v := nI 1) dX4_isLetter_20 (by decide) ?_
        refine ev_goto (tgt := 25) dX4_isLetter_21 (by decide) ?_
        exact ev_iret rfl (by decide) dX4_isLetter_25
theorem m_X4_isLetter {G : ng_GG} {M : ng_AM} {k : Nat} {a : Nat} {dv : Value} {w : Nat → Int32} {C : Nat → Int32} {off : Nat → Int32} {dear : Nat → Int32} {proved : Nat → Int32} (V : ng_RW M k a dv w C off dear proved)  {v1 : Int32} (h : s_X4_isLetter w v1)  : ng_Ev G md_X4_isLetter 0 (ng_en 2 [.ref k, .int v1]) [] (M) (K_X4_isLetter M (f_X4_isLetter w v1)) := e_X4_isLetter V h 
def K_X4_noteWord (M : ng_AM) (r : Int32) : ng_RR := (some (.int (r)), M)
def f_X4_noteWord_23  (w : Nat → Int32) (v1 : Int32) (v2 : Int32) (t0 : Int32) : Int32 := (if t0 = 0 then (-1) else (w (((nI 142) + (v1 * (nI 11))) + v2).toNatClampNeg))
def s_X4_noteWord_23  (w : Nat → Int32) (v1 : Int32) (v2 : Int32) (t0 : Int32) : Prop := (¬ t0 = 0 → vp_in (((nI 142) + (v1 * (nI 11))) + v2) 494)
set_option maxRecDepth 100000 in
set_option maxHeartbeats 4000000 in
theorem e_X4_noteWord_23 {G : ng_GG} {M : ng_AM} {k : Nat} {a : Nat} {dv : Value} {w : Nat → Int32} {C : Nat → Int32} {off : Nat → Int32} {dear : Nat → Int32} {proved : Nat → Int32} (V : ng_RW M k a dv w C off dear proved)   {v1 : Int32} {v2 : Int32} {t0 : Int32} (h : s_X4_noteWord_23  w v1 v2 t0)  : ng_Ev G md_X4_noteWord 23 [some (.ref k), some (.int v1), some (.int v2), none] [.int t0] (M) (K_X4_noteWord M (f_X4_noteWord_23  w v1 v2 t0)) := by
  unfold s_X4_noteWord_23 at h
  unfold f_X4_noteWord_23
  refine ev_istore_n (L' := [some (.ref k), some (.int v1), some (.int v2), some (.int t0)]) dX4_noteWord_23 rfl (ng_lt rfl) rfl ?_
  refine ev_iload_n dX4_noteWord_24 rfl rfl ?_
  refine bk_if_eq (tgt := 46) dX4_noteWord_25 (by decide) (fun c25 => ?_) (fun c25 => ?_)
  · refine ev_iconst (v := (-1)) dX4_noteWord_46 (by decide) ?_
    exact ev_iret rfl rfl dX4_noteWord_47
  · replace h := h c25
    refine ev_aload_n dX4_noteWord_28 rfl rfl rfl ?_
    refine ev_get 4 0 fl_RX4_11 (RW_gk V) rfl dX4_noteWord_29 ?_
    refine ev_sipush (v := nI 142) dX4_noteWord_32 (by decide) ?_
    refine ev_iload_n dX4_noteWord_35 rfl rfl ?_
    refine ev_bipush (v := nI 11) dX4_noteWord_36 (by decide) ?_
    refine ev_imul dX4_noteWord_38 ?_
    refine ev_iadd dX4_noteWord_39 ?_
    refine ev_iload_n dX4_noteWord_40 rfl rfl ?_
    refine ev_iadd dX4_noteWord_41 ?_
    have hi42 := h
    refine ev_iald (RW_ga V) hi42 dX4_noteWord_42 ?_
    refine ev_goto (tgt := 47) dX4_noteWord_43 (by decide) ?_
    exact ev_iret rfl rfl dX4_noteWord_47
def f_X4_noteWord_22  (w : Nat → Int32) (v1 : Int32) (v2 : Int32) : Int32 := f_X4_noteWord_23 w v1 v2 (nI 0)
def s_X4_noteWord_22  (w : Nat → Int32) (v1 : Int32) (v2 : Int32) : Prop := s_X4_noteWord_23 w v1 v2 (nI 0)
set_option maxRecDepth 100000 in
set_option maxHeartbeats 4000000 in
theorem e_X4_noteWord_22 {G : ng_GG} {M : ng_AM} {k : Nat} {a : Nat} {dv : Value} {w : Nat → Int32} {C : Nat → Int32} {off : Nat → Int32} {dear : Nat → Int32} {proved : Nat → Int32} (V : ng_RW M k a dv w C off dear proved)   {v1 : Int32} {v2 : Int32} (h : s_X4_noteWord_22  w v1 v2)  : ng_Ev G md_X4_noteWord 22 [some (.ref k), some (.int v1), some (.int v2), none] [] (M) (K_X4_noteWord M (f_X4_noteWord_22  w v1 v2)) := by
  unfold s_X4_noteWord_22 at h
  unfold f_X4_noteWord_22
  refine ev_iconst (v := nI 0) dX4_noteWord_22 (by decide) ?_
  exact ev_sub (e_X4_noteWord_23 V h) (sub_s (sub_s (sub_s (sub_n sub_e))))
def f_X4_noteWord  (w : Nat → Int32) (v1 : Int32) (v2 : Int32) : Int32 := (if (f_X4_isNote w v1) = 0 then f_X4_noteWord_22 w v1 v2 else (if v2 < 0 then f_X4_noteWord_22 w v1 v2 else (if (nI 11) ≤ v2 then f_X4_noteWord_22 w v1 v2 else f_X4_noteWord_23 w v1 v2 (nI 1))))
def s_X4_noteWord  (w : Nat → Int32) (v1 : Int32) (v2 : Int32) : Prop := (((f_X4_isNote w v1) = 0 → s_X4_noteWord_22 w v1 v2) ∧ (¬ (f_X4_isNote w v1) = 0 → ((v2 < 0 → s_X4_noteWord_22 w v1 v2) ∧ (¬ v2 < 0 → (((nI 11) ≤ v2 → s_X4_noteWord_22 w v1 v2) ∧ (¬ (nI 11) ≤ v2 → s_X4_noteWord_23 w v1 v2 (nI 1)))))))
set_option maxRecDepth 100000 in
set_option maxHeartbeats 4000000 in
theorem e_X4_noteWord {G : ng_GG} {M : ng_AM} {k : Nat} {a : Nat} {dv : Value} {w : Nat → Int32} {C : Nat → Int32} {off : Nat → Int32} {dear : Nat → Int32} {proved : Nat → Int32} (V : ng_RW M k a dv w C off dear proved)   {v1 : Int32} {v2 : Int32} (h : s_X4_noteWord  w v1 v2)  : ng_Ev G md_X4_noteWord 0 [some (.ref k), some (.int v1), some (.int v2), none] [] (M) (K_X4_noteWord M (f_X4_noteWord  w v1 v2)) := by
  unfold s_X4_noteWord at h
  unfold f_X4_noteWord
  refine ev_aload_n dX4_noteWord_0 rfl rfl rfl ?_
  refine ev_iload_n dX4_noteWord_1 rfl rfl ?_
  refine bk_callV (As := [.int v1]) (st := []) (st2 := [.int (f_X4_isNote w v1)]) (M2 := M) ok_X4_isNote lk_RX4_23 (ng_rok.of rfl rfl) (RW_gk V) rfl rfl rfl rfl rfl rfl dX4_noteWord_2 (m_X4_isNote V trivial) rfl rfl ?_
  refine bk_if_eq (tgt := 22) dX4_noteWord_5 (by decide) (fun c5 => ?_) (fun c5 => ?_)
  · replace h := h.1 c5
    exact ev_sub (e_X4_noteWord_22 V h) (sub_s (sub_s (sub_s (sub_n sub_e))))
  · replace h := h.2 c5
    refine ev_iload_n dX4_noteWord_8 rfl rfl ?_
    refine bk_if_lt (tgt := 22) dX4_noteWord_9 (by decide) (fun c9 => ?_) (fun c9 => ?_)
    · replace h := h.1 c9
      exact ev_sub (e_X4_noteWord_22 V h) (sub_s (sub_s (sub_s (sub_n sub_e))))
    · replace h := h.2 c9
      refine ev_iload_n dX4_noteWord_12 rfl rfl ?_
      refine ev_bipush (v := nI 11) dX4_noteWord_13 (by decide) ?_
      refine bk_icmp_ge (tgt := 22) dX4_noteWord_15 (by decide) (fun c15 => ?_) (fun c15 => ?_)
      · replace h := h.1 c15
        exact ev_sub (e_X4_noteWord_22 V h) (sub_s (sub_s (sub_s (sub_n sub_e))))
      · replace h := h.2 c15
        refine ev_iconst (v := nI 1) dX4_noteWord_18 (by decide) ?_
        refine ev_goto (tgt := 23) dX4_noteWord_19 (by decide) ?_
        exact ev_sub (e_X4_noteWord_23 V h) (sub_s (sub_s (sub_s (sub_n sub_e))))
theorem m_X4_noteWord {G : ng_GG} {M : ng_AM} {k : Nat} {a : Nat} {dv : Value} {w : Nat → Int32} {C : Nat → Int32} {off : Nat → Int32} {dear : Nat → Int32} {proved : Nat → Int32} (V : ng_RW M k a dv w C off dear proved)  {v1 : Int32} {v2 : Int32} (h : s_X4_noteWord w v1 v2)  : ng_Ev G md_X4_noteWord 0 (ng_en 4 [.ref k, .int v1, .int v2]) [] (M) (K_X4_noteWord M (f_X4_noteWord w v1 v2)) := e_X4_noteWord V h 
def K_X4_familyWord (M : ng_AM) (r : Int32) : ng_RR := (some (.int (r)), M)
def f_X4_familyWord_22  (w : Nat → Int32) (v1 : Int32) (v2 : Int32) (t0 : Int32) : Int32 := (if t0 = 0 then (-1) else (w (((nI 26) + (v1 * (nI 2))) + v2).toNatClampNeg))
def s_X4_familyWord_22  (w : Nat → Int32) (v1 : Int32) (v2 : Int32) (t0 : Int32) : Prop := (¬ t0 = 0 → vp_in (((nI 26) + (v1 * (nI 2))) + v2) 494)
set_option maxRecDepth 100000 in
set_option maxHeartbeats 4000000 in
theorem e_X4_familyWord_22 {G : ng_GG} {M : ng_AM} {k : Nat} {a : Nat} {dv : Value} {w : Nat → Int32} {C : Nat → Int32} {off : Nat → Int32} {dear : Nat → Int32} {proved : Nat → Int32} (V : ng_RW M k a dv w C off dear proved)   {v1 : Int32} {v2 : Int32} {t0 : Int32} (h : s_X4_familyWord_22  w v1 v2 t0)  : ng_Ev G md_X4_familyWord 22 [some (.ref k), some (.int v1), some (.int v2), none] [.int t0] (M) (K_X4_familyWord M (f_X4_familyWord_22  w v1 v2 t0)) := by
  unfold s_X4_familyWord_22 at h
  unfold f_X4_familyWord_22
  refine ev_istore_n (L' := [some (.ref k), some (.int v1), some (.int v2), some (.int t0)]) dX4_familyWord_22 rfl (ng_lt rfl) rfl ?_
  refine ev_iload_n dX4_familyWord_23 rfl rfl ?_
  refine bk_if_eq (tgt := 43) dX4_familyWord_24 (by decide) (fun c24 => ?_) (fun c24 => ?_)
  · refine ev_iconst (v := (-1)) dX4_familyWord_43 (by decide) ?_
    exact ev_iret rfl rfl dX4_familyWord_44
  · replace h := h c24
    refine ev_aload_n dX4_familyWord_27 rfl rfl rfl ?_
    refine ev_get 4 0 fl_RX4_11 (RW_gk V) rfl dX4_familyWord_28 ?_
    refine ev_bipush (v := nI 26) dX4_familyWord_31 (by decide) ?_
    refine ev_iload_n dX4_familyWord_33 rfl rfl ?_
    refine ev_iconst (v := nI 2) dX4_familyWord_34 (by decide) ?_
    refine ev_imul dX4_familyWord_35 ?_
    refine ev_iadd dX4_familyWord_36 ?_
    refine ev_iload_n dX4_familyWord_37 rfl rfl ?_
    refine ev_iadd dX4_familyWord_38 ?_
    have hi39 := h
    refine ev_iald (RW_ga V) hi39 dX4_familyWord_39 ?_
    refine ev_goto (tgt := 44) dX4_familyWord_40 (by decide) ?_
    exact ev_iret rfl rfl dX4_familyWord_44
def f_X4_familyWord_21  (w : Nat → Int32) (v1 : Int32) (v2 : Int32) : Int32 := f_X4_familyWord_22 w v1 v2 (nI 0)
def s_X4_familyWord_21  (w : Nat → Int32) (v1 : Int32) (v2 : Int32) : Prop := s_X4_familyWord_22 w v1 v2 (nI 0)
set_option maxRecDepth 100000 in
set_option maxHeartbeats 4000000 in
theorem e_X4_familyWord_21 {G : ng_GG} {M : ng_AM} {k : Nat} {a : Nat} {dv : Value} {w : Nat → Int32} {C : Nat → Int32} {off : Nat → Int32} {dear : Nat → Int32} {proved : Nat → Int32} (V : ng_RW M k a dv w C off dear proved)   {v1 : Int32} {v2 : Int32} (h : s_X4_familyWord_21  w v1 v2)  : ng_Ev G md_X4_familyWord 21 [some (.ref k), some (.int v1), some (.int v2), none] [] (M) (K_X4_familyWord M (f_X4_familyWord_21  w v1 v2)) := by
  unfold s_X4_familyWord_21 at h
  unfold f_X4_familyWord_21
  refine ev_iconst (v := nI 0) dX4_familyWord_21 (by decide) ?_
  exact ev_sub (e_X4_familyWord_22 V h) (sub_s (sub_s (sub_s (sub_n sub_e))))
def f_X4_familyWord  (w : Nat → Int32) (v1 : Int32) (v2 : Int32) : Int32 := (if (f_X4_isFamily w v1) = 0 then f_X4_familyWord_21 w v1 v2 else (if v2 < 0 then f_X4_familyWord_21 w v1 v2 else (if (nI 2) ≤ v2 then f_X4_familyWord_21 w v1 v2 else f_X4_familyWord_22 w v1 v2 (nI 1))))
def s_X4_familyWord  (w : Nat → Int32) (v1 : Int32) (v2 : Int32) : Prop := (((f_X4_isFamily w v1) = 0 → s_X4_familyWord_21 w v1 v2) ∧ (¬ (f_X4_isFamily w v1) = 0 → ((v2 < 0 → s_X4_familyWord_21 w v1 v2) ∧ (¬ v2 < 0 → (((nI 2) ≤ v2 → s_X4_familyWord_21 w v1 v2) ∧ (¬ (nI 2) ≤ v2 → s_X4_familyWord_22 w v1 v2 (nI 1)))))))
set_option maxRecDepth 100000 in
set_option maxHeartbeats 4000000 in
theorem e_X4_familyWord {G : ng_GG} {M : ng_AM} {k : Nat} {a : Nat} {dv : Value} {w : Nat → Int32} {C : Nat → Int32} {off : Nat → Int32} {dear : Nat → Int32} {proved : Nat → Int32} (V : ng_RW M k a dv w C off dear proved)   {v1 : Int32} {v2 : Int32} (h : s_X4_familyWord  w v1 v2)  : ng_Ev G md_X4_familyWord 0 [some (.ref k), some (.int v1), some (.int v2), none] [] (M) (K_X4_familyWord M (f_X4_familyWord  w v1 v2)) := by
  unfold s_X4_familyWord at h
  unfold f_X4_familyWord
  refine ev_aload_n dX4_familyWord_0 rfl rfl rfl ?_
  refine ev_iload_n dX4_familyWord_1 rfl rfl ?_
  refine bk_callV (As := [.int v1]) (st := []) (st2 := [.int (f_X4_isFamily w v1)]) (M2 := M) ok_X4_isFamily lk_RX4_27 (ng_rok.of rfl rfl) (RW_gk V) rfl rfl rfl rfl rfl rfl dX4_familyWord_2 (m_X4_isFamily V trivial) rfl rfl ?_
  refine bk_if_eq (tgt := 21) dX4_familyWord_5 (by decide) (fun c5 => ?_) (fun c5 => ?_)
  · replace h := h.1 c5
    exact ev_sub (e_X4_familyWord_21 V h) (sub_s (sub_s (sub_s (sub_n sub_e))))
  · replace h := h.2 c5
    refine ev_iload_n dX4_familyWord_8 rfl rfl ?_
    refine bk_if_lt (tgt := 21) dX4_familyWord_9 (by decide) (fun c9 => ?_) (fun c9 => ?_)
    · replace h := h.1 c9
      exact ev_sub (e_X4_familyWord_21 V h) (sub_s (sub_s (sub_s (sub_n sub_e))))
    · replace h := h.2 c9
      refine ev_iload_n dX4_familyWord_12 rfl rfl ?_
      refine ev_iconst (v := nI 2) dX4_familyWord_13 (by decide) ?_
      refine bk_icmp_ge (tgt := 21) dX4_familyWord_14 (by decide) (fun c14 => ?_) (fun c14 => ?_)
      · replace h := h.1 c14
        exact ev_sub (e_X4_familyWord_21 V h) (sub_s (sub_s (sub_s (sub_n sub_e))))
      · replace h := h.2 c14
        refine ev_iconst (v := nI 1) dX4_familyWord_17 (by decide) ?_
        refine ev_goto (tgt := 22) dX4_familyWord_18 (by decide) ?_
        exact ev_sub (e_X4_familyWord_22 V h) (sub_s (sub_s (sub_s (sub_n sub_e))))
theorem m_X4_familyWord {G : ng_GG} {M : ng_AM} {k : Nat} {a : Nat} {dv : Value} {w : Nat → Int32} {C : Nat → Int32} {off : Nat → Int32} {dear : Nat → Int32} {proved : Nat → Int32} (V : ng_RW M k a dv w C off dear proved)  {v1 : Int32} {v2 : Int32} (h : s_X4_familyWord w v1 v2)  : ng_Ev G md_X4_familyWord 0 (ng_en 4 [.ref k, .int v1, .int v2]) [] (M) (K_X4_familyWord M (f_X4_familyWord w v1 v2)) := e_X4_familyWord V h 
def K_X4_letterWord (M : ng_AM) (r : Int32) : ng_RR := (some (.int (r)), M)
def f_X4_letterWord_23  (w : Nat → Int32) (v1 : Int32) (v2 : Int32) (t0 : Int32) : Int32 := (if t0 = 0 then (-1) else (w (((nI 58) + (v1 * (nI 7))) + v2).toNatClampNeg))
def s_X4_letterWord_23  (w : Nat → Int32) (v1 : Int32) (v2 : Int32) (t0 : Int32) : Prop := (¬ t0 = 0 → vp_in (((nI 58) + (v1 * (nI 7))) + v2) 494)
set_option maxRecDepth 100000 in
set_option maxHeartbeats 4000000 in
theorem e_X4_letterWord_23 {G : ng_GG} {M : ng_AM} {k : Nat} {a : Nat} {dv : Value} {w : Nat → Int32} {C : Nat → Int32} {off : Nat → Int32} {dear : Nat → Int32} {proved : Nat → Int32} (V : ng_RW M k a dv w C off dear proved)   {v1 : Int32} {v2 : Int32} {t0 : Int32} (h : s_X4_letterWord_23  w v1 v2 t0)  : ng_Ev G md_X4_letterWord 23 [some (.ref k), some (.int v1), some (.int v2), none] [.int t0] (M) (K_X4_letterWord M (f_X4_letterWord_23  w v1 v2 t0)) := by
  unfold s_X4_letterWord_23 at h
  unfold f_X4_letterWord_23
  refine ev_istore_n (L' := [some (.ref k), some (.int v1), some (.int v2), some (.int t0)]) dX4_letterWord_23 rfl (ng_lt rfl) rfl ?_
  refine ev_iload_n dX4_letterWord_24 rfl rfl ?_
  refine bk_if_eq (tgt := 45) dX4_letterWord_25 (by decide) (fun c25 => ?_) (fun c25 => ?_)
  · refine ev_iconst (v := (-1)) dX4_letterWord_45 (by decide) ?_
    exact ev_iret rfl rfl dX4_letterWord_46
  · replace h := h c25
    refine ev_aload_n dX4_letterWord_28 rfl rfl rfl ?_
    refine ev_get 4 0 fl_RX4_11 (RW_gk V) rfl dX4_letterWord_29 ?_
    refine ev_bipush (v := nI 58) dX4_letterWord_32 (by decide) ?_
    refine ev_iload_n dX4_letterWord_34 rfl rfl ?_
    refine ev_bipush (v := nI 7) dX4_letterWord_35 (by decide) ?_
    refine ev_imul dX4_letterWord_37 ?_
    refine ev_iadd dX4_letterWord_38 ?_
    refine ev_iload_n dX4_letterWord_39 rfl rfl ?_
    refine ev_iadd dX4_letterWord_40 ?_
    have hi41 := h
    refine ev_iald (RW_ga V) hi41 dX4_letterWord_41 ?_
    refine ev_goto (tgt := 46) dX4_letterWord_42 (by decide) ?_
    exact ev_iret rfl rfl dX4_letterWord_46
def f_X4_letterWord_22  (w : Nat → Int32) (v1 : Int32) (v2 : Int32) : Int32 := f_X4_letterWord_23 w v1 v2 (nI 0)
def s_X4_letterWord_22  (w : Nat → Int32) (v1 : Int32) (v2 : Int32) : Prop := s_X4_letterWord_23 w v1 v2 (nI 0)
set_option maxRecDepth 100000 in
set_option maxHeartbeats 4000000 in
theorem e_X4_letterWord_22 {G : ng_GG} {M : ng_AM} {k : Nat} {a : Nat} {dv : Value} {w : Nat → Int32} {C : Nat → Int32} {off : Nat → Int32} {dear : Nat → Int32} {proved : Nat → Int32} (V : ng_RW M k a dv w C off dear proved)   {v1 : Int32} {v2 : Int32} (h : s_X4_letterWord_22  w v1 v2)  : ng_Ev G md_X4_letterWord 22 [some (.ref k), some (.int v1), some (.int v2), none] [] (M) (K_X4_letterWord M (f_X4_letterWord_22  w v1 v2)) := by
  unfold s_X4_letterWord_22 at h
  unfold f_X4_letterWord_22
  refine ev_iconst (v := nI 0) dX4_letterWord_22 (by decide) ?_
  exact ev_sub (e_X4_letterWord_23 V h) (sub_s (sub_s (sub_s (sub_n sub_e))))
def f_X4_letterWord  (w : Nat → Int32) (v1 : Int32) (v2 : Int32) : Int32 := (if (f_X4_isLetter w v1) = 0 then f_X4_letterWord_22 w v1 v2 else (if v2 < 0 then f_X4_letterWord_22 w v1 v2 else (if (nI 7) ≤ v2 then f_X4_letterWord_22 w v1 v2 else f_X4_letterWord_23 w v1 v2 (nI 1))))
def s_X4_letterWord  (w : Nat → Int32) (v1 : Int32) (v2 : Int32) : Prop := (((f_X4_isLetter w v1) = 0 → s_X4_letterWord_22 w v1 v2) ∧ (¬ (f_X4_isLetter w v1) = 0 → ((v2 < 0 → s_X4_letterWord_22 w v1 v2) ∧ (¬ v2 < 0 → (((nI 7) ≤ v2 → s_X4_letterWord_22 w v1 v2) ∧ (¬ (nI 7) ≤ v2 → s_X4_letterWord_23 w v1 v2 (nI 1)))))))
set_option maxRecDepth 100000 in
set_option maxHeartbeats 4000000 in
theorem e_X4_letterWord {G : ng_GG} {M : ng_AM} {k : Nat} {a : Nat} {dv : Value} {w : Nat → Int32} {C : Nat → Int32} {off : Nat → Int32} {dear : Nat → Int32} {proved : Nat → Int32} (V : ng_RW M k a dv w C off dear proved)   {v1 : Int32} {v2 : Int32} (h : s_X4_letterWord  w v1 v2)  : ng_Ev G md_X4_letterWord 0 [some (.ref k), some (.int v1), some (.int v2), none] [] (M) (K_X4_letterWord M (f_X4_letterWord  w v1 v2)) := by
  unfold s_X4_letterWord at h
  unfold f_X4_letterWord
  refine ev_aload_n dX4_letterWord_0 rfl rfl rfl ?_
  refine ev_iload_n dX4_letterWord_1 rfl rfl ?_
  refine bk_callV (As := [.int v1]) (st := []) (st2 := [.int (f_X4_isLetter w v1)]) (M2 := M) ok_X4_isLetter lk_RX4_30 (ng_rok.of rfl rfl) (RW_gk V) rfl rfl rfl rfl rfl rfl dX4_letterWord_2 (m_X4_isLetter V trivial) rfl rfl ?_
  refine bk_if_eq (tgt := 22) dX4_letterWord_5 (by decide) (fun c5 => ?_) (fun c5 => ?_)
  · replace h := h.1 c5
    exact ev_sub (e_X4_letterWord_22 V h) (sub_s (sub_s (sub_s (sub_n sub_e))))
  · replace h := h.2 c5
    refine ev_iload_n dX4_letterWord_8 rfl rfl ?_
    refine bk_if_lt (tgt := 22) dX4_letterWord_9 (by decide) (fun c9 => ?_) (fun c9 => ?_)
    · replace h := h.1 c9
      exact ev_sub (e_X4_letterWord_22 V h) (sub_s (sub_s (sub_s (sub_n sub_e))))
    · replace h := h.2 c9
      refine ev_iload_n dX4_letterWord_12 rfl rfl ?_
      refine ev_bipush (v := nI 7) dX4_letterWord_13 (by decide) ?_
      refine bk_icmp_ge (tgt := 22) dX4_letterWord_15 (by decide) (fun c15 => ?_) (fun c15 => ?_)
      · replace h := h.1 c15
        exact ev_sub (e_X4_letterWord_22 V h) (sub_s (sub_s (sub_s (sub_n sub_e))))
      · replace h := h.2 c15
        refine ev_iconst (v := nI 1) dX4_letterWord_18 (by decide) ?_
        refine ev_goto (tgt := 23) dX4_letterWord_19 (by decide) ?_
        exact ev_sub (e_X4_letterWord_23 V h) (sub_s (sub_s (sub_s (sub_n sub_e))))
theorem m_X4_letterWord {G : ng_GG} {M : ng_AM} {k : Nat} {a : Nat} {dv : Value} {w : Nat → Int32} {C : Nat → Int32} {off : Nat → Int32} {dear : Nat → Int32} {proved : Nat → Int32} (V : ng_RW M k a dv w C off dear proved)  {v1 : Int32} {v2 : Int32} (h : s_X4_letterWord w v1 v2)  : ng_Ev G md_X4_letterWord 0 (ng_en 4 [.ref k, .int v1, .int v2]) [] (M) (K_X4_letterWord M (f_X4_letterWord w v1 v2)) := e_X4_letterWord V h 
def K_X4_houseWord (M : ng_AM) (r : Int32) : ng_RR := (some (.int (r)), M)
def f_X4_houseWord_23  (w : Nat → Int32) (v1 : Int32) (v2 : Int32) (t0 : Int32) : Int32 := (if t0 = 0 then (-1) else (w (((nI 4) + (v1 * (nI 3))) + v2).toNatClampNeg))
def s_X4_houseWord_23  (w : Nat → Int32) (v1 : Int32) (v2 : Int32) (t0 : Int32) : Prop := (¬ t0 = 0 → vp_in (((nI 4) + (v1 * (nI 3))) + v2) 494)
set_option maxRecDepth 100000 in
set_option maxHeartbeats 4000000 in
theorem e_X4_houseWord_23 {G : ng_GG} {M : ng_AM} {k : Nat} {a : Nat} {dv : Value} {w : Nat → Int32} {C : Nat → Int32} {off : Nat → Int32} {dear : Nat → Int32} {proved : Nat → Int32} (V : ng_RW M k a dv w C off dear proved)   {v1 : Int32} {v2 : Int32} {t0 : Int32} (h : s_X4_houseWord_23  w v1 v2 t0)  : ng_Ev G md_X4_houseWord 23 [some (.ref k), some (.int v1), some (.int v2), none] [.int t0] (M) (K_X4_houseWord M (f_X4_houseWord_23  w v1 v2 t0)) := by
  unfold s_X4_houseWord_23 at h
  unfold f_X4_houseWord_23
  refine ev_istore_n (L' := [some (.ref k), some (.int v1), some (.int v2), some (.int t0)]) dX4_houseWord_23 rfl (ng_lt rfl) rfl ?_
  refine ev_iload_n dX4_houseWord_24 rfl rfl ?_
  refine bk_if_eq (tgt := 43) dX4_houseWord_25 (by decide) (fun c25 => ?_) (fun c25 => ?_)
  · refine ev_iconst (v := (-1)) dX4_houseWord_43 (by decide) ?_
    exact ev_iret rfl rfl dX4_houseWord_44
  · replace h := h c25
    refine ev_aload_n dX4_houseWord_28 rfl rfl rfl ?_
    refine ev_get 4 0 fl_RX4_11 (RW_gk V) rfl dX4_houseWord_29 ?_
    refine ev_iconst (v := nI 4) dX4_houseWord_32 (by decide) ?_
    refine ev_iload_n dX4_houseWord_33 rfl rfl ?_
    refine ev_iconst (v := nI 3) dX4_houseWord_34 (by decide) ?_
    refine ev_imul dX4_houseWord_35 ?_
    refine ev_iadd dX4_houseWord_36 ?_
    refine ev_iload_n dX4_houseWord_37 rfl rfl ?_
    refine ev_iadd dX4_houseWord_38 ?_
    have hi39 := h
    refine ev_iald (RW_ga V) hi39 dX4_houseWord_39 ?_
    refine ev_goto (tgt := 44) dX4_houseWord_40 (by decide) ?_
    exact ev_iret rfl rfl dX4_houseWord_44
def f_X4_houseWord_22  (w : Nat → Int32) (v1 : Int32) (v2 : Int32) : Int32 := f_X4_houseWord_23 w v1 v2 (nI 0)
def s_X4_houseWord_22  (w : Nat → Int32) (v1 : Int32) (v2 : Int32) : Prop := s_X4_houseWord_23 w v1 v2 (nI 0)
set_option maxRecDepth 100000 in
set_option maxHeartbeats 4000000 in
theorem e_X4_houseWord_22 {G : ng_GG} {M : ng_AM} {k : Nat} {a : Nat} {dv : Value} {w : Nat → Int32} {C : Nat → Int32} {off : Nat → Int32} {dear : Nat → Int32} {proved : Nat → Int32} (V : ng_RW M k a dv w C off dear proved)   {v1 : Int32} {v2 : Int32} (h : s_X4_houseWord_22  w v1 v2)  : ng_Ev G md_X4_houseWord 22 [some (.ref k), some (.int v1), some (.int v2), none] [] (M) (K_X4_houseWord M (f_X4_houseWord_22  w v1 v2)) := by
  unfold s_X4_houseWord_22 at h
  unfold f_X4_houseWord_22
  refine ev_iconst (v := nI 0) dX4_houseWord_22 (by decide) ?_
  exact ev_sub (e_X4_houseWord_23 V h) (sub_s (sub_s (sub_s (sub_n sub_e))))
def f_X4_houseWord  (w : Nat → Int32) (v1 : Int32) (v2 : Int32) : Int32 := (if v1 < 0 then f_X4_houseWord_22 w v1 v2 else (if (nI 4) ≤ v1 then f_X4_houseWord_22 w v1 v2 else (if v2 < 0 then f_X4_houseWord_22 w v1 v2 else (if (nI 3) ≤ v2 then f_X4_houseWord_22 w v1 v2 else f_X4_houseWord_23 w v1 v2 (nI 1)))))
def s_X4_houseWord  (w : Nat → Int32) (v1 : Int32) (v2 : Int32) : Prop := ((v1 < 0 → s_X4_houseWord_22 w v1 v2) ∧ (¬ v1 < 0 → (((nI 4) ≤ v1 → s_X4_houseWord_22 w v1 v2) ∧ (¬ (nI 4) ≤ v1 → ((v2 < 0 → s_X4_houseWord_22 w v1 v2) ∧ (¬ v2 < 0 → (((nI 3) ≤ v2 → s_X4_houseWord_22 w v1 v2) ∧ (¬ (nI 3) ≤ v2 → s_X4_houseWord_23 w v1 v2 (nI 1)))))))))
set_option maxRecDepth 100000 in
set_option maxHeartbeats 4000000 in
theorem e_X4_houseWord {G : ng_GG} {M : ng_AM} {k : Nat} {a : Nat} {dv : Value} {w : Nat → Int32} {C : Nat → Int32} {off : Nat → Int32} {dear : Nat → Int32} {proved : Nat → Int32} (V : ng_RW M k a dv w C off dear proved)   {v1 : Int32} {v2 : Int32} (h : s_X4_houseWord  w v1 v2)  : ng_Ev G md_X4_houseWord 0 [some (.ref k), some (.int v1), some (.int v2), none] [] (M) (K_X4_houseWord M (f_X4_houseWord  w v1 v2)) := by
  unfold s_X4_houseWord at h
  unfold f_X4_houseWord
  refine ev_iload_n dX4_houseWord_0 rfl rfl ?_
  refine bk_if_lt (tgt := 22) dX4_houseWord_1 (by decide) (fun c1 => ?_) (fun c1 => ?_)
  · replace h := h.1 c1
    exact ev_sub (e_X4_houseWord_22 V h) (sub_s (sub_s (sub_s (sub_n sub_e))))
  · replace h := h.2 c1
    refine ev_iload_n dX4_houseWord_4 rfl rfl ?_
    refine ev_iconst (v := nI 4) dX4_houseWord_5 (by decide) ?_
    refine bk_icmp_ge (tgt := 22) dX4_houseWord_6 (by decide) (fun c6 => ?_) (fun c6 => ?_)
    · replace h := h.1 c6
      exact ev_sub (e_X4_houseWord_22 V h) (sub_s (sub_s (sub_s (sub_n sub_e))))
    · replace h := h.2 c6
      refine ev_iload_n dX4_houseWord_9 rfl rfl ?_
      refine bk_if_lt (tgt := 22) dX4_houseWord_10 (by decide) (fun c10 => ?_) (fun c10 => ?_)
      · replace h := h.1 c10
        exact ev_sub (e_X4_houseWord_22 V h) (sub_s (sub_s (sub_s (sub_n sub_e))))
      · replace h := h.2 c10
        refine ev_iload_n dX4_houseWord_13 rfl rfl ?_
        refine ev_iconst (v := nI 3) dX4_houseWord_14 (by decide) ?_
        refine bk_icmp_ge (tgt := 22) dX4_houseWord_15 (by decide) (fun c15 => ?_) (fun c15 => ?_)
        · replace h := h.1 c15
          exact ev_sub (e_X4_houseWord_22 V h) (sub_s (sub_s (sub_s (sub_n sub_e))))
        · replace h := h.2 c15
          refine ev_iconst (v := nI 1) dX4_houseWord_18 (by decide) ?_
          refine ev_goto (tgt := 23) dX4_houseWord_19 (by decide) ?_
          exact ev_sub (e_X4_houseWord_23 V h) (sub_s (sub_s (sub_s (sub_n sub_e))))
theorem m_X4_houseWord {G : ng_GG} {M : ng_AM} {k : Nat} {a : Nat} {dv : Value} {w : Nat → Int32} {C : Nat → Int32} {off : Nat → Int32} {dear : Nat → Int32} {proved : Nat → Int32} (V : ng_RW M k a dv w C off dear proved)  {v1 : Int32} {v2 : Int32} (h : s_X4_houseWord w v1 v2)  : ng_Ev G md_X4_houseWord 0 (ng_en 4 [.ref k, .int v1, .int v2]) [] (M) (K_X4_houseWord M (f_X4_houseWord w v1 v2)) := e_X4_houseWord V h 
def K_X4_pairOf (M : ng_AM) (r : Int32) : ng_RR := (some (.int (r)), M)
def f_X4_pairOf  (w : Nat → Int32) (v1 : Int32) : Int32 := (if (f_X5_isBrowser v1) = 0 then nI 0 else (w (((nI 16) + (v1 * (nI 2))) + (nI 0)).toNatClampNeg))
def s_X4_pairOf  (w : Nat → Int32) (v1 : Int32) : Prop := (¬ (f_X5_isBrowser v1) = 0 → vp_in (((nI 16) + (v1 * (nI 2))) + (nI 0)) 494)
set_option maxRecDepth 100000 in
set_option maxHeartbeats 4000000 in
theorem e_X4_pairOf {G : ng_GG} {M : ng_AM} {k : Nat} {a : Nat} {dv : Value} {w : Nat → Int32} {C : Nat → Int32} {off : Nat → Int32} {dear : Nat → Int32} {proved : Nat → Int32} (V : ng_RW M k a dv w C off dear proved)   {v1 : Int32} (h : s_X4_pairOf  w v1)  : ng_Ev G md_X4_pairOf 0 [some (.ref k), some (.int v1)] [] (M) (K_X4_pairOf M (f_X4_pairOf  w v1)) := by
  unfold s_X4_pairOf at h
  unfold f_X4_pairOf
  refine ev_iload_n dX4_pairOf_0 rfl rfl ?_
  refine bk_callSN (As := [.int v1]) (st := []) (st2 := [.int (f_X5_isBrowser v1)]) (M2 := M) ok_X5_isBrowser lk_RX4_33 (ng_rok.of rfl rfl) rfl rfl rfl rfl dX4_pairOf_1 (m_X5_isBrowser trivial) rfl rfl ?_
  refine bk_if_eq (tgt := 23) dX4_pairOf_4 (by decide) (fun c4 => ?_) (fun c4 => ?_)
  · refine ev_iconst (v := nI 0) dX4_pairOf_23 (by decide) ?_
    exact ev_iret rfl rfl dX4_pairOf_24
  · replace h := h c4
    refine ev_aload_n dX4_pairOf_7 rfl rfl rfl ?_
    refine ev_get 4 0 fl_RX4_11 (RW_gk V) rfl dX4_pairOf_8 ?_
    refine ev_bipush (v := nI 16) dX4_pairOf_11 (by decide) ?_
    refine ev_iload_n dX4_pairOf_13 rfl rfl ?_
    refine ev_iconst (v := nI 2) dX4_pairOf_14 (by decide) ?_
    refine ev_imul dX4_pairOf_15 ?_
    refine ev_iadd dX4_pairOf_16 ?_
    refine ev_iconst (v := nI 0) dX4_pairOf_17 (by decide) ?_
    refine ev_iadd dX4_pairOf_18 ?_
    have hi19 := h
    refine ev_iald (RW_ga V) hi19 dX4_pairOf_19 ?_
    refine ev_goto (tgt := 24) dX4_pairOf_20 (by decide) ?_
    exact ev_iret rfl rfl dX4_pairOf_24
theorem m_X4_pairOf {G : ng_GG} {M : ng_AM} {k : Nat} {a : Nat} {dv : Value} {w : Nat → Int32} {C : Nat → Int32} {off : Nat → Int32} {dear : Nat → Int32} {proved : Nat → Int32} (V : ng_RW M k a dv w C off dear proved)  {v1 : Int32} (h : s_X4_pairOf w v1)  : ng_Ev G md_X4_pairOf 0 (ng_en 2 [.ref k, .int v1]) [] (M) (K_X4_pairOf M (f_X4_pairOf w v1)) := e_X4_pairOf V h 
def K_X4_knownPair (M : ng_AM) (r : Int32) : ng_RR := (some (.int (r)), M)
def f_X4_knownPair  (w : Nat → Int32) (v1 : Int32) : Int32 := (if (f_X5_isBrowser v1) = 0 then nI 0 else (w (((nI 16) + (v1 * (nI 2))) + (nI 1)).toNatClampNeg))
def s_X4_knownPair  (w : Nat → Int32) (v1 : Int32) : Prop := (¬ (f_X5_isBrowser v1) = 0 → vp_in (((nI 16) + (v1 * (nI 2))) + (nI 1)) 494)
set_option maxRecDepth 100000 in
set_option maxHeartbeats 4000000 in
theorem e_X4_knownPair {G : ng_GG} {M : ng_AM} {k : Nat} {a : Nat} {dv : Value} {w : Nat → Int32} {C : Nat → Int32} {off : Nat → Int32} {dear : Nat → Int32} {proved : Nat → Int32} (V : ng_RW M k a dv w C off dear proved)   {v1 : Int32} (h : s_X4_knownPair  w v1)  : ng_Ev G md_X4_knownPair 0 [some (.ref k), some (.int v1)] [] (M) (K_X4_knownPair M (f_X4_knownPair  w v1)) := by
  unfold s_X4_knownPair at h
  unfold f_X4_knownPair
  refine ev_iload_n dX4_knownPair_0 rfl rfl ?_
  refine bk_callSN (As := [.int v1]) (st := []) (st2 := [.int (f_X5_isBrowser v1)]) (M2 := M) ok_X5_isBrowser lk_RX4_33 (ng_rok.of rfl rfl) rfl rfl rfl rfl dX4_knownPair_1 (m_X5_isBrowser trivial) rfl rfl ?_
  refine bk_if_eq (tgt := 23) dX4_knownPair_4 (by decide) (fun c4 => ?_) (fun c4 => ?_)
  · refine ev_iconst (v := nI 0) dX4_knownPair_23 (by decide) ?_
    exact ev_iret rfl rfl dX4_knownPair_24
  · replace h := h c4
    refine ev_aload_n dX4_knownPair_7 rfl rfl rfl ?_
    refine ev_get 4 0 fl_RX4_11 (RW_gk V) rfl dX4_knownPair_8 ?_
    refine ev_bipush (v := nI 16) dX4_knownPair_11 (by decide) ?_
    refine ev_iload_n dX4_knownPair_13 rfl rfl ?_
    refine ev_iconst (v := nI 2) dX4_knownPair_14 (by decide) ?_
    refine ev_imul dX4_knownPair_15 ?_
    refine ev_iadd dX4_knownPair_16 ?_
    refine ev_iconst (v := nI 1) dX4_knownPair_17 (by decide) ?_
    refine ev_iadd dX4_knownPair_18 ?_
    have hi19 := h
    refine ev_iald (RW_ga V) hi19 dX4_knownPair_19 ?_
    refine ev_goto (tgt := 24) dX4_knownPair_20 (by decide) ?_
    exact ev_iret rfl rfl dX4_knownPair_24
theorem m_X4_knownPair {G : ng_GG} {M : ng_AM} {k : Nat} {a : Nat} {dv : Value} {w : Nat → Int32} {C : Nat → Int32} {off : Nat → Int32} {dear : Nat → Int32} {proved : Nat → Int32} (V : ng_RW M k a dv w C off dear proved)  {v1 : Int32} (h : s_X4_knownPair w v1)  : ng_Ev G md_X4_knownPair 0 (ng_en 2 [.ref k, .int v1]) [] (M) (K_X4_knownPair M (f_X4_knownPair w v1)) := e_X4_knownPair V h 
def K_X4_isEnded (M : ng_AM) (r : Int32) : ng_RR := (some (.int (r)), M)
def f_X4_isEnded  (w : Nat → Int32) (v1 : Int32) : Int32 := (if (f_X4_familyWord w v1 (nI 1)) = (-1) then nI 0 else nI 1)
def s_X4_isEnded  (w : Nat → Int32) (v1 : Int32) : Prop := s_X4_familyWord w v1 (nI 1)
set_option maxRecDepth 100000 in
set_option maxHeartbeats 4000000 in
theorem e_X4_isEnded {G : ng_GG} {M : ng_AM} {k : Nat} {a : Nat} {dv : Value} {w : Nat → Int32} {C : Nat → Int32} {off : Nat → Int32} {dear : Nat → Int32} {proved : Nat → Int32} (V : ng_RW M k a dv w C off dear proved)   {v1 : Int32} (h : s_X4_isEnded  w v1)  : ng_Ev G md_X4_isEnded 0 [some (.ref k), some (.int v1)] [] (M) (K_X4_isEnded M (f_X4_isEnded  w v1)) := by
  unfold s_X4_isEnded at h
  unfold f_X4_isEnded
  refine ev_aload_n dX4_isEnded_0 rfl rfl rfl ?_
  refine ev_iload_n dX4_isEnded_1 rfl rfl ?_
  refine ev_iconst (v := nI 1) dX4_isEnded_2 (by decide) ?_
  have hs3 := h
  refine bk_callV (As := [.int v1, .int (nI 1)]) (st := []) (st2 := [.int (f_X4_familyWord w v1 (nI 1))]) (M2 := M) ok_X4_familyWord lk_RX4_36 (ng_rok.of rfl rfl) (RW_gk V) rfl rfl rfl rfl rfl rfl dX4_isEnded_3 (m_X4_familyWord V hs3) rfl rfl ?_
  refine ev_iconst (v := (-1)) dX4_isEnded_6 (by decide) ?_
  refine bk_icmp_eq (tgt := 14) dX4_isEnded_7 (by decide) (fun c7 => ?_) (fun c7 => ?_)
  · refine ev_iconst (v := nI 0) dX4_isEnded_14 (by decide) ?_
    exact ev_iret rfl (by decide) dX4_isEnded_15
  · refine ev_iconst (v := nI 1) dX4_isEnded_10 (by decide) ?_
    refine ev_goto (tgt := 15) dX4_isEnded_11 (by decide) ?_
    exact ev_iret rfl (by decide) dX4_isEnded_15
theorem m_X4_isEnded {G : ng_GG} {M : ng_AM} {k : Nat} {a : Nat} {dv : Value} {w : Nat → Int32} {C : Nat → Int32} {off : Nat → Int32} {dear : Nat → Int32} {proved : Nat → Int32} (V : ng_RW M k a dv w C off dear proved)  {v1 : Int32} (h : s_X4_isEnded w v1)  : ng_Ev G md_X4_isEnded 0 (ng_en 2 [.ref k, .int v1]) [] (M) (K_X4_isEnded M (f_X4_isEnded w v1)) := e_X4_isEnded V h 
def K_X4_has (M : ng_AM) (r : Int32) : ng_RR := (some (.int (r)), M)
def f_X4_has_23  (w : Nat → Int32) (v1 : Int32) (v2 : Int32) (t0 : Int32) : Int32 := (if t0 = 0 then nI 0 else (if (((w (((nI 142) + (v2 * (nI 11))) + (nI 10)).toNatClampNeg) >>> (v1 &&& 31)) &&& (nI 1)) = (nI 1) then nI 1 else nI 0))
def s_X4_has_23  (w : Nat → Int32) (v1 : Int32) (v2 : Int32) (t0 : Int32) : Prop := (¬ t0 = 0 → vp_in (((nI 142) + (v2 * (nI 11))) + (nI 10)) 494)
set_option maxRecDepth 100000 in
set_option maxHeartbeats 4000000 in
theorem e_X4_has_23 {G : ng_GG} {M : ng_AM} {k : Nat} {a : Nat} {dv : Value} {w : Nat → Int32} {C : Nat → Int32} {off : Nat → Int32} {dear : Nat → Int32} {proved : Nat → Int32} (V : ng_RW M k a dv w C off dear proved)   {v1 : Int32} {v2 : Int32} {t0 : Int32} (h : s_X4_has_23  w v1 v2 t0)  : ng_Ev G md_X4_has 23 [some (.ref k), some (.int v1), some (.int v2), none] [.int t0] (M) (K_X4_has M (f_X4_has_23  w v1 v2 t0)) := by
  unfold s_X4_has_23 at h
  unfold f_X4_has_23
  refine ev_istore_n (L' := [some (.ref k), some (.int v1), some (.int v2), some (.int t0)]) dX4_has_23 rfl (ng_lt rfl) rfl ?_
  refine ev_iload_n dX4_has_24 rfl rfl ?_
  refine bk_if_eq (tgt := 56) dX4_has_25 (by decide) (fun c25 => ?_) (fun c25 => ?_)
  · refine ev_iconst (v := nI 0) dX4_has_56 (by decide) ?_
    exact ev_iret rfl (by decide) dX4_has_57
  · replace h := h c25
    refine ev_aload_n dX4_has_28 rfl rfl rfl ?_
    refine ev_get 4 0 fl_RX4_11 (RW_gk V) rfl dX4_has_29 ?_
    refine ev_sipush (v := nI 142) dX4_has_32 (by decide) ?_
    refine ev_iload_n dX4_has_35 rfl rfl ?_
    refine ev_bipush (v := nI 11) dX4_has_36 (by decide) ?_
    refine ev_imul dX4_has_38 ?_
    refine ev_iadd dX4_has_39 ?_
    refine ev_bipush (v := nI 10) dX4_has_40 (by decide) ?_
    refine ev_iadd dX4_has_42 ?_
    have hi43 := h
    refine ev_iald (RW_ga V) hi43 dX4_has_43 ?_
    refine ev_iload_n dX4_has_44 rfl rfl ?_
    refine ev_ishr dX4_has_45 ?_
    refine ev_iconst (v := nI 1) dX4_has_46 (by decide) ?_
    refine ev_iand dX4_has_47 ?_
    refine ev_iconst (v := nI 1) dX4_has_48 (by decide) ?_
    refine bk_icmp_ne (tgt := 56) dX4_has_49 (by decide) (fun c49 => ?_) (fun c49 => ?_)
    · refine ev_iconst (v := nI 0) dX4_has_56 (by decide) ?_
      exact ev_iret rfl (by decide) dX4_has_57
    · refine ev_iconst (v := nI 1) dX4_has_52 (by decide) ?_
      refine ev_goto (tgt := 57) dX4_has_53 (by decide) ?_
      exact ev_iret rfl (by decide) dX4_has_57
def f_X4_has_22  (w : Nat → Int32) (v1 : Int32) (v2 : Int32) : Int32 := f_X4_has_23 w v1 v2 (nI 0)
def s_X4_has_22  (w : Nat → Int32) (v1 : Int32) (v2 : Int32) : Prop := s_X4_has_23 w v1 v2 (nI 0)
set_option maxRecDepth 100000 in
set_option maxHeartbeats 4000000 in
theorem e_X4_has_22 {G : ng_GG} {M : ng_AM} {k : Nat} {a : Nat} {dv : Value} {w : Nat → Int32} {C : Nat → Int32} {off : Nat → Int32} {dear : Nat → Int32} {proved : Nat → Int32} (V : ng_RW M k a dv w C off dear proved)   {v1 : Int32} {v2 : Int32} (h : s_X4_has_22  w v1 v2)  : ng_Ev G md_X4_has 22 [some (.ref k), some (.int v1), some (.int v2), none] [] (M) (K_X4_has M (f_X4_has_22  w v1 v2)) := by
  unfold s_X4_has_22 at h
  unfold f_X4_has_22
  refine ev_iconst (v := nI 0) dX4_has_22 (by decide) ?_
  exact ev_sub (e_X4_has_23 V h) (sub_s (sub_s (sub_s (sub_n sub_e))))
def f_X4_has  (w : Nat → Int32) (v1 : Int32) (v2 : Int32) : Int32 := (if v1 < 0 then f_X4_has_22 w v1 v2 else (if (nI 9) ≤ v1 then f_X4_has_22 w v1 v2 else (if (f_X4_isNote w v2) = 0 then f_X4_has_22 w v1 v2 else f_X4_has_23 w v1 v2 (nI 1))))
def s_X4_has  (w : Nat → Int32) (v1 : Int32) (v2 : Int32) : Prop := ((v1 < 0 → s_X4_has_22 w v1 v2) ∧ (¬ v1 < 0 → (((nI 9) ≤ v1 → s_X4_has_22 w v1 v2) ∧ (¬ (nI 9) ≤ v1 → (((f_X4_isNote w v2) = 0 → s_X4_has_22 w v1 v2) ∧ (¬ (f_X4_isNote w v2) = 0 → s_X4_has_23 w v1 v2 (nI 1)))))))
set_option maxRecDepth 100000 in
set_option maxHeartbeats 4000000 in
theorem e_X4_has {G : ng_GG} {M : ng_AM} {k : Nat} {a : Nat} {dv : Value} {w : Nat → Int32} {C : Nat → Int32} {off : Nat → Int32} {dear : Nat → Int32} {proved : Nat → Int32} (V : ng_RW M k a dv w C off dear proved)   {v1 : Int32} {v2 : Int32} (h : s_X4_has  w v1 v2)  : ng_Ev G md_X4_has 0 [some (.ref k), some (.int v1), some (.int v2), none] [] (M) (K_X4_has M (f_X4_has  w v1 v2)) := by
  unfold s_X4_has at h
  unfold f_X4_has
  refine ev_iload_n dX4_has_0 rfl rfl ?_
  refine bk_if_lt (tgt := 22) dX4_has_1 (by decide) (fun c1 => ?_) (fun c1 => ?_)
  · replace h := h.1 c1
    exact ev_sub (e_X4_has_22 V h) (sub_s (sub_s (sub_s (sub_n sub_e))))
  · replace h := h.2 c1
    refine ev_iload_n dX4_has_4 rfl rfl ?_
    refine ev_bipush (v := nI 9) dX4_has_5 (by decide) ?_
    refine bk_icmp_ge (tgt := 22) dX4_has_7 (by decide) (fun c7 => ?_) (fun c7 => ?_)
    · replace h := h.1 c7
      exact ev_sub (e_X4_has_22 V h) (sub_s (sub_s (sub_s (sub_n sub_e))))
    · replace h := h.2 c7
      refine ev_aload_n dX4_has_10 rfl rfl rfl ?_
      refine ev_iload_n dX4_has_11 rfl rfl ?_
      refine bk_callV (As := [.int v2]) (st := []) (st2 := [.int (f_X4_isNote w v2)]) (M2 := M) ok_X4_isNote lk_RX4_23 (ng_rok.of rfl rfl) (RW_gk V) rfl rfl rfl rfl rfl rfl dX4_has_12 (m_X4_isNote V trivial) rfl rfl ?_
      refine bk_if_eq (tgt := 22) dX4_has_15 (by decide) (fun c15 => ?_) (fun c15 => ?_)
      · replace h := h.1 c15
        exact ev_sub (e_X4_has_22 V h) (sub_s (sub_s (sub_s (sub_n sub_e))))
      · replace h := h.2 c15
        refine ev_iconst (v := nI 1) dX4_has_18 (by decide) ?_
        refine ev_goto (tgt := 23) dX4_has_19 (by decide) ?_
        exact ev_sub (e_X4_has_23 V h) (sub_s (sub_s (sub_s (sub_n sub_e))))
theorem m_X4_has {G : ng_GG} {M : ng_AM} {k : Nat} {a : Nat} {dv : Value} {w : Nat → Int32} {C : Nat → Int32} {off : Nat → Int32} {dear : Nat → Int32} {proved : Nat → Int32} (V : ng_RW M k a dv w C off dear proved)  {v1 : Int32} {v2 : Int32} (h : s_X4_has w v1 v2)  : ng_Ev G md_X4_has 0 (ng_en 4 [.ref k, .int v1, .int v2]) [] (M) (K_X4_has M (f_X4_has w v1 v2)) := e_X4_has V h 
def K_X4_takes (M : ng_AM) (r : Int32) : ng_RR := (some (.int (r)), M)
def f_X4_takes  (w : Nat → Int32) (C : Nat → Int32) (v1 : Int32) (v2 : Int32) : Int32 := (if v1 < 0 then nI 0 else (if v1 < (nI 5) then (if (f_X2_on C (nI 4)) = 0 then nI 1 else (if (w (((nI 16) + (v1 * (nI 2))) + (nI 0)).toNatClampNeg) = 0 then nI 0 else (if (w (((nI 16) + (v1 * (nI 2))) + (nI 0)).toNatClampNeg) = v2 then nI 1 else nI 0))) else nI 0))
def s_X4_takes  (w : Nat → Int32) (C : Nat → Int32) (v1 : Int32) (v2 : Int32) : Prop := (¬ v1 < 0 → (v1 < (nI 5) → vp_in (((nI 16) + (v1 * (nI 2))) + (nI 0)) 494))
set_option maxRecDepth 100000 in
set_option maxHeartbeats 4000000 in
theorem e_X4_takes {G : ng_GG} {M : ng_AM} {k : Nat} {a : Nat} {dv : Value} {w : Nat → Int32} {C : Nat → Int32} {off : Nat → Int32} {dear : Nat → Int32} {proved : Nat → Int32} (V : ng_RW M k a dv w C off dear proved)   {v1 : Int32} {v2 : Int32} (h : s_X4_takes  w C v1 v2)  : ng_Ev G md_X4_takes 0 [some (.ref k), some (.int v1), some (.int v2), none] [] (M) (K_X4_takes M (f_X4_takes  w C v1 v2)) := by
  unfold s_X4_takes at h
  unfold f_X4_takes
  refine ev_iload_n dX4_takes_0 rfl rfl ?_
  refine bk_if_lt (tgt := 9) dX4_takes_1 (by decide) (fun c1 => ?_) (fun c1 => ?_)
  · refine ev_iconst (v := nI 0) dX4_takes_9 (by decide) ?_
    exact ev_iret rfl (by decide) dX4_takes_10
  · replace h := h c1
    refine ev_iload_n dX4_takes_4 rfl rfl ?_
    refine ev_iconst (v := nI 5) dX4_takes_5 (by decide) ?_
    refine bk_icmp_lt (tgt := 11) dX4_takes_6 (by decide) (fun c6 => ?_) (fun c6 => ?_)
    · replace h := h c6
      refine ev_aload_n dX4_takes_11 rfl rfl rfl ?_
      refine ev_get 4 0 fl_RX4_11 (RW_gk V) rfl dX4_takes_12 ?_
      refine ev_bipush (v := nI 16) dX4_takes_15 (by decide) ?_
      refine ev_iload_n dX4_takes_17 rfl rfl ?_
      refine ev_iconst (v := nI 2) dX4_takes_18 (by decide) ?_
      refine ev_imul dX4_takes_19 ?_
      refine ev_iadd dX4_takes_20 ?_
      refine ev_iconst (v := nI 0) dX4_takes_21 (by decide) ?_
      refine ev_iadd dX4_takes_22 ?_
      have hi23 := h
      refine ev_iald (RW_ga V) hi23 dX4_takes_23 ?_
      refine ev_istore_n (L' := [some (.ref k), some (.int v1), some (.int v2), some (.int (w (((nI 16) + (v1 * (nI 2))) + (nI 0)).toNatClampNeg))]) dX4_takes_24 rfl (ng_lt rfl) rfl ?_
      refine ev_aload_n dX4_takes_25 rfl rfl rfl ?_
      refine ev_get 4 1 fl_RX4_15 (RW_gk V) rfl dX4_takes_26 ?_
      refine ev_iconst (v := nI 4) dX4_takes_29 (by decide) ?_
      refine bk_callV (As := [.int (nI 4)]) (st := []) (st2 := [.int (f_X2_on C (nI 4))]) (M2 := M) ok_X2_on lk_RX4_127 (ng_rok.of rfl rfl) (RW_g1 V) rfl rfl rfl rfl rfl rfl dX4_takes_30 (m_X2_on (RW_RS V) trivial) rfl rfl ?_
      refine bk_if_eq (tgt := 45) dX4_takes_33 (by decide) (fun c33 => ?_) (fun c33 => ?_)
      · refine ev_iconst (v := nI 1) dX4_takes_45 (by decide) ?_
        refine ev_goto (tgt := 50) dX4_takes_46 (by decide) ?_
        exact ev_iret rfl (by decide) dX4_takes_50
      · refine ev_iload_n dX4_takes_36 rfl rfl ?_
        refine bk_if_eq (tgt := 49) dX4_takes_37 (by decide) (fun c37 => ?_) (fun c37 => ?_)
        · refine ev_iconst (v := nI 0) dX4_takes_49 (by decide) ?_
          exact ev_iret rfl (by decide) dX4_takes_50
        · refine ev_iload_n dX4_takes_40 rfl rfl ?_
          refine ev_iload_n dX4_takes_41 rfl rfl ?_
          refine bk_icmp_ne (tgt := 49) dX4_takes_42 (by decide) (fun c42 => ?_) (fun c42 => ?_)
          · refine ev_iconst (v := nI 0) dX4_takes_49 (by decide) ?_
            exact ev_iret rfl (by decide) dX4_takes_50
          · refine ev_iconst (v := nI 1) dX4_takes_45 (by decide) ?_
            refine ev_goto (tgt := 50) dX4_takes_46 (by decide) ?_
            exact ev_iret rfl (by decide) dX4_takes_50
    · refine ev_iconst (v := nI 0) dX4_takes_9 (by decide) ?_
      exact ev_iret rfl (by decide) dX4_takes_10
theorem m_X4_takes {G : ng_GG} {M : ng_AM} {k : Nat} {a : Nat} {dv : Value} {w : Nat → Int32} {C : Nat → Int32} {off : Nat → Int32} {dear : Nat → Int32} {proved : Nat → Int32} (V : ng_RW M k a dv w C off dear proved)  {v1 : Int32} {v2 : Int32} (h : s_X4_takes w C v1 v2)  : ng_Ev G md_X4_takes 0 (ng_en 4 [.ref k, .int v1, .int v2]) [] (M) (K_X4_takes M (f_X4_takes w C v1 v2)) := e_X4_takes V h 
def K_X4_verdict (M : ng_AM) (r : Int32) : ng_RR := (some (.int (r)), M)
def f_X4_verdict_402  (w : Nat → Int32) (C : Nat → Int32) (off : Nat → Int32) (dear : Nat → Int32) (v9 : Int32) (t0 : Int32) : Int32 := (if v9 = 0 then nI 0 else (if t0 = 0 then nI 0 else (if (f_X2_on C (nI 7)) = 0 then nI 0 else nI 10)))
def s_X4_verdict_402  (w : Nat → Int32) (C : Nat → Int32) (off : Nat → Int32) (dear : Nat → Int32) (v9 : Int32) (t0 : Int32) : Prop := True
set_option maxRecDepth 100000 in
set_option maxHeartbeats 4000000 in
theorem e_X4_verdict_402 {G : ng_GG} {M : ng_AM} {k : Nat} {a : Nat} {dv : Value} {w : Nat → Int32} {C : Nat → Int32} {off : Nat → Int32} {dear : Nat → Int32} {proved : Nat → Int32} (V : ng_RW M k a dv w C off dear proved)   {v9 : Int32} {t0 : Int32} (h : s_X4_verdict_402  w C off dear v9 t0)  : ng_Ev G md_X4_verdict 402 [some (.ref k), none, none, none, none, none, none, none, none, some (.int v9), none] [.int t0] (M) (K_X4_verdict M (f_X4_verdict_402  w C off dear v9 t0)) := by
  unfold s_X4_verdict_402 at h
  unfold f_X4_verdict_402
  refine ev_istore (L' := [some (.ref k), none, none, none, none, none, none, none, none, some (.int v9), some (.int t0)]) dX4_verdict_402 (ng_lt rfl) rfl ?_
  refine ev_iload dX4_verdict_404 rfl ?_
  refine bk_if_eq (tgt := 431) dX4_verdict_406 (by decide) (fun c406 => ?_) (fun c406 => ?_)
  · refine ev_iconst (v := nI 0) dX4_verdict_431 (by decide) ?_
    exact ev_iret rfl rfl dX4_verdict_432
  · refine ev_iload dX4_verdict_409 rfl ?_
    refine bk_if_eq (tgt := 431) dX4_verdict_411 (by decide) (fun c411 => ?_) (fun c411 => ?_)
    · refine ev_iconst (v := nI 0) dX4_verdict_431 (by decide) ?_
      exact ev_iret rfl rfl dX4_verdict_432
    · refine ev_aload_n dX4_verdict_414 rfl rfl rfl ?_
      refine ev_get 4 1 fl_RX4_15 (RW_gk V) rfl dX4_verdict_415 ?_
      refine ev_bipush (v := nI 7) dX4_verdict_418 (by decide) ?_
      refine bk_callV (As := [.int (nI 7)]) (st := []) (st2 := [.int (f_X2_on C (nI 7))]) (M2 := M) ok_X2_on lk_RX4_127 (ng_rok.of rfl rfl) (RW_g1 V) rfl rfl rfl rfl rfl rfl dX4_verdict_420 (m_X2_on (RW_RS V) trivial) rfl rfl ?_
      refine bk_if_eq (tgt := 431) dX4_verdict_423 (by decide) (fun c423 => ?_) (fun c423 => ?_)
      · refine ev_iconst (v := nI 0) dX4_verdict_431 (by decide) ?_
        exact ev_iret rfl rfl dX4_verdict_432
      · refine ev_bipush (v := nI 10) dX4_verdict_426 (by decide) ?_
        refine ev_goto (tgt := 432) dX4_verdict_428 (by decide) ?_
        exact ev_iret rfl rfl dX4_verdict_432
def f_X4_verdict_378  (w : Nat → Int32) (C : Nat → Int32) (off : Nat → Int32) (dear : Nat → Int32) (v1 : Int32) (v3 : Int32) (t0 : Int32) : Int32 := (if (((dear v1.toNatClampNeg) >>> (v3 &&& 31)) &&& (nI 1)) = (nI 1) then f_X4_verdict_402 w C off dear t0 (nI 1) else f_X4_verdict_402 w C off dear t0 (nI 0))
def s_X4_verdict_378  (w : Nat → Int32) (C : Nat → Int32) (off : Nat → Int32) (dear : Nat → Int32) (v1 : Int32) (v3 : Int32) (t0 : Int32) : Prop := (vp_in v1 4 ∧ (((((dear v1.toNatClampNeg) >>> (v3 &&& 31)) &&& (nI 1)) = (nI 1) → s_X4_verdict_402 w C off dear t0 (nI 1)) ∧ (¬ (((dear v1.toNatClampNeg) >>> (v3 &&& 31)) &&& (nI 1)) = (nI 1) → s_X4_verdict_402 w C off dear t0 (nI 0))))
set_option maxRecDepth 100000 in
set_option maxHeartbeats 4000000 in
theorem e_X4_verdict_378 {G : ng_GG} {M : ng_AM} {k : Nat} {a : Nat} {dv : Value} {w : Nat → Int32} {C : Nat → Int32} {off : Nat → Int32} {dear : Nat → Int32} {proved : Nat → Int32} (V : ng_RW M k a dv w C off dear proved)   {v1 : Int32} {v3 : Int32} {t0 : Int32} (h : s_X4_verdict_378  w C off dear v1 v3 t0)  : ng_Ev G md_X4_verdict 378 [some (.ref k), some (.int v1), none, some (.int v3), none, none, none, none, none, none, none] [.int t0] (M) (K_X4_verdict M (f_X4_verdict_378  w C off dear v1 v3 t0)) := by
  unfold s_X4_verdict_378 at h
  unfold f_X4_verdict_378
  refine ev_istore (L' := [some (.ref k), some (.int v1), none, some (.int v3), none, none, none, none, none, some (.int t0), none]) dX4_verdict_378 (ng_lt rfl) rfl ?_
  refine ev_aload_n dX4_verdict_380 rfl rfl rfl ?_
  refine ev_get 4 1 fl_RX4_15 (RW_gk V) rfl dX4_verdict_381 ?_
  refine ev_get 2 15 fl_RX4_163 (RW_g1 V) rfl dX4_verdict_384 ?_
  refine ev_iload_n dX4_verdict_387 rfl rfl ?_
  have hi388 := h.1
  replace h := h.2
  refine ev_iald (RW_g3 V) hi388 dX4_verdict_388 ?_
  refine ev_iload_n dX4_verdict_389 rfl rfl ?_
  refine ev_ishr dX4_verdict_390 ?_
  refine ev_iconst (v := nI 1) dX4_verdict_391 (by decide) ?_
  refine ev_iand dX4_verdict_392 ?_
  refine ev_iconst (v := nI 1) dX4_verdict_393 (by decide) ?_
  refine bk_icmp_ne (tgt := 401) dX4_verdict_394 (by decide) (fun c394 => ?_) (fun c394 => ?_)
  · replace h := h.2 c394
    refine ev_iconst (v := nI 0) dX4_verdict_401 (by decide) ?_
    exact ev_sub (e_X4_verdict_402 V h) (sub_s (sub_n (sub_n (sub_n (sub_n (sub_n (sub_n (sub_n (sub_n (sub_s (sub_n sub_e)))))))))))
  · replace h := h.1 c394
    refine ev_iconst (v := nI 1) dX4_verdict_397 (by decide) ?_
    refine ev_goto (tgt := 402) dX4_verdict_398 (by decide) ?_
    exact ev_sub (e_X4_verdict_402 V h) (sub_s (sub_n (sub_n (sub_n (sub_n (sub_n (sub_n (sub_n (sub_n (sub_s (sub_n sub_e)))))))))))
def f_X4_verdict_323  (w : Nat → Int32) (C : Nat → Int32) (off : Nat → Int32) (dear : Nat → Int32) (v1 : Int32) (v3 : Int32) (v4 : Int32) (v6 : Int32) : Int32 := (if (((w (v4 + (nI 3)).toNatClampNeg) >>> (v3 &&& 31)) &&& (nI 1)) = 0 then nI 9 else (if (v6 - (w (v4 + (nI 7)).toNatClampNeg)) ≤ ((C 6) + (C 2)) then f_X4_verdict_378 w C off dear v1 v3 (nI 0) else f_X4_verdict_378 w C off dear v1 v3 (nI 1)))
def s_X4_verdict_323  (w : Nat → Int32) (C : Nat → Int32) (off : Nat → Int32) (dear : Nat → Int32) (v1 : Int32) (v3 : Int32) (v4 : Int32) (v6 : Int32) : Prop := (vp_in (v4 + (nI 3)) 494 ∧ (¬ (((w (v4 + (nI 3)).toNatClampNeg) >>> (v3 &&& 31)) &&& (nI 1)) = 0 → (vp_in (v4 + (nI 7)) 494 ∧ (((v6 - (w (v4 + (nI 7)).toNatClampNeg)) ≤ ((C 6) + (C 2)) → s_X4_verdict_378 w C off dear v1 v3 (nI 0)) ∧ (¬ (v6 - (w (v4 + (nI 7)).toNatClampNeg)) ≤ ((C 6) + (C 2)) → s_X4_verdict_378 w C off dear v1 v3 (nI 1))))))
set_option maxRecDepth 100000 in
set_option maxHeartbeats 4000000 in
theorem e_X4_verdict_323 {G : ng_GG} {M : ng_AM} {k : Nat} {a : Nat} {dv : Value} {w : Nat → Int32} {C : Nat → Int32} {off : Nat → Int32} {dear : Nat → Int32} {proved : Nat → Int32} (V : ng_RW M k a dv w C off dear proved)   {v1 : Int32} {v3 : Int32} {v4 : Int32} {v6 : Int32} (h : s_X4_verdict_323  w C off dear v1 v3 v4 v6)  : ng_Ev G md_X4_verdict 323 [some (.ref k), some (.int v1), none, some (.int v3), some (.int v4), none, some (.int v6), none, none, none, none] [] (M) (K_X4_verdict M (f_X4_verdict_323  w C off dear v1 v3 v4 v6)) := by
  unfold s_X4_verdict_323 at h
  unfold f_X4_verdict_323
  refine ev_aload_n dX4_verdict_323 rfl rfl rfl ?_
  refine ev_get 4 0 fl_RX4_11 (RW_gk V) rfl dX4_verdict_324 ?_
  refine ev_iload dX4_verdict_327 rfl ?_
  refine ev_iconst (v := nI 3) dX4_verdict_329 (by decide) ?_
  refine ev_iadd dX4_verdict_330 ?_
  have hi331 := h.1
  replace h := h.2
  refine ev_iald (RW_ga V) hi331 dX4_verdict_331 ?_
  refine ev_iload_n dX4_verdict_332 rfl rfl ?_
  refine ev_ishr dX4_verdict_333 ?_
  refine ev_iconst (v := nI 1) dX4_verdict_334 (by decide) ?_
  refine ev_iand dX4_verdict_335 ?_
  refine bk_if_ne (tgt := 342) dX4_verdict_336 (by decide) (fun c336 => ?_) (fun c336 => ?_)
  · replace h := h c336
    refine ev_iload dX4_verdict_342 rfl ?_
    refine ev_aload_n dX4_verdict_344 rfl rfl rfl ?_
    refine ev_get 4 0 fl_RX4_11 (RW_gk V) rfl dX4_verdict_345 ?_
    refine ev_iload dX4_verdict_348 rfl ?_
    refine ev_bipush (v := nI 7) dX4_verdict_350 (by decide) ?_
    refine ev_iadd dX4_verdict_352 ?_
    have hi353 := h.1
    replace h := h.2
    refine ev_iald (RW_ga V) hi353 dX4_verdict_353 ?_
    refine ev_isub dX4_verdict_354 ?_
    refine ev_aload_n dX4_verdict_355 rfl rfl rfl ?_
    refine ev_get 4 1 fl_RX4_15 (RW_gk V) rfl dX4_verdict_356 ?_
    refine ev_get 2 6 fl_RX4_160 (RW_g1 V) rfl dX4_verdict_359 ?_
    refine ev_aload_n dX4_verdict_362 rfl rfl rfl ?_
    refine ev_get 4 1 fl_RX4_15 (RW_gk V) rfl dX4_verdict_363 ?_
    refine ev_get 2 2 fl_RX4_151 (RW_g1 V) rfl dX4_verdict_366 ?_
    refine ev_iadd dX4_verdict_369 ?_
    refine bk_icmp_le (tgt := 377) dX4_verdict_370 (by decide) (fun c370 => ?_) (fun c370 => ?_)
    · replace h := h.1 c370
      refine ev_iconst (v := nI 0) dX4_verdict_377 (by decide) ?_
      exact ev_sub (e_X4_verdict_378 V h) (sub_s (sub_s (sub_n (sub_s (sub_n (sub_n (sub_n (sub_n (sub_n (sub_n (sub_n sub_e)))))))))))
    · replace h := h.2 c370
      refine ev_iconst (v := nI 1) dX4_verdict_373 (by decide) ?_
      refine ev_goto (tgt := 378) dX4_verdict_374 (by decide) ?_
      exact ev_sub (e_X4_verdict_378 V h) (sub_s (sub_s (sub_n (sub_s (sub_n (sub_n (sub_n (sub_n (sub_n (sub_n (sub_n sub_e)))))))))))
  · refine ev_bipush (v := nI 9) dX4_verdict_339 (by decide) ?_
    exact ev_iret rfl rfl dX4_verdict_341
def f_X4_verdict_302  (w : Nat → Int32) (C : Nat → Int32) (off : Nat → Int32) (dear : Nat → Int32) (v1 : Int32) (v3 : Int32) (v4 : Int32) (v6 : Int32) (t0 : Int32) : Int32 := (if t0 = 0 then f_X4_verdict_323 w C off dear v1 v3 v4 v6 else (if (f_X2_on C (nI 2)) = 0 then f_X4_verdict_323 w C off dear v1 v3 v4 v6 else nI 8))
def s_X4_verdict_302  (w : Nat → Int32) (C : Nat → Int32) (off : Nat → Int32) (dear : Nat → Int32) (v1 : Int32) (v3 : Int32) (v4 : Int32) (v6 : Int32) (t0 : Int32) : Prop := ((t0 = 0 → s_X4_verdict_323 w C off dear v1 v3 v4 v6) ∧ (¬ t0 = 0 → ((f_X2_on C (nI 2)) = 0 → s_X4_verdict_323 w C off dear v1 v3 v4 v6)))
set_option maxRecDepth 100000 in
set_option maxHeartbeats 4000000 in
theorem e_X4_verdict_302 {G : ng_GG} {M : ng_AM} {k : Nat} {a : Nat} {dv : Value} {w : Nat → Int32} {C : Nat → Int32} {off : Nat → Int32} {dear : Nat → Int32} {proved : Nat → Int32} (V : ng_RW M k a dv w C off dear proved)   {v1 : Int32} {v3 : Int32} {v4 : Int32} {v6 : Int32} {t0 : Int32} (h : s_X4_verdict_302  w C off dear v1 v3 v4 v6 t0)  : ng_Ev G md_X4_verdict 302 [some (.ref k), some (.int v1), none, some (.int v3), some (.int v4), none, some (.int v6), none, none, none, none] [.int t0] (M) (K_X4_verdict M (f_X4_verdict_302  w C off dear v1 v3 v4 v6 t0)) := by
  unfold s_X4_verdict_302 at h
  unfold f_X4_verdict_302
  refine ev_istore (L' := [some (.ref k), some (.int v1), none, some (.int v3), some (.int v4), none, some (.int v6), none, some (.int t0), none, none]) dX4_verdict_302 (ng_lt rfl) rfl ?_
  refine ev_iload dX4_verdict_304 rfl ?_
  refine bk_if_eq (tgt := 323) dX4_verdict_306 (by decide) (fun c306 => ?_) (fun c306 => ?_)
  · replace h := h.1 c306
    exact ev_sub (e_X4_verdict_323 V h) (sub_s (sub_s (sub_n (sub_s (sub_s (sub_n (sub_s (sub_n (sub_n (sub_n (sub_n sub_e)))))))))))
  · replace h := h.2 c306
    refine ev_aload_n dX4_verdict_309 rfl rfl rfl ?_
    refine ev_get 4 1 fl_RX4_15 (RW_gk V) rfl dX4_verdict_310 ?_
    refine ev_iconst (v := nI 2) dX4_verdict_313 (by decide) ?_
    refine bk_callV (As := [.int (nI 2)]) (st := []) (st2 := [.int (f_X2_on C (nI 2))]) (M2 := M) ok_X2_on lk_RX4_127 (ng_rok.of rfl rfl) (RW_g1 V) rfl rfl rfl rfl rfl rfl dX4_verdict_314 (m_X2_on (RW_RS V) trivial) rfl rfl ?_
    refine bk_if_eq (tgt := 323) dX4_verdict_317 (by decide) (fun c317 => ?_) (fun c317 => ?_)
    · replace h := h c317
      exact ev_sub (e_X4_verdict_323 V h) (sub_s (sub_s (sub_n (sub_s (sub_s (sub_n (sub_s (sub_n (sub_n (sub_n (sub_n sub_e)))))))))))
    · refine ev_bipush (v := nI 8) dX4_verdict_320 (by decide) ?_
      exact ev_iret rfl rfl dX4_verdict_322
def f_X4_verdict_301  (w : Nat → Int32) (C : Nat → Int32) (off : Nat → Int32) (dear : Nat → Int32) (v1 : Int32) (v3 : Int32) (v4 : Int32) (v6 : Int32) : Int32 := f_X4_verdict_302 w C off dear v1 v3 v4 v6 (nI 0)
def s_X4_verdict_301  (w : Nat → Int32) (C : Nat → Int32) (off : Nat → Int32) (dear : Nat → Int32) (v1 : Int32) (v3 : Int32) (v4 : Int32) (v6 : Int32) : Prop := s_X4_verdict_302 w C off dear v1 v3 v4 v6 (nI 0)
set_option maxRecDepth 100000 in
set_option maxHeartbeats 4000000 in
theorem e_X4_verdict_301 {G : ng_GG} {M : ng_AM} {k : Nat} {a : Nat} {dv : Value} {w : Nat → Int32} {C : Nat → Int32} {off : Nat → Int32} {dear : Nat → Int32} {proved : Nat → Int32} (V : ng_RW M k a dv w C off dear proved)   {v1 : Int32} {v3 : Int32} {v4 : Int32} {v6 : Int32} (h : s_X4_verdict_301  w C off dear v1 v3 v4 v6)  : ng_Ev G md_X4_verdict 301 [some (.ref k), some (.int v1), none, some (.int v3), some (.int v4), none, some (.int v6), none, none, none, none] [] (M) (K_X4_verdict M (f_X4_verdict_301  w C off dear v1 v3 v4 v6)) := by
  unfold s_X4_verdict_301 at h
  unfold f_X4_verdict_301
  refine ev_iconst (v := nI 0) dX4_verdict_301 (by decide) ?_
  exact ev_sub (e_X4_verdict_302 V h) (sub_s (sub_s (sub_n (sub_s (sub_s (sub_n (sub_s (sub_n (sub_n (sub_n (sub_n sub_e)))))))))))
def f_X4_verdict_269  (w : Nat → Int32) (C : Nat → Int32) (off : Nat → Int32) (dear : Nat → Int32) (v1 : Int32) (v2 : Int32) (v3 : Int32) (v4 : Int32) (v5 : Int32) (v6 : Int32) : Int32 := (if (f_X2_isOnce C v1) = 0 then f_X4_verdict_301 w C off dear v1 v3 v4 v6 else (if (((w (v5 + (nI 2)).toNatClampNeg) >>> (v2 &&& 31)) &&& (nI 1)) = (nI 1) then f_X4_verdict_302 w C off dear v1 v3 v4 v6 (nI 1) else f_X4_verdict_301 w C off dear v1 v3 v4 v6))
def s_X4_verdict_269  (w : Nat → Int32) (C : Nat → Int32) (off : Nat → Int32) (dear : Nat → Int32) (v1 : Int32) (v2 : Int32) (v3 : Int32) (v4 : Int32) (v5 : Int32) (v6 : Int32) : Prop := (((f_X2_isOnce C v1) = 0 → s_X4_verdict_301 w C off dear v1 v3 v4 v6) ∧ (¬ (f_X2_isOnce C v1) = 0 → (vp_in (v5 + (nI 2)) 494 ∧ (((((w (v5 + (nI 2)).toNatClampNeg) >>> (v2 &&& 31)) &&& (nI 1)) = (nI 1) → s_X4_verdict_302 w C off dear v1 v3 v4 v6 (nI 1)) ∧ (¬ (((w (v5 + (nI 2)).toNatClampNeg) >>> (v2 &&& 31)) &&& (nI 1)) = (nI 1) → s_X4_verdict_301 w C off dear v1 v3 v4 v6)))))
set_option maxRecDepth 100000 in
set_option maxHeartbeats 4000000 in
theorem e_X4_verdict_269 {G : ng_GG} {M : ng_AM} {k : Nat} {a : Nat} {dv : Value} {w : Nat → Int32} {C : Nat → Int32} {off : Nat → Int32} {dear : Nat → Int32} {proved : Nat → Int32} (V : ng_RW M k a dv w C off dear proved)   {v1 : Int32} {v2 : Int32} {v3 : Int32} {v4 : Int32} {v5 : Int32} {v6 : Int32} (h : s_X4_verdict_269  w C off dear v1 v2 v3 v4 v5 v6)  : ng_Ev G md_X4_verdict 269 [some (.ref k), some (.int v1), some (.int v2), some (.int v3), some (.int v4), some (.int v5), some (.int v6), none, none, none, none] [] (M) (K_X4_verdict M (f_X4_verdict_269  w C off dear v1 v2 v3 v4 v5 v6)) := by
  unfold s_X4_verdict_269 at h
  unfold f_X4_verdict_269
  refine ev_aload_n dX4_verdict_269 rfl rfl rfl ?_
  refine ev_get 4 1 fl_RX4_15 (RW_gk V) rfl dX4_verdict_270 ?_
  refine ev_iload_n dX4_verdict_273 rfl rfl ?_
  refine bk_callV (As := [.int v1]) (st := []) (st2 := [.int (f_X2_isOnce C v1)]) (M2 := M) ok_X2_isOnce lk_RX4_157 (ng_rok.of rfl rfl) (RW_g1 V) rfl rfl rfl rfl rfl rfl dX4_verdict_274 (m_X2_isOnce (RW_RS V) trivial) rfl rfl ?_
  refine bk_if_eq (tgt := 301) dX4_verdict_277 (by decide) (fun c277 => ?_) (fun c277 => ?_)
  · replace h := h.1 c277
    exact ev_sub (e_X4_verdict_301 V h) (sub_s (sub_s (sub_n (sub_s (sub_s (sub_n (sub_s (sub_n (sub_n (sub_n (sub_n sub_e)))))))))))
  · replace h := h.2 c277
    refine ev_aload_n dX4_verdict_280 rfl rfl rfl ?_
    refine ev_get 4 0 fl_RX4_11 (RW_gk V) rfl dX4_verdict_281 ?_
    refine ev_iload dX4_verdict_284 rfl ?_
    refine ev_iconst (v := nI 2) dX4_verdict_286 (by decide) ?_
    refine ev_iadd dX4_verdict_287 ?_
    have hi288 := h.1
    replace h := h.2
    refine ev_iald (RW_ga V) hi288 dX4_verdict_288 ?_
    refine ev_iload_n dX4_verdict_289 rfl rfl ?_
    refine ev_ishr dX4_verdict_290 ?_
    refine ev_iconst (v := nI 1) dX4_verdict_291 (by decide) ?_
    refine ev_iand dX4_verdict_292 ?_
    refine ev_iconst (v := nI 1) dX4_verdict_293 (by decide) ?_
    refine bk_icmp_ne (tgt := 301) dX4_verdict_294 (by decide) (fun c294 => ?_) (fun c294 => ?_)
    · replace h := h.2 c294
      exact ev_sub (e_X4_verdict_301 V h) (sub_s (sub_s (sub_n (sub_s (sub_s (sub_n (sub_s (sub_n (sub_n (sub_n (sub_n sub_e)))))))))))
    · replace h := h.1 c294
      refine ev_iconst (v := nI 1) dX4_verdict_297 (by decide) ?_
      refine ev_goto (tgt := 302) dX4_verdict_298 (by decide) ?_
      exact ev_sub (e_X4_verdict_302 V h) (sub_s (sub_s (sub_n (sub_s (sub_s (sub_n (sub_s (sub_n (sub_n (sub_n (sub_n sub_e)))))))))))
def f_X4_verdict_248  (w : Nat → Int32) (C : Nat → Int32) (off : Nat → Int32) (dear : Nat → Int32) (v1 : Int32) (v2 : Int32) (v3 : Int32) (v4 : Int32) (v5 : Int32) (v6 : Int32) (t0 : Int32) : Int32 := (if t0 = 0 then f_X4_verdict_269 w C off dear v1 v2 v3 v4 v5 v6 else (if (f_X2_on C (nI 3)) = 0 then f_X4_verdict_269 w C off dear v1 v2 v3 v4 v5 v6 else nI 7))
def s_X4_verdict_248  (w : Nat → Int32) (C : Nat → Int32) (off : Nat → Int32) (dear : Nat → Int32) (v1 : Int32) (v2 : Int32) (v3 : Int32) (v4 : Int32) (v5 : Int32) (v6 : Int32) (t0 : Int32) : Prop := ((t0 = 0 → s_X4_verdict_269 w C off dear v1 v2 v3 v4 v5 v6) ∧ (¬ t0 = 0 → ((f_X2_on C (nI 3)) = 0 → s_X4_verdict_269 w C off dear v1 v2 v3 v4 v5 v6)))
set_option maxRecDepth 100000 in
set_option maxHeartbeats 4000000 in
theorem e_X4_verdict_248 {G : ng_GG} {M : ng_AM} {k : Nat} {a : Nat} {dv : Value} {w : Nat → Int32} {C : Nat → Int32} {off : Nat → Int32} {dear : Nat → Int32} {proved : Nat → Int32} (V : ng_RW M k a dv w C off dear proved)   {v1 : Int32} {v2 : Int32} {v3 : Int32} {v4 : Int32} {v5 : Int32} {v6 : Int32} {t0 : Int32} (h : s_X4_verdict_248  w C off dear v1 v2 v3 v4 v5 v6 t0)  : ng_Ev G md_X4_verdict 248 [some (.ref k), some (.int v1), some (.int v2), some (.int v3), some (.int v4), some (.int v5), some (.int v6), none, none, none, none] [.int t0] (M) (K_X4_verdict M (f_X4_verdict_248  w C off dear v1 v2 v3 v4 v5 v6 t0)) := by
  unfold s_X4_verdict_248 at h
  unfold f_X4_verdict_248
  refine ev_istore (L' := [some (.ref k), some (.int v1), some (.int v2), some (.int v3), some (.int v4), some (.int v5), some (.int v6), some (.int t0), none, none, none]) dX4_verdict_248 (ng_lt rfl) rfl ?_
  refine ev_iload dX4_verdict_250 rfl ?_
  refine bk_if_eq (tgt := 269) dX4_verdict_252 (by decide) (fun c252 => ?_) (fun c252 => ?_)
  · replace h := h.1 c252
    exact ev_sub (e_X4_verdict_269 V h) (sub_s (sub_s (sub_s (sub_s (sub_s (sub_s (sub_s (sub_n (sub_n (sub_n (sub_n sub_e)))))))))))
  · replace h := h.2 c252
    refine ev_aload_n dX4_verdict_255 rfl rfl rfl ?_
    refine ev_get 4 1 fl_RX4_15 (RW_gk V) rfl dX4_verdict_256 ?_
    refine ev_iconst (v := nI 3) dX4_verdict_259 (by decide) ?_
    refine bk_callV (As := [.int (nI 3)]) (st := []) (st2 := [.int (f_X2_on C (nI 3))]) (M2 := M) ok_X2_on lk_RX4_127 (ng_rok.of rfl rfl) (RW_g1 V) rfl rfl rfl rfl rfl rfl dX4_verdict_260 (m_X2_on (RW_RS V) trivial) rfl rfl ?_
    refine bk_if_eq (tgt := 269) dX4_verdict_263 (by decide) (fun c263 => ?_) (fun c263 => ?_)
    · replace h := h c263
      exact ev_sub (e_X4_verdict_269 V h) (sub_s (sub_s (sub_s (sub_s (sub_s (sub_s (sub_s (sub_n (sub_n (sub_n (sub_n sub_e)))))))))))
    · refine ev_bipush (v := nI 7) dX4_verdict_266 (by decide) ?_
      exact ev_iret rfl rfl dX4_verdict_268
def f_X4_verdict_247  (w : Nat → Int32) (C : Nat → Int32) (off : Nat → Int32) (dear : Nat → Int32) (v1 : Int32) (v2 : Int32) (v3 : Int32) (v4 : Int32) (v5 : Int32) (v6 : Int32) : Int32 := f_X4_verdict_248 w C off dear v1 v2 v3 v4 v5 v6 (nI 0)
def s_X4_verdict_247  (w : Nat → Int32) (C : Nat → Int32) (off : Nat → Int32) (dear : Nat → Int32) (v1 : Int32) (v2 : Int32) (v3 : Int32) (v4 : Int32) (v5 : Int32) (v6 : Int32) : Prop := s_X4_verdict_248 w C off dear v1 v2 v3 v4 v5 v6 (nI 0)
set_option maxRecDepth 100000 in
set_option maxHeartbeats 4000000 in
theorem e_X4_verdict_247 {G : ng_GG} {M : ng_AM} {k : Nat} {a : Nat} {dv : Value} {w : Nat → Int32} {C : Nat → Int32} {off : Nat → Int32} {dear : Nat → Int32} {proved : Nat → Int32} (V : ng_RW M k a dv w C off dear proved)   {v1 : Int32} {v2 : Int32} {v3 : Int32} {v4 : Int32} {v5 : Int32} {v6 : Int32} (h : s_X4_verdict_247  w C off dear v1 v2 v3 v4 v5 v6)  : ng_Ev G md_X4_verdict 247 [some (.ref k), some (.int v1), some (.int v2), some (.int v3), some (.int v4), some (.int v5), some (.int v6), none, none, none, none] [] (M) (K_X4_verdict M (f_X4_verdict_247  w C off dear v1 v2 v3 v4 v5 v6)) := by
  unfold s_X4_verdict_247 at h
  unfold f_X4_verdict_247
  refine ev_iconst (v := nI 0) dX4_verdict_247 (by decide) ?_
  exact ev_sub (e_X4_verdict_248 V h) (sub_s (sub_s (sub_s (sub_s (sub_s (sub_s (sub_s (sub_n (sub_n (sub_n (sub_n sub_e)))))))))))
def f_X4_verdict_207  (w : Nat → Int32) (C : Nat → Int32) (off : Nat → Int32) (dear : Nat → Int32) (v1 : Int32) (v2 : Int32) (v3 : Int32) (v4 : Int32) (v5 : Int32) (v6 : Int32) : Int32 := (if (C 4) ≤ 0 then f_X4_verdict_247 w C off dear v1 v2 v3 v4 v5 v6 else (if ((w (nI 0).toNatClampNeg) - (w (v5 + (nI 0)).toNatClampNeg)) ≤ (C 4) then f_X4_verdict_247 w C off dear v1 v2 v3 v4 v5 v6 else f_X4_verdict_248 w C off dear v1 v2 v3 v4 v5 v6 (nI 1)))
def s_X4_verdict_207  (w : Nat → Int32) (C : Nat → Int32) (off : Nat → Int32) (dear : Nat → Int32) (v1 : Int32) (v2 : Int32) (v3 : Int32) (v4 : Int32) (v5 : Int32) (v6 : Int32) : Prop := (((C 4) ≤ 0 → s_X4_verdict_247 w C off dear v1 v2 v3 v4 v5 v6) ∧ (¬ (C 4) ≤ 0 → (vp_in (v5 + (nI 0)) 494 ∧ ((((w (nI 0).toNatClampNeg) - (w (v5 + (nI 0)).toNatClampNeg)) ≤ (C 4) → s_X4_verdict_247 w C off dear v1 v2 v3 v4 v5 v6) ∧ (¬ ((w (nI 0).toNatClampNeg) - (w (v5 + (nI 0)).toNatClampNeg)) ≤ (C 4) → s_X4_verdict_248 w C off dear v1 v2 v3 v4 v5 v6 (nI 1))))))
set_option maxRecDepth 100000 in
set_option maxHeartbeats 4000000 in
theorem e_X4_verdict_207 {G : ng_GG} {M : ng_AM} {k : Nat} {a : Nat} {dv : Value} {w : Nat → Int32} {C : Nat → Int32} {off : Nat → Int32} {dear : Nat → Int32} {proved : Nat → Int32} (V : ng_RW M k a dv w C off dear proved)   {v1 : Int32} {v2 : Int32} {v3 : Int32} {v4 : Int32} {v5 : Int32} {v6 : Int32} (h : s_X4_verdict_207  w C off dear v1 v2 v3 v4 v5 v6)  : ng_Ev G md_X4_verdict 207 [some (.ref k), some (.int v1), some (.int v2), some (.int v3), some (.int v4), some (.int v5), some (.int v6), none, none, none, none] [] (M) (K_X4_verdict M (f_X4_verdict_207  w C off dear v1 v2 v3 v4 v5 v6)) := by
  unfold s_X4_verdict_207 at h
  unfold f_X4_verdict_207
  refine ev_aload_n dX4_verdict_207 rfl rfl rfl ?_
  refine ev_get 4 1 fl_RX4_15 (RW_gk V) rfl dX4_verdict_208 ?_
  refine ev_get 2 4 fl_RX4_154 (RW_g1 V) rfl dX4_verdict_211 ?_
  refine bk_if_le (tgt := 247) dX4_verdict_214 (by decide) (fun c214 => ?_) (fun c214 => ?_)
  · replace h := h.1 c214
    exact ev_sub (e_X4_verdict_247 V h) (sub_s (sub_s (sub_s (sub_s (sub_s (sub_s (sub_s (sub_n (sub_n (sub_n (sub_n sub_e)))))))))))
  · replace h := h.2 c214
    refine ev_aload_n dX4_verdict_217 rfl rfl rfl ?_
    refine ev_get 4 0 fl_RX4_11 (RW_gk V) rfl dX4_verdict_218 ?_
    refine ev_iconst (v := nI 0) dX4_verdict_221 (by decide) ?_
    refine ev_iald (RW_ga V) (vp_in_nI (by decide) (by decide)) dX4_verdict_222 ?_
    refine ev_aload_n dX4_verdict_223 rfl rfl rfl ?_
    refine ev_get 4 0 fl_RX4_11 (RW_gk V) rfl dX4_verdict_224 ?_
    refine ev_iload dX4_verdict_227 rfl ?_
    refine ev_iconst (v := nI 0) dX4_verdict_229 (by decide) ?_
    refine ev_iadd dX4_verdict_230 ?_
    have hi231 := h.1
    replace h := h.2
    refine ev_iald (RW_ga V) hi231 dX4_verdict_231 ?_
    refine ev_isub dX4_verdict_232 ?_
    refine ev_aload_n dX4_verdict_233 rfl rfl rfl ?_
    refine ev_get 4 1 fl_RX4_15 (RW_gk V) rfl dX4_verdict_234 ?_
    refine ev_get 2 4 fl_RX4_154 (RW_g1 V) rfl dX4_verdict_237 ?_
    refine bk_icmp_le (tgt := 247) dX4_verdict_240 (by decide) (fun c240 => ?_) (fun c240 => ?_)
    · replace h := h.1 c240
      exact ev_sub (e_X4_verdict_247 V h) (sub_s (sub_s (sub_s (sub_s (sub_s (sub_s (sub_s (sub_n (sub_n (sub_n (sub_n sub_e)))))))))))
    · replace h := h.2 c240
      refine ev_iconst (v := nI 1) dX4_verdict_243 (by decide) ?_
      refine ev_goto (tgt := 248) dX4_verdict_244 (by decide) ?_
      exact ev_sub (e_X4_verdict_248 V h) (sub_s (sub_s (sub_s (sub_s (sub_s (sub_s (sub_s (sub_n (sub_n (sub_n (sub_n sub_e)))))))))))
def f_X4_verdict_167  (w : Nat → Int32) (C : Nat → Int32) (off : Nat → Int32) (dear : Nat → Int32) (v1 : Int32) (v2 : Int32) (v3 : Int32) (v4 : Int32) (v5 : Int32) (v6 : Int32) : Int32 := (if (((w (v5 + (nI 1)).toNatClampNeg) >>> ((w (v4 + (nI 6)).toNatClampNeg) &&& 31)) &&& (nI 1)) = (nI 1) then (if (f_X2_on C (nI 3)) = 0 then f_X4_verdict_207 w C off dear v1 v2 v3 v4 v5 v6 else nI 6) else f_X4_verdict_207 w C off dear v1 v2 v3 v4 v5 v6)
def s_X4_verdict_167  (w : Nat → Int32) (C : Nat → Int32) (off : Nat → Int32) (dear : Nat → Int32) (v1 : Int32) (v2 : Int32) (v3 : Int32) (v4 : Int32) (v5 : Int32) (v6 : Int32) : Prop := (vp_in (v5 + (nI 1)) 494 ∧ (vp_in (v4 + (nI 6)) 494 ∧ (((((w (v5 + (nI 1)).toNatClampNeg) >>> ((w (v4 + (nI 6)).toNatClampNeg) &&& 31)) &&& (nI 1)) = (nI 1) → ((f_X2_on C (nI 3)) = 0 → s_X4_verdict_207 w C off dear v1 v2 v3 v4 v5 v6)) ∧ (¬ (((w (v5 + (nI 1)).toNatClampNeg) >>> ((w (v4 + (nI 6)).toNatClampNeg) &&& 31)) &&& (nI 1)) = (nI 1) → s_X4_verdict_207 w C off dear v1 v2 v3 v4 v5 v6))))
set_option maxRecDepth 100000 in
set_option maxHeartbeats 4000000 in
theorem e_X4_verdict_167 {G : ng_GG} {M : ng_AM} {k : Nat} {a : Nat} {dv : Value} {w : Nat → Int32} {C : Nat → Int32} {off : Nat → Int32} {dear : Nat → Int32} {proved : Nat → Int32} (V : ng_RW M k a dv w C off dear proved)   {v1 : Int32} {v2 : Int32} {v3 : Int32} {v4 : Int32} {v5 : Int32} {v6 : Int32} (h : s_X4_verdict_167  w C off dear v1 v2 v3 v4 v5 v6)  : ng_Ev G md_X4_verdict 167 [some (.ref k), some (.int v1), some (.int v2), some (.int v3), some (.int v4), some (.int v5), some (.int v6), none, none, none, none] [] (M) (K_X4_verdict M (f_X4_verdict_167  w C off dear v1 v2 v3 v4 v5 v6)) := by
  unfold s_X4_verdict_167 at h
  unfold f_X4_verdict_167
  refine ev_aload_n dX4_verdict_167 rfl rfl rfl ?_
  refine ev_get 4 0 fl_RX4_11 (RW_gk V) rfl dX4_verdict_168 ?_
  refine ev_iload dX4_verdict_171 rfl ?_
  refine ev_iconst (v := nI 1) dX4_verdict_173 (by decide) ?_
  refine ev_iadd dX4_verdict_174 ?_
  have hi175 := h.1
  replace h := h.2
  refine ev_iald (RW_ga V) hi175 dX4_verdict_175 ?_
  refine ev_aload_n dX4_verdict_176 rfl rfl rfl ?_
  refine ev_get 4 0 fl_RX4_11 (RW_gk V) rfl dX4_verdict_177 ?_
  refine ev_iload dX4_verdict_180 rfl ?_
  refine ev_bipush (v := nI 6) dX4_verdict_182 (by decide) ?_
  refine ev_iadd dX4_verdict_184 ?_
  have hi185 := h.1
  replace h := h.2
  refine ev_iald (RW_ga V) hi185 dX4_verdict_185 ?_
  refine ev_ishr dX4_verdict_186 ?_
  refine ev_iconst (v := nI 1) dX4_verdict_187 (by decide) ?_
  refine ev_iand dX4_verdict_188 ?_
  refine ev_iconst (v := nI 1) dX4_verdict_189 (by decide) ?_
  refine bk_icmp_ne (tgt := 207) dX4_verdict_190 (by decide) (fun c190 => ?_) (fun c190 => ?_)
  · replace h := h.2 c190
    exact ev_sub (e_X4_verdict_207 V h) (sub_s (sub_s (sub_s (sub_s (sub_s (sub_s (sub_s (sub_n (sub_n (sub_n (sub_n sub_e)))))))))))
  · replace h := h.1 c190
    refine ev_aload_n dX4_verdict_193 rfl rfl rfl ?_
    refine ev_get 4 1 fl_RX4_15 (RW_gk V) rfl dX4_verdict_194 ?_
    refine ev_iconst (v := nI 3) dX4_verdict_197 (by decide) ?_
    refine bk_callV (As := [.int (nI 3)]) (st := []) (st2 := [.int (f_X2_on C (nI 3))]) (M2 := M) ok_X2_on lk_RX4_127 (ng_rok.of rfl rfl) (RW_g1 V) rfl rfl rfl rfl rfl rfl dX4_verdict_198 (m_X2_on (RW_RS V) trivial) rfl rfl ?_
    refine bk_if_eq (tgt := 207) dX4_verdict_201 (by decide) (fun c201 => ?_) (fun c201 => ?_)
    · replace h := h c201
      exact ev_sub (e_X4_verdict_207 V h) (sub_s (sub_s (sub_s (sub_s (sub_s (sub_s (sub_s (sub_n (sub_n (sub_n (sub_n sub_e)))))))))))
    · refine ev_bipush (v := nI 6) dX4_verdict_204 (by decide) ?_
      exact ev_iret rfl rfl dX4_verdict_206
def f_X4_verdict_132  (w : Nat → Int32) (C : Nat → Int32) (off : Nat → Int32) (dear : Nat → Int32) (v1 : Int32) (v2 : Int32) (v3 : Int32) (v4 : Int32) (v5 : Int32) (v6 : Int32) : Int32 := (if v6 < ((w (v4 + (nI 5)).toNatClampNeg) + (C 2)) then f_X4_verdict_167 w C off dear v1 v2 v3 v4 v5 v6 else (if (f_X2_on C (nI 1)) = 0 then f_X4_verdict_167 w C off dear v1 v2 v3 v4 v5 v6 else nI 5))
def s_X4_verdict_132  (w : Nat → Int32) (C : Nat → Int32) (off : Nat → Int32) (dear : Nat → Int32) (v1 : Int32) (v2 : Int32) (v3 : Int32) (v4 : Int32) (v5 : Int32) (v6 : Int32) : Prop := (vp_in (v4 + (nI 5)) 494 ∧ ((v6 < ((w (v4 + (nI 5)).toNatClampNeg) + (C 2)) → s_X4_verdict_167 w C off dear v1 v2 v3 v4 v5 v6) ∧ (¬ v6 < ((w (v4 + (nI 5)).toNatClampNeg) + (C 2)) → ((f_X2_on C (nI 1)) = 0 → s_X4_verdict_167 w C off dear v1 v2 v3 v4 v5 v6))))
set_option maxRecDepth 100000 in
set_option maxHeartbeats 4000000 in
theorem e_X4_verdict_132 {G : ng_GG} {M : ng_AM} {k : Nat} {a : Nat} {dv : Value} {w : Nat → Int32} {C : Nat → Int32} {off : Nat → Int32} {dear : Nat → Int32} {proved : Nat → Int32} (V : ng_RW M k a dv w C off dear proved)   {v1 : Int32} {v2 : Int32} {v3 : Int32} {v4 : Int32} {v5 : Int32} {v6 : Int32} (h : s_X4_verdict_132  w C off dear v1 v2 v3 v4 v5 v6)  : ng_Ev G md_X4_verdict 132 [some (.ref k), some (.int v1), some (.int v2), some (.int v3), some (.int v4), some (.int v5), some (.int v6), none, none, none, none] [] (M) (K_X4_verdict M (f_X4_verdict_132  w C off dear v1 v2 v3 v4 v5 v6)) := by
  unfold s_X4_verdict_132 at h
  unfold f_X4_verdict_132
  refine ev_iload dX4_verdict_132 rfl ?_
  refine ev_aload_n dX4_verdict_134 rfl rfl rfl ?_
  refine ev_get 4 0 fl_RX4_11 (RW_gk V) rfl dX4_verdict_135 ?_
  refine ev_iload dX4_verdict_138 rfl ?_
  refine ev_iconst (v := nI 5) dX4_verdict_140 (by decide) ?_
  refine ev_iadd dX4_verdict_141 ?_
  have hi142 := h.1
  replace h := h.2
  refine ev_iald (RW_ga V) hi142 dX4_verdict_142 ?_
  refine ev_aload_n dX4_verdict_143 rfl rfl rfl ?_
  refine ev_get 4 1 fl_RX4_15 (RW_gk V) rfl dX4_verdict_144 ?_
  refine ev_get 2 2 fl_RX4_151 (RW_g1 V) rfl dX4_verdict_147 ?_
  refine ev_iadd dX4_verdict_150 ?_
  refine bk_icmp_lt (tgt := 167) dX4_verdict_151 (by decide) (fun c151 => ?_) (fun c151 => ?_)
  · replace h := h.1 c151
    exact ev_sub (e_X4_verdict_167 V h) (sub_s (sub_s (sub_s (sub_s (sub_s (sub_s (sub_s (sub_n (sub_n (sub_n (sub_n sub_e)))))))))))
  · replace h := h.2 c151
    refine ev_aload_n dX4_verdict_154 rfl rfl rfl ?_
    refine ev_get 4 1 fl_RX4_15 (RW_gk V) rfl dX4_verdict_155 ?_
    refine ev_iconst (v := nI 1) dX4_verdict_158 (by decide) ?_
    refine bk_callV (As := [.int (nI 1)]) (st := []) (st2 := [.int (f_X2_on C (nI 1))]) (M2 := M) ok_X2_on lk_RX4_127 (ng_rok.of rfl rfl) (RW_g1 V) rfl rfl rfl rfl rfl rfl dX4_verdict_159 (m_X2_on (RW_RS V) trivial) rfl rfl ?_
    refine bk_if_eq (tgt := 167) dX4_verdict_162 (by decide) (fun c162 => ?_) (fun c162 => ?_)
    · replace h := h c162
      exact ev_sub (e_X4_verdict_167 V h) (sub_s (sub_s (sub_s (sub_s (sub_s (sub_s (sub_s (sub_n (sub_n (sub_n (sub_n sub_e)))))))))))
    · refine ev_iconst (v := nI 5) dX4_verdict_165 (by decide) ?_
      exact ev_iret rfl rfl dX4_verdict_166
def f_X4_verdict_97  (w : Nat → Int32) (C : Nat → Int32) (off : Nat → Int32) (dear : Nat → Int32) (v1 : Int32) (v2 : Int32) (v3 : Int32) (v4 : Int32) (v5 : Int32) (v6 : Int32) : Int32 := (if ((w (v4 + (nI 4)).toNatClampNeg) - (C 2)) ≤ v6 then f_X4_verdict_132 w C off dear v1 v2 v3 v4 v5 v6 else (if (f_X2_on C (nI 1)) = 0 then f_X4_verdict_132 w C off dear v1 v2 v3 v4 v5 v6 else nI 4))
def s_X4_verdict_97  (w : Nat → Int32) (C : Nat → Int32) (off : Nat → Int32) (dear : Nat → Int32) (v1 : Int32) (v2 : Int32) (v3 : Int32) (v4 : Int32) (v5 : Int32) (v6 : Int32) : Prop := (vp_in (v4 + (nI 4)) 494 ∧ ((((w (v4 + (nI 4)).toNatClampNeg) - (C 2)) ≤ v6 → s_X4_verdict_132 w C off dear v1 v2 v3 v4 v5 v6) ∧ (¬ ((w (v4 + (nI 4)).toNatClampNeg) - (C 2)) ≤ v6 → ((f_X2_on C (nI 1)) = 0 → s_X4_verdict_132 w C off dear v1 v2 v3 v4 v5 v6))))
set_option maxRecDepth 100000 in
set_option maxHeartbeats 4000000 in
theorem e_X4_verdict_97 {G : ng_GG} {M : ng_AM} {k : Nat} {a : Nat} {dv : Value} {w : Nat → Int32} {C : Nat → Int32} {off : Nat → Int32} {dear : Nat → Int32} {proved : Nat → Int32} (V : ng_RW M k a dv w C off dear proved)   {v1 : Int32} {v2 : Int32} {v3 : Int32} {v4 : Int32} {v5 : Int32} {v6 : Int32} (h : s_X4_verdict_97  w C off dear v1 v2 v3 v4 v5 v6)  : ng_Ev G md_X4_verdict 97 [some (.ref k), some (.int v1), some (.int v2), some (.int v3), some (.int v4), some (.int v5), some (.int v6), none, none, none, none] [] (M) (K_X4_verdict M (f_X4_verdict_97  w C off dear v1 v2 v3 v4 v5 v6)) := by
  unfold s_X4_verdict_97 at h
  unfold f_X4_verdict_97
  refine ev_iload dX4_verdict_97 rfl ?_
  refine ev_aload_n dX4_verdict_99 rfl rfl rfl ?_
  refine ev_get 4 0 fl_RX4_11 (RW_gk V) rfl dX4_verdict_100 ?_
  refine ev_iload dX4_verdict_103 rfl ?_
  refine ev_iconst (v := nI 4) dX4_verdict_105 (by decide) ?_
  refine ev_iadd dX4_verdict_106 ?_
  have hi107 := h.1
  replace h := h.2
  refine ev_iald (RW_ga V) hi107 dX4_verdict_107 ?_
  refine ev_aload_n dX4_verdict_108 rfl rfl rfl ?_
  refine ev_get 4 1 fl_RX4_15 (RW_gk V) rfl dX4_verdict_109 ?_
  refine ev_get 2 2 fl_RX4_151 (RW_g1 V) rfl dX4_verdict_112 ?_
  refine ev_isub dX4_verdict_115 ?_
  refine bk_icmp_ge (tgt := 132) dX4_verdict_116 (by decide) (fun c116 => ?_) (fun c116 => ?_)
  · replace h := h.1 c116
    exact ev_sub (e_X4_verdict_132 V h) (sub_s (sub_s (sub_s (sub_s (sub_s (sub_s (sub_s (sub_n (sub_n (sub_n (sub_n sub_e)))))))))))
  · replace h := h.2 c116
    refine ev_aload_n dX4_verdict_119 rfl rfl rfl ?_
    refine ev_get 4 1 fl_RX4_15 (RW_gk V) rfl dX4_verdict_120 ?_
    refine ev_iconst (v := nI 1) dX4_verdict_123 (by decide) ?_
    refine bk_callV (As := [.int (nI 1)]) (st := []) (st2 := [.int (f_X2_on C (nI 1))]) (M2 := M) ok_X2_on lk_RX4_127 (ng_rok.of rfl rfl) (RW_g1 V) rfl rfl rfl rfl rfl rfl dX4_verdict_124 (m_X2_on (RW_RS V) trivial) rfl rfl ?_
    refine bk_if_eq (tgt := 132) dX4_verdict_127 (by decide) (fun c127 => ?_) (fun c127 => ?_)
    · replace h := h c127
      exact ev_sub (e_X4_verdict_132 V h) (sub_s (sub_s (sub_s (sub_s (sub_s (sub_s (sub_s (sub_n (sub_n (sub_n (sub_n sub_e)))))))))))
    · refine ev_iconst (v := nI 4) dX4_verdict_130 (by decide) ?_
      exact ev_iret rfl rfl dX4_verdict_131
def f_X4_verdict  (w : Nat → Int32) (C : Nat → Int32) (off : Nat → Int32) (dear : Nat → Int32) (v1 : Int32) (v2 : Int32) (v3 : Int32) : Int32 := (if (f_X2_isIn C v1) = 0 then nI 1 else (if (f_X4_isNote w v2) = 0 then nI 1 else (if (w (((nI 142) + (v2 * (nI 11))) + (nI 0)).toNatClampNeg) = (nI 1) then nI 2 else (if (w (((nI 142) + (v2 * (nI 11))) + (nI 2)).toNatClampNeg) = v1 then f_X4_verdict_97 w C off dear v1 v2 v3 ((nI 142) + (v2 * (nI 11))) ((nI 4) + (v1 * (nI 3))) ((w (nI 0).toNatClampNeg) + (off v1.toNatClampNeg)) else (if (f_X2_on C (nI 0)) = 0 then f_X4_verdict_97 w C off dear v1 v2 v3 ((nI 142) + (v2 * (nI 11))) ((nI 4) + (v1 * (nI 3))) ((w (nI 0).toNatClampNeg) + (off v1.toNatClampNeg)) else nI 3)))))
def s_X4_verdict  (w : Nat → Int32) (C : Nat → Int32) (off : Nat → Int32) (dear : Nat → Int32) (v1 : Int32) (v2 : Int32) (v3 : Int32) : Prop := (¬ (f_X2_isIn C v1) = 0 → (¬ (f_X4_isNote w v2) = 0 → (vp_in v1 4 ∧ (vp_in (((nI 142) + (v2 * (nI 11))) + (nI 0)) 494 ∧ (¬ (w (((nI 142) + (v2 * (nI 11))) + (nI 0)).toNatClampNeg) = (nI 1) → (vp_in (((nI 142) + (v2 * (nI 11))) + (nI 2)) 494 ∧ (((w (((nI 142) + (v2 * (nI 11))) + (nI 2)).toNatClampNeg) = v1 → s_X4_verdict_97 w C off dear v1 v2 v3 ((nI 142) + (v2 * (nI 11))) ((nI 4) + (v1 * (nI 3))) ((w (nI 0).toNatClampNeg) + (off v1.toNatClampNeg))) ∧ (¬ (w (((nI 142) + (v2 * (nI 11))) + (nI 2)).toNatClampNeg) = v1 → ((f_X2_on C (nI 0)) = 0 → s_X4_verdict_97 w C off dear v1 v2 v3 ((nI 142) + (v2 * (nI 11))) ((nI 4) + (v1 * (nI 3))) ((w (nI 0).toNatClampNeg) + (off v1.toNatClampNeg)))))))))))
set_option maxRecDepth 100000 in
set_option maxHeartbeats 4000000 in
theorem e_X4_verdict {G : ng_GG} {M : ng_AM} {k : Nat} {a : Nat} {dv : Value} {w : Nat → Int32} {C : Nat → Int32} {off : Nat → Int32} {dear : Nat → Int32} {proved : Nat → Int32} (V : ng_RW M k a dv w C off dear proved)   {v1 : Int32} {v2 : Int32} {v3 : Int32} (h : s_X4_verdict  w C off dear v1 v2 v3)  : ng_Ev G md_X4_verdict 0 [some (.ref k), some (.int v1), some (.int v2), some (.int v3), none, none, none, none, none, none, none] [] (M) (K_X4_verdict M (f_X4_verdict  w C off dear v1 v2 v3)) := by
  unfold s_X4_verdict at h
  unfold f_X4_verdict
  refine ev_aload_n dX4_verdict_0 rfl rfl rfl ?_
  refine ev_get 4 1 fl_RX4_15 (RW_gk V) rfl dX4_verdict_1 ?_
  refine ev_iload_n dX4_verdict_4 rfl rfl ?_
  refine bk_callV (As := [.int v1]) (st := []) (st2 := [.int (f_X2_isIn C v1)]) (M2 := M) ok_X2_isIn lk_RX4_92 (ng_rok.of rfl rfl) (RW_g1 V) rfl rfl rfl rfl rfl rfl dX4_verdict_5 (m_X2_isIn (RW_RS V) trivial) rfl rfl ?_
  refine bk_if_eq (tgt := 19) dX4_verdict_8 (by decide) (fun c8 => ?_) (fun c8 => ?_)
  · refine ev_iconst (v := nI 1) dX4_verdict_19 (by decide) ?_
    exact ev_iret rfl rfl dX4_verdict_20
  · replace h := h c8
    refine ev_aload_n dX4_verdict_11 rfl rfl rfl ?_
    refine ev_iload_n dX4_verdict_12 rfl rfl ?_
    refine bk_callV (As := [.int v2]) (st := []) (st2 := [.int (f_X4_isNote w v2)]) (M2 := M) ok_X4_isNote lk_RX4_23 (ng_rok.of rfl rfl) (RW_gk V) rfl rfl rfl rfl rfl rfl dX4_verdict_13 (m_X4_isNote V trivial) rfl rfl ?_
    refine bk_if_ne (tgt := 21) dX4_verdict_16 (by decide) (fun c16 => ?_) (fun c16 => ?_)
    · replace h := h c16
      refine ev_sipush (v := nI 142) dX4_verdict_21 (by decide) ?_
      refine ev_iload_n dX4_verdict_24 rfl rfl ?_
      refine ev_bipush (v := nI 11) dX4_verdict_25 (by decide) ?_
      refine ev_imul dX4_verdict_27 ?_
      refine ev_iadd dX4_verdict_28 ?_
      refine ev_istore (L' := [some (.ref k), some (.int v1), some (.int v2), some (.int v3), some (.int ((nI 142) + (v2 * (nI 11)))), none, none, none, none, none, none]) dX4_verdict_29 (ng_lt rfl) rfl ?_
      refine ev_iconst (v := nI 4) dX4_verdict_31 (by decide) ?_
      refine ev_iload_n dX4_verdict_32 rfl rfl ?_
      refine ev_iconst (v := nI 3) dX4_verdict_33 (by decide) ?_
      refine ev_imul dX4_verdict_34 ?_
      refine ev_iadd dX4_verdict_35 ?_
      refine ev_istore (L' := [some (.ref k), some (.int v1), some (.int v2), some (.int v3), some (.int ((nI 142) + (v2 * (nI 11)))), some (.int ((nI 4) + (v1 * (nI 3)))), none, none, none, none, none]) dX4_verdict_36 (ng_lt rfl) rfl ?_
      refine ev_aload_n dX4_verdict_38 rfl rfl rfl ?_
      refine ev_get 4 0 fl_RX4_11 (RW_gk V) rfl dX4_verdict_39 ?_
      refine ev_iconst (v := nI 0) dX4_verdict_42 (by decide) ?_
      refine ev_iald (RW_ga V) (vp_in_nI (by decide) (by decide)) dX4_verdict_43 ?_
      refine ev_aload_n dX4_verdict_44 rfl rfl rfl ?_
      refine ev_get 4 1 fl_RX4_15 (RW_gk V) rfl dX4_verdict_45 ?_
      refine ev_get 2 14 fl_RX4_148 (RW_g1 V) rfl dX4_verdict_48 ?_
      refine ev_iload_n dX4_verdict_51 rfl rfl ?_
      have hi52 := h.1
      replace h := h.2
      refine ev_iald (RW_g2 V) hi52 dX4_verdict_52 ?_
      refine ev_iadd dX4_verdict_53 ?_
      refine ev_istore (L' := [some (.ref k), some (.int v1), some (.int v2), some (.int v3), some (.int ((nI 142) + (v2 * (nI 11)))), some (.int ((nI 4) + (v1 * (nI 3)))), some (.int ((w (nI 0).toNatClampNeg) + (off v1.toNatClampNeg))), none, none, none, none]) dX4_verdict_54 (ng_lt rfl) rfl ?_
      refine ev_aload_n dX4_verdict_56 rfl rfl rfl ?_
      refine ev_get 4 0 fl_RX4_11 (RW_gk V) rfl dX4_verdict_57 ?_
      refine ev_iload dX4_verdict_60 rfl ?_
      refine ev_iconst (v := nI 0) dX4_verdict_62 (by decide) ?_
      refine ev_iadd dX4_verdict_63 ?_
      have hi64 := h.1
      replace h := h.2
      refine ev_iald (RW_ga V) hi64 dX4_verdict_64 ?_
      refine ev_iconst (v := nI 1) dX4_verdict_65 (by decide) ?_
      refine bk_icmp_ne (tgt := 71) dX4_verdict_66 (by decide) (fun c66 => ?_) (fun c66 => ?_)
      · replace h := h c66
        refine ev_aload_n dX4_verdict_71 rfl rfl rfl ?_
        refine ev_get 4 0 fl_RX4_11 (RW_gk V) rfl dX4_verdict_72 ?_
        refine ev_iload dX4_verdict_75 rfl ?_
        refine ev_iconst (v := nI 2) dX4_verdict_77 (by decide) ?_
        refine ev_iadd dX4_verdict_78 ?_
        have hi79 := h.1
        replace h := h.2
        refine ev_iald (RW_ga V) hi79 dX4_verdict_79 ?_
        refine ev_iload_n dX4_verdict_80 rfl rfl ?_
        refine bk_icmp_eq (tgt := 97) dX4_verdict_81 (by decide) (fun c81 => ?_) (fun c81 => ?_)
        · replace h := h.1 c81
          exact ev_sub (e_X4_verdict_97 V h) (sub_s (sub_s (sub_s (sub_s (sub_s (sub_s (sub_s (sub_n (sub_n (sub_n (sub_n sub_e)))))))))))
        · replace h := h.2 c81
          refine ev_aload_n dX4_verdict_84 rfl rfl rfl ?_
          refine ev_get 4 1 fl_RX4_15 (RW_gk V) rfl dX4_verdict_85 ?_
          refine ev_iconst (v := nI 0) dX4_verdict_88 (by decide) ?_
          refine bk_callV (As := [.int (nI 0)]) (st := []) (st2 := [.int (f_X2_on C (nI 0))]) (M2 := M) ok_X2_on lk_RX4_127 (ng_rok.of rfl rfl) (RW_g1 V) rfl rfl rfl rfl rfl rfl dX4_verdict_89 (m_X2_on (RW_RS V) trivial) rfl rfl ?_
          refine bk_if_eq (tgt := 97) dX4_verdict_92 (by decide) (fun c92 => ?_) (fun c92 => ?_)
          · replace h := h c92
            exact ev_sub (e_X4_verdict_97 V h) (sub_s (sub_s (sub_s (sub_s (sub_s (sub_s (sub_s (sub_n (sub_n (sub_n (sub_n sub_e)))))))))))
          · refine ev_iconst (v := nI 3) dX4_verdict_95 (by decide) ?_
            exact ev_iret rfl rfl dX4_verdict_96
      · refine ev_iconst (v := nI 2) dX4_verdict_69 (by decide) ?_
        exact ev_iret rfl rfl dX4_verdict_70
    · refine ev_iconst (v := nI 1) dX4_verdict_19 (by decide) ?_
      exact ev_iret rfl rfl dX4_verdict_20
theorem m_X4_verdict {G : ng_GG} {M : ng_AM} {k : Nat} {a : Nat} {dv : Value} {w : Nat → Int32} {C : Nat → Int32} {off : Nat → Int32} {dear : Nat → Int32} {proved : Nat → Int32} (V : ng_RW M k a dv w C off dear proved)  {v1 : Int32} {v2 : Int32} {v3 : Int32} (h : s_X4_verdict w C off dear v1 v2 v3)  : ng_Ev G md_X4_verdict 0 (ng_en 11 [.ref k, .int v1, .int v2, .int v3]) [] (M) (K_X4_verdict M (f_X4_verdict w C off dear v1 v2 v3)) := e_X4_verdict V h 
def K_X4_isGoodForKeeper (M : ng_AM) (r : Int32) : ng_RR := (some (.int (r)), M)
def f_X4_isGoodForKeeper_83  (w : Nat → Int32) (C : Nat → Int32) (v2 : Int32) (t0 : Int32) : Int32 := (if t0 = 0 then nI 0 else (if (w (v2 + (nI 5)).toNatClampNeg) ≤ (w (nI 0).toNatClampNeg) then nI 0 else nI 1))
def s_X4_isGoodForKeeper_83  (w : Nat → Int32) (C : Nat → Int32) (v2 : Int32) (t0 : Int32) : Prop := (¬ t0 = 0 → vp_in (v2 + (nI 5)) 494)
set_option maxRecDepth 100000 in
set_option maxHeartbeats 4000000 in
theorem e_X4_isGoodForKeeper_83 {G : ng_GG} {M : ng_AM} {k : Nat} {a : Nat} {dv : Value} {w : Nat → Int32} {C : Nat → Int32} {off : Nat → Int32} {dear : Nat → Int32} {proved : Nat → Int32} (V : ng_RW M k a dv w C off dear proved)   {v2 : Int32} {t0 : Int32} (h : s_X4_isGoodForKeeper_83  w C v2 t0)  : ng_Ev G md_X4_isGoodForKeeper 83 [some (.ref k), none, some (.int v2), none, none] [.int t0] (M) (K_X4_isGoodForKeeper M (f_X4_isGoodForKeeper_83  w C v2 t0)) := by
  unfold s_X4_isGoodForKeeper_83 at h
  unfold f_X4_isGoodForKeeper_83
  refine ev_istore (L' := [some (.ref k), none, some (.int v2), none, some (.int t0)]) dX4_isGoodForKeeper_83 (ng_lt rfl) rfl ?_
  refine ev_iload dX4_isGoodForKeeper_85 rfl ?_
  refine bk_if_eq (tgt := 111) dX4_isGoodForKeeper_87 (by decide) (fun c87 => ?_) (fun c87 => ?_)
  · refine ev_iconst (v := nI 0) dX4_isGoodForKeeper_111 (by decide) ?_
    exact ev_iret rfl (by decide) dX4_isGoodForKeeper_112
  · replace h := h c87
    refine ev_aload_n dX4_isGoodForKeeper_90 rfl rfl rfl ?_
    refine ev_get 4 0 fl_RX4_11 (RW_gk V) rfl dX4_isGoodForKeeper_91 ?_
    refine ev_iconst (v := nI 0) dX4_isGoodForKeeper_94 (by decide) ?_
    refine ev_iald (RW_ga V) (vp_in_nI (by decide) (by decide)) dX4_isGoodForKeeper_95 ?_
    refine ev_aload_n dX4_isGoodForKeeper_96 rfl rfl rfl ?_
    refine ev_get 4 0 fl_RX4_11 (RW_gk V) rfl dX4_isGoodForKeeper_97 ?_
    refine ev_iload_n dX4_isGoodForKeeper_100 rfl rfl ?_
    refine ev_iconst (v := nI 5) dX4_isGoodForKeeper_101 (by decide) ?_
    refine ev_iadd dX4_isGoodForKeeper_102 ?_
    have hi103 := h
    refine ev_iald (RW_ga V) hi103 dX4_isGoodForKeeper_103 ?_
    refine bk_icmp_ge (tgt := 111) dX4_isGoodForKeeper_104 (by decide) (fun c104 => ?_) (fun c104 => ?_)
    · refine ev_iconst (v := nI 0) dX4_isGoodForKeeper_111 (by decide) ?_
      exact ev_iret rfl (by decide) dX4_isGoodForKeeper_112
    · refine ev_iconst (v := nI 1) dX4_isGoodForKeeper_107 (by decide) ?_
      refine ev_goto (tgt := 112) dX4_isGoodForKeeper_108 (by decide) ?_
      exact ev_iret rfl (by decide) dX4_isGoodForKeeper_112
def f_X4_isGoodForKeeper_82  (w : Nat → Int32) (C : Nat → Int32) (v2 : Int32) : Int32 := f_X4_isGoodForKeeper_83 w C v2 (nI 0)
def s_X4_isGoodForKeeper_82  (w : Nat → Int32) (C : Nat → Int32) (v2 : Int32) : Prop := s_X4_isGoodForKeeper_83 w C v2 (nI 0)
set_option maxRecDepth 100000 in
set_option maxHeartbeats 4000000 in
theorem e_X4_isGoodForKeeper_82 {G : ng_GG} {M : ng_AM} {k : Nat} {a : Nat} {dv : Value} {w : Nat → Int32} {C : Nat → Int32} {off : Nat → Int32} {dear : Nat → Int32} {proved : Nat → Int32} (V : ng_RW M k a dv w C off dear proved)   {v2 : Int32} (h : s_X4_isGoodForKeeper_82  w C v2)  : ng_Ev G md_X4_isGoodForKeeper 82 [some (.ref k), none, some (.int v2), none, none] [] (M) (K_X4_isGoodForKeeper M (f_X4_isGoodForKeeper_82  w C v2)) := by
  unfold s_X4_isGoodForKeeper_82 at h
  unfold f_X4_isGoodForKeeper_82
  refine ev_iconst (v := nI 0) dX4_isGoodForKeeper_82 (by decide) ?_
  exact ev_sub (e_X4_isGoodForKeeper_83 V h) (sub_s (sub_n (sub_s (sub_n (sub_n sub_e)))))
def f_X4_isGoodForKeeper  (w : Nat → Int32) (C : Nat → Int32) (v1 : Int32) : Int32 := (if (C 9) = 0 then nI 0 else (if v1 < 0 then nI 0 else (if (w (nI 1).toNatClampNeg) ≤ v1 then nI 0 else (if v1 < (nI 32) then (if (w (((nI 142) + (v1 * (nI 11))) + (nI 6)).toNatClampNeg) < 0 then f_X4_isGoodForKeeper_82 w C ((nI 142) + (v1 * (nI 11))) else (if (nI 16) ≤ (w (((nI 142) + (v1 * (nI 11))) + (nI 6)).toNatClampNeg) then f_X4_isGoodForKeeper_82 w C ((nI 142) + (v1 * (nI 11))) else (if (w (((nI 26) + ((w (((nI 142) + (v1 * (nI 11))) + (nI 6)).toNatClampNeg) * (nI 2))) + (nI 1)).toNatClampNeg) = (-1) then f_X4_isGoodForKeeper_83 w C ((nI 142) + (v1 * (nI 11))) (nI 1) else f_X4_isGoodForKeeper_82 w C ((nI 142) + (v1 * (nI 11)))))) else nI 0))))
def s_X4_isGoodForKeeper  (w : Nat → Int32) (C : Nat → Int32) (v1 : Int32) : Prop := (¬ (C 9) = 0 → (¬ v1 < 0 → (¬ (w (nI 1).toNatClampNeg) ≤ v1 → (v1 < (nI 32) → (vp_in (((nI 142) + (v1 * (nI 11))) + (nI 6)) 494 ∧ (((w (((nI 142) + (v1 * (nI 11))) + (nI 6)).toNatClampNeg) < 0 → s_X4_isGoodForKeeper_82 w C ((nI 142) + (v1 * (nI 11)))) ∧ (¬ (w (((nI 142) + (v1 * (nI 11))) + (nI 6)).toNatClampNeg) < 0 → (((nI 16) ≤ (w (((nI 142) + (v1 * (nI 11))) + (nI 6)).toNatClampNeg) → s_X4_isGoodForKeeper_82 w C ((nI 142) + (v1 * (nI 11)))) ∧ (¬ (nI 16) ≤ (w (((nI 142) + (v1 * (nI 11))) + (nI 6)).toNatClampNeg) → (vp_in (((nI 26) + ((w (((nI 142) + (v1 * (nI 11))) + (nI 6)).toNatClampNeg) * (nI 2))) + (nI 1)) 494 ∧ (((w (((nI 26) + ((w (((nI 142) + (v1 * (nI 11))) + (nI 6)).toNatClampNeg) * (nI 2))) + (nI 1)).toNatClampNeg) = (-1) → s_X4_isGoodForKeeper_83 w C ((nI 142) + (v1 * (nI 11))) (nI 1)) ∧ (¬ (w (((nI 26) + ((w (((nI 142) + (v1 * (nI 11))) + (nI 6)).toNatClampNeg) * (nI 2))) + (nI 1)).toNatClampNeg) = (-1) → s_X4_isGoodForKeeper_82 w C ((nI 142) + (v1 * (nI 11)))))))))))))))
set_option maxRecDepth 100000 in
set_option maxHeartbeats 4000000 in
theorem e_X4_isGoodForKeeper {G : ng_GG} {M : ng_AM} {k : Nat} {a : Nat} {dv : Value} {w : Nat → Int32} {C : Nat → Int32} {off : Nat → Int32} {dear : Nat → Int32} {proved : Nat → Int32} (V : ng_RW M k a dv w C off dear proved)   {v1 : Int32} (h : s_X4_isGoodForKeeper  w C v1)  : ng_Ev G md_X4_isGoodForKeeper 0 [some (.ref k), some (.int v1), none, none, none] [] (M) (K_X4_isGoodForKeeper M (f_X4_isGoodForKeeper  w C v1)) := by
  unfold s_X4_isGoodForKeeper at h
  unfold f_X4_isGoodForKeeper
  refine ev_aload_n dX4_isGoodForKeeper_0 rfl rfl rfl ?_
  refine ev_get 4 1 fl_RX4_15 (RW_gk V) rfl dX4_isGoodForKeeper_1 ?_
  refine ev_get 2 9 fl_RX4_88 (RW_g1 V) rfl dX4_isGoodForKeeper_4 ?_
  refine bk_if_eq (tgt := 30) dX4_isGoodForKeeper_7 (by decide) (fun c7 => ?_) (fun c7 => ?_)
  · refine ev_iconst (v := nI 0) dX4_isGoodForKeeper_30 (by decide) ?_
    exact ev_iret rfl (by decide) dX4_isGoodForKeeper_31
  · replace h := h c7
    refine ev_iload_n dX4_isGoodForKeeper_10 rfl rfl ?_
    refine bk_if_lt (tgt := 30) dX4_isGoodForKeeper_11 (by decide) (fun c11 => ?_) (fun c11 => ?_)
    · refine ev_iconst (v := nI 0) dX4_isGoodForKeeper_30 (by decide) ?_
      exact ev_iret rfl (by decide) dX4_isGoodForKeeper_31
    · replace h := h c11
      refine ev_iload_n dX4_isGoodForKeeper_14 rfl rfl ?_
      refine ev_aload_n dX4_isGoodForKeeper_15 rfl rfl rfl ?_
      refine ev_get 4 0 fl_RX4_11 (RW_gk V) rfl dX4_isGoodForKeeper_16 ?_
      refine ev_iconst (v := nI 1) dX4_isGoodForKeeper_19 (by decide) ?_
      refine ev_iald (RW_ga V) (vp_in_nI (by decide) (by decide)) dX4_isGoodForKeeper_20 ?_
      refine bk_icmp_ge (tgt := 30) dX4_isGoodForKeeper_21 (by decide) (fun c21 => ?_) (fun c21 => ?_)
      · refine ev_iconst (v := nI 0) dX4_isGoodForKeeper_30 (by decide) ?_
        exact ev_iret rfl (by decide) dX4_isGoodForKeeper_31
      · replace h := h c21
        refine ev_iload_n dX4_isGoodForKeeper_24 rfl rfl ?_
        refine ev_bipush (v := nI 32) dX4_isGoodForKeeper_25 (by decide) ?_
        refine bk_icmp_lt (tgt := 32) dX4_isGoodForKeeper_27 (by decide) (fun c27 => ?_) (fun c27 => ?_)
        · replace h := h c27
          refine ev_sipush (v := nI 142) dX4_isGoodForKeeper_32 (by decide) ?_
          refine ev_iload_n dX4_isGoodForKeeper_35 rfl rfl ?_
          refine ev_bipush (v := nI 11) dX4_isGoodForKeeper_36 (by decide) ?_
          refine ev_imul dX4_isGoodForKeeper_38 ?_
          refine ev_iadd dX4_isGoodForKeeper_39 ?_
          refine ev_istore_n (L' := [some (.ref k), some (.int v1), some (.int ((nI 142) + (v1 * (nI 11)))), none, none]) dX4_isGoodForKeeper_40 rfl (ng_lt rfl) rfl ?_
          refine ev_aload_n dX4_isGoodForKeeper_41 rfl rfl rfl ?_
          refine ev_get 4 0 fl_RX4_11 (RW_gk V) rfl dX4_isGoodForKeeper_42 ?_
          refine ev_iload_n dX4_isGoodForKeeper_45 rfl rfl ?_
          refine ev_bipush (v := nI 6) dX4_isGoodForKeeper_46 (by decide) ?_
          refine ev_iadd dX4_isGoodForKeeper_48 ?_
          have hi49 := h.1
          replace h := h.2
          refine ev_iald (RW_ga V) hi49 dX4_isGoodForKeeper_49 ?_
          refine ev_istore_n (L' := [some (.ref k), some (.int v1), some (.int ((nI 142) + (v1 * (nI 11)))), some (.int (w (((nI 142) + (v1 * (nI 11))) + (nI 6)).toNatClampNeg)), none]) dX4_isGoodForKeeper_50 rfl (ng_lt rfl) rfl ?_
          refine ev_iload_n dX4_isGoodForKeeper_51 rfl rfl ?_
          refine bk_if_lt (tgt := 82) dX4_isGoodForKeeper_52 (by decide) (fun c52 => ?_) (fun c52 => ?_)
          · replace h := h.1 c52
            exact ev_sub (e_X4_isGoodForKeeper_82 V h) (sub_s (sub_n (sub_s (sub_n (sub_n sub_e)))))
          · replace h := h.2 c52
            refine ev_iload_n dX4_isGoodForKeeper_55 rfl rfl ?_
            refine ev_bipush (v := nI 16) dX4_isGoodForKeeper_56 (by decide) ?_
            refine bk_icmp_ge (tgt := 82) dX4_isGoodForKeeper_58 (by decide) (fun c58 => ?_) (fun c58 => ?_)
            · replace h := h.1 c58
              exact ev_sub (e_X4_isGoodForKeeper_82 V h) (sub_s (sub_n (sub_s (sub_n (sub_n sub_e)))))
            · replace h := h.2 c58
              refine ev_aload_n dX4_isGoodForKeeper_61 rfl rfl rfl ?_
              refine ev_get 4 0 fl_RX4_11 (RW_gk V) rfl dX4_isGoodForKeeper_62 ?_
              refine ev_bipush (v := nI 26) dX4_isGoodForKeeper_65 (by decide) ?_
              refine ev_iload_n dX4_isGoodForKeeper_67 rfl rfl ?_
              refine ev_iconst (v := nI 2) dX4_isGoodForKeeper_68 (by decide) ?_
              refine ev_imul dX4_isGoodForKeeper_69 ?_
              refine ev_iadd dX4_isGoodForKeeper_70 ?_
              refine ev_iconst (v := nI 1) dX4_isGoodForKeeper_71 (by decide) ?_
              refine ev_iadd dX4_isGoodForKeeper_72 ?_
              have hi73 := h.1
              replace h := h.2
              refine ev_iald (RW_ga V) hi73 dX4_isGoodForKeeper_73 ?_
              refine ev_iconst (v := (-1)) dX4_isGoodForKeeper_74 (by decide) ?_
              refine bk_icmp_ne (tgt := 82) dX4_isGoodForKeeper_75 (by decide) (fun c75 => ?_) (fun c75 => ?_)
              · replace h := h.2 c75
                exact ev_sub (e_X4_isGoodForKeeper_82 V h) (sub_s (sub_n (sub_s (sub_n (sub_n sub_e)))))
              · replace h := h.1 c75
                refine ev_iconst (v := nI 1) dX4_isGoodForKeeper_78 (by decide) ?_
                refine ev_goto (tgt := 83) dX4_isGoodForKeeper_79 (by decide) ?_
                exact ev_sub (e_X4_isGoodForKeeper_83 V h) (sub_s (sub_n (sub_s (sub_n (sub_n sub_e)))))
        · refine ev_iconst (v := nI 0) dX4_isGoodForKeeper_30 (by decide) ?_
          exact ev_iret rfl (by decide) dX4_isGoodForKeeper_31
theorem m_X4_isGoodForKeeper {G : ng_GG} {M : ng_AM} {k : Nat} {a : Nat} {dv : Value} {w : Nat → Int32} {C : Nat → Int32} {off : Nat → Int32} {dear : Nat → Int32} {proved : Nat → Int32} (V : ng_RW M k a dv w C off dear proved)  {v1 : Int32} (h : s_X4_isGoodForKeeper w C v1)  : ng_Ev G md_X4_isGoodForKeeper 0 (ng_en 5 [.ref k, .int v1]) [] (M) (K_X4_isGoodForKeeper M (f_X4_isGoodForKeeper w C v1)) := e_X4_isGoodForKeeper V h 
def K_X4_mixed (M : ng_AM) (r : Int32) : ng_RR := (some (.int (r)), M)
def f_X4_mixed_6  : Nat → (Nat → Int32) → Int32 → Int32 → Int32 → (Int32)
  | 0, _, _, _, _ => 0
  | n + 1, w, v3, v4, v5 => (if v3 ≤ v5 then v4 else (if (nI 494) ≤ v5 then v4 else f_X4_mixed_6 n w v3 ((v4 * (nI 31)) + (w v5.toNatClampNeg)) (v5 + nI 1)))
def s_X4_mixed_6  : Nat → (Nat → Int32) → Int32 → Int32 → Int32 → Prop
  | 0, _, _, _, _ => False
  | n + 1, w, v3, v4, v5 => (¬ v3 ≤ v5 → (¬ (nI 494) ≤ v5 → (vp_in v5 494 ∧ s_X4_mixed_6 n w v3 ((v4 * (nI 31)) + (w v5.toNatClampNeg)) (v5 + nI 1))))
set_option maxRecDepth 100000 in
set_option maxHeartbeats 4000000 in
theorem e_X4_mixed_6 {G : ng_GG} {M : ng_AM} {k : Nat} {a : Nat} {dv : Value} {w : Nat → Int32} {C : Nat → Int32} {off : Nat → Int32} {dear : Nat → Int32} {proved : Nat → Int32} (V : ng_RW M k a dv w C off dear proved)  : ∀ (n : Nat) (v3 : Int32) (v4 : Int32) (v5 : Int32), s_X4_mixed_6  n w v3 v4 v5 → ng_Ev G md_X4_mixed 6 [some (.ref k), none, none, some (.int v3), some (.int v4), some (.int v5)] [] (M) (K_X4_mixed M (f_X4_mixed_6  n w v3 v4 v5)) := by
  intro n
  induction n with
  | zero => intro  v3 v4 v5 h; exact False.elim h
  | succ n ih =>
    intro  v3 v4 v5 h 
    rw [s_X4_mixed_6] at h
    rw [f_X4_mixed_6]
    refine ev_iload dX4_mixed_6 rfl ?_
    refine ev_iload_n dX4_mixed_8 rfl rfl ?_
    refine bk_icmp_ge (tgt := 41) dX4_mixed_9 (by decide) (fun c9 => ?_) (fun c9 => ?_)
    · refine ev_iload dX4_mixed_41 rfl ?_
      exact ev_iret rfl rfl dX4_mixed_43
    · replace h := h c9
      refine ev_iload dX4_mixed_12 rfl ?_
      refine ev_sipush (v := nI 494) dX4_mixed_14 (by decide) ?_
      refine bk_icmp_ge (tgt := 41) dX4_mixed_17 (by decide) (fun c17 => ?_) (fun c17 => ?_)
      · refine ev_iload dX4_mixed_41 rfl ?_
        exact ev_iret rfl rfl dX4_mixed_43
      · replace h := h c17
        refine ev_iload dX4_mixed_20 rfl ?_
        refine ev_bipush (v := nI 31) dX4_mixed_22 (by decide) ?_
        refine ev_imul dX4_mixed_24 ?_
        refine ev_aload_n dX4_mixed_25 rfl rfl rfl ?_
        refine ev_get 4 0 fl_RX4_11 (RW_gk V) rfl dX4_mixed_26 ?_
        refine ev_iload dX4_mixed_29 rfl ?_
        have hi31 := h.1
        replace h := h.2
        refine ev_iald (RW_ga V) hi31 dX4_mixed_31 ?_
        refine ev_iadd dX4_mixed_32 ?_
        refine ev_istore (L' := [some (.ref k), none, none, some (.int v3), some (.int ((v4 * (nI 31)) + (w v5.toNatClampNeg))), some (.int v5)]) dX4_mixed_33 (ng_lt rfl) rfl ?_
        refine ev_iinc (v := v5 + nI 1) (L' := [some (.ref k), none, none, some (.int v3), some (.int ((v4 * (nI 31)) + (w v5.toNatClampNeg))), some (.int (v5 + nI 1))]) dX4_mixed_35 rfl (by rfl) rfl ?_
        refine ev_goto (tgt := 6) dX4_mixed_38 (by decide) ?_
        exact ev_sub (ih v3 ((v4 * (nI 31)) + (w v5.toNatClampNeg)) (v5 + nI 1) h) (sub_s (sub_n (sub_n (sub_s (sub_s (sub_s sub_e))))))
def f_X4_mixed  (w : Nat → Int32) (v1 : Int32) (v2 : Int32) (v3 : Int32) : Int32 := f_X4_mixed_6 ng_F w v3 v1 v2
def s_X4_mixed  (w : Nat → Int32) (v1 : Int32) (v2 : Int32) (v3 : Int32) : Prop := s_X4_mixed_6 ng_F w v3 v1 v2
set_option maxRecDepth 100000 in
set_option maxHeartbeats 4000000 in
theorem e_X4_mixed {G : ng_GG} {M : ng_AM} {k : Nat} {a : Nat} {dv : Value} {w : Nat → Int32} {C : Nat → Int32} {off : Nat → Int32} {dear : Nat → Int32} {proved : Nat → Int32} (V : ng_RW M k a dv w C off dear proved)   {v1 : Int32} {v2 : Int32} {v3 : Int32} (h : s_X4_mixed  w v1 v2 v3)  : ng_Ev G md_X4_mixed 0 [some (.ref k), some (.int v1), some (.int v2), some (.int v3), none, none] [] (M) (K_X4_mixed M (f_X4_mixed  w v1 v2 v3)) := by
  unfold s_X4_mixed at h
  unfold f_X4_mixed
  refine ev_iload_n dX4_mixed_0 rfl rfl ?_
  refine ev_istore (L' := [some (.ref k), some (.int v1), some (.int v2), some (.int v3), some (.int v1), none]) dX4_mixed_1 (ng_lt rfl) rfl ?_
  refine ev_iload_n dX4_mixed_3 rfl rfl ?_
  refine ev_istore (L' := [some (.ref k), some (.int v1), some (.int v2), some (.int v3), some (.int v1), some (.int v2)]) dX4_mixed_4 (ng_lt rfl) rfl ?_
  exact ev_sub (e_X4_mixed_6 V ng_F v3 v1 v2 h) (sub_s (sub_n (sub_n (sub_s (sub_s (sub_s sub_e))))))
theorem m_X4_mixed {G : ng_GG} {M : ng_AM} {k : Nat} {a : Nat} {dv : Value} {w : Nat → Int32} {C : Nat → Int32} {off : Nat → Int32} {dear : Nat → Int32} {proved : Nat → Int32} (V : ng_RW M k a dv w C off dear proved)  {v1 : Int32} {v2 : Int32} {v3 : Int32} (h : s_X4_mixed w v1 v2 v3)  : ng_Ev G md_X4_mixed 0 (ng_en 6 [.ref k, .int v1, .int v2, .int v3]) [] (M) (K_X4_mixed M (f_X4_mixed w v1 v2 v3)) := e_X4_mixed V h 
def K_X4_mark (M : ng_AM) (r : Int32) : ng_RR := (some (.int (r)), M)
def f_X4_mark_98  (w : Nat → Int32) (v1 : Int32) : Int32 := (v1 ^^^ ((v1.toUInt32 >>> ((nI 15).toUInt32 &&& Int32.toUInt32 31)).toInt32))
def s_X4_mark_98  (w : Nat → Int32) (v1 : Int32) : Prop := True
set_option maxRecDepth 100000 in
set_option maxHeartbeats 4000000 in
theorem e_X4_mark_98 {G : ng_GG} {M : ng_AM} {k : Nat} {a : Nat} {dv : Value} {w : Nat → Int32} {C : Nat → Int32} {off : Nat → Int32} {dear : Nat → Int32} {proved : Nat → Int32} (V : ng_RW M k a dv w C off dear proved)   {v1 : Int32} (h : s_X4_mark_98  w v1)  : ng_Ev G md_X4_mark 98 [none, some (.int v1), none, none] [] (M) (K_X4_mark M (f_X4_mark_98  w v1)) := by
  unfold s_X4_mark_98 at h
  unfold f_X4_mark_98
  refine ev_iload_n dX4_mark_98 rfl rfl ?_
  refine ev_iload_n dX4_mark_99 rfl rfl ?_
  refine ev_bipush (v := nI 15) dX4_mark_100 (by decide) ?_
  refine ev_iushr dX4_mark_102 ?_
  refine ev_ixor dX4_mark_103 ?_
  exact ev_iret rfl rfl dX4_mark_104
def f_X4_mark_40  : Nat → (Nat → Int32) → Int32 → Int32 → (Int32)
  | 0, _, _, _ => 0
  | n + 1, w, v1, v2 => (if (w (nI 1).toNatClampNeg) ≤ v2 then f_X4_mark_98 w v1 else (if (nI 32) ≤ v2 then f_X4_mark_98 w v1 else f_X4_mark_40 n w ((v1 * (nI 31)) + (((w (((nI 142) + (v2 * (nI 11))) + (nI 10)).toNatClampNeg) <<< ((nI 1) &&& 31)) ||| (w (((nI 142) + (v2 * (nI 11))) + (nI 9)).toNatClampNeg))) (v2 + nI 1)))
def s_X4_mark_40  : Nat → (Nat → Int32) → Int32 → Int32 → Prop
  | 0, _, _, _ => False
  | n + 1, w, v1, v2 => (((w (nI 1).toNatClampNeg) ≤ v2 → s_X4_mark_98 w v1) ∧ (¬ (w (nI 1).toNatClampNeg) ≤ v2 → (((nI 32) ≤ v2 → s_X4_mark_98 w v1) ∧ (¬ (nI 32) ≤ v2 → (vp_in (((nI 142) + (v2 * (nI 11))) + (nI 10)) 494 ∧ (vp_in (((nI 142) + (v2 * (nI 11))) + (nI 9)) 494 ∧ s_X4_mark_40 n w ((v1 * (nI 31)) + (((w (((nI 142) + (v2 * (nI 11))) + (nI 10)).toNatClampNeg) <<< ((nI 1) &&& 31)) ||| (w (((nI 142) + (v2 * (nI 11))) + (nI 9)).toNatClampNeg))) (v2 + nI 1)))))))
set_option maxRecDepth 100000 in
set_option maxHeartbeats 4000000 in
theorem e_X4_mark_40 {G : ng_GG} {M : ng_AM} {k : Nat} {a : Nat} {dv : Value} {w : Nat → Int32} {C : Nat → Int32} {off : Nat → Int32} {dear : Nat → Int32} {proved : Nat → Int32} (V : ng_RW M k a dv w C off dear proved)  : ∀ (n : Nat) (v1 : Int32) (v2 : Int32), s_X4_mark_40  n w v1 v2 → ng_Ev G md_X4_mark 40 [some (.ref k), some (.int v1), some (.int v2), none] [] (M) (K_X4_mark M (f_X4_mark_40  n w v1 v2)) := by
  intro n
  induction n with
  | zero => intro  v1 v2 h; exact False.elim h
  | succ n ih =>
    intro  v1 v2 h 
    rw [s_X4_mark_40] at h
    rw [f_X4_mark_40]
    refine ev_iload_n dX4_mark_40 rfl rfl ?_
    refine ev_aload_n dX4_mark_41 rfl rfl rfl ?_
    refine ev_get 4 0 fl_RX4_11 (RW_gk V) rfl dX4_mark_42 ?_
    refine ev_iconst (v := nI 1) dX4_mark_45 (by decide) ?_
    refine ev_iald (RW_ga V) (vp_in_nI (by decide) (by decide)) dX4_mark_46 ?_
    refine bk_icmp_ge (tgt := 98) dX4_mark_47 (by decide) (fun c47 => ?_) (fun c47 => ?_)
    · replace h := h.1 c47
      exact ev_sub (e_X4_mark_98 V h) (sub_n (sub_s (sub_n (sub_n sub_e))))
    · replace h := h.2 c47
      refine ev_iload_n dX4_mark_50 rfl rfl ?_
      refine ev_bipush (v := nI 32) dX4_mark_51 (by decide) ?_
      refine bk_icmp_ge (tgt := 98) dX4_mark_53 (by decide) (fun c53 => ?_) (fun c53 => ?_)
      · replace h := h.1 c53
        exact ev_sub (e_X4_mark_98 V h) (sub_n (sub_s (sub_n (sub_n sub_e))))
      · replace h := h.2 c53
        refine ev_sipush (v := nI 142) dX4_mark_56 (by decide) ?_
        refine ev_iload_n dX4_mark_59 rfl rfl ?_
        refine ev_bipush (v := nI 11) dX4_mark_60 (by decide) ?_
        refine ev_imul dX4_mark_62 ?_
        refine ev_iadd dX4_mark_63 ?_
        refine ev_istore_n (L' := [some (.ref k), some (.int v1), some (.int v2), some (.int ((nI 142) + (v2 * (nI 11))))]) dX4_mark_64 rfl (ng_lt rfl) rfl ?_
        refine ev_iload_n dX4_mark_65 rfl rfl ?_
        refine ev_bipush (v := nI 31) dX4_mark_66 (by decide) ?_
        refine ev_imul dX4_mark_68 ?_
        refine ev_aload_n dX4_mark_69 rfl rfl rfl ?_
        refine ev_get 4 0 fl_RX4_11 (RW_gk V) rfl dX4_mark_70 ?_
        refine ev_iload_n dX4_mark_73 rfl rfl ?_
        refine ev_bipush (v := nI 10) dX4_mark_74 (by decide) ?_
        refine ev_iadd dX4_mark_76 ?_
        have hi77 := h.1
        replace h := h.2
        refine ev_iald (RW_ga V) hi77 dX4_mark_77 ?_
        refine ev_iconst (v := nI 1) dX4_mark_78 (by decide) ?_
        refine ev_ishl dX4_mark_79 ?_
        refine ev_aload_n dX4_mark_80 rfl rfl rfl ?_
        refine ev_get 4 0 fl_RX4_11 (RW_gk V) rfl dX4_mark_81 ?_
        refine ev_iload_n dX4_mark_84 rfl rfl ?_
        refine ev_bipush (v := nI 9) dX4_mark_85 (by decide) ?_
        refine ev_iadd dX4_mark_87 ?_
        have hi88 := h.1
        replace h := h.2
        refine ev_iald (RW_ga V) hi88 dX4_mark_88 ?_
        refine ev_ior dX4_mark_89 ?_
        refine ev_iadd dX4_mark_90 ?_
        refine ev_istore_n (L' := [some (.ref k), some (.int ((v1 * (nI 31)) + (((w (((nI 142) + (v2 * (nI 11))) + (nI 10)).toNatClampNeg) <<< ((nI 1) &&& 31)) ||| (w (((nI 142) + (v2 * (nI 11))) + (nI 9)).toNatClampNeg)))), some (.int v2), some (.int ((nI 142) + (v2 * (nI 11))))]) dX4_mark_91 rfl (ng_lt rfl) rfl ?_
        refine ev_iinc (v := v2 + nI 1) (L' := [some (.ref k), some (.int ((v1 * (nI 31)) + (((w (((nI 142) + (v2 * (nI 11))) + (nI 10)).toNatClampNeg) <<< ((nI 1) &&& 31)) ||| (w (((nI 142) + (v2 * (nI 11))) + (nI 9)).toNatClampNeg)))), some (.int (v2 + nI 1)), some (.int ((nI 142) + (v2 * (nI 11))))]) dX4_mark_92 rfl (by rfl) rfl ?_
        refine ev_goto (tgt := 40) dX4_mark_95 (by decide) ?_
        exact ev_sub (ih ((v1 * (nI 31)) + (((w (((nI 142) + (v2 * (nI 11))) + (nI 10)).toNatClampNeg) <<< ((nI 1) &&& 31)) ||| (w (((nI 142) + (v2 * (nI 11))) + (nI 9)).toNatClampNeg))) (v2 + nI 1) h) (sub_s (sub_s (sub_s (sub_n sub_e))))
def f_X4_mark  (w : Nat → Int32)  : Int32 := f_X4_mark_40 ng_F w (f_X4_mixed w (f_X4_mixed w (nI 1) (nI 0) ((nI 26) + ((w (nI 2).toNatClampNeg) * (nI 2)))) (nI 58) ((nI 58) + ((w (nI 3).toNatClampNeg) * (nI 7)))) (nI 0)
def s_X4_mark  (w : Nat → Int32)  : Prop := (s_X4_mixed w (nI 1) (nI 0) ((nI 26) + ((w (nI 2).toNatClampNeg) * (nI 2))) ∧ (s_X4_mixed w (f_X4_mixed w (nI 1) (nI 0) ((nI 26) + ((w (nI 2).toNatClampNeg) * (nI 2)))) (nI 58) ((nI 58) + ((w (nI 3).toNatClampNeg) * (nI 7))) ∧ s_X4_mark_40 ng_F w (f_X4_mixed w (f_X4_mixed w (nI 1) (nI 0) ((nI 26) + ((w (nI 2).toNatClampNeg) * (nI 2)))) (nI 58) ((nI 58) + ((w (nI 3).toNatClampNeg) * (nI 7)))) (nI 0)))
set_option maxRecDepth 100000 in
set_option maxHeartbeats 4000000 in
theorem e_X4_mark {G : ng_GG} {M : ng_AM} {k : Nat} {a : Nat} {dv : Value} {w : Nat → Int32} {C : Nat → Int32} {off : Nat → Int32} {dear : Nat → Int32} {proved : Nat → Int32} (V : ng_RW M k a dv w C off dear proved)    (h : s_X4_mark  w)  : ng_Ev G md_X4_mark 0 [some (.ref k), none, none, none] [] (M) (K_X4_mark M (f_X4_mark  w)) := by
  unfold s_X4_mark at h
  unfold f_X4_mark
  refine ev_aload_n dX4_mark_0 rfl rfl rfl ?_
  refine ev_iconst (v := nI 1) dX4_mark_1 (by decide) ?_
  refine ev_iconst (v := nI 0) dX4_mark_2 (by decide) ?_
  refine ev_bipush (v := nI 26) dX4_mark_3 (by decide) ?_
  refine ev_aload_n dX4_mark_5 rfl rfl rfl ?_
  refine ev_get 4 0 fl_RX4_11 (RW_gk V) rfl dX4_mark_6 ?_
  refine ev_iconst (v := nI 2) dX4_mark_9 (by decide) ?_
  refine ev_iald (RW_ga V) (vp_in_nI (by decide) (by decide)) dX4_mark_10 ?_
  refine ev_iconst (v := nI 2) dX4_mark_11 (by decide) ?_
  refine ev_imul dX4_mark_12 ?_
  refine ev_iadd dX4_mark_13 ?_
  have hs14 := h.1
  replace h := h.2
  refine bk_callV (As := [.int (nI 1), .int (nI 0), .int ((nI 26) + ((w (nI 2).toNatClampNeg) * (nI 2)))]) (st := []) (st2 := [.int (f_X4_mixed w (nI 1) (nI 0) ((nI 26) + ((w (nI 2).toNatClampNeg) * (nI 2))))]) (M2 := M) ok_X4_mixed lk_RX4_181 (ng_rok.of rfl rfl) (RW_gk V) rfl rfl rfl rfl rfl rfl dX4_mark_14 (m_X4_mixed V hs14) rfl rfl ?_
  refine ev_istore_n (L' := [some (.ref k), some (.int (f_X4_mixed w (nI 1) (nI 0) ((nI 26) + ((w (nI 2).toNatClampNeg) * (nI 2))))), none, none]) dX4_mark_17 rfl (ng_lt rfl) rfl ?_
  refine ev_aload_n dX4_mark_18 rfl rfl rfl ?_
  refine ev_iload_n dX4_mark_19 rfl rfl ?_
  refine ev_bipush (v := nI 58) dX4_mark_20 (by decide) ?_
  refine ev_bipush (v := nI 58) dX4_mark_22 (by decide) ?_
  refine ev_aload_n dX4_mark_24 rfl rfl rfl ?_
  refine ev_get 4 0 fl_RX4_11 (RW_gk V) rfl dX4_mark_25 ?_
  refine ev_iconst (v := nI 3) dX4_mark_28 (by decide) ?_
  refine ev_iald (RW_ga V) (vp_in_nI (by decide) (by decide)) dX4_mark_29 ?_
  refine ev_bipush (v := nI 7) dX4_mark_30 (by decide) ?_
  refine ev_imul dX4_mark_32 ?_
  refine ev_iadd dX4_mark_33 ?_
  have hs34 := h.1
  replace h := h.2
  refine bk_callV (As := [.int (f_X4_mixed w (nI 1) (nI 0) ((nI 26) + ((w (nI 2).toNatClampNeg) * (nI 2)))), .int (nI 58), .int ((nI 58) + ((w (nI 3).toNatClampNeg) * (nI 7)))]) (st := []) (st2 := [.int (f_X4_mixed w (f_X4_mixed w (nI 1) (nI 0) ((nI 26) + ((w (nI 2).toNatClampNeg) * (nI 2)))) (nI 58) ((nI 58) + ((w (nI 3).toNatClampNeg) * (nI 7))))]) (M2 := M) ok_X4_mixed lk_RX4_181 (ng_rok.of rfl rfl) (RW_gk V) rfl rfl rfl rfl rfl rfl dX4_mark_34 (m_X4_mixed V hs34) rfl rfl ?_
  refine ev_istore_n (L' := [some (.ref k), some (.int (f_X4_mixed w (f_X4_mixed w (nI 1) (nI 0) ((nI 26) + ((w (nI 2).toNatClampNeg) * (nI 2)))) (nI 58) ((nI 58) + ((w (nI 3).toNatClampNeg) * (nI 7))))), none, none]) dX4_mark_37 rfl (ng_lt rfl) rfl ?_
  refine ev_iconst (v := nI 0) dX4_mark_38 (by decide) ?_
  refine ev_istore_n (L' := [some (.ref k), some (.int (f_X4_mixed w (f_X4_mixed w (nI 1) (nI 0) ((nI 26) + ((w (nI 2).toNatClampNeg) * (nI 2)))) (nI 58) ((nI 58) + ((w (nI 3).toNatClampNeg) * (nI 7))))), some (.int (nI 0)), none]) dX4_mark_39 rfl (ng_lt rfl) rfl ?_
  exact ev_sub (e_X4_mark_40 V ng_F (f_X4_mixed w (f_X4_mixed w (nI 1) (nI 0) ((nI 26) + ((w (nI 2).toNatClampNeg) * (nI 2)))) (nI 58) ((nI 58) + ((w (nI 3).toNatClampNeg) * (nI 7)))) (nI 0) h) (sub_s (sub_s (sub_s (sub_n sub_e))))
theorem m_X4_mark {G : ng_GG} {M : ng_AM} {k : Nat} {a : Nat} {dv : Value} {w : Nat → Int32} {C : Nat → Int32} {off : Nat → Int32} {dear : Nat → Int32} {proved : Nat → Int32} (V : ng_RW M k a dv w C off dear proved)   (h : s_X4_mark w)  : ng_Ev G md_X4_mark 0 (ng_en 4 [.ref k]) [] (M) (K_X4_mark M (f_X4_mark w)) := e_X4_mark V h 
def K_X4_sameWords (M : ng_AM) (r : Int32) : ng_RR := (some (.int (r)), M)
def f_X4_sameWords_3  : Nat → (Nat → Int32) → (Nat → Int32) → Int32 → Int32 → (Int32)
  | 0, _, _, _, _ => 0
  | n + 1, w, w2, v3, v4 => (if v3 ≤ v4 then nI 1 else (if (nI 494) ≤ v4 then nI 1 else (if (w v4.toNatClampNeg) = (w2 v4.toNatClampNeg) then f_X4_sameWords_3 n w w2 v3 (v4 + nI 1) else nI 0)))
def s_X4_sameWords_3  : Nat → (Nat → Int32) → (Nat → Int32) → Int32 → Int32 → Prop
  | 0, _, _, _, _ => False
  | n + 1, w, w2, v3, v4 => (¬ v3 ≤ v4 → (¬ (nI 494) ≤ v4 → (vp_in v4 494 ∧ (vp_in v4 494 ∧ ((w v4.toNatClampNeg) = (w2 v4.toNatClampNeg) → s_X4_sameWords_3 n w w2 v3 (v4 + nI 1))))))
set_option maxRecDepth 100000 in
set_option maxHeartbeats 4000000 in
theorem e_X4_sameWords_3 {G : ng_GG} {M : ng_AM} {k : Nat} {a : Nat} {dv : Value} {k2 : Nat} {a2 : Nat} {dv2 : Value} {w : Nat → Int32} {w2 : Nat → Int32} (V : ng_R2 M k a dv k2 a2 dv2 w w2)  : ∀ (n : Nat) (v3 : Int32) (v4 : Int32), s_X4_sameWords_3  n w w2 v3 v4 → ng_Ev G md_X4_sameWords 3 [some (.ref k), some (.ref k2), none, some (.int v3), some (.int v4)] [] (M) (K_X4_sameWords M (f_X4_sameWords_3  n w w2 v3 v4)) := by
  intro n
  induction n with
  | zero => intro  v3 v4 h; exact False.elim h
  | succ n ih =>
    intro  v3 v4 h 
    rw [s_X4_sameWords_3] at h
    rw [f_X4_sameWords_3]
    refine ev_iload dX4_sameWords_3 rfl ?_
    refine ev_iload_n dX4_sameWords_5 rfl rfl ?_
    refine bk_icmp_ge (tgt := 42) dX4_sameWords_6 (by decide) (fun c6 => ?_) (fun c6 => ?_)
    · refine ev_iconst (v := nI 1) dX4_sameWords_42 (by decide) ?_
      exact ev_iret rfl (by decide) dX4_sameWords_43
    · replace h := h c6
      refine ev_iload dX4_sameWords_9 rfl ?_
      refine ev_sipush (v := nI 494) dX4_sameWords_11 (by decide) ?_
      refine bk_icmp_ge (tgt := 42) dX4_sameWords_14 (by decide) (fun c14 => ?_) (fun c14 => ?_)
      · refine ev_iconst (v := nI 1) dX4_sameWords_42 (by decide) ?_
        exact ev_iret rfl (by decide) dX4_sameWords_43
      · replace h := h c14
        refine ev_aload_n dX4_sameWords_17 rfl rfl rfl ?_
        refine ev_get 4 0 fl_RX4_11 (R2_gk V) rfl dX4_sameWords_18 ?_
        refine ev_iload dX4_sameWords_21 rfl ?_
        have hi23 := h.1
        replace h := h.2
        refine ev_iald (R2_ga V) hi23 dX4_sameWords_23 ?_
        refine ev_aload_n dX4_sameWords_24 rfl rfl rfl ?_
        refine ev_get 4 0 fl_RX4_11 (R2_gk2 V) rfl dX4_sameWords_25 ?_
        refine ev_iload dX4_sameWords_28 rfl ?_
        have hi30 := h.1
        replace h := h.2
        refine ev_iald (R2_ga2 V) hi30 dX4_sameWords_30 ?_
        refine bk_icmp_eq (tgt := 36) dX4_sameWords_31 (by decide) (fun c31 => ?_) (fun c31 => ?_)
        · replace h := h c31
          refine ev_iinc (v := v4 + nI 1) (L' := [some (.ref k), some (.ref k2), none, some (.int v3), some (.int (v4 + nI 1))]) dX4_sameWords_36 rfl (by rfl) rfl ?_
          refine ev_goto (tgt := 3) dX4_sameWords_39 (by decide) ?_
          exact ev_sub (ih v3 (v4 + nI 1) h) (sub_s (sub_s (sub_n (sub_s (sub_s sub_e)))))
        · refine ev_iconst (v := nI 0) dX4_sameWords_34 (by decide) ?_
          exact ev_iret rfl (by decide) dX4_sameWords_35
def f_X4_sameWords  (w : Nat → Int32) (w2 : Nat → Int32) (v2 : Int32) (v3 : Int32) : Int32 := f_X4_sameWords_3 ng_F w w2 v3 v2
def s_X4_sameWords  (w : Nat → Int32) (w2 : Nat → Int32) (v2 : Int32) (v3 : Int32) : Prop := s_X4_sameWords_3 ng_F w w2 v3 v2
set_option maxRecDepth 100000 in
set_option maxHeartbeats 4000000 in
theorem e_X4_sameWords {G : ng_GG} {M : ng_AM} {k : Nat} {a : Nat} {dv : Value} {k2 : Nat} {a2 : Nat} {dv2 : Value} {w : Nat → Int32} {w2 : Nat → Int32} (V : ng_R2 M k a dv k2 a2 dv2 w w2)   {v2 : Int32} {v3 : Int32} (h : s_X4_sameWords  w w2 v2 v3)  : ng_Ev G md_X4_sameWords 0 [some (.ref k), some (.ref k2), some (.int v2), some (.int v3), none] [] (M) (K_X4_sameWords M (f_X4_sameWords  w w2 v2 v3)) := by
  unfold s_X4_sameWords at h
  unfold f_X4_sameWords
  refine ev_iload_n dX4_sameWords_0 rfl rfl ?_
  refine ev_istore (L' := [some (.ref k), some (.ref k2), some (.int v2), some (.int v3), some (.int v2)]) dX4_sameWords_1 (ng_lt rfl) rfl ?_
  exact ev_sub (e_X4_sameWords_3 V ng_F v3 v2 h) (sub_s (sub_s (sub_n (sub_s (sub_s sub_e)))))
theorem m_X4_sameWords {G : ng_GG} {M : ng_AM} {k : Nat} {a : Nat} {dv : Value} {k2 : Nat} {a2 : Nat} {dv2 : Value} {w : Nat → Int32} {w2 : Nat → Int32} (V : ng_R2 M k a dv k2 a2 dv2 w w2)  {v2 : Int32} {v3 : Int32} (h : s_X4_sameWords w w2 v2 v3)  : ng_Ev G md_X4_sameWords 0 (ng_en 5 [.ref k, .ref k2, .int v2, .int v3]) [] (M) (K_X4_sameWords M (f_X4_sameWords w w2 v2 v3)) := e_X4_sameWords V h 
def K_X4_isLike (M : ng_AM) (r : Int32) : ng_RR := (some (.int (r)), M)
def f_X4_isLike  (w : Nat → Int32) (w2 : Nat → Int32)  : Int32 := (if (f_X4_sameWords w w2 (nI 0) ((nI 26) + ((w (nI 2).toNatClampNeg) * (nI 2)))) = 0 then nI 0 else (if (f_X4_sameWords w w2 (nI 58) ((nI 58) + ((w (nI 3).toNatClampNeg) * (nI 7)))) = 0 then nI 0 else (if (f_X4_sameWords w w2 (nI 142) ((nI 142) + ((w (nI 1).toNatClampNeg) * (nI 11)))) = 0 then nI 0 else nI 1)))
def s_X4_isLike  (w : Nat → Int32) (w2 : Nat → Int32)  : Prop := (s_X4_sameWords w w2 (nI 0) ((nI 26) + ((w (nI 2).toNatClampNeg) * (nI 2))) ∧ (¬ (f_X4_sameWords w w2 (nI 0) ((nI 26) + ((w (nI 2).toNatClampNeg) * (nI 2)))) = 0 → (s_X4_sameWords w w2 (nI 58) ((nI 58) + ((w (nI 3).toNatClampNeg) * (nI 7))) ∧ (¬ (f_X4_sameWords w w2 (nI 58) ((nI 58) + ((w (nI 3).toNatClampNeg) * (nI 7)))) = 0 → s_X4_sameWords w w2 (nI 142) ((nI 142) + ((w (nI 1).toNatClampNeg) * (nI 11)))))))
set_option maxRecDepth 100000 in
set_option maxHeartbeats 4000000 in
theorem e_X4_isLike {G : ng_GG} {M : ng_AM} {k : Nat} {a : Nat} {dv : Value} {k2 : Nat} {a2 : Nat} {dv2 : Value} {w : Nat → Int32} {w2 : Nat → Int32} (V : ng_R2 M k a dv k2 a2 dv2 w w2)    (h : s_X4_isLike  w w2)  : ng_Ev G md_X4_isLike 0 [some (.ref k), some (.ref k2)] [] (M) (K_X4_isLike M (f_X4_isLike  w w2)) := by
  unfold s_X4_isLike at h
  unfold f_X4_isLike
  refine ev_aload_n dX4_isLike_0 rfl rfl rfl ?_
  refine ev_aload_n dX4_isLike_1 rfl rfl rfl ?_
  refine ev_iconst (v := nI 0) dX4_isLike_2 (by decide) ?_
  refine ev_bipush (v := nI 26) dX4_isLike_3 (by decide) ?_
  refine ev_aload_n dX4_isLike_5 rfl rfl rfl ?_
  refine ev_get 4 0 fl_RX4_11 (R2_gk V) rfl dX4_isLike_6 ?_
  refine ev_iconst (v := nI 2) dX4_isLike_9 (by decide) ?_
  refine ev_iald (R2_ga V) (vp_in_nI (by decide) (by decide)) dX4_isLike_10 ?_
  refine ev_iconst (v := nI 2) dX4_isLike_11 (by decide) ?_
  refine ev_imul dX4_isLike_12 ?_
  refine ev_iadd dX4_isLike_13 ?_
  have hs14 := h.1
  replace h := h.2
  refine bk_callV (As := [.ref k2, .int (nI 0), .int ((nI 26) + ((w (nI 2).toNatClampNeg) * (nI 2)))]) (st := []) (st2 := [.int (f_X4_sameWords w w2 (nI 0) ((nI 26) + ((w (nI 2).toNatClampNeg) * (nI 2))))]) (M2 := M) ok_X4_sameWords lk_RX4_184 (ng_rok.of rfl rfl) (R2_gk V) rfl rfl rfl rfl rfl rfl dX4_isLike_14 (m_X4_sameWords V hs14) rfl rfl ?_
  refine bk_if_eq (tgt := 70) dX4_isLike_17 (by decide) (fun c17 => ?_) (fun c17 => ?_)
  · refine ev_iconst (v := nI 0) dX4_isLike_70 (by decide) ?_
    exact ev_iret rfl (by decide) dX4_isLike_71
  · replace h := h c17
    refine ev_aload_n dX4_isLike_20 rfl rfl rfl ?_
    refine ev_aload_n dX4_isLike_21 rfl rfl rfl ?_
    refine ev_bipush (v := nI 58) dX4_isLike_22 (by decide) ?_
    refine ev_bipush (v := nI 58) dX4_isLike_24 (by decide) ?_
    refine ev_aload_n dX4_isLike_26 rfl rfl rfl ?_
    refine ev_get 4 0 fl_RX4_11 (R2_gk V) rfl dX4_isLike_27 ?_
    refine ev_iconst (v := nI 3) dX4_isLike_30 (by decide) ?_
    refine ev_iald (R2_ga V) (vp_in_nI (by decide) (by decide)) dX4_isLike_31 ?_
    refine ev_bipush (v := nI 7) dX4_isLike_32 (by decide) ?_
    refine ev_imul dX4_isLike_34 ?_
    refine ev_iadd dX4_isLike_35 ?_
    have hs36 := h.1
    replace h := h.2
    refine bk_callV (As := [.ref k2, .int (nI 58), .int ((nI 58) + ((w (nI 3).toNatClampNeg) * (nI 7)))]) (st := []) (st2 := [.int (f_X4_sameWords w w2 (nI 58) ((nI 58) + ((w (nI 3).toNatClampNeg) * (nI 7))))]) (M2 := M) ok_X4_sameWords lk_RX4_184 (ng_rok.of rfl rfl) (R2_gk V) rfl rfl rfl rfl rfl rfl dX4_isLike_36 (m_X4_sameWords V hs36) rfl rfl ?_
    refine bk_if_eq (tgt := 70) dX4_isLike_39 (by decide) (fun c39 => ?_) (fun c39 => ?_)
    · refine ev_iconst (v := nI 0) dX4_isLike_70 (by decide) ?_
      exact ev_iret rfl (by decide) dX4_isLike_71
    · replace h := h c39
      refine ev_aload_n dX4_isLike_42 rfl rfl rfl ?_
      refine ev_aload_n dX4_isLike_43 rfl rfl rfl ?_
      refine ev_sipush (v := nI 142) dX4_isLike_44 (by decide) ?_
      refine ev_sipush (v := nI 142) dX4_isLike_47 (by decide) ?_
      refine ev_aload_n dX4_isLike_50 rfl rfl rfl ?_
      refine ev_get 4 0 fl_RX4_11 (R2_gk V) rfl dX4_isLike_51 ?_
      refine ev_iconst (v := nI 1) dX4_isLike_54 (by decide) ?_
      refine ev_iald (R2_ga V) (vp_in_nI (by decide) (by decide)) dX4_isLike_55 ?_
      refine ev_bipush (v := nI 11) dX4_isLike_56 (by decide) ?_
      refine ev_imul dX4_isLike_58 ?_
      refine ev_iadd dX4_isLike_59 ?_
      have hs60 := h
      refine bk_callV (As := [.ref k2, .int (nI 142), .int ((nI 142) + ((w (nI 1).toNatClampNeg) * (nI 11)))]) (st := []) (st2 := [.int (f_X4_sameWords w w2 (nI 142) ((nI 142) + ((w (nI 1).toNatClampNeg) * (nI 11))))]) (M2 := M) ok_X4_sameWords lk_RX4_184 (ng_rok.of rfl rfl) (R2_gk V) rfl rfl rfl rfl rfl rfl dX4_isLike_60 (m_X4_sameWords V hs60) rfl rfl ?_
      refine bk_if_eq (tgt := 70) dX4_isLike_63 (by decide) (fun c63 => ?_) (fun c63 => ?_)
      · refine ev_iconst (v := nI 0) dX4_isLike_70 (by decide) ?_
        exact ev_iret rfl (by decide) dX4_isLike_71
      · refine ev_iconst (v := nI 1) dX4_isLike_66 (by decide) ?_
        refine ev_goto (tgt := 71) dX4_isLike_67 (by decide) ?_
        exact ev_iret rfl (by decide) dX4_isLike_71
theorem m_X4_isLike {G : ng_GG} {M : ng_AM} {k : Nat} {a : Nat} {dv : Value} {k2 : Nat} {a2 : Nat} {dv2 : Value} {w : Nat → Int32} {w2 : Nat → Int32} (V : ng_R2 M k a dv k2 a2 dv2 w w2)   (h : s_X4_isLike w w2)  : ng_Ev G md_X4_isLike 0 (ng_en 2 [.ref k, .ref k2]) [] (M) (K_X4_isLike M (f_X4_isLike w w2)) := e_X4_isLike V h 
