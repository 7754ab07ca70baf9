def K_X6_in (M : ng_AM) (r : Int32) : ng_RR := (some (.int (r)), M)
def f_X6_in   (v0 : Int32) (v1 : Int32) (v2 : Int32) : Int32 := (if v0 < v1 then nI 0 else (if v2 < v0 then nI 0 else nI 1))
def s_X6_in   (v0 : Int32) (v1 : Int32) (v2 : Int32) : Prop := True
set_option maxRecDepth 100000 in
set_option maxHeartbeats 4000000 in
theorem e_X6_in {G : ng_GG} {M : ng_AM}   {v0 : Int32} {v1 : Int32} {v2 : Int32} (h : s_X6_in  v0 v1 v2)  : ng_Ev G md_X6_in 0 [some (.int v0), some (.int v1), some (.int v2)] [] (M) (K_X6_in M (f_X6_in  v0 v1 v2)) := by
  unfold s_X6_in at h
  unfold f_X6_in
  refine ev_iload_n dX6_in_0 rfl rfl ?_
  refine ev_iload_n dX6_in_1 rfl rfl ?_
  refine bk_icmp_lt (tgt := 14) dX6_in_2 (by decide) (fun c2 => ?_) (fun c2 => ?_)
  · refine ev_iconst (v := nI 0) dX6_in_14 (by decide) ?_
    exact ev_iret rfl (by decide) dX6_in_15
  · refine ev_iload_n dX6_in_5 rfl rfl ?_
    refine ev_iload_n dX6_in_6 rfl rfl ?_
    refine bk_icmp_gt (tgt := 14) dX6_in_7 (by decide) (fun c7 => ?_) (fun c7 => ?_)
    · refine ev_iconst (v := nI 0) dX6_in_14 (by decide) ?_
      exact ev_iret rfl (by decide) dX6_in_15
    · refine ev_iconst (v := nI 1) dX6_in_10 (by decide) ?_
      refine ev_goto (tgt := 15) dX6_in_11 (by decide) ?_
      exact ev_iret rfl (by decide) dX6_in_15
theorem m_X6_in {G : ng_GG} {M : ng_AM}  {v0 : Int32} {v1 : Int32} {v2 : Int32} (h : s_X6_in v0 v1 v2)  : ng_Ev G md_X6_in 0 (ng_en 3 [.int v0, .int v1, .int v2]) [] (M) (K_X6_in M (f_X6_in v0 v1 v2)) := e_X6_in  h 
def K_X6_house (M : ng_AM) (r : Int32) : ng_RR := (some (.int (r)), M)
def f_X6_house   (v0 : Int32) : Int32 := ((nI 16) + ((nI 7) * v0))
def s_X6_house   (v0 : Int32) : Prop := True
set_option maxRecDepth 100000 in
set_option maxHeartbeats 4000000 in
theorem e_X6_house {G : ng_GG} {M : ng_AM}   {v0 : Int32} (h : s_X6_house  v0)  : ng_Ev G md_X6_house 0 [some (.int v0)] [] (M) (K_X6_house M (f_X6_house  v0)) := by
  unfold s_X6_house at h
  unfold f_X6_house
  refine ev_bipush (v := nI 16) dX6_house_0 (by decide) ?_
  refine ev_bipush (v := nI 7) dX6_house_2 (by decide) ?_
  refine ev_iload_n dX6_house_4 rfl rfl ?_
  refine ev_imul dX6_house_5 ?_
  refine ev_iadd dX6_house_6 ?_
  exact ev_iret rfl rfl dX6_house_7
theorem m_X6_house {G : ng_GG} {M : ng_AM}  {v0 : Int32} (h : s_X6_house v0)  : ng_Ev G md_X6_house 0 (ng_en 1 [.int v0]) [] (M) (K_X6_house M (f_X6_house v0)) := e_X6_house  h 
def K_X6_browser (M : ng_AM) (r : Int32) : ng_RR := (some (.int (r)), M)
def f_X6_browser   (v0 : Int32) : Int32 := ((nI 44) + ((nI 3) * v0))
def s_X6_browser   (v0 : Int32) : Prop := True
set_option maxRecDepth 100000 in
set_option maxHeartbeats 4000000 in
theorem e_X6_browser {G : ng_GG} {M : ng_AM}   {v0 : Int32} (h : s_X6_browser  v0)  : ng_Ev G md_X6_browser 0 [some (.int v0)] [] (M) (K_X6_browser M (f_X6_browser  v0)) := by
  unfold s_X6_browser at h
  unfold f_X6_browser
  refine ev_bipush (v := nI 44) dX6_browser_0 (by decide) ?_
  refine ev_iconst (v := nI 3) dX6_browser_2 (by decide) ?_
  refine ev_iload_n dX6_browser_3 rfl rfl ?_
  refine ev_imul dX6_browser_4 ?_
  refine ev_iadd dX6_browser_5 ?_
  exact ev_iret rfl rfl dX6_browser_6
theorem m_X6_browser {G : ng_GG} {M : ng_AM}  {v0 : Int32} (h : s_X6_browser v0)  : ng_Ev G md_X6_browser 0 (ng_en 1 [.int v0]) [] (M) (K_X6_browser M (f_X6_browser v0)) := e_X6_browser  h 
def K_X6_note (M : ng_AM) (r : Int32) : ng_RR := (some (.int (r)), M)
def f_X6_note   (v0 : Int32) : Int32 := ((nI 59) + ((nI 11) * v0))
def s_X6_note   (v0 : Int32) : Prop := True
set_option maxRecDepth 100000 in
set_option maxHeartbeats 4000000 in
theorem e_X6_note {G : ng_GG} {M : ng_AM}   {v0 : Int32} (h : s_X6_note  v0)  : ng_Ev G md_X6_note 0 [some (.int v0)] [] (M) (K_X6_note M (f_X6_note  v0)) := by
  unfold s_X6_note at h
  unfold f_X6_note
  refine ev_bipush (v := nI 59) dX6_note_0 (by decide) ?_
  refine ev_bipush (v := nI 11) dX6_note_2 (by decide) ?_
  refine ev_iload_n dX6_note_4 rfl rfl ?_
  refine ev_imul dX6_note_5 ?_
  refine ev_iadd dX6_note_6 ?_
  exact ev_iret rfl rfl dX6_note_7
theorem m_X6_note {G : ng_GG} {M : ng_AM}  {v0 : Int32} (h : s_X6_note v0)  : ng_Ev G md_X6_note 0 (ng_en 1 [.int v0]) [] (M) (K_X6_note M (f_X6_note v0)) := e_X6_note  h 
def K_X6_family (M : ng_AM) (r : Int32) : ng_RR := (some (.int (r)), M)
def f_X6_family   (v0 : Int32) : Int32 := ((nI 411) + ((nI 2) * v0))
def s_X6_family   (v0 : Int32) : Prop := True
set_option maxRecDepth 100000 in
set_option maxHeartbeats 4000000 in
theorem e_X6_family {G : ng_GG} {M : ng_AM}   {v0 : Int32} (h : s_X6_family  v0)  : ng_Ev G md_X6_family 0 [some (.int v0)] [] (M) (K_X6_family M (f_X6_family  v0)) := by
  unfold s_X6_family at h
  unfold f_X6_family
  refine ev_sipush (v := nI 411) dX6_family_0 (by decide) ?_
  refine ev_iconst (v := nI 2) dX6_family_3 (by decide) ?_
  refine ev_iload_n dX6_family_4 rfl rfl ?_
  refine ev_imul dX6_family_5 ?_
  refine ev_iadd dX6_family_6 ?_
  exact ev_iret rfl rfl dX6_family_7
theorem m_X6_family {G : ng_GG} {M : ng_AM}  {v0 : Int32} (h : s_X6_family v0)  : ng_Ev G md_X6_family 0 (ng_en 1 [.int v0]) [] (M) (K_X6_family M (f_X6_family v0)) := e_X6_family  h 
def K_X6_letter (M : ng_AM) (r : Int32) : ng_RR := (some (.int (r)), M)
def f_X6_letter   (v0 : Int32) : Int32 := ((nI 443) + ((nI 7) * v0))
def s_X6_letter   (v0 : Int32) : Prop := True
set_option maxRecDepth 100000 in
set_option maxHeartbeats 4000000 in
theorem e_X6_letter {G : ng_GG} {M : ng_AM}   {v0 : Int32} (h : s_X6_letter  v0)  : ng_Ev G md_X6_letter 0 [some (.int v0)] [] (M) (K_X6_letter M (f_X6_letter  v0)) := by
  unfold s_X6_letter at h
  unfold f_X6_letter
  refine ev_sipush (v := nI 443) dX6_letter_0 (by decide) ?_
  refine ev_bipush (v := nI 7) dX6_letter_3 (by decide) ?_
  refine ev_iload_n dX6_letter_5 rfl rfl ?_
  refine ev_imul dX6_letter_6 ?_
  refine ev_iadd dX6_letter_7 ?_
  exact ev_iret rfl rfl dX6_letter_8
theorem m_X6_letter {G : ng_GG} {M : ng_AM}  {v0 : Int32} (h : s_X6_letter v0)  : ng_Ev G md_X6_letter 0 (ng_en 1 [.int v0]) [] (M) (K_X6_letter M (f_X6_letter v0)) := e_X6_letter  h 
def K_X6_isSlot (M : ng_AM) (r : Int32) : ng_RR := (some (.int (r)), M)
def f_X6_isSlot   (v0 : Int32) : Int32 := (f_X6_in v0 (nI 0) (nI 3))
def s_X6_isSlot   (v0 : Int32) : Prop := ((f_X6_in v0 (nI 0) (nI 3)) = 0 ∨ (f_X6_in v0 (nI 0) (nI 3)) = 1)
set_option maxRecDepth 100000 in
set_option maxHeartbeats 4000000 in
theorem e_X6_isSlot {G : ng_GG} {M : ng_AM}   {v0 : Int32} (h : s_X6_isSlot  v0)  : ng_Ev G md_X6_isSlot 0 [some (.int v0)] [] (M) (K_X6_isSlot M (f_X6_isSlot  v0)) := by
  unfold s_X6_isSlot at h
  unfold f_X6_isSlot
  refine ev_iload_n dX6_isSlot_0 rfl rfl ?_
  refine ev_iconst (v := nI 0) dX6_isSlot_1 (by decide) ?_
  refine ev_iconst (v := nI 3) dX6_isSlot_2 (by decide) ?_
  refine bk_callS (As := [.int v0, .int (nI 0), .int (nI 3)]) (st := []) (st2 := [.int (f_X6_in v0 (nI 0) (nI 3))]) (M2 := M) ok_X6_in lk_RX6_67 (ng_rok.of rfl rfl) rfl rfl rfl rfl dX6_isSlot_3 (m_X6_in trivial) rfl rfl ?_
  exact ev_iret rfl (ng_nz h) dX6_isSlot_6
theorem m_X6_isSlot {G : ng_GG} {M : ng_AM}  {v0 : Int32} (h : s_X6_isSlot v0)  : ng_Ev G md_X6_isSlot 0 (ng_en 1 [.int v0]) [] (M) (K_X6_isSlot M (f_X6_isSlot v0)) := e_X6_isSlot  h 
def K_X6_cut (M : ng_AM) (r : Int64) : ng_RR := (some (.long (r)), M)
def f_X6_cut   (v0 : Int32) (v1 : Int64) : Int64 := (if v0 = 0 then v1.toInt32.toInt8.toInt32.toInt64 else (if v0 = (nI 1) then v1.toInt32.toInt16.toInt32.toInt64 else (if v0 = (nI 2) then v1.toInt32.toInt64 else v1)))
def s_X6_cut   (v0 : Int32) (v1 : Int64) : Prop := True
set_option maxRecDepth 100000 in
set_option maxHeartbeats 4000000 in
theorem e_X6_cut {G : ng_GG} {M : ng_AM}   {v0 : Int32} {v1 : Int64} (h : s_X6_cut  v0 v1)  : ng_Ev G md_X6_cut 0 [some (.int v0), some (.long v1), none] [] (M) (K_X6_cut M (f_X6_cut  v0 v1)) := by
  unfold s_X6_cut at h
  unfold f_X6_cut
  refine ev_iload_n dX6_cut_0 rfl rfl ?_
  refine bk_if_ne (tgt := 11) dX6_cut_1 (by decide) (fun c1 => ?_) (fun c1 => ?_)
  · refine ev_iload_n dX6_cut_11 rfl rfl ?_
    refine ev_iconst (v := nI 1) dX6_cut_12 (by decide) ?_
    refine bk_icmp_ne (tgt := 23) dX6_cut_13 (by decide) (fun c13 => ?_) (fun c13 => ?_)
    · refine ev_iload_n dX6_cut_23 rfl rfl ?_
      refine ev_iconst (v := nI 2) dX6_cut_24 (by decide) ?_
      refine bk_icmp_ne (tgt := 34) dX6_cut_25 (by decide) (fun c25 => ?_) (fun c25 => ?_)
      · refine ev_lload_n dX6_cut_34 rfl rfl ?_
        exact ev_lret rfl dX6_cut_35
      · refine ev_lload_n dX6_cut_28 rfl rfl ?_
        refine ev_l2i dX6_cut_29 ?_
        refine ev_i2l dX6_cut_30 ?_
        refine ev_goto (tgt := 35) dX6_cut_31 (by decide) ?_
        exact ev_lret rfl dX6_cut_35
    · refine ev_lload_n dX6_cut_16 rfl rfl ?_
      refine ev_l2i dX6_cut_17 ?_
      refine ev_i2s dX6_cut_18 ?_
      refine ev_i2l dX6_cut_19 ?_
      refine ev_goto (tgt := 35) dX6_cut_20 (by decide) ?_
      exact ev_lret rfl dX6_cut_35
  · refine ev_lload_n dX6_cut_4 rfl rfl ?_
    refine ev_l2i dX6_cut_5 ?_
    refine ev_i2b dX6_cut_6 ?_
    refine ev_i2l dX6_cut_7 ?_
    refine ev_goto (tgt := 35) dX6_cut_8 (by decide) ?_
    exact ev_lret rfl dX6_cut_35
theorem m_X6_cut {G : ng_GG} {M : ng_AM}  {v0 : Int32} {v1 : Int64} (h : s_X6_cut v0 v1)  : ng_Ev G md_X6_cut 0 (ng_en 3 [.int v0, .long v1]) [] (M) (K_X6_cut M (f_X6_cut v0 v1)) := e_X6_cut  h 
def K_X6_isInt (M : ng_AM) (r : Int32) : ng_RR := (some (.int (r)), M)
def f_X6_isInt   (v0 : Int64) : Int32 := (if (lg_cmp v0 v0.toInt32.toInt64) = 0 then nI 1 else nI 0)
def s_X6_isInt   (v0 : Int64) : Prop := True
set_option maxRecDepth 100000 in
set_option maxHeartbeats 4000000 in
theorem e_X6_isInt {G : ng_GG} {M : ng_AM}   {v0 : Int64} (h : s_X6_isInt  v0)  : ng_Ev G md_X6_isInt 0 [some (.long v0), none] [] (M) (K_X6_isInt M (f_X6_isInt  v0)) := by
  unfold s_X6_isInt at h
  unfold f_X6_isInt
  refine ev_lload_n dX6_isInt_0 rfl rfl ?_
  refine ev_lload_n dX6_isInt_1 rfl rfl ?_
  refine ev_l2i dX6_isInt_2 ?_
  refine ev_i2l dX6_isInt_3 ?_
  refine ev_lcmp dX6_isInt_4 ?_
  refine bk_if_ne (tgt := 12) dX6_isInt_5 (by decide) (fun c5 => ?_) (fun c5 => ?_)
  · refine ev_iconst (v := nI 0) dX6_isInt_12 (by decide) ?_
    exact ev_iret rfl (by decide) dX6_isInt_13
  · refine ev_iconst (v := nI 1) dX6_isInt_8 (by decide) ?_
    refine ev_goto (tgt := 13) dX6_isInt_9 (by decide) ?_
    exact ev_iret rfl (by decide) dX6_isInt_13
theorem m_X6_isInt {G : ng_GG} {M : ng_AM}  {v0 : Int64} (h : s_X6_isInt v0)  : ng_Ev G md_X6_isInt 0 (ng_en 2 [.long v0]) [] (M) (K_X6_isInt M (f_X6_isInt v0)) := e_X6_isInt  h 
def K_X6_isOn (M : ng_AM) (r : Int32) : ng_RR := (some (.int (r)), M)
def f_X6_isOn  (w : Nat → Int32) (v1 : Int32) : Int32 := (if (((w (nI 3).toNatClampNeg) >>> (v1 &&& 31)) &&& (nI 1)) = (nI 1) then nI 1 else nI 0)
def s_X6_isOn  (w : Nat → Int32) (v1 : Int32) : Prop := True
set_option maxRecDepth 100000 in
set_option maxHeartbeats 4000000 in
theorem e_X6_isOn {G : ng_GG} {M : ng_AM} {a : Nat} {w : Nat → Int32} (V : ng_RM M a w)   {v1 : Int32} (h : s_X6_isOn  w v1)  : ng_Ev G md_X6_isOn 0 [some (.ref a), some (.int v1)] [] (M) (K_X6_isOn M (f_X6_isOn  w v1)) := by
  unfold s_X6_isOn at h
  unfold f_X6_isOn
  refine ev_aload_n dX6_isOn_0 rfl rfl rfl ?_
  refine ev_iconst (v := nI 3) dX6_isOn_1 (by decide) ?_
  refine ev_iald (RM_ga V) (vp_in_nI (by decide) (by decide)) dX6_isOn_2 ?_
  refine ev_iload_n dX6_isOn_3 rfl rfl ?_
  refine ev_ishr dX6_isOn_4 ?_
  refine ev_iconst (v := nI 1) dX6_isOn_5 (by decide) ?_
  refine ev_iand dX6_isOn_6 ?_
  refine ev_iconst (v := nI 1) dX6_isOn_7 (by decide) ?_
  refine bk_icmp_ne (tgt := 15) dX6_isOn_8 (by decide) (fun c8 => ?_) (fun c8 => ?_)
  · refine ev_iconst (v := nI 0) dX6_isOn_15 (by decide) ?_
    exact ev_iret rfl (by decide) dX6_isOn_16
  · refine ev_iconst (v := nI 1) dX6_isOn_11 (by decide) ?_
    refine ev_goto (tgt := 16) dX6_isOn_12 (by decide) ?_
    exact ev_iret rfl (by decide) dX6_isOn_16
theorem m_X6_isOn {G : ng_GG} {M : ng_AM} {a : Nat} {w : Nat → Int32} (V : ng_RM M a w)  {v1 : Int32} (h : s_X6_isOn w v1)  : ng_Ev G md_X6_isOn 0 (ng_en 2 [.ref a, .int v1]) [] (M) (K_X6_isOn M (f_X6_isOn w v1)) := e_X6_isOn V h 
def K_X6_has (M : ng_AM) (r : Int32) : ng_RR := (some (.int (r)), M)
def f_X6_has  (w : Nat → Int32) (v1 : Int32) (v2 : Int32) : Int32 := (if (((w ((f_X6_note v2) + (nI 10)).toNatClampNeg) >>> (v1 &&& 31)) &&& (nI 1)) = (nI 1) then nI 1 else nI 0)
def s_X6_has  (w : Nat → Int32) (v1 : Int32) (v2 : Int32) : Prop := vp_in ((f_X6_note v2) + (nI 10)) 527
set_option maxRecDepth 100000 in
set_option maxHeartbeats 4000000 in
theorem e_X6_has {G : ng_GG} {M : ng_AM} {a : Nat} {w : Nat → Int32} (V : ng_RM M a w)   {v1 : Int32} {v2 : Int32} (h : s_X6_has  w v1 v2)  : ng_Ev G md_X6_has 0 [some (.ref a), some (.int v1), some (.int v2)] [] (M) (K_X6_has M (f_X6_has  w v1 v2)) := by
  unfold s_X6_has at h
  unfold f_X6_has
  refine ev_aload_n dX6_has_0 rfl rfl rfl ?_
  refine ev_iload_n dX6_has_1 rfl rfl ?_
  refine bk_callS (As := [.int v2]) (st := [.ref a]) (st2 := [.int (f_X6_note v2), .ref a]) (M2 := M) ok_X6_note lk_RX6_71 (ng_rok.of rfl rfl) rfl rfl rfl rfl dX6_has_2 (m_X6_note trivial) rfl rfl ?_
  refine ev_bipush (v := nI 10) dX6_has_5 (by decide) ?_
  refine ev_iadd dX6_has_7 ?_
  have hi8 := h
  refine ev_iald (RM_ga V) hi8 dX6_has_8 ?_
  refine ev_iload_n dX6_has_9 rfl rfl ?_
  refine ev_ishr dX6_has_10 ?_
  refine ev_iconst (v := nI 1) dX6_has_11 (by decide) ?_
  refine ev_iand dX6_has_12 ?_
  refine ev_iconst (v := nI 1) dX6_has_13 (by decide) ?_
  refine bk_icmp_ne (tgt := 21) dX6_has_14 (by decide) (fun c14 => ?_) (fun c14 => ?_)
  · refine ev_iconst (v := nI 0) dX6_has_21 (by decide) ?_
    exact ev_iret rfl (by decide) dX6_has_22
  · refine ev_iconst (v := nI 1) dX6_has_17 (by decide) ?_
    refine ev_goto (tgt := 22) dX6_has_18 (by decide) ?_
    exact ev_iret rfl (by decide) dX6_has_22
theorem m_X6_has {G : ng_GG} {M : ng_AM} {a : Nat} {w : Nat → Int32} (V : ng_RM M a w)  {v1 : Int32} {v2 : Int32} (h : s_X6_has w v1 v2)  : ng_Ev G md_X6_has 0 (ng_en 3 [.ref a, .int v1, .int v2]) [] (M) (K_X6_has M (f_X6_has w v1 v2)) := e_X6_has V h 
def K_X6_isGood (M : ng_AM) (r : Int32) : ng_RR := (some (.int (r)), M)
def f_X6_isGood  (w : Nat → Int32) (v1 : Int32) : Int32 := (if (w (nI 1).toNatClampNeg) = (nI 1) then (if (w ((f_X6_family (w ((f_X6_note v1) + (nI 6)).toNatClampNeg)) + (nI 1)).toNatClampNeg) = (-1) then (if (w ((f_X6_note v1) + (nI 5)).toNatClampNeg) ≤ (w (nI 0).toNatClampNeg) then nI 0 else nI 1) else nI 0) else nI 0)
def s_X6_isGood  (w : Nat → Int32) (v1 : Int32) : Prop := ((w (nI 1).toNatClampNeg) = (nI 1) → (vp_in ((f_X6_note v1) + (nI 6)) 527 ∧ (vp_in ((f_X6_family (w ((f_X6_note v1) + (nI 6)).toNatClampNeg)) + (nI 1)) 527 ∧ ((w ((f_X6_family (w ((f_X6_note v1) + (nI 6)).toNatClampNeg)) + (nI 1)).toNatClampNeg) = (-1) → vp_in ((f_X6_note v1) + (nI 5)) 527))))
set_option maxRecDepth 100000 in
set_option maxHeartbeats 4000000 in
theorem e_X6_isGood {G : ng_GG} {M : ng_AM} {a : Nat} {w : Nat → Int32} (V : ng_RM M a w)   {v1 : Int32} (h : s_X6_isGood  w v1)  : ng_Ev G md_X6_isGood 0 [some (.ref a), some (.int v1)] [] (M) (K_X6_isGood M (f_X6_isGood  w v1)) := by
  unfold s_X6_isGood at h
  unfold f_X6_isGood
  refine ev_aload_n dX6_isGood_0 rfl rfl rfl ?_
  refine ev_iconst (v := nI 1) dX6_isGood_1 (by decide) ?_
  refine ev_iald (RM_ga V) (vp_in_nI (by decide) (by decide)) dX6_isGood_2 ?_
  refine ev_iconst (v := nI 1) dX6_isGood_3 (by decide) ?_
  refine bk_icmp_ne (tgt := 45) dX6_isGood_4 (by decide) (fun c4 => ?_) (fun c4 => ?_)
  · refine ev_iconst (v := nI 0) dX6_isGood_45 (by decide) ?_
    exact ev_iret rfl (by decide) dX6_isGood_46
  · replace h := h c4
    refine ev_aload_n dX6_isGood_7 rfl rfl rfl ?_
    refine ev_aload_n dX6_isGood_8 rfl rfl rfl ?_
    refine ev_iload_n dX6_isGood_9 rfl rfl ?_
    refine bk_callS (As := [.int v1]) (st := [.ref a, .ref a]) (st2 := [.int (f_X6_note v1), .ref a, .ref a]) (M2 := M) ok_X6_note lk_RX6_71 (ng_rok.of rfl rfl) rfl rfl rfl rfl dX6_isGood_10 (m_X6_note trivial) rfl rfl ?_
    refine ev_bipush (v := nI 6) dX6_isGood_13 (by decide) ?_
    refine ev_iadd dX6_isGood_15 ?_
    have hi16 := h.1
    replace h := h.2
    refine ev_iald (RM_ga V) hi16 dX6_isGood_16 ?_
    refine bk_callS (As := [.int (w ((f_X6_note v1) + (nI 6)).toNatClampNeg)]) (st := [.ref a]) (st2 := [.int (f_X6_family (w ((f_X6_note v1) + (nI 6)).toNatClampNeg)), .ref a]) (M2 := M) ok_X6_family lk_RX6_85 (ng_rok.of rfl rfl) rfl rfl rfl rfl dX6_isGood_17 (m_X6_family trivial) rfl rfl ?_
    refine ev_iconst (v := nI 1) dX6_isGood_20 (by decide) ?_
    refine ev_iadd dX6_isGood_21 ?_
    have hi22 := h.1
    replace h := h.2
    refine ev_iald (RM_ga V) hi22 dX6_isGood_22 ?_
    refine ev_iconst (v := (-1)) dX6_isGood_23 (by decide) ?_
    refine bk_icmp_ne (tgt := 45) dX6_isGood_24 (by decide) (fun c24 => ?_) (fun c24 => ?_)
    · refine ev_iconst (v := nI 0) dX6_isGood_45 (by decide) ?_
      exact ev_iret rfl (by decide) dX6_isGood_46
    · replace h := h c24
      refine ev_aload_n dX6_isGood_27 rfl rfl rfl ?_
      refine ev_iconst (v := nI 0) dX6_isGood_28 (by decide) ?_
      refine ev_iald (RM_ga V) (vp_in_nI (by decide) (by decide)) dX6_isGood_29 ?_
      refine ev_aload_n dX6_isGood_30 rfl rfl rfl ?_
      refine ev_iload_n dX6_isGood_31 rfl rfl ?_
      refine bk_callS (As := [.int v1]) (st := [.ref a, .int (w (nI 0).toNatClampNeg)]) (st2 := [.int (f_X6_note v1), .ref a, .int (w (nI 0).toNatClampNeg)]) (M2 := M) ok_X6_note lk_RX6_71 (ng_rok.of rfl rfl) rfl rfl rfl rfl dX6_isGood_32 (m_X6_note trivial) rfl rfl ?_
      refine ev_iconst (v := nI 5) dX6_isGood_35 (by decide) ?_
      refine ev_iadd dX6_isGood_36 ?_
      have hi37 := h
      refine ev_iald (RM_ga V) hi37 dX6_isGood_37 ?_
      refine bk_icmp_ge (tgt := 45) dX6_isGood_38 (by decide) (fun c38 => ?_) (fun c38 => ?_)
      · refine ev_iconst (v := nI 0) dX6_isGood_45 (by decide) ?_
        exact ev_iret rfl (by decide) dX6_isGood_46
      · refine ev_iconst (v := nI 1) dX6_isGood_41 (by decide) ?_
        refine ev_goto (tgt := 46) dX6_isGood_42 (by decide) ?_
        exact ev_iret rfl (by decide) dX6_isGood_46
theorem m_X6_isGood {G : ng_GG} {M : ng_AM} {a : Nat} {w : Nat → Int32} (V : ng_RM M a w)  {v1 : Int32} (h : s_X6_isGood w v1)  : ng_Ev G md_X6_isGood 0 (ng_en 2 [.ref a, .int v1]) [] (M) (K_X6_isGood M (f_X6_isGood w v1)) := e_X6_isGood V h 
def K_X6_verdict (M : ng_AM) (r : Int32) : ng_RR := (some (.int (r)), M)
def f_X6_verdict_221  (w : Nat → Int32) (v3 : Int32) (v4 : Int32) (v5 : Int32) (v6 : Int32) : Int32 := (if (((w (v5 + (nI 3)).toNatClampNeg) >>> (v3 &&& 31)) &&& (nI 1)) = 0 then nI 9 else (if (f_X6_isOn w (nI 7)) = 0 then nI 0 else (if (((w (v4 + (nI 2)).toNatClampNeg) >>> (v3 &&& 31)) &&& (nI 1)) = (nI 1) then (if (v6 - (w (v5 + (nI 7)).toNatClampNeg)) ≤ ((w (nI 10).toNatClampNeg) + (w (nI 6).toNatClampNeg)) then nI 0 else nI 10) else nI 0)))
def s_X6_verdict_221  (w : Nat → Int32) (v3 : Int32) (v4 : Int32) (v5 : Int32) (v6 : Int32) : Prop := (vp_in (v5 + (nI 3)) 527 ∧ (¬ (((w (v5 + (nI 3)).toNatClampNeg) >>> (v3 &&& 31)) &&& (nI 1)) = 0 → (¬ (f_X6_isOn w (nI 7)) = 0 → (vp_in (v4 + (nI 2)) 527 ∧ ((((w (v4 + (nI 2)).toNatClampNeg) >>> (v3 &&& 31)) &&& (nI 1)) = (nI 1) → vp_in (v5 + (nI 7)) 527)))))
set_option maxRecDepth 100000 in
set_option maxHeartbeats 4000000 in
theorem e_X6_verdict_221 {G : ng_GG} {M : ng_AM} {a : Nat} {w : Nat → Int32} (V : ng_RM M a w)   {v3 : Int32} {v4 : Int32} {v5 : Int32} {v6 : Int32} (h : s_X6_verdict_221  w v3 v4 v5 v6)  : ng_Ev G md_X6_verdict 221 [some (.ref a), none, none, some (.int v3), some (.int v4), some (.int v5), some (.int v6)] [] (M) (K_X6_verdict M (f_X6_verdict_221  w v3 v4 v5 v6)) := by
  unfold s_X6_verdict_221 at h
  unfold f_X6_verdict_221
  refine ev_aload_n dX6_verdict_221 rfl rfl rfl ?_
  refine ev_iload dX6_verdict_222 rfl ?_
  refine ev_iconst (v := nI 3) dX6_verdict_224 (by decide) ?_
  refine ev_iadd dX6_verdict_225 ?_
  have hi226 := h.1
  replace h := h.2
  refine ev_iald (RM_ga V) hi226 dX6_verdict_226 ?_
  refine ev_iload_n dX6_verdict_227 rfl rfl ?_
  refine ev_ishr dX6_verdict_228 ?_
  refine ev_iconst (v := nI 1) dX6_verdict_229 (by decide) ?_
  refine ev_iand dX6_verdict_230 ?_
  refine bk_if_ne (tgt := 237) dX6_verdict_231 (by decide) (fun c231 => ?_) (fun c231 => ?_)
  · replace h := h c231
    refine ev_aload_n dX6_verdict_237 rfl rfl rfl ?_
    refine ev_bipush (v := nI 7) dX6_verdict_238 (by decide) ?_
    refine bk_callS (As := [.ref a, .int (nI 7)]) (st := []) (st2 := [.int (f_X6_isOn w (nI 7))]) (M2 := M) ok_X6_isOn lk_RX6_118 (ng_rok.of rfl rfl) rfl rfl rfl rfl dX6_verdict_240 (m_X6_isOn V trivial) rfl rfl ?_
    refine bk_if_eq (tgt := 287) dX6_verdict_243 (by decide) (fun c243 => ?_) (fun c243 => ?_)
    · refine ev_iconst (v := nI 0) dX6_verdict_287 (by decide) ?_
      exact ev_iret rfl rfl dX6_verdict_288
    · replace h := h c243
      refine ev_aload_n dX6_verdict_246 rfl rfl rfl ?_
      refine ev_iload dX6_verdict_247 rfl ?_
      refine ev_iconst (v := nI 2) dX6_verdict_249 (by decide) ?_
      refine ev_iadd dX6_verdict_250 ?_
      have hi251 := h.1
      replace h := h.2
      refine ev_iald (RM_ga V) hi251 dX6_verdict_251 ?_
      refine ev_iload_n dX6_verdict_252 rfl rfl ?_
      refine ev_ishr dX6_verdict_253 ?_
      refine ev_iconst (v := nI 1) dX6_verdict_254 (by decide) ?_
      refine ev_iand dX6_verdict_255 ?_
      refine ev_iconst (v := nI 1) dX6_verdict_256 (by decide) ?_
      refine bk_icmp_ne (tgt := 287) dX6_verdict_257 (by decide) (fun c257 => ?_) (fun c257 => ?_)
      · refine ev_iconst (v := nI 0) dX6_verdict_287 (by decide) ?_
        exact ev_iret rfl rfl dX6_verdict_288
      · replace h := h c257
        refine ev_iload dX6_verdict_260 rfl ?_
        refine ev_aload_n dX6_verdict_262 rfl rfl rfl ?_
        refine ev_iload dX6_verdict_263 rfl ?_
        refine ev_bipush (v := nI 7) dX6_verdict_265 (by decide) ?_
        refine ev_iadd dX6_verdict_267 ?_
        have hi268 := h
        refine ev_iald (RM_ga V) hi268 dX6_verdict_268 ?_
        refine ev_isub dX6_verdict_269 ?_
        refine ev_aload_n dX6_verdict_270 rfl rfl rfl ?_
        refine ev_bipush (v := nI 10) dX6_verdict_271 (by decide) ?_
        refine ev_iald (RM_ga V) (vp_in_nI (by decide) (by decide)) dX6_verdict_273 ?_
        refine ev_aload_n dX6_verdict_274 rfl rfl rfl ?_
        refine ev_bipush (v := nI 6) dX6_verdict_275 (by decide) ?_
        refine ev_iald (RM_ga V) (vp_in_nI (by decide) (by decide)) dX6_verdict_277 ?_
        refine ev_iadd dX6_verdict_278 ?_
        refine bk_icmp_le (tgt := 287) dX6_verdict_279 (by decide) (fun c279 => ?_) (fun c279 => ?_)
        · refine ev_iconst (v := nI 0) dX6_verdict_287 (by decide) ?_
          exact ev_iret rfl rfl dX6_verdict_288
        · refine ev_bipush (v := nI 10) dX6_verdict_282 (by decide) ?_
          refine ev_goto (tgt := 288) dX6_verdict_284 (by decide) ?_
          exact ev_iret rfl rfl dX6_verdict_288
  · refine ev_bipush (v := nI 9) dX6_verdict_234 (by decide) ?_
    exact ev_iret rfl rfl dX6_verdict_236
def f_X6_verdict_185  (w : Nat → Int32) (v2 : Int32) (v3 : Int32) (v4 : Int32) (v5 : Int32) (v6 : Int32) : Int32 := (if (f_X6_isOn w (nI 2)) = 0 then f_X6_verdict_221 w v3 v4 v5 v6 else (if (w (v4 + (nI 1)).toNatClampNeg) = (nI 1) then (if ((((w (v4 + (nI 6)).toNatClampNeg).toUInt32 >>> (v2.toUInt32 &&& Int32.toUInt32 31)).toInt32) &&& (nI 1)) = (nI 1) then nI 8 else f_X6_verdict_221 w v3 v4 v5 v6) else f_X6_verdict_221 w v3 v4 v5 v6))
def s_X6_verdict_185  (w : Nat → Int32) (v2 : Int32) (v3 : Int32) (v4 : Int32) (v5 : Int32) (v6 : Int32) : Prop := (((f_X6_isOn w (nI 2)) = 0 → s_X6_verdict_221 w v3 v4 v5 v6) ∧ (¬ (f_X6_isOn w (nI 2)) = 0 → (vp_in (v4 + (nI 1)) 527 ∧ (((w (v4 + (nI 1)).toNatClampNeg) = (nI 1) → (vp_in (v4 + (nI 6)) 527 ∧ (¬ ((((w (v4 + (nI 6)).toNatClampNeg).toUInt32 >>> (v2.toUInt32 &&& Int32.toUInt32 31)).toInt32) &&& (nI 1)) = (nI 1) → s_X6_verdict_221 w v3 v4 v5 v6))) ∧ (¬ (w (v4 + (nI 1)).toNatClampNeg) = (nI 1) → s_X6_verdict_221 w v3 v4 v5 v6)))))
set_option maxRecDepth 100000 in
set_option maxHeartbeats 4000000 in
theorem e_X6_verdict_185 {G : ng_GG} {M : ng_AM} {a : Nat} {w : Nat → Int32} (V : ng_RM M a w)   {v2 : Int32} {v3 : Int32} {v4 : Int32} {v5 : Int32} {v6 : Int32} (h : s_X6_verdict_185  w v2 v3 v4 v5 v6)  : ng_Ev G md_X6_verdict 185 [some (.ref a), none, some (.int v2), some (.int v3), some (.int v4), some (.int v5), some (.int v6)] [] (M) (K_X6_verdict M (f_X6_verdict_185  w v2 v3 v4 v5 v6)) := by
  unfold s_X6_verdict_185 at h
  unfold f_X6_verdict_185
  refine ev_aload_n dX6_verdict_185 rfl rfl rfl ?_
  refine ev_iconst (v := nI 2) dX6_verdict_186 (by decide) ?_
  refine bk_callS (As := [.ref a, .int (nI 2)]) (st := []) (st2 := [.int (f_X6_isOn w (nI 2))]) (M2 := M) ok_X6_isOn lk_RX6_118 (ng_rok.of rfl rfl) rfl rfl rfl rfl dX6_verdict_187 (m_X6_isOn V trivial) rfl rfl ?_
  refine bk_if_eq (tgt := 221) dX6_verdict_190 (by decide) (fun c190 => ?_) (fun c190 => ?_)
  · replace h := h.1 c190
    exact ev_sub (e_X6_verdict_221 V h) (sub_s (sub_n (sub_n (sub_s (sub_s (sub_s (sub_s sub_e)))))))
  · replace h := h.2 c190
    refine ev_aload_n dX6_verdict_193 rfl rfl rfl ?_
    refine ev_iload dX6_verdict_194 rfl ?_
    refine ev_iconst (v := nI 1) dX6_verdict_196 (by decide) ?_
    refine ev_iadd dX6_verdict_197 ?_
    have hi198 := h.1
    replace h := h.2
    refine ev_iald (RM_ga V) hi198 dX6_verdict_198 ?_
    refine ev_iconst (v := nI 1) dX6_verdict_199 (by decide) ?_
    refine bk_icmp_ne (tgt := 221) dX6_verdict_200 (by decide) (fun c200 => ?_) (fun c200 => ?_)
    · replace h := h.2 c200
      exact ev_sub (e_X6_verdict_221 V h) (sub_s (sub_n (sub_n (sub_s (sub_s (sub_s (sub_s sub_e)))))))
    · replace h := h.1 c200
      refine ev_aload_n dX6_verdict_203 rfl rfl rfl ?_
      refine ev_iload dX6_verdict_204 rfl ?_
      refine ev_bipush (v := nI 6) dX6_verdict_206 (by decide) ?_
      refine ev_iadd dX6_verdict_208 ?_
      have hi209 := h.1
      replace h := h.2
      refine ev_iald (RM_ga V) hi209 dX6_verdict_209 ?_
      refine ev_iload_n dX6_verdict_210 rfl rfl ?_
      refine ev_iushr dX6_verdict_211 ?_
      refine ev_iconst (v := nI 1) dX6_verdict_212 (by decide) ?_
      refine ev_iand dX6_verdict_213 ?_
      refine ev_iconst (v := nI 1) dX6_verdict_214 (by decide) ?_
      refine bk_icmp_ne (tgt := 221) dX6_verdict_215 (by decide) (fun c215 => ?_) (fun c215 => ?_)
      · replace h := h c215
        exact ev_sub (e_X6_verdict_221 V h) (sub_s (sub_n (sub_n (sub_s (sub_s (sub_s (sub_s sub_e)))))))
      · refine ev_bipush (v := nI 8) dX6_verdict_218 (by decide) ?_
        exact ev_iret rfl rfl dX6_verdict_220
def f_X6_verdict_150  (w : Nat → Int32) (v2 : Int32) (v3 : Int32) (v4 : Int32) (v5 : Int32) (v6 : Int32) : Int32 := (if (f_X6_isOn w (nI 3)) = 0 then f_X6_verdict_185 w v2 v3 v4 v5 v6 else (if (w (nI 8).toNatClampNeg) ≤ 0 then f_X6_verdict_185 w v2 v3 v4 v5 v6 else (if ((w (nI 0).toNatClampNeg) - (w (v4 + (nI 4)).toNatClampNeg)) ≤ (w (nI 8).toNatClampNeg) then f_X6_verdict_185 w v2 v3 v4 v5 v6 else nI 7)))
def s_X6_verdict_150  (w : Nat → Int32) (v2 : Int32) (v3 : Int32) (v4 : Int32) (v5 : Int32) (v6 : Int32) : Prop := (((f_X6_isOn w (nI 3)) = 0 → s_X6_verdict_185 w v2 v3 v4 v5 v6) ∧ (¬ (f_X6_isOn w (nI 3)) = 0 → (((w (nI 8).toNatClampNeg) ≤ 0 → s_X6_verdict_185 w v2 v3 v4 v5 v6) ∧ (¬ (w (nI 8).toNatClampNeg) ≤ 0 → (vp_in (v4 + (nI 4)) 527 ∧ (((w (nI 0).toNatClampNeg) - (w (v4 + (nI 4)).toNatClampNeg)) ≤ (w (nI 8).toNatClampNeg) → s_X6_verdict_185 w v2 v3 v4 v5 v6))))))
set_option maxRecDepth 100000 in
set_option maxHeartbeats 4000000 in
theorem e_X6_verdict_150 {G : ng_GG} {M : ng_AM} {a : Nat} {w : Nat → Int32} (V : ng_RM M a w)   {v2 : Int32} {v3 : Int32} {v4 : Int32} {v5 : Int32} {v6 : Int32} (h : s_X6_verdict_150  w v2 v3 v4 v5 v6)  : ng_Ev G md_X6_verdict 150 [some (.ref a), none, some (.int v2), some (.int v3), some (.int v4), some (.int v5), some (.int v6)] [] (M) (K_X6_verdict M (f_X6_verdict_150  w v2 v3 v4 v5 v6)) := by
  unfold s_X6_verdict_150 at h
  unfold f_X6_verdict_150
  refine ev_aload_n dX6_verdict_150 rfl rfl rfl ?_
  refine ev_iconst (v := nI 3) dX6_verdict_151 (by decide) ?_
  refine bk_callS (As := [.ref a, .int (nI 3)]) (st := []) (st2 := [.int (f_X6_isOn w (nI 3))]) (M2 := M) ok_X6_isOn lk_RX6_118 (ng_rok.of rfl rfl) rfl rfl rfl rfl dX6_verdict_152 (m_X6_isOn V trivial) rfl rfl ?_
  refine bk_if_eq (tgt := 185) dX6_verdict_155 (by decide) (fun c155 => ?_) (fun c155 => ?_)
  · replace h := h.1 c155
    exact ev_sub (e_X6_verdict_185 V h) (sub_s (sub_n (sub_s (sub_s (sub_s (sub_s (sub_s sub_e)))))))
  · replace h := h.2 c155
    refine ev_aload_n dX6_verdict_158 rfl rfl rfl ?_
    refine ev_bipush (v := nI 8) dX6_verdict_159 (by decide) ?_
    refine ev_iald (RM_ga V) (vp_in_nI (by decide) (by decide)) dX6_verdict_161 ?_
    refine bk_if_le (tgt := 185) dX6_verdict_162 (by decide) (fun c162 => ?_) (fun c162 => ?_)
    · replace h := h.1 c162
      exact ev_sub (e_X6_verdict_185 V h) (sub_s (sub_n (sub_s (sub_s (sub_s (sub_s (sub_s sub_e)))))))
    · replace h := h.2 c162
      refine ev_aload_n dX6_verdict_165 rfl rfl rfl ?_
      refine ev_iconst (v := nI 0) dX6_verdict_166 (by decide) ?_
      refine ev_iald (RM_ga V) (vp_in_nI (by decide) (by decide)) dX6_verdict_167 ?_
      refine ev_aload_n dX6_verdict_168 rfl rfl rfl ?_
      refine ev_iload dX6_verdict_169 rfl ?_
      refine ev_iconst (v := nI 4) dX6_verdict_171 (by decide) ?_
      refine ev_iadd dX6_verdict_172 ?_
      have hi173 := h.1
      replace h := h.2
      refine ev_iald (RM_ga V) hi173 dX6_verdict_173 ?_
      refine ev_isub dX6_verdict_174 ?_
      refine ev_aload_n dX6_verdict_175 rfl rfl rfl ?_
      refine ev_bipush (v := nI 8) dX6_verdict_176 (by decide) ?_
      refine ev_iald (RM_ga V) (vp_in_nI (by decide) (by decide)) dX6_verdict_178 ?_
      refine bk_icmp_le (tgt := 185) dX6_verdict_179 (by decide) (fun c179 => ?_) (fun c179 => ?_)
      · replace h := h c179
        exact ev_sub (e_X6_verdict_185 V h) (sub_s (sub_n (sub_s (sub_s (sub_s (sub_s (sub_s sub_e)))))))
      · refine ev_bipush (v := nI 7) dX6_verdict_182 (by decide) ?_
        exact ev_iret rfl rfl dX6_verdict_184
def f_X6_verdict_119  (w : Nat → Int32) (v2 : Int32) (v3 : Int32) (v4 : Int32) (v5 : Int32) (v6 : Int32) : Int32 := (if (f_X6_isOn w (nI 3)) = 0 then f_X6_verdict_150 w v2 v3 v4 v5 v6 else (if (((w (v4 + (nI 5)).toNatClampNeg) >>> ((w (v5 + (nI 6)).toNatClampNeg) &&& 31)) &&& (nI 1)) = (nI 1) then nI 6 else f_X6_verdict_150 w v2 v3 v4 v5 v6))
def s_X6_verdict_119  (w : Nat → Int32) (v2 : Int32) (v3 : Int32) (v4 : Int32) (v5 : Int32) (v6 : Int32) : Prop := (((f_X6_isOn w (nI 3)) = 0 → s_X6_verdict_150 w v2 v3 v4 v5 v6) ∧ (¬ (f_X6_isOn w (nI 3)) = 0 → (vp_in (v4 + (nI 5)) 527 ∧ (vp_in (v5 + (nI 6)) 527 ∧ (¬ (((w (v4 + (nI 5)).toNatClampNeg) >>> ((w (v5 + (nI 6)).toNatClampNeg) &&& 31)) &&& (nI 1)) = (nI 1) → s_X6_verdict_150 w v2 v3 v4 v5 v6)))))
set_option maxRecDepth 100000 in
set_option maxHeartbeats 4000000 in
theorem e_X6_verdict_119 {G : ng_GG} {M : ng_AM} {a : Nat} {w : Nat → Int32} (V : ng_RM M a w)   {v2 : Int32} {v3 : Int32} {v4 : Int32} {v5 : Int32} {v6 : Int32} (h : s_X6_verdict_119  w v2 v3 v4 v5 v6)  : ng_Ev G md_X6_verdict 119 [some (.ref a), none, some (.int v2), some (.int v3), some (.int v4), some (.int v5), some (.int v6)] [] (M) (K_X6_verdict M (f_X6_verdict_119  w v2 v3 v4 v5 v6)) := by
  unfold s_X6_verdict_119 at h
  unfold f_X6_verdict_119
  refine ev_aload_n dX6_verdict_119 rfl rfl rfl ?_
  refine ev_iconst (v := nI 3) dX6_verdict_120 (by decide) ?_
  refine bk_callS (As := [.ref a, .int (nI 3)]) (st := []) (st2 := [.int (f_X6_isOn w (nI 3))]) (M2 := M) ok_X6_isOn lk_RX6_118 (ng_rok.of rfl rfl) rfl rfl rfl rfl dX6_verdict_121 (m_X6_isOn V trivial) rfl rfl ?_
  refine bk_if_eq (tgt := 150) dX6_verdict_124 (by decide) (fun c124 => ?_) (fun c124 => ?_)
  · replace h := h.1 c124
    exact ev_sub (e_X6_verdict_150 V h) (sub_s (sub_n (sub_s (sub_s (sub_s (sub_s (sub_s sub_e)))))))
  · replace h := h.2 c124
    refine ev_aload_n dX6_verdict_127 rfl rfl rfl ?_
    refine ev_iload dX6_verdict_128 rfl ?_
    refine ev_iconst (v := nI 5) dX6_verdict_130 (by decide) ?_
    refine ev_iadd dX6_verdict_131 ?_
    have hi132 := h.1
    replace h := h.2
    refine ev_iald (RM_ga V) hi132 dX6_verdict_132 ?_
    refine ev_aload_n dX6_verdict_133 rfl rfl rfl ?_
    refine ev_iload dX6_verdict_134 rfl ?_
    refine ev_bipush (v := nI 6) dX6_verdict_136 (by decide) ?_
    refine ev_iadd dX6_verdict_138 ?_
    have hi139 := h.1
    replace h := h.2
    refine ev_iald (RM_ga V) hi139 dX6_verdict_139 ?_
    refine ev_ishr dX6_verdict_140 ?_
    refine ev_iconst (v := nI 1) dX6_verdict_141 (by decide) ?_
    refine ev_iand dX6_verdict_142 ?_
    refine ev_iconst (v := nI 1) dX6_verdict_143 (by decide) ?_
    refine bk_icmp_ne (tgt := 150) dX6_verdict_144 (by decide) (fun c144 => ?_) (fun c144 => ?_)
    · replace h := h c144
      exact ev_sub (e_X6_verdict_150 V h) (sub_s (sub_n (sub_s (sub_s (sub_s (sub_s (sub_s sub_e)))))))
    · refine ev_bipush (v := nI 6) dX6_verdict_147 (by decide) ?_
      exact ev_iret rfl rfl dX6_verdict_149
def f_X6_verdict_93  (w : Nat → Int32) (v2 : Int32) (v3 : Int32) (v4 : Int32) (v5 : Int32) (v6 : Int32) : Int32 := (if (f_X6_isOn w (nI 1)) = 0 then f_X6_verdict_119 w v2 v3 v4 v5 v6 else (if v6 < ((w (v5 + (nI 5)).toNatClampNeg) + (w (nI 6).toNatClampNeg)) then f_X6_verdict_119 w v2 v3 v4 v5 v6 else nI 5))
def s_X6_verdict_93  (w : Nat → Int32) (v2 : Int32) (v3 : Int32) (v4 : Int32) (v5 : Int32) (v6 : Int32) : Prop := (((f_X6_isOn w (nI 1)) = 0 → s_X6_verdict_119 w v2 v3 v4 v5 v6) ∧ (¬ (f_X6_isOn w (nI 1)) = 0 → (vp_in (v5 + (nI 5)) 527 ∧ (v6 < ((w (v5 + (nI 5)).toNatClampNeg) + (w (nI 6).toNatClampNeg)) → s_X6_verdict_119 w v2 v3 v4 v5 v6))))
set_option maxRecDepth 100000 in
set_option maxHeartbeats 4000000 in
theorem e_X6_verdict_93 {G : ng_GG} {M : ng_AM} {a : Nat} {w : Nat → Int32} (V : ng_RM M a w)   {v2 : Int32} {v3 : Int32} {v4 : Int32} {v5 : Int32} {v6 : Int32} (h : s_X6_verdict_93  w v2 v3 v4 v5 v6)  : ng_Ev G md_X6_verdict 93 [some (.ref a), none, some (.int v2), some (.int v3), some (.int v4), some (.int v5), some (.int v6)] [] (M) (K_X6_verdict M (f_X6_verdict_93  w v2 v3 v4 v5 v6)) := by
  unfold s_X6_verdict_93 at h
  unfold f_X6_verdict_93
  refine ev_aload_n dX6_verdict_93 rfl rfl rfl ?_
  refine ev_iconst (v := nI 1) dX6_verdict_94 (by decide) ?_
  refine bk_callS (As := [.ref a, .int (nI 1)]) (st := []) (st2 := [.int (f_X6_isOn w (nI 1))]) (M2 := M) ok_X6_isOn lk_RX6_118 (ng_rok.of rfl rfl) rfl rfl rfl rfl dX6_verdict_95 (m_X6_isOn V trivial) rfl rfl ?_
  refine bk_if_eq (tgt := 119) dX6_verdict_98 (by decide) (fun c98 => ?_) (fun c98 => ?_)
  · replace h := h.1 c98
    exact ev_sub (e_X6_verdict_119 V h) (sub_s (sub_n (sub_s (sub_s (sub_s (sub_s (sub_s sub_e)))))))
  · replace h := h.2 c98
    refine ev_iload dX6_verdict_101 rfl ?_
    refine ev_aload_n dX6_verdict_103 rfl rfl rfl ?_
    refine ev_iload dX6_verdict_104 rfl ?_
    refine ev_iconst (v := nI 5) dX6_verdict_106 (by decide) ?_
    refine ev_iadd dX6_verdict_107 ?_
    have hi108 := h.1
    replace h := h.2
    refine ev_iald (RM_ga V) hi108 dX6_verdict_108 ?_
    refine ev_aload_n dX6_verdict_109 rfl rfl rfl ?_
    refine ev_bipush (v := nI 6) dX6_verdict_110 (by decide) ?_
    refine ev_iald (RM_ga V) (vp_in_nI (by decide) (by decide)) dX6_verdict_112 ?_
    refine ev_iadd dX6_verdict_113 ?_
    refine bk_icmp_lt (tgt := 119) dX6_verdict_114 (by decide) (fun c114 => ?_) (fun c114 => ?_)
    · replace h := h c114
      exact ev_sub (e_X6_verdict_119 V h) (sub_s (sub_n (sub_s (sub_s (sub_s (sub_s (sub_s sub_e)))))))
    · refine ev_iconst (v := nI 5) dX6_verdict_117 (by decide) ?_
      exact ev_iret rfl rfl dX6_verdict_118
def f_X6_verdict_67  (w : Nat → Int32) (v2 : Int32) (v3 : Int32) (v4 : Int32) (v5 : Int32) (v6 : Int32) : Int32 := (if (f_X6_isOn w (nI 1)) = 0 then f_X6_verdict_93 w v2 v3 v4 v5 v6 else (if ((w (v5 + (nI 4)).toNatClampNeg) - (w (nI 6).toNatClampNeg)) ≤ v6 then f_X6_verdict_93 w v2 v3 v4 v5 v6 else nI 4))
def s_X6_verdict_67  (w : Nat → Int32) (v2 : Int32) (v3 : Int32) (v4 : Int32) (v5 : Int32) (v6 : Int32) : Prop := (((f_X6_isOn w (nI 1)) = 0 → s_X6_verdict_93 w v2 v3 v4 v5 v6) ∧ (¬ (f_X6_isOn w (nI 1)) = 0 → (vp_in (v5 + (nI 4)) 527 ∧ (((w (v5 + (nI 4)).toNatClampNeg) - (w (nI 6).toNatClampNeg)) ≤ v6 → s_X6_verdict_93 w v2 v3 v4 v5 v6))))
set_option maxRecDepth 100000 in
set_option maxHeartbeats 4000000 in
theorem e_X6_verdict_67 {G : ng_GG} {M : ng_AM} {a : Nat} {w : Nat → Int32} (V : ng_RM M a w)   {v2 : Int32} {v3 : Int32} {v4 : Int32} {v5 : Int32} {v6 : Int32} (h : s_X6_verdict_67  w v2 v3 v4 v5 v6)  : ng_Ev G md_X6_verdict 67 [some (.ref a), none, some (.int v2), some (.int v3), some (.int v4), some (.int v5), some (.int v6)] [] (M) (K_X6_verdict M (f_X6_verdict_67  w v2 v3 v4 v5 v6)) := by
  unfold s_X6_verdict_67 at h
  unfold f_X6_verdict_67
  refine ev_aload_n dX6_verdict_67 rfl rfl rfl ?_
  refine ev_iconst (v := nI 1) dX6_verdict_68 (by decide) ?_
  refine bk_callS (As := [.ref a, .int (nI 1)]) (st := []) (st2 := [.int (f_X6_isOn w (nI 1))]) (M2 := M) ok_X6_isOn lk_RX6_118 (ng_rok.of rfl rfl) rfl rfl rfl rfl dX6_verdict_69 (m_X6_isOn V trivial) rfl rfl ?_
  refine bk_if_eq (tgt := 93) dX6_verdict_72 (by decide) (fun c72 => ?_) (fun c72 => ?_)
  · replace h := h.1 c72
    exact ev_sub (e_X6_verdict_93 V h) (sub_s (sub_n (sub_s (sub_s (sub_s (sub_s (sub_s sub_e)))))))
  · replace h := h.2 c72
    refine ev_iload dX6_verdict_75 rfl ?_
    refine ev_aload_n dX6_verdict_77 rfl rfl rfl ?_
    refine ev_iload dX6_verdict_78 rfl ?_
    refine ev_iconst (v := nI 4) dX6_verdict_80 (by decide) ?_
    refine ev_iadd dX6_verdict_81 ?_
    have hi82 := h.1
    replace h := h.2
    refine ev_iald (RM_ga V) hi82 dX6_verdict_82 ?_
    refine ev_aload_n dX6_verdict_83 rfl rfl rfl ?_
    refine ev_bipush (v := nI 6) dX6_verdict_84 (by decide) ?_
    refine ev_iald (RM_ga V) (vp_in_nI (by decide) (by decide)) dX6_verdict_86 ?_
    refine ev_isub dX6_verdict_87 ?_
    refine bk_icmp_ge (tgt := 93) dX6_verdict_88 (by decide) (fun c88 => ?_) (fun c88 => ?_)
    · replace h := h c88
      exact ev_sub (e_X6_verdict_93 V h) (sub_s (sub_n (sub_s (sub_s (sub_s (sub_s (sub_s sub_e)))))))
    · refine ev_iconst (v := nI 4) dX6_verdict_91 (by decide) ?_
      exact ev_iret rfl rfl dX6_verdict_92
def f_X6_verdict  (w : Nat → Int32) (v1 : Int32) (v2 : Int32) (v3 : Int32) : Int32 := (if (w ((f_X6_house v1) + (nI 3)).toNatClampNeg) = 0 then nI 1 else (if (w ((f_X6_note v2) + (nI 0)).toNatClampNeg) = (nI 1) then nI 2 else (if (f_X6_isOn w (nI 0)) = 0 then f_X6_verdict_67 w v2 v3 (f_X6_house v1) (f_X6_note v2) ((w (nI 0).toNatClampNeg) + (w ((f_X6_house v1) + (nI 0)).toNatClampNeg)) else (if (w ((f_X6_note v2) + (nI 2)).toNatClampNeg) = v1 then f_X6_verdict_67 w v2 v3 (f_X6_house v1) (f_X6_note v2) ((w (nI 0).toNatClampNeg) + (w ((f_X6_house v1) + (nI 0)).toNatClampNeg)) else nI 3))))
def s_X6_verdict  (w : Nat → Int32) (v1 : Int32) (v2 : Int32) (v3 : Int32) : Prop := (vp_in ((f_X6_house v1) + (nI 0)) 527 ∧ (vp_in ((f_X6_house v1) + (nI 3)) 527 ∧ (¬ (w ((f_X6_house v1) + (nI 3)).toNatClampNeg) = 0 → (vp_in ((f_X6_note v2) + (nI 0)) 527 ∧ (¬ (w ((f_X6_note v2) + (nI 0)).toNatClampNeg) = (nI 1) → (((f_X6_isOn w (nI 0)) = 0 → s_X6_verdict_67 w v2 v3 (f_X6_house v1) (f_X6_note v2) ((w (nI 0).toNatClampNeg) + (w ((f_X6_house v1) + (nI 0)).toNatClampNeg))) ∧ (¬ (f_X6_isOn w (nI 0)) = 0 → (vp_in ((f_X6_note v2) + (nI 2)) 527 ∧ ((w ((f_X6_note v2) + (nI 2)).toNatClampNeg) = v1 → s_X6_verdict_67 w v2 v3 (f_X6_house v1) (f_X6_note v2) ((w (nI 0).toNatClampNeg) + (w ((f_X6_house v1) + (nI 0)).toNatClampNeg)))))))))))
set_option maxRecDepth 100000 in
set_option maxHeartbeats 4000000 in
theorem e_X6_verdict {G : ng_GG} {M : ng_AM} {a : Nat} {w : Nat → Int32} (V : ng_RM M a w)   {v1 : Int32} {v2 : Int32} {v3 : Int32} (h : s_X6_verdict  w v1 v2 v3)  : ng_Ev G md_X6_verdict 0 [some (.ref a), some (.int v1), some (.int v2), some (.int v3), none, none, none] [] (M) (K_X6_verdict M (f_X6_verdict  w v1 v2 v3)) := by
  unfold s_X6_verdict at h
  unfold f_X6_verdict
  refine ev_iload_n dX6_verdict_0 rfl rfl ?_
  refine bk_callS (As := [.int v1]) (st := []) (st2 := [.int (f_X6_house v1)]) (M2 := M) ok_X6_house lk_RX6_75 (ng_rok.of rfl rfl) rfl rfl rfl rfl dX6_verdict_1 (m_X6_house trivial) rfl rfl ?_
  refine ev_istore (L' := [some (.ref a), some (.int v1), some (.int v2), some (.int v3), some (.int (f_X6_house v1)), none, none]) dX6_verdict_4 (ng_lt rfl) rfl ?_
  refine ev_iload_n dX6_verdict_6 rfl rfl ?_
  refine bk_callS (As := [.int v2]) (st := []) (st2 := [.int (f_X6_note v2)]) (M2 := M) ok_X6_note lk_RX6_71 (ng_rok.of rfl rfl) rfl rfl rfl rfl dX6_verdict_7 (m_X6_note trivial) rfl rfl ?_
  refine ev_istore (L' := [some (.ref a), some (.int v1), some (.int v2), some (.int v3), some (.int (f_X6_house v1)), some (.int (f_X6_note v2)), none]) dX6_verdict_10 (ng_lt rfl) rfl ?_
  refine ev_aload_n dX6_verdict_12 rfl rfl rfl ?_
  refine ev_iconst (v := nI 0) dX6_verdict_13 (by decide) ?_
  refine ev_iald (RM_ga V) (vp_in_nI (by decide) (by decide)) dX6_verdict_14 ?_
  refine ev_aload_n dX6_verdict_15 rfl rfl rfl ?_
  refine ev_iload dX6_verdict_16 rfl ?_
  refine ev_iconst (v := nI 0) dX6_verdict_18 (by decide) ?_
  refine ev_iadd dX6_verdict_19 ?_
  have hi20 := h.1
  replace h := h.2
  refine ev_iald (RM_ga V) hi20 dX6_verdict_20 ?_
  refine ev_iadd dX6_verdict_21 ?_
  refine ev_istore (L' := [some (.ref a), some (.int v1), some (.int v2), some (.int v3), some (.int (f_X6_house v1)), some (.int (f_X6_note v2)), some (.int ((w (nI 0).toNatClampNeg) + (w ((f_X6_house v1) + (nI 0)).toNatClampNeg)))]) dX6_verdict_22 (ng_lt rfl) rfl ?_
  refine ev_aload_n dX6_verdict_24 rfl rfl rfl ?_
  refine ev_iload dX6_verdict_25 rfl ?_
  refine ev_iconst (v := nI 3) dX6_verdict_27 (by decide) ?_
  refine ev_iadd dX6_verdict_28 ?_
  have hi29 := h.1
  replace h := h.2
  refine ev_iald (RM_ga V) hi29 dX6_verdict_29 ?_
  refine bk_if_ne (tgt := 35) dX6_verdict_30 (by decide) (fun c30 => ?_) (fun c30 => ?_)
  · replace h := h c30
    refine ev_aload_n dX6_verdict_35 rfl rfl rfl ?_
    refine ev_iload dX6_verdict_36 rfl ?_
    refine ev_iconst (v := nI 0) dX6_verdict_38 (by decide) ?_
    refine ev_iadd dX6_verdict_39 ?_
    have hi40 := h.1
    replace h := h.2
    refine ev_iald (RM_ga V) hi40 dX6_verdict_40 ?_
    refine ev_iconst (v := nI 1) dX6_verdict_41 (by decide) ?_
    refine bk_icmp_ne (tgt := 47) dX6_verdict_42 (by decide) (fun c42 => ?_) (fun c42 => ?_)
    · replace h := h c42
      refine ev_aload_n dX6_verdict_47 rfl rfl rfl ?_
      refine ev_iconst (v := nI 0) dX6_verdict_48 (by decide) ?_
      refine bk_callS (As := [.ref a, .int (nI 0)]) (st := []) (st2 := [.int (f_X6_isOn w (nI 0))]) (M2 := M) ok_X6_isOn lk_RX6_118 (ng_rok.of rfl rfl) rfl rfl rfl rfl dX6_verdict_49 (m_X6_isOn V trivial) rfl rfl ?_
      refine bk_if_eq (tgt := 67) dX6_verdict_52 (by decide) (fun c52 => ?_) (fun c52 => ?_)
      · replace h := h.1 c52
        exact ev_sub (e_X6_verdict_67 V h) (sub_s (sub_n (sub_s (sub_s (sub_s (sub_s (sub_s sub_e)))))))
      · replace h := h.2 c52
        refine ev_aload_n dX6_verdict_55 rfl rfl rfl ?_
        refine ev_iload dX6_verdict_56 rfl ?_
        refine ev_iconst (v := nI 2) dX6_verdict_58 (by decide) ?_
        refine ev_iadd dX6_verdict_59 ?_
        have hi60 := h.1
        replace h := h.2
        refine ev_iald (RM_ga V) hi60 dX6_verdict_60 ?_
        refine ev_iload_n dX6_verdict_61 rfl rfl ?_
        refine bk_icmp_eq (tgt := 67) dX6_verdict_62 (by decide) (fun c62 => ?_) (fun c62 => ?_)
        · replace h := h c62
          exact ev_sub (e_X6_verdict_67 V h) (sub_s (sub_n (sub_s (sub_s (sub_s (sub_s (sub_s sub_e)))))))
        · refine ev_iconst (v := nI 3) dX6_verdict_65 (by decide) ?_
          exact ev_iret rfl rfl dX6_verdict_66
    · refine ev_iconst (v := nI 2) dX6_verdict_45 (by decide) ?_
      exact ev_iret rfl rfl dX6_verdict_46
  · refine ev_iconst (v := nI 1) dX6_verdict_33 (by decide) ?_
    exact ev_iret rfl rfl dX6_verdict_34
theorem m_X6_verdict {G : ng_GG} {M : ng_AM} {a : Nat} {w : Nat → Int32} (V : ng_RM M a w)  {v1 : Int32} {v2 : Int32} {v3 : Int32} (h : s_X6_verdict w v1 v2 v3)  : ng_Ev G md_X6_verdict 0 (ng_en 7 [.ref a, .int v1, .int v2, .int v3]) [] (M) (K_X6_verdict M (f_X6_verdict w v1 v2 v3)) := e_X6_verdict V h 
def K_X6_firstLate (M : ng_AM) (r : Int32) : ng_RR := (some (.int (r)), M)
def f_X6_firstLate_2  : Nat → (Nat → Int32) → Int32 → (Int32)
  | 0, _, _ => 0
  | n + 1, w, v1 => (if (w (nI 14).toNatClampNeg) ≤ v1 then (-1) else (if ((w (nI 0).toNatClampNeg) - (w ((f_X6_letter v1) + (nI 6)).toNatClampNeg)) < (w (nI 9).toNatClampNeg) then f_X6_firstLate_2 n w (v1 + nI 1) else v1))
def s_X6_firstLate_2  : Nat → (Nat → Int32) → Int32 → Prop
  | 0, _, _ => False
  | n + 1, w, v1 => (¬ (w (nI 14).toNatClampNeg) ≤ v1 → (vp_in ((f_X6_letter v1) + (nI 6)) 527 ∧ (((w (nI 0).toNatClampNeg) - (w ((f_X6_letter v1) + (nI 6)).toNatClampNeg)) < (w (nI 9).toNatClampNeg) → s_X6_firstLate_2 n w (v1 + nI 1))))
set_option maxRecDepth 100000 in
set_option maxHeartbeats 4000000 in
theorem e_X6_firstLate_2 {G : ng_GG} {M : ng_AM} {a : Nat} {w : Nat → Int32} (V : ng_RM M a w)  : ∀ (n : Nat) (v1 : Int32), s_X6_firstLate_2  n w v1 → ng_Ev G md_X6_firstLate 2 [some (.ref a), some (.int v1)] [] (M) (K_X6_firstLate M (f_X6_firstLate_2  n w v1)) := by
  intro n
  induction n with
  | zero => intro  v1 h; exact False.elim h
  | succ n ih =>
    intro  v1 h 
    rw [s_X6_firstLate_2] at h
    rw [f_X6_firstLate_2]
    refine ev_iload_n dX6_firstLate_2 rfl rfl ?_
    refine ev_aload_n dX6_firstLate_3 rfl rfl rfl ?_
    refine ev_bipush (v := nI 14) dX6_firstLate_4 (by decide) ?_
    refine ev_iald (RM_ga V) (vp_in_nI (by decide) (by decide)) dX6_firstLate_6 ?_
    refine bk_icmp_ge (tgt := 38) dX6_firstLate_7 (by decide) (fun c7 => ?_) (fun c7 => ?_)
    · refine ev_iconst (v := (-1)) dX6_firstLate_38 (by decide) ?_
      exact ev_iret rfl rfl dX6_firstLate_39
    · replace h := h c7
      refine ev_aload_n dX6_firstLate_10 rfl rfl rfl ?_
      refine ev_iconst (v := nI 0) dX6_firstLate_11 (by decide) ?_
      refine ev_iald (RM_ga V) (vp_in_nI (by decide) (by decide)) dX6_firstLate_12 ?_
      refine ev_aload_n dX6_firstLate_13 rfl rfl rfl ?_
      refine ev_iload_n dX6_firstLate_14 rfl rfl ?_
      refine bk_callS (As := [.int v1]) (st := [.ref a, .int (w (nI 0).toNatClampNeg)]) (st2 := [.int (f_X6_letter v1), .ref a, .int (w (nI 0).toNatClampNeg)]) (M2 := M) ok_X6_letter lk_RX6_99 (ng_rok.of rfl rfl) rfl rfl rfl rfl dX6_firstLate_15 (m_X6_letter trivial) rfl rfl ?_
      refine ev_bipush (v := nI 6) dX6_firstLate_18 (by decide) ?_
      refine ev_iadd dX6_firstLate_20 ?_
      have hi21 := h.1
      replace h := h.2
      refine ev_iald (RM_ga V) hi21 dX6_firstLate_21 ?_
      refine ev_isub dX6_firstLate_22 ?_
      refine ev_aload_n dX6_firstLate_23 rfl rfl rfl ?_
      refine ev_bipush (v := nI 9) dX6_firstLate_24 (by decide) ?_
      refine ev_iald (RM_ga V) (vp_in_nI (by decide) (by decide)) dX6_firstLate_26 ?_
      refine bk_icmp_lt (tgt := 32) dX6_firstLate_27 (by decide) (fun c27 => ?_) (fun c27 => ?_)
      · replace h := h c27
        refine ev_iinc (v := v1 + nI 1) (L' := [some (.ref a), some (.int (v1 + nI 1))]) dX6_firstLate_32 rfl (by rfl) rfl ?_
        refine ev_goto (tgt := 2) dX6_firstLate_35 (by decide) ?_
        exact ev_sub (ih (v1 + nI 1) h) (sub_s (sub_s sub_e))
      · refine ev_iload_n dX6_firstLate_30 rfl rfl ?_
        exact ev_iret rfl rfl dX6_firstLate_31
def f_X6_firstLate  (w : Nat → Int32)  : Int32 := f_X6_firstLate_2 ng_F w (nI 0)
def s_X6_firstLate  (w : Nat → Int32)  : Prop := s_X6_firstLate_2 ng_F w (nI 0)
set_option maxRecDepth 100000 in
set_option maxHeartbeats 4000000 in
theorem e_X6_firstLate {G : ng_GG} {M : ng_AM} {a : Nat} {w : Nat → Int32} (V : ng_RM M a w)    (h : s_X6_firstLate  w)  : ng_Ev G md_X6_firstLate 0 [some (.ref a), none] [] (M) (K_X6_firstLate M (f_X6_firstLate  w)) := by
  unfold s_X6_firstLate at h
  unfold f_X6_firstLate
  refine ev_iconst (v := nI 0) dX6_firstLate_0 (by decide) ?_
  refine ev_istore_n (L' := [some (.ref a), some (.int (nI 0))]) dX6_firstLate_1 rfl (ng_lt rfl) rfl ?_
  exact ev_sub (e_X6_firstLate_2 V ng_F (nI 0) h) (sub_s (sub_s sub_e))
theorem m_X6_firstLate {G : ng_GG} {M : ng_AM} {a : Nat} {w : Nat → Int32} (V : ng_RM M a w)   (h : s_X6_firstLate w)  : ng_Ev G md_X6_firstLate 0 (ng_en 2 [.ref a]) [] (M) (K_X6_firstLate M (f_X6_firstLate w)) := e_X6_firstLate V h 
def K_X6_isMixed (M : ng_AM) (r : Int32) : ng_RR := (some (.int (r)), M)
def f_X6_isMixed_42 (kk4 : (Nat → Int32) → Int32 → Int32 → Int32 → (Int32)) (w : Nat → Int32) (v1 : Int32) (v3 : Int32) (t0 : Int32) : Int32 := kk4 w v1 t0 (v3 + nI 1)
def s_X6_isMixed_42 (sk4 : (Nat → Int32) → Int32 → Int32 → Int32 → Prop) (w : Nat → Int32) (v1 : Int32) (v3 : Int32) (t0 : Int32) : Prop := sk4 w v1 t0 (v3 + nI 1)
set_option maxRecDepth 100000 in
set_option maxHeartbeats 4000000 in
theorem e_X6_isMixed_42 {G : ng_GG} {M : ng_AM} {a : Nat} {w : Nat → Int32} (V : ng_RM M a w)  {kk4 : (Nat → Int32) → Int32 → Int32 → Int32 → (Int32)} {sk4 : (Nat → Int32) → Int32 → Int32 → Int32 → Prop} (hk4 : ∀ (v1 : Int32) (v2 : Int32) (v3 : Int32), sk4 w v1 v2 v3 → ng_Ev G md_X6_isMixed 4 [some (.ref a), some (.int v1), some (.int v2), some (.int v3)] [] (M) (K_X6_isMixed M (kk4 w v1 v2 v3))) {v1 : Int32} {v3 : Int32} {t0 : Int32} (h : s_X6_isMixed_42 sk4 w v1 v3 t0)  : ng_Ev G md_X6_isMixed 42 [some (.ref a), some (.int v1), none, some (.int v3)] [.int t0] (M) (K_X6_isMixed M (f_X6_isMixed_42 kk4 w v1 v3 t0)) := by
  unfold s_X6_isMixed_42 at h
  unfold f_X6_isMixed_42
  refine ev_istore_n (L' := [some (.ref a), some (.int v1), some (.int t0), some (.int v3)]) dX6_isMixed_42 rfl (ng_lt rfl) rfl ?_
  refine ev_iinc (v := v3 + nI 1) (L' := [some (.ref a), some (.int v1), some (.int t0), some (.int (v3 + nI 1))]) dX6_isMixed_43 rfl (by rfl) rfl ?_
  refine ev_goto (tgt := 4) dX6_isMixed_46 (by decide) ?_
  exact ev_sub (hk4 v1 t0 (v3 + nI 1) h) (sub_s (sub_s (sub_s (sub_s sub_e))))
def f_X6_isMixed_37 (kk4 : (Nat → Int32) → Int32 → Int32 → Int32 → (Int32)) (w : Nat → Int32) (v1 : Int32) (v3 : Int32) : Int32 := f_X6_isMixed_42 kk4 w v1 v3 (nI 1)
def s_X6_isMixed_37 (sk4 : (Nat → Int32) → Int32 → Int32 → Int32 → Prop) (w : Nat → Int32) (v1 : Int32) (v3 : Int32) : Prop := s_X6_isMixed_42 sk4 w v1 v3 (nI 1)
set_option maxRecDepth 100000 in
set_option maxHeartbeats 4000000 in
theorem e_X6_isMixed_37 {G : ng_GG} {M : ng_AM} {a : Nat} {w : Nat → Int32} (V : ng_RM M a w)  {kk4 : (Nat → Int32) → Int32 → Int32 → Int32 → (Int32)} {sk4 : (Nat → Int32) → Int32 → Int32 → Int32 → Prop} (hk4 : ∀ (v1 : Int32) (v2 : Int32) (v3 : Int32), sk4 w v1 v2 v3 → ng_Ev G md_X6_isMixed 4 [some (.ref a), some (.int v1), some (.int v2), some (.int v3)] [] (M) (K_X6_isMixed M (kk4 w v1 v2 v3))) {v1 : Int32} {v3 : Int32} (h : s_X6_isMixed_37 sk4 w v1 v3)  : ng_Ev G md_X6_isMixed 37 [some (.ref a), some (.int v1), none, some (.int v3)] [] (M) (K_X6_isMixed M (f_X6_isMixed_37 kk4 w v1 v3)) := by
  unfold s_X6_isMixed_37 at h
  unfold f_X6_isMixed_37
  refine ev_iconst (v := nI 1) dX6_isMixed_37 (by decide) ?_
  refine ev_goto (tgt := 42) dX6_isMixed_38 (by decide) ?_
  exact ev_sub (e_X6_isMixed_42 V hk4 h) (sub_s (sub_s (sub_n (sub_s sub_e))))
def f_X6_isMixed_41 (kk4 : (Nat → Int32) → Int32 → Int32 → Int32 → (Int32)) (w : Nat → Int32) (v1 : Int32) (v3 : Int32) : Int32 := f_X6_isMixed_42 kk4 w v1 v3 (nI 0)
def s_X6_isMixed_41 (sk4 : (Nat → Int32) → Int32 → Int32 → Int32 → Prop) (w : Nat → Int32) (v1 : Int32) (v3 : Int32) : Prop := s_X6_isMixed_42 sk4 w v1 v3 (nI 0)
set_option maxRecDepth 100000 in
set_option maxHeartbeats 4000000 in
theorem e_X6_isMixed_41 {G : ng_GG} {M : ng_AM} {a : Nat} {w : Nat → Int32} (V : ng_RM M a w)  {kk4 : (Nat → Int32) → Int32 → Int32 → Int32 → (Int32)} {sk4 : (Nat → Int32) → Int32 → Int32 → Int32 → Prop} (hk4 : ∀ (v1 : Int32) (v2 : Int32) (v3 : Int32), sk4 w v1 v2 v3 → ng_Ev G md_X6_isMixed 4 [some (.ref a), some (.int v1), some (.int v2), some (.int v3)] [] (M) (K_X6_isMixed M (kk4 w v1 v2 v3))) {v1 : Int32} {v3 : Int32} (h : s_X6_isMixed_41 sk4 w v1 v3)  : ng_Ev G md_X6_isMixed 41 [some (.ref a), some (.int v1), none, some (.int v3)] [] (M) (K_X6_isMixed M (f_X6_isMixed_41 kk4 w v1 v3)) := by
  unfold s_X6_isMixed_41 at h
  unfold f_X6_isMixed_41
  refine ev_iconst (v := nI 0) dX6_isMixed_41 (by decide) ?_
  exact ev_sub (e_X6_isMixed_42 V hk4 h) (sub_s (sub_s (sub_n (sub_s sub_e))))
def f_X6_isMixed_4  : Nat → (Nat → Int32) → Int32 → Int32 → Int32 → (Int32)
  | 0, _, _, _, _ => 0
  | n + 1, w, v1, v2, v3 => (if (w (nI 12).toNatClampNeg) ≤ v3 then v2 else (if v2 = 0 then (if (f_X6_has w v1 v3) = 0 then f_X6_isMixed_41 (f_X6_isMixed_4 n) w v1 v3 else (if (w ((f_X6_note v3) + (nI 1)).toNatClampNeg) = v1 then f_X6_isMixed_41 (f_X6_isMixed_4 n) w v1 v3 else f_X6_isMixed_37 (f_X6_isMixed_4 n) w v1 v3)) else f_X6_isMixed_37 (f_X6_isMixed_4 n) w v1 v3))
def s_X6_isMixed_4  : Nat → (Nat → Int32) → Int32 → Int32 → Int32 → Prop
  | 0, _, _, _, _ => False
  | n + 1, w, v1, v2, v3 => (((w (nI 12).toNatClampNeg) ≤ v3 → (v2 = 0 ∨ v2 = 1)) ∧ (¬ (w (nI 12).toNatClampNeg) ≤ v3 → ((v2 = 0 → (s_X6_has w v1 v3 ∧ (((f_X6_has w v1 v3) = 0 → s_X6_isMixed_41 (s_X6_isMixed_4 n) w v1 v3) ∧ (¬ (f_X6_has w v1 v3) = 0 → (vp_in ((f_X6_note v3) + (nI 1)) 527 ∧ (((w ((f_X6_note v3) + (nI 1)).toNatClampNeg) = v1 → s_X6_isMixed_41 (s_X6_isMixed_4 n) w v1 v3) ∧ (¬ (w ((f_X6_note v3) + (nI 1)).toNatClampNeg) = v1 → s_X6_isMixed_37 (s_X6_isMixed_4 n) w v1 v3))))))) ∧ (¬ v2 = 0 → s_X6_isMixed_37 (s_X6_isMixed_4 n) w v1 v3))))
set_option maxRecDepth 100000 in
set_option maxHeartbeats 4000000 in
theorem e_X6_isMixed_4 {G : ng_GG} {M : ng_AM} {a : Nat} {w : Nat → Int32} (V : ng_RM M a w)  : ∀ (n : Nat) (v1 : Int32) (v2 : Int32) (v3 : Int32), s_X6_isMixed_4  n w v1 v2 v3 → ng_Ev G md_X6_isMixed 4 [some (.ref a), some (.int v1), some (.int v2), some (.int v3)] [] (M) (K_X6_isMixed M (f_X6_isMixed_4  n w v1 v2 v3)) := by
  intro n
  induction n with
  | zero => intro  v1 v2 v3 h; exact False.elim h
  | succ n ih =>
    intro  v1 v2 v3 h 
    rw [s_X6_isMixed_4] at h
    rw [f_X6_isMixed_4]
    refine ev_iload_n dX6_isMixed_4 rfl rfl ?_
    refine ev_aload_n dX6_isMixed_5 rfl rfl rfl ?_
    refine ev_bipush (v := nI 12) dX6_isMixed_6 (by decide) ?_
    refine ev_iald (RM_ga V) (vp_in_nI (by decide) (by decide)) dX6_isMixed_8 ?_
    refine bk_icmp_ge (tgt := 49) dX6_isMixed_9 (by decide) (fun c9 => ?_) (fun c9 => ?_)
    · replace h := h.1 c9
      refine ev_iload_n dX6_isMixed_49 rfl rfl ?_
      exact ev_iret rfl (ng_nz h) dX6_isMixed_50
    · replace h := h.2 c9
      refine ev_iload_n dX6_isMixed_12 rfl rfl ?_
      refine bk_if_ne (tgt := 37) dX6_isMixed_13 (by decide) (fun c13 => ?_) (fun c13 => ?_)
      · replace h := h.2 c13
        exact ev_sub (e_X6_isMixed_37 V ih h) (sub_s (sub_s (sub_n (sub_s sub_e))))
      · replace h := h.1 c13
        refine ev_aload_n dX6_isMixed_16 rfl rfl rfl ?_
        refine ev_iload_n dX6_isMixed_17 rfl rfl ?_
        refine ev_iload_n dX6_isMixed_18 rfl rfl ?_
        have hs19 := h.1
        replace h := h.2
        refine bk_callS (As := [.ref a, .int v1, .int v3]) (st := []) (st2 := [.int (f_X6_has w v1 v3)]) (M2 := M) ok_X6_has lk_RX6_165 (ng_rok.of rfl rfl) rfl rfl rfl rfl dX6_isMixed_19 (m_X6_has V hs19) rfl rfl ?_
        refine bk_if_eq (tgt := 41) dX6_isMixed_22 (by decide) (fun c22 => ?_) (fun c22 => ?_)
        · replace h := h.1 c22
          exact ev_sub (e_X6_isMixed_41 V ih h) (sub_s (sub_s (sub_n (sub_s sub_e))))
        · replace h := h.2 c22
          refine ev_aload_n dX6_isMixed_25 rfl rfl rfl ?_
          refine ev_iload_n dX6_isMixed_26 rfl rfl ?_
          refine bk_callS (As := [.int v3]) (st := [.ref a]) (st2 := [.int (f_X6_note v3), .ref a]) (M2 := M) ok_X6_note lk_RX6_71 (ng_rok.of rfl rfl) rfl rfl rfl rfl dX6_isMixed_27 (m_X6_note trivial) rfl rfl ?_
          refine ev_iconst (v := nI 1) dX6_isMixed_30 (by decide) ?_
          refine ev_iadd dX6_isMixed_31 ?_
          have hi32 := h.1
          replace h := h.2
          refine ev_iald (RM_ga V) hi32 dX6_isMixed_32 ?_
          refine ev_iload_n dX6_isMixed_33 rfl rfl ?_
          refine bk_icmp_eq (tgt := 41) dX6_isMixed_34 (by decide) (fun c34 => ?_) (fun c34 => ?_)
          · replace h := h.1 c34
            exact ev_sub (e_X6_isMixed_41 V ih h) (sub_s (sub_s (sub_n (sub_s sub_e))))
          · replace h := h.2 c34
            exact ev_sub (e_X6_isMixed_37 V ih h) (sub_s (sub_s (sub_n (sub_s sub_e))))
def f_X6_isMixed  (w : Nat → Int32) (v1 : Int32) : Int32 := f_X6_isMixed_4 ng_F w v1 (nI 0) (nI 0)
def s_X6_isMixed  (w : Nat → Int32) (v1 : Int32) : Prop := s_X6_isMixed_4 ng_F w v1 (nI 0) (nI 0)
set_option maxRecDepth 100000 in
set_option maxHeartbeats 4000000 in
theorem e_X6_isMixed {G : ng_GG} {M : ng_AM} {a : Nat} {w : Nat → Int32} (V : ng_RM M a w)   {v1 : Int32} (h : s_X6_isMixed  w v1)  : ng_Ev G md_X6_isMixed 0 [some (.ref a), some (.int v1), none, none] [] (M) (K_X6_isMixed M (f_X6_isMixed  w v1)) := by
  unfold s_X6_isMixed at h
  unfold f_X6_isMixed
  refine ev_iconst (v := nI 0) dX6_isMixed_0 (by decide) ?_
  refine ev_istore_n (L' := [some (.ref a), some (.int v1), some (.int (nI 0)), none]) dX6_isMixed_1 rfl (ng_lt rfl) rfl ?_
  refine ev_iconst (v := nI 0) dX6_isMixed_2 (by decide) ?_
  refine ev_istore_n (L' := [some (.ref a), some (.int v1), some (.int (nI 0)), some (.int (nI 0))]) dX6_isMixed_3 rfl (ng_lt rfl) rfl ?_
  exact ev_sub (e_X6_isMixed_4 V ng_F v1 (nI 0) (nI 0) h) (sub_s (sub_s (sub_s (sub_s sub_e))))
theorem m_X6_isMixed {G : ng_GG} {M : ng_AM} {a : Nat} {w : Nat → Int32} (V : ng_RM M a w)  {v1 : Int32} (h : s_X6_isMixed w v1)  : ng_Ev G md_X6_isMixed 0 (ng_en 4 [.ref a, .int v1]) [] (M) (K_X6_isMixed M (f_X6_isMixed w v1)) := e_X6_isMixed V h 
def K_X6_sumOf (M : ng_AM) (r : Int32) : ng_RR := (some (.int (r)), M)
def f_X6_sumOf_5  : Nat → (Nat → Int32) → Int32 → Int32 → (Int32)
  | 0, _, _, _ => 0
  | n + 1, w, v1, v2 => (if (nI 527) ≤ v2 then v1 else f_X6_sumOf_5 n w (((nI 31) * v1) + (w v2.toNatClampNeg)) (v2 + nI 1))
def s_X6_sumOf_5  : Nat → (Nat → Int32) → Int32 → Int32 → Prop
  | 0, _, _, _ => False
  | n + 1, w, v1, v2 => (¬ (nI 527) ≤ v2 → (vp_in v2 527 ∧ s_X6_sumOf_5 n w (((nI 31) * v1) + (w v2.toNatClampNeg)) (v2 + nI 1)))
set_option maxRecDepth 100000 in
set_option maxHeartbeats 4000000 in
theorem e_X6_sumOf_5 {G : ng_GG} {M : ng_AM} {a : Nat} {w : Nat → Int32} (V : ng_RM M a w)  : ∀ (n : Nat) (v1 : Int32) (v2 : Int32), s_X6_sumOf_5  n w v1 v2 → ng_Ev G md_X6_sumOf 5 [some (.ref a), some (.int v1), some (.int v2)] [] (M) (K_X6_sumOf M (f_X6_sumOf_5  n w v1 v2)) := by
  intro n
  induction n with
  | zero => intro  v1 v2 h; exact False.elim h
  | succ n ih =>
    intro  v1 v2 h 
    rw [s_X6_sumOf_5] at h
    rw [f_X6_sumOf_5]
    refine ev_iload_n dX6_sumOf_5 rfl rfl ?_
    refine ev_sipush (v := nI 527) dX6_sumOf_6 (by decide) ?_
    refine bk_icmp_ge (tgt := 27) dX6_sumOf_9 (by decide) (fun c9 => ?_) (fun c9 => ?_)
    · refine ev_iload_n dX6_sumOf_27 rfl rfl ?_
      exact ev_iret rfl rfl dX6_sumOf_28
    · replace h := h c9
      refine ev_bipush (v := nI 31) dX6_sumOf_12 (by decide) ?_
      refine ev_iload_n dX6_sumOf_14 rfl rfl ?_
      refine ev_imul dX6_sumOf_15 ?_
      refine ev_aload_n dX6_sumOf_16 rfl rfl rfl ?_
      refine ev_iload_n dX6_sumOf_17 rfl rfl ?_
      have hi18 := h.1
      replace h := h.2
      refine ev_iald (RM_ga V) hi18 dX6_sumOf_18 ?_
      refine ev_iadd dX6_sumOf_19 ?_
      refine ev_istore_n (L' := [some (.ref a), some (.int (((nI 31) * v1) + (w v2.toNatClampNeg))), some (.int v2)]) dX6_sumOf_20 rfl (ng_lt rfl) rfl ?_
      refine ev_iinc (v := v2 + nI 1) (L' := [some (.ref a), some (.int (((nI 31) * v1) + (w v2.toNatClampNeg))), some (.int (v2 + nI 1))]) dX6_sumOf_21 rfl (by rfl) rfl ?_
      refine ev_goto (tgt := 5) dX6_sumOf_24 (by decide) ?_
      exact ev_sub (ih (((nI 31) * v1) + (w v2.toNatClampNeg)) (v2 + nI 1) h) (sub_s (sub_s (sub_s sub_e)))
def f_X6_sumOf  (w : Nat → Int32)  : Int32 := f_X6_sumOf_5 ng_F w (nI 17) (nI 0)
def s_X6_sumOf  (w : Nat → Int32)  : Prop := s_X6_sumOf_5 ng_F w (nI 17) (nI 0)
set_option maxRecDepth 100000 in
set_option maxHeartbeats 4000000 in
theorem e_X6_sumOf {G : ng_GG} {M : ng_AM} {a : Nat} {w : Nat → Int32} (V : ng_RM M a w)    (h : s_X6_sumOf  w)  : ng_Ev G md_X6_sumOf 0 [some (.ref a), none, none] [] (M) (K_X6_sumOf M (f_X6_sumOf  w)) := by
  unfold s_X6_sumOf at h
  unfold f_X6_sumOf
  refine ev_bipush (v := nI 17) dX6_sumOf_0 (by decide) ?_
  refine ev_istore_n (L' := [some (.ref a), some (.int (nI 17)), none]) dX6_sumOf_2 rfl (ng_lt rfl) rfl ?_
  refine ev_iconst (v := nI 0) dX6_sumOf_3 (by decide) ?_
  refine ev_istore_n (L' := [some (.ref a), some (.int (nI 17)), some (.int (nI 0))]) dX6_sumOf_4 rfl (ng_lt rfl) rfl ?_
  exact ev_sub (e_X6_sumOf_5 V ng_F (nI 17) (nI 0) h) (sub_s (sub_s (sub_s sub_e)))
theorem m_X6_sumOf {G : ng_GG} {M : ng_AM} {a : Nat} {w : Nat → Int32} (V : ng_RM M a w)   (h : s_X6_sumOf w)  : ng_Ev G md_X6_sumOf 0 (ng_en 3 [.ref a]) [] (M) (K_X6_sumOf M (f_X6_sumOf w)) := e_X6_sumOf V h 
def K_X6_gets (hm : (Nat → Int32) → (Nat → Int32) → (Nat → Int32) → ng_AM) (F : Nat → Int32) (lg : Nat → Int32) (r : (Nat → Int32)) : ng_RR := (none, hm (r) F lg)
def f_X6_gets  (w : Nat → Int32) (v1 : Int32) (v2 : Int32) : (Nat → Int32) := (if v2 < 0 then w else (upd w ((f_X6_note v2) + (nI 10)).toNatClampNeg ((w ((f_X6_note v2) + (nI 10)).toNatClampNeg) ||| ((nI 1) <<< (v1 &&& 31)))))
def s_X6_gets  (w : Nat → Int32) (v1 : Int32) (v2 : Int32) : Prop := (¬ v2 < 0 → (vp_in ((f_X6_note v2) + (nI 10)) 527 ∧ vp_in ((f_X6_note v2) + (nI 10)) 527))
set_option maxRecDepth 100000 in
set_option maxHeartbeats 4000000 in
theorem e_X6_gets {G : ng_GG} {hm : (Nat → Int32) → (Nat → Int32) → (Nat → Int32) → ng_AM} {a : Nat} (V : ng_ML hm a) {w : Nat → Int32} {F : Nat → Int32} {lg : Nat → Int32}  {v1 : Int32} {v2 : Int32} (h : s_X6_gets  w v1 v2)  : ng_Ev G md_X6_gets 0 [some (.ref a), some (.int v1), some (.int v2)] [] (hm w F lg) (K_X6_gets hm F lg (f_X6_gets  w v1 v2)) := by
  unfold s_X6_gets at h
  unfold f_X6_gets
  refine ev_iload_n dX6_gets_0 rfl rfl ?_
  refine bk_if_lt (tgt := 19) dX6_gets_1 (by decide) (fun c1 => ?_) (fun c1 => ?_)
  · exact ev_vret rfl dX6_gets_19
  · replace h := h c1
    refine ev_aload_n dX6_gets_4 rfl rfl rfl ?_
    refine ev_iload_n dX6_gets_5 rfl rfl ?_
    refine bk_callS (As := [.int v2]) (st := [.ref a]) (st2 := [.int (f_X6_note v2), .ref a]) (M2 := hm w F lg) ok_X6_note lk_RX6_71 (ng_rok.of rfl rfl) rfl rfl rfl rfl dX6_gets_6 (m_X6_note trivial) rfl rfl ?_
    refine ev_bipush (v := nI 10) dX6_gets_9 (by decide) ?_
    refine ev_iadd dX6_gets_11 ?_
    refine ev_dup2 dX6_gets_12 rfl rfl ?_
    have hi13 := h.1
    replace h := h.2
    refine ev_iald (ML_ga V) hi13 dX6_gets_13 ?_
    refine ev_iconst (v := nI 1) dX6_gets_14 (by decide) ?_
    refine ev_iload_n dX6_gets_15 rfl rfl ?_
    refine ev_ishl dX6_gets_16 ?_
    refine ev_ior dX6_gets_17 ?_
    have hi18 := h
    refine ev_iast (ML_ga V) hi18 (ML_sa V) dX6_gets_18 ?_
    exact ev_vret rfl dX6_gets_19
theorem m_X6_gets {G : ng_GG} {hm : (Nat → Int32) → (Nat → Int32) → (Nat → Int32) → ng_AM} {a : Nat} (V : ng_ML hm a) {w : Nat → Int32} {F : Nat → Int32} {lg : Nat → Int32} {v1 : Int32} {v2 : Int32} (h : s_X6_gets w v1 v2)  : ng_Ev G md_X6_gets 0 (ng_en 3 [.ref a, .int v1, .int v2]) [] (hm w F lg) (K_X6_gets hm F lg (f_X6_gets w v1 v2)) := e_X6_gets V h 
def K_X6_removes (hm : (Nat → Int32) → (Nat → Int32) → (Nat → Int32) → ng_AM) (F : Nat → Int32) (lg : Nat → Int32) (r : (Nat → Int32)) : ng_RR := (none, hm (r) F lg)
def f_X6_removes_35  : Nat → (Nat → Int32) → Int32 → ((Nat → Int32))
  | 0, w, _ => w
  | n + 1, w, v2 => (if (nI 527) ≤ v2 then (upd w (nI 14).toNatClampNeg ((w (nI 14).toNatClampNeg) - (nI 1))) else f_X6_removes_35 n (upd w v2.toNatClampNeg (nI 0)) (v2 + nI 1))
def s_X6_removes_35  : Nat → (Nat → Int32) → Int32 → Prop
  | 0, _, _ => False
  | n + 1, w, v2 => (¬ (nI 527) ≤ v2 → (vp_in v2 527 ∧ s_X6_removes_35 n (upd w v2.toNatClampNeg (nI 0)) (v2 + nI 1)))
set_option maxRecDepth 100000 in
set_option maxHeartbeats 4000000 in
theorem e_X6_removes_35 {G : ng_GG} {hm : (Nat → Int32) → (Nat → Int32) → (Nat → Int32) → ng_AM} {a : Nat} (V : ng_ML hm a)  : ∀ (n : Nat) (w : Nat → Int32) (F : Nat → Int32) (lg : Nat → Int32) (v2 : Int32), s_X6_removes_35  n w v2 → ng_Ev G md_X6_removes 35 [some (.ref a), none, some (.int v2)] [] (hm w F lg) (K_X6_removes hm F lg (f_X6_removes_35  n w v2)) := by
  intro n
  induction n with
  | zero => intro w F lg v2 h; exact False.elim h
  | succ n ih =>
    intro w F lg v2 h 
    rw [s_X6_removes_35] at h
    rw [f_X6_removes_35]
    refine ev_iload_n dX6_removes_35 rfl rfl ?_
    refine ev_sipush (v := nI 527) dX6_removes_36 (by decide) ?_
    refine bk_icmp_ge (tgt := 52) dX6_removes_39 (by decide) (fun c39 => ?_) (fun c39 => ?_)
    · refine ev_aload_n dX6_removes_52 rfl rfl rfl ?_
      refine ev_bipush (v := nI 14) dX6_removes_53 (by decide) ?_
      refine ev_dup2 dX6_removes_55 rfl rfl ?_
      refine ev_iald (ML_ga V) (vp_in_nI (by decide) (by decide)) dX6_removes_56 ?_
      refine ev_iconst (v := nI 1) dX6_removes_57 (by decide) ?_
      refine ev_isub dX6_removes_58 ?_
      refine ev_iast (ML_ga V) (vp_in_nI (by decide) (by decide)) (ML_sa V) dX6_removes_59 ?_
      exact ev_vret rfl dX6_removes_60
    · replace h := h c39
      refine ev_aload_n dX6_removes_42 rfl rfl rfl ?_
      refine ev_iload_n dX6_removes_43 rfl rfl ?_
      refine ev_iconst (v := nI 0) dX6_removes_44 (by decide) ?_
      have hi45 := h.1
      replace h := h.2
      refine ev_iast (ML_ga V) hi45 (ML_sa V) dX6_removes_45 ?_
      refine ev_iinc (v := v2 + nI 1) (L' := [some (.ref a), none, some (.int (v2 + nI 1))]) dX6_removes_46 rfl (by rfl) rfl ?_
      refine ev_goto (tgt := 35) dX6_removes_49 (by decide) ?_
      exact ev_sub (ih (upd w v2.toNatClampNeg (nI 0)) F lg (v2 + nI 1) h) (sub_s (sub_n (sub_s sub_e)))
def f_X6_removes_5  : Nat → (Nat → Int32) → Int32 → ((Nat → Int32))
  | 0, w, _ => w
  | n + 1, w, v2 => (if (f_X6_letter (nI 11)) ≤ v2 then f_X6_removes_35 ng_F w (f_X6_letter (nI 11)) else f_X6_removes_5 n (upd w v2.toNatClampNeg (w (v2 + (nI 7)).toNatClampNeg)) (v2 + nI 1))
def s_X6_removes_5  : Nat → (Nat → Int32) → Int32 → Prop
  | 0, _, _ => False
  | n + 1, w, v2 => (((f_X6_letter (nI 11)) ≤ v2 → s_X6_removes_35 ng_F w (f_X6_letter (nI 11))) ∧ (¬ (f_X6_letter (nI 11)) ≤ v2 → (vp_in (v2 + (nI 7)) 527 ∧ (vp_in v2 527 ∧ s_X6_removes_5 n (upd w v2.toNatClampNeg (w (v2 + (nI 7)).toNatClampNeg)) (v2 + nI 1)))))
set_option maxRecDepth 100000 in
set_option maxHeartbeats 4000000 in
theorem e_X6_removes_5 {G : ng_GG} {hm : (Nat → Int32) → (Nat → Int32) → (Nat → Int32) → ng_AM} {a : Nat} (V : ng_ML hm a)  : ∀ (n : Nat) (w : Nat → Int32) (F : Nat → Int32) (lg : Nat → Int32) (v2 : Int32), s_X6_removes_5  n w v2 → ng_Ev G md_X6_removes 5 [some (.ref a), none, some (.int v2)] [] (hm w F lg) (K_X6_removes hm F lg (f_X6_removes_5  n w v2)) := by
  intro n
  induction n with
  | zero => intro w F lg v2 h; exact False.elim h
  | succ n ih =>
    intro w F lg v2 h 
    rw [s_X6_removes_5] at h
    rw [f_X6_removes_5]
    refine ev_iload_n dX6_removes_5 rfl rfl ?_
    refine ev_bipush (v := nI 11) dX6_removes_6 (by decide) ?_
    refine bk_callS (As := [.int (nI 11)]) (st := [.int v2]) (st2 := [.int (f_X6_letter (nI 11)), .int v2]) (M2 := hm w F lg) ok_X6_letter lk_RX6_99 (ng_rok.of rfl rfl) rfl rfl rfl rfl dX6_removes_8 (m_X6_letter trivial) rfl rfl ?_
    refine bk_icmp_ge (tgt := 29) dX6_removes_11 (by decide) (fun c11 => ?_) (fun c11 => ?_)
    · replace h := h.1 c11
      refine ev_bipush (v := nI 11) dX6_removes_29 (by decide) ?_
      refine bk_callS (As := [.int (nI 11)]) (st := []) (st2 := [.int (f_X6_letter (nI 11))]) (M2 := hm w F lg) ok_X6_letter lk_RX6_99 (ng_rok.of rfl rfl) rfl rfl rfl rfl dX6_removes_31 (m_X6_letter trivial) rfl rfl ?_
      refine ev_istore_n (L' := [some (.ref a), none, some (.int (f_X6_letter (nI 11)))]) dX6_removes_34 rfl (ng_lt rfl) rfl ?_
      exact ev_sub (e_X6_removes_35 V ng_F w F lg (f_X6_letter (nI 11)) h) (sub_s (sub_n (sub_s sub_e)))
    · replace h := h.2 c11
      refine ev_aload_n dX6_removes_14 rfl rfl rfl ?_
      refine ev_iload_n dX6_removes_15 rfl rfl ?_
      refine ev_aload_n dX6_removes_16 rfl rfl rfl ?_
      refine ev_iload_n dX6_removes_17 rfl rfl ?_
      refine ev_bipush (v := nI 7) dX6_removes_18 (by decide) ?_
      refine ev_iadd dX6_removes_20 ?_
      have hi21 := h.1
      replace h := h.2
      refine ev_iald (ML_ga V) hi21 dX6_removes_21 ?_
      have hi22 := h.1
      replace h := h.2
      refine ev_iast (ML_ga V) hi22 (ML_sa V) dX6_removes_22 ?_
      refine ev_iinc (v := v2 + nI 1) (L' := [some (.ref a), none, some (.int (v2 + nI 1))]) dX6_removes_23 rfl (by rfl) rfl ?_
      refine ev_goto (tgt := 5) dX6_removes_26 (by decide) ?_
      exact ev_sub (ih (upd w v2.toNatClampNeg (w (v2 + (nI 7)).toNatClampNeg)) F lg (v2 + nI 1) h) (sub_s (sub_n (sub_s sub_e)))
def f_X6_removes  (w : Nat → Int32) (v1 : Int32) : (Nat → Int32) := f_X6_removes_5 ng_F w (f_X6_letter v1)
def s_X6_removes  (w : Nat → Int32) (v1 : Int32) : Prop := s_X6_removes_5 ng_F w (f_X6_letter v1)
set_option maxRecDepth 100000 in
set_option maxHeartbeats 4000000 in
theorem e_X6_removes {G : ng_GG} {hm : (Nat → Int32) → (Nat → Int32) → (Nat → Int32) → ng_AM} {a : Nat} (V : ng_ML hm a) {w : Nat → Int32} {F : Nat → Int32} {lg : Nat → Int32}  {v1 : Int32} (h : s_X6_removes  w v1)  : ng_Ev G md_X6_removes 0 [some (.ref a), some (.int v1), none] [] (hm w F lg) (K_X6_removes hm F lg (f_X6_removes  w v1)) := by
  unfold s_X6_removes at h
  unfold f_X6_removes
  refine ev_iload_n dX6_removes_0 rfl rfl ?_
  refine bk_callS (As := [.int v1]) (st := []) (st2 := [.int (f_X6_letter v1)]) (M2 := hm w F lg) ok_X6_letter lk_RX6_99 (ng_rok.of rfl rfl) rfl rfl rfl rfl dX6_removes_1 (m_X6_letter trivial) rfl rfl ?_
  refine ev_istore_n (L' := [some (.ref a), some (.int v1), some (.int (f_X6_letter v1))]) dX6_removes_4 rfl (ng_lt rfl) rfl ?_
  exact ev_sub (e_X6_removes_5 V ng_F w F lg (f_X6_letter v1) h) (sub_s (sub_n (sub_s sub_e)))
theorem m_X6_removes {G : ng_GG} {hm : (Nat → Int32) → (Nat → Int32) → (Nat → Int32) → ng_AM} {a : Nat} (V : ng_ML hm a) {w : Nat → Int32} {F : Nat → Int32} {lg : Nat → Int32} {v1 : Int32} (h : s_X6_removes w v1)  : ng_Ev G md_X6_removes 0 (ng_en 3 [.ref a, .int v1]) [] (hm w F lg) (K_X6_removes hm F lg (f_X6_removes w v1)) := e_X6_removes V h 
def K_X6_posts (hm : (Nat → Int32) → (Nat → Int32) → (Nat → Int32) → ng_AM) (lg : Nat → Int32) (r : (Nat → Int32) × (Nat → Int32)) : ng_RR := (none, hm (r.1) (r.2) lg)
def f_X6_posts_26  (w : Nat → Int32) (F : Nat → Int32) (t0 : Int32) (t1 : Int32) : (Nat → Int32) × (Nat → Int32) := (w, (upd F 3 (t1 + t0)))
def s_X6_posts_26  (w : Nat → Int32) (F : Nat → Int32) (t0 : Int32) (t1 : Int32) : Prop := True
set_option maxRecDepth 100000 in
set_option maxHeartbeats 4000000 in
theorem e_X6_posts_26 {G : ng_GG} {hm : (Nat → Int32) → (Nat → Int32) → (Nat → Int32) → ng_AM} {a : Nat} (V : ng_ML hm a) {w : Nat → Int32} {F : Nat → Int32} {lg : Nat → Int32}  {t0 : Int32} {t1 : Int32} (h : s_X6_posts_26  w F t0 t1)  : ng_Ev G md_X6_posts 26 [none, none, none, none, none, none, none, none, none, none] [.int t0, .int t1, .ref 28] (hm w F lg) (K_X6_posts hm lg (f_X6_posts_26  w F t0 t1)) := by
  unfold s_X6_posts_26 at h
  unfold f_X6_posts_26
  refine ev_iadd dX6_posts_26 ?_
  refine ev_put 6 3 fs_RX6_92 (ML_g28 V) (ng_lt rfl) rfl (ML_s28 V (F' := (upd F 3 (t1 + t0)))) (ng_fit_i _) dX6_posts_27 ?_
  exact ev_vret rfl dX6_posts_30
def f_X6_posts_187  (w : Nat → Int32) (F : Nat → Int32) (v7 : Int32) (t0 : Int32) : (Nat → Int32) × (Nat → Int32) := (if (f_X6_in t0 (nI 0) (nI 3)) = 0 then (w, F) else ((upd w ((f_X6_browser t0) + (nI 2)).toNatClampNeg v7), F))
def s_X6_posts_187  (w : Nat → Int32) (F : Nat → Int32) (v7 : Int32) (t0 : Int32) : Prop := (¬ (f_X6_in t0 (nI 0) (nI 3)) = 0 → vp_in ((f_X6_browser t0) + (nI 2)) 527)
set_option maxRecDepth 100000 in
set_option maxHeartbeats 4000000 in
theorem e_X6_posts_187 {G : ng_GG} {hm : (Nat → Int32) → (Nat → Int32) → (Nat → Int32) → ng_AM} {a : Nat} (V : ng_ML hm a) {w : Nat → Int32} {F : Nat → Int32} {lg : Nat → Int32}  {v7 : Int32} {t0 : Int32} (h : s_X6_posts_187  w F v7 t0)  : ng_Ev G md_X6_posts 187 [none, some (.ref a), none, none, none, none, none, some (.int v7), none, none] [.int t0] (hm w F lg) (K_X6_posts hm lg (f_X6_posts_187  w F v7 t0)) := by
  unfold s_X6_posts_187 at h
  unfold f_X6_posts_187
  refine ev_istore (L' := [none, some (.ref a), none, none, none, none, none, some (.int v7), none, some (.int t0)]) dX6_posts_187 (ng_lt rfl) rfl ?_
  refine ev_iload dX6_posts_189 rfl ?_
  refine ev_iconst (v := nI 0) dX6_posts_191 (by decide) ?_
  refine ev_iconst (v := nI 3) dX6_posts_192 (by decide) ?_
  refine bk_callS (As := [.int t0, .int (nI 0), .int (nI 3)]) (st := []) (st2 := [.int (f_X6_in t0 (nI 0) (nI 3))]) (M2 := hm w F lg) ok_X6_in lk_RX6_67 (ng_rok.of rfl rfl) rfl rfl rfl rfl dX6_posts_193 (m_X6_in trivial) rfl rfl ?_
  refine bk_if_eq (tgt := 210) dX6_posts_196 (by decide) (fun c196 => ?_) (fun c196 => ?_)
  · exact ev_vret rfl dX6_posts_210
  · replace h := h c196
    refine ev_aload_n dX6_posts_199 rfl rfl rfl ?_
    refine ev_iload dX6_posts_200 rfl ?_
    refine bk_callS (As := [.int t0]) (st := [.ref a]) (st2 := [.int (f_X6_browser t0), .ref a]) (M2 := hm w F lg) ok_X6_browser lk_RX6_82 (ng_rok.of rfl rfl) rfl rfl rfl rfl dX6_posts_202 (m_X6_browser trivial) rfl rfl ?_
    refine ev_iconst (v := nI 2) dX6_posts_205 (by decide) ?_
    refine ev_iadd dX6_posts_206 ?_
    refine ev_iload dX6_posts_207 rfl ?_
    have hi209 := h
    refine ev_iast (ML_ga V) hi209 (ML_sa V) dX6_posts_209 ?_
    exact ev_vret rfl dX6_posts_210
def f_X6_posts_172  (w : Nat → Int32) (F : Nat → Int32) (v2 : Int32) (v7 : Int32) : (Nat → Int32) × (Nat → Int32) := f_X6_posts_187 w F v7 v2
def s_X6_posts_172  (w : Nat → Int32) (F : Nat → Int32) (v2 : Int32) (v7 : Int32) : Prop := s_X6_posts_187 w F v7 v2
set_option maxRecDepth 100000 in
set_option maxHeartbeats 4000000 in
theorem e_X6_posts_172 {G : ng_GG} {hm : (Nat → Int32) → (Nat → Int32) → (Nat → Int32) → ng_AM} {a : Nat} (V : ng_ML hm a) {w : Nat → Int32} {F : Nat → Int32} {lg : Nat → Int32}  {v2 : Int32} {v7 : Int32} (h : s_X6_posts_172  w F v2 v7)  : ng_Ev G md_X6_posts 172 [none, some (.ref a), some (.int v2), none, none, none, none, some (.int v7), none, none] [] (hm w F lg) (K_X6_posts hm lg (f_X6_posts_172  w F v2 v7)) := by
  unfold s_X6_posts_172 at h
  unfold f_X6_posts_172
  refine ev_iload_n dX6_posts_172 rfl rfl ?_
  refine ev_goto (tgt := 187) dX6_posts_173 (by decide) ?_
  exact ev_sub (e_X6_posts_187 V h) (sub_n (sub_s (sub_n (sub_n (sub_n (sub_n (sub_n (sub_s (sub_n (sub_n sub_e))))))))))
def f_X6_posts_161  (w : Nat → Int32) (F : Nat → Int32) (v2 : Int32) (v3 : Int32) (v4 : Int32) (v7 : Int32) : (Nat → Int32) × (Nat → Int32) := (if v4 = 0 then f_X6_posts_172 w F v2 v7 else (if v4 = (nI 3) then f_X6_posts_172 w F v2 v7 else (if v4 = (nI 1) then f_X6_posts_187 w F v7 v3 else f_X6_posts_187 w F v7 (-1))))
def s_X6_posts_161  (w : Nat → Int32) (F : Nat → Int32) (v2 : Int32) (v3 : Int32) (v4 : Int32) (v7 : Int32) : Prop := ((v4 = 0 → s_X6_posts_172 w F v2 v7) ∧ (¬ v4 = 0 → ((v4 = (nI 3) → s_X6_posts_172 w F v2 v7) ∧ (¬ v4 = (nI 3) → ((v4 = (nI 1) → s_X6_posts_187 w F v7 v3) ∧ (¬ v4 = (nI 1) → s_X6_posts_187 w F v7 (-1)))))))
set_option maxRecDepth 100000 in
set_option maxHeartbeats 4000000 in
theorem e_X6_posts_161 {G : ng_GG} {hm : (Nat → Int32) → (Nat → Int32) → (Nat → Int32) → ng_AM} {a : Nat} (V : ng_ML hm a) {w : Nat → Int32} {F : Nat → Int32} {lg : Nat → Int32}  {v2 : Int32} {v3 : Int32} {v4 : Int32} {v7 : Int32} (h : s_X6_posts_161  w F v2 v3 v4 v7)  : ng_Ev G md_X6_posts 161 [none, some (.ref a), some (.int v2), some (.int v3), some (.int v4), none, none, some (.int v7), none, none] [] (hm w F lg) (K_X6_posts hm lg (f_X6_posts_161  w F v2 v3 v4 v7)) := by
  unfold s_X6_posts_161 at h
  unfold f_X6_posts_161
  refine ev_iload dX6_posts_161 rfl ?_
  refine bk_if_eq (tgt := 172) dX6_posts_163 (by decide) (fun c163 => ?_) (fun c163 => ?_)
  · replace h := h.1 c163
    exact ev_sub (e_X6_posts_172 V h) (sub_n (sub_s (sub_s (sub_n (sub_n (sub_n (sub_n (sub_s (sub_n (sub_n sub_e))))))))))
  · replace h := h.2 c163
    refine ev_iload dX6_posts_166 rfl ?_
    refine ev_iconst (v := nI 3) dX6_posts_168 (by decide) ?_
    refine bk_icmp_ne (tgt := 176) dX6_posts_169 (by decide) (fun c169 => ?_) (fun c169 => ?_)
    · replace h := h.2 c169
      refine ev_iload dX6_posts_176 rfl ?_
      refine ev_iconst (v := nI 1) dX6_posts_178 (by decide) ?_
      refine bk_icmp_ne (tgt := 186) dX6_posts_179 (by decide) (fun c179 => ?_) (fun c179 => ?_)
      · replace h := h.2 c179
        refine ev_iconst (v := (-1)) dX6_posts_186 (by decide) ?_
        exact ev_sub (e_X6_posts_187 V h) (sub_n (sub_s (sub_n (sub_n (sub_n (sub_n (sub_n (sub_s (sub_n (sub_n sub_e))))))))))
      · replace h := h.1 c179
        refine ev_iload_n dX6_posts_182 rfl rfl ?_
        refine ev_goto (tgt := 187) dX6_posts_183 (by decide) ?_
        exact ev_sub (e_X6_posts_187 V h) (sub_n (sub_s (sub_n (sub_n (sub_n (sub_n (sub_n (sub_s (sub_n (sub_n sub_e))))))))))
    · replace h := h.1 c169
      exact ev_sub (e_X6_posts_172 V h) (sub_n (sub_s (sub_s (sub_n (sub_n (sub_n (sub_n (sub_s (sub_n (sub_n sub_e))))))))))
def f_X6_posts_148  (w : Nat → Int32) (F : Nat → Int32) (v2 : Int32) (v3 : Int32) (v4 : Int32) (v6 : Int32) (v7 : Int32) : (Nat → Int32) × (Nat → Int32) := (if v4 = (nI 1) then f_X6_posts_161 (f_X6_gets w (nI 4) v6) F v2 v3 v4 v7 else f_X6_posts_161 w F v2 v3 v4 v7)
def s_X6_posts_148  (w : Nat → Int32) (F : Nat → Int32) (v2 : Int32) (v3 : Int32) (v4 : Int32) (v6 : Int32) (v7 : Int32) : Prop := ((v4 = (nI 1) → (s_X6_gets w (nI 4) v6 ∧ s_X6_posts_161 (f_X6_gets w (nI 4) v6) F v2 v3 v4 v7)) ∧ (¬ v4 = (nI 1) → s_X6_posts_161 w F v2 v3 v4 v7))
set_option maxRecDepth 100000 in
set_option maxHeartbeats 4000000 in
theorem e_X6_posts_148 {G : ng_GG} {hm : (Nat → Int32) → (Nat → Int32) → (Nat → Int32) → ng_AM} {a : Nat} (V : ng_ML hm a) {w : Nat → Int32} {F : Nat → Int32} {lg : Nat → Int32}  {v2 : Int32} {v3 : Int32} {v4 : Int32} {v6 : Int32} {v7 : Int32} (h : s_X6_posts_148  w F v2 v3 v4 v6 v7)  : ng_Ev G md_X6_posts 148 [none, some (.ref a), some (.int v2), some (.int v3), some (.int v4), none, some (.int v6), some (.int v7), none, none] [] (hm w F lg) (K_X6_posts hm lg (f_X6_posts_148  w F v2 v3 v4 v6 v7)) := by
  unfold s_X6_posts_148 at h
  unfold f_X6_posts_148
  refine ev_iload dX6_posts_148 rfl ?_
  refine ev_iconst (v := nI 1) dX6_posts_150 (by decide) ?_
  refine bk_icmp_ne (tgt := 161) dX6_posts_151 (by decide) (fun c151 => ?_) (fun c151 => ?_)
  · replace h := h.2 c151
    exact ev_sub (e_X6_posts_161 V h) (sub_n (sub_s (sub_s (sub_s (sub_s (sub_n (sub_n (sub_s (sub_n (sub_n sub_e))))))))))
  · replace h := h.1 c151
    refine ev_aload_n dX6_posts_154 rfl rfl rfl ?_
    refine ev_iconst (v := nI 4) dX6_posts_155 (by decide) ?_
    refine ev_iload dX6_posts_156 rfl ?_
    have hs158 := h.1
    replace h := h.2
    refine bk_callS (As := [.ref a, .int (nI 4), .int v6]) (st := []) (st2 := []) (M2 := hm (f_X6_gets w (nI 4) v6) F lg) ok_X6_gets lk_RX6_102 (ng_rok.of rfl rfl) rfl rfl rfl rfl dX6_posts_158 (m_X6_gets V hs158) rfl rfl ?_
    exact ev_sub (e_X6_posts_161 V h) (sub_n (sub_s (sub_s (sub_s (sub_s (sub_n (sub_n (sub_s (sub_n (sub_n sub_e))))))))))
def f_X6_posts_141  (w : Nat → Int32) (F : Nat → Int32) (v2 : Int32) (v3 : Int32) (v4 : Int32) (v5 : Int32) (v6 : Int32) (v7 : Int32) : (Nat → Int32) × (Nat → Int32) := f_X6_posts_148 (f_X6_gets w (nI 4) v5) F v2 v3 v4 v6 v7
def s_X6_posts_141  (w : Nat → Int32) (F : Nat → Int32) (v2 : Int32) (v3 : Int32) (v4 : Int32) (v5 : Int32) (v6 : Int32) (v7 : Int32) : Prop := (s_X6_gets w (nI 4) v5 ∧ s_X6_posts_148 (f_X6_gets w (nI 4) v5) F v2 v3 v4 v6 v7)
set_option maxRecDepth 100000 in
set_option maxHeartbeats 4000000 in
theorem e_X6_posts_141 {G : ng_GG} {hm : (Nat → Int32) → (Nat → Int32) → (Nat → Int32) → ng_AM} {a : Nat} (V : ng_ML hm a) {w : Nat → Int32} {F : Nat → Int32} {lg : Nat → Int32}  {v2 : Int32} {v3 : Int32} {v4 : Int32} {v5 : Int32} {v6 : Int32} {v7 : Int32} (h : s_X6_posts_141  w F v2 v3 v4 v5 v6 v7)  : ng_Ev G md_X6_posts 141 [none, some (.ref a), some (.int v2), some (.int v3), some (.int v4), some (.int v5), some (.int v6), some (.int v7), none, none] [] (hm w F lg) (K_X6_posts hm lg (f_X6_posts_141  w F v2 v3 v4 v5 v6 v7)) := by
  unfold s_X6_posts_141 at h
  unfold f_X6_posts_141
  refine ev_aload_n dX6_posts_141 rfl rfl rfl ?_
  refine ev_iconst (v := nI 4) dX6_posts_142 (by decide) ?_
  refine ev_iload dX6_posts_143 rfl ?_
  have hs145 := h.1
  replace h := h.2
  refine bk_callS (As := [.ref a, .int (nI 4), .int v5]) (st := []) (st2 := []) (M2 := hm (f_X6_gets w (nI 4) v5) F lg) ok_X6_gets lk_RX6_102 (ng_rok.of rfl rfl) rfl rfl rfl rfl dX6_posts_145 (m_X6_gets V hs145) rfl rfl ?_
  exact ev_sub (e_X6_posts_148 V h) (sub_n (sub_s (sub_s (sub_s (sub_s (sub_n (sub_s (sub_s (sub_n (sub_n sub_e))))))))))
def f_X6_posts_102  (w : Nat → Int32) (F : Nat → Int32) (v2 : Int32) (v3 : Int32) (v4 : Int32) (v5 : Int32) (v6 : Int32) (v7 : Int32) : (Nat → Int32) × (Nat → Int32) := (if ((((nI 1) <<< (v2 &&& 31)) ||| ((nI 1) <<< (v3 &&& 31))) &&& (w (nI 2).toNatClampNeg)) = 0 then (w, F) else (if v4 = (nI 2) then f_X6_posts_141 w F v2 v3 v4 v5 v6 v7 else (if v4 = (nI 3) then f_X6_posts_141 w F v2 v3 v4 v5 v6 v7 else (if v4 = (nI 4) then f_X6_posts_141 w F v2 v3 v4 v5 v6 v7 else (if v4 = (nI 1) then f_X6_posts_141 w F v2 v3 v4 v5 v6 v7 else f_X6_posts_148 w F v2 v3 v4 v6 v7)))))
def s_X6_posts_102  (w : Nat → Int32) (F : Nat → Int32) (v2 : Int32) (v3 : Int32) (v4 : Int32) (v5 : Int32) (v6 : Int32) (v7 : Int32) : Prop := (¬ ((((nI 1) <<< (v2 &&& 31)) ||| ((nI 1) <<< (v3 &&& 31))) &&& (w (nI 2).toNatClampNeg)) = 0 → ((v4 = (nI 2) → s_X6_posts_141 w F v2 v3 v4 v5 v6 v7) ∧ (¬ v4 = (nI 2) → ((v4 = (nI 3) → s_X6_posts_141 w F v2 v3 v4 v5 v6 v7) ∧ (¬ v4 = (nI 3) → ((v4 = (nI 4) → s_X6_posts_141 w F v2 v3 v4 v5 v6 v7) ∧ (¬ v4 = (nI 4) → ((v4 = (nI 1) → s_X6_posts_141 w F v2 v3 v4 v5 v6 v7) ∧ (¬ v4 = (nI 1) → s_X6_posts_148 w F v2 v3 v4 v6 v7)))))))))
set_option maxRecDepth 100000 in
set_option maxHeartbeats 4000000 in
theorem e_X6_posts_102 {G : ng_GG} {hm : (Nat → Int32) → (Nat → Int32) → (Nat → Int32) → ng_AM} {a : Nat} (V : ng_ML hm a) {w : Nat → Int32} {F : Nat → Int32} {lg : Nat → Int32}  {v2 : Int32} {v3 : Int32} {v4 : Int32} {v5 : Int32} {v6 : Int32} {v7 : Int32} (h : s_X6_posts_102  w F v2 v3 v4 v5 v6 v7)  : ng_Ev G md_X6_posts 102 [none, some (.ref a), some (.int v2), some (.int v3), some (.int v4), some (.int v5), some (.int v6), some (.int v7), none, none] [] (hm w F lg) (K_X6_posts hm lg (f_X6_posts_102  w F v2 v3 v4 v5 v6 v7)) := by
  unfold s_X6_posts_102 at h
  unfold f_X6_posts_102
  refine ev_iconst (v := nI 1) dX6_posts_102 (by decide) ?_
  refine ev_iload_n dX6_posts_103 rfl rfl ?_
  refine ev_ishl dX6_posts_104 ?_
  refine ev_iconst (v := nI 1) dX6_posts_105 (by decide) ?_
  refine ev_iload_n dX6_posts_106 rfl rfl ?_
  refine ev_ishl dX6_posts_107 ?_
  refine ev_ior dX6_posts_108 ?_
  refine ev_aload_n dX6_posts_109 rfl rfl rfl ?_
  refine ev_iconst (v := nI 2) dX6_posts_110 (by decide) ?_
  refine ev_iald (ML_ga V) (vp_in_nI (by decide) (by decide)) dX6_posts_111 ?_
  refine ev_iand dX6_posts_112 ?_
  refine bk_if_ne (tgt := 117) dX6_posts_113 (by decide) (fun c113 => ?_) (fun c113 => ?_)
  · replace h := h c113
    refine ev_iload dX6_posts_117 rfl ?_
    refine ev_iconst (v := nI 2) dX6_posts_119 (by decide) ?_
    refine bk_icmp_eq (tgt := 141) dX6_posts_120 (by decide) (fun c120 => ?_) (fun c120 => ?_)
    · replace h := h.1 c120
      exact ev_sub (e_X6_posts_141 V h) (sub_n (sub_s (sub_s (sub_s (sub_s (sub_s (sub_s (sub_s (sub_n (sub_n sub_e))))))))))
    · replace h := h.2 c120
      refine ev_iload dX6_posts_123 rfl ?_
      refine ev_iconst (v := nI 3) dX6_posts_125 (by decide) ?_
      refine bk_icmp_eq (tgt := 141) dX6_posts_126 (by decide) (fun c126 => ?_) (fun c126 => ?_)
      · replace h := h.1 c126
        exact ev_sub (e_X6_posts_141 V h) (sub_n (sub_s (sub_s (sub_s (sub_s (sub_s (sub_s (sub_s (sub_n (sub_n sub_e))))))))))
      · replace h := h.2 c126
        refine ev_iload dX6_posts_129 rfl ?_
        refine ev_iconst (v := nI 4) dX6_posts_131 (by decide) ?_
        refine bk_icmp_eq (tgt := 141) dX6_posts_132 (by decide) (fun c132 => ?_) (fun c132 => ?_)
        · replace h := h.1 c132
          exact ev_sub (e_X6_posts_141 V h) (sub_n (sub_s (sub_s (sub_s (sub_s (sub_s (sub_s (sub_s (sub_n (sub_n sub_e))))))))))
        · replace h := h.2 c132
          refine ev_iload dX6_posts_135 rfl ?_
          refine ev_iconst (v := nI 1) dX6_posts_137 (by decide) ?_
          refine bk_icmp_ne (tgt := 148) dX6_posts_138 (by decide) (fun c138 => ?_) (fun c138 => ?_)
          · replace h := h.2 c138
            exact ev_sub (e_X6_posts_148 V h) (sub_n (sub_s (sub_s (sub_s (sub_s (sub_n (sub_s (sub_s (sub_n (sub_n sub_e))))))))))
          · replace h := h.1 c138
            exact ev_sub (e_X6_posts_141 V h) (sub_n (sub_s (sub_s (sub_s (sub_s (sub_s (sub_s (sub_s (sub_n (sub_n sub_e))))))))))
  · exact ev_vret rfl dX6_posts_116
def f_X6_posts  (w : Nat → Int32) (F : Nat → Int32) (v2 : Int32) (v3 : Int32) (v4 : Int32) (v5 : Int32) (v6 : Int32) (v7 : Int32) : (Nat → Int32) × (Nat → Int32) := (if (w (nI 14).toNatClampNeg) = (nI 12) then (if (F 2) = 0 then f_X6_posts_26 w F (nI 1) (F 3) else f_X6_posts_26 w F (nI 0) (F 3)) else f_X6_posts_102 (upd (upd (upd (upd (upd (upd (upd (upd w (nI 14).toNatClampNeg ((w (nI 14).toNatClampNeg) + (nI 1))) (f_X6_letter (w (nI 14).toNatClampNeg)).toNatClampNeg v2) ((f_X6_letter (w (nI 14).toNatClampNeg)) + (nI 1)).toNatClampNeg v3) ((f_X6_letter (w (nI 14).toNatClampNeg)) + (nI 2)).toNatClampNeg v4) ((f_X6_letter (w (nI 14).toNatClampNeg)) + (nI 3)).toNatClampNeg v5) ((f_X6_letter (w (nI 14).toNatClampNeg)) + (nI 4)).toNatClampNeg v6) ((f_X6_letter (w (nI 14).toNatClampNeg)) + (nI 5)).toNatClampNeg v7) ((f_X6_letter (w (nI 14).toNatClampNeg)) + (nI 6)).toNatClampNeg ((upd (upd (upd (upd (upd (upd (upd w (nI 14).toNatClampNeg ((w (nI 14).toNatClampNeg) + (nI 1))) (f_X6_letter (w (nI 14).toNatClampNeg)).toNatClampNeg v2) ((f_X6_letter (w (nI 14).toNatClampNeg)) + (nI 1)).toNatClampNeg v3) ((f_X6_letter (w (nI 14).toNatClampNeg)) + (nI 2)).toNatClampNeg v4) ((f_X6_letter (w (nI 14).toNatClampNeg)) + (nI 3)).toNatClampNeg v5) ((f_X6_letter (w (nI 14).toNatClampNeg)) + (nI 4)).toNatClampNeg v6) ((f_X6_letter (w (nI 14).toNatClampNeg)) + (nI 5)).toNatClampNeg v7) (nI 0).toNatClampNeg)) F v2 v3 v4 v5 v6 v7)
def s_X6_posts  (w : Nat → Int32) (F : Nat → Int32) (v2 : Int32) (v3 : Int32) (v4 : Int32) (v5 : Int32) (v6 : Int32) (v7 : Int32) : Prop := (((w (nI 14).toNatClampNeg) = (nI 12) → (((F 2) = 0 → s_X6_posts_26 w F (nI 1) (F 3)) ∧ (¬ (F 2) = 0 → s_X6_posts_26 w F (nI 0) (F 3)))) ∧ (¬ (w (nI 14).toNatClampNeg) = (nI 12) → (vp_in (f_X6_letter (w (nI 14).toNatClampNeg)) 527 ∧ (vp_in ((f_X6_letter (w (nI 14).toNatClampNeg)) + (nI 1)) 527 ∧ (vp_in ((f_X6_letter (w (nI 14).toNatClampNeg)) + (nI 2)) 527 ∧ (vp_in ((f_X6_letter (w (nI 14).toNatClampNeg)) + (nI 3)) 527 ∧ (vp_in ((f_X6_letter (w (nI 14).toNatClampNeg)) + (nI 4)) 527 ∧ (vp_in ((f_X6_letter (w (nI 14).toNatClampNeg)) + (nI 5)) 527 ∧ (vp_in ((f_X6_letter (w (nI 14).toNatClampNeg)) + (nI 6)) 527 ∧ s_X6_posts_102 (upd (upd (upd (upd (upd (upd (upd (upd w (nI 14).toNatClampNeg ((w (nI 14).toNatClampNeg) + (nI 1))) (f_X6_letter (w (nI 14).toNatClampNeg)).toNatClampNeg v2) ((f_X6_letter (w (nI 14).toNatClampNeg)) + (nI 1)).toNatClampNeg v3) ((f_X6_letter (w (nI 14).toNatClampNeg)) + (nI 2)).toNatClampNeg v4) ((f_X6_letter (w (nI 14).toNatClampNeg)) + (nI 3)).toNatClampNeg v5) ((f_X6_letter (w (nI 14).toNatClampNeg)) + (nI 4)).toNatClampNeg v6) ((f_X6_letter (w (nI 14).toNatClampNeg)) + (nI 5)).toNatClampNeg v7) ((f_X6_letter (w (nI 14).toNatClampNeg)) + (nI 6)).toNatClampNeg ((upd (upd (upd (upd (upd (upd (upd w (nI 14).toNatClampNeg ((w (nI 14).toNatClampNeg) + (nI 1))) (f_X6_letter (w (nI 14).toNatClampNeg)).toNatClampNeg v2) ((f_X6_letter (w (nI 14).toNatClampNeg)) + (nI 1)).toNatClampNeg v3) ((f_X6_letter (w (nI 14).toNatClampNeg)) + (nI 2)).toNatClampNeg v4) ((f_X6_letter (w (nI 14).toNatClampNeg)) + (nI 3)).toNatClampNeg v5) ((f_X6_letter (w (nI 14).toNatClampNeg)) + (nI 4)).toNatClampNeg v6) ((f_X6_letter (w (nI 14).toNatClampNeg)) + (nI 5)).toNatClampNeg v7) (nI 0).toNatClampNeg)) F v2 v3 v4 v5 v6 v7)))))))))
set_option maxRecDepth 100000 in
set_option maxHeartbeats 4000000 in
theorem e_X6_posts {G : ng_GG} {hm : (Nat → Int32) → (Nat → Int32) → (Nat → Int32) → ng_AM} {a : Nat} (V : ng_ML hm a) {w : Nat → Int32} {F : Nat → Int32} {lg : Nat → Int32}  {v2 : Int32} {v3 : Int32} {v4 : Int32} {v5 : Int32} {v6 : Int32} {v7 : Int32} (h : s_X6_posts  w F v2 v3 v4 v5 v6 v7)  : ng_Ev G md_X6_posts 0 [some (.ref 28), some (.ref a), some (.int v2), some (.int v3), some (.int v4), some (.int v5), some (.int v6), some (.int v7), none, none] [] (hm w F lg) (K_X6_posts hm lg (f_X6_posts  w F v2 v3 v4 v5 v6 v7)) := by
  unfold s_X6_posts at h
  unfold f_X6_posts
  refine ev_aload_n dX6_posts_0 rfl rfl rfl ?_
  refine ev_bipush (v := nI 14) dX6_posts_1 (by decide) ?_
  refine ev_iald (ML_ga V) (vp_in_nI (by decide) (by decide)) dX6_posts_3 ?_
  refine ev_bipush (v := nI 12) dX6_posts_4 (by decide) ?_
  refine bk_icmp_ne (tgt := 31) dX6_posts_6 (by decide) (fun c6 => ?_) (fun c6 => ?_)
  · replace h := h.2 c6
    refine ev_aload_n dX6_posts_31 rfl rfl rfl ?_
    refine ev_bipush (v := nI 14) dX6_posts_32 (by decide) ?_
    refine ev_iald (ML_ga V) (vp_in_nI (by decide) (by decide)) dX6_posts_34 ?_
    refine bk_callS (As := [.int (w (nI 14).toNatClampNeg)]) (st := []) (st2 := [.int (f_X6_letter (w (nI 14).toNatClampNeg))]) (M2 := hm w F lg) ok_X6_letter lk_RX6_99 (ng_rok.of rfl rfl) rfl rfl rfl rfl dX6_posts_35 (m_X6_letter trivial) rfl rfl ?_
    refine ev_istore (L' := [some (.ref 28), some (.ref a), some (.int v2), some (.int v3), some (.int v4), some (.int v5), some (.int v6), some (.int v7), some (.int (f_X6_letter (w (nI 14).toNatClampNeg))), none]) dX6_posts_38 (ng_lt rfl) rfl ?_
    refine ev_aload_n dX6_posts_40 rfl rfl rfl ?_
    refine ev_bipush (v := nI 14) dX6_posts_41 (by decide) ?_
    refine ev_dup2 dX6_posts_43 rfl rfl ?_
    refine ev_iald (ML_ga V) (vp_in_nI (by decide) (by decide)) dX6_posts_44 ?_
    refine ev_iconst (v := nI 1) dX6_posts_45 (by decide) ?_
    refine ev_iadd dX6_posts_46 ?_
    refine ev_iast (ML_ga V) (vp_in_nI (by decide) (by decide)) (ML_sa V) dX6_posts_47 ?_
    refine ev_aload_n dX6_posts_48 rfl rfl rfl ?_
    refine ev_iload dX6_posts_49 rfl ?_
    refine ev_iload_n dX6_posts_51 rfl rfl ?_
    have hi52 := h.1
    replace h := h.2
    refine ev_iast (ML_ga V) hi52 (ML_sa V) dX6_posts_52 ?_
    refine ev_aload_n dX6_posts_53 rfl rfl rfl ?_
    refine ev_iload dX6_posts_54 rfl ?_
    refine ev_iconst (v := nI 1) dX6_posts_56 (by decide) ?_
    refine ev_iadd dX6_posts_57 ?_
    refine ev_iload_n dX6_posts_58 rfl rfl ?_
    have hi59 := h.1
    replace h := h.2
    refine ev_iast (ML_ga V) hi59 (ML_sa V) dX6_posts_59 ?_
    refine ev_aload_n dX6_posts_60 rfl rfl rfl ?_
    refine ev_iload dX6_posts_61 rfl ?_
    refine ev_iconst (v := nI 2) dX6_posts_63 (by decide) ?_
    refine ev_iadd dX6_posts_64 ?_
    refine ev_iload dX6_posts_65 rfl ?_
    have hi67 := h.1
    replace h := h.2
    refine ev_iast (ML_ga V) hi67 (ML_sa V) dX6_posts_67 ?_
    refine ev_aload_n dX6_posts_68 rfl rfl rfl ?_
    refine ev_iload dX6_posts_69 rfl ?_
    refine ev_iconst (v := nI 3) dX6_posts_71 (by decide) ?_
    refine ev_iadd dX6_posts_72 ?_
    refine ev_iload dX6_posts_73 rfl ?_
    have hi75 := h.1
    replace h := h.2
    refine ev_iast (ML_ga V) hi75 (ML_sa V) dX6_posts_75 ?_
    refine ev_aload_n dX6_posts_76 rfl rfl rfl ?_
    refine ev_iload dX6_posts_77 rfl ?_
    refine ev_iconst (v := nI 4) dX6_posts_79 (by decide) ?_
    refine ev_iadd dX6_posts_80 ?_
    refine ev_iload dX6_posts_81 rfl ?_
    have hi83 := h.1
    replace h := h.2
    refine ev_iast (ML_ga V) hi83 (ML_sa V) dX6_posts_83 ?_
    refine ev_aload_n dX6_posts_84 rfl rfl rfl ?_
    refine ev_iload dX6_posts_85 rfl ?_
    refine ev_iconst (v := nI 5) dX6_posts_87 (by decide) ?_
    refine ev_iadd dX6_posts_88 ?_
    refine ev_iload dX6_posts_89 rfl ?_
    have hi91 := h.1
    replace h := h.2
    refine ev_iast (ML_ga V) hi91 (ML_sa V) dX6_posts_91 ?_
    refine ev_aload_n dX6_posts_92 rfl rfl rfl ?_
    refine ev_iload dX6_posts_93 rfl ?_
    refine ev_bipush (v := nI 6) dX6_posts_95 (by decide) ?_
    refine ev_iadd dX6_posts_97 ?_
    refine ev_aload_n dX6_posts_98 rfl rfl rfl ?_
    refine ev_iconst (v := nI 0) dX6_posts_99 (by decide) ?_
    refine ev_iald (ML_ga V) (vp_in_nI (by decide) (by decide)) dX6_posts_100 ?_
    have hi101 := h.1
    replace h := h.2
    refine ev_iast (ML_ga V) hi101 (ML_sa V) dX6_posts_101 ?_
    exact ev_sub (e_X6_posts_102 V h) (sub_n (sub_s (sub_s (sub_s (sub_s (sub_s (sub_s (sub_s (sub_n (sub_n sub_e))))))))))
  · replace h := h.1 c6
    refine ev_aload_n dX6_posts_9 rfl rfl rfl ?_
    refine ev_dup dX6_posts_10 rfl ?_
    refine ev_get 6 3 fl_RX6_92 (ML_g28 V) rfl dX6_posts_11 ?_
    refine ev_aload_n dX6_posts_14 rfl rfl rfl ?_
    refine ev_get 6 2 fl_RX6_95 (ML_g28 V) rfl dX6_posts_15 ?_
    refine bk_if_eq (tgt := 25) dX6_posts_18 (by decide) (fun c18 => ?_) (fun c18 => ?_)
    · replace h := h.1 c18
      refine ev_iconst (v := nI 1) dX6_posts_25 (by decide) ?_
      exact ev_sub (e_X6_posts_26 V h) (sub_n (sub_n (sub_n (sub_n (sub_n (sub_n (sub_n (sub_n (sub_n (sub_n sub_e))))))))))
    · replace h := h.2 c18
      refine ev_iconst (v := nI 0) dX6_posts_21 (by decide) ?_
      refine ev_goto (tgt := 26) dX6_posts_22 (by decide) ?_
      exact ev_sub (e_X6_posts_26 V h) (sub_n (sub_n (sub_n (sub_n (sub_n (sub_n (sub_n (sub_n (sub_n (sub_n sub_e))))))))))
theorem m_X6_posts {G : ng_GG} {hm : (Nat → Int32) → (Nat → Int32) → (Nat → Int32) → ng_AM} {a : Nat} (V : ng_ML hm a) {w : Nat → Int32} {F : Nat → Int32} {lg : Nat → Int32} {v2 : Int32} {v3 : Int32} {v4 : Int32} {v5 : Int32} {v6 : Int32} {v7 : Int32} (h : s_X6_posts w F v2 v3 v4 v5 v6 v7)  : ng_Ev G md_X6_posts 0 (ng_en 10 [.ref 28, .ref a, .int v2, .int v3, .int v4, .int v5, .int v6, .int v7]) [] (hm w F lg) (K_X6_posts hm lg (f_X6_posts w F v2 v3 v4 v5 v6 v7)) := e_X6_posts V h 
def K_X6_ends (hm : (Nat → Int32) → (Nat → Int32) → (Nat → Int32) → ng_AM) (lg : Nat → Int32) (r : (Nat → Int32) × (Nat → Int32)) : ng_RR := (none, hm (r.1) (r.2) lg)
def f_X6_ends_86 (kk13 : (Nat → Int32) → (Nat → Int32) → Int32 → Int32 → ((Nat → Int32) × (Nat → Int32))) (kk27 : (Nat → Int32) → (Nat → Int32) → Int32 → Int32 → Int32 → Int32 → ((Nat → Int32) × (Nat → Int32))) (w : Nat → Int32) (F : Nat → Int32) (v2 : Int32) (v3 : Int32) (v5 : Int32) (t0 : Int32) : (Nat → Int32) × (Nat → Int32) := kk27 w F v2 v3 t0 (v5 + nI 1)
def s_X6_ends_86 (sk13 : (Nat → Int32) → (Nat → Int32) → Int32 → Int32 → Prop) (sk27 : (Nat → Int32) → (Nat → Int32) → Int32 → Int32 → Int32 → Int32 → Prop) (w : Nat → Int32) (F : Nat → Int32) (v2 : Int32) (v3 : Int32) (v5 : Int32) (t0 : Int32) : Prop := sk27 w F v2 v3 t0 (v5 + nI 1)
set_option maxRecDepth 100000 in
set_option maxHeartbeats 4000000 in
theorem e_X6_ends_86 {G : ng_GG} {hm : (Nat → Int32) → (Nat → Int32) → (Nat → Int32) → ng_AM} {a : Nat} (V : ng_ML hm a) {w : Nat → Int32} {F : Nat → Int32} {lg : Nat → Int32} {kk13 : (Nat → Int32) → (Nat → Int32) → Int32 → Int32 → ((Nat → Int32) × (Nat → Int32))} {sk13 : (Nat → Int32) → (Nat → Int32) → Int32 → Int32 → Prop} {kk27 : (Nat → Int32) → (Nat → Int32) → Int32 → Int32 → Int32 → Int32 → ((Nat → Int32) × (Nat → Int32))} {sk27 : (Nat → Int32) → (Nat → Int32) → Int32 → Int32 → Int32 → Int32 → Prop} (hk13 : ∀ (w : Nat → Int32) (F : Nat → Int32) (lg : Nat → Int32) (v2 : Int32) (v3 : Int32), sk13 w F v2 v3 → ng_Ev G md_X6_ends 13 [some (.ref 28), some (.ref a), some (.int v2), some (.int v3), none, none] [] (hm w F lg) (K_X6_ends hm lg (kk13 w F v2 v3))) (hk27 : ∀ (w : Nat → Int32) (F : Nat → Int32) (lg : Nat → Int32) (v2 : Int32) (v3 : Int32) (v4 : Int32) (v5 : Int32), sk27 w F v2 v3 v4 v5 → ng_Ev G md_X6_ends 27 [some (.ref 28), some (.ref a), some (.int v2), some (.int v3), some (.int v4), some (.int v5)] [] (hm w F lg) (K_X6_ends hm lg (kk27 w F v2 v3 v4 v5))) {v2 : Int32} {v3 : Int32} {v5 : Int32} {t0 : Int32} (h : s_X6_ends_86 sk13 sk27 w F v2 v3 v5 t0)  : ng_Ev G md_X6_ends 86 [some (.ref 28), some (.ref a), some (.int v2), some (.int v3), none, some (.int v5)] [.int t0] (hm w F lg) (K_X6_ends hm lg (f_X6_ends_86 kk13 kk27 w F v2 v3 v5 t0)) := by
  unfold s_X6_ends_86 at h
  unfold f_X6_ends_86
  refine ev_istore (L' := [some (.ref 28), some (.ref a), some (.int v2), some (.int v3), some (.int t0), some (.int v5)]) dX6_ends_86 (ng_lt rfl) rfl ?_
  refine ev_iinc (v := v5 + nI 1) (L' := [some (.ref 28), some (.ref a), some (.int v2), some (.int v3), some (.int t0), some (.int (v5 + nI 1))]) dX6_ends_88 rfl (by rfl) rfl ?_
  refine ev_goto (tgt := 27) dX6_ends_91 (by decide) ?_
  exact ev_sub (hk27 w F lg v2 v3 t0 (v5 + nI 1) h) (sub_s (sub_s (sub_s (sub_s (sub_s (sub_s sub_e))))))
def f_X6_ends_81 (kk13 : (Nat → Int32) → (Nat → Int32) → Int32 → Int32 → ((Nat → Int32) × (Nat → Int32))) (kk27 : (Nat → Int32) → (Nat → Int32) → Int32 → Int32 → Int32 → Int32 → ((Nat → Int32) × (Nat → Int32))) (w : Nat → Int32) (F : Nat → Int32) (v2 : Int32) (v3 : Int32) (v5 : Int32) : (Nat → Int32) × (Nat → Int32) := f_X6_ends_86 kk13 kk27 w F v2 v3 v5 (nI 1)
def s_X6_ends_81 (sk13 : (Nat → Int32) → (Nat → Int32) → Int32 → Int32 → Prop) (sk27 : (Nat → Int32) → (Nat → Int32) → Int32 → Int32 → Int32 → Int32 → Prop) (w : Nat → Int32) (F : Nat → Int32) (v2 : Int32) (v3 : Int32) (v5 : Int32) : Prop := s_X6_ends_86 sk13 sk27 w F v2 v3 v5 (nI 1)
set_option maxRecDepth 100000 in
set_option maxHeartbeats 4000000 in
theorem e_X6_ends_81 {G : ng_GG} {hm : (Nat → Int32) → (Nat → Int32) → (Nat → Int32) → ng_AM} {a : Nat} (V : ng_ML hm a) {w : Nat → Int32} {F : Nat → Int32} {lg : Nat → Int32} {kk13 : (Nat → Int32) → (Nat → Int32) → Int32 → Int32 → ((Nat → Int32) × (Nat → Int32))} {sk13 : (Nat → Int32) → (Nat → Int32) → Int32 → Int32 → Prop} {kk27 : (Nat → Int32) → (Nat → Int32) → Int32 → Int32 → Int32 → Int32 → ((Nat → Int32) × (Nat → Int32))} {sk27 : (Nat → Int32) → (Nat → Int32) → Int32 → Int32 → Int32 → Int32 → Prop} (hk13 : ∀ (w : Nat → Int32) (F : Nat → Int32) (lg : Nat → Int32) (v2 : Int32) (v3 : Int32), sk13 w F v2 v3 → ng_Ev G md_X6_ends 13 [some (.ref 28), some (.ref a), some (.int v2), some (.int v3), none, none] [] (hm w F lg) (K_X6_ends hm lg (kk13 w F v2 v3))) (hk27 : ∀ (w : Nat → Int32) (F : Nat → Int32) (lg : Nat → Int32) (v2 : Int32) (v3 : Int32) (v4 : Int32) (v5 : Int32), sk27 w F v2 v3 v4 v5 → ng_Ev G md_X6_ends 27 [some (.ref 28), some (.ref a), some (.int v2), some (.int v3), some (.int v4), some (.int v5)] [] (hm w F lg) (K_X6_ends hm lg (kk27 w F v2 v3 v4 v5))) {v2 : Int32} {v3 : Int32} {v5 : Int32} (h : s_X6_ends_81 sk13 sk27 w F v2 v3 v5)  : ng_Ev G md_X6_ends 81 [some (.ref 28), some (.ref a), some (.int v2), some (.int v3), none, some (.int v5)] [] (hm w F lg) (K_X6_ends hm lg (f_X6_ends_81 kk13 kk27 w F v2 v3 v5)) := by
  unfold s_X6_ends_81 at h
  unfold f_X6_ends_81
  refine ev_iconst (v := nI 1) dX6_ends_81 (by decide) ?_
  refine ev_goto (tgt := 86) dX6_ends_82 (by decide) ?_
  exact ev_sub (e_X6_ends_86 V hk13 hk27 h) (sub_s (sub_s (sub_s (sub_s (sub_n (sub_s sub_e))))))
def f_X6_ends_85 (kk13 : (Nat → Int32) → (Nat → Int32) → Int32 → Int32 → ((Nat → Int32) × (Nat → Int32))) (kk27 : (Nat → Int32) → (Nat → Int32) → Int32 → Int32 → Int32 → Int32 → ((Nat → Int32) × (Nat → Int32))) (w : Nat → Int32) (F : Nat → Int32) (v2 : Int32) (v3 : Int32) (v5 : Int32) : (Nat → Int32) × (Nat → Int32) := f_X6_ends_86 kk13 kk27 w F v2 v3 v5 (nI 0)
def s_X6_ends_85 (sk13 : (Nat → Int32) → (Nat → Int32) → Int32 → Int32 → Prop) (sk27 : (Nat → Int32) → (Nat → Int32) → Int32 → Int32 → Int32 → Int32 → Prop) (w : Nat → Int32) (F : Nat → Int32) (v2 : Int32) (v3 : Int32) (v5 : Int32) : Prop := s_X6_ends_86 sk13 sk27 w F v2 v3 v5 (nI 0)
set_option maxRecDepth 100000 in
set_option maxHeartbeats 4000000 in
theorem e_X6_ends_85 {G : ng_GG} {hm : (Nat → Int32) → (Nat → Int32) → (Nat → Int32) → ng_AM} {a : Nat} (V : ng_ML hm a) {w : Nat → Int32} {F : Nat → Int32} {lg : Nat → Int32} {kk13 : (Nat → Int32) → (Nat → Int32) → Int32 → Int32 → ((Nat → Int32) × (Nat → Int32))} {sk13 : (Nat → Int32) → (Nat → Int32) → Int32 → Int32 → Prop} {kk27 : (Nat → Int32) → (Nat → Int32) → Int32 → Int32 → Int32 → Int32 → ((Nat → Int32) × (Nat → Int32))} {sk27 : (Nat → Int32) → (Nat → Int32) → Int32 → Int32 → Int32 → Int32 → Prop} (hk13 : ∀ (w : Nat → Int32) (F : Nat → Int32) (lg : Nat → Int32) (v2 : Int32) (v3 : Int32), sk13 w F v2 v3 → ng_Ev G md_X6_ends 13 [some (.ref 28), some (.ref a), some (.int v2), some (.int v3), none, none] [] (hm w F lg) (K_X6_ends hm lg (kk13 w F v2 v3))) (hk27 : ∀ (w : Nat → Int32) (F : Nat → Int32) (lg : Nat → Int32) (v2 : Int32) (v3 : Int32) (v4 : Int32) (v5 : Int32), sk27 w F v2 v3 v4 v5 → ng_Ev G md_X6_ends 27 [some (.ref 28), some (.ref a), some (.int v2), some (.int v3), some (.int v4), some (.int v5)] [] (hm w F lg) (K_X6_ends hm lg (kk27 w F v2 v3 v4 v5))) {v2 : Int32} {v3 : Int32} {v5 : Int32} (h : s_X6_ends_85 sk13 sk27 w F v2 v3 v5)  : ng_Ev G md_X6_ends 85 [some (.ref 28), some (.ref a), some (.int v2), some (.int v3), none, some (.int v5)] [] (hm w F lg) (K_X6_ends hm lg (f_X6_ends_85 kk13 kk27 w F v2 v3 v5)) := by
  unfold s_X6_ends_85 at h
  unfold f_X6_ends_85
  refine ev_iconst (v := nI 0) dX6_ends_85 (by decide) ?_
  exact ev_sub (e_X6_ends_86 V hk13 hk27 h) (sub_s (sub_s (sub_s (sub_s (sub_n (sub_s sub_e))))))
def f_X6_ends_125 (kk13 : (Nat → Int32) → (Nat → Int32) → Int32 → Int32 → ((Nat → Int32) × (Nat → Int32))) (w : Nat → Int32) (F : Nat → Int32) (v2 : Int32) (v3 : Int32) : (Nat → Int32) × (Nat → Int32) := kk13 w F v2 (v3 + nI 1)
def s_X6_ends_125 (sk13 : (Nat → Int32) → (Nat → Int32) → Int32 → Int32 → Prop) (w : Nat → Int32) (F : Nat → Int32) (v2 : Int32) (v3 : Int32) : Prop := sk13 w F v2 (v3 + nI 1)
set_option maxRecDepth 100000 in
set_option maxHeartbeats 4000000 in
theorem e_X6_ends_125 {G : ng_GG} {hm : (Nat → Int32) → (Nat → Int32) → (Nat → Int32) → ng_AM} {a : Nat} (V : ng_ML hm a) {w : Nat → Int32} {F : Nat → Int32} {lg : Nat → Int32} {kk13 : (Nat → Int32) → (Nat → Int32) → Int32 → Int32 → ((Nat → Int32) × (Nat → Int32))} {sk13 : (Nat → Int32) → (Nat → Int32) → Int32 → Int32 → Prop} (hk13 : ∀ (w : Nat → Int32) (F : Nat → Int32) (lg : Nat → Int32) (v2 : Int32) (v3 : Int32), sk13 w F v2 v3 → ng_Ev G md_X6_ends 13 [some (.ref 28), some (.ref a), some (.int v2), some (.int v3), none, none] [] (hm w F lg) (K_X6_ends hm lg (kk13 w F v2 v3))) {v2 : Int32} {v3 : Int32} (h : s_X6_ends_125 sk13 w F v2 v3)  : ng_Ev G md_X6_ends 125 [some (.ref 28), some (.ref a), some (.int v2), some (.int v3), none, none] [] (hm w F lg) (K_X6_ends hm lg (f_X6_ends_125 kk13 w F v2 v3)) := by
  unfold s_X6_ends_125 at h
  unfold f_X6_ends_125
  refine ev_iinc (v := v3 + nI 1) (L' := [some (.ref 28), some (.ref a), some (.int v2), some (.int (v3 + nI 1)), none, none]) dX6_ends_125 rfl (by rfl) rfl ?_
  refine ev_goto (tgt := 13) dX6_ends_128 (by decide) ?_
  exact ev_sub (hk13 w F lg v2 (v3 + nI 1) h) (sub_s (sub_s (sub_s (sub_s (sub_n (sub_n sub_e))))))
def f_X6_ends_27 (kk13 : (Nat → Int32) → (Nat → Int32) → Int32 → Int32 → ((Nat → Int32) × (Nat → Int32))) : Nat → (Nat → Int32) → (Nat → Int32) → Int32 → Int32 → Int32 → Int32 → ((Nat → Int32) × (Nat → Int32))
  | 0, w, F, _, _, _, _ => (w, F)
  | n + 1, w, F, v2, v3, v4, v5 => (if (w (nI 12).toNatClampNeg) ≤ v5 then (if v4 = 0 then f_X6_ends_125 kk13 w F v2 v3 else (if (w ((f_X6_house v3) + (nI 3)).toNatClampNeg) = (nI 1) then f_X6_ends_125 kk13 ((f_X6_posts w F (nI 9) ((nI 5) + v3) (nI 5) v2 (-1) (nI 0)).1) ((f_X6_posts w F (nI 9) ((nI 5) + v3) (nI 5) v2 (-1) (nI 0)).2) v2 v3 else f_X6_ends_125 kk13 w F v2 v3)) else (if v4 = 0 then (if (w ((f_X6_note v5) + (nI 0)).toNatClampNeg) = (nI 1) then f_X6_ends_85 kk13 (f_X6_ends_27 kk13 n) w F v2 v3 v5 else (if (w ((f_X6_note v5) + (nI 2)).toNatClampNeg) = v3 then (if (w ((f_X6_note v5) + (nI 6)).toNatClampNeg) = v2 then f_X6_ends_81 kk13 (f_X6_ends_27 kk13 n) w F v2 v3 v5 else f_X6_ends_85 kk13 (f_X6_ends_27 kk13 n) w F v2 v3 v5) else f_X6_ends_85 kk13 (f_X6_ends_27 kk13 n) w F v2 v3 v5)) else f_X6_ends_81 kk13 (f_X6_ends_27 kk13 n) w F v2 v3 v5))
def s_X6_ends_27 (sk13 : (Nat → Int32) → (Nat → Int32) → Int32 → Int32 → Prop) : Nat → (Nat → Int32) → (Nat → Int32) → Int32 → Int32 → Int32 → Int32 → Prop
  | 0, _, _, _, _, _, _ => False
  | n + 1, w, F, v2, v3, v4, v5 => (((w (nI 12).toNatClampNeg) ≤ v5 → ((v4 = 0 → s_X6_ends_125 sk13 w F v2 v3) ∧ (¬ v4 = 0 → (vp_in ((f_X6_house v3) + (nI 3)) 527 ∧ (((w ((f_X6_house v3) + (nI 3)).toNatClampNeg) = (nI 1) → (s_X6_posts w F (nI 9) ((nI 5) + v3) (nI 5) v2 (-1) (nI 0) ∧ s_X6_ends_125 sk13 ((f_X6_posts w F (nI 9) ((nI 5) + v3) (nI 5) v2 (-1) (nI 0)).1) ((f_X6_posts w F (nI 9) ((nI 5) + v3) (nI 5) v2 (-1) (nI 0)).2) v2 v3)) ∧ (¬ (w ((f_X6_house v3) + (nI 3)).toNatClampNeg) = (nI 1) → s_X6_ends_125 sk13 w F v2 v3)))))) ∧ (¬ (w (nI 12).toNatClampNeg) ≤ v5 → ((v4 = 0 → (vp_in ((f_X6_note v5) + (nI 0)) 527 ∧ (((w ((f_X6_note v5) + (nI 0)).toNatClampNeg) = (nI 1) → s_X6_ends_85 sk13 (s_X6_ends_27 sk13 n) w F v2 v3 v5) ∧ (¬ (w ((f_X6_note v5) + (nI 0)).toNatClampNeg) = (nI 1) → (vp_in ((f_X6_note v5) + (nI 2)) 527 ∧ (((w ((f_X6_note v5) + (nI 2)).toNatClampNeg) = v3 → (vp_in ((f_X6_note v5) + (nI 6)) 527 ∧ (((w ((f_X6_note v5) + (nI 6)).toNatClampNeg) = v2 → s_X6_ends_81 sk13 (s_X6_ends_27 sk13 n) w F v2 v3 v5) ∧ (¬ (w ((f_X6_note v5) + (nI 6)).toNatClampNeg) = v2 → s_X6_ends_85 sk13 (s_X6_ends_27 sk13 n) w F v2 v3 v5)))) ∧ (¬ (w ((f_X6_note v5) + (nI 2)).toNatClampNeg) = v3 → s_X6_ends_85 sk13 (s_X6_ends_27 sk13 n) w F v2 v3 v5))))))) ∧ (¬ v4 = 0 → s_X6_ends_81 sk13 (s_X6_ends_27 sk13 n) w F v2 v3 v5))))
set_option maxRecDepth 100000 in
set_option maxHeartbeats 4000000 in
theorem e_X6_ends_27 {G : ng_GG} {hm : (Nat → Int32) → (Nat → Int32) → (Nat → Int32) → ng_AM} {a : Nat} (V : ng_ML hm a) {kk13 : (Nat → Int32) → (Nat → Int32) → Int32 → Int32 → ((Nat → Int32) × (Nat → Int32))} {sk13 : (Nat → Int32) → (Nat → Int32) → Int32 → Int32 → Prop} (hk13 : ∀ (w : Nat → Int32) (F : Nat → Int32) (lg : Nat → Int32) (v2 : Int32) (v3 : Int32), sk13 w F v2 v3 → ng_Ev G md_X6_ends 13 [some (.ref 28), some (.ref a), some (.int v2), some (.int v3), none, none] [] (hm w F lg) (K_X6_ends hm lg (kk13 w F v2 v3))) : ∀ (n : Nat) (w : Nat → Int32) (F : Nat → Int32) (lg : Nat → Int32) (v2 : Int32) (v3 : Int32) (v4 : Int32) (v5 : Int32), s_X6_ends_27 sk13 n w F v2 v3 v4 v5 → ng_Ev G md_X6_ends 27 [some (.ref 28), some (.ref a), some (.int v2), some (.int v3), some (.int v4), some (.int v5)] [] (hm w F lg) (K_X6_ends hm lg (f_X6_ends_27 kk13 n w F v2 v3 v4 v5)) := by
  intro n
  induction n with
  | zero => intro w F lg v2 v3 v4 v5 h; exact False.elim h
  | succ n ih =>
    intro w F lg v2 v3 v4 v5 h 
    rw [s_X6_ends_27] at h
    rw [f_X6_ends_27]
    refine ev_iload dX6_ends_27 rfl ?_
    refine ev_aload_n dX6_ends_29 rfl rfl rfl ?_
    refine ev_bipush (v := nI 12) dX6_ends_30 (by decide) ?_
    refine ev_iald (ML_ga V) (vp_in_nI (by decide) (by decide)) dX6_ends_32 ?_
    refine bk_icmp_ge (tgt := 94) dX6_ends_33 (by decide) (fun c33 => ?_) (fun c33 => ?_)
    · replace h := h.1 c33
      refine ev_iload dX6_ends_94 rfl ?_
      refine bk_if_eq (tgt := 125) dX6_ends_96 (by decide) (fun c96 => ?_) (fun c96 => ?_)
      · replace h := h.1 c96
        exact ev_sub (e_X6_ends_125 V hk13 h) (sub_s (sub_s (sub_s (sub_s (sub_n (sub_n sub_e))))))
      · replace h := h.2 c96
        refine ev_aload_n dX6_ends_99 rfl rfl rfl ?_
        refine ev_iload_n dX6_ends_100 rfl rfl ?_
        refine bk_callS (As := [.int v3]) (st := [.ref a]) (st2 := [.int (f_X6_house v3), .ref a]) (M2 := hm w F lg) ok_X6_house lk_RX6_75 (ng_rok.of rfl rfl) rfl rfl rfl rfl dX6_ends_101 (m_X6_house trivial) rfl rfl ?_
        refine ev_iconst (v := nI 3) dX6_ends_104 (by decide) ?_
        refine ev_iadd dX6_ends_105 ?_
        have hi106 := h.1
        replace h := h.2
        refine ev_iald (ML_ga V) hi106 dX6_ends_106 ?_
        refine ev_iconst (v := nI 1) dX6_ends_107 (by decide) ?_
        refine bk_icmp_ne (tgt := 125) dX6_ends_108 (by decide) (fun c108 => ?_) (fun c108 => ?_)
        · replace h := h.2 c108
          exact ev_sub (e_X6_ends_125 V hk13 h) (sub_s (sub_s (sub_s (sub_s (sub_n (sub_n sub_e))))))
        · replace h := h.1 c108
          refine ev_aload_n dX6_ends_111 rfl rfl rfl ?_
          refine ev_aload_n dX6_ends_112 rfl rfl rfl ?_
          refine ev_bipush (v := nI 9) dX6_ends_113 (by decide) ?_
          refine ev_iconst (v := nI 5) dX6_ends_115 (by decide) ?_
          refine ev_iload_n dX6_ends_116 rfl rfl ?_
          refine ev_iadd dX6_ends_117 ?_
          refine ev_iconst (v := nI 5) dX6_ends_118 (by decide) ?_
          refine ev_iload_n dX6_ends_119 rfl rfl ?_
          refine ev_iconst (v := (-1)) dX6_ends_120 (by decide) ?_
          refine ev_iconst (v := nI 0) dX6_ends_121 (by decide) ?_
          have hs122 := h.1
          replace h := h.2
          refine bk_callV (As := [.ref a, .int (nI 9), .int ((nI 5) + v3), .int (nI 5), .int v2, .int (-1), .int (nI 0)]) (st := []) (st2 := []) (M2 := hm ((f_X6_posts w F (nI 9) ((nI 5) + v3) (nI 5) v2 (-1) (nI 0)).1) ((f_X6_posts w F (nI 9) ((nI 5) + v3) (nI 5) v2 (-1) (nI 0)).2) lg) ok_X6_posts lk_RX6_106 (ng_rok.of rfl rfl) (ML_g28 V) rfl rfl rfl rfl rfl rfl dX6_ends_122 (m_X6_posts V hs122) rfl rfl ?_
          exact ev_sub (e_X6_ends_125 V hk13 h) (sub_s (sub_s (sub_s (sub_s (sub_n (sub_n sub_e))))))
    · replace h := h.2 c33
      refine ev_iload dX6_ends_36 rfl ?_
      refine bk_if_ne (tgt := 81) dX6_ends_38 (by decide) (fun c38 => ?_) (fun c38 => ?_)
      · replace h := h.2 c38
        exact ev_sub (e_X6_ends_81 V hk13 ih h) (sub_s (sub_s (sub_s (sub_s (sub_n (sub_s sub_e))))))
      · replace h := h.1 c38
        refine ev_aload_n dX6_ends_41 rfl rfl rfl ?_
        refine ev_iload dX6_ends_42 rfl ?_
        refine bk_callS (As := [.int v5]) (st := [.ref a]) (st2 := [.int (f_X6_note v5), .ref a]) (M2 := hm w F lg) ok_X6_note lk_RX6_71 (ng_rok.of rfl rfl) rfl rfl rfl rfl dX6_ends_44 (m_X6_note trivial) rfl rfl ?_
        refine ev_iconst (v := nI 0) dX6_ends_47 (by decide) ?_
        refine ev_iadd dX6_ends_48 ?_
        have hi49 := h.1
        replace h := h.2
        refine ev_iald (ML_ga V) hi49 dX6_ends_49 ?_
        refine ev_iconst (v := nI 1) dX6_ends_50 (by decide) ?_
        refine bk_icmp_eq (tgt := 85) dX6_ends_51 (by decide) (fun c51 => ?_) (fun c51 => ?_)
        · replace h := h.1 c51
          exact ev_sub (e_X6_ends_85 V hk13 ih h) (sub_s (sub_s (sub_s (sub_s (sub_n (sub_s sub_e))))))
        · replace h := h.2 c51
          refine ev_aload_n dX6_ends_54 rfl rfl rfl ?_
          refine ev_iload dX6_ends_55 rfl ?_
          refine bk_callS (As := [.int v5]) (st := [.ref a]) (st2 := [.int (f_X6_note v5), .ref a]) (M2 := hm w F lg) ok_X6_note lk_RX6_71 (ng_rok.of rfl rfl) rfl rfl rfl rfl dX6_ends_57 (m_X6_note trivial) rfl rfl ?_
          refine ev_iconst (v := nI 2) dX6_ends_60 (by decide) ?_
          refine ev_iadd dX6_ends_61 ?_
          have hi62 := h.1
          replace h := h.2
          refine ev_iald (ML_ga V) hi62 dX6_ends_62 ?_
          refine ev_iload_n dX6_ends_63 rfl rfl ?_
          refine bk_icmp_ne (tgt := 85) dX6_ends_64 (by decide) (fun c64 => ?_) (fun c64 => ?_)
          · replace h := h.2 c64
            exact ev_sub (e_X6_ends_85 V hk13 ih h) (sub_s (sub_s (sub_s (sub_s (sub_n (sub_s sub_e))))))
          · replace h := h.1 c64
            refine ev_aload_n dX6_ends_67 rfl rfl rfl ?_
            refine ev_iload dX6_ends_68 rfl ?_
            refine bk_callS (As := [.int v5]) (st := [.ref a]) (st2 := [.int (f_X6_note v5), .ref a]) (M2 := hm w F lg) ok_X6_note lk_RX6_71 (ng_rok.of rfl rfl) rfl rfl rfl rfl dX6_ends_70 (m_X6_note trivial) rfl rfl ?_
            refine ev_bipush (v := nI 6) dX6_ends_73 (by decide) ?_
            refine ev_iadd dX6_ends_75 ?_
            have hi76 := h.1
            replace h := h.2
            refine ev_iald (ML_ga V) hi76 dX6_ends_76 ?_
            refine ev_iload_n dX6_ends_77 rfl rfl ?_
            refine bk_icmp_ne (tgt := 85) dX6_ends_78 (by decide) (fun c78 => ?_) (fun c78 => ?_)
            · replace h := h.2 c78
              exact ev_sub (e_X6_ends_85 V hk13 ih h) (sub_s (sub_s (sub_s (sub_s (sub_n (sub_s sub_e))))))
            · replace h := h.1 c78
              exact ev_sub (e_X6_ends_81 V hk13 ih h) (sub_s (sub_s (sub_s (sub_s (sub_n (sub_s sub_e))))))
def f_X6_ends_13  : Nat → (Nat → Int32) → (Nat → Int32) → Int32 → Int32 → ((Nat → Int32) × (Nat → Int32))
  | 0, w, F, _, _ => (w, F)
  | n + 1, w, F, v2, v3 => (if (w (nI 11).toNatClampNeg) ≤ v3 then (w, F) else f_X6_ends_27 (f_X6_ends_13 n) ng_F w F v2 v3 (nI 0) (nI 0))
def s_X6_ends_13  : Nat → (Nat → Int32) → (Nat → Int32) → Int32 → Int32 → Prop
  | 0, _, _, _, _ => False
  | n + 1, w, F, v2, v3 => (¬ (w (nI 11).toNatClampNeg) ≤ v3 → s_X6_ends_27 (s_X6_ends_13 n) ng_F w F v2 v3 (nI 0) (nI 0))
set_option maxRecDepth 100000 in
set_option maxHeartbeats 4000000 in
theorem e_X6_ends_13 {G : ng_GG} {hm : (Nat → Int32) → (Nat → Int32) → (Nat → Int32) → ng_AM} {a : Nat} (V : ng_ML hm a)  : ∀ (n : Nat) (w : Nat → Int32) (F : Nat → Int32) (lg : Nat → Int32) (v2 : Int32) (v3 : Int32), s_X6_ends_13  n w F v2 v3 → ng_Ev G md_X6_ends 13 [some (.ref 28), some (.ref a), some (.int v2), some (.int v3), none, none] [] (hm w F lg) (K_X6_ends hm lg (f_X6_ends_13  n w F v2 v3)) := by
  intro n
  induction n with
  | zero => intro w F lg v2 v3 h; exact False.elim h
  | succ n ih =>
    intro w F lg v2 v3 h 
    rw [s_X6_ends_13] at h
    rw [f_X6_ends_13]
    refine ev_iload_n dX6_ends_13 rfl rfl ?_
    refine ev_aload_n dX6_ends_14 rfl rfl rfl ?_
    refine ev_bipush (v := nI 11) dX6_ends_15 (by decide) ?_
    refine ev_iald (ML_ga V) (vp_in_nI (by decide) (by decide)) dX6_ends_17 ?_
    refine bk_icmp_ge (tgt := 131) dX6_ends_18 (by decide) (fun c18 => ?_) (fun c18 => ?_)
    · exact ev_vret rfl dX6_ends_131
    · replace h := h c18
      refine ev_iconst (v := nI 0) dX6_ends_21 (by decide) ?_
      refine ev_istore (L' := [some (.ref 28), some (.ref a), some (.int v2), some (.int v3), some (.int (nI 0)), none]) dX6_ends_22 (ng_lt rfl) rfl ?_
      refine ev_iconst (v := nI 0) dX6_ends_24 (by decide) ?_
      refine ev_istore (L' := [some (.ref 28), some (.ref a), some (.int v2), some (.int v3), some (.int (nI 0)), some (.int (nI 0))]) dX6_ends_25 (ng_lt rfl) rfl ?_
      exact ev_sub (e_X6_ends_27 V ih ng_F w F lg v2 v3 (nI 0) (nI 0) h) (sub_s (sub_s (sub_s (sub_s (sub_s (sub_s sub_e))))))
def f_X6_ends  (w : Nat → Int32) (F : Nat → Int32) (v2 : Int32) : (Nat → Int32) × (Nat → Int32) := f_X6_ends_13 ng_F (upd w ((f_X6_family v2) + (nI 1)).toNatClampNeg (w (nI 0).toNatClampNeg)) F v2 (nI 0)
def s_X6_ends  (w : Nat → Int32) (F : Nat → Int32) (v2 : Int32) : Prop := (vp_in ((f_X6_family v2) + (nI 1)) 527 ∧ s_X6_ends_13 ng_F (upd w ((f_X6_family v2) + (nI 1)).toNatClampNeg (w (nI 0).toNatClampNeg)) F v2 (nI 0))
set_option maxRecDepth 100000 in
set_option maxHeartbeats 4000000 in
theorem e_X6_ends {G : ng_GG} {hm : (Nat → Int32) → (Nat → Int32) → (Nat → Int32) → ng_AM} {a : Nat} (V : ng_ML hm a) {w : Nat → Int32} {F : Nat → Int32} {lg : Nat → Int32}  {v2 : Int32} (h : s_X6_ends  w F v2)  : ng_Ev G md_X6_ends 0 [some (.ref 28), some (.ref a), some (.int v2), none, none, none] [] (hm w F lg) (K_X6_ends hm lg (f_X6_ends  w F v2)) := by
  unfold s_X6_ends at h
  unfold f_X6_ends
  refine ev_aload_n dX6_ends_0 rfl rfl rfl ?_
  refine ev_iload_n dX6_ends_1 rfl rfl ?_
  refine bk_callS (As := [.int v2]) (st := [.ref a]) (st2 := [.int (f_X6_family v2), .ref a]) (M2 := hm w F lg) ok_X6_family lk_RX6_85 (ng_rok.of rfl rfl) rfl rfl rfl rfl dX6_ends_2 (m_X6_family trivial) rfl rfl ?_
  refine ev_iconst (v := nI 1) dX6_ends_5 (by decide) ?_
  refine ev_iadd dX6_ends_6 ?_
  refine ev_aload_n dX6_ends_7 rfl rfl rfl ?_
  refine ev_iconst (v := nI 0) dX6_ends_8 (by decide) ?_
  refine ev_iald (ML_ga V) (vp_in_nI (by decide) (by decide)) dX6_ends_9 ?_
  have hi10 := h.1
  replace h := h.2
  refine ev_iast (ML_ga V) hi10 (ML_sa V) dX6_ends_10 ?_
  refine ev_iconst (v := nI 0) dX6_ends_11 (by decide) ?_
  refine ev_istore_n (L' := [some (.ref 28), some (.ref a), some (.int v2), some (.int (nI 0)), none, none]) dX6_ends_12 rfl (ng_lt rfl) rfl ?_
  exact ev_sub (e_X6_ends_13 V ng_F (upd w ((f_X6_family v2) + (nI 1)).toNatClampNeg (w (nI 0).toNatClampNeg)) F lg v2 (nI 0) h) (sub_s (sub_s (sub_s (sub_s (sub_n (sub_n sub_e))))))
theorem m_X6_ends {G : ng_GG} {hm : (Nat → Int32) → (Nat → Int32) → (Nat → Int32) → ng_AM} {a : Nat} (V : ng_ML hm a) {w : Nat → Int32} {F : Nat → Int32} {lg : Nat → Int32} {v2 : Int32} (h : s_X6_ends w F v2)  : ng_Ev G md_X6_ends 0 (ng_en 6 [.ref 28, .ref a, .int v2]) [] (hm w F lg) (K_X6_ends hm lg (f_X6_ends w F v2)) := e_X6_ends V h 
def K_X6_given (hm : (Nat → Int32) → (Nat → Int32) → (Nat → Int32) → ng_AM) (F : Nat → Int32) (lg : Nat → Int32) (r : (Nat → Int32) × Int32) : ng_RR := (some (.int (r.2)), hm (r.1) F lg)
def f_X6_given_60  (w : Nat → Int32) (v7 : Int32) (v8 : Int32) (v9 : Int32) (v10 : Int32) (v11 : Int32) : (Nat → Int32) × Int32 := ((upd (upd (upd (upd (upd (upd w (v11 + (nI 6)).toNatClampNeg v7) (v11 + (nI 7)).toNatClampNeg v8) (v11 + (nI 8)).toNatClampNeg v9) (v11 + (nI 9)).toNatClampNeg (nI 0)) (v11 + (nI 10)).toNatClampNeg (nI 0)) (nI 12).toNatClampNeg (((upd (upd (upd (upd (upd w (v11 + (nI 6)).toNatClampNeg v7) (v11 + (nI 7)).toNatClampNeg v8) (v11 + (nI 8)).toNatClampNeg v9) (v11 + (nI 9)).toNatClampNeg (nI 0)) (v11 + (nI 10)).toNatClampNeg (nI 0)) (nI 12).toNatClampNeg) + (nI 1))), v10)
def s_X6_given_60  (w : Nat → Int32) (v7 : Int32) (v8 : Int32) (v9 : Int32) (v10 : Int32) (v11 : Int32) : Prop := (vp_in (v11 + (nI 6)) 527 ∧ (vp_in (v11 + (nI 7)) 527 ∧ (vp_in (v11 + (nI 8)) 527 ∧ (vp_in (v11 + (nI 9)) 527 ∧ vp_in (v11 + (nI 10)) 527))))
set_option maxRecDepth 100000 in
set_option maxHeartbeats 4000000 in
theorem e_X6_given_60 {G : ng_GG} {hm : (Nat → Int32) → (Nat → Int32) → (Nat → Int32) → ng_AM} {a : Nat} (V : ng_ML hm a) {w : Nat → Int32} {F : Nat → Int32} {lg : Nat → Int32}  {v7 : Int32} {v8 : Int32} {v9 : Int32} {v10 : Int32} {v11 : Int32} (h : s_X6_given_60  w v7 v8 v9 v10 v11)  : ng_Ev G md_X6_given 60 [none, some (.ref a), none, none, none, none, none, some (.int v7), some (.int v8), some (.int v9), some (.int v10), some (.int v11)] [] (hm w F lg) (K_X6_given hm F lg (f_X6_given_60  w v7 v8 v9 v10 v11)) := by
  unfold s_X6_given_60 at h
  unfold f_X6_given_60
  refine ev_aload_n dX6_given_60 rfl rfl rfl ?_
  refine ev_iload dX6_given_61 rfl ?_
  refine ev_bipush (v := nI 6) dX6_given_63 (by decide) ?_
  refine ev_iadd dX6_given_65 ?_
  refine ev_iload dX6_given_66 rfl ?_
  have hi68 := h.1
  replace h := h.2
  refine ev_iast (ML_ga V) hi68 (ML_sa V) dX6_given_68 ?_
  refine ev_aload_n dX6_given_69 rfl rfl rfl ?_
  refine ev_iload dX6_given_70 rfl ?_
  refine ev_bipush (v := nI 7) dX6_given_72 (by decide) ?_
  refine ev_iadd dX6_given_74 ?_
  refine ev_iload dX6_given_75 rfl ?_
  have hi77 := h.1
  replace h := h.2
  refine ev_iast (ML_ga V) hi77 (ML_sa V) dX6_given_77 ?_
  refine ev_aload_n dX6_given_78 rfl rfl rfl ?_
  refine ev_iload dX6_given_79 rfl ?_
  refine ev_bipush (v := nI 8) dX6_given_81 (by decide) ?_
  refine ev_iadd dX6_given_83 ?_
  refine ev_iload dX6_given_84 rfl ?_
  have hi86 := h.1
  replace h := h.2
  refine ev_iast (ML_ga V) hi86 (ML_sa V) dX6_given_86 ?_
  refine ev_aload_n dX6_given_87 rfl rfl rfl ?_
  refine ev_iload dX6_given_88 rfl ?_
  refine ev_bipush (v := nI 9) dX6_given_90 (by decide) ?_
  refine ev_iadd dX6_given_92 ?_
  refine ev_iconst (v := nI 0) dX6_given_93 (by decide) ?_
  have hi94 := h.1
  replace h := h.2
  refine ev_iast (ML_ga V) hi94 (ML_sa V) dX6_given_94 ?_
  refine ev_aload_n dX6_given_95 rfl rfl rfl ?_
  refine ev_iload dX6_given_96 rfl ?_
  refine ev_bipush (v := nI 10) dX6_given_98 (by decide) ?_
  refine ev_iadd dX6_given_100 ?_
  refine ev_iconst (v := nI 0) dX6_given_101 (by decide) ?_
  have hi102 := h
  refine ev_iast (ML_ga V) hi102 (ML_sa V) dX6_given_102 ?_
  refine ev_aload_n dX6_given_103 rfl rfl rfl ?_
  refine ev_bipush (v := nI 12) dX6_given_104 (by decide) ?_
  refine ev_dup2 dX6_given_106 rfl rfl ?_
  refine ev_iald (ML_ga V) (vp_in_nI (by decide) (by decide)) dX6_given_107 ?_
  refine ev_iconst (v := nI 1) dX6_given_108 (by decide) ?_
  refine ev_iadd dX6_given_109 ?_
  refine ev_iast (ML_ga V) (vp_in_nI (by decide) (by decide)) (ML_sa V) dX6_given_110 ?_
  refine ev_iload dX6_given_111 rfl ?_
  exact ev_iret rfl rfl dX6_given_113
def f_X6_given  (w : Nat → Int32) (v2 : Int32) (v3 : Int32) (v4 : Int32) (v5 : Int32) (v6 : Int32) (v7 : Int32) (v8 : Int32) (v9 : Int32) : (Nat → Int32) × Int32 := f_X6_given_60 (upd (upd (upd (upd (upd (upd w ((f_X6_note (w (nI 12).toNatClampNeg)) + (nI 0)).toNatClampNeg v2) ((f_X6_note (w (nI 12).toNatClampNeg)) + (nI 1)).toNatClampNeg v3) ((f_X6_note (w (nI 12).toNatClampNeg)) + (nI 2)).toNatClampNeg v4) ((f_X6_note (w (nI 12).toNatClampNeg)) + (nI 3)).toNatClampNeg v5) ((f_X6_note (w (nI 12).toNatClampNeg)) + (nI 4)).toNatClampNeg ((upd (upd (upd (upd w ((f_X6_note (w (nI 12).toNatClampNeg)) + (nI 0)).toNatClampNeg v2) ((f_X6_note (w (nI 12).toNatClampNeg)) + (nI 1)).toNatClampNeg v3) ((f_X6_note (w (nI 12).toNatClampNeg)) + (nI 2)).toNatClampNeg v4) ((f_X6_note (w (nI 12).toNatClampNeg)) + (nI 3)).toNatClampNeg v5) (nI 0).toNatClampNeg)) ((f_X6_note (w (nI 12).toNatClampNeg)) + (nI 5)).toNatClampNeg v6) v7 v8 v9 (w (nI 12).toNatClampNeg) (f_X6_note (w (nI 12).toNatClampNeg))
def s_X6_given  (w : Nat → Int32) (v2 : Int32) (v3 : Int32) (v4 : Int32) (v5 : Int32) (v6 : Int32) (v7 : Int32) (v8 : Int32) (v9 : Int32) : Prop := (vp_in ((f_X6_note (w (nI 12).toNatClampNeg)) + (nI 0)) 527 ∧ (vp_in ((f_X6_note (w (nI 12).toNatClampNeg)) + (nI 1)) 527 ∧ (vp_in ((f_X6_note (w (nI 12).toNatClampNeg)) + (nI 2)) 527 ∧ (vp_in ((f_X6_note (w (nI 12).toNatClampNeg)) + (nI 3)) 527 ∧ (vp_in ((f_X6_note (w (nI 12).toNatClampNeg)) + (nI 4)) 527 ∧ (vp_in ((f_X6_note (w (nI 12).toNatClampNeg)) + (nI 5)) 527 ∧ s_X6_given_60 (upd (upd (upd (upd (upd (upd w ((f_X6_note (w (nI 12).toNatClampNeg)) + (nI 0)).toNatClampNeg v2) ((f_X6_note (w (nI 12).toNatClampNeg)) + (nI 1)).toNatClampNeg v3) ((f_X6_note (w (nI 12).toNatClampNeg)) + (nI 2)).toNatClampNeg v4) ((f_X6_note (w (nI 12).toNatClampNeg)) + (nI 3)).toNatClampNeg v5) ((f_X6_note (w (nI 12).toNatClampNeg)) + (nI 4)).toNatClampNeg ((upd (upd (upd (upd w ((f_X6_note (w (nI 12).toNatClampNeg)) + (nI 0)).toNatClampNeg v2) ((f_X6_note (w (nI 12).toNatClampNeg)) + (nI 1)).toNatClampNeg v3) ((f_X6_note (w (nI 12).toNatClampNeg)) + (nI 2)).toNatClampNeg v4) ((f_X6_note (w (nI 12).toNatClampNeg)) + (nI 3)).toNatClampNeg v5) (nI 0).toNatClampNeg)) ((f_X6_note (w (nI 12).toNatClampNeg)) + (nI 5)).toNatClampNeg v6) v7 v8 v9 (w (nI 12).toNatClampNeg) (f_X6_note (w (nI 12).toNatClampNeg))))))))
set_option maxRecDepth 100000 in
set_option maxHeartbeats 4000000 in
theorem e_X6_given {G : ng_GG} {hm : (Nat → Int32) → (Nat → Int32) → (Nat → Int32) → ng_AM} {a : Nat} (V : ng_ML hm a) {w : Nat → Int32} {F : Nat → Int32} {lg : Nat → Int32}  {v2 : Int32} {v3 : Int32} {v4 : Int32} {v5 : Int32} {v6 : Int32} {v7 : Int32} {v8 : Int32} {v9 : Int32} (h : s_X6_given  w v2 v3 v4 v5 v6 v7 v8 v9)  : ng_Ev G md_X6_given 0 [some (.ref 28), some (.ref a), some (.int v2), some (.int v3), some (.int v4), some (.int v5), some (.int v6), some (.int v7), some (.int v8), some (.int v9), none, none] [] (hm w F lg) (K_X6_given hm F lg (f_X6_given  w v2 v3 v4 v5 v6 v7 v8 v9)) := by
  unfold s_X6_given at h
  unfold f_X6_given
  refine ev_aload_n dX6_given_0 rfl rfl rfl ?_
  refine ev_bipush (v := nI 12) dX6_given_1 (by decide) ?_
  refine ev_iald (ML_ga V) (vp_in_nI (by decide) (by decide)) dX6_given_3 ?_
  refine ev_istore (L' := [some (.ref 28), some (.ref a), some (.int v2), some (.int v3), some (.int v4), some (.int v5), some (.int v6), some (.int v7), some (.int v8), some (.int v9), some (.int (w (nI 12).toNatClampNeg)), none]) dX6_given_4 (ng_lt rfl) rfl ?_
  refine ev_iload dX6_given_6 rfl ?_
  refine bk_callS (As := [.int (w (nI 12).toNatClampNeg)]) (st := []) (st2 := [.int (f_X6_note (w (nI 12).toNatClampNeg))]) (M2 := hm w F lg) ok_X6_note lk_RX6_71 (ng_rok.of rfl rfl) rfl rfl rfl rfl dX6_given_8 (m_X6_note trivial) rfl rfl ?_
  refine ev_istore (L' := [some (.ref 28), some (.ref a), some (.int v2), some (.int v3), some (.int v4), some (.int v5), some (.int v6), some (.int v7), some (.int v8), some (.int v9), some (.int (w (nI 12).toNatClampNeg)), some (.int (f_X6_note (w (nI 12).toNatClampNeg)))]) dX6_given_11 (ng_lt rfl) rfl ?_
  refine ev_aload_n dX6_given_13 rfl rfl rfl ?_
  refine ev_iload dX6_given_14 rfl ?_
  refine ev_iconst (v := nI 0) dX6_given_16 (by decide) ?_
  refine ev_iadd dX6_given_17 ?_
  refine ev_iload_n dX6_given_18 rfl rfl ?_
  have hi19 := h.1
  replace h := h.2
  refine ev_iast (ML_ga V) hi19 (ML_sa V) dX6_given_19 ?_
  refine ev_aload_n dX6_given_20 rfl rfl rfl ?_
  refine ev_iload dX6_given_21 rfl ?_
  refine ev_iconst (v := nI 1) dX6_given_23 (by decide) ?_
  refine ev_iadd dX6_given_24 ?_
  refine ev_iload_n dX6_given_25 rfl rfl ?_
  have hi26 := h.1
  replace h := h.2
  refine ev_iast (ML_ga V) hi26 (ML_sa V) dX6_given_26 ?_
  refine ev_aload_n dX6_given_27 rfl rfl rfl ?_
  refine ev_iload dX6_given_28 rfl ?_
  refine ev_iconst (v := nI 2) dX6_given_30 (by decide) ?_
  refine ev_iadd dX6_given_31 ?_
  refine ev_iload dX6_given_32 rfl ?_
  have hi34 := h.1
  replace h := h.2
  refine ev_iast (ML_ga V) hi34 (ML_sa V) dX6_given_34 ?_
  refine ev_aload_n dX6_given_35 rfl rfl rfl ?_
  refine ev_iload dX6_given_36 rfl ?_
  refine ev_iconst (v := nI 3) dX6_given_38 (by decide) ?_
  refine ev_iadd dX6_given_39 ?_
  refine ev_iload dX6_given_40 rfl ?_
  have hi42 := h.1
  replace h := h.2
  refine ev_iast (ML_ga V) hi42 (ML_sa V) dX6_given_42 ?_
  refine ev_aload_n dX6_given_43 rfl rfl rfl ?_
  refine ev_iload dX6_given_44 rfl ?_
  refine ev_iconst (v := nI 4) dX6_given_46 (by decide) ?_
  refine ev_iadd dX6_given_47 ?_
  refine ev_aload_n dX6_given_48 rfl rfl rfl ?_
  refine ev_iconst (v := nI 0) dX6_given_49 (by decide) ?_
  refine ev_iald (ML_ga V) (vp_in_nI (by decide) (by decide)) dX6_given_50 ?_
  have hi51 := h.1
  replace h := h.2
  refine ev_iast (ML_ga V) hi51 (ML_sa V) dX6_given_51 ?_
  refine ev_aload_n dX6_given_52 rfl rfl rfl ?_
  refine ev_iload dX6_given_53 rfl ?_
  refine ev_iconst (v := nI 5) dX6_given_55 (by decide) ?_
  refine ev_iadd dX6_given_56 ?_
  refine ev_iload dX6_given_57 rfl ?_
  have hi59 := h.1
  replace h := h.2
  refine ev_iast (ML_ga V) hi59 (ML_sa V) dX6_given_59 ?_
  exact ev_sub (e_X6_given_60 V h) (sub_n (sub_s (sub_n (sub_n (sub_n (sub_n (sub_n (sub_s (sub_s (sub_s (sub_s (sub_s sub_e))))))))))))
theorem m_X6_given {G : ng_GG} {hm : (Nat → Int32) → (Nat → Int32) → (Nat → Int32) → ng_AM} {a : Nat} (V : ng_ML hm a) {w : Nat → Int32} {F : Nat → Int32} {lg : Nat → Int32} {v2 : Int32} {v3 : Int32} {v4 : Int32} {v5 : Int32} {v6 : Int32} {v7 : Int32} {v8 : Int32} {v9 : Int32} (h : s_X6_given w v2 v3 v4 v5 v6 v7 v8 v9)  : ng_Ev G md_X6_given 0 (ng_en 12 [.ref 28, .ref a, .int v2, .int v3, .int v4, .int v5, .int v6, .int v7, .int v8, .int v9]) [] (hm w F lg) (K_X6_given hm F lg (f_X6_given w v2 v3 v4 v5 v6 v7 v8 v9)) := e_X6_given V h 
def K_X6_asked (hm : (Nat → Int32) → (Nat → Int32) → (Nat → Int32) → ng_AM) (lg : Nat → Int32) (r : (Nat → Int32) × (Nat → Int32) × Int32) : ng_RR := (some (.int (r.2.2)), hm (r.1) (r.2.1) lg)
def f_X6_asked_137  (w : Nat → Int32) (F : Nat → Int32) (v2 : Int32) (v5 : Int32) (v8 : Int32) (t0 : Int32) : (Nat → Int32) × (Nat → Int32) × Int32 := ((f_X6_posts w F (nI 9) v2 (nI 1) v8 t0 v5).1, (f_X6_posts w F (nI 9) v2 (nI 1) v8 t0 v5).2, nI 1)
def s_X6_asked_137  (w : Nat → Int32) (F : Nat → Int32) (v2 : Int32) (v5 : Int32) (v8 : Int32) (t0 : Int32) : Prop := s_X6_posts w F (nI 9) v2 (nI 1) v8 t0 v5
set_option maxRecDepth 100000 in
set_option maxHeartbeats 4000000 in
theorem e_X6_asked_137 {G : ng_GG} {hm : (Nat → Int32) → (Nat → Int32) → (Nat → Int32) → ng_AM} {a : Nat} (V : ng_ML hm a) {w : Nat → Int32} {F : Nat → Int32} {lg : Nat → Int32}  {v2 : Int32} {v5 : Int32} {v8 : Int32} {t0 : Int32} (h : s_X6_asked_137  w F v2 v5 v8 t0)  : ng_Ev G md_X6_asked 137 [some (.ref 28), some (.ref a), some (.int v2), none, none, some (.int v5), none, none, some (.int v8), none] [.int t0] (hm w F lg) (K_X6_asked hm lg (f_X6_asked_137  w F v2 v5 v8 t0)) := by
  unfold s_X6_asked_137 at h
  unfold f_X6_asked_137
  refine ev_istore (L' := [some (.ref 28), some (.ref a), some (.int v2), none, none, some (.int v5), none, none, some (.int v8), some (.int t0)]) dX6_asked_137 (ng_lt rfl) rfl ?_
  refine ev_aload_n dX6_asked_139 rfl rfl rfl ?_
  refine ev_aload_n dX6_asked_140 rfl rfl rfl ?_
  refine ev_bipush (v := nI 9) dX6_asked_141 (by decide) ?_
  refine ev_iload_n dX6_asked_143 rfl rfl ?_
  refine ev_iconst (v := nI 1) dX6_asked_144 (by decide) ?_
  refine ev_iload dX6_asked_145 rfl ?_
  refine ev_iload dX6_asked_147 rfl ?_
  refine ev_iload dX6_asked_149 rfl ?_
  have hs151 := h
  refine bk_callV (As := [.ref a, .int (nI 9), .int v2, .int (nI 1), .int v8, .int t0, .int v5]) (st := []) (st2 := []) (M2 := hm ((f_X6_posts w F (nI 9) v2 (nI 1) v8 t0 v5).1) ((f_X6_posts w F (nI 9) v2 (nI 1) v8 t0 v5).2) lg) ok_X6_posts lk_RX6_106 (ng_rok.of rfl rfl) (ML_g28 V) rfl rfl rfl rfl rfl rfl dX6_asked_151 (m_X6_posts V hs151) rfl rfl ?_
  refine ev_iconst (v := nI 1) dX6_asked_154 (by decide) ?_
  exact ev_iret rfl rfl dX6_asked_155
def f_X6_asked_113  (w : Nat → Int32) (F : Nat → Int32) (v2 : Int32) (v3 : Int32) (v4 : Int32) (v5 : Int32) (v6 : Int32) (v7 : Int32) (t0 : Int32) : (Nat → Int32) × (Nat → Int32) × Int32 := f_X6_asked_137 ((f_X6_given w (nI 1) v2 v3 v4 ((w (nI 0).toNatClampNeg) + (w (nI 5).toNatClampNeg)) v6 v7 (-1)).1) F v2 v5 t0 ((f_X6_given w (nI 1) v2 v3 v4 ((w (nI 0).toNatClampNeg) + (w (nI 5).toNatClampNeg)) v6 v7 (-1)).2)
def s_X6_asked_113  (w : Nat → Int32) (F : Nat → Int32) (v2 : Int32) (v3 : Int32) (v4 : Int32) (v5 : Int32) (v6 : Int32) (v7 : Int32) (t0 : Int32) : Prop := (s_X6_given w (nI 1) v2 v3 v4 ((w (nI 0).toNatClampNeg) + (w (nI 5).toNatClampNeg)) v6 v7 (-1) ∧ s_X6_asked_137 ((f_X6_given w (nI 1) v2 v3 v4 ((w (nI 0).toNatClampNeg) + (w (nI 5).toNatClampNeg)) v6 v7 (-1)).1) F v2 v5 t0 ((f_X6_given w (nI 1) v2 v3 v4 ((w (nI 0).toNatClampNeg) + (w (nI 5).toNatClampNeg)) v6 v7 (-1)).2))
set_option maxRecDepth 100000 in
set_option maxHeartbeats 4000000 in
theorem e_X6_asked_113 {G : ng_GG} {hm : (Nat → Int32) → (Nat → Int32) → (Nat → Int32) → ng_AM} {a : Nat} (V : ng_ML hm a) {w : Nat → Int32} {F : Nat → Int32} {lg : Nat → Int32}  {v2 : Int32} {v3 : Int32} {v4 : Int32} {v5 : Int32} {v6 : Int32} {v7 : Int32} {t0 : Int32} (h : s_X6_asked_113  w F v2 v3 v4 v5 v6 v7 t0)  : ng_Ev G md_X6_asked 113 [some (.ref 28), some (.ref a), some (.int v2), some (.int v3), some (.int v4), some (.int v5), some (.int v6), some (.int v7), none, none] [.int t0] (hm w F lg) (K_X6_asked hm lg (f_X6_asked_113  w F v2 v3 v4 v5 v6 v7 t0)) := by
  unfold s_X6_asked_113 at h
  unfold f_X6_asked_113
  refine ev_istore (L' := [some (.ref 28), some (.ref a), some (.int v2), some (.int v3), some (.int v4), some (.int v5), some (.int v6), some (.int v7), some (.int t0), none]) dX6_asked_113 (ng_lt rfl) rfl ?_
  refine ev_aload_n dX6_asked_115 rfl rfl rfl ?_
  refine ev_aload_n dX6_asked_116 rfl rfl rfl ?_
  refine ev_iconst (v := nI 1) dX6_asked_117 (by decide) ?_
  refine ev_iload_n dX6_asked_118 rfl rfl ?_
  refine ev_iload_n dX6_asked_119 rfl rfl ?_
  refine ev_iload dX6_asked_120 rfl ?_
  refine ev_aload_n dX6_asked_122 rfl rfl rfl ?_
  refine ev_iconst (v := nI 0) dX6_asked_123 (by decide) ?_
  refine ev_iald (ML_ga V) (vp_in_nI (by decide) (by decide)) dX6_asked_124 ?_
  refine ev_aload_n dX6_asked_125 rfl rfl rfl ?_
  refine ev_iconst (v := nI 5) dX6_asked_126 (by decide) ?_
  refine ev_iald (ML_ga V) (vp_in_nI (by decide) (by decide)) dX6_asked_127 ?_
  refine ev_iadd dX6_asked_128 ?_
  refine ev_iload dX6_asked_129 rfl ?_
  refine ev_iload dX6_asked_131 rfl ?_
  refine ev_iconst (v := (-1)) dX6_asked_133 (by decide) ?_
  have hs134 := h.1
  replace h := h.2
  refine bk_callV (As := [.ref a, .int (nI 1), .int v2, .int v3, .int v4, .int ((w (nI 0).toNatClampNeg) + (w (nI 5).toNatClampNeg)), .int v6, .int v7, .int (-1)]) (st := []) (st2 := [.int ((f_X6_given w (nI 1) v2 v3 v4 ((w (nI 0).toNatClampNeg) + (w (nI 5).toNatClampNeg)) v6 v7 (-1)).2)]) (M2 := hm ((f_X6_given w (nI 1) v2 v3 v4 ((w (nI 0).toNatClampNeg) + (w (nI 5).toNatClampNeg)) v6 v7 (-1)).1) F lg) ok_X6_given lk_RX6_110 (ng_rok.of rfl rfl) (ML_g28 V) rfl rfl rfl rfl rfl rfl dX6_asked_134 (m_X6_given V hs134) rfl rfl ?_
  exact ev_sub (e_X6_asked_137 V h) (sub_s (sub_s (sub_s (sub_n (sub_n (sub_s (sub_n (sub_n (sub_s (sub_n sub_e))))))))))
def f_X6_asked  (w : Nat → Int32) (F : Nat → Int32) (v2 : Int32) (v3 : Int32) (v4 : Int32) (v5 : Int32) : (Nat → Int32) × (Nat → Int32) × Int32 := (if (w (nI 1).toNatClampNeg) = 0 then (w, F, nI 0) else (if (w ((f_X6_browser v2) + (nI 0)).toNatClampNeg) = (-1) then (w, F, nI 0) else (if (w ((f_X6_house v3) + (nI 3)).toNatClampNeg) = 0 then (w, F, nI 0) else (if (nI 30) < (w (nI 12).toNatClampNeg) then (w, F, nI 0) else (if (w (nI 13).toNatClampNeg) = (nI 16) then (w, F, nI 0) else f_X6_asked_113 ((f_X6_given (upd (upd (upd w (f_X6_family (w (nI 13).toNatClampNeg)).toNatClampNeg v2) ((f_X6_family (w (nI 13).toNatClampNeg)) + (nI 1)).toNatClampNeg (-1)) (nI 13).toNatClampNeg (((upd (upd w (f_X6_family (w (nI 13).toNatClampNeg)).toNatClampNeg v2) ((f_X6_family (w (nI 13).toNatClampNeg)) + (nI 1)).toNatClampNeg (-1)) (nI 13).toNatClampNeg) + (nI 1))) (nI 0) v2 v3 v4 (((upd (upd (upd w (f_X6_family (w (nI 13).toNatClampNeg)).toNatClampNeg v2) ((f_X6_family (w (nI 13).toNatClampNeg)) + (nI 1)).toNatClampNeg (-1)) (nI 13).toNatClampNeg (((upd (upd w (f_X6_family (w (nI 13).toNatClampNeg)).toNatClampNeg v2) ((f_X6_family (w (nI 13).toNatClampNeg)) + (nI 1)).toNatClampNeg (-1)) (nI 13).toNatClampNeg) + (nI 1))) (nI 0).toNatClampNeg) + ((upd (upd (upd w (f_X6_family (w (nI 13).toNatClampNeg)).toNatClampNeg v2) ((f_X6_family (w (nI 13).toNatClampNeg)) + (nI 1)).toNatClampNeg (-1)) (nI 13).toNatClampNeg (((upd (upd w (f_X6_family (w (nI 13).toNatClampNeg)).toNatClampNeg v2) ((f_X6_family (w (nI 13).toNatClampNeg)) + (nI 1)).toNatClampNeg (-1)) (nI 13).toNatClampNeg) + (nI 1))) (nI 4).toNatClampNeg)) (w (nI 13).toNatClampNeg) ((upd (upd (upd w (f_X6_family (w (nI 13).toNatClampNeg)).toNatClampNeg v2) ((f_X6_family (w (nI 13).toNatClampNeg)) + (nI 1)).toNatClampNeg (-1)) (nI 13).toNatClampNeg (((upd (upd w (f_X6_family (w (nI 13).toNatClampNeg)).toNatClampNeg v2) ((f_X6_family (w (nI 13).toNatClampNeg)) + (nI 1)).toNatClampNeg (-1)) (nI 13).toNatClampNeg) + (nI 1))) ((f_X6_browser v2) + (nI 0)).toNatClampNeg) (-1)).1) F v2 v3 v4 v5 (w (nI 13).toNatClampNeg) ((upd (upd (upd w (f_X6_family (w (nI 13).toNatClampNeg)).toNatClampNeg v2) ((f_X6_family (w (nI 13).toNatClampNeg)) + (nI 1)).toNatClampNeg (-1)) (nI 13).toNatClampNeg (((upd (upd w (f_X6_family (w (nI 13).toNatClampNeg)).toNatClampNeg v2) ((f_X6_family (w (nI 13).toNatClampNeg)) + (nI 1)).toNatClampNeg (-1)) (nI 13).toNatClampNeg) + (nI 1))) ((f_X6_browser v2) + (nI 0)).toNatClampNeg) ((f_X6_given (upd (upd (upd w (f_X6_family (w (nI 13).toNatClampNeg)).toNatClampNeg v2) ((f_X6_family (w (nI 13).toNatClampNeg)) + (nI 1)).toNatClampNeg (-1)) (nI 13).toNatClampNeg (((upd (upd w (f_X6_family (w (nI 13).toNatClampNeg)).toNatClampNeg v2) ((f_X6_family (w (nI 13).toNatClampNeg)) + (nI 1)).toNatClampNeg (-1)) (nI 13).toNatClampNeg) + (nI 1))) (nI 0) v2 v3 v4 (((upd (upd (upd w (f_X6_family (w (nI 13).toNatClampNeg)).toNatClampNeg v2) ((f_X6_family (w (nI 13).toNatClampNeg)) + (nI 1)).toNatClampNeg (-1)) (nI 13).toNatClampNeg (((upd (upd w (f_X6_family (w (nI 13).toNatClampNeg)).toNatClampNeg v2) ((f_X6_family (w (nI 13).toNatClampNeg)) + (nI 1)).toNatClampNeg (-1)) (nI 13).toNatClampNeg) + (nI 1))) (nI 0).toNatClampNeg) + ((upd (upd (upd w (f_X6_family (w (nI 13).toNatClampNeg)).toNatClampNeg v2) ((f_X6_family (w (nI 13).toNatClampNeg)) + (nI 1)).toNatClampNeg (-1)) (nI 13).toNatClampNeg (((upd (upd w (f_X6_family (w (nI 13).toNatClampNeg)).toNatClampNeg v2) ((f_X6_family (w (nI 13).toNatClampNeg)) + (nI 1)).toNatClampNeg (-1)) (nI 13).toNatClampNeg) + (nI 1))) (nI 4).toNatClampNeg)) (w (nI 13).toNatClampNeg) ((upd (upd (upd w (f_X6_family (w (nI 13).toNatClampNeg)).toNatClampNeg v2) ((f_X6_family (w (nI 13).toNatClampNeg)) + (nI 1)).toNatClampNeg (-1)) (nI 13).toNatClampNeg (((upd (upd w (f_X6_family (w (nI 13).toNatClampNeg)).toNatClampNeg v2) ((f_X6_family (w (nI 13).toNatClampNeg)) + (nI 1)).toNatClampNeg (-1)) (nI 13).toNatClampNeg) + (nI 1))) ((f_X6_browser v2) + (nI 0)).toNatClampNeg) (-1)).2))))))
def s_X6_asked  (w : Nat → Int32) (F : Nat → Int32) (v2 : Int32) (v3 : Int32) (v4 : Int32) (v5 : Int32) : Prop := (¬ (w (nI 1).toNatClampNeg) = 0 → (vp_in ((f_X6_browser v2) + (nI 0)) 527 ∧ (¬ (w ((f_X6_browser v2) + (nI 0)).toNatClampNeg) = (-1) → (vp_in ((f_X6_house v3) + (nI 3)) 527 ∧ (¬ (w ((f_X6_house v3) + (nI 3)).toNatClampNeg) = 0 → (¬ (nI 30) < (w (nI 12).toNatClampNeg) → (¬ (w (nI 13).toNatClampNeg) = (nI 16) → (vp_in (f_X6_family (w (nI 13).toNatClampNeg)) 527 ∧ (vp_in ((f_X6_family (w (nI 13).toNatClampNeg)) + (nI 1)) 527 ∧ (vp_in ((f_X6_browser v2) + (nI 0)) 527 ∧ (s_X6_given (upd (upd (upd w (f_X6_family (w (nI 13).toNatClampNeg)).toNatClampNeg v2) ((f_X6_family (w (nI 13).toNatClampNeg)) + (nI 1)).toNatClampNeg (-1)) (nI 13).toNatClampNeg (((upd (upd w (f_X6_family (w (nI 13).toNatClampNeg)).toNatClampNeg v2) ((f_X6_family (w (nI 13).toNatClampNeg)) + (nI 1)).toNatClampNeg (-1)) (nI 13).toNatClampNeg) + (nI 1))) (nI 0) v2 v3 v4 (((upd (upd (upd w (f_X6_family (w (nI 13).toNatClampNeg)).toNatClampNeg v2) ((f_X6_family (w (nI 13).toNatClampNeg)) + (nI 1)).toNatClampNeg (-1)) (nI 13).toNatClampNeg (((upd (upd w (f_X6_family (w (nI 13).toNatClampNeg)).toNatClampNeg v2) ((f_X6_family (w (nI 13).toNatClampNeg)) + (nI 1)).toNatClampNeg (-1)) (nI 13).toNatClampNeg) + (nI 1))) (nI 0).toNatClampNeg) + ((upd (upd (upd w (f_X6_family (w (nI 13).toNatClampNeg)).toNatClampNeg v2) ((f_X6_family (w (nI 13).toNatClampNeg)) + (nI 1)).toNatClampNeg (-1)) (nI 13).toNatClampNeg (((upd (upd w (f_X6_family (w (nI 13).toNatClampNeg)).toNatClampNeg v2) ((f_X6_family (w (nI 13).toNatClampNeg)) + (nI 1)).toNatClampNeg (-1)) (nI 13).toNatClampNeg) + (nI 1))) (nI 4).toNatClampNeg)) (w (nI 13).toNatClampNeg) ((upd (upd (upd w (f_X6_family (w (nI 13).toNatClampNeg)).toNatClampNeg v2) ((f_X6_family (w (nI 13).toNatClampNeg)) + (nI 1)).toNatClampNeg (-1)) (nI 13).toNatClampNeg (((upd (upd w (f_X6_family (w (nI 13).toNatClampNeg)).toNatClampNeg v2) ((f_X6_family (w (nI 13).toNatClampNeg)) + (nI 1)).toNatClampNeg (-1)) (nI 13).toNatClampNeg) + (nI 1))) ((f_X6_browser v2) + (nI 0)).toNatClampNeg) (-1) ∧ s_X6_asked_113 ((f_X6_given (upd (upd (upd w (f_X6_family (w (nI 13).toNatClampNeg)).toNatClampNeg v2) ((f_X6_family (w (nI 13).toNatClampNeg)) + (nI 1)).toNatClampNeg (-1)) (nI 13).toNatClampNeg (((upd (upd w (f_X6_family (w (nI 13).toNatClampNeg)).toNatClampNeg v2) ((f_X6_family (w (nI 13).toNatClampNeg)) + (nI 1)).toNatClampNeg (-1)) (nI 13).toNatClampNeg) + (nI 1))) (nI 0) v2 v3 v4 (((upd (upd (upd w (f_X6_family (w (nI 13).toNatClampNeg)).toNatClampNeg v2) ((f_X6_family (w (nI 13).toNatClampNeg)) + (nI 1)).toNatClampNeg (-1)) (nI 13).toNatClampNeg (((upd (upd w (f_X6_family (w (nI 13).toNatClampNeg)).toNatClampNeg v2) ((f_X6_family (w (nI 13).toNatClampNeg)) + (nI 1)).toNatClampNeg (-1)) (nI 13).toNatClampNeg) + (nI 1))) (nI 0).toNatClampNeg) + ((upd (upd (upd w (f_X6_family (w (nI 13).toNatClampNeg)).toNatClampNeg v2) ((f_X6_family (w (nI 13).toNatClampNeg)) + (nI 1)).toNatClampNeg (-1)) (nI 13).toNatClampNeg (((upd (upd w (f_X6_family (w (nI 13).toNatClampNeg)).toNatClampNeg v2) ((f_X6_family (w (nI 13).toNatClampNeg)) + (nI 1)).toNatClampNeg (-1)) (nI 13).toNatClampNeg) + (nI 1))) (nI 4).toNatClampNeg)) (w (nI 13).toNatClampNeg) ((upd (upd (upd w (f_X6_family (w (nI 13).toNatClampNeg)).toNatClampNeg v2) ((f_X6_family (w (nI 13).toNatClampNeg)) + (nI 1)).toNatClampNeg (-1)) (nI 13).toNatClampNeg (((upd (upd w (f_X6_family (w (nI 13).toNatClampNeg)).toNatClampNeg v2) ((f_X6_family (w (nI 13).toNatClampNeg)) + (nI 1)).toNatClampNeg (-1)) (nI 13).toNatClampNeg) + (nI 1))) ((f_X6_browser v2) + (nI 0)).toNatClampNeg) (-1)).1) F v2 v3 v4 v5 (w (nI 13).toNatClampNeg) ((upd (upd (upd w (f_X6_family (w (nI 13).toNatClampNeg)).toNatClampNeg v2) ((f_X6_family (w (nI 13).toNatClampNeg)) + (nI 1)).toNatClampNeg (-1)) (nI 13).toNatClampNeg (((upd (upd w (f_X6_family (w (nI 13).toNatClampNeg)).toNatClampNeg v2) ((f_X6_family (w (nI 13).toNatClampNeg)) + (nI 1)).toNatClampNeg (-1)) (nI 13).toNatClampNeg) + (nI 1))) ((f_X6_browser v2) + (nI 0)).toNatClampNeg) ((f_X6_given (upd (upd (upd w (f_X6_family (w (nI 13).toNatClampNeg)).toNatClampNeg v2) ((f_X6_family (w (nI 13).toNatClampNeg)) + (nI 1)).toNatClampNeg (-1)) (nI 13).toNatClampNeg (((upd (upd w (f_X6_family (w (nI 13).toNatClampNeg)).toNatClampNeg v2) ((f_X6_family (w (nI 13).toNatClampNeg)) + (nI 1)).toNatClampNeg (-1)) (nI 13).toNatClampNeg) + (nI 1))) (nI 0) v2 v3 v4 (((upd (upd (upd w (f_X6_family (w (nI 13).toNatClampNeg)).toNatClampNeg v2) ((f_X6_family (w (nI 13).toNatClampNeg)) + (nI 1)).toNatClampNeg (-1)) (nI 13).toNatClampNeg (((upd (upd w (f_X6_family (w (nI 13).toNatClampNeg)).toNatClampNeg v2) ((f_X6_family (w (nI 13).toNatClampNeg)) + (nI 1)).toNatClampNeg (-1)) (nI 13).toNatClampNeg) + (nI 1))) (nI 0).toNatClampNeg) + ((upd (upd (upd w (f_X6_family (w (nI 13).toNatClampNeg)).toNatClampNeg v2) ((f_X6_family (w (nI 13).toNatClampNeg)) + (nI 1)).toNatClampNeg (-1)) (nI 13).toNatClampNeg (((upd (upd w (f_X6_family (w (nI 13).toNatClampNeg)).toNatClampNeg v2) ((f_X6_family (w (nI 13).toNatClampNeg)) + (nI 1)).toNatClampNeg (-1)) (nI 13).toNatClampNeg) + (nI 1))) (nI 4).toNatClampNeg)) (w (nI 13).toNatClampNeg) ((upd (upd (upd w (f_X6_family (w (nI 13).toNatClampNeg)).toNatClampNeg v2) ((f_X6_family (w (nI 13).toNatClampNeg)) + (nI 1)).toNatClampNeg (-1)) (nI 13).toNatClampNeg (((upd (upd w (f_X6_family (w (nI 13).toNatClampNeg)).toNatClampNeg v2) ((f_X6_family (w (nI 13).toNatClampNeg)) + (nI 1)).toNatClampNeg (-1)) (nI 13).toNatClampNeg) + (nI 1))) ((f_X6_browser v2) + (nI 0)).toNatClampNeg) (-1)).2))))))))))))
set_option maxRecDepth 100000 in
set_option maxHeartbeats 4000000 in
theorem e_X6_asked {G : ng_GG} {hm : (Nat → Int32) → (Nat → Int32) → (Nat → Int32) → ng_AM} {a : Nat} (V : ng_ML hm a) {w : Nat → Int32} {F : Nat → Int32} {lg : Nat → Int32}  {v2 : Int32} {v3 : Int32} {v4 : Int32} {v5 : Int32} (h : s_X6_asked  w F v2 v3 v4 v5)  : ng_Ev G md_X6_asked 0 [some (.ref 28), some (.ref a), some (.int v2), some (.int v3), some (.int v4), some (.int v5), none, none, none, none] [] (hm w F lg) (K_X6_asked hm lg (f_X6_asked  w F v2 v3 v4 v5)) := by
  unfold s_X6_asked at h
  unfold f_X6_asked
  refine ev_aload_n dX6_asked_0 rfl rfl rfl ?_
  refine ev_iconst (v := nI 1) dX6_asked_1 (by decide) ?_
  refine ev_iald (ML_ga V) (vp_in_nI (by decide) (by decide)) dX6_asked_2 ?_
  refine bk_if_eq (tgt := 47) dX6_asked_3 (by decide) (fun c3 => ?_) (fun c3 => ?_)
  · refine ev_iconst (v := nI 0) dX6_asked_47 (by decide) ?_
    exact ev_iret rfl rfl dX6_asked_48
  · replace h := h c3
    refine ev_aload_n dX6_asked_6 rfl rfl rfl ?_
    refine ev_iload_n dX6_asked_7 rfl rfl ?_
    refine bk_callS (As := [.int v2]) (st := [.ref a]) (st2 := [.int (f_X6_browser v2), .ref a]) (M2 := hm w F lg) ok_X6_browser lk_RX6_82 (ng_rok.of rfl rfl) rfl rfl rfl rfl dX6_asked_8 (m_X6_browser trivial) rfl rfl ?_
    refine ev_iconst (v := nI 0) dX6_asked_11 (by decide) ?_
    refine ev_iadd dX6_asked_12 ?_
    have hi13 := h.1
    replace h := h.2
    refine ev_iald (ML_ga V) hi13 dX6_asked_13 ?_
    refine ev_iconst (v := (-1)) dX6_asked_14 (by decide) ?_
    refine bk_icmp_eq (tgt := 47) dX6_asked_15 (by decide) (fun c15 => ?_) (fun c15 => ?_)
    · refine ev_iconst (v := nI 0) dX6_asked_47 (by decide) ?_
      exact ev_iret rfl rfl dX6_asked_48
    · replace h := h c15
      refine ev_aload_n dX6_asked_18 rfl rfl rfl ?_
      refine ev_iload_n dX6_asked_19 rfl rfl ?_
      refine bk_callS (As := [.int v3]) (st := [.ref a]) (st2 := [.int (f_X6_house v3), .ref a]) (M2 := hm w F lg) ok_X6_house lk_RX6_75 (ng_rok.of rfl rfl) rfl rfl rfl rfl dX6_asked_20 (m_X6_house trivial) rfl rfl ?_
      refine ev_iconst (v := nI 3) dX6_asked_23 (by decide) ?_
      refine ev_iadd dX6_asked_24 ?_
      have hi25 := h.1
      replace h := h.2
      refine ev_iald (ML_ga V) hi25 dX6_asked_25 ?_
      refine bk_if_eq (tgt := 47) dX6_asked_26 (by decide) (fun c26 => ?_) (fun c26 => ?_)
      · refine ev_iconst (v := nI 0) dX6_asked_47 (by decide) ?_
        exact ev_iret rfl rfl dX6_asked_48
      · replace h := h c26
        refine ev_aload_n dX6_asked_29 rfl rfl rfl ?_
        refine ev_bipush (v := nI 12) dX6_asked_30 (by decide) ?_
        refine ev_iald (ML_ga V) (vp_in_nI (by decide) (by decide)) dX6_asked_32 ?_
        refine ev_bipush (v := nI 30) dX6_asked_33 (by decide) ?_
        refine bk_icmp_gt (tgt := 47) dX6_asked_35 (by decide) (fun c35 => ?_) (fun c35 => ?_)
        · refine ev_iconst (v := nI 0) dX6_asked_47 (by decide) ?_
          exact ev_iret rfl rfl dX6_asked_48
        · replace h := h c35
          refine ev_aload_n dX6_asked_38 rfl rfl rfl ?_
          refine ev_bipush (v := nI 13) dX6_asked_39 (by decide) ?_
          refine ev_iald (ML_ga V) (vp_in_nI (by decide) (by decide)) dX6_asked_41 ?_
          refine ev_bipush (v := nI 16) dX6_asked_42 (by decide) ?_
          refine bk_icmp_ne (tgt := 49) dX6_asked_44 (by decide) (fun c44 => ?_) (fun c44 => ?_)
          · replace h := h c44
            refine ev_aload_n dX6_asked_49 rfl rfl rfl ?_
            refine ev_bipush (v := nI 13) dX6_asked_50 (by decide) ?_
            refine ev_iald (ML_ga V) (vp_in_nI (by decide) (by decide)) dX6_asked_52 ?_
            refine ev_istore (L' := [some (.ref 28), some (.ref a), some (.int v2), some (.int v3), some (.int v4), some (.int v5), some (.int (w (nI 13).toNatClampNeg)), none, none, none]) dX6_asked_53 (ng_lt rfl) rfl ?_
            refine ev_aload_n dX6_asked_55 rfl rfl rfl ?_
            refine ev_iload dX6_asked_56 rfl ?_
            refine bk_callS (As := [.int (w (nI 13).toNatClampNeg)]) (st := [.ref a]) (st2 := [.int (f_X6_family (w (nI 13).toNatClampNeg)), .ref a]) (M2 := hm w F lg) ok_X6_family lk_RX6_85 (ng_rok.of rfl rfl) rfl rfl rfl rfl dX6_asked_58 (m_X6_family trivial) rfl rfl ?_
            refine ev_iload_n dX6_asked_61 rfl rfl ?_
            have hi62 := h.1
            replace h := h.2
            refine ev_iast (ML_ga V) hi62 (ML_sa V) dX6_asked_62 ?_
            refine ev_aload_n dX6_asked_63 rfl rfl rfl ?_
            refine ev_iload dX6_asked_64 rfl ?_
            refine bk_callS (As := [.int (w (nI 13).toNatClampNeg)]) (st := [.ref a]) (st2 := [.int (f_X6_family (w (nI 13).toNatClampNeg)), .ref a]) (M2 := hm (upd w (f_X6_family (w (nI 13).toNatClampNeg)).toNatClampNeg v2) F lg) ok_X6_family lk_RX6_85 (ng_rok.of rfl rfl) rfl rfl rfl rfl dX6_asked_66 (m_X6_family trivial) rfl rfl ?_
            refine ev_iconst (v := nI 1) dX6_asked_69 (by decide) ?_
            refine ev_iadd dX6_asked_70 ?_
            refine ev_iconst (v := (-1)) dX6_asked_71 (by decide) ?_
            have hi72 := h.1
            replace h := h.2
            refine ev_iast (ML_ga V) hi72 (ML_sa V) dX6_asked_72 ?_
            refine ev_aload_n dX6_asked_73 rfl rfl rfl ?_
            refine ev_bipush (v := nI 13) dX6_asked_74 (by decide) ?_
            refine ev_dup2 dX6_asked_76 rfl rfl ?_
            refine ev_iald (ML_ga V) (vp_in_nI (by decide) (by decide)) dX6_asked_77 ?_
            refine ev_iconst (v := nI 1) dX6_asked_78 (by decide) ?_
            refine ev_iadd dX6_asked_79 ?_
            refine ev_iast (ML_ga V) (vp_in_nI (by decide) (by decide)) (ML_sa V) dX6_asked_80 ?_
            refine ev_aload_n dX6_asked_81 rfl rfl rfl ?_
            refine ev_iload_n dX6_asked_82 rfl rfl ?_
            refine bk_callS (As := [.int v2]) (st := [.ref a]) (st2 := [.int (f_X6_browser v2), .ref a]) (M2 := hm (upd (upd (upd w (f_X6_family (w (nI 13).toNatClampNeg)).toNatClampNeg v2) ((f_X6_family (w (nI 13).toNatClampNeg)) + (nI 1)).toNatClampNeg (-1)) (nI 13).toNatClampNeg (((upd (upd w (f_X6_family (w (nI 13).toNatClampNeg)).toNatClampNeg v2) ((f_X6_family (w (nI 13).toNatClampNeg)) + (nI 1)).toNatClampNeg (-1)) (nI 13).toNatClampNeg) + (nI 1))) F lg) ok_X6_browser lk_RX6_82 (ng_rok.of rfl rfl) rfl rfl rfl rfl dX6_asked_83 (m_X6_browser trivial) rfl rfl ?_
            refine ev_iconst (v := nI 0) dX6_asked_86 (by decide) ?_
            refine ev_iadd dX6_asked_87 ?_
            have hi88 := h.1
            replace h := h.2
            refine ev_iald (ML_ga V) hi88 dX6_asked_88 ?_
            refine ev_istore (L' := [some (.ref 28), some (.ref a), some (.int v2), some (.int v3), some (.int v4), some (.int v5), some (.int (w (nI 13).toNatClampNeg)), some (.int ((upd (upd (upd w (f_X6_family (w (nI 13).toNatClampNeg)).toNatClampNeg v2) ((f_X6_family (w (nI 13).toNatClampNeg)) + (nI 1)).toNatClampNeg (-1)) (nI 13).toNatClampNeg (((upd (upd w (f_X6_family (w (nI 13).toNatClampNeg)).toNatClampNeg v2) ((f_X6_family (w (nI 13).toNatClampNeg)) + (nI 1)).toNatClampNeg (-1)) (nI 13).toNatClampNeg) + (nI 1))) ((f_X6_browser v2) + (nI 0)).toNatClampNeg)), none, none]) dX6_asked_89 (ng_lt rfl) rfl ?_
            refine ev_aload_n dX6_asked_91 rfl rfl rfl ?_
            refine ev_aload_n dX6_asked_92 rfl rfl rfl ?_
            refine ev_iconst (v := nI 0) dX6_asked_93 (by decide) ?_
            refine ev_iload_n dX6_asked_94 rfl rfl ?_
            refine ev_iload_n dX6_asked_95 rfl rfl ?_
            refine ev_iload dX6_asked_96 rfl ?_
            refine ev_aload_n dX6_asked_98 rfl rfl rfl ?_
            refine ev_iconst (v := nI 0) dX6_asked_99 (by decide) ?_
            refine ev_iald (ML_ga V) (vp_in_nI (by decide) (by decide)) dX6_asked_100 ?_
            refine ev_aload_n dX6_asked_101 rfl rfl rfl ?_
            refine ev_iconst (v := nI 4) dX6_asked_102 (by decide) ?_
            refine ev_iald (ML_ga V) (vp_in_nI (by decide) (by decide)) dX6_asked_103 ?_
            refine ev_iadd dX6_asked_104 ?_
            refine ev_iload dX6_asked_105 rfl ?_
            refine ev_iload dX6_asked_107 rfl ?_
            refine ev_iconst (v := (-1)) dX6_asked_109 (by decide) ?_
            have hs110 := h.1
            replace h := h.2
            refine bk_callV (As := [.ref a, .int (nI 0), .int v2, .int v3, .int v4, .int (((upd (upd (upd w (f_X6_family (w (nI 13).toNatClampNeg)).toNatClampNeg v2) ((f_X6_family (w (nI 13).toNatClampNeg)) + (nI 1)).toNatClampNeg (-1)) (nI 13).toNatClampNeg (((upd (upd w (f_X6_family (w (nI 13).toNatClampNeg)).toNatClampNeg v2) ((f_X6_family (w (nI 13).toNatClampNeg)) + (nI 1)).toNatClampNeg (-1)) (nI 13).toNatClampNeg) + (nI 1))) (nI 0).toNatClampNeg) + ((upd (upd (upd w (f_X6_family (w (nI 13).toNatClampNeg)).toNatClampNeg v2) ((f_X6_family (w (nI 13).toNatClampNeg)) + (nI 1)).toNatClampNeg (-1)) (nI 13).toNatClampNeg (((upd (upd w (f_X6_family (w (nI 13).toNatClampNeg)).toNatClampNeg v2) ((f_X6_family (w (nI 13).toNatClampNeg)) + (nI 1)).toNatClampNeg (-1)) (nI 13).toNatClampNeg) + (nI 1))) (nI 4).toNatClampNeg)), .int (w (nI 13).toNatClampNeg), .int ((upd (upd (upd w (f_X6_family (w (nI 13).toNatClampNeg)).toNatClampNeg v2) ((f_X6_family (w (nI 13).toNatClampNeg)) + (nI 1)).toNatClampNeg (-1)) (nI 13).toNatClampNeg (((upd (upd w (f_X6_family (w (nI 13).toNatClampNeg)).toNatClampNeg v2) ((f_X6_family (w (nI 13).toNatClampNeg)) + (nI 1)).toNatClampNeg (-1)) (nI 13).toNatClampNeg) + (nI 1))) ((f_X6_browser v2) + (nI 0)).toNatClampNeg), .int (-1)]) (st := []) (st2 := [.int ((f_X6_given (upd (upd (upd w (f_X6_family (w (nI 13).toNatClampNeg)).toNatClampNeg v2) ((f_X6_family (w (nI 13).toNatClampNeg)) + (nI 1)).toNatClampNeg (-1)) (nI 13).toNatClampNeg (((upd (upd w (f_X6_family (w (nI 13).toNatClampNeg)).toNatClampNeg v2) ((f_X6_family (w (nI 13).toNatClampNeg)) + (nI 1)).toNatClampNeg (-1)) (nI 13).toNatClampNeg) + (nI 1))) (nI 0) v2 v3 v4 (((upd (upd (upd w (f_X6_family (w (nI 13).toNatClampNeg)).toNatClampNeg v2) ((f_X6_family (w (nI 13).toNatClampNeg)) + (nI 1)).toNatClampNeg (-1)) (nI 13).toNatClampNeg (((upd (upd w (f_X6_family (w (nI 13).toNatClampNeg)).toNatClampNeg v2) ((f_X6_family (w (nI 13).toNatClampNeg)) + (nI 1)).toNatClampNeg (-1)) (nI 13).toNatClampNeg) + (nI 1))) (nI 0).toNatClampNeg) + ((upd (upd (upd w (f_X6_family (w (nI 13).toNatClampNeg)).toNatClampNeg v2) ((f_X6_family (w (nI 13).toNatClampNeg)) + (nI 1)).toNatClampNeg (-1)) (nI 13).toNatClampNeg (((upd (upd w (f_X6_family (w (nI 13).toNatClampNeg)).toNatClampNeg v2) ((f_X6_family (w (nI 13).toNatClampNeg)) + (nI 1)).toNatClampNeg (-1)) (nI 13).toNatClampNeg) + (nI 1))) (nI 4).toNatClampNeg)) (w (nI 13).toNatClampNeg) ((upd (upd (upd w (f_X6_family (w (nI 13).toNatClampNeg)).toNatClampNeg v2) ((f_X6_family (w (nI 13).toNatClampNeg)) + (nI 1)).toNatClampNeg (-1)) (nI 13).toNatClampNeg (((upd (upd w (f_X6_family (w (nI 13).toNatClampNeg)).toNatClampNeg v2) ((f_X6_family (w (nI 13).toNatClampNeg)) + (nI 1)).toNatClampNeg (-1)) (nI 13).toNatClampNeg) + (nI 1))) ((f_X6_browser v2) + (nI 0)).toNatClampNeg) (-1)).2)]) (M2 := hm ((f_X6_given (upd (upd (upd w (f_X6_family (w (nI 13).toNatClampNeg)).toNatClampNeg v2) ((f_X6_family (w (nI 13).toNatClampNeg)) + (nI 1)).toNatClampNeg (-1)) (nI 13).toNatClampNeg (((upd (upd w (f_X6_family (w (nI 13).toNatClampNeg)).toNatClampNeg v2) ((f_X6_family (w (nI 13).toNatClampNeg)) + (nI 1)).toNatClampNeg (-1)) (nI 13).toNatClampNeg) + (nI 1))) (nI 0) v2 v3 v4 (((upd (upd (upd w (f_X6_family (w (nI 13).toNatClampNeg)).toNatClampNeg v2) ((f_X6_family (w (nI 13).toNatClampNeg)) + (nI 1)).toNatClampNeg (-1)) (nI 13).toNatClampNeg (((upd (upd w (f_X6_family (w (nI 13).toNatClampNeg)).toNatClampNeg v2) ((f_X6_family (w (nI 13).toNatClampNeg)) + (nI 1)).toNatClampNeg (-1)) (nI 13).toNatClampNeg) + (nI 1))) (nI 0).toNatClampNeg) + ((upd (upd (upd w (f_X6_family (w (nI 13).toNatClampNeg)).toNatClampNeg v2) ((f_X6_family (w (nI 13).toNatClampNeg)) + (nI 1)).toNatClampNeg (-1)) (nI 13).toNatClampNeg (((upd (upd w (f_X6_family (w (nI 13).toNatClampNeg)).toNatClampNeg v2) ((f_X6_family (w (nI 13).toNatClampNeg)) + (nI 1)).toNatClampNeg (-1)) (nI 13).toNatClampNeg) + (nI 1))) (nI 4).toNatClampNeg)) (w (nI 13).toNatClampNeg) ((upd (upd (upd w (f_X6_family (w (nI 13).toNatClampNeg)).toNatClampNeg v2) ((f_X6_family (w (nI 13).toNatClampNeg)) + (nI 1)).toNatClampNeg (-1)) (nI 13).toNatClampNeg (((upd (upd w (f_X6_family (w (nI 13).toNatClampNeg)).toNatClampNeg v2) ((f_X6_family (w (nI 13).toNatClampNeg)) + (nI 1)).toNatClampNeg (-1)) (nI 13).toNatClampNeg) + (nI 1))) ((f_X6_browser v2) + (nI 0)).toNatClampNeg) (-1)).1) F lg) ok_X6_given lk_RX6_110 (ng_rok.of rfl rfl) (ML_g28 V) rfl rfl rfl rfl rfl rfl dX6_asked_110 (m_X6_given V hs110) rfl rfl ?_
            exact ev_sub (e_X6_asked_113 V h) (sub_s (sub_s (sub_s (sub_s (sub_s (sub_s (sub_s (sub_s (sub_n (sub_n sub_e))))))))))
          · refine ev_iconst (v := nI 0) dX6_asked_47 (by decide) ?_
            exact ev_iret rfl rfl dX6_asked_48
theorem m_X6_asked {G : ng_GG} {hm : (Nat → Int32) → (Nat → Int32) → (Nat → Int32) → ng_AM} {a : Nat} (V : ng_ML hm a) {w : Nat → Int32} {F : Nat → Int32} {lg : Nat → Int32} {v2 : Int32} {v3 : Int32} {v4 : Int32} {v5 : Int32} (h : s_X6_asked w F v2 v3 v4 v5)  : ng_Ev G md_X6_asked 0 (ng_en 10 [.ref 28, .ref a, .int v2, .int v3, .int v4, .int v5]) [] (hm w F lg) (K_X6_asked hm lg (f_X6_asked w F v2 v3 v4 v5)) := e_X6_asked V h 
def K_X6_turned (hm : (Nat → Int32) → (Nat → Int32) → (Nat → Int32) → ng_AM) (lg : Nat → Int32) (r : (Nat → Int32) × (Nat → Int32) × Int32) : ng_RR := (some (.int (r.2.2)), hm (r.1) (r.2.1) lg)
def f_X6_turned_191  (w : Nat → Int32) (F : Nat → Int32) (v8 : Int32) : (Nat → Int32) × (Nat → Int32) × Int32 := ((f_X6_gets w (nI 4) v8), F, nI 1)
def s_X6_turned_191  (w : Nat → Int32) (F : Nat → Int32) (v8 : Int32) : Prop := s_X6_gets w (nI 4) v8
set_option maxRecDepth 100000 in
set_option maxHeartbeats 4000000 in
theorem e_X6_turned_191 {G : ng_GG} {hm : (Nat → Int32) → (Nat → Int32) → (Nat → Int32) → ng_AM} {a : Nat} (V : ng_ML hm a) {w : Nat → Int32} {F : Nat → Int32} {lg : Nat → Int32}  {v8 : Int32} (h : s_X6_turned_191  w F v8)  : ng_Ev G md_X6_turned 191 [none, some (.ref a), none, none, none, none, none, none, some (.int v8)] [] (hm w F lg) (K_X6_turned hm lg (f_X6_turned_191  w F v8)) := by
  unfold s_X6_turned_191 at h
  unfold f_X6_turned_191
  refine ev_aload_n dX6_turned_191 rfl rfl rfl ?_
  refine ev_iconst (v := nI 4) dX6_turned_192 (by decide) ?_
  refine ev_iload dX6_turned_193 rfl ?_
  have hs195 := h
  refine bk_callS (As := [.ref a, .int (nI 4), .int v8]) (st := []) (st2 := []) (M2 := hm (f_X6_gets w (nI 4) v8) F lg) ok_X6_gets lk_RX6_102 (ng_rok.of rfl rfl) rfl rfl rfl rfl dX6_turned_195 (m_X6_gets V hs195) rfl rfl ?_
  refine ev_goto (tgt := 216) dX6_turned_198 (by decide) ?_
  refine ev_iconst (v := nI 1) dX6_turned_216 (by decide) ?_
  exact ev_iret rfl rfl dX6_turned_217
def f_X6_turned_177  (w : Nat → Int32) (F : Nat → Int32) (v2 : Int32) (v4 : Int32) (v5 : Int32) (v7 : Int32) (t0 : Int32) : (Nat → Int32) × (Nat → Int32) × Int32 := (if v5 = 0 then ((f_X6_posts w F (nI 9) v2 (nI 1) v7 t0 v4).1, (f_X6_posts w F (nI 9) v2 (nI 1) v7 t0 v4).2, nI 1) else f_X6_turned_191 (f_X6_gets w (nI 4) v7) F t0)
def s_X6_turned_177  (w : Nat → Int32) (F : Nat → Int32) (v2 : Int32) (v4 : Int32) (v5 : Int32) (v7 : Int32) (t0 : Int32) : Prop := ((v5 = 0 → s_X6_posts w F (nI 9) v2 (nI 1) v7 t0 v4) ∧ (¬ v5 = 0 → (s_X6_gets w (nI 4) v7 ∧ s_X6_turned_191 (f_X6_gets w (nI 4) v7) F t0)))
set_option maxRecDepth 100000 in
set_option maxHeartbeats 4000000 in
theorem e_X6_turned_177 {G : ng_GG} {hm : (Nat → Int32) → (Nat → Int32) → (Nat → Int32) → ng_AM} {a : Nat} (V : ng_ML hm a) {w : Nat → Int32} {F : Nat → Int32} {lg : Nat → Int32}  {v2 : Int32} {v4 : Int32} {v5 : Int32} {v7 : Int32} {t0 : Int32} (h : s_X6_turned_177  w F v2 v4 v5 v7 t0)  : ng_Ev G md_X6_turned 177 [some (.ref 28), some (.ref a), some (.int v2), none, some (.int v4), some (.int v5), none, some (.int v7), none] [.int t0] (hm w F lg) (K_X6_turned hm lg (f_X6_turned_177  w F v2 v4 v5 v7 t0)) := by
  unfold s_X6_turned_177 at h
  unfold f_X6_turned_177
  refine ev_istore (L' := [some (.ref 28), some (.ref a), some (.int v2), none, some (.int v4), some (.int v5), none, some (.int v7), some (.int t0)]) dX6_turned_177 (ng_lt rfl) rfl ?_
  refine ev_iload dX6_turned_179 rfl ?_
  refine bk_if_eq (tgt := 201) dX6_turned_181 (by decide) (fun c181 => ?_) (fun c181 => ?_)
  · replace h := h.1 c181
    refine ev_aload_n dX6_turned_201 rfl rfl rfl ?_
    refine ev_aload_n dX6_turned_202 rfl rfl rfl ?_
    refine ev_bipush (v := nI 9) dX6_turned_203 (by decide) ?_
    refine ev_iload_n dX6_turned_205 rfl rfl ?_
    refine ev_iconst (v := nI 1) dX6_turned_206 (by decide) ?_
    refine ev_iload dX6_turned_207 rfl ?_
    refine ev_iload dX6_turned_209 rfl ?_
    refine ev_iload dX6_turned_211 rfl ?_
    have hs213 := h
    refine bk_callV (As := [.ref a, .int (nI 9), .int v2, .int (nI 1), .int v7, .int t0, .int v4]) (st := []) (st2 := []) (M2 := hm ((f_X6_posts w F (nI 9) v2 (nI 1) v7 t0 v4).1) ((f_X6_posts w F (nI 9) v2 (nI 1) v7 t0 v4).2) lg) ok_X6_posts lk_RX6_106 (ng_rok.of rfl rfl) (ML_g28 V) rfl rfl rfl rfl rfl rfl dX6_turned_213 (m_X6_posts V hs213) rfl rfl ?_
    refine ev_iconst (v := nI 1) dX6_turned_216 (by decide) ?_
    exact ev_iret rfl rfl dX6_turned_217
  · replace h := h.2 c181
    refine ev_aload_n dX6_turned_184 rfl rfl rfl ?_
    refine ev_iconst (v := nI 4) dX6_turned_185 (by decide) ?_
    refine ev_iload dX6_turned_186 rfl ?_
    have hs188 := h.1
    replace h := h.2
    refine bk_callS (As := [.ref a, .int (nI 4), .int v7]) (st := []) (st2 := []) (M2 := hm (f_X6_gets w (nI 4) v7) F lg) ok_X6_gets lk_RX6_102 (ng_rok.of rfl rfl) rfl rfl rfl rfl dX6_turned_188 (m_X6_gets V hs188) rfl rfl ?_
    exact ev_sub (e_X6_turned_191 V h) (sub_n (sub_s (sub_n (sub_n (sub_n (sub_n (sub_n (sub_n (sub_s sub_e)))))))))
def f_X6_turned_130  (w : Nat → Int32) (F : Nat → Int32) (v2 : Int32) (v4 : Int32) (v5 : Int32) (v6 : Int32) (t0 : Int32) : (Nat → Int32) × (Nat → Int32) × Int32 := f_X6_turned_177 ((f_X6_given w (nI 1) (w (v6 + (nI 1)).toNatClampNeg) (w (v6 + (nI 2)).toNatClampNeg) (w (v6 + (nI 3)).toNatClampNeg) (w (v6 + (nI 5)).toNatClampNeg) (w (v6 + (nI 6)).toNatClampNeg) (w (v6 + (nI 7)).toNatClampNeg) (-1)).1) F v2 v4 v5 t0 ((f_X6_given w (nI 1) (w (v6 + (nI 1)).toNatClampNeg) (w (v6 + (nI 2)).toNatClampNeg) (w (v6 + (nI 3)).toNatClampNeg) (w (v6 + (nI 5)).toNatClampNeg) (w (v6 + (nI 6)).toNatClampNeg) (w (v6 + (nI 7)).toNatClampNeg) (-1)).2)
def s_X6_turned_130  (w : Nat → Int32) (F : Nat → Int32) (v2 : Int32) (v4 : Int32) (v5 : Int32) (v6 : Int32) (t0 : Int32) : Prop := (vp_in (v6 + (nI 1)) 527 ∧ (vp_in (v6 + (nI 2)) 527 ∧ (vp_in (v6 + (nI 3)) 527 ∧ (vp_in (v6 + (nI 5)) 527 ∧ (vp_in (v6 + (nI 6)) 527 ∧ (vp_in (v6 + (nI 7)) 527 ∧ (s_X6_given w (nI 1) (w (v6 + (nI 1)).toNatClampNeg) (w (v6 + (nI 2)).toNatClampNeg) (w (v6 + (nI 3)).toNatClampNeg) (w (v6 + (nI 5)).toNatClampNeg) (w (v6 + (nI 6)).toNatClampNeg) (w (v6 + (nI 7)).toNatClampNeg) (-1) ∧ s_X6_turned_177 ((f_X6_given w (nI 1) (w (v6 + (nI 1)).toNatClampNeg) (w (v6 + (nI 2)).toNatClampNeg) (w (v6 + (nI 3)).toNatClampNeg) (w (v6 + (nI 5)).toNatClampNeg) (w (v6 + (nI 6)).toNatClampNeg) (w (v6 + (nI 7)).toNatClampNeg) (-1)).1) F v2 v4 v5 t0 ((f_X6_given w (nI 1) (w (v6 + (nI 1)).toNatClampNeg) (w (v6 + (nI 2)).toNatClampNeg) (w (v6 + (nI 3)).toNatClampNeg) (w (v6 + (nI 5)).toNatClampNeg) (w (v6 + (nI 6)).toNatClampNeg) (w (v6 + (nI 7)).toNatClampNeg) (-1)).2))))))))
set_option maxRecDepth 100000 in
set_option maxHeartbeats 4000000 in
theorem e_X6_turned_130 {G : ng_GG} {hm : (Nat → Int32) → (Nat → Int32) → (Nat → Int32) → ng_AM} {a : Nat} (V : ng_ML hm a) {w : Nat → Int32} {F : Nat → Int32} {lg : Nat → Int32}  {v2 : Int32} {v4 : Int32} {v5 : Int32} {v6 : Int32} {t0 : Int32} (h : s_X6_turned_130  w F v2 v4 v5 v6 t0)  : ng_Ev G md_X6_turned 130 [some (.ref 28), some (.ref a), some (.int v2), none, some (.int v4), some (.int v5), some (.int v6), none, none] [.int t0] (hm w F lg) (K_X6_turned hm lg (f_X6_turned_130  w F v2 v4 v5 v6 t0)) := by
  unfold s_X6_turned_130 at h
  unfold f_X6_turned_130
  refine ev_istore (L' := [some (.ref 28), some (.ref a), some (.int v2), none, some (.int v4), some (.int v5), some (.int v6), some (.int t0), none]) dX6_turned_130 (ng_lt rfl) rfl ?_
  refine ev_aload_n dX6_turned_132 rfl rfl rfl ?_
  refine ev_aload_n dX6_turned_133 rfl rfl rfl ?_
  refine ev_iconst (v := nI 1) dX6_turned_134 (by decide) ?_
  refine ev_aload_n dX6_turned_135 rfl rfl rfl ?_
  refine ev_iload dX6_turned_136 rfl ?_
  refine ev_iconst (v := nI 1) dX6_turned_138 (by decide) ?_
  refine ev_iadd dX6_turned_139 ?_
  have hi140 := h.1
  replace h := h.2
  refine ev_iald (ML_ga V) hi140 dX6_turned_140 ?_
  refine ev_aload_n dX6_turned_141 rfl rfl rfl ?_
  refine ev_iload dX6_turned_142 rfl ?_
  refine ev_iconst (v := nI 2) dX6_turned_144 (by decide) ?_
  refine ev_iadd dX6_turned_145 ?_
  have hi146 := h.1
  replace h := h.2
  refine ev_iald (ML_ga V) hi146 dX6_turned_146 ?_
  refine ev_aload_n dX6_turned_147 rfl rfl rfl ?_
  refine ev_iload dX6_turned_148 rfl ?_
  refine ev_iconst (v := nI 3) dX6_turned_150 (by decide) ?_
  refine ev_iadd dX6_turned_151 ?_
  have hi152 := h.1
  replace h := h.2
  refine ev_iald (ML_ga V) hi152 dX6_turned_152 ?_
  refine ev_aload_n dX6_turned_153 rfl rfl rfl ?_
  refine ev_iload dX6_turned_154 rfl ?_
  refine ev_iconst (v := nI 5) dX6_turned_156 (by decide) ?_
  refine ev_iadd dX6_turned_157 ?_
  have hi158 := h.1
  replace h := h.2
  refine ev_iald (ML_ga V) hi158 dX6_turned_158 ?_
  refine ev_aload_n dX6_turned_159 rfl rfl rfl ?_
  refine ev_iload dX6_turned_160 rfl ?_
  refine ev_bipush (v := nI 6) dX6_turned_162 (by decide) ?_
  refine ev_iadd dX6_turned_164 ?_
  have hi165 := h.1
  replace h := h.2
  refine ev_iald (ML_ga V) hi165 dX6_turned_165 ?_
  refine ev_aload_n dX6_turned_166 rfl rfl rfl ?_
  refine ev_iload dX6_turned_167 rfl ?_
  refine ev_bipush (v := nI 7) dX6_turned_169 (by decide) ?_
  refine ev_iadd dX6_turned_171 ?_
  have hi172 := h.1
  replace h := h.2
  refine ev_iald (ML_ga V) hi172 dX6_turned_172 ?_
  refine ev_iconst (v := (-1)) dX6_turned_173 (by decide) ?_
  have hs174 := h.1
  replace h := h.2
  refine bk_callV (As := [.ref a, .int (nI 1), .int (w (v6 + (nI 1)).toNatClampNeg), .int (w (v6 + (nI 2)).toNatClampNeg), .int (w (v6 + (nI 3)).toNatClampNeg), .int (w (v6 + (nI 5)).toNatClampNeg), .int (w (v6 + (nI 6)).toNatClampNeg), .int (w (v6 + (nI 7)).toNatClampNeg), .int (-1)]) (st := []) (st2 := [.int ((f_X6_given w (nI 1) (w (v6 + (nI 1)).toNatClampNeg) (w (v6 + (nI 2)).toNatClampNeg) (w (v6 + (nI 3)).toNatClampNeg) (w (v6 + (nI 5)).toNatClampNeg) (w (v6 + (nI 6)).toNatClampNeg) (w (v6 + (nI 7)).toNatClampNeg) (-1)).2)]) (M2 := hm ((f_X6_given w (nI 1) (w (v6 + (nI 1)).toNatClampNeg) (w (v6 + (nI 2)).toNatClampNeg) (w (v6 + (nI 3)).toNatClampNeg) (w (v6 + (nI 5)).toNatClampNeg) (w (v6 + (nI 6)).toNatClampNeg) (w (v6 + (nI 7)).toNatClampNeg) (-1)).1) F lg) ok_X6_given lk_RX6_110 (ng_rok.of rfl rfl) (ML_g28 V) rfl rfl rfl rfl rfl rfl dX6_turned_174 (m_X6_given V hs174) rfl rfl ?_
  exact ev_sub (e_X6_turned_177 V h) (sub_s (sub_s (sub_s (sub_n (sub_s (sub_s (sub_n (sub_s (sub_n sub_e)))))))))
def f_X6_turned_65  (w : Nat → Int32) (F : Nat → Int32) (v2 : Int32) (v4 : Int32) (v5 : Int32) (v6 : Int32) : (Nat → Int32) × (Nat → Int32) × Int32 := (if (w (nI 12).toNatClampNeg) ≤ (nI 30) then f_X6_turned_130 ((f_X6_given (upd w (v6 + (nI 9)).toNatClampNeg (nI 1)) (nI 0) ((upd w (v6 + (nI 9)).toNatClampNeg (nI 1)) (v6 + (nI 1)).toNatClampNeg) ((upd w (v6 + (nI 9)).toNatClampNeg (nI 1)) (v6 + (nI 2)).toNatClampNeg) ((upd w (v6 + (nI 9)).toNatClampNeg (nI 1)) (v6 + (nI 3)).toNatClampNeg) (((upd w (v6 + (nI 9)).toNatClampNeg (nI 1)) (nI 0).toNatClampNeg) + ((upd w (v6 + (nI 9)).toNatClampNeg (nI 1)) (nI 4).toNatClampNeg)) ((upd w (v6 + (nI 9)).toNatClampNeg (nI 1)) (v6 + (nI 6)).toNatClampNeg) ((upd w (v6 + (nI 9)).toNatClampNeg (nI 1)) (v6 + (nI 7)).toNatClampNeg) (-1)).1) F v2 v4 v5 v6 ((f_X6_given (upd w (v6 + (nI 9)).toNatClampNeg (nI 1)) (nI 0) ((upd w (v6 + (nI 9)).toNatClampNeg (nI 1)) (v6 + (nI 1)).toNatClampNeg) ((upd w (v6 + (nI 9)).toNatClampNeg (nI 1)) (v6 + (nI 2)).toNatClampNeg) ((upd w (v6 + (nI 9)).toNatClampNeg (nI 1)) (v6 + (nI 3)).toNatClampNeg) (((upd w (v6 + (nI 9)).toNatClampNeg (nI 1)) (nI 0).toNatClampNeg) + ((upd w (v6 + (nI 9)).toNatClampNeg (nI 1)) (nI 4).toNatClampNeg)) ((upd w (v6 + (nI 9)).toNatClampNeg (nI 1)) (v6 + (nI 6)).toNatClampNeg) ((upd w (v6 + (nI 9)).toNatClampNeg (nI 1)) (v6 + (nI 7)).toNatClampNeg) (-1)).2) else (w, F, nI 0))
def s_X6_turned_65  (w : Nat → Int32) (F : Nat → Int32) (v2 : Int32) (v4 : Int32) (v5 : Int32) (v6 : Int32) : Prop := ((w (nI 12).toNatClampNeg) ≤ (nI 30) → (vp_in (v6 + (nI 9)) 527 ∧ (vp_in (v6 + (nI 1)) 527 ∧ (vp_in (v6 + (nI 2)) 527 ∧ (vp_in (v6 + (nI 3)) 527 ∧ (vp_in (v6 + (nI 6)) 527 ∧ (vp_in (v6 + (nI 7)) 527 ∧ (s_X6_given (upd w (v6 + (nI 9)).toNatClampNeg (nI 1)) (nI 0) ((upd w (v6 + (nI 9)).toNatClampNeg (nI 1)) (v6 + (nI 1)).toNatClampNeg) ((upd w (v6 + (nI 9)).toNatClampNeg (nI 1)) (v6 + (nI 2)).toNatClampNeg) ((upd w (v6 + (nI 9)).toNatClampNeg (nI 1)) (v6 + (nI 3)).toNatClampNeg) (((upd w (v6 + (nI 9)).toNatClampNeg (nI 1)) (nI 0).toNatClampNeg) + ((upd w (v6 + (nI 9)).toNatClampNeg (nI 1)) (nI 4).toNatClampNeg)) ((upd w (v6 + (nI 9)).toNatClampNeg (nI 1)) (v6 + (nI 6)).toNatClampNeg) ((upd w (v6 + (nI 9)).toNatClampNeg (nI 1)) (v6 + (nI 7)).toNatClampNeg) (-1) ∧ s_X6_turned_130 ((f_X6_given (upd w (v6 + (nI 9)).toNatClampNeg (nI 1)) (nI 0) ((upd w (v6 + (nI 9)).toNatClampNeg (nI 1)) (v6 + (nI 1)).toNatClampNeg) ((upd w (v6 + (nI 9)).toNatClampNeg (nI 1)) (v6 + (nI 2)).toNatClampNeg) ((upd w (v6 + (nI 9)).toNatClampNeg (nI 1)) (v6 + (nI 3)).toNatClampNeg) (((upd w (v6 + (nI 9)).toNatClampNeg (nI 1)) (nI 0).toNatClampNeg) + ((upd w (v6 + (nI 9)).toNatClampNeg (nI 1)) (nI 4).toNatClampNeg)) ((upd w (v6 + (nI 9)).toNatClampNeg (nI 1)) (v6 + (nI 6)).toNatClampNeg) ((upd w (v6 + (nI 9)).toNatClampNeg (nI 1)) (v6 + (nI 7)).toNatClampNeg) (-1)).1) F v2 v4 v5 v6 ((f_X6_given (upd w (v6 + (nI 9)).toNatClampNeg (nI 1)) (nI 0) ((upd w (v6 + (nI 9)).toNatClampNeg (nI 1)) (v6 + (nI 1)).toNatClampNeg) ((upd w (v6 + (nI 9)).toNatClampNeg (nI 1)) (v6 + (nI 2)).toNatClampNeg) ((upd w (v6 + (nI 9)).toNatClampNeg (nI 1)) (v6 + (nI 3)).toNatClampNeg) (((upd w (v6 + (nI 9)).toNatClampNeg (nI 1)) (nI 0).toNatClampNeg) + ((upd w (v6 + (nI 9)).toNatClampNeg (nI 1)) (nI 4).toNatClampNeg)) ((upd w (v6 + (nI 9)).toNatClampNeg (nI 1)) (v6 + (nI 6)).toNatClampNeg) ((upd w (v6 + (nI 9)).toNatClampNeg (nI 1)) (v6 + (nI 7)).toNatClampNeg) (-1)).2)))))))))
set_option maxRecDepth 100000 in
set_option maxHeartbeats 4000000 in
theorem e_X6_turned_65 {G : ng_GG} {hm : (Nat → Int32) → (Nat → Int32) → (Nat → Int32) → ng_AM} {a : Nat} (V : ng_ML hm a) {w : Nat → Int32} {F : Nat → Int32} {lg : Nat → Int32}  {v2 : Int32} {v4 : Int32} {v5 : Int32} {v6 : Int32} (h : s_X6_turned_65  w F v2 v4 v5 v6)  : ng_Ev G md_X6_turned 65 [some (.ref 28), some (.ref a), some (.int v2), none, some (.int v4), some (.int v5), some (.int v6), none, none] [] (hm w F lg) (K_X6_turned hm lg (f_X6_turned_65  w F v2 v4 v5 v6)) := by
  unfold s_X6_turned_65 at h
  unfold f_X6_turned_65
  refine ev_aload_n dX6_turned_65 rfl rfl rfl ?_
  refine ev_bipush (v := nI 12) dX6_turned_66 (by decide) ?_
  refine ev_iald (ML_ga V) (vp_in_nI (by decide) (by decide)) dX6_turned_68 ?_
  refine ev_bipush (v := nI 30) dX6_turned_69 (by decide) ?_
  refine bk_icmp_le (tgt := 76) dX6_turned_71 (by decide) (fun c71 => ?_) (fun c71 => ?_)
  · replace h := h c71
    refine ev_aload_n dX6_turned_76 rfl rfl rfl ?_
    refine ev_iload dX6_turned_77 rfl ?_
    refine ev_bipush (v := nI 9) dX6_turned_79 (by decide) ?_
    refine ev_iadd dX6_turned_81 ?_
    refine ev_iconst (v := nI 1) dX6_turned_82 (by decide) ?_
    have hi83 := h.1
    replace h := h.2
    refine ev_iast (ML_ga V) hi83 (ML_sa V) dX6_turned_83 ?_
    refine ev_aload_n dX6_turned_84 rfl rfl rfl ?_
    refine ev_aload_n dX6_turned_85 rfl rfl rfl ?_
    refine ev_iconst (v := nI 0) dX6_turned_86 (by decide) ?_
    refine ev_aload_n dX6_turned_87 rfl rfl rfl ?_
    refine ev_iload dX6_turned_88 rfl ?_
    refine ev_iconst (v := nI 1) dX6_turned_90 (by decide) ?_
    refine ev_iadd dX6_turned_91 ?_
    have hi92 := h.1
    replace h := h.2
    refine ev_iald (ML_ga V) hi92 dX6_turned_92 ?_
    refine ev_aload_n dX6_turned_93 rfl rfl rfl ?_
    refine ev_iload dX6_turned_94 rfl ?_
    refine ev_iconst (v := nI 2) dX6_turned_96 (by decide) ?_
    refine ev_iadd dX6_turned_97 ?_
    have hi98 := h.1
    replace h := h.2
    refine ev_iald (ML_ga V) hi98 dX6_turned_98 ?_
    refine ev_aload_n dX6_turned_99 rfl rfl rfl ?_
    refine ev_iload dX6_turned_100 rfl ?_
    refine ev_iconst (v := nI 3) dX6_turned_102 (by decide) ?_
    refine ev_iadd dX6_turned_103 ?_
    have hi104 := h.1
    replace h := h.2
    refine ev_iald (ML_ga V) hi104 dX6_turned_104 ?_
    refine ev_aload_n dX6_turned_105 rfl rfl rfl ?_
    refine ev_iconst (v := nI 0) dX6_turned_106 (by decide) ?_
    refine ev_iald (ML_ga V) (vp_in_nI (by decide) (by decide)) dX6_turned_107 ?_
    refine ev_aload_n dX6_turned_108 rfl rfl rfl ?_
    refine ev_iconst (v := nI 4) dX6_turned_109 (by decide) ?_
    refine ev_iald (ML_ga V) (vp_in_nI (by decide) (by decide)) dX6_turned_110 ?_
    refine ev_iadd dX6_turned_111 ?_
    refine ev_aload_n dX6_turned_112 rfl rfl rfl ?_
    refine ev_iload dX6_turned_113 rfl ?_
    refine ev_bipush (v := nI 6) dX6_turned_115 (by decide) ?_
    refine ev_iadd dX6_turned_117 ?_
    have hi118 := h.1
    replace h := h.2
    refine ev_iald (ML_ga V) hi118 dX6_turned_118 ?_
    refine ev_aload_n dX6_turned_119 rfl rfl rfl ?_
    refine ev_iload dX6_turned_120 rfl ?_
    refine ev_bipush (v := nI 7) dX6_turned_122 (by decide) ?_
    refine ev_iadd dX6_turned_124 ?_
    have hi125 := h.1
    replace h := h.2
    refine ev_iald (ML_ga V) hi125 dX6_turned_125 ?_
    refine ev_iconst (v := (-1)) dX6_turned_126 (by decide) ?_
    have hs127 := h.1
    replace h := h.2
    refine bk_callV (As := [.ref a, .int (nI 0), .int ((upd w (v6 + (nI 9)).toNatClampNeg (nI 1)) (v6 + (nI 1)).toNatClampNeg), .int ((upd w (v6 + (nI 9)).toNatClampNeg (nI 1)) (v6 + (nI 2)).toNatClampNeg), .int ((upd w (v6 + (nI 9)).toNatClampNeg (nI 1)) (v6 + (nI 3)).toNatClampNeg), .int (((upd w (v6 + (nI 9)).toNatClampNeg (nI 1)) (nI 0).toNatClampNeg) + ((upd w (v6 + (nI 9)).toNatClampNeg (nI 1)) (nI 4).toNatClampNeg)), .int ((upd w (v6 + (nI 9)).toNatClampNeg (nI 1)) (v6 + (nI 6)).toNatClampNeg), .int ((upd w (v6 + (nI 9)).toNatClampNeg (nI 1)) (v6 + (nI 7)).toNatClampNeg), .int (-1)]) (st := []) (st2 := [.int ((f_X6_given (upd w (v6 + (nI 9)).toNatClampNeg (nI 1)) (nI 0) ((upd w (v6 + (nI 9)).toNatClampNeg (nI 1)) (v6 + (nI 1)).toNatClampNeg) ((upd w (v6 + (nI 9)).toNatClampNeg (nI 1)) (v6 + (nI 2)).toNatClampNeg) ((upd w (v6 + (nI 9)).toNatClampNeg (nI 1)) (v6 + (nI 3)).toNatClampNeg) (((upd w (v6 + (nI 9)).toNatClampNeg (nI 1)) (nI 0).toNatClampNeg) + ((upd w (v6 + (nI 9)).toNatClampNeg (nI 1)) (nI 4).toNatClampNeg)) ((upd w (v6 + (nI 9)).toNatClampNeg (nI 1)) (v6 + (nI 6)).toNatClampNeg) ((upd w (v6 + (nI 9)).toNatClampNeg (nI 1)) (v6 + (nI 7)).toNatClampNeg) (-1)).2)]) (M2 := hm ((f_X6_given (upd w (v6 + (nI 9)).toNatClampNeg (nI 1)) (nI 0) ((upd w (v6 + (nI 9)).toNatClampNeg (nI 1)) (v6 + (nI 1)).toNatClampNeg) ((upd w (v6 + (nI 9)).toNatClampNeg (nI 1)) (v6 + (nI 2)).toNatClampNeg) ((upd w (v6 + (nI 9)).toNatClampNeg (nI 1)) (v6 + (nI 3)).toNatClampNeg) (((upd w (v6 + (nI 9)).toNatClampNeg (nI 1)) (nI 0).toNatClampNeg) + ((upd w (v6 + (nI 9)).toNatClampNeg (nI 1)) (nI 4).toNatClampNeg)) ((upd w (v6 + (nI 9)).toNatClampNeg (nI 1)) (v6 + (nI 6)).toNatClampNeg) ((upd w (v6 + (nI 9)).toNatClampNeg (nI 1)) (v6 + (nI 7)).toNatClampNeg) (-1)).1) F lg) ok_X6_given lk_RX6_110 (ng_rok.of rfl rfl) (ML_g28 V) rfl rfl rfl rfl rfl rfl dX6_turned_127 (m_X6_given V hs127) rfl rfl ?_
    exact ev_sub (e_X6_turned_130 V h) (sub_s (sub_s (sub_s (sub_n (sub_s (sub_s (sub_s (sub_n (sub_n sub_e)))))))))
  · refine ev_iconst (v := nI 0) dX6_turned_74 (by decide) ?_
    exact ev_iret rfl rfl dX6_turned_75
def f_X6_turned  (w : Nat → Int32) (F : Nat → Int32) (v2 : Int32) (v3 : Int32) (v4 : Int32) (v5 : Int32) : (Nat → Int32) × (Nat → Int32) × Int32 := (if (f_X6_isGood w v3) = 0 then (w, F, nI 0) else (if (w ((f_X6_house (w ((f_X6_note v3) + (nI 2)).toNatClampNeg)) + (nI 3)).toNatClampNeg) = 0 then (w, F, nI 0) else (if (w ((f_X6_note v3) + (nI 9)).toNatClampNeg) = (nI 1) then (if (f_X6_isOn w (nI 5)) = 0 then f_X6_turned_65 w F v2 v4 v5 (f_X6_note v3) else ((f_X6_ends w F (w ((f_X6_note v3) + (nI 6)).toNatClampNeg)).1, (f_X6_ends w F (w ((f_X6_note v3) + (nI 6)).toNatClampNeg)).2, nI 1)) else f_X6_turned_65 w F v2 v4 v5 (f_X6_note v3))))
def s_X6_turned  (w : Nat → Int32) (F : Nat → Int32) (v2 : Int32) (v3 : Int32) (v4 : Int32) (v5 : Int32) : Prop := (s_X6_isGood w v3 ∧ (¬ (f_X6_isGood w v3) = 0 → (vp_in ((f_X6_note v3) + (nI 2)) 527 ∧ (vp_in ((f_X6_house (w ((f_X6_note v3) + (nI 2)).toNatClampNeg)) + (nI 3)) 527 ∧ (¬ (w ((f_X6_house (w ((f_X6_note v3) + (nI 2)).toNatClampNeg)) + (nI 3)).toNatClampNeg) = 0 → (vp_in ((f_X6_note v3) + (nI 9)) 527 ∧ (((w ((f_X6_note v3) + (nI 9)).toNatClampNeg) = (nI 1) → (((f_X6_isOn w (nI 5)) = 0 → s_X6_turned_65 w F v2 v4 v5 (f_X6_note v3)) ∧ (¬ (f_X6_isOn w (nI 5)) = 0 → (vp_in ((f_X6_note v3) + (nI 6)) 527 ∧ s_X6_ends w F (w ((f_X6_note v3) + (nI 6)).toNatClampNeg))))) ∧ (¬ (w ((f_X6_note v3) + (nI 9)).toNatClampNeg) = (nI 1) → s_X6_turned_65 w F v2 v4 v5 (f_X6_note v3)))))))))
set_option maxRecDepth 100000 in
set_option maxHeartbeats 4000000 in
theorem e_X6_turned {G : ng_GG} {hm : (Nat → Int32) → (Nat → Int32) → (Nat → Int32) → ng_AM} {a : Nat} (V : ng_ML hm a) {w : Nat → Int32} {F : Nat → Int32} {lg : Nat → Int32}  {v2 : Int32} {v3 : Int32} {v4 : Int32} {v5 : Int32} (h : s_X6_turned  w F v2 v3 v4 v5)  : ng_Ev G md_X6_turned 0 [some (.ref 28), some (.ref a), some (.int v2), some (.int v3), some (.int v4), some (.int v5), none, none, none] [] (hm w F lg) (K_X6_turned hm lg (f_X6_turned  w F v2 v3 v4 v5)) := by
  unfold s_X6_turned at h
  unfold f_X6_turned
  refine ev_iload_n dX6_turned_0 rfl rfl ?_
  refine bk_callS (As := [.int v3]) (st := []) (st2 := [.int (f_X6_note v3)]) (M2 := hm w F lg) ok_X6_note lk_RX6_71 (ng_rok.of rfl rfl) rfl rfl rfl rfl dX6_turned_1 (m_X6_note trivial) rfl rfl ?_
  refine ev_istore (L' := [some (.ref 28), some (.ref a), some (.int v2), some (.int v3), some (.int v4), some (.int v5), some (.int (f_X6_note v3)), none, none]) dX6_turned_4 (ng_lt rfl) rfl ?_
  refine ev_aload_n dX6_turned_6 rfl rfl rfl ?_
  refine ev_iload_n dX6_turned_7 rfl rfl ?_
  have hs8 := h.1
  replace h := h.2
  refine bk_callS (As := [.ref a, .int v3]) (st := []) (st2 := [.int (f_X6_isGood w v3)]) (M2 := hm w F lg) ok_X6_isGood lk_RX6_114 (ng_rok.of rfl rfl) rfl rfl rfl rfl dX6_turned_8 (m_X6_isGood (ML_R V) hs8) rfl rfl ?_
  refine bk_if_eq (tgt := 30) dX6_turned_11 (by decide) (fun c11 => ?_) (fun c11 => ?_)
  · refine ev_iconst (v := nI 0) dX6_turned_30 (by decide) ?_
    exact ev_iret rfl rfl dX6_turned_31
  · replace h := h c11
    refine ev_aload_n dX6_turned_14 rfl rfl rfl ?_
    refine ev_aload_n dX6_turned_15 rfl rfl rfl ?_
    refine ev_iload dX6_turned_16 rfl ?_
    refine ev_iconst (v := nI 2) dX6_turned_18 (by decide) ?_
    refine ev_iadd dX6_turned_19 ?_
    have hi20 := h.1
    replace h := h.2
    refine ev_iald (ML_ga V) hi20 dX6_turned_20 ?_
    refine bk_callS (As := [.int (w ((f_X6_note v3) + (nI 2)).toNatClampNeg)]) (st := [.ref a]) (st2 := [.int (f_X6_house (w ((f_X6_note v3) + (nI 2)).toNatClampNeg)), .ref a]) (M2 := hm w F lg) ok_X6_house lk_RX6_75 (ng_rok.of rfl rfl) rfl rfl rfl rfl dX6_turned_21 (m_X6_house trivial) rfl rfl ?_
    refine ev_iconst (v := nI 3) dX6_turned_24 (by decide) ?_
    refine ev_iadd dX6_turned_25 ?_
    have hi26 := h.1
    replace h := h.2
    refine ev_iald (ML_ga V) hi26 dX6_turned_26 ?_
    refine bk_if_ne (tgt := 32) dX6_turned_27 (by decide) (fun c27 => ?_) (fun c27 => ?_)
    · replace h := h c27
      refine ev_aload_n dX6_turned_32 rfl rfl rfl ?_
      refine ev_iload dX6_turned_33 rfl ?_
      refine ev_bipush (v := nI 9) dX6_turned_35 (by decide) ?_
      refine ev_iadd dX6_turned_37 ?_
      have hi38 := h.1
      replace h := h.2
      refine ev_iald (ML_ga V) hi38 dX6_turned_38 ?_
      refine ev_iconst (v := nI 1) dX6_turned_39 (by decide) ?_
      refine bk_icmp_ne (tgt := 65) dX6_turned_40 (by decide) (fun c40 => ?_) (fun c40 => ?_)
      · replace h := h.2 c40
        exact ev_sub (e_X6_turned_65 V h) (sub_s (sub_s (sub_s (sub_n (sub_s (sub_s (sub_s (sub_n (sub_n sub_e)))))))))
      · replace h := h.1 c40
        refine ev_aload_n dX6_turned_43 rfl rfl rfl ?_
        refine ev_iconst (v := nI 5) dX6_turned_44 (by decide) ?_
        refine bk_callS (As := [.ref a, .int (nI 5)]) (st := []) (st2 := [.int (f_X6_isOn w (nI 5))]) (M2 := hm w F lg) ok_X6_isOn lk_RX6_118 (ng_rok.of rfl rfl) rfl rfl rfl rfl dX6_turned_45 (m_X6_isOn (ML_R V) trivial) rfl rfl ?_
        refine bk_if_eq (tgt := 65) dX6_turned_48 (by decide) (fun c48 => ?_) (fun c48 => ?_)
        · replace h := h.1 c48
          exact ev_sub (e_X6_turned_65 V h) (sub_s (sub_s (sub_s (sub_n (sub_s (sub_s (sub_s (sub_n (sub_n sub_e)))))))))
        · replace h := h.2 c48
          refine ev_aload_n dX6_turned_51 rfl rfl rfl ?_
          refine ev_aload_n dX6_turned_52 rfl rfl rfl ?_
          refine ev_aload_n dX6_turned_53 rfl rfl rfl ?_
          refine ev_iload dX6_turned_54 rfl ?_
          refine ev_bipush (v := nI 6) dX6_turned_56 (by decide) ?_
          refine ev_iadd dX6_turned_58 ?_
          have hi59 := h.1
          replace h := h.2
          refine ev_iald (ML_ga V) hi59 dX6_turned_59 ?_
          have hs60 := h
          refine bk_callV (As := [.ref a, .int (w ((f_X6_note v3) + (nI 6)).toNatClampNeg)]) (st := []) (st2 := []) (M2 := hm ((f_X6_ends w F (w ((f_X6_note v3) + (nI 6)).toNatClampNeg)).1) ((f_X6_ends w F (w ((f_X6_note v3) + (nI 6)).toNatClampNeg)).2) lg) ok_X6_ends lk_RX6_88 (ng_rok.of rfl rfl) (ML_g28 V) rfl rfl rfl rfl rfl rfl dX6_turned_60 (m_X6_ends V hs60) rfl rfl ?_
          refine ev_iconst (v := nI 1) dX6_turned_63 (by decide) ?_
          exact ev_iret rfl rfl dX6_turned_64
    · refine ev_iconst (v := nI 0) dX6_turned_30 (by decide) ?_
      exact ev_iret rfl rfl dX6_turned_31
theorem m_X6_turned {G : ng_GG} {hm : (Nat → Int32) → (Nat → Int32) → (Nat → Int32) → ng_AM} {a : Nat} (V : ng_ML hm a) {w : Nat → Int32} {F : Nat → Int32} {lg : Nat → Int32} {v2 : Int32} {v3 : Int32} {v4 : Int32} {v5 : Int32} (h : s_X6_turned w F v2 v3 v4 v5)  : ng_Ev G md_X6_turned 0 (ng_en 9 [.ref 28, .ref a, .int v2, .int v3, .int v4, .int v5]) [] (hm w F lg) (K_X6_turned hm lg (f_X6_turned w F v2 v3 v4 v5)) := e_X6_turned V h 
def K_X6_handed (hm : (Nat → Int32) → (Nat → Int32) → (Nat → Int32) → ng_AM) (lg : Nat → Int32) (r : (Nat → Int32) × (Nat → Int32) × Int32) : ng_RR := (some (.int (r.2.2)), hm (r.1) (r.2.1) lg)
def f_X6_handed_137  (w : Nat → Int32) (F : Nat → Int32) (v2 : Int32) (t0 : Int32) : (Nat → Int32) × (Nat → Int32) × Int32 := ((f_X6_posts w F (nI 9) v2 (nI 1) t0 (-1) (nI 0)).1, (f_X6_posts w F (nI 9) v2 (nI 1) t0 (-1) (nI 0)).2, nI 1)
def s_X6_handed_137  (w : Nat → Int32) (F : Nat → Int32) (v2 : Int32) (t0 : Int32) : Prop := s_X6_posts w F (nI 9) v2 (nI 1) t0 (-1) (nI 0)
set_option maxRecDepth 100000 in
set_option maxHeartbeats 4000000 in
theorem e_X6_handed_137 {G : ng_GG} {hm : (Nat → Int32) → (Nat → Int32) → (Nat → Int32) → ng_AM} {a : Nat} (V : ng_ML hm a) {w : Nat → Int32} {F : Nat → Int32} {lg : Nat → Int32}  {v2 : Int32} {t0 : Int32} (h : s_X6_handed_137  w F v2 t0)  : ng_Ev G md_X6_handed 137 [some (.ref 28), some (.ref a), some (.int v2), none, none, none, none, none, none, none] [.int t0] (hm w F lg) (K_X6_handed hm lg (f_X6_handed_137  w F v2 t0)) := by
  unfold s_X6_handed_137 at h
  unfold f_X6_handed_137
  refine ev_istore (L' := [some (.ref 28), some (.ref a), some (.int v2), none, none, none, none, none, none, some (.int t0)]) dX6_handed_137 (ng_lt rfl) rfl ?_
  refine ev_aload_n dX6_handed_139 rfl rfl rfl ?_
  refine ev_aload_n dX6_handed_140 rfl rfl rfl ?_
  refine ev_bipush (v := nI 9) dX6_handed_141 (by decide) ?_
  refine ev_iload_n dX6_handed_143 rfl rfl ?_
  refine ev_iconst (v := nI 1) dX6_handed_144 (by decide) ?_
  refine ev_iload dX6_handed_145 rfl ?_
  refine ev_iconst (v := (-1)) dX6_handed_147 (by decide) ?_
  refine ev_iconst (v := nI 0) dX6_handed_148 (by decide) ?_
  have hs149 := h
  refine bk_callV (As := [.ref a, .int (nI 9), .int v2, .int (nI 1), .int t0, .int (-1), .int (nI 0)]) (st := []) (st2 := []) (M2 := hm ((f_X6_posts w F (nI 9) v2 (nI 1) t0 (-1) (nI 0)).1) ((f_X6_posts w F (nI 9) v2 (nI 1) t0 (-1) (nI 0)).2) lg) ok_X6_posts lk_RX6_106 (ng_rok.of rfl rfl) (ML_g28 V) rfl rfl rfl rfl rfl rfl dX6_handed_149 (m_X6_posts V hs149) rfl rfl ?_
  refine ev_iconst (v := nI 1) dX6_handed_152 (by decide) ?_
  exact ev_iret rfl rfl dX6_handed_153
def f_X6_handed_104  (w : Nat → Int32) (F : Nat → Int32) (v2 : Int32) (v3 : Int32) (v4 : Int32) (v6 : Int32) (v7 : Int32) (v8 : Int32) : (Nat → Int32) × (Nat → Int32) × Int32 := f_X6_handed_137 ((f_X6_given w (nI 2) (w (v6 + (nI 1)).toNatClampNeg) v4 v7 v8 (w (v6 + (nI 6)).toNatClampNeg) (w (v6 + (nI 7)).toNatClampNeg) v3).1) F v2 ((f_X6_given w (nI 2) (w (v6 + (nI 1)).toNatClampNeg) v4 v7 v8 (w (v6 + (nI 6)).toNatClampNeg) (w (v6 + (nI 7)).toNatClampNeg) v3).2)
def s_X6_handed_104  (w : Nat → Int32) (F : Nat → Int32) (v2 : Int32) (v3 : Int32) (v4 : Int32) (v6 : Int32) (v7 : Int32) (v8 : Int32) : Prop := (vp_in (v6 + (nI 1)) 527 ∧ (vp_in (v6 + (nI 6)) 527 ∧ (vp_in (v6 + (nI 7)) 527 ∧ (s_X6_given w (nI 2) (w (v6 + (nI 1)).toNatClampNeg) v4 v7 v8 (w (v6 + (nI 6)).toNatClampNeg) (w (v6 + (nI 7)).toNatClampNeg) v3 ∧ s_X6_handed_137 ((f_X6_given w (nI 2) (w (v6 + (nI 1)).toNatClampNeg) v4 v7 v8 (w (v6 + (nI 6)).toNatClampNeg) (w (v6 + (nI 7)).toNatClampNeg) v3).1) F v2 ((f_X6_given w (nI 2) (w (v6 + (nI 1)).toNatClampNeg) v4 v7 v8 (w (v6 + (nI 6)).toNatClampNeg) (w (v6 + (nI 7)).toNatClampNeg) v3).2)))))
set_option maxRecDepth 100000 in
set_option maxHeartbeats 4000000 in
theorem e_X6_handed_104 {G : ng_GG} {hm : (Nat → Int32) → (Nat → Int32) → (Nat → Int32) → ng_AM} {a : Nat} (V : ng_ML hm a) {w : Nat → Int32} {F : Nat → Int32} {lg : Nat → Int32}  {v2 : Int32} {v3 : Int32} {v4 : Int32} {v6 : Int32} {v7 : Int32} {v8 : Int32} (h : s_X6_handed_104  w F v2 v3 v4 v6 v7 v8)  : ng_Ev G md_X6_handed 104 [some (.ref 28), some (.ref a), some (.int v2), some (.int v3), some (.int v4), none, some (.int v6), some (.int v7), some (.int v8), none] [] (hm w F lg) (K_X6_handed hm lg (f_X6_handed_104  w F v2 v3 v4 v6 v7 v8)) := by
  unfold s_X6_handed_104 at h
  unfold f_X6_handed_104
  refine ev_aload_n dX6_handed_104 rfl rfl rfl ?_
  refine ev_aload_n dX6_handed_105 rfl rfl rfl ?_
  refine ev_iconst (v := nI 2) dX6_handed_106 (by decide) ?_
  refine ev_aload_n dX6_handed_107 rfl rfl rfl ?_
  refine ev_iload dX6_handed_108 rfl ?_
  refine ev_iconst (v := nI 1) dX6_handed_110 (by decide) ?_
  refine ev_iadd dX6_handed_111 ?_
  have hi112 := h.1
  replace h := h.2
  refine ev_iald (ML_ga V) hi112 dX6_handed_112 ?_
  refine ev_iload dX6_handed_113 rfl ?_
  refine ev_iload dX6_handed_115 rfl ?_
  refine ev_iload dX6_handed_117 rfl ?_
  refine ev_aload_n dX6_handed_119 rfl rfl rfl ?_
  refine ev_iload dX6_handed_120 rfl ?_
  refine ev_bipush (v := nI 6) dX6_handed_122 (by decide) ?_
  refine ev_iadd dX6_handed_124 ?_
  have hi125 := h.1
  replace h := h.2
  refine ev_iald (ML_ga V) hi125 dX6_handed_125 ?_
  refine ev_aload_n dX6_handed_126 rfl rfl rfl ?_
  refine ev_iload dX6_handed_127 rfl ?_
  refine ev_bipush (v := nI 7) dX6_handed_129 (by decide) ?_
  refine ev_iadd dX6_handed_131 ?_
  have hi132 := h.1
  replace h := h.2
  refine ev_iald (ML_ga V) hi132 dX6_handed_132 ?_
  refine ev_iload_n dX6_handed_133 rfl rfl ?_
  have hs134 := h.1
  replace h := h.2
  refine bk_callV (As := [.ref a, .int (nI 2), .int (w (v6 + (nI 1)).toNatClampNeg), .int v4, .int v7, .int v8, .int (w (v6 + (nI 6)).toNatClampNeg), .int (w (v6 + (nI 7)).toNatClampNeg), .int v3]) (st := []) (st2 := [.int ((f_X6_given w (nI 2) (w (v6 + (nI 1)).toNatClampNeg) v4 v7 v8 (w (v6 + (nI 6)).toNatClampNeg) (w (v6 + (nI 7)).toNatClampNeg) v3).2)]) (M2 := hm ((f_X6_given w (nI 2) (w (v6 + (nI 1)).toNatClampNeg) v4 v7 v8 (w (v6 + (nI 6)).toNatClampNeg) (w (v6 + (nI 7)).toNatClampNeg) v3).1) F lg) ok_X6_given lk_RX6_110 (ng_rok.of rfl rfl) (ML_g28 V) rfl rfl rfl rfl rfl rfl dX6_handed_134 (m_X6_given V hs134) rfl rfl ?_
  exact ev_sub (e_X6_handed_137 V h) (sub_s (sub_s (sub_s (sub_n (sub_n (sub_n (sub_n (sub_n (sub_n (sub_n sub_e))))))))))
def f_X6_handed_29  (w : Nat → Int32) (F : Nat → Int32) (v2 : Int32) (v3 : Int32) (v4 : Int32) (v6 : Int32) (t0 : Int32) : (Nat → Int32) × (Nat → Int32) × Int32 := (if (f_X6_isGood w v3) = 0 then (w, F, nI 0) else (if (w ((f_X6_house v4) + (nI 3)).toNatClampNeg) = 0 then (w, F, nI 0) else (if t0 = 0 then (w, F, nI 0) else (if (w (nI 12).toNatClampNeg) = (nI 32) then (w, F, nI 0) else (if (f_X6_isOn w (nI 6)) = 0 then f_X6_handed_104 w F v2 v3 v4 v6 t0 ((w (nI 0).toNatClampNeg) + (w (nI 4).toNatClampNeg)) else (if ((w (nI 0).toNatClampNeg) + (w (nI 4).toNatClampNeg)) ≤ (w (v6 + (nI 5)).toNatClampNeg) then f_X6_handed_104 w F v2 v3 v4 v6 t0 ((w (nI 0).toNatClampNeg) + (w (nI 4).toNatClampNeg)) else f_X6_handed_104 w F v2 v3 v4 v6 t0 (w (v6 + (nI 5)).toNatClampNeg)))))))
def s_X6_handed_29  (w : Nat → Int32) (F : Nat → Int32) (v2 : Int32) (v3 : Int32) (v4 : Int32) (v6 : Int32) (t0 : Int32) : Prop := (s_X6_isGood w v3 ∧ (¬ (f_X6_isGood w v3) = 0 → (vp_in ((f_X6_house v4) + (nI 3)) 527 ∧ (¬ (w ((f_X6_house v4) + (nI 3)).toNatClampNeg) = 0 → (¬ t0 = 0 → (¬ (w (nI 12).toNatClampNeg) = (nI 32) → (((f_X6_isOn w (nI 6)) = 0 → s_X6_handed_104 w F v2 v3 v4 v6 t0 ((w (nI 0).toNatClampNeg) + (w (nI 4).toNatClampNeg))) ∧ (¬ (f_X6_isOn w (nI 6)) = 0 → (vp_in (v6 + (nI 5)) 527 ∧ ((((w (nI 0).toNatClampNeg) + (w (nI 4).toNatClampNeg)) ≤ (w (v6 + (nI 5)).toNatClampNeg) → s_X6_handed_104 w F v2 v3 v4 v6 t0 ((w (nI 0).toNatClampNeg) + (w (nI 4).toNatClampNeg))) ∧ (¬ ((w (nI 0).toNatClampNeg) + (w (nI 4).toNatClampNeg)) ≤ (w (v6 + (nI 5)).toNatClampNeg) → (vp_in (v6 + (nI 5)) 527 ∧ s_X6_handed_104 w F v2 v3 v4 v6 t0 (w (v6 + (nI 5)).toNatClampNeg)))))))))))))
set_option maxRecDepth 100000 in
set_option maxHeartbeats 4000000 in
theorem e_X6_handed_29 {G : ng_GG} {hm : (Nat → Int32) → (Nat → Int32) → (Nat → Int32) → ng_AM} {a : Nat} (V : ng_ML hm a) {w : Nat → Int32} {F : Nat → Int32} {lg : Nat → Int32}  {v2 : Int32} {v3 : Int32} {v4 : Int32} {v6 : Int32} {t0 : Int32} (h : s_X6_handed_29  w F v2 v3 v4 v6 t0)  : ng_Ev G md_X6_handed 29 [some (.ref 28), some (.ref a), some (.int v2), some (.int v3), some (.int v4), none, some (.int v6), none, none, none] [.int t0] (hm w F lg) (K_X6_handed hm lg (f_X6_handed_29  w F v2 v3 v4 v6 t0)) := by
  unfold s_X6_handed_29 at h
  unfold f_X6_handed_29
  refine ev_istore (L' := [some (.ref 28), some (.ref a), some (.int v2), some (.int v3), some (.int v4), none, some (.int v6), some (.int t0), none, none]) dX6_handed_29 (ng_lt rfl) rfl ?_
  refine ev_aload_n dX6_handed_31 rfl rfl rfl ?_
  refine ev_iload_n dX6_handed_32 rfl rfl ?_
  have hs33 := h.1
  replace h := h.2
  refine bk_callS (As := [.ref a, .int v3]) (st := []) (st2 := [.int (f_X6_isGood w v3)]) (M2 := hm w F lg) ok_X6_isGood lk_RX6_114 (ng_rok.of rfl rfl) rfl rfl rfl rfl dX6_handed_33 (m_X6_isGood (ML_R V) hs33) rfl rfl ?_
  refine bk_if_eq (tgt := 65) dX6_handed_36 (by decide) (fun c36 => ?_) (fun c36 => ?_)
  · refine ev_iconst (v := nI 0) dX6_handed_65 (by decide) ?_
    exact ev_iret rfl rfl dX6_handed_66
  · replace h := h c36
    refine ev_aload_n dX6_handed_39 rfl rfl rfl ?_
    refine ev_iload dX6_handed_40 rfl ?_
    refine bk_callS (As := [.int v4]) (st := [.ref a]) (st2 := [.int (f_X6_house v4), .ref a]) (M2 := hm w F lg) ok_X6_house lk_RX6_75 (ng_rok.of rfl rfl) rfl rfl rfl rfl dX6_handed_42 (m_X6_house trivial) rfl rfl ?_
    refine ev_iconst (v := nI 3) dX6_handed_45 (by decide) ?_
    refine ev_iadd dX6_handed_46 ?_
    have hi47 := h.1
    replace h := h.2
    refine ev_iald (ML_ga V) hi47 dX6_handed_47 ?_
    refine bk_if_eq (tgt := 65) dX6_handed_48 (by decide) (fun c48 => ?_) (fun c48 => ?_)
    · refine ev_iconst (v := nI 0) dX6_handed_65 (by decide) ?_
      exact ev_iret rfl rfl dX6_handed_66
    · replace h := h c48
      refine ev_iload dX6_handed_51 rfl ?_
      refine bk_if_eq (tgt := 65) dX6_handed_53 (by decide) (fun c53 => ?_) (fun c53 => ?_)
      · refine ev_iconst (v := nI 0) dX6_handed_65 (by decide) ?_
        exact ev_iret rfl rfl dX6_handed_66
      · replace h := h c53
        refine ev_aload_n dX6_handed_56 rfl rfl rfl ?_
        refine ev_bipush (v := nI 12) dX6_handed_57 (by decide) ?_
        refine ev_iald (ML_ga V) (vp_in_nI (by decide) (by decide)) dX6_handed_59 ?_
        refine ev_bipush (v := nI 32) dX6_handed_60 (by decide) ?_
        refine bk_icmp_ne (tgt := 67) dX6_handed_62 (by decide) (fun c62 => ?_) (fun c62 => ?_)
        · replace h := h c62
          refine ev_aload_n dX6_handed_67 rfl rfl rfl ?_
          refine ev_iconst (v := nI 0) dX6_handed_68 (by decide) ?_
          refine ev_iald (ML_ga V) (vp_in_nI (by decide) (by decide)) dX6_handed_69 ?_
          refine ev_aload_n dX6_handed_70 rfl rfl rfl ?_
          refine ev_iconst (v := nI 4) dX6_handed_71 (by decide) ?_
          refine ev_iald (ML_ga V) (vp_in_nI (by decide) (by decide)) dX6_handed_72 ?_
          refine ev_iadd dX6_handed_73 ?_
          refine ev_istore (L' := [some (.ref 28), some (.ref a), some (.int v2), some (.int v3), some (.int v4), none, some (.int v6), some (.int t0), some (.int ((w (nI 0).toNatClampNeg) + (w (nI 4).toNatClampNeg))), none]) dX6_handed_74 (ng_lt rfl) rfl ?_
          refine ev_aload_n dX6_handed_76 rfl rfl rfl ?_
          refine ev_bipush (v := nI 6) dX6_handed_77 (by decide) ?_
          refine bk_callS (As := [.ref a, .int (nI 6)]) (st := []) (st2 := [.int (f_X6_isOn w (nI 6))]) (M2 := hm w F lg) ok_X6_isOn lk_RX6_118 (ng_rok.of rfl rfl) rfl rfl rfl rfl dX6_handed_79 (m_X6_isOn (ML_R V) trivial) rfl rfl ?_
          refine bk_if_eq (tgt := 104) dX6_handed_82 (by decide) (fun c82 => ?_) (fun c82 => ?_)
          · replace h := h.1 c82
            exact ev_sub (e_X6_handed_104 V h) (sub_s (sub_s (sub_s (sub_s (sub_s (sub_n (sub_s (sub_s (sub_s (sub_n sub_e))))))))))
          · replace h := h.2 c82
            refine ev_aload_n dX6_handed_85 rfl rfl rfl ?_
            refine ev_iload dX6_handed_86 rfl ?_
            refine ev_iconst (v := nI 5) dX6_handed_88 (by decide) ?_
            refine ev_iadd dX6_handed_89 ?_
            have hi90 := h.1
            replace h := h.2
            refine ev_iald (ML_ga V) hi90 dX6_handed_90 ?_
            refine ev_iload dX6_handed_91 rfl ?_
            refine bk_icmp_ge (tgt := 104) dX6_handed_93 (by decide) (fun c93 => ?_) (fun c93 => ?_)
            · replace h := h.1 c93
              exact ev_sub (e_X6_handed_104 V h) (sub_s (sub_s (sub_s (sub_s (sub_s (sub_n (sub_s (sub_s (sub_s (sub_n sub_e))))))))))
            · replace h := h.2 c93
              refine ev_aload_n dX6_handed_96 rfl rfl rfl ?_
              refine ev_iload dX6_handed_97 rfl ?_
              refine ev_iconst (v := nI 5) dX6_handed_99 (by decide) ?_
              refine ev_iadd dX6_handed_100 ?_
              have hi101 := h.1
              replace h := h.2
              refine ev_iald (ML_ga V) hi101 dX6_handed_101 ?_
              refine ev_istore (L' := [some (.ref 28), some (.ref a), some (.int v2), some (.int v3), some (.int v4), none, some (.int v6), some (.int t0), some (.int (w (v6 + (nI 5)).toNatClampNeg)), none]) dX6_handed_102 (ng_lt rfl) rfl ?_
              exact ev_sub (e_X6_handed_104 V h) (sub_s (sub_s (sub_s (sub_s (sub_s (sub_n (sub_s (sub_s (sub_s (sub_n sub_e))))))))))
        · refine ev_iconst (v := nI 0) dX6_handed_65 (by decide) ?_
          exact ev_iret rfl rfl dX6_handed_66
def f_X6_handed  (w : Nat → Int32) (F : Nat → Int32) (v2 : Int32) (v3 : Int32) (v4 : Int32) (v5 : Int32) : (Nat → Int32) × (Nat → Int32) × Int32 := (if (f_X6_isOn w (nI 6)) = 0 then f_X6_handed_29 w F v2 v3 v4 (f_X6_note v3) v5 else f_X6_handed_29 w F v2 v3 v4 (f_X6_note v3) (v5 &&& (w ((f_X6_note v3) + (nI 3)).toNatClampNeg)))
def s_X6_handed  (w : Nat → Int32) (F : Nat → Int32) (v2 : Int32) (v3 : Int32) (v4 : Int32) (v5 : Int32) : Prop := (((f_X6_isOn w (nI 6)) = 0 → s_X6_handed_29 w F v2 v3 v4 (f_X6_note v3) v5) ∧ (¬ (f_X6_isOn w (nI 6)) = 0 → (vp_in ((f_X6_note v3) + (nI 3)) 527 ∧ s_X6_handed_29 w F v2 v3 v4 (f_X6_note v3) (v5 &&& (w ((f_X6_note v3) + (nI 3)).toNatClampNeg)))))
set_option maxRecDepth 100000 in
set_option maxHeartbeats 4000000 in
theorem e_X6_handed {G : ng_GG} {hm : (Nat → Int32) → (Nat → Int32) → (Nat → Int32) → ng_AM} {a : Nat} (V : ng_ML hm a) {w : Nat → Int32} {F : Nat → Int32} {lg : Nat → Int32}  {v2 : Int32} {v3 : Int32} {v4 : Int32} {v5 : Int32} (h : s_X6_handed  w F v2 v3 v4 v5)  : ng_Ev G md_X6_handed 0 [some (.ref 28), some (.ref a), some (.int v2), some (.int v3), some (.int v4), some (.int v5), none, none, none, none] [] (hm w F lg) (K_X6_handed hm lg (f_X6_handed  w F v2 v3 v4 v5)) := by
  unfold s_X6_handed at h
  unfold f_X6_handed
  refine ev_iload_n dX6_handed_0 rfl rfl ?_
  refine bk_callS (As := [.int v3]) (st := []) (st2 := [.int (f_X6_note v3)]) (M2 := hm w F lg) ok_X6_note lk_RX6_71 (ng_rok.of rfl rfl) rfl rfl rfl rfl dX6_handed_1 (m_X6_note trivial) rfl rfl ?_
  refine ev_istore (L' := [some (.ref 28), some (.ref a), some (.int v2), some (.int v3), some (.int v4), some (.int v5), some (.int (f_X6_note v3)), none, none, none]) dX6_handed_4 (ng_lt rfl) rfl ?_
  refine ev_aload_n dX6_handed_6 rfl rfl rfl ?_
  refine ev_bipush (v := nI 6) dX6_handed_7 (by decide) ?_
  refine bk_callS (As := [.ref a, .int (nI 6)]) (st := []) (st2 := [.int (f_X6_isOn w (nI 6))]) (M2 := hm w F lg) ok_X6_isOn lk_RX6_118 (ng_rok.of rfl rfl) rfl rfl rfl rfl dX6_handed_9 (m_X6_isOn (ML_R V) trivial) rfl rfl ?_
  refine bk_if_eq (tgt := 27) dX6_handed_12 (by decide) (fun c12 => ?_) (fun c12 => ?_)
  · replace h := h.1 c12
    refine ev_iload dX6_handed_27 rfl ?_
    exact ev_sub (e_X6_handed_29 V h) (sub_s (sub_s (sub_s (sub_s (sub_s (sub_n (sub_s (sub_n (sub_n (sub_n sub_e))))))))))
  · replace h := h.2 c12
    refine ev_iload dX6_handed_15 rfl ?_
    refine ev_aload_n dX6_handed_17 rfl rfl rfl ?_
    refine ev_iload dX6_handed_18 rfl ?_
    refine ev_iconst (v := nI 3) dX6_handed_20 (by decide) ?_
    refine ev_iadd dX6_handed_21 ?_
    have hi22 := h.1
    replace h := h.2
    refine ev_iald (ML_ga V) hi22 dX6_handed_22 ?_
    refine ev_iand dX6_handed_23 ?_
    refine ev_goto (tgt := 29) dX6_handed_24 (by decide) ?_
    exact ev_sub (e_X6_handed_29 V h) (sub_s (sub_s (sub_s (sub_s (sub_s (sub_n (sub_s (sub_n (sub_n (sub_n sub_e))))))))))
theorem m_X6_handed {G : ng_GG} {hm : (Nat → Int32) → (Nat → Int32) → (Nat → Int32) → ng_AM} {a : Nat} (V : ng_ML hm a) {w : Nat → Int32} {F : Nat → Int32} {lg : Nat → Int32} {v2 : Int32} {v3 : Int32} {v4 : Int32} {v5 : Int32} (h : s_X6_handed w F v2 v3 v4 v5)  : ng_Ev G md_X6_handed 0 (ng_en 10 [.ref 28, .ref a, .int v2, .int v3, .int v4, .int v5]) [] (hm w F lg) (K_X6_handed hm lg (f_X6_handed w F v2 v3 v4 v5)) := e_X6_handed V h 
def K_X6_taken (hm : (Nat → Int32) → (Nat → Int32) → (Nat → Int32) → ng_AM) (F : Nat → Int32) (lg : Nat → Int32) (r : (Nat → Int32) × Int32) : ng_RR := (some (.int (r.2)), hm (r.1) F lg)
def f_X6_taken_54  (w : Nat → Int32) (v2 : Int32) (v4 : Int32) : (Nat → Int32) × Int32 := ((f_X6_gets w v2 v4), nI 1)
def s_X6_taken_54  (w : Nat → Int32) (v2 : Int32) (v4 : Int32) : Prop := s_X6_gets w v2 v4
set_option maxRecDepth 100000 in
set_option maxHeartbeats 4000000 in
theorem e_X6_taken_54 {G : ng_GG} {hm : (Nat → Int32) → (Nat → Int32) → (Nat → Int32) → ng_AM} {a : Nat} (V : ng_ML hm a) {w : Nat → Int32} {F : Nat → Int32} {lg : Nat → Int32}  {v2 : Int32} {v4 : Int32} (h : s_X6_taken_54  w v2 v4)  : ng_Ev G md_X6_taken 54 [none, some (.ref a), some (.int v2), none, some (.int v4), none, none] [] (hm w F lg) (K_X6_taken hm F lg (f_X6_taken_54  w v2 v4)) := by
  unfold s_X6_taken_54 at h
  unfold f_X6_taken_54
  refine ev_aload_n dX6_taken_54 rfl rfl rfl ?_
  refine ev_iload_n dX6_taken_55 rfl rfl ?_
  refine ev_iload dX6_taken_56 rfl ?_
  have hs58 := h
  refine bk_callS (As := [.ref a, .int v2, .int v4]) (st := []) (st2 := []) (M2 := hm (f_X6_gets w v2 v4) F lg) ok_X6_gets lk_RX6_102 (ng_rok.of rfl rfl) rfl rfl rfl rfl dX6_taken_58 (m_X6_gets V hs58) rfl rfl ?_
  refine ev_iconst (v := nI 1) dX6_taken_61 (by decide) ?_
  exact ev_iret rfl rfl dX6_taken_62
def f_X6_taken_48  (w : Nat → Int32) (v2 : Int32) (v3 : Int32) (v4 : Int32) : (Nat → Int32) × Int32 := f_X6_taken_54 (f_X6_gets w v2 v3) v2 v4
def s_X6_taken_48  (w : Nat → Int32) (v2 : Int32) (v3 : Int32) (v4 : Int32) : Prop := (s_X6_gets w v2 v3 ∧ s_X6_taken_54 (f_X6_gets w v2 v3) v2 v4)
set_option maxRecDepth 100000 in
set_option maxHeartbeats 4000000 in
theorem e_X6_taken_48 {G : ng_GG} {hm : (Nat → Int32) → (Nat → Int32) → (Nat → Int32) → ng_AM} {a : Nat} (V : ng_ML hm a) {w : Nat → Int32} {F : Nat → Int32} {lg : Nat → Int32}  {v2 : Int32} {v3 : Int32} {v4 : Int32} (h : s_X6_taken_48  w v2 v3 v4)  : ng_Ev G md_X6_taken 48 [none, some (.ref a), some (.int v2), some (.int v3), some (.int v4), none, none] [] (hm w F lg) (K_X6_taken hm F lg (f_X6_taken_48  w v2 v3 v4)) := by
  unfold s_X6_taken_48 at h
  unfold f_X6_taken_48
  refine ev_aload_n dX6_taken_48 rfl rfl rfl ?_
  refine ev_iload_n dX6_taken_49 rfl rfl ?_
  refine ev_iload_n dX6_taken_50 rfl rfl ?_
  have hs51 := h.1
  replace h := h.2
  refine bk_callS (As := [.ref a, .int v2, .int v3]) (st := []) (st2 := []) (M2 := hm (f_X6_gets w v2 v3) F lg) ok_X6_gets lk_RX6_102 (ng_rok.of rfl rfl) rfl rfl rfl rfl dX6_taken_51 (m_X6_gets V hs51) rfl rfl ?_
  exact ev_sub (e_X6_taken_54 V h) (sub_n (sub_s (sub_s (sub_n (sub_s (sub_n (sub_n sub_e)))))))
def f_X6_taken_41  (w : Nat → Int32) (v2 : Int32) (v3 : Int32) (v4 : Int32) (v6 : Int32) : (Nat → Int32) × Int32 := f_X6_taken_48 (upd w (v6 + (nI 1)).toNatClampNeg (nI 0)) v2 v3 v4
def s_X6_taken_41  (w : Nat → Int32) (v2 : Int32) (v3 : Int32) (v4 : Int32) (v6 : Int32) : Prop := (vp_in (v6 + (nI 1)) 527 ∧ s_X6_taken_48 (upd w (v6 + (nI 1)).toNatClampNeg (nI 0)) v2 v3 v4)
set_option maxRecDepth 100000 in
set_option maxHeartbeats 4000000 in
theorem e_X6_taken_41 {G : ng_GG} {hm : (Nat → Int32) → (Nat → Int32) → (Nat → Int32) → ng_AM} {a : Nat} (V : ng_ML hm a) {w : Nat → Int32} {F : Nat → Int32} {lg : Nat → Int32}  {v2 : Int32} {v3 : Int32} {v4 : Int32} {v6 : Int32} (h : s_X6_taken_41  w v2 v3 v4 v6)  : ng_Ev G md_X6_taken 41 [none, some (.ref a), some (.int v2), some (.int v3), some (.int v4), none, some (.int v6)] [] (hm w F lg) (K_X6_taken hm F lg (f_X6_taken_41  w v2 v3 v4 v6)) := by
  unfold s_X6_taken_41 at h
  unfold f_X6_taken_41
  refine ev_aload_n dX6_taken_41 rfl rfl rfl ?_
  refine ev_iload dX6_taken_42 rfl ?_
  refine ev_iconst (v := nI 1) dX6_taken_44 (by decide) ?_
  refine ev_iadd dX6_taken_45 ?_
  refine ev_iconst (v := nI 0) dX6_taken_46 (by decide) ?_
  have hi47 := h.1
  replace h := h.2
  refine ev_iast (ML_ga V) hi47 (ML_sa V) dX6_taken_47 ?_
  exact ev_sub (e_X6_taken_48 V h) (sub_n (sub_s (sub_s (sub_s (sub_s (sub_n (sub_n sub_e)))))))
def f_X6_taken  (w : Nat → Int32) (v2 : Int32) (v3 : Int32) (v4 : Int32) (v5 : Int32) : (Nat → Int32) × Int32 := (if (nI 5) ≤ v2 then f_X6_taken_48 w v2 v3 v4 else (if (f_X6_isOn w (nI 4)) = 0 then f_X6_taken_41 w v2 v3 v4 (f_X6_browser v2) else (if (w ((f_X6_browser v2) + (nI 1)).toNatClampNeg) = 0 then (w, nI 0) else (if (w ((f_X6_browser v2) + (nI 1)).toNatClampNeg) = v5 then f_X6_taken_41 w v2 v3 v4 (f_X6_browser v2) else (w, nI 0)))))
def s_X6_taken  (w : Nat → Int32) (v2 : Int32) (v3 : Int32) (v4 : Int32) (v5 : Int32) : Prop := (((nI 5) ≤ v2 → s_X6_taken_48 w v2 v3 v4) ∧ (¬ (nI 5) ≤ v2 → (((f_X6_isOn w (nI 4)) = 0 → s_X6_taken_41 w v2 v3 v4 (f_X6_browser v2)) ∧ (¬ (f_X6_isOn w (nI 4)) = 0 → (vp_in ((f_X6_browser v2) + (nI 1)) 527 ∧ (¬ (w ((f_X6_browser v2) + (nI 1)).toNatClampNeg) = 0 → (vp_in ((f_X6_browser v2) + (nI 1)) 527 ∧ ((w ((f_X6_browser v2) + (nI 1)).toNatClampNeg) = v5 → s_X6_taken_41 w v2 v3 v4 (f_X6_browser v2)))))))))
set_option maxRecDepth 100000 in
set_option maxHeartbeats 4000000 in
theorem e_X6_taken {G : ng_GG} {hm : (Nat → Int32) → (Nat → Int32) → (Nat → Int32) → ng_AM} {a : Nat} (V : ng_ML hm a) {w : Nat → Int32} {F : Nat → Int32} {lg : Nat → Int32}  {v2 : Int32} {v3 : Int32} {v4 : Int32} {v5 : Int32} (h : s_X6_taken  w v2 v3 v4 v5)  : ng_Ev G md_X6_taken 0 [some (.ref 28), some (.ref a), some (.int v2), some (.int v3), some (.int v4), some (.int v5), none] [] (hm w F lg) (K_X6_taken hm F lg (f_X6_taken  w v2 v3 v4 v5)) := by
  unfold s_X6_taken at h
  unfold f_X6_taken
  refine ev_iload_n dX6_taken_0 rfl rfl ?_
  refine ev_iconst (v := nI 5) dX6_taken_1 (by decide) ?_
  refine bk_icmp_ge (tgt := 48) dX6_taken_2 (by decide) (fun c2 => ?_) (fun c2 => ?_)
  · replace h := h.1 c2
    exact ev_sub (e_X6_taken_48 V h) (sub_n (sub_s (sub_s (sub_s (sub_s (sub_n (sub_n sub_e)))))))
  · replace h := h.2 c2
    refine ev_iload_n dX6_taken_5 rfl rfl ?_
    refine bk_callS (As := [.int v2]) (st := []) (st2 := [.int (f_X6_browser v2)]) (M2 := hm w F lg) ok_X6_browser lk_RX6_82 (ng_rok.of rfl rfl) rfl rfl rfl rfl dX6_taken_6 (m_X6_browser trivial) rfl rfl ?_
    refine ev_istore (L' := [some (.ref 28), some (.ref a), some (.int v2), some (.int v3), some (.int v4), some (.int v5), some (.int (f_X6_browser v2))]) dX6_taken_9 (ng_lt rfl) rfl ?_
    refine ev_aload_n dX6_taken_11 rfl rfl rfl ?_
    refine ev_iconst (v := nI 4) dX6_taken_12 (by decide) ?_
    refine bk_callS (As := [.ref a, .int (nI 4)]) (st := []) (st2 := [.int (f_X6_isOn w (nI 4))]) (M2 := hm w F lg) ok_X6_isOn lk_RX6_118 (ng_rok.of rfl rfl) rfl rfl rfl rfl dX6_taken_13 (m_X6_isOn (ML_R V) trivial) rfl rfl ?_
    refine bk_if_eq (tgt := 41) dX6_taken_16 (by decide) (fun c16 => ?_) (fun c16 => ?_)
    · replace h := h.1 c16
      exact ev_sub (e_X6_taken_41 V h) (sub_n (sub_s (sub_s (sub_s (sub_s (sub_n (sub_s sub_e)))))))
    · replace h := h.2 c16
      refine ev_aload_n dX6_taken_19 rfl rfl rfl ?_
      refine ev_iload dX6_taken_20 rfl ?_
      refine ev_iconst (v := nI 1) dX6_taken_22 (by decide) ?_
      refine ev_iadd dX6_taken_23 ?_
      have hi24 := h.1
      replace h := h.2
      refine ev_iald (ML_ga V) hi24 dX6_taken_24 ?_
      refine bk_if_eq (tgt := 39) dX6_taken_25 (by decide) (fun c25 => ?_) (fun c25 => ?_)
      · refine ev_iconst (v := nI 0) dX6_taken_39 (by decide) ?_
        exact ev_iret rfl rfl dX6_taken_40
      · replace h := h c25
        refine ev_aload_n dX6_taken_28 rfl rfl rfl ?_
        refine ev_iload dX6_taken_29 rfl ?_
        refine ev_iconst (v := nI 1) dX6_taken_31 (by decide) ?_
        refine ev_iadd dX6_taken_32 ?_
        have hi33 := h.1
        replace h := h.2
        refine ev_iald (ML_ga V) hi33 dX6_taken_33 ?_
        refine ev_iload dX6_taken_34 rfl ?_
        refine bk_icmp_eq (tgt := 41) dX6_taken_36 (by decide) (fun c36 => ?_) (fun c36 => ?_)
        · replace h := h c36
          exact ev_sub (e_X6_taken_41 V h) (sub_n (sub_s (sub_s (sub_s (sub_s (sub_n (sub_s sub_e)))))))
        · refine ev_iconst (v := nI 0) dX6_taken_39 (by decide) ?_
          exact ev_iret rfl rfl dX6_taken_40
theorem m_X6_taken {G : ng_GG} {hm : (Nat → Int32) → (Nat → Int32) → (Nat → Int32) → ng_AM} {a : Nat} (V : ng_ML hm a) {w : Nat → Int32} {F : Nat → Int32} {lg : Nat → Int32} {v2 : Int32} {v3 : Int32} {v4 : Int32} {v5 : Int32} (h : s_X6_taken w v2 v3 v4 v5)  : ng_Ev G md_X6_taken 0 (ng_en 7 [.ref 28, .ref a, .int v2, .int v3, .int v4, .int v5]) [] (hm w F lg) (K_X6_taken hm F lg (f_X6_taken w v2 v3 v4 v5)) := e_X6_taken V h 
def K_X6_shown (hm : (Nat → Int32) → (Nat → Int32) → (Nat → Int32) → ng_AM)  (r : (Nat → Int32) × (Nat → Int32) × (Nat → Int32) × Int32) : ng_RR := (some (.int (r.2.2.2)), hm (r.1) (r.2.1) (r.2.2.1))
def f_X6_shown_114  (w : Nat → Int32) (F : Nat → Int32) (lg : Nat → Int32) (v2 : Int32) (v3 : Int32) (v4 : Int32) (v5 : Int32) (v6 : Int32) : (Nat → Int32) × (Nat → Int32) × (Nat → Int32) × Int32 := (w, (upd F 5 ((F 5) + (nI 1))), (upd (upd (upd (upd (upd (upd lg ((nI 6) * (F 5)).toNatClampNeg (w (nI 0).toNatClampNeg)) (((nI 6) * (F 5)) + (nI 1)).toNatClampNeg v3) (((nI 6) * (F 5)) + (nI 2)).toNatClampNeg v2) (((nI 6) * (F 5)) + (nI 3)).toNatClampNeg v4) (((nI 6) * (F 5)) + (nI 4)).toNatClampNeg v5) (((nI 6) * (F 5)) + (nI 5)).toNatClampNeg v6), v6)
def s_X6_shown_114  (w : Nat → Int32) (F : Nat → Int32) (lg : Nat → Int32) (v2 : Int32) (v3 : Int32) (v4 : Int32) (v5 : Int32) (v6 : Int32) : Prop := (vp_in ((nI 6) * (F 5)) 360 ∧ (vp_in (((nI 6) * (F 5)) + (nI 1)) 360 ∧ (vp_in (((nI 6) * (F 5)) + (nI 2)) 360 ∧ (vp_in (((nI 6) * (F 5)) + (nI 3)) 360 ∧ (vp_in (((nI 6) * (F 5)) + (nI 4)) 360 ∧ vp_in (((nI 6) * (F 5)) + (nI 5)) 360)))))
set_option maxRecDepth 100000 in
set_option maxHeartbeats 4000000 in
theorem e_X6_shown_114 {G : ng_GG} {hm : (Nat → Int32) → (Nat → Int32) → (Nat → Int32) → ng_AM} {a : Nat} (V : ng_ML hm a) {w : Nat → Int32} {F : Nat → Int32} {lg : Nat → Int32}  {v2 : Int32} {v3 : Int32} {v4 : Int32} {v5 : Int32} {v6 : Int32} (h : s_X6_shown_114  w F lg v2 v3 v4 v5 v6)  : ng_Ev G md_X6_shown 114 [some (.ref 28), some (.ref a), some (.int v2), some (.int v3), some (.int v4), some (.int v5), some (.int v6), none] [] (hm w F lg) (K_X6_shown hm  (f_X6_shown_114  w F lg v2 v3 v4 v5 v6)) := by
  unfold s_X6_shown_114 at h
  unfold f_X6_shown_114
  refine ev_bipush (v := nI 6) dX6_shown_114 (by decide) ?_
  refine ev_aload_n dX6_shown_116 rfl rfl rfl ?_
  refine ev_get 6 5 fl_RX6_128 (ML_g28 V) rfl dX6_shown_117 ?_
  refine ev_imul dX6_shown_120 ?_
  refine ev_istore (L' := [some (.ref 28), some (.ref a), some (.int v2), some (.int v3), some (.int v4), some (.int v5), some (.int v6), some (.int ((nI 6) * (F 5)))]) dX6_shown_121 (ng_lt rfl) rfl ?_
  refine ev_aload_n dX6_shown_123 rfl rfl rfl ?_
  refine ev_get 6 6 fl_RX6_13 (ML_g28 V) rfl dX6_shown_124 ?_
  refine ev_iload dX6_shown_127 rfl ?_
  refine ev_aload_n dX6_shown_129 rfl rfl rfl ?_
  refine ev_iconst (v := nI 0) dX6_shown_130 (by decide) ?_
  refine ev_iald (ML_ga V) (vp_in_nI (by decide) (by decide)) dX6_shown_131 ?_
  have hi132 := h.1
  replace h := h.2
  refine ev_iast (ML_g30 V) hi132 (ML_s30 V) dX6_shown_132 ?_
  refine ev_aload_n dX6_shown_133 rfl rfl rfl ?_
  refine ev_get 6 6 fl_RX6_13 (ML_g28 V) rfl dX6_shown_134 ?_
  refine ev_iload dX6_shown_137 rfl ?_
  refine ev_iconst (v := nI 1) dX6_shown_139 (by decide) ?_
  refine ev_iadd dX6_shown_140 ?_
  refine ev_iload_n dX6_shown_141 rfl rfl ?_
  have hi142 := h.1
  replace h := h.2
  refine ev_iast (ML_g30 V) hi142 (ML_s30 V) dX6_shown_142 ?_
  refine ev_aload_n dX6_shown_143 rfl rfl rfl ?_
  refine ev_get 6 6 fl_RX6_13 (ML_g28 V) rfl dX6_shown_144 ?_
  refine ev_iload dX6_shown_147 rfl ?_
  refine ev_iconst (v := nI 2) dX6_shown_149 (by decide) ?_
  refine ev_iadd dX6_shown_150 ?_
  refine ev_iload_n dX6_shown_151 rfl rfl ?_
  have hi152 := h.1
  replace h := h.2
  refine ev_iast (ML_g30 V) hi152 (ML_s30 V) dX6_shown_152 ?_
  refine ev_aload_n dX6_shown_153 rfl rfl rfl ?_
  refine ev_get 6 6 fl_RX6_13 (ML_g28 V) rfl dX6_shown_154 ?_
  refine ev_iload dX6_shown_157 rfl ?_
  refine ev_iconst (v := nI 3) dX6_shown_159 (by decide) ?_
  refine ev_iadd dX6_shown_160 ?_
  refine ev_iload dX6_shown_161 rfl ?_
  have hi163 := h.1
  replace h := h.2
  refine ev_iast (ML_g30 V) hi163 (ML_s30 V) dX6_shown_163 ?_
  refine ev_aload_n dX6_shown_164 rfl rfl rfl ?_
  refine ev_get 6 6 fl_RX6_13 (ML_g28 V) rfl dX6_shown_165 ?_
  refine ev_iload dX6_shown_168 rfl ?_
  refine ev_iconst (v := nI 4) dX6_shown_170 (by decide) ?_
  refine ev_iadd dX6_shown_171 ?_
  refine ev_iload dX6_shown_172 rfl ?_
  have hi174 := h.1
  replace h := h.2
  refine ev_iast (ML_g30 V) hi174 (ML_s30 V) dX6_shown_174 ?_
  refine ev_aload_n dX6_shown_175 rfl rfl rfl ?_
  refine ev_get 6 6 fl_RX6_13 (ML_g28 V) rfl dX6_shown_176 ?_
  refine ev_iload dX6_shown_179 rfl ?_
  refine ev_iconst (v := nI 5) dX6_shown_181 (by decide) ?_
  refine ev_iadd dX6_shown_182 ?_
  refine ev_iload dX6_shown_183 rfl ?_
  have hi185 := h
  refine ev_iast (ML_g30 V) hi185 (ML_s30 V) dX6_shown_185 ?_
  refine ev_aload_n dX6_shown_186 rfl rfl rfl ?_
  refine ev_dup dX6_shown_187 rfl ?_
  refine ev_get 6 5 fl_RX6_128 (ML_g28 V) rfl dX6_shown_188 ?_
  refine ev_iconst (v := nI 1) dX6_shown_191 (by decide) ?_
  refine ev_iadd dX6_shown_192 ?_
  refine ev_put 6 5 fs_RX6_128 (ML_g28 V) (ng_lt rfl) rfl (ML_s28 V (F' := (upd F 5 ((F 5) + (nI 1))))) (ng_fit_i _) dX6_shown_193 ?_
  refine ev_iload dX6_shown_196 rfl ?_
  exact ev_iret rfl rfl dX6_shown_198
def f_X6_shown_73  : Nat → (Nat → Int32) → (Nat → Int32) → (Nat → Int32) → Int32 → Int32 → Int32 → Int32 → Int32 → Int32 → ((Nat → Int32) × (Nat → Int32) × (Nat → Int32) × Int32)
  | 0, w, F, lg, _, _, _, _, _, _ => (w, F, lg, 0)
  | n + 1, w, F, lg, v2, v3, v4, v5, v6, v7 => (if (nI 354) ≤ v7 then f_X6_shown_114 w (upd F 5 ((F 5) - (nI 1))) lg v2 v3 v4 v5 v6 else f_X6_shown_73 n w F (upd lg v7.toNatClampNeg (lg (v7 + (nI 6)).toNatClampNeg)) v2 v3 v4 v5 v6 (v7 + nI 1))
def s_X6_shown_73  : Nat → (Nat → Int32) → (Nat → Int32) → (Nat → Int32) → Int32 → Int32 → Int32 → Int32 → Int32 → Int32 → Prop
  | 0, _, _, _, _, _, _, _, _, _ => False
  | n + 1, w, F, lg, v2, v3, v4, v5, v6, v7 => (((nI 354) ≤ v7 → s_X6_shown_114 w (upd F 5 ((F 5) - (nI 1))) lg v2 v3 v4 v5 v6) ∧ (¬ (nI 354) ≤ v7 → (vp_in (v7 + (nI 6)) 360 ∧ (vp_in v7 360 ∧ s_X6_shown_73 n w F (upd lg v7.toNatClampNeg (lg (v7 + (nI 6)).toNatClampNeg)) v2 v3 v4 v5 v6 (v7 + nI 1)))))
set_option maxRecDepth 100000 in
set_option maxHeartbeats 4000000 in
theorem e_X6_shown_73 {G : ng_GG} {hm : (Nat → Int32) → (Nat → Int32) → (Nat → Int32) → ng_AM} {a : Nat} (V : ng_ML hm a)  : ∀ (n : Nat) (w : Nat → Int32) (F : Nat → Int32) (lg : Nat → Int32) (v2 : Int32) (v3 : Int32) (v4 : Int32) (v5 : Int32) (v6 : Int32) (v7 : Int32), s_X6_shown_73  n w F lg v2 v3 v4 v5 v6 v7 → ng_Ev G md_X6_shown 73 [some (.ref 28), some (.ref a), some (.int v2), some (.int v3), some (.int v4), some (.int v5), some (.int v6), some (.int v7)] [] (hm w F lg) (K_X6_shown hm  (f_X6_shown_73  n w F lg v2 v3 v4 v5 v6 v7)) := by
  intro n
  induction n with
  | zero => intro w F lg v2 v3 v4 v5 v6 v7 h; exact False.elim h
  | succ n ih =>
    intro w F lg v2 v3 v4 v5 v6 v7 h 
    rw [s_X6_shown_73] at h
    rw [f_X6_shown_73]
    refine ev_iload dX6_shown_73 rfl ?_
    refine ev_sipush (v := nI 354) dX6_shown_75 (by decide) ?_
    refine bk_icmp_ge (tgt := 104) dX6_shown_78 (by decide) (fun c78 => ?_) (fun c78 => ?_)
    · replace h := h.1 c78
      refine ev_aload_n dX6_shown_104 rfl rfl rfl ?_
      refine ev_dup dX6_shown_105 rfl ?_
      refine ev_get 6 5 fl_RX6_128 (ML_g28 V) rfl dX6_shown_106 ?_
      refine ev_iconst (v := nI 1) dX6_shown_109 (by decide) ?_
      refine ev_isub dX6_shown_110 ?_
      refine ev_put 6 5 fs_RX6_128 (ML_g28 V) (ng_lt rfl) rfl (ML_s28 V (F' := (upd F 5 ((F 5) - (nI 1))))) (ng_fit_i _) dX6_shown_111 ?_
      exact ev_sub (e_X6_shown_114 V h) (sub_s (sub_s (sub_s (sub_s (sub_s (sub_s (sub_s (sub_n sub_e))))))))
    · replace h := h.2 c78
      refine ev_aload_n dX6_shown_81 rfl rfl rfl ?_
      refine ev_get 6 6 fl_RX6_13 (ML_g28 V) rfl dX6_shown_82 ?_
      refine ev_iload dX6_shown_85 rfl ?_
      refine ev_aload_n dX6_shown_87 rfl rfl rfl ?_
      refine ev_get 6 6 fl_RX6_13 (ML_g28 V) rfl dX6_shown_88 ?_
      refine ev_iload dX6_shown_91 rfl ?_
      refine ev_bipush (v := nI 6) dX6_shown_93 (by decide) ?_
      refine ev_iadd dX6_shown_95 ?_
      have hi96 := h.1
      replace h := h.2
      refine ev_iald (ML_g30 V) hi96 dX6_shown_96 ?_
      have hi97 := h.1
      replace h := h.2
      refine ev_iast (ML_g30 V) hi97 (ML_s30 V) dX6_shown_97 ?_
      refine ev_iinc (v := v7 + nI 1) (L' := [some (.ref 28), some (.ref a), some (.int v2), some (.int v3), some (.int v4), some (.int v5), some (.int v6), some (.int (v7 + nI 1))]) dX6_shown_98 rfl (by rfl) rfl ?_
      refine ev_goto (tgt := 73) dX6_shown_101 (by decide) ?_
      exact ev_sub (ih w F (upd lg v7.toNatClampNeg (lg (v7 + (nI 6)).toNatClampNeg)) v2 v3 v4 v5 v6 (v7 + nI 1) h) (sub_s (sub_s (sub_s (sub_s (sub_s (sub_s (sub_s (sub_s sub_e))))))))
def f_X6_shown_41  (w : Nat → Int32) (F : Nat → Int32) (lg : Nat → Int32) (v2 : Int32) (v3 : Int32) (v4 : Int32) (v5 : Int32) (v6 : Int32) : (Nat → Int32) × (Nat → Int32) × (Nat → Int32) × Int32 := (if (F 2) = 0 then (if ((upd F 4 ((F 4) + (nI 1))) 5) = (nI 60) then f_X6_shown_73 ng_F w (upd F 4 ((F 4) + (nI 1))) lg v2 v3 v4 v5 v6 (nI 0) else f_X6_shown_114 w (upd F 4 ((F 4) + (nI 1))) lg v2 v3 v4 v5 v6) else (w, F, lg, v6))
def s_X6_shown_41  (w : Nat → Int32) (F : Nat → Int32) (lg : Nat → Int32) (v2 : Int32) (v3 : Int32) (v4 : Int32) (v5 : Int32) (v6 : Int32) : Prop := ((F 2) = 0 → ((((upd F 4 ((F 4) + (nI 1))) 5) = (nI 60) → s_X6_shown_73 ng_F w (upd F 4 ((F 4) + (nI 1))) lg v2 v3 v4 v5 v6 (nI 0)) ∧ (¬ ((upd F 4 ((F 4) + (nI 1))) 5) = (nI 60) → s_X6_shown_114 w (upd F 4 ((F 4) + (nI 1))) lg v2 v3 v4 v5 v6)))
set_option maxRecDepth 100000 in
set_option maxHeartbeats 4000000 in
theorem e_X6_shown_41 {G : ng_GG} {hm : (Nat → Int32) → (Nat → Int32) → (Nat → Int32) → ng_AM} {a : Nat} (V : ng_ML hm a) {w : Nat → Int32} {F : Nat → Int32} {lg : Nat → Int32}  {v2 : Int32} {v3 : Int32} {v4 : Int32} {v5 : Int32} {v6 : Int32} (h : s_X6_shown_41  w F lg v2 v3 v4 v5 v6)  : ng_Ev G md_X6_shown 41 [some (.ref 28), some (.ref a), some (.int v2), some (.int v3), some (.int v4), some (.int v5), some (.int v6), none] [] (hm w F lg) (K_X6_shown hm  (f_X6_shown_41  w F lg v2 v3 v4 v5 v6)) := by
  unfold s_X6_shown_41 at h
  unfold f_X6_shown_41
  refine ev_aload_n dX6_shown_41 rfl rfl rfl ?_
  refine ev_get 6 2 fl_RX6_95 (ML_g28 V) rfl dX6_shown_42 ?_
  refine bk_if_eq (tgt := 51) dX6_shown_45 (by decide) (fun c45 => ?_) (fun c45 => ?_)
  · replace h := h c45
    refine ev_aload_n dX6_shown_51 rfl rfl rfl ?_
    refine ev_dup dX6_shown_52 rfl ?_
    refine ev_get 6 4 fl_RX6_125 (ML_g28 V) rfl dX6_shown_53 ?_
    refine ev_iconst (v := nI 1) dX6_shown_56 (by decide) ?_
    refine ev_iadd dX6_shown_57 ?_
    refine ev_put 6 4 fs_RX6_125 (ML_g28 V) (ng_lt rfl) rfl (ML_s28 V (F' := (upd F 4 ((F 4) + (nI 1))))) (ng_fit_i _) dX6_shown_58 ?_
    refine ev_aload_n dX6_shown_61 rfl rfl rfl ?_
    refine ev_get 6 5 fl_RX6_128 (ML_g28 V) rfl dX6_shown_62 ?_
    refine ev_bipush (v := nI 60) dX6_shown_65 (by decide) ?_
    refine bk_icmp_ne (tgt := 114) dX6_shown_67 (by decide) (fun c67 => ?_) (fun c67 => ?_)
    · replace h := h.2 c67
      exact ev_sub (e_X6_shown_114 V h) (sub_s (sub_s (sub_s (sub_s (sub_s (sub_s (sub_s (sub_n sub_e))))))))
    · replace h := h.1 c67
      refine ev_iconst (v := nI 0) dX6_shown_70 (by decide) ?_
      refine ev_istore (L' := [some (.ref 28), some (.ref a), some (.int v2), some (.int v3), some (.int v4), some (.int v5), some (.int v6), some (.int (nI 0))]) dX6_shown_71 (ng_lt rfl) rfl ?_
      exact ev_sub (e_X6_shown_73 V ng_F w (upd F 4 ((F 4) + (nI 1))) lg v2 v3 v4 v5 v6 (nI 0) h) (sub_s (sub_s (sub_s (sub_s (sub_s (sub_s (sub_s (sub_s sub_e))))))))
  · refine ev_iload dX6_shown_48 rfl ?_
    exact ev_iret rfl rfl dX6_shown_50
def f_X6_shown  (w : Nat → Int32) (F : Nat → Int32) (lg : Nat → Int32) (v2 : Int32) (v3 : Int32) (v4 : Int32) (v5 : Int32) : (Nat → Int32) × (Nat → Int32) × (Nat → Int32) × Int32 := (if (f_X6_verdict w v3 v4 v5) = 0 then f_X6_shown_41 (f_X6_gets (upd w ((f_X6_house v3) + (nI 6)).toNatClampNeg ((w ((f_X6_house v3) + (nI 6)).toNatClampNeg) ||| ((nI 1) <<< (v4 &&& 31)))) ((nI 5) + v3) v4) F lg v2 v3 v4 v5 (f_X6_verdict w v3 v4 v5) else f_X6_shown_41 w F lg v2 v3 v4 v5 (f_X6_verdict w v3 v4 v5))
def s_X6_shown  (w : Nat → Int32) (F : Nat → Int32) (lg : Nat → Int32) (v2 : Int32) (v3 : Int32) (v4 : Int32) (v5 : Int32) : Prop := (s_X6_verdict w v3 v4 v5 ∧ (((f_X6_verdict w v3 v4 v5) = 0 → (vp_in ((f_X6_house v3) + (nI 6)) 527 ∧ (vp_in ((f_X6_house v3) + (nI 6)) 527 ∧ (s_X6_gets (upd w ((f_X6_house v3) + (nI 6)).toNatClampNeg ((w ((f_X6_house v3) + (nI 6)).toNatClampNeg) ||| ((nI 1) <<< (v4 &&& 31)))) ((nI 5) + v3) v4 ∧ s_X6_shown_41 (f_X6_gets (upd w ((f_X6_house v3) + (nI 6)).toNatClampNeg ((w ((f_X6_house v3) + (nI 6)).toNatClampNeg) ||| ((nI 1) <<< (v4 &&& 31)))) ((nI 5) + v3) v4) F lg v2 v3 v4 v5 (f_X6_verdict w v3 v4 v5))))) ∧ (¬ (f_X6_verdict w v3 v4 v5) = 0 → s_X6_shown_41 w F lg v2 v3 v4 v5 (f_X6_verdict w v3 v4 v5))))
set_option maxRecDepth 100000 in
set_option maxHeartbeats 4000000 in
theorem e_X6_shown {G : ng_GG} {hm : (Nat → Int32) → (Nat → Int32) → (Nat → Int32) → ng_AM} {a : Nat} (V : ng_ML hm a) {w : Nat → Int32} {F : Nat → Int32} {lg : Nat → Int32}  {v2 : Int32} {v3 : Int32} {v4 : Int32} {v5 : Int32} (h : s_X6_shown  w F lg v2 v3 v4 v5)  : ng_Ev G md_X6_shown 0 [some (.ref 28), some (.ref a), some (.int v2), some (.int v3), some (.int v4), some (.int v5), none, none] [] (hm w F lg) (K_X6_shown hm  (f_X6_shown  w F lg v2 v3 v4 v5)) := by
  unfold s_X6_shown at h
  unfold f_X6_shown
  refine ev_aload_n dX6_shown_0 rfl rfl rfl ?_
  refine ev_iload_n dX6_shown_1 rfl rfl ?_
  refine ev_iload dX6_shown_2 rfl ?_
  refine ev_iload dX6_shown_4 rfl ?_
  have hs6 := h.1
  replace h := h.2
  refine bk_callS (As := [.ref a, .int v3, .int v4, .int v5]) (st := []) (st2 := [.int (f_X6_verdict w v3 v4 v5)]) (M2 := hm w F lg) ok_X6_verdict lk_RX6_121 (ng_rok.of rfl rfl) rfl rfl rfl rfl dX6_shown_6 (m_X6_verdict (ML_R V) hs6) rfl rfl ?_
  refine ev_istore (L' := [some (.ref 28), some (.ref a), some (.int v2), some (.int v3), some (.int v4), some (.int v5), some (.int (f_X6_verdict w v3 v4 v5)), none]) dX6_shown_9 (ng_lt rfl) rfl ?_
  refine ev_iload dX6_shown_11 rfl ?_
  refine bk_if_ne (tgt := 41) dX6_shown_13 (by decide) (fun c13 => ?_) (fun c13 => ?_)
  · replace h := h.2 c13
    exact ev_sub (e_X6_shown_41 V h) (sub_s (sub_s (sub_s (sub_s (sub_s (sub_s (sub_s (sub_n sub_e))))))))
  · replace h := h.1 c13
    refine ev_aload_n dX6_shown_16 rfl rfl rfl ?_
    refine ev_iload_n dX6_shown_17 rfl rfl ?_
    refine bk_callS (As := [.int v3]) (st := [.ref a]) (st2 := [.int (f_X6_house v3), .ref a]) (M2 := hm w F lg) ok_X6_house lk_RX6_75 (ng_rok.of rfl rfl) rfl rfl rfl rfl dX6_shown_18 (m_X6_house trivial) rfl rfl ?_
    refine ev_bipush (v := nI 6) dX6_shown_21 (by decide) ?_
    refine ev_iadd dX6_shown_23 ?_
    refine ev_dup2 dX6_shown_24 rfl rfl ?_
    have hi25 := h.1
    replace h := h.2
    refine ev_iald (ML_ga V) hi25 dX6_shown_25 ?_
    refine ev_iconst (v := nI 1) dX6_shown_26 (by decide) ?_
    refine ev_iload dX6_shown_27 rfl ?_
    refine ev_ishl dX6_shown_29 ?_
    refine ev_ior dX6_shown_30 ?_
    have hi31 := h.1
    replace h := h.2
    refine ev_iast (ML_ga V) hi31 (ML_sa V) dX6_shown_31 ?_
    refine ev_aload_n dX6_shown_32 rfl rfl rfl ?_
    refine ev_iconst (v := nI 5) dX6_shown_33 (by decide) ?_
    refine ev_iload_n dX6_shown_34 rfl rfl ?_
    refine ev_iadd dX6_shown_35 ?_
    refine ev_iload dX6_shown_36 rfl ?_
    have hs38 := h.1
    replace h := h.2
    refine bk_callS (As := [.ref a, .int ((nI 5) + v3), .int v4]) (st := []) (st2 := []) (M2 := hm (f_X6_gets (upd w ((f_X6_house v3) + (nI 6)).toNatClampNeg ((w ((f_X6_house v3) + (nI 6)).toNatClampNeg) ||| ((nI 1) <<< (v4 &&& 31)))) ((nI 5) + v3) v4) F lg) ok_X6_gets lk_RX6_102 (ng_rok.of rfl rfl) rfl rfl rfl rfl dX6_shown_38 (m_X6_gets V hs38) rfl rfl ?_
    exact ev_sub (e_X6_shown_41 V h) (sub_s (sub_s (sub_s (sub_s (sub_s (sub_s (sub_s (sub_n sub_e))))))))
theorem m_X6_shown {G : ng_GG} {hm : (Nat → Int32) → (Nat → Int32) → (Nat → Int32) → ng_AM} {a : Nat} (V : ng_ML hm a) {w : Nat → Int32} {F : Nat → Int32} {lg : Nat → Int32} {v2 : Int32} {v3 : Int32} {v4 : Int32} {v5 : Int32} (h : s_X6_shown w F lg v2 v3 v4 v5)  : ng_Ev G md_X6_shown 0 (ng_en 8 [.ref 28, .ref a, .int v2, .int v3, .int v4, .int v5]) [] (hm w F lg) (K_X6_shown hm  (f_X6_shown w F lg v2 v3 v4 v5)) := e_X6_shown V h 
def K_X6_comes (hm : (Nat → Int32) → (Nat → Int32) → (Nat → Int32) → ng_AM)  (r : (Nat → Int32) × (Nat → Int32) × (Nat → Int32) × Int32) : ng_RR := (some (.int (r.2.2.2)), hm (r.1) (r.2.1) (r.2.2.1))
def f_X6_comes_50  (w : Nat → Int32) (F : Nat → Int32) (lg : Nat → Int32) (v4 : Int32) (v5 : Int32) (v6 : Int32) (v7 : Int32) (v8 : Int32) (v9 : Int32) : (Nat → Int32) × (Nat → Int32) × (Nat → Int32) × Int32 := (if v6 = nI 0 then ((f_X6_asked w F v4 v7 v8 v9).1, (f_X6_asked w F v4 v7 v8 v9).2.1, lg, (f_X6_asked w F v4 v7 v8 v9).2.2) else (if v6 = nI 1 then ((f_X6_taken w v5 v7 v8 v9).1, F, lg, (f_X6_taken w v5 v7 v8 v9).2) else (if v6 = nI 2 then ((f_X6_shown w F lg v4 (v5 - (nI 5)) v7 v8).1, (f_X6_shown w F lg v4 (v5 - (nI 5)) v7 v8).2.1, (f_X6_shown w F lg v4 (v5 - (nI 5)) v7 v8).2.2.1, (f_X6_shown w F lg v4 (v5 - (nI 5)) v7 v8).2.2.2) else (if v6 = nI 3 then ((f_X6_turned w F v4 v7 v9 (nI 0)).1, (f_X6_turned w F v4 v7 v9 (nI 0)).2.1, lg, (f_X6_turned w F v4 v7 v9 (nI 0)).2.2) else (if v6 = nI 4 then ((f_X6_handed w F v4 v7 v8 v9).1, (f_X6_handed w F v4 v7 v8 v9).2.1, lg, (f_X6_handed w F v4 v7 v8 v9).2.2) else ((upd w ((f_X6_house (v5 - (nI 5))) + (nI 5)).toNatClampNeg ((w ((f_X6_house (v5 - (nI 5))) + (nI 5)).toNatClampNeg) ||| ((nI 1) <<< (v7 &&& 31)))), F, lg, nI 1))))))
def s_X6_comes_50  (w : Nat → Int32) (F : Nat → Int32) (lg : Nat → Int32) (v4 : Int32) (v5 : Int32) (v6 : Int32) (v7 : Int32) (v8 : Int32) (v9 : Int32) : Prop := ((v6 = nI 0 → s_X6_asked w F v4 v7 v8 v9) ∧ (¬ v6 = nI 0 → ((v6 = nI 1 → s_X6_taken w v5 v7 v8 v9) ∧ (¬ v6 = nI 1 → ((v6 = nI 2 → s_X6_shown w F lg v4 (v5 - (nI 5)) v7 v8) ∧ (¬ v6 = nI 2 → ((v6 = nI 3 → s_X6_turned w F v4 v7 v9 (nI 0)) ∧ (¬ v6 = nI 3 → ((v6 = nI 4 → s_X6_handed w F v4 v7 v8 v9) ∧ (¬ v6 = nI 4 → (vp_in ((f_X6_house (v5 - (nI 5))) + (nI 5)) 527 ∧ vp_in ((f_X6_house (v5 - (nI 5))) + (nI 5)) 527)))))))))))
set_option maxRecDepth 100000 in
set_option maxHeartbeats 4000000 in
theorem e_X6_comes_50 {G : ng_GG} {hm : (Nat → Int32) → (Nat → Int32) → (Nat → Int32) → ng_AM} {a : Nat} (V : ng_ML hm a) {w : Nat → Int32} {F : Nat → Int32} {lg : Nat → Int32}  {v4 : Int32} {v5 : Int32} {v6 : Int32} {v7 : Int32} {v8 : Int32} {v9 : Int32} (h : s_X6_comes_50  w F lg v4 v5 v6 v7 v8 v9)  : ng_Ev G md_X6_comes 50 [some (.ref 28), some (.ref a), none, none, some (.int v4), some (.int v5), some (.int v6), some (.int v7), some (.int v8), some (.int v9)] [] (hm w F lg) (K_X6_comes hm  (f_X6_comes_50  w F lg v4 v5 v6 v7 v8 v9)) := by
  unfold s_X6_comes_50 at h
  unfold f_X6_comes_50
  refine ev_iload dX6_comes_50 rfl ?_
  refine bk_cases (fun c52_0 => ?_) (fun c52_0 => ?_)
  · replace h := h.1 c52_0
    refine ev_tab_k (k := 0) (tgt := 88) dX6_comes_52 c52_0 (by decide) (by decide) (by decide) rfl (by decide) ?_
    refine ev_aload_n dX6_comes_88 rfl rfl rfl ?_
    refine ev_aload_n dX6_comes_89 rfl rfl rfl ?_
    refine ev_iload dX6_comes_90 rfl ?_
    refine ev_iload dX6_comes_92 rfl ?_
    refine ev_iload dX6_comes_94 rfl ?_
    refine ev_iload dX6_comes_96 rfl ?_
    have hs98 := h
    refine bk_callV (As := [.ref a, .int v4, .int v7, .int v8, .int v9]) (st := []) (st2 := [.int ((f_X6_asked w F v4 v7 v8 v9).2.2)]) (M2 := hm ((f_X6_asked w F v4 v7 v8 v9).1) ((f_X6_asked w F v4 v7 v8 v9).2.1) lg) ok_X6_asked lk_RX6_134 (ng_rok.of rfl rfl) (ML_g28 V) rfl rfl rfl rfl rfl rfl dX6_comes_98 (m_X6_asked V hs98) rfl rfl ?_
    exact ev_iret rfl rfl dX6_comes_101
  · replace h := h.2 c52_0
    refine bk_cases (fun c52_1 => ?_) (fun c52_1 => ?_)
    · replace h := h.1 c52_1
      refine ev_tab_k (k := 1) (tgt := 102) dX6_comes_52 c52_1 (by decide) (by decide) (by decide) rfl (by decide) ?_
      refine ev_aload_n dX6_comes_102 rfl rfl rfl ?_
      refine ev_aload_n dX6_comes_103 rfl rfl rfl ?_
      refine ev_iload dX6_comes_104 rfl ?_
      refine ev_iload dX6_comes_106 rfl ?_
      refine ev_iload dX6_comes_108 rfl ?_
      refine ev_iload dX6_comes_110 rfl ?_
      have hs112 := h
      refine bk_callV (As := [.ref a, .int v5, .int v7, .int v8, .int v9]) (st := []) (st2 := [.int ((f_X6_taken w v5 v7 v8 v9).2)]) (M2 := hm ((f_X6_taken w v5 v7 v8 v9).1) F lg) ok_X6_taken lk_RX6_138 (ng_rok.of rfl rfl) (ML_g28 V) rfl rfl rfl rfl rfl rfl dX6_comes_112 (m_X6_taken V hs112) rfl rfl ?_
      exact ev_iret rfl rfl dX6_comes_115
    · replace h := h.2 c52_1
      refine bk_cases (fun c52_2 => ?_) (fun c52_2 => ?_)
      · replace h := h.1 c52_2
        refine ev_tab_k (k := 2) (tgt := 116) dX6_comes_52 c52_2 (by decide) (by decide) (by decide) rfl (by decide) ?_
        refine ev_aload_n dX6_comes_116 rfl rfl rfl ?_
        refine ev_aload_n dX6_comes_117 rfl rfl rfl ?_
        refine ev_iload dX6_comes_118 rfl ?_
        refine ev_iload dX6_comes_120 rfl ?_
        refine ev_iconst (v := nI 5) dX6_comes_122 (by decide) ?_
        refine ev_isub dX6_comes_123 ?_
        refine ev_iload dX6_comes_124 rfl ?_
        refine ev_iload dX6_comes_126 rfl ?_
        have hs128 := h
        refine bk_callV (As := [.ref a, .int v4, .int (v5 - (nI 5)), .int v7, .int v8]) (st := []) (st2 := [.int ((f_X6_shown w F lg v4 (v5 - (nI 5)) v7 v8).2.2.2)]) (M2 := hm ((f_X6_shown w F lg v4 (v5 - (nI 5)) v7 v8).1) ((f_X6_shown w F lg v4 (v5 - (nI 5)) v7 v8).2.1) ((f_X6_shown w F lg v4 (v5 - (nI 5)) v7 v8).2.2.1)) ok_X6_shown lk_RX6_141 (ng_rok.of rfl rfl) (ML_g28 V) rfl rfl rfl rfl rfl rfl dX6_comes_128 (m_X6_shown V hs128) rfl rfl ?_
        exact ev_iret rfl rfl dX6_comes_131
      · replace h := h.2 c52_2
        refine bk_cases (fun c52_3 => ?_) (fun c52_3 => ?_)
        · replace h := h.1 c52_3
          refine ev_tab_k (k := 3) (tgt := 132) dX6_comes_52 c52_3 (by decide) (by decide) (by decide) rfl (by decide) ?_
          refine ev_aload_n dX6_comes_132 rfl rfl rfl ?_
          refine ev_aload_n dX6_comes_133 rfl rfl rfl ?_
          refine ev_iload dX6_comes_134 rfl ?_
          refine ev_iload dX6_comes_136 rfl ?_
          refine ev_iload dX6_comes_138 rfl ?_
          refine ev_iconst (v := nI 0) dX6_comes_140 (by decide) ?_
          have hs141 := h
          refine bk_callV (As := [.ref a, .int v4, .int v7, .int v9, .int (nI 0)]) (st := []) (st2 := [.int ((f_X6_turned w F v4 v7 v9 (nI 0)).2.2)]) (M2 := hm ((f_X6_turned w F v4 v7 v9 (nI 0)).1) ((f_X6_turned w F v4 v7 v9 (nI 0)).2.1) lg) ok_X6_turned lk_RX6_144 (ng_rok.of rfl rfl) (ML_g28 V) rfl rfl rfl rfl rfl rfl dX6_comes_141 (m_X6_turned V hs141) rfl rfl ?_
          exact ev_iret rfl rfl dX6_comes_144
        · replace h := h.2 c52_3
          refine bk_cases (fun c52_4 => ?_) (fun c52_4 => ?_)
          · replace h := h.1 c52_4
            refine ev_tab_k (k := 4) (tgt := 145) dX6_comes_52 c52_4 (by decide) (by decide) (by decide) rfl (by decide) ?_
            refine ev_aload_n dX6_comes_145 rfl rfl rfl ?_
            refine ev_aload_n dX6_comes_146 rfl rfl rfl ?_
            refine ev_iload dX6_comes_147 rfl ?_
            refine ev_iload dX6_comes_149 rfl ?_
            refine ev_iload dX6_comes_151 rfl ?_
            refine ev_iload dX6_comes_153 rfl ?_
            have hs155 := h
            refine bk_callV (As := [.ref a, .int v4, .int v7, .int v8, .int v9]) (st := []) (st2 := [.int ((f_X6_handed w F v4 v7 v8 v9).2.2)]) (M2 := hm ((f_X6_handed w F v4 v7 v8 v9).1) ((f_X6_handed w F v4 v7 v8 v9).2.1) lg) ok_X6_handed lk_RX6_148 (ng_rok.of rfl rfl) (ML_g28 V) rfl rfl rfl rfl rfl rfl dX6_comes_155 (m_X6_handed V hs155) rfl rfl ?_
            exact ev_iret rfl rfl dX6_comes_158
          · replace h := h.2 c52_4
            refine ev_tab_d (hi := 4) (tgt := 159) (m := 4) dX6_comes_52 rfl (fun q hq => match q, hq with | 0, _ => c52_0 | 1, _ => c52_1 | 2, _ => c52_2 | 3, _ => c52_3 | 4, _ => c52_4 | (q + 5), hq => absurd hq (by omega)) (by decide) ?_
            refine ev_aload_n dX6_comes_159 rfl rfl rfl ?_
            refine ev_iload dX6_comes_160 rfl ?_
            refine ev_iconst (v := nI 5) dX6_comes_162 (by decide) ?_
            refine ev_isub dX6_comes_163 ?_
            refine bk_callS (As := [.int (v5 - (nI 5))]) (st := [.ref a]) (st2 := [.int (f_X6_house (v5 - (nI 5))), .ref a]) (M2 := hm w F lg) ok_X6_house lk_RX6_75 (ng_rok.of rfl rfl) rfl rfl rfl rfl dX6_comes_164 (m_X6_house trivial) rfl rfl ?_
            refine ev_iconst (v := nI 5) dX6_comes_167 (by decide) ?_
            refine ev_iadd dX6_comes_168 ?_
            refine ev_dup2 dX6_comes_169 rfl rfl ?_
            have hi170 := h.1
            replace h := h.2
            refine ev_iald (ML_ga V) hi170 dX6_comes_170 ?_
            refine ev_iconst (v := nI 1) dX6_comes_171 (by decide) ?_
            refine ev_iload dX6_comes_172 rfl ?_
            refine ev_ishl dX6_comes_174 ?_
            refine ev_ior dX6_comes_175 ?_
            have hi176 := h
            refine ev_iast (ML_ga V) hi176 (ML_sa V) dX6_comes_176 ?_
            refine ev_iconst (v := nI 1) dX6_comes_177 (by decide) ?_
            exact ev_iret rfl rfl dX6_comes_178
def f_X6_comes  (w : Nat → Int32) (F : Nat → Int32) (lg : Nat → Int32) (v2 : Int32) : (Nat → Int32) × (Nat → Int32) × (Nat → Int32) × Int32 := f_X6_comes_50 (f_X6_removes w v2) F lg (w (f_X6_letter v2).toNatClampNeg) (w ((f_X6_letter v2) + (nI 1)).toNatClampNeg) (w ((f_X6_letter v2) + (nI 2)).toNatClampNeg) (w ((f_X6_letter v2) + (nI 3)).toNatClampNeg) (w ((f_X6_letter v2) + (nI 4)).toNatClampNeg) (w ((f_X6_letter v2) + (nI 5)).toNatClampNeg)
def s_X6_comes  (w : Nat → Int32) (F : Nat → Int32) (lg : Nat → Int32) (v2 : Int32) : Prop := (vp_in (f_X6_letter v2) 527 ∧ (vp_in ((f_X6_letter v2) + (nI 1)) 527 ∧ (vp_in ((f_X6_letter v2) + (nI 2)) 527 ∧ (vp_in ((f_X6_letter v2) + (nI 3)) 527 ∧ (vp_in ((f_X6_letter v2) + (nI 4)) 527 ∧ (vp_in ((f_X6_letter v2) + (nI 5)) 527 ∧ (s_X6_removes w v2 ∧ s_X6_comes_50 (f_X6_removes w v2) F lg (w (f_X6_letter v2).toNatClampNeg) (w ((f_X6_letter v2) + (nI 1)).toNatClampNeg) (w ((f_X6_letter v2) + (nI 2)).toNatClampNeg) (w ((f_X6_letter v2) + (nI 3)).toNatClampNeg) (w ((f_X6_letter v2) + (nI 4)).toNatClampNeg) (w ((f_X6_letter v2) + (nI 5)).toNatClampNeg))))))))
set_option maxRecDepth 100000 in
set_option maxHeartbeats 4000000 in
theorem e_X6_comes {G : ng_GG} {hm : (Nat → Int32) → (Nat → Int32) → (Nat → Int32) → ng_AM} {a : Nat} (V : ng_ML hm a) {w : Nat → Int32} {F : Nat → Int32} {lg : Nat → Int32}  {v2 : Int32} (h : s_X6_comes  w F lg v2)  : ng_Ev G md_X6_comes 0 [some (.ref 28), some (.ref a), some (.int v2), none, none, none, none, none, none, none] [] (hm w F lg) (K_X6_comes hm  (f_X6_comes  w F lg v2)) := by
  unfold s_X6_comes at h
  unfold f_X6_comes
  refine ev_iload_n dX6_comes_0 rfl rfl ?_
  refine bk_callS (As := [.int v2]) (st := []) (st2 := [.int (f_X6_letter v2)]) (M2 := hm w F lg) ok_X6_letter lk_RX6_99 (ng_rok.of rfl rfl) rfl rfl rfl rfl dX6_comes_1 (m_X6_letter trivial) rfl rfl ?_
  refine ev_istore_n (L' := [some (.ref 28), some (.ref a), some (.int v2), some (.int (f_X6_letter v2)), none, none, none, none, none, none]) dX6_comes_4 rfl (ng_lt rfl) rfl ?_
  refine ev_aload_n dX6_comes_5 rfl rfl rfl ?_
  refine ev_iload_n dX6_comes_6 rfl rfl ?_
  have hi7 := h.1
  replace h := h.2
  refine ev_iald (ML_ga V) hi7 dX6_comes_7 ?_
  refine ev_istore (L' := [some (.ref 28), some (.ref a), some (.int v2), some (.int (f_X6_letter v2)), some (.int (w (f_X6_letter v2).toNatClampNeg)), none, none, none, none, none]) dX6_comes_8 (ng_lt rfl) rfl ?_
  refine ev_aload_n dX6_comes_10 rfl rfl rfl ?_
  refine ev_iload_n dX6_comes_11 rfl rfl ?_
  refine ev_iconst (v := nI 1) dX6_comes_12 (by decide) ?_
  refine ev_iadd dX6_comes_13 ?_
  have hi14 := h.1
  replace h := h.2
  refine ev_iald (ML_ga V) hi14 dX6_comes_14 ?_
  refine ev_istore (L' := [some (.ref 28), some (.ref a), some (.int v2), some (.int (f_X6_letter v2)), some (.int (w (f_X6_letter v2).toNatClampNeg)), some (.int (w ((f_X6_letter v2) + (nI 1)).toNatClampNeg)), none, none, none, none]) dX6_comes_15 (ng_lt rfl) rfl ?_
  refine ev_aload_n dX6_comes_17 rfl rfl rfl ?_
  refine ev_iload_n dX6_comes_18 rfl rfl ?_
  refine ev_iconst (v := nI 2) dX6_comes_19 (by decide) ?_
  refine ev_iadd dX6_comes_20 ?_
  have hi21 := h.1
  replace h := h.2
  refine ev_iald (ML_ga V) hi21 dX6_comes_21 ?_
  refine ev_istore (L' := [some (.ref 28), some (.ref a), some (.int v2), some (.int (f_X6_letter v2)), some (.int (w (f_X6_letter v2).toNatClampNeg)), some (.int (w ((f_X6_letter v2) + (nI 1)).toNatClampNeg)), some (.int (w ((f_X6_letter v2) + (nI 2)).toNatClampNeg)), none, none, none]) dX6_comes_22 (ng_lt rfl) rfl ?_
  refine ev_aload_n dX6_comes_24 rfl rfl rfl ?_
  refine ev_iload_n dX6_comes_25 rfl rfl ?_
  refine ev_iconst (v := nI 3) dX6_comes_26 (by decide) ?_
  refine ev_iadd dX6_comes_27 ?_
  have hi28 := h.1
  replace h := h.2
  refine ev_iald (ML_ga V) hi28 dX6_comes_28 ?_
  refine ev_istore (L' := [some (.ref 28), some (.ref a), some (.int v2), some (.int (f_X6_letter v2)), some (.int (w (f_X6_letter v2).toNatClampNeg)), some (.int (w ((f_X6_letter v2) + (nI 1)).toNatClampNeg)), some (.int (w ((f_X6_letter v2) + (nI 2)).toNatClampNeg)), some (.int (w ((f_X6_letter v2) + (nI 3)).toNatClampNeg)), none, none]) dX6_comes_29 (ng_lt rfl) rfl ?_
  refine ev_aload_n dX6_comes_31 rfl rfl rfl ?_
  refine ev_iload_n dX6_comes_32 rfl rfl ?_
  refine ev_iconst (v := nI 4) dX6_comes_33 (by decide) ?_
  refine ev_iadd dX6_comes_34 ?_
  have hi35 := h.1
  replace h := h.2
  refine ev_iald (ML_ga V) hi35 dX6_comes_35 ?_
  refine ev_istore (L' := [some (.ref 28), some (.ref a), some (.int v2), some (.int (f_X6_letter v2)), some (.int (w (f_X6_letter v2).toNatClampNeg)), some (.int (w ((f_X6_letter v2) + (nI 1)).toNatClampNeg)), some (.int (w ((f_X6_letter v2) + (nI 2)).toNatClampNeg)), some (.int (w ((f_X6_letter v2) + (nI 3)).toNatClampNeg)), some (.int (w ((f_X6_letter v2) + (nI 4)).toNatClampNeg)), none]) dX6_comes_36 (ng_lt rfl) rfl ?_
  refine ev_aload_n dX6_comes_38 rfl rfl rfl ?_
  refine ev_iload_n dX6_comes_39 rfl rfl ?_
  refine ev_iconst (v := nI 5) dX6_comes_40 (by decide) ?_
  refine ev_iadd dX6_comes_41 ?_
  have hi42 := h.1
  replace h := h.2
  refine ev_iald (ML_ga V) hi42 dX6_comes_42 ?_
  refine ev_istore (L' := [some (.ref 28), some (.ref a), some (.int v2), some (.int (f_X6_letter v2)), some (.int (w (f_X6_letter v2).toNatClampNeg)), some (.int (w ((f_X6_letter v2) + (nI 1)).toNatClampNeg)), some (.int (w ((f_X6_letter v2) + (nI 2)).toNatClampNeg)), some (.int (w ((f_X6_letter v2) + (nI 3)).toNatClampNeg)), some (.int (w ((f_X6_letter v2) + (nI 4)).toNatClampNeg)), some (.int (w ((f_X6_letter v2) + (nI 5)).toNatClampNeg))]) dX6_comes_43 (ng_lt rfl) rfl ?_
  refine ev_aload_n dX6_comes_45 rfl rfl rfl ?_
  refine ev_iload_n dX6_comes_46 rfl rfl ?_
  have hs47 := h.1
  replace h := h.2
  refine bk_callS (As := [.ref a, .int v2]) (st := []) (st2 := []) (M2 := hm (f_X6_removes w v2) F lg) ok_X6_removes lk_RX6_131 (ng_rok.of rfl rfl) rfl rfl rfl rfl dX6_comes_47 (m_X6_removes V hs47) rfl rfl ?_
  exact ev_sub (e_X6_comes_50 V h) (sub_s (sub_s (sub_n (sub_n (sub_s (sub_s (sub_s (sub_s (sub_s (sub_s sub_e))))))))))
theorem m_X6_comes {G : ng_GG} {hm : (Nat → Int32) → (Nat → Int32) → (Nat → Int32) → ng_AM} {a : Nat} (V : ng_ML hm a) {w : Nat → Int32} {F : Nat → Int32} {lg : Nat → Int32} {v2 : Int32} (h : s_X6_comes w F lg v2)  : ng_Ev G md_X6_comes 0 (ng_en 10 [.ref 28, .ref a, .int v2]) [] (hm w F lg) (K_X6_comes hm  (f_X6_comes w F lg v2)) := e_X6_comes V h 
def K_X6_ticks (hm : (Nat → Int32) → (Nat → Int32) → (Nat → Int32) → ng_AM)  (r : (Nat → Int32) × (Nat → Int32) × (Nat → Int32)) : ng_RR := (none, hm (r.1) (r.2.1) (r.2.2))
def f_X6_ticks_57 (kk29 : (Nat → Int32) → (Nat → Int32) → (Nat → Int32) → Int32 → Int32 → ((Nat → Int32) × (Nat → Int32) × (Nat → Int32))) (w : Nat → Int32) (F : Nat → Int32) (lg : Nat → Int32) (v3 : Int32) (t0 : Int32) (t1 : Int32) : (Nat → Int32) × (Nat → Int32) × (Nat → Int32) := kk29 w F lg (t1 ||| t0) (v3 + nI 1)
def s_X6_ticks_57 (sk29 : (Nat → Int32) → (Nat → Int32) → (Nat → Int32) → Int32 → Int32 → Prop) (w : Nat → Int32) (F : Nat → Int32) (lg : Nat → Int32) (v3 : Int32) (t0 : Int32) (t1 : Int32) : Prop := sk29 w F lg (t1 ||| t0) (v3 + nI 1)
set_option maxRecDepth 100000 in
set_option maxHeartbeats 4000000 in
theorem e_X6_ticks_57 {G : ng_GG} {hm : (Nat → Int32) → (Nat → Int32) → (Nat → Int32) → ng_AM} {a : Nat} (V : ng_ML hm a) {w : Nat → Int32} {F : Nat → Int32} {lg : Nat → Int32} {kk29 : (Nat → Int32) → (Nat → Int32) → (Nat → Int32) → Int32 → Int32 → ((Nat → Int32) × (Nat → Int32) × (Nat → Int32))} {sk29 : (Nat → Int32) → (Nat → Int32) → (Nat → Int32) → Int32 → Int32 → Prop} (hk29 : ∀ (w : Nat → Int32) (F : Nat → Int32) (lg : Nat → Int32) (v2 : Int32) (v3 : Int32), sk29 w F lg v2 v3 → ng_Ev G md_X6_ticks 29 [some (.ref 28), some (.ref a), some (.int v2), some (.int v3)] [] (hm w F lg) (K_X6_ticks hm  (kk29 w F lg v2 v3))) {v3 : Int32} {t0 : Int32} {t1 : Int32} (h : s_X6_ticks_57 sk29 w F lg v3 t0 t1)  : ng_Ev G md_X6_ticks 57 [some (.ref 28), some (.ref a), none, some (.int v3)] [.int t0, .int t1] (hm w F lg) (K_X6_ticks hm  (f_X6_ticks_57 kk29 w F lg v3 t0 t1)) := by
  unfold s_X6_ticks_57 at h
  unfold f_X6_ticks_57
  refine ev_ior dX6_ticks_57 ?_
  refine ev_istore_n (L' := [some (.ref 28), some (.ref a), some (.int (t1 ||| t0)), some (.int v3)]) dX6_ticks_58 rfl (ng_lt rfl) rfl ?_
  refine ev_iinc (v := v3 + nI 1) (L' := [some (.ref 28), some (.ref a), some (.int (t1 ||| t0)), some (.int (v3 + nI 1))]) dX6_ticks_59 rfl (by rfl) rfl ?_
  refine ev_goto (tgt := 29) dX6_ticks_62 (by decide) ?_
  exact ev_sub (hk29 w F lg (t1 ||| t0) (v3 + nI 1) h) (sub_s (sub_s (sub_s (sub_s sub_e))))
def f_X6_ticks_112 (kk67 : (Nat → Int32) → (Nat → Int32) → (Nat → Int32) → Int32 → Int32 → ((Nat → Int32) × (Nat → Int32) × (Nat → Int32))) (w : Nat → Int32) (F : Nat → Int32) (lg : Nat → Int32) (v2 : Int32) (v3 : Int32) : (Nat → Int32) × (Nat → Int32) × (Nat → Int32) := kk67 w F lg v2 (v3 + nI 1)
def s_X6_ticks_112 (sk67 : (Nat → Int32) → (Nat → Int32) → (Nat → Int32) → Int32 → Int32 → Prop) (w : Nat → Int32) (F : Nat → Int32) (lg : Nat → Int32) (v2 : Int32) (v3 : Int32) : Prop := sk67 w F lg v2 (v3 + nI 1)
set_option maxRecDepth 100000 in
set_option maxHeartbeats 4000000 in
theorem e_X6_ticks_112 {G : ng_GG} {hm : (Nat → Int32) → (Nat → Int32) → (Nat → Int32) → ng_AM} {a : Nat} (V : ng_ML hm a) {w : Nat → Int32} {F : Nat → Int32} {lg : Nat → Int32} {kk67 : (Nat → Int32) → (Nat → Int32) → (Nat → Int32) → Int32 → Int32 → ((Nat → Int32) × (Nat → Int32) × (Nat → Int32))} {sk67 : (Nat → Int32) → (Nat → Int32) → (Nat → Int32) → Int32 → Int32 → Prop} (hk67 : ∀ (w : Nat → Int32) (F : Nat → Int32) (lg : Nat → Int32) (v2 : Int32) (v3 : Int32), sk67 w F lg v2 v3 → ng_Ev G md_X6_ticks 67 [some (.ref 28), some (.ref a), some (.int v2), some (.int v3)] [] (hm w F lg) (K_X6_ticks hm  (kk67 w F lg v2 v3))) {v2 : Int32} {v3 : Int32} (h : s_X6_ticks_112 sk67 w F lg v2 v3)  : ng_Ev G md_X6_ticks 112 [some (.ref 28), some (.ref a), some (.int v2), some (.int v3)] [] (hm w F lg) (K_X6_ticks hm  (f_X6_ticks_112 kk67 w F lg v2 v3)) := by
  unfold s_X6_ticks_112 at h
  unfold f_X6_ticks_112
  refine ev_iinc (v := v3 + nI 1) (L' := [some (.ref 28), some (.ref a), some (.int v2), some (.int (v3 + nI 1))]) dX6_ticks_112 rfl (by rfl) rfl ?_
  refine ev_goto (tgt := 67) dX6_ticks_115 (by decide) ?_
  exact ev_sub (hk67 w F lg v2 (v3 + nI 1) h) (sub_s (sub_s (sub_s (sub_s sub_e))))
def f_X6_ticks_133 (kk123 : (Nat → Int32) → (Nat → Int32) → (Nat → Int32) → Int32 → ((Nat → Int32) × (Nat → Int32) × (Nat → Int32))) (w : Nat → Int32) (F : Nat → Int32) (lg : Nat → Int32) (t0 : Int32) : (Nat → Int32) × (Nat → Int32) × (Nat → Int32) := kk123 w F lg (f_X6_firstLate w)
def s_X6_ticks_133 (sk123 : (Nat → Int32) → (Nat → Int32) → (Nat → Int32) → Int32 → Prop) (w : Nat → Int32) (F : Nat → Int32) (lg : Nat → Int32) (t0 : Int32) : Prop := (s_X6_firstLate w ∧ sk123 w F lg (f_X6_firstLate w))
set_option maxRecDepth 100000 in
set_option maxHeartbeats 4000000 in
theorem e_X6_ticks_133 {G : ng_GG} {hm : (Nat → Int32) → (Nat → Int32) → (Nat → Int32) → ng_AM} {a : Nat} (V : ng_ML hm a) {w : Nat → Int32} {F : Nat → Int32} {lg : Nat → Int32} {kk123 : (Nat → Int32) → (Nat → Int32) → (Nat → Int32) → Int32 → ((Nat → Int32) × (Nat → Int32) × (Nat → Int32))} {sk123 : (Nat → Int32) → (Nat → Int32) → (Nat → Int32) → Int32 → Prop} (hk123 : ∀ (w : Nat → Int32) (F : Nat → Int32) (lg : Nat → Int32) (v2 : Int32), sk123 w F lg v2 → ng_Ev G md_X6_ticks 123 [some (.ref 28), some (.ref a), some (.int v2), none] [] (hm w F lg) (K_X6_ticks hm  (kk123 w F lg v2))) {t0 : Int32} (h : s_X6_ticks_133 sk123 w F lg t0)  : ng_Ev G md_X6_ticks 133 [some (.ref 28), some (.ref a), none, none] [.int t0] (hm w F lg) (K_X6_ticks hm  (f_X6_ticks_133 kk123 w F lg t0)) := by
  unfold s_X6_ticks_133 at h
  unfold f_X6_ticks_133
  refine ev_istore_n (L' := [some (.ref 28), some (.ref a), none, some (.int t0)]) dX6_ticks_133 rfl (ng_lt rfl) rfl ?_
  refine ev_aload_n dX6_ticks_134 rfl rfl rfl ?_
  have hs135 := h.1
  replace h := h.2
  refine bk_callS (As := [.ref a]) (st := []) (st2 := [.int (f_X6_firstLate w)]) (M2 := hm w F lg) ok_X6_firstLate lk_RX6_151 (ng_rok.of rfl rfl) rfl rfl rfl rfl dX6_ticks_135 (m_X6_firstLate (ML_R V) hs135) rfl rfl ?_
  refine ev_istore_n (L' := [some (.ref 28), some (.ref a), some (.int (f_X6_firstLate w)), some (.int t0)]) dX6_ticks_138 rfl (ng_lt rfl) rfl ?_
  refine ev_goto (tgt := 123) dX6_ticks_139 (by decide) ?_
  exact ev_sub (hk123 w F lg (f_X6_firstLate w) h) (sub_s (sub_s (sub_s (sub_n sub_e))))
def f_X6_ticks_123  : Nat → (Nat → Int32) → (Nat → Int32) → (Nat → Int32) → Int32 → ((Nat → Int32) × (Nat → Int32) × (Nat → Int32))
  | 0, w, F, lg, _ => (w, F, lg)
  | n + 1, w, F, lg, v2 => (if v2 < 0 then (w, F, lg) else f_X6_ticks_133 (f_X6_ticks_123 n) ((f_X6_comes w F lg v2).1) ((f_X6_comes w F lg v2).2.1) ((f_X6_comes w F lg v2).2.2.1) ((f_X6_comes w F lg v2).2.2.2))
def s_X6_ticks_123  : Nat → (Nat → Int32) → (Nat → Int32) → (Nat → Int32) → Int32 → Prop
  | 0, _, _, _, _ => False
  | n + 1, w, F, lg, v2 => (¬ v2 < 0 → (s_X6_comes w F lg v2 ∧ s_X6_ticks_133 (s_X6_ticks_123 n) ((f_X6_comes w F lg v2).1) ((f_X6_comes w F lg v2).2.1) ((f_X6_comes w F lg v2).2.2.1) ((f_X6_comes w F lg v2).2.2.2)))
set_option maxRecDepth 100000 in
set_option maxHeartbeats 4000000 in
theorem e_X6_ticks_123 {G : ng_GG} {hm : (Nat → Int32) → (Nat → Int32) → (Nat → Int32) → ng_AM} {a : Nat} (V : ng_ML hm a)  : ∀ (n : Nat) (w : Nat → Int32) (F : Nat → Int32) (lg : Nat → Int32) (v2 : Int32), s_X6_ticks_123  n w F lg v2 → ng_Ev G md_X6_ticks 123 [some (.ref 28), some (.ref a), some (.int v2), none] [] (hm w F lg) (K_X6_ticks hm  (f_X6_ticks_123  n w F lg v2)) := by
  intro n
  induction n with
  | zero => intro w F lg v2 h; exact False.elim h
  | succ n ih =>
    intro w F lg v2 h 
    rw [s_X6_ticks_123] at h
    rw [f_X6_ticks_123]
    refine ev_iload_n dX6_ticks_123 rfl rfl ?_
    refine bk_if_lt (tgt := 142) dX6_ticks_124 (by decide) (fun c124 => ?_) (fun c124 => ?_)
    · exact ev_vret rfl dX6_ticks_142
    · replace h := h c124
      refine ev_aload_n dX6_ticks_127 rfl rfl rfl ?_
      refine ev_aload_n dX6_ticks_128 rfl rfl rfl ?_
      refine ev_iload_n dX6_ticks_129 rfl rfl ?_
      have hs130 := h.1
      replace h := h.2
      refine bk_callV (As := [.ref a, .int v2]) (st := []) (st2 := [.int ((f_X6_comes w F lg v2).2.2.2)]) (M2 := hm ((f_X6_comes w F lg v2).1) ((f_X6_comes w F lg v2).2.1) ((f_X6_comes w F lg v2).2.2.1)) ok_X6_comes lk_RX6_155 (ng_rok.of rfl rfl) (ML_g28 V) rfl rfl rfl rfl rfl rfl dX6_ticks_130 (m_X6_comes V hs130) rfl rfl ?_
      exact ev_sub (e_X6_ticks_133 V ih h) (sub_s (sub_s (sub_n (sub_n sub_e))))
def f_X6_ticks_118  (w : Nat → Int32) (F : Nat → Int32) (lg : Nat → Int32)  : (Nat → Int32) × (Nat → Int32) × (Nat → Int32) := f_X6_ticks_123 ng_F w F lg (f_X6_firstLate w)
def s_X6_ticks_118  (w : Nat → Int32) (F : Nat → Int32) (lg : Nat → Int32)  : Prop := (s_X6_firstLate w ∧ s_X6_ticks_123 ng_F w F lg (f_X6_firstLate w))
set_option maxRecDepth 100000 in
set_option maxHeartbeats 4000000 in
theorem e_X6_ticks_118 {G : ng_GG} {hm : (Nat → Int32) → (Nat → Int32) → (Nat → Int32) → ng_AM} {a : Nat} (V : ng_ML hm a) {w : Nat → Int32} {F : Nat → Int32} {lg : Nat → Int32}   (h : s_X6_ticks_118  w F lg)  : ng_Ev G md_X6_ticks 118 [some (.ref 28), some (.ref a), none, none] [] (hm w F lg) (K_X6_ticks hm  (f_X6_ticks_118  w F lg)) := by
  unfold s_X6_ticks_118 at h
  unfold f_X6_ticks_118
  refine ev_aload_n dX6_ticks_118 rfl rfl rfl ?_
  have hs119 := h.1
  replace h := h.2
  refine bk_callS (As := [.ref a]) (st := []) (st2 := [.int (f_X6_firstLate w)]) (M2 := hm w F lg) ok_X6_firstLate lk_RX6_151 (ng_rok.of rfl rfl) rfl rfl rfl rfl dX6_ticks_119 (m_X6_firstLate (ML_R V) hs119) rfl rfl ?_
  refine ev_istore_n (L' := [some (.ref 28), some (.ref a), some (.int (f_X6_firstLate w)), none]) dX6_ticks_122 rfl (ng_lt rfl) rfl ?_
  exact ev_sub (e_X6_ticks_123 V ng_F w F lg (f_X6_firstLate w) h) (sub_s (sub_s (sub_s (sub_n sub_e))))
def f_X6_ticks_67  : Nat → (Nat → Int32) → (Nat → Int32) → (Nat → Int32) → Int32 → Int32 → ((Nat → Int32) × (Nat → Int32) × (Nat → Int32))
  | 0, w, F, lg, _, _ => (w, F, lg)
  | n + 1, w, F, lg, v2, v3 => (if (w (nI 11).toNatClampNeg) ≤ v3 then f_X6_ticks_118 w F lg else (if (w ((f_X6_house v3) + (nI 3)).toNatClampNeg) = 0 then f_X6_ticks_112 (f_X6_ticks_67 n) w F lg v2 v3 else f_X6_ticks_112 (f_X6_ticks_67 n) (upd (upd w ((f_X6_house v3) + (nI 5)).toNatClampNeg ((w ((f_X6_house v3) + (nI 5)).toNatClampNeg) ||| v2)) ((f_X6_house v3) + (nI 4)).toNatClampNeg ((upd w ((f_X6_house v3) + (nI 5)).toNatClampNeg ((w ((f_X6_house v3) + (nI 5)).toNatClampNeg) ||| v2)) (nI 0).toNatClampNeg)) F lg v2 v3))
def s_X6_ticks_67  : Nat → (Nat → Int32) → (Nat → Int32) → (Nat → Int32) → Int32 → Int32 → Prop
  | 0, _, _, _, _, _ => False
  | n + 1, w, F, lg, v2, v3 => (((w (nI 11).toNatClampNeg) ≤ v3 → s_X6_ticks_118 w F lg) ∧ (¬ (w (nI 11).toNatClampNeg) ≤ v3 → (vp_in ((f_X6_house v3) + (nI 3)) 527 ∧ (((w ((f_X6_house v3) + (nI 3)).toNatClampNeg) = 0 → s_X6_ticks_112 (s_X6_ticks_67 n) w F lg v2 v3) ∧ (¬ (w ((f_X6_house v3) + (nI 3)).toNatClampNeg) = 0 → (vp_in ((f_X6_house v3) + (nI 5)) 527 ∧ (vp_in ((f_X6_house v3) + (nI 5)) 527 ∧ (vp_in ((f_X6_house v3) + (nI 4)) 527 ∧ s_X6_ticks_112 (s_X6_ticks_67 n) (upd (upd w ((f_X6_house v3) + (nI 5)).toNatClampNeg ((w ((f_X6_house v3) + (nI 5)).toNatClampNeg) ||| v2)) ((f_X6_house v3) + (nI 4)).toNatClampNeg ((upd w ((f_X6_house v3) + (nI 5)).toNatClampNeg ((w ((f_X6_house v3) + (nI 5)).toNatClampNeg) ||| v2)) (nI 0).toNatClampNeg)) F lg v2 v3))))))))
set_option maxRecDepth 100000 in
set_option maxHeartbeats 4000000 in
theorem e_X6_ticks_67 {G : ng_GG} {hm : (Nat → Int32) → (Nat → Int32) → (Nat → Int32) → ng_AM} {a : Nat} (V : ng_ML hm a)  : ∀ (n : Nat) (w : Nat → Int32) (F : Nat → Int32) (lg : Nat → Int32) (v2 : Int32) (v3 : Int32), s_X6_ticks_67  n w F lg v2 v3 → ng_Ev G md_X6_ticks 67 [some (.ref 28), some (.ref a), some (.int v2), some (.int v3)] [] (hm w F lg) (K_X6_ticks hm  (f_X6_ticks_67  n w F lg v2 v3)) := by
  intro n
  induction n with
  | zero => intro w F lg v2 v3 h; exact False.elim h
  | succ n ih =>
    intro w F lg v2 v3 h 
    rw [s_X6_ticks_67] at h
    rw [f_X6_ticks_67]
    refine ev_iload_n dX6_ticks_67 rfl rfl ?_
    refine ev_aload_n dX6_ticks_68 rfl rfl rfl ?_
    refine ev_bipush (v := nI 11) dX6_ticks_69 (by decide) ?_
    refine ev_iald (ML_ga V) (vp_in_nI (by decide) (by decide)) dX6_ticks_71 ?_
    refine bk_icmp_ge (tgt := 118) dX6_ticks_72 (by decide) (fun c72 => ?_) (fun c72 => ?_)
    · replace h := h.1 c72
      exact ev_sub (e_X6_ticks_118 V h) (sub_s (sub_s (sub_n (sub_n sub_e))))
    · replace h := h.2 c72
      refine ev_aload_n dX6_ticks_75 rfl rfl rfl ?_
      refine ev_iload_n dX6_ticks_76 rfl rfl ?_
      refine bk_callS (As := [.int v3]) (st := [.ref a]) (st2 := [.int (f_X6_house v3), .ref a]) (M2 := hm w F lg) ok_X6_house lk_RX6_75 (ng_rok.of rfl rfl) rfl rfl rfl rfl dX6_ticks_77 (m_X6_house trivial) rfl rfl ?_
      refine ev_iconst (v := nI 3) dX6_ticks_80 (by decide) ?_
      refine ev_iadd dX6_ticks_81 ?_
      have hi82 := h.1
      replace h := h.2
      refine ev_iald (ML_ga V) hi82 dX6_ticks_82 ?_
      refine bk_if_ne (tgt := 89) dX6_ticks_83 (by decide) (fun c83 => ?_) (fun c83 => ?_)
      · replace h := h.2 c83
        refine ev_aload_n dX6_ticks_89 rfl rfl rfl ?_
        refine ev_iload_n dX6_ticks_90 rfl rfl ?_
        refine bk_callS (As := [.int v3]) (st := [.ref a]) (st2 := [.int (f_X6_house v3), .ref a]) (M2 := hm w F lg) ok_X6_house lk_RX6_75 (ng_rok.of rfl rfl) rfl rfl rfl rfl dX6_ticks_91 (m_X6_house trivial) rfl rfl ?_
        refine ev_iconst (v := nI 5) dX6_ticks_94 (by decide) ?_
        refine ev_iadd dX6_ticks_95 ?_
        refine ev_dup2 dX6_ticks_96 rfl rfl ?_
        have hi97 := h.1
        replace h := h.2
        refine ev_iald (ML_ga V) hi97 dX6_ticks_97 ?_
        refine ev_iload_n dX6_ticks_98 rfl rfl ?_
        refine ev_ior dX6_ticks_99 ?_
        have hi100 := h.1
        replace h := h.2
        refine ev_iast (ML_ga V) hi100 (ML_sa V) dX6_ticks_100 ?_
        refine ev_aload_n dX6_ticks_101 rfl rfl rfl ?_
        refine ev_iload_n dX6_ticks_102 rfl rfl ?_
        refine bk_callS (As := [.int v3]) (st := [.ref a]) (st2 := [.int (f_X6_house v3), .ref a]) (M2 := hm (upd w ((f_X6_house v3) + (nI 5)).toNatClampNeg ((w ((f_X6_house v3) + (nI 5)).toNatClampNeg) ||| v2)) F lg) ok_X6_house lk_RX6_75 (ng_rok.of rfl rfl) rfl rfl rfl rfl dX6_ticks_103 (m_X6_house trivial) rfl rfl ?_
        refine ev_iconst (v := nI 4) dX6_ticks_106 (by decide) ?_
        refine ev_iadd dX6_ticks_107 ?_
        refine ev_aload_n dX6_ticks_108 rfl rfl rfl ?_
        refine ev_iconst (v := nI 0) dX6_ticks_109 (by decide) ?_
        refine ev_iald (ML_ga V) (vp_in_nI (by decide) (by decide)) dX6_ticks_110 ?_
        have hi111 := h.1
        replace h := h.2
        refine ev_iast (ML_ga V) hi111 (ML_sa V) dX6_ticks_111 ?_
        exact ev_sub (e_X6_ticks_112 V ih h) (sub_s (sub_s (sub_s (sub_s sub_e))))
      · replace h := h.1 c83
        refine ev_goto (tgt := 112) dX6_ticks_86 (by decide) ?_
        exact ev_sub (e_X6_ticks_112 V ih h) (sub_s (sub_s (sub_s (sub_s sub_e))))
def f_X6_ticks_29  : Nat → (Nat → Int32) → (Nat → Int32) → (Nat → Int32) → Int32 → Int32 → ((Nat → Int32) × (Nat → Int32) × (Nat → Int32))
  | 0, w, F, lg, _, _ => (w, F, lg)
  | n + 1, w, F, lg, v2, v3 => (if (w (nI 13).toNatClampNeg) ≤ v3 then f_X6_ticks_67 ng_F w F lg v2 (nI 0) else (if (w ((f_X6_family v3) + (nI 1)).toNatClampNeg) = (-1) then f_X6_ticks_57 (f_X6_ticks_29 n) w F lg v3 (nI 0) v2 else f_X6_ticks_57 (f_X6_ticks_29 n) w F lg v3 ((nI 1) <<< (v3 &&& 31)) v2))
def s_X6_ticks_29  : Nat → (Nat → Int32) → (Nat → Int32) → (Nat → Int32) → Int32 → Int32 → Prop
  | 0, _, _, _, _, _ => False
  | n + 1, w, F, lg, v2, v3 => (((w (nI 13).toNatClampNeg) ≤ v3 → s_X6_ticks_67 ng_F w F lg v2 (nI 0)) ∧ (¬ (w (nI 13).toNatClampNeg) ≤ v3 → (vp_in ((f_X6_family v3) + (nI 1)) 527 ∧ (((w ((f_X6_family v3) + (nI 1)).toNatClampNeg) = (-1) → s_X6_ticks_57 (s_X6_ticks_29 n) w F lg v3 (nI 0) v2) ∧ (¬ (w ((f_X6_family v3) + (nI 1)).toNatClampNeg) = (-1) → s_X6_ticks_57 (s_X6_ticks_29 n) w F lg v3 ((nI 1) <<< (v3 &&& 31)) v2)))))
set_option maxRecDepth 100000 in
set_option maxHeartbeats 4000000 in
theorem e_X6_ticks_29 {G : ng_GG} {hm : (Nat → Int32) → (Nat → Int32) → (Nat → Int32) → ng_AM} {a : Nat} (V : ng_ML hm a)  : ∀ (n : Nat) (w : Nat → Int32) (F : Nat → Int32) (lg : Nat → Int32) (v2 : Int32) (v3 : Int32), s_X6_ticks_29  n w F lg v2 v3 → ng_Ev G md_X6_ticks 29 [some (.ref 28), some (.ref a), some (.int v2), some (.int v3)] [] (hm w F lg) (K_X6_ticks hm  (f_X6_ticks_29  n w F lg v2 v3)) := by
  intro n
  induction n with
  | zero => intro w F lg v2 v3 h; exact False.elim h
  | succ n ih =>
    intro w F lg v2 v3 h 
    rw [s_X6_ticks_29] at h
    rw [f_X6_ticks_29]
    refine ev_iload_n dX6_ticks_29 rfl rfl ?_
    refine ev_aload_n dX6_ticks_30 rfl rfl rfl ?_
    refine ev_bipush (v := nI 13) dX6_ticks_31 (by decide) ?_
    refine ev_iald (ML_ga V) (vp_in_nI (by decide) (by decide)) dX6_ticks_33 ?_
    refine bk_icmp_ge (tgt := 65) dX6_ticks_34 (by decide) (fun c34 => ?_) (fun c34 => ?_)
    · replace h := h.1 c34
      refine ev_iconst (v := nI 0) dX6_ticks_65 (by decide) ?_
      refine ev_istore_n (L' := [some (.ref 28), some (.ref a), some (.int v2), some (.int (nI 0))]) dX6_ticks_66 rfl (ng_lt rfl) rfl ?_
      exact ev_sub (e_X6_ticks_67 V ng_F w F lg v2 (nI 0) h) (sub_s (sub_s (sub_s (sub_s sub_e))))
    · replace h := h.2 c34
      refine ev_iload_n dX6_ticks_37 rfl rfl ?_
      refine ev_aload_n dX6_ticks_38 rfl rfl rfl ?_
      refine ev_iload_n dX6_ticks_39 rfl rfl ?_
      refine bk_callS (As := [.int v3]) (st := [.ref a, .int v2]) (st2 := [.int (f_X6_family v3), .ref a, .int v2]) (M2 := hm w F lg) ok_X6_family lk_RX6_85 (ng_rok.of rfl rfl) rfl rfl rfl rfl dX6_ticks_40 (m_X6_family trivial) rfl rfl ?_
      refine ev_iconst (v := nI 1) dX6_ticks_43 (by decide) ?_
      refine ev_iadd dX6_ticks_44 ?_
      have hi45 := h.1
      replace h := h.2
      refine ev_iald (ML_ga V) hi45 dX6_ticks_45 ?_
      refine ev_iconst (v := (-1)) dX6_ticks_46 (by decide) ?_
      refine bk_icmp_ne (tgt := 54) dX6_ticks_47 (by decide) (fun c47 => ?_) (fun c47 => ?_)
      · replace h := h.2 c47
        refine ev_iconst (v := nI 1) dX6_ticks_54 (by decide) ?_
        refine ev_iload_n dX6_ticks_55 rfl rfl ?_
        refine ev_ishl dX6_ticks_56 ?_
        exact ev_sub (e_X6_ticks_57 V ih h) (sub_s (sub_s (sub_n (sub_s sub_e))))
      · replace h := h.1 c47
        refine ev_iconst (v := nI 0) dX6_ticks_50 (by decide) ?_
        refine ev_goto (tgt := 57) dX6_ticks_51 (by decide) ?_
        exact ev_sub (e_X6_ticks_57 V ih h) (sub_s (sub_s (sub_n (sub_s sub_e))))
def f_X6_ticks  (w : Nat → Int32) (F : Nat → Int32) (lg : Nat → Int32)  : (Nat → Int32) × (Nat → Int32) × (Nat → Int32) := (if ((upd w (nI 0).toNatClampNeg ((w (nI 0).toNatClampNeg) + (nI 1))) (nI 1).toNatClampNeg) = (nI 1) then (if (((upd w (nI 0).toNatClampNeg ((w (nI 0).toNatClampNeg) + (nI 1))) (nI 0).toNatClampNeg) - ((upd w (nI 0).toNatClampNeg ((w (nI 0).toNatClampNeg) + (nI 1))) (nI 0).toNatClampNeg) / ((upd w (nI 0).toNatClampNeg ((w (nI 0).toNatClampNeg) + (nI 1))) (nI 7).toNatClampNeg) * ((upd w (nI 0).toNatClampNeg ((w (nI 0).toNatClampNeg) + (nI 1))) (nI 7).toNatClampNeg)) = 0 then f_X6_ticks_29 ng_F (upd w (nI 0).toNatClampNeg ((w (nI 0).toNatClampNeg) + (nI 1))) F lg (nI 0) (nI 0) else f_X6_ticks_118 (upd w (nI 0).toNatClampNeg ((w (nI 0).toNatClampNeg) + (nI 1))) F lg) else f_X6_ticks_118 (upd w (nI 0).toNatClampNeg ((w (nI 0).toNatClampNeg) + (nI 1))) F lg)
def s_X6_ticks  (w : Nat → Int32) (F : Nat → Int32) (lg : Nat → Int32)  : Prop := ((((upd w (nI 0).toNatClampNeg ((w (nI 0).toNatClampNeg) + (nI 1))) (nI 1).toNatClampNeg) = (nI 1) → (¬ ((upd w (nI 0).toNatClampNeg ((w (nI 0).toNatClampNeg) + (nI 1))) (nI 7).toNatClampNeg) = 0 ∧ (((((upd w (nI 0).toNatClampNeg ((w (nI 0).toNatClampNeg) + (nI 1))) (nI 0).toNatClampNeg) - ((upd w (nI 0).toNatClampNeg ((w (nI 0).toNatClampNeg) + (nI 1))) (nI 0).toNatClampNeg) / ((upd w (nI 0).toNatClampNeg ((w (nI 0).toNatClampNeg) + (nI 1))) (nI 7).toNatClampNeg) * ((upd w (nI 0).toNatClampNeg ((w (nI 0).toNatClampNeg) + (nI 1))) (nI 7).toNatClampNeg)) = 0 → s_X6_ticks_29 ng_F (upd w (nI 0).toNatClampNeg ((w (nI 0).toNatClampNeg) + (nI 1))) F lg (nI 0) (nI 0)) ∧ (¬ (((upd w (nI 0).toNatClampNeg ((w (nI 0).toNatClampNeg) + (nI 1))) (nI 0).toNatClampNeg) - ((upd w (nI 0).toNatClampNeg ((w (nI 0).toNatClampNeg) + (nI 1))) (nI 0).toNatClampNeg) / ((upd w (nI 0).toNatClampNeg ((w (nI 0).toNatClampNeg) + (nI 1))) (nI 7).toNatClampNeg) * ((upd w (nI 0).toNatClampNeg ((w (nI 0).toNatClampNeg) + (nI 1))) (nI 7).toNatClampNeg)) = 0 → s_X6_ticks_118 (upd w (nI 0).toNatClampNeg ((w (nI 0).toNatClampNeg) + (nI 1))) F lg)))) ∧ (¬ ((upd w (nI 0).toNatClampNeg ((w (nI 0).toNatClampNeg) + (nI 1))) (nI 1).toNatClampNeg) = (nI 1) → s_X6_ticks_118 (upd w (nI 0).toNatClampNeg ((w (nI 0).toNatClampNeg) + (nI 1))) F lg))
set_option maxRecDepth 100000 in
set_option maxHeartbeats 4000000 in
theorem e_X6_ticks {G : ng_GG} {hm : (Nat → Int32) → (Nat → Int32) → (Nat → Int32) → ng_AM} {a : Nat} (V : ng_ML hm a) {w : Nat → Int32} {F : Nat → Int32} {lg : Nat → Int32}   (h : s_X6_ticks  w F lg)  : ng_Ev G md_X6_ticks 0 [some (.ref 28), some (.ref a), none, none] [] (hm w F lg) (K_X6_ticks hm  (f_X6_ticks  w F lg)) := by
  unfold s_X6_ticks at h
  unfold f_X6_ticks
  refine ev_aload_n dX6_ticks_0 rfl rfl rfl ?_
  refine ev_iconst (v := nI 0) dX6_ticks_1 (by decide) ?_
  refine ev_dup2 dX6_ticks_2 rfl rfl ?_
  refine ev_iald (ML_ga V) (vp_in_nI (by decide) (by decide)) dX6_ticks_3 ?_
  refine ev_iconst (v := nI 1) dX6_ticks_4 (by decide) ?_
  refine ev_iadd dX6_ticks_5 ?_
  refine ev_iast (ML_ga V) (vp_in_nI (by decide) (by decide)) (ML_sa V) dX6_ticks_6 ?_
  refine ev_aload_n dX6_ticks_7 rfl rfl rfl ?_
  refine ev_iconst (v := nI 1) dX6_ticks_8 (by decide) ?_
  refine ev_iald (ML_ga V) (vp_in_nI (by decide) (by decide)) dX6_ticks_9 ?_
  refine ev_iconst (v := nI 1) dX6_ticks_10 (by decide) ?_
  refine bk_icmp_ne (tgt := 118) dX6_ticks_11 (by decide) (fun c11 => ?_) (fun c11 => ?_)
  · replace h := h.2 c11
    exact ev_sub (e_X6_ticks_118 V h) (sub_s (sub_s (sub_n (sub_n sub_e))))
  · replace h := h.1 c11
    refine ev_aload_n dX6_ticks_14 rfl rfl rfl ?_
    refine ev_iconst (v := nI 0) dX6_ticks_15 (by decide) ?_
    refine ev_iald (ML_ga V) (vp_in_nI (by decide) (by decide)) dX6_ticks_16 ?_
    refine ev_aload_n dX6_ticks_17 rfl rfl rfl ?_
    refine ev_bipush (v := nI 7) dX6_ticks_18 (by decide) ?_
    refine ev_iald (ML_ga V) (vp_in_nI (by decide) (by decide)) dX6_ticks_20 ?_
    have hz21 := h.1
    replace h := h.2
    refine ev_irem dX6_ticks_21 hz21 ?_
    refine bk_if_ne (tgt := 118) dX6_ticks_22 (by decide) (fun c22 => ?_) (fun c22 => ?_)
    · replace h := h.2 c22
      exact ev_sub (e_X6_ticks_118 V h) (sub_s (sub_s (sub_n (sub_n sub_e))))
    · replace h := h.1 c22
      refine ev_iconst (v := nI 0) dX6_ticks_25 (by decide) ?_
      refine ev_istore_n (L' := [some (.ref 28), some (.ref a), some (.int (nI 0)), none]) dX6_ticks_26 rfl (ng_lt rfl) rfl ?_
      refine ev_iconst (v := nI 0) dX6_ticks_27 (by decide) ?_
      refine ev_istore_n (L' := [some (.ref 28), some (.ref a), some (.int (nI 0)), some (.int (nI 0))]) dX6_ticks_28 rfl (ng_lt rfl) rfl ?_
      exact ev_sub (e_X6_ticks_29 V ng_F (upd w (nI 0).toNatClampNeg ((w (nI 0).toNatClampNeg) + (nI 1))) F lg (nI 0) (nI 0) h) (sub_s (sub_s (sub_s (sub_s sub_e))))
theorem m_X6_ticks {G : ng_GG} {hm : (Nat → Int32) → (Nat → Int32) → (Nat → Int32) → ng_AM} {a : Nat} (V : ng_ML hm a) {w : Nat → Int32} {F : Nat → Int32} {lg : Nat → Int32}  (h : s_X6_ticks w F lg)  : ng_Ev G md_X6_ticks 0 (ng_en 4 [.ref 28, .ref a]) [] (hm w F lg) (K_X6_ticks hm  (f_X6_ticks w F lg)) := e_X6_ticks V h 
def K_X6_makes (hm : (Nat → Int32) → (Nat → Int32) → (Nat → Int32) → ng_AM)  (r : (Nat → Int32) × (Nat → Int32) × (Nat → Int32) × Int32) : ng_RR := (some (.int (r.2.2.2)), hm (r.1) (r.2.1) (r.2.2.1))
def f_X6_makes_155  (w : Nat → Int32) (F : Nat → Int32) (lg : Nat → Int32) (t0 : Int32) : (Nat → Int32) × (Nat → Int32) × (Nat → Int32) × Int32 := (w, (upd F 24 t0), lg, nI 1)
def s_X6_makes_155  (w : Nat → Int32) (F : Nat → Int32) (lg : Nat → Int32) (t0 : Int32) : Prop := (t0 = 0 ∨ t0 = 1)
set_option maxRecDepth 100000 in
set_option maxHeartbeats 4000000 in
theorem e_X6_makes_155 {G : ng_GG} {hm : (Nat → Int32) → (Nat → Int32) → (Nat → Int32) → ng_AM} {a : Nat} (V : ng_ML hm a) {w : Nat → Int32} {F : Nat → Int32} {lg : Nat → Int32}  {t0 : Int32} (h : s_X6_makes_155  w F lg t0)  : ng_Ev G md_X6_makes 155 [none, none, none, none, none, none, none, none, none] [.int t0, .ref 28] (hm w F lg) (K_X6_makes hm  (f_X6_makes_155  w F lg t0)) := by
  unfold s_X6_makes_155 at h
  unfold f_X6_makes_155
  have hz155 := h
  refine ev_put 6 24 fs_RX6_176 (ML_g28 V) (ng_lt rfl) rfl (ML_s28 V (F' := (upd F 24 t0))) (ng_fit_z hz155) dX6_makes_155 ?_
  refine ev_iconst (v := nI 1) dX6_makes_158 (by decide) ?_
  exact ev_iret rfl (by decide) dX6_makes_159
def f_X6_makes_154  (w : Nat → Int32) (F : Nat → Int32) (lg : Nat → Int32)  : (Nat → Int32) × (Nat → Int32) × (Nat → Int32) × Int32 := f_X6_makes_155 w F lg (nI 0)
def s_X6_makes_154  (w : Nat → Int32) (F : Nat → Int32) (lg : Nat → Int32)  : Prop := s_X6_makes_155 w F lg (nI 0)
set_option maxRecDepth 100000 in
set_option maxHeartbeats 4000000 in
theorem e_X6_makes_154 {G : ng_GG} {hm : (Nat → Int32) → (Nat → Int32) → (Nat → Int32) → ng_AM} {a : Nat} (V : ng_ML hm a) {w : Nat → Int32} {F : Nat → Int32} {lg : Nat → Int32}   (h : s_X6_makes_154  w F lg)  : ng_Ev G md_X6_makes 154 [none, none, none, none, none, none, none, none, none] [.ref 28] (hm w F lg) (K_X6_makes hm  (f_X6_makes_154  w F lg)) := by
  unfold s_X6_makes_154 at h
  unfold f_X6_makes_154
  refine ev_iconst (v := nI 0) dX6_makes_154 (by decide) ?_
  exact ev_sub (e_X6_makes_155 V h) (sub_n (sub_n (sub_n (sub_n (sub_n (sub_n (sub_n (sub_n (sub_n sub_e)))))))))
def f_X6_makes_127  (w : Nat → Int32) (F : Nat → Int32) (lg : Nat → Int32) (v3 : Int32) (v4 : Int32) (v6 : Int32) (v7 : Int32) (t0 : Int32) : (Nat → Int32) × (Nat → Int32) × (Nat → Int32) × Int32 := (if t0 = 0 then (if v7 = v3 then (if (w ((f_X6_note v6) + (nI 1)).toNatClampNeg) = v4 then f_X6_makes_155 w F lg (nI 1) else f_X6_makes_154 w F lg) else f_X6_makes_154 w F lg) else f_X6_makes_154 w F lg)
def s_X6_makes_127  (w : Nat → Int32) (F : Nat → Int32) (lg : Nat → Int32) (v3 : Int32) (v4 : Int32) (v6 : Int32) (v7 : Int32) (t0 : Int32) : Prop := ((t0 = 0 → ((v7 = v3 → (vp_in ((f_X6_note v6) + (nI 1)) 527 ∧ (((w ((f_X6_note v6) + (nI 1)).toNatClampNeg) = v4 → s_X6_makes_155 w F lg (nI 1)) ∧ (¬ (w ((f_X6_note v6) + (nI 1)).toNatClampNeg) = v4 → s_X6_makes_154 w F lg)))) ∧ (¬ v7 = v3 → s_X6_makes_154 w F lg))) ∧ (¬ t0 = 0 → s_X6_makes_154 w F lg))
set_option maxRecDepth 100000 in
set_option maxHeartbeats 4000000 in
theorem e_X6_makes_127 {G : ng_GG} {hm : (Nat → Int32) → (Nat → Int32) → (Nat → Int32) → ng_AM} {a : Nat} (V : ng_ML hm a) {w : Nat → Int32} {F : Nat → Int32} {lg : Nat → Int32}  {v3 : Int32} {v4 : Int32} {v6 : Int32} {v7 : Int32} {t0 : Int32} (h : s_X6_makes_127  w F lg v3 v4 v6 v7 t0)  : ng_Ev G md_X6_makes 127 [none, some (.ref a), none, some (.int v3), some (.int v4), none, some (.int v6), some (.int v7), none] [.int t0, .ref 28] (hm w F lg) (K_X6_makes hm  (f_X6_makes_127  w F lg v3 v4 v6 v7 t0)) := by
  unfold s_X6_makes_127 at h
  unfold f_X6_makes_127
  refine bk_if_ne (tgt := 154) dX6_makes_127 (by decide) (fun c127 => ?_) (fun c127 => ?_)
  · replace h := h.2 c127
    exact ev_sub (e_X6_makes_154 V h) (sub_n (sub_n (sub_n (sub_n (sub_n (sub_n (sub_n (sub_n (sub_n sub_e)))))))))
  · replace h := h.1 c127
    refine ev_iload dX6_makes_130 rfl ?_
    refine ev_iload_n dX6_makes_132 rfl rfl ?_
    refine bk_icmp_ne (tgt := 154) dX6_makes_133 (by decide) (fun c133 => ?_) (fun c133 => ?_)
    · replace h := h.2 c133
      exact ev_sub (e_X6_makes_154 V h) (sub_n (sub_n (sub_n (sub_n (sub_n (sub_n (sub_n (sub_n (sub_n sub_e)))))))))
    · replace h := h.1 c133
      refine ev_aload_n dX6_makes_136 rfl rfl rfl ?_
      refine ev_iload dX6_makes_137 rfl ?_
      refine bk_callS (As := [.int v6]) (st := [.ref a, .ref 28]) (st2 := [.int (f_X6_note v6), .ref a, .ref 28]) (M2 := hm w F lg) ok_X6_note lk_RX6_71 (ng_rok.of rfl rfl) rfl rfl rfl rfl dX6_makes_139 (m_X6_note trivial) rfl rfl ?_
      refine ev_iconst (v := nI 1) dX6_makes_142 (by decide) ?_
      refine ev_iadd dX6_makes_143 ?_
      have hi144 := h.1
      replace h := h.2
      refine ev_iald (ML_ga V) hi144 dX6_makes_144 ?_
      refine ev_iload dX6_makes_145 rfl ?_
      refine bk_icmp_ne (tgt := 154) dX6_makes_147 (by decide) (fun c147 => ?_) (fun c147 => ?_)
      · replace h := h.2 c147
        exact ev_sub (e_X6_makes_154 V h) (sub_n (sub_n (sub_n (sub_n (sub_n (sub_n (sub_n (sub_n (sub_n sub_e)))))))))
      · replace h := h.1 c147
        refine ev_iconst (v := nI 1) dX6_makes_150 (by decide) ?_
        refine ev_goto (tgt := 155) dX6_makes_151 (by decide) ?_
        exact ev_sub (e_X6_makes_155 V h) (sub_n (sub_n (sub_n (sub_n (sub_n (sub_n (sub_n (sub_n (sub_n sub_e)))))))))
def f_X6_makes  (w : Nat → Int32) (F : Nat → Int32) (lg : Nat → Int32) (v2 : Int32) (v3 : Int32) (v4 : Int32) (v5 : Int32) : (Nat → Int32) × (Nat → Int32) × (Nat → Int32) × Int32 := (if (nI 12) ≤ v2 then (if (f_X6_in v2 (nI 100) (nI 227)) = 0 then (if (f_X6_in v2 (nI 300) (nI 331)) = 0 then (if (f_X6_in v2 (nI 400) (nI 527)) = 0 then (if v2 = (nI 600) then ((f_X6_ticks w (upd F 24 (nI 0)) lg).1, (f_X6_ticks w (upd F 24 (nI 0)) lg).2.1, (f_X6_ticks w (upd F 24 (nI 0)) lg).2.2, nI 1) else (w, (upd F 24 (nI 0)), lg, nI 0)) else (if (w (nI 12).toNatClampNeg) ≤ ((v2 - (nI 400)) - (v2 - (nI 400)) / (nI 32) * (nI 32)) then (w, (upd F 24 (nI 0)), lg, nI 0) else (if (f_X6_has w (nI 4) ((v2 - (nI 400)) - (v2 - (nI 400)) / (nI 32) * (nI 32))) = 0 then (w, (upd F 24 (nI 0)), lg, nI 0) else ((f_X6_taken w ((v2 - (nI 400)) / (nI 32)) ((v2 - (nI 400)) - (v2 - (nI 400)) / (nI 32) * (nI 32)) (-1) (w ((f_X6_browser ((v2 - (nI 400)) / (nI 32))) + (nI 2)).toNatClampNeg)).1, (upd F 24 (nI 0)), lg, nI 1)))) else (if (w (nI 12).toNatClampNeg) ≤ (v2 - (nI 300)) then (w, (upd F 24 (nI 0)), lg, nI 0) else (if (f_X6_has w (nI 4) (v2 - (nI 300))) = 0 then (w, (upd F 24 (nI 0)), lg, nI 0) else (if (w ((f_X6_note (v2 - (nI 300))) + (nI 0)).toNatClampNeg) = (nI 1) then ((f_X6_turned w (upd F 24 (nI 0)) (nI 4) (v2 - (nI 300)) (nI 0) (nI 1)).1, (f_X6_turned w (upd F 24 (nI 0)) (nI 4) (v2 - (nI 300)) (nI 0) (nI 1)).2.1, lg, nI 1) else (w, (upd F 24 (nI 0)), lg, nI 0))))) else (if (w (nI 12).toNatClampNeg) ≤ ((v2 - (nI 100)) / (nI 4)) then (w, (upd F 24 (nI 0)), lg, nI 0) else (if (w (nI 11).toNatClampNeg) ≤ ((v2 - (nI 100)) - (v2 - (nI 100)) / (nI 4) * (nI 4)) then (w, (upd F 24 (nI 0)), lg, nI 0) else (if (w ((f_X6_house ((v2 - (nI 100)) - (v2 - (nI 100)) / (nI 4) * (nI 4))) + (nI 3)).toNatClampNeg) = 0 then (w, (upd F 24 (nI 0)), lg, nI 0) else (if (f_X6_has w (nI 4) ((v2 - (nI 100)) / (nI 4))) = 0 then (w, (upd F 24 (nI 0)), lg, nI 0) else (if (w ((f_X6_note ((v2 - (nI 100)) / (nI 4))) + (nI 0)).toNatClampNeg) = (nI 1) then (w, (upd F 24 (nI 0)), lg, nI 0) else f_X6_makes_127 ((f_X6_shown w (upd F 24 (nI 0)) lg (nI 4) ((v2 - (nI 100)) - (v2 - (nI 100)) / (nI 4) * (nI 4)) ((v2 - (nI 100)) / (nI 4)) v5).1) ((f_X6_shown w (upd F 24 (nI 0)) lg (nI 4) ((v2 - (nI 100)) - (v2 - (nI 100)) / (nI 4) * (nI 4)) ((v2 - (nI 100)) / (nI 4)) v5).2.1) ((f_X6_shown w (upd F 24 (nI 0)) lg (nI 4) ((v2 - (nI 100)) - (v2 - (nI 100)) / (nI 4) * (nI 4)) ((v2 - (nI 100)) / (nI 4)) v5).2.2.1) v3 v4 ((v2 - (nI 100)) / (nI 4)) ((v2 - (nI 100)) - (v2 - (nI 100)) / (nI 4) * (nI 4)) ((f_X6_shown w (upd F 24 (nI 0)) lg (nI 4) ((v2 - (nI 100)) - (v2 - (nI 100)) / (nI 4) * (nI 4)) ((v2 - (nI 100)) / (nI 4)) v5).2.2.2))))))) else (if v2 < (w (nI 14).toNatClampNeg) then ((f_X6_comes w (upd F 24 (nI 0)) lg v2).1, (f_X6_comes w (upd F 24 (nI 0)) lg v2).2.1, (f_X6_comes w (upd F 24 (nI 0)) lg v2).2.2.1, nI 1) else (w, (upd F 24 (nI 0)), lg, nI 0)))
def s_X6_makes  (w : Nat → Int32) (F : Nat → Int32) (lg : Nat → Int32) (v2 : Int32) (v3 : Int32) (v4 : Int32) (v5 : Int32) : Prop := (((nI 12) ≤ v2 → (((f_X6_in v2 (nI 100) (nI 227)) = 0 → (((f_X6_in v2 (nI 300) (nI 331)) = 0 → (((f_X6_in v2 (nI 400) (nI 527)) = 0 → (v2 = (nI 600) → s_X6_ticks w (upd F 24 (nI 0)) lg)) ∧ (¬ (f_X6_in v2 (nI 400) (nI 527)) = 0 → (¬ (w (nI 12).toNatClampNeg) ≤ ((v2 - (nI 400)) - (v2 - (nI 400)) / (nI 32) * (nI 32)) → (s_X6_has w (nI 4) ((v2 - (nI 400)) - (v2 - (nI 400)) / (nI 32) * (nI 32)) ∧ (¬ (f_X6_has w (nI 4) ((v2 - (nI 400)) - (v2 - (nI 400)) / (nI 32) * (nI 32))) = 0 → (vp_in ((f_X6_browser ((v2 - (nI 400)) / (nI 32))) + (nI 2)) 527 ∧ s_X6_taken w ((v2 - (nI 400)) / (nI 32)) ((v2 - (nI 400)) - (v2 - (nI 400)) / (nI 32) * (nI 32)) (-1) (w ((f_X6_browser ((v2 - (nI 400)) / (nI 32))) + (nI 2)).toNatClampNeg)))))))) ∧ (¬ (f_X6_in v2 (nI 300) (nI 331)) = 0 → (¬ (w (nI 12).toNatClampNeg) ≤ (v2 - (nI 300)) → (s_X6_has w (nI 4) (v2 - (nI 300)) ∧ (¬ (f_X6_has w (nI 4) (v2 - (nI 300))) = 0 → (vp_in ((f_X6_note (v2 - (nI 300))) + (nI 0)) 527 ∧ ((w ((f_X6_note (v2 - (nI 300))) + (nI 0)).toNatClampNeg) = (nI 1) → s_X6_turned w (upd F 24 (nI 0)) (nI 4) (v2 - (nI 300)) (nI 0) (nI 1))))))))) ∧ (¬ (f_X6_in v2 (nI 100) (nI 227)) = 0 → (¬ (w (nI 12).toNatClampNeg) ≤ ((v2 - (nI 100)) / (nI 4)) → (¬ (w (nI 11).toNatClampNeg) ≤ ((v2 - (nI 100)) - (v2 - (nI 100)) / (nI 4) * (nI 4)) → (vp_in ((f_X6_house ((v2 - (nI 100)) - (v2 - (nI 100)) / (nI 4) * (nI 4))) + (nI 3)) 527 ∧ (¬ (w ((f_X6_house ((v2 - (nI 100)) - (v2 - (nI 100)) / (nI 4) * (nI 4))) + (nI 3)).toNatClampNeg) = 0 → (s_X6_has w (nI 4) ((v2 - (nI 100)) / (nI 4)) ∧ (¬ (f_X6_has w (nI 4) ((v2 - (nI 100)) / (nI 4))) = 0 → (vp_in ((f_X6_note ((v2 - (nI 100)) / (nI 4))) + (nI 0)) 527 ∧ (¬ (w ((f_X6_note ((v2 - (nI 100)) / (nI 4))) + (nI 0)).toNatClampNeg) = (nI 1) → (s_X6_shown w (upd F 24 (nI 0)) lg (nI 4) ((v2 - (nI 100)) - (v2 - (nI 100)) / (nI 4) * (nI 4)) ((v2 - (nI 100)) / (nI 4)) v5 ∧ s_X6_makes_127 ((f_X6_shown w (upd F 24 (nI 0)) lg (nI 4) ((v2 - (nI 100)) - (v2 - (nI 100)) / (nI 4) * (nI 4)) ((v2 - (nI 100)) / (nI 4)) v5).1) ((f_X6_shown w (upd F 24 (nI 0)) lg (nI 4) ((v2 - (nI 100)) - (v2 - (nI 100)) / (nI 4) * (nI 4)) ((v2 - (nI 100)) / (nI 4)) v5).2.1) ((f_X6_shown w (upd F 24 (nI 0)) lg (nI 4) ((v2 - (nI 100)) - (v2 - (nI 100)) / (nI 4) * (nI 4)) ((v2 - (nI 100)) / (nI 4)) v5).2.2.1) v3 v4 ((v2 - (nI 100)) / (nI 4)) ((v2 - (nI 100)) - (v2 - (nI 100)) / (nI 4) * (nI 4)) ((f_X6_shown w (upd F 24 (nI 0)) lg (nI 4) ((v2 - (nI 100)) - (v2 - (nI 100)) / (nI 4) * (nI 4)) ((v2 - (nI 100)) / (nI 4)) v5).2.2.2))))))))))))) ∧ (¬ (nI 12) ≤ v2 → (v2 < (w (nI 14).toNatClampNeg) → s_X6_comes w (upd F 24 (nI 0)) lg v2)))
set_option maxRecDepth 100000 in
set_option maxHeartbeats 4000000 in
theorem e_X6_makes {G : ng_GG} {hm : (Nat → Int32) → (Nat → Int32) → (Nat → Int32) → ng_AM} {a : Nat} (V : ng_ML hm a) {w : Nat → Int32} {F : Nat → Int32} {lg : Nat → Int32}  {v2 : Int32} {v3 : Int32} {v4 : Int32} {v5 : Int32} (h : s_X6_makes  w F lg v2 v3 v4 v5)  : ng_Ev G md_X6_makes 0 [some (.ref 28), some (.ref a), some (.int v2), some (.int v3), some (.int v4), some (.int v5), none, none, none] [] (hm w F lg) (K_X6_makes hm  (f_X6_makes  w F lg v2 v3 v4 v5)) := by
  unfold s_X6_makes at h
  unfold f_X6_makes
  refine ev_aload_n dX6_makes_0 rfl rfl rfl ?_
  refine ev_iconst (v := nI 0) dX6_makes_1 (by decide) ?_
  refine ev_put 6 24 fs_RX6_176 (ML_g28 V) (ng_lt rfl) rfl (ML_s28 V (F' := (upd F 24 (nI 0)))) ng_fit_0 dX6_makes_2 ?_
  refine ev_iload_n dX6_makes_5 rfl rfl ?_
  refine ev_bipush (v := nI 12) dX6_makes_6 (by decide) ?_
  refine bk_icmp_ge (tgt := 31) dX6_makes_8 (by decide) (fun c8 => ?_) (fun c8 => ?_)
  · replace h := h.1 c8
    refine ev_iload_n dX6_makes_31 rfl rfl ?_
    refine ev_bipush (v := nI 100) dX6_makes_32 (by decide) ?_
    refine ev_sipush (v := nI 227) dX6_makes_34 (by decide) ?_
    refine bk_callS (As := [.int v2, .int (nI 100), .int (nI 227)]) (st := []) (st2 := [.int (f_X6_in v2 (nI 100) (nI 227))]) (M2 := hm w (upd F 24 (nI 0)) lg) ok_X6_in lk_RX6_67 (ng_rok.of rfl rfl) rfl rfl rfl rfl dX6_makes_37 (m_X6_in trivial) rfl rfl ?_
    refine bk_if_eq (tgt := 160) dX6_makes_40 (by decide) (fun c40 => ?_) (fun c40 => ?_)
    · replace h := h.1 c40
      refine ev_iload_n dX6_makes_160 rfl rfl ?_
      refine ev_sipush (v := nI 300) dX6_makes_161 (by decide) ?_
      refine ev_sipush (v := nI 331) dX6_makes_164 (by decide) ?_
      refine bk_callS (As := [.int v2, .int (nI 300), .int (nI 331)]) (st := []) (st2 := [.int (f_X6_in v2 (nI 300) (nI 331))]) (M2 := hm w (upd F 24 (nI 0)) lg) ok_X6_in lk_RX6_67 (ng_rok.of rfl rfl) rfl rfl rfl rfl dX6_makes_167 (m_X6_in trivial) rfl rfl ?_
      refine bk_if_eq (tgt := 228) dX6_makes_170 (by decide) (fun c170 => ?_) (fun c170 => ?_)
      · replace h := h.1 c170
        refine ev_iload_n dX6_makes_228 rfl rfl ?_
        refine ev_sipush (v := nI 400) dX6_makes_229 (by decide) ?_
        refine ev_sipush (v := nI 527) dX6_makes_232 (by decide) ?_
        refine bk_callS (As := [.int v2, .int (nI 400), .int (nI 527)]) (st := []) (st2 := [.int (f_X6_in v2 (nI 400) (nI 527))]) (M2 := hm w (upd F 24 (nI 0)) lg) ok_X6_in lk_RX6_67 (ng_rok.of rfl rfl) rfl rfl rfl rfl dX6_makes_235 (m_X6_in trivial) rfl rfl ?_
        refine bk_if_eq (tgt := 305) dX6_makes_238 (by decide) (fun c238 => ?_) (fun c238 => ?_)
        · replace h := h.1 c238
          refine ev_iload_n dX6_makes_305 rfl rfl ?_
          refine ev_sipush (v := nI 600) dX6_makes_306 (by decide) ?_
          refine bk_icmp_eq (tgt := 314) dX6_makes_309 (by decide) (fun c309 => ?_) (fun c309 => ?_)
          · replace h := h c309
            refine ev_aload_n dX6_makes_314 rfl rfl rfl ?_
            refine ev_aload_n dX6_makes_315 rfl rfl rfl ?_
            have hs316 := h
            refine bk_callV (As := [.ref a]) (st := []) (st2 := []) (M2 := hm ((f_X6_ticks w (upd F 24 (nI 0)) lg).1) ((f_X6_ticks w (upd F 24 (nI 0)) lg).2.1) ((f_X6_ticks w (upd F 24 (nI 0)) lg).2.2)) ok_X6_ticks lk_RX6_172 (ng_rok.of rfl rfl) (ML_g28 V) rfl rfl rfl rfl rfl rfl dX6_makes_316 (m_X6_ticks V hs316) rfl rfl ?_
            refine ev_iconst (v := nI 1) dX6_makes_319 (by decide) ?_
            exact ev_iret rfl (by decide) dX6_makes_320
          · refine ev_iconst (v := nI 0) dX6_makes_312 (by decide) ?_
            exact ev_iret rfl (by decide) dX6_makes_313
        · replace h := h.2 c238
          refine ev_iload_n dX6_makes_241 rfl rfl ?_
          refine ev_sipush (v := nI 400) dX6_makes_242 (by decide) ?_
          refine ev_isub dX6_makes_245 ?_
          refine ev_bipush (v := nI 32) dX6_makes_246 (by decide) ?_
          refine ev_irem dX6_makes_248 (by decide) ?_
          refine ev_istore (L' := [some (.ref 28), some (.ref a), some (.int v2), some (.int v3), some (.int v4), some (.int v5), some (.int ((v2 - (nI 400)) - (v2 - (nI 400)) / (nI 32) * (nI 32))), none, none]) dX6_makes_249 (ng_lt rfl) rfl ?_
          refine ev_iload_n dX6_makes_251 rfl rfl ?_
          refine ev_sipush (v := nI 400) dX6_makes_252 (by decide) ?_
          refine ev_isub dX6_makes_255 ?_
          refine ev_bipush (v := nI 32) dX6_makes_256 (by decide) ?_
          refine ev_idiv dX6_makes_258 (by decide) ?_
          refine ev_istore (L' := [some (.ref 28), some (.ref a), some (.int v2), some (.int v3), some (.int v4), some (.int v5), some (.int ((v2 - (nI 400)) - (v2 - (nI 400)) / (nI 32) * (nI 32))), some (.int ((v2 - (nI 400)) / (nI 32))), none]) dX6_makes_259 (ng_lt rfl) rfl ?_
          refine ev_iload dX6_makes_261 rfl ?_
          refine ev_aload_n dX6_makes_263 rfl rfl rfl ?_
          refine ev_bipush (v := nI 12) dX6_makes_264 (by decide) ?_
          refine ev_iald (ML_ga V) (vp_in_nI (by decide) (by decide)) dX6_makes_266 ?_
          refine bk_icmp_ge (tgt := 280) dX6_makes_267 (by decide) (fun c267 => ?_) (fun c267 => ?_)
          · refine ev_iconst (v := nI 0) dX6_makes_280 (by decide) ?_
            exact ev_iret rfl (by decide) dX6_makes_281
          · replace h := h c267
            refine ev_aload_n dX6_makes_270 rfl rfl rfl ?_
            refine ev_iconst (v := nI 4) dX6_makes_271 (by decide) ?_
            refine ev_iload dX6_makes_272 rfl ?_
            have hs274 := h.1
            replace h := h.2
            refine bk_callS (As := [.ref a, .int (nI 4), .int ((v2 - (nI 400)) - (v2 - (nI 400)) / (nI 32) * (nI 32))]) (st := []) (st2 := [.int (f_X6_has w (nI 4) ((v2 - (nI 400)) - (v2 - (nI 400)) / (nI 32) * (nI 32)))]) (M2 := hm w (upd F 24 (nI 0)) lg) ok_X6_has lk_RX6_165 (ng_rok.of rfl rfl) rfl rfl rfl rfl dX6_makes_274 (m_X6_has (ML_R V) hs274) rfl rfl ?_
            refine bk_if_ne (tgt := 282) dX6_makes_277 (by decide) (fun c277 => ?_) (fun c277 => ?_)
            · replace h := h c277
              refine ev_aload_n dX6_makes_282 rfl rfl rfl ?_
              refine ev_aload_n dX6_makes_283 rfl rfl rfl ?_
              refine ev_iload dX6_makes_284 rfl ?_
              refine ev_iload dX6_makes_286 rfl ?_
              refine ev_iconst (v := (-1)) dX6_makes_288 (by decide) ?_
              refine ev_aload_n dX6_makes_289 rfl rfl rfl ?_
              refine ev_iload dX6_makes_290 rfl ?_
              refine bk_callS (As := [.int ((v2 - (nI 400)) / (nI 32))]) (st := [.ref a, .int (-1), .int ((v2 - (nI 400)) - (v2 - (nI 400)) / (nI 32) * (nI 32)), .int ((v2 - (nI 400)) / (nI 32)), .ref a, .ref 28]) (st2 := [.int (f_X6_browser ((v2 - (nI 400)) / (nI 32))), .ref a, .int (-1), .int ((v2 - (nI 400)) - (v2 - (nI 400)) / (nI 32) * (nI 32)), .int ((v2 - (nI 400)) / (nI 32)), .ref a, .ref 28]) (M2 := hm w (upd F 24 (nI 0)) lg) ok_X6_browser lk_RX6_82 (ng_rok.of rfl rfl) rfl rfl rfl rfl dX6_makes_292 (m_X6_browser trivial) rfl rfl ?_
              refine ev_iconst (v := nI 2) dX6_makes_295 (by decide) ?_
              refine ev_iadd dX6_makes_296 ?_
              have hi297 := h.1
              replace h := h.2
              refine ev_iald (ML_ga V) hi297 dX6_makes_297 ?_
              have hs298 := h
              refine bk_callV (As := [.ref a, .int ((v2 - (nI 400)) / (nI 32)), .int ((v2 - (nI 400)) - (v2 - (nI 400)) / (nI 32) * (nI 32)), .int (-1), .int (w ((f_X6_browser ((v2 - (nI 400)) / (nI 32))) + (nI 2)).toNatClampNeg)]) (st := []) (st2 := [.int ((f_X6_taken w ((v2 - (nI 400)) / (nI 32)) ((v2 - (nI 400)) - (v2 - (nI 400)) / (nI 32) * (nI 32)) (-1) (w ((f_X6_browser ((v2 - (nI 400)) / (nI 32))) + (nI 2)).toNatClampNeg)).2)]) (M2 := hm ((f_X6_taken w ((v2 - (nI 400)) / (nI 32)) ((v2 - (nI 400)) - (v2 - (nI 400)) / (nI 32) * (nI 32)) (-1) (w ((f_X6_browser ((v2 - (nI 400)) / (nI 32))) + (nI 2)).toNatClampNeg)).1) (upd F 24 (nI 0)) lg) ok_X6_taken lk_RX6_138 (ng_rok.of rfl rfl) (ML_g28 V) rfl rfl rfl rfl rfl rfl dX6_makes_298 (m_X6_taken V hs298) rfl rfl ?_
              refine ev_istore (L' := [some (.ref 28), some (.ref a), some (.int v2), some (.int v3), some (.int v4), some (.int v5), some (.int ((v2 - (nI 400)) - (v2 - (nI 400)) / (nI 32) * (nI 32))), some (.int ((v2 - (nI 400)) / (nI 32))), some (.int ((f_X6_taken w ((v2 - (nI 400)) / (nI 32)) ((v2 - (nI 400)) - (v2 - (nI 400)) / (nI 32) * (nI 32)) (-1) (w ((f_X6_browser ((v2 - (nI 400)) / (nI 32))) + (nI 2)).toNatClampNeg)).2))]) dX6_makes_301 (ng_lt rfl) rfl ?_
              refine ev_iconst (v := nI 1) dX6_makes_303 (by decide) ?_
              exact ev_iret rfl (by decide) dX6_makes_304
            · refine ev_iconst (v := nI 0) dX6_makes_280 (by decide) ?_
              exact ev_iret rfl (by decide) dX6_makes_281
      · replace h := h.2 c170
        refine ev_iload_n dX6_makes_173 rfl rfl ?_
        refine ev_sipush (v := nI 300) dX6_makes_174 (by decide) ?_
        refine ev_isub dX6_makes_177 ?_
        refine ev_istore (L' := [some (.ref 28), some (.ref a), some (.int v2), some (.int v3), some (.int v4), some (.int v5), some (.int (v2 - (nI 300))), none, none]) dX6_makes_178 (ng_lt rfl) rfl ?_
        refine ev_iload dX6_makes_180 rfl ?_
        refine ev_aload_n dX6_makes_182 rfl rfl rfl ?_
        refine ev_bipush (v := nI 12) dX6_makes_183 (by decide) ?_
        refine ev_iald (ML_ga V) (vp_in_nI (by decide) (by decide)) dX6_makes_185 ?_
        refine bk_icmp_ge (tgt := 212) dX6_makes_186 (by decide) (fun c186 => ?_) (fun c186 => ?_)
        · refine ev_iconst (v := nI 0) dX6_makes_212 (by decide) ?_
          exact ev_iret rfl (by decide) dX6_makes_213
        · replace h := h c186
          refine ev_aload_n dX6_makes_189 rfl rfl rfl ?_
          refine ev_iconst (v := nI 4) dX6_makes_190 (by decide) ?_
          refine ev_iload dX6_makes_191 rfl ?_
          have hs193 := h.1
          replace h := h.2
          refine bk_callS (As := [.ref a, .int (nI 4), .int (v2 - (nI 300))]) (st := []) (st2 := [.int (f_X6_has w (nI 4) (v2 - (nI 300)))]) (M2 := hm w (upd F 24 (nI 0)) lg) ok_X6_has lk_RX6_165 (ng_rok.of rfl rfl) rfl rfl rfl rfl dX6_makes_193 (m_X6_has (ML_R V) hs193) rfl rfl ?_
          refine bk_if_eq (tgt := 212) dX6_makes_196 (by decide) (fun c196 => ?_) (fun c196 => ?_)
          · refine ev_iconst (v := nI 0) dX6_makes_212 (by decide) ?_
            exact ev_iret rfl (by decide) dX6_makes_213
          · replace h := h c196
            refine ev_aload_n dX6_makes_199 rfl rfl rfl ?_
            refine ev_iload dX6_makes_200 rfl ?_
            refine bk_callS (As := [.int (v2 - (nI 300))]) (st := [.ref a]) (st2 := [.int (f_X6_note (v2 - (nI 300))), .ref a]) (M2 := hm w (upd F 24 (nI 0)) lg) ok_X6_note lk_RX6_71 (ng_rok.of rfl rfl) rfl rfl rfl rfl dX6_makes_202 (m_X6_note trivial) rfl rfl ?_
            refine ev_iconst (v := nI 0) dX6_makes_205 (by decide) ?_
            refine ev_iadd dX6_makes_206 ?_
            have hi207 := h.1
            replace h := h.2
            refine ev_iald (ML_ga V) hi207 dX6_makes_207 ?_
            refine ev_iconst (v := nI 1) dX6_makes_208 (by decide) ?_
            refine bk_icmp_eq (tgt := 214) dX6_makes_209 (by decide) (fun c209 => ?_) (fun c209 => ?_)
            · replace h := h c209
              refine ev_aload_n dX6_makes_214 rfl rfl rfl ?_
              refine ev_aload_n dX6_makes_215 rfl rfl rfl ?_
              refine ev_iconst (v := nI 4) dX6_makes_216 (by decide) ?_
              refine ev_iload dX6_makes_217 rfl ?_
              refine ev_iconst (v := nI 0) dX6_makes_219 (by decide) ?_
              refine ev_iconst (v := nI 1) dX6_makes_220 (by decide) ?_
              have hs221 := h
              refine bk_callV (As := [.ref a, .int (nI 4), .int (v2 - (nI 300)), .int (nI 0), .int (nI 1)]) (st := []) (st2 := [.int ((f_X6_turned w (upd F 24 (nI 0)) (nI 4) (v2 - (nI 300)) (nI 0) (nI 1)).2.2)]) (M2 := hm ((f_X6_turned w (upd F 24 (nI 0)) (nI 4) (v2 - (nI 300)) (nI 0) (nI 1)).1) ((f_X6_turned w (upd F 24 (nI 0)) (nI 4) (v2 - (nI 300)) (nI 0) (nI 1)).2.1) lg) ok_X6_turned lk_RX6_144 (ng_rok.of rfl rfl) (ML_g28 V) rfl rfl rfl rfl rfl rfl dX6_makes_221 (m_X6_turned V hs221) rfl rfl ?_
              refine ev_istore (L' := [some (.ref 28), some (.ref a), some (.int v2), some (.int v3), some (.int v4), some (.int v5), some (.int (v2 - (nI 300))), some (.int ((f_X6_turned w (upd F 24 (nI 0)) (nI 4) (v2 - (nI 300)) (nI 0) (nI 1)).2.2)), none]) dX6_makes_224 (ng_lt rfl) rfl ?_
              refine ev_iconst (v := nI 1) dX6_makes_226 (by decide) ?_
              exact ev_iret rfl (by decide) dX6_makes_227
            · refine ev_iconst (v := nI 0) dX6_makes_212 (by decide) ?_
              exact ev_iret rfl (by decide) dX6_makes_213
    · replace h := h.2 c40
      refine ev_iload_n dX6_makes_43 rfl rfl ?_
      refine ev_bipush (v := nI 100) dX6_makes_44 (by decide) ?_
      refine ev_isub dX6_makes_46 ?_
      refine ev_iconst (v := nI 4) dX6_makes_47 (by decide) ?_
      refine ev_idiv dX6_makes_48 (by decide) ?_
      refine ev_istore (L' := [some (.ref 28), some (.ref a), some (.int v2), some (.int v3), some (.int v4), some (.int v5), some (.int ((v2 - (nI 100)) / (nI 4))), none, none]) dX6_makes_49 (ng_lt rfl) rfl ?_
      refine ev_iload_n dX6_makes_51 rfl rfl ?_
      refine ev_bipush (v := nI 100) dX6_makes_52 (by decide) ?_
      refine ev_isub dX6_makes_54 ?_
      refine ev_iconst (v := nI 4) dX6_makes_55 (by decide) ?_
      refine ev_irem dX6_makes_56 (by decide) ?_
      refine ev_istore (L' := [some (.ref 28), some (.ref a), some (.int v2), some (.int v3), some (.int v4), some (.int v5), some (.int ((v2 - (nI 100)) / (nI 4))), some (.int ((v2 - (nI 100)) - (v2 - (nI 100)) / (nI 4) * (nI 4))), none]) dX6_makes_57 (ng_lt rfl) rfl ?_
      refine ev_iload dX6_makes_59 rfl ?_
      refine ev_aload_n dX6_makes_61 rfl rfl rfl ?_
      refine ev_bipush (v := nI 12) dX6_makes_62 (by decide) ?_
      refine ev_iald (ML_ga V) (vp_in_nI (by decide) (by decide)) dX6_makes_64 ?_
      refine bk_icmp_ge (tgt := 112) dX6_makes_65 (by decide) (fun c65 => ?_) (fun c65 => ?_)
      · refine ev_iconst (v := nI 0) dX6_makes_112 (by decide) ?_
        exact ev_iret rfl (by decide) dX6_makes_113
      · replace h := h c65
        refine ev_iload dX6_makes_68 rfl ?_
        refine ev_aload_n dX6_makes_70 rfl rfl rfl ?_
        refine ev_bipush (v := nI 11) dX6_makes_71 (by decide) ?_
        refine ev_iald (ML_ga V) (vp_in_nI (by decide) (by decide)) dX6_makes_73 ?_
        refine bk_icmp_ge (tgt := 112) dX6_makes_74 (by decide) (fun c74 => ?_) (fun c74 => ?_)
        · refine ev_iconst (v := nI 0) dX6_makes_112 (by decide) ?_
          exact ev_iret rfl (by decide) dX6_makes_113
        · replace h := h c74
          refine ev_aload_n dX6_makes_77 rfl rfl rfl ?_
          refine ev_iload dX6_makes_78 rfl ?_
          refine bk_callS (As := [.int ((v2 - (nI 100)) - (v2 - (nI 100)) / (nI 4) * (nI 4))]) (st := [.ref a]) (st2 := [.int (f_X6_house ((v2 - (nI 100)) - (v2 - (nI 100)) / (nI 4) * (nI 4))), .ref a]) (M2 := hm w (upd F 24 (nI 0)) lg) ok_X6_house lk_RX6_75 (ng_rok.of rfl rfl) rfl rfl rfl rfl dX6_makes_80 (m_X6_house trivial) rfl rfl ?_
          refine ev_iconst (v := nI 3) dX6_makes_83 (by decide) ?_
          refine ev_iadd dX6_makes_84 ?_
          have hi85 := h.1
          replace h := h.2
          refine ev_iald (ML_ga V) hi85 dX6_makes_85 ?_
          refine bk_if_eq (tgt := 112) dX6_makes_86 (by decide) (fun c86 => ?_) (fun c86 => ?_)
          · refine ev_iconst (v := nI 0) dX6_makes_112 (by decide) ?_
            exact ev_iret rfl (by decide) dX6_makes_113
          · replace h := h c86
            refine ev_aload_n dX6_makes_89 rfl rfl rfl ?_
            refine ev_iconst (v := nI 4) dX6_makes_90 (by decide) ?_
            refine ev_iload dX6_makes_91 rfl ?_
            have hs93 := h.1
            replace h := h.2
            refine bk_callS (As := [.ref a, .int (nI 4), .int ((v2 - (nI 100)) / (nI 4))]) (st := []) (st2 := [.int (f_X6_has w (nI 4) ((v2 - (nI 100)) / (nI 4)))]) (M2 := hm w (upd F 24 (nI 0)) lg) ok_X6_has lk_RX6_165 (ng_rok.of rfl rfl) rfl rfl rfl rfl dX6_makes_93 (m_X6_has (ML_R V) hs93) rfl rfl ?_
            refine bk_if_eq (tgt := 112) dX6_makes_96 (by decide) (fun c96 => ?_) (fun c96 => ?_)
            · refine ev_iconst (v := nI 0) dX6_makes_112 (by decide) ?_
              exact ev_iret rfl (by decide) dX6_makes_113
            · replace h := h c96
              refine ev_aload_n dX6_makes_99 rfl rfl rfl ?_
              refine ev_iload dX6_makes_100 rfl ?_
              refine bk_callS (As := [.int ((v2 - (nI 100)) / (nI 4))]) (st := [.ref a]) (st2 := [.int (f_X6_note ((v2 - (nI 100)) / (nI 4))), .ref a]) (M2 := hm w (upd F 24 (nI 0)) lg) ok_X6_note lk_RX6_71 (ng_rok.of rfl rfl) rfl rfl rfl rfl dX6_makes_102 (m_X6_note trivial) rfl rfl ?_
              refine ev_iconst (v := nI 0) dX6_makes_105 (by decide) ?_
              refine ev_iadd dX6_makes_106 ?_
              have hi107 := h.1
              replace h := h.2
              refine ev_iald (ML_ga V) hi107 dX6_makes_107 ?_
              refine ev_iconst (v := nI 1) dX6_makes_108 (by decide) ?_
              refine bk_icmp_ne (tgt := 114) dX6_makes_109 (by decide) (fun c109 => ?_) (fun c109 => ?_)
              · replace h := h c109
                refine ev_aload_n dX6_makes_114 rfl rfl rfl ?_
                refine ev_aload_n dX6_makes_115 rfl rfl rfl ?_
                refine ev_aload_n dX6_makes_116 rfl rfl rfl ?_
                refine ev_iconst (v := nI 4) dX6_makes_117 (by decide) ?_
                refine ev_iload dX6_makes_118 rfl ?_
                refine ev_iload dX6_makes_120 rfl ?_
                refine ev_iload dX6_makes_122 rfl ?_
                have hs124 := h.1
                replace h := h.2
                refine bk_callV (As := [.ref a, .int (nI 4), .int ((v2 - (nI 100)) - (v2 - (nI 100)) / (nI 4) * (nI 4)), .int ((v2 - (nI 100)) / (nI 4)), .int v5]) (st := [.ref 28]) (st2 := [.int ((f_X6_shown w (upd F 24 (nI 0)) lg (nI 4) ((v2 - (nI 100)) - (v2 - (nI 100)) / (nI 4) * (nI 4)) ((v2 - (nI 100)) / (nI 4)) v5).2.2.2), .ref 28]) (M2 := hm ((f_X6_shown w (upd F 24 (nI 0)) lg (nI 4) ((v2 - (nI 100)) - (v2 - (nI 100)) / (nI 4) * (nI 4)) ((v2 - (nI 100)) / (nI 4)) v5).1) ((f_X6_shown w (upd F 24 (nI 0)) lg (nI 4) ((v2 - (nI 100)) - (v2 - (nI 100)) / (nI 4) * (nI 4)) ((v2 - (nI 100)) / (nI 4)) v5).2.1) ((f_X6_shown w (upd F 24 (nI 0)) lg (nI 4) ((v2 - (nI 100)) - (v2 - (nI 100)) / (nI 4) * (nI 4)) ((v2 - (nI 100)) / (nI 4)) v5).2.2.1)) ok_X6_shown lk_RX6_141 (ng_rok.of rfl rfl) (ML_g28 V) rfl rfl rfl rfl rfl rfl dX6_makes_124 (m_X6_shown V hs124) rfl rfl ?_
                exact ev_sub (e_X6_makes_127 V h) (sub_n (sub_s (sub_n (sub_s (sub_s (sub_n (sub_s (sub_s (sub_n sub_e)))))))))
              · refine ev_iconst (v := nI 0) dX6_makes_112 (by decide) ?_
                exact ev_iret rfl (by decide) dX6_makes_113
  · replace h := h.2 c8
    refine ev_iload_n dX6_makes_11 rfl rfl ?_
    refine ev_aload_n dX6_makes_12 rfl rfl rfl ?_
    refine ev_bipush (v := nI 14) dX6_makes_13 (by decide) ?_
    refine ev_iald (ML_ga V) (vp_in_nI (by decide) (by decide)) dX6_makes_15 ?_
    refine bk_icmp_lt (tgt := 21) dX6_makes_16 (by decide) (fun c16 => ?_) (fun c16 => ?_)
    · replace h := h c16
      refine ev_aload_n dX6_makes_21 rfl rfl rfl ?_
      refine ev_aload_n dX6_makes_22 rfl rfl rfl ?_
      refine ev_iload_n dX6_makes_23 rfl rfl ?_
      have hs24 := h
      refine bk_callV (As := [.ref a, .int v2]) (st := []) (st2 := [.int ((f_X6_comes w (upd F 24 (nI 0)) lg v2).2.2.2)]) (M2 := hm ((f_X6_comes w (upd F 24 (nI 0)) lg v2).1) ((f_X6_comes w (upd F 24 (nI 0)) lg v2).2.1) ((f_X6_comes w (upd F 24 (nI 0)) lg v2).2.2.1)) ok_X6_comes lk_RX6_155 (ng_rok.of rfl rfl) (ML_g28 V) rfl rfl rfl rfl rfl rfl dX6_makes_24 (m_X6_comes V hs24) rfl rfl ?_
      refine ev_istore (L' := [some (.ref 28), some (.ref a), some (.int v2), some (.int v3), some (.int v4), some (.int v5), some (.int ((f_X6_comes w (upd F 24 (nI 0)) lg v2).2.2.2)), none, none]) dX6_makes_27 (ng_lt rfl) rfl ?_
      refine ev_iconst (v := nI 1) dX6_makes_29 (by decide) ?_
      exact ev_iret rfl (by decide) dX6_makes_30
    · refine ev_iconst (v := nI 0) dX6_makes_19 (by decide) ?_
      exact ev_iret rfl (by decide) dX6_makes_20
theorem m_X6_makes {G : ng_GG} {hm : (Nat → Int32) → (Nat → Int32) → (Nat → Int32) → ng_AM} {a : Nat} (V : ng_ML hm a) {w : Nat → Int32} {F : Nat → Int32} {lg : Nat → Int32} {v2 : Int32} {v3 : Int32} {v4 : Int32} {v5 : Int32} (h : s_X6_makes w F lg v2 v3 v4 v5)  : ng_Ev G md_X6_makes 0 (ng_en 9 [.ref 28, .ref a, .int v2, .int v3, .int v4, .int v5]) [] (hm w F lg) (K_X6_makes hm  (f_X6_makes w F lg v2 v3 v4 v5)) := e_X6_makes V h 
def K_X6_copy_ (hc : (Nat → Int32) → (Nat → Int32) → ng_AM) (fr : Nat → Int32) (r : (Nat → Int32)) : ng_RR := (none, hc fr (r))
def f_X6_copy__3  : Nat → (Nat → Int32) → (Nat → Int32) → (Nat) → (Nat) → Int32 → Int32 → Int32 → ((Nat → Int32))
  | 0, _, fo, _, _, _, _, _ => fo
  | n + 1, fr, fo, nn, oo, v1, v3, v4 => (if (nI 527) ≤ v4 then fo else f_X6_copy__3 n fr (upd fo (v3 + v4).toNatClampNeg (fr (v1 + v4).toNatClampNeg)) nn oo v1 v3 (v4 + nI 1))
def s_X6_copy__3  : Nat → (Nat → Int32) → (Nat → Int32) → (Nat) → (Nat) → Int32 → Int32 → Int32 → Prop
  | 0, _, _, _, _, _, _, _ => False
  | n + 1, fr, fo, nn, oo, v1, v3, v4 => (¬ (nI 527) ≤ v4 → (vp_in (v1 + v4) nn ∧ (vp_in (v3 + v4) oo ∧ s_X6_copy__3 n fr (upd fo (v3 + v4).toNatClampNeg (fr (v1 + v4).toNatClampNeg)) nn oo v1 v3 (v4 + nI 1))))
set_option maxRecDepth 100000 in
set_option maxHeartbeats 4000000 in
theorem e_X6_copy__3 {G : ng_GG} {hc : (Nat → Int32) → (Nat → Int32) → ng_AM} {a : Nat} {b : Nat} {nn : Nat} {oo : Nat} (V : ng_CL hc a b nn oo)  : ∀ (n : Nat) (fr : Nat → Int32) (fo : Nat → Int32) (v1 : Int32) (v3 : Int32) (v4 : Int32), s_X6_copy__3  n fr fo nn oo v1 v3 v4 → ng_Ev G md_X6_copy_ 3 [some (.ref a), some (.int v1), some (.ref b), some (.int v3), some (.int v4)] [] (hc fr fo) (K_X6_copy_ hc fr (f_X6_copy__3  n fr fo nn oo v1 v3 v4)) := by
  intro n
  induction n with
  | zero => intro fr fo v1 v3 v4 h; exact False.elim h
  | succ n ih =>
    intro fr fo v1 v3 v4 h 
    rw [s_X6_copy__3] at h
    rw [f_X6_copy__3]
    refine ev_iload dX6_copy__3 rfl ?_
    refine ev_sipush (v := nI 527) dX6_copy__5 (by decide) ?_
    refine bk_icmp_ge (tgt := 29) dX6_copy__8 (by decide) (fun c8 => ?_) (fun c8 => ?_)
    · exact ev_vret rfl dX6_copy__29
    · replace h := h c8
      refine ev_aload_n dX6_copy__11 rfl rfl rfl ?_
      refine ev_iload_n dX6_copy__12 rfl rfl ?_
      refine ev_iload dX6_copy__13 rfl ?_
      refine ev_iadd dX6_copy__15 ?_
      refine ev_aload_n dX6_copy__16 rfl rfl rfl ?_
      refine ev_iload_n dX6_copy__17 rfl rfl ?_
      refine ev_iload dX6_copy__18 rfl ?_
      refine ev_iadd dX6_copy__20 ?_
      have hi21 := h.1
      replace h := h.2
      refine ev_iald (CL_ga V) hi21 dX6_copy__21 ?_
      have hi22 := h.1
      replace h := h.2
      refine ev_iast (CL_gb V) hi22 (CL_sb V) dX6_copy__22 ?_
      refine ev_iinc (v := v4 + nI 1) (L' := [some (.ref a), some (.int v1), some (.ref b), some (.int v3), some (.int (v4 + nI 1))]) dX6_copy__23 rfl (by rfl) rfl ?_
      refine ev_goto (tgt := 3) dX6_copy__26 (by decide) ?_
      exact ev_sub (ih fr (upd fo (v3 + v4).toNatClampNeg (fr (v1 + v4).toNatClampNeg)) v1 v3 (v4 + nI 1) h) (sub_s (sub_s (sub_s (sub_s (sub_s sub_e)))))
def f_X6_copy_  (fr : Nat → Int32) (fo : Nat → Int32) (nn : Nat) (oo : Nat) (v1 : Int32) (v3 : Int32) : (Nat → Int32) := f_X6_copy__3 ng_F fr fo nn oo v1 v3 (nI 0)
def s_X6_copy_  (fr : Nat → Int32) (fo : Nat → Int32) (nn : Nat) (oo : Nat) (v1 : Int32) (v3 : Int32) : Prop := s_X6_copy__3 ng_F fr fo nn oo v1 v3 (nI 0)
set_option maxRecDepth 100000 in
set_option maxHeartbeats 4000000 in
theorem e_X6_copy_ {G : ng_GG} {hc : (Nat → Int32) → (Nat → Int32) → ng_AM} {a : Nat} {b : Nat} {nn : Nat} {oo : Nat} (V : ng_CL hc a b nn oo) {fr : Nat → Int32} {fo : Nat → Int32}  {v1 : Int32} {v3 : Int32} (h : s_X6_copy_  fr fo nn oo v1 v3)  : ng_Ev G md_X6_copy_ 0 [some (.ref a), some (.int v1), some (.ref b), some (.int v3), none] [] (hc fr fo) (K_X6_copy_ hc fr (f_X6_copy_  fr fo nn oo v1 v3)) := by
  unfold s_X6_copy_ at h
  unfold f_X6_copy_
  refine ev_iconst (v := nI 0) dX6_copy__0 (by decide) ?_
  refine ev_istore (L' := [some (.ref a), some (.int v1), some (.ref b), some (.int v3), some (.int (nI 0))]) dX6_copy__1 (ng_lt rfl) rfl ?_
  exact ev_sub (e_X6_copy__3 V ng_F fr fo v1 v3 (nI 0) h) (sub_s (sub_s (sub_s (sub_s (sub_s sub_e)))))
theorem m_X6_copy_ {G : ng_GG} {hc : (Nat → Int32) → (Nat → Int32) → ng_AM} {a : Nat} {b : Nat} {nn : Nat} {oo : Nat} (V : ng_CL hc a b nn oo) {fr : Nat → Int32} {fo : Nat → Int32} {v1 : Int32} {v3 : Int32} (h : s_X6_copy_ fr fo nn oo v1 v3)  : ng_Ev G md_X6_copy_ 0 (ng_en 5 [.ref a, .int v1, .ref b, .int v3]) [] (hc fr fo) (K_X6_copy_ hc fr (f_X6_copy_ fr fo nn oo v1 v3)) := e_X6_copy_ V h 
