def K_J9_floorMod_7cf53 (M : ng_AM) (r : Int32) : ng_RR := (some (.int (r)), M)
def f_J9_floorMod_7cf53   (v0 : Int32) (v1 : Int32) : Int32 := (if 0 ≤ (v0 ^^^ v1) then (v0 - v0 / v1 * v1) else (if (v0 - v0 / v1 * v1) = 0 then (v0 - v0 / v1 * v1) else ((v0 - v0 / v1 * v1) + v1)))
def s_J9_floorMod_7cf53   (v0 : Int32) (v1 : Int32) : Prop := ¬ v1 = 0
set_option maxRecDepth 100000 in
set_option maxHeartbeats 4000000 in
theorem e_J9_floorMod_7cf53 {G : ng_GG} {M : ng_AM}   {v0 : Int32} {v1 : Int32} (h : s_J9_floorMod_7cf53  v0 v1)  : ng_Ev G md_J9_floorMod_7cf53 0 [some (.int v0), some (.int v1), none] [] (M) (K_J9_floorMod_7cf53 M (f_J9_floorMod_7cf53  v0 v1)) := by
  unfold s_J9_floorMod_7cf53 at h
  unfold f_J9_floorMod_7cf53
  refine ev_iload_n dJ9_floorMod_7cf53_0 rfl rfl ?_
  refine ev_iload_n dJ9_floorMod_7cf53_1 rfl rfl ?_
  have hz2 := h
  refine ev_irem dJ9_floorMod_7cf53_2 hz2 ?_
  refine ev_istore_n (L' := [some (.int v0), some (.int v1), some (.int (v0 - v0 / v1 * v1))]) dJ9_floorMod_7cf53_3 rfl (ng_lt rfl) rfl ?_
  refine ev_iload_n dJ9_floorMod_7cf53_4 rfl rfl ?_
  refine ev_iload_n dJ9_floorMod_7cf53_5 rfl rfl ?_
  refine ev_ixor dJ9_floorMod_7cf53_6 ?_
  refine bk_if_ge (tgt := 18) dJ9_floorMod_7cf53_7 (by decide) (fun c7 => ?_) (fun c7 => ?_)
  · refine ev_iload_n dJ9_floorMod_7cf53_18 rfl rfl ?_
    exact ev_iret rfl rfl dJ9_floorMod_7cf53_19
  · refine ev_iload_n dJ9_floorMod_7cf53_10 rfl rfl ?_
    refine bk_if_eq (tgt := 18) dJ9_floorMod_7cf53_11 (by decide) (fun c11 => ?_) (fun c11 => ?_)
    · refine ev_iload_n dJ9_floorMod_7cf53_18 rfl rfl ?_
      exact ev_iret rfl rfl dJ9_floorMod_7cf53_19
    · refine ev_iload_n dJ9_floorMod_7cf53_14 rfl rfl ?_
      refine ev_iload_n dJ9_floorMod_7cf53_15 rfl rfl ?_
      refine ev_iadd dJ9_floorMod_7cf53_16 ?_
      exact ev_iret rfl rfl dJ9_floorMod_7cf53_17
theorem m_J9_floorMod_7cf53 {G : ng_GG} {M : ng_AM}  {v0 : Int32} {v1 : Int32} (h : s_J9_floorMod_7cf53 v0 v1)  : ng_Ev G md_J9_floorMod_7cf53 0 (ng_en 3 [.int v0, .int v1]) [] (M) (K_J9_floorMod_7cf53 M (f_J9_floorMod_7cf53 v0 v1)) := e_J9_floorMod_7cf53  h 
def K_J9_min_7cf53 (M : ng_AM) (r : Int32) : ng_RR := (some (.int (r)), M)
def f_J9_min_7cf53   (v0 : Int32) (v1 : Int32) : Int32 := (if v1 < v0 then v1 else v0)
def s_J9_min_7cf53   (v0 : Int32) (v1 : Int32) : Prop := True
set_option maxRecDepth 100000 in
set_option maxHeartbeats 4000000 in
theorem e_J9_min_7cf53 {G : ng_GG} {M : ng_AM}   {v0 : Int32} {v1 : Int32} (h : s_J9_min_7cf53  v0 v1)  : ng_Ev G md_J9_min_7cf53 0 [some (.int v0), some (.int v1)] [] (M) (K_J9_min_7cf53 M (f_J9_min_7cf53  v0 v1)) := by
  unfold s_J9_min_7cf53 at h
  unfold f_J9_min_7cf53
  refine ev_iload_n dJ9_min_7cf53_0 rfl rfl ?_
  refine ev_iload_n dJ9_min_7cf53_1 rfl rfl ?_
  refine bk_icmp_gt (tgt := 9) dJ9_min_7cf53_2 (by decide) (fun c2 => ?_) (fun c2 => ?_)
  · refine ev_iload_n dJ9_min_7cf53_9 rfl rfl ?_
    exact ev_iret rfl rfl dJ9_min_7cf53_10
  · refine ev_iload_n dJ9_min_7cf53_5 rfl rfl ?_
    refine ev_goto (tgt := 10) dJ9_min_7cf53_6 (by decide) ?_
    exact ev_iret rfl rfl dJ9_min_7cf53_10
theorem m_J9_min_7cf53 {G : ng_GG} {M : ng_AM}  {v0 : Int32} {v1 : Int32} (h : s_J9_min_7cf53 v0 v1)  : ng_Ev G md_J9_min_7cf53 0 (ng_en 2 [.int v0, .int v1]) [] (M) (K_J9_min_7cf53 M (f_J9_min_7cf53 v0 v1)) := e_J9_min_7cf53  h 
def K_X5_within (M : ng_AM) (r : Int32) : ng_RR := (some (.int (r)), M)
def f_X5_within   (v0 : Int32) (v1 : Int32) (v2 : Int32) : Int32 := (if v0 < v1 then nI 0 else (if v2 < v0 then nI 0 else nI 1))
def s_X5_within   (v0 : Int32) (v1 : Int32) (v2 : Int32) : Prop := True
set_option maxRecDepth 100000 in
set_option maxHeartbeats 4000000 in
theorem e_X5_within {G : ng_GG} {M : ng_AM}   {v0 : Int32} {v1 : Int32} {v2 : Int32} (h : s_X5_within  v0 v1 v2)  : ng_Ev G md_X5_within 0 [some (.int v0), some (.int v1), some (.int v2)] [] (M) (K_X5_within M (f_X5_within  v0 v1 v2)) := by
  unfold s_X5_within at h
  unfold f_X5_within
  refine ev_iload_n dX5_within_0 rfl rfl ?_
  refine ev_iload_n dX5_within_1 rfl rfl ?_
  refine bk_icmp_lt (tgt := 14) dX5_within_2 (by decide) (fun c2 => ?_) (fun c2 => ?_)
  · refine ev_iconst (v := nI 0) dX5_within_14 (by decide) ?_
    exact ev_iret rfl (by decide) dX5_within_15
  · refine ev_iload_n dX5_within_5 rfl rfl ?_
    refine ev_iload_n dX5_within_6 rfl rfl ?_
    refine bk_icmp_gt (tgt := 14) dX5_within_7 (by decide) (fun c7 => ?_) (fun c7 => ?_)
    · refine ev_iconst (v := nI 0) dX5_within_14 (by decide) ?_
      exact ev_iret rfl (by decide) dX5_within_15
    · refine ev_iconst (v := nI 1) dX5_within_10 (by decide) ?_
      refine ev_goto (tgt := 15) dX5_within_11 (by decide) ?_
      exact ev_iret rfl (by decide) dX5_within_15
theorem m_X5_within {G : ng_GG} {M : ng_AM}  {v0 : Int32} {v1 : Int32} {v2 : Int32} (h : s_X5_within v0 v1 v2)  : ng_Ev G md_X5_within 0 (ng_en 3 [.int v0, .int v1, .int v2]) [] (M) (K_X5_within M (f_X5_within v0 v1 v2)) := e_X5_within  h 
def K_X5_isBrowser (M : ng_AM) (r : Int32) : ng_RR := (some (.int (r)), M)
def f_X5_isBrowser   (v0 : Int32) : Int32 := (if v0 < 0 then nI 0 else (if (nI 5) ≤ v0 then nI 0 else nI 1))
def s_X5_isBrowser   (v0 : Int32) : Prop := True
set_option maxRecDepth 100000 in
set_option maxHeartbeats 4000000 in
theorem e_X5_isBrowser {G : ng_GG} {M : ng_AM}   {v0 : Int32} (h : s_X5_isBrowser  v0)  : ng_Ev G md_X5_isBrowser 0 [some (.int v0)] [] (M) (K_X5_isBrowser M (f_X5_isBrowser  v0)) := by
  unfold s_X5_isBrowser at h
  unfold f_X5_isBrowser
  refine ev_iload_n dX5_isBrowser_0 rfl rfl ?_
  refine bk_if_lt (tgt := 13) dX5_isBrowser_1 (by decide) (fun c1 => ?_) (fun c1 => ?_)
  · refine ev_iconst (v := nI 0) dX5_isBrowser_13 (by decide) ?_
    exact ev_iret rfl (by decide) dX5_isBrowser_14
  · refine ev_iload_n dX5_isBrowser_4 rfl rfl ?_
    refine ev_iconst (v := nI 5) dX5_isBrowser_5 (by decide) ?_
    refine bk_icmp_ge (tgt := 13) dX5_isBrowser_6 (by decide) (fun c6 => ?_) (fun c6 => ?_)
    · refine ev_iconst (v := nI 0) dX5_isBrowser_13 (by decide) ?_
      exact ev_iret rfl (by decide) dX5_isBrowser_14
    · refine ev_iconst (v := nI 1) dX5_isBrowser_9 (by decide) ?_
      refine ev_goto (tgt := 14) dX5_isBrowser_10 (by decide) ?_
      exact ev_iret rfl (by decide) dX5_isBrowser_14
theorem m_X5_isBrowser {G : ng_GG} {M : ng_AM}  {v0 : Int32} (h : s_X5_isBrowser v0)  : ng_Ev G md_X5_isBrowser 0 (ng_en 1 [.int v0]) [] (M) (K_X5_isBrowser M (f_X5_isBrowser v0)) := e_X5_isBrowser  h 
def K_X5_isRight (M : ng_AM) (r : Int32) : ng_RR := (some (.int (r)), M)
def f_X5_isRight   (v0 : Int32) : Int32 := (if v0 < 0 then nI 0 else (if (nI 8) ≤ v0 then nI 0 else nI 1))
def s_X5_isRight   (v0 : Int32) : Prop := True
set_option maxRecDepth 100000 in
set_option maxHeartbeats 4000000 in
theorem e_X5_isRight {G : ng_GG} {M : ng_AM}   {v0 : Int32} (h : s_X5_isRight  v0)  : ng_Ev G md_X5_isRight 0 [some (.int v0)] [] (M) (K_X5_isRight M (f_X5_isRight  v0)) := by
  unfold s_X5_isRight at h
  unfold f_X5_isRight
  refine ev_iload_n dX5_isRight_0 rfl rfl ?_
  refine bk_if_lt (tgt := 14) dX5_isRight_1 (by decide) (fun c1 => ?_) (fun c1 => ?_)
  · refine ev_iconst (v := nI 0) dX5_isRight_14 (by decide) ?_
    exact ev_iret rfl (by decide) dX5_isRight_15
  · refine ev_iload_n dX5_isRight_4 rfl rfl ?_
    refine ev_bipush (v := nI 8) dX5_isRight_5 (by decide) ?_
    refine bk_icmp_ge (tgt := 14) dX5_isRight_7 (by decide) (fun c7 => ?_) (fun c7 => ?_)
    · refine ev_iconst (v := nI 0) dX5_isRight_14 (by decide) ?_
      exact ev_iret rfl (by decide) dX5_isRight_15
    · refine ev_iconst (v := nI 1) dX5_isRight_10 (by decide) ?_
      refine ev_goto (tgt := 15) dX5_isRight_11 (by decide) ?_
      exact ev_iret rfl (by decide) dX5_isRight_15
theorem m_X5_isRight {G : ng_GG} {M : ng_AM}  {v0 : Int32} (h : s_X5_isRight v0)  : ng_Ev G md_X5_isRight 0 (ng_en 1 [.int v0]) [] (M) (K_X5_isRight M (f_X5_isRight v0)) := e_X5_isRight  h 
def K_X5_needs (M : ng_AM) (r : Int32) : ng_RR := (some (.int (r)), M)
def f_X5_needs   (v0 : Int32) : Int32 := (if v0 < 0 then nI 0 else (if (8 : Int32) ≤ v0 then nI 0 else (ng_N8 v0.toNatClampNeg)))
def s_X5_needs   (v0 : Int32) : Prop := (¬ v0 < 0 → (¬ (8 : Int32) ≤ v0 → vp_in v0 8))
set_option maxRecDepth 100000 in
set_option maxHeartbeats 4000000 in
theorem e_X5_needs {G : ng_GG} {M : ng_AM}   {v0 : Int32} (h : s_X5_needs  v0)  : ng_Ev G md_X5_needs 0 [some (.int v0)] [] (M) (K_X5_needs M (f_X5_needs  v0)) := by
  unfold s_X5_needs at h
  unfold f_X5_needs
  refine ev_iload_n dX5_needs_0 rfl rfl ?_
  refine bk_if_lt (tgt := 20) dX5_needs_1 (by decide) (fun c1 => ?_) (fun c1 => ?_)
  · refine ev_iconst (v := nI 0) dX5_needs_20 (by decide) ?_
    exact ev_iret rfl rfl dX5_needs_21
  · replace h := h c1
    refine ev_iload_n dX5_needs_4 rfl rfl ?_
    refine ev_gets5 fl_RX5_290 dX5_needs_5 ?_
    refine ev_tlen5 dX5_needs_8 ?_
    refine bk_icmp_ge (tgt := 20) dX5_needs_9 (by decide) (fun c9 => ?_) (fun c9 => ?_)
    · refine ev_iconst (v := nI 0) dX5_needs_20 (by decide) ?_
      exact ev_iret rfl rfl dX5_needs_21
    · replace h := h c9
      refine ev_gets5 fl_RX5_290 dX5_needs_12 ?_
      refine ev_iload_n dX5_needs_15 rfl rfl ?_
      have hi16 := h
      refine ev_tld5 hi16 dX5_needs_16 ?_
      refine ev_goto (tgt := 21) dX5_needs_17 (by decide) ?_
      exact ev_iret rfl rfl dX5_needs_21
theorem m_X5_needs {G : ng_GG} {M : ng_AM}  {v0 : Int32} (h : s_X5_needs v0)  : ng_Ev G md_X5_needs 0 (ng_en 1 [.int v0]) [] (M) (K_X5_needs M (f_X5_needs v0)) := e_X5_needs  h 
def K_X2_on (M : ng_AM) (r : Int32) : ng_RR := (some (.int (r)), M)
def f_X2_on  (C : Nat → Int32) (v1 : Int32) : Int32 := (if (((C 7) >>> (v1 &&& 31)) &&& (nI 1)) = (nI 1) then nI 1 else nI 0)
def s_X2_on  (C : Nat → Int32) (v1 : Int32) : Prop := True
set_option maxRecDepth 100000 in
set_option maxHeartbeats 4000000 in
theorem e_X2_on {G : ng_GG} {M : ng_AM} {C : Nat → Int32} {off : Nat → Int32} {dear : Nat → Int32} {proved : Nat → Int32} (V : ng_RS M C off dear proved)   {v1 : Int32} (h : s_X2_on  C v1)  : ng_Ev G md_X2_on 0 [some (.ref 1), some (.int v1)] [] (M) (K_X2_on M (f_X2_on  C v1)) := by
  unfold s_X2_on at h
  unfold f_X2_on
  refine ev_aload_n dX2_on_0 rfl rfl rfl ?_
  refine ev_get 2 7 fl_RX2_33 (RS_g1 V) rfl dX2_on_1 ?_
  refine ev_iload_n dX2_on_4 rfl rfl ?_
  refine ev_ishr dX2_on_5 ?_
  refine ev_iconst (v := nI 1) dX2_on_6 (by decide) ?_
  refine ev_iand dX2_on_7 ?_
  refine ev_iconst (v := nI 1) dX2_on_8 (by decide) ?_
  refine bk_icmp_ne (tgt := 16) dX2_on_9 (by decide) (fun c9 => ?_) (fun c9 => ?_)
  · refine ev_iconst (v := nI 0) dX2_on_16 (by decide) ?_
    exact ev_iret rfl (by decide) dX2_on_17
  · refine ev_iconst (v := nI 1) dX2_on_12 (by decide) ?_
    refine ev_goto (tgt := 17) dX2_on_13 (by decide) ?_
    exact ev_iret rfl (by decide) dX2_on_17
theorem m_X2_on {G : ng_GG} {M : ng_AM} {C : Nat → Int32} {off : Nat → Int32} {dear : Nat → Int32} {proved : Nat → Int32} (V : ng_RS M C off dear proved)  {v1 : Int32} (h : s_X2_on C v1)  : ng_Ev G md_X2_on 0 (ng_en 2 [.ref 1, .int v1]) [] (M) (K_X2_on M (f_X2_on C v1)) := e_X2_on V h 
def K_X2_isHouse (M : ng_AM) (r : Int32) : ng_RR := (some (.int (r)), M)
def f_X2_isHouse  (C : Nat → Int32) (v1 : Int32) : Int32 := (if v1 < 0 then nI 0 else (if (C 10) ≤ v1 then nI 0 else (if (nI 4) ≤ v1 then nI 0 else nI 1)))
def s_X2_isHouse  (C : Nat → Int32) (v1 : Int32) : Prop := True
set_option maxRecDepth 100000 in
set_option maxHeartbeats 4000000 in
theorem e_X2_isHouse {G : ng_GG} {M : ng_AM} {C : Nat → Int32} {off : Nat → Int32} {dear : Nat → Int32} {proved : Nat → Int32} (V : ng_RS M C off dear proved)   {v1 : Int32} (h : s_X2_isHouse  C v1)  : ng_Ev G md_X2_isHouse 0 [some (.ref 1), some (.int v1)] [] (M) (K_X2_isHouse M (f_X2_isHouse  C v1)) := by
  unfold s_X2_isHouse at h
  unfold f_X2_isHouse
  refine ev_iload_n dX2_isHouse_0 rfl rfl ?_
  refine bk_if_lt (tgt := 21) dX2_isHouse_1 (by decide) (fun c1 => ?_) (fun c1 => ?_)
  · refine ev_iconst (v := nI 0) dX2_isHouse_21 (by decide) ?_
    exact ev_iret rfl (by decide) dX2_isHouse_22
  · refine ev_iload_n dX2_isHouse_4 rfl rfl ?_
    refine ev_aload_n dX2_isHouse_5 rfl rfl rfl ?_
    refine ev_get 2 10 fl_RX2_43 (RS_g1 V) rfl dX2_isHouse_6 ?_
    refine bk_icmp_ge (tgt := 21) dX2_isHouse_9 (by decide) (fun c9 => ?_) (fun c9 => ?_)
    · refine ev_iconst (v := nI 0) dX2_isHouse_21 (by decide) ?_
      exact ev_iret rfl (by decide) dX2_isHouse_22
    · refine ev_iload_n dX2_isHouse_12 rfl rfl ?_
      refine ev_iconst (v := nI 4) dX2_isHouse_13 (by decide) ?_
      refine bk_icmp_ge (tgt := 21) dX2_isHouse_14 (by decide) (fun c14 => ?_) (fun c14 => ?_)
      · refine ev_iconst (v := nI 0) dX2_isHouse_21 (by decide) ?_
        exact ev_iret rfl (by decide) dX2_isHouse_22
      · refine ev_iconst (v := nI 1) dX2_isHouse_17 (by decide) ?_
        refine ev_goto (tgt := 22) dX2_isHouse_18 (by decide) ?_
        exact ev_iret rfl (by decide) dX2_isHouse_22
theorem m_X2_isHouse {G : ng_GG} {M : ng_AM} {C : Nat → Int32} {off : Nat → Int32} {dear : Nat → Int32} {proved : Nat → Int32} (V : ng_RS M C off dear proved)  {v1 : Int32} (h : s_X2_isHouse C v1)  : ng_Ev G md_X2_isHouse 0 (ng_en 2 [.ref 1, .int v1]) [] (M) (K_X2_isHouse M (f_X2_isHouse C v1)) := e_X2_isHouse V h 
def K_X2_isIn (M : ng_AM) (r : Int32) : ng_RR := (some (.int (r)), M)
def f_X2_isIn  (C : Nat → Int32) (v1 : Int32) : Int32 := (if v1 < 0 then nI 0 else (if (nI 4) ≤ v1 then nI 0 else (if (((C 11) >>> (v1 &&& 31)) &&& (nI 1)) = (nI 1) then nI 1 else nI 0)))
def s_X2_isIn  (C : Nat → Int32) (v1 : Int32) : Prop := True
set_option maxRecDepth 100000 in
set_option maxHeartbeats 4000000 in
theorem e_X2_isIn {G : ng_GG} {M : ng_AM} {C : Nat → Int32} {off : Nat → Int32} {dear : Nat → Int32} {proved : Nat → Int32} (V : ng_RS M C off dear proved)   {v1 : Int32} (h : s_X2_isIn  C v1)  : ng_Ev G md_X2_isIn 0 [some (.ref 1), some (.int v1)] [] (M) (K_X2_isIn M (f_X2_isIn  C v1)) := by
  unfold s_X2_isIn at h
  unfold f_X2_isIn
  refine ev_iload_n dX2_isIn_0 rfl rfl ?_
  refine bk_if_lt (tgt := 25) dX2_isIn_1 (by decide) (fun c1 => ?_) (fun c1 => ?_)
  · refine ev_iconst (v := nI 0) dX2_isIn_25 (by decide) ?_
    exact ev_iret rfl (by decide) dX2_isIn_26
  · refine ev_iload_n dX2_isIn_4 rfl rfl ?_
    refine ev_iconst (v := nI 4) dX2_isIn_5 (by decide) ?_
    refine bk_icmp_ge (tgt := 25) dX2_isIn_6 (by decide) (fun c6 => ?_) (fun c6 => ?_)
    · refine ev_iconst (v := nI 0) dX2_isIn_25 (by decide) ?_
      exact ev_iret rfl (by decide) dX2_isIn_26
    · refine ev_aload_n dX2_isIn_9 rfl rfl rfl ?_
      refine ev_get 2 11 fl_RX2_46 (RS_g1 V) rfl dX2_isIn_10 ?_
      refine ev_iload_n dX2_isIn_13 rfl rfl ?_
      refine ev_ishr dX2_isIn_14 ?_
      refine ev_iconst (v := nI 1) dX2_isIn_15 (by decide) ?_
      refine ev_iand dX2_isIn_16 ?_
      refine ev_iconst (v := nI 1) dX2_isIn_17 (by decide) ?_
      refine bk_icmp_ne (tgt := 25) dX2_isIn_18 (by decide) (fun c18 => ?_) (fun c18 => ?_)
      · refine ev_iconst (v := nI 0) dX2_isIn_25 (by decide) ?_
        exact ev_iret rfl (by decide) dX2_isIn_26
      · refine ev_iconst (v := nI 1) dX2_isIn_21 (by decide) ?_
        refine ev_goto (tgt := 26) dX2_isIn_22 (by decide) ?_
        exact ev_iret rfl (by decide) dX2_isIn_26
theorem m_X2_isIn {G : ng_GG} {M : ng_AM} {C : Nat → Int32} {off : Nat → Int32} {dear : Nat → Int32} {proved : Nat → Int32} (V : ng_RS M C off dear proved)  {v1 : Int32} (h : s_X2_isIn C v1)  : ng_Ev G md_X2_isIn 0 (ng_en 2 [.ref 1, .int v1]) [] (M) (K_X2_isIn M (f_X2_isIn C v1)) := e_X2_isIn V h 
def K_X2_isOnce (M : ng_AM) (r : Int32) : ng_RR := (some (.int (r)), M)
def f_X2_isOnce  (C : Nat → Int32) (v1 : Int32) : Int32 := (if v1 < 0 then nI 0 else (if (nI 4) ≤ v1 then nI 0 else (if (((C 12) >>> (v1 &&& 31)) &&& (nI 1)) = (nI 1) then nI 1 else nI 0)))
def s_X2_isOnce  (C : Nat → Int32) (v1 : Int32) : Prop := True
set_option maxRecDepth 100000 in
set_option maxHeartbeats 4000000 in
theorem e_X2_isOnce {G : ng_GG} {M : ng_AM} {C : Nat → Int32} {off : Nat → Int32} {dear : Nat → Int32} {proved : Nat → Int32} (V : ng_RS M C off dear proved)   {v1 : Int32} (h : s_X2_isOnce  C v1)  : ng_Ev G md_X2_isOnce 0 [some (.ref 1), some (.int v1)] [] (M) (K_X2_isOnce M (f_X2_isOnce  C v1)) := by
  unfold s_X2_isOnce at h
  unfold f_X2_isOnce
  refine ev_iload_n dX2_isOnce_0 rfl rfl ?_
  refine bk_if_lt (tgt := 25) dX2_isOnce_1 (by decide) (fun c1 => ?_) (fun c1 => ?_)
  · refine ev_iconst (v := nI 0) dX2_isOnce_25 (by decide) ?_
    exact ev_iret rfl (by decide) dX2_isOnce_26
  · refine ev_iload_n dX2_isOnce_4 rfl rfl ?_
    refine ev_iconst (v := nI 4) dX2_isOnce_5 (by decide) ?_
    refine bk_icmp_ge (tgt := 25) dX2_isOnce_6 (by decide) (fun c6 => ?_) (fun c6 => ?_)
    · refine ev_iconst (v := nI 0) dX2_isOnce_25 (by decide) ?_
      exact ev_iret rfl (by decide) dX2_isOnce_26
    · refine ev_aload_n dX2_isOnce_9 rfl rfl rfl ?_
      refine ev_get 2 12 fl_RX2_49 (RS_g1 V) rfl dX2_isOnce_10 ?_
      refine ev_iload_n dX2_isOnce_13 rfl rfl ?_
      refine ev_ishr dX2_isOnce_14 ?_
      refine ev_iconst (v := nI 1) dX2_isOnce_15 (by decide) ?_
      refine ev_iand dX2_isOnce_16 ?_
      refine ev_iconst (v := nI 1) dX2_isOnce_17 (by decide) ?_
      refine bk_icmp_ne (tgt := 25) dX2_isOnce_18 (by decide) (fun c18 => ?_) (fun c18 => ?_)
      · refine ev_iconst (v := nI 0) dX2_isOnce_25 (by decide) ?_
        exact ev_iret rfl (by decide) dX2_isOnce_26
      · refine ev_iconst (v := nI 1) dX2_isOnce_21 (by decide) ?_
        refine ev_goto (tgt := 26) dX2_isOnce_22 (by decide) ?_
        exact ev_iret rfl (by decide) dX2_isOnce_26
theorem m_X2_isOnce {G : ng_GG} {M : ng_AM} {C : Nat → Int32} {off : Nat → Int32} {dear : Nat → Int32} {proved : Nat → Int32} (V : ng_RS M C off dear proved)  {v1 : Int32} (h : s_X2_isOnce C v1)  : ng_Ev G md_X2_isOnce 0 (ng_en 2 [.ref 1, .int v1]) [] (M) (K_X2_isOnce M (f_X2_isOnce C v1)) := e_X2_isOnce V h 
def K_X2_open (hs : (Nat → Int32) → (Nat → Int32) → (Nat → Int32) → (Nat → Int32) → ng_AM) (proved : Nat → Int32) (r : (Nat → Int32) × (Nat → Int32) × (Nat → Int32)) : ng_RR := (none, hs (r.1) (r.2.1) (r.2.2) proved)
def f_X2_open_53  (C : Nat → Int32) (off : Nat → Int32) (dear : Nat → Int32) (v1 : Int32) (t0 : Int32) (t1 : Int32) : (Nat → Int32) × (Nat → Int32) × (Nat → Int32) := ((upd (upd C 12 (t1 ||| t0)) 10 (v1 + (nI 1))), off, dear)
def s_X2_open_53  (C : Nat → Int32) (off : Nat → Int32) (dear : Nat → Int32) (v1 : Int32) (t0 : Int32) (t1 : Int32) : Prop := True
set_option maxRecDepth 100000 in
set_option maxHeartbeats 4000000 in
theorem e_X2_open_53 {G : ng_GG} {hs : (Nat → Int32) → (Nat → Int32) → (Nat → Int32) → (Nat → Int32) → ng_AM}  (V : ng_SL hs ) {C : Nat → Int32} {off : Nat → Int32} {dear : Nat → Int32} {proved : Nat → Int32}  {v1 : Int32} {t0 : Int32} {t1 : Int32} (h : s_X2_open_53  C off dear v1 t0 t1)  : ng_Ev G md_X2_open 53 [some (.ref 1), some (.int v1), none, none, none] [.int t0, .int t1, .ref 1] (hs C off dear proved) (K_X2_open hs proved (f_X2_open_53  C off dear v1 t0 t1)) := by
  unfold s_X2_open_53 at h
  unfold f_X2_open_53
  refine ev_ior dX2_open_53 ?_
  refine ev_put 2 12 fs_RX2_49 (SL_g1 V) (ng_lt rfl) rfl (SL_s1 V (C' := (upd C 12 (t1 ||| t0)))) (ng_fit_i _) dX2_open_54 ?_
  refine ev_aload_n dX2_open_57 rfl rfl rfl ?_
  refine ev_iload_n dX2_open_58 rfl rfl ?_
  refine ev_iconst (v := nI 1) dX2_open_59 (by decide) ?_
  refine ev_iadd dX2_open_60 ?_
  refine ev_put 2 10 fs_RX2_43 (SL_g1 V) (ng_lt rfl) rfl (SL_s1 V (C' := (upd (upd C 12 (t1 ||| t0)) 10 (v1 + (nI 1))))) (ng_fit_i _) dX2_open_61 ?_
  exact ev_vret rfl dX2_open_64
def f_X2_open  (C : Nat → Int32) (off : Nat → Int32) (dear : Nat → Int32) (v1 : Int32) (v2 : Int32) (v3 : Int32) (v4 : Int32) : (Nat → Int32) × (Nat → Int32) × (Nat → Int32) := (if v1 < 0 then (C, off, dear) else (if v1 < (nI 4) then (if v3 = 0 then f_X2_open_53 (upd C 11 ((C 11) ||| ((nI 1) <<< (v1 &&& 31)))) (upd off v1.toNatClampNeg v2) (upd dear v1.toNatClampNeg v4) v1 (nI 0) ((upd C 11 ((C 11) ||| ((nI 1) <<< (v1 &&& 31)))) 12) else f_X2_open_53 (upd C 11 ((C 11) ||| ((nI 1) <<< (v1 &&& 31)))) (upd off v1.toNatClampNeg v2) (upd dear v1.toNatClampNeg v4) v1 ((nI 1) <<< (v1 &&& 31)) ((upd C 11 ((C 11) ||| ((nI 1) <<< (v1 &&& 31)))) 12)) else (C, off, dear)))
def s_X2_open  (C : Nat → Int32) (off : Nat → Int32) (dear : Nat → Int32) (v1 : Int32) (v2 : Int32) (v3 : Int32) (v4 : Int32) : Prop := (¬ v1 < 0 → (v1 < (nI 4) → (vp_in v1 4 ∧ (vp_in v1 4 ∧ ((v3 = 0 → s_X2_open_53 (upd C 11 ((C 11) ||| ((nI 1) <<< (v1 &&& 31)))) (upd off v1.toNatClampNeg v2) (upd dear v1.toNatClampNeg v4) v1 (nI 0) ((upd C 11 ((C 11) ||| ((nI 1) <<< (v1 &&& 31)))) 12)) ∧ (¬ v3 = 0 → s_X2_open_53 (upd C 11 ((C 11) ||| ((nI 1) <<< (v1 &&& 31)))) (upd off v1.toNatClampNeg v2) (upd dear v1.toNatClampNeg v4) v1 ((nI 1) <<< (v1 &&& 31)) ((upd C 11 ((C 11) ||| ((nI 1) <<< (v1 &&& 31)))) 12)))))))
set_option maxRecDepth 100000 in
set_option maxHeartbeats 4000000 in
theorem e_X2_open {G : ng_GG} {hs : (Nat → Int32) → (Nat → Int32) → (Nat → Int32) → (Nat → Int32) → ng_AM}  (V : ng_SL hs ) {C : Nat → Int32} {off : Nat → Int32} {dear : Nat → Int32} {proved : Nat → Int32}  {v1 : Int32} {v2 : Int32} {v3 : Int32} {v4 : Int32} (h : s_X2_open  C off dear v1 v2 v3 v4)  : ng_Ev G md_X2_open 0 [some (.ref 1), some (.int v1), some (.int v2), some (.int v3), some (.int v4)] [] (hs C off dear proved) (K_X2_open hs proved (f_X2_open  C off dear v1 v2 v3 v4)) := by
  unfold s_X2_open at h
  unfold f_X2_open
  refine ev_iload_n dX2_open_0 rfl rfl ?_
  refine bk_if_lt (tgt := 9) dX2_open_1 (by decide) (fun c1 => ?_) (fun c1 => ?_)
  · exact ev_vret rfl dX2_open_9
  · replace h := h c1
    refine ev_iload_n dX2_open_4 rfl rfl ?_
    refine ev_iconst (v := nI 4) dX2_open_5 (by decide) ?_
    refine bk_icmp_lt (tgt := 10) dX2_open_6 (by decide) (fun c6 => ?_) (fun c6 => ?_)
    · replace h := h c6
      refine ev_aload_n dX2_open_10 rfl rfl rfl ?_
      refine ev_get 2 14 fl_RX2_55 (SL_g1 V) rfl dX2_open_11 ?_
      refine ev_iload_n dX2_open_14 rfl rfl ?_
      refine ev_iload_n dX2_open_15 rfl rfl ?_
      have hi16 := h.1
      replace h := h.2
      refine ev_iast (SL_g2 V) hi16 (SL_s2 V) dX2_open_16 ?_
      refine ev_aload_n dX2_open_17 rfl rfl rfl ?_
      refine ev_get 2 15 fl_RX2_59 (SL_g1 V) rfl dX2_open_18 ?_
      refine ev_iload_n dX2_open_21 rfl rfl ?_
      refine ev_iload dX2_open_22 rfl ?_
      have hi24 := h.1
      replace h := h.2
      refine ev_iast (SL_g3 V) hi24 (SL_s3 V) dX2_open_24 ?_
      refine ev_aload_n dX2_open_25 rfl rfl rfl ?_
      refine ev_dup dX2_open_26 rfl ?_
      refine ev_get 2 11 fl_RX2_46 (SL_g1 V) rfl dX2_open_27 ?_
      refine ev_iconst (v := nI 1) dX2_open_30 (by decide) ?_
      refine ev_iload_n dX2_open_31 rfl rfl ?_
      refine ev_ishl dX2_open_32 ?_
      refine ev_ior dX2_open_33 ?_
      refine ev_put 2 11 fs_RX2_46 (SL_g1 V) (ng_lt rfl) rfl (SL_s1 V (C' := (upd C 11 ((C 11) ||| ((nI 1) <<< (v1 &&& 31)))))) (ng_fit_i _) dX2_open_34 ?_
      refine ev_aload_n dX2_open_37 rfl rfl rfl ?_
      refine ev_dup dX2_open_38 rfl ?_
      refine ev_get 2 12 fl_RX2_49 (SL_g1 V) rfl dX2_open_39 ?_
      refine ev_iload_n dX2_open_42 rfl rfl ?_
      refine bk_if_eq (tgt := 52) dX2_open_43 (by decide) (fun c43 => ?_) (fun c43 => ?_)
      · replace h := h.1 c43
        refine ev_iconst (v := nI 0) dX2_open_52 (by decide) ?_
        exact ev_sub (e_X2_open_53 V h) (sub_s (sub_s (sub_n (sub_n (sub_n sub_e)))))
      · replace h := h.2 c43
        refine ev_iconst (v := nI 1) dX2_open_46 (by decide) ?_
        refine ev_iload_n dX2_open_47 rfl rfl ?_
        refine ev_ishl dX2_open_48 ?_
        refine ev_goto (tgt := 53) dX2_open_49 (by decide) ?_
        exact ev_sub (e_X2_open_53 V h) (sub_s (sub_s (sub_n (sub_n (sub_n sub_e)))))
    · exact ev_vret rfl dX2_open_9
theorem m_X2_open {G : ng_GG} {hs : (Nat → Int32) → (Nat → Int32) → (Nat → Int32) → (Nat → Int32) → ng_AM}  (V : ng_SL hs ) {C : Nat → Int32} {off : Nat → Int32} {dear : Nat → Int32} {proved : Nat → Int32} {v1 : Int32} {v2 : Int32} {v3 : Int32} {v4 : Int32} (h : s_X2_open C off dear v1 v2 v3 v4)  : ng_Ev G md_X2_open 0 (ng_en 5 [.ref 1, .int v1, .int v2, .int v3, .int v4]) [] (hs C off dear proved) (K_X2_open hs proved (f_X2_open C off dear v1 v2 v3 v4)) := e_X2_open V h 
def K_X0_word (M : ng_AM) (r : Int32) : ng_RR := (some (.int (r)), M)
def f_X0_word  (Dg : Nat → Int32) (dw : Nat → Int32) (v1 : Int32) (v2 : Int32) : Int32 := (if v1 < 0 then (-2) else (if (Dg 1) ≤ v1 then (-2) else (if v2 < 0 then (-2) else (if v2 < (nI 6) then (dw (((f_J9_floorMod_7cf53 (((Dg 2) - (Dg 1)) + v1) (nI 60)) * (nI 6)) + v2).toNatClampNeg) else (-2)))))
def s_X0_word  (Dg : Nat → Int32) (dw : Nat → Int32) (v1 : Int32) (v2 : Int32) : Prop := (¬ v1 < 0 → (¬ (Dg 1) ≤ v1 → (¬ v2 < 0 → (v2 < (nI 6) → (s_J9_floorMod_7cf53 (((Dg 2) - (Dg 1)) + v1) (nI 60) ∧ vp_in (((f_J9_floorMod_7cf53 (((Dg 2) - (Dg 1)) + v1) (nI 60)) * (nI 6)) + v2) 360)))))
set_option maxRecDepth 100000 in
set_option maxHeartbeats 4000000 in
theorem e_X0_word {G : ng_GG} {M : ng_AM} {Dg : Nat → Int32} {dw : Nat → Int32} (V : ng_RD M Dg dw)   {v1 : Int32} {v2 : Int32} (h : s_X0_word  Dg dw v1 v2)  : ng_Ev G md_X0_word 0 [some (.ref 5), some (.int v1), some (.int v2)] [] (M) (K_X0_word M (f_X0_word  Dg dw v1 v2)) := by
  unfold s_X0_word at h
  unfold f_X0_word
  refine ev_iload_n dX0_word_0 rfl rfl ?_
  refine bk_if_lt (tgt := 22) dX0_word_1 (by decide) (fun c1 => ?_) (fun c1 => ?_)
  · refine ev_bipush (v := (-2)) dX0_word_22 (by decide) ?_
    exact ev_iret rfl rfl dX0_word_24
  · replace h := h c1
    refine ev_iload_n dX0_word_4 rfl rfl ?_
    refine ev_aload_n dX0_word_5 rfl rfl rfl ?_
    refine ev_get 0 1 fl_RX0_15 (RD_g5 V) rfl dX0_word_6 ?_
    refine bk_icmp_ge (tgt := 22) dX0_word_9 (by decide) (fun c9 => ?_) (fun c9 => ?_)
    · refine ev_bipush (v := (-2)) dX0_word_22 (by decide) ?_
      exact ev_iret rfl rfl dX0_word_24
    · replace h := h c9
      refine ev_iload_n dX0_word_12 rfl rfl ?_
      refine bk_if_lt (tgt := 22) dX0_word_13 (by decide) (fun c13 => ?_) (fun c13 => ?_)
      · refine ev_bipush (v := (-2)) dX0_word_22 (by decide) ?_
        exact ev_iret rfl rfl dX0_word_24
      · replace h := h c13
        refine ev_iload_n dX0_word_16 rfl rfl ?_
        refine ev_bipush (v := nI 6) dX0_word_17 (by decide) ?_
        refine bk_icmp_lt (tgt := 25) dX0_word_19 (by decide) (fun c19 => ?_) (fun c19 => ?_)
        · replace h := h c19
          refine ev_aload_n dX0_word_25 rfl rfl rfl ?_
          refine ev_get 0 0 fl_RX0_11 (RD_g5 V) rfl dX0_word_26 ?_
          refine ev_aload_n dX0_word_29 rfl rfl rfl ?_
          refine ev_get 0 2 fl_RX0_19 (RD_g5 V) rfl dX0_word_30 ?_
          refine ev_aload_n dX0_word_33 rfl rfl rfl ?_
          refine ev_get 0 1 fl_RX0_15 (RD_g5 V) rfl dX0_word_34 ?_
          refine ev_isub dX0_word_37 ?_
          refine ev_iload_n dX0_word_38 rfl rfl ?_
          refine ev_iadd dX0_word_39 ?_
          refine ev_bipush (v := nI 60) dX0_word_40 (by decide) ?_
          have hs42 := h.1
          replace h := h.2
          refine bk_callS (As := [.int (((Dg 2) - (Dg 1)) + v1), .int (nI 60)]) (st := [.ref 6]) (st2 := [.int (f_J9_floorMod_7cf53 (((Dg 2) - (Dg 1)) + v1) (nI 60)), .ref 6]) (M2 := M) ok_J9_floorMod_7cf53 lk_RX0_25 (ng_rok.of rfl rfl) rfl rfl rfl rfl dX0_word_42 (m_J9_floorMod_7cf53 hs42) rfl rfl ?_
          refine ev_bipush (v := nI 6) dX0_word_45 (by decide) ?_
          refine ev_imul dX0_word_47 ?_
          refine ev_iload_n dX0_word_48 rfl rfl ?_
          refine ev_iadd dX0_word_49 ?_
          have hi50 := h
          refine ev_iald (RD_g6 V) hi50 dX0_word_50 ?_
          exact ev_iret rfl rfl dX0_word_51
        · refine ev_bipush (v := (-2)) dX0_word_22 (by decide) ?_
          exact ev_iret rfl rfl dX0_word_24
theorem m_X0_word {G : ng_GG} {M : ng_AM} {Dg : Nat → Int32} {dw : Nat → Int32} (V : ng_RD M Dg dw)  {v1 : Int32} {v2 : Int32} (h : s_X0_word Dg dw v1 v2)  : ng_Ev G md_X0_word 0 (ng_en 3 [.ref 5, .int v1, .int v2]) [] (M) (K_X0_word M (f_X0_word Dg dw v1 v2)) := e_X0_word V h 
def K_X0_add (hd : (Nat → Int32) → (Nat → Int32) → ng_AM)  (r : (Nat → Int32) × (Nat → Int32)) : ng_RR := (none, hd (r.1) (r.2))
def f_X0_add  (Dg : Nat → Int32) (dw : Nat → Int32) (v1 : Int32) (v2 : Int32) (v3 : Int32) (v4 : Int32) (v5 : Int32) (v6 : Int32) : (Nat → Int32) × (Nat → Int32) := (if (nI 60) ≤ ((upd Dg 2 ((Dg 2) + (nI 1))) 1) then ((upd Dg 2 ((Dg 2) + (nI 1))), (upd (upd (upd (upd (upd (upd dw (((f_J9_floorMod_7cf53 (Dg 2) (nI 60)) * (nI 6)) + (nI 0)).toNatClampNeg v1) (((f_J9_floorMod_7cf53 (Dg 2) (nI 60)) * (nI 6)) + (nI 1)).toNatClampNeg v2) (((f_J9_floorMod_7cf53 (Dg 2) (nI 60)) * (nI 6)) + (nI 2)).toNatClampNeg v3) (((f_J9_floorMod_7cf53 (Dg 2) (nI 60)) * (nI 6)) + (nI 3)).toNatClampNeg v4) (((f_J9_floorMod_7cf53 (Dg 2) (nI 60)) * (nI 6)) + (nI 4)).toNatClampNeg v5) (((f_J9_floorMod_7cf53 (Dg 2) (nI 60)) * (nI 6)) + (nI 5)).toNatClampNeg v6)) else ((upd (upd Dg 2 ((Dg 2) + (nI 1))) 1 (((upd Dg 2 ((Dg 2) + (nI 1))) 1) + (nI 1))), (upd (upd (upd (upd (upd (upd dw (((f_J9_floorMod_7cf53 (Dg 2) (nI 60)) * (nI 6)) + (nI 0)).toNatClampNeg v1) (((f_J9_floorMod_7cf53 (Dg 2) (nI 60)) * (nI 6)) + (nI 1)).toNatClampNeg v2) (((f_J9_floorMod_7cf53 (Dg 2) (nI 60)) * (nI 6)) + (nI 2)).toNatClampNeg v3) (((f_J9_floorMod_7cf53 (Dg 2) (nI 60)) * (nI 6)) + (nI 3)).toNatClampNeg v4) (((f_J9_floorMod_7cf53 (Dg 2) (nI 60)) * (nI 6)) + (nI 4)).toNatClampNeg v5) (((f_J9_floorMod_7cf53 (Dg 2) (nI 60)) * (nI 6)) + (nI 5)).toNatClampNeg v6)))
def s_X0_add  (Dg : Nat → Int32) (dw : Nat → Int32) (v1 : Int32) (v2 : Int32) (v3 : Int32) (v4 : Int32) (v5 : Int32) (v6 : Int32) : Prop := (s_J9_floorMod_7cf53 (Dg 2) (nI 60) ∧ (vp_in (((f_J9_floorMod_7cf53 (Dg 2) (nI 60)) * (nI 6)) + (nI 0)) 360 ∧ (vp_in (((f_J9_floorMod_7cf53 (Dg 2) (nI 60)) * (nI 6)) + (nI 1)) 360 ∧ (vp_in (((f_J9_floorMod_7cf53 (Dg 2) (nI 60)) * (nI 6)) + (nI 2)) 360 ∧ (vp_in (((f_J9_floorMod_7cf53 (Dg 2) (nI 60)) * (nI 6)) + (nI 3)) 360 ∧ (vp_in (((f_J9_floorMod_7cf53 (Dg 2) (nI 60)) * (nI 6)) + (nI 4)) 360 ∧ vp_in (((f_J9_floorMod_7cf53 (Dg 2) (nI 60)) * (nI 6)) + (nI 5)) 360))))))
set_option maxRecDepth 100000 in
set_option maxHeartbeats 4000000 in
theorem e_X0_add {G : ng_GG} {hd : (Nat → Int32) → (Nat → Int32) → ng_AM}  (V : ng_DL hd ) {Dg : Nat → Int32} {dw : Nat → Int32}  {v1 : Int32} {v2 : Int32} {v3 : Int32} {v4 : Int32} {v5 : Int32} {v6 : Int32} (h : s_X0_add  Dg dw v1 v2 v3 v4 v5 v6)  : ng_Ev G md_X0_add 0 [some (.ref 5), some (.int v1), some (.int v2), some (.int v3), some (.int v4), some (.int v5), some (.int v6), none] [] (hd Dg dw) (K_X0_add hd  (f_X0_add  Dg dw v1 v2 v3 v4 v5 v6)) := by
  unfold s_X0_add at h
  unfold f_X0_add
  refine ev_aload_n dX0_add_0 rfl rfl rfl ?_
  refine ev_get 0 2 fl_RX0_19 (DL_g5 V) rfl dX0_add_1 ?_
  refine ev_bipush (v := nI 60) dX0_add_4 (by decide) ?_
  have hs6 := h.1
  replace h := h.2
  refine bk_callS (As := [.int (Dg 2), .int (nI 60)]) (st := []) (st2 := [.int (f_J9_floorMod_7cf53 (Dg 2) (nI 60))]) (M2 := hd Dg dw) ok_J9_floorMod_7cf53 lk_RX0_25 (ng_rok.of rfl rfl) rfl rfl rfl rfl dX0_add_6 (m_J9_floorMod_7cf53 hs6) rfl rfl ?_
  refine ev_bipush (v := nI 6) dX0_add_9 (by decide) ?_
  refine ev_imul dX0_add_11 ?_
  refine ev_istore (L' := [some (.ref 5), some (.int v1), some (.int v2), some (.int v3), some (.int v4), some (.int v5), some (.int v6), some (.int ((f_J9_floorMod_7cf53 (Dg 2) (nI 60)) * (nI 6)))]) dX0_add_12 (ng_lt rfl) rfl ?_
  refine ev_aload_n dX0_add_14 rfl rfl rfl ?_
  refine ev_get 0 0 fl_RX0_11 (DL_g5 V) rfl dX0_add_15 ?_
  refine ev_iload dX0_add_18 rfl ?_
  refine ev_iconst (v := nI 0) dX0_add_20 (by decide) ?_
  refine ev_iadd dX0_add_21 ?_
  refine ev_iload_n dX0_add_22 rfl rfl ?_
  have hi23 := h.1
  replace h := h.2
  refine ev_iast (DL_g6 V) hi23 (DL_s6 V) dX0_add_23 ?_
  refine ev_aload_n dX0_add_24 rfl rfl rfl ?_
  refine ev_get 0 0 fl_RX0_11 (DL_g5 V) rfl dX0_add_25 ?_
  refine ev_iload dX0_add_28 rfl ?_
  refine ev_iconst (v := nI 1) dX0_add_30 (by decide) ?_
  refine ev_iadd dX0_add_31 ?_
  refine ev_iload_n dX0_add_32 rfl rfl ?_
  have hi33 := h.1
  replace h := h.2
  refine ev_iast (DL_g6 V) hi33 (DL_s6 V) dX0_add_33 ?_
  refine ev_aload_n dX0_add_34 rfl rfl rfl ?_
  refine ev_get 0 0 fl_RX0_11 (DL_g5 V) rfl dX0_add_35 ?_
  refine ev_iload dX0_add_38 rfl ?_
  refine ev_iconst (v := nI 2) dX0_add_40 (by decide) ?_
  refine ev_iadd dX0_add_41 ?_
  refine ev_iload_n dX0_add_42 rfl rfl ?_
  have hi43 := h.1
  replace h := h.2
  refine ev_iast (DL_g6 V) hi43 (DL_s6 V) dX0_add_43 ?_
  refine ev_aload_n dX0_add_44 rfl rfl rfl ?_
  refine ev_get 0 0 fl_RX0_11 (DL_g5 V) rfl dX0_add_45 ?_
  refine ev_iload dX0_add_48 rfl ?_
  refine ev_iconst (v := nI 3) dX0_add_50 (by decide) ?_
  refine ev_iadd dX0_add_51 ?_
  refine ev_iload dX0_add_52 rfl ?_
  have hi54 := h.1
  replace h := h.2
  refine ev_iast (DL_g6 V) hi54 (DL_s6 V) dX0_add_54 ?_
  refine ev_aload_n dX0_add_55 rfl rfl rfl ?_
  refine ev_get 0 0 fl_RX0_11 (DL_g5 V) rfl dX0_add_56 ?_
  refine ev_iload dX0_add_59 rfl ?_
  refine ev_iconst (v := nI 4) dX0_add_61 (by decide) ?_
  refine ev_iadd dX0_add_62 ?_
  refine ev_iload dX0_add_63 rfl ?_
  have hi65 := h.1
  replace h := h.2
  refine ev_iast (DL_g6 V) hi65 (DL_s6 V) dX0_add_65 ?_
  refine ev_aload_n dX0_add_66 rfl rfl rfl ?_
  refine ev_get 0 0 fl_RX0_11 (DL_g5 V) rfl dX0_add_67 ?_
  refine ev_iload dX0_add_70 rfl ?_
  refine ev_iconst (v := nI 5) dX0_add_72 (by decide) ?_
  refine ev_iadd dX0_add_73 ?_
  refine ev_iload dX0_add_74 rfl ?_
  have hi76 := h
  refine ev_iast (DL_g6 V) hi76 (DL_s6 V) dX0_add_76 ?_
  refine ev_aload_n dX0_add_77 rfl rfl rfl ?_
  refine ev_dup dX0_add_78 rfl ?_
  refine ev_get 0 2 fl_RX0_19 (DL_g5 V) rfl dX0_add_79 ?_
  refine ev_iconst (v := nI 1) dX0_add_82 (by decide) ?_
  refine ev_iadd dX0_add_83 ?_
  refine ev_put 0 2 fs_RX0_19 (DL_g5 V) (ng_lt rfl) rfl (DL_s5 V (Dg' := (upd Dg 2 ((Dg 2) + (nI 1))))) (ng_fit_i _) dX0_add_84 ?_
  refine ev_aload_n dX0_add_87 rfl rfl rfl ?_
  refine ev_get 0 1 fl_RX0_15 (DL_g5 V) rfl dX0_add_88 ?_
  refine ev_bipush (v := nI 60) dX0_add_91 (by decide) ?_
  refine bk_icmp_ge (tgt := 106) dX0_add_93 (by decide) (fun c93 => ?_) (fun c93 => ?_)
  · exact ev_vret rfl dX0_add_106
  · refine ev_aload_n dX0_add_96 rfl rfl rfl ?_
    refine ev_dup dX0_add_97 rfl ?_
    refine ev_get 0 1 fl_RX0_15 (DL_g5 V) rfl dX0_add_98 ?_
    refine ev_iconst (v := nI 1) dX0_add_101 (by decide) ?_
    refine ev_iadd dX0_add_102 ?_
    refine ev_put 0 1 fs_RX0_15 (DL_g5 V) (ng_lt rfl) rfl (DL_s5 V (Dg' := (upd (upd Dg 2 ((Dg 2) + (nI 1))) 1 (((upd Dg 2 ((Dg 2) + (nI 1))) 1) + (nI 1))))) (ng_fit_i _) dX0_add_103 ?_
    exact ev_vret rfl dX0_add_106
theorem m_X0_add {G : ng_GG} {hd : (Nat → Int32) → (Nat → Int32) → ng_AM}  (V : ng_DL hd ) {Dg : Nat → Int32} {dw : Nat → Int32} {v1 : Int32} {v2 : Int32} {v3 : Int32} {v4 : Int32} {v5 : Int32} {v6 : Int32} (h : s_X0_add Dg dw v1 v2 v3 v4 v5 v6)  : ng_Ev G md_X0_add 0 (ng_en 8 [.ref 5, .int v1, .int v2, .int v3, .int v4, .int v5, .int v6]) [] (hd Dg dw) (K_X0_add hd  (f_X0_add Dg dw v1 v2 v3 v4 v5 v6)) := e_X0_add V h 
def K_X3_isLaid (M : ng_AM) (r : Int32) : ng_RR := (some (.int (r)), M)
def f_X3_isLaid  (wd : Int32)  : Int32 := (if wd = (-1) then nI 0 else nI 1)
def s_X3_isLaid  (wd : Int32)  : Prop := True
set_option maxRecDepth 100000 in
set_option maxHeartbeats 4000000 in
theorem e_X3_isLaid {G : ng_GG} {M : ng_AM} {q : Nat} {q1 : Nat} {nm : Nat → Int64} {wd : Int32} {sz : Int32} (V : ng_RT M q q1 nm wd sz)    (h : s_X3_isLaid  wd)  : ng_Ev G md_X3_isLaid 0 [some (.ref q)] [] (M) (K_X3_isLaid M (f_X3_isLaid  wd)) := by
  unfold s_X3_isLaid at h
  unfold f_X3_isLaid
  refine ev_aload_n dX3_isLaid_0 rfl rfl rfl ?_
  refine ev_get 3 1 fl_RX3_15 (RT_gq V) rfl dX3_isLaid_1 ?_
  refine ev_iconst (v := (-1)) dX3_isLaid_4 (by decide) ?_
  refine bk_icmp_eq (tgt := 12) dX3_isLaid_5 (by decide) (fun c5 => ?_) (fun c5 => ?_)
  · refine ev_iconst (v := nI 0) dX3_isLaid_12 (by decide) ?_
    exact ev_iret rfl (by decide) dX3_isLaid_13
  · refine ev_iconst (v := nI 1) dX3_isLaid_8 (by decide) ?_
    refine ev_goto (tgt := 13) dX3_isLaid_9 (by decide) ?_
    exact ev_iret rfl (by decide) dX3_isLaid_13
theorem m_X3_isLaid {G : ng_GG} {M : ng_AM} {q : Nat} {q1 : Nat} {nm : Nat → Int64} {wd : Int32} {sz : Int32} (V : ng_RT M q q1 nm wd sz)   (h : s_X3_isLaid wd)  : ng_Ev G md_X3_isLaid 0 (ng_en 1 [.ref q]) [] (M) (K_X3_isLaid M (f_X3_isLaid wd)) := e_X3_isLaid V h 
def K_X3_cut (M : ng_AM) (r : Int64) : ng_RR := (some (.long (r)), M)
def f_X3_cut  (wd : Int32) (v1 : Int64) : Int64 := (if wd = nI 0 then v1.toInt32.toInt8.toInt32.toInt64 else (if wd = nI 1 then v1.toInt32.toInt16.toInt32.toInt64 else (if wd = nI 2 then v1.toInt32.toInt64 else v1)))
def s_X3_cut  (wd : Int32) (v1 : Int64) : Prop := True
set_option maxRecDepth 100000 in
set_option maxHeartbeats 4000000 in
theorem e_X3_cut {G : ng_GG} {M : ng_AM} {q : Nat} {q1 : Nat} {nm : Nat → Int64} {wd : Int32} {sz : Int32} (V : ng_RT M q q1 nm wd sz)   {v1 : Int64} (h : s_X3_cut  wd v1)  : ng_Ev G md_X3_cut 0 [some (.ref q), some (.long v1), none] [] (M) (K_X3_cut M (f_X3_cut  wd v1)) := by
  unfold s_X3_cut at h
  unfold f_X3_cut
  refine ev_aload_n dX3_cut_0 rfl rfl rfl ?_
  refine ev_get 3 1 fl_RX3_15 (RT_gq V) rfl dX3_cut_1 ?_
  refine bk_cases (fun c4_0 => ?_) (fun c4_0 => ?_)
  · refine ev_tab_k (k := 0) (tgt := 32) dX3_cut_4 c4_0 (by decide) (by decide) (by decide) rfl (by decide) ?_
    refine ev_lload_n dX3_cut_32 rfl rfl ?_
    refine ev_l2i dX3_cut_33 ?_
    refine ev_i2b dX3_cut_34 ?_
    refine ev_i2l dX3_cut_35 ?_
    exact ev_lret rfl dX3_cut_36
  · refine bk_cases (fun c4_1 => ?_) (fun c4_1 => ?_)
    · refine ev_tab_k (k := 1) (tgt := 37) dX3_cut_4 c4_1 (by decide) (by decide) (by decide) rfl (by decide) ?_
      refine ev_lload_n dX3_cut_37 rfl rfl ?_
      refine ev_l2i dX3_cut_38 ?_
      refine ev_i2s dX3_cut_39 ?_
      refine ev_i2l dX3_cut_40 ?_
      exact ev_lret rfl dX3_cut_41
    · refine bk_cases (fun c4_2 => ?_) (fun c4_2 => ?_)
      · refine ev_tab_k (k := 2) (tgt := 42) dX3_cut_4 c4_2 (by decide) (by decide) (by decide) rfl (by decide) ?_
        refine ev_lload_n dX3_cut_42 rfl rfl ?_
        refine ev_l2i dX3_cut_43 ?_
        refine ev_i2l dX3_cut_44 ?_
        exact ev_lret rfl dX3_cut_45
      · refine ev_tab_d (hi := 2) (tgt := 46) (m := 2) dX3_cut_4 rfl (fun q hq => match q, hq with | 0, _ => c4_0 | 1, _ => c4_1 | 2, _ => c4_2 | (q + 3), hq => absurd hq (by omega)) (by decide) ?_
        refine ev_lload_n dX3_cut_46 rfl rfl ?_
        exact ev_lret rfl dX3_cut_47
theorem m_X3_cut {G : ng_GG} {M : ng_AM} {q : Nat} {q1 : Nat} {nm : Nat → Int64} {wd : Int32} {sz : Int32} (V : ng_RT M q q1 nm wd sz)  {v1 : Int64} (h : s_X3_cut wd v1)  : ng_Ev G md_X3_cut 0 (ng_en 3 [.ref q, .long v1]) [] (M) (K_X3_cut M (f_X3_cut wd v1)) := e_X3_cut V h 
def K_X3_holds (M : ng_AM) (r : Int32) : ng_RR := (some (.int (r)), M)
def f_X3_holds  (sz : Int32) (v1 : Int32) (v2 : Int32) : Int32 := (if v1 < 0 then nI 0 else (if v2 < 0 then nI 0 else (if sz < v1 then nI 0 else (if (sz - v1) < v2 then nI 0 else nI 1))))
def s_X3_holds  (sz : Int32) (v1 : Int32) (v2 : Int32) : Prop := True
set_option maxRecDepth 100000 in
set_option maxHeartbeats 4000000 in
theorem e_X3_holds {G : ng_GG} {M : ng_AM} {q : Nat} {q1 : Nat} {nm : Nat → Int64} {wd : Int32} {sz : Int32} (V : ng_RT M q q1 nm wd sz)   {v1 : Int32} {v2 : Int32} (h : s_X3_holds  sz v1 v2)  : ng_Ev G md_X3_holds 0 [some (.ref q), some (.int v1), some (.int v2)] [] (M) (K_X3_holds M (f_X3_holds  sz v1 v2)) := by
  unfold s_X3_holds at h
  unfold f_X3_holds
  refine ev_iload_n dX3_holds_0 rfl rfl ?_
  refine bk_if_lt (tgt := 30) dX3_holds_1 (by decide) (fun c1 => ?_) (fun c1 => ?_)
  · refine ev_iconst (v := nI 0) dX3_holds_30 (by decide) ?_
    exact ev_iret rfl (by decide) dX3_holds_31
  · refine ev_iload_n dX3_holds_4 rfl rfl ?_
    refine bk_if_lt (tgt := 30) dX3_holds_5 (by decide) (fun c5 => ?_) (fun c5 => ?_)
    · refine ev_iconst (v := nI 0) dX3_holds_30 (by decide) ?_
      exact ev_iret rfl (by decide) dX3_holds_31
    · refine ev_iload_n dX3_holds_8 rfl rfl ?_
      refine ev_aload_n dX3_holds_9 rfl rfl rfl ?_
      refine ev_get 3 2 fl_RX3_19 (RT_gq V) rfl dX3_holds_10 ?_
      refine bk_icmp_gt (tgt := 30) dX3_holds_13 (by decide) (fun c13 => ?_) (fun c13 => ?_)
      · refine ev_iconst (v := nI 0) dX3_holds_30 (by decide) ?_
        exact ev_iret rfl (by decide) dX3_holds_31
      · refine ev_iload_n dX3_holds_16 rfl rfl ?_
        refine ev_aload_n dX3_holds_17 rfl rfl rfl ?_
        refine ev_get 3 2 fl_RX3_19 (RT_gq V) rfl dX3_holds_18 ?_
        refine ev_iload_n dX3_holds_21 rfl rfl ?_
        refine ev_isub dX3_holds_22 ?_
        refine bk_icmp_gt (tgt := 30) dX3_holds_23 (by decide) (fun c23 => ?_) (fun c23 => ?_)
        · refine ev_iconst (v := nI 0) dX3_holds_30 (by decide) ?_
          exact ev_iret rfl (by decide) dX3_holds_31
        · refine ev_iconst (v := nI 1) dX3_holds_26 (by decide) ?_
          refine ev_goto (tgt := 31) dX3_holds_27 (by decide) ?_
          exact ev_iret rfl (by decide) dX3_holds_31
theorem m_X3_holds {G : ng_GG} {M : ng_AM} {q : Nat} {q1 : Nat} {nm : Nat → Int64} {wd : Int32} {sz : Int32} (V : ng_RT M q q1 nm wd sz)  {v1 : Int32} {v2 : Int32} (h : s_X3_holds sz v1 v2)  : ng_Ev G md_X3_holds 0 (ng_en 3 [.ref q, .int v1, .int v2]) [] (M) (K_X3_holds M (f_X3_holds sz v1 v2)) := e_X3_holds V h 
def K_X3_isInt (M : ng_AM) (r : Int32) : ng_RR := (some (.int (r)), M)
def f_X3_isInt  (nm : Nat → Int64) (sz : Int32) (v1 : Int32) : Int32 := (if v1 < 0 then nI 0 else (if sz ≤ v1 then nI 0 else (if (nI 60) ≤ v1 then nI 0 else (if (lg_cmp (nm v1.toNatClampNeg) (((nm v1.toNatClampNeg).toInt32).toInt64)) = 0 then nI 1 else nI 0))))
def s_X3_isInt  (nm : Nat → Int64) (sz : Int32) (v1 : Int32) : Prop := (¬ v1 < 0 → (¬ sz ≤ v1 → (¬ (nI 60) ≤ v1 → (vp_in v1 60 ∧ vp_in v1 60))))
set_option maxRecDepth 100000 in
set_option maxHeartbeats 4000000 in
theorem e_X3_isInt {G : ng_GG} {M : ng_AM} {q : Nat} {q1 : Nat} {nm : Nat → Int64} {wd : Int32} {sz : Int32} (V : ng_RT M q q1 nm wd sz)   {v1 : Int32} (h : s_X3_isInt  nm sz v1)  : ng_Ev G md_X3_isInt 0 [some (.ref q), some (.int v1)] [] (M) (K_X3_isInt M (f_X3_isInt  nm sz v1)) := by
  unfold s_X3_isInt at h
  unfold f_X3_isInt
  refine ev_iload_n dX3_isInt_0 rfl rfl ?_
  refine bk_if_lt (tgt := 40) dX3_isInt_1 (by decide) (fun c1 => ?_) (fun c1 => ?_)
  · refine ev_iconst (v := nI 0) dX3_isInt_40 (by decide) ?_
    exact ev_iret rfl (by decide) dX3_isInt_41
  · replace h := h c1
    refine ev_iload_n dX3_isInt_4 rfl rfl ?_
    refine ev_aload_n dX3_isInt_5 rfl rfl rfl ?_
    refine ev_get 3 2 fl_RX3_19 (RT_gq V) rfl dX3_isInt_6 ?_
    refine bk_icmp_ge (tgt := 40) dX3_isInt_9 (by decide) (fun c9 => ?_) (fun c9 => ?_)
    · refine ev_iconst (v := nI 0) dX3_isInt_40 (by decide) ?_
      exact ev_iret rfl (by decide) dX3_isInt_41
    · replace h := h c9
      refine ev_iload_n dX3_isInt_12 rfl rfl ?_
      refine ev_bipush (v := nI 60) dX3_isInt_13 (by decide) ?_
      refine bk_icmp_ge (tgt := 40) dX3_isInt_15 (by decide) (fun c15 => ?_) (fun c15 => ?_)
      · refine ev_iconst (v := nI 0) dX3_isInt_40 (by decide) ?_
        exact ev_iret rfl (by decide) dX3_isInt_41
      · replace h := h c15
        refine ev_aload_n dX3_isInt_18 rfl rfl rfl ?_
        refine ev_get 3 0 fl_RX3_9 (RT_gq V) rfl dX3_isInt_19 ?_
        refine ev_iload_n dX3_isInt_22 rfl rfl ?_
        have hi23 := h.1
        replace h := h.2
        refine ev_lald (RT_gr V) hi23 dX3_isInt_23 ?_
        refine ev_aload_n dX3_isInt_24 rfl rfl rfl ?_
        refine ev_get 3 0 fl_RX3_9 (RT_gq V) rfl dX3_isInt_25 ?_
        refine ev_iload_n dX3_isInt_28 rfl rfl ?_
        have hi29 := h
        refine ev_lald (RT_gr V) hi29 dX3_isInt_29 ?_
        refine ev_l2i dX3_isInt_30 ?_
        refine ev_i2l dX3_isInt_31 ?_
        refine ev_lcmp dX3_isInt_32 ?_
        refine bk_if_ne (tgt := 40) dX3_isInt_33 (by decide) (fun c33 => ?_) (fun c33 => ?_)
        · refine ev_iconst (v := nI 0) dX3_isInt_40 (by decide) ?_
          exact ev_iret rfl (by decide) dX3_isInt_41
        · refine ev_iconst (v := nI 1) dX3_isInt_36 (by decide) ?_
          refine ev_goto (tgt := 41) dX3_isInt_37 (by decide) ?_
          exact ev_iret rfl (by decide) dX3_isInt_41
theorem m_X3_isInt {G : ng_GG} {M : ng_AM} {q : Nat} {q1 : Nat} {nm : Nat → Int64} {wd : Int32} {sz : Int32} (V : ng_RT M q q1 nm wd sz)  {v1 : Int32} (h : s_X3_isInt nm sz v1)  : ng_Ev G md_X3_isInt 0 (ng_en 2 [.ref q, .int v1]) [] (M) (K_X3_isInt M (f_X3_isInt nm sz v1)) := e_X3_isInt V h 
def K_X3_intAt (M : ng_AM) (r : Int32) : ng_RR := (some (.int (r)), M)
def f_X3_intAt  (nm : Nat → Int64) (sz : Int32) (v1 : Int32) : Int32 := (if (f_X3_isInt nm sz v1) = 0 then (-1) else (nm v1.toNatClampNeg).toInt32)
def s_X3_intAt  (nm : Nat → Int64) (sz : Int32) (v1 : Int32) : Prop := (s_X3_isInt nm sz v1 ∧ (¬ (f_X3_isInt nm sz v1) = 0 → vp_in v1 60))
set_option maxRecDepth 100000 in
set_option maxHeartbeats 4000000 in
theorem e_X3_intAt {G : ng_GG} {M : ng_AM} {q : Nat} {q1 : Nat} {nm : Nat → Int64} {wd : Int32} {sz : Int32} (V : ng_RT M q q1 nm wd sz)   {v1 : Int32} (h : s_X3_intAt  nm sz v1)  : ng_Ev G md_X3_intAt 0 [some (.ref q), some (.int v1)] [] (M) (K_X3_intAt M (f_X3_intAt  nm sz v1)) := by
  unfold s_X3_intAt at h
  unfold f_X3_intAt
  refine ev_aload_n dX3_intAt_0 rfl rfl rfl ?_
  refine ev_iload_n dX3_intAt_1 rfl rfl ?_
  have hs2 := h.1
  replace h := h.2
  refine bk_callV (As := [.int v1]) (st := []) (st2 := [.int (f_X3_isInt nm sz v1)]) (M2 := M) ok_X3_isInt lk_RX3_32 (ng_rok.of rfl rfl) (RT_gq V) rfl rfl rfl rfl rfl rfl dX3_intAt_2 (m_X3_isInt V hs2) rfl rfl ?_
  refine bk_if_eq (tgt := 18) dX3_intAt_5 (by decide) (fun c5 => ?_) (fun c5 => ?_)
  · refine ev_iconst (v := (-1)) dX3_intAt_18 (by decide) ?_
    exact ev_iret rfl rfl dX3_intAt_19
  · replace h := h c5
    refine ev_aload_n dX3_intAt_8 rfl rfl rfl ?_
    refine ev_get 3 0 fl_RX3_9 (RT_gq V) rfl dX3_intAt_9 ?_
    refine ev_iload_n dX3_intAt_12 rfl rfl ?_
    have hi13 := h
    refine ev_lald (RT_gr V) hi13 dX3_intAt_13 ?_
    refine ev_l2i dX3_intAt_14 ?_
    refine ev_goto (tgt := 19) dX3_intAt_15 (by decide) ?_
    exact ev_iret rfl rfl dX3_intAt_19
theorem m_X3_intAt {G : ng_GG} {M : ng_AM} {q : Nat} {q1 : Nat} {nm : Nat → Int64} {wd : Int32} {sz : Int32} (V : ng_RT M q q1 nm wd sz)  {v1 : Int32} (h : s_X3_intAt nm sz v1)  : ng_Ev G md_X3_intAt 0 (ng_en 2 [.ref q, .int v1]) [] (M) (K_X3_intAt M (f_X3_intAt nm sz v1)) := e_X3_intAt V h 
def K_J7_fillL (hb : (Nat → Int64) → ng_AM)  (r : (Nat → Int64)) : ng_RR := (none, hb (r))
def f_J7_fillL_6  : Nat → (Nat → Int64) → (Nat) → Int64 → Int32 → Int32 → ((Nat → Int64))
  | 0, fb, _, _, _, _ => fb
  | n + 1, fb, nn, v1, v3, v4 => (if v4 ≤ v3 then fb else f_J7_fillL_6 n (vp_updL fb v3.toNatClampNeg v1) nn v1 (v3 + nI 1) v4)
def s_J7_fillL_6  : Nat → (Nat → Int64) → (Nat) → Int64 → Int32 → Int32 → Prop
  | 0, _, _, _, _, _ => False
  | n + 1, fb, nn, v1, v3, v4 => (¬ v4 ≤ v3 → (vp_in v3 nn ∧ s_J7_fillL_6 n (vp_updL fb v3.toNatClampNeg v1) nn v1 (v3 + nI 1) v4))
set_option maxRecDepth 100000 in
set_option maxHeartbeats 4000000 in
theorem e_J7_fillL_6 {G : ng_GG} {hb : (Nat → Int64) → ng_AM} {a : Nat} {nn : Nat} (V : ng_BL hb a nn)  : ∀ (n : Nat) (fb : Nat → Int64) (v1 : Int64) (v3 : Int32) (v4 : Int32), s_J7_fillL_6  n fb nn v1 v3 v4 → ng_Ev G md_J7_fill_d0a16 6 [some (.ref a), some (.long v1), none, some (.int v3), some (.int v4)] [] (hb fb) (K_J7_fillL hb  (f_J7_fillL_6  n fb nn v1 v3 v4)) := by
  intro n
  induction n with
  | zero => intro fb v1 v3 v4 h; exact False.elim h
  | succ n ih =>
    intro fb v1 v3 v4 h 
    rw [s_J7_fillL_6] at h
    rw [f_J7_fillL_6]
    refine ev_iload_n dJ7_fill_d0a16_6 rfl rfl ?_
    refine ev_iload dJ7_fill_d0a16_7 rfl ?_
    refine bk_icmp_ge (tgt := 22) dJ7_fill_d0a16_9 (by decide) (fun c9 => ?_) (fun c9 => ?_)
    · exact ev_vret rfl dJ7_fill_d0a16_22
    · replace h := h c9
      refine ev_aload_n dJ7_fill_d0a16_12 rfl rfl rfl ?_
      refine ev_iload_n dJ7_fill_d0a16_13 rfl rfl ?_
      refine ev_lload_n dJ7_fill_d0a16_14 rfl rfl ?_
      have hi15 := h.1
      replace h := h.2
      refine ev_last (BL_ga V) hi15 (BL_sa V) dJ7_fill_d0a16_15 ?_
      refine ev_iinc (v := v3 + nI 1) (L' := [some (.ref a), some (.long v1), none, some (.int (v3 + nI 1)), some (.int v4)]) dJ7_fill_d0a16_16 rfl (by rfl) rfl ?_
      refine ev_goto (tgt := 6) dJ7_fill_d0a16_19 (by decide) ?_
      exact ev_sub (ih (vp_updL fb v3.toNatClampNeg v1) v1 (v3 + nI 1) v4 h) (sub_s (sub_s (sub_n (sub_s (sub_s sub_e)))))
def f_J7_fillL  (fb : Nat → Int64) (nn : Nat) (v1 : Int64) : (Nat → Int64) := f_J7_fillL_6 ng_F fb nn v1 (nI 0) (Int32.ofNat nn)
def s_J7_fillL  (fb : Nat → Int64) (nn : Nat) (v1 : Int64) : Prop := s_J7_fillL_6 ng_F fb nn v1 (nI 0) (Int32.ofNat nn)
set_option maxRecDepth 100000 in
set_option maxHeartbeats 4000000 in
theorem e_J7_fillL {G : ng_GG} {hb : (Nat → Int64) → ng_AM} {a : Nat} {nn : Nat} (V : ng_BL hb a nn) {fb : Nat → Int64}  {v1 : Int64} (h : s_J7_fillL  fb nn v1)  : ng_Ev G md_J7_fill_d0a16 0 [some (.ref a), some (.long v1), none, none, none] [] (hb fb) (K_J7_fillL hb  (f_J7_fillL  fb nn v1)) := by
  unfold s_J7_fillL at h
  unfold f_J7_fillL
  refine ev_iconst (v := nI 0) dJ7_fill_d0a16_0 (by decide) ?_
  refine ev_istore_n (L' := [some (.ref a), some (.long v1), none, some (.int (nI 0)), none]) dJ7_fill_d0a16_1 rfl (ng_lt rfl) rfl ?_
  refine ev_aload_n dJ7_fill_d0a16_2 rfl rfl rfl ?_
  refine ev_alen (v := (Int32.ofNat nn)) .long (fun _ => rfl) (BL_ga V) rfl dJ7_fill_d0a16_3 ?_
  refine ev_istore (L' := [some (.ref a), some (.long v1), none, some (.int (nI 0)), some (.int (Int32.ofNat nn))]) dJ7_fill_d0a16_4 (ng_lt rfl) rfl ?_
  exact ev_sub (e_J7_fillL_6 V ng_F fb v1 (nI 0) (Int32.ofNat nn) h) (sub_s (sub_s (sub_n (sub_s (sub_s sub_e)))))
theorem m_J7_fillL {G : ng_GG} {hb : (Nat → Int64) → ng_AM} {a : Nat} {nn : Nat} (V : ng_BL hb a nn) {fb : Nat → Int64} {v1 : Int64} (h : s_J7_fillL fb nn v1)  : ng_Ev G md_J7_fill_d0a16 0 (ng_en 5 [.ref a, .long v1]) [] (hb fb) (K_J7_fillL hb  (f_J7_fillL fb nn v1)) := e_J7_fillL V h 
def K_J7_fillI (ha : (Nat → Int32) → ng_AM)  (r : (Nat → Int32)) : ng_RR := (none, ha (r))
def f_J7_fillI_5  : Nat → (Nat → Int32) → (Nat) → Int32 → Int32 → Int32 → ((Nat → Int32))
  | 0, fa, _, _, _, _ => fa
  | n + 1, fa, nn, v1, v2, v3 => (if v3 ≤ v2 then fa else f_J7_fillI_5 n (upd fa v2.toNatClampNeg v1) nn v1 (v2 + nI 1) v3)
def s_J7_fillI_5  : Nat → (Nat → Int32) → (Nat) → Int32 → Int32 → Int32 → Prop
  | 0, _, _, _, _, _ => False
  | n + 1, fa, nn, v1, v2, v3 => (¬ v3 ≤ v2 → (vp_in v2 nn ∧ s_J7_fillI_5 n (upd fa v2.toNatClampNeg v1) nn v1 (v2 + nI 1) v3))
set_option maxRecDepth 100000 in
set_option maxHeartbeats 4000000 in
theorem e_J7_fillI_5 {G : ng_GG} {ha : (Nat → Int32) → ng_AM} {a : Nat} {nn : Nat} (V : ng_AL ha a nn)  : ∀ (n : Nat) (fa : Nat → Int32) (v1 : Int32) (v2 : Int32) (v3 : Int32), s_J7_fillI_5  n fa nn v1 v2 v3 → ng_Ev G md_J7_fill_53178 5 [some (.ref a), some (.int v1), some (.int v2), some (.int v3)] [] (ha fa) (K_J7_fillI ha  (f_J7_fillI_5  n fa nn v1 v2 v3)) := by
  intro n
  induction n with
  | zero => intro fa v1 v2 v3 h; exact False.elim h
  | succ n ih =>
    intro fa v1 v2 v3 h 
    rw [s_J7_fillI_5] at h
    rw [f_J7_fillI_5]
    refine ev_iload_n dJ7_fill_53178_5 rfl rfl ?_
    refine ev_iload_n dJ7_fill_53178_6 rfl rfl ?_
    refine bk_icmp_ge (tgt := 20) dJ7_fill_53178_7 (by decide) (fun c7 => ?_) (fun c7 => ?_)
    · exact ev_vret rfl dJ7_fill_53178_20
    · replace h := h c7
      refine ev_aload_n dJ7_fill_53178_10 rfl rfl rfl ?_
      refine ev_iload_n dJ7_fill_53178_11 rfl rfl ?_
      refine ev_iload_n dJ7_fill_53178_12 rfl rfl ?_
      have hi13 := h.1
      replace h := h.2
      refine ev_iast (AL_ga V) hi13 (AL_sa V) dJ7_fill_53178_13 ?_
      refine ev_iinc (v := v2 + nI 1) (L' := [some (.ref a), some (.int v1), some (.int (v2 + nI 1)), some (.int v3)]) dJ7_fill_53178_14 rfl (by rfl) rfl ?_
      refine ev_goto (tgt := 5) dJ7_fill_53178_17 (by decide) ?_
      exact ev_sub (ih (upd fa v2.toNatClampNeg v1) v1 (v2 + nI 1) v3 h) (sub_s (sub_s (sub_s (sub_s sub_e))))
def f_J7_fillI  (fa : Nat → Int32) (nn : Nat) (v1 : Int32) : (Nat → Int32) := f_J7_fillI_5 ng_F fa nn v1 (nI 0) (Int32.ofNat nn)
def s_J7_fillI  (fa : Nat → Int32) (nn : Nat) (v1 : Int32) : Prop := s_J7_fillI_5 ng_F fa nn v1 (nI 0) (Int32.ofNat nn)
set_option maxRecDepth 100000 in
set_option maxHeartbeats 4000000 in
theorem e_J7_fillI {G : ng_GG} {ha : (Nat → Int32) → ng_AM} {a : Nat} {nn : Nat} (V : ng_AL ha a nn) {fa : Nat → Int32}  {v1 : Int32} (h : s_J7_fillI  fa nn v1)  : ng_Ev G md_J7_fill_53178 0 [some (.ref a), some (.int v1), none, none] [] (ha fa) (K_J7_fillI ha  (f_J7_fillI  fa nn v1)) := by
  unfold s_J7_fillI at h
  unfold f_J7_fillI
  refine ev_iconst (v := nI 0) dJ7_fill_53178_0 (by decide) ?_
  refine ev_istore_n (L' := [some (.ref a), some (.int v1), some (.int (nI 0)), none]) dJ7_fill_53178_1 rfl (ng_lt rfl) rfl ?_
  refine ev_aload_n dJ7_fill_53178_2 rfl rfl rfl ?_
  refine ev_alen (v := (Int32.ofNat nn)) .int (fun _ => rfl) (AL_ga V) rfl dJ7_fill_53178_3 ?_
  refine ev_istore_n (L' := [some (.ref a), some (.int v1), some (.int (nI 0)), some (.int (Int32.ofNat nn))]) dJ7_fill_53178_4 rfl (ng_lt rfl) rfl ?_
  exact ev_sub (e_J7_fillI_5 V ng_F fa v1 (nI 0) (Int32.ofNat nn) h) (sub_s (sub_s (sub_s (sub_s sub_e))))
theorem m_J7_fillI {G : ng_GG} {ha : (Nat → Int32) → ng_AM} {a : Nat} {nn : Nat} (V : ng_AL ha a nn) {fa : Nat → Int32} {v1 : Int32} (h : s_J7_fillI fa nn v1)  : ng_Ev G md_J7_fill_53178 0 (ng_en 4 [.ref a, .int v1]) [] (ha fa) (K_J7_fillI ha  (f_J7_fillI fa nn v1)) := e_J7_fillI V h 
def K_X3_lay (ht : (Nat → Int64) → Int32 → Int32 → ng_AM)  (r : (Nat → Int64) × (Int32) × (Int32)) : ng_RR := (none, ht (r.1) (r.2.1) (r.2.2))
def f_X3_lay_19  (nm : Nat → Int64) (wd : Int32) (sz : Int32) (v1 : Int32) (v2 : Int32) : (Nat → Int64) × (Int32) × (Int32) := (nm, v1, v2)
def s_X3_lay_19  (nm : Nat → Int64) (wd : Int32) (sz : Int32) (v1 : Int32) (v2 : Int32) : Prop := True
set_option maxRecDepth 100000 in
set_option maxHeartbeats 4000000 in
theorem e_X3_lay_19 {G : ng_GG} {ht : (Nat → Int64) → Int32 → Int32 → ng_AM} {q : Nat} {q1 : Nat} (V : ng_TL ht q q1) {nm : Nat → Int64} {wd : Int32} {sz : Int32}  {v1 : Int32} {v2 : Int32} (h : s_X3_lay_19  nm wd sz v1 v2)  : ng_Ev G md_X3_lay 19 [some (.ref q), some (.int v1), some (.int v2)] [] (ht nm wd sz) (K_X3_lay ht  (f_X3_lay_19  nm wd sz v1 v2)) := by
  unfold s_X3_lay_19 at h
  unfold f_X3_lay_19
  refine ev_aload_n dX3_lay_19 rfl rfl rfl ?_
  refine ev_iload_n dX3_lay_20 rfl rfl ?_
  refine ev_put 3 1 fs_RX3_15 (TL_gq V) (ng_lt rfl) rfl (TL_sq V) (ng_fit_i _) dX3_lay_21 ?_
  refine ev_aload_n dX3_lay_24 rfl rfl rfl ?_
  refine ev_iload_n dX3_lay_25 rfl rfl ?_
  refine ev_put 3 2 fs_RX3_19 (TL_gq V) (ng_lt rfl) rfl (TL_sq V) (ng_fit_i _) dX3_lay_26 ?_
  exact ev_vret rfl dX3_lay_29
def f_X3_lay  (nm : Nat → Int64) (wd : Int32) (sz : Int32) (v1 : Int32) (v2 : Int32) : (Nat → Int64) × (Int32) × (Int32) := (if v2 < 0 then (nm, wd, sz) else (if v2 ≤ (nI 60) then f_X3_lay_19 (f_J7_fillL nm 60 (0 : Int64)) wd sz v1 v2 else (nm, wd, sz)))
def s_X3_lay  (nm : Nat → Int64) (wd : Int32) (sz : Int32) (v1 : Int32) (v2 : Int32) : Prop := (¬ v2 < 0 → (v2 ≤ (nI 60) → (s_J7_fillL nm 60 (0 : Int64) ∧ s_X3_lay_19 (f_J7_fillL nm 60 (0 : Int64)) wd sz v1 v2)))
set_option maxRecDepth 100000 in
set_option maxHeartbeats 4000000 in
theorem e_X3_lay {G : ng_GG} {ht : (Nat → Int64) → Int32 → Int32 → ng_AM} {q : Nat} {q1 : Nat} (V : ng_TL ht q q1) {nm : Nat → Int64} {wd : Int32} {sz : Int32}  {v1 : Int32} {v2 : Int32} (h : s_X3_lay  nm wd sz v1 v2)  : ng_Ev G md_X3_lay 0 [some (.ref q), some (.int v1), some (.int v2)] [] (ht nm wd sz) (K_X3_lay ht  (f_X3_lay  nm wd sz v1 v2)) := by
  unfold s_X3_lay at h
  unfold f_X3_lay
  refine ev_iload_n dX3_lay_0 rfl rfl ?_
  refine bk_if_lt (tgt := 10) dX3_lay_1 (by decide) (fun c1 => ?_) (fun c1 => ?_)
  · exact ev_vret rfl dX3_lay_10
  · replace h := h c1
    refine ev_iload_n dX3_lay_4 rfl rfl ?_
    refine ev_bipush (v := nI 60) dX3_lay_5 (by decide) ?_
    refine bk_icmp_le (tgt := 11) dX3_lay_7 (by decide) (fun c7 => ?_) (fun c7 => ?_)
    · replace h := h c7
      refine ev_aload_n dX3_lay_11 rfl rfl rfl ?_
      refine ev_get 3 0 fl_RX3_9 (TL_gq V) rfl dX3_lay_12 ?_
      refine ev_lconst (v := 0) dX3_lay_15 (by decide) ?_
      have hs16 := h.1
      replace h := h.2
      refine bk_callS (As := [.ref q1, .long (0 : Int64)]) (st := []) (st2 := []) (M2 := ht (f_J7_fillL nm 60 (0 : Int64)) wd sz) ok_J7_fill_d0a16 lk_RX3_22 (ng_rok.of rfl rfl) rfl rfl rfl rfl dX3_lay_16 (m_J7_fillL (show ng_BL (fun fb => ht fb wd sz) q1 60 from ⟨fun _ => TL_gr V, fun _ _ => TL_sr V⟩) hs16) rfl rfl ?_
      exact ev_sub (e_X3_lay_19 V h) (sub_s (sub_s (sub_s sub_e)))
    · exact ev_vret rfl dX3_lay_10
theorem m_X3_lay {G : ng_GG} {ht : (Nat → Int64) → Int32 → Int32 → ng_AM} {q : Nat} {q1 : Nat} (V : ng_TL ht q q1) {nm : Nat → Int64} {wd : Int32} {sz : Int32} {v1 : Int32} {v2 : Int32} (h : s_X3_lay nm wd sz v1 v2)  : ng_Ev G md_X3_lay 0 (ng_en 3 [.ref q, .int v1, .int v2]) [] (ht nm wd sz) (K_X3_lay ht  (f_X3_lay nm wd sz v1 v2)) := e_X3_lay V h 
def K_X3_put (ht : (Nat → Int64) → Int32 → Int32 → ng_AM) (wd : Int32) (sz : Int32) (r : (Nat → Int64) × Int32) : ng_RR := (some (.int (r.2)), ht (r.1) wd sz)
def f_X3_put  (nm : Nat → Int64) (wd : Int32) (sz : Int32) (v1 : Int32) (v2 : Int64) : (Nat → Int64) × Int32 := (if v1 < 0 then (nm, nI 0) else (if sz ≤ v1 then (nm, nI 0) else (if v1 < (nI 60) then ((vp_updL nm v1.toNatClampNeg (f_X3_cut wd v2)), nI 1) else (nm, nI 0))))
def s_X3_put  (nm : Nat → Int64) (wd : Int32) (sz : Int32) (v1 : Int32) (v2 : Int64) : Prop := (¬ v1 < 0 → (¬ sz ≤ v1 → (v1 < (nI 60) → vp_in v1 60)))
set_option maxRecDepth 100000 in
set_option maxHeartbeats 4000000 in
theorem e_X3_put {G : ng_GG} {ht : (Nat → Int64) → Int32 → Int32 → ng_AM} {q : Nat} {q1 : Nat} (V : ng_TL ht q q1) {nm : Nat → Int64} {wd : Int32} {sz : Int32}  {v1 : Int32} {v2 : Int64} (h : s_X3_put  nm wd sz v1 v2)  : ng_Ev G md_X3_put 0 [some (.ref q), some (.int v1), some (.long v2), none] [] (ht nm wd sz) (K_X3_put ht wd sz (f_X3_put  nm wd sz v1 v2)) := by
  unfold s_X3_put at h
  unfold f_X3_put
  refine ev_iload_n dX3_put_0 rfl rfl ?_
  refine bk_if_lt (tgt := 18) dX3_put_1 (by decide) (fun c1 => ?_) (fun c1 => ?_)
  · refine ev_iconst (v := nI 0) dX3_put_18 (by decide) ?_
    exact ev_iret rfl (by decide) dX3_put_19
  · replace h := h c1
    refine ev_iload_n dX3_put_4 rfl rfl ?_
    refine ev_aload_n dX3_put_5 rfl rfl rfl ?_
    refine ev_get 3 2 fl_RX3_19 (TL_gq V) rfl dX3_put_6 ?_
    refine bk_icmp_ge (tgt := 18) dX3_put_9 (by decide) (fun c9 => ?_) (fun c9 => ?_)
    · refine ev_iconst (v := nI 0) dX3_put_18 (by decide) ?_
      exact ev_iret rfl (by decide) dX3_put_19
    · replace h := h c9
      refine ev_iload_n dX3_put_12 rfl rfl ?_
      refine ev_bipush (v := nI 60) dX3_put_13 (by decide) ?_
      refine bk_icmp_lt (tgt := 20) dX3_put_15 (by decide) (fun c15 => ?_) (fun c15 => ?_)
      · replace h := h c15
        refine ev_aload_n dX3_put_20 rfl rfl rfl ?_
        refine ev_get 3 0 fl_RX3_9 (TL_gq V) rfl dX3_put_21 ?_
        refine ev_iload_n dX3_put_24 rfl rfl ?_
        refine ev_aload_n dX3_put_25 rfl rfl rfl ?_
        refine ev_lload_n dX3_put_26 rfl rfl ?_
        refine bk_callV (As := [.long v2]) (st := [.int v1, .ref q1]) (st2 := [.long (f_X3_cut wd v2), .int v1, .ref q1]) (M2 := ht nm wd sz) ok_X3_cut lk_RX3_28 (ng_rok.of rfl rfl) (TL_gq V) rfl rfl rfl rfl rfl rfl dX3_put_27 (m_X3_cut (TL_R V) trivial) rfl rfl ?_
        have hi30 := h
        refine ev_last (TL_gr V) hi30 (TL_sr V) dX3_put_30 ?_
        refine ev_iconst (v := nI 1) dX3_put_31 (by decide) ?_
        exact ev_iret rfl (by decide) dX3_put_32
      · refine ev_iconst (v := nI 0) dX3_put_18 (by decide) ?_
        exact ev_iret rfl (by decide) dX3_put_19
theorem m_X3_put {G : ng_GG} {ht : (Nat → Int64) → Int32 → Int32 → ng_AM} {q : Nat} {q1 : Nat} (V : ng_TL ht q q1) {nm : Nat → Int64} {wd : Int32} {sz : Int32} {v1 : Int32} {v2 : Int64} (h : s_X3_put nm wd sz v1 v2)  : ng_Ev G md_X3_put 0 (ng_en 4 [.ref q, .int v1, .long v2]) [] (ht nm wd sz) (K_X3_put ht wd sz (f_X3_put nm wd sz v1 v2)) := e_X3_put V h 
