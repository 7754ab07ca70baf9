theorem law_sw {G : ng_GG} {p B : Nat} (hp : p + 8 ≤ ng_n G) (hn : ng_n G ≤ 4096) (hB : B + 360000 < 2 ^ 30) (K : LK G p (B + 360000)) (C : Nat → Int32) (off : Nat → Int32) (dear : Nat → Int32) (proved : Nat → Int32) (Dg : Nat → Int32) (dw : Nat → Int32) (nw : Nat → Int32) (J : Nat → Int32) (bef : Nat → Int32) (mov : Nat → Int32) (nxt : Nat → Int32) (chn : Nat → Int32) (tol : Nat → Int32) (tw : Nat → Int32) (nu : Nat → Nat → Int64) (sw : Nat → Int32) (ss : Nat → Int32) (giv : Nat → Int32) (sE : Int32) (P : Nat → Nat → Int32) (pn : Nat) (F : Nat → Int32) (rl : Nat → Int32) (lg : Nat → Int32) (sta : Nat → Int32) (sm : Nat → Int32) (par : Nat → Int32) (mv : Nat → Int32) (dep : Nat → Int32) (nwa : Nat → Int32) (th : Nat → Int32) (bf : Nat → Int32) (row : Nat → Int32) (wid : Nat → Int32) (siz : Nat → Int32) (cel : Nat → Int64) (mvd : Nat → Int64) (I : HI B C off dear proved Dg dw nw J bef mov nxt chn tol tw nu sw ss giv sE P pn F rl lg sta sm par mv dep nwa th bf row wid siz cel mvd) (k : Nat) (hk : k < 64) : Gd G 33 (Lp p) [.int (nI k)] (Hh C off dear proved Dg dw nw J bef mov nxt chn tol tw nu sw ss giv sE P pn F rl lg sta sm par mv dep nwa th bf row wid siz cel mvd giv) := by
  match k, hk with
  | 0, _ =>
    obtain ⟨M', l1, l2, kE⟩ := law_0 hp hn hB K C off dear proved Dg dw nw J bef mov nxt chn tol tw nu sw ss giv sE P pn F rl lg sta sm par mv dep nwa th bf row wid siz cel mvd I
    exact ⟨M', l1, l2, ev_tab_k (k := 0) (off := 159) (tgt := 192) dL_law_33 rfl (by decide) (by decide) (by decide) rfl (by decide) kE⟩
  | 1, _ =>
    obtain ⟨M', l1, l2, kE⟩ := law_1 hp hn hB K C off dear proved Dg dw nw J bef mov nxt chn tol tw nu sw ss giv sE P pn F rl lg sta sm par mv dep nwa th bf row wid siz cel mvd I
    exact ⟨M', l1, l2, ev_tab_k (k := 1) (off := 246) (tgt := 279) dL_law_33 rfl (by decide) (by decide) (by decide) rfl (by decide) kE⟩
  | 2, _ =>
    obtain ⟨M', l1, l2, kE⟩ := law_2 hp hn hB K C off dear proved Dg dw nw J bef mov nxt chn tol tw nu sw ss giv sE P pn F rl lg sta sm par mv dep nwa th bf row wid siz cel mvd I
    exact ⟨M', l1, l2, ev_tab_k (k := 2) (off := 269) (tgt := 302) dL_law_33 rfl (by decide) (by decide) (by decide) rfl (by decide) kE⟩
  | 3, _ =>
    obtain ⟨M', l1, l2, kE⟩ := law_3 hp hn hB K C off dear proved Dg dw nw J bef mov nxt chn tol tw nu sw ss giv sE P pn F rl lg sta sm par mv dep nwa th bf row wid siz cel mvd I
    exact ⟨M', l1, l2, ev_tab_k (k := 3) (off := 328) (tgt := 361) dL_law_33 rfl (by decide) (by decide) (by decide) rfl (by decide) kE⟩
  | 4, _ =>
    obtain ⟨M', l1, l2, kE⟩ := law_4 hp hn hB K C off dear proved Dg dw nw J bef mov nxt chn tol tw nu sw ss giv sE P pn F rl lg sta sm par mv dep nwa th bf row wid siz cel mvd I
    exact ⟨M', l1, l2, ev_tab_k (k := 4) (off := 351) (tgt := 384) dL_law_33 rfl (by decide) (by decide) (by decide) rfl (by decide) kE⟩
  | 5, _ =>
    obtain ⟨M', l1, l2, kE⟩ := law_5 hp hn hB K C off dear proved Dg dw nw J bef mov nxt chn tol tw nu sw ss giv sE P pn F rl lg sta sm par mv dep nwa th bf row wid siz cel mvd I
    exact ⟨M', l1, l2, ev_tab_k (k := 5) (off := 390) (tgt := 423) dL_law_33 rfl (by decide) (by decide) (by decide) rfl (by decide) kE⟩
  | 6, _ =>
    obtain ⟨M', l1, l2, kE⟩ := law_6 hp hn hB K C off dear proved Dg dw nw J bef mov nxt chn tol tw nu sw ss giv sE P pn F rl lg sta sm par mv dep nwa th bf row wid siz cel mvd I
    exact ⟨M', l1, l2, ev_tab_k (k := 6) (off := 413) (tgt := 446) dL_law_33 rfl (by decide) (by decide) (by decide) rfl (by decide) kE⟩
  | 7, _ =>
    obtain ⟨M', l1, l2, kE⟩ := law_7 hp hn hB K C off dear proved Dg dw nw J bef mov nxt chn tol tw nu sw ss giv sE P pn F rl lg sta sm par mv dep nwa th bf row wid siz cel mvd I
    exact ⟨M', l1, l2, ev_tab_k (k := 7) (off := 436) (tgt := 469) dL_law_33 rfl (by decide) (by decide) (by decide) rfl (by decide) kE⟩
  | 8, _ =>
    obtain ⟨M', l1, l2, kE⟩ := law_8 hp hn hB K C off dear proved Dg dw nw J bef mov nxt chn tol tw nu sw ss giv sE P pn F rl lg sta sm par mv dep nwa th bf row wid siz cel mvd I
    exact ⟨M', l1, l2, ev_tab_k (k := 8) (off := 459) (tgt := 492) dL_law_33 rfl (by decide) (by decide) (by decide) rfl (by decide) kE⟩
  | 9, _ =>
    obtain ⟨M', l1, l2, kE⟩ := law_9 hp hn hB K C off dear proved Dg dw nw J bef mov nxt chn tol tw nu sw ss giv sE P pn F rl lg sta sm par mv dep nwa th bf row wid siz cel mvd I
    exact ⟨M', l1, l2, ev_tab_k (k := 9) (off := 482) (tgt := 515) dL_law_33 rfl (by decide) (by decide) (by decide) rfl (by decide) kE⟩
  | 10, _ =>
    obtain ⟨M', l1, l2, kE⟩ := law_10 hp hn hB K C off dear proved Dg dw nw J bef mov nxt chn tol tw nu sw ss giv sE P pn F rl lg sta sm par mv dep nwa th bf row wid siz cel mvd I
    exact ⟨M', l1, l2, ev_tab_k (k := 10) (off := 525) (tgt := 558) dL_law_33 rfl (by decide) (by decide) (by decide) rfl (by decide) kE⟩
  | 11, _ =>
    obtain ⟨M', l1, l2, kE⟩ := law_11 hp hn hB K C off dear proved Dg dw nw J bef mov nxt chn tol tw nu sw ss giv sE P pn F rl lg sta sm par mv dep nwa th bf row wid siz cel mvd I
    exact ⟨M', l1, l2, ev_tab_k (k := 11) (off := 558) (tgt := 591) dL_law_33 rfl (by decide) (by decide) (by decide) rfl (by decide) kE⟩
  | 12, _ =>
    obtain ⟨M', l1, l2, kE⟩ := law_12 hp hn hB K C off dear proved Dg dw nw J bef mov nxt chn tol tw nu sw ss giv sE P pn F rl lg sta sm par mv dep nwa th bf row wid siz cel mvd I
    exact ⟨M', l1, l2, ev_tab_k (k := 12) (off := 611) (tgt := 644) dL_law_33 rfl (by decide) (by decide) (by decide) rfl (by decide) kE⟩
  | 13, _ =>
    obtain ⟨M', l1, l2, kE⟩ := law_13 hp hn hB K C off dear proved Dg dw nw J bef mov nxt chn tol tw nu sw ss giv sE P pn F rl lg sta sm par mv dep nwa th bf row wid siz cel mvd I
    exact ⟨M', l1, l2, ev_tab_k (k := 13) (off := 664) (tgt := 697) dL_law_33 rfl (by decide) (by decide) (by decide) rfl (by decide) kE⟩
  | 14, _ =>
    obtain ⟨M', l1, l2, kE⟩ := law_14 hp hn hB K C off dear proved Dg dw nw J bef mov nxt chn tol tw nu sw ss giv sE P pn F rl lg sta sm par mv dep nwa th bf row wid siz cel mvd I
    exact ⟨M', l1, l2, ev_tab_k (k := 14) (off := 697) (tgt := 730) dL_law_33 rfl (by decide) (by decide) (by decide) rfl (by decide) kE⟩
  | 15, _ =>
    obtain ⟨M', l1, l2, kE⟩ := law_15 hp hn hB K C off dear proved Dg dw nw J bef mov nxt chn tol tw nu sw ss giv sE P pn F rl lg sta sm par mv dep nwa th bf row wid siz cel mvd I
    exact ⟨M', l1, l2, ev_tab_k (k := 15) (off := 720) (tgt := 753) dL_law_33 rfl (by decide) (by decide) (by decide) rfl (by decide) kE⟩
  | 16, _ =>
    obtain ⟨M', l1, l2, kE⟩ := law_16 hp hn hB K C off dear proved Dg dw nw J bef mov nxt chn tol tw nu sw ss giv sE P pn F rl lg sta sm par mv dep nwa th bf row wid siz cel mvd I
    exact ⟨M', l1, l2, ev_tab_k (k := 16) (off := 743) (tgt := 776) dL_law_33 rfl (by decide) (by decide) (by decide) rfl (by decide) kE⟩
  | 17, _ =>
    obtain ⟨M', l1, l2, kE⟩ := law_17 hp hn hB K C off dear proved Dg dw nw J bef mov nxt chn tol tw nu sw ss giv sE P pn F rl lg sta sm par mv dep nwa th bf row wid siz cel mvd I
    exact ⟨M', l1, l2, ev_tab_k (k := 17) (off := 766) (tgt := 799) dL_law_33 rfl (by decide) (by decide) (by decide) rfl (by decide) kE⟩
  | 18, _ =>
    obtain ⟨M', l1, l2, kE⟩ := law_18 hp hn hB K C off dear proved Dg dw nw J bef mov nxt chn tol tw nu sw ss giv sE P pn F rl lg sta sm par mv dep nwa th bf row wid siz cel mvd I
    exact ⟨M', l1, l2, ev_tab_k (k := 18) (off := 789) (tgt := 822) dL_law_33 rfl (by decide) (by decide) (by decide) rfl (by decide) kE⟩
  | 19, _ =>
    obtain ⟨M', l1, l2, kE⟩ := law_19 hp hn hB K C off dear proved Dg dw nw J bef mov nxt chn tol tw nu sw ss giv sE P pn F rl lg sta sm par mv dep nwa th bf row wid siz cel mvd I
    exact ⟨M', l1, l2, ev_tab_k (k := 19) (off := 852) (tgt := 885) dL_law_33 rfl (by decide) (by decide) (by decide) rfl (by decide) kE⟩
  | 20, _ =>
    obtain ⟨M', l1, l2, kE⟩ := law_20 hp hn hB K C off dear proved Dg dw nw J bef mov nxt chn tol tw nu sw ss giv sE P pn F rl lg sta sm par mv dep nwa th bf row wid siz cel mvd I
    exact ⟨M', l1, l2, ev_tab_k (k := 20) (off := 875) (tgt := 908) dL_law_33 rfl (by decide) (by decide) (by decide) rfl (by decide) kE⟩
  | 21, _ =>
    obtain ⟨M', l1, l2, kE⟩ := law_21 hp hn hB K C off dear proved Dg dw nw J bef mov nxt chn tol tw nu sw ss giv sE P pn F rl lg sta sm par mv dep nwa th bf row wid siz cel mvd I
    exact ⟨M', l1, l2, ev_tab_k (k := 21) (off := 938) (tgt := 971) dL_law_33 rfl (by decide) (by decide) (by decide) rfl (by decide) kE⟩
  | 22, _ =>
    obtain ⟨M', l1, l2, kE⟩ := law_22 hp hn hB K C off dear proved Dg dw nw J bef mov nxt chn tol tw nu sw ss giv sE P pn F rl lg sta sm par mv dep nwa th bf row wid siz cel mvd I
    exact ⟨M', l1, l2, ev_tab_k (k := 22) (off := 981) (tgt := 1014) dL_law_33 rfl (by decide) (by decide) (by decide) rfl (by decide) kE⟩
  | 23, _ =>
    obtain ⟨M', l1, l2, kE⟩ := law_23 hp hn hB K C off dear proved Dg dw nw J bef mov nxt chn tol tw nu sw ss giv sE P pn F rl lg sta sm par mv dep nwa th bf row wid siz cel mvd I
    exact ⟨M', l1, l2, ev_tab_k (k := 23) (off := 1014) (tgt := 1047) dL_law_33 rfl (by decide) (by decide) (by decide) rfl (by decide) kE⟩
  | 24, _ =>
    obtain ⟨M', l1, l2, kE⟩ := law_24 hp hn hB K C off dear proved Dg dw nw J bef mov nxt chn tol tw nu sw ss giv sE P pn F rl lg sta sm par mv dep nwa th bf row wid siz cel mvd I
    exact ⟨M', l1, l2, ev_tab_k (k := 24) (off := 1047) (tgt := 1080) dL_law_33 rfl (by decide) (by decide) (by decide) rfl (by decide) kE⟩
  | 25, _ =>
    obtain ⟨M', l1, l2, kE⟩ := law_25 hp hn hB K C off dear proved Dg dw nw J bef mov nxt chn tol tw nu sw ss giv sE P pn F rl lg sta sm par mv dep nwa th bf row wid siz cel mvd I
    exact ⟨M', l1, l2, ev_tab_k (k := 25) (off := 1080) (tgt := 1113) dL_law_33 rfl (by decide) (by decide) (by decide) rfl (by decide) kE⟩
  | 26, _ =>
    obtain ⟨M', l1, l2, kE⟩ := law_26 hp hn hB K C off dear proved Dg dw nw J bef mov nxt chn tol tw nu sw ss giv sE P pn F rl lg sta sm par mv dep nwa th bf row wid siz cel mvd I
    exact ⟨M', l1, l2, ev_tab_k (k := 26) (off := 1113) (tgt := 1146) dL_law_33 rfl (by decide) (by decide) (by decide) rfl (by decide) kE⟩
  | 27, _ =>
    obtain ⟨M', l1, l2, kE⟩ := law_27 hp hn hB K C off dear proved Dg dw nw J bef mov nxt chn tol tw nu sw ss giv sE P pn F rl lg sta sm par mv dep nwa th bf row wid siz cel mvd I
    exact ⟨M', l1, l2, ev_tab_k (k := 27) (off := 1146) (tgt := 1179) dL_law_33 rfl (by decide) (by decide) (by decide) rfl (by decide) kE⟩
  | 28, _ =>
    obtain ⟨M', l1, l2, kE⟩ := law_28 hp hn hB K C off dear proved Dg dw nw J bef mov nxt chn tol tw nu sw ss giv sE P pn F rl lg sta sm par mv dep nwa th bf row wid siz cel mvd I
    exact ⟨M', l1, l2, ev_tab_k (k := 28) (off := 1179) (tgt := 1212) dL_law_33 rfl (by decide) (by decide) (by decide) rfl (by decide) kE⟩
  | 29, _ =>
    obtain ⟨M', l1, l2, kE⟩ := law_29 hp hn hB K C off dear proved Dg dw nw J bef mov nxt chn tol tw nu sw ss giv sE P pn F rl lg sta sm par mv dep nwa th bf row wid siz cel mvd I
    exact ⟨M', l1, l2, ev_tab_k (k := 29) (off := 1212) (tgt := 1245) dL_law_33 rfl (by decide) (by decide) (by decide) rfl (by decide) kE⟩
  | 30, _ =>
    obtain ⟨M', l1, l2, kE⟩ := law_30 hp hn hB K C off dear proved Dg dw nw J bef mov nxt chn tol tw nu sw ss giv sE P pn F rl lg sta sm par mv dep nwa th bf row wid siz cel mvd I
    exact ⟨M', l1, l2, ev_tab_k (k := 30) (off := 1235) (tgt := 1268) dL_law_33 rfl (by decide) (by decide) (by decide) rfl (by decide) kE⟩
  | 31, _ =>
    obtain ⟨M', l1, l2, kE⟩ := law_31 hp hn hB K C off dear proved Dg dw nw J bef mov nxt chn tol tw nu sw ss giv sE P pn F rl lg sta sm par mv dep nwa th bf row wid siz cel mvd I
    exact ⟨M', l1, l2, ev_tab_k (k := 31) (off := 1278) (tgt := 1311) dL_law_33 rfl (by decide) (by decide) (by decide) rfl (by decide) kE⟩
  | 32, _ =>
    obtain ⟨M', l1, l2, kE⟩ := law_32 hp hn hB K C off dear proved Dg dw nw J bef mov nxt chn tol tw nu sw ss giv sE P pn F rl lg sta sm par mv dep nwa th bf row wid siz cel mvd I
    exact ⟨M', l1, l2, ev_tab_k (k := 32) (off := 1301) (tgt := 1334) dL_law_33 rfl (by decide) (by decide) (by decide) rfl (by decide) kE⟩
  | 33, _ =>
    obtain ⟨M', l1, l2, kE⟩ := law_33 hp hn hB K C off dear proved Dg dw nw J bef mov nxt chn tol tw nu sw ss giv sE P pn F rl lg sta sm par mv dep nwa th bf row wid siz cel mvd I
    exact ⟨M', l1, l2, ev_tab_k (k := 33) (off := 1374) (tgt := 1407) dL_law_33 rfl (by decide) (by decide) (by decide) rfl (by decide) kE⟩
  | 34, _ =>
    obtain ⟨M', l1, l2, kE⟩ := law_34 hp hn hB K C off dear proved Dg dw nw J bef mov nxt chn tol tw nu sw ss giv sE P pn F rl lg sta sm par mv dep nwa th bf row wid siz cel mvd I
    exact ⟨M', l1, l2, ev_tab_k (k := 34) (off := 1437) (tgt := 1470) dL_law_33 rfl (by decide) (by decide) (by decide) rfl (by decide) kE⟩
  | 35, _ =>
    obtain ⟨M', l1, l2, kE⟩ := law_35 hp hn hB K C off dear proved Dg dw nw J bef mov nxt chn tol tw nu sw ss giv sE P pn F rl lg sta sm par mv dep nwa th bf row wid siz cel mvd I
    exact ⟨M', l1, l2, ev_tab_k (k := 35) (off := 1460) (tgt := 1493) dL_law_33 rfl (by decide) (by decide) (by decide) rfl (by decide) kE⟩
  | k + 36, hk =>
    obtain ⟨Q, S, H, he, z1, z2, z3, h3⟩ := I
    obtain ⟨M', l1, l2, kE⟩ := K C off dear proved Dg dw nw J bef mov nxt chn tol tw nu sw ss giv sE P pn F rl lg sta sm par mv dep nwa th bf row wid siz cel mvd ⟨QW_up Q (by omega), S, H, he, z1, z2, z3, h3⟩
    refine ⟨M', l1, l2, ev_tab_d (m := 35) (tgt := 1506) dL_law_33 rfl ?_ (by decide) kE⟩
    intro j hj e
    rw [pn_eq (by omega) (by omega)] at e
    omega
theorem law_gt {G : ng_GG} {L : ng_LL} {M : ng_AM} {X : ng_RR} {x y : Int32} (h : y < x) (k : ng_Ev G md_L_law 1512 L [] M X) : ng_Ev G md_L_law 24 L [.int y, .int x] M X := by
  have e := ev_icmp_gt (tgt := 1512) (X := X) (Y := X) (L := L) (st := []) (M := M) (G := G) (md := md_L_law) (x := x) (y := y) dL_law_24 (by decide) (fun _ => k) (fun h' => absurd h h')
  rw [if_pos h] at e
  exact e
theorem law_ng {G : ng_GG} {L : ng_LL} {M : ng_AM} {X : ng_RR} {x y : Int32} (h : ¬ y < x) (k : ng_Ev G md_L_law 27 L [] M X) : ng_Ev G md_L_law 24 L [.int y, .int x] M X := by
  have e := ev_icmp_gt (tgt := 1512) (X := X) (Y := X) (L := L) (st := []) (M := M) (G := G) (md := md_L_law) (x := x) (y := y) dL_law_24 (by decide) (fun h' => absurd h' h) (fun _ => k)
  rw [if_neg h] at e
  exact e
theorem law_hd {G : ng_GG} {p : Nat} {M : ng_AM} {X : ng_RR} (k : ng_Ev G md_L_law 24 (Lp p) [.int (nI (ng_n G) - nI 8), .int (nI p)] M X) : ng_Ev G md_L_law 18 (Lp p) [] M X := by
  refine ev_iload_n (x := nI p) dL_law_18 rfl rfl ?_
  refine ev_aload_n (v := .float 2) dL_law_19 rfl rfl rfl ?_
  refine ev_slen dL_law_20 ?_
  refine ev_bipush (v := nI 8) dL_law_21 (by decide) ?_
  refine ev_isub dL_law_23 ?_
  exact k
theorem law_cmp {n p : Nat} (hn : n ≤ 4096) (hp : p ≤ 5000) : nI n - nI 8 < nI p ↔ n < p + 8 := by
  rw [Int32.lt_iff_toInt_lt, pk_sub_toInt (by omega) (by omega), nI_toInt (by omega)]
  omega
theorem law_loop {G : ng_GG} (hn : ng_n G ≤ 4096) : ∀ (r p B : Nat), ng_n G ≤ p + 8 * r + 7 → p ≤ 4104 → B + 360000 * r < 2 ^ 30 → ∀ (C : Nat → Int32) (off : Nat → Int32) (dear : Nat → Int32) (proved : Nat → Int32) (Dg : Nat → Int32) (dw : Nat → Int32) (nw : Nat → Int32) (J : Nat → Int32) (bef : Nat → Int32) (mov : Nat → Int32) (nxt : Nat → Int32) (chn : Nat → Int32) (tol : Nat → Int32) (tw : Nat → Int32) (nu : Nat → Nat → Int64) (sw : Nat → Int32) (ss : Nat → Int32) (giv : Nat → Int32) (sE : Int32) (P : Nat → Nat → Int32) (pn : Nat) (F : Nat → Int32) (rl : Nat → Int32) (lg : Nat → Int32) (sta : Nat → Int32) (sm : Nat → Int32) (par : Nat → Int32) (mv : Nat → Int32) (dep : Nat → Int32) (nwa : Nat → Int32) (th : Nat → Int32) (bf : Nat → Int32) (row : Nat → Int32) (wid : Nat → Int32) (siz : Nat → Int32) (cel : Nat → Int64) (mvd : Nat → Int64), HI B C off dear proved Dg dw nw J bef mov nxt chn tol tw nu sw ss giv sE P pn F rl lg sta sm par mv dep nwa th bf row wid siz cel mvd → Gd G 18 (Lp p) [] (Hh C off dear proved Dg dw nw J bef mov nxt chn tol tw nu sw ss giv sE P pn F rl lg sta sm par mv dep nwa th bf row wid siz cel mvd giv) := by
  intro r
  induction r with
  | zero =>
    intro p B h1 h2 h3 C off dear proved Dg dw nw J bef mov nxt chn tol tw nu sw ss giv sE P pn F rl lg sta sm par mv dep nwa th bf row wid siz cel mvd I
    have hz := hh_sz C off dear proved Dg dw nw J bef mov nxt chn tol tw nu sw ss giv sE P pn F rl lg sta sm par mv dep nwa th bf row wid siz cel mvd I.2.2.2.2.2.2.2
    refine ⟨(Hh C off dear proved Dg dw nw J bef mov nxt chn tol tw nu sw ss giv sE P pn F rl lg sta sm par mv dep nwa th bf row wid siz cel mvd giv), hz.1, hz.2, law_hd (law_gt ((law_cmp hn (by omega)).mpr (by omega)) ?_)⟩
    exact ev_iconst (v := 1) dL_law_1512 rfl (ev_iret (ty := .boolean) rfl (ng_nz (Or.inr rfl)) dL_law_1513)
  | succ r ih =>
    intro p B h1 h2 h3 C off dear proved Dg dw nw J bef mov nxt chn tol tw nu sw ss giv sE P pn F rl lg sta sm par mv dep nwa th bf row wid siz cel mvd I
    by_cases hp : p + 8 ≤ ng_n G
    · have K : LK G p (B + 360000) := by
        intro C' off' dear' proved' Dg' dw' nw' J' bef' mov' nxt' chn' tol' tw' nu' sw' ss' giv' sE' P' pn' F' rl' lg' sta' sm' par' mv' dep' nwa' th' bf' row' wid' siz' cel' mvd' I'
        obtain ⟨M', l1, l2, kE⟩ := ih (p + 8) (B + 360000) (by omega) (by omega) (by omega) C' off' dear' proved' Dg' dw' nw' J' bef' mov' nxt' chn' tol' tw' nu' sw' ss' giv' sE' P' pn' F' rl' lg' sta' sm' par' mv' dep' nwa' th' bf' row' wid' siz' cel' mvd' I'
        refine ⟨M', l1, l2, ?_⟩
        refine ev_iinc (v := nI (p + 8)) (L' := Lp (p + 8)) dL_law_1506 rfl ?_ rfl ?_
        · exact nI_add p 8
        · exact ev_goto (tgt := 18) dL_law_1509 (by decide) kE
      have hB2 : B + 360000 < 2 ^ 30 := Nat.lt_of_le_of_lt (Nat.add_le_add_left (Nat.le_mul_of_pos_right 360000 (Nat.succ_pos r)) B) h3
      obtain ⟨k, hk, ek⟩ := and63 (ng_xs G (p + 0))
      obtain ⟨M', l1, l2, kE⟩ := law_sw (B := B) hp hn hB2 K C off dear proved Dg dw nw J bef mov nxt chn tol tw nu sw ss giv sE P pn F rl lg sta sm par mv dep nwa th bf row wid siz cel mvd I k hk
      refine ⟨M', l1, l2, law_hd (law_ng (fun h => absurd ((law_cmp hn (by omega)).mp h) (by omega)) ?_)⟩
      refine ev_aload_n (v := .float 2) dL_law_27 rfl rfl rfl ?_
      refine ev_iload_n (x := nI p) dL_law_28 rfl rfl ?_
      refine ev_sld (vp_in_nI (by omega) (by omega)) dL_law_29 ?_
      rw [pn_cl (by omega)]
      refine ev_bipush (v := nI 63) dL_law_30 (by decide) ?_
      refine ev_iand dL_law_32 ?_
      rw [ek.symm] at kE
      exact kE
    · have hz := hh_sz C off dear proved Dg dw nw J bef mov nxt chn tol tw nu sw ss giv sE P pn F rl lg sta sm par mv dep nwa th bf row wid siz cel mvd I.2.2.2.2.2.2.2
      refine ⟨(Hh C off dear proved Dg dw nw J bef mov nxt chn tol tw nu sw ss giv sE P pn F rl lg sta sm par mv dep nwa th bf row wid siz cel mvd giv), hz.1, hz.2, law_hd (law_gt ((law_cmp hn (by omega)).mpr (by omega)) ?_)⟩
      exact ev_iconst (v := 1) dL_law_1512 rfl (ev_iret (ty := .boolean) rfl (ng_nz (Or.inr rfl)) dL_law_1513)
theorem ng_law_ev (G : ng_GG) (hn : ng_n G ≤ 4096) : ∃ M' : ng_AM, M'.length ≤ 600000 ∧ ng_sz M' ≤ 7302250 ∧ ng_Ev G md_L_law 0 (ng_en 4 [.float 2]) [] [] (some (.int 1), M') := by
  obtain ⟨M', l1, l2, kE⟩ := law_loop hn 512 0 0 (by omega) (by omega) (by omega) _ _ _ _ _ _ _ _ _ _ _ _ _ _ _ _ _ _ _ _ _ _ _ _ _ _ _ _ _ _ _ _ _ _ _ _ _ i_HI
  refine ⟨M', l1, l2, law_start ?_⟩
  rw [i_heap]
  exact kE
