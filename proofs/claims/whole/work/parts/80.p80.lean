def lwb (v : Int32) : Int32 := if v = 0 then 0 else 1
theorem lwb_z (v : Int32) : lwb v = 0 ∨ lwb v = 1 := by
  unfold lwb
  by_cases h : v = 0
  · rw [if_pos h]; exact Or.inl rfl
  · rw [if_neg h]; exact Or.inr rfl
def Lp (p : Nat) : ng_LL := [some (.float 2), some (.ref 0), some (.ref 28), some (.int (nI p))]
def Gd (G : ng_GG) (pc : Nat) (L : ng_LL) (st : List Value) (M : ng_AM) : Prop := ∃ M' : ng_AM, M'.length ≤ 600000 ∧ ng_sz M' ≤ 7302250 ∧ ng_Ev G md_L_law pc L st M (some (.int 1), M')
def HI (B : Nat) (C : Nat → Int32) (off : Nat → Int32) (dear : Nat → Int32) (proved : Nat → Int32) (Dg : Nat → Int32) (dw : Nat → Int32) (nw : Nat → Int32) (J : Nat → Int32) (bef : Nat → Int32) (mov : Nat → Int32) (nxt : Nat → Int32) (chn : Nat → Int32) (tol : Nat → Int32) (tw : Nat → Int32) (nu : Nat → Nat → Int64) (sw : Nat → Int32) (ss : Nat → Int32) (giv : Nat → Int32) (sE : Int32) (P : Nat → Nat → Int32) (pn : Nat) (F : Nat → Int32) (rl : Nat → Int32) (lg : Nat → Int32) (sta : Nat → Int32) (sm : Nat → Int32) (par : Nat → Int32) (mv : Nat → Int32) (dep : Nat → Int32) (nwa : Nat → Int32) (th : Nat → Int32) (bf : Nat → Int32) (row : Nat → Int32) (wid : Nat → Int32) (siz : Nat → Int32) (cel : Nat → Int64) (mvd : Nat → Int64) : Prop := QW C off dear proved nw Dg dw F rl lg B ∧ SL nu sw ss wid siz cel ∧ JR J tol F row ∧ F 23 = sE ∧ NZ nwa ∧ NZ th ∧ NZ bf ∧ pn ≤ 300
def LK (G : ng_GG) (p B : Nat) : Prop := ∀ (C : Nat → Int32) (off : Nat → Int32) (dear : Nat → Int32) (proved : Nat → Int32) (Dg : Nat → Int32) (dw : Nat → Int32) (nw : Nat → Int32) (J : Nat → Int32) (bef : Nat → Int32) (mov : Nat → Int32) (nxt : Nat → Int32) (chn : Nat → Int32) (tol : Nat → Int32) (tw : Nat → Int32) (nu : Nat → Nat → Int64) (sw : Nat → Int32) (ss : Nat → Int32) (giv : Nat → Int32) (sE : Int32) (P : Nat → Nat → Int32) (pn : Nat) (F : Nat → Int32) (rl : Nat → Int32) (lg : Nat → Int32) (sta : Nat → Int32) (sm : Nat → Int32) (par : Nat → Int32) (mv : Nat → Int32) (dep : Nat → Int32) (nwa : Nat → Int32) (th : Nat → Int32) (bf : Nat → Int32) (row : Nat → Int32) (wid : Nat → Int32) (siz : Nat → Int32) (cel : Nat → Int64) (mvd : Nat → Int64), HI B C off dear proved Dg dw nw J bef mov nxt chn tol tw nu sw ss giv sE P pn F rl lg sta sm par mv dep nwa th bf row wid siz cel mvd → Gd G 1506 (Lp p) [] (Hh C off dear proved Dg dw nw J bef mov nxt chn tol tw nu sw ss giv sE P pn F rl lg sta sm par mv dep nwa th bf row wid siz cel mvd giv)
theorem JR_KF {J tol F F' row : Nat → Int32} (H : JR J tol F row) (h : KF F F') : JR J tol F' row := by
  unfold JR at H ⊢
  rw [h 16 (by omega) (by omega) (by omega) (by omega), h 17 (by omega) (by omega) (by omega) (by omega)]
  exact H
theorem JR_KG {J tol F F' row : Nat → Int32} (H : JR J tol F row) (h : KG F F') : JR J tol F' row := by
  unfold JR at H ⊢
  rw [h 16 (by omega) (by omega) (by omega) (by omega) (by omega), h 17 (by omega) (by omega) (by omega) (by omega) (by omega)]
  exact H
theorem KF_23 {F F' : Nat → Int32} {x : Int32} (he : F 23 = x) (h : KF F F') : F' 23 = x := (h 23 (by omega) (by omega) (by omega) (by omega)).trans he
theorem law_sc {G : ng_GG} {p j : Nat} {st : List Value} {pc : Nat} {M : ng_AM} {X : ng_RR} (hp : p + 8 ≤ ng_n G) (hn : ng_n G ≤ 4096) (hj : j < 8) (d4 : decode cL_law pc = .ok (.iaload, 1)) (k : ng_Ev G md_L_law (pc + 1) (Lp p) (.int (ng_xs G (p + j)) :: st) M X) : ng_Ev G md_L_law pc (Lp p) (.int (nI p + nI j) :: .float 2 :: st) M X := by
  rw [nI_add]
  refine ev_sld (vp_in_nI (by omega) (by omega)) d4 ?_
  rw [pn_cl (by omega)]
  exact k
theorem law_arg {G : ng_GG} {p : Nat} {st : List Value} {pc : Nat} {M : ng_AM} {X : ng_RR} (j : Nat) {c : Int} (hp : p + 8 ≤ ng_n G) (hn : ng_n G ≤ 4096) (hj : j < 8) (hc : Int32.ofInt c = nI j) (d0 : decode cL_law pc = .ok (.aload_n 0, 1)) (d1 : decode cL_law (pc + 1) = .ok (.iload_n 3, 1)) (d2 : decode cL_law (pc + 2) = .ok (.iconst c, 1)) (d3 : decode cL_law (pc + 3) = .ok (.iadd, 1)) (d4 : decode cL_law (pc + 4) = .ok (.iaload, 1)) (k : ng_Ev G md_L_law (pc + 5) (Lp p) (.int (ng_xs G (p + j)) :: st) M X) : ng_Ev G md_L_law pc (Lp p) st M X := by
  refine ev_aload_n (v := .float 2) d0 rfl rfl rfl ?_
  refine ev_iload_n (x := nI p) d1 rfl rfl ?_
  refine ev_iconst (v := nI j) d2 hc ?_
  refine ev_iadd d3 ?_
  exact law_sc hp hn hj d4 k
theorem law_arb {G : ng_GG} {p : Nat} {st : List Value} {pc : Nat} {M : ng_AM} {X : ng_RR} (j : Nat) {c : Int} (hp : p + 8 ≤ ng_n G) (hn : ng_n G ≤ 4096) (hj : j < 8) (hc : (Int8.ofInt c).toInt32 = nI j) (d0 : decode cL_law pc = .ok (.aload_n 0, 1)) (d1 : decode cL_law (pc + 1) = .ok (.iload_n 3, 1)) (d2 : decode cL_law (pc + 2) = .ok (.bipush c, 2)) (d3 : decode cL_law (pc + 4) = .ok (.iadd, 1)) (d4 : decode cL_law (pc + 5) = .ok (.iaload, 1)) (k : ng_Ev G md_L_law (pc + 6) (Lp p) (.int (ng_xs G (p + j)) :: st) M X) : ng_Ev G md_L_law pc (Lp p) st M X := by
  refine ev_aload_n (v := .float 2) d0 rfl rfl rfl ?_
  refine ev_iload_n (x := nI p) d1 rfl rfl ?_
  refine ev_bipush (v := nI j) d2 hc ?_
  refine ev_iadd d3 ?_
  exact law_sc hp hn hj d4 k
theorem law_bool {G : ng_GG} {p : Nat} {st : List Value} {pc : Nat} {M : ng_AM} {X : ng_RR} {x : Int32} (d5 : decode cL_law pc = .ok (.ifCond .eq 7, 3)) (d6 : decode cL_law (pc + 3) = .ok (.iconst 1, 1)) (d7 : decode cL_law (pc + 4) = .ok (.goto 4, 3)) (d8 : decode cL_law (pc + 7) = .ok (.iconst 0, 1)) (k : ng_Ev G md_L_law (pc + 8) (Lp p) (.int (lwb x) :: st) M X) : ng_Ev G md_L_law pc (Lp p) (.int x :: st) M X := by
  have e := ev_if_eq (tgt := pc + 7) (X := X) (Y := X) (L := Lp p) (st := st) (M := M) (G := G) (md := md_L_law) (x := x) d5 (by omega) (fun h => ev_iconst (v := 0) d8 rfl (by
    have e0 : lwb x = 0 := by unfold lwb; rw [if_pos h]
    rw [e0] at k; exact k)) (fun h => ev_iconst (v := 1) d6 rfl (ev_goto (tgt := pc + 8) d7 (by omega) (by
    have e0 : lwb x = 1 := by unfold lwb; rw [if_neg h]
    rw [e0] at k; exact k)))
  by_cases h : x = 0
  · rw [if_pos h] at e; exact e
  · rw [if_neg h] at e; exact e
theorem law_eq {G : ng_GG} {L : ng_LL} {st : List Value} {pc : Nat} {M : ng_AM} {X : ng_RR} {a : Int32} {off : Int} (hd : decode cL_law pc = .ok (.if_icmp .eq off, 3)) (ht : (pc : Int) + off = ((1506 : Nat) : Int)) (k : ng_Ev G md_L_law 1506 L st M X) : ng_Ev G md_L_law pc L (.int a :: .int a :: st) M X := by
  have e := ev_icmp_eq (tgt := 1506) (X := X) (Y := X) (L := L) (st := st) (M := M) (G := G) (md := md_L_law) (x := a) (y := a) hd ht (fun _ => k) (fun h => absurd rfl h)
  rw [if_pos rfl] at e
  exact e
theorem and63 (v : Int32) : ∃ k, k < 64 ∧ v &&& nI 63 = nI k := by
  refine ⟨v.toBitVec.toNat % 64, Nat.mod_lt _ (by omega), ?_⟩
  refine Int32.toBitVec_inj.mp ?_
  rw [Int32.toBitVec_and]
  refine BitVec.eq_of_toNat_eq ?_
  rw [BitVec.toNat_and]
  show v.toBitVec.toNat &&& 63 = (BitVec.ofNat 32 (v.toBitVec.toNat % 64)).toNat
  rw [BitVec.toNat_ofNat, Nat.mod_eq_of_lt (a := v.toBitVec.toNat % 64) (by omega)]
  exact Nat.and_two_pow_sub_one_eq_mod _ 6
theorem sz_app (a b : ng_AM) : ng_sz (a ++ b) = ng_sz a + ng_sz b := by
  unfold ng_sz; rw [List.map_append, List.sum_append]
theorem hh_p_sz (P : Nat → Nat → Int32) : ∀ n, ng_sz (hh_p P n) ≤ 5000 * n
  | 0 => Nat.le_refl _
  | n + 1 => by
    have := hh_p_sz P n
    rw [hh_p, sz_app]
    have e : ng_sz ([.inr (4, [.ref (46 + 2 * n), .ref 1, .null]), .inl (0, 494, .inl (P n))] : ng_AM) ≤ 5000 := by
      show 3 + (494 + 0) ≤ 5000
      omega
    omega
theorem hh_sz (C : Nat → Int32) (off : Nat → Int32) (dear : Nat → Int32) (proved : Nat → Int32) (Dg : Nat → Int32) (dw : Nat → Int32) (nw : Nat → Int32) (J : Nat → Int32) (bef : Nat → Int32) (mov : Nat → Int32) (nxt : Nat → Int32) (chn : Nat → Int32) (tol : Nat → Int32) (tw : Nat → Int32) (nu : Nat → Nat → Int64) (sw : Nat → Int32) (ss : Nat → Int32) (giv : Nat → Int32) (sE : Int32) (P : Nat → Nat → Int32) (pn : Nat) (F : Nat → Int32) (rl : Nat → Int32) (lg : Nat → Int32) (sta : Nat → Int32) (sm : Nat → Int32) (par : Nat → Int32) (mv : Nat → Int32) (dep : Nat → Int32) (nwa : Nat → Int32) (th : Nat → Int32) (bf : Nat → Int32) (row : Nat → Int32) (wid : Nat → Int32) (siz : Nat → Int32) (cel : Nat → Int64) (mvd : Nat → Int64) (hp : pn ≤ 300) : (Hh C off dear proved Dg dw nw J bef mov nxt chn tol tw nu sw ss giv sE P pn F rl lg sta sm par mv dep nwa th bf row wid siz cel mvd giv).length ≤ 600000 ∧ ng_sz (Hh C off dear proved Dg dw nw J bef mov nxt chn tol tw nu sw ss giv sE P pn F rl lg sta sm par mv dep nwa th bf row wid siz cel mvd giv) ≤ 7302250 := by
  constructor
  · show (hh_a C off dear proved Dg dw nw J bef mov nxt chn tol tw nu sw ss giv sE pn F rl lg sta sm par mv dep nwa th bf row wid siz cel mvd giv ++ hh_p P pn).length ≤ 600000
    rw [List.length_append, hh_p_len]
    have e : (hh_a C off dear proved Dg dw nw J bef mov nxt chn tol tw nu sw ss giv sE pn F rl lg sta sm par mv dep nwa th bf row wid siz cel mvd giv).length = 45 := rfl
    omega
  · show ng_sz (hh_a C off dear proved Dg dw nw J bef mov nxt chn tol tw nu sw ss giv sE pn F rl lg sta sm par mv dep nwa th bf row wid siz cel mvd giv ++ hh_p P pn) ≤ 7302250
    rw [sz_app]
    have e : ng_sz (hh_a C off dear proved Dg dw nw J bef mov nxt chn tol tw nu sw ss giv sE pn F rl lg sta sm par mv dep nwa th bf row wid siz cel mvd giv) ≤ 5000000 := by
      unfold ng_sz hh_a
      simp only [List.map_cons, List.map_nil, List.sum_cons, List.sum_nil, ng_cs, List.length_cons, List.length_nil]
      omega
    have := hh_p_sz P pn
    omega
def i_C : Nat → Int32 := fun i => ([nI 20, nI 200, nI 2, nI 10, nI 0, nI 5, nI 10, nI 255, nI 0, nI 1, nI 0, nI 0, nI 0, nI 0] : List Int32).getD i 0
def i_z : Nat → Int32 := fun _ => 0
def i_n : Nat → Int32 := fun _ => nI 0
def i_y : Nat → Int64 := fun _ => 0
def i_p : Nat → Int32 := f_J7_fillI (fun _ => 0) 5 (-1)
def i_F : Nat → Int32 := fun i => if i = 23 then (-1) else 0
def i_r : Nat → Int32 := upd (upd (upd (upd (upd (upd (upd (upd (upd (upd (upd (upd (upd (fun _ => 0) 1 (nI 1)) 3 (nI 255)) 4 (nI 20)) 5 (nI 200)) 6 (nI 2)) 7 (nI 10)) 9 (nI 5)) 10 (nI 10)) 44 (-1)) 47 (-1)) 50 (-1)) 53 (-1)) 56 (-1)
def i_w : Nat → Int32 := upd (upd (upd (upd (fun _ => 0) 0 (-1)) 1 (-1)) 2 (-1)) 3 (-1)
theorem i_sn : ng_sn 0 = (fun _ => none) := by
  funext i
  unfold ng_sn
  rw [if_neg (by omega)]
theorem i_sl : ng_sls = va_up (va_up (va_up (va_up (fun _ => none) 0 (some 19)) 1 (some 21)) 2 (some 23)) 3 (some 25) := by
  funext i
  match i with
  | 0 => rfl
  | 1 => rfl
  | 2 => rfl
  | 3 => rfl
  | n + 4 =>
    unfold ng_sls
    rw [if_neg (by omega), va_up_o _ _ _ _ (by omega), va_up_o _ _ _ _ (by omega), va_up_o _ _ _ _ (by omega), va_up_o _ _ _ _ (by omega)]
theorem i_heap : h45 = Hh i_C i_z i_z i_p i_n i_z i_z i_n i_z i_z i_z i_z i_z i_z (fun _ => i_y) (fun _ => -1) i_n i_z (-1) (fun _ => i_z) 0 i_F i_r i_z i_z i_z i_z i_z i_z i_z i_z i_z i_z i_w i_z i_y i_y i_z := by
  unfold h45
  rw [← i_sl, ← i_sn]
  rfl
theorem i_pv (i : Nat) : i_p i = if i < 5 then (-1) else 0 := by
  have e : i_p = (fun i => if 0 ≤ i ∧ i < 5 then (-1) else 0) := (fillI5 (nn := 5) (v := (-1)) (by omega) ng_F 0 (fun _ => 0) (by rw [ng_F_v]; omega) (by omega)).1
  rw [e]
  by_cases h : i < 5
  · simp [h]
  · simp [h]
theorem i_rl : i_r = eV i_C i_z i_z i_p i_z := by
  funext i
  by_cases h : i < 59
  · have h2 : ∀ i, i < 59 → i_r i = eV i_C i_z i_z (fun i => if i < 5 then (-1) else 0) i_z i := by decide +kernel
    have e : i_p = (fun i => if i < 5 then (-1) else 0) := funext i_pv
    rw [e]; exact h2 i h
  · unfold eV
    rw [if_neg (by omega), if_neg (by omega), if_neg (by omega)]
    unfold i_r
    rw [pu_n _ _ (by omega), pu_n _ _ (by omega), pu_n _ _ (by omega), pu_n _ _ (by omega), pu_n _ _ (by omega), pu_n _ _ (by omega), pu_n _ _ (by omega), pu_n _ _ (by omega), pu_n _ _ (by omega), pu_n _ _ (by omega), pu_n _ _ (by omega), pu_n _ _ (by omega), pu_n _ _ (by omega)]
    simp [i_z]
theorem i_HI : HI 0 i_C i_z i_z i_p i_n i_z i_z i_n i_z i_z i_z i_z i_z i_z (fun _ => i_y) (fun _ => -1) i_n i_z (-1) (fun _ => i_z) 0 i_F i_r i_z i_z i_z i_z i_z i_z i_z i_z i_z i_z i_w i_z i_y i_y := by
  refine ⟨⟨0, 0, 0, 0, 0, ⟨10, 5, rfl, by omega, by omega, rfl, by omega, by omega⟩, ?_, ?_, by omega, i_rl, ?_, ?_⟩, ?_, ?_, rfl, fun _ _ => rfl, fun _ _ => rfl, fun _ _ => rfl, by omega⟩
  · refine ⟨⟨rfl, by omega⟩, ⟨rfl, by omega⟩, ⟨rfl, by omega⟩, ⟨rfl, by omega⟩, ⟨rfl, by omega⟩, fun x h => absurd h (Nat.not_lt_zero _), fun x h => absurd h (Nat.not_lt_zero _), fun l m p q h1 h2 => absurd h2 (Nat.not_lt_zero _), ?_, Or.inr rfl⟩
    intro h _ hh
    match h, hh with
    | 0, _ => rfl
    | 1, _ => rfl
    | 2, _ => rfl
    | 3, _ => rfl
  · exact fun x h hx => absurd hx (Nat.not_lt_zero _)
  · exact ⟨rfl, rfl, 0, 0, rfl, rfl, rfl, rfl, by omega, by omega, by omega, fun i j h => absurd h (Nat.not_lt_zero _), fun i h => absurd h (Nat.not_lt_zero _)⟩
  · intro h _ hh
    match h, hh with
    | 0, _ => rfl
    | 1, _ => rfl
    | 2, _ => rfl
    | 3, _ => rfl
  · intro s hs
    match s, hs with
    | 0, _ => exact ⟨rfl, Or.inl rfl, ⟨0, by omega, rfl, rfl⟩, fun _ _ => rfl⟩
    | 1, _ => exact ⟨rfl, Or.inl rfl, ⟨0, by omega, rfl, rfl⟩, fun _ _ => rfl⟩
    | 2, _ => exact ⟨rfl, Or.inl rfl, ⟨0, by omega, rfl, rfl⟩, fun _ _ => rfl⟩
    | 3, _ => exact ⟨rfl, Or.inl rfl, ⟨0, by omega, rfl, rfl⟩, fun _ _ => rfl⟩
  · exact ⟨rfl, 0, by omega, rfl, rfl, fun i h => absurd h (Nat.not_lt_zero _)⟩
