def hh_a (C : Nat → Int32) (off : Nat → Int32) (dear : Nat → Int32) (proved : Nat → Int32) (Dg : Nat → Int32) (dw : Nat → Int32) (nw : Nat → Int32) (J : Nat → Int32) (bef : Nat → Int32) (mov : Nat → Int32) (nxt : Nat → Int32) (chn : Nat → Int32) (tol : Nat → Int32) (tw : Nat → Int32) (nu : Nat → Nat → Int64) (sw : Nat → Int32) (ss : Nat → Int32) (giv : Nat → Int32) (sE : Int32) (pn : Nat) (F : Nat → Int32) (rl : Nat → Int32) (lg : Nat → Int32) (sta : Nat → Int32) (sm : Nat → Int32) (par : Nat → Int32) (mv : Nat → Int32) (dep : Nat → Int32) (nwa : Nat → Int32) (th : Nat → Int32) (bf : Nat → Int32) (row : Nat → Int32) (wid : Nat → Int32) (siz : Nat → Int32) (cel : Nat → Int64) (mvd : Nat → Int64) (ned : Nat → Int32) : ng_AM :=
  [.inr (5, [.ref 1, .ref 5, .ref 7, .ref 9, .ref 18, .ref 27, .int sE]),
   .inr (2, [.int (C 0), .int (C 1), .int (C 2), .int (C 3), .int (C 4), .int (C 5), .int (C 6), .int (C 7), .int (C 8), .int (C 9), .int (C 10), .int (C 11), .int (C 12), .int (C 13), .ref 2, .ref 3, .ref 4]),
   .inl (0, 4, .inl off),
   .inl (0, 4, .inl dear),
   .inl (0, 5, .inl proved),
   .inr (0, [.ref 6, .int (Dg 1), .int (Dg 2), .int (Dg 3)]),
   .inl (0, 360, .inl dw),
   .inr (4, [.ref 8, .ref 1, ng_dv true]),
   .inl (0, 494, .inl nw),
   .inr (1, [.ref 1, .ref 7, .ref 16, .ref 10, .ref 11, .ref 12, .ref 13, .ref 14, .ref 15, .int (J 9), .int (J 10), .int (J 11), .int (J 12), .int (J 13), .int (J 14), .int (J 15), .int (J 16), .int (J 17)]),
   .inl (2, 300, .inr (.inr (.inr (.inr (ng_sn pn))))),
   .inl (0, 300, .inl bef),
   .inl (0, 300, .inl mov),
   .inl (0, 300, .inl nxt),
   .inl (0, 256, .inl chn),
   .inl (0, 6, .inl tol),
   .inr (4, [.ref 17, .ref 1, ng_dv false]),
   .inl (0, 494, .inl tw),
   .inl (3, 4, .inr (.inr (.inr (.inr ng_sls)))),
   .inr (3, [.ref 20, .int (sw 0), .int (ss 0)]),
   .inl (1, 60, .inr (.inl (nu 0))),
   .inr (3, [.ref 22, .int (sw 1), .int (ss 1)]),
   .inl (1, 60, .inr (.inl (nu 1))),
   .inr (3, [.ref 24, .int (sw 2), .int (ss 2)]),
   .inl (1, 60, .inr (.inl (nu 2))),
   .inr (3, [.ref 26, .int (sw 3), .int (ss 3)]),
   .inl (1, 60, .inr (.inl (nu 3))),
   .inl (0, 4, .inl giv),
   .inr (6, [.int (F 0), .ref 29, .int (F 2), .int (F 3), .int (F 4), .int (F 5), .ref 30, .ref 31, .ref 32, .ref 33, .ref 34, .ref 35, .ref 36, .ref 37, .ref 38, .int (F 15), .int (F 16), .int (F 17), .ref 39, .ref 40, .ref 41, .ref 42, .ref 43, .int (F 23), .int (F 24), .int (F 25), .int (F 26), .ref 44]),
   .inl (0, 527, .inl rl),
   .inl (0, 360, .inl lg),
   .inl (0, 158100, .inl sta),
   .inl (0, 300, .inl sm),
   .inl (0, 300, .inl par),
   .inl (0, 300, .inl mv),
   .inl (0, 300, .inl dep),
   .inl (0, 527, .inl nwa),
   .inl (0, 527, .inl th),
   .inl (0, 527, .inl bf),
   .inl (0, 6, .inl row),
   .inl (0, 4, .inl wid),
   .inl (0, 4, .inl siz),
   .inl (1, 240, .inr (.inl cel)),
   .inl (1, 60, .inr (.inl mvd)),
   .inl (0, 4, .inl ned)]
def hh_p (P : Nat → Nat → Int32) : Nat → ng_AM
  | 0 => []
  | n + 1 => hh_p P n ++ [.inr (4, [.ref (46 + 2 * n), .ref 1, .null]), .inl (0, 494, .inl (P n))]
theorem hh_p_len (P : Nat → Nat → Int32) : ∀ n, (hh_p P n).length = 2 * n
  | 0 => rfl
  | n + 1 => by rw [hh_p, List.length_append, hh_p_len P n]; rfl
theorem hh_p_g (P : Nat → Nat → Int32) : ∀ n j, j < n → (hh_p P n)[2 * j]? = some (.inr (4, [.ref (46 + 2 * j), .ref 1, .null])) ∧ (hh_p P n)[2 * j + 1]? = some (.inl (0, 494, .inl (P j)))
  | 0, j, h => absurd h (Nat.not_lt_zero _)
  | n + 1, j, h => by
    have hl := hh_p_len P n
    rw [hh_p]
    by_cases e : j = n
    · subst e
      rw [List.getElem?_append_right (by omega), List.getElem?_append_right (by omega), hl, Nat.sub_self, Nat.add_sub_cancel_left]
      exact ⟨rfl, rfl⟩
    · have := hh_p_g P n j (by omega)
      rw [List.getElem?_append_left (by omega), List.getElem?_append_left (by omega)]
      exact this
theorem hh_p_c (P P' : Nat → Nat → Int32) : ∀ n, (∀ i, i < n → P i = P' i) → hh_p P n = hh_p P' n
  | 0, _ => rfl
  | n + 1, h1 => by rw [hh_p, hh_p, hh_p_c P P' n (fun i hi => h1 i (by omega)), h1 n (by omega)]
theorem va_up_s {α : Type} (f : Nat → α) (i : Nat) (v : α) : va_up f i v i = v := by unfold va_up; simp
theorem va_up_o {α : Type} (f : Nat → α) (i j : Nat) (v : α) (h : j ≠ i) : va_up f i v j = f j := by unfold va_up; simp [h]
theorem hh_p_t (P : Nat → Nat → Int32) (v : Nat → Int32) : ∀ n j, j < n → (hh_p P n).set (2 * j + 1) (.inl (0, 494, .inl v)) = hh_p (va_up P j v) n
  | 0, j, h => absurd h (Nat.not_lt_zero _)
  | n + 1, j, h => by
    have hl := hh_p_len P n
    rw [hh_p, hh_p]
    by_cases e : j = n
    · subst e
      rw [List.set_append_right _ _ (by omega), hl, Nat.add_sub_cancel_left, hh_p_c (va_up P j v) P j (fun i hi => va_up_o _ _ _ _ (by omega)), va_up_s]
      rfl
    · rw [List.set_append_left _ _ (by omega), hh_p_t P v n j (by omega), va_up_o _ _ _ _ (fun h => e h.symm)]
theorem hh_sn (pn : Nat) : va_up (ng_sn pn) pn (some (45 + 2 * pn)) = ng_sn (pn + 1) := by
  funext i
  unfold va_up ng_sn
  by_cases h : i = pn
  · subst h; simp
  · by_cases h2 : i < pn
    · have h3 : i < pn + 1 := by omega
      simp [h, h2, h3]
    · have h3 : ¬ i < pn + 1 := by omega
      simp [h, h2, h3]
theorem hh_ag {a b : ng_AM} {c : ng_AC} {i j : Nat} (hl : a.length = 45) (hi : i = 45 + j) (h : b[j]? = some c) : (a ++ b)[i]? = some c := by
  subst hi
  rw [List.getElem?_append_right (by omega), hl, Nat.add_sub_cancel_left]; exact h
theorem hh_as {a b b' : ng_AM} {c : ng_AC} {i j : Nat} (hl : a.length = 45) (hi : i = 45 + j) (h : b.set j c = b') : (a ++ b).set i c = a ++ b' := by
  subst hi
  rw [List.set_append_right _ _ (by omega), hl, Nat.add_sub_cancel_left, h]
def Hh (C : Nat → Int32) (off : Nat → Int32) (dear : Nat → Int32) (proved : Nat → Int32) (Dg : Nat → Int32) (dw : Nat → Int32) (nw : Nat → Int32) (J : Nat → Int32) (bef : Nat → Int32) (mov : Nat → Int32) (nxt : Nat → Int32) (chn : Nat → Int32) (tol : Nat → Int32) (tw : Nat → Int32) (nu : Nat → Nat → Int64) (sw : Nat → Int32) (ss : Nat → Int32) (giv : Nat → Int32) (sE : Int32) (P : Nat → Nat → Int32) (pn : Nat) (F : Nat → Int32) (rl : Nat → Int32) (lg : Nat → Int32) (sta : Nat → Int32) (sm : Nat → Int32) (par : Nat → Int32) (mv : Nat → Int32) (dep : Nat → Int32) (nwa : Nat → Int32) (th : Nat → Int32) (bf : Nat → Int32) (row : Nat → Int32) (wid : Nat → Int32) (siz : Nat → Int32) (cel : Nat → Int64) (mvd : Nat → Int64) (ned : Nat → Int32) : ng_AM := hh_a C off dear proved Dg dw nw J bef mov nxt chn tol tw nu sw ss giv sE pn F rl lg sta sm par mv dep nwa th bf row wid siz cel mvd ned ++ hh_p P pn
theorem hh_NL (F : Nat → Int32) (rl : Nat → Int32) (lg : Nat → Int32) (sta : Nat → Int32) (sm : Nat → Int32) (par : Nat → Int32) (mv : Nat → Int32) (dep : Nat → Int32) (nwa : Nat → Int32) (th : Nat → Int32) (bf : Nat → Int32) (row : Nat → Int32) (wid : Nat → Int32) (siz : Nat → Int32) (cel : Nat → Int64) (mvd : Nat → Int64) (ned : Nat → Int32) : ng_NL (fun C off dear proved Dg dw nw J bef mov nxt chn tol tw nu sw ss giv sE P pn => Hh C off dear proved Dg dw nw J bef mov nxt chn tol tw nu sw ss giv sE P pn F rl lg sta sm par mv dep nwa th bf row wid siz cel mvd ned) :=
  ⟨fun _ _ _ _ _ _ _ _ _ _ _ _ _ _ _ _ _ _ _ _ _ => rfl,
  fun _ _ _ _ _ _ _ _ _ _ _ _ _ _ _ _ _ _ _ _ _ _ => rfl,
  fun _ _ _ _ _ _ _ _ _ _ _ _ _ _ _ _ _ _ _ _ _ => rfl,
  fun _ _ _ _ _ _ _ _ _ _ _ _ _ _ _ _ _ _ _ _ _ _ => rfl,
  fun _ _ _ _ _ _ _ _ _ _ _ _ _ _ _ _ _ _ _ _ _ => rfl,
  fun _ _ _ _ _ _ _ _ _ _ _ _ _ _ _ _ _ _ _ _ _ _ => rfl,
  fun _ _ _ _ _ _ _ _ _ _ _ _ _ _ _ _ _ _ _ _ _ => rfl,
  fun _ _ _ _ _ _ _ _ _ _ _ _ _ _ _ _ _ _ _ _ _ _ => rfl,
  fun _ _ _ _ _ _ _ _ _ _ _ _ _ _ _ _ _ _ _ _ _ => rfl,
  fun _ _ _ _ _ _ _ _ _ _ _ _ _ _ _ _ _ _ _ _ _ _ => rfl,
  fun _ _ _ _ _ _ _ _ _ _ _ _ _ _ _ _ _ _ _ _ _ => rfl,
  fun _ _ _ _ _ _ _ _ _ _ _ _ _ _ _ _ _ _ _ _ _ _ => rfl,
  fun _ _ _ _ _ _ _ _ _ _ _ _ _ _ _ _ _ _ _ _ _ => rfl,
  fun _ _ _ _ _ _ _ _ _ _ _ _ _ _ _ _ _ _ _ _ _ _ => rfl,
  fun _ _ _ _ _ _ _ _ _ _ _ _ _ _ _ _ _ _ _ _ _ => rfl,
  fun _ _ _ _ _ _ _ _ _ _ _ _ _ _ _ _ _ _ _ _ _ => rfl,
  fun _ _ _ _ _ _ _ _ _ _ _ _ _ _ _ _ _ _ _ _ _ _ => rfl,
  fun _ _ _ _ _ _ _ _ _ _ _ _ _ _ _ _ _ _ _ _ _ => rfl,
  fun _ _ _ _ _ _ _ _ _ _ _ _ _ _ _ _ _ _ _ _ _ _ => rfl,
  fun _ _ _ _ _ _ _ _ _ _ _ _ _ _ _ _ _ _ _ _ _ => rfl,
  fun _ _ _ _ _ _ _ _ _ _ _ _ _ _ _ _ _ _ _ _ _ => rfl,
  fun _ _ _ _ _ _ _ _ _ _ _ _ _ _ _ _ _ _ _ _ _ _ => rfl,
  fun _ _ _ _ _ _ _ _ _ _ _ _ _ _ _ _ _ _ _ _ _ => rfl,
  fun _ _ _ _ _ _ _ _ _ _ _ _ _ _ _ _ _ _ _ _ _ _ => rfl,
  fun _ _ _ _ _ _ _ _ _ _ _ _ _ _ _ _ _ _ _ _ _ => rfl,
  fun _ _ _ _ _ _ _ _ _ _ _ _ _ _ _ _ _ _ _ _ _ _ => rfl,
  fun _ _ _ _ _ _ _ _ _ _ _ _ _ _ _ _ _ _ _ _ _ => rfl,
  fun _ _ _ _ _ _ _ _ _ _ _ _ _ _ _ _ _ _ _ _ _ _ => rfl,
  fun _ _ _ _ _ _ _ _ _ _ _ _ _ _ _ _ _ _ _ _ _ => rfl,
  fun _ _ _ _ _ _ _ _ _ _ _ _ _ _ _ _ _ _ _ _ _ _ => rfl,
  fun _ _ _ _ _ _ _ _ _ _ _ _ _ _ _ _ _ _ _ _ _ => rfl,
  fun _ _ _ _ _ _ _ _ _ _ _ _ _ _ _ _ _ _ _ _ _ => rfl,
  fun _ _ _ _ _ _ _ _ _ _ _ _ _ _ _ _ _ _ _ _ _ _ => rfl,
  fun _ _ _ _ _ _ _ _ _ _ _ _ _ _ _ _ _ _ _ _ _ => rfl,
  fun _ _ _ _ _ _ _ _ _ _ _ _ _ _ _ _ _ _ _ _ _ j hj => match j, hj with
    | 0, _ => rfl
    | 1, _ => rfl
    | 2, _ => rfl
    | 3, _ => rfl,
  fun _ _ _ _ _ _ _ _ _ _ _ _ _ _ _ _ _ _ _ _ _ j _ _ hj => match j, hj with
    | 0, _ => rfl
    | 1, _ => rfl
    | 2, _ => rfl
    | 3, _ => rfl,
  fun _ _ _ _ _ _ _ _ _ _ _ _ _ _ _ _ _ _ _ _ _ j hj => match j, hj with
    | 0, _ => rfl
    | 1, _ => rfl
    | 2, _ => rfl
    | 3, _ => rfl,
  fun _ _ _ _ _ _ _ _ _ _ _ _ _ _ _ _ _ _ _ _ _ j _ hj => match j, hj with
    | 0, _ => rfl
    | 1, _ => rfl
    | 2, _ => rfl
    | 3, _ => rfl,
  fun _ _ _ _ _ _ _ _ _ _ _ _ _ _ _ _ _ _ _ _ _ => rfl,
  fun _ _ _ _ _ _ _ _ _ _ _ _ _ _ _ _ _ _ _ _ _ _ => rfl,
  fun C off dear proved Dg dw nw J bef mov nxt chn tol tw nu sw ss giv sE P pn j hj => hh_ag rfl (by omega) (hh_p_g P pn j hj).1,
  fun C off dear proved Dg dw nw J bef mov nxt chn tol tw nu sw ss giv sE P pn j hj => hh_ag rfl (by omega) (hh_p_g P pn j hj).2,
  fun C off dear proved Dg dw nw J bef mov nxt chn tol tw nu sw ss giv sE P pn j v hj => hh_as rfl (by omega) (hh_p_t P v pn j hj),
  fun C off dear proved Dg dw nw J bef mov nxt chn tol tw nu sw ss giv sE P pn => by
    show (hh_a _ _ _ _ _ _ _ _ _ _ _ _ _ _ _ _ _ _ _ _ _ _ _ _ _ _ _ _ _ _ _ _ _ _ _ _ _ ++ hh_p P pn).length = 45 + 2 * pn
    rw [List.length_append, hh_p_len]; rfl,
  fun C off dear proved Dg dw nw J bef mov nxt chn tol tw nu sw ss giv sE P pn => by
    rw [hh_sn]
    show _ = hh_a C off dear proved Dg dw nw J bef mov nxt chn tol tw nu sw ss giv sE (pn + 1) F rl lg sta sm par mv dep nwa th bf row wid siz cel mvd ned ++ (hh_p (va_up P pn (fun _ => 0)) pn ++ _)
    rw [hh_p_c (va_up P pn (fun _ => 0)) P pn (fun i hi => va_up_o _ _ _ _ (by omega)), va_up_s]
    show ((hh_a C off dear proved Dg dw nw J bef mov nxt chn tol tw nu sw ss giv sE pn F rl lg sta sm par mv dep nwa th bf row wid siz cel mvd ned ++ hh_p P pn) ++ _).set 10 _ = _
    rw [List.append_assoc]
    rfl⟩
theorem hh_FL (C : Nat → Int32) (off : Nat → Int32) (dear : Nat → Int32) (proved : Nat → Int32) (Dg : Nat → Int32) (dw : Nat → Int32) (nw : Nat → Int32) (J : Nat → Int32) (bef : Nat → Int32) (mov : Nat → Int32) (nxt : Nat → Int32) (chn : Nat → Int32) (tol : Nat → Int32) (tw : Nat → Int32) (nu : Nat → Nat → Int64) (sw : Nat → Int32) (ss : Nat → Int32) (giv : Nat → Int32) (sE : Int32) (P : Nat → Nat → Int32) (pn : Nat) : ng_FL (fun F rl lg sta sm par mv dep nwa th bf row wid siz cel mvd ned => Hh C off dear proved Dg dw nw J bef mov nxt chn tol tw nu sw ss giv sE P pn F rl lg sta sm par mv dep nwa th bf row wid siz cel mvd ned) :=
  ⟨fun _ _ _ _ _ _ _ _ _ _ _ _ _ _ _ _ _ => rfl,
  fun _ _ _ _ _ _ _ _ _ _ _ _ _ _ _ _ _ _ => rfl,
  fun _ _ _ _ _ _ _ _ _ _ _ _ _ _ _ _ _ => rfl,
  fun _ _ _ _ _ _ _ _ _ _ _ _ _ _ _ _ _ _ => rfl,
  fun _ _ _ _ _ _ _ _ _ _ _ _ _ _ _ _ _ => rfl,
  fun _ _ _ _ _ _ _ _ _ _ _ _ _ _ _ _ _ _ => rfl,
  fun _ _ _ _ _ _ _ _ _ _ _ _ _ _ _ _ _ => rfl,
  fun _ _ _ _ _ _ _ _ _ _ _ _ _ _ _ _ _ _ => rfl,
  fun _ _ _ _ _ _ _ _ _ _ _ _ _ _ _ _ _ => rfl,
  fun _ _ _ _ _ _ _ _ _ _ _ _ _ _ _ _ _ _ => rfl,
  fun _ _ _ _ _ _ _ _ _ _ _ _ _ _ _ _ _ => rfl,
  fun _ _ _ _ _ _ _ _ _ _ _ _ _ _ _ _ _ _ => rfl,
  fun _ _ _ _ _ _ _ _ _ _ _ _ _ _ _ _ _ => rfl,
  fun _ _ _ _ _ _ _ _ _ _ _ _ _ _ _ _ _ _ => rfl,
  fun _ _ _ _ _ _ _ _ _ _ _ _ _ _ _ _ _ => rfl,
  fun _ _ _ _ _ _ _ _ _ _ _ _ _ _ _ _ _ _ => rfl,
  fun _ _ _ _ _ _ _ _ _ _ _ _ _ _ _ _ _ => rfl,
  fun _ _ _ _ _ _ _ _ _ _ _ _ _ _ _ _ _ _ => rfl,
  fun _ _ _ _ _ _ _ _ _ _ _ _ _ _ _ _ _ => rfl,
  fun _ _ _ _ _ _ _ _ _ _ _ _ _ _ _ _ _ _ => rfl,
  fun _ _ _ _ _ _ _ _ _ _ _ _ _ _ _ _ _ => rfl,
  fun _ _ _ _ _ _ _ _ _ _ _ _ _ _ _ _ _ _ => rfl,
  fun _ _ _ _ _ _ _ _ _ _ _ _ _ _ _ _ _ => rfl,
  fun _ _ _ _ _ _ _ _ _ _ _ _ _ _ _ _ _ _ => rfl,
  fun _ _ _ _ _ _ _ _ _ _ _ _ _ _ _ _ _ => rfl,
  fun _ _ _ _ _ _ _ _ _ _ _ _ _ _ _ _ _ _ => rfl,
  fun _ _ _ _ _ _ _ _ _ _ _ _ _ _ _ _ _ => rfl,
  fun _ _ _ _ _ _ _ _ _ _ _ _ _ _ _ _ _ _ => rfl,
  fun _ _ _ _ _ _ _ _ _ _ _ _ _ _ _ _ _ => rfl,
  fun _ _ _ _ _ _ _ _ _ _ _ _ _ _ _ _ _ _ => rfl,
  fun _ _ _ _ _ _ _ _ _ _ _ _ _ _ _ _ _ => rfl,
  fun _ _ _ _ _ _ _ _ _ _ _ _ _ _ _ _ _ _ => rfl,
  fun _ _ _ _ _ _ _ _ _ _ _ _ _ _ _ _ _ => rfl,
  fun _ _ _ _ _ _ _ _ _ _ _ _ _ _ _ _ _ _ => rfl⟩
