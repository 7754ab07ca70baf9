/-! ===== Int32 by its bits: bt x i ===== -/
def bt (x : Int32) (i : Nat) : Bool := x.toBitVec.getLsbD i
theorem b_ext {x y : Int32} (h : ∀ i, i < 32 → bt x i = bt y i) : x = y := Int32.toBitVec_inj.mp (BitVec.eq_of_getLsbD_eq (fun i hi => h i hi))
theorem b_or (x y : Int32) (i : Nat) : bt (x ||| y) i = (bt x i || bt y i) := by unfold bt; rw [Int32.toBitVec_or, BitVec.getLsbD_or]
theorem b_and (x y : Int32) (i : Nat) : bt (x &&& y) i = (bt x i && bt y i) := by unfold bt; rw [Int32.toBitVec_and, BitVec.getLsbD_and]
theorem b_xor (x y : Int32) (i : Nat) : bt (x ^^^ y) i = (bt x i ^^ bt y i) := by unfold bt; rw [Int32.toBitVec_xor, BitVec.getLsbD_xor]
theorem b_big {x : Int32} {i : Nat} (h : 32 ≤ i) : bt x i = false := BitVec.getLsbD_of_ge _ _ h
theorem b_m1 : ∀ i, i < 32 → bt (-1) i = true := by decide +kernel
theorem b_0 (i : Nat) : bt 0 i = false := BitVec.getLsbD_zero
theorem s_l : ∀ n, n < 32 → ((nI n &&& 31).toBitVec.smod 32).toNat = n := by decide +kernel
theorem s_u : ∀ n, n < 32 → (((nI n).toUInt32 &&& Int32.toUInt32 31).toBitVec % 32).toNat = n := by decide +kernel
theorem b_shl (n : Nat) (hn : n < 32) (x : Int32) {i : Nat} (hi : i < 32) : bt (x <<< (nI n &&& 31)) i = (decide (n ≤ i) && bt x (i - n)) := by
  unfold bt
  rw [Int32.toBitVec_shiftLeft]
  show (x.toBitVec <<< ((nI n &&& 31).toBitVec.smod 32).toNat).getLsbD i = _
  rw [s_l n hn, BitVec.getLsbD_shiftLeft]
  rcases Nat.lt_or_ge i n with h | h
  · simp [h, Nat.not_le.mpr h]
  · simp [hi, h, Nat.not_lt.mpr h]
theorem b_ushr (n : Nat) (hn : n < 32) (x : Int32) (i : Nat) : bt ((x.toUInt32 >>> ((nI n).toUInt32 &&& Int32.toUInt32 31)).toInt32) i = bt x (n + i) := by
  show (x.toUInt32 >>> ((nI n).toUInt32 &&& Int32.toUInt32 31)).toBitVec.getLsbD i = x.toUInt32.toBitVec.getLsbD (n + i)
  rw [UInt32.toBitVec_shiftRight]
  show (x.toUInt32.toBitVec >>> (((nI n).toUInt32 &&& Int32.toUInt32 31).toBitVec % 32).toNat).getLsbD i = _
  rw [s_u n hn, BitVec.getLsbD_ushiftRight]
theorem b_sshr (n : Nat) (hn : n < 32) (x : Int32) {i : Nat} (hi : i < 32) : bt (x >>> (nI n &&& 31)) i = if n + i < 32 then bt x (n + i) else bt x 31 := by
  unfold bt
  rw [Int32.toBitVec_shiftRight]
  show (x.toBitVec.sshiftRight ((nI n &&& 31).toBitVec.smod 32).toNat).getLsbD i = _
  rw [s_l n hn, BitVec.getLsbD_sshiftRight, BitVec.msb_eq_getLsbD_last]
  simp [hi]
theorem b_1 : ∀ i, i < 32 → bt (nI 1) i = decide (i = 0) := by decide +kernel
theorem b_n0 : nI 0 = 0 := rfl
theorem sh_bit (x : Int32) {h : Nat} (hh : h < 32) : (x >>> (nI h &&& 31)) &&& nI 1 = if bt x h = true then nI 1 else nI 0 := by
  apply b_ext
  intro i hi
  rw [b_and, b_sshr h hh x hi, b_1 i hi]
  by_cases e : i = 0
  · subst e
    rw [if_pos (by omega)]
    by_cases q : bt x h = true
    · rw [if_pos q, b_1 0 (by omega)]; simp [q]
    · rw [if_neg q, b_n0, b_0]; simp [Bool.not_eq_true _ ▸ q]
  · have e2 : decide (i = 0) = false := by simp [e]
    rw [e2, Bool.and_false]
    by_cases q : bt x h = true
    · rw [if_pos q, b_1 i hi, e2]
    · rw [if_neg q, b_n0, b_0]
theorem ush_bit (x : Int32) {h : Nat} (hh : h < 32) : ((x.toUInt32 >>> ((nI h).toUInt32 &&& Int32.toUInt32 31)).toInt32) &&& nI 1 = if bt x h = true then nI 1 else nI 0 := by
  apply b_ext
  intro i hi
  rw [b_and, b_ushr h hh x i, b_1 i hi]
  by_cases e : i = 0
  · subst e
    by_cases q : bt x h = true
    · rw [if_pos q, b_1 0 (by omega)]; simp [q]
    · rw [if_neg q, b_n0, b_0]; simp [Bool.not_eq_true _ ▸ q]
  · have e2 : decide (i = 0) = false := by simp [e]
    rw [e2, Bool.and_false]
    by_cases q : bt x h = true
    · rw [if_pos q, b_1 i hi, e2]
    · rw [if_neg q, b_n0, b_0]
theorem n10 : ¬ (nI 0 = nI 1) := by decide
theorem n01 : ¬ (nI 1 = nI 0) := by decide
theorem n1z : ¬ (nI 1 = 0) := by decide
theorem bit_1 (x : Int32) {h : Nat} (hh : h < 32) : ((x >>> (nI h &&& 31)) &&& nI 1 = nI 1) = (bt x h = true) := by
  rw [sh_bit x hh]
  by_cases q : bt x h = true
  · simp [q]
  · simp [q, n10]
theorem bit_0 (x : Int32) {h : Nat} (hh : h < 32) : ((x >>> (nI h &&& 31)) &&& nI 1 = 0) = (bt x h = false) := by
  rw [sh_bit x hh]
  by_cases q : bt x h = true
  · simp [q, n1z]
  · simp [q, b_n0]
theorem ubit_1 (x : Int32) {h : Nat} (hh : h < 32) : (((x.toUInt32 >>> ((nI h).toUInt32 &&& Int32.toUInt32 31)).toInt32) &&& nI 1 = nI 1) = (bt x h = true) := by
  rw [ush_bit x hh]
  by_cases q : bt x h = true
  · simp [q]
  · simp [q, n10]
theorem b_sh1 (h : Nat) (hh : h < 32) (i : Nat) (hi : i < 32) : bt (nI 1 <<< (nI h &&& 31)) i = decide (i = h) := by
  rw [b_shl h hh _ hi]
  by_cases e : h ≤ i
  · rw [b_1 (i - h) (by omega)]
    by_cases e2 : i = h
    · simp [e2]
    · have : ¬ (i - h = 0) := by omega
      simp [e2, this]
  · have : ¬ i = h := by omega
    simp [e, this]
theorem tap_c (t : Int32) {a b : Nat} (ha : a < 32) (hb : b < 32) : (((t >>> (nI a &&& 31)) ||| (t >>> (nI b &&& 31))) &&& nI 1 = nI 1) = (bt t a = true ∨ bt t b = true) := by
  have e : ((t >>> (nI a &&& 31)) ||| (t >>> (nI b &&& 31))) &&& nI 1 = ((t >>> (nI a &&& 31)) &&& nI 1) ||| ((t >>> (nI b &&& 31)) &&& nI 1) := by
    apply b_ext
    intro i hi
    rw [b_and, b_or, b_or, b_and, b_and, Bool.and_or_distrib_right]
  rw [e, sh_bit t ha, sh_bit t hb]
  by_cases q : bt t a = true <;> by_cases r : bt t b = true <;> simp [q, r] <;> decide
theorem tap_m (t : Int32) {a b : Nat} (ha : a < 32) (hb : b < 32) : (((nI 1 <<< (nI a &&& 31)) ||| (nI 1 <<< (nI b &&& 31))) &&& t = 0) = ¬ (bt t a = true ∨ bt t b = true) := by
  apply propext
  constructor
  · intro h q
    have h2 : ∀ i, bt (((nI 1 <<< (nI a &&& 31)) ||| (nI 1 <<< (nI b &&& 31))) &&& t) i = false := fun i => by rw [h, b_0]
    rcases q with q | q
    · have := h2 a
      rw [b_and, b_or, b_sh1 a ha a ha, q] at this
      simp at this
    · have := h2 b
      rw [b_and, b_or, b_sh1 b hb b hb, q] at this
      simp at this
  · intro h
    apply b_ext
    intro i hi
    rw [b_and, b_or, b_sh1 a ha i hi, b_sh1 b hb i hi, b_0]
    by_cases e : i = a
    · subst e
      have : bt t i = false := by
        cases hq : bt t i with
        | false => rfl
        | true => exact absurd (Or.inl hq) h
      simp [this]
    · by_cases e2 : i = b
      · subst e2
        have : bt t i = false := by
          cases hq : bt t i with
          | false => rfl
          | true => exact absurd (Or.inr hq) h
        simp [this]
      · simp [e, e2]
theorem bt1_v (b : Int32) {h : Nat} (hh : h < 32) : bt1 b h = if bt b h = true then nI 1 else nI 0 := by
  unfold bt1
  rw [sh_bit b hh]
  by_cases q : bt b h = true
  · simp [q]
  · simp [q, n10]
def blk (f : Nat → Int32) (k n : Nat) (g : Nat → Int32) : Nat → Int32 := fun i => if k ≤ i ∧ i < k + n then g (i - k) else f i
theorem blk_in {f g : Nat → Int32} {k n i : Nat} (h1 : k ≤ i) (h2 : i < k + n) : blk f k n g i = g (i - k) := if_pos ⟨h1, h2⟩
theorem blk_out {f g : Nat → Int32} {k n i : Nat} (h : i < k ∨ k + n ≤ i) : blk f k n g i = f i := if_neg (by omega)
theorem blk_1 (f : Nat → Int32) (k : Nat) (a : Int32) : upd f k a = blk f k 1 (fun _ => a) := by
  funext i; unfold upd blk
  by_cases e : i = k
  · rw [if_pos e, if_pos (by omega)]
  · rw [if_neg e, if_neg (by omega)]
theorem blk_s (f g : Nat → Int32) (k n : Nat) (a : Int32) : upd (blk f k n g) (k + n) a = blk f k (n + 1) (fun j => if j = n then a else g j) := by
  funext i; unfold upd blk
  by_cases e : i = k + n
  · rw [if_pos e, if_pos (by omega)]; dsimp only; rw [if_pos (by omega)]
  · rw [if_neg e]
    by_cases e2 : k ≤ i ∧ i < k + n
    · rw [if_pos e2, if_pos (by omega)]; dsimp only; rw [if_neg (by omega)]
    · rw [if_neg e2, if_neg (by omega)]
