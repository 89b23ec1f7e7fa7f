/-! ===== Int32 by its bits: bt x i ===== -/
def bt (x : Int32) (i : Nat) : Bool := x.toBitVec.getLsbD i
theorem b_ext {x y : Int32} (h : ∀ i, i < 32 → bt x i = bt y i) : x = y := Int32.toBitVec_inj.mp (BitVec.eq_of_getLsbD_eq (fun i hi => h i hi))
theorem b_or (x y : Int32) (i : Nat) : bt (x ||| y) i = (bt x i || bt y i) := by unfold bt; rw [Int32.toBitVec_or, BitVec.getLsbD_or]
theorem b_and (x y : Int32) (i : Nat) : bt (x &&& y) i = (bt x i && bt y i) := by unfold bt; rw [Int32.toBitVec_and, BitVec.getLsbD_and]
theorem b_xor (x y : Int32) (i : Nat) : bt (x ^^^ y) i = (bt x i ^^ bt y i) := by unfold bt; rw [Int32.toBitVec_xor, BitVec.getLsbD_xor]
theorem b_big {x : Int32} {i : Nat} (h : 32 ≤ i) : bt x i = false := BitVec.getLsbD_of_ge _ _ h
theorem b_255 (i : Nat) : bt 255 i = decide (i < 8) := by
  rcases Nat.lt_or_ge i 32 with h | h
  · exact (by decide +kernel : ∀ i, i < 32 → bt 255 i = decide (i < 8)) i h
  · rw [b_big h, decide_eq_false (by omega)]
theorem b_65535 (i : Nat) : bt 65535 i = decide (i < 16) := by
  rcases Nat.lt_or_ge i 32 with h | h
  · exact (by decide +kernel : ∀ i, i < 32 → bt 65535 i = decide (i < 16)) i h
  · rw [b_big h, decide_eq_false (by omega)]
theorem b_m1 : ∀ i, i < 32 → bt (-1) i = true := by decide +kernel
theorem b_0 (i : Nat) : bt 0 i = false := BitVec.getLsbD_zero
theorem s_l : ∀ n, n < 32 → ((nI n &&& 31).toBitVec.smod 32).toNat = n := by decide +kernel
theorem s_u : ∀ n, n < 32 → (((nI n).toUInt32 &&& Int32.toUInt32 31).toBitVec % 32).toNat = n := by decide +kernel
theorem b_shl (n : Nat) (hn : n < 32) (x : Int32) {i : Nat} (hi : i < 32) : bt (x <<< (nI n &&& 31)) i = (decide (n ≤ i) && bt x (i - n)) := by
  unfold bt
  rw [Int32.toBitVec_shiftLeft]
  show (x.toBitVec <<< ((nI n &&& 31).toBitVec.smod 32).toNat).getLsbD i = _
  rw [s_l n hn, BitVec.getLsbD_shiftLeft]
  rcases Nat.lt_or_ge i n with h | h
  · simp [h, Nat.not_le.mpr h]
  · simp [hi, h, Nat.not_lt.mpr h]
theorem b_ushr (n : Nat) (hn : n < 32) (x : Int32) (i : Nat) : bt ((x.toUInt32 >>> ((nI n).toUInt32 &&& Int32.toUInt32 31)).toInt32) i = bt x (n + i) := by
  show (x.toUInt32 >>> ((nI n).toUInt32 &&& Int32.toUInt32 31)).toBitVec.getLsbD i = x.toUInt32.toBitVec.getLsbD (n + i)
  rw [UInt32.toBitVec_shiftRight]
  show (x.toUInt32.toBitVec >>> (((nI n).toUInt32 &&& Int32.toUInt32 31).toBitVec % 32).toNat).getLsbD i = _
  rw [s_u n hn, BitVec.getLsbD_ushiftRight]
theorem b_sshr (n : Nat) (hn : n < 32) (x : Int32) {i : Nat} (hi : i < 32) : bt (x >>> (nI n &&& 31)) i = if n + i < 32 then bt x (n + i) else bt x 31 := by
  unfold bt
  rw [Int32.toBitVec_shiftRight]
  show (x.toBitVec.sshiftRight ((nI n &&& 31).toBitVec.smod 32).toNat).getLsbD i = _
  rw [s_l n hn, BitVec.getLsbD_sshiftRight, BitVec.msb_eq_getLsbD_last]
  simp [hi]
/-! ===== order of ints, in all its forms, and through longs ===== -/
theorem fa_lt (a b : Int32) : a < b ↔ a.toInt < b.toInt := Int32.lt_iff_toInt_lt
theorem fa_le (a b : Int32) : a ≤ b ↔ a.toInt ≤ b.toInt := Int32.le_iff_toInt_le
theorem fa_eq (a b : Int32) : a = b ↔ a.toInt = b.toInt := Int32.toInt_inj.symm
theorem fa_lt64 (a b : Int64) : a < b ↔ a.toInt < b.toInt := Int64.lt_iff_toInt_lt
theorem fa_le64 (a b : Int64) : a ≤ b ↔ a.toInt ≤ b.toInt := Int64.le_iff_toInt_le
theorem fa_eq64 (a b : Int64) : a = b ↔ a.toInt = b.toInt := Int64.toInt_inj.symm
/-- a comparison of two ints taken as longs -/
theorem fa_wide_lt (a b : Int32) : a.toInt64 < b.toInt64 ↔ a < b := by rw [fa_lt64, fa_lt, Int32.toInt_toInt64, Int32.toInt_toInt64]
theorem fa_wide_le (a b : Int32) : a.toInt64 ≤ b.toInt64 ↔ a ≤ b := by rw [fa_le64, fa_le, Int32.toInt_toInt64, Int32.toInt_toInt64]
theorem fa_wide_eq (a b : Int32) : a.toInt64 = b.toInt64 ↔ a = b := by rw [fa_eq64, fa_eq, Int32.toInt_toInt64, Int32.toInt_toInt64]
/-- one strict comparison gives all the others -/
theorem fa_of_lt {a b : Int32} (h : a < b) : a ≤ b ∧ ¬ b ≤ a ∧ ¬ b < a ∧ a ≠ b ∧ b ≠ a := by
  rw [fa_lt] at h
  refine ⟨?_, ?_, ?_, ?_, ?_⟩
  · rw [fa_le]; omega
  · rw [fa_le]; omega
  · rw [fa_lt]; omega
  · intro e; rw [fa_eq] at e; omega
  · intro e; rw [fa_eq] at e; omega
theorem fa_of_nlt {a b : Int32} (h : ¬ a < b) : b ≤ a := by
  rw [fa_lt] at h
  rw [fa_le]
  omega
theorem fa_of_nle {a b : Int32} (h : ¬ a ≤ b) : b < a := by
  rw [fa_le] at h
  rw [fa_lt]
  omega
theorem fa_le_ne {a b : Int32} (h : a ≤ b) (h2 : a ≠ b) : a < b := by
  rw [fa_le] at h
  rw [fa_lt]
  have h3 : a.toInt ≠ b.toInt := fun e => h2 ((fa_eq a b).mpr e)
  omega
theorem fa_three (a b : Int32) : a < b ∨ a = b ∨ b < a := by
  rw [fa_lt, fa_lt, fa_eq]
  omega
theorem fa_trans {a b c : Int32} (h : a < b) (h2 : b ≤ c) : a < c := by
  rw [fa_lt] at *
  rw [fa_le] at h2
  omega
theorem fb_rng (x : Int32) : -2147483648 ≤ x.toInt ∧ x.toInt < 2147483648 := by
  have h1 := Int32.le_toInt x
  have h2 := Int32.toInt_lt x
  omega
theorem fb_bmod {z : Int} (h1 : -2147483648 ≤ z) (h2 : z < 2147483648) : z.bmod (2 ^ 32) = z := by
  rw [Int.bmod_eq_of_le (by omega) (by omega)]
theorem fb_addI {x y : Int32} (h1 : -2147483648 ≤ x.toInt + y.toInt) (h2 : x.toInt + y.toInt < 2147483648) : (x + y).toInt = x.toInt + y.toInt := by
  rw [Int32.toInt_add, fb_bmod h1 h2]
theorem fb_subI {x y : Int32} (h1 : -2147483648 ≤ x.toInt - y.toInt) (h2 : x.toInt - y.toInt < 2147483648) : (x - y).toInt = x.toInt - y.toInt := by
  rw [Int32.toInt_sub, fb_bmod h1 h2]
theorem fb_mulI {x y : Int32} (h1 : -2147483648 ≤ x.toInt * y.toInt) (h2 : x.toInt * y.toInt < 2147483648) : (x * y).toInt = x.toInt * y.toInt := by
  rw [Int32.toInt_mul, fb_bmod h1 h2]
theorem fb_negI {x : Int32} (h : x.toInt ≠ -2147483648) : (-x).toInt = -x.toInt := by
  have := fb_rng x
  rw [Int32.toInt_neg, fb_bmod (by omega) (by omega)]
theorem fb_ofI {z : Int} (h1 : -2147483648 ≤ z) (h2 : z < 2147483648) : (Int32.ofInt z).toInt = z := by
  rw [Int32.toInt_ofInt, fb_bmod h1 h2]
theorem fb_asI (x : Int32) : Int32.ofInt x.toInt = x := Int32.ofInt_toInt x
theorem fb_rngL (x : Int64) : -9223372036854775808 ≤ x.toInt ∧ x.toInt < 9223372036854775808 := by
  have h1 := Int64.le_toInt x
  have h2 := Int64.toInt_lt x
  omega
theorem fb_bmodL {z : Int} (h1 : -9223372036854775808 ≤ z) (h2 : z < 9223372036854775808) : z.bmod (2 ^ 64) = z := by
  rw [Int.bmod_eq_of_le (by omega) (by omega)]
theorem fb_addL {x y : Int64} (h1 : -9223372036854775808 ≤ x.toInt + y.toInt) (h2 : x.toInt + y.toInt < 9223372036854775808) : (x + y).toInt = x.toInt + y.toInt := by
  rw [Int64.toInt_add, fb_bmodL h1 h2]
theorem fb_subL {x y : Int64} (h1 : -9223372036854775808 ≤ x.toInt - y.toInt) (h2 : x.toInt - y.toInt < 9223372036854775808) : (x - y).toInt = x.toInt - y.toInt := by
  rw [Int64.toInt_sub, fb_bmodL h1 h2]
theorem fb_mulL {x y : Int64} (h1 : -9223372036854775808 ≤ x.toInt * y.toInt) (h2 : x.toInt * y.toInt < 9223372036854775808) : (x * y).toInt = x.toInt * y.toInt := by
  rw [Int64.toInt_mul, fb_bmodL h1 h2]

/-! own rows: folds and loops, bits -/
def up {α : Type} (st : Nat → α → α) : Nat → Nat → α → α
  | _, 0, a => a
  | i, k + 1, a => up st (i + 1) k (st i a)
def dn {α : Type} (st : Nat → α → α) : Nat → α → α
  | 0, a => a
  | k + 1, a => dn st k (st k a)
theorem up_inv {α : Type} {st : Nat → α → α} {N : Nat} (I : Nat → α → Prop) (h : ∀ j a, j < N → I j a → I (j + 1) (st j a)) : ∀ k i a, i + k = N → I i a → I N (up st i k a)
  | 0, i, a, hk, ha => by rw [← hk]; exact ha
  | k + 1, i, a, hk, ha => up_inv I h k (i + 1) (st i a) (by omega) (h i a (by omega) ha)
theorem up_rel {α β : Type} {st : Nat → α → α} {st2 : Nat → β → β} {N : Nat} (R : Nat → α → β → Prop) (h : ∀ j a b, j < N → R j a b → R (j + 1) (st j a) (st2 j b)) : ∀ k i a b, i + k = N → R i a b → R N (up st i k a) (up st2 i k b)
  | 0, i, a, b, hk, ha => by rw [← hk]; exact ha
  | k + 1, i, a, b, hk, ha => up_rel R h k (i + 1) (st i a) (st2 i b) (by omega) (h i a b (by omega) ha)
theorem up_succ {α : Type} (st : Nat → α → α) : ∀ k i a, up st i (k + 1) a = st (i + k) (up st i k a)
  | 0, i, a => rfl
  | k + 1, i, a => by
    show up st (i + 1) (k + 1) (st i a) = _
    rw [up_succ st k (i + 1) (st i a), show i + 1 + k = i + (k + 1) by omega]
    rfl
theorem dn_rel {α β : Type} {st : Nat → α → α} {st2 : Nat → β → β} {N : Nat} (R : Nat → α → β → Prop) (h : ∀ j a b, j < N → R (j + 1) a b → R j (st j a) (st2 j b)) : ∀ k a b, k ≤ N → R k a b → R 0 (dn st k a) (dn st2 k b)
  | 0, a, b, hk, ha => ha
  | k + 1, a, b, hk, ha => dn_rel R h k (st k a) (st2 k b) (by omega) (h k a b (by omega) ha)
theorem dn_inv {α : Type} {st : Nat → α → α} {N : Nat} (I : Nat → α → Prop) (h : ∀ j a, j < N → I (j + 1) a → I j (st j a)) : ∀ k a, k ≤ N → I k a → I 0 (dn st k a)
  | 0, a, hk, ha => ha
  | k + 1, a, hk, ha => dn_inv I h k (st k a) (by omega) (h k a (by omega) ha)
/-- a loop that counts up to N -/
theorem loop_up {α β : Type} {f : Nat → Nat → α → β} {st : Nat → α → α} {N : Nat} {ex : α → β} (I : Nat → α → Prop) (h1 : ∀ n a, I N a → f (n + 1) N a = ex a) (h2 : ∀ n i a, i < N → I i a → f (n + 1) i a = f n (i + 1) (st i a) ∧ I (i + 1) (st i a)) : ∀ k i n a, i + k = N → k < n → I i a → f n i a = ex (up st i k a)
  | 0, i, 0, a, hk, hn, ha => absurd hn (by omega)
  | 0, i, n + 1, a, hk, hn, ha => by
    have e : i = N := by omega
    subst e
    exact h1 n a ha
  | k + 1, i, 0, a, hk, hn, ha => absurd hn (by omega)
  | k + 1, i, n + 1, a, hk, hn, ha => by
    obtain ⟨e, hi⟩ := h2 n i a (by omega) ha
    rw [e]
    exact loop_up I h1 h2 k (i + 1) n (st i a) (by omega) (by omega) hi
theorem loop_up0 {α β : Type} {f : Nat → Nat → α → β} {st : Nat → α → α} {N : Nat} {ex : α → β} (h1 : ∀ n a, f (n + 1) N a = ex a) (h2 : ∀ n i a, i < N → f (n + 1) i a = f n (i + 1) (st i a)) (n : Nat) (a : α) (hn : N < n) : f n 0 a = ex (up st 0 N a) :=
  loop_up (fun _ _ => True) (fun n a _ => h1 n a) (fun n i a hi _ => ⟨h2 n i a hi, trivial⟩) N 0 n a (by omega) hn trivial
theorem loop_dn {α β : Type} {f : Nat → Nat → α → β} {st : Nat → α → α} {N : Nat} {ex : α → β} (I : Nat → α → Prop) (h1 : ∀ n a, I 0 a → f (n + 1) 0 a = ex a) (h2 : ∀ n k a, k < N → I (k + 1) a → f (n + 1) (k + 1) a = f n k (st k a) ∧ I k (st k a)) : ∀ k n a, k ≤ N → k < n → I k a → f n k a = ex (dn st k a)
  | 0, 0, a, hk, hn, ha => absurd hn (by omega)
  | 0, n + 1, a, hk, hn, ha => h1 n a ha
  | k + 1, 0, a, hk, hn, ha => absurd hn (by omega)
  | k + 1, n + 1, a, hk, hn, ha => by
    obtain ⟨e, hi⟩ := h2 n k a (by omega) ha
    rw [e]
    exact loop_dn I h1 h2 k n (st k a) (by omega) (by omega) hi
theorem FU_gt {k : Nat} (h : k < 300) : k < FU := h
/-- bits -/
def b1 (p : Nat) : Int32 := (1 : Int32) <<< (nI p &&& 31)
theorem bt_1 (i : Nat) : bt 1 i = decide (i = 0) := by
  rcases Nat.lt_or_ge i 32 with h | h
  · exact (by decide +kernel : ∀ i, i < 32 → bt 1 i = decide (i = 0)) i h
  · rw [b_big h, decide_eq_false (by omega)]
theorem bt_b1 {p i : Nat} (hp : p < 32) (hi : i < 32) : bt (b1 p) i = decide (i = p) := by
  unfold b1
  rw [b_shl p hp 1 hi, bt_1]
  by_cases h : i = p
  · subst h; simp
  · simp only [h, decide_false]
    by_cases h2 : p ≤ i
    · have : ¬ i - p = 0 := by omega
      simp [this]
    · simp [h2]
theorem sh1 (x : Int32) {p : Nat} (hp : p < 32) : ((x >>> (nI p &&& 31)) &&& 1) = if bt x p = true then 1 else 0 := by
  apply b_ext
  intro i hi
  rw [b_and, bt_1, b_sshr p hp x hi]
  by_cases h : i = 0
  · subst h
    cases hb : bt x p with
    | true => simp [hb, hp, bt_1]
    | false => simp [hb, hp, b_0]
  · cases hb : bt x p with
    | true => simp [h, bt_1]
    | false => simp [h, b_0]
theorem and_b1 (x : Int32) {p : Nat} (hp : p < 32) : (x &&& b1 p) = 0 ↔ bt x p = false := by
  constructor
  · intro h
    have h2 : bt (x &&& b1 p) p = false := by rw [h, b_0]
    rw [b_and, bt_b1 hp hp] at h2
    simpa using h2
  · intro h
    apply b_ext
    intro i hi
    rw [b_and, bt_b1 hp hi, b_0]
    by_cases e : i = p
    · subst e; simp [h]
    · simp [e]
theorem bt_not (x : Int32) {i : Nat} (hi : i < 32) : bt (x ^^^ (-1)) i = !bt x i := by
  rw [b_xor, b_m1 i hi]
  cases bt x i <;> rfl
theorem or_0 (x : Int32) : x ||| 0 = x := by
  apply b_ext
  intro i hi
  rw [b_or, b_0, Bool.or_false]
theorem and_z {x y : Int32} : (x &&& y) = 0 ↔ ∀ i, i < 32 → (bt x i && bt y i) = false := by
  constructor
  · intro h i hi
    have : bt (x &&& y) i = false := by rw [h, b_0]
    rwa [b_and] at this
  · intro h
    apply b_ext
    intro i hi
    rw [b_and, b_0]
    exact h i hi
theorem z_iff {x : Int32} : x = 0 ↔ ∀ i, i < 32 → bt x i = false := by
  constructor
  · intro h i hi
    rw [h, b_0]
  · intro h
    apply b_ext
    intro i hi
    rw [b_0]
    exact h i hi
