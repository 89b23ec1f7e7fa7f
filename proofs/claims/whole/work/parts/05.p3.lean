/-! counting bits: the JDK's way, the reference's way -/
def lo (x : Int32) : Prop := ∀ i, i < 32 → 16 ≤ i → bt x i = false
theorem bt_nI (X : Nat) {i : Nat} (hi : i < 32) : bt (nI X) i = X.testBit i := by
  show (BitVec.ofNat 32 X).getLsbD i = X.testBit i
  rw [BitVec.getLsbD_ofNat]
  simp [hi]
theorem lo_nI {x : Int32} (h : lo x) : ∃ X, X < 65536 ∧ x = nI X := by
  refine ⟨x.toBitVec.toNat % 65536, Nat.mod_lt _ (by omega), ?_⟩
  apply b_ext
  intro i hi
  rw [bt_nI _ hi, show (65536 : Nat) = 2 ^ 16 from rfl, Nat.testBit_mod_two_pow]
  by_cases e : i < 16
  · simp only [e, decide_true, Bool.true_and]
    rfl
  · rw [h i hi (by omega)]
    simp [e]
theorem lo_and {x : Int32} (y : Int32) (h : lo x) : lo (x &&& y) := fun i hi h2 => by rw [b_and, h i hi h2, Bool.false_and]
theorem lo_and2 {x : Int32} (y : Int32) (h : lo x) : lo (y &&& x) := fun i hi h2 => by rw [b_and, h i hi h2, Bool.and_false]
theorem lo_TH (g : Nat → Nat) : lo (TH g) := fun i hi h2 => by
  rw [bt_TH g hi]
  simp [Nat.not_lt.mpr h2]
theorem lo_ors (c : Nat → Bool) : lo (ors c) := fun i hi h2 => by
  rw [bt_ors c hi]
  simp [Nat.not_lt.mpr h2]
theorem lo_GN (g : Nat → Nat) {x : Int32} (h : lo x) : lo (GN g x) := fun i hi h2 => by rw [GN_hi g x hi h2]; exact h i hi h2
theorem lo_b1 {p : Nat} (hp : p < 16) : lo (b1 p) := fun i hi h2 => by
  rw [bt_b1 (by omega) hi]
  simp
  omega
def swN (X : Nat) : Nat :=
  let a := X - ((X / 2) &&& 1431655765)
  let b := (a &&& 858993459) + ((a / 4) &&& 858993459)
  let c := (b + b / 16) &&& 252645135
  let d := c + c / 256
  let e := d + d / 65536
  e &&& 63
def popN (X : Nat) : Nat := X % 2 + X / 2 % 2 + X / 4 % 2 + X / 8 % 2 + X / 16 % 2 + X / 32 % 2 + X / 64 % 2 + X / 128 % 2 + X / 256 % 2 + X / 512 % 2 + X / 1024 % 2 + X / 2048 % 2 + X / 4096 % 2 + X / 8192 % 2 + X / 16384 % 2 + X / 32768 % 2
def chkN : Nat → Nat → Bool
  | 0, x => Nat.beq (swN x) (popN x)
  | k + 1, x => chkN k x && chkN k (x + 2 ^ k)
theorem chkN_of : ∀ k x, chkN k x = true → ∀ y, x ≤ y → y < x + 2 ^ k → swN y = popN y
  | 0, x, h, y, h1, h2 => by
    have e : y = x := by simp at h2; omega
    subst e
    exact Nat.eq_of_beq_eq_true h
  | k + 1, x, h, y, h1, h2 => by
    have h3 : chkN k x = true ∧ chkN k (x + 2 ^ k) = true := by
      have : (chkN k x && chkN k (x + 2 ^ k)) = true := h
      simpa using this
    rcases Nat.lt_or_ge y (x + 2 ^ k) with q | q
    · exact chkN_of k x h3.1 y h1 q
    · exact chkN_of k (x + 2 ^ k) h3.2 y q (by rw [Nat.pow_succ] at h2; omega)
set_option maxRecDepth 100000 in
theorem chkN_16 : chkN 16 0 = true := by decide +kernel
theorem cnt_nI {X : Nat} (h : X < 65536) : cnt (nI X) = popN X := by
  have h2 := up_rel (N := 16) (st := fun i n => n + (if bt (nI X) i = true then 1 else 0)) (st2 := fun i n => n + X / 2 ^ i % 2) (fun j a b => a = b) (by
    intro j a b hj hab
    show a + _ = b + _
    rw [hab, bt_nI X (by omega), Nat.testBit_eq_decide_div_mod_eq]
    have : X / 2 ^ j % 2 < 2 := Nat.mod_lt _ (by omega)
    generalize X / 2 ^ j % 2 = z at this
    rcases (by omega : z = 0 ∨ z = 1) with e | e <;> simp [e]) 16 0 0 0 rfl rfl
  unfold cnt
  rw [h2]
  simp only [up, popN]
  simp
theorem f_bitCount {x : Int32} (h : lo x) : fJ6_bitCount_0f7a4 x = some (nI (cnt x)) := by
  obtain ⟨X, hX, rfl⟩ := lo_nI h
  rw [cnt_nI hX, ← chkN_of 16 0 chkN_16 X (Nat.zero_le _) (by simpa using hX)]
  unfold fJ6_bitCount_0f7a4
  simp only [nm_eq]
  have e1 : (nI X - (((nI X).toUInt32 >>> ((1 : Int32).toUInt32 &&& Int32.toUInt32 31)).toInt32 &&& 1431655765)) = nI (X - ((X / 2) &&& 1431655765)) := by
    rw [pk_ushrN (by omega) 1 1 (by decide +kernel)]
    show nI X - (nI (X / 2 ^ 1) &&& nI 1431655765) = _
    rw [show nI (X / 2 ^ 1) &&& nI 1431655765 = nI ((X / 2 ^ 1) &&& 1431655765) from ?_, pk_sub]
    · exact Nat.le_trans Nat.and_le_left (Nat.div_le_self _ _)
    · apply b_ext
      intro i hi
      rw [b_and, bt_nI _ hi, bt_nI _ hi, bt_nI _ hi, Nat.testBit_and]
  have ha : ∀ a b : Nat, nI a &&& nI b = nI (a &&& b) := by
    intro a b
    apply b_ext
    intro i hi
    rw [b_and, bt_nI _ hi, bt_nI _ hi, bt_nI _ hi, Nat.testBit_and]
  rw [e1]
  generalize hA : X - ((X / 2) &&& 1431655765) = A
  have hA2 : A < 65536 := by omega
  have e2 : ((nI A &&& 858993459) + (((nI A).toUInt32 >>> ((2 : Int32).toUInt32 &&& Int32.toUInt32 31)).toInt32 &&& 858993459)) = nI ((A &&& 858993459) + ((A / 4) &&& 858993459)) := by
    rw [pk_ushrN (by omega) 2 2 (by decide +kernel)]
    show (nI A &&& nI 858993459) + (nI (A / 2 ^ 2) &&& nI 858993459) = _
    rw [ha, ha, nI_add]
  rw [e2]
  generalize hB : (A &&& 858993459) + ((A / 4) &&& 858993459) = B
  have hB2 : B < 2 ^ 31 := by
    have := @Nat.and_le_left A 858993459
    have := @Nat.and_le_left (A / 4) 858993459
    omega
  have e3 : ((nI B + ((nI B).toUInt32 >>> ((4 : Int32).toUInt32 &&& Int32.toUInt32 31)).toInt32) &&& 252645135) = nI ((B + B / 16) &&& 252645135) := by
    rw [pk_ushrN (by omega) 4 4 (by decide +kernel), nI_add]
    show nI _ &&& nI 252645135 = _
    rw [ha]
  rw [e3]
  generalize hC : (B + B / 16) &&& 252645135 = C
  have hC2 : C < 2 ^ 31 := by
    have := @Nat.and_le_right (B + B / 16) 252645135
    omega
  have e4 : (nI C + ((nI C).toUInt32 >>> ((8 : Int32).toUInt32 &&& Int32.toUInt32 31)).toInt32) = nI (C + C / 256) := by
    rw [pk_ushrN (by omega) 8 8 (by decide +kernel), nI_add]
  rw [e4]
  generalize hE : C + C / 256 = E
  have hE2 : E < 2 ^ 32 := by omega
  have e5 : (nI E + ((nI E).toUInt32 >>> ((16 : Int32).toUInt32 &&& Int32.toUInt32 31)).toInt32) = nI (E + E / 65536) := by
    rw [pk_ushrN (by omega) 16 16 (by decide +kernel), nI_add]
  rw [e5]
  show some (nI (E + E / 65536) &&& nI 63) = _
  rw [ha, ← hE, ← hC, ← hB, ← hA]
  rfl
