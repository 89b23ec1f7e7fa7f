theorem wb_tb (n : Nat) : (lN n).toBitVec = BitVec.ofNat 64 n := rfl
theorem wb_inj {a b : Int64} (h : a.toBitVec = b.toBitVec) : a = b := Int64.toBitVec_inj.mp h
theorem wb_tn {n : Nat} (h : n < 2 ^ 64) : (lN n).toBitVec.toNat = n := by rw [wb_tb, BitVec.toNat_ofNat, Nat.mod_eq_of_lt h]
theorem wb_of (x : Int64) : ∃ n, n < 2 ^ 64 ∧ x = lN n := ⟨x.toBitVec.toNat, x.toBitVec.isLt, wb_inj (by rw [wb_tb]; simp)⟩
theorem wb_cu : ∀ k, k < 64 → ((nI k).toInt64.toUInt64 &&& Int64.toUInt64 63) = UInt64.ofNat k := by decide +kernel
theorem wb_shr {n k : Nat} (hn : n < 2 ^ 64) (hk : k < 64) : ((lN n).toUInt64 >>> ((nI k).toInt64.toUInt64 &&& Int64.toUInt64 63)).toInt64 = lN (n / 2 ^ k) := by
  rw [wb_cu k hk]
  apply wb_inj
  apply BitVec.eq_of_toNat_eq
  show ((lN n).toUInt64 >>> UInt64.ofNat k).toNat = (BitVec.ofNat 64 _).toNat
  have h1 : (UInt64.ofNat k).toNat = k := by
    show (BitVec.ofNat 64 k).toNat = k
    rw [BitVec.toNat_ofNat, Nat.mod_eq_of_lt (by omega)]
  have h2 : (lN n).toUInt64.toNat = n := wb_tn hn
  rw [UInt64.toNat_shiftRight, h1, h2, Nat.mod_eq_of_lt hk, Nat.shiftRight_eq_div_pow, BitVec.toNat_ofNat, Nat.mod_eq_of_lt (Nat.lt_of_le_of_lt (Nat.div_le_self _ _) hn)]

/-! shaken, evenings -/
theorem up_pow (A : Nat) : ∀ k i a, up (fun _ a => a * A) i k a = a * A ^ k
  | 0, i, a => by
    show a = _
    rw [Nat.pow_zero, Nat.mul_one]
  | k + 1, i, a => by
    show up (fun _ a => a * A) (i + 1) k (a * A) = _
    rw [up_pow A k (i + 1) (a * A), Nat.pow_succ, Nat.mul_assoc, Nat.mul_comm A]
theorem c_power (A : Nat) {K : Nat} (hK : K < 200) : fX4_power (nI A) (nI K) = some (nI (A ^ K)) := by
  unfold fX4_power
  have h1 := loop_up0 (f := fun n i a => fX4_power_L4 (nI A) (nI K) n (nI a) (nI i)) (N := K) (st := fun _ a => a * A) (ex := fun a => some (nI a)) (by
    intro n a
    show fX4_power_L4 (nI A) (nI K) (n + 1) (nI a) (nI K) = _
    rw [fX4_power_L4, if_pos (nI_le (Nat.le_refl _) (by omega))]) (by
    intro n i a hi
    show fX4_power_L4 (nI A) (nI K) (n + 1) (nI a) (nI i) = fX4_power_L4 (nI A) (nI K) n (nI (a * A)) (nI (i + 1))
    rw [fX4_power_L4, if_neg (nI_ge hi (by omega)), nm_eq, nm_eq, nI_1, pk_mul]) FU 1 (FU_gt (by omega))
  rw [up_pow, Nat.one_mul] at h1
  exact h1
theorem m_power (A : Nat) {K : Nat} (hK : K < 200) : fX5_power (nI A) (nI K) = some (nI (A ^ K)) := by
  unfold fX5_power
  have h1 := loop_up0 (f := fun n i a => fX5_power_L4 (nI A) (nI K) n (nI a) (nI i)) (N := K) (st := fun _ a => a * A) (ex := fun a => some (nI a)) (by
    intro n a
    show fX5_power_L4 (nI A) (nI K) (n + 1) (nI a) (nI K) = _
    rw [fX5_power_L4, if_pos (nI_le (Nat.le_refl _) (by omega))]) (by
    intro n i a hi
    show fX5_power_L4 (nI A) (nI K) (n + 1) (nI a) (nI i) = fX5_power_L4 (nI A) (nI K) n (nI (a * A)) (nI (i + 1))
    rw [fX5_power_L4, if_neg (nI_ge hi (by omega)), nm_eq, nm_eq, nI_1, pk_mul]) FU 1 (FU_gt (by omega))
  rw [up_pow, Nat.one_mul] at h1
  exact h1
def SKs (g : Nat → Nat) (v : Int32) (X : Nat) (i a : Nat) : Nat := if (nI i &&& ((TH g &&& 15) ^^^ (-1))) = 0 then (if nI (vlx g (nI i)) < v then a else a + X ^ cnt (nI i) * (10 - X) ^ cnt ((TH g &&& 15) &&& (nI i ^^^ (-1)))) else a
theorem sk_cnt {st : Int32} {i : Nat} (h : (nI i &&& (st ^^^ (-1))) = 0) : cnt (nI i) + cnt (st &&& (nI i ^^^ (-1))) = cnt st := by
  apply cnt_add
  intro j hj
  have h1 := and_z.mp h j (by omega)
  rw [bt_not _ (by omega)] at h1
  rw [b_and, bt_not _ (by omega)]
  cases ha : bt (nI i) j with
  | false => simp
  | true =>
    rw [ha] at h1
    have : bt st j = true := by simpa using h1
    rw [this]
    simp
theorem cnt_15 : cnt 15 = 4 := by decide +kernel
theorem st_le (g : Nat → Nat) : cnt (TH g &&& 15) ≤ 4 := by
  rw [← cnt_15]
  exact cnt_mono (fun j hj h => by rw [b_and, Bool.and_eq_true] at h; exact h.2)
theorem sk_term {X k m : Nat} (hX : X ≤ 10) (h : k + m ≤ 4) : X ^ k * (10 - X) ^ m ≤ 10000 := by
  have h1 : X ^ k ≤ 10 ^ k := Nat.pow_le_pow_left hX k
  have h2 : (10 - X) ^ m ≤ 10 ^ m := Nat.pow_le_pow_left (by omega) m
  have h3 : X ^ k * (10 - X) ^ m ≤ 10 ^ k * 10 ^ m := Nat.mul_le_mul h1 h2
  rw [← Nat.pow_add] at h3
  have h4 : 10 ^ (k + m) ≤ 10 ^ 4 := Nat.pow_le_pow_right (by decide) h
  omega
theorem SK_le (g : Nat → Nat) (v : Int32) {X : Nat} (hX : X ≤ 10) : up (SKs g v X) 0 16 0 ≤ 160000 := by
  have h := up_inv (N := 16) (st := SKs g v X) (fun j a => a ≤ 10000 * j) (by
    intro j a hj ha
    unfold SKs
    split
    · rename_i c
      split
      · omega
      · have h1 := sk_cnt c
        have h2 := st_le g
        have h3 := sk_term (X := X) (k := cnt (nI j)) (m := cnt ((TH g &&& 15) &&& (nI j ^^^ (-1)))) hX (by omega)
        omega
    · omega) 16 0 0 rfl (by omega)
  omega
theorem o_shaken {g : Nat → Nat} {th ki fe : Int32} {page : Nat → Int32} (hP : RPg g th ki fe page) (thrown a1 a2 a3 : Int32) :
    ∃ r, fX4_shaken th a1 a2 a3 = some r ∧ fX5_shaken thrown page a1 a2 a3 = some (r, 0) := by
  obtain ⟨hO, ⟨rfl, hk⟩, hM⟩ := hP
  unfold fX4_shaken fX5_shaken
  by_cases c1 : a1 < 0
  · have e : fX5_in a1.toInt64 0 16 = some 0 := in_no (a := 0) (b := 16) (Or.inl c1)
    exact ⟨-2, by rw [if_pos c1], by rw [e, ob_some, if_pos zz0]⟩
  · by_cases c2 : 16 < a1
    · have e : fX5_in a1.toInt64 0 16 = some 0 := in_no (a := 0) (b := 16) (Or.inr c2)
      exact ⟨-2, by rw [if_neg c1, if_pos c2], by rw [e, ob_some, if_pos zz0]⟩
    · have e : fX5_in a1.toInt64 0 16 = some 1 := in_yes (a := 0) (b := 16) (fa_of_nlt c1) (fa_of_nlt c2)
      rw [if_neg c1, if_neg c2, e, ob_some, if_neg one0]
      rcases rngOr a2 11 (by decide) with ⟨X, hX, rfl⟩ | h | ⟨h0, h⟩
      · have e2 : fX5_in (nI X).toInt64 0 10 = some 1 := (by decide +kernel : ∀ k, k < 11 → fX5_in (nI k).toInt64 0 10 = some 1) X hX
        have hle : nI X ≤ 10 := nI_le (b := 10) (by omega) (by decide)
        rw [if_neg (nI_pos (by omega)), if_pos hle, e2, ob_some, if_neg one0, f_there hM.1 hO.1, ob_some, nm_eq, nm_eq, f_many, ob_some]
        have hst := st_le g
        have hlo : lo (TH g &&& 15) := lo_and _ (lo_TH g)
        have hpw : 10 ^ cnt (TH g &&& 15) ≤ 10 ^ 4 := Nat.pow_le_pow_right (by decide) hst
        have hpw0 : 0 < 10 ^ cnt (TH g &&& 15) := Nat.pow_pos (by decide)
        have ex : (10 : Int32) - nI X = nI (10 - X) := pk_sub (a := 10) (by omega)
        obtain ⟨r, f1, f2⟩ := o_fraction (A := up (SKs g a1 X) 0 16 0) (B := 10 ^ cnt (TH g &&& 15)) (by have := SK_le g a1 (X := X) (by omega); omega) hpw0 (by omega) a3
        refine ⟨r, ?_, ?_⟩
        · have h1 := loop_up0 (f := fun n i a => fX4_shaken_L41 a1 (nI X) a3 (TH g &&& 15) (TH g) n (nI a) (nI i)) (N := 16) (st := SKs g a1 X) (ex := fun a => ob (fJ6_bitCount_0f7a4 (TH g &&& 15)) (fun r2 => ob (fX4_power 10 r2) (fun r3 => ob (fX4_partOfFraction (nI a) r3 a3) (fun r4 => some r4)))) (by
            intro n a
            show fX4_shaken_L41 a1 (nI X) a3 (TH g &&& 15) (TH g) (n + 1) (nI a) (nI 16) = _
            rw [fX4_shaken_L41, if_pos y15]) (by
            intro n i a hi
            show fX4_shaken_L41 a1 (nI X) a3 (TH g &&& 15) (TH g) (n + 1) (nI a) (nI i) = fX4_shaken_L41 a1 (nI X) a3 (TH g &&& 15) (TH g) n (nI _) (nI (i + 1))
            rw [fX4_shaken_L41, if_neg (n15 hi)]
            simp only [nm_eq, nI_1]
            unfold SKs
            by_cases d : (nI i &&& ((TH g &&& 15) ^^^ (-1))) = 0
            · have hcc := sk_cnt d
              rw [if_pos d, if_pos d, c_sizeWithout, ob_some]
              by_cases d2 : nI (vlx g (nI i)) < a1
              · rw [if_pos d2, if_pos d2]
              · rw [if_neg d2, if_neg d2, f_bitCount (lo_16 hi), ob_some, c_power X (by omega), ob_some, f_bitCount (lo_and _ hlo), ob_some, ex, c_power (10 - X) (by omega), ob_some, pk_mul, nI_add]
            · rw [if_neg d, if_neg d]) FU 0 (FU_gt (by omega))
          refine Eq.trans h1 ?_
          have f0 : fX4_power 10 (nI (cnt (TH g &&& 15))) = some (nI (10 ^ cnt (TH g &&& 15))) := c_power 10 (by omega)
          simp only [f_bitCount hlo, ob_some, f0, f1]
        · have h1 := loop_up0 (f := fun n i a => fX5_shaken_L57 a1 (nI X) a3 (TH g &&& 15) (nI (cnt (TH g &&& 15))) 0 page n (nI a) (nI i)) (N := 16) (st := SKs g a1 X) (ex := fun a => ob (fX5_power 10 (nI (cnt (TH g &&& 15)))) (fun r2 => ob (fX5_fraction (nI a) r2 a3) (fun r3 => some (r3, (0 : Int32))))) (by
            intro n a
            show fX5_shaken_L57 a1 (nI X) a3 (TH g &&& 15) (nI (cnt (TH g &&& 15))) 0 page (n + 1) (nI a) (nI 16) = _
            rw [fX5_shaken_L57, if_pos y16]) (by
            intro n i a hi
            show fX5_shaken_L57 a1 (nI X) a3 (TH g &&& 15) (nI (cnt (TH g &&& 15))) 0 page (n + 1) (nI a) (nI i) = fX5_shaken_L57 a1 (nI X) a3 (TH g &&& 15) (nI (cnt (TH g &&& 15))) 0 page n (nI _) (nI (i + 1))
            rw [fX5_shaken_L57, if_neg (n16 hi)]
            simp only [nm_eq, nI_1]
            unfold SKs
            by_cases d : (nI i &&& ((TH g &&& 15) ^^^ (-1))) = 0
            · have hcc := sk_cnt d
              have ec : nI (cnt (TH g &&& 15)) - nI (cnt (nI i)) = nI (cnt ((TH g &&& 15) &&& (nI i ^^^ (-1)))) := by
                rw [pk_sub (by omega), show cnt (TH g &&& 15) - cnt (nI i) = cnt ((TH g &&& 15) &&& (nI i ^^^ (-1))) by omega]
              rw [if_pos d, if_pos d, f_there hM.1 hO.1, ob_some, m_spreadOf hM.1 hO.1, ob_some, m_left2 hO.2.1, ob_some, f_many, ob_some]
              by_cases d2 : nI (vlx g (nI i)) < a1
              · rw [if_pos d2, if_pos d2]
                exact congrArg (fun z => fX5_shaken_L57 a1 (nI X) a3 (TH g &&& 15) (nI (cnt (TH g &&& 15))) 0 page n z (nI (i + 1))) (nI_add a 0)
              · rw [if_neg d2, if_neg d2, m_power X (by omega), ob_some, ex, ec, m_power (10 - X) (by omega), ob_some, pk_mul, nI_add]
            · rw [if_neg d, if_neg d]) FU 0 (FU_gt (by omega))
          refine Eq.trans h1 ?_
          have f0 : fX5_power 10 (nI (cnt (TH g &&& 15))) = some (nI (10 ^ cnt (TH g &&& 15))) := m_power 10 (by omega)
          simp only [ob_some, f0, f2]
      · have e2 : fX5_in a2.toInt64 0 10 = some 0 := in_no (a := 0) (b := 10) (Or.inl h)
        exact ⟨-2, by rw [if_pos h], by rw [e2, ob_some, if_pos zz0]⟩
      · have e2 : fX5_in a2.toInt64 0 10 = some 0 := in_no (a := 0) (b := 10) (Or.inr (lt_of_le (n := 10) (by decide) h))
        have hn : ¬ a2 ≤ 10 := by
          intro z
          rw [fa_le] at z h
          have e0 : (nI 11).toInt = 11 := by decide
          have e1 : (10 : Int32).toInt = 10 := by decide
          omega
        exact ⟨-2, by rw [if_neg h0, if_neg hn], by rw [e2, ob_some, if_pos zz0]⟩
