/-! fractions in least terms; share; shaken -/
theorem gcd_lt {B r : Nat} (_h0 : 0 < r) (h : r ≤ B) {k : Nat} (hB : B < 2 ^ (k + 1)) (hr : r < B) : B % r < 2 ^ k := by
  have h1 : B % r < r := Nat.mod_lt _ (by omega)
  have h2 : B % r + r ≤ B := by
    have e := Nat.div_add_mod B r
    have hq : 1 ≤ B / r := Nat.div_pos h (by omega)
    have : r * 1 ≤ r * (B / r) := Nat.mul_le_mul_left r hq
    omega
  rw [Nat.pow_succ] at hB
  omega
theorem rem32 {a b : Nat} (ha : a < 2 ^ 31) (h0 : 0 < b) (hb : b < 2 ^ 31) : nI a - nI a / nI b * nI b = nI (a % b) := pk_rem ha h0 hb
theorem m_gcd (v0 v1 : Int32) : ∀ (k n A B : Nat), A < 2 ^ 31 → B < 2 ^ k → k ≤ 30 → 2 * k < n → fX5_divisor_L13 v0 v1 n (nI A) (nI B) = some (nI (Nat.gcd A B))
  | k, 0, A, B, h1, h2, h3, h4 => absurd h4 (by omega)
  | 0, n + 1, A, B, h1, h2, h3, h4 => by
    have e : B = 0 := by simp at h2; omega
    subst e
    rw [fX5_divisor_L13, if_pos (show nI 0 = 0 from rfl), Nat.gcd_zero_right]
  | k + 1, 1, A, B, h1, h2, h3, h4 => absurd h4 (by omega)
  | k + 1, n + 2, A, B, h1, h2, h3, h4 => by
    have hk : 2 ^ (k + 1) ≤ 2 ^ 30 := Nat.pow_le_pow_right (by omega) h3
    rcases Nat.eq_zero_or_pos B with e | e
    · subst e
      rw [fX5_divisor_L13, if_pos (show nI 0 = 0 from rfl), Nat.gcd_zero_right]
    · have hb := nI_ne0 e (show B < 2 ^ 31 by omega)
      rw [fX5_divisor_L13, if_neg hb, dz_in hb, nm_eq, rem32 h1 e (by omega), fX5_divisor_L13]
      have hm : A % B < B := Nat.mod_lt _ e
      have eg : Nat.gcd A B = Nat.gcd B (A % B) := by rw [Nat.gcd_comm A B, Nat.gcd_rec B A, Nat.gcd_comm]
      rcases Nat.eq_zero_or_pos (A % B) with z | z
      · rw [z, if_pos (show nI 0 = 0 from rfl), eg, z, Nat.gcd_zero_right]
      · have hz := nI_ne0 z (show A % B < 2 ^ 31 by omega)
        have eg2 : Nat.gcd B (A % B) = Nat.gcd (A % B) (B % (A % B)) := by rw [Nat.gcd_comm B (A % B), Nat.gcd_rec (A % B) B, Nat.gcd_comm]
        rw [if_neg hz, dz_in hz, nm_eq, rem32 (by omega) z (by omega), m_gcd v0 v1 k n (A % B) (B % (A % B)) (by omega) (gcd_lt z (by omega) h2 hm) (by omega) (by omega), eg, eg2]
theorem c_gcd (v0 v1 : Int32) : ∀ (k n A B s : Nat), A < 2 ^ 31 → B < 2 ^ k → k ≤ 30 → 2 * k < n → s + 2 * k < 64 → fX4_commonDivisor_L10 v0 v1 n (nI A) (nI B) (nI s) = some (nI (Nat.gcd A B))
  | k, 0, A, B, s, h1, h2, h3, h4, h5 => absurd h4 (by omega)
  | 0, n + 1, A, B, s, h1, h2, h3, h4, h5 => by
    have e : B = 0 := by simp at h2; omega
    subst e
    rw [fX4_commonDivisor_L10, if_neg (show ¬ (64 : Int32) ≤ nI s from nI_ge (a := s) (b := 64) (by omega) (by decide)), if_pos (show nI 0 = 0 from rfl), Nat.gcd_zero_right]
  | k + 1, 1, A, B, s, h1, h2, h3, h4, h5 => absurd h4 (by omega)
  | k + 1, n + 2, A, B, s, h1, h2, h3, h4, h5 => by
    have hk : 2 ^ (k + 1) ≤ 2 ^ 30 := Nat.pow_le_pow_right (by omega) h3
    have hs : ¬ (64 : Int32) ≤ nI s := nI_ge (a := s) (b := 64) (by omega) (by decide)
    have hs2 : ¬ (64 : Int32) ≤ nI (s + 1) := nI_ge (a := s + 1) (b := 64) (by omega) (by decide)
    rcases Nat.eq_zero_or_pos B with e | e
    · subst e
      rw [fX4_commonDivisor_L10, if_neg hs, if_pos (show nI 0 = 0 from rfl), Nat.gcd_zero_right]
    · have hb := nI_ne0 e (show B < 2 ^ 31 by omega)
      rw [fX4_commonDivisor_L10, if_neg hs, if_neg hb, dz_in hb, nm_eq, nm_eq, rem32 h1 e (by omega), nI_1, fX4_commonDivisor_L10, if_neg hs2]
      have hm : A % B < B := Nat.mod_lt _ e
      have eg : Nat.gcd A B = Nat.gcd B (A % B) := by rw [Nat.gcd_comm A B, Nat.gcd_rec B A, Nat.gcd_comm]
      rcases Nat.eq_zero_or_pos (A % B) with z | z
      · rw [z, if_pos (show nI 0 = 0 from rfl), eg, z, Nat.gcd_zero_right]
      · have hz := nI_ne0 z (show A % B < 2 ^ 31 by omega)
        have eg2 : Nat.gcd B (A % B) = Nat.gcd (A % B) (B % (A % B)) := by rw [Nat.gcd_comm B (A % B), Nat.gcd_rec (A % B) B, Nat.gcd_comm]
        rw [if_neg hz, dz_in hz, nm_eq, nm_eq, rem32 (by omega) z (by omega), nI_1, c_gcd v0 v1 k n (A % B) (B % (A % B)) (s + 1 + 1) (by omega) (gcd_lt z (by omega) h2 hm) (by omega) (by omega) (by omega), eg, eg2]
theorem o_fraction {A B : Nat} (hA : A < 2 ^ 31) (h0 : 0 < B) (hB : B < 16384) (u : Int32) : ∃ r, fX4_partOfFraction (nI A) (nI B) u = some r ∧ fX5_fraction (nI A) (nI B) u = some r := by
  have hg : 0 < Nat.gcd A B := Nat.gcd_pos_of_pos_right A h0
  have hg2 : Nat.gcd A B ≤ B := Nat.gcd_le_right A h0
  have hz := nI_ne0 hg (show Nat.gcd A B < 2 ^ 31 by omega)
  have hp : (0 : Int32) ≤ nI A := nI_pos' hA
  have e1 : fX4_commonDivisor (nI A) (nI B) = some (nI (Nat.gcd A B)) := by
    unfold fX4_commonDivisor
    rw [if_pos hp, nm_eq]
    exact c_gcd _ _ 14 FU A B 0 hA (by simpa using hB) (by decide) (FU_gt (by omega)) (by decide)
  have e2 : fX5_divisor (nI A) (nI B) = some (nI (Nat.gcd A B)) := by
    unfold fX5_divisor
    rw [if_pos hp]
    exact m_gcd _ _ 14 FU A B hA (by simpa using hB) (by decide) (FU_gt (by omega))
  have e3 : (if (1 : Int32) < nI (Nat.gcd A B) then nI (Nat.gcd A B) else 1) = nI (Nat.gcd A B) := by
    by_cases c : (1 : Int32) < nI (Nat.gcd A B)
    · rw [if_pos c]
    · rw [if_neg c]
      rcases Nat.lt_or_ge 1 (Nat.gcd A B) with h | h
      · exact absurd (nI_lt (a := 1) h (by omega)) c
      · have : Nat.gcd A B = 1 := by omega
        rw [this]
        rfl
  unfold fX4_partOfFraction fX5_fraction
  rw [e1, ob_some, e2, ob_some, nm_eq, e3]
  by_cases c : u = 0
  · exact ⟨nI B / nI (Nat.gcd A B), by rw [if_pos c, dz_in hz], by rw [if_pos c, dz_in hz]⟩
  · exact ⟨nI A / nI (Nat.gcd A B), by rw [if_neg c, dz_in hz], by rw [if_neg c, dz_in hz]⟩
/-- how many are left, if these fall -/
def vlx (g : Nat → Nat) (x : Int32) : Nat := cnt (TH (rmv g (GN g (x &&& TH g))))
theorem sub_and2 (x y : Int32) : ∀ j, j < 32 → bt (x &&& y) j = true → bt y j = true := by
  intro j hj h
  rw [b_and, Bool.and_eq_true] at h
  exact h.2
theorem c_sizeWithout (g : Nat → Nat) (x : Int32) : fX1_sizeWithout (TH g) x = some (nI (vlx g x)) := by
  unfold fX1_sizeWithout
  have h := cnt_rm (g := g) (x := GN g (x &&& TH g)) (GN_sub g (sub_and2 x (TH g)))
  rw [c_size, ob_some, c_goneWith, ob_some, f_bitCount (lo_GN g (lo_and2 x (lo_TH g))), ob_some, pk_sub (by omega)]
  unfold vlx
  rw [show cnt (TH g) - cnt (GN g (x &&& TH g)) = cnt (TH (rmv g (GN g (x &&& TH g)))) by omega]
theorem TH_mask {g : Nat → Nat} (hs : Sup g) (x : Int32) : TH (rmv g (GN g x)) = TH (rmv g (GN g (x &&& TH g))) := by
  refine ors_congr (c := fun i => decide (rmv g (GN g x) i ≠ 0)) (d := fun i => decide (rmv g (GN g (x &&& TH g)) i ≠ 0)) ?_
  intro i hi
  show decide (rmv g (GN g x) i ≠ 0) = decide (rmv g (GN g (x &&& TH g)) i ≠ 0)
  unfold rmv
  by_cases e : g i = 0
  · simp [e]
  · rw [GN_mask hs x i hi e]
theorem m_left2 {g : Nat → Nat} (hs : Sup g) (x : Int32) : fX5_many (TH g &&& (GN g x ^^^ (-1))) = some (nI (vlx g x)) := by
  rw [f_many, TH_rmv, TH_mask hs]
  rfl
theorem GN_mono (g : Nat → Nat) {x y : Int32} (h : ∀ j, j < 32 → bt x j = true → bt y j = true) : ∀ i, i < 16 → bt (GN g x) i = true → bt (GN g y) i = true := by
  intro i
  induction i using Nat.strongRecOn with
  | ind i ih =>
    intro hi hb
    rw [GN_bt g x hi] at hb
    rw [GN_bt g y hi]
    rw [Bool.or_eq_true] at hb ⊢
    rcases hb with hb | hb
    · exact Or.inl (h i (by omega) hb)
    · rw [Bool.and_eq_true] at hb ⊢
      refine Or.inr ⟨hb.1, ?_⟩
      have h1 : ¬ (sUN i &&& GN g x) = 0 := by simpa using hb.2
      have h2 : ¬ (sUN i &&& GN g y) = 0 := by
        intro z
        apply h1
        rw [and_z] at z ⊢
        intro j hj
        have h3 := z j hj
        cases hu : bt (sUN i) j with
        | false => simp
        | true =>
          have hjl := sUN_lt i hi j hj hu
          rw [hu] at h3
          cases hx : bt (GN g x) j with
          | false => simp
          | true =>
            rw [ih j hjl (by omega) hx] at h3
            simp at h3
      simpa using h2
theorem cnt_mono {x y : Int32} (h : ∀ j, j < 16 → bt x j = true → bt y j = true) : cnt x ≤ cnt y := by
  have h2 := cnt_add (x := x) (y := y &&& (x ^^^ (-1))) (z := y) (fun i hi => by
    rw [b_and, bt_not _ (by omega)]
    have := h i hi
    cases h1 : bt x i with
    | false => simp
    | true => rw [this h1]; simp)
  omega
theorem vlx_mono (g : Nat → Nat) {x y : Int32} (h : ∀ j, j < 32 → bt x j = true → bt y j = true) : vlx g y ≤ vlx g x := by
  unfold vlx
  apply cnt_mono
  intro j hj hb
  rw [bt_TH' _ hj] at hb ⊢
  have hb2 : rmv g (GN g (y &&& TH g)) j ≠ 0 := by simpa using hb
  unfold rmv at hb2 ⊢
  by_cases c : bt (GN g (y &&& TH g)) j = true
  · rw [if_pos c] at hb2
    exact absurd rfl hb2
  · rw [if_neg c] at hb2
    have c2 : ¬ bt (GN g (x &&& TH g)) j = true := fun z => c (GN_mono g (fun i hi hx => by
      rw [b_and, Bool.and_eq_true] at hx ⊢
      exact ⟨h i hi hx.1, hx.2⟩) j hj z)
    rw [if_neg c2]
    simpa using hb2
theorem vlx_le (g : Nat → Nat) (x : Int32) : vlx g x ≤ 16 := cnt_le _
def vl (g : Nat → Nat) (S : Nat) : Nat := vlx g (15 &&& (nI S ^^^ (-1)))
def ordN (c : Nat) : Nat := [6, 2, 2, 6].getD c 0
theorem s_OR : ∀ c, c < 4 → sOR c = nI (ordN c) ∧ (nI c &&& 3) = nI c ∧ ordN c ≤ 6 := by decide +kernel
theorem sh_c : ∀ t, t < 4 → ∀ S, S < 16 → bt (nI S) t = false → cnt (nI S) < 4 := by decide +kernel
theorem sh_o : ∀ t, t < 4 → ∀ S, S < 16 → (nI S ||| b1 t) = nI (S ||| 2 ^ t) ∧ S ||| 2 ^ t < 16 := by decide +kernel
theorem sh_lo : ∀ S, S < 16 → (nI S &&& 65535) = nI S := by decide +kernel
theorem lo_16 {S : Nat} (h : S < 16) : lo (nI S) := by
  rw [← sh_lo S h]
  apply lo_and2
  intro i hi h
  rw [b_65535]
  simp
  omega
theorem vl_mono (g : Nat → Nat) {t S : Nat} (ht : t < 4) (hS : S < 16) : vl g S ≤ vl g (S ||| 2 ^ t) := by
  unfold vl
  apply vlx_mono
  intro j hj h
  rw [b_and, bt_not _ hj] at h ⊢
  rw [← (sh_o t ht S hS).1, b_or] at h
  rw [Bool.and_eq_true] at h ⊢
  refine ⟨h.1, ?_⟩
  have h2 := h.2
  cases hb : bt (nI S) j with
  | false => rfl
  | true => rw [hb] at h2; simp at h2
def shs (g : Nat → Nat) (t S a : Nat) : Nat := if bt (nI S) t = true then a else a + ordN (cnt (nI S)) * (vl g (S ||| 2 ^ t) - vl g S)
theorem shs_le (g : Nat → Nat) {t : Nat} (ht : t < 4) : up (shs g t) 0 16 0 ≤ 1536 := by
  have h := up_inv (N := 16) (st := shs g t) (fun j a => a ≤ 96 * j) (by
    intro j a hj ha
    unfold shs
    split
    · omega
    · rename_i c
      have c2 : bt (nI j) t = false := by cases h : bt (nI j) t with | true => exact absurd h c | false => rfl
      have h1 := (s_OR _ (sh_c t ht j hj c2)).2.2
      have h2 : vl g (j ||| 2 ^ t) ≤ 16 := vlx_le _ _
      have h3 : ordN (cnt (nI j)) * (vl g (j ||| 2 ^ t) - vl g j) ≤ 6 * 16 := Nat.mul_le_mul h1 (by omega)
      omega) 16 0 0 rfl (by omega)
  omega
theorem n15 {i : Nat} (h : i < 16) : ¬ (15 : Int32) < nI i := nI_nlt (a := 15) (b := i) (by omega) (by decide)
theorem y15 : (15 : Int32) < nI 16 := nI_lt (a := 15) (b := 16) (by decide) (by decide)
theorem and_c (x y : Int32) : x &&& y = y &&& x := by
  apply b_ext
  intro i hi
  rw [b_and, b_and, Bool.and_comm]
theorem m_ways : ∀ n, n < 4 → fX5_ways (nI n) = some (nI ([1, 1, 2, 6].getD n 0)) := by decide +kernel
theorem m_ways3 : ∀ n, n < 4 → fX5_ways (3 - nI n) = some (nI ([6, 2, 1, 1].getD n 0)) ∧ nI ([1, 1, 2, 6].getD n 0) * nI ([6, 2, 1, 1].getD n 0) = nI (ordN n) := by decide +kernel
theorem m_ways4 : fX5_ways 4 = some 24 := by decide +kernel
theorem o_share {g : Nat → Nat} {th ki fe : Int32} {page : Nat → Int32} (hP : RPg g th ki fe page) (val : Nat → Int32) (thrown a1 a2 : Int32) :
    ∃ r v2, fX4_share th a1 a2 = some r ∧ fX5_share thrown page val a1 a2 = some (r, (0, v2)) := by
  obtain ⟨hO, ⟨rfl, hk⟩, hM⟩ := hP
  unfold fX4_share fX5_share
  rcases rngOr a1 4 (by decide) with ⟨t, ht, rfl⟩ | h | ⟨h0, h⟩
  · obtain ⟨r, f1, f2⟩ := o_fraction (A := up (shs g t) 0 16 0) (B := 24) (by have := shs_le g ht; omega) (by decide) (by decide) a2
    refine ⟨r, up (fun i L => upd L (0 + i) (nI (vl g i))) 0 16 val, ?_, ?_⟩
    · rw [if_neg (nI_pos (by omega)), if_pos (show nI t < (4 : Int32) from nI_lt (b := 4) ht (by decide))]
      have h1 := loop_up0 (f := fun n i a => fX4_share_L16 (nI t) a2 (TH g) n (nI a) (nI i)) (N := 16) (st := shs g t) (ex := fun a => ob (fX4_partOfFraction (nI a) 24 a2) (fun r2 => some r2)) (by
        intro n a
        show fX4_share_L16 (nI t) a2 (TH g) (n + 1) (nI a) (nI 16) = _
        rw [fX4_share_L16, if_pos y15]) (by
        intro n S a hS
        show fX4_share_L16 (nI t) a2 (TH g) (n + 1) (nI a) (nI S) = fX4_share_L16 (nI t) a2 (TH g) n (nI _) (nI (S + 1))
        rw [fX4_share_L16, if_neg (n15 hS), sh1 _ (by omega)]
        simp only [nm_eq, nI_1]
        unfold shs
        cases hb : bt (nI S) t with
        | true => simp
        | false =>
          have hc := sh_c t ht S hS hb
          rw [show (if false = true then (1 : Int32) else 0) = 0 from rfl, if_pos zz0, if_neg (by decide)]
          have e1 : fX1_sizeWithout (TH g) ((15 : Int32) &&& ((nI S ||| ((1 : Int32) <<< (nI t &&& 31))) ^^^ (-1))) = some (nI (vl g (S ||| 2 ^ t))) := by
            show fX1_sizeWithout (TH g) ((15 : Int32) &&& ((nI S ||| b1 t) ^^^ (-1))) = _
            rw [(sh_o t ht S hS).1, c_sizeWithout]
            rfl
          have e2 : fX1_sizeWithout (TH g) ((15 : Int32) &&& (nI S ^^^ (-1))) = some (nI (vl g S)) := c_sizeWithout g _
          rw [e1, ob_some, e2, ob_some, f_bitCount (lo_16 hS), ob_some, (s_OR _ hc).2.1, gdn hc (by decide), clN (by omega), (s_OR _ hc).1, pk_sub (vl_mono g ht hS), pk_mul, nI_add]) FU 0 (FU_gt (by omega))
      have h2 : fX4_share_L16 (nI t) a2 (TH g) FU 0 0 = ob (fX4_partOfFraction (nI (up (shs g t) 0 16 0)) 24 a2) (fun r2 => some r2) := h1
      have f1' : fX4_partOfFraction (nI (up (shs g t) 0 16 0)) 24 a2 = some r := f1
      rw [h2, f1', ob_some]
    · have e0 : fX5_in (nI t).toInt64 0 3 = some 1 := (by decide +kernel : ∀ k, k < 4 → fX5_in (nI k).toInt64 0 3 = some 1) t ht
      rw [e0, ob_some, if_neg (by decide)]
      have h1 := loop_up0 (f := fun n i a => fX5_share_L21 (nI t) a2 0 page n (nI i) a) (N := 16) (st := fun i L => upd L (0 + i) (nI (vl g i))) (ex := fun a => fX5_share_L74 (nI t) a2 0 page a FU 0 0) (by
        intro n a
        show fX5_share_L21 (nI t) a2 0 page (n + 1) (nI 16) a = _
        rw [fX5_share_L21, if_pos y16]) (by
        intro n S a hS
        show fX5_share_L21 (nI t) a2 0 page (n + 1) (nI S) a = fX5_share_L21 (nI t) a2 0 page n (nI (S + 1)) _
        rw [fX5_share_L21, if_neg (n16 hS), m_spreadOf hM.1 hO.1, ob_some, f_there hM.1 hO.1, ob_some, m_left2 hO.2.1, ob_some, gdn hS (by decide), clN (by omega), and_c]
        simp only [nm_eq, nI_1, Nat.zero_add]
        rfl) FU val (FU_gt (by omega))
      refine Eq.trans h1 ?_
      have hv : ∀ S, S < 16 → up (fun i L => upd L (0 + i) (nI (vl g i))) 0 16 val S = nI (vl g S) := by
        intro S hS
        rw [up_copy 0 16 (fun i => nI (vl g i)), if_pos (by omega), Nat.sub_zero]
      generalize up (fun i L => upd L (0 + i) (nI (vl g i))) 0 16 val = V at hv ⊢
      have h3 := loop_up0 (f := fun n i a => fX5_share_L74 (nI t) a2 0 page V n (nI a) (nI i)) (N := 16) (st := shs g t) (ex := fun a => ob (fX5_ways 4) (fun r2 => ob (fX5_fraction (nI a) r2 a2) (fun r3 => some (r3, ((0 : Int32), V))))) (by
        intro n a
        show fX5_share_L74 (nI t) a2 0 page V (n + 1) (nI a) (nI 16) = _
        rw [fX5_share_L74, if_pos y16]) (by
        intro n S a hS
        show fX5_share_L74 (nI t) a2 0 page V (n + 1) (nI a) (nI S) = fX5_share_L74 (nI t) a2 0 page V n (nI _) (nI (S + 1))
        rw [fX5_share_L74, if_neg (n16 hS), m_has _ (by omega), ob_some]
        simp only [nm_eq, nI_1]
        unfold shs
        cases hb : bt (nI S) t with
        | true => simp
        | false =>
          have hc := sh_c t ht S hS hb
          have hw := m_ways3 _ hc
          rw [show (if false = true then (1 : Int32) else 0) = 0 from rfl, if_pos zz0, if_neg (by decide), f_many, ob_some, m_ways _ hc, ob_some, hw.1, ob_some, hw.2]
          rw [show (nI S ||| ((1 : Int32) <<< (nI t &&& 31))) = nI (S ||| 2 ^ t) from (sh_o t ht S hS).1, gdn (sh_o t ht S hS).2 (by decide), gdn hS (by decide), clN (by have := (sh_o t ht S hS).2; omega), clN (by omega), hv _ (sh_o t ht S hS).2, hv S hS, pk_sub (vl_mono g ht hS), pk_mul, nI_add]) FU 0 (FU_gt (by omega))
      refine Eq.trans h3 ?_
      have f2' : fX5_fraction (nI (up (shs g t) 0 16 0)) 24 a2 = some r := f2
      simp only [m_ways4, ob_some, f2']
  · have e : fX5_in a1.toInt64 0 3 = some 0 := in_no (a := 0) (b := 3) (Or.inl h)
    exact ⟨-1, val, by rw [if_pos h], by rw [e, ob_some, if_pos zz0]⟩
  · have e : fX5_in a1.toInt64 0 3 = some 0 := in_no (a := 0) (b := 3) (Or.inr (lt_of_le (n := 3) (by decide) h))
    have h2 : ¬ a1 < 4 := by
      intro z
      rw [fa_lt] at z
      rw [fa_le] at h
      have e0 : (nI 4).toInt = 4 := by decide
      have e1 : (4 : Int32).toInt = 4 := by decide
      omega
    exact ⟨-1, val, by rw [if_neg h0, if_neg h2], by rw [e, ob_some, if_pos zz0]⟩
