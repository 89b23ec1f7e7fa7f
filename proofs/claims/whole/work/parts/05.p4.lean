/-! loops: their bounds -/
theorem n16 {i : Nat} (h : i < 16) : ¬ (16 : Int32) ≤ nI i := nI_ge h (by decide)
theorem y16 : (16 : Int32) ≤ nI 16 := nI_le (Nat.le_refl 16) (by omega)
theorem n4 {i : Nat} (h : i < 4) : ¬ (4 : Int32) ≤ nI i := nI_ge h (by decide)
theorem y4 : (4 : Int32) ≤ nI 4 := nI_le (Nat.le_refl 4) (by omega)
theorem n5 {i : Nat} (h : i < 5) : ¬ (5 : Int32) ≤ nI i := nI_ge h (by decide)
theorem y5 : (5 : Int32) ≤ nI 5 := nI_le (Nat.le_refl 5) (by omega)
theorem n17 {i : Nat} (h : i < 17) : ¬ (17 : Int32) ≤ nI i := nI_ge h (by decide)
theorem y17 : (17 : Int32) ≤ nI 17 := nI_le (Nat.le_refl 17) (by omega)
theorem n25 {i : Nat} (h : i < 25) : ¬ (25 : Int32) ≤ nI i := nI_ge h (by decide)
theorem y25 : (25 : Int32) ≤ nI 25 := nI_le (Nat.le_refl 25) (by omega)
theorem gdn {α : Type} {i n : Nat} {x : Option α} (h : i < n) (hn : n < 2 ^ 31) : gd (nI i) n x = x := gd_in (vp_in_nI h hn)
theorem clN {i : Nat} (h : i < 2 ^ 31) : Int32.toNatClampNeg (nI i) = i := nI_clamp h
theorem f_many (x : Int32) : fX5_many x = some (nI (cnt x)) := by
  unfold fX5_many
  have h := loop_up0 (f := fun n i a => fX5_many_L4 x n (nI a) (nI i)) (N := 16) (st := fun i n => n + (if bt x i = true then 1 else 0)) (ex := fun a => some (nI a)) (by
    intro n a
    show fX5_many_L4 x (n + 1) (nI a) (nI 16) = _
    rw [fX5_many_L4, if_pos y16]) (by
    intro n i a hi
    show fX5_many_L4 x (n + 1) (nI a) (nI i) = fX5_many_L4 x n (nI _) (nI (i + 1))
    rw [fX5_many_L4, if_neg (n16 hi)]
    simp only [nm_eq]
    rw [sh1 x (by omega), nI_1]
    cases bt x i
    · show fX5_many_L4 x n (nI a + nI 0) _ = _
      rw [nI_add]
      rfl
    · show fX5_many_L4 x n (nI a + nI 1) _ = _
      rw [nI_add]
      rfl) FU 0 (FU_gt (by omega))
  exact h

theorem f_there {h : Nat → Int32} {g : Nat → Nat} (hg : ∀ p, p < 16 → h p = nI (g p)) (hb : ∀ p, p < 16 → g p ≤ 4) : fX5_there h = some (TH g) := by
  unfold fX5_there
  have h := loop_up0 (f := fun n i a => fX5_there_L4 h n a (nI i)) (N := 16) (st := fun i x => if decide (g i ≠ 0) = true then x ||| b1 i else x) (ex := fun a => some a) (by
    intro n a
    show fX5_there_L4 h (n + 1) a (nI 16) = _
    rw [fX5_there_L4, if_pos y16]) (by
    intro n i a hi
    show fX5_there_L4 h (n + 1) a (nI i) = fX5_there_L4 h n _ (nI (i + 1))
    rw [fX5_there_L4, if_neg (n16 hi), gdn (by omega) (by omega), clN (by omega), hg i hi]
    have hb1 := hb i hi
    by_cases e : g i = 0
    · rw [e, if_pos (by decide)]
      simp only [nm_eq]
      rw [or_0, nI_1]
      simp
    · rw [if_neg (nI_nle (by omega) (by omega))]
      simp only [nm_eq]
      rw [nI_1]
      simp only [e, ne_eq, not_false_eq_true, decide_true, if_true]
      rfl) FU 0 (FU_gt (by omega))
  exact h
theorem up_put {α : Type} (F : Nat → α → α) (d : Nat) (upd2 : (Nat → α) → Nat → α → Nat → α) (hu : ∀ f k x j, upd2 f k x j = if j = k then x else f j) : ∀ k i (L : Nat → α) q, up (fun i L => upd2 L (d + i) (F i (L (d + i)))) i k L q = if d + i ≤ q ∧ q < d + i + k then F (q - d) (L q) else L q
  | 0, i, L, q => by
    show L q = _
    rw [if_neg (by omega)]
  | k + 1, i, L, q => by
    show up _ (i + 1) k (upd2 L (d + i) (F i (L (d + i)))) q = _
    rw [up_put F d upd2 hu k (i + 1) _ q, hu]
    by_cases e : q = d + i
    · subst e
      rw [if_neg (by omega), if_pos rfl, if_pos (by omega), show d + i - d = i by omega]
    · rw [if_neg e]
      by_cases e2 : d + (i + 1) ≤ q ∧ q < d + (i + 1) + k
      · rw [if_pos e2, if_pos (by omega)]
      · rw [if_neg e2, if_neg (by omega)]
theorem up_upd (F : Nat → Int32 → Int32) (d k : Nat) (L : Nat → Int32) (q : Nat) : up (fun i L => upd L (d + i) (F i (L (d + i)))) 0 k L q = if d ≤ q ∧ q < d + k then F (q - d) (L q) else L q := up_put F d upd (fun _ _ _ _ => rfl) k 0 L q
