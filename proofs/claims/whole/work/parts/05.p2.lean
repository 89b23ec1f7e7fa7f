/-! pages: what stands at each place (0 nothing, k + 1 the kind k); sets of places as ints -/
def ndp (p : Nat) : Nat := if (3 < p ∧ p < 7) ∨ p = 10 ∨ p = 11 ∨ p = 14 then 1 else 2
def flt (p : Nat) : Bool := decide ((3 < p ∧ p < 7) ∨ p = 10 ∨ p = 11 ∨ p = 14)
def ors (c : Nat → Bool) : Int32 := up (fun i x => if c i = true then x ||| b1 i else x) 0 16 0
theorem bt_ors (c : Nat → Bool) {i : Nat} (hi : i < 32) : bt (ors c) i = (decide (i < 16) && c i) := by
  have h := up_inv (N := 16) (st := fun i x => if c i = true then x ||| b1 i else x) (fun j x => ∀ i, i < 32 → bt x i = (decide (i < j) && c i)) (by
    intro j x hj hx i hi
    by_cases hc : c j = true
    · simp only [hc, if_true]
      rw [b_or, hx i hi, bt_b1 (by omega) hi]
      by_cases e : i = j
      · subst e
        simp [hc]
      · have e2 : decide (i < j + 1) = decide (i < j) := by
          apply decide_eq_decide.mpr
          omega
        simp [e, e2]
    · show bt (if c j = true then x ||| b1 j else x) i = _
      rw [if_neg hc, hx i hi]
      by_cases e : i = j
      · subst e
        simp [hc]
      · have e2 : decide (i < j + 1) = decide (i < j) := by
          apply decide_eq_decide.mpr
          omega
        simp [e2]) 16 0 0 rfl (by intro i hi; simp [b_0])
  exact h i hi
theorem ors_eq {c : Nat → Bool} {x : Int32} (h : ∀ i, i < 32 → bt x i = (decide (i < 16) && c i)) : x = ors c := by
  apply b_ext
  intro i hi
  rw [h i hi, bt_ors c hi]
theorem ors_congr {c d : Nat → Bool} (h : ∀ i, i < 16 → c i = d i) : ors c = ors d := by
  apply ors_eq
  intro i hi
  rw [bt_ors c hi]
  by_cases e : i < 16
  · rw [h i e]
  · simp [e]
theorem ors_z {c : Nat → Bool} : ors c = 0 ↔ ∀ i, i < 16 → c i = false := by
  rw [z_iff]
  constructor
  · intro h i hi
    have := h i (by omega)
    rw [bt_ors c (by omega)] at this
    simpa [hi] using this
  · intro h i hi
    rw [bt_ors c hi]
    by_cases e : i < 16
    · simp [h i e]
    · simp [e]
def TH (g : Nat → Nat) : Int32 := ors (fun i => decide (g i ≠ 0))
theorem bt_TH (g : Nat → Nat) {i : Nat} (hi : i < 32) : bt (TH g) i = (decide (i < 16) && decide (g i ≠ 0)) := bt_ors _ hi
theorem bt_TH' (g : Nat → Nat) {i : Nat} (hi : i < 16) : bt (TH g) i = decide (g i ≠ 0) := by
  rw [bt_TH g (by omega)]
  simp [hi]
/-- all that is gone, if these fall -/
def GNs (g : Nat → Nat) (i : Nat) (x : Int32) : Int32 := if g i = 0 then x else if (sUN i &&& x) = 0 then x else x ||| b1 i
def GN (g : Nat → Nat) (x : Int32) : Int32 := up (GNs g) 0 16 x
def Sup (g : Nat → Nat) : Prop := ∀ i, i < 16 → g i ≠ 0 → ∀ j, j < 32 → bt (sUN i) j = true → g j ≠ 0
theorem sUN_lt : ∀ i, i < 16 → ∀ j, j < 32 → bt (sUN i) j = true → j < i := by decide +kernel
theorem GNs_bt (g : Nat → Nat) {i : Nat} (hi : i < 16) (x : Int32) {j : Nat} (hj : j < 32) (h : j ≠ i) : bt (GNs g i x) j = bt x j := by
  unfold GNs
  split
  · rfl
  · split
    · rfl
    · rw [b_or, bt_b1 (by omega) hj]
      simp [h]
theorem GN_pre (g : Nat → Nat) (x : Int32) : ∀ k, k ≤ 16 → ∀ j, j < 32 → (k ≤ j → bt (up (GNs g) 0 k x) j = bt x j) ∧ (j < k → bt (GN g x) j = bt (up (GNs g) 0 k x) j) := by
  have hdown : ∀ d k, k + d = 16 → ∀ j, j < 32 → j < k → bt (GN g x) j = bt (up (GNs g) 0 k x) j := by
    intro d
    induction d with
    | zero =>
      intro k hk j hj hjk
      have e : k = 16 := by omega
      subst e
      rfl
    | succ d ih =>
      intro k hk j hj hjk
      rw [ih (k + 1) (by omega) j hj (by omega), up_succ, Nat.zero_add, GNs_bt g (by omega) _ hj (by omega)]
  have hup : ∀ k, k ≤ 16 → ∀ j, j < 32 → k ≤ j → bt (up (GNs g) 0 k x) j = bt x j := by
    intro k
    induction k with
    | zero => intro _ j _ _; rfl
    | succ k ih =>
      intro hk j hj hkj
      rw [up_succ, Nat.zero_add, GNs_bt g (by omega) _ hj (by omega)]
      exact ih (by omega) j hj (by omega)
  intro k hk j hj
  exact ⟨fun h => hup k hk j hj h, fun h => hdown (16 - k) k (by omega) j hj h⟩
theorem GN_hi (g : Nat → Nat) (x : Int32) {j : Nat} (hj : j < 32) (h : 16 ≤ j) : bt (GN g x) j = bt x j := (GN_pre g x 16 (Nat.le_refl _) j hj).1 h
/-- what stands at i is gone just if it fell itself or something below it is gone -/
theorem GN_bt (g : Nat → Nat) (x : Int32) {i : Nat} (hi : i < 16) : bt (GN g x) i = (bt x i || (decide (g i ≠ 0) && !decide ((sUN i &&& GN g x) = 0))) := by
  have h1 := (GN_pre g x (i + 1) (by omega) i (by omega)).2 (by omega)
  have h0 := (GN_pre g x i (by omega) i (by omega)).1 (Nat.le_refl _)
  have hs : ((sUN i &&& up (GNs g) 0 i x) = 0) ↔ ((sUN i &&& GN g x) = 0) := by
    rw [and_z, and_z]
    constructor
    · intro h j hj
      have := h j hj
      cases hb : bt (sUN i) j with
      | false => simp
      | true =>
        rw [(GN_pre g x i (by omega) j hj).2 (sUN_lt i hi j hj hb)]
        rwa [hb] at this
    · intro h j hj
      have := h j hj
      cases hb : bt (sUN i) j with
      | false => simp
      | true =>
        rw [← (GN_pre g x i (by omega) j hj).2 (sUN_lt i hi j hj hb)]
        rwa [hb] at this
  rw [h1, up_succ, Nat.zero_add]
  generalize up (GNs g) 0 i x = y at h0 hs
  unfold GNs
  by_cases hg : g i = 0
  · simp [hg, h0]
  · by_cases hz : (sUN i &&& y) = 0
    · have hz2 := hs.mp hz
      simp [hg, hz, hz2, h0]
    · have hz2 : ¬ (sUN i &&& GN g x) = 0 := fun e => hz (hs.mpr e)
      rw [if_neg hg, if_neg hz, b_or, bt_b1 (by omega) (by omega)]
      simp [hz2, hg]
theorem GN_sub (g : Nat → Nat) {x : Int32} (hx : ∀ j, j < 32 → bt x j = true → bt (TH g) j = true) : ∀ j, j < 32 → bt (GN g x) j = true → bt (TH g) j = true := by
  intro j hj h
  by_cases hl : j < 16
  · rw [GN_bt g x hl] at h
    rw [Bool.or_eq_true] at h
    rcases h with h | h
    · exact hx j hj h
    · rw [bt_TH' g hl]
      rw [Bool.and_eq_true] at h
      exact h.1
  · rw [GN_hi g x hj (by omega)] at h
    exact hx j hj h
theorem GN_in (g : Nat → Nat) (x : Int32) {j : Nat} (hj : j < 32) (h : bt x j = true) : bt (GN g x) j = true := by
  by_cases hl : j < 16
  · rw [GN_bt g x hl, h, Bool.true_or]
  · rw [GN_hi g x hj (by omega)]
    exact h
def rmv (g : Nat → Nat) (x : Int32) : Nat → Nat := fun i => if bt x i = true then 0 else g i
theorem TH_rmv (g : Nat → Nat) (x : Int32) : TH g &&& (x ^^^ (-1)) = TH (rmv g x) := by
  apply ors_eq
  intro i hi
  rw [b_and, bt_not x hi, bt_TH g hi]
  unfold rmv
  cases bt x i <;> simp
theorem Sup_rmv {g : Nat → Nat} (hs : Sup g) (x : Int32) : Sup (rmv g (GN g x)) := by
  intro i hi h j hj hb
  unfold rmv at h ⊢
  by_cases hgi : bt (GN g x) i = true
  · simp [hgi] at h
  · rw [if_neg hgi] at h
    have hgj := hs i hi h j hj hb
    by_cases hgn : bt (GN g x) j = true
    · exfalso
      apply hgi
      rw [GN_bt g x hi]
      have hz : ¬ (sUN i &&& GN g x) = 0 := by
        intro e
        have := and_z.mp e j hj
        rw [hb, hgn] at this
        simp at this
      simp [h, hz]
    · rw [if_neg hgn]
      exact hgj
/-- only what stands matters -/
theorem GN_mask {g : Nat → Nat} (hs : Sup g) (x : Int32) : ∀ i, i < 16 → g i ≠ 0 → bt (GN g x) i = bt (GN g (x &&& TH g)) i := by
  intro i
  induction i using Nat.strongRecOn with
  | ind i ih =>
    intro hi hg
    rw [GN_bt g x hi, GN_bt g (x &&& TH g) hi, b_and, bt_TH' g hi]
    have e : ((sUN i &&& GN g x) = 0) ↔ ((sUN i &&& GN g (x &&& TH g)) = 0) := by
      rw [and_z, and_z]
      constructor
      · intro h j hj
        have h1 := h j hj
        cases hb : bt (sUN i) j with
        | false => simp
        | true =>
          have hj2 := sUN_lt i hi j hj hb
          rw [← ih j hj2 (by omega) (hs i hi hg j hj hb)]
          rwa [hb] at h1
      · intro h j hj
        have h1 := h j hj
        cases hb : bt (sUN i) j with
        | false => simp
        | true =>
          have hj2 := sUN_lt i hi j hj hb
          rw [ih j hj2 (by omega) (hs i hi hg j hj hb)]
          rwa [hb] at h1
    have e2 : decide ((sUN i &&& GN g x) = 0) = decide ((sUN i &&& GN g (x &&& TH g)) = 0) := decide_eq_decide.mpr e
    rw [e2]
    simp [hg]
/-- how many -/
def cnt (x : Int32) : Nat := up (fun i n => n + (if bt x i = true then 1 else 0)) 0 16 0
theorem cnt_le (x : Int32) : cnt x ≤ 16 := by
  have h := up_inv (N := 16) (st := fun i n => n + (if bt x i = true then 1 else 0)) (fun j n => n ≤ j) (by
    intro j a hj ha
    show a + _ ≤ j + 1
    split <;> omega) 16 0 0 rfl (Nat.le_refl _)
  exact h
theorem cnt_add {x y z : Int32} (h : ∀ i, i < 16 → ((if bt x i = true then 1 else 0) + (if bt y i = true then 1 else 0) : Nat) = (if bt z i = true then 1 else 0)) : cnt x + cnt y = cnt z := by
  have h2 := up_rel (N := 16) (st := fun i (n : Nat × Nat) => (n.1 + (if bt x i = true then 1 else 0), n.2 + (if bt y i = true then 1 else 0))) (st2 := fun i n => n + (if bt z i = true then 1 else 0)) (fun j a b => a.1 + a.2 = b) (by
    intro j a b hj hab
    show a.1 + _ + (a.2 + _) = b + _
    rw [← h j hj]
    omega) 16 0 (0, 0) 0 rfl rfl
  have hp : ∀ k i a b, up (fun i (n : Nat × Nat) => (n.1 + (if bt x i = true then 1 else 0), n.2 + (if bt y i = true then 1 else 0))) i k (a, b) = (up (fun i n => n + (if bt x i = true then 1 else 0)) i k a, up (fun i n => n + (if bt y i = true then 1 else 0)) i k b) := by
    intro k
    induction k with
    | zero => intro i a b; rfl
    | succ k ih => intro i a b; exact ih (i + 1) _ _
  rw [hp] at h2
  exact h2
theorem cnt_congr {x y : Int32} (h : ∀ i, i < 16 → bt x i = bt y i) : cnt x = cnt y := by
  have := cnt_add (x := x) (y := 0) (z := y) (fun i hi => by rw [h i hi, b_0]; simp)
  have h0 : cnt 0 = 0 := by decide +kernel
  omega
theorem cnt_pos {x : Int32} {i : Nat} (hi : i < 16) (h : bt x i = true) : 0 < cnt x := by
  have h2 := cnt_add (x := b1 i) (y := x &&& (b1 i ^^^ (-1))) (z := x) (fun j hj => by
    rw [bt_b1 (by omega) (by omega), b_and, bt_not _ (by omega), bt_b1 (by omega) (by omega)]
    by_cases e : j = i
    · subst e; simp [h]
    · simp [e])
  have h3 : ∀ i, i < 16 → cnt (b1 i) = 1 := by decide +kernel
  have := h3 i hi
  omega
