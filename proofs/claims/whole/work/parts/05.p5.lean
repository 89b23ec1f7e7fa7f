/-! what each place bears -/
def wt (g : Nat → Nat) (p : Nat) : Nat := ndp p * (if g p = 4 then 16 else 8)
def stW (g : Nat → Nat) (p : Nat) (A : Nat → Nat) : Nat → Nat := fun q => if g p ≠ 0 ∧ bt (sUN p) q = true then A q + (if flt p = true then (wt g p + A p) / 2 else wt g p + A p) else A q
def LD (g : Nat → Nat) : Nat → Nat := dn (stW g) 16 (fun _ => 0)
def subp (g2 g : Nat → Nat) : Prop := ∀ p, g2 p = 0 ∨ g2 p = g p
theorem wt_le (g : Nat → Nat) (p : Nat) : wt g p ≤ 32 := by
  unfold wt ndp
  split <;> split <;> omega
theorem LD_mono {g2 g : Nat → Nat} (h : subp g2 g) (q : Nat) : LD g2 q ≤ LD g q := by
  have h2 := dn_rel (N := 16) (st := stW g2) (st2 := stW g) (fun _ A B => ∀ q, A q ≤ B q) (by
    intro p A B hp hAB q
    unfold stW
    have h1 := hAB q
    have h3 := hAB p
    rcases h p with e | e
    · rw [if_neg (fun z => z.1 e)]
      split <;> omega
    · have ew : wt g2 p = wt g p := by unfold wt; rw [e]
      rw [e, ew]
      by_cases c : g p ≠ 0 ∧ bt (sUN p) q = true
      · rw [if_pos c, if_pos c]
        split <;> omega
      · rw [if_neg c, if_neg c]
        exact h1) 16 (fun _ => 0) (fun _ => 0) (Nat.le_refl _) (fun _ => Nat.le_refl _)
  exact h2 q
theorem stW_le {g : Nat → Nat} {p : Nat} {A : Nat → Nat} {k : Nat} (hk : k < 16) (h : ∀ q, A q ≤ 32 * (2 ^ (16 - (k + 1)) - 1)) (q : Nat) : stW g p A q ≤ 32 * (2 ^ (16 - k) - 1) := by
  have e : 16 - k = 16 - (k + 1) + 1 := by omega
  rw [e, Nat.pow_succ]
  have h1 := h q
  have h2 := h p
  have h3 := wt_le g p
  have h4 : 0 < 2 ^ (16 - (k + 1)) := Nat.pow_pos (by omega)
  unfold stW
  generalize 2 ^ (16 - (k + 1)) = z at *
  split
  · split <;> omega
  · omega
theorem bd_lt {k : Nat} (_hk : k ≤ 16) {x : Nat} (h : x ≤ 32 * (2 ^ (16 - k) - 1)) : x < 2 ^ 22 := by
  have h4 : 2 ^ (16 - k) ≤ 2 ^ 16 := Nat.pow_le_pow_right (by omega) (by omega)
  omega
def luN (p : Nat) : Nat := [0, 0, 0, 0, 0, 1, 2, 4, 5, 6, 7, 8, 10, 11, 12, 14].getD p 0
def ruN (p : Nat) : Nat := [0, 0, 0, 0, 1, 2, 3, 0, 0, 0, 8, 9, 0, 0, 13, 0].getD p 0
theorem lu_lo : ∀ p, p < 4 → sLU p = -9 ∧ sRU p = -9 ∧ flt p = false := by decide +kernel
theorem lu_hi : ∀ p, p < 16 → 4 ≤ p → sLU p = nI (luN p) ∧ luN p < p := by decide +kernel
theorem ru_hi : ∀ p, p < 16 → flt p = true → sRU p = nI (ruN p) ∧ ruN p < p ∧ luN p ≠ ruN p ∧ 4 ≤ p := by decide +kernel
theorem ru_no : ∀ p, p < 16 → flt p = false → sRU p = -9 := by decide +kernel
theorem un_bt : ∀ p, p < 16 → ∀ q, q < 16 → bt (sUN p) q = decide (4 ≤ p ∧ (q = luN p ∨ (flt p = true ∧ q = ruN p))) := by decide +kernel
def KI (g : Nat → Nat) (ki : Int32) : Prop := ∀ p, p < 16 → g p ≠ 0 → ((ki >>> (nI (2 * p) &&& 31)) &&& 3) = nI (g p - 1)
theorem c_has (g : Nat → Nat) {p : Nat} (hp : p < 16) : fX1_has (TH g) (nI p) = some (if g p = 0 then 0 else 1) := by
  unfold fX1_has
  rw [sh1 _ (by omega), bt_TH' g hp]
  by_cases e : g p = 0
  · simp [e]
  · simp [e]
theorem c_cardsOf : ∀ p, p < 16 → fX4_cardsOf (nI p) = some (nI (ndp p)) := by decide +kernel
theorem c_kindOf {g : Nat → Nat} {ki : Int32} (hk : KI g ki) {p : Nat} (hp : p < 16) (hg : g p ≠ 0) : fX1_kindOf ki (nI p) = some (nI (g p - 1)) := by
  unfold fX1_kindOf
  rw [show (2 : Int32) * nI p = nI (2 * p) from pk_mul 2 p, hk p hp hg]
theorem c_cardWeight {v : Nat} (hv : v ≤ 4) (h0 : v ≠ 0) : fX4_cardWeight (nI (v - 1)) = some (nI (if v = 4 then 16 else 8)) := by
  rcases (by omega : v = 1 ∨ v = 2 ∨ v = 3 ∨ v = 4) with e | e | e | e <;> subst e <;> decide
theorem c_weightOf {g : Nat → Nat} {ki : Int32} (hk : KI g ki) {p : Nat} (hp : p < 16) (hg : g p ≠ 0) (h4 : g p ≤ 4) : fX1_weightOf ki (nI p) = some (nI (wt g p)) := by
  unfold fX1_weightOf
  rw [c_cardsOf p hp, ob_some, c_kindOf hk hp hg, ob_some, c_cardWeight h4 hg, ob_some, pk_mul]
  rfl
theorem c_isPiece : ∀ p, p < 16 → fX4_isPiece (nI p) = some 1 := by decide +kernel
theorem c_isPiece9 : fX4_isPiece (-9) = some 0 := by decide +kernel
def clW (g : Nat → Nat) (p : Nat) (L : Nat → Int32) : Nat → Int32 :=
  if g p = 0 then L else if p < 4 then L else if flt p = true then upd (upd L (luN p) (L (luN p) + (nI (wt g p) + L p) / 2)) (ruN p) ((upd L (luN p) (L (luN p) + (nI (wt g p) + L p) / 2)) (ruN p) + (nI (wt g p) + L p) / 2) else upd L (luN p) (L (luN p) + (nI (wt g p) + L p))
theorem c_weigh_L24 {g : Nat → Nat} {ki : Int32} (hk : KI g ki) (h4 : ∀ p, p < 16 → g p ≤ 4) (n : Nat) {p : Nat} (hp : p < 16) (L : Nat → Int32) : fX1_weigh_L24 (TH g) ki (n + 1) (nI p) L = fX1_weigh_L24 (TH g) ki n (nI p + (-1)) (clW g p L) := by
  rw [fX1_weigh_L24, if_neg (nI_pos (by omega)), c_has g hp, ob_some]
  unfold clW
  by_cases e : g p = 0
  · simp [e, nm_eq]
  · simp only [e, if_false]
    rw [if_neg (by decide), c_weightOf hk hp e (h4 p hp), ob_some]
    simp only [gdn hp (show (16 : Nat) < 2 ^ 31 by decide), nm_eq, clN (show p < 2 ^ 31 by omega)]
    by_cases hl : p < 4
    · obtain ⟨h1, h2, -⟩ := lu_lo p hl
      rw [h1, h2, c_isPiece9, if_pos hl]
      simp only [ob_some, if_true]
    · obtain ⟨h1, h2⟩ := lu_hi p hp (by omega)
      rw [if_neg hl]
      by_cases hf : flt p = true
      · obtain ⟨h3, h5, h6, -⟩ := ru_hi p hp hf
        rw [if_pos hf, h1, h3, c_isPiece (luN p) (by omega), c_isPiece (ruN p) (by omega)]
        simp only [ob_some, if_neg (show ¬ (1 : Int32) = 0 by decide), gdn (show luN p < 16 by omega) (show (16 : Nat) < 2 ^ 31 by decide), gdn (show ruN p < 16 by omega) (show (16 : Nat) < 2 ^ 31 by decide), clN (show luN p < 2 ^ 31 by omega), clN (show ruN p < 2 ^ 31 by omega)]
      · have hf2 : flt p = false := by cases h : flt p with | true => exact absurd h hf | false => rfl
        rw [if_neg hf, h1, ru_no p hp hf2, c_isPiece (luN p) (by omega), c_isPiece9]
        simp only [ob_some, if_neg (show ¬ (1 : Int32) = 0 by decide), gdn (show luN p < 16 by omega) (show (16 : Nat) < 2 ^ 31 by decide), clN (show luN p < 2 ^ 31 by omega), if_true]
theorem c_weigh_dn {g : Nat → Nat} {ki : Int32} (hk : KI g ki) (h4 : ∀ p, p < 16 → g p ≤ 4) (L : Nat → Int32) : fX1_weigh (TH g) ki L = some (dn (clW g) 16 (up (fun i L => upd L (0 + i) 0) 0 16 L)) := by
  unfold fX1_weigh
  have h1 := loop_up0 (f := fun n i a => fX1_weigh_L2 (TH g) ki n (nI i) a) (N := 16) (st := fun i L => upd L (0 + i) 0) (ex := fun a => fX1_weigh_L24 (TH g) ki FU 15 a) (by
    intro n a
    show fX1_weigh_L2 (TH g) ki (n + 1) (nI 16) a = _
    rw [fX1_weigh_L2, if_pos y16]) (by
    intro n i a hi
    show fX1_weigh_L2 (TH g) ki (n + 1) (nI i) a = fX1_weigh_L2 (TH g) ki n (nI (i + 1)) _
    rw [fX1_weigh_L2, if_neg (n16 hi), gdn hi (by omega), clN (by omega), Nat.zero_add]
    simp only [nm_eq]
    rw [nI_1]) FU L (FU_gt (by omega))
  refine Eq.trans h1 ?_
  have h2 := loop_dn (f := fun n k a => fX1_weigh_L24 (TH g) ki n (nI k + (-1)) a) (N := 16) (st := clW g) (ex := fun a => some a) (fun _ _ => True) (by
    intro n a _
    show fX1_weigh_L24 (TH g) ki (n + 1) (nI 0 + (-1)) a = _
    rw [fX1_weigh_L24, if_pos (by decide)]) (by
    intro n k a hk2 _
    refine ⟨?_, trivial⟩
    show fX1_weigh_L24 (TH g) ki (n + 1) (nI (k + 1) + (-1)) a = fX1_weigh_L24 (TH g) ki n (nI k + (-1)) _
    rw [pk_m1]
    exact c_weigh_L24 hk h4 n hk2 a) 16 FU (up (fun i L => upd L (0 + i) 0) 0 16 L) (Nat.le_refl _) (FU_gt (by omega)) trivial
  exact h2
def LR (k : Nat) (L : Nat → Int32) (A : Nat → Nat) : Prop := (∀ q, q < 16 → L q = nI (A q)) ∧ ∀ q, A q ≤ 32 * (2 ^ (16 - k) - 1)
theorem LR_0 (L : Nat → Int32) : LR 16 (up (fun i L => upd L (0 + i) 0) 0 16 L) (fun _ => 0) := by
  refine ⟨fun q hq => ?_, fun q => Nat.zero_le _⟩
  have := up_upd (fun _ _ => 0) 0 16 L q
  rw [this, if_pos (by omega)]
  rfl
theorem half {a : Nat} (h : a < 2 ^ 31) : nI a / (2 : Int32) = nI (a / 2) := pk_div h (by decide) (by decide)
theorem c_weigh {g : Nat → Nat} {ki : Int32} (hk : KI g ki) (h4 : ∀ p, p < 16 → g p ≤ 4) (L : Nat → Int32) : ∃ L2, fX1_weigh (TH g) ki L = some L2 ∧ ∀ q, q < 16 → L2 q = nI (LD g q) := by
  refine ⟨_, c_weigh_dn hk h4 L, ?_⟩
  have h := dn_rel (N := 16) (st := clW g) (st2 := stW g) LR (by
    intro p L A hp hLR
    refine ⟨fun q hq => ?_, stW_le hp hLR.2⟩
    have hq1 := hLR.1 q hq
    have hp1 := hLR.1 p hp
    have b1 := bd_lt (by omega) (hLR.2 q)
    have b2 := bd_lt (by omega) (hLR.2 p)
    have b3 := wt_le g p
    unfold clW stW
    rw [un_bt p hp q hq]
    by_cases e : g p = 0
    · simp [e, hq1]
    · by_cases hl : p < 4
      · rw [if_neg e, if_pos hl, if_neg (by simp; omega)]
        exact hq1
      · rw [if_neg e, if_neg hl]
        by_cases hf : flt p = true
        · obtain ⟨-, h5, h6, -⟩ := ru_hi p hp hf
          obtain ⟨-, h7⟩ := lu_hi p hp (by omega)
          rw [if_pos hf]
          have hv : (nI (wt g p) + L p) / 2 = nI ((wt g p + A p) / 2) := by rw [hp1, nI_add, half (by omega)]
          rw [hv]
          by_cases c1 : q = ruN p
          · rw [if_pos ⟨e, by simp; exact ⟨by omega, Or.inr ⟨hf, c1⟩⟩⟩, if_pos hf]
            subst c1
            rw [pk_us, pk_un (fun z => h6 z.symm), hq1, nI_add]
          · rw [pk_un c1]
            by_cases c2 : q = luN p
            · rw [if_pos ⟨e, by simp; exact ⟨by omega, Or.inl c2⟩⟩, if_pos hf]
              subst c2
              rw [pk_us, hq1, nI_add]
            · rw [pk_un c2, if_neg (by simp [c1, c2])]
              exact hq1
        · obtain ⟨-, h7⟩ := lu_hi p hp (by omega)
          rw [if_neg hf]
          by_cases c2 : q = luN p
          · rw [if_pos ⟨e, by simp; exact ⟨by omega, Or.inl c2⟩⟩, if_neg hf]
            subst c2
            rw [pk_us, hq1, hp1, nI_add, nI_add]
          · rw [pk_un c2, if_neg (by simp [c2, hf])]
            exact hq1) 16 _ _ (Nat.le_refl _) (LR_0 L)
  exact h.1
