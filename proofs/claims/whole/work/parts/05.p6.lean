/-! the reference's loads; falling -/
theorem m_isFlat : ∀ p, p < 16 → fX5_isFlat (nI p) = some (if flt p = true then 1 else 0) := by decide +kernel
theorem m_need : ∀ p, p < 16 → fX5_need (nI p) = some (nI (ndp p)) := by decide +kernel
theorem m_below : ∀ p, p < 16 → fX5_below (nI p) = some (sUN p) := by decide +kernel
theorem m_has (x : Int32) {p : Nat} (hp : p < 32) : fX5_has x (nI p) = some (if bt x p = true then 1 else 0) := by
  unfold fX5_has
  rw [sh1 x hp]
  cases bt x p <;> simp
theorem m_weighs {g : Nat → Nat} {p : Nat} (hp : p < 16) (h4 : g p ≤ 4) (h0 : g p ≠ 0) : fX5_weighs (nI p) (nI (g p) - 1) = some (nI (wt g p)) := by
  unfold fX5_weighs wt
  rw [m_need p hp, ob_some, show nI (g p) - 1 = nI (g p - 1) from pk_sub (b := 1) (by omega)]
  generalize g p = v at *
  by_cases e : v = 4
  · subst e
    rw [if_pos (by decide), if_pos rfl]
    show some (nI (ndp p) * nI 16) = _
    rw [pk_mul]
  · rw [if_neg (fun z => e (by have := (nI_eq (a := v - 1) (b := 3) (by omega) (by decide)).mp z; omega)), if_neg e]
    show some (nI (ndp p) * nI 8) = _
    rw [pk_mul]
def mdc (g : Nat → Nat) (p : Nat) (v : Int32) (q : Nat) : Int32 := if bt (sUN p) q = true then (if flt p = true then v / 2 else v) else 0
def mdW (g : Nat → Nat) (p : Nat) (L : Nat → Int32) : Nat → Int32 := if g p = 0 then L else up (fun q L2 => upd L2 (0 + q) (L2 (0 + q) + mdc g p (nI (wt g p) + L p) q)) 0 p L
theorem m_inner {g : Nat → Nat} {h : Nat → Int32} {kk : Int32 → (Nat → Int32) → Option (Nat → Int32)} {p : Nat} (hp : p < 16) (v : Int32) (L : Nat → Int32) : fX5_layLoads_L54 kk (nI p) v h FU 0 L = kk (nI p + (-1)) (up (fun q L2 => upd L2 (0 + q) (L2 (0 + q) + mdc g p v q)) 0 p L) := by
  have h1 := loop_up0 (f := fun n i a => fX5_layLoads_L54 kk (nI p) v h n (nI i) a) (N := p) (st := fun q L2 => upd L2 (0 + q) (L2 (0 + q) + mdc g p v q)) (ex := fun a => kk (nI p + (-1)) a) (by
    intro n a
    show fX5_layLoads_L54 kk (nI p) v h (n + 1) (nI p) a = _
    rw [fX5_layLoads_L54, if_pos (nI_le (Nat.le_refl p) (by omega))]
    rfl) (by
    intro n q a hq
    show fX5_layLoads_L54 kk (nI p) v h (n + 1) (nI q) a = fX5_layLoads_L54 kk (nI p) v h n (nI (q + 1)) _
    rw [fX5_layLoads_L54, if_neg (nI_ge hq (by omega)), m_below p hp]
    simp only [gdn (show q < 16 by omega) (show (16 : Nat) < 2 ^ 31 by decide), ob_some, m_has (sUN p) (show q < 32 by omega), m_isFlat p hp, nm_eq, clN (show q < 2 ^ 31 by omega), nI_1, Nat.zero_add]
    unfold mdc
    cases bt (sUN p) q
    · simp
    · cases flt p
      · simp
      · simp) FU L (FU_gt (by omega))
  exact h1
theorem m_layLoads_dn {g : Nat → Nat} {h : Nat → Int32} (hg : ∀ p, p < 16 → h p = nI (g p)) (h4 : ∀ p, p < 16 → g p ≤ 4) (L : Nat → Int32) : fX5_layLoads h L = some (dn (mdW g) 16 (up (fun i L => upd L (0 + i) 0) 0 16 L)) := by
  unfold fX5_layLoads
  have h1 := loop_up0 (f := fun n i a => fX5_layLoads_L2 h n (nI i) a) (N := 16) (st := fun i L => upd L (0 + i) 0) (ex := fun a => fX5_layLoads_L24 h FU 15 a) (by
    intro n a
    show fX5_layLoads_L2 h (n + 1) (nI 16) a = _
    rw [fX5_layLoads_L2, if_pos y16]) (by
    intro n i a hi
    show fX5_layLoads_L2 h (n + 1) (nI i) a = fX5_layLoads_L2 h n (nI (i + 1)) _
    rw [fX5_layLoads_L2, if_neg (n16 hi), gdn hi (by omega), clN (by omega), Nat.zero_add]
    simp only [nm_eq]
    rw [nI_1]) FU L (FU_gt (by omega))
  refine Eq.trans h1 ?_
  have h2 := loop_dn (f := fun n k a => fX5_layLoads_L24 h n (nI k + (-1)) a) (N := 16) (st := mdW g) (ex := fun a => some a) (fun _ _ => True) (by
    intro n a _
    show fX5_layLoads_L24 h (n + 1) (nI 0 + (-1)) a = _
    rw [fX5_layLoads_L24, if_pos (by decide)]) (by
    intro n k a hk2 _
    refine ⟨?_, trivial⟩
    show fX5_layLoads_L24 h (n + 1) (nI (k + 1) + (-1)) a = fX5_layLoads_L24 h n (nI k + (-1)) _
    rw [pk_m1, fX5_layLoads_L24, if_neg (nI_pos (by omega))]
    simp only [gdn (show k < 17 by omega) (show (17 : Nat) < 2 ^ 31 by decide), gdn (show k < 16 by omega) (show (16 : Nat) < 2 ^ 31 by decide), clN (show k < 2 ^ 31 by omega), hg k hk2, nm_eq]
    have hb := h4 k hk2
    unfold mdW
    by_cases e : g k = 0
    · rw [if_pos (by rw [e]; decide), if_pos e]
    · rw [if_neg (nI_nle (by omega) (by omega)), if_neg e, m_weighs hk2 hb e, ob_some, m_inner (g := g) hk2]) 16 FU (up (fun i L => upd L (0 + i) 0) 0 16 L) (Nat.le_refl _) (FU_gt (by omega)) trivial
  exact h2
theorem m_layLoads {g : Nat → Nat} {h : Nat → Int32} (hg : ∀ p, p < 16 → h p = nI (g p)) (h4 : ∀ p, p < 16 → g p ≤ 4) (L : Nat → Int32) : ∃ L2, fX5_layLoads h L = some L2 ∧ ∀ q, q < 16 → L2 q = nI (LD g q) := by
  refine ⟨_, m_layLoads_dn hg h4 L, ?_⟩
  have h := dn_rel (N := 16) (st := mdW g) (st2 := stW g) LR (by
    intro p L A hp hLR
    refine ⟨fun q hq => ?_, stW_le hp hLR.2⟩
    have hq1 := hLR.1 q hq
    have hp1 := hLR.1 p hp
    have b1 := bd_lt (by omega) (hLR.2 q)
    have b2 := bd_lt (by omega) (hLR.2 p)
    have b3 := wt_le g p
    unfold mdW stW
    by_cases e : g p = 0
    · simp [e, hq1]
    · rw [if_neg e, up_upd (fun q x => x + mdc g p (nI (wt g p) + L p) q), Nat.sub_zero, Nat.zero_add]
      unfold mdc
      by_cases c : bt (sUN p) q = true
      · have hlt := sUN_lt p hp q (by omega) c
        have cA : g p ≠ 0 ∧ bt (sUN p) q = true := ⟨e, c⟩
        have cB : 0 ≤ q ∧ q < p := ⟨Nat.zero_le _, hlt⟩
        rw [if_pos cB, if_pos cA, if_pos c, hq1, hp1, nI_add]
        by_cases hf : flt p = true
        · rw [if_pos hf, if_pos hf, half (by omega), nI_add]
        · rw [if_neg hf, if_neg hf, nI_add]
      · have cA : ¬ (g p ≠ 0 ∧ bt (sUN p) q = true) := fun z => c z.2
        rw [if_neg cA, if_neg c]
        split
        · rw [hq1]
          show nI (A q) + nI 0 = _
          rw [nI_add]
          rfl
        · exact hq1) 16 _ _ (Nat.le_refl _) (LR_0 L)
  exact h.1
theorem c_goneWith (g : Nat → Nat) (x : Int32) : fX1_goneWith (TH g) x = some (GN g (x &&& TH g)) := by
  unfold fX1_goneWith
  simp only [nm_eq]
  have h1 := loop_up0 (f := fun n i a => fX1_goneWith_L9 x (TH g) n a (nI i)) (N := 16) (st := GNs g) (ex := fun a => some a) (by
    intro n a
    show fX1_goneWith_L9 x (TH g) (n + 1) a (nI 16) = _
    rw [fX1_goneWith_L9, if_pos y16]) (by
    intro n i a hi
    show fX1_goneWith_L9 x (TH g) (n + 1) a (nI i) = fX1_goneWith_L9 x (TH g) n _ (nI (i + 1))
    rw [fX1_goneWith_L9, if_neg (n16 hi), c_has g hi, ob_some]
    simp only [nm_eq, nI_1, gdn hi (show (16 : Nat) < 2 ^ 31 by decide), clN (show i < 2 ^ 31 by omega)]
    unfold GNs
    by_cases e : g i = 0
    · simp [e]
    · rw [if_neg e, if_neg (by decide), if_neg e]
      by_cases c : (sUN i &&& a) = 0
      · rw [if_pos c, if_pos c]
      · rw [if_neg c, if_neg c]
        rfl) FU (x &&& TH g) (FU_gt (by omega))
  exact h1
theorem m_spreadOf {g : Nat → Nat} {h : Nat → Int32} (hg : ∀ p, p < 16 → h p = nI (g p)) (h4 : ∀ p, p < 16 → g p ≤ 4) (x : Int32) : fX5_spreadOf h x = some (GN g x) := by
  unfold fX5_spreadOf
  have h1 := loop_up0 (f := fun n i a => fX5_spreadOf_L4 x h n a (nI i)) (N := 16) (st := GNs g) (ex := fun a => some a) (by
    intro n a
    show fX5_spreadOf_L4 x h (n + 1) a (nI 16) = _
    rw [fX5_spreadOf_L4, if_pos y16]) (by
    intro n i a hi
    show fX5_spreadOf_L4 x h (n + 1) a (nI i) = fX5_spreadOf_L4 x h n _ (nI (i + 1))
    have hb := h4 i hi
    rw [fX5_spreadOf_L4, if_neg (n16 hi)]
    simp only [nm_eq, nI_1, gdn (show i < 17 by omega) (show (17 : Nat) < 2 ^ 31 by decide), clN (show i < 2 ^ 31 by omega), hg i hi, or_0, m_below i hi, ob_some]
    unfold GNs
    by_cases e : g i = 0
    · rw [if_pos (by rw [e]; decide), if_pos e]
    · rw [if_neg (nI_nle (by omega) (by omega)), if_neg e]
      by_cases c : (sUN i &&& a) = 0
      · rw [if_pos c, if_pos c]
      · rw [if_neg c, if_neg c]
        rfl) FU x (FU_gt (by omega))
  exact h1
/-- the reference's page holds the page g, and how many fell -/
def MR (g : Nat → Nat) (fe : Int32) (h : Nat → Int32) : Prop := (∀ p, p < 16 → h p = nI (g p)) ∧ h 16 = fe
theorem rmv_le {g : Nat → Nat} (h4 : ∀ p, p < 16 → g p ≤ 4) (x : Int32) : ∀ p, p < 16 → rmv g x p ≤ 4 := by
  intro p hp
  unfold rmv
  split
  · omega
  · exact h4 p hp
theorem m_fallAll {g : Nat → Nat} {fe : Int32} {h : Nat → Int32} (hM : MR g fe h) (h4 : ∀ p, p < 16 → g p ≤ 4) (x : Int32) : ∃ h2, fX5_fallAll h x = some (nI (cnt (GN g x)), h2) ∧ MR (rmv g (GN g x)) fe h2 := by
  unfold fX5_fallAll
  rw [m_spreadOf hM.1 h4, ob_some]
  have h1 := loop_up0 (f := fun n i a => fX5_fallAll_L8 x (GN g x) n (nI i) a) (N := 16) (st := fun i L => upd L (0 + i) (if bt (GN g x) i = true then 0 else L (0 + i))) (ex := fun a => some (nI (cnt (GN g x)), a)) (by
    intro n a
    show fX5_fallAll_L8 x (GN g x) (n + 1) (nI 16) a = _
    rw [fX5_fallAll_L8, if_pos y16, f_many, ob_some]) (by
    intro n i a hi
    show fX5_fallAll_L8 x (GN g x) (n + 1) (nI i) a = fX5_fallAll_L8 x (GN g x) n (nI (i + 1)) _
    rw [fX5_fallAll_L8, if_neg (n16 hi), m_has _ (by omega), ob_some]
    simp only [nm_eq, nI_1, gdn (show i < 17 by omega) (show (17 : Nat) < 2 ^ 31 by decide), clN (show i < 2 ^ 31 by omega), Nat.zero_add]
    cases bt (GN g x) i <;> simp) FU h (FU_gt (by omega))
  refine ⟨_, h1, ?_, ?_⟩
  · intro p hp
    rw [up_upd (fun i v => if bt (GN g x) i = true then 0 else v), if_pos (by omega), Nat.sub_zero]
    unfold rmv
    split
    · rfl
    · exact hM.1 p hp
  · rw [up_upd (fun i v => if bt (GN g x) i = true then 0 else v), if_neg (by omega)]
    exact hM.2
