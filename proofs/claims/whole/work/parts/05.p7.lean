/-! what is too weak; settling -/
def brs (v : Nat) : Nat := if v = 2 then 30 else if v = 3 then 45 else if v = 4 then 80 else 60
def WKc (g : Nat → Nat) (i : Nat) : Bool := decide (g i ≠ 0) && decide (brs (g i) < LD g i)
def WK (g : Nat → Nat) : Int32 := ors (WKc g)
def PG (g : Nat → Nat) : Prop := ∀ p, p < 16 → g p ≤ 4
theorem LD_lt (g : Nat → Nat) (q : Nat) : LD g q < 2 ^ 22 := by
  have h := dn_inv (N := 16) (st := stW g) (fun k A => ∀ q, A q ≤ 32 * (2 ^ (16 - k) - 1)) (fun j a hj h q => stW_le hj h q) 16 (fun _ => 0) (Nat.le_refl _) (fun q => Nat.zero_le _)
  exact bd_lt (Nat.zero_le _) (h q)
theorem WK_sub (g : Nat → Nat) : ∀ j, j < 32 → bt (WK g) j = true → bt (TH g) j = true := by
  intro j hj h
  unfold WK at h
  rw [bt_ors _ hj] at h
  rw [bt_TH g hj]
  unfold WKc at h
  simp only [Bool.and_eq_true] at h ⊢
  exact ⟨h.1, h.2.1⟩
theorem and_sub {x y : Int32} (h : ∀ j, j < 32 → bt x j = true → bt y j = true) : x &&& y = x := by
  apply b_ext
  intro i hi
  rw [b_and]
  cases hx : bt x i with
  | false => rfl
  | true => rw [h i hi hx]; rfl
theorem c_drop (g : Nat → Nat) (fe x : Int32) : fX1_drop (TH g) fe x = some (nI (cnt (GN g (x &&& TH g))), (TH (rmv g (GN g (x &&& TH g))), fe + nI (cnt (GN g (x &&& TH g))))) := by
  unfold fX1_drop
  rw [c_goneWith, ob_some]
  simp only [nm_eq]
  rw [f_bitCount (lo_GN g (lo_and2 x (lo_TH g))), ob_some, TH_rmv]
theorem KI_sub {g g2 : Nat → Nat} {ki : Int32} (h : KI g ki) (hs : subp g2 g) : KI g2 ki := by
  intro p hp h0
  rcases hs p with e | e
  · exact absurd e h0
  · rw [e] at h0 ⊢
    exact h p hp h0
theorem sub_rmv (g : Nat → Nat) (x : Int32) : subp (rmv g x) g := by
  intro p
  unfold rmv
  split
  · exact Or.inl rfl
  · exact Or.inr rfl
theorem sub_tr {a b c : Nat → Nat} (h : subp a b) (h2 : subp b c) : subp a c := by
  intro p
  rcases h p with e | e
  · exact Or.inl e
  · rcases h2 p with e2 | e2
    · exact Or.inl (e.trans e2)
    · exact Or.inr (e.trans e2)
theorem sub_rf (g : Nat → Nat) : subp g g := fun _ => Or.inr rfl
theorem PG_sub {g g2 : Nat → Nat} (h : PG g) (hs : subp g2 g) : PG g2 := by
  intro p hp
  rcases hs p with e | e
  · omega
  · rw [e]; exact h p hp
theorem s_BE {v : Nat} (h0 : v ≠ 0) (h4 : v ≤ 4) : sBE (v - 1) = nI (brs v) := by
  rcases (by omega : v = 1 ∨ v = 2 ∨ v = 3 ∨ v = 4) with e | e | e | e <;> subst e <;> rfl
theorem c_settle_in {g : Nat → Nat} {ki : Int32} (hk : KI g ki) (h4 : PG g) {L : Nat → Int32} (hL : ∀ q, q < 16 → L q = nI (LD g q)) (kk : Int32 → Int32 → Int32 → Int32 → (Nat → Int32) → Option (Int32 × Int32 × Int32 × (Nat → Int32))) (v1 v2 fe : Int32) :
    fX1_settle_L19 kk v1 v2 (TH g) ki fe L FU 0 0 = if WK g = 0 then some (v1, (TH g, fe, L)) else ob (fX1_drop (TH g) fe (WK g)) (fun r => kk (v1 + r.1) (v2 + 1) r.2.1 r.2.2 L) := by
  have h1 := loop_up0 (f := fun n i a => fX1_settle_L19 kk v1 v2 (TH g) ki fe L n a (nI i)) (N := 16) (st := fun i x => if WKc g i = true then x ||| b1 i else x) (ex := fun a => if a = 0 then some (v1, (TH g, fe, L)) else ob (fX1_drop (TH g) fe a) (fun r => kk (v1 + r.1) (v2 + 1) r.2.1 r.2.2 L)) (by
    intro n a
    show fX1_settle_L19 kk v1 v2 (TH g) ki fe L (n + 1) a (nI 16) = _
    rw [fX1_settle_L19, if_pos y16]
    rfl) (by
    intro n i a hi
    show fX1_settle_L19 kk v1 v2 (TH g) ki fe L (n + 1) a (nI i) = fX1_settle_L19 kk v1 v2 (TH g) ki fe L n _ (nI (i + 1))
    rw [fX1_settle_L19, if_neg (n16 hi), c_has g hi, ob_some]
    simp only [nm_eq, nI_1, gdn hi (show (16 : Nat) < 2 ^ 31 by decide), clN (show i < 2 ^ 31 by omega)]
    have hb := h4 i hi
    have hl := LD_lt g i
    unfold WKc
    by_cases e : g i = 0
    · simp [e]
    · rw [if_neg e, if_neg (by decide), c_kindOf hk hi e, ob_some, gdn (by omega) (by decide), clN (by omega), s_BE e hb, hL i hi]
      by_cases c : brs (g i) < LD g i
      · rw [if_neg (nI_ge c (by omega)), if_pos (by simp [e, c])]
        rfl
      · have hbr : brs (g i) < 2 ^ 31 := by unfold brs; split <;> (try split) <;> (try split) <;> omega
        rw [if_pos (nI_le (by omega) hbr), if_neg (by simp [c])]) FU 0 (FU_gt (by omega))
  exact h1
def rm1 (g : Nat → Nat) : Nat → Nat := rmv g (GN g (WK g))
def ST : Nat → (Nat → Nat) → Nat → (Nat → Nat) × Nat
  | 0, g, c => (g, c)
  | k + 1, g, c => if WK g = 0 then (g, c) else ST k (rm1 g) (c + cnt (GN g (WK g)))
theorem c_settle_L4 {ki : Int32} (F : Int32) : ∀ (k r n : Nat) (g : Nat → Nat) (c : Nat) (L : Nat → Int32), r + k = 16 → k < n → KI g ki → PG g → ∃ L2, fX1_settle_L4 ki n (nI c) (nI r) (TH g) (F + nI c) L = some (nI (ST k g c).2, (TH (ST k g c).1, F + nI (ST k g c).2, L2))
  | k, r, 0, g, c, L, h1, h2, h3, h4 => absurd h2 (by omega)
  | 0, r, n + 1, g, c, L, h1, h2, h3, h4 => by
    have e : r = 16 := by omega
    subst e
    refine ⟨L, ?_⟩
    rw [fX1_settle_L4, if_pos y16]
    rfl
  | k + 1, r, n + 1, g, c, L, h1, h2, h3, h4 => by
    obtain ⟨L1, hw, hL1⟩ := c_weigh h3 h4 L
    rw [fX1_settle_L4, if_neg (n16 (by omega)), hw, ob_some, c_settle_in h3 h4 hL1]
    by_cases e : WK g = 0
    · refine ⟨L1, ?_⟩
      rw [if_pos e]
      unfold ST
      rw [if_pos e]
    · rw [if_neg e, c_drop, ob_some, and_sub (WK_sub g)]
      obtain ⟨L2, h5⟩ := c_settle_L4 F k (r + 1) n (rm1 g) (c + cnt (GN g (WK g))) L1 (by omega) (by omega) (KI_sub h3 (sub_rmv _ _)) (PG_sub h4 (sub_rmv _ _))
      refine ⟨L2, ?_⟩
      unfold ST
      rw [if_neg e, ← h5, ← nI_add, ← nI_1, Int32.add_assoc]
      rfl
theorem c_settle {g : Nat → Nat} {ki : Int32} (hk : KI g ki) (h4 : PG g) (fe : Int32) (L : Nat → Int32) : ∃ L2, fX1_settle (TH g) ki fe L = some (nI (ST 16 g 0).2, (TH (ST 16 g 0).1, fe + nI (ST 16 g 0).2, L2)) := by
  obtain ⟨L2, h⟩ := c_settle_L4 (ki := ki) fe 16 0 FU g 0 L rfl (FU_gt (by omega)) hk h4
  refine ⟨L2, ?_⟩
  unfold fX1_settle
  rw [← h]
  have e : fe + nI 0 = fe := by
    show fe + 0 = fe
    exact Int32.add_zero fe
  rw [e]
  rfl
theorem m_bearsBy {v : Nat} (h0 : v ≠ 0) (h4 : v ≤ 4) : fX5_bearsBy (nI v - 1) = some (nI (brs v)) := by
  rcases (by omega : v = 1 ∨ v = 2 ∨ v = 3 ∨ v = 4) with e | e | e | e <;> subst e <;> decide +kernel
theorem m_weak {g : Nat → Nat} {h : Nat → Int32} (hg : ∀ p, p < 16 → h p = nI (g p)) (h4 : PG g) (L : Nat → Int32) : ∃ L2, fX5_weak h L = some (WK g, L2) := by
  obtain ⟨L2, h2, hL⟩ := m_layLoads hg h4 L
  refine ⟨L2, ?_⟩
  unfold fX5_weak
  rw [h2, ob_some]
  have h1 := loop_up0 (f := fun n i a => fX5_weak_L9 h L2 n a (nI i)) (N := 16) (st := fun i x => if WKc g i = true then x ||| b1 i else x) (ex := fun a => some (a, L2)) (by
    intro n a
    show fX5_weak_L9 h L2 (n + 1) a (nI 16) = _
    rw [fX5_weak_L9, if_pos y16]) (by
    intro n i a hi
    show fX5_weak_L9 h L2 (n + 1) a (nI i) = fX5_weak_L9 h L2 n _ (nI (i + 1))
    rw [fX5_weak_L9, if_neg (n16 hi)]
    have hb := h4 i hi
    have hl := LD_lt g i
    simp only [nm_eq, nI_1, gdn (show i < 17 by omega) (show (17 : Nat) < 2 ^ 31 by decide), gdn hi (show (16 : Nat) < 2 ^ 31 by decide), clN (show i < 2 ^ 31 by omega), hg i hi, or_0]
    unfold WKc
    by_cases e : g i = 0
    · rw [if_pos (by rw [e]; decide), if_neg (by simp [e])]
    · rw [if_neg (nI_nle (by omega) (by omega)), m_bearsBy e hb, ob_some, hL i hi]
      by_cases c : brs (g i) < LD g i
      · rw [if_neg (nI_ge c (by omega)), if_pos (by simp [e, c])]
        rfl
      · have hbr : brs (g i) < 2 ^ 31 := by unfold brs; split <;> (try split) <;> (try split) <;> omega
        rw [if_pos (nI_le (by omega) hbr), if_neg (by simp [c])]) FU 0 (FU_gt (by omega))
  exact h1
theorem cnt_rm {g : Nat → Nat} {x : Int32} (hx : ∀ j, j < 32 → bt x j = true → bt (TH g) j = true) : cnt (TH (rmv g x)) + cnt x = cnt (TH g) := by
  apply cnt_add
  intro i hi
  rw [← TH_rmv, b_and, bt_not _ (by omega)]
  have := hx i (by omega)
  cases h1 : bt x i with
  | false => simp
  | true => rw [this h1]; simp
theorem cnt_dec {g : Nat → Nat} (h : WK g ≠ 0) : cnt (TH (rm1 g)) < cnt (TH g) := by
  have h1 := cnt_rm (g := g) (x := GN g (WK g)) (GN_sub g (WK_sub g))
  have h2 : 0 < cnt (GN g (WK g)) := by
    rcases Classical.em (∃ i, i < 16 ∧ bt (WK g) i = true) with ⟨i, hi, hb⟩ | hn
    · exact cnt_pos hi (GN_in g _ (by omega) hb)
    · exfalso
      apply h
      rw [z_iff]
      intro i hi
      by_cases e : i < 16
      · cases hb : bt (WK g) i with
        | false => rfl
        | true => exact absurd ⟨i, e, hb⟩ hn
      · exact lo_ors _ i hi (by omega)
  unfold rm1
  omega
theorem cnt_none {g : Nat → Nat} (h : cnt (TH g) = 0) : WK g = 0 := by
  rcases Classical.em (WK g = 0) with e | e
  · exact e
  · have := cnt_dec e
    omega
theorem m_settle_L8 {fe : Int32} : ∀ (k n : Nat) (g : Nat → Nat) (c : Nat) (h L : Nat → Int32), cnt (TH g) ≤ k → k < n → MR g fe h → PG g → ∃ h2 L2, fX5_settle_L8 n (nI c) (WK g) h L = some (nI (ST k g c).2, (h2, L2)) ∧ MR (ST k g c).1 fe h2
  | k, 0, g, c, h, L, h1, h2, h3, h4 => absurd h2 (by omega)
  | 0, n + 1, g, c, h, L, h1, h2, h3, h4 => by
    refine ⟨h, L, ?_, h3⟩
    rw [fX5_settle_L8, if_pos (cnt_none (by omega))]
    rfl
  | k + 1, n + 1, g, c, h, L, h1, h2, h3, h4 => by
    unfold ST
    by_cases e : WK g = 0
    · refine ⟨h, L, ?_, ?_⟩
      · rw [fX5_settle_L8, if_pos e, if_pos e]
      · rw [if_pos e]
        exact h3
    · obtain ⟨h5, e5, m5⟩ := m_fallAll h3 h4 (WK g)
      obtain ⟨L6, e6⟩ := m_weak (g := rm1 g) (h := h5) m5.1 (PG_sub h4 (sub_rmv _ _)) L
      obtain ⟨h7, L7, e7, m7⟩ := m_settle_L8 k n (rm1 g) (c + cnt (GN g (WK g))) h5 L6 (by have := cnt_dec e; omega) (by omega) m5 (PG_sub h4 (sub_rmv _ _))
      refine ⟨h7, L7, ?_, ?_⟩
      · rw [fX5_settle_L8, if_neg e, e5, ob_some, if_neg e]
        simp only [nm_eq]
        rw [e6, ob_some, nI_add]
        exact e7
      · rw [if_neg e]
        exact m7
theorem m_settle {fe : Int32} {g : Nat → Nat} {h : Nat → Int32} (hM : MR g fe h) (h4 : PG g) (L : Nat → Int32) : ∃ h2 L2, fX5_settle h L = some (nI (ST 16 g 0).2, (h2, L2)) ∧ MR (ST 16 g 0).1 fe h2 := by
  obtain ⟨L1, e1⟩ := m_weak hM.1 h4 L
  obtain ⟨h2, L2, e2, m2⟩ := m_settle_L8 16 FU g 0 h L1 (cnt_le _) (FU_gt (by omega)) hM h4
  refine ⟨h2, L2, ?_, m2⟩
  unfold fX5_settle
  rw [e1, ob_some]
  exact e2
/-- what a settled page is -/
def Stl (g : Nat → Nat) : Prop := WK g = 0
theorem Stl_iff {g : Nat → Nat} : Stl g ↔ ∀ i, i < 16 → g i ≠ 0 → LD g i ≤ brs (g i) := by
  unfold Stl WK
  rw [ors_z]
  constructor
  · intro h i hi h0
    have := h i hi
    unfold WKc at this
    simp [h0] at this
    omega
  · intro h i hi
    unfold WKc
    by_cases e : g i = 0
    · simp [e]
    · have := h i hi e
      simp [e]
      omega
theorem Stl_sub {g g2 : Nat → Nat} (h : Stl g) (hs : subp g2 g) : Stl g2 := by
  rw [Stl_iff] at h ⊢
  intro i hi h0
  rcases hs i with e | e
  · exact absurd e h0
  · rw [e] at h0 ⊢
    exact Nat.le_trans (LD_mono hs i) (h i hi h0)
theorem ST_sub : ∀ k g c, subp (ST k g c).1 g
  | 0, g, c => sub_rf g
  | k + 1, g, c => by
    unfold ST
    split
    · exact sub_rf g
    · exact sub_tr (ST_sub k _ _) (sub_rmv _ _)
theorem ST_Sup : ∀ k g c, Sup g → Sup (ST k g c).1
  | 0, g, c, h => h
  | k + 1, g, c, h => by
    unfold ST
    split
    · exact h
    · exact ST_Sup k _ _ (Sup_rmv h _)
theorem ST_Stl : ∀ k g c, cnt (TH g) ≤ k → Stl (ST k g c).1
  | 0, g, c, h => cnt_none (by unfold ST; simpa using h)
  | k + 1, g, c, h => by
    unfold ST
    split
    · rename_i e
      exact e
    · rename_i e
      exact ST_Stl k _ _ (by have := cnt_dec e; omega)
theorem ST_of {g : Nat → Nat} (h : Stl g) (k c : Nat) : ST k g c = (g, c) := by
  cases k with
  | zero => rfl
  | succ k =>
    unfold ST
    rw [if_pos (show WK g = 0 from h)]
theorem ST_c : ∀ k g c, (ST k g c).2 ≤ c + 16 * k
  | 0, g, c => by unfold ST; simp
  | k + 1, g, c => by
    unfold ST
    split
    · simp
    · have := ST_c k (rm1 g) (c + cnt (GN g (WK g)))
      have := cnt_le (GN g (WK g))
      omega
