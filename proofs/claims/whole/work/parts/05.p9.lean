/-! a piece laid, a piece taken -/
def pt (g : Nat → Nat) (p k : Nat) : Nat → Nat := fun i => if i = p then k + 1 else g i
theorem TH_pt (g : Nat → Nat) {p : Nat} (hp : p < 16) (k : Nat) : TH g ||| b1 p = TH (pt g p k) := by
  apply ors_eq
  intro i hi
  rw [b_or, bt_b1 (by omega) hi, bt_TH g hi]
  unfold pt
  by_cases e : i = p
  · subst e
    simp [hp]
  · simp [e]
theorem kb (x : Int32) {q : Nat} (hq : q < 16) : ((x >>> (nI (2 * q) &&& 31)) &&& 3) = nI ((if bt x (2 * q) = true then 1 else 0) + (if bt x (2 * q + 1) = true then 2 else 0)) := by
  have b3 : ∀ i, i < 32 → bt 3 i = decide (i < 2) := by decide +kernel
  have c : ∀ a b : Bool, ∀ i, i < 32 → bt (nI ((if a = true then 1 else 0) + (if b = true then 2 else 0))) i = ((decide (i = 0) && a) || (decide (i = 1) && b)) := by decide +kernel
  apply b_ext
  intro i hi
  rw [b_and, b3 i hi, b_sshr (2 * q) (by omega) x hi, c _ _ i hi]
  by_cases e0 : i = 0
  · subst e0
    rw [if_pos (by omega)]
    simp
  · by_cases e1 : i = 1
    · subst e1
      rw [if_pos (by omega)]
      simp
    · have : ¬ i < 2 := by omega
      simp [e0, e1, this]
theorem kb_v : ∀ k, k < 4 → ((if bt (nI k) 0 = true then 1 else 0) + (if bt (nI k) 1 = true then 2 else 0) : Nat) = k := by decide +kernel
theorem kb_hi : ∀ k, k < 4 → ∀ i, i < 32 → 2 ≤ i → bt (nI k) i = false := by decide +kernel
theorem bt_3 : ∀ i, i < 32 → bt 3 i = decide (i < 2) := by decide +kernel
def kip (ki : Int32) (p k : Nat) : Int32 := (ki &&& (((3 : Int32) <<< (nI (2 * p) &&& 31)) ^^^ (-1))) ||| (nI k <<< (nI (2 * p) &&& 31))
theorem bt_kip {ki : Int32} {p k : Nat} (hp : p < 16) (hk : k < 4) {i : Nat} (hi : i < 32) : bt (kip ki p k) i = if 2 * p ≤ i ∧ i < 2 * p + 2 then bt (nI k) (i - 2 * p) else bt ki i := by
  unfold kip
  rw [b_or, b_and, bt_not _ hi, b_shl (2 * p) (by omega) 3 hi, b_shl (2 * p) (by omega) (nI k) hi]
  by_cases h1 : 2 * p ≤ i
  · rw [bt_3 (i - 2 * p) (by omega)]
    by_cases h2 : i < 2 * p + 2
    · have : i - 2 * p < 2 := by omega
      simp [h1, h2, this]
    · have : ¬ i - 2 * p < 2 := by omega
      rw [kb_hi k hk (i - 2 * p) (by omega) (by omega)]
      simp [h2, this]
  · simp [h1]
theorem KI_pt {g : Nat → Nat} {ki : Int32} (h : KI g ki) {p k : Nat} (hp : p < 16) (hk : k < 4) : KI (pt g p k) (kip ki p k) := by
  intro q hq h0
  unfold pt at h0 ⊢
  by_cases e : q = p
  · subst e
    have e1 : bt (kip ki q k) (2 * q) = bt (nI k) 0 := by
      rw [bt_kip hp hk (by omega), if_pos (by omega), Nat.sub_self]
    have e2 : bt (kip ki q k) (2 * q + 1) = bt (nI k) 1 := by
      rw [bt_kip hp hk (by omega), if_pos (by omega), show 2 * q + 1 - 2 * q = 1 by omega]
    rw [kb _ hq, e1, e2, kb_v k hk, if_pos rfl]
    rfl
  · rw [if_neg e] at h0 ⊢
    have e1 : bt (kip ki p k) (2 * q) = bt ki (2 * q) := by
      rw [bt_kip hp hk (by omega), if_neg (by omega)]
    have e2 : bt (kip ki p k) (2 * q + 1) = bt ki (2 * q + 1) := by
      rw [bt_kip hp hk (by omega), if_neg (by omega)]
    rw [kb _ hq, e1, e2, ← kb _ hq]
    exact h q hq h0
theorem c_place {g : Nat → Nat} (ki : Int32) {p : Nat} (hp : p < 16) (k : Nat) : fX1_place (TH g) ki (nI p) (nI k) = some (TH (pt g p k), kip ki p k) := by
  unfold fX1_place
  simp only [nm_eq]
  rw [show (2 : Int32) * nI p = nI (2 * p) from pk_mul 2 p, ← TH_pt g hp k]
  rfl
theorem PG_pt {g : Nat → Nat} (h : PG g) {p k : Nat} (hk : k < 4) : PG (pt g p k) := by
  intro q hq
  unfold pt
  split
  · omega
  · exact h q hq
theorem Sup_pt {g : Nat → Nat} (h : Sup g) {p k : Nat} (hp : p < 16) (hr : rmf g p = true) : Sup (pt g p k) := by
  unfold rmf at hr
  rw [Bool.and_eq_true] at hr
  have hz := and_z.mp (of_decide_eq_true hr.2)
  intro i hi h0 j hj hb
  unfold pt at h0 ⊢
  by_cases e : j = p
  · rw [if_pos e]
    omega
  · rw [if_neg e]
    by_cases e2 : i = p
    · subst e2
      have h1 := hz j hj
      rw [hb, bt_not _ hj] at h1
      have hjl := sUN_lt i hi j hj hb
      rw [bt_TH' g (by omega)] at h1
      simpa using h1
    · rw [if_neg e2] at h0
      exact h i hi h0 j hj hb
theorem c_lay {g : Nat → Nat} {ki : Int32} (hk : KI g ki) (h4 : PG g) (fe : Int32) (L : Nat → Int32) {p k : Nat} (hp : p < 16) (hk4 : k < 4) : ∃ L2, fX1_lay (TH g) ki fe L (nI p) (nI k) = some (nI (ST 16 (pt g p k) 0).2, (TH (ST 16 (pt g p k) 0).1, kip ki p k, fe + nI (ST 16 (pt g p k) 0).2, L2)) := by
  obtain ⟨L2, e⟩ := c_settle (KI_pt hk hp hk4) (PG_pt h4 hk4) fe L
  refine ⟨L2, ?_⟩
  unfold fX1_lay
  rw [c_place ki hp, ob_some, e, ob_some]
theorem m_goPut {g : Nat → Nat} {fe : Int32} {h : Nat → Int32} (hM : MR g fe h) (h4 : PG g) (L : Nat → Int32) {p k : Nat} (hp : p < 16) (hk4 : k < 4) : ∃ h2 L2, fX5_goPut h L (nI p) (nI k) = some (nI (ST 16 (pt g p k) 0).2, (h2, L2)) ∧ MR (ST 16 (pt g p k) 0).1 (fe + nI (ST 16 (pt g p k) 0).2) h2 := by
  have m1 : MR (pt g p k) fe (upd h p (nI (k + 1))) := by
    refine ⟨fun q hq => ?_, ?_⟩
    · unfold pt
      by_cases e : q = p
      · subst e
        rw [pk_us, if_pos rfl]
      · rw [pk_un e, if_neg e]
        exact hM.1 q hq
    · rw [pk_un (by omega)]
      exact hM.2
  obtain ⟨h2, L2, e2, m2⟩ := m_settle m1 (PG_pt h4 hk4) L
  refine ⟨upd h2 16 (h2 16 + nI (ST 16 (pt g p k) 0).2), L2, ?_, ?_, ?_⟩
  · unfold fX5_goPut
    simp only [nm_eq]
    rw [show nI k + 1 = nI (k + 1) from nI_1 k, gdn (by omega) (by decide), clN (by omega), e2, ob_some]
    rfl
  · intro q hq
    rw [pk_un (by omega)]
    exact m2.1 q hq
  · rw [pk_us, m2.2]
/-- a pile of the class holds the page g; a page that can be -/
def PP (g : Nat → Nat) (th ki : Int32) : Prop := th = TH g ∧ KI g ki
def OK (g : Nat → Nat) : Prop := PG g ∧ Sup g ∧ Stl g
theorem OK_ST {g : Nat → Nat} (h4 : PG g) (hs : Sup g) : OK (ST 16 g 0).1 := ⟨PG_sub h4 (ST_sub _ _ _), ST_Sup _ _ _ hs, ST_Stl _ _ _ (cnt_le _)⟩
theorem OK_rm {g : Nat → Nat} (h : OK g) (x : Int32) : OK (rmv g (GN g x)) := ⟨PG_sub h.1 (sub_rmv _ _), Sup_rmv h.2.1 x, Stl_sub h.2.2 (sub_rmv _ _)⟩
def tp (g : Nat → Nat) (p : Nat) : Bool := decide (g p ≠ 0) && decide (GN g (b1 p) = b1 p)
theorem and_b1TH (g : Nat → Nat) {p : Nat} (hp : p < 16) (h0 : g p ≠ 0) : b1 p &&& TH g = b1 p := by
  apply and_sub
  intro j hj h
  rw [bt_b1 (by omega) hj] at h
  have e : j = p := by simpa using h
  subst e
  rw [bt_TH' g hp]
  simpa using h0
theorem c_canLift (g : Nat → Nat) {p : Nat} (hp : p < 16) : fX1_canLift (TH g) (nI p) = some (if tp g p = true then 1 else 0) := by
  unfold fX1_canLift tp
  rw [c_has g hp, ob_some]
  by_cases e : g p = 0
  · rw [if_pos e, if_pos rfl]
    simp [e]
  · rw [if_neg e, if_neg (by decide)]
    show ob (fX1_goneWith (TH g) (b1 p)) (fun r3 => (if r3 = b1 p then some 1 else some 0)) = _
    rw [c_goneWith, ob_some, and_b1TH g hp e]
    by_cases c : GN g (b1 p) = b1 p
    · rw [if_pos c]
      simp [e, c]
    · rw [if_neg c]
      simp [c]
theorem m_isTop {g : Nat → Nat} {h : Nat → Int32} (hg : ∀ p, p < 16 → h p = nI (g p)) (h4 : PG g) {p : Nat} : fX5_isTop h (nI p) = some (if GN g (b1 p) = b1 p then 1 else 0) := by
  unfold fX5_isTop
  show ob (fX5_spreadOf h (b1 p)) (fun r1 => (if r1 = b1 p then some 1 else some 0)) = _
  rw [m_spreadOf hg h4, ob_some]
  split <;> rfl
theorem c_lift (g : Nat → Nat) (p : Nat) : fX1_lift (TH g) (nI p) = some (TH (rmv g (b1 p))) := by
  unfold fX1_lift
  simp only [nm_eq]
  show some (TH g &&& (b1 p ^^^ (-1))) = _
  rw [TH_rmv]
theorem MR_lift {g : Nat → Nat} {fe : Int32} {h : Nat → Int32} (hM : MR g fe h) {p : Nat} (hp : p < 16) : MR (rmv g (b1 p)) fe (upd h p 0) := by
  refine ⟨fun q hq => ?_, ?_⟩
  · unfold rmv
    rw [bt_b1 (by omega) (by omega)]
    by_cases e : q = p
    · subst e
      rw [pk_us]
      simp
      rfl
    · rw [pk_un e]
      simp [e]
      exact hM.1 q hq
  · rw [pk_un (by omega)]
    exact hM.2
theorem OK_lift {g : Nat → Nat} (h : OK g) {p : Nat} (ht : tp g p = true) : OK (rmv g (b1 p)) := by
  unfold tp at ht
  rw [Bool.and_eq_true] at ht
  have e := of_decide_eq_true ht.2
  have := OK_rm h (b1 p)
  rwa [e] at this
/-- any two ints: a piece and a kind, or not -/
theorem pieceOr (x : Int32) : (∃ p, p < 16 ∧ x = nI p) ∨ (fX4_isPiece x = some 0 ∧ fX5_noPiece x = some 1 ∧ (x < 0 ∨ 16 ≤ x)) := by
  rcases pk_ix x (n := 16) (by decide) with h | h | h
  · refine Or.inr ⟨?_, ?_, Or.inl h⟩
    · unfold fX4_isPiece
      rw [if_pos h]
    · unfold fX5_noPiece fX5_in
      have e1 : lg_cmp x.toInt64 0 < 0 := by
        have h2 : x.toInt64 < (0 : Int32).toInt64 := (fa_wide_lt x 0).mpr h
        have h3 : x.toInt64 < 0 := h2
        unfold lg_cmp
        have n1 : ¬ x.toInt64 > 0 := by
          intro z
          rw [gt_iff_lt, fa_lt64] at z
          rw [fa_lt64] at h3
          omega
        have n2 : ¬ x.toInt64 = 0 := by
          intro z
          rw [z, fa_lt64] at h3
          omega
        rw [if_neg n1, if_neg n2]
        decide
      rw [if_pos e1]
      rfl
  · refine Or.inr ⟨?_, ?_, Or.inr h⟩
    · unfold fX4_isPiece
      by_cases c : x < 0
      · rw [if_pos c]
      · rw [if_neg c, if_pos (show (16 : Int32) ≤ x from h)]
    · unfold fX5_noPiece fX5_in
      have h1 : (15 : Int32) < x := by
        rw [fa_lt]
        have : nI 16 ≤ x := h
        rw [fa_le] at this
        have e : (nI 16).toInt = 16 := by decide
        have e2 : (15 : Int32).toInt = 15 := by decide
        omega
      have h2 : (15 : Int32).toInt64 < x.toInt64 := (fa_wide_lt 15 x).mpr h1
      have h3 : (15 : Int64) < x.toInt64 := h2
      by_cases c : lg_cmp x.toInt64 0 < 0
      · rw [if_pos c]
        rfl
      · rw [if_neg c]
        have e1 : 0 < lg_cmp x.toInt64 15 := by
          unfold lg_cmp
          rw [if_pos h3]
          decide
        rw [if_pos e1]
        rfl
  · exact Or.inl h
