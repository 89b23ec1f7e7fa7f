/-! ranges; a trial; put, take, draught -/
theorem cmp_lt0 (x y : Int64) : lg_cmp x y < 0 ↔ x < y := by
  unfold lg_cmp
  by_cases c : x > y
  · rw [if_pos c]
    constructor
    · intro h; exact absurd h (by decide)
    · intro h
      rw [gt_iff_lt, fa_lt64] at c
      rw [fa_lt64] at h
      omega
  · rw [if_neg c]
    by_cases d : x = y
    · rw [if_pos d]
      constructor
      · intro h; exact absurd h (by decide)
      · intro h
        rw [d, fa_lt64] at h
        omega
    · rw [if_neg d]
      refine ⟨fun _ => ?_, fun _ => by decide⟩
      rw [gt_iff_lt, fa_lt64] at c
      rw [fa_eq64] at d
      rw [fa_lt64]
      omega
theorem cmp_gt0 (x y : Int64) : 0 < lg_cmp x y ↔ y < x := by
  unfold lg_cmp
  by_cases c : x > y
  · rw [if_pos c]
    exact ⟨fun _ => c, fun _ => by decide⟩
  · rw [if_neg c]
    refine ⟨fun h => ?_, fun h => absurd h c⟩
    by_cases d : x = y
    · rw [if_pos d] at h
      exact absurd h (by decide)
    · rw [if_neg d] at h
      exact absurd h (by decide)
theorem m_in (x a b : Int32) : fX5_in x.toInt64 a.toInt64 b.toInt64 = some (if a ≤ x ∧ x ≤ b then 1 else 0) := by
  unfold fX5_in
  by_cases c : x < a
  · rw [if_pos ((cmp_lt0 _ _).mpr ((fa_wide_lt x a).mpr c)), if_neg (fun z => by
      have h1 := z.1
      rw [fa_le] at h1
      rw [fa_lt] at c
      omega)]
  · rw [if_neg (fun z => c ((fa_wide_lt x a).mp ((cmp_lt0 _ _).mp z)))]
    by_cases d : b < x
    · rw [if_pos ((cmp_gt0 _ _).mpr ((fa_wide_lt b x).mpr d)), if_neg (fun z => by
        have h1 := z.2
        rw [fa_le] at h1
        rw [fa_lt] at d
        omega)]
    · rw [if_neg (fun z => d ((fa_wide_lt b x).mp ((cmp_gt0 _ _).mp z))), if_pos ⟨fa_of_nlt c, fa_of_nlt d⟩]
theorem in_yes {x a b : Int32} (h1 : a ≤ x) (h2 : x ≤ b) : fX5_in x.toInt64 a.toInt64 b.toInt64 = some 1 := by rw [m_in, if_pos ⟨h1, h2⟩]
theorem in_no {x a b : Int32} (h : x < a ∨ b < x) : fX5_in x.toInt64 a.toInt64 b.toInt64 = some 0 := by
  rw [m_in, if_neg]
  rintro ⟨h1, h2⟩
  rw [fa_le] at h1 h2
  rcases h with h | h <;> rw [fa_lt] at h <;> omega
theorem m_noPiece : ∀ p, p < 16 → fX5_noPiece (nI p) = some 0 := by decide +kernel
theorem m_noKind : ∀ p, p < 4 → fX5_noKind (nI p) = some 0 := by decide +kernel
/-- in a range from 0: a number, or out of it -/
theorem rngOr (x : Int32) (n : Nat) (hn : n < 2 ^ 31) : (∃ p, p < n ∧ x = nI p) ∨ x < 0 ∨ (¬ x < 0 ∧ nI n ≤ x) := by
  rcases pk_ix x hn with h | h | h
  · exact Or.inr (Or.inl h)
  · by_cases c : x < 0
    · exact Or.inr (Or.inl c)
    · exact Or.inr (Or.inr ⟨c, h⟩)
  · exact Or.inl h
theorem lt_of_le {x : Int32} {n : Nat} (hn : n + 1 < 2 ^ 31) (h : nI (n + 1) ≤ x) : nI n < x := by
  rw [fa_le, nI_toInt hn] at h
  rw [fa_lt, nI_toInt (by omega)]
  omega
theorem kindOr (x : Int32) : (∃ k, k < 4 ∧ x = nI k) ∨ (fX4_isKind x = some 0 ∧ fX5_noKind x = some 1) := by
  rcases rngOr x 4 (by decide) with h | h | ⟨h0, h⟩
  · exact Or.inl h
  · refine Or.inr ⟨by unfold fX4_isKind; rw [if_pos h], ?_⟩
    unfold fX5_noKind
    have e : fX5_in x.toInt64 0 3 = some 0 := in_no (a := 0) (b := 3) (Or.inl h)
    rw [e]
    rfl
  · refine Or.inr ⟨by unfold fX4_isKind; rw [if_neg h0, if_pos (show (4 : Int32) ≤ x from h)], ?_⟩
    unfold fX5_noKind
    have e : fX5_in x.toInt64 0 3 = some 0 := in_no (a := 0) (b := 3) (Or.inr (lt_of_le (n := 3) (by decide) h))
    rw [e]
    rfl
theorem levelOr (x : Int32) : (∃ k, k < 4 ∧ x = nI k ∧ fX5_in x.toInt64 0 3 = some 1) ∨ (fX4_isLevel x = some 0 ∧ fX5_in x.toInt64 0 3 = some 0) := by
  rcases rngOr x 4 (by decide) with ⟨k, hk, rfl⟩ | h | ⟨h0, h⟩
  · exact Or.inl ⟨k, hk, rfl, (by decide +kernel : ∀ k, k < 4 → fX5_in (nI k).toInt64 0 3 = some 1) k hk⟩
  · exact Or.inr ⟨by unfold fX4_isLevel; rw [if_pos h], in_no (a := 0) (b := 3) (Or.inl h)⟩
  · exact Or.inr ⟨by unfold fX4_isLevel; rw [if_neg h0, if_pos (show (4 : Int32) ≤ x from h)], in_no (a := 0) (b := 3) (Or.inr (lt_of_le (n := 3) (by decide) h))⟩
theorem forceOr (x : Int32) : (fX4_isForce x = some 1 ∧ fX5_in x.toInt64 1 9 = some 1) ∨ (fX4_isForce x = some 0 ∧ fX5_in x.toInt64 1 9 = some 0) := by
  unfold fX4_isForce
  by_cases c : x < 1
  · exact Or.inr ⟨if_pos c, in_no (a := 1) (b := 9) (Or.inl c)⟩
  · by_cases d : 9 < x
    · exact Or.inr ⟨by rw [if_neg c, if_pos d], in_no (a := 1) (b := 9) (Or.inr d)⟩
    · exact Or.inl ⟨by rw [if_neg c, if_neg d], in_yes (a := 1) (b := 9) (fa_of_nlt c) (fa_of_nlt d)⟩
def RCa (a b : Nat → Int32) : Prop := ∀ k, k < 4 → a k = b k
theorem CP_congr {g : Nat → Nat} {a b : Nat → Int32} (h : RCa a b) (p : Nat) {k : Nat} (hk : k < 4) : CP g a p k = CP g b p k := by
  unfold CP
  rw [h k hk]
theorem page_pos {g : Nat → Nat} {fe : Int32} {h : Nat → Int32} (hM : MR g fe h) (h4 : PG g) {p : Nat} (hp : p < 16) : (h p ≤ 0 ↔ g p = 0) ∧ (h p = 0 ↔ g p = 0) ∧ (0 < h p ↔ g p ≠ 0) := by
  have := h4 p hp
  rw [hM.1 p hp]
  refine ⟨⟨fun z => ?_, fun z => by rw [z]; decide⟩, ⟨fun z => ?_, fun z => by rw [z]; rfl⟩, ⟨fun z e => ?_, fun z => ?_⟩⟩
  · rcases Nat.eq_zero_or_pos (g p) with e | e
    · exact e
    · exact absurd z (nI_nle e (by omega))
  · rcases Nat.eq_zero_or_pos (g p) with e | e
    · exact e
    · exact absurd z (nI_ne0 e (by omega))
  · rw [e] at z
    exact absurd z (by decide)
  · exact nI_lt (a := 0) (by omega) (by omega)
/-- a piece laid into a pile, tried on both sides -/
theorem tr_lay {g : Nat → Nat} {th ki fe : Int32} {h : Nat → Int32} (hR : RPg g th ki fe h) {ca mc : Nat → Int32} (hC : RCa ca mc) (L M : Nat → Int32) (a1 a2 : Int32) :
    ∃ r g2 th2 ki2 fe2 L2 h2 M2, fX1_layIfCan th ki fe ca L a1 a2 = some (r, (th2, ki2, fe2, L2)) ∧ fX5_puts mc h M a1 a2 = some (r, (h2, M2)) ∧ RPg g2 th2 ki2 fe2 h2 ∧ (r = 0 ∨ r = 1) := by
  obtain ⟨hO, ⟨rfl, hk⟩, hM⟩ := hR
  have no : ∀ (e1 : fX1_canLay (TH g) ki ca a1 a2 = some 0) (e2 : fX5_puts mc h M a1 a2 = some (0, (h, M))), ∃ r g2 th2 ki2 fe2 L2 h2 M2, fX1_layIfCan (TH g) ki fe ca L a1 a2 = some (r, (th2, ki2, fe2, L2)) ∧ fX5_puts mc h M a1 a2 = some (r, (h2, M2)) ∧ RPg g2 th2 ki2 fe2 h2 ∧ (r = 0 ∨ r = 1) := by
    intro e1 e2
    refine ⟨0, g, TH g, ki, fe, L, h, M, ?_, e2, ⟨hO, ⟨rfl, hk⟩, hM⟩, Or.inl rfl⟩
    unfold fX1_layIfCan
    rw [e1, ob_some, if_pos rfl]
  rcases kindOr a2 with ⟨k, hk4, rfl⟩ | ⟨c1, c2⟩
  · rcases pieceOr a1 with ⟨p, hp, rfl⟩ | ⟨c1, c2, -⟩
    · cases hcp : CP g ca p k with
      | false =>
        apply no
        · rw [c_canLay hk hO.1 ca hp hk4, hcp]
          rfl
        · unfold fX5_puts
          rw [m_noPiece p hp, ob_some, if_pos rfl, m_noKind k hk4, ob_some, if_pos rfl, m_canPut hM.1 hO.1 mc hp hk4, ← CP_congr hC p hk4, hcp]
          rfl
      | true =>
        obtain ⟨h2, M2, e2, m2⟩ := m_goPut hM hO.1 M hp hk4
        obtain ⟨L2, e3⟩ := c_settle (KI_pt hk hp hk4) (PG_pt hO.1 hk4) fe L
        have hr : rmf g p = true := by
          unfold CP at hcp
          rw [Bool.and_eq_true] at hcp
          exact hcp.1
        refine ⟨1, (ST 16 (pt g p k) 0).1, TH (ST 16 (pt g p k) 0).1, kip ki p k, fe + nI (ST 16 (pt g p k) 0).2, L2, h2, M2, ?_, ?_, ⟨OK_ST (PG_pt hO.1 hk4) (Sup_pt hO.2.1 hp hr), ⟨rfl, KI_sub (KI_pt hk hp hk4) (ST_sub _ _ _)⟩, m2⟩, Or.inr rfl⟩
        · unfold fX1_layIfCan
          rw [c_canLay hk hO.1 ca hp hk4, hcp, ob_some, if_pos rfl, if_neg (by decide), c_place ki hp, ob_some, e3, ob_some]
        · unfold fX5_puts
          rw [m_noPiece p hp, ob_some, if_pos rfl, m_noKind k hk4, ob_some, if_pos rfl, m_canPut hM.1 hO.1 mc hp hk4, ← CP_congr hC p hk4, hcp, ob_some, if_pos rfl, if_neg (by decide), e2, ob_some]
    · apply no
      · unfold fX1_canLay
        rw [c_isKind k hk4, ob_some, if_neg (by decide)]
        unfold fX1_hasRoomFor
        rw [c1, ob_some, if_pos rfl, ob_some, if_pos rfl]
      · unfold fX5_puts
        rw [c2, ob_some, if_neg (by decide)]
  · apply no
    · unfold fX1_canLay
      rw [c1, ob_some, if_pos rfl]
    · unfold fX5_puts
      rcases pieceOr a1 with ⟨p, hp, rfl⟩ | ⟨d1, d2, -⟩
      · rw [m_noPiece p hp, ob_some, if_pos rfl, c2, ob_some, if_neg (by decide)]
      · rw [d2, ob_some, if_neg (by decide)]
theorem tr_lift {g : Nat → Nat} {th ki fe : Int32} {h : Nat → Int32} (hR : RPg g th ki fe h) (a1 : Int32) :
    ∃ r g2 th2 h2, fX1_liftIfCan th a1 = some (r, th2) ∧ fX5_takes h a1 = some (r, h2) ∧ RPg g2 th2 ki fe h2 ∧ (r = 0 ∨ r = 1) := by
  obtain ⟨hO, ⟨rfl, hk⟩, hM⟩ := hR
  rcases pieceOr a1 with ⟨p, hp, rfl⟩ | ⟨c1, c2, -⟩
  · have hpp := page_pos hM hO.1 hp
    cases ht : tp g p with
    | false =>
      refine ⟨0, g, TH g, h, ?_, ?_, ⟨hO, ⟨rfl, hk⟩, hM⟩, Or.inl rfl⟩
      · unfold fX1_liftIfCan
        rw [c_isPiece p hp, ob_some, if_neg (by decide), c_canLift g hp, ht]
        rfl
      · unfold fX5_takes
        rw [m_noPiece p hp, ob_some, if_pos rfl, gdn (by omega) (by decide), clN (by omega)]
        by_cases c : g p = 0
        · rw [if_pos (hpp.1.mpr c)]
        · rw [if_neg (fun z => c (hpp.1.mp z)), m_isTop hM.1 hO.1, ob_some]
          unfold tp at ht
          have c2 : ¬ GN g (b1 p) = b1 p := by
            intro z
            simp [c, z] at ht
          rw [if_neg c2, if_pos rfl]
    | true =>
      have ht2 := ht
      unfold tp at ht2
      rw [Bool.and_eq_true] at ht2
      have c := of_decide_eq_true ht2.1
      have c2 := of_decide_eq_true ht2.2
      refine ⟨1, rmv g (b1 p), TH (rmv g (b1 p)), upd h p 0, ?_, ?_, ⟨OK_lift hO ht, ⟨rfl, KI_sub hk (sub_rmv _ _)⟩, MR_lift hM hp⟩, Or.inr rfl⟩
      · unfold fX1_liftIfCan
        rw [c_isPiece p hp, ob_some, if_neg (by decide), c_canLift g hp, ht, ob_some, if_pos rfl, if_neg (by decide), c_lift, ob_some]
      · unfold fX5_takes
        rw [m_noPiece p hp, ob_some, if_pos rfl, gdn (by omega) (by decide), clN (by omega), if_neg (fun z => c (hpp.1.mp z)), m_isTop hM.1 hO.1, ob_some, if_pos c2, if_neg (by decide), gdn (by omega) (by decide)]
  · refine ⟨0, g, TH g, h, ?_, ?_, ⟨hO, ⟨rfl, hk⟩, hM⟩, Or.inl rfl⟩
    · unfold fX1_liftIfCan
      rw [c1, ob_some, if_pos rfl]
    · unfold fX5_takes
      rw [c2, ob_some, if_neg (by decide)]
theorem tr_blow {g : Nat → Nat} {th ki fe : Int32} {h : Nat → Int32} (hR : RPg g th ki fe h) (L M : Nat → Int32) (a1 a2 : Int32) (hf : a2 ≤ 9) :
    ∃ r g2 th2 fe2 L2 h2 M2, fX1_blowIfCan th ki fe L a1 a2 = some (r, (th2, fe2, L2)) ∧ fX5_blows h M a1 a2 = some (r, (h2, M2)) ∧ RPg g2 th2 ki fe2 h2 ∧ (r = 0 ∨ r = 1) := by
  obtain ⟨hO, ⟨rfl, hk⟩, hM⟩ := hR
  rcases levelOr a1 with ⟨lv, hl, rfl, e1⟩ | ⟨e1, e2⟩
  · by_cases c : a2 ≤ 0
    · refine ⟨0, g, TH g, fe, L, h, M, ?_, ?_, ⟨hO, ⟨rfl, hk⟩, hM⟩, Or.inl rfl⟩
      · unfold fX1_blowIfCan fX4_isForce
        have c1 : a2 < 1 := by
          rw [fa_le] at c
          rw [fa_lt]
          have e0 : (0 : Int32).toInt = 0 := by decide
          have e1 : (1 : Int32).toInt = 1 := by decide
          omega
        rw [c_isLevel lv hl, ob_some, if_neg (by decide), if_pos c1, ob_some, if_pos rfl]
      · unfold fX5_blows
        rw [e1, ob_some, if_neg (by decide), if_pos c]
    · obtain ⟨L2, e3⟩ := c_blow hk hO.1 fe a2 L hl
      obtain ⟨h2, M2, e4, m4⟩ := m_draught hM hO.1 hO.2.2 a2 M hl
      refine ⟨1, _, _, _, L2, h2, M2, ?_, ?_, ⟨OK_rm hO (FS g lv a2), ⟨rfl, KI_sub hk (sub_rmv _ _)⟩, m4⟩, Or.inr rfl⟩
      · unfold fX1_blowIfCan fX4_isForce
        have c1 : ¬ a2 < 1 := by
          rw [fa_le] at c
          rw [fa_lt]
          have e0 : (0 : Int32).toInt = 0 := by decide
          have e1 : (1 : Int32).toInt = 1 := by decide
          omega
        have c2 : ¬ 9 < a2 := by
          rw [fa_le] at hf
          rw [fa_lt]
          omega
        rw [c_isLevel lv hl, ob_some, if_neg (by decide), if_neg c1, if_neg c2, ob_some, if_neg (by decide), e3, ob_some]
      · unfold fX5_blows
        rw [e1, ob_some, if_neg (by decide), if_neg c, e4, ob_some]
  · refine ⟨0, g, TH g, fe, L, h, M, ?_, ?_, ⟨hO, ⟨rfl, hk⟩, hM⟩, Or.inl rfl⟩
    · unfold fX1_blowIfCan
      rw [e1, ob_some, if_pos rfl]
    · unfold fX5_blows
      rw [e2, ob_some, if_pos rfl]
