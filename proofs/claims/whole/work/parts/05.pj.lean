/-! held -/
def or4 (c : Nat → Bool) : Int32 := up (fun i x => if c i = true then x ||| b1 i else x) 0 4 0
theorem bt_or4 (c : Nat → Bool) {i : Nat} (hi : i < 32) : bt (or4 c) i = (decide (i < 4) && c i) := by
  have h := up_inv (N := 4) (st := fun i x => if c i = true then x ||| b1 i else x) (fun j x => ∀ i, i < 32 → bt x i = (decide (i < j) && c i)) (by
    intro j x hj hx i hi
    by_cases hc : c j = true
    · simp only [hc, if_true]
      rw [b_or, hx i hi, bt_b1 (by omega) hi]
      by_cases e : i = j
      · subst e
        simp [hc]
      · have e2 : decide (i < j + 1) = decide (i < j) := by
          apply decide_eq_decide.mpr
          omega
        simp [e, e2]
    · show bt (if c j = true then x ||| b1 j else x) i = _
      rw [if_neg hc, hx i hi]
      by_cases e : i = j
      · subst e
        simp [hc]
      · have e2 : decide (i < j + 1) = decide (i < j) := by
          apply decide_eq_decide.mpr
          omega
        simp [e2]) 4 0 0 rfl (by intro i hi; simp [b_0])
  exact h i hi
theorem or4_eq {c : Nat → Bool} {x : Int32} (h : ∀ i, i < 32 → bt x i = (decide (i < 4) && c i)) : x = or4 c := by
  apply b_ext
  intro i hi
  rw [h i hi, bt_or4 c hi]
def cwN (k : Nat) : Nat := if k = 3 then 16 else 8
def frk (l : Int32) (k : Nat) : Int32 := (nI (2 * cwN k) + 8 * l) + gri (k + 1)
def hd (f l : Int32) (k : Nat) : Bool := !decide (frk l k < 8 * f)
theorem c_steady2 {i : Nat} (hi : i < 4) (l : Int32) : fX4_steadiness (nI i) (8 * l) = some (frk l i) := by
  have h := c_steady (v := i + 1) (by omega) (by omega) (8 * l)
  have e : i + 1 - 1 = i := by omega
  rw [e] at h
  rw [h]
  unfold frk cwN
  by_cases c : i = 3
  · rw [if_pos (by omega), if_pos c]
  · rw [if_neg (by omega), if_neg c]
theorem c_kinds (f l : Int32) : fX4_kindsThatHold f (8 * l) = some (or4 (hd f l)) := by
  unfold fX4_kindsThatHold
  exact loop_up0 (f := fun n i a => fX4_kindsThatHold_L4 f (8 * l) n a (nI i)) (N := 4) (st := fun i x => if hd f l i = true then x ||| b1 i else x) (ex := fun a => some a) (by
    intro n a
    show fX4_kindsThatHold_L4 f (8 * l) (n + 1) a (nI 4) = _
    rw [fX4_kindsThatHold_L4, if_pos y4]) (by
    intro n i a hi
    show fX4_kindsThatHold_L4 f (8 * l) (n + 1) a (nI i) = fX4_kindsThatHold_L4 f (8 * l) n _ (nI (i + 1))
    rw [fX4_kindsThatHold_L4, if_neg (n4 hi), c_steady2 hi, ob_some]
    simp only [nm_eq, nI_1]
    unfold hd
    by_cases c : frk l i < 8 * f
    · rw [if_pos c, decide_eq_true c]
      rfl
    · rw [if_neg c, decide_eq_false c]
      rfl) FU 0 (FU_gt (by omega))
def agr (f l is : Int32) (k : Nat) : Bool := hd f l k == decide (is = 1)
def agA (who fo ld is : Nat → Int32) (hc k : Nat) : Bool := up (fun j b => b && (if who j = 0 then agr (fo j) (ld j) (is j) k else true)) 0 hc true
def agB (who fo ld is : Nat → Int32) (hc k : Nat) : Bool := up (fun j b => b && (if who j = 0 then true else agr (fo j) (ld j) (is j) k)) 0 hc true
def RH (h_hc m_held h_ok h_tk : Int32) (who fo ld is : Nat → Int32) : Prop := ∃ hc, hc ≤ 6 ∧ h_hc = nI hc ∧ m_held = nI hc ∧ (∀ i, i < 32 → bt h_ok i = (decide (i < 4) && agA who fo ld is hc i)) ∧ (∀ i, i < 32 → bt h_tk i = (decide (i < 4) && agB who fo ld is hc i))
theorem bt_15 (i : Nat) (hi : i < 32) : bt 15 i = decide (i < 4) := (by decide +kernel : ∀ i, i < 32 → bt 15 i = decide (i < 4)) i hi
theorem RH_0 (who fo ld is : Nat → Int32) : RH 0 0 15 15 who fo ld is := ⟨0, by omega, rfl, rfl, fun i hi => by rw [bt_15 i hi]; simp [agA, up], fun i hi => by rw [bt_15 i hi]; simp [agB, up]⟩
theorem up_cg {α : Type} {st st2 : Nat → α → α} : ∀ k i a, (∀ j b, i ≤ j → j < i + k → st j b = st2 j b) → up st i k a = up st2 i k a
  | 0, i, a, h => rfl
  | k + 1, i, a, h => by
    show up st (i + 1) k (st i a) = up st2 (i + 1) k (st2 i a)
    rw [h i a (by omega) (by omega)]
    exact up_cg k (i + 1) _ (fun j b h1 h2 => h j b (by omega) (by omega))
theorem agA_upd (who fo ld is : Nat → Int32) (hc k : Nat) (w f l s : Int32) : agA (upd who hc w) (upd fo hc f) (upd ld hc l) (upd is hc s) (hc + 1) k = (agA who fo ld is hc k && (if w = 0 then agr f l s k else true)) := by
  unfold agA
  rw [up_succ, Nat.zero_add]
  simp only [pk_us]
  congr 1
  apply up_cg
  intro j b h1 h2
  rw [pk_un (by omega), pk_un (by omega), pk_un (by omega), pk_un (by omega)]
theorem agB_upd (who fo ld is : Nat → Int32) (hc k : Nat) (w f l s : Int32) : agB (upd who hc w) (upd fo hc f) (upd ld hc l) (upd is hc s) (hc + 1) k = (agB who fo ld is hc k && (if w = 0 then true else agr f l s k)) := by
  unfold agB
  rw [up_succ, Nat.zero_add]
  simp only [pk_us]
  congr 1
  apply up_cg
  intro j b h1 h2
  rw [pk_un (by omega), pk_un (by omega), pk_un (by omega), pk_un (by omega)]
theorem rng01 {x : Int32} (h0 : ¬ x < 0) (h1 : x ≤ 1) : x = 0 ∨ x = 1 := by
  rw [fa_lt] at h0
  rw [fa_le] at h1
  rw [fa_eq, fa_eq]
  have e0 : (0 : Int32).toInt = 0 := by decide
  have e1 : (1 : Int32).toInt = 1 := by decide
  omega
theorem hold_bits {m f l s : Int32} {A : Nat → Bool} (hs : s = 0 ∨ s = 1) (h : ∀ i, i < 32 → bt m i = (decide (i < 4) && A i)) (ag : Int32) (hag : ag = if s = 0 then 15 &&& (or4 (hd f l) ^^^ (-1)) else or4 (hd f l)) : ∀ i, i < 32 → bt (m &&& ag) i = (decide (i < 4) && (A i && agr f l s i)) := by
  intro i hi
  rw [b_and, h i hi, hag]
  unfold agr
  rcases hs with rfl | rfl
  · rw [if_pos rfl, b_and, bt_15 i hi, bt_not _ hi, bt_or4 _ hi]
    cases hd f l i <;> cases A i <;> by_cases c : i < 4 <;> simp [c]
  · rw [if_neg one0, bt_or4 _ hi]
    cases hd f l i <;> cases A i <;> by_cases c : i < 4 <;> simp [c]
theorem o_hold {h_hc m_held h_ok h_tk : Int32} {who fo ld is : Nat → Int32} (hH : RH h_hc m_held h_ok h_tk who fo ld is) (thrown a1 a2 a3 a4 : Int32) :
    ∃ r hc2 ok2 tk2 mh2 w2 f2 l2 i2, fX4_hold h_hc h_ok h_tk a1 a2 a3 a4 = some (r, (hc2, ok2, tk2)) ∧ fX5_hold thrown m_held who fo ld is a1 a2 a3 a4 = some (r, (0, mh2, w2, f2, l2, i2)) ∧ RH hc2 mh2 ok2 tk2 w2 f2 l2 i2 := by
  have hH0 := hH
  obtain ⟨hc, hc6, rfl, rfl, hA, hB⟩ := hH
  have bad : ∀ (e1 : fX4_hold (nI hc) h_ok h_tk a1 a2 a3 a4 = some (-2, (nI hc, h_ok, h_tk))) (e2 : fX5_hold thrown (nI hc) who fo ld is a1 a2 a3 a4 = some (-2, (0, nI hc, who, fo, ld, is))), ∃ r hc2 ok2 tk2 mh2 w2 f2 l2 i2, fX4_hold (nI hc) h_ok h_tk a1 a2 a3 a4 = some (r, (hc2, ok2, tk2)) ∧ fX5_hold thrown (nI hc) who fo ld is a1 a2 a3 a4 = some (r, (0, mh2, w2, f2, l2, i2)) ∧ RH hc2 mh2 ok2 tk2 w2 f2 l2 i2 := fun e1 e2 => ⟨-2, _, _, _, _, _, _, _, _, e1, e2, hH0⟩
  by_cases c1 : a1 < 0
  · have i1 : fX5_in a1.toInt64 0 1 = some 0 := in_no (a := 0) (b := 1) (Or.inl c1)
    exact bad (by unfold fX4_hold; rw [if_pos c1]) (by unfold fX5_hold; rw [i1, ob_some, if_pos zz0])
  by_cases c2 : 1 < a1
  · have i1 : fX5_in a1.toInt64 0 1 = some 0 := in_no (a := 0) (b := 1) (Or.inr c2)
    exact bad (by unfold fX4_hold; rw [if_neg c1, if_pos c2]) (by unfold fX5_hold; rw [i1, ob_some, if_pos zz0])
  have i1 : fX5_in a1.toInt64 0 1 = some 1 := in_yes (a := 0) (b := 1) (fa_of_nlt c1) (fa_of_nlt c2)
  rcases forceOr a2 with ⟨f1, f2⟩ | ⟨f1, f2⟩
  rotate_left
  · exact bad (by unfold fX4_hold; rw [if_neg c1, if_neg c2, f1, ob_some, if_pos zz0]) (by unfold fX5_hold; rw [i1, ob_some, if_neg one0, f2, ob_some, if_pos zz0])
  by_cases c3 : a3 < 0
  · have i3 : fX5_in a3.toInt64 0 9 = some 0 := in_no (a := 0) (b := 9) (Or.inl c3)
    exact bad (by unfold fX4_hold; rw [if_neg c1, if_neg c2, f1, ob_some, if_neg one0, if_pos c3]) (by unfold fX5_hold; rw [i1, ob_some, if_neg one0, f2, ob_some, if_neg one0, i3, ob_some, if_pos zz0])
  by_cases c4 : 9 < a3
  · have i3 : fX5_in a3.toInt64 0 9 = some 0 := in_no (a := 0) (b := 9) (Or.inr c4)
    exact bad (by unfold fX4_hold; rw [if_neg c1, if_neg c2, f1, ob_some, if_neg one0, if_neg c3, if_pos c4]) (by unfold fX5_hold; rw [i1, ob_some, if_neg one0, f2, ob_some, if_neg one0, i3, ob_some, if_pos zz0])
  have i3 : fX5_in a3.toInt64 0 9 = some 1 := in_yes (a := 0) (b := 9) (fa_of_nlt c3) (fa_of_nlt c4)
  by_cases c5 : a4 < 0
  · have i4 : fX5_in a4.toInt64 0 1 = some 0 := in_no (a := 0) (b := 1) (Or.inl c5)
    exact bad (by unfold fX4_hold; rw [if_neg c1, if_neg c2, f1, ob_some, if_neg one0, if_neg c3, if_neg c4, if_pos c5]) (by unfold fX5_hold; rw [i1, ob_some, if_neg one0, f2, ob_some, if_neg one0, i3, ob_some, if_neg one0, i4, ob_some, if_pos zz0])
  by_cases c6 : a4 ≤ 1
  rotate_left
  · have i4 : fX5_in a4.toInt64 0 1 = some 0 := in_no (a := 0) (b := 1) (Or.inr (fa_of_nle c6))
    exact bad (by unfold fX4_hold; rw [if_neg c1, if_neg c2, f1, ob_some, if_neg one0, if_neg c3, if_neg c4, if_neg c5, if_neg c6]) (by unfold fX5_hold; rw [i1, ob_some, if_neg one0, f2, ob_some, if_neg one0, i3, ob_some, if_neg one0, i4, ob_some, if_pos zz0])
  have i4 : fX5_in a4.toInt64 0 1 = some 1 := in_yes (a := 0) (b := 1) (fa_of_nlt c5) c6
  rcases Nat.lt_or_ge hc 6 with h | h
  rotate_left
  · have e6 : hc = 6 := by omega
    subst e6
    exact ⟨-4, _, _, _, _, _, _, _, _, by unfold fX4_hold; rw [if_neg c1, if_neg c2, f1, ob_some, if_neg one0, if_neg c3, if_neg c4, if_neg c5, if_pos c6, if_neg (show ¬ nI 6 < 6 by decide)], by unfold fX5_hold; rw [i1, ob_some, if_neg one0, f2, ob_some, if_neg one0, i3, ob_some, if_neg one0, i4, ob_some, if_neg one0, if_pos (show nI 6 = 6 from rfl)], hH0⟩
  have hlt : nI hc < 6 := nI_lt (b := 6) h (by decide)
  have hne : ¬ nI hc = 6 := fun z => by have := (nI_eq (a := hc) (b := 6) (by omega) (by decide)).mp z; omega
  have e1 : nI hc + 1 = nI (hc + 1) := nI_1 hc
  have hs := rng01 c5 c6
  have em : fX5_hold thrown (nI hc) who fo ld is a1 a2 a3 a4 = some (nI (hc + 1), (0, nI (hc + 1), upd who hc a1, upd fo hc a2, upd ld hc a3, upd is hc a4)) := by
    unfold fX5_hold
    rw [i1, ob_some, if_neg one0, f2, ob_some, if_neg one0, i3, ob_some, if_neg one0, i4, ob_some, if_neg one0, if_neg hne]
    simp only [gdn h (show (6 : Nat) < 2 ^ 31 by decide), nm_eq, e1, clN (show hc < 2 ^ 31 by omega)]
  have hbA := fun ag hag => hold_bits (f := a2) (l := a3) (s := a4) hs hA ag hag
  have hbB := fun ag hag => hold_bits (f := a2) (l := a3) (s := a4) hs hB ag hag
  obtain ⟨ag, hag⟩ : ∃ ag : Int32, ag = if a4 = 0 then 15 &&& (or4 (hd a2 a3) ^^^ (-1)) else or4 (hd a2 a3) := ⟨_, rfl⟩
  by_cases w0 : a1 = 0
  · refine ⟨nI (hc + 1), nI (hc + 1), h_ok &&& ag, h_tk, nI (hc + 1), _, _, _, _, ?_, em, hc + 1, by omega, rfl, rfl, ?_, ?_⟩
    · unfold fX4_hold
      rw [if_neg c1, if_neg c2, f1, ob_some, if_neg one0, if_neg c3, if_neg c4, if_neg c5, if_pos c6, if_pos hlt, c_kinds, ob_some]
      simp only [nm_eq, e1, if_pos w0]
      rw [hag]
      by_cases s0 : a4 = 0
      · rw [if_pos s0, if_pos s0]
      · rw [if_neg s0, if_neg s0]
    · intro i hi
      rw [hbA ag hag i hi, agA_upd, if_pos w0]
    · intro i hi
      rw [hB i hi, agB_upd, if_pos w0, Bool.and_true]
  · refine ⟨nI (hc + 1), nI (hc + 1), h_ok, h_tk &&& ag, nI (hc + 1), _, _, _, _, ?_, em, hc + 1, by omega, rfl, rfl, ?_, ?_⟩
    · unfold fX4_hold
      rw [if_neg c1, if_neg c2, f1, ob_some, if_neg one0, if_neg c3, if_neg c4, if_neg c5, if_pos c6, if_pos hlt, c_kinds, ob_some]
      simp only [nm_eq, e1, if_neg w0]
      rw [hag]
      by_cases s0 : a4 = 0
      · rw [if_pos s0, if_pos s0]
      · rw [if_neg s0, if_neg s0]
    · intro i hi
      rw [hA i hi, agA_upd, if_neg w0, Bool.and_true]
    · intro i hi
      rw [hbB ag hag i hi, agB_upd, if_neg w0]
