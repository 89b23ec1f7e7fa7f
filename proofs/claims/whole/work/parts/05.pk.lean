/-! what two tents were -/
def TNs (A B : Nat → Bool) (k : Nat) (s : Nat × Int32) : Nat × Int32 := if (A (k / 4) && B (k % 4)) = true then (s.1 + 1, if s.1 = 0 then nI (10 * (k / 4) + k % 4) else s.2) else s
def TN (A B : Nat → Bool) : Nat × Int32 := up (TNs A B) 0 16 (0, -9)
theorem m_w0 : ∀ q, q < 4 → fX5_weighs 0 (nI q) = some (nI (2 * cwN q)) ∧ fX5_grip (nI q) = some (gri (q + 1)) := by decide +kernel
def isT (who fo ld is : Nat → Int32) (k hc : Nat) : Bool := up (fun j b => b && (if who j = 0 then agr (fo j) (ld j) (is j) (k / 4) else agr (fo j) (ld j) (is j) (k % 4))) 0 hc true
theorem isT_eq (who fo ld is : Nat → Int32) (k hc : Nat) : isT who fo ld is k hc = (agA who fo ld is hc (k / 4) && agB who fo ld is hc (k % 4)) := by
  unfold isT agA agB
  have h : ∀ n i a b, up (fun j b => b && (if who j = 0 then agr (fo j) (ld j) (is j) (k / 4) else agr (fo j) (ld j) (is j) (k % 4))) i n (a && b) = (up (fun j b => b && (if who j = 0 then agr (fo j) (ld j) (is j) (k / 4) else true)) i n a && up (fun j b => b && (if who j = 0 then true else agr (fo j) (ld j) (is j) (k % 4))) i n b) := by
    intro n
    induction n with
    | zero => intro i a b; rfl
    | succ n ih =>
      intro i a b
      show up _ (i + 1) n ((a && b) && _) = (up _ (i + 1) n (a && _) && up _ (i + 1) n (b && _))
      rw [← ih]
      congr 1
      by_cases c : who i = 0
      · rw [if_pos c, if_pos c, if_pos c, Bool.and_true]
        cases a <;> cases b <;> simp
      · rw [if_neg c, if_neg c, if_neg c, Bool.and_true]
        cases a <;> cases b <;> simp
  exact h hc 0 true true
def bI (b : Bool) : Int32 := if b = true then 1 else 0
theorem m_inner42 (kk : Int32 → Int32 → Int32 → Option (Int32 × Int32 × Int32 × Int32)) (v1 thr tf : Int32) {k hc m : Nat} (hk : k < 16) (hc6 : hc ≤ 6) (hm : m < 100) (who fo ld is : Nat → Int32) :
    fX5_tents_L42 kk v1 (nI k) thr (nI hc) (nI m) tf who fo ld is FU 1 0 = kk (nI (k + 1)) (nI (if isT who fo ld is k hc = true then m + 1 else m)) (if isT who fo ld is k hc = true then (if m = 0 then nI (10 * (k / 4) + k % 4) else tf) else tf) := by
  have ed : nI k / 4 = nI (k / 4) := pk_div (d := 4) (by omega) (by decide) (by decide)
  have er : nI k - nI (k / 4) * 4 = nI (k % 4) := by
    rw [← ed]
    exact pk_rem (d := 4) (by omega) (by decide) (by decide)
  have hq1 : k / 4 < 4 := by omega
  have hq2 : k % 4 < 4 := by omega
  have e10 : (10 : Int32) * nI (k / 4) + nI (k % 4) = nI (10 * (k / 4) + k % 4) := by
    rw [show (10 : Int32) * nI (k / 4) = nI (10 * (k / 4)) from pk_mul 10 _, nI_add]
  have h1 := loop_up0 (f := fun n j b => fX5_tents_L42 kk v1 (nI k) thr (nI hc) (nI m) tf who fo ld is n (bI b) (nI j)) (N := hc) (st := fun j b => b && (if who j = 0 then agr (fo j) (ld j) (is j) (k / 4) else agr (fo j) (ld j) (is j) (k % 4))) (ex := fun b => kk (nI (k + 1)) (nI (if b = true then m + 1 else m)) (if b = true then (if m = 0 then nI (10 * (k / 4) + k % 4) else tf) else tf)) (by
    intro n b
    show fX5_tents_L42 kk v1 (nI k) thr (nI hc) (nI m) tf who fo ld is (n + 1) (bI b) (nI hc) = _
    rw [fX5_tents_L42, if_pos (nI_le (Nat.le_refl _) (by omega))]
    simp only [nm_eq, ed, er, e10, nI_1]
    cases b with
    | false =>
      rw [if_pos (show bI false = 0 from rfl), if_pos (show bI false = 0 from rfl), if_neg (by decide), if_neg (by decide)]
      exact congrArg (fun z => kk (nI (k + 1)) z tf) (nI_add m 0)
    | true =>
      have hb : ¬ bI true = 0 := by decide
      rw [if_neg hb, if_pos rfl, if_pos rfl]
      by_cases c : m = 0
      · rw [if_pos (show nI m = 0 by rw [c]; rfl), if_neg hb, if_pos c]
      · rw [if_neg (nI_ne0 (by omega) (by omega)), if_neg hb, if_neg c]) (by
    intro n j b hj
    show fX5_tents_L42 kk v1 (nI k) thr (nI hc) (nI m) tf who fo ld is (n + 1) (bI b) (nI j) = fX5_tents_L42 kk v1 (nI k) thr (nI hc) (nI m) tf who fo ld is n (bI _) (nI (j + 1))
    rw [fX5_tents_L42, if_neg (nI_ge hj (by omega))]
    simp only [nm_eq, ed, er, nI_1, gdn (show j < 6 by omega) (show (6 : Nat) < 2 ^ 31 by decide), clN (show j < 2 ^ 31 by omega), (m_w0 _ hq1).1, (m_w0 _ hq1).2, (m_w0 _ hq2).1, (m_w0 _ hq2).2, ob_some]
    have f1 : ∀ q, (nI (2 * cwN q) + 8 * ld j) + gri (q + 1) = frk (ld j) q := fun q => rfl
    rw [f1, f1]
    have hb0 : bI false = 0 := rfl
    have hb1 : bI true = 1 := rfl
    by_cases w : who j = 0
    · rw [if_pos w, if_pos w]
      unfold agr hd
      by_cases c : frk (ld j) (k / 4) < 8 * fo j
      · rw [if_pos c, decide_eq_true c]
        cases b with
        | false => rw [if_pos hb0]; rfl
        | true =>
          rw [if_neg (show ¬ bI true = 0 by decide)]
          by_cases s : is j = 1
          · rw [if_pos s, decide_eq_true s]; rfl
          · rw [if_neg s, decide_eq_false s]; rfl
      · rw [if_neg c, decide_eq_false c]
        cases b with
        | false => rw [if_pos hb0]; rfl
        | true =>
          rw [if_neg (show ¬ bI true = 0 by decide)]
          by_cases s : is j = 1
          · rw [if_pos s, decide_eq_true s]; rfl
          · rw [if_neg s, decide_eq_false s]; rfl
    · rw [if_neg w, if_neg w]
      unfold agr hd
      by_cases c : frk (ld j) (k % 4) < 8 * fo j
      · rw [if_pos c, decide_eq_true c]
        cases b with
        | false => rw [if_pos hb0]; rfl
        | true =>
          rw [if_neg (show ¬ bI true = 0 by decide)]
          by_cases s : is j = 1
          · rw [if_pos s, decide_eq_true s]; rfl
          · rw [if_neg s, decide_eq_false s]; rfl
      · rw [if_neg c, decide_eq_false c]
        cases b with
        | false => rw [if_pos hb0]; rfl
        | true =>
          rw [if_neg (show ¬ bI true = 0 by decide)]
          by_cases s : is j = 1
          · rw [if_pos s, decide_eq_true s]; rfl
          · rw [if_neg s, decide_eq_false s]; rfl) FU true (FU_gt (by omega))
  exact h1
theorem m_tents (v1 thr : Int32) {hc : Nat} (hc6 : hc ≤ 6) (who fo ld is : Nat → Int32) : fX5_tents_L31 v1 thr (nI hc) who fo ld is FU 0 0 (-9) = some (if v1 = 0 then nI (TN (agA who fo ld is hc) (agB who fo ld is hc)).1 else (TN (agA who fo ld is hc) (agB who fo ld is hc)).2, (thr, nI (TN (agA who fo ld is hc) (agB who fo ld is hc)).1, (TN (agA who fo ld is hc) (agB who fo ld is hc)).2)) := by
  have h1 := loop_up (f := fun n k (s : Nat × Int32) => fX5_tents_L31 v1 thr (nI hc) who fo ld is n (nI k) (nI s.1) s.2) (N := 16) (st := TNs (agA who fo ld is hc) (agB who fo ld is hc)) (ex := fun s => some (if v1 = 0 then nI s.1 else s.2, (thr, nI s.1, s.2))) (fun k s => s.1 ≤ k) (by
    intro n s _
    show fX5_tents_L31 v1 thr (nI hc) who fo ld is (n + 1) (nI 16) (nI s.1) s.2 = _
    rw [fX5_tents_L31, if_pos y16]
    by_cases c : v1 = 0
    · rw [if_pos c, if_pos c]
    · rw [if_neg c, if_neg c]) (by
    intro n k s hk hs
    show fX5_tents_L31 v1 thr (nI hc) who fo ld is (n + 1) (nI k) (nI s.1) s.2 = fX5_tents_L31 v1 thr (nI hc) who fo ld is n (nI (k + 1)) (nI _) _ ∧ _
    rw [fX5_tents_L31, if_neg (n16 hk), m_inner42 _ v1 thr s.2 hk hc6 (by omega), isT_eq]
    unfold TNs
    cases (agA who fo ld is hc (k / 4) && agB who fo ld is hc (k % 4)) with
    | false => exact ⟨rfl, by show s.1 ≤ k + 1; omega⟩
    | true => exact ⟨rfl, by show s.1 + 1 ≤ k + 1; omega⟩) 16 0 FU (0, -9) rfl (FU_gt (by omega)) (Nat.le_refl _)
  exact h1
def fA (a b c d : Bool) : Nat → Bool := fun k => if k = 0 then a else if k = 1 then b else if k = 2 then c else d
set_option maxRecDepth 100000 in
theorem tn_dec : ∀ a0 a1 a2 a3 b0 b1 b2 b3 : Bool, fX4_tents (or4 (fA a0 a1 a2 a3)) (or4 (fA b0 b1 b2 b3)) 0 = some (nI (TN (fA a0 a1 a2 a3) (fA b0 b1 b2 b3)).1) ∧ fX4_tents (or4 (fA a0 a1 a2 a3)) (or4 (fA b0 b1 b2 b3)) 1 = some (TN (fA a0 a1 a2 a3) (fA b0 b1 b2 b3)).2 := by decide +kernel
theorem fA_eq (A : Nat → Bool) {k : Nat} (hk : k < 4) : fA (A 0) (A 1) (A 2) (A 3) k = A k := by
  rcases (by omega : k = 0 ∨ k = 1 ∨ k = 2 ∨ k = 3) with e | e | e | e <;> subst e <;> rfl
theorem or4_fA (A : Nat → Bool) : or4 (fA (A 0) (A 1) (A 2) (A 3)) = or4 A := rfl
theorem TN_fA (A B : Nat → Bool) : TN (fA (A 0) (A 1) (A 2) (A 3)) (fA (B 0) (B 1) (B 2) (B 3)) = TN A B := by
  unfold TN
  apply up_cg
  intro j s h1 h2
  unfold TNs
  rw [fA_eq A (by omega), fA_eq B (by omega)]
theorem o_tents {h_hc m_held h_ok h_tk : Int32} {who fo ld is : Nat → Int32} (hH : RH h_hc m_held h_ok h_tk who fo ld is) (thrown tm tf a1 : Int32) :
    ∃ r m2 f2, fX4_tents h_ok h_tk a1 = some r ∧ fX5_tents thrown m_held tm tf who fo ld is a1 = some (r, (0, m2, f2)) := by
  obtain ⟨hc, hc6, rfl, rfl, hA, hB⟩ := hH
  have eA := or4_eq hA
  have eB := or4_eq hB
  by_cases c1 : a1 < 0
  · have i1 : fX5_in a1.toInt64 0 1 = some 0 := in_no (a := 0) (b := 1) (Or.inl c1)
    exact ⟨-2, tm, tf, by unfold fX4_tents; rw [if_pos c1], by unfold fX5_tents; rw [i1, ob_some, if_pos zz0]⟩
  · by_cases c2 : a1 ≤ 1
    · have i1 : fX5_in a1.toInt64 0 1 = some 1 := in_yes (a := 0) (b := 1) (fa_of_nlt c1) c2
      have hd := tn_dec (agA who fo ld is hc 0) (agA who fo ld is hc 1) (agA who fo ld is hc 2) (agA who fo ld is hc 3) (agB who fo ld is hc 0) (agB who fo ld is hc 1) (agB who fo ld is hc 2) (agB who fo ld is hc 3)
      rw [TN_fA (agA who fo ld is hc) (agB who fo ld is hc), or4_fA (agA who fo ld is hc), or4_fA (agB who fo ld is hc), ← eA, ← eB] at hd
      have em : fX5_tents thrown (nI hc) tm tf who fo ld is a1 = some (if a1 = 0 then nI (TN (agA who fo ld is hc) (agB who fo ld is hc)).1 else (TN (agA who fo ld is hc) (agB who fo ld is hc)).2, (0, nI (TN (agA who fo ld is hc) (agB who fo ld is hc)).1, (TN (agA who fo ld is hc) (agB who fo ld is hc)).2)) := by
        unfold fX5_tents
        rw [i1, ob_some, if_neg one0, m_tents a1 0 hc6]
      refine ⟨_, _, _, ?_, em⟩
      rcases rng01 c1 c2 with rfl | rfl
      · rw [hd.1, if_pos rfl]
      · rw [hd.2, if_neg one0]
    · have i1 : fX5_in a1.toInt64 0 1 = some 0 := in_no (a := 0) (b := 1) (Or.inr (fa_of_nle c2))
      exact ⟨-2, tm, tf, by unfold fX4_tents; rw [if_neg c1, if_neg c2], by unfold fX5_tents; rw [i1, ob_some, if_pos zz0]⟩
