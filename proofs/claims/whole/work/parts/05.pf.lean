/-! doings judged -/
theorem o_does {g : Nat → Nat} {th ki fe : Int32} {h : Nat → Int32} (hR : RPg g th ki fe h) {ca mc : Nat → Int32} (hC : RCa ca mc) (L M : Nat → Int32) {D : Nat} (hD : D < 10000) :
    ∃ r g2 th2 ki2 fe2 L2 h2 M2, fX4_canBeDone th ki fe ca L (nI D) = some (r, (th2, ki2, fe2, L2)) ∧ fX5_does mc h M (nI D) = some (r, (h2, M2)) ∧ RPg g2 th2 ki2 fe2 h2 ∧ (r = 0 ∨ r = 1) := by
  have hR0 := hR
  unfold fX4_canBeDone fX5_does
  simp only [nm_eq]
  have ez : nI D - nI D / (10 : Int32) * (10 : Int32) = nI (D % 10) := pk_rem (a := D) (d := 10) (by omega) (by decide) (by decide)
  have hz : nI (D % 10) ≤ 9 := nI_le (b := 9) (by omega) (by decide)
  rw [ez]
  generalize (nI D / 10 - nI D / 10 / 100 * 100 : Int32) = z1
  generalize (nI D / 1000 : Int32) = z3
  generalize nI (D % 10) = z2 at hz
  by_cases h1 : z3 = 1
  · obtain ⟨r, g2, th2, ki2, fe2, L2, h2, M2, e1, e2, hR2, hr⟩ := tr_lay hR hC L M z1 z2
    refine ⟨r, g2, th2, ki2, fe2, L2, h2, M2, ?_, ?_, hR2, hr⟩
    · rw [if_pos h1, e1, ob_some]
      exact gz_in hr
    · rw [if_pos h1, e2, ob_some]
      exact gz_in hr
  · by_cases h2 : z3 = 2
    · rw [if_neg h1, if_pos h2, if_neg h1, if_pos h2]
      by_cases c : z2 = 0
      · obtain ⟨r, g2, th2, t2, e1, e2, hR2, hr⟩ := tr_lift hR z1
        rw [if_pos c, e1, ob_some, if_pos c, e2, ob_some]
        rcases hr with rfl | rfl
        · exact ⟨0, g2, th2, ki, fe, L, t2, M, if_pos rfl, if_pos rfl, hR2, Or.inl rfl⟩
        · exact ⟨1, g2, th2, ki, fe, L, t2, M, if_neg one0, if_neg one0, hR2, Or.inr rfl⟩
      · exact ⟨0, g, th, ki, fe, L, h, M, by rw [if_neg c], by rw [if_neg c], hR0, Or.inl rfl⟩
    · by_cases h3 : z3 = 3
      · obtain ⟨r, g2, th2, fe2, L2, t2, M2, e1, e2, hR2, hr⟩ := tr_blow hR L M z1 z2 hz
        refine ⟨r, g2, th2, ki, fe2, L2, t2, M2, ?_, ?_, hR2, hr⟩
        · rw [if_neg h1, if_neg h2, if_pos h3, e1, ob_some]
          exact gz_in hr
        · rw [if_neg h1, if_neg h2, if_pos h3, e2, ob_some]
          exact gz_in hr
      · obtain ⟨hO, ⟨rfl, hk⟩, hM⟩ := hR
        by_cases h4 : z3 = 4
        · rw [if_neg h1, if_neg h2, if_neg h3, if_pos h4, if_neg h1, if_neg h2, if_neg h3, if_pos h4]
          by_cases c : z2 = 0
          · rw [if_pos c, if_pos c]
            rcases pieceOr z1 with ⟨p, hp, rfl⟩ | ⟨c1, c2, -⟩
            · have hpp := page_pos hM hO.1 hp
              rw [c_isPiece p hp, ob_some, if_neg one0, c_has g hp, ob_some, m_noPiece p hp, ob_some, if_pos zz0, gdn (by omega) (by decide), clN (by omega)]
              by_cases z : g p = 0
              · exact ⟨0, g, TH g, ki, fe, L, h, M, by rw [if_pos z, if_pos zz0], by rw [if_pos (hpp.1.mpr z)], hR0, Or.inl rfl⟩
              · exact ⟨1, g, TH g, ki, fe, L, h, M, by rw [if_neg z, if_neg one0], by rw [if_neg (fun y => z (hpp.1.mp y))], hR0, Or.inr rfl⟩
            · exact ⟨0, g, TH g, ki, fe, L, h, M, by rw [c1, ob_some, if_pos zz0], by rw [c2, ob_some, if_neg one0], hR0, Or.inl rfl⟩
          · exact ⟨0, g, TH g, ki, fe, L, h, M, by rw [if_neg c], by rw [if_neg c], hR0, Or.inl rfl⟩
        · by_cases h5 : z3 = 5
          · rw [if_neg h1, if_neg h2, if_neg h3, if_neg h4, if_pos h5, if_neg h1, if_neg h2, if_neg h3, if_neg h4, if_pos h5]
            by_cases c : z2 = 0
            · rw [if_pos c, if_pos c, c_size, ob_some, f_there hM.1 hO.1, ob_some, f_many, ob_some]
              by_cases y : nI (cnt (TH g)) < z1
              · exact ⟨0, g, TH g, ki, fe, L, h, M, by rw [if_pos y], by rw [if_pos y], hR0, Or.inl rfl⟩
              · exact ⟨1, g, TH g, ki, fe, L, h, M, by rw [if_neg y], by rw [if_neg y], hR0, Or.inr rfl⟩
            · exact ⟨0, g, TH g, ki, fe, L, h, M, by rw [if_neg c], by rw [if_neg c], hR0, Or.inl rfl⟩
          · exact ⟨0, g, TH g, ki, fe, L, h, M, by rw [if_neg h1, if_neg h2, if_neg h3, if_neg h4, if_neg h5], by rw [if_neg h1, if_neg h2, if_neg h3, if_neg h4, if_neg h5], hR0, Or.inl rfl⟩
theorem lpow : ∀ j, j < 5 → fX5_longPower 10000 (nI j) = some (sDL j) := by decide +kernel
theorem s_DL : ∀ j, j < 5 → sDL j = lN (10000 ^ j) := by decide +kernel
theorem p_DL : ∀ j, j < 5 → 10000 ^ j ≤ 10000000000000000 := by decide +kernel
theorem judge_L {N R : Nat} (hN : N ≤ 4) (hR : R < 10000000000000000) {ca mc : Nat → Int32} (hC : RCa ca mc) (nth nki nfe thr : Int32) (nca page : Nat → Int32) :
    ∀ (k i n m : Nat) (g : Nat → Nat) (th ki fe : Int32) (L tr M : Nat → Int32), i + k = N → k < n → k < m → RPg g th ki fe tr → ∃ r o1 o2 o3 o5 t2 l2, fX4_judge_L46 (nI N) (lN R) nth nki nfe nca ca n (nI i) th ki fe L = some (r, (o1, o2, o3, ca, o5)) ∧ fX5_judge_L44 (nI N) (lN R) thr mc page m (nI i) tr M = some (r, (thr, t2, l2))
  | k, i, 0, m, _, _, _, _, _, _, _, h1, h2, h3, _ => absurd h2 (by omega)
  | k, i, n + 1, 0, _, _, _, _, _, _, _, h1, h2, h3, _ => absurd h3 (by omega)
  | 0, i, n + 1, m + 1, g, th, ki, fe, L, tr, M, h1, h2, h3, hP => by
    have e : i = N := by omega
    subst e
    have hle : nI i ≤ nI i := nI_le (Nat.le_refl _) (by omega)
    exact ⟨-9, th, ki, fe, L, tr, M, by rw [fX4_judge_L46, if_pos hle], by rw [fX5_judge_L44, if_pos hle]⟩
  | k + 1, i, n + 1, m + 1, g, th, ki, fe, L, tr, M, h1, h2, h3, hP => by
    have hlt : ¬ nI N ≤ nI i := nI_ge (by omega) (by omega)
    have ei : nI N - 1 - nI i = nI (N - 1 - i) := by
      rw [show nI N - 1 = nI (N - 1) from pk_sub (b := 1) (by omega), pk_sub (by omega)]
    have hX := p_DL (N - 1 - i) (by omega)
    have hX0 : 0 < 10000 ^ (N - 1 - i) := Nat.pow_pos (by decide)
    have ed : Int64.toInt32 (lN R / sDL (N - 1 - i) - lN R / sDL (N - 1 - i) / (10000 : Int64) * (10000 : Int64)) = nI (R / 10000 ^ (N - 1 - i) % 10000) := by
      rw [s_DL _ (by omega), pk_lDiv (by omega) hX0 (by omega)]
      have hq : R / 10000 ^ (N - 1 - i) ≤ R := Nat.div_le_self _ _
      have e2 := pk_lRem (a := R / 10000 ^ (N - 1 - i)) (b := 10000) (by omega) (by decide) (by decide)
      rw [show (10000 : Int64) = lN 10000 from rfl, e2, lN_i]
    have hz : ¬ sDL (N - 1 - i) = 0 := by
      rw [s_DL _ (by omega)]
      intro z
      have := (pk_lEQ (a := 10000 ^ (N - 1 - i)) (b := 0) (by omega) (by decide)).mp z
      omega
    obtain ⟨r, g2, th2, ki2, fe2, L2, h2', M2, e1, e2, hP2, hr⟩ := o_does hP hC L M (D := R / 10000 ^ (N - 1 - i) % 10000) (Nat.mod_lt _ (by decide))
    rw [fX4_judge_L46, if_neg hlt, ei, gdn (by omega) (by decide), clN (by omega), fX5_judge_L44, if_neg hlt, ei, lpow _ (by omega), ob_some]
    simp only [nm_eq, dzL_in hz, ed, e1, e2, ob_some, nI_1]
    by_cases z : r = 0
    · exact ⟨nI i, th2, ki2, fe2, L2, h2', M2, by rw [if_pos z], by rw [if_pos z]⟩
    · rw [if_neg z, if_neg z]
      exact judge_L hN hR hC nth nki nfe thr nca page k (i + 1) n m g2 th2 ki2 fe2 L2 h2' M2 (by omega) (by omega) (by omega) hP2
theorem RPg_begin {g : Nat → Nat} {th ki fe : Int32} {page t2 : Nat → Int32} (hP : RPg g th ki fe page) (e : ∀ k, k < 17 → t2 k = page k) : RPg g th ki fe t2 := RPg_congr hP e
theorem o_judge {g : Nat → Nat} {th ki fe : Int32} {page : Nat → Int32} (hP : RPg g th ki fe page) {ca mc : Nat → Int32} (hC : RCa ca mc) (rth rki rfe : Int32) (rca rlo tr ld : Nat → Int32) (thrown a1 : Int32) (a2 : Int64) :
    ∃ r o1 o2 o3 o4 o5 t2 l2, fX4_judge th ki fe ca rth rki rfe rca rlo a1 a2 = some (r, (o1, o2, o3, o4, o5)) ∧ fX5_judge thrown mc page tr ld a1 a2 = some (r, (0, t2, l2)) := by
  unfold fX4_judge fX5_judge
  by_cases c : a1 < 1
  · have e : fX5_in a1.toInt64 1 4 = some 0 := in_no (a := 1) (b := 4) (Or.inl c)
    exact ⟨-2, _, _, _, _, _, _, _, by rw [if_pos c], by rw [e, ob_some, if_pos zz0]⟩
  · by_cases d : a1 ≤ 4
    · have e : fX5_in a1.toInt64 1 4 = some 1 := in_yes (a := 1) (b := 4) (fa_of_nlt c) d
      obtain ⟨N, hN1, hN2, rfl⟩ : ∃ N, 1 ≤ N ∧ N ≤ 4 ∧ a1 = nI N := by
        rcases pk_ix a1 (n := 5) (by decide) with h | h | ⟨j, hj, rfl⟩
        · exfalso
          apply c
          rw [fa_lt] at h ⊢
          have e0 : (0 : Int32).toInt = 0 := by decide
          have e1 : (1 : Int32).toInt = 1 := by decide
          omega
        · exfalso
          rw [fa_le] at h d
          have e0 : (nI 5).toInt = 5 := by decide
          have e1 : (4 : Int32).toInt = 4 := by decide
          omega
        · refine ⟨j, ?_, by omega, rfl⟩
          rcases Nat.eq_zero_or_pos j with h | h
          · subst h
            exact absurd (by decide) c
          · exact h
      have hX := p_DL N (by omega)
      have hX0 : 0 < 10000 ^ N := Nat.pow_pos (by decide)
      have es1 : (sDL N - 1 : Int64) = lN (10000 ^ N - 1) := by
        rw [s_DL N (by omega)]
        exact lN_sub (b := 1) (by omega)
      rw [if_neg c, if_pos d, e, ob_some, if_neg one0, lpow N (by omega), ob_some, gdn (by omega) (by decide), clN (by omega), es1]
      by_cases c2 : a2 < 0
      · have e2 : fX5_in a2 0 (lN (10000 ^ N - 1)) = some 0 := by
          unfold fX5_in
          rw [if_pos ((cmp_lt0 _ _).mpr c2)]
        exact ⟨-2, _, _, _, _, _, _, _, by rw [if_pos ((cmp_lt0 _ _).mpr c2)], by rw [e2, ob_some, if_pos zz0]⟩
      · obtain ⟨R, hR, rfl⟩ := pk_lOf c2
        have n1 : ¬ lg_cmp (lN R) 0 < 0 := fun z => c2 ((cmp_lt0 _ _).mp z)
        rw [if_neg n1]
        by_cases c3 : R < 10000 ^ N
        · have e3 : fX5_in (lN R) 0 (lN (10000 ^ N - 1)) = some 1 := by
            unfold fX5_in
            rw [if_neg n1, if_neg (fun z => by have := (pk_lLT (a := 10000 ^ N - 1) (b := R) (by omega) hR).mp ((cmp_gt0 _ _).mp z); omega)]
          have n2 : lg_cmp (lN R) (sDL N) < 0 := by
            rw [cmp_lt0, s_DL N (by omega)]
            exact (pk_lLT hR (by omega)).mpr c3
          obtain ⟨ca2, e4, q4⟩ := c_copyFrom rth rki rfe th ki fe rca ca
          obtain ⟨t2, e5, q5⟩ := m_begin page tr
          rw [if_pos n2, e4, ob_some, e3, ob_some, if_neg one0, e5, ob_some]
          obtain ⟨r, o1, o2, o3, o5, t6, l6, f1, f2⟩ := judge_L (N := N) (R := R) hN2 (by omega) (RCa_tr q4 hC) th ki fe 0 ca page N 0 FU FU g th ki fe rlo t2 ld (by omega) (FU_gt (by omega)) (FU_gt (by omega)) (RPg_begin hP q5)
          exact ⟨r, o1, o2, o3, ca2, o5, t6, l6, f1, f2⟩
        · have e3 : fX5_in (lN R) 0 (lN (10000 ^ N - 1)) = some 0 := by
            unfold fX5_in
            rw [if_neg n1, if_pos ((cmp_gt0 _ _).mpr ((pk_lLT (by omega) hR).mpr (by omega)))]
          have n2 : ¬ lg_cmp (lN R) (sDL N) < 0 := by
            rw [cmp_lt0, s_DL N (by omega)]
            intro z
            exact c3 ((pk_lLT hR (by omega)).mp z)
          exact ⟨-2, _, _, _, _, _, _, _, by rw [if_neg n2], by rw [e3, ob_some, if_pos zz0]⟩
    · have e : fX5_in a1.toInt64 1 4 = some 0 := in_no (a := 1) (b := 4) (Or.inr (fa_of_nle d))
      exact ⟨-2, _, _, _, _, _, _, _, by rw [if_neg c, if_neg d], by rw [e, ob_some, if_pos zz0]⟩
