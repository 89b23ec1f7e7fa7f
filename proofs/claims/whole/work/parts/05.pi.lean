theorem ev_draw (s : Int64) : ∃ D, D < 80 ∧ Int64.toInt32 ((Int64.toUInt64 s >>> ((Int32.toInt64 33).toUInt64 &&& Int64.toUInt64 63)).toInt64 - (Int64.toUInt64 s >>> ((Int32.toInt64 33).toUInt64 &&& Int64.toUInt64 63)).toInt64 / (80 : Int64) * (80 : Int64)) = nI D := by
  obtain ⟨n, hn, rfl⟩ := wb_of s
  refine ⟨n / 2 ^ 33 % 80, Nat.mod_lt _ (by decide), ?_⟩
  have e : ((lN n).toUInt64 >>> ((Int32.toInt64 33).toUInt64 &&& Int64.toUInt64 63)).toInt64 = lN (n / 2 ^ 33) := wb_shr (k := 33) hn (by decide)
  rw [e]
  have e2 := pk_lRem (a := n / 2 ^ 33) (b := 80) (by omega) (by decide) (by decide)
  rw [show (80 : Int64) = lN 80 from rfl, e2, lN_i]
theorem ev_pass {g : Nat → Nat} {th ki fe : Int32} {h : Nat → Int32} (hR : RPg g th ki fe h) {ca mc : Nat → Int32} (hC : RCa ca mc) (L M : Nat → Int32) {D : Nat} (hD : D < 80) :
    ∃ g2 th2 ki2 fe2 L2 h2 M2, fX4_passEvening th ki fe ca L (nI D) = some (th2, ki2, fe2, L2) ∧ (if 64 ≤ nI D then (if 76 ≤ nI D then ob (fX5_takes h (nI D - 64)) (fun r => some (r.2, M)) else ob (fX5_blows h M ((nI D - 64) / 3) (2 + ((nI D - 64) - (nI D - 64) / 3 * 3))) (fun r => some (r.2.1, r.2.2))) else ob (fX5_puts mc h M (nI D / 4) (nI D - nI D / 4 * 4)) (fun r => some (r.2.1, r.2.2))) = some (h2, M2) ∧ RPg g2 th2 ki2 fe2 h2 := by
  unfold fX4_passEvening
  by_cases c : (64 : Int32) ≤ nI D
  · rw [if_pos c, if_pos c]
    by_cases d : (76 : Int32) ≤ nI D
    · rw [if_pos d, if_pos d]
      obtain ⟨r, g2, th2, t2, e1, e2, hR2, -⟩ := tr_lift hR (nI D - 64)
      exact ⟨g2, th2, ki, fe, L, t2, M, by rw [e1, ob_some], by rw [e2, ob_some], hR2⟩
    · rw [if_neg d, if_neg d]
      have hD1 : 64 ≤ D := by
        rcases Nat.lt_or_ge D 64 with h | h
        · exact absurd c (nI_ge (a := D) (b := 64) h (by decide))
        · exact h
      have e0 : nI D - 64 = nI (D - 64) := pk_sub (b := 64) hD1
      have e3 : nI (D - 64) - nI (D - 64) / 3 * 3 = nI ((D - 64) % 3) := pk_rem (a := D - 64) (d := 3) (by omega) (by decide) (by decide)
      have e4 : (2 : Int32) + nI ((D - 64) % 3) = nI (2 + (D - 64) % 3) := nI_add 2 _
      have hf : nI (2 + (D - 64) % 3) ≤ 9 := nI_le (b := 9) (by omega) (by decide)
      rw [e0, e3, e4]
      obtain ⟨r, g2, th2, fe2, L2, t2, M2, e1, e2, hR2, -⟩ := tr_blow hR L M (nI (D - 64) / 3) (nI (2 + (D - 64) % 3)) hf
      exact ⟨g2, th2, ki, fe2, L2, t2, M2, by rw [e1, ob_some], by rw [e2, ob_some], hR2⟩
  · rw [if_neg c, if_neg c]
    obtain ⟨r, g2, th2, ki2, fe2, L2, t2, M2, e1, e2, hR2, -⟩ := tr_lay hR hC L M (nI D / 4) (nI D - nI D / 4 * 4)
    exact ⟨g2, th2, ki2, fe2, L2, t2, M2, by rw [e1, ob_some], by rw [e2, ob_some], hR2⟩
theorem ev_c1 {v1 nth nki nfe : Int32} {nca ca : Nat → Int32} {n : Nat} {sum v3 : Int32} {seed z : Int64} {th ki fe : Int32} {L : Nat → Int32} (hlt : ¬ v1 ≤ v3) (hz : z = seed * 6364136223846793005 + 1442695040888963407) {D th2 ki2 fe2 c : Int32} {L2 : Nat → Int32} (eD : Int64.toInt32 ((Int64.toUInt64 z >>> ((Int32.toInt64 33).toUInt64 &&& Int64.toUInt64 63)).toInt64 - (Int64.toUInt64 z >>> ((Int32.toInt64 33).toUInt64 &&& Int64.toUInt64 63)).toInt64 / (80 : Int64) * (80 : Int64)) = D) (e1 : fX4_passEvening th ki fe ca L D = some (th2, ki2, fe2, L2)) (ec : fX1_size th2 = some c) : fX4_evenings_L29 v1 nth nki nfe nca ca (n + 1) sum v3 seed th ki fe L = fX4_evenings_L29 v1 nth nki nfe nca ca n (sum + c) (v3 + 1) z th2 ki2 fe2 L2 := by
  rw [fX4_evenings_L29, if_neg hlt, ← hz, nm_eq, eD, e1, ob_some]
  show ob (fX1_size th2) _ = _
  rw [ec, ob_some, nm_eq, nm_eq]
theorem ev_m1 {v1 thr : Int32} {mc page : Nat → Int32} {n : Nat} {sum v3 : Int32} {seed z : Int64} {tr M : Nat → Int32} (hlt : ¬ v1 ≤ v3) (hz : z = seed * 6364136223846793005 + 1442695040888963407) {D c th2 : Int32} {t2 M2 : Nat → Int32} (eD : Int64.toInt32 ((Int64.toUInt64 z >>> ((Int32.toInt64 33).toUInt64 &&& Int64.toUInt64 63)).toInt64 - (Int64.toUInt64 z >>> ((Int32.toInt64 33).toUInt64 &&& Int64.toUInt64 63)).toInt64 / (80 : Int64) * (80 : Int64)) = D) (e2 : (if 64 ≤ D then (if 76 ≤ D then ob (fX5_takes tr (D - 64)) (fun r => some (r.2, M)) else ob (fX5_blows tr M ((D - 64) / 3) (2 + ((D - 64) - (D - 64) / 3 * 3))) (fun r => some (r.2.1, r.2.2))) else ob (fX5_puts mc tr M (D / 4) (D - D / 4 * 4)) (fun r => some (r.2.1, r.2.2))) = some (t2, M2)) (et : fX5_there t2 = some th2) (ec : fX5_many th2 = some c) : fX5_evenings_L28 v1 thr mc page (n + 1) sum v3 seed tr M = fX5_evenings_L28 v1 thr mc page n (sum + c) (v3 + 1) z t2 M2 := by
  rw [fX5_evenings_L28, if_neg hlt, ← hz, nm_eq, nm_eq, eD]
  by_cases c1 : (64 : Int32) ≤ D
  · rw [if_pos c1] at e2 ⊢
    by_cases d : (76 : Int32) ≤ D
    · rw [if_pos d] at e2 ⊢
      obtain ⟨v, v1, v2⟩ := ob_at e2
      have v3 := Option.some.inj v2
      have v4 : v.2 = t2 := congrArg Prod.fst v3
      have v5 : M = M2 := congrArg Prod.snd v3
      rw [v1, ob_some, v4, et, ob_some, ec, ob_some, v5, nm_eq, nm_eq]
    · rw [if_neg d] at e2 ⊢
      obtain ⟨v, v1, v2⟩ := ob_at e2
      have v3 := Option.some.inj v2
      have v4 : v.2.1 = t2 := congrArg Prod.fst v3
      have v5 : v.2.2 = M2 := congrArg Prod.snd v3
      rw [v1, ob_some, v4, et, ob_some, ec, ob_some, v5, nm_eq, nm_eq]
  · rw [if_neg c1] at e2 ⊢
    obtain ⟨v, v1, v2⟩ := ob_at e2
    have v3 := Option.some.inj v2
    have v4 : v.2.1 = t2 := congrArg Prod.fst v3
    have v5 : v.2.2 = M2 := congrArg Prod.snd v3
    rw [v1, ob_some, v4, et, ob_some, ec, ob_some, v5, nm_eq, nm_eq]
theorem ev_L {N : Nat} (hN : N ≤ 30) {ca mc : Nat → Int32} (hC : RCa ca mc) (nth nki nfe thr : Int32) (nca page : Nat → Int32) (k : Nat) :
    ∀ (i n m : Nat) (g : Nat → Nat) (sum : Int32) (seed : Int64) (th ki fe : Int32) (L tr M : Nat → Int32), i + k = N → k < n → k < m → RPg g th ki fe tr → ∃ r s2 o1 o2 o3 o5 t2 l2, fX4_evenings_L29 (nI N) nth nki nfe nca ca n sum (nI i) seed th ki fe L = some (r, (s2, o1, o2, o3, ca, o5)) ∧ fX5_evenings_L28 (nI N) thr mc page m sum (nI i) seed tr M = some (r, (thr, s2, t2, l2)) := by
  induction k with
  | zero =>
    intro i n m g sum seed th ki fe L tr M h1 h2 h3 hP
    cases n with
    | zero => omega
    | succ n =>
      cases m with
      | zero => omega
      | succ m =>
        have e : i = N := by omega
        subst e
        have hle : nI i ≤ nI i := nI_le (Nat.le_refl _) (by omega)
        exact ⟨sum, seed, th, ki, fe, L, tr, M, by rw [fX4_evenings_L29, if_pos hle], by rw [fX5_evenings_L28, if_pos hle]⟩
  | succ k ih =>
    intro i n m g sum seed th ki fe L tr M h1 h2 h3 hP
    cases n with
    | zero => omega
    | succ n =>
      cases m with
      | zero => omega
      | succ m =>
        have hlt : ¬ nI N ≤ nI i := nI_ge (by omega) (by omega)
        obtain ⟨z, hz⟩ : ∃ z : Int64, z = seed * 6364136223846793005 + 1442695040888963407 := ⟨_, rfl⟩
        obtain ⟨D, hD, eD⟩ := ev_draw z
        obtain ⟨g2, th2, ki2, fe2, L2, t2, M2, e1, e2, hP2⟩ := ev_pass hP hC L M hD
        have hP3 := hP2
        obtain ⟨hO, ⟨rfl, hk⟩, hM⟩ := hP2
        obtain ⟨r, s2, o1, o2, o3, o5, t6, l6, f1, f2⟩ := ih (i + 1) n m g2 (sum + nI (cnt (TH g2))) z (TH g2) ki2 fe2 L2 t2 M2 (by omega) (by omega) (by omega) hP3
        refine ⟨r, s2, o1, o2, o3, o5, t6, l6, ?_, ?_⟩
        · rw [ev_c1 hlt hz eD e1 (c_size g2), nI_1]
          exact f1
        · rw [ev_m1 hlt hz eD e2 (f_there hM.1 hO.1) (f_many _), nI_1]
          exact f2
theorem o_evenings {g : Nat → Nat} {th ki fe : Int32} {page : Nat → Int32} (hP : RPg g th ki fe page) {ca mc : Nat → Int32} (hC : RCa ca mc) (seed : Int64) (rth rki rfe : Int32) (rca rlo tr ld : Nat → Int32) (thrown a1 : Int32) :
    ∃ r s2 o1 o2 o3 o4 o5 t2 l2, fX4_evenings seed th ki fe ca rth rki rfe rca rlo a1 = some (r, (s2, o1, o2, o3, o4, o5)) ∧ fX5_evenings thrown seed mc page tr ld a1 = some (r, (0, s2, t2, l2)) := by
  unfold fX4_evenings fX5_evenings
  by_cases c : a1 < 1
  · have e : fX5_in a1.toInt64 1 30 = some 0 := in_no (a := 1) (b := 30) (Or.inl c)
    exact ⟨-2, seed, rth, rki, rfe, rca, rlo, tr, ld, by rw [if_pos c], by rw [e, ob_some, if_pos zz0]⟩
  · by_cases d : a1 ≤ 30
    · have e : fX5_in a1.toInt64 1 30 = some 1 := in_yes (a := 1) (b := 30) (fa_of_nlt c) d
      obtain ⟨N, hN2, rfl⟩ : ∃ N, N ≤ 30 ∧ a1 = nI N := by
        rcases pk_ix a1 (n := 31) (by decide) with h | h | ⟨j, hj, rfl⟩
        · exfalso
          apply c
          rw [fa_lt] at h ⊢
          have e0 : (0 : Int32).toInt = 0 := by decide
          have e1 : (1 : Int32).toInt = 1 := by decide
          omega
        · exfalso
          rw [fa_le] at h d
          have e0 : (nI 31).toInt = 31 := by decide
          have e1 : (30 : Int32).toInt = 30 := by decide
          omega
        · exact ⟨j, by omega, rfl⟩
      obtain ⟨ca2, e4, q4⟩ := c_copyFrom rth rki rfe th ki fe rca ca
      obtain ⟨t2, e5, q5⟩ := m_begin page tr
      rw [if_neg c, if_pos d, e, ob_some, if_neg one0, e4, ob_some, e5, ob_some]
      obtain ⟨r, s2, o1, o2, o3, o5, t6, l6, f1, f2⟩ := ev_L (N := N) hN2 (RCa_tr q4 hC) th ki fe 0 ca page N 0 FU FU g 0 seed th ki fe rlo t2 ld (by omega) (FU_gt (by omega)) (FU_gt (by omega)) (RPg_begin hP q5)
      exact ⟨r, s2, o1, o2, o3, ca2, o5, t6, l6, f1, f2⟩
    · have e : fX5_in a1.toInt64 1 30 = some 0 := in_no (a := 1) (b := 30) (Or.inr (fa_of_nle d))
      exact ⟨-2, seed, rth, rki, rfe, rca, rlo, tr, ld, by rw [if_neg c, if_neg d], by rw [e, ob_some, if_pos zz0]⟩
