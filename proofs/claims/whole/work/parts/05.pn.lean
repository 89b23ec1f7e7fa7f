/-! the text read, letter by letter and piece by piece -/
theorem r_end {ln : Nat} (hl : ln ≤ 56) (le : Nat → Int32) (fe th ki : Int32) (ca : Nat → Int32) (n : Nat) : fX3_readInto_L6 (nI ln) le fe (n + 1) (nI ln) th ki ca = if ln < 5 then some (nI ln, (th, ki, fe, ca)) else if (ln - 5) % 3 = 0 then some (-9, (th, ki, fe, ca)) else some (nI ln, (th, ki, fe, ca)) := by
  rw [fX3_readInto_L6, if_pos (nI_le (Nat.le_refl _) (by omega))]
  by_cases c : ln < 5
  · rw [if_pos (show nI ln < 5 from nI_lt (b := 5) c (by decide)), if_pos c]
  · have e1 : nI ln - 5 = nI (ln - 5) := pk_sub (b := 5) (by omega)
    have e2 : nI (ln - 5) - nI (ln - 5) / 3 * 3 = nI ((ln - 5) % 3) := pk_rem (a := ln - 5) (d := 3) (by omega) (by decide) (by decide)
    rw [if_neg (show ¬ nI ln < 5 from nI_nlt (a := ln) (b := 5) (by omega) (by omega)), if_neg c, e1, e2]
    by_cases d : (ln - 5) % 3 = 0
    · rw [if_pos (show nI ((ln - 5) % 3) = 0 by rw [d]; rfl), if_pos d]
    · rw [if_neg (nI_ne0 (by omega) (by omega)), if_neg d]
theorem r_step {ln j : Nat} (hl : ln ≤ 56) (hj : j < ln) (le : Nat → Int32) (fe th ki : Int32) (ca : Nat → Int32) (n : Nat) : fX3_readInto_L6 (nI ln) le fe (n + 1) (nI j) th ki ca = ob (fX3_readLetter le th ki ca (nI j) (le j)) (fun r14 => (if r14.1 = 0 then some (nI j, (r14.2.1, r14.2.2.1, fe, r14.2.2.2)) else fX3_readInto_L6 (nI ln) le fe n (nI (j + 1)) r14.2.1 r14.2.2.1 r14.2.2.2)) := by
  rw [fX3_readInto_L6, if_neg (nI_ge hj (by omega)), if_neg (show ¬ (56 : Int32) ≤ nI j from nI_ge (a := j) (b := 56) (by omega) (by decide)), gdn (show j < 56 by omega) (by decide), clN (by omega)]
  simp only [nm_eq, nI_1]
theorem rl_z {j : Nat} (h5 : 5 ≤ j) (hj : j < 56) : ¬ nI j = 0 ∧ (5 : Int32) ≤ nI j ∧ ((nI j - (5 : Int32)) - (nI j - (5 : Int32)) / (3 : Int32) * (3 : Int32)) = nI ((j - 5) % 3) := by
  have e1 : nI j - 5 = nI (j - 5) := pk_sub (b := 5) h5
  refine ⟨nI_ne0 (by omega) (by omega), nI_le (a := 5) h5 (by omega), ?_⟩
  rw [e1]
  exact pk_rem (a := j - 5) (d := 3) (by omega) (by decide) (by decide)
theorem rl_0 {j : Nat} (h5 : 5 ≤ j) (hj : j < 56) (h3 : (j - 5) % 3 = 0) (le : Nat → Int32) (th ki : Int32) (ca : Nat → Int32) (c : Int32) : fX3_readLetter le th ki ca (nI j) c = if c = 80 then ob (fX3_canAnyBeTold th ki ca) (fun r6 => (if r6 = 0 then some (0, (th, ki, ca)) else some (1, (th, ki, ca)))) else some (0, (th, ki, ca)) := by
  obtain ⟨z1, z2, z3⟩ := rl_z h5 hj
  unfold fX3_readLetter
  rw [if_neg z1, if_pos z2, nm_eq, z3, h3, if_pos (show nI 0 = 0 from rfl)]
theorem rl_1 {j : Nat} (h5 : 5 ≤ j) (hj : j < 56) (h3 : (j - 5) % 3 = 1) (le : Nat → Int32) (th ki : Int32) (ca : Nat → Int32) (c : Int32) : fX3_readLetter le th ki ca (nI j) c = ob (fX1_mostCardsLeft th ki ca) (fun r9 => ob (fX3_canBeTold th (c - 97) r9) (fun r10 => gz r10 (some (r10, (th, ki, ca))))) := by
  obtain ⟨z1, z2, z3⟩ := rl_z h5 hj
  unfold fX3_readLetter
  rw [if_neg z1, if_pos z2, nm_eq, z3, h3, if_neg (show ¬ nI 1 = 0 by decide), if_pos (show nI 1 = 1 from rfl)]
theorem rl_2 {j : Nat} (h5 : 5 ≤ j) (hj : j < 56) (h3 : (j - 5) % 3 = 2) (le : Nat → Int32) (th ki : Int32) (ca : Nat → Int32) (c : Int32) : fX3_readLetter le th ki ca (nI j) c = ob (fX3_readKind th ki ca (le (j - 1) - 97) (c - 48)) (fun r13 => gz r13.1 (some (r13.1, (r13.2.1, r13.2.2, ca)))) := by
  obtain ⟨z1, z2, z3⟩ := rl_z h5 hj
  have e1 : nI j - 1 = nI (j - 1) := pk_sub (b := 1) (by omega)
  unfold fX3_readLetter
  rw [if_neg z1, if_pos z2, nm_eq, z3, h3, if_neg (show ¬ nI 2 = 0 by decide), if_neg (show ¬ nI 2 = 1 by decide), e1, gdn (show j - 1 < 56 by omega) (by decide), clN (by omega)]
theorem c_canTell_no (th : Int32) {x : Int32} (h : fX4_isPiece x = some 0) (mx : Int32) : fX3_canBeTold th x mx = some 0 := by
  unfold fX3_canBeTold fX1_hasRoomFor
  rw [h, ob_some, if_pos zz0, ob_some, if_pos zz0]
theorem c_readKind {g : Nat → Nat} {ki : Int32} (hk : KI g ki) (h4 : PG g) (ca : Nat → Int32) {p k : Nat} (hp : p < 16) (hk4 : k < 4) : fX3_readKind (TH g) ki ca (nI p) (nI k) = if CP g ca p k = true then some (1, (TH (pt g p k), kip ki p k)) else some (0, (TH g, ki)) := by
  unfold fX3_readKind
  rw [c_canLay hk h4 ca hp hk4, ob_some]
  cases CP g ca p k with
  | false => rfl
  | true =>
    rw [if_pos rfl, if_neg one0, c_place ki hp, ob_some]
    rfl
theorem c_readKind_no (th ki : Int32) (ca : Nat → Int32) (x : Int32) {y : Int32} (h : fX4_isKind y = some 0) : fX3_readKind th ki ca x y = some (0, (th, ki)) := by
  unfold fX3_readKind fX1_canLay
  rw [h, ob_some, if_pos zz0, ob_some, if_pos zz0]
theorem CP_tl {g : Nat → Nat} {ca : Nat → Int32} {p k : Nat} (ht : tl g ca p = true) : CP g ca p k = !lss g ca p k := by
  unfold tl at ht
  rw [Bool.and_eq_true] at ht
  unfold CP lss lf
  rw [ht.1, Bool.true_and]
theorem tl_rmf {g : Nat → Nat} {ca : Nat → Int32} {p : Nat} (ht : tl g ca p = true) : rmf g p = true := by
  unfold tl at ht
  rw [Bool.and_eq_true] at ht
  exact ht.1
theorem kindOr2 (x : Int32) : (∃ k, k < 4 ∧ x = nI k ∧ (0 ≤ x ∧ x ≤ 3)) ∨ (fX4_isKind x = some 0 ∧ ¬ (0 ≤ x ∧ x ≤ 3)) := by
  rcases rngOr x 4 (by decide) with ⟨k, hk, rfl⟩ | h | ⟨h0, h⟩
  · exact Or.inl ⟨k, hk, rfl, nI_pos' (by omega), nI_le (b := 3) (by omega) (by decide)⟩
  · refine Or.inr ⟨by unfold fX4_isKind; rw [if_pos h], ?_⟩
    rintro ⟨q, -⟩
    rw [fa_le] at q
    rw [fa_lt] at h
    omega
  · refine Or.inr ⟨by unfold fX4_isKind; rw [if_neg h0, if_pos (show (4 : Int32) ≤ x from h)], ?_⟩
    rintro ⟨-, q⟩
    have h2 := lt_of_le (n := 3) (by decide) h
    rw [fa_le] at q
    rw [fa_lt] at h2
    have e : (nI 3).toInt = (3 : Int32).toInt := rfl
    omega
def Rres (r : Int32) (th2 ki2 : Int32) (ca2 rc rp2 : Nat → Int32) : Prop := (r = -9 ∧ ∃ g2, QR g2 th2 ki2 ca2 rc rp2) ∨ ∃ f, f ≤ 56 ∧ r = nI f
theorem text_B {ln : Nat} (hl : ln ≤ 56) {le t : Nat → Int32} (ht : ∀ j, j < 56 → le j = t j) (fe v1 : Int32) (m : Nat) :
    ∀ (j n : Nat) (g : Nat → Nat) (th ki : Int32) (ca rc rp : Nat → Int32), 5 ≤ j → (j - 5) % 3 = 0 → j ≤ ln → ln < j + m → ln < j + n → QR g th ki ca rc rp → ∃ r th2 ki2 ca2 pl2 rp2, fX3_readInto_L6 (nI ln) le fe n (nI j) th ki ca = some (r, (th2, ki2, fe, ca2)) ∧ fX5_readHouse_L63 v1 (nI ln) t rc m (nI j) rp = some (r, (pl2, rc, rp2)) ∧ Rres r th2 ki2 ca2 rc rp2 := by
  induction m with
  | zero => intro j n g th ki ca rc rp _ _ h1 h2; omega
  | succ m ih =>
    intro j n g th ki ca rc rp h5 hj3 h1 h2 h3 hQ
    obtain ⟨n1, rfl⟩ : ∃ n1, n = n1 + 1 := ⟨n - 1, by omega⟩
    rcases Nat.lt_or_ge j ln with hjl | hjl
    rotate_left
    · have e : j = ln := by omega
      subst e
      refine ⟨-9, th, ki, ca, nI j, rp, ?_, ?_, Or.inl ⟨rfl, g, hQ⟩⟩
      · rw [r_end hl, if_neg (by omega), if_pos hj3]
      · rw [fX5_readHouse_L63, if_pos (nI_le (Nat.le_refl _) (by omega))]
    have hQ0 := hQ
    obtain ⟨rfl, hk, h4, hS, hM, hC⟩ := hQ
    have hlt : ¬ nI ln ≤ nI j := nI_ge hjl (by omega)
    have e1 : nI j + 1 = nI (j + 1) := nI_1 j
    have fl : ∀ (f : Nat) (th2 ki2 : Int32) (ca2 rp2 : Nat → Int32), f ≤ 56 → Rres (nI f) th2 ki2 ca2 rc rp2 := fun f _ _ _ _ hf => Or.inr ⟨f, hf, rfl⟩
    rw [r_step hl hjl, rl_0 h5 (by omega) hj3, ht j (by omega), fX5_readHouse_L63, if_neg hlt]
    unfold fX5_readPiece
    rw [gdn (show j < 56 by omega) (by decide), clN (by omega), e1]
    by_cases c0 : t j = 80
    rotate_left
    · rw [if_neg c0, ob_some, if_neg c0, ob_some]
      exact ⟨nI j, TH g, ki, ca, nI j, rp, by rw [if_pos zz0], by rw [if_pos zz0], fl j _ _ _ _ (by omega)⟩
    rw [if_pos c0, if_pos c0, c_canAny hk h4, ob_some, m_couldAny hM h4, ob_some, ← any_congr hC]
    cases hany : anyT g ca 0 16 with
    | false =>
      rw [if_pos (show bI false = 0 from rfl), ob_some, if_pos (show bI false = 0 from rfl), ob_some]
      exact ⟨nI j, TH g, ki, ca, nI j, rp, by rw [if_pos zz0], by rw [if_pos zz0], fl j _ _ _ _ (by omega)⟩
    | true =>
      have hb : ¬ bI true = 0 := by decide
      rw [if_neg hb, ob_some, if_neg one0, if_neg hb, nm_eq]
      obtain ⟨n2, rfl⟩ : ∃ n2, n1 = n2 + 1 := ⟨n1 - 1, by omega⟩
      rcases Nat.lt_or_ge (j + 1) ln with hj1 | hj1
      rotate_left
      · have e : j + 1 = ln := by omega
        have hnp : fX5_noPiece (-9) = some 1 := by decide +kernel
        rw [e, if_pos (nI_le (Nat.le_refl _) (by omega)), hnp, ob_some, if_neg one0, ob_some]
        refine ⟨nI ln, TH g, ki, ca, nI ln, rp, ?_, by rw [if_pos zz0], fl ln _ _ _ _ hl⟩
        show fX3_readInto_L6 (nI ln) le fe (n2 + 1) (nI ln) (TH g) ki ca = _
        rw [r_end hl, if_neg (by omega), if_neg (by omega)]
      have hlt1 : ¬ nI ln ≤ nI (j + 1) := nI_ge hj1 (by omega)
      have e2 : nI (j + 1) + 1 = nI (j + 1 + 1) := nI_1 (j + 1)
      rw [if_neg hlt1, gdn (show j + 1 < 56 by omega) (by decide), nm_eq, clN (by omega), e2]
      have hcl : ∀ (P : Option (Int32 × Int32 × Int32 × Int32 × (Nat → Int32)) → Prop), P (fX3_readInto_L6 (nI ln) le fe (n2 + 1) (nI (j + 1)) (TH g) ki ca) → P (fX3_readInto_L6 (nI ln) le fe (n2 + 1) (nI (j + 1)) (1, (TH g, ki, ca)).2.1 (1, (TH g, ki, ca)).2.2.1 (1, (TH g, ki, ca)).2.2.2) := fun P h => h
      have cls : fX3_readInto_L6 (nI ln) le fe (n2 + 1) (nI (j + 1)) (TH g) ki ca = ob (fX3_canBeTold (TH g) (t (j + 1) - 97) (MX g ca)) (fun r10 => ob (gz r10 (some (r10, (TH g, ki, ca)))) (fun r14 => (if r14.1 = 0 then some (nI (j + 1), (r14.2.1, r14.2.2.1, fe, r14.2.2.2)) else fX3_readInto_L6 (nI ln) le fe n2 (nI (j + 1 + 1)) r14.2.1 r14.2.2.1 r14.2.2.2))) := by
        rw [r_step hl hj1, rl_1 (by omega) (by omega) (by omega), ht (j + 1) (by omega), c_most hk h4, ob_some]
        cases fX3_canBeTold (TH g) (t (j + 1) - 97) (MX g ca) <;> rfl
      rcases pieceOr (t (j + 1) - 97) with ⟨p, hp, ep⟩ | ⟨d1, d2, -⟩
      rotate_left
      · rw [d2, ob_some, if_neg one0, ob_some]
        refine ⟨nI (j + 1), TH g, ki, ca, nI (j + 1), rp, ?_, by rw [if_pos zz0], fl (j + 1) _ _ _ _ (by omega)⟩
        refine cls.trans ?_
        rw [c_canTell_no (TH g) d1, ob_some, gz_in (Or.inl rfl), ob_some, if_pos zz0]
      rw [ep] at cls
      rw [ep, m_noPiece p hp, ob_some, if_pos zz0, m_couldCome hM h4 hp, ob_some, ← tl_congr hC p]
      rw [c_canTell g ca hp, ob_some] at cls
      cases htl : tl g ca p with
      | false =>
        rw [if_pos (show bI false = 0 from rfl), ob_some]
        refine ⟨nI (j + 1), TH g, ki, ca, nI (j + 1), rp, ?_, by rw [if_pos zz0], fl (j + 1) _ _ _ _ (by omega)⟩
        refine cls.trans ?_
        rw [htl, gz_in (v := bI false) (Or.inl rfl), ob_some]
        rfl
      | true =>
        rw [if_neg hb, nm_eq]
        rw [htl, gz_in (v := bI true) (Or.inr rfl), ob_some] at cls
        have cls2 : fX3_readInto_L6 (nI ln) le fe (n2 + 1) (nI (j + 1)) (TH g) ki ca = fX3_readInto_L6 (nI ln) le fe n2 (nI (j + 1 + 1)) (TH g) ki ca := cls.trans (if_neg hb)
        obtain ⟨n3, rfl⟩ : ∃ n3, n2 = n3 + 1 := ⟨n2 - 1, by omega⟩
        rcases Nat.lt_or_ge (j + 1 + 1) ln with hj2 | hj2
        rotate_left
        · have e : j + 1 + 1 = ln := by omega
          rw [e] at cls2
          rw [e, m_figure_end, ob_some, if_pos rfl, ob_some]
          refine ⟨nI ln, TH g, ki, ca, nI ln, rp, ?_, by rw [if_pos zz0], fl ln _ _ _ _ hl⟩
          refine cls2.trans ?_
          rw [r_end hl, if_neg (by omega), if_neg (by omega)]
        have cls3 : fX3_readInto_L6 (nI ln) le fe (n3 + 1) (nI (j + 1 + 1)) (TH g) ki ca = ob (fX3_readKind (TH g) ki ca (nI p) (t (j + 1 + 1) - 48)) (fun r13 => ob (gz r13.1 (some (r13.1, (r13.2.1, r13.2.2, ca)))) (fun r14 => (if r14.1 = 0 then some (nI (j + 1 + 1), (r14.2.1, r14.2.2.1, fe, r14.2.2.2)) else fX3_readInto_L6 (nI ln) le fe n3 (nI (j + 1 + 1 + 1)) r14.2.1 r14.2.2.1 r14.2.2.2))) := by
          rw [r_step hl hj2, rl_2 (by omega) (by omega) (by omega), ht (j + 1 + 1) (by omega), show j + 1 + 1 - 1 = j + 1 by omega, ht (j + 1) (by omega), ep]
          cases fX3_readKind (TH g) ki ca (nI p) (t (j + 1 + 1) - 48) <;> rfl
        rw [m_figure hj2 hl]
        rcases kindOr2 (t (j + 1 + 1) - 48) with ⟨k, hk4, ek, hin⟩ | ⟨d1, hin⟩
        rotate_left
        · rw [if_neg hin, ob_some, if_pos rfl, ob_some]
          refine ⟨nI (j + 1 + 1), TH g, ki, ca, nI (j + 1 + 1), rp, ?_, by rw [if_pos zz0], fl (j + 1 + 1) _ _ _ _ (by omega)⟩
          refine cls2.trans (cls3.trans ?_)
          rw [c_readKind_no _ _ _ _ d1, ob_some, gz_in (Or.inl rfl), ob_some]
          rfl
        have hne : ¬ nI k = -9 := (by decide +kernel : ∀ k, k < 4 → ¬ nI k = -9) k hk4
        have e3 : nI (j + 1 + 1 + 1) - 1 = nI (j + 1 + 1) := nI_pred _
        have ek1 : nI k + 1 = nI (k + 1) := nI_1 k
        rw [if_pos hin, ob_some, ek, if_neg hne, m_enough hM.1 h4 hp hk4, ob_some, ← lss_congr hC p hk4]
        rw [ek, c_readKind hk h4 ca hp hk4, CP_tl htl] at cls3
        simp only [nm_eq, e3, ek1, gdn (show p < 17 by omega) (show (17 : Nat) < 2 ^ 31 by decide), clN (show p < 2 ^ 31 by omega)]
        cases hls : lss g ca p k with
        | true =>
          rw [if_pos (show bI (!true) = 0 from rfl), ob_some]
          refine ⟨nI (j + 1 + 1), TH g, ki, ca, nI (j + 1 + 1), rp, ?_, by rw [if_pos zz0], fl (j + 1 + 1) _ _ _ _ (by omega)⟩
          refine cls2.trans (cls3.trans ?_)
          rw [hls, if_neg (by decide), ob_some, gz_in (Or.inl rfl), ob_some]
          rfl
        | false =>
          rw [if_neg (show ¬ bI (!false) = 0 by decide), ob_some]
          have cls4 : fX3_readInto_L6 (nI ln) le fe (n3 + 1) (nI (j + 1 + 1)) (TH g) ki ca = fX3_readInto_L6 (nI ln) le fe n3 (nI (j + 1 + 1 + 1)) (TH (pt g p k)) (kip ki p k) ca := by
            rw [hls] at cls3
            rw [cls3, if_pos (show (!false) = true from rfl), ob_some]
            show ob (gz 1 (some (1, (TH (pt g p k), kip ki p k, ca)))) _ = _
            rw [gz_in (Or.inr rfl), ob_some]
            exact if_neg one0
          have m1 : MR (pt g p k) 0 (upd rp p (nI (k + 1))) := by
            refine ⟨fun q hq => ?_, ?_⟩
            · unfold pt
              by_cases e : q = p
              · subst e
                rw [pk_us, if_pos rfl]
              · rw [pk_un e, if_neg e]
                exact hM.1 q hq
            · rw [pk_un (by omega)]
              exact hM.2
          obtain ⟨r, th2, ki2, ca2, pl2, rp2, i1, i2, i3⟩ := ih (j + 1 + 1 + 1) n3 (pt g p k) (TH (pt g p k)) (kip ki p k) ca rc (upd rp p (nI (k + 1))) (by omega) (by omega) (by omega) (by omega) (by omega) ⟨rfl, KI_pt hk hp hk4, PG_pt h4 hk4, Sup_pt hS hp (tl_rmf htl), m1, hC⟩
          refine ⟨r, th2, ki2, ca2, pl2, rp2, ?_, ?_, i3⟩
          · exact cls2.trans (cls4.trans i1)
          · rw [if_neg one0]
            exact i2
