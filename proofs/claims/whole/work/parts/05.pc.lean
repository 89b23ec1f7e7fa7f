/-! the calls that change the house by one act; the slots; the seed -/
theorem o_put {g : Nat → Nat} {th ki fe : Int32} {page : Nat → Int32} (hP : RPg g th ki fe page) {ca mc : Nat → Int32} (hC : RCa ca mc) {h_ac m_acts c_sz : Int32} {c_st c_sk c_sf m_book : Nat → Int32} (hA : RA h_ac m_acts c_sz c_st c_sk c_sf m_book) (L M : Nat → Int32) (thrown a1 a2 : Int32) :
    ∃ r g2 ac2 th2 ki2 fe2 L2 st2 sk2 sf2 mac2 pg2 M2 bk2, fX4_put h_ac th ki fe ca L c_sz c_st c_sk c_sf a1 a2 = some (r, (ac2, th2, ki2, fe2, L2, st2, sk2, sf2)) ∧ fX5_put thrown m_acts mc page M m_book a1 a2 = some (r, (0, mac2, pg2, M2, bk2)) ∧ RPg g2 th2 ki2 fe2 pg2 ∧ RA ac2 mac2 c_sz st2 sk2 sf2 bk2 := by
  have hP0 := hP
  obtain ⟨hO, ⟨rfl, hk⟩, hM⟩ := hP
  rcases pieceOr a1 with ⟨p, hp, rfl⟩ | ⟨c1, c2, -⟩
  · rcases kindOr a2 with ⟨k, hk4, rfl⟩ | ⟨c1, c2⟩
    · have hpp := page_pos hM hO.1 hp
      by_cases e : g p = 0
      · cases hcp : CP g ca p k with
        | false =>
          refine ⟨-3, g, h_ac, TH g, ki, fe, L, c_st, c_sk, c_sf, m_acts, page, M, m_book, ?_, ?_, hP0, hA⟩
          · unfold fX4_put
            rw [c_isPiece p hp, ob_some, if_neg (by decide), c_isKind k hk4, ob_some, if_neg (by decide), c_has g hp, ob_some, if_pos e, if_pos rfl, c_canLay hk hO.1 ca hp hk4, hcp]
            rfl
          · unfold fX5_put
            rw [m_noPiece p hp, ob_some, if_pos rfl, m_noKind k hk4, ob_some, if_pos rfl, gdn (by omega) (by decide), clN (by omega), if_pos (hpp.1.mpr e), m_canPut hM.1 hO.1 mc hp hk4, ← CP_congr hC p hk4, hcp]
            rfl
        | true =>
          obtain ⟨ac2, st2, sk2, sf2, bk2, r1, r2, hA2⟩ := a_record hA hP0
          obtain ⟨L2, e3⟩ := c_lay hk hO.1 fe L hp hk4
          obtain ⟨h2, M2, e2, m2⟩ := m_goPut hM hO.1 M hp hk4
          have hr : rmf g p = true := by
            unfold CP at hcp
            rw [Bool.and_eq_true] at hcp
            exact hcp.1
          refine ⟨nI (ST 16 (pt g p k) 0).2, (ST 16 (pt g p k) 0).1, ac2, TH (ST 16 (pt g p k) 0).1, kip ki p k, fe + nI (ST 16 (pt g p k) 0).2, L2, st2, sk2, sf2, ac2, h2, M2, bk2, ?_, ?_, ⟨OK_ST (PG_pt hO.1 hk4) (Sup_pt hO.2.1 hp hr), ⟨rfl, KI_sub (KI_pt hk hp hk4) (ST_sub _ _ _)⟩, m2⟩, hA2⟩
          · unfold fX4_put
            rw [c_isPiece p hp, ob_some, if_neg (by decide), c_isKind k hk4, ob_some, if_neg (by decide), c_has g hp, ob_some, if_pos e, if_pos rfl, c_canLay hk hO.1 ca hp hk4, hcp, ob_some, if_pos rfl, if_neg (by decide), r1, ob_some, e3, ob_some]
          · unfold fX5_put
            rw [m_noPiece p hp, ob_some, if_pos rfl, m_noKind k hk4, ob_some, if_pos rfl, gdn (by omega) (by decide), clN (by omega), if_pos (hpp.1.mpr e), m_canPut hM.1 hO.1 mc hp hk4, ← CP_congr hC p hk4, hcp, ob_some, if_pos rfl, if_neg (by decide), r2, ob_some, e2, ob_some]
      · refine ⟨-4, g, h_ac, TH g, ki, fe, L, c_st, c_sk, c_sf, m_acts, page, M, m_book, ?_, ?_, hP0, hA⟩
        · unfold fX4_put
          rw [c_isPiece p hp, ob_some, if_neg (by decide), c_isKind k hk4, ob_some, if_neg (by decide), c_has g hp, ob_some, if_neg e, if_neg (by decide)]
        · unfold fX5_put
          rw [m_noPiece p hp, ob_some, if_pos rfl, m_noKind k hk4, ob_some, if_pos rfl, gdn (by omega) (by decide), clN (by omega), if_neg (fun z => e (hpp.1.mp z))]
    · refine ⟨-1, g, h_ac, TH g, ki, fe, L, c_st, c_sk, c_sf, m_acts, page, M, m_book, ?_, ?_, hP0, hA⟩
      · unfold fX4_put
        rw [c_isPiece p hp, ob_some, if_neg (by decide), c1, ob_some, if_pos rfl]
      · unfold fX5_put
        rw [m_noPiece p hp, ob_some, if_pos rfl, c2, ob_some, if_neg (by decide)]
  · refine ⟨-1, g, h_ac, TH g, ki, fe, L, c_st, c_sk, c_sf, m_acts, page, M, m_book, ?_, ?_, hP0, hA⟩
    · unfold fX4_put
      rw [c1, ob_some, if_pos rfl]
    · unfold fX5_put
      rw [c2, ob_some, if_neg (by decide)]
theorem o_take {g : Nat → Nat} {th ki fe : Int32} {page : Nat → Int32} (hP : RPg g th ki fe page) {h_ac m_acts c_sz : Int32} {c_st c_sk c_sf m_book : Nat → Int32} (hA : RA h_ac m_acts c_sz c_st c_sk c_sf m_book) (thrown a1 : Int32) :
    ∃ r g2 ac2 th2 st2 sk2 sf2 mac2 pg2 bk2, fX4_take h_ac th ki fe c_sz c_st c_sk c_sf a1 = some (r, (ac2, th2, st2, sk2, sf2)) ∧ fX5_take thrown m_acts page m_book a1 = some (r, (0, mac2, pg2, bk2)) ∧ RPg g2 th2 ki fe pg2 ∧ RA ac2 mac2 c_sz st2 sk2 sf2 bk2 := by
  have hP0 := hP
  obtain ⟨hO, ⟨rfl, hk⟩, hM⟩ := hP
  rcases pieceOr a1 with ⟨p, hp, rfl⟩ | ⟨c1, c2, -⟩
  · have hpp := page_pos hM hO.1 hp
    cases ht : tp g p with
    | false =>
      refine ⟨-3, g, h_ac, TH g, c_st, c_sk, c_sf, m_acts, page, m_book, ?_, ?_, hP0, hA⟩
      · unfold fX4_take
        rw [c_isPiece p hp, ob_some, if_neg (by decide), c_canLift g hp, ht]
        rfl
      · unfold fX5_take
        rw [m_noPiece p hp, ob_some, if_pos rfl, gdn (by omega) (by decide), clN (by omega)]
        by_cases c : g p = 0
        · rw [if_pos (hpp.2.1.mpr c)]
        · rw [if_neg (fun z => c (hpp.2.1.mp z)), m_isTop hM.1 hO.1, ob_some]
          unfold tp at ht
          have c2 : ¬ GN g (b1 p) = b1 p := by
            intro z
            simp [c, z] at ht
          rw [if_neg c2, if_pos rfl]
    | true =>
      have ht2 := ht
      unfold tp at ht2
      rw [Bool.and_eq_true] at ht2
      have c := of_decide_eq_true ht2.1
      have c2 := of_decide_eq_true ht2.2
      obtain ⟨ac2, st2, sk2, sf2, bk2, r1, r2, hA2⟩ := a_record hA hP0
      refine ⟨nI (ndp p), rmv g (b1 p), ac2, TH (rmv g (b1 p)), st2, sk2, sf2, ac2, upd page p 0, bk2, ?_, ?_, ⟨OK_lift hO ht, ⟨rfl, KI_sub hk (sub_rmv _ _)⟩, MR_lift hM hp⟩, hA2⟩
      · unfold fX4_take
        rw [c_isPiece p hp, ob_some, if_neg (by decide), c_canLift g hp, ht, ob_some, if_pos rfl, if_neg (by decide), r1, ob_some, c_lift, ob_some, c_cardsOf p hp, ob_some]
      · unfold fX5_take
        rw [m_noPiece p hp, ob_some, if_pos rfl, gdn (by omega) (by decide), clN (by omega), if_neg (fun z => c (hpp.2.1.mp z)), m_isTop hM.1 hO.1, ob_some, if_pos c2, if_neg (by decide), r2, ob_some, gdn (by omega) (by decide), m_need p hp, ob_some]
  · refine ⟨-1, g, h_ac, TH g, c_st, c_sk, c_sf, m_acts, page, m_book, ?_, ?_, hP0, hA⟩
    · unfold fX4_take
      rw [c1, ob_some, if_pos rfl]
    · unfold fX5_take
      rw [c2, ob_some, if_neg (by decide)]
theorem o_draught {g : Nat → Nat} {th ki fe : Int32} {page : Nat → Int32} (hP : RPg g th ki fe page) {h_ac m_acts c_sz : Int32} {c_st c_sk c_sf m_book : Nat → Int32} (hA : RA h_ac m_acts c_sz c_st c_sk c_sf m_book) (L M : Nat → Int32) (thrown a1 a2 : Int32) :
    ∃ r g2 ac2 th2 fe2 L2 st2 sk2 sf2 mac2 pg2 M2 bk2, fX4_draught h_ac th ki fe L c_sz c_st c_sk c_sf a1 a2 = some (r, (ac2, th2, fe2, L2, st2, sk2, sf2)) ∧ fX5_draught thrown m_acts page M m_book a1 a2 = some (r, (0, mac2, pg2, M2, bk2)) ∧ RPg g2 th2 ki fe2 pg2 ∧ RA ac2 mac2 c_sz st2 sk2 sf2 bk2 := by
  have hP0 := hP
  obtain ⟨hO, ⟨rfl, hk⟩, hM⟩ := hP
  rcases levelOr a1 with ⟨lv, hl, rfl, e1⟩ | ⟨e1, e2⟩
  · rcases forceOr a2 with ⟨f1, f2⟩ | ⟨f1, f2⟩
    · obtain ⟨ac2, st2, sk2, sf2, bk2, r1, r2, hA2⟩ := a_record hA hP0
      obtain ⟨L2, e3⟩ := c_blow hk hO.1 fe a2 L hl
      obtain ⟨h2, M2, e4, m4⟩ := m_draught hM hO.1 hO.2.2 a2 M hl
      refine ⟨nI (cnt (GN g (FS g lv a2))), rmv g (GN g (FS g lv a2)), ac2, TH (rmv g (GN g (FS g lv a2))), fe + nI (cnt (GN g (FS g lv a2))), L2, st2, sk2, sf2, ac2, h2, M2, bk2, ?_, ?_, ⟨OK_rm hO (FS g lv a2), ⟨rfl, KI_sub hk (sub_rmv _ _)⟩, m4⟩, hA2⟩
      · unfold fX4_draught
        rw [c_isLevel lv hl, ob_some, if_neg (by decide), f1, ob_some, if_neg (by decide), r1, ob_some, e3, ob_some]
      · unfold fX5_draught
        rw [e1, ob_some, if_neg (by decide), f2, ob_some, if_neg (by decide), r2, ob_some, e4, ob_some]
    · refine ⟨-2, g, h_ac, TH g, fe, L, c_st, c_sk, c_sf, m_acts, page, M, m_book, ?_, ?_, hP0, hA⟩
      · unfold fX4_draught
        rw [c_isLevel lv hl, ob_some, if_neg (by decide), f1, ob_some, if_pos rfl]
      · unfold fX5_draught
        rw [e1, ob_some, if_neg (by decide), f2, ob_some, if_pos rfl]
  · refine ⟨-1, g, h_ac, TH g, fe, L, c_st, c_sk, c_sf, m_acts, page, M, m_book, ?_, ?_, hP0, hA⟩
    · unfold fX4_draught
      rw [e1, ob_some, if_pos rfl]
    · unfold fX5_draught
      rw [e2, ob_some, if_pos rfl]
/-- the slots -/
theorem slotOr (x : Int32) : (∃ k, k < 2 ∧ x = nI k ∧ fX4_isSlot x = some 1 ∧ fX5_in x.toInt64 0 1 = some 1) ∨ (fX4_isSlot x = some 0 ∧ fX5_in x.toInt64 0 1 = some 0) := by
  rcases rngOr x 2 (by decide) with ⟨k, hk, rfl⟩ | h | ⟨h0, h⟩
  · exact Or.inl ⟨k, hk, rfl, (by decide +kernel : ∀ k, k < 2 → fX4_isSlot (nI k) = some 1) k hk, (by decide +kernel : ∀ k, k < 2 → fX5_in (nI k).toInt64 0 1 = some 1) k hk⟩
  · exact Or.inr ⟨by unfold fX4_isSlot; rw [if_pos h], in_no (a := 0) (b := 1) (Or.inl h)⟩
  · exact Or.inr ⟨by unfold fX4_isSlot; rw [if_neg h0, if_pos (show (2 : Int32) ≤ x from h)], in_no (a := 0) (b := 1) (Or.inr (lt_of_le (n := 1) (by decide) h))⟩
theorem c_size (g : Nat → Nat) : fX1_size (TH g) = some (nI (cnt (TH g))) := by
  unfold fX1_size
  rw [f_bitCount (lo_TH g), ob_some]
theorem m_keep_L26 (thrown : Int32) {j : Nat} (hj : j < 2) {g : Nat → Nat} {fe : Int32} {page : Nat → Int32} (hM : MR g fe page) (h4 : PG g) (isK kept : Nat → Int32) : fX5_keep_L26 (nI j) thrown page isK FU 0 kept = some (nI (cnt (TH g)), (thrown, up (fun i L => upd L (17 * j + i) (page i)) 0 17 kept, isK)) := by
  have h1 := loop_up0 (f := fun n i a => fX5_keep_L26 (nI j) thrown page isK n (nI i) a) (N := 17) (st := fun i L => upd L (17 * j + i) (page i)) (ex := fun a => some (nI (cnt (TH g)), (thrown, a, isK))) (by
    intro n a
    show fX5_keep_L26 (nI j) thrown page isK (n + 1) (nI 17) a = _
    rw [fX5_keep_L26, if_pos y17, f_there hM.1 h4, ob_some, f_many, ob_some]) (by
    intro n i a hi
    show fX5_keep_L26 (nI j) thrown page isK (n + 1) (nI i) a = fX5_keep_L26 (nI j) thrown page isK n (nI (i + 1)) _
    have e1 : (17 : Int32) * nI j + nI i = nI (17 * j + i) := by
      show nI 17 * nI j + nI i = _
      rw [pk_mul, nI_add]
    rw [fX5_keep_L26, if_neg (n17 hi), e1]
    simp only [gdn hi (show (17 : Nat) < 2 ^ 31 by decide), gdn (show 17 * j + i < 34 by omega) (show (34 : Nat) < 2 ^ 31 by decide), clN (show i < 2 ^ 31 by omega), clN (show 17 * j + i < 2 ^ 31 by omega), nm_eq, nI_1]) FU kept (FU_gt (by omega))
  exact h1
theorem nar1 : vp_nar .boolean 1 = 1 := by decide +kernel
theorem nar0 : vp_nar .boolean 0 = 0 := by decide +kernel
theorem o_keep {g : Nat → Nat} {th ki fe : Int32} {page : Nat → Int32} (hP : RPg g th ki fe page) {h_ks s_sz : Int32} {s_st s_sk s_sf m_kept m_isKept : Nat → Int32} (hS : RS h_ks s_sz s_st s_sk s_sf m_kept m_isKept) (thrown a1 : Int32) :
    ∃ r ks2 st2 sk2 sf2 kp2 ik2, fX4_keep h_ks th ki fe s_sz s_st s_sk s_sf a1 = some (r, (ks2, st2, sk2, sf2)) ∧ fX5_keep thrown page m_kept m_isKept a1 = some (r, (0, kp2, ik2)) ∧ RS ks2 s_sz st2 sk2 sf2 kp2 ik2 := by
  have hP0 := hP
  obtain ⟨hO, ⟨rfl, hk⟩, hM⟩ := hP
  rcases slotOr a1 with ⟨j, hj, rfl, e1, e2⟩ | ⟨e1, e2⟩
  · obtain ⟨rfl, hs⟩ := hS
    refine ⟨nI (cnt (TH g)), h_ks ||| b1 j, upd s_st j (TH g), upd s_sk j ki, upd s_sf j fe, up (fun i L => upd L (17 * j + i) (page i)) 0 17 m_kept, upd m_isKept j 1, ?_, ?_, rfl, ?_⟩
    · unfold fX4_keep
      rw [e1, ob_some, if_neg (by decide), c_store (N := 2) (sz := 2) rfl (by decide) _ _ _ _ _ _ hj, ob_some]
      simp only [nm_eq]
      rw [c_size, ob_some]
      rfl
    · unfold fX5_keep
      rw [e2, ob_some, if_neg (by decide), gdn hj (by decide), clN (by omega), nar1, m_keep_L26 0 hj hM hO.1]
    · intro i hi
      by_cases e : i = j
      · subst e
        refine Or.inl ⟨?_, pk_us, g, ?_⟩
        · rw [b_or, bt_b1 (by omega) (by omega)]
          simp
        · rw [pk_us, pk_us, pk_us]
          exact RPg_congr hP0 (fun k hk => by
            show up (fun i2 L => upd L (17 * i + i2) (page i2)) 0 17 m_kept (17 * i + k) = page k
            rw [up_copy, if_pos (by omega), show 17 * i + k - 17 * i = k by omega])
      · have eb : bt (h_ks ||| b1 j) i = bt h_ks i := by
          rw [b_or, bt_b1 (by omega) (by omega)]
          simp [e]
        rw [eb, pk_un e, pk_un e, pk_un e, pk_un e]
        rcases hs i hi with ⟨q1, q2, g2, q3⟩ | q
        · exact Or.inl ⟨q1, q2, g2, RPg_congr q3 (fun k hk => by
            show up (fun i2 L => upd L (17 * j + i2) (page i2)) 0 17 m_kept (17 * i + k) = m_kept (17 * i + k)
            rw [up_copy, if_neg (by omega)])⟩
        · exact Or.inr q
  · refine ⟨-1, h_ks, s_st, s_sk, s_sf, m_kept, m_isKept, ?_, ?_, hS⟩
    · unfold fX4_keep
      rw [e1, ob_some, if_pos rfl]
    · unfold fX5_keep
      rw [e2, ob_some, if_pos rfl]
theorem m_again_L31 (thrown acts : Int32) {j : Nat} (hj : j < 2) {g : Nat → Nat} {fe : Int32} {kept : Nat → Int32} (hM : MR g fe (fun k => kept (17 * j + k))) (h4 : PG g) (isK page : Nat → Int32) : fX5_again_L31 (nI j) thrown acts kept isK FU 0 page = some (nI (cnt (TH g)), (thrown, 0, up (fun i L => upd L (0 + i) (kept (17 * j + i))) 0 17 page)) := by
  have hM2 : MR g fe (up (fun i L => upd L (0 + i) (kept (17 * j + i))) 0 17 page) := by
    refine ⟨fun p hp => ?_, ?_⟩
    · rw [up_copy 0 17 (fun i => kept (17 * j + i)), if_pos (by omega), Nat.sub_zero]
      exact hM.1 p hp
    · rw [up_copy 0 17 (fun i => kept (17 * j + i)), if_pos (by omega), Nat.sub_zero]
      exact hM.2
  have h1 := loop_up0 (f := fun n i a => fX5_again_L31 (nI j) thrown acts kept isK n (nI i) a) (N := 17) (st := fun i L => upd L (0 + i) (kept (17 * j + i))) (ex := fun a => ob (fX5_there a) (fun r2 => ob (fX5_many r2) (fun r3 => some (r3, (thrown, 0, a))))) (by
    intro n a
    show fX5_again_L31 (nI j) thrown acts kept isK (n + 1) (nI 17) a = _
    rw [fX5_again_L31, if_pos y17]) (by
    intro n i a hi
    show fX5_again_L31 (nI j) thrown acts kept isK (n + 1) (nI i) a = fX5_again_L31 (nI j) thrown acts kept isK n (nI (i + 1)) _
    have e1 : (17 : Int32) * nI j + nI i = nI (17 * j + i) := by
      show nI 17 * nI j + nI i = _
      rw [pk_mul, nI_add]
    rw [fX5_again_L31, if_neg (n17 hi), e1]
    simp only [gdn hi (show (17 : Nat) < 2 ^ 31 by decide), gdn (show 17 * j + i < 34 by omega) (show (34 : Nat) < 2 ^ 31 by decide), clN (show i < 2 ^ 31 by omega), clN (show 17 * j + i < 2 ^ 31 by omega), nm_eq, nI_1, Nat.zero_add]) FU page (FU_gt (by omega))
  refine Eq.trans h1 ?_
  simp only [f_there hM2.1 h4, ob_some, f_many]
theorem o_again {g : Nat → Nat} {th ki fe : Int32} {page : Nat → Int32} (hP : RPg g th ki fe page) {h_ac m_acts c_sz : Int32} {c_st c_sk c_sf m_book : Nat → Int32} (hA : RA h_ac m_acts c_sz c_st c_sk c_sf m_book) {h_ks s_sz : Int32} {s_st s_sk s_sf m_kept m_isKept : Nat → Int32} (hS : RS h_ks s_sz s_st s_sk s_sf m_kept m_isKept) (thrown a1 : Int32) :
    ∃ r ac2 th2 ki2 fe2 mac2 pg2 g2, fX4_again h_ac h_ks th ki fe s_sz s_st s_sk s_sf a1 = some (r, (ac2, th2, ki2, fe2)) ∧ fX5_again thrown m_acts page m_kept m_isKept a1 = some (r, (0, mac2, pg2)) ∧ RA ac2 mac2 c_sz c_st c_sk c_sf m_book ∧ RPg g2 th2 ki2 fe2 pg2 := by
  have hP0 := hP
  obtain ⟨hO, ⟨rfl, hk⟩, hM⟩ := hP
  rcases slotOr a1 with ⟨j, hj, rfl, e1, e2⟩ | ⟨e1, e2⟩
  · obtain ⟨rfl, hs⟩ := hS
    rcases hs j hj with ⟨q1, q2, g2, q3⟩ | ⟨q1, q2⟩
    · obtain ⟨hO2, ⟨hth, hk2⟩, hM2⟩ := q3
      refine ⟨nI (cnt (TH g2)), 0, s_st j, s_sk j, s_sf j, 0, up (fun i L => upd L (0 + i) (m_kept (17 * j + i))) 0 17 page, g2, ?_, ?_, ?_, hO2, ⟨hth, hk2⟩, ?_⟩
      · unfold fX4_again
        rw [e1, ob_some, if_neg (by decide), sh1 _ (by omega), q1, if_pos rfl, if_neg (by decide), c_restore (N := 2) (sz := 2) rfl (by decide) _ _ _ _ _ _ hj, ob_some]
        show ob (fX1_size (s_st j)) _ = _
        rw [hth, c_size, ob_some]
      · unfold fX5_again
        rw [e2, ob_some, if_neg (by decide), gdn hj (by decide), clN (by omega), q2, if_neg (by decide), m_again_L31 0 m_acts hj hM2 hO2.1]
      · obtain ⟨ac, h1, h2, h3, h4, h5⟩ := hA
        exact ⟨0, by omega, rfl, rfl, h4, fun j h => absurd h (by omega)⟩
      · exact (RPg_congr ⟨hO2, ⟨hth, hk2⟩, hM2⟩ (fun k hk => by
          rw [up_copy 0 17 (fun i => m_kept (17 * j + i)), if_pos (by omega), Nat.sub_zero])).2.2
    · refine ⟨-3, h_ac, TH g, ki, fe, m_acts, page, g, ?_, ?_, hA, hP0⟩
      · unfold fX4_again
        rw [e1, ob_some, if_neg (by decide), sh1 _ (by omega), q1]
        rfl
      · unfold fX5_again
        rw [e2, ob_some, if_neg (by decide), gdn hj (by decide), clN (by omega), q2, if_pos rfl]
  · refine ⟨-1, h_ac, TH g, ki, fe, m_acts, page, g, ?_, ?_, hA, hP0⟩
    · unfold fX4_again
      rw [e1, ob_some, if_pos rfl]
    · unfold fX5_again
      rw [e2, ob_some, if_pos rfl]
