/-! the text's letters; what is asked of the house -/
def RT (x_ln m_ts : Int32) (x_le m_text : Nat → Int32) : Prop := ∃ ln, ln ≤ 56 ∧ x_ln = nI ln ∧ m_ts = nI ln ∧ ∀ j, j < 56 → x_le j = m_text j
theorem one0 : ¬ (1 : Int32) = 0 := by decide
theorem zz0 : (0 : Int32) = 0 := rfl
theorem o_write {x_ln m_ts : Int32} {x_le m_text : Nat → Int32} (hT : RT x_ln m_ts x_le m_text) (thrown a1 : Int32) :
    ∃ r ln2 le2 mt2 tx2, fX4_write x_ln x_le a1 = some (r, (ln2, le2)) ∧ fX5_write thrown m_ts m_text a1 = some (r, (0, mt2, tx2)) ∧ RT ln2 mt2 le2 tx2 := by
  have hT0 := hT
  obtain ⟨ln, hl, rfl, rfl, hj⟩ := hT
  unfold fX4_write fX5_write
  by_cases c : a1 < 0
  · refine ⟨-2, _, _, _, _, by rw [if_pos c], ?_, hT0⟩
    have e : fX5_in a1.toInt64 0 255 = some 0 := in_no (a := 0) (b := 255) (Or.inl c)
    rw [e, ob_some, if_pos zz0]
  · by_cases d : a1 ≤ 255
    · have e : fX5_in a1.toInt64 0 255 = some 1 := in_yes (a := 0) (b := 255) (fa_of_nlt c) d
      rw [if_neg c, if_pos d, e, ob_some, if_neg one0]
      rcases Nat.lt_or_ge ln 56 with h | h
      · refine ⟨nI (ln + 1), nI (ln + 1), upd x_le ln a1, nI (ln + 1), upd m_text ln a1, ?_, ?_, ln + 1, by omega, rfl, rfl, ?_⟩
        · unfold fX3_append
          have h1 : nI ln < 56 := nI_lt (b := 56) h (by decide)
          rw [if_pos h1, if_neg (nI_pos (by omega)), if_pos h1, gdn h (by decide), clN (by omega)]
          simp only [nm_eq]
          rw [show nI ln + 1 = nI (ln + 1) from nI_1 ln, ob_some]
        · rw [if_neg (fun z => by have := (nI_eq (a := ln) (b := 56) (by omega) (by decide)).mp z; omega), gdn h (by decide), clN (by omega)]
          simp only [nm_eq]
          rw [show nI ln + 1 = nI (ln + 1) from nI_1 ln]
        · intro j hj2
          by_cases e : j = ln
          · subst e
            rw [pk_us, pk_us]
          · rw [pk_un e, pk_un e]
            exact hj j hj2
      · have e56 : ln = 56 := by omega
        subst e56
        exact ⟨-4, _, _, _, _, by rw [if_neg (show ¬ nI 56 < 56 by decide)], by rw [if_pos (show nI 56 = 56 from rfl)], hT0⟩
    · refine ⟨-2, _, _, _, _, by rw [if_neg c, if_neg d], ?_, hT0⟩
      have e : fX5_in a1.toInt64 0 255 = some 0 := in_no (a := 0) (b := 255) (Or.inr (fa_of_nle d))
      rw [e, ob_some, if_pos zz0]
theorem o_deck {g : Nat → Nat} {th ki fe : Int32} {page : Nat → Int32} (hP : RPg g th ki fe page) {ca mc : Nat → Int32} (hC : RCa ca mc) (thrown a1 : Int32) :
    ∃ r, fX4_deck th ki ca a1 = some r ∧ fX5_deck thrown mc page a1 = some (r, 0) := by
  obtain ⟨hO, ⟨rfl, hk⟩, hM⟩ := hP
  unfold fX4_deck fX5_deck
  rcases kindOr a1 with ⟨k, hk4, rfl⟩ | ⟨c1, c2⟩
  · refine ⟨ca k - nI (usd g k), ?_, ?_⟩
    · rw [c_isKind k hk4, ob_some, if_neg (by decide), c_cardsLeft hk hO.1 ca hk4, ob_some]
    · rw [m_noKind k hk4, ob_some, if_pos rfl, m_left hM.1 hO.1 mc hk4, ob_some, hC k hk4]
  · exact ⟨-1, by rw [c1, ob_some, if_pos rfl], by rw [c2, ob_some, if_neg (by decide)]⟩
theorem c_inDeck {g : Nat → Nat} {ki : Int32} (hk : KI g ki) (h4 : PG g) (ca : Nat → Int32) : fX4_cardsInDeck (TH g) ki ca = some ((((ca 0 - nI (usd g 0)) + (ca 1 - nI (usd g 1))) + (ca 2 - nI (usd g 2))) + (ca 3 - nI (usd g 3))) := by
  unfold fX4_cardsInDeck
  have h1 := loop_up0 (f := fun n i a => fX4_cardsInDeck_L4 (TH g) ki ca n a (nI i)) (N := 4) (st := fun i a => a + (ca i - nI (usd g i))) (ex := fun a => some a) (by
    intro n a
    show fX4_cardsInDeck_L4 (TH g) ki ca (n + 1) a (nI 4) = _
    rw [fX4_cardsInDeck_L4, if_pos y4]) (by
    intro n i a hi
    show fX4_cardsInDeck_L4 (TH g) ki ca (n + 1) a (nI i) = fX4_cardsInDeck_L4 (TH g) ki ca n _ (nI (i + 1))
    rw [fX4_cardsInDeck_L4, if_neg (n4 hi), c_cardsLeft hk h4 ca hi, ob_some]
    simp only [nm_eq, nI_1]) FU 0 (FU_gt (by omega))
  refine Eq.trans h1 ?_
  simp only [up]
  rw [Int32.zero_add]
theorem m_deckAll {g : Nat → Nat} {page : Nat → Int32} (hg : ∀ p, p < 16 → page p = nI (g p)) (h4 : PG g) (ca : Nat → Int32) : fX5_deckAll ca page = some ((((ca 0 - nI (usd g 0)) + (ca 1 - nI (usd g 1))) + (ca 2 - nI (usd g 2))) + (ca 3 - nI (usd g 3))) := by
  unfold fX5_deckAll
  have e0 : fX5_left page ca 0 = some (ca 0 - nI (usd g 0)) := m_left hg h4 ca (k := 0) (by decide)
  have e1 : fX5_left page ca 1 = some (ca 1 - nI (usd g 1)) := m_left hg h4 ca (k := 1) (by decide)
  have e2 : fX5_left page ca 2 = some (ca 2 - nI (usd g 2)) := m_left hg h4 ca (k := 2) (by decide)
  have e3 : fX5_left page ca 3 = some (ca 3 - nI (usd g 3)) := m_left hg h4 ca (k := 3) (by decide)
  rw [e0, ob_some, e1, ob_some, e2, ob_some, e3, ob_some]
def HLs (g : Nat → Nat) (i : Nat) (a : Int32) : Int32 := if g i = 0 then a else nI (lvN i)
theorem s_LV : ∀ p, p < 16 → sLV p = nI (lvN p) := by decide +kernel
theorem c_highest (g : Nat → Nat) : fX1_highestLevel (TH g) = some (up (HLs g) 0 16 (-9)) := by
  unfold fX1_highestLevel
  exact loop_up0 (f := fun n i a => fX1_highestLevel_L5 (TH g) n a (nI i)) (N := 16) (st := HLs g) (ex := fun a => some a) (by
    intro n a
    show fX1_highestLevel_L5 (TH g) (n + 1) a (nI 16) = _
    rw [fX1_highestLevel_L5, if_pos y16]) (by
    intro n i a hi
    show fX1_highestLevel_L5 (TH g) (n + 1) a (nI i) = fX1_highestLevel_L5 (TH g) n _ (nI (i + 1))
    rw [fX1_highestLevel_L5, if_neg (n16 hi), c_has g hi, ob_some, gdn hi (by decide), clN (by omega), s_LV i hi]
    simp only [nm_eq, nI_1]
    unfold HLs
    by_cases e : g i = 0
    · simp [e]
    · simp [e]) FU (-9) (FU_gt (by omega))
theorem m_highest {g : Nat → Nat} {fe : Int32} {page : Nat → Int32} (hM : MR g fe page) (h4 : PG g) : fX5_highest page = some (up (HLs g) 0 16 (-9)) := by
  unfold fX5_highest
  exact loop_up0 (f := fun n i a => fX5_highest_L5 page n a (nI i)) (N := 16) (st := HLs g) (ex := fun a => some a) (by
    intro n a
    show fX5_highest_L5 page (n + 1) a (nI 16) = _
    rw [fX5_highest_L5, if_pos y16]) (by
    intro n i a hi
    show fX5_highest_L5 page (n + 1) a (nI i) = fX5_highest_L5 page n _ (nI (i + 1))
    have hpp := page_pos hM h4 hi
    rw [fX5_highest_L5, if_neg (n16 hi), gdn (by omega) (by decide), clN (by omega), m_level i hi, ob_some]
    simp only [nm_eq, nI_1]
    unfold HLs
    by_cases e : g i = 0
    · rw [if_pos (hpp.1.mpr e), if_pos e]
    · rw [if_neg (fun z => e (hpp.1.mp z)), if_neg e]) FU (-9) (FU_gt (by omega))
theorem o_about {g : Nat → Nat} {th ki fe : Int32} {page : Nat → Int32} (hP : RPg g th ki fe page) {ca mc : Nat → Int32} (hC : RCa ca mc) {ac hc ts : Int32} (thrown a1 : Int32) :
    ∃ r, fX4_about ac hc ts th ki fe ca a1 = some r ∧ fX5_about thrown ts ac hc mc page a1 = some (r, 0) := by
  obtain ⟨hO, ⟨rfl, hk⟩, hM⟩ := hP
  unfold fX4_about fX5_about
  rw [c_size, c_inDeck hk hO.1, c_highest, f_there hM.1 hO.1, m_deckAll hM.1 hO.1, m_highest hM hO.1]
  have e16 : page (Int32.toNatClampNeg 16) = fe := hM.2
  simp only [ob_some, f_many, e16]
  rw [hC 0 (by decide), hC 1 (by decide), hC 2 (by decide), hC 3 (by decide)]
  by_cases h0 : a1 = 0
  · exact ⟨_, by rw [if_pos h0], by rw [if_pos h0]⟩
  · by_cases h1 : a1 = 1
    · exact ⟨_, by rw [if_neg h0, if_pos h1], by rw [if_neg h0, if_pos h1]⟩
    · by_cases h2 : a1 = 2
      · exact ⟨_, by rw [if_neg h0, if_neg h1, if_pos h2], by rw [if_neg h0, if_neg h1, if_pos h2]⟩
      · by_cases h3 : a1 = 3
        · exact ⟨_, by rw [if_neg h0, if_neg h1, if_neg h2, if_pos h3], by rw [if_neg h0, if_neg h1, if_neg h2, if_pos h3]⟩
        · by_cases h4 : a1 = 4
          · exact ⟨_, by rw [if_neg h0, if_neg h1, if_neg h2, if_neg h3, if_pos h4], by rw [if_neg h0, if_neg h1, if_neg h2, if_neg h3, if_pos h4]⟩
          · by_cases h5 : a1 = 5
            · exact ⟨_, by rw [if_neg h0, if_neg h1, if_neg h2, if_neg h3, if_neg h4, if_pos h5], by rw [if_neg h0, if_neg h1, if_neg h2, if_neg h3, if_neg h4, if_pos h5]⟩
            · by_cases h6 : a1 = 6
              · exact ⟨_, by rw [if_neg h0, if_neg h1, if_neg h2, if_neg h3, if_neg h4, if_neg h5, if_pos h6], by rw [if_neg h0, if_neg h1, if_neg h2, if_neg h3, if_neg h4, if_neg h5, if_pos h6]⟩
              · by_cases h7 : a1 = 7
                · exact ⟨_, by rw [if_neg h0, if_neg h1, if_neg h2, if_neg h3, if_neg h4, if_neg h5, if_neg h6, if_pos h7], by rw [if_neg h0, if_neg h1, if_neg h2, if_neg h3, if_neg h4, if_neg h5, if_neg h6, if_pos h7]⟩
                · exact ⟨_, by rw [if_neg h0, if_neg h1, if_neg h2, if_neg h3, if_neg h4, if_neg h5, if_neg h6, if_neg h7], by rw [if_neg h0, if_neg h1, if_neg h2, if_neg h3, if_neg h4, if_neg h5, if_neg h6, if_neg h7]⟩
theorem o_piece {g : Nat → Nat} {th ki fe : Int32} {page : Nat → Int32} (hP : RPg g th ki fe page) (L M : Nat → Int32) (thrown a1 a2 : Int32) :
    ∃ r L2 M2, fX4_piece th ki L a1 a2 = some (r, L2) ∧ fX5_piece thrown page M a1 a2 = some (r, (0, M2)) := by
  obtain ⟨hO, ⟨rfl, hk⟩, hM⟩ := hP
  rcases pieceOr a1 with ⟨p, hp, rfl⟩ | ⟨c1, c2, -⟩
  · have hpp := page_pos hM hO.1 hp
    have h4 := hO.1 p hp
    unfold fX4_piece fX5_piece
    rw [c_isPiece p hp, ob_some, if_neg one0, m_noPiece p hp, ob_some, if_pos zz0]
    by_cases c : a2 < 0
    · have e : fX5_in a2.toInt64 0 4 = some 0 := in_no (a := 0) (b := 4) (Or.inl c)
      exact ⟨-2, L, M, by rw [if_pos c], by rw [e, ob_some, if_pos zz0]⟩
    · by_cases d : a2 ≤ 4
      · have e : fX5_in a2.toInt64 0 4 = some 1 := in_yes (a := 0) (b := 4) (fa_of_nlt c) d
        rw [if_neg c, if_pos d, e, ob_some, if_neg one0, c_has g hp, ob_some, gdn (by omega) (by decide), clN (by omega)]
        by_cases z : g p = 0
        · rw [if_pos z, if_pos zz0, if_pos (hpp.2.1.mpr z)]
          by_cases h0 : a2 = 0
          · exact ⟨-9, L, M, by rw [if_pos h0], by rw [if_pos h0]⟩
          · exact ⟨-3, L, M, by rw [if_neg h0], by rw [if_neg h0]⟩
        · obtain ⟨L2, w1, w2⟩ := c_weigh hk hO.1 L
          obtain ⟨M2, v1, v2⟩ := m_layLoads hM.1 hO.1 M
          have eg : page p - 1 = nI (g p - 1) := by
            rw [hM.1 p hp]
            exact pk_sub (b := 1) (by omega)
          rw [if_neg z, if_neg one0, if_neg (fun y => z (hpp.2.1.mp y)), v1, ob_some]
          by_cases h0 : a2 = 0
          · refine ⟨nI (g p - 1), L, M2, ?_, ?_⟩
            · rw [if_pos h0, c_kindOf hk hp z, ob_some]
            · rw [if_pos h0, gdn (by omega) (by decide), eg]
          · by_cases h1 : a2 = 1
            · refine ⟨nI (wt g p), L, M2, ?_, ?_⟩
              · rw [if_neg h0, if_pos h1, c_weightOf hk hp z h4, ob_some]
              · rw [if_neg h0, if_pos h1, gdn (by omega) (by decide), hM.1 p hp, m_weighs hp h4 z, ob_some]
            · by_cases h2 : a2 = 2
              · refine ⟨nI (LD g p), L2, M2, ?_, ?_⟩
                · rw [if_neg h0, if_neg h1, if_pos h2]
                  unfold fX1_loadOf
                  rw [w1, ob_some, c_isPiece p hp, ob_some, if_neg one0, gdn hp (by decide), clN (by omega), w2 p hp, ob_some]
                · rw [if_neg h0, if_neg h1, if_pos h2, gdn hp (by decide), v2 p hp]
              · by_cases h3 : a2 = 3
                · refine ⟨nI (brs (g p)), L, M2, ?_, ?_⟩
                  · rw [if_neg h0, if_neg h1, if_neg h2, if_pos h3, c_kindOf hk hp z, ob_some, gdn (by omega) (by decide), clN (by omega), s_BE z h4]
                  · rw [if_neg h0, if_neg h1, if_neg h2, if_pos h3, gdn (by omega) (by decide), hM.1 p hp, m_bearsBy z h4, ob_some]
                · rw [if_neg h0, if_neg h1, if_neg h2, if_neg h3, if_neg h0, if_neg h1, if_neg h2, if_neg h3, c_canLift g hp, ob_some, m_isTop hM.1 hO.1, ob_some]
                  unfold tp
                  by_cases y : GN g (b1 p) = b1 p
                  · refine ⟨1, L, M2, ?_, ?_⟩
                    · rw [decide_eq_true y, decide_eq_true (show g p ≠ 0 from z)]
                      rfl
                    · rw [if_pos y, if_neg one0]
                  · refine ⟨0, L, M2, ?_, ?_⟩
                    · rw [decide_eq_false y, Bool.and_false]
                      rfl
                    · rw [if_neg y, if_pos zz0]
      · have e : fX5_in a2.toInt64 0 4 = some 0 := in_no (a := 0) (b := 4) (Or.inr (fa_of_nle d))
        exact ⟨-2, L, M, by rw [if_neg c, if_neg d], by rw [e, ob_some, if_pos zz0]⟩
  · refine ⟨-1, L, M, ?_, ?_⟩
    · unfold fX4_piece
      rw [c1, ob_some, if_pos zz0]
    · unfold fX5_piece
      rw [c2, ob_some, if_neg one0]
theorem o_open {g : Nat → Nat} {th ki fe : Int32} {page : Nat → Int32} (hP : RPg g th ki fe page) {ca mc : Nat → Int32} (hC : RCa ca mc) (thrown a1 : Int32) :
    ∃ r, fX4_open th ki ca a1 = some r ∧ fX5_open thrown mc page a1 = some (r, 0) := by
  obtain ⟨hO, ⟨rfl, hk⟩, hM⟩ := hP
  unfold fX4_open fX5_open
  rcases kindOr a1 with ⟨k, hk4, rfl⟩ | ⟨c1, c2⟩
  · refine ⟨ors (fun p => CP g ca p k), ?_, ?_⟩
    · rw [c_isKind k hk4, ob_some, if_neg (by decide), c_cardsLeft hk hO.1 ca hk4, ob_some]
      exact loop_up0 (f := fun n i a => fX4_open_L23 (nI k) (ca k - nI (usd g k)) (TH g) ki ca n a (nI i)) (N := 16) (st := fun i x => if CP g ca i k = true then x ||| b1 i else x) (ex := fun a => some a) (by
        intro n a
        show fX4_open_L23 (nI k) (ca k - nI (usd g k)) (TH g) ki ca (n + 1) a (nI 16) = _
        rw [fX4_open_L23, if_pos y16]) (by
        intro n i a hi
        show fX4_open_L23 (nI k) (ca k - nI (usd g k)) (TH g) ki ca (n + 1) a (nI i) = fX4_open_L23 (nI k) (ca k - nI (usd g k)) (TH g) ki ca n _ (nI (i + 1))
        rw [fX4_open_L23, if_neg (n16 hi), c_hasRoomFor g hi, ob_some, c_cardsOf i hi]
        simp only [nm_eq, nI_1, ob_some]
        unfold CP
        cases rmf g i with
        | false => simp
        | true =>
          rw [if_pos rfl, if_neg (by decide)]
          by_cases d : ca k - nI (usd g k) < nI (ndp i)
          · rw [if_pos d, decide_eq_true d]
            rfl
          · rw [if_neg d, decide_eq_false d]
            rfl) FU 0 (FU_gt (by omega))
    · rw [m_noKind k hk4, ob_some, if_pos rfl]
      exact loop_up0 (f := fun n i a => fX5_open_L18 (nI k) 0 mc page n a (nI i)) (N := 16) (st := fun i x => if CP g ca i k = true then x ||| b1 i else x) (ex := fun a => some (a, 0)) (by
        intro n a
        show fX5_open_L18 (nI k) 0 mc page (n + 1) a (nI 16) = _
        rw [fX5_open_L18, if_pos y16]) (by
        intro n i a hi
        show fX5_open_L18 (nI k) 0 mc page (n + 1) a (nI i) = fX5_open_L18 (nI k) 0 mc page n _ (nI (i + 1))
        rw [fX5_open_L18, if_neg (n16 hi), m_canPut hM.1 hO.1 mc hi hk4, ob_some, ← CP_congr hC i hk4]
        simp only [nm_eq, nI_1, or_0]
        cases CP g ca i k with
        | false => simp
        | true =>
          rw [if_pos rfl, if_neg (by decide), if_pos rfl]
          rfl) FU 0 (FU_gt (by omega))
  · exact ⟨-1, by rw [c1, ob_some, if_pos rfl], by rw [c2, ob_some, if_neg (by decide)]⟩
theorem o_spread {g : Nat → Nat} {th ki fe : Int32} {page : Nat → Int32} (hP : RPg g th ki fe page) (thrown a1 : Int32) :
    ∃ r, fX4_spread th a1 = some r ∧ fX5_spread thrown page a1 = some (r, 0) := by
  obtain ⟨hO, ⟨rfl, hk⟩, hM⟩ := hP
  unfold fX4_spread fX5_spread
  rcases pieceOr a1 with ⟨p, hp, rfl⟩ | ⟨c1, c2, -⟩
  · have hpp := page_pos hM hO.1 hp
    rw [c_isPiece p hp, ob_some, if_neg (by decide), m_noPiece p hp, ob_some, if_pos rfl, c_has g hp, ob_some, gdn (by omega) (by decide), clN (by omega)]
    by_cases z : g p = 0
    · exact ⟨-3, by rw [if_pos z, if_pos rfl], by rw [if_pos (hpp.2.1.mpr z)]⟩
    · refine ⟨GN g (b1 p), ?_, ?_⟩
      · rw [if_neg z, if_neg (by decide)]
        show ob (fX1_goneWith (TH g) (b1 p)) _ = _
        rw [c_goneWith, ob_some, and_b1TH g hp z]
      · rw [if_neg (fun y => z (hpp.2.1.mp y))]
        show ob (fX5_spreadOf page (b1 p)) _ = _
        rw [m_spreadOf hM.1 hO.1, ob_some]
  · exact ⟨-1, by rw [c1, ob_some, if_pos rfl], by rw [c2, ob_some, if_neg (by decide)]⟩
def SDs (g : Nat → Nat) (lv i : Nat) (a : Int32) : Int32 := if (decide (g i ≠ 0) && tnt lv i) = true then (if frm g i / 8 < a then frm g i / 8 else a) else a
theorem o_stands {g : Nat → Nat} {th ki fe : Int32} {page : Nat → Int32} (hP : RPg g th ki fe page) (L M : Nat → Int32) (thrown a1 : Int32) :
    ∃ r L2 M2, fX4_stands th ki L a1 = some (r, L2) ∧ fX5_stands thrown page M a1 = some (r, (0, M2)) := by
  obtain ⟨hO, ⟨rfl, hk⟩, hM⟩ := hP
  unfold fX4_stands fX5_stands
  rcases levelOr a1 with ⟨lv, hl, rfl, e1⟩ | ⟨e1, e2⟩
  · obtain ⟨L2, w1, w2⟩ := c_weigh hk hO.1 L
    obtain ⟨M2, v1, v2⟩ := m_layLoads hM.1 hO.1 M
    refine ⟨up (SDs g lv) 0 16 9, L2, M2, ?_, ?_⟩
    · rw [c_isLevel lv hl, ob_some, if_neg (by decide)]
      unfold fX1_forceStood
      rw [w1, ob_some]
      have h1 := loop_up0 (f := fun n i a => fX1_forceStood_L9 (nI lv) (TH g) ki L2 n a (nI i)) (N := 16) (st := SDs g lv) (ex := fun a => some (a, L2)) (by
        intro n a
        show fX1_forceStood_L9 (nI lv) (TH g) ki L2 (n + 1) a (nI 16) = _
        rw [fX1_forceStood_L9, if_pos y16]) (by
        intro n i a hi
        show fX1_forceStood_L9 (nI lv) (TH g) ki L2 (n + 1) a (nI i) = fX1_forceStood_L9 (nI lv) (TH g) ki L2 n _ (nI (i + 1))
        rw [fX1_forceStood_L9, if_neg (n16 hi), c_isTent g hi hl, ob_some]
        simp only [nm_eq, nI_1, gdn hi (show (16 : Nat) < 2 ^ 31 by decide), clN (show i < 2 ^ 31 by omega)]
        unfold SDs
        cases hb : (decide (g i ≠ 0) && tnt lv i) with
        | false => simp
        | true =>
          have hb2 : g i ≠ 0 ∧ tnt lv i = true := by simpa using hb
          rw [if_pos rfl, if_neg (by decide), c_kindOf hk hi hb2.1, ob_some, w2 i hi, c_firm hb2.1 (hO.1 i hi) (tnt_flt hb2.2), ob_some, if_pos rfl]) FU 9 (FU_gt (by omega))
      have h2 : fX1_forceStood_L9 (nI lv) (TH g) ki L2 FU 9 0 = some (up (SDs g lv) 0 16 9, L2) := h1
      rw [h2, ob_some]
    · rw [e1, ob_some, if_neg (by decide), v1, ob_some]
      have h1 := loop_up (f := fun n i a => fX5_stands_L32 (nI lv) 0 page M2 n a (nI i)) (N := 16) (st := SDs g lv) (ex := fun a => some (a, (0, M2))) (fun _ a => a ≤ 9) (by
        intro n a _
        show fX5_stands_L32 (nI lv) 0 page M2 (n + 1) a (nI 16) = _
        rw [fX5_stands_L32, if_pos y16]) (by
        intro n i a hi ha
        show fX5_stands_L32 (nI lv) 0 page M2 (n + 1) a (nI i) = fX5_stands_L32 (nI lv) 0 page M2 n _ (nI (i + 1)) ∧ _
        rw [fX5_stands_L32, if_neg (n16 hi), m_isTent hM.1 hO.1 hi hl, ob_some]
        simp only [nm_eq, nI_1]
        unfold SDs
        cases hb : (decide (g i ≠ 0) && tnt lv i) with
        | false =>
          simp [ha]
        | true =>
          have hb2 : g i ≠ 0 ∧ tnt lv i = true := by simpa using hb
          rw [if_pos rfl, if_neg (by decide), m_firm hM.1 hO.1 v2 hi hb2.1, ob_some, if_pos rfl]
          by_cases c : a ≤ frm g i / 8
          · have c2 : ¬ frm g i / 8 < a := by
              rw [fa_le] at c
              rw [fa_lt]
              omega
            rw [if_pos c, if_neg c2]
            exact ⟨rfl, ha⟩
          · have c2 : frm g i / 8 < a := fa_of_nle c
            rw [if_neg c, if_pos c2]
            refine ⟨rfl, ?_⟩
            rw [fa_lt] at c2
            rw [fa_le] at ha ⊢
            omega) 16 0 FU 9 rfl (FU_gt (by omega)) (by decide)
      exact h1
  · exact ⟨-1, L, M, by rw [e1, ob_some, if_pos rfl], by rw [e2, ob_some, if_pos rfl]⟩
