-- X5_isTop
def fX5_isTop  (g_h : Nat → Int32) (a2 : Int32) : Option (Int32) := ob (fX5_spreadOf g_h ((1 : Int32) <<< (a2 &&& 31))) (fun r1 => (if r1 = ((1 : Int32) <<< (a2 &&& 31)) then some 1 else some 0))
set_option maxRecDepth 100000 in
set_option maxHeartbeats 4000000 in
theorem tX5_isTop (l : Launch) (D : va_G) (cI cZ : ClassId) (b0 : Nat) (tt : Nat → Nat)  (g_a : Nat) (g_h : Nat → Int32) (a2 : Int32) {res : Int32} (hf : fX5_isTop g_h a2 = some res) : CtI l yX5_isTop (cwX5_isTop :: GW) 2 43 D cI cZ b0 tt [.ref g_a, .int a2] (fun _ : Unit => [(g_a, .inl (cI, 17, .inl g_h))]) () (res, ()) := by
  intro sz
  refine k_begin (cc := cX5_isTop) (maxL := 2) (ret := (some .boolean)) (by decide) rfl (Nat.le_of_ble_eq_true rfl) ?_
  intro p e s m below meth c ls C w hl
  generalize va_A _ sz = A at w ⊢
  have w : Wd D cI cZ b0 tt A s [(g_a, .inl (cI, 17, .inl g_h))] s.heap [] := w
  have hl : lv_has ls 2 [(0, .ref g_a), (1, .int a2)] := hl
  obtain ⟨H, eH⟩ : ∃ H, H = s.heap := ⟨_, rfl⟩
  rw [← eH] at w ⊢
  generalize ([] : List Loc) = locs at w ⊢
  generalize List.toArray _ = args at C ⊢
  obtain ⟨hx, hb, hr, hml, hown, hts, hlk⟩ := id C
  have hg : ∀ w ∈ GW, w.before args s = true := fun w h => hts w (List.mem_cons_of_mem _ h)
  unfold fX5_isTop at hf
  refine lv_aload_n hx hb dX5_isTop_0 rfl (lv_at hl 0 rfl) ?_
  refine lv_iconst (v := 1) hx hb dX5_isTop_1 (by decide) ?_
  refine lv_iload_n hx hb dX5_isTop_2 rfl (lv_at hl 1 rfl) ?_
  refine lv_ishl hx hb dX5_isTop_3 ?_
  replace hf := ob_at hf
  obtain ⟨r1, er1, hf⟩ := hf
  refine k_goI0 w [0] rfl (va_runS (As := [.ref g_a, .int ((1 : Int32) <<< (a2 &&& 31))]) (rest := []) ⟨hx, hb, hml, hown, hg⟩ (tX5_spreadOf l D cI cZ b0 tt g_a g_h ((1 : Int32) <<< (a2 &&& 31)) er1 H.size) (va_cwS 2 hg (gwS w_650 w_651 w_7 w_652) rfl rfl rfl qdX5_spreadOf ⟨Nat.le_of_ble_eq_true rfl, Nat.le_of_ble_eq_true rfl⟩) (k_preS w [0] (by decide) rfl) rfl rfl hl.1 rfl (lv_room (Nat.le_of_ble_eq_true rfl)) dX5_isTop_4 ⟨Nat.le_refl _, Nat.le_refl _⟩) (fun H locs w => ?_)
  refine lv_iconst (v := 1) hx hb dX5_isTop_7 (by decide) ?_
  refine lv_iload_n hx hb dX5_isTop_8 rfl (lv_at hl 1 rfl) ?_
  refine lv_ishl hx hb dX5_isTop_9 ?_
  refine lv_icmp_ne (tgt := 17) hx hb dX5_isTop_10 (by decide) (fun c2 => ?_) (fun c2 => ?_)
  · replace hf := ite_f c2 hf
    refine lv_iconst (v := 0) hx hb dX5_isTop_17 (by decide) ?_
    exact k_zret (u := ()) hx hb hr hlk w rfl rfl (k_ret1 hf) dX5_isTop_18
  · replace hf := ite_t c2 hf
    refine lv_iconst (v := 1) hx hb dX5_isTop_13 (by decide) ?_
    refine lv_goto (tgt := 18) hx hb dX5_isTop_14 (by decide) ?_
    exact k_zret (u := ()) hx hb hr hlk w rfl rfl (k_ret1 hf) dX5_isTop_18
-- X5_piece
def fX5_piece  (m_thrown : Int32) (m_page : Nat → Int32) (m_loads : Nat → Int32) (a1 : Int32) (a2 : Int32) : Option (Int32 × Int32 × (Nat → Int32)) := ob (fX5_noPiece a1) (fun r1 => (if r1 = 0 then ob (fX5_in (Int32.toInt64 a2) 0 4) (fun r3 => (if r3 = 0 then some ((-2), (0, m_loads)) else gd a1 17 ((if (m_page (Int32.toNatClampNeg a1)) = 0 then (if a2 = 0 then some ((-9), (0, m_loads)) else some ((-3), (0, m_loads))) else ob (fX5_layLoads m_page m_loads) (fun r7 => (if a2 = 0 then gd a1 17 (some (((m_page (Int32.toNatClampNeg a1)) - (1 : Int32)), (0, r7))) else (if a2 = 1 then gd a1 17 (ob (fX5_weighs a1 ((m_page (Int32.toNatClampNeg a1)) - (1 : Int32))) (fun r12 => some (r12, (0, r7)))) else (if a2 = 2 then gd a1 16 (some ((r7 (Int32.toNatClampNeg a1)), (0, r7))) else (if a2 = 3 then gd a1 17 (ob (fX5_bearsBy ((m_page (Int32.toNatClampNeg a1)) - (1 : Int32))) (fun r17 => some (r17, (0, r7)))) else ob (fX5_isTop m_page a1) (fun r18 => (if r18 = 0 then some (0, (0, r7)) else some (1, (0, r7))))))))))))) else some ((-1), (0, m_loads))))
set_option maxRecDepth 100000 in
set_option maxHeartbeats 4000000 in
theorem tX5_piece (l : Launch) (D : va_G) (cI cZ : ClassId) (b0 : Nat) (tt : Nat → Nat)  (m_a q_text q_cards q_readCards q_readPage q_page q_trial q_loads q_book q_kept q_isKept q_heldWho q_heldForce q_heldLoad q_heldIs q_gains q_value : Nat) (m_thrown : Int32) (m_textSize : Int32) (m_place : Int32) (m_acts : Int32) (m_held : Int32) (m_seed : Int64) (m_tentMany : Int32) (m_tentFirst : Int32) (m_restMany : Int32) (m_restFirst : Int32) (m_text : Nat → Int32) (m_cards : Nat → Int32) (m_readCards : Nat → Int32) (m_readPage : Nat → Int32) (m_page : Nat → Int32) (m_trial : Nat → Int32) (m_loads : Nat → Int32) (m_book : Nat → Int32) (m_kept : Nat → Int32) (m_isKept : Nat → Int32) (m_heldWho : Nat → Int32) (m_heldForce : Nat → Int32) (m_heldLoad : Nat → Int32) (m_heldIs : Nat → Int32) (m_gains : Nat → Int32) (m_value : Nat → Int32) (a1 : Int32) (a2 : Int32) {res : Int32 × Int32 × (Nat → Int32)} (hf : fX5_piece m_thrown m_page m_loads a1 a2 = some res) : CtI l yX5_piece (cwX5_piece :: GW) 4 85 D cI cZ b0 tt [.ref m_a, .int a1, .int a2] (fun u : Int32 × (Nat → Int32) => [(m_a, .inr (5, [.int u.1, .ref q_text, .int m_textSize, .int m_place, .ref q_cards, .ref q_readCards, .ref q_readPage, .ref q_page, .ref q_trial, .ref q_loads, .ref q_book, .int m_acts, .ref q_kept, .ref q_isKept, .int m_held, .ref q_heldWho, .ref q_heldForce, .ref q_heldLoad, .ref q_heldIs, .long m_seed, .int m_tentMany, .int m_tentFirst, .int m_restMany, .int m_restFirst, .ref q_gains, .ref q_value])), (q_text, .inl (cI, 56, .inl m_text)), (q_cards, .inl (cI, 4, .inl m_cards)), (q_readCards, .inl (cI, 4, .inl m_readCards)), (q_readPage, .inl (cI, 17, .inl m_readPage)), (q_page, .inl (cI, 17, .inl m_page)), (q_trial, .inl (cI, 17, .inl m_trial)), (q_loads, .inl (cI, 16, .inl u.2)), (q_book, .inl (cI, 238, .inl m_book)), (q_kept, .inl (cI, 34, .inl m_kept)), (q_isKept, .inl (cZ, 2, .inl m_isKept)), (q_heldWho, .inl (cI, 6, .inl m_heldWho)), (q_heldForce, .inl (cI, 6, .inl m_heldForce)), (q_heldLoad, .inl (cI, 6, .inl m_heldLoad)), (q_heldIs, .inl (cI, 6, .inl m_heldIs)), (q_gains, .inl (cI, 50, .inl m_gains)), (q_value, .inl (cI, 16, .inl m_value))]) (m_thrown, m_loads) res := by
  intro sz
  refine k_begin (cc := cX5_piece) (maxL := 3) (ret := (some .int)) (by decide) rfl (Nat.le_of_ble_eq_true rfl) ?_
  intro p e s m below meth c ls C w hl
  generalize va_A _ sz = A at w ⊢
  have w : Wd D cI cZ b0 tt A s [(m_a, .inr (5, [.int m_thrown, .ref q_text, .int m_textSize, .int m_place, .ref q_cards, .ref q_readCards, .ref q_readPage, .ref q_page, .ref q_trial, .ref q_loads, .ref q_book, .int m_acts, .ref q_kept, .ref q_isKept, .int m_held, .ref q_heldWho, .ref q_heldForce, .ref q_heldLoad, .ref q_heldIs, .long m_seed, .int m_tentMany, .int m_tentFirst, .int m_restMany, .int m_restFirst, .ref q_gains, .ref q_value])), (q_text, .inl (cI, 56, .inl m_text)), (q_cards, .inl (cI, 4, .inl m_cards)), (q_readCards, .inl (cI, 4, .inl m_readCards)), (q_readPage, .inl (cI, 17, .inl m_readPage)), (q_page, .inl (cI, 17, .inl m_page)), (q_trial, .inl (cI, 17, .inl m_trial)), (q_loads, .inl (cI, 16, .inl m_loads)), (q_book, .inl (cI, 238, .inl m_book)), (q_kept, .inl (cI, 34, .inl m_kept)), (q_isKept, .inl (cZ, 2, .inl m_isKept)), (q_heldWho, .inl (cI, 6, .inl m_heldWho)), (q_heldForce, .inl (cI, 6, .inl m_heldForce)), (q_heldLoad, .inl (cI, 6, .inl m_heldLoad)), (q_heldIs, .inl (cI, 6, .inl m_heldIs)), (q_gains, .inl (cI, 50, .inl m_gains)), (q_value, .inl (cI, 16, .inl m_value))] s.heap [] := w
  have hl : lv_has ls 3 [(0, .ref m_a), (1, .int a1), (2, .int a2)] := hl
  obtain ⟨H, eH⟩ : ∃ H, H = s.heap := ⟨_, rfl⟩
  rw [← eH] at w ⊢
  generalize ([] : List Loc) = locs at w ⊢
  generalize List.toArray _ = args at C ⊢
  obtain ⟨hx, hb, hr, hml, hown, hts, hlk⟩ := id C
  have hg : ∀ w ∈ GW, w.before args s = true := fun w h => hts w (List.mem_cons_of_mem _ h)
  unfold fX5_piece at hf
  refine lv_aload_n hx hb dX5_piece_0 rfl (lv_at hl 0 rfl) ?_
  refine lv_iconst (v := 0) hx hb dX5_piece_1 (by decide) ?_
  refine k_put (ci := 5) (v := .int 0) (ty := .int) (C := RX5) (T := TX5) (N := 26) hx hb hg iX5 tyX5 tyX5_ok nmX5 hown w 0 rfl rfl 0 (by decide) (hg _ w_489) (fun _ h9 => h9) rfl pd_I rfl rfl (Nat.le_of_ble_eq_true rfl) dX5_piece_2 (fun H locs w => ?_)
  have w : Wd D cI cZ b0 tt A s [(m_a, .inr (5, [.int 0, .ref q_text, .int m_textSize, .int m_place, .ref q_cards, .ref q_readCards, .ref q_readPage, .ref q_page, .ref q_trial, .ref q_loads, .ref q_book, .int m_acts, .ref q_kept, .ref q_isKept, .int m_held, .ref q_heldWho, .ref q_heldForce, .ref q_heldLoad, .ref q_heldIs, .long m_seed, .int m_tentMany, .int m_tentFirst, .int m_restMany, .int m_restFirst, .ref q_gains, .ref q_value])), (q_text, .inl (cI, 56, .inl m_text)), (q_cards, .inl (cI, 4, .inl m_cards)), (q_readCards, .inl (cI, 4, .inl m_readCards)), (q_readPage, .inl (cI, 17, .inl m_readPage)), (q_page, .inl (cI, 17, .inl m_page)), (q_trial, .inl (cI, 17, .inl m_trial)), (q_loads, .inl (cI, 16, .inl m_loads)), (q_book, .inl (cI, 238, .inl m_book)), (q_kept, .inl (cI, 34, .inl m_kept)), (q_isKept, .inl (cZ, 2, .inl m_isKept)), (q_heldWho, .inl (cI, 6, .inl m_heldWho)), (q_heldForce, .inl (cI, 6, .inl m_heldForce)), (q_heldLoad, .inl (cI, 6, .inl m_heldLoad)), (q_heldIs, .inl (cI, 6, .inl m_heldIs)), (q_gains, .inl (cI, 50, .inl m_gains)), (q_value, .inl (cI, 16, .inl m_value))] H locs := w
  refine lv_iload_n hx hb dX5_piece_5 rfl (lv_at hl 1 rfl) ?_
  replace hf := ob_at hf
  obtain ⟨r1, er1, hf⟩ := hf
  refine k_goI0 w [] rfl (va_runS (As := [.int a1]) (rest := []) ⟨hx, hb, hml, hown, hg⟩ (tX5_noPiece l D cI cZ b0 tt a1 er1 H.size) (va_cwS 1 hg (gwS w_621 w_622 w_7 w_623) rfl rfl rfl qdX5_noPiece ⟨Nat.le_of_ble_eq_true rfl, Nat.le_of_ble_eq_true rfl⟩) (k_preS w [] (by decide) rfl) rfl rfl hl.1 rfl (lv_room (Nat.le_of_ble_eq_true rfl)) dX5_piece_6 ⟨Nat.le_refl _, Nat.le_refl _⟩) (fun H locs w => ?_)
  refine lv_if_eq (tgt := 14) hx hb dX5_piece_9 (by decide) (fun c2 => ?_) (fun c2 => ?_)
  · replace hf := ite_t c2 hf
    refine lv_iload_n hx hb dX5_piece_14 rfl (lv_at hl 2 rfl) ?_
    refine lv_i2l (v := (Int32.toInt64 a2)) hx hb dX5_piece_15 rfl ?_
    refine lv_lconst (v := 0) hx hb dX5_piece_16 (by decide) ?_
    refine lv_ldc2 hx hb hown (hg _ w_684) dX5_piece_17 ?_
    replace hf := ob_at hf
    obtain ⟨r3, er3, hf⟩ := hf
    refine k_goI0 w [] rfl (va_runS (As := [.long (Int32.toInt64 a2), .long 0, .long 4]) (rest := []) ⟨hx, hb, hml, hown, hg⟩ (tX5_in l D cI cZ b0 tt (Int32.toInt64 a2) 0 4 er3 H.size) (va_cwS 3 hg (gwS w_574 w_575 w_7 w_576) rfl rfl rfl qdX5_in ⟨Nat.le_of_ble_eq_true rfl, Nat.le_of_ble_eq_true rfl⟩) (k_preS w [] (by decide) rfl) rfl rfl hl.1 rfl (lv_room (Nat.le_of_ble_eq_true rfl)) dX5_piece_20 ⟨Nat.le_refl _, Nat.le_refl _⟩) (fun H locs w => ?_)
    refine lv_if_ne (tgt := 29) hx hb dX5_piece_23 (by decide) (fun c4 => ?_) (fun c4 => ?_)
    · replace hf := ite_f c4 hf
      refine lv_aload_n hx hb dX5_piece_29 rfl (lv_at hl 0 rfl) ?_
      refine va_get (D := D) (ci := 5) (v := .ref q_page) (C := RX5) (T := TX5) (N := 26) hx hb hg iX5 hown w.2.2.2.2.2.2.1 w.1 0 rfl rfl 7 (by decide) (hg _ w_496) (fun _ h9 => h9) rfl dX5_piece_30 ?_
      refine lv_iload_n hx hb dX5_piece_33 rfl (lv_at hl 1 rfl) ?_
      replace hf := gd_at hf
      obtain ⟨hi5, hf⟩ := hf
      refine va_iald hx hb w.2.2.2.2.2.2.1 w.1 5 0 rfl rfl hi5 dX5_piece_34 ?_
      refine lv_if_ne (tgt := 50) hx hb dX5_piece_35 (by decide) (fun c6 => ?_) (fun c6 => ?_)
      · replace hf := ite_f c6 hf
        refine lv_aload_n hx hb dX5_piece_50 rfl (lv_at hl 0 rfl) ?_
        refine lv_aload_n hx hb dX5_piece_51 rfl (lv_at hl 0 rfl) ?_
        refine va_get (D := D) (ci := 5) (v := .ref q_page) (C := RX5) (T := TX5) (N := 26) hx hb hg iX5 hown w.2.2.2.2.2.2.1 w.1 0 rfl rfl 7 (by decide) (hg _ w_496) (fun _ h9 => h9) rfl dX5_piece_52 ?_
        replace hf := ob_at hf
        obtain ⟨r7, er7, hf⟩ := hf
        refine k_goV (v0 := m_loads) (res := r7) w [0, 5, 7, 2] rfl (fun _ => rfl) (va_runV (As := [.ref q_page]) (rest := []) ⟨hx, hb, hml, hown, hg⟩ (tX5_layLoads l D cI cZ b0 tt m_a q_text q_cards q_readCards q_readPage q_page q_trial q_loads q_book q_kept q_isKept q_heldWho q_heldForce q_heldLoad q_heldIs q_gains q_value q_page 0 m_textSize m_place m_acts m_held m_seed m_tentMany m_tentFirst m_restMany m_restFirst m_page m_loads m_cards er7 H.size) (cwV 1 hg (gwV w_635 w_636 w_851 w_7 w_637) rfl rfl rfl ⟨rfl, qdX5_layLoads⟩ ⟨Nat.le_of_ble_eq_true rfl, Nat.le_of_ble_eq_true rfl⟩) (k_preV w [0, 5, 7, 2] (by decide) rfl (q0 := 0) rfl rfl) rfl rfl hl.1 rfl (lv_room (Nat.le_of_ble_eq_true rfl)) dX5_piece_55 ⟨Nat.le_refl _, Nat.le_refl _⟩) (fun H locs w => ?_)
        have w : Wd D cI cZ b0 tt A s [(m_a, .inr (5, [.int 0, .ref q_text, .int m_textSize, .int m_place, .ref q_cards, .ref q_readCards, .ref q_readPage, .ref q_page, .ref q_trial, .ref q_loads, .ref q_book, .int m_acts, .ref q_kept, .ref q_isKept, .int m_held, .ref q_heldWho, .ref q_heldForce, .ref q_heldLoad, .ref q_heldIs, .long m_seed, .int m_tentMany, .int m_tentFirst, .int m_restMany, .int m_restFirst, .ref q_gains, .ref q_value])), (q_text, .inl (cI, 56, .inl m_text)), (q_cards, .inl (cI, 4, .inl m_cards)), (q_readCards, .inl (cI, 4, .inl m_readCards)), (q_readPage, .inl (cI, 17, .inl m_readPage)), (q_page, .inl (cI, 17, .inl m_page)), (q_trial, .inl (cI, 17, .inl m_trial)), (q_loads, .inl (cI, 16, .inl r7)), (q_book, .inl (cI, 238, .inl m_book)), (q_kept, .inl (cI, 34, .inl m_kept)), (q_isKept, .inl (cZ, 2, .inl m_isKept)), (q_heldWho, .inl (cI, 6, .inl m_heldWho)), (q_heldForce, .inl (cI, 6, .inl m_heldForce)), (q_heldLoad, .inl (cI, 6, .inl m_heldLoad)), (q_heldIs, .inl (cI, 6, .inl m_heldIs)), (q_gains, .inl (cI, 50, .inl m_gains)), (q_value, .inl (cI, 16, .inl m_value))] H locs := w
        refine lv_iload_n hx hb dX5_piece_58 rfl (lv_at hl 2 rfl) ?_
        by_cases c8 : a2 = 0
        · replace hf := ite_t c8 hf
          refine lv_tableIn (off := 29) (tgt := 88) hx hb dX5_piece_59 (by rw [c8]; decide) (by rw [c8]; decide) (by rw [c8]; decide) (by decide) ?_
          refine lv_aload_n hx hb dX5_piece_88 rfl (lv_at hl 0 rfl) ?_
          refine va_get (D := D) (ci := 5) (v := .ref q_page) (C := RX5) (T := TX5) (N := 26) hx hb hg iX5 hown w.2.2.2.2.2.2.1 w.1 0 rfl rfl 7 (by decide) (hg _ w_496) (fun _ h9 => h9) rfl dX5_piece_89 ?_
          refine lv_iload_n hx hb dX5_piece_92 rfl (lv_at hl 1 rfl) ?_
          replace hf := gd_at hf
          obtain ⟨hi9, hf⟩ := hf
          refine va_iald hx hb w.2.2.2.2.2.2.1 w.1 5 0 rfl rfl hi9 dX5_piece_93 ?_
          refine lv_iconst (v := 1) hx hb dX5_piece_94 (by decide) ?_
          refine lv_isub hx hb dX5_piece_95 ?_
          exact k_iret (u := (0, r7)) hx hb hr hlk w rfl hf dX5_piece_96
        · replace hf := ite_f c8 hf
          by_cases c10 : a2 = 1
          · replace hf := ite_t c10 hf
            refine lv_tableIn (off := 38) (tgt := 97) hx hb dX5_piece_59 (by rw [c10]; decide) (by rw [c10]; decide) (by rw [c10]; decide) (by decide) ?_
            refine lv_iload_n hx hb dX5_piece_97 rfl (lv_at hl 1 rfl) ?_
            refine lv_aload_n hx hb dX5_piece_98 rfl (lv_at hl 0 rfl) ?_
            refine va_get (D := D) (ci := 5) (v := .ref q_page) (C := RX5) (T := TX5) (N := 26) hx hb hg iX5 hown w.2.2.2.2.2.2.1 w.1 0 rfl rfl 7 (by decide) (hg _ w_496) (fun _ h9 => h9) rfl dX5_piece_99 ?_
            refine lv_iload_n hx hb dX5_piece_102 rfl (lv_at hl 1 rfl) ?_
            replace hf := gd_at hf
            obtain ⟨hi11, hf⟩ := hf
            refine va_iald hx hb w.2.2.2.2.2.2.1 w.1 5 0 rfl rfl hi11 dX5_piece_103 ?_
            refine lv_iconst (v := 1) hx hb dX5_piece_104 (by decide) ?_
            refine lv_isub hx hb dX5_piece_105 ?_
            replace hf := ob_at hf
            obtain ⟨r12, er12, hf⟩ := hf
            refine k_goI0 w [] rfl (va_runS (As := [.int a1, .int ((m_page (Int32.toNatClampNeg a1)) - (1 : Int32))]) (rest := []) ⟨hx, hb, hml, hown, hg⟩ (tX5_weighs l D cI cZ b0 tt a1 ((m_page (Int32.toNatClampNeg a1)) - (1 : Int32)) er12 H.size) (va_cwS 2 hg (gwS w_638 w_639 w_7 w_640) rfl rfl rfl qdX5_weighs ⟨Nat.le_of_ble_eq_true rfl, Nat.le_of_ble_eq_true rfl⟩) (k_preS w [] (by decide) rfl) rfl rfl hl.1 rfl (lv_room (Nat.le_of_ble_eq_true rfl)) dX5_piece_106 ⟨Nat.le_refl _, Nat.le_refl _⟩) (fun H locs w => ?_)
            exact k_iret (u := (0, r7)) hx hb hr hlk w rfl hf dX5_piece_109
          · replace hf := ite_f c10 hf
            by_cases c13 : a2 = 2
            · replace hf := ite_t c13 hf
              refine lv_tableIn (off := 51) (tgt := 110) hx hb dX5_piece_59 (by rw [c13]; decide) (by rw [c13]; decide) (by rw [c13]; decide) (by decide) ?_
              refine lv_aload_n hx hb dX5_piece_110 rfl (lv_at hl 0 rfl) ?_
              refine va_get (D := D) (ci := 5) (v := .ref q_loads) (C := RX5) (T := TX5) (N := 26) hx hb hg iX5 hown w.2.2.2.2.2.2.1 w.1 0 rfl rfl 9 (by decide) (hg _ w_498) (fun _ h9 => h9) rfl dX5_piece_111 ?_
              refine lv_iload_n hx hb dX5_piece_114 rfl (lv_at hl 1 rfl) ?_
              replace hf := gd_at hf
              obtain ⟨hi14, hf⟩ := hf
              refine va_iald hx hb w.2.2.2.2.2.2.1 w.1 7 0 rfl rfl hi14 dX5_piece_115 ?_
              exact k_iret (u := (0, r7)) hx hb hr hlk w rfl hf dX5_piece_116
            · replace hf := ite_f c13 hf
              by_cases c15 : a2 = 3
              · replace hf := ite_t c15 hf
                refine lv_tableIn (off := 58) (tgt := 117) hx hb dX5_piece_59 (by rw [c15]; decide) (by rw [c15]; decide) (by rw [c15]; decide) (by decide) ?_
                refine lv_aload_n hx hb dX5_piece_117 rfl (lv_at hl 0 rfl) ?_
                refine va_get (D := D) (ci := 5) (v := .ref q_page) (C := RX5) (T := TX5) (N := 26) hx hb hg iX5 hown w.2.2.2.2.2.2.1 w.1 0 rfl rfl 7 (by decide) (hg _ w_496) (fun _ h9 => h9) rfl dX5_piece_118 ?_
                refine lv_iload_n hx hb dX5_piece_121 rfl (lv_at hl 1 rfl) ?_
                replace hf := gd_at hf
                obtain ⟨hi16, hf⟩ := hf
                refine va_iald hx hb w.2.2.2.2.2.2.1 w.1 5 0 rfl rfl hi16 dX5_piece_122 ?_
                refine lv_iconst (v := 1) hx hb dX5_piece_123 (by decide) ?_
                refine lv_isub hx hb dX5_piece_124 ?_
                replace hf := ob_at hf
                obtain ⟨r17, er17, hf⟩ := hf
                refine k_goI0 w [] rfl (va_runS (As := [.int ((m_page (Int32.toNatClampNeg a1)) - (1 : Int32))]) (rest := []) ⟨hx, hb, hml, hown, hg⟩ (tX5_bearsBy l D cI cZ b0 tt ((m_page (Int32.toNatClampNeg a1)) - (1 : Int32)) er17 H.size) (va_cwS 1 hg (gwS w_644 w_645 w_7 w_646) rfl rfl rfl qdX5_bearsBy ⟨Nat.le_of_ble_eq_true rfl, Nat.le_of_ble_eq_true rfl⟩) (k_preS w [] (by decide) rfl) rfl rfl hl.1 rfl (lv_room (Nat.le_of_ble_eq_true rfl)) dX5_piece_125 ⟨Nat.le_refl _, Nat.le_refl _⟩) (fun H locs w => ?_)
                exact k_iret (u := (0, r7)) hx hb hr hlk w rfl hf dX5_piece_128
              · replace hf := ite_f c15 hf
                refine lv_tableOut (tgt := 129) hx hb dX5_piece_59 (by have ec8 := lv_neT c8 (a := 0) (by decide); have ec10 := lv_neT c10 (a := 1) (by decide); have ec13 := lv_neT c13 (a := 2) (by decide); have ec15 := lv_neT c15 (a := 3) (by decide); omega) (by decide) ?_
                refine lv_aload_n hx hb dX5_piece_129 rfl (lv_at hl 0 rfl) ?_
                refine va_get (D := D) (ci := 5) (v := .ref q_page) (C := RX5) (T := TX5) (N := 26) hx hb hg iX5 hown w.2.2.2.2.2.2.1 w.1 0 rfl rfl 7 (by decide) (hg _ w_496) (fun _ h9 => h9) rfl dX5_piece_130 ?_
                refine lv_iload_n hx hb dX5_piece_133 rfl (lv_at hl 1 rfl) ?_
                replace hf := ob_at hf
                obtain ⟨r18, er18, hf⟩ := hf
                refine k_goI0 w [5] rfl (va_runS (As := [.ref q_page, .int a1]) (rest := []) ⟨hx, hb, hml, hown, hg⟩ (tX5_isTop l D cI cZ b0 tt q_page m_page a1 er18 H.size) (va_cwS 2 hg (gwS w_685 w_686 w_7 w_687) rfl rfl rfl qdX5_isTop ⟨Nat.le_of_ble_eq_true rfl, Nat.le_of_ble_eq_true rfl⟩) (k_preS w [5] (by decide) rfl) rfl rfl hl.1 rfl (lv_room (Nat.le_of_ble_eq_true rfl)) dX5_piece_134 ⟨Nat.le_refl _, Nat.le_refl _⟩) (fun H locs w => ?_)
                refine lv_if_eq (tgt := 144) hx hb dX5_piece_137 (by decide) (fun c19 => ?_) (fun c19 => ?_)
                · replace hf := ite_t c19 hf
                  refine lv_iconst (v := 0) hx hb dX5_piece_144 (by decide) ?_
                  exact k_iret (u := (0, r7)) hx hb hr hlk w rfl hf dX5_piece_145
                · replace hf := ite_f c19 hf
                  refine lv_iconst (v := 1) hx hb dX5_piece_140 (by decide) ?_
                  refine lv_goto (tgt := 145) hx hb dX5_piece_141 (by decide) ?_
                  exact k_iret (u := (0, r7)) hx hb hr hlk w rfl hf dX5_piece_145
      · replace hf := ite_t c6 hf
        refine lv_iload_n hx hb dX5_piece_38 rfl (lv_at hl 2 rfl) ?_
        refine lv_if_ne (tgt := 47) hx hb dX5_piece_39 (by decide) (fun c20 => ?_) (fun c20 => ?_)
        · replace hf := ite_f c20 hf
          refine lv_bipush (v := (-3)) hx hb dX5_piece_47 (by decide) ?_
          exact k_iret (u := (0, m_loads)) hx hb hr hlk w rfl hf dX5_piece_49
        · replace hf := ite_t c20 hf
          refine lv_bipush (v := (-9)) hx hb dX5_piece_42 (by decide) ?_
          refine lv_goto (tgt := 49) hx hb dX5_piece_44 (by decide) ?_
          exact k_iret (u := (0, m_loads)) hx hb hr hlk w rfl hf dX5_piece_49
    · replace hf := ite_t c4 hf
      refine lv_bipush (v := (-2)) hx hb dX5_piece_26 (by decide) ?_
      exact k_iret (u := (0, m_loads)) hx hb hr hlk w rfl hf dX5_piece_28
  · replace hf := ite_f c2 hf
    refine lv_iconst (v := (-1)) hx hb dX5_piece_12 (by decide) ?_
    exact k_iret (u := (0, m_loads)) hx hb hr hlk w rfl hf dX5_piece_13
-- X5_note
def fX5_note_L51   (m_acts : Int32) (m_page : Nat → Int32) : Nat → Int32 → (Nat → Int32) → Option (Int32 × (Nat → Int32))
  | 0, _, _ => none
  | n + 1, v1, m_book => (if 17 ≤ v1 then nm (m_acts + (1 : Int32)) (fun z2 => some (z2, m_book)) else gd v1 17 (nm (m_page (Int32.toNatClampNeg v1)) (fun z4 => gd (((17 : Int32) * m_acts) + v1) 238 (nm (v1 + 1) (fun z6 => fX5_note_L51 m_acts m_page n z6 (upd m_book (Int32.toNatClampNeg (((17 : Int32) * m_acts) + v1)) z4))))))
set_option maxRecDepth 100000 in
set_option maxHeartbeats 4000000 in
theorem tX5_note_L51 {p : Program} {l : Launch} {e : Env} {s : State} {m : MethodId} {args : Array Value} {below : List Frame} {meth : Method} {c : Code} {D : va_G} {cI cZ : ClassId} {b0 : Nat} {tt : Nat → Nat} {A : Nat → Prop}  {m_a q_text q_cards q_readCards q_readPage q_page q_trial q_loads q_book q_kept q_isKept q_heldWho q_heldForce q_heldLoad q_heldIs q_gains q_value : Nat}  {m_acts : Int32} {m_page : Nat → Int32} {m_thrown : Int32} {m_textSize : Int32} {m_place : Int32} {m_held : Int32} {m_seed : Int64} {m_tentMany : Int32} {m_tentFirst : Int32} {m_restMany : Int32} {m_restFirst : Int32} {m_text : Nat → Int32} {m_cards : Nat → Int32} {m_readCards : Nat → Int32} {m_readPage : Nat → Int32} {m_trial : Nat → Int32} {m_loads : Nat → Int32} {m_kept : Nat → Int32} {m_isKept : Nat → Int32} {m_heldWho : Nat → Int32} {m_heldForce : Nat → Int32} {m_heldLoad : Nat → Int32} {m_heldIs : Nat → Int32} {m_gains : Nat → Int32} {m_value : Nat → Int32} {res : Int32 × (Nat → Int32)} (C : Cx p s m args meth c cX5_note 2 none (cwX5_note :: GW) RX5) : ∀ (n : Nat) (v1 : Int32) (m_book : Nat → Int32) (H : Heap) (locs : List Loc) (ls : Array Slot), fX5_note_L51 m_acts m_page n v1 m_book = some res → Wd D cI cZ b0 tt A s [(m_a, .inr (5, [.int m_thrown, .ref q_text, .int m_textSize, .int m_place, .ref q_cards, .ref q_readCards, .ref q_readPage, .ref q_page, .ref q_trial, .ref q_loads, .ref q_book, .int m_acts, .ref q_kept, .ref q_isKept, .int m_held, .ref q_heldWho, .ref q_heldForce, .ref q_heldLoad, .ref q_heldIs, .long m_seed, .int m_tentMany, .int m_tentFirst, .int m_restMany, .int m_restFirst, .ref q_gains, .ref q_value])), (q_text, .inl (cI, 56, .inl m_text)), (q_cards, .inl (cI, 4, .inl m_cards)), (q_readCards, .inl (cI, 4, .inl m_readCards)), (q_readPage, .inl (cI, 17, .inl m_readPage)), (q_page, .inl (cI, 17, .inl m_page)), (q_trial, .inl (cI, 17, .inl m_trial)), (q_loads, .inl (cI, 16, .inl m_loads)), (q_book, .inl (cI, 238, .inl m_book)), (q_kept, .inl (cI, 34, .inl m_kept)), (q_isKept, .inl (cZ, 2, .inl m_isKept)), (q_heldWho, .inl (cI, 6, .inl m_heldWho)), (q_heldForce, .inl (cI, 6, .inl m_heldForce)), (q_heldLoad, .inl (cI, 6, .inl m_heldLoad)), (q_heldIs, .inl (cI, 6, .inl m_heldIs)), (q_gains, .inl (cI, 50, .inl m_gains)), (q_value, .inl (cI, 16, .inl m_value))] H locs → lv_has ls 2 [(0, .ref m_a), (1, .int v1)] → W p l e (rmo 0 0) s m args below meth c H locs 0 0 (MQ below (QV D (fun u : Int32 × (Nat → Int32) => [(m_a, .inr (5, [.int m_thrown, .ref q_text, .int m_textSize, .int m_place, .ref q_cards, .ref q_readCards, .ref q_readPage, .ref q_page, .ref q_trial, .ref q_loads, .ref q_book, .int u.1, .ref q_kept, .ref q_isKept, .int m_held, .ref q_heldWho, .ref q_heldForce, .ref q_heldLoad, .ref q_heldIs, .long m_seed, .int m_tentMany, .int m_tentFirst, .int m_restMany, .int m_restFirst, .ref q_gains, .ref q_value])), (q_text, .inl (cI, 56, .inl m_text)), (q_cards, .inl (cI, 4, .inl m_cards)), (q_readCards, .inl (cI, 4, .inl m_readCards)), (q_readPage, .inl (cI, 17, .inl m_readPage)), (q_page, .inl (cI, 17, .inl m_page)), (q_trial, .inl (cI, 17, .inl m_trial)), (q_loads, .inl (cI, 16, .inl m_loads)), (q_book, .inl (cI, 238, .inl u.2)), (q_kept, .inl (cI, 34, .inl m_kept)), (q_isKept, .inl (cZ, 2, .inl m_isKept)), (q_heldWho, .inl (cI, 6, .inl m_heldWho)), (q_heldForce, .inl (cI, 6, .inl m_heldForce)), (q_heldLoad, .inl (cI, 6, .inl m_heldLoad)), (q_heldIs, .inl (cI, 6, .inl m_heldIs)), (q_gains, .inl (cI, 50, .inl m_gains)), (q_value, .inl (cI, 16, .inl m_value))]) A res) args s 0 0 A) (F0 m 51 ls []) := by
  obtain ⟨hx, hb, hr, hml, hown, hts, hlk⟩ := id C
  have hg : ∀ w ∈ GW, w.before args s = true := fun w h => hts w (List.mem_cons_of_mem _ h)
  intro n
  induction n with
  | zero =>
    intro _ _ H locs ls hf
    rw [fX5_note_L51] at hf
    cases hf
  | succ n ih =>
    intro v1 m_book H locs ls hf w hl
    rw [fX5_note_L51] at hf
    refine lv_iload_n hx hb dX5_note_51 rfl (lv_at hl 1 rfl) ?_
    refine lv_bipush (v := 17) hx hb dX5_note_52 (by decide) ?_
    refine lv_icmp_ge (tgt := 83) hx hb dX5_note_54 (by decide) (fun c1 => ?_) (fun c1 => ?_)
    · replace hf := ite_t c1 hf
      refine lv_aload_n hx hb dX5_note_83 rfl (lv_at hl 0 rfl) ?_
      refine lv_dup hx hb dX5_note_84 rfl ?_
      refine va_get (D := D) (ci := 5) (v := .int m_acts) (C := RX5) (T := TX5) (N := 26) hx hb hg iX5 hown w.2.2.2.2.2.2.1 w.1 0 rfl rfl 11 (by decide) (hg _ w_500) (fun _ h9 => h9) rfl dX5_note_85 ?_
      refine lv_iconst (v := 1) hx hb dX5_note_88 (by decide) ?_
      refine lv_iadd hx hb dX5_note_89 ?_
      refine lv_topi (fun z2 ez2 => ?_)
      replace hf := nm_at ez2 hf
      refine k_put (ci := 5) (v := .int z2) (ty := .int) (C := RX5) (T := TX5) (N := 26) hx hb hg iX5 tyX5 tyX5_ok nmX5 hown w 0 rfl rfl 11 (by decide) (hg _ w_500) (fun _ h9 => h9) rfl pd_I rfl rfl (Nat.le_of_ble_eq_true rfl) dX5_note_90 (fun H locs w => ?_)
      have w : Wd D cI cZ b0 tt A s [(m_a, .inr (5, [.int m_thrown, .ref q_text, .int m_textSize, .int m_place, .ref q_cards, .ref q_readCards, .ref q_readPage, .ref q_page, .ref q_trial, .ref q_loads, .ref q_book, .int z2, .ref q_kept, .ref q_isKept, .int m_held, .ref q_heldWho, .ref q_heldForce, .ref q_heldLoad, .ref q_heldIs, .long m_seed, .int m_tentMany, .int m_tentFirst, .int m_restMany, .int m_restFirst, .ref q_gains, .ref q_value])), (q_text, .inl (cI, 56, .inl m_text)), (q_cards, .inl (cI, 4, .inl m_cards)), (q_readCards, .inl (cI, 4, .inl m_readCards)), (q_readPage, .inl (cI, 17, .inl m_readPage)), (q_page, .inl (cI, 17, .inl m_page)), (q_trial, .inl (cI, 17, .inl m_trial)), (q_loads, .inl (cI, 16, .inl m_loads)), (q_book, .inl (cI, 238, .inl m_book)), (q_kept, .inl (cI, 34, .inl m_kept)), (q_isKept, .inl (cZ, 2, .inl m_isKept)), (q_heldWho, .inl (cI, 6, .inl m_heldWho)), (q_heldForce, .inl (cI, 6, .inl m_heldForce)), (q_heldLoad, .inl (cI, 6, .inl m_heldLoad)), (q_heldIs, .inl (cI, 6, .inl m_heldIs)), (q_gains, .inl (cI, 50, .inl m_gains)), (q_value, .inl (cI, 16, .inl m_value))] H locs := w
      exact k_vret (u := (z2, m_book)) hx hb hr hlk w rfl hf dX5_note_93
    · replace hf := ite_f c1 hf
      refine lv_aload_n hx hb dX5_note_57 rfl (lv_at hl 0 rfl) ?_
      refine va_get (D := D) (ci := 5) (v := .ref q_book) (C := RX5) (T := TX5) (N := 26) hx hb hg iX5 hown w.2.2.2.2.2.2.1 w.1 0 rfl rfl 10 (by decide) (hg _ w_499) (fun _ h9 => h9) rfl dX5_note_58 ?_
      refine lv_bipush (v := 17) hx hb dX5_note_61 (by decide) ?_
      refine lv_aload_n hx hb dX5_note_63 rfl (lv_at hl 0 rfl) ?_
      refine va_get (D := D) (ci := 5) (v := .int m_acts) (C := RX5) (T := TX5) (N := 26) hx hb hg iX5 hown w.2.2.2.2.2.2.1 w.1 0 rfl rfl 11 (by decide) (hg _ w_500) (fun _ h9 => h9) rfl dX5_note_64 ?_
      refine lv_imul hx hb dX5_note_67 ?_
      refine lv_iload_n hx hb dX5_note_68 rfl (lv_at hl 1 rfl) ?_
      refine lv_iadd hx hb dX5_note_69 ?_
      refine lv_aload_n hx hb dX5_note_70 rfl (lv_at hl 0 rfl) ?_
      refine va_get (D := D) (ci := 5) (v := .ref q_page) (C := RX5) (T := TX5) (N := 26) hx hb hg iX5 hown w.2.2.2.2.2.2.1 w.1 0 rfl rfl 7 (by decide) (hg _ w_496) (fun _ h9 => h9) rfl dX5_note_71 ?_
      refine lv_iload_n hx hb dX5_note_74 rfl (lv_at hl 1 rfl) ?_
      replace hf := gd_at hf
      obtain ⟨hi3, hf⟩ := hf
      refine va_iald hx hb w.2.2.2.2.2.2.1 w.1 5 0 rfl rfl hi3 dX5_note_75 ?_
      refine lv_topi (fun z4 ez4 => ?_)
      replace hf := nm_at ez4 hf
      replace hf := gd_at hf
      obtain ⟨hi5, hf⟩ := hf
      refine k_iast hx hb w 8 rfl hi5 dX5_note_76 (fun H locs w => ?_)
      have w : Wd D cI cZ b0 tt A s [(m_a, .inr (5, [.int m_thrown, .ref q_text, .int m_textSize, .int m_place, .ref q_cards, .ref q_readCards, .ref q_readPage, .ref q_page, .ref q_trial, .ref q_loads, .ref q_book, .int m_acts, .ref q_kept, .ref q_isKept, .int m_held, .ref q_heldWho, .ref q_heldForce, .ref q_heldLoad, .ref q_heldIs, .long m_seed, .int m_tentMany, .int m_tentFirst, .int m_restMany, .int m_restFirst, .ref q_gains, .ref q_value])), (q_text, .inl (cI, 56, .inl m_text)), (q_cards, .inl (cI, 4, .inl m_cards)), (q_readCards, .inl (cI, 4, .inl m_readCards)), (q_readPage, .inl (cI, 17, .inl m_readPage)), (q_page, .inl (cI, 17, .inl m_page)), (q_trial, .inl (cI, 17, .inl m_trial)), (q_loads, .inl (cI, 16, .inl m_loads)), (q_book, .inl (cI, 238, .inl (upd m_book (Int32.toNatClampNeg (((17 : Int32) * m_acts) + v1)) z4))), (q_kept, .inl (cI, 34, .inl m_kept)), (q_isKept, .inl (cZ, 2, .inl m_isKept)), (q_heldWho, .inl (cI, 6, .inl m_heldWho)), (q_heldForce, .inl (cI, 6, .inl m_heldForce)), (q_heldLoad, .inl (cI, 6, .inl m_heldLoad)), (q_heldIs, .inl (cI, 6, .inl m_heldIs)), (q_gains, .inl (cI, 50, .inl m_gains)), (q_value, .inl (cI, 16, .inl m_value))] H locs := w
      obtain ⟨z6, ez6⟩ : ∃ y : Int32, y = (v1 + 1) := ⟨_, rfl⟩
      replace hf := nm_at ez6 hf
      refine lv_iinc (v := z6) (lv' := [(1, .int z6), (0, .ref m_a)]) hx hb dX5_note_77 hl (k := 1) rfl (by rw [ez6]; rfl) (by decide) rfl (fun ls hl => ?_)
      refine lv_goto (tgt := 51) hx hb dX5_note_80 (by decide) ?_
      exact ih z6 (upd m_book (Int32.toNatClampNeg (((17 : Int32) * m_acts) + v1)) z4) H locs ls hf w (lv_sub hl [1, 0] rfl)
def fX5_note_L11   (m_acts : Int32) (m_page : Nat → Int32) : Nat → Int32 → (Nat → Int32) → Option (Int32 × (Nat → Int32))
  | 0, _, _ => none
  | n + 1, v1, m_book => (if 221 ≤ v1 then nm (m_acts - (1 : Int32)) (fun z8 => fX5_note_L51 z8 m_page FU 0 m_book) else gd (v1 + (17 : Int32)) 238 (nm (m_book (Int32.toNatClampNeg (v1 + (17 : Int32)))) (fun z10 => gd v1 238 (nm (v1 + 1) (fun z12 => fX5_note_L11 m_acts m_page n z12 (upd m_book (Int32.toNatClampNeg v1) z10))))))
set_option maxRecDepth 100000 in
set_option maxHeartbeats 4000000 in
theorem tX5_note_L11 {p : Program} {l : Launch} {e : Env} {s : State} {m : MethodId} {args : Array Value} {below : List Frame} {meth : Method} {c : Code} {D : va_G} {cI cZ : ClassId} {b0 : Nat} {tt : Nat → Nat} {A : Nat → Prop}  {m_a q_text q_cards q_readCards q_readPage q_page q_trial q_loads q_book q_kept q_isKept q_heldWho q_heldForce q_heldLoad q_heldIs q_gains q_value : Nat}  {m_acts : Int32} {m_page : Nat → Int32} {m_thrown : Int32} {m_textSize : Int32} {m_place : Int32} {m_held : Int32} {m_seed : Int64} {m_tentMany : Int32} {m_tentFirst : Int32} {m_restMany : Int32} {m_restFirst : Int32} {m_text : Nat → Int32} {m_cards : Nat → Int32} {m_readCards : Nat → Int32} {m_readPage : Nat → Int32} {m_trial : Nat → Int32} {m_loads : Nat → Int32} {m_kept : Nat → Int32} {m_isKept : Nat → Int32} {m_heldWho : Nat → Int32} {m_heldForce : Nat → Int32} {m_heldLoad : Nat → Int32} {m_heldIs : Nat → Int32} {m_gains : Nat → Int32} {m_value : Nat → Int32} {res : Int32 × (Nat → Int32)} (C : Cx p s m args meth c cX5_note 2 none (cwX5_note :: GW) RX5) : ∀ (n : Nat) (v1 : Int32) (m_book : Nat → Int32) (H : Heap) (locs : List Loc) (ls : Array Slot), fX5_note_L11 m_acts m_page n v1 m_book = some res → Wd D cI cZ b0 tt A s [(m_a, .inr (5, [.int m_thrown, .ref q_text, .int m_textSize, .int m_place, .ref q_cards, .ref q_readCards, .ref q_readPage, .ref q_page, .ref q_trial, .ref q_loads, .ref q_book, .int m_acts, .ref q_kept, .ref q_isKept, .int m_held, .ref q_heldWho, .ref q_heldForce, .ref q_heldLoad, .ref q_heldIs, .long m_seed, .int m_tentMany, .int m_tentFirst, .int m_restMany, .int m_restFirst, .ref q_gains, .ref q_value])), (q_text, .inl (cI, 56, .inl m_text)), (q_cards, .inl (cI, 4, .inl m_cards)), (q_readCards, .inl (cI, 4, .inl m_readCards)), (q_readPage, .inl (cI, 17, .inl m_readPage)), (q_page, .inl (cI, 17, .inl m_page)), (q_trial, .inl (cI, 17, .inl m_trial)), (q_loads, .inl (cI, 16, .inl m_loads)), (q_book, .inl (cI, 238, .inl m_book)), (q_kept, .inl (cI, 34, .inl m_kept)), (q_isKept, .inl (cZ, 2, .inl m_isKept)), (q_heldWho, .inl (cI, 6, .inl m_heldWho)), (q_heldForce, .inl (cI, 6, .inl m_heldForce)), (q_heldLoad, .inl (cI, 6, .inl m_heldLoad)), (q_heldIs, .inl (cI, 6, .inl m_heldIs)), (q_gains, .inl (cI, 50, .inl m_gains)), (q_value, .inl (cI, 16, .inl m_value))] H locs → lv_has ls 2 [(0, .ref m_a), (1, .int v1)] → W p l e (rmo 0 0) s m args below meth c H locs 0 0 (MQ below (QV D (fun u : Int32 × (Nat → Int32) => [(m_a, .inr (5, [.int m_thrown, .ref q_text, .int m_textSize, .int m_place, .ref q_cards, .ref q_readCards, .ref q_readPage, .ref q_page, .ref q_trial, .ref q_loads, .ref q_book, .int u.1, .ref q_kept, .ref q_isKept, .int m_held, .ref q_heldWho, .ref q_heldForce, .ref q_heldLoad, .ref q_heldIs, .long m_seed, .int m_tentMany, .int m_tentFirst, .int m_restMany, .int m_restFirst, .ref q_gains, .ref q_value])), (q_text, .inl (cI, 56, .inl m_text)), (q_cards, .inl (cI, 4, .inl m_cards)), (q_readCards, .inl (cI, 4, .inl m_readCards)), (q_readPage, .inl (cI, 17, .inl m_readPage)), (q_page, .inl (cI, 17, .inl m_page)), (q_trial, .inl (cI, 17, .inl m_trial)), (q_loads, .inl (cI, 16, .inl m_loads)), (q_book, .inl (cI, 238, .inl u.2)), (q_kept, .inl (cI, 34, .inl m_kept)), (q_isKept, .inl (cZ, 2, .inl m_isKept)), (q_heldWho, .inl (cI, 6, .inl m_heldWho)), (q_heldForce, .inl (cI, 6, .inl m_heldForce)), (q_heldLoad, .inl (cI, 6, .inl m_heldLoad)), (q_heldIs, .inl (cI, 6, .inl m_heldIs)), (q_gains, .inl (cI, 50, .inl m_gains)), (q_value, .inl (cI, 16, .inl m_value))]) A res) args s 0 0 A) (F0 m 11 ls []) := by
  obtain ⟨hx, hb, hr, hml, hown, hts, hlk⟩ := id C
  have hg : ∀ w ∈ GW, w.before args s = true := fun w h => hts w (List.mem_cons_of_mem _ h)
  intro n
  induction n with
  | zero =>
    intro _ _ H locs ls hf
    rw [fX5_note_L11] at hf
    cases hf
  | succ n ih =>
    intro v1 m_book H locs ls hf w hl
    rw [fX5_note_L11] at hf
    refine lv_iload_n hx hb dX5_note_11 rfl (lv_at hl 1 rfl) ?_
    refine lv_sipush (v := 221) hx hb dX5_note_12 (by decide) ?_
    refine lv_icmp_ge (tgt := 39) hx hb dX5_note_15 (by decide) (fun c7 => ?_) (fun c7 => ?_)
    · replace hf := ite_t c7 hf
      refine lv_aload_n hx hb dX5_note_39 rfl (lv_at hl 0 rfl) ?_
      refine lv_dup hx hb dX5_note_40 rfl ?_
      refine va_get (D := D) (ci := 5) (v := .int m_acts) (C := RX5) (T := TX5) (N := 26) hx hb hg iX5 hown w.2.2.2.2.2.2.1 w.1 0 rfl rfl 11 (by decide) (hg _ w_500) (fun _ h9 => h9) rfl dX5_note_41 ?_
      refine lv_iconst (v := 1) hx hb dX5_note_44 (by decide) ?_
      refine lv_isub hx hb dX5_note_45 ?_
      refine lv_topi (fun z8 ez8 => ?_)
      replace hf := nm_at ez8 hf
      refine k_put (ci := 5) (v := .int z8) (ty := .int) (C := RX5) (T := TX5) (N := 26) hx hb hg iX5 tyX5 tyX5_ok nmX5 hown w 0 rfl rfl 11 (by decide) (hg _ w_500) (fun _ h9 => h9) rfl pd_I rfl rfl (Nat.le_of_ble_eq_true rfl) dX5_note_46 (fun H locs w => ?_)
      have w : Wd D cI cZ b0 tt A s [(m_a, .inr (5, [.int m_thrown, .ref q_text, .int m_textSize, .int m_place, .ref q_cards, .ref q_readCards, .ref q_readPage, .ref q_page, .ref q_trial, .ref q_loads, .ref q_book, .int z8, .ref q_kept, .ref q_isKept, .int m_held, .ref q_heldWho, .ref q_heldForce, .ref q_heldLoad, .ref q_heldIs, .long m_seed, .int m_tentMany, .int m_tentFirst, .int m_restMany, .int m_restFirst, .ref q_gains, .ref q_value])), (q_text, .inl (cI, 56, .inl m_text)), (q_cards, .inl (cI, 4, .inl m_cards)), (q_readCards, .inl (cI, 4, .inl m_readCards)), (q_readPage, .inl (cI, 17, .inl m_readPage)), (q_page, .inl (cI, 17, .inl m_page)), (q_trial, .inl (cI, 17, .inl m_trial)), (q_loads, .inl (cI, 16, .inl m_loads)), (q_book, .inl (cI, 238, .inl m_book)), (q_kept, .inl (cI, 34, .inl m_kept)), (q_isKept, .inl (cZ, 2, .inl m_isKept)), (q_heldWho, .inl (cI, 6, .inl m_heldWho)), (q_heldForce, .inl (cI, 6, .inl m_heldForce)), (q_heldLoad, .inl (cI, 6, .inl m_heldLoad)), (q_heldIs, .inl (cI, 6, .inl m_heldIs)), (q_gains, .inl (cI, 50, .inl m_gains)), (q_value, .inl (cI, 16, .inl m_value))] H locs := w
      refine lv_iconst (v := 0) hx hb dX5_note_49 (by decide) ?_
      refine lv_istore_n (lv' := [(1, .int 0), (0, .ref m_a)]) hx hb dX5_note_50 rfl hl (by decide) rfl (fun ls hl => ?_)
      exact tX5_note_L51 (m_acts := z8) (m_page := m_page) (m_thrown := m_thrown) (m_textSize := m_textSize) (m_place := m_place) (m_held := m_held) (m_seed := m_seed) (m_tentMany := m_tentMany) (m_tentFirst := m_tentFirst) (m_restMany := m_restMany) (m_restFirst := m_restFirst) (m_text := m_text) (m_cards := m_cards) (m_readCards := m_readCards) (m_readPage := m_readPage) (m_trial := m_trial) (m_loads := m_loads) (m_kept := m_kept) (m_isKept := m_isKept) (m_heldWho := m_heldWho) (m_heldForce := m_heldForce) (m_heldLoad := m_heldLoad) (m_heldIs := m_heldIs) (m_gains := m_gains) (m_value := m_value) (C := C) FU 0 m_book H locs ls hf w (lv_sub hl [1, 0] rfl)
    · replace hf := ite_f c7 hf
      refine lv_aload_n hx hb dX5_note_18 rfl (lv_at hl 0 rfl) ?_
      refine va_get (D := D) (ci := 5) (v := .ref q_book) (C := RX5) (T := TX5) (N := 26) hx hb hg iX5 hown w.2.2.2.2.2.2.1 w.1 0 rfl rfl 10 (by decide) (hg _ w_499) (fun _ h9 => h9) rfl dX5_note_19 ?_
      refine lv_iload_n hx hb dX5_note_22 rfl (lv_at hl 1 rfl) ?_
      refine lv_aload_n hx hb dX5_note_23 rfl (lv_at hl 0 rfl) ?_
      refine va_get (D := D) (ci := 5) (v := .ref q_book) (C := RX5) (T := TX5) (N := 26) hx hb hg iX5 hown w.2.2.2.2.2.2.1 w.1 0 rfl rfl 10 (by decide) (hg _ w_499) (fun _ h9 => h9) rfl dX5_note_24 ?_
      refine lv_iload_n hx hb dX5_note_27 rfl (lv_at hl 1 rfl) ?_
      refine lv_bipush (v := 17) hx hb dX5_note_28 (by decide) ?_
      refine lv_iadd hx hb dX5_note_30 ?_
      replace hf := gd_at hf
      obtain ⟨hi9, hf⟩ := hf
      refine va_iald hx hb w.2.2.2.2.2.2.1 w.1 8 0 rfl rfl hi9 dX5_note_31 ?_
      refine lv_topi (fun z10 ez10 => ?_)
      replace hf := nm_at ez10 hf
      replace hf := gd_at hf
      obtain ⟨hi11, hf⟩ := hf
      refine k_iast hx hb w 8 rfl hi11 dX5_note_32 (fun H locs w => ?_)
      have w : Wd D cI cZ b0 tt A s [(m_a, .inr (5, [.int m_thrown, .ref q_text, .int m_textSize, .int m_place, .ref q_cards, .ref q_readCards, .ref q_readPage, .ref q_page, .ref q_trial, .ref q_loads, .ref q_book, .int m_acts, .ref q_kept, .ref q_isKept, .int m_held, .ref q_heldWho, .ref q_heldForce, .ref q_heldLoad, .ref q_heldIs, .long m_seed, .int m_tentMany, .int m_tentFirst, .int m_restMany, .int m_restFirst, .ref q_gains, .ref q_value])), (q_text, .inl (cI, 56, .inl m_text)), (q_cards, .inl (cI, 4, .inl m_cards)), (q_readCards, .inl (cI, 4, .inl m_readCards)), (q_readPage, .inl (cI, 17, .inl m_readPage)), (q_page, .inl (cI, 17, .inl m_page)), (q_trial, .inl (cI, 17, .inl m_trial)), (q_loads, .inl (cI, 16, .inl m_loads)), (q_book, .inl (cI, 238, .inl (upd m_book (Int32.toNatClampNeg v1) z10))), (q_kept, .inl (cI, 34, .inl m_kept)), (q_isKept, .inl (cZ, 2, .inl m_isKept)), (q_heldWho, .inl (cI, 6, .inl m_heldWho)), (q_heldForce, .inl (cI, 6, .inl m_heldForce)), (q_heldLoad, .inl (cI, 6, .inl m_heldLoad)), (q_heldIs, .inl (cI, 6, .inl m_heldIs)), (q_gains, .inl (cI, 50, .inl m_gains)), (q_value, .inl (cI, 16, .inl m_value))] H locs := w
      obtain ⟨z12, ez12⟩ : ∃ y : Int32, y = (v1 + 1) := ⟨_, rfl⟩
      replace hf := nm_at ez12 hf
      refine lv_iinc (v := z12) (lv' := [(1, .int z12), (0, .ref m_a)]) hx hb dX5_note_33 hl (k := 1) rfl (by rw [ez12]; rfl) (by decide) rfl (fun ls hl => ?_)
      refine lv_goto (tgt := 11) hx hb dX5_note_36 (by decide) ?_
      exact ih z12 (upd m_book (Int32.toNatClampNeg v1) z10) H locs ls hf w (lv_sub hl [1, 0] rfl)
def fX5_note  (m_acts : Int32) (m_page : Nat → Int32) (m_book : Nat → Int32) : Option (Int32 × (Nat → Int32)) := (if m_acts = 14 then fX5_note_L11 m_acts m_page FU 0 m_book else fX5_note_L51 m_acts m_page FU 0 m_book)
set_option maxRecDepth 100000 in
set_option maxHeartbeats 4000000 in
theorem tX5_note (l : Launch) (D : va_G) (cI cZ : ClassId) (b0 : Nat) (tt : Nat → Nat)  (m_a q_text q_cards q_readCards q_readPage q_page q_trial q_loads q_book q_kept q_isKept q_heldWho q_heldForce q_heldLoad q_heldIs q_gains q_value : Nat) (m_thrown : Int32) (m_textSize : Int32) (m_place : Int32) (m_acts : Int32) (m_held : Int32) (m_seed : Int64) (m_tentMany : Int32) (m_tentFirst : Int32) (m_restMany : Int32) (m_restFirst : Int32) (m_text : Nat → Int32) (m_cards : Nat → Int32) (m_readCards : Nat → Int32) (m_readPage : Nat → Int32) (m_page : Nat → Int32) (m_trial : Nat → Int32) (m_loads : Nat → Int32) (m_book : Nat → Int32) (m_kept : Nat → Int32) (m_isKept : Nat → Int32) (m_heldWho : Nat → Int32) (m_heldForce : Nat → Int32) (m_heldLoad : Nat → Int32) (m_heldIs : Nat → Int32) (m_gains : Nat → Int32) (m_value : Nat → Int32)  {res : Int32 × (Nat → Int32)} (hf : fX5_note m_acts m_page m_book = some res) : CtV l yX5_note (cwX5_note :: GW) 0 0 D cI cZ b0 tt [.ref m_a] (fun u : Int32 × (Nat → Int32) => [(m_a, .inr (5, [.int m_thrown, .ref q_text, .int m_textSize, .int m_place, .ref q_cards, .ref q_readCards, .ref q_readPage, .ref q_page, .ref q_trial, .ref q_loads, .ref q_book, .int u.1, .ref q_kept, .ref q_isKept, .int m_held, .ref q_heldWho, .ref q_heldForce, .ref q_heldLoad, .ref q_heldIs, .long m_seed, .int m_tentMany, .int m_tentFirst, .int m_restMany, .int m_restFirst, .ref q_gains, .ref q_value])), (q_text, .inl (cI, 56, .inl m_text)), (q_cards, .inl (cI, 4, .inl m_cards)), (q_readCards, .inl (cI, 4, .inl m_readCards)), (q_readPage, .inl (cI, 17, .inl m_readPage)), (q_page, .inl (cI, 17, .inl m_page)), (q_trial, .inl (cI, 17, .inl m_trial)), (q_loads, .inl (cI, 16, .inl m_loads)), (q_book, .inl (cI, 238, .inl u.2)), (q_kept, .inl (cI, 34, .inl m_kept)), (q_isKept, .inl (cZ, 2, .inl m_isKept)), (q_heldWho, .inl (cI, 6, .inl m_heldWho)), (q_heldForce, .inl (cI, 6, .inl m_heldForce)), (q_heldLoad, .inl (cI, 6, .inl m_heldLoad)), (q_heldIs, .inl (cI, 6, .inl m_heldIs)), (q_gains, .inl (cI, 50, .inl m_gains)), (q_value, .inl (cI, 16, .inl m_value))]) (m_acts, m_book) res := by
  intro sz
  refine k_begin (cc := cX5_note) (maxL := 2) (ret := none) (by decide) rfl (Nat.le_of_ble_eq_true rfl) ?_
  intro p e s m below meth c ls C w hl
  generalize va_A _ sz = A at w ⊢
  have w : Wd D cI cZ b0 tt A s [(m_a, .inr (5, [.int m_thrown, .ref q_text, .int m_textSize, .int m_place, .ref q_cards, .ref q_readCards, .ref q_readPage, .ref q_page, .ref q_trial, .ref q_loads, .ref q_book, .int m_acts, .ref q_kept, .ref q_isKept, .int m_held, .ref q_heldWho, .ref q_heldForce, .ref q_heldLoad, .ref q_heldIs, .long m_seed, .int m_tentMany, .int m_tentFirst, .int m_restMany, .int m_restFirst, .ref q_gains, .ref q_value])), (q_text, .inl (cI, 56, .inl m_text)), (q_cards, .inl (cI, 4, .inl m_cards)), (q_readCards, .inl (cI, 4, .inl m_readCards)), (q_readPage, .inl (cI, 17, .inl m_readPage)), (q_page, .inl (cI, 17, .inl m_page)), (q_trial, .inl (cI, 17, .inl m_trial)), (q_loads, .inl (cI, 16, .inl m_loads)), (q_book, .inl (cI, 238, .inl m_book)), (q_kept, .inl (cI, 34, .inl m_kept)), (q_isKept, .inl (cZ, 2, .inl m_isKept)), (q_heldWho, .inl (cI, 6, .inl m_heldWho)), (q_heldForce, .inl (cI, 6, .inl m_heldForce)), (q_heldLoad, .inl (cI, 6, .inl m_heldLoad)), (q_heldIs, .inl (cI, 6, .inl m_heldIs)), (q_gains, .inl (cI, 50, .inl m_gains)), (q_value, .inl (cI, 16, .inl m_value))] s.heap [] := w
  have hl : lv_has ls 2 [(0, .ref m_a)] := hl
  obtain ⟨H, eH⟩ : ∃ H, H = s.heap := ⟨_, rfl⟩
  rw [← eH] at w ⊢
  generalize ([] : List Loc) = locs at w ⊢
  generalize List.toArray _ = args at C ⊢
  obtain ⟨hx, hb, hr, hml, hown, hts, hlk⟩ := id C
  have hg : ∀ w ∈ GW, w.before args s = true := fun w h => hts w (List.mem_cons_of_mem _ h)
  unfold fX5_note at hf
  refine lv_aload_n hx hb dX5_note_0 rfl (lv_at hl 0 rfl) ?_
  refine va_get (D := D) (ci := 5) (v := .int m_acts) (C := RX5) (T := TX5) (N := 26) hx hb hg iX5 hown w.2.2.2.2.2.2.1 w.1 0 rfl rfl 11 (by decide) (hg _ w_500) (fun _ h9 => h9) rfl dX5_note_1 ?_
  refine lv_bipush (v := 14) hx hb dX5_note_4 (by decide) ?_
  refine lv_icmp_ne (tgt := 49) hx hb dX5_note_6 (by decide) (fun c13 => ?_) (fun c13 => ?_)
  · replace hf := ite_f c13 hf
    refine lv_iconst (v := 0) hx hb dX5_note_49 (by decide) ?_
    refine lv_istore_n (lv' := [(1, .int 0), (0, .ref m_a)]) hx hb dX5_note_50 rfl hl (by decide) rfl (fun ls hl => ?_)
    exact tX5_note_L51 (m_acts := m_acts) (m_page := m_page) (m_thrown := m_thrown) (m_textSize := m_textSize) (m_place := m_place) (m_held := m_held) (m_seed := m_seed) (m_tentMany := m_tentMany) (m_tentFirst := m_tentFirst) (m_restMany := m_restMany) (m_restFirst := m_restFirst) (m_text := m_text) (m_cards := m_cards) (m_readCards := m_readCards) (m_readPage := m_readPage) (m_trial := m_trial) (m_loads := m_loads) (m_kept := m_kept) (m_isKept := m_isKept) (m_heldWho := m_heldWho) (m_heldForce := m_heldForce) (m_heldLoad := m_heldLoad) (m_heldIs := m_heldIs) (m_gains := m_gains) (m_value := m_value) (C := C) FU 0 m_book H locs ls hf w (lv_sub hl [1, 0] rfl)
  · replace hf := ite_t c13 hf
    refine lv_iconst (v := 0) hx hb dX5_note_9 (by decide) ?_
    refine lv_istore_n (lv' := [(1, .int 0), (0, .ref m_a)]) hx hb dX5_note_10 rfl hl (by decide) rfl (fun ls hl => ?_)
    exact tX5_note_L11 (m_acts := m_acts) (m_page := m_page) (m_thrown := m_thrown) (m_textSize := m_textSize) (m_place := m_place) (m_held := m_held) (m_seed := m_seed) (m_tentMany := m_tentMany) (m_tentFirst := m_tentFirst) (m_restMany := m_restMany) (m_restFirst := m_restFirst) (m_text := m_text) (m_cards := m_cards) (m_readCards := m_readCards) (m_readPage := m_readPage) (m_trial := m_trial) (m_loads := m_loads) (m_kept := m_kept) (m_isKept := m_isKept) (m_heldWho := m_heldWho) (m_heldForce := m_heldForce) (m_heldLoad := m_heldLoad) (m_heldIs := m_heldIs) (m_gains := m_gains) (m_value := m_value) (C := C) FU 0 m_book H locs ls hf w (lv_sub hl [1, 0] rfl)
-- X5_canPut
def fX5_canPut  (g_h : Nat → Int32) (m_cards : Nat → Int32) (a2 : Int32) (a3 : Int32) : Option (Int32) := gd a2 17 ((if (g_h (Int32.toNatClampNeg a2)) = 0 then ob (fX5_below a2) (fun r3 => ob (fX5_there g_h) (fun r4 => (if (r3 &&& (r4 ^^^ ((-1) : Int32))) = 0 then ob (fX5_left g_h m_cards a3) (fun r6 => ob (fX5_need a2) (fun r7 => (if r6 < r7 then some 0 else some 1))) else some 0))) else some 0))
set_option maxRecDepth 100000 in
set_option maxHeartbeats 4000000 in
theorem tX5_canPut (l : Launch) (D : va_G) (cI cZ : ClassId) (b0 : Nat) (tt : Nat → Nat)  (m_a q_text q_cards q_readCards q_readPage q_page q_trial q_loads q_book q_kept q_isKept q_heldWho q_heldForce q_heldLoad q_heldIs q_gains q_value g_a : Nat) (m_thrown : Int32) (m_textSize : Int32) (m_place : Int32) (m_acts : Int32) (m_held : Int32) (m_seed : Int64) (m_tentMany : Int32) (m_tentFirst : Int32) (m_restMany : Int32) (m_restFirst : Int32) (g_h : Nat → Int32) (m_loads : Nat → Int32) (m_cards : Nat → Int32) (a2 : Int32) (a3 : Int32) {res : Int32} (hf : fX5_canPut g_h m_cards a2 a3 = some res) : CtI l yX5_canPut (cwX5_canPut :: GW) 4 85 D cI cZ b0 tt [.ref m_a, .ref g_a, .int a2, .int a3] (fun _ : Unit => [(m_a, .inr (5, [.int m_thrown, .ref q_text, .int m_textSize, .int m_place, .ref q_cards, .ref q_readCards, .ref q_readPage, .ref q_page, .ref q_trial, .ref q_loads, .ref q_book, .int m_acts, .ref q_kept, .ref q_isKept, .int m_held, .ref q_heldWho, .ref q_heldForce, .ref q_heldLoad, .ref q_heldIs, .long m_seed, .int m_tentMany, .int m_tentFirst, .int m_restMany, .int m_restFirst, .ref q_gains, .ref q_value])), (g_a, .inl (cI, 17, .inl g_h)), (q_loads, .inl (cI, 16, .inl m_loads)), (q_cards, .inl (cI, 4, .inl m_cards))]) () (res, ()) := by
  intro sz
  refine k_begin (cc := cX5_canPut) (maxL := 4) (ret := (some .boolean)) (by decide) rfl (Nat.le_of_ble_eq_true rfl) ?_
  intro p e s m below meth c ls C w hl
  generalize va_A _ sz = A at w ⊢
  have w : Wd D cI cZ b0 tt A s [(m_a, .inr (5, [.int m_thrown, .ref q_text, .int m_textSize, .int m_place, .ref q_cards, .ref q_readCards, .ref q_readPage, .ref q_page, .ref q_trial, .ref q_loads, .ref q_book, .int m_acts, .ref q_kept, .ref q_isKept, .int m_held, .ref q_heldWho, .ref q_heldForce, .ref q_heldLoad, .ref q_heldIs, .long m_seed, .int m_tentMany, .int m_tentFirst, .int m_restMany, .int m_restFirst, .ref q_gains, .ref q_value])), (g_a, .inl (cI, 17, .inl g_h)), (q_loads, .inl (cI, 16, .inl m_loads)), (q_cards, .inl (cI, 4, .inl m_cards))] s.heap [] := w
  have hl : lv_has ls 4 [(0, .ref m_a), (1, .ref g_a), (2, .int a2), (3, .int a3)] := hl
  obtain ⟨H, eH⟩ : ∃ H, H = s.heap := ⟨_, rfl⟩
  rw [← eH] at w ⊢
  generalize ([] : List Loc) = locs at w ⊢
  generalize List.toArray _ = args at C ⊢
  obtain ⟨hx, hb, hr, hml, hown, hts, hlk⟩ := id C
  have hg : ∀ w ∈ GW, w.before args s = true := fun w h => hts w (List.mem_cons_of_mem _ h)
  unfold fX5_canPut at hf
  refine lv_aload_n hx hb dX5_canPut_0 rfl (lv_at hl 1 rfl) ?_
  refine lv_iload_n hx hb dX5_canPut_1 rfl (lv_at hl 2 rfl) ?_
  replace hf := gd_at hf
  obtain ⟨hi1, hf⟩ := hf
  refine va_iald hx hb w.2.2.2.2.2.2.1 w.1 1 0 rfl rfl hi1 dX5_canPut_2 ?_
  refine lv_if_ne (tgt := 37) hx hb dX5_canPut_3 (by decide) (fun c2 => ?_) (fun c2 => ?_)
  · replace hf := ite_f c2 hf
    refine lv_iconst (v := 0) hx hb dX5_canPut_37 (by decide) ?_
    exact k_zret (u := ()) hx hb hr hlk w rfl rfl (k_ret1 hf) dX5_canPut_38
  · replace hf := ite_t c2 hf
    refine lv_iload_n hx hb dX5_canPut_6 rfl (lv_at hl 2 rfl) ?_
    replace hf := ob_at hf
    obtain ⟨r3, er3, hf⟩ := hf
    refine k_goI0 w [] rfl (va_runS (As := [.int a2]) (rest := []) ⟨hx, hb, hml, hown, hg⟩ (tX5_below l D cI cZ b0 tt a2 er3 H.size) (va_cwS 1 hg (gwS w_603 w_604 w_7 w_605) rfl rfl rfl qdX5_below ⟨Nat.le_of_ble_eq_true rfl, Nat.le_of_ble_eq_true rfl⟩) (k_preS w [] (by decide) rfl) rfl rfl hl.1 rfl (lv_room (Nat.le_of_ble_eq_true rfl)) dX5_canPut_7 ⟨Nat.le_refl _, Nat.le_refl _⟩) (fun H locs w => ?_)
    refine lv_aload_n hx hb dX5_canPut_10 rfl (lv_at hl 1 rfl) ?_
    replace hf := ob_at hf
    obtain ⟨r4, er4, hf⟩ := hf
    refine k_goI0 w [1] rfl (va_runS (As := [.ref g_a]) (rest := [.int r3]) ⟨hx, hb, hml, hown, hg⟩ (tX5_there l D cI cZ b0 tt g_a g_h er4 H.size) (va_cwS 1 hg (gwS w_606 w_607 w_7 w_608) rfl rfl rfl qdX5_there ⟨Nat.le_of_ble_eq_true rfl, Nat.le_of_ble_eq_true rfl⟩) (k_preS w [1] (by decide) rfl) rfl rfl hl.1 rfl (lv_room (Nat.le_of_ble_eq_true rfl)) dX5_canPut_11 ⟨Nat.le_refl _, Nat.le_refl _⟩) (fun H locs w => ?_)
    refine lv_iconst (v := (-1)) hx hb dX5_canPut_14 (by decide) ?_
    refine lv_ixor hx hb dX5_canPut_15 ?_
    refine lv_iand hx hb dX5_canPut_16 ?_
    refine lv_if_ne (tgt := 37) hx hb dX5_canPut_17 (by decide) (fun c5 => ?_) (fun c5 => ?_)
    · replace hf := ite_f c5 hf
      refine lv_iconst (v := 0) hx hb dX5_canPut_37 (by decide) ?_
      exact k_zret (u := ()) hx hb hr hlk w rfl rfl (k_ret1 hf) dX5_canPut_38
    · replace hf := ite_t c5 hf
      refine lv_aload_n hx hb dX5_canPut_20 rfl (lv_at hl 0 rfl) ?_
      refine lv_aload_n hx hb dX5_canPut_21 rfl (lv_at hl 1 rfl) ?_
      refine lv_iload_n hx hb dX5_canPut_22 rfl (lv_at hl 3 rfl) ?_
      replace hf := ob_at hf
      obtain ⟨r6, er6, hf⟩ := hf
      refine k_goI0 w [0, 1, 2, 3] rfl (va_runV (As := [.ref g_a, .int a3]) (rest := []) ⟨hx, hb, hml, hown, hg⟩ (tX5_left l D cI cZ b0 tt m_a q_text q_cards q_readCards q_readPage q_page q_trial q_loads q_book q_kept q_isKept q_heldWho q_heldForce q_heldLoad q_heldIs q_gains q_value g_a m_thrown m_textSize m_place m_acts m_held m_seed m_tentMany m_tentFirst m_restMany m_restFirst g_h m_loads m_cards a3 er6 H.size) (cwV 2 hg (gwV w_663 w_664 w_853 w_7 w_665) rfl rfl rfl ⟨rfl, qdX5_left⟩ ⟨Nat.le_of_ble_eq_true rfl, Nat.le_of_ble_eq_true rfl⟩) (k_preV w [0, 1, 2, 3] (by decide) rfl (q0 := 0) rfl rfl) rfl rfl hl.1 rfl (lv_room (Nat.le_of_ble_eq_true rfl)) dX5_canPut_23 ⟨Nat.le_refl _, Nat.le_refl _⟩) (fun H locs w => ?_)
      refine lv_iload_n hx hb dX5_canPut_26 rfl (lv_at hl 2 rfl) ?_
      replace hf := ob_at hf
      obtain ⟨r7, er7, hf⟩ := hf
      refine k_goI0 w [] rfl (va_runS (As := [.int a2]) (rest := [.int r6]) ⟨hx, hb, hml, hown, hg⟩ (tX5_need l D cI cZ b0 tt a2 er7 H.size) (va_cwS 1 hg (gwS w_615 w_616 w_7 w_617) rfl rfl rfl qdX5_need ⟨Nat.le_of_ble_eq_true rfl, Nat.le_of_ble_eq_true rfl⟩) (k_preS w [] (by decide) rfl) rfl rfl hl.1 rfl (lv_room (Nat.le_of_ble_eq_true rfl)) dX5_canPut_27 ⟨Nat.le_refl _, Nat.le_refl _⟩) (fun H locs w => ?_)
      refine lv_icmp_lt (tgt := 37) hx hb dX5_canPut_30 (by decide) (fun c8 => ?_) (fun c8 => ?_)
      · replace hf := ite_t c8 hf
        refine lv_iconst (v := 0) hx hb dX5_canPut_37 (by decide) ?_
        exact k_zret (u := ()) hx hb hr hlk w rfl rfl (k_ret1 hf) dX5_canPut_38
      · replace hf := ite_f c8 hf
        refine lv_iconst (v := 1) hx hb dX5_canPut_33 (by decide) ?_
        refine lv_goto (tgt := 38) hx hb dX5_canPut_34 (by decide) ?_
        exact k_zret (u := ()) hx hb hr hlk w rfl rfl (k_ret1 hf) dX5_canPut_38
-- X5_goPut
def fX5_goPut  (g_h : Nat → Int32) (m_loads : Nat → Int32) (a2 : Int32) (a3 : Int32) : Option (Int32 × (Nat → Int32) × (Nat → Int32)) := nm (a3 + (1 : Int32)) (fun z1 => gd a2 17 (ob (fX5_settle (upd g_h (Int32.toNatClampNeg a2) z1) m_loads) (fun r3 => nm ((r3.2.1 (Int32.toNatClampNeg 16)) + r3.1) (fun z4 => some (r3.1, ((upd r3.2.1 (Int32.toNatClampNeg 16) z4), r3.2.2))))))
set_option maxRecDepth 100000 in
set_option maxHeartbeats 4000000 in
theorem tX5_goPut (l : Launch) (D : va_G) (cI cZ : ClassId) (b0 : Nat) (tt : Nat → Nat)  (m_a q_text q_cards q_readCards q_readPage q_page q_trial q_loads q_book q_kept q_isKept q_heldWho q_heldForce q_heldLoad q_heldIs q_gains q_value g_a : Nat) (m_thrown : Int32) (m_textSize : Int32) (m_place : Int32) (m_acts : Int32) (m_held : Int32) (m_seed : Int64) (m_tentMany : Int32) (m_tentFirst : Int32) (m_restMany : Int32) (m_restFirst : Int32) (g_h : Nat → Int32) (m_loads : Nat → Int32) (m_cards : Nat → Int32) (a2 : Int32) (a3 : Int32) {res : Int32 × (Nat → Int32) × (Nat → Int32)} (hf : fX5_goPut g_h m_loads a2 a3 = some res) : CtI l yX5_goPut (cwX5_goPut :: GW) 6 131 D cI cZ b0 tt [.ref m_a, .ref g_a, .int a2, .int a3] (fun u : (Nat → Int32) × (Nat → Int32) => [(m_a, .inr (5, [.int m_thrown, .ref q_text, .int m_textSize, .int m_place, .ref q_cards, .ref q_readCards, .ref q_readPage, .ref q_page, .ref q_trial, .ref q_loads, .ref q_book, .int m_acts, .ref q_kept, .ref q_isKept, .int m_held, .ref q_heldWho, .ref q_heldForce, .ref q_heldLoad, .ref q_heldIs, .long m_seed, .int m_tentMany, .int m_tentFirst, .int m_restMany, .int m_restFirst, .ref q_gains, .ref q_value])), (g_a, .inl (cI, 17, .inl u.1)), (q_loads, .inl (cI, 16, .inl u.2)), (q_cards, .inl (cI, 4, .inl m_cards))]) (g_h, m_loads) res := by
  intro sz
  refine k_begin (cc := cX5_goPut) (maxL := 5) (ret := (some .int)) (by decide) rfl (Nat.le_of_ble_eq_true rfl) ?_
  intro p e s m below meth c ls C w hl
  generalize va_A _ sz = A at w ⊢
  have w : Wd D cI cZ b0 tt A s [(m_a, .inr (5, [.int m_thrown, .ref q_text, .int m_textSize, .int m_place, .ref q_cards, .ref q_readCards, .ref q_readPage, .ref q_page, .ref q_trial, .ref q_loads, .ref q_book, .int m_acts, .ref q_kept, .ref q_isKept, .int m_held, .ref q_heldWho, .ref q_heldForce, .ref q_heldLoad, .ref q_heldIs, .long m_seed, .int m_tentMany, .int m_tentFirst, .int m_restMany, .int m_restFirst, .ref q_gains, .ref q_value])), (g_a, .inl (cI, 17, .inl g_h)), (q_loads, .inl (cI, 16, .inl m_loads)), (q_cards, .inl (cI, 4, .inl m_cards))] s.heap [] := w
  have hl : lv_has ls 5 [(0, .ref m_a), (1, .ref g_a), (2, .int a2), (3, .int a3)] := hl
  obtain ⟨H, eH⟩ : ∃ H, H = s.heap := ⟨_, rfl⟩
  rw [← eH] at w ⊢
  generalize ([] : List Loc) = locs at w ⊢
  generalize List.toArray _ = args at C ⊢
  obtain ⟨hx, hb, hr, hml, hown, hts, hlk⟩ := id C
  have hg : ∀ w ∈ GW, w.before args s = true := fun w h => hts w (List.mem_cons_of_mem _ h)
  unfold fX5_goPut at hf
  refine lv_aload_n hx hb dX5_goPut_0 rfl (lv_at hl 1 rfl) ?_
  refine lv_iload_n hx hb dX5_goPut_1 rfl (lv_at hl 2 rfl) ?_
  refine lv_iload_n hx hb dX5_goPut_2 rfl (lv_at hl 3 rfl) ?_
  refine lv_iconst (v := 1) hx hb dX5_goPut_3 (by decide) ?_
  refine lv_iadd hx hb dX5_goPut_4 ?_
  refine lv_topi (fun z1 ez1 => ?_)
  replace hf := nm_at ez1 hf
  replace hf := gd_at hf
  obtain ⟨hi2, hf⟩ := hf
  refine k_iast hx hb w 1 rfl hi2 dX5_goPut_5 (fun H locs w => ?_)
  have w : Wd D cI cZ b0 tt A s [(m_a, .inr (5, [.int m_thrown, .ref q_text, .int m_textSize, .int m_place, .ref q_cards, .ref q_readCards, .ref q_readPage, .ref q_page, .ref q_trial, .ref q_loads, .ref q_book, .int m_acts, .ref q_kept, .ref q_isKept, .int m_held, .ref q_heldWho, .ref q_heldForce, .ref q_heldLoad, .ref q_heldIs, .long m_seed, .int m_tentMany, .int m_tentFirst, .int m_restMany, .int m_restFirst, .ref q_gains, .ref q_value])), (g_a, .inl (cI, 17, .inl (upd g_h (Int32.toNatClampNeg a2) z1))), (q_loads, .inl (cI, 16, .inl m_loads)), (q_cards, .inl (cI, 4, .inl m_cards))] H locs := w
  refine lv_aload_n hx hb dX5_goPut_6 rfl (lv_at hl 0 rfl) ?_
  refine lv_aload_n hx hb dX5_goPut_7 rfl (lv_at hl 1 rfl) ?_
  replace hf := ob_at hf
  obtain ⟨r3, er3, hf⟩ := hf
  refine k_goI (v0 := ((upd g_h (Int32.toNatClampNeg a2) z1), m_loads)) (res := r3) w [0, 1, 2, 3] rfl (fun _ => rfl) (va_runV (As := [.ref g_a]) (rest := []) ⟨hx, hb, hml, hown, hg⟩ (tX5_settle l D cI cZ b0 tt m_a q_text q_cards q_readCards q_readPage q_page q_trial q_loads q_book q_kept q_isKept q_heldWho q_heldForce q_heldLoad q_heldIs q_gains q_value g_a m_thrown m_textSize m_place m_acts m_held m_seed m_tentMany m_tentFirst m_restMany m_restFirst (upd g_h (Int32.toNatClampNeg a2) z1) m_loads m_cards er3 H.size) (cwV 1 hg (gwV w_629 w_630 w_849 w_7 w_631) rfl rfl rfl ⟨rfl, qdX5_settle⟩ ⟨Nat.le_of_ble_eq_true rfl, Nat.le_of_ble_eq_true rfl⟩) (k_preV w [0, 1, 2, 3] (by decide) rfl (q0 := 0) rfl rfl) rfl rfl hl.1 rfl (lv_room (Nat.le_of_ble_eq_true rfl)) dX5_goPut_8 ⟨Nat.le_refl _, Nat.le_refl _⟩) (fun H locs w => ?_)
  have w : Wd D cI cZ b0 tt A s [(m_a, .inr (5, [.int m_thrown, .ref q_text, .int m_textSize, .int m_place, .ref q_cards, .ref q_readCards, .ref q_readPage, .ref q_page, .ref q_trial, .ref q_loads, .ref q_book, .int m_acts, .ref q_kept, .ref q_isKept, .int m_held, .ref q_heldWho, .ref q_heldForce, .ref q_heldLoad, .ref q_heldIs, .long m_seed, .int m_tentMany, .int m_tentFirst, .int m_restMany, .int m_restFirst, .ref q_gains, .ref q_value])), (g_a, .inl (cI, 17, .inl r3.2.1)), (q_loads, .inl (cI, 16, .inl r3.2.2)), (q_cards, .inl (cI, 4, .inl m_cards))] H locs := w
  refine lv_istore (lv' := [(4, .int r3.1), (0, .ref m_a), (1, .ref g_a), (2, .int a2), (3, .int a3)]) hx hb dX5_goPut_11 hl (by decide) rfl (fun ls hl => ?_)
  refine lv_aload_n hx hb dX5_goPut_13 rfl (lv_at hl 2 rfl) ?_
  refine lv_bipush (v := 16) hx hb dX5_goPut_14 (by decide) ?_
  refine lv_dup2_11 hx hb dX5_goPut_16 rfl rfl ?_
  refine va_iald hx hb w.2.2.2.2.2.2.1 w.1 1 0 rfl rfl (by unfold vp_in; decide) dX5_goPut_17 ?_
  refine lv_iload hx hb dX5_goPut_18 (lv_at hl 0 rfl) ?_
  refine lv_iadd hx hb dX5_goPut_20 ?_
  refine lv_topi (fun z4 ez4 => ?_)
  replace hf := nm_at ez4 hf
  refine k_iast hx hb w 1 rfl (by unfold vp_in; decide) dX5_goPut_21 (fun H locs w => ?_)
  have w : Wd D cI cZ b0 tt A s [(m_a, .inr (5, [.int m_thrown, .ref q_text, .int m_textSize, .int m_place, .ref q_cards, .ref q_readCards, .ref q_readPage, .ref q_page, .ref q_trial, .ref q_loads, .ref q_book, .int m_acts, .ref q_kept, .ref q_isKept, .int m_held, .ref q_heldWho, .ref q_heldForce, .ref q_heldLoad, .ref q_heldIs, .long m_seed, .int m_tentMany, .int m_tentFirst, .int m_restMany, .int m_restFirst, .ref q_gains, .ref q_value])), (g_a, .inl (cI, 17, .inl (upd r3.2.1 (Int32.toNatClampNeg 16) z4))), (q_loads, .inl (cI, 16, .inl r3.2.2)), (q_cards, .inl (cI, 4, .inl m_cards))] H locs := w
  refine lv_iload hx hb dX5_goPut_22 (lv_at hl 0 rfl) ?_
  exact k_iret (u := ((upd r3.2.1 (Int32.toNatClampNeg 16) z4), r3.2.2)) hx hb hr hlk w rfl hf dX5_goPut_24
-- X5_put
def fX5_put  (m_thrown : Int32) (m_acts : Int32) (m_cards : Nat → Int32) (m_page : Nat → Int32) (m_loads : Nat → Int32) (m_book : Nat → Int32) (a1 : Int32) (a2 : Int32) : Option (Int32 × Int32 × Int32 × (Nat → Int32) × (Nat → Int32) × (Nat → Int32)) := ob (fX5_noPiece a1) (fun r1 => (if r1 = 0 then ob (fX5_noKind a2) (fun r3 => (if r3 = 0 then gd a1 17 ((if (m_page (Int32.toNatClampNeg a1)) ≤ 0 then ob (fX5_canPut m_page m_cards a1 a2) (fun r7 => (if r7 = 0 then some ((-3), (0, m_acts, m_page, m_loads, m_book)) else ob (fX5_note m_acts m_page m_book) (fun r9 => ob (fX5_goPut m_page m_loads a1 a2) (fun r10 => some (r10.1, (0, r9.1, r10.2.1, r10.2.2, r9.2)))))) else some ((-4), (0, m_acts, m_page, m_loads, m_book)))) else some ((-1), (0, m_acts, m_page, m_loads, m_book)))) else some ((-1), (0, m_acts, m_page, m_loads, m_book))))
set_option maxRecDepth 100000 in
set_option maxHeartbeats 4000000 in
theorem tX5_put (l : Launch) (D : va_G) (cI cZ : ClassId) (b0 : Nat) (tt : Nat → Nat)  (m_a q_text q_cards q_readCards q_readPage q_page q_trial q_loads q_book q_kept q_isKept q_heldWho q_heldForce q_heldLoad q_heldIs q_gains q_value : Nat) (m_thrown : Int32) (m_textSize : Int32) (m_place : Int32) (m_acts : Int32) (m_held : Int32) (m_seed : Int64) (m_tentMany : Int32) (m_tentFirst : Int32) (m_restMany : Int32) (m_restFirst : Int32) (m_text : Nat → Int32) (m_cards : Nat → Int32) (m_readCards : Nat → Int32) (m_readPage : Nat → Int32) (m_page : Nat → Int32) (m_trial : Nat → Int32) (m_loads : Nat → Int32) (m_book : Nat → Int32) (m_kept : Nat → Int32) (m_isKept : Nat → Int32) (m_heldWho : Nat → Int32) (m_heldForce : Nat → Int32) (m_heldLoad : Nat → Int32) (m_heldIs : Nat → Int32) (m_gains : Nat → Int32) (m_value : Nat → Int32) (a1 : Int32) (a2 : Int32) {res : Int32 × Int32 × Int32 × (Nat → Int32) × (Nat → Int32) × (Nat → Int32)} (hf : fX5_put m_thrown m_acts m_cards m_page m_loads m_book a1 a2 = some res) : CtI l yX5_put (cwX5_put :: GW) 7 155 D cI cZ b0 tt [.ref m_a, .int a1, .int a2] (fun u : Int32 × Int32 × (Nat → Int32) × (Nat → Int32) × (Nat → Int32) => [(m_a, .inr (5, [.int u.1, .ref q_text, .int m_textSize, .int m_place, .ref q_cards, .ref q_readCards, .ref q_readPage, .ref q_page, .ref q_trial, .ref q_loads, .ref q_book, .int u.2.1, .ref q_kept, .ref q_isKept, .int m_held, .ref q_heldWho, .ref q_heldForce, .ref q_heldLoad, .ref q_heldIs, .long m_seed, .int m_tentMany, .int m_tentFirst, .int m_restMany, .int m_restFirst, .ref q_gains, .ref q_value])), (q_text, .inl (cI, 56, .inl m_text)), (q_cards, .inl (cI, 4, .inl m_cards)), (q_readCards, .inl (cI, 4, .inl m_readCards)), (q_readPage, .inl (cI, 17, .inl m_readPage)), (q_page, .inl (cI, 17, .inl u.2.2.1)), (q_trial, .inl (cI, 17, .inl m_trial)), (q_loads, .inl (cI, 16, .inl u.2.2.2.1)), (q_book, .inl (cI, 238, .inl u.2.2.2.2)), (q_kept, .inl (cI, 34, .inl m_kept)), (q_isKept, .inl (cZ, 2, .inl m_isKept)), (q_heldWho, .inl (cI, 6, .inl m_heldWho)), (q_heldForce, .inl (cI, 6, .inl m_heldForce)), (q_heldLoad, .inl (cI, 6, .inl m_heldLoad)), (q_heldIs, .inl (cI, 6, .inl m_heldIs)), (q_gains, .inl (cI, 50, .inl m_gains)), (q_value, .inl (cI, 16, .inl m_value))]) (m_thrown, m_acts, m_page, m_loads, m_book) res := by
  intro sz
  refine k_begin (cc := cX5_put) (maxL := 3) (ret := (some .int)) (by decide) rfl (Nat.le_of_ble_eq_true rfl) ?_
  intro p e s m below meth c ls C w hl
  generalize va_A _ sz = A at w ⊢
  have w : Wd D cI cZ b0 tt A s [(m_a, .inr (5, [.int m_thrown, .ref q_text, .int m_textSize, .int m_place, .ref q_cards, .ref q_readCards, .ref q_readPage, .ref q_page, .ref q_trial, .ref q_loads, .ref q_book, .int m_acts, .ref q_kept, .ref q_isKept, .int m_held, .ref q_heldWho, .ref q_heldForce, .ref q_heldLoad, .ref q_heldIs, .long m_seed, .int m_tentMany, .int m_tentFirst, .int m_restMany, .int m_restFirst, .ref q_gains, .ref q_value])), (q_text, .inl (cI, 56, .inl m_text)), (q_cards, .inl (cI, 4, .inl m_cards)), (q_readCards, .inl (cI, 4, .inl m_readCards)), (q_readPage, .inl (cI, 17, .inl m_readPage)), (q_page, .inl (cI, 17, .inl m_page)), (q_trial, .inl (cI, 17, .inl m_trial)), (q_loads, .inl (cI, 16, .inl m_loads)), (q_book, .inl (cI, 238, .inl m_book)), (q_kept, .inl (cI, 34, .inl m_kept)), (q_isKept, .inl (cZ, 2, .inl m_isKept)), (q_heldWho, .inl (cI, 6, .inl m_heldWho)), (q_heldForce, .inl (cI, 6, .inl m_heldForce)), (q_heldLoad, .inl (cI, 6, .inl m_heldLoad)), (q_heldIs, .inl (cI, 6, .inl m_heldIs)), (q_gains, .inl (cI, 50, .inl m_gains)), (q_value, .inl (cI, 16, .inl m_value))] s.heap [] := w
  have hl : lv_has ls 3 [(0, .ref m_a), (1, .int a1), (2, .int a2)] := hl
  obtain ⟨H, eH⟩ : ∃ H, H = s.heap := ⟨_, rfl⟩
  rw [← eH] at w ⊢
  generalize ([] : List Loc) = locs at w ⊢
  generalize List.toArray _ = args at C ⊢
  obtain ⟨hx, hb, hr, hml, hown, hts, hlk⟩ := id C
  have hg : ∀ w ∈ GW, w.before args s = true := fun w h => hts w (List.mem_cons_of_mem _ h)
  unfold fX5_put at hf
  refine lv_aload_n hx hb dX5_put_0 rfl (lv_at hl 0 rfl) ?_
  refine lv_iconst (v := 0) hx hb dX5_put_1 (by decide) ?_
  refine k_put (ci := 5) (v := .int 0) (ty := .int) (C := RX5) (T := TX5) (N := 26) hx hb hg iX5 tyX5 tyX5_ok nmX5 hown w 0 rfl rfl 0 (by decide) (hg _ w_489) (fun _ h9 => h9) rfl pd_I rfl rfl (Nat.le_of_ble_eq_true rfl) dX5_put_2 (fun H locs w => ?_)
  have w : Wd D cI cZ b0 tt A s [(m_a, .inr (5, [.int 0, .ref q_text, .int m_textSize, .int m_place, .ref q_cards, .ref q_readCards, .ref q_readPage, .ref q_page, .ref q_trial, .ref q_loads, .ref q_book, .int m_acts, .ref q_kept, .ref q_isKept, .int m_held, .ref q_heldWho, .ref q_heldForce, .ref q_heldLoad, .ref q_heldIs, .long m_seed, .int m_tentMany, .int m_tentFirst, .int m_restMany, .int m_restFirst, .ref q_gains, .ref q_value])), (q_text, .inl (cI, 56, .inl m_text)), (q_cards, .inl (cI, 4, .inl m_cards)), (q_readCards, .inl (cI, 4, .inl m_readCards)), (q_readPage, .inl (cI, 17, .inl m_readPage)), (q_page, .inl (cI, 17, .inl m_page)), (q_trial, .inl (cI, 17, .inl m_trial)), (q_loads, .inl (cI, 16, .inl m_loads)), (q_book, .inl (cI, 238, .inl m_book)), (q_kept, .inl (cI, 34, .inl m_kept)), (q_isKept, .inl (cZ, 2, .inl m_isKept)), (q_heldWho, .inl (cI, 6, .inl m_heldWho)), (q_heldForce, .inl (cI, 6, .inl m_heldForce)), (q_heldLoad, .inl (cI, 6, .inl m_heldLoad)), (q_heldIs, .inl (cI, 6, .inl m_heldIs)), (q_gains, .inl (cI, 50, .inl m_gains)), (q_value, .inl (cI, 16, .inl m_value))] H locs := w
  refine lv_iload_n hx hb dX5_put_5 rfl (lv_at hl 1 rfl) ?_
  replace hf := ob_at hf
  obtain ⟨r1, er1, hf⟩ := hf
  refine k_goI0 w [] rfl (va_runS (As := [.int a1]) (rest := []) ⟨hx, hb, hml, hown, hg⟩ (tX5_noPiece l D cI cZ b0 tt a1 er1 H.size) (va_cwS 1 hg (gwS w_621 w_622 w_7 w_623) rfl rfl rfl qdX5_noPiece ⟨Nat.le_of_ble_eq_true rfl, Nat.le_of_ble_eq_true rfl⟩) (k_preS w [] (by decide) rfl) rfl rfl hl.1 rfl (lv_room (Nat.le_of_ble_eq_true rfl)) dX5_put_6 ⟨Nat.le_refl _, Nat.le_refl _⟩) (fun H locs w => ?_)
  refine lv_if_ne (tgt := 19) hx hb dX5_put_9 (by decide) (fun c2 => ?_) (fun c2 => ?_)
  · replace hf := ite_f c2 hf
    refine lv_iconst (v := (-1)) hx hb dX5_put_19 (by decide) ?_
    exact k_iret (u := (0, m_acts, m_page, m_loads, m_book)) hx hb hr hlk w rfl hf dX5_put_20
  · replace hf := ite_t c2 hf
    refine lv_iload_n hx hb dX5_put_12 rfl (lv_at hl 2 rfl) ?_
    replace hf := ob_at hf
    obtain ⟨r3, er3, hf⟩ := hf
    refine k_goI0 w [] rfl (va_runS (As := [.int a2]) (rest := []) ⟨hx, hb, hml, hown, hg⟩ (tX5_noKind l D cI cZ b0 tt a2 er3 H.size) (va_cwS 1 hg (gwS w_676 w_677 w_7 w_678) rfl rfl rfl qdX5_noKind ⟨Nat.le_of_ble_eq_true rfl, Nat.le_of_ble_eq_true rfl⟩) (k_preS w [] (by decide) rfl) rfl rfl hl.1 rfl (lv_room (Nat.le_of_ble_eq_true rfl)) dX5_put_13 ⟨Nat.le_refl _, Nat.le_refl _⟩) (fun H locs w => ?_)
    refine lv_if_eq (tgt := 21) hx hb dX5_put_16 (by decide) (fun c4 => ?_) (fun c4 => ?_)
    · replace hf := ite_t c4 hf
      refine lv_aload_n hx hb dX5_put_21 rfl (lv_at hl 0 rfl) ?_
      refine va_get (D := D) (ci := 5) (v := .ref q_page) (C := RX5) (T := TX5) (N := 26) hx hb hg iX5 hown w.2.2.2.2.2.2.1 w.1 0 rfl rfl 7 (by decide) (hg _ w_496) (fun _ h9 => h9) rfl dX5_put_22 ?_
      refine lv_iload_n hx hb dX5_put_25 rfl (lv_at hl 1 rfl) ?_
      replace hf := gd_at hf
      obtain ⟨hi5, hf⟩ := hf
      refine va_iald hx hb w.2.2.2.2.2.2.1 w.1 5 0 rfl rfl hi5 dX5_put_26 ?_
      refine lv_if_le (tgt := 33) hx hb dX5_put_27 (by decide) (fun c6 => ?_) (fun c6 => ?_)
      · replace hf := ite_t c6 hf
        refine lv_aload_n hx hb dX5_put_33 rfl (lv_at hl 0 rfl) ?_
        refine lv_aload_n hx hb dX5_put_34 rfl (lv_at hl 0 rfl) ?_
        refine va_get (D := D) (ci := 5) (v := .ref q_page) (C := RX5) (T := TX5) (N := 26) hx hb hg iX5 hown w.2.2.2.2.2.2.1 w.1 0 rfl rfl 7 (by decide) (hg _ w_496) (fun _ h9 => h9) rfl dX5_put_35 ?_
        refine lv_iload_n hx hb dX5_put_38 rfl (lv_at hl 1 rfl) ?_
        refine lv_iload_n hx hb dX5_put_39 rfl (lv_at hl 2 rfl) ?_
        replace hf := ob_at hf
        obtain ⟨r7, er7, hf⟩ := hf
        refine k_goI0 w [0, 5, 7, 2] rfl (va_runV (As := [.ref q_page, .int a1, .int a2]) (rest := []) ⟨hx, hb, hml, hown, hg⟩ (tX5_canPut l D cI cZ b0 tt m_a q_text q_cards q_readCards q_readPage q_page q_trial q_loads q_book q_kept q_isKept q_heldWho q_heldForce q_heldLoad q_heldIs q_gains q_value q_page 0 m_textSize m_place m_acts m_held m_seed m_tentMany m_tentFirst m_restMany m_restFirst m_page m_loads m_cards a1 a2 er7 H.size) (cwV 3 hg (gwV w_692 w_693 w_855 w_7 w_694) rfl rfl rfl ⟨rfl, qdX5_canPut⟩ ⟨Nat.le_of_ble_eq_true rfl, Nat.le_of_ble_eq_true rfl⟩) (k_preV w [0, 5, 7, 2] (by decide) rfl (q0 := 0) rfl rfl) rfl rfl hl.1 rfl (lv_room (Nat.le_of_ble_eq_true rfl)) dX5_put_40 ⟨Nat.le_refl _, Nat.le_refl _⟩) (fun H locs w => ?_)
        refine lv_if_ne (tgt := 49) hx hb dX5_put_43 (by decide) (fun c8 => ?_) (fun c8 => ?_)
        · replace hf := ite_f c8 hf
          refine lv_aload_n hx hb dX5_put_49 rfl (lv_at hl 0 rfl) ?_
          replace hf := ob_at hf
          obtain ⟨r9, er9, hf⟩ := hf
          refine k_goV (v0 := (m_acts, m_book)) (res := r9) w [0, 1, 2, 3, 4, 5, 6, 7, 8, 9, 10, 11, 12, 13, 14, 15, 16] rfl (fun _ => rfl) (va_runV (As := []) (rest := []) ⟨hx, hb, hml, hown, hg⟩ (tX5_note l D cI cZ b0 tt m_a q_text q_cards q_readCards q_readPage q_page q_trial q_loads q_book q_kept q_isKept q_heldWho q_heldForce q_heldLoad q_heldIs q_gains q_value 0 m_textSize m_place m_acts m_held m_seed m_tentMany m_tentFirst m_restMany m_restFirst m_text m_cards m_readCards m_readPage m_page m_trial m_loads m_book m_kept m_isKept m_heldWho m_heldForce m_heldLoad m_heldIs m_gains m_value er9 H.size) (cwV 0 hg (gwV w_695 w_696 w_856 w_7 w_697) rfl rfl rfl ⟨rfl, qdX5_note⟩ ⟨Nat.le_of_ble_eq_true rfl, Nat.le_of_ble_eq_true rfl⟩) (k_preV w [0, 1, 2, 3, 4, 5, 6, 7, 8, 9, 10, 11, 12, 13, 14, 15, 16] (by decide) rfl (q0 := 0) rfl rfl) rfl rfl hl.1 rfl (lv_room (Nat.le_of_ble_eq_true rfl)) dX5_put_50 ⟨Nat.le_refl _, Nat.le_refl _⟩) (fun H locs w => ?_)
          have w : Wd D cI cZ b0 tt A s [(m_a, .inr (5, [.int 0, .ref q_text, .int m_textSize, .int m_place, .ref q_cards, .ref q_readCards, .ref q_readPage, .ref q_page, .ref q_trial, .ref q_loads, .ref q_book, .int r9.1, .ref q_kept, .ref q_isKept, .int m_held, .ref q_heldWho, .ref q_heldForce, .ref q_heldLoad, .ref q_heldIs, .long m_seed, .int m_tentMany, .int m_tentFirst, .int m_restMany, .int m_restFirst, .ref q_gains, .ref q_value])), (q_text, .inl (cI, 56, .inl m_text)), (q_cards, .inl (cI, 4, .inl m_cards)), (q_readCards, .inl (cI, 4, .inl m_readCards)), (q_readPage, .inl (cI, 17, .inl m_readPage)), (q_page, .inl (cI, 17, .inl m_page)), (q_trial, .inl (cI, 17, .inl m_trial)), (q_loads, .inl (cI, 16, .inl m_loads)), (q_book, .inl (cI, 238, .inl r9.2)), (q_kept, .inl (cI, 34, .inl m_kept)), (q_isKept, .inl (cZ, 2, .inl m_isKept)), (q_heldWho, .inl (cI, 6, .inl m_heldWho)), (q_heldForce, .inl (cI, 6, .inl m_heldForce)), (q_heldLoad, .inl (cI, 6, .inl m_heldLoad)), (q_heldIs, .inl (cI, 6, .inl m_heldIs)), (q_gains, .inl (cI, 50, .inl m_gains)), (q_value, .inl (cI, 16, .inl m_value))] H locs := w
          refine lv_aload_n hx hb dX5_put_53 rfl (lv_at hl 0 rfl) ?_
          refine lv_aload_n hx hb dX5_put_54 rfl (lv_at hl 0 rfl) ?_
          refine va_get (D := D) (ci := 5) (v := .ref q_page) (C := RX5) (T := TX5) (N := 26) hx hb hg iX5 hown w.2.2.2.2.2.2.1 w.1 0 rfl rfl 7 (by decide) (hg _ w_496) (fun _ h9 => h9) rfl dX5_put_55 ?_
          refine lv_iload_n hx hb dX5_put_58 rfl (lv_at hl 1 rfl) ?_
          refine lv_iload_n hx hb dX5_put_59 rfl (lv_at hl 2 rfl) ?_
          replace hf := ob_at hf
          obtain ⟨r10, er10, hf⟩ := hf
          refine k_goI (v0 := (m_page, m_loads)) (res := r10) w [0, 5, 7, 2] rfl (fun _ => rfl) (va_runV (As := [.ref q_page, .int a1, .int a2]) (rest := []) ⟨hx, hb, hml, hown, hg⟩ (tX5_goPut l D cI cZ b0 tt m_a q_text q_cards q_readCards q_readPage q_page q_trial q_loads q_book q_kept q_isKept q_heldWho q_heldForce q_heldLoad q_heldIs q_gains q_value q_page 0 m_textSize m_place r9.1 m_held m_seed m_tentMany m_tentFirst m_restMany m_restFirst m_page m_loads m_cards a1 a2 er10 H.size) (cwV 3 hg (gwV w_698 w_699 w_857 w_7 w_700) rfl rfl rfl ⟨rfl, qdX5_goPut⟩ ⟨Nat.le_of_ble_eq_true rfl, Nat.le_of_ble_eq_true rfl⟩) (k_preV w [0, 5, 7, 2] (by decide) rfl (q0 := 0) rfl rfl) rfl rfl hl.1 rfl (lv_room (Nat.le_of_ble_eq_true rfl)) dX5_put_60 ⟨Nat.le_refl _, Nat.le_refl _⟩) (fun H locs w => ?_)
          have w : Wd D cI cZ b0 tt A s [(m_a, .inr (5, [.int 0, .ref q_text, .int m_textSize, .int m_place, .ref q_cards, .ref q_readCards, .ref q_readPage, .ref q_page, .ref q_trial, .ref q_loads, .ref q_book, .int r9.1, .ref q_kept, .ref q_isKept, .int m_held, .ref q_heldWho, .ref q_heldForce, .ref q_heldLoad, .ref q_heldIs, .long m_seed, .int m_tentMany, .int m_tentFirst, .int m_restMany, .int m_restFirst, .ref q_gains, .ref q_value])), (q_text, .inl (cI, 56, .inl m_text)), (q_cards, .inl (cI, 4, .inl m_cards)), (q_readCards, .inl (cI, 4, .inl m_readCards)), (q_readPage, .inl (cI, 17, .inl m_readPage)), (q_page, .inl (cI, 17, .inl r10.2.1)), (q_trial, .inl (cI, 17, .inl m_trial)), (q_loads, .inl (cI, 16, .inl r10.2.2)), (q_book, .inl (cI, 238, .inl r9.2)), (q_kept, .inl (cI, 34, .inl m_kept)), (q_isKept, .inl (cZ, 2, .inl m_isKept)), (q_heldWho, .inl (cI, 6, .inl m_heldWho)), (q_heldForce, .inl (cI, 6, .inl m_heldForce)), (q_heldLoad, .inl (cI, 6, .inl m_heldLoad)), (q_heldIs, .inl (cI, 6, .inl m_heldIs)), (q_gains, .inl (cI, 50, .inl m_gains)), (q_value, .inl (cI, 16, .inl m_value))] H locs := w
          exact k_iret (u := (0, r9.1, r10.2.1, r10.2.2, r9.2)) hx hb hr hlk w rfl hf dX5_put_63
        · replace hf := ite_t c8 hf
          refine lv_bipush (v := (-3)) hx hb dX5_put_46 (by decide) ?_
          exact k_iret (u := (0, m_acts, m_page, m_loads, m_book)) hx hb hr hlk w rfl hf dX5_put_48
      · replace hf := ite_f c6 hf
        refine lv_bipush (v := (-4)) hx hb dX5_put_30 (by decide) ?_
        exact k_iret (u := (0, m_acts, m_page, m_loads, m_book)) hx hb hr hlk w rfl hf dX5_put_32
    · replace hf := ite_f c4 hf
      refine lv_iconst (v := (-1)) hx hb dX5_put_19 (by decide) ?_
      exact k_iret (u := (0, m_acts, m_page, m_loads, m_book)) hx hb hr hlk w rfl hf dX5_put_20
