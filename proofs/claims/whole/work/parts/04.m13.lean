-- X5_readPiece
def fX5_readPiece  (m_textSize : Int32) (m_place : Int32) (m_text : Nat → Int32) (m_readCards : Nat → Int32) (m_readPage : Nat → Int32) : Option (Int32 × Int32 × (Nat → Int32)) := gd m_place 56 ((if (m_text (Int32.toNatClampNeg m_place)) = 80 then ob (fX5_couldAny m_readCards m_readPage) (fun r3 => (if r3 = 0 then some (0, (m_place, m_readPage)) else nm (m_place + (1 : Int32)) (fun z5 => (if m_textSize ≤ z5 then ob (fX5_noPiece (-9)) (fun r7 => (if r7 = 0 then ob (fX5_couldCome m_readCards m_readPage (-9)) (fun r9 => (if r9 = 0 then some (0, (z5, m_readPage)) else nm (z5 + (1 : Int32)) (fun z11 => ob (fX5_figure m_textSize z11 m_text 3) (fun r12 => (if r12.1 = (-9) then some (0, (r12.2, m_readPage)) else ob (fX5_enough m_readCards m_readPage (-9) r12.1) (fun r14 => (if r14 = 0 then nm (r12.2 - (1 : Int32)) (fun z18 => some (0, (z18, m_readPage))) else nm (r12.1 + (1 : Int32)) (fun z16 => gd (-9) 17 (some (1, (r12.2, (upd m_readPage (Int32.toNatClampNeg (-9)) z16)))))))))))) else some (0, (z5, m_readPage)))) else gd z5 56 (nm ((m_text (Int32.toNatClampNeg z5)) - (97 : Int32)) (fun z20 => ob (fX5_noPiece z20) (fun r21 => (if r21 = 0 then ob (fX5_couldCome m_readCards m_readPage z20) (fun r23 => (if r23 = 0 then some (0, (z5, m_readPage)) else nm (z5 + (1 : Int32)) (fun z25 => ob (fX5_figure m_textSize z25 m_text 3) (fun r26 => (if r26.1 = (-9) then some (0, (r26.2, m_readPage)) else ob (fX5_enough m_readCards m_readPage z20 r26.1) (fun r28 => (if r28 = 0 then nm (r26.2 - (1 : Int32)) (fun z32 => some (0, (z32, m_readPage))) else nm (r26.1 + (1 : Int32)) (fun z30 => gd z20 17 (some (1, (r26.2, (upd m_readPage (Int32.toNatClampNeg z20) z30)))))))))))) else some (0, (z5, m_readPage)))))))))) else some (0, (m_place, m_readPage))))
set_option maxRecDepth 100000 in
set_option maxHeartbeats 4000000 in
theorem tX5_readPiece (l : Launch) (D : va_G) (cI cZ : ClassId) (b0 : Nat) (tt : Nat → Nat)  (m_a q_text q_cards q_readCards q_readPage q_page q_trial q_loads q_book q_kept q_isKept q_heldWho q_heldForce q_heldLoad q_heldIs q_gains q_value : Nat) (m_thrown : Int32) (m_textSize : Int32) (m_place : Int32) (m_acts : Int32) (m_held : Int32) (m_seed : Int64) (m_tentMany : Int32) (m_tentFirst : Int32) (m_restMany : Int32) (m_restFirst : Int32) (m_text : Nat → Int32) (m_cards : Nat → Int32) (m_readCards : Nat → Int32) (m_readPage : Nat → Int32) (m_page : Nat → Int32) (m_trial : Nat → Int32) (m_loads : Nat → Int32) (m_book : Nat → Int32) (m_kept : Nat → Int32) (m_isKept : Nat → Int32) (m_heldWho : Nat → Int32) (m_heldForce : Nat → Int32) (m_heldLoad : Nat → Int32) (m_heldIs : Nat → Int32) (m_gains : Nat → Int32) (m_value : Nat → Int32)  {res : Int32 × Int32 × (Nat → Int32)} (hf : fX5_readPiece m_textSize m_place m_text m_readCards m_readPage = some res) : CtI l yX5_readPiece (cwX5_readPiece :: GW) 6 128 D cI cZ b0 tt [.ref m_a] (fun u : Int32 × (Nat → Int32) => [(m_a, .inr (5, [.int m_thrown, .ref q_text, .int m_textSize, .int u.1, .ref q_cards, .ref q_readCards, .ref q_readPage, .ref q_page, .ref q_trial, .ref q_loads, .ref q_book, .int m_acts, .ref q_kept, .ref q_isKept, .int m_held, .ref q_heldWho, .ref q_heldForce, .ref q_heldLoad, .ref q_heldIs, .long m_seed, .int m_tentMany, .int m_tentFirst, .int m_restMany, .int m_restFirst, .ref q_gains, .ref q_value])), (q_text, .inl (cI, 56, .inl m_text)), (q_cards, .inl (cI, 4, .inl m_cards)), (q_readCards, .inl (cI, 4, .inl m_readCards)), (q_readPage, .inl (cI, 17, .inl u.2)), (q_page, .inl (cI, 17, .inl m_page)), (q_trial, .inl (cI, 17, .inl m_trial)), (q_loads, .inl (cI, 16, .inl m_loads)), (q_book, .inl (cI, 238, .inl m_book)), (q_kept, .inl (cI, 34, .inl m_kept)), (q_isKept, .inl (cZ, 2, .inl m_isKept)), (q_heldWho, .inl (cI, 6, .inl m_heldWho)), (q_heldForce, .inl (cI, 6, .inl m_heldForce)), (q_heldLoad, .inl (cI, 6, .inl m_heldLoad)), (q_heldIs, .inl (cI, 6, .inl m_heldIs)), (q_gains, .inl (cI, 50, .inl m_gains)), (q_value, .inl (cI, 16, .inl m_value))]) (m_place, m_readPage) res := by
  intro sz
  refine k_begin (cc := cX5_readPiece) (maxL := 3) (ret := (some .boolean)) (by decide) rfl (Nat.le_of_ble_eq_true rfl) ?_
  intro p e s m below meth c ls C w hl
  generalize va_A _ sz = A at w ⊢
  have w : Wd D cI cZ b0 tt A s [(m_a, .inr (5, [.int m_thrown, .ref q_text, .int m_textSize, .int m_place, .ref q_cards, .ref q_readCards, .ref q_readPage, .ref q_page, .ref q_trial, .ref q_loads, .ref q_book, .int m_acts, .ref q_kept, .ref q_isKept, .int m_held, .ref q_heldWho, .ref q_heldForce, .ref q_heldLoad, .ref q_heldIs, .long m_seed, .int m_tentMany, .int m_tentFirst, .int m_restMany, .int m_restFirst, .ref q_gains, .ref q_value])), (q_text, .inl (cI, 56, .inl m_text)), (q_cards, .inl (cI, 4, .inl m_cards)), (q_readCards, .inl (cI, 4, .inl m_readCards)), (q_readPage, .inl (cI, 17, .inl m_readPage)), (q_page, .inl (cI, 17, .inl m_page)), (q_trial, .inl (cI, 17, .inl m_trial)), (q_loads, .inl (cI, 16, .inl m_loads)), (q_book, .inl (cI, 238, .inl m_book)), (q_kept, .inl (cI, 34, .inl m_kept)), (q_isKept, .inl (cZ, 2, .inl m_isKept)), (q_heldWho, .inl (cI, 6, .inl m_heldWho)), (q_heldForce, .inl (cI, 6, .inl m_heldForce)), (q_heldLoad, .inl (cI, 6, .inl m_heldLoad)), (q_heldIs, .inl (cI, 6, .inl m_heldIs)), (q_gains, .inl (cI, 50, .inl m_gains)), (q_value, .inl (cI, 16, .inl m_value))] s.heap [] := w
  have hl : lv_has ls 3 [(0, .ref m_a)] := hl
  obtain ⟨H, eH⟩ : ∃ H, H = s.heap := ⟨_, rfl⟩
  rw [← eH] at w ⊢
  generalize ([] : List Loc) = locs at w ⊢
  generalize List.toArray _ = args at C ⊢
  obtain ⟨hx, hb, hr, hml, hown, hts, hlk⟩ := id C
  have hg : ∀ w ∈ GW, w.before args s = true := fun w h => hts w (List.mem_cons_of_mem _ h)
  unfold fX5_readPiece at hf
  refine lv_aload_n hx hb dX5_readPiece_0 rfl (lv_at hl 0 rfl) ?_
  refine va_get (D := D) (ci := 5) (v := .ref q_text) (C := RX5) (T := TX5) (N := 26) hx hb hg iX5 hown w.2.2.2.2.2.2.1 w.1 0 rfl rfl 1 (by decide) (hg _ w_490) (fun _ h9 => h9) rfl dX5_readPiece_1 ?_
  refine lv_aload_n hx hb dX5_readPiece_4 rfl (lv_at hl 0 rfl) ?_
  refine va_get (D := D) (ci := 5) (v := .int m_place) (C := RX5) (T := TX5) (N := 26) hx hb hg iX5 hown w.2.2.2.2.2.2.1 w.1 0 rfl rfl 3 (by decide) (hg _ w_492) (fun _ h9 => h9) rfl dX5_readPiece_5 ?_
  replace hf := gd_at hf
  obtain ⟨hi1, hf⟩ := hf
  refine va_iald hx hb w.2.2.2.2.2.2.1 w.1 1 0 rfl rfl hi1 dX5_readPiece_8 ?_
  refine lv_bipush (v := 80) hx hb dX5_readPiece_9 (by decide) ?_
  refine lv_icmp_ne (tgt := 21) hx hb dX5_readPiece_11 (by decide) (fun c2 => ?_) (fun c2 => ?_)
  · replace hf := ite_f c2 hf
    refine lv_iconst (v := 0) hx hb dX5_readPiece_21 (by decide) ?_
    exact k_zret (u := (m_place, m_readPage)) hx hb hr hlk w rfl rfl hf dX5_readPiece_22
  · replace hf := ite_t c2 hf
    refine lv_aload_n hx hb dX5_readPiece_14 rfl (lv_at hl 0 rfl) ?_
    replace hf := ob_at hf
    obtain ⟨r3, er3, hf⟩ := hf
    refine k_goI0 w [0, 1, 2, 3, 4, 5, 6, 7, 8, 9, 10, 11, 12, 13, 14, 15, 16] rfl (va_runV (As := []) (rest := []) ⟨hx, hb, hml, hown, hg⟩ (tX5_couldAny l D cI cZ b0 tt m_a q_text q_cards q_readCards q_readPage q_page q_trial q_loads q_book q_kept q_isKept q_heldWho q_heldForce q_heldLoad q_heldIs q_gains q_value m_thrown m_textSize m_place m_acts m_held m_seed m_tentMany m_tentFirst m_restMany m_restFirst m_text m_cards m_readCards m_readPage m_page m_trial m_loads m_book m_kept m_isKept m_heldWho m_heldForce m_heldLoad m_heldIs m_gains m_value er3 H.size) (cwV 0 hg (gwV w_597 w_598 w_846 w_7 w_599) rfl rfl rfl ⟨rfl, qdX5_couldAny⟩ ⟨Nat.le_of_ble_eq_true rfl, Nat.le_of_ble_eq_true rfl⟩) (k_preV w [0, 1, 2, 3, 4, 5, 6, 7, 8, 9, 10, 11, 12, 13, 14, 15, 16] (by decide) rfl (q0 := 0) rfl rfl) rfl rfl hl.1 rfl (lv_room (Nat.le_of_ble_eq_true rfl)) dX5_readPiece_15 ⟨Nat.le_refl _, Nat.le_refl _⟩) (fun H locs w => ?_)
    refine lv_if_ne (tgt := 23) hx hb dX5_readPiece_18 (by decide) (fun c4 => ?_) (fun c4 => ?_)
    · replace hf := ite_f c4 hf
      refine lv_aload_n hx hb dX5_readPiece_23 rfl (lv_at hl 0 rfl) ?_
      refine lv_dup hx hb dX5_readPiece_24 rfl ?_
      refine va_get (D := D) (ci := 5) (v := .int m_place) (C := RX5) (T := TX5) (N := 26) hx hb hg iX5 hown w.2.2.2.2.2.2.1 w.1 0 rfl rfl 3 (by decide) (hg _ w_492) (fun _ h9 => h9) rfl dX5_readPiece_25 ?_
      refine lv_iconst (v := 1) hx hb dX5_readPiece_28 (by decide) ?_
      refine lv_iadd hx hb dX5_readPiece_29 ?_
      refine lv_topi (fun z5 ez5 => ?_)
      replace hf := nm_at ez5 hf
      refine k_put (ci := 5) (v := .int z5) (ty := .int) (C := RX5) (T := TX5) (N := 26) hx hb hg iX5 tyX5 tyX5_ok nmX5 hown w 0 rfl rfl 3 (by decide) (hg _ w_492) (fun _ h9 => h9) rfl pd_I rfl rfl (Nat.le_of_ble_eq_true rfl) dX5_readPiece_30 (fun H locs w => ?_)
      have w : Wd D cI cZ b0 tt A s [(m_a, .inr (5, [.int m_thrown, .ref q_text, .int m_textSize, .int z5, .ref q_cards, .ref q_readCards, .ref q_readPage, .ref q_page, .ref q_trial, .ref q_loads, .ref q_book, .int m_acts, .ref q_kept, .ref q_isKept, .int m_held, .ref q_heldWho, .ref q_heldForce, .ref q_heldLoad, .ref q_heldIs, .long m_seed, .int m_tentMany, .int m_tentFirst, .int m_restMany, .int m_restFirst, .ref q_gains, .ref q_value])), (q_text, .inl (cI, 56, .inl m_text)), (q_cards, .inl (cI, 4, .inl m_cards)), (q_readCards, .inl (cI, 4, .inl m_readCards)), (q_readPage, .inl (cI, 17, .inl m_readPage)), (q_page, .inl (cI, 17, .inl m_page)), (q_trial, .inl (cI, 17, .inl m_trial)), (q_loads, .inl (cI, 16, .inl m_loads)), (q_book, .inl (cI, 238, .inl m_book)), (q_kept, .inl (cI, 34, .inl m_kept)), (q_isKept, .inl (cZ, 2, .inl m_isKept)), (q_heldWho, .inl (cI, 6, .inl m_heldWho)), (q_heldForce, .inl (cI, 6, .inl m_heldForce)), (q_heldLoad, .inl (cI, 6, .inl m_heldLoad)), (q_heldIs, .inl (cI, 6, .inl m_heldIs)), (q_gains, .inl (cI, 50, .inl m_gains)), (q_value, .inl (cI, 16, .inl m_value))] H locs := w
      refine lv_aload_n hx hb dX5_readPiece_33 rfl (lv_at hl 0 rfl) ?_
      refine va_get (D := D) (ci := 5) (v := .int z5) (C := RX5) (T := TX5) (N := 26) hx hb hg iX5 hown w.2.2.2.2.2.2.1 w.1 0 rfl rfl 3 (by decide) (hg _ w_492) (fun _ h9 => h9) rfl dX5_readPiece_34 ?_
      refine lv_aload_n hx hb dX5_readPiece_37 rfl (lv_at hl 0 rfl) ?_
      refine va_get (D := D) (ci := 5) (v := .int m_textSize) (C := RX5) (T := TX5) (N := 26) hx hb hg iX5 hown w.2.2.2.2.2.2.1 w.1 0 rfl rfl 2 (by decide) (hg _ w_491) (fun _ h9 => h9) rfl dX5_readPiece_38 ?_
      refine lv_icmp_ge (tgt := 59) hx hb dX5_readPiece_41 (by decide) (fun c6 => ?_) (fun c6 => ?_)
      · replace hf := ite_t c6 hf
        refine lv_bipush (v := (-9)) hx hb dX5_readPiece_59 (by decide) ?_
        refine lv_istore_n (lv' := [(1, .int (-9)), (0, .ref m_a)]) hx hb dX5_readPiece_61 rfl hl (by decide) rfl (fun ls hl => ?_)
        refine lv_iload_n hx hb dX5_readPiece_62 rfl (lv_at hl 0 rfl) ?_
        replace hf := ob_at hf
        obtain ⟨r7, er7, hf⟩ := hf
        refine k_goI0 w [] rfl (va_runS (As := [.int (-9)]) (rest := []) ⟨hx, hb, hml, hown, hg⟩ (tX5_noPiece l D cI cZ b0 tt (-9) er7 H.size) (va_cwS 1 hg (gwS w_621 w_622 w_7 w_623) rfl rfl rfl qdX5_noPiece ⟨Nat.le_of_ble_eq_true rfl, Nat.le_of_ble_eq_true rfl⟩) (k_preS w [] (by decide) rfl) rfl rfl hl.1 rfl (lv_room (Nat.le_of_ble_eq_true rfl)) dX5_readPiece_63 ⟨Nat.le_refl _, Nat.le_refl _⟩) (fun H locs w => ?_)
        refine lv_if_ne (tgt := 77) hx hb dX5_readPiece_66 (by decide) (fun c8 => ?_) (fun c8 => ?_)
        · replace hf := ite_f c8 hf
          refine lv_iconst (v := 0) hx hb dX5_readPiece_77 (by decide) ?_
          exact k_zret (u := (z5, m_readPage)) hx hb hr hlk w rfl rfl hf dX5_readPiece_78
        · replace hf := ite_t c8 hf
          refine lv_aload_n hx hb dX5_readPiece_69 rfl (lv_at hl 1 rfl) ?_
          refine lv_iload_n hx hb dX5_readPiece_70 rfl (lv_at hl 0 rfl) ?_
          replace hf := ob_at hf
          obtain ⟨r9, er9, hf⟩ := hf
          refine k_goI0 w [0, 1, 2, 3, 4, 5, 6, 7, 8, 9, 10, 11, 12, 13, 14, 15, 16] rfl (va_runV (As := [.int (-9)]) (rest := []) ⟨hx, hb, hml, hown, hg⟩ (tX5_couldCome l D cI cZ b0 tt m_a q_text q_cards q_readCards q_readPage q_page q_trial q_loads q_book q_kept q_isKept q_heldWho q_heldForce q_heldLoad q_heldIs q_gains q_value m_thrown m_textSize z5 m_acts m_held m_seed m_tentMany m_tentFirst m_restMany m_restFirst m_text m_cards m_readCards m_readPage m_page m_trial m_loads m_book m_kept m_isKept m_heldWho m_heldForce m_heldLoad m_heldIs m_gains m_value (-9) er9 H.size) (cwV 1 hg (gwV w_600 w_601 w_847 w_7 w_602) rfl rfl rfl ⟨rfl, qdX5_couldCome⟩ ⟨Nat.le_of_ble_eq_true rfl, Nat.le_of_ble_eq_true rfl⟩) (k_preV w [0, 1, 2, 3, 4, 5, 6, 7, 8, 9, 10, 11, 12, 13, 14, 15, 16] (by decide) rfl (q0 := 0) rfl rfl) rfl rfl hl.1 rfl (lv_room (Nat.le_of_ble_eq_true rfl)) dX5_readPiece_71 ⟨Nat.le_refl _, Nat.le_refl _⟩) (fun H locs w => ?_)
          refine lv_if_ne (tgt := 79) hx hb dX5_readPiece_74 (by decide) (fun c10 => ?_) (fun c10 => ?_)
          · replace hf := ite_f c10 hf
            refine lv_aload_n hx hb dX5_readPiece_79 rfl (lv_at hl 1 rfl) ?_
            refine lv_dup hx hb dX5_readPiece_80 rfl ?_
            refine va_get (D := D) (ci := 5) (v := .int z5) (C := RX5) (T := TX5) (N := 26) hx hb hg iX5 hown w.2.2.2.2.2.2.1 w.1 0 rfl rfl 3 (by decide) (hg _ w_492) (fun _ h9 => h9) rfl dX5_readPiece_81 ?_
            refine lv_iconst (v := 1) hx hb dX5_readPiece_84 (by decide) ?_
            refine lv_iadd hx hb dX5_readPiece_85 ?_
            refine lv_topi (fun z11 ez11 => ?_)
            replace hf := nm_at ez11 hf
            refine k_put (ci := 5) (v := .int z11) (ty := .int) (C := RX5) (T := TX5) (N := 26) hx hb hg iX5 tyX5 tyX5_ok nmX5 hown w 0 rfl rfl 3 (by decide) (hg _ w_492) (fun _ h9 => h9) rfl pd_I rfl rfl (Nat.le_of_ble_eq_true rfl) dX5_readPiece_86 (fun H locs w => ?_)
            have w : Wd D cI cZ b0 tt A s [(m_a, .inr (5, [.int m_thrown, .ref q_text, .int m_textSize, .int z11, .ref q_cards, .ref q_readCards, .ref q_readPage, .ref q_page, .ref q_trial, .ref q_loads, .ref q_book, .int m_acts, .ref q_kept, .ref q_isKept, .int m_held, .ref q_heldWho, .ref q_heldForce, .ref q_heldLoad, .ref q_heldIs, .long m_seed, .int m_tentMany, .int m_tentFirst, .int m_restMany, .int m_restFirst, .ref q_gains, .ref q_value])), (q_text, .inl (cI, 56, .inl m_text)), (q_cards, .inl (cI, 4, .inl m_cards)), (q_readCards, .inl (cI, 4, .inl m_readCards)), (q_readPage, .inl (cI, 17, .inl m_readPage)), (q_page, .inl (cI, 17, .inl m_page)), (q_trial, .inl (cI, 17, .inl m_trial)), (q_loads, .inl (cI, 16, .inl m_loads)), (q_book, .inl (cI, 238, .inl m_book)), (q_kept, .inl (cI, 34, .inl m_kept)), (q_isKept, .inl (cZ, 2, .inl m_isKept)), (q_heldWho, .inl (cI, 6, .inl m_heldWho)), (q_heldForce, .inl (cI, 6, .inl m_heldForce)), (q_heldLoad, .inl (cI, 6, .inl m_heldLoad)), (q_heldIs, .inl (cI, 6, .inl m_heldIs)), (q_gains, .inl (cI, 50, .inl m_gains)), (q_value, .inl (cI, 16, .inl m_value))] H locs := w
            refine lv_aload_n hx hb dX5_readPiece_89 rfl (lv_at hl 1 rfl) ?_
            refine lv_iconst (v := 3) hx hb dX5_readPiece_90 (by decide) ?_
            replace hf := ob_at hf
            obtain ⟨r12, er12, hf⟩ := hf
            refine k_goI (v0 := z11) (res := r12) w [0, 1, 2, 3, 4, 5, 6, 7, 8, 9, 10, 11, 12, 13, 14, 15, 16] rfl (fun _ => rfl) (va_runV (As := [.int 3]) (rest := []) ⟨hx, hb, hml, hown, hg⟩ (tX5_figure l D cI cZ b0 tt m_a q_text q_cards q_readCards q_readPage q_page q_trial q_loads q_book q_kept q_isKept q_heldWho q_heldForce q_heldLoad q_heldIs q_gains q_value m_thrown m_textSize z11 m_acts m_held m_seed m_tentMany m_tentFirst m_restMany m_restFirst m_text m_cards m_readCards m_readPage m_page m_trial m_loads m_book m_kept m_isKept m_heldWho m_heldForce m_heldLoad m_heldIs m_gains m_value 3 er12 H.size) (cwV 1 hg (gwV w_591 w_592 w_844 w_7 w_593) rfl rfl rfl ⟨rfl, qdX5_figure⟩ ⟨Nat.le_of_ble_eq_true rfl, Nat.le_of_ble_eq_true rfl⟩) (k_preV w [0, 1, 2, 3, 4, 5, 6, 7, 8, 9, 10, 11, 12, 13, 14, 15, 16] (by decide) rfl (q0 := 0) rfl rfl) rfl rfl hl.1 rfl (lv_room (Nat.le_of_ble_eq_true rfl)) dX5_readPiece_91 ⟨Nat.le_refl _, Nat.le_refl _⟩) (fun H locs w => ?_)
            have w : Wd D cI cZ b0 tt A s [(m_a, .inr (5, [.int m_thrown, .ref q_text, .int m_textSize, .int r12.2, .ref q_cards, .ref q_readCards, .ref q_readPage, .ref q_page, .ref q_trial, .ref q_loads, .ref q_book, .int m_acts, .ref q_kept, .ref q_isKept, .int m_held, .ref q_heldWho, .ref q_heldForce, .ref q_heldLoad, .ref q_heldIs, .long m_seed, .int m_tentMany, .int m_tentFirst, .int m_restMany, .int m_restFirst, .ref q_gains, .ref q_value])), (q_text, .inl (cI, 56, .inl m_text)), (q_cards, .inl (cI, 4, .inl m_cards)), (q_readCards, .inl (cI, 4, .inl m_readCards)), (q_readPage, .inl (cI, 17, .inl m_readPage)), (q_page, .inl (cI, 17, .inl m_page)), (q_trial, .inl (cI, 17, .inl m_trial)), (q_loads, .inl (cI, 16, .inl m_loads)), (q_book, .inl (cI, 238, .inl m_book)), (q_kept, .inl (cI, 34, .inl m_kept)), (q_isKept, .inl (cZ, 2, .inl m_isKept)), (q_heldWho, .inl (cI, 6, .inl m_heldWho)), (q_heldForce, .inl (cI, 6, .inl m_heldForce)), (q_heldLoad, .inl (cI, 6, .inl m_heldLoad)), (q_heldIs, .inl (cI, 6, .inl m_heldIs)), (q_gains, .inl (cI, 50, .inl m_gains)), (q_value, .inl (cI, 16, .inl m_value))] H locs := w
            refine lv_istore_n (lv' := [(2, .int r12.1), (1, .int (-9)), (0, .ref m_a)]) hx hb dX5_readPiece_94 rfl hl (by decide) rfl (fun ls hl => ?_)
            refine lv_iload_n hx hb dX5_readPiece_95 rfl (lv_at hl 0 rfl) ?_
            refine lv_bipush (v := (-9)) hx hb dX5_readPiece_96 (by decide) ?_
            refine lv_icmp_ne (tgt := 103) hx hb dX5_readPiece_98 (by decide) (fun c13 => ?_) (fun c13 => ?_)
            · replace hf := ite_f c13 hf
              refine lv_aload_n hx hb dX5_readPiece_103 rfl (lv_at hl 2 rfl) ?_
              refine lv_iload_n hx hb dX5_readPiece_104 rfl (lv_at hl 1 rfl) ?_
              refine lv_iload_n hx hb dX5_readPiece_105 rfl (lv_at hl 0 rfl) ?_
              replace hf := ob_at hf
              obtain ⟨r14, er14, hf⟩ := hf
              refine k_goI0 w [0, 1, 2, 3, 4, 5, 6, 7, 8, 9, 10, 11, 12, 13, 14, 15, 16] rfl (va_runV (As := [.int (-9), .int r12.1]) (rest := []) ⟨hx, hb, hml, hown, hg⟩ (tX5_enough l D cI cZ b0 tt m_a q_text q_cards q_readCards q_readPage q_page q_trial q_loads q_book q_kept q_isKept q_heldWho q_heldForce q_heldLoad q_heldIs q_gains q_value m_thrown m_textSize r12.2 m_acts m_held m_seed m_tentMany m_tentFirst m_restMany m_restFirst m_text m_cards m_readCards m_readPage m_page m_trial m_loads m_book m_kept m_isKept m_heldWho m_heldForce m_heldLoad m_heldIs m_gains m_value (-9) r12.1 er14 H.size) (cwV 2 hg (gwV w_609 w_610 w_848 w_7 w_611) rfl rfl rfl ⟨rfl, qdX5_enough⟩ ⟨Nat.le_of_ble_eq_true rfl, Nat.le_of_ble_eq_true rfl⟩) (k_preV w [0, 1, 2, 3, 4, 5, 6, 7, 8, 9, 10, 11, 12, 13, 14, 15, 16] (by decide) rfl (q0 := 0) rfl rfl) rfl rfl hl.1 rfl (lv_room (Nat.le_of_ble_eq_true rfl)) dX5_readPiece_106 ⟨Nat.le_refl _, Nat.le_refl _⟩) (fun H locs w => ?_)
              refine lv_if_ne (tgt := 124) hx hb dX5_readPiece_109 (by decide) (fun c15 => ?_) (fun c15 => ?_)
              · replace hf := ite_f c15 hf
                refine lv_aload_n hx hb dX5_readPiece_124 rfl (lv_at hl 2 rfl) ?_
                refine va_get (D := D) (ci := 5) (v := .ref q_readPage) (C := RX5) (T := TX5) (N := 26) hx hb hg iX5 hown w.2.2.2.2.2.2.1 w.1 0 rfl rfl 6 (by decide) (hg _ w_495) (fun _ h9 => h9) rfl dX5_readPiece_125 ?_
                refine lv_iload_n hx hb dX5_readPiece_128 rfl (lv_at hl 1 rfl) ?_
                refine lv_iload_n hx hb dX5_readPiece_129 rfl (lv_at hl 0 rfl) ?_
                refine lv_iconst (v := 1) hx hb dX5_readPiece_130 (by decide) ?_
                refine lv_iadd hx hb dX5_readPiece_131 ?_
                refine lv_topi (fun z16 ez16 => ?_)
                replace hf := nm_at ez16 hf
                replace hf := gd_at hf
                obtain ⟨hi17, hf⟩ := hf
                refine k_iast hx hb w 4 rfl hi17 dX5_readPiece_132 (fun H locs w => ?_)
                have w : Wd D cI cZ b0 tt A s [(m_a, .inr (5, [.int m_thrown, .ref q_text, .int m_textSize, .int r12.2, .ref q_cards, .ref q_readCards, .ref q_readPage, .ref q_page, .ref q_trial, .ref q_loads, .ref q_book, .int m_acts, .ref q_kept, .ref q_isKept, .int m_held, .ref q_heldWho, .ref q_heldForce, .ref q_heldLoad, .ref q_heldIs, .long m_seed, .int m_tentMany, .int m_tentFirst, .int m_restMany, .int m_restFirst, .ref q_gains, .ref q_value])), (q_text, .inl (cI, 56, .inl m_text)), (q_cards, .inl (cI, 4, .inl m_cards)), (q_readCards, .inl (cI, 4, .inl m_readCards)), (q_readPage, .inl (cI, 17, .inl (upd m_readPage (Int32.toNatClampNeg (-9)) z16))), (q_page, .inl (cI, 17, .inl m_page)), (q_trial, .inl (cI, 17, .inl m_trial)), (q_loads, .inl (cI, 16, .inl m_loads)), (q_book, .inl (cI, 238, .inl m_book)), (q_kept, .inl (cI, 34, .inl m_kept)), (q_isKept, .inl (cZ, 2, .inl m_isKept)), (q_heldWho, .inl (cI, 6, .inl m_heldWho)), (q_heldForce, .inl (cI, 6, .inl m_heldForce)), (q_heldLoad, .inl (cI, 6, .inl m_heldLoad)), (q_heldIs, .inl (cI, 6, .inl m_heldIs)), (q_gains, .inl (cI, 50, .inl m_gains)), (q_value, .inl (cI, 16, .inl m_value))] H locs := w
                refine lv_iconst (v := 1) hx hb dX5_readPiece_133 (by decide) ?_
                exact k_zret (u := (r12.2, (upd m_readPage (Int32.toNatClampNeg (-9)) z16))) hx hb hr hlk w rfl rfl hf dX5_readPiece_134
              · replace hf := ite_t c15 hf
                refine lv_aload_n hx hb dX5_readPiece_112 rfl (lv_at hl 2 rfl) ?_
                refine lv_dup hx hb dX5_readPiece_113 rfl ?_
                refine va_get (D := D) (ci := 5) (v := .int r12.2) (C := RX5) (T := TX5) (N := 26) hx hb hg iX5 hown w.2.2.2.2.2.2.1 w.1 0 rfl rfl 3 (by decide) (hg _ w_492) (fun _ h9 => h9) rfl dX5_readPiece_114 ?_
                refine lv_iconst (v := 1) hx hb dX5_readPiece_117 (by decide) ?_
                refine lv_isub hx hb dX5_readPiece_118 ?_
                refine lv_topi (fun z18 ez18 => ?_)
                replace hf := nm_at ez18 hf
                refine k_put (ci := 5) (v := .int z18) (ty := .int) (C := RX5) (T := TX5) (N := 26) hx hb hg iX5 tyX5 tyX5_ok nmX5 hown w 0 rfl rfl 3 (by decide) (hg _ w_492) (fun _ h9 => h9) rfl pd_I rfl rfl (Nat.le_of_ble_eq_true rfl) dX5_readPiece_119 (fun H locs w => ?_)
                have w : Wd D cI cZ b0 tt A s [(m_a, .inr (5, [.int m_thrown, .ref q_text, .int m_textSize, .int z18, .ref q_cards, .ref q_readCards, .ref q_readPage, .ref q_page, .ref q_trial, .ref q_loads, .ref q_book, .int m_acts, .ref q_kept, .ref q_isKept, .int m_held, .ref q_heldWho, .ref q_heldForce, .ref q_heldLoad, .ref q_heldIs, .long m_seed, .int m_tentMany, .int m_tentFirst, .int m_restMany, .int m_restFirst, .ref q_gains, .ref q_value])), (q_text, .inl (cI, 56, .inl m_text)), (q_cards, .inl (cI, 4, .inl m_cards)), (q_readCards, .inl (cI, 4, .inl m_readCards)), (q_readPage, .inl (cI, 17, .inl m_readPage)), (q_page, .inl (cI, 17, .inl m_page)), (q_trial, .inl (cI, 17, .inl m_trial)), (q_loads, .inl (cI, 16, .inl m_loads)), (q_book, .inl (cI, 238, .inl m_book)), (q_kept, .inl (cI, 34, .inl m_kept)), (q_isKept, .inl (cZ, 2, .inl m_isKept)), (q_heldWho, .inl (cI, 6, .inl m_heldWho)), (q_heldForce, .inl (cI, 6, .inl m_heldForce)), (q_heldLoad, .inl (cI, 6, .inl m_heldLoad)), (q_heldIs, .inl (cI, 6, .inl m_heldIs)), (q_gains, .inl (cI, 50, .inl m_gains)), (q_value, .inl (cI, 16, .inl m_value))] H locs := w
                refine lv_iconst (v := 0) hx hb dX5_readPiece_122 (by decide) ?_
                exact k_zret (u := (z18, m_readPage)) hx hb hr hlk w rfl rfl hf dX5_readPiece_123
            · replace hf := ite_t c13 hf
              refine lv_iconst (v := 0) hx hb dX5_readPiece_101 (by decide) ?_
              exact k_zret (u := (r12.2, m_readPage)) hx hb hr hlk w rfl rfl hf dX5_readPiece_102
          · replace hf := ite_t c10 hf
            refine lv_iconst (v := 0) hx hb dX5_readPiece_77 (by decide) ?_
            exact k_zret (u := (z5, m_readPage)) hx hb hr hlk w rfl rfl hf dX5_readPiece_78
      · replace hf := ite_f c6 hf
        refine lv_aload_n hx hb dX5_readPiece_44 rfl (lv_at hl 0 rfl) ?_
        refine va_get (D := D) (ci := 5) (v := .ref q_text) (C := RX5) (T := TX5) (N := 26) hx hb hg iX5 hown w.2.2.2.2.2.2.1 w.1 0 rfl rfl 1 (by decide) (hg _ w_490) (fun _ h9 => h9) rfl dX5_readPiece_45 ?_
        refine lv_aload_n hx hb dX5_readPiece_48 rfl (lv_at hl 0 rfl) ?_
        refine va_get (D := D) (ci := 5) (v := .int z5) (C := RX5) (T := TX5) (N := 26) hx hb hg iX5 hown w.2.2.2.2.2.2.1 w.1 0 rfl rfl 3 (by decide) (hg _ w_492) (fun _ h9 => h9) rfl dX5_readPiece_49 ?_
        replace hf := gd_at hf
        obtain ⟨hi19, hf⟩ := hf
        refine va_iald hx hb w.2.2.2.2.2.2.1 w.1 1 0 rfl rfl hi19 dX5_readPiece_52 ?_
        refine lv_bipush (v := 97) hx hb dX5_readPiece_53 (by decide) ?_
        refine lv_isub hx hb dX5_readPiece_55 ?_
        refine lv_goto (tgt := 61) hx hb dX5_readPiece_56 (by decide) ?_
        refine lv_topi (fun z20 ez20 => ?_)
        replace hf := nm_at ez20 hf
        refine lv_istore_n (lv' := [(1, .int z20), (0, .ref m_a)]) hx hb dX5_readPiece_61 rfl hl (by decide) rfl (fun ls hl => ?_)
        refine lv_iload_n hx hb dX5_readPiece_62 rfl (lv_at hl 0 rfl) ?_
        replace hf := ob_at hf
        obtain ⟨r21, er21, hf⟩ := hf
        refine k_goI0 w [] rfl (va_runS (As := [.int z20]) (rest := []) ⟨hx, hb, hml, hown, hg⟩ (tX5_noPiece l D cI cZ b0 tt z20 er21 H.size) (va_cwS 1 hg (gwS w_621 w_622 w_7 w_623) rfl rfl rfl qdX5_noPiece ⟨Nat.le_of_ble_eq_true rfl, Nat.le_of_ble_eq_true rfl⟩) (k_preS w [] (by decide) rfl) rfl rfl hl.1 rfl (lv_room (Nat.le_of_ble_eq_true rfl)) dX5_readPiece_63 ⟨Nat.le_refl _, Nat.le_refl _⟩) (fun H locs w => ?_)
        refine lv_if_ne (tgt := 77) hx hb dX5_readPiece_66 (by decide) (fun c22 => ?_) (fun c22 => ?_)
        · replace hf := ite_f c22 hf
          refine lv_iconst (v := 0) hx hb dX5_readPiece_77 (by decide) ?_
          exact k_zret (u := (z5, m_readPage)) hx hb hr hlk w rfl rfl hf dX5_readPiece_78
        · replace hf := ite_t c22 hf
          refine lv_aload_n hx hb dX5_readPiece_69 rfl (lv_at hl 1 rfl) ?_
          refine lv_iload_n hx hb dX5_readPiece_70 rfl (lv_at hl 0 rfl) ?_
          replace hf := ob_at hf
          obtain ⟨r23, er23, hf⟩ := hf
          refine k_goI0 w [0, 1, 2, 3, 4, 5, 6, 7, 8, 9, 10, 11, 12, 13, 14, 15, 16] rfl (va_runV (As := [.int z20]) (rest := []) ⟨hx, hb, hml, hown, hg⟩ (tX5_couldCome l D cI cZ b0 tt m_a q_text q_cards q_readCards q_readPage q_page q_trial q_loads q_book q_kept q_isKept q_heldWho q_heldForce q_heldLoad q_heldIs q_gains q_value m_thrown m_textSize z5 m_acts m_held m_seed m_tentMany m_tentFirst m_restMany m_restFirst m_text m_cards m_readCards m_readPage m_page m_trial m_loads m_book m_kept m_isKept m_heldWho m_heldForce m_heldLoad m_heldIs m_gains m_value z20 er23 H.size) (cwV 1 hg (gwV w_600 w_601 w_847 w_7 w_602) rfl rfl rfl ⟨rfl, qdX5_couldCome⟩ ⟨Nat.le_of_ble_eq_true rfl, Nat.le_of_ble_eq_true rfl⟩) (k_preV w [0, 1, 2, 3, 4, 5, 6, 7, 8, 9, 10, 11, 12, 13, 14, 15, 16] (by decide) rfl (q0 := 0) rfl rfl) rfl rfl hl.1 rfl (lv_room (Nat.le_of_ble_eq_true rfl)) dX5_readPiece_71 ⟨Nat.le_refl _, Nat.le_refl _⟩) (fun H locs w => ?_)
          refine lv_if_ne (tgt := 79) hx hb dX5_readPiece_74 (by decide) (fun c24 => ?_) (fun c24 => ?_)
          · replace hf := ite_f c24 hf
            refine lv_aload_n hx hb dX5_readPiece_79 rfl (lv_at hl 1 rfl) ?_
            refine lv_dup hx hb dX5_readPiece_80 rfl ?_
            refine va_get (D := D) (ci := 5) (v := .int z5) (C := RX5) (T := TX5) (N := 26) hx hb hg iX5 hown w.2.2.2.2.2.2.1 w.1 0 rfl rfl 3 (by decide) (hg _ w_492) (fun _ h9 => h9) rfl dX5_readPiece_81 ?_
            refine lv_iconst (v := 1) hx hb dX5_readPiece_84 (by decide) ?_
            refine lv_iadd hx hb dX5_readPiece_85 ?_
            refine lv_topi (fun z25 ez25 => ?_)
            replace hf := nm_at ez25 hf
            refine k_put (ci := 5) (v := .int z25) (ty := .int) (C := RX5) (T := TX5) (N := 26) hx hb hg iX5 tyX5 tyX5_ok nmX5 hown w 0 rfl rfl 3 (by decide) (hg _ w_492) (fun _ h9 => h9) rfl pd_I rfl rfl (Nat.le_of_ble_eq_true rfl) dX5_readPiece_86 (fun H locs w => ?_)
            have w : Wd D cI cZ b0 tt A s [(m_a, .inr (5, [.int m_thrown, .ref q_text, .int m_textSize, .int z25, .ref q_cards, .ref q_readCards, .ref q_readPage, .ref q_page, .ref q_trial, .ref q_loads, .ref q_book, .int m_acts, .ref q_kept, .ref q_isKept, .int m_held, .ref q_heldWho, .ref q_heldForce, .ref q_heldLoad, .ref q_heldIs, .long m_seed, .int m_tentMany, .int m_tentFirst, .int m_restMany, .int m_restFirst, .ref q_gains, .ref q_value])), (q_text, .inl (cI, 56, .inl m_text)), (q_cards, .inl (cI, 4, .inl m_cards)), (q_readCards, .inl (cI, 4, .inl m_readCards)), (q_readPage, .inl (cI, 17, .inl m_readPage)), (q_page, .inl (cI, 17, .inl m_page)), (q_trial, .inl (cI, 17, .inl m_trial)), (q_loads, .inl (cI, 16, .inl m_loads)), (q_book, .inl (cI, 238, .inl m_book)), (q_kept, .inl (cI, 34, .inl m_kept)), (q_isKept, .inl (cZ, 2, .inl m_isKept)), (q_heldWho, .inl (cI, 6, .inl m_heldWho)), (q_heldForce, .inl (cI, 6, .inl m_heldForce)), (q_heldLoad, .inl (cI, 6, .inl m_heldLoad)), (q_heldIs, .inl (cI, 6, .inl m_heldIs)), (q_gains, .inl (cI, 50, .inl m_gains)), (q_value, .inl (cI, 16, .inl m_value))] H locs := w
            refine lv_aload_n hx hb dX5_readPiece_89 rfl (lv_at hl 1 rfl) ?_
            refine lv_iconst (v := 3) hx hb dX5_readPiece_90 (by decide) ?_
            replace hf := ob_at hf
            obtain ⟨r26, er26, hf⟩ := hf
            refine k_goI (v0 := z25) (res := r26) w [0, 1, 2, 3, 4, 5, 6, 7, 8, 9, 10, 11, 12, 13, 14, 15, 16] rfl (fun _ => rfl) (va_runV (As := [.int 3]) (rest := []) ⟨hx, hb, hml, hown, hg⟩ (tX5_figure l D cI cZ b0 tt m_a q_text q_cards q_readCards q_readPage q_page q_trial q_loads q_book q_kept q_isKept q_heldWho q_heldForce q_heldLoad q_heldIs q_gains q_value m_thrown m_textSize z25 m_acts m_held m_seed m_tentMany m_tentFirst m_restMany m_restFirst m_text m_cards m_readCards m_readPage m_page m_trial m_loads m_book m_kept m_isKept m_heldWho m_heldForce m_heldLoad m_heldIs m_gains m_value 3 er26 H.size) (cwV 1 hg (gwV w_591 w_592 w_844 w_7 w_593) rfl rfl rfl ⟨rfl, qdX5_figure⟩ ⟨Nat.le_of_ble_eq_true rfl, Nat.le_of_ble_eq_true rfl⟩) (k_preV w [0, 1, 2, 3, 4, 5, 6, 7, 8, 9, 10, 11, 12, 13, 14, 15, 16] (by decide) rfl (q0 := 0) rfl rfl) rfl rfl hl.1 rfl (lv_room (Nat.le_of_ble_eq_true rfl)) dX5_readPiece_91 ⟨Nat.le_refl _, Nat.le_refl _⟩) (fun H locs w => ?_)
            have w : Wd D cI cZ b0 tt A s [(m_a, .inr (5, [.int m_thrown, .ref q_text, .int m_textSize, .int r26.2, .ref q_cards, .ref q_readCards, .ref q_readPage, .ref q_page, .ref q_trial, .ref q_loads, .ref q_book, .int m_acts, .ref q_kept, .ref q_isKept, .int m_held, .ref q_heldWho, .ref q_heldForce, .ref q_heldLoad, .ref q_heldIs, .long m_seed, .int m_tentMany, .int m_tentFirst, .int m_restMany, .int m_restFirst, .ref q_gains, .ref q_value])), (q_text, .inl (cI, 56, .inl m_text)), (q_cards, .inl (cI, 4, .inl m_cards)), (q_readCards, .inl (cI, 4, .inl m_readCards)), (q_readPage, .inl (cI, 17, .inl m_readPage)), (q_page, .inl (cI, 17, .inl m_page)), (q_trial, .inl (cI, 17, .inl m_trial)), (q_loads, .inl (cI, 16, .inl m_loads)), (q_book, .inl (cI, 238, .inl m_book)), (q_kept, .inl (cI, 34, .inl m_kept)), (q_isKept, .inl (cZ, 2, .inl m_isKept)), (q_heldWho, .inl (cI, 6, .inl m_heldWho)), (q_heldForce, .inl (cI, 6, .inl m_heldForce)), (q_heldLoad, .inl (cI, 6, .inl m_heldLoad)), (q_heldIs, .inl (cI, 6, .inl m_heldIs)), (q_gains, .inl (cI, 50, .inl m_gains)), (q_value, .inl (cI, 16, .inl m_value))] H locs := w
            refine lv_istore_n (lv' := [(2, .int r26.1), (1, .int z20), (0, .ref m_a)]) hx hb dX5_readPiece_94 rfl hl (by decide) rfl (fun ls hl => ?_)
            refine lv_iload_n hx hb dX5_readPiece_95 rfl (lv_at hl 0 rfl) ?_
            refine lv_bipush (v := (-9)) hx hb dX5_readPiece_96 (by decide) ?_
            refine lv_icmp_ne (tgt := 103) hx hb dX5_readPiece_98 (by decide) (fun c27 => ?_) (fun c27 => ?_)
            · replace hf := ite_f c27 hf
              refine lv_aload_n hx hb dX5_readPiece_103 rfl (lv_at hl 2 rfl) ?_
              refine lv_iload_n hx hb dX5_readPiece_104 rfl (lv_at hl 1 rfl) ?_
              refine lv_iload_n hx hb dX5_readPiece_105 rfl (lv_at hl 0 rfl) ?_
              replace hf := ob_at hf
              obtain ⟨r28, er28, hf⟩ := hf
              refine k_goI0 w [0, 1, 2, 3, 4, 5, 6, 7, 8, 9, 10, 11, 12, 13, 14, 15, 16] rfl (va_runV (As := [.int z20, .int r26.1]) (rest := []) ⟨hx, hb, hml, hown, hg⟩ (tX5_enough l D cI cZ b0 tt m_a q_text q_cards q_readCards q_readPage q_page q_trial q_loads q_book q_kept q_isKept q_heldWho q_heldForce q_heldLoad q_heldIs q_gains q_value m_thrown m_textSize r26.2 m_acts m_held m_seed m_tentMany m_tentFirst m_restMany m_restFirst m_text m_cards m_readCards m_readPage m_page m_trial m_loads m_book m_kept m_isKept m_heldWho m_heldForce m_heldLoad m_heldIs m_gains m_value z20 r26.1 er28 H.size) (cwV 2 hg (gwV w_609 w_610 w_848 w_7 w_611) rfl rfl rfl ⟨rfl, qdX5_enough⟩ ⟨Nat.le_of_ble_eq_true rfl, Nat.le_of_ble_eq_true rfl⟩) (k_preV w [0, 1, 2, 3, 4, 5, 6, 7, 8, 9, 10, 11, 12, 13, 14, 15, 16] (by decide) rfl (q0 := 0) rfl rfl) rfl rfl hl.1 rfl (lv_room (Nat.le_of_ble_eq_true rfl)) dX5_readPiece_106 ⟨Nat.le_refl _, Nat.le_refl _⟩) (fun H locs w => ?_)
              refine lv_if_ne (tgt := 124) hx hb dX5_readPiece_109 (by decide) (fun c29 => ?_) (fun c29 => ?_)
              · replace hf := ite_f c29 hf
                refine lv_aload_n hx hb dX5_readPiece_124 rfl (lv_at hl 2 rfl) ?_
                refine va_get (D := D) (ci := 5) (v := .ref q_readPage) (C := RX5) (T := TX5) (N := 26) hx hb hg iX5 hown w.2.2.2.2.2.2.1 w.1 0 rfl rfl 6 (by decide) (hg _ w_495) (fun _ h9 => h9) rfl dX5_readPiece_125 ?_
                refine lv_iload_n hx hb dX5_readPiece_128 rfl (lv_at hl 1 rfl) ?_
                refine lv_iload_n hx hb dX5_readPiece_129 rfl (lv_at hl 0 rfl) ?_
                refine lv_iconst (v := 1) hx hb dX5_readPiece_130 (by decide) ?_
                refine lv_iadd hx hb dX5_readPiece_131 ?_
                refine lv_topi (fun z30 ez30 => ?_)
                replace hf := nm_at ez30 hf
                replace hf := gd_at hf
                obtain ⟨hi31, hf⟩ := hf
                refine k_iast hx hb w 4 rfl hi31 dX5_readPiece_132 (fun H locs w => ?_)
                have w : Wd D cI cZ b0 tt A s [(m_a, .inr (5, [.int m_thrown, .ref q_text, .int m_textSize, .int r26.2, .ref q_cards, .ref q_readCards, .ref q_readPage, .ref q_page, .ref q_trial, .ref q_loads, .ref q_book, .int m_acts, .ref q_kept, .ref q_isKept, .int m_held, .ref q_heldWho, .ref q_heldForce, .ref q_heldLoad, .ref q_heldIs, .long m_seed, .int m_tentMany, .int m_tentFirst, .int m_restMany, .int m_restFirst, .ref q_gains, .ref q_value])), (q_text, .inl (cI, 56, .inl m_text)), (q_cards, .inl (cI, 4, .inl m_cards)), (q_readCards, .inl (cI, 4, .inl m_readCards)), (q_readPage, .inl (cI, 17, .inl (upd m_readPage (Int32.toNatClampNeg z20) z30))), (q_page, .inl (cI, 17, .inl m_page)), (q_trial, .inl (cI, 17, .inl m_trial)), (q_loads, .inl (cI, 16, .inl m_loads)), (q_book, .inl (cI, 238, .inl m_book)), (q_kept, .inl (cI, 34, .inl m_kept)), (q_isKept, .inl (cZ, 2, .inl m_isKept)), (q_heldWho, .inl (cI, 6, .inl m_heldWho)), (q_heldForce, .inl (cI, 6, .inl m_heldForce)), (q_heldLoad, .inl (cI, 6, .inl m_heldLoad)), (q_heldIs, .inl (cI, 6, .inl m_heldIs)), (q_gains, .inl (cI, 50, .inl m_gains)), (q_value, .inl (cI, 16, .inl m_value))] H locs := w
                refine lv_iconst (v := 1) hx hb dX5_readPiece_133 (by decide) ?_
                exact k_zret (u := (r26.2, (upd m_readPage (Int32.toNatClampNeg z20) z30))) hx hb hr hlk w rfl rfl hf dX5_readPiece_134
              · replace hf := ite_t c29 hf
                refine lv_aload_n hx hb dX5_readPiece_112 rfl (lv_at hl 2 rfl) ?_
                refine lv_dup hx hb dX5_readPiece_113 rfl ?_
                refine va_get (D := D) (ci := 5) (v := .int r26.2) (C := RX5) (T := TX5) (N := 26) hx hb hg iX5 hown w.2.2.2.2.2.2.1 w.1 0 rfl rfl 3 (by decide) (hg _ w_492) (fun _ h9 => h9) rfl dX5_readPiece_114 ?_
                refine lv_iconst (v := 1) hx hb dX5_readPiece_117 (by decide) ?_
                refine lv_isub hx hb dX5_readPiece_118 ?_
                refine lv_topi (fun z32 ez32 => ?_)
                replace hf := nm_at ez32 hf
                refine k_put (ci := 5) (v := .int z32) (ty := .int) (C := RX5) (T := TX5) (N := 26) hx hb hg iX5 tyX5 tyX5_ok nmX5 hown w 0 rfl rfl 3 (by decide) (hg _ w_492) (fun _ h9 => h9) rfl pd_I rfl rfl (Nat.le_of_ble_eq_true rfl) dX5_readPiece_119 (fun H locs w => ?_)
                have w : Wd D cI cZ b0 tt A s [(m_a, .inr (5, [.int m_thrown, .ref q_text, .int m_textSize, .int z32, .ref q_cards, .ref q_readCards, .ref q_readPage, .ref q_page, .ref q_trial, .ref q_loads, .ref q_book, .int m_acts, .ref q_kept, .ref q_isKept, .int m_held, .ref q_heldWho, .ref q_heldForce, .ref q_heldLoad, .ref q_heldIs, .long m_seed, .int m_tentMany, .int m_tentFirst, .int m_restMany, .int m_restFirst, .ref q_gains, .ref q_value])), (q_text, .inl (cI, 56, .inl m_text)), (q_cards, .inl (cI, 4, .inl m_cards)), (q_readCards, .inl (cI, 4, .inl m_readCards)), (q_readPage, .inl (cI, 17, .inl m_readPage)), (q_page, .inl (cI, 17, .inl m_page)), (q_trial, .inl (cI, 17, .inl m_trial)), (q_loads, .inl (cI, 16, .inl m_loads)), (q_book, .inl (cI, 238, .inl m_book)), (q_kept, .inl (cI, 34, .inl m_kept)), (q_isKept, .inl (cZ, 2, .inl m_isKept)), (q_heldWho, .inl (cI, 6, .inl m_heldWho)), (q_heldForce, .inl (cI, 6, .inl m_heldForce)), (q_heldLoad, .inl (cI, 6, .inl m_heldLoad)), (q_heldIs, .inl (cI, 6, .inl m_heldIs)), (q_gains, .inl (cI, 50, .inl m_gains)), (q_value, .inl (cI, 16, .inl m_value))] H locs := w
                refine lv_iconst (v := 0) hx hb dX5_readPiece_122 (by decide) ?_
                exact k_zret (u := (z32, m_readPage)) hx hb hr hlk w rfl rfl hf dX5_readPiece_123
            · replace hf := ite_t c27 hf
              refine lv_iconst (v := 0) hx hb dX5_readPiece_101 (by decide) ?_
              exact k_zret (u := (r26.2, m_readPage)) hx hb hr hlk w rfl rfl hf dX5_readPiece_102
          · replace hf := ite_t c24 hf
            refine lv_iconst (v := 0) hx hb dX5_readPiece_77 (by decide) ?_
            exact k_zret (u := (z5, m_readPage)) hx hb hr hlk w rfl rfl hf dX5_readPiece_78
    · replace hf := ite_t c4 hf
      refine lv_iconst (v := 0) hx hb dX5_readPiece_21 (by decide) ?_
      exact k_zret (u := (m_place, m_readPage)) hx hb hr hlk w rfl rfl hf dX5_readPiece_22
-- X5_readHead
def fX5_readHead_L2   (m_textSize : Int32) (m_text : Nat → Int32) : Nat → Int32 → Int32 → (Nat → Int32) → Option (Int32 × Int32 × (Nat → Int32))
  | 0, _, _, _ => none
  | n + 1, v1, m_place, m_readCards => (if 4 ≤ v1 then some (1, (m_place, m_readCards)) else ob (fX5_figure m_textSize m_place m_text 9) (fun r2 => (if r2.1 = (-9) then some (0, (r2.2, m_readCards)) else nm ((3 : Int32) * r2.1) (fun z4 => gd v1 4 (nm (v1 + 1) (fun z6 => fX5_readHead_L2 m_textSize m_text n z6 r2.2 (upd m_readCards (Int32.toNatClampNeg v1) z4)))))))
set_option maxRecDepth 100000 in
set_option maxHeartbeats 4000000 in
theorem tX5_readHead_L2 {p : Program} {l : Launch} {e : Env} {s : State} {m : MethodId} {args : Array Value} {below : List Frame} {meth : Method} {c : Code} {D : va_G} {cI cZ : ClassId} {b0 : Nat} {tt : Nat → Nat} {A : Nat → Prop}  {m_a q_text q_cards q_readCards q_readPage q_page q_trial q_loads q_book q_kept q_isKept q_heldWho q_heldForce q_heldLoad q_heldIs q_gains q_value : Nat}  {m_textSize : Int32} {m_text : Nat → Int32} {m_thrown : Int32} {m_acts : Int32} {m_held : Int32} {m_seed : Int64} {m_tentMany : Int32} {m_tentFirst : Int32} {m_restMany : Int32} {m_restFirst : Int32} {m_cards : Nat → Int32} {m_readPage : Nat → Int32} {m_page : Nat → Int32} {m_trial : Nat → Int32} {m_loads : Nat → Int32} {m_book : Nat → Int32} {m_kept : Nat → Int32} {m_isKept : Nat → Int32} {m_heldWho : Nat → Int32} {m_heldForce : Nat → Int32} {m_heldLoad : Nat → Int32} {m_heldIs : Nat → Int32} {m_gains : Nat → Int32} {m_value : Nat → Int32} {res : Int32 × Int32 × (Nat → Int32)} (C : Cx p s m args meth c cX5_readHead 3 (some .boolean) (cwX5_readHead :: GW) RX5) : ∀ (n : Nat) (v1 : Int32) (m_place : Int32) (m_readCards : Nat → Int32) (H : Heap) (locs : List Loc) (ls : Array Slot), fX5_readHead_L2 m_textSize m_text n v1 m_place m_readCards = some res → Wd D cI cZ b0 tt A s [(m_a, .inr (5, [.int m_thrown, .ref q_text, .int m_textSize, .int m_place, .ref q_cards, .ref q_readCards, .ref q_readPage, .ref q_page, .ref q_trial, .ref q_loads, .ref q_book, .int m_acts, .ref q_kept, .ref q_isKept, .int m_held, .ref q_heldWho, .ref q_heldForce, .ref q_heldLoad, .ref q_heldIs, .long m_seed, .int m_tentMany, .int m_tentFirst, .int m_restMany, .int m_restFirst, .ref q_gains, .ref q_value])), (q_text, .inl (cI, 56, .inl m_text)), (q_cards, .inl (cI, 4, .inl m_cards)), (q_readCards, .inl (cI, 4, .inl m_readCards)), (q_readPage, .inl (cI, 17, .inl m_readPage)), (q_page, .inl (cI, 17, .inl m_page)), (q_trial, .inl (cI, 17, .inl m_trial)), (q_loads, .inl (cI, 16, .inl m_loads)), (q_book, .inl (cI, 238, .inl m_book)), (q_kept, .inl (cI, 34, .inl m_kept)), (q_isKept, .inl (cZ, 2, .inl m_isKept)), (q_heldWho, .inl (cI, 6, .inl m_heldWho)), (q_heldForce, .inl (cI, 6, .inl m_heldForce)), (q_heldLoad, .inl (cI, 6, .inl m_heldLoad)), (q_heldIs, .inl (cI, 6, .inl m_heldIs)), (q_gains, .inl (cI, 50, .inl m_gains)), (q_value, .inl (cI, 16, .inl m_value))] H locs → lv_has ls 3 [(0, .ref m_a), (1, .int v1)] → W p l e (rmo 2 46) s m args below meth c H locs 0 0 (MQ below (QI D (fun u : Int32 × (Nat → Int32) => [(m_a, .inr (5, [.int m_thrown, .ref q_text, .int m_textSize, .int u.1, .ref q_cards, .ref q_readCards, .ref q_readPage, .ref q_page, .ref q_trial, .ref q_loads, .ref q_book, .int m_acts, .ref q_kept, .ref q_isKept, .int m_held, .ref q_heldWho, .ref q_heldForce, .ref q_heldLoad, .ref q_heldIs, .long m_seed, .int m_tentMany, .int m_tentFirst, .int m_restMany, .int m_restFirst, .ref q_gains, .ref q_value])), (q_text, .inl (cI, 56, .inl m_text)), (q_cards, .inl (cI, 4, .inl m_cards)), (q_readCards, .inl (cI, 4, .inl u.2)), (q_readPage, .inl (cI, 17, .inl m_readPage)), (q_page, .inl (cI, 17, .inl m_page)), (q_trial, .inl (cI, 17, .inl m_trial)), (q_loads, .inl (cI, 16, .inl m_loads)), (q_book, .inl (cI, 238, .inl m_book)), (q_kept, .inl (cI, 34, .inl m_kept)), (q_isKept, .inl (cZ, 2, .inl m_isKept)), (q_heldWho, .inl (cI, 6, .inl m_heldWho)), (q_heldForce, .inl (cI, 6, .inl m_heldForce)), (q_heldLoad, .inl (cI, 6, .inl m_heldLoad)), (q_heldIs, .inl (cI, 6, .inl m_heldIs)), (q_gains, .inl (cI, 50, .inl m_gains)), (q_value, .inl (cI, 16, .inl m_value))]) A res) args s 0 0 A) (F0 m 2 ls []) := by
  obtain ⟨hx, hb, hr, hml, hown, hts, hlk⟩ := id C
  have hg : ∀ w ∈ GW, w.before args s = true := fun w h => hts w (List.mem_cons_of_mem _ h)
  intro n
  induction n with
  | zero =>
    intro _ _ _ H locs ls hf
    rw [fX5_readHead_L2] at hf
    cases hf
  | succ n ih =>
    intro v1 m_place m_readCards H locs ls hf w hl
    rw [fX5_readHead_L2] at hf
    refine lv_iload_n hx hb dX5_readHead_2 rfl (lv_at hl 1 rfl) ?_
    refine lv_iconst (v := 4) hx hb dX5_readHead_3 (by decide) ?_
    refine lv_icmp_ge (tgt := 37) hx hb dX5_readHead_4 (by decide) (fun c1 => ?_) (fun c1 => ?_)
    · replace hf := ite_t c1 hf
      refine lv_iconst (v := 1) hx hb dX5_readHead_37 (by decide) ?_
      exact k_zret (u := (m_place, m_readCards)) hx hb hr hlk w rfl rfl hf dX5_readHead_38
    · replace hf := ite_f c1 hf
      refine lv_aload_n hx hb dX5_readHead_7 rfl (lv_at hl 0 rfl) ?_
      refine lv_bipush (v := 9) hx hb dX5_readHead_8 (by decide) ?_
      replace hf := ob_at hf
      obtain ⟨r2, er2, hf⟩ := hf
      refine k_goI (v0 := m_place) (res := r2) w [0, 1, 2, 3, 4, 5, 6, 7, 8, 9, 10, 11, 12, 13, 14, 15, 16] rfl (fun _ => rfl) (va_runV (As := [.int 9]) (rest := []) ⟨hx, hb, hml, hown, hg⟩ (tX5_figure l D cI cZ b0 tt m_a q_text q_cards q_readCards q_readPage q_page q_trial q_loads q_book q_kept q_isKept q_heldWho q_heldForce q_heldLoad q_heldIs q_gains q_value m_thrown m_textSize m_place m_acts m_held m_seed m_tentMany m_tentFirst m_restMany m_restFirst m_text m_cards m_readCards m_readPage m_page m_trial m_loads m_book m_kept m_isKept m_heldWho m_heldForce m_heldLoad m_heldIs m_gains m_value 9 er2 H.size) (cwV 1 hg (gwV w_591 w_592 w_844 w_7 w_593) rfl rfl rfl ⟨rfl, qdX5_figure⟩ ⟨Nat.le_of_ble_eq_true rfl, Nat.le_of_ble_eq_true rfl⟩) (k_preV w [0, 1, 2, 3, 4, 5, 6, 7, 8, 9, 10, 11, 12, 13, 14, 15, 16] (by decide) rfl (q0 := 0) rfl rfl) rfl rfl hl.1 rfl (lv_room (Nat.le_of_ble_eq_true rfl)) dX5_readHead_10 ⟨Nat.le_refl _, Nat.le_refl _⟩) (fun H locs w => ?_)
      have w : Wd D cI cZ b0 tt A s [(m_a, .inr (5, [.int m_thrown, .ref q_text, .int m_textSize, .int r2.2, .ref q_cards, .ref q_readCards, .ref q_readPage, .ref q_page, .ref q_trial, .ref q_loads, .ref q_book, .int m_acts, .ref q_kept, .ref q_isKept, .int m_held, .ref q_heldWho, .ref q_heldForce, .ref q_heldLoad, .ref q_heldIs, .long m_seed, .int m_tentMany, .int m_tentFirst, .int m_restMany, .int m_restFirst, .ref q_gains, .ref q_value])), (q_text, .inl (cI, 56, .inl m_text)), (q_cards, .inl (cI, 4, .inl m_cards)), (q_readCards, .inl (cI, 4, .inl m_readCards)), (q_readPage, .inl (cI, 17, .inl m_readPage)), (q_page, .inl (cI, 17, .inl m_page)), (q_trial, .inl (cI, 17, .inl m_trial)), (q_loads, .inl (cI, 16, .inl m_loads)), (q_book, .inl (cI, 238, .inl m_book)), (q_kept, .inl (cI, 34, .inl m_kept)), (q_isKept, .inl (cZ, 2, .inl m_isKept)), (q_heldWho, .inl (cI, 6, .inl m_heldWho)), (q_heldForce, .inl (cI, 6, .inl m_heldForce)), (q_heldLoad, .inl (cI, 6, .inl m_heldLoad)), (q_heldIs, .inl (cI, 6, .inl m_heldIs)), (q_gains, .inl (cI, 50, .inl m_gains)), (q_value, .inl (cI, 16, .inl m_value))] H locs := w
      refine lv_istore_n (lv' := [(2, .int r2.1), (0, .ref m_a), (1, .int v1)]) hx hb dX5_readHead_13 rfl hl (by decide) rfl (fun ls hl => ?_)
      refine lv_iload_n hx hb dX5_readHead_14 rfl (lv_at hl 0 rfl) ?_
      refine lv_bipush (v := (-9)) hx hb dX5_readHead_15 (by decide) ?_
      refine lv_icmp_ne (tgt := 22) hx hb dX5_readHead_17 (by decide) (fun c3 => ?_) (fun c3 => ?_)
      · replace hf := ite_f c3 hf
        refine lv_aload_n hx hb dX5_readHead_22 rfl (lv_at hl 1 rfl) ?_
        refine va_get (D := D) (ci := 5) (v := .ref q_readCards) (C := RX5) (T := TX5) (N := 26) hx hb hg iX5 hown w.2.2.2.2.2.2.1 w.1 0 rfl rfl 5 (by decide) (hg _ w_494) (fun _ h9 => h9) rfl dX5_readHead_23 ?_
        refine lv_iload_n hx hb dX5_readHead_26 rfl (lv_at hl 2 rfl) ?_
        refine lv_iconst (v := 3) hx hb dX5_readHead_27 (by decide) ?_
        refine lv_iload_n hx hb dX5_readHead_28 rfl (lv_at hl 0 rfl) ?_
        refine lv_imul hx hb dX5_readHead_29 ?_
        refine lv_topi (fun z4 ez4 => ?_)
        replace hf := nm_at ez4 hf
        replace hf := gd_at hf
        obtain ⟨hi5, hf⟩ := hf
        refine k_iast hx hb w 3 rfl hi5 dX5_readHead_30 (fun H locs w => ?_)
        have w : Wd D cI cZ b0 tt A s [(m_a, .inr (5, [.int m_thrown, .ref q_text, .int m_textSize, .int r2.2, .ref q_cards, .ref q_readCards, .ref q_readPage, .ref q_page, .ref q_trial, .ref q_loads, .ref q_book, .int m_acts, .ref q_kept, .ref q_isKept, .int m_held, .ref q_heldWho, .ref q_heldForce, .ref q_heldLoad, .ref q_heldIs, .long m_seed, .int m_tentMany, .int m_tentFirst, .int m_restMany, .int m_restFirst, .ref q_gains, .ref q_value])), (q_text, .inl (cI, 56, .inl m_text)), (q_cards, .inl (cI, 4, .inl m_cards)), (q_readCards, .inl (cI, 4, .inl (upd m_readCards (Int32.toNatClampNeg v1) z4))), (q_readPage, .inl (cI, 17, .inl m_readPage)), (q_page, .inl (cI, 17, .inl m_page)), (q_trial, .inl (cI, 17, .inl m_trial)), (q_loads, .inl (cI, 16, .inl m_loads)), (q_book, .inl (cI, 238, .inl m_book)), (q_kept, .inl (cI, 34, .inl m_kept)), (q_isKept, .inl (cZ, 2, .inl m_isKept)), (q_heldWho, .inl (cI, 6, .inl m_heldWho)), (q_heldForce, .inl (cI, 6, .inl m_heldForce)), (q_heldLoad, .inl (cI, 6, .inl m_heldLoad)), (q_heldIs, .inl (cI, 6, .inl m_heldIs)), (q_gains, .inl (cI, 50, .inl m_gains)), (q_value, .inl (cI, 16, .inl m_value))] H locs := w
        obtain ⟨z6, ez6⟩ : ∃ y : Int32, y = (v1 + 1) := ⟨_, rfl⟩
        replace hf := nm_at ez6 hf
        refine lv_iinc (v := z6) (lv' := [(1, .int z6), (2, .int r2.1), (0, .ref m_a)]) hx hb dX5_readHead_31 hl (k := 2) rfl (by rw [ez6]; rfl) (by decide) rfl (fun ls hl => ?_)
        refine lv_goto (tgt := 2) hx hb dX5_readHead_34 (by decide) ?_
        exact ih z6 r2.2 (upd m_readCards (Int32.toNatClampNeg v1) z4) H locs ls hf w (lv_sub hl [2, 0] rfl)
      · replace hf := ite_t c3 hf
        refine lv_iconst (v := 0) hx hb dX5_readHead_20 (by decide) ?_
        exact k_zret (u := (r2.2, m_readCards)) hx hb hr hlk w rfl rfl hf dX5_readHead_21
def fX5_readHead  (m_textSize : Int32) (m_place : Int32) (m_text : Nat → Int32) (m_readCards : Nat → Int32) : Option (Int32 × Int32 × (Nat → Int32)) := fX5_readHead_L2 m_textSize m_text FU 0 m_place m_readCards
set_option maxRecDepth 100000 in
set_option maxHeartbeats 4000000 in
theorem tX5_readHead (l : Launch) (D : va_G) (cI cZ : ClassId) (b0 : Nat) (tt : Nat → Nat)  (m_a q_text q_cards q_readCards q_readPage q_page q_trial q_loads q_book q_kept q_isKept q_heldWho q_heldForce q_heldLoad q_heldIs q_gains q_value : Nat) (m_thrown : Int32) (m_textSize : Int32) (m_place : Int32) (m_acts : Int32) (m_held : Int32) (m_seed : Int64) (m_tentMany : Int32) (m_tentFirst : Int32) (m_restMany : Int32) (m_restFirst : Int32) (m_text : Nat → Int32) (m_cards : Nat → Int32) (m_readCards : Nat → Int32) (m_readPage : Nat → Int32) (m_page : Nat → Int32) (m_trial : Nat → Int32) (m_loads : Nat → Int32) (m_book : Nat → Int32) (m_kept : Nat → Int32) (m_isKept : Nat → Int32) (m_heldWho : Nat → Int32) (m_heldForce : Nat → Int32) (m_heldLoad : Nat → Int32) (m_heldIs : Nat → Int32) (m_gains : Nat → Int32) (m_value : Nat → Int32)  {res : Int32 × Int32 × (Nat → Int32)} (hf : fX5_readHead m_textSize m_place m_text m_readCards = some res) : CtI l yX5_readHead (cwX5_readHead :: GW) 2 46 D cI cZ b0 tt [.ref m_a] (fun u : Int32 × (Nat → Int32) => [(m_a, .inr (5, [.int m_thrown, .ref q_text, .int m_textSize, .int u.1, .ref q_cards, .ref q_readCards, .ref q_readPage, .ref q_page, .ref q_trial, .ref q_loads, .ref q_book, .int m_acts, .ref q_kept, .ref q_isKept, .int m_held, .ref q_heldWho, .ref q_heldForce, .ref q_heldLoad, .ref q_heldIs, .long m_seed, .int m_tentMany, .int m_tentFirst, .int m_restMany, .int m_restFirst, .ref q_gains, .ref q_value])), (q_text, .inl (cI, 56, .inl m_text)), (q_cards, .inl (cI, 4, .inl m_cards)), (q_readCards, .inl (cI, 4, .inl u.2)), (q_readPage, .inl (cI, 17, .inl m_readPage)), (q_page, .inl (cI, 17, .inl m_page)), (q_trial, .inl (cI, 17, .inl m_trial)), (q_loads, .inl (cI, 16, .inl m_loads)), (q_book, .inl (cI, 238, .inl m_book)), (q_kept, .inl (cI, 34, .inl m_kept)), (q_isKept, .inl (cZ, 2, .inl m_isKept)), (q_heldWho, .inl (cI, 6, .inl m_heldWho)), (q_heldForce, .inl (cI, 6, .inl m_heldForce)), (q_heldLoad, .inl (cI, 6, .inl m_heldLoad)), (q_heldIs, .inl (cI, 6, .inl m_heldIs)), (q_gains, .inl (cI, 50, .inl m_gains)), (q_value, .inl (cI, 16, .inl m_value))]) (m_place, m_readCards) res := by
  intro sz
  refine k_begin (cc := cX5_readHead) (maxL := 3) (ret := (some .boolean)) (by decide) rfl (Nat.le_of_ble_eq_true rfl) ?_
  intro p e s m below meth c ls C w hl
  generalize va_A _ sz = A at w ⊢
  have w : Wd D cI cZ b0 tt A s [(m_a, .inr (5, [.int m_thrown, .ref q_text, .int m_textSize, .int m_place, .ref q_cards, .ref q_readCards, .ref q_readPage, .ref q_page, .ref q_trial, .ref q_loads, .ref q_book, .int m_acts, .ref q_kept, .ref q_isKept, .int m_held, .ref q_heldWho, .ref q_heldForce, .ref q_heldLoad, .ref q_heldIs, .long m_seed, .int m_tentMany, .int m_tentFirst, .int m_restMany, .int m_restFirst, .ref q_gains, .ref q_value])), (q_text, .inl (cI, 56, .inl m_text)), (q_cards, .inl (cI, 4, .inl m_cards)), (q_readCards, .inl (cI, 4, .inl m_readCards)), (q_readPage, .inl (cI, 17, .inl m_readPage)), (q_page, .inl (cI, 17, .inl m_page)), (q_trial, .inl (cI, 17, .inl m_trial)), (q_loads, .inl (cI, 16, .inl m_loads)), (q_book, .inl (cI, 238, .inl m_book)), (q_kept, .inl (cI, 34, .inl m_kept)), (q_isKept, .inl (cZ, 2, .inl m_isKept)), (q_heldWho, .inl (cI, 6, .inl m_heldWho)), (q_heldForce, .inl (cI, 6, .inl m_heldForce)), (q_heldLoad, .inl (cI, 6, .inl m_heldLoad)), (q_heldIs, .inl (cI, 6, .inl m_heldIs)), (q_gains, .inl (cI, 50, .inl m_gains)), (q_value, .inl (cI, 16, .inl m_value))] s.heap [] := w
  have hl : lv_has ls 3 [(0, .ref m_a)] := hl
  obtain ⟨H, eH⟩ : ∃ H, H = s.heap := ⟨_, rfl⟩
  rw [← eH] at w ⊢
  generalize ([] : List Loc) = locs at w ⊢
  generalize List.toArray _ = args at C ⊢
  obtain ⟨hx, hb, hr, hml, hown, hts, hlk⟩ := id C
  have hg : ∀ w ∈ GW, w.before args s = true := fun w h => hts w (List.mem_cons_of_mem _ h)
  unfold fX5_readHead at hf
  refine lv_iconst (v := 0) hx hb dX5_readHead_0 (by decide) ?_
  refine lv_istore_n (lv' := [(1, .int 0), (0, .ref m_a)]) hx hb dX5_readHead_1 rfl hl (by decide) rfl (fun ls hl => ?_)
  exact tX5_readHead_L2 (m_textSize := m_textSize) (m_text := m_text) (m_thrown := m_thrown) (m_acts := m_acts) (m_held := m_held) (m_seed := m_seed) (m_tentMany := m_tentMany) (m_tentFirst := m_tentFirst) (m_restMany := m_restMany) (m_restFirst := m_restFirst) (m_cards := m_cards) (m_readPage := m_readPage) (m_page := m_page) (m_trial := m_trial) (m_loads := m_loads) (m_book := m_book) (m_kept := m_kept) (m_isKept := m_isKept) (m_heldWho := m_heldWho) (m_heldForce := m_heldForce) (m_heldLoad := m_heldLoad) (m_heldIs := m_heldIs) (m_gains := m_gains) (m_value := m_value) (C := C) FU 0 m_place m_readCards H locs ls hf w (lv_sub hl [1, 0] rfl)
-- X5_readHouse
def fX5_readHouse_L63   (v1 : Int32) (m_textSize : Int32) (m_text : Nat → Int32) (m_readCards : Nat → Int32) : Nat → Int32 → (Nat → Int32) → Option (Int32 × Int32 × (Nat → Int32) × (Nat → Int32))
  | 0, _, _ => none
  | n + 1, m_place, m_readPage => (if m_textSize ≤ m_place then some ((-9), (m_place, m_readCards, m_readPage)) else ob (fX5_readPiece m_textSize m_place m_text m_readCards m_readPage) (fun r2 => (if r2.1 = 0 then some (r2.2.1, (r2.2.1, m_readCards, r2.2.2)) else fX5_readHouse_L63 v1 m_textSize m_text m_readCards n r2.2.1 r2.2.2)))
set_option maxRecDepth 100000 in
set_option maxHeartbeats 4000000 in
theorem tX5_readHouse_L63 {p : Program} {l : Launch} {e : Env} {s : State} {m : MethodId} {args : Array Value} {below : List Frame} {meth : Method} {c : Code} {D : va_G} {cI cZ : ClassId} {b0 : Nat} {tt : Nat → Nat} {A : Nat → Prop}  {m_a q_text q_cards q_readCards q_readPage q_page q_trial q_loads q_book q_kept q_isKept q_heldWho q_heldForce q_heldLoad q_heldIs q_gains q_value : Nat}  {v1 : Int32} {m_textSize : Int32} {m_text : Nat → Int32} {m_readCards : Nat → Int32} {m_thrown : Int32} {m_acts : Int32} {m_held : Int32} {m_seed : Int64} {m_tentMany : Int32} {m_tentFirst : Int32} {m_restMany : Int32} {m_restFirst : Int32} {m_cards : Nat → Int32} {m_page : Nat → Int32} {m_trial : Nat → Int32} {m_loads : Nat → Int32} {m_book : Nat → Int32} {m_kept : Nat → Int32} {m_isKept : Nat → Int32} {m_heldWho : Nat → Int32} {m_heldForce : Nat → Int32} {m_heldLoad : Nat → Int32} {m_heldIs : Nat → Int32} {m_gains : Nat → Int32} {m_value : Nat → Int32} {res : Int32 × Int32 × (Nat → Int32) × (Nat → Int32)} (C : Cx p s m args meth c cX5_readHouse 2 (some .int) (cwX5_readHouse :: GW) RX5) : ∀ (n : Nat) (m_place : Int32) (m_readPage : Nat → Int32) (H : Heap) (locs : List Loc) (ls : Array Slot), fX5_readHouse_L63 v1 m_textSize m_text m_readCards n m_place m_readPage = some res → Wd D cI cZ b0 tt A s [(m_a, .inr (5, [.int m_thrown, .ref q_text, .int m_textSize, .int m_place, .ref q_cards, .ref q_readCards, .ref q_readPage, .ref q_page, .ref q_trial, .ref q_loads, .ref q_book, .int m_acts, .ref q_kept, .ref q_isKept, .int m_held, .ref q_heldWho, .ref q_heldForce, .ref q_heldLoad, .ref q_heldIs, .long m_seed, .int m_tentMany, .int m_tentFirst, .int m_restMany, .int m_restFirst, .ref q_gains, .ref q_value])), (q_text, .inl (cI, 56, .inl m_text)), (q_cards, .inl (cI, 4, .inl m_cards)), (q_readCards, .inl (cI, 4, .inl m_readCards)), (q_readPage, .inl (cI, 17, .inl m_readPage)), (q_page, .inl (cI, 17, .inl m_page)), (q_trial, .inl (cI, 17, .inl m_trial)), (q_loads, .inl (cI, 16, .inl m_loads)), (q_book, .inl (cI, 238, .inl m_book)), (q_kept, .inl (cI, 34, .inl m_kept)), (q_isKept, .inl (cZ, 2, .inl m_isKept)), (q_heldWho, .inl (cI, 6, .inl m_heldWho)), (q_heldForce, .inl (cI, 6, .inl m_heldForce)), (q_heldLoad, .inl (cI, 6, .inl m_heldLoad)), (q_heldIs, .inl (cI, 6, .inl m_heldIs)), (q_gains, .inl (cI, 50, .inl m_gains)), (q_value, .inl (cI, 16, .inl m_value))] H locs → lv_has ls 2 [(0, .ref m_a), (1, .int v1)] → W p l e (rmo 7 150) s m args below meth c H locs 0 0 (MQ below (QI D (fun u : Int32 × (Nat → Int32) × (Nat → Int32) => [(m_a, .inr (5, [.int m_thrown, .ref q_text, .int m_textSize, .int u.1, .ref q_cards, .ref q_readCards, .ref q_readPage, .ref q_page, .ref q_trial, .ref q_loads, .ref q_book, .int m_acts, .ref q_kept, .ref q_isKept, .int m_held, .ref q_heldWho, .ref q_heldForce, .ref q_heldLoad, .ref q_heldIs, .long m_seed, .int m_tentMany, .int m_tentFirst, .int m_restMany, .int m_restFirst, .ref q_gains, .ref q_value])), (q_text, .inl (cI, 56, .inl m_text)), (q_cards, .inl (cI, 4, .inl m_cards)), (q_readCards, .inl (cI, 4, .inl u.2.1)), (q_readPage, .inl (cI, 17, .inl u.2.2)), (q_page, .inl (cI, 17, .inl m_page)), (q_trial, .inl (cI, 17, .inl m_trial)), (q_loads, .inl (cI, 16, .inl m_loads)), (q_book, .inl (cI, 238, .inl m_book)), (q_kept, .inl (cI, 34, .inl m_kept)), (q_isKept, .inl (cZ, 2, .inl m_isKept)), (q_heldWho, .inl (cI, 6, .inl m_heldWho)), (q_heldForce, .inl (cI, 6, .inl m_heldForce)), (q_heldLoad, .inl (cI, 6, .inl m_heldLoad)), (q_heldIs, .inl (cI, 6, .inl m_heldIs)), (q_gains, .inl (cI, 50, .inl m_gains)), (q_value, .inl (cI, 16, .inl m_value))]) A res) args s 0 0 A) (F0 m 63 ls []) := by
  obtain ⟨hx, hb, hr, hml, hown, hts, hlk⟩ := id C
  have hg : ∀ w ∈ GW, w.before args s = true := fun w h => hts w (List.mem_cons_of_mem _ h)
  intro n
  induction n with
  | zero =>
    intro _ _ H locs ls hf
    rw [fX5_readHouse_L63] at hf
    cases hf
  | succ n ih =>
    intro m_place m_readPage H locs ls hf w hl
    rw [fX5_readHouse_L63] at hf
    refine lv_aload_n hx hb dX5_readHouse_63 rfl (lv_at hl 0 rfl) ?_
    refine va_get (D := D) (ci := 5) (v := .int m_place) (C := RX5) (T := TX5) (N := 26) hx hb hg iX5 hown w.2.2.2.2.2.2.1 w.1 0 rfl rfl 3 (by decide) (hg _ w_492) (fun _ h9 => h9) rfl dX5_readHouse_64 ?_
    refine lv_aload_n hx hb dX5_readHouse_67 rfl (lv_at hl 0 rfl) ?_
    refine va_get (D := D) (ci := 5) (v := .int m_textSize) (C := RX5) (T := TX5) (N := 26) hx hb hg iX5 hown w.2.2.2.2.2.2.1 w.1 0 rfl rfl 2 (by decide) (hg _ w_491) (fun _ h9 => h9) rfl dX5_readHouse_68 ?_
    refine lv_icmp_ge (tgt := 86) hx hb dX5_readHouse_71 (by decide) (fun c1 => ?_) (fun c1 => ?_)
    · replace hf := ite_t c1 hf
      refine lv_bipush (v := (-9)) hx hb dX5_readHouse_86 (by decide) ?_
      exact k_iret (u := (m_place, m_readCards, m_readPage)) hx hb hr hlk w rfl hf dX5_readHouse_88
    · replace hf := ite_f c1 hf
      refine lv_aload_n hx hb dX5_readHouse_74 rfl (lv_at hl 0 rfl) ?_
      replace hf := ob_at hf
      obtain ⟨r2, er2, hf⟩ := hf
      refine k_goI (v0 := (m_place, m_readPage)) (res := r2) w [0, 1, 2, 3, 4, 5, 6, 7, 8, 9, 10, 11, 12, 13, 14, 15, 16] rfl (fun _ => rfl) (va_runV (As := []) (rest := []) ⟨hx, hb, hml, hown, hg⟩ (tX5_readPiece l D cI cZ b0 tt m_a q_text q_cards q_readCards q_readPage q_page q_trial q_loads q_book q_kept q_isKept q_heldWho q_heldForce q_heldLoad q_heldIs q_gains q_value m_thrown m_textSize m_place m_acts m_held m_seed m_tentMany m_tentFirst m_restMany m_restFirst m_text m_cards m_readCards m_readPage m_page m_trial m_loads m_book m_kept m_isKept m_heldWho m_heldForce m_heldLoad m_heldIs m_gains m_value er2 H.size) (cwV 0 hg (gwV w_594 w_595 w_845 w_7 w_596) rfl rfl rfl ⟨rfl, qdX5_readPiece⟩ ⟨Nat.le_of_ble_eq_true rfl, Nat.le_of_ble_eq_true rfl⟩) (k_preV w [0, 1, 2, 3, 4, 5, 6, 7, 8, 9, 10, 11, 12, 13, 14, 15, 16] (by decide) rfl (q0 := 0) rfl rfl) rfl rfl hl.1 rfl (lv_room (Nat.le_of_ble_eq_true rfl)) dX5_readHouse_75 ⟨Nat.le_refl _, Nat.le_refl _⟩) (fun H locs w => ?_)
      have w : Wd D cI cZ b0 tt A s [(m_a, .inr (5, [.int m_thrown, .ref q_text, .int m_textSize, .int r2.2.1, .ref q_cards, .ref q_readCards, .ref q_readPage, .ref q_page, .ref q_trial, .ref q_loads, .ref q_book, .int m_acts, .ref q_kept, .ref q_isKept, .int m_held, .ref q_heldWho, .ref q_heldForce, .ref q_heldLoad, .ref q_heldIs, .long m_seed, .int m_tentMany, .int m_tentFirst, .int m_restMany, .int m_restFirst, .ref q_gains, .ref q_value])), (q_text, .inl (cI, 56, .inl m_text)), (q_cards, .inl (cI, 4, .inl m_cards)), (q_readCards, .inl (cI, 4, .inl m_readCards)), (q_readPage, .inl (cI, 17, .inl r2.2.2)), (q_page, .inl (cI, 17, .inl m_page)), (q_trial, .inl (cI, 17, .inl m_trial)), (q_loads, .inl (cI, 16, .inl m_loads)), (q_book, .inl (cI, 238, .inl m_book)), (q_kept, .inl (cI, 34, .inl m_kept)), (q_isKept, .inl (cZ, 2, .inl m_isKept)), (q_heldWho, .inl (cI, 6, .inl m_heldWho)), (q_heldForce, .inl (cI, 6, .inl m_heldForce)), (q_heldLoad, .inl (cI, 6, .inl m_heldLoad)), (q_heldIs, .inl (cI, 6, .inl m_heldIs)), (q_gains, .inl (cI, 50, .inl m_gains)), (q_value, .inl (cI, 16, .inl m_value))] H locs := w
      refine lv_if_ne (tgt := 63) hx hb dX5_readHouse_78 (by decide) (fun c3 => ?_) (fun c3 => ?_)
      · replace hf := ite_f c3 hf
        exact ih r2.2.1 r2.2.2 H locs ls hf w (lv_sub hl [0, 1] rfl)
      · replace hf := ite_t c3 hf
        refine lv_aload_n hx hb dX5_readHouse_81 rfl (lv_at hl 0 rfl) ?_
        refine va_get (D := D) (ci := 5) (v := .int r2.2.1) (C := RX5) (T := TX5) (N := 26) hx hb hg iX5 hown w.2.2.2.2.2.2.1 w.1 0 rfl rfl 3 (by decide) (hg _ w_492) (fun _ h9 => h9) rfl dX5_readHouse_82 ?_
        exact k_iret (u := (r2.2.1, m_readCards, r2.2.2)) hx hb hr hlk w rfl hf dX5_readHouse_85
def fX5_readHouse_L7   (m_textSize : Int32) (m_place : Int32) (m_text : Nat → Int32) (m_readCards : Nat → Int32) : Nat → Int32 → (Nat → Int32) → Option (Int32 × Int32 × (Nat → Int32) × (Nat → Int32))
  | 0, _, _ => none
  | n + 1, v1, m_readPage => (if 17 ≤ v1 then (if m_textSize = 0 then some (0, (m_place, m_readCards, m_readPage)) else (if (m_text (Int32.toNatClampNeg 0)) = 67 then ob (fX5_readHead m_textSize 1 m_text m_readCards) (fun r7 => (if r7.1 = 0 then some (r7.2.1, (r7.2.1, r7.2.2, m_readPage)) else fX5_readHouse_L63 v1 m_textSize m_text r7.2.2 FU r7.2.1 m_readPage)) else some (0, (m_place, m_readCards, m_readPage)))) else gd v1 17 (nm (v1 + 1) (fun z10 => fX5_readHouse_L7 m_textSize m_place m_text m_readCards n z10 (upd m_readPage (Int32.toNatClampNeg v1) 0))))
set_option maxRecDepth 100000 in
set_option maxHeartbeats 4000000 in
theorem tX5_readHouse_L7 {p : Program} {l : Launch} {e : Env} {s : State} {m : MethodId} {args : Array Value} {below : List Frame} {meth : Method} {c : Code} {D : va_G} {cI cZ : ClassId} {b0 : Nat} {tt : Nat → Nat} {A : Nat → Prop}  {m_a q_text q_cards q_readCards q_readPage q_page q_trial q_loads q_book q_kept q_isKept q_heldWho q_heldForce q_heldLoad q_heldIs q_gains q_value : Nat}  {m_textSize : Int32} {m_place : Int32} {m_text : Nat → Int32} {m_readCards : Nat → Int32} {m_thrown : Int32} {m_acts : Int32} {m_held : Int32} {m_seed : Int64} {m_tentMany : Int32} {m_tentFirst : Int32} {m_restMany : Int32} {m_restFirst : Int32} {m_cards : Nat → Int32} {m_page : Nat → Int32} {m_trial : Nat → Int32} {m_loads : Nat → Int32} {m_book : Nat → Int32} {m_kept : Nat → Int32} {m_isKept : Nat → Int32} {m_heldWho : Nat → Int32} {m_heldForce : Nat → Int32} {m_heldLoad : Nat → Int32} {m_heldIs : Nat → Int32} {m_gains : Nat → Int32} {m_value : Nat → Int32} {res : Int32 × Int32 × (Nat → Int32) × (Nat → Int32)} (C : Cx p s m args meth c cX5_readHouse 2 (some .int) (cwX5_readHouse :: GW) RX5) : ∀ (n : Nat) (v1 : Int32) (m_readPage : Nat → Int32) (H : Heap) (locs : List Loc) (ls : Array Slot), fX5_readHouse_L7 m_textSize m_place m_text m_readCards n v1 m_readPage = some res → Wd D cI cZ b0 tt A s [(m_a, .inr (5, [.int m_thrown, .ref q_text, .int m_textSize, .int m_place, .ref q_cards, .ref q_readCards, .ref q_readPage, .ref q_page, .ref q_trial, .ref q_loads, .ref q_book, .int m_acts, .ref q_kept, .ref q_isKept, .int m_held, .ref q_heldWho, .ref q_heldForce, .ref q_heldLoad, .ref q_heldIs, .long m_seed, .int m_tentMany, .int m_tentFirst, .int m_restMany, .int m_restFirst, .ref q_gains, .ref q_value])), (q_text, .inl (cI, 56, .inl m_text)), (q_cards, .inl (cI, 4, .inl m_cards)), (q_readCards, .inl (cI, 4, .inl m_readCards)), (q_readPage, .inl (cI, 17, .inl m_readPage)), (q_page, .inl (cI, 17, .inl m_page)), (q_trial, .inl (cI, 17, .inl m_trial)), (q_loads, .inl (cI, 16, .inl m_loads)), (q_book, .inl (cI, 238, .inl m_book)), (q_kept, .inl (cI, 34, .inl m_kept)), (q_isKept, .inl (cZ, 2, .inl m_isKept)), (q_heldWho, .inl (cI, 6, .inl m_heldWho)), (q_heldForce, .inl (cI, 6, .inl m_heldForce)), (q_heldLoad, .inl (cI, 6, .inl m_heldLoad)), (q_heldIs, .inl (cI, 6, .inl m_heldIs)), (q_gains, .inl (cI, 50, .inl m_gains)), (q_value, .inl (cI, 16, .inl m_value))] H locs → lv_has ls 2 [(0, .ref m_a), (1, .int v1)] → W p l e (rmo 7 150) s m args below meth c H locs 0 0 (MQ below (QI D (fun u : Int32 × (Nat → Int32) × (Nat → Int32) => [(m_a, .inr (5, [.int m_thrown, .ref q_text, .int m_textSize, .int u.1, .ref q_cards, .ref q_readCards, .ref q_readPage, .ref q_page, .ref q_trial, .ref q_loads, .ref q_book, .int m_acts, .ref q_kept, .ref q_isKept, .int m_held, .ref q_heldWho, .ref q_heldForce, .ref q_heldLoad, .ref q_heldIs, .long m_seed, .int m_tentMany, .int m_tentFirst, .int m_restMany, .int m_restFirst, .ref q_gains, .ref q_value])), (q_text, .inl (cI, 56, .inl m_text)), (q_cards, .inl (cI, 4, .inl m_cards)), (q_readCards, .inl (cI, 4, .inl u.2.1)), (q_readPage, .inl (cI, 17, .inl u.2.2)), (q_page, .inl (cI, 17, .inl m_page)), (q_trial, .inl (cI, 17, .inl m_trial)), (q_loads, .inl (cI, 16, .inl m_loads)), (q_book, .inl (cI, 238, .inl m_book)), (q_kept, .inl (cI, 34, .inl m_kept)), (q_isKept, .inl (cZ, 2, .inl m_isKept)), (q_heldWho, .inl (cI, 6, .inl m_heldWho)), (q_heldForce, .inl (cI, 6, .inl m_heldForce)), (q_heldLoad, .inl (cI, 6, .inl m_heldLoad)), (q_heldIs, .inl (cI, 6, .inl m_heldIs)), (q_gains, .inl (cI, 50, .inl m_gains)), (q_value, .inl (cI, 16, .inl m_value))]) A res) args s 0 0 A) (F0 m 7 ls []) := by
  obtain ⟨hx, hb, hr, hml, hown, hts, hlk⟩ := id C
  have hg : ∀ w ∈ GW, w.before args s = true := fun w h => hts w (List.mem_cons_of_mem _ h)
  intro n
  induction n with
  | zero =>
    intro _ _ H locs ls hf
    rw [fX5_readHouse_L7] at hf
    cases hf
  | succ n ih =>
    intro v1 m_readPage H locs ls hf w hl
    rw [fX5_readHouse_L7] at hf
    refine lv_iload_n hx hb dX5_readHouse_7 rfl (lv_at hl 1 rfl) ?_
    refine lv_bipush (v := 17) hx hb dX5_readHouse_8 (by decide) ?_
    refine lv_icmp_ge (tgt := 26) hx hb dX5_readHouse_10 (by decide) (fun c4 => ?_) (fun c4 => ?_)
    · replace hf := ite_t c4 hf
      refine lv_aload_n hx hb dX5_readHouse_26 rfl (lv_at hl 0 rfl) ?_
      refine va_get (D := D) (ci := 5) (v := .int m_textSize) (C := RX5) (T := TX5) (N := 26) hx hb hg iX5 hown w.2.2.2.2.2.2.1 w.1 0 rfl rfl 2 (by decide) (hg _ w_491) (fun _ h9 => h9) rfl dX5_readHouse_27 ?_
      refine lv_if_eq (tgt := 44) hx hb dX5_readHouse_30 (by decide) (fun c5 => ?_) (fun c5 => ?_)
      · replace hf := ite_t c5 hf
        refine lv_iconst (v := 0) hx hb dX5_readHouse_44 (by decide) ?_
        exact k_iret (u := (m_place, m_readCards, m_readPage)) hx hb hr hlk w rfl hf dX5_readHouse_45
      · replace hf := ite_f c5 hf
        refine lv_aload_n hx hb dX5_readHouse_33 rfl (lv_at hl 0 rfl) ?_
        refine va_get (D := D) (ci := 5) (v := .ref q_text) (C := RX5) (T := TX5) (N := 26) hx hb hg iX5 hown w.2.2.2.2.2.2.1 w.1 0 rfl rfl 1 (by decide) (hg _ w_490) (fun _ h9 => h9) rfl dX5_readHouse_34 ?_
        refine lv_iconst (v := 0) hx hb dX5_readHouse_37 (by decide) ?_
        refine va_iald hx hb w.2.2.2.2.2.2.1 w.1 1 0 rfl rfl (by unfold vp_in; decide) dX5_readHouse_38 ?_
        refine lv_bipush (v := 67) hx hb dX5_readHouse_39 (by decide) ?_
        refine lv_icmp_eq (tgt := 46) hx hb dX5_readHouse_41 (by decide) (fun c6 => ?_) (fun c6 => ?_)
        · replace hf := ite_t c6 hf
          refine lv_aload_n hx hb dX5_readHouse_46 rfl (lv_at hl 0 rfl) ?_
          refine lv_iconst (v := 1) hx hb dX5_readHouse_47 (by decide) ?_
          refine k_put (ci := 5) (v := .int 1) (ty := .int) (C := RX5) (T := TX5) (N := 26) hx hb hg iX5 tyX5 tyX5_ok nmX5 hown w 0 rfl rfl 3 (by decide) (hg _ w_492) (fun _ h9 => h9) rfl pd_I rfl rfl (Nat.le_of_ble_eq_true rfl) dX5_readHouse_48 (fun H locs w => ?_)
          have w : Wd D cI cZ b0 tt A s [(m_a, .inr (5, [.int m_thrown, .ref q_text, .int m_textSize, .int 1, .ref q_cards, .ref q_readCards, .ref q_readPage, .ref q_page, .ref q_trial, .ref q_loads, .ref q_book, .int m_acts, .ref q_kept, .ref q_isKept, .int m_held, .ref q_heldWho, .ref q_heldForce, .ref q_heldLoad, .ref q_heldIs, .long m_seed, .int m_tentMany, .int m_tentFirst, .int m_restMany, .int m_restFirst, .ref q_gains, .ref q_value])), (q_text, .inl (cI, 56, .inl m_text)), (q_cards, .inl (cI, 4, .inl m_cards)), (q_readCards, .inl (cI, 4, .inl m_readCards)), (q_readPage, .inl (cI, 17, .inl m_readPage)), (q_page, .inl (cI, 17, .inl m_page)), (q_trial, .inl (cI, 17, .inl m_trial)), (q_loads, .inl (cI, 16, .inl m_loads)), (q_book, .inl (cI, 238, .inl m_book)), (q_kept, .inl (cI, 34, .inl m_kept)), (q_isKept, .inl (cZ, 2, .inl m_isKept)), (q_heldWho, .inl (cI, 6, .inl m_heldWho)), (q_heldForce, .inl (cI, 6, .inl m_heldForce)), (q_heldLoad, .inl (cI, 6, .inl m_heldLoad)), (q_heldIs, .inl (cI, 6, .inl m_heldIs)), (q_gains, .inl (cI, 50, .inl m_gains)), (q_value, .inl (cI, 16, .inl m_value))] H locs := w
          refine lv_aload_n hx hb dX5_readHouse_51 rfl (lv_at hl 0 rfl) ?_
          replace hf := ob_at hf
          obtain ⟨r7, er7, hf⟩ := hf
          refine k_goI (v0 := (1, m_readCards)) (res := r7) w [0, 1, 2, 3, 4, 5, 6, 7, 8, 9, 10, 11, 12, 13, 14, 15, 16] rfl (fun _ => rfl) (va_runV (As := []) (rest := []) ⟨hx, hb, hml, hown, hg⟩ (tX5_readHead l D cI cZ b0 tt m_a q_text q_cards q_readCards q_readPage q_page q_trial q_loads q_book q_kept q_isKept q_heldWho q_heldForce q_heldLoad q_heldIs q_gains q_value m_thrown m_textSize 1 m_acts m_held m_seed m_tentMany m_tentFirst m_restMany m_restFirst m_text m_cards m_readCards m_readPage m_page m_trial m_loads m_book m_kept m_isKept m_heldWho m_heldForce m_heldLoad m_heldIs m_gains m_value er7 H.size) (cwV 0 hg (gwV w_588 w_589 w_843 w_7 w_590) rfl rfl rfl ⟨rfl, qdX5_readHead⟩ ⟨Nat.le_of_ble_eq_true rfl, Nat.le_of_ble_eq_true rfl⟩) (k_preV w [0, 1, 2, 3, 4, 5, 6, 7, 8, 9, 10, 11, 12, 13, 14, 15, 16] (by decide) rfl (q0 := 0) rfl rfl) rfl rfl hl.1 rfl (lv_room (Nat.le_of_ble_eq_true rfl)) dX5_readHouse_52 ⟨Nat.le_refl _, Nat.le_refl _⟩) (fun H locs w => ?_)
          have w : Wd D cI cZ b0 tt A s [(m_a, .inr (5, [.int m_thrown, .ref q_text, .int m_textSize, .int r7.2.1, .ref q_cards, .ref q_readCards, .ref q_readPage, .ref q_page, .ref q_trial, .ref q_loads, .ref q_book, .int m_acts, .ref q_kept, .ref q_isKept, .int m_held, .ref q_heldWho, .ref q_heldForce, .ref q_heldLoad, .ref q_heldIs, .long m_seed, .int m_tentMany, .int m_tentFirst, .int m_restMany, .int m_restFirst, .ref q_gains, .ref q_value])), (q_text, .inl (cI, 56, .inl m_text)), (q_cards, .inl (cI, 4, .inl m_cards)), (q_readCards, .inl (cI, 4, .inl r7.2.2)), (q_readPage, .inl (cI, 17, .inl m_readPage)), (q_page, .inl (cI, 17, .inl m_page)), (q_trial, .inl (cI, 17, .inl m_trial)), (q_loads, .inl (cI, 16, .inl m_loads)), (q_book, .inl (cI, 238, .inl m_book)), (q_kept, .inl (cI, 34, .inl m_kept)), (q_isKept, .inl (cZ, 2, .inl m_isKept)), (q_heldWho, .inl (cI, 6, .inl m_heldWho)), (q_heldForce, .inl (cI, 6, .inl m_heldForce)), (q_heldLoad, .inl (cI, 6, .inl m_heldLoad)), (q_heldIs, .inl (cI, 6, .inl m_heldIs)), (q_gains, .inl (cI, 50, .inl m_gains)), (q_value, .inl (cI, 16, .inl m_value))] H locs := w
          refine lv_if_ne (tgt := 63) hx hb dX5_readHouse_55 (by decide) (fun c8 => ?_) (fun c8 => ?_)
          · replace hf := ite_f c8 hf
            exact tX5_readHouse_L63 (v1 := v1) (m_textSize := m_textSize) (m_text := m_text) (m_readCards := r7.2.2) (m_thrown := m_thrown) (m_acts := m_acts) (m_held := m_held) (m_seed := m_seed) (m_tentMany := m_tentMany) (m_tentFirst := m_tentFirst) (m_restMany := m_restMany) (m_restFirst := m_restFirst) (m_cards := m_cards) (m_page := m_page) (m_trial := m_trial) (m_loads := m_loads) (m_book := m_book) (m_kept := m_kept) (m_isKept := m_isKept) (m_heldWho := m_heldWho) (m_heldForce := m_heldForce) (m_heldLoad := m_heldLoad) (m_heldIs := m_heldIs) (m_gains := m_gains) (m_value := m_value) (C := C) FU r7.2.1 m_readPage H locs ls hf w (lv_sub hl [0, 1] rfl)
          · replace hf := ite_t c8 hf
            refine lv_aload_n hx hb dX5_readHouse_58 rfl (lv_at hl 0 rfl) ?_
            refine va_get (D := D) (ci := 5) (v := .int r7.2.1) (C := RX5) (T := TX5) (N := 26) hx hb hg iX5 hown w.2.2.2.2.2.2.1 w.1 0 rfl rfl 3 (by decide) (hg _ w_492) (fun _ h9 => h9) rfl dX5_readHouse_59 ?_
            exact k_iret (u := (r7.2.1, r7.2.2, m_readPage)) hx hb hr hlk w rfl hf dX5_readHouse_62
        · replace hf := ite_f c6 hf
          refine lv_iconst (v := 0) hx hb dX5_readHouse_44 (by decide) ?_
          exact k_iret (u := (m_place, m_readCards, m_readPage)) hx hb hr hlk w rfl hf dX5_readHouse_45
    · replace hf := ite_f c4 hf
      refine lv_aload_n hx hb dX5_readHouse_13 rfl (lv_at hl 0 rfl) ?_
      refine va_get (D := D) (ci := 5) (v := .ref q_readPage) (C := RX5) (T := TX5) (N := 26) hx hb hg iX5 hown w.2.2.2.2.2.2.1 w.1 0 rfl rfl 6 (by decide) (hg _ w_495) (fun _ h9 => h9) rfl dX5_readHouse_14 ?_
      refine lv_iload_n hx hb dX5_readHouse_17 rfl (lv_at hl 1 rfl) ?_
      refine lv_iconst (v := 0) hx hb dX5_readHouse_18 (by decide) ?_
      replace hf := gd_at hf
      obtain ⟨hi9, hf⟩ := hf
      refine k_iast hx hb w 4 rfl hi9 dX5_readHouse_19 (fun H locs w => ?_)
      have w : Wd D cI cZ b0 tt A s [(m_a, .inr (5, [.int m_thrown, .ref q_text, .int m_textSize, .int m_place, .ref q_cards, .ref q_readCards, .ref q_readPage, .ref q_page, .ref q_trial, .ref q_loads, .ref q_book, .int m_acts, .ref q_kept, .ref q_isKept, .int m_held, .ref q_heldWho, .ref q_heldForce, .ref q_heldLoad, .ref q_heldIs, .long m_seed, .int m_tentMany, .int m_tentFirst, .int m_restMany, .int m_restFirst, .ref q_gains, .ref q_value])), (q_text, .inl (cI, 56, .inl m_text)), (q_cards, .inl (cI, 4, .inl m_cards)), (q_readCards, .inl (cI, 4, .inl m_readCards)), (q_readPage, .inl (cI, 17, .inl (upd m_readPage (Int32.toNatClampNeg v1) 0))), (q_page, .inl (cI, 17, .inl m_page)), (q_trial, .inl (cI, 17, .inl m_trial)), (q_loads, .inl (cI, 16, .inl m_loads)), (q_book, .inl (cI, 238, .inl m_book)), (q_kept, .inl (cI, 34, .inl m_kept)), (q_isKept, .inl (cZ, 2, .inl m_isKept)), (q_heldWho, .inl (cI, 6, .inl m_heldWho)), (q_heldForce, .inl (cI, 6, .inl m_heldForce)), (q_heldLoad, .inl (cI, 6, .inl m_heldLoad)), (q_heldIs, .inl (cI, 6, .inl m_heldIs)), (q_gains, .inl (cI, 50, .inl m_gains)), (q_value, .inl (cI, 16, .inl m_value))] H locs := w
      obtain ⟨z10, ez10⟩ : ∃ y : Int32, y = (v1 + 1) := ⟨_, rfl⟩
      replace hf := nm_at ez10 hf
      refine lv_iinc (v := z10) (lv' := [(1, .int z10), (0, .ref m_a)]) hx hb dX5_readHouse_20 hl (k := 1) rfl (by rw [ez10]; rfl) (by decide) rfl (fun ls hl => ?_)
      refine lv_goto (tgt := 7) hx hb dX5_readHouse_23 (by decide) ?_
      exact ih z10 (upd m_readPage (Int32.toNatClampNeg v1) 0) H locs ls hf w (lv_sub hl [1, 0] rfl)
def fX5_readHouse  (m_textSize : Int32) (m_place : Int32) (m_text : Nat → Int32) (m_readCards : Nat → Int32) (m_readPage : Nat → Int32) : Option (Int32 × Int32 × (Nat → Int32) × (Nat → Int32)) := fX5_readHouse_L7 m_textSize 0 m_text m_readCards FU 0 m_readPage
set_option maxRecDepth 100000 in
set_option maxHeartbeats 4000000 in
theorem tX5_readHouse (l : Launch) (D : va_G) (cI cZ : ClassId) (b0 : Nat) (tt : Nat → Nat)  (m_a q_text q_cards q_readCards q_readPage q_page q_trial q_loads q_book q_kept q_isKept q_heldWho q_heldForce q_heldLoad q_heldIs q_gains q_value : Nat) (m_thrown : Int32) (m_textSize : Int32) (m_place : Int32) (m_acts : Int32) (m_held : Int32) (m_seed : Int64) (m_tentMany : Int32) (m_tentFirst : Int32) (m_restMany : Int32) (m_restFirst : Int32) (m_text : Nat → Int32) (m_cards : Nat → Int32) (m_readCards : Nat → Int32) (m_readPage : Nat → Int32) (m_page : Nat → Int32) (m_trial : Nat → Int32) (m_loads : Nat → Int32) (m_book : Nat → Int32) (m_kept : Nat → Int32) (m_isKept : Nat → Int32) (m_heldWho : Nat → Int32) (m_heldForce : Nat → Int32) (m_heldLoad : Nat → Int32) (m_heldIs : Nat → Int32) (m_gains : Nat → Int32) (m_value : Nat → Int32)  {res : Int32 × Int32 × (Nat → Int32) × (Nat → Int32)} (hf : fX5_readHouse m_textSize m_place m_text m_readCards m_readPage = some res) : CtI l yX5_readHouse (cwX5_readHouse :: GW) 7 150 D cI cZ b0 tt [.ref m_a] (fun u : Int32 × (Nat → Int32) × (Nat → Int32) => [(m_a, .inr (5, [.int m_thrown, .ref q_text, .int m_textSize, .int u.1, .ref q_cards, .ref q_readCards, .ref q_readPage, .ref q_page, .ref q_trial, .ref q_loads, .ref q_book, .int m_acts, .ref q_kept, .ref q_isKept, .int m_held, .ref q_heldWho, .ref q_heldForce, .ref q_heldLoad, .ref q_heldIs, .long m_seed, .int m_tentMany, .int m_tentFirst, .int m_restMany, .int m_restFirst, .ref q_gains, .ref q_value])), (q_text, .inl (cI, 56, .inl m_text)), (q_cards, .inl (cI, 4, .inl m_cards)), (q_readCards, .inl (cI, 4, .inl u.2.1)), (q_readPage, .inl (cI, 17, .inl u.2.2)), (q_page, .inl (cI, 17, .inl m_page)), (q_trial, .inl (cI, 17, .inl m_trial)), (q_loads, .inl (cI, 16, .inl m_loads)), (q_book, .inl (cI, 238, .inl m_book)), (q_kept, .inl (cI, 34, .inl m_kept)), (q_isKept, .inl (cZ, 2, .inl m_isKept)), (q_heldWho, .inl (cI, 6, .inl m_heldWho)), (q_heldForce, .inl (cI, 6, .inl m_heldForce)), (q_heldLoad, .inl (cI, 6, .inl m_heldLoad)), (q_heldIs, .inl (cI, 6, .inl m_heldIs)), (q_gains, .inl (cI, 50, .inl m_gains)), (q_value, .inl (cI, 16, .inl m_value))]) (m_place, m_readCards, m_readPage) res := by
  intro sz
  refine k_begin (cc := cX5_readHouse) (maxL := 2) (ret := (some .int)) (by decide) rfl (Nat.le_of_ble_eq_true rfl) ?_
  intro p e s m below meth c ls C w hl
  generalize va_A _ sz = A at w ⊢
  have w : Wd D cI cZ b0 tt A s [(m_a, .inr (5, [.int m_thrown, .ref q_text, .int m_textSize, .int m_place, .ref q_cards, .ref q_readCards, .ref q_readPage, .ref q_page, .ref q_trial, .ref q_loads, .ref q_book, .int m_acts, .ref q_kept, .ref q_isKept, .int m_held, .ref q_heldWho, .ref q_heldForce, .ref q_heldLoad, .ref q_heldIs, .long m_seed, .int m_tentMany, .int m_tentFirst, .int m_restMany, .int m_restFirst, .ref q_gains, .ref q_value])), (q_text, .inl (cI, 56, .inl m_text)), (q_cards, .inl (cI, 4, .inl m_cards)), (q_readCards, .inl (cI, 4, .inl m_readCards)), (q_readPage, .inl (cI, 17, .inl m_readPage)), (q_page, .inl (cI, 17, .inl m_page)), (q_trial, .inl (cI, 17, .inl m_trial)), (q_loads, .inl (cI, 16, .inl m_loads)), (q_book, .inl (cI, 238, .inl m_book)), (q_kept, .inl (cI, 34, .inl m_kept)), (q_isKept, .inl (cZ, 2, .inl m_isKept)), (q_heldWho, .inl (cI, 6, .inl m_heldWho)), (q_heldForce, .inl (cI, 6, .inl m_heldForce)), (q_heldLoad, .inl (cI, 6, .inl m_heldLoad)), (q_heldIs, .inl (cI, 6, .inl m_heldIs)), (q_gains, .inl (cI, 50, .inl m_gains)), (q_value, .inl (cI, 16, .inl m_value))] s.heap [] := w
  have hl : lv_has ls 2 [(0, .ref m_a)] := hl
  obtain ⟨H, eH⟩ : ∃ H, H = s.heap := ⟨_, rfl⟩
  rw [← eH] at w ⊢
  generalize ([] : List Loc) = locs at w ⊢
  generalize List.toArray _ = args at C ⊢
  obtain ⟨hx, hb, hr, hml, hown, hts, hlk⟩ := id C
  have hg : ∀ w ∈ GW, w.before args s = true := fun w h => hts w (List.mem_cons_of_mem _ h)
  unfold fX5_readHouse at hf
  refine lv_aload_n hx hb dX5_readHouse_0 rfl (lv_at hl 0 rfl) ?_
  refine lv_iconst (v := 0) hx hb dX5_readHouse_1 (by decide) ?_
  refine k_put (ci := 5) (v := .int 0) (ty := .int) (C := RX5) (T := TX5) (N := 26) hx hb hg iX5 tyX5 tyX5_ok nmX5 hown w 0 rfl rfl 3 (by decide) (hg _ w_492) (fun _ h9 => h9) rfl pd_I rfl rfl (Nat.le_of_ble_eq_true rfl) dX5_readHouse_2 (fun H locs w => ?_)
  have w : Wd D cI cZ b0 tt A s [(m_a, .inr (5, [.int m_thrown, .ref q_text, .int m_textSize, .int 0, .ref q_cards, .ref q_readCards, .ref q_readPage, .ref q_page, .ref q_trial, .ref q_loads, .ref q_book, .int m_acts, .ref q_kept, .ref q_isKept, .int m_held, .ref q_heldWho, .ref q_heldForce, .ref q_heldLoad, .ref q_heldIs, .long m_seed, .int m_tentMany, .int m_tentFirst, .int m_restMany, .int m_restFirst, .ref q_gains, .ref q_value])), (q_text, .inl (cI, 56, .inl m_text)), (q_cards, .inl (cI, 4, .inl m_cards)), (q_readCards, .inl (cI, 4, .inl m_readCards)), (q_readPage, .inl (cI, 17, .inl m_readPage)), (q_page, .inl (cI, 17, .inl m_page)), (q_trial, .inl (cI, 17, .inl m_trial)), (q_loads, .inl (cI, 16, .inl m_loads)), (q_book, .inl (cI, 238, .inl m_book)), (q_kept, .inl (cI, 34, .inl m_kept)), (q_isKept, .inl (cZ, 2, .inl m_isKept)), (q_heldWho, .inl (cI, 6, .inl m_heldWho)), (q_heldForce, .inl (cI, 6, .inl m_heldForce)), (q_heldLoad, .inl (cI, 6, .inl m_heldLoad)), (q_heldIs, .inl (cI, 6, .inl m_heldIs)), (q_gains, .inl (cI, 50, .inl m_gains)), (q_value, .inl (cI, 16, .inl m_value))] H locs := w
  refine lv_iconst (v := 0) hx hb dX5_readHouse_5 (by decide) ?_
  refine lv_istore_n (lv' := [(1, .int 0), (0, .ref m_a)]) hx hb dX5_readHouse_6 rfl hl (by decide) rfl (fun ls hl => ?_)
  exact tX5_readHouse_L7 (m_textSize := m_textSize) (m_place := 0) (m_text := m_text) (m_readCards := m_readCards) (m_thrown := m_thrown) (m_acts := m_acts) (m_held := m_held) (m_seed := m_seed) (m_tentMany := m_tentMany) (m_tentFirst := m_tentFirst) (m_restMany := m_restMany) (m_restFirst := m_restFirst) (m_cards := m_cards) (m_page := m_page) (m_trial := m_trial) (m_loads := m_loads) (m_book := m_book) (m_kept := m_kept) (m_isKept := m_isKept) (m_heldWho := m_heldWho) (m_heldForce := m_heldForce) (m_heldLoad := m_heldLoad) (m_heldIs := m_heldIs) (m_gains := m_gains) (m_value := m_value) (C := C) FU 0 m_readPage H locs ls hf w (lv_sub hl [1, 0] rfl)
