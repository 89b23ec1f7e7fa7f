-- X5_take
def fX5_take  (m_thrown : Int32) (m_acts : Int32) (m_page : Nat → Int32) (m_book : Nat → Int32) (a1 : Int32) : Option (Int32 × Int32 × Int32 × (Nat → Int32) × (Nat → Int32)) := ob (fX5_noPiece a1) (fun r1 => (if r1 = 0 then gd a1 17 ((if (m_page (Int32.toNatClampNeg a1)) = 0 then some ((-3), (0, m_acts, m_page, m_book)) else ob (fX5_isTop m_page a1) (fun r5 => (if r5 = 0 then some ((-3), (0, m_acts, m_page, m_book)) else ob (fX5_note m_acts m_page m_book) (fun r7 => gd a1 17 (ob (fX5_need a1) (fun r9 => some (r9, (0, r7.1, (upd m_page (Int32.toNatClampNeg a1) 0), r7.2))))))))) else some ((-1), (0, m_acts, m_page, m_book))))
set_option maxRecDepth 100000 in
set_option maxHeartbeats 4000000 in
theorem tX5_take (l : Launch) (D : va_G) (cI cZ : ClassId) (b0 : Nat) (tt : Nat → Nat)  (m_a q_text q_cards q_readCards q_readPage q_page q_trial q_loads q_book q_kept q_isKept q_heldWho q_heldForce q_heldLoad q_heldIs q_gains q_value : Nat) (m_thrown : Int32) (m_textSize : Int32) (m_place : Int32) (m_acts : Int32) (m_held : Int32) (m_seed : Int64) (m_tentMany : Int32) (m_tentFirst : Int32) (m_restMany : Int32) (m_restFirst : Int32) (m_text : Nat → Int32) (m_cards : Nat → Int32) (m_readCards : Nat → Int32) (m_readPage : Nat → Int32) (m_page : Nat → Int32) (m_trial : Nat → Int32) (m_loads : Nat → Int32) (m_book : Nat → Int32) (m_kept : Nat → Int32) (m_isKept : Nat → Int32) (m_heldWho : Nat → Int32) (m_heldForce : Nat → Int32) (m_heldLoad : Nat → Int32) (m_heldIs : Nat → Int32) (m_gains : Nat → Int32) (m_value : Nat → Int32) (a1 : Int32) {res : Int32 × Int32 × Int32 × (Nat → Int32) × (Nat → Int32)} (hf : fX5_take m_thrown m_acts m_page m_book a1 = some res) : CtI l yX5_take (cwX5_take :: GW) 3 64 D cI cZ b0 tt [.ref m_a, .int a1] (fun u : Int32 × Int32 × (Nat → Int32) × (Nat → Int32) => [(m_a, .inr (5, [.int u.1, .ref q_text, .int m_textSize, .int m_place, .ref q_cards, .ref q_readCards, .ref q_readPage, .ref q_page, .ref q_trial, .ref q_loads, .ref q_book, .int u.2.1, .ref q_kept, .ref q_isKept, .int m_held, .ref q_heldWho, .ref q_heldForce, .ref q_heldLoad, .ref q_heldIs, .long m_seed, .int m_tentMany, .int m_tentFirst, .int m_restMany, .int m_restFirst, .ref q_gains, .ref q_value])), (q_text, .inl (cI, 56, .inl m_text)), (q_cards, .inl (cI, 4, .inl m_cards)), (q_readCards, .inl (cI, 4, .inl m_readCards)), (q_readPage, .inl (cI, 17, .inl m_readPage)), (q_page, .inl (cI, 17, .inl u.2.2.1)), (q_trial, .inl (cI, 17, .inl m_trial)), (q_loads, .inl (cI, 16, .inl m_loads)), (q_book, .inl (cI, 238, .inl u.2.2.2)), (q_kept, .inl (cI, 34, .inl m_kept)), (q_isKept, .inl (cZ, 2, .inl m_isKept)), (q_heldWho, .inl (cI, 6, .inl m_heldWho)), (q_heldForce, .inl (cI, 6, .inl m_heldForce)), (q_heldLoad, .inl (cI, 6, .inl m_heldLoad)), (q_heldIs, .inl (cI, 6, .inl m_heldIs)), (q_gains, .inl (cI, 50, .inl m_gains)), (q_value, .inl (cI, 16, .inl m_value))]) (m_thrown, m_acts, m_page, m_book) res := by
  intro sz
  refine k_begin (cc := cX5_take) (maxL := 2) (ret := (some .int)) (by decide) rfl (Nat.le_of_ble_eq_true rfl) ?_
  intro p e s m below meth c ls C w hl
  generalize va_A _ sz = A at w ⊢
  have w : Wd D cI cZ b0 tt A s [(m_a, .inr (5, [.int m_thrown, .ref q_text, .int m_textSize, .int m_place, .ref q_cards, .ref q_readCards, .ref q_readPage, .ref q_page, .ref q_trial, .ref q_loads, .ref q_book, .int m_acts, .ref q_kept, .ref q_isKept, .int m_held, .ref q_heldWho, .ref q_heldForce, .ref q_heldLoad, .ref q_heldIs, .long m_seed, .int m_tentMany, .int m_tentFirst, .int m_restMany, .int m_restFirst, .ref q_gains, .ref q_value])), (q_text, .inl (cI, 56, .inl m_text)), (q_cards, .inl (cI, 4, .inl m_cards)), (q_readCards, .inl (cI, 4, .inl m_readCards)), (q_readPage, .inl (cI, 17, .inl m_readPage)), (q_page, .inl (cI, 17, .inl m_page)), (q_trial, .inl (cI, 17, .inl m_trial)), (q_loads, .inl (cI, 16, .inl m_loads)), (q_book, .inl (cI, 238, .inl m_book)), (q_kept, .inl (cI, 34, .inl m_kept)), (q_isKept, .inl (cZ, 2, .inl m_isKept)), (q_heldWho, .inl (cI, 6, .inl m_heldWho)), (q_heldForce, .inl (cI, 6, .inl m_heldForce)), (q_heldLoad, .inl (cI, 6, .inl m_heldLoad)), (q_heldIs, .inl (cI, 6, .inl m_heldIs)), (q_gains, .inl (cI, 50, .inl m_gains)), (q_value, .inl (cI, 16, .inl m_value))] s.heap [] := w
  have hl : lv_has ls 2 [(0, .ref m_a), (1, .int a1)] := hl
  obtain ⟨H, eH⟩ : ∃ H, H = s.heap := ⟨_, rfl⟩
  rw [← eH] at w ⊢
  generalize ([] : List Loc) = locs at w ⊢
  generalize List.toArray _ = args at C ⊢
  obtain ⟨hx, hb, hr, hml, hown, hts, hlk⟩ := id C
  have hg : ∀ w ∈ GW, w.before args s = true := fun w h => hts w (List.mem_cons_of_mem _ h)
  unfold fX5_take at hf
  refine lv_aload_n hx hb dX5_take_0 rfl (lv_at hl 0 rfl) ?_
  refine lv_iconst (v := 0) hx hb dX5_take_1 (by decide) ?_
  refine k_put (ci := 5) (v := .int 0) (ty := .int) (C := RX5) (T := TX5) (N := 26) hx hb hg iX5 tyX5 tyX5_ok nmX5 hown w 0 rfl rfl 0 (by decide) (hg _ w_489) (fun _ h9 => h9) rfl pd_I rfl rfl (Nat.le_of_ble_eq_true rfl) dX5_take_2 (fun H locs w => ?_)
  have w : Wd D cI cZ b0 tt A s [(m_a, .inr (5, [.int 0, .ref q_text, .int m_textSize, .int m_place, .ref q_cards, .ref q_readCards, .ref q_readPage, .ref q_page, .ref q_trial, .ref q_loads, .ref q_book, .int m_acts, .ref q_kept, .ref q_isKept, .int m_held, .ref q_heldWho, .ref q_heldForce, .ref q_heldLoad, .ref q_heldIs, .long m_seed, .int m_tentMany, .int m_tentFirst, .int m_restMany, .int m_restFirst, .ref q_gains, .ref q_value])), (q_text, .inl (cI, 56, .inl m_text)), (q_cards, .inl (cI, 4, .inl m_cards)), (q_readCards, .inl (cI, 4, .inl m_readCards)), (q_readPage, .inl (cI, 17, .inl m_readPage)), (q_page, .inl (cI, 17, .inl m_page)), (q_trial, .inl (cI, 17, .inl m_trial)), (q_loads, .inl (cI, 16, .inl m_loads)), (q_book, .inl (cI, 238, .inl m_book)), (q_kept, .inl (cI, 34, .inl m_kept)), (q_isKept, .inl (cZ, 2, .inl m_isKept)), (q_heldWho, .inl (cI, 6, .inl m_heldWho)), (q_heldForce, .inl (cI, 6, .inl m_heldForce)), (q_heldLoad, .inl (cI, 6, .inl m_heldLoad)), (q_heldIs, .inl (cI, 6, .inl m_heldIs)), (q_gains, .inl (cI, 50, .inl m_gains)), (q_value, .inl (cI, 16, .inl m_value))] H locs := w
  refine lv_iload_n hx hb dX5_take_5 rfl (lv_at hl 1 rfl) ?_
  replace hf := ob_at hf
  obtain ⟨r1, er1, hf⟩ := hf
  refine k_goI0 w [] rfl (va_runS (As := [.int a1]) (rest := []) ⟨hx, hb, hml, hown, hg⟩ (tX5_noPiece l D cI cZ b0 tt a1 er1 H.size) (va_cwS 1 hg (gwS w_621 w_622 w_7 w_623) rfl rfl rfl qdX5_noPiece ⟨Nat.le_of_ble_eq_true rfl, Nat.le_of_ble_eq_true rfl⟩) (k_preS w [] (by decide) rfl) rfl rfl hl.1 rfl (lv_room (Nat.le_of_ble_eq_true rfl)) dX5_take_6 ⟨Nat.le_refl _, Nat.le_refl _⟩) (fun H locs w => ?_)
  refine lv_if_eq (tgt := 14) hx hb dX5_take_9 (by decide) (fun c2 => ?_) (fun c2 => ?_)
  · replace hf := ite_t c2 hf
    refine lv_aload_n hx hb dX5_take_14 rfl (lv_at hl 0 rfl) ?_
    refine va_get (D := D) (ci := 5) (v := .ref q_page) (C := RX5) (T := TX5) (N := 26) hx hb hg iX5 hown w.2.2.2.2.2.2.1 w.1 0 rfl rfl 7 (by decide) (hg _ w_496) (fun _ h9 => h9) rfl dX5_take_15 ?_
    refine lv_iload_n hx hb dX5_take_18 rfl (lv_at hl 1 rfl) ?_
    replace hf := gd_at hf
    obtain ⟨hi3, hf⟩ := hf
    refine va_iald hx hb w.2.2.2.2.2.2.1 w.1 5 0 rfl rfl hi3 dX5_take_19 ?_
    refine lv_if_eq (tgt := 34) hx hb dX5_take_20 (by decide) (fun c4 => ?_) (fun c4 => ?_)
    · replace hf := ite_t c4 hf
      refine lv_bipush (v := (-3)) hx hb dX5_take_34 (by decide) ?_
      exact k_iret (u := (0, m_acts, m_page, m_book)) hx hb hr hlk w rfl hf dX5_take_36
    · replace hf := ite_f c4 hf
      refine lv_aload_n hx hb dX5_take_23 rfl (lv_at hl 0 rfl) ?_
      refine va_get (D := D) (ci := 5) (v := .ref q_page) (C := RX5) (T := TX5) (N := 26) hx hb hg iX5 hown w.2.2.2.2.2.2.1 w.1 0 rfl rfl 7 (by decide) (hg _ w_496) (fun _ h9 => h9) rfl dX5_take_24 ?_
      refine lv_iload_n hx hb dX5_take_27 rfl (lv_at hl 1 rfl) ?_
      replace hf := ob_at hf
      obtain ⟨r5, er5, hf⟩ := hf
      refine k_goI0 w [5] rfl (va_runS (As := [.ref q_page, .int a1]) (rest := []) ⟨hx, hb, hml, hown, hg⟩ (tX5_isTop l D cI cZ b0 tt q_page m_page a1 er5 H.size) (va_cwS 2 hg (gwS w_685 w_686 w_7 w_687) rfl rfl rfl qdX5_isTop ⟨Nat.le_of_ble_eq_true rfl, Nat.le_of_ble_eq_true rfl⟩) (k_preS w [5] (by decide) rfl) rfl rfl hl.1 rfl (lv_room (Nat.le_of_ble_eq_true rfl)) dX5_take_28 ⟨Nat.le_refl _, Nat.le_refl _⟩) (fun H locs w => ?_)
      refine lv_if_ne (tgt := 37) hx hb dX5_take_31 (by decide) (fun c6 => ?_) (fun c6 => ?_)
      · replace hf := ite_f c6 hf
        refine lv_aload_n hx hb dX5_take_37 rfl (lv_at hl 0 rfl) ?_
        replace hf := ob_at hf
        obtain ⟨r7, er7, hf⟩ := hf
        refine k_goV (v0 := (m_acts, m_book)) (res := r7) w [0, 1, 2, 3, 4, 5, 6, 7, 8, 9, 10, 11, 12, 13, 14, 15, 16] rfl (fun _ => rfl) (va_runV (As := []) (rest := []) ⟨hx, hb, hml, hown, hg⟩ (tX5_note l D cI cZ b0 tt m_a q_text q_cards q_readCards q_readPage q_page q_trial q_loads q_book q_kept q_isKept q_heldWho q_heldForce q_heldLoad q_heldIs q_gains q_value 0 m_textSize m_place m_acts m_held m_seed m_tentMany m_tentFirst m_restMany m_restFirst m_text m_cards m_readCards m_readPage m_page m_trial m_loads m_book m_kept m_isKept m_heldWho m_heldForce m_heldLoad m_heldIs m_gains m_value er7 H.size) (cwV 0 hg (gwV w_695 w_696 w_856 w_7 w_697) rfl rfl rfl ⟨rfl, qdX5_note⟩ ⟨Nat.le_of_ble_eq_true rfl, Nat.le_of_ble_eq_true rfl⟩) (k_preV w [0, 1, 2, 3, 4, 5, 6, 7, 8, 9, 10, 11, 12, 13, 14, 15, 16] (by decide) rfl (q0 := 0) rfl rfl) rfl rfl hl.1 rfl (lv_room (Nat.le_of_ble_eq_true rfl)) dX5_take_38 ⟨Nat.le_refl _, Nat.le_refl _⟩) (fun H locs w => ?_)
        have w : Wd D cI cZ b0 tt A s [(m_a, .inr (5, [.int 0, .ref q_text, .int m_textSize, .int m_place, .ref q_cards, .ref q_readCards, .ref q_readPage, .ref q_page, .ref q_trial, .ref q_loads, .ref q_book, .int r7.1, .ref q_kept, .ref q_isKept, .int m_held, .ref q_heldWho, .ref q_heldForce, .ref q_heldLoad, .ref q_heldIs, .long m_seed, .int m_tentMany, .int m_tentFirst, .int m_restMany, .int m_restFirst, .ref q_gains, .ref q_value])), (q_text, .inl (cI, 56, .inl m_text)), (q_cards, .inl (cI, 4, .inl m_cards)), (q_readCards, .inl (cI, 4, .inl m_readCards)), (q_readPage, .inl (cI, 17, .inl m_readPage)), (q_page, .inl (cI, 17, .inl m_page)), (q_trial, .inl (cI, 17, .inl m_trial)), (q_loads, .inl (cI, 16, .inl m_loads)), (q_book, .inl (cI, 238, .inl r7.2)), (q_kept, .inl (cI, 34, .inl m_kept)), (q_isKept, .inl (cZ, 2, .inl m_isKept)), (q_heldWho, .inl (cI, 6, .inl m_heldWho)), (q_heldForce, .inl (cI, 6, .inl m_heldForce)), (q_heldLoad, .inl (cI, 6, .inl m_heldLoad)), (q_heldIs, .inl (cI, 6, .inl m_heldIs)), (q_gains, .inl (cI, 50, .inl m_gains)), (q_value, .inl (cI, 16, .inl m_value))] H locs := w
        refine lv_aload_n hx hb dX5_take_41 rfl (lv_at hl 0 rfl) ?_
        refine va_get (D := D) (ci := 5) (v := .ref q_page) (C := RX5) (T := TX5) (N := 26) hx hb hg iX5 hown w.2.2.2.2.2.2.1 w.1 0 rfl rfl 7 (by decide) (hg _ w_496) (fun _ h9 => h9) rfl dX5_take_42 ?_
        refine lv_iload_n hx hb dX5_take_45 rfl (lv_at hl 1 rfl) ?_
        refine lv_iconst (v := 0) hx hb dX5_take_46 (by decide) ?_
        replace hf := gd_at hf
        obtain ⟨hi8, hf⟩ := hf
        refine k_iast hx hb w 5 rfl hi8 dX5_take_47 (fun H locs w => ?_)
        have w : Wd D cI cZ b0 tt A s [(m_a, .inr (5, [.int 0, .ref q_text, .int m_textSize, .int m_place, .ref q_cards, .ref q_readCards, .ref q_readPage, .ref q_page, .ref q_trial, .ref q_loads, .ref q_book, .int r7.1, .ref q_kept, .ref q_isKept, .int m_held, .ref q_heldWho, .ref q_heldForce, .ref q_heldLoad, .ref q_heldIs, .long m_seed, .int m_tentMany, .int m_tentFirst, .int m_restMany, .int m_restFirst, .ref q_gains, .ref q_value])), (q_text, .inl (cI, 56, .inl m_text)), (q_cards, .inl (cI, 4, .inl m_cards)), (q_readCards, .inl (cI, 4, .inl m_readCards)), (q_readPage, .inl (cI, 17, .inl m_readPage)), (q_page, .inl (cI, 17, .inl (upd m_page (Int32.toNatClampNeg a1) 0))), (q_trial, .inl (cI, 17, .inl m_trial)), (q_loads, .inl (cI, 16, .inl m_loads)), (q_book, .inl (cI, 238, .inl r7.2)), (q_kept, .inl (cI, 34, .inl m_kept)), (q_isKept, .inl (cZ, 2, .inl m_isKept)), (q_heldWho, .inl (cI, 6, .inl m_heldWho)), (q_heldForce, .inl (cI, 6, .inl m_heldForce)), (q_heldLoad, .inl (cI, 6, .inl m_heldLoad)), (q_heldIs, .inl (cI, 6, .inl m_heldIs)), (q_gains, .inl (cI, 50, .inl m_gains)), (q_value, .inl (cI, 16, .inl m_value))] H locs := w
        refine lv_iload_n hx hb dX5_take_48 rfl (lv_at hl 1 rfl) ?_
        replace hf := ob_at hf
        obtain ⟨r9, er9, hf⟩ := hf
        refine k_goI0 w [] rfl (va_runS (As := [.int a1]) (rest := []) ⟨hx, hb, hml, hown, hg⟩ (tX5_need l D cI cZ b0 tt a1 er9 H.size) (va_cwS 1 hg (gwS w_615 w_616 w_7 w_617) rfl rfl rfl qdX5_need ⟨Nat.le_of_ble_eq_true rfl, Nat.le_of_ble_eq_true rfl⟩) (k_preS w [] (by decide) rfl) rfl rfl hl.1 rfl (lv_room (Nat.le_of_ble_eq_true rfl)) dX5_take_49 ⟨Nat.le_refl _, Nat.le_refl _⟩) (fun H locs w => ?_)
        exact k_iret (u := (0, r7.1, (upd m_page (Int32.toNatClampNeg a1) 0), r7.2)) hx hb hr hlk w rfl hf dX5_take_52
      · replace hf := ite_t c6 hf
        refine lv_bipush (v := (-3)) hx hb dX5_take_34 (by decide) ?_
        exact k_iret (u := (0, m_acts, m_page, m_book)) hx hb hr hlk w rfl hf dX5_take_36
  · replace hf := ite_f c2 hf
    refine lv_iconst (v := (-1)) hx hb dX5_take_12 (by decide) ?_
    exact k_iret (u := (0, m_acts, m_page, m_book)) hx hb hr hlk w rfl hf dX5_take_13
-- X5_isTentOf
def fX5_isTentOf  (g_h : Nat → Int32) (a2 : Int32) (a3 : Int32) : Option (Int32) := gd a2 17 ((if (g_h (Int32.toNatClampNeg a2)) ≤ 0 then some 0 else ob (fX5_isFlat a2) (fun r3 => (if r3 = 0 then ob (fX5_level a2) (fun r5 => (if r5 = a3 then some 1 else some 0)) else some 0))))
set_option maxRecDepth 100000 in
set_option maxHeartbeats 4000000 in
theorem tX5_isTentOf (l : Launch) (D : va_G) (cI cZ : ClassId) (b0 : Nat) (tt : Nat → Nat)  (m_a q_text q_cards q_readCards q_readPage q_page q_trial q_loads q_book q_kept q_isKept q_heldWho q_heldForce q_heldLoad q_heldIs q_gains q_value g_a : Nat) (m_thrown : Int32) (m_textSize : Int32) (m_place : Int32) (m_acts : Int32) (m_held : Int32) (m_seed : Int64) (m_tentMany : Int32) (m_tentFirst : Int32) (m_restMany : Int32) (m_restFirst : Int32) (g_h : Nat → Int32) (m_loads : Nat → Int32) (m_cards : Nat → Int32) (a2 : Int32) (a3 : Int32) {res : Int32} (hf : fX5_isTentOf g_h a2 a3 = some res) : CtI l yX5_isTentOf (cwX5_isTentOf :: GW) 1 20 D cI cZ b0 tt [.ref m_a, .ref g_a, .int a2, .int a3] (fun _ : Unit => [(m_a, .inr (5, [.int m_thrown, .ref q_text, .int m_textSize, .int m_place, .ref q_cards, .ref q_readCards, .ref q_readPage, .ref q_page, .ref q_trial, .ref q_loads, .ref q_book, .int m_acts, .ref q_kept, .ref q_isKept, .int m_held, .ref q_heldWho, .ref q_heldForce, .ref q_heldLoad, .ref q_heldIs, .long m_seed, .int m_tentMany, .int m_tentFirst, .int m_restMany, .int m_restFirst, .ref q_gains, .ref q_value])), (g_a, .inl (cI, 17, .inl g_h)), (q_loads, .inl (cI, 16, .inl m_loads)), (q_cards, .inl (cI, 4, .inl m_cards))]) () (res, ()) := by
  intro sz
  refine k_begin (cc := cX5_isTentOf) (maxL := 4) (ret := (some .boolean)) (by decide) rfl (Nat.le_of_ble_eq_true rfl) ?_
  intro p e s m below meth c ls C w hl
  generalize va_A _ sz = A at w ⊢
  have w : Wd D cI cZ b0 tt A s [(m_a, .inr (5, [.int m_thrown, .ref q_text, .int m_textSize, .int m_place, .ref q_cards, .ref q_readCards, .ref q_readPage, .ref q_page, .ref q_trial, .ref q_loads, .ref q_book, .int m_acts, .ref q_kept, .ref q_isKept, .int m_held, .ref q_heldWho, .ref q_heldForce, .ref q_heldLoad, .ref q_heldIs, .long m_seed, .int m_tentMany, .int m_tentFirst, .int m_restMany, .int m_restFirst, .ref q_gains, .ref q_value])), (g_a, .inl (cI, 17, .inl g_h)), (q_loads, .inl (cI, 16, .inl m_loads)), (q_cards, .inl (cI, 4, .inl m_cards))] s.heap [] := w
  have hl : lv_has ls 4 [(0, .ref m_a), (1, .ref g_a), (2, .int a2), (3, .int a3)] := hl
  obtain ⟨H, eH⟩ : ∃ H, H = s.heap := ⟨_, rfl⟩
  rw [← eH] at w ⊢
  generalize ([] : List Loc) = locs at w ⊢
  generalize List.toArray _ = args at C ⊢
  obtain ⟨hx, hb, hr, hml, hown, hts, hlk⟩ := id C
  have hg : ∀ w ∈ GW, w.before args s = true := fun w h => hts w (List.mem_cons_of_mem _ h)
  unfold fX5_isTentOf at hf
  refine lv_aload_n hx hb dX5_isTentOf_0 rfl (lv_at hl 1 rfl) ?_
  refine lv_iload_n hx hb dX5_isTentOf_1 rfl (lv_at hl 2 rfl) ?_
  replace hf := gd_at hf
  obtain ⟨hi1, hf⟩ := hf
  refine va_iald hx hb w.2.2.2.2.2.2.1 w.1 1 0 rfl rfl hi1 dX5_isTentOf_2 ?_
  refine lv_if_le (tgt := 25) hx hb dX5_isTentOf_3 (by decide) (fun c2 => ?_) (fun c2 => ?_)
  · replace hf := ite_t c2 hf
    refine lv_iconst (v := 0) hx hb dX5_isTentOf_25 (by decide) ?_
    exact k_zret (u := ()) hx hb hr hlk w rfl rfl (k_ret1 hf) dX5_isTentOf_26
  · replace hf := ite_f c2 hf
    refine lv_iload_n hx hb dX5_isTentOf_6 rfl (lv_at hl 2 rfl) ?_
    replace hf := ob_at hf
    obtain ⟨r3, er3, hf⟩ := hf
    refine k_goI0 w [] rfl (va_runS (As := [.int a2]) (rest := []) ⟨hx, hb, hml, hown, hg⟩ (tX5_isFlat l D cI cZ b0 tt a2 er3 H.size) (va_cwS 1 hg (gwS w_618 w_619 w_7 w_620) rfl rfl rfl qdX5_isFlat ⟨Nat.le_of_ble_eq_true rfl, Nat.le_of_ble_eq_true rfl⟩) (k_preS w [] (by decide) rfl) rfl rfl hl.1 rfl (lv_room (Nat.le_of_ble_eq_true rfl)) dX5_isTentOf_7 ⟨Nat.le_refl _, Nat.le_refl _⟩) (fun H locs w => ?_)
    refine lv_if_ne (tgt := 25) hx hb dX5_isTentOf_10 (by decide) (fun c4 => ?_) (fun c4 => ?_)
    · replace hf := ite_f c4 hf
      refine lv_iconst (v := 0) hx hb dX5_isTentOf_25 (by decide) ?_
      exact k_zret (u := ()) hx hb hr hlk w rfl rfl (k_ret1 hf) dX5_isTentOf_26
    · replace hf := ite_t c4 hf
      refine lv_iload_n hx hb dX5_isTentOf_13 rfl (lv_at hl 2 rfl) ?_
      replace hf := ob_at hf
      obtain ⟨r5, er5, hf⟩ := hf
      refine k_goI0 w [] rfl (va_runS (As := [.int a2]) (rest := []) ⟨hx, hb, hml, hown, hg⟩ (tX5_level l D cI cZ b0 tt a2 er5 H.size) (va_cwS 1 hg (gwS w_669 w_670 w_7 w_671) rfl rfl rfl qdX5_level ⟨Nat.le_of_ble_eq_true rfl, Nat.le_of_ble_eq_true rfl⟩) (k_preS w [] (by decide) rfl) rfl rfl hl.1 rfl (lv_room (Nat.le_of_ble_eq_true rfl)) dX5_isTentOf_14 ⟨Nat.le_refl _, Nat.le_refl _⟩) (fun H locs w => ?_)
      refine lv_iload_n hx hb dX5_isTentOf_17 rfl (lv_at hl 3 rfl) ?_
      refine lv_icmp_ne (tgt := 25) hx hb dX5_isTentOf_18 (by decide) (fun c6 => ?_) (fun c6 => ?_)
      · replace hf := ite_f c6 hf
        refine lv_iconst (v := 0) hx hb dX5_isTentOf_25 (by decide) ?_
        exact k_zret (u := ()) hx hb hr hlk w rfl rfl (k_ret1 hf) dX5_isTentOf_26
      · replace hf := ite_t c6 hf
        refine lv_iconst (v := 1) hx hb dX5_isTentOf_21 (by decide) ?_
        refine lv_goto (tgt := 26) hx hb dX5_isTentOf_22 (by decide) ?_
        exact k_zret (u := ()) hx hb hr hlk w rfl rfl (k_ret1 hf) dX5_isTentOf_26
-- X5_firm
def fX5_firm  (g_h : Nat → Int32) (m_loads : Nat → Int32) (a2 : Int32) : Option (Int32) := gd a2 17 (ob (fX5_weighs a2 ((g_h (Int32.toNatClampNeg a2)) - (1 : Int32))) (fun r2 => gd a2 16 (gd a2 17 (ob (fX5_grip ((g_h (Int32.toNatClampNeg a2)) - (1 : Int32))) (fun r5 => some ((r2 + (m_loads (Int32.toNatClampNeg a2))) + r5))))))
set_option maxRecDepth 100000 in
set_option maxHeartbeats 4000000 in
theorem tX5_firm (l : Launch) (D : va_G) (cI cZ : ClassId) (b0 : Nat) (tt : Nat → Nat)  (m_a q_text q_cards q_readCards q_readPage q_page q_trial q_loads q_book q_kept q_isKept q_heldWho q_heldForce q_heldLoad q_heldIs q_gains q_value g_a : Nat) (m_thrown : Int32) (m_textSize : Int32) (m_place : Int32) (m_acts : Int32) (m_held : Int32) (m_seed : Int64) (m_tentMany : Int32) (m_tentFirst : Int32) (m_restMany : Int32) (m_restFirst : Int32) (g_h : Nat → Int32) (m_loads : Nat → Int32) (m_cards : Nat → Int32) (a2 : Int32) {res : Int32} (hf : fX5_firm g_h m_loads a2 = some res) : CtI l yX5_firm (cwX5_firm :: GW) 3 61 D cI cZ b0 tt [.ref m_a, .ref g_a, .int a2] (fun _ : Unit => [(m_a, .inr (5, [.int m_thrown, .ref q_text, .int m_textSize, .int m_place, .ref q_cards, .ref q_readCards, .ref q_readPage, .ref q_page, .ref q_trial, .ref q_loads, .ref q_book, .int m_acts, .ref q_kept, .ref q_isKept, .int m_held, .ref q_heldWho, .ref q_heldForce, .ref q_heldLoad, .ref q_heldIs, .long m_seed, .int m_tentMany, .int m_tentFirst, .int m_restMany, .int m_restFirst, .ref q_gains, .ref q_value])), (g_a, .inl (cI, 17, .inl g_h)), (q_loads, .inl (cI, 16, .inl m_loads)), (q_cards, .inl (cI, 4, .inl m_cards))]) () (res, ()) := by
  intro sz
  refine k_begin (cc := cX5_firm) (maxL := 3) (ret := (some .int)) (by decide) rfl (Nat.le_of_ble_eq_true rfl) ?_
  intro p e s m below meth c ls C w hl
  generalize va_A _ sz = A at w ⊢
  have w : Wd D cI cZ b0 tt A s [(m_a, .inr (5, [.int m_thrown, .ref q_text, .int m_textSize, .int m_place, .ref q_cards, .ref q_readCards, .ref q_readPage, .ref q_page, .ref q_trial, .ref q_loads, .ref q_book, .int m_acts, .ref q_kept, .ref q_isKept, .int m_held, .ref q_heldWho, .ref q_heldForce, .ref q_heldLoad, .ref q_heldIs, .long m_seed, .int m_tentMany, .int m_tentFirst, .int m_restMany, .int m_restFirst, .ref q_gains, .ref q_value])), (g_a, .inl (cI, 17, .inl g_h)), (q_loads, .inl (cI, 16, .inl m_loads)), (q_cards, .inl (cI, 4, .inl m_cards))] s.heap [] := w
  have hl : lv_has ls 3 [(0, .ref m_a), (1, .ref g_a), (2, .int a2)] := hl
  obtain ⟨H, eH⟩ : ∃ H, H = s.heap := ⟨_, rfl⟩
  rw [← eH] at w ⊢
  generalize ([] : List Loc) = locs at w ⊢
  generalize List.toArray _ = args at C ⊢
  obtain ⟨hx, hb, hr, hml, hown, hts, hlk⟩ := id C
  have hg : ∀ w ∈ GW, w.before args s = true := fun w h => hts w (List.mem_cons_of_mem _ h)
  unfold fX5_firm at hf
  refine lv_iload_n hx hb dX5_firm_0 rfl (lv_at hl 2 rfl) ?_
  refine lv_aload_n hx hb dX5_firm_1 rfl (lv_at hl 1 rfl) ?_
  refine lv_iload_n hx hb dX5_firm_2 rfl (lv_at hl 2 rfl) ?_
  replace hf := gd_at hf
  obtain ⟨hi1, hf⟩ := hf
  refine va_iald hx hb w.2.2.2.2.2.2.1 w.1 1 0 rfl rfl hi1 dX5_firm_3 ?_
  refine lv_iconst (v := 1) hx hb dX5_firm_4 (by decide) ?_
  refine lv_isub hx hb dX5_firm_5 ?_
  replace hf := ob_at hf
  obtain ⟨r2, er2, hf⟩ := hf
  refine k_goI0 w [] rfl (va_runS (As := [.int a2, .int ((g_h (Int32.toNatClampNeg a2)) - (1 : Int32))]) (rest := []) ⟨hx, hb, hml, hown, hg⟩ (tX5_weighs l D cI cZ b0 tt a2 ((g_h (Int32.toNatClampNeg a2)) - (1 : Int32)) er2 H.size) (va_cwS 2 hg (gwS w_638 w_639 w_7 w_640) rfl rfl rfl qdX5_weighs ⟨Nat.le_of_ble_eq_true rfl, Nat.le_of_ble_eq_true rfl⟩) (k_preS w [] (by decide) rfl) rfl rfl hl.1 rfl (lv_room (Nat.le_of_ble_eq_true rfl)) dX5_firm_6 ⟨Nat.le_refl _, Nat.le_refl _⟩) (fun H locs w => ?_)
  refine lv_aload_n hx hb dX5_firm_9 rfl (lv_at hl 0 rfl) ?_
  refine va_get (D := D) (ci := 5) (v := .ref q_loads) (C := RX5) (T := TX5) (N := 26) hx hb hg iX5 hown w.2.2.2.2.2.2.1 w.1 0 rfl rfl 9 (by decide) (hg _ w_498) (fun _ h9 => h9) rfl dX5_firm_10 ?_
  refine lv_iload_n hx hb dX5_firm_13 rfl (lv_at hl 2 rfl) ?_
  replace hf := gd_at hf
  obtain ⟨hi3, hf⟩ := hf
  refine va_iald hx hb w.2.2.2.2.2.2.1 w.1 2 0 rfl rfl hi3 dX5_firm_14 ?_
  refine lv_iadd hx hb dX5_firm_15 ?_
  refine lv_aload_n hx hb dX5_firm_16 rfl (lv_at hl 1 rfl) ?_
  refine lv_iload_n hx hb dX5_firm_17 rfl (lv_at hl 2 rfl) ?_
  replace hf := gd_at hf
  obtain ⟨hi4, hf⟩ := hf
  refine va_iald hx hb w.2.2.2.2.2.2.1 w.1 1 0 rfl rfl hi4 dX5_firm_18 ?_
  refine lv_iconst (v := 1) hx hb dX5_firm_19 (by decide) ?_
  refine lv_isub hx hb dX5_firm_20 ?_
  replace hf := ob_at hf
  obtain ⟨r5, er5, hf⟩ := hf
  refine k_goI0 w [] rfl (va_runS (As := [.int ((g_h (Int32.toNatClampNeg a2)) - (1 : Int32))]) (rest := [.int (r2 + (m_loads (Int32.toNatClampNeg a2)))]) ⟨hx, hb, hml, hown, hg⟩ (tX5_grip l D cI cZ b0 tt ((g_h (Int32.toNatClampNeg a2)) - (1 : Int32)) er5 H.size) (va_cwS 1 hg (gwS w_719 w_720 w_7 w_721) rfl rfl rfl qdX5_grip ⟨Nat.le_of_ble_eq_true rfl, Nat.le_of_ble_eq_true rfl⟩) (k_preS w [] (by decide) rfl) rfl rfl hl.1 rfl (lv_room (Nat.le_of_ble_eq_true rfl)) dX5_firm_21 ⟨Nat.le_refl _, Nat.le_refl _⟩) (fun H locs w => ?_)
  refine lv_iadd hx hb dX5_firm_24 ?_
  exact k_iret (u := ()) hx hb hr hlk w rfl (k_ret1 hf) dX5_firm_25
-- X5_goDraught
def fX5_goDraught_L11   (v2 : Int32) (v3 : Int32) (g_h : Nat → Int32) (m_loads : Nat → Int32) : Nat → Int32 → Int32 → Option (Int32 × (Nat → Int32) × (Nat → Int32))
  | 0, _, _ => none
  | n + 1, v4, v5 => (if 16 ≤ v5 then ob (fX5_fallAll g_h v4) (fun r2 => ob (fX5_settle r2.2 m_loads) (fun r3 => nm (r2.1 + r3.1) (fun z4 => nm ((r3.2.1 (Int32.toNatClampNeg 16)) + z4) (fun z5 => some (z4, ((upd r3.2.1 (Int32.toNatClampNeg 16) z5), r3.2.2)))))) else ob (fX5_isTentOf g_h v5 v2) (fun r6 => (if r6 = 0 then nm (v4 ||| (0 : Int32)) (fun z8 => nm (v5 + 1) (fun z9 => fX5_goDraught_L11 v2 v3 g_h m_loads n z8 z9)) else ob (fX5_firm g_h m_loads v5) (fun r10 => (if ((8 : Int32) * v3) ≤ r10 then nm (v4 ||| (0 : Int32)) (fun z12 => nm (v5 + 1) (fun z13 => fX5_goDraught_L11 v2 v3 g_h m_loads n z12 z13)) else nm (v4 ||| ((1 : Int32) <<< (v5 &&& 31))) (fun z14 => nm (v5 + 1) (fun z15 => fX5_goDraught_L11 v2 v3 g_h m_loads n z14 z15)))))))
set_option maxRecDepth 100000 in
set_option maxHeartbeats 4000000 in
theorem tX5_goDraught_L11 {p : Program} {l : Launch} {e : Env} {s : State} {m : MethodId} {args : Array Value} {below : List Frame} {meth : Method} {c : Code} {D : va_G} {cI cZ : ClassId} {b0 : Nat} {tt : Nat → Nat} {A : Nat → Prop}  {m_a q_text q_cards q_readCards q_readPage q_page q_trial q_loads q_book q_kept q_isKept q_heldWho q_heldForce q_heldLoad q_heldIs q_gains q_value g_a : Nat}  {v2 : Int32} {v3 : Int32} {g_h : Nat → Int32} {m_loads : Nat → Int32} {m_thrown : Int32} {m_textSize : Int32} {m_place : Int32} {m_acts : Int32} {m_held : Int32} {m_seed : Int64} {m_tentMany : Int32} {m_tentFirst : Int32} {m_restMany : Int32} {m_restFirst : Int32} {m_cards : Nat → Int32} {res : Int32 × (Nat → Int32) × (Nat → Int32)} (C : Cx p s m args meth c cX5_goDraught 6 (some .int) (cwX5_goDraught :: GW) RX5) : ∀ (n : Nat) (v4 : Int32) (v5 : Int32) (H : Heap) (locs : List Loc) (ls : Array Slot), fX5_goDraught_L11 v2 v3 g_h m_loads n v4 v5 = some res → Wd D cI cZ b0 tt A s [(m_a, .inr (5, [.int m_thrown, .ref q_text, .int m_textSize, .int m_place, .ref q_cards, .ref q_readCards, .ref q_readPage, .ref q_page, .ref q_trial, .ref q_loads, .ref q_book, .int m_acts, .ref q_kept, .ref q_isKept, .int m_held, .ref q_heldWho, .ref q_heldForce, .ref q_heldLoad, .ref q_heldIs, .long m_seed, .int m_tentMany, .int m_tentFirst, .int m_restMany, .int m_restFirst, .ref q_gains, .ref q_value])), (g_a, .inl (cI, 17, .inl g_h)), (q_loads, .inl (cI, 16, .inl m_loads)), (q_cards, .inl (cI, 4, .inl m_cards))] H locs → lv_has ls 6 [(0, .ref m_a), (1, .ref g_a), (2, .int v2), (3, .int v3), (4, .int v4), (5, .int v5)] → W p l e (rmo 6 131) s m args below meth c H locs 0 0 (MQ below (QI D (fun u : (Nat → Int32) × (Nat → Int32) => [(m_a, .inr (5, [.int m_thrown, .ref q_text, .int m_textSize, .int m_place, .ref q_cards, .ref q_readCards, .ref q_readPage, .ref q_page, .ref q_trial, .ref q_loads, .ref q_book, .int m_acts, .ref q_kept, .ref q_isKept, .int m_held, .ref q_heldWho, .ref q_heldForce, .ref q_heldLoad, .ref q_heldIs, .long m_seed, .int m_tentMany, .int m_tentFirst, .int m_restMany, .int m_restFirst, .ref q_gains, .ref q_value])), (g_a, .inl (cI, 17, .inl u.1)), (q_loads, .inl (cI, 16, .inl u.2)), (q_cards, .inl (cI, 4, .inl m_cards))]) A res) args s 0 0 A) (F0 m 11 ls []) := by
  obtain ⟨hx, hb, hr, hml, hown, hts, hlk⟩ := id C
  have hg : ∀ w ∈ GW, w.before args s = true := fun w h => hts w (List.mem_cons_of_mem _ h)
  intro n
  induction n with
  | zero =>
    intro _ _ H locs ls hf
    rw [fX5_goDraught_L11] at hf
    cases hf
  | succ n ih =>
    intro v4 v5 H locs ls hf w hl
    rw [fX5_goDraught_L11] at hf
    refine lv_iload hx hb dX5_goDraught_11 (lv_at hl 5 rfl) ?_
    refine lv_bipush (v := 16) hx hb dX5_goDraught_13 (by decide) ?_
    refine lv_icmp_ge (tgt := 62) hx hb dX5_goDraught_15 (by decide) (fun c1 => ?_) (fun c1 => ?_)
    · replace hf := ite_t c1 hf
      refine lv_aload_n hx hb dX5_goDraught_62 rfl (lv_at hl 1 rfl) ?_
      refine lv_iload hx hb dX5_goDraught_63 (lv_at hl 4 rfl) ?_
      replace hf := ob_at hf
      obtain ⟨r2, er2, hf⟩ := hf
      refine k_goI (v0 := g_h) (res := r2) w [1] rfl (fun _ => rfl) (va_runS (As := [.ref g_a, .int v4]) (rest := []) ⟨hx, hb, hml, hown, hg⟩ (tX5_fallAll l D cI cZ b0 tt g_a g_h v4 er2 H.size) (va_cwS 2 hg (gwS w_647 w_648 w_7 w_649) rfl rfl rfl qdX5_fallAll ⟨Nat.le_of_ble_eq_true rfl, Nat.le_of_ble_eq_true rfl⟩) (k_preS w [1] (by decide) rfl) rfl rfl hl.1 rfl (lv_room (Nat.le_of_ble_eq_true rfl)) dX5_goDraught_65 ⟨Nat.le_refl _, Nat.le_refl _⟩) (fun H locs w => ?_)
      have w : Wd D cI cZ b0 tt A s [(m_a, .inr (5, [.int m_thrown, .ref q_text, .int m_textSize, .int m_place, .ref q_cards, .ref q_readCards, .ref q_readPage, .ref q_page, .ref q_trial, .ref q_loads, .ref q_book, .int m_acts, .ref q_kept, .ref q_isKept, .int m_held, .ref q_heldWho, .ref q_heldForce, .ref q_heldLoad, .ref q_heldIs, .long m_seed, .int m_tentMany, .int m_tentFirst, .int m_restMany, .int m_restFirst, .ref q_gains, .ref q_value])), (g_a, .inl (cI, 17, .inl r2.2)), (q_loads, .inl (cI, 16, .inl m_loads)), (q_cards, .inl (cI, 4, .inl m_cards))] H locs := w
      refine lv_istore (lv' := [(5, .int r2.1), (0, .ref m_a), (1, .ref g_a), (2, .int v2), (3, .int v3), (4, .int v4)]) hx hb dX5_goDraught_68 hl (by decide) rfl (fun ls hl => ?_)
      refine lv_iload hx hb dX5_goDraught_70 (lv_at hl 0 rfl) ?_
      refine lv_aload_n hx hb dX5_goDraught_72 rfl (lv_at hl 1 rfl) ?_
      refine lv_aload_n hx hb dX5_goDraught_73 rfl (lv_at hl 2 rfl) ?_
      replace hf := ob_at hf
      obtain ⟨r3, er3, hf⟩ := hf
      refine k_goI (v0 := (r2.2, m_loads)) (res := r3) w [0, 1, 2, 3] rfl (fun _ => rfl) (va_runV (As := [.ref g_a]) (rest := [.int r2.1]) ⟨hx, hb, hml, hown, hg⟩ (tX5_settle l D cI cZ b0 tt m_a q_text q_cards q_readCards q_readPage q_page q_trial q_loads q_book q_kept q_isKept q_heldWho q_heldForce q_heldLoad q_heldIs q_gains q_value g_a m_thrown m_textSize m_place m_acts m_held m_seed m_tentMany m_tentFirst m_restMany m_restFirst r2.2 m_loads m_cards er3 H.size) (cwV 1 hg (gwV w_629 w_630 w_849 w_7 w_631) rfl rfl rfl ⟨rfl, qdX5_settle⟩ ⟨Nat.le_of_ble_eq_true rfl, Nat.le_of_ble_eq_true rfl⟩) (k_preV w [0, 1, 2, 3] (by decide) rfl (q0 := 0) rfl rfl) rfl rfl hl.1 rfl (lv_room (Nat.le_of_ble_eq_true rfl)) dX5_goDraught_74 ⟨Nat.le_refl _, Nat.le_refl _⟩) (fun H locs w => ?_)
      have w : Wd D cI cZ b0 tt A s [(m_a, .inr (5, [.int m_thrown, .ref q_text, .int m_textSize, .int m_place, .ref q_cards, .ref q_readCards, .ref q_readPage, .ref q_page, .ref q_trial, .ref q_loads, .ref q_book, .int m_acts, .ref q_kept, .ref q_isKept, .int m_held, .ref q_heldWho, .ref q_heldForce, .ref q_heldLoad, .ref q_heldIs, .long m_seed, .int m_tentMany, .int m_tentFirst, .int m_restMany, .int m_restFirst, .ref q_gains, .ref q_value])), (g_a, .inl (cI, 17, .inl r3.2.1)), (q_loads, .inl (cI, 16, .inl r3.2.2)), (q_cards, .inl (cI, 4, .inl m_cards))] H locs := w
      refine lv_iadd hx hb dX5_goDraught_77 ?_
      refine lv_topi (fun z4 ez4 => ?_)
      replace hf := nm_at ez4 hf
      refine lv_istore (lv' := [(5, .int z4), (0, .ref m_a), (1, .ref g_a), (2, .int v2), (3, .int v3), (4, .int v4)]) hx hb dX5_goDraught_78 hl (by decide) rfl (fun ls hl => ?_)
      refine lv_aload_n hx hb dX5_goDraught_80 rfl (lv_at hl 2 rfl) ?_
      refine lv_bipush (v := 16) hx hb dX5_goDraught_81 (by decide) ?_
      refine lv_dup2_11 hx hb dX5_goDraught_83 rfl rfl ?_
      refine va_iald hx hb w.2.2.2.2.2.2.1 w.1 1 0 rfl rfl (by unfold vp_in; decide) dX5_goDraught_84 ?_
      refine lv_iload hx hb dX5_goDraught_85 (lv_at hl 0 rfl) ?_
      refine lv_iadd hx hb dX5_goDraught_87 ?_
      refine lv_topi (fun z5 ez5 => ?_)
      replace hf := nm_at ez5 hf
      refine k_iast hx hb w 1 rfl (by unfold vp_in; decide) dX5_goDraught_88 (fun H locs w => ?_)
      have w : Wd D cI cZ b0 tt A s [(m_a, .inr (5, [.int m_thrown, .ref q_text, .int m_textSize, .int m_place, .ref q_cards, .ref q_readCards, .ref q_readPage, .ref q_page, .ref q_trial, .ref q_loads, .ref q_book, .int m_acts, .ref q_kept, .ref q_isKept, .int m_held, .ref q_heldWho, .ref q_heldForce, .ref q_heldLoad, .ref q_heldIs, .long m_seed, .int m_tentMany, .int m_tentFirst, .int m_restMany, .int m_restFirst, .ref q_gains, .ref q_value])), (g_a, .inl (cI, 17, .inl (upd r3.2.1 (Int32.toNatClampNeg 16) z5))), (q_loads, .inl (cI, 16, .inl r3.2.2)), (q_cards, .inl (cI, 4, .inl m_cards))] H locs := w
      refine lv_iload hx hb dX5_goDraught_89 (lv_at hl 0 rfl) ?_
      exact k_iret (u := ((upd r3.2.1 (Int32.toNatClampNeg 16) z5), r3.2.2)) hx hb hr hlk w rfl hf dX5_goDraught_91
    · replace hf := ite_f c1 hf
      refine lv_iload hx hb dX5_goDraught_18 (lv_at hl 4 rfl) ?_
      refine lv_aload_n hx hb dX5_goDraught_20 rfl (lv_at hl 0 rfl) ?_
      refine lv_aload_n hx hb dX5_goDraught_21 rfl (lv_at hl 1 rfl) ?_
      refine lv_iload hx hb dX5_goDraught_22 (lv_at hl 5 rfl) ?_
      refine lv_iload_n hx hb dX5_goDraught_24 rfl (lv_at hl 2 rfl) ?_
      replace hf := ob_at hf
      obtain ⟨r6, er6, hf⟩ := hf
      refine k_goI0 w [0, 1, 2, 3] rfl (va_runV (As := [.ref g_a, .int v5, .int v2]) (rest := [.int v4]) ⟨hx, hb, hml, hown, hg⟩ (tX5_isTentOf l D cI cZ b0 tt m_a q_text q_cards q_readCards q_readPage q_page q_trial q_loads q_book q_kept q_isKept q_heldWho q_heldForce q_heldLoad q_heldIs q_gains q_value g_a m_thrown m_textSize m_place m_acts m_held m_seed m_tentMany m_tentFirst m_restMany m_restFirst g_h m_loads m_cards v5 v2 er6 H.size) (cwV 3 hg (gwV w_713 w_714 w_859 w_7 w_715) rfl rfl rfl ⟨rfl, qdX5_isTentOf⟩ ⟨Nat.le_of_ble_eq_true rfl, Nat.le_of_ble_eq_true rfl⟩) (k_preV w [0, 1, 2, 3] (by decide) rfl (q0 := 0) rfl rfl) rfl rfl hl.1 rfl (lv_room (Nat.le_of_ble_eq_true rfl)) dX5_goDraught_25 ⟨Nat.le_refl _, Nat.le_refl _⟩) (fun H locs w => ?_)
      refine lv_if_eq (tgt := 52) hx hb dX5_goDraught_28 (by decide) (fun c7 => ?_) (fun c7 => ?_)
      · replace hf := ite_t c7 hf
        refine lv_iconst (v := 0) hx hb dX5_goDraught_52 (by decide) ?_
        refine lv_ior hx hb dX5_goDraught_53 ?_
        refine lv_topi (fun z8 ez8 => ?_)
        replace hf := nm_at ez8 hf
        refine lv_istore (lv' := [(4, .int z8), (0, .ref m_a), (1, .ref g_a), (2, .int v2), (3, .int v3), (5, .int v5)]) hx hb dX5_goDraught_54 hl (by decide) rfl (fun ls hl => ?_)
        obtain ⟨z9, ez9⟩ : ∃ y : Int32, y = (v5 + 1) := ⟨_, rfl⟩
        replace hf := nm_at ez9 hf
        refine lv_iinc (v := z9) (lv' := [(5, .int z9), (4, .int z8), (0, .ref m_a), (1, .ref g_a), (2, .int v2), (3, .int v3)]) hx hb dX5_goDraught_56 hl (k := 5) rfl (by rw [ez9]; rfl) (by decide) rfl (fun ls hl => ?_)
        refine lv_goto (tgt := 11) hx hb dX5_goDraught_59 (by decide) ?_
        exact ih z8 z9 H locs ls hf w (lv_sub hl [2, 3, 4, 5, 1, 0] rfl)
      · replace hf := ite_f c7 hf
        refine lv_aload_n hx hb dX5_goDraught_31 rfl (lv_at hl 0 rfl) ?_
        refine lv_aload_n hx hb dX5_goDraught_32 rfl (lv_at hl 1 rfl) ?_
        refine lv_iload hx hb dX5_goDraught_33 (lv_at hl 5 rfl) ?_
        replace hf := ob_at hf
        obtain ⟨r10, er10, hf⟩ := hf
        refine k_goI0 w [0, 1, 2, 3] rfl (va_runV (As := [.ref g_a, .int v5]) (rest := [.int v4]) ⟨hx, hb, hml, hown, hg⟩ (tX5_firm l D cI cZ b0 tt m_a q_text q_cards q_readCards q_readPage q_page q_trial q_loads q_book q_kept q_isKept q_heldWho q_heldForce q_heldLoad q_heldIs q_gains q_value g_a m_thrown m_textSize m_place m_acts m_held m_seed m_tentMany m_tentFirst m_restMany m_restFirst g_h m_loads m_cards v5 er10 H.size) (cwV 2 hg (gwV w_716 w_717 w_860 w_7 w_718) rfl rfl rfl ⟨rfl, qdX5_firm⟩ ⟨Nat.le_of_ble_eq_true rfl, Nat.le_of_ble_eq_true rfl⟩) (k_preV w [0, 1, 2, 3] (by decide) rfl (q0 := 0) rfl rfl) rfl rfl hl.1 rfl (lv_room (Nat.le_of_ble_eq_true rfl)) dX5_goDraught_35 ⟨Nat.le_refl _, Nat.le_refl _⟩) (fun H locs w => ?_)
        refine lv_bipush (v := 8) hx hb dX5_goDraught_38 (by decide) ?_
        refine lv_iload_n hx hb dX5_goDraught_40 rfl (lv_at hl 3 rfl) ?_
        refine lv_imul hx hb dX5_goDraught_41 ?_
        refine lv_icmp_ge (tgt := 52) hx hb dX5_goDraught_42 (by decide) (fun c11 => ?_) (fun c11 => ?_)
        · replace hf := ite_t c11 hf
          refine lv_iconst (v := 0) hx hb dX5_goDraught_52 (by decide) ?_
          refine lv_ior hx hb dX5_goDraught_53 ?_
          refine lv_topi (fun z12 ez12 => ?_)
          replace hf := nm_at ez12 hf
          refine lv_istore (lv' := [(4, .int z12), (0, .ref m_a), (1, .ref g_a), (2, .int v2), (3, .int v3), (5, .int v5)]) hx hb dX5_goDraught_54 hl (by decide) rfl (fun ls hl => ?_)
          obtain ⟨z13, ez13⟩ : ∃ y : Int32, y = (v5 + 1) := ⟨_, rfl⟩
          replace hf := nm_at ez13 hf
          refine lv_iinc (v := z13) (lv' := [(5, .int z13), (4, .int z12), (0, .ref m_a), (1, .ref g_a), (2, .int v2), (3, .int v3)]) hx hb dX5_goDraught_56 hl (k := 5) rfl (by rw [ez13]; rfl) (by decide) rfl (fun ls hl => ?_)
          refine lv_goto (tgt := 11) hx hb dX5_goDraught_59 (by decide) ?_
          exact ih z12 z13 H locs ls hf w (lv_sub hl [2, 3, 4, 5, 1, 0] rfl)
        · replace hf := ite_f c11 hf
          refine lv_iconst (v := 1) hx hb dX5_goDraught_45 (by decide) ?_
          refine lv_iload hx hb dX5_goDraught_46 (lv_at hl 5 rfl) ?_
          refine lv_ishl hx hb dX5_goDraught_48 ?_
          refine lv_goto (tgt := 53) hx hb dX5_goDraught_49 (by decide) ?_
          refine lv_ior hx hb dX5_goDraught_53 ?_
          refine lv_topi (fun z14 ez14 => ?_)
          replace hf := nm_at ez14 hf
          refine lv_istore (lv' := [(4, .int z14), (0, .ref m_a), (1, .ref g_a), (2, .int v2), (3, .int v3), (5, .int v5)]) hx hb dX5_goDraught_54 hl (by decide) rfl (fun ls hl => ?_)
          obtain ⟨z15, ez15⟩ : ∃ y : Int32, y = (v5 + 1) := ⟨_, rfl⟩
          replace hf := nm_at ez15 hf
          refine lv_iinc (v := z15) (lv' := [(5, .int z15), (4, .int z14), (0, .ref m_a), (1, .ref g_a), (2, .int v2), (3, .int v3)]) hx hb dX5_goDraught_56 hl (k := 5) rfl (by rw [ez15]; rfl) (by decide) rfl (fun ls hl => ?_)
          refine lv_goto (tgt := 11) hx hb dX5_goDraught_59 (by decide) ?_
          exact ih z14 z15 H locs ls hf w (lv_sub hl [2, 3, 4, 5, 1, 0] rfl)
def fX5_goDraught  (g_h : Nat → Int32) (m_loads : Nat → Int32) (a2 : Int32) (a3 : Int32) : Option (Int32 × (Nat → Int32) × (Nat → Int32)) := ob (fX5_layLoads g_h m_loads) (fun r16 => fX5_goDraught_L11 a2 a3 g_h r16 FU 0 0)
set_option maxRecDepth 100000 in
set_option maxHeartbeats 4000000 in
theorem tX5_goDraught (l : Launch) (D : va_G) (cI cZ : ClassId) (b0 : Nat) (tt : Nat → Nat)  (m_a q_text q_cards q_readCards q_readPage q_page q_trial q_loads q_book q_kept q_isKept q_heldWho q_heldForce q_heldLoad q_heldIs q_gains q_value g_a : Nat) (m_thrown : Int32) (m_textSize : Int32) (m_place : Int32) (m_acts : Int32) (m_held : Int32) (m_seed : Int64) (m_tentMany : Int32) (m_tentFirst : Int32) (m_restMany : Int32) (m_restFirst : Int32) (g_h : Nat → Int32) (m_loads : Nat → Int32) (m_cards : Nat → Int32) (a2 : Int32) (a3 : Int32) {res : Int32 × (Nat → Int32) × (Nat → Int32)} (hf : fX5_goDraught g_h m_loads a2 a3 = some res) : CtI l yX5_goDraught (cwX5_goDraught :: GW) 6 131 D cI cZ b0 tt [.ref m_a, .ref g_a, .int a2, .int a3] (fun u : (Nat → Int32) × (Nat → Int32) => [(m_a, .inr (5, [.int m_thrown, .ref q_text, .int m_textSize, .int m_place, .ref q_cards, .ref q_readCards, .ref q_readPage, .ref q_page, .ref q_trial, .ref q_loads, .ref q_book, .int m_acts, .ref q_kept, .ref q_isKept, .int m_held, .ref q_heldWho, .ref q_heldForce, .ref q_heldLoad, .ref q_heldIs, .long m_seed, .int m_tentMany, .int m_tentFirst, .int m_restMany, .int m_restFirst, .ref q_gains, .ref q_value])), (g_a, .inl (cI, 17, .inl u.1)), (q_loads, .inl (cI, 16, .inl u.2)), (q_cards, .inl (cI, 4, .inl m_cards))]) (g_h, m_loads) res := by
  intro sz
  refine k_begin (cc := cX5_goDraught) (maxL := 6) (ret := (some .int)) (by decide) rfl (Nat.le_of_ble_eq_true rfl) ?_
  intro p e s m below meth c ls C w hl
  generalize va_A _ sz = A at w ⊢
  have w : Wd D cI cZ b0 tt A s [(m_a, .inr (5, [.int m_thrown, .ref q_text, .int m_textSize, .int m_place, .ref q_cards, .ref q_readCards, .ref q_readPage, .ref q_page, .ref q_trial, .ref q_loads, .ref q_book, .int m_acts, .ref q_kept, .ref q_isKept, .int m_held, .ref q_heldWho, .ref q_heldForce, .ref q_heldLoad, .ref q_heldIs, .long m_seed, .int m_tentMany, .int m_tentFirst, .int m_restMany, .int m_restFirst, .ref q_gains, .ref q_value])), (g_a, .inl (cI, 17, .inl g_h)), (q_loads, .inl (cI, 16, .inl m_loads)), (q_cards, .inl (cI, 4, .inl m_cards))] s.heap [] := w
  have hl : lv_has ls 6 [(0, .ref m_a), (1, .ref g_a), (2, .int a2), (3, .int a3)] := hl
  obtain ⟨H, eH⟩ : ∃ H, H = s.heap := ⟨_, rfl⟩
  rw [← eH] at w ⊢
  generalize ([] : List Loc) = locs at w ⊢
  generalize List.toArray _ = args at C ⊢
  obtain ⟨hx, hb, hr, hml, hown, hts, hlk⟩ := id C
  have hg : ∀ w ∈ GW, w.before args s = true := fun w h => hts w (List.mem_cons_of_mem _ h)
  unfold fX5_goDraught at hf
  refine lv_aload_n hx hb dX5_goDraught_0 rfl (lv_at hl 0 rfl) ?_
  refine lv_aload_n hx hb dX5_goDraught_1 rfl (lv_at hl 1 rfl) ?_
  replace hf := ob_at hf
  obtain ⟨r16, er16, hf⟩ := hf
  refine k_goV (v0 := m_loads) (res := r16) w [0, 1, 2, 3] rfl (fun _ => rfl) (va_runV (As := [.ref g_a]) (rest := []) ⟨hx, hb, hml, hown, hg⟩ (tX5_layLoads l D cI cZ b0 tt m_a q_text q_cards q_readCards q_readPage q_page q_trial q_loads q_book q_kept q_isKept q_heldWho q_heldForce q_heldLoad q_heldIs q_gains q_value g_a m_thrown m_textSize m_place m_acts m_held m_seed m_tentMany m_tentFirst m_restMany m_restFirst g_h m_loads m_cards er16 H.size) (cwV 1 hg (gwV w_635 w_636 w_851 w_7 w_637) rfl rfl rfl ⟨rfl, qdX5_layLoads⟩ ⟨Nat.le_of_ble_eq_true rfl, Nat.le_of_ble_eq_true rfl⟩) (k_preV w [0, 1, 2, 3] (by decide) rfl (q0 := 0) rfl rfl) rfl rfl hl.1 rfl (lv_room (Nat.le_of_ble_eq_true rfl)) dX5_goDraught_2 ⟨Nat.le_refl _, Nat.le_refl _⟩) (fun H locs w => ?_)
  have w : Wd D cI cZ b0 tt A s [(m_a, .inr (5, [.int m_thrown, .ref q_text, .int m_textSize, .int m_place, .ref q_cards, .ref q_readCards, .ref q_readPage, .ref q_page, .ref q_trial, .ref q_loads, .ref q_book, .int m_acts, .ref q_kept, .ref q_isKept, .int m_held, .ref q_heldWho, .ref q_heldForce, .ref q_heldLoad, .ref q_heldIs, .long m_seed, .int m_tentMany, .int m_tentFirst, .int m_restMany, .int m_restFirst, .ref q_gains, .ref q_value])), (g_a, .inl (cI, 17, .inl g_h)), (q_loads, .inl (cI, 16, .inl r16)), (q_cards, .inl (cI, 4, .inl m_cards))] H locs := w
  refine lv_iconst (v := 0) hx hb dX5_goDraught_5 (by decide) ?_
  refine lv_istore (lv' := [(4, .int 0), (0, .ref m_a), (1, .ref g_a), (2, .int a2), (3, .int a3)]) hx hb dX5_goDraught_6 hl (by decide) rfl (fun ls hl => ?_)
  refine lv_iconst (v := 0) hx hb dX5_goDraught_8 (by decide) ?_
  refine lv_istore (lv' := [(5, .int 0), (4, .int 0), (0, .ref m_a), (1, .ref g_a), (2, .int a2), (3, .int a3)]) hx hb dX5_goDraught_9 hl (by decide) rfl (fun ls hl => ?_)
  exact tX5_goDraught_L11 (v2 := a2) (v3 := a3) (g_h := g_h) (m_loads := r16) (m_thrown := m_thrown) (m_textSize := m_textSize) (m_place := m_place) (m_acts := m_acts) (m_held := m_held) (m_seed := m_seed) (m_tentMany := m_tentMany) (m_tentFirst := m_tentFirst) (m_restMany := m_restMany) (m_restFirst := m_restFirst) (m_cards := m_cards) (C := C) FU 0 0 H locs ls hf w (lv_sub hl [2, 3, 4, 5, 1, 0] rfl)
-- X5_draught
def fX5_draught  (m_thrown : Int32) (m_acts : Int32) (m_page : Nat → Int32) (m_loads : Nat → Int32) (m_book : Nat → Int32) (a1 : Int32) (a2 : Int32) : Option (Int32 × Int32 × Int32 × (Nat → Int32) × (Nat → Int32) × (Nat → Int32)) := ob (fX5_in (Int32.toInt64 a1) 0 3) (fun r1 => (if r1 = 0 then some ((-1), (0, m_acts, m_page, m_loads, m_book)) else ob (fX5_in (Int32.toInt64 a2) 1 9) (fun r3 => (if r3 = 0 then some ((-2), (0, m_acts, m_page, m_loads, m_book)) else ob (fX5_note m_acts m_page m_book) (fun r5 => ob (fX5_goDraught m_page m_loads a1 a2) (fun r6 => some (r6.1, (0, r5.1, r6.2.1, r6.2.2, r5.2))))))))
set_option maxRecDepth 100000 in
set_option maxHeartbeats 4000000 in
theorem tX5_draught (l : Launch) (D : va_G) (cI cZ : ClassId) (b0 : Nat) (tt : Nat → Nat)  (m_a q_text q_cards q_readCards q_readPage q_page q_trial q_loads q_book q_kept q_isKept q_heldWho q_heldForce q_heldLoad q_heldIs q_gains q_value : Nat) (m_thrown : Int32) (m_textSize : Int32) (m_place : Int32) (m_acts : Int32) (m_held : Int32) (m_seed : Int64) (m_tentMany : Int32) (m_tentFirst : Int32) (m_restMany : Int32) (m_restFirst : Int32) (m_text : Nat → Int32) (m_cards : Nat → Int32) (m_readCards : Nat → Int32) (m_readPage : Nat → Int32) (m_page : Nat → Int32) (m_trial : Nat → Int32) (m_loads : Nat → Int32) (m_book : Nat → Int32) (m_kept : Nat → Int32) (m_isKept : Nat → Int32) (m_heldWho : Nat → Int32) (m_heldForce : Nat → Int32) (m_heldLoad : Nat → Int32) (m_heldIs : Nat → Int32) (m_gains : Nat → Int32) (m_value : Nat → Int32) (a1 : Int32) (a2 : Int32) {res : Int32 × Int32 × Int32 × (Nat → Int32) × (Nat → Int32) × (Nat → Int32)} (hf : fX5_draught m_thrown m_acts m_page m_loads m_book a1 a2 = some res) : CtI l yX5_draught (cwX5_draught :: GW) 7 156 D cI cZ b0 tt [.ref m_a, .int a1, .int a2] (fun u : Int32 × Int32 × (Nat → Int32) × (Nat → Int32) × (Nat → Int32) => [(m_a, .inr (5, [.int u.1, .ref q_text, .int m_textSize, .int m_place, .ref q_cards, .ref q_readCards, .ref q_readPage, .ref q_page, .ref q_trial, .ref q_loads, .ref q_book, .int u.2.1, .ref q_kept, .ref q_isKept, .int m_held, .ref q_heldWho, .ref q_heldForce, .ref q_heldLoad, .ref q_heldIs, .long m_seed, .int m_tentMany, .int m_tentFirst, .int m_restMany, .int m_restFirst, .ref q_gains, .ref q_value])), (q_text, .inl (cI, 56, .inl m_text)), (q_cards, .inl (cI, 4, .inl m_cards)), (q_readCards, .inl (cI, 4, .inl m_readCards)), (q_readPage, .inl (cI, 17, .inl m_readPage)), (q_page, .inl (cI, 17, .inl u.2.2.1)), (q_trial, .inl (cI, 17, .inl m_trial)), (q_loads, .inl (cI, 16, .inl u.2.2.2.1)), (q_book, .inl (cI, 238, .inl u.2.2.2.2)), (q_kept, .inl (cI, 34, .inl m_kept)), (q_isKept, .inl (cZ, 2, .inl m_isKept)), (q_heldWho, .inl (cI, 6, .inl m_heldWho)), (q_heldForce, .inl (cI, 6, .inl m_heldForce)), (q_heldLoad, .inl (cI, 6, .inl m_heldLoad)), (q_heldIs, .inl (cI, 6, .inl m_heldIs)), (q_gains, .inl (cI, 50, .inl m_gains)), (q_value, .inl (cI, 16, .inl m_value))]) (m_thrown, m_acts, m_page, m_loads, m_book) res := by
  intro sz
  refine k_begin (cc := cX5_draught) (maxL := 3) (ret := (some .int)) (by decide) rfl (Nat.le_of_ble_eq_true rfl) ?_
  intro p e s m below meth c ls C w hl
  generalize va_A _ sz = A at w ⊢
  have w : Wd D cI cZ b0 tt A s [(m_a, .inr (5, [.int m_thrown, .ref q_text, .int m_textSize, .int m_place, .ref q_cards, .ref q_readCards, .ref q_readPage, .ref q_page, .ref q_trial, .ref q_loads, .ref q_book, .int m_acts, .ref q_kept, .ref q_isKept, .int m_held, .ref q_heldWho, .ref q_heldForce, .ref q_heldLoad, .ref q_heldIs, .long m_seed, .int m_tentMany, .int m_tentFirst, .int m_restMany, .int m_restFirst, .ref q_gains, .ref q_value])), (q_text, .inl (cI, 56, .inl m_text)), (q_cards, .inl (cI, 4, .inl m_cards)), (q_readCards, .inl (cI, 4, .inl m_readCards)), (q_readPage, .inl (cI, 17, .inl m_readPage)), (q_page, .inl (cI, 17, .inl m_page)), (q_trial, .inl (cI, 17, .inl m_trial)), (q_loads, .inl (cI, 16, .inl m_loads)), (q_book, .inl (cI, 238, .inl m_book)), (q_kept, .inl (cI, 34, .inl m_kept)), (q_isKept, .inl (cZ, 2, .inl m_isKept)), (q_heldWho, .inl (cI, 6, .inl m_heldWho)), (q_heldForce, .inl (cI, 6, .inl m_heldForce)), (q_heldLoad, .inl (cI, 6, .inl m_heldLoad)), (q_heldIs, .inl (cI, 6, .inl m_heldIs)), (q_gains, .inl (cI, 50, .inl m_gains)), (q_value, .inl (cI, 16, .inl m_value))] s.heap [] := w
  have hl : lv_has ls 3 [(0, .ref m_a), (1, .int a1), (2, .int a2)] := hl
  obtain ⟨H, eH⟩ : ∃ H, H = s.heap := ⟨_, rfl⟩
  rw [← eH] at w ⊢
  generalize ([] : List Loc) = locs at w ⊢
  generalize List.toArray _ = args at C ⊢
  obtain ⟨hx, hb, hr, hml, hown, hts, hlk⟩ := id C
  have hg : ∀ w ∈ GW, w.before args s = true := fun w h => hts w (List.mem_cons_of_mem _ h)
  unfold fX5_draught at hf
  refine lv_aload_n hx hb dX5_draught_0 rfl (lv_at hl 0 rfl) ?_
  refine lv_iconst (v := 0) hx hb dX5_draught_1 (by decide) ?_
  refine k_put (ci := 5) (v := .int 0) (ty := .int) (C := RX5) (T := TX5) (N := 26) hx hb hg iX5 tyX5 tyX5_ok nmX5 hown w 0 rfl rfl 0 (by decide) (hg _ w_489) (fun _ h9 => h9) rfl pd_I rfl rfl (Nat.le_of_ble_eq_true rfl) dX5_draught_2 (fun H locs w => ?_)
  have w : Wd D cI cZ b0 tt A s [(m_a, .inr (5, [.int 0, .ref q_text, .int m_textSize, .int m_place, .ref q_cards, .ref q_readCards, .ref q_readPage, .ref q_page, .ref q_trial, .ref q_loads, .ref q_book, .int m_acts, .ref q_kept, .ref q_isKept, .int m_held, .ref q_heldWho, .ref q_heldForce, .ref q_heldLoad, .ref q_heldIs, .long m_seed, .int m_tentMany, .int m_tentFirst, .int m_restMany, .int m_restFirst, .ref q_gains, .ref q_value])), (q_text, .inl (cI, 56, .inl m_text)), (q_cards, .inl (cI, 4, .inl m_cards)), (q_readCards, .inl (cI, 4, .inl m_readCards)), (q_readPage, .inl (cI, 17, .inl m_readPage)), (q_page, .inl (cI, 17, .inl m_page)), (q_trial, .inl (cI, 17, .inl m_trial)), (q_loads, .inl (cI, 16, .inl m_loads)), (q_book, .inl (cI, 238, .inl m_book)), (q_kept, .inl (cI, 34, .inl m_kept)), (q_isKept, .inl (cZ, 2, .inl m_isKept)), (q_heldWho, .inl (cI, 6, .inl m_heldWho)), (q_heldForce, .inl (cI, 6, .inl m_heldForce)), (q_heldLoad, .inl (cI, 6, .inl m_heldLoad)), (q_heldIs, .inl (cI, 6, .inl m_heldIs)), (q_gains, .inl (cI, 50, .inl m_gains)), (q_value, .inl (cI, 16, .inl m_value))] H locs := w
  refine lv_iload_n hx hb dX5_draught_5 rfl (lv_at hl 1 rfl) ?_
  refine lv_i2l (v := (Int32.toInt64 a1)) hx hb dX5_draught_6 rfl ?_
  refine lv_lconst (v := 0) hx hb dX5_draught_7 (by decide) ?_
  refine lv_ldc2 hx hb hown (hg _ w_679) dX5_draught_8 ?_
  replace hf := ob_at hf
  obtain ⟨r1, er1, hf⟩ := hf
  refine k_goI0 w [] rfl (va_runS (As := [.long (Int32.toInt64 a1), .long 0, .long 3]) (rest := []) ⟨hx, hb, hml, hown, hg⟩ (tX5_in l D cI cZ b0 tt (Int32.toInt64 a1) 0 3 er1 H.size) (va_cwS 3 hg (gwS w_574 w_575 w_7 w_576) rfl rfl rfl qdX5_in ⟨Nat.le_of_ble_eq_true rfl, Nat.le_of_ble_eq_true rfl⟩) (k_preS w [] (by decide) rfl) rfl rfl hl.1 rfl (lv_room (Nat.le_of_ble_eq_true rfl)) dX5_draught_11 ⟨Nat.le_refl _, Nat.le_refl _⟩) (fun H locs w => ?_)
  refine lv_if_ne (tgt := 19) hx hb dX5_draught_14 (by decide) (fun c2 => ?_) (fun c2 => ?_)
  · replace hf := ite_f c2 hf
    refine lv_iload_n hx hb dX5_draught_19 rfl (lv_at hl 2 rfl) ?_
    refine lv_i2l (v := (Int32.toInt64 a2)) hx hb dX5_draught_20 rfl ?_
    refine lv_lconst (v := 1) hx hb dX5_draught_21 (by decide) ?_
    refine lv_ldc2 hx hb hown (hg _ w_709) dX5_draught_22 ?_
    replace hf := ob_at hf
    obtain ⟨r3, er3, hf⟩ := hf
    refine k_goI0 w [] rfl (va_runS (As := [.long (Int32.toInt64 a2), .long 1, .long 9]) (rest := []) ⟨hx, hb, hml, hown, hg⟩ (tX5_in l D cI cZ b0 tt (Int32.toInt64 a2) 1 9 er3 H.size) (va_cwS 3 hg (gwS w_574 w_575 w_7 w_576) rfl rfl rfl qdX5_in ⟨Nat.le_of_ble_eq_true rfl, Nat.le_of_ble_eq_true rfl⟩) (k_preS w [] (by decide) rfl) rfl rfl hl.1 rfl (lv_room (Nat.le_of_ble_eq_true rfl)) dX5_draught_25 ⟨Nat.le_refl _, Nat.le_refl _⟩) (fun H locs w => ?_)
    refine lv_if_ne (tgt := 34) hx hb dX5_draught_28 (by decide) (fun c4 => ?_) (fun c4 => ?_)
    · replace hf := ite_f c4 hf
      refine lv_aload_n hx hb dX5_draught_34 rfl (lv_at hl 0 rfl) ?_
      replace hf := ob_at hf
      obtain ⟨r5, er5, hf⟩ := hf
      refine k_goV (v0 := (m_acts, m_book)) (res := r5) w [0, 1, 2, 3, 4, 5, 6, 7, 8, 9, 10, 11, 12, 13, 14, 15, 16] rfl (fun _ => rfl) (va_runV (As := []) (rest := []) ⟨hx, hb, hml, hown, hg⟩ (tX5_note l D cI cZ b0 tt m_a q_text q_cards q_readCards q_readPage q_page q_trial q_loads q_book q_kept q_isKept q_heldWho q_heldForce q_heldLoad q_heldIs q_gains q_value 0 m_textSize m_place m_acts m_held m_seed m_tentMany m_tentFirst m_restMany m_restFirst m_text m_cards m_readCards m_readPage m_page m_trial m_loads m_book m_kept m_isKept m_heldWho m_heldForce m_heldLoad m_heldIs m_gains m_value er5 H.size) (cwV 0 hg (gwV w_695 w_696 w_856 w_7 w_697) rfl rfl rfl ⟨rfl, qdX5_note⟩ ⟨Nat.le_of_ble_eq_true rfl, Nat.le_of_ble_eq_true rfl⟩) (k_preV w [0, 1, 2, 3, 4, 5, 6, 7, 8, 9, 10, 11, 12, 13, 14, 15, 16] (by decide) rfl (q0 := 0) rfl rfl) rfl rfl hl.1 rfl (lv_room (Nat.le_of_ble_eq_true rfl)) dX5_draught_35 ⟨Nat.le_refl _, Nat.le_refl _⟩) (fun H locs w => ?_)
      have w : Wd D cI cZ b0 tt A s [(m_a, .inr (5, [.int 0, .ref q_text, .int m_textSize, .int m_place, .ref q_cards, .ref q_readCards, .ref q_readPage, .ref q_page, .ref q_trial, .ref q_loads, .ref q_book, .int r5.1, .ref q_kept, .ref q_isKept, .int m_held, .ref q_heldWho, .ref q_heldForce, .ref q_heldLoad, .ref q_heldIs, .long m_seed, .int m_tentMany, .int m_tentFirst, .int m_restMany, .int m_restFirst, .ref q_gains, .ref q_value])), (q_text, .inl (cI, 56, .inl m_text)), (q_cards, .inl (cI, 4, .inl m_cards)), (q_readCards, .inl (cI, 4, .inl m_readCards)), (q_readPage, .inl (cI, 17, .inl m_readPage)), (q_page, .inl (cI, 17, .inl m_page)), (q_trial, .inl (cI, 17, .inl m_trial)), (q_loads, .inl (cI, 16, .inl m_loads)), (q_book, .inl (cI, 238, .inl r5.2)), (q_kept, .inl (cI, 34, .inl m_kept)), (q_isKept, .inl (cZ, 2, .inl m_isKept)), (q_heldWho, .inl (cI, 6, .inl m_heldWho)), (q_heldForce, .inl (cI, 6, .inl m_heldForce)), (q_heldLoad, .inl (cI, 6, .inl m_heldLoad)), (q_heldIs, .inl (cI, 6, .inl m_heldIs)), (q_gains, .inl (cI, 50, .inl m_gains)), (q_value, .inl (cI, 16, .inl m_value))] H locs := w
      refine lv_aload_n hx hb dX5_draught_38 rfl (lv_at hl 0 rfl) ?_
      refine lv_aload_n hx hb dX5_draught_39 rfl (lv_at hl 0 rfl) ?_
      refine va_get (D := D) (ci := 5) (v := .ref q_page) (C := RX5) (T := TX5) (N := 26) hx hb hg iX5 hown w.2.2.2.2.2.2.1 w.1 0 rfl rfl 7 (by decide) (hg _ w_496) (fun _ h9 => h9) rfl dX5_draught_40 ?_
      refine lv_iload_n hx hb dX5_draught_43 rfl (lv_at hl 1 rfl) ?_
      refine lv_iload_n hx hb dX5_draught_44 rfl (lv_at hl 2 rfl) ?_
      replace hf := ob_at hf
      obtain ⟨r6, er6, hf⟩ := hf
      refine k_goI (v0 := (m_page, m_loads)) (res := r6) w [0, 5, 7, 2] rfl (fun _ => rfl) (va_runV (As := [.ref q_page, .int a1, .int a2]) (rest := []) ⟨hx, hb, hml, hown, hg⟩ (tX5_goDraught l D cI cZ b0 tt m_a q_text q_cards q_readCards q_readPage q_page q_trial q_loads q_book q_kept q_isKept q_heldWho q_heldForce q_heldLoad q_heldIs q_gains q_value q_page 0 m_textSize m_place r5.1 m_held m_seed m_tentMany m_tentFirst m_restMany m_restFirst m_page m_loads m_cards a1 a2 er6 H.size) (cwV 3 hg (gwV w_710 w_711 w_858 w_7 w_712) rfl rfl rfl ⟨rfl, qdX5_goDraught⟩ ⟨Nat.le_of_ble_eq_true rfl, Nat.le_of_ble_eq_true rfl⟩) (k_preV w [0, 5, 7, 2] (by decide) rfl (q0 := 0) rfl rfl) rfl rfl hl.1 rfl (lv_room (Nat.le_of_ble_eq_true rfl)) dX5_draught_45 ⟨Nat.le_refl _, Nat.le_refl _⟩) (fun H locs w => ?_)
      have w : Wd D cI cZ b0 tt A s [(m_a, .inr (5, [.int 0, .ref q_text, .int m_textSize, .int m_place, .ref q_cards, .ref q_readCards, .ref q_readPage, .ref q_page, .ref q_trial, .ref q_loads, .ref q_book, .int r5.1, .ref q_kept, .ref q_isKept, .int m_held, .ref q_heldWho, .ref q_heldForce, .ref q_heldLoad, .ref q_heldIs, .long m_seed, .int m_tentMany, .int m_tentFirst, .int m_restMany, .int m_restFirst, .ref q_gains, .ref q_value])), (q_text, .inl (cI, 56, .inl m_text)), (q_cards, .inl (cI, 4, .inl m_cards)), (q_readCards, .inl (cI, 4, .inl m_readCards)), (q_readPage, .inl (cI, 17, .inl m_readPage)), (q_page, .inl (cI, 17, .inl r6.2.1)), (q_trial, .inl (cI, 17, .inl m_trial)), (q_loads, .inl (cI, 16, .inl r6.2.2)), (q_book, .inl (cI, 238, .inl r5.2)), (q_kept, .inl (cI, 34, .inl m_kept)), (q_isKept, .inl (cZ, 2, .inl m_isKept)), (q_heldWho, .inl (cI, 6, .inl m_heldWho)), (q_heldForce, .inl (cI, 6, .inl m_heldForce)), (q_heldLoad, .inl (cI, 6, .inl m_heldLoad)), (q_heldIs, .inl (cI, 6, .inl m_heldIs)), (q_gains, .inl (cI, 50, .inl m_gains)), (q_value, .inl (cI, 16, .inl m_value))] H locs := w
      exact k_iret (u := (0, r5.1, r6.2.1, r6.2.2, r5.2)) hx hb hr hlk w rfl hf dX5_draught_48
    · replace hf := ite_t c4 hf
      refine lv_bipush (v := (-2)) hx hb dX5_draught_31 (by decide) ?_
      exact k_iret (u := (0, m_acts, m_page, m_loads, m_book)) hx hb hr hlk w rfl hf dX5_draught_33
  · replace hf := ite_t c2 hf
    refine lv_iconst (v := (-1)) hx hb dX5_draught_17 (by decide) ?_
    exact k_iret (u := (0, m_acts, m_page, m_loads, m_book)) hx hb hr hlk w rfl hf dX5_draught_18
-- X5_undo
def fX5_undo_L27   (m_thrown : Int32) (m_acts : Int32) (m_book : Nat → Int32) : Nat → Int32 → (Nat → Int32) → Option (Int32 × Int32 × Int32 × (Nat → Int32))
  | 0, _, _ => none
  | n + 1, v1, m_page => (if 17 ≤ v1 then some (m_acts, (m_thrown, m_acts, m_page)) else gd (((17 : Int32) * m_acts) + v1) 238 (nm (m_book (Int32.toNatClampNeg (((17 : Int32) * m_acts) + v1))) (fun z3 => gd v1 17 (nm (v1 + 1) (fun z5 => fX5_undo_L27 m_thrown m_acts m_book n z5 (upd m_page (Int32.toNatClampNeg v1) z3))))))
set_option maxRecDepth 100000 in
set_option maxHeartbeats 4000000 in
theorem tX5_undo_L27 {p : Program} {l : Launch} {e : Env} {s : State} {m : MethodId} {args : Array Value} {below : List Frame} {meth : Method} {c : Code} {D : va_G} {cI cZ : ClassId} {b0 : Nat} {tt : Nat → Nat} {A : Nat → Prop}  {m_a q_text q_cards q_readCards q_readPage q_page q_trial q_loads q_book q_kept q_isKept q_heldWho q_heldForce q_heldLoad q_heldIs q_gains q_value : Nat}  {m_thrown : Int32} {m_acts : Int32} {m_book : Nat → Int32} {m_textSize : Int32} {m_place : Int32} {m_held : Int32} {m_seed : Int64} {m_tentMany : Int32} {m_tentFirst : Int32} {m_restMany : Int32} {m_restFirst : Int32} {m_text : Nat → Int32} {m_cards : Nat → Int32} {m_readCards : Nat → Int32} {m_readPage : Nat → Int32} {m_trial : Nat → Int32} {m_loads : Nat → Int32} {m_kept : Nat → Int32} {m_isKept : Nat → Int32} {m_heldWho : Nat → Int32} {m_heldForce : Nat → Int32} {m_heldLoad : Nat → Int32} {m_heldIs : Nat → Int32} {m_gains : Nat → Int32} {m_value : Nat → Int32} {res : Int32 × Int32 × Int32 × (Nat → Int32)} (C : Cx p s m args meth c cX5_undo 2 (some .int) (cwX5_undo :: GW) RX5) : ∀ (n : Nat) (v1 : Int32) (m_page : Nat → Int32) (H : Heap) (locs : List Loc) (ls : Array Slot), fX5_undo_L27 m_thrown m_acts m_book n v1 m_page = some res → Wd D cI cZ b0 tt A s [(m_a, .inr (5, [.int m_thrown, .ref q_text, .int m_textSize, .int m_place, .ref q_cards, .ref q_readCards, .ref q_readPage, .ref q_page, .ref q_trial, .ref q_loads, .ref q_book, .int m_acts, .ref q_kept, .ref q_isKept, .int m_held, .ref q_heldWho, .ref q_heldForce, .ref q_heldLoad, .ref q_heldIs, .long m_seed, .int m_tentMany, .int m_tentFirst, .int m_restMany, .int m_restFirst, .ref q_gains, .ref q_value])), (q_text, .inl (cI, 56, .inl m_text)), (q_cards, .inl (cI, 4, .inl m_cards)), (q_readCards, .inl (cI, 4, .inl m_readCards)), (q_readPage, .inl (cI, 17, .inl m_readPage)), (q_page, .inl (cI, 17, .inl m_page)), (q_trial, .inl (cI, 17, .inl m_trial)), (q_loads, .inl (cI, 16, .inl m_loads)), (q_book, .inl (cI, 238, .inl m_book)), (q_kept, .inl (cI, 34, .inl m_kept)), (q_isKept, .inl (cZ, 2, .inl m_isKept)), (q_heldWho, .inl (cI, 6, .inl m_heldWho)), (q_heldForce, .inl (cI, 6, .inl m_heldForce)), (q_heldLoad, .inl (cI, 6, .inl m_heldLoad)), (q_heldIs, .inl (cI, 6, .inl m_heldIs)), (q_gains, .inl (cI, 50, .inl m_gains)), (q_value, .inl (cI, 16, .inl m_value))] H locs → lv_has ls 2 [(0, .ref m_a), (1, .int v1)] → W p l e (rmo 0 0) s m args below meth c H locs 0 0 (MQ below (QI D (fun u : Int32 × Int32 × (Nat → Int32) => [(m_a, .inr (5, [.int u.1, .ref q_text, .int m_textSize, .int m_place, .ref q_cards, .ref q_readCards, .ref q_readPage, .ref q_page, .ref q_trial, .ref q_loads, .ref q_book, .int u.2.1, .ref q_kept, .ref q_isKept, .int m_held, .ref q_heldWho, .ref q_heldForce, .ref q_heldLoad, .ref q_heldIs, .long m_seed, .int m_tentMany, .int m_tentFirst, .int m_restMany, .int m_restFirst, .ref q_gains, .ref q_value])), (q_text, .inl (cI, 56, .inl m_text)), (q_cards, .inl (cI, 4, .inl m_cards)), (q_readCards, .inl (cI, 4, .inl m_readCards)), (q_readPage, .inl (cI, 17, .inl m_readPage)), (q_page, .inl (cI, 17, .inl u.2.2)), (q_trial, .inl (cI, 17, .inl m_trial)), (q_loads, .inl (cI, 16, .inl m_loads)), (q_book, .inl (cI, 238, .inl m_book)), (q_kept, .inl (cI, 34, .inl m_kept)), (q_isKept, .inl (cZ, 2, .inl m_isKept)), (q_heldWho, .inl (cI, 6, .inl m_heldWho)), (q_heldForce, .inl (cI, 6, .inl m_heldForce)), (q_heldLoad, .inl (cI, 6, .inl m_heldLoad)), (q_heldIs, .inl (cI, 6, .inl m_heldIs)), (q_gains, .inl (cI, 50, .inl m_gains)), (q_value, .inl (cI, 16, .inl m_value))]) A res) args s 0 0 A) (F0 m 27 ls []) := by
  obtain ⟨hx, hb, hr, hml, hown, hts, hlk⟩ := id C
  have hg : ∀ w ∈ GW, w.before args s = true := fun w h => hts w (List.mem_cons_of_mem _ h)
  intro n
  induction n with
  | zero =>
    intro _ _ H locs ls hf
    rw [fX5_undo_L27] at hf
    cases hf
  | succ n ih =>
    intro v1 m_page H locs ls hf w hl
    rw [fX5_undo_L27] at hf
    refine lv_iload_n hx hb dX5_undo_27 rfl (lv_at hl 1 rfl) ?_
    refine lv_bipush (v := 17) hx hb dX5_undo_28 (by decide) ?_
    refine lv_icmp_ge (tgt := 59) hx hb dX5_undo_30 (by decide) (fun c1 => ?_) (fun c1 => ?_)
    · replace hf := ite_t c1 hf
      refine lv_aload_n hx hb dX5_undo_59 rfl (lv_at hl 0 rfl) ?_
      refine va_get (D := D) (ci := 5) (v := .int m_acts) (C := RX5) (T := TX5) (N := 26) hx hb hg iX5 hown w.2.2.2.2.2.2.1 w.1 0 rfl rfl 11 (by decide) (hg _ w_500) (fun _ h9 => h9) rfl dX5_undo_60 ?_
      exact k_iret (u := (m_thrown, m_acts, m_page)) hx hb hr hlk w rfl hf dX5_undo_63
    · replace hf := ite_f c1 hf
      refine lv_aload_n hx hb dX5_undo_33 rfl (lv_at hl 0 rfl) ?_
      refine va_get (D := D) (ci := 5) (v := .ref q_page) (C := RX5) (T := TX5) (N := 26) hx hb hg iX5 hown w.2.2.2.2.2.2.1 w.1 0 rfl rfl 7 (by decide) (hg _ w_496) (fun _ h9 => h9) rfl dX5_undo_34 ?_
      refine lv_iload_n hx hb dX5_undo_37 rfl (lv_at hl 1 rfl) ?_
      refine lv_aload_n hx hb dX5_undo_38 rfl (lv_at hl 0 rfl) ?_
      refine va_get (D := D) (ci := 5) (v := .ref q_book) (C := RX5) (T := TX5) (N := 26) hx hb hg iX5 hown w.2.2.2.2.2.2.1 w.1 0 rfl rfl 10 (by decide) (hg _ w_499) (fun _ h9 => h9) rfl dX5_undo_39 ?_
      refine lv_bipush (v := 17) hx hb dX5_undo_42 (by decide) ?_
      refine lv_aload_n hx hb dX5_undo_44 rfl (lv_at hl 0 rfl) ?_
      refine va_get (D := D) (ci := 5) (v := .int m_acts) (C := RX5) (T := TX5) (N := 26) hx hb hg iX5 hown w.2.2.2.2.2.2.1 w.1 0 rfl rfl 11 (by decide) (hg _ w_500) (fun _ h9 => h9) rfl dX5_undo_45 ?_
      refine lv_imul hx hb dX5_undo_48 ?_
      refine lv_iload_n hx hb dX5_undo_49 rfl (lv_at hl 1 rfl) ?_
      refine lv_iadd hx hb dX5_undo_50 ?_
      replace hf := gd_at hf
      obtain ⟨hi2, hf⟩ := hf
      refine va_iald hx hb w.2.2.2.2.2.2.1 w.1 8 0 rfl rfl hi2 dX5_undo_51 ?_
      refine lv_topi (fun z3 ez3 => ?_)
      replace hf := nm_at ez3 hf
      replace hf := gd_at hf
      obtain ⟨hi4, hf⟩ := hf
      refine k_iast hx hb w 5 rfl hi4 dX5_undo_52 (fun H locs w => ?_)
      have w : Wd D cI cZ b0 tt A s [(m_a, .inr (5, [.int m_thrown, .ref q_text, .int m_textSize, .int m_place, .ref q_cards, .ref q_readCards, .ref q_readPage, .ref q_page, .ref q_trial, .ref q_loads, .ref q_book, .int m_acts, .ref q_kept, .ref q_isKept, .int m_held, .ref q_heldWho, .ref q_heldForce, .ref q_heldLoad, .ref q_heldIs, .long m_seed, .int m_tentMany, .int m_tentFirst, .int m_restMany, .int m_restFirst, .ref q_gains, .ref q_value])), (q_text, .inl (cI, 56, .inl m_text)), (q_cards, .inl (cI, 4, .inl m_cards)), (q_readCards, .inl (cI, 4, .inl m_readCards)), (q_readPage, .inl (cI, 17, .inl m_readPage)), (q_page, .inl (cI, 17, .inl (upd m_page (Int32.toNatClampNeg v1) z3))), (q_trial, .inl (cI, 17, .inl m_trial)), (q_loads, .inl (cI, 16, .inl m_loads)), (q_book, .inl (cI, 238, .inl m_book)), (q_kept, .inl (cI, 34, .inl m_kept)), (q_isKept, .inl (cZ, 2, .inl m_isKept)), (q_heldWho, .inl (cI, 6, .inl m_heldWho)), (q_heldForce, .inl (cI, 6, .inl m_heldForce)), (q_heldLoad, .inl (cI, 6, .inl m_heldLoad)), (q_heldIs, .inl (cI, 6, .inl m_heldIs)), (q_gains, .inl (cI, 50, .inl m_gains)), (q_value, .inl (cI, 16, .inl m_value))] H locs := w
      obtain ⟨z5, ez5⟩ : ∃ y : Int32, y = (v1 + 1) := ⟨_, rfl⟩
      replace hf := nm_at ez5 hf
      refine lv_iinc (v := z5) (lv' := [(1, .int z5), (0, .ref m_a)]) hx hb dX5_undo_53 hl (k := 1) rfl (by rw [ez5]; rfl) (by decide) rfl (fun ls hl => ?_)
      refine lv_goto (tgt := 27) hx hb dX5_undo_56 (by decide) ?_
      exact ih z5 (upd m_page (Int32.toNatClampNeg v1) z3) H locs ls hf w (lv_sub hl [1, 0] rfl)
def fX5_undo  (m_thrown : Int32) (m_acts : Int32) (m_page : Nat → Int32) (m_book : Nat → Int32) : Option (Int32 × Int32 × Int32 × (Nat → Int32)) := (if m_acts = 0 then some ((-3), (0, m_acts, m_page)) else nm (m_acts - (1 : Int32)) (fun z7 => fX5_undo_L27 0 z7 m_book FU 0 m_page))
set_option maxRecDepth 100000 in
set_option maxHeartbeats 4000000 in
theorem tX5_undo (l : Launch) (D : va_G) (cI cZ : ClassId) (b0 : Nat) (tt : Nat → Nat)  (m_a q_text q_cards q_readCards q_readPage q_page q_trial q_loads q_book q_kept q_isKept q_heldWho q_heldForce q_heldLoad q_heldIs q_gains q_value : Nat) (m_thrown : Int32) (m_textSize : Int32) (m_place : Int32) (m_acts : Int32) (m_held : Int32) (m_seed : Int64) (m_tentMany : Int32) (m_tentFirst : Int32) (m_restMany : Int32) (m_restFirst : Int32) (m_text : Nat → Int32) (m_cards : Nat → Int32) (m_readCards : Nat → Int32) (m_readPage : Nat → Int32) (m_page : Nat → Int32) (m_trial : Nat → Int32) (m_loads : Nat → Int32) (m_book : Nat → Int32) (m_kept : Nat → Int32) (m_isKept : Nat → Int32) (m_heldWho : Nat → Int32) (m_heldForce : Nat → Int32) (m_heldLoad : Nat → Int32) (m_heldIs : Nat → Int32) (m_gains : Nat → Int32) (m_value : Nat → Int32)  {res : Int32 × Int32 × Int32 × (Nat → Int32)} (hf : fX5_undo m_thrown m_acts m_page m_book = some res) : CtI l yX5_undo (cwX5_undo :: GW) 0 0 D cI cZ b0 tt [.ref m_a] (fun u : Int32 × Int32 × (Nat → Int32) => [(m_a, .inr (5, [.int u.1, .ref q_text, .int m_textSize, .int m_place, .ref q_cards, .ref q_readCards, .ref q_readPage, .ref q_page, .ref q_trial, .ref q_loads, .ref q_book, .int u.2.1, .ref q_kept, .ref q_isKept, .int m_held, .ref q_heldWho, .ref q_heldForce, .ref q_heldLoad, .ref q_heldIs, .long m_seed, .int m_tentMany, .int m_tentFirst, .int m_restMany, .int m_restFirst, .ref q_gains, .ref q_value])), (q_text, .inl (cI, 56, .inl m_text)), (q_cards, .inl (cI, 4, .inl m_cards)), (q_readCards, .inl (cI, 4, .inl m_readCards)), (q_readPage, .inl (cI, 17, .inl m_readPage)), (q_page, .inl (cI, 17, .inl u.2.2)), (q_trial, .inl (cI, 17, .inl m_trial)), (q_loads, .inl (cI, 16, .inl m_loads)), (q_book, .inl (cI, 238, .inl m_book)), (q_kept, .inl (cI, 34, .inl m_kept)), (q_isKept, .inl (cZ, 2, .inl m_isKept)), (q_heldWho, .inl (cI, 6, .inl m_heldWho)), (q_heldForce, .inl (cI, 6, .inl m_heldForce)), (q_heldLoad, .inl (cI, 6, .inl m_heldLoad)), (q_heldIs, .inl (cI, 6, .inl m_heldIs)), (q_gains, .inl (cI, 50, .inl m_gains)), (q_value, .inl (cI, 16, .inl m_value))]) (m_thrown, m_acts, m_page) res := by
  intro sz
  refine k_begin (cc := cX5_undo) (maxL := 2) (ret := (some .int)) (by decide) rfl (Nat.le_of_ble_eq_true rfl) ?_
  intro p e s m below meth c ls C w hl
  generalize va_A _ sz = A at w ⊢
  have w : Wd D cI cZ b0 tt A s [(m_a, .inr (5, [.int m_thrown, .ref q_text, .int m_textSize, .int m_place, .ref q_cards, .ref q_readCards, .ref q_readPage, .ref q_page, .ref q_trial, .ref q_loads, .ref q_book, .int m_acts, .ref q_kept, .ref q_isKept, .int m_held, .ref q_heldWho, .ref q_heldForce, .ref q_heldLoad, .ref q_heldIs, .long m_seed, .int m_tentMany, .int m_tentFirst, .int m_restMany, .int m_restFirst, .ref q_gains, .ref q_value])), (q_text, .inl (cI, 56, .inl m_text)), (q_cards, .inl (cI, 4, .inl m_cards)), (q_readCards, .inl (cI, 4, .inl m_readCards)), (q_readPage, .inl (cI, 17, .inl m_readPage)), (q_page, .inl (cI, 17, .inl m_page)), (q_trial, .inl (cI, 17, .inl m_trial)), (q_loads, .inl (cI, 16, .inl m_loads)), (q_book, .inl (cI, 238, .inl m_book)), (q_kept, .inl (cI, 34, .inl m_kept)), (q_isKept, .inl (cZ, 2, .inl m_isKept)), (q_heldWho, .inl (cI, 6, .inl m_heldWho)), (q_heldForce, .inl (cI, 6, .inl m_heldForce)), (q_heldLoad, .inl (cI, 6, .inl m_heldLoad)), (q_heldIs, .inl (cI, 6, .inl m_heldIs)), (q_gains, .inl (cI, 50, .inl m_gains)), (q_value, .inl (cI, 16, .inl m_value))] s.heap [] := w
  have hl : lv_has ls 2 [(0, .ref m_a)] := hl
  obtain ⟨H, eH⟩ : ∃ H, H = s.heap := ⟨_, rfl⟩
  rw [← eH] at w ⊢
  generalize ([] : List Loc) = locs at w ⊢
  generalize List.toArray _ = args at C ⊢
  obtain ⟨hx, hb, hr, hml, hown, hts, hlk⟩ := id C
  have hg : ∀ w ∈ GW, w.before args s = true := fun w h => hts w (List.mem_cons_of_mem _ h)
  unfold fX5_undo at hf
  refine lv_aload_n hx hb dX5_undo_0 rfl (lv_at hl 0 rfl) ?_
  refine lv_iconst (v := 0) hx hb dX5_undo_1 (by decide) ?_
  refine k_put (ci := 5) (v := .int 0) (ty := .int) (C := RX5) (T := TX5) (N := 26) hx hb hg iX5 tyX5 tyX5_ok nmX5 hown w 0 rfl rfl 0 (by decide) (hg _ w_489) (fun _ h9 => h9) rfl pd_I rfl rfl (Nat.le_of_ble_eq_true rfl) dX5_undo_2 (fun H locs w => ?_)
  have w : Wd D cI cZ b0 tt A s [(m_a, .inr (5, [.int 0, .ref q_text, .int m_textSize, .int m_place, .ref q_cards, .ref q_readCards, .ref q_readPage, .ref q_page, .ref q_trial, .ref q_loads, .ref q_book, .int m_acts, .ref q_kept, .ref q_isKept, .int m_held, .ref q_heldWho, .ref q_heldForce, .ref q_heldLoad, .ref q_heldIs, .long m_seed, .int m_tentMany, .int m_tentFirst, .int m_restMany, .int m_restFirst, .ref q_gains, .ref q_value])), (q_text, .inl (cI, 56, .inl m_text)), (q_cards, .inl (cI, 4, .inl m_cards)), (q_readCards, .inl (cI, 4, .inl m_readCards)), (q_readPage, .inl (cI, 17, .inl m_readPage)), (q_page, .inl (cI, 17, .inl m_page)), (q_trial, .inl (cI, 17, .inl m_trial)), (q_loads, .inl (cI, 16, .inl m_loads)), (q_book, .inl (cI, 238, .inl m_book)), (q_kept, .inl (cI, 34, .inl m_kept)), (q_isKept, .inl (cZ, 2, .inl m_isKept)), (q_heldWho, .inl (cI, 6, .inl m_heldWho)), (q_heldForce, .inl (cI, 6, .inl m_heldForce)), (q_heldLoad, .inl (cI, 6, .inl m_heldLoad)), (q_heldIs, .inl (cI, 6, .inl m_heldIs)), (q_gains, .inl (cI, 50, .inl m_gains)), (q_value, .inl (cI, 16, .inl m_value))] H locs := w
  refine lv_aload_n hx hb dX5_undo_5 rfl (lv_at hl 0 rfl) ?_
  refine va_get (D := D) (ci := 5) (v := .int m_acts) (C := RX5) (T := TX5) (N := 26) hx hb hg iX5 hown w.2.2.2.2.2.2.1 w.1 0 rfl rfl 11 (by decide) (hg _ w_500) (fun _ h9 => h9) rfl dX5_undo_6 ?_
  refine lv_if_ne (tgt := 15) hx hb dX5_undo_9 (by decide) (fun c6 => ?_) (fun c6 => ?_)
  · replace hf := ite_f c6 hf
    refine lv_aload_n hx hb dX5_undo_15 rfl (lv_at hl 0 rfl) ?_
    refine lv_dup hx hb dX5_undo_16 rfl ?_
    refine va_get (D := D) (ci := 5) (v := .int m_acts) (C := RX5) (T := TX5) (N := 26) hx hb hg iX5 hown w.2.2.2.2.2.2.1 w.1 0 rfl rfl 11 (by decide) (hg _ w_500) (fun _ h9 => h9) rfl dX5_undo_17 ?_
    refine lv_iconst (v := 1) hx hb dX5_undo_20 (by decide) ?_
    refine lv_isub hx hb dX5_undo_21 ?_
    refine lv_topi (fun z7 ez7 => ?_)
    replace hf := nm_at ez7 hf
    refine k_put (ci := 5) (v := .int z7) (ty := .int) (C := RX5) (T := TX5) (N := 26) hx hb hg iX5 tyX5 tyX5_ok nmX5 hown w 0 rfl rfl 11 (by decide) (hg _ w_500) (fun _ h9 => h9) rfl pd_I rfl rfl (Nat.le_of_ble_eq_true rfl) dX5_undo_22 (fun H locs w => ?_)
    have w : Wd D cI cZ b0 tt A s [(m_a, .inr (5, [.int 0, .ref q_text, .int m_textSize, .int m_place, .ref q_cards, .ref q_readCards, .ref q_readPage, .ref q_page, .ref q_trial, .ref q_loads, .ref q_book, .int z7, .ref q_kept, .ref q_isKept, .int m_held, .ref q_heldWho, .ref q_heldForce, .ref q_heldLoad, .ref q_heldIs, .long m_seed, .int m_tentMany, .int m_tentFirst, .int m_restMany, .int m_restFirst, .ref q_gains, .ref q_value])), (q_text, .inl (cI, 56, .inl m_text)), (q_cards, .inl (cI, 4, .inl m_cards)), (q_readCards, .inl (cI, 4, .inl m_readCards)), (q_readPage, .inl (cI, 17, .inl m_readPage)), (q_page, .inl (cI, 17, .inl m_page)), (q_trial, .inl (cI, 17, .inl m_trial)), (q_loads, .inl (cI, 16, .inl m_loads)), (q_book, .inl (cI, 238, .inl m_book)), (q_kept, .inl (cI, 34, .inl m_kept)), (q_isKept, .inl (cZ, 2, .inl m_isKept)), (q_heldWho, .inl (cI, 6, .inl m_heldWho)), (q_heldForce, .inl (cI, 6, .inl m_heldForce)), (q_heldLoad, .inl (cI, 6, .inl m_heldLoad)), (q_heldIs, .inl (cI, 6, .inl m_heldIs)), (q_gains, .inl (cI, 50, .inl m_gains)), (q_value, .inl (cI, 16, .inl m_value))] H locs := w
    refine lv_iconst (v := 0) hx hb dX5_undo_25 (by decide) ?_
    refine lv_istore_n (lv' := [(1, .int 0), (0, .ref m_a)]) hx hb dX5_undo_26 rfl hl (by decide) rfl (fun ls hl => ?_)
    exact tX5_undo_L27 (m_thrown := 0) (m_acts := z7) (m_book := m_book) (m_textSize := m_textSize) (m_place := m_place) (m_held := m_held) (m_seed := m_seed) (m_tentMany := m_tentMany) (m_tentFirst := m_tentFirst) (m_restMany := m_restMany) (m_restFirst := m_restFirst) (m_text := m_text) (m_cards := m_cards) (m_readCards := m_readCards) (m_readPage := m_readPage) (m_trial := m_trial) (m_loads := m_loads) (m_kept := m_kept) (m_isKept := m_isKept) (m_heldWho := m_heldWho) (m_heldForce := m_heldForce) (m_heldLoad := m_heldLoad) (m_heldIs := m_heldIs) (m_gains := m_gains) (m_value := m_value) (C := C) FU 0 m_page H locs ls hf w (lv_sub hl [1, 0] rfl)
  · replace hf := ite_t c6 hf
    refine lv_bipush (v := (-3)) hx hb dX5_undo_12 (by decide) ?_
    exact k_iret (u := (0, m_acts, m_page)) hx hb hr hlk w rfl hf dX5_undo_14
-- X5_open
def fX5_open_L18   (v1 : Int32) (m_thrown : Int32) (m_cards : Nat → Int32) (m_page : Nat → Int32) : Nat → Int32 → Int32 → Option (Int32 × Int32)
  | 0, _, _ => none
  | n + 1, v2, v3 => (if 16 ≤ v3 then some (v2, m_thrown) else ob (fX5_canPut m_page m_cards v3 v1) (fun r2 => (if r2 = 0 then nm (v2 ||| (0 : Int32)) (fun z4 => nm (v3 + 1) (fun z5 => fX5_open_L18 v1 m_thrown m_cards m_page n z4 z5)) else nm (v2 ||| ((1 : Int32) <<< (v3 &&& 31))) (fun z6 => nm (v3 + 1) (fun z7 => fX5_open_L18 v1 m_thrown m_cards m_page n z6 z7)))))
set_option maxRecDepth 100000 in
set_option maxHeartbeats 4000000 in
theorem tX5_open_L18 {p : Program} {l : Launch} {e : Env} {s : State} {m : MethodId} {args : Array Value} {below : List Frame} {meth : Method} {c : Code} {D : va_G} {cI cZ : ClassId} {b0 : Nat} {tt : Nat → Nat} {A : Nat → Prop}  {m_a q_text q_cards q_readCards q_readPage q_page q_trial q_loads q_book q_kept q_isKept q_heldWho q_heldForce q_heldLoad q_heldIs q_gains q_value : Nat}  {v1 : Int32} {m_thrown : Int32} {m_cards : Nat → Int32} {m_page : Nat → Int32} {m_textSize : Int32} {m_place : Int32} {m_acts : Int32} {m_held : Int32} {m_seed : Int64} {m_tentMany : Int32} {m_tentFirst : Int32} {m_restMany : Int32} {m_restFirst : Int32} {m_text : Nat → Int32} {m_readCards : Nat → Int32} {m_readPage : Nat → Int32} {m_trial : Nat → Int32} {m_loads : Nat → Int32} {m_book : Nat → Int32} {m_kept : Nat → Int32} {m_isKept : Nat → Int32} {m_heldWho : Nat → Int32} {m_heldForce : Nat → Int32} {m_heldLoad : Nat → Int32} {m_heldIs : Nat → Int32} {m_gains : Nat → Int32} {m_value : Nat → Int32} {res : Int32 × Int32} (C : Cx p s m args meth c cX5_open 4 (some .int) (cwX5_open :: GW) RX5) : ∀ (n : Nat) (v2 : Int32) (v3 : Int32) (H : Heap) (locs : List Loc) (ls : Array Slot), fX5_open_L18 v1 m_thrown m_cards m_page n v2 v3 = some res → Wd D cI cZ b0 tt A s [(m_a, .inr (5, [.int m_thrown, .ref q_text, .int m_textSize, .int m_place, .ref q_cards, .ref q_readCards, .ref q_readPage, .ref q_page, .ref q_trial, .ref q_loads, .ref q_book, .int m_acts, .ref q_kept, .ref q_isKept, .int m_held, .ref q_heldWho, .ref q_heldForce, .ref q_heldLoad, .ref q_heldIs, .long m_seed, .int m_tentMany, .int m_tentFirst, .int m_restMany, .int m_restFirst, .ref q_gains, .ref q_value])), (q_text, .inl (cI, 56, .inl m_text)), (q_cards, .inl (cI, 4, .inl m_cards)), (q_readCards, .inl (cI, 4, .inl m_readCards)), (q_readPage, .inl (cI, 17, .inl m_readPage)), (q_page, .inl (cI, 17, .inl m_page)), (q_trial, .inl (cI, 17, .inl m_trial)), (q_loads, .inl (cI, 16, .inl m_loads)), (q_book, .inl (cI, 238, .inl m_book)), (q_kept, .inl (cI, 34, .inl m_kept)), (q_isKept, .inl (cZ, 2, .inl m_isKept)), (q_heldWho, .inl (cI, 6, .inl m_heldWho)), (q_heldForce, .inl (cI, 6, .inl m_heldForce)), (q_heldLoad, .inl (cI, 6, .inl m_heldLoad)), (q_heldIs, .inl (cI, 6, .inl m_heldIs)), (q_gains, .inl (cI, 50, .inl m_gains)), (q_value, .inl (cI, 16, .inl m_value))] H locs → lv_has ls 4 [(0, .ref m_a), (1, .int v1), (2, .int v2), (3, .int v3)] → W p l e (rmo 5 108) s m args below meth c H locs 0 0 (MQ below (QI D (fun u : Int32 => [(m_a, .inr (5, [.int u, .ref q_text, .int m_textSize, .int m_place, .ref q_cards, .ref q_readCards, .ref q_readPage, .ref q_page, .ref q_trial, .ref q_loads, .ref q_book, .int m_acts, .ref q_kept, .ref q_isKept, .int m_held, .ref q_heldWho, .ref q_heldForce, .ref q_heldLoad, .ref q_heldIs, .long m_seed, .int m_tentMany, .int m_tentFirst, .int m_restMany, .int m_restFirst, .ref q_gains, .ref q_value])), (q_text, .inl (cI, 56, .inl m_text)), (q_cards, .inl (cI, 4, .inl m_cards)), (q_readCards, .inl (cI, 4, .inl m_readCards)), (q_readPage, .inl (cI, 17, .inl m_readPage)), (q_page, .inl (cI, 17, .inl m_page)), (q_trial, .inl (cI, 17, .inl m_trial)), (q_loads, .inl (cI, 16, .inl m_loads)), (q_book, .inl (cI, 238, .inl m_book)), (q_kept, .inl (cI, 34, .inl m_kept)), (q_isKept, .inl (cZ, 2, .inl m_isKept)), (q_heldWho, .inl (cI, 6, .inl m_heldWho)), (q_heldForce, .inl (cI, 6, .inl m_heldForce)), (q_heldLoad, .inl (cI, 6, .inl m_heldLoad)), (q_heldIs, .inl (cI, 6, .inl m_heldIs)), (q_gains, .inl (cI, 50, .inl m_gains)), (q_value, .inl (cI, 16, .inl m_value))]) A res) args s 0 0 A) (F0 m 18 ls []) := by
  obtain ⟨hx, hb, hr, hml, hown, hts, hlk⟩ := id C
  have hg : ∀ w ∈ GW, w.before args s = true := fun w h => hts w (List.mem_cons_of_mem _ h)
  intro n
  induction n with
  | zero =>
    intro _ _ H locs ls hf
    rw [fX5_open_L18] at hf
    cases hf
  | succ n ih =>
    intro v2 v3 H locs ls hf w hl
    rw [fX5_open_L18] at hf
    refine lv_iload_n hx hb dX5_open_18 rfl (lv_at hl 3 rfl) ?_
    refine lv_bipush (v := 16) hx hb dX5_open_19 (by decide) ?_
    refine lv_icmp_ge (tgt := 53) hx hb dX5_open_21 (by decide) (fun c1 => ?_) (fun c1 => ?_)
    · replace hf := ite_t c1 hf
      refine lv_iload_n hx hb dX5_open_53 rfl (lv_at hl 2 rfl) ?_
      exact k_iret (u := m_thrown) hx hb hr hlk w rfl hf dX5_open_54
    · replace hf := ite_f c1 hf
      refine lv_iload_n hx hb dX5_open_24 rfl (lv_at hl 2 rfl) ?_
      refine lv_aload_n hx hb dX5_open_25 rfl (lv_at hl 0 rfl) ?_
      refine lv_aload_n hx hb dX5_open_26 rfl (lv_at hl 0 rfl) ?_
      refine va_get (D := D) (ci := 5) (v := .ref q_page) (C := RX5) (T := TX5) (N := 26) hx hb hg iX5 hown w.2.2.2.2.2.2.1 w.1 0 rfl rfl 7 (by decide) (hg _ w_496) (fun _ h9 => h9) rfl dX5_open_27 ?_
      refine lv_iload_n hx hb dX5_open_30 rfl (lv_at hl 3 rfl) ?_
      refine lv_iload_n hx hb dX5_open_31 rfl (lv_at hl 1 rfl) ?_
      replace hf := ob_at hf
      obtain ⟨r2, er2, hf⟩ := hf
      refine k_goI0 w [0, 5, 7, 2] rfl (va_runV (As := [.ref q_page, .int v3, .int v1]) (rest := [.int v2]) ⟨hx, hb, hml, hown, hg⟩ (tX5_canPut l D cI cZ b0 tt m_a q_text q_cards q_readCards q_readPage q_page q_trial q_loads q_book q_kept q_isKept q_heldWho q_heldForce q_heldLoad q_heldIs q_gains q_value q_page m_thrown m_textSize m_place m_acts m_held m_seed m_tentMany m_tentFirst m_restMany m_restFirst m_page m_loads m_cards v3 v1 er2 H.size) (cwV 3 hg (gwV w_692 w_693 w_855 w_7 w_694) rfl rfl rfl ⟨rfl, qdX5_canPut⟩ ⟨Nat.le_of_ble_eq_true rfl, Nat.le_of_ble_eq_true rfl⟩) (k_preV w [0, 5, 7, 2] (by decide) rfl (q0 := 0) rfl rfl) rfl rfl hl.1 rfl (lv_room (Nat.le_of_ble_eq_true rfl)) dX5_open_32 ⟨Nat.le_refl _, Nat.le_refl _⟩) (fun H locs w => ?_)
      refine lv_if_eq (tgt := 44) hx hb dX5_open_35 (by decide) (fun c3 => ?_) (fun c3 => ?_)
      · replace hf := ite_t c3 hf
        refine lv_iconst (v := 0) hx hb dX5_open_44 (by decide) ?_
        refine lv_ior hx hb dX5_open_45 ?_
        refine lv_topi (fun z4 ez4 => ?_)
        replace hf := nm_at ez4 hf
        refine lv_istore_n (lv' := [(2, .int z4), (0, .ref m_a), (1, .int v1), (3, .int v3)]) hx hb dX5_open_46 rfl hl (by decide) rfl (fun ls hl => ?_)
        obtain ⟨z5, ez5⟩ : ∃ y : Int32, y = (v3 + 1) := ⟨_, rfl⟩
        replace hf := nm_at ez5 hf
        refine lv_iinc (v := z5) (lv' := [(3, .int z5), (2, .int z4), (0, .ref m_a), (1, .int v1)]) hx hb dX5_open_47 hl (k := 3) rfl (by rw [ez5]; rfl) (by decide) rfl (fun ls hl => ?_)
        refine lv_goto (tgt := 18) hx hb dX5_open_50 (by decide) ?_
        exact ih z4 z5 H locs ls hf w (lv_sub hl [2, 3, 1, 0] rfl)
      · replace hf := ite_f c3 hf
        refine lv_iconst (v := 1) hx hb dX5_open_38 (by decide) ?_
        refine lv_iload_n hx hb dX5_open_39 rfl (lv_at hl 3 rfl) ?_
        refine lv_ishl hx hb dX5_open_40 ?_
        refine lv_goto (tgt := 45) hx hb dX5_open_41 (by decide) ?_
        refine lv_ior hx hb dX5_open_45 ?_
        refine lv_topi (fun z6 ez6 => ?_)
        replace hf := nm_at ez6 hf
        refine lv_istore_n (lv' := [(2, .int z6), (0, .ref m_a), (1, .int v1), (3, .int v3)]) hx hb dX5_open_46 rfl hl (by decide) rfl (fun ls hl => ?_)
        obtain ⟨z7, ez7⟩ : ∃ y : Int32, y = (v3 + 1) := ⟨_, rfl⟩
        replace hf := nm_at ez7 hf
        refine lv_iinc (v := z7) (lv' := [(3, .int z7), (2, .int z6), (0, .ref m_a), (1, .int v1)]) hx hb dX5_open_47 hl (k := 3) rfl (by rw [ez7]; rfl) (by decide) rfl (fun ls hl => ?_)
        refine lv_goto (tgt := 18) hx hb dX5_open_50 (by decide) ?_
        exact ih z6 z7 H locs ls hf w (lv_sub hl [2, 3, 1, 0] rfl)
def fX5_open  (m_thrown : Int32) (m_cards : Nat → Int32) (m_page : Nat → Int32) (a1 : Int32) : Option (Int32 × Int32) := ob (fX5_noKind a1) (fun r8 => (if r8 = 0 then fX5_open_L18 a1 0 m_cards m_page FU 0 0 else some ((-1), 0)))
set_option maxRecDepth 100000 in
set_option maxHeartbeats 4000000 in
theorem tX5_open (l : Launch) (D : va_G) (cI cZ : ClassId) (b0 : Nat) (tt : Nat → Nat)  (m_a q_text q_cards q_readCards q_readPage q_page q_trial q_loads q_book q_kept q_isKept q_heldWho q_heldForce q_heldLoad q_heldIs q_gains q_value : Nat) (m_thrown : Int32) (m_textSize : Int32) (m_place : Int32) (m_acts : Int32) (m_held : Int32) (m_seed : Int64) (m_tentMany : Int32) (m_tentFirst : Int32) (m_restMany : Int32) (m_restFirst : Int32) (m_text : Nat → Int32) (m_cards : Nat → Int32) (m_readCards : Nat → Int32) (m_readPage : Nat → Int32) (m_page : Nat → Int32) (m_trial : Nat → Int32) (m_loads : Nat → Int32) (m_book : Nat → Int32) (m_kept : Nat → Int32) (m_isKept : Nat → Int32) (m_heldWho : Nat → Int32) (m_heldForce : Nat → Int32) (m_heldLoad : Nat → Int32) (m_heldIs : Nat → Int32) (m_gains : Nat → Int32) (m_value : Nat → Int32) (a1 : Int32) {res : Int32 × Int32} (hf : fX5_open m_thrown m_cards m_page a1 = some res) : CtI l yX5_open (cwX5_open :: GW) 5 108 D cI cZ b0 tt [.ref m_a, .int a1] (fun u : Int32 => [(m_a, .inr (5, [.int u, .ref q_text, .int m_textSize, .int m_place, .ref q_cards, .ref q_readCards, .ref q_readPage, .ref q_page, .ref q_trial, .ref q_loads, .ref q_book, .int m_acts, .ref q_kept, .ref q_isKept, .int m_held, .ref q_heldWho, .ref q_heldForce, .ref q_heldLoad, .ref q_heldIs, .long m_seed, .int m_tentMany, .int m_tentFirst, .int m_restMany, .int m_restFirst, .ref q_gains, .ref q_value])), (q_text, .inl (cI, 56, .inl m_text)), (q_cards, .inl (cI, 4, .inl m_cards)), (q_readCards, .inl (cI, 4, .inl m_readCards)), (q_readPage, .inl (cI, 17, .inl m_readPage)), (q_page, .inl (cI, 17, .inl m_page)), (q_trial, .inl (cI, 17, .inl m_trial)), (q_loads, .inl (cI, 16, .inl m_loads)), (q_book, .inl (cI, 238, .inl m_book)), (q_kept, .inl (cI, 34, .inl m_kept)), (q_isKept, .inl (cZ, 2, .inl m_isKept)), (q_heldWho, .inl (cI, 6, .inl m_heldWho)), (q_heldForce, .inl (cI, 6, .inl m_heldForce)), (q_heldLoad, .inl (cI, 6, .inl m_heldLoad)), (q_heldIs, .inl (cI, 6, .inl m_heldIs)), (q_gains, .inl (cI, 50, .inl m_gains)), (q_value, .inl (cI, 16, .inl m_value))]) m_thrown res := by
  intro sz
  refine k_begin (cc := cX5_open) (maxL := 4) (ret := (some .int)) (by decide) rfl (Nat.le_of_ble_eq_true rfl) ?_
  intro p e s m below meth c ls C w hl
  generalize va_A _ sz = A at w ⊢
  have w : Wd D cI cZ b0 tt A s [(m_a, .inr (5, [.int m_thrown, .ref q_text, .int m_textSize, .int m_place, .ref q_cards, .ref q_readCards, .ref q_readPage, .ref q_page, .ref q_trial, .ref q_loads, .ref q_book, .int m_acts, .ref q_kept, .ref q_isKept, .int m_held, .ref q_heldWho, .ref q_heldForce, .ref q_heldLoad, .ref q_heldIs, .long m_seed, .int m_tentMany, .int m_tentFirst, .int m_restMany, .int m_restFirst, .ref q_gains, .ref q_value])), (q_text, .inl (cI, 56, .inl m_text)), (q_cards, .inl (cI, 4, .inl m_cards)), (q_readCards, .inl (cI, 4, .inl m_readCards)), (q_readPage, .inl (cI, 17, .inl m_readPage)), (q_page, .inl (cI, 17, .inl m_page)), (q_trial, .inl (cI, 17, .inl m_trial)), (q_loads, .inl (cI, 16, .inl m_loads)), (q_book, .inl (cI, 238, .inl m_book)), (q_kept, .inl (cI, 34, .inl m_kept)), (q_isKept, .inl (cZ, 2, .inl m_isKept)), (q_heldWho, .inl (cI, 6, .inl m_heldWho)), (q_heldForce, .inl (cI, 6, .inl m_heldForce)), (q_heldLoad, .inl (cI, 6, .inl m_heldLoad)), (q_heldIs, .inl (cI, 6, .inl m_heldIs)), (q_gains, .inl (cI, 50, .inl m_gains)), (q_value, .inl (cI, 16, .inl m_value))] s.heap [] := w
  have hl : lv_has ls 4 [(0, .ref m_a), (1, .int a1)] := hl
  obtain ⟨H, eH⟩ : ∃ H, H = s.heap := ⟨_, rfl⟩
  rw [← eH] at w ⊢
  generalize ([] : List Loc) = locs at w ⊢
  generalize List.toArray _ = args at C ⊢
  obtain ⟨hx, hb, hr, hml, hown, hts, hlk⟩ := id C
  have hg : ∀ w ∈ GW, w.before args s = true := fun w h => hts w (List.mem_cons_of_mem _ h)
  unfold fX5_open at hf
  refine lv_aload_n hx hb dX5_open_0 rfl (lv_at hl 0 rfl) ?_
  refine lv_iconst (v := 0) hx hb dX5_open_1 (by decide) ?_
  refine k_put (ci := 5) (v := .int 0) (ty := .int) (C := RX5) (T := TX5) (N := 26) hx hb hg iX5 tyX5 tyX5_ok nmX5 hown w 0 rfl rfl 0 (by decide) (hg _ w_489) (fun _ h9 => h9) rfl pd_I rfl rfl (Nat.le_of_ble_eq_true rfl) dX5_open_2 (fun H locs w => ?_)
  have w : Wd D cI cZ b0 tt A s [(m_a, .inr (5, [.int 0, .ref q_text, .int m_textSize, .int m_place, .ref q_cards, .ref q_readCards, .ref q_readPage, .ref q_page, .ref q_trial, .ref q_loads, .ref q_book, .int m_acts, .ref q_kept, .ref q_isKept, .int m_held, .ref q_heldWho, .ref q_heldForce, .ref q_heldLoad, .ref q_heldIs, .long m_seed, .int m_tentMany, .int m_tentFirst, .int m_restMany, .int m_restFirst, .ref q_gains, .ref q_value])), (q_text, .inl (cI, 56, .inl m_text)), (q_cards, .inl (cI, 4, .inl m_cards)), (q_readCards, .inl (cI, 4, .inl m_readCards)), (q_readPage, .inl (cI, 17, .inl m_readPage)), (q_page, .inl (cI, 17, .inl m_page)), (q_trial, .inl (cI, 17, .inl m_trial)), (q_loads, .inl (cI, 16, .inl m_loads)), (q_book, .inl (cI, 238, .inl m_book)), (q_kept, .inl (cI, 34, .inl m_kept)), (q_isKept, .inl (cZ, 2, .inl m_isKept)), (q_heldWho, .inl (cI, 6, .inl m_heldWho)), (q_heldForce, .inl (cI, 6, .inl m_heldForce)), (q_heldLoad, .inl (cI, 6, .inl m_heldLoad)), (q_heldIs, .inl (cI, 6, .inl m_heldIs)), (q_gains, .inl (cI, 50, .inl m_gains)), (q_value, .inl (cI, 16, .inl m_value))] H locs := w
  refine lv_iload_n hx hb dX5_open_5 rfl (lv_at hl 1 rfl) ?_
  replace hf := ob_at hf
  obtain ⟨r8, er8, hf⟩ := hf
  refine k_goI0 w [] rfl (va_runS (As := [.int a1]) (rest := []) ⟨hx, hb, hml, hown, hg⟩ (tX5_noKind l D cI cZ b0 tt a1 er8 H.size) (va_cwS 1 hg (gwS w_676 w_677 w_7 w_678) rfl rfl rfl qdX5_noKind ⟨Nat.le_of_ble_eq_true rfl, Nat.le_of_ble_eq_true rfl⟩) (k_preS w [] (by decide) rfl) rfl rfl hl.1 rfl (lv_room (Nat.le_of_ble_eq_true rfl)) dX5_open_6 ⟨Nat.le_refl _, Nat.le_refl _⟩) (fun H locs w => ?_)
  refine lv_if_eq (tgt := 14) hx hb dX5_open_9 (by decide) (fun c9 => ?_) (fun c9 => ?_)
  · replace hf := ite_t c9 hf
    refine lv_iconst (v := 0) hx hb dX5_open_14 (by decide) ?_
    refine lv_istore_n (lv' := [(2, .int 0), (0, .ref m_a), (1, .int a1)]) hx hb dX5_open_15 rfl hl (by decide) rfl (fun ls hl => ?_)
    refine lv_iconst (v := 0) hx hb dX5_open_16 (by decide) ?_
    refine lv_istore_n (lv' := [(3, .int 0), (2, .int 0), (0, .ref m_a), (1, .int a1)]) hx hb dX5_open_17 rfl hl (by decide) rfl (fun ls hl => ?_)
    exact tX5_open_L18 (v1 := a1) (m_thrown := 0) (m_cards := m_cards) (m_page := m_page) (m_textSize := m_textSize) (m_place := m_place) (m_acts := m_acts) (m_held := m_held) (m_seed := m_seed) (m_tentMany := m_tentMany) (m_tentFirst := m_tentFirst) (m_restMany := m_restMany) (m_restFirst := m_restFirst) (m_text := m_text) (m_readCards := m_readCards) (m_readPage := m_readPage) (m_trial := m_trial) (m_loads := m_loads) (m_book := m_book) (m_kept := m_kept) (m_isKept := m_isKept) (m_heldWho := m_heldWho) (m_heldForce := m_heldForce) (m_heldLoad := m_heldLoad) (m_heldIs := m_heldIs) (m_gains := m_gains) (m_value := m_value) (C := C) FU 0 0 H locs ls hf w (lv_sub hl [2, 3, 1, 0] rfl)
  · replace hf := ite_f c9 hf
    refine lv_iconst (v := (-1)) hx hb dX5_open_12 (by decide) ?_
    exact k_iret (u := 0) hx hb hr hlk w rfl hf dX5_open_13
