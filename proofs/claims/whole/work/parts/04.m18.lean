-- X5_fit
def fX5_fit_L28   (v1 : Int32) (m_thrown : Int32) (m_cards : Nat → Int32) (m_page : Nat → Int32) : Nat → Int32 → (Nat → Int32) → (Nat → Int32) → Option (Int32 × Int32 × (Nat → Int32) × (Nat → Int32))
  | 0, _, _, _ => none
  | n + 1, v2, m_trial, m_loads => (if 4 ≤ v2 then some ((-9), (m_thrown, m_trial, m_loads)) else ob (fX5_canPut m_page m_cards v1 v2) (fun r2 => (if r2 = 0 then nm (v2 + 1) (fun z4 => fX5_fit_L28 v1 m_thrown m_cards m_page n z4 m_trial m_loads) else ob (fX5_begin m_page m_trial) (fun r5 => ob (fX5_goPut r5 m_loads v1 v2) (fun r6 => (if r6.1 = 0 then some (v2, (m_thrown, r6.2.1, r6.2.2)) else nm (v2 + 1) (fun z8 => fX5_fit_L28 v1 m_thrown m_cards m_page n z8 r6.2.1 r6.2.2)))))))
set_option maxRecDepth 100000 in
set_option maxHeartbeats 4000000 in
theorem tX5_fit_L28 {p : Program} {l : Launch} {e : Env} {s : State} {m : MethodId} {args : Array Value} {below : List Frame} {meth : Method} {c : Code} {D : va_G} {cI cZ : ClassId} {b0 : Nat} {tt : Nat → Nat} {A : Nat → Prop}  {m_a q_text q_cards q_readCards q_readPage q_page q_trial q_loads q_book q_kept q_isKept q_heldWho q_heldForce q_heldLoad q_heldIs q_gains q_value : Nat}  {v1 : Int32} {m_thrown : Int32} {m_cards : Nat → Int32} {m_page : Nat → Int32} {m_textSize : Int32} {m_place : Int32} {m_acts : Int32} {m_held : Int32} {m_seed : Int64} {m_tentMany : Int32} {m_tentFirst : Int32} {m_restMany : Int32} {m_restFirst : Int32} {m_text : Nat → Int32} {m_readCards : Nat → Int32} {m_readPage : Nat → Int32} {m_book : Nat → Int32} {m_kept : Nat → Int32} {m_isKept : Nat → Int32} {m_heldWho : Nat → Int32} {m_heldForce : Nat → Int32} {m_heldLoad : Nat → Int32} {m_heldIs : Nat → Int32} {m_gains : Nat → Int32} {m_value : Nat → Int32} {res : Int32 × Int32 × (Nat → Int32) × (Nat → Int32)} (C : Cx p s m args meth c cX5_fit 3 (some .int) (cwX5_fit :: GW) RX5) : ∀ (n : Nat) (v2 : Int32) (m_trial : Nat → Int32) (m_loads : Nat → Int32) (H : Heap) (locs : List Loc) (ls : Array Slot), fX5_fit_L28 v1 m_thrown m_cards m_page n v2 m_trial m_loads = some res → Wd D cI cZ b0 tt A s [(m_a, .inr (5, [.int m_thrown, .ref q_text, .int m_textSize, .int m_place, .ref q_cards, .ref q_readCards, .ref q_readPage, .ref q_page, .ref q_trial, .ref q_loads, .ref q_book, .int m_acts, .ref q_kept, .ref q_isKept, .int m_held, .ref q_heldWho, .ref q_heldForce, .ref q_heldLoad, .ref q_heldIs, .long m_seed, .int m_tentMany, .int m_tentFirst, .int m_restMany, .int m_restFirst, .ref q_gains, .ref q_value])), (q_text, .inl (cI, 56, .inl m_text)), (q_cards, .inl (cI, 4, .inl m_cards)), (q_readCards, .inl (cI, 4, .inl m_readCards)), (q_readPage, .inl (cI, 17, .inl m_readPage)), (q_page, .inl (cI, 17, .inl m_page)), (q_trial, .inl (cI, 17, .inl m_trial)), (q_loads, .inl (cI, 16, .inl m_loads)), (q_book, .inl (cI, 238, .inl m_book)), (q_kept, .inl (cI, 34, .inl m_kept)), (q_isKept, .inl (cZ, 2, .inl m_isKept)), (q_heldWho, .inl (cI, 6, .inl m_heldWho)), (q_heldForce, .inl (cI, 6, .inl m_heldForce)), (q_heldLoad, .inl (cI, 6, .inl m_heldLoad)), (q_heldIs, .inl (cI, 6, .inl m_heldIs)), (q_gains, .inl (cI, 50, .inl m_gains)), (q_value, .inl (cI, 16, .inl m_value))] H locs → lv_has ls 3 [(0, .ref m_a), (1, .int v1), (2, .int v2)] → W p l e (rmo 7 155) s m args below meth c H locs 0 0 (MQ below (QI D (fun u : Int32 × (Nat → Int32) × (Nat → Int32) => [(m_a, .inr (5, [.int u.1, .ref q_text, .int m_textSize, .int m_place, .ref q_cards, .ref q_readCards, .ref q_readPage, .ref q_page, .ref q_trial, .ref q_loads, .ref q_book, .int m_acts, .ref q_kept, .ref q_isKept, .int m_held, .ref q_heldWho, .ref q_heldForce, .ref q_heldLoad, .ref q_heldIs, .long m_seed, .int m_tentMany, .int m_tentFirst, .int m_restMany, .int m_restFirst, .ref q_gains, .ref q_value])), (q_text, .inl (cI, 56, .inl m_text)), (q_cards, .inl (cI, 4, .inl m_cards)), (q_readCards, .inl (cI, 4, .inl m_readCards)), (q_readPage, .inl (cI, 17, .inl m_readPage)), (q_page, .inl (cI, 17, .inl m_page)), (q_trial, .inl (cI, 17, .inl u.2.1)), (q_loads, .inl (cI, 16, .inl u.2.2)), (q_book, .inl (cI, 238, .inl m_book)), (q_kept, .inl (cI, 34, .inl m_kept)), (q_isKept, .inl (cZ, 2, .inl m_isKept)), (q_heldWho, .inl (cI, 6, .inl m_heldWho)), (q_heldForce, .inl (cI, 6, .inl m_heldForce)), (q_heldLoad, .inl (cI, 6, .inl m_heldLoad)), (q_heldIs, .inl (cI, 6, .inl m_heldIs)), (q_gains, .inl (cI, 50, .inl m_gains)), (q_value, .inl (cI, 16, .inl m_value))]) A res) args s 0 0 A) (F0 m 28 ls []) := by
  obtain ⟨hx, hb, hr, hml, hown, hts, hlk⟩ := id C
  have hg : ∀ w ∈ GW, w.before args s = true := fun w h => hts w (List.mem_cons_of_mem _ h)
  intro n
  induction n with
  | zero =>
    intro _ _ _ H locs ls hf
    rw [fX5_fit_L28] at hf
    cases hf
  | succ n ih =>
    intro v2 m_trial m_loads H locs ls hf w hl
    rw [fX5_fit_L28] at hf
    refine lv_iload_n hx hb dX5_fit_28 rfl (lv_at hl 2 rfl) ?_
    refine lv_iconst (v := 4) hx hb dX5_fit_29 (by decide) ?_
    refine lv_icmp_ge (tgt := 71) hx hb dX5_fit_30 (by decide) (fun c1 => ?_) (fun c1 => ?_)
    · replace hf := ite_t c1 hf
      refine lv_bipush (v := (-9)) hx hb dX5_fit_71 (by decide) ?_
      exact k_iret (u := (m_thrown, m_trial, m_loads)) hx hb hr hlk w rfl hf dX5_fit_73
    · replace hf := ite_f c1 hf
      refine lv_aload_n hx hb dX5_fit_33 rfl (lv_at hl 0 rfl) ?_
      refine lv_aload_n hx hb dX5_fit_34 rfl (lv_at hl 0 rfl) ?_
      refine va_get (D := D) (ci := 5) (v := .ref q_page) (C := RX5) (T := TX5) (N := 26) hx hb hg iX5 hown w.2.2.2.2.2.2.1 w.1 0 rfl rfl 7 (by decide) (hg _ w_496) (fun _ h9 => h9) rfl dX5_fit_35 ?_
      refine lv_iload_n hx hb dX5_fit_38 rfl (lv_at hl 1 rfl) ?_
      refine lv_iload_n hx hb dX5_fit_39 rfl (lv_at hl 2 rfl) ?_
      replace hf := ob_at hf
      obtain ⟨r2, er2, hf⟩ := hf
      refine k_goI0 w [0, 5, 7, 2] rfl (va_runV (As := [.ref q_page, .int v1, .int v2]) (rest := []) ⟨hx, hb, hml, hown, hg⟩ (tX5_canPut l D cI cZ b0 tt m_a q_text q_cards q_readCards q_readPage q_page q_trial q_loads q_book q_kept q_isKept q_heldWho q_heldForce q_heldLoad q_heldIs q_gains q_value q_page m_thrown m_textSize m_place m_acts m_held m_seed m_tentMany m_tentFirst m_restMany m_restFirst m_page m_loads m_cards v1 v2 er2 H.size) (cwV 3 hg (gwV w_692 w_693 w_855 w_7 w_694) rfl rfl rfl ⟨rfl, qdX5_canPut⟩ ⟨Nat.le_of_ble_eq_true rfl, Nat.le_of_ble_eq_true rfl⟩) (k_preV w [0, 5, 7, 2] (by decide) rfl (q0 := 0) rfl rfl) rfl rfl hl.1 rfl (lv_room (Nat.le_of_ble_eq_true rfl)) dX5_fit_40 ⟨Nat.le_refl _, Nat.le_refl _⟩) (fun H locs w => ?_)
      refine lv_if_eq (tgt := 65) hx hb dX5_fit_43 (by decide) (fun c3 => ?_) (fun c3 => ?_)
      · replace hf := ite_t c3 hf
        obtain ⟨z4, ez4⟩ : ∃ y : Int32, y = (v2 + 1) := ⟨_, rfl⟩
        replace hf := nm_at ez4 hf
        refine lv_iinc (v := z4) (lv' := [(2, .int z4), (0, .ref m_a), (1, .int v1)]) hx hb dX5_fit_65 hl (k := 2) rfl (by rw [ez4]; rfl) (by decide) rfl (fun ls hl => ?_)
        refine lv_goto (tgt := 28) hx hb dX5_fit_68 (by decide) ?_
        exact ih z4 m_trial m_loads H locs ls hf w (lv_sub hl [1, 2, 0] rfl)
      · replace hf := ite_f c3 hf
        refine lv_aload_n hx hb dX5_fit_46 rfl (lv_at hl 0 rfl) ?_
        replace hf := ob_at hf
        obtain ⟨r5, er5, hf⟩ := hf
        refine k_goV (v0 := m_trial) (res := r5) w [0, 1, 2, 3, 4, 5, 6, 7, 8, 9, 10, 11, 12, 13, 14, 15, 16] rfl (fun _ => rfl) (va_runV (As := []) (rest := []) ⟨hx, hb, hml, hown, hg⟩ (tX5_begin l D cI cZ b0 tt m_a q_text q_cards q_readCards q_readPage q_page q_trial q_loads q_book q_kept q_isKept q_heldWho q_heldForce q_heldLoad q_heldIs q_gains q_value m_thrown m_textSize m_place m_acts m_held m_seed m_tentMany m_tentFirst m_restMany m_restFirst m_text m_cards m_readCards m_readPage m_page m_trial m_loads m_book m_kept m_isKept m_heldWho m_heldForce m_heldLoad m_heldIs m_gains m_value er5 H.size) (cwV 0 hg (gwV w_749 w_750 w_861 w_7 w_751) rfl rfl rfl ⟨rfl, qdX5_begin⟩ ⟨Nat.le_of_ble_eq_true rfl, Nat.le_of_ble_eq_true rfl⟩) (k_preV w [0, 1, 2, 3, 4, 5, 6, 7, 8, 9, 10, 11, 12, 13, 14, 15, 16] (by decide) rfl (q0 := 0) rfl rfl) rfl rfl hl.1 rfl (lv_room (Nat.le_of_ble_eq_true rfl)) dX5_fit_47 ⟨Nat.le_refl _, Nat.le_refl _⟩) (fun H locs w => ?_)
        have w : Wd D cI cZ b0 tt A s [(m_a, .inr (5, [.int m_thrown, .ref q_text, .int m_textSize, .int m_place, .ref q_cards, .ref q_readCards, .ref q_readPage, .ref q_page, .ref q_trial, .ref q_loads, .ref q_book, .int m_acts, .ref q_kept, .ref q_isKept, .int m_held, .ref q_heldWho, .ref q_heldForce, .ref q_heldLoad, .ref q_heldIs, .long m_seed, .int m_tentMany, .int m_tentFirst, .int m_restMany, .int m_restFirst, .ref q_gains, .ref q_value])), (q_text, .inl (cI, 56, .inl m_text)), (q_cards, .inl (cI, 4, .inl m_cards)), (q_readCards, .inl (cI, 4, .inl m_readCards)), (q_readPage, .inl (cI, 17, .inl m_readPage)), (q_page, .inl (cI, 17, .inl m_page)), (q_trial, .inl (cI, 17, .inl r5)), (q_loads, .inl (cI, 16, .inl m_loads)), (q_book, .inl (cI, 238, .inl m_book)), (q_kept, .inl (cI, 34, .inl m_kept)), (q_isKept, .inl (cZ, 2, .inl m_isKept)), (q_heldWho, .inl (cI, 6, .inl m_heldWho)), (q_heldForce, .inl (cI, 6, .inl m_heldForce)), (q_heldLoad, .inl (cI, 6, .inl m_heldLoad)), (q_heldIs, .inl (cI, 6, .inl m_heldIs)), (q_gains, .inl (cI, 50, .inl m_gains)), (q_value, .inl (cI, 16, .inl m_value))] H locs := w
        refine lv_aload_n hx hb dX5_fit_50 rfl (lv_at hl 0 rfl) ?_
        refine lv_aload_n hx hb dX5_fit_51 rfl (lv_at hl 0 rfl) ?_
        refine va_get (D := D) (ci := 5) (v := .ref q_trial) (C := RX5) (T := TX5) (N := 26) hx hb hg iX5 hown w.2.2.2.2.2.2.1 w.1 0 rfl rfl 8 (by decide) (hg _ w_497) (fun _ h9 => h9) rfl dX5_fit_52 ?_
        refine lv_iload_n hx hb dX5_fit_55 rfl (lv_at hl 1 rfl) ?_
        refine lv_iload_n hx hb dX5_fit_56 rfl (lv_at hl 2 rfl) ?_
        replace hf := ob_at hf
        obtain ⟨r6, er6, hf⟩ := hf
        refine k_goI (v0 := (r5, m_loads)) (res := r6) w [0, 6, 7, 2] rfl (fun _ => rfl) (va_runV (As := [.ref q_trial, .int v1, .int v2]) (rest := []) ⟨hx, hb, hml, hown, hg⟩ (tX5_goPut l D cI cZ b0 tt m_a q_text q_cards q_readCards q_readPage q_page q_trial q_loads q_book q_kept q_isKept q_heldWho q_heldForce q_heldLoad q_heldIs q_gains q_value q_trial m_thrown m_textSize m_place m_acts m_held m_seed m_tentMany m_tentFirst m_restMany m_restFirst r5 m_loads m_cards v1 v2 er6 H.size) (cwV 3 hg (gwV w_698 w_699 w_857 w_7 w_700) rfl rfl rfl ⟨rfl, qdX5_goPut⟩ ⟨Nat.le_of_ble_eq_true rfl, Nat.le_of_ble_eq_true rfl⟩) (k_preV w [0, 6, 7, 2] (by decide) rfl (q0 := 0) rfl rfl) rfl rfl hl.1 rfl (lv_room (Nat.le_of_ble_eq_true rfl)) dX5_fit_57 ⟨Nat.le_refl _, Nat.le_refl _⟩) (fun H locs w => ?_)
        have w : Wd D cI cZ b0 tt A s [(m_a, .inr (5, [.int m_thrown, .ref q_text, .int m_textSize, .int m_place, .ref q_cards, .ref q_readCards, .ref q_readPage, .ref q_page, .ref q_trial, .ref q_loads, .ref q_book, .int m_acts, .ref q_kept, .ref q_isKept, .int m_held, .ref q_heldWho, .ref q_heldForce, .ref q_heldLoad, .ref q_heldIs, .long m_seed, .int m_tentMany, .int m_tentFirst, .int m_restMany, .int m_restFirst, .ref q_gains, .ref q_value])), (q_text, .inl (cI, 56, .inl m_text)), (q_cards, .inl (cI, 4, .inl m_cards)), (q_readCards, .inl (cI, 4, .inl m_readCards)), (q_readPage, .inl (cI, 17, .inl m_readPage)), (q_page, .inl (cI, 17, .inl m_page)), (q_trial, .inl (cI, 17, .inl r6.2.1)), (q_loads, .inl (cI, 16, .inl r6.2.2)), (q_book, .inl (cI, 238, .inl m_book)), (q_kept, .inl (cI, 34, .inl m_kept)), (q_isKept, .inl (cZ, 2, .inl m_isKept)), (q_heldWho, .inl (cI, 6, .inl m_heldWho)), (q_heldForce, .inl (cI, 6, .inl m_heldForce)), (q_heldLoad, .inl (cI, 6, .inl m_heldLoad)), (q_heldIs, .inl (cI, 6, .inl m_heldIs)), (q_gains, .inl (cI, 50, .inl m_gains)), (q_value, .inl (cI, 16, .inl m_value))] H locs := w
        refine lv_if_ne (tgt := 65) hx hb dX5_fit_60 (by decide) (fun c7 => ?_) (fun c7 => ?_)
        · replace hf := ite_f c7 hf
          obtain ⟨z8, ez8⟩ : ∃ y : Int32, y = (v2 + 1) := ⟨_, rfl⟩
          replace hf := nm_at ez8 hf
          refine lv_iinc (v := z8) (lv' := [(2, .int z8), (0, .ref m_a), (1, .int v1)]) hx hb dX5_fit_65 hl (k := 2) rfl (by rw [ez8]; rfl) (by decide) rfl (fun ls hl => ?_)
          refine lv_goto (tgt := 28) hx hb dX5_fit_68 (by decide) ?_
          exact ih z8 r6.2.1 r6.2.2 H locs ls hf w (lv_sub hl [1, 2, 0] rfl)
        · replace hf := ite_t c7 hf
          refine lv_iload_n hx hb dX5_fit_63 rfl (lv_at hl 2 rfl) ?_
          exact k_iret (u := (m_thrown, r6.2.1, r6.2.2)) hx hb hr hlk w rfl hf dX5_fit_64
def fX5_fit  (m_thrown : Int32) (m_cards : Nat → Int32) (m_page : Nat → Int32) (m_trial : Nat → Int32) (m_loads : Nat → Int32) (a1 : Int32) : Option (Int32 × Int32 × (Nat → Int32) × (Nat → Int32)) := ob (fX5_noPiece a1) (fun r9 => (if r9 = 0 then gd a1 17 ((if (m_page (Int32.toNatClampNeg a1)) ≤ 0 then fX5_fit_L28 a1 0 m_cards m_page FU 0 m_trial m_loads else some ((-4), (0, m_trial, m_loads)))) else some ((-1), (0, m_trial, m_loads))))
set_option maxRecDepth 100000 in
set_option maxHeartbeats 4000000 in
theorem tX5_fit (l : Launch) (D : va_G) (cI cZ : ClassId) (b0 : Nat) (tt : Nat → Nat)  (m_a q_text q_cards q_readCards q_readPage q_page q_trial q_loads q_book q_kept q_isKept q_heldWho q_heldForce q_heldLoad q_heldIs q_gains q_value : Nat) (m_thrown : Int32) (m_textSize : Int32) (m_place : Int32) (m_acts : Int32) (m_held : Int32) (m_seed : Int64) (m_tentMany : Int32) (m_tentFirst : Int32) (m_restMany : Int32) (m_restFirst : Int32) (m_text : Nat → Int32) (m_cards : Nat → Int32) (m_readCards : Nat → Int32) (m_readPage : Nat → Int32) (m_page : Nat → Int32) (m_trial : Nat → Int32) (m_loads : Nat → Int32) (m_book : Nat → Int32) (m_kept : Nat → Int32) (m_isKept : Nat → Int32) (m_heldWho : Nat → Int32) (m_heldForce : Nat → Int32) (m_heldLoad : Nat → Int32) (m_heldIs : Nat → Int32) (m_gains : Nat → Int32) (m_value : Nat → Int32) (a1 : Int32) {res : Int32 × Int32 × (Nat → Int32) × (Nat → Int32)} (hf : fX5_fit m_thrown m_cards m_page m_trial m_loads a1 = some res) : CtI l yX5_fit (cwX5_fit :: GW) 7 155 D cI cZ b0 tt [.ref m_a, .int a1] (fun u : Int32 × (Nat → Int32) × (Nat → Int32) => [(m_a, .inr (5, [.int u.1, .ref q_text, .int m_textSize, .int m_place, .ref q_cards, .ref q_readCards, .ref q_readPage, .ref q_page, .ref q_trial, .ref q_loads, .ref q_book, .int m_acts, .ref q_kept, .ref q_isKept, .int m_held, .ref q_heldWho, .ref q_heldForce, .ref q_heldLoad, .ref q_heldIs, .long m_seed, .int m_tentMany, .int m_tentFirst, .int m_restMany, .int m_restFirst, .ref q_gains, .ref q_value])), (q_text, .inl (cI, 56, .inl m_text)), (q_cards, .inl (cI, 4, .inl m_cards)), (q_readCards, .inl (cI, 4, .inl m_readCards)), (q_readPage, .inl (cI, 17, .inl m_readPage)), (q_page, .inl (cI, 17, .inl m_page)), (q_trial, .inl (cI, 17, .inl u.2.1)), (q_loads, .inl (cI, 16, .inl u.2.2)), (q_book, .inl (cI, 238, .inl m_book)), (q_kept, .inl (cI, 34, .inl m_kept)), (q_isKept, .inl (cZ, 2, .inl m_isKept)), (q_heldWho, .inl (cI, 6, .inl m_heldWho)), (q_heldForce, .inl (cI, 6, .inl m_heldForce)), (q_heldLoad, .inl (cI, 6, .inl m_heldLoad)), (q_heldIs, .inl (cI, 6, .inl m_heldIs)), (q_gains, .inl (cI, 50, .inl m_gains)), (q_value, .inl (cI, 16, .inl m_value))]) (m_thrown, m_trial, m_loads) res := by
  intro sz
  refine k_begin (cc := cX5_fit) (maxL := 3) (ret := (some .int)) (by decide) rfl (Nat.le_of_ble_eq_true rfl) ?_
  intro p e s m below meth c ls C w hl
  generalize va_A _ sz = A at w ⊢
  have w : Wd D cI cZ b0 tt A s [(m_a, .inr (5, [.int m_thrown, .ref q_text, .int m_textSize, .int m_place, .ref q_cards, .ref q_readCards, .ref q_readPage, .ref q_page, .ref q_trial, .ref q_loads, .ref q_book, .int m_acts, .ref q_kept, .ref q_isKept, .int m_held, .ref q_heldWho, .ref q_heldForce, .ref q_heldLoad, .ref q_heldIs, .long m_seed, .int m_tentMany, .int m_tentFirst, .int m_restMany, .int m_restFirst, .ref q_gains, .ref q_value])), (q_text, .inl (cI, 56, .inl m_text)), (q_cards, .inl (cI, 4, .inl m_cards)), (q_readCards, .inl (cI, 4, .inl m_readCards)), (q_readPage, .inl (cI, 17, .inl m_readPage)), (q_page, .inl (cI, 17, .inl m_page)), (q_trial, .inl (cI, 17, .inl m_trial)), (q_loads, .inl (cI, 16, .inl m_loads)), (q_book, .inl (cI, 238, .inl m_book)), (q_kept, .inl (cI, 34, .inl m_kept)), (q_isKept, .inl (cZ, 2, .inl m_isKept)), (q_heldWho, .inl (cI, 6, .inl m_heldWho)), (q_heldForce, .inl (cI, 6, .inl m_heldForce)), (q_heldLoad, .inl (cI, 6, .inl m_heldLoad)), (q_heldIs, .inl (cI, 6, .inl m_heldIs)), (q_gains, .inl (cI, 50, .inl m_gains)), (q_value, .inl (cI, 16, .inl m_value))] s.heap [] := w
  have hl : lv_has ls 3 [(0, .ref m_a), (1, .int a1)] := hl
  obtain ⟨H, eH⟩ : ∃ H, H = s.heap := ⟨_, rfl⟩
  rw [← eH] at w ⊢
  generalize ([] : List Loc) = locs at w ⊢
  generalize List.toArray _ = args at C ⊢
  obtain ⟨hx, hb, hr, hml, hown, hts, hlk⟩ := id C
  have hg : ∀ w ∈ GW, w.before args s = true := fun w h => hts w (List.mem_cons_of_mem _ h)
  unfold fX5_fit at hf
  refine lv_aload_n hx hb dX5_fit_0 rfl (lv_at hl 0 rfl) ?_
  refine lv_iconst (v := 0) hx hb dX5_fit_1 (by decide) ?_
  refine k_put (ci := 5) (v := .int 0) (ty := .int) (C := RX5) (T := TX5) (N := 26) hx hb hg iX5 tyX5 tyX5_ok nmX5 hown w 0 rfl rfl 0 (by decide) (hg _ w_489) (fun _ h9 => h9) rfl pd_I rfl rfl (Nat.le_of_ble_eq_true rfl) dX5_fit_2 (fun H locs w => ?_)
  have w : Wd D cI cZ b0 tt A s [(m_a, .inr (5, [.int 0, .ref q_text, .int m_textSize, .int m_place, .ref q_cards, .ref q_readCards, .ref q_readPage, .ref q_page, .ref q_trial, .ref q_loads, .ref q_book, .int m_acts, .ref q_kept, .ref q_isKept, .int m_held, .ref q_heldWho, .ref q_heldForce, .ref q_heldLoad, .ref q_heldIs, .long m_seed, .int m_tentMany, .int m_tentFirst, .int m_restMany, .int m_restFirst, .ref q_gains, .ref q_value])), (q_text, .inl (cI, 56, .inl m_text)), (q_cards, .inl (cI, 4, .inl m_cards)), (q_readCards, .inl (cI, 4, .inl m_readCards)), (q_readPage, .inl (cI, 17, .inl m_readPage)), (q_page, .inl (cI, 17, .inl m_page)), (q_trial, .inl (cI, 17, .inl m_trial)), (q_loads, .inl (cI, 16, .inl m_loads)), (q_book, .inl (cI, 238, .inl m_book)), (q_kept, .inl (cI, 34, .inl m_kept)), (q_isKept, .inl (cZ, 2, .inl m_isKept)), (q_heldWho, .inl (cI, 6, .inl m_heldWho)), (q_heldForce, .inl (cI, 6, .inl m_heldForce)), (q_heldLoad, .inl (cI, 6, .inl m_heldLoad)), (q_heldIs, .inl (cI, 6, .inl m_heldIs)), (q_gains, .inl (cI, 50, .inl m_gains)), (q_value, .inl (cI, 16, .inl m_value))] H locs := w
  refine lv_iload_n hx hb dX5_fit_5 rfl (lv_at hl 1 rfl) ?_
  replace hf := ob_at hf
  obtain ⟨r9, er9, hf⟩ := hf
  refine k_goI0 w [] rfl (va_runS (As := [.int a1]) (rest := []) ⟨hx, hb, hml, hown, hg⟩ (tX5_noPiece l D cI cZ b0 tt a1 er9 H.size) (va_cwS 1 hg (gwS w_621 w_622 w_7 w_623) rfl rfl rfl qdX5_noPiece ⟨Nat.le_of_ble_eq_true rfl, Nat.le_of_ble_eq_true rfl⟩) (k_preS w [] (by decide) rfl) rfl rfl hl.1 rfl (lv_room (Nat.le_of_ble_eq_true rfl)) dX5_fit_6 ⟨Nat.le_refl _, Nat.le_refl _⟩) (fun H locs w => ?_)
  refine lv_if_eq (tgt := 14) hx hb dX5_fit_9 (by decide) (fun c10 => ?_) (fun c10 => ?_)
  · replace hf := ite_t c10 hf
    refine lv_aload_n hx hb dX5_fit_14 rfl (lv_at hl 0 rfl) ?_
    refine va_get (D := D) (ci := 5) (v := .ref q_page) (C := RX5) (T := TX5) (N := 26) hx hb hg iX5 hown w.2.2.2.2.2.2.1 w.1 0 rfl rfl 7 (by decide) (hg _ w_496) (fun _ h9 => h9) rfl dX5_fit_15 ?_
    refine lv_iload_n hx hb dX5_fit_18 rfl (lv_at hl 1 rfl) ?_
    replace hf := gd_at hf
    obtain ⟨hi11, hf⟩ := hf
    refine va_iald hx hb w.2.2.2.2.2.2.1 w.1 5 0 rfl rfl hi11 dX5_fit_19 ?_
    refine lv_if_le (tgt := 26) hx hb dX5_fit_20 (by decide) (fun c12 => ?_) (fun c12 => ?_)
    · replace hf := ite_t c12 hf
      refine lv_iconst (v := 0) hx hb dX5_fit_26 (by decide) ?_
      refine lv_istore_n (lv' := [(2, .int 0), (0, .ref m_a), (1, .int a1)]) hx hb dX5_fit_27 rfl hl (by decide) rfl (fun ls hl => ?_)
      exact tX5_fit_L28 (v1 := a1) (m_thrown := 0) (m_cards := m_cards) (m_page := m_page) (m_textSize := m_textSize) (m_place := m_place) (m_acts := m_acts) (m_held := m_held) (m_seed := m_seed) (m_tentMany := m_tentMany) (m_tentFirst := m_tentFirst) (m_restMany := m_restMany) (m_restFirst := m_restFirst) (m_text := m_text) (m_readCards := m_readCards) (m_readPage := m_readPage) (m_book := m_book) (m_kept := m_kept) (m_isKept := m_isKept) (m_heldWho := m_heldWho) (m_heldForce := m_heldForce) (m_heldLoad := m_heldLoad) (m_heldIs := m_heldIs) (m_gains := m_gains) (m_value := m_value) (C := C) FU 0 m_trial m_loads H locs ls hf w (lv_sub hl [1, 2, 0] rfl)
    · replace hf := ite_f c12 hf
      refine lv_bipush (v := (-4)) hx hb dX5_fit_23 (by decide) ?_
      exact k_iret (u := (0, m_trial, m_loads)) hx hb hr hlk w rfl hf dX5_fit_25
  · replace hf := ite_f c10 hf
    refine lv_iconst (v := (-1)) hx hb dX5_fit_12 (by decide) ?_
    exact k_iret (u := (0, m_trial, m_loads)) hx hb hr hlk w rfl hf dX5_fit_13
-- X5_longPower
def fX5_longPower_L5   (v0 : Int64) (v2 : Int32) : Nat → Int64 → Int32 → Option (Int64)
  | 0, _, _ => none
  | n + 1, v3, v5 => (if v2 ≤ v5 then some v3 else nm (v3 * v0) (fun z2 => nm (v5 + 1) (fun z3 => fX5_longPower_L5 v0 v2 n z2 z3)))
set_option maxRecDepth 100000 in
set_option maxHeartbeats 4000000 in
theorem tX5_longPower_L5 {p : Program} {l : Launch} {e : Env} {s : State} {m : MethodId} {args : Array Value} {below : List Frame} {meth : Method} {c : Code} {D : va_G} {cI cZ : ClassId} {b0 : Nat} {tt : Nat → Nat} {A : Nat → Prop}    {v0 : Int64} {v2 : Int32} {res : Int64} (C : Cx p s m args meth c cX5_longPower 6 (some .long) (cwX5_longPower :: GW) RX5) : ∀ (n : Nat) (v3 : Int64) (v5 : Int32) (H : Heap) (locs : List Loc) (ls : Array Slot), fX5_longPower_L5 v0 v2 n v3 v5 = some res → Wd D cI cZ b0 tt A s [] H locs → lv_has ls 6 [(0, .long v0), (2, .int v2), (3, .long v3), (5, .int v5)] → W p l e (rmo 0 0) s m args below meth c H locs 0 0 (MQ below (QL D (fun _ : Unit => []) A (res, ())) args s 0 0 A) (F0 m 5 ls []) := by
  obtain ⟨hx, hb, hr, hml, hown, hts, hlk⟩ := id C
  have hg : ∀ w ∈ GW, w.before args s = true := fun w h => hts w (List.mem_cons_of_mem _ h)
  intro n
  induction n with
  | zero =>
    intro _ _ H locs ls hf
    rw [fX5_longPower_L5] at hf
    cases hf
  | succ n ih =>
    intro v3 v5 H locs ls hf w hl
    rw [fX5_longPower_L5] at hf
    refine lv_iload hx hb dX5_longPower_5 (lv_at hl 3 rfl) ?_
    refine lv_iload_n hx hb dX5_longPower_7 rfl (lv_at hl 1 rfl) ?_
    refine lv_icmp_ge (tgt := 21) hx hb dX5_longPower_8 (by decide) (fun c1 => ?_) (fun c1 => ?_)
    · replace hf := ite_t c1 hf
      refine lv_lload_n hx hb dX5_longPower_21 rfl (lv_at hl 2 rfl) ?_
      exact k_lret (u := ()) hx hb hr hlk w rfl (k_ret1L hf) dX5_longPower_22
    · replace hf := ite_f c1 hf
      refine lv_lload_n hx hb dX5_longPower_11 rfl (lv_at hl 2 rfl) ?_
      refine lv_lload_n hx hb dX5_longPower_12 rfl (lv_at hl 0 rfl) ?_
      refine lv_lmul hx hb dX5_longPower_13 ?_
      refine lv_topl (fun z2 ez2 => ?_)
      replace hf := nm_at ez2 hf
      refine lv_lstore_n (lv' := [(3, .long z2), (0, .long v0), (2, .int v2), (5, .int v5)]) hx hb dX5_longPower_14 rfl hl (by decide) rfl (fun ls hl => ?_)
      obtain ⟨z3, ez3⟩ : ∃ y : Int32, y = (v5 + 1) := ⟨_, rfl⟩
      replace hf := nm_at ez3 hf
      refine lv_iinc (v := z3) (lv' := [(5, .int z3), (3, .long z2), (0, .long v0), (2, .int v2)]) hx hb dX5_longPower_15 hl (k := 3) rfl (by rw [ez3]; rfl) (by decide) rfl (fun ls hl => ?_)
      refine lv_goto (tgt := 5) hx hb dX5_longPower_18 (by decide) ?_
      exact ih z2 z3 H locs ls hf w (lv_sub hl [2, 3, 1, 0] rfl)
def fX5_longPower  (a1 : Int64) (a2 : Int32) : Option (Int64) := fX5_longPower_L5 a1 a2 FU 1 0
set_option maxRecDepth 100000 in
set_option maxHeartbeats 4000000 in
theorem tX5_longPower (l : Launch) (D : va_G) (cI cZ : ClassId) (b0 : Nat) (tt : Nat → Nat)    (a1 : Int64) (a2 : Int32) {res : Int64} (hf : fX5_longPower a1 a2 = some res) : CtL l yX5_longPower (cwX5_longPower :: GW) 0 0 D cI cZ b0 tt [.long a1, .int a2] (fun _ : Unit => []) () (res, ()) := by
  intro sz
  refine k_begin (cc := cX5_longPower) (maxL := 6) (ret := (some .long)) (by decide) rfl (Nat.le_of_ble_eq_true rfl) ?_
  intro p e s m below meth c ls C w hl
  generalize va_A _ sz = A at w ⊢
  have w : Wd D cI cZ b0 tt A s [] s.heap [] := w
  have hl : lv_has ls 6 [(0, .long a1), (2, .int a2)] := hl
  obtain ⟨H, eH⟩ : ∃ H, H = s.heap := ⟨_, rfl⟩
  rw [← eH] at w ⊢
  generalize ([] : List Loc) = locs at w ⊢
  generalize List.toArray _ = args at C ⊢
  obtain ⟨hx, hb, hr, hml, hown, hts, hlk⟩ := id C
  have hg : ∀ w ∈ GW, w.before args s = true := fun w h => hts w (List.mem_cons_of_mem _ h)
  unfold fX5_longPower at hf
  refine lv_lconst (v := 1) hx hb dX5_longPower_0 (by decide) ?_
  refine lv_lstore_n (lv' := [(3, .long 1), (0, .long a1), (2, .int a2)]) hx hb dX5_longPower_1 rfl hl (by decide) rfl (fun ls hl => ?_)
  refine lv_iconst (v := 0) hx hb dX5_longPower_2 (by decide) ?_
  refine lv_istore (lv' := [(5, .int 0), (3, .long 1), (0, .long a1), (2, .int a2)]) hx hb dX5_longPower_3 hl (by decide) rfl (fun ls hl => ?_)
  exact tX5_longPower_L5 (v0 := a1) (v2 := a2) (C := C) FU 1 0 H locs ls hf w (lv_sub hl [2, 3, 1, 0] rfl)
-- X5_puts
def fX5_puts  (m_cards : Nat → Int32) (m_trial : Nat → Int32) (m_loads : Nat → Int32) (a1 : Int32) (a2 : Int32) : Option (Int32 × (Nat → Int32) × (Nat → Int32)) := ob (fX5_noPiece a1) (fun r1 => (if r1 = 0 then ob (fX5_noKind a2) (fun r4 => (if r4 = 0 then ob (fX5_canPut m_trial m_cards a1 a2) (fun r7 => (if r7 = 0 then some (0, (m_trial, m_loads)) else ob (fX5_goPut m_trial m_loads a1 a2) (fun r11 => some (1, (r11.2.1, r11.2.2))))) else some (0, (m_trial, m_loads)))) else some (0, (m_trial, m_loads))))
set_option maxRecDepth 100000 in
set_option maxHeartbeats 4000000 in
theorem tX5_puts (l : Launch) (D : va_G) (cI cZ : ClassId) (b0 : Nat) (tt : Nat → Nat)  (m_a q_text q_cards q_readCards q_readPage q_page q_trial q_loads q_book q_kept q_isKept q_heldWho q_heldForce q_heldLoad q_heldIs q_gains q_value : Nat) (m_thrown : Int32) (m_textSize : Int32) (m_place : Int32) (m_acts : Int32) (m_held : Int32) (m_seed : Int64) (m_tentMany : Int32) (m_tentFirst : Int32) (m_restMany : Int32) (m_restFirst : Int32) (m_text : Nat → Int32) (m_cards : Nat → Int32) (m_readCards : Nat → Int32) (m_readPage : Nat → Int32) (m_page : Nat → Int32) (m_trial : Nat → Int32) (m_loads : Nat → Int32) (m_book : Nat → Int32) (m_kept : Nat → Int32) (m_isKept : Nat → Int32) (m_heldWho : Nat → Int32) (m_heldForce : Nat → Int32) (m_heldLoad : Nat → Int32) (m_heldIs : Nat → Int32) (m_gains : Nat → Int32) (m_value : Nat → Int32) (a1 : Int32) (a2 : Int32) {res : Int32 × (Nat → Int32) × (Nat → Int32)} (hf : fX5_puts m_cards m_trial m_loads a1 a2 = some res) : CtI l yX5_puts (cwX5_puts :: GW) 7 155 D cI cZ b0 tt [.ref m_a, .int a1, .int a2] (fun u : (Nat → Int32) × (Nat → Int32) => [(m_a, .inr (5, [.int m_thrown, .ref q_text, .int m_textSize, .int m_place, .ref q_cards, .ref q_readCards, .ref q_readPage, .ref q_page, .ref q_trial, .ref q_loads, .ref q_book, .int m_acts, .ref q_kept, .ref q_isKept, .int m_held, .ref q_heldWho, .ref q_heldForce, .ref q_heldLoad, .ref q_heldIs, .long m_seed, .int m_tentMany, .int m_tentFirst, .int m_restMany, .int m_restFirst, .ref q_gains, .ref q_value])), (q_text, .inl (cI, 56, .inl m_text)), (q_cards, .inl (cI, 4, .inl m_cards)), (q_readCards, .inl (cI, 4, .inl m_readCards)), (q_readPage, .inl (cI, 17, .inl m_readPage)), (q_page, .inl (cI, 17, .inl m_page)), (q_trial, .inl (cI, 17, .inl u.1)), (q_loads, .inl (cI, 16, .inl u.2)), (q_book, .inl (cI, 238, .inl m_book)), (q_kept, .inl (cI, 34, .inl m_kept)), (q_isKept, .inl (cZ, 2, .inl m_isKept)), (q_heldWho, .inl (cI, 6, .inl m_heldWho)), (q_heldForce, .inl (cI, 6, .inl m_heldForce)), (q_heldLoad, .inl (cI, 6, .inl m_heldLoad)), (q_heldIs, .inl (cI, 6, .inl m_heldIs)), (q_gains, .inl (cI, 50, .inl m_gains)), (q_value, .inl (cI, 16, .inl m_value))]) (m_trial, m_loads) res := by
  intro sz
  refine k_begin (cc := cX5_puts) (maxL := 4) (ret := (some .boolean)) (by decide) rfl (Nat.le_of_ble_eq_true rfl) ?_
  intro p e s m below meth c ls C w hl
  generalize va_A _ sz = A at w ⊢
  have w : Wd D cI cZ b0 tt A s [(m_a, .inr (5, [.int m_thrown, .ref q_text, .int m_textSize, .int m_place, .ref q_cards, .ref q_readCards, .ref q_readPage, .ref q_page, .ref q_trial, .ref q_loads, .ref q_book, .int m_acts, .ref q_kept, .ref q_isKept, .int m_held, .ref q_heldWho, .ref q_heldForce, .ref q_heldLoad, .ref q_heldIs, .long m_seed, .int m_tentMany, .int m_tentFirst, .int m_restMany, .int m_restFirst, .ref q_gains, .ref q_value])), (q_text, .inl (cI, 56, .inl m_text)), (q_cards, .inl (cI, 4, .inl m_cards)), (q_readCards, .inl (cI, 4, .inl m_readCards)), (q_readPage, .inl (cI, 17, .inl m_readPage)), (q_page, .inl (cI, 17, .inl m_page)), (q_trial, .inl (cI, 17, .inl m_trial)), (q_loads, .inl (cI, 16, .inl m_loads)), (q_book, .inl (cI, 238, .inl m_book)), (q_kept, .inl (cI, 34, .inl m_kept)), (q_isKept, .inl (cZ, 2, .inl m_isKept)), (q_heldWho, .inl (cI, 6, .inl m_heldWho)), (q_heldForce, .inl (cI, 6, .inl m_heldForce)), (q_heldLoad, .inl (cI, 6, .inl m_heldLoad)), (q_heldIs, .inl (cI, 6, .inl m_heldIs)), (q_gains, .inl (cI, 50, .inl m_gains)), (q_value, .inl (cI, 16, .inl m_value))] s.heap [] := w
  have hl : lv_has ls 4 [(0, .ref m_a), (1, .int a1), (2, .int a2)] := hl
  obtain ⟨H, eH⟩ : ∃ H, H = s.heap := ⟨_, rfl⟩
  rw [← eH] at w ⊢
  generalize ([] : List Loc) = locs at w ⊢
  generalize List.toArray _ = args at C ⊢
  obtain ⟨hx, hb, hr, hml, hown, hts, hlk⟩ := id C
  have hg : ∀ w ∈ GW, w.before args s = true := fun w h => hts w (List.mem_cons_of_mem _ h)
  unfold fX5_puts at hf
  refine lv_iload_n hx hb dX5_puts_0 rfl (lv_at hl 1 rfl) ?_
  replace hf := ob_at hf
  obtain ⟨r1, er1, hf⟩ := hf
  refine k_goI0 w [] rfl (va_runS (As := [.int a1]) (rest := []) ⟨hx, hb, hml, hown, hg⟩ (tX5_noPiece l D cI cZ b0 tt a1 er1 H.size) (va_cwS 1 hg (gwS w_621 w_622 w_7 w_623) rfl rfl rfl qdX5_noPiece ⟨Nat.le_of_ble_eq_true rfl, Nat.le_of_ble_eq_true rfl⟩) (k_preS w [] (by decide) rfl) rfl rfl hl.1 rfl (lv_room (Nat.le_of_ble_eq_true rfl)) dX5_puts_1 ⟨Nat.le_refl _, Nat.le_refl _⟩) (fun H locs w => ?_)
  refine lv_if_ne (tgt := 31) hx hb dX5_puts_4 (by decide) (fun c2 => ?_) (fun c2 => ?_)
  · replace hf := ite_f c2 hf
    refine lv_iconst (v := 0) hx hb dX5_puts_31 (by decide) ?_
    refine lv_istore_n (lv' := [(3, .int 0), (0, .ref m_a), (1, .int a1), (2, .int a2)]) hx hb dX5_puts_32 rfl hl (by decide) rfl (fun ls hl => ?_)
    refine lv_iload_n hx hb dX5_puts_33 rfl (lv_at hl 0 rfl) ?_
    refine lv_if_eq (tgt := 48) hx hb dX5_puts_34 (by decide) (fun c3 => ?_) (fun c3 => ?_)
    rotate_left
    · exact absurd c3 (by decide)
    · skip
      refine lv_iload_n hx hb dX5_puts_48 rfl (lv_at hl 0 rfl) ?_
      exact k_zret (u := (m_trial, m_loads)) hx hb hr hlk w rfl rfl hf dX5_puts_49
  · replace hf := ite_t c2 hf
    refine lv_iload_n hx hb dX5_puts_7 rfl (lv_at hl 2 rfl) ?_
    replace hf := ob_at hf
    obtain ⟨r4, er4, hf⟩ := hf
    refine k_goI0 w [] rfl (va_runS (As := [.int a2]) (rest := []) ⟨hx, hb, hml, hown, hg⟩ (tX5_noKind l D cI cZ b0 tt a2 er4 H.size) (va_cwS 1 hg (gwS w_676 w_677 w_7 w_678) rfl rfl rfl qdX5_noKind ⟨Nat.le_of_ble_eq_true rfl, Nat.le_of_ble_eq_true rfl⟩) (k_preS w [] (by decide) rfl) rfl rfl hl.1 rfl (lv_room (Nat.le_of_ble_eq_true rfl)) dX5_puts_8 ⟨Nat.le_refl _, Nat.le_refl _⟩) (fun H locs w => ?_)
    refine lv_if_ne (tgt := 31) hx hb dX5_puts_11 (by decide) (fun c5 => ?_) (fun c5 => ?_)
    · replace hf := ite_f c5 hf
      refine lv_iconst (v := 0) hx hb dX5_puts_31 (by decide) ?_
      refine lv_istore_n (lv' := [(3, .int 0), (0, .ref m_a), (1, .int a1), (2, .int a2)]) hx hb dX5_puts_32 rfl hl (by decide) rfl (fun ls hl => ?_)
      refine lv_iload_n hx hb dX5_puts_33 rfl (lv_at hl 0 rfl) ?_
      refine lv_if_eq (tgt := 48) hx hb dX5_puts_34 (by decide) (fun c6 => ?_) (fun c6 => ?_)
      rotate_left
      · exact absurd c6 (by decide)
      · skip
        refine lv_iload_n hx hb dX5_puts_48 rfl (lv_at hl 0 rfl) ?_
        exact k_zret (u := (m_trial, m_loads)) hx hb hr hlk w rfl rfl hf dX5_puts_49
    · replace hf := ite_t c5 hf
      refine lv_aload_n hx hb dX5_puts_14 rfl (lv_at hl 0 rfl) ?_
      refine lv_aload_n hx hb dX5_puts_15 rfl (lv_at hl 0 rfl) ?_
      refine va_get (D := D) (ci := 5) (v := .ref q_trial) (C := RX5) (T := TX5) (N := 26) hx hb hg iX5 hown w.2.2.2.2.2.2.1 w.1 0 rfl rfl 8 (by decide) (hg _ w_497) (fun _ h9 => h9) rfl dX5_puts_16 ?_
      refine lv_iload_n hx hb dX5_puts_19 rfl (lv_at hl 1 rfl) ?_
      refine lv_iload_n hx hb dX5_puts_20 rfl (lv_at hl 2 rfl) ?_
      replace hf := ob_at hf
      obtain ⟨r7, er7, hf⟩ := hf
      refine k_goI0 w [0, 6, 7, 2] rfl (va_runV (As := [.ref q_trial, .int a1, .int a2]) (rest := []) ⟨hx, hb, hml, hown, hg⟩ (tX5_canPut l D cI cZ b0 tt m_a q_text q_cards q_readCards q_readPage q_page q_trial q_loads q_book q_kept q_isKept q_heldWho q_heldForce q_heldLoad q_heldIs q_gains q_value q_trial m_thrown m_textSize m_place m_acts m_held m_seed m_tentMany m_tentFirst m_restMany m_restFirst m_trial m_loads m_cards a1 a2 er7 H.size) (cwV 3 hg (gwV w_692 w_693 w_855 w_7 w_694) rfl rfl rfl ⟨rfl, qdX5_canPut⟩ ⟨Nat.le_of_ble_eq_true rfl, Nat.le_of_ble_eq_true rfl⟩) (k_preV w [0, 6, 7, 2] (by decide) rfl (q0 := 0) rfl rfl) rfl rfl hl.1 rfl (lv_room (Nat.le_of_ble_eq_true rfl)) dX5_puts_21 ⟨Nat.le_refl _, Nat.le_refl _⟩) (fun H locs w => ?_)
      refine lv_if_eq (tgt := 31) hx hb dX5_puts_24 (by decide) (fun c8 => ?_) (fun c8 => ?_)
      · replace hf := ite_t c8 hf
        refine lv_iconst (v := 0) hx hb dX5_puts_31 (by decide) ?_
        refine lv_istore_n (lv' := [(3, .int 0), (0, .ref m_a), (1, .int a1), (2, .int a2)]) hx hb dX5_puts_32 rfl hl (by decide) rfl (fun ls hl => ?_)
        refine lv_iload_n hx hb dX5_puts_33 rfl (lv_at hl 0 rfl) ?_
        refine lv_if_eq (tgt := 48) hx hb dX5_puts_34 (by decide) (fun c9 => ?_) (fun c9 => ?_)
        rotate_left
        · exact absurd c9 (by decide)
        · skip
          refine lv_iload_n hx hb dX5_puts_48 rfl (lv_at hl 0 rfl) ?_
          exact k_zret (u := (m_trial, m_loads)) hx hb hr hlk w rfl rfl hf dX5_puts_49
      · replace hf := ite_f c8 hf
        refine lv_iconst (v := 1) hx hb dX5_puts_27 (by decide) ?_
        refine lv_goto (tgt := 32) hx hb dX5_puts_28 (by decide) ?_
        refine lv_istore_n (lv' := [(3, .int 1), (0, .ref m_a), (1, .int a1), (2, .int a2)]) hx hb dX5_puts_32 rfl hl (by decide) rfl (fun ls hl => ?_)
        refine lv_iload_n hx hb dX5_puts_33 rfl (lv_at hl 0 rfl) ?_
        refine lv_if_eq (tgt := 48) hx hb dX5_puts_34 (by decide) (fun c10 => ?_) (fun c10 => ?_)
        · exact absurd c10 (by decide)
        · skip
          refine lv_aload_n hx hb dX5_puts_37 rfl (lv_at hl 1 rfl) ?_
          refine lv_aload_n hx hb dX5_puts_38 rfl (lv_at hl 1 rfl) ?_
          refine va_get (D := D) (ci := 5) (v := .ref q_trial) (C := RX5) (T := TX5) (N := 26) hx hb hg iX5 hown w.2.2.2.2.2.2.1 w.1 0 rfl rfl 8 (by decide) (hg _ w_497) (fun _ h9 => h9) rfl dX5_puts_39 ?_
          refine lv_iload_n hx hb dX5_puts_42 rfl (lv_at hl 2 rfl) ?_
          refine lv_iload_n hx hb dX5_puts_43 rfl (lv_at hl 3 rfl) ?_
          replace hf := ob_at hf
          obtain ⟨r11, er11, hf⟩ := hf
          refine k_goI (v0 := (m_trial, m_loads)) (res := r11) w [0, 6, 7, 2] rfl (fun _ => rfl) (va_runV (As := [.ref q_trial, .int a1, .int a2]) (rest := []) ⟨hx, hb, hml, hown, hg⟩ (tX5_goPut l D cI cZ b0 tt m_a q_text q_cards q_readCards q_readPage q_page q_trial q_loads q_book q_kept q_isKept q_heldWho q_heldForce q_heldLoad q_heldIs q_gains q_value q_trial m_thrown m_textSize m_place m_acts m_held m_seed m_tentMany m_tentFirst m_restMany m_restFirst m_trial m_loads m_cards a1 a2 er11 H.size) (cwV 3 hg (gwV w_698 w_699 w_857 w_7 w_700) rfl rfl rfl ⟨rfl, qdX5_goPut⟩ ⟨Nat.le_of_ble_eq_true rfl, Nat.le_of_ble_eq_true rfl⟩) (k_preV w [0, 6, 7, 2] (by decide) rfl (q0 := 0) rfl rfl) rfl rfl hl.1 rfl (lv_room (Nat.le_of_ble_eq_true rfl)) dX5_puts_44 ⟨Nat.le_refl _, Nat.le_refl _⟩) (fun H locs w => ?_)
          have w : Wd D cI cZ b0 tt A s [(m_a, .inr (5, [.int m_thrown, .ref q_text, .int m_textSize, .int m_place, .ref q_cards, .ref q_readCards, .ref q_readPage, .ref q_page, .ref q_trial, .ref q_loads, .ref q_book, .int m_acts, .ref q_kept, .ref q_isKept, .int m_held, .ref q_heldWho, .ref q_heldForce, .ref q_heldLoad, .ref q_heldIs, .long m_seed, .int m_tentMany, .int m_tentFirst, .int m_restMany, .int m_restFirst, .ref q_gains, .ref q_value])), (q_text, .inl (cI, 56, .inl m_text)), (q_cards, .inl (cI, 4, .inl m_cards)), (q_readCards, .inl (cI, 4, .inl m_readCards)), (q_readPage, .inl (cI, 17, .inl m_readPage)), (q_page, .inl (cI, 17, .inl m_page)), (q_trial, .inl (cI, 17, .inl r11.2.1)), (q_loads, .inl (cI, 16, .inl r11.2.2)), (q_book, .inl (cI, 238, .inl m_book)), (q_kept, .inl (cI, 34, .inl m_kept)), (q_isKept, .inl (cZ, 2, .inl m_isKept)), (q_heldWho, .inl (cI, 6, .inl m_heldWho)), (q_heldForce, .inl (cI, 6, .inl m_heldForce)), (q_heldLoad, .inl (cI, 6, .inl m_heldLoad)), (q_heldIs, .inl (cI, 6, .inl m_heldIs)), (q_gains, .inl (cI, 50, .inl m_gains)), (q_value, .inl (cI, 16, .inl m_value))] H locs := w
          refine lv_pop hx hb dX5_puts_47 rfl ?_
          refine lv_iload_n hx hb dX5_puts_48 rfl (lv_at hl 0 rfl) ?_
          exact k_zret (u := (r11.2.1, r11.2.2)) hx hb hr hlk w rfl rfl hf dX5_puts_49
-- X5_takes
def fX5_takes  (m_trial : Nat → Int32) (a1 : Int32) : Option (Int32 × (Nat → Int32)) := ob (fX5_noPiece a1) (fun r1 => (if r1 = 0 then gd a1 17 ((if (m_trial (Int32.toNatClampNeg a1)) ≤ 0 then some (0, m_trial) else ob (fX5_isTop m_trial a1) (fun r7 => (if r7 = 0 then some (0, m_trial) else gd a1 17 (some (1, (upd m_trial (Int32.toNatClampNeg a1) 0))))))) else some (0, m_trial)))
set_option maxRecDepth 100000 in
set_option maxHeartbeats 4000000 in
theorem tX5_takes (l : Launch) (D : va_G) (cI cZ : ClassId) (b0 : Nat) (tt : Nat → Nat)  (m_a q_text q_cards q_readCards q_readPage q_page q_trial q_loads q_book q_kept q_isKept q_heldWho q_heldForce q_heldLoad q_heldIs q_gains q_value : Nat) (m_thrown : Int32) (m_textSize : Int32) (m_place : Int32) (m_acts : Int32) (m_held : Int32) (m_seed : Int64) (m_tentMany : Int32) (m_tentFirst : Int32) (m_restMany : Int32) (m_restFirst : Int32) (m_text : Nat → Int32) (m_cards : Nat → Int32) (m_readCards : Nat → Int32) (m_readPage : Nat → Int32) (m_page : Nat → Int32) (m_trial : Nat → Int32) (m_loads : Nat → Int32) (m_book : Nat → Int32) (m_kept : Nat → Int32) (m_isKept : Nat → Int32) (m_heldWho : Nat → Int32) (m_heldForce : Nat → Int32) (m_heldLoad : Nat → Int32) (m_heldIs : Nat → Int32) (m_gains : Nat → Int32) (m_value : Nat → Int32) (a1 : Int32) {res : Int32 × (Nat → Int32)} (hf : fX5_takes m_trial a1 = some res) : CtI l yX5_takes (cwX5_takes :: GW) 3 64 D cI cZ b0 tt [.ref m_a, .int a1] (fun u : (Nat → Int32) => [(m_a, .inr (5, [.int m_thrown, .ref q_text, .int m_textSize, .int m_place, .ref q_cards, .ref q_readCards, .ref q_readPage, .ref q_page, .ref q_trial, .ref q_loads, .ref q_book, .int m_acts, .ref q_kept, .ref q_isKept, .int m_held, .ref q_heldWho, .ref q_heldForce, .ref q_heldLoad, .ref q_heldIs, .long m_seed, .int m_tentMany, .int m_tentFirst, .int m_restMany, .int m_restFirst, .ref q_gains, .ref q_value])), (q_text, .inl (cI, 56, .inl m_text)), (q_cards, .inl (cI, 4, .inl m_cards)), (q_readCards, .inl (cI, 4, .inl m_readCards)), (q_readPage, .inl (cI, 17, .inl m_readPage)), (q_page, .inl (cI, 17, .inl m_page)), (q_trial, .inl (cI, 17, .inl u)), (q_loads, .inl (cI, 16, .inl m_loads)), (q_book, .inl (cI, 238, .inl m_book)), (q_kept, .inl (cI, 34, .inl m_kept)), (q_isKept, .inl (cZ, 2, .inl m_isKept)), (q_heldWho, .inl (cI, 6, .inl m_heldWho)), (q_heldForce, .inl (cI, 6, .inl m_heldForce)), (q_heldLoad, .inl (cI, 6, .inl m_heldLoad)), (q_heldIs, .inl (cI, 6, .inl m_heldIs)), (q_gains, .inl (cI, 50, .inl m_gains)), (q_value, .inl (cI, 16, .inl m_value))]) m_trial res := by
  intro sz
  refine k_begin (cc := cX5_takes) (maxL := 3) (ret := (some .boolean)) (by decide) rfl (Nat.le_of_ble_eq_true rfl) ?_
  intro p e s m below meth c ls C w hl
  generalize va_A _ sz = A at w ⊢
  have w : Wd D cI cZ b0 tt A s [(m_a, .inr (5, [.int m_thrown, .ref q_text, .int m_textSize, .int m_place, .ref q_cards, .ref q_readCards, .ref q_readPage, .ref q_page, .ref q_trial, .ref q_loads, .ref q_book, .int m_acts, .ref q_kept, .ref q_isKept, .int m_held, .ref q_heldWho, .ref q_heldForce, .ref q_heldLoad, .ref q_heldIs, .long m_seed, .int m_tentMany, .int m_tentFirst, .int m_restMany, .int m_restFirst, .ref q_gains, .ref q_value])), (q_text, .inl (cI, 56, .inl m_text)), (q_cards, .inl (cI, 4, .inl m_cards)), (q_readCards, .inl (cI, 4, .inl m_readCards)), (q_readPage, .inl (cI, 17, .inl m_readPage)), (q_page, .inl (cI, 17, .inl m_page)), (q_trial, .inl (cI, 17, .inl m_trial)), (q_loads, .inl (cI, 16, .inl m_loads)), (q_book, .inl (cI, 238, .inl m_book)), (q_kept, .inl (cI, 34, .inl m_kept)), (q_isKept, .inl (cZ, 2, .inl m_isKept)), (q_heldWho, .inl (cI, 6, .inl m_heldWho)), (q_heldForce, .inl (cI, 6, .inl m_heldForce)), (q_heldLoad, .inl (cI, 6, .inl m_heldLoad)), (q_heldIs, .inl (cI, 6, .inl m_heldIs)), (q_gains, .inl (cI, 50, .inl m_gains)), (q_value, .inl (cI, 16, .inl m_value))] s.heap [] := w
  have hl : lv_has ls 3 [(0, .ref m_a), (1, .int a1)] := hl
  obtain ⟨H, eH⟩ : ∃ H, H = s.heap := ⟨_, rfl⟩
  rw [← eH] at w ⊢
  generalize ([] : List Loc) = locs at w ⊢
  generalize List.toArray _ = args at C ⊢
  obtain ⟨hx, hb, hr, hml, hown, hts, hlk⟩ := id C
  have hg : ∀ w ∈ GW, w.before args s = true := fun w h => hts w (List.mem_cons_of_mem _ h)
  unfold fX5_takes at hf
  refine lv_iload_n hx hb dX5_takes_0 rfl (lv_at hl 1 rfl) ?_
  replace hf := ob_at hf
  obtain ⟨r1, er1, hf⟩ := hf
  refine k_goI0 w [] rfl (va_runS (As := [.int a1]) (rest := []) ⟨hx, hb, hml, hown, hg⟩ (tX5_noPiece l D cI cZ b0 tt a1 er1 H.size) (va_cwS 1 hg (gwS w_621 w_622 w_7 w_623) rfl rfl rfl qdX5_noPiece ⟨Nat.le_of_ble_eq_true rfl, Nat.le_of_ble_eq_true rfl⟩) (k_preS w [] (by decide) rfl) rfl rfl hl.1 rfl (lv_room (Nat.le_of_ble_eq_true rfl)) dX5_takes_1 ⟨Nat.le_refl _, Nat.le_refl _⟩) (fun H locs w => ?_)
  refine lv_if_ne (tgt := 31) hx hb dX5_takes_4 (by decide) (fun c2 => ?_) (fun c2 => ?_)
  · replace hf := ite_f c2 hf
    refine lv_iconst (v := 0) hx hb dX5_takes_31 (by decide) ?_
    refine lv_istore_n (lv' := [(2, .int 0), (0, .ref m_a), (1, .int a1)]) hx hb dX5_takes_32 rfl hl (by decide) rfl (fun ls hl => ?_)
    refine lv_iload_n hx hb dX5_takes_33 rfl (lv_at hl 0 rfl) ?_
    refine lv_if_eq (tgt := 44) hx hb dX5_takes_34 (by decide) (fun c3 => ?_) (fun c3 => ?_)
    rotate_left
    · exact absurd c3 (by decide)
    · skip
      refine lv_iload_n hx hb dX5_takes_44 rfl (lv_at hl 0 rfl) ?_
      exact k_zret (u := m_trial) hx hb hr hlk w rfl rfl hf dX5_takes_45
  · replace hf := ite_t c2 hf
    refine lv_aload_n hx hb dX5_takes_7 rfl (lv_at hl 0 rfl) ?_
    refine va_get (D := D) (ci := 5) (v := .ref q_trial) (C := RX5) (T := TX5) (N := 26) hx hb hg iX5 hown w.2.2.2.2.2.2.1 w.1 0 rfl rfl 8 (by decide) (hg _ w_497) (fun _ h9 => h9) rfl dX5_takes_8 ?_
    refine lv_iload_n hx hb dX5_takes_11 rfl (lv_at hl 1 rfl) ?_
    replace hf := gd_at hf
    obtain ⟨hi4, hf⟩ := hf
    refine va_iald hx hb w.2.2.2.2.2.2.1 w.1 6 0 rfl rfl hi4 dX5_takes_12 ?_
    refine lv_if_le (tgt := 31) hx hb dX5_takes_13 (by decide) (fun c5 => ?_) (fun c5 => ?_)
    · replace hf := ite_t c5 hf
      refine lv_iconst (v := 0) hx hb dX5_takes_31 (by decide) ?_
      refine lv_istore_n (lv' := [(2, .int 0), (0, .ref m_a), (1, .int a1)]) hx hb dX5_takes_32 rfl hl (by decide) rfl (fun ls hl => ?_)
      refine lv_iload_n hx hb dX5_takes_33 rfl (lv_at hl 0 rfl) ?_
      refine lv_if_eq (tgt := 44) hx hb dX5_takes_34 (by decide) (fun c6 => ?_) (fun c6 => ?_)
      rotate_left
      · exact absurd c6 (by decide)
      · skip
        refine lv_iload_n hx hb dX5_takes_44 rfl (lv_at hl 0 rfl) ?_
        exact k_zret (u := m_trial) hx hb hr hlk w rfl rfl hf dX5_takes_45
    · replace hf := ite_f c5 hf
      refine lv_aload_n hx hb dX5_takes_16 rfl (lv_at hl 0 rfl) ?_
      refine va_get (D := D) (ci := 5) (v := .ref q_trial) (C := RX5) (T := TX5) (N := 26) hx hb hg iX5 hown w.2.2.2.2.2.2.1 w.1 0 rfl rfl 8 (by decide) (hg _ w_497) (fun _ h9 => h9) rfl dX5_takes_17 ?_
      refine lv_iload_n hx hb dX5_takes_20 rfl (lv_at hl 1 rfl) ?_
      replace hf := ob_at hf
      obtain ⟨r7, er7, hf⟩ := hf
      refine k_goI0 w [6] rfl (va_runS (As := [.ref q_trial, .int a1]) (rest := []) ⟨hx, hb, hml, hown, hg⟩ (tX5_isTop l D cI cZ b0 tt q_trial m_trial a1 er7 H.size) (va_cwS 2 hg (gwS w_685 w_686 w_7 w_687) rfl rfl rfl qdX5_isTop ⟨Nat.le_of_ble_eq_true rfl, Nat.le_of_ble_eq_true rfl⟩) (k_preS w [6] (by decide) rfl) rfl rfl hl.1 rfl (lv_room (Nat.le_of_ble_eq_true rfl)) dX5_takes_21 ⟨Nat.le_refl _, Nat.le_refl _⟩) (fun H locs w => ?_)
      refine lv_if_eq (tgt := 31) hx hb dX5_takes_24 (by decide) (fun c8 => ?_) (fun c8 => ?_)
      · replace hf := ite_t c8 hf
        refine lv_iconst (v := 0) hx hb dX5_takes_31 (by decide) ?_
        refine lv_istore_n (lv' := [(2, .int 0), (0, .ref m_a), (1, .int a1)]) hx hb dX5_takes_32 rfl hl (by decide) rfl (fun ls hl => ?_)
        refine lv_iload_n hx hb dX5_takes_33 rfl (lv_at hl 0 rfl) ?_
        refine lv_if_eq (tgt := 44) hx hb dX5_takes_34 (by decide) (fun c9 => ?_) (fun c9 => ?_)
        rotate_left
        · exact absurd c9 (by decide)
        · skip
          refine lv_iload_n hx hb dX5_takes_44 rfl (lv_at hl 0 rfl) ?_
          exact k_zret (u := m_trial) hx hb hr hlk w rfl rfl hf dX5_takes_45
      · replace hf := ite_f c8 hf
        refine lv_iconst (v := 1) hx hb dX5_takes_27 (by decide) ?_
        refine lv_goto (tgt := 32) hx hb dX5_takes_28 (by decide) ?_
        refine lv_istore_n (lv' := [(2, .int 1), (0, .ref m_a), (1, .int a1)]) hx hb dX5_takes_32 rfl hl (by decide) rfl (fun ls hl => ?_)
        refine lv_iload_n hx hb dX5_takes_33 rfl (lv_at hl 0 rfl) ?_
        refine lv_if_eq (tgt := 44) hx hb dX5_takes_34 (by decide) (fun c10 => ?_) (fun c10 => ?_)
        · exact absurd c10 (by decide)
        · skip
          refine lv_aload_n hx hb dX5_takes_37 rfl (lv_at hl 1 rfl) ?_
          refine va_get (D := D) (ci := 5) (v := .ref q_trial) (C := RX5) (T := TX5) (N := 26) hx hb hg iX5 hown w.2.2.2.2.2.2.1 w.1 0 rfl rfl 8 (by decide) (hg _ w_497) (fun _ h9 => h9) rfl dX5_takes_38 ?_
          refine lv_iload_n hx hb dX5_takes_41 rfl (lv_at hl 2 rfl) ?_
          refine lv_iconst (v := 0) hx hb dX5_takes_42 (by decide) ?_
          replace hf := gd_at hf
          obtain ⟨hi11, hf⟩ := hf
          refine k_iast hx hb w 6 rfl hi11 dX5_takes_43 (fun H locs w => ?_)
          have w : Wd D cI cZ b0 tt A s [(m_a, .inr (5, [.int m_thrown, .ref q_text, .int m_textSize, .int m_place, .ref q_cards, .ref q_readCards, .ref q_readPage, .ref q_page, .ref q_trial, .ref q_loads, .ref q_book, .int m_acts, .ref q_kept, .ref q_isKept, .int m_held, .ref q_heldWho, .ref q_heldForce, .ref q_heldLoad, .ref q_heldIs, .long m_seed, .int m_tentMany, .int m_tentFirst, .int m_restMany, .int m_restFirst, .ref q_gains, .ref q_value])), (q_text, .inl (cI, 56, .inl m_text)), (q_cards, .inl (cI, 4, .inl m_cards)), (q_readCards, .inl (cI, 4, .inl m_readCards)), (q_readPage, .inl (cI, 17, .inl m_readPage)), (q_page, .inl (cI, 17, .inl m_page)), (q_trial, .inl (cI, 17, .inl (upd m_trial (Int32.toNatClampNeg a1) 0))), (q_loads, .inl (cI, 16, .inl m_loads)), (q_book, .inl (cI, 238, .inl m_book)), (q_kept, .inl (cI, 34, .inl m_kept)), (q_isKept, .inl (cZ, 2, .inl m_isKept)), (q_heldWho, .inl (cI, 6, .inl m_heldWho)), (q_heldForce, .inl (cI, 6, .inl m_heldForce)), (q_heldLoad, .inl (cI, 6, .inl m_heldLoad)), (q_heldIs, .inl (cI, 6, .inl m_heldIs)), (q_gains, .inl (cI, 50, .inl m_gains)), (q_value, .inl (cI, 16, .inl m_value))] H locs := w
          refine lv_iload_n hx hb dX5_takes_44 rfl (lv_at hl 0 rfl) ?_
          exact k_zret (u := (upd m_trial (Int32.toNatClampNeg a1) 0)) hx hb hr hlk w rfl rfl hf dX5_takes_45
-- X5_blows
def fX5_blows  (m_trial : Nat → Int32) (m_loads : Nat → Int32) (a1 : Int32) (a2 : Int32) : Option (Int32 × (Nat → Int32) × (Nat → Int32)) := ob (fX5_in (Int32.toInt64 a1) 0 3) (fun r1 => (if r1 = 0 then some (0, (m_trial, m_loads)) else (if a2 ≤ 0 then some (0, (m_trial, m_loads)) else ob (fX5_goDraught m_trial m_loads a1 a2) (fun r7 => some (1, (r7.2.1, r7.2.2))))))
set_option maxRecDepth 100000 in
set_option maxHeartbeats 4000000 in
theorem tX5_blows (l : Launch) (D : va_G) (cI cZ : ClassId) (b0 : Nat) (tt : Nat → Nat)  (m_a q_text q_cards q_readCards q_readPage q_page q_trial q_loads q_book q_kept q_isKept q_heldWho q_heldForce q_heldLoad q_heldIs q_gains q_value : Nat) (m_thrown : Int32) (m_textSize : Int32) (m_place : Int32) (m_acts : Int32) (m_held : Int32) (m_seed : Int64) (m_tentMany : Int32) (m_tentFirst : Int32) (m_restMany : Int32) (m_restFirst : Int32) (m_text : Nat → Int32) (m_cards : Nat → Int32) (m_readCards : Nat → Int32) (m_readPage : Nat → Int32) (m_page : Nat → Int32) (m_trial : Nat → Int32) (m_loads : Nat → Int32) (m_book : Nat → Int32) (m_kept : Nat → Int32) (m_isKept : Nat → Int32) (m_heldWho : Nat → Int32) (m_heldForce : Nat → Int32) (m_heldLoad : Nat → Int32) (m_heldIs : Nat → Int32) (m_gains : Nat → Int32) (m_value : Nat → Int32) (a1 : Int32) (a2 : Int32) {res : Int32 × (Nat → Int32) × (Nat → Int32)} (hf : fX5_blows m_trial m_loads a1 a2 = some res) : CtI l yX5_blows (cwX5_blows :: GW) 7 156 D cI cZ b0 tt [.ref m_a, .int a1, .int a2] (fun u : (Nat → Int32) × (Nat → Int32) => [(m_a, .inr (5, [.int m_thrown, .ref q_text, .int m_textSize, .int m_place, .ref q_cards, .ref q_readCards, .ref q_readPage, .ref q_page, .ref q_trial, .ref q_loads, .ref q_book, .int m_acts, .ref q_kept, .ref q_isKept, .int m_held, .ref q_heldWho, .ref q_heldForce, .ref q_heldLoad, .ref q_heldIs, .long m_seed, .int m_tentMany, .int m_tentFirst, .int m_restMany, .int m_restFirst, .ref q_gains, .ref q_value])), (q_text, .inl (cI, 56, .inl m_text)), (q_cards, .inl (cI, 4, .inl m_cards)), (q_readCards, .inl (cI, 4, .inl m_readCards)), (q_readPage, .inl (cI, 17, .inl m_readPage)), (q_page, .inl (cI, 17, .inl m_page)), (q_trial, .inl (cI, 17, .inl u.1)), (q_loads, .inl (cI, 16, .inl u.2)), (q_book, .inl (cI, 238, .inl m_book)), (q_kept, .inl (cI, 34, .inl m_kept)), (q_isKept, .inl (cZ, 2, .inl m_isKept)), (q_heldWho, .inl (cI, 6, .inl m_heldWho)), (q_heldForce, .inl (cI, 6, .inl m_heldForce)), (q_heldLoad, .inl (cI, 6, .inl m_heldLoad)), (q_heldIs, .inl (cI, 6, .inl m_heldIs)), (q_gains, .inl (cI, 50, .inl m_gains)), (q_value, .inl (cI, 16, .inl m_value))]) (m_trial, m_loads) res := by
  intro sz
  refine k_begin (cc := cX5_blows) (maxL := 4) (ret := (some .boolean)) (by decide) rfl (Nat.le_of_ble_eq_true rfl) ?_
  intro p e s m below meth c ls C w hl
  generalize va_A _ sz = A at w ⊢
  have w : Wd D cI cZ b0 tt A s [(m_a, .inr (5, [.int m_thrown, .ref q_text, .int m_textSize, .int m_place, .ref q_cards, .ref q_readCards, .ref q_readPage, .ref q_page, .ref q_trial, .ref q_loads, .ref q_book, .int m_acts, .ref q_kept, .ref q_isKept, .int m_held, .ref q_heldWho, .ref q_heldForce, .ref q_heldLoad, .ref q_heldIs, .long m_seed, .int m_tentMany, .int m_tentFirst, .int m_restMany, .int m_restFirst, .ref q_gains, .ref q_value])), (q_text, .inl (cI, 56, .inl m_text)), (q_cards, .inl (cI, 4, .inl m_cards)), (q_readCards, .inl (cI, 4, .inl m_readCards)), (q_readPage, .inl (cI, 17, .inl m_readPage)), (q_page, .inl (cI, 17, .inl m_page)), (q_trial, .inl (cI, 17, .inl m_trial)), (q_loads, .inl (cI, 16, .inl m_loads)), (q_book, .inl (cI, 238, .inl m_book)), (q_kept, .inl (cI, 34, .inl m_kept)), (q_isKept, .inl (cZ, 2, .inl m_isKept)), (q_heldWho, .inl (cI, 6, .inl m_heldWho)), (q_heldForce, .inl (cI, 6, .inl m_heldForce)), (q_heldLoad, .inl (cI, 6, .inl m_heldLoad)), (q_heldIs, .inl (cI, 6, .inl m_heldIs)), (q_gains, .inl (cI, 50, .inl m_gains)), (q_value, .inl (cI, 16, .inl m_value))] s.heap [] := w
  have hl : lv_has ls 4 [(0, .ref m_a), (1, .int a1), (2, .int a2)] := hl
  obtain ⟨H, eH⟩ : ∃ H, H = s.heap := ⟨_, rfl⟩
  rw [← eH] at w ⊢
  generalize ([] : List Loc) = locs at w ⊢
  generalize List.toArray _ = args at C ⊢
  obtain ⟨hx, hb, hr, hml, hown, hts, hlk⟩ := id C
  have hg : ∀ w ∈ GW, w.before args s = true := fun w h => hts w (List.mem_cons_of_mem _ h)
  unfold fX5_blows at hf
  refine lv_iload_n hx hb dX5_blows_0 rfl (lv_at hl 1 rfl) ?_
  refine lv_i2l (v := (Int32.toInt64 a1)) hx hb dX5_blows_1 rfl ?_
  refine lv_lconst (v := 0) hx hb dX5_blows_2 (by decide) ?_
  refine lv_ldc2 hx hb hown (hg _ w_679) dX5_blows_3 ?_
  replace hf := ob_at hf
  obtain ⟨r1, er1, hf⟩ := hf
  refine k_goI0 w [] rfl (va_runS (As := [.long (Int32.toInt64 a1), .long 0, .long 3]) (rest := []) ⟨hx, hb, hml, hown, hg⟩ (tX5_in l D cI cZ b0 tt (Int32.toInt64 a1) 0 3 er1 H.size) (va_cwS 3 hg (gwS w_574 w_575 w_7 w_576) rfl rfl rfl qdX5_in ⟨Nat.le_of_ble_eq_true rfl, Nat.le_of_ble_eq_true rfl⟩) (k_preS w [] (by decide) rfl) rfl rfl hl.1 rfl (lv_room (Nat.le_of_ble_eq_true rfl)) dX5_blows_6 ⟨Nat.le_refl _, Nat.le_refl _⟩) (fun H locs w => ?_)
  refine lv_if_eq (tgt := 20) hx hb dX5_blows_9 (by decide) (fun c2 => ?_) (fun c2 => ?_)
  · replace hf := ite_t c2 hf
    refine lv_iconst (v := 0) hx hb dX5_blows_20 (by decide) ?_
    refine lv_istore_n (lv' := [(3, .int 0), (0, .ref m_a), (1, .int a1), (2, .int a2)]) hx hb dX5_blows_21 rfl hl (by decide) rfl (fun ls hl => ?_)
    refine lv_iload_n hx hb dX5_blows_22 rfl (lv_at hl 0 rfl) ?_
    refine lv_if_eq (tgt := 37) hx hb dX5_blows_23 (by decide) (fun c3 => ?_) (fun c3 => ?_)
    rotate_left
    · exact absurd c3 (by decide)
    · skip
      refine lv_iload_n hx hb dX5_blows_37 rfl (lv_at hl 0 rfl) ?_
      exact k_zret (u := (m_trial, m_loads)) hx hb hr hlk w rfl rfl hf dX5_blows_38
  · replace hf := ite_f c2 hf
    refine lv_iload_n hx hb dX5_blows_12 rfl (lv_at hl 2 rfl) ?_
    refine lv_if_le (tgt := 20) hx hb dX5_blows_13 (by decide) (fun c4 => ?_) (fun c4 => ?_)
    · replace hf := ite_t c4 hf
      refine lv_iconst (v := 0) hx hb dX5_blows_20 (by decide) ?_
      refine lv_istore_n (lv' := [(3, .int 0), (0, .ref m_a), (1, .int a1), (2, .int a2)]) hx hb dX5_blows_21 rfl hl (by decide) rfl (fun ls hl => ?_)
      refine lv_iload_n hx hb dX5_blows_22 rfl (lv_at hl 0 rfl) ?_
      refine lv_if_eq (tgt := 37) hx hb dX5_blows_23 (by decide) (fun c5 => ?_) (fun c5 => ?_)
      rotate_left
      · exact absurd c5 (by decide)
      · skip
        refine lv_iload_n hx hb dX5_blows_37 rfl (lv_at hl 0 rfl) ?_
        exact k_zret (u := (m_trial, m_loads)) hx hb hr hlk w rfl rfl hf dX5_blows_38
    · replace hf := ite_f c4 hf
      refine lv_iconst (v := 1) hx hb dX5_blows_16 (by decide) ?_
      refine lv_goto (tgt := 21) hx hb dX5_blows_17 (by decide) ?_
      refine lv_istore_n (lv' := [(3, .int 1), (0, .ref m_a), (1, .int a1), (2, .int a2)]) hx hb dX5_blows_21 rfl hl (by decide) rfl (fun ls hl => ?_)
      refine lv_iload_n hx hb dX5_blows_22 rfl (lv_at hl 0 rfl) ?_
      refine lv_if_eq (tgt := 37) hx hb dX5_blows_23 (by decide) (fun c6 => ?_) (fun c6 => ?_)
      · exact absurd c6 (by decide)
      · skip
        refine lv_aload_n hx hb dX5_blows_26 rfl (lv_at hl 1 rfl) ?_
        refine lv_aload_n hx hb dX5_blows_27 rfl (lv_at hl 1 rfl) ?_
        refine va_get (D := D) (ci := 5) (v := .ref q_trial) (C := RX5) (T := TX5) (N := 26) hx hb hg iX5 hown w.2.2.2.2.2.2.1 w.1 0 rfl rfl 8 (by decide) (hg _ w_497) (fun _ h9 => h9) rfl dX5_blows_28 ?_
        refine lv_iload_n hx hb dX5_blows_31 rfl (lv_at hl 2 rfl) ?_
        refine lv_iload_n hx hb dX5_blows_32 rfl (lv_at hl 3 rfl) ?_
        replace hf := ob_at hf
        obtain ⟨r7, er7, hf⟩ := hf
        refine k_goI (v0 := (m_trial, m_loads)) (res := r7) w [0, 6, 7, 2] rfl (fun _ => rfl) (va_runV (As := [.ref q_trial, .int a1, .int a2]) (rest := []) ⟨hx, hb, hml, hown, hg⟩ (tX5_goDraught l D cI cZ b0 tt m_a q_text q_cards q_readCards q_readPage q_page q_trial q_loads q_book q_kept q_isKept q_heldWho q_heldForce q_heldLoad q_heldIs q_gains q_value q_trial m_thrown m_textSize m_place m_acts m_held m_seed m_tentMany m_tentFirst m_restMany m_restFirst m_trial m_loads m_cards a1 a2 er7 H.size) (cwV 3 hg (gwV w_710 w_711 w_858 w_7 w_712) rfl rfl rfl ⟨rfl, qdX5_goDraught⟩ ⟨Nat.le_of_ble_eq_true rfl, Nat.le_of_ble_eq_true rfl⟩) (k_preV w [0, 6, 7, 2] (by decide) rfl (q0 := 0) rfl rfl) rfl rfl hl.1 rfl (lv_room (Nat.le_of_ble_eq_true rfl)) dX5_blows_33 ⟨Nat.le_refl _, Nat.le_refl _⟩) (fun H locs w => ?_)
        have w : Wd D cI cZ b0 tt A s [(m_a, .inr (5, [.int m_thrown, .ref q_text, .int m_textSize, .int m_place, .ref q_cards, .ref q_readCards, .ref q_readPage, .ref q_page, .ref q_trial, .ref q_loads, .ref q_book, .int m_acts, .ref q_kept, .ref q_isKept, .int m_held, .ref q_heldWho, .ref q_heldForce, .ref q_heldLoad, .ref q_heldIs, .long m_seed, .int m_tentMany, .int m_tentFirst, .int m_restMany, .int m_restFirst, .ref q_gains, .ref q_value])), (q_text, .inl (cI, 56, .inl m_text)), (q_cards, .inl (cI, 4, .inl m_cards)), (q_readCards, .inl (cI, 4, .inl m_readCards)), (q_readPage, .inl (cI, 17, .inl m_readPage)), (q_page, .inl (cI, 17, .inl m_page)), (q_trial, .inl (cI, 17, .inl r7.2.1)), (q_loads, .inl (cI, 16, .inl r7.2.2)), (q_book, .inl (cI, 238, .inl m_book)), (q_kept, .inl (cI, 34, .inl m_kept)), (q_isKept, .inl (cZ, 2, .inl m_isKept)), (q_heldWho, .inl (cI, 6, .inl m_heldWho)), (q_heldForce, .inl (cI, 6, .inl m_heldForce)), (q_heldLoad, .inl (cI, 6, .inl m_heldLoad)), (q_heldIs, .inl (cI, 6, .inl m_heldIs)), (q_gains, .inl (cI, 50, .inl m_gains)), (q_value, .inl (cI, 16, .inl m_value))] H locs := w
        refine lv_pop hx hb dX5_blows_36 rfl ?_
        refine lv_iload_n hx hb dX5_blows_37 rfl (lv_at hl 0 rfl) ?_
        exact k_zret (u := (r7.2.1, r7.2.2)) hx hb hr hlk w rfl rfl hf dX5_blows_38
-- X5_does
def fX5_does  (m_cards : Nat → Int32) (m_trial : Nat → Int32) (m_loads : Nat → Int32) (a1 : Int32) : Option (Int32 × (Nat → Int32) × (Nat → Int32)) := nm (a1 / (1000 : Int32)) (fun z1 => nm ((a1 / (10 : Int32)) - (a1 / (10 : Int32)) / (100 : Int32) * (100 : Int32)) (fun z2 => nm (a1 - a1 / (10 : Int32) * (10 : Int32)) (fun z3 => (if z1 = 1 then ob (fX5_puts m_cards m_trial m_loads z2 z3) (fun r5 => gz r5.1 (some (r5.1, (r5.2.1, r5.2.2)))) else (if z1 = 2 then (if z3 = 0 then ob (fX5_takes m_trial z2) (fun r9 => (if r9.1 = 0 then some (0, (r9.2, m_loads)) else some (1, (r9.2, m_loads)))) else some (0, (m_trial, m_loads))) else (if z1 = 3 then ob (fX5_blows m_trial m_loads z2 z3) (fun r12 => gz r12.1 (some (r12.1, (r12.2.1, r12.2.2)))) else (if z1 = 4 then (if z3 = 0 then ob (fX5_noPiece z2) (fun r16 => (if r16 = 0 then gd z2 17 ((if (m_trial (Int32.toNatClampNeg z2)) ≤ 0 then some (0, (m_trial, m_loads)) else some (1, (m_trial, m_loads)))) else some (0, (m_trial, m_loads)))) else some (0, (m_trial, m_loads))) else (if z1 = 5 then (if z3 = 0 then ob (fX5_there m_trial) (fun r22 => ob (fX5_many r22) (fun r23 => (if r23 < z2 then some (0, (m_trial, m_loads)) else some (1, (m_trial, m_loads))))) else some (0, (m_trial, m_loads))) else some (0, (m_trial, m_loads))))))))))
set_option maxRecDepth 100000 in
set_option maxHeartbeats 4000000 in
theorem tX5_does (l : Launch) (D : va_G) (cI cZ : ClassId) (b0 : Nat) (tt : Nat → Nat)  (m_a q_text q_cards q_readCards q_readPage q_page q_trial q_loads q_book q_kept q_isKept q_heldWho q_heldForce q_heldLoad q_heldIs q_gains q_value : Nat) (m_thrown : Int32) (m_textSize : Int32) (m_place : Int32) (m_acts : Int32) (m_held : Int32) (m_seed : Int64) (m_tentMany : Int32) (m_tentFirst : Int32) (m_restMany : Int32) (m_restFirst : Int32) (m_text : Nat → Int32) (m_cards : Nat → Int32) (m_readCards : Nat → Int32) (m_readPage : Nat → Int32) (m_page : Nat → Int32) (m_trial : Nat → Int32) (m_loads : Nat → Int32) (m_book : Nat → Int32) (m_kept : Nat → Int32) (m_isKept : Nat → Int32) (m_heldWho : Nat → Int32) (m_heldForce : Nat → Int32) (m_heldLoad : Nat → Int32) (m_heldIs : Nat → Int32) (m_gains : Nat → Int32) (m_value : Nat → Int32) (a1 : Int32) {res : Int32 × (Nat → Int32) × (Nat → Int32)} (hf : fX5_does m_cards m_trial m_loads a1 = some res) : CtI l yX5_does (cwX5_does :: GW) 8 179 D cI cZ b0 tt [.ref m_a, .int a1] (fun u : (Nat → Int32) × (Nat → Int32) => [(m_a, .inr (5, [.int m_thrown, .ref q_text, .int m_textSize, .int m_place, .ref q_cards, .ref q_readCards, .ref q_readPage, .ref q_page, .ref q_trial, .ref q_loads, .ref q_book, .int m_acts, .ref q_kept, .ref q_isKept, .int m_held, .ref q_heldWho, .ref q_heldForce, .ref q_heldLoad, .ref q_heldIs, .long m_seed, .int m_tentMany, .int m_tentFirst, .int m_restMany, .int m_restFirst, .ref q_gains, .ref q_value])), (q_text, .inl (cI, 56, .inl m_text)), (q_cards, .inl (cI, 4, .inl m_cards)), (q_readCards, .inl (cI, 4, .inl m_readCards)), (q_readPage, .inl (cI, 17, .inl m_readPage)), (q_page, .inl (cI, 17, .inl m_page)), (q_trial, .inl (cI, 17, .inl u.1)), (q_loads, .inl (cI, 16, .inl u.2)), (q_book, .inl (cI, 238, .inl m_book)), (q_kept, .inl (cI, 34, .inl m_kept)), (q_isKept, .inl (cZ, 2, .inl m_isKept)), (q_heldWho, .inl (cI, 6, .inl m_heldWho)), (q_heldForce, .inl (cI, 6, .inl m_heldForce)), (q_heldLoad, .inl (cI, 6, .inl m_heldLoad)), (q_heldIs, .inl (cI, 6, .inl m_heldIs)), (q_gains, .inl (cI, 50, .inl m_gains)), (q_value, .inl (cI, 16, .inl m_value))]) (m_trial, m_loads) res := by
  intro sz
  refine k_begin (cc := cX5_does) (maxL := 5) (ret := (some .boolean)) (by decide) rfl (Nat.le_of_ble_eq_true rfl) ?_
  intro p e s m below meth c ls C w hl
  generalize va_A _ sz = A at w ⊢
  have w : Wd D cI cZ b0 tt A s [(m_a, .inr (5, [.int m_thrown, .ref q_text, .int m_textSize, .int m_place, .ref q_cards, .ref q_readCards, .ref q_readPage, .ref q_page, .ref q_trial, .ref q_loads, .ref q_book, .int m_acts, .ref q_kept, .ref q_isKept, .int m_held, .ref q_heldWho, .ref q_heldForce, .ref q_heldLoad, .ref q_heldIs, .long m_seed, .int m_tentMany, .int m_tentFirst, .int m_restMany, .int m_restFirst, .ref q_gains, .ref q_value])), (q_text, .inl (cI, 56, .inl m_text)), (q_cards, .inl (cI, 4, .inl m_cards)), (q_readCards, .inl (cI, 4, .inl m_readCards)), (q_readPage, .inl (cI, 17, .inl m_readPage)), (q_page, .inl (cI, 17, .inl m_page)), (q_trial, .inl (cI, 17, .inl m_trial)), (q_loads, .inl (cI, 16, .inl m_loads)), (q_book, .inl (cI, 238, .inl m_book)), (q_kept, .inl (cI, 34, .inl m_kept)), (q_isKept, .inl (cZ, 2, .inl m_isKept)), (q_heldWho, .inl (cI, 6, .inl m_heldWho)), (q_heldForce, .inl (cI, 6, .inl m_heldForce)), (q_heldLoad, .inl (cI, 6, .inl m_heldLoad)), (q_heldIs, .inl (cI, 6, .inl m_heldIs)), (q_gains, .inl (cI, 50, .inl m_gains)), (q_value, .inl (cI, 16, .inl m_value))] s.heap [] := w
  have hl : lv_has ls 5 [(0, .ref m_a), (1, .int a1)] := hl
  obtain ⟨H, eH⟩ : ∃ H, H = s.heap := ⟨_, rfl⟩
  rw [← eH] at w ⊢
  generalize ([] : List Loc) = locs at w ⊢
  generalize List.toArray _ = args at C ⊢
  obtain ⟨hx, hb, hr, hml, hown, hts, hlk⟩ := id C
  have hg : ∀ w ∈ GW, w.before args s = true := fun w h => hts w (List.mem_cons_of_mem _ h)
  unfold fX5_does at hf
  refine lv_iload_n hx hb dX5_does_0 rfl (lv_at hl 1 rfl) ?_
  refine lv_sipush (v := 1000) hx hb dX5_does_1 (by decide) ?_
  refine lv_idiv hx hb dX5_does_4 (by decide) ?_
  refine lv_topi (fun z1 ez1 => ?_)
  replace hf := nm_at ez1 hf
  refine lv_istore_n (lv' := [(2, .int z1), (0, .ref m_a), (1, .int a1)]) hx hb dX5_does_5 rfl hl (by decide) rfl (fun ls hl => ?_)
  refine lv_iload_n hx hb dX5_does_6 rfl (lv_at hl 2 rfl) ?_
  refine lv_bipush (v := 10) hx hb dX5_does_7 (by decide) ?_
  refine lv_idiv hx hb dX5_does_9 (by decide) ?_
  refine lv_bipush (v := 100) hx hb dX5_does_10 (by decide) ?_
  refine lv_irem hx hb dX5_does_12 (by decide) ?_
  refine lv_topi (fun z2 ez2 => ?_)
  replace hf := nm_at ez2 hf
  refine lv_istore_n (lv' := [(3, .int z2), (2, .int z1), (0, .ref m_a), (1, .int a1)]) hx hb dX5_does_13 rfl hl (by decide) rfl (fun ls hl => ?_)
  refine lv_iload_n hx hb dX5_does_14 rfl (lv_at hl 3 rfl) ?_
  refine lv_bipush (v := 10) hx hb dX5_does_15 (by decide) ?_
  refine lv_irem hx hb dX5_does_17 (by decide) ?_
  refine lv_topi (fun z3 ez3 => ?_)
  replace hf := nm_at ez3 hf
  refine lv_istore (lv' := [(4, .int z3), (3, .int z2), (2, .int z1), (0, .ref m_a), (1, .int a1)]) hx hb dX5_does_18 hl (by decide) rfl (fun ls hl => ?_)
  refine lv_iload_n hx hb dX5_does_20 rfl (lv_at hl 2 rfl) ?_
  by_cases c4 : z1 = 1
  · replace hf := ite_t c4 hf
    refine lv_tableIn (off := 31) (tgt := 52) hx hb dX5_does_21 (by rw [c4]; decide) (by rw [c4]; decide) (by rw [c4]; decide) (by decide) ?_
    refine lv_aload_n hx hb dX5_does_52 rfl (lv_at hl 3 rfl) ?_
    refine lv_iload_n hx hb dX5_does_53 rfl (lv_at hl 1 rfl) ?_
    refine lv_iload hx hb dX5_does_54 (lv_at hl 0 rfl) ?_
    replace hf := ob_at hf
    obtain ⟨r5, er5, hf⟩ := hf
    refine k_goI (v0 := (m_trial, m_loads)) (res := r5) w [0, 1, 2, 3, 4, 5, 6, 7, 8, 9, 10, 11, 12, 13, 14, 15, 16] rfl (fun _ => rfl) (va_runV (As := [.int z2, .int z3]) (rest := []) ⟨hx, hb, hml, hown, hg⟩ (tX5_puts l D cI cZ b0 tt m_a q_text q_cards q_readCards q_readPage q_page q_trial q_loads q_book q_kept q_isKept q_heldWho q_heldForce q_heldLoad q_heldIs q_gains q_value m_thrown m_textSize m_place m_acts m_held m_seed m_tentMany m_tentFirst m_restMany m_restFirst m_text m_cards m_readCards m_readPage m_page m_trial m_loads m_book m_kept m_isKept m_heldWho m_heldForce m_heldLoad m_heldIs m_gains m_value z2 z3 er5 H.size) (cwV 2 hg (gwV w_763 w_764 w_863 w_7 w_765) rfl rfl rfl ⟨rfl, qdX5_puts⟩ ⟨Nat.le_of_ble_eq_true rfl, Nat.le_of_ble_eq_true rfl⟩) (k_preV w [0, 1, 2, 3, 4, 5, 6, 7, 8, 9, 10, 11, 12, 13, 14, 15, 16] (by decide) rfl (q0 := 0) rfl rfl) rfl rfl hl.1 rfl (lv_room (Nat.le_of_ble_eq_true rfl)) dX5_does_56 ⟨Nat.le_refl _, Nat.le_refl _⟩) (fun H locs w => ?_)
    have w : Wd D cI cZ b0 tt A s [(m_a, .inr (5, [.int m_thrown, .ref q_text, .int m_textSize, .int m_place, .ref q_cards, .ref q_readCards, .ref q_readPage, .ref q_page, .ref q_trial, .ref q_loads, .ref q_book, .int m_acts, .ref q_kept, .ref q_isKept, .int m_held, .ref q_heldWho, .ref q_heldForce, .ref q_heldLoad, .ref q_heldIs, .long m_seed, .int m_tentMany, .int m_tentFirst, .int m_restMany, .int m_restFirst, .ref q_gains, .ref q_value])), (q_text, .inl (cI, 56, .inl m_text)), (q_cards, .inl (cI, 4, .inl m_cards)), (q_readCards, .inl (cI, 4, .inl m_readCards)), (q_readPage, .inl (cI, 17, .inl m_readPage)), (q_page, .inl (cI, 17, .inl m_page)), (q_trial, .inl (cI, 17, .inl r5.2.1)), (q_loads, .inl (cI, 16, .inl r5.2.2)), (q_book, .inl (cI, 238, .inl m_book)), (q_kept, .inl (cI, 34, .inl m_kept)), (q_isKept, .inl (cZ, 2, .inl m_isKept)), (q_heldWho, .inl (cI, 6, .inl m_heldWho)), (q_heldForce, .inl (cI, 6, .inl m_heldForce)), (q_heldLoad, .inl (cI, 6, .inl m_heldLoad)), (q_heldIs, .inl (cI, 6, .inl m_heldIs)), (q_gains, .inl (cI, 50, .inl m_gains)), (q_value, .inl (cI, 16, .inl m_value))] H locs := w
    obtain ⟨hn6, hf⟩ := gz_at hf
    exact k_zret (u := (r5.2.1, r5.2.2)) hx hb hr hlk w rfl hn6 hf dX5_does_59
  · replace hf := ite_f c4 hf
    by_cases c7 : z1 = 2
    · replace hf := ite_t c7 hf
      refine lv_tableIn (off := 39) (tgt := 60) hx hb dX5_does_21 (by rw [c7]; decide) (by rw [c7]; decide) (by rw [c7]; decide) (by decide) ?_
      refine lv_iload hx hb dX5_does_60 (lv_at hl 0 rfl) ?_
      refine lv_if_ne (tgt := 77) hx hb dX5_does_62 (by decide) (fun c8 => ?_) (fun c8 => ?_)
      · replace hf := ite_f c8 hf
        refine lv_iconst (v := 0) hx hb dX5_does_77 (by decide) ?_
        exact k_zret (u := (m_trial, m_loads)) hx hb hr hlk w rfl rfl hf dX5_does_78
      · replace hf := ite_t c8 hf
        refine lv_aload_n hx hb dX5_does_65 rfl (lv_at hl 3 rfl) ?_
        refine lv_iload_n hx hb dX5_does_66 rfl (lv_at hl 1 rfl) ?_
        replace hf := ob_at hf
        obtain ⟨r9, er9, hf⟩ := hf
        refine k_goI (v0 := m_trial) (res := r9) w [0, 1, 2, 3, 4, 5, 6, 7, 8, 9, 10, 11, 12, 13, 14, 15, 16] rfl (fun _ => rfl) (va_runV (As := [.int z2]) (rest := []) ⟨hx, hb, hml, hown, hg⟩ (tX5_takes l D cI cZ b0 tt m_a q_text q_cards q_readCards q_readPage q_page q_trial q_loads q_book q_kept q_isKept q_heldWho q_heldForce q_heldLoad q_heldIs q_gains q_value m_thrown m_textSize m_place m_acts m_held m_seed m_tentMany m_tentFirst m_restMany m_restFirst m_text m_cards m_readCards m_readPage m_page m_trial m_loads m_book m_kept m_isKept m_heldWho m_heldForce m_heldLoad m_heldIs m_gains m_value z2 er9 H.size) (cwV 1 hg (gwV w_766 w_767 w_864 w_7 w_768) rfl rfl rfl ⟨rfl, qdX5_takes⟩ ⟨Nat.le_of_ble_eq_true rfl, Nat.le_of_ble_eq_true rfl⟩) (k_preV w [0, 1, 2, 3, 4, 5, 6, 7, 8, 9, 10, 11, 12, 13, 14, 15, 16] (by decide) rfl (q0 := 0) rfl rfl) rfl rfl hl.1 rfl (lv_room (Nat.le_of_ble_eq_true rfl)) dX5_does_67 ⟨Nat.le_refl _, Nat.le_refl _⟩) (fun H locs w => ?_)
        have w : Wd D cI cZ b0 tt A s [(m_a, .inr (5, [.int m_thrown, .ref q_text, .int m_textSize, .int m_place, .ref q_cards, .ref q_readCards, .ref q_readPage, .ref q_page, .ref q_trial, .ref q_loads, .ref q_book, .int m_acts, .ref q_kept, .ref q_isKept, .int m_held, .ref q_heldWho, .ref q_heldForce, .ref q_heldLoad, .ref q_heldIs, .long m_seed, .int m_tentMany, .int m_tentFirst, .int m_restMany, .int m_restFirst, .ref q_gains, .ref q_value])), (q_text, .inl (cI, 56, .inl m_text)), (q_cards, .inl (cI, 4, .inl m_cards)), (q_readCards, .inl (cI, 4, .inl m_readCards)), (q_readPage, .inl (cI, 17, .inl m_readPage)), (q_page, .inl (cI, 17, .inl m_page)), (q_trial, .inl (cI, 17, .inl r9.2)), (q_loads, .inl (cI, 16, .inl m_loads)), (q_book, .inl (cI, 238, .inl m_book)), (q_kept, .inl (cI, 34, .inl m_kept)), (q_isKept, .inl (cZ, 2, .inl m_isKept)), (q_heldWho, .inl (cI, 6, .inl m_heldWho)), (q_heldForce, .inl (cI, 6, .inl m_heldForce)), (q_heldLoad, .inl (cI, 6, .inl m_heldLoad)), (q_heldIs, .inl (cI, 6, .inl m_heldIs)), (q_gains, .inl (cI, 50, .inl m_gains)), (q_value, .inl (cI, 16, .inl m_value))] H locs := w
        refine lv_if_eq (tgt := 77) hx hb dX5_does_70 (by decide) (fun c10 => ?_) (fun c10 => ?_)
        · replace hf := ite_t c10 hf
          refine lv_iconst (v := 0) hx hb dX5_does_77 (by decide) ?_
          exact k_zret (u := (r9.2, m_loads)) hx hb hr hlk w rfl rfl hf dX5_does_78
        · replace hf := ite_f c10 hf
          refine lv_iconst (v := 1) hx hb dX5_does_73 (by decide) ?_
          refine lv_goto (tgt := 78) hx hb dX5_does_74 (by decide) ?_
          exact k_zret (u := (r9.2, m_loads)) hx hb hr hlk w rfl rfl hf dX5_does_78
    · replace hf := ite_f c7 hf
      by_cases c11 : z1 = 3
      · replace hf := ite_t c11 hf
        refine lv_tableIn (off := 58) (tgt := 79) hx hb dX5_does_21 (by rw [c11]; decide) (by rw [c11]; decide) (by rw [c11]; decide) (by decide) ?_
        refine lv_aload_n hx hb dX5_does_79 rfl (lv_at hl 3 rfl) ?_
        refine lv_iload_n hx hb dX5_does_80 rfl (lv_at hl 1 rfl) ?_
        refine lv_iload hx hb dX5_does_81 (lv_at hl 0 rfl) ?_
        replace hf := ob_at hf
        obtain ⟨r12, er12, hf⟩ := hf
        refine k_goI (v0 := (m_trial, m_loads)) (res := r12) w [0, 1, 2, 3, 4, 5, 6, 7, 8, 9, 10, 11, 12, 13, 14, 15, 16] rfl (fun _ => rfl) (va_runV (As := [.int z2, .int z3]) (rest := []) ⟨hx, hb, hml, hown, hg⟩ (tX5_blows l D cI cZ b0 tt m_a q_text q_cards q_readCards q_readPage q_page q_trial q_loads q_book q_kept q_isKept q_heldWho q_heldForce q_heldLoad q_heldIs q_gains q_value m_thrown m_textSize m_place m_acts m_held m_seed m_tentMany m_tentFirst m_restMany m_restFirst m_text m_cards m_readCards m_readPage m_page m_trial m_loads m_book m_kept m_isKept m_heldWho m_heldForce m_heldLoad m_heldIs m_gains m_value z2 z3 er12 H.size) (cwV 2 hg (gwV w_769 w_770 w_865 w_7 w_771) rfl rfl rfl ⟨rfl, qdX5_blows⟩ ⟨Nat.le_of_ble_eq_true rfl, Nat.le_of_ble_eq_true rfl⟩) (k_preV w [0, 1, 2, 3, 4, 5, 6, 7, 8, 9, 10, 11, 12, 13, 14, 15, 16] (by decide) rfl (q0 := 0) rfl rfl) rfl rfl hl.1 rfl (lv_room (Nat.le_of_ble_eq_true rfl)) dX5_does_83 ⟨Nat.le_refl _, Nat.le_refl _⟩) (fun H locs w => ?_)
        have w : Wd D cI cZ b0 tt A s [(m_a, .inr (5, [.int m_thrown, .ref q_text, .int m_textSize, .int m_place, .ref q_cards, .ref q_readCards, .ref q_readPage, .ref q_page, .ref q_trial, .ref q_loads, .ref q_book, .int m_acts, .ref q_kept, .ref q_isKept, .int m_held, .ref q_heldWho, .ref q_heldForce, .ref q_heldLoad, .ref q_heldIs, .long m_seed, .int m_tentMany, .int m_tentFirst, .int m_restMany, .int m_restFirst, .ref q_gains, .ref q_value])), (q_text, .inl (cI, 56, .inl m_text)), (q_cards, .inl (cI, 4, .inl m_cards)), (q_readCards, .inl (cI, 4, .inl m_readCards)), (q_readPage, .inl (cI, 17, .inl m_readPage)), (q_page, .inl (cI, 17, .inl m_page)), (q_trial, .inl (cI, 17, .inl r12.2.1)), (q_loads, .inl (cI, 16, .inl r12.2.2)), (q_book, .inl (cI, 238, .inl m_book)), (q_kept, .inl (cI, 34, .inl m_kept)), (q_isKept, .inl (cZ, 2, .inl m_isKept)), (q_heldWho, .inl (cI, 6, .inl m_heldWho)), (q_heldForce, .inl (cI, 6, .inl m_heldForce)), (q_heldLoad, .inl (cI, 6, .inl m_heldLoad)), (q_heldIs, .inl (cI, 6, .inl m_heldIs)), (q_gains, .inl (cI, 50, .inl m_gains)), (q_value, .inl (cI, 16, .inl m_value))] H locs := w
        obtain ⟨hn13, hf⟩ := gz_at hf
        exact k_zret (u := (r12.2.1, r12.2.2)) hx hb hr hlk w rfl hn13 hf dX5_does_86
      · replace hf := ite_f c11 hf
        by_cases c14 : z1 = 4
        · replace hf := ite_t c14 hf
          refine lv_tableIn (off := 66) (tgt := 87) hx hb dX5_does_21 (by rw [c14]; decide) (by rw [c14]; decide) (by rw [c14]; decide) (by decide) ?_
          refine lv_iload hx hb dX5_does_87 (lv_at hl 0 rfl) ?_
          refine lv_if_ne (tgt := 112) hx hb dX5_does_89 (by decide) (fun c15 => ?_) (fun c15 => ?_)
          · replace hf := ite_f c15 hf
            refine lv_iconst (v := 0) hx hb dX5_does_112 (by decide) ?_
            exact k_zret (u := (m_trial, m_loads)) hx hb hr hlk w rfl rfl hf dX5_does_113
          · replace hf := ite_t c15 hf
            refine lv_iload_n hx hb dX5_does_92 rfl (lv_at hl 1 rfl) ?_
            replace hf := ob_at hf
            obtain ⟨r16, er16, hf⟩ := hf
            refine k_goI0 w [] rfl (va_runS (As := [.int z2]) (rest := []) ⟨hx, hb, hml, hown, hg⟩ (tX5_noPiece l D cI cZ b0 tt z2 er16 H.size) (va_cwS 1 hg (gwS w_621 w_622 w_7 w_623) rfl rfl rfl qdX5_noPiece ⟨Nat.le_of_ble_eq_true rfl, Nat.le_of_ble_eq_true rfl⟩) (k_preS w [] (by decide) rfl) rfl rfl hl.1 rfl (lv_room (Nat.le_of_ble_eq_true rfl)) dX5_does_93 ⟨Nat.le_refl _, Nat.le_refl _⟩) (fun H locs w => ?_)
            refine lv_if_ne (tgt := 112) hx hb dX5_does_96 (by decide) (fun c17 => ?_) (fun c17 => ?_)
            · replace hf := ite_f c17 hf
              refine lv_iconst (v := 0) hx hb dX5_does_112 (by decide) ?_
              exact k_zret (u := (m_trial, m_loads)) hx hb hr hlk w rfl rfl hf dX5_does_113
            · replace hf := ite_t c17 hf
              refine lv_aload_n hx hb dX5_does_99 rfl (lv_at hl 3 rfl) ?_
              refine va_get (D := D) (ci := 5) (v := .ref q_trial) (C := RX5) (T := TX5) (N := 26) hx hb hg iX5 hown w.2.2.2.2.2.2.1 w.1 0 rfl rfl 8 (by decide) (hg _ w_497) (fun _ h9 => h9) rfl dX5_does_100 ?_
              refine lv_iload_n hx hb dX5_does_103 rfl (lv_at hl 1 rfl) ?_
              replace hf := gd_at hf
              obtain ⟨hi18, hf⟩ := hf
              refine va_iald hx hb w.2.2.2.2.2.2.1 w.1 6 0 rfl rfl hi18 dX5_does_104 ?_
              refine lv_if_le (tgt := 112) hx hb dX5_does_105 (by decide) (fun c19 => ?_) (fun c19 => ?_)
              · replace hf := ite_t c19 hf
                refine lv_iconst (v := 0) hx hb dX5_does_112 (by decide) ?_
                exact k_zret (u := (m_trial, m_loads)) hx hb hr hlk w rfl rfl hf dX5_does_113
              · replace hf := ite_f c19 hf
                refine lv_iconst (v := 1) hx hb dX5_does_108 (by decide) ?_
                refine lv_goto (tgt := 113) hx hb dX5_does_109 (by decide) ?_
                exact k_zret (u := (m_trial, m_loads)) hx hb hr hlk w rfl rfl hf dX5_does_113
        · replace hf := ite_f c14 hf
          refine lv_tableOut (tgt := 114) hx hb dX5_does_21 (by have ec4 := lv_neT c4 (a := 1) (by decide); have ec7 := lv_neT c7 (a := 2) (by decide); have ec11 := lv_neT c11 (a := 3) (by decide); have ec14 := lv_neT c14 (a := 4) (by decide); omega) (by decide) ?_
          refine lv_iload_n hx hb dX5_does_114 rfl (lv_at hl 2 rfl) ?_
          refine lv_iconst (v := 5) hx hb dX5_does_115 (by decide) ?_
          refine lv_icmp_ne (tgt := 142) hx hb dX5_does_116 (by decide) (fun c20 => ?_) (fun c20 => ?_)
          · replace hf := ite_f c20 hf
            refine lv_iconst (v := 0) hx hb dX5_does_142 (by decide) ?_
            exact k_zret (u := (m_trial, m_loads)) hx hb hr hlk w rfl rfl hf dX5_does_143
          · replace hf := ite_t c20 hf
            refine lv_iload hx hb dX5_does_119 (lv_at hl 0 rfl) ?_
            refine lv_if_ne (tgt := 142) hx hb dX5_does_121 (by decide) (fun c21 => ?_) (fun c21 => ?_)
            · replace hf := ite_f c21 hf
              refine lv_iconst (v := 0) hx hb dX5_does_142 (by decide) ?_
              exact k_zret (u := (m_trial, m_loads)) hx hb hr hlk w rfl rfl hf dX5_does_143
            · replace hf := ite_t c21 hf
              refine lv_aload_n hx hb dX5_does_124 rfl (lv_at hl 3 rfl) ?_
              refine va_get (D := D) (ci := 5) (v := .ref q_trial) (C := RX5) (T := TX5) (N := 26) hx hb hg iX5 hown w.2.2.2.2.2.2.1 w.1 0 rfl rfl 8 (by decide) (hg _ w_497) (fun _ h9 => h9) rfl dX5_does_125 ?_
              replace hf := ob_at hf
              obtain ⟨r22, er22, hf⟩ := hf
              refine k_goI0 w [6] rfl (va_runS (As := [.ref q_trial]) (rest := []) ⟨hx, hb, hml, hown, hg⟩ (tX5_there l D cI cZ b0 tt q_trial m_trial er22 H.size) (va_cwS 1 hg (gwS w_606 w_607 w_7 w_608) rfl rfl rfl qdX5_there ⟨Nat.le_of_ble_eq_true rfl, Nat.le_of_ble_eq_true rfl⟩) (k_preS w [6] (by decide) rfl) rfl rfl hl.1 rfl (lv_room (Nat.le_of_ble_eq_true rfl)) dX5_does_128 ⟨Nat.le_refl _, Nat.le_refl _⟩) (fun H locs w => ?_)
              replace hf := ob_at hf
              obtain ⟨r23, er23, hf⟩ := hf
              refine k_goI0 w [] rfl (va_runS (As := [.int r22]) (rest := []) ⟨hx, hb, hml, hown, hg⟩ (tX5_many l D cI cZ b0 tt r22 er23 H.size) (va_cwS 1 hg (gwS w_653 w_654 w_7 w_655) rfl rfl rfl qdX5_many ⟨Nat.le_of_ble_eq_true rfl, Nat.le_of_ble_eq_true rfl⟩) (k_preS w [] (by decide) rfl) rfl rfl hl.1 rfl (lv_room (Nat.le_of_ble_eq_true rfl)) dX5_does_131 ⟨Nat.le_refl _, Nat.le_refl _⟩) (fun H locs w => ?_)
              refine lv_iload_n hx hb dX5_does_134 rfl (lv_at hl 1 rfl) ?_
              refine lv_icmp_lt (tgt := 142) hx hb dX5_does_135 (by decide) (fun c24 => ?_) (fun c24 => ?_)
              · replace hf := ite_t c24 hf
                refine lv_iconst (v := 0) hx hb dX5_does_142 (by decide) ?_
                exact k_zret (u := (m_trial, m_loads)) hx hb hr hlk w rfl rfl hf dX5_does_143
              · replace hf := ite_f c24 hf
                refine lv_iconst (v := 1) hx hb dX5_does_138 (by decide) ?_
                refine lv_goto (tgt := 143) hx hb dX5_does_139 (by decide) ?_
                exact k_zret (u := (m_trial, m_loads)) hx hb hr hlk w rfl rfl hf dX5_does_143
