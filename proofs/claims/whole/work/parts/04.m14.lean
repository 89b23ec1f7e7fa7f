-- X5_fault
def fX5_fault  (m_thrown : Int32) (m_textSize : Int32) (m_place : Int32) (m_text : Nat → Int32) (m_readCards : Nat → Int32) (m_readPage : Nat → Int32) : Option (Int32 × Int32 × Int32 × (Nat → Int32) × (Nat → Int32)) := ob (fX5_readHouse m_textSize m_place m_text m_readCards m_readPage) (fun r1 => some (r1.1, (0, r1.2.1, r1.2.2.1, r1.2.2.2)))
set_option maxRecDepth 100000 in
set_option maxHeartbeats 4000000 in
theorem tX5_fault (l : Launch) (D : va_G) (cI cZ : ClassId) (b0 : Nat) (tt : Nat → Nat)  (m_a q_text q_cards q_readCards q_readPage q_page q_trial q_loads q_book q_kept q_isKept q_heldWho q_heldForce q_heldLoad q_heldIs q_gains q_value : Nat) (m_thrown : Int32) (m_textSize : Int32) (m_place : Int32) (m_acts : Int32) (m_held : Int32) (m_seed : Int64) (m_tentMany : Int32) (m_tentFirst : Int32) (m_restMany : Int32) (m_restFirst : Int32) (m_text : Nat → Int32) (m_cards : Nat → Int32) (m_readCards : Nat → Int32) (m_readPage : Nat → Int32) (m_page : Nat → Int32) (m_trial : Nat → Int32) (m_loads : Nat → Int32) (m_book : Nat → Int32) (m_kept : Nat → Int32) (m_isKept : Nat → Int32) (m_heldWho : Nat → Int32) (m_heldForce : Nat → Int32) (m_heldLoad : Nat → Int32) (m_heldIs : Nat → Int32) (m_gains : Nat → Int32) (m_value : Nat → Int32)  {res : Int32 × Int32 × Int32 × (Nat → Int32) × (Nat → Int32)} (hf : fX5_fault m_thrown m_textSize m_place m_text m_readCards m_readPage = some res) : CtI l yX5_fault (cwX5_fault :: GW) 8 171 D cI cZ b0 tt [.ref m_a] (fun u : Int32 × Int32 × (Nat → Int32) × (Nat → Int32) => [(m_a, .inr (5, [.int u.1, .ref q_text, .int m_textSize, .int u.2.1, .ref q_cards, .ref q_readCards, .ref q_readPage, .ref q_page, .ref q_trial, .ref q_loads, .ref q_book, .int m_acts, .ref q_kept, .ref q_isKept, .int m_held, .ref q_heldWho, .ref q_heldForce, .ref q_heldLoad, .ref q_heldIs, .long m_seed, .int m_tentMany, .int m_tentFirst, .int m_restMany, .int m_restFirst, .ref q_gains, .ref q_value])), (q_text, .inl (cI, 56, .inl m_text)), (q_cards, .inl (cI, 4, .inl m_cards)), (q_readCards, .inl (cI, 4, .inl u.2.2.1)), (q_readPage, .inl (cI, 17, .inl u.2.2.2)), (q_page, .inl (cI, 17, .inl m_page)), (q_trial, .inl (cI, 17, .inl m_trial)), (q_loads, .inl (cI, 16, .inl m_loads)), (q_book, .inl (cI, 238, .inl m_book)), (q_kept, .inl (cI, 34, .inl m_kept)), (q_isKept, .inl (cZ, 2, .inl m_isKept)), (q_heldWho, .inl (cI, 6, .inl m_heldWho)), (q_heldForce, .inl (cI, 6, .inl m_heldForce)), (q_heldLoad, .inl (cI, 6, .inl m_heldLoad)), (q_heldIs, .inl (cI, 6, .inl m_heldIs)), (q_gains, .inl (cI, 50, .inl m_gains)), (q_value, .inl (cI, 16, .inl m_value))]) (m_thrown, m_place, m_readCards, m_readPage) res := by
  intro sz
  refine k_begin (cc := cX5_fault) (maxL := 1) (ret := (some .int)) (by decide) rfl (Nat.le_of_ble_eq_true rfl) ?_
  intro p e s m below meth c ls C w hl
  generalize va_A _ sz = A at w ⊢
  have w : Wd D cI cZ b0 tt A s [(m_a, .inr (5, [.int m_thrown, .ref q_text, .int m_textSize, .int m_place, .ref q_cards, .ref q_readCards, .ref q_readPage, .ref q_page, .ref q_trial, .ref q_loads, .ref q_book, .int m_acts, .ref q_kept, .ref q_isKept, .int m_held, .ref q_heldWho, .ref q_heldForce, .ref q_heldLoad, .ref q_heldIs, .long m_seed, .int m_tentMany, .int m_tentFirst, .int m_restMany, .int m_restFirst, .ref q_gains, .ref q_value])), (q_text, .inl (cI, 56, .inl m_text)), (q_cards, .inl (cI, 4, .inl m_cards)), (q_readCards, .inl (cI, 4, .inl m_readCards)), (q_readPage, .inl (cI, 17, .inl m_readPage)), (q_page, .inl (cI, 17, .inl m_page)), (q_trial, .inl (cI, 17, .inl m_trial)), (q_loads, .inl (cI, 16, .inl m_loads)), (q_book, .inl (cI, 238, .inl m_book)), (q_kept, .inl (cI, 34, .inl m_kept)), (q_isKept, .inl (cZ, 2, .inl m_isKept)), (q_heldWho, .inl (cI, 6, .inl m_heldWho)), (q_heldForce, .inl (cI, 6, .inl m_heldForce)), (q_heldLoad, .inl (cI, 6, .inl m_heldLoad)), (q_heldIs, .inl (cI, 6, .inl m_heldIs)), (q_gains, .inl (cI, 50, .inl m_gains)), (q_value, .inl (cI, 16, .inl m_value))] s.heap [] := w
  have hl : lv_has ls 1 [(0, .ref m_a)] := hl
  obtain ⟨H, eH⟩ : ∃ H, H = s.heap := ⟨_, rfl⟩
  rw [← eH] at w ⊢
  generalize ([] : List Loc) = locs at w ⊢
  generalize List.toArray _ = args at C ⊢
  obtain ⟨hx, hb, hr, hml, hown, hts, hlk⟩ := id C
  have hg : ∀ w ∈ GW, w.before args s = true := fun w h => hts w (List.mem_cons_of_mem _ h)
  unfold fX5_fault at hf
  refine lv_aload_n hx hb dX5_fault_0 rfl (lv_at hl 0 rfl) ?_
  refine lv_iconst (v := 0) hx hb dX5_fault_1 (by decide) ?_
  refine k_put (ci := 5) (v := .int 0) (ty := .int) (C := RX5) (T := TX5) (N := 26) hx hb hg iX5 tyX5 tyX5_ok nmX5 hown w 0 rfl rfl 0 (by decide) (hg _ w_489) (fun _ h9 => h9) rfl pd_I rfl rfl (Nat.le_of_ble_eq_true rfl) dX5_fault_2 (fun H locs w => ?_)
  have w : Wd D cI cZ b0 tt A s [(m_a, .inr (5, [.int 0, .ref q_text, .int m_textSize, .int m_place, .ref q_cards, .ref q_readCards, .ref q_readPage, .ref q_page, .ref q_trial, .ref q_loads, .ref q_book, .int m_acts, .ref q_kept, .ref q_isKept, .int m_held, .ref q_heldWho, .ref q_heldForce, .ref q_heldLoad, .ref q_heldIs, .long m_seed, .int m_tentMany, .int m_tentFirst, .int m_restMany, .int m_restFirst, .ref q_gains, .ref q_value])), (q_text, .inl (cI, 56, .inl m_text)), (q_cards, .inl (cI, 4, .inl m_cards)), (q_readCards, .inl (cI, 4, .inl m_readCards)), (q_readPage, .inl (cI, 17, .inl m_readPage)), (q_page, .inl (cI, 17, .inl m_page)), (q_trial, .inl (cI, 17, .inl m_trial)), (q_loads, .inl (cI, 16, .inl m_loads)), (q_book, .inl (cI, 238, .inl m_book)), (q_kept, .inl (cI, 34, .inl m_kept)), (q_isKept, .inl (cZ, 2, .inl m_isKept)), (q_heldWho, .inl (cI, 6, .inl m_heldWho)), (q_heldForce, .inl (cI, 6, .inl m_heldForce)), (q_heldLoad, .inl (cI, 6, .inl m_heldLoad)), (q_heldIs, .inl (cI, 6, .inl m_heldIs)), (q_gains, .inl (cI, 50, .inl m_gains)), (q_value, .inl (cI, 16, .inl m_value))] H locs := w
  refine lv_aload_n hx hb dX5_fault_5 rfl (lv_at hl 0 rfl) ?_
  replace hf := ob_at hf
  obtain ⟨r1, er1, hf⟩ := hf
  refine k_goI (v0 := (m_place, m_readCards, m_readPage)) (res := r1) w [0, 1, 2, 3, 4, 5, 6, 7, 8, 9, 10, 11, 12, 13, 14, 15, 16] rfl (fun _ => rfl) (va_runV (As := []) (rest := []) ⟨hx, hb, hml, hown, hg⟩ (tX5_readHouse l D cI cZ b0 tt m_a q_text q_cards q_readCards q_readPage q_page q_trial q_loads q_book q_kept q_isKept q_heldWho q_heldForce q_heldLoad q_heldIs q_gains q_value 0 m_textSize m_place m_acts m_held m_seed m_tentMany m_tentFirst m_restMany m_restFirst m_text m_cards m_readCards m_readPage m_page m_trial m_loads m_book m_kept m_isKept m_heldWho m_heldForce m_heldLoad m_heldIs m_gains m_value er1 H.size) (cwV 0 hg (gwV w_585 w_586 w_842 w_7 w_587) rfl rfl rfl ⟨rfl, qdX5_readHouse⟩ ⟨Nat.le_of_ble_eq_true rfl, Nat.le_of_ble_eq_true rfl⟩) (k_preV w [0, 1, 2, 3, 4, 5, 6, 7, 8, 9, 10, 11, 12, 13, 14, 15, 16] (by decide) rfl (q0 := 0) rfl rfl) rfl rfl hl.1 rfl (lv_room (Nat.le_of_ble_eq_true rfl)) dX5_fault_6 ⟨Nat.le_refl _, Nat.le_refl _⟩) (fun H locs w => ?_)
  have w : Wd D cI cZ b0 tt A s [(m_a, .inr (5, [.int 0, .ref q_text, .int m_textSize, .int r1.2.1, .ref q_cards, .ref q_readCards, .ref q_readPage, .ref q_page, .ref q_trial, .ref q_loads, .ref q_book, .int m_acts, .ref q_kept, .ref q_isKept, .int m_held, .ref q_heldWho, .ref q_heldForce, .ref q_heldLoad, .ref q_heldIs, .long m_seed, .int m_tentMany, .int m_tentFirst, .int m_restMany, .int m_restFirst, .ref q_gains, .ref q_value])), (q_text, .inl (cI, 56, .inl m_text)), (q_cards, .inl (cI, 4, .inl m_cards)), (q_readCards, .inl (cI, 4, .inl r1.2.2.1)), (q_readPage, .inl (cI, 17, .inl r1.2.2.2)), (q_page, .inl (cI, 17, .inl m_page)), (q_trial, .inl (cI, 17, .inl m_trial)), (q_loads, .inl (cI, 16, .inl m_loads)), (q_book, .inl (cI, 238, .inl m_book)), (q_kept, .inl (cI, 34, .inl m_kept)), (q_isKept, .inl (cZ, 2, .inl m_isKept)), (q_heldWho, .inl (cI, 6, .inl m_heldWho)), (q_heldForce, .inl (cI, 6, .inl m_heldForce)), (q_heldLoad, .inl (cI, 6, .inl m_heldLoad)), (q_heldIs, .inl (cI, 6, .inl m_heldIs)), (q_gains, .inl (cI, 50, .inl m_gains)), (q_value, .inl (cI, 16, .inl m_value))] H locs := w
  exact k_iret (u := (0, r1.2.1, r1.2.2.1, r1.2.2.2)) hx hb hr hlk w rfl hf dX5_fault_9
-- X5_house
def fX5_house_L44   (m_thrown : Int32) (m_textSize : Int32) (m_place : Int32) (m_acts : Int32) (m_text : Nat → Int32) (m_cards : Nat → Int32) (m_readCards : Nat → Int32) (m_readPage : Nat → Int32) (m_loads : Nat → Int32) (m_isKept : Nat → Int32) : Nat → Int32 → (Nat → Int32) → Option (Int32 × Int32 × Int32 × Int32 × (Nat → Int32) × (Nat → Int32) × (Nat → Int32) × (Nat → Int32) × (Nat → Int32) × (Nat → Int32))
  | 0, _, _ => none
  | n + 1, v1, m_page => (if 17 ≤ v1 then ob (fX5_settle m_page m_loads) (fun r2 => ob (fX5_there r2.2.1) (fun r3 => ob (fX5_many r3) (fun r4 => some (r4, (m_thrown, m_place, 0, m_cards, m_readCards, m_readPage, r2.2.1, r2.2.2, (upd (upd m_isKept (Int32.toNatClampNeg 0) (vp_nar .boolean 0)) (Int32.toNatClampNeg 1) (vp_nar .boolean 0))))))) else gd v1 17 (nm (m_readPage (Int32.toNatClampNeg v1)) (fun z6 => gd v1 17 (nm (v1 + 1) (fun z8 => fX5_house_L44 m_thrown m_textSize m_place m_acts m_text m_cards m_readCards m_readPage m_loads m_isKept n z8 (upd m_page (Int32.toNatClampNeg v1) z6))))))
set_option maxRecDepth 100000 in
set_option maxHeartbeats 4000000 in
theorem tX5_house_L44 {p : Program} {l : Launch} {e : Env} {s : State} {m : MethodId} {args : Array Value} {below : List Frame} {meth : Method} {c : Code} {D : va_G} {cI cZ : ClassId} {b0 : Nat} {tt : Nat → Nat} {A : Nat → Prop}  {m_a q_text q_cards q_readCards q_readPage q_page q_trial q_loads q_book q_kept q_isKept q_heldWho q_heldForce q_heldLoad q_heldIs q_gains q_value : Nat}  {m_thrown : Int32} {m_textSize : Int32} {m_place : Int32} {m_acts : Int32} {m_text : Nat → Int32} {m_cards : Nat → Int32} {m_readCards : Nat → Int32} {m_readPage : Nat → Int32} {m_loads : Nat → Int32} {m_isKept : Nat → Int32} {m_held : Int32} {m_seed : Int64} {m_tentMany : Int32} {m_tentFirst : Int32} {m_restMany : Int32} {m_restFirst : Int32} {m_trial : Nat → Int32} {m_book : Nat → Int32} {m_kept : Nat → Int32} {m_heldWho : Nat → Int32} {m_heldForce : Nat → Int32} {m_heldLoad : Nat → Int32} {m_heldIs : Nat → Int32} {m_gains : Nat → Int32} {m_value : Nat → Int32} {res : Int32 × Int32 × Int32 × Int32 × (Nat → Int32) × (Nat → Int32) × (Nat → Int32) × (Nat → Int32) × (Nat → Int32) × (Nat → Int32)} (C : Cx p s m args meth c cX5_house 2 (some .int) (cwX5_house :: GW) RX5) : ∀ (n : Nat) (v1 : Int32) (m_page : Nat → Int32) (H : Heap) (locs : List Loc) (ls : Array Slot), fX5_house_L44 m_thrown m_textSize m_place m_acts m_text m_cards m_readCards m_readPage m_loads m_isKept n v1 m_page = some res → Wd D cI cZ b0 tt A s [(m_a, .inr (5, [.int m_thrown, .ref q_text, .int m_textSize, .int m_place, .ref q_cards, .ref q_readCards, .ref q_readPage, .ref q_page, .ref q_trial, .ref q_loads, .ref q_book, .int m_acts, .ref q_kept, .ref q_isKept, .int m_held, .ref q_heldWho, .ref q_heldForce, .ref q_heldLoad, .ref q_heldIs, .long m_seed, .int m_tentMany, .int m_tentFirst, .int m_restMany, .int m_restFirst, .ref q_gains, .ref q_value])), (q_text, .inl (cI, 56, .inl m_text)), (q_cards, .inl (cI, 4, .inl m_cards)), (q_readCards, .inl (cI, 4, .inl m_readCards)), (q_readPage, .inl (cI, 17, .inl m_readPage)), (q_page, .inl (cI, 17, .inl m_page)), (q_trial, .inl (cI, 17, .inl m_trial)), (q_loads, .inl (cI, 16, .inl m_loads)), (q_book, .inl (cI, 238, .inl m_book)), (q_kept, .inl (cI, 34, .inl m_kept)), (q_isKept, .inl (cZ, 2, .inl m_isKept)), (q_heldWho, .inl (cI, 6, .inl m_heldWho)), (q_heldForce, .inl (cI, 6, .inl m_heldForce)), (q_heldLoad, .inl (cI, 6, .inl m_heldLoad)), (q_heldIs, .inl (cI, 6, .inl m_heldIs)), (q_gains, .inl (cI, 50, .inl m_gains)), (q_value, .inl (cI, 16, .inl m_value))] H locs → lv_has ls 2 [(0, .ref m_a), (1, .int v1)] → W p l e (rmo 8 171) s m args below meth c H locs 0 0 (MQ below (QI D (fun u : Int32 × Int32 × Int32 × (Nat → Int32) × (Nat → Int32) × (Nat → Int32) × (Nat → Int32) × (Nat → Int32) × (Nat → Int32) => [(m_a, .inr (5, [.int u.1, .ref q_text, .int m_textSize, .int u.2.1, .ref q_cards, .ref q_readCards, .ref q_readPage, .ref q_page, .ref q_trial, .ref q_loads, .ref q_book, .int u.2.2.1, .ref q_kept, .ref q_isKept, .int m_held, .ref q_heldWho, .ref q_heldForce, .ref q_heldLoad, .ref q_heldIs, .long m_seed, .int m_tentMany, .int m_tentFirst, .int m_restMany, .int m_restFirst, .ref q_gains, .ref q_value])), (q_text, .inl (cI, 56, .inl m_text)), (q_cards, .inl (cI, 4, .inl u.2.2.2.1)), (q_readCards, .inl (cI, 4, .inl u.2.2.2.2.1)), (q_readPage, .inl (cI, 17, .inl u.2.2.2.2.2.1)), (q_page, .inl (cI, 17, .inl u.2.2.2.2.2.2.1)), (q_trial, .inl (cI, 17, .inl m_trial)), (q_loads, .inl (cI, 16, .inl u.2.2.2.2.2.2.2.1)), (q_book, .inl (cI, 238, .inl m_book)), (q_kept, .inl (cI, 34, .inl m_kept)), (q_isKept, .inl (cZ, 2, .inl u.2.2.2.2.2.2.2.2)), (q_heldWho, .inl (cI, 6, .inl m_heldWho)), (q_heldForce, .inl (cI, 6, .inl m_heldForce)), (q_heldLoad, .inl (cI, 6, .inl m_heldLoad)), (q_heldIs, .inl (cI, 6, .inl m_heldIs)), (q_gains, .inl (cI, 50, .inl m_gains)), (q_value, .inl (cI, 16, .inl m_value))]) A res) args s 0 0 A) (F0 m 44 ls []) := by
  obtain ⟨hx, hb, hr, hml, hown, hts, hlk⟩ := id C
  have hg : ∀ w ∈ GW, w.before args s = true := fun w h => hts w (List.mem_cons_of_mem _ h)
  intro n
  induction n with
  | zero =>
    intro _ _ H locs ls hf
    rw [fX5_house_L44] at hf
    cases hf
  | succ n ih =>
    intro v1 m_page H locs ls hf w hl
    rw [fX5_house_L44] at hf
    refine lv_iload_n hx hb dX5_house_44 rfl (lv_at hl 1 rfl) ?_
    refine lv_bipush (v := 17) hx hb dX5_house_45 (by decide) ?_
    refine lv_icmp_ge (tgt := 68) hx hb dX5_house_47 (by decide) (fun c1 => ?_) (fun c1 => ?_)
    · replace hf := ite_t c1 hf
      refine lv_aload_n hx hb dX5_house_68 rfl (lv_at hl 0 rfl) ?_
      refine lv_aload_n hx hb dX5_house_69 rfl (lv_at hl 0 rfl) ?_
      refine va_get (D := D) (ci := 5) (v := .ref q_page) (C := RX5) (T := TX5) (N := 26) hx hb hg iX5 hown w.2.2.2.2.2.2.1 w.1 0 rfl rfl 7 (by decide) (hg _ w_496) (fun _ h9 => h9) rfl dX5_house_70 ?_
      replace hf := ob_at hf
      obtain ⟨r2, er2, hf⟩ := hf
      refine k_goI (v0 := (m_page, m_loads)) (res := r2) w [0, 5, 7, 2] rfl (fun _ => rfl) (va_runV (As := [.ref q_page]) (rest := []) ⟨hx, hb, hml, hown, hg⟩ (tX5_settle l D cI cZ b0 tt m_a q_text q_cards q_readCards q_readPage q_page q_trial q_loads q_book q_kept q_isKept q_heldWho q_heldForce q_heldLoad q_heldIs q_gains q_value q_page m_thrown m_textSize m_place m_acts m_held m_seed m_tentMany m_tentFirst m_restMany m_restFirst m_page m_loads m_cards er2 H.size) (cwV 1 hg (gwV w_629 w_630 w_849 w_7 w_631) rfl rfl rfl ⟨rfl, qdX5_settle⟩ ⟨Nat.le_of_ble_eq_true rfl, Nat.le_of_ble_eq_true rfl⟩) (k_preV w [0, 5, 7, 2] (by decide) rfl (q0 := 0) rfl rfl) rfl rfl hl.1 rfl (lv_room (Nat.le_of_ble_eq_true rfl)) dX5_house_73 ⟨Nat.le_refl _, Nat.le_refl _⟩) (fun H locs w => ?_)
      have w : Wd D cI cZ b0 tt A s [(m_a, .inr (5, [.int m_thrown, .ref q_text, .int m_textSize, .int m_place, .ref q_cards, .ref q_readCards, .ref q_readPage, .ref q_page, .ref q_trial, .ref q_loads, .ref q_book, .int m_acts, .ref q_kept, .ref q_isKept, .int m_held, .ref q_heldWho, .ref q_heldForce, .ref q_heldLoad, .ref q_heldIs, .long m_seed, .int m_tentMany, .int m_tentFirst, .int m_restMany, .int m_restFirst, .ref q_gains, .ref q_value])), (q_text, .inl (cI, 56, .inl m_text)), (q_cards, .inl (cI, 4, .inl m_cards)), (q_readCards, .inl (cI, 4, .inl m_readCards)), (q_readPage, .inl (cI, 17, .inl m_readPage)), (q_page, .inl (cI, 17, .inl r2.2.1)), (q_trial, .inl (cI, 17, .inl m_trial)), (q_loads, .inl (cI, 16, .inl r2.2.2)), (q_book, .inl (cI, 238, .inl m_book)), (q_kept, .inl (cI, 34, .inl m_kept)), (q_isKept, .inl (cZ, 2, .inl m_isKept)), (q_heldWho, .inl (cI, 6, .inl m_heldWho)), (q_heldForce, .inl (cI, 6, .inl m_heldForce)), (q_heldLoad, .inl (cI, 6, .inl m_heldLoad)), (q_heldIs, .inl (cI, 6, .inl m_heldIs)), (q_gains, .inl (cI, 50, .inl m_gains)), (q_value, .inl (cI, 16, .inl m_value))] H locs := w
      refine lv_pop hx hb dX5_house_76 rfl ?_
      refine lv_aload_n hx hb dX5_house_77 rfl (lv_at hl 0 rfl) ?_
      refine lv_iconst (v := 0) hx hb dX5_house_78 (by decide) ?_
      refine k_put (ci := 5) (v := .int 0) (ty := .int) (C := RX5) (T := TX5) (N := 26) hx hb hg iX5 tyX5 tyX5_ok nmX5 hown w 0 rfl rfl 11 (by decide) (hg _ w_500) (fun _ h9 => h9) rfl pd_I rfl rfl (Nat.le_of_ble_eq_true rfl) dX5_house_79 (fun H locs w => ?_)
      have w : Wd D cI cZ b0 tt A s [(m_a, .inr (5, [.int m_thrown, .ref q_text, .int m_textSize, .int m_place, .ref q_cards, .ref q_readCards, .ref q_readPage, .ref q_page, .ref q_trial, .ref q_loads, .ref q_book, .int 0, .ref q_kept, .ref q_isKept, .int m_held, .ref q_heldWho, .ref q_heldForce, .ref q_heldLoad, .ref q_heldIs, .long m_seed, .int m_tentMany, .int m_tentFirst, .int m_restMany, .int m_restFirst, .ref q_gains, .ref q_value])), (q_text, .inl (cI, 56, .inl m_text)), (q_cards, .inl (cI, 4, .inl m_cards)), (q_readCards, .inl (cI, 4, .inl m_readCards)), (q_readPage, .inl (cI, 17, .inl m_readPage)), (q_page, .inl (cI, 17, .inl r2.2.1)), (q_trial, .inl (cI, 17, .inl m_trial)), (q_loads, .inl (cI, 16, .inl r2.2.2)), (q_book, .inl (cI, 238, .inl m_book)), (q_kept, .inl (cI, 34, .inl m_kept)), (q_isKept, .inl (cZ, 2, .inl m_isKept)), (q_heldWho, .inl (cI, 6, .inl m_heldWho)), (q_heldForce, .inl (cI, 6, .inl m_heldForce)), (q_heldLoad, .inl (cI, 6, .inl m_heldLoad)), (q_heldIs, .inl (cI, 6, .inl m_heldIs)), (q_gains, .inl (cI, 50, .inl m_gains)), (q_value, .inl (cI, 16, .inl m_value))] H locs := w
      refine lv_aload_n hx hb dX5_house_82 rfl (lv_at hl 0 rfl) ?_
      refine va_get (D := D) (ci := 5) (v := .ref q_isKept) (C := RX5) (T := TX5) (N := 26) hx hb hg iX5 hown w.2.2.2.2.2.2.1 w.1 0 rfl rfl 13 (by decide) (hg _ w_502) (fun _ h9 => h9) rfl dX5_house_83 ?_
      refine lv_iconst (v := 0) hx hb dX5_house_86 (by decide) ?_
      refine lv_iconst (v := 0) hx hb dX5_house_87 (by decide) ?_
      refine k_zast hx hb w 10 rfl (by unfold vp_in; decide) dX5_house_88 (fun H locs w => ?_)
      have w : Wd D cI cZ b0 tt A s [(m_a, .inr (5, [.int m_thrown, .ref q_text, .int m_textSize, .int m_place, .ref q_cards, .ref q_readCards, .ref q_readPage, .ref q_page, .ref q_trial, .ref q_loads, .ref q_book, .int 0, .ref q_kept, .ref q_isKept, .int m_held, .ref q_heldWho, .ref q_heldForce, .ref q_heldLoad, .ref q_heldIs, .long m_seed, .int m_tentMany, .int m_tentFirst, .int m_restMany, .int m_restFirst, .ref q_gains, .ref q_value])), (q_text, .inl (cI, 56, .inl m_text)), (q_cards, .inl (cI, 4, .inl m_cards)), (q_readCards, .inl (cI, 4, .inl m_readCards)), (q_readPage, .inl (cI, 17, .inl m_readPage)), (q_page, .inl (cI, 17, .inl r2.2.1)), (q_trial, .inl (cI, 17, .inl m_trial)), (q_loads, .inl (cI, 16, .inl r2.2.2)), (q_book, .inl (cI, 238, .inl m_book)), (q_kept, .inl (cI, 34, .inl m_kept)), (q_isKept, .inl (cZ, 2, .inl (upd m_isKept (Int32.toNatClampNeg 0) (vp_nar .boolean 0)))), (q_heldWho, .inl (cI, 6, .inl m_heldWho)), (q_heldForce, .inl (cI, 6, .inl m_heldForce)), (q_heldLoad, .inl (cI, 6, .inl m_heldLoad)), (q_heldIs, .inl (cI, 6, .inl m_heldIs)), (q_gains, .inl (cI, 50, .inl m_gains)), (q_value, .inl (cI, 16, .inl m_value))] H locs := w
      refine lv_aload_n hx hb dX5_house_89 rfl (lv_at hl 0 rfl) ?_
      refine va_get (D := D) (ci := 5) (v := .ref q_isKept) (C := RX5) (T := TX5) (N := 26) hx hb hg iX5 hown w.2.2.2.2.2.2.1 w.1 0 rfl rfl 13 (by decide) (hg _ w_502) (fun _ h9 => h9) rfl dX5_house_90 ?_
      refine lv_iconst (v := 1) hx hb dX5_house_93 (by decide) ?_
      refine lv_iconst (v := 0) hx hb dX5_house_94 (by decide) ?_
      refine k_zast hx hb w 10 rfl (by unfold vp_in; decide) dX5_house_95 (fun H locs w => ?_)
      have w : Wd D cI cZ b0 tt A s [(m_a, .inr (5, [.int m_thrown, .ref q_text, .int m_textSize, .int m_place, .ref q_cards, .ref q_readCards, .ref q_readPage, .ref q_page, .ref q_trial, .ref q_loads, .ref q_book, .int 0, .ref q_kept, .ref q_isKept, .int m_held, .ref q_heldWho, .ref q_heldForce, .ref q_heldLoad, .ref q_heldIs, .long m_seed, .int m_tentMany, .int m_tentFirst, .int m_restMany, .int m_restFirst, .ref q_gains, .ref q_value])), (q_text, .inl (cI, 56, .inl m_text)), (q_cards, .inl (cI, 4, .inl m_cards)), (q_readCards, .inl (cI, 4, .inl m_readCards)), (q_readPage, .inl (cI, 17, .inl m_readPage)), (q_page, .inl (cI, 17, .inl r2.2.1)), (q_trial, .inl (cI, 17, .inl m_trial)), (q_loads, .inl (cI, 16, .inl r2.2.2)), (q_book, .inl (cI, 238, .inl m_book)), (q_kept, .inl (cI, 34, .inl m_kept)), (q_isKept, .inl (cZ, 2, .inl (upd (upd m_isKept (Int32.toNatClampNeg 0) (vp_nar .boolean 0)) (Int32.toNatClampNeg 1) (vp_nar .boolean 0)))), (q_heldWho, .inl (cI, 6, .inl m_heldWho)), (q_heldForce, .inl (cI, 6, .inl m_heldForce)), (q_heldLoad, .inl (cI, 6, .inl m_heldLoad)), (q_heldIs, .inl (cI, 6, .inl m_heldIs)), (q_gains, .inl (cI, 50, .inl m_gains)), (q_value, .inl (cI, 16, .inl m_value))] H locs := w
      refine lv_aload_n hx hb dX5_house_96 rfl (lv_at hl 0 rfl) ?_
      refine va_get (D := D) (ci := 5) (v := .ref q_page) (C := RX5) (T := TX5) (N := 26) hx hb hg iX5 hown w.2.2.2.2.2.2.1 w.1 0 rfl rfl 7 (by decide) (hg _ w_496) (fun _ h9 => h9) rfl dX5_house_97 ?_
      replace hf := ob_at hf
      obtain ⟨r3, er3, hf⟩ := hf
      refine k_goI0 w [5] rfl (va_runS (As := [.ref q_page]) (rest := []) ⟨hx, hb, hml, hown, hg⟩ (tX5_there l D cI cZ b0 tt q_page r2.2.1 er3 H.size) (va_cwS 1 hg (gwS w_606 w_607 w_7 w_608) rfl rfl rfl qdX5_there ⟨Nat.le_of_ble_eq_true rfl, Nat.le_of_ble_eq_true rfl⟩) (k_preS w [5] (by decide) rfl) rfl rfl hl.1 rfl (lv_room (Nat.le_of_ble_eq_true rfl)) dX5_house_100 ⟨Nat.le_refl _, Nat.le_refl _⟩) (fun H locs w => ?_)
      replace hf := ob_at hf
      obtain ⟨r4, er4, hf⟩ := hf
      refine k_goI0 w [] rfl (va_runS (As := [.int r3]) (rest := []) ⟨hx, hb, hml, hown, hg⟩ (tX5_many l D cI cZ b0 tt r3 er4 H.size) (va_cwS 1 hg (gwS w_653 w_654 w_7 w_655) rfl rfl rfl qdX5_many ⟨Nat.le_of_ble_eq_true rfl, Nat.le_of_ble_eq_true rfl⟩) (k_preS w [] (by decide) rfl) rfl rfl hl.1 rfl (lv_room (Nat.le_of_ble_eq_true rfl)) dX5_house_103 ⟨Nat.le_refl _, Nat.le_refl _⟩) (fun H locs w => ?_)
      exact k_iret (u := (m_thrown, m_place, 0, m_cards, m_readCards, m_readPage, r2.2.1, r2.2.2, (upd (upd m_isKept (Int32.toNatClampNeg 0) (vp_nar .boolean 0)) (Int32.toNatClampNeg 1) (vp_nar .boolean 0)))) hx hb hr hlk w rfl hf dX5_house_106
    · replace hf := ite_f c1 hf
      refine lv_aload_n hx hb dX5_house_50 rfl (lv_at hl 0 rfl) ?_
      refine va_get (D := D) (ci := 5) (v := .ref q_page) (C := RX5) (T := TX5) (N := 26) hx hb hg iX5 hown w.2.2.2.2.2.2.1 w.1 0 rfl rfl 7 (by decide) (hg _ w_496) (fun _ h9 => h9) rfl dX5_house_51 ?_
      refine lv_iload_n hx hb dX5_house_54 rfl (lv_at hl 1 rfl) ?_
      refine lv_aload_n hx hb dX5_house_55 rfl (lv_at hl 0 rfl) ?_
      refine va_get (D := D) (ci := 5) (v := .ref q_readPage) (C := RX5) (T := TX5) (N := 26) hx hb hg iX5 hown w.2.2.2.2.2.2.1 w.1 0 rfl rfl 6 (by decide) (hg _ w_495) (fun _ h9 => h9) rfl dX5_house_56 ?_
      refine lv_iload_n hx hb dX5_house_59 rfl (lv_at hl 1 rfl) ?_
      replace hf := gd_at hf
      obtain ⟨hi5, hf⟩ := hf
      refine va_iald hx hb w.2.2.2.2.2.2.1 w.1 4 0 rfl rfl hi5 dX5_house_60 ?_
      refine lv_topi (fun z6 ez6 => ?_)
      replace hf := nm_at ez6 hf
      replace hf := gd_at hf
      obtain ⟨hi7, hf⟩ := hf
      refine k_iast hx hb w 5 rfl hi7 dX5_house_61 (fun H locs w => ?_)
      have w : Wd D cI cZ b0 tt A s [(m_a, .inr (5, [.int m_thrown, .ref q_text, .int m_textSize, .int m_place, .ref q_cards, .ref q_readCards, .ref q_readPage, .ref q_page, .ref q_trial, .ref q_loads, .ref q_book, .int m_acts, .ref q_kept, .ref q_isKept, .int m_held, .ref q_heldWho, .ref q_heldForce, .ref q_heldLoad, .ref q_heldIs, .long m_seed, .int m_tentMany, .int m_tentFirst, .int m_restMany, .int m_restFirst, .ref q_gains, .ref q_value])), (q_text, .inl (cI, 56, .inl m_text)), (q_cards, .inl (cI, 4, .inl m_cards)), (q_readCards, .inl (cI, 4, .inl m_readCards)), (q_readPage, .inl (cI, 17, .inl m_readPage)), (q_page, .inl (cI, 17, .inl (upd m_page (Int32.toNatClampNeg v1) z6))), (q_trial, .inl (cI, 17, .inl m_trial)), (q_loads, .inl (cI, 16, .inl m_loads)), (q_book, .inl (cI, 238, .inl m_book)), (q_kept, .inl (cI, 34, .inl m_kept)), (q_isKept, .inl (cZ, 2, .inl m_isKept)), (q_heldWho, .inl (cI, 6, .inl m_heldWho)), (q_heldForce, .inl (cI, 6, .inl m_heldForce)), (q_heldLoad, .inl (cI, 6, .inl m_heldLoad)), (q_heldIs, .inl (cI, 6, .inl m_heldIs)), (q_gains, .inl (cI, 50, .inl m_gains)), (q_value, .inl (cI, 16, .inl m_value))] H locs := w
      obtain ⟨z8, ez8⟩ : ∃ y : Int32, y = (v1 + 1) := ⟨_, rfl⟩
      replace hf := nm_at ez8 hf
      refine lv_iinc (v := z8) (lv' := [(1, .int z8), (0, .ref m_a)]) hx hb dX5_house_62 hl (k := 1) rfl (by rw [ez8]; rfl) (by decide) rfl (fun ls hl => ?_)
      refine lv_goto (tgt := 44) hx hb dX5_house_65 (by decide) ?_
      exact ih z8 (upd m_page (Int32.toNatClampNeg v1) z6) H locs ls hf w (lv_sub hl [1, 0] rfl)
def fX5_house_L19   (m_thrown : Int32) (m_textSize : Int32) (m_place : Int32) (m_acts : Int32) (m_text : Nat → Int32) (m_readCards : Nat → Int32) (m_readPage : Nat → Int32) (m_page : Nat → Int32) (m_loads : Nat → Int32) (m_isKept : Nat → Int32) : Nat → Int32 → (Nat → Int32) → Option (Int32 × Int32 × Int32 × Int32 × (Nat → Int32) × (Nat → Int32) × (Nat → Int32) × (Nat → Int32) × (Nat → Int32) × (Nat → Int32))
  | 0, _, _ => none
  | n + 1, v1, m_cards => (if 4 ≤ v1 then fX5_house_L44 m_thrown m_textSize m_place m_acts m_text m_cards m_readCards m_readPage m_loads m_isKept FU 0 m_page else gd v1 4 (nm (m_readCards (Int32.toNatClampNeg v1)) (fun z11 => gd v1 4 (nm (v1 + 1) (fun z13 => fX5_house_L19 m_thrown m_textSize m_place m_acts m_text m_readCards m_readPage m_page m_loads m_isKept n z13 (upd m_cards (Int32.toNatClampNeg v1) z11))))))
set_option maxRecDepth 100000 in
set_option maxHeartbeats 4000000 in
theorem tX5_house_L19 {p : Program} {l : Launch} {e : Env} {s : State} {m : MethodId} {args : Array Value} {below : List Frame} {meth : Method} {c : Code} {D : va_G} {cI cZ : ClassId} {b0 : Nat} {tt : Nat → Nat} {A : Nat → Prop}  {m_a q_text q_cards q_readCards q_readPage q_page q_trial q_loads q_book q_kept q_isKept q_heldWho q_heldForce q_heldLoad q_heldIs q_gains q_value : Nat}  {m_thrown : Int32} {m_textSize : Int32} {m_place : Int32} {m_acts : Int32} {m_text : Nat → Int32} {m_readCards : Nat → Int32} {m_readPage : Nat → Int32} {m_page : Nat → Int32} {m_loads : Nat → Int32} {m_isKept : Nat → Int32} {m_held : Int32} {m_seed : Int64} {m_tentMany : Int32} {m_tentFirst : Int32} {m_restMany : Int32} {m_restFirst : Int32} {m_trial : Nat → Int32} {m_book : Nat → Int32} {m_kept : Nat → Int32} {m_heldWho : Nat → Int32} {m_heldForce : Nat → Int32} {m_heldLoad : Nat → Int32} {m_heldIs : Nat → Int32} {m_gains : Nat → Int32} {m_value : Nat → Int32} {res : Int32 × Int32 × Int32 × Int32 × (Nat → Int32) × (Nat → Int32) × (Nat → Int32) × (Nat → Int32) × (Nat → Int32) × (Nat → Int32)} (C : Cx p s m args meth c cX5_house 2 (some .int) (cwX5_house :: GW) RX5) : ∀ (n : Nat) (v1 : Int32) (m_cards : Nat → Int32) (H : Heap) (locs : List Loc) (ls : Array Slot), fX5_house_L19 m_thrown m_textSize m_place m_acts m_text m_readCards m_readPage m_page m_loads m_isKept n v1 m_cards = some res → Wd D cI cZ b0 tt A s [(m_a, .inr (5, [.int m_thrown, .ref q_text, .int m_textSize, .int m_place, .ref q_cards, .ref q_readCards, .ref q_readPage, .ref q_page, .ref q_trial, .ref q_loads, .ref q_book, .int m_acts, .ref q_kept, .ref q_isKept, .int m_held, .ref q_heldWho, .ref q_heldForce, .ref q_heldLoad, .ref q_heldIs, .long m_seed, .int m_tentMany, .int m_tentFirst, .int m_restMany, .int m_restFirst, .ref q_gains, .ref q_value])), (q_text, .inl (cI, 56, .inl m_text)), (q_cards, .inl (cI, 4, .inl m_cards)), (q_readCards, .inl (cI, 4, .inl m_readCards)), (q_readPage, .inl (cI, 17, .inl m_readPage)), (q_page, .inl (cI, 17, .inl m_page)), (q_trial, .inl (cI, 17, .inl m_trial)), (q_loads, .inl (cI, 16, .inl m_loads)), (q_book, .inl (cI, 238, .inl m_book)), (q_kept, .inl (cI, 34, .inl m_kept)), (q_isKept, .inl (cZ, 2, .inl m_isKept)), (q_heldWho, .inl (cI, 6, .inl m_heldWho)), (q_heldForce, .inl (cI, 6, .inl m_heldForce)), (q_heldLoad, .inl (cI, 6, .inl m_heldLoad)), (q_heldIs, .inl (cI, 6, .inl m_heldIs)), (q_gains, .inl (cI, 50, .inl m_gains)), (q_value, .inl (cI, 16, .inl m_value))] H locs → lv_has ls 2 [(0, .ref m_a), (1, .int v1)] → W p l e (rmo 8 171) s m args below meth c H locs 0 0 (MQ below (QI D (fun u : Int32 × Int32 × Int32 × (Nat → Int32) × (Nat → Int32) × (Nat → Int32) × (Nat → Int32) × (Nat → Int32) × (Nat → Int32) => [(m_a, .inr (5, [.int u.1, .ref q_text, .int m_textSize, .int u.2.1, .ref q_cards, .ref q_readCards, .ref q_readPage, .ref q_page, .ref q_trial, .ref q_loads, .ref q_book, .int u.2.2.1, .ref q_kept, .ref q_isKept, .int m_held, .ref q_heldWho, .ref q_heldForce, .ref q_heldLoad, .ref q_heldIs, .long m_seed, .int m_tentMany, .int m_tentFirst, .int m_restMany, .int m_restFirst, .ref q_gains, .ref q_value])), (q_text, .inl (cI, 56, .inl m_text)), (q_cards, .inl (cI, 4, .inl u.2.2.2.1)), (q_readCards, .inl (cI, 4, .inl u.2.2.2.2.1)), (q_readPage, .inl (cI, 17, .inl u.2.2.2.2.2.1)), (q_page, .inl (cI, 17, .inl u.2.2.2.2.2.2.1)), (q_trial, .inl (cI, 17, .inl m_trial)), (q_loads, .inl (cI, 16, .inl u.2.2.2.2.2.2.2.1)), (q_book, .inl (cI, 238, .inl m_book)), (q_kept, .inl (cI, 34, .inl m_kept)), (q_isKept, .inl (cZ, 2, .inl u.2.2.2.2.2.2.2.2)), (q_heldWho, .inl (cI, 6, .inl m_heldWho)), (q_heldForce, .inl (cI, 6, .inl m_heldForce)), (q_heldLoad, .inl (cI, 6, .inl m_heldLoad)), (q_heldIs, .inl (cI, 6, .inl m_heldIs)), (q_gains, .inl (cI, 50, .inl m_gains)), (q_value, .inl (cI, 16, .inl m_value))]) A res) args s 0 0 A) (F0 m 19 ls []) := by
  obtain ⟨hx, hb, hr, hml, hown, hts, hlk⟩ := id C
  have hg : ∀ w ∈ GW, w.before args s = true := fun w h => hts w (List.mem_cons_of_mem _ h)
  intro n
  induction n with
  | zero =>
    intro _ _ H locs ls hf
    rw [fX5_house_L19] at hf
    cases hf
  | succ n ih =>
    intro v1 m_cards H locs ls hf w hl
    rw [fX5_house_L19] at hf
    refine lv_iload_n hx hb dX5_house_19 rfl (lv_at hl 1 rfl) ?_
    refine lv_iconst (v := 4) hx hb dX5_house_20 (by decide) ?_
    refine lv_icmp_ge (tgt := 42) hx hb dX5_house_21 (by decide) (fun c9 => ?_) (fun c9 => ?_)
    · replace hf := ite_t c9 hf
      refine lv_iconst (v := 0) hx hb dX5_house_42 (by decide) ?_
      refine lv_istore_n (lv' := [(1, .int 0), (0, .ref m_a)]) hx hb dX5_house_43 rfl hl (by decide) rfl (fun ls hl => ?_)
      exact tX5_house_L44 (m_thrown := m_thrown) (m_textSize := m_textSize) (m_place := m_place) (m_acts := m_acts) (m_text := m_text) (m_cards := m_cards) (m_readCards := m_readCards) (m_readPage := m_readPage) (m_loads := m_loads) (m_isKept := m_isKept) (m_held := m_held) (m_seed := m_seed) (m_tentMany := m_tentMany) (m_tentFirst := m_tentFirst) (m_restMany := m_restMany) (m_restFirst := m_restFirst) (m_trial := m_trial) (m_book := m_book) (m_kept := m_kept) (m_heldWho := m_heldWho) (m_heldForce := m_heldForce) (m_heldLoad := m_heldLoad) (m_heldIs := m_heldIs) (m_gains := m_gains) (m_value := m_value) (C := C) FU 0 m_page H locs ls hf w (lv_sub hl [1, 0] rfl)
    · replace hf := ite_f c9 hf
      refine lv_aload_n hx hb dX5_house_24 rfl (lv_at hl 0 rfl) ?_
      refine va_get (D := D) (ci := 5) (v := .ref q_cards) (C := RX5) (T := TX5) (N := 26) hx hb hg iX5 hown w.2.2.2.2.2.2.1 w.1 0 rfl rfl 4 (by decide) (hg _ w_493) (fun _ h9 => h9) rfl dX5_house_25 ?_
      refine lv_iload_n hx hb dX5_house_28 rfl (lv_at hl 1 rfl) ?_
      refine lv_aload_n hx hb dX5_house_29 rfl (lv_at hl 0 rfl) ?_
      refine va_get (D := D) (ci := 5) (v := .ref q_readCards) (C := RX5) (T := TX5) (N := 26) hx hb hg iX5 hown w.2.2.2.2.2.2.1 w.1 0 rfl rfl 5 (by decide) (hg _ w_494) (fun _ h9 => h9) rfl dX5_house_30 ?_
      refine lv_iload_n hx hb dX5_house_33 rfl (lv_at hl 1 rfl) ?_
      replace hf := gd_at hf
      obtain ⟨hi10, hf⟩ := hf
      refine va_iald hx hb w.2.2.2.2.2.2.1 w.1 3 0 rfl rfl hi10 dX5_house_34 ?_
      refine lv_topi (fun z11 ez11 => ?_)
      replace hf := nm_at ez11 hf
      replace hf := gd_at hf
      obtain ⟨hi12, hf⟩ := hf
      refine k_iast hx hb w 2 rfl hi12 dX5_house_35 (fun H locs w => ?_)
      have w : Wd D cI cZ b0 tt A s [(m_a, .inr (5, [.int m_thrown, .ref q_text, .int m_textSize, .int m_place, .ref q_cards, .ref q_readCards, .ref q_readPage, .ref q_page, .ref q_trial, .ref q_loads, .ref q_book, .int m_acts, .ref q_kept, .ref q_isKept, .int m_held, .ref q_heldWho, .ref q_heldForce, .ref q_heldLoad, .ref q_heldIs, .long m_seed, .int m_tentMany, .int m_tentFirst, .int m_restMany, .int m_restFirst, .ref q_gains, .ref q_value])), (q_text, .inl (cI, 56, .inl m_text)), (q_cards, .inl (cI, 4, .inl (upd m_cards (Int32.toNatClampNeg v1) z11))), (q_readCards, .inl (cI, 4, .inl m_readCards)), (q_readPage, .inl (cI, 17, .inl m_readPage)), (q_page, .inl (cI, 17, .inl m_page)), (q_trial, .inl (cI, 17, .inl m_trial)), (q_loads, .inl (cI, 16, .inl m_loads)), (q_book, .inl (cI, 238, .inl m_book)), (q_kept, .inl (cI, 34, .inl m_kept)), (q_isKept, .inl (cZ, 2, .inl m_isKept)), (q_heldWho, .inl (cI, 6, .inl m_heldWho)), (q_heldForce, .inl (cI, 6, .inl m_heldForce)), (q_heldLoad, .inl (cI, 6, .inl m_heldLoad)), (q_heldIs, .inl (cI, 6, .inl m_heldIs)), (q_gains, .inl (cI, 50, .inl m_gains)), (q_value, .inl (cI, 16, .inl m_value))] H locs := w
      obtain ⟨z13, ez13⟩ : ∃ y : Int32, y = (v1 + 1) := ⟨_, rfl⟩
      replace hf := nm_at ez13 hf
      refine lv_iinc (v := z13) (lv' := [(1, .int z13), (0, .ref m_a)]) hx hb dX5_house_36 hl (k := 1) rfl (by rw [ez13]; rfl) (by decide) rfl (fun ls hl => ?_)
      refine lv_goto (tgt := 19) hx hb dX5_house_39 (by decide) ?_
      exact ih z13 (upd m_cards (Int32.toNatClampNeg v1) z11) H locs ls hf w (lv_sub hl [1, 0] rfl)
def fX5_house  (m_thrown : Int32) (m_textSize : Int32) (m_place : Int32) (m_acts : Int32) (m_text : Nat → Int32) (m_cards : Nat → Int32) (m_readCards : Nat → Int32) (m_readPage : Nat → Int32) (m_page : Nat → Int32) (m_loads : Nat → Int32) (m_isKept : Nat → Int32) : Option (Int32 × Int32 × Int32 × Int32 × (Nat → Int32) × (Nat → Int32) × (Nat → Int32) × (Nat → Int32) × (Nat → Int32) × (Nat → Int32)) := ob (fX5_readHouse m_textSize m_place m_text m_readCards m_readPage) (fun r14 => (if r14.1 = (-9) then fX5_house_L19 0 m_textSize r14.2.1 m_acts m_text r14.2.2.1 r14.2.2.2 m_page m_loads m_isKept FU 0 m_cards else some ((-3), (0, r14.2.1, m_acts, m_cards, r14.2.2.1, r14.2.2.2, m_page, m_loads, m_isKept))))
set_option maxRecDepth 100000 in
set_option maxHeartbeats 4000000 in
theorem tX5_house (l : Launch) (D : va_G) (cI cZ : ClassId) (b0 : Nat) (tt : Nat → Nat)  (m_a q_text q_cards q_readCards q_readPage q_page q_trial q_loads q_book q_kept q_isKept q_heldWho q_heldForce q_heldLoad q_heldIs q_gains q_value : Nat) (m_thrown : Int32) (m_textSize : Int32) (m_place : Int32) (m_acts : Int32) (m_held : Int32) (m_seed : Int64) (m_tentMany : Int32) (m_tentFirst : Int32) (m_restMany : Int32) (m_restFirst : Int32) (m_text : Nat → Int32) (m_cards : Nat → Int32) (m_readCards : Nat → Int32) (m_readPage : Nat → Int32) (m_page : Nat → Int32) (m_trial : Nat → Int32) (m_loads : Nat → Int32) (m_book : Nat → Int32) (m_kept : Nat → Int32) (m_isKept : Nat → Int32) (m_heldWho : Nat → Int32) (m_heldForce : Nat → Int32) (m_heldLoad : Nat → Int32) (m_heldIs : Nat → Int32) (m_gains : Nat → Int32) (m_value : Nat → Int32)  {res : Int32 × Int32 × Int32 × Int32 × (Nat → Int32) × (Nat → Int32) × (Nat → Int32) × (Nat → Int32) × (Nat → Int32) × (Nat → Int32)} (hf : fX5_house m_thrown m_textSize m_place m_acts m_text m_cards m_readCards m_readPage m_page m_loads m_isKept = some res) : CtI l yX5_house (cwX5_house :: GW) 8 171 D cI cZ b0 tt [.ref m_a] (fun u : Int32 × Int32 × Int32 × (Nat → Int32) × (Nat → Int32) × (Nat → Int32) × (Nat → Int32) × (Nat → Int32) × (Nat → Int32) => [(m_a, .inr (5, [.int u.1, .ref q_text, .int m_textSize, .int u.2.1, .ref q_cards, .ref q_readCards, .ref q_readPage, .ref q_page, .ref q_trial, .ref q_loads, .ref q_book, .int u.2.2.1, .ref q_kept, .ref q_isKept, .int m_held, .ref q_heldWho, .ref q_heldForce, .ref q_heldLoad, .ref q_heldIs, .long m_seed, .int m_tentMany, .int m_tentFirst, .int m_restMany, .int m_restFirst, .ref q_gains, .ref q_value])), (q_text, .inl (cI, 56, .inl m_text)), (q_cards, .inl (cI, 4, .inl u.2.2.2.1)), (q_readCards, .inl (cI, 4, .inl u.2.2.2.2.1)), (q_readPage, .inl (cI, 17, .inl u.2.2.2.2.2.1)), (q_page, .inl (cI, 17, .inl u.2.2.2.2.2.2.1)), (q_trial, .inl (cI, 17, .inl m_trial)), (q_loads, .inl (cI, 16, .inl u.2.2.2.2.2.2.2.1)), (q_book, .inl (cI, 238, .inl m_book)), (q_kept, .inl (cI, 34, .inl m_kept)), (q_isKept, .inl (cZ, 2, .inl u.2.2.2.2.2.2.2.2)), (q_heldWho, .inl (cI, 6, .inl m_heldWho)), (q_heldForce, .inl (cI, 6, .inl m_heldForce)), (q_heldLoad, .inl (cI, 6, .inl m_heldLoad)), (q_heldIs, .inl (cI, 6, .inl m_heldIs)), (q_gains, .inl (cI, 50, .inl m_gains)), (q_value, .inl (cI, 16, .inl m_value))]) (m_thrown, m_place, m_acts, m_cards, m_readCards, m_readPage, m_page, m_loads, m_isKept) res := by
  intro sz
  refine k_begin (cc := cX5_house) (maxL := 2) (ret := (some .int)) (by decide) rfl (Nat.le_of_ble_eq_true rfl) ?_
  intro p e s m below meth c ls C w hl
  generalize va_A _ sz = A at w ⊢
  have w : Wd D cI cZ b0 tt A s [(m_a, .inr (5, [.int m_thrown, .ref q_text, .int m_textSize, .int m_place, .ref q_cards, .ref q_readCards, .ref q_readPage, .ref q_page, .ref q_trial, .ref q_loads, .ref q_book, .int m_acts, .ref q_kept, .ref q_isKept, .int m_held, .ref q_heldWho, .ref q_heldForce, .ref q_heldLoad, .ref q_heldIs, .long m_seed, .int m_tentMany, .int m_tentFirst, .int m_restMany, .int m_restFirst, .ref q_gains, .ref q_value])), (q_text, .inl (cI, 56, .inl m_text)), (q_cards, .inl (cI, 4, .inl m_cards)), (q_readCards, .inl (cI, 4, .inl m_readCards)), (q_readPage, .inl (cI, 17, .inl m_readPage)), (q_page, .inl (cI, 17, .inl m_page)), (q_trial, .inl (cI, 17, .inl m_trial)), (q_loads, .inl (cI, 16, .inl m_loads)), (q_book, .inl (cI, 238, .inl m_book)), (q_kept, .inl (cI, 34, .inl m_kept)), (q_isKept, .inl (cZ, 2, .inl m_isKept)), (q_heldWho, .inl (cI, 6, .inl m_heldWho)), (q_heldForce, .inl (cI, 6, .inl m_heldForce)), (q_heldLoad, .inl (cI, 6, .inl m_heldLoad)), (q_heldIs, .inl (cI, 6, .inl m_heldIs)), (q_gains, .inl (cI, 50, .inl m_gains)), (q_value, .inl (cI, 16, .inl m_value))] s.heap [] := w
  have hl : lv_has ls 2 [(0, .ref m_a)] := hl
  obtain ⟨H, eH⟩ : ∃ H, H = s.heap := ⟨_, rfl⟩
  rw [← eH] at w ⊢
  generalize ([] : List Loc) = locs at w ⊢
  generalize List.toArray _ = args at C ⊢
  obtain ⟨hx, hb, hr, hml, hown, hts, hlk⟩ := id C
  have hg : ∀ w ∈ GW, w.before args s = true := fun w h => hts w (List.mem_cons_of_mem _ h)
  unfold fX5_house at hf
  refine lv_aload_n hx hb dX5_house_0 rfl (lv_at hl 0 rfl) ?_
  refine lv_iconst (v := 0) hx hb dX5_house_1 (by decide) ?_
  refine k_put (ci := 5) (v := .int 0) (ty := .int) (C := RX5) (T := TX5) (N := 26) hx hb hg iX5 tyX5 tyX5_ok nmX5 hown w 0 rfl rfl 0 (by decide) (hg _ w_489) (fun _ h9 => h9) rfl pd_I rfl rfl (Nat.le_of_ble_eq_true rfl) dX5_house_2 (fun H locs w => ?_)
  have w : Wd D cI cZ b0 tt A s [(m_a, .inr (5, [.int 0, .ref q_text, .int m_textSize, .int m_place, .ref q_cards, .ref q_readCards, .ref q_readPage, .ref q_page, .ref q_trial, .ref q_loads, .ref q_book, .int m_acts, .ref q_kept, .ref q_isKept, .int m_held, .ref q_heldWho, .ref q_heldForce, .ref q_heldLoad, .ref q_heldIs, .long m_seed, .int m_tentMany, .int m_tentFirst, .int m_restMany, .int m_restFirst, .ref q_gains, .ref q_value])), (q_text, .inl (cI, 56, .inl m_text)), (q_cards, .inl (cI, 4, .inl m_cards)), (q_readCards, .inl (cI, 4, .inl m_readCards)), (q_readPage, .inl (cI, 17, .inl m_readPage)), (q_page, .inl (cI, 17, .inl m_page)), (q_trial, .inl (cI, 17, .inl m_trial)), (q_loads, .inl (cI, 16, .inl m_loads)), (q_book, .inl (cI, 238, .inl m_book)), (q_kept, .inl (cI, 34, .inl m_kept)), (q_isKept, .inl (cZ, 2, .inl m_isKept)), (q_heldWho, .inl (cI, 6, .inl m_heldWho)), (q_heldForce, .inl (cI, 6, .inl m_heldForce)), (q_heldLoad, .inl (cI, 6, .inl m_heldLoad)), (q_heldIs, .inl (cI, 6, .inl m_heldIs)), (q_gains, .inl (cI, 50, .inl m_gains)), (q_value, .inl (cI, 16, .inl m_value))] H locs := w
  refine lv_aload_n hx hb dX5_house_5 rfl (lv_at hl 0 rfl) ?_
  replace hf := ob_at hf
  obtain ⟨r14, er14, hf⟩ := hf
  refine k_goI (v0 := (m_place, m_readCards, m_readPage)) (res := r14) w [0, 1, 2, 3, 4, 5, 6, 7, 8, 9, 10, 11, 12, 13, 14, 15, 16] rfl (fun _ => rfl) (va_runV (As := []) (rest := []) ⟨hx, hb, hml, hown, hg⟩ (tX5_readHouse l D cI cZ b0 tt m_a q_text q_cards q_readCards q_readPage q_page q_trial q_loads q_book q_kept q_isKept q_heldWho q_heldForce q_heldLoad q_heldIs q_gains q_value 0 m_textSize m_place m_acts m_held m_seed m_tentMany m_tentFirst m_restMany m_restFirst m_text m_cards m_readCards m_readPage m_page m_trial m_loads m_book m_kept m_isKept m_heldWho m_heldForce m_heldLoad m_heldIs m_gains m_value er14 H.size) (cwV 0 hg (gwV w_585 w_586 w_842 w_7 w_587) rfl rfl rfl ⟨rfl, qdX5_readHouse⟩ ⟨Nat.le_of_ble_eq_true rfl, Nat.le_of_ble_eq_true rfl⟩) (k_preV w [0, 1, 2, 3, 4, 5, 6, 7, 8, 9, 10, 11, 12, 13, 14, 15, 16] (by decide) rfl (q0 := 0) rfl rfl) rfl rfl hl.1 rfl (lv_room (Nat.le_of_ble_eq_true rfl)) dX5_house_6 ⟨Nat.le_refl _, Nat.le_refl _⟩) (fun H locs w => ?_)
  have w : Wd D cI cZ b0 tt A s [(m_a, .inr (5, [.int 0, .ref q_text, .int m_textSize, .int r14.2.1, .ref q_cards, .ref q_readCards, .ref q_readPage, .ref q_page, .ref q_trial, .ref q_loads, .ref q_book, .int m_acts, .ref q_kept, .ref q_isKept, .int m_held, .ref q_heldWho, .ref q_heldForce, .ref q_heldLoad, .ref q_heldIs, .long m_seed, .int m_tentMany, .int m_tentFirst, .int m_restMany, .int m_restFirst, .ref q_gains, .ref q_value])), (q_text, .inl (cI, 56, .inl m_text)), (q_cards, .inl (cI, 4, .inl m_cards)), (q_readCards, .inl (cI, 4, .inl r14.2.2.1)), (q_readPage, .inl (cI, 17, .inl r14.2.2.2)), (q_page, .inl (cI, 17, .inl m_page)), (q_trial, .inl (cI, 17, .inl m_trial)), (q_loads, .inl (cI, 16, .inl m_loads)), (q_book, .inl (cI, 238, .inl m_book)), (q_kept, .inl (cI, 34, .inl m_kept)), (q_isKept, .inl (cZ, 2, .inl m_isKept)), (q_heldWho, .inl (cI, 6, .inl m_heldWho)), (q_heldForce, .inl (cI, 6, .inl m_heldForce)), (q_heldLoad, .inl (cI, 6, .inl m_heldLoad)), (q_heldIs, .inl (cI, 6, .inl m_heldIs)), (q_gains, .inl (cI, 50, .inl m_gains)), (q_value, .inl (cI, 16, .inl m_value))] H locs := w
  refine lv_bipush (v := (-9)) hx hb dX5_house_9 (by decide) ?_
  refine lv_icmp_eq (tgt := 17) hx hb dX5_house_11 (by decide) (fun c15 => ?_) (fun c15 => ?_)
  · replace hf := ite_t c15 hf
    refine lv_iconst (v := 0) hx hb dX5_house_17 (by decide) ?_
    refine lv_istore_n (lv' := [(1, .int 0), (0, .ref m_a)]) hx hb dX5_house_18 rfl hl (by decide) rfl (fun ls hl => ?_)
    exact tX5_house_L19 (m_thrown := 0) (m_textSize := m_textSize) (m_place := r14.2.1) (m_acts := m_acts) (m_text := m_text) (m_readCards := r14.2.2.1) (m_readPage := r14.2.2.2) (m_page := m_page) (m_loads := m_loads) (m_isKept := m_isKept) (m_held := m_held) (m_seed := m_seed) (m_tentMany := m_tentMany) (m_tentFirst := m_tentFirst) (m_restMany := m_restMany) (m_restFirst := m_restFirst) (m_trial := m_trial) (m_book := m_book) (m_kept := m_kept) (m_heldWho := m_heldWho) (m_heldForce := m_heldForce) (m_heldLoad := m_heldLoad) (m_heldIs := m_heldIs) (m_gains := m_gains) (m_value := m_value) (C := C) FU 0 m_cards H locs ls hf w (lv_sub hl [1, 0] rfl)
  · replace hf := ite_f c15 hf
    refine lv_bipush (v := (-3)) hx hb dX5_house_14 (by decide) ?_
    exact k_iret (u := (0, r14.2.1, m_acts, m_cards, r14.2.2.1, r14.2.2.2, m_page, m_loads, m_isKept)) hx hb hr hlk w rfl hf dX5_house_16
-- X5_deckAll
def fX5_deckAll  (m_cards : Nat → Int32) (m_page : Nat → Int32) : Option (Int32) := ob (fX5_left m_page m_cards 0) (fun r1 => ob (fX5_left m_page m_cards 1) (fun r2 => ob (fX5_left m_page m_cards 2) (fun r3 => ob (fX5_left m_page m_cards 3) (fun r4 => some (((r1 + r2) + r3) + r4)))))
set_option maxRecDepth 100000 in
set_option maxHeartbeats 4000000 in
theorem tX5_deckAll (l : Launch) (D : va_G) (cI cZ : ClassId) (b0 : Nat) (tt : Nat → Nat)  (m_a q_text q_cards q_readCards q_readPage q_page q_trial q_loads q_book q_kept q_isKept q_heldWho q_heldForce q_heldLoad q_heldIs q_gains q_value : Nat) (m_thrown : Int32) (m_textSize : Int32) (m_place : Int32) (m_acts : Int32) (m_held : Int32) (m_seed : Int64) (m_tentMany : Int32) (m_tentFirst : Int32) (m_restMany : Int32) (m_restFirst : Int32) (m_text : Nat → Int32) (m_cards : Nat → Int32) (m_readCards : Nat → Int32) (m_readPage : Nat → Int32) (m_page : Nat → Int32) (m_trial : Nat → Int32) (m_loads : Nat → Int32) (m_book : Nat → Int32) (m_kept : Nat → Int32) (m_isKept : Nat → Int32) (m_heldWho : Nat → Int32) (m_heldForce : Nat → Int32) (m_heldLoad : Nat → Int32) (m_heldIs : Nat → Int32) (m_gains : Nat → Int32) (m_value : Nat → Int32)  {res : Int32} (hf : fX5_deckAll m_cards m_page = some res) : CtI l yX5_deckAll (cwX5_deckAll :: GW) 4 85 D cI cZ b0 tt [.ref m_a] (fun _ : Unit => [(m_a, .inr (5, [.int m_thrown, .ref q_text, .int m_textSize, .int m_place, .ref q_cards, .ref q_readCards, .ref q_readPage, .ref q_page, .ref q_trial, .ref q_loads, .ref q_book, .int m_acts, .ref q_kept, .ref q_isKept, .int m_held, .ref q_heldWho, .ref q_heldForce, .ref q_heldLoad, .ref q_heldIs, .long m_seed, .int m_tentMany, .int m_tentFirst, .int m_restMany, .int m_restFirst, .ref q_gains, .ref q_value])), (q_text, .inl (cI, 56, .inl m_text)), (q_cards, .inl (cI, 4, .inl m_cards)), (q_readCards, .inl (cI, 4, .inl m_readCards)), (q_readPage, .inl (cI, 17, .inl m_readPage)), (q_page, .inl (cI, 17, .inl m_page)), (q_trial, .inl (cI, 17, .inl m_trial)), (q_loads, .inl (cI, 16, .inl m_loads)), (q_book, .inl (cI, 238, .inl m_book)), (q_kept, .inl (cI, 34, .inl m_kept)), (q_isKept, .inl (cZ, 2, .inl m_isKept)), (q_heldWho, .inl (cI, 6, .inl m_heldWho)), (q_heldForce, .inl (cI, 6, .inl m_heldForce)), (q_heldLoad, .inl (cI, 6, .inl m_heldLoad)), (q_heldIs, .inl (cI, 6, .inl m_heldIs)), (q_gains, .inl (cI, 50, .inl m_gains)), (q_value, .inl (cI, 16, .inl m_value))]) () (res, ()) := by
  intro sz
  refine k_begin (cc := cX5_deckAll) (maxL := 1) (ret := (some .int)) (by decide) rfl (Nat.le_of_ble_eq_true rfl) ?_
  intro p e s m below meth c ls C w hl
  generalize va_A _ sz = A at w ⊢
  have w : Wd D cI cZ b0 tt A s [(m_a, .inr (5, [.int m_thrown, .ref q_text, .int m_textSize, .int m_place, .ref q_cards, .ref q_readCards, .ref q_readPage, .ref q_page, .ref q_trial, .ref q_loads, .ref q_book, .int m_acts, .ref q_kept, .ref q_isKept, .int m_held, .ref q_heldWho, .ref q_heldForce, .ref q_heldLoad, .ref q_heldIs, .long m_seed, .int m_tentMany, .int m_tentFirst, .int m_restMany, .int m_restFirst, .ref q_gains, .ref q_value])), (q_text, .inl (cI, 56, .inl m_text)), (q_cards, .inl (cI, 4, .inl m_cards)), (q_readCards, .inl (cI, 4, .inl m_readCards)), (q_readPage, .inl (cI, 17, .inl m_readPage)), (q_page, .inl (cI, 17, .inl m_page)), (q_trial, .inl (cI, 17, .inl m_trial)), (q_loads, .inl (cI, 16, .inl m_loads)), (q_book, .inl (cI, 238, .inl m_book)), (q_kept, .inl (cI, 34, .inl m_kept)), (q_isKept, .inl (cZ, 2, .inl m_isKept)), (q_heldWho, .inl (cI, 6, .inl m_heldWho)), (q_heldForce, .inl (cI, 6, .inl m_heldForce)), (q_heldLoad, .inl (cI, 6, .inl m_heldLoad)), (q_heldIs, .inl (cI, 6, .inl m_heldIs)), (q_gains, .inl (cI, 50, .inl m_gains)), (q_value, .inl (cI, 16, .inl m_value))] s.heap [] := w
  have hl : lv_has ls 1 [(0, .ref m_a)] := hl
  obtain ⟨H, eH⟩ : ∃ H, H = s.heap := ⟨_, rfl⟩
  rw [← eH] at w ⊢
  generalize ([] : List Loc) = locs at w ⊢
  generalize List.toArray _ = args at C ⊢
  obtain ⟨hx, hb, hr, hml, hown, hts, hlk⟩ := id C
  have hg : ∀ w ∈ GW, w.before args s = true := fun w h => hts w (List.mem_cons_of_mem _ h)
  unfold fX5_deckAll at hf
  refine lv_aload_n hx hb dX5_deckAll_0 rfl (lv_at hl 0 rfl) ?_
  refine lv_aload_n hx hb dX5_deckAll_1 rfl (lv_at hl 0 rfl) ?_
  refine va_get (D := D) (ci := 5) (v := .ref q_page) (C := RX5) (T := TX5) (N := 26) hx hb hg iX5 hown w.2.2.2.2.2.2.1 w.1 0 rfl rfl 7 (by decide) (hg _ w_496) (fun _ h9 => h9) rfl dX5_deckAll_2 ?_
  refine lv_iconst (v := 0) hx hb dX5_deckAll_5 (by decide) ?_
  replace hf := ob_at hf
  obtain ⟨r1, er1, hf⟩ := hf
  refine k_goI0 w [0, 5, 7, 2] rfl (va_runV (As := [.ref q_page, .int 0]) (rest := []) ⟨hx, hb, hml, hown, hg⟩ (tX5_left l D cI cZ b0 tt m_a q_text q_cards q_readCards q_readPage q_page q_trial q_loads q_book q_kept q_isKept q_heldWho q_heldForce q_heldLoad q_heldIs q_gains q_value q_page m_thrown m_textSize m_place m_acts m_held m_seed m_tentMany m_tentFirst m_restMany m_restFirst m_page m_loads m_cards 0 er1 H.size) (cwV 2 hg (gwV w_663 w_664 w_853 w_7 w_665) rfl rfl rfl ⟨rfl, qdX5_left⟩ ⟨Nat.le_of_ble_eq_true rfl, Nat.le_of_ble_eq_true rfl⟩) (k_preV w [0, 5, 7, 2] (by decide) rfl (q0 := 0) rfl rfl) rfl rfl hl.1 rfl (lv_room (Nat.le_of_ble_eq_true rfl)) dX5_deckAll_6 ⟨Nat.le_refl _, Nat.le_refl _⟩) (fun H locs w => ?_)
  refine lv_aload_n hx hb dX5_deckAll_9 rfl (lv_at hl 0 rfl) ?_
  refine lv_aload_n hx hb dX5_deckAll_10 rfl (lv_at hl 0 rfl) ?_
  refine va_get (D := D) (ci := 5) (v := .ref q_page) (C := RX5) (T := TX5) (N := 26) hx hb hg iX5 hown w.2.2.2.2.2.2.1 w.1 0 rfl rfl 7 (by decide) (hg _ w_496) (fun _ h9 => h9) rfl dX5_deckAll_11 ?_
  refine lv_iconst (v := 1) hx hb dX5_deckAll_14 (by decide) ?_
  replace hf := ob_at hf
  obtain ⟨r2, er2, hf⟩ := hf
  refine k_goI0 w [0, 5, 7, 2] rfl (va_runV (As := [.ref q_page, .int 1]) (rest := [.int r1]) ⟨hx, hb, hml, hown, hg⟩ (tX5_left l D cI cZ b0 tt m_a q_text q_cards q_readCards q_readPage q_page q_trial q_loads q_book q_kept q_isKept q_heldWho q_heldForce q_heldLoad q_heldIs q_gains q_value q_page m_thrown m_textSize m_place m_acts m_held m_seed m_tentMany m_tentFirst m_restMany m_restFirst m_page m_loads m_cards 1 er2 H.size) (cwV 2 hg (gwV w_663 w_664 w_853 w_7 w_665) rfl rfl rfl ⟨rfl, qdX5_left⟩ ⟨Nat.le_of_ble_eq_true rfl, Nat.le_of_ble_eq_true rfl⟩) (k_preV w [0, 5, 7, 2] (by decide) rfl (q0 := 0) rfl rfl) rfl rfl hl.1 rfl (lv_room (Nat.le_of_ble_eq_true rfl)) dX5_deckAll_15 ⟨Nat.le_refl _, Nat.le_refl _⟩) (fun H locs w => ?_)
  refine lv_iadd hx hb dX5_deckAll_18 ?_
  refine lv_aload_n hx hb dX5_deckAll_19 rfl (lv_at hl 0 rfl) ?_
  refine lv_aload_n hx hb dX5_deckAll_20 rfl (lv_at hl 0 rfl) ?_
  refine va_get (D := D) (ci := 5) (v := .ref q_page) (C := RX5) (T := TX5) (N := 26) hx hb hg iX5 hown w.2.2.2.2.2.2.1 w.1 0 rfl rfl 7 (by decide) (hg _ w_496) (fun _ h9 => h9) rfl dX5_deckAll_21 ?_
  refine lv_iconst (v := 2) hx hb dX5_deckAll_24 (by decide) ?_
  replace hf := ob_at hf
  obtain ⟨r3, er3, hf⟩ := hf
  refine k_goI0 w [0, 5, 7, 2] rfl (va_runV (As := [.ref q_page, .int 2]) (rest := [.int (r1 + r2)]) ⟨hx, hb, hml, hown, hg⟩ (tX5_left l D cI cZ b0 tt m_a q_text q_cards q_readCards q_readPage q_page q_trial q_loads q_book q_kept q_isKept q_heldWho q_heldForce q_heldLoad q_heldIs q_gains q_value q_page m_thrown m_textSize m_place m_acts m_held m_seed m_tentMany m_tentFirst m_restMany m_restFirst m_page m_loads m_cards 2 er3 H.size) (cwV 2 hg (gwV w_663 w_664 w_853 w_7 w_665) rfl rfl rfl ⟨rfl, qdX5_left⟩ ⟨Nat.le_of_ble_eq_true rfl, Nat.le_of_ble_eq_true rfl⟩) (k_preV w [0, 5, 7, 2] (by decide) rfl (q0 := 0) rfl rfl) rfl rfl hl.1 rfl (lv_room (Nat.le_of_ble_eq_true rfl)) dX5_deckAll_25 ⟨Nat.le_refl _, Nat.le_refl _⟩) (fun H locs w => ?_)
  refine lv_iadd hx hb dX5_deckAll_28 ?_
  refine lv_aload_n hx hb dX5_deckAll_29 rfl (lv_at hl 0 rfl) ?_
  refine lv_aload_n hx hb dX5_deckAll_30 rfl (lv_at hl 0 rfl) ?_
  refine va_get (D := D) (ci := 5) (v := .ref q_page) (C := RX5) (T := TX5) (N := 26) hx hb hg iX5 hown w.2.2.2.2.2.2.1 w.1 0 rfl rfl 7 (by decide) (hg _ w_496) (fun _ h9 => h9) rfl dX5_deckAll_31 ?_
  refine lv_iconst (v := 3) hx hb dX5_deckAll_34 (by decide) ?_
  replace hf := ob_at hf
  obtain ⟨r4, er4, hf⟩ := hf
  refine k_goI0 w [0, 5, 7, 2] rfl (va_runV (As := [.ref q_page, .int 3]) (rest := [.int ((r1 + r2) + r3)]) ⟨hx, hb, hml, hown, hg⟩ (tX5_left l D cI cZ b0 tt m_a q_text q_cards q_readCards q_readPage q_page q_trial q_loads q_book q_kept q_isKept q_heldWho q_heldForce q_heldLoad q_heldIs q_gains q_value q_page m_thrown m_textSize m_place m_acts m_held m_seed m_tentMany m_tentFirst m_restMany m_restFirst m_page m_loads m_cards 3 er4 H.size) (cwV 2 hg (gwV w_663 w_664 w_853 w_7 w_665) rfl rfl rfl ⟨rfl, qdX5_left⟩ ⟨Nat.le_of_ble_eq_true rfl, Nat.le_of_ble_eq_true rfl⟩) (k_preV w [0, 5, 7, 2] (by decide) rfl (q0 := 0) rfl rfl) rfl rfl hl.1 rfl (lv_room (Nat.le_of_ble_eq_true rfl)) dX5_deckAll_35 ⟨Nat.le_refl _, Nat.le_refl _⟩) (fun H locs w => ?_)
  refine lv_iadd hx hb dX5_deckAll_38 ?_
  exact k_iret (u := ()) hx hb hr hlk w rfl (k_ret1 hf) dX5_deckAll_39
-- X5_highest
def fX5_highest_L5   (m_page : Nat → Int32) : Nat → Int32 → Int32 → Option (Int32)
  | 0, _, _ => none
  | n + 1, v1, v2 => (if 16 ≤ v2 then some v1 else gd v2 17 ((if (m_page (Int32.toNatClampNeg v2)) ≤ 0 then nm (v2 + 1) (fun z4 => fX5_highest_L5 m_page n v1 z4) else ob (fX5_level v2) (fun r5 => nm (v2 + 1) (fun z6 => fX5_highest_L5 m_page n r5 z6)))))
set_option maxRecDepth 100000 in
set_option maxHeartbeats 4000000 in
theorem tX5_highest_L5 {p : Program} {l : Launch} {e : Env} {s : State} {m : MethodId} {args : Array Value} {below : List Frame} {meth : Method} {c : Code} {D : va_G} {cI cZ : ClassId} {b0 : Nat} {tt : Nat → Nat} {A : Nat → Prop}  {m_a q_text q_cards q_readCards q_readPage q_page q_trial q_loads q_book q_kept q_isKept q_heldWho q_heldForce q_heldLoad q_heldIs q_gains q_value : Nat}  {m_page : Nat → Int32} {m_thrown : Int32} {m_textSize : Int32} {m_place : Int32} {m_acts : Int32} {m_held : Int32} {m_seed : Int64} {m_tentMany : Int32} {m_tentFirst : Int32} {m_restMany : Int32} {m_restFirst : Int32} {m_text : Nat → Int32} {m_cards : Nat → Int32} {m_readCards : Nat → Int32} {m_readPage : Nat → Int32} {m_trial : Nat → Int32} {m_loads : Nat → Int32} {m_book : Nat → Int32} {m_kept : Nat → Int32} {m_isKept : Nat → Int32} {m_heldWho : Nat → Int32} {m_heldForce : Nat → Int32} {m_heldLoad : Nat → Int32} {m_heldIs : Nat → Int32} {m_gains : Nat → Int32} {m_value : Nat → Int32} {res : Int32} (C : Cx p s m args meth c cX5_highest 3 (some .int) (cwX5_highest :: GW) RX5) : ∀ (n : Nat) (v1 : Int32) (v2 : Int32) (H : Heap) (locs : List Loc) (ls : Array Slot), fX5_highest_L5 m_page n v1 v2 = some res → Wd D cI cZ b0 tt A s [(m_a, .inr (5, [.int m_thrown, .ref q_text, .int m_textSize, .int m_place, .ref q_cards, .ref q_readCards, .ref q_readPage, .ref q_page, .ref q_trial, .ref q_loads, .ref q_book, .int m_acts, .ref q_kept, .ref q_isKept, .int m_held, .ref q_heldWho, .ref q_heldForce, .ref q_heldLoad, .ref q_heldIs, .long m_seed, .int m_tentMany, .int m_tentFirst, .int m_restMany, .int m_restFirst, .ref q_gains, .ref q_value])), (q_text, .inl (cI, 56, .inl m_text)), (q_cards, .inl (cI, 4, .inl m_cards)), (q_readCards, .inl (cI, 4, .inl m_readCards)), (q_readPage, .inl (cI, 17, .inl m_readPage)), (q_page, .inl (cI, 17, .inl m_page)), (q_trial, .inl (cI, 17, .inl m_trial)), (q_loads, .inl (cI, 16, .inl m_loads)), (q_book, .inl (cI, 238, .inl m_book)), (q_kept, .inl (cI, 34, .inl m_kept)), (q_isKept, .inl (cZ, 2, .inl m_isKept)), (q_heldWho, .inl (cI, 6, .inl m_heldWho)), (q_heldForce, .inl (cI, 6, .inl m_heldForce)), (q_heldLoad, .inl (cI, 6, .inl m_heldLoad)), (q_heldIs, .inl (cI, 6, .inl m_heldIs)), (q_gains, .inl (cI, 50, .inl m_gains)), (q_value, .inl (cI, 16, .inl m_value))] H locs → lv_has ls 3 [(0, .ref m_a), (1, .int v1), (2, .int v2)] → W p l e (rmo 1 20) s m args below meth c H locs 0 0 (MQ below (QI D (fun _ : Unit => [(m_a, .inr (5, [.int m_thrown, .ref q_text, .int m_textSize, .int m_place, .ref q_cards, .ref q_readCards, .ref q_readPage, .ref q_page, .ref q_trial, .ref q_loads, .ref q_book, .int m_acts, .ref q_kept, .ref q_isKept, .int m_held, .ref q_heldWho, .ref q_heldForce, .ref q_heldLoad, .ref q_heldIs, .long m_seed, .int m_tentMany, .int m_tentFirst, .int m_restMany, .int m_restFirst, .ref q_gains, .ref q_value])), (q_text, .inl (cI, 56, .inl m_text)), (q_cards, .inl (cI, 4, .inl m_cards)), (q_readCards, .inl (cI, 4, .inl m_readCards)), (q_readPage, .inl (cI, 17, .inl m_readPage)), (q_page, .inl (cI, 17, .inl m_page)), (q_trial, .inl (cI, 17, .inl m_trial)), (q_loads, .inl (cI, 16, .inl m_loads)), (q_book, .inl (cI, 238, .inl m_book)), (q_kept, .inl (cI, 34, .inl m_kept)), (q_isKept, .inl (cZ, 2, .inl m_isKept)), (q_heldWho, .inl (cI, 6, .inl m_heldWho)), (q_heldForce, .inl (cI, 6, .inl m_heldForce)), (q_heldLoad, .inl (cI, 6, .inl m_heldLoad)), (q_heldIs, .inl (cI, 6, .inl m_heldIs)), (q_gains, .inl (cI, 50, .inl m_gains)), (q_value, .inl (cI, 16, .inl m_value))]) A (res, ())) args s 0 0 A) (F0 m 5 ls []) := by
  obtain ⟨hx, hb, hr, hml, hown, hts, hlk⟩ := id C
  have hg : ∀ w ∈ GW, w.before args s = true := fun w h => hts w (List.mem_cons_of_mem _ h)
  intro n
  induction n with
  | zero =>
    intro _ _ H locs ls hf
    rw [fX5_highest_L5] at hf
    cases hf
  | succ n ih =>
    intro v1 v2 H locs ls hf w hl
    rw [fX5_highest_L5] at hf
    refine lv_iload_n hx hb dX5_highest_5 rfl (lv_at hl 2 rfl) ?_
    refine lv_bipush (v := 16) hx hb dX5_highest_6 (by decide) ?_
    refine lv_icmp_ge (tgt := 35) hx hb dX5_highest_8 (by decide) (fun c1 => ?_) (fun c1 => ?_)
    · replace hf := ite_t c1 hf
      refine lv_iload_n hx hb dX5_highest_35 rfl (lv_at hl 1 rfl) ?_
      exact k_iret (u := ()) hx hb hr hlk w rfl (k_ret1 hf) dX5_highest_36
    · replace hf := ite_f c1 hf
      refine lv_aload_n hx hb dX5_highest_11 rfl (lv_at hl 0 rfl) ?_
      refine va_get (D := D) (ci := 5) (v := .ref q_page) (C := RX5) (T := TX5) (N := 26) hx hb hg iX5 hown w.2.2.2.2.2.2.1 w.1 0 rfl rfl 7 (by decide) (hg _ w_496) (fun _ h9 => h9) rfl dX5_highest_12 ?_
      refine lv_iload_n hx hb dX5_highest_15 rfl (lv_at hl 2 rfl) ?_
      replace hf := gd_at hf
      obtain ⟨hi2, hf⟩ := hf
      refine va_iald hx hb w.2.2.2.2.2.2.1 w.1 5 0 rfl rfl hi2 dX5_highest_16 ?_
      refine lv_if_le (tgt := 27) hx hb dX5_highest_17 (by decide) (fun c3 => ?_) (fun c3 => ?_)
      · replace hf := ite_t c3 hf
        refine lv_iload_n hx hb dX5_highest_27 rfl (lv_at hl 1 rfl) ?_
        refine lv_istore_n (lv' := [(1, .int v1), (0, .ref m_a), (2, .int v2)]) hx hb dX5_highest_28 rfl hl (by decide) rfl (fun ls hl => ?_)
        obtain ⟨z4, ez4⟩ : ∃ y : Int32, y = (v2 + 1) := ⟨_, rfl⟩
        replace hf := nm_at ez4 hf
        refine lv_iinc (v := z4) (lv' := [(2, .int z4), (1, .int v1), (0, .ref m_a)]) hx hb dX5_highest_29 hl (k := 2) rfl (by rw [ez4]; rfl) (by decide) rfl (fun ls hl => ?_)
        refine lv_goto (tgt := 5) hx hb dX5_highest_32 (by decide) ?_
        exact ih v1 z4 H locs ls hf w (lv_sub hl [2, 1, 0] rfl)
      · replace hf := ite_f c3 hf
        refine lv_iload_n hx hb dX5_highest_20 rfl (lv_at hl 2 rfl) ?_
        replace hf := ob_at hf
        obtain ⟨r5, er5, hf⟩ := hf
        refine k_goI0 w [] rfl (va_runS (As := [.int v2]) (rest := []) ⟨hx, hb, hml, hown, hg⟩ (tX5_level l D cI cZ b0 tt v2 er5 H.size) (va_cwS 1 hg (gwS w_669 w_670 w_7 w_671) rfl rfl rfl qdX5_level ⟨Nat.le_of_ble_eq_true rfl, Nat.le_of_ble_eq_true rfl⟩) (k_preS w [] (by decide) rfl) rfl rfl hl.1 rfl (lv_room (Nat.le_of_ble_eq_true rfl)) dX5_highest_21 ⟨Nat.le_refl _, Nat.le_refl _⟩) (fun H locs w => ?_)
        refine lv_goto (tgt := 28) hx hb dX5_highest_24 (by decide) ?_
        refine lv_istore_n (lv' := [(1, .int r5), (0, .ref m_a), (2, .int v2)]) hx hb dX5_highest_28 rfl hl (by decide) rfl (fun ls hl => ?_)
        obtain ⟨z6, ez6⟩ : ∃ y : Int32, y = (v2 + 1) := ⟨_, rfl⟩
        replace hf := nm_at ez6 hf
        refine lv_iinc (v := z6) (lv' := [(2, .int z6), (1, .int r5), (0, .ref m_a)]) hx hb dX5_highest_29 hl (k := 2) rfl (by rw [ez6]; rfl) (by decide) rfl (fun ls hl => ?_)
        refine lv_goto (tgt := 5) hx hb dX5_highest_32 (by decide) ?_
        exact ih r5 z6 H locs ls hf w (lv_sub hl [2, 1, 0] rfl)
def fX5_highest  (m_page : Nat → Int32) : Option (Int32) := fX5_highest_L5 m_page FU (-9) 0
set_option maxRecDepth 100000 in
set_option maxHeartbeats 4000000 in
theorem tX5_highest (l : Launch) (D : va_G) (cI cZ : ClassId) (b0 : Nat) (tt : Nat → Nat)  (m_a q_text q_cards q_readCards q_readPage q_page q_trial q_loads q_book q_kept q_isKept q_heldWho q_heldForce q_heldLoad q_heldIs q_gains q_value : Nat) (m_thrown : Int32) (m_textSize : Int32) (m_place : Int32) (m_acts : Int32) (m_held : Int32) (m_seed : Int64) (m_tentMany : Int32) (m_tentFirst : Int32) (m_restMany : Int32) (m_restFirst : Int32) (m_text : Nat → Int32) (m_cards : Nat → Int32) (m_readCards : Nat → Int32) (m_readPage : Nat → Int32) (m_page : Nat → Int32) (m_trial : Nat → Int32) (m_loads : Nat → Int32) (m_book : Nat → Int32) (m_kept : Nat → Int32) (m_isKept : Nat → Int32) (m_heldWho : Nat → Int32) (m_heldForce : Nat → Int32) (m_heldLoad : Nat → Int32) (m_heldIs : Nat → Int32) (m_gains : Nat → Int32) (m_value : Nat → Int32)  {res : Int32} (hf : fX5_highest m_page = some res) : CtI l yX5_highest (cwX5_highest :: GW) 1 20 D cI cZ b0 tt [.ref m_a] (fun _ : Unit => [(m_a, .inr (5, [.int m_thrown, .ref q_text, .int m_textSize, .int m_place, .ref q_cards, .ref q_readCards, .ref q_readPage, .ref q_page, .ref q_trial, .ref q_loads, .ref q_book, .int m_acts, .ref q_kept, .ref q_isKept, .int m_held, .ref q_heldWho, .ref q_heldForce, .ref q_heldLoad, .ref q_heldIs, .long m_seed, .int m_tentMany, .int m_tentFirst, .int m_restMany, .int m_restFirst, .ref q_gains, .ref q_value])), (q_text, .inl (cI, 56, .inl m_text)), (q_cards, .inl (cI, 4, .inl m_cards)), (q_readCards, .inl (cI, 4, .inl m_readCards)), (q_readPage, .inl (cI, 17, .inl m_readPage)), (q_page, .inl (cI, 17, .inl m_page)), (q_trial, .inl (cI, 17, .inl m_trial)), (q_loads, .inl (cI, 16, .inl m_loads)), (q_book, .inl (cI, 238, .inl m_book)), (q_kept, .inl (cI, 34, .inl m_kept)), (q_isKept, .inl (cZ, 2, .inl m_isKept)), (q_heldWho, .inl (cI, 6, .inl m_heldWho)), (q_heldForce, .inl (cI, 6, .inl m_heldForce)), (q_heldLoad, .inl (cI, 6, .inl m_heldLoad)), (q_heldIs, .inl (cI, 6, .inl m_heldIs)), (q_gains, .inl (cI, 50, .inl m_gains)), (q_value, .inl (cI, 16, .inl m_value))]) () (res, ()) := by
  intro sz
  refine k_begin (cc := cX5_highest) (maxL := 3) (ret := (some .int)) (by decide) rfl (Nat.le_of_ble_eq_true rfl) ?_
  intro p e s m below meth c ls C w hl
  generalize va_A _ sz = A at w ⊢
  have w : Wd D cI cZ b0 tt A s [(m_a, .inr (5, [.int m_thrown, .ref q_text, .int m_textSize, .int m_place, .ref q_cards, .ref q_readCards, .ref q_readPage, .ref q_page, .ref q_trial, .ref q_loads, .ref q_book, .int m_acts, .ref q_kept, .ref q_isKept, .int m_held, .ref q_heldWho, .ref q_heldForce, .ref q_heldLoad, .ref q_heldIs, .long m_seed, .int m_tentMany, .int m_tentFirst, .int m_restMany, .int m_restFirst, .ref q_gains, .ref q_value])), (q_text, .inl (cI, 56, .inl m_text)), (q_cards, .inl (cI, 4, .inl m_cards)), (q_readCards, .inl (cI, 4, .inl m_readCards)), (q_readPage, .inl (cI, 17, .inl m_readPage)), (q_page, .inl (cI, 17, .inl m_page)), (q_trial, .inl (cI, 17, .inl m_trial)), (q_loads, .inl (cI, 16, .inl m_loads)), (q_book, .inl (cI, 238, .inl m_book)), (q_kept, .inl (cI, 34, .inl m_kept)), (q_isKept, .inl (cZ, 2, .inl m_isKept)), (q_heldWho, .inl (cI, 6, .inl m_heldWho)), (q_heldForce, .inl (cI, 6, .inl m_heldForce)), (q_heldLoad, .inl (cI, 6, .inl m_heldLoad)), (q_heldIs, .inl (cI, 6, .inl m_heldIs)), (q_gains, .inl (cI, 50, .inl m_gains)), (q_value, .inl (cI, 16, .inl m_value))] s.heap [] := w
  have hl : lv_has ls 3 [(0, .ref m_a)] := hl
  obtain ⟨H, eH⟩ : ∃ H, H = s.heap := ⟨_, rfl⟩
  rw [← eH] at w ⊢
  generalize ([] : List Loc) = locs at w ⊢
  generalize List.toArray _ = args at C ⊢
  obtain ⟨hx, hb, hr, hml, hown, hts, hlk⟩ := id C
  have hg : ∀ w ∈ GW, w.before args s = true := fun w h => hts w (List.mem_cons_of_mem _ h)
  unfold fX5_highest at hf
  refine lv_bipush (v := (-9)) hx hb dX5_highest_0 (by decide) ?_
  refine lv_istore_n (lv' := [(1, .int (-9)), (0, .ref m_a)]) hx hb dX5_highest_2 rfl hl (by decide) rfl (fun ls hl => ?_)
  refine lv_iconst (v := 0) hx hb dX5_highest_3 (by decide) ?_
  refine lv_istore_n (lv' := [(2, .int 0), (1, .int (-9)), (0, .ref m_a)]) hx hb dX5_highest_4 rfl hl (by decide) rfl (fun ls hl => ?_)
  exact tX5_highest_L5 (m_page := m_page) (m_thrown := m_thrown) (m_textSize := m_textSize) (m_place := m_place) (m_acts := m_acts) (m_held := m_held) (m_seed := m_seed) (m_tentMany := m_tentMany) (m_tentFirst := m_tentFirst) (m_restMany := m_restMany) (m_restFirst := m_restFirst) (m_text := m_text) (m_cards := m_cards) (m_readCards := m_readCards) (m_readPage := m_readPage) (m_trial := m_trial) (m_loads := m_loads) (m_book := m_book) (m_kept := m_kept) (m_isKept := m_isKept) (m_heldWho := m_heldWho) (m_heldForce := m_heldForce) (m_heldLoad := m_heldLoad) (m_heldIs := m_heldIs) (m_gains := m_gains) (m_value := m_value) (C := C) FU (-9) 0 H locs ls hf w (lv_sub hl [2, 1, 0] rfl)
-- X5_about
def fX5_about  (m_thrown : Int32) (m_textSize : Int32) (m_acts : Int32) (m_held : Int32) (m_cards : Nat → Int32) (m_page : Nat → Int32) (a1 : Int32) : Option (Int32 × Int32) := (if a1 = 0 then ob (fX5_there m_page) (fun r2 => ob (fX5_many r2) (fun r3 => some (r3, 0))) else (if a1 = 1 then ob (fX5_there m_page) (fun r5 => some (r5, 0)) else (if a1 = 2 then ob (fX5_deckAll m_cards m_page) (fun r7 => some (r7, 0)) else (if a1 = 3 then some ((m_page (Int32.toNatClampNeg 16)), 0) else (if a1 = 4 then ob (fX5_highest m_page) (fun r10 => some (r10, 0)) else (if a1 = 5 then some (m_acts, 0) else (if a1 = 6 then some (m_held, 0) else (if a1 = 7 then some (m_textSize, 0) else some ((-2), 0)))))))))
set_option maxRecDepth 100000 in
set_option maxHeartbeats 4000000 in
theorem tX5_about (l : Launch) (D : va_G) (cI cZ : ClassId) (b0 : Nat) (tt : Nat → Nat)  (m_a q_text q_cards q_readCards q_readPage q_page q_trial q_loads q_book q_kept q_isKept q_heldWho q_heldForce q_heldLoad q_heldIs q_gains q_value : Nat) (m_thrown : Int32) (m_textSize : Int32) (m_place : Int32) (m_acts : Int32) (m_held : Int32) (m_seed : Int64) (m_tentMany : Int32) (m_tentFirst : Int32) (m_restMany : Int32) (m_restFirst : Int32) (m_text : Nat → Int32) (m_cards : Nat → Int32) (m_readCards : Nat → Int32) (m_readPage : Nat → Int32) (m_page : Nat → Int32) (m_trial : Nat → Int32) (m_loads : Nat → Int32) (m_book : Nat → Int32) (m_kept : Nat → Int32) (m_isKept : Nat → Int32) (m_heldWho : Nat → Int32) (m_heldForce : Nat → Int32) (m_heldLoad : Nat → Int32) (m_heldIs : Nat → Int32) (m_gains : Nat → Int32) (m_value : Nat → Int32) (a1 : Int32) {res : Int32 × Int32} (hf : fX5_about m_thrown m_textSize m_acts m_held m_cards m_page a1 = some res) : CtI l yX5_about (cwX5_about :: GW) 5 105 D cI cZ b0 tt [.ref m_a, .int a1] (fun u : Int32 => [(m_a, .inr (5, [.int u, .ref q_text, .int m_textSize, .int m_place, .ref q_cards, .ref q_readCards, .ref q_readPage, .ref q_page, .ref q_trial, .ref q_loads, .ref q_book, .int m_acts, .ref q_kept, .ref q_isKept, .int m_held, .ref q_heldWho, .ref q_heldForce, .ref q_heldLoad, .ref q_heldIs, .long m_seed, .int m_tentMany, .int m_tentFirst, .int m_restMany, .int m_restFirst, .ref q_gains, .ref q_value])), (q_text, .inl (cI, 56, .inl m_text)), (q_cards, .inl (cI, 4, .inl m_cards)), (q_readCards, .inl (cI, 4, .inl m_readCards)), (q_readPage, .inl (cI, 17, .inl m_readPage)), (q_page, .inl (cI, 17, .inl m_page)), (q_trial, .inl (cI, 17, .inl m_trial)), (q_loads, .inl (cI, 16, .inl m_loads)), (q_book, .inl (cI, 238, .inl m_book)), (q_kept, .inl (cI, 34, .inl m_kept)), (q_isKept, .inl (cZ, 2, .inl m_isKept)), (q_heldWho, .inl (cI, 6, .inl m_heldWho)), (q_heldForce, .inl (cI, 6, .inl m_heldForce)), (q_heldLoad, .inl (cI, 6, .inl m_heldLoad)), (q_heldIs, .inl (cI, 6, .inl m_heldIs)), (q_gains, .inl (cI, 50, .inl m_gains)), (q_value, .inl (cI, 16, .inl m_value))]) m_thrown res := by
  intro sz
  refine k_begin (cc := cX5_about) (maxL := 2) (ret := (some .int)) (by decide) rfl (Nat.le_of_ble_eq_true rfl) ?_
  intro p e s m below meth c ls C w hl
  generalize va_A _ sz = A at w ⊢
  have w : Wd D cI cZ b0 tt A s [(m_a, .inr (5, [.int m_thrown, .ref q_text, .int m_textSize, .int m_place, .ref q_cards, .ref q_readCards, .ref q_readPage, .ref q_page, .ref q_trial, .ref q_loads, .ref q_book, .int m_acts, .ref q_kept, .ref q_isKept, .int m_held, .ref q_heldWho, .ref q_heldForce, .ref q_heldLoad, .ref q_heldIs, .long m_seed, .int m_tentMany, .int m_tentFirst, .int m_restMany, .int m_restFirst, .ref q_gains, .ref q_value])), (q_text, .inl (cI, 56, .inl m_text)), (q_cards, .inl (cI, 4, .inl m_cards)), (q_readCards, .inl (cI, 4, .inl m_readCards)), (q_readPage, .inl (cI, 17, .inl m_readPage)), (q_page, .inl (cI, 17, .inl m_page)), (q_trial, .inl (cI, 17, .inl m_trial)), (q_loads, .inl (cI, 16, .inl m_loads)), (q_book, .inl (cI, 238, .inl m_book)), (q_kept, .inl (cI, 34, .inl m_kept)), (q_isKept, .inl (cZ, 2, .inl m_isKept)), (q_heldWho, .inl (cI, 6, .inl m_heldWho)), (q_heldForce, .inl (cI, 6, .inl m_heldForce)), (q_heldLoad, .inl (cI, 6, .inl m_heldLoad)), (q_heldIs, .inl (cI, 6, .inl m_heldIs)), (q_gains, .inl (cI, 50, .inl m_gains)), (q_value, .inl (cI, 16, .inl m_value))] s.heap [] := w
  have hl : lv_has ls 2 [(0, .ref m_a), (1, .int a1)] := hl
  obtain ⟨H, eH⟩ : ∃ H, H = s.heap := ⟨_, rfl⟩
  rw [← eH] at w ⊢
  generalize ([] : List Loc) = locs at w ⊢
  generalize List.toArray _ = args at C ⊢
  obtain ⟨hx, hb, hr, hml, hown, hts, hlk⟩ := id C
  have hg : ∀ w ∈ GW, w.before args s = true := fun w h => hts w (List.mem_cons_of_mem _ h)
  unfold fX5_about at hf
  refine lv_aload_n hx hb dX5_about_0 rfl (lv_at hl 0 rfl) ?_
  refine lv_iconst (v := 0) hx hb dX5_about_1 (by decide) ?_
  refine k_put (ci := 5) (v := .int 0) (ty := .int) (C := RX5) (T := TX5) (N := 26) hx hb hg iX5 tyX5 tyX5_ok nmX5 hown w 0 rfl rfl 0 (by decide) (hg _ w_489) (fun _ h9 => h9) rfl pd_I rfl rfl (Nat.le_of_ble_eq_true rfl) dX5_about_2 (fun H locs w => ?_)
  have w : Wd D cI cZ b0 tt A s [(m_a, .inr (5, [.int 0, .ref q_text, .int m_textSize, .int m_place, .ref q_cards, .ref q_readCards, .ref q_readPage, .ref q_page, .ref q_trial, .ref q_loads, .ref q_book, .int m_acts, .ref q_kept, .ref q_isKept, .int m_held, .ref q_heldWho, .ref q_heldForce, .ref q_heldLoad, .ref q_heldIs, .long m_seed, .int m_tentMany, .int m_tentFirst, .int m_restMany, .int m_restFirst, .ref q_gains, .ref q_value])), (q_text, .inl (cI, 56, .inl m_text)), (q_cards, .inl (cI, 4, .inl m_cards)), (q_readCards, .inl (cI, 4, .inl m_readCards)), (q_readPage, .inl (cI, 17, .inl m_readPage)), (q_page, .inl (cI, 17, .inl m_page)), (q_trial, .inl (cI, 17, .inl m_trial)), (q_loads, .inl (cI, 16, .inl m_loads)), (q_book, .inl (cI, 238, .inl m_book)), (q_kept, .inl (cI, 34, .inl m_kept)), (q_isKept, .inl (cZ, 2, .inl m_isKept)), (q_heldWho, .inl (cI, 6, .inl m_heldWho)), (q_heldForce, .inl (cI, 6, .inl m_heldForce)), (q_heldLoad, .inl (cI, 6, .inl m_heldLoad)), (q_heldIs, .inl (cI, 6, .inl m_heldIs)), (q_gains, .inl (cI, 50, .inl m_gains)), (q_value, .inl (cI, 16, .inl m_value))] H locs := w
  refine lv_iload_n hx hb dX5_about_5 rfl (lv_at hl 1 rfl) ?_
  by_cases c1 : a1 = 0
  · replace hf := ite_t c1 hf
    refine lv_tableIn (off := 46) (tgt := 52) hx hb dX5_about_6 (by rw [c1]; decide) (by rw [c1]; decide) (by rw [c1]; decide) (by decide) ?_
    refine lv_aload_n hx hb dX5_about_52 rfl (lv_at hl 0 rfl) ?_
    refine va_get (D := D) (ci := 5) (v := .ref q_page) (C := RX5) (T := TX5) (N := 26) hx hb hg iX5 hown w.2.2.2.2.2.2.1 w.1 0 rfl rfl 7 (by decide) (hg _ w_496) (fun _ h9 => h9) rfl dX5_about_53 ?_
    replace hf := ob_at hf
    obtain ⟨r2, er2, hf⟩ := hf
    refine k_goI0 w [5] rfl (va_runS (As := [.ref q_page]) (rest := []) ⟨hx, hb, hml, hown, hg⟩ (tX5_there l D cI cZ b0 tt q_page m_page er2 H.size) (va_cwS 1 hg (gwS w_606 w_607 w_7 w_608) rfl rfl rfl qdX5_there ⟨Nat.le_of_ble_eq_true rfl, Nat.le_of_ble_eq_true rfl⟩) (k_preS w [5] (by decide) rfl) rfl rfl hl.1 rfl (lv_room (Nat.le_of_ble_eq_true rfl)) dX5_about_56 ⟨Nat.le_refl _, Nat.le_refl _⟩) (fun H locs w => ?_)
    replace hf := ob_at hf
    obtain ⟨r3, er3, hf⟩ := hf
    refine k_goI0 w [] rfl (va_runS (As := [.int r2]) (rest := []) ⟨hx, hb, hml, hown, hg⟩ (tX5_many l D cI cZ b0 tt r2 er3 H.size) (va_cwS 1 hg (gwS w_653 w_654 w_7 w_655) rfl rfl rfl qdX5_many ⟨Nat.le_of_ble_eq_true rfl, Nat.le_of_ble_eq_true rfl⟩) (k_preS w [] (by decide) rfl) rfl rfl hl.1 rfl (lv_room (Nat.le_of_ble_eq_true rfl)) dX5_about_59 ⟨Nat.le_refl _, Nat.le_refl _⟩) (fun H locs w => ?_)
    exact k_iret (u := 0) hx hb hr hlk w rfl hf dX5_about_62
  · replace hf := ite_f c1 hf
    by_cases c4 : a1 = 1
    · replace hf := ite_t c4 hf
      refine lv_tableIn (off := 57) (tgt := 63) hx hb dX5_about_6 (by rw [c4]; decide) (by rw [c4]; decide) (by rw [c4]; decide) (by decide) ?_
      refine lv_aload_n hx hb dX5_about_63 rfl (lv_at hl 0 rfl) ?_
      refine va_get (D := D) (ci := 5) (v := .ref q_page) (C := RX5) (T := TX5) (N := 26) hx hb hg iX5 hown w.2.2.2.2.2.2.1 w.1 0 rfl rfl 7 (by decide) (hg _ w_496) (fun _ h9 => h9) rfl dX5_about_64 ?_
      replace hf := ob_at hf
      obtain ⟨r5, er5, hf⟩ := hf
      refine k_goI0 w [5] rfl (va_runS (As := [.ref q_page]) (rest := []) ⟨hx, hb, hml, hown, hg⟩ (tX5_there l D cI cZ b0 tt q_page m_page er5 H.size) (va_cwS 1 hg (gwS w_606 w_607 w_7 w_608) rfl rfl rfl qdX5_there ⟨Nat.le_of_ble_eq_true rfl, Nat.le_of_ble_eq_true rfl⟩) (k_preS w [5] (by decide) rfl) rfl rfl hl.1 rfl (lv_room (Nat.le_of_ble_eq_true rfl)) dX5_about_67 ⟨Nat.le_refl _, Nat.le_refl _⟩) (fun H locs w => ?_)
      exact k_iret (u := 0) hx hb hr hlk w rfl hf dX5_about_70
    · replace hf := ite_f c4 hf
      by_cases c6 : a1 = 2
      · replace hf := ite_t c6 hf
        refine lv_tableIn (off := 65) (tgt := 71) hx hb dX5_about_6 (by rw [c6]; decide) (by rw [c6]; decide) (by rw [c6]; decide) (by decide) ?_
        refine lv_aload_n hx hb dX5_about_71 rfl (lv_at hl 0 rfl) ?_
        replace hf := ob_at hf
        obtain ⟨r7, er7, hf⟩ := hf
        refine k_goI0 w [0, 1, 2, 3, 4, 5, 6, 7, 8, 9, 10, 11, 12, 13, 14, 15, 16] rfl (va_runV (As := []) (rest := []) ⟨hx, hb, hml, hown, hg⟩ (tX5_deckAll l D cI cZ b0 tt m_a q_text q_cards q_readCards q_readPage q_page q_trial q_loads q_book q_kept q_isKept q_heldWho q_heldForce q_heldLoad q_heldIs q_gains q_value 0 m_textSize m_place m_acts m_held m_seed m_tentMany m_tentFirst m_restMany m_restFirst m_text m_cards m_readCards m_readPage m_page m_trial m_loads m_book m_kept m_isKept m_heldWho m_heldForce m_heldLoad m_heldIs m_gains m_value er7 H.size) (cwV 0 hg (gwV w_660 w_661 w_852 w_7 w_662) rfl rfl rfl ⟨rfl, qdX5_deckAll⟩ ⟨Nat.le_of_ble_eq_true rfl, Nat.le_of_ble_eq_true rfl⟩) (k_preV w [0, 1, 2, 3, 4, 5, 6, 7, 8, 9, 10, 11, 12, 13, 14, 15, 16] (by decide) rfl (q0 := 0) rfl rfl) rfl rfl hl.1 rfl (lv_room (Nat.le_of_ble_eq_true rfl)) dX5_about_72 ⟨Nat.le_refl _, Nat.le_refl _⟩) (fun H locs w => ?_)
        exact k_iret (u := 0) hx hb hr hlk w rfl hf dX5_about_75
      · replace hf := ite_f c6 hf
        by_cases c8 : a1 = 3
        · replace hf := ite_t c8 hf
          refine lv_tableIn (off := 70) (tgt := 76) hx hb dX5_about_6 (by rw [c8]; decide) (by rw [c8]; decide) (by rw [c8]; decide) (by decide) ?_
          refine lv_aload_n hx hb dX5_about_76 rfl (lv_at hl 0 rfl) ?_
          refine va_get (D := D) (ci := 5) (v := .ref q_page) (C := RX5) (T := TX5) (N := 26) hx hb hg iX5 hown w.2.2.2.2.2.2.1 w.1 0 rfl rfl 7 (by decide) (hg _ w_496) (fun _ h9 => h9) rfl dX5_about_77 ?_
          refine lv_bipush (v := 16) hx hb dX5_about_80 (by decide) ?_
          refine va_iald hx hb w.2.2.2.2.2.2.1 w.1 5 0 rfl rfl (by unfold vp_in; decide) dX5_about_82 ?_
          exact k_iret (u := 0) hx hb hr hlk w rfl hf dX5_about_83
        · replace hf := ite_f c8 hf
          by_cases c9 : a1 = 4
          · replace hf := ite_t c9 hf
            refine lv_tableIn (off := 78) (tgt := 84) hx hb dX5_about_6 (by rw [c9]; decide) (by rw [c9]; decide) (by rw [c9]; decide) (by decide) ?_
            refine lv_aload_n hx hb dX5_about_84 rfl (lv_at hl 0 rfl) ?_
            replace hf := ob_at hf
            obtain ⟨r10, er10, hf⟩ := hf
            refine k_goI0 w [0, 1, 2, 3, 4, 5, 6, 7, 8, 9, 10, 11, 12, 13, 14, 15, 16] rfl (va_runV (As := []) (rest := []) ⟨hx, hb, hml, hown, hg⟩ (tX5_highest l D cI cZ b0 tt m_a q_text q_cards q_readCards q_readPage q_page q_trial q_loads q_book q_kept q_isKept q_heldWho q_heldForce q_heldLoad q_heldIs q_gains q_value 0 m_textSize m_place m_acts m_held m_seed m_tentMany m_tentFirst m_restMany m_restFirst m_text m_cards m_readCards m_readPage m_page m_trial m_loads m_book m_kept m_isKept m_heldWho m_heldForce m_heldLoad m_heldIs m_gains m_value er10 H.size) (cwV 0 hg (gwV w_666 w_667 w_854 w_7 w_668) rfl rfl rfl ⟨rfl, qdX5_highest⟩ ⟨Nat.le_of_ble_eq_true rfl, Nat.le_of_ble_eq_true rfl⟩) (k_preV w [0, 1, 2, 3, 4, 5, 6, 7, 8, 9, 10, 11, 12, 13, 14, 15, 16] (by decide) rfl (q0 := 0) rfl rfl) rfl rfl hl.1 rfl (lv_room (Nat.le_of_ble_eq_true rfl)) dX5_about_85 ⟨Nat.le_refl _, Nat.le_refl _⟩) (fun H locs w => ?_)
            exact k_iret (u := 0) hx hb hr hlk w rfl hf dX5_about_88
          · replace hf := ite_f c9 hf
            by_cases c11 : a1 = 5
            · replace hf := ite_t c11 hf
              refine lv_tableIn (off := 83) (tgt := 89) hx hb dX5_about_6 (by rw [c11]; decide) (by rw [c11]; decide) (by rw [c11]; decide) (by decide) ?_
              refine lv_aload_n hx hb dX5_about_89 rfl (lv_at hl 0 rfl) ?_
              refine va_get (D := D) (ci := 5) (v := .int m_acts) (C := RX5) (T := TX5) (N := 26) hx hb hg iX5 hown w.2.2.2.2.2.2.1 w.1 0 rfl rfl 11 (by decide) (hg _ w_500) (fun _ h9 => h9) rfl dX5_about_90 ?_
              exact k_iret (u := 0) hx hb hr hlk w rfl hf dX5_about_93
            · replace hf := ite_f c11 hf
              by_cases c12 : a1 = 6
              · replace hf := ite_t c12 hf
                refine lv_tableIn (off := 88) (tgt := 94) hx hb dX5_about_6 (by rw [c12]; decide) (by rw [c12]; decide) (by rw [c12]; decide) (by decide) ?_
                refine lv_aload_n hx hb dX5_about_94 rfl (lv_at hl 0 rfl) ?_
                refine va_get (D := D) (ci := 5) (v := .int m_held) (C := RX5) (T := TX5) (N := 26) hx hb hg iX5 hown w.2.2.2.2.2.2.1 w.1 0 rfl rfl 14 (by decide) (hg _ w_503) (fun _ h9 => h9) rfl dX5_about_95 ?_
                exact k_iret (u := 0) hx hb hr hlk w rfl hf dX5_about_98
              · replace hf := ite_f c12 hf
                by_cases c13 : a1 = 7
                · replace hf := ite_t c13 hf
                  refine lv_tableIn (off := 93) (tgt := 99) hx hb dX5_about_6 (by rw [c13]; decide) (by rw [c13]; decide) (by rw [c13]; decide) (by decide) ?_
                  refine lv_aload_n hx hb dX5_about_99 rfl (lv_at hl 0 rfl) ?_
                  refine va_get (D := D) (ci := 5) (v := .int m_textSize) (C := RX5) (T := TX5) (N := 26) hx hb hg iX5 hown w.2.2.2.2.2.2.1 w.1 0 rfl rfl 2 (by decide) (hg _ w_491) (fun _ h9 => h9) rfl dX5_about_100 ?_
                  exact k_iret (u := 0) hx hb hr hlk w rfl hf dX5_about_103
                · replace hf := ite_f c13 hf
                  refine lv_tableOut (tgt := 104) hx hb dX5_about_6 (by have ec1 := lv_neT c1 (a := 0) (by decide); have ec4 := lv_neT c4 (a := 1) (by decide); have ec6 := lv_neT c6 (a := 2) (by decide); have ec8 := lv_neT c8 (a := 3) (by decide); have ec9 := lv_neT c9 (a := 4) (by decide); have ec11 := lv_neT c11 (a := 5) (by decide); have ec12 := lv_neT c12 (a := 6) (by decide); have ec13 := lv_neT c13 (a := 7) (by decide); omega) (by decide) ?_
                  refine lv_bipush (v := (-2)) hx hb dX5_about_104 (by decide) ?_
                  exact k_iret (u := 0) hx hb hr hlk w rfl hf dX5_about_106
-- X5_deck
def fX5_deck  (m_thrown : Int32) (m_cards : Nat → Int32) (m_page : Nat → Int32) (a1 : Int32) : Option (Int32 × Int32) := ob (fX5_noKind a1) (fun r1 => (if r1 = 0 then ob (fX5_left m_page m_cards a1) (fun r3 => some (r3, 0)) else some ((-1), 0)))
set_option maxRecDepth 100000 in
set_option maxHeartbeats 4000000 in
theorem tX5_deck (l : Launch) (D : va_G) (cI cZ : ClassId) (b0 : Nat) (tt : Nat → Nat)  (m_a q_text q_cards q_readCards q_readPage q_page q_trial q_loads q_book q_kept q_isKept q_heldWho q_heldForce q_heldLoad q_heldIs q_gains q_value : Nat) (m_thrown : Int32) (m_textSize : Int32) (m_place : Int32) (m_acts : Int32) (m_held : Int32) (m_seed : Int64) (m_tentMany : Int32) (m_tentFirst : Int32) (m_restMany : Int32) (m_restFirst : Int32) (m_text : Nat → Int32) (m_cards : Nat → Int32) (m_readCards : Nat → Int32) (m_readPage : Nat → Int32) (m_page : Nat → Int32) (m_trial : Nat → Int32) (m_loads : Nat → Int32) (m_book : Nat → Int32) (m_kept : Nat → Int32) (m_isKept : Nat → Int32) (m_heldWho : Nat → Int32) (m_heldForce : Nat → Int32) (m_heldLoad : Nat → Int32) (m_heldIs : Nat → Int32) (m_gains : Nat → Int32) (m_value : Nat → Int32) (a1 : Int32) {res : Int32 × Int32} (hf : fX5_deck m_thrown m_cards m_page a1 = some res) : CtI l yX5_deck (cwX5_deck :: GW) 4 85 D cI cZ b0 tt [.ref m_a, .int a1] (fun u : Int32 => [(m_a, .inr (5, [.int u, .ref q_text, .int m_textSize, .int m_place, .ref q_cards, .ref q_readCards, .ref q_readPage, .ref q_page, .ref q_trial, .ref q_loads, .ref q_book, .int m_acts, .ref q_kept, .ref q_isKept, .int m_held, .ref q_heldWho, .ref q_heldForce, .ref q_heldLoad, .ref q_heldIs, .long m_seed, .int m_tentMany, .int m_tentFirst, .int m_restMany, .int m_restFirst, .ref q_gains, .ref q_value])), (q_text, .inl (cI, 56, .inl m_text)), (q_cards, .inl (cI, 4, .inl m_cards)), (q_readCards, .inl (cI, 4, .inl m_readCards)), (q_readPage, .inl (cI, 17, .inl m_readPage)), (q_page, .inl (cI, 17, .inl m_page)), (q_trial, .inl (cI, 17, .inl m_trial)), (q_loads, .inl (cI, 16, .inl m_loads)), (q_book, .inl (cI, 238, .inl m_book)), (q_kept, .inl (cI, 34, .inl m_kept)), (q_isKept, .inl (cZ, 2, .inl m_isKept)), (q_heldWho, .inl (cI, 6, .inl m_heldWho)), (q_heldForce, .inl (cI, 6, .inl m_heldForce)), (q_heldLoad, .inl (cI, 6, .inl m_heldLoad)), (q_heldIs, .inl (cI, 6, .inl m_heldIs)), (q_gains, .inl (cI, 50, .inl m_gains)), (q_value, .inl (cI, 16, .inl m_value))]) m_thrown res := by
  intro sz
  refine k_begin (cc := cX5_deck) (maxL := 2) (ret := (some .int)) (by decide) rfl (Nat.le_of_ble_eq_true rfl) ?_
  intro p e s m below meth c ls C w hl
  generalize va_A _ sz = A at w ⊢
  have w : Wd D cI cZ b0 tt A s [(m_a, .inr (5, [.int m_thrown, .ref q_text, .int m_textSize, .int m_place, .ref q_cards, .ref q_readCards, .ref q_readPage, .ref q_page, .ref q_trial, .ref q_loads, .ref q_book, .int m_acts, .ref q_kept, .ref q_isKept, .int m_held, .ref q_heldWho, .ref q_heldForce, .ref q_heldLoad, .ref q_heldIs, .long m_seed, .int m_tentMany, .int m_tentFirst, .int m_restMany, .int m_restFirst, .ref q_gains, .ref q_value])), (q_text, .inl (cI, 56, .inl m_text)), (q_cards, .inl (cI, 4, .inl m_cards)), (q_readCards, .inl (cI, 4, .inl m_readCards)), (q_readPage, .inl (cI, 17, .inl m_readPage)), (q_page, .inl (cI, 17, .inl m_page)), (q_trial, .inl (cI, 17, .inl m_trial)), (q_loads, .inl (cI, 16, .inl m_loads)), (q_book, .inl (cI, 238, .inl m_book)), (q_kept, .inl (cI, 34, .inl m_kept)), (q_isKept, .inl (cZ, 2, .inl m_isKept)), (q_heldWho, .inl (cI, 6, .inl m_heldWho)), (q_heldForce, .inl (cI, 6, .inl m_heldForce)), (q_heldLoad, .inl (cI, 6, .inl m_heldLoad)), (q_heldIs, .inl (cI, 6, .inl m_heldIs)), (q_gains, .inl (cI, 50, .inl m_gains)), (q_value, .inl (cI, 16, .inl m_value))] s.heap [] := w
  have hl : lv_has ls 2 [(0, .ref m_a), (1, .int a1)] := hl
  obtain ⟨H, eH⟩ : ∃ H, H = s.heap := ⟨_, rfl⟩
  rw [← eH] at w ⊢
  generalize ([] : List Loc) = locs at w ⊢
  generalize List.toArray _ = args at C ⊢
  obtain ⟨hx, hb, hr, hml, hown, hts, hlk⟩ := id C
  have hg : ∀ w ∈ GW, w.before args s = true := fun w h => hts w (List.mem_cons_of_mem _ h)
  unfold fX5_deck at hf
  refine lv_aload_n hx hb dX5_deck_0 rfl (lv_at hl 0 rfl) ?_
  refine lv_iconst (v := 0) hx hb dX5_deck_1 (by decide) ?_
  refine k_put (ci := 5) (v := .int 0) (ty := .int) (C := RX5) (T := TX5) (N := 26) hx hb hg iX5 tyX5 tyX5_ok nmX5 hown w 0 rfl rfl 0 (by decide) (hg _ w_489) (fun _ h9 => h9) rfl pd_I rfl rfl (Nat.le_of_ble_eq_true rfl) dX5_deck_2 (fun H locs w => ?_)
  have w : Wd D cI cZ b0 tt A s [(m_a, .inr (5, [.int 0, .ref q_text, .int m_textSize, .int m_place, .ref q_cards, .ref q_readCards, .ref q_readPage, .ref q_page, .ref q_trial, .ref q_loads, .ref q_book, .int m_acts, .ref q_kept, .ref q_isKept, .int m_held, .ref q_heldWho, .ref q_heldForce, .ref q_heldLoad, .ref q_heldIs, .long m_seed, .int m_tentMany, .int m_tentFirst, .int m_restMany, .int m_restFirst, .ref q_gains, .ref q_value])), (q_text, .inl (cI, 56, .inl m_text)), (q_cards, .inl (cI, 4, .inl m_cards)), (q_readCards, .inl (cI, 4, .inl m_readCards)), (q_readPage, .inl (cI, 17, .inl m_readPage)), (q_page, .inl (cI, 17, .inl m_page)), (q_trial, .inl (cI, 17, .inl m_trial)), (q_loads, .inl (cI, 16, .inl m_loads)), (q_book, .inl (cI, 238, .inl m_book)), (q_kept, .inl (cI, 34, .inl m_kept)), (q_isKept, .inl (cZ, 2, .inl m_isKept)), (q_heldWho, .inl (cI, 6, .inl m_heldWho)), (q_heldForce, .inl (cI, 6, .inl m_heldForce)), (q_heldLoad, .inl (cI, 6, .inl m_heldLoad)), (q_heldIs, .inl (cI, 6, .inl m_heldIs)), (q_gains, .inl (cI, 50, .inl m_gains)), (q_value, .inl (cI, 16, .inl m_value))] H locs := w
  refine lv_iload_n hx hb dX5_deck_5 rfl (lv_at hl 1 rfl) ?_
  replace hf := ob_at hf
  obtain ⟨r1, er1, hf⟩ := hf
  refine k_goI0 w [] rfl (va_runS (As := [.int a1]) (rest := []) ⟨hx, hb, hml, hown, hg⟩ (tX5_noKind l D cI cZ b0 tt a1 er1 H.size) (va_cwS 1 hg (gwS w_676 w_677 w_7 w_678) rfl rfl rfl qdX5_noKind ⟨Nat.le_of_ble_eq_true rfl, Nat.le_of_ble_eq_true rfl⟩) (k_preS w [] (by decide) rfl) rfl rfl hl.1 rfl (lv_room (Nat.le_of_ble_eq_true rfl)) dX5_deck_6 ⟨Nat.le_refl _, Nat.le_refl _⟩) (fun H locs w => ?_)
  refine lv_if_eq (tgt := 16) hx hb dX5_deck_9 (by decide) (fun c2 => ?_) (fun c2 => ?_)
  · replace hf := ite_t c2 hf
    refine lv_aload_n hx hb dX5_deck_16 rfl (lv_at hl 0 rfl) ?_
    refine lv_aload_n hx hb dX5_deck_17 rfl (lv_at hl 0 rfl) ?_
    refine va_get (D := D) (ci := 5) (v := .ref q_page) (C := RX5) (T := TX5) (N := 26) hx hb hg iX5 hown w.2.2.2.2.2.2.1 w.1 0 rfl rfl 7 (by decide) (hg _ w_496) (fun _ h9 => h9) rfl dX5_deck_18 ?_
    refine lv_iload_n hx hb dX5_deck_21 rfl (lv_at hl 1 rfl) ?_
    replace hf := ob_at hf
    obtain ⟨r3, er3, hf⟩ := hf
    refine k_goI0 w [0, 5, 7, 2] rfl (va_runV (As := [.ref q_page, .int a1]) (rest := []) ⟨hx, hb, hml, hown, hg⟩ (tX5_left l D cI cZ b0 tt m_a q_text q_cards q_readCards q_readPage q_page q_trial q_loads q_book q_kept q_isKept q_heldWho q_heldForce q_heldLoad q_heldIs q_gains q_value q_page 0 m_textSize m_place m_acts m_held m_seed m_tentMany m_tentFirst m_restMany m_restFirst m_page m_loads m_cards a1 er3 H.size) (cwV 2 hg (gwV w_663 w_664 w_853 w_7 w_665) rfl rfl rfl ⟨rfl, qdX5_left⟩ ⟨Nat.le_of_ble_eq_true rfl, Nat.le_of_ble_eq_true rfl⟩) (k_preV w [0, 5, 7, 2] (by decide) rfl (q0 := 0) rfl rfl) rfl rfl hl.1 rfl (lv_room (Nat.le_of_ble_eq_true rfl)) dX5_deck_22 ⟨Nat.le_refl _, Nat.le_refl _⟩) (fun H locs w => ?_)
    exact k_iret (u := 0) hx hb hr hlk w rfl hf dX5_deck_25
  · replace hf := ite_f c2 hf
    refine lv_iconst (v := (-1)) hx hb dX5_deck_12 (by decide) ?_
    refine lv_goto (tgt := 25) hx hb dX5_deck_13 (by decide) ?_
    exact k_iret (u := 0) hx hb hr hlk w rfl hf dX5_deck_25
