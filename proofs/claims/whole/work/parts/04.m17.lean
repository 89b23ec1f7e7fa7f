-- X5_spread
def fX5_spread  (m_thrown : Int32) (m_page : Nat → Int32) (a1 : Int32) : Option (Int32 × Int32) := ob (fX5_noPiece a1) (fun r1 => (if r1 = 0 then gd a1 17 ((if (m_page (Int32.toNatClampNeg a1)) = 0 then some ((-3), 0) else ob (fX5_spreadOf m_page ((1 : Int32) <<< (a1 &&& 31))) (fun r5 => some (r5, 0)))) else some ((-1), 0)))
set_option maxRecDepth 100000 in
set_option maxHeartbeats 4000000 in
theorem tX5_spread (l : Launch) (D : va_G) (cI cZ : ClassId) (b0 : Nat) (tt : Nat → Nat)  (m_a q_text q_cards q_readCards q_readPage q_page q_trial q_loads q_book q_kept q_isKept q_heldWho q_heldForce q_heldLoad q_heldIs q_gains q_value : Nat) (m_thrown : Int32) (m_textSize : Int32) (m_place : Int32) (m_acts : Int32) (m_held : Int32) (m_seed : Int64) (m_tentMany : Int32) (m_tentFirst : Int32) (m_restMany : Int32) (m_restFirst : Int32) (m_text : Nat → Int32) (m_cards : Nat → Int32) (m_readCards : Nat → Int32) (m_readPage : Nat → Int32) (m_page : Nat → Int32) (m_trial : Nat → Int32) (m_loads : Nat → Int32) (m_book : Nat → Int32) (m_kept : Nat → Int32) (m_isKept : Nat → Int32) (m_heldWho : Nat → Int32) (m_heldForce : Nat → Int32) (m_heldLoad : Nat → Int32) (m_heldIs : Nat → Int32) (m_gains : Nat → Int32) (m_value : Nat → Int32) (a1 : Int32) {res : Int32 × Int32} (hf : fX5_spread m_thrown m_page a1 = some res) : CtI l yX5_spread (cwX5_spread :: GW) 2 45 D cI cZ b0 tt [.ref m_a, .int a1] (fun u : Int32 => [(m_a, .inr (5, [.int u, .ref q_text, .int m_textSize, .int m_place, .ref q_cards, .ref q_readCards, .ref q_readPage, .ref q_page, .ref q_trial, .ref q_loads, .ref q_book, .int m_acts, .ref q_kept, .ref q_isKept, .int m_held, .ref q_heldWho, .ref q_heldForce, .ref q_heldLoad, .ref q_heldIs, .long m_seed, .int m_tentMany, .int m_tentFirst, .int m_restMany, .int m_restFirst, .ref q_gains, .ref q_value])), (q_text, .inl (cI, 56, .inl m_text)), (q_cards, .inl (cI, 4, .inl m_cards)), (q_readCards, .inl (cI, 4, .inl m_readCards)), (q_readPage, .inl (cI, 17, .inl m_readPage)), (q_page, .inl (cI, 17, .inl m_page)), (q_trial, .inl (cI, 17, .inl m_trial)), (q_loads, .inl (cI, 16, .inl m_loads)), (q_book, .inl (cI, 238, .inl m_book)), (q_kept, .inl (cI, 34, .inl m_kept)), (q_isKept, .inl (cZ, 2, .inl m_isKept)), (q_heldWho, .inl (cI, 6, .inl m_heldWho)), (q_heldForce, .inl (cI, 6, .inl m_heldForce)), (q_heldLoad, .inl (cI, 6, .inl m_heldLoad)), (q_heldIs, .inl (cI, 6, .inl m_heldIs)), (q_gains, .inl (cI, 50, .inl m_gains)), (q_value, .inl (cI, 16, .inl m_value))]) m_thrown res := by
  intro sz
  refine k_begin (cc := cX5_spread) (maxL := 2) (ret := (some .int)) (by decide) rfl (Nat.le_of_ble_eq_true rfl) ?_
  intro p e s m below meth c ls C w hl
  generalize va_A _ sz = A at w ⊢
  have w : Wd D cI cZ b0 tt A s [(m_a, .inr (5, [.int m_thrown, .ref q_text, .int m_textSize, .int m_place, .ref q_cards, .ref q_readCards, .ref q_readPage, .ref q_page, .ref q_trial, .ref q_loads, .ref q_book, .int m_acts, .ref q_kept, .ref q_isKept, .int m_held, .ref q_heldWho, .ref q_heldForce, .ref q_heldLoad, .ref q_heldIs, .long m_seed, .int m_tentMany, .int m_tentFirst, .int m_restMany, .int m_restFirst, .ref q_gains, .ref q_value])), (q_text, .inl (cI, 56, .inl m_text)), (q_cards, .inl (cI, 4, .inl m_cards)), (q_readCards, .inl (cI, 4, .inl m_readCards)), (q_readPage, .inl (cI, 17, .inl m_readPage)), (q_page, .inl (cI, 17, .inl m_page)), (q_trial, .inl (cI, 17, .inl m_trial)), (q_loads, .inl (cI, 16, .inl m_loads)), (q_book, .inl (cI, 238, .inl m_book)), (q_kept, .inl (cI, 34, .inl m_kept)), (q_isKept, .inl (cZ, 2, .inl m_isKept)), (q_heldWho, .inl (cI, 6, .inl m_heldWho)), (q_heldForce, .inl (cI, 6, .inl m_heldForce)), (q_heldLoad, .inl (cI, 6, .inl m_heldLoad)), (q_heldIs, .inl (cI, 6, .inl m_heldIs)), (q_gains, .inl (cI, 50, .inl m_gains)), (q_value, .inl (cI, 16, .inl m_value))] s.heap [] := w
  have hl : lv_has ls 2 [(0, .ref m_a), (1, .int a1)] := hl
  obtain ⟨H, eH⟩ : ∃ H, H = s.heap := ⟨_, rfl⟩
  rw [← eH] at w ⊢
  generalize ([] : List Loc) = locs at w ⊢
  generalize List.toArray _ = args at C ⊢
  obtain ⟨hx, hb, hr, hml, hown, hts, hlk⟩ := id C
  have hg : ∀ w ∈ GW, w.before args s = true := fun w h => hts w (List.mem_cons_of_mem _ h)
  unfold fX5_spread at hf
  refine lv_aload_n hx hb dX5_spread_0 rfl (lv_at hl 0 rfl) ?_
  refine lv_iconst (v := 0) hx hb dX5_spread_1 (by decide) ?_
  refine k_put (ci := 5) (v := .int 0) (ty := .int) (C := RX5) (T := TX5) (N := 26) hx hb hg iX5 tyX5 tyX5_ok nmX5 hown w 0 rfl rfl 0 (by decide) (hg _ w_489) (fun _ h9 => h9) rfl pd_I rfl rfl (Nat.le_of_ble_eq_true rfl) dX5_spread_2 (fun H locs w => ?_)
  have w : Wd D cI cZ b0 tt A s [(m_a, .inr (5, [.int 0, .ref q_text, .int m_textSize, .int m_place, .ref q_cards, .ref q_readCards, .ref q_readPage, .ref q_page, .ref q_trial, .ref q_loads, .ref q_book, .int m_acts, .ref q_kept, .ref q_isKept, .int m_held, .ref q_heldWho, .ref q_heldForce, .ref q_heldLoad, .ref q_heldIs, .long m_seed, .int m_tentMany, .int m_tentFirst, .int m_restMany, .int m_restFirst, .ref q_gains, .ref q_value])), (q_text, .inl (cI, 56, .inl m_text)), (q_cards, .inl (cI, 4, .inl m_cards)), (q_readCards, .inl (cI, 4, .inl m_readCards)), (q_readPage, .inl (cI, 17, .inl m_readPage)), (q_page, .inl (cI, 17, .inl m_page)), (q_trial, .inl (cI, 17, .inl m_trial)), (q_loads, .inl (cI, 16, .inl m_loads)), (q_book, .inl (cI, 238, .inl m_book)), (q_kept, .inl (cI, 34, .inl m_kept)), (q_isKept, .inl (cZ, 2, .inl m_isKept)), (q_heldWho, .inl (cI, 6, .inl m_heldWho)), (q_heldForce, .inl (cI, 6, .inl m_heldForce)), (q_heldLoad, .inl (cI, 6, .inl m_heldLoad)), (q_heldIs, .inl (cI, 6, .inl m_heldIs)), (q_gains, .inl (cI, 50, .inl m_gains)), (q_value, .inl (cI, 16, .inl m_value))] H locs := w
  refine lv_iload_n hx hb dX5_spread_5 rfl (lv_at hl 1 rfl) ?_
  replace hf := ob_at hf
  obtain ⟨r1, er1, hf⟩ := hf
  refine k_goI0 w [] rfl (va_runS (As := [.int a1]) (rest := []) ⟨hx, hb, hml, hown, hg⟩ (tX5_noPiece l D cI cZ b0 tt a1 er1 H.size) (va_cwS 1 hg (gwS w_621 w_622 w_7 w_623) rfl rfl rfl qdX5_noPiece ⟨Nat.le_of_ble_eq_true rfl, Nat.le_of_ble_eq_true rfl⟩) (k_preS w [] (by decide) rfl) rfl rfl hl.1 rfl (lv_room (Nat.le_of_ble_eq_true rfl)) dX5_spread_6 ⟨Nat.le_refl _, Nat.le_refl _⟩) (fun H locs w => ?_)
  refine lv_if_eq (tgt := 14) hx hb dX5_spread_9 (by decide) (fun c2 => ?_) (fun c2 => ?_)
  · replace hf := ite_t c2 hf
    refine lv_aload_n hx hb dX5_spread_14 rfl (lv_at hl 0 rfl) ?_
    refine va_get (D := D) (ci := 5) (v := .ref q_page) (C := RX5) (T := TX5) (N := 26) hx hb hg iX5 hown w.2.2.2.2.2.2.1 w.1 0 rfl rfl 7 (by decide) (hg _ w_496) (fun _ h9 => h9) rfl dX5_spread_15 ?_
    refine lv_iload_n hx hb dX5_spread_18 rfl (lv_at hl 1 rfl) ?_
    replace hf := gd_at hf
    obtain ⟨hi3, hf⟩ := hf
    refine va_iald hx hb w.2.2.2.2.2.2.1 w.1 5 0 rfl rfl hi3 dX5_spread_19 ?_
    refine lv_if_ne (tgt := 28) hx hb dX5_spread_20 (by decide) (fun c4 => ?_) (fun c4 => ?_)
    · replace hf := ite_f c4 hf
      refine lv_aload_n hx hb dX5_spread_28 rfl (lv_at hl 0 rfl) ?_
      refine va_get (D := D) (ci := 5) (v := .ref q_page) (C := RX5) (T := TX5) (N := 26) hx hb hg iX5 hown w.2.2.2.2.2.2.1 w.1 0 rfl rfl 7 (by decide) (hg _ w_496) (fun _ h9 => h9) rfl dX5_spread_29 ?_
      refine lv_iconst (v := 1) hx hb dX5_spread_32 (by decide) ?_
      refine lv_iload_n hx hb dX5_spread_33 rfl (lv_at hl 1 rfl) ?_
      refine lv_ishl hx hb dX5_spread_34 ?_
      replace hf := ob_at hf
      obtain ⟨r5, er5, hf⟩ := hf
      refine k_goI0 w [5] rfl (va_runS (As := [.ref q_page, .int ((1 : Int32) <<< (a1 &&& 31))]) (rest := []) ⟨hx, hb, hml, hown, hg⟩ (tX5_spreadOf l D cI cZ b0 tt q_page m_page ((1 : Int32) <<< (a1 &&& 31)) er5 H.size) (va_cwS 2 hg (gwS w_650 w_651 w_7 w_652) rfl rfl rfl qdX5_spreadOf ⟨Nat.le_of_ble_eq_true rfl, Nat.le_of_ble_eq_true rfl⟩) (k_preS w [5] (by decide) rfl) rfl rfl hl.1 rfl (lv_room (Nat.le_of_ble_eq_true rfl)) dX5_spread_35 ⟨Nat.le_refl _, Nat.le_refl _⟩) (fun H locs w => ?_)
      exact k_iret (u := 0) hx hb hr hlk w rfl hf dX5_spread_38
    · replace hf := ite_t c4 hf
      refine lv_bipush (v := (-3)) hx hb dX5_spread_23 (by decide) ?_
      refine lv_goto (tgt := 38) hx hb dX5_spread_25 (by decide) ?_
      exact k_iret (u := 0) hx hb hr hlk w rfl hf dX5_spread_38
  · replace hf := ite_f c2 hf
    refine lv_iconst (v := (-1)) hx hb dX5_spread_12 (by decide) ?_
    exact k_iret (u := 0) hx hb hr hlk w rfl hf dX5_spread_13
-- X5_stands
def fX5_stands_L32   (v1 : Int32) (m_thrown : Int32) (m_page : Nat → Int32) (m_loads : Nat → Int32) : Nat → Int32 → Int32 → Option (Int32 × Int32 × (Nat → Int32))
  | 0, _, _ => none
  | n + 1, v2, v3 => (if 16 ≤ v3 then some (v2, (m_thrown, m_loads)) else ob (fX5_isTentOf m_page v3 v1) (fun r2 => (if r2 = 0 then (if v2 ≤ 9 then nm (v3 + 1) (fun z5 => fX5_stands_L32 v1 m_thrown m_page m_loads n v2 z5) else nm (v3 + 1) (fun z6 => fX5_stands_L32 v1 m_thrown m_page m_loads n 9 z6)) else ob (fX5_firm m_page m_loads v3) (fun r7 => nm (r7 / (8 : Int32)) (fun z8 => (if v2 ≤ z8 then nm (v3 + 1) (fun z10 => fX5_stands_L32 v1 m_thrown m_page m_loads n v2 z10) else nm (v3 + 1) (fun z11 => fX5_stands_L32 v1 m_thrown m_page m_loads n z8 z11)))))))
set_option maxRecDepth 100000 in
set_option maxHeartbeats 4000000 in
theorem tX5_stands_L32 {p : Program} {l : Launch} {e : Env} {s : State} {m : MethodId} {args : Array Value} {below : List Frame} {meth : Method} {c : Code} {D : va_G} {cI cZ : ClassId} {b0 : Nat} {tt : Nat → Nat} {A : Nat → Prop}  {m_a q_text q_cards q_readCards q_readPage q_page q_trial q_loads q_book q_kept q_isKept q_heldWho q_heldForce q_heldLoad q_heldIs q_gains q_value : Nat}  {v1 : Int32} {m_thrown : Int32} {m_page : Nat → Int32} {m_loads : Nat → Int32} {m_textSize : Int32} {m_place : Int32} {m_acts : Int32} {m_held : Int32} {m_seed : Int64} {m_tentMany : Int32} {m_tentFirst : Int32} {m_restMany : Int32} {m_restFirst : Int32} {m_text : Nat → Int32} {m_cards : Nat → Int32} {m_readCards : Nat → Int32} {m_readPage : Nat → Int32} {m_trial : Nat → Int32} {m_book : Nat → Int32} {m_kept : Nat → Int32} {m_isKept : Nat → Int32} {m_heldWho : Nat → Int32} {m_heldForce : Nat → Int32} {m_heldLoad : Nat → Int32} {m_heldIs : Nat → Int32} {m_gains : Nat → Int32} {m_value : Nat → Int32} {res : Int32 × Int32 × (Nat → Int32)} (C : Cx p s m args meth c cX5_stands 5 (some .int) (cwX5_stands :: GW) RX5) : ∀ (n : Nat) (v2 : Int32) (v3 : Int32) (H : Heap) (locs : List Loc) (ls : Array Slot), fX5_stands_L32 v1 m_thrown m_page m_loads n v2 v3 = some res → Wd D cI cZ b0 tt A s [(m_a, .inr (5, [.int m_thrown, .ref q_text, .int m_textSize, .int m_place, .ref q_cards, .ref q_readCards, .ref q_readPage, .ref q_page, .ref q_trial, .ref q_loads, .ref q_book, .int m_acts, .ref q_kept, .ref q_isKept, .int m_held, .ref q_heldWho, .ref q_heldForce, .ref q_heldLoad, .ref q_heldIs, .long m_seed, .int m_tentMany, .int m_tentFirst, .int m_restMany, .int m_restFirst, .ref q_gains, .ref q_value])), (q_text, .inl (cI, 56, .inl m_text)), (q_cards, .inl (cI, 4, .inl m_cards)), (q_readCards, .inl (cI, 4, .inl m_readCards)), (q_readPage, .inl (cI, 17, .inl m_readPage)), (q_page, .inl (cI, 17, .inl m_page)), (q_trial, .inl (cI, 17, .inl m_trial)), (q_loads, .inl (cI, 16, .inl m_loads)), (q_book, .inl (cI, 238, .inl m_book)), (q_kept, .inl (cI, 34, .inl m_kept)), (q_isKept, .inl (cZ, 2, .inl m_isKept)), (q_heldWho, .inl (cI, 6, .inl m_heldWho)), (q_heldForce, .inl (cI, 6, .inl m_heldForce)), (q_heldLoad, .inl (cI, 6, .inl m_heldLoad)), (q_heldIs, .inl (cI, 6, .inl m_heldIs)), (q_gains, .inl (cI, 50, .inl m_gains)), (q_value, .inl (cI, 16, .inl m_value))] H locs → lv_has ls 5 [(0, .ref m_a), (1, .int v1), (2, .int v2), (3, .int v3)] → W p l e (rmo 4 85) s m args below meth c H locs 0 0 (MQ below (QI D (fun u : Int32 × (Nat → Int32) => [(m_a, .inr (5, [.int u.1, .ref q_text, .int m_textSize, .int m_place, .ref q_cards, .ref q_readCards, .ref q_readPage, .ref q_page, .ref q_trial, .ref q_loads, .ref q_book, .int m_acts, .ref q_kept, .ref q_isKept, .int m_held, .ref q_heldWho, .ref q_heldForce, .ref q_heldLoad, .ref q_heldIs, .long m_seed, .int m_tentMany, .int m_tentFirst, .int m_restMany, .int m_restFirst, .ref q_gains, .ref q_value])), (q_text, .inl (cI, 56, .inl m_text)), (q_cards, .inl (cI, 4, .inl m_cards)), (q_readCards, .inl (cI, 4, .inl m_readCards)), (q_readPage, .inl (cI, 17, .inl m_readPage)), (q_page, .inl (cI, 17, .inl m_page)), (q_trial, .inl (cI, 17, .inl m_trial)), (q_loads, .inl (cI, 16, .inl u.2)), (q_book, .inl (cI, 238, .inl m_book)), (q_kept, .inl (cI, 34, .inl m_kept)), (q_isKept, .inl (cZ, 2, .inl m_isKept)), (q_heldWho, .inl (cI, 6, .inl m_heldWho)), (q_heldForce, .inl (cI, 6, .inl m_heldForce)), (q_heldLoad, .inl (cI, 6, .inl m_heldLoad)), (q_heldIs, .inl (cI, 6, .inl m_heldIs)), (q_gains, .inl (cI, 50, .inl m_gains)), (q_value, .inl (cI, 16, .inl m_value))]) A res) args s 0 0 A) (F0 m 32 ls []) := by
  obtain ⟨hx, hb, hr, hml, hown, hts, hlk⟩ := id C
  have hg : ∀ w ∈ GW, w.before args s = true := fun w h => hts w (List.mem_cons_of_mem _ h)
  intro n
  induction n with
  | zero =>
    intro _ _ H locs ls hf
    rw [fX5_stands_L32] at hf
    cases hf
  | succ n ih =>
    intro v2 v3 H locs ls hf w hl
    rw [fX5_stands_L32] at hf
    refine lv_iload_n hx hb dX5_stands_32 rfl (lv_at hl 3 rfl) ?_
    refine lv_bipush (v := 16) hx hb dX5_stands_33 (by decide) ?_
    refine lv_icmp_ge (tgt := 89) hx hb dX5_stands_35 (by decide) (fun c1 => ?_) (fun c1 => ?_)
    · replace hf := ite_t c1 hf
      refine lv_iload_n hx hb dX5_stands_89 rfl (lv_at hl 2 rfl) ?_
      exact k_iret (u := (m_thrown, m_loads)) hx hb hr hlk w rfl hf dX5_stands_90
    · replace hf := ite_f c1 hf
      refine lv_aload_n hx hb dX5_stands_38 rfl (lv_at hl 0 rfl) ?_
      refine lv_aload_n hx hb dX5_stands_39 rfl (lv_at hl 0 rfl) ?_
      refine va_get (D := D) (ci := 5) (v := .ref q_page) (C := RX5) (T := TX5) (N := 26) hx hb hg iX5 hown w.2.2.2.2.2.2.1 w.1 0 rfl rfl 7 (by decide) (hg _ w_496) (fun _ h9 => h9) rfl dX5_stands_40 ?_
      refine lv_iload_n hx hb dX5_stands_43 rfl (lv_at hl 3 rfl) ?_
      refine lv_iload_n hx hb dX5_stands_44 rfl (lv_at hl 1 rfl) ?_
      replace hf := ob_at hf
      obtain ⟨r2, er2, hf⟩ := hf
      refine k_goI0 w [0, 5, 7, 2] rfl (va_runV (As := [.ref q_page, .int v3, .int v1]) (rest := []) ⟨hx, hb, hml, hown, hg⟩ (tX5_isTentOf l D cI cZ b0 tt m_a q_text q_cards q_readCards q_readPage q_page q_trial q_loads q_book q_kept q_isKept q_heldWho q_heldForce q_heldLoad q_heldIs q_gains q_value q_page m_thrown m_textSize m_place m_acts m_held m_seed m_tentMany m_tentFirst m_restMany m_restFirst m_page m_loads m_cards v3 v1 er2 H.size) (cwV 3 hg (gwV w_713 w_714 w_859 w_7 w_715) rfl rfl rfl ⟨rfl, qdX5_isTentOf⟩ ⟨Nat.le_of_ble_eq_true rfl, Nat.le_of_ble_eq_true rfl⟩) (k_preV w [0, 5, 7, 2] (by decide) rfl (q0 := 0) rfl rfl) rfl rfl hl.1 rfl (lv_room (Nat.le_of_ble_eq_true rfl)) dX5_stands_45 ⟨Nat.le_refl _, Nat.le_refl _⟩) (fun H locs w => ?_)
      refine lv_if_eq (tgt := 66) hx hb dX5_stands_48 (by decide) (fun c3 => ?_) (fun c3 => ?_)
      · replace hf := ite_t c3 hf
        refine lv_bipush (v := 9) hx hb dX5_stands_66 (by decide) ?_
        refine lv_istore (lv' := [(4, .int 9), (0, .ref m_a), (1, .int v1), (2, .int v2), (3, .int v3)]) hx hb dX5_stands_68 hl (by decide) rfl (fun ls hl => ?_)
        refine lv_iload hx hb dX5_stands_70 (lv_at hl 0 rfl) ?_
        refine lv_iload_n hx hb dX5_stands_72 rfl (lv_at hl 3 rfl) ?_
        refine lv_icmp_ge (tgt := 81) hx hb dX5_stands_73 (by decide) (fun c4 => ?_) (fun c4 => ?_)
        · replace hf := ite_t c4 hf
          refine lv_iload_n hx hb dX5_stands_81 rfl (lv_at hl 3 rfl) ?_
          refine lv_istore_n (lv' := [(2, .int v2), (4, .int 9), (0, .ref m_a), (1, .int v1), (3, .int v3)]) hx hb dX5_stands_82 rfl hl (by decide) rfl (fun ls hl => ?_)
          obtain ⟨z5, ez5⟩ : ∃ y : Int32, y = (v3 + 1) := ⟨_, rfl⟩
          replace hf := nm_at ez5 hf
          refine lv_iinc (v := z5) (lv' := [(3, .int z5), (2, .int v2), (4, .int 9), (0, .ref m_a), (1, .int v1)]) hx hb dX5_stands_83 hl (k := 4) rfl (by rw [ez5]; rfl) (by decide) rfl (fun ls hl => ?_)
          refine lv_goto (tgt := 32) hx hb dX5_stands_86 (by decide) ?_
          exact ih v2 z5 H locs ls hf w (lv_sub hl [3, 4, 1, 0] rfl)
        · replace hf := ite_f c4 hf
          refine lv_iload hx hb dX5_stands_76 (lv_at hl 0 rfl) ?_
          refine lv_goto (tgt := 82) hx hb dX5_stands_78 (by decide) ?_
          refine lv_istore_n (lv' := [(2, .int 9), (4, .int 9), (0, .ref m_a), (1, .int v1), (3, .int v3)]) hx hb dX5_stands_82 rfl hl (by decide) rfl (fun ls hl => ?_)
          obtain ⟨z6, ez6⟩ : ∃ y : Int32, y = (v3 + 1) := ⟨_, rfl⟩
          replace hf := nm_at ez6 hf
          refine lv_iinc (v := z6) (lv' := [(3, .int z6), (2, .int 9), (4, .int 9), (0, .ref m_a), (1, .int v1)]) hx hb dX5_stands_83 hl (k := 4) rfl (by rw [ez6]; rfl) (by decide) rfl (fun ls hl => ?_)
          refine lv_goto (tgt := 32) hx hb dX5_stands_86 (by decide) ?_
          exact ih 9 z6 H locs ls hf w (lv_sub hl [3, 4, 1, 0] rfl)
      · replace hf := ite_f c3 hf
        refine lv_aload_n hx hb dX5_stands_51 rfl (lv_at hl 0 rfl) ?_
        refine lv_aload_n hx hb dX5_stands_52 rfl (lv_at hl 0 rfl) ?_
        refine va_get (D := D) (ci := 5) (v := .ref q_page) (C := RX5) (T := TX5) (N := 26) hx hb hg iX5 hown w.2.2.2.2.2.2.1 w.1 0 rfl rfl 7 (by decide) (hg _ w_496) (fun _ h9 => h9) rfl dX5_stands_53 ?_
        refine lv_iload_n hx hb dX5_stands_56 rfl (lv_at hl 3 rfl) ?_
        replace hf := ob_at hf
        obtain ⟨r7, er7, hf⟩ := hf
        refine k_goI0 w [0, 5, 7, 2] rfl (va_runV (As := [.ref q_page, .int v3]) (rest := []) ⟨hx, hb, hml, hown, hg⟩ (tX5_firm l D cI cZ b0 tt m_a q_text q_cards q_readCards q_readPage q_page q_trial q_loads q_book q_kept q_isKept q_heldWho q_heldForce q_heldLoad q_heldIs q_gains q_value q_page m_thrown m_textSize m_place m_acts m_held m_seed m_tentMany m_tentFirst m_restMany m_restFirst m_page m_loads m_cards v3 er7 H.size) (cwV 2 hg (gwV w_716 w_717 w_860 w_7 w_718) rfl rfl rfl ⟨rfl, qdX5_firm⟩ ⟨Nat.le_of_ble_eq_true rfl, Nat.le_of_ble_eq_true rfl⟩) (k_preV w [0, 5, 7, 2] (by decide) rfl (q0 := 0) rfl rfl) rfl rfl hl.1 rfl (lv_room (Nat.le_of_ble_eq_true rfl)) dX5_stands_57 ⟨Nat.le_refl _, Nat.le_refl _⟩) (fun H locs w => ?_)
        refine lv_bipush (v := 8) hx hb dX5_stands_60 (by decide) ?_
        refine lv_idiv hx hb dX5_stands_62 (by decide) ?_
        refine lv_goto (tgt := 68) hx hb dX5_stands_63 (by decide) ?_
        refine lv_topi (fun z8 ez8 => ?_)
        replace hf := nm_at ez8 hf
        refine lv_istore (lv' := [(4, .int z8), (0, .ref m_a), (1, .int v1), (2, .int v2), (3, .int v3)]) hx hb dX5_stands_68 hl (by decide) rfl (fun ls hl => ?_)
        refine lv_iload hx hb dX5_stands_70 (lv_at hl 0 rfl) ?_
        refine lv_iload_n hx hb dX5_stands_72 rfl (lv_at hl 3 rfl) ?_
        refine lv_icmp_ge (tgt := 81) hx hb dX5_stands_73 (by decide) (fun c9 => ?_) (fun c9 => ?_)
        · replace hf := ite_t c9 hf
          refine lv_iload_n hx hb dX5_stands_81 rfl (lv_at hl 3 rfl) ?_
          refine lv_istore_n (lv' := [(2, .int v2), (4, .int z8), (0, .ref m_a), (1, .int v1), (3, .int v3)]) hx hb dX5_stands_82 rfl hl (by decide) rfl (fun ls hl => ?_)
          obtain ⟨z10, ez10⟩ : ∃ y : Int32, y = (v3 + 1) := ⟨_, rfl⟩
          replace hf := nm_at ez10 hf
          refine lv_iinc (v := z10) (lv' := [(3, .int z10), (2, .int v2), (4, .int z8), (0, .ref m_a), (1, .int v1)]) hx hb dX5_stands_83 hl (k := 4) rfl (by rw [ez10]; rfl) (by decide) rfl (fun ls hl => ?_)
          refine lv_goto (tgt := 32) hx hb dX5_stands_86 (by decide) ?_
          exact ih v2 z10 H locs ls hf w (lv_sub hl [3, 4, 1, 0] rfl)
        · replace hf := ite_f c9 hf
          refine lv_iload hx hb dX5_stands_76 (lv_at hl 0 rfl) ?_
          refine lv_goto (tgt := 82) hx hb dX5_stands_78 (by decide) ?_
          refine lv_istore_n (lv' := [(2, .int z8), (4, .int z8), (0, .ref m_a), (1, .int v1), (3, .int v3)]) hx hb dX5_stands_82 rfl hl (by decide) rfl (fun ls hl => ?_)
          obtain ⟨z11, ez11⟩ : ∃ y : Int32, y = (v3 + 1) := ⟨_, rfl⟩
          replace hf := nm_at ez11 hf
          refine lv_iinc (v := z11) (lv' := [(3, .int z11), (2, .int z8), (4, .int z8), (0, .ref m_a), (1, .int v1)]) hx hb dX5_stands_83 hl (k := 4) rfl (by rw [ez11]; rfl) (by decide) rfl (fun ls hl => ?_)
          refine lv_goto (tgt := 32) hx hb dX5_stands_86 (by decide) ?_
          exact ih z8 z11 H locs ls hf w (lv_sub hl [3, 4, 1, 0] rfl)
def fX5_stands  (m_thrown : Int32) (m_page : Nat → Int32) (m_loads : Nat → Int32) (a1 : Int32) : Option (Int32 × Int32 × (Nat → Int32)) := ob (fX5_in (Int32.toInt64 a1) 0 3) (fun r12 => (if r12 = 0 then some ((-1), (0, m_loads)) else ob (fX5_layLoads m_page m_loads) (fun r14 => fX5_stands_L32 a1 0 m_page r14 FU 9 0)))
set_option maxRecDepth 100000 in
set_option maxHeartbeats 4000000 in
theorem tX5_stands (l : Launch) (D : va_G) (cI cZ : ClassId) (b0 : Nat) (tt : Nat → Nat)  (m_a q_text q_cards q_readCards q_readPage q_page q_trial q_loads q_book q_kept q_isKept q_heldWho q_heldForce q_heldLoad q_heldIs q_gains q_value : Nat) (m_thrown : Int32) (m_textSize : Int32) (m_place : Int32) (m_acts : Int32) (m_held : Int32) (m_seed : Int64) (m_tentMany : Int32) (m_tentFirst : Int32) (m_restMany : Int32) (m_restFirst : Int32) (m_text : Nat → Int32) (m_cards : Nat → Int32) (m_readCards : Nat → Int32) (m_readPage : Nat → Int32) (m_page : Nat → Int32) (m_trial : Nat → Int32) (m_loads : Nat → Int32) (m_book : Nat → Int32) (m_kept : Nat → Int32) (m_isKept : Nat → Int32) (m_heldWho : Nat → Int32) (m_heldForce : Nat → Int32) (m_heldLoad : Nat → Int32) (m_heldIs : Nat → Int32) (m_gains : Nat → Int32) (m_value : Nat → Int32) (a1 : Int32) {res : Int32 × Int32 × (Nat → Int32)} (hf : fX5_stands m_thrown m_page m_loads a1 = some res) : CtI l yX5_stands (cwX5_stands :: GW) 4 85 D cI cZ b0 tt [.ref m_a, .int a1] (fun u : Int32 × (Nat → Int32) => [(m_a, .inr (5, [.int u.1, .ref q_text, .int m_textSize, .int m_place, .ref q_cards, .ref q_readCards, .ref q_readPage, .ref q_page, .ref q_trial, .ref q_loads, .ref q_book, .int m_acts, .ref q_kept, .ref q_isKept, .int m_held, .ref q_heldWho, .ref q_heldForce, .ref q_heldLoad, .ref q_heldIs, .long m_seed, .int m_tentMany, .int m_tentFirst, .int m_restMany, .int m_restFirst, .ref q_gains, .ref q_value])), (q_text, .inl (cI, 56, .inl m_text)), (q_cards, .inl (cI, 4, .inl m_cards)), (q_readCards, .inl (cI, 4, .inl m_readCards)), (q_readPage, .inl (cI, 17, .inl m_readPage)), (q_page, .inl (cI, 17, .inl m_page)), (q_trial, .inl (cI, 17, .inl m_trial)), (q_loads, .inl (cI, 16, .inl u.2)), (q_book, .inl (cI, 238, .inl m_book)), (q_kept, .inl (cI, 34, .inl m_kept)), (q_isKept, .inl (cZ, 2, .inl m_isKept)), (q_heldWho, .inl (cI, 6, .inl m_heldWho)), (q_heldForce, .inl (cI, 6, .inl m_heldForce)), (q_heldLoad, .inl (cI, 6, .inl m_heldLoad)), (q_heldIs, .inl (cI, 6, .inl m_heldIs)), (q_gains, .inl (cI, 50, .inl m_gains)), (q_value, .inl (cI, 16, .inl m_value))]) (m_thrown, m_loads) res := by
  intro sz
  refine k_begin (cc := cX5_stands) (maxL := 5) (ret := (some .int)) (by decide) rfl (Nat.le_of_ble_eq_true rfl) ?_
  intro p e s m below meth c ls C w hl
  generalize va_A _ sz = A at w ⊢
  have w : Wd D cI cZ b0 tt A s [(m_a, .inr (5, [.int m_thrown, .ref q_text, .int m_textSize, .int m_place, .ref q_cards, .ref q_readCards, .ref q_readPage, .ref q_page, .ref q_trial, .ref q_loads, .ref q_book, .int m_acts, .ref q_kept, .ref q_isKept, .int m_held, .ref q_heldWho, .ref q_heldForce, .ref q_heldLoad, .ref q_heldIs, .long m_seed, .int m_tentMany, .int m_tentFirst, .int m_restMany, .int m_restFirst, .ref q_gains, .ref q_value])), (q_text, .inl (cI, 56, .inl m_text)), (q_cards, .inl (cI, 4, .inl m_cards)), (q_readCards, .inl (cI, 4, .inl m_readCards)), (q_readPage, .inl (cI, 17, .inl m_readPage)), (q_page, .inl (cI, 17, .inl m_page)), (q_trial, .inl (cI, 17, .inl m_trial)), (q_loads, .inl (cI, 16, .inl m_loads)), (q_book, .inl (cI, 238, .inl m_book)), (q_kept, .inl (cI, 34, .inl m_kept)), (q_isKept, .inl (cZ, 2, .inl m_isKept)), (q_heldWho, .inl (cI, 6, .inl m_heldWho)), (q_heldForce, .inl (cI, 6, .inl m_heldForce)), (q_heldLoad, .inl (cI, 6, .inl m_heldLoad)), (q_heldIs, .inl (cI, 6, .inl m_heldIs)), (q_gains, .inl (cI, 50, .inl m_gains)), (q_value, .inl (cI, 16, .inl m_value))] s.heap [] := w
  have hl : lv_has ls 5 [(0, .ref m_a), (1, .int a1)] := hl
  obtain ⟨H, eH⟩ : ∃ H, H = s.heap := ⟨_, rfl⟩
  rw [← eH] at w ⊢
  generalize ([] : List Loc) = locs at w ⊢
  generalize List.toArray _ = args at C ⊢
  obtain ⟨hx, hb, hr, hml, hown, hts, hlk⟩ := id C
  have hg : ∀ w ∈ GW, w.before args s = true := fun w h => hts w (List.mem_cons_of_mem _ h)
  unfold fX5_stands at hf
  refine lv_aload_n hx hb dX5_stands_0 rfl (lv_at hl 0 rfl) ?_
  refine lv_iconst (v := 0) hx hb dX5_stands_1 (by decide) ?_
  refine k_put (ci := 5) (v := .int 0) (ty := .int) (C := RX5) (T := TX5) (N := 26) hx hb hg iX5 tyX5 tyX5_ok nmX5 hown w 0 rfl rfl 0 (by decide) (hg _ w_489) (fun _ h9 => h9) rfl pd_I rfl rfl (Nat.le_of_ble_eq_true rfl) dX5_stands_2 (fun H locs w => ?_)
  have w : Wd D cI cZ b0 tt A s [(m_a, .inr (5, [.int 0, .ref q_text, .int m_textSize, .int m_place, .ref q_cards, .ref q_readCards, .ref q_readPage, .ref q_page, .ref q_trial, .ref q_loads, .ref q_book, .int m_acts, .ref q_kept, .ref q_isKept, .int m_held, .ref q_heldWho, .ref q_heldForce, .ref q_heldLoad, .ref q_heldIs, .long m_seed, .int m_tentMany, .int m_tentFirst, .int m_restMany, .int m_restFirst, .ref q_gains, .ref q_value])), (q_text, .inl (cI, 56, .inl m_text)), (q_cards, .inl (cI, 4, .inl m_cards)), (q_readCards, .inl (cI, 4, .inl m_readCards)), (q_readPage, .inl (cI, 17, .inl m_readPage)), (q_page, .inl (cI, 17, .inl m_page)), (q_trial, .inl (cI, 17, .inl m_trial)), (q_loads, .inl (cI, 16, .inl m_loads)), (q_book, .inl (cI, 238, .inl m_book)), (q_kept, .inl (cI, 34, .inl m_kept)), (q_isKept, .inl (cZ, 2, .inl m_isKept)), (q_heldWho, .inl (cI, 6, .inl m_heldWho)), (q_heldForce, .inl (cI, 6, .inl m_heldForce)), (q_heldLoad, .inl (cI, 6, .inl m_heldLoad)), (q_heldIs, .inl (cI, 6, .inl m_heldIs)), (q_gains, .inl (cI, 50, .inl m_gains)), (q_value, .inl (cI, 16, .inl m_value))] H locs := w
  refine lv_iload_n hx hb dX5_stands_5 rfl (lv_at hl 1 rfl) ?_
  refine lv_i2l (v := (Int32.toInt64 a1)) hx hb dX5_stands_6 rfl ?_
  refine lv_lconst (v := 0) hx hb dX5_stands_7 (by decide) ?_
  refine lv_ldc2 hx hb hown (hg _ w_679) dX5_stands_8 ?_
  replace hf := ob_at hf
  obtain ⟨r12, er12, hf⟩ := hf
  refine k_goI0 w [] rfl (va_runS (As := [.long (Int32.toInt64 a1), .long 0, .long 3]) (rest := []) ⟨hx, hb, hml, hown, hg⟩ (tX5_in l D cI cZ b0 tt (Int32.toInt64 a1) 0 3 er12 H.size) (va_cwS 3 hg (gwS w_574 w_575 w_7 w_576) rfl rfl rfl qdX5_in ⟨Nat.le_of_ble_eq_true rfl, Nat.le_of_ble_eq_true rfl⟩) (k_preS w [] (by decide) rfl) rfl rfl hl.1 rfl (lv_room (Nat.le_of_ble_eq_true rfl)) dX5_stands_11 ⟨Nat.le_refl _, Nat.le_refl _⟩) (fun H locs w => ?_)
  refine lv_if_ne (tgt := 19) hx hb dX5_stands_14 (by decide) (fun c13 => ?_) (fun c13 => ?_)
  · replace hf := ite_f c13 hf
    refine lv_aload_n hx hb dX5_stands_19 rfl (lv_at hl 0 rfl) ?_
    refine lv_aload_n hx hb dX5_stands_20 rfl (lv_at hl 0 rfl) ?_
    refine va_get (D := D) (ci := 5) (v := .ref q_page) (C := RX5) (T := TX5) (N := 26) hx hb hg iX5 hown w.2.2.2.2.2.2.1 w.1 0 rfl rfl 7 (by decide) (hg _ w_496) (fun _ h9 => h9) rfl dX5_stands_21 ?_
    replace hf := ob_at hf
    obtain ⟨r14, er14, hf⟩ := hf
    refine k_goV (v0 := m_loads) (res := r14) w [0, 5, 7, 2] rfl (fun _ => rfl) (va_runV (As := [.ref q_page]) (rest := []) ⟨hx, hb, hml, hown, hg⟩ (tX5_layLoads l D cI cZ b0 tt m_a q_text q_cards q_readCards q_readPage q_page q_trial q_loads q_book q_kept q_isKept q_heldWho q_heldForce q_heldLoad q_heldIs q_gains q_value q_page 0 m_textSize m_place m_acts m_held m_seed m_tentMany m_tentFirst m_restMany m_restFirst m_page m_loads m_cards er14 H.size) (cwV 1 hg (gwV w_635 w_636 w_851 w_7 w_637) rfl rfl rfl ⟨rfl, qdX5_layLoads⟩ ⟨Nat.le_of_ble_eq_true rfl, Nat.le_of_ble_eq_true rfl⟩) (k_preV w [0, 5, 7, 2] (by decide) rfl (q0 := 0) rfl rfl) rfl rfl hl.1 rfl (lv_room (Nat.le_of_ble_eq_true rfl)) dX5_stands_24 ⟨Nat.le_refl _, Nat.le_refl _⟩) (fun H locs w => ?_)
    have w : Wd D cI cZ b0 tt A s [(m_a, .inr (5, [.int 0, .ref q_text, .int m_textSize, .int m_place, .ref q_cards, .ref q_readCards, .ref q_readPage, .ref q_page, .ref q_trial, .ref q_loads, .ref q_book, .int m_acts, .ref q_kept, .ref q_isKept, .int m_held, .ref q_heldWho, .ref q_heldForce, .ref q_heldLoad, .ref q_heldIs, .long m_seed, .int m_tentMany, .int m_tentFirst, .int m_restMany, .int m_restFirst, .ref q_gains, .ref q_value])), (q_text, .inl (cI, 56, .inl m_text)), (q_cards, .inl (cI, 4, .inl m_cards)), (q_readCards, .inl (cI, 4, .inl m_readCards)), (q_readPage, .inl (cI, 17, .inl m_readPage)), (q_page, .inl (cI, 17, .inl m_page)), (q_trial, .inl (cI, 17, .inl m_trial)), (q_loads, .inl (cI, 16, .inl r14)), (q_book, .inl (cI, 238, .inl m_book)), (q_kept, .inl (cI, 34, .inl m_kept)), (q_isKept, .inl (cZ, 2, .inl m_isKept)), (q_heldWho, .inl (cI, 6, .inl m_heldWho)), (q_heldForce, .inl (cI, 6, .inl m_heldForce)), (q_heldLoad, .inl (cI, 6, .inl m_heldLoad)), (q_heldIs, .inl (cI, 6, .inl m_heldIs)), (q_gains, .inl (cI, 50, .inl m_gains)), (q_value, .inl (cI, 16, .inl m_value))] H locs := w
    refine lv_bipush (v := 9) hx hb dX5_stands_27 (by decide) ?_
    refine lv_istore_n (lv' := [(2, .int 9), (0, .ref m_a), (1, .int a1)]) hx hb dX5_stands_29 rfl hl (by decide) rfl (fun ls hl => ?_)
    refine lv_iconst (v := 0) hx hb dX5_stands_30 (by decide) ?_
    refine lv_istore_n (lv' := [(3, .int 0), (2, .int 9), (0, .ref m_a), (1, .int a1)]) hx hb dX5_stands_31 rfl hl (by decide) rfl (fun ls hl => ?_)
    exact tX5_stands_L32 (v1 := a1) (m_thrown := 0) (m_page := m_page) (m_loads := r14) (m_textSize := m_textSize) (m_place := m_place) (m_acts := m_acts) (m_held := m_held) (m_seed := m_seed) (m_tentMany := m_tentMany) (m_tentFirst := m_tentFirst) (m_restMany := m_restMany) (m_restFirst := m_restFirst) (m_text := m_text) (m_cards := m_cards) (m_readCards := m_readCards) (m_readPage := m_readPage) (m_trial := m_trial) (m_book := m_book) (m_kept := m_kept) (m_isKept := m_isKept) (m_heldWho := m_heldWho) (m_heldForce := m_heldForce) (m_heldLoad := m_heldLoad) (m_heldIs := m_heldIs) (m_gains := m_gains) (m_value := m_value) (C := C) FU 9 0 H locs ls hf w (lv_sub hl [2, 3, 1, 0] rfl)
  · replace hf := ite_t c13 hf
    refine lv_iconst (v := (-1)) hx hb dX5_stands_17 (by decide) ?_
    exact k_iret (u := (0, m_loads)) hx hb hr hlk w rfl hf dX5_stands_18
-- X5_wanted
def fX5_wanted_L6   (v1 : Int32) (g_h : Nat → Int32) : Nat → Int32 → Int32 → Option (Int32)
  | 0, _, _ => none
  | n + 1, v2, v3 => (if v3 < 0 then ob (fX5_there g_h) (fun r2 => some (v2 &&& (r2 ^^^ ((-1) : Int32)))) else ob (fX5_has v2 v3) (fun r3 => (if r3 = 0 then nm (v2 ||| (0 : Int32)) (fun z5 => nm (v3 + (-1)) (fun z6 => fX5_wanted_L6 v1 g_h n z5 z6)) else ob (fX5_below v3) (fun r7 => nm (v2 ||| r7) (fun z8 => nm (v3 + (-1)) (fun z9 => fX5_wanted_L6 v1 g_h n z8 z9))))))
set_option maxRecDepth 100000 in
set_option maxHeartbeats 4000000 in
theorem tX5_wanted_L6 {p : Program} {l : Launch} {e : Env} {s : State} {m : MethodId} {args : Array Value} {below : List Frame} {meth : Method} {c : Code} {D : va_G} {cI cZ : ClassId} {b0 : Nat} {tt : Nat → Nat} {A : Nat → Prop}  {g_a : Nat}  {v1 : Int32} {g_h : Nat → Int32} {res : Int32} (C : Cx p s m args meth c cX5_wanted 4 (some .int) (cwX5_wanted :: GW) RX5) : ∀ (n : Nat) (v2 : Int32) (v3 : Int32) (H : Heap) (locs : List Loc) (ls : Array Slot), fX5_wanted_L6 v1 g_h n v2 v3 = some res → Wd D cI cZ b0 tt A s [(g_a, .inl (cI, 17, .inl g_h))] H locs → lv_has ls 4 [(0, .ref g_a), (1, .int v1), (2, .int v2), (3, .int v3)] → W p l e (rmo 1 22) s m args below meth c H locs 0 0 (MQ below (QI D (fun _ : Unit => [(g_a, .inl (cI, 17, .inl g_h))]) A (res, ())) args s 0 0 A) (F0 m 6 ls []) := by
  obtain ⟨hx, hb, hr, hml, hown, hts, hlk⟩ := id C
  have hg : ∀ w ∈ GW, w.before args s = true := fun w h => hts w (List.mem_cons_of_mem _ h)
  intro n
  induction n with
  | zero =>
    intro _ _ H locs ls hf
    rw [fX5_wanted_L6] at hf
    cases hf
  | succ n ih =>
    intro v2 v3 H locs ls hf w hl
    rw [fX5_wanted_L6] at hf
    refine lv_iload_n hx hb dX5_wanted_6 rfl (lv_at hl 3 rfl) ?_
    refine lv_if_lt (tgt := 35) hx hb dX5_wanted_7 (by decide) (fun c1 => ?_) (fun c1 => ?_)
    · replace hf := ite_t c1 hf
      refine lv_iload_n hx hb dX5_wanted_35 rfl (lv_at hl 2 rfl) ?_
      refine lv_aload_n hx hb dX5_wanted_36 rfl (lv_at hl 0 rfl) ?_
      replace hf := ob_at hf
      obtain ⟨r2, er2, hf⟩ := hf
      refine k_goI0 w [0] rfl (va_runS (As := [.ref g_a]) (rest := [.int v2]) ⟨hx, hb, hml, hown, hg⟩ (tX5_there l D cI cZ b0 tt g_a g_h er2 H.size) (va_cwS 1 hg (gwS w_606 w_607 w_7 w_608) rfl rfl rfl qdX5_there ⟨Nat.le_of_ble_eq_true rfl, Nat.le_of_ble_eq_true rfl⟩) (k_preS w [0] (by decide) rfl) rfl rfl hl.1 rfl (lv_room (Nat.le_of_ble_eq_true rfl)) dX5_wanted_37 ⟨Nat.le_refl _, Nat.le_refl _⟩) (fun H locs w => ?_)
      refine lv_iconst (v := (-1)) hx hb dX5_wanted_40 (by decide) ?_
      refine lv_ixor hx hb dX5_wanted_41 ?_
      refine lv_iand hx hb dX5_wanted_42 ?_
      exact k_iret (u := ()) hx hb hr hlk w rfl (k_ret1 hf) dX5_wanted_43
    · replace hf := ite_f c1 hf
      refine lv_iload_n hx hb dX5_wanted_10 rfl (lv_at hl 2 rfl) ?_
      refine lv_iload_n hx hb dX5_wanted_11 rfl (lv_at hl 2 rfl) ?_
      refine lv_iload_n hx hb dX5_wanted_12 rfl (lv_at hl 3 rfl) ?_
      replace hf := ob_at hf
      obtain ⟨r3, er3, hf⟩ := hf
      refine k_goI0 w [] rfl (va_runS (As := [.int v2, .int v3]) (rest := [.int v2]) ⟨hx, hb, hml, hown, hg⟩ (tX5_has l D cI cZ b0 tt v2 v3 er3 H.size) (va_cwS 2 hg (gwS w_641 w_642 w_7 w_643) rfl rfl rfl qdX5_has ⟨Nat.le_of_ble_eq_true rfl, Nat.le_of_ble_eq_true rfl⟩) (k_preS w [] (by decide) rfl) rfl rfl hl.1 rfl (lv_room (Nat.le_of_ble_eq_true rfl)) dX5_wanted_13 ⟨Nat.le_refl _, Nat.le_refl _⟩) (fun H locs w => ?_)
      refine lv_if_eq (tgt := 26) hx hb dX5_wanted_16 (by decide) (fun c4 => ?_) (fun c4 => ?_)
      · replace hf := ite_t c4 hf
        refine lv_iconst (v := 0) hx hb dX5_wanted_26 (by decide) ?_
        refine lv_ior hx hb dX5_wanted_27 ?_
        refine lv_topi (fun z5 ez5 => ?_)
        replace hf := nm_at ez5 hf
        refine lv_istore_n (lv' := [(2, .int z5), (0, .ref g_a), (1, .int v1), (3, .int v3)]) hx hb dX5_wanted_28 rfl hl (by decide) rfl (fun ls hl => ?_)
        obtain ⟨z6, ez6⟩ : ∃ y : Int32, y = (v3 + (-1)) := ⟨_, rfl⟩
        replace hf := nm_at ez6 hf
        refine lv_iinc (v := z6) (lv' := [(3, .int z6), (2, .int z5), (0, .ref g_a), (1, .int v1)]) hx hb dX5_wanted_29 hl (k := 3) rfl (by rw [ez6]; rfl) (by decide) rfl (fun ls hl => ?_)
        refine lv_goto (tgt := 6) hx hb dX5_wanted_32 (by decide) ?_
        exact ih z5 z6 H locs ls hf w (lv_sub hl [2, 3, 1, 0] rfl)
      · replace hf := ite_f c4 hf
        refine lv_iload_n hx hb dX5_wanted_19 rfl (lv_at hl 3 rfl) ?_
        replace hf := ob_at hf
        obtain ⟨r7, er7, hf⟩ := hf
        refine k_goI0 w [] rfl (va_runS (As := [.int v3]) (rest := [.int v2]) ⟨hx, hb, hml, hown, hg⟩ (tX5_below l D cI cZ b0 tt v3 er7 H.size) (va_cwS 1 hg (gwS w_603 w_604 w_7 w_605) rfl rfl rfl qdX5_below ⟨Nat.le_of_ble_eq_true rfl, Nat.le_of_ble_eq_true rfl⟩) (k_preS w [] (by decide) rfl) rfl rfl hl.1 rfl (lv_room (Nat.le_of_ble_eq_true rfl)) dX5_wanted_20 ⟨Nat.le_refl _, Nat.le_refl _⟩) (fun H locs w => ?_)
        refine lv_goto (tgt := 27) hx hb dX5_wanted_23 (by decide) ?_
        refine lv_ior hx hb dX5_wanted_27 ?_
        refine lv_topi (fun z8 ez8 => ?_)
        replace hf := nm_at ez8 hf
        refine lv_istore_n (lv' := [(2, .int z8), (0, .ref g_a), (1, .int v1), (3, .int v3)]) hx hb dX5_wanted_28 rfl hl (by decide) rfl (fun ls hl => ?_)
        obtain ⟨z9, ez9⟩ : ∃ y : Int32, y = (v3 + (-1)) := ⟨_, rfl⟩
        replace hf := nm_at ez9 hf
        refine lv_iinc (v := z9) (lv' := [(3, .int z9), (2, .int z8), (0, .ref g_a), (1, .int v1)]) hx hb dX5_wanted_29 hl (k := 3) rfl (by rw [ez9]; rfl) (by decide) rfl (fun ls hl => ?_)
        refine lv_goto (tgt := 6) hx hb dX5_wanted_32 (by decide) ?_
        exact ih z8 z9 H locs ls hf w (lv_sub hl [2, 3, 1, 0] rfl)
def fX5_wanted  (g_h : Nat → Int32) (a2 : Int32) : Option (Int32) := nm ((1 : Int32) <<< (a2 &&& 31)) (fun z10 => fX5_wanted_L6 a2 g_h FU z10 a2)
set_option maxRecDepth 100000 in
set_option maxHeartbeats 4000000 in
theorem tX5_wanted (l : Launch) (D : va_G) (cI cZ : ClassId) (b0 : Nat) (tt : Nat → Nat)  (g_a : Nat) (g_h : Nat → Int32) (a2 : Int32) {res : Int32} (hf : fX5_wanted g_h a2 = some res) : CtI l yX5_wanted (cwX5_wanted :: GW) 1 22 D cI cZ b0 tt [.ref g_a, .int a2] (fun _ : Unit => [(g_a, .inl (cI, 17, .inl g_h))]) () (res, ()) := by
  intro sz
  refine k_begin (cc := cX5_wanted) (maxL := 4) (ret := (some .int)) (by decide) rfl (Nat.le_of_ble_eq_true rfl) ?_
  intro p e s m below meth c ls C w hl
  generalize va_A _ sz = A at w ⊢
  have w : Wd D cI cZ b0 tt A s [(g_a, .inl (cI, 17, .inl g_h))] s.heap [] := w
  have hl : lv_has ls 4 [(0, .ref g_a), (1, .int a2)] := hl
  obtain ⟨H, eH⟩ : ∃ H, H = s.heap := ⟨_, rfl⟩
  rw [← eH] at w ⊢
  generalize ([] : List Loc) = locs at w ⊢
  generalize List.toArray _ = args at C ⊢
  obtain ⟨hx, hb, hr, hml, hown, hts, hlk⟩ := id C
  have hg : ∀ w ∈ GW, w.before args s = true := fun w h => hts w (List.mem_cons_of_mem _ h)
  unfold fX5_wanted at hf
  refine lv_iconst (v := 1) hx hb dX5_wanted_0 (by decide) ?_
  refine lv_iload_n hx hb dX5_wanted_1 rfl (lv_at hl 1 rfl) ?_
  refine lv_ishl hx hb dX5_wanted_2 ?_
  refine lv_topi (fun z10 ez10 => ?_)
  replace hf := nm_at ez10 hf
  refine lv_istore_n (lv' := [(2, .int z10), (0, .ref g_a), (1, .int a2)]) hx hb dX5_wanted_3 rfl hl (by decide) rfl (fun ls hl => ?_)
  refine lv_iload_n hx hb dX5_wanted_4 rfl (lv_at hl 2 rfl) ?_
  refine lv_istore_n (lv' := [(3, .int a2), (2, .int z10), (0, .ref g_a), (1, .int a2)]) hx hb dX5_wanted_5 rfl hl (by decide) rfl (fun ls hl => ?_)
  exact tX5_wanted_L6 (v1 := a2) (g_h := g_h) (C := C) FU z10 a2 H locs ls hf w (lv_sub hl [2, 3, 1, 0] rfl)
-- X5_wants
def fX5_wants_L42   (v1 : Int32) (v2 : Int32) (v3 : Int32) (m_thrown : Int32) (m_page : Nat → Int32) : Nat → Int32 → Int32 → Option (Int32 × Int32)
  | 0, _, _ => none
  | n + 1, v4, v5 => (if 16 ≤ v5 then some (v4, m_thrown) else ob (fX5_has v3 v5) (fun r2 => (if r2 = 0 then nm (v4 + (0 : Int32)) (fun z4 => nm (v5 + 1) (fun z5 => fX5_wants_L42 v1 v2 v3 m_thrown m_page n z4 z5)) else (if v2 = 0 then nm (v4 + (1 : Int32)) (fun z10 => nm (v5 + 1) (fun z11 => fX5_wants_L42 v1 v2 v3 m_thrown m_page n z10 z11)) else ob (fX5_need v5) (fun r7 => nm (v4 + r7) (fun z8 => nm (v5 + 1) (fun z9 => fX5_wants_L42 v1 v2 v3 m_thrown m_page n z8 z9)))))))
set_option maxRecDepth 100000 in
set_option maxHeartbeats 4000000 in
theorem tX5_wants_L42 {p : Program} {l : Launch} {e : Env} {s : State} {m : MethodId} {args : Array Value} {below : List Frame} {meth : Method} {c : Code} {D : va_G} {cI cZ : ClassId} {b0 : Nat} {tt : Nat → Nat} {A : Nat → Prop}  {m_a q_text q_cards q_readCards q_readPage q_page q_trial q_loads q_book q_kept q_isKept q_heldWho q_heldForce q_heldLoad q_heldIs q_gains q_value : Nat}  {v1 : Int32} {v2 : Int32} {v3 : Int32} {m_thrown : Int32} {m_page : Nat → Int32} {m_textSize : Int32} {m_place : Int32} {m_acts : Int32} {m_held : Int32} {m_seed : Int64} {m_tentMany : Int32} {m_tentFirst : Int32} {m_restMany : Int32} {m_restFirst : Int32} {m_text : Nat → Int32} {m_cards : Nat → Int32} {m_readCards : Nat → Int32} {m_readPage : Nat → Int32} {m_trial : Nat → Int32} {m_loads : Nat → Int32} {m_book : Nat → Int32} {m_kept : Nat → Int32} {m_isKept : Nat → Int32} {m_heldWho : Nat → Int32} {m_heldForce : Nat → Int32} {m_heldLoad : Nat → Int32} {m_heldIs : Nat → Int32} {m_gains : Nat → Int32} {m_value : Nat → Int32} {res : Int32 × Int32} (C : Cx p s m args meth c cX5_wants 6 (some .int) (cwX5_wants :: GW) RX5) : ∀ (n : Nat) (v4 : Int32) (v5 : Int32) (H : Heap) (locs : List Loc) (ls : Array Slot), fX5_wants_L42 v1 v2 v3 m_thrown m_page n v4 v5 = some res → Wd D cI cZ b0 tt A s [(m_a, .inr (5, [.int m_thrown, .ref q_text, .int m_textSize, .int m_place, .ref q_cards, .ref q_readCards, .ref q_readPage, .ref q_page, .ref q_trial, .ref q_loads, .ref q_book, .int m_acts, .ref q_kept, .ref q_isKept, .int m_held, .ref q_heldWho, .ref q_heldForce, .ref q_heldLoad, .ref q_heldIs, .long m_seed, .int m_tentMany, .int m_tentFirst, .int m_restMany, .int m_restFirst, .ref q_gains, .ref q_value])), (q_text, .inl (cI, 56, .inl m_text)), (q_cards, .inl (cI, 4, .inl m_cards)), (q_readCards, .inl (cI, 4, .inl m_readCards)), (q_readPage, .inl (cI, 17, .inl m_readPage)), (q_page, .inl (cI, 17, .inl m_page)), (q_trial, .inl (cI, 17, .inl m_trial)), (q_loads, .inl (cI, 16, .inl m_loads)), (q_book, .inl (cI, 238, .inl m_book)), (q_kept, .inl (cI, 34, .inl m_kept)), (q_isKept, .inl (cZ, 2, .inl m_isKept)), (q_heldWho, .inl (cI, 6, .inl m_heldWho)), (q_heldForce, .inl (cI, 6, .inl m_heldForce)), (q_heldLoad, .inl (cI, 6, .inl m_heldLoad)), (q_heldIs, .inl (cI, 6, .inl m_heldIs)), (q_gains, .inl (cI, 50, .inl m_gains)), (q_value, .inl (cI, 16, .inl m_value))] H locs → lv_has ls 6 [(0, .ref m_a), (1, .int v1), (2, .int v2), (3, .int v3), (4, .int v4), (5, .int v5)] → W p l e (rmo 2 45) s m args below meth c H locs 0 0 (MQ below (QI D (fun u : Int32 => [(m_a, .inr (5, [.int u, .ref q_text, .int m_textSize, .int m_place, .ref q_cards, .ref q_readCards, .ref q_readPage, .ref q_page, .ref q_trial, .ref q_loads, .ref q_book, .int m_acts, .ref q_kept, .ref q_isKept, .int m_held, .ref q_heldWho, .ref q_heldForce, .ref q_heldLoad, .ref q_heldIs, .long m_seed, .int m_tentMany, .int m_tentFirst, .int m_restMany, .int m_restFirst, .ref q_gains, .ref q_value])), (q_text, .inl (cI, 56, .inl m_text)), (q_cards, .inl (cI, 4, .inl m_cards)), (q_readCards, .inl (cI, 4, .inl m_readCards)), (q_readPage, .inl (cI, 17, .inl m_readPage)), (q_page, .inl (cI, 17, .inl m_page)), (q_trial, .inl (cI, 17, .inl m_trial)), (q_loads, .inl (cI, 16, .inl m_loads)), (q_book, .inl (cI, 238, .inl m_book)), (q_kept, .inl (cI, 34, .inl m_kept)), (q_isKept, .inl (cZ, 2, .inl m_isKept)), (q_heldWho, .inl (cI, 6, .inl m_heldWho)), (q_heldForce, .inl (cI, 6, .inl m_heldForce)), (q_heldLoad, .inl (cI, 6, .inl m_heldLoad)), (q_heldIs, .inl (cI, 6, .inl m_heldIs)), (q_gains, .inl (cI, 50, .inl m_gains)), (q_value, .inl (cI, 16, .inl m_value))]) A res) args s 0 0 A) (F0 m 42 ls []) := by
  obtain ⟨hx, hb, hr, hml, hown, hts, hlk⟩ := id C
  have hg : ∀ w ∈ GW, w.before args s = true := fun w h => hts w (List.mem_cons_of_mem _ h)
  intro n
  induction n with
  | zero =>
    intro _ _ H locs ls hf
    rw [fX5_wants_L42] at hf
    cases hf
  | succ n ih =>
    intro v4 v5 H locs ls hf w hl
    rw [fX5_wants_L42] at hf
    refine lv_iload hx hb dX5_wants_42 (lv_at hl 5 rfl) ?_
    refine lv_bipush (v := 16) hx hb dX5_wants_44 (by decide) ?_
    refine lv_icmp_ge (tgt := 86) hx hb dX5_wants_46 (by decide) (fun c1 => ?_) (fun c1 => ?_)
    · replace hf := ite_t c1 hf
      refine lv_iload hx hb dX5_wants_86 (lv_at hl 4 rfl) ?_
      exact k_iret (u := m_thrown) hx hb hr hlk w rfl hf dX5_wants_88
    · replace hf := ite_f c1 hf
      refine lv_iload hx hb dX5_wants_49 (lv_at hl 4 rfl) ?_
      refine lv_iload_n hx hb dX5_wants_51 rfl (lv_at hl 3 rfl) ?_
      refine lv_iload hx hb dX5_wants_52 (lv_at hl 5 rfl) ?_
      replace hf := ob_at hf
      obtain ⟨r2, er2, hf⟩ := hf
      refine k_goI0 w [] rfl (va_runS (As := [.int v3, .int v5]) (rest := [.int v4]) ⟨hx, hb, hml, hown, hg⟩ (tX5_has l D cI cZ b0 tt v3 v5 er2 H.size) (va_cwS 2 hg (gwS w_641 w_642 w_7 w_643) rfl rfl rfl qdX5_has ⟨Nat.le_of_ble_eq_true rfl, Nat.le_of_ble_eq_true rfl⟩) (k_preS w [] (by decide) rfl) rfl rfl hl.1 rfl (lv_room (Nat.le_of_ble_eq_true rfl)) dX5_wants_54 ⟨Nat.le_refl _, Nat.le_refl _⟩) (fun H locs w => ?_)
      refine lv_if_eq (tgt := 76) hx hb dX5_wants_57 (by decide) (fun c3 => ?_) (fun c3 => ?_)
      · replace hf := ite_t c3 hf
        refine lv_iconst (v := 0) hx hb dX5_wants_76 (by decide) ?_
        refine lv_iadd hx hb dX5_wants_77 ?_
        refine lv_topi (fun z4 ez4 => ?_)
        replace hf := nm_at ez4 hf
        refine lv_istore (lv' := [(4, .int z4), (0, .ref m_a), (1, .int v1), (2, .int v2), (3, .int v3), (5, .int v5)]) hx hb dX5_wants_78 hl (by decide) rfl (fun ls hl => ?_)
        obtain ⟨z5, ez5⟩ : ∃ y : Int32, y = (v5 + 1) := ⟨_, rfl⟩
        replace hf := nm_at ez5 hf
        refine lv_iinc (v := z5) (lv' := [(5, .int z5), (4, .int z4), (0, .ref m_a), (1, .int v1), (2, .int v2), (3, .int v3)]) hx hb dX5_wants_80 hl (k := 5) rfl (by rw [ez5]; rfl) (by decide) rfl (fun ls hl => ?_)
        refine lv_goto (tgt := 42) hx hb dX5_wants_83 (by decide) ?_
        exact ih z4 z5 H locs ls hf w (lv_sub hl [2, 3, 4, 5, 1, 0] rfl)
      · replace hf := ite_f c3 hf
        refine lv_iload_n hx hb dX5_wants_60 rfl (lv_at hl 2 rfl) ?_
        refine lv_if_ne (tgt := 68) hx hb dX5_wants_61 (by decide) (fun c6 => ?_) (fun c6 => ?_)
        · replace hf := ite_f c6 hf
          refine lv_iload hx hb dX5_wants_68 (lv_at hl 5 rfl) ?_
          replace hf := ob_at hf
          obtain ⟨r7, er7, hf⟩ := hf
          refine k_goI0 w [] rfl (va_runS (As := [.int v5]) (rest := [.int v4]) ⟨hx, hb, hml, hown, hg⟩ (tX5_need l D cI cZ b0 tt v5 er7 H.size) (va_cwS 1 hg (gwS w_615 w_616 w_7 w_617) rfl rfl rfl qdX5_need ⟨Nat.le_of_ble_eq_true rfl, Nat.le_of_ble_eq_true rfl⟩) (k_preS w [] (by decide) rfl) rfl rfl hl.1 rfl (lv_room (Nat.le_of_ble_eq_true rfl)) dX5_wants_70 ⟨Nat.le_refl _, Nat.le_refl _⟩) (fun H locs w => ?_)
          refine lv_goto (tgt := 77) hx hb dX5_wants_73 (by decide) ?_
          refine lv_iadd hx hb dX5_wants_77 ?_
          refine lv_topi (fun z8 ez8 => ?_)
          replace hf := nm_at ez8 hf
          refine lv_istore (lv' := [(4, .int z8), (0, .ref m_a), (1, .int v1), (2, .int v2), (3, .int v3), (5, .int v5)]) hx hb dX5_wants_78 hl (by decide) rfl (fun ls hl => ?_)
          obtain ⟨z9, ez9⟩ : ∃ y : Int32, y = (v5 + 1) := ⟨_, rfl⟩
          replace hf := nm_at ez9 hf
          refine lv_iinc (v := z9) (lv' := [(5, .int z9), (4, .int z8), (0, .ref m_a), (1, .int v1), (2, .int v2), (3, .int v3)]) hx hb dX5_wants_80 hl (k := 5) rfl (by rw [ez9]; rfl) (by decide) rfl (fun ls hl => ?_)
          refine lv_goto (tgt := 42) hx hb dX5_wants_83 (by decide) ?_
          exact ih z8 z9 H locs ls hf w (lv_sub hl [2, 3, 4, 5, 1, 0] rfl)
        · replace hf := ite_t c6 hf
          refine lv_iconst (v := 1) hx hb dX5_wants_64 (by decide) ?_
          refine lv_goto (tgt := 77) hx hb dX5_wants_65 (by decide) ?_
          refine lv_iadd hx hb dX5_wants_77 ?_
          refine lv_topi (fun z10 ez10 => ?_)
          replace hf := nm_at ez10 hf
          refine lv_istore (lv' := [(4, .int z10), (0, .ref m_a), (1, .int v1), (2, .int v2), (3, .int v3), (5, .int v5)]) hx hb dX5_wants_78 hl (by decide) rfl (fun ls hl => ?_)
          obtain ⟨z11, ez11⟩ : ∃ y : Int32, y = (v5 + 1) := ⟨_, rfl⟩
          replace hf := nm_at ez11 hf
          refine lv_iinc (v := z11) (lv' := [(5, .int z11), (4, .int z10), (0, .ref m_a), (1, .int v1), (2, .int v2), (3, .int v3)]) hx hb dX5_wants_80 hl (k := 5) rfl (by rw [ez11]; rfl) (by decide) rfl (fun ls hl => ?_)
          refine lv_goto (tgt := 42) hx hb dX5_wants_83 (by decide) ?_
          exact ih z10 z11 H locs ls hf w (lv_sub hl [2, 3, 4, 5, 1, 0] rfl)
def fX5_wants  (m_thrown : Int32) (m_page : Nat → Int32) (a1 : Int32) (a2 : Int32) : Option (Int32 × Int32) := ob (fX5_noPiece a1) (fun r12 => (if r12 = 0 then ob (fX5_in (Int32.toInt64 a2) 0 1) (fun r14 => (if r14 = 0 then some ((-2), 0) else ob (fX5_wanted m_page a1) (fun r16 => fX5_wants_L42 a1 a2 r16 0 m_page FU 0 0))) else some ((-1), 0)))
set_option maxRecDepth 100000 in
set_option maxHeartbeats 4000000 in
theorem tX5_wants (l : Launch) (D : va_G) (cI cZ : ClassId) (b0 : Nat) (tt : Nat → Nat)  (m_a q_text q_cards q_readCards q_readPage q_page q_trial q_loads q_book q_kept q_isKept q_heldWho q_heldForce q_heldLoad q_heldIs q_gains q_value : Nat) (m_thrown : Int32) (m_textSize : Int32) (m_place : Int32) (m_acts : Int32) (m_held : Int32) (m_seed : Int64) (m_tentMany : Int32) (m_tentFirst : Int32) (m_restMany : Int32) (m_restFirst : Int32) (m_text : Nat → Int32) (m_cards : Nat → Int32) (m_readCards : Nat → Int32) (m_readPage : Nat → Int32) (m_page : Nat → Int32) (m_trial : Nat → Int32) (m_loads : Nat → Int32) (m_book : Nat → Int32) (m_kept : Nat → Int32) (m_isKept : Nat → Int32) (m_heldWho : Nat → Int32) (m_heldForce : Nat → Int32) (m_heldLoad : Nat → Int32) (m_heldIs : Nat → Int32) (m_gains : Nat → Int32) (m_value : Nat → Int32) (a1 : Int32) (a2 : Int32) {res : Int32 × Int32} (hf : fX5_wants m_thrown m_page a1 a2 = some res) : CtI l yX5_wants (cwX5_wants :: GW) 2 45 D cI cZ b0 tt [.ref m_a, .int a1, .int a2] (fun u : Int32 => [(m_a, .inr (5, [.int u, .ref q_text, .int m_textSize, .int m_place, .ref q_cards, .ref q_readCards, .ref q_readPage, .ref q_page, .ref q_trial, .ref q_loads, .ref q_book, .int m_acts, .ref q_kept, .ref q_isKept, .int m_held, .ref q_heldWho, .ref q_heldForce, .ref q_heldLoad, .ref q_heldIs, .long m_seed, .int m_tentMany, .int m_tentFirst, .int m_restMany, .int m_restFirst, .ref q_gains, .ref q_value])), (q_text, .inl (cI, 56, .inl m_text)), (q_cards, .inl (cI, 4, .inl m_cards)), (q_readCards, .inl (cI, 4, .inl m_readCards)), (q_readPage, .inl (cI, 17, .inl m_readPage)), (q_page, .inl (cI, 17, .inl m_page)), (q_trial, .inl (cI, 17, .inl m_trial)), (q_loads, .inl (cI, 16, .inl m_loads)), (q_book, .inl (cI, 238, .inl m_book)), (q_kept, .inl (cI, 34, .inl m_kept)), (q_isKept, .inl (cZ, 2, .inl m_isKept)), (q_heldWho, .inl (cI, 6, .inl m_heldWho)), (q_heldForce, .inl (cI, 6, .inl m_heldForce)), (q_heldLoad, .inl (cI, 6, .inl m_heldLoad)), (q_heldIs, .inl (cI, 6, .inl m_heldIs)), (q_gains, .inl (cI, 50, .inl m_gains)), (q_value, .inl (cI, 16, .inl m_value))]) m_thrown res := by
  intro sz
  refine k_begin (cc := cX5_wants) (maxL := 6) (ret := (some .int)) (by decide) rfl (Nat.le_of_ble_eq_true rfl) ?_
  intro p e s m below meth c ls C w hl
  generalize va_A _ sz = A at w ⊢
  have w : Wd D cI cZ b0 tt A s [(m_a, .inr (5, [.int m_thrown, .ref q_text, .int m_textSize, .int m_place, .ref q_cards, .ref q_readCards, .ref q_readPage, .ref q_page, .ref q_trial, .ref q_loads, .ref q_book, .int m_acts, .ref q_kept, .ref q_isKept, .int m_held, .ref q_heldWho, .ref q_heldForce, .ref q_heldLoad, .ref q_heldIs, .long m_seed, .int m_tentMany, .int m_tentFirst, .int m_restMany, .int m_restFirst, .ref q_gains, .ref q_value])), (q_text, .inl (cI, 56, .inl m_text)), (q_cards, .inl (cI, 4, .inl m_cards)), (q_readCards, .inl (cI, 4, .inl m_readCards)), (q_readPage, .inl (cI, 17, .inl m_readPage)), (q_page, .inl (cI, 17, .inl m_page)), (q_trial, .inl (cI, 17, .inl m_trial)), (q_loads, .inl (cI, 16, .inl m_loads)), (q_book, .inl (cI, 238, .inl m_book)), (q_kept, .inl (cI, 34, .inl m_kept)), (q_isKept, .inl (cZ, 2, .inl m_isKept)), (q_heldWho, .inl (cI, 6, .inl m_heldWho)), (q_heldForce, .inl (cI, 6, .inl m_heldForce)), (q_heldLoad, .inl (cI, 6, .inl m_heldLoad)), (q_heldIs, .inl (cI, 6, .inl m_heldIs)), (q_gains, .inl (cI, 50, .inl m_gains)), (q_value, .inl (cI, 16, .inl m_value))] s.heap [] := w
  have hl : lv_has ls 6 [(0, .ref m_a), (1, .int a1), (2, .int a2)] := hl
  obtain ⟨H, eH⟩ : ∃ H, H = s.heap := ⟨_, rfl⟩
  rw [← eH] at w ⊢
  generalize ([] : List Loc) = locs at w ⊢
  generalize List.toArray _ = args at C ⊢
  obtain ⟨hx, hb, hr, hml, hown, hts, hlk⟩ := id C
  have hg : ∀ w ∈ GW, w.before args s = true := fun w h => hts w (List.mem_cons_of_mem _ h)
  unfold fX5_wants at hf
  refine lv_aload_n hx hb dX5_wants_0 rfl (lv_at hl 0 rfl) ?_
  refine lv_iconst (v := 0) hx hb dX5_wants_1 (by decide) ?_
  refine k_put (ci := 5) (v := .int 0) (ty := .int) (C := RX5) (T := TX5) (N := 26) hx hb hg iX5 tyX5 tyX5_ok nmX5 hown w 0 rfl rfl 0 (by decide) (hg _ w_489) (fun _ h9 => h9) rfl pd_I rfl rfl (Nat.le_of_ble_eq_true rfl) dX5_wants_2 (fun H locs w => ?_)
  have w : Wd D cI cZ b0 tt A s [(m_a, .inr (5, [.int 0, .ref q_text, .int m_textSize, .int m_place, .ref q_cards, .ref q_readCards, .ref q_readPage, .ref q_page, .ref q_trial, .ref q_loads, .ref q_book, .int m_acts, .ref q_kept, .ref q_isKept, .int m_held, .ref q_heldWho, .ref q_heldForce, .ref q_heldLoad, .ref q_heldIs, .long m_seed, .int m_tentMany, .int m_tentFirst, .int m_restMany, .int m_restFirst, .ref q_gains, .ref q_value])), (q_text, .inl (cI, 56, .inl m_text)), (q_cards, .inl (cI, 4, .inl m_cards)), (q_readCards, .inl (cI, 4, .inl m_readCards)), (q_readPage, .inl (cI, 17, .inl m_readPage)), (q_page, .inl (cI, 17, .inl m_page)), (q_trial, .inl (cI, 17, .inl m_trial)), (q_loads, .inl (cI, 16, .inl m_loads)), (q_book, .inl (cI, 238, .inl m_book)), (q_kept, .inl (cI, 34, .inl m_kept)), (q_isKept, .inl (cZ, 2, .inl m_isKept)), (q_heldWho, .inl (cI, 6, .inl m_heldWho)), (q_heldForce, .inl (cI, 6, .inl m_heldForce)), (q_heldLoad, .inl (cI, 6, .inl m_heldLoad)), (q_heldIs, .inl (cI, 6, .inl m_heldIs)), (q_gains, .inl (cI, 50, .inl m_gains)), (q_value, .inl (cI, 16, .inl m_value))] H locs := w
  refine lv_iload_n hx hb dX5_wants_5 rfl (lv_at hl 1 rfl) ?_
  replace hf := ob_at hf
  obtain ⟨r12, er12, hf⟩ := hf
  refine k_goI0 w [] rfl (va_runS (As := [.int a1]) (rest := []) ⟨hx, hb, hml, hown, hg⟩ (tX5_noPiece l D cI cZ b0 tt a1 er12 H.size) (va_cwS 1 hg (gwS w_621 w_622 w_7 w_623) rfl rfl rfl qdX5_noPiece ⟨Nat.le_of_ble_eq_true rfl, Nat.le_of_ble_eq_true rfl⟩) (k_preS w [] (by decide) rfl) rfl rfl hl.1 rfl (lv_room (Nat.le_of_ble_eq_true rfl)) dX5_wants_6 ⟨Nat.le_refl _, Nat.le_refl _⟩) (fun H locs w => ?_)
  refine lv_if_eq (tgt := 14) hx hb dX5_wants_9 (by decide) (fun c13 => ?_) (fun c13 => ?_)
  · replace hf := ite_t c13 hf
    refine lv_iload_n hx hb dX5_wants_14 rfl (lv_at hl 2 rfl) ?_
    refine lv_i2l (v := (Int32.toInt64 a2)) hx hb dX5_wants_15 rfl ?_
    refine lv_lconst (v := 0) hx hb dX5_wants_16 (by decide) ?_
    refine lv_lconst (v := 1) hx hb dX5_wants_17 (by decide) ?_
    replace hf := ob_at hf
    obtain ⟨r14, er14, hf⟩ := hf
    refine k_goI0 w [] rfl (va_runS (As := [.long (Int32.toInt64 a2), .long 0, .long 1]) (rest := []) ⟨hx, hb, hml, hown, hg⟩ (tX5_in l D cI cZ b0 tt (Int32.toInt64 a2) 0 1 er14 H.size) (va_cwS 3 hg (gwS w_574 w_575 w_7 w_576) rfl rfl rfl qdX5_in ⟨Nat.le_of_ble_eq_true rfl, Nat.le_of_ble_eq_true rfl⟩) (k_preS w [] (by decide) rfl) rfl rfl hl.1 rfl (lv_room (Nat.le_of_ble_eq_true rfl)) dX5_wants_18 ⟨Nat.le_refl _, Nat.le_refl _⟩) (fun H locs w => ?_)
    refine lv_if_ne (tgt := 27) hx hb dX5_wants_21 (by decide) (fun c15 => ?_) (fun c15 => ?_)
    · replace hf := ite_f c15 hf
      refine lv_aload_n hx hb dX5_wants_27 rfl (lv_at hl 0 rfl) ?_
      refine va_get (D := D) (ci := 5) (v := .ref q_page) (C := RX5) (T := TX5) (N := 26) hx hb hg iX5 hown w.2.2.2.2.2.2.1 w.1 0 rfl rfl 7 (by decide) (hg _ w_496) (fun _ h9 => h9) rfl dX5_wants_28 ?_
      refine lv_iload_n hx hb dX5_wants_31 rfl (lv_at hl 1 rfl) ?_
      replace hf := ob_at hf
      obtain ⟨r16, er16, hf⟩ := hf
      refine k_goI0 w [5] rfl (va_runS (As := [.ref q_page, .int a1]) (rest := []) ⟨hx, hb, hml, hown, hg⟩ (tX5_wanted l D cI cZ b0 tt q_page m_page a1 er16 H.size) (va_cwS 2 hg (gwS w_742 w_743 w_7 w_744) rfl rfl rfl qdX5_wanted ⟨Nat.le_of_ble_eq_true rfl, Nat.le_of_ble_eq_true rfl⟩) (k_preS w [5] (by decide) rfl) rfl rfl hl.1 rfl (lv_room (Nat.le_of_ble_eq_true rfl)) dX5_wants_32 ⟨Nat.le_refl _, Nat.le_refl _⟩) (fun H locs w => ?_)
      refine lv_istore_n (lv' := [(3, .int r16), (0, .ref m_a), (1, .int a1), (2, .int a2)]) hx hb dX5_wants_35 rfl hl (by decide) rfl (fun ls hl => ?_)
      refine lv_iconst (v := 0) hx hb dX5_wants_36 (by decide) ?_
      refine lv_istore (lv' := [(4, .int 0), (3, .int r16), (0, .ref m_a), (1, .int a1), (2, .int a2)]) hx hb dX5_wants_37 hl (by decide) rfl (fun ls hl => ?_)
      refine lv_iconst (v := 0) hx hb dX5_wants_39 (by decide) ?_
      refine lv_istore (lv' := [(5, .int 0), (4, .int 0), (3, .int r16), (0, .ref m_a), (1, .int a1), (2, .int a2)]) hx hb dX5_wants_40 hl (by decide) rfl (fun ls hl => ?_)
      exact tX5_wants_L42 (v1 := a1) (v2 := a2) (v3 := r16) (m_thrown := 0) (m_page := m_page) (m_textSize := m_textSize) (m_place := m_place) (m_acts := m_acts) (m_held := m_held) (m_seed := m_seed) (m_tentMany := m_tentMany) (m_tentFirst := m_tentFirst) (m_restMany := m_restMany) (m_restFirst := m_restFirst) (m_text := m_text) (m_cards := m_cards) (m_readCards := m_readCards) (m_readPage := m_readPage) (m_trial := m_trial) (m_loads := m_loads) (m_book := m_book) (m_kept := m_kept) (m_isKept := m_isKept) (m_heldWho := m_heldWho) (m_heldForce := m_heldForce) (m_heldLoad := m_heldLoad) (m_heldIs := m_heldIs) (m_gains := m_gains) (m_value := m_value) (C := C) FU 0 0 H locs ls hf w (lv_sub hl [3, 4, 5, 2, 1, 0] rfl)
    · replace hf := ite_t c15 hf
      refine lv_bipush (v := (-2)) hx hb dX5_wants_24 (by decide) ?_
      exact k_iret (u := 0) hx hb hr hlk w rfl hf dX5_wants_26
  · replace hf := ite_f c13 hf
    refine lv_iconst (v := (-1)) hx hb dX5_wants_12 (by decide) ?_
    exact k_iret (u := 0) hx hb hr hlk w rfl hf dX5_wants_13
-- X5_begin
def fX5_begin_L2   (m_page : Nat → Int32) : Nat → Int32 → (Nat → Int32) → Option ((Nat → Int32))
  | 0, _, _ => none
  | n + 1, v1, m_trial => (if 17 ≤ v1 then some m_trial else gd v1 17 (nm (m_page (Int32.toNatClampNeg v1)) (fun z3 => gd v1 17 (nm (v1 + 1) (fun z5 => fX5_begin_L2 m_page n z5 (upd m_trial (Int32.toNatClampNeg v1) z3))))))
set_option maxRecDepth 100000 in
set_option maxHeartbeats 4000000 in
theorem tX5_begin_L2 {p : Program} {l : Launch} {e : Env} {s : State} {m : MethodId} {args : Array Value} {below : List Frame} {meth : Method} {c : Code} {D : va_G} {cI cZ : ClassId} {b0 : Nat} {tt : Nat → Nat} {A : Nat → Prop}  {m_a q_text q_cards q_readCards q_readPage q_page q_trial q_loads q_book q_kept q_isKept q_heldWho q_heldForce q_heldLoad q_heldIs q_gains q_value : Nat}  {m_page : Nat → Int32} {m_thrown : Int32} {m_textSize : Int32} {m_place : Int32} {m_acts : Int32} {m_held : Int32} {m_seed : Int64} {m_tentMany : Int32} {m_tentFirst : Int32} {m_restMany : Int32} {m_restFirst : Int32} {m_text : Nat → Int32} {m_cards : Nat → Int32} {m_readCards : Nat → Int32} {m_readPage : Nat → Int32} {m_loads : Nat → Int32} {m_book : Nat → Int32} {m_kept : Nat → Int32} {m_isKept : Nat → Int32} {m_heldWho : Nat → Int32} {m_heldForce : Nat → Int32} {m_heldLoad : Nat → Int32} {m_heldIs : Nat → Int32} {m_gains : Nat → Int32} {m_value : Nat → Int32} {res : (Nat → Int32)} (C : Cx p s m args meth c cX5_begin 2 none (cwX5_begin :: GW) RX5) : ∀ (n : Nat) (v1 : Int32) (m_trial : Nat → Int32) (H : Heap) (locs : List Loc) (ls : Array Slot), fX5_begin_L2 m_page n v1 m_trial = some res → Wd D cI cZ b0 tt A s [(m_a, .inr (5, [.int m_thrown, .ref q_text, .int m_textSize, .int m_place, .ref q_cards, .ref q_readCards, .ref q_readPage, .ref q_page, .ref q_trial, .ref q_loads, .ref q_book, .int m_acts, .ref q_kept, .ref q_isKept, .int m_held, .ref q_heldWho, .ref q_heldForce, .ref q_heldLoad, .ref q_heldIs, .long m_seed, .int m_tentMany, .int m_tentFirst, .int m_restMany, .int m_restFirst, .ref q_gains, .ref q_value])), (q_text, .inl (cI, 56, .inl m_text)), (q_cards, .inl (cI, 4, .inl m_cards)), (q_readCards, .inl (cI, 4, .inl m_readCards)), (q_readPage, .inl (cI, 17, .inl m_readPage)), (q_page, .inl (cI, 17, .inl m_page)), (q_trial, .inl (cI, 17, .inl m_trial)), (q_loads, .inl (cI, 16, .inl m_loads)), (q_book, .inl (cI, 238, .inl m_book)), (q_kept, .inl (cI, 34, .inl m_kept)), (q_isKept, .inl (cZ, 2, .inl m_isKept)), (q_heldWho, .inl (cI, 6, .inl m_heldWho)), (q_heldForce, .inl (cI, 6, .inl m_heldForce)), (q_heldLoad, .inl (cI, 6, .inl m_heldLoad)), (q_heldIs, .inl (cI, 6, .inl m_heldIs)), (q_gains, .inl (cI, 50, .inl m_gains)), (q_value, .inl (cI, 16, .inl m_value))] H locs → lv_has ls 2 [(0, .ref m_a), (1, .int v1)] → W p l e (rmo 0 0) s m args below meth c H locs 0 0 (MQ below (QV D (fun u : (Nat → Int32) => [(m_a, .inr (5, [.int m_thrown, .ref q_text, .int m_textSize, .int m_place, .ref q_cards, .ref q_readCards, .ref q_readPage, .ref q_page, .ref q_trial, .ref q_loads, .ref q_book, .int m_acts, .ref q_kept, .ref q_isKept, .int m_held, .ref q_heldWho, .ref q_heldForce, .ref q_heldLoad, .ref q_heldIs, .long m_seed, .int m_tentMany, .int m_tentFirst, .int m_restMany, .int m_restFirst, .ref q_gains, .ref q_value])), (q_text, .inl (cI, 56, .inl m_text)), (q_cards, .inl (cI, 4, .inl m_cards)), (q_readCards, .inl (cI, 4, .inl m_readCards)), (q_readPage, .inl (cI, 17, .inl m_readPage)), (q_page, .inl (cI, 17, .inl m_page)), (q_trial, .inl (cI, 17, .inl u)), (q_loads, .inl (cI, 16, .inl m_loads)), (q_book, .inl (cI, 238, .inl m_book)), (q_kept, .inl (cI, 34, .inl m_kept)), (q_isKept, .inl (cZ, 2, .inl m_isKept)), (q_heldWho, .inl (cI, 6, .inl m_heldWho)), (q_heldForce, .inl (cI, 6, .inl m_heldForce)), (q_heldLoad, .inl (cI, 6, .inl m_heldLoad)), (q_heldIs, .inl (cI, 6, .inl m_heldIs)), (q_gains, .inl (cI, 50, .inl m_gains)), (q_value, .inl (cI, 16, .inl m_value))]) A res) args s 0 0 A) (F0 m 2 ls []) := by
  obtain ⟨hx, hb, hr, hml, hown, hts, hlk⟩ := id C
  have hg : ∀ w ∈ GW, w.before args s = true := fun w h => hts w (List.mem_cons_of_mem _ h)
  intro n
  induction n with
  | zero =>
    intro _ _ H locs ls hf
    rw [fX5_begin_L2] at hf
    cases hf
  | succ n ih =>
    intro v1 m_trial H locs ls hf w hl
    rw [fX5_begin_L2] at hf
    refine lv_iload_n hx hb dX5_begin_2 rfl (lv_at hl 1 rfl) ?_
    refine lv_bipush (v := 17) hx hb dX5_begin_3 (by decide) ?_
    refine lv_icmp_ge (tgt := 26) hx hb dX5_begin_5 (by decide) (fun c1 => ?_) (fun c1 => ?_)
    · replace hf := ite_t c1 hf
      exact k_vret (u := m_trial) hx hb hr hlk w rfl hf dX5_begin_26
    · replace hf := ite_f c1 hf
      refine lv_aload_n hx hb dX5_begin_8 rfl (lv_at hl 0 rfl) ?_
      refine va_get (D := D) (ci := 5) (v := .ref q_trial) (C := RX5) (T := TX5) (N := 26) hx hb hg iX5 hown w.2.2.2.2.2.2.1 w.1 0 rfl rfl 8 (by decide) (hg _ w_497) (fun _ h9 => h9) rfl dX5_begin_9 ?_
      refine lv_iload_n hx hb dX5_begin_12 rfl (lv_at hl 1 rfl) ?_
      refine lv_aload_n hx hb dX5_begin_13 rfl (lv_at hl 0 rfl) ?_
      refine va_get (D := D) (ci := 5) (v := .ref q_page) (C := RX5) (T := TX5) (N := 26) hx hb hg iX5 hown w.2.2.2.2.2.2.1 w.1 0 rfl rfl 7 (by decide) (hg _ w_496) (fun _ h9 => h9) rfl dX5_begin_14 ?_
      refine lv_iload_n hx hb dX5_begin_17 rfl (lv_at hl 1 rfl) ?_
      replace hf := gd_at hf
      obtain ⟨hi2, hf⟩ := hf
      refine va_iald hx hb w.2.2.2.2.2.2.1 w.1 5 0 rfl rfl hi2 dX5_begin_18 ?_
      refine lv_topi (fun z3 ez3 => ?_)
      replace hf := nm_at ez3 hf
      replace hf := gd_at hf
      obtain ⟨hi4, hf⟩ := hf
      refine k_iast hx hb w 6 rfl hi4 dX5_begin_19 (fun H locs w => ?_)
      have w : Wd D cI cZ b0 tt A s [(m_a, .inr (5, [.int m_thrown, .ref q_text, .int m_textSize, .int m_place, .ref q_cards, .ref q_readCards, .ref q_readPage, .ref q_page, .ref q_trial, .ref q_loads, .ref q_book, .int m_acts, .ref q_kept, .ref q_isKept, .int m_held, .ref q_heldWho, .ref q_heldForce, .ref q_heldLoad, .ref q_heldIs, .long m_seed, .int m_tentMany, .int m_tentFirst, .int m_restMany, .int m_restFirst, .ref q_gains, .ref q_value])), (q_text, .inl (cI, 56, .inl m_text)), (q_cards, .inl (cI, 4, .inl m_cards)), (q_readCards, .inl (cI, 4, .inl m_readCards)), (q_readPage, .inl (cI, 17, .inl m_readPage)), (q_page, .inl (cI, 17, .inl m_page)), (q_trial, .inl (cI, 17, .inl (upd m_trial (Int32.toNatClampNeg v1) z3))), (q_loads, .inl (cI, 16, .inl m_loads)), (q_book, .inl (cI, 238, .inl m_book)), (q_kept, .inl (cI, 34, .inl m_kept)), (q_isKept, .inl (cZ, 2, .inl m_isKept)), (q_heldWho, .inl (cI, 6, .inl m_heldWho)), (q_heldForce, .inl (cI, 6, .inl m_heldForce)), (q_heldLoad, .inl (cI, 6, .inl m_heldLoad)), (q_heldIs, .inl (cI, 6, .inl m_heldIs)), (q_gains, .inl (cI, 50, .inl m_gains)), (q_value, .inl (cI, 16, .inl m_value))] H locs := w
      obtain ⟨z5, ez5⟩ : ∃ y : Int32, y = (v1 + 1) := ⟨_, rfl⟩
      replace hf := nm_at ez5 hf
      refine lv_iinc (v := z5) (lv' := [(1, .int z5), (0, .ref m_a)]) hx hb dX5_begin_20 hl (k := 1) rfl (by rw [ez5]; rfl) (by decide) rfl (fun ls hl => ?_)
      refine lv_goto (tgt := 2) hx hb dX5_begin_23 (by decide) ?_
      exact ih z5 (upd m_trial (Int32.toNatClampNeg v1) z3) H locs ls hf w (lv_sub hl [1, 0] rfl)
def fX5_begin  (m_page : Nat → Int32) (m_trial : Nat → Int32) : Option ((Nat → Int32)) := fX5_begin_L2 m_page FU 0 m_trial
set_option maxRecDepth 100000 in
set_option maxHeartbeats 4000000 in
theorem tX5_begin (l : Launch) (D : va_G) (cI cZ : ClassId) (b0 : Nat) (tt : Nat → Nat)  (m_a q_text q_cards q_readCards q_readPage q_page q_trial q_loads q_book q_kept q_isKept q_heldWho q_heldForce q_heldLoad q_heldIs q_gains q_value : Nat) (m_thrown : Int32) (m_textSize : Int32) (m_place : Int32) (m_acts : Int32) (m_held : Int32) (m_seed : Int64) (m_tentMany : Int32) (m_tentFirst : Int32) (m_restMany : Int32) (m_restFirst : Int32) (m_text : Nat → Int32) (m_cards : Nat → Int32) (m_readCards : Nat → Int32) (m_readPage : Nat → Int32) (m_page : Nat → Int32) (m_trial : Nat → Int32) (m_loads : Nat → Int32) (m_book : Nat → Int32) (m_kept : Nat → Int32) (m_isKept : Nat → Int32) (m_heldWho : Nat → Int32) (m_heldForce : Nat → Int32) (m_heldLoad : Nat → Int32) (m_heldIs : Nat → Int32) (m_gains : Nat → Int32) (m_value : Nat → Int32)  {res : (Nat → Int32)} (hf : fX5_begin m_page m_trial = some res) : CtV l yX5_begin (cwX5_begin :: GW) 0 0 D cI cZ b0 tt [.ref m_a] (fun u : (Nat → Int32) => [(m_a, .inr (5, [.int m_thrown, .ref q_text, .int m_textSize, .int m_place, .ref q_cards, .ref q_readCards, .ref q_readPage, .ref q_page, .ref q_trial, .ref q_loads, .ref q_book, .int m_acts, .ref q_kept, .ref q_isKept, .int m_held, .ref q_heldWho, .ref q_heldForce, .ref q_heldLoad, .ref q_heldIs, .long m_seed, .int m_tentMany, .int m_tentFirst, .int m_restMany, .int m_restFirst, .ref q_gains, .ref q_value])), (q_text, .inl (cI, 56, .inl m_text)), (q_cards, .inl (cI, 4, .inl m_cards)), (q_readCards, .inl (cI, 4, .inl m_readCards)), (q_readPage, .inl (cI, 17, .inl m_readPage)), (q_page, .inl (cI, 17, .inl m_page)), (q_trial, .inl (cI, 17, .inl u)), (q_loads, .inl (cI, 16, .inl m_loads)), (q_book, .inl (cI, 238, .inl m_book)), (q_kept, .inl (cI, 34, .inl m_kept)), (q_isKept, .inl (cZ, 2, .inl m_isKept)), (q_heldWho, .inl (cI, 6, .inl m_heldWho)), (q_heldForce, .inl (cI, 6, .inl m_heldForce)), (q_heldLoad, .inl (cI, 6, .inl m_heldLoad)), (q_heldIs, .inl (cI, 6, .inl m_heldIs)), (q_gains, .inl (cI, 50, .inl m_gains)), (q_value, .inl (cI, 16, .inl m_value))]) m_trial res := by
  intro sz
  refine k_begin (cc := cX5_begin) (maxL := 2) (ret := none) (by decide) rfl (Nat.le_of_ble_eq_true rfl) ?_
  intro p e s m below meth c ls C w hl
  generalize va_A _ sz = A at w ⊢
  have w : Wd D cI cZ b0 tt A s [(m_a, .inr (5, [.int m_thrown, .ref q_text, .int m_textSize, .int m_place, .ref q_cards, .ref q_readCards, .ref q_readPage, .ref q_page, .ref q_trial, .ref q_loads, .ref q_book, .int m_acts, .ref q_kept, .ref q_isKept, .int m_held, .ref q_heldWho, .ref q_heldForce, .ref q_heldLoad, .ref q_heldIs, .long m_seed, .int m_tentMany, .int m_tentFirst, .int m_restMany, .int m_restFirst, .ref q_gains, .ref q_value])), (q_text, .inl (cI, 56, .inl m_text)), (q_cards, .inl (cI, 4, .inl m_cards)), (q_readCards, .inl (cI, 4, .inl m_readCards)), (q_readPage, .inl (cI, 17, .inl m_readPage)), (q_page, .inl (cI, 17, .inl m_page)), (q_trial, .inl (cI, 17, .inl m_trial)), (q_loads, .inl (cI, 16, .inl m_loads)), (q_book, .inl (cI, 238, .inl m_book)), (q_kept, .inl (cI, 34, .inl m_kept)), (q_isKept, .inl (cZ, 2, .inl m_isKept)), (q_heldWho, .inl (cI, 6, .inl m_heldWho)), (q_heldForce, .inl (cI, 6, .inl m_heldForce)), (q_heldLoad, .inl (cI, 6, .inl m_heldLoad)), (q_heldIs, .inl (cI, 6, .inl m_heldIs)), (q_gains, .inl (cI, 50, .inl m_gains)), (q_value, .inl (cI, 16, .inl m_value))] s.heap [] := w
  have hl : lv_has ls 2 [(0, .ref m_a)] := hl
  obtain ⟨H, eH⟩ : ∃ H, H = s.heap := ⟨_, rfl⟩
  rw [← eH] at w ⊢
  generalize ([] : List Loc) = locs at w ⊢
  generalize List.toArray _ = args at C ⊢
  obtain ⟨hx, hb, hr, hml, hown, hts, hlk⟩ := id C
  have hg : ∀ w ∈ GW, w.before args s = true := fun w h => hts w (List.mem_cons_of_mem _ h)
  unfold fX5_begin at hf
  refine lv_iconst (v := 0) hx hb dX5_begin_0 (by decide) ?_
  refine lv_istore_n (lv' := [(1, .int 0), (0, .ref m_a)]) hx hb dX5_begin_1 rfl hl (by decide) rfl (fun ls hl => ?_)
  exact tX5_begin_L2 (m_page := m_page) (m_thrown := m_thrown) (m_textSize := m_textSize) (m_place := m_place) (m_acts := m_acts) (m_held := m_held) (m_seed := m_seed) (m_tentMany := m_tentMany) (m_tentFirst := m_tentFirst) (m_restMany := m_restMany) (m_restFirst := m_restFirst) (m_text := m_text) (m_cards := m_cards) (m_readCards := m_readCards) (m_readPage := m_readPage) (m_loads := m_loads) (m_book := m_book) (m_kept := m_kept) (m_isKept := m_isKept) (m_heldWho := m_heldWho) (m_heldForce := m_heldForce) (m_heldLoad := m_heldLoad) (m_heldIs := m_heldIs) (m_gains := m_gains) (m_value := m_value) (C := C) FU 0 m_trial H locs ls hf w (lv_sub hl [1, 0] rfl)
