-- X5_judge
def fX5_judge_L44   (v1 : Int32) (v2 : Int64) (m_thrown : Int32) (m_cards : Nat → Int32) (m_page : Nat → Int32) : Nat → Int32 → (Nat → Int32) → (Nat → Int32) → Option (Int32 × Int32 × (Nat → Int32) × (Nat → Int32))
  | 0, _, _, _ => none
  | n + 1, v4, m_trial, m_loads => (if v1 ≤ v4 then some ((-9), (m_thrown, m_trial, m_loads)) else ob (fX5_longPower 10000 ((v1 - (1 : Int32)) - v4)) (fun r2 => dzL r2 (ob (fX5_does m_cards m_trial m_loads (Int64.toInt32 ((v2 / r2) - (v2 / r2) / (10000 : Int64) * (10000 : Int64)))) (fun r4 => (if r4.1 = 0 then some (v4, (m_thrown, r4.2.1, r4.2.2)) else nm (v4 + 1) (fun z6 => fX5_judge_L44 v1 v2 m_thrown m_cards m_page n z6 r4.2.1 r4.2.2))))))
set_option maxRecDepth 100000 in
set_option maxHeartbeats 4000000 in
theorem tX5_judge_L44 {p : Program} {l : Launch} {e : Env} {s : State} {m : MethodId} {args : Array Value} {below : List Frame} {meth : Method} {c : Code} {D : va_G} {cI cZ : ClassId} {b0 : Nat} {tt : Nat → Nat} {A : Nat → Prop}  {m_a q_text q_cards q_readCards q_readPage q_page q_trial q_loads q_book q_kept q_isKept q_heldWho q_heldForce q_heldLoad q_heldIs q_gains q_value : Nat}  {v1 : Int32} {v2 : Int64} {m_thrown : Int32} {m_cards : Nat → Int32} {m_page : Nat → Int32} {m_textSize : Int32} {m_place : Int32} {m_acts : Int32} {m_held : Int32} {m_seed : Int64} {m_tentMany : Int32} {m_tentFirst : Int32} {m_restMany : Int32} {m_restFirst : Int32} {m_text : Nat → Int32} {m_readCards : Nat → Int32} {m_readPage : Nat → Int32} {m_book : Nat → Int32} {m_kept : Nat → Int32} {m_isKept : Nat → Int32} {m_heldWho : Nat → Int32} {m_heldForce : Nat → Int32} {m_heldLoad : Nat → Int32} {m_heldIs : Nat → Int32} {m_gains : Nat → Int32} {m_value : Nat → Int32} {res : Int32 × Int32 × (Nat → Int32) × (Nat → Int32)} (C : Cx p s m args meth c cX5_judge 5 (some .int) (cwX5_judge :: GW) RX5) : ∀ (n : Nat) (v4 : Int32) (m_trial : Nat → Int32) (m_loads : Nat → Int32) (H : Heap) (locs : List Loc) (ls : Array Slot), fX5_judge_L44 v1 v2 m_thrown m_cards m_page n v4 m_trial m_loads = some res → Wd D cI cZ b0 tt A s [(m_a, .inr (5, [.int m_thrown, .ref q_text, .int m_textSize, .int m_place, .ref q_cards, .ref q_readCards, .ref q_readPage, .ref q_page, .ref q_trial, .ref q_loads, .ref q_book, .int m_acts, .ref q_kept, .ref q_isKept, .int m_held, .ref q_heldWho, .ref q_heldForce, .ref q_heldLoad, .ref q_heldIs, .long m_seed, .int m_tentMany, .int m_tentFirst, .int m_restMany, .int m_restFirst, .ref q_gains, .ref q_value])), (q_text, .inl (cI, 56, .inl m_text)), (q_cards, .inl (cI, 4, .inl m_cards)), (q_readCards, .inl (cI, 4, .inl m_readCards)), (q_readPage, .inl (cI, 17, .inl m_readPage)), (q_page, .inl (cI, 17, .inl m_page)), (q_trial, .inl (cI, 17, .inl m_trial)), (q_loads, .inl (cI, 16, .inl m_loads)), (q_book, .inl (cI, 238, .inl m_book)), (q_kept, .inl (cI, 34, .inl m_kept)), (q_isKept, .inl (cZ, 2, .inl m_isKept)), (q_heldWho, .inl (cI, 6, .inl m_heldWho)), (q_heldForce, .inl (cI, 6, .inl m_heldForce)), (q_heldLoad, .inl (cI, 6, .inl m_heldLoad)), (q_heldIs, .inl (cI, 6, .inl m_heldIs)), (q_gains, .inl (cI, 50, .inl m_gains)), (q_value, .inl (cI, 16, .inl m_value))] H locs → lv_has ls 5 [(0, .ref m_a), (1, .int v1), (2, .long v2), (4, .int v4)] → W p l e (rmo 9 203) s m args below meth c H locs 0 0 (MQ below (QI D (fun u : Int32 × (Nat → Int32) × (Nat → Int32) => [(m_a, .inr (5, [.int u.1, .ref q_text, .int m_textSize, .int m_place, .ref q_cards, .ref q_readCards, .ref q_readPage, .ref q_page, .ref q_trial, .ref q_loads, .ref q_book, .int m_acts, .ref q_kept, .ref q_isKept, .int m_held, .ref q_heldWho, .ref q_heldForce, .ref q_heldLoad, .ref q_heldIs, .long m_seed, .int m_tentMany, .int m_tentFirst, .int m_restMany, .int m_restFirst, .ref q_gains, .ref q_value])), (q_text, .inl (cI, 56, .inl m_text)), (q_cards, .inl (cI, 4, .inl m_cards)), (q_readCards, .inl (cI, 4, .inl m_readCards)), (q_readPage, .inl (cI, 17, .inl m_readPage)), (q_page, .inl (cI, 17, .inl m_page)), (q_trial, .inl (cI, 17, .inl u.2.1)), (q_loads, .inl (cI, 16, .inl u.2.2)), (q_book, .inl (cI, 238, .inl m_book)), (q_kept, .inl (cI, 34, .inl m_kept)), (q_isKept, .inl (cZ, 2, .inl m_isKept)), (q_heldWho, .inl (cI, 6, .inl m_heldWho)), (q_heldForce, .inl (cI, 6, .inl m_heldForce)), (q_heldLoad, .inl (cI, 6, .inl m_heldLoad)), (q_heldIs, .inl (cI, 6, .inl m_heldIs)), (q_gains, .inl (cI, 50, .inl m_gains)), (q_value, .inl (cI, 16, .inl m_value))]) A res) args s 0 0 A) (F0 m 44 ls []) := by
  obtain ⟨hx, hb, hr, hml, hown, hts, hlk⟩ := id C
  have hg : ∀ w ∈ GW, w.before args s = true := fun w h => hts w (List.mem_cons_of_mem _ h)
  intro n
  induction n with
  | zero =>
    intro _ _ _ H locs ls hf
    rw [fX5_judge_L44] at hf
    cases hf
  | succ n ih =>
    intro v4 m_trial m_loads H locs ls hf w hl
    rw [fX5_judge_L44] at hf
    refine lv_iload hx hb dX5_judge_44 (lv_at hl 3 rfl) ?_
    refine lv_iload_n hx hb dX5_judge_46 rfl (lv_at hl 1 rfl) ?_
    refine lv_icmp_ge (tgt := 85) hx hb dX5_judge_47 (by decide) (fun c1 => ?_) (fun c1 => ?_)
    · replace hf := ite_t c1 hf
      refine lv_bipush (v := (-9)) hx hb dX5_judge_85 (by decide) ?_
      exact k_iret (u := (m_thrown, m_trial, m_loads)) hx hb hr hlk w rfl hf dX5_judge_87
    · replace hf := ite_f c1 hf
      refine lv_aload_n hx hb dX5_judge_50 rfl (lv_at hl 0 rfl) ?_
      refine lv_lload_n hx hb dX5_judge_51 rfl (lv_at hl 2 rfl) ?_
      refine lv_ldc2 hx hb hown (hg _ w_756) dX5_judge_52 ?_
      refine lv_iload_n hx hb dX5_judge_55 rfl (lv_at hl 1 rfl) ?_
      refine lv_iconst (v := 1) hx hb dX5_judge_56 (by decide) ?_
      refine lv_isub hx hb dX5_judge_57 ?_
      refine lv_iload hx hb dX5_judge_58 (lv_at hl 3 rfl) ?_
      refine lv_isub hx hb dX5_judge_60 ?_
      replace hf := ob_at hf
      obtain ⟨r2, er2, hf⟩ := hf
      refine k_goL0 w [] rfl (va_runS (As := [.long 10000, .int ((v1 - (1 : Int32)) - v4)]) (rest := [.long v2, .ref m_a]) ⟨hx, hb, hml, hown, hg⟩ (tX5_longPower l D cI cZ b0 tt 10000 ((v1 - (1 : Int32)) - v4) er2 H.size) (va_cwS 2 hg (gwS w_757 w_758 w_7 w_759) rfl rfl rfl qdX5_longPower ⟨Nat.le_of_ble_eq_true rfl, Nat.le_of_ble_eq_true rfl⟩) (k_preS w [] (by decide) rfl) rfl rfl hl.1 rfl (lv_room (Nat.le_of_ble_eq_true rfl)) dX5_judge_61 ⟨Nat.le_refl _, Nat.le_refl _⟩) (fun H locs w => ?_)
      obtain ⟨hz3, hf⟩ := dzL_at hf
      refine lv_ldiv hx hb dX5_judge_64 hz3 ?_
      refine lv_ldc2 hx hb hown (hg _ w_756) dX5_judge_65 ?_
      refine lv_lrem hx hb dX5_judge_68 (by decide) ?_
      refine lv_l2i (v := (Int64.toInt32 ((v2 / r2) - (v2 / r2) / (10000 : Int64) * (10000 : Int64)))) hx hb dX5_judge_69 rfl ?_
      replace hf := ob_at hf
      obtain ⟨r4, er4, hf⟩ := hf
      refine k_goI (v0 := (m_trial, m_loads)) (res := r4) w [0, 1, 2, 3, 4, 5, 6, 7, 8, 9, 10, 11, 12, 13, 14, 15, 16] rfl (fun _ => rfl) (va_runV (As := [.int (Int64.toInt32 ((v2 / r2) - (v2 / r2) / (10000 : Int64) * (10000 : Int64)))]) (rest := []) ⟨hx, hb, hml, hown, hg⟩ (tX5_does l D cI cZ b0 tt m_a q_text q_cards q_readCards q_readPage q_page q_trial q_loads q_book q_kept q_isKept q_heldWho q_heldForce q_heldLoad q_heldIs q_gains q_value m_thrown m_textSize m_place m_acts m_held m_seed m_tentMany m_tentFirst m_restMany m_restFirst m_text m_cards m_readCards m_readPage m_page m_trial m_loads m_book m_kept m_isKept m_heldWho m_heldForce m_heldLoad m_heldIs m_gains m_value (Int64.toInt32 ((v2 / r2) - (v2 / r2) / (10000 : Int64) * (10000 : Int64))) er4 H.size) (cwV 1 hg (gwV w_760 w_761 w_862 w_7 w_762) rfl rfl rfl ⟨rfl, qdX5_does⟩ ⟨Nat.le_of_ble_eq_true rfl, Nat.le_of_ble_eq_true rfl⟩) (k_preV w [0, 1, 2, 3, 4, 5, 6, 7, 8, 9, 10, 11, 12, 13, 14, 15, 16] (by decide) rfl (q0 := 0) rfl rfl) rfl rfl hl.1 rfl (lv_room (Nat.le_of_ble_eq_true rfl)) dX5_judge_70 ⟨Nat.le_refl _, Nat.le_refl _⟩) (fun H locs w => ?_)
      have w : Wd D cI cZ b0 tt A s [(m_a, .inr (5, [.int m_thrown, .ref q_text, .int m_textSize, .int m_place, .ref q_cards, .ref q_readCards, .ref q_readPage, .ref q_page, .ref q_trial, .ref q_loads, .ref q_book, .int m_acts, .ref q_kept, .ref q_isKept, .int m_held, .ref q_heldWho, .ref q_heldForce, .ref q_heldLoad, .ref q_heldIs, .long m_seed, .int m_tentMany, .int m_tentFirst, .int m_restMany, .int m_restFirst, .ref q_gains, .ref q_value])), (q_text, .inl (cI, 56, .inl m_text)), (q_cards, .inl (cI, 4, .inl m_cards)), (q_readCards, .inl (cI, 4, .inl m_readCards)), (q_readPage, .inl (cI, 17, .inl m_readPage)), (q_page, .inl (cI, 17, .inl m_page)), (q_trial, .inl (cI, 17, .inl r4.2.1)), (q_loads, .inl (cI, 16, .inl r4.2.2)), (q_book, .inl (cI, 238, .inl m_book)), (q_kept, .inl (cI, 34, .inl m_kept)), (q_isKept, .inl (cZ, 2, .inl m_isKept)), (q_heldWho, .inl (cI, 6, .inl m_heldWho)), (q_heldForce, .inl (cI, 6, .inl m_heldForce)), (q_heldLoad, .inl (cI, 6, .inl m_heldLoad)), (q_heldIs, .inl (cI, 6, .inl m_heldIs)), (q_gains, .inl (cI, 50, .inl m_gains)), (q_value, .inl (cI, 16, .inl m_value))] H locs := w
      refine lv_if_ne (tgt := 79) hx hb dX5_judge_73 (by decide) (fun c5 => ?_) (fun c5 => ?_)
      · replace hf := ite_f c5 hf
        obtain ⟨z6, ez6⟩ : ∃ y : Int32, y = (v4 + 1) := ⟨_, rfl⟩
        replace hf := nm_at ez6 hf
        refine lv_iinc (v := z6) (lv' := [(4, .int z6), (0, .ref m_a), (1, .int v1), (2, .long v2)]) hx hb dX5_judge_79 hl (k := 3) rfl (by rw [ez6]; rfl) (by decide) rfl (fun ls hl => ?_)
        refine lv_goto (tgt := 44) hx hb dX5_judge_82 (by decide) ?_
        exact ih z6 r4.2.1 r4.2.2 H locs ls hf w (lv_sub hl [1, 2, 3, 0] rfl)
      · replace hf := ite_t c5 hf
        refine lv_iload hx hb dX5_judge_76 (lv_at hl 3 rfl) ?_
        exact k_iret (u := (m_thrown, r4.2.1, r4.2.2)) hx hb hr hlk w rfl hf dX5_judge_78
def fX5_judge  (m_thrown : Int32) (m_cards : Nat → Int32) (m_page : Nat → Int32) (m_trial : Nat → Int32) (m_loads : Nat → Int32) (a1 : Int32) (a2 : Int64) : Option (Int32 × Int32 × (Nat → Int32) × (Nat → Int32)) := ob (fX5_in (Int32.toInt64 a1) 1 4) (fun r7 => (if r7 = 0 then some ((-2), (0, m_trial, m_loads)) else ob (fX5_longPower 10000 a1) (fun r9 => ob (fX5_in a2 0 (r9 - (1 : Int64))) (fun r10 => (if r10 = 0 then some ((-2), (0, m_trial, m_loads)) else ob (fX5_begin m_page m_trial) (fun r12 => fX5_judge_L44 a1 a2 0 m_cards m_page FU 0 r12 m_loads))))))
set_option maxRecDepth 100000 in
set_option maxHeartbeats 4000000 in
theorem tX5_judge (l : Launch) (D : va_G) (cI cZ : ClassId) (b0 : Nat) (tt : Nat → Nat)  (m_a q_text q_cards q_readCards q_readPage q_page q_trial q_loads q_book q_kept q_isKept q_heldWho q_heldForce q_heldLoad q_heldIs q_gains q_value : Nat) (m_thrown : Int32) (m_textSize : Int32) (m_place : Int32) (m_acts : Int32) (m_held : Int32) (m_seed : Int64) (m_tentMany : Int32) (m_tentFirst : Int32) (m_restMany : Int32) (m_restFirst : Int32) (m_text : Nat → Int32) (m_cards : Nat → Int32) (m_readCards : Nat → Int32) (m_readPage : Nat → Int32) (m_page : Nat → Int32) (m_trial : Nat → Int32) (m_loads : Nat → Int32) (m_book : Nat → Int32) (m_kept : Nat → Int32) (m_isKept : Nat → Int32) (m_heldWho : Nat → Int32) (m_heldForce : Nat → Int32) (m_heldLoad : Nat → Int32) (m_heldIs : Nat → Int32) (m_gains : Nat → Int32) (m_value : Nat → Int32) (a1 : Int32) (a2 : Int64) {res : Int32 × Int32 × (Nat → Int32) × (Nat → Int32)} (hf : fX5_judge m_thrown m_cards m_page m_trial m_loads a1 a2 = some res) : CtI l yX5_judge (cwX5_judge :: GW) 9 203 D cI cZ b0 tt [.ref m_a, .int a1, .long a2] (fun u : Int32 × (Nat → Int32) × (Nat → Int32) => [(m_a, .inr (5, [.int u.1, .ref q_text, .int m_textSize, .int m_place, .ref q_cards, .ref q_readCards, .ref q_readPage, .ref q_page, .ref q_trial, .ref q_loads, .ref q_book, .int m_acts, .ref q_kept, .ref q_isKept, .int m_held, .ref q_heldWho, .ref q_heldForce, .ref q_heldLoad, .ref q_heldIs, .long m_seed, .int m_tentMany, .int m_tentFirst, .int m_restMany, .int m_restFirst, .ref q_gains, .ref q_value])), (q_text, .inl (cI, 56, .inl m_text)), (q_cards, .inl (cI, 4, .inl m_cards)), (q_readCards, .inl (cI, 4, .inl m_readCards)), (q_readPage, .inl (cI, 17, .inl m_readPage)), (q_page, .inl (cI, 17, .inl m_page)), (q_trial, .inl (cI, 17, .inl u.2.1)), (q_loads, .inl (cI, 16, .inl u.2.2)), (q_book, .inl (cI, 238, .inl m_book)), (q_kept, .inl (cI, 34, .inl m_kept)), (q_isKept, .inl (cZ, 2, .inl m_isKept)), (q_heldWho, .inl (cI, 6, .inl m_heldWho)), (q_heldForce, .inl (cI, 6, .inl m_heldForce)), (q_heldLoad, .inl (cI, 6, .inl m_heldLoad)), (q_heldIs, .inl (cI, 6, .inl m_heldIs)), (q_gains, .inl (cI, 50, .inl m_gains)), (q_value, .inl (cI, 16, .inl m_value))]) (m_thrown, m_trial, m_loads) res := by
  intro sz
  refine k_begin (cc := cX5_judge) (maxL := 5) (ret := (some .int)) (by decide) rfl (Nat.le_of_ble_eq_true rfl) ?_
  intro p e s m below meth c ls C w hl
  generalize va_A _ sz = A at w ⊢
  have w : Wd D cI cZ b0 tt A s [(m_a, .inr (5, [.int m_thrown, .ref q_text, .int m_textSize, .int m_place, .ref q_cards, .ref q_readCards, .ref q_readPage, .ref q_page, .ref q_trial, .ref q_loads, .ref q_book, .int m_acts, .ref q_kept, .ref q_isKept, .int m_held, .ref q_heldWho, .ref q_heldForce, .ref q_heldLoad, .ref q_heldIs, .long m_seed, .int m_tentMany, .int m_tentFirst, .int m_restMany, .int m_restFirst, .ref q_gains, .ref q_value])), (q_text, .inl (cI, 56, .inl m_text)), (q_cards, .inl (cI, 4, .inl m_cards)), (q_readCards, .inl (cI, 4, .inl m_readCards)), (q_readPage, .inl (cI, 17, .inl m_readPage)), (q_page, .inl (cI, 17, .inl m_page)), (q_trial, .inl (cI, 17, .inl m_trial)), (q_loads, .inl (cI, 16, .inl m_loads)), (q_book, .inl (cI, 238, .inl m_book)), (q_kept, .inl (cI, 34, .inl m_kept)), (q_isKept, .inl (cZ, 2, .inl m_isKept)), (q_heldWho, .inl (cI, 6, .inl m_heldWho)), (q_heldForce, .inl (cI, 6, .inl m_heldForce)), (q_heldLoad, .inl (cI, 6, .inl m_heldLoad)), (q_heldIs, .inl (cI, 6, .inl m_heldIs)), (q_gains, .inl (cI, 50, .inl m_gains)), (q_value, .inl (cI, 16, .inl m_value))] s.heap [] := w
  have hl : lv_has ls 5 [(0, .ref m_a), (1, .int a1), (2, .long a2)] := hl
  obtain ⟨H, eH⟩ : ∃ H, H = s.heap := ⟨_, rfl⟩
  rw [← eH] at w ⊢
  generalize ([] : List Loc) = locs at w ⊢
  generalize List.toArray _ = args at C ⊢
  obtain ⟨hx, hb, hr, hml, hown, hts, hlk⟩ := id C
  have hg : ∀ w ∈ GW, w.before args s = true := fun w h => hts w (List.mem_cons_of_mem _ h)
  unfold fX5_judge at hf
  refine lv_aload_n hx hb dX5_judge_0 rfl (lv_at hl 0 rfl) ?_
  refine lv_iconst (v := 0) hx hb dX5_judge_1 (by decide) ?_
  refine k_put (ci := 5) (v := .int 0) (ty := .int) (C := RX5) (T := TX5) (N := 26) hx hb hg iX5 tyX5 tyX5_ok nmX5 hown w 0 rfl rfl 0 (by decide) (hg _ w_489) (fun _ h9 => h9) rfl pd_I rfl rfl (Nat.le_of_ble_eq_true rfl) dX5_judge_2 (fun H locs w => ?_)
  have w : Wd D cI cZ b0 tt A s [(m_a, .inr (5, [.int 0, .ref q_text, .int m_textSize, .int m_place, .ref q_cards, .ref q_readCards, .ref q_readPage, .ref q_page, .ref q_trial, .ref q_loads, .ref q_book, .int m_acts, .ref q_kept, .ref q_isKept, .int m_held, .ref q_heldWho, .ref q_heldForce, .ref q_heldLoad, .ref q_heldIs, .long m_seed, .int m_tentMany, .int m_tentFirst, .int m_restMany, .int m_restFirst, .ref q_gains, .ref q_value])), (q_text, .inl (cI, 56, .inl m_text)), (q_cards, .inl (cI, 4, .inl m_cards)), (q_readCards, .inl (cI, 4, .inl m_readCards)), (q_readPage, .inl (cI, 17, .inl m_readPage)), (q_page, .inl (cI, 17, .inl m_page)), (q_trial, .inl (cI, 17, .inl m_trial)), (q_loads, .inl (cI, 16, .inl m_loads)), (q_book, .inl (cI, 238, .inl m_book)), (q_kept, .inl (cI, 34, .inl m_kept)), (q_isKept, .inl (cZ, 2, .inl m_isKept)), (q_heldWho, .inl (cI, 6, .inl m_heldWho)), (q_heldForce, .inl (cI, 6, .inl m_heldForce)), (q_heldLoad, .inl (cI, 6, .inl m_heldLoad)), (q_heldIs, .inl (cI, 6, .inl m_heldIs)), (q_gains, .inl (cI, 50, .inl m_gains)), (q_value, .inl (cI, 16, .inl m_value))] H locs := w
  refine lv_iload_n hx hb dX5_judge_5 rfl (lv_at hl 1 rfl) ?_
  refine lv_i2l (v := (Int32.toInt64 a1)) hx hb dX5_judge_6 rfl ?_
  refine lv_lconst (v := 1) hx hb dX5_judge_7 (by decide) ?_
  refine lv_ldc2 hx hb hown (hg _ w_684) dX5_judge_8 ?_
  replace hf := ob_at hf
  obtain ⟨r7, er7, hf⟩ := hf
  refine k_goI0 w [] rfl (va_runS (As := [.long (Int32.toInt64 a1), .long 1, .long 4]) (rest := []) ⟨hx, hb, hml, hown, hg⟩ (tX5_in l D cI cZ b0 tt (Int32.toInt64 a1) 1 4 er7 H.size) (va_cwS 3 hg (gwS w_574 w_575 w_7 w_576) rfl rfl rfl qdX5_in ⟨Nat.le_of_ble_eq_true rfl, Nat.le_of_ble_eq_true rfl⟩) (k_preS w [] (by decide) rfl) rfl rfl hl.1 rfl (lv_room (Nat.le_of_ble_eq_true rfl)) dX5_judge_11 ⟨Nat.le_refl _, Nat.le_refl _⟩) (fun H locs w => ?_)
  refine lv_if_eq (tgt := 34) hx hb dX5_judge_14 (by decide) (fun c8 => ?_) (fun c8 => ?_)
  · replace hf := ite_t c8 hf
    refine lv_bipush (v := (-2)) hx hb dX5_judge_34 (by decide) ?_
    exact k_iret (u := (0, m_trial, m_loads)) hx hb hr hlk w rfl hf dX5_judge_36
  · replace hf := ite_f c8 hf
    refine lv_lload_n hx hb dX5_judge_17 rfl (lv_at hl 2 rfl) ?_
    refine lv_lconst (v := 0) hx hb dX5_judge_18 (by decide) ?_
    refine lv_ldc2 hx hb hown (hg _ w_756) dX5_judge_19 ?_
    refine lv_iload_n hx hb dX5_judge_22 rfl (lv_at hl 1 rfl) ?_
    replace hf := ob_at hf
    obtain ⟨r9, er9, hf⟩ := hf
    refine k_goL0 w [] rfl (va_runS (As := [.long 10000, .int a1]) (rest := [.long 0, .long a2]) ⟨hx, hb, hml, hown, hg⟩ (tX5_longPower l D cI cZ b0 tt 10000 a1 er9 H.size) (va_cwS 2 hg (gwS w_757 w_758 w_7 w_759) rfl rfl rfl qdX5_longPower ⟨Nat.le_of_ble_eq_true rfl, Nat.le_of_ble_eq_true rfl⟩) (k_preS w [] (by decide) rfl) rfl rfl hl.1 rfl (lv_room (Nat.le_of_ble_eq_true rfl)) dX5_judge_23 ⟨Nat.le_refl _, Nat.le_refl _⟩) (fun H locs w => ?_)
    refine lv_lconst (v := 1) hx hb dX5_judge_26 (by decide) ?_
    refine lv_lsub hx hb dX5_judge_27 ?_
    replace hf := ob_at hf
    obtain ⟨r10, er10, hf⟩ := hf
    refine k_goI0 w [] rfl (va_runS (As := [.long a2, .long 0, .long (r9 - (1 : Int64))]) (rest := []) ⟨hx, hb, hml, hown, hg⟩ (tX5_in l D cI cZ b0 tt a2 0 (r9 - (1 : Int64)) er10 H.size) (va_cwS 3 hg (gwS w_574 w_575 w_7 w_576) rfl rfl rfl qdX5_in ⟨Nat.le_of_ble_eq_true rfl, Nat.le_of_ble_eq_true rfl⟩) (k_preS w [] (by decide) rfl) rfl rfl hl.1 rfl (lv_room (Nat.le_of_ble_eq_true rfl)) dX5_judge_28 ⟨Nat.le_refl _, Nat.le_refl _⟩) (fun H locs w => ?_)
    refine lv_if_ne (tgt := 37) hx hb dX5_judge_31 (by decide) (fun c11 => ?_) (fun c11 => ?_)
    · replace hf := ite_f c11 hf
      refine lv_aload_n hx hb dX5_judge_37 rfl (lv_at hl 0 rfl) ?_
      replace hf := ob_at hf
      obtain ⟨r12, er12, hf⟩ := hf
      refine k_goV (v0 := m_trial) (res := r12) w [0, 1, 2, 3, 4, 5, 6, 7, 8, 9, 10, 11, 12, 13, 14, 15, 16] rfl (fun _ => rfl) (va_runV (As := []) (rest := []) ⟨hx, hb, hml, hown, hg⟩ (tX5_begin l D cI cZ b0 tt m_a q_text q_cards q_readCards q_readPage q_page q_trial q_loads q_book q_kept q_isKept q_heldWho q_heldForce q_heldLoad q_heldIs q_gains q_value 0 m_textSize m_place m_acts m_held m_seed m_tentMany m_tentFirst m_restMany m_restFirst m_text m_cards m_readCards m_readPage m_page m_trial m_loads m_book m_kept m_isKept m_heldWho m_heldForce m_heldLoad m_heldIs m_gains m_value er12 H.size) (cwV 0 hg (gwV w_749 w_750 w_861 w_7 w_751) rfl rfl rfl ⟨rfl, qdX5_begin⟩ ⟨Nat.le_of_ble_eq_true rfl, Nat.le_of_ble_eq_true rfl⟩) (k_preV w [0, 1, 2, 3, 4, 5, 6, 7, 8, 9, 10, 11, 12, 13, 14, 15, 16] (by decide) rfl (q0 := 0) rfl rfl) rfl rfl hl.1 rfl (lv_room (Nat.le_of_ble_eq_true rfl)) dX5_judge_38 ⟨Nat.le_refl _, Nat.le_refl _⟩) (fun H locs w => ?_)
      have w : Wd D cI cZ b0 tt A s [(m_a, .inr (5, [.int 0, .ref q_text, .int m_textSize, .int m_place, .ref q_cards, .ref q_readCards, .ref q_readPage, .ref q_page, .ref q_trial, .ref q_loads, .ref q_book, .int m_acts, .ref q_kept, .ref q_isKept, .int m_held, .ref q_heldWho, .ref q_heldForce, .ref q_heldLoad, .ref q_heldIs, .long m_seed, .int m_tentMany, .int m_tentFirst, .int m_restMany, .int m_restFirst, .ref q_gains, .ref q_value])), (q_text, .inl (cI, 56, .inl m_text)), (q_cards, .inl (cI, 4, .inl m_cards)), (q_readCards, .inl (cI, 4, .inl m_readCards)), (q_readPage, .inl (cI, 17, .inl m_readPage)), (q_page, .inl (cI, 17, .inl m_page)), (q_trial, .inl (cI, 17, .inl r12)), (q_loads, .inl (cI, 16, .inl m_loads)), (q_book, .inl (cI, 238, .inl m_book)), (q_kept, .inl (cI, 34, .inl m_kept)), (q_isKept, .inl (cZ, 2, .inl m_isKept)), (q_heldWho, .inl (cI, 6, .inl m_heldWho)), (q_heldForce, .inl (cI, 6, .inl m_heldForce)), (q_heldLoad, .inl (cI, 6, .inl m_heldLoad)), (q_heldIs, .inl (cI, 6, .inl m_heldIs)), (q_gains, .inl (cI, 50, .inl m_gains)), (q_value, .inl (cI, 16, .inl m_value))] H locs := w
      refine lv_iconst (v := 0) hx hb dX5_judge_41 (by decide) ?_
      refine lv_istore (lv' := [(4, .int 0), (0, .ref m_a), (1, .int a1), (2, .long a2)]) hx hb dX5_judge_42 hl (by decide) rfl (fun ls hl => ?_)
      exact tX5_judge_L44 (v1 := a1) (v2 := a2) (m_thrown := 0) (m_cards := m_cards) (m_page := m_page) (m_textSize := m_textSize) (m_place := m_place) (m_acts := m_acts) (m_held := m_held) (m_seed := m_seed) (m_tentMany := m_tentMany) (m_tentFirst := m_tentFirst) (m_restMany := m_restMany) (m_restFirst := m_restFirst) (m_text := m_text) (m_readCards := m_readCards) (m_readPage := m_readPage) (m_book := m_book) (m_kept := m_kept) (m_isKept := m_isKept) (m_heldWho := m_heldWho) (m_heldForce := m_heldForce) (m_heldLoad := m_heldLoad) (m_heldIs := m_heldIs) (m_gains := m_gains) (m_value := m_value) (C := C) FU 0 r12 m_loads H locs ls hf w (lv_sub hl [1, 2, 3, 0] rfl)
    · replace hf := ite_t c11 hf
      refine lv_bipush (v := (-2)) hx hb dX5_judge_34 (by decide) ?_
      exact k_iret (u := (0, m_trial, m_loads)) hx hb hr hlk w rfl hf dX5_judge_36
-- X5_ways
def fX5_ways_L4   (v0 : Int32) : Nat → Int32 → Int32 → Option (Int32)
  | 0, _, _ => none
  | n + 1, v1, v2 => (if v0 < v2 then some v1 else nm (v1 * v2) (fun z2 => nm (v2 + 1) (fun z3 => fX5_ways_L4 v0 n z2 z3)))
set_option maxRecDepth 100000 in
set_option maxHeartbeats 4000000 in
theorem tX5_ways_L4 {p : Program} {l : Launch} {e : Env} {s : State} {m : MethodId} {args : Array Value} {below : List Frame} {meth : Method} {c : Code} {D : va_G} {cI cZ : ClassId} {b0 : Nat} {tt : Nat → Nat} {A : Nat → Prop}    {v0 : Int32} {res : Int32} (C : Cx p s m args meth c cX5_ways 3 (some .int) (cwX5_ways :: GW) RX5) : ∀ (n : Nat) (v1 : Int32) (v2 : Int32) (H : Heap) (locs : List Loc) (ls : Array Slot), fX5_ways_L4 v0 n v1 v2 = some res → Wd D cI cZ b0 tt A s [] H locs → lv_has ls 3 [(0, .int v0), (1, .int v1), (2, .int v2)] → W p l e (rmo 0 0) s m args below meth c H locs 0 0 (MQ below (QI D (fun _ : Unit => []) A (res, ())) args s 0 0 A) (F0 m 4 ls []) := by
  obtain ⟨hx, hb, hr, hml, hown, hts, hlk⟩ := id C
  have hg : ∀ w ∈ GW, w.before args s = true := fun w h => hts w (List.mem_cons_of_mem _ h)
  intro n
  induction n with
  | zero =>
    intro _ _ H locs ls hf
    rw [fX5_ways_L4] at hf
    cases hf
  | succ n ih =>
    intro v1 v2 H locs ls hf w hl
    rw [fX5_ways_L4] at hf
    refine lv_iload_n hx hb dX5_ways_4 rfl (lv_at hl 2 rfl) ?_
    refine lv_iload_n hx hb dX5_ways_5 rfl (lv_at hl 0 rfl) ?_
    refine lv_icmp_gt (tgt := 19) hx hb dX5_ways_6 (by decide) (fun c1 => ?_) (fun c1 => ?_)
    · replace hf := ite_t c1 hf
      refine lv_iload_n hx hb dX5_ways_19 rfl (lv_at hl 1 rfl) ?_
      exact k_iret (u := ()) hx hb hr hlk w rfl (k_ret1 hf) dX5_ways_20
    · replace hf := ite_f c1 hf
      refine lv_iload_n hx hb dX5_ways_9 rfl (lv_at hl 1 rfl) ?_
      refine lv_iload_n hx hb dX5_ways_10 rfl (lv_at hl 2 rfl) ?_
      refine lv_imul hx hb dX5_ways_11 ?_
      refine lv_topi (fun z2 ez2 => ?_)
      replace hf := nm_at ez2 hf
      refine lv_istore_n (lv' := [(1, .int z2), (0, .int v0), (2, .int v2)]) hx hb dX5_ways_12 rfl hl (by decide) rfl (fun ls hl => ?_)
      obtain ⟨z3, ez3⟩ : ∃ y : Int32, y = (v2 + 1) := ⟨_, rfl⟩
      replace hf := nm_at ez3 hf
      refine lv_iinc (v := z3) (lv' := [(2, .int z3), (1, .int z2), (0, .int v0)]) hx hb dX5_ways_13 hl (k := 2) rfl (by rw [ez3]; rfl) (by decide) rfl (fun ls hl => ?_)
      refine lv_goto (tgt := 4) hx hb dX5_ways_16 (by decide) ?_
      exact ih z2 z3 H locs ls hf w (lv_sub hl [2, 1, 0] rfl)
def fX5_ways  (a1 : Int32) : Option (Int32) := fX5_ways_L4 a1 FU 1 2
set_option maxRecDepth 100000 in
set_option maxHeartbeats 4000000 in
theorem tX5_ways (l : Launch) (D : va_G) (cI cZ : ClassId) (b0 : Nat) (tt : Nat → Nat)    (a1 : Int32) {res : Int32} (hf : fX5_ways a1 = some res) : CtI l yX5_ways (cwX5_ways :: GW) 0 0 D cI cZ b0 tt [.int a1] (fun _ : Unit => []) () (res, ()) := by
  intro sz
  refine k_begin (cc := cX5_ways) (maxL := 3) (ret := (some .int)) (by decide) rfl (Nat.le_of_ble_eq_true rfl) ?_
  intro p e s m below meth c ls C w hl
  generalize va_A _ sz = A at w ⊢
  have w : Wd D cI cZ b0 tt A s [] s.heap [] := w
  have hl : lv_has ls 3 [(0, .int a1)] := hl
  obtain ⟨H, eH⟩ : ∃ H, H = s.heap := ⟨_, rfl⟩
  rw [← eH] at w ⊢
  generalize ([] : List Loc) = locs at w ⊢
  generalize List.toArray _ = args at C ⊢
  obtain ⟨hx, hb, hr, hml, hown, hts, hlk⟩ := id C
  have hg : ∀ w ∈ GW, w.before args s = true := fun w h => hts w (List.mem_cons_of_mem _ h)
  unfold fX5_ways at hf
  refine lv_iconst (v := 1) hx hb dX5_ways_0 (by decide) ?_
  refine lv_istore_n (lv' := [(1, .int 1), (0, .int a1)]) hx hb dX5_ways_1 rfl hl (by decide) rfl (fun ls hl => ?_)
  refine lv_iconst (v := 2) hx hb dX5_ways_2 (by decide) ?_
  refine lv_istore_n (lv' := [(2, .int 2), (1, .int 1), (0, .int a1)]) hx hb dX5_ways_3 rfl hl (by decide) rfl (fun ls hl => ?_)
  exact tX5_ways_L4 (v0 := a1) (C := C) FU 1 2 H locs ls hf w (lv_sub hl [2, 1, 0] rfl)
-- X5_divisor
def fX5_divisor_L13   (v0 : Int32) (v1 : Int32) : Nat → Int32 → Int32 → Option (Int32)
  | 0, _, _ => none
  | n + 1, v2, v3 => (if v3 = 0 then some v2 else dz v3 (nm (v2 - v2 / v3 * v3) (fun z3 => fX5_divisor_L13 v0 v1 n v3 z3)))
set_option maxRecDepth 100000 in
set_option maxHeartbeats 4000000 in
theorem tX5_divisor_L13 {p : Program} {l : Launch} {e : Env} {s : State} {m : MethodId} {args : Array Value} {below : List Frame} {meth : Method} {c : Code} {D : va_G} {cI cZ : ClassId} {b0 : Nat} {tt : Nat → Nat} {A : Nat → Prop}    {v0 : Int32} {v1 : Int32} {res : Int32} (C : Cx p s m args meth c cX5_divisor 5 (some .int) (cwX5_divisor :: GW) RX5) : ∀ (n : Nat) (v2 : Int32) (v3 : Int32) (H : Heap) (locs : List Loc) (ls : Array Slot), fX5_divisor_L13 v0 v1 n v2 v3 = some res → Wd D cI cZ b0 tt A s [] H locs → lv_has ls 5 [(0, .int v0), (1, .int v1), (2, .int v2), (3, .int v3)] → W p l e (rmo 0 0) s m args below meth c H locs 0 0 (MQ below (QI D (fun _ : Unit => []) A (res, ())) args s 0 0 A) (F0 m 13 ls []) := by
  obtain ⟨hx, hb, hr, hml, hown, hts, hlk⟩ := id C
  have hg : ∀ w ∈ GW, w.before args s = true := fun w h => hts w (List.mem_cons_of_mem _ h)
  intro n
  induction n with
  | zero =>
    intro _ _ H locs ls hf
    rw [fX5_divisor_L13] at hf
    cases hf
  | succ n ih =>
    intro v2 v3 H locs ls hf w hl
    rw [fX5_divisor_L13] at hf
    refine lv_iload_n hx hb dX5_divisor_13 rfl (lv_at hl 3 rfl) ?_
    refine lv_if_eq (tgt := 30) hx hb dX5_divisor_14 (by decide) (fun c1 => ?_) (fun c1 => ?_)
    · replace hf := ite_t c1 hf
      refine lv_iload_n hx hb dX5_divisor_30 rfl (lv_at hl 2 rfl) ?_
      exact k_iret (u := ()) hx hb hr hlk w rfl (k_ret1 hf) dX5_divisor_31
    · replace hf := ite_f c1 hf
      refine lv_iload_n hx hb dX5_divisor_17 rfl (lv_at hl 2 rfl) ?_
      refine lv_iload_n hx hb dX5_divisor_18 rfl (lv_at hl 3 rfl) ?_
      obtain ⟨hz2, hf⟩ := dz_at hf
      refine lv_irem hx hb dX5_divisor_19 hz2 ?_
      refine lv_topi (fun z3 ez3 => ?_)
      replace hf := nm_at ez3 hf
      refine lv_istore (lv' := [(4, .int z3), (0, .int v0), (1, .int v1), (2, .int v2), (3, .int v3)]) hx hb dX5_divisor_20 hl (by decide) rfl (fun ls hl => ?_)
      refine lv_iload_n hx hb dX5_divisor_22 rfl (lv_at hl 4 rfl) ?_
      refine lv_istore_n (lv' := [(2, .int v3), (4, .int z3), (0, .int v0), (1, .int v1), (3, .int v3)]) hx hb dX5_divisor_23 rfl hl (by decide) rfl (fun ls hl => ?_)
      refine lv_iload hx hb dX5_divisor_24 (lv_at hl 1 rfl) ?_
      refine lv_istore_n (lv' := [(3, .int z3), (2, .int v3), (4, .int z3), (0, .int v0), (1, .int v1)]) hx hb dX5_divisor_26 rfl hl (by decide) rfl (fun ls hl => ?_)
      refine lv_goto (tgt := 13) hx hb dX5_divisor_27 (by decide) ?_
      exact ih v3 z3 H locs ls hf w (lv_sub hl [3, 4, 1, 0] rfl)
def fX5_divisor  (a1 : Int32) (a2 : Int32) : Option (Int32) := (if 0 ≤ a1 then fX5_divisor_L13 a1 a2 FU a1 a2 else nm (-a1) (fun z5 => fX5_divisor_L13 a1 a2 FU z5 a2))
set_option maxRecDepth 100000 in
set_option maxHeartbeats 4000000 in
theorem tX5_divisor (l : Launch) (D : va_G) (cI cZ : ClassId) (b0 : Nat) (tt : Nat → Nat)    (a1 : Int32) (a2 : Int32) {res : Int32} (hf : fX5_divisor a1 a2 = some res) : CtI l yX5_divisor (cwX5_divisor :: GW) 0 0 D cI cZ b0 tt [.int a1, .int a2] (fun _ : Unit => []) () (res, ()) := by
  intro sz
  refine k_begin (cc := cX5_divisor) (maxL := 5) (ret := (some .int)) (by decide) rfl (Nat.le_of_ble_eq_true rfl) ?_
  intro p e s m below meth c ls C w hl
  generalize va_A _ sz = A at w ⊢
  have w : Wd D cI cZ b0 tt A s [] s.heap [] := w
  have hl : lv_has ls 5 [(0, .int a1), (1, .int a2)] := hl
  obtain ⟨H, eH⟩ : ∃ H, H = s.heap := ⟨_, rfl⟩
  rw [← eH] at w ⊢
  generalize ([] : List Loc) = locs at w ⊢
  generalize List.toArray _ = args at C ⊢
  obtain ⟨hx, hb, hr, hml, hown, hts, hlk⟩ := id C
  have hg : ∀ w ∈ GW, w.before args s = true := fun w h => hts w (List.mem_cons_of_mem _ h)
  unfold fX5_divisor at hf
  refine lv_iload_n hx hb dX5_divisor_0 rfl (lv_at hl 0 rfl) ?_
  refine lv_if_ge (tgt := 9) hx hb dX5_divisor_1 (by decide) (fun c4 => ?_) (fun c4 => ?_)
  · replace hf := ite_t c4 hf
    refine lv_iload_n hx hb dX5_divisor_9 rfl (lv_at hl 0 rfl) ?_
    refine lv_istore_n (lv' := [(2, .int a1), (0, .int a1), (1, .int a2)]) hx hb dX5_divisor_10 rfl hl (by decide) rfl (fun ls hl => ?_)
    refine lv_iload_n hx hb dX5_divisor_11 rfl (lv_at hl 2 rfl) ?_
    refine lv_istore_n (lv' := [(3, .int a2), (2, .int a1), (0, .int a1), (1, .int a2)]) hx hb dX5_divisor_12 rfl hl (by decide) rfl (fun ls hl => ?_)
    exact tX5_divisor_L13 (v0 := a1) (v1 := a2) (C := C) FU a1 a2 H locs ls hf w (lv_sub hl [2, 3, 1, 0] rfl)
  · replace hf := ite_f c4 hf
    refine lv_iload_n hx hb dX5_divisor_4 rfl (lv_at hl 0 rfl) ?_
    refine lv_ineg hx hb dX5_divisor_5 ?_
    refine lv_goto (tgt := 10) hx hb dX5_divisor_6 (by decide) ?_
    refine lv_topi (fun z5 ez5 => ?_)
    replace hf := nm_at ez5 hf
    refine lv_istore_n (lv' := [(2, .int z5), (0, .int a1), (1, .int a2)]) hx hb dX5_divisor_10 rfl hl (by decide) rfl (fun ls hl => ?_)
    refine lv_iload_n hx hb dX5_divisor_11 rfl (lv_at hl 2 rfl) ?_
    refine lv_istore_n (lv' := [(3, .int a2), (2, .int z5), (0, .int a1), (1, .int a2)]) hx hb dX5_divisor_12 rfl hl (by decide) rfl (fun ls hl => ?_)
    exact tX5_divisor_L13 (v0 := a1) (v1 := a2) (C := C) FU z5 a2 H locs ls hf w (lv_sub hl [2, 3, 1, 0] rfl)
-- X5_fraction
def fX5_fraction  (a1 : Int32) (a2 : Int32) (a3 : Int32) : Option (Int32) := ob (fX5_divisor a1 a2) (fun r1 => (if a3 = 0 then dz r1 (some (a2 / r1)) else dz r1 (some (a1 / r1))))
set_option maxRecDepth 100000 in
set_option maxHeartbeats 4000000 in
theorem tX5_fraction (l : Launch) (D : va_G) (cI cZ : ClassId) (b0 : Nat) (tt : Nat → Nat)    (a1 : Int32) (a2 : Int32) (a3 : Int32) {res : Int32} (hf : fX5_fraction a1 a2 a3 = some res) : CtI l yX5_fraction (cwX5_fraction :: GW) 1 24 D cI cZ b0 tt [.int a1, .int a2, .int a3] (fun _ : Unit => []) () (res, ()) := by
  intro sz
  refine k_begin (cc := cX5_fraction) (maxL := 4) (ret := (some .int)) (by decide) rfl (Nat.le_of_ble_eq_true rfl) ?_
  intro p e s m below meth c ls C w hl
  generalize va_A _ sz = A at w ⊢
  have w : Wd D cI cZ b0 tt A s [] s.heap [] := w
  have hl : lv_has ls 4 [(0, .int a1), (1, .int a2), (2, .int a3)] := hl
  obtain ⟨H, eH⟩ : ∃ H, H = s.heap := ⟨_, rfl⟩
  rw [← eH] at w ⊢
  generalize ([] : List Loc) = locs at w ⊢
  generalize List.toArray _ = args at C ⊢
  obtain ⟨hx, hb, hr, hml, hown, hts, hlk⟩ := id C
  have hg : ∀ w ∈ GW, w.before args s = true := fun w h => hts w (List.mem_cons_of_mem _ h)
  unfold fX5_fraction at hf
  refine lv_iload_n hx hb dX5_fraction_0 rfl (lv_at hl 0 rfl) ?_
  refine lv_iload_n hx hb dX5_fraction_1 rfl (lv_at hl 1 rfl) ?_
  replace hf := ob_at hf
  obtain ⟨r1, er1, hf⟩ := hf
  refine k_goI0 w [] rfl (va_runS (As := [.int a1, .int a2]) (rest := []) ⟨hx, hb, hml, hown, hg⟩ (tX5_divisor l D cI cZ b0 tt a1 a2 er1 H.size) (va_cwS 2 hg (gwS w_782 w_783 w_7 w_784) rfl rfl rfl qdX5_divisor ⟨Nat.le_of_ble_eq_true rfl, Nat.le_of_ble_eq_true rfl⟩) (k_preS w [] (by decide) rfl) rfl rfl hl.1 rfl (lv_room (Nat.le_of_ble_eq_true rfl)) dX5_fraction_2 ⟨Nat.le_refl _, Nat.le_refl _⟩) (fun H locs w => ?_)
  refine lv_istore_n (lv' := [(3, .int r1), (0, .int a1), (1, .int a2), (2, .int a3)]) hx hb dX5_fraction_5 rfl hl (by decide) rfl (fun ls hl => ?_)
  refine lv_iload_n hx hb dX5_fraction_6 rfl (lv_at hl 3 rfl) ?_
  refine lv_if_eq (tgt := 16) hx hb dX5_fraction_7 (by decide) (fun c2 => ?_) (fun c2 => ?_)
  · replace hf := ite_t c2 hf
    refine lv_iload_n hx hb dX5_fraction_16 rfl (lv_at hl 2 rfl) ?_
    refine lv_iload_n hx hb dX5_fraction_17 rfl (lv_at hl 0 rfl) ?_
    obtain ⟨hz3, hf⟩ := dz_at hf
    refine lv_idiv hx hb dX5_fraction_18 hz3 ?_
    exact k_iret (u := ()) hx hb hr hlk w rfl (k_ret1 hf) dX5_fraction_19
  · replace hf := ite_f c2 hf
    refine lv_iload_n hx hb dX5_fraction_10 rfl (lv_at hl 1 rfl) ?_
    refine lv_iload_n hx hb dX5_fraction_11 rfl (lv_at hl 0 rfl) ?_
    obtain ⟨hz4, hf⟩ := dz_at hf
    refine lv_idiv hx hb dX5_fraction_12 hz4 ?_
    refine lv_goto (tgt := 19) hx hb dX5_fraction_13 (by decide) ?_
    exact k_iret (u := ()) hx hb hr hlk w rfl (k_ret1 hf) dX5_fraction_19
-- X5_share
def fX5_share_L74   (v1 : Int32) (v2 : Int32) (m_thrown : Int32) (m_page : Nat → Int32) (m_value : Nat → Int32) : Nat → Int32 → Int32 → Option (Int32 × Int32 × (Nat → Int32))
  | 0, _, _ => none
  | n + 1, v3, v4 => (if 16 ≤ v4 then ob (fX5_ways 4) (fun r2 => ob (fX5_fraction v3 r2 v2) (fun r3 => some (r3, (m_thrown, m_value)))) else ob (fX5_has v4 v1) (fun r4 => (if r4 = 0 then ob (fX5_many v4) (fun r7 => ob (fX5_ways r7) (fun r8 => ob (fX5_ways ((3 : Int32) - r7)) (fun r9 => gd (v4 ||| ((1 : Int32) <<< (v1 &&& 31))) 16 (gd v4 16 (nm (v3 + ((r8 * r9) * ((m_value (Int32.toNatClampNeg (v4 ||| ((1 : Int32) <<< (v1 &&& 31))))) - (m_value (Int32.toNatClampNeg v4))))) (fun z12 => nm (v4 + 1) (fun z13 => fX5_share_L74 v1 v2 m_thrown m_page m_value n z12 z13))))))) else nm (v4 + 1) (fun z6 => fX5_share_L74 v1 v2 m_thrown m_page m_value n v3 z6))))
set_option maxRecDepth 100000 in
set_option maxHeartbeats 4000000 in
theorem tX5_share_L74 {p : Program} {l : Launch} {e : Env} {s : State} {m : MethodId} {args : Array Value} {below : List Frame} {meth : Method} {c : Code} {D : va_G} {cI cZ : ClassId} {b0 : Nat} {tt : Nat → Nat} {A : Nat → Prop}  {m_a q_text q_cards q_readCards q_readPage q_page q_trial q_loads q_book q_kept q_isKept q_heldWho q_heldForce q_heldLoad q_heldIs q_gains q_value : Nat}  {v1 : Int32} {v2 : Int32} {m_thrown : Int32} {m_page : Nat → Int32} {m_value : Nat → Int32} {m_textSize : Int32} {m_place : Int32} {m_acts : Int32} {m_held : Int32} {m_seed : Int64} {m_tentMany : Int32} {m_tentFirst : Int32} {m_restMany : Int32} {m_restFirst : Int32} {m_text : Nat → Int32} {m_cards : Nat → Int32} {m_readCards : Nat → Int32} {m_readPage : Nat → Int32} {m_trial : Nat → Int32} {m_loads : Nat → Int32} {m_book : Nat → Int32} {m_kept : Nat → Int32} {m_isKept : Nat → Int32} {m_heldWho : Nat → Int32} {m_heldForce : Nat → Int32} {m_heldLoad : Nat → Int32} {m_heldIs : Nat → Int32} {m_gains : Nat → Int32} {res : Int32 × Int32 × (Nat → Int32)} (C : Cx p s m args meth c cX5_share 6 (some .int) (cwX5_share :: GW) RX5) : ∀ (n : Nat) (v3 : Int32) (v4 : Int32) (H : Heap) (locs : List Loc) (ls : Array Slot), fX5_share_L74 v1 v2 m_thrown m_page m_value n v3 v4 = some res → Wd D cI cZ b0 tt A s [(m_a, .inr (5, [.int m_thrown, .ref q_text, .int m_textSize, .int m_place, .ref q_cards, .ref q_readCards, .ref q_readPage, .ref q_page, .ref q_trial, .ref q_loads, .ref q_book, .int m_acts, .ref q_kept, .ref q_isKept, .int m_held, .ref q_heldWho, .ref q_heldForce, .ref q_heldLoad, .ref q_heldIs, .long m_seed, .int m_tentMany, .int m_tentFirst, .int m_restMany, .int m_restFirst, .ref q_gains, .ref q_value])), (q_text, .inl (cI, 56, .inl m_text)), (q_cards, .inl (cI, 4, .inl m_cards)), (q_readCards, .inl (cI, 4, .inl m_readCards)), (q_readPage, .inl (cI, 17, .inl m_readPage)), (q_page, .inl (cI, 17, .inl m_page)), (q_trial, .inl (cI, 17, .inl m_trial)), (q_loads, .inl (cI, 16, .inl m_loads)), (q_book, .inl (cI, 238, .inl m_book)), (q_kept, .inl (cI, 34, .inl m_kept)), (q_isKept, .inl (cZ, 2, .inl m_isKept)), (q_heldWho, .inl (cI, 6, .inl m_heldWho)), (q_heldForce, .inl (cI, 6, .inl m_heldForce)), (q_heldLoad, .inl (cI, 6, .inl m_heldLoad)), (q_heldIs, .inl (cI, 6, .inl m_heldIs)), (q_gains, .inl (cI, 50, .inl m_gains)), (q_value, .inl (cI, 16, .inl m_value))] H locs → lv_has ls 6 [(0, .ref m_a), (1, .int v1), (2, .int v2), (3, .int v3), (4, .int v4)] → W p l e (rmo 2 47) s m args below meth c H locs 0 0 (MQ below (QI D (fun u : Int32 × (Nat → Int32) => [(m_a, .inr (5, [.int u.1, .ref q_text, .int m_textSize, .int m_place, .ref q_cards, .ref q_readCards, .ref q_readPage, .ref q_page, .ref q_trial, .ref q_loads, .ref q_book, .int m_acts, .ref q_kept, .ref q_isKept, .int m_held, .ref q_heldWho, .ref q_heldForce, .ref q_heldLoad, .ref q_heldIs, .long m_seed, .int m_tentMany, .int m_tentFirst, .int m_restMany, .int m_restFirst, .ref q_gains, .ref q_value])), (q_text, .inl (cI, 56, .inl m_text)), (q_cards, .inl (cI, 4, .inl m_cards)), (q_readCards, .inl (cI, 4, .inl m_readCards)), (q_readPage, .inl (cI, 17, .inl m_readPage)), (q_page, .inl (cI, 17, .inl m_page)), (q_trial, .inl (cI, 17, .inl m_trial)), (q_loads, .inl (cI, 16, .inl m_loads)), (q_book, .inl (cI, 238, .inl m_book)), (q_kept, .inl (cI, 34, .inl m_kept)), (q_isKept, .inl (cZ, 2, .inl m_isKept)), (q_heldWho, .inl (cI, 6, .inl m_heldWho)), (q_heldForce, .inl (cI, 6, .inl m_heldForce)), (q_heldLoad, .inl (cI, 6, .inl m_heldLoad)), (q_heldIs, .inl (cI, 6, .inl m_heldIs)), (q_gains, .inl (cI, 50, .inl m_gains)), (q_value, .inl (cI, 16, .inl u.2))]) A res) args s 0 0 A) (F0 m 74 ls []) := by
  obtain ⟨hx, hb, hr, hml, hown, hts, hlk⟩ := id C
  have hg : ∀ w ∈ GW, w.before args s = true := fun w h => hts w (List.mem_cons_of_mem _ h)
  intro n
  induction n with
  | zero =>
    intro _ _ H locs ls hf
    rw [fX5_share_L74] at hf
    cases hf
  | succ n ih =>
    intro v3 v4 H locs ls hf w hl
    rw [fX5_share_L74] at hf
    refine lv_iload hx hb dX5_share_74 (lv_at hl 4 rfl) ?_
    refine lv_bipush (v := 16) hx hb dX5_share_76 (by decide) ?_
    refine lv_icmp_ge (tgt := 139) hx hb dX5_share_78 (by decide) (fun c1 => ?_) (fun c1 => ?_)
    · replace hf := ite_t c1 hf
      refine lv_iload_n hx hb dX5_share_139 rfl (lv_at hl 3 rfl) ?_
      refine lv_iconst (v := 4) hx hb dX5_share_140 (by decide) ?_
      replace hf := ob_at hf
      obtain ⟨r2, er2, hf⟩ := hf
      refine k_goI0 w [] rfl (va_runS (As := [.int 4]) (rest := [.int v3]) ⟨hx, hb, hml, hown, hg⟩ (tX5_ways l D cI cZ b0 tt 4 er2 H.size) (va_cwS 1 hg (gwS w_776 w_777 w_7 w_778) rfl rfl rfl qdX5_ways ⟨Nat.le_of_ble_eq_true rfl, Nat.le_of_ble_eq_true rfl⟩) (k_preS w [] (by decide) rfl) rfl rfl hl.1 rfl (lv_room (Nat.le_of_ble_eq_true rfl)) dX5_share_141 ⟨Nat.le_refl _, Nat.le_refl _⟩) (fun H locs w => ?_)
      refine lv_iload_n hx hb dX5_share_144 rfl (lv_at hl 2 rfl) ?_
      replace hf := ob_at hf
      obtain ⟨r3, er3, hf⟩ := hf
      refine k_goI0 w [] rfl (va_runS (As := [.int v3, .int r2, .int v2]) (rest := []) ⟨hx, hb, hml, hown, hg⟩ (tX5_fraction l D cI cZ b0 tt v3 r2 v2 er3 H.size) (va_cwS 3 hg (gwS w_779 w_780 w_7 w_781) rfl rfl rfl qdX5_fraction ⟨Nat.le_of_ble_eq_true rfl, Nat.le_of_ble_eq_true rfl⟩) (k_preS w [] (by decide) rfl) rfl rfl hl.1 rfl (lv_room (Nat.le_of_ble_eq_true rfl)) dX5_share_145 ⟨Nat.le_refl _, Nat.le_refl _⟩) (fun H locs w => ?_)
      exact k_iret (u := (m_thrown, m_value)) hx hb hr hlk w rfl hf dX5_share_148
    · replace hf := ite_f c1 hf
      refine lv_iload hx hb dX5_share_81 (lv_at hl 4 rfl) ?_
      refine lv_iload_n hx hb dX5_share_83 rfl (lv_at hl 1 rfl) ?_
      replace hf := ob_at hf
      obtain ⟨r4, er4, hf⟩ := hf
      refine k_goI0 w [] rfl (va_runS (As := [.int v4, .int v1]) (rest := []) ⟨hx, hb, hml, hown, hg⟩ (tX5_has l D cI cZ b0 tt v4 v1 er4 H.size) (va_cwS 2 hg (gwS w_641 w_642 w_7 w_643) rfl rfl rfl qdX5_has ⟨Nat.le_of_ble_eq_true rfl, Nat.le_of_ble_eq_true rfl⟩) (k_preS w [] (by decide) rfl) rfl rfl hl.1 rfl (lv_room (Nat.le_of_ble_eq_true rfl)) dX5_share_84 ⟨Nat.le_refl _, Nat.le_refl _⟩) (fun H locs w => ?_)
      refine lv_if_ne (tgt := 133) hx hb dX5_share_87 (by decide) (fun c5 => ?_) (fun c5 => ?_)
      · replace hf := ite_f c5 hf
        obtain ⟨z6, ez6⟩ : ∃ y : Int32, y = (v4 + 1) := ⟨_, rfl⟩
        replace hf := nm_at ez6 hf
        refine lv_iinc (v := z6) (lv' := [(4, .int z6), (0, .ref m_a), (1, .int v1), (2, .int v2), (3, .int v3)]) hx hb dX5_share_133 hl (k := 4) rfl (by rw [ez6]; rfl) (by decide) rfl (fun ls hl => ?_)
        refine lv_goto (tgt := 74) hx hb dX5_share_136 (by decide) ?_
        exact ih v3 z6 H locs ls hf w (lv_sub hl [1, 2, 3, 4, 0] rfl)
      · replace hf := ite_t c5 hf
        refine lv_iload hx hb dX5_share_90 (lv_at hl 4 rfl) ?_
        replace hf := ob_at hf
        obtain ⟨r7, er7, hf⟩ := hf
        refine k_goI0 w [] rfl (va_runS (As := [.int v4]) (rest := []) ⟨hx, hb, hml, hown, hg⟩ (tX5_many l D cI cZ b0 tt v4 er7 H.size) (va_cwS 1 hg (gwS w_653 w_654 w_7 w_655) rfl rfl rfl qdX5_many ⟨Nat.le_of_ble_eq_true rfl, Nat.le_of_ble_eq_true rfl⟩) (k_preS w [] (by decide) rfl) rfl rfl hl.1 rfl (lv_room (Nat.le_of_ble_eq_true rfl)) dX5_share_92 ⟨Nat.le_refl _, Nat.le_refl _⟩) (fun H locs w => ?_)
        refine lv_istore (lv' := [(5, .int r7), (0, .ref m_a), (1, .int v1), (2, .int v2), (3, .int v3), (4, .int v4)]) hx hb dX5_share_95 hl (by decide) rfl (fun ls hl => ?_)
        refine lv_iload_n hx hb dX5_share_97 rfl (lv_at hl 4 rfl) ?_
        refine lv_iload hx hb dX5_share_98 (lv_at hl 0 rfl) ?_
        replace hf := ob_at hf
        obtain ⟨r8, er8, hf⟩ := hf
        refine k_goI0 w [] rfl (va_runS (As := [.int r7]) (rest := [.int v3]) ⟨hx, hb, hml, hown, hg⟩ (tX5_ways l D cI cZ b0 tt r7 er8 H.size) (va_cwS 1 hg (gwS w_776 w_777 w_7 w_778) rfl rfl rfl qdX5_ways ⟨Nat.le_of_ble_eq_true rfl, Nat.le_of_ble_eq_true rfl⟩) (k_preS w [] (by decide) rfl) rfl rfl hl.1 rfl (lv_room (Nat.le_of_ble_eq_true rfl)) dX5_share_100 ⟨Nat.le_refl _, Nat.le_refl _⟩) (fun H locs w => ?_)
        refine lv_iconst (v := 3) hx hb dX5_share_103 (by decide) ?_
        refine lv_iload hx hb dX5_share_104 (lv_at hl 0 rfl) ?_
        refine lv_isub hx hb dX5_share_106 ?_
        replace hf := ob_at hf
        obtain ⟨r9, er9, hf⟩ := hf
        refine k_goI0 w [] rfl (va_runS (As := [.int ((3 : Int32) - r7)]) (rest := [.int r8, .int v3]) ⟨hx, hb, hml, hown, hg⟩ (tX5_ways l D cI cZ b0 tt ((3 : Int32) - r7) er9 H.size) (va_cwS 1 hg (gwS w_776 w_777 w_7 w_778) rfl rfl rfl qdX5_ways ⟨Nat.le_of_ble_eq_true rfl, Nat.le_of_ble_eq_true rfl⟩) (k_preS w [] (by decide) rfl) rfl rfl hl.1 rfl (lv_room (Nat.le_of_ble_eq_true rfl)) dX5_share_107 ⟨Nat.le_refl _, Nat.le_refl _⟩) (fun H locs w => ?_)
        refine lv_imul hx hb dX5_share_110 ?_
        refine lv_aload_n hx hb dX5_share_111 rfl (lv_at hl 1 rfl) ?_
        refine va_get (D := D) (ci := 5) (v := .ref q_value) (C := RX5) (T := TX5) (N := 26) hx hb hg iX5 hown w.2.2.2.2.2.2.1 w.1 0 rfl rfl 25 (by decide) (hg _ w_514) (fun _ h9 => h9) rfl dX5_share_112 ?_
        refine lv_iload hx hb dX5_share_115 (lv_at hl 5 rfl) ?_
        refine lv_iconst (v := 1) hx hb dX5_share_117 (by decide) ?_
        refine lv_iload_n hx hb dX5_share_118 rfl (lv_at hl 2 rfl) ?_
        refine lv_ishl hx hb dX5_share_119 ?_
        refine lv_ior hx hb dX5_share_120 ?_
        replace hf := gd_at hf
        obtain ⟨hi10, hf⟩ := hf
        refine va_iald hx hb w.2.2.2.2.2.2.1 w.1 16 0 rfl rfl hi10 dX5_share_121 ?_
        refine lv_aload_n hx hb dX5_share_122 rfl (lv_at hl 1 rfl) ?_
        refine va_get (D := D) (ci := 5) (v := .ref q_value) (C := RX5) (T := TX5) (N := 26) hx hb hg iX5 hown w.2.2.2.2.2.2.1 w.1 0 rfl rfl 25 (by decide) (hg _ w_514) (fun _ h9 => h9) rfl dX5_share_123 ?_
        refine lv_iload hx hb dX5_share_126 (lv_at hl 5 rfl) ?_
        replace hf := gd_at hf
        obtain ⟨hi11, hf⟩ := hf
        refine va_iald hx hb w.2.2.2.2.2.2.1 w.1 16 0 rfl rfl hi11 dX5_share_128 ?_
        refine lv_isub hx hb dX5_share_129 ?_
        refine lv_imul hx hb dX5_share_130 ?_
        refine lv_iadd hx hb dX5_share_131 ?_
        refine lv_topi (fun z12 ez12 => ?_)
        replace hf := nm_at ez12 hf
        refine lv_istore_n (lv' := [(3, .int z12), (5, .int r7), (0, .ref m_a), (1, .int v1), (2, .int v2), (4, .int v4)]) hx hb dX5_share_132 rfl hl (by decide) rfl (fun ls hl => ?_)
        obtain ⟨z13, ez13⟩ : ∃ y : Int32, y = (v4 + 1) := ⟨_, rfl⟩
        replace hf := nm_at ez13 hf
        refine lv_iinc (v := z13) (lv' := [(4, .int z13), (3, .int z12), (5, .int r7), (0, .ref m_a), (1, .int v1), (2, .int v2)]) hx hb dX5_share_133 hl (k := 5) rfl (by rw [ez13]; rfl) (by decide) rfl (fun ls hl => ?_)
        refine lv_goto (tgt := 74) hx hb dX5_share_136 (by decide) ?_
        exact ih z12 z13 H locs ls hf w (lv_sub hl [3, 4, 5, 1, 0] rfl)
def fX5_share_L21   (v1 : Int32) (v2 : Int32) (m_thrown : Int32) (m_page : Nat → Int32) : Nat → Int32 → (Nat → Int32) → Option (Int32 × Int32 × (Nat → Int32))
  | 0, _, _ => none
  | n + 1, v3, m_value => (if 16 ≤ v3 then fX5_share_L74 v1 v2 m_thrown m_page m_value FU 0 0 else ob (fX5_spreadOf m_page ((v3 ^^^ ((-1) : Int32)) &&& (15 : Int32))) (fun r15 => ob (fX5_there m_page) (fun r16 => ob (fX5_many (r16 &&& (r15 ^^^ ((-1) : Int32)))) (fun r17 => gd v3 16 (nm (v3 + 1) (fun z19 => fX5_share_L21 v1 v2 m_thrown m_page n z19 (upd m_value (Int32.toNatClampNeg v3) r17)))))))
set_option maxRecDepth 100000 in
set_option maxHeartbeats 4000000 in
theorem tX5_share_L21 {p : Program} {l : Launch} {e : Env} {s : State} {m : MethodId} {args : Array Value} {below : List Frame} {meth : Method} {c : Code} {D : va_G} {cI cZ : ClassId} {b0 : Nat} {tt : Nat → Nat} {A : Nat → Prop}  {m_a q_text q_cards q_readCards q_readPage q_page q_trial q_loads q_book q_kept q_isKept q_heldWho q_heldForce q_heldLoad q_heldIs q_gains q_value : Nat}  {v1 : Int32} {v2 : Int32} {m_thrown : Int32} {m_page : Nat → Int32} {m_textSize : Int32} {m_place : Int32} {m_acts : Int32} {m_held : Int32} {m_seed : Int64} {m_tentMany : Int32} {m_tentFirst : Int32} {m_restMany : Int32} {m_restFirst : Int32} {m_text : Nat → Int32} {m_cards : Nat → Int32} {m_readCards : Nat → Int32} {m_readPage : Nat → Int32} {m_trial : Nat → Int32} {m_loads : Nat → Int32} {m_book : Nat → Int32} {m_kept : Nat → Int32} {m_isKept : Nat → Int32} {m_heldWho : Nat → Int32} {m_heldForce : Nat → Int32} {m_heldLoad : Nat → Int32} {m_heldIs : Nat → Int32} {m_gains : Nat → Int32} {res : Int32 × Int32 × (Nat → Int32)} (C : Cx p s m args meth c cX5_share 6 (some .int) (cwX5_share :: GW) RX5) : ∀ (n : Nat) (v3 : Int32) (m_value : Nat → Int32) (H : Heap) (locs : List Loc) (ls : Array Slot), fX5_share_L21 v1 v2 m_thrown m_page n v3 m_value = some res → Wd D cI cZ b0 tt A s [(m_a, .inr (5, [.int m_thrown, .ref q_text, .int m_textSize, .int m_place, .ref q_cards, .ref q_readCards, .ref q_readPage, .ref q_page, .ref q_trial, .ref q_loads, .ref q_book, .int m_acts, .ref q_kept, .ref q_isKept, .int m_held, .ref q_heldWho, .ref q_heldForce, .ref q_heldLoad, .ref q_heldIs, .long m_seed, .int m_tentMany, .int m_tentFirst, .int m_restMany, .int m_restFirst, .ref q_gains, .ref q_value])), (q_text, .inl (cI, 56, .inl m_text)), (q_cards, .inl (cI, 4, .inl m_cards)), (q_readCards, .inl (cI, 4, .inl m_readCards)), (q_readPage, .inl (cI, 17, .inl m_readPage)), (q_page, .inl (cI, 17, .inl m_page)), (q_trial, .inl (cI, 17, .inl m_trial)), (q_loads, .inl (cI, 16, .inl m_loads)), (q_book, .inl (cI, 238, .inl m_book)), (q_kept, .inl (cI, 34, .inl m_kept)), (q_isKept, .inl (cZ, 2, .inl m_isKept)), (q_heldWho, .inl (cI, 6, .inl m_heldWho)), (q_heldForce, .inl (cI, 6, .inl m_heldForce)), (q_heldLoad, .inl (cI, 6, .inl m_heldLoad)), (q_heldIs, .inl (cI, 6, .inl m_heldIs)), (q_gains, .inl (cI, 50, .inl m_gains)), (q_value, .inl (cI, 16, .inl m_value))] H locs → lv_has ls 6 [(0, .ref m_a), (1, .int v1), (2, .int v2), (3, .int v3)] → W p l e (rmo 2 47) s m args below meth c H locs 0 0 (MQ below (QI D (fun u : Int32 × (Nat → Int32) => [(m_a, .inr (5, [.int u.1, .ref q_text, .int m_textSize, .int m_place, .ref q_cards, .ref q_readCards, .ref q_readPage, .ref q_page, .ref q_trial, .ref q_loads, .ref q_book, .int m_acts, .ref q_kept, .ref q_isKept, .int m_held, .ref q_heldWho, .ref q_heldForce, .ref q_heldLoad, .ref q_heldIs, .long m_seed, .int m_tentMany, .int m_tentFirst, .int m_restMany, .int m_restFirst, .ref q_gains, .ref q_value])), (q_text, .inl (cI, 56, .inl m_text)), (q_cards, .inl (cI, 4, .inl m_cards)), (q_readCards, .inl (cI, 4, .inl m_readCards)), (q_readPage, .inl (cI, 17, .inl m_readPage)), (q_page, .inl (cI, 17, .inl m_page)), (q_trial, .inl (cI, 17, .inl m_trial)), (q_loads, .inl (cI, 16, .inl m_loads)), (q_book, .inl (cI, 238, .inl m_book)), (q_kept, .inl (cI, 34, .inl m_kept)), (q_isKept, .inl (cZ, 2, .inl m_isKept)), (q_heldWho, .inl (cI, 6, .inl m_heldWho)), (q_heldForce, .inl (cI, 6, .inl m_heldForce)), (q_heldLoad, .inl (cI, 6, .inl m_heldLoad)), (q_heldIs, .inl (cI, 6, .inl m_heldIs)), (q_gains, .inl (cI, 50, .inl m_gains)), (q_value, .inl (cI, 16, .inl u.2))]) A res) args s 0 0 A) (F0 m 21 ls []) := by
  obtain ⟨hx, hb, hr, hml, hown, hts, hlk⟩ := id C
  have hg : ∀ w ∈ GW, w.before args s = true := fun w h => hts w (List.mem_cons_of_mem _ h)
  intro n
  induction n with
  | zero =>
    intro _ _ H locs ls hf
    rw [fX5_share_L21] at hf
    cases hf
  | succ n ih =>
    intro v3 m_value H locs ls hf w hl
    rw [fX5_share_L21] at hf
    refine lv_iload_n hx hb dX5_share_21 rfl (lv_at hl 3 rfl) ?_
    refine lv_bipush (v := 16) hx hb dX5_share_22 (by decide) ?_
    refine lv_icmp_ge (tgt := 69) hx hb dX5_share_24 (by decide) (fun c14 => ?_) (fun c14 => ?_)
    · replace hf := ite_t c14 hf
      refine lv_iconst (v := 0) hx hb dX5_share_69 (by decide) ?_
      refine lv_istore_n (lv' := [(3, .int 0), (0, .ref m_a), (1, .int v1), (2, .int v2)]) hx hb dX5_share_70 rfl hl (by decide) rfl (fun ls hl => ?_)
      refine lv_iconst (v := 0) hx hb dX5_share_71 (by decide) ?_
      refine lv_istore (lv' := [(4, .int 0), (3, .int 0), (0, .ref m_a), (1, .int v1), (2, .int v2)]) hx hb dX5_share_72 hl (by decide) rfl (fun ls hl => ?_)
      exact tX5_share_L74 (v1 := v1) (v2 := v2) (m_thrown := m_thrown) (m_page := m_page) (m_value := m_value) (m_textSize := m_textSize) (m_place := m_place) (m_acts := m_acts) (m_held := m_held) (m_seed := m_seed) (m_tentMany := m_tentMany) (m_tentFirst := m_tentFirst) (m_restMany := m_restMany) (m_restFirst := m_restFirst) (m_text := m_text) (m_cards := m_cards) (m_readCards := m_readCards) (m_readPage := m_readPage) (m_trial := m_trial) (m_loads := m_loads) (m_book := m_book) (m_kept := m_kept) (m_isKept := m_isKept) (m_heldWho := m_heldWho) (m_heldForce := m_heldForce) (m_heldLoad := m_heldLoad) (m_heldIs := m_heldIs) (m_gains := m_gains) (C := C) FU 0 0 H locs ls hf w (lv_sub hl [2, 3, 4, 1, 0] rfl)
    · replace hf := ite_f c14 hf
      refine lv_aload_n hx hb dX5_share_27 rfl (lv_at hl 0 rfl) ?_
      refine va_get (D := D) (ci := 5) (v := .ref q_page) (C := RX5) (T := TX5) (N := 26) hx hb hg iX5 hown w.2.2.2.2.2.2.1 w.1 0 rfl rfl 7 (by decide) (hg _ w_496) (fun _ h9 => h9) rfl dX5_share_28 ?_
      refine lv_iload_n hx hb dX5_share_31 rfl (lv_at hl 3 rfl) ?_
      refine lv_iconst (v := (-1)) hx hb dX5_share_32 (by decide) ?_
      refine lv_ixor hx hb dX5_share_33 ?_
      refine lv_bipush (v := 15) hx hb dX5_share_34 (by decide) ?_
      refine lv_iand hx hb dX5_share_36 ?_
      replace hf := ob_at hf
      obtain ⟨r15, er15, hf⟩ := hf
      refine k_goI0 w [5] rfl (va_runS (As := [.ref q_page, .int ((v3 ^^^ ((-1) : Int32)) &&& (15 : Int32))]) (rest := []) ⟨hx, hb, hml, hown, hg⟩ (tX5_spreadOf l D cI cZ b0 tt q_page m_page ((v3 ^^^ ((-1) : Int32)) &&& (15 : Int32)) er15 H.size) (va_cwS 2 hg (gwS w_650 w_651 w_7 w_652) rfl rfl rfl qdX5_spreadOf ⟨Nat.le_of_ble_eq_true rfl, Nat.le_of_ble_eq_true rfl⟩) (k_preS w [5] (by decide) rfl) rfl rfl hl.1 rfl (lv_room (Nat.le_of_ble_eq_true rfl)) dX5_share_37 ⟨Nat.le_refl _, Nat.le_refl _⟩) (fun H locs w => ?_)
      refine lv_istore (lv' := [(4, .int r15), (0, .ref m_a), (1, .int v1), (2, .int v2), (3, .int v3)]) hx hb dX5_share_40 hl (by decide) rfl (fun ls hl => ?_)
      refine lv_aload_n hx hb dX5_share_42 rfl (lv_at hl 1 rfl) ?_
      refine va_get (D := D) (ci := 5) (v := .ref q_value) (C := RX5) (T := TX5) (N := 26) hx hb hg iX5 hown w.2.2.2.2.2.2.1 w.1 0 rfl rfl 25 (by decide) (hg _ w_514) (fun _ h9 => h9) rfl dX5_share_43 ?_
      refine lv_iload_n hx hb dX5_share_46 rfl (lv_at hl 4 rfl) ?_
      refine lv_aload_n hx hb dX5_share_47 rfl (lv_at hl 1 rfl) ?_
      refine va_get (D := D) (ci := 5) (v := .ref q_page) (C := RX5) (T := TX5) (N := 26) hx hb hg iX5 hown w.2.2.2.2.2.2.1 w.1 0 rfl rfl 7 (by decide) (hg _ w_496) (fun _ h9 => h9) rfl dX5_share_48 ?_
      replace hf := ob_at hf
      obtain ⟨r16, er16, hf⟩ := hf
      refine k_goI0 w [5] rfl (va_runS (As := [.ref q_page]) (rest := [.int v3, .ref q_value]) ⟨hx, hb, hml, hown, hg⟩ (tX5_there l D cI cZ b0 tt q_page m_page er16 H.size) (va_cwS 1 hg (gwS w_606 w_607 w_7 w_608) rfl rfl rfl qdX5_there ⟨Nat.le_of_ble_eq_true rfl, Nat.le_of_ble_eq_true rfl⟩) (k_preS w [5] (by decide) rfl) rfl rfl hl.1 rfl (lv_room (Nat.le_of_ble_eq_true rfl)) dX5_share_51 ⟨Nat.le_refl _, Nat.le_refl _⟩) (fun H locs w => ?_)
      refine lv_iload hx hb dX5_share_54 (lv_at hl 0 rfl) ?_
      refine lv_iconst (v := (-1)) hx hb dX5_share_56 (by decide) ?_
      refine lv_ixor hx hb dX5_share_57 ?_
      refine lv_iand hx hb dX5_share_58 ?_
      replace hf := ob_at hf
      obtain ⟨r17, er17, hf⟩ := hf
      refine k_goI0 w [] rfl (va_runS (As := [.int (r16 &&& (r15 ^^^ ((-1) : Int32)))]) (rest := [.int v3, .ref q_value]) ⟨hx, hb, hml, hown, hg⟩ (tX5_many l D cI cZ b0 tt (r16 &&& (r15 ^^^ ((-1) : Int32))) er17 H.size) (va_cwS 1 hg (gwS w_653 w_654 w_7 w_655) rfl rfl rfl qdX5_many ⟨Nat.le_of_ble_eq_true rfl, Nat.le_of_ble_eq_true rfl⟩) (k_preS w [] (by decide) rfl) rfl rfl hl.1 rfl (lv_room (Nat.le_of_ble_eq_true rfl)) dX5_share_59 ⟨Nat.le_refl _, Nat.le_refl _⟩) (fun H locs w => ?_)
      replace hf := gd_at hf
      obtain ⟨hi18, hf⟩ := hf
      refine k_iast hx hb w 16 rfl hi18 dX5_share_62 (fun H locs w => ?_)
      have w : Wd D cI cZ b0 tt A s [(m_a, .inr (5, [.int m_thrown, .ref q_text, .int m_textSize, .int m_place, .ref q_cards, .ref q_readCards, .ref q_readPage, .ref q_page, .ref q_trial, .ref q_loads, .ref q_book, .int m_acts, .ref q_kept, .ref q_isKept, .int m_held, .ref q_heldWho, .ref q_heldForce, .ref q_heldLoad, .ref q_heldIs, .long m_seed, .int m_tentMany, .int m_tentFirst, .int m_restMany, .int m_restFirst, .ref q_gains, .ref q_value])), (q_text, .inl (cI, 56, .inl m_text)), (q_cards, .inl (cI, 4, .inl m_cards)), (q_readCards, .inl (cI, 4, .inl m_readCards)), (q_readPage, .inl (cI, 17, .inl m_readPage)), (q_page, .inl (cI, 17, .inl m_page)), (q_trial, .inl (cI, 17, .inl m_trial)), (q_loads, .inl (cI, 16, .inl m_loads)), (q_book, .inl (cI, 238, .inl m_book)), (q_kept, .inl (cI, 34, .inl m_kept)), (q_isKept, .inl (cZ, 2, .inl m_isKept)), (q_heldWho, .inl (cI, 6, .inl m_heldWho)), (q_heldForce, .inl (cI, 6, .inl m_heldForce)), (q_heldLoad, .inl (cI, 6, .inl m_heldLoad)), (q_heldIs, .inl (cI, 6, .inl m_heldIs)), (q_gains, .inl (cI, 50, .inl m_gains)), (q_value, .inl (cI, 16, .inl (upd m_value (Int32.toNatClampNeg v3) r17)))] H locs := w
      obtain ⟨z19, ez19⟩ : ∃ y : Int32, y = (v3 + 1) := ⟨_, rfl⟩
      replace hf := nm_at ez19 hf
      refine lv_iinc (v := z19) (lv' := [(3, .int z19), (4, .int r15), (0, .ref m_a), (1, .int v1), (2, .int v2)]) hx hb dX5_share_63 hl (k := 4) rfl (by rw [ez19]; rfl) (by decide) rfl (fun ls hl => ?_)
      refine lv_goto (tgt := 21) hx hb dX5_share_66 (by decide) ?_
      exact ih z19 (upd m_value (Int32.toNatClampNeg v3) r17) H locs ls hf w (lv_sub hl [2, 3, 4, 0] rfl)
def fX5_share  (m_thrown : Int32) (m_page : Nat → Int32) (m_value : Nat → Int32) (a1 : Int32) (a2 : Int32) : Option (Int32 × Int32 × (Nat → Int32)) := ob (fX5_in (Int32.toInt64 a1) 0 3) (fun r20 => (if r20 = 0 then some ((-1), (0, m_value)) else fX5_share_L21 a1 a2 0 m_page FU 0 m_value))
set_option maxRecDepth 100000 in
set_option maxHeartbeats 4000000 in
theorem tX5_share (l : Launch) (D : va_G) (cI cZ : ClassId) (b0 : Nat) (tt : Nat → Nat)  (m_a q_text q_cards q_readCards q_readPage q_page q_trial q_loads q_book q_kept q_isKept q_heldWho q_heldForce q_heldLoad q_heldIs q_gains q_value : Nat) (m_thrown : Int32) (m_textSize : Int32) (m_place : Int32) (m_acts : Int32) (m_held : Int32) (m_seed : Int64) (m_tentMany : Int32) (m_tentFirst : Int32) (m_restMany : Int32) (m_restFirst : Int32) (m_text : Nat → Int32) (m_cards : Nat → Int32) (m_readCards : Nat → Int32) (m_readPage : Nat → Int32) (m_page : Nat → Int32) (m_trial : Nat → Int32) (m_loads : Nat → Int32) (m_book : Nat → Int32) (m_kept : Nat → Int32) (m_isKept : Nat → Int32) (m_heldWho : Nat → Int32) (m_heldForce : Nat → Int32) (m_heldLoad : Nat → Int32) (m_heldIs : Nat → Int32) (m_gains : Nat → Int32) (m_value : Nat → Int32) (a1 : Int32) (a2 : Int32) {res : Int32 × Int32 × (Nat → Int32)} (hf : fX5_share m_thrown m_page m_value a1 a2 = some res) : CtI l yX5_share (cwX5_share :: GW) 2 47 D cI cZ b0 tt [.ref m_a, .int a1, .int a2] (fun u : Int32 × (Nat → Int32) => [(m_a, .inr (5, [.int u.1, .ref q_text, .int m_textSize, .int m_place, .ref q_cards, .ref q_readCards, .ref q_readPage, .ref q_page, .ref q_trial, .ref q_loads, .ref q_book, .int m_acts, .ref q_kept, .ref q_isKept, .int m_held, .ref q_heldWho, .ref q_heldForce, .ref q_heldLoad, .ref q_heldIs, .long m_seed, .int m_tentMany, .int m_tentFirst, .int m_restMany, .int m_restFirst, .ref q_gains, .ref q_value])), (q_text, .inl (cI, 56, .inl m_text)), (q_cards, .inl (cI, 4, .inl m_cards)), (q_readCards, .inl (cI, 4, .inl m_readCards)), (q_readPage, .inl (cI, 17, .inl m_readPage)), (q_page, .inl (cI, 17, .inl m_page)), (q_trial, .inl (cI, 17, .inl m_trial)), (q_loads, .inl (cI, 16, .inl m_loads)), (q_book, .inl (cI, 238, .inl m_book)), (q_kept, .inl (cI, 34, .inl m_kept)), (q_isKept, .inl (cZ, 2, .inl m_isKept)), (q_heldWho, .inl (cI, 6, .inl m_heldWho)), (q_heldForce, .inl (cI, 6, .inl m_heldForce)), (q_heldLoad, .inl (cI, 6, .inl m_heldLoad)), (q_heldIs, .inl (cI, 6, .inl m_heldIs)), (q_gains, .inl (cI, 50, .inl m_gains)), (q_value, .inl (cI, 16, .inl u.2))]) (m_thrown, m_value) res := by
  intro sz
  refine k_begin (cc := cX5_share) (maxL := 6) (ret := (some .int)) (by decide) rfl (Nat.le_of_ble_eq_true rfl) ?_
  intro p e s m below meth c ls C w hl
  generalize va_A _ sz = A at w ⊢
  have w : Wd D cI cZ b0 tt A s [(m_a, .inr (5, [.int m_thrown, .ref q_text, .int m_textSize, .int m_place, .ref q_cards, .ref q_readCards, .ref q_readPage, .ref q_page, .ref q_trial, .ref q_loads, .ref q_book, .int m_acts, .ref q_kept, .ref q_isKept, .int m_held, .ref q_heldWho, .ref q_heldForce, .ref q_heldLoad, .ref q_heldIs, .long m_seed, .int m_tentMany, .int m_tentFirst, .int m_restMany, .int m_restFirst, .ref q_gains, .ref q_value])), (q_text, .inl (cI, 56, .inl m_text)), (q_cards, .inl (cI, 4, .inl m_cards)), (q_readCards, .inl (cI, 4, .inl m_readCards)), (q_readPage, .inl (cI, 17, .inl m_readPage)), (q_page, .inl (cI, 17, .inl m_page)), (q_trial, .inl (cI, 17, .inl m_trial)), (q_loads, .inl (cI, 16, .inl m_loads)), (q_book, .inl (cI, 238, .inl m_book)), (q_kept, .inl (cI, 34, .inl m_kept)), (q_isKept, .inl (cZ, 2, .inl m_isKept)), (q_heldWho, .inl (cI, 6, .inl m_heldWho)), (q_heldForce, .inl (cI, 6, .inl m_heldForce)), (q_heldLoad, .inl (cI, 6, .inl m_heldLoad)), (q_heldIs, .inl (cI, 6, .inl m_heldIs)), (q_gains, .inl (cI, 50, .inl m_gains)), (q_value, .inl (cI, 16, .inl m_value))] s.heap [] := w
  have hl : lv_has ls 6 [(0, .ref m_a), (1, .int a1), (2, .int a2)] := hl
  obtain ⟨H, eH⟩ : ∃ H, H = s.heap := ⟨_, rfl⟩
  rw [← eH] at w ⊢
  generalize ([] : List Loc) = locs at w ⊢
  generalize List.toArray _ = args at C ⊢
  obtain ⟨hx, hb, hr, hml, hown, hts, hlk⟩ := id C
  have hg : ∀ w ∈ GW, w.before args s = true := fun w h => hts w (List.mem_cons_of_mem _ h)
  unfold fX5_share at hf
  refine lv_aload_n hx hb dX5_share_0 rfl (lv_at hl 0 rfl) ?_
  refine lv_iconst (v := 0) hx hb dX5_share_1 (by decide) ?_
  refine k_put (ci := 5) (v := .int 0) (ty := .int) (C := RX5) (T := TX5) (N := 26) hx hb hg iX5 tyX5 tyX5_ok nmX5 hown w 0 rfl rfl 0 (by decide) (hg _ w_489) (fun _ h9 => h9) rfl pd_I rfl rfl (Nat.le_of_ble_eq_true rfl) dX5_share_2 (fun H locs w => ?_)
  have w : Wd D cI cZ b0 tt A s [(m_a, .inr (5, [.int 0, .ref q_text, .int m_textSize, .int m_place, .ref q_cards, .ref q_readCards, .ref q_readPage, .ref q_page, .ref q_trial, .ref q_loads, .ref q_book, .int m_acts, .ref q_kept, .ref q_isKept, .int m_held, .ref q_heldWho, .ref q_heldForce, .ref q_heldLoad, .ref q_heldIs, .long m_seed, .int m_tentMany, .int m_tentFirst, .int m_restMany, .int m_restFirst, .ref q_gains, .ref q_value])), (q_text, .inl (cI, 56, .inl m_text)), (q_cards, .inl (cI, 4, .inl m_cards)), (q_readCards, .inl (cI, 4, .inl m_readCards)), (q_readPage, .inl (cI, 17, .inl m_readPage)), (q_page, .inl (cI, 17, .inl m_page)), (q_trial, .inl (cI, 17, .inl m_trial)), (q_loads, .inl (cI, 16, .inl m_loads)), (q_book, .inl (cI, 238, .inl m_book)), (q_kept, .inl (cI, 34, .inl m_kept)), (q_isKept, .inl (cZ, 2, .inl m_isKept)), (q_heldWho, .inl (cI, 6, .inl m_heldWho)), (q_heldForce, .inl (cI, 6, .inl m_heldForce)), (q_heldLoad, .inl (cI, 6, .inl m_heldLoad)), (q_heldIs, .inl (cI, 6, .inl m_heldIs)), (q_gains, .inl (cI, 50, .inl m_gains)), (q_value, .inl (cI, 16, .inl m_value))] H locs := w
  refine lv_iload_n hx hb dX5_share_5 rfl (lv_at hl 1 rfl) ?_
  refine lv_i2l (v := (Int32.toInt64 a1)) hx hb dX5_share_6 rfl ?_
  refine lv_lconst (v := 0) hx hb dX5_share_7 (by decide) ?_
  refine lv_ldc2 hx hb hown (hg _ w_679) dX5_share_8 ?_
  replace hf := ob_at hf
  obtain ⟨r20, er20, hf⟩ := hf
  refine k_goI0 w [] rfl (va_runS (As := [.long (Int32.toInt64 a1), .long 0, .long 3]) (rest := []) ⟨hx, hb, hml, hown, hg⟩ (tX5_in l D cI cZ b0 tt (Int32.toInt64 a1) 0 3 er20 H.size) (va_cwS 3 hg (gwS w_574 w_575 w_7 w_576) rfl rfl rfl qdX5_in ⟨Nat.le_of_ble_eq_true rfl, Nat.le_of_ble_eq_true rfl⟩) (k_preS w [] (by decide) rfl) rfl rfl hl.1 rfl (lv_room (Nat.le_of_ble_eq_true rfl)) dX5_share_11 ⟨Nat.le_refl _, Nat.le_refl _⟩) (fun H locs w => ?_)
  refine lv_if_ne (tgt := 19) hx hb dX5_share_14 (by decide) (fun c21 => ?_) (fun c21 => ?_)
  · replace hf := ite_f c21 hf
    refine lv_iconst (v := 0) hx hb dX5_share_19 (by decide) ?_
    refine lv_istore_n (lv' := [(3, .int 0), (0, .ref m_a), (1, .int a1), (2, .int a2)]) hx hb dX5_share_20 rfl hl (by decide) rfl (fun ls hl => ?_)
    exact tX5_share_L21 (v1 := a1) (v2 := a2) (m_thrown := 0) (m_page := m_page) (m_textSize := m_textSize) (m_place := m_place) (m_acts := m_acts) (m_held := m_held) (m_seed := m_seed) (m_tentMany := m_tentMany) (m_tentFirst := m_tentFirst) (m_restMany := m_restMany) (m_restFirst := m_restFirst) (m_text := m_text) (m_cards := m_cards) (m_readCards := m_readCards) (m_readPage := m_readPage) (m_trial := m_trial) (m_loads := m_loads) (m_book := m_book) (m_kept := m_kept) (m_isKept := m_isKept) (m_heldWho := m_heldWho) (m_heldForce := m_heldForce) (m_heldLoad := m_heldLoad) (m_heldIs := m_heldIs) (m_gains := m_gains) (C := C) FU 0 m_value H locs ls hf w (lv_sub hl [1, 2, 3, 0] rfl)
  · replace hf := ite_t c21 hf
    refine lv_iconst (v := (-1)) hx hb dX5_share_17 (by decide) ?_
    exact k_iret (u := (0, m_value)) hx hb hr hlk w rfl hf dX5_share_18
-- X5_hold
def fX5_hold  (m_thrown : Int32) (m_held : Int32) (m_heldWho : Nat → Int32) (m_heldForce : Nat → Int32) (m_heldLoad : Nat → Int32) (m_heldIs : Nat → Int32) (a1 : Int32) (a2 : Int32) (a3 : Int32) (a4 : Int32) : Option (Int32 × Int32 × Int32 × (Nat → Int32) × (Nat → Int32) × (Nat → Int32) × (Nat → Int32)) := ob (fX5_in (Int32.toInt64 a1) 0 1) (fun r1 => (if r1 = 0 then some ((-2), (0, m_held, m_heldWho, m_heldForce, m_heldLoad, m_heldIs)) else ob (fX5_in (Int32.toInt64 a2) 1 9) (fun r3 => (if r3 = 0 then some ((-2), (0, m_held, m_heldWho, m_heldForce, m_heldLoad, m_heldIs)) else ob (fX5_in (Int32.toInt64 a3) 0 9) (fun r5 => (if r5 = 0 then some ((-2), (0, m_held, m_heldWho, m_heldForce, m_heldLoad, m_heldIs)) else ob (fX5_in (Int32.toInt64 a4) 0 1) (fun r7 => (if r7 = 0 then some ((-2), (0, m_held, m_heldWho, m_heldForce, m_heldLoad, m_heldIs)) else (if m_held = 6 then some ((-4), (0, m_held, m_heldWho, m_heldForce, m_heldLoad, m_heldIs)) else gd m_held 6 (gd m_held 6 (gd m_held 6 (gd m_held 6 (nm (m_held + (1 : Int32)) (fun z14 => some (z14, (0, z14, (upd m_heldWho (Int32.toNatClampNeg m_held) a1), (upd m_heldForce (Int32.toNatClampNeg m_held) a2), (upd m_heldLoad (Int32.toNatClampNeg m_held) a3), (upd m_heldIs (Int32.toNatClampNeg m_held) a4)))))))))))))))))
set_option maxRecDepth 100000 in
set_option maxHeartbeats 4000000 in
theorem tX5_hold (l : Launch) (D : va_G) (cI cZ : ClassId) (b0 : Nat) (tt : Nat → Nat)  (m_a q_text q_cards q_readCards q_readPage q_page q_trial q_loads q_book q_kept q_isKept q_heldWho q_heldForce q_heldLoad q_heldIs q_gains q_value : Nat) (m_thrown : Int32) (m_textSize : Int32) (m_place : Int32) (m_acts : Int32) (m_held : Int32) (m_seed : Int64) (m_tentMany : Int32) (m_tentFirst : Int32) (m_restMany : Int32) (m_restFirst : Int32) (m_text : Nat → Int32) (m_cards : Nat → Int32) (m_readCards : Nat → Int32) (m_readPage : Nat → Int32) (m_page : Nat → Int32) (m_trial : Nat → Int32) (m_loads : Nat → Int32) (m_book : Nat → Int32) (m_kept : Nat → Int32) (m_isKept : Nat → Int32) (m_heldWho : Nat → Int32) (m_heldForce : Nat → Int32) (m_heldLoad : Nat → Int32) (m_heldIs : Nat → Int32) (m_gains : Nat → Int32) (m_value : Nat → Int32) (a1 : Int32) (a2 : Int32) (a3 : Int32) (a4 : Int32) {res : Int32 × Int32 × Int32 × (Nat → Int32) × (Nat → Int32) × (Nat → Int32) × (Nat → Int32)} (hf : fX5_hold m_thrown m_held m_heldWho m_heldForce m_heldLoad m_heldIs a1 a2 a3 a4 = some res) : CtI l yX5_hold (cwX5_hold :: GW) 1 25 D cI cZ b0 tt [.ref m_a, .int a1, .int a2, .int a3, .int a4] (fun u : Int32 × Int32 × (Nat → Int32) × (Nat → Int32) × (Nat → Int32) × (Nat → Int32) => [(m_a, .inr (5, [.int u.1, .ref q_text, .int m_textSize, .int m_place, .ref q_cards, .ref q_readCards, .ref q_readPage, .ref q_page, .ref q_trial, .ref q_loads, .ref q_book, .int m_acts, .ref q_kept, .ref q_isKept, .int u.2.1, .ref q_heldWho, .ref q_heldForce, .ref q_heldLoad, .ref q_heldIs, .long m_seed, .int m_tentMany, .int m_tentFirst, .int m_restMany, .int m_restFirst, .ref q_gains, .ref q_value])), (q_text, .inl (cI, 56, .inl m_text)), (q_cards, .inl (cI, 4, .inl m_cards)), (q_readCards, .inl (cI, 4, .inl m_readCards)), (q_readPage, .inl (cI, 17, .inl m_readPage)), (q_page, .inl (cI, 17, .inl m_page)), (q_trial, .inl (cI, 17, .inl m_trial)), (q_loads, .inl (cI, 16, .inl m_loads)), (q_book, .inl (cI, 238, .inl m_book)), (q_kept, .inl (cI, 34, .inl m_kept)), (q_isKept, .inl (cZ, 2, .inl m_isKept)), (q_heldWho, .inl (cI, 6, .inl u.2.2.1)), (q_heldForce, .inl (cI, 6, .inl u.2.2.2.1)), (q_heldLoad, .inl (cI, 6, .inl u.2.2.2.2.1)), (q_heldIs, .inl (cI, 6, .inl u.2.2.2.2.2)), (q_gains, .inl (cI, 50, .inl m_gains)), (q_value, .inl (cI, 16, .inl m_value))]) (m_thrown, m_held, m_heldWho, m_heldForce, m_heldLoad, m_heldIs) res := by
  intro sz
  refine k_begin (cc := cX5_hold) (maxL := 5) (ret := (some .int)) (by decide) rfl (Nat.le_of_ble_eq_true rfl) ?_
  intro p e s m below meth c ls C w hl
  generalize va_A _ sz = A at w ⊢
  have w : Wd D cI cZ b0 tt A s [(m_a, .inr (5, [.int m_thrown, .ref q_text, .int m_textSize, .int m_place, .ref q_cards, .ref q_readCards, .ref q_readPage, .ref q_page, .ref q_trial, .ref q_loads, .ref q_book, .int m_acts, .ref q_kept, .ref q_isKept, .int m_held, .ref q_heldWho, .ref q_heldForce, .ref q_heldLoad, .ref q_heldIs, .long m_seed, .int m_tentMany, .int m_tentFirst, .int m_restMany, .int m_restFirst, .ref q_gains, .ref q_value])), (q_text, .inl (cI, 56, .inl m_text)), (q_cards, .inl (cI, 4, .inl m_cards)), (q_readCards, .inl (cI, 4, .inl m_readCards)), (q_readPage, .inl (cI, 17, .inl m_readPage)), (q_page, .inl (cI, 17, .inl m_page)), (q_trial, .inl (cI, 17, .inl m_trial)), (q_loads, .inl (cI, 16, .inl m_loads)), (q_book, .inl (cI, 238, .inl m_book)), (q_kept, .inl (cI, 34, .inl m_kept)), (q_isKept, .inl (cZ, 2, .inl m_isKept)), (q_heldWho, .inl (cI, 6, .inl m_heldWho)), (q_heldForce, .inl (cI, 6, .inl m_heldForce)), (q_heldLoad, .inl (cI, 6, .inl m_heldLoad)), (q_heldIs, .inl (cI, 6, .inl m_heldIs)), (q_gains, .inl (cI, 50, .inl m_gains)), (q_value, .inl (cI, 16, .inl m_value))] s.heap [] := w
  have hl : lv_has ls 5 [(0, .ref m_a), (1, .int a1), (2, .int a2), (3, .int a3), (4, .int a4)] := hl
  obtain ⟨H, eH⟩ : ∃ H, H = s.heap := ⟨_, rfl⟩
  rw [← eH] at w ⊢
  generalize ([] : List Loc) = locs at w ⊢
  generalize List.toArray _ = args at C ⊢
  obtain ⟨hx, hb, hr, hml, hown, hts, hlk⟩ := id C
  have hg : ∀ w ∈ GW, w.before args s = true := fun w h => hts w (List.mem_cons_of_mem _ h)
  unfold fX5_hold at hf
  refine lv_aload_n hx hb dX5_hold_0 rfl (lv_at hl 0 rfl) ?_
  refine lv_iconst (v := 0) hx hb dX5_hold_1 (by decide) ?_
  refine k_put (ci := 5) (v := .int 0) (ty := .int) (C := RX5) (T := TX5) (N := 26) hx hb hg iX5 tyX5 tyX5_ok nmX5 hown w 0 rfl rfl 0 (by decide) (hg _ w_489) (fun _ h9 => h9) rfl pd_I rfl rfl (Nat.le_of_ble_eq_true rfl) dX5_hold_2 (fun H locs w => ?_)
  have w : Wd D cI cZ b0 tt A s [(m_a, .inr (5, [.int 0, .ref q_text, .int m_textSize, .int m_place, .ref q_cards, .ref q_readCards, .ref q_readPage, .ref q_page, .ref q_trial, .ref q_loads, .ref q_book, .int m_acts, .ref q_kept, .ref q_isKept, .int m_held, .ref q_heldWho, .ref q_heldForce, .ref q_heldLoad, .ref q_heldIs, .long m_seed, .int m_tentMany, .int m_tentFirst, .int m_restMany, .int m_restFirst, .ref q_gains, .ref q_value])), (q_text, .inl (cI, 56, .inl m_text)), (q_cards, .inl (cI, 4, .inl m_cards)), (q_readCards, .inl (cI, 4, .inl m_readCards)), (q_readPage, .inl (cI, 17, .inl m_readPage)), (q_page, .inl (cI, 17, .inl m_page)), (q_trial, .inl (cI, 17, .inl m_trial)), (q_loads, .inl (cI, 16, .inl m_loads)), (q_book, .inl (cI, 238, .inl m_book)), (q_kept, .inl (cI, 34, .inl m_kept)), (q_isKept, .inl (cZ, 2, .inl m_isKept)), (q_heldWho, .inl (cI, 6, .inl m_heldWho)), (q_heldForce, .inl (cI, 6, .inl m_heldForce)), (q_heldLoad, .inl (cI, 6, .inl m_heldLoad)), (q_heldIs, .inl (cI, 6, .inl m_heldIs)), (q_gains, .inl (cI, 50, .inl m_gains)), (q_value, .inl (cI, 16, .inl m_value))] H locs := w
  refine lv_iload_n hx hb dX5_hold_5 rfl (lv_at hl 1 rfl) ?_
  refine lv_i2l (v := (Int32.toInt64 a1)) hx hb dX5_hold_6 rfl ?_
  refine lv_lconst (v := 0) hx hb dX5_hold_7 (by decide) ?_
  refine lv_lconst (v := 1) hx hb dX5_hold_8 (by decide) ?_
  replace hf := ob_at hf
  obtain ⟨r1, er1, hf⟩ := hf
  refine k_goI0 w [] rfl (va_runS (As := [.long (Int32.toInt64 a1), .long 0, .long 1]) (rest := []) ⟨hx, hb, hml, hown, hg⟩ (tX5_in l D cI cZ b0 tt (Int32.toInt64 a1) 0 1 er1 H.size) (va_cwS 3 hg (gwS w_574 w_575 w_7 w_576) rfl rfl rfl qdX5_in ⟨Nat.le_of_ble_eq_true rfl, Nat.le_of_ble_eq_true rfl⟩) (k_preS w [] (by decide) rfl) rfl rfl hl.1 rfl (lv_room (Nat.le_of_ble_eq_true rfl)) dX5_hold_9 ⟨Nat.le_refl _, Nat.le_refl _⟩) (fun H locs w => ?_)
  refine lv_if_eq (tgt := 50) hx hb dX5_hold_12 (by decide) (fun c2 => ?_) (fun c2 => ?_)
  · replace hf := ite_t c2 hf
    refine lv_bipush (v := (-2)) hx hb dX5_hold_50 (by decide) ?_
    exact k_iret (u := (0, m_held, m_heldWho, m_heldForce, m_heldLoad, m_heldIs)) hx hb hr hlk w rfl hf dX5_hold_52
  · replace hf := ite_f c2 hf
    refine lv_iload_n hx hb dX5_hold_15 rfl (lv_at hl 2 rfl) ?_
    refine lv_i2l (v := (Int32.toInt64 a2)) hx hb dX5_hold_16 rfl ?_
    refine lv_lconst (v := 1) hx hb dX5_hold_17 (by decide) ?_
    refine lv_ldc2 hx hb hown (hg _ w_709) dX5_hold_18 ?_
    replace hf := ob_at hf
    obtain ⟨r3, er3, hf⟩ := hf
    refine k_goI0 w [] rfl (va_runS (As := [.long (Int32.toInt64 a2), .long 1, .long 9]) (rest := []) ⟨hx, hb, hml, hown, hg⟩ (tX5_in l D cI cZ b0 tt (Int32.toInt64 a2) 1 9 er3 H.size) (va_cwS 3 hg (gwS w_574 w_575 w_7 w_576) rfl rfl rfl qdX5_in ⟨Nat.le_of_ble_eq_true rfl, Nat.le_of_ble_eq_true rfl⟩) (k_preS w [] (by decide) rfl) rfl rfl hl.1 rfl (lv_room (Nat.le_of_ble_eq_true rfl)) dX5_hold_21 ⟨Nat.le_refl _, Nat.le_refl _⟩) (fun H locs w => ?_)
    refine lv_if_eq (tgt := 50) hx hb dX5_hold_24 (by decide) (fun c4 => ?_) (fun c4 => ?_)
    · replace hf := ite_t c4 hf
      refine lv_bipush (v := (-2)) hx hb dX5_hold_50 (by decide) ?_
      exact k_iret (u := (0, m_held, m_heldWho, m_heldForce, m_heldLoad, m_heldIs)) hx hb hr hlk w rfl hf dX5_hold_52
    · replace hf := ite_f c4 hf
      refine lv_iload_n hx hb dX5_hold_27 rfl (lv_at hl 3 rfl) ?_
      refine lv_i2l (v := (Int32.toInt64 a3)) hx hb dX5_hold_28 rfl ?_
      refine lv_lconst (v := 0) hx hb dX5_hold_29 (by decide) ?_
      refine lv_ldc2 hx hb hown (hg _ w_709) dX5_hold_30 ?_
      replace hf := ob_at hf
      obtain ⟨r5, er5, hf⟩ := hf
      refine k_goI0 w [] rfl (va_runS (As := [.long (Int32.toInt64 a3), .long 0, .long 9]) (rest := []) ⟨hx, hb, hml, hown, hg⟩ (tX5_in l D cI cZ b0 tt (Int32.toInt64 a3) 0 9 er5 H.size) (va_cwS 3 hg (gwS w_574 w_575 w_7 w_576) rfl rfl rfl qdX5_in ⟨Nat.le_of_ble_eq_true rfl, Nat.le_of_ble_eq_true rfl⟩) (k_preS w [] (by decide) rfl) rfl rfl hl.1 rfl (lv_room (Nat.le_of_ble_eq_true rfl)) dX5_hold_33 ⟨Nat.le_refl _, Nat.le_refl _⟩) (fun H locs w => ?_)
      refine lv_if_eq (tgt := 50) hx hb dX5_hold_36 (by decide) (fun c6 => ?_) (fun c6 => ?_)
      · replace hf := ite_t c6 hf
        refine lv_bipush (v := (-2)) hx hb dX5_hold_50 (by decide) ?_
        exact k_iret (u := (0, m_held, m_heldWho, m_heldForce, m_heldLoad, m_heldIs)) hx hb hr hlk w rfl hf dX5_hold_52
      · replace hf := ite_f c6 hf
        refine lv_iload hx hb dX5_hold_39 (lv_at hl 4 rfl) ?_
        refine lv_i2l (v := (Int32.toInt64 a4)) hx hb dX5_hold_41 rfl ?_
        refine lv_lconst (v := 0) hx hb dX5_hold_42 (by decide) ?_
        refine lv_lconst (v := 1) hx hb dX5_hold_43 (by decide) ?_
        replace hf := ob_at hf
        obtain ⟨r7, er7, hf⟩ := hf
        refine k_goI0 w [] rfl (va_runS (As := [.long (Int32.toInt64 a4), .long 0, .long 1]) (rest := []) ⟨hx, hb, hml, hown, hg⟩ (tX5_in l D cI cZ b0 tt (Int32.toInt64 a4) 0 1 er7 H.size) (va_cwS 3 hg (gwS w_574 w_575 w_7 w_576) rfl rfl rfl qdX5_in ⟨Nat.le_of_ble_eq_true rfl, Nat.le_of_ble_eq_true rfl⟩) (k_preS w [] (by decide) rfl) rfl rfl hl.1 rfl (lv_room (Nat.le_of_ble_eq_true rfl)) dX5_hold_44 ⟨Nat.le_refl _, Nat.le_refl _⟩) (fun H locs w => ?_)
        refine lv_if_ne (tgt := 53) hx hb dX5_hold_47 (by decide) (fun c8 => ?_) (fun c8 => ?_)
        · replace hf := ite_f c8 hf
          refine lv_aload_n hx hb dX5_hold_53 rfl (lv_at hl 0 rfl) ?_
          refine va_get (D := D) (ci := 5) (v := .int m_held) (C := RX5) (T := TX5) (N := 26) hx hb hg iX5 hown w.2.2.2.2.2.2.1 w.1 0 rfl rfl 14 (by decide) (hg _ w_503) (fun _ h9 => h9) rfl dX5_hold_54 ?_
          refine lv_bipush (v := 6) hx hb dX5_hold_57 (by decide) ?_
          refine lv_icmp_ne (tgt := 65) hx hb dX5_hold_59 (by decide) (fun c9 => ?_) (fun c9 => ?_)
          · replace hf := ite_f c9 hf
            refine lv_aload_n hx hb dX5_hold_65 rfl (lv_at hl 0 rfl) ?_
            refine va_get (D := D) (ci := 5) (v := .ref q_heldWho) (C := RX5) (T := TX5) (N := 26) hx hb hg iX5 hown w.2.2.2.2.2.2.1 w.1 0 rfl rfl 15 (by decide) (hg _ w_504) (fun _ h9 => h9) rfl dX5_hold_66 ?_
            refine lv_aload_n hx hb dX5_hold_69 rfl (lv_at hl 0 rfl) ?_
            refine va_get (D := D) (ci := 5) (v := .int m_held) (C := RX5) (T := TX5) (N := 26) hx hb hg iX5 hown w.2.2.2.2.2.2.1 w.1 0 rfl rfl 14 (by decide) (hg _ w_503) (fun _ h9 => h9) rfl dX5_hold_70 ?_
            refine lv_iload_n hx hb dX5_hold_73 rfl (lv_at hl 1 rfl) ?_
            replace hf := gd_at hf
            obtain ⟨hi10, hf⟩ := hf
            refine k_iast hx hb w 11 rfl hi10 dX5_hold_74 (fun H locs w => ?_)
            have w : Wd D cI cZ b0 tt A s [(m_a, .inr (5, [.int 0, .ref q_text, .int m_textSize, .int m_place, .ref q_cards, .ref q_readCards, .ref q_readPage, .ref q_page, .ref q_trial, .ref q_loads, .ref q_book, .int m_acts, .ref q_kept, .ref q_isKept, .int m_held, .ref q_heldWho, .ref q_heldForce, .ref q_heldLoad, .ref q_heldIs, .long m_seed, .int m_tentMany, .int m_tentFirst, .int m_restMany, .int m_restFirst, .ref q_gains, .ref q_value])), (q_text, .inl (cI, 56, .inl m_text)), (q_cards, .inl (cI, 4, .inl m_cards)), (q_readCards, .inl (cI, 4, .inl m_readCards)), (q_readPage, .inl (cI, 17, .inl m_readPage)), (q_page, .inl (cI, 17, .inl m_page)), (q_trial, .inl (cI, 17, .inl m_trial)), (q_loads, .inl (cI, 16, .inl m_loads)), (q_book, .inl (cI, 238, .inl m_book)), (q_kept, .inl (cI, 34, .inl m_kept)), (q_isKept, .inl (cZ, 2, .inl m_isKept)), (q_heldWho, .inl (cI, 6, .inl (upd m_heldWho (Int32.toNatClampNeg m_held) a1))), (q_heldForce, .inl (cI, 6, .inl m_heldForce)), (q_heldLoad, .inl (cI, 6, .inl m_heldLoad)), (q_heldIs, .inl (cI, 6, .inl m_heldIs)), (q_gains, .inl (cI, 50, .inl m_gains)), (q_value, .inl (cI, 16, .inl m_value))] H locs := w
            refine lv_aload_n hx hb dX5_hold_75 rfl (lv_at hl 0 rfl) ?_
            refine va_get (D := D) (ci := 5) (v := .ref q_heldForce) (C := RX5) (T := TX5) (N := 26) hx hb hg iX5 hown w.2.2.2.2.2.2.1 w.1 0 rfl rfl 16 (by decide) (hg _ w_505) (fun _ h9 => h9) rfl dX5_hold_76 ?_
            refine lv_aload_n hx hb dX5_hold_79 rfl (lv_at hl 0 rfl) ?_
            refine va_get (D := D) (ci := 5) (v := .int m_held) (C := RX5) (T := TX5) (N := 26) hx hb hg iX5 hown w.2.2.2.2.2.2.1 w.1 0 rfl rfl 14 (by decide) (hg _ w_503) (fun _ h9 => h9) rfl dX5_hold_80 ?_
            refine lv_iload_n hx hb dX5_hold_83 rfl (lv_at hl 2 rfl) ?_
            replace hf := gd_at hf
            obtain ⟨hi11, hf⟩ := hf
            refine k_iast hx hb w 12 rfl hi11 dX5_hold_84 (fun H locs w => ?_)
            have w : Wd D cI cZ b0 tt A s [(m_a, .inr (5, [.int 0, .ref q_text, .int m_textSize, .int m_place, .ref q_cards, .ref q_readCards, .ref q_readPage, .ref q_page, .ref q_trial, .ref q_loads, .ref q_book, .int m_acts, .ref q_kept, .ref q_isKept, .int m_held, .ref q_heldWho, .ref q_heldForce, .ref q_heldLoad, .ref q_heldIs, .long m_seed, .int m_tentMany, .int m_tentFirst, .int m_restMany, .int m_restFirst, .ref q_gains, .ref q_value])), (q_text, .inl (cI, 56, .inl m_text)), (q_cards, .inl (cI, 4, .inl m_cards)), (q_readCards, .inl (cI, 4, .inl m_readCards)), (q_readPage, .inl (cI, 17, .inl m_readPage)), (q_page, .inl (cI, 17, .inl m_page)), (q_trial, .inl (cI, 17, .inl m_trial)), (q_loads, .inl (cI, 16, .inl m_loads)), (q_book, .inl (cI, 238, .inl m_book)), (q_kept, .inl (cI, 34, .inl m_kept)), (q_isKept, .inl (cZ, 2, .inl m_isKept)), (q_heldWho, .inl (cI, 6, .inl (upd m_heldWho (Int32.toNatClampNeg m_held) a1))), (q_heldForce, .inl (cI, 6, .inl (upd m_heldForce (Int32.toNatClampNeg m_held) a2))), (q_heldLoad, .inl (cI, 6, .inl m_heldLoad)), (q_heldIs, .inl (cI, 6, .inl m_heldIs)), (q_gains, .inl (cI, 50, .inl m_gains)), (q_value, .inl (cI, 16, .inl m_value))] H locs := w
            refine lv_aload_n hx hb dX5_hold_85 rfl (lv_at hl 0 rfl) ?_
            refine va_get (D := D) (ci := 5) (v := .ref q_heldLoad) (C := RX5) (T := TX5) (N := 26) hx hb hg iX5 hown w.2.2.2.2.2.2.1 w.1 0 rfl rfl 17 (by decide) (hg _ w_506) (fun _ h9 => h9) rfl dX5_hold_86 ?_
            refine lv_aload_n hx hb dX5_hold_89 rfl (lv_at hl 0 rfl) ?_
            refine va_get (D := D) (ci := 5) (v := .int m_held) (C := RX5) (T := TX5) (N := 26) hx hb hg iX5 hown w.2.2.2.2.2.2.1 w.1 0 rfl rfl 14 (by decide) (hg _ w_503) (fun _ h9 => h9) rfl dX5_hold_90 ?_
            refine lv_iload_n hx hb dX5_hold_93 rfl (lv_at hl 3 rfl) ?_
            replace hf := gd_at hf
            obtain ⟨hi12, hf⟩ := hf
            refine k_iast hx hb w 13 rfl hi12 dX5_hold_94 (fun H locs w => ?_)
            have w : Wd D cI cZ b0 tt A s [(m_a, .inr (5, [.int 0, .ref q_text, .int m_textSize, .int m_place, .ref q_cards, .ref q_readCards, .ref q_readPage, .ref q_page, .ref q_trial, .ref q_loads, .ref q_book, .int m_acts, .ref q_kept, .ref q_isKept, .int m_held, .ref q_heldWho, .ref q_heldForce, .ref q_heldLoad, .ref q_heldIs, .long m_seed, .int m_tentMany, .int m_tentFirst, .int m_restMany, .int m_restFirst, .ref q_gains, .ref q_value])), (q_text, .inl (cI, 56, .inl m_text)), (q_cards, .inl (cI, 4, .inl m_cards)), (q_readCards, .inl (cI, 4, .inl m_readCards)), (q_readPage, .inl (cI, 17, .inl m_readPage)), (q_page, .inl (cI, 17, .inl m_page)), (q_trial, .inl (cI, 17, .inl m_trial)), (q_loads, .inl (cI, 16, .inl m_loads)), (q_book, .inl (cI, 238, .inl m_book)), (q_kept, .inl (cI, 34, .inl m_kept)), (q_isKept, .inl (cZ, 2, .inl m_isKept)), (q_heldWho, .inl (cI, 6, .inl (upd m_heldWho (Int32.toNatClampNeg m_held) a1))), (q_heldForce, .inl (cI, 6, .inl (upd m_heldForce (Int32.toNatClampNeg m_held) a2))), (q_heldLoad, .inl (cI, 6, .inl (upd m_heldLoad (Int32.toNatClampNeg m_held) a3))), (q_heldIs, .inl (cI, 6, .inl m_heldIs)), (q_gains, .inl (cI, 50, .inl m_gains)), (q_value, .inl (cI, 16, .inl m_value))] H locs := w
            refine lv_aload_n hx hb dX5_hold_95 rfl (lv_at hl 0 rfl) ?_
            refine va_get (D := D) (ci := 5) (v := .ref q_heldIs) (C := RX5) (T := TX5) (N := 26) hx hb hg iX5 hown w.2.2.2.2.2.2.1 w.1 0 rfl rfl 18 (by decide) (hg _ w_507) (fun _ h9 => h9) rfl dX5_hold_96 ?_
            refine lv_aload_n hx hb dX5_hold_99 rfl (lv_at hl 0 rfl) ?_
            refine va_get (D := D) (ci := 5) (v := .int m_held) (C := RX5) (T := TX5) (N := 26) hx hb hg iX5 hown w.2.2.2.2.2.2.1 w.1 0 rfl rfl 14 (by decide) (hg _ w_503) (fun _ h9 => h9) rfl dX5_hold_100 ?_
            refine lv_iload hx hb dX5_hold_103 (lv_at hl 4 rfl) ?_
            replace hf := gd_at hf
            obtain ⟨hi13, hf⟩ := hf
            refine k_iast hx hb w 14 rfl hi13 dX5_hold_105 (fun H locs w => ?_)
            have w : Wd D cI cZ b0 tt A s [(m_a, .inr (5, [.int 0, .ref q_text, .int m_textSize, .int m_place, .ref q_cards, .ref q_readCards, .ref q_readPage, .ref q_page, .ref q_trial, .ref q_loads, .ref q_book, .int m_acts, .ref q_kept, .ref q_isKept, .int m_held, .ref q_heldWho, .ref q_heldForce, .ref q_heldLoad, .ref q_heldIs, .long m_seed, .int m_tentMany, .int m_tentFirst, .int m_restMany, .int m_restFirst, .ref q_gains, .ref q_value])), (q_text, .inl (cI, 56, .inl m_text)), (q_cards, .inl (cI, 4, .inl m_cards)), (q_readCards, .inl (cI, 4, .inl m_readCards)), (q_readPage, .inl (cI, 17, .inl m_readPage)), (q_page, .inl (cI, 17, .inl m_page)), (q_trial, .inl (cI, 17, .inl m_trial)), (q_loads, .inl (cI, 16, .inl m_loads)), (q_book, .inl (cI, 238, .inl m_book)), (q_kept, .inl (cI, 34, .inl m_kept)), (q_isKept, .inl (cZ, 2, .inl m_isKept)), (q_heldWho, .inl (cI, 6, .inl (upd m_heldWho (Int32.toNatClampNeg m_held) a1))), (q_heldForce, .inl (cI, 6, .inl (upd m_heldForce (Int32.toNatClampNeg m_held) a2))), (q_heldLoad, .inl (cI, 6, .inl (upd m_heldLoad (Int32.toNatClampNeg m_held) a3))), (q_heldIs, .inl (cI, 6, .inl (upd m_heldIs (Int32.toNatClampNeg m_held) a4))), (q_gains, .inl (cI, 50, .inl m_gains)), (q_value, .inl (cI, 16, .inl m_value))] H locs := w
            refine lv_aload_n hx hb dX5_hold_106 rfl (lv_at hl 0 rfl) ?_
            refine lv_dup hx hb dX5_hold_107 rfl ?_
            refine va_get (D := D) (ci := 5) (v := .int m_held) (C := RX5) (T := TX5) (N := 26) hx hb hg iX5 hown w.2.2.2.2.2.2.1 w.1 0 rfl rfl 14 (by decide) (hg _ w_503) (fun _ h9 => h9) rfl dX5_hold_108 ?_
            refine lv_iconst (v := 1) hx hb dX5_hold_111 (by decide) ?_
            refine lv_iadd hx hb dX5_hold_112 ?_
            refine lv_topi (fun z14 ez14 => ?_)
            replace hf := nm_at ez14 hf
            refine k_put (ci := 5) (v := .int z14) (ty := .int) (C := RX5) (T := TX5) (N := 26) hx hb hg iX5 tyX5 tyX5_ok nmX5 hown w 0 rfl rfl 14 (by decide) (hg _ w_503) (fun _ h9 => h9) rfl pd_I rfl rfl (Nat.le_of_ble_eq_true rfl) dX5_hold_113 (fun H locs w => ?_)
            have w : Wd D cI cZ b0 tt A s [(m_a, .inr (5, [.int 0, .ref q_text, .int m_textSize, .int m_place, .ref q_cards, .ref q_readCards, .ref q_readPage, .ref q_page, .ref q_trial, .ref q_loads, .ref q_book, .int m_acts, .ref q_kept, .ref q_isKept, .int z14, .ref q_heldWho, .ref q_heldForce, .ref q_heldLoad, .ref q_heldIs, .long m_seed, .int m_tentMany, .int m_tentFirst, .int m_restMany, .int m_restFirst, .ref q_gains, .ref q_value])), (q_text, .inl (cI, 56, .inl m_text)), (q_cards, .inl (cI, 4, .inl m_cards)), (q_readCards, .inl (cI, 4, .inl m_readCards)), (q_readPage, .inl (cI, 17, .inl m_readPage)), (q_page, .inl (cI, 17, .inl m_page)), (q_trial, .inl (cI, 17, .inl m_trial)), (q_loads, .inl (cI, 16, .inl m_loads)), (q_book, .inl (cI, 238, .inl m_book)), (q_kept, .inl (cI, 34, .inl m_kept)), (q_isKept, .inl (cZ, 2, .inl m_isKept)), (q_heldWho, .inl (cI, 6, .inl (upd m_heldWho (Int32.toNatClampNeg m_held) a1))), (q_heldForce, .inl (cI, 6, .inl (upd m_heldForce (Int32.toNatClampNeg m_held) a2))), (q_heldLoad, .inl (cI, 6, .inl (upd m_heldLoad (Int32.toNatClampNeg m_held) a3))), (q_heldIs, .inl (cI, 6, .inl (upd m_heldIs (Int32.toNatClampNeg m_held) a4))), (q_gains, .inl (cI, 50, .inl m_gains)), (q_value, .inl (cI, 16, .inl m_value))] H locs := w
            refine lv_aload_n hx hb dX5_hold_116 rfl (lv_at hl 0 rfl) ?_
            refine va_get (D := D) (ci := 5) (v := .int z14) (C := RX5) (T := TX5) (N := 26) hx hb hg iX5 hown w.2.2.2.2.2.2.1 w.1 0 rfl rfl 14 (by decide) (hg _ w_503) (fun _ h9 => h9) rfl dX5_hold_117 ?_
            exact k_iret (u := (0, z14, (upd m_heldWho (Int32.toNatClampNeg m_held) a1), (upd m_heldForce (Int32.toNatClampNeg m_held) a2), (upd m_heldLoad (Int32.toNatClampNeg m_held) a3), (upd m_heldIs (Int32.toNatClampNeg m_held) a4))) hx hb hr hlk w rfl hf dX5_hold_120
          · replace hf := ite_t c9 hf
            refine lv_bipush (v := (-4)) hx hb dX5_hold_62 (by decide) ?_
            exact k_iret (u := (0, m_held, m_heldWho, m_heldForce, m_heldLoad, m_heldIs)) hx hb hr hlk w rfl hf dX5_hold_64
        · replace hf := ite_t c8 hf
          refine lv_bipush (v := (-2)) hx hb dX5_hold_50 (by decide) ?_
          exact k_iret (u := (0, m_held, m_heldWho, m_heldForce, m_heldLoad, m_heldIs)) hx hb hr hlk w rfl hf dX5_hold_52
