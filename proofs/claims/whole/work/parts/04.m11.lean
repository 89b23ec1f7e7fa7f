-- X5_used
def fX5_used_L4   (v1 : Int32) (g_h : Nat → Int32) : Nat → Int32 → Int32 → Option (Int32)
  | 0, _, _ => none
  | n + 1, v2, v3 => (if 16 ≤ v3 then some v2 else gd v3 17 ((if (g_h (Int32.toNatClampNeg v3)) = (v1 + (1 : Int32)) then ob (fX5_need v3) (fun r6 => nm (v2 + r6) (fun z7 => nm (v3 + 1) (fun z8 => fX5_used_L4 v1 g_h n z7 z8))) else nm (v2 + (0 : Int32)) (fun z4 => nm (v3 + 1) (fun z5 => fX5_used_L4 v1 g_h n z4 z5)))))
set_option maxRecDepth 100000 in
set_option maxHeartbeats 4000000 in
theorem tX5_used_L4 {p : Program} {l : Launch} {e : Env} {s : State} {m : MethodId} {args : Array Value} {below : List Frame} {meth : Method} {c : Code} {D : va_G} {cI cZ : ClassId} {b0 : Nat} {tt : Nat → Nat} {A : Nat → Prop}  {g_a : Nat}  {v1 : Int32} {g_h : Nat → Int32} {res : Int32} (C : Cx p s m args meth c cX5_used 4 (some .int) (cwX5_used :: GW) RX5) : ∀ (n : Nat) (v2 : Int32) (v3 : Int32) (H : Heap) (locs : List Loc) (ls : Array Slot), fX5_used_L4 v1 g_h n v2 v3 = some res → Wd D cI cZ b0 tt A s [(g_a, .inl (cI, 17, .inl g_h))] H locs → lv_has ls 4 [(0, .ref g_a), (1, .int v1), (2, .int v2), (3, .int v3)] → W p l e (rmo 2 40) s m args below meth c H locs 0 0 (MQ below (QI D (fun _ : Unit => [(g_a, .inl (cI, 17, .inl g_h))]) A (res, ())) args s 0 0 A) (F0 m 4 ls []) := by
  obtain ⟨hx, hb, hr, hml, hown, hts, hlk⟩ := id C
  have hg : ∀ w ∈ GW, w.before args s = true := fun w h => hts w (List.mem_cons_of_mem _ h)
  intro n
  induction n with
  | zero =>
    intro _ _ H locs ls hf
    rw [fX5_used_L4] at hf
    cases hf
  | succ n ih =>
    intro v2 v3 H locs ls hf w hl
    rw [fX5_used_L4] at hf
    refine lv_iload_n hx hb dX5_used_4 rfl (lv_at hl 3 rfl) ?_
    refine lv_bipush (v := 16) hx hb dX5_used_5 (by decide) ?_
    refine lv_icmp_ge (tgt := 36) hx hb dX5_used_7 (by decide) (fun c1 => ?_) (fun c1 => ?_)
    · replace hf := ite_t c1 hf
      refine lv_iload_n hx hb dX5_used_36 rfl (lv_at hl 2 rfl) ?_
      exact k_iret (u := ()) hx hb hr hlk w rfl (k_ret1 hf) dX5_used_37
    · replace hf := ite_f c1 hf
      refine lv_iload_n hx hb dX5_used_10 rfl (lv_at hl 2 rfl) ?_
      refine lv_aload_n hx hb dX5_used_11 rfl (lv_at hl 0 rfl) ?_
      refine lv_iload_n hx hb dX5_used_12 rfl (lv_at hl 3 rfl) ?_
      replace hf := gd_at hf
      obtain ⟨hi2, hf⟩ := hf
      refine va_iald hx hb w.2.2.2.2.2.2.1 w.1 0 0 rfl rfl hi2 dX5_used_13 ?_
      refine lv_iload_n hx hb dX5_used_14 rfl (lv_at hl 1 rfl) ?_
      refine lv_iconst (v := 1) hx hb dX5_used_15 (by decide) ?_
      refine lv_iadd hx hb dX5_used_16 ?_
      refine lv_icmp_ne (tgt := 27) hx hb dX5_used_17 (by decide) (fun c3 => ?_) (fun c3 => ?_)
      · replace hf := ite_f c3 hf
        refine lv_iconst (v := 0) hx hb dX5_used_27 (by decide) ?_
        refine lv_iadd hx hb dX5_used_28 ?_
        refine lv_topi (fun z4 ez4 => ?_)
        replace hf := nm_at ez4 hf
        refine lv_istore_n (lv' := [(2, .int z4), (0, .ref g_a), (1, .int v1), (3, .int v3)]) hx hb dX5_used_29 rfl hl (by decide) rfl (fun ls hl => ?_)
        obtain ⟨z5, ez5⟩ : ∃ y : Int32, y = (v3 + 1) := ⟨_, rfl⟩
        replace hf := nm_at ez5 hf
        refine lv_iinc (v := z5) (lv' := [(3, .int z5), (2, .int z4), (0, .ref g_a), (1, .int v1)]) hx hb dX5_used_30 hl (k := 3) rfl (by rw [ez5]; rfl) (by decide) rfl (fun ls hl => ?_)
        refine lv_goto (tgt := 4) hx hb dX5_used_33 (by decide) ?_
        exact ih z4 z5 H locs ls hf w (lv_sub hl [2, 3, 1, 0] rfl)
      · replace hf := ite_t c3 hf
        refine lv_iload_n hx hb dX5_used_20 rfl (lv_at hl 3 rfl) ?_
        replace hf := ob_at hf
        obtain ⟨r6, er6, hf⟩ := hf
        refine k_goI0 w [] rfl (va_runS (As := [.int v3]) (rest := [.int v2]) ⟨hx, hb, hml, hown, hg⟩ (tX5_need l D cI cZ b0 tt v3 er6 H.size) (va_cwS 1 hg (gwS w_615 w_616 w_7 w_617) rfl rfl rfl qdX5_need ⟨Nat.le_of_ble_eq_true rfl, Nat.le_of_ble_eq_true rfl⟩) (k_preS w [] (by decide) rfl) rfl rfl hl.1 rfl (lv_room (Nat.le_of_ble_eq_true rfl)) dX5_used_21 ⟨Nat.le_refl _, Nat.le_refl _⟩) (fun H locs w => ?_)
        refine lv_goto (tgt := 28) hx hb dX5_used_24 (by decide) ?_
        refine lv_iadd hx hb dX5_used_28 ?_
        refine lv_topi (fun z7 ez7 => ?_)
        replace hf := nm_at ez7 hf
        refine lv_istore_n (lv' := [(2, .int z7), (0, .ref g_a), (1, .int v1), (3, .int v3)]) hx hb dX5_used_29 rfl hl (by decide) rfl (fun ls hl => ?_)
        obtain ⟨z8, ez8⟩ : ∃ y : Int32, y = (v3 + 1) := ⟨_, rfl⟩
        replace hf := nm_at ez8 hf
        refine lv_iinc (v := z8) (lv' := [(3, .int z8), (2, .int z7), (0, .ref g_a), (1, .int v1)]) hx hb dX5_used_30 hl (k := 3) rfl (by rw [ez8]; rfl) (by decide) rfl (fun ls hl => ?_)
        refine lv_goto (tgt := 4) hx hb dX5_used_33 (by decide) ?_
        exact ih z7 z8 H locs ls hf w (lv_sub hl [2, 3, 1, 0] rfl)
def fX5_used  (g_h : Nat → Int32) (a2 : Int32) : Option (Int32) := fX5_used_L4 a2 g_h FU 0 0
set_option maxRecDepth 100000 in
set_option maxHeartbeats 4000000 in
theorem tX5_used (l : Launch) (D : va_G) (cI cZ : ClassId) (b0 : Nat) (tt : Nat → Nat)  (g_a : Nat) (g_h : Nat → Int32) (a2 : Int32) {res : Int32} (hf : fX5_used g_h a2 = some res) : CtI l yX5_used (cwX5_used :: GW) 2 40 D cI cZ b0 tt [.ref g_a, .int a2] (fun _ : Unit => [(g_a, .inl (cI, 17, .inl g_h))]) () (res, ()) := by
  intro sz
  refine k_begin (cc := cX5_used) (maxL := 4) (ret := (some .int)) (by decide) rfl (Nat.le_of_ble_eq_true rfl) ?_
  intro p e s m below meth c ls C w hl
  generalize va_A _ sz = A at w ⊢
  have w : Wd D cI cZ b0 tt A s [(g_a, .inl (cI, 17, .inl g_h))] s.heap [] := w
  have hl : lv_has ls 4 [(0, .ref g_a), (1, .int a2)] := hl
  obtain ⟨H, eH⟩ : ∃ H, H = s.heap := ⟨_, rfl⟩
  rw [← eH] at w ⊢
  generalize ([] : List Loc) = locs at w ⊢
  generalize List.toArray _ = args at C ⊢
  obtain ⟨hx, hb, hr, hml, hown, hts, hlk⟩ := id C
  have hg : ∀ w ∈ GW, w.before args s = true := fun w h => hts w (List.mem_cons_of_mem _ h)
  unfold fX5_used at hf
  refine lv_iconst (v := 0) hx hb dX5_used_0 (by decide) ?_
  refine lv_istore_n (lv' := [(2, .int 0), (0, .ref g_a), (1, .int a2)]) hx hb dX5_used_1 rfl hl (by decide) rfl (fun ls hl => ?_)
  refine lv_iconst (v := 0) hx hb dX5_used_2 (by decide) ?_
  refine lv_istore_n (lv' := [(3, .int 0), (2, .int 0), (0, .ref g_a), (1, .int a2)]) hx hb dX5_used_3 rfl hl (by decide) rfl (fun ls hl => ?_)
  exact tX5_used_L4 (v1 := a2) (g_h := g_h) (C := C) FU 0 0 H locs ls hf w (lv_sub hl [2, 3, 1, 0] rfl)
-- X5_left
def fX5_left  (g_h : Nat → Int32) (m_cards : Nat → Int32) (a2 : Int32) : Option (Int32) := gd a2 4 (ob (fX5_used g_h a2) (fun r2 => some ((m_cards (Int32.toNatClampNeg a2)) - r2)))
set_option maxRecDepth 100000 in
set_option maxHeartbeats 4000000 in
theorem tX5_left (l : Launch) (D : va_G) (cI cZ : ClassId) (b0 : Nat) (tt : Nat → Nat)  (m_a q_text q_cards q_readCards q_readPage q_page q_trial q_loads q_book q_kept q_isKept q_heldWho q_heldForce q_heldLoad q_heldIs q_gains q_value g_a : Nat) (m_thrown : Int32) (m_textSize : Int32) (m_place : Int32) (m_acts : Int32) (m_held : Int32) (m_seed : Int64) (m_tentMany : Int32) (m_tentFirst : Int32) (m_restMany : Int32) (m_restFirst : Int32) (g_h : Nat → Int32) (m_loads : Nat → Int32) (m_cards : Nat → Int32) (a2 : Int32) {res : Int32} (hf : fX5_left g_h m_cards a2 = some res) : CtI l yX5_left (cwX5_left :: GW) 3 63 D cI cZ b0 tt [.ref m_a, .ref g_a, .int a2] (fun _ : Unit => [(m_a, .inr (5, [.int m_thrown, .ref q_text, .int m_textSize, .int m_place, .ref q_cards, .ref q_readCards, .ref q_readPage, .ref q_page, .ref q_trial, .ref q_loads, .ref q_book, .int m_acts, .ref q_kept, .ref q_isKept, .int m_held, .ref q_heldWho, .ref q_heldForce, .ref q_heldLoad, .ref q_heldIs, .long m_seed, .int m_tentMany, .int m_tentFirst, .int m_restMany, .int m_restFirst, .ref q_gains, .ref q_value])), (g_a, .inl (cI, 17, .inl g_h)), (q_loads, .inl (cI, 16, .inl m_loads)), (q_cards, .inl (cI, 4, .inl m_cards))]) () (res, ()) := by
  intro sz
  refine k_begin (cc := cX5_left) (maxL := 3) (ret := (some .int)) (by decide) rfl (Nat.le_of_ble_eq_true rfl) ?_
  intro p e s m below meth c ls C w hl
  generalize va_A _ sz = A at w ⊢
  have w : Wd D cI cZ b0 tt A s [(m_a, .inr (5, [.int m_thrown, .ref q_text, .int m_textSize, .int m_place, .ref q_cards, .ref q_readCards, .ref q_readPage, .ref q_page, .ref q_trial, .ref q_loads, .ref q_book, .int m_acts, .ref q_kept, .ref q_isKept, .int m_held, .ref q_heldWho, .ref q_heldForce, .ref q_heldLoad, .ref q_heldIs, .long m_seed, .int m_tentMany, .int m_tentFirst, .int m_restMany, .int m_restFirst, .ref q_gains, .ref q_value])), (g_a, .inl (cI, 17, .inl g_h)), (q_loads, .inl (cI, 16, .inl m_loads)), (q_cards, .inl (cI, 4, .inl m_cards))] s.heap [] := w
  have hl : lv_has ls 3 [(0, .ref m_a), (1, .ref g_a), (2, .int a2)] := hl
  obtain ⟨H, eH⟩ : ∃ H, H = s.heap := ⟨_, rfl⟩
  rw [← eH] at w ⊢
  generalize ([] : List Loc) = locs at w ⊢
  generalize List.toArray _ = args at C ⊢
  obtain ⟨hx, hb, hr, hml, hown, hts, hlk⟩ := id C
  have hg : ∀ w ∈ GW, w.before args s = true := fun w h => hts w (List.mem_cons_of_mem _ h)
  unfold fX5_left at hf
  refine lv_aload_n hx hb dX5_left_0 rfl (lv_at hl 0 rfl) ?_
  refine va_get (D := D) (ci := 5) (v := .ref q_cards) (C := RX5) (T := TX5) (N := 26) hx hb hg iX5 hown w.2.2.2.2.2.2.1 w.1 0 rfl rfl 4 (by decide) (hg _ w_493) (fun _ h9 => h9) rfl dX5_left_1 ?_
  refine lv_iload_n hx hb dX5_left_4 rfl (lv_at hl 2 rfl) ?_
  replace hf := gd_at hf
  obtain ⟨hi1, hf⟩ := hf
  refine va_iald hx hb w.2.2.2.2.2.2.1 w.1 3 0 rfl rfl hi1 dX5_left_5 ?_
  refine lv_aload_n hx hb dX5_left_6 rfl (lv_at hl 1 rfl) ?_
  refine lv_iload_n hx hb dX5_left_7 rfl (lv_at hl 2 rfl) ?_
  replace hf := ob_at hf
  obtain ⟨r2, er2, hf⟩ := hf
  refine k_goI0 w [1] rfl (va_runS (As := [.ref g_a, .int a2]) (rest := [.int (m_cards (Int32.toNatClampNeg a2))]) ⟨hx, hb, hml, hown, hg⟩ (tX5_used l D cI cZ b0 tt g_a g_h a2 er2 H.size) (va_cwS 2 hg (gwS w_612 w_613 w_7 w_614) rfl rfl rfl qdX5_used ⟨Nat.le_of_ble_eq_true rfl, Nat.le_of_ble_eq_true rfl⟩) (k_preS w [1] (by decide) rfl) rfl rfl hl.1 rfl (lv_room (Nat.le_of_ble_eq_true rfl)) dX5_left_8 ⟨Nat.le_refl _, Nat.le_refl _⟩) (fun H locs w => ?_)
  refine lv_isub hx hb dX5_left_11 ?_
  exact k_iret (u := ()) hx hb hr hlk w rfl (k_ret1 hf) dX5_left_12
-- X5_layLoads
def fX5_layLoads_L54  (kk24 : Int32 → (Nat → Int32) → Option ((Nat → Int32))) (v2 : Int32) (v3 : Int32) (g_h : Nat → Int32) : Nat → Int32 → (Nat → Int32) → Option ((Nat → Int32))
  | 0, _, _ => none
  | n + 1, v4, m_loads => (if v2 ≤ v4 then nm (v2 + (-1)) (fun z2 => kk24 z2 m_loads) else gd v4 16 (ob (fX5_below v2) (fun r4 => ob (fX5_has r4 v4) (fun r5 => (if r5 = 0 then nm ((m_loads (Int32.toNatClampNeg v4)) + (0 : Int32)) (fun z7 => gd v4 16 (nm (v4 + 1) (fun z9 => fX5_layLoads_L54 kk24 v2 v3 g_h n z9 (upd m_loads (Int32.toNatClampNeg v4) z7)))) else ob (fX5_isFlat v2) (fun r10 => (if r10 = 0 then nm ((m_loads (Int32.toNatClampNeg v4)) + v3) (fun z12 => gd v4 16 (nm (v4 + 1) (fun z14 => fX5_layLoads_L54 kk24 v2 v3 g_h n z14 (upd m_loads (Int32.toNatClampNeg v4) z12)))) else nm ((m_loads (Int32.toNatClampNeg v4)) + (v3 / (2 : Int32))) (fun z15 => gd v4 16 (nm (v4 + 1) (fun z17 => fX5_layLoads_L54 kk24 v2 v3 g_h n z17 (upd m_loads (Int32.toNatClampNeg v4) z15)))))))))))
set_option maxRecDepth 100000 in
set_option maxHeartbeats 4000000 in
theorem tX5_layLoads_L54 {p : Program} {l : Launch} {e : Env} {s : State} {m : MethodId} {args : Array Value} {below : List Frame} {meth : Method} {c : Code} {D : va_G} {cI cZ : ClassId} {b0 : Nat} {tt : Nat → Nat} {A : Nat → Prop}  {m_a q_text q_cards q_readCards q_readPage q_page q_trial q_loads q_book q_kept q_isKept q_heldWho q_heldForce q_heldLoad q_heldIs q_gains q_value g_a : Nat} {kk24 : Int32 → (Nat → Int32) → Option ((Nat → Int32))} {v2 : Int32} {v3 : Int32} {g_h : Nat → Int32} {m_thrown : Int32} {m_textSize : Int32} {m_place : Int32} {m_acts : Int32} {m_held : Int32} {m_seed : Int64} {m_tentMany : Int32} {m_tentFirst : Int32} {m_restMany : Int32} {m_restFirst : Int32} {m_cards : Nat → Int32} {res : (Nat → Int32)} (C : Cx p s m args meth c cX5_layLoads 5 none (cwX5_layLoads :: GW) RX5) (hK24 : ∀ (v2 : Int32) (m_loads : Nat → Int32) (H : Heap) (locs : List Loc) (ls : Array Slot), kk24 v2 m_loads = some res → Wd D cI cZ b0 tt A s [(m_a, .inr (5, [.int m_thrown, .ref q_text, .int m_textSize, .int m_place, .ref q_cards, .ref q_readCards, .ref q_readPage, .ref q_page, .ref q_trial, .ref q_loads, .ref q_book, .int m_acts, .ref q_kept, .ref q_isKept, .int m_held, .ref q_heldWho, .ref q_heldForce, .ref q_heldLoad, .ref q_heldIs, .long m_seed, .int m_tentMany, .int m_tentFirst, .int m_restMany, .int m_restFirst, .ref q_gains, .ref q_value])), (g_a, .inl (cI, 17, .inl g_h)), (q_loads, .inl (cI, 16, .inl m_loads)), (q_cards, .inl (cI, 4, .inl m_cards))] H locs → lv_has ls 5 [(0, .ref m_a), (1, .ref g_a), (2, .int v2)] → W p l e (rmo 3 61) s m args below meth c H locs 0 0 (MQ below (QV D (fun u : (Nat → Int32) => [(m_a, .inr (5, [.int m_thrown, .ref q_text, .int m_textSize, .int m_place, .ref q_cards, .ref q_readCards, .ref q_readPage, .ref q_page, .ref q_trial, .ref q_loads, .ref q_book, .int m_acts, .ref q_kept, .ref q_isKept, .int m_held, .ref q_heldWho, .ref q_heldForce, .ref q_heldLoad, .ref q_heldIs, .long m_seed, .int m_tentMany, .int m_tentFirst, .int m_restMany, .int m_restFirst, .ref q_gains, .ref q_value])), (g_a, .inl (cI, 17, .inl g_h)), (q_loads, .inl (cI, 16, .inl u)), (q_cards, .inl (cI, 4, .inl m_cards))]) A res) args s 0 0 A) (F0 m 24 ls [])) : ∀ (n : Nat) (v4 : Int32) (m_loads : Nat → Int32) (H : Heap) (locs : List Loc) (ls : Array Slot), fX5_layLoads_L54 kk24 v2 v3 g_h n v4 m_loads = some res → Wd D cI cZ b0 tt A s [(m_a, .inr (5, [.int m_thrown, .ref q_text, .int m_textSize, .int m_place, .ref q_cards, .ref q_readCards, .ref q_readPage, .ref q_page, .ref q_trial, .ref q_loads, .ref q_book, .int m_acts, .ref q_kept, .ref q_isKept, .int m_held, .ref q_heldWho, .ref q_heldForce, .ref q_heldLoad, .ref q_heldIs, .long m_seed, .int m_tentMany, .int m_tentFirst, .int m_restMany, .int m_restFirst, .ref q_gains, .ref q_value])), (g_a, .inl (cI, 17, .inl g_h)), (q_loads, .inl (cI, 16, .inl m_loads)), (q_cards, .inl (cI, 4, .inl m_cards))] H locs → lv_has ls 5 [(0, .ref m_a), (1, .ref g_a), (2, .int v2), (3, .int v3), (4, .int v4)] → W p l e (rmo 3 61) s m args below meth c H locs 0 0 (MQ below (QV D (fun u : (Nat → Int32) => [(m_a, .inr (5, [.int m_thrown, .ref q_text, .int m_textSize, .int m_place, .ref q_cards, .ref q_readCards, .ref q_readPage, .ref q_page, .ref q_trial, .ref q_loads, .ref q_book, .int m_acts, .ref q_kept, .ref q_isKept, .int m_held, .ref q_heldWho, .ref q_heldForce, .ref q_heldLoad, .ref q_heldIs, .long m_seed, .int m_tentMany, .int m_tentFirst, .int m_restMany, .int m_restFirst, .ref q_gains, .ref q_value])), (g_a, .inl (cI, 17, .inl g_h)), (q_loads, .inl (cI, 16, .inl u)), (q_cards, .inl (cI, 4, .inl m_cards))]) A res) args s 0 0 A) (F0 m 54 ls []) := by
  obtain ⟨hx, hb, hr, hml, hown, hts, hlk⟩ := id C
  have hg : ∀ w ∈ GW, w.before args s = true := fun w h => hts w (List.mem_cons_of_mem _ h)
  intro n
  induction n with
  | zero =>
    intro _ _ H locs ls hf
    rw [fX5_layLoads_L54] at hf
    cases hf
  | succ n ih =>
    intro v4 m_loads H locs ls hf w hl
    rw [fX5_layLoads_L54] at hf
    refine lv_iload hx hb dX5_layLoads_54 (lv_at hl 4 rfl) ?_
    refine lv_iload_n hx hb dX5_layLoads_56 rfl (lv_at hl 2 rfl) ?_
    refine lv_icmp_ge (tgt := 106) hx hb dX5_layLoads_57 (by decide) (fun c1 => ?_) (fun c1 => ?_)
    · replace hf := ite_t c1 hf
      obtain ⟨z2, ez2⟩ : ∃ y : Int32, y = (v2 + (-1)) := ⟨_, rfl⟩
      replace hf := nm_at ez2 hf
      refine lv_iinc (v := z2) (lv' := [(2, .int z2), (0, .ref m_a), (1, .ref g_a), (3, .int v3), (4, .int v4)]) hx hb dX5_layLoads_106 hl (k := 2) rfl (by rw [ez2]; rfl) (by decide) rfl (fun ls hl => ?_)
      refine lv_goto (tgt := 24) hx hb dX5_layLoads_109 (by decide) ?_
      exact hK24 z2 m_loads H locs ls hf w (lv_sub hl [1, 2, 0] rfl)
    · replace hf := ite_f c1 hf
      refine lv_aload_n hx hb dX5_layLoads_60 rfl (lv_at hl 0 rfl) ?_
      refine va_get (D := D) (ci := 5) (v := .ref q_loads) (C := RX5) (T := TX5) (N := 26) hx hb hg iX5 hown w.2.2.2.2.2.2.1 w.1 0 rfl rfl 9 (by decide) (hg _ w_498) (fun _ h9 => h9) rfl dX5_layLoads_61 ?_
      refine lv_iload hx hb dX5_layLoads_64 (lv_at hl 4 rfl) ?_
      refine lv_dup2_11 hx hb dX5_layLoads_66 rfl rfl ?_
      replace hf := gd_at hf
      obtain ⟨hi3, hf⟩ := hf
      refine va_iald hx hb w.2.2.2.2.2.2.1 w.1 2 0 rfl rfl hi3 dX5_layLoads_67 ?_
      refine lv_iload_n hx hb dX5_layLoads_68 rfl (lv_at hl 2 rfl) ?_
      replace hf := ob_at hf
      obtain ⟨r4, er4, hf⟩ := hf
      refine k_goI0 w [] rfl (va_runS (As := [.int v2]) (rest := [.int (m_loads (Int32.toNatClampNeg v4)), .int v4, .ref q_loads]) ⟨hx, hb, hml, hown, hg⟩ (tX5_below l D cI cZ b0 tt v2 er4 H.size) (va_cwS 1 hg (gwS w_603 w_604 w_7 w_605) rfl rfl rfl qdX5_below ⟨Nat.le_of_ble_eq_true rfl, Nat.le_of_ble_eq_true rfl⟩) (k_preS w [] (by decide) rfl) rfl rfl hl.1 rfl (lv_room (Nat.le_of_ble_eq_true rfl)) dX5_layLoads_69 ⟨Nat.le_refl _, Nat.le_refl _⟩) (fun H locs w => ?_)
      refine lv_iload hx hb dX5_layLoads_72 (lv_at hl 4 rfl) ?_
      replace hf := ob_at hf
      obtain ⟨r5, er5, hf⟩ := hf
      refine k_goI0 w [] rfl (va_runS (As := [.int r4, .int v4]) (rest := [.int (m_loads (Int32.toNatClampNeg v4)), .int v4, .ref q_loads]) ⟨hx, hb, hml, hown, hg⟩ (tX5_has l D cI cZ b0 tt r4 v4 er5 H.size) (va_cwS 2 hg (gwS w_641 w_642 w_7 w_643) rfl rfl rfl qdX5_has ⟨Nat.le_of_ble_eq_true rfl, Nat.le_of_ble_eq_true rfl⟩) (k_preS w [] (by decide) rfl) rfl rfl hl.1 rfl (lv_room (Nat.le_of_ble_eq_true rfl)) dX5_layLoads_74 ⟨Nat.le_refl _, Nat.le_refl _⟩) (fun H locs w => ?_)
      refine lv_if_eq (tgt := 97) hx hb dX5_layLoads_77 (by decide) (fun c6 => ?_) (fun c6 => ?_)
      · replace hf := ite_t c6 hf
        refine lv_iconst (v := 0) hx hb dX5_layLoads_97 (by decide) ?_
        refine lv_iadd hx hb dX5_layLoads_98 ?_
        refine lv_topi (fun z7 ez7 => ?_)
        replace hf := nm_at ez7 hf
        replace hf := gd_at hf
        obtain ⟨hi8, hf⟩ := hf
        refine k_iast hx hb w 2 rfl hi8 dX5_layLoads_99 (fun H locs w => ?_)
        have w : Wd D cI cZ b0 tt A s [(m_a, .inr (5, [.int m_thrown, .ref q_text, .int m_textSize, .int m_place, .ref q_cards, .ref q_readCards, .ref q_readPage, .ref q_page, .ref q_trial, .ref q_loads, .ref q_book, .int m_acts, .ref q_kept, .ref q_isKept, .int m_held, .ref q_heldWho, .ref q_heldForce, .ref q_heldLoad, .ref q_heldIs, .long m_seed, .int m_tentMany, .int m_tentFirst, .int m_restMany, .int m_restFirst, .ref q_gains, .ref q_value])), (g_a, .inl (cI, 17, .inl g_h)), (q_loads, .inl (cI, 16, .inl (upd m_loads (Int32.toNatClampNeg v4) z7))), (q_cards, .inl (cI, 4, .inl m_cards))] H locs := w
        obtain ⟨z9, ez9⟩ : ∃ y : Int32, y = (v4 + 1) := ⟨_, rfl⟩
        replace hf := nm_at ez9 hf
        refine lv_iinc (v := z9) (lv' := [(4, .int z9), (0, .ref m_a), (1, .ref g_a), (2, .int v2), (3, .int v3)]) hx hb dX5_layLoads_100 hl (k := 4) rfl (by rw [ez9]; rfl) (by decide) rfl (fun ls hl => ?_)
        refine lv_goto (tgt := 54) hx hb dX5_layLoads_103 (by decide) ?_
        exact ih z9 (upd m_loads (Int32.toNatClampNeg v4) z7) H locs ls hf w (lv_sub hl [1, 2, 3, 4, 0] rfl)
      · replace hf := ite_f c6 hf
        refine lv_iload_n hx hb dX5_layLoads_80 rfl (lv_at hl 2 rfl) ?_
        replace hf := ob_at hf
        obtain ⟨r10, er10, hf⟩ := hf
        refine k_goI0 w [] rfl (va_runS (As := [.int v2]) (rest := [.int (m_loads (Int32.toNatClampNeg v4)), .int v4, .ref q_loads]) ⟨hx, hb, hml, hown, hg⟩ (tX5_isFlat l D cI cZ b0 tt v2 er10 H.size) (va_cwS 1 hg (gwS w_618 w_619 w_7 w_620) rfl rfl rfl qdX5_isFlat ⟨Nat.le_of_ble_eq_true rfl, Nat.le_of_ble_eq_true rfl⟩) (k_preS w [] (by decide) rfl) rfl rfl hl.1 rfl (lv_room (Nat.le_of_ble_eq_true rfl)) dX5_layLoads_81 ⟨Nat.le_refl _, Nat.le_refl _⟩) (fun H locs w => ?_)
        refine lv_if_eq (tgt := 93) hx hb dX5_layLoads_84 (by decide) (fun c11 => ?_) (fun c11 => ?_)
        · replace hf := ite_t c11 hf
          refine lv_iload_n hx hb dX5_layLoads_93 rfl (lv_at hl 3 rfl) ?_
          refine lv_goto (tgt := 98) hx hb dX5_layLoads_94 (by decide) ?_
          refine lv_iadd hx hb dX5_layLoads_98 ?_
          refine lv_topi (fun z12 ez12 => ?_)
          replace hf := nm_at ez12 hf
          replace hf := gd_at hf
          obtain ⟨hi13, hf⟩ := hf
          refine k_iast hx hb w 2 rfl hi13 dX5_layLoads_99 (fun H locs w => ?_)
          have w : Wd D cI cZ b0 tt A s [(m_a, .inr (5, [.int m_thrown, .ref q_text, .int m_textSize, .int m_place, .ref q_cards, .ref q_readCards, .ref q_readPage, .ref q_page, .ref q_trial, .ref q_loads, .ref q_book, .int m_acts, .ref q_kept, .ref q_isKept, .int m_held, .ref q_heldWho, .ref q_heldForce, .ref q_heldLoad, .ref q_heldIs, .long m_seed, .int m_tentMany, .int m_tentFirst, .int m_restMany, .int m_restFirst, .ref q_gains, .ref q_value])), (g_a, .inl (cI, 17, .inl g_h)), (q_loads, .inl (cI, 16, .inl (upd m_loads (Int32.toNatClampNeg v4) z12))), (q_cards, .inl (cI, 4, .inl m_cards))] H locs := w
          obtain ⟨z14, ez14⟩ : ∃ y : Int32, y = (v4 + 1) := ⟨_, rfl⟩
          replace hf := nm_at ez14 hf
          refine lv_iinc (v := z14) (lv' := [(4, .int z14), (0, .ref m_a), (1, .ref g_a), (2, .int v2), (3, .int v3)]) hx hb dX5_layLoads_100 hl (k := 4) rfl (by rw [ez14]; rfl) (by decide) rfl (fun ls hl => ?_)
          refine lv_goto (tgt := 54) hx hb dX5_layLoads_103 (by decide) ?_
          exact ih z14 (upd m_loads (Int32.toNatClampNeg v4) z12) H locs ls hf w (lv_sub hl [1, 2, 3, 4, 0] rfl)
        · replace hf := ite_f c11 hf
          refine lv_iload_n hx hb dX5_layLoads_87 rfl (lv_at hl 3 rfl) ?_
          refine lv_iconst (v := 2) hx hb dX5_layLoads_88 (by decide) ?_
          refine lv_idiv hx hb dX5_layLoads_89 (by decide) ?_
          refine lv_goto (tgt := 98) hx hb dX5_layLoads_90 (by decide) ?_
          refine lv_iadd hx hb dX5_layLoads_98 ?_
          refine lv_topi (fun z15 ez15 => ?_)
          replace hf := nm_at ez15 hf
          replace hf := gd_at hf
          obtain ⟨hi16, hf⟩ := hf
          refine k_iast hx hb w 2 rfl hi16 dX5_layLoads_99 (fun H locs w => ?_)
          have w : Wd D cI cZ b0 tt A s [(m_a, .inr (5, [.int m_thrown, .ref q_text, .int m_textSize, .int m_place, .ref q_cards, .ref q_readCards, .ref q_readPage, .ref q_page, .ref q_trial, .ref q_loads, .ref q_book, .int m_acts, .ref q_kept, .ref q_isKept, .int m_held, .ref q_heldWho, .ref q_heldForce, .ref q_heldLoad, .ref q_heldIs, .long m_seed, .int m_tentMany, .int m_tentFirst, .int m_restMany, .int m_restFirst, .ref q_gains, .ref q_value])), (g_a, .inl (cI, 17, .inl g_h)), (q_loads, .inl (cI, 16, .inl (upd m_loads (Int32.toNatClampNeg v4) z15))), (q_cards, .inl (cI, 4, .inl m_cards))] H locs := w
          obtain ⟨z17, ez17⟩ : ∃ y : Int32, y = (v4 + 1) := ⟨_, rfl⟩
          replace hf := nm_at ez17 hf
          refine lv_iinc (v := z17) (lv' := [(4, .int z17), (0, .ref m_a), (1, .ref g_a), (2, .int v2), (3, .int v3)]) hx hb dX5_layLoads_100 hl (k := 4) rfl (by rw [ez17]; rfl) (by decide) rfl (fun ls hl => ?_)
          refine lv_goto (tgt := 54) hx hb dX5_layLoads_103 (by decide) ?_
          exact ih z17 (upd m_loads (Int32.toNatClampNeg v4) z15) H locs ls hf w (lv_sub hl [1, 2, 3, 4, 0] rfl)
def fX5_layLoads_L24   (g_h : Nat → Int32) : Nat → Int32 → (Nat → Int32) → Option ((Nat → Int32))
  | 0, _, _ => none
  | n + 1, v2, m_loads => (if v2 < 0 then some m_loads else gd v2 17 ((if (g_h (Int32.toNatClampNeg v2)) ≤ 0 then nm (v2 + (-1)) (fun z21 => fX5_layLoads_L24 g_h n z21 m_loads) else gd v2 17 (ob (fX5_weighs v2 ((g_h (Int32.toNatClampNeg v2)) - (1 : Int32))) (fun r23 => gd v2 16 (nm (r23 + (m_loads (Int32.toNatClampNeg v2))) (fun z25 => fX5_layLoads_L54 (fun yv2 ym_loads => fX5_layLoads_L24 g_h n yv2 ym_loads) v2 z25 g_h FU 0 m_loads)))))))
set_option maxRecDepth 100000 in
set_option maxHeartbeats 4000000 in
theorem tX5_layLoads_L24 {p : Program} {l : Launch} {e : Env} {s : State} {m : MethodId} {args : Array Value} {below : List Frame} {meth : Method} {c : Code} {D : va_G} {cI cZ : ClassId} {b0 : Nat} {tt : Nat → Nat} {A : Nat → Prop}  {m_a q_text q_cards q_readCards q_readPage q_page q_trial q_loads q_book q_kept q_isKept q_heldWho q_heldForce q_heldLoad q_heldIs q_gains q_value g_a : Nat}  {g_h : Nat → Int32} {m_thrown : Int32} {m_textSize : Int32} {m_place : Int32} {m_acts : Int32} {m_held : Int32} {m_seed : Int64} {m_tentMany : Int32} {m_tentFirst : Int32} {m_restMany : Int32} {m_restFirst : Int32} {m_cards : Nat → Int32} {res : (Nat → Int32)} (C : Cx p s m args meth c cX5_layLoads 5 none (cwX5_layLoads :: GW) RX5) : ∀ (n : Nat) (v2 : Int32) (m_loads : Nat → Int32) (H : Heap) (locs : List Loc) (ls : Array Slot), fX5_layLoads_L24 g_h n v2 m_loads = some res → Wd D cI cZ b0 tt A s [(m_a, .inr (5, [.int m_thrown, .ref q_text, .int m_textSize, .int m_place, .ref q_cards, .ref q_readCards, .ref q_readPage, .ref q_page, .ref q_trial, .ref q_loads, .ref q_book, .int m_acts, .ref q_kept, .ref q_isKept, .int m_held, .ref q_heldWho, .ref q_heldForce, .ref q_heldLoad, .ref q_heldIs, .long m_seed, .int m_tentMany, .int m_tentFirst, .int m_restMany, .int m_restFirst, .ref q_gains, .ref q_value])), (g_a, .inl (cI, 17, .inl g_h)), (q_loads, .inl (cI, 16, .inl m_loads)), (q_cards, .inl (cI, 4, .inl m_cards))] H locs → lv_has ls 5 [(0, .ref m_a), (1, .ref g_a), (2, .int v2)] → W p l e (rmo 3 61) s m args below meth c H locs 0 0 (MQ below (QV D (fun u : (Nat → Int32) => [(m_a, .inr (5, [.int m_thrown, .ref q_text, .int m_textSize, .int m_place, .ref q_cards, .ref q_readCards, .ref q_readPage, .ref q_page, .ref q_trial, .ref q_loads, .ref q_book, .int m_acts, .ref q_kept, .ref q_isKept, .int m_held, .ref q_heldWho, .ref q_heldForce, .ref q_heldLoad, .ref q_heldIs, .long m_seed, .int m_tentMany, .int m_tentFirst, .int m_restMany, .int m_restFirst, .ref q_gains, .ref q_value])), (g_a, .inl (cI, 17, .inl g_h)), (q_loads, .inl (cI, 16, .inl u)), (q_cards, .inl (cI, 4, .inl m_cards))]) A res) args s 0 0 A) (F0 m 24 ls []) := by
  obtain ⟨hx, hb, hr, hml, hown, hts, hlk⟩ := id C
  have hg : ∀ w ∈ GW, w.before args s = true := fun w h => hts w (List.mem_cons_of_mem _ h)
  intro n
  induction n with
  | zero =>
    intro _ _ H locs ls hf
    rw [fX5_layLoads_L24] at hf
    cases hf
  | succ n ih =>
    intro v2 m_loads H locs ls hf w hl
    rw [fX5_layLoads_L24] at hf
    refine lv_iload_n hx hb dX5_layLoads_24 rfl (lv_at hl 2 rfl) ?_
    refine lv_if_lt (tgt := 112) hx hb dX5_layLoads_25 (by decide) (fun c18 => ?_) (fun c18 => ?_)
    · replace hf := ite_t c18 hf
      exact k_vret (u := m_loads) hx hb hr hlk w rfl hf dX5_layLoads_112
    · replace hf := ite_f c18 hf
      refine lv_aload_n hx hb dX5_layLoads_28 rfl (lv_at hl 1 rfl) ?_
      refine lv_iload_n hx hb dX5_layLoads_29 rfl (lv_at hl 2 rfl) ?_
      replace hf := gd_at hf
      obtain ⟨hi19, hf⟩ := hf
      refine va_iald hx hb w.2.2.2.2.2.2.1 w.1 1 0 rfl rfl hi19 dX5_layLoads_30 ?_
      refine lv_if_le (tgt := 106) hx hb dX5_layLoads_31 (by decide) (fun c20 => ?_) (fun c20 => ?_)
      · replace hf := ite_t c20 hf
        obtain ⟨z21, ez21⟩ : ∃ y : Int32, y = (v2 + (-1)) := ⟨_, rfl⟩
        replace hf := nm_at ez21 hf
        refine lv_iinc (v := z21) (lv' := [(2, .int z21), (0, .ref m_a), (1, .ref g_a)]) hx hb dX5_layLoads_106 hl (k := 2) rfl (by rw [ez21]; rfl) (by decide) rfl (fun ls hl => ?_)
        refine lv_goto (tgt := 24) hx hb dX5_layLoads_109 (by decide) ?_
        exact ih z21 m_loads H locs ls hf w (lv_sub hl [1, 2, 0] rfl)
      · replace hf := ite_f c20 hf
        refine lv_iload_n hx hb dX5_layLoads_34 rfl (lv_at hl 2 rfl) ?_
        refine lv_aload_n hx hb dX5_layLoads_35 rfl (lv_at hl 1 rfl) ?_
        refine lv_iload_n hx hb dX5_layLoads_36 rfl (lv_at hl 2 rfl) ?_
        replace hf := gd_at hf
        obtain ⟨hi22, hf⟩ := hf
        refine va_iald hx hb w.2.2.2.2.2.2.1 w.1 1 0 rfl rfl hi22 dX5_layLoads_37 ?_
        refine lv_iconst (v := 1) hx hb dX5_layLoads_38 (by decide) ?_
        refine lv_isub hx hb dX5_layLoads_39 ?_
        replace hf := ob_at hf
        obtain ⟨r23, er23, hf⟩ := hf
        refine k_goI0 w [] rfl (va_runS (As := [.int v2, .int ((g_h (Int32.toNatClampNeg v2)) - (1 : Int32))]) (rest := []) ⟨hx, hb, hml, hown, hg⟩ (tX5_weighs l D cI cZ b0 tt v2 ((g_h (Int32.toNatClampNeg v2)) - (1 : Int32)) er23 H.size) (va_cwS 2 hg (gwS w_638 w_639 w_7 w_640) rfl rfl rfl qdX5_weighs ⟨Nat.le_of_ble_eq_true rfl, Nat.le_of_ble_eq_true rfl⟩) (k_preS w [] (by decide) rfl) rfl rfl hl.1 rfl (lv_room (Nat.le_of_ble_eq_true rfl)) dX5_layLoads_40 ⟨Nat.le_refl _, Nat.le_refl _⟩) (fun H locs w => ?_)
        refine lv_aload_n hx hb dX5_layLoads_43 rfl (lv_at hl 0 rfl) ?_
        refine va_get (D := D) (ci := 5) (v := .ref q_loads) (C := RX5) (T := TX5) (N := 26) hx hb hg iX5 hown w.2.2.2.2.2.2.1 w.1 0 rfl rfl 9 (by decide) (hg _ w_498) (fun _ h9 => h9) rfl dX5_layLoads_44 ?_
        refine lv_iload_n hx hb dX5_layLoads_47 rfl (lv_at hl 2 rfl) ?_
        replace hf := gd_at hf
        obtain ⟨hi24, hf⟩ := hf
        refine va_iald hx hb w.2.2.2.2.2.2.1 w.1 2 0 rfl rfl hi24 dX5_layLoads_48 ?_
        refine lv_iadd hx hb dX5_layLoads_49 ?_
        refine lv_topi (fun z25 ez25 => ?_)
        replace hf := nm_at ez25 hf
        refine lv_istore_n (lv' := [(3, .int z25), (0, .ref m_a), (1, .ref g_a), (2, .int v2)]) hx hb dX5_layLoads_50 rfl hl (by decide) rfl (fun ls hl => ?_)
        refine lv_iconst (v := 0) hx hb dX5_layLoads_51 (by decide) ?_
        refine lv_istore (lv' := [(4, .int 0), (3, .int z25), (0, .ref m_a), (1, .ref g_a), (2, .int v2)]) hx hb dX5_layLoads_52 hl (by decide) rfl (fun ls hl => ?_)
        exact tX5_layLoads_L54 (v2 := v2) (v3 := z25) (g_h := g_h) (m_thrown := m_thrown) (m_textSize := m_textSize) (m_place := m_place) (m_acts := m_acts) (m_held := m_held) (m_seed := m_seed) (m_tentMany := m_tentMany) (m_tentFirst := m_tentFirst) (m_restMany := m_restMany) (m_restFirst := m_restFirst) (m_cards := m_cards) (C := C) (hK24 := ih) FU 0 m_loads H locs ls hf w (lv_sub hl [2, 3, 4, 1, 0] rfl)
def fX5_layLoads_L2   (g_h : Nat → Int32) : Nat → Int32 → (Nat → Int32) → Option ((Nat → Int32))
  | 0, _, _ => none
  | n + 1, v2, m_loads => (if 16 ≤ v2 then fX5_layLoads_L24 g_h FU 15 m_loads else gd v2 16 (nm (v2 + 1) (fun z28 => fX5_layLoads_L2 g_h n z28 (upd m_loads (Int32.toNatClampNeg v2) 0))))
set_option maxRecDepth 100000 in
set_option maxHeartbeats 4000000 in
theorem tX5_layLoads_L2 {p : Program} {l : Launch} {e : Env} {s : State} {m : MethodId} {args : Array Value} {below : List Frame} {meth : Method} {c : Code} {D : va_G} {cI cZ : ClassId} {b0 : Nat} {tt : Nat → Nat} {A : Nat → Prop}  {m_a q_text q_cards q_readCards q_readPage q_page q_trial q_loads q_book q_kept q_isKept q_heldWho q_heldForce q_heldLoad q_heldIs q_gains q_value g_a : Nat}  {g_h : Nat → Int32} {m_thrown : Int32} {m_textSize : Int32} {m_place : Int32} {m_acts : Int32} {m_held : Int32} {m_seed : Int64} {m_tentMany : Int32} {m_tentFirst : Int32} {m_restMany : Int32} {m_restFirst : Int32} {m_cards : Nat → Int32} {res : (Nat → Int32)} (C : Cx p s m args meth c cX5_layLoads 5 none (cwX5_layLoads :: GW) RX5) : ∀ (n : Nat) (v2 : Int32) (m_loads : Nat → Int32) (H : Heap) (locs : List Loc) (ls : Array Slot), fX5_layLoads_L2 g_h n v2 m_loads = some res → Wd D cI cZ b0 tt A s [(m_a, .inr (5, [.int m_thrown, .ref q_text, .int m_textSize, .int m_place, .ref q_cards, .ref q_readCards, .ref q_readPage, .ref q_page, .ref q_trial, .ref q_loads, .ref q_book, .int m_acts, .ref q_kept, .ref q_isKept, .int m_held, .ref q_heldWho, .ref q_heldForce, .ref q_heldLoad, .ref q_heldIs, .long m_seed, .int m_tentMany, .int m_tentFirst, .int m_restMany, .int m_restFirst, .ref q_gains, .ref q_value])), (g_a, .inl (cI, 17, .inl g_h)), (q_loads, .inl (cI, 16, .inl m_loads)), (q_cards, .inl (cI, 4, .inl m_cards))] H locs → lv_has ls 5 [(0, .ref m_a), (1, .ref g_a), (2, .int v2)] → W p l e (rmo 3 61) s m args below meth c H locs 0 0 (MQ below (QV D (fun u : (Nat → Int32) => [(m_a, .inr (5, [.int m_thrown, .ref q_text, .int m_textSize, .int m_place, .ref q_cards, .ref q_readCards, .ref q_readPage, .ref q_page, .ref q_trial, .ref q_loads, .ref q_book, .int m_acts, .ref q_kept, .ref q_isKept, .int m_held, .ref q_heldWho, .ref q_heldForce, .ref q_heldLoad, .ref q_heldIs, .long m_seed, .int m_tentMany, .int m_tentFirst, .int m_restMany, .int m_restFirst, .ref q_gains, .ref q_value])), (g_a, .inl (cI, 17, .inl g_h)), (q_loads, .inl (cI, 16, .inl u)), (q_cards, .inl (cI, 4, .inl m_cards))]) A res) args s 0 0 A) (F0 m 2 ls []) := by
  obtain ⟨hx, hb, hr, hml, hown, hts, hlk⟩ := id C
  have hg : ∀ w ∈ GW, w.before args s = true := fun w h => hts w (List.mem_cons_of_mem _ h)
  intro n
  induction n with
  | zero =>
    intro _ _ H locs ls hf
    rw [fX5_layLoads_L2] at hf
    cases hf
  | succ n ih =>
    intro v2 m_loads H locs ls hf w hl
    rw [fX5_layLoads_L2] at hf
    refine lv_iload_n hx hb dX5_layLoads_2 rfl (lv_at hl 2 rfl) ?_
    refine lv_bipush (v := 16) hx hb dX5_layLoads_3 (by decide) ?_
    refine lv_icmp_ge (tgt := 21) hx hb dX5_layLoads_5 (by decide) (fun c26 => ?_) (fun c26 => ?_)
    · replace hf := ite_t c26 hf
      refine lv_bipush (v := 15) hx hb dX5_layLoads_21 (by decide) ?_
      refine lv_istore_n (lv' := [(2, .int 15), (0, .ref m_a), (1, .ref g_a)]) hx hb dX5_layLoads_23 rfl hl (by decide) rfl (fun ls hl => ?_)
      exact tX5_layLoads_L24 (g_h := g_h) (m_thrown := m_thrown) (m_textSize := m_textSize) (m_place := m_place) (m_acts := m_acts) (m_held := m_held) (m_seed := m_seed) (m_tentMany := m_tentMany) (m_tentFirst := m_tentFirst) (m_restMany := m_restMany) (m_restFirst := m_restFirst) (m_cards := m_cards) (C := C) FU 15 m_loads H locs ls hf w (lv_sub hl [1, 2, 0] rfl)
    · replace hf := ite_f c26 hf
      refine lv_aload_n hx hb dX5_layLoads_8 rfl (lv_at hl 0 rfl) ?_
      refine va_get (D := D) (ci := 5) (v := .ref q_loads) (C := RX5) (T := TX5) (N := 26) hx hb hg iX5 hown w.2.2.2.2.2.2.1 w.1 0 rfl rfl 9 (by decide) (hg _ w_498) (fun _ h9 => h9) rfl dX5_layLoads_9 ?_
      refine lv_iload_n hx hb dX5_layLoads_12 rfl (lv_at hl 2 rfl) ?_
      refine lv_iconst (v := 0) hx hb dX5_layLoads_13 (by decide) ?_
      replace hf := gd_at hf
      obtain ⟨hi27, hf⟩ := hf
      refine k_iast hx hb w 2 rfl hi27 dX5_layLoads_14 (fun H locs w => ?_)
      have w : Wd D cI cZ b0 tt A s [(m_a, .inr (5, [.int m_thrown, .ref q_text, .int m_textSize, .int m_place, .ref q_cards, .ref q_readCards, .ref q_readPage, .ref q_page, .ref q_trial, .ref q_loads, .ref q_book, .int m_acts, .ref q_kept, .ref q_isKept, .int m_held, .ref q_heldWho, .ref q_heldForce, .ref q_heldLoad, .ref q_heldIs, .long m_seed, .int m_tentMany, .int m_tentFirst, .int m_restMany, .int m_restFirst, .ref q_gains, .ref q_value])), (g_a, .inl (cI, 17, .inl g_h)), (q_loads, .inl (cI, 16, .inl (upd m_loads (Int32.toNatClampNeg v2) 0))), (q_cards, .inl (cI, 4, .inl m_cards))] H locs := w
      obtain ⟨z28, ez28⟩ : ∃ y : Int32, y = (v2 + 1) := ⟨_, rfl⟩
      replace hf := nm_at ez28 hf
      refine lv_iinc (v := z28) (lv' := [(2, .int z28), (0, .ref m_a), (1, .ref g_a)]) hx hb dX5_layLoads_15 hl (k := 2) rfl (by rw [ez28]; rfl) (by decide) rfl (fun ls hl => ?_)
      refine lv_goto (tgt := 2) hx hb dX5_layLoads_18 (by decide) ?_
      exact ih z28 (upd m_loads (Int32.toNatClampNeg v2) 0) H locs ls hf w (lv_sub hl [1, 2, 0] rfl)
def fX5_layLoads  (g_h : Nat → Int32) (m_loads : Nat → Int32) : Option ((Nat → Int32)) := fX5_layLoads_L2 g_h FU 0 m_loads
set_option maxRecDepth 100000 in
set_option maxHeartbeats 4000000 in
theorem tX5_layLoads (l : Launch) (D : va_G) (cI cZ : ClassId) (b0 : Nat) (tt : Nat → Nat)  (m_a q_text q_cards q_readCards q_readPage q_page q_trial q_loads q_book q_kept q_isKept q_heldWho q_heldForce q_heldLoad q_heldIs q_gains q_value g_a : Nat) (m_thrown : Int32) (m_textSize : Int32) (m_place : Int32) (m_acts : Int32) (m_held : Int32) (m_seed : Int64) (m_tentMany : Int32) (m_tentFirst : Int32) (m_restMany : Int32) (m_restFirst : Int32) (g_h : Nat → Int32) (m_loads : Nat → Int32) (m_cards : Nat → Int32)  {res : (Nat → Int32)} (hf : fX5_layLoads g_h m_loads = some res) : CtV l yX5_layLoads (cwX5_layLoads :: GW) 3 61 D cI cZ b0 tt [.ref m_a, .ref g_a] (fun u : (Nat → Int32) => [(m_a, .inr (5, [.int m_thrown, .ref q_text, .int m_textSize, .int m_place, .ref q_cards, .ref q_readCards, .ref q_readPage, .ref q_page, .ref q_trial, .ref q_loads, .ref q_book, .int m_acts, .ref q_kept, .ref q_isKept, .int m_held, .ref q_heldWho, .ref q_heldForce, .ref q_heldLoad, .ref q_heldIs, .long m_seed, .int m_tentMany, .int m_tentFirst, .int m_restMany, .int m_restFirst, .ref q_gains, .ref q_value])), (g_a, .inl (cI, 17, .inl g_h)), (q_loads, .inl (cI, 16, .inl u)), (q_cards, .inl (cI, 4, .inl m_cards))]) m_loads res := by
  intro sz
  refine k_begin (cc := cX5_layLoads) (maxL := 5) (ret := none) (by decide) rfl (Nat.le_of_ble_eq_true rfl) ?_
  intro p e s m below meth c ls C w hl
  generalize va_A _ sz = A at w ⊢
  have w : Wd D cI cZ b0 tt A s [(m_a, .inr (5, [.int m_thrown, .ref q_text, .int m_textSize, .int m_place, .ref q_cards, .ref q_readCards, .ref q_readPage, .ref q_page, .ref q_trial, .ref q_loads, .ref q_book, .int m_acts, .ref q_kept, .ref q_isKept, .int m_held, .ref q_heldWho, .ref q_heldForce, .ref q_heldLoad, .ref q_heldIs, .long m_seed, .int m_tentMany, .int m_tentFirst, .int m_restMany, .int m_restFirst, .ref q_gains, .ref q_value])), (g_a, .inl (cI, 17, .inl g_h)), (q_loads, .inl (cI, 16, .inl m_loads)), (q_cards, .inl (cI, 4, .inl m_cards))] s.heap [] := w
  have hl : lv_has ls 5 [(0, .ref m_a), (1, .ref g_a)] := hl
  obtain ⟨H, eH⟩ : ∃ H, H = s.heap := ⟨_, rfl⟩
  rw [← eH] at w ⊢
  generalize ([] : List Loc) = locs at w ⊢
  generalize List.toArray _ = args at C ⊢
  obtain ⟨hx, hb, hr, hml, hown, hts, hlk⟩ := id C
  have hg : ∀ w ∈ GW, w.before args s = true := fun w h => hts w (List.mem_cons_of_mem _ h)
  unfold fX5_layLoads at hf
  refine lv_iconst (v := 0) hx hb dX5_layLoads_0 (by decide) ?_
  refine lv_istore_n (lv' := [(2, .int 0), (0, .ref m_a), (1, .ref g_a)]) hx hb dX5_layLoads_1 rfl hl (by decide) rfl (fun ls hl => ?_)
  exact tX5_layLoads_L2 (g_h := g_h) (m_thrown := m_thrown) (m_textSize := m_textSize) (m_place := m_place) (m_acts := m_acts) (m_held := m_held) (m_seed := m_seed) (m_tentMany := m_tentMany) (m_tentFirst := m_tentFirst) (m_restMany := m_restMany) (m_restFirst := m_restFirst) (m_cards := m_cards) (C := C) FU 0 m_loads H locs ls hf w (lv_sub hl [1, 2, 0] rfl)
-- X5_spreadOf
def fX5_spreadOf_L4   (v1 : Int32) (g_h : Nat → Int32) : Nat → Int32 → Int32 → Option (Int32)
  | 0, _, _ => none
  | n + 1, v2, v3 => (if 16 ≤ v3 then some v2 else gd v3 17 ((if (g_h (Int32.toNatClampNeg v3)) ≤ 0 then nm (v2 ||| (0 : Int32)) (fun z4 => nm (v3 + 1) (fun z5 => fX5_spreadOf_L4 v1 g_h n z4 z5)) else ob (fX5_below v3) (fun r6 => (if (r6 &&& v2) = 0 then nm (v2 ||| (0 : Int32)) (fun z8 => nm (v3 + 1) (fun z9 => fX5_spreadOf_L4 v1 g_h n z8 z9)) else nm (v2 ||| ((1 : Int32) <<< (v3 &&& 31))) (fun z10 => nm (v3 + 1) (fun z11 => fX5_spreadOf_L4 v1 g_h n z10 z11)))))))
set_option maxRecDepth 100000 in
set_option maxHeartbeats 4000000 in
theorem tX5_spreadOf_L4 {p : Program} {l : Launch} {e : Env} {s : State} {m : MethodId} {args : Array Value} {below : List Frame} {meth : Method} {c : Code} {D : va_G} {cI cZ : ClassId} {b0 : Nat} {tt : Nat → Nat} {A : Nat → Prop}  {g_a : Nat}  {v1 : Int32} {g_h : Nat → Int32} {res : Int32} (C : Cx p s m args meth c cX5_spreadOf 4 (some .int) (cwX5_spreadOf :: GW) RX5) : ∀ (n : Nat) (v2 : Int32) (v3 : Int32) (H : Heap) (locs : List Loc) (ls : Array Slot), fX5_spreadOf_L4 v1 g_h n v2 v3 = some res → Wd D cI cZ b0 tt A s [(g_a, .inl (cI, 17, .inl g_h))] H locs → lv_has ls 4 [(0, .ref g_a), (1, .int v1), (2, .int v2), (3, .int v3)] → W p l e (rmo 1 20) s m args below meth c H locs 0 0 (MQ below (QI D (fun _ : Unit => [(g_a, .inl (cI, 17, .inl g_h))]) A (res, ())) args s 0 0 A) (F0 m 4 ls []) := by
  obtain ⟨hx, hb, hr, hml, hown, hts, hlk⟩ := id C
  have hg : ∀ w ∈ GW, w.before args s = true := fun w h => hts w (List.mem_cons_of_mem _ h)
  intro n
  induction n with
  | zero =>
    intro _ _ H locs ls hf
    rw [fX5_spreadOf_L4] at hf
    cases hf
  | succ n ih =>
    intro v2 v3 H locs ls hf w hl
    rw [fX5_spreadOf_L4] at hf
    refine lv_iload_n hx hb dX5_spreadOf_4 rfl (lv_at hl 3 rfl) ?_
    refine lv_bipush (v := 16) hx hb dX5_spreadOf_5 (by decide) ?_
    refine lv_icmp_ge (tgt := 41) hx hb dX5_spreadOf_7 (by decide) (fun c1 => ?_) (fun c1 => ?_)
    · replace hf := ite_t c1 hf
      refine lv_iload_n hx hb dX5_spreadOf_41 rfl (lv_at hl 2 rfl) ?_
      exact k_iret (u := ()) hx hb hr hlk w rfl (k_ret1 hf) dX5_spreadOf_42
    · replace hf := ite_f c1 hf
      refine lv_iload_n hx hb dX5_spreadOf_10 rfl (lv_at hl 2 rfl) ?_
      refine lv_aload_n hx hb dX5_spreadOf_11 rfl (lv_at hl 0 rfl) ?_
      refine lv_iload_n hx hb dX5_spreadOf_12 rfl (lv_at hl 3 rfl) ?_
      replace hf := gd_at hf
      obtain ⟨hi2, hf⟩ := hf
      refine va_iald hx hb w.2.2.2.2.2.2.1 w.1 0 0 rfl rfl hi2 dX5_spreadOf_13 ?_
      refine lv_if_le (tgt := 32) hx hb dX5_spreadOf_14 (by decide) (fun c3 => ?_) (fun c3 => ?_)
      · replace hf := ite_t c3 hf
        refine lv_iconst (v := 0) hx hb dX5_spreadOf_32 (by decide) ?_
        refine lv_ior hx hb dX5_spreadOf_33 ?_
        refine lv_topi (fun z4 ez4 => ?_)
        replace hf := nm_at ez4 hf
        refine lv_istore_n (lv' := [(2, .int z4), (0, .ref g_a), (1, .int v1), (3, .int v3)]) hx hb dX5_spreadOf_34 rfl hl (by decide) rfl (fun ls hl => ?_)
        obtain ⟨z5, ez5⟩ : ∃ y : Int32, y = (v3 + 1) := ⟨_, rfl⟩
        replace hf := nm_at ez5 hf
        refine lv_iinc (v := z5) (lv' := [(3, .int z5), (2, .int z4), (0, .ref g_a), (1, .int v1)]) hx hb dX5_spreadOf_35 hl (k := 3) rfl (by rw [ez5]; rfl) (by decide) rfl (fun ls hl => ?_)
        refine lv_goto (tgt := 4) hx hb dX5_spreadOf_38 (by decide) ?_
        exact ih z4 z5 H locs ls hf w (lv_sub hl [2, 3, 1, 0] rfl)
      · replace hf := ite_f c3 hf
        refine lv_iload_n hx hb dX5_spreadOf_17 rfl (lv_at hl 3 rfl) ?_
        replace hf := ob_at hf
        obtain ⟨r6, er6, hf⟩ := hf
        refine k_goI0 w [] rfl (va_runS (As := [.int v3]) (rest := [.int v2]) ⟨hx, hb, hml, hown, hg⟩ (tX5_below l D cI cZ b0 tt v3 er6 H.size) (va_cwS 1 hg (gwS w_603 w_604 w_7 w_605) rfl rfl rfl qdX5_below ⟨Nat.le_of_ble_eq_true rfl, Nat.le_of_ble_eq_true rfl⟩) (k_preS w [] (by decide) rfl) rfl rfl hl.1 rfl (lv_room (Nat.le_of_ble_eq_true rfl)) dX5_spreadOf_18 ⟨Nat.le_refl _, Nat.le_refl _⟩) (fun H locs w => ?_)
        refine lv_iload_n hx hb dX5_spreadOf_21 rfl (lv_at hl 2 rfl) ?_
        refine lv_iand hx hb dX5_spreadOf_22 ?_
        refine lv_if_eq (tgt := 32) hx hb dX5_spreadOf_23 (by decide) (fun c7 => ?_) (fun c7 => ?_)
        · replace hf := ite_t c7 hf
          refine lv_iconst (v := 0) hx hb dX5_spreadOf_32 (by decide) ?_
          refine lv_ior hx hb dX5_spreadOf_33 ?_
          refine lv_topi (fun z8 ez8 => ?_)
          replace hf := nm_at ez8 hf
          refine lv_istore_n (lv' := [(2, .int z8), (0, .ref g_a), (1, .int v1), (3, .int v3)]) hx hb dX5_spreadOf_34 rfl hl (by decide) rfl (fun ls hl => ?_)
          obtain ⟨z9, ez9⟩ : ∃ y : Int32, y = (v3 + 1) := ⟨_, rfl⟩
          replace hf := nm_at ez9 hf
          refine lv_iinc (v := z9) (lv' := [(3, .int z9), (2, .int z8), (0, .ref g_a), (1, .int v1)]) hx hb dX5_spreadOf_35 hl (k := 3) rfl (by rw [ez9]; rfl) (by decide) rfl (fun ls hl => ?_)
          refine lv_goto (tgt := 4) hx hb dX5_spreadOf_38 (by decide) ?_
          exact ih z8 z9 H locs ls hf w (lv_sub hl [2, 3, 1, 0] rfl)
        · replace hf := ite_f c7 hf
          refine lv_iconst (v := 1) hx hb dX5_spreadOf_26 (by decide) ?_
          refine lv_iload_n hx hb dX5_spreadOf_27 rfl (lv_at hl 3 rfl) ?_
          refine lv_ishl hx hb dX5_spreadOf_28 ?_
          refine lv_goto (tgt := 33) hx hb dX5_spreadOf_29 (by decide) ?_
          refine lv_ior hx hb dX5_spreadOf_33 ?_
          refine lv_topi (fun z10 ez10 => ?_)
          replace hf := nm_at ez10 hf
          refine lv_istore_n (lv' := [(2, .int z10), (0, .ref g_a), (1, .int v1), (3, .int v3)]) hx hb dX5_spreadOf_34 rfl hl (by decide) rfl (fun ls hl => ?_)
          obtain ⟨z11, ez11⟩ : ∃ y : Int32, y = (v3 + 1) := ⟨_, rfl⟩
          replace hf := nm_at ez11 hf
          refine lv_iinc (v := z11) (lv' := [(3, .int z11), (2, .int z10), (0, .ref g_a), (1, .int v1)]) hx hb dX5_spreadOf_35 hl (k := 3) rfl (by rw [ez11]; rfl) (by decide) rfl (fun ls hl => ?_)
          refine lv_goto (tgt := 4) hx hb dX5_spreadOf_38 (by decide) ?_
          exact ih z10 z11 H locs ls hf w (lv_sub hl [2, 3, 1, 0] rfl)
def fX5_spreadOf  (g_h : Nat → Int32) (a2 : Int32) : Option (Int32) := fX5_spreadOf_L4 a2 g_h FU a2 0
set_option maxRecDepth 100000 in
set_option maxHeartbeats 4000000 in
theorem tX5_spreadOf (l : Launch) (D : va_G) (cI cZ : ClassId) (b0 : Nat) (tt : Nat → Nat)  (g_a : Nat) (g_h : Nat → Int32) (a2 : Int32) {res : Int32} (hf : fX5_spreadOf g_h a2 = some res) : CtI l yX5_spreadOf (cwX5_spreadOf :: GW) 1 20 D cI cZ b0 tt [.ref g_a, .int a2] (fun _ : Unit => [(g_a, .inl (cI, 17, .inl g_h))]) () (res, ()) := by
  intro sz
  refine k_begin (cc := cX5_spreadOf) (maxL := 4) (ret := (some .int)) (by decide) rfl (Nat.le_of_ble_eq_true rfl) ?_
  intro p e s m below meth c ls C w hl
  generalize va_A _ sz = A at w ⊢
  have w : Wd D cI cZ b0 tt A s [(g_a, .inl (cI, 17, .inl g_h))] s.heap [] := w
  have hl : lv_has ls 4 [(0, .ref g_a), (1, .int a2)] := hl
  obtain ⟨H, eH⟩ : ∃ H, H = s.heap := ⟨_, rfl⟩
  rw [← eH] at w ⊢
  generalize ([] : List Loc) = locs at w ⊢
  generalize List.toArray _ = args at C ⊢
  obtain ⟨hx, hb, hr, hml, hown, hts, hlk⟩ := id C
  have hg : ∀ w ∈ GW, w.before args s = true := fun w h => hts w (List.mem_cons_of_mem _ h)
  unfold fX5_spreadOf at hf
  refine lv_iload_n hx hb dX5_spreadOf_0 rfl (lv_at hl 1 rfl) ?_
  refine lv_istore_n (lv' := [(2, .int a2), (0, .ref g_a), (1, .int a2)]) hx hb dX5_spreadOf_1 rfl hl (by decide) rfl (fun ls hl => ?_)
  refine lv_iconst (v := 0) hx hb dX5_spreadOf_2 (by decide) ?_
  refine lv_istore_n (lv' := [(3, .int 0), (2, .int a2), (0, .ref g_a), (1, .int a2)]) hx hb dX5_spreadOf_3 rfl hl (by decide) rfl (fun ls hl => ?_)
  exact tX5_spreadOf_L4 (v1 := a2) (g_h := g_h) (C := C) FU a2 0 H locs ls hf w (lv_sub hl [2, 3, 1, 0] rfl)
-- X5_fallAll
def fX5_fallAll_L8   (v1 : Int32) (v2 : Int32) : Nat → Int32 → (Nat → Int32) → Option (Int32 × (Nat → Int32))
  | 0, _, _ => none
  | n + 1, v3, g_h => (if 16 ≤ v3 then ob (fX5_many v2) (fun r2 => some (r2, g_h)) else ob (fX5_has v2 v3) (fun r3 => (if r3 = 0 then gd v3 17 (nm (g_h (Int32.toNatClampNeg v3)) (fun z6 => gd v3 17 (nm (v3 + 1) (fun z8 => fX5_fallAll_L8 v1 v2 n z8 (upd g_h (Int32.toNatClampNeg v3) z6))))) else gd v3 17 (nm (v3 + 1) (fun z10 => fX5_fallAll_L8 v1 v2 n z10 (upd g_h (Int32.toNatClampNeg v3) 0))))))
set_option maxRecDepth 100000 in
set_option maxHeartbeats 4000000 in
theorem tX5_fallAll_L8 {p : Program} {l : Launch} {e : Env} {s : State} {m : MethodId} {args : Array Value} {below : List Frame} {meth : Method} {c : Code} {D : va_G} {cI cZ : ClassId} {b0 : Nat} {tt : Nat → Nat} {A : Nat → Prop}  {g_a : Nat}  {v1 : Int32} {v2 : Int32} {res : Int32 × (Nat → Int32)} (C : Cx p s m args meth c cX5_fallAll 4 (some .int) (cwX5_fallAll :: GW) RX5) : ∀ (n : Nat) (v3 : Int32) (g_h : Nat → Int32) (H : Heap) (locs : List Loc) (ls : Array Slot), fX5_fallAll_L8 v1 v2 n v3 g_h = some res → Wd D cI cZ b0 tt A s [(g_a, .inl (cI, 17, .inl g_h))] H locs → lv_has ls 4 [(0, .ref g_a), (1, .int v1), (2, .int v2), (3, .int v3)] → W p l e (rmo 2 43) s m args below meth c H locs 0 0 (MQ below (QI D (fun u : (Nat → Int32) => [(g_a, .inl (cI, 17, .inl u))]) A res) args s 0 0 A) (F0 m 8 ls []) := by
  obtain ⟨hx, hb, hr, hml, hown, hts, hlk⟩ := id C
  have hg : ∀ w ∈ GW, w.before args s = true := fun w h => hts w (List.mem_cons_of_mem _ h)
  intro n
  induction n with
  | zero =>
    intro _ _ H locs ls hf
    rw [fX5_fallAll_L8] at hf
    cases hf
  | succ n ih =>
    intro v3 g_h H locs ls hf w hl
    rw [fX5_fallAll_L8] at hf
    refine lv_iload_n hx hb dX5_fallAll_8 rfl (lv_at hl 3 rfl) ?_
    refine lv_bipush (v := 16) hx hb dX5_fallAll_9 (by decide) ?_
    refine lv_icmp_ge (tgt := 38) hx hb dX5_fallAll_11 (by decide) (fun c1 => ?_) (fun c1 => ?_)
    · replace hf := ite_t c1 hf
      refine lv_iload_n hx hb dX5_fallAll_38 rfl (lv_at hl 2 rfl) ?_
      replace hf := ob_at hf
      obtain ⟨r2, er2, hf⟩ := hf
      refine k_goI0 w [] rfl (va_runS (As := [.int v2]) (rest := []) ⟨hx, hb, hml, hown, hg⟩ (tX5_many l D cI cZ b0 tt v2 er2 H.size) (va_cwS 1 hg (gwS w_653 w_654 w_7 w_655) rfl rfl rfl qdX5_many ⟨Nat.le_of_ble_eq_true rfl, Nat.le_of_ble_eq_true rfl⟩) (k_preS w [] (by decide) rfl) rfl rfl hl.1 rfl (lv_room (Nat.le_of_ble_eq_true rfl)) dX5_fallAll_39 ⟨Nat.le_refl _, Nat.le_refl _⟩) (fun H locs w => ?_)
      exact k_iret (u := g_h) hx hb hr hlk w rfl hf dX5_fallAll_42
    · replace hf := ite_f c1 hf
      refine lv_aload_n hx hb dX5_fallAll_14 rfl (lv_at hl 0 rfl) ?_
      refine lv_iload_n hx hb dX5_fallAll_15 rfl (lv_at hl 3 rfl) ?_
      refine lv_iload_n hx hb dX5_fallAll_16 rfl (lv_at hl 2 rfl) ?_
      refine lv_iload_n hx hb dX5_fallAll_17 rfl (lv_at hl 3 rfl) ?_
      replace hf := ob_at hf
      obtain ⟨r3, er3, hf⟩ := hf
      refine k_goI0 w [] rfl (va_runS (As := [.int v2, .int v3]) (rest := [.int v3, .ref g_a]) ⟨hx, hb, hml, hown, hg⟩ (tX5_has l D cI cZ b0 tt v2 v3 er3 H.size) (va_cwS 2 hg (gwS w_641 w_642 w_7 w_643) rfl rfl rfl qdX5_has ⟨Nat.le_of_ble_eq_true rfl, Nat.le_of_ble_eq_true rfl⟩) (k_preS w [] (by decide) rfl) rfl rfl hl.1 rfl (lv_room (Nat.le_of_ble_eq_true rfl)) dX5_fallAll_18 ⟨Nat.le_refl _, Nat.le_refl _⟩) (fun H locs w => ?_)
      refine lv_if_eq (tgt := 28) hx hb dX5_fallAll_21 (by decide) (fun c4 => ?_) (fun c4 => ?_)
      · replace hf := ite_t c4 hf
        refine lv_aload_n hx hb dX5_fallAll_28 rfl (lv_at hl 0 rfl) ?_
        refine lv_iload_n hx hb dX5_fallAll_29 rfl (lv_at hl 3 rfl) ?_
        replace hf := gd_at hf
        obtain ⟨hi5, hf⟩ := hf
        refine va_iald hx hb w.2.2.2.2.2.2.1 w.1 0 0 rfl rfl hi5 dX5_fallAll_30 ?_
        refine lv_topi (fun z6 ez6 => ?_)
        replace hf := nm_at ez6 hf
        replace hf := gd_at hf
        obtain ⟨hi7, hf⟩ := hf
        refine k_iast hx hb w 0 rfl hi7 dX5_fallAll_31 (fun H locs w => ?_)
        have w : Wd D cI cZ b0 tt A s [(g_a, .inl (cI, 17, .inl (upd g_h (Int32.toNatClampNeg v3) z6)))] H locs := w
        obtain ⟨z8, ez8⟩ : ∃ y : Int32, y = (v3 + 1) := ⟨_, rfl⟩
        replace hf := nm_at ez8 hf
        refine lv_iinc (v := z8) (lv' := [(3, .int z8), (0, .ref g_a), (1, .int v1), (2, .int v2)]) hx hb dX5_fallAll_32 hl (k := 3) rfl (by rw [ez8]; rfl) (by decide) rfl (fun ls hl => ?_)
        refine lv_goto (tgt := 8) hx hb dX5_fallAll_35 (by decide) ?_
        exact ih z8 (upd g_h (Int32.toNatClampNeg v3) z6) H locs ls hf w (lv_sub hl [1, 2, 3, 0] rfl)
      · replace hf := ite_f c4 hf
        refine lv_iconst (v := 0) hx hb dX5_fallAll_24 (by decide) ?_
        refine lv_goto (tgt := 31) hx hb dX5_fallAll_25 (by decide) ?_
        replace hf := gd_at hf
        obtain ⟨hi9, hf⟩ := hf
        refine k_iast hx hb w 0 rfl hi9 dX5_fallAll_31 (fun H locs w => ?_)
        have w : Wd D cI cZ b0 tt A s [(g_a, .inl (cI, 17, .inl (upd g_h (Int32.toNatClampNeg v3) 0)))] H locs := w
        obtain ⟨z10, ez10⟩ : ∃ y : Int32, y = (v3 + 1) := ⟨_, rfl⟩
        replace hf := nm_at ez10 hf
        refine lv_iinc (v := z10) (lv' := [(3, .int z10), (0, .ref g_a), (1, .int v1), (2, .int v2)]) hx hb dX5_fallAll_32 hl (k := 3) rfl (by rw [ez10]; rfl) (by decide) rfl (fun ls hl => ?_)
        refine lv_goto (tgt := 8) hx hb dX5_fallAll_35 (by decide) ?_
        exact ih z10 (upd g_h (Int32.toNatClampNeg v3) 0) H locs ls hf w (lv_sub hl [1, 2, 3, 0] rfl)
def fX5_fallAll  (g_h : Nat → Int32) (a2 : Int32) : Option (Int32 × (Nat → Int32)) := ob (fX5_spreadOf g_h a2) (fun r11 => fX5_fallAll_L8 a2 r11 FU 0 g_h)
set_option maxRecDepth 100000 in
set_option maxHeartbeats 4000000 in
theorem tX5_fallAll (l : Launch) (D : va_G) (cI cZ : ClassId) (b0 : Nat) (tt : Nat → Nat)  (g_a : Nat) (g_h : Nat → Int32) (a2 : Int32) {res : Int32 × (Nat → Int32)} (hf : fX5_fallAll g_h a2 = some res) : CtI l yX5_fallAll (cwX5_fallAll :: GW) 2 43 D cI cZ b0 tt [.ref g_a, .int a2] (fun u : (Nat → Int32) => [(g_a, .inl (cI, 17, .inl u))]) g_h res := by
  intro sz
  refine k_begin (cc := cX5_fallAll) (maxL := 4) (ret := (some .int)) (by decide) rfl (Nat.le_of_ble_eq_true rfl) ?_
  intro p e s m below meth c ls C w hl
  generalize va_A _ sz = A at w ⊢
  have w : Wd D cI cZ b0 tt A s [(g_a, .inl (cI, 17, .inl g_h))] s.heap [] := w
  have hl : lv_has ls 4 [(0, .ref g_a), (1, .int a2)] := hl
  obtain ⟨H, eH⟩ : ∃ H, H = s.heap := ⟨_, rfl⟩
  rw [← eH] at w ⊢
  generalize ([] : List Loc) = locs at w ⊢
  generalize List.toArray _ = args at C ⊢
  obtain ⟨hx, hb, hr, hml, hown, hts, hlk⟩ := id C
  have hg : ∀ w ∈ GW, w.before args s = true := fun w h => hts w (List.mem_cons_of_mem _ h)
  unfold fX5_fallAll at hf
  refine lv_aload_n hx hb dX5_fallAll_0 rfl (lv_at hl 0 rfl) ?_
  refine lv_iload_n hx hb dX5_fallAll_1 rfl (lv_at hl 1 rfl) ?_
  replace hf := ob_at hf
  obtain ⟨r11, er11, hf⟩ := hf
  refine k_goI0 w [0] rfl (va_runS (As := [.ref g_a, .int a2]) (rest := []) ⟨hx, hb, hml, hown, hg⟩ (tX5_spreadOf l D cI cZ b0 tt g_a g_h a2 er11 H.size) (va_cwS 2 hg (gwS w_650 w_651 w_7 w_652) rfl rfl rfl qdX5_spreadOf ⟨Nat.le_of_ble_eq_true rfl, Nat.le_of_ble_eq_true rfl⟩) (k_preS w [0] (by decide) rfl) rfl rfl hl.1 rfl (lv_room (Nat.le_of_ble_eq_true rfl)) dX5_fallAll_2 ⟨Nat.le_refl _, Nat.le_refl _⟩) (fun H locs w => ?_)
  refine lv_istore_n (lv' := [(2, .int r11), (0, .ref g_a), (1, .int a2)]) hx hb dX5_fallAll_5 rfl hl (by decide) rfl (fun ls hl => ?_)
  refine lv_iconst (v := 0) hx hb dX5_fallAll_6 (by decide) ?_
  refine lv_istore_n (lv' := [(3, .int 0), (2, .int r11), (0, .ref g_a), (1, .int a2)]) hx hb dX5_fallAll_7 rfl hl (by decide) rfl (fun ls hl => ?_)
  exact tX5_fallAll_L8 (v1 := a2) (v2 := r11) (C := C) FU 0 g_h H locs ls hf w (lv_sub hl [2, 3, 1, 0] rfl)
-- X5_weak
def fX5_weak_L9   (g_h : Nat → Int32) (m_loads : Nat → Int32) : Nat → Int32 → Int32 → Option (Int32 × (Nat → Int32))
  | 0, _, _ => none
  | n + 1, v2, v3 => (if 16 ≤ v3 then some (v2, m_loads) else gd v3 17 ((if (g_h (Int32.toNatClampNeg v3)) ≤ 0 then nm (v2 ||| (0 : Int32)) (fun z4 => nm (v3 + 1) (fun z5 => fX5_weak_L9 g_h m_loads n z4 z5)) else gd v3 16 (gd v3 17 (ob (fX5_bearsBy ((g_h (Int32.toNatClampNeg v3)) - (1 : Int32))) (fun r8 => (if (m_loads (Int32.toNatClampNeg v3)) ≤ r8 then nm (v2 ||| (0 : Int32)) (fun z10 => nm (v3 + 1) (fun z11 => fX5_weak_L9 g_h m_loads n z10 z11)) else nm (v2 ||| ((1 : Int32) <<< (v3 &&& 31))) (fun z12 => nm (v3 + 1) (fun z13 => fX5_weak_L9 g_h m_loads n z12 z13)))))))))
set_option maxRecDepth 100000 in
set_option maxHeartbeats 4000000 in
theorem tX5_weak_L9 {p : Program} {l : Launch} {e : Env} {s : State} {m : MethodId} {args : Array Value} {below : List Frame} {meth : Method} {c : Code} {D : va_G} {cI cZ : ClassId} {b0 : Nat} {tt : Nat → Nat} {A : Nat → Prop}  {m_a q_text q_cards q_readCards q_readPage q_page q_trial q_loads q_book q_kept q_isKept q_heldWho q_heldForce q_heldLoad q_heldIs q_gains q_value g_a : Nat}  {g_h : Nat → Int32} {m_loads : Nat → Int32} {m_thrown : Int32} {m_textSize : Int32} {m_place : Int32} {m_acts : Int32} {m_held : Int32} {m_seed : Int64} {m_tentMany : Int32} {m_tentFirst : Int32} {m_restMany : Int32} {m_restFirst : Int32} {m_cards : Nat → Int32} {res : Int32 × (Nat → Int32)} (C : Cx p s m args meth c cX5_weak 4 (some .int) (cwX5_weak :: GW) RX5) : ∀ (n : Nat) (v2 : Int32) (v3 : Int32) (H : Heap) (locs : List Loc) (ls : Array Slot), fX5_weak_L9 g_h m_loads n v2 v3 = some res → Wd D cI cZ b0 tt A s [(m_a, .inr (5, [.int m_thrown, .ref q_text, .int m_textSize, .int m_place, .ref q_cards, .ref q_readCards, .ref q_readPage, .ref q_page, .ref q_trial, .ref q_loads, .ref q_book, .int m_acts, .ref q_kept, .ref q_isKept, .int m_held, .ref q_heldWho, .ref q_heldForce, .ref q_heldLoad, .ref q_heldIs, .long m_seed, .int m_tentMany, .int m_tentFirst, .int m_restMany, .int m_restFirst, .ref q_gains, .ref q_value])), (g_a, .inl (cI, 17, .inl g_h)), (q_loads, .inl (cI, 16, .inl m_loads)), (q_cards, .inl (cI, 4, .inl m_cards))] H locs → lv_has ls 4 [(0, .ref m_a), (1, .ref g_a), (2, .int v2), (3, .int v3)] → W p l e (rmo 4 85) s m args below meth c H locs 0 0 (MQ below (QI D (fun u : (Nat → Int32) => [(m_a, .inr (5, [.int m_thrown, .ref q_text, .int m_textSize, .int m_place, .ref q_cards, .ref q_readCards, .ref q_readPage, .ref q_page, .ref q_trial, .ref q_loads, .ref q_book, .int m_acts, .ref q_kept, .ref q_isKept, .int m_held, .ref q_heldWho, .ref q_heldForce, .ref q_heldLoad, .ref q_heldIs, .long m_seed, .int m_tentMany, .int m_tentFirst, .int m_restMany, .int m_restFirst, .ref q_gains, .ref q_value])), (g_a, .inl (cI, 17, .inl g_h)), (q_loads, .inl (cI, 16, .inl u)), (q_cards, .inl (cI, 4, .inl m_cards))]) A res) args s 0 0 A) (F0 m 9 ls []) := by
  obtain ⟨hx, hb, hr, hml, hown, hts, hlk⟩ := id C
  have hg : ∀ w ∈ GW, w.before args s = true := fun w h => hts w (List.mem_cons_of_mem _ h)
  intro n
  induction n with
  | zero =>
    intro _ _ H locs ls hf
    rw [fX5_weak_L9] at hf
    cases hf
  | succ n ih =>
    intro v2 v3 H locs ls hf w hl
    rw [fX5_weak_L9] at hf
    refine lv_iload_n hx hb dX5_weak_9 rfl (lv_at hl 3 rfl) ?_
    refine lv_bipush (v := 16) hx hb dX5_weak_10 (by decide) ?_
    refine lv_icmp_ge (tgt := 54) hx hb dX5_weak_12 (by decide) (fun c1 => ?_) (fun c1 => ?_)
    · replace hf := ite_t c1 hf
      refine lv_iload_n hx hb dX5_weak_54 rfl (lv_at hl 2 rfl) ?_
      exact k_iret (u := m_loads) hx hb hr hlk w rfl hf dX5_weak_55
    · replace hf := ite_f c1 hf
      refine lv_iload_n hx hb dX5_weak_15 rfl (lv_at hl 2 rfl) ?_
      refine lv_aload_n hx hb dX5_weak_16 rfl (lv_at hl 1 rfl) ?_
      refine lv_iload_n hx hb dX5_weak_17 rfl (lv_at hl 3 rfl) ?_
      replace hf := gd_at hf
      obtain ⟨hi2, hf⟩ := hf
      refine va_iald hx hb w.2.2.2.2.2.2.1 w.1 1 0 rfl rfl hi2 dX5_weak_18 ?_
      refine lv_if_le (tgt := 45) hx hb dX5_weak_19 (by decide) (fun c3 => ?_) (fun c3 => ?_)
      · replace hf := ite_t c3 hf
        refine lv_iconst (v := 0) hx hb dX5_weak_45 (by decide) ?_
        refine lv_ior hx hb dX5_weak_46 ?_
        refine lv_topi (fun z4 ez4 => ?_)
        replace hf := nm_at ez4 hf
        refine lv_istore_n (lv' := [(2, .int z4), (0, .ref m_a), (1, .ref g_a), (3, .int v3)]) hx hb dX5_weak_47 rfl hl (by decide) rfl (fun ls hl => ?_)
        obtain ⟨z5, ez5⟩ : ∃ y : Int32, y = (v3 + 1) := ⟨_, rfl⟩
        replace hf := nm_at ez5 hf
        refine lv_iinc (v := z5) (lv' := [(3, .int z5), (2, .int z4), (0, .ref m_a), (1, .ref g_a)]) hx hb dX5_weak_48 hl (k := 3) rfl (by rw [ez5]; rfl) (by decide) rfl (fun ls hl => ?_)
        refine lv_goto (tgt := 9) hx hb dX5_weak_51 (by decide) ?_
        exact ih z4 z5 H locs ls hf w (lv_sub hl [2, 3, 1, 0] rfl)
      · replace hf := ite_f c3 hf
        refine lv_aload_n hx hb dX5_weak_22 rfl (lv_at hl 0 rfl) ?_
        refine va_get (D := D) (ci := 5) (v := .ref q_loads) (C := RX5) (T := TX5) (N := 26) hx hb hg iX5 hown w.2.2.2.2.2.2.1 w.1 0 rfl rfl 9 (by decide) (hg _ w_498) (fun _ h9 => h9) rfl dX5_weak_23 ?_
        refine lv_iload_n hx hb dX5_weak_26 rfl (lv_at hl 3 rfl) ?_
        replace hf := gd_at hf
        obtain ⟨hi6, hf⟩ := hf
        refine va_iald hx hb w.2.2.2.2.2.2.1 w.1 2 0 rfl rfl hi6 dX5_weak_27 ?_
        refine lv_aload_n hx hb dX5_weak_28 rfl (lv_at hl 1 rfl) ?_
        refine lv_iload_n hx hb dX5_weak_29 rfl (lv_at hl 3 rfl) ?_
        replace hf := gd_at hf
        obtain ⟨hi7, hf⟩ := hf
        refine va_iald hx hb w.2.2.2.2.2.2.1 w.1 1 0 rfl rfl hi7 dX5_weak_30 ?_
        refine lv_iconst (v := 1) hx hb dX5_weak_31 (by decide) ?_
        refine lv_isub hx hb dX5_weak_32 ?_
        replace hf := ob_at hf
        obtain ⟨r8, er8, hf⟩ := hf
        refine k_goI0 w [] rfl (va_runS (As := [.int ((g_h (Int32.toNatClampNeg v3)) - (1 : Int32))]) (rest := [.int (m_loads (Int32.toNatClampNeg v3)), .int v2]) ⟨hx, hb, hml, hown, hg⟩ (tX5_bearsBy l D cI cZ b0 tt ((g_h (Int32.toNatClampNeg v3)) - (1 : Int32)) er8 H.size) (va_cwS 1 hg (gwS w_644 w_645 w_7 w_646) rfl rfl rfl qdX5_bearsBy ⟨Nat.le_of_ble_eq_true rfl, Nat.le_of_ble_eq_true rfl⟩) (k_preS w [] (by decide) rfl) rfl rfl hl.1 rfl (lv_room (Nat.le_of_ble_eq_true rfl)) dX5_weak_33 ⟨Nat.le_refl _, Nat.le_refl _⟩) (fun H locs w => ?_)
        refine lv_icmp_le (tgt := 45) hx hb dX5_weak_36 (by decide) (fun c9 => ?_) (fun c9 => ?_)
        · replace hf := ite_t c9 hf
          refine lv_iconst (v := 0) hx hb dX5_weak_45 (by decide) ?_
          refine lv_ior hx hb dX5_weak_46 ?_
          refine lv_topi (fun z10 ez10 => ?_)
          replace hf := nm_at ez10 hf
          refine lv_istore_n (lv' := [(2, .int z10), (0, .ref m_a), (1, .ref g_a), (3, .int v3)]) hx hb dX5_weak_47 rfl hl (by decide) rfl (fun ls hl => ?_)
          obtain ⟨z11, ez11⟩ : ∃ y : Int32, y = (v3 + 1) := ⟨_, rfl⟩
          replace hf := nm_at ez11 hf
          refine lv_iinc (v := z11) (lv' := [(3, .int z11), (2, .int z10), (0, .ref m_a), (1, .ref g_a)]) hx hb dX5_weak_48 hl (k := 3) rfl (by rw [ez11]; rfl) (by decide) rfl (fun ls hl => ?_)
          refine lv_goto (tgt := 9) hx hb dX5_weak_51 (by decide) ?_
          exact ih z10 z11 H locs ls hf w (lv_sub hl [2, 3, 1, 0] rfl)
        · replace hf := ite_f c9 hf
          refine lv_iconst (v := 1) hx hb dX5_weak_39 (by decide) ?_
          refine lv_iload_n hx hb dX5_weak_40 rfl (lv_at hl 3 rfl) ?_
          refine lv_ishl hx hb dX5_weak_41 ?_
          refine lv_goto (tgt := 46) hx hb dX5_weak_42 (by decide) ?_
          refine lv_ior hx hb dX5_weak_46 ?_
          refine lv_topi (fun z12 ez12 => ?_)
          replace hf := nm_at ez12 hf
          refine lv_istore_n (lv' := [(2, .int z12), (0, .ref m_a), (1, .ref g_a), (3, .int v3)]) hx hb dX5_weak_47 rfl hl (by decide) rfl (fun ls hl => ?_)
          obtain ⟨z13, ez13⟩ : ∃ y : Int32, y = (v3 + 1) := ⟨_, rfl⟩
          replace hf := nm_at ez13 hf
          refine lv_iinc (v := z13) (lv' := [(3, .int z13), (2, .int z12), (0, .ref m_a), (1, .ref g_a)]) hx hb dX5_weak_48 hl (k := 3) rfl (by rw [ez13]; rfl) (by decide) rfl (fun ls hl => ?_)
          refine lv_goto (tgt := 9) hx hb dX5_weak_51 (by decide) ?_
          exact ih z12 z13 H locs ls hf w (lv_sub hl [2, 3, 1, 0] rfl)
def fX5_weak  (g_h : Nat → Int32) (m_loads : Nat → Int32) : Option (Int32 × (Nat → Int32)) := ob (fX5_layLoads g_h m_loads) (fun r14 => fX5_weak_L9 g_h r14 FU 0 0)
set_option maxRecDepth 100000 in
set_option maxHeartbeats 4000000 in
theorem tX5_weak (l : Launch) (D : va_G) (cI cZ : ClassId) (b0 : Nat) (tt : Nat → Nat)  (m_a q_text q_cards q_readCards q_readPage q_page q_trial q_loads q_book q_kept q_isKept q_heldWho q_heldForce q_heldLoad q_heldIs q_gains q_value g_a : Nat) (m_thrown : Int32) (m_textSize : Int32) (m_place : Int32) (m_acts : Int32) (m_held : Int32) (m_seed : Int64) (m_tentMany : Int32) (m_tentFirst : Int32) (m_restMany : Int32) (m_restFirst : Int32) (g_h : Nat → Int32) (m_loads : Nat → Int32) (m_cards : Nat → Int32)  {res : Int32 × (Nat → Int32)} (hf : fX5_weak g_h m_loads = some res) : CtI l yX5_weak (cwX5_weak :: GW) 4 85 D cI cZ b0 tt [.ref m_a, .ref g_a] (fun u : (Nat → Int32) => [(m_a, .inr (5, [.int m_thrown, .ref q_text, .int m_textSize, .int m_place, .ref q_cards, .ref q_readCards, .ref q_readPage, .ref q_page, .ref q_trial, .ref q_loads, .ref q_book, .int m_acts, .ref q_kept, .ref q_isKept, .int m_held, .ref q_heldWho, .ref q_heldForce, .ref q_heldLoad, .ref q_heldIs, .long m_seed, .int m_tentMany, .int m_tentFirst, .int m_restMany, .int m_restFirst, .ref q_gains, .ref q_value])), (g_a, .inl (cI, 17, .inl g_h)), (q_loads, .inl (cI, 16, .inl u)), (q_cards, .inl (cI, 4, .inl m_cards))]) m_loads res := by
  intro sz
  refine k_begin (cc := cX5_weak) (maxL := 4) (ret := (some .int)) (by decide) rfl (Nat.le_of_ble_eq_true rfl) ?_
  intro p e s m below meth c ls C w hl
  generalize va_A _ sz = A at w ⊢
  have w : Wd D cI cZ b0 tt A s [(m_a, .inr (5, [.int m_thrown, .ref q_text, .int m_textSize, .int m_place, .ref q_cards, .ref q_readCards, .ref q_readPage, .ref q_page, .ref q_trial, .ref q_loads, .ref q_book, .int m_acts, .ref q_kept, .ref q_isKept, .int m_held, .ref q_heldWho, .ref q_heldForce, .ref q_heldLoad, .ref q_heldIs, .long m_seed, .int m_tentMany, .int m_tentFirst, .int m_restMany, .int m_restFirst, .ref q_gains, .ref q_value])), (g_a, .inl (cI, 17, .inl g_h)), (q_loads, .inl (cI, 16, .inl m_loads)), (q_cards, .inl (cI, 4, .inl m_cards))] s.heap [] := w
  have hl : lv_has ls 4 [(0, .ref m_a), (1, .ref g_a)] := hl
  obtain ⟨H, eH⟩ : ∃ H, H = s.heap := ⟨_, rfl⟩
  rw [← eH] at w ⊢
  generalize ([] : List Loc) = locs at w ⊢
  generalize List.toArray _ = args at C ⊢
  obtain ⟨hx, hb, hr, hml, hown, hts, hlk⟩ := id C
  have hg : ∀ w ∈ GW, w.before args s = true := fun w h => hts w (List.mem_cons_of_mem _ h)
  unfold fX5_weak at hf
  refine lv_aload_n hx hb dX5_weak_0 rfl (lv_at hl 0 rfl) ?_
  refine lv_aload_n hx hb dX5_weak_1 rfl (lv_at hl 1 rfl) ?_
  replace hf := ob_at hf
  obtain ⟨r14, er14, hf⟩ := hf
  refine k_goV (v0 := m_loads) (res := r14) w [0, 1, 2, 3] rfl (fun _ => rfl) (va_runV (As := [.ref g_a]) (rest := []) ⟨hx, hb, hml, hown, hg⟩ (tX5_layLoads l D cI cZ b0 tt m_a q_text q_cards q_readCards q_readPage q_page q_trial q_loads q_book q_kept q_isKept q_heldWho q_heldForce q_heldLoad q_heldIs q_gains q_value g_a m_thrown m_textSize m_place m_acts m_held m_seed m_tentMany m_tentFirst m_restMany m_restFirst g_h m_loads m_cards er14 H.size) (cwV 1 hg (gwV w_635 w_636 w_851 w_7 w_637) rfl rfl rfl ⟨rfl, qdX5_layLoads⟩ ⟨Nat.le_of_ble_eq_true rfl, Nat.le_of_ble_eq_true rfl⟩) (k_preV w [0, 1, 2, 3] (by decide) rfl (q0 := 0) rfl rfl) rfl rfl hl.1 rfl (lv_room (Nat.le_of_ble_eq_true rfl)) dX5_weak_2 ⟨Nat.le_refl _, Nat.le_refl _⟩) (fun H locs w => ?_)
  have w : Wd D cI cZ b0 tt A s [(m_a, .inr (5, [.int m_thrown, .ref q_text, .int m_textSize, .int m_place, .ref q_cards, .ref q_readCards, .ref q_readPage, .ref q_page, .ref q_trial, .ref q_loads, .ref q_book, .int m_acts, .ref q_kept, .ref q_isKept, .int m_held, .ref q_heldWho, .ref q_heldForce, .ref q_heldLoad, .ref q_heldIs, .long m_seed, .int m_tentMany, .int m_tentFirst, .int m_restMany, .int m_restFirst, .ref q_gains, .ref q_value])), (g_a, .inl (cI, 17, .inl g_h)), (q_loads, .inl (cI, 16, .inl r14)), (q_cards, .inl (cI, 4, .inl m_cards))] H locs := w
  refine lv_iconst (v := 0) hx hb dX5_weak_5 (by decide) ?_
  refine lv_istore_n (lv' := [(2, .int 0), (0, .ref m_a), (1, .ref g_a)]) hx hb dX5_weak_6 rfl hl (by decide) rfl (fun ls hl => ?_)
  refine lv_iconst (v := 0) hx hb dX5_weak_7 (by decide) ?_
  refine lv_istore_n (lv' := [(3, .int 0), (2, .int 0), (0, .ref m_a), (1, .ref g_a)]) hx hb dX5_weak_8 rfl hl (by decide) rfl (fun ls hl => ?_)
  exact tX5_weak_L9 (g_h := g_h) (m_loads := r14) (m_thrown := m_thrown) (m_textSize := m_textSize) (m_place := m_place) (m_acts := m_acts) (m_held := m_held) (m_seed := m_seed) (m_tentMany := m_tentMany) (m_tentFirst := m_tentFirst) (m_restMany := m_restMany) (m_restFirst := m_restFirst) (m_cards := m_cards) (C := C) FU 0 0 H locs ls hf w (lv_sub hl [2, 3, 1, 0] rfl)
-- X5_settle
def fX5_settle_L8   : Nat → Int32 → Int32 → (Nat → Int32) → (Nat → Int32) → Option (Int32 × (Nat → Int32) × (Nat → Int32))
  | 0, _, _, _, _ => none
  | n + 1, v2, v3, g_h, m_loads => (if v3 = 0 then some (v2, (g_h, m_loads)) else ob (fX5_fallAll g_h v3) (fun r2 => nm (v2 + r2.1) (fun z3 => ob (fX5_weak r2.2 m_loads) (fun r4 => fX5_settle_L8  n z3 r4.1 r2.2 r4.2))))
set_option maxRecDepth 100000 in
set_option maxHeartbeats 4000000 in
theorem tX5_settle_L8 {p : Program} {l : Launch} {e : Env} {s : State} {m : MethodId} {args : Array Value} {below : List Frame} {meth : Method} {c : Code} {D : va_G} {cI cZ : ClassId} {b0 : Nat} {tt : Nat → Nat} {A : Nat → Prop}  {m_a q_text q_cards q_readCards q_readPage q_page q_trial q_loads q_book q_kept q_isKept q_heldWho q_heldForce q_heldLoad q_heldIs q_gains q_value g_a : Nat}  {m_thrown : Int32} {m_textSize : Int32} {m_place : Int32} {m_acts : Int32} {m_held : Int32} {m_seed : Int64} {m_tentMany : Int32} {m_tentFirst : Int32} {m_restMany : Int32} {m_restFirst : Int32} {m_cards : Nat → Int32} {res : Int32 × (Nat → Int32) × (Nat → Int32)} (C : Cx p s m args meth c cX5_settle 4 (some .int) (cwX5_settle :: GW) RX5) : ∀ (n : Nat) (v2 : Int32) (v3 : Int32) (g_h : Nat → Int32) (m_loads : Nat → Int32) (H : Heap) (locs : List Loc) (ls : Array Slot), fX5_settle_L8  n v2 v3 g_h m_loads = some res → Wd D cI cZ b0 tt A s [(m_a, .inr (5, [.int m_thrown, .ref q_text, .int m_textSize, .int m_place, .ref q_cards, .ref q_readCards, .ref q_readPage, .ref q_page, .ref q_trial, .ref q_loads, .ref q_book, .int m_acts, .ref q_kept, .ref q_isKept, .int m_held, .ref q_heldWho, .ref q_heldForce, .ref q_heldLoad, .ref q_heldIs, .long m_seed, .int m_tentMany, .int m_tentFirst, .int m_restMany, .int m_restFirst, .ref q_gains, .ref q_value])), (g_a, .inl (cI, 17, .inl g_h)), (q_loads, .inl (cI, 16, .inl m_loads)), (q_cards, .inl (cI, 4, .inl m_cards))] H locs → lv_has ls 4 [(0, .ref m_a), (1, .ref g_a), (2, .int v2), (3, .int v3)] → W p l e (rmo 5 108) s m args below meth c H locs 0 0 (MQ below (QI D (fun u : (Nat → Int32) × (Nat → Int32) => [(m_a, .inr (5, [.int m_thrown, .ref q_text, .int m_textSize, .int m_place, .ref q_cards, .ref q_readCards, .ref q_readPage, .ref q_page, .ref q_trial, .ref q_loads, .ref q_book, .int m_acts, .ref q_kept, .ref q_isKept, .int m_held, .ref q_heldWho, .ref q_heldForce, .ref q_heldLoad, .ref q_heldIs, .long m_seed, .int m_tentMany, .int m_tentFirst, .int m_restMany, .int m_restFirst, .ref q_gains, .ref q_value])), (g_a, .inl (cI, 17, .inl u.1)), (q_loads, .inl (cI, 16, .inl u.2)), (q_cards, .inl (cI, 4, .inl m_cards))]) A res) args s 0 0 A) (F0 m 8 ls []) := by
  obtain ⟨hx, hb, hr, hml, hown, hts, hlk⟩ := id C
  have hg : ∀ w ∈ GW, w.before args s = true := fun w h => hts w (List.mem_cons_of_mem _ h)
  intro n
  induction n with
  | zero =>
    intro _ _ _ _ H locs ls hf
    rw [fX5_settle_L8] at hf
    cases hf
  | succ n ih =>
    intro v2 v3 g_h m_loads H locs ls hf w hl
    rw [fX5_settle_L8] at hf
    refine lv_iload_n hx hb dX5_settle_8 rfl (lv_at hl 3 rfl) ?_
    refine lv_if_eq (tgt := 29) hx hb dX5_settle_9 (by decide) (fun c1 => ?_) (fun c1 => ?_)
    · replace hf := ite_t c1 hf
      refine lv_iload_n hx hb dX5_settle_29 rfl (lv_at hl 2 rfl) ?_
      exact k_iret (u := (g_h, m_loads)) hx hb hr hlk w rfl hf dX5_settle_30
    · replace hf := ite_f c1 hf
      refine lv_iload_n hx hb dX5_settle_12 rfl (lv_at hl 2 rfl) ?_
      refine lv_aload_n hx hb dX5_settle_13 rfl (lv_at hl 1 rfl) ?_
      refine lv_iload_n hx hb dX5_settle_14 rfl (lv_at hl 3 rfl) ?_
      replace hf := ob_at hf
      obtain ⟨r2, er2, hf⟩ := hf
      refine k_goI (v0 := g_h) (res := r2) w [1] rfl (fun _ => rfl) (va_runS (As := [.ref g_a, .int v3]) (rest := [.int v2]) ⟨hx, hb, hml, hown, hg⟩ (tX5_fallAll l D cI cZ b0 tt g_a g_h v3 er2 H.size) (va_cwS 2 hg (gwS w_647 w_648 w_7 w_649) rfl rfl rfl qdX5_fallAll ⟨Nat.le_of_ble_eq_true rfl, Nat.le_of_ble_eq_true rfl⟩) (k_preS w [1] (by decide) rfl) rfl rfl hl.1 rfl (lv_room (Nat.le_of_ble_eq_true rfl)) dX5_settle_15 ⟨Nat.le_refl _, Nat.le_refl _⟩) (fun H locs w => ?_)
      have w : Wd D cI cZ b0 tt A s [(m_a, .inr (5, [.int m_thrown, .ref q_text, .int m_textSize, .int m_place, .ref q_cards, .ref q_readCards, .ref q_readPage, .ref q_page, .ref q_trial, .ref q_loads, .ref q_book, .int m_acts, .ref q_kept, .ref q_isKept, .int m_held, .ref q_heldWho, .ref q_heldForce, .ref q_heldLoad, .ref q_heldIs, .long m_seed, .int m_tentMany, .int m_tentFirst, .int m_restMany, .int m_restFirst, .ref q_gains, .ref q_value])), (g_a, .inl (cI, 17, .inl r2.2)), (q_loads, .inl (cI, 16, .inl m_loads)), (q_cards, .inl (cI, 4, .inl m_cards))] H locs := w
      refine lv_iadd hx hb dX5_settle_18 ?_
      refine lv_topi (fun z3 ez3 => ?_)
      replace hf := nm_at ez3 hf
      refine lv_istore_n (lv' := [(2, .int z3), (0, .ref m_a), (1, .ref g_a), (3, .int v3)]) hx hb dX5_settle_19 rfl hl (by decide) rfl (fun ls hl => ?_)
      refine lv_aload_n hx hb dX5_settle_20 rfl (lv_at hl 1 rfl) ?_
      refine lv_aload_n hx hb dX5_settle_21 rfl (lv_at hl 2 rfl) ?_
      replace hf := ob_at hf
      obtain ⟨r4, er4, hf⟩ := hf
      refine k_goI (v0 := m_loads) (res := r4) w [0, 1, 2, 3] rfl (fun _ => rfl) (va_runV (As := [.ref g_a]) (rest := []) ⟨hx, hb, hml, hown, hg⟩ (tX5_weak l D cI cZ b0 tt m_a q_text q_cards q_readCards q_readPage q_page q_trial q_loads q_book q_kept q_isKept q_heldWho q_heldForce q_heldLoad q_heldIs q_gains q_value g_a m_thrown m_textSize m_place m_acts m_held m_seed m_tentMany m_tentFirst m_restMany m_restFirst r2.2 m_loads m_cards er4 H.size) (cwV 1 hg (gwV w_632 w_633 w_850 w_7 w_634) rfl rfl rfl ⟨rfl, qdX5_weak⟩ ⟨Nat.le_of_ble_eq_true rfl, Nat.le_of_ble_eq_true rfl⟩) (k_preV w [0, 1, 2, 3] (by decide) rfl (q0 := 0) rfl rfl) rfl rfl hl.1 rfl (lv_room (Nat.le_of_ble_eq_true rfl)) dX5_settle_22 ⟨Nat.le_refl _, Nat.le_refl _⟩) (fun H locs w => ?_)
      have w : Wd D cI cZ b0 tt A s [(m_a, .inr (5, [.int m_thrown, .ref q_text, .int m_textSize, .int m_place, .ref q_cards, .ref q_readCards, .ref q_readPage, .ref q_page, .ref q_trial, .ref q_loads, .ref q_book, .int m_acts, .ref q_kept, .ref q_isKept, .int m_held, .ref q_heldWho, .ref q_heldForce, .ref q_heldLoad, .ref q_heldIs, .long m_seed, .int m_tentMany, .int m_tentFirst, .int m_restMany, .int m_restFirst, .ref q_gains, .ref q_value])), (g_a, .inl (cI, 17, .inl r2.2)), (q_loads, .inl (cI, 16, .inl r4.2)), (q_cards, .inl (cI, 4, .inl m_cards))] H locs := w
      refine lv_istore_n (lv' := [(3, .int r4.1), (2, .int z3), (0, .ref m_a), (1, .ref g_a)]) hx hb dX5_settle_25 rfl hl (by decide) rfl (fun ls hl => ?_)
      refine lv_goto (tgt := 8) hx hb dX5_settle_26 (by decide) ?_
      exact ih z3 r4.1 r2.2 r4.2 H locs ls hf w (lv_sub hl [2, 3, 1, 0] rfl)
def fX5_settle  (g_h : Nat → Int32) (m_loads : Nat → Int32) : Option (Int32 × (Nat → Int32) × (Nat → Int32)) := ob (fX5_weak g_h m_loads) (fun r5 => fX5_settle_L8  FU 0 r5.1 g_h r5.2)
set_option maxRecDepth 100000 in
set_option maxHeartbeats 4000000 in
theorem tX5_settle (l : Launch) (D : va_G) (cI cZ : ClassId) (b0 : Nat) (tt : Nat → Nat)  (m_a q_text q_cards q_readCards q_readPage q_page q_trial q_loads q_book q_kept q_isKept q_heldWho q_heldForce q_heldLoad q_heldIs q_gains q_value g_a : Nat) (m_thrown : Int32) (m_textSize : Int32) (m_place : Int32) (m_acts : Int32) (m_held : Int32) (m_seed : Int64) (m_tentMany : Int32) (m_tentFirst : Int32) (m_restMany : Int32) (m_restFirst : Int32) (g_h : Nat → Int32) (m_loads : Nat → Int32) (m_cards : Nat → Int32)  {res : Int32 × (Nat → Int32) × (Nat → Int32)} (hf : fX5_settle g_h m_loads = some res) : CtI l yX5_settle (cwX5_settle :: GW) 5 108 D cI cZ b0 tt [.ref m_a, .ref g_a] (fun u : (Nat → Int32) × (Nat → Int32) => [(m_a, .inr (5, [.int m_thrown, .ref q_text, .int m_textSize, .int m_place, .ref q_cards, .ref q_readCards, .ref q_readPage, .ref q_page, .ref q_trial, .ref q_loads, .ref q_book, .int m_acts, .ref q_kept, .ref q_isKept, .int m_held, .ref q_heldWho, .ref q_heldForce, .ref q_heldLoad, .ref q_heldIs, .long m_seed, .int m_tentMany, .int m_tentFirst, .int m_restMany, .int m_restFirst, .ref q_gains, .ref q_value])), (g_a, .inl (cI, 17, .inl u.1)), (q_loads, .inl (cI, 16, .inl u.2)), (q_cards, .inl (cI, 4, .inl m_cards))]) (g_h, m_loads) res := by
  intro sz
  refine k_begin (cc := cX5_settle) (maxL := 4) (ret := (some .int)) (by decide) rfl (Nat.le_of_ble_eq_true rfl) ?_
  intro p e s m below meth c ls C w hl
  generalize va_A _ sz = A at w ⊢
  have w : Wd D cI cZ b0 tt A s [(m_a, .inr (5, [.int m_thrown, .ref q_text, .int m_textSize, .int m_place, .ref q_cards, .ref q_readCards, .ref q_readPage, .ref q_page, .ref q_trial, .ref q_loads, .ref q_book, .int m_acts, .ref q_kept, .ref q_isKept, .int m_held, .ref q_heldWho, .ref q_heldForce, .ref q_heldLoad, .ref q_heldIs, .long m_seed, .int m_tentMany, .int m_tentFirst, .int m_restMany, .int m_restFirst, .ref q_gains, .ref q_value])), (g_a, .inl (cI, 17, .inl g_h)), (q_loads, .inl (cI, 16, .inl m_loads)), (q_cards, .inl (cI, 4, .inl m_cards))] s.heap [] := w
  have hl : lv_has ls 4 [(0, .ref m_a), (1, .ref g_a)] := hl
  obtain ⟨H, eH⟩ : ∃ H, H = s.heap := ⟨_, rfl⟩
  rw [← eH] at w ⊢
  generalize ([] : List Loc) = locs at w ⊢
  generalize List.toArray _ = args at C ⊢
  obtain ⟨hx, hb, hr, hml, hown, hts, hlk⟩ := id C
  have hg : ∀ w ∈ GW, w.before args s = true := fun w h => hts w (List.mem_cons_of_mem _ h)
  unfold fX5_settle at hf
  refine lv_iconst (v := 0) hx hb dX5_settle_0 (by decide) ?_
  refine lv_istore_n (lv' := [(2, .int 0), (0, .ref m_a), (1, .ref g_a)]) hx hb dX5_settle_1 rfl hl (by decide) rfl (fun ls hl => ?_)
  refine lv_aload_n hx hb dX5_settle_2 rfl (lv_at hl 1 rfl) ?_
  refine lv_aload_n hx hb dX5_settle_3 rfl (lv_at hl 2 rfl) ?_
  replace hf := ob_at hf
  obtain ⟨r5, er5, hf⟩ := hf
  refine k_goI (v0 := m_loads) (res := r5) w [0, 1, 2, 3] rfl (fun _ => rfl) (va_runV (As := [.ref g_a]) (rest := []) ⟨hx, hb, hml, hown, hg⟩ (tX5_weak l D cI cZ b0 tt m_a q_text q_cards q_readCards q_readPage q_page q_trial q_loads q_book q_kept q_isKept q_heldWho q_heldForce q_heldLoad q_heldIs q_gains q_value g_a m_thrown m_textSize m_place m_acts m_held m_seed m_tentMany m_tentFirst m_restMany m_restFirst g_h m_loads m_cards er5 H.size) (cwV 1 hg (gwV w_632 w_633 w_850 w_7 w_634) rfl rfl rfl ⟨rfl, qdX5_weak⟩ ⟨Nat.le_of_ble_eq_true rfl, Nat.le_of_ble_eq_true rfl⟩) (k_preV w [0, 1, 2, 3] (by decide) rfl (q0 := 0) rfl rfl) rfl rfl hl.1 rfl (lv_room (Nat.le_of_ble_eq_true rfl)) dX5_settle_4 ⟨Nat.le_refl _, Nat.le_refl _⟩) (fun H locs w => ?_)
  have w : Wd D cI cZ b0 tt A s [(m_a, .inr (5, [.int m_thrown, .ref q_text, .int m_textSize, .int m_place, .ref q_cards, .ref q_readCards, .ref q_readPage, .ref q_page, .ref q_trial, .ref q_loads, .ref q_book, .int m_acts, .ref q_kept, .ref q_isKept, .int m_held, .ref q_heldWho, .ref q_heldForce, .ref q_heldLoad, .ref q_heldIs, .long m_seed, .int m_tentMany, .int m_tentFirst, .int m_restMany, .int m_restFirst, .ref q_gains, .ref q_value])), (g_a, .inl (cI, 17, .inl g_h)), (q_loads, .inl (cI, 16, .inl r5.2)), (q_cards, .inl (cI, 4, .inl m_cards))] H locs := w
  refine lv_istore_n (lv' := [(3, .int r5.1), (2, .int 0), (0, .ref m_a), (1, .ref g_a)]) hx hb dX5_settle_7 rfl hl (by decide) rfl (fun ls hl => ?_)
  exact tX5_settle_L8 (m_thrown := m_thrown) (m_textSize := m_textSize) (m_place := m_place) (m_acts := m_acts) (m_held := m_held) (m_seed := m_seed) (m_tentMany := m_tentMany) (m_tentFirst := m_tentFirst) (m_restMany := m_restMany) (m_restFirst := m_restFirst) (m_cards := m_cards) (C := C) FU 0 r5.1 g_h r5.2 H locs ls hf w (lv_sub hl [2, 3, 1, 0] rfl)
