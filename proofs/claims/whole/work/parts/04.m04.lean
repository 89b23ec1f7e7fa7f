-- X3_readFigure
def fX3_readFigure  (p_ca : Nat → Int32) (a2 : Int32) (a3 : Int32) : Option (Int32 × (Nat → Int32)) := (if a3 < 0 then some (0, p_ca) else (if 9 < a3 then some (0, p_ca) else ob (fX4_isKind a2) (fun r3 => (if r3 = 0 then some (0, p_ca) else nm ((3 : Int32) * a3) (fun z5 => gd a2 4 (some (1, (upd p_ca (Int32.toNatClampNeg a2) z5))))))))
set_option maxRecDepth 100000 in
set_option maxHeartbeats 4000000 in
theorem tX3_readFigure (l : Launch) (D : va_G) (cI cZ : ClassId) (b0 : Nat) (tt : Nat → Nat)  (p_a p_c p_d : Nat) (p_th : Int32) (p_ki : Int32) (p_fe : Int32) (p_ca : Nat → Int32) (p_lo : Nat → Int32) (a2 : Int32) (a3 : Int32) {res : Int32 × (Nat → Int32)} (hf : fX3_readFigure p_ca a2 a3 = some res) : CtI l yX3_readFigure (cwX3_readFigure :: GW) 1 20 D cI cZ b0 tt [.ref p_a, .int a2, .int a3] (fun u : (Nat → Int32) => [(p_a, .inr (1, [.int p_th, .int p_ki, .int p_fe, .ref p_c, .ref p_d])), (p_c, .inl (cI, 4, .inl u)), (p_d, .inl (cI, 16, .inl p_lo))]) p_ca res := by
  intro sz
  refine k_begin (cc := cX3_readFigure) (maxL := 3) (ret := (some .boolean)) (by decide) rfl (Nat.le_of_ble_eq_true rfl) ?_
  intro p e s m below meth c ls C w hl
  generalize va_A _ sz = A at w ⊢
  have w : Wd D cI cZ b0 tt A s [(p_a, .inr (1, [.int p_th, .int p_ki, .int p_fe, .ref p_c, .ref p_d])), (p_c, .inl (cI, 4, .inl p_ca)), (p_d, .inl (cI, 16, .inl p_lo))] s.heap [] := w
  have hl : lv_has ls 3 [(0, .ref p_a), (1, .int a2), (2, .int a3)] := hl
  obtain ⟨H, eH⟩ : ∃ H, H = s.heap := ⟨_, rfl⟩
  rw [← eH] at w ⊢
  generalize ([] : List Loc) = locs at w ⊢
  generalize List.toArray _ = args at C ⊢
  obtain ⟨hx, hb, hr, hml, hown, hts, hlk⟩ := id C
  have hg : ∀ w ∈ GW, w.before args s = true := fun w h => hts w (List.mem_cons_of_mem _ h)
  unfold fX3_readFigure at hf
  refine lv_iload_n hx hb dX3_readFigure_0 rfl (lv_at hl 2 rfl) ?_
  refine lv_if_lt (tgt := 17) hx hb dX3_readFigure_1 (by decide) (fun c1 => ?_) (fun c1 => ?_)
  · replace hf := ite_t c1 hf
    refine lv_iconst (v := 0) hx hb dX3_readFigure_17 (by decide) ?_
    exact k_zret (u := p_ca) hx hb hr hlk w rfl rfl hf dX3_readFigure_18
  · replace hf := ite_f c1 hf
    refine lv_iload_n hx hb dX3_readFigure_4 rfl (lv_at hl 2 rfl) ?_
    refine lv_bipush (v := 9) hx hb dX3_readFigure_5 (by decide) ?_
    refine lv_icmp_gt (tgt := 17) hx hb dX3_readFigure_7 (by decide) (fun c2 => ?_) (fun c2 => ?_)
    · replace hf := ite_t c2 hf
      refine lv_iconst (v := 0) hx hb dX3_readFigure_17 (by decide) ?_
      exact k_zret (u := p_ca) hx hb hr hlk w rfl rfl hf dX3_readFigure_18
    · replace hf := ite_f c2 hf
      refine lv_iload_n hx hb dX3_readFigure_10 rfl (lv_at hl 1 rfl) ?_
      replace hf := ob_at hf
      obtain ⟨r3, er3, hf⟩ := hf
      refine k_goI0 w [] rfl (va_runSN (As := [.int a2]) (rest := []) ⟨hx, hb, hml, hown, hg⟩ (tX4_isKind l D cI cZ b0 tt a2 er3 H.size) ⟨va_cnB 1 hg (gwN w_153) rfl rfl rfl (k_nm w 10 (q := ("CardHouse$Text", 45, yX4_isKind)) rfl) (hg _ w_1) qdX4_isKind ⟨Nat.le_of_ble_eq_true rfl, Nat.le_of_ble_eq_true rfl⟩, hg _ w_152, trivial⟩ (k_preS w [] (by decide) rfl) rfl rfl hl.1 rfl (lv_room (Nat.le_of_ble_eq_true rfl)) dX3_readFigure_11 ⟨Nat.le_refl _, Nat.le_refl _⟩) (fun H locs w => ?_)
      refine lv_if_ne (tgt := 19) hx hb dX3_readFigure_14 (by decide) (fun c4 => ?_) (fun c4 => ?_)
      · replace hf := ite_f c4 hf
        refine lv_aload_n hx hb dX3_readFigure_19 rfl (lv_at hl 0 rfl) ?_
        refine va_getN (D := D) (ci := 1) (v := .ref p_c) (C := RX1) (T := TX1) (N := 5) hx hb hg iX1 hown w.2.2.2.2.2.2.1 w.1 0 rfl rfl 3 (by decide) (k_nf w 12 (q := ("CardHouse$Text", 49, "CardHouse$Pile", "cards", "[I")) rfl) (fun _ h9 => h9) rfl dX3_readFigure_20 ?_
        refine lv_iload_n hx hb dX3_readFigure_23 rfl (lv_at hl 1 rfl) ?_
        refine lv_iconst (v := 3) hx hb dX3_readFigure_24 (by decide) ?_
        refine lv_iload_n hx hb dX3_readFigure_25 rfl (lv_at hl 2 rfl) ?_
        refine lv_imul hx hb dX3_readFigure_26 ?_
        refine lv_topi (fun z5 ez5 => ?_)
        replace hf := nm_at ez5 hf
        replace hf := gd_at hf
        obtain ⟨hi6, hf⟩ := hf
        refine k_iast hx hb w 1 rfl hi6 dX3_readFigure_27 (fun H locs w => ?_)
        have w : Wd D cI cZ b0 tt A s [(p_a, .inr (1, [.int p_th, .int p_ki, .int p_fe, .ref p_c, .ref p_d])), (p_c, .inl (cI, 4, .inl (upd p_ca (Int32.toNatClampNeg a2) z5))), (p_d, .inl (cI, 16, .inl p_lo))] H locs := w
        refine lv_iconst (v := 1) hx hb dX3_readFigure_28 (by decide) ?_
        exact k_zret (u := (upd p_ca (Int32.toNatClampNeg a2) z5)) hx hb hr hlk w rfl rfl hf dX3_readFigure_29
      · replace hf := ite_t c4 hf
        refine lv_iconst (v := 0) hx hb dX3_readFigure_17 (by decide) ?_
        exact k_zret (u := p_ca) hx hb hr hlk w rfl rfl hf dX3_readFigure_18
-- X3_canBeTold
def fX3_canBeTold  (p_th : Int32) (a2 : Int32) (a3 : Int32) : Option (Int32) := ob (fX1_hasRoomFor p_th a2) (fun r1 => (if r1 = 0 then some 0 else ob (fX4_cardsOf a2) (fun r3 => (if a3 < r3 then some 0 else some 1))))
set_option maxRecDepth 100000 in
set_option maxHeartbeats 4000000 in
theorem tX3_canBeTold (l : Launch) (D : va_G) (cI cZ : ClassId) (b0 : Nat) (tt : Nat → Nat)  (p_a p_c p_d : Nat) (p_th : Int32) (p_ki : Int32) (p_fe : Int32) (p_ca : Nat → Int32) (p_lo : Nat → Int32) (a2 : Int32) (a3 : Int32) {res : Int32} (hf : fX3_canBeTold p_th a2 a3 = some res) : CtI l yX3_canBeTold (cwX3_canBeTold :: GW) 2 42 D cI cZ b0 tt [.ref p_a, .int a2, .int a3] (fun _ : Unit => [(p_a, .inr (1, [.int p_th, .int p_ki, .int p_fe, .ref p_c, .ref p_d])), (p_c, .inl (cI, 4, .inl p_ca)), (p_d, .inl (cI, 16, .inl p_lo))]) () (res, ()) := by
  intro sz
  refine k_begin (cc := cX3_canBeTold) (maxL := 3) (ret := (some .boolean)) (by decide) rfl (Nat.le_of_ble_eq_true rfl) ?_
  intro p e s m below meth c ls C w hl
  generalize va_A _ sz = A at w ⊢
  have w : Wd D cI cZ b0 tt A s [(p_a, .inr (1, [.int p_th, .int p_ki, .int p_fe, .ref p_c, .ref p_d])), (p_c, .inl (cI, 4, .inl p_ca)), (p_d, .inl (cI, 16, .inl p_lo))] s.heap [] := w
  have hl : lv_has ls 3 [(0, .ref p_a), (1, .int a2), (2, .int a3)] := hl
  obtain ⟨H, eH⟩ : ∃ H, H = s.heap := ⟨_, rfl⟩
  rw [← eH] at w ⊢
  generalize ([] : List Loc) = locs at w ⊢
  generalize List.toArray _ = args at C ⊢
  obtain ⟨hx, hb, hr, hml, hown, hts, hlk⟩ := id C
  have hg : ∀ w ∈ GW, w.before args s = true := fun w h => hts w (List.mem_cons_of_mem _ h)
  unfold fX3_canBeTold at hf
  refine lv_aload_n hx hb dX3_canBeTold_0 rfl (lv_at hl 0 rfl) ?_
  refine lv_iload_n hx hb dX3_canBeTold_1 rfl (lv_at hl 1 rfl) ?_
  replace hf := ob_at hf
  obtain ⟨r1, er1, hf⟩ := hf
  refine k_goI0 w [0, 1, 2] rfl (va_runV (As := [.int a2]) (rest := []) ⟨hx, hb, hml, hown, hg⟩ (tX1_hasRoomFor l D cI cZ b0 tt p_a p_c p_d p_th p_ki p_fe p_ca p_lo a2 er1 H.size) (cwV 1 hg (gwV w_180 w_181 w_182 w_3 w_183) rfl rfl rfl ⟨rfl, qdX1_hasRoomFor⟩ ⟨Nat.le_of_ble_eq_true rfl, Nat.le_of_ble_eq_true rfl⟩) (k_preV w [0, 1, 2] (by decide) rfl (q0 := 0) rfl rfl) rfl rfl hl.1 rfl (lv_room (Nat.le_of_ble_eq_true rfl)) dX3_canBeTold_2 ⟨Nat.le_refl _, Nat.le_refl _⟩) (fun H locs w => ?_)
  refine lv_if_eq (tgt := 20) hx hb dX3_canBeTold_5 (by decide) (fun c2 => ?_) (fun c2 => ?_)
  · replace hf := ite_t c2 hf
    refine lv_iconst (v := 0) hx hb dX3_canBeTold_20 (by decide) ?_
    exact k_zret (u := ()) hx hb hr hlk w rfl rfl (k_ret1 hf) dX3_canBeTold_21
  · replace hf := ite_f c2 hf
    refine lv_iload_n hx hb dX3_canBeTold_8 rfl (lv_at hl 1 rfl) ?_
    replace hf := ob_at hf
    obtain ⟨r3, er3, hf⟩ := hf
    refine k_goI0 w [] rfl (va_runSN (As := [.int a2]) (rest := []) ⟨hx, hb, hml, hown, hg⟩ (tX4_cardsOf l D cI cZ b0 tt a2 er3 H.size) ⟨va_cnB 1 hg (gwN w_174) rfl rfl rfl (k_nm w 11 (q := ("CardHouse$Text", 55, yX4_cardsOf)) rfl) (hg _ w_1) qdX4_cardsOf ⟨Nat.le_of_ble_eq_true rfl, Nat.le_of_ble_eq_true rfl⟩, hg _ w_173, trivial⟩ (k_preS w [] (by decide) rfl) rfl rfl hl.1 rfl (lv_room (Nat.le_of_ble_eq_true rfl)) dX3_canBeTold_9 ⟨Nat.le_refl _, Nat.le_refl _⟩) (fun H locs w => ?_)
    refine lv_iload_n hx hb dX3_canBeTold_12 rfl (lv_at hl 2 rfl) ?_
    refine lv_icmp_gt (tgt := 20) hx hb dX3_canBeTold_13 (by decide) (fun c4 => ?_) (fun c4 => ?_)
    · replace hf := ite_t c4 hf
      refine lv_iconst (v := 0) hx hb dX3_canBeTold_20 (by decide) ?_
      exact k_zret (u := ()) hx hb hr hlk w rfl rfl (k_ret1 hf) dX3_canBeTold_21
    · replace hf := ite_f c4 hf
      refine lv_iconst (v := 1) hx hb dX3_canBeTold_16 (by decide) ?_
      refine lv_goto (tgt := 21) hx hb dX3_canBeTold_17 (by decide) ?_
      exact k_zret (u := ()) hx hb hr hlk w rfl rfl (k_ret1 hf) dX3_canBeTold_21
-- X3_canAnyBeTold
def fX3_canAnyBeTold_L7   (v1 : Int32) (p_th : Int32) (p_ki : Int32) (p_ca : Nat → Int32) : Nat → Int32 → Option (Int32)
  | 0, _ => none
  | n + 1, v2 => (if 16 ≤ v2 then some 0 else ob (fX3_canBeTold p_th v2 v1) (fun r2 => (if r2 = 0 then nm (v2 + 1) (fun z4 => fX3_canAnyBeTold_L7 v1 p_th p_ki p_ca n z4) else some 1)))
set_option maxRecDepth 100000 in
set_option maxHeartbeats 4000000 in
theorem tX3_canAnyBeTold_L7 {p : Program} {l : Launch} {e : Env} {s : State} {m : MethodId} {args : Array Value} {below : List Frame} {meth : Method} {c : Code} {D : va_G} {cI cZ : ClassId} {b0 : Nat} {tt : Nat → Nat} {A : Nat → Prop}  {p_a p_c p_d : Nat}  {v1 : Int32} {p_th : Int32} {p_ki : Int32} {p_ca : Nat → Int32} {p_fe : Int32} {p_lo : Nat → Int32} {res : Int32} (C : Cx p s m args meth c cX3_canAnyBeTold 3 (some .boolean) (cwX3_canAnyBeTold :: GW) RX3) : ∀ (n : Nat) (v2 : Int32) (H : Heap) (locs : List Loc) (ls : Array Slot), fX3_canAnyBeTold_L7 v1 p_th p_ki p_ca n v2 = some res → Wd D cI cZ b0 tt A s [(p_a, .inr (1, [.int p_th, .int p_ki, .int p_fe, .ref p_c, .ref p_d])), (p_c, .inl (cI, 4, .inl p_ca)), (p_d, .inl (cI, 16, .inl p_lo))] H locs → lv_has ls 3 [(0, .ref p_a), (1, .int v1), (2, .int v2)] → W p l e (rmo 3 66) s m args below meth c H locs 0 0 (MQ below (QI D (fun _ : Unit => [(p_a, .inr (1, [.int p_th, .int p_ki, .int p_fe, .ref p_c, .ref p_d])), (p_c, .inl (cI, 4, .inl p_ca)), (p_d, .inl (cI, 16, .inl p_lo))]) A (res, ())) args s 0 0 A) (F0 m 7 ls []) := by
  obtain ⟨hx, hb, hr, hml, hown, hts, hlk⟩ := id C
  have hg : ∀ w ∈ GW, w.before args s = true := fun w h => hts w (List.mem_cons_of_mem _ h)
  intro n
  induction n with
  | zero =>
    intro _ H locs ls hf
    rw [fX3_canAnyBeTold_L7] at hf
    cases hf
  | succ n ih =>
    intro v2 H locs ls hf w hl
    rw [fX3_canAnyBeTold_L7] at hf
    refine lv_iload_n hx hb dX3_canAnyBeTold_7 rfl (lv_at hl 2 rfl) ?_
    refine lv_bipush (v := 16) hx hb dX3_canAnyBeTold_8 (by decide) ?_
    refine lv_icmp_ge (tgt := 30) hx hb dX3_canAnyBeTold_10 (by decide) (fun c1 => ?_) (fun c1 => ?_)
    · replace hf := ite_t c1 hf
      refine lv_iconst (v := 0) hx hb dX3_canAnyBeTold_30 (by decide) ?_
      exact k_zret (u := ()) hx hb hr hlk w rfl rfl (k_ret1 hf) dX3_canAnyBeTold_31
    · replace hf := ite_f c1 hf
      refine lv_aload_n hx hb dX3_canAnyBeTold_13 rfl (lv_at hl 0 rfl) ?_
      refine lv_iload_n hx hb dX3_canAnyBeTold_14 rfl (lv_at hl 2 rfl) ?_
      refine lv_iload_n hx hb dX3_canAnyBeTold_15 rfl (lv_at hl 1 rfl) ?_
      replace hf := ob_at hf
      obtain ⟨r2, er2, hf⟩ := hf
      refine k_goI0 w [0, 1, 2] rfl (va_runS (As := [.ref p_a, .int v2, .int v1]) (rest := []) ⟨hx, hb, hml, hown, hg⟩ (tX3_canBeTold l D cI cZ b0 tt p_a p_c p_d p_th p_ki p_fe p_ca p_lo v2 v1 er2 H.size) (va_cwS 3 hg (gwS w_177 w_178 w_2 w_179) rfl rfl rfl qdX3_canBeTold ⟨Nat.le_of_ble_eq_true rfl, Nat.le_of_ble_eq_true rfl⟩) (k_preS w [0, 1, 2] (by decide) rfl) rfl rfl hl.1 rfl (lv_room (Nat.le_of_ble_eq_true rfl)) dX3_canAnyBeTold_16 ⟨Nat.le_refl _, Nat.le_refl _⟩) (fun H locs w => ?_)
      refine lv_if_eq (tgt := 24) hx hb dX3_canAnyBeTold_19 (by decide) (fun c3 => ?_) (fun c3 => ?_)
      · replace hf := ite_t c3 hf
        obtain ⟨z4, ez4⟩ : ∃ y : Int32, y = (v2 + 1) := ⟨_, rfl⟩
        replace hf := nm_at ez4 hf
        refine lv_iinc (v := z4) (lv' := [(2, .int z4), (0, .ref p_a), (1, .int v1)]) hx hb dX3_canAnyBeTold_24 hl (k := 2) rfl (by rw [ez4]; rfl) (by decide) rfl (fun ls hl => ?_)
        refine lv_goto (tgt := 7) hx hb dX3_canAnyBeTold_27 (by decide) ?_
        exact ih z4 H locs ls hf w (lv_sub hl [1, 2, 0] rfl)
      · replace hf := ite_f c3 hf
        refine lv_iconst (v := 1) hx hb dX3_canAnyBeTold_22 (by decide) ?_
        exact k_zret (u := ()) hx hb hr hlk w rfl rfl (k_ret1 hf) dX3_canAnyBeTold_23
def fX3_canAnyBeTold  (p_th : Int32) (p_ki : Int32) (p_ca : Nat → Int32) : Option (Int32) := ob (fX1_mostCardsLeft p_th p_ki p_ca) (fun r5 => fX3_canAnyBeTold_L7 r5 p_th p_ki p_ca FU 0)
set_option maxRecDepth 100000 in
set_option maxHeartbeats 4000000 in
theorem tX3_canAnyBeTold (l : Launch) (D : va_G) (cI cZ : ClassId) (b0 : Nat) (tt : Nat → Nat)  (p_a p_c p_d : Nat) (p_th : Int32) (p_ki : Int32) (p_fe : Int32) (p_ca : Nat → Int32) (p_lo : Nat → Int32)  {res : Int32} (hf : fX3_canAnyBeTold p_th p_ki p_ca = some res) : CtI l yX3_canAnyBeTold (cwX3_canAnyBeTold :: GW) 3 66 D cI cZ b0 tt [.ref p_a] (fun _ : Unit => [(p_a, .inr (1, [.int p_th, .int p_ki, .int p_fe, .ref p_c, .ref p_d])), (p_c, .inl (cI, 4, .inl p_ca)), (p_d, .inl (cI, 16, .inl p_lo))]) () (res, ()) := by
  intro sz
  refine k_begin (cc := cX3_canAnyBeTold) (maxL := 3) (ret := (some .boolean)) (by decide) rfl (Nat.le_of_ble_eq_true rfl) ?_
  intro p e s m below meth c ls C w hl
  generalize va_A _ sz = A at w ⊢
  have w : Wd D cI cZ b0 tt A s [(p_a, .inr (1, [.int p_th, .int p_ki, .int p_fe, .ref p_c, .ref p_d])), (p_c, .inl (cI, 4, .inl p_ca)), (p_d, .inl (cI, 16, .inl p_lo))] s.heap [] := w
  have hl : lv_has ls 3 [(0, .ref p_a)] := hl
  obtain ⟨H, eH⟩ : ∃ H, H = s.heap := ⟨_, rfl⟩
  rw [← eH] at w ⊢
  generalize ([] : List Loc) = locs at w ⊢
  generalize List.toArray _ = args at C ⊢
  obtain ⟨hx, hb, hr, hml, hown, hts, hlk⟩ := id C
  have hg : ∀ w ∈ GW, w.before args s = true := fun w h => hts w (List.mem_cons_of_mem _ h)
  unfold fX3_canAnyBeTold at hf
  refine lv_aload_n hx hb dX3_canAnyBeTold_0 rfl (lv_at hl 0 rfl) ?_
  replace hf := ob_at hf
  obtain ⟨r5, er5, hf⟩ := hf
  refine k_goI0 w [0, 1, 2] rfl (va_runV (As := []) (rest := []) ⟨hx, hb, hml, hown, hg⟩ (tX1_mostCardsLeft l D cI cZ b0 tt p_a p_c p_d p_th p_ki p_fe p_ca p_lo er5 H.size) (cwV 0 hg (gwV w_157 w_158 w_159 w_3 w_160) rfl rfl rfl ⟨rfl, qdX1_mostCardsLeft⟩ ⟨Nat.le_of_ble_eq_true rfl, Nat.le_of_ble_eq_true rfl⟩) (k_preV w [0, 1, 2] (by decide) rfl (q0 := 0) rfl rfl) rfl rfl hl.1 rfl (lv_room (Nat.le_of_ble_eq_true rfl)) dX3_canAnyBeTold_1 ⟨Nat.le_refl _, Nat.le_refl _⟩) (fun H locs w => ?_)
  refine lv_istore_n (lv' := [(1, .int r5), (0, .ref p_a)]) hx hb dX3_canAnyBeTold_4 rfl hl (by decide) rfl (fun ls hl => ?_)
  refine lv_iconst (v := 0) hx hb dX3_canAnyBeTold_5 (by decide) ?_
  refine lv_istore_n (lv' := [(2, .int 0), (1, .int r5), (0, .ref p_a)]) hx hb dX3_canAnyBeTold_6 rfl hl (by decide) rfl (fun ls hl => ?_)
  exact tX3_canAnyBeTold_L7 (v1 := r5) (p_th := p_th) (p_ki := p_ki) (p_ca := p_ca) (p_fe := p_fe) (p_lo := p_lo) (C := C) FU 0 H locs ls hf w (lv_sub hl [2, 1, 0] rfl)
-- X3_readKind
def fX3_readKind  (p_th : Int32) (p_ki : Int32) (p_ca : Nat → Int32) (a2 : Int32) (a3 : Int32) : Option (Int32 × Int32 × Int32) := ob (fX1_canLay p_th p_ki p_ca a2 a3) (fun r1 => (if r1 = 0 then some (0, (p_th, p_ki)) else ob (fX1_place p_th p_ki a2 a3) (fun r3 => some (1, (r3.1, r3.2)))))
set_option maxRecDepth 100000 in
set_option maxHeartbeats 4000000 in
theorem tX3_readKind (l : Launch) (D : va_G) (cI cZ : ClassId) (b0 : Nat) (tt : Nat → Nat)  (p_a p_c p_d : Nat) (p_th : Int32) (p_ki : Int32) (p_fe : Int32) (p_ca : Nat → Int32) (p_lo : Nat → Int32) (a2 : Int32) (a3 : Int32) {res : Int32 × Int32 × Int32} (hf : fX3_readKind p_th p_ki p_ca a2 a3 = some res) : CtI l yX3_readKind (cwX3_readKind :: GW) 3 66 D cI cZ b0 tt [.ref p_a, .int a2, .int a3] (fun u : Int32 × Int32 => [(p_a, .inr (1, [.int u.1, .int u.2, .int p_fe, .ref p_c, .ref p_d])), (p_c, .inl (cI, 4, .inl p_ca)), (p_d, .inl (cI, 16, .inl p_lo))]) (p_th, p_ki) res := by
  intro sz
  refine k_begin (cc := cX3_readKind) (maxL := 3) (ret := (some .boolean)) (by decide) rfl (Nat.le_of_ble_eq_true rfl) ?_
  intro p e s m below meth c ls C w hl
  generalize va_A _ sz = A at w ⊢
  have w : Wd D cI cZ b0 tt A s [(p_a, .inr (1, [.int p_th, .int p_ki, .int p_fe, .ref p_c, .ref p_d])), (p_c, .inl (cI, 4, .inl p_ca)), (p_d, .inl (cI, 16, .inl p_lo))] s.heap [] := w
  have hl : lv_has ls 3 [(0, .ref p_a), (1, .int a2), (2, .int a3)] := hl
  obtain ⟨H, eH⟩ : ∃ H, H = s.heap := ⟨_, rfl⟩
  rw [← eH] at w ⊢
  generalize ([] : List Loc) = locs at w ⊢
  generalize List.toArray _ = args at C ⊢
  obtain ⟨hx, hb, hr, hml, hown, hts, hlk⟩ := id C
  have hg : ∀ w ∈ GW, w.before args s = true := fun w h => hts w (List.mem_cons_of_mem _ h)
  unfold fX3_readKind at hf
  refine lv_aload_n hx hb dX3_readKind_0 rfl (lv_at hl 0 rfl) ?_
  refine lv_iload_n hx hb dX3_readKind_1 rfl (lv_at hl 1 rfl) ?_
  refine lv_iload_n hx hb dX3_readKind_2 rfl (lv_at hl 2 rfl) ?_
  replace hf := ob_at hf
  obtain ⟨r1, er1, hf⟩ := hf
  refine k_goI0 w [0, 1, 2] rfl (va_runV (As := [.int a2, .int a3]) (rest := []) ⟨hx, hb, hml, hown, hg⟩ (tX1_canLay l D cI cZ b0 tt p_a p_c p_d p_th p_ki p_fe p_ca p_lo a2 a3 er1 H.size) (cwV 2 hg (gwV w_189 w_190 w_191 w_3 w_192) rfl rfl rfl ⟨rfl, qdX1_canLay⟩ ⟨Nat.le_of_ble_eq_true rfl, Nat.le_of_ble_eq_true rfl⟩) (k_preV w [0, 1, 2] (by decide) rfl (q0 := 0) rfl rfl) rfl rfl hl.1 rfl (lv_room (Nat.le_of_ble_eq_true rfl)) dX3_readKind_3 ⟨Nat.le_refl _, Nat.le_refl _⟩) (fun H locs w => ?_)
  refine lv_if_ne (tgt := 11) hx hb dX3_readKind_6 (by decide) (fun c2 => ?_) (fun c2 => ?_)
  · replace hf := ite_f c2 hf
    refine lv_aload_n hx hb dX3_readKind_11 rfl (lv_at hl 0 rfl) ?_
    refine lv_iload_n hx hb dX3_readKind_12 rfl (lv_at hl 1 rfl) ?_
    refine lv_iload_n hx hb dX3_readKind_13 rfl (lv_at hl 2 rfl) ?_
    replace hf := ob_at hf
    obtain ⟨r3, er3, hf⟩ := hf
    refine k_goV (v0 := (p_th, p_ki)) (res := r3) w [0, 1, 2] rfl (fun _ => rfl) (va_runV (As := [.int a2, .int a3]) (rest := []) ⟨hx, hb, hml, hown, hg⟩ (tX1_place l D cI cZ b0 tt p_a p_c p_d p_th p_ki p_fe p_ca p_lo a2 a3 er3 H.size) (cwV 2 hg (gwV w_194 w_195 w_196 w_3 w_197) rfl rfl rfl ⟨rfl, qdX1_place⟩ ⟨Nat.le_of_ble_eq_true rfl, Nat.le_of_ble_eq_true rfl⟩) (k_preV w [0, 1, 2] (by decide) rfl (q0 := 0) rfl rfl) rfl rfl hl.1 rfl (lv_room (Nat.le_of_ble_eq_true rfl)) dX3_readKind_14 ⟨Nat.le_refl _, Nat.le_refl _⟩) (fun H locs w => ?_)
    have w : Wd D cI cZ b0 tt A s [(p_a, .inr (1, [.int r3.1, .int r3.2, .int p_fe, .ref p_c, .ref p_d])), (p_c, .inl (cI, 4, .inl p_ca)), (p_d, .inl (cI, 16, .inl p_lo))] H locs := w
    refine lv_iconst (v := 1) hx hb dX3_readKind_17 (by decide) ?_
    exact k_zret (u := (r3.1, r3.2)) hx hb hr hlk w rfl rfl hf dX3_readKind_18
  · replace hf := ite_t c2 hf
    refine lv_iconst (v := 0) hx hb dX3_readKind_9 (by decide) ?_
    exact k_zret (u := (p_th, p_ki)) hx hb hr hlk w rfl rfl hf dX3_readKind_10
-- X3_readLetter
def fX3_readLetter  (x_le : Nat → Int32) (p_th : Int32) (p_ki : Int32) (p_ca : Nat → Int32) (a2 : Int32) (a3 : Int32) : Option (Int32 × Int32 × Int32 × (Nat → Int32)) := (if a2 = 0 then (if a3 = 67 then some (1, (p_th, p_ki, p_ca)) else some (0, (p_th, p_ki, p_ca))) else (if 5 ≤ a2 then nm ((a2 - (5 : Int32)) - (a2 - (5 : Int32)) / (3 : Int32) * (3 : Int32)) (fun z3 => (if z3 = 0 then (if a3 = 80 then ob (fX3_canAnyBeTold p_th p_ki p_ca) (fun r6 => (if r6 = 0 then some (0, (p_th, p_ki, p_ca)) else some (1, (p_th, p_ki, p_ca)))) else some (0, (p_th, p_ki, p_ca))) else (if z3 = 1 then ob (fX1_mostCardsLeft p_th p_ki p_ca) (fun r9 => ob (fX3_canBeTold p_th (a3 - (97 : Int32)) r9) (fun r10 => gz r10 (some (r10, (p_th, p_ki, p_ca))))) else gd (a2 - (1 : Int32)) 56 (ob (fX3_readKind p_th p_ki p_ca ((x_le (Int32.toNatClampNeg (a2 - (1 : Int32)))) - (97 : Int32)) (a3 - (48 : Int32))) (fun r13 => gz r13.1 (some (r13.1, (r13.2.1, r13.2.2, p_ca)))))))) else ob (fX3_readFigure p_ca (a2 - (1 : Int32)) (a3 - (48 : Int32))) (fun r15 => gz r15.1 (some (r15.1, (p_th, p_ki, r15.2))))))
set_option maxRecDepth 100000 in
set_option maxHeartbeats 4000000 in
theorem tX3_readLetter (l : Launch) (D : va_G) (cI cZ : ClassId) (b0 : Nat) (tt : Nat → Nat)  (x_a x_l p_a p_c p_d : Nat) (x_ln : Int32) (x_le : Nat → Int32) (p_th : Int32) (p_ki : Int32) (p_fe : Int32) (p_ca : Nat → Int32) (p_lo : Nat → Int32) (a2 : Int32) (a3 : Int32) {res : Int32 × Int32 × Int32 × (Nat → Int32)} (hf : fX3_readLetter x_le p_th p_ki p_ca a2 a3 = some res) : CtI l yX3_readLetter (cwX3_readLetter :: GW) 4 88 D cI cZ b0 tt [.ref x_a, .ref p_a, .int a2, .int a3] (fun u : Int32 × Int32 × (Nat → Int32) => [(x_a, .inr (3, [.ref x_l, .int x_ln])), (x_l, .inl (cI, 56, .inl x_le)), (p_a, .inr (1, [.int u.1, .int u.2.1, .int p_fe, .ref p_c, .ref p_d])), (p_c, .inl (cI, 4, .inl u.2.2)), (p_d, .inl (cI, 16, .inl p_lo))]) (p_th, p_ki, p_ca) res := by
  intro sz
  refine k_begin (cc := cX3_readLetter) (maxL := 4) (ret := (some .boolean)) (by decide) rfl (Nat.le_of_ble_eq_true rfl) ?_
  intro p e s m below meth c ls C w hl
  generalize va_A _ sz = A at w ⊢
  have w : Wd D cI cZ b0 tt A s [(x_a, .inr (3, [.ref x_l, .int x_ln])), (x_l, .inl (cI, 56, .inl x_le)), (p_a, .inr (1, [.int p_th, .int p_ki, .int p_fe, .ref p_c, .ref p_d])), (p_c, .inl (cI, 4, .inl p_ca)), (p_d, .inl (cI, 16, .inl p_lo))] s.heap [] := w
  have hl : lv_has ls 4 [(0, .ref x_a), (1, .ref p_a), (2, .int a2), (3, .int a3)] := hl
  obtain ⟨H, eH⟩ : ∃ H, H = s.heap := ⟨_, rfl⟩
  rw [← eH] at w ⊢
  generalize ([] : List Loc) = locs at w ⊢
  generalize List.toArray _ = args at C ⊢
  obtain ⟨hx, hb, hr, hml, hown, hts, hlk⟩ := id C
  have hg : ∀ w ∈ GW, w.before args s = true := fun w h => hts w (List.mem_cons_of_mem _ h)
  unfold fX3_readLetter at hf
  refine lv_iload_n hx hb dX3_readLetter_0 rfl (lv_at hl 2 rfl) ?_
  refine lv_if_ne (tgt := 16) hx hb dX3_readLetter_1 (by decide) (fun c1 => ?_) (fun c1 => ?_)
  · replace hf := ite_f c1 hf
    refine lv_iload_n hx hb dX3_readLetter_16 rfl (lv_at hl 2 rfl) ?_
    refine lv_iconst (v := 5) hx hb dX3_readLetter_17 (by decide) ?_
    refine lv_icmp_ge (tgt := 33) hx hb dX3_readLetter_18 (by decide) (fun c2 => ?_) (fun c2 => ?_)
    · replace hf := ite_t c2 hf
      refine lv_iload_n hx hb dX3_readLetter_33 rfl (lv_at hl 2 rfl) ?_
      refine lv_iconst (v := 5) hx hb dX3_readLetter_34 (by decide) ?_
      refine lv_isub hx hb dX3_readLetter_35 ?_
      refine lv_iconst (v := 3) hx hb dX3_readLetter_36 (by decide) ?_
      refine lv_irem hx hb dX3_readLetter_37 (by decide) ?_
      refine lv_topi (fun z3 ez3 => ?_)
      replace hf := nm_at ez3 hf
      by_cases c4 : z3 = 0
      · replace hf := ite_t c4 hf
        refine lv_lookup (off := 26) (tgt := 64) hx hb dX3_readLetter_38 (by decide) (by rw [c4]; decide) (by decide) ?_
        refine lv_iload_n hx hb dX3_readLetter_64 rfl (lv_at hl 3 rfl) ?_
        refine lv_bipush (v := 80) hx hb dX3_readLetter_65 (by decide) ?_
        refine lv_icmp_ne (tgt := 81) hx hb dX3_readLetter_67 (by decide) (fun c5 => ?_) (fun c5 => ?_)
        · replace hf := ite_f c5 hf
          refine lv_iconst (v := 0) hx hb dX3_readLetter_81 (by decide) ?_
          exact k_zret (u := (p_th, p_ki, p_ca)) hx hb hr hlk w rfl rfl hf dX3_readLetter_82
        · replace hf := ite_t c5 hf
          refine lv_aload_n hx hb dX3_readLetter_70 rfl (lv_at hl 1 rfl) ?_
          replace hf := ob_at hf
          obtain ⟨r6, er6, hf⟩ := hf
          refine k_goI0 w [2, 3, 4] rfl (va_runS (As := [.ref p_a]) (rest := []) ⟨hx, hb, hml, hown, hg⟩ (tX3_canAnyBeTold l D cI cZ b0 tt p_a p_c p_d p_th p_ki p_fe p_ca p_lo er6 H.size) (va_cwS 1 hg (gwS w_154 w_155 w_2 w_156) rfl rfl rfl qdX3_canAnyBeTold ⟨Nat.le_of_ble_eq_true rfl, Nat.le_of_ble_eq_true rfl⟩) (k_preS w [2, 3, 4] (by decide) rfl) rfl rfl hl.1 rfl (lv_room (Nat.le_of_ble_eq_true rfl)) dX3_readLetter_71 ⟨Nat.le_refl _, Nat.le_refl _⟩) (fun H locs w => ?_)
          refine lv_if_eq (tgt := 81) hx hb dX3_readLetter_74 (by decide) (fun c7 => ?_) (fun c7 => ?_)
          · replace hf := ite_t c7 hf
            refine lv_iconst (v := 0) hx hb dX3_readLetter_81 (by decide) ?_
            exact k_zret (u := (p_th, p_ki, p_ca)) hx hb hr hlk w rfl rfl hf dX3_readLetter_82
          · replace hf := ite_f c7 hf
            refine lv_iconst (v := 1) hx hb dX3_readLetter_77 (by decide) ?_
            refine lv_goto (tgt := 82) hx hb dX3_readLetter_78 (by decide) ?_
            exact k_zret (u := (p_th, p_ki, p_ca)) hx hb hr hlk w rfl rfl hf dX3_readLetter_82
      · replace hf := ite_f c4 hf
        by_cases c8 : z3 = 1
        · replace hf := ite_t c8 hf
          refine lv_lookup (off := 45) (tgt := 83) hx hb dX3_readLetter_38 (by decide) (by rw [c8]; decide) (by decide) ?_
          refine lv_aload_n hx hb dX3_readLetter_83 rfl (lv_at hl 1 rfl) ?_
          refine lv_iload_n hx hb dX3_readLetter_84 rfl (lv_at hl 3 rfl) ?_
          refine lv_bipush (v := 97) hx hb dX3_readLetter_85 (by decide) ?_
          refine lv_isub hx hb dX3_readLetter_87 ?_
          refine lv_aload_n hx hb dX3_readLetter_88 rfl (lv_at hl 1 rfl) ?_
          replace hf := ob_at hf
          obtain ⟨r9, er9, hf⟩ := hf
          refine k_goI0 w [2, 3, 4] rfl (va_runV (As := []) (rest := [.int (a3 - (97 : Int32)), .ref p_a]) ⟨hx, hb, hml, hown, hg⟩ (tX1_mostCardsLeft l D cI cZ b0 tt p_a p_c p_d p_th p_ki p_fe p_ca p_lo er9 H.size) (cwV 0 hg (gwV w_157 w_158 w_159 w_3 w_160) rfl rfl rfl ⟨rfl, qdX1_mostCardsLeft⟩ ⟨Nat.le_of_ble_eq_true rfl, Nat.le_of_ble_eq_true rfl⟩) (k_preV w [2, 3, 4] (by decide) rfl (q0 := 2) rfl rfl) rfl rfl hl.1 rfl (lv_room (Nat.le_of_ble_eq_true rfl)) dX3_readLetter_89 ⟨Nat.le_refl _, Nat.le_refl _⟩) (fun H locs w => ?_)
          replace hf := ob_at hf
          obtain ⟨r10, er10, hf⟩ := hf
          refine k_goI0 w [2, 3, 4] rfl (va_runS (As := [.ref p_a, .int (a3 - (97 : Int32)), .int r9]) (rest := []) ⟨hx, hb, hml, hown, hg⟩ (tX3_canBeTold l D cI cZ b0 tt p_a p_c p_d p_th p_ki p_fe p_ca p_lo (a3 - (97 : Int32)) r9 er10 H.size) (va_cwS 3 hg (gwS w_177 w_178 w_2 w_179) rfl rfl rfl qdX3_canBeTold ⟨Nat.le_of_ble_eq_true rfl, Nat.le_of_ble_eq_true rfl⟩) (k_preS w [2, 3, 4] (by decide) rfl) rfl rfl hl.1 rfl (lv_room (Nat.le_of_ble_eq_true rfl)) dX3_readLetter_92 ⟨Nat.le_refl _, Nat.le_refl _⟩) (fun H locs w => ?_)
          obtain ⟨hn11, hf⟩ := gz_at hf
          exact k_zret (u := (p_th, p_ki, p_ca)) hx hb hr hlk w rfl hn11 hf dX3_readLetter_95
        · replace hf := ite_f c8 hf
          refine lv_lookup (off := 58) (tgt := 96) hx hb dX3_readLetter_38 (by decide) ((lv_osw c4 (by decide)).trans ((lv_osw c8 (by decide)).trans rfl)) (by decide) ?_
          refine lv_aload_n hx hb dX3_readLetter_96 rfl (lv_at hl 1 rfl) ?_
          refine lv_aload_n hx hb dX3_readLetter_97 rfl (lv_at hl 0 rfl) ?_
          refine va_get (D := D) (ci := 3) (v := .ref x_l) (C := RX3) (T := TX3) (N := 2) hx hb hg iX3 hown w.2.2.2.2.2.2.1 w.1 0 rfl rfl 0 (by decide) (hg _ w_22) (fun _ h9 => h9) rfl dX3_readLetter_98 ?_
          refine lv_iload_n hx hb dX3_readLetter_101 rfl (lv_at hl 2 rfl) ?_
          refine lv_iconst (v := 1) hx hb dX3_readLetter_102 (by decide) ?_
          refine lv_isub hx hb dX3_readLetter_103 ?_
          replace hf := gd_at hf
          obtain ⟨hi12, hf⟩ := hf
          refine va_iald hx hb w.2.2.2.2.2.2.1 w.1 1 0 rfl rfl hi12 dX3_readLetter_104 ?_
          refine lv_bipush (v := 97) hx hb dX3_readLetter_105 (by decide) ?_
          refine lv_isub hx hb dX3_readLetter_107 ?_
          refine lv_iload_n hx hb dX3_readLetter_108 rfl (lv_at hl 3 rfl) ?_
          refine lv_bipush (v := 48) hx hb dX3_readLetter_109 (by decide) ?_
          refine lv_isub hx hb dX3_readLetter_111 ?_
          replace hf := ob_at hf
          obtain ⟨r13, er13, hf⟩ := hf
          refine k_goI (v0 := (p_th, p_ki)) (res := r13) w [2, 3, 4] rfl (fun _ => rfl) (va_runS (As := [.ref p_a, .int ((x_le (Int32.toNatClampNeg (a2 - (1 : Int32)))) - (97 : Int32)), .int (a3 - (48 : Int32))]) (rest := []) ⟨hx, hb, hml, hown, hg⟩ (tX3_readKind l D cI cZ b0 tt p_a p_c p_d p_th p_ki p_fe p_ca p_lo ((x_le (Int32.toNatClampNeg (a2 - (1 : Int32)))) - (97 : Int32)) (a3 - (48 : Int32)) er13 H.size) (va_cwS 3 hg (gwS w_186 w_187 w_2 w_188) rfl rfl rfl qdX3_readKind ⟨Nat.le_of_ble_eq_true rfl, Nat.le_of_ble_eq_true rfl⟩) (k_preS w [2, 3, 4] (by decide) rfl) rfl rfl hl.1 rfl (lv_room (Nat.le_of_ble_eq_true rfl)) dX3_readLetter_112 ⟨Nat.le_refl _, Nat.le_refl _⟩) (fun H locs w => ?_)
          have w : Wd D cI cZ b0 tt A s [(x_a, .inr (3, [.ref x_l, .int x_ln])), (x_l, .inl (cI, 56, .inl x_le)), (p_a, .inr (1, [.int r13.2.1, .int r13.2.2, .int p_fe, .ref p_c, .ref p_d])), (p_c, .inl (cI, 4, .inl p_ca)), (p_d, .inl (cI, 16, .inl p_lo))] H locs := w
          obtain ⟨hn14, hf⟩ := gz_at hf
          exact k_zret (u := (r13.2.1, r13.2.2, p_ca)) hx hb hr hlk w rfl hn14 hf dX3_readLetter_115
    · replace hf := ite_f c2 hf
      refine lv_aload_n hx hb dX3_readLetter_21 rfl (lv_at hl 1 rfl) ?_
      refine lv_iload_n hx hb dX3_readLetter_22 rfl (lv_at hl 2 rfl) ?_
      refine lv_iconst (v := 1) hx hb dX3_readLetter_23 (by decide) ?_
      refine lv_isub hx hb dX3_readLetter_24 ?_
      refine lv_iload_n hx hb dX3_readLetter_25 rfl (lv_at hl 3 rfl) ?_
      refine lv_bipush (v := 48) hx hb dX3_readLetter_26 (by decide) ?_
      refine lv_isub hx hb dX3_readLetter_28 ?_
      replace hf := ob_at hf
      obtain ⟨r15, er15, hf⟩ := hf
      refine k_goI (v0 := p_ca) (res := r15) w [2, 3, 4] rfl (fun _ => rfl) (va_runS (As := [.ref p_a, .int (a2 - (1 : Int32)), .int (a3 - (48 : Int32))]) (rest := []) ⟨hx, hb, hml, hown, hg⟩ (tX3_readFigure l D cI cZ b0 tt p_a p_c p_d p_th p_ki p_fe p_ca p_lo (a2 - (1 : Int32)) (a3 - (48 : Int32)) er15 H.size) (va_cwS 3 hg (gwS w_149 w_150 w_2 w_151) rfl rfl rfl qdX3_readFigure ⟨Nat.le_of_ble_eq_true rfl, Nat.le_of_ble_eq_true rfl⟩) (k_preS w [2, 3, 4] (by decide) rfl) rfl rfl hl.1 rfl (lv_room (Nat.le_of_ble_eq_true rfl)) dX3_readLetter_29 ⟨Nat.le_refl _, Nat.le_refl _⟩) (fun H locs w => ?_)
      have w : Wd D cI cZ b0 tt A s [(x_a, .inr (3, [.ref x_l, .int x_ln])), (x_l, .inl (cI, 56, .inl x_le)), (p_a, .inr (1, [.int p_th, .int p_ki, .int p_fe, .ref p_c, .ref p_d])), (p_c, .inl (cI, 4, .inl r15.2)), (p_d, .inl (cI, 16, .inl p_lo))] H locs := w
      obtain ⟨hn16, hf⟩ := gz_at hf
      exact k_zret (u := (p_th, p_ki, r15.2)) hx hb hr hlk w rfl hn16 hf dX3_readLetter_32
  · replace hf := ite_t c1 hf
    refine lv_iload_n hx hb dX3_readLetter_4 rfl (lv_at hl 3 rfl) ?_
    refine lv_bipush (v := 67) hx hb dX3_readLetter_5 (by decide) ?_
    refine lv_icmp_ne (tgt := 14) hx hb dX3_readLetter_7 (by decide) (fun c17 => ?_) (fun c17 => ?_)
    · replace hf := ite_f c17 hf
      refine lv_iconst (v := 0) hx hb dX3_readLetter_14 (by decide) ?_
      exact k_zret (u := (p_th, p_ki, p_ca)) hx hb hr hlk w rfl rfl hf dX3_readLetter_15
    · replace hf := ite_t c17 hf
      refine lv_iconst (v := 1) hx hb dX3_readLetter_10 (by decide) ?_
      refine lv_goto (tgt := 15) hx hb dX3_readLetter_11 (by decide) ?_
      exact k_zret (u := (p_th, p_ki, p_ca)) hx hb hr hlk w rfl rfl hf dX3_readLetter_15
-- X3_readInto
def fX3_readInto_L6   (x_ln : Int32) (x_le : Nat → Int32) (p_fe : Int32) : Nat → Int32 → Int32 → Int32 → (Nat → Int32) → Option (Int32 × Int32 × Int32 × Int32 × (Nat → Int32))
  | 0, _, _, _, _ => none
  | n + 1, v2, p_th, p_ki, p_ca => (if x_ln ≤ v2 then (if x_ln < 5 then some (x_ln, (p_th, p_ki, p_fe, p_ca)) else (if ((x_ln - (5 : Int32)) - (x_ln - (5 : Int32)) / (3 : Int32) * (3 : Int32)) = 0 then some ((-9), (p_th, p_ki, p_fe, p_ca)) else some (x_ln, (p_th, p_ki, p_fe, p_ca)))) else (if 56 ≤ v2 then (if x_ln < 5 then some (x_ln, (p_th, p_ki, p_fe, p_ca)) else (if ((x_ln - (5 : Int32)) - (x_ln - (5 : Int32)) / (3 : Int32) * (3 : Int32)) = 0 then some ((-9), (p_th, p_ki, p_fe, p_ca)) else some (x_ln, (p_th, p_ki, p_fe, p_ca)))) else gd v2 56 (ob (fX3_readLetter x_le p_th p_ki p_ca v2 (x_le (Int32.toNatClampNeg v2))) (fun r14 => (if r14.1 = 0 then some (v2, (r14.2.1, r14.2.2.1, p_fe, r14.2.2.2)) else nm (v2 + 1) (fun z16 => fX3_readInto_L6 x_ln x_le p_fe n z16 r14.2.1 r14.2.2.1 r14.2.2.2))))))
set_option maxRecDepth 100000 in
set_option maxHeartbeats 4000000 in
theorem tX3_readInto_L6 {p : Program} {l : Launch} {e : Env} {s : State} {m : MethodId} {args : Array Value} {below : List Frame} {meth : Method} {c : Code} {D : va_G} {cI cZ : ClassId} {b0 : Nat} {tt : Nat → Nat} {A : Nat → Prop}  {x_a x_l p_a p_c p_d : Nat}  {x_ln : Int32} {x_le : Nat → Int32} {p_fe : Int32} {p_lo : Nat → Int32} {res : Int32 × Int32 × Int32 × Int32 × (Nat → Int32)} (C : Cx p s m args meth c cX3_readInto 3 (some .int) (cwX3_readInto :: GW) RX3) : ∀ (n : Nat) (v2 : Int32) (p_th : Int32) (p_ki : Int32) (p_ca : Nat → Int32) (H : Heap) (locs : List Loc) (ls : Array Slot), fX3_readInto_L6 x_ln x_le p_fe n v2 p_th p_ki p_ca = some res → Wd D cI cZ b0 tt A s [(x_a, .inr (3, [.ref x_l, .int x_ln])), (x_l, .inl (cI, 56, .inl x_le)), (p_a, .inr (1, [.int p_th, .int p_ki, .int p_fe, .ref p_c, .ref p_d])), (p_c, .inl (cI, 4, .inl p_ca)), (p_d, .inl (cI, 16, .inl p_lo))] H locs → lv_has ls 3 [(0, .ref x_a), (1, .ref p_a), (2, .int v2)] → W p l e (rmo 5 111) s m args below meth c H locs 0 0 (MQ below (QI D (fun u : Int32 × Int32 × Int32 × (Nat → Int32) => [(x_a, .inr (3, [.ref x_l, .int x_ln])), (x_l, .inl (cI, 56, .inl x_le)), (p_a, .inr (1, [.int u.1, .int u.2.1, .int u.2.2.1, .ref p_c, .ref p_d])), (p_c, .inl (cI, 4, .inl u.2.2.2)), (p_d, .inl (cI, 16, .inl p_lo))]) A res) args s 0 0 A) (F0 m 6 ls []) := by
  obtain ⟨hx, hb, hr, hml, hown, hts, hlk⟩ := id C
  have hg : ∀ w ∈ GW, w.before args s = true := fun w h => hts w (List.mem_cons_of_mem _ h)
  intro n
  induction n with
  | zero =>
    intro _ _ _ _ H locs ls hf
    rw [fX3_readInto_L6] at hf
    cases hf
  | succ n ih =>
    intro v2 p_th p_ki p_ca H locs ls hf w hl
    rw [fX3_readInto_L6] at hf
    refine lv_iload_n hx hb dX3_readInto_6 rfl (lv_at hl 2 rfl) ?_
    refine lv_aload_n hx hb dX3_readInto_7 rfl (lv_at hl 0 rfl) ?_
    refine va_get (D := D) (ci := 3) (v := .int x_ln) (C := RX3) (T := TX3) (N := 2) hx hb hg iX3 hown w.2.2.2.2.2.2.1 w.1 0 rfl rfl 1 (by decide) (hg _ w_23) (fun _ h9 => h9) rfl dX3_readInto_8 ?_
    refine lv_icmp_ge (tgt := 43) hx hb dX3_readInto_11 (by decide) (fun c1 => ?_) (fun c1 => ?_)
    · replace hf := ite_t c1 hf
      refine lv_aload_n hx hb dX3_readInto_43 rfl (lv_at hl 0 rfl) ?_
      refine va_get (D := D) (ci := 3) (v := .int x_ln) (C := RX3) (T := TX3) (N := 2) hx hb hg iX3 hown w.2.2.2.2.2.2.1 w.1 0 rfl rfl 1 (by decide) (hg _ w_23) (fun _ h9 => h9) rfl dX3_readInto_44 ?_
      refine lv_iconst (v := 5) hx hb dX3_readInto_47 (by decide) ?_
      refine lv_icmp_lt (tgt := 66) hx hb dX3_readInto_48 (by decide) (fun c2 => ?_) (fun c2 => ?_)
      · replace hf := ite_t c2 hf
        refine lv_iconst (v := 0) hx hb dX3_readInto_66 (by decide) ?_
        refine lv_istore_n (lv' := [(2, .int 0), (0, .ref x_a), (1, .ref p_a)]) hx hb dX3_readInto_67 rfl hl (by decide) rfl (fun ls hl => ?_)
        refine lv_iload_n hx hb dX3_readInto_68 rfl (lv_at hl 0 rfl) ?_
        refine lv_if_eq (tgt := 77) hx hb dX3_readInto_69 (by decide) (fun c3 => ?_) (fun c3 => ?_)
        rotate_left
        · exact absurd c3 (by decide)
        · skip
          refine lv_aload_n hx hb dX3_readInto_77 rfl (lv_at hl 1 rfl) ?_
          refine va_get (D := D) (ci := 3) (v := .int x_ln) (C := RX3) (T := TX3) (N := 2) hx hb hg iX3 hown w.2.2.2.2.2.2.1 w.1 0 rfl rfl 1 (by decide) (hg _ w_23) (fun _ h9 => h9) rfl dX3_readInto_78 ?_
          exact k_iret (u := (p_th, p_ki, p_fe, p_ca)) hx hb hr hlk w rfl hf dX3_readInto_81
      · replace hf := ite_f c2 hf
        refine lv_aload_n hx hb dX3_readInto_51 rfl (lv_at hl 0 rfl) ?_
        refine va_get (D := D) (ci := 3) (v := .int x_ln) (C := RX3) (T := TX3) (N := 2) hx hb hg iX3 hown w.2.2.2.2.2.2.1 w.1 0 rfl rfl 1 (by decide) (hg _ w_23) (fun _ h9 => h9) rfl dX3_readInto_52 ?_
        refine lv_iconst (v := 5) hx hb dX3_readInto_55 (by decide) ?_
        refine lv_isub hx hb dX3_readInto_56 ?_
        refine lv_iconst (v := 3) hx hb dX3_readInto_57 (by decide) ?_
        refine lv_irem hx hb dX3_readInto_58 (by decide) ?_
        refine lv_if_ne (tgt := 66) hx hb dX3_readInto_59 (by decide) (fun c4 => ?_) (fun c4 => ?_)
        · replace hf := ite_f c4 hf
          refine lv_iconst (v := 0) hx hb dX3_readInto_66 (by decide) ?_
          refine lv_istore_n (lv' := [(2, .int 0), (0, .ref x_a), (1, .ref p_a)]) hx hb dX3_readInto_67 rfl hl (by decide) rfl (fun ls hl => ?_)
          refine lv_iload_n hx hb dX3_readInto_68 rfl (lv_at hl 0 rfl) ?_
          refine lv_if_eq (tgt := 77) hx hb dX3_readInto_69 (by decide) (fun c5 => ?_) (fun c5 => ?_)
          rotate_left
          · exact absurd c5 (by decide)
          · skip
            refine lv_aload_n hx hb dX3_readInto_77 rfl (lv_at hl 1 rfl) ?_
            refine va_get (D := D) (ci := 3) (v := .int x_ln) (C := RX3) (T := TX3) (N := 2) hx hb hg iX3 hown w.2.2.2.2.2.2.1 w.1 0 rfl rfl 1 (by decide) (hg _ w_23) (fun _ h9 => h9) rfl dX3_readInto_78 ?_
            exact k_iret (u := (p_th, p_ki, p_fe, p_ca)) hx hb hr hlk w rfl hf dX3_readInto_81
        · replace hf := ite_t c4 hf
          refine lv_iconst (v := 1) hx hb dX3_readInto_62 (by decide) ?_
          refine lv_goto (tgt := 67) hx hb dX3_readInto_63 (by decide) ?_
          refine lv_istore_n (lv' := [(2, .int 1), (0, .ref x_a), (1, .ref p_a)]) hx hb dX3_readInto_67 rfl hl (by decide) rfl (fun ls hl => ?_)
          refine lv_iload_n hx hb dX3_readInto_68 rfl (lv_at hl 0 rfl) ?_
          refine lv_if_eq (tgt := 77) hx hb dX3_readInto_69 (by decide) (fun c6 => ?_) (fun c6 => ?_)
          · exact absurd c6 (by decide)
          · skip
            refine lv_bipush (v := (-9)) hx hb dX3_readInto_72 (by decide) ?_
            refine lv_goto (tgt := 81) hx hb dX3_readInto_74 (by decide) ?_
            exact k_iret (u := (p_th, p_ki, p_fe, p_ca)) hx hb hr hlk w rfl hf dX3_readInto_81
    · replace hf := ite_f c1 hf
      refine lv_iload_n hx hb dX3_readInto_14 rfl (lv_at hl 2 rfl) ?_
      refine lv_bipush (v := 56) hx hb dX3_readInto_15 (by decide) ?_
      refine lv_icmp_ge (tgt := 43) hx hb dX3_readInto_17 (by decide) (fun c7 => ?_) (fun c7 => ?_)
      · replace hf := ite_t c7 hf
        refine lv_aload_n hx hb dX3_readInto_43 rfl (lv_at hl 0 rfl) ?_
        refine va_get (D := D) (ci := 3) (v := .int x_ln) (C := RX3) (T := TX3) (N := 2) hx hb hg iX3 hown w.2.2.2.2.2.2.1 w.1 0 rfl rfl 1 (by decide) (hg _ w_23) (fun _ h9 => h9) rfl dX3_readInto_44 ?_
        refine lv_iconst (v := 5) hx hb dX3_readInto_47 (by decide) ?_
        refine lv_icmp_lt (tgt := 66) hx hb dX3_readInto_48 (by decide) (fun c8 => ?_) (fun c8 => ?_)
        · replace hf := ite_t c8 hf
          refine lv_iconst (v := 0) hx hb dX3_readInto_66 (by decide) ?_
          refine lv_istore_n (lv' := [(2, .int 0), (0, .ref x_a), (1, .ref p_a)]) hx hb dX3_readInto_67 rfl hl (by decide) rfl (fun ls hl => ?_)
          refine lv_iload_n hx hb dX3_readInto_68 rfl (lv_at hl 0 rfl) ?_
          refine lv_if_eq (tgt := 77) hx hb dX3_readInto_69 (by decide) (fun c9 => ?_) (fun c9 => ?_)
          rotate_left
          · exact absurd c9 (by decide)
          · skip
            refine lv_aload_n hx hb dX3_readInto_77 rfl (lv_at hl 1 rfl) ?_
            refine va_get (D := D) (ci := 3) (v := .int x_ln) (C := RX3) (T := TX3) (N := 2) hx hb hg iX3 hown w.2.2.2.2.2.2.1 w.1 0 rfl rfl 1 (by decide) (hg _ w_23) (fun _ h9 => h9) rfl dX3_readInto_78 ?_
            exact k_iret (u := (p_th, p_ki, p_fe, p_ca)) hx hb hr hlk w rfl hf dX3_readInto_81
        · replace hf := ite_f c8 hf
          refine lv_aload_n hx hb dX3_readInto_51 rfl (lv_at hl 0 rfl) ?_
          refine va_get (D := D) (ci := 3) (v := .int x_ln) (C := RX3) (T := TX3) (N := 2) hx hb hg iX3 hown w.2.2.2.2.2.2.1 w.1 0 rfl rfl 1 (by decide) (hg _ w_23) (fun _ h9 => h9) rfl dX3_readInto_52 ?_
          refine lv_iconst (v := 5) hx hb dX3_readInto_55 (by decide) ?_
          refine lv_isub hx hb dX3_readInto_56 ?_
          refine lv_iconst (v := 3) hx hb dX3_readInto_57 (by decide) ?_
          refine lv_irem hx hb dX3_readInto_58 (by decide) ?_
          refine lv_if_ne (tgt := 66) hx hb dX3_readInto_59 (by decide) (fun c10 => ?_) (fun c10 => ?_)
          · replace hf := ite_f c10 hf
            refine lv_iconst (v := 0) hx hb dX3_readInto_66 (by decide) ?_
            refine lv_istore_n (lv' := [(2, .int 0), (0, .ref x_a), (1, .ref p_a)]) hx hb dX3_readInto_67 rfl hl (by decide) rfl (fun ls hl => ?_)
            refine lv_iload_n hx hb dX3_readInto_68 rfl (lv_at hl 0 rfl) ?_
            refine lv_if_eq (tgt := 77) hx hb dX3_readInto_69 (by decide) (fun c11 => ?_) (fun c11 => ?_)
            rotate_left
            · exact absurd c11 (by decide)
            · skip
              refine lv_aload_n hx hb dX3_readInto_77 rfl (lv_at hl 1 rfl) ?_
              refine va_get (D := D) (ci := 3) (v := .int x_ln) (C := RX3) (T := TX3) (N := 2) hx hb hg iX3 hown w.2.2.2.2.2.2.1 w.1 0 rfl rfl 1 (by decide) (hg _ w_23) (fun _ h9 => h9) rfl dX3_readInto_78 ?_
              exact k_iret (u := (p_th, p_ki, p_fe, p_ca)) hx hb hr hlk w rfl hf dX3_readInto_81
          · replace hf := ite_t c10 hf
            refine lv_iconst (v := 1) hx hb dX3_readInto_62 (by decide) ?_
            refine lv_goto (tgt := 67) hx hb dX3_readInto_63 (by decide) ?_
            refine lv_istore_n (lv' := [(2, .int 1), (0, .ref x_a), (1, .ref p_a)]) hx hb dX3_readInto_67 rfl hl (by decide) rfl (fun ls hl => ?_)
            refine lv_iload_n hx hb dX3_readInto_68 rfl (lv_at hl 0 rfl) ?_
            refine lv_if_eq (tgt := 77) hx hb dX3_readInto_69 (by decide) (fun c12 => ?_) (fun c12 => ?_)
            · exact absurd c12 (by decide)
            · skip
              refine lv_bipush (v := (-9)) hx hb dX3_readInto_72 (by decide) ?_
              refine lv_goto (tgt := 81) hx hb dX3_readInto_74 (by decide) ?_
              exact k_iret (u := (p_th, p_ki, p_fe, p_ca)) hx hb hr hlk w rfl hf dX3_readInto_81
      · replace hf := ite_f c7 hf
        refine lv_aload_n hx hb dX3_readInto_20 rfl (lv_at hl 0 rfl) ?_
        refine lv_aload_n hx hb dX3_readInto_21 rfl (lv_at hl 1 rfl) ?_
        refine lv_iload_n hx hb dX3_readInto_22 rfl (lv_at hl 2 rfl) ?_
        refine lv_aload_n hx hb dX3_readInto_23 rfl (lv_at hl 0 rfl) ?_
        refine va_get (D := D) (ci := 3) (v := .ref x_l) (C := RX3) (T := TX3) (N := 2) hx hb hg iX3 hown w.2.2.2.2.2.2.1 w.1 0 rfl rfl 0 (by decide) (hg _ w_22) (fun _ h9 => h9) rfl dX3_readInto_24 ?_
        refine lv_iload_n hx hb dX3_readInto_27 rfl (lv_at hl 2 rfl) ?_
        replace hf := gd_at hf
        obtain ⟨hi13, hf⟩ := hf
        refine va_iald hx hb w.2.2.2.2.2.2.1 w.1 1 0 rfl rfl hi13 dX3_readInto_28 ?_
        replace hf := ob_at hf
        obtain ⟨r14, er14, hf⟩ := hf
        refine k_goI (v0 := (p_th, p_ki, p_ca)) (res := r14) w [0, 1, 2, 3, 4] rfl (fun _ => rfl) (va_runV (As := [.ref p_a, .int v2, .int (x_le (Int32.toNatClampNeg v2))]) (rest := []) ⟨hx, hb, hml, hown, hg⟩ (tX3_readLetter l D cI cZ b0 tt x_a x_l p_a p_c p_d x_ln x_le p_th p_ki p_fe p_ca p_lo v2 (x_le (Int32.toNatClampNeg v2)) er14 H.size) (cwV 3 hg (gwV w_146 w_147 w_832 w_2 w_148) rfl rfl rfl ⟨rfl, qdX3_readLetter⟩ ⟨Nat.le_of_ble_eq_true rfl, Nat.le_of_ble_eq_true rfl⟩) (k_preV w [0, 1, 2, 3, 4] (by decide) rfl (q0 := 0) rfl rfl) rfl rfl hl.1 rfl (lv_room (Nat.le_of_ble_eq_true rfl)) dX3_readInto_29 ⟨Nat.le_refl _, Nat.le_refl _⟩) (fun H locs w => ?_)
        have w : Wd D cI cZ b0 tt A s [(x_a, .inr (3, [.ref x_l, .int x_ln])), (x_l, .inl (cI, 56, .inl x_le)), (p_a, .inr (1, [.int r14.2.1, .int r14.2.2.1, .int p_fe, .ref p_c, .ref p_d])), (p_c, .inl (cI, 4, .inl r14.2.2.2)), (p_d, .inl (cI, 16, .inl p_lo))] H locs := w
        refine lv_if_ne (tgt := 37) hx hb dX3_readInto_32 (by decide) (fun c15 => ?_) (fun c15 => ?_)
        · replace hf := ite_f c15 hf
          obtain ⟨z16, ez16⟩ : ∃ y : Int32, y = (v2 + 1) := ⟨_, rfl⟩
          replace hf := nm_at ez16 hf
          refine lv_iinc (v := z16) (lv' := [(2, .int z16), (0, .ref x_a), (1, .ref p_a)]) hx hb dX3_readInto_37 hl (k := 2) rfl (by rw [ez16]; rfl) (by decide) rfl (fun ls hl => ?_)
          refine lv_goto (tgt := 6) hx hb dX3_readInto_40 (by decide) ?_
          exact ih z16 r14.2.1 r14.2.2.1 r14.2.2.2 H locs ls hf w (lv_sub hl [1, 2, 0] rfl)
        · replace hf := ite_t c15 hf
          refine lv_iload_n hx hb dX3_readInto_35 rfl (lv_at hl 2 rfl) ?_
          exact k_iret (u := (r14.2.1, r14.2.2.1, p_fe, r14.2.2.2)) hx hb hr hlk w rfl hf dX3_readInto_36
def fX3_readInto  (x_ln : Int32) (x_le : Nat → Int32) (p_th : Int32) (p_ki : Int32) (p_fe : Int32) (p_ca : Nat → Int32) : Option (Int32 × Int32 × Int32 × Int32 × (Nat → Int32)) := ob (fX1_clear p_th p_ki p_fe p_ca) (fun r17 => fX3_readInto_L6 x_ln x_le r17.2.2.1 FU 0 r17.1 r17.2.1 r17.2.2.2)
set_option maxRecDepth 100000 in
set_option maxHeartbeats 4000000 in
theorem tX3_readInto (l : Launch) (D : va_G) (cI cZ : ClassId) (b0 : Nat) (tt : Nat → Nat)  (x_a x_l p_a p_c p_d : Nat) (x_ln : Int32) (x_le : Nat → Int32) (p_th : Int32) (p_ki : Int32) (p_fe : Int32) (p_ca : Nat → Int32) (p_lo : Nat → Int32)  {res : Int32 × Int32 × Int32 × Int32 × (Nat → Int32)} (hf : fX3_readInto x_ln x_le p_th p_ki p_fe p_ca = some res) : CtI l yX3_readInto (cwX3_readInto :: GW) 5 111 D cI cZ b0 tt [.ref x_a, .ref p_a] (fun u : Int32 × Int32 × Int32 × (Nat → Int32) => [(x_a, .inr (3, [.ref x_l, .int x_ln])), (x_l, .inl (cI, 56, .inl x_le)), (p_a, .inr (1, [.int u.1, .int u.2.1, .int u.2.2.1, .ref p_c, .ref p_d])), (p_c, .inl (cI, 4, .inl u.2.2.2)), (p_d, .inl (cI, 16, .inl p_lo))]) (p_th, p_ki, p_fe, p_ca) res := by
  intro sz
  refine k_begin (cc := cX3_readInto) (maxL := 3) (ret := (some .int)) (by decide) rfl (Nat.le_of_ble_eq_true rfl) ?_
  intro p e s m below meth c ls C w hl
  generalize va_A _ sz = A at w ⊢
  have w : Wd D cI cZ b0 tt A s [(x_a, .inr (3, [.ref x_l, .int x_ln])), (x_l, .inl (cI, 56, .inl x_le)), (p_a, .inr (1, [.int p_th, .int p_ki, .int p_fe, .ref p_c, .ref p_d])), (p_c, .inl (cI, 4, .inl p_ca)), (p_d, .inl (cI, 16, .inl p_lo))] s.heap [] := w
  have hl : lv_has ls 3 [(0, .ref x_a), (1, .ref p_a)] := hl
  obtain ⟨H, eH⟩ : ∃ H, H = s.heap := ⟨_, rfl⟩
  rw [← eH] at w ⊢
  generalize ([] : List Loc) = locs at w ⊢
  generalize List.toArray _ = args at C ⊢
  obtain ⟨hx, hb, hr, hml, hown, hts, hlk⟩ := id C
  have hg : ∀ w ∈ GW, w.before args s = true := fun w h => hts w (List.mem_cons_of_mem _ h)
  unfold fX3_readInto at hf
  refine lv_aload_n hx hb dX3_readInto_0 rfl (lv_at hl 1 rfl) ?_
  replace hf := ob_at hf
  obtain ⟨r17, er17, hf⟩ := hf
  refine k_goV (v0 := (p_th, p_ki, p_fe, p_ca)) (res := r17) w [2, 3, 4] rfl (fun _ => rfl) (va_runV (As := []) (rest := []) ⟨hx, hb, hml, hown, hg⟩ (tX1_clear l D cI cZ b0 tt p_a p_c p_d p_th p_ki p_fe p_ca p_lo er17 H.size) (cwV 0 hg (gwV w_142 w_143 w_144 w_3 w_145) rfl rfl rfl ⟨rfl, qdX1_clear⟩ ⟨Nat.le_of_ble_eq_true rfl, Nat.le_of_ble_eq_true rfl⟩) (k_preV w [2, 3, 4] (by decide) rfl (q0 := 2) rfl rfl) rfl rfl hl.1 rfl (lv_room (Nat.le_of_ble_eq_true rfl)) dX3_readInto_1 ⟨Nat.le_refl _, Nat.le_refl _⟩) (fun H locs w => ?_)
  have w : Wd D cI cZ b0 tt A s [(x_a, .inr (3, [.ref x_l, .int x_ln])), (x_l, .inl (cI, 56, .inl x_le)), (p_a, .inr (1, [.int r17.1, .int r17.2.1, .int r17.2.2.1, .ref p_c, .ref p_d])), (p_c, .inl (cI, 4, .inl r17.2.2.2)), (p_d, .inl (cI, 16, .inl p_lo))] H locs := w
  refine lv_iconst (v := 0) hx hb dX3_readInto_4 (by decide) ?_
  refine lv_istore_n (lv' := [(2, .int 0), (0, .ref x_a), (1, .ref p_a)]) hx hb dX3_readInto_5 rfl hl (by decide) rfl (fun ls hl => ?_)
  exact tX3_readInto_L6 (x_ln := x_ln) (x_le := x_le) (p_fe := r17.2.2.1) (p_lo := p_lo) (C := C) FU 0 r17.1 r17.2.1 r17.2.2.2 H locs ls hf w (lv_sub hl [1, 2, 0] rfl)
-- X4_write
def fX4_write  (x_ln : Int32) (x_le : Nat → Int32) (a1 : Int32) : Option (Int32 × Int32 × (Nat → Int32)) := (if a1 < 0 then some ((-2), (x_ln, x_le)) else (if a1 ≤ 255 then (if x_ln < 56 then ob (fX3_append x_ln x_le a1) (fun r4 => some (r4.1, (r4.1, r4.2))) else some ((-4), (x_ln, x_le))) else some ((-2), (x_ln, x_le))))
set_option maxRecDepth 100000 in
set_option maxHeartbeats 4000000 in
theorem tX4_write (l : Launch) (D : va_G) (cI cZ : ClassId) (b0 : Nat) (tt : Nat → Nat)  (h_a x_a n_a r_a c_a s_a k_a x_l n_c n_d r_c r_d c_t c_k c_f s_t s_k s_f k_f k_s : Nat) (h_ac : Int32) (h_ks : Int32) (h_hc : Int32) (h_ok : Int32) (h_tk : Int32) (h_se : Int64) (x_ln : Int32) (x_le : Nat → Int32) (n_th : Int32) (n_ki : Int32) (n_fe : Int32) (n_ca : Nat → Int32) (n_lo : Nat → Int32) (r_th : Int32) (r_ki : Int32) (r_fe : Int32) (r_ca : Nat → Int32) (r_lo : Nat → Int32) (c_sz : Int32) (c_st : Nat → Int32) (c_sk : Nat → Int32) (c_sf : Nat → Int32) (s_sz : Int32) (s_st : Nat → Int32) (s_sk : Nat → Int32) (s_sf : Nat → Int32) (k_fh : Nat → Int32) (k_sh : Nat → Int32) (a1 : Int32) {res : Int32 × Int32 × (Nat → Int32)} (hf : fX4_write x_ln x_le a1 = some res) : CtI l yX4_write (cwX4_write :: GW) 1 21 D cI cZ b0 tt [.ref h_a, .int a1] (fun u : Int32 × (Nat → Int32) => [(h_a, .inr (4, [.ref x_a, .ref n_a, .ref r_a, .ref c_a, .ref s_a, .ref k_a, .int h_ac, .int h_ks, .int h_hc, .int h_ok, .int h_tk, .long h_se])), (x_a, .inr (3, [.ref x_l, .int u.1])), (x_l, .inl (cI, 56, .inl u.2)), (n_a, .inr (1, [.int n_th, .int n_ki, .int n_fe, .ref n_c, .ref n_d])), (n_c, .inl (cI, 4, .inl n_ca)), (n_d, .inl (cI, 16, .inl n_lo)), (r_a, .inr (1, [.int r_th, .int r_ki, .int r_fe, .ref r_c, .ref r_d])), (r_c, .inl (cI, 4, .inl r_ca)), (r_d, .inl (cI, 16, .inl r_lo)), (c_a, .inr (2, [.int c_sz, .ref c_t, .ref c_k, .ref c_f])), (c_t, .inl (cI, 14, .inl c_st)), (c_k, .inl (cI, 14, .inl c_sk)), (c_f, .inl (cI, 14, .inl c_sf)), (s_a, .inr (2, [.int s_sz, .ref s_t, .ref s_k, .ref s_f])), (s_t, .inl (cI, 2, .inl s_st)), (s_k, .inl (cI, 2, .inl s_sk)), (s_f, .inl (cI, 2, .inl s_sf)), (k_a, .inr (0, [.ref k_f, .ref k_s])), (k_f, .inl (cI, 25, .inl k_fh)), (k_s, .inl (cI, 25, .inl k_sh))]) (x_ln, x_le) res := by
  intro sz
  refine k_begin (cc := cX4_write) (maxL := 2) (ret := (some .int)) (by decide) rfl (Nat.le_of_ble_eq_true rfl) ?_
  intro p e s m below meth c ls C w hl
  generalize va_A _ sz = A at w ⊢
  have w : Wd D cI cZ b0 tt A s [(h_a, .inr (4, [.ref x_a, .ref n_a, .ref r_a, .ref c_a, .ref s_a, .ref k_a, .int h_ac, .int h_ks, .int h_hc, .int h_ok, .int h_tk, .long h_se])), (x_a, .inr (3, [.ref x_l, .int x_ln])), (x_l, .inl (cI, 56, .inl x_le)), (n_a, .inr (1, [.int n_th, .int n_ki, .int n_fe, .ref n_c, .ref n_d])), (n_c, .inl (cI, 4, .inl n_ca)), (n_d, .inl (cI, 16, .inl n_lo)), (r_a, .inr (1, [.int r_th, .int r_ki, .int r_fe, .ref r_c, .ref r_d])), (r_c, .inl (cI, 4, .inl r_ca)), (r_d, .inl (cI, 16, .inl r_lo)), (c_a, .inr (2, [.int c_sz, .ref c_t, .ref c_k, .ref c_f])), (c_t, .inl (cI, 14, .inl c_st)), (c_k, .inl (cI, 14, .inl c_sk)), (c_f, .inl (cI, 14, .inl c_sf)), (s_a, .inr (2, [.int s_sz, .ref s_t, .ref s_k, .ref s_f])), (s_t, .inl (cI, 2, .inl s_st)), (s_k, .inl (cI, 2, .inl s_sk)), (s_f, .inl (cI, 2, .inl s_sf)), (k_a, .inr (0, [.ref k_f, .ref k_s])), (k_f, .inl (cI, 25, .inl k_fh)), (k_s, .inl (cI, 25, .inl k_sh))] s.heap [] := w
  have hl : lv_has ls 2 [(0, .ref h_a), (1, .int a1)] := hl
  obtain ⟨H, eH⟩ : ∃ H, H = s.heap := ⟨_, rfl⟩
  rw [← eH] at w ⊢
  generalize ([] : List Loc) = locs at w ⊢
  generalize List.toArray _ = args at C ⊢
  obtain ⟨hx, hb, hr, hml, hown, hts, hlk⟩ := id C
  have hg : ∀ w ∈ GW, w.before args s = true := fun w h => hts w (List.mem_cons_of_mem _ h)
  unfold fX4_write at hf
  refine lv_iload_n hx hb dX4_write_0 rfl (lv_at hl 1 rfl) ?_
  refine lv_if_lt (tgt := 11) hx hb dX4_write_1 (by decide) (fun c1 => ?_) (fun c1 => ?_)
  · replace hf := ite_t c1 hf
    refine lv_bipush (v := (-2)) hx hb dX4_write_11 (by decide) ?_
    exact k_iret (u := (x_ln, x_le)) hx hb hr hlk w rfl hf dX4_write_13
  · replace hf := ite_f c1 hf
    refine lv_iload_n hx hb dX4_write_4 rfl (lv_at hl 1 rfl) ?_
    refine lv_sipush (v := 255) hx hb dX4_write_5 (by decide) ?_
    refine lv_icmp_le (tgt := 14) hx hb dX4_write_8 (by decide) (fun c2 => ?_) (fun c2 => ?_)
    · replace hf := ite_t c2 hf
      refine lv_aload_n hx hb dX4_write_14 rfl (lv_at hl 0 rfl) ?_
      refine va_get (D := D) (ci := 4) (v := .ref x_a) (C := RX4) (T := TX4) (N := 12) hx hb hg iX4 hown w.2.2.2.2.2.2.1 w.1 0 rfl rfl 0 (by decide) (hg _ w_85) (fun _ h9 => h9) rfl dX4_write_15 ?_
      refine va_getN (D := D) (ci := 3) (v := .int x_ln) (C := RX3) (T := TX3) (N := 2) hx hb hg iX3 hown w.2.2.2.2.2.2.1 w.1 1 rfl rfl 1 (by decide) (k_nf w 0 (q := ("CardHouse", 52, "CardHouse$Text", "length", "I")) rfl) (fun _ h9 => h9) rfl dX4_write_18 ?_
      refine lv_bipush (v := 56) hx hb dX4_write_21 (by decide) ?_
      refine lv_icmp_lt (tgt := 29) hx hb dX4_write_23 (by decide) (fun c3 => ?_) (fun c3 => ?_)
      · replace hf := ite_t c3 hf
        refine lv_aload_n hx hb dX4_write_29 rfl (lv_at hl 0 rfl) ?_
        refine va_get (D := D) (ci := 4) (v := .ref x_a) (C := RX4) (T := TX4) (N := 12) hx hb hg iX4 hown w.2.2.2.2.2.2.1 w.1 0 rfl rfl 0 (by decide) (hg _ w_85) (fun _ h9 => h9) rfl dX4_write_30 ?_
        refine lv_iload_n hx hb dX4_write_33 rfl (lv_at hl 1 rfl) ?_
        replace hf := ob_at hf
        obtain ⟨r4, er4, hf⟩ := hf
        refine k_goV (v0 := (x_ln, x_le)) (res := r4) w [1, 2] rfl (fun _ => rfl) (va_runV (As := [.int a1]) (rest := []) ⟨hx, hb, hml, hown, hg⟩ (tX3_append l D cI cZ b0 tt x_a x_l x_ln x_le a1 er4 H.size) (cwV 1 hg (gwV w_126 w_127 w_128 w_2 w_129) rfl rfl rfl ⟨rfl, qdX3_append⟩ ⟨Nat.le_of_ble_eq_true rfl, Nat.le_of_ble_eq_true rfl⟩) (k_preV w [1, 2] (by decide) rfl (q0 := 1) rfl rfl) rfl rfl hl.1 rfl (lv_room (Nat.le_of_ble_eq_true rfl)) dX4_write_34 ⟨Nat.le_refl _, Nat.le_refl _⟩) (fun H locs w => ?_)
        have w : Wd D cI cZ b0 tt A s [(h_a, .inr (4, [.ref x_a, .ref n_a, .ref r_a, .ref c_a, .ref s_a, .ref k_a, .int h_ac, .int h_ks, .int h_hc, .int h_ok, .int h_tk, .long h_se])), (x_a, .inr (3, [.ref x_l, .int r4.1])), (x_l, .inl (cI, 56, .inl r4.2)), (n_a, .inr (1, [.int n_th, .int n_ki, .int n_fe, .ref n_c, .ref n_d])), (n_c, .inl (cI, 4, .inl n_ca)), (n_d, .inl (cI, 16, .inl n_lo)), (r_a, .inr (1, [.int r_th, .int r_ki, .int r_fe, .ref r_c, .ref r_d])), (r_c, .inl (cI, 4, .inl r_ca)), (r_d, .inl (cI, 16, .inl r_lo)), (c_a, .inr (2, [.int c_sz, .ref c_t, .ref c_k, .ref c_f])), (c_t, .inl (cI, 14, .inl c_st)), (c_k, .inl (cI, 14, .inl c_sk)), (c_f, .inl (cI, 14, .inl c_sf)), (s_a, .inr (2, [.int s_sz, .ref s_t, .ref s_k, .ref s_f])), (s_t, .inl (cI, 2, .inl s_st)), (s_k, .inl (cI, 2, .inl s_sk)), (s_f, .inl (cI, 2, .inl s_sf)), (k_a, .inr (0, [.ref k_f, .ref k_s])), (k_f, .inl (cI, 25, .inl k_fh)), (k_s, .inl (cI, 25, .inl k_sh))] H locs := w
        refine lv_aload_n hx hb dX4_write_37 rfl (lv_at hl 0 rfl) ?_
        refine va_get (D := D) (ci := 4) (v := .ref x_a) (C := RX4) (T := TX4) (N := 12) hx hb hg iX4 hown w.2.2.2.2.2.2.1 w.1 0 rfl rfl 0 (by decide) (hg _ w_85) (fun _ h9 => h9) rfl dX4_write_38 ?_
        refine va_getN (D := D) (ci := 3) (v := .int r4.1) (C := RX3) (T := TX3) (N := 2) hx hb hg iX3 hown w.2.2.2.2.2.2.1 w.1 1 rfl rfl 1 (by decide) (k_nf w 0 (q := ("CardHouse", 52, "CardHouse$Text", "length", "I")) rfl) (fun _ h9 => h9) rfl dX4_write_41 ?_
        exact k_iret (u := (r4.1, r4.2)) hx hb hr hlk w rfl hf dX4_write_44
      · replace hf := ite_f c3 hf
        refine lv_bipush (v := (-4)) hx hb dX4_write_26 (by decide) ?_
        exact k_iret (u := (x_ln, x_le)) hx hb hr hlk w rfl hf dX4_write_28
    · replace hf := ite_f c2 hf
      refine lv_bipush (v := (-2)) hx hb dX4_write_11 (by decide) ?_
      exact k_iret (u := (x_ln, x_le)) hx hb hr hlk w rfl hf dX4_write_13
-- X4_wipe
def fX4_wipe  (x_ln : Int32) : Option (Int32 × Int32) := some (x_ln, 0)
set_option maxRecDepth 100000 in
set_option maxHeartbeats 4000000 in
theorem tX4_wipe (l : Launch) (D : va_G) (cI cZ : ClassId) (b0 : Nat) (tt : Nat → Nat)  (h_a x_a n_a r_a c_a s_a k_a x_l n_c n_d r_c r_d c_t c_k c_f s_t s_k s_f k_f k_s : Nat) (h_ac : Int32) (h_ks : Int32) (h_hc : Int32) (h_ok : Int32) (h_tk : Int32) (h_se : Int64) (x_ln : Int32) (x_le : Nat → Int32) (n_th : Int32) (n_ki : Int32) (n_fe : Int32) (n_ca : Nat → Int32) (n_lo : Nat → Int32) (r_th : Int32) (r_ki : Int32) (r_fe : Int32) (r_ca : Nat → Int32) (r_lo : Nat → Int32) (c_sz : Int32) (c_st : Nat → Int32) (c_sk : Nat → Int32) (c_sf : Nat → Int32) (s_sz : Int32) (s_st : Nat → Int32) (s_sk : Nat → Int32) (s_sf : Nat → Int32) (k_fh : Nat → Int32) (k_sh : Nat → Int32)  {res : Int32 × Int32} (hf : fX4_wipe x_ln = some res) : CtI l yX4_wipe (cwX4_wipe :: GW) 0 0 D cI cZ b0 tt [.ref h_a] (fun u : Int32 => [(h_a, .inr (4, [.ref x_a, .ref n_a, .ref r_a, .ref c_a, .ref s_a, .ref k_a, .int h_ac, .int h_ks, .int h_hc, .int h_ok, .int h_tk, .long h_se])), (x_a, .inr (3, [.ref x_l, .int u])), (x_l, .inl (cI, 56, .inl x_le)), (n_a, .inr (1, [.int n_th, .int n_ki, .int n_fe, .ref n_c, .ref n_d])), (n_c, .inl (cI, 4, .inl n_ca)), (n_d, .inl (cI, 16, .inl n_lo)), (r_a, .inr (1, [.int r_th, .int r_ki, .int r_fe, .ref r_c, .ref r_d])), (r_c, .inl (cI, 4, .inl r_ca)), (r_d, .inl (cI, 16, .inl r_lo)), (c_a, .inr (2, [.int c_sz, .ref c_t, .ref c_k, .ref c_f])), (c_t, .inl (cI, 14, .inl c_st)), (c_k, .inl (cI, 14, .inl c_sk)), (c_f, .inl (cI, 14, .inl c_sf)), (s_a, .inr (2, [.int s_sz, .ref s_t, .ref s_k, .ref s_f])), (s_t, .inl (cI, 2, .inl s_st)), (s_k, .inl (cI, 2, .inl s_sk)), (s_f, .inl (cI, 2, .inl s_sf)), (k_a, .inr (0, [.ref k_f, .ref k_s])), (k_f, .inl (cI, 25, .inl k_fh)), (k_s, .inl (cI, 25, .inl k_sh))]) x_ln res := by
  intro sz
  refine k_begin (cc := cX4_wipe) (maxL := 2) (ret := (some .int)) (by decide) rfl (Nat.le_of_ble_eq_true rfl) ?_
  intro p e s m below meth c ls C w hl
  generalize va_A _ sz = A at w ⊢
  have w : Wd D cI cZ b0 tt A s [(h_a, .inr (4, [.ref x_a, .ref n_a, .ref r_a, .ref c_a, .ref s_a, .ref k_a, .int h_ac, .int h_ks, .int h_hc, .int h_ok, .int h_tk, .long h_se])), (x_a, .inr (3, [.ref x_l, .int x_ln])), (x_l, .inl (cI, 56, .inl x_le)), (n_a, .inr (1, [.int n_th, .int n_ki, .int n_fe, .ref n_c, .ref n_d])), (n_c, .inl (cI, 4, .inl n_ca)), (n_d, .inl (cI, 16, .inl n_lo)), (r_a, .inr (1, [.int r_th, .int r_ki, .int r_fe, .ref r_c, .ref r_d])), (r_c, .inl (cI, 4, .inl r_ca)), (r_d, .inl (cI, 16, .inl r_lo)), (c_a, .inr (2, [.int c_sz, .ref c_t, .ref c_k, .ref c_f])), (c_t, .inl (cI, 14, .inl c_st)), (c_k, .inl (cI, 14, .inl c_sk)), (c_f, .inl (cI, 14, .inl c_sf)), (s_a, .inr (2, [.int s_sz, .ref s_t, .ref s_k, .ref s_f])), (s_t, .inl (cI, 2, .inl s_st)), (s_k, .inl (cI, 2, .inl s_sk)), (s_f, .inl (cI, 2, .inl s_sf)), (k_a, .inr (0, [.ref k_f, .ref k_s])), (k_f, .inl (cI, 25, .inl k_fh)), (k_s, .inl (cI, 25, .inl k_sh))] s.heap [] := w
  have hl : lv_has ls 2 [(0, .ref h_a)] := hl
  obtain ⟨H, eH⟩ : ∃ H, H = s.heap := ⟨_, rfl⟩
  rw [← eH] at w ⊢
  generalize ([] : List Loc) = locs at w ⊢
  generalize List.toArray _ = args at C ⊢
  obtain ⟨hx, hb, hr, hml, hown, hts, hlk⟩ := id C
  have hg : ∀ w ∈ GW, w.before args s = true := fun w h => hts w (List.mem_cons_of_mem _ h)
  unfold fX4_wipe at hf
  refine lv_aload_n hx hb dX4_wipe_0 rfl (lv_at hl 0 rfl) ?_
  refine va_get (D := D) (ci := 4) (v := .ref x_a) (C := RX4) (T := TX4) (N := 12) hx hb hg iX4 hown w.2.2.2.2.2.2.1 w.1 0 rfl rfl 0 (by decide) (hg _ w_85) (fun _ h9 => h9) rfl dX4_wipe_1 ?_
  refine va_getN (D := D) (ci := 3) (v := .int x_ln) (C := RX3) (T := TX3) (N := 2) hx hb hg iX3 hown w.2.2.2.2.2.2.1 w.1 1 rfl rfl 1 (by decide) (k_nf w 0 (q := ("CardHouse", 52, "CardHouse$Text", "length", "I")) rfl) (fun _ h9 => h9) rfl dX4_wipe_4 ?_
  refine lv_istore_n (lv' := [(1, .int x_ln), (0, .ref h_a)]) hx hb dX4_wipe_7 rfl hl (by decide) rfl (fun ls hl => ?_)
  refine lv_aload_n hx hb dX4_wipe_8 rfl (lv_at hl 1 rfl) ?_
  refine va_get (D := D) (ci := 4) (v := .ref x_a) (C := RX4) (T := TX4) (N := 12) hx hb hg iX4 hown w.2.2.2.2.2.2.1 w.1 0 rfl rfl 0 (by decide) (hg _ w_85) (fun _ h9 => h9) rfl dX4_wipe_9 ?_
  refine lv_iconst (v := 0) hx hb dX4_wipe_12 (by decide) ?_
  refine k_putN (ci := 3) (v := .int 0) (ty := .int) (C := RX3) (T := TX3) (N := 2) hx hb hg iX3 tyX3 tyX3_ok nmX3 hown w 1 rfl rfl 1 (by decide) (k_nf w 0 (q := ("CardHouse", 52, "CardHouse$Text", "length", "I")) rfl) (fun _ h9 => h9) rfl pd_I rfl rfl (Nat.le_of_ble_eq_true rfl) dX4_wipe_13 (fun H locs w => ?_)
  have w : Wd D cI cZ b0 tt A s [(h_a, .inr (4, [.ref x_a, .ref n_a, .ref r_a, .ref c_a, .ref s_a, .ref k_a, .int h_ac, .int h_ks, .int h_hc, .int h_ok, .int h_tk, .long h_se])), (x_a, .inr (3, [.ref x_l, .int 0])), (x_l, .inl (cI, 56, .inl x_le)), (n_a, .inr (1, [.int n_th, .int n_ki, .int n_fe, .ref n_c, .ref n_d])), (n_c, .inl (cI, 4, .inl n_ca)), (n_d, .inl (cI, 16, .inl n_lo)), (r_a, .inr (1, [.int r_th, .int r_ki, .int r_fe, .ref r_c, .ref r_d])), (r_c, .inl (cI, 4, .inl r_ca)), (r_d, .inl (cI, 16, .inl r_lo)), (c_a, .inr (2, [.int c_sz, .ref c_t, .ref c_k, .ref c_f])), (c_t, .inl (cI, 14, .inl c_st)), (c_k, .inl (cI, 14, .inl c_sk)), (c_f, .inl (cI, 14, .inl c_sf)), (s_a, .inr (2, [.int s_sz, .ref s_t, .ref s_k, .ref s_f])), (s_t, .inl (cI, 2, .inl s_st)), (s_k, .inl (cI, 2, .inl s_sk)), (s_f, .inl (cI, 2, .inl s_sf)), (k_a, .inr (0, [.ref k_f, .ref k_s])), (k_f, .inl (cI, 25, .inl k_fh)), (k_s, .inl (cI, 25, .inl k_sh))] H locs := w
  refine lv_iload_n hx hb dX4_wipe_16 rfl (lv_at hl 0 rfl) ?_
  exact k_iret (u := 0) hx hb hr hlk w rfl hf dX4_wipe_17
-- X4_fault
def fX4_fault  (x_ln : Int32) (x_le : Nat → Int32) (r_th : Int32) (r_ki : Int32) (r_fe : Int32) (r_ca : Nat → Int32) : Option (Int32 × Int32 × Int32 × Int32 × (Nat → Int32)) := ob (fX3_readInto x_ln x_le r_th r_ki r_fe r_ca) (fun r1 => some (r1.1, (r1.2.1, r1.2.2.1, r1.2.2.2.1, r1.2.2.2.2)))
set_option maxRecDepth 100000 in
set_option maxHeartbeats 4000000 in
theorem tX4_fault (l : Launch) (D : va_G) (cI cZ : ClassId) (b0 : Nat) (tt : Nat → Nat)  (h_a x_a n_a r_a c_a s_a k_a x_l n_c n_d r_c r_d c_t c_k c_f s_t s_k s_f k_f k_s : Nat) (h_ac : Int32) (h_ks : Int32) (h_hc : Int32) (h_ok : Int32) (h_tk : Int32) (h_se : Int64) (x_ln : Int32) (x_le : Nat → Int32) (n_th : Int32) (n_ki : Int32) (n_fe : Int32) (n_ca : Nat → Int32) (n_lo : Nat → Int32) (r_th : Int32) (r_ki : Int32) (r_fe : Int32) (r_ca : Nat → Int32) (r_lo : Nat → Int32) (c_sz : Int32) (c_st : Nat → Int32) (c_sk : Nat → Int32) (c_sf : Nat → Int32) (s_sz : Int32) (s_st : Nat → Int32) (s_sk : Nat → Int32) (s_sf : Nat → Int32) (k_fh : Nat → Int32) (k_sh : Nat → Int32)  {res : Int32 × Int32 × Int32 × Int32 × (Nat → Int32)} (hf : fX4_fault x_ln x_le r_th r_ki r_fe r_ca = some res) : CtI l yX4_fault (cwX4_fault :: GW) 6 133 D cI cZ b0 tt [.ref h_a] (fun u : Int32 × Int32 × Int32 × (Nat → Int32) => [(h_a, .inr (4, [.ref x_a, .ref n_a, .ref r_a, .ref c_a, .ref s_a, .ref k_a, .int h_ac, .int h_ks, .int h_hc, .int h_ok, .int h_tk, .long h_se])), (x_a, .inr (3, [.ref x_l, .int x_ln])), (x_l, .inl (cI, 56, .inl x_le)), (n_a, .inr (1, [.int n_th, .int n_ki, .int n_fe, .ref n_c, .ref n_d])), (n_c, .inl (cI, 4, .inl n_ca)), (n_d, .inl (cI, 16, .inl n_lo)), (r_a, .inr (1, [.int u.1, .int u.2.1, .int u.2.2.1, .ref r_c, .ref r_d])), (r_c, .inl (cI, 4, .inl u.2.2.2)), (r_d, .inl (cI, 16, .inl r_lo)), (c_a, .inr (2, [.int c_sz, .ref c_t, .ref c_k, .ref c_f])), (c_t, .inl (cI, 14, .inl c_st)), (c_k, .inl (cI, 14, .inl c_sk)), (c_f, .inl (cI, 14, .inl c_sf)), (s_a, .inr (2, [.int s_sz, .ref s_t, .ref s_k, .ref s_f])), (s_t, .inl (cI, 2, .inl s_st)), (s_k, .inl (cI, 2, .inl s_sk)), (s_f, .inl (cI, 2, .inl s_sf)), (k_a, .inr (0, [.ref k_f, .ref k_s])), (k_f, .inl (cI, 25, .inl k_fh)), (k_s, .inl (cI, 25, .inl k_sh))]) (r_th, r_ki, r_fe, r_ca) res := by
  intro sz
  refine k_begin (cc := cX4_fault) (maxL := 1) (ret := (some .int)) (by decide) rfl (Nat.le_of_ble_eq_true rfl) ?_
  intro p e s m below meth c ls C w hl
  generalize va_A _ sz = A at w ⊢
  have w : Wd D cI cZ b0 tt A s [(h_a, .inr (4, [.ref x_a, .ref n_a, .ref r_a, .ref c_a, .ref s_a, .ref k_a, .int h_ac, .int h_ks, .int h_hc, .int h_ok, .int h_tk, .long h_se])), (x_a, .inr (3, [.ref x_l, .int x_ln])), (x_l, .inl (cI, 56, .inl x_le)), (n_a, .inr (1, [.int n_th, .int n_ki, .int n_fe, .ref n_c, .ref n_d])), (n_c, .inl (cI, 4, .inl n_ca)), (n_d, .inl (cI, 16, .inl n_lo)), (r_a, .inr (1, [.int r_th, .int r_ki, .int r_fe, .ref r_c, .ref r_d])), (r_c, .inl (cI, 4, .inl r_ca)), (r_d, .inl (cI, 16, .inl r_lo)), (c_a, .inr (2, [.int c_sz, .ref c_t, .ref c_k, .ref c_f])), (c_t, .inl (cI, 14, .inl c_st)), (c_k, .inl (cI, 14, .inl c_sk)), (c_f, .inl (cI, 14, .inl c_sf)), (s_a, .inr (2, [.int s_sz, .ref s_t, .ref s_k, .ref s_f])), (s_t, .inl (cI, 2, .inl s_st)), (s_k, .inl (cI, 2, .inl s_sk)), (s_f, .inl (cI, 2, .inl s_sf)), (k_a, .inr (0, [.ref k_f, .ref k_s])), (k_f, .inl (cI, 25, .inl k_fh)), (k_s, .inl (cI, 25, .inl k_sh))] s.heap [] := w
  have hl : lv_has ls 1 [(0, .ref h_a)] := hl
  obtain ⟨H, eH⟩ : ∃ H, H = s.heap := ⟨_, rfl⟩
  rw [← eH] at w ⊢
  generalize ([] : List Loc) = locs at w ⊢
  generalize List.toArray _ = args at C ⊢
  obtain ⟨hx, hb, hr, hml, hown, hts, hlk⟩ := id C
  have hg : ∀ w ∈ GW, w.before args s = true := fun w h => hts w (List.mem_cons_of_mem _ h)
  unfold fX4_fault at hf
  refine lv_aload_n hx hb dX4_fault_0 rfl (lv_at hl 0 rfl) ?_
  refine va_get (D := D) (ci := 4) (v := .ref x_a) (C := RX4) (T := TX4) (N := 12) hx hb hg iX4 hown w.2.2.2.2.2.2.1 w.1 0 rfl rfl 0 (by decide) (hg _ w_85) (fun _ h9 => h9) rfl dX4_fault_1 ?_
  refine lv_aload_n hx hb dX4_fault_4 rfl (lv_at hl 0 rfl) ?_
  refine va_get (D := D) (ci := 4) (v := .ref r_a) (C := RX4) (T := TX4) (N := 12) hx hb hg iX4 hown w.2.2.2.2.2.2.1 w.1 0 rfl rfl 2 (by decide) (hg _ w_87) (fun _ h9 => h9) rfl dX4_fault_5 ?_
  replace hf := ob_at hf
  obtain ⟨r1, er1, hf⟩ := hf
  refine k_goI (v0 := (r_th, r_ki, r_fe, r_ca)) (res := r1) w [1, 2, 6, 7, 8] rfl (fun _ => rfl) (va_runV (As := [.ref r_a]) (rest := []) ⟨hx, hb, hml, hown, hg⟩ (tX3_readInto l D cI cZ b0 tt x_a x_l r_a r_c r_d x_ln x_le r_th r_ki r_fe r_ca r_lo er1 H.size) (cwV 1 hg (gwV w_138 w_139 w_140 w_2 w_141) rfl rfl rfl ⟨rfl, qdX3_readInto⟩ ⟨Nat.le_of_ble_eq_true rfl, Nat.le_of_ble_eq_true rfl⟩) (k_preV w [1, 2, 6, 7, 8] (by decide) rfl (q0 := 1) rfl rfl) rfl rfl hl.1 rfl (lv_room (Nat.le_of_ble_eq_true rfl)) dX4_fault_8 ⟨Nat.le_refl _, Nat.le_refl _⟩) (fun H locs w => ?_)
  have w : Wd D cI cZ b0 tt A s [(h_a, .inr (4, [.ref x_a, .ref n_a, .ref r_a, .ref c_a, .ref s_a, .ref k_a, .int h_ac, .int h_ks, .int h_hc, .int h_ok, .int h_tk, .long h_se])), (x_a, .inr (3, [.ref x_l, .int x_ln])), (x_l, .inl (cI, 56, .inl x_le)), (n_a, .inr (1, [.int n_th, .int n_ki, .int n_fe, .ref n_c, .ref n_d])), (n_c, .inl (cI, 4, .inl n_ca)), (n_d, .inl (cI, 16, .inl n_lo)), (r_a, .inr (1, [.int r1.2.1, .int r1.2.2.1, .int r1.2.2.2.1, .ref r_c, .ref r_d])), (r_c, .inl (cI, 4, .inl r1.2.2.2.2)), (r_d, .inl (cI, 16, .inl r_lo)), (c_a, .inr (2, [.int c_sz, .ref c_t, .ref c_k, .ref c_f])), (c_t, .inl (cI, 14, .inl c_st)), (c_k, .inl (cI, 14, .inl c_sk)), (c_f, .inl (cI, 14, .inl c_sf)), (s_a, .inr (2, [.int s_sz, .ref s_t, .ref s_k, .ref s_f])), (s_t, .inl (cI, 2, .inl s_st)), (s_k, .inl (cI, 2, .inl s_sk)), (s_f, .inl (cI, 2, .inl s_sf)), (k_a, .inr (0, [.ref k_f, .ref k_s])), (k_f, .inl (cI, 25, .inl k_fh)), (k_s, .inl (cI, 25, .inl k_sh))] H locs := w
  exact k_iret (u := (r1.2.1, r1.2.2.1, r1.2.2.2.1, r1.2.2.2.2)) hx hb hr hlk w rfl hf dX4_fault_11
-- X4_house
def fX4_house  (h_ac : Int32) (h_ks : Int32) (x_ln : Int32) (x_le : Nat → Int32) (n_th : Int32) (n_ki : Int32) (n_fe : Int32) (n_ca : Nat → Int32) (r_th : Int32) (r_ki : Int32) (r_fe : Int32) (r_ca : Nat → Int32) (r_lo : Nat → Int32) : Option (Int32 × Int32 × Int32 × Int32 × Int32 × Int32 × (Nat → Int32) × Int32 × Int32 × Int32 × (Nat → Int32) × (Nat → Int32)) := ob (fX3_readInto x_ln x_le r_th r_ki r_fe r_ca) (fun r1 => (if r1.1 = (-9) then ob (fX1_settle r1.2.1 r1.2.2.1 r1.2.2.2.1 r_lo) (fun r3 => ob (fX1_copyFrom n_th n_ki n_fe n_ca r3.2.1 r1.2.2.1 0 r1.2.2.2.2) (fun r4 => ob (fX1_size r4.1) (fun r5 => some (r5, (0, 0, r4.1, r4.2.1, r4.2.2.1, r4.2.2.2, r3.2.1, r1.2.2.1, 0, r1.2.2.2.2, r3.2.2.2))))) else some ((-3), (h_ac, h_ks, n_th, n_ki, n_fe, n_ca, r1.2.1, r1.2.2.1, r1.2.2.2.1, r1.2.2.2.2, r_lo))))
set_option maxRecDepth 100000 in
set_option maxHeartbeats 4000000 in
theorem tX4_house (l : Launch) (D : va_G) (cI cZ : ClassId) (b0 : Nat) (tt : Nat → Nat)  (h_a x_a n_a r_a c_a s_a k_a x_l n_c n_d r_c r_d c_t c_k c_f s_t s_k s_f k_f k_s : Nat) (h_ac : Int32) (h_ks : Int32) (h_hc : Int32) (h_ok : Int32) (h_tk : Int32) (h_se : Int64) (x_ln : Int32) (x_le : Nat → Int32) (n_th : Int32) (n_ki : Int32) (n_fe : Int32) (n_ca : Nat → Int32) (n_lo : Nat → Int32) (r_th : Int32) (r_ki : Int32) (r_fe : Int32) (r_ca : Nat → Int32) (r_lo : Nat → Int32) (c_sz : Int32) (c_st : Nat → Int32) (c_sk : Nat → Int32) (c_sf : Nat → Int32) (s_sz : Int32) (s_st : Nat → Int32) (s_sk : Nat → Int32) (s_sf : Nat → Int32) (k_fh : Nat → Int32) (k_sh : Nat → Int32)  {res : Int32 × Int32 × Int32 × Int32 × Int32 × Int32 × (Nat → Int32) × Int32 × Int32 × Int32 × (Nat → Int32) × (Nat → Int32)} (hf : fX4_house h_ac h_ks x_ln x_le n_th n_ki n_fe n_ca r_th r_ki r_fe r_ca r_lo = some res) : CtI l yX4_house (cwX4_house :: GW) 6 133 D cI cZ b0 tt [.ref h_a] (fun u : Int32 × Int32 × Int32 × Int32 × Int32 × (Nat → Int32) × Int32 × Int32 × Int32 × (Nat → Int32) × (Nat → Int32) => [(h_a, .inr (4, [.ref x_a, .ref n_a, .ref r_a, .ref c_a, .ref s_a, .ref k_a, .int u.1, .int u.2.1, .int h_hc, .int h_ok, .int h_tk, .long h_se])), (x_a, .inr (3, [.ref x_l, .int x_ln])), (x_l, .inl (cI, 56, .inl x_le)), (n_a, .inr (1, [.int u.2.2.1, .int u.2.2.2.1, .int u.2.2.2.2.1, .ref n_c, .ref n_d])), (n_c, .inl (cI, 4, .inl u.2.2.2.2.2.1)), (n_d, .inl (cI, 16, .inl n_lo)), (r_a, .inr (1, [.int u.2.2.2.2.2.2.1, .int u.2.2.2.2.2.2.2.1, .int u.2.2.2.2.2.2.2.2.1, .ref r_c, .ref r_d])), (r_c, .inl (cI, 4, .inl u.2.2.2.2.2.2.2.2.2.1)), (r_d, .inl (cI, 16, .inl u.2.2.2.2.2.2.2.2.2.2)), (c_a, .inr (2, [.int c_sz, .ref c_t, .ref c_k, .ref c_f])), (c_t, .inl (cI, 14, .inl c_st)), (c_k, .inl (cI, 14, .inl c_sk)), (c_f, .inl (cI, 14, .inl c_sf)), (s_a, .inr (2, [.int s_sz, .ref s_t, .ref s_k, .ref s_f])), (s_t, .inl (cI, 2, .inl s_st)), (s_k, .inl (cI, 2, .inl s_sk)), (s_f, .inl (cI, 2, .inl s_sf)), (k_a, .inr (0, [.ref k_f, .ref k_s])), (k_f, .inl (cI, 25, .inl k_fh)), (k_s, .inl (cI, 25, .inl k_sh))]) (h_ac, h_ks, n_th, n_ki, n_fe, n_ca, r_th, r_ki, r_fe, r_ca, r_lo) res := by
  intro sz
  refine k_begin (cc := cX4_house) (maxL := 1) (ret := (some .int)) (by decide) rfl (Nat.le_of_ble_eq_true rfl) ?_
  intro p e s m below meth c ls C w hl
  generalize va_A _ sz = A at w ⊢
  have w : Wd D cI cZ b0 tt A s [(h_a, .inr (4, [.ref x_a, .ref n_a, .ref r_a, .ref c_a, .ref s_a, .ref k_a, .int h_ac, .int h_ks, .int h_hc, .int h_ok, .int h_tk, .long h_se])), (x_a, .inr (3, [.ref x_l, .int x_ln])), (x_l, .inl (cI, 56, .inl x_le)), (n_a, .inr (1, [.int n_th, .int n_ki, .int n_fe, .ref n_c, .ref n_d])), (n_c, .inl (cI, 4, .inl n_ca)), (n_d, .inl (cI, 16, .inl n_lo)), (r_a, .inr (1, [.int r_th, .int r_ki, .int r_fe, .ref r_c, .ref r_d])), (r_c, .inl (cI, 4, .inl r_ca)), (r_d, .inl (cI, 16, .inl r_lo)), (c_a, .inr (2, [.int c_sz, .ref c_t, .ref c_k, .ref c_f])), (c_t, .inl (cI, 14, .inl c_st)), (c_k, .inl (cI, 14, .inl c_sk)), (c_f, .inl (cI, 14, .inl c_sf)), (s_a, .inr (2, [.int s_sz, .ref s_t, .ref s_k, .ref s_f])), (s_t, .inl (cI, 2, .inl s_st)), (s_k, .inl (cI, 2, .inl s_sk)), (s_f, .inl (cI, 2, .inl s_sf)), (k_a, .inr (0, [.ref k_f, .ref k_s])), (k_f, .inl (cI, 25, .inl k_fh)), (k_s, .inl (cI, 25, .inl k_sh))] s.heap [] := w
  have hl : lv_has ls 1 [(0, .ref h_a)] := hl
  obtain ⟨H, eH⟩ : ∃ H, H = s.heap := ⟨_, rfl⟩
  rw [← eH] at w ⊢
  generalize ([] : List Loc) = locs at w ⊢
  generalize List.toArray _ = args at C ⊢
  obtain ⟨hx, hb, hr, hml, hown, hts, hlk⟩ := id C
  have hg : ∀ w ∈ GW, w.before args s = true := fun w h => hts w (List.mem_cons_of_mem _ h)
  unfold fX4_house at hf
  refine lv_aload_n hx hb dX4_house_0 rfl (lv_at hl 0 rfl) ?_
  refine va_get (D := D) (ci := 4) (v := .ref x_a) (C := RX4) (T := TX4) (N := 12) hx hb hg iX4 hown w.2.2.2.2.2.2.1 w.1 0 rfl rfl 0 (by decide) (hg _ w_85) (fun _ h9 => h9) rfl dX4_house_1 ?_
  refine lv_aload_n hx hb dX4_house_4 rfl (lv_at hl 0 rfl) ?_
  refine va_get (D := D) (ci := 4) (v := .ref r_a) (C := RX4) (T := TX4) (N := 12) hx hb hg iX4 hown w.2.2.2.2.2.2.1 w.1 0 rfl rfl 2 (by decide) (hg _ w_87) (fun _ h9 => h9) rfl dX4_house_5 ?_
  replace hf := ob_at hf
  obtain ⟨r1, er1, hf⟩ := hf
  refine k_goI (v0 := (r_th, r_ki, r_fe, r_ca)) (res := r1) w [1, 2, 6, 7, 8] rfl (fun _ => rfl) (va_runV (As := [.ref r_a]) (rest := []) ⟨hx, hb, hml, hown, hg⟩ (tX3_readInto l D cI cZ b0 tt x_a x_l r_a r_c r_d x_ln x_le r_th r_ki r_fe r_ca r_lo er1 H.size) (cwV 1 hg (gwV w_138 w_139 w_140 w_2 w_141) rfl rfl rfl ⟨rfl, qdX3_readInto⟩ ⟨Nat.le_of_ble_eq_true rfl, Nat.le_of_ble_eq_true rfl⟩) (k_preV w [1, 2, 6, 7, 8] (by decide) rfl (q0 := 1) rfl rfl) rfl rfl hl.1 rfl (lv_room (Nat.le_of_ble_eq_true rfl)) dX4_house_8 ⟨Nat.le_refl _, Nat.le_refl _⟩) (fun H locs w => ?_)
  have w : Wd D cI cZ b0 tt A s [(h_a, .inr (4, [.ref x_a, .ref n_a, .ref r_a, .ref c_a, .ref s_a, .ref k_a, .int h_ac, .int h_ks, .int h_hc, .int h_ok, .int h_tk, .long h_se])), (x_a, .inr (3, [.ref x_l, .int x_ln])), (x_l, .inl (cI, 56, .inl x_le)), (n_a, .inr (1, [.int n_th, .int n_ki, .int n_fe, .ref n_c, .ref n_d])), (n_c, .inl (cI, 4, .inl n_ca)), (n_d, .inl (cI, 16, .inl n_lo)), (r_a, .inr (1, [.int r1.2.1, .int r1.2.2.1, .int r1.2.2.2.1, .ref r_c, .ref r_d])), (r_c, .inl (cI, 4, .inl r1.2.2.2.2)), (r_d, .inl (cI, 16, .inl r_lo)), (c_a, .inr (2, [.int c_sz, .ref c_t, .ref c_k, .ref c_f])), (c_t, .inl (cI, 14, .inl c_st)), (c_k, .inl (cI, 14, .inl c_sk)), (c_f, .inl (cI, 14, .inl c_sf)), (s_a, .inr (2, [.int s_sz, .ref s_t, .ref s_k, .ref s_f])), (s_t, .inl (cI, 2, .inl s_st)), (s_k, .inl (cI, 2, .inl s_sk)), (s_f, .inl (cI, 2, .inl s_sf)), (k_a, .inr (0, [.ref k_f, .ref k_s])), (k_f, .inl (cI, 25, .inl k_fh)), (k_s, .inl (cI, 25, .inl k_sh))] H locs := w
  refine lv_bipush (v := (-9)) hx hb dX4_house_11 (by decide) ?_
  refine lv_icmp_eq (tgt := 19) hx hb dX4_house_13 (by decide) (fun c2 => ?_) (fun c2 => ?_)
  · replace hf := ite_t c2 hf
    refine lv_aload_n hx hb dX4_house_19 rfl (lv_at hl 0 rfl) ?_
    refine va_get (D := D) (ci := 4) (v := .ref r_a) (C := RX4) (T := TX4) (N := 12) hx hb hg iX4 hown w.2.2.2.2.2.2.1 w.1 0 rfl rfl 2 (by decide) (hg _ w_87) (fun _ h9 => h9) rfl dX4_house_20 ?_
    replace hf := ob_at hf
    obtain ⟨r3, er3, hf⟩ := hf
    refine k_goI (v0 := (r1.2.1, r1.2.2.2.1, r_lo)) (res := r3) w [6, 7, 8] rfl (fun _ => rfl) (va_runV (As := []) (rest := []) ⟨hx, hb, hml, hown, hg⟩ (tX1_settle l D cI cZ b0 tt r_a r_c r_d r1.2.1 r1.2.2.1 r1.2.2.2.1 r1.2.2.2.2 r_lo er3 H.size) (cwV 0 hg (gwV w_202 w_203 w_204 w_3 w_205) rfl rfl rfl ⟨rfl, qdX1_settle⟩ ⟨Nat.le_of_ble_eq_true rfl, Nat.le_of_ble_eq_true rfl⟩) (k_preV w [6, 7, 8] (by decide) rfl (q0 := 6) rfl rfl) rfl rfl hl.1 rfl (lv_room (Nat.le_of_ble_eq_true rfl)) dX4_house_23 ⟨Nat.le_refl _, Nat.le_refl _⟩) (fun H locs w => ?_)
    have w : Wd D cI cZ b0 tt A s [(h_a, .inr (4, [.ref x_a, .ref n_a, .ref r_a, .ref c_a, .ref s_a, .ref k_a, .int h_ac, .int h_ks, .int h_hc, .int h_ok, .int h_tk, .long h_se])), (x_a, .inr (3, [.ref x_l, .int x_ln])), (x_l, .inl (cI, 56, .inl x_le)), (n_a, .inr (1, [.int n_th, .int n_ki, .int n_fe, .ref n_c, .ref n_d])), (n_c, .inl (cI, 4, .inl n_ca)), (n_d, .inl (cI, 16, .inl n_lo)), (r_a, .inr (1, [.int r3.2.1, .int r1.2.2.1, .int r3.2.2.1, .ref r_c, .ref r_d])), (r_c, .inl (cI, 4, .inl r1.2.2.2.2)), (r_d, .inl (cI, 16, .inl r3.2.2.2)), (c_a, .inr (2, [.int c_sz, .ref c_t, .ref c_k, .ref c_f])), (c_t, .inl (cI, 14, .inl c_st)), (c_k, .inl (cI, 14, .inl c_sk)), (c_f, .inl (cI, 14, .inl c_sf)), (s_a, .inr (2, [.int s_sz, .ref s_t, .ref s_k, .ref s_f])), (s_t, .inl (cI, 2, .inl s_st)), (s_k, .inl (cI, 2, .inl s_sk)), (s_f, .inl (cI, 2, .inl s_sf)), (k_a, .inr (0, [.ref k_f, .ref k_s])), (k_f, .inl (cI, 25, .inl k_fh)), (k_s, .inl (cI, 25, .inl k_sh))] H locs := w
    refine lv_pop hx hb dX4_house_26 rfl ?_
    refine lv_aload_n hx hb dX4_house_27 rfl (lv_at hl 0 rfl) ?_
    refine va_get (D := D) (ci := 4) (v := .ref r_a) (C := RX4) (T := TX4) (N := 12) hx hb hg iX4 hown w.2.2.2.2.2.2.1 w.1 0 rfl rfl 2 (by decide) (hg _ w_87) (fun _ h9 => h9) rfl dX4_house_28 ?_
    refine lv_iconst (v := 0) hx hb dX4_house_31 (by decide) ?_
    refine k_putN (ci := 1) (v := .int 0) (ty := .int) (C := RX1) (T := TX1) (N := 5) hx hb hg iX1 tyX1 tyX1_ok nmX1 hown w 6 rfl rfl 2 (by decide) (k_nf w 1 (q := ("CardHouse", 66, "CardHouse$Pile", "fell", "I")) rfl) (fun _ h9 => h9) rfl pd_I rfl rfl (Nat.le_of_ble_eq_true rfl) dX4_house_32 (fun H locs w => ?_)
    have w : Wd D cI cZ b0 tt A s [(h_a, .inr (4, [.ref x_a, .ref n_a, .ref r_a, .ref c_a, .ref s_a, .ref k_a, .int h_ac, .int h_ks, .int h_hc, .int h_ok, .int h_tk, .long h_se])), (x_a, .inr (3, [.ref x_l, .int x_ln])), (x_l, .inl (cI, 56, .inl x_le)), (n_a, .inr (1, [.int n_th, .int n_ki, .int n_fe, .ref n_c, .ref n_d])), (n_c, .inl (cI, 4, .inl n_ca)), (n_d, .inl (cI, 16, .inl n_lo)), (r_a, .inr (1, [.int r3.2.1, .int r1.2.2.1, .int 0, .ref r_c, .ref r_d])), (r_c, .inl (cI, 4, .inl r1.2.2.2.2)), (r_d, .inl (cI, 16, .inl r3.2.2.2)), (c_a, .inr (2, [.int c_sz, .ref c_t, .ref c_k, .ref c_f])), (c_t, .inl (cI, 14, .inl c_st)), (c_k, .inl (cI, 14, .inl c_sk)), (c_f, .inl (cI, 14, .inl c_sf)), (s_a, .inr (2, [.int s_sz, .ref s_t, .ref s_k, .ref s_f])), (s_t, .inl (cI, 2, .inl s_st)), (s_k, .inl (cI, 2, .inl s_sk)), (s_f, .inl (cI, 2, .inl s_sf)), (k_a, .inr (0, [.ref k_f, .ref k_s])), (k_f, .inl (cI, 25, .inl k_fh)), (k_s, .inl (cI, 25, .inl k_sh))] H locs := w
    refine lv_aload_n hx hb dX4_house_35 rfl (lv_at hl 0 rfl) ?_
    refine va_get (D := D) (ci := 4) (v := .ref n_a) (C := RX4) (T := TX4) (N := 12) hx hb hg iX4 hown w.2.2.2.2.2.2.1 w.1 0 rfl rfl 1 (by decide) (hg _ w_86) (fun _ h9 => h9) rfl dX4_house_36 ?_
    refine lv_aload_n hx hb dX4_house_39 rfl (lv_at hl 0 rfl) ?_
    refine va_get (D := D) (ci := 4) (v := .ref r_a) (C := RX4) (T := TX4) (N := 12) hx hb hg iX4 hown w.2.2.2.2.2.2.1 w.1 0 rfl rfl 2 (by decide) (hg _ w_87) (fun _ h9 => h9) rfl dX4_house_40 ?_
    replace hf := ob_at hf
    obtain ⟨r4, er4, hf⟩ := hf
    refine k_goV (v0 := (n_th, n_ki, n_fe, n_ca)) (res := r4) w [3, 4, 5, 6, 7, 8] rfl (fun _ => rfl) (va_runV (As := [.ref r_a]) (rest := []) ⟨hx, hb, hml, hown, hg⟩ (tX1_copyFrom l D cI cZ b0 tt n_a n_c n_d r_a r_c r_d n_th n_ki n_fe n_ca n_lo r3.2.1 r1.2.2.1 0 r1.2.2.2.2 r3.2.2.2 er4 H.size) (cwV 1 hg (gwV w_228 w_229 w_230 w_3 w_231) rfl rfl rfl ⟨rfl, qdX1_copyFrom⟩ ⟨Nat.le_of_ble_eq_true rfl, Nat.le_of_ble_eq_true rfl⟩) (k_preV w [3, 4, 5, 6, 7, 8] (by decide) rfl (q0 := 3) rfl rfl) rfl rfl hl.1 rfl (lv_room (Nat.le_of_ble_eq_true rfl)) dX4_house_43 ⟨Nat.le_refl _, Nat.le_refl _⟩) (fun H locs w => ?_)
    have w : Wd D cI cZ b0 tt A s [(h_a, .inr (4, [.ref x_a, .ref n_a, .ref r_a, .ref c_a, .ref s_a, .ref k_a, .int h_ac, .int h_ks, .int h_hc, .int h_ok, .int h_tk, .long h_se])), (x_a, .inr (3, [.ref x_l, .int x_ln])), (x_l, .inl (cI, 56, .inl x_le)), (n_a, .inr (1, [.int r4.1, .int r4.2.1, .int r4.2.2.1, .ref n_c, .ref n_d])), (n_c, .inl (cI, 4, .inl r4.2.2.2)), (n_d, .inl (cI, 16, .inl n_lo)), (r_a, .inr (1, [.int r3.2.1, .int r1.2.2.1, .int 0, .ref r_c, .ref r_d])), (r_c, .inl (cI, 4, .inl r1.2.2.2.2)), (r_d, .inl (cI, 16, .inl r3.2.2.2)), (c_a, .inr (2, [.int c_sz, .ref c_t, .ref c_k, .ref c_f])), (c_t, .inl (cI, 14, .inl c_st)), (c_k, .inl (cI, 14, .inl c_sk)), (c_f, .inl (cI, 14, .inl c_sf)), (s_a, .inr (2, [.int s_sz, .ref s_t, .ref s_k, .ref s_f])), (s_t, .inl (cI, 2, .inl s_st)), (s_k, .inl (cI, 2, .inl s_sk)), (s_f, .inl (cI, 2, .inl s_sf)), (k_a, .inr (0, [.ref k_f, .ref k_s])), (k_f, .inl (cI, 25, .inl k_fh)), (k_s, .inl (cI, 25, .inl k_sh))] H locs := w
    refine lv_aload_n hx hb dX4_house_46 rfl (lv_at hl 0 rfl) ?_
    refine lv_iconst (v := 0) hx hb dX4_house_47 (by decide) ?_
    refine k_put (ci := 4) (v := .int 0) (ty := .int) (C := RX4) (T := TX4) (N := 12) hx hb hg iX4 tyX4 tyX4_ok nmX4 hown w 0 rfl rfl 6 (by decide) (hg _ w_91) (fun _ h9 => h9) rfl pd_I rfl rfl (Nat.le_of_ble_eq_true rfl) dX4_house_48 (fun H locs w => ?_)
    have w : Wd D cI cZ b0 tt A s [(h_a, .inr (4, [.ref x_a, .ref n_a, .ref r_a, .ref c_a, .ref s_a, .ref k_a, .int 0, .int h_ks, .int h_hc, .int h_ok, .int h_tk, .long h_se])), (x_a, .inr (3, [.ref x_l, .int x_ln])), (x_l, .inl (cI, 56, .inl x_le)), (n_a, .inr (1, [.int r4.1, .int r4.2.1, .int r4.2.2.1, .ref n_c, .ref n_d])), (n_c, .inl (cI, 4, .inl r4.2.2.2)), (n_d, .inl (cI, 16, .inl n_lo)), (r_a, .inr (1, [.int r3.2.1, .int r1.2.2.1, .int 0, .ref r_c, .ref r_d])), (r_c, .inl (cI, 4, .inl r1.2.2.2.2)), (r_d, .inl (cI, 16, .inl r3.2.2.2)), (c_a, .inr (2, [.int c_sz, .ref c_t, .ref c_k, .ref c_f])), (c_t, .inl (cI, 14, .inl c_st)), (c_k, .inl (cI, 14, .inl c_sk)), (c_f, .inl (cI, 14, .inl c_sf)), (s_a, .inr (2, [.int s_sz, .ref s_t, .ref s_k, .ref s_f])), (s_t, .inl (cI, 2, .inl s_st)), (s_k, .inl (cI, 2, .inl s_sk)), (s_f, .inl (cI, 2, .inl s_sf)), (k_a, .inr (0, [.ref k_f, .ref k_s])), (k_f, .inl (cI, 25, .inl k_fh)), (k_s, .inl (cI, 25, .inl k_sh))] H locs := w
    refine lv_aload_n hx hb dX4_house_51 rfl (lv_at hl 0 rfl) ?_
    refine lv_iconst (v := 0) hx hb dX4_house_52 (by decide) ?_
    refine k_put (ci := 4) (v := .int 0) (ty := .int) (C := RX4) (T := TX4) (N := 12) hx hb hg iX4 tyX4 tyX4_ok nmX4 hown w 0 rfl rfl 7 (by decide) (hg _ w_92) (fun _ h9 => h9) rfl pd_I rfl rfl (Nat.le_of_ble_eq_true rfl) dX4_house_53 (fun H locs w => ?_)
    have w : Wd D cI cZ b0 tt A s [(h_a, .inr (4, [.ref x_a, .ref n_a, .ref r_a, .ref c_a, .ref s_a, .ref k_a, .int 0, .int 0, .int h_hc, .int h_ok, .int h_tk, .long h_se])), (x_a, .inr (3, [.ref x_l, .int x_ln])), (x_l, .inl (cI, 56, .inl x_le)), (n_a, .inr (1, [.int r4.1, .int r4.2.1, .int r4.2.2.1, .ref n_c, .ref n_d])), (n_c, .inl (cI, 4, .inl r4.2.2.2)), (n_d, .inl (cI, 16, .inl n_lo)), (r_a, .inr (1, [.int r3.2.1, .int r1.2.2.1, .int 0, .ref r_c, .ref r_d])), (r_c, .inl (cI, 4, .inl r1.2.2.2.2)), (r_d, .inl (cI, 16, .inl r3.2.2.2)), (c_a, .inr (2, [.int c_sz, .ref c_t, .ref c_k, .ref c_f])), (c_t, .inl (cI, 14, .inl c_st)), (c_k, .inl (cI, 14, .inl c_sk)), (c_f, .inl (cI, 14, .inl c_sf)), (s_a, .inr (2, [.int s_sz, .ref s_t, .ref s_k, .ref s_f])), (s_t, .inl (cI, 2, .inl s_st)), (s_k, .inl (cI, 2, .inl s_sk)), (s_f, .inl (cI, 2, .inl s_sf)), (k_a, .inr (0, [.ref k_f, .ref k_s])), (k_f, .inl (cI, 25, .inl k_fh)), (k_s, .inl (cI, 25, .inl k_sh))] H locs := w
    refine lv_aload_n hx hb dX4_house_56 rfl (lv_at hl 0 rfl) ?_
    refine va_get (D := D) (ci := 4) (v := .ref n_a) (C := RX4) (T := TX4) (N := 12) hx hb hg iX4 hown w.2.2.2.2.2.2.1 w.1 0 rfl rfl 1 (by decide) (hg _ w_86) (fun _ h9 => h9) rfl dX4_house_57 ?_
    replace hf := ob_at hf
    obtain ⟨r5, er5, hf⟩ := hf
    refine k_goI0 w [3, 4, 5] rfl (va_runV (As := []) (rest := []) ⟨hx, hb, hml, hown, hg⟩ (tX1_size l D cI cZ b0 tt n_a n_c n_d r4.1 r4.2.1 r4.2.2.1 r4.2.2.2 n_lo er5 H.size) (cwV 0 hg (gwV w_232 w_233 w_234 w_3 w_235) rfl rfl rfl ⟨rfl, qdX1_size⟩ ⟨Nat.le_of_ble_eq_true rfl, Nat.le_of_ble_eq_true rfl⟩) (k_preV w [3, 4, 5] (by decide) rfl (q0 := 3) rfl rfl) rfl rfl hl.1 rfl (lv_room (Nat.le_of_ble_eq_true rfl)) dX4_house_60 ⟨Nat.le_refl _, Nat.le_refl _⟩) (fun H locs w => ?_)
    exact k_iret (u := (0, 0, r4.1, r4.2.1, r4.2.2.1, r4.2.2.2, r3.2.1, r1.2.2.1, 0, r1.2.2.2.2, r3.2.2.2)) hx hb hr hlk w rfl hf dX4_house_63
  · replace hf := ite_f c2 hf
    refine lv_bipush (v := (-3)) hx hb dX4_house_16 (by decide) ?_
    exact k_iret (u := (h_ac, h_ks, n_th, n_ki, n_fe, n_ca, r1.2.1, r1.2.2.1, r1.2.2.2.1, r1.2.2.2.2, r_lo)) hx hb hr hlk w rfl hf dX4_house_18
