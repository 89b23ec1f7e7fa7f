-- X1_lift
def fX1_lift  (p_th : Int32) (a1 : Int32) : Option (Int32) := nm (p_th &&& (((1 : Int32) <<< (a1 &&& 31)) ^^^ ((-1) : Int32))) (fun z1 => some z1)
set_option maxRecDepth 100000 in
set_option maxHeartbeats 4000000 in
theorem tX1_lift (l : Launch) (D : va_G) (cI cZ : ClassId) (b0 : Nat) (tt : Nat → Nat)  (p_a p_c p_d : Nat) (p_th : Int32) (p_ki : Int32) (p_fe : Int32) (p_ca : Nat → Int32) (p_lo : Nat → Int32) (a1 : Int32) {res : Int32} (hf : fX1_lift p_th a1 = some res) : CtV l yX1_lift (cwX1_lift :: GW) 0 0 D cI cZ b0 tt [.ref p_a, .int a1] (fun u : Int32 => [(p_a, .inr (1, [.int u, .int p_ki, .int p_fe, .ref p_c, .ref p_d])), (p_c, .inl (cI, 4, .inl p_ca)), (p_d, .inl (cI, 16, .inl p_lo))]) p_th res := by
  intro sz
  refine k_begin (cc := cX1_lift) (maxL := 2) (ret := none) (by decide) rfl (Nat.le_of_ble_eq_true rfl) ?_
  intro p e s m below meth c ls C w hl
  generalize va_A _ sz = A at w ⊢
  have w : Wd D cI cZ b0 tt A s [(p_a, .inr (1, [.int p_th, .int p_ki, .int p_fe, .ref p_c, .ref p_d])), (p_c, .inl (cI, 4, .inl p_ca)), (p_d, .inl (cI, 16, .inl p_lo))] s.heap [] := w
  have hl : lv_has ls 2 [(0, .ref p_a), (1, .int a1)] := hl
  obtain ⟨H, eH⟩ : ∃ H, H = s.heap := ⟨_, rfl⟩
  rw [← eH] at w ⊢
  generalize ([] : List Loc) = locs at w ⊢
  generalize List.toArray _ = args at C ⊢
  obtain ⟨hx, hb, hr, hml, hown, hts, hlk⟩ := id C
  have hg : ∀ w ∈ GW, w.before args s = true := fun w h => hts w (List.mem_cons_of_mem _ h)
  unfold fX1_lift at hf
  refine lv_aload_n hx hb dX1_lift_0 rfl (lv_at hl 0 rfl) ?_
  refine lv_dup hx hb dX1_lift_1 rfl ?_
  refine va_get (D := D) (ci := 1) (v := .int p_th) (C := RX1) (T := TX1) (N := 5) hx hb hg iX1 hown w.2.2.2.2.2.2.1 w.1 0 rfl rfl 0 (by decide) (hg _ w_35) (fun _ h9 => h9) rfl dX1_lift_2 ?_
  refine lv_iconst (v := 1) hx hb dX1_lift_5 (by decide) ?_
  refine lv_iload_n hx hb dX1_lift_6 rfl (lv_at hl 1 rfl) ?_
  refine lv_ishl hx hb dX1_lift_7 ?_
  refine lv_iconst (v := (-1)) hx hb dX1_lift_8 (by decide) ?_
  refine lv_ixor hx hb dX1_lift_9 ?_
  refine lv_iand hx hb dX1_lift_10 ?_
  refine lv_topi (fun z1 ez1 => ?_)
  replace hf := nm_at ez1 hf
  refine k_put (ci := 1) (v := .int z1) (ty := .int) (C := RX1) (T := TX1) (N := 5) hx hb hg iX1 tyX1 tyX1_ok nmX1 hown w 0 rfl rfl 0 (by decide) (hg _ w_35) (fun _ h9 => h9) rfl pd_I rfl rfl (Nat.le_of_ble_eq_true rfl) dX1_lift_11 (fun H locs w => ?_)
  have w : Wd D cI cZ b0 tt A s [(p_a, .inr (1, [.int z1, .int p_ki, .int p_fe, .ref p_c, .ref p_d])), (p_c, .inl (cI, 4, .inl p_ca)), (p_d, .inl (cI, 16, .inl p_lo))] H locs := w
  exact k_vret (u := z1) hx hb hr hlk w rfl hf dX1_lift_14
-- X1_liftIfCan
def fX1_liftIfCan  (p_th : Int32) (a1 : Int32) : Option (Int32 × Int32) := ob (fX4_isPiece a1) (fun r1 => (if r1 = 0 then some (0, p_th) else ob (fX1_canLift p_th a1) (fun r3 => (if r3 = 0 then some (0, p_th) else ob (fX1_lift p_th a1) (fun r5 => some (1, r5))))))
set_option maxRecDepth 100000 in
set_option maxHeartbeats 4000000 in
theorem tX1_liftIfCan (l : Launch) (D : va_G) (cI cZ : ClassId) (b0 : Nat) (tt : Nat → Nat)  (p_a p_c p_d : Nat) (p_th : Int32) (p_ki : Int32) (p_fe : Int32) (p_ca : Nat → Int32) (p_lo : Nat → Int32) (a1 : Int32) {res : Int32 × Int32} (hf : fX1_liftIfCan p_th a1 = some res) : CtI l yX1_liftIfCan (cwX1_liftIfCan :: GW) 3 65 D cI cZ b0 tt [.ref p_a, .int a1] (fun u : Int32 => [(p_a, .inr (1, [.int u, .int p_ki, .int p_fe, .ref p_c, .ref p_d])), (p_c, .inl (cI, 4, .inl p_ca)), (p_d, .inl (cI, 16, .inl p_lo))]) p_th res := by
  intro sz
  refine k_begin (cc := cX1_liftIfCan) (maxL := 2) (ret := (some .boolean)) (by decide) rfl (Nat.le_of_ble_eq_true rfl) ?_
  intro p e s m below meth c ls C w hl
  generalize va_A _ sz = A at w ⊢
  have w : Wd D cI cZ b0 tt A s [(p_a, .inr (1, [.int p_th, .int p_ki, .int p_fe, .ref p_c, .ref p_d])), (p_c, .inl (cI, 4, .inl p_ca)), (p_d, .inl (cI, 16, .inl p_lo))] s.heap [] := w
  have hl : lv_has ls 2 [(0, .ref p_a), (1, .int a1)] := hl
  obtain ⟨H, eH⟩ : ∃ H, H = s.heap := ⟨_, rfl⟩
  rw [← eH] at w ⊢
  generalize ([] : List Loc) = locs at w ⊢
  generalize List.toArray _ = args at C ⊢
  obtain ⟨hx, hb, hr, hml, hown, hts, hlk⟩ := id C
  have hg : ∀ w ∈ GW, w.before args s = true := fun w h => hts w (List.mem_cons_of_mem _ h)
  unfold fX1_liftIfCan at hf
  refine lv_iload_n hx hb dX1_liftIfCan_0 rfl (lv_at hl 1 rfl) ?_
  replace hf := ob_at hf
  obtain ⟨r1, er1, hf⟩ := hf
  refine k_goI0 w [] rfl (va_runSN (As := [.int a1]) (rest := []) ⟨hx, hb, hml, hown, hg⟩ (tX4_isPiece l D cI cZ b0 tt a1 er1 H.size) ⟨va_cnB 1 hg (gwN w_185) rfl rfl rfl (k_nm w 8 (q := ("CardHouse$Pile", 62, yX4_isPiece)) rfl) (hg _ w_1) qdX4_isPiece ⟨Nat.le_of_ble_eq_true rfl, Nat.le_of_ble_eq_true rfl⟩, hg _ w_184, trivial⟩ (k_preS w [] (by decide) rfl) rfl rfl hl.1 rfl (lv_room (Nat.le_of_ble_eq_true rfl)) dX1_liftIfCan_1 ⟨Nat.le_refl _, Nat.le_refl _⟩) (fun H locs w => ?_)
  refine lv_if_eq (tgt := 15) hx hb dX1_liftIfCan_4 (by decide) (fun c2 => ?_) (fun c2 => ?_)
  · replace hf := ite_t c2 hf
    refine lv_iconst (v := 0) hx hb dX1_liftIfCan_15 (by decide) ?_
    exact k_zret (u := p_th) hx hb hr hlk w rfl rfl hf dX1_liftIfCan_16
  · replace hf := ite_f c2 hf
    refine lv_aload_n hx hb dX1_liftIfCan_7 rfl (lv_at hl 0 rfl) ?_
    refine lv_iload_n hx hb dX1_liftIfCan_8 rfl (lv_at hl 1 rfl) ?_
    replace hf := ob_at hf
    obtain ⟨r3, er3, hf⟩ := hf
    refine k_goI0 w [0, 1, 2] rfl (va_runV (As := [.int a1]) (rest := []) ⟨hx, hb, hml, hown, hg⟩ (tX1_canLift l D cI cZ b0 tt p_a p_c p_d p_th p_ki p_fe p_ca p_lo a1 er3 H.size) (cwV 1 hg (gwV w_382 w_267 w_268 w_3 w_269) rfl rfl rfl ⟨rfl, qdX1_canLift⟩ ⟨Nat.le_of_ble_eq_true rfl, Nat.le_of_ble_eq_true rfl⟩) (k_preV w [0, 1, 2] (by decide) rfl (q0 := 0) rfl rfl) rfl rfl hl.1 rfl (lv_room (Nat.le_of_ble_eq_true rfl)) dX1_liftIfCan_9 ⟨Nat.le_refl _, Nat.le_refl _⟩) (fun H locs w => ?_)
    refine lv_if_ne (tgt := 17) hx hb dX1_liftIfCan_12 (by decide) (fun c4 => ?_) (fun c4 => ?_)
    · replace hf := ite_f c4 hf
      refine lv_aload_n hx hb dX1_liftIfCan_17 rfl (lv_at hl 0 rfl) ?_
      refine lv_iload_n hx hb dX1_liftIfCan_18 rfl (lv_at hl 1 rfl) ?_
      replace hf := ob_at hf
      obtain ⟨r5, er5, hf⟩ := hf
      refine k_goV (v0 := p_th) (res := r5) w [0, 1, 2] rfl (fun _ => rfl) (va_runV (As := [.int a1]) (rest := []) ⟨hx, hb, hml, hown, hg⟩ (tX1_lift l D cI cZ b0 tt p_a p_c p_d p_th p_ki p_fe p_ca p_lo a1 er5 H.size) (cwV 1 hg (gwV w_383 w_297 w_298 w_3 w_299) rfl rfl rfl ⟨rfl, qdX1_lift⟩ ⟨Nat.le_of_ble_eq_true rfl, Nat.le_of_ble_eq_true rfl⟩) (k_preV w [0, 1, 2] (by decide) rfl (q0 := 0) rfl rfl) rfl rfl hl.1 rfl (lv_room (Nat.le_of_ble_eq_true rfl)) dX1_liftIfCan_19 ⟨Nat.le_refl _, Nat.le_refl _⟩) (fun H locs w => ?_)
      have w : Wd D cI cZ b0 tt A s [(p_a, .inr (1, [.int r5, .int p_ki, .int p_fe, .ref p_c, .ref p_d])), (p_c, .inl (cI, 4, .inl p_ca)), (p_d, .inl (cI, 16, .inl p_lo))] H locs := w
      refine lv_iconst (v := 1) hx hb dX1_liftIfCan_22 (by decide) ?_
      exact k_zret (u := r5) hx hb hr hlk w rfl rfl hf dX1_liftIfCan_23
    · replace hf := ite_t c4 hf
      refine lv_iconst (v := 0) hx hb dX1_liftIfCan_15 (by decide) ?_
      exact k_zret (u := p_th) hx hb hr hlk w rfl rfl hf dX1_liftIfCan_16
-- X4_isLevel
def fX4_isLevel  (a1 : Int32) : Option (Int32) := (if a1 < 0 then some 0 else (if 4 ≤ a1 then some 0 else some 1))
set_option maxRecDepth 100000 in
set_option maxHeartbeats 4000000 in
theorem tX4_isLevel (l : Launch) (D : va_G) (cI cZ : ClassId) (b0 : Nat) (tt : Nat → Nat)    (a1 : Int32) {res : Int32} (hf : fX4_isLevel a1 = some res) : CtI l yX4_isLevel (cwX4_isLevel :: GW) 0 0 D cI cZ b0 tt [.int a1] (fun _ : Unit => []) () (res, ()) := by
  intro sz
  refine k_begin (cc := cX4_isLevel) (maxL := 1) (ret := (some .boolean)) (by decide) rfl (Nat.le_of_ble_eq_true rfl) ?_
  intro p e s m below meth c ls C w hl
  generalize va_A _ sz = A at w ⊢
  have w : Wd D cI cZ b0 tt A s [] s.heap [] := w
  have hl : lv_has ls 1 [(0, .int a1)] := hl
  obtain ⟨H, eH⟩ : ∃ H, H = s.heap := ⟨_, rfl⟩
  rw [← eH] at w ⊢
  generalize ([] : List Loc) = locs at w ⊢
  generalize List.toArray _ = args at C ⊢
  obtain ⟨hx, hb, hr, hml, hown, hts, hlk⟩ := id C
  have hg : ∀ w ∈ GW, w.before args s = true := fun w h => hts w (List.mem_cons_of_mem _ h)
  unfold fX4_isLevel at hf
  refine lv_iload_n hx hb dX4_isLevel_0 rfl (lv_at hl 0 rfl) ?_
  refine lv_if_lt (tgt := 13) hx hb dX4_isLevel_1 (by decide) (fun c1 => ?_) (fun c1 => ?_)
  · replace hf := ite_t c1 hf
    refine lv_iconst (v := 0) hx hb dX4_isLevel_13 (by decide) ?_
    exact k_zret (u := ()) hx hb hr hlk w rfl rfl (k_ret1 hf) dX4_isLevel_14
  · replace hf := ite_f c1 hf
    refine lv_iload_n hx hb dX4_isLevel_4 rfl (lv_at hl 0 rfl) ?_
    refine lv_iconst (v := 4) hx hb dX4_isLevel_5 (by decide) ?_
    refine lv_icmp_ge (tgt := 13) hx hb dX4_isLevel_6 (by decide) (fun c2 => ?_) (fun c2 => ?_)
    · replace hf := ite_t c2 hf
      refine lv_iconst (v := 0) hx hb dX4_isLevel_13 (by decide) ?_
      exact k_zret (u := ()) hx hb hr hlk w rfl rfl (k_ret1 hf) dX4_isLevel_14
    · replace hf := ite_f c2 hf
      refine lv_iconst (v := 1) hx hb dX4_isLevel_9 (by decide) ?_
      refine lv_goto (tgt := 14) hx hb dX4_isLevel_10 (by decide) ?_
      exact k_zret (u := ()) hx hb hr hlk w rfl rfl (k_ret1 hf) dX4_isLevel_14
-- X1_isTentOfLevel
def fX1_isTentOfLevel  (p_th : Int32) (a1 : Int32) (a2 : Int32) : Option (Int32) := ob (fX4_isLevel a2) (fun r1 => (if r1 = 0 then some 0 else gd a2 4 ((if ((p_th &&& (sTL (Int32.toNatClampNeg a2))) &&& ((1 : Int32) <<< (a1 &&& 31))) = 0 then some 0 else some 1))))
set_option maxRecDepth 100000 in
set_option maxHeartbeats 4000000 in
theorem tX1_isTentOfLevel (l : Launch) (D : va_G) (cI cZ : ClassId) (b0 : Nat) (tt : Nat → Nat)  (p_a p_c p_d : Nat) (p_th : Int32) (p_ki : Int32) (p_fe : Int32) (p_ca : Nat → Int32) (p_lo : Nat → Int32) (a1 : Int32) (a2 : Int32) {res : Int32} (hf : fX1_isTentOfLevel p_th a1 a2 = some res) : CtI l yX1_isTentOfLevel (cwX1_isTentOfLevel :: GW) 1 20 D cI cZ b0 tt [.ref p_a, .int a1, .int a2] (fun _ : Unit => [(p_a, .inr (1, [.int p_th, .int p_ki, .int p_fe, .ref p_c, .ref p_d])), (p_c, .inl (cI, 4, .inl p_ca)), (p_d, .inl (cI, 16, .inl p_lo))]) () (res, ()) := by
  intro sz
  refine k_begin (cc := cX1_isTentOfLevel) (maxL := 3) (ret := (some .boolean)) (by decide) rfl (Nat.le_of_ble_eq_true rfl) ?_
  intro p e s m below meth c ls C w hl
  generalize va_A _ sz = A at w ⊢
  have w : Wd D cI cZ b0 tt A s [(p_a, .inr (1, [.int p_th, .int p_ki, .int p_fe, .ref p_c, .ref p_d])), (p_c, .inl (cI, 4, .inl p_ca)), (p_d, .inl (cI, 16, .inl p_lo))] s.heap [] := w
  have hl : lv_has ls 3 [(0, .ref p_a), (1, .int a1), (2, .int a2)] := hl
  obtain ⟨H, eH⟩ : ∃ H, H = s.heap := ⟨_, rfl⟩
  rw [← eH] at w ⊢
  generalize ([] : List Loc) = locs at w ⊢
  generalize List.toArray _ = args at C ⊢
  obtain ⟨hx, hb, hr, hml, hown, hts, hlk⟩ := id C
  have hg : ∀ w ∈ GW, w.before args s = true := fun w h => hts w (List.mem_cons_of_mem _ h)
  unfold fX1_isTentOfLevel at hf
  refine lv_iload_n hx hb dX1_isTentOfLevel_0 rfl (lv_at hl 2 rfl) ?_
  replace hf := ob_at hf
  obtain ⟨r1, er1, hf⟩ := hf
  refine k_goI0 w [] rfl (va_runSN (As := [.int a2]) (rest := []) ⟨hx, hb, hml, hown, hg⟩ (tX4_isLevel l D cI cZ b0 tt a2 er1 H.size) ⟨va_cnB 1 hg (gwN w_307) rfl rfl rfl (k_nm w 3 (q := ("CardHouse$Pile", 105, yX4_isLevel)) rfl) (hg _ w_1) qdX4_isLevel ⟨Nat.le_of_ble_eq_true rfl, Nat.le_of_ble_eq_true rfl⟩, hg _ w_306, trivial⟩ (k_preS w [] (by decide) rfl) rfl rfl hl.1 rfl (lv_room (Nat.le_of_ble_eq_true rfl)) dX1_isTentOfLevel_1 ⟨Nat.le_refl _, Nat.le_refl _⟩) (fun H locs w => ?_)
  refine lv_if_eq (tgt := 28) hx hb dX1_isTentOfLevel_4 (by decide) (fun c2 => ?_) (fun c2 => ?_)
  · replace hf := ite_t c2 hf
    refine lv_iconst (v := 0) hx hb dX1_isTentOfLevel_28 (by decide) ?_
    exact k_zret (u := ()) hx hb hr hlk w rfl rfl (k_ret1 hf) dX1_isTentOfLevel_29
  · replace hf := ite_f c2 hf
    refine lv_aload_n hx hb dX1_isTentOfLevel_7 rfl (lv_at hl 0 rfl) ?_
    refine va_get (D := D) (ci := 1) (v := .int p_th) (C := RX1) (T := TX1) (N := 5) hx hb hg iX1 hown w.2.2.2.2.2.2.1 w.1 0 rfl rfl 0 (by decide) (hg _ w_35) (fun _ h9 => h9) rfl dX1_isTentOfLevel_8 ?_
    refine va_getsN hx hb (k_Z w w.2.2.2.2.2.2.2.1.2.2.2.2.1).1 w.2.2.1 hown (k_nf w 3 (q := ("CardHouse$Pile", 117, "CardHouse", "TENTS_OF_LEVEL", "[I")) rfl) (fun _ h9 => h9) dX1_isTentOfLevel_11 ?_
    refine lv_iload_n hx hb dX1_isTentOfLevel_14 rfl (lv_at hl 2 rfl) ?_
    replace hf := gd_at hf
    obtain ⟨hi3, hf⟩ := hf
    refine va_ti hx hb (k_Z w w.2.2.2.2.2.2.2.1.2.2.2.2.1).2 w.2.2.1 hi3 (v := .int (sTL (Int32.toNatClampNeg a2))) rfl dX1_isTentOfLevel_15 ?_
    refine lv_iand hx hb dX1_isTentOfLevel_16 ?_
    refine lv_iconst (v := 1) hx hb dX1_isTentOfLevel_17 (by decide) ?_
    refine lv_iload_n hx hb dX1_isTentOfLevel_18 rfl (lv_at hl 1 rfl) ?_
    refine lv_ishl hx hb dX1_isTentOfLevel_19 ?_
    refine lv_iand hx hb dX1_isTentOfLevel_20 ?_
    refine lv_if_eq (tgt := 28) hx hb dX1_isTentOfLevel_21 (by decide) (fun c4 => ?_) (fun c4 => ?_)
    · replace hf := ite_t c4 hf
      refine lv_iconst (v := 0) hx hb dX1_isTentOfLevel_28 (by decide) ?_
      exact k_zret (u := ()) hx hb hr hlk w rfl rfl (k_ret1 hf) dX1_isTentOfLevel_29
    · replace hf := ite_f c4 hf
      refine lv_iconst (v := 1) hx hb dX1_isTentOfLevel_24 (by decide) ?_
      refine lv_goto (tgt := 29) hx hb dX1_isTentOfLevel_25 (by decide) ?_
      exact k_zret (u := ()) hx hb hr hlk w rfl rfl (k_ret1 hf) dX1_isTentOfLevel_29
-- X4_steadiness
def fX4_steadiness  (a1 : Int32) (a2 : Int32) : Option (Int32) := ob (fX4_cardWeight a1) (fun r1 => ob (fX4_isKind a1) (fun r2 => (if r2 = 0 then some ((((2 : Int32) * r1) + a2) + (0 : Int32)) else gd a1 4 (some ((((2 : Int32) * r1) + a2) + (sGR (Int32.toNatClampNeg a1)))))))
set_option maxRecDepth 100000 in
set_option maxHeartbeats 4000000 in
theorem tX4_steadiness (l : Launch) (D : va_G) (cI cZ : ClassId) (b0 : Nat) (tt : Nat → Nat)    (a1 : Int32) (a2 : Int32) {res : Int32} (hf : fX4_steadiness a1 a2 = some res) : CtI l yX4_steadiness (cwX4_steadiness :: GW) 1 20 D cI cZ b0 tt [.int a1, .int a2] (fun _ : Unit => []) () (res, ()) := by
  intro sz
  refine k_begin (cc := cX4_steadiness) (maxL := 2) (ret := (some .int)) (by decide) rfl (Nat.le_of_ble_eq_true rfl) ?_
  intro p e s m below meth c ls C w hl
  generalize va_A _ sz = A at w ⊢
  have w : Wd D cI cZ b0 tt A s [] s.heap [] := w
  have hl : lv_has ls 2 [(0, .int a1), (1, .int a2)] := hl
  obtain ⟨H, eH⟩ : ∃ H, H = s.heap := ⟨_, rfl⟩
  rw [← eH] at w ⊢
  generalize ([] : List Loc) = locs at w ⊢
  generalize List.toArray _ = args at C ⊢
  obtain ⟨hx, hb, hr, hml, hown, hts, hlk⟩ := id C
  have hg : ∀ w ∈ GW, w.before args s = true := fun w h => hts w (List.mem_cons_of_mem _ h)
  unfold fX4_steadiness at hf
  refine lv_iconst (v := 2) hx hb dX4_steadiness_0 (by decide) ?_
  refine lv_iload_n hx hb dX4_steadiness_1 rfl (lv_at hl 0 rfl) ?_
  replace hf := ob_at hf
  obtain ⟨r1, er1, hf⟩ := hf
  refine k_goI0 w [] rfl (va_runS (As := [.int a1]) (rest := [.int 2]) ⟨hx, hb, hml, hown, hg⟩ (tX4_cardWeight l D cI cZ b0 tt a1 er1 H.size) (va_cwS 1 hg (gwS w_320 w_213 w_1 w_214) rfl rfl rfl qdX4_cardWeight ⟨Nat.le_of_ble_eq_true rfl, Nat.le_of_ble_eq_true rfl⟩) (k_preS w [] (by decide) rfl) rfl rfl hl.1 rfl (lv_room (Nat.le_of_ble_eq_true rfl)) dX4_steadiness_2 ⟨Nat.le_refl _, Nat.le_refl _⟩) (fun H locs w => ?_)
  refine lv_imul hx hb dX4_steadiness_5 ?_
  refine lv_iload_n hx hb dX4_steadiness_6 rfl (lv_at hl 1 rfl) ?_
  refine lv_iadd hx hb dX4_steadiness_7 ?_
  refine lv_iload_n hx hb dX4_steadiness_8 rfl (lv_at hl 0 rfl) ?_
  replace hf := ob_at hf
  obtain ⟨r2, er2, hf⟩ := hf
  refine k_goI0 w [] rfl (va_runS (As := [.int a1]) (rest := [.int (((2 : Int32) * r1) + a2)]) ⟨hx, hb, hml, hown, hg⟩ (tX4_isKind l D cI cZ b0 tt a1 er2 H.size) (va_cwS 1 hg (gwS w_252 w_152 w_1 w_153) rfl rfl rfl qdX4_isKind ⟨Nat.le_of_ble_eq_true rfl, Nat.le_of_ble_eq_true rfl⟩) (k_preS w [] (by decide) rfl) rfl rfl hl.1 rfl (lv_room (Nat.le_of_ble_eq_true rfl)) dX4_steadiness_9 ⟨Nat.le_refl _, Nat.le_refl _⟩) (fun H locs w => ?_)
  refine lv_if_eq (tgt := 23) hx hb dX4_steadiness_12 (by decide) (fun c3 => ?_) (fun c3 => ?_)
  · replace hf := ite_t c3 hf
    refine lv_iconst (v := 0) hx hb dX4_steadiness_23 (by decide) ?_
    refine lv_iadd hx hb dX4_steadiness_24 ?_
    exact k_iret (u := ()) hx hb hr hlk w rfl (k_ret1 hf) dX4_steadiness_25
  · replace hf := ite_f c3 hf
    refine va_gets hx hb (k_Z w w.2.2.2.2.2.2.2.1.2.2.2.2.2.2.1).1 w.2.2.1 hown (hg _ w_321) (fun _ h9 => h9) dX4_steadiness_15 ?_
    refine lv_iload_n hx hb dX4_steadiness_18 rfl (lv_at hl 0 rfl) ?_
    replace hf := gd_at hf
    obtain ⟨hi4, hf⟩ := hf
    refine va_ti hx hb (k_Z w w.2.2.2.2.2.2.2.1.2.2.2.2.2.2.1).2 w.2.2.1 hi4 (v := .int (sGR (Int32.toNatClampNeg a1))) rfl dX4_steadiness_19 ?_
    refine lv_goto (tgt := 24) hx hb dX4_steadiness_20 (by decide) ?_
    refine lv_iadd hx hb dX4_steadiness_24 ?_
    exact k_iret (u := ()) hx hb hr hlk w rfl (k_ret1 hf) dX4_steadiness_25
-- X1_blow
def fX1_blow_L9   (v1 : Int32) (v2 : Int32) (p_th : Int32) (p_ki : Int32) (p_fe : Int32) (p_lo : Nat → Int32) : Nat → Int32 → Int32 → Option (Int32 × Int32 × Int32 × (Nat → Int32))
  | 0, _, _ => none
  | n + 1, v3, v4 => (if 16 ≤ v4 then ob (fX1_drop p_th p_fe v3) (fun r2 => some (r2.1, (r2.2.1, r2.2.2, p_lo))) else ob (fX1_isTentOfLevel p_th v4 v1) (fun r3 => (if r3 = 0 then nm (v4 + 1) (fun z5 => fX1_blow_L9 v1 v2 p_th p_ki p_fe p_lo n v3 z5) else ob (fX1_kindOf p_ki v4) (fun r6 => gd v4 16 (ob (fX4_steadiness r6 (p_lo (Int32.toNatClampNeg v4))) (fun r8 => (if ((8 : Int32) * v2) ≤ r8 then nm (v4 + 1) (fun z10 => fX1_blow_L9 v1 v2 p_th p_ki p_fe p_lo n v3 z10) else nm (v3 ||| ((1 : Int32) <<< (v4 &&& 31))) (fun z11 => nm (v4 + 1) (fun z12 => fX1_blow_L9 v1 v2 p_th p_ki p_fe p_lo n z11 z12)))))))))
set_option maxRecDepth 100000 in
set_option maxHeartbeats 4000000 in
theorem tX1_blow_L9 {p : Program} {l : Launch} {e : Env} {s : State} {m : MethodId} {args : Array Value} {below : List Frame} {meth : Method} {c : Code} {D : va_G} {cI cZ : ClassId} {b0 : Nat} {tt : Nat → Nat} {A : Nat → Prop}  {p_a p_c p_d : Nat}  {v1 : Int32} {v2 : Int32} {p_th : Int32} {p_ki : Int32} {p_fe : Int32} {p_lo : Nat → Int32} {p_ca : Nat → Int32} {res : Int32 × Int32 × Int32 × (Nat → Int32)} (C : Cx p s m args meth c cX1_blow 5 (some .int) (cwX1_blow :: GW) RX1) : ∀ (n : Nat) (v3 : Int32) (v4 : Int32) (H : Heap) (locs : List Loc) (ls : Array Slot), fX1_blow_L9 v1 v2 p_th p_ki p_fe p_lo n v3 v4 = some res → Wd D cI cZ b0 tt A s [(p_a, .inr (1, [.int p_th, .int p_ki, .int p_fe, .ref p_c, .ref p_d])), (p_c, .inl (cI, 4, .inl p_ca)), (p_d, .inl (cI, 16, .inl p_lo))] H locs → lv_has ls 5 [(0, .ref p_a), (1, .int v1), (2, .int v2), (3, .int v3), (4, .int v4)] → W p l e (rmo 3 67) s m args below meth c H locs 0 0 (MQ below (QI D (fun u : Int32 × Int32 × (Nat → Int32) => [(p_a, .inr (1, [.int u.1, .int p_ki, .int u.2.1, .ref p_c, .ref p_d])), (p_c, .inl (cI, 4, .inl p_ca)), (p_d, .inl (cI, 16, .inl u.2.2))]) A res) args s 0 0 A) (F0 m 9 ls []) := by
  obtain ⟨hx, hb, hr, hml, hown, hts, hlk⟩ := id C
  have hg : ∀ w ∈ GW, w.before args s = true := fun w h => hts w (List.mem_cons_of_mem _ h)
  intro n
  induction n with
  | zero =>
    intro _ _ H locs ls hf
    rw [fX1_blow_L9] at hf
    cases hf
  | succ n ih =>
    intro v3 v4 H locs ls hf w hl
    rw [fX1_blow_L9] at hf
    refine lv_iload hx hb dX1_blow_9 (lv_at hl 4 rfl) ?_
    refine lv_bipush (v := 16) hx hb dX1_blow_11 (by decide) ?_
    refine lv_icmp_ge (tgt := 62) hx hb dX1_blow_13 (by decide) (fun c1 => ?_) (fun c1 => ?_)
    · replace hf := ite_t c1 hf
      refine lv_aload_n hx hb dX1_blow_62 rfl (lv_at hl 0 rfl) ?_
      refine lv_iload_n hx hb dX1_blow_63 rfl (lv_at hl 3 rfl) ?_
      replace hf := ob_at hf
      obtain ⟨r2, er2, hf⟩ := hf
      refine k_goI (v0 := (p_th, p_fe)) (res := r2) w [0, 1, 2] rfl (fun _ => rfl) (va_runV (As := [.int v3]) (rest := []) ⟨hx, hb, hml, hown, hg⟩ (tX1_drop l D cI cZ b0 tt p_a p_c p_d p_th p_ki p_fe p_ca p_lo v3 er2 H.size) (cwV 1 hg (gwV w_215 w_216 w_834 w_3 w_217) rfl rfl rfl ⟨rfl, qdX1_drop⟩ ⟨Nat.le_of_ble_eq_true rfl, Nat.le_of_ble_eq_true rfl⟩) (k_preV w [0, 1, 2] (by decide) rfl (q0 := 0) rfl rfl) rfl rfl hl.1 rfl (lv_room (Nat.le_of_ble_eq_true rfl)) dX1_blow_64 ⟨Nat.le_refl _, Nat.le_refl _⟩) (fun H locs w => ?_)
      have w : Wd D cI cZ b0 tt A s [(p_a, .inr (1, [.int r2.2.1, .int p_ki, .int r2.2.2, .ref p_c, .ref p_d])), (p_c, .inl (cI, 4, .inl p_ca)), (p_d, .inl (cI, 16, .inl p_lo))] H locs := w
      exact k_iret (u := (r2.2.1, r2.2.2, p_lo)) hx hb hr hlk w rfl hf dX1_blow_67
    · replace hf := ite_f c1 hf
      refine lv_aload_n hx hb dX1_blow_16 rfl (lv_at hl 0 rfl) ?_
      refine lv_iload hx hb dX1_blow_17 (lv_at hl 4 rfl) ?_
      refine lv_iload_n hx hb dX1_blow_19 rfl (lv_at hl 1 rfl) ?_
      replace hf := ob_at hf
      obtain ⟨r3, er3, hf⟩ := hf
      refine k_goI0 w [0, 1, 2] rfl (va_runV (As := [.int v4, .int v1]) (rest := []) ⟨hx, hb, hml, hown, hg⟩ (tX1_isTentOfLevel l D cI cZ b0 tt p_a p_c p_d p_th p_ki p_fe p_ca p_lo v4 v1 er3 H.size) (cwV 2 hg (gwV w_315 w_316 w_837 w_3 w_317) rfl rfl rfl ⟨rfl, qdX1_isTentOfLevel⟩ ⟨Nat.le_of_ble_eq_true rfl, Nat.le_of_ble_eq_true rfl⟩) (k_preV w [0, 1, 2] (by decide) rfl (q0 := 0) rfl rfl) rfl rfl hl.1 rfl (lv_room (Nat.le_of_ble_eq_true rfl)) dX1_blow_20 ⟨Nat.le_refl _, Nat.le_refl _⟩) (fun H locs w => ?_)
      refine lv_if_eq (tgt := 56) hx hb dX1_blow_23 (by decide) (fun c4 => ?_) (fun c4 => ?_)
      · replace hf := ite_t c4 hf
        obtain ⟨z5, ez5⟩ : ∃ y : Int32, y = (v4 + 1) := ⟨_, rfl⟩
        replace hf := nm_at ez5 hf
        refine lv_iinc (v := z5) (lv' := [(4, .int z5), (0, .ref p_a), (1, .int v1), (2, .int v2), (3, .int v3)]) hx hb dX1_blow_56 hl (k := 4) rfl (by rw [ez5]; rfl) (by decide) rfl (fun ls hl => ?_)
        refine lv_goto (tgt := 9) hx hb dX1_blow_59 (by decide) ?_
        exact ih v3 z5 H locs ls hf w (lv_sub hl [1, 2, 3, 4, 0] rfl)
      · replace hf := ite_f c4 hf
        refine lv_aload_n hx hb dX1_blow_26 rfl (lv_at hl 0 rfl) ?_
        refine lv_iload hx hb dX1_blow_27 (lv_at hl 4 rfl) ?_
        replace hf := ob_at hf
        obtain ⟨r6, er6, hf⟩ := hf
        refine k_goI0 w [0, 1, 2] rfl (va_runV (As := [.int v4]) (rest := []) ⟨hx, hb, hml, hown, hg⟩ (tX1_kindOf l D cI cZ b0 tt p_a p_c p_d p_th p_ki p_fe p_ca p_lo v4 er6 H.size) (cwV 1 hg (gwV w_169 w_170 w_171 w_3 w_172) rfl rfl rfl ⟨rfl, qdX1_kindOf⟩ ⟨Nat.le_of_ble_eq_true rfl, Nat.le_of_ble_eq_true rfl⟩) (k_preV w [0, 1, 2] (by decide) rfl (q0 := 0) rfl rfl) rfl rfl hl.1 rfl (lv_room (Nat.le_of_ble_eq_true rfl)) dX1_blow_29 ⟨Nat.le_refl _, Nat.le_refl _⟩) (fun H locs w => ?_)
        refine lv_aload_n hx hb dX1_blow_32 rfl (lv_at hl 0 rfl) ?_
        refine va_get (D := D) (ci := 1) (v := .ref p_d) (C := RX1) (T := TX1) (N := 5) hx hb hg iX1 hown w.2.2.2.2.2.2.1 w.1 0 rfl rfl 4 (by decide) (hg _ w_39) (fun _ h9 => h9) rfl dX1_blow_33 ?_
        refine lv_iload hx hb dX1_blow_36 (lv_at hl 4 rfl) ?_
        replace hf := gd_at hf
        obtain ⟨hi7, hf⟩ := hf
        refine va_iald hx hb w.2.2.2.2.2.2.1 w.1 2 0 rfl rfl hi7 dX1_blow_38 ?_
        replace hf := ob_at hf
        obtain ⟨r8, er8, hf⟩ := hf
        refine k_goI0 w [] rfl (va_runSN (As := [.int r6, .int (p_lo (Int32.toNatClampNeg v4))]) (rest := []) ⟨hx, hb, hml, hown, hg⟩ (tX4_steadiness l D cI cZ b0 tt r6 (p_lo (Int32.toNatClampNeg v4)) er8 H.size) ⟨va_cnB 2 hg (gwN w_319) rfl rfl rfl (k_nm w 9 (q := ("CardHouse$Pile", 99, yX4_steadiness)) rfl) (hg _ w_1) qdX4_steadiness ⟨Nat.le_of_ble_eq_true rfl, Nat.le_of_ble_eq_true rfl⟩, hg _ w_318, trivial⟩ (k_preS w [] (by decide) rfl) rfl rfl hl.1 rfl (lv_room (Nat.le_of_ble_eq_true rfl)) dX1_blow_39 ⟨Nat.le_refl _, Nat.le_refl _⟩) (fun H locs w => ?_)
        refine lv_bipush (v := 8) hx hb dX1_blow_42 (by decide) ?_
        refine lv_iload_n hx hb dX1_blow_44 rfl (lv_at hl 2 rfl) ?_
        refine lv_imul hx hb dX1_blow_45 ?_
        refine lv_icmp_ge (tgt := 56) hx hb dX1_blow_46 (by decide) (fun c9 => ?_) (fun c9 => ?_)
        · replace hf := ite_t c9 hf
          obtain ⟨z10, ez10⟩ : ∃ y : Int32, y = (v4 + 1) := ⟨_, rfl⟩
          replace hf := nm_at ez10 hf
          refine lv_iinc (v := z10) (lv' := [(4, .int z10), (0, .ref p_a), (1, .int v1), (2, .int v2), (3, .int v3)]) hx hb dX1_blow_56 hl (k := 4) rfl (by rw [ez10]; rfl) (by decide) rfl (fun ls hl => ?_)
          refine lv_goto (tgt := 9) hx hb dX1_blow_59 (by decide) ?_
          exact ih v3 z10 H locs ls hf w (lv_sub hl [1, 2, 3, 4, 0] rfl)
        · replace hf := ite_f c9 hf
          refine lv_iload_n hx hb dX1_blow_49 rfl (lv_at hl 3 rfl) ?_
          refine lv_iconst (v := 1) hx hb dX1_blow_50 (by decide) ?_
          refine lv_iload hx hb dX1_blow_51 (lv_at hl 4 rfl) ?_
          refine lv_ishl hx hb dX1_blow_53 ?_
          refine lv_ior hx hb dX1_blow_54 ?_
          refine lv_topi (fun z11 ez11 => ?_)
          replace hf := nm_at ez11 hf
          refine lv_istore_n (lv' := [(3, .int z11), (0, .ref p_a), (1, .int v1), (2, .int v2), (4, .int v4)]) hx hb dX1_blow_55 rfl hl (by decide) rfl (fun ls hl => ?_)
          obtain ⟨z12, ez12⟩ : ∃ y : Int32, y = (v4 + 1) := ⟨_, rfl⟩
          replace hf := nm_at ez12 hf
          refine lv_iinc (v := z12) (lv' := [(4, .int z12), (3, .int z11), (0, .ref p_a), (1, .int v1), (2, .int v2)]) hx hb dX1_blow_56 hl (k := 4) rfl (by rw [ez12]; rfl) (by decide) rfl (fun ls hl => ?_)
          refine lv_goto (tgt := 9) hx hb dX1_blow_59 (by decide) ?_
          exact ih z11 z12 H locs ls hf w (lv_sub hl [2, 3, 4, 1, 0] rfl)
def fX1_blow  (p_th : Int32) (p_ki : Int32) (p_fe : Int32) (p_lo : Nat → Int32) (a1 : Int32) (a2 : Int32) : Option (Int32 × Int32 × Int32 × (Nat → Int32)) := ob (fX1_weigh p_th p_ki p_lo) (fun r13 => fX1_blow_L9 a1 a2 p_th p_ki p_fe r13 FU 0 0)
set_option maxRecDepth 100000 in
set_option maxHeartbeats 4000000 in
theorem tX1_blow (l : Launch) (D : va_G) (cI cZ : ClassId) (b0 : Nat) (tt : Nat → Nat)  (p_a p_c p_d : Nat) (p_th : Int32) (p_ki : Int32) (p_fe : Int32) (p_ca : Nat → Int32) (p_lo : Nat → Int32) (a1 : Int32) (a2 : Int32) {res : Int32 × Int32 × Int32 × (Nat → Int32)} (hf : fX1_blow p_th p_ki p_fe p_lo a1 a2 = some res) : CtI l yX1_blow (cwX1_blow :: GW) 3 67 D cI cZ b0 tt [.ref p_a, .int a1, .int a2] (fun u : Int32 × Int32 × (Nat → Int32) => [(p_a, .inr (1, [.int u.1, .int p_ki, .int u.2.1, .ref p_c, .ref p_d])), (p_c, .inl (cI, 4, .inl p_ca)), (p_d, .inl (cI, 16, .inl u.2.2))]) (p_th, p_fe, p_lo) res := by
  intro sz
  refine k_begin (cc := cX1_blow) (maxL := 5) (ret := (some .int)) (by decide) rfl (Nat.le_of_ble_eq_true rfl) ?_
  intro p e s m below meth c ls C w hl
  generalize va_A _ sz = A at w ⊢
  have w : Wd D cI cZ b0 tt A s [(p_a, .inr (1, [.int p_th, .int p_ki, .int p_fe, .ref p_c, .ref p_d])), (p_c, .inl (cI, 4, .inl p_ca)), (p_d, .inl (cI, 16, .inl p_lo))] s.heap [] := w
  have hl : lv_has ls 5 [(0, .ref p_a), (1, .int a1), (2, .int a2)] := hl
  obtain ⟨H, eH⟩ : ∃ H, H = s.heap := ⟨_, rfl⟩
  rw [← eH] at w ⊢
  generalize ([] : List Loc) = locs at w ⊢
  generalize List.toArray _ = args at C ⊢
  obtain ⟨hx, hb, hr, hml, hown, hts, hlk⟩ := id C
  have hg : ∀ w ∈ GW, w.before args s = true := fun w h => hts w (List.mem_cons_of_mem _ h)
  unfold fX1_blow at hf
  refine lv_aload_n hx hb dX1_blow_0 rfl (lv_at hl 0 rfl) ?_
  replace hf := ob_at hf
  obtain ⟨r13, er13, hf⟩ := hf
  refine k_goV (v0 := p_lo) (res := r13) w [0, 1, 2] rfl (fun _ => rfl) (va_runV (As := []) (rest := []) ⟨hx, hb, hml, hown, hg⟩ (tX1_weigh l D cI cZ b0 tt p_a p_c p_d p_th p_ki p_fe p_ca p_lo er13 H.size) (cwV 0 hg (gwV w_206 w_207 w_833 w_3 w_208) rfl rfl rfl ⟨rfl, qdX1_weigh⟩ ⟨Nat.le_of_ble_eq_true rfl, Nat.le_of_ble_eq_true rfl⟩) (k_preV w [0, 1, 2] (by decide) rfl (q0 := 0) rfl rfl) rfl rfl hl.1 rfl (lv_room (Nat.le_of_ble_eq_true rfl)) dX1_blow_1 ⟨Nat.le_refl _, Nat.le_refl _⟩) (fun H locs w => ?_)
  have w : Wd D cI cZ b0 tt A s [(p_a, .inr (1, [.int p_th, .int p_ki, .int p_fe, .ref p_c, .ref p_d])), (p_c, .inl (cI, 4, .inl p_ca)), (p_d, .inl (cI, 16, .inl r13))] H locs := w
  refine lv_iconst (v := 0) hx hb dX1_blow_4 (by decide) ?_
  refine lv_istore_n (lv' := [(3, .int 0), (0, .ref p_a), (1, .int a1), (2, .int a2)]) hx hb dX1_blow_5 rfl hl (by decide) rfl (fun ls hl => ?_)
  refine lv_iconst (v := 0) hx hb dX1_blow_6 (by decide) ?_
  refine lv_istore (lv' := [(4, .int 0), (3, .int 0), (0, .ref p_a), (1, .int a1), (2, .int a2)]) hx hb dX1_blow_7 hl (by decide) rfl (fun ls hl => ?_)
  exact tX1_blow_L9 (v1 := a1) (v2 := a2) (p_th := p_th) (p_ki := p_ki) (p_fe := p_fe) (p_lo := r13) (p_ca := p_ca) (C := C) FU 0 0 H locs ls hf w (lv_sub hl [2, 3, 4, 1, 0] rfl)
-- X4_isForce
def fX4_isForce  (a1 : Int32) : Option (Int32) := (if a1 < 1 then some 0 else (if 9 < a1 then some 0 else some 1))
set_option maxRecDepth 100000 in
set_option maxHeartbeats 4000000 in
theorem tX4_isForce (l : Launch) (D : va_G) (cI cZ : ClassId) (b0 : Nat) (tt : Nat → Nat)    (a1 : Int32) {res : Int32} (hf : fX4_isForce a1 = some res) : CtI l yX4_isForce (cwX4_isForce :: GW) 0 0 D cI cZ b0 tt [.int a1] (fun _ : Unit => []) () (res, ()) := by
  intro sz
  refine k_begin (cc := cX4_isForce) (maxL := 1) (ret := (some .boolean)) (by decide) rfl (Nat.le_of_ble_eq_true rfl) ?_
  intro p e s m below meth c ls C w hl
  generalize va_A _ sz = A at w ⊢
  have w : Wd D cI cZ b0 tt A s [] s.heap [] := w
  have hl : lv_has ls 1 [(0, .int a1)] := hl
  obtain ⟨H, eH⟩ : ∃ H, H = s.heap := ⟨_, rfl⟩
  rw [← eH] at w ⊢
  generalize ([] : List Loc) = locs at w ⊢
  generalize List.toArray _ = args at C ⊢
  obtain ⟨hx, hb, hr, hml, hown, hts, hlk⟩ := id C
  have hg : ∀ w ∈ GW, w.before args s = true := fun w h => hts w (List.mem_cons_of_mem _ h)
  unfold fX4_isForce at hf
  refine lv_iload_n hx hb dX4_isForce_0 rfl (lv_at hl 0 rfl) ?_
  refine lv_iconst (v := 1) hx hb dX4_isForce_1 (by decide) ?_
  refine lv_icmp_lt (tgt := 15) hx hb dX4_isForce_2 (by decide) (fun c1 => ?_) (fun c1 => ?_)
  · replace hf := ite_t c1 hf
    refine lv_iconst (v := 0) hx hb dX4_isForce_15 (by decide) ?_
    exact k_zret (u := ()) hx hb hr hlk w rfl rfl (k_ret1 hf) dX4_isForce_16
  · replace hf := ite_f c1 hf
    refine lv_iload_n hx hb dX4_isForce_5 rfl (lv_at hl 0 rfl) ?_
    refine lv_bipush (v := 9) hx hb dX4_isForce_6 (by decide) ?_
    refine lv_icmp_gt (tgt := 15) hx hb dX4_isForce_8 (by decide) (fun c2 => ?_) (fun c2 => ?_)
    · replace hf := ite_t c2 hf
      refine lv_iconst (v := 0) hx hb dX4_isForce_15 (by decide) ?_
      exact k_zret (u := ()) hx hb hr hlk w rfl rfl (k_ret1 hf) dX4_isForce_16
    · replace hf := ite_f c2 hf
      refine lv_iconst (v := 1) hx hb dX4_isForce_11 (by decide) ?_
      refine lv_goto (tgt := 16) hx hb dX4_isForce_12 (by decide) ?_
      exact k_zret (u := ()) hx hb hr hlk w rfl rfl (k_ret1 hf) dX4_isForce_16
-- X1_blowIfCan
def fX1_blowIfCan  (p_th : Int32) (p_ki : Int32) (p_fe : Int32) (p_lo : Nat → Int32) (a1 : Int32) (a2 : Int32) : Option (Int32 × Int32 × Int32 × (Nat → Int32)) := ob (fX4_isLevel a1) (fun r1 => (if r1 = 0 then some (0, (p_th, p_fe, p_lo)) else ob (fX4_isForce a2) (fun r3 => (if r3 = 0 then some (0, (p_th, p_fe, p_lo)) else ob (fX1_blow p_th p_ki p_fe p_lo a1 a2) (fun r5 => some (1, (r5.2.1, r5.2.2.1, r5.2.2.2)))))))
set_option maxRecDepth 100000 in
set_option maxHeartbeats 4000000 in
theorem tX1_blowIfCan (l : Launch) (D : va_G) (cI cZ : ClassId) (b0 : Nat) (tt : Nat → Nat)  (p_a p_c p_d : Nat) (p_th : Int32) (p_ki : Int32) (p_fe : Int32) (p_ca : Nat → Int32) (p_lo : Nat → Int32) (a1 : Int32) (a2 : Int32) {res : Int32 × Int32 × Int32 × (Nat → Int32)} (hf : fX1_blowIfCan p_th p_ki p_fe p_lo a1 a2 = some res) : CtI l yX1_blowIfCan (cwX1_blowIfCan :: GW) 4 91 D cI cZ b0 tt [.ref p_a, .int a1, .int a2] (fun u : Int32 × Int32 × (Nat → Int32) => [(p_a, .inr (1, [.int u.1, .int p_ki, .int u.2.1, .ref p_c, .ref p_d])), (p_c, .inl (cI, 4, .inl p_ca)), (p_d, .inl (cI, 16, .inl u.2.2))]) (p_th, p_fe, p_lo) res := by
  intro sz
  refine k_begin (cc := cX1_blowIfCan) (maxL := 3) (ret := (some .boolean)) (by decide) rfl (Nat.le_of_ble_eq_true rfl) ?_
  intro p e s m below meth c ls C w hl
  generalize va_A _ sz = A at w ⊢
  have w : Wd D cI cZ b0 tt A s [(p_a, .inr (1, [.int p_th, .int p_ki, .int p_fe, .ref p_c, .ref p_d])), (p_c, .inl (cI, 4, .inl p_ca)), (p_d, .inl (cI, 16, .inl p_lo))] s.heap [] := w
  have hl : lv_has ls 3 [(0, .ref p_a), (1, .int a1), (2, .int a2)] := hl
  obtain ⟨H, eH⟩ : ∃ H, H = s.heap := ⟨_, rfl⟩
  rw [← eH] at w ⊢
  generalize ([] : List Loc) = locs at w ⊢
  generalize List.toArray _ = args at C ⊢
  obtain ⟨hx, hb, hr, hml, hown, hts, hlk⟩ := id C
  have hg : ∀ w ∈ GW, w.before args s = true := fun w h => hts w (List.mem_cons_of_mem _ h)
  unfold fX1_blowIfCan at hf
  refine lv_iload_n hx hb dX1_blowIfCan_0 rfl (lv_at hl 1 rfl) ?_
  replace hf := ob_at hf
  obtain ⟨r1, er1, hf⟩ := hf
  refine k_goI0 w [] rfl (va_runSN (As := [.int a1]) (rest := []) ⟨hx, hb, hml, hown, hg⟩ (tX4_isLevel l D cI cZ b0 tt a1 er1 H.size) ⟨va_cnB 1 hg (gwN w_307) rfl rfl rfl (k_nm w 3 (q := ("CardHouse$Pile", 105, yX4_isLevel)) rfl) (hg _ w_1) qdX4_isLevel ⟨Nat.le_of_ble_eq_true rfl, Nat.le_of_ble_eq_true rfl⟩, hg _ w_306, trivial⟩ (k_preS w [] (by decide) rfl) rfl rfl hl.1 rfl (lv_room (Nat.le_of_ble_eq_true rfl)) dX1_blowIfCan_1 ⟨Nat.le_refl _, Nat.le_refl _⟩) (fun H locs w => ?_)
  refine lv_if_eq (tgt := 14) hx hb dX1_blowIfCan_4 (by decide) (fun c2 => ?_) (fun c2 => ?_)
  · replace hf := ite_t c2 hf
    refine lv_iconst (v := 0) hx hb dX1_blowIfCan_14 (by decide) ?_
    exact k_zret (u := (p_th, p_fe, p_lo)) hx hb hr hlk w rfl rfl hf dX1_blowIfCan_15
  · replace hf := ite_f c2 hf
    refine lv_iload_n hx hb dX1_blowIfCan_7 rfl (lv_at hl 2 rfl) ?_
    replace hf := ob_at hf
    obtain ⟨r3, er3, hf⟩ := hf
    refine k_goI0 w [] rfl (va_runSN (As := [.int a2]) (rest := []) ⟨hx, hb, hml, hown, hg⟩ (tX4_isForce l D cI cZ b0 tt a2 er3 H.size) ⟨va_cnB 1 hg (gwN w_310) rfl rfl rfl (k_nm w 4 (q := ("CardHouse$Pile", 108, yX4_isForce)) rfl) (hg _ w_1) qdX4_isForce ⟨Nat.le_of_ble_eq_true rfl, Nat.le_of_ble_eq_true rfl⟩, hg _ w_309, trivial⟩ (k_preS w [] (by decide) rfl) rfl rfl hl.1 rfl (lv_room (Nat.le_of_ble_eq_true rfl)) dX1_blowIfCan_8 ⟨Nat.le_refl _, Nat.le_refl _⟩) (fun H locs w => ?_)
    refine lv_if_ne (tgt := 16) hx hb dX1_blowIfCan_11 (by decide) (fun c4 => ?_) (fun c4 => ?_)
    · replace hf := ite_f c4 hf
      refine lv_aload_n hx hb dX1_blowIfCan_16 rfl (lv_at hl 0 rfl) ?_
      refine lv_iload_n hx hb dX1_blowIfCan_17 rfl (lv_at hl 1 rfl) ?_
      refine lv_iload_n hx hb dX1_blowIfCan_18 rfl (lv_at hl 2 rfl) ?_
      replace hf := ob_at hf
      obtain ⟨r5, er5, hf⟩ := hf
      refine k_goI (v0 := (p_th, p_fe, p_lo)) (res := r5) w [0, 1, 2] rfl (fun _ => rfl) (va_runV (As := [.int a1, .int a2]) (rest := []) ⟨hx, hb, hml, hown, hg⟩ (tX1_blow l D cI cZ b0 tt p_a p_c p_d p_th p_ki p_fe p_ca p_lo a1 a2 er5 H.size) (cwV 2 hg (gwV w_388 w_312 w_313 w_3 w_314) rfl rfl rfl ⟨rfl, qdX1_blow⟩ ⟨Nat.le_of_ble_eq_true rfl, Nat.le_of_ble_eq_true rfl⟩) (k_preV w [0, 1, 2] (by decide) rfl (q0 := 0) rfl rfl) rfl rfl hl.1 rfl (lv_room (Nat.le_of_ble_eq_true rfl)) dX1_blowIfCan_19 ⟨Nat.le_refl _, Nat.le_refl _⟩) (fun H locs w => ?_)
      have w : Wd D cI cZ b0 tt A s [(p_a, .inr (1, [.int r5.2.1, .int p_ki, .int r5.2.2.1, .ref p_c, .ref p_d])), (p_c, .inl (cI, 4, .inl p_ca)), (p_d, .inl (cI, 16, .inl r5.2.2.2))] H locs := w
      refine lv_pop hx hb dX1_blowIfCan_22 rfl ?_
      refine lv_iconst (v := 1) hx hb dX1_blowIfCan_23 (by decide) ?_
      exact k_zret (u := (r5.2.1, r5.2.2.1, r5.2.2.2)) hx hb hr hlk w rfl rfl hf dX1_blowIfCan_24
    · replace hf := ite_t c4 hf
      refine lv_iconst (v := 0) hx hb dX1_blowIfCan_14 (by decide) ?_
      exact k_zret (u := (p_th, p_fe, p_lo)) hx hb hr hlk w rfl rfl hf dX1_blowIfCan_15
-- X1_forceStood
def fX1_forceStood_L9   (v1 : Int32) (p_th : Int32) (p_ki : Int32) (p_lo : Nat → Int32) : Nat → Int32 → Int32 → Option (Int32 × (Nat → Int32))
  | 0, _, _ => none
  | n + 1, v2, v3 => (if 16 ≤ v3 then some (v2, p_lo) else ob (fX1_isTentOfLevel p_th v3 v1) (fun r2 => (if r2 = 0 then nm (v3 + 1) (fun z4 => fX1_forceStood_L9 v1 p_th p_ki p_lo n v2 z4) else ob (fX1_kindOf p_ki v3) (fun r5 => gd v3 16 (ob (fX4_steadiness r5 (p_lo (Int32.toNatClampNeg v3))) (fun r7 => nm (if (r7 / (8 : Int32)) < v2 then (r7 / (8 : Int32)) else v2) (fun z8 => nm (v3 + 1) (fun z9 => fX1_forceStood_L9 v1 p_th p_ki p_lo n z8 z9))))))))
set_option maxRecDepth 100000 in
set_option maxHeartbeats 4000000 in
theorem tX1_forceStood_L9 {p : Program} {l : Launch} {e : Env} {s : State} {m : MethodId} {args : Array Value} {below : List Frame} {meth : Method} {c : Code} {D : va_G} {cI cZ : ClassId} {b0 : Nat} {tt : Nat → Nat} {A : Nat → Prop}  {p_a p_c p_d : Nat}  {v1 : Int32} {p_th : Int32} {p_ki : Int32} {p_lo : Nat → Int32} {p_fe : Int32} {p_ca : Nat → Int32} {res : Int32 × (Nat → Int32)} (C : Cx p s m args meth c cX1_forceStood 4 (some .int) (cwX1_forceStood :: GW) RX1) : ∀ (n : Nat) (v2 : Int32) (v3 : Int32) (H : Heap) (locs : List Loc) (ls : Array Slot), fX1_forceStood_L9 v1 p_th p_ki p_lo n v2 v3 = some res → Wd D cI cZ b0 tt A s [(p_a, .inr (1, [.int p_th, .int p_ki, .int p_fe, .ref p_c, .ref p_d])), (p_c, .inl (cI, 4, .inl p_ca)), (p_d, .inl (cI, 16, .inl p_lo))] H locs → lv_has ls 4 [(0, .ref p_a), (1, .int v1), (2, .int v2), (3, .int v3)] → W p l e (rmo 3 67) s m args below meth c H locs 0 0 (MQ below (QI D (fun u : (Nat → Int32) => [(p_a, .inr (1, [.int p_th, .int p_ki, .int p_fe, .ref p_c, .ref p_d])), (p_c, .inl (cI, 4, .inl p_ca)), (p_d, .inl (cI, 16, .inl u))]) A res) args s 0 0 A) (F0 m 9 ls []) := by
  obtain ⟨hx, hb, hr, hml, hown, hts, hlk⟩ := id C
  have hg : ∀ w ∈ GW, w.before args s = true := fun w h => hts w (List.mem_cons_of_mem _ h)
  intro n
  induction n with
  | zero =>
    intro _ _ H locs ls hf
    rw [fX1_forceStood_L9] at hf
    cases hf
  | succ n ih =>
    intro v2 v3 H locs ls hf w hl
    rw [fX1_forceStood_L9] at hf
    refine lv_iload_n hx hb dX1_forceStood_9 rfl (lv_at hl 3 rfl) ?_
    refine lv_bipush (v := 16) hx hb dX1_forceStood_10 (by decide) ?_
    refine lv_icmp_ge (tgt := 52) hx hb dX1_forceStood_12 (by decide) (fun c1 => ?_) (fun c1 => ?_)
    · replace hf := ite_t c1 hf
      refine lv_iload_n hx hb dX1_forceStood_52 rfl (lv_at hl 2 rfl) ?_
      exact k_iret (u := p_lo) hx hb hr hlk w rfl hf dX1_forceStood_53
    · replace hf := ite_f c1 hf
      refine lv_aload_n hx hb dX1_forceStood_15 rfl (lv_at hl 0 rfl) ?_
      refine lv_iload_n hx hb dX1_forceStood_16 rfl (lv_at hl 3 rfl) ?_
      refine lv_iload_n hx hb dX1_forceStood_17 rfl (lv_at hl 1 rfl) ?_
      replace hf := ob_at hf
      obtain ⟨r2, er2, hf⟩ := hf
      refine k_goI0 w [0, 1, 2] rfl (va_runV (As := [.int v3, .int v1]) (rest := []) ⟨hx, hb, hml, hown, hg⟩ (tX1_isTentOfLevel l D cI cZ b0 tt p_a p_c p_d p_th p_ki p_fe p_ca p_lo v3 v1 er2 H.size) (cwV 2 hg (gwV w_315 w_316 w_837 w_3 w_317) rfl rfl rfl ⟨rfl, qdX1_isTentOfLevel⟩ ⟨Nat.le_of_ble_eq_true rfl, Nat.le_of_ble_eq_true rfl⟩) (k_preV w [0, 1, 2] (by decide) rfl (q0 := 0) rfl rfl) rfl rfl hl.1 rfl (lv_room (Nat.le_of_ble_eq_true rfl)) dX1_forceStood_18 ⟨Nat.le_refl _, Nat.le_refl _⟩) (fun H locs w => ?_)
      refine lv_if_eq (tgt := 46) hx hb dX1_forceStood_21 (by decide) (fun c3 => ?_) (fun c3 => ?_)
      · replace hf := ite_t c3 hf
        obtain ⟨z4, ez4⟩ : ∃ y : Int32, y = (v3 + 1) := ⟨_, rfl⟩
        replace hf := nm_at ez4 hf
        refine lv_iinc (v := z4) (lv' := [(3, .int z4), (0, .ref p_a), (1, .int v1), (2, .int v2)]) hx hb dX1_forceStood_46 hl (k := 3) rfl (by rw [ez4]; rfl) (by decide) rfl (fun ls hl => ?_)
        refine lv_goto (tgt := 9) hx hb dX1_forceStood_49 (by decide) ?_
        exact ih v2 z4 H locs ls hf w (lv_sub hl [1, 2, 3, 0] rfl)
      · replace hf := ite_f c3 hf
        refine lv_iload_n hx hb dX1_forceStood_24 rfl (lv_at hl 2 rfl) ?_
        refine lv_aload_n hx hb dX1_forceStood_25 rfl (lv_at hl 0 rfl) ?_
        refine lv_iload_n hx hb dX1_forceStood_26 rfl (lv_at hl 3 rfl) ?_
        replace hf := ob_at hf
        obtain ⟨r5, er5, hf⟩ := hf
        refine k_goI0 w [0, 1, 2] rfl (va_runV (As := [.int v3]) (rest := [.int v2]) ⟨hx, hb, hml, hown, hg⟩ (tX1_kindOf l D cI cZ b0 tt p_a p_c p_d p_th p_ki p_fe p_ca p_lo v3 er5 H.size) (cwV 1 hg (gwV w_169 w_170 w_171 w_3 w_172) rfl rfl rfl ⟨rfl, qdX1_kindOf⟩ ⟨Nat.le_of_ble_eq_true rfl, Nat.le_of_ble_eq_true rfl⟩) (k_preV w [0, 1, 2] (by decide) rfl (q0 := 0) rfl rfl) rfl rfl hl.1 rfl (lv_room (Nat.le_of_ble_eq_true rfl)) dX1_forceStood_27 ⟨Nat.le_refl _, Nat.le_refl _⟩) (fun H locs w => ?_)
        refine lv_aload_n hx hb dX1_forceStood_30 rfl (lv_at hl 0 rfl) ?_
        refine va_get (D := D) (ci := 1) (v := .ref p_d) (C := RX1) (T := TX1) (N := 5) hx hb hg iX1 hown w.2.2.2.2.2.2.1 w.1 0 rfl rfl 4 (by decide) (hg _ w_39) (fun _ h9 => h9) rfl dX1_forceStood_31 ?_
        refine lv_iload_n hx hb dX1_forceStood_34 rfl (lv_at hl 3 rfl) ?_
        replace hf := gd_at hf
        obtain ⟨hi6, hf⟩ := hf
        refine va_iald hx hb w.2.2.2.2.2.2.1 w.1 2 0 rfl rfl hi6 dX1_forceStood_35 ?_
        replace hf := ob_at hf
        obtain ⟨r7, er7, hf⟩ := hf
        refine k_goI0 w [] rfl (va_runSN (As := [.int r5, .int (p_lo (Int32.toNatClampNeg v3))]) (rest := [.int v2]) ⟨hx, hb, hml, hown, hg⟩ (tX4_steadiness l D cI cZ b0 tt r5 (p_lo (Int32.toNatClampNeg v3)) er7 H.size) ⟨va_cnB 2 hg (gwN w_319) rfl rfl rfl (k_nm w 9 (q := ("CardHouse$Pile", 99, yX4_steadiness)) rfl) (hg _ w_1) qdX4_steadiness ⟨Nat.le_of_ble_eq_true rfl, Nat.le_of_ble_eq_true rfl⟩, hg _ w_318, trivial⟩ (k_preS w [] (by decide) rfl) rfl rfl hl.1 rfl (lv_room (Nat.le_of_ble_eq_true rfl)) dX1_forceStood_36 ⟨Nat.le_refl _, Nat.le_refl _⟩) (fun H locs w => ?_)
        refine lv_bipush (v := 8) hx hb dX1_forceStood_39 (by decide) ?_
        refine lv_idiv hx hb dX1_forceStood_41 (by decide) ?_
        refine va_mmin hx hb (hml.trans hl.1.symm) hown (hg _ w_348) (hg _ w_349) (hg _ w_5) (hg _ w_350) (Nat.le_of_ble_eq_true rfl) (Nat.le_of_ble_eq_true rfl) (Nat.le_refl _) (Nat.le_refl _) dX1_forceStood_42 ?_
        refine lv_topi (fun z8 ez8 => ?_)
        replace hf := nm_at ez8 hf
        refine lv_istore_n (lv' := [(2, .int z8), (0, .ref p_a), (1, .int v1), (3, .int v3)]) hx hb dX1_forceStood_45 rfl hl (by decide) rfl (fun ls hl => ?_)
        obtain ⟨z9, ez9⟩ : ∃ y : Int32, y = (v3 + 1) := ⟨_, rfl⟩
        replace hf := nm_at ez9 hf
        refine lv_iinc (v := z9) (lv' := [(3, .int z9), (2, .int z8), (0, .ref p_a), (1, .int v1)]) hx hb dX1_forceStood_46 hl (k := 3) rfl (by rw [ez9]; rfl) (by decide) rfl (fun ls hl => ?_)
        refine lv_goto (tgt := 9) hx hb dX1_forceStood_49 (by decide) ?_
        exact ih z8 z9 H locs ls hf w (lv_sub hl [2, 3, 1, 0] rfl)
def fX1_forceStood  (p_th : Int32) (p_ki : Int32) (p_lo : Nat → Int32) (a1 : Int32) : Option (Int32 × (Nat → Int32)) := ob (fX1_weigh p_th p_ki p_lo) (fun r10 => fX1_forceStood_L9 a1 p_th p_ki r10 FU 9 0)
set_option maxRecDepth 100000 in
set_option maxHeartbeats 4000000 in
theorem tX1_forceStood (l : Launch) (D : va_G) (cI cZ : ClassId) (b0 : Nat) (tt : Nat → Nat)  (p_a p_c p_d : Nat) (p_th : Int32) (p_ki : Int32) (p_fe : Int32) (p_ca : Nat → Int32) (p_lo : Nat → Int32) (a1 : Int32) {res : Int32 × (Nat → Int32)} (hf : fX1_forceStood p_th p_ki p_lo a1 = some res) : CtI l yX1_forceStood (cwX1_forceStood :: GW) 3 67 D cI cZ b0 tt [.ref p_a, .int a1] (fun u : (Nat → Int32) => [(p_a, .inr (1, [.int p_th, .int p_ki, .int p_fe, .ref p_c, .ref p_d])), (p_c, .inl (cI, 4, .inl p_ca)), (p_d, .inl (cI, 16, .inl u))]) p_lo res := by
  intro sz
  refine k_begin (cc := cX1_forceStood) (maxL := 4) (ret := (some .int)) (by decide) rfl (Nat.le_of_ble_eq_true rfl) ?_
  intro p e s m below meth c ls C w hl
  generalize va_A _ sz = A at w ⊢
  have w : Wd D cI cZ b0 tt A s [(p_a, .inr (1, [.int p_th, .int p_ki, .int p_fe, .ref p_c, .ref p_d])), (p_c, .inl (cI, 4, .inl p_ca)), (p_d, .inl (cI, 16, .inl p_lo))] s.heap [] := w
  have hl : lv_has ls 4 [(0, .ref p_a), (1, .int a1)] := hl
  obtain ⟨H, eH⟩ : ∃ H, H = s.heap := ⟨_, rfl⟩
  rw [← eH] at w ⊢
  generalize ([] : List Loc) = locs at w ⊢
  generalize List.toArray _ = args at C ⊢
  obtain ⟨hx, hb, hr, hml, hown, hts, hlk⟩ := id C
  have hg : ∀ w ∈ GW, w.before args s = true := fun w h => hts w (List.mem_cons_of_mem _ h)
  unfold fX1_forceStood at hf
  refine lv_aload_n hx hb dX1_forceStood_0 rfl (lv_at hl 0 rfl) ?_
  replace hf := ob_at hf
  obtain ⟨r10, er10, hf⟩ := hf
  refine k_goV (v0 := p_lo) (res := r10) w [0, 1, 2] rfl (fun _ => rfl) (va_runV (As := []) (rest := []) ⟨hx, hb, hml, hown, hg⟩ (tX1_weigh l D cI cZ b0 tt p_a p_c p_d p_th p_ki p_fe p_ca p_lo er10 H.size) (cwV 0 hg (gwV w_206 w_207 w_833 w_3 w_208) rfl rfl rfl ⟨rfl, qdX1_weigh⟩ ⟨Nat.le_of_ble_eq_true rfl, Nat.le_of_ble_eq_true rfl⟩) (k_preV w [0, 1, 2] (by decide) rfl (q0 := 0) rfl rfl) rfl rfl hl.1 rfl (lv_room (Nat.le_of_ble_eq_true rfl)) dX1_forceStood_1 ⟨Nat.le_refl _, Nat.le_refl _⟩) (fun H locs w => ?_)
  have w : Wd D cI cZ b0 tt A s [(p_a, .inr (1, [.int p_th, .int p_ki, .int p_fe, .ref p_c, .ref p_d])), (p_c, .inl (cI, 4, .inl p_ca)), (p_d, .inl (cI, 16, .inl r10))] H locs := w
  refine lv_bipush (v := 9) hx hb dX1_forceStood_4 (by decide) ?_
  refine lv_istore_n (lv' := [(2, .int 9), (0, .ref p_a), (1, .int a1)]) hx hb dX1_forceStood_6 rfl hl (by decide) rfl (fun ls hl => ?_)
  refine lv_iconst (v := 0) hx hb dX1_forceStood_7 (by decide) ?_
  refine lv_istore_n (lv' := [(3, .int 0), (2, .int 9), (0, .ref p_a), (1, .int a1)]) hx hb dX1_forceStood_8 rfl hl (by decide) rfl (fun ls hl => ?_)
  exact tX1_forceStood_L9 (v1 := a1) (p_th := p_th) (p_ki := p_ki) (p_lo := r10) (p_fe := p_fe) (p_ca := p_ca) (C := C) FU 9 0 H locs ls hf w (lv_sub hl [2, 3, 1, 0] rfl)
-- X1_sizeWithout
def fX1_sizeWithout  (p_th : Int32) (a1 : Int32) : Option (Int32) := ob (fX1_size p_th) (fun r1 => ob (fX1_goneWith p_th a1) (fun r2 => ob (fJ6_bitCount_0f7a4 r2) (fun r3 => some (r1 - r3))))
set_option maxRecDepth 100000 in
set_option maxHeartbeats 4000000 in
theorem tX1_sizeWithout (l : Launch) (D : va_G) (cI cZ : ClassId) (b0 : Nat) (tt : Nat → Nat)  (p_a p_c p_d : Nat) (p_th : Int32) (p_ki : Int32) (p_fe : Int32) (p_ca : Nat → Int32) (p_lo : Nat → Int32) (a1 : Int32) {res : Int32} (hf : fX1_sizeWithout p_th a1 = some res) : CtI l yX1_sizeWithout (cwX1_sizeWithout :: GW) 2 44 D cI cZ b0 tt [.ref p_a, .int a1] (fun _ : Unit => [(p_a, .inr (1, [.int p_th, .int p_ki, .int p_fe, .ref p_c, .ref p_d])), (p_c, .inl (cI, 4, .inl p_ca)), (p_d, .inl (cI, 16, .inl p_lo))]) () (res, ()) := by
  intro sz
  refine k_begin (cc := cX1_sizeWithout) (maxL := 2) (ret := (some .int)) (by decide) rfl (Nat.le_of_ble_eq_true rfl) ?_
  intro p e s m below meth c ls C w hl
  generalize va_A _ sz = A at w ⊢
  have w : Wd D cI cZ b0 tt A s [(p_a, .inr (1, [.int p_th, .int p_ki, .int p_fe, .ref p_c, .ref p_d])), (p_c, .inl (cI, 4, .inl p_ca)), (p_d, .inl (cI, 16, .inl p_lo))] s.heap [] := w
  have hl : lv_has ls 2 [(0, .ref p_a), (1, .int a1)] := hl
  obtain ⟨H, eH⟩ : ∃ H, H = s.heap := ⟨_, rfl⟩
  rw [← eH] at w ⊢
  generalize ([] : List Loc) = locs at w ⊢
  generalize List.toArray _ = args at C ⊢
  obtain ⟨hx, hb, hr, hml, hown, hts, hlk⟩ := id C
  have hg : ∀ w ∈ GW, w.before args s = true := fun w h => hts w (List.mem_cons_of_mem _ h)
  unfold fX1_sizeWithout at hf
  refine lv_aload_n hx hb dX1_sizeWithout_0 rfl (lv_at hl 0 rfl) ?_
  replace hf := ob_at hf
  obtain ⟨r1, er1, hf⟩ := hf
  refine k_goI0 w [0, 1, 2] rfl (va_runV (As := []) (rest := []) ⟨hx, hb, hml, hown, hg⟩ (tX1_size l D cI cZ b0 tt p_a p_c p_d p_th p_ki p_fe p_ca p_lo er1 H.size) (cwV 0 hg (gwV w_397 w_233 w_234 w_3 w_235) rfl rfl rfl ⟨rfl, qdX1_size⟩ ⟨Nat.le_of_ble_eq_true rfl, Nat.le_of_ble_eq_true rfl⟩) (k_preV w [0, 1, 2] (by decide) rfl (q0 := 0) rfl rfl) rfl rfl hl.1 rfl (lv_room (Nat.le_of_ble_eq_true rfl)) dX1_sizeWithout_1 ⟨Nat.le_refl _, Nat.le_refl _⟩) (fun H locs w => ?_)
  refine lv_aload_n hx hb dX1_sizeWithout_4 rfl (lv_at hl 0 rfl) ?_
  refine lv_iload_n hx hb dX1_sizeWithout_5 rfl (lv_at hl 1 rfl) ?_
  replace hf := ob_at hf
  obtain ⟨r2, er2, hf⟩ := hf
  refine k_goI0 w [0, 1, 2] rfl (va_runV (As := [.int a1]) (rest := [.int r1]) ⟨hx, hb, hml, hown, hg⟩ (tX1_goneWith l D cI cZ b0 tt p_a p_c p_d p_th p_ki p_fe p_ca p_lo a1 er2 H.size) (cwV 1 hg (gwV w_218 w_219 w_220 w_3 w_221) rfl rfl rfl ⟨rfl, qdX1_goneWith⟩ ⟨Nat.le_of_ble_eq_true rfl, Nat.le_of_ble_eq_true rfl⟩) (k_preV w [0, 1, 2] (by decide) rfl (q0 := 0) rfl rfl) rfl rfl hl.1 rfl (lv_room (Nat.le_of_ble_eq_true rfl)) dX1_sizeWithout_6 ⟨Nat.le_refl _, Nat.le_refl _⟩) (fun H locs w => ?_)
  replace hf := ob_at hf
  obtain ⟨r3, er3, hf⟩ := hf
  refine k_goI0 w [] rfl (va_runS (As := [.int r2]) (rest := [.int r1]) ⟨hx, hb, hml, hown, hg⟩ (tJ6_bitCount_0f7a4 l D cI cZ b0 tt r2 er3 H.size) (va_cwS 1 hg (gwS w_222 w_223 w_8 w_224) rfl rfl rfl qdJ6_bitCount_0f7a4 ⟨Nat.le_of_ble_eq_true rfl, Nat.le_of_ble_eq_true rfl⟩) (k_preS w [] (by decide) rfl) rfl rfl hl.1 rfl (lv_room (Nat.le_of_ble_eq_true rfl)) dX1_sizeWithout_9 ⟨Nat.le_refl _, Nat.le_refl _⟩) (fun H locs w => ?_)
  refine lv_isub hx hb dX1_sizeWithout_12 ?_
  exact k_iret (u := ()) hx hb hr hlk w rfl (k_ret1 hf) dX1_sizeWithout_13
-- X1_missingFor
def fX1_missingFor_L7   (v1 : Int32) (p_th : Int32) : Nat → Int32 → Int32 → Option (Int32)
  | 0, _, _ => none
  | n + 1, v2, v3 => (if v3 < 0 then some (v2 &&& (p_th ^^^ ((-1) : Int32))) else (if ((v2 >>> (v3 &&& 31)) &&& (1 : Int32)) = 0 then nm (v3 + (-1)) (fun z3 => fX1_missingFor_L7 v1 p_th n v2 z3) else gd v3 16 (nm (v2 ||| (sUN (Int32.toNatClampNeg v3))) (fun z5 => nm (v3 + (-1)) (fun z6 => fX1_missingFor_L7 v1 p_th n z5 z6)))))
set_option maxRecDepth 100000 in
set_option maxHeartbeats 4000000 in
theorem tX1_missingFor_L7 {p : Program} {l : Launch} {e : Env} {s : State} {m : MethodId} {args : Array Value} {below : List Frame} {meth : Method} {c : Code} {D : va_G} {cI cZ : ClassId} {b0 : Nat} {tt : Nat → Nat} {A : Nat → Prop}  {p_a p_c p_d : Nat}  {v1 : Int32} {p_th : Int32} {p_ki : Int32} {p_fe : Int32} {p_ca : Nat → Int32} {p_lo : Nat → Int32} {res : Int32} (C : Cx p s m args meth c cX1_missingFor 4 (some .int) (cwX1_missingFor :: GW) RX1) : ∀ (n : Nat) (v2 : Int32) (v3 : Int32) (H : Heap) (locs : List Loc) (ls : Array Slot), fX1_missingFor_L7 v1 p_th n v2 v3 = some res → Wd D cI cZ b0 tt A s [(p_a, .inr (1, [.int p_th, .int p_ki, .int p_fe, .ref p_c, .ref p_d])), (p_c, .inl (cI, 4, .inl p_ca)), (p_d, .inl (cI, 16, .inl p_lo))] H locs → lv_has ls 4 [(0, .ref p_a), (1, .int v1), (2, .int v2), (3, .int v3)] → W p l e (rmo 0 0) s m args below meth c H locs 0 0 (MQ below (QI D (fun _ : Unit => [(p_a, .inr (1, [.int p_th, .int p_ki, .int p_fe, .ref p_c, .ref p_d])), (p_c, .inl (cI, 4, .inl p_ca)), (p_d, .inl (cI, 16, .inl p_lo))]) A (res, ())) args s 0 0 A) (F0 m 7 ls []) := by
  obtain ⟨hx, hb, hr, hml, hown, hts, hlk⟩ := id C
  have hg : ∀ w ∈ GW, w.before args s = true := fun w h => hts w (List.mem_cons_of_mem _ h)
  intro n
  induction n with
  | zero =>
    intro _ _ H locs ls hf
    rw [fX1_missingFor_L7] at hf
    cases hf
  | succ n ih =>
    intro v2 v3 H locs ls hf w hl
    rw [fX1_missingFor_L7] at hf
    refine lv_iload_n hx hb dX1_missingFor_7 rfl (lv_at hl 3 rfl) ?_
    refine lv_if_lt (tgt := 33) hx hb dX1_missingFor_8 (by decide) (fun c1 => ?_) (fun c1 => ?_)
    · replace hf := ite_t c1 hf
      refine lv_iload_n hx hb dX1_missingFor_33 rfl (lv_at hl 2 rfl) ?_
      refine lv_aload_n hx hb dX1_missingFor_34 rfl (lv_at hl 0 rfl) ?_
      refine va_get (D := D) (ci := 1) (v := .int p_th) (C := RX1) (T := TX1) (N := 5) hx hb hg iX1 hown w.2.2.2.2.2.2.1 w.1 0 rfl rfl 0 (by decide) (hg _ w_35) (fun _ h9 => h9) rfl dX1_missingFor_35 ?_
      refine lv_iconst (v := (-1)) hx hb dX1_missingFor_38 (by decide) ?_
      refine lv_ixor hx hb dX1_missingFor_39 ?_
      refine lv_iand hx hb dX1_missingFor_40 ?_
      exact k_iret (u := ()) hx hb hr hlk w rfl (k_ret1 hf) dX1_missingFor_41
    · replace hf := ite_f c1 hf
      refine lv_iload_n hx hb dX1_missingFor_11 rfl (lv_at hl 2 rfl) ?_
      refine lv_iload_n hx hb dX1_missingFor_12 rfl (lv_at hl 3 rfl) ?_
      refine lv_ishr hx hb dX1_missingFor_13 ?_
      refine lv_iconst (v := 1) hx hb dX1_missingFor_14 (by decide) ?_
      refine lv_iand hx hb dX1_missingFor_15 ?_
      refine lv_if_eq (tgt := 27) hx hb dX1_missingFor_16 (by decide) (fun c2 => ?_) (fun c2 => ?_)
      · replace hf := ite_t c2 hf
        obtain ⟨z3, ez3⟩ : ∃ y : Int32, y = (v3 + (-1)) := ⟨_, rfl⟩
        replace hf := nm_at ez3 hf
        refine lv_iinc (v := z3) (lv' := [(3, .int z3), (0, .ref p_a), (1, .int v1), (2, .int v2)]) hx hb dX1_missingFor_27 hl (k := 3) rfl (by rw [ez3]; rfl) (by decide) rfl (fun ls hl => ?_)
        refine lv_goto (tgt := 7) hx hb dX1_missingFor_30 (by decide) ?_
        exact ih v2 z3 H locs ls hf w (lv_sub hl [1, 2, 3, 0] rfl)
      · replace hf := ite_f c2 hf
        refine lv_iload_n hx hb dX1_missingFor_19 rfl (lv_at hl 2 rfl) ?_
        refine va_getsN hx hb (k_Z w w.2.2.2.2.2.2.2.1.1).1 w.2.2.1 hown (k_nf w 8 (q := ("CardHouse$Pile", 65, "CardHouse", "UNDER", "[I")) rfl) (fun _ h9 => h9) dX1_missingFor_20 ?_
        refine lv_iload_n hx hb dX1_missingFor_23 rfl (lv_at hl 3 rfl) ?_
        replace hf := gd_at hf
        obtain ⟨hi4, hf⟩ := hf
        refine va_ti hx hb (k_Z w w.2.2.2.2.2.2.2.1.1).2 w.2.2.1 hi4 (v := .int (sUN (Int32.toNatClampNeg v3))) rfl dX1_missingFor_24 ?_
        refine lv_ior hx hb dX1_missingFor_25 ?_
        refine lv_topi (fun z5 ez5 => ?_)
        replace hf := nm_at ez5 hf
        refine lv_istore_n (lv' := [(2, .int z5), (0, .ref p_a), (1, .int v1), (3, .int v3)]) hx hb dX1_missingFor_26 rfl hl (by decide) rfl (fun ls hl => ?_)
        obtain ⟨z6, ez6⟩ : ∃ y : Int32, y = (v3 + (-1)) := ⟨_, rfl⟩
        replace hf := nm_at ez6 hf
        refine lv_iinc (v := z6) (lv' := [(3, .int z6), (2, .int z5), (0, .ref p_a), (1, .int v1)]) hx hb dX1_missingFor_27 hl (k := 3) rfl (by rw [ez6]; rfl) (by decide) rfl (fun ls hl => ?_)
        refine lv_goto (tgt := 7) hx hb dX1_missingFor_30 (by decide) ?_
        exact ih z5 z6 H locs ls hf w (lv_sub hl [2, 3, 1, 0] rfl)
def fX1_missingFor  (p_th : Int32) (a1 : Int32) : Option (Int32) := nm ((1 : Int32) <<< (a1 &&& 31)) (fun z7 => fX1_missingFor_L7 a1 p_th FU z7 15)
set_option maxRecDepth 100000 in
set_option maxHeartbeats 4000000 in
theorem tX1_missingFor (l : Launch) (D : va_G) (cI cZ : ClassId) (b0 : Nat) (tt : Nat → Nat)  (p_a p_c p_d : Nat) (p_th : Int32) (p_ki : Int32) (p_fe : Int32) (p_ca : Nat → Int32) (p_lo : Nat → Int32) (a1 : Int32) {res : Int32} (hf : fX1_missingFor p_th a1 = some res) : CtI l yX1_missingFor (cwX1_missingFor :: GW) 0 0 D cI cZ b0 tt [.ref p_a, .int a1] (fun _ : Unit => [(p_a, .inr (1, [.int p_th, .int p_ki, .int p_fe, .ref p_c, .ref p_d])), (p_c, .inl (cI, 4, .inl p_ca)), (p_d, .inl (cI, 16, .inl p_lo))]) () (res, ()) := by
  intro sz
  refine k_begin (cc := cX1_missingFor) (maxL := 4) (ret := (some .int)) (by decide) rfl (Nat.le_of_ble_eq_true rfl) ?_
  intro p e s m below meth c ls C w hl
  generalize va_A _ sz = A at w ⊢
  have w : Wd D cI cZ b0 tt A s [(p_a, .inr (1, [.int p_th, .int p_ki, .int p_fe, .ref p_c, .ref p_d])), (p_c, .inl (cI, 4, .inl p_ca)), (p_d, .inl (cI, 16, .inl p_lo))] s.heap [] := w
  have hl : lv_has ls 4 [(0, .ref p_a), (1, .int a1)] := hl
  obtain ⟨H, eH⟩ : ∃ H, H = s.heap := ⟨_, rfl⟩
  rw [← eH] at w ⊢
  generalize ([] : List Loc) = locs at w ⊢
  generalize List.toArray _ = args at C ⊢
  obtain ⟨hx, hb, hr, hml, hown, hts, hlk⟩ := id C
  have hg : ∀ w ∈ GW, w.before args s = true := fun w h => hts w (List.mem_cons_of_mem _ h)
  unfold fX1_missingFor at hf
  refine lv_iconst (v := 1) hx hb dX1_missingFor_0 (by decide) ?_
  refine lv_iload_n hx hb dX1_missingFor_1 rfl (lv_at hl 1 rfl) ?_
  refine lv_ishl hx hb dX1_missingFor_2 ?_
  refine lv_topi (fun z7 ez7 => ?_)
  replace hf := nm_at ez7 hf
  refine lv_istore_n (lv' := [(2, .int z7), (0, .ref p_a), (1, .int a1)]) hx hb dX1_missingFor_3 rfl hl (by decide) rfl (fun ls hl => ?_)
  refine lv_bipush (v := 15) hx hb dX1_missingFor_4 (by decide) ?_
  refine lv_istore_n (lv' := [(3, .int 15), (2, .int z7), (0, .ref p_a), (1, .int a1)]) hx hb dX1_missingFor_6 rfl hl (by decide) rfl (fun ls hl => ?_)
  exact tX1_missingFor_L7 (v1 := a1) (p_th := p_th) (p_ki := p_ki) (p_fe := p_fe) (p_ca := p_ca) (p_lo := p_lo) (C := C) FU z7 15 H locs ls hf w (lv_sub hl [2, 3, 1, 0] rfl)
-- X1_loadOf
def fX1_loadOf  (p_th : Int32) (p_ki : Int32) (p_lo : Nat → Int32) (a1 : Int32) : Option (Int32 × (Nat → Int32)) := ob (fX1_weigh p_th p_ki p_lo) (fun r1 => ob (fX4_isPiece a1) (fun r2 => (if r2 = 0 then some (0, r1) else gd a1 16 (some ((r1 (Int32.toNatClampNeg a1)), r1)))))
set_option maxRecDepth 100000 in
set_option maxHeartbeats 4000000 in
theorem tX1_loadOf (l : Launch) (D : va_G) (cI cZ : ClassId) (b0 : Nat) (tt : Nat → Nat)  (p_a p_c p_d : Nat) (p_th : Int32) (p_ki : Int32) (p_fe : Int32) (p_ca : Nat → Int32) (p_lo : Nat → Int32) (a1 : Int32) {res : Int32 × (Nat → Int32)} (hf : fX1_loadOf p_th p_ki p_lo a1 = some res) : CtI l yX1_loadOf (cwX1_loadOf :: GW) 3 67 D cI cZ b0 tt [.ref p_a, .int a1] (fun u : (Nat → Int32) => [(p_a, .inr (1, [.int p_th, .int p_ki, .int p_fe, .ref p_c, .ref p_d])), (p_c, .inl (cI, 4, .inl p_ca)), (p_d, .inl (cI, 16, .inl u))]) p_lo res := by
  intro sz
  refine k_begin (cc := cX1_loadOf) (maxL := 2) (ret := (some .int)) (by decide) rfl (Nat.le_of_ble_eq_true rfl) ?_
  intro p e s m below meth c ls C w hl
  generalize va_A _ sz = A at w ⊢
  have w : Wd D cI cZ b0 tt A s [(p_a, .inr (1, [.int p_th, .int p_ki, .int p_fe, .ref p_c, .ref p_d])), (p_c, .inl (cI, 4, .inl p_ca)), (p_d, .inl (cI, 16, .inl p_lo))] s.heap [] := w
  have hl : lv_has ls 2 [(0, .ref p_a), (1, .int a1)] := hl
  obtain ⟨H, eH⟩ : ∃ H, H = s.heap := ⟨_, rfl⟩
  rw [← eH] at w ⊢
  generalize ([] : List Loc) = locs at w ⊢
  generalize List.toArray _ = args at C ⊢
  obtain ⟨hx, hb, hr, hml, hown, hts, hlk⟩ := id C
  have hg : ∀ w ∈ GW, w.before args s = true := fun w h => hts w (List.mem_cons_of_mem _ h)
  unfold fX1_loadOf at hf
  refine lv_aload_n hx hb dX1_loadOf_0 rfl (lv_at hl 0 rfl) ?_
  replace hf := ob_at hf
  obtain ⟨r1, er1, hf⟩ := hf
  refine k_goV (v0 := p_lo) (res := r1) w [0, 1, 2] rfl (fun _ => rfl) (va_runV (As := []) (rest := []) ⟨hx, hb, hml, hown, hg⟩ (tX1_weigh l D cI cZ b0 tt p_a p_c p_d p_th p_ki p_fe p_ca p_lo er1 H.size) (cwV 0 hg (gwV w_206 w_207 w_833 w_3 w_208) rfl rfl rfl ⟨rfl, qdX1_weigh⟩ ⟨Nat.le_of_ble_eq_true rfl, Nat.le_of_ble_eq_true rfl⟩) (k_preV w [0, 1, 2] (by decide) rfl (q0 := 0) rfl rfl) rfl rfl hl.1 rfl (lv_room (Nat.le_of_ble_eq_true rfl)) dX1_loadOf_1 ⟨Nat.le_refl _, Nat.le_refl _⟩) (fun H locs w => ?_)
  have w : Wd D cI cZ b0 tt A s [(p_a, .inr (1, [.int p_th, .int p_ki, .int p_fe, .ref p_c, .ref p_d])), (p_c, .inl (cI, 4, .inl p_ca)), (p_d, .inl (cI, 16, .inl r1))] H locs := w
  refine lv_iload_n hx hb dX1_loadOf_4 rfl (lv_at hl 1 rfl) ?_
  replace hf := ob_at hf
  obtain ⟨r2, er2, hf⟩ := hf
  refine k_goI0 w [] rfl (va_runSN (As := [.int a1]) (rest := []) ⟨hx, hb, hml, hown, hg⟩ (tX4_isPiece l D cI cZ b0 tt a1 er2 H.size) ⟨va_cnB 1 hg (gwN w_185) rfl rfl rfl (k_nm w 8 (q := ("CardHouse$Pile", 62, yX4_isPiece)) rfl) (hg _ w_1) qdX4_isPiece ⟨Nat.le_of_ble_eq_true rfl, Nat.le_of_ble_eq_true rfl⟩, hg _ w_184, trivial⟩ (k_preS w [] (by decide) rfl) rfl rfl hl.1 rfl (lv_room (Nat.le_of_ble_eq_true rfl)) dX1_loadOf_5 ⟨Nat.le_refl _, Nat.le_refl _⟩) (fun H locs w => ?_)
  refine lv_if_eq (tgt := 20) hx hb dX1_loadOf_8 (by decide) (fun c3 => ?_) (fun c3 => ?_)
  · replace hf := ite_t c3 hf
    refine lv_iconst (v := 0) hx hb dX1_loadOf_20 (by decide) ?_
    exact k_iret (u := r1) hx hb hr hlk w rfl hf dX1_loadOf_21
  · replace hf := ite_f c3 hf
    refine lv_aload_n hx hb dX1_loadOf_11 rfl (lv_at hl 0 rfl) ?_
    refine va_get (D := D) (ci := 1) (v := .ref p_d) (C := RX1) (T := TX1) (N := 5) hx hb hg iX1 hown w.2.2.2.2.2.2.1 w.1 0 rfl rfl 4 (by decide) (hg _ w_39) (fun _ h9 => h9) rfl dX1_loadOf_12 ?_
    refine lv_iload_n hx hb dX1_loadOf_15 rfl (lv_at hl 1 rfl) ?_
    replace hf := gd_at hf
    obtain ⟨hi4, hf⟩ := hf
    refine va_iald hx hb w.2.2.2.2.2.2.1 w.1 2 0 rfl rfl hi4 dX1_loadOf_16 ?_
    refine lv_goto (tgt := 21) hx hb dX1_loadOf_17 (by decide) ?_
    exact k_iret (u := r1) hx hb hr hlk w rfl hf dX1_loadOf_21
-- X2_store
def fX2_store (hn : Nat) (h_sz : Int32) (h_st : Nat → Int32) (h_sk : Nat → Int32) (h_sf : Nat → Int32) (p_th : Int32) (p_ki : Int32) (p_fe : Int32) (a1 : Int32) : Option ((Nat → Int32) × (Nat → Int32) × (Nat → Int32)) := (if a1 < 0 then some (h_st, h_sk, h_sf) else (if a1 < h_sz then gd a1 hn (gd a1 hn (gd a1 hn (some ((upd h_st (Int32.toNatClampNeg a1) p_th), (upd h_sk (Int32.toNatClampNeg a1) p_ki), (upd h_sf (Int32.toNatClampNeg a1) p_fe))))) else some (h_st, h_sk, h_sf)))
set_option maxRecDepth 100000 in
set_option maxHeartbeats 4000000 in
theorem tX2_store (l : Launch) (D : va_G) (cI cZ : ClassId) (b0 : Nat) (tt : Nat → Nat) (hn : Nat) (h_a h_t h_k h_f p_a p_c p_d : Nat) (h_sz : Int32) (h_st : Nat → Int32) (h_sk : Nat → Int32) (h_sf : Nat → Int32) (p_th : Int32) (p_ki : Int32) (p_fe : Int32) (p_ca : Nat → Int32) (p_lo : Nat → Int32) (a1 : Int32) {res : (Nat → Int32) × (Nat → Int32) × (Nat → Int32)} (hf : fX2_store hn h_sz h_st h_sk h_sf p_th p_ki p_fe a1 = some res) : CtV l yX2_store (cwX2_store :: GW) 0 0 D cI cZ b0 tt [.ref h_a, .int a1, .ref p_a] (fun u : (Nat → Int32) × (Nat → Int32) × (Nat → Int32) => [(h_a, .inr (2, [.int h_sz, .ref h_t, .ref h_k, .ref h_f])), (h_t, .inl (cI, hn, .inl u.1)), (h_k, .inl (cI, hn, .inl u.2.1)), (h_f, .inl (cI, hn, .inl u.2.2)), (p_a, .inr (1, [.int p_th, .int p_ki, .int p_fe, .ref p_c, .ref p_d])), (p_c, .inl (cI, 4, .inl p_ca)), (p_d, .inl (cI, 16, .inl p_lo))]) (h_st, h_sk, h_sf) res := by
  intro sz
  refine k_begin (cc := cX2_store) (maxL := 3) (ret := none) (by decide) rfl (Nat.le_of_ble_eq_true rfl) ?_
  intro p e s m below meth c ls C w hl
  generalize va_A _ sz = A at w ⊢
  have w : Wd D cI cZ b0 tt A s [(h_a, .inr (2, [.int h_sz, .ref h_t, .ref h_k, .ref h_f])), (h_t, .inl (cI, hn, .inl h_st)), (h_k, .inl (cI, hn, .inl h_sk)), (h_f, .inl (cI, hn, .inl h_sf)), (p_a, .inr (1, [.int p_th, .int p_ki, .int p_fe, .ref p_c, .ref p_d])), (p_c, .inl (cI, 4, .inl p_ca)), (p_d, .inl (cI, 16, .inl p_lo))] s.heap [] := w
  have hl : lv_has ls 3 [(0, .ref h_a), (1, .int a1), (2, .ref p_a)] := hl
  obtain ⟨H, eH⟩ : ∃ H, H = s.heap := ⟨_, rfl⟩
  rw [← eH] at w ⊢
  generalize ([] : List Loc) = locs at w ⊢
  generalize List.toArray _ = args at C ⊢
  obtain ⟨hx, hb, hr, hml, hown, hts, hlk⟩ := id C
  have hg : ∀ w ∈ GW, w.before args s = true := fun w h => hts w (List.mem_cons_of_mem _ h)
  unfold fX2_store at hf
  refine lv_iload_n hx hb dX2_store_0 rfl (lv_at hl 1 rfl) ?_
  refine lv_if_lt (tgt := 12) hx hb dX2_store_1 (by decide) (fun c1 => ?_) (fun c1 => ?_)
  · replace hf := ite_t c1 hf
    exact k_vret (u := (h_st, h_sk, h_sf)) hx hb hr hlk w rfl hf dX2_store_12
  · replace hf := ite_f c1 hf
    refine lv_iload_n hx hb dX2_store_4 rfl (lv_at hl 1 rfl) ?_
    refine lv_aload_n hx hb dX2_store_5 rfl (lv_at hl 0 rfl) ?_
    refine va_get (D := D) (ci := 2) (v := .int h_sz) (C := RX2) (T := TX2) (N := 4) hx hb hg iX2 hown w.2.2.2.2.2.2.1 w.1 0 rfl rfl 0 (by decide) (hg _ w_60) (fun _ h9 => h9) rfl dX2_store_6 ?_
    refine lv_icmp_lt (tgt := 13) hx hb dX2_store_9 (by decide) (fun c2 => ?_) (fun c2 => ?_)
    · replace hf := ite_t c2 hf
      refine lv_aload_n hx hb dX2_store_13 rfl (lv_at hl 0 rfl) ?_
      refine va_get (D := D) (ci := 2) (v := .ref h_t) (C := RX2) (T := TX2) (N := 4) hx hb hg iX2 hown w.2.2.2.2.2.2.1 w.1 0 rfl rfl 1 (by decide) (hg _ w_61) (fun _ h9 => h9) rfl dX2_store_14 ?_
      refine lv_iload_n hx hb dX2_store_17 rfl (lv_at hl 1 rfl) ?_
      refine lv_aload_n hx hb dX2_store_18 rfl (lv_at hl 2 rfl) ?_
      refine va_getN (D := D) (ci := 1) (v := .int p_th) (C := RX1) (T := TX1) (N := 5) hx hb hg iX1 hown w.2.2.2.2.2.2.1 w.1 4 rfl rfl 0 (by decide) (k_nf w 9 (q := ("CardHouse$Shelf", 29, "CardHouse$Pile", "there", "I")) rfl) (fun _ h9 => h9) rfl dX2_store_19 ?_
      replace hf := gd_at hf
      obtain ⟨hi3, hf⟩ := hf
      refine k_iast hx hb w 1 rfl hi3 dX2_store_22 (fun H locs w => ?_)
      have w : Wd D cI cZ b0 tt A s [(h_a, .inr (2, [.int h_sz, .ref h_t, .ref h_k, .ref h_f])), (h_t, .inl (cI, hn, .inl (upd h_st (Int32.toNatClampNeg a1) p_th))), (h_k, .inl (cI, hn, .inl h_sk)), (h_f, .inl (cI, hn, .inl h_sf)), (p_a, .inr (1, [.int p_th, .int p_ki, .int p_fe, .ref p_c, .ref p_d])), (p_c, .inl (cI, 4, .inl p_ca)), (p_d, .inl (cI, 16, .inl p_lo))] H locs := w
      refine lv_aload_n hx hb dX2_store_23 rfl (lv_at hl 0 rfl) ?_
      refine va_get (D := D) (ci := 2) (v := .ref h_k) (C := RX2) (T := TX2) (N := 4) hx hb hg iX2 hown w.2.2.2.2.2.2.1 w.1 0 rfl rfl 2 (by decide) (hg _ w_62) (fun _ h9 => h9) rfl dX2_store_24 ?_
      refine lv_iload_n hx hb dX2_store_27 rfl (lv_at hl 1 rfl) ?_
      refine lv_aload_n hx hb dX2_store_28 rfl (lv_at hl 2 rfl) ?_
      refine va_getN (D := D) (ci := 1) (v := .int p_ki) (C := RX1) (T := TX1) (N := 5) hx hb hg iX1 hown w.2.2.2.2.2.2.1 w.1 4 rfl rfl 1 (by decide) (k_nf w 10 (q := ("CardHouse$Shelf", 33, "CardHouse$Pile", "kinds", "I")) rfl) (fun _ h9 => h9) rfl dX2_store_29 ?_
      replace hf := gd_at hf
      obtain ⟨hi4, hf⟩ := hf
      refine k_iast hx hb w 2 rfl hi4 dX2_store_32 (fun H locs w => ?_)
      have w : Wd D cI cZ b0 tt A s [(h_a, .inr (2, [.int h_sz, .ref h_t, .ref h_k, .ref h_f])), (h_t, .inl (cI, hn, .inl (upd h_st (Int32.toNatClampNeg a1) p_th))), (h_k, .inl (cI, hn, .inl (upd h_sk (Int32.toNatClampNeg a1) p_ki))), (h_f, .inl (cI, hn, .inl h_sf)), (p_a, .inr (1, [.int p_th, .int p_ki, .int p_fe, .ref p_c, .ref p_d])), (p_c, .inl (cI, 4, .inl p_ca)), (p_d, .inl (cI, 16, .inl p_lo))] H locs := w
      refine lv_aload_n hx hb dX2_store_33 rfl (lv_at hl 0 rfl) ?_
      refine va_get (D := D) (ci := 2) (v := .ref h_f) (C := RX2) (T := TX2) (N := 4) hx hb hg iX2 hown w.2.2.2.2.2.2.1 w.1 0 rfl rfl 3 (by decide) (hg _ w_63) (fun _ h9 => h9) rfl dX2_store_34 ?_
      refine lv_iload_n hx hb dX2_store_37 rfl (lv_at hl 1 rfl) ?_
      refine lv_aload_n hx hb dX2_store_38 rfl (lv_at hl 2 rfl) ?_
      refine va_getN (D := D) (ci := 1) (v := .int p_fe) (C := RX1) (T := TX1) (N := 5) hx hb hg iX1 hown w.2.2.2.2.2.2.1 w.1 4 rfl rfl 2 (by decide) (k_nf w 11 (q := ("CardHouse$Shelf", 35, "CardHouse$Pile", "fell", "I")) rfl) (fun _ h9 => h9) rfl dX2_store_39 ?_
      replace hf := gd_at hf
      obtain ⟨hi5, hf⟩ := hf
      refine k_iast hx hb w 3 rfl hi5 dX2_store_42 (fun H locs w => ?_)
      have w : Wd D cI cZ b0 tt A s [(h_a, .inr (2, [.int h_sz, .ref h_t, .ref h_k, .ref h_f])), (h_t, .inl (cI, hn, .inl (upd h_st (Int32.toNatClampNeg a1) p_th))), (h_k, .inl (cI, hn, .inl (upd h_sk (Int32.toNatClampNeg a1) p_ki))), (h_f, .inl (cI, hn, .inl (upd h_sf (Int32.toNatClampNeg a1) p_fe))), (p_a, .inr (1, [.int p_th, .int p_ki, .int p_fe, .ref p_c, .ref p_d])), (p_c, .inl (cI, 4, .inl p_ca)), (p_d, .inl (cI, 16, .inl p_lo))] H locs := w
      exact k_vret (u := ((upd h_st (Int32.toNatClampNeg a1) p_th), (upd h_sk (Int32.toNatClampNeg a1) p_ki), (upd h_sf (Int32.toNatClampNeg a1) p_fe))) hx hb hr hlk w rfl hf dX2_store_43
    · replace hf := ite_f c2 hf
      exact k_vret (u := (h_st, h_sk, h_sf)) hx hb hr hlk w rfl hf dX2_store_12
-- X2_restore
def fX2_restore (hn : Nat) (h_sz : Int32) (h_st : Nat → Int32) (h_sk : Nat → Int32) (h_sf : Nat → Int32) (p_th : Int32) (p_ki : Int32) (p_fe : Int32) (a1 : Int32) : Option (Int32 × Int32 × Int32) := (if a1 < 0 then some (p_th, p_ki, p_fe) else (if a1 < h_sz then gd a1 hn (nm (h_st (Int32.toNatClampNeg a1)) (fun z4 => gd a1 hn (nm (h_sk (Int32.toNatClampNeg a1)) (fun z6 => gd a1 hn (nm (h_sf (Int32.toNatClampNeg a1)) (fun z8 => some (z4, z6, z8))))))) else some (p_th, p_ki, p_fe)))
set_option maxRecDepth 100000 in
set_option maxHeartbeats 4000000 in
theorem tX2_restore (l : Launch) (D : va_G) (cI cZ : ClassId) (b0 : Nat) (tt : Nat → Nat) (hn : Nat) (h_a h_t h_k h_f p_a p_c p_d : Nat) (h_sz : Int32) (h_st : Nat → Int32) (h_sk : Nat → Int32) (h_sf : Nat → Int32) (p_th : Int32) (p_ki : Int32) (p_fe : Int32) (p_ca : Nat → Int32) (p_lo : Nat → Int32) (a1 : Int32) {res : Int32 × Int32 × Int32} (hf : fX2_restore hn h_sz h_st h_sk h_sf p_th p_ki p_fe a1 = some res) : CtV l yX2_restore (cwX2_restore :: GW) 0 0 D cI cZ b0 tt [.ref h_a, .int a1, .ref p_a] (fun u : Int32 × Int32 × Int32 => [(h_a, .inr (2, [.int h_sz, .ref h_t, .ref h_k, .ref h_f])), (h_t, .inl (cI, hn, .inl h_st)), (h_k, .inl (cI, hn, .inl h_sk)), (h_f, .inl (cI, hn, .inl h_sf)), (p_a, .inr (1, [.int u.1, .int u.2.1, .int u.2.2, .ref p_c, .ref p_d])), (p_c, .inl (cI, 4, .inl p_ca)), (p_d, .inl (cI, 16, .inl p_lo))]) (p_th, p_ki, p_fe) res := by
  intro sz
  refine k_begin (cc := cX2_restore) (maxL := 3) (ret := none) (by decide) rfl (Nat.le_of_ble_eq_true rfl) ?_
  intro p e s m below meth c ls C w hl
  generalize va_A _ sz = A at w ⊢
  have w : Wd D cI cZ b0 tt A s [(h_a, .inr (2, [.int h_sz, .ref h_t, .ref h_k, .ref h_f])), (h_t, .inl (cI, hn, .inl h_st)), (h_k, .inl (cI, hn, .inl h_sk)), (h_f, .inl (cI, hn, .inl h_sf)), (p_a, .inr (1, [.int p_th, .int p_ki, .int p_fe, .ref p_c, .ref p_d])), (p_c, .inl (cI, 4, .inl p_ca)), (p_d, .inl (cI, 16, .inl p_lo))] s.heap [] := w
  have hl : lv_has ls 3 [(0, .ref h_a), (1, .int a1), (2, .ref p_a)] := hl
  obtain ⟨H, eH⟩ : ∃ H, H = s.heap := ⟨_, rfl⟩
  rw [← eH] at w ⊢
  generalize ([] : List Loc) = locs at w ⊢
  generalize List.toArray _ = args at C ⊢
  obtain ⟨hx, hb, hr, hml, hown, hts, hlk⟩ := id C
  have hg : ∀ w ∈ GW, w.before args s = true := fun w h => hts w (List.mem_cons_of_mem _ h)
  unfold fX2_restore at hf
  refine lv_iload_n hx hb dX2_restore_0 rfl (lv_at hl 1 rfl) ?_
  refine lv_if_lt (tgt := 12) hx hb dX2_restore_1 (by decide) (fun c1 => ?_) (fun c1 => ?_)
  · replace hf := ite_t c1 hf
    exact k_vret (u := (p_th, p_ki, p_fe)) hx hb hr hlk w rfl hf dX2_restore_12
  · replace hf := ite_f c1 hf
    refine lv_iload_n hx hb dX2_restore_4 rfl (lv_at hl 1 rfl) ?_
    refine lv_aload_n hx hb dX2_restore_5 rfl (lv_at hl 0 rfl) ?_
    refine va_get (D := D) (ci := 2) (v := .int h_sz) (C := RX2) (T := TX2) (N := 4) hx hb hg iX2 hown w.2.2.2.2.2.2.1 w.1 0 rfl rfl 0 (by decide) (hg _ w_60) (fun _ h9 => h9) rfl dX2_restore_6 ?_
    refine lv_icmp_lt (tgt := 13) hx hb dX2_restore_9 (by decide) (fun c2 => ?_) (fun c2 => ?_)
    · replace hf := ite_t c2 hf
      refine lv_aload_n hx hb dX2_restore_13 rfl (lv_at hl 2 rfl) ?_
      refine lv_aload_n hx hb dX2_restore_14 rfl (lv_at hl 0 rfl) ?_
      refine va_get (D := D) (ci := 2) (v := .ref h_t) (C := RX2) (T := TX2) (N := 4) hx hb hg iX2 hown w.2.2.2.2.2.2.1 w.1 0 rfl rfl 1 (by decide) (hg _ w_61) (fun _ h9 => h9) rfl dX2_restore_15 ?_
      refine lv_iload_n hx hb dX2_restore_18 rfl (lv_at hl 1 rfl) ?_
      replace hf := gd_at hf
      obtain ⟨hi3, hf⟩ := hf
      refine va_iald hx hb w.2.2.2.2.2.2.1 w.1 1 0 rfl rfl hi3 dX2_restore_19 ?_
      refine lv_topi (fun z4 ez4 => ?_)
      replace hf := nm_at ez4 hf
      refine k_putN (ci := 1) (v := .int z4) (ty := .int) (C := RX1) (T := TX1) (N := 5) hx hb hg iX1 tyX1 tyX1_ok nmX1 hown w 4 rfl rfl 0 (by decide) (k_nf w 9 (q := ("CardHouse$Shelf", 29, "CardHouse$Pile", "there", "I")) rfl) (fun _ h9 => h9) rfl pd_I rfl rfl (Nat.le_of_ble_eq_true rfl) dX2_restore_20 (fun H locs w => ?_)
      have w : Wd D cI cZ b0 tt A s [(h_a, .inr (2, [.int h_sz, .ref h_t, .ref h_k, .ref h_f])), (h_t, .inl (cI, hn, .inl h_st)), (h_k, .inl (cI, hn, .inl h_sk)), (h_f, .inl (cI, hn, .inl h_sf)), (p_a, .inr (1, [.int z4, .int p_ki, .int p_fe, .ref p_c, .ref p_d])), (p_c, .inl (cI, 4, .inl p_ca)), (p_d, .inl (cI, 16, .inl p_lo))] H locs := w
      refine lv_aload_n hx hb dX2_restore_23 rfl (lv_at hl 2 rfl) ?_
      refine lv_aload_n hx hb dX2_restore_24 rfl (lv_at hl 0 rfl) ?_
      refine va_get (D := D) (ci := 2) (v := .ref h_k) (C := RX2) (T := TX2) (N := 4) hx hb hg iX2 hown w.2.2.2.2.2.2.1 w.1 0 rfl rfl 2 (by decide) (hg _ w_62) (fun _ h9 => h9) rfl dX2_restore_25 ?_
      refine lv_iload_n hx hb dX2_restore_28 rfl (lv_at hl 1 rfl) ?_
      replace hf := gd_at hf
      obtain ⟨hi5, hf⟩ := hf
      refine va_iald hx hb w.2.2.2.2.2.2.1 w.1 2 0 rfl rfl hi5 dX2_restore_29 ?_
      refine lv_topi (fun z6 ez6 => ?_)
      replace hf := nm_at ez6 hf
      refine k_putN (ci := 1) (v := .int z6) (ty := .int) (C := RX1) (T := TX1) (N := 5) hx hb hg iX1 tyX1 tyX1_ok nmX1 hown w 4 rfl rfl 1 (by decide) (k_nf w 10 (q := ("CardHouse$Shelf", 33, "CardHouse$Pile", "kinds", "I")) rfl) (fun _ h9 => h9) rfl pd_I rfl rfl (Nat.le_of_ble_eq_true rfl) dX2_restore_30 (fun H locs w => ?_)
      have w : Wd D cI cZ b0 tt A s [(h_a, .inr (2, [.int h_sz, .ref h_t, .ref h_k, .ref h_f])), (h_t, .inl (cI, hn, .inl h_st)), (h_k, .inl (cI, hn, .inl h_sk)), (h_f, .inl (cI, hn, .inl h_sf)), (p_a, .inr (1, [.int z4, .int z6, .int p_fe, .ref p_c, .ref p_d])), (p_c, .inl (cI, 4, .inl p_ca)), (p_d, .inl (cI, 16, .inl p_lo))] H locs := w
      refine lv_aload_n hx hb dX2_restore_33 rfl (lv_at hl 2 rfl) ?_
      refine lv_aload_n hx hb dX2_restore_34 rfl (lv_at hl 0 rfl) ?_
      refine va_get (D := D) (ci := 2) (v := .ref h_f) (C := RX2) (T := TX2) (N := 4) hx hb hg iX2 hown w.2.2.2.2.2.2.1 w.1 0 rfl rfl 3 (by decide) (hg _ w_63) (fun _ h9 => h9) rfl dX2_restore_35 ?_
      refine lv_iload_n hx hb dX2_restore_38 rfl (lv_at hl 1 rfl) ?_
      replace hf := gd_at hf
      obtain ⟨hi7, hf⟩ := hf
      refine va_iald hx hb w.2.2.2.2.2.2.1 w.1 3 0 rfl rfl hi7 dX2_restore_39 ?_
      refine lv_topi (fun z8 ez8 => ?_)
      replace hf := nm_at ez8 hf
      refine k_putN (ci := 1) (v := .int z8) (ty := .int) (C := RX1) (T := TX1) (N := 5) hx hb hg iX1 tyX1 tyX1_ok nmX1 hown w 4 rfl rfl 2 (by decide) (k_nf w 11 (q := ("CardHouse$Shelf", 35, "CardHouse$Pile", "fell", "I")) rfl) (fun _ h9 => h9) rfl pd_I rfl rfl (Nat.le_of_ble_eq_true rfl) dX2_restore_40 (fun H locs w => ?_)
      have w : Wd D cI cZ b0 tt A s [(h_a, .inr (2, [.int h_sz, .ref h_t, .ref h_k, .ref h_f])), (h_t, .inl (cI, hn, .inl h_st)), (h_k, .inl (cI, hn, .inl h_sk)), (h_f, .inl (cI, hn, .inl h_sf)), (p_a, .inr (1, [.int z4, .int z6, .int z8, .ref p_c, .ref p_d])), (p_c, .inl (cI, 4, .inl p_ca)), (p_d, .inl (cI, 16, .inl p_lo))] H locs := w
      exact k_vret (u := (z4, z6, z8)) hx hb hr hlk w rfl hf dX2_restore_43
    · replace hf := ite_f c2 hf
      exact k_vret (u := (p_th, p_ki, p_fe)) hx hb hr hlk w rfl hf dX2_restore_12
-- X2_forgetFirst
def fX2_forgetFirst_L2 (hn : Nat)  (h_sz : Int32) : Nat → Int32 → (Nat → Int32) → (Nat → Int32) → (Nat → Int32) → Option ((Nat → Int32) × (Nat → Int32) × (Nat → Int32))
  | 0, _, _, _, _ => none
  | n + 1, v1, h_st, h_sk, h_sf => (if h_sz ≤ v1 then some (h_st, h_sk, h_sf) else gd v1 hn (nm (h_st (Int32.toNatClampNeg v1)) (fun z3 => gd (v1 - (1 : Int32)) hn (gd v1 hn (nm (h_sk (Int32.toNatClampNeg v1)) (fun z6 => gd (v1 - (1 : Int32)) hn (gd v1 hn (nm (h_sf (Int32.toNatClampNeg v1)) (fun z9 => gd (v1 - (1 : Int32)) hn (nm (v1 + 1) (fun z11 => fX2_forgetFirst_L2 hn h_sz n z11 (upd h_st (Int32.toNatClampNeg (v1 - (1 : Int32))) z3) (upd h_sk (Int32.toNatClampNeg (v1 - (1 : Int32))) z6) (upd h_sf (Int32.toNatClampNeg (v1 - (1 : Int32))) z9))))))))))))
set_option maxRecDepth 100000 in
set_option maxHeartbeats 4000000 in
theorem tX2_forgetFirst_L2 {p : Program} {l : Launch} {e : Env} {s : State} {m : MethodId} {args : Array Value} {below : List Frame} {meth : Method} {c : Code} {D : va_G} {cI cZ : ClassId} {b0 : Nat} {tt : Nat → Nat} {A : Nat → Prop} {hn : Nat} {h_a h_t h_k h_f : Nat}  {h_sz : Int32} {res : (Nat → Int32) × (Nat → Int32) × (Nat → Int32)} (C : Cx p s m args meth c cX2_forgetFirst 2 none (cwX2_forgetFirst :: GW) RX2) : ∀ (n : Nat) (v1 : Int32) (h_st : Nat → Int32) (h_sk : Nat → Int32) (h_sf : Nat → Int32) (H : Heap) (locs : List Loc) (ls : Array Slot), fX2_forgetFirst_L2 hn h_sz n v1 h_st h_sk h_sf = some res → Wd D cI cZ b0 tt A s [(h_a, .inr (2, [.int h_sz, .ref h_t, .ref h_k, .ref h_f])), (h_t, .inl (cI, hn, .inl h_st)), (h_k, .inl (cI, hn, .inl h_sk)), (h_f, .inl (cI, hn, .inl h_sf))] H locs → lv_has ls 2 [(0, .ref h_a), (1, .int v1)] → W p l e (rmo 0 0) s m args below meth c H locs 0 0 (MQ below (QV D (fun u : (Nat → Int32) × (Nat → Int32) × (Nat → Int32) => [(h_a, .inr (2, [.int h_sz, .ref h_t, .ref h_k, .ref h_f])), (h_t, .inl (cI, hn, .inl u.1)), (h_k, .inl (cI, hn, .inl u.2.1)), (h_f, .inl (cI, hn, .inl u.2.2))]) A res) args s 0 0 A) (F0 m 2 ls []) := by
  obtain ⟨hx, hb, hr, hml, hown, hts, hlk⟩ := id C
  have hg : ∀ w ∈ GW, w.before args s = true := fun w h => hts w (List.mem_cons_of_mem _ h)
  intro n
  induction n with
  | zero =>
    intro _ _ _ _ H locs ls hf
    rw [fX2_forgetFirst_L2] at hf
    cases hf
  | succ n ih =>
    intro v1 h_st h_sk h_sf H locs ls hf w hl
    rw [fX2_forgetFirst_L2] at hf
    refine lv_iload_n hx hb dX2_forgetFirst_2 rfl (lv_at hl 1 rfl) ?_
    refine lv_aload_n hx hb dX2_forgetFirst_3 rfl (lv_at hl 0 rfl) ?_
    refine va_get (D := D) (ci := 2) (v := .int h_sz) (C := RX2) (T := TX2) (N := 4) hx hb hg iX2 hown w.2.2.2.2.2.2.1 w.1 0 rfl rfl 0 (by decide) (hg _ w_60) (fun _ h9 => h9) rfl dX2_forgetFirst_4 ?_
    refine lv_icmp_ge (tgt := 58) hx hb dX2_forgetFirst_7 (by decide) (fun c1 => ?_) (fun c1 => ?_)
    · replace hf := ite_t c1 hf
      exact k_vret (u := (h_st, h_sk, h_sf)) hx hb hr hlk w rfl hf dX2_forgetFirst_58
    · replace hf := ite_f c1 hf
      refine lv_aload_n hx hb dX2_forgetFirst_10 rfl (lv_at hl 0 rfl) ?_
      refine va_get (D := D) (ci := 2) (v := .ref h_t) (C := RX2) (T := TX2) (N := 4) hx hb hg iX2 hown w.2.2.2.2.2.2.1 w.1 0 rfl rfl 1 (by decide) (hg _ w_61) (fun _ h9 => h9) rfl dX2_forgetFirst_11 ?_
      refine lv_iload_n hx hb dX2_forgetFirst_14 rfl (lv_at hl 1 rfl) ?_
      refine lv_iconst (v := 1) hx hb dX2_forgetFirst_15 (by decide) ?_
      refine lv_isub hx hb dX2_forgetFirst_16 ?_
      refine lv_aload_n hx hb dX2_forgetFirst_17 rfl (lv_at hl 0 rfl) ?_
      refine va_get (D := D) (ci := 2) (v := .ref h_t) (C := RX2) (T := TX2) (N := 4) hx hb hg iX2 hown w.2.2.2.2.2.2.1 w.1 0 rfl rfl 1 (by decide) (hg _ w_61) (fun _ h9 => h9) rfl dX2_forgetFirst_18 ?_
      refine lv_iload_n hx hb dX2_forgetFirst_21 rfl (lv_at hl 1 rfl) ?_
      replace hf := gd_at hf
      obtain ⟨hi2, hf⟩ := hf
      refine va_iald hx hb w.2.2.2.2.2.2.1 w.1 1 0 rfl rfl hi2 dX2_forgetFirst_22 ?_
      refine lv_topi (fun z3 ez3 => ?_)
      replace hf := nm_at ez3 hf
      replace hf := gd_at hf
      obtain ⟨hi4, hf⟩ := hf
      refine k_iast hx hb w 1 rfl hi4 dX2_forgetFirst_23 (fun H locs w => ?_)
      have w : Wd D cI cZ b0 tt A s [(h_a, .inr (2, [.int h_sz, .ref h_t, .ref h_k, .ref h_f])), (h_t, .inl (cI, hn, .inl (upd h_st (Int32.toNatClampNeg (v1 - (1 : Int32))) z3))), (h_k, .inl (cI, hn, .inl h_sk)), (h_f, .inl (cI, hn, .inl h_sf))] H locs := w
      refine lv_aload_n hx hb dX2_forgetFirst_24 rfl (lv_at hl 0 rfl) ?_
      refine va_get (D := D) (ci := 2) (v := .ref h_k) (C := RX2) (T := TX2) (N := 4) hx hb hg iX2 hown w.2.2.2.2.2.2.1 w.1 0 rfl rfl 2 (by decide) (hg _ w_62) (fun _ h9 => h9) rfl dX2_forgetFirst_25 ?_
      refine lv_iload_n hx hb dX2_forgetFirst_28 rfl (lv_at hl 1 rfl) ?_
      refine lv_iconst (v := 1) hx hb dX2_forgetFirst_29 (by decide) ?_
      refine lv_isub hx hb dX2_forgetFirst_30 ?_
      refine lv_aload_n hx hb dX2_forgetFirst_31 rfl (lv_at hl 0 rfl) ?_
      refine va_get (D := D) (ci := 2) (v := .ref h_k) (C := RX2) (T := TX2) (N := 4) hx hb hg iX2 hown w.2.2.2.2.2.2.1 w.1 0 rfl rfl 2 (by decide) (hg _ w_62) (fun _ h9 => h9) rfl dX2_forgetFirst_32 ?_
      refine lv_iload_n hx hb dX2_forgetFirst_35 rfl (lv_at hl 1 rfl) ?_
      replace hf := gd_at hf
      obtain ⟨hi5, hf⟩ := hf
      refine va_iald hx hb w.2.2.2.2.2.2.1 w.1 2 0 rfl rfl hi5 dX2_forgetFirst_36 ?_
      refine lv_topi (fun z6 ez6 => ?_)
      replace hf := nm_at ez6 hf
      replace hf := gd_at hf
      obtain ⟨hi7, hf⟩ := hf
      refine k_iast hx hb w 2 rfl hi7 dX2_forgetFirst_37 (fun H locs w => ?_)
      have w : Wd D cI cZ b0 tt A s [(h_a, .inr (2, [.int h_sz, .ref h_t, .ref h_k, .ref h_f])), (h_t, .inl (cI, hn, .inl (upd h_st (Int32.toNatClampNeg (v1 - (1 : Int32))) z3))), (h_k, .inl (cI, hn, .inl (upd h_sk (Int32.toNatClampNeg (v1 - (1 : Int32))) z6))), (h_f, .inl (cI, hn, .inl h_sf))] H locs := w
      refine lv_aload_n hx hb dX2_forgetFirst_38 rfl (lv_at hl 0 rfl) ?_
      refine va_get (D := D) (ci := 2) (v := .ref h_f) (C := RX2) (T := TX2) (N := 4) hx hb hg iX2 hown w.2.2.2.2.2.2.1 w.1 0 rfl rfl 3 (by decide) (hg _ w_63) (fun _ h9 => h9) rfl dX2_forgetFirst_39 ?_
      refine lv_iload_n hx hb dX2_forgetFirst_42 rfl (lv_at hl 1 rfl) ?_
      refine lv_iconst (v := 1) hx hb dX2_forgetFirst_43 (by decide) ?_
      refine lv_isub hx hb dX2_forgetFirst_44 ?_
      refine lv_aload_n hx hb dX2_forgetFirst_45 rfl (lv_at hl 0 rfl) ?_
      refine va_get (D := D) (ci := 2) (v := .ref h_f) (C := RX2) (T := TX2) (N := 4) hx hb hg iX2 hown w.2.2.2.2.2.2.1 w.1 0 rfl rfl 3 (by decide) (hg _ w_63) (fun _ h9 => h9) rfl dX2_forgetFirst_46 ?_
      refine lv_iload_n hx hb dX2_forgetFirst_49 rfl (lv_at hl 1 rfl) ?_
      replace hf := gd_at hf
      obtain ⟨hi8, hf⟩ := hf
      refine va_iald hx hb w.2.2.2.2.2.2.1 w.1 3 0 rfl rfl hi8 dX2_forgetFirst_50 ?_
      refine lv_topi (fun z9 ez9 => ?_)
      replace hf := nm_at ez9 hf
      replace hf := gd_at hf
      obtain ⟨hi10, hf⟩ := hf
      refine k_iast hx hb w 3 rfl hi10 dX2_forgetFirst_51 (fun H locs w => ?_)
      have w : Wd D cI cZ b0 tt A s [(h_a, .inr (2, [.int h_sz, .ref h_t, .ref h_k, .ref h_f])), (h_t, .inl (cI, hn, .inl (upd h_st (Int32.toNatClampNeg (v1 - (1 : Int32))) z3))), (h_k, .inl (cI, hn, .inl (upd h_sk (Int32.toNatClampNeg (v1 - (1 : Int32))) z6))), (h_f, .inl (cI, hn, .inl (upd h_sf (Int32.toNatClampNeg (v1 - (1 : Int32))) z9)))] H locs := w
      obtain ⟨z11, ez11⟩ : ∃ y : Int32, y = (v1 + 1) := ⟨_, rfl⟩
      replace hf := nm_at ez11 hf
      refine lv_iinc (v := z11) (lv' := [(1, .int z11), (0, .ref h_a)]) hx hb dX2_forgetFirst_52 hl (k := 1) rfl (by rw [ez11]; rfl) (by decide) rfl (fun ls hl => ?_)
      refine lv_goto (tgt := 2) hx hb dX2_forgetFirst_55 (by decide) ?_
      exact ih z11 (upd h_st (Int32.toNatClampNeg (v1 - (1 : Int32))) z3) (upd h_sk (Int32.toNatClampNeg (v1 - (1 : Int32))) z6) (upd h_sf (Int32.toNatClampNeg (v1 - (1 : Int32))) z9) H locs ls hf w (lv_sub hl [1, 0] rfl)
def fX2_forgetFirst (hn : Nat) (h_sz : Int32) (h_st : Nat → Int32) (h_sk : Nat → Int32) (h_sf : Nat → Int32) : Option ((Nat → Int32) × (Nat → Int32) × (Nat → Int32)) := fX2_forgetFirst_L2 hn h_sz FU 1 h_st h_sk h_sf
set_option maxRecDepth 100000 in
set_option maxHeartbeats 4000000 in
theorem tX2_forgetFirst (l : Launch) (D : va_G) (cI cZ : ClassId) (b0 : Nat) (tt : Nat → Nat) (hn : Nat) (h_a h_t h_k h_f : Nat) (h_sz : Int32) (h_st : Nat → Int32) (h_sk : Nat → Int32) (h_sf : Nat → Int32)  {res : (Nat → Int32) × (Nat → Int32) × (Nat → Int32)} (hf : fX2_forgetFirst hn h_sz h_st h_sk h_sf = some res) : CtV l yX2_forgetFirst (cwX2_forgetFirst :: GW) 0 0 D cI cZ b0 tt [.ref h_a] (fun u : (Nat → Int32) × (Nat → Int32) × (Nat → Int32) => [(h_a, .inr (2, [.int h_sz, .ref h_t, .ref h_k, .ref h_f])), (h_t, .inl (cI, hn, .inl u.1)), (h_k, .inl (cI, hn, .inl u.2.1)), (h_f, .inl (cI, hn, .inl u.2.2))]) (h_st, h_sk, h_sf) res := by
  intro sz
  refine k_begin (cc := cX2_forgetFirst) (maxL := 2) (ret := none) (by decide) rfl (Nat.le_of_ble_eq_true rfl) ?_
  intro p e s m below meth c ls C w hl
  generalize va_A _ sz = A at w ⊢
  have w : Wd D cI cZ b0 tt A s [(h_a, .inr (2, [.int h_sz, .ref h_t, .ref h_k, .ref h_f])), (h_t, .inl (cI, hn, .inl h_st)), (h_k, .inl (cI, hn, .inl h_sk)), (h_f, .inl (cI, hn, .inl h_sf))] s.heap [] := w
  have hl : lv_has ls 2 [(0, .ref h_a)] := hl
  obtain ⟨H, eH⟩ : ∃ H, H = s.heap := ⟨_, rfl⟩
  rw [← eH] at w ⊢
  generalize ([] : List Loc) = locs at w ⊢
  generalize List.toArray _ = args at C ⊢
  obtain ⟨hx, hb, hr, hml, hown, hts, hlk⟩ := id C
  have hg : ∀ w ∈ GW, w.before args s = true := fun w h => hts w (List.mem_cons_of_mem _ h)
  unfold fX2_forgetFirst at hf
  refine lv_iconst (v := 1) hx hb dX2_forgetFirst_0 (by decide) ?_
  refine lv_istore_n (lv' := [(1, .int 1), (0, .ref h_a)]) hx hb dX2_forgetFirst_1 rfl hl (by decide) rfl (fun ls hl => ?_)
  exact tX2_forgetFirst_L2 (h_sz := h_sz) (C := C) FU 1 h_st h_sk h_sf H locs ls hf w (lv_sub hl [1, 0] rfl)
-- X3_append
def fX3_append  (x_ln : Int32) (x_le : Nat → Int32) (a1 : Int32) : Option (Int32 × (Nat → Int32)) := (if x_ln < 0 then some (x_ln, x_le) else (if x_ln < 56 then gd x_ln 56 (nm (x_ln + (1 : Int32)) (fun z4 => some (z4, (upd x_le (Int32.toNatClampNeg x_ln) a1)))) else some (x_ln, x_le)))
set_option maxRecDepth 100000 in
set_option maxHeartbeats 4000000 in
theorem tX3_append (l : Launch) (D : va_G) (cI cZ : ClassId) (b0 : Nat) (tt : Nat → Nat)  (x_a x_l : Nat) (x_ln : Int32) (x_le : Nat → Int32) (a1 : Int32) {res : Int32 × (Nat → Int32)} (hf : fX3_append x_ln x_le a1 = some res) : CtV l yX3_append (cwX3_append :: GW) 0 0 D cI cZ b0 tt [.ref x_a, .int a1] (fun u : Int32 × (Nat → Int32) => [(x_a, .inr (3, [.ref x_l, .int u.1])), (x_l, .inl (cI, 56, .inl u.2))]) (x_ln, x_le) res := by
  intro sz
  refine k_begin (cc := cX3_append) (maxL := 2) (ret := none) (by decide) rfl (Nat.le_of_ble_eq_true rfl) ?_
  intro p e s m below meth c ls C w hl
  generalize va_A _ sz = A at w ⊢
  have w : Wd D cI cZ b0 tt A s [(x_a, .inr (3, [.ref x_l, .int x_ln])), (x_l, .inl (cI, 56, .inl x_le))] s.heap [] := w
  have hl : lv_has ls 2 [(0, .ref x_a), (1, .int a1)] := hl
  obtain ⟨H, eH⟩ : ∃ H, H = s.heap := ⟨_, rfl⟩
  rw [← eH] at w ⊢
  generalize ([] : List Loc) = locs at w ⊢
  generalize List.toArray _ = args at C ⊢
  obtain ⟨hx, hb, hr, hml, hown, hts, hlk⟩ := id C
  have hg : ∀ w ∈ GW, w.before args s = true := fun w h => hts w (List.mem_cons_of_mem _ h)
  unfold fX3_append at hf
  refine lv_aload_n hx hb dX3_append_0 rfl (lv_at hl 0 rfl) ?_
  refine va_get (D := D) (ci := 3) (v := .int x_ln) (C := RX3) (T := TX3) (N := 2) hx hb hg iX3 hown w.2.2.2.2.2.2.1 w.1 0 rfl rfl 1 (by decide) (hg _ w_23) (fun _ h9 => h9) rfl dX3_append_1 ?_
  refine lv_if_lt (tgt := 16) hx hb dX3_append_4 (by decide) (fun c1 => ?_) (fun c1 => ?_)
  · replace hf := ite_t c1 hf
    exact k_vret (u := (x_ln, x_le)) hx hb hr hlk w rfl hf dX3_append_16
  · replace hf := ite_f c1 hf
    refine lv_aload_n hx hb dX3_append_7 rfl (lv_at hl 0 rfl) ?_
    refine va_get (D := D) (ci := 3) (v := .int x_ln) (C := RX3) (T := TX3) (N := 2) hx hb hg iX3 hown w.2.2.2.2.2.2.1 w.1 0 rfl rfl 1 (by decide) (hg _ w_23) (fun _ h9 => h9) rfl dX3_append_8 ?_
    refine lv_bipush (v := 56) hx hb dX3_append_11 (by decide) ?_
    refine lv_icmp_lt (tgt := 17) hx hb dX3_append_13 (by decide) (fun c2 => ?_) (fun c2 => ?_)
    · replace hf := ite_t c2 hf
      refine lv_aload_n hx hb dX3_append_17 rfl (lv_at hl 0 rfl) ?_
      refine va_get (D := D) (ci := 3) (v := .ref x_l) (C := RX3) (T := TX3) (N := 2) hx hb hg iX3 hown w.2.2.2.2.2.2.1 w.1 0 rfl rfl 0 (by decide) (hg _ w_22) (fun _ h9 => h9) rfl dX3_append_18 ?_
      refine lv_aload_n hx hb dX3_append_21 rfl (lv_at hl 0 rfl) ?_
      refine va_get (D := D) (ci := 3) (v := .int x_ln) (C := RX3) (T := TX3) (N := 2) hx hb hg iX3 hown w.2.2.2.2.2.2.1 w.1 0 rfl rfl 1 (by decide) (hg _ w_23) (fun _ h9 => h9) rfl dX3_append_22 ?_
      refine lv_iload_n hx hb dX3_append_25 rfl (lv_at hl 1 rfl) ?_
      replace hf := gd_at hf
      obtain ⟨hi3, hf⟩ := hf
      refine k_iast hx hb w 1 rfl hi3 dX3_append_26 (fun H locs w => ?_)
      have w : Wd D cI cZ b0 tt A s [(x_a, .inr (3, [.ref x_l, .int x_ln])), (x_l, .inl (cI, 56, .inl (upd x_le (Int32.toNatClampNeg x_ln) a1)))] H locs := w
      refine lv_aload_n hx hb dX3_append_27 rfl (lv_at hl 0 rfl) ?_
      refine lv_dup hx hb dX3_append_28 rfl ?_
      refine va_get (D := D) (ci := 3) (v := .int x_ln) (C := RX3) (T := TX3) (N := 2) hx hb hg iX3 hown w.2.2.2.2.2.2.1 w.1 0 rfl rfl 1 (by decide) (hg _ w_23) (fun _ h9 => h9) rfl dX3_append_29 ?_
      refine lv_iconst (v := 1) hx hb dX3_append_32 (by decide) ?_
      refine lv_iadd hx hb dX3_append_33 ?_
      refine lv_topi (fun z4 ez4 => ?_)
      replace hf := nm_at ez4 hf
      refine k_put (ci := 3) (v := .int z4) (ty := .int) (C := RX3) (T := TX3) (N := 2) hx hb hg iX3 tyX3 tyX3_ok nmX3 hown w 0 rfl rfl 1 (by decide) (hg _ w_23) (fun _ h9 => h9) rfl pd_I rfl rfl (Nat.le_of_ble_eq_true rfl) dX3_append_34 (fun H locs w => ?_)
      have w : Wd D cI cZ b0 tt A s [(x_a, .inr (3, [.ref x_l, .int z4])), (x_l, .inl (cI, 56, .inl (upd x_le (Int32.toNatClampNeg x_ln) a1)))] H locs := w
      exact k_vret (u := (z4, (upd x_le (Int32.toNatClampNeg x_ln) a1))) hx hb hr hlk w rfl hf dX3_append_37
    · replace hf := ite_f c2 hf
      exact k_vret (u := (x_ln, x_le)) hx hb hr hlk w rfl hf dX3_append_16
