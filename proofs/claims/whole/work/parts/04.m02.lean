-- X1_hasRoomFor
def fX1_hasRoomFor  (p_th : Int32) (a1 : Int32) : Option (Int32) := ob (fX4_isPiece a1) (fun r1 => (if r1 = 0 then some 0 else ob (fX1_has p_th a1) (fun r3 => (if r3 = 0 then gd a1 16 ((if ((sUN (Int32.toNatClampNeg a1)) &&& (p_th ^^^ ((-1) : Int32))) = 0 then some 1 else some 0)) else some 0))))
set_option maxRecDepth 100000 in
set_option maxHeartbeats 4000000 in
theorem tX1_hasRoomFor (l : Launch) (D : va_G) (cI cZ : ClassId) (b0 : Nat) (tt : Nat → Nat)  (p_a p_c p_d : Nat) (p_th : Int32) (p_ki : Int32) (p_fe : Int32) (p_ca : Nat → Int32) (p_lo : Nat → Int32) (a1 : Int32) {res : Int32} (hf : fX1_hasRoomFor p_th a1 = some res) : CtI l yX1_hasRoomFor (cwX1_hasRoomFor :: GW) 1 21 D cI cZ b0 tt [.ref p_a, .int a1] (fun _ : Unit => [(p_a, .inr (1, [.int p_th, .int p_ki, .int p_fe, .ref p_c, .ref p_d])), (p_c, .inl (cI, 4, .inl p_ca)), (p_d, .inl (cI, 16, .inl p_lo))]) () (res, ()) := by
  intro sz
  refine k_begin (cc := cX1_hasRoomFor) (maxL := 2) (ret := (some .boolean)) (by decide) rfl (Nat.le_of_ble_eq_true rfl) ?_
  intro p e s m below meth c ls C w hl
  generalize va_A _ sz = A at w ⊢
  have w : Wd D cI cZ b0 tt A s [(p_a, .inr (1, [.int p_th, .int p_ki, .int p_fe, .ref p_c, .ref p_d])), (p_c, .inl (cI, 4, .inl p_ca)), (p_d, .inl (cI, 16, .inl p_lo))] s.heap [] := w
  have hl : lv_has ls 2 [(0, .ref p_a), (1, .int a1)] := hl
  obtain ⟨H, eH⟩ : ∃ H, H = s.heap := ⟨_, rfl⟩
  rw [← eH] at w ⊢
  generalize ([] : List Loc) = locs at w ⊢
  generalize List.toArray _ = args at C ⊢
  obtain ⟨hx, hb, hr, hml, hown, hts, hlk⟩ := id C
  have hg : ∀ w ∈ GW, w.before args s = true := fun w h => hts w (List.mem_cons_of_mem _ h)
  unfold fX1_hasRoomFor at hf
  refine lv_iload_n hx hb dX1_hasRoomFor_0 rfl (lv_at hl 1 rfl) ?_
  replace hf := ob_at hf
  obtain ⟨r1, er1, hf⟩ := hf
  refine k_goI0 w [] rfl (va_runSN (As := [.int a1]) (rest := []) ⟨hx, hb, hml, hown, hg⟩ (tX4_isPiece l D cI cZ b0 tt a1 er1 H.size) ⟨va_cnB 1 hg (gwN w_185) rfl rfl rfl (k_nm w 8 (q := ("CardHouse$Pile", 62, yX4_isPiece)) rfl) (hg _ w_1) qdX4_isPiece ⟨Nat.le_of_ble_eq_true rfl, Nat.le_of_ble_eq_true rfl⟩, hg _ w_184, trivial⟩ (k_preS w [] (by decide) rfl) rfl rfl hl.1 rfl (lv_room (Nat.le_of_ble_eq_true rfl)) dX1_hasRoomFor_1 ⟨Nat.le_refl _, Nat.le_refl _⟩) (fun H locs w => ?_)
  refine lv_if_eq (tgt := 34) hx hb dX1_hasRoomFor_4 (by decide) (fun c2 => ?_) (fun c2 => ?_)
  · replace hf := ite_t c2 hf
    refine lv_iconst (v := 0) hx hb dX1_hasRoomFor_34 (by decide) ?_
    exact k_zret (u := ()) hx hb hr hlk w rfl rfl (k_ret1 hf) dX1_hasRoomFor_35
  · replace hf := ite_f c2 hf
    refine lv_aload_n hx hb dX1_hasRoomFor_7 rfl (lv_at hl 0 rfl) ?_
    refine lv_iload_n hx hb dX1_hasRoomFor_8 rfl (lv_at hl 1 rfl) ?_
    replace hf := ob_at hf
    obtain ⟨r3, er3, hf⟩ := hf
    refine k_goI0 w [0, 1, 2] rfl (va_runV (As := [.int a1]) (rest := []) ⟨hx, hb, hml, hown, hg⟩ (tX1_has l D cI cZ b0 tt p_a p_c p_d p_th p_ki p_fe p_ca p_lo a1 er3 H.size) (cwV 1 hg (gwV w_165 w_166 w_167 w_3 w_168) rfl rfl rfl ⟨rfl, qdX1_has⟩ ⟨Nat.le_of_ble_eq_true rfl, Nat.le_of_ble_eq_true rfl⟩) (k_preV w [0, 1, 2] (by decide) rfl (q0 := 0) rfl rfl) rfl rfl hl.1 rfl (lv_room (Nat.le_of_ble_eq_true rfl)) dX1_hasRoomFor_9 ⟨Nat.le_refl _, Nat.le_refl _⟩) (fun H locs w => ?_)
    refine lv_if_ne (tgt := 34) hx hb dX1_hasRoomFor_12 (by decide) (fun c4 => ?_) (fun c4 => ?_)
    · replace hf := ite_f c4 hf
      refine lv_iconst (v := 0) hx hb dX1_hasRoomFor_34 (by decide) ?_
      exact k_zret (u := ()) hx hb hr hlk w rfl rfl (k_ret1 hf) dX1_hasRoomFor_35
    · replace hf := ite_t c4 hf
      refine va_getsN hx hb (k_Z w w.2.2.2.2.2.2.2.1.1).1 w.2.2.1 hown (k_nf w 8 (q := ("CardHouse$Pile", 65, "CardHouse", "UNDER", "[I")) rfl) (fun _ h9 => h9) dX1_hasRoomFor_15 ?_
      refine lv_iload_n hx hb dX1_hasRoomFor_18 rfl (lv_at hl 1 rfl) ?_
      replace hf := gd_at hf
      obtain ⟨hi5, hf⟩ := hf
      refine va_ti hx hb (k_Z w w.2.2.2.2.2.2.2.1.1).2 w.2.2.1 hi5 (v := .int (sUN (Int32.toNatClampNeg a1))) rfl dX1_hasRoomFor_19 ?_
      refine lv_aload_n hx hb dX1_hasRoomFor_20 rfl (lv_at hl 0 rfl) ?_
      refine va_get (D := D) (ci := 1) (v := .int p_th) (C := RX1) (T := TX1) (N := 5) hx hb hg iX1 hown w.2.2.2.2.2.2.1 w.1 0 rfl rfl 0 (by decide) (hg _ w_35) (fun _ h9 => h9) rfl dX1_hasRoomFor_21 ?_
      refine lv_iconst (v := (-1)) hx hb dX1_hasRoomFor_24 (by decide) ?_
      refine lv_ixor hx hb dX1_hasRoomFor_25 ?_
      refine lv_iand hx hb dX1_hasRoomFor_26 ?_
      refine lv_if_ne (tgt := 34) hx hb dX1_hasRoomFor_27 (by decide) (fun c6 => ?_) (fun c6 => ?_)
      · replace hf := ite_f c6 hf
        refine lv_iconst (v := 0) hx hb dX1_hasRoomFor_34 (by decide) ?_
        exact k_zret (u := ()) hx hb hr hlk w rfl rfl (k_ret1 hf) dX1_hasRoomFor_35
      · replace hf := ite_t c6 hf
        refine lv_iconst (v := 1) hx hb dX1_hasRoomFor_30 (by decide) ?_
        refine lv_goto (tgt := 35) hx hb dX1_hasRoomFor_31 (by decide) ?_
        exact k_zret (u := ()) hx hb hr hlk w rfl rfl (k_ret1 hf) dX1_hasRoomFor_35
-- X1_canLay
def fX1_canLay  (p_th : Int32) (p_ki : Int32) (p_ca : Nat → Int32) (a1 : Int32) (a2 : Int32) : Option (Int32) := ob (fX4_isKind a2) (fun r1 => (if r1 = 0 then some 0 else ob (fX1_hasRoomFor p_th a1) (fun r3 => (if r3 = 0 then some 0 else ob (fX4_cardsOf a1) (fun r5 => ob (fX1_cardsLeft p_th p_ki p_ca a2) (fun r6 => (if r6 < r5 then some 0 else some 1)))))))
set_option maxRecDepth 100000 in
set_option maxHeartbeats 4000000 in
theorem tX1_canLay (l : Launch) (D : va_G) (cI cZ : ClassId) (b0 : Nat) (tt : Nat → Nat)  (p_a p_c p_d : Nat) (p_th : Int32) (p_ki : Int32) (p_fe : Int32) (p_ca : Nat → Int32) (p_lo : Nat → Int32) (a1 : Int32) (a2 : Int32) {res : Int32} (hf : fX1_canLay p_th p_ki p_ca a1 a2 = some res) : CtI l yX1_canLay (cwX1_canLay :: GW) 2 44 D cI cZ b0 tt [.ref p_a, .int a1, .int a2] (fun _ : Unit => [(p_a, .inr (1, [.int p_th, .int p_ki, .int p_fe, .ref p_c, .ref p_d])), (p_c, .inl (cI, 4, .inl p_ca)), (p_d, .inl (cI, 16, .inl p_lo))]) () (res, ()) := by
  intro sz
  refine k_begin (cc := cX1_canLay) (maxL := 3) (ret := (some .boolean)) (by decide) rfl (Nat.le_of_ble_eq_true rfl) ?_
  intro p e s m below meth c ls C w hl
  generalize va_A _ sz = A at w ⊢
  have w : Wd D cI cZ b0 tt A s [(p_a, .inr (1, [.int p_th, .int p_ki, .int p_fe, .ref p_c, .ref p_d])), (p_c, .inl (cI, 4, .inl p_ca)), (p_d, .inl (cI, 16, .inl p_lo))] s.heap [] := w
  have hl : lv_has ls 3 [(0, .ref p_a), (1, .int a1), (2, .int a2)] := hl
  obtain ⟨H, eH⟩ : ∃ H, H = s.heap := ⟨_, rfl⟩
  rw [← eH] at w ⊢
  generalize ([] : List Loc) = locs at w ⊢
  generalize List.toArray _ = args at C ⊢
  obtain ⟨hx, hb, hr, hml, hown, hts, hlk⟩ := id C
  have hg : ∀ w ∈ GW, w.before args s = true := fun w h => hts w (List.mem_cons_of_mem _ h)
  unfold fX1_canLay at hf
  refine lv_iload_n hx hb dX1_canLay_0 rfl (lv_at hl 2 rfl) ?_
  replace hf := ob_at hf
  obtain ⟨r1, er1, hf⟩ := hf
  refine k_goI0 w [] rfl (va_runSN (As := [.int a2]) (rest := []) ⟨hx, hb, hml, hown, hg⟩ (tX4_isKind l D cI cZ b0 tt a2 er1 H.size) ⟨va_cnB 1 hg (gwN w_153) rfl rfl rfl (k_nm w 7 (q := ("CardHouse$Pile", 50, yX4_isKind)) rfl) (hg _ w_1) qdX4_isKind ⟨Nat.le_of_ble_eq_true rfl, Nat.le_of_ble_eq_true rfl⟩, hg _ w_152, trivial⟩ (k_preS w [] (by decide) rfl) rfl rfl hl.1 rfl (lv_room (Nat.le_of_ble_eq_true rfl)) dX1_canLay_1 ⟨Nat.le_refl _, Nat.le_refl _⟩) (fun H locs w => ?_)
  refine lv_if_eq (tgt := 31) hx hb dX1_canLay_4 (by decide) (fun c2 => ?_) (fun c2 => ?_)
  · replace hf := ite_t c2 hf
    refine lv_iconst (v := 0) hx hb dX1_canLay_31 (by decide) ?_
    exact k_zret (u := ()) hx hb hr hlk w rfl rfl (k_ret1 hf) dX1_canLay_32
  · replace hf := ite_f c2 hf
    refine lv_aload_n hx hb dX1_canLay_7 rfl (lv_at hl 0 rfl) ?_
    refine lv_iload_n hx hb dX1_canLay_8 rfl (lv_at hl 1 rfl) ?_
    replace hf := ob_at hf
    obtain ⟨r3, er3, hf⟩ := hf
    refine k_goI0 w [0, 1, 2] rfl (va_runV (As := [.int a1]) (rest := []) ⟨hx, hb, hml, hown, hg⟩ (tX1_hasRoomFor l D cI cZ b0 tt p_a p_c p_d p_th p_ki p_fe p_ca p_lo a1 er3 H.size) (cwV 1 hg (gwV w_193 w_181 w_182 w_3 w_183) rfl rfl rfl ⟨rfl, qdX1_hasRoomFor⟩ ⟨Nat.le_of_ble_eq_true rfl, Nat.le_of_ble_eq_true rfl⟩) (k_preV w [0, 1, 2] (by decide) rfl (q0 := 0) rfl rfl) rfl rfl hl.1 rfl (lv_room (Nat.le_of_ble_eq_true rfl)) dX1_canLay_9 ⟨Nat.le_refl _, Nat.le_refl _⟩) (fun H locs w => ?_)
    refine lv_if_eq (tgt := 31) hx hb dX1_canLay_12 (by decide) (fun c4 => ?_) (fun c4 => ?_)
    · replace hf := ite_t c4 hf
      refine lv_iconst (v := 0) hx hb dX1_canLay_31 (by decide) ?_
      exact k_zret (u := ()) hx hb hr hlk w rfl rfl (k_ret1 hf) dX1_canLay_32
    · replace hf := ite_f c4 hf
      refine lv_iload_n hx hb dX1_canLay_15 rfl (lv_at hl 1 rfl) ?_
      replace hf := ob_at hf
      obtain ⟨r5, er5, hf⟩ := hf
      refine k_goI0 w [] rfl (va_runSN (As := [.int a1]) (rest := []) ⟨hx, hb, hml, hown, hg⟩ (tX4_cardsOf l D cI cZ b0 tt a1 er5 H.size) ⟨va_cnB 1 hg (gwN w_174) rfl rfl rfl (k_nm w 5 (q := ("CardHouse$Pile", 34, yX4_cardsOf)) rfl) (hg _ w_1) qdX4_cardsOf ⟨Nat.le_of_ble_eq_true rfl, Nat.le_of_ble_eq_true rfl⟩, hg _ w_173, trivial⟩ (k_preS w [] (by decide) rfl) rfl rfl hl.1 rfl (lv_room (Nat.le_of_ble_eq_true rfl)) dX1_canLay_16 ⟨Nat.le_refl _, Nat.le_refl _⟩) (fun H locs w => ?_)
      refine lv_aload_n hx hb dX1_canLay_19 rfl (lv_at hl 0 rfl) ?_
      refine lv_iload_n hx hb dX1_canLay_20 rfl (lv_at hl 2 rfl) ?_
      replace hf := ob_at hf
      obtain ⟨r6, er6, hf⟩ := hf
      refine k_goI0 w [0, 1, 2] rfl (va_runV (As := [.int a2]) (rest := [.int r5]) ⟨hx, hb, hml, hown, hg⟩ (tX1_cardsLeft l D cI cZ b0 tt p_a p_c p_d p_th p_ki p_fe p_ca p_lo a2 er6 H.size) (cwV 1 hg (gwV w_161 w_162 w_163 w_3 w_164) rfl rfl rfl ⟨rfl, qdX1_cardsLeft⟩ ⟨Nat.le_of_ble_eq_true rfl, Nat.le_of_ble_eq_true rfl⟩) (k_preV w [0, 1, 2] (by decide) rfl (q0 := 0) rfl rfl) rfl rfl hl.1 rfl (lv_room (Nat.le_of_ble_eq_true rfl)) dX1_canLay_21 ⟨Nat.le_refl _, Nat.le_refl _⟩) (fun H locs w => ?_)
      refine lv_icmp_gt (tgt := 31) hx hb dX1_canLay_24 (by decide) (fun c7 => ?_) (fun c7 => ?_)
      · replace hf := ite_t c7 hf
        refine lv_iconst (v := 0) hx hb dX1_canLay_31 (by decide) ?_
        exact k_zret (u := ()) hx hb hr hlk w rfl rfl (k_ret1 hf) dX1_canLay_32
      · replace hf := ite_f c7 hf
        refine lv_iconst (v := 1) hx hb dX1_canLay_27 (by decide) ?_
        refine lv_goto (tgt := 32) hx hb dX1_canLay_28 (by decide) ?_
        exact k_zret (u := ()) hx hb hr hlk w rfl rfl (k_ret1 hf) dX1_canLay_32
-- X1_place
def fX1_place  (p_th : Int32) (p_ki : Int32) (a1 : Int32) (a2 : Int32) : Option (Int32 × Int32) := nm (p_th ||| ((1 : Int32) <<< (a1 &&& 31))) (fun z1 => nm ((p_ki &&& (((3 : Int32) <<< (((2 : Int32) * a1) &&& 31)) ^^^ ((-1) : Int32))) ||| (a2 <<< (((2 : Int32) * a1) &&& 31))) (fun z2 => some (z1, z2)))
set_option maxRecDepth 100000 in
set_option maxHeartbeats 4000000 in
theorem tX1_place (l : Launch) (D : va_G) (cI cZ : ClassId) (b0 : Nat) (tt : Nat → Nat)  (p_a p_c p_d : Nat) (p_th : Int32) (p_ki : Int32) (p_fe : Int32) (p_ca : Nat → Int32) (p_lo : Nat → Int32) (a1 : Int32) (a2 : Int32) {res : Int32 × Int32} (hf : fX1_place p_th p_ki a1 a2 = some res) : CtV l yX1_place (cwX1_place :: GW) 0 0 D cI cZ b0 tt [.ref p_a, .int a1, .int a2] (fun u : Int32 × Int32 => [(p_a, .inr (1, [.int u.1, .int u.2, .int p_fe, .ref p_c, .ref p_d])), (p_c, .inl (cI, 4, .inl p_ca)), (p_d, .inl (cI, 16, .inl p_lo))]) (p_th, p_ki) res := by
  intro sz
  refine k_begin (cc := cX1_place) (maxL := 3) (ret := none) (by decide) rfl (Nat.le_of_ble_eq_true rfl) ?_
  intro p e s m below meth c ls C w hl
  generalize va_A _ sz = A at w ⊢
  have w : Wd D cI cZ b0 tt A s [(p_a, .inr (1, [.int p_th, .int p_ki, .int p_fe, .ref p_c, .ref p_d])), (p_c, .inl (cI, 4, .inl p_ca)), (p_d, .inl (cI, 16, .inl p_lo))] s.heap [] := w
  have hl : lv_has ls 3 [(0, .ref p_a), (1, .int a1), (2, .int a2)] := hl
  obtain ⟨H, eH⟩ : ∃ H, H = s.heap := ⟨_, rfl⟩
  rw [← eH] at w ⊢
  generalize ([] : List Loc) = locs at w ⊢
  generalize List.toArray _ = args at C ⊢
  obtain ⟨hx, hb, hr, hml, hown, hts, hlk⟩ := id C
  have hg : ∀ w ∈ GW, w.before args s = true := fun w h => hts w (List.mem_cons_of_mem _ h)
  unfold fX1_place at hf
  refine lv_aload_n hx hb dX1_place_0 rfl (lv_at hl 0 rfl) ?_
  refine lv_dup hx hb dX1_place_1 rfl ?_
  refine va_get (D := D) (ci := 1) (v := .int p_th) (C := RX1) (T := TX1) (N := 5) hx hb hg iX1 hown w.2.2.2.2.2.2.1 w.1 0 rfl rfl 0 (by decide) (hg _ w_35) (fun _ h9 => h9) rfl dX1_place_2 ?_
  refine lv_iconst (v := 1) hx hb dX1_place_5 (by decide) ?_
  refine lv_iload_n hx hb dX1_place_6 rfl (lv_at hl 1 rfl) ?_
  refine lv_ishl hx hb dX1_place_7 ?_
  refine lv_ior hx hb dX1_place_8 ?_
  refine lv_topi (fun z1 ez1 => ?_)
  replace hf := nm_at ez1 hf
  refine k_put (ci := 1) (v := .int z1) (ty := .int) (C := RX1) (T := TX1) (N := 5) hx hb hg iX1 tyX1 tyX1_ok nmX1 hown w 0 rfl rfl 0 (by decide) (hg _ w_35) (fun _ h9 => h9) rfl pd_I rfl rfl (Nat.le_of_ble_eq_true rfl) dX1_place_9 (fun H locs w => ?_)
  have w : Wd D cI cZ b0 tt A s [(p_a, .inr (1, [.int z1, .int p_ki, .int p_fe, .ref p_c, .ref p_d])), (p_c, .inl (cI, 4, .inl p_ca)), (p_d, .inl (cI, 16, .inl p_lo))] H locs := w
  refine lv_aload_n hx hb dX1_place_12 rfl (lv_at hl 0 rfl) ?_
  refine lv_aload_n hx hb dX1_place_13 rfl (lv_at hl 0 rfl) ?_
  refine va_get (D := D) (ci := 1) (v := .int p_ki) (C := RX1) (T := TX1) (N := 5) hx hb hg iX1 hown w.2.2.2.2.2.2.1 w.1 0 rfl rfl 1 (by decide) (hg _ w_36) (fun _ h9 => h9) rfl dX1_place_14 ?_
  refine lv_iconst (v := 3) hx hb dX1_place_17 (by decide) ?_
  refine lv_iconst (v := 2) hx hb dX1_place_18 (by decide) ?_
  refine lv_iload_n hx hb dX1_place_19 rfl (lv_at hl 1 rfl) ?_
  refine lv_imul hx hb dX1_place_20 ?_
  refine lv_ishl hx hb dX1_place_21 ?_
  refine lv_iconst (v := (-1)) hx hb dX1_place_22 (by decide) ?_
  refine lv_ixor hx hb dX1_place_23 ?_
  refine lv_iand hx hb dX1_place_24 ?_
  refine lv_iload_n hx hb dX1_place_25 rfl (lv_at hl 2 rfl) ?_
  refine lv_iconst (v := 2) hx hb dX1_place_26 (by decide) ?_
  refine lv_iload_n hx hb dX1_place_27 rfl (lv_at hl 1 rfl) ?_
  refine lv_imul hx hb dX1_place_28 ?_
  refine lv_ishl hx hb dX1_place_29 ?_
  refine lv_ior hx hb dX1_place_30 ?_
  refine lv_topi (fun z2 ez2 => ?_)
  replace hf := nm_at ez2 hf
  refine k_put (ci := 1) (v := .int z2) (ty := .int) (C := RX1) (T := TX1) (N := 5) hx hb hg iX1 tyX1 tyX1_ok nmX1 hown w 0 rfl rfl 1 (by decide) (hg _ w_36) (fun _ h9 => h9) rfl pd_I rfl rfl (Nat.le_of_ble_eq_true rfl) dX1_place_31 (fun H locs w => ?_)
  have w : Wd D cI cZ b0 tt A s [(p_a, .inr (1, [.int z1, .int z2, .int p_fe, .ref p_c, .ref p_d])), (p_c, .inl (cI, 4, .inl p_ca)), (p_d, .inl (cI, 16, .inl p_lo))] H locs := w
  exact k_vret (u := (z1, z2)) hx hb hr hlk w rfl hf dX1_place_34
-- X1_weigh
def fX1_weigh_L24   (p_th : Int32) (p_ki : Int32) : Nat → Int32 → (Nat → Int32) → Option ((Nat → Int32))
  | 0, _, _ => none
  | n + 1, v1, p_lo => (if v1 < 0 then some p_lo else ob (fX1_has p_th v1) (fun r2 => (if r2 = 0 then nm (v1 + (-1)) (fun z4 => fX1_weigh_L24 p_th p_ki n z4 p_lo) else ob (fX1_weightOf p_ki v1) (fun r5 => gd v1 16 (nm (r5 + (p_lo (Int32.toNatClampNeg v1))) (fun z7 => gd v1 16 (nm (sLU (Int32.toNatClampNeg v1)) (fun z9 => gd v1 16 (nm (sRU (Int32.toNatClampNeg v1)) (fun z11 => ob (fX4_isPiece z11) (fun r12 => (if r12 = 0 then ob (fX4_isPiece z9) (fun r14 => (if r14 = 0 then ob (fX4_isPiece z11) (fun r16 => (if r16 = 0 then nm (v1 + (-1)) (fun z18 => fX1_weigh_L24 p_th p_ki n z18 p_lo) else gd z11 16 (nm ((p_lo (Int32.toNatClampNeg z11)) + z7) (fun z20 => gd z11 16 (nm (v1 + (-1)) (fun z22 => fX1_weigh_L24 p_th p_ki n z22 (upd p_lo (Int32.toNatClampNeg z11) z20))))))) else gd z9 16 (nm ((p_lo (Int32.toNatClampNeg z9)) + z7) (fun z24 => gd z9 16 (ob (fX4_isPiece z11) (fun r26 => (if r26 = 0 then nm (v1 + (-1)) (fun z28 => fX1_weigh_L24 p_th p_ki n z28 (upd p_lo (Int32.toNatClampNeg z9) z24)) else gd z11 16 (nm (((upd p_lo (Int32.toNatClampNeg z9) z24) (Int32.toNatClampNeg z11)) + z7) (fun z30 => gd z11 16 (nm (v1 + (-1)) (fun z32 => fX1_weigh_L24 p_th p_ki n z32 (upd (upd p_lo (Int32.toNatClampNeg z9) z24) (Int32.toNatClampNeg z11) z30)))))))))))) else nm (z7 / (2 : Int32)) (fun z33 => ob (fX4_isPiece z9) (fun r34 => (if r34 = 0 then ob (fX4_isPiece z11) (fun r36 => (if r36 = 0 then nm (v1 + (-1)) (fun z38 => fX1_weigh_L24 p_th p_ki n z38 p_lo) else gd z11 16 (nm ((p_lo (Int32.toNatClampNeg z11)) + z33) (fun z40 => gd z11 16 (nm (v1 + (-1)) (fun z42 => fX1_weigh_L24 p_th p_ki n z42 (upd p_lo (Int32.toNatClampNeg z11) z40))))))) else gd z9 16 (nm ((p_lo (Int32.toNatClampNeg z9)) + z33) (fun z44 => gd z9 16 (ob (fX4_isPiece z11) (fun r46 => (if r46 = 0 then nm (v1 + (-1)) (fun z48 => fX1_weigh_L24 p_th p_ki n z48 (upd p_lo (Int32.toNatClampNeg z9) z44)) else gd z11 16 (nm (((upd p_lo (Int32.toNatClampNeg z9) z44) (Int32.toNatClampNeg z11)) + z33) (fun z50 => gd z11 16 (nm (v1 + (-1)) (fun z52 => fX1_weigh_L24 p_th p_ki n z52 (upd (upd p_lo (Int32.toNatClampNeg z9) z44) (Int32.toNatClampNeg z11) z50)))))))))))))))))))))))))
set_option maxRecDepth 100000 in
set_option maxHeartbeats 4000000 in
theorem tX1_weigh_L24 {p : Program} {l : Launch} {e : Env} {s : State} {m : MethodId} {args : Array Value} {below : List Frame} {meth : Method} {c : Code} {D : va_G} {cI cZ : ClassId} {b0 : Nat} {tt : Nat → Nat} {A : Nat → Prop}  {p_a p_c p_d : Nat}  {p_th : Int32} {p_ki : Int32} {p_fe : Int32} {p_ca : Nat → Int32} {res : (Nat → Int32)} (C : Cx p s m args meth c cX1_weigh 6 none (cwX1_weigh :: GW) RX1) : ∀ (n : Nat) (v1 : Int32) (p_lo : Nat → Int32) (H : Heap) (locs : List Loc) (ls : Array Slot), fX1_weigh_L24 p_th p_ki n v1 p_lo = some res → Wd D cI cZ b0 tt A s [(p_a, .inr (1, [.int p_th, .int p_ki, .int p_fe, .ref p_c, .ref p_d])), (p_c, .inl (cI, 4, .inl p_ca)), (p_d, .inl (cI, 16, .inl p_lo))] H locs → lv_has ls 6 [(0, .ref p_a), (1, .int v1)] → W p l e (rmo 2 42) s m args below meth c H locs 0 0 (MQ below (QV D (fun u : (Nat → Int32) => [(p_a, .inr (1, [.int p_th, .int p_ki, .int p_fe, .ref p_c, .ref p_d])), (p_c, .inl (cI, 4, .inl p_ca)), (p_d, .inl (cI, 16, .inl u))]) A res) args s 0 0 A) (F0 m 24 ls []) := by
  obtain ⟨hx, hb, hr, hml, hown, hts, hlk⟩ := id C
  have hg : ∀ w ∈ GW, w.before args s = true := fun w h => hts w (List.mem_cons_of_mem _ h)
  intro n
  induction n with
  | zero =>
    intro _ _ H locs ls hf
    rw [fX1_weigh_L24] at hf
    cases hf
  | succ n ih =>
    intro v1 p_lo H locs ls hf w hl
    rw [fX1_weigh_L24] at hf
    refine lv_iload_n hx hb dX1_weigh_24 rfl (lv_at hl 1 rfl) ?_
    refine lv_if_lt (tgt := 123) hx hb dX1_weigh_25 (by decide) (fun c1 => ?_) (fun c1 => ?_)
    · replace hf := ite_t c1 hf
      exact k_vret (u := p_lo) hx hb hr hlk w rfl hf dX1_weigh_123
    · replace hf := ite_f c1 hf
      refine lv_aload_n hx hb dX1_weigh_28 rfl (lv_at hl 0 rfl) ?_
      refine lv_iload_n hx hb dX1_weigh_29 rfl (lv_at hl 1 rfl) ?_
      replace hf := ob_at hf
      obtain ⟨r2, er2, hf⟩ := hf
      refine k_goI0 w [0, 1, 2] rfl (va_runV (As := [.int v1]) (rest := []) ⟨hx, hb, hml, hown, hg⟩ (tX1_has l D cI cZ b0 tt p_a p_c p_d p_th p_ki p_fe p_ca p_lo v1 er2 H.size) (cwV 1 hg (gwV w_165 w_166 w_167 w_3 w_168) rfl rfl rfl ⟨rfl, qdX1_has⟩ ⟨Nat.le_of_ble_eq_true rfl, Nat.le_of_ble_eq_true rfl⟩) (k_preV w [0, 1, 2] (by decide) rfl (q0 := 0) rfl rfl) rfl rfl hl.1 rfl (lv_room (Nat.le_of_ble_eq_true rfl)) dX1_weigh_30 ⟨Nat.le_refl _, Nat.le_refl _⟩) (fun H locs w => ?_)
      refine lv_if_eq (tgt := 117) hx hb dX1_weigh_33 (by decide) (fun c3 => ?_) (fun c3 => ?_)
      · replace hf := ite_t c3 hf
        obtain ⟨z4, ez4⟩ : ∃ y : Int32, y = (v1 + (-1)) := ⟨_, rfl⟩
        replace hf := nm_at ez4 hf
        refine lv_iinc (v := z4) (lv' := [(1, .int z4), (0, .ref p_a)]) hx hb dX1_weigh_117 hl (k := 1) rfl (by rw [ez4]; rfl) (by decide) rfl (fun ls hl => ?_)
        refine lv_goto (tgt := 24) hx hb dX1_weigh_120 (by decide) ?_
        exact ih z4 p_lo H locs ls hf w (lv_sub hl [1, 0] rfl)
      · replace hf := ite_f c3 hf
        refine lv_aload_n hx hb dX1_weigh_36 rfl (lv_at hl 0 rfl) ?_
        refine lv_iload_n hx hb dX1_weigh_37 rfl (lv_at hl 1 rfl) ?_
        replace hf := ob_at hf
        obtain ⟨r5, er5, hf⟩ := hf
        refine k_goI0 w [0, 1, 2] rfl (va_runV (As := [.int v1]) (rest := []) ⟨hx, hb, hml, hown, hg⟩ (tX1_weightOf l D cI cZ b0 tt p_a p_c p_d p_th p_ki p_fe p_ca p_lo v1 er5 H.size) (cwV 1 hg (gwV w_209 w_210 w_211 w_3 w_212) rfl rfl rfl ⟨rfl, qdX1_weightOf⟩ ⟨Nat.le_of_ble_eq_true rfl, Nat.le_of_ble_eq_true rfl⟩) (k_preV w [0, 1, 2] (by decide) rfl (q0 := 0) rfl rfl) rfl rfl hl.1 rfl (lv_room (Nat.le_of_ble_eq_true rfl)) dX1_weigh_38 ⟨Nat.le_refl _, Nat.le_refl _⟩) (fun H locs w => ?_)
        refine lv_aload_n hx hb dX1_weigh_41 rfl (lv_at hl 0 rfl) ?_
        refine va_get (D := D) (ci := 1) (v := .ref p_d) (C := RX1) (T := TX1) (N := 5) hx hb hg iX1 hown w.2.2.2.2.2.2.1 w.1 0 rfl rfl 4 (by decide) (hg _ w_39) (fun _ h9 => h9) rfl dX1_weigh_42 ?_
        refine lv_iload_n hx hb dX1_weigh_45 rfl (lv_at hl 1 rfl) ?_
        replace hf := gd_at hf
        obtain ⟨hi6, hf⟩ := hf
        refine va_iald hx hb w.2.2.2.2.2.2.1 w.1 2 0 rfl rfl hi6 dX1_weigh_46 ?_
        refine lv_iadd hx hb dX1_weigh_47 ?_
        refine lv_topi (fun z7 ez7 => ?_)
        replace hf := nm_at ez7 hf
        refine lv_istore_n (lv' := [(2, .int z7), (0, .ref p_a), (1, .int v1)]) hx hb dX1_weigh_48 rfl hl (by decide) rfl (fun ls hl => ?_)
        refine va_getsN hx hb (k_Z w w.2.2.2.2.2.2.2.1.2.1).1 w.2.2.1 hown (k_nf w 5 (q := ("CardHouse$Pile", 129, "CardHouse", "LEFT_UNDER", "[I")) rfl) (fun _ h9 => h9) dX1_weigh_49 ?_
        refine lv_iload_n hx hb dX1_weigh_52 rfl (lv_at hl 2 rfl) ?_
        replace hf := gd_at hf
        obtain ⟨hi8, hf⟩ := hf
        refine va_ti hx hb (k_Z w w.2.2.2.2.2.2.2.1.2.1).2 w.2.2.1 hi8 (v := .int (sLU (Int32.toNatClampNeg v1))) rfl dX1_weigh_53 ?_
        refine lv_topi (fun z9 ez9 => ?_)
        replace hf := nm_at ez9 hf
        refine lv_istore_n (lv' := [(3, .int z9), (2, .int z7), (0, .ref p_a), (1, .int v1)]) hx hb dX1_weigh_54 rfl hl (by decide) rfl (fun ls hl => ?_)
        refine va_getsN hx hb (k_Z w w.2.2.2.2.2.2.2.1.2.2.1).1 w.2.2.1 hown (k_nf w 6 (q := ("CardHouse$Pile", 132, "CardHouse", "RIGHT_UNDER", "[I")) rfl) (fun _ h9 => h9) dX1_weigh_55 ?_
        refine lv_iload_n hx hb dX1_weigh_58 rfl (lv_at hl 3 rfl) ?_
        replace hf := gd_at hf
        obtain ⟨hi10, hf⟩ := hf
        refine va_ti hx hb (k_Z w w.2.2.2.2.2.2.2.1.2.2.1).2 w.2.2.1 hi10 (v := .int (sRU (Int32.toNatClampNeg v1))) rfl dX1_weigh_59 ?_
        refine lv_topi (fun z11 ez11 => ?_)
        replace hf := nm_at ez11 hf
        refine lv_istore (lv' := [(4, .int z11), (3, .int z9), (2, .int z7), (0, .ref p_a), (1, .int v1)]) hx hb dX1_weigh_60 hl (by decide) rfl (fun ls hl => ?_)
        refine lv_iload hx hb dX1_weigh_62 (lv_at hl 0 rfl) ?_
        replace hf := ob_at hf
        obtain ⟨r12, er12, hf⟩ := hf
        refine k_goI0 w [] rfl (va_runSN (As := [.int z11]) (rest := []) ⟨hx, hb, hml, hown, hg⟩ (tX4_isPiece l D cI cZ b0 tt z11 er12 H.size) ⟨va_cnB 1 hg (gwN w_185) rfl rfl rfl (k_nm w 8 (q := ("CardHouse$Pile", 62, yX4_isPiece)) rfl) (hg _ w_1) qdX4_isPiece ⟨Nat.le_of_ble_eq_true rfl, Nat.le_of_ble_eq_true rfl⟩, hg _ w_184, trivial⟩ (k_preS w [] (by decide) rfl) rfl rfl hl.1 rfl (lv_room (Nat.le_of_ble_eq_true rfl)) dX1_weigh_64 ⟨Nat.le_refl _, Nat.le_refl _⟩) (fun H locs w => ?_)
        refine lv_if_eq (tgt := 76) hx hb dX1_weigh_67 (by decide) (fun c13 => ?_) (fun c13 => ?_)
        · replace hf := ite_t c13 hf
          refine lv_iload_n hx hb dX1_weigh_76 rfl (lv_at hl 2 rfl) ?_
          refine lv_istore (lv' := [(5, .int z7), (4, .int z11), (3, .int z9), (2, .int z7), (0, .ref p_a), (1, .int v1)]) hx hb dX1_weigh_77 hl (by decide) rfl (fun ls hl => ?_)
          refine lv_iload_n hx hb dX1_weigh_79 rfl (lv_at hl 2 rfl) ?_
          replace hf := ob_at hf
          obtain ⟨r14, er14, hf⟩ := hf
          refine k_goI0 w [] rfl (va_runSN (As := [.int z9]) (rest := []) ⟨hx, hb, hml, hown, hg⟩ (tX4_isPiece l D cI cZ b0 tt z9 er14 H.size) ⟨va_cnB 1 hg (gwN w_185) rfl rfl rfl (k_nm w 8 (q := ("CardHouse$Pile", 62, yX4_isPiece)) rfl) (hg _ w_1) qdX4_isPiece ⟨Nat.le_of_ble_eq_true rfl, Nat.le_of_ble_eq_true rfl⟩, hg _ w_184, trivial⟩ (k_preS w [] (by decide) rfl) rfl rfl hl.1 rfl (lv_room (Nat.le_of_ble_eq_true rfl)) dX1_weigh_80 ⟨Nat.le_refl _, Nat.le_refl _⟩) (fun H locs w => ?_)
          refine lv_if_eq (tgt := 97) hx hb dX1_weigh_83 (by decide) (fun c15 => ?_) (fun c15 => ?_)
          · replace hf := ite_t c15 hf
            refine lv_iload hx hb dX1_weigh_97 (lv_at hl 1 rfl) ?_
            replace hf := ob_at hf
            obtain ⟨r16, er16, hf⟩ := hf
            refine k_goI0 w [] rfl (va_runSN (As := [.int z11]) (rest := []) ⟨hx, hb, hml, hown, hg⟩ (tX4_isPiece l D cI cZ b0 tt z11 er16 H.size) ⟨va_cnB 1 hg (gwN w_185) rfl rfl rfl (k_nm w 8 (q := ("CardHouse$Pile", 62, yX4_isPiece)) rfl) (hg _ w_1) qdX4_isPiece ⟨Nat.le_of_ble_eq_true rfl, Nat.le_of_ble_eq_true rfl⟩, hg _ w_184, trivial⟩ (k_preS w [] (by decide) rfl) rfl rfl hl.1 rfl (lv_room (Nat.le_of_ble_eq_true rfl)) dX1_weigh_99 ⟨Nat.le_refl _, Nat.le_refl _⟩) (fun H locs w => ?_)
            refine lv_if_eq (tgt := 117) hx hb dX1_weigh_102 (by decide) (fun c17 => ?_) (fun c17 => ?_)
            · replace hf := ite_t c17 hf
              obtain ⟨z18, ez18⟩ : ∃ y : Int32, y = (v1 + (-1)) := ⟨_, rfl⟩
              replace hf := nm_at ez18 hf
              refine lv_iinc (v := z18) (lv' := [(1, .int z18), (5, .int z7), (4, .int z11), (3, .int z9), (2, .int z7), (0, .ref p_a)]) hx hb dX1_weigh_117 hl (k := 5) rfl (by rw [ez18]; rfl) (by decide) rfl (fun ls hl => ?_)
              refine lv_goto (tgt := 24) hx hb dX1_weigh_120 (by decide) ?_
              exact ih z18 p_lo H locs ls hf w (lv_sub hl [5, 0] rfl)
            · replace hf := ite_f c17 hf
              refine lv_aload_n hx hb dX1_weigh_105 rfl (lv_at hl 4 rfl) ?_
              refine va_get (D := D) (ci := 1) (v := .ref p_d) (C := RX1) (T := TX1) (N := 5) hx hb hg iX1 hown w.2.2.2.2.2.2.1 w.1 0 rfl rfl 4 (by decide) (hg _ w_39) (fun _ h9 => h9) rfl dX1_weigh_106 ?_
              refine lv_iload hx hb dX1_weigh_109 (lv_at hl 1 rfl) ?_
              refine lv_dup2_11 hx hb dX1_weigh_111 rfl rfl ?_
              replace hf := gd_at hf
              obtain ⟨hi19, hf⟩ := hf
              refine va_iald hx hb w.2.2.2.2.2.2.1 w.1 2 0 rfl rfl hi19 dX1_weigh_112 ?_
              refine lv_iload hx hb dX1_weigh_113 (lv_at hl 0 rfl) ?_
              refine lv_iadd hx hb dX1_weigh_115 ?_
              refine lv_topi (fun z20 ez20 => ?_)
              replace hf := nm_at ez20 hf
              replace hf := gd_at hf
              obtain ⟨hi21, hf⟩ := hf
              refine k_iast hx hb w 2 rfl hi21 dX1_weigh_116 (fun H locs w => ?_)
              have w : Wd D cI cZ b0 tt A s [(p_a, .inr (1, [.int p_th, .int p_ki, .int p_fe, .ref p_c, .ref p_d])), (p_c, .inl (cI, 4, .inl p_ca)), (p_d, .inl (cI, 16, .inl (upd p_lo (Int32.toNatClampNeg z11) z20)))] H locs := w
              obtain ⟨z22, ez22⟩ : ∃ y : Int32, y = (v1 + (-1)) := ⟨_, rfl⟩
              replace hf := nm_at ez22 hf
              refine lv_iinc (v := z22) (lv' := [(1, .int z22), (5, .int z7), (4, .int z11), (3, .int z9), (2, .int z7), (0, .ref p_a)]) hx hb dX1_weigh_117 hl (k := 5) rfl (by rw [ez22]; rfl) (by decide) rfl (fun ls hl => ?_)
              refine lv_goto (tgt := 24) hx hb dX1_weigh_120 (by decide) ?_
              exact ih z22 (upd p_lo (Int32.toNatClampNeg z11) z20) H locs ls hf w (lv_sub hl [5, 0] rfl)
          · replace hf := ite_f c15 hf
            refine lv_aload_n hx hb dX1_weigh_86 rfl (lv_at hl 4 rfl) ?_
            refine va_get (D := D) (ci := 1) (v := .ref p_d) (C := RX1) (T := TX1) (N := 5) hx hb hg iX1 hown w.2.2.2.2.2.2.1 w.1 0 rfl rfl 4 (by decide) (hg _ w_39) (fun _ h9 => h9) rfl dX1_weigh_87 ?_
            refine lv_iload_n hx hb dX1_weigh_90 rfl (lv_at hl 2 rfl) ?_
            refine lv_dup2_11 hx hb dX1_weigh_91 rfl rfl ?_
            replace hf := gd_at hf
            obtain ⟨hi23, hf⟩ := hf
            refine va_iald hx hb w.2.2.2.2.2.2.1 w.1 2 0 rfl rfl hi23 dX1_weigh_92 ?_
            refine lv_iload hx hb dX1_weigh_93 (lv_at hl 0 rfl) ?_
            refine lv_iadd hx hb dX1_weigh_95 ?_
            refine lv_topi (fun z24 ez24 => ?_)
            replace hf := nm_at ez24 hf
            replace hf := gd_at hf
            obtain ⟨hi25, hf⟩ := hf
            refine k_iast hx hb w 2 rfl hi25 dX1_weigh_96 (fun H locs w => ?_)
            have w : Wd D cI cZ b0 tt A s [(p_a, .inr (1, [.int p_th, .int p_ki, .int p_fe, .ref p_c, .ref p_d])), (p_c, .inl (cI, 4, .inl p_ca)), (p_d, .inl (cI, 16, .inl (upd p_lo (Int32.toNatClampNeg z9) z24)))] H locs := w
            refine lv_iload hx hb dX1_weigh_97 (lv_at hl 1 rfl) ?_
            replace hf := ob_at hf
            obtain ⟨r26, er26, hf⟩ := hf
            refine k_goI0 w [] rfl (va_runSN (As := [.int z11]) (rest := []) ⟨hx, hb, hml, hown, hg⟩ (tX4_isPiece l D cI cZ b0 tt z11 er26 H.size) ⟨va_cnB 1 hg (gwN w_185) rfl rfl rfl (k_nm w 8 (q := ("CardHouse$Pile", 62, yX4_isPiece)) rfl) (hg _ w_1) qdX4_isPiece ⟨Nat.le_of_ble_eq_true rfl, Nat.le_of_ble_eq_true rfl⟩, hg _ w_184, trivial⟩ (k_preS w [] (by decide) rfl) rfl rfl hl.1 rfl (lv_room (Nat.le_of_ble_eq_true rfl)) dX1_weigh_99 ⟨Nat.le_refl _, Nat.le_refl _⟩) (fun H locs w => ?_)
            refine lv_if_eq (tgt := 117) hx hb dX1_weigh_102 (by decide) (fun c27 => ?_) (fun c27 => ?_)
            · replace hf := ite_t c27 hf
              obtain ⟨z28, ez28⟩ : ∃ y : Int32, y = (v1 + (-1)) := ⟨_, rfl⟩
              replace hf := nm_at ez28 hf
              refine lv_iinc (v := z28) (lv' := [(1, .int z28), (5, .int z7), (4, .int z11), (3, .int z9), (2, .int z7), (0, .ref p_a)]) hx hb dX1_weigh_117 hl (k := 5) rfl (by rw [ez28]; rfl) (by decide) rfl (fun ls hl => ?_)
              refine lv_goto (tgt := 24) hx hb dX1_weigh_120 (by decide) ?_
              exact ih z28 (upd p_lo (Int32.toNatClampNeg z9) z24) H locs ls hf w (lv_sub hl [5, 0] rfl)
            · replace hf := ite_f c27 hf
              refine lv_aload_n hx hb dX1_weigh_105 rfl (lv_at hl 4 rfl) ?_
              refine va_get (D := D) (ci := 1) (v := .ref p_d) (C := RX1) (T := TX1) (N := 5) hx hb hg iX1 hown w.2.2.2.2.2.2.1 w.1 0 rfl rfl 4 (by decide) (hg _ w_39) (fun _ h9 => h9) rfl dX1_weigh_106 ?_
              refine lv_iload hx hb dX1_weigh_109 (lv_at hl 1 rfl) ?_
              refine lv_dup2_11 hx hb dX1_weigh_111 rfl rfl ?_
              replace hf := gd_at hf
              obtain ⟨hi29, hf⟩ := hf
              refine va_iald hx hb w.2.2.2.2.2.2.1 w.1 2 0 rfl rfl hi29 dX1_weigh_112 ?_
              refine lv_iload hx hb dX1_weigh_113 (lv_at hl 0 rfl) ?_
              refine lv_iadd hx hb dX1_weigh_115 ?_
              refine lv_topi (fun z30 ez30 => ?_)
              replace hf := nm_at ez30 hf
              replace hf := gd_at hf
              obtain ⟨hi31, hf⟩ := hf
              refine k_iast hx hb w 2 rfl hi31 dX1_weigh_116 (fun H locs w => ?_)
              have w : Wd D cI cZ b0 tt A s [(p_a, .inr (1, [.int p_th, .int p_ki, .int p_fe, .ref p_c, .ref p_d])), (p_c, .inl (cI, 4, .inl p_ca)), (p_d, .inl (cI, 16, .inl (upd (upd p_lo (Int32.toNatClampNeg z9) z24) (Int32.toNatClampNeg z11) z30)))] H locs := w
              obtain ⟨z32, ez32⟩ : ∃ y : Int32, y = (v1 + (-1)) := ⟨_, rfl⟩
              replace hf := nm_at ez32 hf
              refine lv_iinc (v := z32) (lv' := [(1, .int z32), (5, .int z7), (4, .int z11), (3, .int z9), (2, .int z7), (0, .ref p_a)]) hx hb dX1_weigh_117 hl (k := 5) rfl (by rw [ez32]; rfl) (by decide) rfl (fun ls hl => ?_)
              refine lv_goto (tgt := 24) hx hb dX1_weigh_120 (by decide) ?_
              exact ih z32 (upd (upd p_lo (Int32.toNatClampNeg z9) z24) (Int32.toNatClampNeg z11) z30) H locs ls hf w (lv_sub hl [5, 0] rfl)
        · replace hf := ite_f c13 hf
          refine lv_iload_n hx hb dX1_weigh_70 rfl (lv_at hl 2 rfl) ?_
          refine lv_iconst (v := 2) hx hb dX1_weigh_71 (by decide) ?_
          refine lv_idiv hx hb dX1_weigh_72 (by decide) ?_
          refine lv_goto (tgt := 77) hx hb dX1_weigh_73 (by decide) ?_
          refine lv_topi (fun z33 ez33 => ?_)
          replace hf := nm_at ez33 hf
          refine lv_istore (lv' := [(5, .int z33), (4, .int z11), (3, .int z9), (2, .int z7), (0, .ref p_a), (1, .int v1)]) hx hb dX1_weigh_77 hl (by decide) rfl (fun ls hl => ?_)
          refine lv_iload_n hx hb dX1_weigh_79 rfl (lv_at hl 2 rfl) ?_
          replace hf := ob_at hf
          obtain ⟨r34, er34, hf⟩ := hf
          refine k_goI0 w [] rfl (va_runSN (As := [.int z9]) (rest := []) ⟨hx, hb, hml, hown, hg⟩ (tX4_isPiece l D cI cZ b0 tt z9 er34 H.size) ⟨va_cnB 1 hg (gwN w_185) rfl rfl rfl (k_nm w 8 (q := ("CardHouse$Pile", 62, yX4_isPiece)) rfl) (hg _ w_1) qdX4_isPiece ⟨Nat.le_of_ble_eq_true rfl, Nat.le_of_ble_eq_true rfl⟩, hg _ w_184, trivial⟩ (k_preS w [] (by decide) rfl) rfl rfl hl.1 rfl (lv_room (Nat.le_of_ble_eq_true rfl)) dX1_weigh_80 ⟨Nat.le_refl _, Nat.le_refl _⟩) (fun H locs w => ?_)
          refine lv_if_eq (tgt := 97) hx hb dX1_weigh_83 (by decide) (fun c35 => ?_) (fun c35 => ?_)
          · replace hf := ite_t c35 hf
            refine lv_iload hx hb dX1_weigh_97 (lv_at hl 1 rfl) ?_
            replace hf := ob_at hf
            obtain ⟨r36, er36, hf⟩ := hf
            refine k_goI0 w [] rfl (va_runSN (As := [.int z11]) (rest := []) ⟨hx, hb, hml, hown, hg⟩ (tX4_isPiece l D cI cZ b0 tt z11 er36 H.size) ⟨va_cnB 1 hg (gwN w_185) rfl rfl rfl (k_nm w 8 (q := ("CardHouse$Pile", 62, yX4_isPiece)) rfl) (hg _ w_1) qdX4_isPiece ⟨Nat.le_of_ble_eq_true rfl, Nat.le_of_ble_eq_true rfl⟩, hg _ w_184, trivial⟩ (k_preS w [] (by decide) rfl) rfl rfl hl.1 rfl (lv_room (Nat.le_of_ble_eq_true rfl)) dX1_weigh_99 ⟨Nat.le_refl _, Nat.le_refl _⟩) (fun H locs w => ?_)
            refine lv_if_eq (tgt := 117) hx hb dX1_weigh_102 (by decide) (fun c37 => ?_) (fun c37 => ?_)
            · replace hf := ite_t c37 hf
              obtain ⟨z38, ez38⟩ : ∃ y : Int32, y = (v1 + (-1)) := ⟨_, rfl⟩
              replace hf := nm_at ez38 hf
              refine lv_iinc (v := z38) (lv' := [(1, .int z38), (5, .int z33), (4, .int z11), (3, .int z9), (2, .int z7), (0, .ref p_a)]) hx hb dX1_weigh_117 hl (k := 5) rfl (by rw [ez38]; rfl) (by decide) rfl (fun ls hl => ?_)
              refine lv_goto (tgt := 24) hx hb dX1_weigh_120 (by decide) ?_
              exact ih z38 p_lo H locs ls hf w (lv_sub hl [5, 0] rfl)
            · replace hf := ite_f c37 hf
              refine lv_aload_n hx hb dX1_weigh_105 rfl (lv_at hl 4 rfl) ?_
              refine va_get (D := D) (ci := 1) (v := .ref p_d) (C := RX1) (T := TX1) (N := 5) hx hb hg iX1 hown w.2.2.2.2.2.2.1 w.1 0 rfl rfl 4 (by decide) (hg _ w_39) (fun _ h9 => h9) rfl dX1_weigh_106 ?_
              refine lv_iload hx hb dX1_weigh_109 (lv_at hl 1 rfl) ?_
              refine lv_dup2_11 hx hb dX1_weigh_111 rfl rfl ?_
              replace hf := gd_at hf
              obtain ⟨hi39, hf⟩ := hf
              refine va_iald hx hb w.2.2.2.2.2.2.1 w.1 2 0 rfl rfl hi39 dX1_weigh_112 ?_
              refine lv_iload hx hb dX1_weigh_113 (lv_at hl 0 rfl) ?_
              refine lv_iadd hx hb dX1_weigh_115 ?_
              refine lv_topi (fun z40 ez40 => ?_)
              replace hf := nm_at ez40 hf
              replace hf := gd_at hf
              obtain ⟨hi41, hf⟩ := hf
              refine k_iast hx hb w 2 rfl hi41 dX1_weigh_116 (fun H locs w => ?_)
              have w : Wd D cI cZ b0 tt A s [(p_a, .inr (1, [.int p_th, .int p_ki, .int p_fe, .ref p_c, .ref p_d])), (p_c, .inl (cI, 4, .inl p_ca)), (p_d, .inl (cI, 16, .inl (upd p_lo (Int32.toNatClampNeg z11) z40)))] H locs := w
              obtain ⟨z42, ez42⟩ : ∃ y : Int32, y = (v1 + (-1)) := ⟨_, rfl⟩
              replace hf := nm_at ez42 hf
              refine lv_iinc (v := z42) (lv' := [(1, .int z42), (5, .int z33), (4, .int z11), (3, .int z9), (2, .int z7), (0, .ref p_a)]) hx hb dX1_weigh_117 hl (k := 5) rfl (by rw [ez42]; rfl) (by decide) rfl (fun ls hl => ?_)
              refine lv_goto (tgt := 24) hx hb dX1_weigh_120 (by decide) ?_
              exact ih z42 (upd p_lo (Int32.toNatClampNeg z11) z40) H locs ls hf w (lv_sub hl [5, 0] rfl)
          · replace hf := ite_f c35 hf
            refine lv_aload_n hx hb dX1_weigh_86 rfl (lv_at hl 4 rfl) ?_
            refine va_get (D := D) (ci := 1) (v := .ref p_d) (C := RX1) (T := TX1) (N := 5) hx hb hg iX1 hown w.2.2.2.2.2.2.1 w.1 0 rfl rfl 4 (by decide) (hg _ w_39) (fun _ h9 => h9) rfl dX1_weigh_87 ?_
            refine lv_iload_n hx hb dX1_weigh_90 rfl (lv_at hl 2 rfl) ?_
            refine lv_dup2_11 hx hb dX1_weigh_91 rfl rfl ?_
            replace hf := gd_at hf
            obtain ⟨hi43, hf⟩ := hf
            refine va_iald hx hb w.2.2.2.2.2.2.1 w.1 2 0 rfl rfl hi43 dX1_weigh_92 ?_
            refine lv_iload hx hb dX1_weigh_93 (lv_at hl 0 rfl) ?_
            refine lv_iadd hx hb dX1_weigh_95 ?_
            refine lv_topi (fun z44 ez44 => ?_)
            replace hf := nm_at ez44 hf
            replace hf := gd_at hf
            obtain ⟨hi45, hf⟩ := hf
            refine k_iast hx hb w 2 rfl hi45 dX1_weigh_96 (fun H locs w => ?_)
            have w : Wd D cI cZ b0 tt A s [(p_a, .inr (1, [.int p_th, .int p_ki, .int p_fe, .ref p_c, .ref p_d])), (p_c, .inl (cI, 4, .inl p_ca)), (p_d, .inl (cI, 16, .inl (upd p_lo (Int32.toNatClampNeg z9) z44)))] H locs := w
            refine lv_iload hx hb dX1_weigh_97 (lv_at hl 1 rfl) ?_
            replace hf := ob_at hf
            obtain ⟨r46, er46, hf⟩ := hf
            refine k_goI0 w [] rfl (va_runSN (As := [.int z11]) (rest := []) ⟨hx, hb, hml, hown, hg⟩ (tX4_isPiece l D cI cZ b0 tt z11 er46 H.size) ⟨va_cnB 1 hg (gwN w_185) rfl rfl rfl (k_nm w 8 (q := ("CardHouse$Pile", 62, yX4_isPiece)) rfl) (hg _ w_1) qdX4_isPiece ⟨Nat.le_of_ble_eq_true rfl, Nat.le_of_ble_eq_true rfl⟩, hg _ w_184, trivial⟩ (k_preS w [] (by decide) rfl) rfl rfl hl.1 rfl (lv_room (Nat.le_of_ble_eq_true rfl)) dX1_weigh_99 ⟨Nat.le_refl _, Nat.le_refl _⟩) (fun H locs w => ?_)
            refine lv_if_eq (tgt := 117) hx hb dX1_weigh_102 (by decide) (fun c47 => ?_) (fun c47 => ?_)
            · replace hf := ite_t c47 hf
              obtain ⟨z48, ez48⟩ : ∃ y : Int32, y = (v1 + (-1)) := ⟨_, rfl⟩
              replace hf := nm_at ez48 hf
              refine lv_iinc (v := z48) (lv' := [(1, .int z48), (5, .int z33), (4, .int z11), (3, .int z9), (2, .int z7), (0, .ref p_a)]) hx hb dX1_weigh_117 hl (k := 5) rfl (by rw [ez48]; rfl) (by decide) rfl (fun ls hl => ?_)
              refine lv_goto (tgt := 24) hx hb dX1_weigh_120 (by decide) ?_
              exact ih z48 (upd p_lo (Int32.toNatClampNeg z9) z44) H locs ls hf w (lv_sub hl [5, 0] rfl)
            · replace hf := ite_f c47 hf
              refine lv_aload_n hx hb dX1_weigh_105 rfl (lv_at hl 4 rfl) ?_
              refine va_get (D := D) (ci := 1) (v := .ref p_d) (C := RX1) (T := TX1) (N := 5) hx hb hg iX1 hown w.2.2.2.2.2.2.1 w.1 0 rfl rfl 4 (by decide) (hg _ w_39) (fun _ h9 => h9) rfl dX1_weigh_106 ?_
              refine lv_iload hx hb dX1_weigh_109 (lv_at hl 1 rfl) ?_
              refine lv_dup2_11 hx hb dX1_weigh_111 rfl rfl ?_
              replace hf := gd_at hf
              obtain ⟨hi49, hf⟩ := hf
              refine va_iald hx hb w.2.2.2.2.2.2.1 w.1 2 0 rfl rfl hi49 dX1_weigh_112 ?_
              refine lv_iload hx hb dX1_weigh_113 (lv_at hl 0 rfl) ?_
              refine lv_iadd hx hb dX1_weigh_115 ?_
              refine lv_topi (fun z50 ez50 => ?_)
              replace hf := nm_at ez50 hf
              replace hf := gd_at hf
              obtain ⟨hi51, hf⟩ := hf
              refine k_iast hx hb w 2 rfl hi51 dX1_weigh_116 (fun H locs w => ?_)
              have w : Wd D cI cZ b0 tt A s [(p_a, .inr (1, [.int p_th, .int p_ki, .int p_fe, .ref p_c, .ref p_d])), (p_c, .inl (cI, 4, .inl p_ca)), (p_d, .inl (cI, 16, .inl (upd (upd p_lo (Int32.toNatClampNeg z9) z44) (Int32.toNatClampNeg z11) z50)))] H locs := w
              obtain ⟨z52, ez52⟩ : ∃ y : Int32, y = (v1 + (-1)) := ⟨_, rfl⟩
              replace hf := nm_at ez52 hf
              refine lv_iinc (v := z52) (lv' := [(1, .int z52), (5, .int z33), (4, .int z11), (3, .int z9), (2, .int z7), (0, .ref p_a)]) hx hb dX1_weigh_117 hl (k := 5) rfl (by rw [ez52]; rfl) (by decide) rfl (fun ls hl => ?_)
              refine lv_goto (tgt := 24) hx hb dX1_weigh_120 (by decide) ?_
              exact ih z52 (upd (upd p_lo (Int32.toNatClampNeg z9) z44) (Int32.toNatClampNeg z11) z50) H locs ls hf w (lv_sub hl [5, 0] rfl)
def fX1_weigh_L2   (p_th : Int32) (p_ki : Int32) : Nat → Int32 → (Nat → Int32) → Option ((Nat → Int32))
  | 0, _, _ => none
  | n + 1, v1, p_lo => (if 16 ≤ v1 then fX1_weigh_L24 p_th p_ki FU 15 p_lo else gd v1 16 (nm (v1 + 1) (fun z55 => fX1_weigh_L2 p_th p_ki n z55 (upd p_lo (Int32.toNatClampNeg v1) 0))))
set_option maxRecDepth 100000 in
set_option maxHeartbeats 4000000 in
theorem tX1_weigh_L2 {p : Program} {l : Launch} {e : Env} {s : State} {m : MethodId} {args : Array Value} {below : List Frame} {meth : Method} {c : Code} {D : va_G} {cI cZ : ClassId} {b0 : Nat} {tt : Nat → Nat} {A : Nat → Prop}  {p_a p_c p_d : Nat}  {p_th : Int32} {p_ki : Int32} {p_fe : Int32} {p_ca : Nat → Int32} {res : (Nat → Int32)} (C : Cx p s m args meth c cX1_weigh 6 none (cwX1_weigh :: GW) RX1) : ∀ (n : Nat) (v1 : Int32) (p_lo : Nat → Int32) (H : Heap) (locs : List Loc) (ls : Array Slot), fX1_weigh_L2 p_th p_ki n v1 p_lo = some res → Wd D cI cZ b0 tt A s [(p_a, .inr (1, [.int p_th, .int p_ki, .int p_fe, .ref p_c, .ref p_d])), (p_c, .inl (cI, 4, .inl p_ca)), (p_d, .inl (cI, 16, .inl p_lo))] H locs → lv_has ls 6 [(0, .ref p_a), (1, .int v1)] → W p l e (rmo 2 42) s m args below meth c H locs 0 0 (MQ below (QV D (fun u : (Nat → Int32) => [(p_a, .inr (1, [.int p_th, .int p_ki, .int p_fe, .ref p_c, .ref p_d])), (p_c, .inl (cI, 4, .inl p_ca)), (p_d, .inl (cI, 16, .inl u))]) A res) args s 0 0 A) (F0 m 2 ls []) := by
  obtain ⟨hx, hb, hr, hml, hown, hts, hlk⟩ := id C
  have hg : ∀ w ∈ GW, w.before args s = true := fun w h => hts w (List.mem_cons_of_mem _ h)
  intro n
  induction n with
  | zero =>
    intro _ _ H locs ls hf
    rw [fX1_weigh_L2] at hf
    cases hf
  | succ n ih =>
    intro v1 p_lo H locs ls hf w hl
    rw [fX1_weigh_L2] at hf
    refine lv_iload_n hx hb dX1_weigh_2 rfl (lv_at hl 1 rfl) ?_
    refine lv_bipush (v := 16) hx hb dX1_weigh_3 (by decide) ?_
    refine lv_icmp_ge (tgt := 21) hx hb dX1_weigh_5 (by decide) (fun c53 => ?_) (fun c53 => ?_)
    · replace hf := ite_t c53 hf
      refine lv_bipush (v := 15) hx hb dX1_weigh_21 (by decide) ?_
      refine lv_istore_n (lv' := [(1, .int 15), (0, .ref p_a)]) hx hb dX1_weigh_23 rfl hl (by decide) rfl (fun ls hl => ?_)
      exact tX1_weigh_L24 (p_th := p_th) (p_ki := p_ki) (p_fe := p_fe) (p_ca := p_ca) (C := C) FU 15 p_lo H locs ls hf w (lv_sub hl [1, 0] rfl)
    · replace hf := ite_f c53 hf
      refine lv_aload_n hx hb dX1_weigh_8 rfl (lv_at hl 0 rfl) ?_
      refine va_get (D := D) (ci := 1) (v := .ref p_d) (C := RX1) (T := TX1) (N := 5) hx hb hg iX1 hown w.2.2.2.2.2.2.1 w.1 0 rfl rfl 4 (by decide) (hg _ w_39) (fun _ h9 => h9) rfl dX1_weigh_9 ?_
      refine lv_iload_n hx hb dX1_weigh_12 rfl (lv_at hl 1 rfl) ?_
      refine lv_iconst (v := 0) hx hb dX1_weigh_13 (by decide) ?_
      replace hf := gd_at hf
      obtain ⟨hi54, hf⟩ := hf
      refine k_iast hx hb w 2 rfl hi54 dX1_weigh_14 (fun H locs w => ?_)
      have w : Wd D cI cZ b0 tt A s [(p_a, .inr (1, [.int p_th, .int p_ki, .int p_fe, .ref p_c, .ref p_d])), (p_c, .inl (cI, 4, .inl p_ca)), (p_d, .inl (cI, 16, .inl (upd p_lo (Int32.toNatClampNeg v1) 0)))] H locs := w
      obtain ⟨z55, ez55⟩ : ∃ y : Int32, y = (v1 + 1) := ⟨_, rfl⟩
      replace hf := nm_at ez55 hf
      refine lv_iinc (v := z55) (lv' := [(1, .int z55), (0, .ref p_a)]) hx hb dX1_weigh_15 hl (k := 1) rfl (by rw [ez55]; rfl) (by decide) rfl (fun ls hl => ?_)
      refine lv_goto (tgt := 2) hx hb dX1_weigh_18 (by decide) ?_
      exact ih z55 (upd p_lo (Int32.toNatClampNeg v1) 0) H locs ls hf w (lv_sub hl [1, 0] rfl)
def fX1_weigh  (p_th : Int32) (p_ki : Int32) (p_lo : Nat → Int32) : Option ((Nat → Int32)) := fX1_weigh_L2 p_th p_ki FU 0 p_lo
set_option maxRecDepth 100000 in
set_option maxHeartbeats 4000000 in
theorem tX1_weigh (l : Launch) (D : va_G) (cI cZ : ClassId) (b0 : Nat) (tt : Nat → Nat)  (p_a p_c p_d : Nat) (p_th : Int32) (p_ki : Int32) (p_fe : Int32) (p_ca : Nat → Int32) (p_lo : Nat → Int32)  {res : (Nat → Int32)} (hf : fX1_weigh p_th p_ki p_lo = some res) : CtV l yX1_weigh (cwX1_weigh :: GW) 2 42 D cI cZ b0 tt [.ref p_a] (fun u : (Nat → Int32) => [(p_a, .inr (1, [.int p_th, .int p_ki, .int p_fe, .ref p_c, .ref p_d])), (p_c, .inl (cI, 4, .inl p_ca)), (p_d, .inl (cI, 16, .inl u))]) p_lo res := by
  intro sz
  refine k_begin (cc := cX1_weigh) (maxL := 6) (ret := none) (by decide) rfl (Nat.le_of_ble_eq_true rfl) ?_
  intro p e s m below meth c ls C w hl
  generalize va_A _ sz = A at w ⊢
  have w : Wd D cI cZ b0 tt A s [(p_a, .inr (1, [.int p_th, .int p_ki, .int p_fe, .ref p_c, .ref p_d])), (p_c, .inl (cI, 4, .inl p_ca)), (p_d, .inl (cI, 16, .inl p_lo))] s.heap [] := w
  have hl : lv_has ls 6 [(0, .ref p_a)] := hl
  obtain ⟨H, eH⟩ : ∃ H, H = s.heap := ⟨_, rfl⟩
  rw [← eH] at w ⊢
  generalize ([] : List Loc) = locs at w ⊢
  generalize List.toArray _ = args at C ⊢
  obtain ⟨hx, hb, hr, hml, hown, hts, hlk⟩ := id C
  have hg : ∀ w ∈ GW, w.before args s = true := fun w h => hts w (List.mem_cons_of_mem _ h)
  unfold fX1_weigh at hf
  refine lv_iconst (v := 0) hx hb dX1_weigh_0 (by decide) ?_
  refine lv_istore_n (lv' := [(1, .int 0), (0, .ref p_a)]) hx hb dX1_weigh_1 rfl hl (by decide) rfl (fun ls hl => ?_)
  exact tX1_weigh_L2 (p_th := p_th) (p_ki := p_ki) (p_fe := p_fe) (p_ca := p_ca) (C := C) FU 0 p_lo H locs ls hf w (lv_sub hl [1, 0] rfl)
-- X1_goneWith
def fX1_goneWith_L9   (v1 : Int32) (p_th : Int32) : Nat → Int32 → Int32 → Option (Int32)
  | 0, _, _ => none
  | n + 1, v2, v3 => (if 16 ≤ v3 then some v2 else ob (fX1_has p_th v3) (fun r2 => (if r2 = 0 then nm (v3 + 1) (fun z4 => fX1_goneWith_L9 v1 p_th n v2 z4) else gd v3 16 ((if ((sUN (Int32.toNatClampNeg v3)) &&& v2) = 0 then nm (v3 + 1) (fun z7 => fX1_goneWith_L9 v1 p_th n v2 z7) else nm (v2 ||| ((1 : Int32) <<< (v3 &&& 31))) (fun z8 => nm (v3 + 1) (fun z9 => fX1_goneWith_L9 v1 p_th n z8 z9)))))))
set_option maxRecDepth 100000 in
set_option maxHeartbeats 4000000 in
theorem tX1_goneWith_L9 {p : Program} {l : Launch} {e : Env} {s : State} {m : MethodId} {args : Array Value} {below : List Frame} {meth : Method} {c : Code} {D : va_G} {cI cZ : ClassId} {b0 : Nat} {tt : Nat → Nat} {A : Nat → Prop}  {p_a p_c p_d : Nat}  {v1 : Int32} {p_th : Int32} {p_ki : Int32} {p_fe : Int32} {p_ca : Nat → Int32} {p_lo : Nat → Int32} {res : Int32} (C : Cx p s m args meth c cX1_goneWith 4 (some .int) (cwX1_goneWith :: GW) RX1) : ∀ (n : Nat) (v2 : Int32) (v3 : Int32) (H : Heap) (locs : List Loc) (ls : Array Slot), fX1_goneWith_L9 v1 p_th n v2 v3 = some res → Wd D cI cZ b0 tt A s [(p_a, .inr (1, [.int p_th, .int p_ki, .int p_fe, .ref p_c, .ref p_d])), (p_c, .inl (cI, 4, .inl p_ca)), (p_d, .inl (cI, 16, .inl p_lo))] H locs → lv_has ls 4 [(0, .ref p_a), (1, .int v1), (2, .int v2), (3, .int v3)] → W p l e (rmo 1 21) s m args below meth c H locs 0 0 (MQ below (QI D (fun _ : Unit => [(p_a, .inr (1, [.int p_th, .int p_ki, .int p_fe, .ref p_c, .ref p_d])), (p_c, .inl (cI, 4, .inl p_ca)), (p_d, .inl (cI, 16, .inl p_lo))]) A (res, ())) args s 0 0 A) (F0 m 9 ls []) := by
  obtain ⟨hx, hb, hr, hml, hown, hts, hlk⟩ := id C
  have hg : ∀ w ∈ GW, w.before args s = true := fun w h => hts w (List.mem_cons_of_mem _ h)
  intro n
  induction n with
  | zero =>
    intro _ _ H locs ls hf
    rw [fX1_goneWith_L9] at hf
    cases hf
  | succ n ih =>
    intro v2 v3 H locs ls hf w hl
    rw [fX1_goneWith_L9] at hf
    refine lv_iload_n hx hb dX1_goneWith_9 rfl (lv_at hl 3 rfl) ?_
    refine lv_bipush (v := 16) hx hb dX1_goneWith_10 (by decide) ?_
    refine lv_icmp_ge (tgt := 45) hx hb dX1_goneWith_12 (by decide) (fun c1 => ?_) (fun c1 => ?_)
    · replace hf := ite_t c1 hf
      refine lv_iload_n hx hb dX1_goneWith_45 rfl (lv_at hl 2 rfl) ?_
      exact k_iret (u := ()) hx hb hr hlk w rfl (k_ret1 hf) dX1_goneWith_46
    · replace hf := ite_f c1 hf
      refine lv_aload_n hx hb dX1_goneWith_15 rfl (lv_at hl 0 rfl) ?_
      refine lv_iload_n hx hb dX1_goneWith_16 rfl (lv_at hl 3 rfl) ?_
      replace hf := ob_at hf
      obtain ⟨r2, er2, hf⟩ := hf
      refine k_goI0 w [0, 1, 2] rfl (va_runV (As := [.int v3]) (rest := []) ⟨hx, hb, hml, hown, hg⟩ (tX1_has l D cI cZ b0 tt p_a p_c p_d p_th p_ki p_fe p_ca p_lo v3 er2 H.size) (cwV 1 hg (gwV w_165 w_166 w_167 w_3 w_168) rfl rfl rfl ⟨rfl, qdX1_has⟩ ⟨Nat.le_of_ble_eq_true rfl, Nat.le_of_ble_eq_true rfl⟩) (k_preV w [0, 1, 2] (by decide) rfl (q0 := 0) rfl rfl) rfl rfl hl.1 rfl (lv_room (Nat.le_of_ble_eq_true rfl)) dX1_goneWith_17 ⟨Nat.le_refl _, Nat.le_refl _⟩) (fun H locs w => ?_)
      refine lv_if_eq (tgt := 39) hx hb dX1_goneWith_20 (by decide) (fun c3 => ?_) (fun c3 => ?_)
      · replace hf := ite_t c3 hf
        obtain ⟨z4, ez4⟩ : ∃ y : Int32, y = (v3 + 1) := ⟨_, rfl⟩
        replace hf := nm_at ez4 hf
        refine lv_iinc (v := z4) (lv' := [(3, .int z4), (0, .ref p_a), (1, .int v1), (2, .int v2)]) hx hb dX1_goneWith_39 hl (k := 3) rfl (by rw [ez4]; rfl) (by decide) rfl (fun ls hl => ?_)
        refine lv_goto (tgt := 9) hx hb dX1_goneWith_42 (by decide) ?_
        exact ih v2 z4 H locs ls hf w (lv_sub hl [1, 2, 3, 0] rfl)
      · replace hf := ite_f c3 hf
        refine va_getsN hx hb (k_Z w w.2.2.2.2.2.2.2.1.1).1 w.2.2.1 hown (k_nf w 8 (q := ("CardHouse$Pile", 65, "CardHouse", "UNDER", "[I")) rfl) (fun _ h9 => h9) dX1_goneWith_23 ?_
        refine lv_iload_n hx hb dX1_goneWith_26 rfl (lv_at hl 3 rfl) ?_
        replace hf := gd_at hf
        obtain ⟨hi5, hf⟩ := hf
        refine va_ti hx hb (k_Z w w.2.2.2.2.2.2.2.1.1).2 w.2.2.1 hi5 (v := .int (sUN (Int32.toNatClampNeg v3))) rfl dX1_goneWith_27 ?_
        refine lv_iload_n hx hb dX1_goneWith_28 rfl (lv_at hl 2 rfl) ?_
        refine lv_iand hx hb dX1_goneWith_29 ?_
        refine lv_if_eq (tgt := 39) hx hb dX1_goneWith_30 (by decide) (fun c6 => ?_) (fun c6 => ?_)
        · replace hf := ite_t c6 hf
          obtain ⟨z7, ez7⟩ : ∃ y : Int32, y = (v3 + 1) := ⟨_, rfl⟩
          replace hf := nm_at ez7 hf
          refine lv_iinc (v := z7) (lv' := [(3, .int z7), (0, .ref p_a), (1, .int v1), (2, .int v2)]) hx hb dX1_goneWith_39 hl (k := 3) rfl (by rw [ez7]; rfl) (by decide) rfl (fun ls hl => ?_)
          refine lv_goto (tgt := 9) hx hb dX1_goneWith_42 (by decide) ?_
          exact ih v2 z7 H locs ls hf w (lv_sub hl [1, 2, 3, 0] rfl)
        · replace hf := ite_f c6 hf
          refine lv_iload_n hx hb dX1_goneWith_33 rfl (lv_at hl 2 rfl) ?_
          refine lv_iconst (v := 1) hx hb dX1_goneWith_34 (by decide) ?_
          refine lv_iload_n hx hb dX1_goneWith_35 rfl (lv_at hl 3 rfl) ?_
          refine lv_ishl hx hb dX1_goneWith_36 ?_
          refine lv_ior hx hb dX1_goneWith_37 ?_
          refine lv_topi (fun z8 ez8 => ?_)
          replace hf := nm_at ez8 hf
          refine lv_istore_n (lv' := [(2, .int z8), (0, .ref p_a), (1, .int v1), (3, .int v3)]) hx hb dX1_goneWith_38 rfl hl (by decide) rfl (fun ls hl => ?_)
          obtain ⟨z9, ez9⟩ : ∃ y : Int32, y = (v3 + 1) := ⟨_, rfl⟩
          replace hf := nm_at ez9 hf
          refine lv_iinc (v := z9) (lv' := [(3, .int z9), (2, .int z8), (0, .ref p_a), (1, .int v1)]) hx hb dX1_goneWith_39 hl (k := 3) rfl (by rw [ez9]; rfl) (by decide) rfl (fun ls hl => ?_)
          refine lv_goto (tgt := 9) hx hb dX1_goneWith_42 (by decide) ?_
          exact ih z8 z9 H locs ls hf w (lv_sub hl [2, 3, 1, 0] rfl)
def fX1_goneWith  (p_th : Int32) (a1 : Int32) : Option (Int32) := nm (a1 &&& p_th) (fun z10 => fX1_goneWith_L9 a1 p_th FU z10 0)
set_option maxRecDepth 100000 in
set_option maxHeartbeats 4000000 in
theorem tX1_goneWith (l : Launch) (D : va_G) (cI cZ : ClassId) (b0 : Nat) (tt : Nat → Nat)  (p_a p_c p_d : Nat) (p_th : Int32) (p_ki : Int32) (p_fe : Int32) (p_ca : Nat → Int32) (p_lo : Nat → Int32) (a1 : Int32) {res : Int32} (hf : fX1_goneWith p_th a1 = some res) : CtI l yX1_goneWith (cwX1_goneWith :: GW) 1 21 D cI cZ b0 tt [.ref p_a, .int a1] (fun _ : Unit => [(p_a, .inr (1, [.int p_th, .int p_ki, .int p_fe, .ref p_c, .ref p_d])), (p_c, .inl (cI, 4, .inl p_ca)), (p_d, .inl (cI, 16, .inl p_lo))]) () (res, ()) := by
  intro sz
  refine k_begin (cc := cX1_goneWith) (maxL := 4) (ret := (some .int)) (by decide) rfl (Nat.le_of_ble_eq_true rfl) ?_
  intro p e s m below meth c ls C w hl
  generalize va_A _ sz = A at w ⊢
  have w : Wd D cI cZ b0 tt A s [(p_a, .inr (1, [.int p_th, .int p_ki, .int p_fe, .ref p_c, .ref p_d])), (p_c, .inl (cI, 4, .inl p_ca)), (p_d, .inl (cI, 16, .inl p_lo))] s.heap [] := w
  have hl : lv_has ls 4 [(0, .ref p_a), (1, .int a1)] := hl
  obtain ⟨H, eH⟩ : ∃ H, H = s.heap := ⟨_, rfl⟩
  rw [← eH] at w ⊢
  generalize ([] : List Loc) = locs at w ⊢
  generalize List.toArray _ = args at C ⊢
  obtain ⟨hx, hb, hr, hml, hown, hts, hlk⟩ := id C
  have hg : ∀ w ∈ GW, w.before args s = true := fun w h => hts w (List.mem_cons_of_mem _ h)
  unfold fX1_goneWith at hf
  refine lv_iload_n hx hb dX1_goneWith_0 rfl (lv_at hl 1 rfl) ?_
  refine lv_aload_n hx hb dX1_goneWith_1 rfl (lv_at hl 0 rfl) ?_
  refine va_get (D := D) (ci := 1) (v := .int p_th) (C := RX1) (T := TX1) (N := 5) hx hb hg iX1 hown w.2.2.2.2.2.2.1 w.1 0 rfl rfl 0 (by decide) (hg _ w_35) (fun _ h9 => h9) rfl dX1_goneWith_2 ?_
  refine lv_iand hx hb dX1_goneWith_5 ?_
  refine lv_topi (fun z10 ez10 => ?_)
  replace hf := nm_at ez10 hf
  refine lv_istore_n (lv' := [(2, .int z10), (0, .ref p_a), (1, .int a1)]) hx hb dX1_goneWith_6 rfl hl (by decide) rfl (fun ls hl => ?_)
  refine lv_iconst (v := 0) hx hb dX1_goneWith_7 (by decide) ?_
  refine lv_istore_n (lv' := [(3, .int 0), (2, .int z10), (0, .ref p_a), (1, .int a1)]) hx hb dX1_goneWith_8 rfl hl (by decide) rfl (fun ls hl => ?_)
  exact tX1_goneWith_L9 (v1 := a1) (p_th := p_th) (p_ki := p_ki) (p_fe := p_fe) (p_ca := p_ca) (p_lo := p_lo) (C := C) FU z10 0 H locs ls hf w (lv_sub hl [2, 3, 1, 0] rfl)
-- X1_drop
def fX1_drop  (p_th : Int32) (p_fe : Int32) (a1 : Int32) : Option (Int32 × Int32 × Int32) := ob (fX1_goneWith p_th a1) (fun r1 => nm (p_th &&& (r1 ^^^ ((-1) : Int32))) (fun z2 => ob (fJ6_bitCount_0f7a4 r1) (fun r3 => nm (p_fe + r3) (fun z4 => some (r3, (z2, z4))))))
set_option maxRecDepth 100000 in
set_option maxHeartbeats 4000000 in
theorem tX1_drop (l : Launch) (D : va_G) (cI cZ : ClassId) (b0 : Nat) (tt : Nat → Nat)  (p_a p_c p_d : Nat) (p_th : Int32) (p_ki : Int32) (p_fe : Int32) (p_ca : Nat → Int32) (p_lo : Nat → Int32) (a1 : Int32) {res : Int32 × Int32 × Int32} (hf : fX1_drop p_th p_fe a1 = some res) : CtI l yX1_drop (cwX1_drop :: GW) 2 44 D cI cZ b0 tt [.ref p_a, .int a1] (fun u : Int32 × Int32 => [(p_a, .inr (1, [.int u.1, .int p_ki, .int u.2, .ref p_c, .ref p_d])), (p_c, .inl (cI, 4, .inl p_ca)), (p_d, .inl (cI, 16, .inl p_lo))]) (p_th, p_fe) res := by
  intro sz
  refine k_begin (cc := cX1_drop) (maxL := 4) (ret := (some .int)) (by decide) rfl (Nat.le_of_ble_eq_true rfl) ?_
  intro p e s m below meth c ls C w hl
  generalize va_A _ sz = A at w ⊢
  have w : Wd D cI cZ b0 tt A s [(p_a, .inr (1, [.int p_th, .int p_ki, .int p_fe, .ref p_c, .ref p_d])), (p_c, .inl (cI, 4, .inl p_ca)), (p_d, .inl (cI, 16, .inl p_lo))] s.heap [] := w
  have hl : lv_has ls 4 [(0, .ref p_a), (1, .int a1)] := hl
  obtain ⟨H, eH⟩ : ∃ H, H = s.heap := ⟨_, rfl⟩
  rw [← eH] at w ⊢
  generalize ([] : List Loc) = locs at w ⊢
  generalize List.toArray _ = args at C ⊢
  obtain ⟨hx, hb, hr, hml, hown, hts, hlk⟩ := id C
  have hg : ∀ w ∈ GW, w.before args s = true := fun w h => hts w (List.mem_cons_of_mem _ h)
  unfold fX1_drop at hf
  refine lv_aload_n hx hb dX1_drop_0 rfl (lv_at hl 0 rfl) ?_
  refine lv_iload_n hx hb dX1_drop_1 rfl (lv_at hl 1 rfl) ?_
  replace hf := ob_at hf
  obtain ⟨r1, er1, hf⟩ := hf
  refine k_goI0 w [0, 1, 2] rfl (va_runV (As := [.int a1]) (rest := []) ⟨hx, hb, hml, hown, hg⟩ (tX1_goneWith l D cI cZ b0 tt p_a p_c p_d p_th p_ki p_fe p_ca p_lo a1 er1 H.size) (cwV 1 hg (gwV w_218 w_219 w_220 w_3 w_221) rfl rfl rfl ⟨rfl, qdX1_goneWith⟩ ⟨Nat.le_of_ble_eq_true rfl, Nat.le_of_ble_eq_true rfl⟩) (k_preV w [0, 1, 2] (by decide) rfl (q0 := 0) rfl rfl) rfl rfl hl.1 rfl (lv_room (Nat.le_of_ble_eq_true rfl)) dX1_drop_2 ⟨Nat.le_refl _, Nat.le_refl _⟩) (fun H locs w => ?_)
  refine lv_istore_n (lv' := [(2, .int r1), (0, .ref p_a), (1, .int a1)]) hx hb dX1_drop_5 rfl hl (by decide) rfl (fun ls hl => ?_)
  refine lv_aload_n hx hb dX1_drop_6 rfl (lv_at hl 1 rfl) ?_
  refine lv_dup hx hb dX1_drop_7 rfl ?_
  refine va_get (D := D) (ci := 1) (v := .int p_th) (C := RX1) (T := TX1) (N := 5) hx hb hg iX1 hown w.2.2.2.2.2.2.1 w.1 0 rfl rfl 0 (by decide) (hg _ w_35) (fun _ h9 => h9) rfl dX1_drop_8 ?_
  refine lv_iload_n hx hb dX1_drop_11 rfl (lv_at hl 0 rfl) ?_
  refine lv_iconst (v := (-1)) hx hb dX1_drop_12 (by decide) ?_
  refine lv_ixor hx hb dX1_drop_13 ?_
  refine lv_iand hx hb dX1_drop_14 ?_
  refine lv_topi (fun z2 ez2 => ?_)
  replace hf := nm_at ez2 hf
  refine k_put (ci := 1) (v := .int z2) (ty := .int) (C := RX1) (T := TX1) (N := 5) hx hb hg iX1 tyX1 tyX1_ok nmX1 hown w 0 rfl rfl 0 (by decide) (hg _ w_35) (fun _ h9 => h9) rfl pd_I rfl rfl (Nat.le_of_ble_eq_true rfl) dX1_drop_15 (fun H locs w => ?_)
  have w : Wd D cI cZ b0 tt A s [(p_a, .inr (1, [.int z2, .int p_ki, .int p_fe, .ref p_c, .ref p_d])), (p_c, .inl (cI, 4, .inl p_ca)), (p_d, .inl (cI, 16, .inl p_lo))] H locs := w
  refine lv_iload_n hx hb dX1_drop_18 rfl (lv_at hl 0 rfl) ?_
  replace hf := ob_at hf
  obtain ⟨r3, er3, hf⟩ := hf
  refine k_goI0 w [] rfl (va_runS (As := [.int r1]) (rest := []) ⟨hx, hb, hml, hown, hg⟩ (tJ6_bitCount_0f7a4 l D cI cZ b0 tt r1 er3 H.size) (va_cwS 1 hg (gwS w_222 w_223 w_8 w_224) rfl rfl rfl qdJ6_bitCount_0f7a4 ⟨Nat.le_of_ble_eq_true rfl, Nat.le_of_ble_eq_true rfl⟩) (k_preS w [] (by decide) rfl) rfl rfl hl.1 rfl (lv_room (Nat.le_of_ble_eq_true rfl)) dX1_drop_19 ⟨Nat.le_refl _, Nat.le_refl _⟩) (fun H locs w => ?_)
  refine lv_istore_n (lv' := [(3, .int r3), (2, .int r1), (0, .ref p_a), (1, .int a1)]) hx hb dX1_drop_22 rfl hl (by decide) rfl (fun ls hl => ?_)
  refine lv_aload_n hx hb dX1_drop_23 rfl (lv_at hl 2 rfl) ?_
  refine lv_dup hx hb dX1_drop_24 rfl ?_
  refine va_get (D := D) (ci := 1) (v := .int p_fe) (C := RX1) (T := TX1) (N := 5) hx hb hg iX1 hown w.2.2.2.2.2.2.1 w.1 0 rfl rfl 2 (by decide) (hg _ w_37) (fun _ h9 => h9) rfl dX1_drop_25 ?_
  refine lv_iload_n hx hb dX1_drop_28 rfl (lv_at hl 0 rfl) ?_
  refine lv_iadd hx hb dX1_drop_29 ?_
  refine lv_topi (fun z4 ez4 => ?_)
  replace hf := nm_at ez4 hf
  refine k_put (ci := 1) (v := .int z4) (ty := .int) (C := RX1) (T := TX1) (N := 5) hx hb hg iX1 tyX1 tyX1_ok nmX1 hown w 0 rfl rfl 2 (by decide) (hg _ w_37) (fun _ h9 => h9) rfl pd_I rfl rfl (Nat.le_of_ble_eq_true rfl) dX1_drop_30 (fun H locs w => ?_)
  have w : Wd D cI cZ b0 tt A s [(p_a, .inr (1, [.int z2, .int p_ki, .int z4, .ref p_c, .ref p_d])), (p_c, .inl (cI, 4, .inl p_ca)), (p_d, .inl (cI, 16, .inl p_lo))] H locs := w
  refine lv_iload_n hx hb dX1_drop_33 rfl (lv_at hl 0 rfl) ?_
  exact k_iret (u := (z2, z4)) hx hb hr hlk w rfl hf dX1_drop_34
-- X1_settle
def fX1_settle_L19  (kk4 : Int32 → Int32 → Int32 → Int32 → (Nat → Int32) → Option (Int32 × Int32 × Int32 × (Nat → Int32))) (v1 : Int32) (v2 : Int32) (p_th : Int32) (p_ki : Int32) (p_fe : Int32) (p_lo : Nat → Int32) : Nat → Int32 → Int32 → Option (Int32 × Int32 × Int32 × (Nat → Int32))
  | 0, _, _ => none
  | n + 1, v3, v4 => (if 16 ≤ v4 then (if v3 = 0 then some (v1, (p_th, p_fe, p_lo)) else ob (fX1_drop p_th p_fe v3) (fun r3 => nm (v1 + r3.1) (fun z4 => nm (v2 + 1) (fun z5 => kk4 z4 z5 r3.2.1 r3.2.2 p_lo)))) else ob (fX1_has p_th v4) (fun r6 => (if r6 = 0 then nm (v4 + 1) (fun z8 => fX1_settle_L19 kk4 v1 v2 p_th p_ki p_fe p_lo n v3 z8) else gd v4 16 (ob (fX1_kindOf p_ki v4) (fun r10 => gd r10 4 ((if (p_lo (Int32.toNatClampNeg v4)) ≤ (sBE (Int32.toNatClampNeg r10)) then nm (v4 + 1) (fun z13 => fX1_settle_L19 kk4 v1 v2 p_th p_ki p_fe p_lo n v3 z13) else nm (v3 ||| ((1 : Int32) <<< (v4 &&& 31))) (fun z14 => nm (v4 + 1) (fun z15 => fX1_settle_L19 kk4 v1 v2 p_th p_ki p_fe p_lo n z14 z15)))))))))
set_option maxRecDepth 100000 in
set_option maxHeartbeats 4000000 in
theorem tX1_settle_L19 {p : Program} {l : Launch} {e : Env} {s : State} {m : MethodId} {args : Array Value} {below : List Frame} {meth : Method} {c : Code} {D : va_G} {cI cZ : ClassId} {b0 : Nat} {tt : Nat → Nat} {A : Nat → Prop}  {p_a p_c p_d : Nat} {kk4 : Int32 → Int32 → Int32 → Int32 → (Nat → Int32) → Option (Int32 × Int32 × Int32 × (Nat → Int32))} {v1 : Int32} {v2 : Int32} {p_th : Int32} {p_ki : Int32} {p_fe : Int32} {p_lo : Nat → Int32} {p_ca : Nat → Int32} {res : Int32 × Int32 × Int32 × (Nat → Int32)} (C : Cx p s m args meth c cX1_settle 5 (some .int) (cwX1_settle :: GW) RX1) (hK4 : ∀ (v1 : Int32) (v2 : Int32) (p_th : Int32) (p_fe : Int32) (p_lo : Nat → Int32) (H : Heap) (locs : List Loc) (ls : Array Slot), kk4 v1 v2 p_th p_fe p_lo = some res → Wd D cI cZ b0 tt A s [(p_a, .inr (1, [.int p_th, .int p_ki, .int p_fe, .ref p_c, .ref p_d])), (p_c, .inl (cI, 4, .inl p_ca)), (p_d, .inl (cI, 16, .inl p_lo))] H locs → lv_has ls 5 [(0, .ref p_a), (1, .int v1), (2, .int v2)] → W p l e (rmo 3 67) s m args below meth c H locs 0 0 (MQ below (QI D (fun u : Int32 × Int32 × (Nat → Int32) => [(p_a, .inr (1, [.int u.1, .int p_ki, .int u.2.1, .ref p_c, .ref p_d])), (p_c, .inl (cI, 4, .inl p_ca)), (p_d, .inl (cI, 16, .inl u.2.2))]) A res) args s 0 0 A) (F0 m 4 ls [])) : ∀ (n : Nat) (v3 : Int32) (v4 : Int32) (H : Heap) (locs : List Loc) (ls : Array Slot), fX1_settle_L19 kk4 v1 v2 p_th p_ki p_fe p_lo n v3 v4 = some res → Wd D cI cZ b0 tt A s [(p_a, .inr (1, [.int p_th, .int p_ki, .int p_fe, .ref p_c, .ref p_d])), (p_c, .inl (cI, 4, .inl p_ca)), (p_d, .inl (cI, 16, .inl p_lo))] H locs → lv_has ls 5 [(0, .ref p_a), (1, .int v1), (2, .int v2), (3, .int v3), (4, .int v4)] → W p l e (rmo 3 67) s m args below meth c H locs 0 0 (MQ below (QI D (fun u : Int32 × Int32 × (Nat → Int32) => [(p_a, .inr (1, [.int u.1, .int p_ki, .int u.2.1, .ref p_c, .ref p_d])), (p_c, .inl (cI, 4, .inl p_ca)), (p_d, .inl (cI, 16, .inl u.2.2))]) A res) args s 0 0 A) (F0 m 19 ls []) := by
  obtain ⟨hx, hb, hr, hml, hown, hts, hlk⟩ := id C
  have hg : ∀ w ∈ GW, w.before args s = true := fun w h => hts w (List.mem_cons_of_mem _ h)
  intro n
  induction n with
  | zero =>
    intro _ _ H locs ls hf
    rw [fX1_settle_L19] at hf
    cases hf
  | succ n ih =>
    intro v3 v4 H locs ls hf w hl
    rw [fX1_settle_L19] at hf
    refine lv_iload hx hb dX1_settle_19 (lv_at hl 4 rfl) ?_
    refine lv_bipush (v := 16) hx hb dX1_settle_21 (by decide) ?_
    refine lv_icmp_ge (tgt := 68) hx hb dX1_settle_23 (by decide) (fun c1 => ?_) (fun c1 => ?_)
    · replace hf := ite_t c1 hf
      refine lv_iload_n hx hb dX1_settle_68 rfl (lv_at hl 3 rfl) ?_
      refine lv_if_ne (tgt := 75) hx hb dX1_settle_69 (by decide) (fun c2 => ?_) (fun c2 => ?_)
      · replace hf := ite_f c2 hf
        refine lv_iload_n hx hb dX1_settle_75 rfl (lv_at hl 1 rfl) ?_
        refine lv_aload_n hx hb dX1_settle_76 rfl (lv_at hl 0 rfl) ?_
        refine lv_iload_n hx hb dX1_settle_77 rfl (lv_at hl 3 rfl) ?_
        replace hf := ob_at hf
        obtain ⟨r3, er3, hf⟩ := hf
        refine k_goI (v0 := (p_th, p_fe)) (res := r3) w [0, 1, 2] rfl (fun _ => rfl) (va_runV (As := [.int v3]) (rest := [.int v1]) ⟨hx, hb, hml, hown, hg⟩ (tX1_drop l D cI cZ b0 tt p_a p_c p_d p_th p_ki p_fe p_ca p_lo v3 er3 H.size) (cwV 1 hg (gwV w_215 w_216 w_834 w_3 w_217) rfl rfl rfl ⟨rfl, qdX1_drop⟩ ⟨Nat.le_of_ble_eq_true rfl, Nat.le_of_ble_eq_true rfl⟩) (k_preV w [0, 1, 2] (by decide) rfl (q0 := 0) rfl rfl) rfl rfl hl.1 rfl (lv_room (Nat.le_of_ble_eq_true rfl)) dX1_settle_78 ⟨Nat.le_refl _, Nat.le_refl _⟩) (fun H locs w => ?_)
        have w : Wd D cI cZ b0 tt A s [(p_a, .inr (1, [.int r3.2.1, .int p_ki, .int r3.2.2, .ref p_c, .ref p_d])), (p_c, .inl (cI, 4, .inl p_ca)), (p_d, .inl (cI, 16, .inl p_lo))] H locs := w
        refine lv_iadd hx hb dX1_settle_81 ?_
        refine lv_topi (fun z4 ez4 => ?_)
        replace hf := nm_at ez4 hf
        refine lv_istore_n (lv' := [(1, .int z4), (0, .ref p_a), (2, .int v2), (3, .int v3), (4, .int v4)]) hx hb dX1_settle_82 rfl hl (by decide) rfl (fun ls hl => ?_)
        obtain ⟨z5, ez5⟩ : ∃ y : Int32, y = (v2 + 1) := ⟨_, rfl⟩
        replace hf := nm_at ez5 hf
        refine lv_iinc (v := z5) (lv' := [(2, .int z5), (1, .int z4), (0, .ref p_a), (3, .int v3), (4, .int v4)]) hx hb dX1_settle_83 hl (k := 2) rfl (by rw [ez5]; rfl) (by decide) rfl (fun ls hl => ?_)
        refine lv_goto (tgt := 4) hx hb dX1_settle_86 (by decide) ?_
        exact hK4 z4 z5 r3.2.1 r3.2.2 p_lo H locs ls hf w (lv_sub hl [2, 1, 0] rfl)
      · replace hf := ite_t c2 hf
        refine lv_goto (tgt := 89) hx hb dX1_settle_72 (by decide) ?_
        refine lv_iload_n hx hb dX1_settle_89 rfl (lv_at hl 1 rfl) ?_
        exact k_iret (u := (p_th, p_fe, p_lo)) hx hb hr hlk w rfl hf dX1_settle_90
    · replace hf := ite_f c1 hf
      refine lv_aload_n hx hb dX1_settle_26 rfl (lv_at hl 0 rfl) ?_
      refine lv_iload hx hb dX1_settle_27 (lv_at hl 4 rfl) ?_
      replace hf := ob_at hf
      obtain ⟨r6, er6, hf⟩ := hf
      refine k_goI0 w [0, 1, 2] rfl (va_runV (As := [.int v4]) (rest := []) ⟨hx, hb, hml, hown, hg⟩ (tX1_has l D cI cZ b0 tt p_a p_c p_d p_th p_ki p_fe p_ca p_lo v4 er6 H.size) (cwV 1 hg (gwV w_165 w_166 w_167 w_3 w_168) rfl rfl rfl ⟨rfl, qdX1_has⟩ ⟨Nat.le_of_ble_eq_true rfl, Nat.le_of_ble_eq_true rfl⟩) (k_preV w [0, 1, 2] (by decide) rfl (q0 := 0) rfl rfl) rfl rfl hl.1 rfl (lv_room (Nat.le_of_ble_eq_true rfl)) dX1_settle_29 ⟨Nat.le_refl _, Nat.le_refl _⟩) (fun H locs w => ?_)
      refine lv_if_eq (tgt := 62) hx hb dX1_settle_32 (by decide) (fun c7 => ?_) (fun c7 => ?_)
      · replace hf := ite_t c7 hf
        obtain ⟨z8, ez8⟩ : ∃ y : Int32, y = (v4 + 1) := ⟨_, rfl⟩
        replace hf := nm_at ez8 hf
        refine lv_iinc (v := z8) (lv' := [(4, .int z8), (0, .ref p_a), (1, .int v1), (2, .int v2), (3, .int v3)]) hx hb dX1_settle_62 hl (k := 4) rfl (by rw [ez8]; rfl) (by decide) rfl (fun ls hl => ?_)
        refine lv_goto (tgt := 19) hx hb dX1_settle_65 (by decide) ?_
        exact ih v3 z8 H locs ls hf w (lv_sub hl [1, 2, 3, 4, 0] rfl)
      · replace hf := ite_f c7 hf
        refine lv_aload_n hx hb dX1_settle_35 rfl (lv_at hl 0 rfl) ?_
        refine va_get (D := D) (ci := 1) (v := .ref p_d) (C := RX1) (T := TX1) (N := 5) hx hb hg iX1 hown w.2.2.2.2.2.2.1 w.1 0 rfl rfl 4 (by decide) (hg _ w_39) (fun _ h9 => h9) rfl dX1_settle_36 ?_
        refine lv_iload hx hb dX1_settle_39 (lv_at hl 4 rfl) ?_
        replace hf := gd_at hf
        obtain ⟨hi9, hf⟩ := hf
        refine va_iald hx hb w.2.2.2.2.2.2.1 w.1 2 0 rfl rfl hi9 dX1_settle_41 ?_
        refine va_getsN hx hb (k_Z w w.2.2.2.2.2.2.2.1.2.2.2.2.2.1).1 w.2.2.1 hown (k_nf w 4 (q := ("CardHouse$Pile", 120, "CardHouse", "BEARS", "[I")) rfl) (fun _ h9 => h9) dX1_settle_42 ?_
        refine lv_aload_n hx hb dX1_settle_45 rfl (lv_at hl 0 rfl) ?_
        refine lv_iload hx hb dX1_settle_46 (lv_at hl 4 rfl) ?_
        replace hf := ob_at hf
        obtain ⟨r10, er10, hf⟩ := hf
        refine k_goI0 w [0, 1, 2] rfl (va_runV (As := [.int v4]) (rest := [.ref (tt 5), .int (p_lo (Int32.toNatClampNeg v4))]) ⟨hx, hb, hml, hown, hg⟩ (tX1_kindOf l D cI cZ b0 tt p_a p_c p_d p_th p_ki p_fe p_ca p_lo v4 er10 H.size) (cwV 1 hg (gwV w_169 w_170 w_171 w_3 w_172) rfl rfl rfl ⟨rfl, qdX1_kindOf⟩ ⟨Nat.le_of_ble_eq_true rfl, Nat.le_of_ble_eq_true rfl⟩) (k_preV w [0, 1, 2] (by decide) rfl (q0 := 0) rfl rfl) rfl rfl hl.1 rfl (lv_room (Nat.le_of_ble_eq_true rfl)) dX1_settle_48 ⟨Nat.le_refl _, Nat.le_refl _⟩) (fun H locs w => ?_)
        replace hf := gd_at hf
        obtain ⟨hi11, hf⟩ := hf
        refine va_ti hx hb (k_Z w w.2.2.2.2.2.2.2.1.2.2.2.2.2.1).2 w.2.2.1 hi11 (v := .int (sBE (Int32.toNatClampNeg r10))) rfl dX1_settle_51 ?_
        refine lv_icmp_le (tgt := 62) hx hb dX1_settle_52 (by decide) (fun c12 => ?_) (fun c12 => ?_)
        · replace hf := ite_t c12 hf
          obtain ⟨z13, ez13⟩ : ∃ y : Int32, y = (v4 + 1) := ⟨_, rfl⟩
          replace hf := nm_at ez13 hf
          refine lv_iinc (v := z13) (lv' := [(4, .int z13), (0, .ref p_a), (1, .int v1), (2, .int v2), (3, .int v3)]) hx hb dX1_settle_62 hl (k := 4) rfl (by rw [ez13]; rfl) (by decide) rfl (fun ls hl => ?_)
          refine lv_goto (tgt := 19) hx hb dX1_settle_65 (by decide) ?_
          exact ih v3 z13 H locs ls hf w (lv_sub hl [1, 2, 3, 4, 0] rfl)
        · replace hf := ite_f c12 hf
          refine lv_iload_n hx hb dX1_settle_55 rfl (lv_at hl 3 rfl) ?_
          refine lv_iconst (v := 1) hx hb dX1_settle_56 (by decide) ?_
          refine lv_iload hx hb dX1_settle_57 (lv_at hl 4 rfl) ?_
          refine lv_ishl hx hb dX1_settle_59 ?_
          refine lv_ior hx hb dX1_settle_60 ?_
          refine lv_topi (fun z14 ez14 => ?_)
          replace hf := nm_at ez14 hf
          refine lv_istore_n (lv' := [(3, .int z14), (0, .ref p_a), (1, .int v1), (2, .int v2), (4, .int v4)]) hx hb dX1_settle_61 rfl hl (by decide) rfl (fun ls hl => ?_)
          obtain ⟨z15, ez15⟩ : ∃ y : Int32, y = (v4 + 1) := ⟨_, rfl⟩
          replace hf := nm_at ez15 hf
          refine lv_iinc (v := z15) (lv' := [(4, .int z15), (3, .int z14), (0, .ref p_a), (1, .int v1), (2, .int v2)]) hx hb dX1_settle_62 hl (k := 4) rfl (by rw [ez15]; rfl) (by decide) rfl (fun ls hl => ?_)
          refine lv_goto (tgt := 19) hx hb dX1_settle_65 (by decide) ?_
          exact ih z14 z15 H locs ls hf w (lv_sub hl [2, 3, 4, 1, 0] rfl)
def fX1_settle_L4   (p_ki : Int32) : Nat → Int32 → Int32 → Int32 → Int32 → (Nat → Int32) → Option (Int32 × Int32 × Int32 × (Nat → Int32))
  | 0, _, _, _, _, _ => none
  | n + 1, v1, v2, p_th, p_fe, p_lo => (if 16 ≤ v2 then some (v1, (p_th, p_fe, p_lo)) else ob (fX1_weigh p_th p_ki p_lo) (fun r17 => fX1_settle_L19 (fun yv1 yv2 yp_th yp_fe yp_lo => fX1_settle_L4 p_ki n yv1 yv2 yp_th yp_fe yp_lo) v1 v2 p_th p_ki p_fe r17 FU 0 0))
set_option maxRecDepth 100000 in
set_option maxHeartbeats 4000000 in
theorem tX1_settle_L4 {p : Program} {l : Launch} {e : Env} {s : State} {m : MethodId} {args : Array Value} {below : List Frame} {meth : Method} {c : Code} {D : va_G} {cI cZ : ClassId} {b0 : Nat} {tt : Nat → Nat} {A : Nat → Prop}  {p_a p_c p_d : Nat}  {p_ki : Int32} {p_ca : Nat → Int32} {res : Int32 × Int32 × Int32 × (Nat → Int32)} (C : Cx p s m args meth c cX1_settle 5 (some .int) (cwX1_settle :: GW) RX1) : ∀ (n : Nat) (v1 : Int32) (v2 : Int32) (p_th : Int32) (p_fe : Int32) (p_lo : Nat → Int32) (H : Heap) (locs : List Loc) (ls : Array Slot), fX1_settle_L4 p_ki n v1 v2 p_th p_fe p_lo = some res → Wd D cI cZ b0 tt A s [(p_a, .inr (1, [.int p_th, .int p_ki, .int p_fe, .ref p_c, .ref p_d])), (p_c, .inl (cI, 4, .inl p_ca)), (p_d, .inl (cI, 16, .inl p_lo))] H locs → lv_has ls 5 [(0, .ref p_a), (1, .int v1), (2, .int v2)] → W p l e (rmo 3 67) s m args below meth c H locs 0 0 (MQ below (QI D (fun u : Int32 × Int32 × (Nat → Int32) => [(p_a, .inr (1, [.int u.1, .int p_ki, .int u.2.1, .ref p_c, .ref p_d])), (p_c, .inl (cI, 4, .inl p_ca)), (p_d, .inl (cI, 16, .inl u.2.2))]) A res) args s 0 0 A) (F0 m 4 ls []) := by
  obtain ⟨hx, hb, hr, hml, hown, hts, hlk⟩ := id C
  have hg : ∀ w ∈ GW, w.before args s = true := fun w h => hts w (List.mem_cons_of_mem _ h)
  intro n
  induction n with
  | zero =>
    intro _ _ _ _ _ H locs ls hf
    rw [fX1_settle_L4] at hf
    cases hf
  | succ n ih =>
    intro v1 v2 p_th p_fe p_lo H locs ls hf w hl
    rw [fX1_settle_L4] at hf
    refine lv_iload_n hx hb dX1_settle_4 rfl (lv_at hl 2 rfl) ?_
    refine lv_bipush (v := 16) hx hb dX1_settle_5 (by decide) ?_
    refine lv_icmp_ge (tgt := 89) hx hb dX1_settle_7 (by decide) (fun c16 => ?_) (fun c16 => ?_)
    · replace hf := ite_t c16 hf
      refine lv_iload_n hx hb dX1_settle_89 rfl (lv_at hl 1 rfl) ?_
      exact k_iret (u := (p_th, p_fe, p_lo)) hx hb hr hlk w rfl hf dX1_settle_90
    · replace hf := ite_f c16 hf
      refine lv_aload_n hx hb dX1_settle_10 rfl (lv_at hl 0 rfl) ?_
      replace hf := ob_at hf
      obtain ⟨r17, er17, hf⟩ := hf
      refine k_goV (v0 := p_lo) (res := r17) w [0, 1, 2] rfl (fun _ => rfl) (va_runV (As := []) (rest := []) ⟨hx, hb, hml, hown, hg⟩ (tX1_weigh l D cI cZ b0 tt p_a p_c p_d p_th p_ki p_fe p_ca p_lo er17 H.size) (cwV 0 hg (gwV w_206 w_207 w_833 w_3 w_208) rfl rfl rfl ⟨rfl, qdX1_weigh⟩ ⟨Nat.le_of_ble_eq_true rfl, Nat.le_of_ble_eq_true rfl⟩) (k_preV w [0, 1, 2] (by decide) rfl (q0 := 0) rfl rfl) rfl rfl hl.1 rfl (lv_room (Nat.le_of_ble_eq_true rfl)) dX1_settle_11 ⟨Nat.le_refl _, Nat.le_refl _⟩) (fun H locs w => ?_)
      have w : Wd D cI cZ b0 tt A s [(p_a, .inr (1, [.int p_th, .int p_ki, .int p_fe, .ref p_c, .ref p_d])), (p_c, .inl (cI, 4, .inl p_ca)), (p_d, .inl (cI, 16, .inl r17))] H locs := w
      refine lv_iconst (v := 0) hx hb dX1_settle_14 (by decide) ?_
      refine lv_istore_n (lv' := [(3, .int 0), (0, .ref p_a), (1, .int v1), (2, .int v2)]) hx hb dX1_settle_15 rfl hl (by decide) rfl (fun ls hl => ?_)
      refine lv_iconst (v := 0) hx hb dX1_settle_16 (by decide) ?_
      refine lv_istore (lv' := [(4, .int 0), (3, .int 0), (0, .ref p_a), (1, .int v1), (2, .int v2)]) hx hb dX1_settle_17 hl (by decide) rfl (fun ls hl => ?_)
      exact tX1_settle_L19 (v1 := v1) (v2 := v2) (p_th := p_th) (p_ki := p_ki) (p_fe := p_fe) (p_lo := r17) (p_ca := p_ca) (C := C) (hK4 := ih) FU 0 0 H locs ls hf w (lv_sub hl [2, 3, 4, 1, 0] rfl)
def fX1_settle  (p_th : Int32) (p_ki : Int32) (p_fe : Int32) (p_lo : Nat → Int32) : Option (Int32 × Int32 × Int32 × (Nat → Int32)) := fX1_settle_L4 p_ki FU 0 0 p_th p_fe p_lo
set_option maxRecDepth 100000 in
set_option maxHeartbeats 4000000 in
theorem tX1_settle (l : Launch) (D : va_G) (cI cZ : ClassId) (b0 : Nat) (tt : Nat → Nat)  (p_a p_c p_d : Nat) (p_th : Int32) (p_ki : Int32) (p_fe : Int32) (p_ca : Nat → Int32) (p_lo : Nat → Int32)  {res : Int32 × Int32 × Int32 × (Nat → Int32)} (hf : fX1_settle p_th p_ki p_fe p_lo = some res) : CtI l yX1_settle (cwX1_settle :: GW) 3 67 D cI cZ b0 tt [.ref p_a] (fun u : Int32 × Int32 × (Nat → Int32) => [(p_a, .inr (1, [.int u.1, .int p_ki, .int u.2.1, .ref p_c, .ref p_d])), (p_c, .inl (cI, 4, .inl p_ca)), (p_d, .inl (cI, 16, .inl u.2.2))]) (p_th, p_fe, p_lo) res := by
  intro sz
  refine k_begin (cc := cX1_settle) (maxL := 5) (ret := (some .int)) (by decide) rfl (Nat.le_of_ble_eq_true rfl) ?_
  intro p e s m below meth c ls C w hl
  generalize va_A _ sz = A at w ⊢
  have w : Wd D cI cZ b0 tt A s [(p_a, .inr (1, [.int p_th, .int p_ki, .int p_fe, .ref p_c, .ref p_d])), (p_c, .inl (cI, 4, .inl p_ca)), (p_d, .inl (cI, 16, .inl p_lo))] s.heap [] := w
  have hl : lv_has ls 5 [(0, .ref p_a)] := hl
  obtain ⟨H, eH⟩ : ∃ H, H = s.heap := ⟨_, rfl⟩
  rw [← eH] at w ⊢
  generalize ([] : List Loc) = locs at w ⊢
  generalize List.toArray _ = args at C ⊢
  obtain ⟨hx, hb, hr, hml, hown, hts, hlk⟩ := id C
  have hg : ∀ w ∈ GW, w.before args s = true := fun w h => hts w (List.mem_cons_of_mem _ h)
  unfold fX1_settle at hf
  refine lv_iconst (v := 0) hx hb dX1_settle_0 (by decide) ?_
  refine lv_istore_n (lv' := [(1, .int 0), (0, .ref p_a)]) hx hb dX1_settle_1 rfl hl (by decide) rfl (fun ls hl => ?_)
  refine lv_iconst (v := 0) hx hb dX1_settle_2 (by decide) ?_
  refine lv_istore_n (lv' := [(2, .int 0), (1, .int 0), (0, .ref p_a)]) hx hb dX1_settle_3 rfl hl (by decide) rfl (fun ls hl => ?_)
  exact tX1_settle_L4 (p_ki := p_ki) (p_ca := p_ca) (C := C) FU 0 0 p_th p_fe p_lo H locs ls hf w (lv_sub hl [2, 1, 0] rfl)
-- X1_lay
def fX1_lay  (p_th : Int32) (p_ki : Int32) (p_fe : Int32) (p_lo : Nat → Int32) (a1 : Int32) (a2 : Int32) : Option (Int32 × Int32 × Int32 × Int32 × (Nat → Int32)) := ob (fX1_place p_th p_ki a1 a2) (fun r1 => ob (fX1_settle r1.1 r1.2 p_fe p_lo) (fun r2 => some (r2.1, (r2.2.1, r1.2, r2.2.2.1, r2.2.2.2))))
set_option maxRecDepth 100000 in
set_option maxHeartbeats 4000000 in
theorem tX1_lay (l : Launch) (D : va_G) (cI cZ : ClassId) (b0 : Nat) (tt : Nat → Nat)  (p_a p_c p_d : Nat) (p_th : Int32) (p_ki : Int32) (p_fe : Int32) (p_ca : Nat → Int32) (p_lo : Nat → Int32) (a1 : Int32) (a2 : Int32) {res : Int32 × Int32 × Int32 × Int32 × (Nat → Int32)} (hf : fX1_lay p_th p_ki p_fe p_lo a1 a2 = some res) : CtI l yX1_lay (cwX1_lay :: GW) 4 91 D cI cZ b0 tt [.ref p_a, .int a1, .int a2] (fun u : Int32 × Int32 × Int32 × (Nat → Int32) => [(p_a, .inr (1, [.int u.1, .int u.2.1, .int u.2.2.1, .ref p_c, .ref p_d])), (p_c, .inl (cI, 4, .inl p_ca)), (p_d, .inl (cI, 16, .inl u.2.2.2))]) (p_th, p_ki, p_fe, p_lo) res := by
  intro sz
  refine k_begin (cc := cX1_lay) (maxL := 3) (ret := (some .int)) (by decide) rfl (Nat.le_of_ble_eq_true rfl) ?_
  intro p e s m below meth c ls C w hl
  generalize va_A _ sz = A at w ⊢
  have w : Wd D cI cZ b0 tt A s [(p_a, .inr (1, [.int p_th, .int p_ki, .int p_fe, .ref p_c, .ref p_d])), (p_c, .inl (cI, 4, .inl p_ca)), (p_d, .inl (cI, 16, .inl p_lo))] s.heap [] := w
  have hl : lv_has ls 3 [(0, .ref p_a), (1, .int a1), (2, .int a2)] := hl
  obtain ⟨H, eH⟩ : ∃ H, H = s.heap := ⟨_, rfl⟩
  rw [← eH] at w ⊢
  generalize ([] : List Loc) = locs at w ⊢
  generalize List.toArray _ = args at C ⊢
  obtain ⟨hx, hb, hr, hml, hown, hts, hlk⟩ := id C
  have hg : ∀ w ∈ GW, w.before args s = true := fun w h => hts w (List.mem_cons_of_mem _ h)
  unfold fX1_lay at hf
  refine lv_aload_n hx hb dX1_lay_0 rfl (lv_at hl 0 rfl) ?_
  refine lv_iload_n hx hb dX1_lay_1 rfl (lv_at hl 1 rfl) ?_
  refine lv_iload_n hx hb dX1_lay_2 rfl (lv_at hl 2 rfl) ?_
  replace hf := ob_at hf
  obtain ⟨r1, er1, hf⟩ := hf
  refine k_goV (v0 := (p_th, p_ki)) (res := r1) w [0, 1, 2] rfl (fun _ => rfl) (va_runV (As := [.int a1, .int a2]) (rest := []) ⟨hx, hb, hml, hown, hg⟩ (tX1_place l D cI cZ b0 tt p_a p_c p_d p_th p_ki p_fe p_ca p_lo a1 a2 er1 H.size) (cwV 2 hg (gwV w_290 w_195 w_196 w_3 w_197) rfl rfl rfl ⟨rfl, qdX1_place⟩ ⟨Nat.le_of_ble_eq_true rfl, Nat.le_of_ble_eq_true rfl⟩) (k_preV w [0, 1, 2] (by decide) rfl (q0 := 0) rfl rfl) rfl rfl hl.1 rfl (lv_room (Nat.le_of_ble_eq_true rfl)) dX1_lay_3 ⟨Nat.le_refl _, Nat.le_refl _⟩) (fun H locs w => ?_)
  have w : Wd D cI cZ b0 tt A s [(p_a, .inr (1, [.int r1.1, .int r1.2, .int p_fe, .ref p_c, .ref p_d])), (p_c, .inl (cI, 4, .inl p_ca)), (p_d, .inl (cI, 16, .inl p_lo))] H locs := w
  refine lv_aload_n hx hb dX1_lay_6 rfl (lv_at hl 0 rfl) ?_
  replace hf := ob_at hf
  obtain ⟨r2, er2, hf⟩ := hf
  refine k_goI (v0 := (r1.1, p_fe, p_lo)) (res := r2) w [0, 1, 2] rfl (fun _ => rfl) (va_runV (As := []) (rest := []) ⟨hx, hb, hml, hown, hg⟩ (tX1_settle l D cI cZ b0 tt p_a p_c p_d r1.1 r1.2 p_fe p_ca p_lo er2 H.size) (cwV 0 hg (gwV w_291 w_203 w_204 w_3 w_205) rfl rfl rfl ⟨rfl, qdX1_settle⟩ ⟨Nat.le_of_ble_eq_true rfl, Nat.le_of_ble_eq_true rfl⟩) (k_preV w [0, 1, 2] (by decide) rfl (q0 := 0) rfl rfl) rfl rfl hl.1 rfl (lv_room (Nat.le_of_ble_eq_true rfl)) dX1_lay_7 ⟨Nat.le_refl _, Nat.le_refl _⟩) (fun H locs w => ?_)
  have w : Wd D cI cZ b0 tt A s [(p_a, .inr (1, [.int r2.2.1, .int r1.2, .int r2.2.2.1, .ref p_c, .ref p_d])), (p_c, .inl (cI, 4, .inl p_ca)), (p_d, .inl (cI, 16, .inl r2.2.2.2))] H locs := w
  exact k_iret (u := (r2.2.1, r1.2, r2.2.2.1, r2.2.2.2)) hx hb hr hlk w rfl hf dX1_lay_10
-- X1_layIfCan
def fX1_layIfCan  (p_th : Int32) (p_ki : Int32) (p_fe : Int32) (p_ca : Nat → Int32) (p_lo : Nat → Int32) (a1 : Int32) (a2 : Int32) : Option (Int32 × Int32 × Int32 × Int32 × (Nat → Int32)) := ob (fX1_canLay p_th p_ki p_ca a1 a2) (fun r1 => (if r1 = 0 then some (0, (p_th, p_ki, p_fe, p_lo)) else ob (fX1_place p_th p_ki a1 a2) (fun r3 => ob (fX1_settle r3.1 r3.2 p_fe p_lo) (fun r4 => some (1, (r4.2.1, r3.2, r4.2.2.1, r4.2.2.2))))))
set_option maxRecDepth 100000 in
set_option maxHeartbeats 4000000 in
theorem tX1_layIfCan (l : Launch) (D : va_G) (cI cZ : ClassId) (b0 : Nat) (tt : Nat → Nat)  (p_a p_c p_d : Nat) (p_th : Int32) (p_ki : Int32) (p_fe : Int32) (p_ca : Nat → Int32) (p_lo : Nat → Int32) (a1 : Int32) (a2 : Int32) {res : Int32 × Int32 × Int32 × Int32 × (Nat → Int32)} (hf : fX1_layIfCan p_th p_ki p_fe p_ca p_lo a1 a2 = some res) : CtI l yX1_layIfCan (cwX1_layIfCan :: GW) 4 91 D cI cZ b0 tt [.ref p_a, .int a1, .int a2] (fun u : Int32 × Int32 × Int32 × (Nat → Int32) => [(p_a, .inr (1, [.int u.1, .int u.2.1, .int u.2.2.1, .ref p_c, .ref p_d])), (p_c, .inl (cI, 4, .inl p_ca)), (p_d, .inl (cI, 16, .inl u.2.2.2))]) (p_th, p_ki, p_fe, p_lo) res := by
  intro sz
  refine k_begin (cc := cX1_layIfCan) (maxL := 3) (ret := (some .boolean)) (by decide) rfl (Nat.le_of_ble_eq_true rfl) ?_
  intro p e s m below meth c ls C w hl
  generalize va_A _ sz = A at w ⊢
  have w : Wd D cI cZ b0 tt A s [(p_a, .inr (1, [.int p_th, .int p_ki, .int p_fe, .ref p_c, .ref p_d])), (p_c, .inl (cI, 4, .inl p_ca)), (p_d, .inl (cI, 16, .inl p_lo))] s.heap [] := w
  have hl : lv_has ls 3 [(0, .ref p_a), (1, .int a1), (2, .int a2)] := hl
  obtain ⟨H, eH⟩ : ∃ H, H = s.heap := ⟨_, rfl⟩
  rw [← eH] at w ⊢
  generalize ([] : List Loc) = locs at w ⊢
  generalize List.toArray _ = args at C ⊢
  obtain ⟨hx, hb, hr, hml, hown, hts, hlk⟩ := id C
  have hg : ∀ w ∈ GW, w.before args s = true := fun w h => hts w (List.mem_cons_of_mem _ h)
  unfold fX1_layIfCan at hf
  refine lv_aload_n hx hb dX1_layIfCan_0 rfl (lv_at hl 0 rfl) ?_
  refine lv_iload_n hx hb dX1_layIfCan_1 rfl (lv_at hl 1 rfl) ?_
  refine lv_iload_n hx hb dX1_layIfCan_2 rfl (lv_at hl 2 rfl) ?_
  replace hf := ob_at hf
  obtain ⟨r1, er1, hf⟩ := hf
  refine k_goI0 w [0, 1, 2] rfl (va_runV (As := [.int a1, .int a2]) (rest := []) ⟨hx, hb, hml, hown, hg⟩ (tX1_canLay l D cI cZ b0 tt p_a p_c p_d p_th p_ki p_fe p_ca p_lo a1 a2 er1 H.size) (cwV 2 hg (gwV w_377 w_190 w_191 w_3 w_192) rfl rfl rfl ⟨rfl, qdX1_canLay⟩ ⟨Nat.le_of_ble_eq_true rfl, Nat.le_of_ble_eq_true rfl⟩) (k_preV w [0, 1, 2] (by decide) rfl (q0 := 0) rfl rfl) rfl rfl hl.1 rfl (lv_room (Nat.le_of_ble_eq_true rfl)) dX1_layIfCan_3 ⟨Nat.le_refl _, Nat.le_refl _⟩) (fun H locs w => ?_)
  refine lv_if_ne (tgt := 11) hx hb dX1_layIfCan_6 (by decide) (fun c2 => ?_) (fun c2 => ?_)
  · replace hf := ite_f c2 hf
    refine lv_aload_n hx hb dX1_layIfCan_11 rfl (lv_at hl 0 rfl) ?_
    refine lv_iload_n hx hb dX1_layIfCan_12 rfl (lv_at hl 1 rfl) ?_
    refine lv_iload_n hx hb dX1_layIfCan_13 rfl (lv_at hl 2 rfl) ?_
    replace hf := ob_at hf
    obtain ⟨r3, er3, hf⟩ := hf
    refine k_goV (v0 := (p_th, p_ki)) (res := r3) w [0, 1, 2] rfl (fun _ => rfl) (va_runV (As := [.int a1, .int a2]) (rest := []) ⟨hx, hb, hml, hown, hg⟩ (tX1_place l D cI cZ b0 tt p_a p_c p_d p_th p_ki p_fe p_ca p_lo a1 a2 er3 H.size) (cwV 2 hg (gwV w_290 w_195 w_196 w_3 w_197) rfl rfl rfl ⟨rfl, qdX1_place⟩ ⟨Nat.le_of_ble_eq_true rfl, Nat.le_of_ble_eq_true rfl⟩) (k_preV w [0, 1, 2] (by decide) rfl (q0 := 0) rfl rfl) rfl rfl hl.1 rfl (lv_room (Nat.le_of_ble_eq_true rfl)) dX1_layIfCan_14 ⟨Nat.le_refl _, Nat.le_refl _⟩) (fun H locs w => ?_)
    have w : Wd D cI cZ b0 tt A s [(p_a, .inr (1, [.int r3.1, .int r3.2, .int p_fe, .ref p_c, .ref p_d])), (p_c, .inl (cI, 4, .inl p_ca)), (p_d, .inl (cI, 16, .inl p_lo))] H locs := w
    refine lv_aload_n hx hb dX1_layIfCan_17 rfl (lv_at hl 0 rfl) ?_
    replace hf := ob_at hf
    obtain ⟨r4, er4, hf⟩ := hf
    refine k_goI (v0 := (r3.1, p_fe, p_lo)) (res := r4) w [0, 1, 2] rfl (fun _ => rfl) (va_runV (As := []) (rest := []) ⟨hx, hb, hml, hown, hg⟩ (tX1_settle l D cI cZ b0 tt p_a p_c p_d r3.1 r3.2 p_fe p_ca p_lo er4 H.size) (cwV 0 hg (gwV w_291 w_203 w_204 w_3 w_205) rfl rfl rfl ⟨rfl, qdX1_settle⟩ ⟨Nat.le_of_ble_eq_true rfl, Nat.le_of_ble_eq_true rfl⟩) (k_preV w [0, 1, 2] (by decide) rfl (q0 := 0) rfl rfl) rfl rfl hl.1 rfl (lv_room (Nat.le_of_ble_eq_true rfl)) dX1_layIfCan_18 ⟨Nat.le_refl _, Nat.le_refl _⟩) (fun H locs w => ?_)
    have w : Wd D cI cZ b0 tt A s [(p_a, .inr (1, [.int r4.2.1, .int r3.2, .int r4.2.2.1, .ref p_c, .ref p_d])), (p_c, .inl (cI, 4, .inl p_ca)), (p_d, .inl (cI, 16, .inl r4.2.2.2))] H locs := w
    refine lv_pop hx hb dX1_layIfCan_21 rfl ?_
    refine lv_iconst (v := 1) hx hb dX1_layIfCan_22 (by decide) ?_
    exact k_zret (u := (r4.2.1, r3.2, r4.2.2.1, r4.2.2.2)) hx hb hr hlk w rfl rfl hf dX1_layIfCan_23
  · replace hf := ite_t c2 hf
    refine lv_iconst (v := 0) hx hb dX1_layIfCan_9 (by decide) ?_
    exact k_zret (u := (p_th, p_ki, p_fe, p_lo)) hx hb hr hlk w rfl rfl hf dX1_layIfCan_10
-- X1_canLift
def fX1_canLift  (p_th : Int32) (a1 : Int32) : Option (Int32) := ob (fX1_has p_th a1) (fun r1 => (if r1 = 0 then some 0 else ob (fX1_goneWith p_th ((1 : Int32) <<< (a1 &&& 31))) (fun r3 => (if r3 = ((1 : Int32) <<< (a1 &&& 31)) then some 1 else some 0))))
set_option maxRecDepth 100000 in
set_option maxHeartbeats 4000000 in
theorem tX1_canLift (l : Launch) (D : va_G) (cI cZ : ClassId) (b0 : Nat) (tt : Nat → Nat)  (p_a p_c p_d : Nat) (p_th : Int32) (p_ki : Int32) (p_fe : Int32) (p_ca : Nat → Int32) (p_lo : Nat → Int32) (a1 : Int32) {res : Int32} (hf : fX1_canLift p_th a1 = some res) : CtI l yX1_canLift (cwX1_canLift :: GW) 2 44 D cI cZ b0 tt [.ref p_a, .int a1] (fun _ : Unit => [(p_a, .inr (1, [.int p_th, .int p_ki, .int p_fe, .ref p_c, .ref p_d])), (p_c, .inl (cI, 4, .inl p_ca)), (p_d, .inl (cI, 16, .inl p_lo))]) () (res, ()) := by
  intro sz
  refine k_begin (cc := cX1_canLift) (maxL := 2) (ret := (some .boolean)) (by decide) rfl (Nat.le_of_ble_eq_true rfl) ?_
  intro p e s m below meth c ls C w hl
  generalize va_A _ sz = A at w ⊢
  have w : Wd D cI cZ b0 tt A s [(p_a, .inr (1, [.int p_th, .int p_ki, .int p_fe, .ref p_c, .ref p_d])), (p_c, .inl (cI, 4, .inl p_ca)), (p_d, .inl (cI, 16, .inl p_lo))] s.heap [] := w
  have hl : lv_has ls 2 [(0, .ref p_a), (1, .int a1)] := hl
  obtain ⟨H, eH⟩ : ∃ H, H = s.heap := ⟨_, rfl⟩
  rw [← eH] at w ⊢
  generalize ([] : List Loc) = locs at w ⊢
  generalize List.toArray _ = args at C ⊢
  obtain ⟨hx, hb, hr, hml, hown, hts, hlk⟩ := id C
  have hg : ∀ w ∈ GW, w.before args s = true := fun w h => hts w (List.mem_cons_of_mem _ h)
  unfold fX1_canLift at hf
  refine lv_aload_n hx hb dX1_canLift_0 rfl (lv_at hl 0 rfl) ?_
  refine lv_iload_n hx hb dX1_canLift_1 rfl (lv_at hl 1 rfl) ?_
  replace hf := ob_at hf
  obtain ⟨r1, er1, hf⟩ := hf
  refine k_goI0 w [0, 1, 2] rfl (va_runV (As := [.int a1]) (rest := []) ⟨hx, hb, hml, hown, hg⟩ (tX1_has l D cI cZ b0 tt p_a p_c p_d p_th p_ki p_fe p_ca p_lo a1 er1 H.size) (cwV 1 hg (gwV w_165 w_166 w_167 w_3 w_168) rfl rfl rfl ⟨rfl, qdX1_has⟩ ⟨Nat.le_of_ble_eq_true rfl, Nat.le_of_ble_eq_true rfl⟩) (k_preV w [0, 1, 2] (by decide) rfl (q0 := 0) rfl rfl) rfl rfl hl.1 rfl (lv_room (Nat.le_of_ble_eq_true rfl)) dX1_canLift_2 ⟨Nat.le_refl _, Nat.le_refl _⟩) (fun H locs w => ?_)
  refine lv_if_eq (tgt := 25) hx hb dX1_canLift_5 (by decide) (fun c2 => ?_) (fun c2 => ?_)
  · replace hf := ite_t c2 hf
    refine lv_iconst (v := 0) hx hb dX1_canLift_25 (by decide) ?_
    exact k_zret (u := ()) hx hb hr hlk w rfl rfl (k_ret1 hf) dX1_canLift_26
  · replace hf := ite_f c2 hf
    refine lv_aload_n hx hb dX1_canLift_8 rfl (lv_at hl 0 rfl) ?_
    refine lv_iconst (v := 1) hx hb dX1_canLift_9 (by decide) ?_
    refine lv_iload_n hx hb dX1_canLift_10 rfl (lv_at hl 1 rfl) ?_
    refine lv_ishl hx hb dX1_canLift_11 ?_
    replace hf := ob_at hf
    obtain ⟨r3, er3, hf⟩ := hf
    refine k_goI0 w [0, 1, 2] rfl (va_runV (As := [.int ((1 : Int32) <<< (a1 &&& 31))]) (rest := []) ⟨hx, hb, hml, hown, hg⟩ (tX1_goneWith l D cI cZ b0 tt p_a p_c p_d p_th p_ki p_fe p_ca p_lo ((1 : Int32) <<< (a1 &&& 31)) er3 H.size) (cwV 1 hg (gwV w_218 w_219 w_220 w_3 w_221) rfl rfl rfl ⟨rfl, qdX1_goneWith⟩ ⟨Nat.le_of_ble_eq_true rfl, Nat.le_of_ble_eq_true rfl⟩) (k_preV w [0, 1, 2] (by decide) rfl (q0 := 0) rfl rfl) rfl rfl hl.1 rfl (lv_room (Nat.le_of_ble_eq_true rfl)) dX1_canLift_12 ⟨Nat.le_refl _, Nat.le_refl _⟩) (fun H locs w => ?_)
    refine lv_iconst (v := 1) hx hb dX1_canLift_15 (by decide) ?_
    refine lv_iload_n hx hb dX1_canLift_16 rfl (lv_at hl 1 rfl) ?_
    refine lv_ishl hx hb dX1_canLift_17 ?_
    refine lv_icmp_ne (tgt := 25) hx hb dX1_canLift_18 (by decide) (fun c4 => ?_) (fun c4 => ?_)
    · replace hf := ite_f c4 hf
      refine lv_iconst (v := 0) hx hb dX1_canLift_25 (by decide) ?_
      exact k_zret (u := ()) hx hb hr hlk w rfl rfl (k_ret1 hf) dX1_canLift_26
    · replace hf := ite_t c4 hf
      refine lv_iconst (v := 1) hx hb dX1_canLift_21 (by decide) ?_
      refine lv_goto (tgt := 26) hx hb dX1_canLift_22 (by decide) ?_
      exact k_zret (u := ()) hx hb hr hlk w rfl rfl (k_ret1 hf) dX1_canLift_26
