-- X4_canBeDone
def fX4_canBeDone  (r_th : Int32) (r_ki : Int32) (r_fe : Int32) (r_ca : Nat → Int32) (r_lo : Nat → Int32) (a1 : Int32) : Option (Int32 × Int32 × Int32 × Int32 × (Nat → Int32)) := nm ((a1 / (10 : Int32)) - (a1 / (10 : Int32)) / (100 : Int32) * (100 : Int32)) (fun z1 => nm (a1 - a1 / (10 : Int32) * (10 : Int32)) (fun z2 => nm (a1 / (1000 : Int32)) (fun z3 => (if z3 = 1 then ob (fX1_layIfCan r_th r_ki r_fe r_ca r_lo z1 z2) (fun r5 => gz r5.1 (some (r5.1, (r5.2.1, r5.2.2.1, r5.2.2.2.1, r5.2.2.2.2)))) else (if z3 = 2 then (if z2 = 0 then ob (fX1_liftIfCan r_th z1) (fun r9 => (if r9.1 = 0 then some (0, (r9.2, r_ki, r_fe, r_lo)) else some (1, (r9.2, r_ki, r_fe, r_lo)))) else some (0, (r_th, r_ki, r_fe, r_lo))) else (if z3 = 3 then ob (fX1_blowIfCan r_th r_ki r_fe r_lo z1 z2) (fun r12 => gz r12.1 (some (r12.1, (r12.2.1, r_ki, r12.2.2.1, r12.2.2.2)))) else (if z3 = 4 then (if z2 = 0 then ob (fX4_isPiece z1) (fun r16 => (if r16 = 0 then some (0, (r_th, r_ki, r_fe, r_lo)) else ob (fX1_has r_th z1) (fun r18 => (if r18 = 0 then some (0, (r_th, r_ki, r_fe, r_lo)) else some (1, (r_th, r_ki, r_fe, r_lo)))))) else some (0, (r_th, r_ki, r_fe, r_lo))) else (if z3 = 5 then (if z2 = 0 then ob (fX1_size r_th) (fun r22 => (if r22 < z1 then some (0, (r_th, r_ki, r_fe, r_lo)) else some (1, (r_th, r_ki, r_fe, r_lo)))) else some (0, (r_th, r_ki, r_fe, r_lo))) else some (0, (r_th, r_ki, r_fe, r_lo))))))))))
set_option maxRecDepth 100000 in
set_option maxHeartbeats 4000000 in
theorem tX4_canBeDone (l : Launch) (D : va_G) (cI cZ : ClassId) (b0 : Nat) (tt : Nat → Nat)  (h_a x_a n_a r_a c_a s_a k_a x_l n_c n_d r_c r_d c_t c_k c_f s_t s_k s_f k_f k_s : Nat) (h_ac : Int32) (h_ks : Int32) (h_hc : Int32) (h_ok : Int32) (h_tk : Int32) (h_se : Int64) (x_ln : Int32) (x_le : Nat → Int32) (n_th : Int32) (n_ki : Int32) (n_fe : Int32) (n_ca : Nat → Int32) (n_lo : Nat → Int32) (r_th : Int32) (r_ki : Int32) (r_fe : Int32) (r_ca : Nat → Int32) (r_lo : Nat → Int32) (c_sz : Int32) (c_st : Nat → Int32) (c_sk : Nat → Int32) (c_sf : Nat → Int32) (s_sz : Int32) (s_st : Nat → Int32) (s_sk : Nat → Int32) (s_sf : Nat → Int32) (k_fh : Nat → Int32) (k_sh : Nat → Int32) (a1 : Int32) {res : Int32 × Int32 × Int32 × Int32 × (Nat → Int32)} (hf : fX4_canBeDone r_th r_ki r_fe r_ca r_lo a1 = some res) : CtI l yX4_canBeDone (cwX4_canBeDone :: GW) 5 113 D cI cZ b0 tt [.ref h_a, .int a1] (fun u : Int32 × Int32 × Int32 × (Nat → Int32) => [(h_a, .inr (4, [.ref x_a, .ref n_a, .ref r_a, .ref c_a, .ref s_a, .ref k_a, .int h_ac, .int h_ks, .int h_hc, .int h_ok, .int h_tk, .long h_se])), (x_a, .inr (3, [.ref x_l, .int x_ln])), (x_l, .inl (cI, 56, .inl x_le)), (n_a, .inr (1, [.int n_th, .int n_ki, .int n_fe, .ref n_c, .ref n_d])), (n_c, .inl (cI, 4, .inl n_ca)), (n_d, .inl (cI, 16, .inl n_lo)), (r_a, .inr (1, [.int u.1, .int u.2.1, .int u.2.2.1, .ref r_c, .ref r_d])), (r_c, .inl (cI, 4, .inl r_ca)), (r_d, .inl (cI, 16, .inl u.2.2.2)), (c_a, .inr (2, [.int c_sz, .ref c_t, .ref c_k, .ref c_f])), (c_t, .inl (cI, 14, .inl c_st)), (c_k, .inl (cI, 14, .inl c_sk)), (c_f, .inl (cI, 14, .inl c_sf)), (s_a, .inr (2, [.int s_sz, .ref s_t, .ref s_k, .ref s_f])), (s_t, .inl (cI, 2, .inl s_st)), (s_k, .inl (cI, 2, .inl s_sk)), (s_f, .inl (cI, 2, .inl s_sf)), (k_a, .inr (0, [.ref k_f, .ref k_s])), (k_f, .inl (cI, 25, .inl k_fh)), (k_s, .inl (cI, 25, .inl k_sh))]) (r_th, r_ki, r_fe, r_lo) res := by
  intro sz
  refine k_begin (cc := cX4_canBeDone) (maxL := 4) (ret := (some .boolean)) (by decide) rfl (Nat.le_of_ble_eq_true rfl) ?_
  intro p e s m below meth c ls C w hl
  generalize va_A _ sz = A at w ⊢
  have w : Wd D cI cZ b0 tt A s [(h_a, .inr (4, [.ref x_a, .ref n_a, .ref r_a, .ref c_a, .ref s_a, .ref k_a, .int h_ac, .int h_ks, .int h_hc, .int h_ok, .int h_tk, .long h_se])), (x_a, .inr (3, [.ref x_l, .int x_ln])), (x_l, .inl (cI, 56, .inl x_le)), (n_a, .inr (1, [.int n_th, .int n_ki, .int n_fe, .ref n_c, .ref n_d])), (n_c, .inl (cI, 4, .inl n_ca)), (n_d, .inl (cI, 16, .inl n_lo)), (r_a, .inr (1, [.int r_th, .int r_ki, .int r_fe, .ref r_c, .ref r_d])), (r_c, .inl (cI, 4, .inl r_ca)), (r_d, .inl (cI, 16, .inl r_lo)), (c_a, .inr (2, [.int c_sz, .ref c_t, .ref c_k, .ref c_f])), (c_t, .inl (cI, 14, .inl c_st)), (c_k, .inl (cI, 14, .inl c_sk)), (c_f, .inl (cI, 14, .inl c_sf)), (s_a, .inr (2, [.int s_sz, .ref s_t, .ref s_k, .ref s_f])), (s_t, .inl (cI, 2, .inl s_st)), (s_k, .inl (cI, 2, .inl s_sk)), (s_f, .inl (cI, 2, .inl s_sf)), (k_a, .inr (0, [.ref k_f, .ref k_s])), (k_f, .inl (cI, 25, .inl k_fh)), (k_s, .inl (cI, 25, .inl k_sh))] s.heap [] := w
  have hl : lv_has ls 4 [(0, .ref h_a), (1, .int a1)] := hl
  obtain ⟨H, eH⟩ : ∃ H, H = s.heap := ⟨_, rfl⟩
  rw [← eH] at w ⊢
  generalize ([] : List Loc) = locs at w ⊢
  generalize List.toArray _ = args at C ⊢
  obtain ⟨hx, hb, hr, hml, hown, hts, hlk⟩ := id C
  have hg : ∀ w ∈ GW, w.before args s = true := fun w h => hts w (List.mem_cons_of_mem _ h)
  unfold fX4_canBeDone at hf
  refine lv_iload_n hx hb dX4_canBeDone_0 rfl (lv_at hl 1 rfl) ?_
  refine lv_bipush (v := 10) hx hb dX4_canBeDone_1 (by decide) ?_
  refine lv_idiv hx hb dX4_canBeDone_3 (by decide) ?_
  refine lv_bipush (v := 100) hx hb dX4_canBeDone_4 (by decide) ?_
  refine lv_irem hx hb dX4_canBeDone_6 (by decide) ?_
  refine lv_topi (fun z1 ez1 => ?_)
  replace hf := nm_at ez1 hf
  refine lv_istore_n (lv' := [(2, .int z1), (0, .ref h_a), (1, .int a1)]) hx hb dX4_canBeDone_7 rfl hl (by decide) rfl (fun ls hl => ?_)
  refine lv_iload_n hx hb dX4_canBeDone_8 rfl (lv_at hl 2 rfl) ?_
  refine lv_bipush (v := 10) hx hb dX4_canBeDone_9 (by decide) ?_
  refine lv_irem hx hb dX4_canBeDone_11 (by decide) ?_
  refine lv_topi (fun z2 ez2 => ?_)
  replace hf := nm_at ez2 hf
  refine lv_istore_n (lv' := [(3, .int z2), (2, .int z1), (0, .ref h_a), (1, .int a1)]) hx hb dX4_canBeDone_12 rfl hl (by decide) rfl (fun ls hl => ?_)
  refine lv_iload_n hx hb dX4_canBeDone_13 rfl (lv_at hl 3 rfl) ?_
  refine lv_sipush (v := 1000) hx hb dX4_canBeDone_14 (by decide) ?_
  refine lv_idiv hx hb dX4_canBeDone_17 (by decide) ?_
  refine lv_topi (fun z3 ez3 => ?_)
  replace hf := nm_at ez3 hf
  by_cases c4 : z3 = 1
  · replace hf := ite_t c4 hf
    refine lv_tableIn (off := 34) (tgt := 52) hx hb dX4_canBeDone_18 (by rw [c4]; decide) (by rw [c4]; decide) (by rw [c4]; decide) (by decide) ?_
    refine lv_aload_n hx hb dX4_canBeDone_52 rfl (lv_at hl 2 rfl) ?_
    refine va_get (D := D) (ci := 4) (v := .ref r_a) (C := RX4) (T := TX4) (N := 12) hx hb hg iX4 hown w.2.2.2.2.2.2.1 w.1 0 rfl rfl 2 (by decide) (hg _ w_87) (fun _ h9 => h9) rfl dX4_canBeDone_53 ?_
    refine lv_iload_n hx hb dX4_canBeDone_56 rfl (lv_at hl 1 rfl) ?_
    refine lv_iload_n hx hb dX4_canBeDone_57 rfl (lv_at hl 0 rfl) ?_
    replace hf := ob_at hf
    obtain ⟨r5, er5, hf⟩ := hf
    refine k_goI (v0 := (r_th, r_ki, r_fe, r_lo)) (res := r5) w [6, 7, 8] rfl (fun _ => rfl) (va_runV (As := [.int z1, .int z2]) (rest := []) ⟨hx, hb, hml, hown, hg⟩ (tX1_layIfCan l D cI cZ b0 tt r_a r_c r_d r_th r_ki r_fe r_ca r_lo z1 z2 er5 H.size) (cwV 2 hg (gwV w_373 w_374 w_375 w_3 w_376) rfl rfl rfl ⟨rfl, qdX1_layIfCan⟩ ⟨Nat.le_of_ble_eq_true rfl, Nat.le_of_ble_eq_true rfl⟩) (k_preV w [6, 7, 8] (by decide) rfl (q0 := 6) rfl rfl) rfl rfl hl.1 rfl (lv_room (Nat.le_of_ble_eq_true rfl)) dX4_canBeDone_58 ⟨Nat.le_refl _, Nat.le_refl _⟩) (fun H locs w => ?_)
    have w : Wd D cI cZ b0 tt A s [(h_a, .inr (4, [.ref x_a, .ref n_a, .ref r_a, .ref c_a, .ref s_a, .ref k_a, .int h_ac, .int h_ks, .int h_hc, .int h_ok, .int h_tk, .long h_se])), (x_a, .inr (3, [.ref x_l, .int x_ln])), (x_l, .inl (cI, 56, .inl x_le)), (n_a, .inr (1, [.int n_th, .int n_ki, .int n_fe, .ref n_c, .ref n_d])), (n_c, .inl (cI, 4, .inl n_ca)), (n_d, .inl (cI, 16, .inl n_lo)), (r_a, .inr (1, [.int r5.2.1, .int r5.2.2.1, .int r5.2.2.2.1, .ref r_c, .ref r_d])), (r_c, .inl (cI, 4, .inl r_ca)), (r_d, .inl (cI, 16, .inl r5.2.2.2.2)), (c_a, .inr (2, [.int c_sz, .ref c_t, .ref c_k, .ref c_f])), (c_t, .inl (cI, 14, .inl c_st)), (c_k, .inl (cI, 14, .inl c_sk)), (c_f, .inl (cI, 14, .inl c_sf)), (s_a, .inr (2, [.int s_sz, .ref s_t, .ref s_k, .ref s_f])), (s_t, .inl (cI, 2, .inl s_st)), (s_k, .inl (cI, 2, .inl s_sk)), (s_f, .inl (cI, 2, .inl s_sf)), (k_a, .inr (0, [.ref k_f, .ref k_s])), (k_f, .inl (cI, 25, .inl k_fh)), (k_s, .inl (cI, 25, .inl k_sh))] H locs := w
    obtain ⟨hn6, hf⟩ := gz_at hf
    exact k_zret (u := (r5.2.1, r5.2.2.1, r5.2.2.2.1, r5.2.2.2.2)) hx hb hr hlk w rfl hn6 hf dX4_canBeDone_61
  · replace hf := ite_f c4 hf
    by_cases c7 : z3 = 2
    · replace hf := ite_t c7 hf
      refine lv_tableIn (off := 44) (tgt := 62) hx hb dX4_canBeDone_18 (by rw [c7]; decide) (by rw [c7]; decide) (by rw [c7]; decide) (by decide) ?_
      refine lv_iload_n hx hb dX4_canBeDone_62 rfl (lv_at hl 0 rfl) ?_
      refine lv_if_ne (tgt := 81) hx hb dX4_canBeDone_63 (by decide) (fun c8 => ?_) (fun c8 => ?_)
      · replace hf := ite_f c8 hf
        refine lv_iconst (v := 0) hx hb dX4_canBeDone_81 (by decide) ?_
        exact k_zret (u := (r_th, r_ki, r_fe, r_lo)) hx hb hr hlk w rfl rfl hf dX4_canBeDone_82
      · replace hf := ite_t c8 hf
        refine lv_aload_n hx hb dX4_canBeDone_66 rfl (lv_at hl 2 rfl) ?_
        refine va_get (D := D) (ci := 4) (v := .ref r_a) (C := RX4) (T := TX4) (N := 12) hx hb hg iX4 hown w.2.2.2.2.2.2.1 w.1 0 rfl rfl 2 (by decide) (hg _ w_87) (fun _ h9 => h9) rfl dX4_canBeDone_67 ?_
        refine lv_iload_n hx hb dX4_canBeDone_70 rfl (lv_at hl 1 rfl) ?_
        replace hf := ob_at hf
        obtain ⟨r9, er9, hf⟩ := hf
        refine k_goI (v0 := r_th) (res := r9) w [6, 7, 8] rfl (fun _ => rfl) (va_runV (As := [.int z1]) (rest := []) ⟨hx, hb, hml, hown, hg⟩ (tX1_liftIfCan l D cI cZ b0 tt r_a r_c r_d r_th r_ki r_fe r_ca r_lo z1 er9 H.size) (cwV 1 hg (gwV w_378 w_379 w_380 w_3 w_381) rfl rfl rfl ⟨rfl, qdX1_liftIfCan⟩ ⟨Nat.le_of_ble_eq_true rfl, Nat.le_of_ble_eq_true rfl⟩) (k_preV w [6, 7, 8] (by decide) rfl (q0 := 6) rfl rfl) rfl rfl hl.1 rfl (lv_room (Nat.le_of_ble_eq_true rfl)) dX4_canBeDone_71 ⟨Nat.le_refl _, Nat.le_refl _⟩) (fun H locs w => ?_)
        have w : Wd D cI cZ b0 tt A s [(h_a, .inr (4, [.ref x_a, .ref n_a, .ref r_a, .ref c_a, .ref s_a, .ref k_a, .int h_ac, .int h_ks, .int h_hc, .int h_ok, .int h_tk, .long h_se])), (x_a, .inr (3, [.ref x_l, .int x_ln])), (x_l, .inl (cI, 56, .inl x_le)), (n_a, .inr (1, [.int n_th, .int n_ki, .int n_fe, .ref n_c, .ref n_d])), (n_c, .inl (cI, 4, .inl n_ca)), (n_d, .inl (cI, 16, .inl n_lo)), (r_a, .inr (1, [.int r9.2, .int r_ki, .int r_fe, .ref r_c, .ref r_d])), (r_c, .inl (cI, 4, .inl r_ca)), (r_d, .inl (cI, 16, .inl r_lo)), (c_a, .inr (2, [.int c_sz, .ref c_t, .ref c_k, .ref c_f])), (c_t, .inl (cI, 14, .inl c_st)), (c_k, .inl (cI, 14, .inl c_sk)), (c_f, .inl (cI, 14, .inl c_sf)), (s_a, .inr (2, [.int s_sz, .ref s_t, .ref s_k, .ref s_f])), (s_t, .inl (cI, 2, .inl s_st)), (s_k, .inl (cI, 2, .inl s_sk)), (s_f, .inl (cI, 2, .inl s_sf)), (k_a, .inr (0, [.ref k_f, .ref k_s])), (k_f, .inl (cI, 25, .inl k_fh)), (k_s, .inl (cI, 25, .inl k_sh))] H locs := w
        refine lv_if_eq (tgt := 81) hx hb dX4_canBeDone_74 (by decide) (fun c10 => ?_) (fun c10 => ?_)
        · replace hf := ite_t c10 hf
          refine lv_iconst (v := 0) hx hb dX4_canBeDone_81 (by decide) ?_
          exact k_zret (u := (r9.2, r_ki, r_fe, r_lo)) hx hb hr hlk w rfl rfl hf dX4_canBeDone_82
        · replace hf := ite_f c10 hf
          refine lv_iconst (v := 1) hx hb dX4_canBeDone_77 (by decide) ?_
          refine lv_goto (tgt := 82) hx hb dX4_canBeDone_78 (by decide) ?_
          exact k_zret (u := (r9.2, r_ki, r_fe, r_lo)) hx hb hr hlk w rfl rfl hf dX4_canBeDone_82
    · replace hf := ite_f c7 hf
      by_cases c11 : z3 = 3
      · replace hf := ite_t c11 hf
        refine lv_tableIn (off := 65) (tgt := 83) hx hb dX4_canBeDone_18 (by rw [c11]; decide) (by rw [c11]; decide) (by rw [c11]; decide) (by decide) ?_
        refine lv_aload_n hx hb dX4_canBeDone_83 rfl (lv_at hl 2 rfl) ?_
        refine va_get (D := D) (ci := 4) (v := .ref r_a) (C := RX4) (T := TX4) (N := 12) hx hb hg iX4 hown w.2.2.2.2.2.2.1 w.1 0 rfl rfl 2 (by decide) (hg _ w_87) (fun _ h9 => h9) rfl dX4_canBeDone_84 ?_
        refine lv_iload_n hx hb dX4_canBeDone_87 rfl (lv_at hl 1 rfl) ?_
        refine lv_iload_n hx hb dX4_canBeDone_88 rfl (lv_at hl 0 rfl) ?_
        replace hf := ob_at hf
        obtain ⟨r12, er12, hf⟩ := hf
        refine k_goI (v0 := (r_th, r_fe, r_lo)) (res := r12) w [6, 7, 8] rfl (fun _ => rfl) (va_runV (As := [.int z1, .int z2]) (rest := []) ⟨hx, hb, hml, hown, hg⟩ (tX1_blowIfCan l D cI cZ b0 tt r_a r_c r_d r_th r_ki r_fe r_ca r_lo z1 z2 er12 H.size) (cwV 2 hg (gwV w_384 w_385 w_386 w_3 w_387) rfl rfl rfl ⟨rfl, qdX1_blowIfCan⟩ ⟨Nat.le_of_ble_eq_true rfl, Nat.le_of_ble_eq_true rfl⟩) (k_preV w [6, 7, 8] (by decide) rfl (q0 := 6) rfl rfl) rfl rfl hl.1 rfl (lv_room (Nat.le_of_ble_eq_true rfl)) dX4_canBeDone_89 ⟨Nat.le_refl _, Nat.le_refl _⟩) (fun H locs w => ?_)
        have w : Wd D cI cZ b0 tt A s [(h_a, .inr (4, [.ref x_a, .ref n_a, .ref r_a, .ref c_a, .ref s_a, .ref k_a, .int h_ac, .int h_ks, .int h_hc, .int h_ok, .int h_tk, .long h_se])), (x_a, .inr (3, [.ref x_l, .int x_ln])), (x_l, .inl (cI, 56, .inl x_le)), (n_a, .inr (1, [.int n_th, .int n_ki, .int n_fe, .ref n_c, .ref n_d])), (n_c, .inl (cI, 4, .inl n_ca)), (n_d, .inl (cI, 16, .inl n_lo)), (r_a, .inr (1, [.int r12.2.1, .int r_ki, .int r12.2.2.1, .ref r_c, .ref r_d])), (r_c, .inl (cI, 4, .inl r_ca)), (r_d, .inl (cI, 16, .inl r12.2.2.2)), (c_a, .inr (2, [.int c_sz, .ref c_t, .ref c_k, .ref c_f])), (c_t, .inl (cI, 14, .inl c_st)), (c_k, .inl (cI, 14, .inl c_sk)), (c_f, .inl (cI, 14, .inl c_sf)), (s_a, .inr (2, [.int s_sz, .ref s_t, .ref s_k, .ref s_f])), (s_t, .inl (cI, 2, .inl s_st)), (s_k, .inl (cI, 2, .inl s_sk)), (s_f, .inl (cI, 2, .inl s_sf)), (k_a, .inr (0, [.ref k_f, .ref k_s])), (k_f, .inl (cI, 25, .inl k_fh)), (k_s, .inl (cI, 25, .inl k_sh))] H locs := w
        obtain ⟨hn13, hf⟩ := gz_at hf
        exact k_zret (u := (r12.2.1, r_ki, r12.2.2.1, r12.2.2.2)) hx hb hr hlk w rfl hn13 hf dX4_canBeDone_92
      · replace hf := ite_f c11 hf
        by_cases c14 : z3 = 4
        · replace hf := ite_t c14 hf
          refine lv_tableIn (off := 75) (tgt := 93) hx hb dX4_canBeDone_18 (by rw [c14]; decide) (by rw [c14]; decide) (by rw [c14]; decide) (by decide) ?_
          refine lv_iload_n hx hb dX4_canBeDone_93 rfl (lv_at hl 0 rfl) ?_
          refine lv_if_ne (tgt := 119) hx hb dX4_canBeDone_94 (by decide) (fun c15 => ?_) (fun c15 => ?_)
          · replace hf := ite_f c15 hf
            refine lv_iconst (v := 0) hx hb dX4_canBeDone_119 (by decide) ?_
            exact k_zret (u := (r_th, r_ki, r_fe, r_lo)) hx hb hr hlk w rfl rfl hf dX4_canBeDone_120
          · replace hf := ite_t c15 hf
            refine lv_iload_n hx hb dX4_canBeDone_97 rfl (lv_at hl 1 rfl) ?_
            replace hf := ob_at hf
            obtain ⟨r16, er16, hf⟩ := hf
            refine k_goI0 w [] rfl (va_runS (As := [.int z1]) (rest := []) ⟨hx, hb, hml, hown, hg⟩ (tX4_isPiece l D cI cZ b0 tt z1 er16 H.size) (va_cwS 1 hg (gwS w_257 w_184 w_1 w_185) rfl rfl rfl qdX4_isPiece ⟨Nat.le_of_ble_eq_true rfl, Nat.le_of_ble_eq_true rfl⟩) (k_preS w [] (by decide) rfl) rfl rfl hl.1 rfl (lv_room (Nat.le_of_ble_eq_true rfl)) dX4_canBeDone_98 ⟨Nat.le_refl _, Nat.le_refl _⟩) (fun H locs w => ?_)
            refine lv_if_eq (tgt := 119) hx hb dX4_canBeDone_101 (by decide) (fun c17 => ?_) (fun c17 => ?_)
            · replace hf := ite_t c17 hf
              refine lv_iconst (v := 0) hx hb dX4_canBeDone_119 (by decide) ?_
              exact k_zret (u := (r_th, r_ki, r_fe, r_lo)) hx hb hr hlk w rfl rfl hf dX4_canBeDone_120
            · replace hf := ite_f c17 hf
              refine lv_aload_n hx hb dX4_canBeDone_104 rfl (lv_at hl 2 rfl) ?_
              refine va_get (D := D) (ci := 4) (v := .ref r_a) (C := RX4) (T := TX4) (N := 12) hx hb hg iX4 hown w.2.2.2.2.2.2.1 w.1 0 rfl rfl 2 (by decide) (hg _ w_87) (fun _ h9 => h9) rfl dX4_canBeDone_105 ?_
              refine lv_iload_n hx hb dX4_canBeDone_108 rfl (lv_at hl 1 rfl) ?_
              replace hf := ob_at hf
              obtain ⟨r18, er18, hf⟩ := hf
              refine k_goI0 w [6, 7, 8] rfl (va_runV (As := [.int z1]) (rest := []) ⟨hx, hb, hml, hown, hg⟩ (tX1_has l D cI cZ b0 tt r_a r_c r_d r_th r_ki r_fe r_ca r_lo z1 er18 H.size) (cwV 1 hg (gwV w_258 w_166 w_167 w_3 w_168) rfl rfl rfl ⟨rfl, qdX1_has⟩ ⟨Nat.le_of_ble_eq_true rfl, Nat.le_of_ble_eq_true rfl⟩) (k_preV w [6, 7, 8] (by decide) rfl (q0 := 6) rfl rfl) rfl rfl hl.1 rfl (lv_room (Nat.le_of_ble_eq_true rfl)) dX4_canBeDone_109 ⟨Nat.le_refl _, Nat.le_refl _⟩) (fun H locs w => ?_)
              refine lv_if_eq (tgt := 119) hx hb dX4_canBeDone_112 (by decide) (fun c19 => ?_) (fun c19 => ?_)
              · replace hf := ite_t c19 hf
                refine lv_iconst (v := 0) hx hb dX4_canBeDone_119 (by decide) ?_
                exact k_zret (u := (r_th, r_ki, r_fe, r_lo)) hx hb hr hlk w rfl rfl hf dX4_canBeDone_120
              · replace hf := ite_f c19 hf
                refine lv_iconst (v := 1) hx hb dX4_canBeDone_115 (by decide) ?_
                refine lv_goto (tgt := 120) hx hb dX4_canBeDone_116 (by decide) ?_
                exact k_zret (u := (r_th, r_ki, r_fe, r_lo)) hx hb hr hlk w rfl rfl hf dX4_canBeDone_120
        · replace hf := ite_f c14 hf
          by_cases c20 : z3 = 5
          · replace hf := ite_t c20 hf
            refine lv_tableIn (off := 103) (tgt := 121) hx hb dX4_canBeDone_18 (by rw [c20]; decide) (by rw [c20]; decide) (by rw [c20]; decide) (by decide) ?_
            refine lv_iload_n hx hb dX4_canBeDone_121 rfl (lv_at hl 0 rfl) ?_
            refine lv_if_ne (tgt := 140) hx hb dX4_canBeDone_122 (by decide) (fun c21 => ?_) (fun c21 => ?_)
            · replace hf := ite_f c21 hf
              refine lv_iconst (v := 0) hx hb dX4_canBeDone_140 (by decide) ?_
              exact k_zret (u := (r_th, r_ki, r_fe, r_lo)) hx hb hr hlk w rfl rfl hf dX4_canBeDone_141
            · replace hf := ite_t c21 hf
              refine lv_aload_n hx hb dX4_canBeDone_125 rfl (lv_at hl 2 rfl) ?_
              refine va_get (D := D) (ci := 4) (v := .ref r_a) (C := RX4) (T := TX4) (N := 12) hx hb hg iX4 hown w.2.2.2.2.2.2.1 w.1 0 rfl rfl 2 (by decide) (hg _ w_87) (fun _ h9 => h9) rfl dX4_canBeDone_126 ?_
              replace hf := ob_at hf
              obtain ⟨r22, er22, hf⟩ := hf
              refine k_goI0 w [6, 7, 8] rfl (va_runV (As := []) (rest := []) ⟨hx, hb, hml, hown, hg⟩ (tX1_size l D cI cZ b0 tt r_a r_c r_d r_th r_ki r_fe r_ca r_lo er22 H.size) (cwV 0 hg (gwV w_232 w_233 w_234 w_3 w_235) rfl rfl rfl ⟨rfl, qdX1_size⟩ ⟨Nat.le_of_ble_eq_true rfl, Nat.le_of_ble_eq_true rfl⟩) (k_preV w [6, 7, 8] (by decide) rfl (q0 := 6) rfl rfl) rfl rfl hl.1 rfl (lv_room (Nat.le_of_ble_eq_true rfl)) dX4_canBeDone_129 ⟨Nat.le_refl _, Nat.le_refl _⟩) (fun H locs w => ?_)
              refine lv_iload_n hx hb dX4_canBeDone_132 rfl (lv_at hl 1 rfl) ?_
              refine lv_icmp_lt (tgt := 140) hx hb dX4_canBeDone_133 (by decide) (fun c23 => ?_) (fun c23 => ?_)
              · replace hf := ite_t c23 hf
                refine lv_iconst (v := 0) hx hb dX4_canBeDone_140 (by decide) ?_
                exact k_zret (u := (r_th, r_ki, r_fe, r_lo)) hx hb hr hlk w rfl rfl hf dX4_canBeDone_141
              · replace hf := ite_f c23 hf
                refine lv_iconst (v := 1) hx hb dX4_canBeDone_136 (by decide) ?_
                refine lv_goto (tgt := 141) hx hb dX4_canBeDone_137 (by decide) ?_
                exact k_zret (u := (r_th, r_ki, r_fe, r_lo)) hx hb hr hlk w rfl rfl hf dX4_canBeDone_141
          · replace hf := ite_f c20 hf
            refine lv_tableOut (tgt := 142) hx hb dX4_canBeDone_18 (by have ec4 := lv_neT c4 (a := 1) (by decide); have ec7 := lv_neT c7 (a := 2) (by decide); have ec11 := lv_neT c11 (a := 3) (by decide); have ec14 := lv_neT c14 (a := 4) (by decide); have ec20 := lv_neT c20 (a := 5) (by decide); omega) (by decide) ?_
            refine lv_iconst (v := 0) hx hb dX4_canBeDone_142 (by decide) ?_
            exact k_zret (u := (r_th, r_ki, r_fe, r_lo)) hx hb hr hlk w rfl rfl hf dX4_canBeDone_143
-- X4_judge
def fX4_judge_L46   (v1 : Int32) (v2 : Int64) (n_th : Int32) (n_ki : Int32) (n_fe : Int32) (n_ca : Nat → Int32) (r_ca : Nat → Int32) : Nat → Int32 → Int32 → Int32 → Int32 → (Nat → Int32) → Option (Int32 × Int32 × Int32 × Int32 × (Nat → Int32) × (Nat → Int32))
  | 0, _, _, _, _, _ => none
  | n + 1, v4, r_th, r_ki, r_fe, r_lo => (if v1 ≤ v4 then some ((-9), (r_th, r_ki, r_fe, r_ca, r_lo)) else gd ((v1 - (1 : Int32)) - v4) 5 (nm (sDL (Int32.toNatClampNeg ((v1 - (1 : Int32)) - v4))) (fun z3 => dzL z3 (nm (Int64.toInt32 ((v2 / z3) - (v2 / z3) / (10000 : Int64) * (10000 : Int64))) (fun z5 => ob (fX4_canBeDone r_th r_ki r_fe r_ca r_lo z5) (fun r6 => (if r6.1 = 0 then some (v4, (r6.2.1, r6.2.2.1, r6.2.2.2.1, r_ca, r6.2.2.2.2)) else nm (v4 + 1) (fun z8 => fX4_judge_L46 v1 v2 n_th n_ki n_fe n_ca r_ca n z8 r6.2.1 r6.2.2.1 r6.2.2.2.1 r6.2.2.2.2))))))))
set_option maxRecDepth 100000 in
set_option maxHeartbeats 4000000 in
theorem tX4_judge_L46 {p : Program} {l : Launch} {e : Env} {s : State} {m : MethodId} {args : Array Value} {below : List Frame} {meth : Method} {c : Code} {D : va_G} {cI cZ : ClassId} {b0 : Nat} {tt : Nat → Nat} {A : Nat → Prop}  {h_a x_a n_a r_a c_a s_a k_a x_l n_c n_d r_c r_d c_t c_k c_f s_t s_k s_f k_f k_s : Nat}  {v1 : Int32} {v2 : Int64} {n_th : Int32} {n_ki : Int32} {n_fe : Int32} {n_ca : Nat → Int32} {r_ca : Nat → Int32} {h_ac : Int32} {h_ks : Int32} {h_hc : Int32} {h_ok : Int32} {h_tk : Int32} {h_se : Int64} {x_ln : Int32} {x_le : Nat → Int32} {n_lo : Nat → Int32} {c_sz : Int32} {c_st : Nat → Int32} {c_sk : Nat → Int32} {c_sf : Nat → Int32} {s_sz : Int32} {s_st : Nat → Int32} {s_sk : Nat → Int32} {s_sf : Nat → Int32} {k_fh : Nat → Int32} {k_sh : Nat → Int32} {res : Int32 × Int32 × Int32 × Int32 × (Nat → Int32) × (Nat → Int32)} (C : Cx p s m args meth c cX4_judge 8 (some .int) (cwX4_judge :: GW) RX4) : ∀ (n : Nat) (v4 : Int32) (r_th : Int32) (r_ki : Int32) (r_fe : Int32) (r_lo : Nat → Int32) (H : Heap) (locs : List Loc) (ls : Array Slot), fX4_judge_L46 v1 v2 n_th n_ki n_fe n_ca r_ca n v4 r_th r_ki r_fe r_lo = some res → Wd D cI cZ b0 tt A s [(h_a, .inr (4, [.ref x_a, .ref n_a, .ref r_a, .ref c_a, .ref s_a, .ref k_a, .int h_ac, .int h_ks, .int h_hc, .int h_ok, .int h_tk, .long h_se])), (x_a, .inr (3, [.ref x_l, .int x_ln])), (x_l, .inl (cI, 56, .inl x_le)), (n_a, .inr (1, [.int n_th, .int n_ki, .int n_fe, .ref n_c, .ref n_d])), (n_c, .inl (cI, 4, .inl n_ca)), (n_d, .inl (cI, 16, .inl n_lo)), (r_a, .inr (1, [.int r_th, .int r_ki, .int r_fe, .ref r_c, .ref r_d])), (r_c, .inl (cI, 4, .inl r_ca)), (r_d, .inl (cI, 16, .inl r_lo)), (c_a, .inr (2, [.int c_sz, .ref c_t, .ref c_k, .ref c_f])), (c_t, .inl (cI, 14, .inl c_st)), (c_k, .inl (cI, 14, .inl c_sk)), (c_f, .inl (cI, 14, .inl c_sf)), (s_a, .inr (2, [.int s_sz, .ref s_t, .ref s_k, .ref s_f])), (s_t, .inl (cI, 2, .inl s_st)), (s_k, .inl (cI, 2, .inl s_sk)), (s_f, .inl (cI, 2, .inl s_sf)), (k_a, .inr (0, [.ref k_f, .ref k_s])), (k_f, .inl (cI, 25, .inl k_fh)), (k_s, .inl (cI, 25, .inl k_sh))] H locs → lv_has ls 8 [(0, .ref h_a), (1, .int v1), (2, .long v2), (4, .int v4)] → W p l e (rmo 6 136) s m args below meth c H locs 0 0 (MQ below (QI D (fun u : Int32 × Int32 × Int32 × (Nat → Int32) × (Nat → Int32) => [(h_a, .inr (4, [.ref x_a, .ref n_a, .ref r_a, .ref c_a, .ref s_a, .ref k_a, .int h_ac, .int h_ks, .int h_hc, .int h_ok, .int h_tk, .long h_se])), (x_a, .inr (3, [.ref x_l, .int x_ln])), (x_l, .inl (cI, 56, .inl x_le)), (n_a, .inr (1, [.int n_th, .int n_ki, .int n_fe, .ref n_c, .ref n_d])), (n_c, .inl (cI, 4, .inl n_ca)), (n_d, .inl (cI, 16, .inl n_lo)), (r_a, .inr (1, [.int u.1, .int u.2.1, .int u.2.2.1, .ref r_c, .ref r_d])), (r_c, .inl (cI, 4, .inl u.2.2.2.1)), (r_d, .inl (cI, 16, .inl u.2.2.2.2)), (c_a, .inr (2, [.int c_sz, .ref c_t, .ref c_k, .ref c_f])), (c_t, .inl (cI, 14, .inl c_st)), (c_k, .inl (cI, 14, .inl c_sk)), (c_f, .inl (cI, 14, .inl c_sf)), (s_a, .inr (2, [.int s_sz, .ref s_t, .ref s_k, .ref s_f])), (s_t, .inl (cI, 2, .inl s_st)), (s_k, .inl (cI, 2, .inl s_sk)), (s_f, .inl (cI, 2, .inl s_sf)), (k_a, .inr (0, [.ref k_f, .ref k_s])), (k_f, .inl (cI, 25, .inl k_fh)), (k_s, .inl (cI, 25, .inl k_sh))]) A res) args s 0 0 A) (F0 m 46 ls []) := by
  obtain ⟨hx, hb, hr, hml, hown, hts, hlk⟩ := id C
  have hg : ∀ w ∈ GW, w.before args s = true := fun w h => hts w (List.mem_cons_of_mem _ h)
  intro n
  induction n with
  | zero =>
    intro _ _ _ _ _ H locs ls hf
    rw [fX4_judge_L46] at hf
    cases hf
  | succ n ih =>
    intro v4 r_th r_ki r_fe r_lo H locs ls hf w hl
    rw [fX4_judge_L46] at hf
    refine lv_iload hx hb dX4_judge_46 (lv_at hl 3 rfl) ?_
    refine lv_iload_n hx hb dX4_judge_48 rfl (lv_at hl 1 rfl) ?_
    refine lv_icmp_ge (tgt := 93) hx hb dX4_judge_49 (by decide) (fun c1 => ?_) (fun c1 => ?_)
    · replace hf := ite_t c1 hf
      refine lv_bipush (v := (-9)) hx hb dX4_judge_93 (by decide) ?_
      exact k_iret (u := (r_th, r_ki, r_fe, r_ca, r_lo)) hx hb hr hlk w rfl hf dX4_judge_95
    · replace hf := ite_f c1 hf
      refine va_gets hx hb (k_Z w w.2.2.2.2.2.2.2.1.2.2.2.2.2.2.2.2).1 w.2.2.1 hown (hg _ w_368) (fun _ h9 => h9) dX4_judge_52 ?_
      refine lv_iload_n hx hb dX4_judge_55 rfl (lv_at hl 1 rfl) ?_
      refine lv_iconst (v := 1) hx hb dX4_judge_56 (by decide) ?_
      refine lv_isub hx hb dX4_judge_57 ?_
      refine lv_iload hx hb dX4_judge_58 (lv_at hl 3 rfl) ?_
      refine lv_isub hx hb dX4_judge_60 ?_
      replace hf := gd_at hf
      obtain ⟨hi2, hf⟩ := hf
      refine va_tl hx hb (k_Z w w.2.2.2.2.2.2.2.1.2.2.2.2.2.2.2.2).2 w.2.2.1 hi2 (v := .long (sDL (Int32.toNatClampNeg ((v1 - (1 : Int32)) - v4)))) rfl dX4_judge_61 ?_
      refine lv_topl (fun z3 ez3 => ?_)
      replace hf := nm_at ez3 hf
      refine lv_lstore (lv' := [(5, .long z3), (0, .ref h_a), (1, .int v1), (2, .long v2), (4, .int v4)]) hx hb dX4_judge_62 hl (by decide) rfl (fun ls hl => ?_)
      refine lv_lload_n hx hb dX4_judge_64 rfl (lv_at hl 3 rfl) ?_
      refine lv_lload hx hb dX4_judge_65 (lv_at hl 0 rfl) ?_
      obtain ⟨hz4, hf⟩ := dzL_at hf
      refine lv_ldiv hx hb dX4_judge_67 hz4 ?_
      refine lv_ldc2 hx hb hown (hg _ w_369) dX4_judge_68 ?_
      refine lv_lrem hx hb dX4_judge_71 (by decide) ?_
      refine lv_l2i (v := (Int64.toInt32 ((v2 / z3) - (v2 / z3) / (10000 : Int64) * (10000 : Int64)))) hx hb dX4_judge_72 rfl ?_
      refine lv_topi (fun z5 ez5 => ?_)
      replace hf := nm_at ez5 hf
      refine lv_istore (lv' := [(7, .int z5), (5, .long z3), (0, .ref h_a), (1, .int v1), (2, .long v2), (4, .int v4)]) hx hb dX4_judge_73 hl (by decide) rfl (fun ls hl => ?_)
      refine lv_aload_n hx hb dX4_judge_75 rfl (lv_at hl 2 rfl) ?_
      refine lv_iload hx hb dX4_judge_76 (lv_at hl 0 rfl) ?_
      replace hf := ob_at hf
      obtain ⟨r6, er6, hf⟩ := hf
      refine k_goI (v0 := (r_th, r_ki, r_fe, r_lo)) (res := r6) w [0, 1, 2, 3, 4, 5, 6, 7, 8, 9, 10, 11, 12, 13, 14, 15, 16, 17, 18, 19] rfl (fun _ => rfl) (va_runV (As := [.int z5]) (rest := []) ⟨hx, hb, hml, hown, hg⟩ (tX4_canBeDone l D cI cZ b0 tt h_a x_a n_a r_a c_a s_a k_a x_l n_c n_d r_c r_d c_t c_k c_f s_t s_k s_f k_f k_s h_ac h_ks h_hc h_ok h_tk h_se x_ln x_le n_th n_ki n_fe n_ca n_lo r_th r_ki r_fe r_ca r_lo c_sz c_st c_sk c_sf s_sz s_st s_sk s_sf k_fh k_sh z5 er6 H.size) (cwV 1 hg (gwV w_370 w_371 w_838 w_1 w_372) rfl rfl rfl ⟨rfl, qdX4_canBeDone⟩ ⟨Nat.le_of_ble_eq_true rfl, Nat.le_of_ble_eq_true rfl⟩) (k_preV w [0, 1, 2, 3, 4, 5, 6, 7, 8, 9, 10, 11, 12, 13, 14, 15, 16, 17, 18, 19] (by decide) rfl (q0 := 0) rfl rfl) rfl rfl hl.1 rfl (lv_room (Nat.le_of_ble_eq_true rfl)) dX4_judge_78 ⟨Nat.le_refl _, Nat.le_refl _⟩) (fun H locs w => ?_)
      have w : Wd D cI cZ b0 tt A s [(h_a, .inr (4, [.ref x_a, .ref n_a, .ref r_a, .ref c_a, .ref s_a, .ref k_a, .int h_ac, .int h_ks, .int h_hc, .int h_ok, .int h_tk, .long h_se])), (x_a, .inr (3, [.ref x_l, .int x_ln])), (x_l, .inl (cI, 56, .inl x_le)), (n_a, .inr (1, [.int n_th, .int n_ki, .int n_fe, .ref n_c, .ref n_d])), (n_c, .inl (cI, 4, .inl n_ca)), (n_d, .inl (cI, 16, .inl n_lo)), (r_a, .inr (1, [.int r6.2.1, .int r6.2.2.1, .int r6.2.2.2.1, .ref r_c, .ref r_d])), (r_c, .inl (cI, 4, .inl r_ca)), (r_d, .inl (cI, 16, .inl r6.2.2.2.2)), (c_a, .inr (2, [.int c_sz, .ref c_t, .ref c_k, .ref c_f])), (c_t, .inl (cI, 14, .inl c_st)), (c_k, .inl (cI, 14, .inl c_sk)), (c_f, .inl (cI, 14, .inl c_sf)), (s_a, .inr (2, [.int s_sz, .ref s_t, .ref s_k, .ref s_f])), (s_t, .inl (cI, 2, .inl s_st)), (s_k, .inl (cI, 2, .inl s_sk)), (s_f, .inl (cI, 2, .inl s_sf)), (k_a, .inr (0, [.ref k_f, .ref k_s])), (k_f, .inl (cI, 25, .inl k_fh)), (k_s, .inl (cI, 25, .inl k_sh))] H locs := w
      refine lv_if_ne (tgt := 87) hx hb dX4_judge_81 (by decide) (fun c7 => ?_) (fun c7 => ?_)
      · replace hf := ite_f c7 hf
        obtain ⟨z8, ez8⟩ : ∃ y : Int32, y = (v4 + 1) := ⟨_, rfl⟩
        replace hf := nm_at ez8 hf
        refine lv_iinc (v := z8) (lv' := [(4, .int z8), (7, .int z5), (5, .long z3), (0, .ref h_a), (1, .int v1), (2, .long v2)]) hx hb dX4_judge_87 hl (k := 5) rfl (by rw [ez8]; rfl) (by decide) rfl (fun ls hl => ?_)
        refine lv_goto (tgt := 46) hx hb dX4_judge_90 (by decide) ?_
        exact ih z8 r6.2.1 r6.2.2.1 r6.2.2.2.1 r6.2.2.2.2 H locs ls hf w (lv_sub hl [3, 4, 5, 0] rfl)
      · replace hf := ite_t c7 hf
        refine lv_iload hx hb dX4_judge_84 (lv_at hl 5 rfl) ?_
        exact k_iret (u := (r6.2.1, r6.2.2.1, r6.2.2.2.1, r_ca, r6.2.2.2.2)) hx hb hr hlk w rfl hf dX4_judge_86
def fX4_judge  (n_th : Int32) (n_ki : Int32) (n_fe : Int32) (n_ca : Nat → Int32) (r_th : Int32) (r_ki : Int32) (r_fe : Int32) (r_ca : Nat → Int32) (r_lo : Nat → Int32) (a1 : Int32) (a2 : Int64) : Option (Int32 × Int32 × Int32 × Int32 × (Nat → Int32) × (Nat → Int32)) := (if a1 < 1 then some ((-2), (r_th, r_ki, r_fe, r_ca, r_lo)) else (if a1 ≤ 4 then (if (lg_cmp a2 0) < 0 then some ((-2), (r_th, r_ki, r_fe, r_ca, r_lo)) else gd a1 5 ((if (lg_cmp a2 (sDL (Int32.toNatClampNeg a1))) < 0 then ob (fX1_copyFrom r_th r_ki r_fe r_ca n_th n_ki n_fe n_ca) (fun r14 => fX4_judge_L46 a1 a2 n_th n_ki n_fe n_ca r14.2.2.2 FU 0 r14.1 r14.2.1 r14.2.2.1 r_lo) else some ((-2), (r_th, r_ki, r_fe, r_ca, r_lo))))) else some ((-2), (r_th, r_ki, r_fe, r_ca, r_lo))))
set_option maxRecDepth 100000 in
set_option maxHeartbeats 4000000 in
theorem tX4_judge (l : Launch) (D : va_G) (cI cZ : ClassId) (b0 : Nat) (tt : Nat → Nat)  (h_a x_a n_a r_a c_a s_a k_a x_l n_c n_d r_c r_d c_t c_k c_f s_t s_k s_f k_f k_s : Nat) (h_ac : Int32) (h_ks : Int32) (h_hc : Int32) (h_ok : Int32) (h_tk : Int32) (h_se : Int64) (x_ln : Int32) (x_le : Nat → Int32) (n_th : Int32) (n_ki : Int32) (n_fe : Int32) (n_ca : Nat → Int32) (n_lo : Nat → Int32) (r_th : Int32) (r_ki : Int32) (r_fe : Int32) (r_ca : Nat → Int32) (r_lo : Nat → Int32) (c_sz : Int32) (c_st : Nat → Int32) (c_sk : Nat → Int32) (c_sf : Nat → Int32) (s_sz : Int32) (s_st : Nat → Int32) (s_sk : Nat → Int32) (s_sf : Nat → Int32) (k_fh : Nat → Int32) (k_sh : Nat → Int32) (a1 : Int32) (a2 : Int64) {res : Int32 × Int32 × Int32 × Int32 × (Nat → Int32) × (Nat → Int32)} (hf : fX4_judge n_th n_ki n_fe n_ca r_th r_ki r_fe r_ca r_lo a1 a2 = some res) : CtI l yX4_judge (cwX4_judge :: GW) 6 136 D cI cZ b0 tt [.ref h_a, .int a1, .long a2] (fun u : Int32 × Int32 × Int32 × (Nat → Int32) × (Nat → Int32) => [(h_a, .inr (4, [.ref x_a, .ref n_a, .ref r_a, .ref c_a, .ref s_a, .ref k_a, .int h_ac, .int h_ks, .int h_hc, .int h_ok, .int h_tk, .long h_se])), (x_a, .inr (3, [.ref x_l, .int x_ln])), (x_l, .inl (cI, 56, .inl x_le)), (n_a, .inr (1, [.int n_th, .int n_ki, .int n_fe, .ref n_c, .ref n_d])), (n_c, .inl (cI, 4, .inl n_ca)), (n_d, .inl (cI, 16, .inl n_lo)), (r_a, .inr (1, [.int u.1, .int u.2.1, .int u.2.2.1, .ref r_c, .ref r_d])), (r_c, .inl (cI, 4, .inl u.2.2.2.1)), (r_d, .inl (cI, 16, .inl u.2.2.2.2)), (c_a, .inr (2, [.int c_sz, .ref c_t, .ref c_k, .ref c_f])), (c_t, .inl (cI, 14, .inl c_st)), (c_k, .inl (cI, 14, .inl c_sk)), (c_f, .inl (cI, 14, .inl c_sf)), (s_a, .inr (2, [.int s_sz, .ref s_t, .ref s_k, .ref s_f])), (s_t, .inl (cI, 2, .inl s_st)), (s_k, .inl (cI, 2, .inl s_sk)), (s_f, .inl (cI, 2, .inl s_sf)), (k_a, .inr (0, [.ref k_f, .ref k_s])), (k_f, .inl (cI, 25, .inl k_fh)), (k_s, .inl (cI, 25, .inl k_sh))]) (r_th, r_ki, r_fe, r_ca, r_lo) res := by
  intro sz
  refine k_begin (cc := cX4_judge) (maxL := 8) (ret := (some .int)) (by decide) rfl (Nat.le_of_ble_eq_true rfl) ?_
  intro p e s m below meth c ls C w hl
  generalize va_A _ sz = A at w ⊢
  have w : Wd D cI cZ b0 tt A s [(h_a, .inr (4, [.ref x_a, .ref n_a, .ref r_a, .ref c_a, .ref s_a, .ref k_a, .int h_ac, .int h_ks, .int h_hc, .int h_ok, .int h_tk, .long h_se])), (x_a, .inr (3, [.ref x_l, .int x_ln])), (x_l, .inl (cI, 56, .inl x_le)), (n_a, .inr (1, [.int n_th, .int n_ki, .int n_fe, .ref n_c, .ref n_d])), (n_c, .inl (cI, 4, .inl n_ca)), (n_d, .inl (cI, 16, .inl n_lo)), (r_a, .inr (1, [.int r_th, .int r_ki, .int r_fe, .ref r_c, .ref r_d])), (r_c, .inl (cI, 4, .inl r_ca)), (r_d, .inl (cI, 16, .inl r_lo)), (c_a, .inr (2, [.int c_sz, .ref c_t, .ref c_k, .ref c_f])), (c_t, .inl (cI, 14, .inl c_st)), (c_k, .inl (cI, 14, .inl c_sk)), (c_f, .inl (cI, 14, .inl c_sf)), (s_a, .inr (2, [.int s_sz, .ref s_t, .ref s_k, .ref s_f])), (s_t, .inl (cI, 2, .inl s_st)), (s_k, .inl (cI, 2, .inl s_sk)), (s_f, .inl (cI, 2, .inl s_sf)), (k_a, .inr (0, [.ref k_f, .ref k_s])), (k_f, .inl (cI, 25, .inl k_fh)), (k_s, .inl (cI, 25, .inl k_sh))] s.heap [] := w
  have hl : lv_has ls 8 [(0, .ref h_a), (1, .int a1), (2, .long a2)] := hl
  obtain ⟨H, eH⟩ : ∃ H, H = s.heap := ⟨_, rfl⟩
  rw [← eH] at w ⊢
  generalize ([] : List Loc) = locs at w ⊢
  generalize List.toArray _ = args at C ⊢
  obtain ⟨hx, hb, hr, hml, hown, hts, hlk⟩ := id C
  have hg : ∀ w ∈ GW, w.before args s = true := fun w h => hts w (List.mem_cons_of_mem _ h)
  unfold fX4_judge at hf
  refine lv_iload_n hx hb dX4_judge_0 rfl (lv_at hl 1 rfl) ?_
  refine lv_iconst (v := 1) hx hb dX4_judge_1 (by decide) ?_
  refine lv_icmp_lt (tgt := 10) hx hb dX4_judge_2 (by decide) (fun c9 => ?_) (fun c9 => ?_)
  · replace hf := ite_t c9 hf
    refine lv_bipush (v := (-2)) hx hb dX4_judge_10 (by decide) ?_
    exact k_iret (u := (r_th, r_ki, r_fe, r_ca, r_lo)) hx hb hr hlk w rfl hf dX4_judge_12
  · replace hf := ite_f c9 hf
    refine lv_iload_n hx hb dX4_judge_5 rfl (lv_at hl 1 rfl) ?_
    refine lv_iconst (v := 4) hx hb dX4_judge_6 (by decide) ?_
    refine lv_icmp_le (tgt := 13) hx hb dX4_judge_7 (by decide) (fun c10 => ?_) (fun c10 => ?_)
    · replace hf := ite_t c10 hf
      refine lv_lload_n hx hb dX4_judge_13 rfl (lv_at hl 2 rfl) ?_
      refine lv_lconst (v := 0) hx hb dX4_judge_14 (by decide) ?_
      refine W.lcmp hx hb dX4_judge_15 ?_
      refine lv_if_lt (tgt := 29) hx hb dX4_judge_16 (by decide) (fun c11 => ?_) (fun c11 => ?_)
      · replace hf := ite_t c11 hf
        refine lv_bipush (v := (-2)) hx hb dX4_judge_29 (by decide) ?_
        exact k_iret (u := (r_th, r_ki, r_fe, r_ca, r_lo)) hx hb hr hlk w rfl hf dX4_judge_31
      · replace hf := ite_f c11 hf
        refine lv_lload_n hx hb dX4_judge_19 rfl (lv_at hl 2 rfl) ?_
        refine va_gets hx hb (k_Z w w.2.2.2.2.2.2.2.1.2.2.2.2.2.2.2.2).1 w.2.2.1 hown (hg _ w_368) (fun _ h9 => h9) dX4_judge_20 ?_
        refine lv_iload_n hx hb dX4_judge_23 rfl (lv_at hl 1 rfl) ?_
        replace hf := gd_at hf
        obtain ⟨hi12, hf⟩ := hf
        refine va_tl hx hb (k_Z w w.2.2.2.2.2.2.2.1.2.2.2.2.2.2.2.2).2 w.2.2.1 hi12 (v := .long (sDL (Int32.toNatClampNeg a1))) rfl dX4_judge_24 ?_
        refine W.lcmp hx hb dX4_judge_25 ?_
        refine lv_if_lt (tgt := 32) hx hb dX4_judge_26 (by decide) (fun c13 => ?_) (fun c13 => ?_)
        · replace hf := ite_t c13 hf
          refine lv_aload_n hx hb dX4_judge_32 rfl (lv_at hl 0 rfl) ?_
          refine va_get (D := D) (ci := 4) (v := .ref r_a) (C := RX4) (T := TX4) (N := 12) hx hb hg iX4 hown w.2.2.2.2.2.2.1 w.1 0 rfl rfl 2 (by decide) (hg _ w_87) (fun _ h9 => h9) rfl dX4_judge_33 ?_
          refine lv_aload_n hx hb dX4_judge_36 rfl (lv_at hl 0 rfl) ?_
          refine va_get (D := D) (ci := 4) (v := .ref n_a) (C := RX4) (T := TX4) (N := 12) hx hb hg iX4 hown w.2.2.2.2.2.2.1 w.1 0 rfl rfl 1 (by decide) (hg _ w_86) (fun _ h9 => h9) rfl dX4_judge_37 ?_
          replace hf := ob_at hf
          obtain ⟨r14, er14, hf⟩ := hf
          refine k_goV (v0 := (r_th, r_ki, r_fe, r_ca)) (res := r14) w [6, 7, 8, 3, 4, 5] rfl (fun _ => rfl) (va_runV (As := [.ref n_a]) (rest := []) ⟨hx, hb, hml, hown, hg⟩ (tX1_copyFrom l D cI cZ b0 tt r_a r_c r_d n_a n_c n_d r_th r_ki r_fe r_ca r_lo n_th n_ki n_fe n_ca n_lo er14 H.size) (cwV 1 hg (gwV w_228 w_229 w_230 w_3 w_231) rfl rfl rfl ⟨rfl, qdX1_copyFrom⟩ ⟨Nat.le_of_ble_eq_true rfl, Nat.le_of_ble_eq_true rfl⟩) (k_preV w [6, 7, 8, 3, 4, 5] (by decide) rfl (q0 := 6) rfl rfl) rfl rfl hl.1 rfl (lv_room (Nat.le_of_ble_eq_true rfl)) dX4_judge_40 ⟨Nat.le_refl _, Nat.le_refl _⟩) (fun H locs w => ?_)
          have w : Wd D cI cZ b0 tt A s [(h_a, .inr (4, [.ref x_a, .ref n_a, .ref r_a, .ref c_a, .ref s_a, .ref k_a, .int h_ac, .int h_ks, .int h_hc, .int h_ok, .int h_tk, .long h_se])), (x_a, .inr (3, [.ref x_l, .int x_ln])), (x_l, .inl (cI, 56, .inl x_le)), (n_a, .inr (1, [.int n_th, .int n_ki, .int n_fe, .ref n_c, .ref n_d])), (n_c, .inl (cI, 4, .inl n_ca)), (n_d, .inl (cI, 16, .inl n_lo)), (r_a, .inr (1, [.int r14.1, .int r14.2.1, .int r14.2.2.1, .ref r_c, .ref r_d])), (r_c, .inl (cI, 4, .inl r14.2.2.2)), (r_d, .inl (cI, 16, .inl r_lo)), (c_a, .inr (2, [.int c_sz, .ref c_t, .ref c_k, .ref c_f])), (c_t, .inl (cI, 14, .inl c_st)), (c_k, .inl (cI, 14, .inl c_sk)), (c_f, .inl (cI, 14, .inl c_sf)), (s_a, .inr (2, [.int s_sz, .ref s_t, .ref s_k, .ref s_f])), (s_t, .inl (cI, 2, .inl s_st)), (s_k, .inl (cI, 2, .inl s_sk)), (s_f, .inl (cI, 2, .inl s_sf)), (k_a, .inr (0, [.ref k_f, .ref k_s])), (k_f, .inl (cI, 25, .inl k_fh)), (k_s, .inl (cI, 25, .inl k_sh))] H locs := w
          refine lv_iconst (v := 0) hx hb dX4_judge_43 (by decide) ?_
          refine lv_istore (lv' := [(4, .int 0), (0, .ref h_a), (1, .int a1), (2, .long a2)]) hx hb dX4_judge_44 hl (by decide) rfl (fun ls hl => ?_)
          exact tX4_judge_L46 (v1 := a1) (v2 := a2) (n_th := n_th) (n_ki := n_ki) (n_fe := n_fe) (n_ca := n_ca) (r_ca := r14.2.2.2) (h_ac := h_ac) (h_ks := h_ks) (h_hc := h_hc) (h_ok := h_ok) (h_tk := h_tk) (h_se := h_se) (x_ln := x_ln) (x_le := x_le) (n_lo := n_lo) (c_sz := c_sz) (c_st := c_st) (c_sk := c_sk) (c_sf := c_sf) (s_sz := s_sz) (s_st := s_st) (s_sk := s_sk) (s_sf := s_sf) (k_fh := k_fh) (k_sh := k_sh) (C := C) FU 0 r14.1 r14.2.1 r14.2.2.1 r_lo H locs ls hf w (lv_sub hl [1, 2, 3, 0] rfl)
        · replace hf := ite_f c13 hf
          refine lv_bipush (v := (-2)) hx hb dX4_judge_29 (by decide) ?_
          exact k_iret (u := (r_th, r_ki, r_fe, r_ca, r_lo)) hx hb hr hlk w rfl hf dX4_judge_31
    · replace hf := ite_f c10 hf
      refine lv_bipush (v := (-2)) hx hb dX4_judge_10 (by decide) ?_
      exact k_iret (u := (r_th, r_ki, r_fe, r_ca, r_lo)) hx hb hr hlk w rfl hf dX4_judge_12
-- X4_commonDivisor
def fX4_commonDivisor_L10   (v0 : Int32) (v1 : Int32) : Nat → Int32 → Int32 → Int32 → Option (Int32)
  | 0, _, _, _ => none
  | n + 1, v2, v3, v4 => (if 64 ≤ v4 then some v2 else (if v3 = 0 then some v2 else dz v3 (nm (v2 - v2 / v3 * v3) (fun z4 => nm (v4 + 1) (fun z5 => fX4_commonDivisor_L10 v0 v1 n v3 z4 z5)))))
set_option maxRecDepth 100000 in
set_option maxHeartbeats 4000000 in
theorem tX4_commonDivisor_L10 {p : Program} {l : Launch} {e : Env} {s : State} {m : MethodId} {args : Array Value} {below : List Frame} {meth : Method} {c : Code} {D : va_G} {cI cZ : ClassId} {b0 : Nat} {tt : Nat → Nat} {A : Nat → Prop}    {v0 : Int32} {v1 : Int32} {res : Int32} (C : Cx p s m args meth c cX4_commonDivisor 6 (some .int) (cwX4_commonDivisor :: GW) RX4) : ∀ (n : Nat) (v2 : Int32) (v3 : Int32) (v4 : Int32) (H : Heap) (locs : List Loc) (ls : Array Slot), fX4_commonDivisor_L10 v0 v1 n v2 v3 v4 = some res → Wd D cI cZ b0 tt A s [] H locs → lv_has ls 6 [(0, .int v0), (1, .int v1), (2, .int v2), (3, .int v3), (4, .int v4)] → W p l e (rmo 1 21) s m args below meth c H locs 0 0 (MQ below (QI D (fun _ : Unit => []) A (res, ())) args s 0 0 A) (F0 m 10 ls []) := by
  obtain ⟨hx, hb, hr, hml, hown, hts, hlk⟩ := id C
  have hg : ∀ w ∈ GW, w.before args s = true := fun w h => hts w (List.mem_cons_of_mem _ h)
  intro n
  induction n with
  | zero =>
    intro _ _ _ H locs ls hf
    rw [fX4_commonDivisor_L10] at hf
    cases hf
  | succ n ih =>
    intro v2 v3 v4 H locs ls hf w hl
    rw [fX4_commonDivisor_L10] at hf
    refine lv_iload hx hb dX4_commonDivisor_10 (lv_at hl 4 rfl) ?_
    refine lv_bipush (v := 64) hx hb dX4_commonDivisor_12 (by decide) ?_
    refine lv_icmp_ge (tgt := 37) hx hb dX4_commonDivisor_14 (by decide) (fun c1 => ?_) (fun c1 => ?_)
    · replace hf := ite_t c1 hf
      refine lv_iload_n hx hb dX4_commonDivisor_37 rfl (lv_at hl 2 rfl) ?_
      exact k_iret (u := ()) hx hb hr hlk w rfl (k_ret1 hf) dX4_commonDivisor_38
    · replace hf := ite_f c1 hf
      refine lv_iload_n hx hb dX4_commonDivisor_17 rfl (lv_at hl 3 rfl) ?_
      refine lv_if_eq (tgt := 37) hx hb dX4_commonDivisor_18 (by decide) (fun c2 => ?_) (fun c2 => ?_)
      · replace hf := ite_t c2 hf
        refine lv_iload_n hx hb dX4_commonDivisor_37 rfl (lv_at hl 2 rfl) ?_
        exact k_iret (u := ()) hx hb hr hlk w rfl (k_ret1 hf) dX4_commonDivisor_38
      · replace hf := ite_f c2 hf
        refine lv_iload_n hx hb dX4_commonDivisor_21 rfl (lv_at hl 2 rfl) ?_
        refine lv_iload_n hx hb dX4_commonDivisor_22 rfl (lv_at hl 3 rfl) ?_
        obtain ⟨hz3, hf⟩ := dz_at hf
        refine lv_irem hx hb dX4_commonDivisor_23 hz3 ?_
        refine lv_topi (fun z4 ez4 => ?_)
        replace hf := nm_at ez4 hf
        refine lv_istore (lv' := [(5, .int z4), (0, .int v0), (1, .int v1), (2, .int v2), (3, .int v3), (4, .int v4)]) hx hb dX4_commonDivisor_24 hl (by decide) rfl (fun ls hl => ?_)
        refine lv_iload_n hx hb dX4_commonDivisor_26 rfl (lv_at hl 4 rfl) ?_
        refine lv_istore_n (lv' := [(2, .int v3), (5, .int z4), (0, .int v0), (1, .int v1), (3, .int v3), (4, .int v4)]) hx hb dX4_commonDivisor_27 rfl hl (by decide) rfl (fun ls hl => ?_)
        refine lv_iload hx hb dX4_commonDivisor_28 (lv_at hl 1 rfl) ?_
        refine lv_istore_n (lv' := [(3, .int z4), (2, .int v3), (5, .int z4), (0, .int v0), (1, .int v1), (4, .int v4)]) hx hb dX4_commonDivisor_30 rfl hl (by decide) rfl (fun ls hl => ?_)
        obtain ⟨z5, ez5⟩ : ∃ y : Int32, y = (v4 + 1) := ⟨_, rfl⟩
        replace hf := nm_at ez5 hf
        refine lv_iinc (v := z5) (lv' := [(4, .int z5), (3, .int z4), (2, .int v3), (5, .int z4), (0, .int v0), (1, .int v1)]) hx hb dX4_commonDivisor_31 hl (k := 5) rfl (by rw [ez5]; rfl) (by decide) rfl (fun ls hl => ?_)
        refine lv_goto (tgt := 10) hx hb dX4_commonDivisor_34 (by decide) ?_
        exact ih v3 z4 z5 H locs ls hf w (lv_sub hl [4, 5, 2, 1, 0] rfl)
def fX4_commonDivisor  (a1 : Int32) (a2 : Int32) : Option (Int32) := nm (if 0 ≤ a1 then a1 else 0 - a1) (fun z6 => fX4_commonDivisor_L10 a1 a2 FU z6 a2 0)
set_option maxRecDepth 100000 in
set_option maxHeartbeats 4000000 in
theorem tX4_commonDivisor (l : Launch) (D : va_G) (cI cZ : ClassId) (b0 : Nat) (tt : Nat → Nat)    (a1 : Int32) (a2 : Int32) {res : Int32} (hf : fX4_commonDivisor a1 a2 = some res) : CtI l yX4_commonDivisor (cwX4_commonDivisor :: GW) 1 21 D cI cZ b0 tt [.int a1, .int a2] (fun _ : Unit => []) () (res, ()) := by
  intro sz
  refine k_begin (cc := cX4_commonDivisor) (maxL := 6) (ret := (some .int)) (by decide) rfl (Nat.le_of_ble_eq_true rfl) ?_
  intro p e s m below meth c ls C w hl
  generalize va_A _ sz = A at w ⊢
  have w : Wd D cI cZ b0 tt A s [] s.heap [] := w
  have hl : lv_has ls 6 [(0, .int a1), (1, .int a2)] := hl
  obtain ⟨H, eH⟩ : ∃ H, H = s.heap := ⟨_, rfl⟩
  rw [← eH] at w ⊢
  generalize ([] : List Loc) = locs at w ⊢
  generalize List.toArray _ = args at C ⊢
  obtain ⟨hx, hb, hr, hml, hown, hts, hlk⟩ := id C
  have hg : ∀ w ∈ GW, w.before args s = true := fun w h => hts w (List.mem_cons_of_mem _ h)
  unfold fX4_commonDivisor at hf
  refine lv_iload_n hx hb dX4_commonDivisor_0 rfl (lv_at hl 0 rfl) ?_
  refine va_mabs hx hb (hml.trans hl.1.symm) hown (hg _ w_405) (hg _ w_406) (hg _ w_5) (hg _ w_407) (Nat.le_of_ble_eq_true rfl) (Nat.le_of_ble_eq_true rfl) (Nat.le_refl _) (Nat.le_refl _) dX4_commonDivisor_1 ?_
  refine lv_topi (fun z6 ez6 => ?_)
  replace hf := nm_at ez6 hf
  refine lv_istore_n (lv' := [(2, .int z6), (0, .int a1), (1, .int a2)]) hx hb dX4_commonDivisor_4 rfl hl (by decide) rfl (fun ls hl => ?_)
  refine lv_iload_n hx hb dX4_commonDivisor_5 rfl (lv_at hl 2 rfl) ?_
  refine lv_istore_n (lv' := [(3, .int a2), (2, .int z6), (0, .int a1), (1, .int a2)]) hx hb dX4_commonDivisor_6 rfl hl (by decide) rfl (fun ls hl => ?_)
  refine lv_iconst (v := 0) hx hb dX4_commonDivisor_7 (by decide) ?_
  refine lv_istore (lv' := [(4, .int 0), (3, .int a2), (2, .int z6), (0, .int a1), (1, .int a2)]) hx hb dX4_commonDivisor_8 hl (by decide) rfl (fun ls hl => ?_)
  exact tX4_commonDivisor_L10 (v0 := a1) (v1 := a2) (C := C) FU z6 a2 0 H locs ls hf w (lv_sub hl [3, 4, 2, 1, 0] rfl)
-- X4_partOfFraction
def fX4_partOfFraction  (a1 : Int32) (a2 : Int32) (a3 : Int32) : Option (Int32) := ob (fX4_commonDivisor a1 a2) (fun r1 => nm (if (1 : Int32) < r1 then r1 else (1 : Int32)) (fun z2 => (if a3 = 0 then dz z2 (some (a2 / z2)) else dz z2 (some (a1 / z2)))))
set_option maxRecDepth 100000 in
set_option maxHeartbeats 4000000 in
theorem tX4_partOfFraction (l : Launch) (D : va_G) (cI cZ : ClassId) (b0 : Nat) (tt : Nat → Nat)    (a1 : Int32) (a2 : Int32) (a3 : Int32) {res : Int32} (hf : fX4_partOfFraction a1 a2 a3 = some res) : CtI l yX4_partOfFraction (cwX4_partOfFraction :: GW) 2 46 D cI cZ b0 tt [.int a1, .int a2, .int a3] (fun _ : Unit => []) () (res, ()) := by
  intro sz
  refine k_begin (cc := cX4_partOfFraction) (maxL := 4) (ret := (some .int)) (by decide) rfl (Nat.le_of_ble_eq_true rfl) ?_
  intro p e s m below meth c ls C w hl
  generalize va_A _ sz = A at w ⊢
  have w : Wd D cI cZ b0 tt A s [] s.heap [] := w
  have hl : lv_has ls 4 [(0, .int a1), (1, .int a2), (2, .int a3)] := hl
  obtain ⟨H, eH⟩ : ∃ H, H = s.heap := ⟨_, rfl⟩
  rw [← eH] at w ⊢
  generalize ([] : List Loc) = locs at w ⊢
  generalize List.toArray _ = args at C ⊢
  obtain ⟨hx, hb, hr, hml, hown, hts, hlk⟩ := id C
  have hg : ∀ w ∈ GW, w.before args s = true := fun w h => hts w (List.mem_cons_of_mem _ h)
  unfold fX4_partOfFraction at hf
  refine lv_iconst (v := 1) hx hb dX4_partOfFraction_0 (by decide) ?_
  refine lv_iload_n hx hb dX4_partOfFraction_1 rfl (lv_at hl 0 rfl) ?_
  refine lv_iload_n hx hb dX4_partOfFraction_2 rfl (lv_at hl 1 rfl) ?_
  replace hf := ob_at hf
  obtain ⟨r1, er1, hf⟩ := hf
  refine k_goI0 w [] rfl (va_runS (As := [.int a1, .int a2]) (rest := [.int 1]) ⟨hx, hb, hml, hown, hg⟩ (tX4_commonDivisor l D cI cZ b0 tt a1 a2 er1 H.size) (va_cwS 2 hg (gwS w_402 w_403 w_1 w_404) rfl rfl rfl qdX4_commonDivisor ⟨Nat.le_of_ble_eq_true rfl, Nat.le_of_ble_eq_true rfl⟩) (k_preS w [] (by decide) rfl) rfl rfl hl.1 rfl (lv_room (Nat.le_of_ble_eq_true rfl)) dX4_partOfFraction_3 ⟨Nat.le_refl _, Nat.le_refl _⟩) (fun H locs w => ?_)
  refine va_mmax hx hb (hml.trans hl.1.symm) hown (hg _ w_408) (hg _ w_58) (hg _ w_5) (hg _ w_59) (Nat.le_of_ble_eq_true rfl) (Nat.le_of_ble_eq_true rfl) (Nat.le_refl _) (Nat.le_refl _) dX4_partOfFraction_6 ?_
  refine lv_topi (fun z2 ez2 => ?_)
  replace hf := nm_at ez2 hf
  refine lv_istore_n (lv' := [(3, .int z2), (0, .int a1), (1, .int a2), (2, .int a3)]) hx hb dX4_partOfFraction_9 rfl hl (by decide) rfl (fun ls hl => ?_)
  refine lv_iload_n hx hb dX4_partOfFraction_10 rfl (lv_at hl 3 rfl) ?_
  refine lv_if_eq (tgt := 18) hx hb dX4_partOfFraction_11 (by decide) (fun c3 => ?_) (fun c3 => ?_)
  · replace hf := ite_t c3 hf
    refine lv_iload_n hx hb dX4_partOfFraction_18 rfl (lv_at hl 2 rfl) ?_
    refine lv_iload_n hx hb dX4_partOfFraction_19 rfl (lv_at hl 0 rfl) ?_
    obtain ⟨hz4, hf⟩ := dz_at hf
    refine lv_idiv hx hb dX4_partOfFraction_20 hz4 ?_
    exact k_iret (u := ()) hx hb hr hlk w rfl (k_ret1 hf) dX4_partOfFraction_21
  · replace hf := ite_f c3 hf
    refine lv_iload_n hx hb dX4_partOfFraction_14 rfl (lv_at hl 1 rfl) ?_
    refine lv_goto (tgt := 19) hx hb dX4_partOfFraction_15 (by decide) ?_
    refine lv_iload_n hx hb dX4_partOfFraction_19 rfl (lv_at hl 0 rfl) ?_
    obtain ⟨hz5, hf⟩ := dz_at hf
    refine lv_idiv hx hb dX4_partOfFraction_20 hz5 ?_
    exact k_iret (u := ()) hx hb hr hlk w rfl (k_ret1 hf) dX4_partOfFraction_21
-- X4_share
def fX4_share_L16   (v1 : Int32) (v2 : Int32) (n_th : Int32) : Nat → Int32 → Int32 → Option (Int32)
  | 0, _, _ => none
  | n + 1, v3, v4 => (if 15 < v4 then ob (fX4_partOfFraction v3 24 v2) (fun r2 => some r2) else (if ((v4 >>> (v1 &&& 31)) &&& (1 : Int32)) = 0 then ob (fX1_sizeWithout n_th ((15 : Int32) &&& ((v4 ||| ((1 : Int32) <<< (v1 &&& 31))) ^^^ ((-1) : Int32)))) (fun r5 => ob (fX1_sizeWithout n_th ((15 : Int32) &&& (v4 ^^^ ((-1) : Int32)))) (fun r6 => ob (fJ6_bitCount_0f7a4 v4) (fun r7 => gd (r7 &&& (3 : Int32)) 4 (nm (v3 + ((sOR (Int32.toNatClampNeg (r7 &&& (3 : Int32)))) * (r5 - r6))) (fun z9 => nm (v4 + 1) (fun z10 => fX4_share_L16 v1 v2 n_th n z9 z10)))))) else nm (v4 + 1) (fun z4 => fX4_share_L16 v1 v2 n_th n v3 z4)))
set_option maxRecDepth 100000 in
set_option maxHeartbeats 4000000 in
theorem tX4_share_L16 {p : Program} {l : Launch} {e : Env} {s : State} {m : MethodId} {args : Array Value} {below : List Frame} {meth : Method} {c : Code} {D : va_G} {cI cZ : ClassId} {b0 : Nat} {tt : Nat → Nat} {A : Nat → Prop}  {h_a x_a n_a r_a c_a s_a k_a x_l n_c n_d r_c r_d c_t c_k c_f s_t s_k s_f k_f k_s : Nat}  {v1 : Int32} {v2 : Int32} {n_th : Int32} {h_ac : Int32} {h_ks : Int32} {h_hc : Int32} {h_ok : Int32} {h_tk : Int32} {h_se : Int64} {x_ln : Int32} {x_le : Nat → Int32} {n_ki : Int32} {n_fe : Int32} {n_ca : Nat → Int32} {n_lo : Nat → Int32} {r_th : Int32} {r_ki : Int32} {r_fe : Int32} {r_ca : Nat → Int32} {r_lo : Nat → Int32} {c_sz : Int32} {c_st : Nat → Int32} {c_sk : Nat → Int32} {c_sf : Nat → Int32} {s_sz : Int32} {s_st : Nat → Int32} {s_sk : Nat → Int32} {s_sf : Nat → Int32} {k_fh : Nat → Int32} {k_sh : Nat → Int32} {res : Int32} (C : Cx p s m args meth c cX4_share 7 (some .int) (cwX4_share :: GW) RX4) : ∀ (n : Nat) (v3 : Int32) (v4 : Int32) (H : Heap) (locs : List Loc) (ls : Array Slot), fX4_share_L16 v1 v2 n_th n v3 v4 = some res → Wd D cI cZ b0 tt A s [(h_a, .inr (4, [.ref x_a, .ref n_a, .ref r_a, .ref c_a, .ref s_a, .ref k_a, .int h_ac, .int h_ks, .int h_hc, .int h_ok, .int h_tk, .long h_se])), (x_a, .inr (3, [.ref x_l, .int x_ln])), (x_l, .inl (cI, 56, .inl x_le)), (n_a, .inr (1, [.int n_th, .int n_ki, .int n_fe, .ref n_c, .ref n_d])), (n_c, .inl (cI, 4, .inl n_ca)), (n_d, .inl (cI, 16, .inl n_lo)), (r_a, .inr (1, [.int r_th, .int r_ki, .int r_fe, .ref r_c, .ref r_d])), (r_c, .inl (cI, 4, .inl r_ca)), (r_d, .inl (cI, 16, .inl r_lo)), (c_a, .inr (2, [.int c_sz, .ref c_t, .ref c_k, .ref c_f])), (c_t, .inl (cI, 14, .inl c_st)), (c_k, .inl (cI, 14, .inl c_sk)), (c_f, .inl (cI, 14, .inl c_sf)), (s_a, .inr (2, [.int s_sz, .ref s_t, .ref s_k, .ref s_f])), (s_t, .inl (cI, 2, .inl s_st)), (s_k, .inl (cI, 2, .inl s_sk)), (s_f, .inl (cI, 2, .inl s_sf)), (k_a, .inr (0, [.ref k_f, .ref k_s])), (k_f, .inl (cI, 25, .inl k_fh)), (k_s, .inl (cI, 25, .inl k_sh))] H locs → lv_has ls 7 [(0, .ref h_a), (1, .int v1), (2, .int v2), (3, .int v3), (4, .int v4)] → W p l e (rmo 3 69) s m args below meth c H locs 0 0 (MQ below (QI D (fun _ : Unit => [(h_a, .inr (4, [.ref x_a, .ref n_a, .ref r_a, .ref c_a, .ref s_a, .ref k_a, .int h_ac, .int h_ks, .int h_hc, .int h_ok, .int h_tk, .long h_se])), (x_a, .inr (3, [.ref x_l, .int x_ln])), (x_l, .inl (cI, 56, .inl x_le)), (n_a, .inr (1, [.int n_th, .int n_ki, .int n_fe, .ref n_c, .ref n_d])), (n_c, .inl (cI, 4, .inl n_ca)), (n_d, .inl (cI, 16, .inl n_lo)), (r_a, .inr (1, [.int r_th, .int r_ki, .int r_fe, .ref r_c, .ref r_d])), (r_c, .inl (cI, 4, .inl r_ca)), (r_d, .inl (cI, 16, .inl r_lo)), (c_a, .inr (2, [.int c_sz, .ref c_t, .ref c_k, .ref c_f])), (c_t, .inl (cI, 14, .inl c_st)), (c_k, .inl (cI, 14, .inl c_sk)), (c_f, .inl (cI, 14, .inl c_sf)), (s_a, .inr (2, [.int s_sz, .ref s_t, .ref s_k, .ref s_f])), (s_t, .inl (cI, 2, .inl s_st)), (s_k, .inl (cI, 2, .inl s_sk)), (s_f, .inl (cI, 2, .inl s_sf)), (k_a, .inr (0, [.ref k_f, .ref k_s])), (k_f, .inl (cI, 25, .inl k_fh)), (k_s, .inl (cI, 25, .inl k_sh))]) A (res, ())) args s 0 0 A) (F0 m 16 ls []) := by
  obtain ⟨hx, hb, hr, hml, hown, hts, hlk⟩ := id C
  have hg : ∀ w ∈ GW, w.before args s = true := fun w h => hts w (List.mem_cons_of_mem _ h)
  intro n
  induction n with
  | zero =>
    intro _ _ H locs ls hf
    rw [fX4_share_L16] at hf
    cases hf
  | succ n ih =>
    intro v3 v4 H locs ls hf w hl
    rw [fX4_share_L16] at hf
    refine lv_iload hx hb dX4_share_16 (lv_at hl 4 rfl) ?_
    refine lv_bipush (v := 15) hx hb dX4_share_18 (by decide) ?_
    refine lv_icmp_gt (tgt := 94) hx hb dX4_share_20 (by decide) (fun c1 => ?_) (fun c1 => ?_)
    · replace hf := ite_t c1 hf
      refine lv_iload_n hx hb dX4_share_94 rfl (lv_at hl 3 rfl) ?_
      refine lv_bipush (v := 24) hx hb dX4_share_95 (by decide) ?_
      refine lv_iload_n hx hb dX4_share_97 rfl (lv_at hl 2 rfl) ?_
      replace hf := ob_at hf
      obtain ⟨r2, er2, hf⟩ := hf
      refine k_goI0 w [] rfl (va_runS (As := [.int v3, .int 24, .int v2]) (rest := []) ⟨hx, hb, hml, hown, hg⟩ (tX4_partOfFraction l D cI cZ b0 tt v3 24 v2 er2 H.size) (va_cwS 3 hg (gwS w_399 w_400 w_1 w_401) rfl rfl rfl qdX4_partOfFraction ⟨Nat.le_of_ble_eq_true rfl, Nat.le_of_ble_eq_true rfl⟩) (k_preS w [] (by decide) rfl) rfl rfl hl.1 rfl (lv_room (Nat.le_of_ble_eq_true rfl)) dX4_share_98 ⟨Nat.le_refl _, Nat.le_refl _⟩) (fun H locs w => ?_)
      exact k_iret (u := ()) hx hb hr hlk w rfl (k_ret1 hf) dX4_share_101
    · replace hf := ite_f c1 hf
      refine lv_iload hx hb dX4_share_23 (lv_at hl 4 rfl) ?_
      refine lv_iload_n hx hb dX4_share_25 rfl (lv_at hl 1 rfl) ?_
      refine lv_ishr hx hb dX4_share_26 ?_
      refine lv_iconst (v := 1) hx hb dX4_share_27 (by decide) ?_
      refine lv_iand hx hb dX4_share_28 ?_
      refine lv_if_ne (tgt := 88) hx hb dX4_share_29 (by decide) (fun c3 => ?_) (fun c3 => ?_)
      · replace hf := ite_f c3 hf
        obtain ⟨z4, ez4⟩ : ∃ y : Int32, y = (v4 + 1) := ⟨_, rfl⟩
        replace hf := nm_at ez4 hf
        refine lv_iinc (v := z4) (lv' := [(4, .int z4), (0, .ref h_a), (1, .int v1), (2, .int v2), (3, .int v3)]) hx hb dX4_share_88 hl (k := 4) rfl (by rw [ez4]; rfl) (by decide) rfl (fun ls hl => ?_)
        refine lv_goto (tgt := 16) hx hb dX4_share_91 (by decide) ?_
        exact ih v3 z4 H locs ls hf w (lv_sub hl [1, 2, 3, 4, 0] rfl)
      · replace hf := ite_t c3 hf
        refine lv_aload_n hx hb dX4_share_32 rfl (lv_at hl 0 rfl) ?_
        refine va_get (D := D) (ci := 4) (v := .ref n_a) (C := RX4) (T := TX4) (N := 12) hx hb hg iX4 hown w.2.2.2.2.2.2.1 w.1 0 rfl rfl 1 (by decide) (hg _ w_86) (fun _ h9 => h9) rfl dX4_share_33 ?_
        refine lv_bipush (v := 15) hx hb dX4_share_36 (by decide) ?_
        refine lv_iload hx hb dX4_share_38 (lv_at hl 4 rfl) ?_
        refine lv_iconst (v := 1) hx hb dX4_share_40 (by decide) ?_
        refine lv_iload_n hx hb dX4_share_41 rfl (lv_at hl 1 rfl) ?_
        refine lv_ishl hx hb dX4_share_42 ?_
        refine lv_ior hx hb dX4_share_43 ?_
        refine lv_iconst (v := (-1)) hx hb dX4_share_44 (by decide) ?_
        refine lv_ixor hx hb dX4_share_45 ?_
        refine lv_iand hx hb dX4_share_46 ?_
        replace hf := ob_at hf
        obtain ⟨r5, er5, hf⟩ := hf
        refine k_goI0 w [3, 4, 5] rfl (va_runV (As := [.int ((15 : Int32) &&& ((v4 ||| ((1 : Int32) <<< (v1 &&& 31))) ^^^ ((-1) : Int32)))]) (rest := []) ⟨hx, hb, hml, hown, hg⟩ (tX1_sizeWithout l D cI cZ b0 tt n_a n_c n_d n_th n_ki n_fe n_ca n_lo ((15 : Int32) &&& ((v4 ||| ((1 : Int32) <<< (v1 &&& 31))) ^^^ ((-1) : Int32))) er5 H.size) (cwV 1 hg (gwV w_393 w_394 w_395 w_3 w_396) rfl rfl rfl ⟨rfl, qdX1_sizeWithout⟩ ⟨Nat.le_of_ble_eq_true rfl, Nat.le_of_ble_eq_true rfl⟩) (k_preV w [3, 4, 5] (by decide) rfl (q0 := 3) rfl rfl) rfl rfl hl.1 rfl (lv_room (Nat.le_of_ble_eq_true rfl)) dX4_share_47 ⟨Nat.le_refl _, Nat.le_refl _⟩) (fun H locs w => ?_)
        refine lv_istore (lv' := [(5, .int r5), (0, .ref h_a), (1, .int v1), (2, .int v2), (3, .int v3), (4, .int v4)]) hx hb dX4_share_50 hl (by decide) rfl (fun ls hl => ?_)
        refine lv_aload_n hx hb dX4_share_52 rfl (lv_at hl 1 rfl) ?_
        refine va_get (D := D) (ci := 4) (v := .ref n_a) (C := RX4) (T := TX4) (N := 12) hx hb hg iX4 hown w.2.2.2.2.2.2.1 w.1 0 rfl rfl 1 (by decide) (hg _ w_86) (fun _ h9 => h9) rfl dX4_share_53 ?_
        refine lv_bipush (v := 15) hx hb dX4_share_56 (by decide) ?_
        refine lv_iload hx hb dX4_share_58 (lv_at hl 5 rfl) ?_
        refine lv_iconst (v := (-1)) hx hb dX4_share_60 (by decide) ?_
        refine lv_ixor hx hb dX4_share_61 ?_
        refine lv_iand hx hb dX4_share_62 ?_
        replace hf := ob_at hf
        obtain ⟨r6, er6, hf⟩ := hf
        refine k_goI0 w [3, 4, 5] rfl (va_runV (As := [.int ((15 : Int32) &&& (v4 ^^^ ((-1) : Int32)))]) (rest := []) ⟨hx, hb, hml, hown, hg⟩ (tX1_sizeWithout l D cI cZ b0 tt n_a n_c n_d n_th n_ki n_fe n_ca n_lo ((15 : Int32) &&& (v4 ^^^ ((-1) : Int32))) er6 H.size) (cwV 1 hg (gwV w_393 w_394 w_395 w_3 w_396) rfl rfl rfl ⟨rfl, qdX1_sizeWithout⟩ ⟨Nat.le_of_ble_eq_true rfl, Nat.le_of_ble_eq_true rfl⟩) (k_preV w [3, 4, 5] (by decide) rfl (q0 := 3) rfl rfl) rfl rfl hl.1 rfl (lv_room (Nat.le_of_ble_eq_true rfl)) dX4_share_63 ⟨Nat.le_refl _, Nat.le_refl _⟩) (fun H locs w => ?_)
        refine lv_istore (lv' := [(6, .int r6), (5, .int r5), (0, .ref h_a), (1, .int v1), (2, .int v2), (3, .int v3), (4, .int v4)]) hx hb dX4_share_66 hl (by decide) rfl (fun ls hl => ?_)
        refine lv_iload_n hx hb dX4_share_68 rfl (lv_at hl 5 rfl) ?_
        refine va_gets hx hb (k_Z w w.2.2.2.2.2.2.2.1.2.2.2.2.2.2.2.1).1 w.2.2.1 hown (hg _ w_398) (fun _ h9 => h9) dX4_share_69 ?_
        refine lv_iload hx hb dX4_share_72 (lv_at hl 6 rfl) ?_
        replace hf := ob_at hf
        obtain ⟨r7, er7, hf⟩ := hf
        refine k_goI0 w [] rfl (va_runS (As := [.int v4]) (rest := [.ref (tt 7), .int v3]) ⟨hx, hb, hml, hown, hg⟩ (tJ6_bitCount_0f7a4 l D cI cZ b0 tt v4 er7 H.size) (va_cwS 1 hg (gwS w_359 w_223 w_8 w_224) rfl rfl rfl qdJ6_bitCount_0f7a4 ⟨Nat.le_of_ble_eq_true rfl, Nat.le_of_ble_eq_true rfl⟩) (k_preS w [] (by decide) rfl) rfl rfl hl.1 rfl (lv_room (Nat.le_of_ble_eq_true rfl)) dX4_share_74 ⟨Nat.le_refl _, Nat.le_refl _⟩) (fun H locs w => ?_)
        refine lv_iconst (v := 3) hx hb dX4_share_77 (by decide) ?_
        refine lv_iand hx hb dX4_share_78 ?_
        replace hf := gd_at hf
        obtain ⟨hi8, hf⟩ := hf
        refine va_ti hx hb (k_Z w w.2.2.2.2.2.2.2.1.2.2.2.2.2.2.2.1).2 w.2.2.1 hi8 (v := .int (sOR (Int32.toNatClampNeg (r7 &&& (3 : Int32))))) rfl dX4_share_79 ?_
        refine lv_iload hx hb dX4_share_80 (lv_at hl 1 rfl) ?_
        refine lv_iload hx hb dX4_share_82 (lv_at hl 0 rfl) ?_
        refine lv_isub hx hb dX4_share_84 ?_
        refine lv_imul hx hb dX4_share_85 ?_
        refine lv_iadd hx hb dX4_share_86 ?_
        refine lv_topi (fun z9 ez9 => ?_)
        replace hf := nm_at ez9 hf
        refine lv_istore_n (lv' := [(3, .int z9), (6, .int r6), (5, .int r5), (0, .ref h_a), (1, .int v1), (2, .int v2), (4, .int v4)]) hx hb dX4_share_87 rfl hl (by decide) rfl (fun ls hl => ?_)
        obtain ⟨z10, ez10⟩ : ∃ y : Int32, y = (v4 + 1) := ⟨_, rfl⟩
        replace hf := nm_at ez10 hf
        refine lv_iinc (v := z10) (lv' := [(4, .int z10), (3, .int z9), (6, .int r6), (5, .int r5), (0, .ref h_a), (1, .int v1), (2, .int v2)]) hx hb dX4_share_88 hl (k := 6) rfl (by rw [ez10]; rfl) (by decide) rfl (fun ls hl => ?_)
        refine lv_goto (tgt := 16) hx hb dX4_share_91 (by decide) ?_
        exact ih z9 z10 H locs ls hf w (lv_sub hl [4, 5, 6, 1, 0] rfl)
def fX4_share  (n_th : Int32) (a1 : Int32) (a2 : Int32) : Option (Int32) := (if a1 < 0 then some (-1) else (if a1 < 4 then fX4_share_L16 a1 a2 n_th FU 0 0 else some (-1)))
set_option maxRecDepth 100000 in
set_option maxHeartbeats 4000000 in
theorem tX4_share (l : Launch) (D : va_G) (cI cZ : ClassId) (b0 : Nat) (tt : Nat → Nat)  (h_a x_a n_a r_a c_a s_a k_a x_l n_c n_d r_c r_d c_t c_k c_f s_t s_k s_f k_f k_s : Nat) (h_ac : Int32) (h_ks : Int32) (h_hc : Int32) (h_ok : Int32) (h_tk : Int32) (h_se : Int64) (x_ln : Int32) (x_le : Nat → Int32) (n_th : Int32) (n_ki : Int32) (n_fe : Int32) (n_ca : Nat → Int32) (n_lo : Nat → Int32) (r_th : Int32) (r_ki : Int32) (r_fe : Int32) (r_ca : Nat → Int32) (r_lo : Nat → Int32) (c_sz : Int32) (c_st : Nat → Int32) (c_sk : Nat → Int32) (c_sf : Nat → Int32) (s_sz : Int32) (s_st : Nat → Int32) (s_sk : Nat → Int32) (s_sf : Nat → Int32) (k_fh : Nat → Int32) (k_sh : Nat → Int32) (a1 : Int32) (a2 : Int32) {res : Int32} (hf : fX4_share n_th a1 a2 = some res) : CtI l yX4_share (cwX4_share :: GW) 3 69 D cI cZ b0 tt [.ref h_a, .int a1, .int a2] (fun _ : Unit => [(h_a, .inr (4, [.ref x_a, .ref n_a, .ref r_a, .ref c_a, .ref s_a, .ref k_a, .int h_ac, .int h_ks, .int h_hc, .int h_ok, .int h_tk, .long h_se])), (x_a, .inr (3, [.ref x_l, .int x_ln])), (x_l, .inl (cI, 56, .inl x_le)), (n_a, .inr (1, [.int n_th, .int n_ki, .int n_fe, .ref n_c, .ref n_d])), (n_c, .inl (cI, 4, .inl n_ca)), (n_d, .inl (cI, 16, .inl n_lo)), (r_a, .inr (1, [.int r_th, .int r_ki, .int r_fe, .ref r_c, .ref r_d])), (r_c, .inl (cI, 4, .inl r_ca)), (r_d, .inl (cI, 16, .inl r_lo)), (c_a, .inr (2, [.int c_sz, .ref c_t, .ref c_k, .ref c_f])), (c_t, .inl (cI, 14, .inl c_st)), (c_k, .inl (cI, 14, .inl c_sk)), (c_f, .inl (cI, 14, .inl c_sf)), (s_a, .inr (2, [.int s_sz, .ref s_t, .ref s_k, .ref s_f])), (s_t, .inl (cI, 2, .inl s_st)), (s_k, .inl (cI, 2, .inl s_sk)), (s_f, .inl (cI, 2, .inl s_sf)), (k_a, .inr (0, [.ref k_f, .ref k_s])), (k_f, .inl (cI, 25, .inl k_fh)), (k_s, .inl (cI, 25, .inl k_sh))]) () (res, ()) := by
  intro sz
  refine k_begin (cc := cX4_share) (maxL := 7) (ret := (some .int)) (by decide) rfl (Nat.le_of_ble_eq_true rfl) ?_
  intro p e s m below meth c ls C w hl
  generalize va_A _ sz = A at w ⊢
  have w : Wd D cI cZ b0 tt A s [(h_a, .inr (4, [.ref x_a, .ref n_a, .ref r_a, .ref c_a, .ref s_a, .ref k_a, .int h_ac, .int h_ks, .int h_hc, .int h_ok, .int h_tk, .long h_se])), (x_a, .inr (3, [.ref x_l, .int x_ln])), (x_l, .inl (cI, 56, .inl x_le)), (n_a, .inr (1, [.int n_th, .int n_ki, .int n_fe, .ref n_c, .ref n_d])), (n_c, .inl (cI, 4, .inl n_ca)), (n_d, .inl (cI, 16, .inl n_lo)), (r_a, .inr (1, [.int r_th, .int r_ki, .int r_fe, .ref r_c, .ref r_d])), (r_c, .inl (cI, 4, .inl r_ca)), (r_d, .inl (cI, 16, .inl r_lo)), (c_a, .inr (2, [.int c_sz, .ref c_t, .ref c_k, .ref c_f])), (c_t, .inl (cI, 14, .inl c_st)), (c_k, .inl (cI, 14, .inl c_sk)), (c_f, .inl (cI, 14, .inl c_sf)), (s_a, .inr (2, [.int s_sz, .ref s_t, .ref s_k, .ref s_f])), (s_t, .inl (cI, 2, .inl s_st)), (s_k, .inl (cI, 2, .inl s_sk)), (s_f, .inl (cI, 2, .inl s_sf)), (k_a, .inr (0, [.ref k_f, .ref k_s])), (k_f, .inl (cI, 25, .inl k_fh)), (k_s, .inl (cI, 25, .inl k_sh))] s.heap [] := w
  have hl : lv_has ls 7 [(0, .ref h_a), (1, .int a1), (2, .int a2)] := hl
  obtain ⟨H, eH⟩ : ∃ H, H = s.heap := ⟨_, rfl⟩
  rw [← eH] at w ⊢
  generalize ([] : List Loc) = locs at w ⊢
  generalize List.toArray _ = args at C ⊢
  obtain ⟨hx, hb, hr, hml, hown, hts, hlk⟩ := id C
  have hg : ∀ w ∈ GW, w.before args s = true := fun w h => hts w (List.mem_cons_of_mem _ h)
  unfold fX4_share at hf
  refine lv_iload_n hx hb dX4_share_0 rfl (lv_at hl 1 rfl) ?_
  refine lv_if_lt (tgt := 9) hx hb dX4_share_1 (by decide) (fun c11 => ?_) (fun c11 => ?_)
  · replace hf := ite_t c11 hf
    refine lv_iconst (v := (-1)) hx hb dX4_share_9 (by decide) ?_
    exact k_iret (u := ()) hx hb hr hlk w rfl (k_ret1 hf) dX4_share_10
  · replace hf := ite_f c11 hf
    refine lv_iload_n hx hb dX4_share_4 rfl (lv_at hl 1 rfl) ?_
    refine lv_iconst (v := 4) hx hb dX4_share_5 (by decide) ?_
    refine lv_icmp_lt (tgt := 11) hx hb dX4_share_6 (by decide) (fun c12 => ?_) (fun c12 => ?_)
    · replace hf := ite_t c12 hf
      refine lv_iconst (v := 0) hx hb dX4_share_11 (by decide) ?_
      refine lv_istore_n (lv' := [(3, .int 0), (0, .ref h_a), (1, .int a1), (2, .int a2)]) hx hb dX4_share_12 rfl hl (by decide) rfl (fun ls hl => ?_)
      refine lv_iconst (v := 0) hx hb dX4_share_13 (by decide) ?_
      refine lv_istore (lv' := [(4, .int 0), (3, .int 0), (0, .ref h_a), (1, .int a1), (2, .int a2)]) hx hb dX4_share_14 hl (by decide) rfl (fun ls hl => ?_)
      exact tX4_share_L16 (v1 := a1) (v2 := a2) (n_th := n_th) (h_ac := h_ac) (h_ks := h_ks) (h_hc := h_hc) (h_ok := h_ok) (h_tk := h_tk) (h_se := h_se) (x_ln := x_ln) (x_le := x_le) (n_ki := n_ki) (n_fe := n_fe) (n_ca := n_ca) (n_lo := n_lo) (r_th := r_th) (r_ki := r_ki) (r_fe := r_fe) (r_ca := r_ca) (r_lo := r_lo) (c_sz := c_sz) (c_st := c_st) (c_sk := c_sk) (c_sf := c_sf) (s_sz := s_sz) (s_st := s_st) (s_sk := s_sk) (s_sf := s_sf) (k_fh := k_fh) (k_sh := k_sh) (C := C) FU 0 0 H locs ls hf w (lv_sub hl [2, 3, 4, 1, 0] rfl)
    · replace hf := ite_f c12 hf
      refine lv_iconst (v := (-1)) hx hb dX4_share_9 (by decide) ?_
      exact k_iret (u := ()) hx hb hr hlk w rfl (k_ret1 hf) dX4_share_10
-- X4_kindsThatHold
def fX4_kindsThatHold_L4   (v0 : Int32) (v1 : Int32) : Nat → Int32 → Int32 → Option (Int32)
  | 0, _, _ => none
  | n + 1, v2, v3 => (if 4 ≤ v3 then some v2 else ob (fX4_steadiness v3 v1) (fun r2 => (if r2 < ((8 : Int32) * v0) then nm (v3 + 1) (fun z4 => fX4_kindsThatHold_L4 v0 v1 n v2 z4) else nm (v2 ||| ((1 : Int32) <<< (v3 &&& 31))) (fun z5 => nm (v3 + 1) (fun z6 => fX4_kindsThatHold_L4 v0 v1 n z5 z6)))))
set_option maxRecDepth 100000 in
set_option maxHeartbeats 4000000 in
theorem tX4_kindsThatHold_L4 {p : Program} {l : Launch} {e : Env} {s : State} {m : MethodId} {args : Array Value} {below : List Frame} {meth : Method} {c : Code} {D : va_G} {cI cZ : ClassId} {b0 : Nat} {tt : Nat → Nat} {A : Nat → Prop}    {v0 : Int32} {v1 : Int32} {res : Int32} (C : Cx p s m args meth c cX4_kindsThatHold 4 (some .int) (cwX4_kindsThatHold :: GW) RX4) : ∀ (n : Nat) (v2 : Int32) (v3 : Int32) (H : Heap) (locs : List Loc) (ls : Array Slot), fX4_kindsThatHold_L4 v0 v1 n v2 v3 = some res → Wd D cI cZ b0 tt A s [] H locs → lv_has ls 4 [(0, .int v0), (1, .int v1), (2, .int v2), (3, .int v3)] → W p l e (rmo 2 41) s m args below meth c H locs 0 0 (MQ below (QI D (fun _ : Unit => []) A (res, ())) args s 0 0 A) (F0 m 4 ls []) := by
  obtain ⟨hx, hb, hr, hml, hown, hts, hlk⟩ := id C
  have hg : ∀ w ∈ GW, w.before args s = true := fun w h => hts w (List.mem_cons_of_mem _ h)
  intro n
  induction n with
  | zero =>
    intro _ _ H locs ls hf
    rw [fX4_kindsThatHold_L4] at hf
    cases hf
  | succ n ih =>
    intro v2 v3 H locs ls hf w hl
    rw [fX4_kindsThatHold_L4] at hf
    refine lv_iload_n hx hb dX4_kindsThatHold_4 rfl (lv_at hl 3 rfl) ?_
    refine lv_iconst (v := 4) hx hb dX4_kindsThatHold_5 (by decide) ?_
    refine lv_icmp_ge (tgt := 33) hx hb dX4_kindsThatHold_6 (by decide) (fun c1 => ?_) (fun c1 => ?_)
    · replace hf := ite_t c1 hf
      refine lv_iload_n hx hb dX4_kindsThatHold_33 rfl (lv_at hl 2 rfl) ?_
      exact k_iret (u := ()) hx hb hr hlk w rfl (k_ret1 hf) dX4_kindsThatHold_34
    · replace hf := ite_f c1 hf
      refine lv_iload_n hx hb dX4_kindsThatHold_9 rfl (lv_at hl 3 rfl) ?_
      refine lv_iload_n hx hb dX4_kindsThatHold_10 rfl (lv_at hl 1 rfl) ?_
      replace hf := ob_at hf
      obtain ⟨r2, er2, hf⟩ := hf
      refine k_goI0 w [] rfl (va_runS (As := [.int v3, .int v1]) (rest := []) ⟨hx, hb, hml, hown, hg⟩ (tX4_steadiness l D cI cZ b0 tt v3 v1 er2 H.size) (va_cwS 2 hg (gwS w_416 w_318 w_1 w_319) rfl rfl rfl qdX4_steadiness ⟨Nat.le_of_ble_eq_true rfl, Nat.le_of_ble_eq_true rfl⟩) (k_preS w [] (by decide) rfl) rfl rfl hl.1 rfl (lv_room (Nat.le_of_ble_eq_true rfl)) dX4_kindsThatHold_11 ⟨Nat.le_refl _, Nat.le_refl _⟩) (fun H locs w => ?_)
      refine lv_bipush (v := 8) hx hb dX4_kindsThatHold_14 (by decide) ?_
      refine lv_iload_n hx hb dX4_kindsThatHold_16 rfl (lv_at hl 0 rfl) ?_
      refine lv_imul hx hb dX4_kindsThatHold_17 ?_
      refine lv_icmp_lt (tgt := 27) hx hb dX4_kindsThatHold_18 (by decide) (fun c3 => ?_) (fun c3 => ?_)
      · replace hf := ite_t c3 hf
        obtain ⟨z4, ez4⟩ : ∃ y : Int32, y = (v3 + 1) := ⟨_, rfl⟩
        replace hf := nm_at ez4 hf
        refine lv_iinc (v := z4) (lv' := [(3, .int z4), (0, .int v0), (1, .int v1), (2, .int v2)]) hx hb dX4_kindsThatHold_27 hl (k := 3) rfl (by rw [ez4]; rfl) (by decide) rfl (fun ls hl => ?_)
        refine lv_goto (tgt := 4) hx hb dX4_kindsThatHold_30 (by decide) ?_
        exact ih v2 z4 H locs ls hf w (lv_sub hl [1, 2, 3, 0] rfl)
      · replace hf := ite_f c3 hf
        refine lv_iload_n hx hb dX4_kindsThatHold_21 rfl (lv_at hl 2 rfl) ?_
        refine lv_iconst (v := 1) hx hb dX4_kindsThatHold_22 (by decide) ?_
        refine lv_iload_n hx hb dX4_kindsThatHold_23 rfl (lv_at hl 3 rfl) ?_
        refine lv_ishl hx hb dX4_kindsThatHold_24 ?_
        refine lv_ior hx hb dX4_kindsThatHold_25 ?_
        refine lv_topi (fun z5 ez5 => ?_)
        replace hf := nm_at ez5 hf
        refine lv_istore_n (lv' := [(2, .int z5), (0, .int v0), (1, .int v1), (3, .int v3)]) hx hb dX4_kindsThatHold_26 rfl hl (by decide) rfl (fun ls hl => ?_)
        obtain ⟨z6, ez6⟩ : ∃ y : Int32, y = (v3 + 1) := ⟨_, rfl⟩
        replace hf := nm_at ez6 hf
        refine lv_iinc (v := z6) (lv' := [(3, .int z6), (2, .int z5), (0, .int v0), (1, .int v1)]) hx hb dX4_kindsThatHold_27 hl (k := 3) rfl (by rw [ez6]; rfl) (by decide) rfl (fun ls hl => ?_)
        refine lv_goto (tgt := 4) hx hb dX4_kindsThatHold_30 (by decide) ?_
        exact ih z5 z6 H locs ls hf w (lv_sub hl [2, 3, 1, 0] rfl)
def fX4_kindsThatHold  (a1 : Int32) (a2 : Int32) : Option (Int32) := fX4_kindsThatHold_L4 a1 a2 FU 0 0
set_option maxRecDepth 100000 in
set_option maxHeartbeats 4000000 in
theorem tX4_kindsThatHold (l : Launch) (D : va_G) (cI cZ : ClassId) (b0 : Nat) (tt : Nat → Nat)    (a1 : Int32) (a2 : Int32) {res : Int32} (hf : fX4_kindsThatHold a1 a2 = some res) : CtI l yX4_kindsThatHold (cwX4_kindsThatHold :: GW) 2 41 D cI cZ b0 tt [.int a1, .int a2] (fun _ : Unit => []) () (res, ()) := by
  intro sz
  refine k_begin (cc := cX4_kindsThatHold) (maxL := 4) (ret := (some .int)) (by decide) rfl (Nat.le_of_ble_eq_true rfl) ?_
  intro p e s m below meth c ls C w hl
  generalize va_A _ sz = A at w ⊢
  have w : Wd D cI cZ b0 tt A s [] s.heap [] := w
  have hl : lv_has ls 4 [(0, .int a1), (1, .int a2)] := hl
  obtain ⟨H, eH⟩ : ∃ H, H = s.heap := ⟨_, rfl⟩
  rw [← eH] at w ⊢
  generalize ([] : List Loc) = locs at w ⊢
  generalize List.toArray _ = args at C ⊢
  obtain ⟨hx, hb, hr, hml, hown, hts, hlk⟩ := id C
  have hg : ∀ w ∈ GW, w.before args s = true := fun w h => hts w (List.mem_cons_of_mem _ h)
  unfold fX4_kindsThatHold at hf
  refine lv_iconst (v := 0) hx hb dX4_kindsThatHold_0 (by decide) ?_
  refine lv_istore_n (lv' := [(2, .int 0), (0, .int a1), (1, .int a2)]) hx hb dX4_kindsThatHold_1 rfl hl (by decide) rfl (fun ls hl => ?_)
  refine lv_iconst (v := 0) hx hb dX4_kindsThatHold_2 (by decide) ?_
  refine lv_istore_n (lv' := [(3, .int 0), (2, .int 0), (0, .int a1), (1, .int a2)]) hx hb dX4_kindsThatHold_3 rfl hl (by decide) rfl (fun ls hl => ?_)
  exact tX4_kindsThatHold_L4 (v0 := a1) (v1 := a2) (C := C) FU 0 0 H locs ls hf w (lv_sub hl [2, 3, 1, 0] rfl)
