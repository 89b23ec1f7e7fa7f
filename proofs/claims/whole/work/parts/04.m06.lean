-- X4_draught
def fX4_draught  (h_ac : Int32) (n_th : Int32) (n_ki : Int32) (n_fe : Int32) (n_lo : Nat → Int32) (c_sz : Int32) (c_st : Nat → Int32) (c_sk : Nat → Int32) (c_sf : Nat → Int32) (a1 : Int32) (a2 : Int32) : Option (Int32 × Int32 × Int32 × Int32 × (Nat → Int32) × (Nat → Int32) × (Nat → Int32) × (Nat → Int32)) := ob (fX4_isLevel a1) (fun r1 => (if r1 = 0 then some ((-1), (h_ac, n_th, n_fe, n_lo, c_st, c_sk, c_sf)) else ob (fX4_isForce a2) (fun r3 => (if r3 = 0 then some ((-2), (h_ac, n_th, n_fe, n_lo, c_st, c_sk, c_sf)) else ob (fX4_recordAct h_ac n_th n_ki n_fe c_sz c_st c_sk c_sf) (fun r5 => ob (fX1_blow n_th n_ki n_fe n_lo a1 a2) (fun r6 => some (r6.1, (r5.1, r6.2.1, r6.2.2.1, r6.2.2.2, r5.2.1, r5.2.2.1, r5.2.2.2))))))))
set_option maxRecDepth 100000 in
set_option maxHeartbeats 4000000 in
theorem tX4_draught (l : Launch) (D : va_G) (cI cZ : ClassId) (b0 : Nat) (tt : Nat → Nat)  (h_a x_a n_a r_a c_a s_a k_a x_l n_c n_d r_c r_d c_t c_k c_f s_t s_k s_f k_f k_s : Nat) (h_ac : Int32) (h_ks : Int32) (h_hc : Int32) (h_ok : Int32) (h_tk : Int32) (h_se : Int64) (x_ln : Int32) (x_le : Nat → Int32) (n_th : Int32) (n_ki : Int32) (n_fe : Int32) (n_ca : Nat → Int32) (n_lo : Nat → Int32) (r_th : Int32) (r_ki : Int32) (r_fe : Int32) (r_ca : Nat → Int32) (r_lo : Nat → Int32) (c_sz : Int32) (c_st : Nat → Int32) (c_sk : Nat → Int32) (c_sf : Nat → Int32) (s_sz : Int32) (s_st : Nat → Int32) (s_sk : Nat → Int32) (s_sf : Nat → Int32) (k_fh : Nat → Int32) (k_sh : Nat → Int32) (a1 : Int32) (a2 : Int32) {res : Int32 × Int32 × Int32 × Int32 × (Nat → Int32) × (Nat → Int32) × (Nat → Int32) × (Nat → Int32)} (hf : fX4_draught h_ac n_th n_ki n_fe n_lo c_sz c_st c_sk c_sf a1 a2 = some res) : CtI l yX4_draught (cwX4_draught :: GW) 4 91 D cI cZ b0 tt [.ref h_a, .int a1, .int a2] (fun u : Int32 × Int32 × Int32 × (Nat → Int32) × (Nat → Int32) × (Nat → Int32) × (Nat → Int32) => [(h_a, .inr (4, [.ref x_a, .ref n_a, .ref r_a, .ref c_a, .ref s_a, .ref k_a, .int u.1, .int h_ks, .int h_hc, .int h_ok, .int h_tk, .long h_se])), (x_a, .inr (3, [.ref x_l, .int x_ln])), (x_l, .inl (cI, 56, .inl x_le)), (n_a, .inr (1, [.int u.2.1, .int n_ki, .int u.2.2.1, .ref n_c, .ref n_d])), (n_c, .inl (cI, 4, .inl n_ca)), (n_d, .inl (cI, 16, .inl u.2.2.2.1)), (r_a, .inr (1, [.int r_th, .int r_ki, .int r_fe, .ref r_c, .ref r_d])), (r_c, .inl (cI, 4, .inl r_ca)), (r_d, .inl (cI, 16, .inl r_lo)), (c_a, .inr (2, [.int c_sz, .ref c_t, .ref c_k, .ref c_f])), (c_t, .inl (cI, 14, .inl u.2.2.2.2.1)), (c_k, .inl (cI, 14, .inl u.2.2.2.2.2.1)), (c_f, .inl (cI, 14, .inl u.2.2.2.2.2.2)), (s_a, .inr (2, [.int s_sz, .ref s_t, .ref s_k, .ref s_f])), (s_t, .inl (cI, 2, .inl s_st)), (s_k, .inl (cI, 2, .inl s_sk)), (s_f, .inl (cI, 2, .inl s_sf)), (k_a, .inr (0, [.ref k_f, .ref k_s])), (k_f, .inl (cI, 25, .inl k_fh)), (k_s, .inl (cI, 25, .inl k_sh))]) (h_ac, n_th, n_fe, n_lo, c_st, c_sk, c_sf) res := by
  intro sz
  refine k_begin (cc := cX4_draught) (maxL := 3) (ret := (some .int)) (by decide) rfl (Nat.le_of_ble_eq_true rfl) ?_
  intro p e s m below meth c ls C w hl
  generalize va_A _ sz = A at w ⊢
  have w : Wd D cI cZ b0 tt A s [(h_a, .inr (4, [.ref x_a, .ref n_a, .ref r_a, .ref c_a, .ref s_a, .ref k_a, .int h_ac, .int h_ks, .int h_hc, .int h_ok, .int h_tk, .long h_se])), (x_a, .inr (3, [.ref x_l, .int x_ln])), (x_l, .inl (cI, 56, .inl x_le)), (n_a, .inr (1, [.int n_th, .int n_ki, .int n_fe, .ref n_c, .ref n_d])), (n_c, .inl (cI, 4, .inl n_ca)), (n_d, .inl (cI, 16, .inl n_lo)), (r_a, .inr (1, [.int r_th, .int r_ki, .int r_fe, .ref r_c, .ref r_d])), (r_c, .inl (cI, 4, .inl r_ca)), (r_d, .inl (cI, 16, .inl r_lo)), (c_a, .inr (2, [.int c_sz, .ref c_t, .ref c_k, .ref c_f])), (c_t, .inl (cI, 14, .inl c_st)), (c_k, .inl (cI, 14, .inl c_sk)), (c_f, .inl (cI, 14, .inl c_sf)), (s_a, .inr (2, [.int s_sz, .ref s_t, .ref s_k, .ref s_f])), (s_t, .inl (cI, 2, .inl s_st)), (s_k, .inl (cI, 2, .inl s_sk)), (s_f, .inl (cI, 2, .inl s_sf)), (k_a, .inr (0, [.ref k_f, .ref k_s])), (k_f, .inl (cI, 25, .inl k_fh)), (k_s, .inl (cI, 25, .inl k_sh))] s.heap [] := w
  have hl : lv_has ls 3 [(0, .ref h_a), (1, .int a1), (2, .int a2)] := hl
  obtain ⟨H, eH⟩ : ∃ H, H = s.heap := ⟨_, rfl⟩
  rw [← eH] at w ⊢
  generalize ([] : List Loc) = locs at w ⊢
  generalize List.toArray _ = args at C ⊢
  obtain ⟨hx, hb, hr, hml, hown, hts, hlk⟩ := id C
  have hg : ∀ w ∈ GW, w.before args s = true := fun w h => hts w (List.mem_cons_of_mem _ h)
  unfold fX4_draught at hf
  refine lv_iload_n hx hb dX4_draught_0 rfl (lv_at hl 1 rfl) ?_
  replace hf := ob_at hf
  obtain ⟨r1, er1, hf⟩ := hf
  refine k_goI0 w [] rfl (va_runS (As := [.int a1]) (rest := []) ⟨hx, hb, hml, hown, hg⟩ (tX4_isLevel l D cI cZ b0 tt a1 er1 H.size) (va_cwS 1 hg (gwS w_305 w_306 w_1 w_307) rfl rfl rfl qdX4_isLevel ⟨Nat.le_of_ble_eq_true rfl, Nat.le_of_ble_eq_true rfl⟩) (k_preS w [] (by decide) rfl) rfl rfl hl.1 rfl (lv_room (Nat.le_of_ble_eq_true rfl)) dX4_draught_1 ⟨Nat.le_refl _, Nat.le_refl _⟩) (fun H locs w => ?_)
  refine lv_if_ne (tgt := 9) hx hb dX4_draught_4 (by decide) (fun c2 => ?_) (fun c2 => ?_)
  · replace hf := ite_f c2 hf
    refine lv_iload_n hx hb dX4_draught_9 rfl (lv_at hl 2 rfl) ?_
    replace hf := ob_at hf
    obtain ⟨r3, er3, hf⟩ := hf
    refine k_goI0 w [] rfl (va_runS (As := [.int a2]) (rest := []) ⟨hx, hb, hml, hown, hg⟩ (tX4_isForce l D cI cZ b0 tt a2 er3 H.size) (va_cwS 1 hg (gwS w_308 w_309 w_1 w_310) rfl rfl rfl qdX4_isForce ⟨Nat.le_of_ble_eq_true rfl, Nat.le_of_ble_eq_true rfl⟩) (k_preS w [] (by decide) rfl) rfl rfl hl.1 rfl (lv_room (Nat.le_of_ble_eq_true rfl)) dX4_draught_10 ⟨Nat.le_refl _, Nat.le_refl _⟩) (fun H locs w => ?_)
    refine lv_if_ne (tgt := 19) hx hb dX4_draught_13 (by decide) (fun c4 => ?_) (fun c4 => ?_)
    · replace hf := ite_f c4 hf
      refine lv_aload_n hx hb dX4_draught_19 rfl (lv_at hl 0 rfl) ?_
      replace hf := ob_at hf
      obtain ⟨r5, er5, hf⟩ := hf
      refine k_goV (v0 := (h_ac, c_st, c_sk, c_sf)) (res := r5) w [0, 1, 2, 3, 4, 5, 6, 7, 8, 9, 10, 11, 12, 13, 14, 15, 16, 17, 18, 19] rfl (fun _ => rfl) (va_runV (As := []) (rest := []) ⟨hx, hb, hml, hown, hg⟩ (tX4_recordAct l D cI cZ b0 tt h_a x_a n_a r_a c_a s_a k_a x_l n_c n_d r_c r_d c_t c_k c_f s_t s_k s_f k_f k_s h_ac h_ks h_hc h_ok h_tk h_se x_ln x_le n_th n_ki n_fe n_ca n_lo r_th r_ki r_fe r_ca r_lo c_sz c_st c_sk c_sf s_sz s_st s_sk s_sf k_fh k_sh er5 H.size) (cwV 0 hg (gwV w_275 w_276 w_836 w_1 w_277) rfl rfl rfl ⟨rfl, qdX4_recordAct⟩ ⟨Nat.le_of_ble_eq_true rfl, Nat.le_of_ble_eq_true rfl⟩) (k_preV w [0, 1, 2, 3, 4, 5, 6, 7, 8, 9, 10, 11, 12, 13, 14, 15, 16, 17, 18, 19] (by decide) rfl (q0 := 0) rfl rfl) rfl rfl hl.1 rfl (lv_room (Nat.le_of_ble_eq_true rfl)) dX4_draught_20 ⟨Nat.le_refl _, Nat.le_refl _⟩) (fun H locs w => ?_)
      have w : Wd D cI cZ b0 tt A s [(h_a, .inr (4, [.ref x_a, .ref n_a, .ref r_a, .ref c_a, .ref s_a, .ref k_a, .int r5.1, .int h_ks, .int h_hc, .int h_ok, .int h_tk, .long h_se])), (x_a, .inr (3, [.ref x_l, .int x_ln])), (x_l, .inl (cI, 56, .inl x_le)), (n_a, .inr (1, [.int n_th, .int n_ki, .int n_fe, .ref n_c, .ref n_d])), (n_c, .inl (cI, 4, .inl n_ca)), (n_d, .inl (cI, 16, .inl n_lo)), (r_a, .inr (1, [.int r_th, .int r_ki, .int r_fe, .ref r_c, .ref r_d])), (r_c, .inl (cI, 4, .inl r_ca)), (r_d, .inl (cI, 16, .inl r_lo)), (c_a, .inr (2, [.int c_sz, .ref c_t, .ref c_k, .ref c_f])), (c_t, .inl (cI, 14, .inl r5.2.1)), (c_k, .inl (cI, 14, .inl r5.2.2.1)), (c_f, .inl (cI, 14, .inl r5.2.2.2)), (s_a, .inr (2, [.int s_sz, .ref s_t, .ref s_k, .ref s_f])), (s_t, .inl (cI, 2, .inl s_st)), (s_k, .inl (cI, 2, .inl s_sk)), (s_f, .inl (cI, 2, .inl s_sf)), (k_a, .inr (0, [.ref k_f, .ref k_s])), (k_f, .inl (cI, 25, .inl k_fh)), (k_s, .inl (cI, 25, .inl k_sh))] H locs := w
      refine lv_aload_n hx hb dX4_draught_23 rfl (lv_at hl 0 rfl) ?_
      refine va_get (D := D) (ci := 4) (v := .ref n_a) (C := RX4) (T := TX4) (N := 12) hx hb hg iX4 hown w.2.2.2.2.2.2.1 w.1 0 rfl rfl 1 (by decide) (hg _ w_86) (fun _ h9 => h9) rfl dX4_draught_24 ?_
      refine lv_iload_n hx hb dX4_draught_27 rfl (lv_at hl 1 rfl) ?_
      refine lv_iload_n hx hb dX4_draught_28 rfl (lv_at hl 2 rfl) ?_
      replace hf := ob_at hf
      obtain ⟨r6, er6, hf⟩ := hf
      refine k_goI (v0 := (n_th, n_fe, n_lo)) (res := r6) w [3, 4, 5] rfl (fun _ => rfl) (va_runV (As := [.int a1, .int a2]) (rest := []) ⟨hx, hb, hml, hown, hg⟩ (tX1_blow l D cI cZ b0 tt n_a n_c n_d n_th n_ki n_fe n_ca n_lo a1 a2 er6 H.size) (cwV 2 hg (gwV w_311 w_312 w_313 w_3 w_314) rfl rfl rfl ⟨rfl, qdX1_blow⟩ ⟨Nat.le_of_ble_eq_true rfl, Nat.le_of_ble_eq_true rfl⟩) (k_preV w [3, 4, 5] (by decide) rfl (q0 := 3) rfl rfl) rfl rfl hl.1 rfl (lv_room (Nat.le_of_ble_eq_true rfl)) dX4_draught_29 ⟨Nat.le_refl _, Nat.le_refl _⟩) (fun H locs w => ?_)
      have w : Wd D cI cZ b0 tt A s [(h_a, .inr (4, [.ref x_a, .ref n_a, .ref r_a, .ref c_a, .ref s_a, .ref k_a, .int r5.1, .int h_ks, .int h_hc, .int h_ok, .int h_tk, .long h_se])), (x_a, .inr (3, [.ref x_l, .int x_ln])), (x_l, .inl (cI, 56, .inl x_le)), (n_a, .inr (1, [.int r6.2.1, .int n_ki, .int r6.2.2.1, .ref n_c, .ref n_d])), (n_c, .inl (cI, 4, .inl n_ca)), (n_d, .inl (cI, 16, .inl r6.2.2.2)), (r_a, .inr (1, [.int r_th, .int r_ki, .int r_fe, .ref r_c, .ref r_d])), (r_c, .inl (cI, 4, .inl r_ca)), (r_d, .inl (cI, 16, .inl r_lo)), (c_a, .inr (2, [.int c_sz, .ref c_t, .ref c_k, .ref c_f])), (c_t, .inl (cI, 14, .inl r5.2.1)), (c_k, .inl (cI, 14, .inl r5.2.2.1)), (c_f, .inl (cI, 14, .inl r5.2.2.2)), (s_a, .inr (2, [.int s_sz, .ref s_t, .ref s_k, .ref s_f])), (s_t, .inl (cI, 2, .inl s_st)), (s_k, .inl (cI, 2, .inl s_sk)), (s_f, .inl (cI, 2, .inl s_sf)), (k_a, .inr (0, [.ref k_f, .ref k_s])), (k_f, .inl (cI, 25, .inl k_fh)), (k_s, .inl (cI, 25, .inl k_sh))] H locs := w
      exact k_iret (u := (r5.1, r6.2.1, r6.2.2.1, r6.2.2.2, r5.2.1, r5.2.2.1, r5.2.2.2)) hx hb hr hlk w rfl hf dX4_draught_32
    · replace hf := ite_t c4 hf
      refine lv_bipush (v := (-2)) hx hb dX4_draught_16 (by decide) ?_
      exact k_iret (u := (h_ac, n_th, n_fe, n_lo, c_st, c_sk, c_sf)) hx hb hr hlk w rfl hf dX4_draught_18
  · replace hf := ite_t c2 hf
    refine lv_iconst (v := (-1)) hx hb dX4_draught_7 (by decide) ?_
    exact k_iret (u := (h_ac, n_th, n_fe, n_lo, c_st, c_sk, c_sf)) hx hb hr hlk w rfl hf dX4_draught_8
-- X4_undo
def fX4_undo  (h_ac : Int32) (n_th : Int32) (n_ki : Int32) (n_fe : Int32) (c_sz : Int32) (c_st : Nat → Int32) (c_sk : Nat → Int32) (c_sf : Nat → Int32) : Option (Int32 × Int32 × Int32 × Int32 × Int32) := (if h_ac = 0 then some ((-3), (h_ac, n_th, n_ki, n_fe)) else nm (h_ac - (1 : Int32)) (fun z2 => ob (fX2_restore 14 c_sz c_st c_sk c_sf n_th n_ki n_fe z2) (fun r3 => some (z2, (z2, r3.1, r3.2.1, r3.2.2)))))
set_option maxRecDepth 100000 in
set_option maxHeartbeats 4000000 in
theorem tX4_undo (l : Launch) (D : va_G) (cI cZ : ClassId) (b0 : Nat) (tt : Nat → Nat)  (h_a x_a n_a r_a c_a s_a k_a x_l n_c n_d r_c r_d c_t c_k c_f s_t s_k s_f k_f k_s : Nat) (h_ac : Int32) (h_ks : Int32) (h_hc : Int32) (h_ok : Int32) (h_tk : Int32) (h_se : Int64) (x_ln : Int32) (x_le : Nat → Int32) (n_th : Int32) (n_ki : Int32) (n_fe : Int32) (n_ca : Nat → Int32) (n_lo : Nat → Int32) (r_th : Int32) (r_ki : Int32) (r_fe : Int32) (r_ca : Nat → Int32) (r_lo : Nat → Int32) (c_sz : Int32) (c_st : Nat → Int32) (c_sk : Nat → Int32) (c_sf : Nat → Int32) (s_sz : Int32) (s_st : Nat → Int32) (s_sk : Nat → Int32) (s_sf : Nat → Int32) (k_fh : Nat → Int32) (k_sh : Nat → Int32)  {res : Int32 × Int32 × Int32 × Int32 × Int32} (hf : fX4_undo h_ac n_th n_ki n_fe c_sz c_st c_sk c_sf = some res) : CtI l yX4_undo (cwX4_undo :: GW) 1 22 D cI cZ b0 tt [.ref h_a] (fun u : Int32 × Int32 × Int32 × Int32 => [(h_a, .inr (4, [.ref x_a, .ref n_a, .ref r_a, .ref c_a, .ref s_a, .ref k_a, .int u.1, .int h_ks, .int h_hc, .int h_ok, .int h_tk, .long h_se])), (x_a, .inr (3, [.ref x_l, .int x_ln])), (x_l, .inl (cI, 56, .inl x_le)), (n_a, .inr (1, [.int u.2.1, .int u.2.2.1, .int u.2.2.2, .ref n_c, .ref n_d])), (n_c, .inl (cI, 4, .inl n_ca)), (n_d, .inl (cI, 16, .inl n_lo)), (r_a, .inr (1, [.int r_th, .int r_ki, .int r_fe, .ref r_c, .ref r_d])), (r_c, .inl (cI, 4, .inl r_ca)), (r_d, .inl (cI, 16, .inl r_lo)), (c_a, .inr (2, [.int c_sz, .ref c_t, .ref c_k, .ref c_f])), (c_t, .inl (cI, 14, .inl c_st)), (c_k, .inl (cI, 14, .inl c_sk)), (c_f, .inl (cI, 14, .inl c_sf)), (s_a, .inr (2, [.int s_sz, .ref s_t, .ref s_k, .ref s_f])), (s_t, .inl (cI, 2, .inl s_st)), (s_k, .inl (cI, 2, .inl s_sk)), (s_f, .inl (cI, 2, .inl s_sf)), (k_a, .inr (0, [.ref k_f, .ref k_s])), (k_f, .inl (cI, 25, .inl k_fh)), (k_s, .inl (cI, 25, .inl k_sh))]) (h_ac, n_th, n_ki, n_fe) res := by
  intro sz
  refine k_begin (cc := cX4_undo) (maxL := 1) (ret := (some .int)) (by decide) rfl (Nat.le_of_ble_eq_true rfl) ?_
  intro p e s m below meth c ls C w hl
  generalize va_A _ sz = A at w ⊢
  have w : Wd D cI cZ b0 tt A s [(h_a, .inr (4, [.ref x_a, .ref n_a, .ref r_a, .ref c_a, .ref s_a, .ref k_a, .int h_ac, .int h_ks, .int h_hc, .int h_ok, .int h_tk, .long h_se])), (x_a, .inr (3, [.ref x_l, .int x_ln])), (x_l, .inl (cI, 56, .inl x_le)), (n_a, .inr (1, [.int n_th, .int n_ki, .int n_fe, .ref n_c, .ref n_d])), (n_c, .inl (cI, 4, .inl n_ca)), (n_d, .inl (cI, 16, .inl n_lo)), (r_a, .inr (1, [.int r_th, .int r_ki, .int r_fe, .ref r_c, .ref r_d])), (r_c, .inl (cI, 4, .inl r_ca)), (r_d, .inl (cI, 16, .inl r_lo)), (c_a, .inr (2, [.int c_sz, .ref c_t, .ref c_k, .ref c_f])), (c_t, .inl (cI, 14, .inl c_st)), (c_k, .inl (cI, 14, .inl c_sk)), (c_f, .inl (cI, 14, .inl c_sf)), (s_a, .inr (2, [.int s_sz, .ref s_t, .ref s_k, .ref s_f])), (s_t, .inl (cI, 2, .inl s_st)), (s_k, .inl (cI, 2, .inl s_sk)), (s_f, .inl (cI, 2, .inl s_sf)), (k_a, .inr (0, [.ref k_f, .ref k_s])), (k_f, .inl (cI, 25, .inl k_fh)), (k_s, .inl (cI, 25, .inl k_sh))] s.heap [] := w
  have hl : lv_has ls 1 [(0, .ref h_a)] := hl
  obtain ⟨H, eH⟩ : ∃ H, H = s.heap := ⟨_, rfl⟩
  rw [← eH] at w ⊢
  generalize ([] : List Loc) = locs at w ⊢
  generalize List.toArray _ = args at C ⊢
  obtain ⟨hx, hb, hr, hml, hown, hts, hlk⟩ := id C
  have hg : ∀ w ∈ GW, w.before args s = true := fun w h => hts w (List.mem_cons_of_mem _ h)
  unfold fX4_undo at hf
  refine lv_aload_n hx hb dX4_undo_0 rfl (lv_at hl 0 rfl) ?_
  refine va_get (D := D) (ci := 4) (v := .int h_ac) (C := RX4) (T := TX4) (N := 12) hx hb hg iX4 hown w.2.2.2.2.2.2.1 w.1 0 rfl rfl 6 (by decide) (hg _ w_91) (fun _ h9 => h9) rfl dX4_undo_1 ?_
  refine lv_if_ne (tgt := 10) hx hb dX4_undo_4 (by decide) (fun c1 => ?_) (fun c1 => ?_)
  · replace hf := ite_f c1 hf
    refine lv_aload_n hx hb dX4_undo_10 rfl (lv_at hl 0 rfl) ?_
    refine lv_dup hx hb dX4_undo_11 rfl ?_
    refine va_get (D := D) (ci := 4) (v := .int h_ac) (C := RX4) (T := TX4) (N := 12) hx hb hg iX4 hown w.2.2.2.2.2.2.1 w.1 0 rfl rfl 6 (by decide) (hg _ w_91) (fun _ h9 => h9) rfl dX4_undo_12 ?_
    refine lv_iconst (v := 1) hx hb dX4_undo_15 (by decide) ?_
    refine lv_isub hx hb dX4_undo_16 ?_
    refine lv_topi (fun z2 ez2 => ?_)
    replace hf := nm_at ez2 hf
    refine k_put (ci := 4) (v := .int z2) (ty := .int) (C := RX4) (T := TX4) (N := 12) hx hb hg iX4 tyX4 tyX4_ok nmX4 hown w 0 rfl rfl 6 (by decide) (hg _ w_91) (fun _ h9 => h9) rfl pd_I rfl rfl (Nat.le_of_ble_eq_true rfl) dX4_undo_17 (fun H locs w => ?_)
    have w : Wd D cI cZ b0 tt A s [(h_a, .inr (4, [.ref x_a, .ref n_a, .ref r_a, .ref c_a, .ref s_a, .ref k_a, .int z2, .int h_ks, .int h_hc, .int h_ok, .int h_tk, .long h_se])), (x_a, .inr (3, [.ref x_l, .int x_ln])), (x_l, .inl (cI, 56, .inl x_le)), (n_a, .inr (1, [.int n_th, .int n_ki, .int n_fe, .ref n_c, .ref n_d])), (n_c, .inl (cI, 4, .inl n_ca)), (n_d, .inl (cI, 16, .inl n_lo)), (r_a, .inr (1, [.int r_th, .int r_ki, .int r_fe, .ref r_c, .ref r_d])), (r_c, .inl (cI, 4, .inl r_ca)), (r_d, .inl (cI, 16, .inl r_lo)), (c_a, .inr (2, [.int c_sz, .ref c_t, .ref c_k, .ref c_f])), (c_t, .inl (cI, 14, .inl c_st)), (c_k, .inl (cI, 14, .inl c_sk)), (c_f, .inl (cI, 14, .inl c_sf)), (s_a, .inr (2, [.int s_sz, .ref s_t, .ref s_k, .ref s_f])), (s_t, .inl (cI, 2, .inl s_st)), (s_k, .inl (cI, 2, .inl s_sk)), (s_f, .inl (cI, 2, .inl s_sf)), (k_a, .inr (0, [.ref k_f, .ref k_s])), (k_f, .inl (cI, 25, .inl k_fh)), (k_s, .inl (cI, 25, .inl k_sh))] H locs := w
    refine lv_aload_n hx hb dX4_undo_20 rfl (lv_at hl 0 rfl) ?_
    refine va_get (D := D) (ci := 4) (v := .ref c_a) (C := RX4) (T := TX4) (N := 12) hx hb hg iX4 hown w.2.2.2.2.2.2.1 w.1 0 rfl rfl 3 (by decide) (hg _ w_88) (fun _ h9 => h9) rfl dX4_undo_21 ?_
    refine lv_aload_n hx hb dX4_undo_24 rfl (lv_at hl 0 rfl) ?_
    refine va_get (D := D) (ci := 4) (v := .int z2) (C := RX4) (T := TX4) (N := 12) hx hb hg iX4 hown w.2.2.2.2.2.2.1 w.1 0 rfl rfl 6 (by decide) (hg _ w_91) (fun _ h9 => h9) rfl dX4_undo_25 ?_
    refine lv_aload_n hx hb dX4_undo_28 rfl (lv_at hl 0 rfl) ?_
    refine va_get (D := D) (ci := 4) (v := .ref n_a) (C := RX4) (T := TX4) (N := 12) hx hb hg iX4 hown w.2.2.2.2.2.2.1 w.1 0 rfl rfl 1 (by decide) (hg _ w_86) (fun _ h9 => h9) rfl dX4_undo_29 ?_
    replace hf := ob_at hf
    obtain ⟨r3, er3, hf⟩ := hf
    refine k_goV (v0 := (n_th, n_ki, n_fe)) (res := r3) w [9, 10, 11, 12, 3, 4, 5] rfl (fun _ => rfl) (va_runV (As := [.int z2, .ref n_a]) (rest := []) ⟨hx, hb, hml, hown, hg⟩ (tX2_restore l D cI cZ b0 tt 14 c_a c_t c_k c_f n_a n_c n_d c_sz c_st c_sk c_sf n_th n_ki n_fe n_ca n_lo z2 er3 H.size) (cwV 2 hg (gwV w_326 w_327 w_328 w_4 w_329) rfl rfl rfl ⟨rfl, qdX2_restore⟩ ⟨Nat.le_of_ble_eq_true rfl, Nat.le_of_ble_eq_true rfl⟩) (k_preV w [9, 10, 11, 12, 3, 4, 5] (by decide) rfl (q0 := 9) rfl rfl) rfl rfl hl.1 rfl (lv_room (Nat.le_of_ble_eq_true rfl)) dX4_undo_32 ⟨Nat.le_refl _, Nat.le_refl _⟩) (fun H locs w => ?_)
    have w : Wd D cI cZ b0 tt A s [(h_a, .inr (4, [.ref x_a, .ref n_a, .ref r_a, .ref c_a, .ref s_a, .ref k_a, .int z2, .int h_ks, .int h_hc, .int h_ok, .int h_tk, .long h_se])), (x_a, .inr (3, [.ref x_l, .int x_ln])), (x_l, .inl (cI, 56, .inl x_le)), (n_a, .inr (1, [.int r3.1, .int r3.2.1, .int r3.2.2, .ref n_c, .ref n_d])), (n_c, .inl (cI, 4, .inl n_ca)), (n_d, .inl (cI, 16, .inl n_lo)), (r_a, .inr (1, [.int r_th, .int r_ki, .int r_fe, .ref r_c, .ref r_d])), (r_c, .inl (cI, 4, .inl r_ca)), (r_d, .inl (cI, 16, .inl r_lo)), (c_a, .inr (2, [.int c_sz, .ref c_t, .ref c_k, .ref c_f])), (c_t, .inl (cI, 14, .inl c_st)), (c_k, .inl (cI, 14, .inl c_sk)), (c_f, .inl (cI, 14, .inl c_sf)), (s_a, .inr (2, [.int s_sz, .ref s_t, .ref s_k, .ref s_f])), (s_t, .inl (cI, 2, .inl s_st)), (s_k, .inl (cI, 2, .inl s_sk)), (s_f, .inl (cI, 2, .inl s_sf)), (k_a, .inr (0, [.ref k_f, .ref k_s])), (k_f, .inl (cI, 25, .inl k_fh)), (k_s, .inl (cI, 25, .inl k_sh))] H locs := w
    refine lv_aload_n hx hb dX4_undo_35 rfl (lv_at hl 0 rfl) ?_
    refine va_get (D := D) (ci := 4) (v := .int z2) (C := RX4) (T := TX4) (N := 12) hx hb hg iX4 hown w.2.2.2.2.2.2.1 w.1 0 rfl rfl 6 (by decide) (hg _ w_91) (fun _ h9 => h9) rfl dX4_undo_36 ?_
    exact k_iret (u := (z2, r3.1, r3.2.1, r3.2.2)) hx hb hr hlk w rfl hf dX4_undo_39
  · replace hf := ite_t c1 hf
    refine lv_bipush (v := (-3)) hx hb dX4_undo_7 (by decide) ?_
    exact k_iret (u := (h_ac, n_th, n_ki, n_fe)) hx hb hr hlk w rfl hf dX4_undo_9
-- X4_open
def fX4_open_L23   (v1 : Int32) (v2 : Int32) (n_th : Int32) (n_ki : Int32) (n_ca : Nat → Int32) : Nat → Int32 → Int32 → Option (Int32)
  | 0, _, _ => none
  | n + 1, v3, v4 => (if 16 ≤ v4 then some v3 else ob (fX1_hasRoomFor n_th v4) (fun r2 => (if r2 = 0 then nm (v4 + 1) (fun z4 => fX4_open_L23 v1 v2 n_th n_ki n_ca n v3 z4) else ob (fX4_cardsOf v4) (fun r5 => (if v2 < r5 then nm (v4 + 1) (fun z7 => fX4_open_L23 v1 v2 n_th n_ki n_ca n v3 z7) else nm (v3 ||| ((1 : Int32) <<< (v4 &&& 31))) (fun z8 => nm (v4 + 1) (fun z9 => fX4_open_L23 v1 v2 n_th n_ki n_ca n z8 z9)))))))
set_option maxRecDepth 100000 in
set_option maxHeartbeats 4000000 in
theorem tX4_open_L23 {p : Program} {l : Launch} {e : Env} {s : State} {m : MethodId} {args : Array Value} {below : List Frame} {meth : Method} {c : Code} {D : va_G} {cI cZ : ClassId} {b0 : Nat} {tt : Nat → Nat} {A : Nat → Prop}  {h_a x_a n_a r_a c_a s_a k_a x_l n_c n_d r_c r_d c_t c_k c_f s_t s_k s_f k_f k_s : Nat}  {v1 : Int32} {v2 : Int32} {n_th : Int32} {n_ki : Int32} {n_ca : Nat → Int32} {h_ac : Int32} {h_ks : Int32} {h_hc : Int32} {h_ok : Int32} {h_tk : Int32} {h_se : Int64} {x_ln : Int32} {x_le : Nat → Int32} {n_fe : Int32} {n_lo : Nat → Int32} {r_th : Int32} {r_ki : Int32} {r_fe : Int32} {r_ca : Nat → Int32} {r_lo : Nat → Int32} {c_sz : Int32} {c_st : Nat → Int32} {c_sk : Nat → Int32} {c_sf : Nat → Int32} {s_sz : Int32} {s_st : Nat → Int32} {s_sk : Nat → Int32} {s_sf : Nat → Int32} {k_fh : Nat → Int32} {k_sh : Nat → Int32} {res : Int32} (C : Cx p s m args meth c cX4_open 5 (some .int) (cwX4_open :: GW) RX4) : ∀ (n : Nat) (v3 : Int32) (v4 : Int32) (H : Heap) (locs : List Loc) (ls : Array Slot), fX4_open_L23 v1 v2 n_th n_ki n_ca n v3 v4 = some res → Wd D cI cZ b0 tt A s [(h_a, .inr (4, [.ref x_a, .ref n_a, .ref r_a, .ref c_a, .ref s_a, .ref k_a, .int h_ac, .int h_ks, .int h_hc, .int h_ok, .int h_tk, .long h_se])), (x_a, .inr (3, [.ref x_l, .int x_ln])), (x_l, .inl (cI, 56, .inl x_le)), (n_a, .inr (1, [.int n_th, .int n_ki, .int n_fe, .ref n_c, .ref n_d])), (n_c, .inl (cI, 4, .inl n_ca)), (n_d, .inl (cI, 16, .inl n_lo)), (r_a, .inr (1, [.int r_th, .int r_ki, .int r_fe, .ref r_c, .ref r_d])), (r_c, .inl (cI, 4, .inl r_ca)), (r_d, .inl (cI, 16, .inl r_lo)), (c_a, .inr (2, [.int c_sz, .ref c_t, .ref c_k, .ref c_f])), (c_t, .inl (cI, 14, .inl c_st)), (c_k, .inl (cI, 14, .inl c_sk)), (c_f, .inl (cI, 14, .inl c_sf)), (s_a, .inr (2, [.int s_sz, .ref s_t, .ref s_k, .ref s_f])), (s_t, .inl (cI, 2, .inl s_st)), (s_k, .inl (cI, 2, .inl s_sk)), (s_f, .inl (cI, 2, .inl s_sf)), (k_a, .inr (0, [.ref k_f, .ref k_s])), (k_f, .inl (cI, 25, .inl k_fh)), (k_s, .inl (cI, 25, .inl k_sh))] H locs → lv_has ls 5 [(0, .ref h_a), (1, .int v1), (2, .int v2), (3, .int v3), (4, .int v4)] → W p l e (rmo 2 44) s m args below meth c H locs 0 0 (MQ below (QI D (fun _ : Unit => [(h_a, .inr (4, [.ref x_a, .ref n_a, .ref r_a, .ref c_a, .ref s_a, .ref k_a, .int h_ac, .int h_ks, .int h_hc, .int h_ok, .int h_tk, .long h_se])), (x_a, .inr (3, [.ref x_l, .int x_ln])), (x_l, .inl (cI, 56, .inl x_le)), (n_a, .inr (1, [.int n_th, .int n_ki, .int n_fe, .ref n_c, .ref n_d])), (n_c, .inl (cI, 4, .inl n_ca)), (n_d, .inl (cI, 16, .inl n_lo)), (r_a, .inr (1, [.int r_th, .int r_ki, .int r_fe, .ref r_c, .ref r_d])), (r_c, .inl (cI, 4, .inl r_ca)), (r_d, .inl (cI, 16, .inl r_lo)), (c_a, .inr (2, [.int c_sz, .ref c_t, .ref c_k, .ref c_f])), (c_t, .inl (cI, 14, .inl c_st)), (c_k, .inl (cI, 14, .inl c_sk)), (c_f, .inl (cI, 14, .inl c_sf)), (s_a, .inr (2, [.int s_sz, .ref s_t, .ref s_k, .ref s_f])), (s_t, .inl (cI, 2, .inl s_st)), (s_k, .inl (cI, 2, .inl s_sk)), (s_f, .inl (cI, 2, .inl s_sf)), (k_a, .inr (0, [.ref k_f, .ref k_s])), (k_f, .inl (cI, 25, .inl k_fh)), (k_s, .inl (cI, 25, .inl k_sh))]) A (res, ())) args s 0 0 A) (F0 m 23 ls []) := by
  obtain ⟨hx, hb, hr, hml, hown, hts, hlk⟩ := id C
  have hg : ∀ w ∈ GW, w.before args s = true := fun w h => hts w (List.mem_cons_of_mem _ h)
  intro n
  induction n with
  | zero =>
    intro _ _ H locs ls hf
    rw [fX4_open_L23] at hf
    cases hf
  | succ n ih =>
    intro v3 v4 H locs ls hf w hl
    rw [fX4_open_L23] at hf
    refine lv_iload hx hb dX4_open_23 (lv_at hl 4 rfl) ?_
    refine lv_bipush (v := 16) hx hb dX4_open_25 (by decide) ?_
    refine lv_icmp_ge (tgt := 64) hx hb dX4_open_27 (by decide) (fun c1 => ?_) (fun c1 => ?_)
    · replace hf := ite_t c1 hf
      refine lv_iload_n hx hb dX4_open_64 rfl (lv_at hl 3 rfl) ?_
      exact k_iret (u := ()) hx hb hr hlk w rfl (k_ret1 hf) dX4_open_65
    · replace hf := ite_f c1 hf
      refine lv_aload_n hx hb dX4_open_30 rfl (lv_at hl 0 rfl) ?_
      refine va_get (D := D) (ci := 4) (v := .ref n_a) (C := RX4) (T := TX4) (N := 12) hx hb hg iX4 hown w.2.2.2.2.2.2.1 w.1 0 rfl rfl 1 (by decide) (hg _ w_86) (fun _ h9 => h9) rfl dX4_open_31 ?_
      refine lv_iload hx hb dX4_open_34 (lv_at hl 4 rfl) ?_
      replace hf := ob_at hf
      obtain ⟨r2, er2, hf⟩ := hf
      refine k_goI0 w [3, 4, 5] rfl (va_runV (As := [.int v4]) (rest := []) ⟨hx, hb, hml, hown, hg⟩ (tX1_hasRoomFor l D cI cZ b0 tt n_a n_c n_d n_th n_ki n_fe n_ca n_lo v4 er2 H.size) (cwV 1 hg (gwV w_334 w_181 w_182 w_3 w_183) rfl rfl rfl ⟨rfl, qdX1_hasRoomFor⟩ ⟨Nat.le_of_ble_eq_true rfl, Nat.le_of_ble_eq_true rfl⟩) (k_preV w [3, 4, 5] (by decide) rfl (q0 := 3) rfl rfl) rfl rfl hl.1 rfl (lv_room (Nat.le_of_ble_eq_true rfl)) dX4_open_36 ⟨Nat.le_refl _, Nat.le_refl _⟩) (fun H locs w => ?_)
      refine lv_if_eq (tgt := 58) hx hb dX4_open_39 (by decide) (fun c3 => ?_) (fun c3 => ?_)
      · replace hf := ite_t c3 hf
        obtain ⟨z4, ez4⟩ : ∃ y : Int32, y = (v4 + 1) := ⟨_, rfl⟩
        replace hf := nm_at ez4 hf
        refine lv_iinc (v := z4) (lv' := [(4, .int z4), (0, .ref h_a), (1, .int v1), (2, .int v2), (3, .int v3)]) hx hb dX4_open_58 hl (k := 4) rfl (by rw [ez4]; rfl) (by decide) rfl (fun ls hl => ?_)
        refine lv_goto (tgt := 23) hx hb dX4_open_61 (by decide) ?_
        exact ih v3 z4 H locs ls hf w (lv_sub hl [1, 2, 3, 4, 0] rfl)
      · replace hf := ite_f c3 hf
        refine lv_iload hx hb dX4_open_42 (lv_at hl 4 rfl) ?_
        replace hf := ob_at hf
        obtain ⟨r5, er5, hf⟩ := hf
        refine k_goI0 w [] rfl (va_runS (As := [.int v4]) (rest := []) ⟨hx, hb, hml, hown, hg⟩ (tX4_cardsOf l D cI cZ b0 tt v4 er5 H.size) (va_cwS 1 hg (gwS w_300 w_173 w_1 w_174) rfl rfl rfl qdX4_cardsOf ⟨Nat.le_of_ble_eq_true rfl, Nat.le_of_ble_eq_true rfl⟩) (k_preS w [] (by decide) rfl) rfl rfl hl.1 rfl (lv_room (Nat.le_of_ble_eq_true rfl)) dX4_open_44 ⟨Nat.le_refl _, Nat.le_refl _⟩) (fun H locs w => ?_)
        refine lv_iload_n hx hb dX4_open_47 rfl (lv_at hl 2 rfl) ?_
        refine lv_icmp_gt (tgt := 58) hx hb dX4_open_48 (by decide) (fun c6 => ?_) (fun c6 => ?_)
        · replace hf := ite_t c6 hf
          obtain ⟨z7, ez7⟩ : ∃ y : Int32, y = (v4 + 1) := ⟨_, rfl⟩
          replace hf := nm_at ez7 hf
          refine lv_iinc (v := z7) (lv' := [(4, .int z7), (0, .ref h_a), (1, .int v1), (2, .int v2), (3, .int v3)]) hx hb dX4_open_58 hl (k := 4) rfl (by rw [ez7]; rfl) (by decide) rfl (fun ls hl => ?_)
          refine lv_goto (tgt := 23) hx hb dX4_open_61 (by decide) ?_
          exact ih v3 z7 H locs ls hf w (lv_sub hl [1, 2, 3, 4, 0] rfl)
        · replace hf := ite_f c6 hf
          refine lv_iload_n hx hb dX4_open_51 rfl (lv_at hl 3 rfl) ?_
          refine lv_iconst (v := 1) hx hb dX4_open_52 (by decide) ?_
          refine lv_iload hx hb dX4_open_53 (lv_at hl 4 rfl) ?_
          refine lv_ishl hx hb dX4_open_55 ?_
          refine lv_ior hx hb dX4_open_56 ?_
          refine lv_topi (fun z8 ez8 => ?_)
          replace hf := nm_at ez8 hf
          refine lv_istore_n (lv' := [(3, .int z8), (0, .ref h_a), (1, .int v1), (2, .int v2), (4, .int v4)]) hx hb dX4_open_57 rfl hl (by decide) rfl (fun ls hl => ?_)
          obtain ⟨z9, ez9⟩ : ∃ y : Int32, y = (v4 + 1) := ⟨_, rfl⟩
          replace hf := nm_at ez9 hf
          refine lv_iinc (v := z9) (lv' := [(4, .int z9), (3, .int z8), (0, .ref h_a), (1, .int v1), (2, .int v2)]) hx hb dX4_open_58 hl (k := 4) rfl (by rw [ez9]; rfl) (by decide) rfl (fun ls hl => ?_)
          refine lv_goto (tgt := 23) hx hb dX4_open_61 (by decide) ?_
          exact ih z8 z9 H locs ls hf w (lv_sub hl [2, 3, 4, 1, 0] rfl)
def fX4_open  (n_th : Int32) (n_ki : Int32) (n_ca : Nat → Int32) (a1 : Int32) : Option (Int32) := ob (fX4_isKind a1) (fun r10 => (if r10 = 0 then some (-1) else ob (fX1_cardsLeft n_th n_ki n_ca a1) (fun r12 => fX4_open_L23 a1 r12 n_th n_ki n_ca FU 0 0)))
set_option maxRecDepth 100000 in
set_option maxHeartbeats 4000000 in
theorem tX4_open (l : Launch) (D : va_G) (cI cZ : ClassId) (b0 : Nat) (tt : Nat → Nat)  (h_a x_a n_a r_a c_a s_a k_a x_l n_c n_d r_c r_d c_t c_k c_f s_t s_k s_f k_f k_s : Nat) (h_ac : Int32) (h_ks : Int32) (h_hc : Int32) (h_ok : Int32) (h_tk : Int32) (h_se : Int64) (x_ln : Int32) (x_le : Nat → Int32) (n_th : Int32) (n_ki : Int32) (n_fe : Int32) (n_ca : Nat → Int32) (n_lo : Nat → Int32) (r_th : Int32) (r_ki : Int32) (r_fe : Int32) (r_ca : Nat → Int32) (r_lo : Nat → Int32) (c_sz : Int32) (c_st : Nat → Int32) (c_sk : Nat → Int32) (c_sf : Nat → Int32) (s_sz : Int32) (s_st : Nat → Int32) (s_sk : Nat → Int32) (s_sf : Nat → Int32) (k_fh : Nat → Int32) (k_sh : Nat → Int32) (a1 : Int32) {res : Int32} (hf : fX4_open n_th n_ki n_ca a1 = some res) : CtI l yX4_open (cwX4_open :: GW) 2 44 D cI cZ b0 tt [.ref h_a, .int a1] (fun _ : Unit => [(h_a, .inr (4, [.ref x_a, .ref n_a, .ref r_a, .ref c_a, .ref s_a, .ref k_a, .int h_ac, .int h_ks, .int h_hc, .int h_ok, .int h_tk, .long h_se])), (x_a, .inr (3, [.ref x_l, .int x_ln])), (x_l, .inl (cI, 56, .inl x_le)), (n_a, .inr (1, [.int n_th, .int n_ki, .int n_fe, .ref n_c, .ref n_d])), (n_c, .inl (cI, 4, .inl n_ca)), (n_d, .inl (cI, 16, .inl n_lo)), (r_a, .inr (1, [.int r_th, .int r_ki, .int r_fe, .ref r_c, .ref r_d])), (r_c, .inl (cI, 4, .inl r_ca)), (r_d, .inl (cI, 16, .inl r_lo)), (c_a, .inr (2, [.int c_sz, .ref c_t, .ref c_k, .ref c_f])), (c_t, .inl (cI, 14, .inl c_st)), (c_k, .inl (cI, 14, .inl c_sk)), (c_f, .inl (cI, 14, .inl c_sf)), (s_a, .inr (2, [.int s_sz, .ref s_t, .ref s_k, .ref s_f])), (s_t, .inl (cI, 2, .inl s_st)), (s_k, .inl (cI, 2, .inl s_sk)), (s_f, .inl (cI, 2, .inl s_sf)), (k_a, .inr (0, [.ref k_f, .ref k_s])), (k_f, .inl (cI, 25, .inl k_fh)), (k_s, .inl (cI, 25, .inl k_sh))]) () (res, ()) := by
  intro sz
  refine k_begin (cc := cX4_open) (maxL := 5) (ret := (some .int)) (by decide) rfl (Nat.le_of_ble_eq_true rfl) ?_
  intro p e s m below meth c ls C w hl
  generalize va_A _ sz = A at w ⊢
  have w : Wd D cI cZ b0 tt A s [(h_a, .inr (4, [.ref x_a, .ref n_a, .ref r_a, .ref c_a, .ref s_a, .ref k_a, .int h_ac, .int h_ks, .int h_hc, .int h_ok, .int h_tk, .long h_se])), (x_a, .inr (3, [.ref x_l, .int x_ln])), (x_l, .inl (cI, 56, .inl x_le)), (n_a, .inr (1, [.int n_th, .int n_ki, .int n_fe, .ref n_c, .ref n_d])), (n_c, .inl (cI, 4, .inl n_ca)), (n_d, .inl (cI, 16, .inl n_lo)), (r_a, .inr (1, [.int r_th, .int r_ki, .int r_fe, .ref r_c, .ref r_d])), (r_c, .inl (cI, 4, .inl r_ca)), (r_d, .inl (cI, 16, .inl r_lo)), (c_a, .inr (2, [.int c_sz, .ref c_t, .ref c_k, .ref c_f])), (c_t, .inl (cI, 14, .inl c_st)), (c_k, .inl (cI, 14, .inl c_sk)), (c_f, .inl (cI, 14, .inl c_sf)), (s_a, .inr (2, [.int s_sz, .ref s_t, .ref s_k, .ref s_f])), (s_t, .inl (cI, 2, .inl s_st)), (s_k, .inl (cI, 2, .inl s_sk)), (s_f, .inl (cI, 2, .inl s_sf)), (k_a, .inr (0, [.ref k_f, .ref k_s])), (k_f, .inl (cI, 25, .inl k_fh)), (k_s, .inl (cI, 25, .inl k_sh))] s.heap [] := w
  have hl : lv_has ls 5 [(0, .ref h_a), (1, .int a1)] := hl
  obtain ⟨H, eH⟩ : ∃ H, H = s.heap := ⟨_, rfl⟩
  rw [← eH] at w ⊢
  generalize ([] : List Loc) = locs at w ⊢
  generalize List.toArray _ = args at C ⊢
  obtain ⟨hx, hb, hr, hml, hown, hts, hlk⟩ := id C
  have hg : ∀ w ∈ GW, w.before args s = true := fun w h => hts w (List.mem_cons_of_mem _ h)
  unfold fX4_open at hf
  refine lv_iload_n hx hb dX4_open_0 rfl (lv_at hl 1 rfl) ?_
  replace hf := ob_at hf
  obtain ⟨r10, er10, hf⟩ := hf
  refine k_goI0 w [] rfl (va_runS (As := [.int a1]) (rest := []) ⟨hx, hb, hml, hown, hg⟩ (tX4_isKind l D cI cZ b0 tt a1 er10 H.size) (va_cwS 1 hg (gwS w_252 w_152 w_1 w_153) rfl rfl rfl qdX4_isKind ⟨Nat.le_of_ble_eq_true rfl, Nat.le_of_ble_eq_true rfl⟩) (k_preS w [] (by decide) rfl) rfl rfl hl.1 rfl (lv_room (Nat.le_of_ble_eq_true rfl)) dX4_open_1 ⟨Nat.le_refl _, Nat.le_refl _⟩) (fun H locs w => ?_)
  refine lv_if_ne (tgt := 9) hx hb dX4_open_4 (by decide) (fun c11 => ?_) (fun c11 => ?_)
  · replace hf := ite_f c11 hf
    refine lv_aload_n hx hb dX4_open_9 rfl (lv_at hl 0 rfl) ?_
    refine va_get (D := D) (ci := 4) (v := .ref n_a) (C := RX4) (T := TX4) (N := 12) hx hb hg iX4 hown w.2.2.2.2.2.2.1 w.1 0 rfl rfl 1 (by decide) (hg _ w_86) (fun _ h9 => h9) rfl dX4_open_10 ?_
    refine lv_iload_n hx hb dX4_open_13 rfl (lv_at hl 1 rfl) ?_
    replace hf := ob_at hf
    obtain ⟨r12, er12, hf⟩ := hf
    refine k_goI0 w [3, 4, 5] rfl (va_runV (As := [.int a1]) (rest := []) ⟨hx, hb, hml, hown, hg⟩ (tX1_cardsLeft l D cI cZ b0 tt n_a n_c n_d n_th n_ki n_fe n_ca n_lo a1 er12 H.size) (cwV 1 hg (gwV w_243 w_162 w_163 w_3 w_164) rfl rfl rfl ⟨rfl, qdX1_cardsLeft⟩ ⟨Nat.le_of_ble_eq_true rfl, Nat.le_of_ble_eq_true rfl⟩) (k_preV w [3, 4, 5] (by decide) rfl (q0 := 3) rfl rfl) rfl rfl hl.1 rfl (lv_room (Nat.le_of_ble_eq_true rfl)) dX4_open_14 ⟨Nat.le_refl _, Nat.le_refl _⟩) (fun H locs w => ?_)
    refine lv_istore_n (lv' := [(2, .int r12), (0, .ref h_a), (1, .int a1)]) hx hb dX4_open_17 rfl hl (by decide) rfl (fun ls hl => ?_)
    refine lv_iconst (v := 0) hx hb dX4_open_18 (by decide) ?_
    refine lv_istore_n (lv' := [(3, .int 0), (2, .int r12), (0, .ref h_a), (1, .int a1)]) hx hb dX4_open_19 rfl hl (by decide) rfl (fun ls hl => ?_)
    refine lv_iconst (v := 0) hx hb dX4_open_20 (by decide) ?_
    refine lv_istore (lv' := [(4, .int 0), (3, .int 0), (2, .int r12), (0, .ref h_a), (1, .int a1)]) hx hb dX4_open_21 hl (by decide) rfl (fun ls hl => ?_)
    exact tX4_open_L23 (v1 := a1) (v2 := r12) (n_th := n_th) (n_ki := n_ki) (n_ca := n_ca) (h_ac := h_ac) (h_ks := h_ks) (h_hc := h_hc) (h_ok := h_ok) (h_tk := h_tk) (h_se := h_se) (x_ln := x_ln) (x_le := x_le) (n_fe := n_fe) (n_lo := n_lo) (r_th := r_th) (r_ki := r_ki) (r_fe := r_fe) (r_ca := r_ca) (r_lo := r_lo) (c_sz := c_sz) (c_st := c_st) (c_sk := c_sk) (c_sf := c_sf) (s_sz := s_sz) (s_st := s_st) (s_sk := s_sk) (s_sf := s_sf) (k_fh := k_fh) (k_sh := k_sh) (C := C) FU 0 0 H locs ls hf w (lv_sub hl [3, 4, 2, 1, 0] rfl)
  · replace hf := ite_t c11 hf
    refine lv_iconst (v := (-1)) hx hb dX4_open_7 (by decide) ?_
    exact k_iret (u := ()) hx hb hr hlk w rfl (k_ret1 hf) dX4_open_8
-- X4_spread
def fX4_spread  (n_th : Int32) (a1 : Int32) : Option (Int32) := ob (fX4_isPiece a1) (fun r1 => (if r1 = 0 then some (-1) else ob (fX1_has n_th a1) (fun r3 => (if r3 = 0 then some (-3) else ob (fX1_goneWith n_th ((1 : Int32) <<< (a1 &&& 31))) (fun r5 => some r5)))))
set_option maxRecDepth 100000 in
set_option maxHeartbeats 4000000 in
theorem tX4_spread (l : Launch) (D : va_G) (cI cZ : ClassId) (b0 : Nat) (tt : Nat → Nat)  (h_a x_a n_a r_a c_a s_a k_a x_l n_c n_d r_c r_d c_t c_k c_f s_t s_k s_f k_f k_s : Nat) (h_ac : Int32) (h_ks : Int32) (h_hc : Int32) (h_ok : Int32) (h_tk : Int32) (h_se : Int64) (x_ln : Int32) (x_le : Nat → Int32) (n_th : Int32) (n_ki : Int32) (n_fe : Int32) (n_ca : Nat → Int32) (n_lo : Nat → Int32) (r_th : Int32) (r_ki : Int32) (r_fe : Int32) (r_ca : Nat → Int32) (r_lo : Nat → Int32) (c_sz : Int32) (c_st : Nat → Int32) (c_sk : Nat → Int32) (c_sf : Nat → Int32) (s_sz : Int32) (s_st : Nat → Int32) (s_sk : Nat → Int32) (s_sf : Nat → Int32) (k_fh : Nat → Int32) (k_sh : Nat → Int32) (a1 : Int32) {res : Int32} (hf : fX4_spread n_th a1 = some res) : CtI l yX4_spread (cwX4_spread :: GW) 2 44 D cI cZ b0 tt [.ref h_a, .int a1] (fun _ : Unit => [(h_a, .inr (4, [.ref x_a, .ref n_a, .ref r_a, .ref c_a, .ref s_a, .ref k_a, .int h_ac, .int h_ks, .int h_hc, .int h_ok, .int h_tk, .long h_se])), (x_a, .inr (3, [.ref x_l, .int x_ln])), (x_l, .inl (cI, 56, .inl x_le)), (n_a, .inr (1, [.int n_th, .int n_ki, .int n_fe, .ref n_c, .ref n_d])), (n_c, .inl (cI, 4, .inl n_ca)), (n_d, .inl (cI, 16, .inl n_lo)), (r_a, .inr (1, [.int r_th, .int r_ki, .int r_fe, .ref r_c, .ref r_d])), (r_c, .inl (cI, 4, .inl r_ca)), (r_d, .inl (cI, 16, .inl r_lo)), (c_a, .inr (2, [.int c_sz, .ref c_t, .ref c_k, .ref c_f])), (c_t, .inl (cI, 14, .inl c_st)), (c_k, .inl (cI, 14, .inl c_sk)), (c_f, .inl (cI, 14, .inl c_sf)), (s_a, .inr (2, [.int s_sz, .ref s_t, .ref s_k, .ref s_f])), (s_t, .inl (cI, 2, .inl s_st)), (s_k, .inl (cI, 2, .inl s_sk)), (s_f, .inl (cI, 2, .inl s_sf)), (k_a, .inr (0, [.ref k_f, .ref k_s])), (k_f, .inl (cI, 25, .inl k_fh)), (k_s, .inl (cI, 25, .inl k_sh))]) () (res, ()) := by
  intro sz
  refine k_begin (cc := cX4_spread) (maxL := 2) (ret := (some .int)) (by decide) rfl (Nat.le_of_ble_eq_true rfl) ?_
  intro p e s m below meth c ls C w hl
  generalize va_A _ sz = A at w ⊢
  have w : Wd D cI cZ b0 tt A s [(h_a, .inr (4, [.ref x_a, .ref n_a, .ref r_a, .ref c_a, .ref s_a, .ref k_a, .int h_ac, .int h_ks, .int h_hc, .int h_ok, .int h_tk, .long h_se])), (x_a, .inr (3, [.ref x_l, .int x_ln])), (x_l, .inl (cI, 56, .inl x_le)), (n_a, .inr (1, [.int n_th, .int n_ki, .int n_fe, .ref n_c, .ref n_d])), (n_c, .inl (cI, 4, .inl n_ca)), (n_d, .inl (cI, 16, .inl n_lo)), (r_a, .inr (1, [.int r_th, .int r_ki, .int r_fe, .ref r_c, .ref r_d])), (r_c, .inl (cI, 4, .inl r_ca)), (r_d, .inl (cI, 16, .inl r_lo)), (c_a, .inr (2, [.int c_sz, .ref c_t, .ref c_k, .ref c_f])), (c_t, .inl (cI, 14, .inl c_st)), (c_k, .inl (cI, 14, .inl c_sk)), (c_f, .inl (cI, 14, .inl c_sf)), (s_a, .inr (2, [.int s_sz, .ref s_t, .ref s_k, .ref s_f])), (s_t, .inl (cI, 2, .inl s_st)), (s_k, .inl (cI, 2, .inl s_sk)), (s_f, .inl (cI, 2, .inl s_sf)), (k_a, .inr (0, [.ref k_f, .ref k_s])), (k_f, .inl (cI, 25, .inl k_fh)), (k_s, .inl (cI, 25, .inl k_sh))] s.heap [] := w
  have hl : lv_has ls 2 [(0, .ref h_a), (1, .int a1)] := hl
  obtain ⟨H, eH⟩ : ∃ H, H = s.heap := ⟨_, rfl⟩
  rw [← eH] at w ⊢
  generalize ([] : List Loc) = locs at w ⊢
  generalize List.toArray _ = args at C ⊢
  obtain ⟨hx, hb, hr, hml, hown, hts, hlk⟩ := id C
  have hg : ∀ w ∈ GW, w.before args s = true := fun w h => hts w (List.mem_cons_of_mem _ h)
  unfold fX4_spread at hf
  refine lv_iload_n hx hb dX4_spread_0 rfl (lv_at hl 1 rfl) ?_
  replace hf := ob_at hf
  obtain ⟨r1, er1, hf⟩ := hf
  refine k_goI0 w [] rfl (va_runS (As := [.int a1]) (rest := []) ⟨hx, hb, hml, hown, hg⟩ (tX4_isPiece l D cI cZ b0 tt a1 er1 H.size) (va_cwS 1 hg (gwS w_257 w_184 w_1 w_185) rfl rfl rfl qdX4_isPiece ⟨Nat.le_of_ble_eq_true rfl, Nat.le_of_ble_eq_true rfl⟩) (k_preS w [] (by decide) rfl) rfl rfl hl.1 rfl (lv_room (Nat.le_of_ble_eq_true rfl)) dX4_spread_1 ⟨Nat.le_refl _, Nat.le_refl _⟩) (fun H locs w => ?_)
  refine lv_if_ne (tgt := 9) hx hb dX4_spread_4 (by decide) (fun c2 => ?_) (fun c2 => ?_)
  · replace hf := ite_f c2 hf
    refine lv_aload_n hx hb dX4_spread_9 rfl (lv_at hl 0 rfl) ?_
    refine va_get (D := D) (ci := 4) (v := .ref n_a) (C := RX4) (T := TX4) (N := 12) hx hb hg iX4 hown w.2.2.2.2.2.2.1 w.1 0 rfl rfl 1 (by decide) (hg _ w_86) (fun _ h9 => h9) rfl dX4_spread_10 ?_
    refine lv_iload_n hx hb dX4_spread_13 rfl (lv_at hl 1 rfl) ?_
    replace hf := ob_at hf
    obtain ⟨r3, er3, hf⟩ := hf
    refine k_goI0 w [3, 4, 5] rfl (va_runV (As := [.int a1]) (rest := []) ⟨hx, hb, hml, hown, hg⟩ (tX1_has l D cI cZ b0 tt n_a n_c n_d n_th n_ki n_fe n_ca n_lo a1 er3 H.size) (cwV 1 hg (gwV w_258 w_166 w_167 w_3 w_168) rfl rfl rfl ⟨rfl, qdX1_has⟩ ⟨Nat.le_of_ble_eq_true rfl, Nat.le_of_ble_eq_true rfl⟩) (k_preV w [3, 4, 5] (by decide) rfl (q0 := 3) rfl rfl) rfl rfl hl.1 rfl (lv_room (Nat.le_of_ble_eq_true rfl)) dX4_spread_14 ⟨Nat.le_refl _, Nat.le_refl _⟩) (fun H locs w => ?_)
    refine lv_if_ne (tgt := 23) hx hb dX4_spread_17 (by decide) (fun c4 => ?_) (fun c4 => ?_)
    · replace hf := ite_f c4 hf
      refine lv_aload_n hx hb dX4_spread_23 rfl (lv_at hl 0 rfl) ?_
      refine va_get (D := D) (ci := 4) (v := .ref n_a) (C := RX4) (T := TX4) (N := 12) hx hb hg iX4 hown w.2.2.2.2.2.2.1 w.1 0 rfl rfl 1 (by decide) (hg _ w_86) (fun _ h9 => h9) rfl dX4_spread_24 ?_
      refine lv_iconst (v := 1) hx hb dX4_spread_27 (by decide) ?_
      refine lv_iload_n hx hb dX4_spread_28 rfl (lv_at hl 1 rfl) ?_
      refine lv_ishl hx hb dX4_spread_29 ?_
      replace hf := ob_at hf
      obtain ⟨r5, er5, hf⟩ := hf
      refine k_goI0 w [3, 4, 5] rfl (va_runV (As := [.int ((1 : Int32) <<< (a1 &&& 31))]) (rest := []) ⟨hx, hb, hml, hown, hg⟩ (tX1_goneWith l D cI cZ b0 tt n_a n_c n_d n_th n_ki n_fe n_ca n_lo ((1 : Int32) <<< (a1 &&& 31)) er5 H.size) (cwV 1 hg (gwV w_339 w_219 w_220 w_3 w_221) rfl rfl rfl ⟨rfl, qdX1_goneWith⟩ ⟨Nat.le_of_ble_eq_true rfl, Nat.le_of_ble_eq_true rfl⟩) (k_preV w [3, 4, 5] (by decide) rfl (q0 := 3) rfl rfl) rfl rfl hl.1 rfl (lv_room (Nat.le_of_ble_eq_true rfl)) dX4_spread_30 ⟨Nat.le_refl _, Nat.le_refl _⟩) (fun H locs w => ?_)
      exact k_iret (u := ()) hx hb hr hlk w rfl (k_ret1 hf) dX4_spread_33
    · replace hf := ite_t c4 hf
      refine lv_bipush (v := (-3)) hx hb dX4_spread_20 (by decide) ?_
      exact k_iret (u := ()) hx hb hr hlk w rfl (k_ret1 hf) dX4_spread_22
  · replace hf := ite_t c2 hf
    refine lv_iconst (v := (-1)) hx hb dX4_spread_7 (by decide) ?_
    exact k_iret (u := ()) hx hb hr hlk w rfl (k_ret1 hf) dX4_spread_8
-- X4_stands
def fX4_stands  (n_th : Int32) (n_ki : Int32) (n_lo : Nat → Int32) (a1 : Int32) : Option (Int32 × (Nat → Int32)) := ob (fX4_isLevel a1) (fun r1 => (if r1 = 0 then some ((-1), n_lo) else ob (fX1_forceStood n_th n_ki n_lo a1) (fun r3 => some (r3.1, r3.2))))
set_option maxRecDepth 100000 in
set_option maxHeartbeats 4000000 in
theorem tX4_stands (l : Launch) (D : va_G) (cI cZ : ClassId) (b0 : Nat) (tt : Nat → Nat)  (h_a x_a n_a r_a c_a s_a k_a x_l n_c n_d r_c r_d c_t c_k c_f s_t s_k s_f k_f k_s : Nat) (h_ac : Int32) (h_ks : Int32) (h_hc : Int32) (h_ok : Int32) (h_tk : Int32) (h_se : Int64) (x_ln : Int32) (x_le : Nat → Int32) (n_th : Int32) (n_ki : Int32) (n_fe : Int32) (n_ca : Nat → Int32) (n_lo : Nat → Int32) (r_th : Int32) (r_ki : Int32) (r_fe : Int32) (r_ca : Nat → Int32) (r_lo : Nat → Int32) (c_sz : Int32) (c_st : Nat → Int32) (c_sk : Nat → Int32) (c_sf : Nat → Int32) (s_sz : Int32) (s_st : Nat → Int32) (s_sk : Nat → Int32) (s_sf : Nat → Int32) (k_fh : Nat → Int32) (k_sh : Nat → Int32) (a1 : Int32) {res : Int32 × (Nat → Int32)} (hf : fX4_stands n_th n_ki n_lo a1 = some res) : CtI l yX4_stands (cwX4_stands :: GW) 4 90 D cI cZ b0 tt [.ref h_a, .int a1] (fun u : (Nat → Int32) => [(h_a, .inr (4, [.ref x_a, .ref n_a, .ref r_a, .ref c_a, .ref s_a, .ref k_a, .int h_ac, .int h_ks, .int h_hc, .int h_ok, .int h_tk, .long h_se])), (x_a, .inr (3, [.ref x_l, .int x_ln])), (x_l, .inl (cI, 56, .inl x_le)), (n_a, .inr (1, [.int n_th, .int n_ki, .int n_fe, .ref n_c, .ref n_d])), (n_c, .inl (cI, 4, .inl n_ca)), (n_d, .inl (cI, 16, .inl u)), (r_a, .inr (1, [.int r_th, .int r_ki, .int r_fe, .ref r_c, .ref r_d])), (r_c, .inl (cI, 4, .inl r_ca)), (r_d, .inl (cI, 16, .inl r_lo)), (c_a, .inr (2, [.int c_sz, .ref c_t, .ref c_k, .ref c_f])), (c_t, .inl (cI, 14, .inl c_st)), (c_k, .inl (cI, 14, .inl c_sk)), (c_f, .inl (cI, 14, .inl c_sf)), (s_a, .inr (2, [.int s_sz, .ref s_t, .ref s_k, .ref s_f])), (s_t, .inl (cI, 2, .inl s_st)), (s_k, .inl (cI, 2, .inl s_sk)), (s_f, .inl (cI, 2, .inl s_sf)), (k_a, .inr (0, [.ref k_f, .ref k_s])), (k_f, .inl (cI, 25, .inl k_fh)), (k_s, .inl (cI, 25, .inl k_sh))]) n_lo res := by
  intro sz
  refine k_begin (cc := cX4_stands) (maxL := 2) (ret := (some .int)) (by decide) rfl (Nat.le_of_ble_eq_true rfl) ?_
  intro p e s m below meth c ls C w hl
  generalize va_A _ sz = A at w ⊢
  have w : Wd D cI cZ b0 tt A s [(h_a, .inr (4, [.ref x_a, .ref n_a, .ref r_a, .ref c_a, .ref s_a, .ref k_a, .int h_ac, .int h_ks, .int h_hc, .int h_ok, .int h_tk, .long h_se])), (x_a, .inr (3, [.ref x_l, .int x_ln])), (x_l, .inl (cI, 56, .inl x_le)), (n_a, .inr (1, [.int n_th, .int n_ki, .int n_fe, .ref n_c, .ref n_d])), (n_c, .inl (cI, 4, .inl n_ca)), (n_d, .inl (cI, 16, .inl n_lo)), (r_a, .inr (1, [.int r_th, .int r_ki, .int r_fe, .ref r_c, .ref r_d])), (r_c, .inl (cI, 4, .inl r_ca)), (r_d, .inl (cI, 16, .inl r_lo)), (c_a, .inr (2, [.int c_sz, .ref c_t, .ref c_k, .ref c_f])), (c_t, .inl (cI, 14, .inl c_st)), (c_k, .inl (cI, 14, .inl c_sk)), (c_f, .inl (cI, 14, .inl c_sf)), (s_a, .inr (2, [.int s_sz, .ref s_t, .ref s_k, .ref s_f])), (s_t, .inl (cI, 2, .inl s_st)), (s_k, .inl (cI, 2, .inl s_sk)), (s_f, .inl (cI, 2, .inl s_sf)), (k_a, .inr (0, [.ref k_f, .ref k_s])), (k_f, .inl (cI, 25, .inl k_fh)), (k_s, .inl (cI, 25, .inl k_sh))] s.heap [] := w
  have hl : lv_has ls 2 [(0, .ref h_a), (1, .int a1)] := hl
  obtain ⟨H, eH⟩ : ∃ H, H = s.heap := ⟨_, rfl⟩
  rw [← eH] at w ⊢
  generalize ([] : List Loc) = locs at w ⊢
  generalize List.toArray _ = args at C ⊢
  obtain ⟨hx, hb, hr, hml, hown, hts, hlk⟩ := id C
  have hg : ∀ w ∈ GW, w.before args s = true := fun w h => hts w (List.mem_cons_of_mem _ h)
  unfold fX4_stands at hf
  refine lv_iload_n hx hb dX4_stands_0 rfl (lv_at hl 1 rfl) ?_
  replace hf := ob_at hf
  obtain ⟨r1, er1, hf⟩ := hf
  refine k_goI0 w [] rfl (va_runS (As := [.int a1]) (rest := []) ⟨hx, hb, hml, hown, hg⟩ (tX4_isLevel l D cI cZ b0 tt a1 er1 H.size) (va_cwS 1 hg (gwS w_305 w_306 w_1 w_307) rfl rfl rfl qdX4_isLevel ⟨Nat.le_of_ble_eq_true rfl, Nat.le_of_ble_eq_true rfl⟩) (k_preS w [] (by decide) rfl) rfl rfl hl.1 rfl (lv_room (Nat.le_of_ble_eq_true rfl)) dX4_stands_1 ⟨Nat.le_refl _, Nat.le_refl _⟩) (fun H locs w => ?_)
  refine lv_if_ne (tgt := 9) hx hb dX4_stands_4 (by decide) (fun c2 => ?_) (fun c2 => ?_)
  · replace hf := ite_f c2 hf
    refine lv_aload_n hx hb dX4_stands_9 rfl (lv_at hl 0 rfl) ?_
    refine va_get (D := D) (ci := 4) (v := .ref n_a) (C := RX4) (T := TX4) (N := 12) hx hb hg iX4 hown w.2.2.2.2.2.2.1 w.1 0 rfl rfl 1 (by decide) (hg _ w_86) (fun _ h9 => h9) rfl dX4_stands_10 ?_
    refine lv_iload_n hx hb dX4_stands_13 rfl (lv_at hl 1 rfl) ?_
    replace hf := ob_at hf
    obtain ⟨r3, er3, hf⟩ := hf
    refine k_goI (v0 := n_lo) (res := r3) w [3, 4, 5] rfl (fun _ => rfl) (va_runV (As := [.int a1]) (rest := []) ⟨hx, hb, hml, hown, hg⟩ (tX1_forceStood l D cI cZ b0 tt n_a n_c n_d n_th n_ki n_fe n_ca n_lo a1 er3 H.size) (cwV 1 hg (gwV w_344 w_345 w_346 w_3 w_347) rfl rfl rfl ⟨rfl, qdX1_forceStood⟩ ⟨Nat.le_of_ble_eq_true rfl, Nat.le_of_ble_eq_true rfl⟩) (k_preV w [3, 4, 5] (by decide) rfl (q0 := 3) rfl rfl) rfl rfl hl.1 rfl (lv_room (Nat.le_of_ble_eq_true rfl)) dX4_stands_14 ⟨Nat.le_refl _, Nat.le_refl _⟩) (fun H locs w => ?_)
    have w : Wd D cI cZ b0 tt A s [(h_a, .inr (4, [.ref x_a, .ref n_a, .ref r_a, .ref c_a, .ref s_a, .ref k_a, .int h_ac, .int h_ks, .int h_hc, .int h_ok, .int h_tk, .long h_se])), (x_a, .inr (3, [.ref x_l, .int x_ln])), (x_l, .inl (cI, 56, .inl x_le)), (n_a, .inr (1, [.int n_th, .int n_ki, .int n_fe, .ref n_c, .ref n_d])), (n_c, .inl (cI, 4, .inl n_ca)), (n_d, .inl (cI, 16, .inl r3.2)), (r_a, .inr (1, [.int r_th, .int r_ki, .int r_fe, .ref r_c, .ref r_d])), (r_c, .inl (cI, 4, .inl r_ca)), (r_d, .inl (cI, 16, .inl r_lo)), (c_a, .inr (2, [.int c_sz, .ref c_t, .ref c_k, .ref c_f])), (c_t, .inl (cI, 14, .inl c_st)), (c_k, .inl (cI, 14, .inl c_sk)), (c_f, .inl (cI, 14, .inl c_sf)), (s_a, .inr (2, [.int s_sz, .ref s_t, .ref s_k, .ref s_f])), (s_t, .inl (cI, 2, .inl s_st)), (s_k, .inl (cI, 2, .inl s_sk)), (s_f, .inl (cI, 2, .inl s_sf)), (k_a, .inr (0, [.ref k_f, .ref k_s])), (k_f, .inl (cI, 25, .inl k_fh)), (k_s, .inl (cI, 25, .inl k_sh))] H locs := w
    exact k_iret (u := r3.2) hx hb hr hlk w rfl hf dX4_stands_17
  · replace hf := ite_t c2 hf
    refine lv_iconst (v := (-1)) hx hb dX4_stands_7 (by decide) ?_
    exact k_iret (u := n_lo) hx hb hr hlk w rfl hf dX4_stands_8
-- X4_wants
def fX4_wants  (n_th : Int32) (a1 : Int32) (a2 : Int32) : Option (Int32) := ob (fX4_isPiece a1) (fun r1 => (if r1 = 0 then some (-1) else (if a2 < 0 then some (-2) else (if a2 ≤ 1 then ob (fX1_missingFor n_th a1) (fun r5 => ob (fJ6_bitCount_0f7a4 r5) (fun r6 => (if a2 = 0 then some r6 else ob (fJ6_bitCount_0f7a4 (r5 &&& (45967 : Int32))) (fun r8 => some (r6 + r8))))) else some (-2)))))
set_option maxRecDepth 100000 in
set_option maxHeartbeats 4000000 in
theorem tX4_wants (l : Launch) (D : va_G) (cI cZ : ClassId) (b0 : Nat) (tt : Nat → Nat)  (h_a x_a n_a r_a c_a s_a k_a x_l n_c n_d r_c r_d c_t c_k c_f s_t s_k s_f k_f k_s : Nat) (h_ac : Int32) (h_ks : Int32) (h_hc : Int32) (h_ok : Int32) (h_tk : Int32) (h_se : Int64) (x_ln : Int32) (x_le : Nat → Int32) (n_th : Int32) (n_ki : Int32) (n_fe : Int32) (n_ca : Nat → Int32) (n_lo : Nat → Int32) (r_th : Int32) (r_ki : Int32) (r_fe : Int32) (r_ca : Nat → Int32) (r_lo : Nat → Int32) (c_sz : Int32) (c_st : Nat → Int32) (c_sk : Nat → Int32) (c_sf : Nat → Int32) (s_sz : Int32) (s_st : Nat → Int32) (s_sk : Nat → Int32) (s_sf : Nat → Int32) (k_fh : Nat → Int32) (k_sh : Nat → Int32) (a1 : Int32) (a2 : Int32) {res : Int32} (hf : fX4_wants n_th a1 a2 = some res) : CtI l yX4_wants (cwX4_wants :: GW) 1 23 D cI cZ b0 tt [.ref h_a, .int a1, .int a2] (fun _ : Unit => [(h_a, .inr (4, [.ref x_a, .ref n_a, .ref r_a, .ref c_a, .ref s_a, .ref k_a, .int h_ac, .int h_ks, .int h_hc, .int h_ok, .int h_tk, .long h_se])), (x_a, .inr (3, [.ref x_l, .int x_ln])), (x_l, .inl (cI, 56, .inl x_le)), (n_a, .inr (1, [.int n_th, .int n_ki, .int n_fe, .ref n_c, .ref n_d])), (n_c, .inl (cI, 4, .inl n_ca)), (n_d, .inl (cI, 16, .inl n_lo)), (r_a, .inr (1, [.int r_th, .int r_ki, .int r_fe, .ref r_c, .ref r_d])), (r_c, .inl (cI, 4, .inl r_ca)), (r_d, .inl (cI, 16, .inl r_lo)), (c_a, .inr (2, [.int c_sz, .ref c_t, .ref c_k, .ref c_f])), (c_t, .inl (cI, 14, .inl c_st)), (c_k, .inl (cI, 14, .inl c_sk)), (c_f, .inl (cI, 14, .inl c_sf)), (s_a, .inr (2, [.int s_sz, .ref s_t, .ref s_k, .ref s_f])), (s_t, .inl (cI, 2, .inl s_st)), (s_k, .inl (cI, 2, .inl s_sk)), (s_f, .inl (cI, 2, .inl s_sf)), (k_a, .inr (0, [.ref k_f, .ref k_s])), (k_f, .inl (cI, 25, .inl k_fh)), (k_s, .inl (cI, 25, .inl k_sh))]) () (res, ()) := by
  intro sz
  refine k_begin (cc := cX4_wants) (maxL := 5) (ret := (some .int)) (by decide) rfl (Nat.le_of_ble_eq_true rfl) ?_
  intro p e s m below meth c ls C w hl
  generalize va_A _ sz = A at w ⊢
  have w : Wd D cI cZ b0 tt A s [(h_a, .inr (4, [.ref x_a, .ref n_a, .ref r_a, .ref c_a, .ref s_a, .ref k_a, .int h_ac, .int h_ks, .int h_hc, .int h_ok, .int h_tk, .long h_se])), (x_a, .inr (3, [.ref x_l, .int x_ln])), (x_l, .inl (cI, 56, .inl x_le)), (n_a, .inr (1, [.int n_th, .int n_ki, .int n_fe, .ref n_c, .ref n_d])), (n_c, .inl (cI, 4, .inl n_ca)), (n_d, .inl (cI, 16, .inl n_lo)), (r_a, .inr (1, [.int r_th, .int r_ki, .int r_fe, .ref r_c, .ref r_d])), (r_c, .inl (cI, 4, .inl r_ca)), (r_d, .inl (cI, 16, .inl r_lo)), (c_a, .inr (2, [.int c_sz, .ref c_t, .ref c_k, .ref c_f])), (c_t, .inl (cI, 14, .inl c_st)), (c_k, .inl (cI, 14, .inl c_sk)), (c_f, .inl (cI, 14, .inl c_sf)), (s_a, .inr (2, [.int s_sz, .ref s_t, .ref s_k, .ref s_f])), (s_t, .inl (cI, 2, .inl s_st)), (s_k, .inl (cI, 2, .inl s_sk)), (s_f, .inl (cI, 2, .inl s_sf)), (k_a, .inr (0, [.ref k_f, .ref k_s])), (k_f, .inl (cI, 25, .inl k_fh)), (k_s, .inl (cI, 25, .inl k_sh))] s.heap [] := w
  have hl : lv_has ls 5 [(0, .ref h_a), (1, .int a1), (2, .int a2)] := hl
  obtain ⟨H, eH⟩ : ∃ H, H = s.heap := ⟨_, rfl⟩
  rw [← eH] at w ⊢
  generalize ([] : List Loc) = locs at w ⊢
  generalize List.toArray _ = args at C ⊢
  obtain ⟨hx, hb, hr, hml, hown, hts, hlk⟩ := id C
  have hg : ∀ w ∈ GW, w.before args s = true := fun w h => hts w (List.mem_cons_of_mem _ h)
  unfold fX4_wants at hf
  refine lv_iload_n hx hb dX4_wants_0 rfl (lv_at hl 1 rfl) ?_
  replace hf := ob_at hf
  obtain ⟨r1, er1, hf⟩ := hf
  refine k_goI0 w [] rfl (va_runS (As := [.int a1]) (rest := []) ⟨hx, hb, hml, hown, hg⟩ (tX4_isPiece l D cI cZ b0 tt a1 er1 H.size) (va_cwS 1 hg (gwS w_257 w_184 w_1 w_185) rfl rfl rfl qdX4_isPiece ⟨Nat.le_of_ble_eq_true rfl, Nat.le_of_ble_eq_true rfl⟩) (k_preS w [] (by decide) rfl) rfl rfl hl.1 rfl (lv_room (Nat.le_of_ble_eq_true rfl)) dX4_wants_1 ⟨Nat.le_refl _, Nat.le_refl _⟩) (fun H locs w => ?_)
  refine lv_if_ne (tgt := 9) hx hb dX4_wants_4 (by decide) (fun c2 => ?_) (fun c2 => ?_)
  · replace hf := ite_f c2 hf
    refine lv_iload_n hx hb dX4_wants_9 rfl (lv_at hl 2 rfl) ?_
    refine lv_if_lt (tgt := 18) hx hb dX4_wants_10 (by decide) (fun c3 => ?_) (fun c3 => ?_)
    · replace hf := ite_t c3 hf
      refine lv_bipush (v := (-2)) hx hb dX4_wants_18 (by decide) ?_
      exact k_iret (u := ()) hx hb hr hlk w rfl (k_ret1 hf) dX4_wants_20
    · replace hf := ite_f c3 hf
      refine lv_iload_n hx hb dX4_wants_13 rfl (lv_at hl 2 rfl) ?_
      refine lv_iconst (v := 1) hx hb dX4_wants_14 (by decide) ?_
      refine lv_icmp_le (tgt := 21) hx hb dX4_wants_15 (by decide) (fun c4 => ?_) (fun c4 => ?_)
      · replace hf := ite_t c4 hf
        refine lv_aload_n hx hb dX4_wants_21 rfl (lv_at hl 0 rfl) ?_
        refine va_get (D := D) (ci := 4) (v := .ref n_a) (C := RX4) (T := TX4) (N := 12) hx hb hg iX4 hown w.2.2.2.2.2.2.1 w.1 0 rfl rfl 1 (by decide) (hg _ w_86) (fun _ h9 => h9) rfl dX4_wants_22 ?_
        refine lv_iload_n hx hb dX4_wants_25 rfl (lv_at hl 1 rfl) ?_
        replace hf := ob_at hf
        obtain ⟨r5, er5, hf⟩ := hf
        refine k_goI0 w [3, 4, 5] rfl (va_runV (As := [.int a1]) (rest := []) ⟨hx, hb, hml, hown, hg⟩ (tX1_missingFor l D cI cZ b0 tt n_a n_c n_d n_th n_ki n_fe n_ca n_lo a1 er5 H.size) (cwV 1 hg (gwV w_355 w_356 w_357 w_3 w_358) rfl rfl rfl ⟨rfl, qdX1_missingFor⟩ ⟨Nat.le_of_ble_eq_true rfl, Nat.le_of_ble_eq_true rfl⟩) (k_preV w [3, 4, 5] (by decide) rfl (q0 := 3) rfl rfl) rfl rfl hl.1 rfl (lv_room (Nat.le_of_ble_eq_true rfl)) dX4_wants_26 ⟨Nat.le_refl _, Nat.le_refl _⟩) (fun H locs w => ?_)
        refine lv_istore_n (lv' := [(3, .int r5), (0, .ref h_a), (1, .int a1), (2, .int a2)]) hx hb dX4_wants_29 rfl hl (by decide) rfl (fun ls hl => ?_)
        refine lv_iload_n hx hb dX4_wants_30 rfl (lv_at hl 0 rfl) ?_
        replace hf := ob_at hf
        obtain ⟨r6, er6, hf⟩ := hf
        refine k_goI0 w [] rfl (va_runS (As := [.int r5]) (rest := []) ⟨hx, hb, hml, hown, hg⟩ (tJ6_bitCount_0f7a4 l D cI cZ b0 tt r5 er6 H.size) (va_cwS 1 hg (gwS w_359 w_223 w_8 w_224) rfl rfl rfl qdJ6_bitCount_0f7a4 ⟨Nat.le_of_ble_eq_true rfl, Nat.le_of_ble_eq_true rfl⟩) (k_preS w [] (by decide) rfl) rfl rfl hl.1 rfl (lv_room (Nat.le_of_ble_eq_true rfl)) dX4_wants_31 ⟨Nat.le_refl _, Nat.le_refl _⟩) (fun H locs w => ?_)
        refine lv_istore (lv' := [(4, .int r6), (3, .int r5), (0, .ref h_a), (1, .int a1), (2, .int a2)]) hx hb dX4_wants_34 hl (by decide) rfl (fun ls hl => ?_)
        refine lv_iload_n hx hb dX4_wants_36 rfl (lv_at hl 4 rfl) ?_
        refine lv_if_ne (tgt := 45) hx hb dX4_wants_37 (by decide) (fun c7 => ?_) (fun c7 => ?_)
        · replace hf := ite_f c7 hf
          refine lv_iload hx hb dX4_wants_45 (lv_at hl 0 rfl) ?_
          refine lv_iload_n hx hb dX4_wants_47 rfl (lv_at hl 1 rfl) ?_
          refine lv_ldc hx hb hown (hg _ w_175) dX4_wants_48 ?_
          refine lv_iand hx hb dX4_wants_50 ?_
          replace hf := ob_at hf
          obtain ⟨r8, er8, hf⟩ := hf
          refine k_goI0 w [] rfl (va_runS (As := [.int (r5 &&& (45967 : Int32))]) (rest := [.int r6]) ⟨hx, hb, hml, hown, hg⟩ (tJ6_bitCount_0f7a4 l D cI cZ b0 tt (r5 &&& (45967 : Int32)) er8 H.size) (va_cwS 1 hg (gwS w_359 w_223 w_8 w_224) rfl rfl rfl qdJ6_bitCount_0f7a4 ⟨Nat.le_of_ble_eq_true rfl, Nat.le_of_ble_eq_true rfl⟩) (k_preS w [] (by decide) rfl) rfl rfl hl.1 rfl (lv_room (Nat.le_of_ble_eq_true rfl)) dX4_wants_51 ⟨Nat.le_refl _, Nat.le_refl _⟩) (fun H locs w => ?_)
          refine lv_iadd hx hb dX4_wants_54 ?_
          exact k_iret (u := ()) hx hb hr hlk w rfl (k_ret1 hf) dX4_wants_55
        · replace hf := ite_t c7 hf
          refine lv_iload hx hb dX4_wants_40 (lv_at hl 0 rfl) ?_
          refine lv_goto (tgt := 55) hx hb dX4_wants_42 (by decide) ?_
          exact k_iret (u := ()) hx hb hr hlk w rfl (k_ret1 hf) dX4_wants_55
      · replace hf := ite_f c4 hf
        refine lv_bipush (v := (-2)) hx hb dX4_wants_18 (by decide) ?_
        exact k_iret (u := ()) hx hb hr hlk w rfl (k_ret1 hf) dX4_wants_20
  · replace hf := ite_t c2 hf
    refine lv_iconst (v := (-1)) hx hb dX4_wants_7 (by decide) ?_
    exact k_iret (u := ()) hx hb hr hlk w rfl (k_ret1 hf) dX4_wants_8
-- X4_fit
def fX4_fit_L25   (v1 : Int32) (n_th : Int32) (n_ki : Int32) (n_fe : Int32) (n_ca : Nat → Int32) : Nat → Int32 → Int32 → Int32 → Int32 → (Nat → Int32) → (Nat → Int32) → Option (Int32 × Int32 × Int32 × Int32 × (Nat → Int32) × (Nat → Int32))
  | 0, _, _, _, _, _, _ => none
  | n + 1, v2, r_th, r_ki, r_fe, r_ca, r_lo => (if 4 ≤ v2 then some ((-9), (r_th, r_ki, r_fe, r_ca, r_lo)) else ob (fX1_copyFrom r_th r_ki r_fe r_ca n_th n_ki n_fe n_ca) (fun r2 => ob (fX1_canLay r2.1 r2.2.1 r2.2.2.2 v1 v2) (fun r3 => (if r3 = 0 then nm (v2 + 1) (fun z5 => fX4_fit_L25 v1 n_th n_ki n_fe n_ca n z5 r2.1 r2.2.1 r2.2.2.1 r2.2.2.2 r_lo) else ob (fX1_lay r2.1 r2.2.1 r2.2.2.1 r_lo v1 v2) (fun r6 => (if r6.1 = 0 then some (v2, (r6.2.1, r6.2.2.1, r6.2.2.2.1, r2.2.2.2, r6.2.2.2.2)) else nm (v2 + 1) (fun z8 => fX4_fit_L25 v1 n_th n_ki n_fe n_ca n z8 r6.2.1 r6.2.2.1 r6.2.2.2.1 r2.2.2.2 r6.2.2.2.2)))))))
set_option maxRecDepth 100000 in
set_option maxHeartbeats 4000000 in
theorem tX4_fit_L25 {p : Program} {l : Launch} {e : Env} {s : State} {m : MethodId} {args : Array Value} {below : List Frame} {meth : Method} {c : Code} {D : va_G} {cI cZ : ClassId} {b0 : Nat} {tt : Nat → Nat} {A : Nat → Prop}  {h_a x_a n_a r_a c_a s_a k_a x_l n_c n_d r_c r_d c_t c_k c_f s_t s_k s_f k_f k_s : Nat}  {v1 : Int32} {n_th : Int32} {n_ki : Int32} {n_fe : Int32} {n_ca : Nat → Int32} {h_ac : Int32} {h_ks : Int32} {h_hc : Int32} {h_ok : Int32} {h_tk : Int32} {h_se : Int64} {x_ln : Int32} {x_le : Nat → Int32} {n_lo : Nat → Int32} {c_sz : Int32} {c_st : Nat → Int32} {c_sk : Nat → Int32} {c_sf : Nat → Int32} {s_sz : Int32} {s_st : Nat → Int32} {s_sk : Nat → Int32} {s_sf : Nat → Int32} {k_fh : Nat → Int32} {k_sh : Nat → Int32} {res : Int32 × Int32 × Int32 × Int32 × (Nat → Int32) × (Nat → Int32)} (C : Cx p s m args meth c cX4_fit 3 (some .int) (cwX4_fit :: GW) RX4) : ∀ (n : Nat) (v2 : Int32) (r_th : Int32) (r_ki : Int32) (r_fe : Int32) (r_ca : Nat → Int32) (r_lo : Nat → Int32) (H : Heap) (locs : List Loc) (ls : Array Slot), fX4_fit_L25 v1 n_th n_ki n_fe n_ca n v2 r_th r_ki r_fe r_ca r_lo = some res → Wd D cI cZ b0 tt A s [(h_a, .inr (4, [.ref x_a, .ref n_a, .ref r_a, .ref c_a, .ref s_a, .ref k_a, .int h_ac, .int h_ks, .int h_hc, .int h_ok, .int h_tk, .long h_se])), (x_a, .inr (3, [.ref x_l, .int x_ln])), (x_l, .inl (cI, 56, .inl x_le)), (n_a, .inr (1, [.int n_th, .int n_ki, .int n_fe, .ref n_c, .ref n_d])), (n_c, .inl (cI, 4, .inl n_ca)), (n_d, .inl (cI, 16, .inl n_lo)), (r_a, .inr (1, [.int r_th, .int r_ki, .int r_fe, .ref r_c, .ref r_d])), (r_c, .inl (cI, 4, .inl r_ca)), (r_d, .inl (cI, 16, .inl r_lo)), (c_a, .inr (2, [.int c_sz, .ref c_t, .ref c_k, .ref c_f])), (c_t, .inl (cI, 14, .inl c_st)), (c_k, .inl (cI, 14, .inl c_sk)), (c_f, .inl (cI, 14, .inl c_sf)), (s_a, .inr (2, [.int s_sz, .ref s_t, .ref s_k, .ref s_f])), (s_t, .inl (cI, 2, .inl s_st)), (s_k, .inl (cI, 2, .inl s_sk)), (s_f, .inl (cI, 2, .inl s_sf)), (k_a, .inr (0, [.ref k_f, .ref k_s])), (k_f, .inl (cI, 25, .inl k_fh)), (k_s, .inl (cI, 25, .inl k_sh))] H locs → lv_has ls 3 [(0, .ref h_a), (1, .int v1), (2, .int v2)] → W p l e (rmo 5 113) s m args below meth c H locs 0 0 (MQ below (QI D (fun u : Int32 × Int32 × Int32 × (Nat → Int32) × (Nat → Int32) => [(h_a, .inr (4, [.ref x_a, .ref n_a, .ref r_a, .ref c_a, .ref s_a, .ref k_a, .int h_ac, .int h_ks, .int h_hc, .int h_ok, .int h_tk, .long h_se])), (x_a, .inr (3, [.ref x_l, .int x_ln])), (x_l, .inl (cI, 56, .inl x_le)), (n_a, .inr (1, [.int n_th, .int n_ki, .int n_fe, .ref n_c, .ref n_d])), (n_c, .inl (cI, 4, .inl n_ca)), (n_d, .inl (cI, 16, .inl n_lo)), (r_a, .inr (1, [.int u.1, .int u.2.1, .int u.2.2.1, .ref r_c, .ref r_d])), (r_c, .inl (cI, 4, .inl u.2.2.2.1)), (r_d, .inl (cI, 16, .inl u.2.2.2.2)), (c_a, .inr (2, [.int c_sz, .ref c_t, .ref c_k, .ref c_f])), (c_t, .inl (cI, 14, .inl c_st)), (c_k, .inl (cI, 14, .inl c_sk)), (c_f, .inl (cI, 14, .inl c_sf)), (s_a, .inr (2, [.int s_sz, .ref s_t, .ref s_k, .ref s_f])), (s_t, .inl (cI, 2, .inl s_st)), (s_k, .inl (cI, 2, .inl s_sk)), (s_f, .inl (cI, 2, .inl s_sf)), (k_a, .inr (0, [.ref k_f, .ref k_s])), (k_f, .inl (cI, 25, .inl k_fh)), (k_s, .inl (cI, 25, .inl k_sh))]) A res) args s 0 0 A) (F0 m 25 ls []) := by
  obtain ⟨hx, hb, hr, hml, hown, hts, hlk⟩ := id C
  have hg : ∀ w ∈ GW, w.before args s = true := fun w h => hts w (List.mem_cons_of_mem _ h)
  intro n
  induction n with
  | zero =>
    intro _ _ _ _ _ _ H locs ls hf
    rw [fX4_fit_L25] at hf
    cases hf
  | succ n ih =>
    intro v2 r_th r_ki r_fe r_ca r_lo H locs ls hf w hl
    rw [fX4_fit_L25] at hf
    refine lv_iload_n hx hb dX4_fit_25 rfl (lv_at hl 2 rfl) ?_
    refine lv_iconst (v := 4) hx hb dX4_fit_26 (by decide) ?_
    refine lv_icmp_ge (tgt := 73) hx hb dX4_fit_27 (by decide) (fun c1 => ?_) (fun c1 => ?_)
    · replace hf := ite_t c1 hf
      refine lv_bipush (v := (-9)) hx hb dX4_fit_73 (by decide) ?_
      exact k_iret (u := (r_th, r_ki, r_fe, r_ca, r_lo)) hx hb hr hlk w rfl hf dX4_fit_75
    · replace hf := ite_f c1 hf
      refine lv_aload_n hx hb dX4_fit_30 rfl (lv_at hl 0 rfl) ?_
      refine va_get (D := D) (ci := 4) (v := .ref r_a) (C := RX4) (T := TX4) (N := 12) hx hb hg iX4 hown w.2.2.2.2.2.2.1 w.1 0 rfl rfl 2 (by decide) (hg _ w_87) (fun _ h9 => h9) rfl dX4_fit_31 ?_
      refine lv_aload_n hx hb dX4_fit_34 rfl (lv_at hl 0 rfl) ?_
      refine va_get (D := D) (ci := 4) (v := .ref n_a) (C := RX4) (T := TX4) (N := 12) hx hb hg iX4 hown w.2.2.2.2.2.2.1 w.1 0 rfl rfl 1 (by decide) (hg _ w_86) (fun _ h9 => h9) rfl dX4_fit_35 ?_
      replace hf := ob_at hf
      obtain ⟨r2, er2, hf⟩ := hf
      refine k_goV (v0 := (r_th, r_ki, r_fe, r_ca)) (res := r2) w [6, 7, 8, 3, 4, 5] rfl (fun _ => rfl) (va_runV (As := [.ref n_a]) (rest := []) ⟨hx, hb, hml, hown, hg⟩ (tX1_copyFrom l D cI cZ b0 tt r_a r_c r_d n_a n_c n_d r_th r_ki r_fe r_ca r_lo n_th n_ki n_fe n_ca n_lo er2 H.size) (cwV 1 hg (gwV w_228 w_229 w_230 w_3 w_231) rfl rfl rfl ⟨rfl, qdX1_copyFrom⟩ ⟨Nat.le_of_ble_eq_true rfl, Nat.le_of_ble_eq_true rfl⟩) (k_preV w [6, 7, 8, 3, 4, 5] (by decide) rfl (q0 := 6) rfl rfl) rfl rfl hl.1 rfl (lv_room (Nat.le_of_ble_eq_true rfl)) dX4_fit_38 ⟨Nat.le_refl _, Nat.le_refl _⟩) (fun H locs w => ?_)
      have w : Wd D cI cZ b0 tt A s [(h_a, .inr (4, [.ref x_a, .ref n_a, .ref r_a, .ref c_a, .ref s_a, .ref k_a, .int h_ac, .int h_ks, .int h_hc, .int h_ok, .int h_tk, .long h_se])), (x_a, .inr (3, [.ref x_l, .int x_ln])), (x_l, .inl (cI, 56, .inl x_le)), (n_a, .inr (1, [.int n_th, .int n_ki, .int n_fe, .ref n_c, .ref n_d])), (n_c, .inl (cI, 4, .inl n_ca)), (n_d, .inl (cI, 16, .inl n_lo)), (r_a, .inr (1, [.int r2.1, .int r2.2.1, .int r2.2.2.1, .ref r_c, .ref r_d])), (r_c, .inl (cI, 4, .inl r2.2.2.2)), (r_d, .inl (cI, 16, .inl r_lo)), (c_a, .inr (2, [.int c_sz, .ref c_t, .ref c_k, .ref c_f])), (c_t, .inl (cI, 14, .inl c_st)), (c_k, .inl (cI, 14, .inl c_sk)), (c_f, .inl (cI, 14, .inl c_sf)), (s_a, .inr (2, [.int s_sz, .ref s_t, .ref s_k, .ref s_f])), (s_t, .inl (cI, 2, .inl s_st)), (s_k, .inl (cI, 2, .inl s_sk)), (s_f, .inl (cI, 2, .inl s_sf)), (k_a, .inr (0, [.ref k_f, .ref k_s])), (k_f, .inl (cI, 25, .inl k_fh)), (k_s, .inl (cI, 25, .inl k_sh))] H locs := w
      refine lv_aload_n hx hb dX4_fit_41 rfl (lv_at hl 0 rfl) ?_
      refine va_get (D := D) (ci := 4) (v := .ref r_a) (C := RX4) (T := TX4) (N := 12) hx hb hg iX4 hown w.2.2.2.2.2.2.1 w.1 0 rfl rfl 2 (by decide) (hg _ w_87) (fun _ h9 => h9) rfl dX4_fit_42 ?_
      refine lv_iload_n hx hb dX4_fit_45 rfl (lv_at hl 1 rfl) ?_
      refine lv_iload_n hx hb dX4_fit_46 rfl (lv_at hl 2 rfl) ?_
      replace hf := ob_at hf
      obtain ⟨r3, er3, hf⟩ := hf
      refine k_goI0 w [6, 7, 8] rfl (va_runV (As := [.int v1, .int v2]) (rest := []) ⟨hx, hb, hml, hown, hg⟩ (tX1_canLay l D cI cZ b0 tt r_a r_c r_d r2.1 r2.2.1 r2.2.2.1 r2.2.2.2 r_lo v1 v2 er3 H.size) (cwV 2 hg (gwV w_274 w_190 w_191 w_3 w_192) rfl rfl rfl ⟨rfl, qdX1_canLay⟩ ⟨Nat.le_of_ble_eq_true rfl, Nat.le_of_ble_eq_true rfl⟩) (k_preV w [6, 7, 8] (by decide) rfl (q0 := 6) rfl rfl) rfl rfl hl.1 rfl (lv_room (Nat.le_of_ble_eq_true rfl)) dX4_fit_47 ⟨Nat.le_refl _, Nat.le_refl _⟩) (fun H locs w => ?_)
      refine lv_if_eq (tgt := 67) hx hb dX4_fit_50 (by decide) (fun c4 => ?_) (fun c4 => ?_)
      · replace hf := ite_t c4 hf
        obtain ⟨z5, ez5⟩ : ∃ y : Int32, y = (v2 + 1) := ⟨_, rfl⟩
        replace hf := nm_at ez5 hf
        refine lv_iinc (v := z5) (lv' := [(2, .int z5), (0, .ref h_a), (1, .int v1)]) hx hb dX4_fit_67 hl (k := 2) rfl (by rw [ez5]; rfl) (by decide) rfl (fun ls hl => ?_)
        refine lv_goto (tgt := 25) hx hb dX4_fit_70 (by decide) ?_
        exact ih z5 r2.1 r2.2.1 r2.2.2.1 r2.2.2.2 r_lo H locs ls hf w (lv_sub hl [1, 2, 0] rfl)
      · replace hf := ite_f c4 hf
        refine lv_aload_n hx hb dX4_fit_53 rfl (lv_at hl 0 rfl) ?_
        refine va_get (D := D) (ci := 4) (v := .ref r_a) (C := RX4) (T := TX4) (N := 12) hx hb hg iX4 hown w.2.2.2.2.2.2.1 w.1 0 rfl rfl 2 (by decide) (hg _ w_87) (fun _ h9 => h9) rfl dX4_fit_54 ?_
        refine lv_iload_n hx hb dX4_fit_57 rfl (lv_at hl 1 rfl) ?_
        refine lv_iload_n hx hb dX4_fit_58 rfl (lv_at hl 2 rfl) ?_
        replace hf := ob_at hf
        obtain ⟨r6, er6, hf⟩ := hf
        refine k_goI (v0 := (r2.1, r2.2.1, r2.2.2.1, r_lo)) (res := r6) w [6, 7, 8] rfl (fun _ => rfl) (va_runV (As := [.int v1, .int v2]) (rest := []) ⟨hx, hb, hml, hown, hg⟩ (tX1_lay l D cI cZ b0 tt r_a r_c r_d r2.1 r2.2.1 r2.2.2.1 r2.2.2.2 r_lo v1 v2 er6 H.size) (cwV 2 hg (gwV w_286 w_287 w_288 w_3 w_289) rfl rfl rfl ⟨rfl, qdX1_lay⟩ ⟨Nat.le_of_ble_eq_true rfl, Nat.le_of_ble_eq_true rfl⟩) (k_preV w [6, 7, 8] (by decide) rfl (q0 := 6) rfl rfl) rfl rfl hl.1 rfl (lv_room (Nat.le_of_ble_eq_true rfl)) dX4_fit_59 ⟨Nat.le_refl _, Nat.le_refl _⟩) (fun H locs w => ?_)
        have w : Wd D cI cZ b0 tt A s [(h_a, .inr (4, [.ref x_a, .ref n_a, .ref r_a, .ref c_a, .ref s_a, .ref k_a, .int h_ac, .int h_ks, .int h_hc, .int h_ok, .int h_tk, .long h_se])), (x_a, .inr (3, [.ref x_l, .int x_ln])), (x_l, .inl (cI, 56, .inl x_le)), (n_a, .inr (1, [.int n_th, .int n_ki, .int n_fe, .ref n_c, .ref n_d])), (n_c, .inl (cI, 4, .inl n_ca)), (n_d, .inl (cI, 16, .inl n_lo)), (r_a, .inr (1, [.int r6.2.1, .int r6.2.2.1, .int r6.2.2.2.1, .ref r_c, .ref r_d])), (r_c, .inl (cI, 4, .inl r2.2.2.2)), (r_d, .inl (cI, 16, .inl r6.2.2.2.2)), (c_a, .inr (2, [.int c_sz, .ref c_t, .ref c_k, .ref c_f])), (c_t, .inl (cI, 14, .inl c_st)), (c_k, .inl (cI, 14, .inl c_sk)), (c_f, .inl (cI, 14, .inl c_sf)), (s_a, .inr (2, [.int s_sz, .ref s_t, .ref s_k, .ref s_f])), (s_t, .inl (cI, 2, .inl s_st)), (s_k, .inl (cI, 2, .inl s_sk)), (s_f, .inl (cI, 2, .inl s_sf)), (k_a, .inr (0, [.ref k_f, .ref k_s])), (k_f, .inl (cI, 25, .inl k_fh)), (k_s, .inl (cI, 25, .inl k_sh))] H locs := w
        refine lv_if_ne (tgt := 67) hx hb dX4_fit_62 (by decide) (fun c7 => ?_) (fun c7 => ?_)
        · replace hf := ite_f c7 hf
          obtain ⟨z8, ez8⟩ : ∃ y : Int32, y = (v2 + 1) := ⟨_, rfl⟩
          replace hf := nm_at ez8 hf
          refine lv_iinc (v := z8) (lv' := [(2, .int z8), (0, .ref h_a), (1, .int v1)]) hx hb dX4_fit_67 hl (k := 2) rfl (by rw [ez8]; rfl) (by decide) rfl (fun ls hl => ?_)
          refine lv_goto (tgt := 25) hx hb dX4_fit_70 (by decide) ?_
          exact ih z8 r6.2.1 r6.2.2.1 r6.2.2.2.1 r2.2.2.2 r6.2.2.2.2 H locs ls hf w (lv_sub hl [1, 2, 0] rfl)
        · replace hf := ite_t c7 hf
          refine lv_iload_n hx hb dX4_fit_65 rfl (lv_at hl 2 rfl) ?_
          exact k_iret (u := (r6.2.1, r6.2.2.1, r6.2.2.2.1, r2.2.2.2, r6.2.2.2.2)) hx hb hr hlk w rfl hf dX4_fit_66
def fX4_fit  (n_th : Int32) (n_ki : Int32) (n_fe : Int32) (n_ca : Nat → Int32) (r_th : Int32) (r_ki : Int32) (r_fe : Int32) (r_ca : Nat → Int32) (r_lo : Nat → Int32) (a1 : Int32) : Option (Int32 × Int32 × Int32 × Int32 × (Nat → Int32) × (Nat → Int32)) := ob (fX4_isPiece a1) (fun r9 => (if r9 = 0 then some ((-1), (r_th, r_ki, r_fe, r_ca, r_lo)) else ob (fX1_has n_th a1) (fun r11 => (if r11 = 0 then fX4_fit_L25 a1 n_th n_ki n_fe n_ca FU 0 r_th r_ki r_fe r_ca r_lo else some ((-4), (r_th, r_ki, r_fe, r_ca, r_lo))))))
set_option maxRecDepth 100000 in
set_option maxHeartbeats 4000000 in
theorem tX4_fit (l : Launch) (D : va_G) (cI cZ : ClassId) (b0 : Nat) (tt : Nat → Nat)  (h_a x_a n_a r_a c_a s_a k_a x_l n_c n_d r_c r_d c_t c_k c_f s_t s_k s_f k_f k_s : Nat) (h_ac : Int32) (h_ks : Int32) (h_hc : Int32) (h_ok : Int32) (h_tk : Int32) (h_se : Int64) (x_ln : Int32) (x_le : Nat → Int32) (n_th : Int32) (n_ki : Int32) (n_fe : Int32) (n_ca : Nat → Int32) (n_lo : Nat → Int32) (r_th : Int32) (r_ki : Int32) (r_fe : Int32) (r_ca : Nat → Int32) (r_lo : Nat → Int32) (c_sz : Int32) (c_st : Nat → Int32) (c_sk : Nat → Int32) (c_sf : Nat → Int32) (s_sz : Int32) (s_st : Nat → Int32) (s_sk : Nat → Int32) (s_sf : Nat → Int32) (k_fh : Nat → Int32) (k_sh : Nat → Int32) (a1 : Int32) {res : Int32 × Int32 × Int32 × Int32 × (Nat → Int32) × (Nat → Int32)} (hf : fX4_fit n_th n_ki n_fe n_ca r_th r_ki r_fe r_ca r_lo a1 = some res) : CtI l yX4_fit (cwX4_fit :: GW) 5 113 D cI cZ b0 tt [.ref h_a, .int a1] (fun u : Int32 × Int32 × Int32 × (Nat → Int32) × (Nat → Int32) => [(h_a, .inr (4, [.ref x_a, .ref n_a, .ref r_a, .ref c_a, .ref s_a, .ref k_a, .int h_ac, .int h_ks, .int h_hc, .int h_ok, .int h_tk, .long h_se])), (x_a, .inr (3, [.ref x_l, .int x_ln])), (x_l, .inl (cI, 56, .inl x_le)), (n_a, .inr (1, [.int n_th, .int n_ki, .int n_fe, .ref n_c, .ref n_d])), (n_c, .inl (cI, 4, .inl n_ca)), (n_d, .inl (cI, 16, .inl n_lo)), (r_a, .inr (1, [.int u.1, .int u.2.1, .int u.2.2.1, .ref r_c, .ref r_d])), (r_c, .inl (cI, 4, .inl u.2.2.2.1)), (r_d, .inl (cI, 16, .inl u.2.2.2.2)), (c_a, .inr (2, [.int c_sz, .ref c_t, .ref c_k, .ref c_f])), (c_t, .inl (cI, 14, .inl c_st)), (c_k, .inl (cI, 14, .inl c_sk)), (c_f, .inl (cI, 14, .inl c_sf)), (s_a, .inr (2, [.int s_sz, .ref s_t, .ref s_k, .ref s_f])), (s_t, .inl (cI, 2, .inl s_st)), (s_k, .inl (cI, 2, .inl s_sk)), (s_f, .inl (cI, 2, .inl s_sf)), (k_a, .inr (0, [.ref k_f, .ref k_s])), (k_f, .inl (cI, 25, .inl k_fh)), (k_s, .inl (cI, 25, .inl k_sh))]) (r_th, r_ki, r_fe, r_ca, r_lo) res := by
  intro sz
  refine k_begin (cc := cX4_fit) (maxL := 3) (ret := (some .int)) (by decide) rfl (Nat.le_of_ble_eq_true rfl) ?_
  intro p e s m below meth c ls C w hl
  generalize va_A _ sz = A at w ⊢
  have w : Wd D cI cZ b0 tt A s [(h_a, .inr (4, [.ref x_a, .ref n_a, .ref r_a, .ref c_a, .ref s_a, .ref k_a, .int h_ac, .int h_ks, .int h_hc, .int h_ok, .int h_tk, .long h_se])), (x_a, .inr (3, [.ref x_l, .int x_ln])), (x_l, .inl (cI, 56, .inl x_le)), (n_a, .inr (1, [.int n_th, .int n_ki, .int n_fe, .ref n_c, .ref n_d])), (n_c, .inl (cI, 4, .inl n_ca)), (n_d, .inl (cI, 16, .inl n_lo)), (r_a, .inr (1, [.int r_th, .int r_ki, .int r_fe, .ref r_c, .ref r_d])), (r_c, .inl (cI, 4, .inl r_ca)), (r_d, .inl (cI, 16, .inl r_lo)), (c_a, .inr (2, [.int c_sz, .ref c_t, .ref c_k, .ref c_f])), (c_t, .inl (cI, 14, .inl c_st)), (c_k, .inl (cI, 14, .inl c_sk)), (c_f, .inl (cI, 14, .inl c_sf)), (s_a, .inr (2, [.int s_sz, .ref s_t, .ref s_k, .ref s_f])), (s_t, .inl (cI, 2, .inl s_st)), (s_k, .inl (cI, 2, .inl s_sk)), (s_f, .inl (cI, 2, .inl s_sf)), (k_a, .inr (0, [.ref k_f, .ref k_s])), (k_f, .inl (cI, 25, .inl k_fh)), (k_s, .inl (cI, 25, .inl k_sh))] s.heap [] := w
  have hl : lv_has ls 3 [(0, .ref h_a), (1, .int a1)] := hl
  obtain ⟨H, eH⟩ : ∃ H, H = s.heap := ⟨_, rfl⟩
  rw [← eH] at w ⊢
  generalize ([] : List Loc) = locs at w ⊢
  generalize List.toArray _ = args at C ⊢
  obtain ⟨hx, hb, hr, hml, hown, hts, hlk⟩ := id C
  have hg : ∀ w ∈ GW, w.before args s = true := fun w h => hts w (List.mem_cons_of_mem _ h)
  unfold fX4_fit at hf
  refine lv_iload_n hx hb dX4_fit_0 rfl (lv_at hl 1 rfl) ?_
  replace hf := ob_at hf
  obtain ⟨r9, er9, hf⟩ := hf
  refine k_goI0 w [] rfl (va_runS (As := [.int a1]) (rest := []) ⟨hx, hb, hml, hown, hg⟩ (tX4_isPiece l D cI cZ b0 tt a1 er9 H.size) (va_cwS 1 hg (gwS w_257 w_184 w_1 w_185) rfl rfl rfl qdX4_isPiece ⟨Nat.le_of_ble_eq_true rfl, Nat.le_of_ble_eq_true rfl⟩) (k_preS w [] (by decide) rfl) rfl rfl hl.1 rfl (lv_room (Nat.le_of_ble_eq_true rfl)) dX4_fit_1 ⟨Nat.le_refl _, Nat.le_refl _⟩) (fun H locs w => ?_)
  refine lv_if_ne (tgt := 9) hx hb dX4_fit_4 (by decide) (fun c10 => ?_) (fun c10 => ?_)
  · replace hf := ite_f c10 hf
    refine lv_aload_n hx hb dX4_fit_9 rfl (lv_at hl 0 rfl) ?_
    refine va_get (D := D) (ci := 4) (v := .ref n_a) (C := RX4) (T := TX4) (N := 12) hx hb hg iX4 hown w.2.2.2.2.2.2.1 w.1 0 rfl rfl 1 (by decide) (hg _ w_86) (fun _ h9 => h9) rfl dX4_fit_10 ?_
    refine lv_iload_n hx hb dX4_fit_13 rfl (lv_at hl 1 rfl) ?_
    replace hf := ob_at hf
    obtain ⟨r11, er11, hf⟩ := hf
    refine k_goI0 w [3, 4, 5] rfl (va_runV (As := [.int a1]) (rest := []) ⟨hx, hb, hml, hown, hg⟩ (tX1_has l D cI cZ b0 tt n_a n_c n_d n_th n_ki n_fe n_ca n_lo a1 er11 H.size) (cwV 1 hg (gwV w_258 w_166 w_167 w_3 w_168) rfl rfl rfl ⟨rfl, qdX1_has⟩ ⟨Nat.le_of_ble_eq_true rfl, Nat.le_of_ble_eq_true rfl⟩) (k_preV w [3, 4, 5] (by decide) rfl (q0 := 3) rfl rfl) rfl rfl hl.1 rfl (lv_room (Nat.le_of_ble_eq_true rfl)) dX4_fit_14 ⟨Nat.le_refl _, Nat.le_refl _⟩) (fun H locs w => ?_)
    refine lv_if_eq (tgt := 23) hx hb dX4_fit_17 (by decide) (fun c12 => ?_) (fun c12 => ?_)
    · replace hf := ite_t c12 hf
      refine lv_iconst (v := 0) hx hb dX4_fit_23 (by decide) ?_
      refine lv_istore_n (lv' := [(2, .int 0), (0, .ref h_a), (1, .int a1)]) hx hb dX4_fit_24 rfl hl (by decide) rfl (fun ls hl => ?_)
      exact tX4_fit_L25 (v1 := a1) (n_th := n_th) (n_ki := n_ki) (n_fe := n_fe) (n_ca := n_ca) (h_ac := h_ac) (h_ks := h_ks) (h_hc := h_hc) (h_ok := h_ok) (h_tk := h_tk) (h_se := h_se) (x_ln := x_ln) (x_le := x_le) (n_lo := n_lo) (c_sz := c_sz) (c_st := c_st) (c_sk := c_sk) (c_sf := c_sf) (s_sz := s_sz) (s_st := s_st) (s_sk := s_sk) (s_sf := s_sf) (k_fh := k_fh) (k_sh := k_sh) (C := C) FU 0 r_th r_ki r_fe r_ca r_lo H locs ls hf w (lv_sub hl [1, 2, 0] rfl)
    · replace hf := ite_f c12 hf
      refine lv_bipush (v := (-4)) hx hb dX4_fit_20 (by decide) ?_
      exact k_iret (u := (r_th, r_ki, r_fe, r_ca, r_lo)) hx hb hr hlk w rfl hf dX4_fit_22
  · replace hf := ite_t c10 hf
    refine lv_iconst (v := (-1)) hx hb dX4_fit_7 (by decide) ?_
    exact k_iret (u := (r_th, r_ki, r_fe, r_ca, r_lo)) hx hb hr hlk w rfl hf dX4_fit_8
