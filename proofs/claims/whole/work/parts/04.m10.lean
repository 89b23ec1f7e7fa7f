-- X4_evenings
def fX4_evenings_L29   (v1 : Int32) (n_th : Int32) (n_ki : Int32) (n_fe : Int32) (n_ca : Nat → Int32) (r_ca : Nat → Int32) : Nat → Int32 → Int32 → Int64 → Int32 → Int32 → Int32 → (Nat → Int32) → Option (Int32 × Int64 × Int32 × Int32 × Int32 × (Nat → Int32) × (Nat → Int32))
  | 0, _, _, _, _, _, _, _ => none
  | n + 1, v2, v3, h_se, r_th, r_ki, r_fe, r_lo => (if v1 ≤ v3 then some (v2, (h_se, r_th, r_ki, r_fe, r_ca, r_lo)) else nm ((h_se * (6364136223846793005 : Int64)) + (1442695040888963407 : Int64)) (fun z2 => ob (fX4_passEvening r_th r_ki r_fe r_ca r_lo (Int64.toInt32 ((Int64.toUInt64 z2 >>> ((Int32.toInt64 33).toUInt64 &&& Int64.toUInt64 63)).toInt64 - (Int64.toUInt64 z2 >>> ((Int32.toInt64 33).toUInt64 &&& Int64.toUInt64 63)).toInt64 / (80 : Int64) * (80 : Int64)))) (fun r3 => ob (fX1_size r3.1) (fun r4 => nm (v2 + r4) (fun z5 => nm (v3 + 1) (fun z6 => fX4_evenings_L29 v1 n_th n_ki n_fe n_ca r_ca n z5 z6 z2 r3.1 r3.2.1 r3.2.2.1 r3.2.2.2))))))
set_option maxRecDepth 100000 in
set_option maxHeartbeats 4000000 in
theorem tX4_evenings_L29 {p : Program} {l : Launch} {e : Env} {s : State} {m : MethodId} {args : Array Value} {below : List Frame} {meth : Method} {c : Code} {D : va_G} {cI cZ : ClassId} {b0 : Nat} {tt : Nat → Nat} {A : Nat → Prop}  {h_a x_a n_a r_a c_a s_a k_a x_l n_c n_d r_c r_d c_t c_k c_f s_t s_k s_f k_f k_s : Nat}  {v1 : Int32} {n_th : Int32} {n_ki : Int32} {n_fe : Int32} {n_ca : Nat → Int32} {r_ca : Nat → Int32} {h_ac : Int32} {h_ks : Int32} {h_hc : Int32} {h_ok : Int32} {h_tk : Int32} {x_ln : Int32} {x_le : Nat → Int32} {n_lo : Nat → Int32} {c_sz : Int32} {c_st : Nat → Int32} {c_sk : Nat → Int32} {c_sf : Nat → Int32} {s_sz : Int32} {s_st : Nat → Int32} {s_sk : Nat → Int32} {s_sf : Nat → Int32} {k_fh : Nat → Int32} {k_sh : Nat → Int32} {res : Int32 × Int64 × Int32 × Int32 × Int32 × (Nat → Int32) × (Nat → Int32)} (C : Cx p s m args meth c cX4_evenings 4 (some .int) (cwX4_evenings :: GW) RX4) : ∀ (n : Nat) (v2 : Int32) (v3 : Int32) (h_se : Int64) (r_th : Int32) (r_ki : Int32) (r_fe : Int32) (r_lo : Nat → Int32) (H : Heap) (locs : List Loc) (ls : Array Slot), fX4_evenings_L29 v1 n_th n_ki n_fe n_ca r_ca n v2 v3 h_se r_th r_ki r_fe r_lo = some res → Wd D cI cZ b0 tt A s [(h_a, .inr (4, [.ref x_a, .ref n_a, .ref r_a, .ref c_a, .ref s_a, .ref k_a, .int h_ac, .int h_ks, .int h_hc, .int h_ok, .int h_tk, .long h_se])), (x_a, .inr (3, [.ref x_l, .int x_ln])), (x_l, .inl (cI, 56, .inl x_le)), (n_a, .inr (1, [.int n_th, .int n_ki, .int n_fe, .ref n_c, .ref n_d])), (n_c, .inl (cI, 4, .inl n_ca)), (n_d, .inl (cI, 16, .inl n_lo)), (r_a, .inr (1, [.int r_th, .int r_ki, .int r_fe, .ref r_c, .ref r_d])), (r_c, .inl (cI, 4, .inl r_ca)), (r_d, .inl (cI, 16, .inl r_lo)), (c_a, .inr (2, [.int c_sz, .ref c_t, .ref c_k, .ref c_f])), (c_t, .inl (cI, 14, .inl c_st)), (c_k, .inl (cI, 14, .inl c_sk)), (c_f, .inl (cI, 14, .inl c_sf)), (s_a, .inr (2, [.int s_sz, .ref s_t, .ref s_k, .ref s_f])), (s_t, .inl (cI, 2, .inl s_st)), (s_k, .inl (cI, 2, .inl s_sk)), (s_f, .inl (cI, 2, .inl s_sf)), (k_a, .inr (0, [.ref k_f, .ref k_s])), (k_f, .inl (cI, 25, .inl k_fh)), (k_s, .inl (cI, 25, .inl k_sh))] H locs → lv_has ls 4 [(0, .ref h_a), (1, .int v1), (2, .int v2), (3, .int v3)] → W p l e (rmo 6 134) s m args below meth c H locs 0 0 (MQ below (QI D (fun u : Int64 × Int32 × Int32 × Int32 × (Nat → Int32) × (Nat → Int32) => [(h_a, .inr (4, [.ref x_a, .ref n_a, .ref r_a, .ref c_a, .ref s_a, .ref k_a, .int h_ac, .int h_ks, .int h_hc, .int h_ok, .int h_tk, .long u.1])), (x_a, .inr (3, [.ref x_l, .int x_ln])), (x_l, .inl (cI, 56, .inl x_le)), (n_a, .inr (1, [.int n_th, .int n_ki, .int n_fe, .ref n_c, .ref n_d])), (n_c, .inl (cI, 4, .inl n_ca)), (n_d, .inl (cI, 16, .inl n_lo)), (r_a, .inr (1, [.int u.2.1, .int u.2.2.1, .int u.2.2.2.1, .ref r_c, .ref r_d])), (r_c, .inl (cI, 4, .inl u.2.2.2.2.1)), (r_d, .inl (cI, 16, .inl u.2.2.2.2.2)), (c_a, .inr (2, [.int c_sz, .ref c_t, .ref c_k, .ref c_f])), (c_t, .inl (cI, 14, .inl c_st)), (c_k, .inl (cI, 14, .inl c_sk)), (c_f, .inl (cI, 14, .inl c_sf)), (s_a, .inr (2, [.int s_sz, .ref s_t, .ref s_k, .ref s_f])), (s_t, .inl (cI, 2, .inl s_st)), (s_k, .inl (cI, 2, .inl s_sk)), (s_f, .inl (cI, 2, .inl s_sf)), (k_a, .inr (0, [.ref k_f, .ref k_s])), (k_f, .inl (cI, 25, .inl k_fh)), (k_s, .inl (cI, 25, .inl k_sh))]) A res) args s 0 0 A) (F0 m 29 ls []) := by
  obtain ⟨hx, hb, hr, hml, hown, hts, hlk⟩ := id C
  have hg : ∀ w ∈ GW, w.before args s = true := fun w h => hts w (List.mem_cons_of_mem _ h)
  intro n
  induction n with
  | zero =>
    intro _ _ _ _ _ _ _ H locs ls hf
    rw [fX4_evenings_L29] at hf
    cases hf
  | succ n ih =>
    intro v2 v3 h_se r_th r_ki r_fe r_lo H locs ls hf w hl
    rw [fX4_evenings_L29] at hf
    refine lv_iload_n hx hb dX4_evenings_29 rfl (lv_at hl 3 rfl) ?_
    refine lv_iload_n hx hb dX4_evenings_30 rfl (lv_at hl 1 rfl) ?_
    refine lv_icmp_ge (tgt := 82) hx hb dX4_evenings_31 (by decide) (fun c1 => ?_) (fun c1 => ?_)
    · replace hf := ite_t c1 hf
      refine lv_iload_n hx hb dX4_evenings_82 rfl (lv_at hl 2 rfl) ?_
      exact k_iret (u := (h_se, r_th, r_ki, r_fe, r_ca, r_lo)) hx hb hr hlk w rfl hf dX4_evenings_83
    · replace hf := ite_f c1 hf
      refine lv_aload_n hx hb dX4_evenings_34 rfl (lv_at hl 0 rfl) ?_
      refine lv_aload_n hx hb dX4_evenings_35 rfl (lv_at hl 0 rfl) ?_
      refine va_get (D := D) (ci := 4) (v := .long h_se) (C := RX4) (T := TX4) (N := 12) hx hb hg iX4 hown w.2.2.2.2.2.2.1 w.1 0 rfl rfl 11 (by decide) (hg _ w_96) (fun _ h9 => h9) rfl dX4_evenings_36 ?_
      refine lv_ldc2 hx hb hown (hg _ w_466) dX4_evenings_39 ?_
      refine lv_lmul hx hb dX4_evenings_42 ?_
      refine lv_ldc2 hx hb hown (hg _ w_467) dX4_evenings_43 ?_
      refine lv_ladd hx hb dX4_evenings_46 ?_
      refine lv_topl (fun z2 ez2 => ?_)
      replace hf := nm_at ez2 hf
      refine k_put (ci := 4) (v := .long z2) (ty := .long) (C := RX4) (T := TX4) (N := 12) hx hb hg iX4 tyX4 tyX4_ok nmX4 hown w 0 rfl rfl 11 (by decide) (hg _ w_96) (fun _ h9 => h9) rfl pd_J rfl rfl (Nat.le_of_ble_eq_true rfl) dX4_evenings_47 (fun H locs w => ?_)
      have w : Wd D cI cZ b0 tt A s [(h_a, .inr (4, [.ref x_a, .ref n_a, .ref r_a, .ref c_a, .ref s_a, .ref k_a, .int h_ac, .int h_ks, .int h_hc, .int h_ok, .int h_tk, .long z2])), (x_a, .inr (3, [.ref x_l, .int x_ln])), (x_l, .inl (cI, 56, .inl x_le)), (n_a, .inr (1, [.int n_th, .int n_ki, .int n_fe, .ref n_c, .ref n_d])), (n_c, .inl (cI, 4, .inl n_ca)), (n_d, .inl (cI, 16, .inl n_lo)), (r_a, .inr (1, [.int r_th, .int r_ki, .int r_fe, .ref r_c, .ref r_d])), (r_c, .inl (cI, 4, .inl r_ca)), (r_d, .inl (cI, 16, .inl r_lo)), (c_a, .inr (2, [.int c_sz, .ref c_t, .ref c_k, .ref c_f])), (c_t, .inl (cI, 14, .inl c_st)), (c_k, .inl (cI, 14, .inl c_sk)), (c_f, .inl (cI, 14, .inl c_sf)), (s_a, .inr (2, [.int s_sz, .ref s_t, .ref s_k, .ref s_f])), (s_t, .inl (cI, 2, .inl s_st)), (s_k, .inl (cI, 2, .inl s_sk)), (s_f, .inl (cI, 2, .inl s_sf)), (k_a, .inr (0, [.ref k_f, .ref k_s])), (k_f, .inl (cI, 25, .inl k_fh)), (k_s, .inl (cI, 25, .inl k_sh))] H locs := w
      refine lv_aload_n hx hb dX4_evenings_50 rfl (lv_at hl 0 rfl) ?_
      refine lv_aload_n hx hb dX4_evenings_51 rfl (lv_at hl 0 rfl) ?_
      refine va_get (D := D) (ci := 4) (v := .long z2) (C := RX4) (T := TX4) (N := 12) hx hb hg iX4 hown w.2.2.2.2.2.2.1 w.1 0 rfl rfl 11 (by decide) (hg _ w_96) (fun _ h9 => h9) rfl dX4_evenings_52 ?_
      refine lv_bipush (v := 33) hx hb dX4_evenings_55 (by decide) ?_
      refine lv_lushr (v := (Int64.toUInt64 z2 >>> ((Int32.toInt64 33).toUInt64 &&& Int64.toUInt64 63)).toInt64) hx hb dX4_evenings_57 rfl ?_
      refine lv_ldc2 hx hb hown (hg _ w_468) dX4_evenings_58 ?_
      refine lv_lrem hx hb dX4_evenings_61 (by decide) ?_
      refine lv_l2i (v := (Int64.toInt32 ((Int64.toUInt64 z2 >>> ((Int32.toInt64 33).toUInt64 &&& Int64.toUInt64 63)).toInt64 - (Int64.toUInt64 z2 >>> ((Int32.toInt64 33).toUInt64 &&& Int64.toUInt64 63)).toInt64 / (80 : Int64) * (80 : Int64)))) hx hb dX4_evenings_62 rfl ?_
      replace hf := ob_at hf
      obtain ⟨r3, er3, hf⟩ := hf
      refine k_goV (v0 := (r_th, r_ki, r_fe, r_lo)) (res := r3) w [0, 1, 2, 3, 4, 5, 6, 7, 8, 9, 10, 11, 12, 13, 14, 15, 16, 17, 18, 19] rfl (fun _ => rfl) (va_runV (As := [.int (Int64.toInt32 ((Int64.toUInt64 z2 >>> ((Int32.toInt64 33).toUInt64 &&& Int64.toUInt64 63)).toInt64 - (Int64.toUInt64 z2 >>> ((Int32.toInt64 33).toUInt64 &&& Int64.toUInt64 63)).toInt64 / (80 : Int64) * (80 : Int64)))]) (rest := []) ⟨hx, hb, hml, hown, hg⟩ (tX4_passEvening l D cI cZ b0 tt h_a x_a n_a r_a c_a s_a k_a x_l n_c n_d r_c r_d c_t c_k c_f s_t s_k s_f k_f k_s h_ac h_ks h_hc h_ok h_tk z2 x_ln x_le n_th n_ki n_fe n_ca n_lo r_th r_ki r_fe r_ca r_lo c_sz c_st c_sk c_sf s_sz s_st s_sk s_sf k_fh k_sh (Int64.toInt32 ((Int64.toUInt64 z2 >>> ((Int32.toInt64 33).toUInt64 &&& Int64.toUInt64 63)).toInt64 - (Int64.toUInt64 z2 >>> ((Int32.toInt64 33).toUInt64 &&& Int64.toUInt64 63)).toInt64 / (80 : Int64) * (80 : Int64))) er3 H.size) (cwV 1 hg (gwV w_469 w_470 w_841 w_1 w_471) rfl rfl rfl ⟨rfl, qdX4_passEvening⟩ ⟨Nat.le_of_ble_eq_true rfl, Nat.le_of_ble_eq_true rfl⟩) (k_preV w [0, 1, 2, 3, 4, 5, 6, 7, 8, 9, 10, 11, 12, 13, 14, 15, 16, 17, 18, 19] (by decide) rfl (q0 := 0) rfl rfl) rfl rfl hl.1 rfl (lv_room (Nat.le_of_ble_eq_true rfl)) dX4_evenings_63 ⟨Nat.le_refl _, Nat.le_refl _⟩) (fun H locs w => ?_)
      have w : Wd D cI cZ b0 tt A s [(h_a, .inr (4, [.ref x_a, .ref n_a, .ref r_a, .ref c_a, .ref s_a, .ref k_a, .int h_ac, .int h_ks, .int h_hc, .int h_ok, .int h_tk, .long z2])), (x_a, .inr (3, [.ref x_l, .int x_ln])), (x_l, .inl (cI, 56, .inl x_le)), (n_a, .inr (1, [.int n_th, .int n_ki, .int n_fe, .ref n_c, .ref n_d])), (n_c, .inl (cI, 4, .inl n_ca)), (n_d, .inl (cI, 16, .inl n_lo)), (r_a, .inr (1, [.int r3.1, .int r3.2.1, .int r3.2.2.1, .ref r_c, .ref r_d])), (r_c, .inl (cI, 4, .inl r_ca)), (r_d, .inl (cI, 16, .inl r3.2.2.2)), (c_a, .inr (2, [.int c_sz, .ref c_t, .ref c_k, .ref c_f])), (c_t, .inl (cI, 14, .inl c_st)), (c_k, .inl (cI, 14, .inl c_sk)), (c_f, .inl (cI, 14, .inl c_sf)), (s_a, .inr (2, [.int s_sz, .ref s_t, .ref s_k, .ref s_f])), (s_t, .inl (cI, 2, .inl s_st)), (s_k, .inl (cI, 2, .inl s_sk)), (s_f, .inl (cI, 2, .inl s_sf)), (k_a, .inr (0, [.ref k_f, .ref k_s])), (k_f, .inl (cI, 25, .inl k_fh)), (k_s, .inl (cI, 25, .inl k_sh))] H locs := w
      refine lv_iload_n hx hb dX4_evenings_66 rfl (lv_at hl 2 rfl) ?_
      refine lv_aload_n hx hb dX4_evenings_67 rfl (lv_at hl 0 rfl) ?_
      refine va_get (D := D) (ci := 4) (v := .ref r_a) (C := RX4) (T := TX4) (N := 12) hx hb hg iX4 hown w.2.2.2.2.2.2.1 w.1 0 rfl rfl 2 (by decide) (hg _ w_87) (fun _ h9 => h9) rfl dX4_evenings_68 ?_
      replace hf := ob_at hf
      obtain ⟨r4, er4, hf⟩ := hf
      refine k_goI0 w [6, 7, 8] rfl (va_runV (As := []) (rest := [.int v2]) ⟨hx, hb, hml, hown, hg⟩ (tX1_size l D cI cZ b0 tt r_a r_c r_d r3.1 r3.2.1 r3.2.2.1 r_ca r3.2.2.2 er4 H.size) (cwV 0 hg (gwV w_232 w_233 w_234 w_3 w_235) rfl rfl rfl ⟨rfl, qdX1_size⟩ ⟨Nat.le_of_ble_eq_true rfl, Nat.le_of_ble_eq_true rfl⟩) (k_preV w [6, 7, 8] (by decide) rfl (q0 := 6) rfl rfl) rfl rfl hl.1 rfl (lv_room (Nat.le_of_ble_eq_true rfl)) dX4_evenings_71 ⟨Nat.le_refl _, Nat.le_refl _⟩) (fun H locs w => ?_)
      refine lv_iadd hx hb dX4_evenings_74 ?_
      refine lv_topi (fun z5 ez5 => ?_)
      replace hf := nm_at ez5 hf
      refine lv_istore_n (lv' := [(2, .int z5), (0, .ref h_a), (1, .int v1), (3, .int v3)]) hx hb dX4_evenings_75 rfl hl (by decide) rfl (fun ls hl => ?_)
      obtain ⟨z6, ez6⟩ : ∃ y : Int32, y = (v3 + 1) := ⟨_, rfl⟩
      replace hf := nm_at ez6 hf
      refine lv_iinc (v := z6) (lv' := [(3, .int z6), (2, .int z5), (0, .ref h_a), (1, .int v1)]) hx hb dX4_evenings_76 hl (k := 3) rfl (by rw [ez6]; rfl) (by decide) rfl (fun ls hl => ?_)
      refine lv_goto (tgt := 29) hx hb dX4_evenings_79 (by decide) ?_
      exact ih z5 z6 z2 r3.1 r3.2.1 r3.2.2.1 r3.2.2.2 H locs ls hf w (lv_sub hl [2, 3, 1, 0] rfl)
def fX4_evenings  (h_se : Int64) (n_th : Int32) (n_ki : Int32) (n_fe : Int32) (n_ca : Nat → Int32) (r_th : Int32) (r_ki : Int32) (r_fe : Int32) (r_ca : Nat → Int32) (r_lo : Nat → Int32) (a1 : Int32) : Option (Int32 × Int64 × Int32 × Int32 × Int32 × (Nat → Int32) × (Nat → Int32)) := (if a1 < 1 then some ((-2), (h_se, r_th, r_ki, r_fe, r_ca, r_lo)) else (if a1 ≤ 30 then ob (fX1_copyFrom r_th r_ki r_fe r_ca n_th n_ki n_fe n_ca) (fun r9 => fX4_evenings_L29 a1 n_th n_ki n_fe n_ca r9.2.2.2 FU 0 0 h_se r9.1 r9.2.1 r9.2.2.1 r_lo) else some ((-2), (h_se, r_th, r_ki, r_fe, r_ca, r_lo))))
set_option maxRecDepth 100000 in
set_option maxHeartbeats 4000000 in
theorem tX4_evenings (l : Launch) (D : va_G) (cI cZ : ClassId) (b0 : Nat) (tt : Nat → Nat)  (h_a x_a n_a r_a c_a s_a k_a x_l n_c n_d r_c r_d c_t c_k c_f s_t s_k s_f k_f k_s : Nat) (h_ac : Int32) (h_ks : Int32) (h_hc : Int32) (h_ok : Int32) (h_tk : Int32) (h_se : Int64) (x_ln : Int32) (x_le : Nat → Int32) (n_th : Int32) (n_ki : Int32) (n_fe : Int32) (n_ca : Nat → Int32) (n_lo : Nat → Int32) (r_th : Int32) (r_ki : Int32) (r_fe : Int32) (r_ca : Nat → Int32) (r_lo : Nat → Int32) (c_sz : Int32) (c_st : Nat → Int32) (c_sk : Nat → Int32) (c_sf : Nat → Int32) (s_sz : Int32) (s_st : Nat → Int32) (s_sk : Nat → Int32) (s_sf : Nat → Int32) (k_fh : Nat → Int32) (k_sh : Nat → Int32) (a1 : Int32) {res : Int32 × Int64 × Int32 × Int32 × Int32 × (Nat → Int32) × (Nat → Int32)} (hf : fX4_evenings h_se n_th n_ki n_fe n_ca r_th r_ki r_fe r_ca r_lo a1 = some res) : CtI l yX4_evenings (cwX4_evenings :: GW) 6 134 D cI cZ b0 tt [.ref h_a, .int a1] (fun u : Int64 × Int32 × Int32 × Int32 × (Nat → Int32) × (Nat → Int32) => [(h_a, .inr (4, [.ref x_a, .ref n_a, .ref r_a, .ref c_a, .ref s_a, .ref k_a, .int h_ac, .int h_ks, .int h_hc, .int h_ok, .int h_tk, .long u.1])), (x_a, .inr (3, [.ref x_l, .int x_ln])), (x_l, .inl (cI, 56, .inl x_le)), (n_a, .inr (1, [.int n_th, .int n_ki, .int n_fe, .ref n_c, .ref n_d])), (n_c, .inl (cI, 4, .inl n_ca)), (n_d, .inl (cI, 16, .inl n_lo)), (r_a, .inr (1, [.int u.2.1, .int u.2.2.1, .int u.2.2.2.1, .ref r_c, .ref r_d])), (r_c, .inl (cI, 4, .inl u.2.2.2.2.1)), (r_d, .inl (cI, 16, .inl u.2.2.2.2.2)), (c_a, .inr (2, [.int c_sz, .ref c_t, .ref c_k, .ref c_f])), (c_t, .inl (cI, 14, .inl c_st)), (c_k, .inl (cI, 14, .inl c_sk)), (c_f, .inl (cI, 14, .inl c_sf)), (s_a, .inr (2, [.int s_sz, .ref s_t, .ref s_k, .ref s_f])), (s_t, .inl (cI, 2, .inl s_st)), (s_k, .inl (cI, 2, .inl s_sk)), (s_f, .inl (cI, 2, .inl s_sf)), (k_a, .inr (0, [.ref k_f, .ref k_s])), (k_f, .inl (cI, 25, .inl k_fh)), (k_s, .inl (cI, 25, .inl k_sh))]) (h_se, r_th, r_ki, r_fe, r_ca, r_lo) res := by
  intro sz
  refine k_begin (cc := cX4_evenings) (maxL := 4) (ret := (some .int)) (by decide) rfl (Nat.le_of_ble_eq_true rfl) ?_
  intro p e s m below meth c ls C w hl
  generalize va_A _ sz = A at w ⊢
  have w : Wd D cI cZ b0 tt A s [(h_a, .inr (4, [.ref x_a, .ref n_a, .ref r_a, .ref c_a, .ref s_a, .ref k_a, .int h_ac, .int h_ks, .int h_hc, .int h_ok, .int h_tk, .long h_se])), (x_a, .inr (3, [.ref x_l, .int x_ln])), (x_l, .inl (cI, 56, .inl x_le)), (n_a, .inr (1, [.int n_th, .int n_ki, .int n_fe, .ref n_c, .ref n_d])), (n_c, .inl (cI, 4, .inl n_ca)), (n_d, .inl (cI, 16, .inl n_lo)), (r_a, .inr (1, [.int r_th, .int r_ki, .int r_fe, .ref r_c, .ref r_d])), (r_c, .inl (cI, 4, .inl r_ca)), (r_d, .inl (cI, 16, .inl r_lo)), (c_a, .inr (2, [.int c_sz, .ref c_t, .ref c_k, .ref c_f])), (c_t, .inl (cI, 14, .inl c_st)), (c_k, .inl (cI, 14, .inl c_sk)), (c_f, .inl (cI, 14, .inl c_sf)), (s_a, .inr (2, [.int s_sz, .ref s_t, .ref s_k, .ref s_f])), (s_t, .inl (cI, 2, .inl s_st)), (s_k, .inl (cI, 2, .inl s_sk)), (s_f, .inl (cI, 2, .inl s_sf)), (k_a, .inr (0, [.ref k_f, .ref k_s])), (k_f, .inl (cI, 25, .inl k_fh)), (k_s, .inl (cI, 25, .inl k_sh))] s.heap [] := w
  have hl : lv_has ls 4 [(0, .ref h_a), (1, .int a1)] := hl
  obtain ⟨H, eH⟩ : ∃ H, H = s.heap := ⟨_, rfl⟩
  rw [← eH] at w ⊢
  generalize ([] : List Loc) = locs at w ⊢
  generalize List.toArray _ = args at C ⊢
  obtain ⟨hx, hb, hr, hml, hown, hts, hlk⟩ := id C
  have hg : ∀ w ∈ GW, w.before args s = true := fun w h => hts w (List.mem_cons_of_mem _ h)
  unfold fX4_evenings at hf
  refine lv_iload_n hx hb dX4_evenings_0 rfl (lv_at hl 1 rfl) ?_
  refine lv_iconst (v := 1) hx hb dX4_evenings_1 (by decide) ?_
  refine lv_icmp_lt (tgt := 11) hx hb dX4_evenings_2 (by decide) (fun c7 => ?_) (fun c7 => ?_)
  · replace hf := ite_t c7 hf
    refine lv_bipush (v := (-2)) hx hb dX4_evenings_11 (by decide) ?_
    exact k_iret (u := (h_se, r_th, r_ki, r_fe, r_ca, r_lo)) hx hb hr hlk w rfl hf dX4_evenings_13
  · replace hf := ite_f c7 hf
    refine lv_iload_n hx hb dX4_evenings_5 rfl (lv_at hl 1 rfl) ?_
    refine lv_bipush (v := 30) hx hb dX4_evenings_6 (by decide) ?_
    refine lv_icmp_le (tgt := 14) hx hb dX4_evenings_8 (by decide) (fun c8 => ?_) (fun c8 => ?_)
    · replace hf := ite_t c8 hf
      refine lv_aload_n hx hb dX4_evenings_14 rfl (lv_at hl 0 rfl) ?_
      refine va_get (D := D) (ci := 4) (v := .ref r_a) (C := RX4) (T := TX4) (N := 12) hx hb hg iX4 hown w.2.2.2.2.2.2.1 w.1 0 rfl rfl 2 (by decide) (hg _ w_87) (fun _ h9 => h9) rfl dX4_evenings_15 ?_
      refine lv_aload_n hx hb dX4_evenings_18 rfl (lv_at hl 0 rfl) ?_
      refine va_get (D := D) (ci := 4) (v := .ref n_a) (C := RX4) (T := TX4) (N := 12) hx hb hg iX4 hown w.2.2.2.2.2.2.1 w.1 0 rfl rfl 1 (by decide) (hg _ w_86) (fun _ h9 => h9) rfl dX4_evenings_19 ?_
      replace hf := ob_at hf
      obtain ⟨r9, er9, hf⟩ := hf
      refine k_goV (v0 := (r_th, r_ki, r_fe, r_ca)) (res := r9) w [6, 7, 8, 3, 4, 5] rfl (fun _ => rfl) (va_runV (As := [.ref n_a]) (rest := []) ⟨hx, hb, hml, hown, hg⟩ (tX1_copyFrom l D cI cZ b0 tt r_a r_c r_d n_a n_c n_d r_th r_ki r_fe r_ca r_lo n_th n_ki n_fe n_ca n_lo er9 H.size) (cwV 1 hg (gwV w_228 w_229 w_230 w_3 w_231) rfl rfl rfl ⟨rfl, qdX1_copyFrom⟩ ⟨Nat.le_of_ble_eq_true rfl, Nat.le_of_ble_eq_true rfl⟩) (k_preV w [6, 7, 8, 3, 4, 5] (by decide) rfl (q0 := 6) rfl rfl) rfl rfl hl.1 rfl (lv_room (Nat.le_of_ble_eq_true rfl)) dX4_evenings_22 ⟨Nat.le_refl _, Nat.le_refl _⟩) (fun H locs w => ?_)
      have w : Wd D cI cZ b0 tt A s [(h_a, .inr (4, [.ref x_a, .ref n_a, .ref r_a, .ref c_a, .ref s_a, .ref k_a, .int h_ac, .int h_ks, .int h_hc, .int h_ok, .int h_tk, .long h_se])), (x_a, .inr (3, [.ref x_l, .int x_ln])), (x_l, .inl (cI, 56, .inl x_le)), (n_a, .inr (1, [.int n_th, .int n_ki, .int n_fe, .ref n_c, .ref n_d])), (n_c, .inl (cI, 4, .inl n_ca)), (n_d, .inl (cI, 16, .inl n_lo)), (r_a, .inr (1, [.int r9.1, .int r9.2.1, .int r9.2.2.1, .ref r_c, .ref r_d])), (r_c, .inl (cI, 4, .inl r9.2.2.2)), (r_d, .inl (cI, 16, .inl r_lo)), (c_a, .inr (2, [.int c_sz, .ref c_t, .ref c_k, .ref c_f])), (c_t, .inl (cI, 14, .inl c_st)), (c_k, .inl (cI, 14, .inl c_sk)), (c_f, .inl (cI, 14, .inl c_sf)), (s_a, .inr (2, [.int s_sz, .ref s_t, .ref s_k, .ref s_f])), (s_t, .inl (cI, 2, .inl s_st)), (s_k, .inl (cI, 2, .inl s_sk)), (s_f, .inl (cI, 2, .inl s_sf)), (k_a, .inr (0, [.ref k_f, .ref k_s])), (k_f, .inl (cI, 25, .inl k_fh)), (k_s, .inl (cI, 25, .inl k_sh))] H locs := w
      refine lv_iconst (v := 0) hx hb dX4_evenings_25 (by decide) ?_
      refine lv_istore_n (lv' := [(2, .int 0), (0, .ref h_a), (1, .int a1)]) hx hb dX4_evenings_26 rfl hl (by decide) rfl (fun ls hl => ?_)
      refine lv_iconst (v := 0) hx hb dX4_evenings_27 (by decide) ?_
      refine lv_istore_n (lv' := [(3, .int 0), (2, .int 0), (0, .ref h_a), (1, .int a1)]) hx hb dX4_evenings_28 rfl hl (by decide) rfl (fun ls hl => ?_)
      exact tX4_evenings_L29 (v1 := a1) (n_th := n_th) (n_ki := n_ki) (n_fe := n_fe) (n_ca := n_ca) (r_ca := r9.2.2.2) (h_ac := h_ac) (h_ks := h_ks) (h_hc := h_hc) (h_ok := h_ok) (h_tk := h_tk) (x_ln := x_ln) (x_le := x_le) (n_lo := n_lo) (c_sz := c_sz) (c_st := c_st) (c_sk := c_sk) (c_sf := c_sf) (s_sz := s_sz) (s_st := s_st) (s_sk := s_sk) (s_sf := s_sf) (k_fh := k_fh) (k_sh := k_sh) (C := C) FU 0 0 h_se r9.1 r9.2.1 r9.2.2.1 r_lo H locs ls hf w (lv_sub hl [2, 3, 1, 0] rfl)
    · replace hf := ite_f c8 hf
      refine lv_bipush (v := (-2)) hx hb dX4_evenings_11 (by decide) ?_
      exact k_iret (u := (h_se, r_th, r_ki, r_fe, r_ca, r_lo)) hx hb hr hlk w rfl hf dX4_evenings_13
-- X4_isSlot
def fX4_isSlot  (a1 : Int32) : Option (Int32) := (if a1 < 0 then some 0 else (if 2 ≤ a1 then some 0 else some 1))
set_option maxRecDepth 100000 in
set_option maxHeartbeats 4000000 in
theorem tX4_isSlot (l : Launch) (D : va_G) (cI cZ : ClassId) (b0 : Nat) (tt : Nat → Nat)    (a1 : Int32) {res : Int32} (hf : fX4_isSlot a1 = some res) : CtI l yX4_isSlot (cwX4_isSlot :: GW) 0 0 D cI cZ b0 tt [.int a1] (fun _ : Unit => []) () (res, ()) := by
  intro sz
  refine k_begin (cc := cX4_isSlot) (maxL := 1) (ret := (some .boolean)) (by decide) rfl (Nat.le_of_ble_eq_true rfl) ?_
  intro p e s m below meth c ls C w hl
  generalize va_A _ sz = A at w ⊢
  have w : Wd D cI cZ b0 tt A s [] s.heap [] := w
  have hl : lv_has ls 1 [(0, .int a1)] := hl
  obtain ⟨H, eH⟩ : ∃ H, H = s.heap := ⟨_, rfl⟩
  rw [← eH] at w ⊢
  generalize ([] : List Loc) = locs at w ⊢
  generalize List.toArray _ = args at C ⊢
  obtain ⟨hx, hb, hr, hml, hown, hts, hlk⟩ := id C
  have hg : ∀ w ∈ GW, w.before args s = true := fun w h => hts w (List.mem_cons_of_mem _ h)
  unfold fX4_isSlot at hf
  refine lv_iload_n hx hb dX4_isSlot_0 rfl (lv_at hl 0 rfl) ?_
  refine lv_if_lt (tgt := 13) hx hb dX4_isSlot_1 (by decide) (fun c1 => ?_) (fun c1 => ?_)
  · replace hf := ite_t c1 hf
    refine lv_iconst (v := 0) hx hb dX4_isSlot_13 (by decide) ?_
    exact k_zret (u := ()) hx hb hr hlk w rfl rfl (k_ret1 hf) dX4_isSlot_14
  · replace hf := ite_f c1 hf
    refine lv_iload_n hx hb dX4_isSlot_4 rfl (lv_at hl 0 rfl) ?_
    refine lv_iconst (v := 2) hx hb dX4_isSlot_5 (by decide) ?_
    refine lv_icmp_ge (tgt := 13) hx hb dX4_isSlot_6 (by decide) (fun c2 => ?_) (fun c2 => ?_)
    · replace hf := ite_t c2 hf
      refine lv_iconst (v := 0) hx hb dX4_isSlot_13 (by decide) ?_
      exact k_zret (u := ()) hx hb hr hlk w rfl rfl (k_ret1 hf) dX4_isSlot_14
    · replace hf := ite_f c2 hf
      refine lv_iconst (v := 1) hx hb dX4_isSlot_9 (by decide) ?_
      refine lv_goto (tgt := 14) hx hb dX4_isSlot_10 (by decide) ?_
      exact k_zret (u := ()) hx hb hr hlk w rfl rfl (k_ret1 hf) dX4_isSlot_14
-- X4_keep
def fX4_keep  (h_ks : Int32) (n_th : Int32) (n_ki : Int32) (n_fe : Int32) (s_sz : Int32) (s_st : Nat → Int32) (s_sk : Nat → Int32) (s_sf : Nat → Int32) (a1 : Int32) : Option (Int32 × Int32 × (Nat → Int32) × (Nat → Int32) × (Nat → Int32)) := ob (fX4_isSlot a1) (fun r1 => (if r1 = 0 then some ((-1), (h_ks, s_st, s_sk, s_sf)) else ob (fX2_store 2 s_sz s_st s_sk s_sf n_th n_ki n_fe a1) (fun r3 => nm (h_ks ||| ((1 : Int32) <<< (a1 &&& 31))) (fun z4 => ob (fX1_size n_th) (fun r5 => some (r5, (z4, r3.1, r3.2.1, r3.2.2)))))))
set_option maxRecDepth 100000 in
set_option maxHeartbeats 4000000 in
theorem tX4_keep (l : Launch) (D : va_G) (cI cZ : ClassId) (b0 : Nat) (tt : Nat → Nat)  (h_a x_a n_a r_a c_a s_a k_a x_l n_c n_d r_c r_d c_t c_k c_f s_t s_k s_f k_f k_s : Nat) (h_ac : Int32) (h_ks : Int32) (h_hc : Int32) (h_ok : Int32) (h_tk : Int32) (h_se : Int64) (x_ln : Int32) (x_le : Nat → Int32) (n_th : Int32) (n_ki : Int32) (n_fe : Int32) (n_ca : Nat → Int32) (n_lo : Nat → Int32) (r_th : Int32) (r_ki : Int32) (r_fe : Int32) (r_ca : Nat → Int32) (r_lo : Nat → Int32) (c_sz : Int32) (c_st : Nat → Int32) (c_sk : Nat → Int32) (c_sf : Nat → Int32) (s_sz : Int32) (s_st : Nat → Int32) (s_sk : Nat → Int32) (s_sf : Nat → Int32) (k_fh : Nat → Int32) (k_sh : Nat → Int32) (a1 : Int32) {res : Int32 × Int32 × (Nat → Int32) × (Nat → Int32) × (Nat → Int32)} (hf : fX4_keep h_ks n_th n_ki n_fe s_sz s_st s_sk s_sf a1 = some res) : CtI l yX4_keep (cwX4_keep :: GW) 2 40 D cI cZ b0 tt [.ref h_a, .int a1] (fun u : Int32 × (Nat → Int32) × (Nat → Int32) × (Nat → Int32) => [(h_a, .inr (4, [.ref x_a, .ref n_a, .ref r_a, .ref c_a, .ref s_a, .ref k_a, .int h_ac, .int u.1, .int h_hc, .int h_ok, .int h_tk, .long h_se])), (x_a, .inr (3, [.ref x_l, .int x_ln])), (x_l, .inl (cI, 56, .inl x_le)), (n_a, .inr (1, [.int n_th, .int n_ki, .int n_fe, .ref n_c, .ref n_d])), (n_c, .inl (cI, 4, .inl n_ca)), (n_d, .inl (cI, 16, .inl n_lo)), (r_a, .inr (1, [.int r_th, .int r_ki, .int r_fe, .ref r_c, .ref r_d])), (r_c, .inl (cI, 4, .inl r_ca)), (r_d, .inl (cI, 16, .inl r_lo)), (c_a, .inr (2, [.int c_sz, .ref c_t, .ref c_k, .ref c_f])), (c_t, .inl (cI, 14, .inl c_st)), (c_k, .inl (cI, 14, .inl c_sk)), (c_f, .inl (cI, 14, .inl c_sf)), (s_a, .inr (2, [.int s_sz, .ref s_t, .ref s_k, .ref s_f])), (s_t, .inl (cI, 2, .inl u.2.1)), (s_k, .inl (cI, 2, .inl u.2.2.1)), (s_f, .inl (cI, 2, .inl u.2.2.2)), (k_a, .inr (0, [.ref k_f, .ref k_s])), (k_f, .inl (cI, 25, .inl k_fh)), (k_s, .inl (cI, 25, .inl k_sh))]) (h_ks, s_st, s_sk, s_sf) res := by
  intro sz
  refine k_begin (cc := cX4_keep) (maxL := 2) (ret := (some .int)) (by decide) rfl (Nat.le_of_ble_eq_true rfl) ?_
  intro p e s m below meth c ls C w hl
  generalize va_A _ sz = A at w ⊢
  have w : Wd D cI cZ b0 tt A s [(h_a, .inr (4, [.ref x_a, .ref n_a, .ref r_a, .ref c_a, .ref s_a, .ref k_a, .int h_ac, .int h_ks, .int h_hc, .int h_ok, .int h_tk, .long h_se])), (x_a, .inr (3, [.ref x_l, .int x_ln])), (x_l, .inl (cI, 56, .inl x_le)), (n_a, .inr (1, [.int n_th, .int n_ki, .int n_fe, .ref n_c, .ref n_d])), (n_c, .inl (cI, 4, .inl n_ca)), (n_d, .inl (cI, 16, .inl n_lo)), (r_a, .inr (1, [.int r_th, .int r_ki, .int r_fe, .ref r_c, .ref r_d])), (r_c, .inl (cI, 4, .inl r_ca)), (r_d, .inl (cI, 16, .inl r_lo)), (c_a, .inr (2, [.int c_sz, .ref c_t, .ref c_k, .ref c_f])), (c_t, .inl (cI, 14, .inl c_st)), (c_k, .inl (cI, 14, .inl c_sk)), (c_f, .inl (cI, 14, .inl c_sf)), (s_a, .inr (2, [.int s_sz, .ref s_t, .ref s_k, .ref s_f])), (s_t, .inl (cI, 2, .inl s_st)), (s_k, .inl (cI, 2, .inl s_sk)), (s_f, .inl (cI, 2, .inl s_sf)), (k_a, .inr (0, [.ref k_f, .ref k_s])), (k_f, .inl (cI, 25, .inl k_fh)), (k_s, .inl (cI, 25, .inl k_sh))] s.heap [] := w
  have hl : lv_has ls 2 [(0, .ref h_a), (1, .int a1)] := hl
  obtain ⟨H, eH⟩ : ∃ H, H = s.heap := ⟨_, rfl⟩
  rw [← eH] at w ⊢
  generalize ([] : List Loc) = locs at w ⊢
  generalize List.toArray _ = args at C ⊢
  obtain ⟨hx, hb, hr, hml, hown, hts, hlk⟩ := id C
  have hg : ∀ w ∈ GW, w.before args s = true := fun w h => hts w (List.mem_cons_of_mem _ h)
  unfold fX4_keep at hf
  refine lv_iload_n hx hb dX4_keep_0 rfl (lv_at hl 1 rfl) ?_
  replace hf := ob_at hf
  obtain ⟨r1, er1, hf⟩ := hf
  refine k_goI0 w [] rfl (va_runS (As := [.int a1]) (rest := []) ⟨hx, hb, hml, hown, hg⟩ (tX4_isSlot l D cI cZ b0 tt a1 er1 H.size) (va_cwS 1 hg (gwS w_476 w_477 w_1 w_478) rfl rfl rfl qdX4_isSlot ⟨Nat.le_of_ble_eq_true rfl, Nat.le_of_ble_eq_true rfl⟩) (k_preS w [] (by decide) rfl) rfl rfl hl.1 rfl (lv_room (Nat.le_of_ble_eq_true rfl)) dX4_keep_1 ⟨Nat.le_refl _, Nat.le_refl _⟩) (fun H locs w => ?_)
  refine lv_if_ne (tgt := 9) hx hb dX4_keep_4 (by decide) (fun c2 => ?_) (fun c2 => ?_)
  · replace hf := ite_f c2 hf
    refine lv_aload_n hx hb dX4_keep_9 rfl (lv_at hl 0 rfl) ?_
    refine va_get (D := D) (ci := 4) (v := .ref s_a) (C := RX4) (T := TX4) (N := 12) hx hb hg iX4 hown w.2.2.2.2.2.2.1 w.1 0 rfl rfl 4 (by decide) (hg _ w_89) (fun _ h9 => h9) rfl dX4_keep_10 ?_
    refine lv_iload_n hx hb dX4_keep_13 rfl (lv_at hl 1 rfl) ?_
    refine lv_aload_n hx hb dX4_keep_14 rfl (lv_at hl 0 rfl) ?_
    refine va_get (D := D) (ci := 4) (v := .ref n_a) (C := RX4) (T := TX4) (N := 12) hx hb hg iX4 hown w.2.2.2.2.2.2.1 w.1 0 rfl rfl 1 (by decide) (hg _ w_86) (fun _ h9 => h9) rfl dX4_keep_15 ?_
    replace hf := ob_at hf
    obtain ⟨r3, er3, hf⟩ := hf
    refine k_goV (v0 := (s_st, s_sk, s_sf)) (res := r3) w [13, 14, 15, 16, 3, 4, 5] rfl (fun _ => rfl) (va_runV (As := [.int a1, .ref n_a]) (rest := []) ⟨hx, hb, hml, hown, hg⟩ (tX2_store l D cI cZ b0 tt 2 s_a s_t s_k s_f n_a n_c n_d s_sz s_st s_sk s_sf n_th n_ki n_fe n_ca n_lo a1 er3 H.size) (cwV 2 hg (gwV w_282 w_283 w_284 w_4 w_285) rfl rfl rfl ⟨rfl, qdX2_store⟩ ⟨Nat.le_of_ble_eq_true rfl, Nat.le_of_ble_eq_true rfl⟩) (k_preV w [13, 14, 15, 16, 3, 4, 5] (by decide) rfl (q0 := 13) rfl rfl) rfl rfl hl.1 rfl (lv_room (Nat.le_of_ble_eq_true rfl)) dX4_keep_18 ⟨Nat.le_refl _, Nat.le_refl _⟩) (fun H locs w => ?_)
    have w : Wd D cI cZ b0 tt A s [(h_a, .inr (4, [.ref x_a, .ref n_a, .ref r_a, .ref c_a, .ref s_a, .ref k_a, .int h_ac, .int h_ks, .int h_hc, .int h_ok, .int h_tk, .long h_se])), (x_a, .inr (3, [.ref x_l, .int x_ln])), (x_l, .inl (cI, 56, .inl x_le)), (n_a, .inr (1, [.int n_th, .int n_ki, .int n_fe, .ref n_c, .ref n_d])), (n_c, .inl (cI, 4, .inl n_ca)), (n_d, .inl (cI, 16, .inl n_lo)), (r_a, .inr (1, [.int r_th, .int r_ki, .int r_fe, .ref r_c, .ref r_d])), (r_c, .inl (cI, 4, .inl r_ca)), (r_d, .inl (cI, 16, .inl r_lo)), (c_a, .inr (2, [.int c_sz, .ref c_t, .ref c_k, .ref c_f])), (c_t, .inl (cI, 14, .inl c_st)), (c_k, .inl (cI, 14, .inl c_sk)), (c_f, .inl (cI, 14, .inl c_sf)), (s_a, .inr (2, [.int s_sz, .ref s_t, .ref s_k, .ref s_f])), (s_t, .inl (cI, 2, .inl r3.1)), (s_k, .inl (cI, 2, .inl r3.2.1)), (s_f, .inl (cI, 2, .inl r3.2.2)), (k_a, .inr (0, [.ref k_f, .ref k_s])), (k_f, .inl (cI, 25, .inl k_fh)), (k_s, .inl (cI, 25, .inl k_sh))] H locs := w
    refine lv_aload_n hx hb dX4_keep_21 rfl (lv_at hl 0 rfl) ?_
    refine lv_dup hx hb dX4_keep_22 rfl ?_
    refine va_get (D := D) (ci := 4) (v := .int h_ks) (C := RX4) (T := TX4) (N := 12) hx hb hg iX4 hown w.2.2.2.2.2.2.1 w.1 0 rfl rfl 7 (by decide) (hg _ w_92) (fun _ h9 => h9) rfl dX4_keep_23 ?_
    refine lv_iconst (v := 1) hx hb dX4_keep_26 (by decide) ?_
    refine lv_iload_n hx hb dX4_keep_27 rfl (lv_at hl 1 rfl) ?_
    refine lv_ishl hx hb dX4_keep_28 ?_
    refine lv_ior hx hb dX4_keep_29 ?_
    refine lv_topi (fun z4 ez4 => ?_)
    replace hf := nm_at ez4 hf
    refine k_put (ci := 4) (v := .int z4) (ty := .int) (C := RX4) (T := TX4) (N := 12) hx hb hg iX4 tyX4 tyX4_ok nmX4 hown w 0 rfl rfl 7 (by decide) (hg _ w_92) (fun _ h9 => h9) rfl pd_I rfl rfl (Nat.le_of_ble_eq_true rfl) dX4_keep_30 (fun H locs w => ?_)
    have w : Wd D cI cZ b0 tt A s [(h_a, .inr (4, [.ref x_a, .ref n_a, .ref r_a, .ref c_a, .ref s_a, .ref k_a, .int h_ac, .int z4, .int h_hc, .int h_ok, .int h_tk, .long h_se])), (x_a, .inr (3, [.ref x_l, .int x_ln])), (x_l, .inl (cI, 56, .inl x_le)), (n_a, .inr (1, [.int n_th, .int n_ki, .int n_fe, .ref n_c, .ref n_d])), (n_c, .inl (cI, 4, .inl n_ca)), (n_d, .inl (cI, 16, .inl n_lo)), (r_a, .inr (1, [.int r_th, .int r_ki, .int r_fe, .ref r_c, .ref r_d])), (r_c, .inl (cI, 4, .inl r_ca)), (r_d, .inl (cI, 16, .inl r_lo)), (c_a, .inr (2, [.int c_sz, .ref c_t, .ref c_k, .ref c_f])), (c_t, .inl (cI, 14, .inl c_st)), (c_k, .inl (cI, 14, .inl c_sk)), (c_f, .inl (cI, 14, .inl c_sf)), (s_a, .inr (2, [.int s_sz, .ref s_t, .ref s_k, .ref s_f])), (s_t, .inl (cI, 2, .inl r3.1)), (s_k, .inl (cI, 2, .inl r3.2.1)), (s_f, .inl (cI, 2, .inl r3.2.2)), (k_a, .inr (0, [.ref k_f, .ref k_s])), (k_f, .inl (cI, 25, .inl k_fh)), (k_s, .inl (cI, 25, .inl k_sh))] H locs := w
    refine lv_aload_n hx hb dX4_keep_33 rfl (lv_at hl 0 rfl) ?_
    refine va_get (D := D) (ci := 4) (v := .ref n_a) (C := RX4) (T := TX4) (N := 12) hx hb hg iX4 hown w.2.2.2.2.2.2.1 w.1 0 rfl rfl 1 (by decide) (hg _ w_86) (fun _ h9 => h9) rfl dX4_keep_34 ?_
    replace hf := ob_at hf
    obtain ⟨r5, er5, hf⟩ := hf
    refine k_goI0 w [3, 4, 5] rfl (va_runV (As := []) (rest := []) ⟨hx, hb, hml, hown, hg⟩ (tX1_size l D cI cZ b0 tt n_a n_c n_d n_th n_ki n_fe n_ca n_lo er5 H.size) (cwV 0 hg (gwV w_232 w_233 w_234 w_3 w_235) rfl rfl rfl ⟨rfl, qdX1_size⟩ ⟨Nat.le_of_ble_eq_true rfl, Nat.le_of_ble_eq_true rfl⟩) (k_preV w [3, 4, 5] (by decide) rfl (q0 := 3) rfl rfl) rfl rfl hl.1 rfl (lv_room (Nat.le_of_ble_eq_true rfl)) dX4_keep_37 ⟨Nat.le_refl _, Nat.le_refl _⟩) (fun H locs w => ?_)
    exact k_iret (u := (z4, r3.1, r3.2.1, r3.2.2)) hx hb hr hlk w rfl hf dX4_keep_40
  · replace hf := ite_t c2 hf
    refine lv_iconst (v := (-1)) hx hb dX4_keep_7 (by decide) ?_
    exact k_iret (u := (h_ks, s_st, s_sk, s_sf)) hx hb hr hlk w rfl hf dX4_keep_8
-- X4_again
def fX4_again  (h_ac : Int32) (h_ks : Int32) (n_th : Int32) (n_ki : Int32) (n_fe : Int32) (s_sz : Int32) (s_st : Nat → Int32) (s_sk : Nat → Int32) (s_sf : Nat → Int32) (a1 : Int32) : Option (Int32 × Int32 × Int32 × Int32 × Int32) := ob (fX4_isSlot a1) (fun r1 => (if r1 = 0 then some ((-1), (h_ac, n_th, n_ki, n_fe)) else (if ((h_ks >>> (a1 &&& 31)) &&& (1 : Int32)) = 0 then some ((-3), (h_ac, n_th, n_ki, n_fe)) else ob (fX2_restore 2 s_sz s_st s_sk s_sf n_th n_ki n_fe a1) (fun r4 => ob (fX1_size r4.1) (fun r5 => some (r5, (0, r4.1, r4.2.1, r4.2.2)))))))
set_option maxRecDepth 100000 in
set_option maxHeartbeats 4000000 in
theorem tX4_again (l : Launch) (D : va_G) (cI cZ : ClassId) (b0 : Nat) (tt : Nat → Nat)  (h_a x_a n_a r_a c_a s_a k_a x_l n_c n_d r_c r_d c_t c_k c_f s_t s_k s_f k_f k_s : Nat) (h_ac : Int32) (h_ks : Int32) (h_hc : Int32) (h_ok : Int32) (h_tk : Int32) (h_se : Int64) (x_ln : Int32) (x_le : Nat → Int32) (n_th : Int32) (n_ki : Int32) (n_fe : Int32) (n_ca : Nat → Int32) (n_lo : Nat → Int32) (r_th : Int32) (r_ki : Int32) (r_fe : Int32) (r_ca : Nat → Int32) (r_lo : Nat → Int32) (c_sz : Int32) (c_st : Nat → Int32) (c_sk : Nat → Int32) (c_sf : Nat → Int32) (s_sz : Int32) (s_st : Nat → Int32) (s_sk : Nat → Int32) (s_sf : Nat → Int32) (k_fh : Nat → Int32) (k_sh : Nat → Int32) (a1 : Int32) {res : Int32 × Int32 × Int32 × Int32 × Int32} (hf : fX4_again h_ac h_ks n_th n_ki n_fe s_sz s_st s_sk s_sf a1 = some res) : CtI l yX4_again (cwX4_again :: GW) 2 40 D cI cZ b0 tt [.ref h_a, .int a1] (fun u : Int32 × Int32 × Int32 × Int32 => [(h_a, .inr (4, [.ref x_a, .ref n_a, .ref r_a, .ref c_a, .ref s_a, .ref k_a, .int u.1, .int h_ks, .int h_hc, .int h_ok, .int h_tk, .long h_se])), (x_a, .inr (3, [.ref x_l, .int x_ln])), (x_l, .inl (cI, 56, .inl x_le)), (n_a, .inr (1, [.int u.2.1, .int u.2.2.1, .int u.2.2.2, .ref n_c, .ref n_d])), (n_c, .inl (cI, 4, .inl n_ca)), (n_d, .inl (cI, 16, .inl n_lo)), (r_a, .inr (1, [.int r_th, .int r_ki, .int r_fe, .ref r_c, .ref r_d])), (r_c, .inl (cI, 4, .inl r_ca)), (r_d, .inl (cI, 16, .inl r_lo)), (c_a, .inr (2, [.int c_sz, .ref c_t, .ref c_k, .ref c_f])), (c_t, .inl (cI, 14, .inl c_st)), (c_k, .inl (cI, 14, .inl c_sk)), (c_f, .inl (cI, 14, .inl c_sf)), (s_a, .inr (2, [.int s_sz, .ref s_t, .ref s_k, .ref s_f])), (s_t, .inl (cI, 2, .inl s_st)), (s_k, .inl (cI, 2, .inl s_sk)), (s_f, .inl (cI, 2, .inl s_sf)), (k_a, .inr (0, [.ref k_f, .ref k_s])), (k_f, .inl (cI, 25, .inl k_fh)), (k_s, .inl (cI, 25, .inl k_sh))]) (h_ac, n_th, n_ki, n_fe) res := by
  intro sz
  refine k_begin (cc := cX4_again) (maxL := 2) (ret := (some .int)) (by decide) rfl (Nat.le_of_ble_eq_true rfl) ?_
  intro p e s m below meth c ls C w hl
  generalize va_A _ sz = A at w ⊢
  have w : Wd D cI cZ b0 tt A s [(h_a, .inr (4, [.ref x_a, .ref n_a, .ref r_a, .ref c_a, .ref s_a, .ref k_a, .int h_ac, .int h_ks, .int h_hc, .int h_ok, .int h_tk, .long h_se])), (x_a, .inr (3, [.ref x_l, .int x_ln])), (x_l, .inl (cI, 56, .inl x_le)), (n_a, .inr (1, [.int n_th, .int n_ki, .int n_fe, .ref n_c, .ref n_d])), (n_c, .inl (cI, 4, .inl n_ca)), (n_d, .inl (cI, 16, .inl n_lo)), (r_a, .inr (1, [.int r_th, .int r_ki, .int r_fe, .ref r_c, .ref r_d])), (r_c, .inl (cI, 4, .inl r_ca)), (r_d, .inl (cI, 16, .inl r_lo)), (c_a, .inr (2, [.int c_sz, .ref c_t, .ref c_k, .ref c_f])), (c_t, .inl (cI, 14, .inl c_st)), (c_k, .inl (cI, 14, .inl c_sk)), (c_f, .inl (cI, 14, .inl c_sf)), (s_a, .inr (2, [.int s_sz, .ref s_t, .ref s_k, .ref s_f])), (s_t, .inl (cI, 2, .inl s_st)), (s_k, .inl (cI, 2, .inl s_sk)), (s_f, .inl (cI, 2, .inl s_sf)), (k_a, .inr (0, [.ref k_f, .ref k_s])), (k_f, .inl (cI, 25, .inl k_fh)), (k_s, .inl (cI, 25, .inl k_sh))] s.heap [] := w
  have hl : lv_has ls 2 [(0, .ref h_a), (1, .int a1)] := hl
  obtain ⟨H, eH⟩ : ∃ H, H = s.heap := ⟨_, rfl⟩
  rw [← eH] at w ⊢
  generalize ([] : List Loc) = locs at w ⊢
  generalize List.toArray _ = args at C ⊢
  obtain ⟨hx, hb, hr, hml, hown, hts, hlk⟩ := id C
  have hg : ∀ w ∈ GW, w.before args s = true := fun w h => hts w (List.mem_cons_of_mem _ h)
  unfold fX4_again at hf
  refine lv_iload_n hx hb dX4_again_0 rfl (lv_at hl 1 rfl) ?_
  replace hf := ob_at hf
  obtain ⟨r1, er1, hf⟩ := hf
  refine k_goI0 w [] rfl (va_runS (As := [.int a1]) (rest := []) ⟨hx, hb, hml, hown, hg⟩ (tX4_isSlot l D cI cZ b0 tt a1 er1 H.size) (va_cwS 1 hg (gwS w_476 w_477 w_1 w_478) rfl rfl rfl qdX4_isSlot ⟨Nat.le_of_ble_eq_true rfl, Nat.le_of_ble_eq_true rfl⟩) (k_preS w [] (by decide) rfl) rfl rfl hl.1 rfl (lv_room (Nat.le_of_ble_eq_true rfl)) dX4_again_1 ⟨Nat.le_refl _, Nat.le_refl _⟩) (fun H locs w => ?_)
  refine lv_if_ne (tgt := 9) hx hb dX4_again_4 (by decide) (fun c2 => ?_) (fun c2 => ?_)
  · replace hf := ite_f c2 hf
    refine lv_aload_n hx hb dX4_again_9 rfl (lv_at hl 0 rfl) ?_
    refine va_get (D := D) (ci := 4) (v := .int h_ks) (C := RX4) (T := TX4) (N := 12) hx hb hg iX4 hown w.2.2.2.2.2.2.1 w.1 0 rfl rfl 7 (by decide) (hg _ w_92) (fun _ h9 => h9) rfl dX4_again_10 ?_
    refine lv_iload_n hx hb dX4_again_13 rfl (lv_at hl 1 rfl) ?_
    refine lv_ishr hx hb dX4_again_14 ?_
    refine lv_iconst (v := 1) hx hb dX4_again_15 (by decide) ?_
    refine lv_iand hx hb dX4_again_16 ?_
    refine lv_if_ne (tgt := 23) hx hb dX4_again_17 (by decide) (fun c3 => ?_) (fun c3 => ?_)
    · replace hf := ite_f c3 hf
      refine lv_aload_n hx hb dX4_again_23 rfl (lv_at hl 0 rfl) ?_
      refine va_get (D := D) (ci := 4) (v := .ref s_a) (C := RX4) (T := TX4) (N := 12) hx hb hg iX4 hown w.2.2.2.2.2.2.1 w.1 0 rfl rfl 4 (by decide) (hg _ w_89) (fun _ h9 => h9) rfl dX4_again_24 ?_
      refine lv_iload_n hx hb dX4_again_27 rfl (lv_at hl 1 rfl) ?_
      refine lv_aload_n hx hb dX4_again_28 rfl (lv_at hl 0 rfl) ?_
      refine va_get (D := D) (ci := 4) (v := .ref n_a) (C := RX4) (T := TX4) (N := 12) hx hb hg iX4 hown w.2.2.2.2.2.2.1 w.1 0 rfl rfl 1 (by decide) (hg _ w_86) (fun _ h9 => h9) rfl dX4_again_29 ?_
      replace hf := ob_at hf
      obtain ⟨r4, er4, hf⟩ := hf
      refine k_goV (v0 := (n_th, n_ki, n_fe)) (res := r4) w [13, 14, 15, 16, 3, 4, 5] rfl (fun _ => rfl) (va_runV (As := [.int a1, .ref n_a]) (rest := []) ⟨hx, hb, hml, hown, hg⟩ (tX2_restore l D cI cZ b0 tt 2 s_a s_t s_k s_f n_a n_c n_d s_sz s_st s_sk s_sf n_th n_ki n_fe n_ca n_lo a1 er4 H.size) (cwV 2 hg (gwV w_326 w_327 w_328 w_4 w_329) rfl rfl rfl ⟨rfl, qdX2_restore⟩ ⟨Nat.le_of_ble_eq_true rfl, Nat.le_of_ble_eq_true rfl⟩) (k_preV w [13, 14, 15, 16, 3, 4, 5] (by decide) rfl (q0 := 13) rfl rfl) rfl rfl hl.1 rfl (lv_room (Nat.le_of_ble_eq_true rfl)) dX4_again_32 ⟨Nat.le_refl _, Nat.le_refl _⟩) (fun H locs w => ?_)
      have w : Wd D cI cZ b0 tt A s [(h_a, .inr (4, [.ref x_a, .ref n_a, .ref r_a, .ref c_a, .ref s_a, .ref k_a, .int h_ac, .int h_ks, .int h_hc, .int h_ok, .int h_tk, .long h_se])), (x_a, .inr (3, [.ref x_l, .int x_ln])), (x_l, .inl (cI, 56, .inl x_le)), (n_a, .inr (1, [.int r4.1, .int r4.2.1, .int r4.2.2, .ref n_c, .ref n_d])), (n_c, .inl (cI, 4, .inl n_ca)), (n_d, .inl (cI, 16, .inl n_lo)), (r_a, .inr (1, [.int r_th, .int r_ki, .int r_fe, .ref r_c, .ref r_d])), (r_c, .inl (cI, 4, .inl r_ca)), (r_d, .inl (cI, 16, .inl r_lo)), (c_a, .inr (2, [.int c_sz, .ref c_t, .ref c_k, .ref c_f])), (c_t, .inl (cI, 14, .inl c_st)), (c_k, .inl (cI, 14, .inl c_sk)), (c_f, .inl (cI, 14, .inl c_sf)), (s_a, .inr (2, [.int s_sz, .ref s_t, .ref s_k, .ref s_f])), (s_t, .inl (cI, 2, .inl s_st)), (s_k, .inl (cI, 2, .inl s_sk)), (s_f, .inl (cI, 2, .inl s_sf)), (k_a, .inr (0, [.ref k_f, .ref k_s])), (k_f, .inl (cI, 25, .inl k_fh)), (k_s, .inl (cI, 25, .inl k_sh))] H locs := w
      refine lv_aload_n hx hb dX4_again_35 rfl (lv_at hl 0 rfl) ?_
      refine lv_iconst (v := 0) hx hb dX4_again_36 (by decide) ?_
      refine k_put (ci := 4) (v := .int 0) (ty := .int) (C := RX4) (T := TX4) (N := 12) hx hb hg iX4 tyX4 tyX4_ok nmX4 hown w 0 rfl rfl 6 (by decide) (hg _ w_91) (fun _ h9 => h9) rfl pd_I rfl rfl (Nat.le_of_ble_eq_true rfl) dX4_again_37 (fun H locs w => ?_)
      have w : Wd D cI cZ b0 tt A s [(h_a, .inr (4, [.ref x_a, .ref n_a, .ref r_a, .ref c_a, .ref s_a, .ref k_a, .int 0, .int h_ks, .int h_hc, .int h_ok, .int h_tk, .long h_se])), (x_a, .inr (3, [.ref x_l, .int x_ln])), (x_l, .inl (cI, 56, .inl x_le)), (n_a, .inr (1, [.int r4.1, .int r4.2.1, .int r4.2.2, .ref n_c, .ref n_d])), (n_c, .inl (cI, 4, .inl n_ca)), (n_d, .inl (cI, 16, .inl n_lo)), (r_a, .inr (1, [.int r_th, .int r_ki, .int r_fe, .ref r_c, .ref r_d])), (r_c, .inl (cI, 4, .inl r_ca)), (r_d, .inl (cI, 16, .inl r_lo)), (c_a, .inr (2, [.int c_sz, .ref c_t, .ref c_k, .ref c_f])), (c_t, .inl (cI, 14, .inl c_st)), (c_k, .inl (cI, 14, .inl c_sk)), (c_f, .inl (cI, 14, .inl c_sf)), (s_a, .inr (2, [.int s_sz, .ref s_t, .ref s_k, .ref s_f])), (s_t, .inl (cI, 2, .inl s_st)), (s_k, .inl (cI, 2, .inl s_sk)), (s_f, .inl (cI, 2, .inl s_sf)), (k_a, .inr (0, [.ref k_f, .ref k_s])), (k_f, .inl (cI, 25, .inl k_fh)), (k_s, .inl (cI, 25, .inl k_sh))] H locs := w
      refine lv_aload_n hx hb dX4_again_40 rfl (lv_at hl 0 rfl) ?_
      refine va_get (D := D) (ci := 4) (v := .ref n_a) (C := RX4) (T := TX4) (N := 12) hx hb hg iX4 hown w.2.2.2.2.2.2.1 w.1 0 rfl rfl 1 (by decide) (hg _ w_86) (fun _ h9 => h9) rfl dX4_again_41 ?_
      replace hf := ob_at hf
      obtain ⟨r5, er5, hf⟩ := hf
      refine k_goI0 w [3, 4, 5] rfl (va_runV (As := []) (rest := []) ⟨hx, hb, hml, hown, hg⟩ (tX1_size l D cI cZ b0 tt n_a n_c n_d r4.1 r4.2.1 r4.2.2 n_ca n_lo er5 H.size) (cwV 0 hg (gwV w_232 w_233 w_234 w_3 w_235) rfl rfl rfl ⟨rfl, qdX1_size⟩ ⟨Nat.le_of_ble_eq_true rfl, Nat.le_of_ble_eq_true rfl⟩) (k_preV w [3, 4, 5] (by decide) rfl (q0 := 3) rfl rfl) rfl rfl hl.1 rfl (lv_room (Nat.le_of_ble_eq_true rfl)) dX4_again_44 ⟨Nat.le_refl _, Nat.le_refl _⟩) (fun H locs w => ?_)
      exact k_iret (u := (0, r4.1, r4.2.1, r4.2.2)) hx hb hr hlk w rfl hf dX4_again_47
    · replace hf := ite_t c3 hf
      refine lv_bipush (v := (-3)) hx hb dX4_again_20 (by decide) ?_
      exact k_iret (u := (h_ac, n_th, n_ki, n_fe)) hx hb hr hlk w rfl hf dX4_again_22
  · replace hf := ite_t c2 hf
    refine lv_iconst (v := (-1)) hx hb dX4_again_7 (by decide) ?_
    exact k_iret (u := (h_ac, n_th, n_ki, n_fe)) hx hb hr hlk w rfl hf dX4_again_8
-- X5_in
def fX5_in  (a1 : Int64) (a2 : Int64) (a3 : Int64) : Option (Int32) := (if (lg_cmp a1 a2) < 0 then some 0 else (if 0 < (lg_cmp a1 a3) then some 0 else some 1))
set_option maxRecDepth 100000 in
set_option maxHeartbeats 4000000 in
theorem tX5_in (l : Launch) (D : va_G) (cI cZ : ClassId) (b0 : Nat) (tt : Nat → Nat)    (a1 : Int64) (a2 : Int64) (a3 : Int64) {res : Int32} (hf : fX5_in a1 a2 a3 = some res) : CtI l yX5_in (cwX5_in :: GW) 0 0 D cI cZ b0 tt [.long a1, .long a2, .long a3] (fun _ : Unit => []) () (res, ()) := by
  intro sz
  refine k_begin (cc := cX5_in) (maxL := 6) (ret := (some .boolean)) (by decide) rfl (Nat.le_of_ble_eq_true rfl) ?_
  intro p e s m below meth c ls C w hl
  generalize va_A _ sz = A at w ⊢
  have w : Wd D cI cZ b0 tt A s [] s.heap [] := w
  have hl : lv_has ls 6 [(0, .long a1), (2, .long a2), (4, .long a3)] := hl
  obtain ⟨H, eH⟩ : ∃ H, H = s.heap := ⟨_, rfl⟩
  rw [← eH] at w ⊢
  generalize ([] : List Loc) = locs at w ⊢
  generalize List.toArray _ = args at C ⊢
  obtain ⟨hx, hb, hr, hml, hown, hts, hlk⟩ := id C
  have hg : ∀ w ∈ GW, w.before args s = true := fun w h => hts w (List.mem_cons_of_mem _ h)
  unfold fX5_in at hf
  refine lv_lload_n hx hb dX5_in_0 rfl (lv_at hl 0 rfl) ?_
  refine lv_lload_n hx hb dX5_in_1 rfl (lv_at hl 1 rfl) ?_
  refine W.lcmp hx hb dX5_in_2 ?_
  refine lv_if_lt (tgt := 17) hx hb dX5_in_3 (by decide) (fun c1 => ?_) (fun c1 => ?_)
  · replace hf := ite_t c1 hf
    refine lv_iconst (v := 0) hx hb dX5_in_17 (by decide) ?_
    exact k_zret (u := ()) hx hb hr hlk w rfl rfl (k_ret1 hf) dX5_in_18
  · replace hf := ite_f c1 hf
    refine lv_lload_n hx hb dX5_in_6 rfl (lv_at hl 0 rfl) ?_
    refine lv_lload hx hb dX5_in_7 (lv_at hl 2 rfl) ?_
    refine W.lcmp hx hb dX5_in_9 ?_
    refine lv_if_gt (tgt := 17) hx hb dX5_in_10 (by decide) (fun c2 => ?_) (fun c2 => ?_)
    · replace hf := ite_t c2 hf
      refine lv_iconst (v := 0) hx hb dX5_in_17 (by decide) ?_
      exact k_zret (u := ()) hx hb hr hlk w rfl rfl (k_ret1 hf) dX5_in_18
    · replace hf := ite_f c2 hf
      refine lv_iconst (v := 1) hx hb dX5_in_13 (by decide) ?_
      refine lv_goto (tgt := 18) hx hb dX5_in_14 (by decide) ?_
      exact k_zret (u := ()) hx hb hr hlk w rfl rfl (k_ret1 hf) dX5_in_18
-- X5_has
def fX5_has  (a1 : Int32) (a2 : Int32) : Option (Int32) := (if ((a1 >>> (a2 &&& 31)) &&& (1 : Int32)) = 1 then some 1 else some 0)
set_option maxRecDepth 100000 in
set_option maxHeartbeats 4000000 in
theorem tX5_has (l : Launch) (D : va_G) (cI cZ : ClassId) (b0 : Nat) (tt : Nat → Nat)    (a1 : Int32) (a2 : Int32) {res : Int32} (hf : fX5_has a1 a2 = some res) : CtI l yX5_has (cwX5_has :: GW) 0 0 D cI cZ b0 tt [.int a1, .int a2] (fun _ : Unit => []) () (res, ()) := by
  intro sz
  refine k_begin (cc := cX5_has) (maxL := 2) (ret := (some .boolean)) (by decide) rfl (Nat.le_of_ble_eq_true rfl) ?_
  intro p e s m below meth c ls C w hl
  generalize va_A _ sz = A at w ⊢
  have w : Wd D cI cZ b0 tt A s [] s.heap [] := w
  have hl : lv_has ls 2 [(0, .int a1), (1, .int a2)] := hl
  obtain ⟨H, eH⟩ : ∃ H, H = s.heap := ⟨_, rfl⟩
  rw [← eH] at w ⊢
  generalize ([] : List Loc) = locs at w ⊢
  generalize List.toArray _ = args at C ⊢
  obtain ⟨hx, hb, hr, hml, hown, hts, hlk⟩ := id C
  have hg : ∀ w ∈ GW, w.before args s = true := fun w h => hts w (List.mem_cons_of_mem _ h)
  unfold fX5_has at hf
  refine lv_iload_n hx hb dX5_has_0 rfl (lv_at hl 0 rfl) ?_
  refine lv_iload_n hx hb dX5_has_1 rfl (lv_at hl 1 rfl) ?_
  refine lv_ishr hx hb dX5_has_2 ?_
  refine lv_iconst (v := 1) hx hb dX5_has_3 (by decide) ?_
  refine lv_iand hx hb dX5_has_4 ?_
  refine lv_iconst (v := 1) hx hb dX5_has_5 (by decide) ?_
  refine lv_icmp_ne (tgt := 13) hx hb dX5_has_6 (by decide) (fun c1 => ?_) (fun c1 => ?_)
  · replace hf := ite_f c1 hf
    refine lv_iconst (v := 0) hx hb dX5_has_13 (by decide) ?_
    exact k_zret (u := ()) hx hb hr hlk w rfl rfl (k_ret1 hf) dX5_has_14
  · replace hf := ite_t c1 hf
    refine lv_iconst (v := 1) hx hb dX5_has_9 (by decide) ?_
    refine lv_goto (tgt := 14) hx hb dX5_has_10 (by decide) ?_
    exact k_zret (u := ()) hx hb hr hlk w rfl rfl (k_ret1 hf) dX5_has_14
-- X5_many
def fX5_many_L4   (v0 : Int32) : Nat → Int32 → Int32 → Option (Int32)
  | 0, _, _ => none
  | n + 1, v1, v2 => (if 16 ≤ v2 then some v1 else nm (v1 + ((v0 >>> (v2 &&& 31)) &&& (1 : Int32))) (fun z2 => nm (v2 + 1) (fun z3 => fX5_many_L4 v0 n z2 z3)))
set_option maxRecDepth 100000 in
set_option maxHeartbeats 4000000 in
theorem tX5_many_L4 {p : Program} {l : Launch} {e : Env} {s : State} {m : MethodId} {args : Array Value} {below : List Frame} {meth : Method} {c : Code} {D : va_G} {cI cZ : ClassId} {b0 : Nat} {tt : Nat → Nat} {A : Nat → Prop}    {v0 : Int32} {res : Int32} (C : Cx p s m args meth c cX5_many 3 (some .int) (cwX5_many :: GW) RX5) : ∀ (n : Nat) (v1 : Int32) (v2 : Int32) (H : Heap) (locs : List Loc) (ls : Array Slot), fX5_many_L4 v0 n v1 v2 = some res → Wd D cI cZ b0 tt A s [] H locs → lv_has ls 3 [(0, .int v0), (1, .int v1), (2, .int v2)] → W p l e (rmo 0 0) s m args below meth c H locs 0 0 (MQ below (QI D (fun _ : Unit => []) A (res, ())) args s 0 0 A) (F0 m 4 ls []) := by
  obtain ⟨hx, hb, hr, hml, hown, hts, hlk⟩ := id C
  have hg : ∀ w ∈ GW, w.before args s = true := fun w h => hts w (List.mem_cons_of_mem _ h)
  intro n
  induction n with
  | zero =>
    intro _ _ H locs ls hf
    rw [fX5_many_L4] at hf
    cases hf
  | succ n ih =>
    intro v1 v2 H locs ls hf w hl
    rw [fX5_many_L4] at hf
    refine lv_iload_n hx hb dX5_many_4 rfl (lv_at hl 2 rfl) ?_
    refine lv_bipush (v := 16) hx hb dX5_many_5 (by decide) ?_
    refine lv_icmp_ge (tgt := 24) hx hb dX5_many_7 (by decide) (fun c1 => ?_) (fun c1 => ?_)
    · replace hf := ite_t c1 hf
      refine lv_iload_n hx hb dX5_many_24 rfl (lv_at hl 1 rfl) ?_
      exact k_iret (u := ()) hx hb hr hlk w rfl (k_ret1 hf) dX5_many_25
    · replace hf := ite_f c1 hf
      refine lv_iload_n hx hb dX5_many_10 rfl (lv_at hl 1 rfl) ?_
      refine lv_iload_n hx hb dX5_many_11 rfl (lv_at hl 0 rfl) ?_
      refine lv_iload_n hx hb dX5_many_12 rfl (lv_at hl 2 rfl) ?_
      refine lv_ishr hx hb dX5_many_13 ?_
      refine lv_iconst (v := 1) hx hb dX5_many_14 (by decide) ?_
      refine lv_iand hx hb dX5_many_15 ?_
      refine lv_iadd hx hb dX5_many_16 ?_
      refine lv_topi (fun z2 ez2 => ?_)
      replace hf := nm_at ez2 hf
      refine lv_istore_n (lv' := [(1, .int z2), (0, .int v0), (2, .int v2)]) hx hb dX5_many_17 rfl hl (by decide) rfl (fun ls hl => ?_)
      obtain ⟨z3, ez3⟩ : ∃ y : Int32, y = (v2 + 1) := ⟨_, rfl⟩
      replace hf := nm_at ez3 hf
      refine lv_iinc (v := z3) (lv' := [(2, .int z3), (1, .int z2), (0, .int v0)]) hx hb dX5_many_18 hl (k := 2) rfl (by rw [ez3]; rfl) (by decide) rfl (fun ls hl => ?_)
      refine lv_goto (tgt := 4) hx hb dX5_many_21 (by decide) ?_
      exact ih z2 z3 H locs ls hf w (lv_sub hl [2, 1, 0] rfl)
def fX5_many  (a1 : Int32) : Option (Int32) := fX5_many_L4 a1 FU 0 0
set_option maxRecDepth 100000 in
set_option maxHeartbeats 4000000 in
theorem tX5_many (l : Launch) (D : va_G) (cI cZ : ClassId) (b0 : Nat) (tt : Nat → Nat)    (a1 : Int32) {res : Int32} (hf : fX5_many a1 = some res) : CtI l yX5_many (cwX5_many :: GW) 0 0 D cI cZ b0 tt [.int a1] (fun _ : Unit => []) () (res, ()) := by
  intro sz
  refine k_begin (cc := cX5_many) (maxL := 3) (ret := (some .int)) (by decide) rfl (Nat.le_of_ble_eq_true rfl) ?_
  intro p e s m below meth c ls C w hl
  generalize va_A _ sz = A at w ⊢
  have w : Wd D cI cZ b0 tt A s [] s.heap [] := w
  have hl : lv_has ls 3 [(0, .int a1)] := hl
  obtain ⟨H, eH⟩ : ∃ H, H = s.heap := ⟨_, rfl⟩
  rw [← eH] at w ⊢
  generalize ([] : List Loc) = locs at w ⊢
  generalize List.toArray _ = args at C ⊢
  obtain ⟨hx, hb, hr, hml, hown, hts, hlk⟩ := id C
  have hg : ∀ w ∈ GW, w.before args s = true := fun w h => hts w (List.mem_cons_of_mem _ h)
  unfold fX5_many at hf
  refine lv_iconst (v := 0) hx hb dX5_many_0 (by decide) ?_
  refine lv_istore_n (lv' := [(1, .int 0), (0, .int a1)]) hx hb dX5_many_1 rfl hl (by decide) rfl (fun ls hl => ?_)
  refine lv_iconst (v := 0) hx hb dX5_many_2 (by decide) ?_
  refine lv_istore_n (lv' := [(2, .int 0), (1, .int 0), (0, .int a1)]) hx hb dX5_many_3 rfl hl (by decide) rfl (fun ls hl => ?_)
  exact tX5_many_L4 (v0 := a1) (C := C) FU 0 0 H locs ls hf w (lv_sub hl [2, 1, 0] rfl)
-- X5_power
def fX5_power_L4   (v0 : Int32) (v1 : Int32) : Nat → Int32 → Int32 → Option (Int32)
  | 0, _, _ => none
  | n + 1, v2, v3 => (if v1 ≤ v3 then some v2 else nm (v2 * v0) (fun z2 => nm (v3 + 1) (fun z3 => fX5_power_L4 v0 v1 n z2 z3)))
set_option maxRecDepth 100000 in
set_option maxHeartbeats 4000000 in
theorem tX5_power_L4 {p : Program} {l : Launch} {e : Env} {s : State} {m : MethodId} {args : Array Value} {below : List Frame} {meth : Method} {c : Code} {D : va_G} {cI cZ : ClassId} {b0 : Nat} {tt : Nat → Nat} {A : Nat → Prop}    {v0 : Int32} {v1 : Int32} {res : Int32} (C : Cx p s m args meth c cX5_power 4 (some .int) (cwX5_power :: GW) RX5) : ∀ (n : Nat) (v2 : Int32) (v3 : Int32) (H : Heap) (locs : List Loc) (ls : Array Slot), fX5_power_L4 v0 v1 n v2 v3 = some res → Wd D cI cZ b0 tt A s [] H locs → lv_has ls 4 [(0, .int v0), (1, .int v1), (2, .int v2), (3, .int v3)] → W p l e (rmo 0 0) s m args below meth c H locs 0 0 (MQ below (QI D (fun _ : Unit => []) A (res, ())) args s 0 0 A) (F0 m 4 ls []) := by
  obtain ⟨hx, hb, hr, hml, hown, hts, hlk⟩ := id C
  have hg : ∀ w ∈ GW, w.before args s = true := fun w h => hts w (List.mem_cons_of_mem _ h)
  intro n
  induction n with
  | zero =>
    intro _ _ H locs ls hf
    rw [fX5_power_L4] at hf
    cases hf
  | succ n ih =>
    intro v2 v3 H locs ls hf w hl
    rw [fX5_power_L4] at hf
    refine lv_iload_n hx hb dX5_power_4 rfl (lv_at hl 3 rfl) ?_
    refine lv_iload_n hx hb dX5_power_5 rfl (lv_at hl 1 rfl) ?_
    refine lv_icmp_ge (tgt := 19) hx hb dX5_power_6 (by decide) (fun c1 => ?_) (fun c1 => ?_)
    · replace hf := ite_t c1 hf
      refine lv_iload_n hx hb dX5_power_19 rfl (lv_at hl 2 rfl) ?_
      exact k_iret (u := ()) hx hb hr hlk w rfl (k_ret1 hf) dX5_power_20
    · replace hf := ite_f c1 hf
      refine lv_iload_n hx hb dX5_power_9 rfl (lv_at hl 2 rfl) ?_
      refine lv_iload_n hx hb dX5_power_10 rfl (lv_at hl 0 rfl) ?_
      refine lv_imul hx hb dX5_power_11 ?_
      refine lv_topi (fun z2 ez2 => ?_)
      replace hf := nm_at ez2 hf
      refine lv_istore_n (lv' := [(2, .int z2), (0, .int v0), (1, .int v1), (3, .int v3)]) hx hb dX5_power_12 rfl hl (by decide) rfl (fun ls hl => ?_)
      obtain ⟨z3, ez3⟩ : ∃ y : Int32, y = (v3 + 1) := ⟨_, rfl⟩
      replace hf := nm_at ez3 hf
      refine lv_iinc (v := z3) (lv' := [(3, .int z3), (2, .int z2), (0, .int v0), (1, .int v1)]) hx hb dX5_power_13 hl (k := 3) rfl (by rw [ez3]; rfl) (by decide) rfl (fun ls hl => ?_)
      refine lv_goto (tgt := 4) hx hb dX5_power_16 (by decide) ?_
      exact ih z2 z3 H locs ls hf w (lv_sub hl [2, 3, 1, 0] rfl)
def fX5_power  (a1 : Int32) (a2 : Int32) : Option (Int32) := fX5_power_L4 a1 a2 FU 1 0
set_option maxRecDepth 100000 in
set_option maxHeartbeats 4000000 in
theorem tX5_power (l : Launch) (D : va_G) (cI cZ : ClassId) (b0 : Nat) (tt : Nat → Nat)    (a1 : Int32) (a2 : Int32) {res : Int32} (hf : fX5_power a1 a2 = some res) : CtI l yX5_power (cwX5_power :: GW) 0 0 D cI cZ b0 tt [.int a1, .int a2] (fun _ : Unit => []) () (res, ()) := by
  intro sz
  refine k_begin (cc := cX5_power) (maxL := 4) (ret := (some .int)) (by decide) rfl (Nat.le_of_ble_eq_true rfl) ?_
  intro p e s m below meth c ls C w hl
  generalize va_A _ sz = A at w ⊢
  have w : Wd D cI cZ b0 tt A s [] s.heap [] := w
  have hl : lv_has ls 4 [(0, .int a1), (1, .int a2)] := hl
  obtain ⟨H, eH⟩ : ∃ H, H = s.heap := ⟨_, rfl⟩
  rw [← eH] at w ⊢
  generalize ([] : List Loc) = locs at w ⊢
  generalize List.toArray _ = args at C ⊢
  obtain ⟨hx, hb, hr, hml, hown, hts, hlk⟩ := id C
  have hg : ∀ w ∈ GW, w.before args s = true := fun w h => hts w (List.mem_cons_of_mem _ h)
  unfold fX5_power at hf
  refine lv_iconst (v := 1) hx hb dX5_power_0 (by decide) ?_
  refine lv_istore_n (lv' := [(2, .int 1), (0, .int a1), (1, .int a2)]) hx hb dX5_power_1 rfl hl (by decide) rfl (fun ls hl => ?_)
  refine lv_iconst (v := 0) hx hb dX5_power_2 (by decide) ?_
  refine lv_istore_n (lv' := [(3, .int 0), (2, .int 1), (0, .int a1), (1, .int a2)]) hx hb dX5_power_3 rfl hl (by decide) rfl (fun ls hl => ?_)
  exact tX5_power_L4 (v0 := a1) (v1 := a2) (C := C) FU 1 0 H locs ls hf w (lv_sub hl [2, 3, 1, 0] rfl)
-- X5_noPiece
def fX5_noPiece  (a1 : Int32) : Option (Int32) := ob (fX5_in (Int32.toInt64 a1) 0 15) (fun r1 => (if r1 = 0 then some 1 else some 0))
set_option maxRecDepth 100000 in
set_option maxHeartbeats 4000000 in
theorem tX5_noPiece (l : Launch) (D : va_G) (cI cZ : ClassId) (b0 : Nat) (tt : Nat → Nat)    (a1 : Int32) {res : Int32} (hf : fX5_noPiece a1 = some res) : CtI l yX5_noPiece (cwX5_noPiece :: GW) 1 25 D cI cZ b0 tt [.int a1] (fun _ : Unit => []) () (res, ()) := by
  intro sz
  refine k_begin (cc := cX5_noPiece) (maxL := 1) (ret := (some .boolean)) (by decide) rfl (Nat.le_of_ble_eq_true rfl) ?_
  intro p e s m below meth c ls C w hl
  generalize va_A _ sz = A at w ⊢
  have w : Wd D cI cZ b0 tt A s [] s.heap [] := w
  have hl : lv_has ls 1 [(0, .int a1)] := hl
  obtain ⟨H, eH⟩ : ∃ H, H = s.heap := ⟨_, rfl⟩
  rw [← eH] at w ⊢
  generalize ([] : List Loc) = locs at w ⊢
  generalize List.toArray _ = args at C ⊢
  obtain ⟨hx, hb, hr, hml, hown, hts, hlk⟩ := id C
  have hg : ∀ w ∈ GW, w.before args s = true := fun w h => hts w (List.mem_cons_of_mem _ h)
  unfold fX5_noPiece at hf
  refine lv_iload_n hx hb dX5_noPiece_0 rfl (lv_at hl 0 rfl) ?_
  refine lv_i2l (v := (Int32.toInt64 a1)) hx hb dX5_noPiece_1 rfl ?_
  refine lv_lconst (v := 0) hx hb dX5_noPiece_2 (by decide) ?_
  refine lv_ldc2 hx hb hown (hg _ w_624) dX5_noPiece_3 ?_
  replace hf := ob_at hf
  obtain ⟨r1, er1, hf⟩ := hf
  refine k_goI0 w [] rfl (va_runS (As := [.long (Int32.toInt64 a1), .long 0, .long 15]) (rest := []) ⟨hx, hb, hml, hown, hg⟩ (tX5_in l D cI cZ b0 tt (Int32.toInt64 a1) 0 15 er1 H.size) (va_cwS 3 hg (gwS w_574 w_575 w_7 w_576) rfl rfl rfl qdX5_in ⟨Nat.le_of_ble_eq_true rfl, Nat.le_of_ble_eq_true rfl⟩) (k_preS w [] (by decide) rfl) rfl rfl hl.1 rfl (lv_room (Nat.le_of_ble_eq_true rfl)) dX5_noPiece_6 ⟨Nat.le_refl _, Nat.le_refl _⟩) (fun H locs w => ?_)
  refine lv_if_ne (tgt := 16) hx hb dX5_noPiece_9 (by decide) (fun c2 => ?_) (fun c2 => ?_)
  · replace hf := ite_f c2 hf
    refine lv_iconst (v := 0) hx hb dX5_noPiece_16 (by decide) ?_
    exact k_zret (u := ()) hx hb hr hlk w rfl rfl (k_ret1 hf) dX5_noPiece_17
  · replace hf := ite_t c2 hf
    refine lv_iconst (v := 1) hx hb dX5_noPiece_12 (by decide) ?_
    refine lv_goto (tgt := 17) hx hb dX5_noPiece_13 (by decide) ?_
    exact k_zret (u := ()) hx hb hr hlk w rfl rfl (k_ret1 hf) dX5_noPiece_17
-- X5_noKind
def fX5_noKind  (a1 : Int32) : Option (Int32) := ob (fX5_in (Int32.toInt64 a1) 0 3) (fun r1 => (if r1 = 0 then some 1 else some 0))
set_option maxRecDepth 100000 in
set_option maxHeartbeats 4000000 in
theorem tX5_noKind (l : Launch) (D : va_G) (cI cZ : ClassId) (b0 : Nat) (tt : Nat → Nat)    (a1 : Int32) {res : Int32} (hf : fX5_noKind a1 = some res) : CtI l yX5_noKind (cwX5_noKind :: GW) 1 25 D cI cZ b0 tt [.int a1] (fun _ : Unit => []) () (res, ()) := by
  intro sz
  refine k_begin (cc := cX5_noKind) (maxL := 1) (ret := (some .boolean)) (by decide) rfl (Nat.le_of_ble_eq_true rfl) ?_
  intro p e s m below meth c ls C w hl
  generalize va_A _ sz = A at w ⊢
  have w : Wd D cI cZ b0 tt A s [] s.heap [] := w
  have hl : lv_has ls 1 [(0, .int a1)] := hl
  obtain ⟨H, eH⟩ : ∃ H, H = s.heap := ⟨_, rfl⟩
  rw [← eH] at w ⊢
  generalize ([] : List Loc) = locs at w ⊢
  generalize List.toArray _ = args at C ⊢
  obtain ⟨hx, hb, hr, hml, hown, hts, hlk⟩ := id C
  have hg : ∀ w ∈ GW, w.before args s = true := fun w h => hts w (List.mem_cons_of_mem _ h)
  unfold fX5_noKind at hf
  refine lv_iload_n hx hb dX5_noKind_0 rfl (lv_at hl 0 rfl) ?_
  refine lv_i2l (v := (Int32.toInt64 a1)) hx hb dX5_noKind_1 rfl ?_
  refine lv_lconst (v := 0) hx hb dX5_noKind_2 (by decide) ?_
  refine lv_ldc2 hx hb hown (hg _ w_679) dX5_noKind_3 ?_
  replace hf := ob_at hf
  obtain ⟨r1, er1, hf⟩ := hf
  refine k_goI0 w [] rfl (va_runS (As := [.long (Int32.toInt64 a1), .long 0, .long 3]) (rest := []) ⟨hx, hb, hml, hown, hg⟩ (tX5_in l D cI cZ b0 tt (Int32.toInt64 a1) 0 3 er1 H.size) (va_cwS 3 hg (gwS w_574 w_575 w_7 w_576) rfl rfl rfl qdX5_in ⟨Nat.le_of_ble_eq_true rfl, Nat.le_of_ble_eq_true rfl⟩) (k_preS w [] (by decide) rfl) rfl rfl hl.1 rfl (lv_room (Nat.le_of_ble_eq_true rfl)) dX5_noKind_6 ⟨Nat.le_refl _, Nat.le_refl _⟩) (fun H locs w => ?_)
  refine lv_if_ne (tgt := 16) hx hb dX5_noKind_9 (by decide) (fun c2 => ?_) (fun c2 => ?_)
  · replace hf := ite_f c2 hf
    refine lv_iconst (v := 0) hx hb dX5_noKind_16 (by decide) ?_
    exact k_zret (u := ()) hx hb hr hlk w rfl rfl (k_ret1 hf) dX5_noKind_17
  · replace hf := ite_t c2 hf
    refine lv_iconst (v := 1) hx hb dX5_noKind_12 (by decide) ?_
    refine lv_goto (tgt := 17) hx hb dX5_noKind_13 (by decide) ?_
    exact k_zret (u := ()) hx hb hr hlk w rfl rfl (k_ret1 hf) dX5_noKind_17
-- X5_level
def fX5_level  (a1 : Int32) : Option (Int32) := (if 7 ≤ a1 then (if 12 ≤ a1 then (if 15 ≤ a1 then some 3 else some 2) else some 1) else some 0)
set_option maxRecDepth 100000 in
set_option maxHeartbeats 4000000 in
theorem tX5_level (l : Launch) (D : va_G) (cI cZ : ClassId) (b0 : Nat) (tt : Nat → Nat)    (a1 : Int32) {res : Int32} (hf : fX5_level a1 = some res) : CtI l yX5_level (cwX5_level :: GW) 0 0 D cI cZ b0 tt [.int a1] (fun _ : Unit => []) () (res, ()) := by
  intro sz
  refine k_begin (cc := cX5_level) (maxL := 1) (ret := (some .int)) (by decide) rfl (Nat.le_of_ble_eq_true rfl) ?_
  intro p e s m below meth c ls C w hl
  generalize va_A _ sz = A at w ⊢
  have w : Wd D cI cZ b0 tt A s [] s.heap [] := w
  have hl : lv_has ls 1 [(0, .int a1)] := hl
  obtain ⟨H, eH⟩ : ∃ H, H = s.heap := ⟨_, rfl⟩
  rw [← eH] at w ⊢
  generalize ([] : List Loc) = locs at w ⊢
  generalize List.toArray _ = args at C ⊢
  obtain ⟨hx, hb, hr, hml, hown, hts, hlk⟩ := id C
  have hg : ∀ w ∈ GW, w.before args s = true := fun w h => hts w (List.mem_cons_of_mem _ h)
  unfold fX5_level at hf
  refine lv_iload_n hx hb dX5_level_0 rfl (lv_at hl 0 rfl) ?_
  refine lv_bipush (v := 7) hx hb dX5_level_1 (by decide) ?_
  refine lv_icmp_ge (tgt := 10) hx hb dX5_level_3 (by decide) (fun c1 => ?_) (fun c1 => ?_)
  · replace hf := ite_t c1 hf
    refine lv_iload_n hx hb dX5_level_10 rfl (lv_at hl 0 rfl) ?_
    refine lv_bipush (v := 12) hx hb dX5_level_11 (by decide) ?_
    refine lv_icmp_ge (tgt := 20) hx hb dX5_level_13 (by decide) (fun c2 => ?_) (fun c2 => ?_)
    · replace hf := ite_t c2 hf
      refine lv_iload_n hx hb dX5_level_20 rfl (lv_at hl 0 rfl) ?_
      refine lv_bipush (v := 15) hx hb dX5_level_21 (by decide) ?_
      refine lv_icmp_ge (tgt := 30) hx hb dX5_level_23 (by decide) (fun c3 => ?_) (fun c3 => ?_)
      · replace hf := ite_t c3 hf
        refine lv_iconst (v := 3) hx hb dX5_level_30 (by decide) ?_
        exact k_iret (u := ()) hx hb hr hlk w rfl (k_ret1 hf) dX5_level_31
      · replace hf := ite_f c3 hf
        refine lv_iconst (v := 2) hx hb dX5_level_26 (by decide) ?_
        refine lv_goto (tgt := 31) hx hb dX5_level_27 (by decide) ?_
        exact k_iret (u := ()) hx hb hr hlk w rfl (k_ret1 hf) dX5_level_31
    · replace hf := ite_f c2 hf
      refine lv_iconst (v := 1) hx hb dX5_level_16 (by decide) ?_
      refine lv_goto (tgt := 31) hx hb dX5_level_17 (by decide) ?_
      exact k_iret (u := ()) hx hb hr hlk w rfl (k_ret1 hf) dX5_level_31
  · replace hf := ite_f c1 hf
    refine lv_iconst (v := 0) hx hb dX5_level_6 (by decide) ?_
    refine lv_goto (tgt := 31) hx hb dX5_level_7 (by decide) ?_
    exact k_iret (u := ()) hx hb hr hlk w rfl (k_ret1 hf) dX5_level_31
-- X5_isFlat
def fX5_isFlat  (a1 : Int32) : Option (Int32) := (if a1 ≤ 3 then (if a1 = 10 then some 1 else (if a1 = 11 then some 1 else (if a1 = 14 then some 1 else some 0))) else (if a1 < 7 then some 1 else (if a1 = 10 then some 1 else (if a1 = 11 then some 1 else (if a1 = 14 then some 1 else some 0)))))
set_option maxRecDepth 100000 in
set_option maxHeartbeats 4000000 in
theorem tX5_isFlat (l : Launch) (D : va_G) (cI cZ : ClassId) (b0 : Nat) (tt : Nat → Nat)    (a1 : Int32) {res : Int32} (hf : fX5_isFlat a1 = some res) : CtI l yX5_isFlat (cwX5_isFlat :: GW) 0 0 D cI cZ b0 tt [.int a1] (fun _ : Unit => []) () (res, ()) := by
  intro sz
  refine k_begin (cc := cX5_isFlat) (maxL := 1) (ret := (some .boolean)) (by decide) rfl (Nat.le_of_ble_eq_true rfl) ?_
  intro p e s m below meth c ls C w hl
  generalize va_A _ sz = A at w ⊢
  have w : Wd D cI cZ b0 tt A s [] s.heap [] := w
  have hl : lv_has ls 1 [(0, .int a1)] := hl
  obtain ⟨H, eH⟩ : ∃ H, H = s.heap := ⟨_, rfl⟩
  rw [← eH] at w ⊢
  generalize ([] : List Loc) = locs at w ⊢
  generalize List.toArray _ = args at C ⊢
  obtain ⟨hx, hb, hr, hml, hown, hts, hlk⟩ := id C
  have hg : ∀ w ∈ GW, w.before args s = true := fun w h => hts w (List.mem_cons_of_mem _ h)
  unfold fX5_isFlat at hf
  refine lv_iload_n hx hb dX5_isFlat_0 rfl (lv_at hl 0 rfl) ?_
  refine lv_iconst (v := 3) hx hb dX5_isFlat_1 (by decide) ?_
  refine lv_icmp_le (tgt := 11) hx hb dX5_isFlat_2 (by decide) (fun c1 => ?_) (fun c1 => ?_)
  · replace hf := ite_t c1 hf
    refine lv_iload_n hx hb dX5_isFlat_11 rfl (lv_at hl 0 rfl) ?_
    refine lv_bipush (v := 10) hx hb dX5_isFlat_12 (by decide) ?_
    refine lv_icmp_eq (tgt := 29) hx hb dX5_isFlat_14 (by decide) (fun c2 => ?_) (fun c2 => ?_)
    · replace hf := ite_t c2 hf
      refine lv_iconst (v := 1) hx hb dX5_isFlat_29 (by decide) ?_
      refine lv_goto (tgt := 34) hx hb dX5_isFlat_30 (by decide) ?_
      exact k_zret (u := ()) hx hb hr hlk w rfl rfl (k_ret1 hf) dX5_isFlat_34
    · replace hf := ite_f c2 hf
      refine lv_iload_n hx hb dX5_isFlat_17 rfl (lv_at hl 0 rfl) ?_
      refine lv_bipush (v := 11) hx hb dX5_isFlat_18 (by decide) ?_
      refine lv_icmp_eq (tgt := 29) hx hb dX5_isFlat_20 (by decide) (fun c3 => ?_) (fun c3 => ?_)
      · replace hf := ite_t c3 hf
        refine lv_iconst (v := 1) hx hb dX5_isFlat_29 (by decide) ?_
        refine lv_goto (tgt := 34) hx hb dX5_isFlat_30 (by decide) ?_
        exact k_zret (u := ()) hx hb hr hlk w rfl rfl (k_ret1 hf) dX5_isFlat_34
      · replace hf := ite_f c3 hf
        refine lv_iload_n hx hb dX5_isFlat_23 rfl (lv_at hl 0 rfl) ?_
        refine lv_bipush (v := 14) hx hb dX5_isFlat_24 (by decide) ?_
        refine lv_icmp_ne (tgt := 33) hx hb dX5_isFlat_26 (by decide) (fun c4 => ?_) (fun c4 => ?_)
        · replace hf := ite_f c4 hf
          refine lv_iconst (v := 0) hx hb dX5_isFlat_33 (by decide) ?_
          exact k_zret (u := ()) hx hb hr hlk w rfl rfl (k_ret1 hf) dX5_isFlat_34
        · replace hf := ite_t c4 hf
          refine lv_iconst (v := 1) hx hb dX5_isFlat_29 (by decide) ?_
          refine lv_goto (tgt := 34) hx hb dX5_isFlat_30 (by decide) ?_
          exact k_zret (u := ()) hx hb hr hlk w rfl rfl (k_ret1 hf) dX5_isFlat_34
  · replace hf := ite_f c1 hf
    refine lv_iload_n hx hb dX5_isFlat_5 rfl (lv_at hl 0 rfl) ?_
    refine lv_bipush (v := 7) hx hb dX5_isFlat_6 (by decide) ?_
    refine lv_icmp_lt (tgt := 29) hx hb dX5_isFlat_8 (by decide) (fun c5 => ?_) (fun c5 => ?_)
    · replace hf := ite_t c5 hf
      refine lv_iconst (v := 1) hx hb dX5_isFlat_29 (by decide) ?_
      refine lv_goto (tgt := 34) hx hb dX5_isFlat_30 (by decide) ?_
      exact k_zret (u := ()) hx hb hr hlk w rfl rfl (k_ret1 hf) dX5_isFlat_34
    · replace hf := ite_f c5 hf
      refine lv_iload_n hx hb dX5_isFlat_11 rfl (lv_at hl 0 rfl) ?_
      refine lv_bipush (v := 10) hx hb dX5_isFlat_12 (by decide) ?_
      refine lv_icmp_eq (tgt := 29) hx hb dX5_isFlat_14 (by decide) (fun c6 => ?_) (fun c6 => ?_)
      · replace hf := ite_t c6 hf
        refine lv_iconst (v := 1) hx hb dX5_isFlat_29 (by decide) ?_
        refine lv_goto (tgt := 34) hx hb dX5_isFlat_30 (by decide) ?_
        exact k_zret (u := ()) hx hb hr hlk w rfl rfl (k_ret1 hf) dX5_isFlat_34
      · replace hf := ite_f c6 hf
        refine lv_iload_n hx hb dX5_isFlat_17 rfl (lv_at hl 0 rfl) ?_
        refine lv_bipush (v := 11) hx hb dX5_isFlat_18 (by decide) ?_
        refine lv_icmp_eq (tgt := 29) hx hb dX5_isFlat_20 (by decide) (fun c7 => ?_) (fun c7 => ?_)
        · replace hf := ite_t c7 hf
          refine lv_iconst (v := 1) hx hb dX5_isFlat_29 (by decide) ?_
          refine lv_goto (tgt := 34) hx hb dX5_isFlat_30 (by decide) ?_
          exact k_zret (u := ()) hx hb hr hlk w rfl rfl (k_ret1 hf) dX5_isFlat_34
        · replace hf := ite_f c7 hf
          refine lv_iload_n hx hb dX5_isFlat_23 rfl (lv_at hl 0 rfl) ?_
          refine lv_bipush (v := 14) hx hb dX5_isFlat_24 (by decide) ?_
          refine lv_icmp_ne (tgt := 33) hx hb dX5_isFlat_26 (by decide) (fun c8 => ?_) (fun c8 => ?_)
          · replace hf := ite_f c8 hf
            refine lv_iconst (v := 0) hx hb dX5_isFlat_33 (by decide) ?_
            exact k_zret (u := ()) hx hb hr hlk w rfl rfl (k_ret1 hf) dX5_isFlat_34
          · replace hf := ite_t c8 hf
            refine lv_iconst (v := 1) hx hb dX5_isFlat_29 (by decide) ?_
            refine lv_goto (tgt := 34) hx hb dX5_isFlat_30 (by decide) ?_
            exact k_zret (u := ()) hx hb hr hlk w rfl rfl (k_ret1 hf) dX5_isFlat_34
-- X5_need
def fX5_need  (a1 : Int32) : Option (Int32) := ob (fX5_isFlat a1) (fun r1 => (if r1 = 0 then some 2 else some 1))
set_option maxRecDepth 100000 in
set_option maxHeartbeats 4000000 in
theorem tX5_need (l : Launch) (D : va_G) (cI cZ : ClassId) (b0 : Nat) (tt : Nat → Nat)    (a1 : Int32) {res : Int32} (hf : fX5_need a1 = some res) : CtI l yX5_need (cwX5_need :: GW) 1 20 D cI cZ b0 tt [.int a1] (fun _ : Unit => []) () (res, ()) := by
  intro sz
  refine k_begin (cc := cX5_need) (maxL := 1) (ret := (some .int)) (by decide) rfl (Nat.le_of_ble_eq_true rfl) ?_
  intro p e s m below meth c ls C w hl
  generalize va_A _ sz = A at w ⊢
  have w : Wd D cI cZ b0 tt A s [] s.heap [] := w
  have hl : lv_has ls 1 [(0, .int a1)] := hl
  obtain ⟨H, eH⟩ : ∃ H, H = s.heap := ⟨_, rfl⟩
  rw [← eH] at w ⊢
  generalize ([] : List Loc) = locs at w ⊢
  generalize List.toArray _ = args at C ⊢
  obtain ⟨hx, hb, hr, hml, hown, hts, hlk⟩ := id C
  have hg : ∀ w ∈ GW, w.before args s = true := fun w h => hts w (List.mem_cons_of_mem _ h)
  unfold fX5_need at hf
  refine lv_iload_n hx hb dX5_need_0 rfl (lv_at hl 0 rfl) ?_
  replace hf := ob_at hf
  obtain ⟨r1, er1, hf⟩ := hf
  refine k_goI0 w [] rfl (va_runS (As := [.int a1]) (rest := []) ⟨hx, hb, hml, hown, hg⟩ (tX5_isFlat l D cI cZ b0 tt a1 er1 H.size) (va_cwS 1 hg (gwS w_618 w_619 w_7 w_620) rfl rfl rfl qdX5_isFlat ⟨Nat.le_of_ble_eq_true rfl, Nat.le_of_ble_eq_true rfl⟩) (k_preS w [] (by decide) rfl) rfl rfl hl.1 rfl (lv_room (Nat.le_of_ble_eq_true rfl)) dX5_need_1 ⟨Nat.le_refl _, Nat.le_refl _⟩) (fun H locs w => ?_)
  refine lv_if_eq (tgt := 11) hx hb dX5_need_4 (by decide) (fun c2 => ?_) (fun c2 => ?_)
  · replace hf := ite_t c2 hf
    refine lv_iconst (v := 2) hx hb dX5_need_11 (by decide) ?_
    exact k_iret (u := ()) hx hb hr hlk w rfl (k_ret1 hf) dX5_need_12
  · replace hf := ite_f c2 hf
    refine lv_iconst (v := 1) hx hb dX5_need_7 (by decide) ?_
    refine lv_goto (tgt := 12) hx hb dX5_need_8 (by decide) ?_
    exact k_iret (u := ()) hx hb hr hlk w rfl (k_ret1 hf) dX5_need_12
-- X5_below
def fX5_below  (a1 : Int32) : Option (Int32) := (if 4 ≤ a1 then (if 7 ≤ a1 then (if 10 ≤ a1 then (if 12 ≤ a1 then (if 14 ≤ a1 then (if a1 = 14 then some 12288 else some 16384) else some ((1 : Int32) <<< ((a1 - (2 : Int32)) &&& 31))) else some ((3 : Int32) <<< ((a1 - (3 : Int32)) &&& 31))) else some ((1 : Int32) <<< ((a1 - (3 : Int32)) &&& 31))) else some ((3 : Int32) <<< ((a1 - (4 : Int32)) &&& 31))) else some 0)
set_option maxRecDepth 100000 in
set_option maxHeartbeats 4000000 in
theorem tX5_below (l : Launch) (D : va_G) (cI cZ : ClassId) (b0 : Nat) (tt : Nat → Nat)    (a1 : Int32) {res : Int32} (hf : fX5_below a1 = some res) : CtI l yX5_below (cwX5_below :: GW) 0 0 D cI cZ b0 tt [.int a1] (fun _ : Unit => []) () (res, ()) := by
  intro sz
  refine k_begin (cc := cX5_below) (maxL := 1) (ret := (some .int)) (by decide) rfl (Nat.le_of_ble_eq_true rfl) ?_
  intro p e s m below meth c ls C w hl
  generalize va_A _ sz = A at w ⊢
  have w : Wd D cI cZ b0 tt A s [] s.heap [] := w
  have hl : lv_has ls 1 [(0, .int a1)] := hl
  obtain ⟨H, eH⟩ : ∃ H, H = s.heap := ⟨_, rfl⟩
  rw [← eH] at w ⊢
  generalize ([] : List Loc) = locs at w ⊢
  generalize List.toArray _ = args at C ⊢
  obtain ⟨hx, hb, hr, hml, hown, hts, hlk⟩ := id C
  have hg : ∀ w ∈ GW, w.before args s = true := fun w h => hts w (List.mem_cons_of_mem _ h)
  unfold fX5_below at hf
  refine lv_iload_n hx hb dX5_below_0 rfl (lv_at hl 0 rfl) ?_
  refine lv_iconst (v := 4) hx hb dX5_below_1 (by decide) ?_
  refine lv_icmp_ge (tgt := 7) hx hb dX5_below_2 (by decide) (fun c1 => ?_) (fun c1 => ?_)
  · replace hf := ite_t c1 hf
    refine lv_iload_n hx hb dX5_below_7 rfl (lv_at hl 0 rfl) ?_
    refine lv_bipush (v := 7) hx hb dX5_below_8 (by decide) ?_
    refine lv_icmp_ge (tgt := 19) hx hb dX5_below_10 (by decide) (fun c2 => ?_) (fun c2 => ?_)
    · replace hf := ite_t c2 hf
      refine lv_iload_n hx hb dX5_below_19 rfl (lv_at hl 0 rfl) ?_
      refine lv_bipush (v := 10) hx hb dX5_below_20 (by decide) ?_
      refine lv_icmp_ge (tgt := 31) hx hb dX5_below_22 (by decide) (fun c3 => ?_) (fun c3 => ?_)
      · replace hf := ite_t c3 hf
        refine lv_iload_n hx hb dX5_below_31 rfl (lv_at hl 0 rfl) ?_
        refine lv_bipush (v := 12) hx hb dX5_below_32 (by decide) ?_
        refine lv_icmp_ge (tgt := 43) hx hb dX5_below_34 (by decide) (fun c4 => ?_) (fun c4 => ?_)
        · replace hf := ite_t c4 hf
          refine lv_iload_n hx hb dX5_below_43 rfl (lv_at hl 0 rfl) ?_
          refine lv_bipush (v := 14) hx hb dX5_below_44 (by decide) ?_
          refine lv_icmp_ge (tgt := 57) hx hb dX5_below_46 (by decide) (fun c5 => ?_) (fun c5 => ?_)
          · replace hf := ite_t c5 hf
            refine lv_iload_n hx hb dX5_below_57 rfl (lv_at hl 0 rfl) ?_
            refine lv_bipush (v := 14) hx hb dX5_below_58 (by decide) ?_
            refine lv_icmp_ne (tgt := 69) hx hb dX5_below_60 (by decide) (fun c6 => ?_) (fun c6 => ?_)
            · replace hf := ite_f c6 hf
              refine lv_sipush (v := 16384) hx hb dX5_below_69 (by decide) ?_
              exact k_iret (u := ()) hx hb hr hlk w rfl (k_ret1 hf) dX5_below_72
            · replace hf := ite_t c6 hf
              refine lv_sipush (v := 12288) hx hb dX5_below_63 (by decide) ?_
              refine lv_goto (tgt := 72) hx hb dX5_below_66 (by decide) ?_
              exact k_iret (u := ()) hx hb hr hlk w rfl (k_ret1 hf) dX5_below_72
          · replace hf := ite_f c5 hf
            refine lv_iconst (v := 1) hx hb dX5_below_49 (by decide) ?_
            refine lv_iload_n hx hb dX5_below_50 rfl (lv_at hl 0 rfl) ?_
            refine lv_iconst (v := 2) hx hb dX5_below_51 (by decide) ?_
            refine lv_isub hx hb dX5_below_52 ?_
            refine lv_ishl hx hb dX5_below_53 ?_
            refine lv_goto (tgt := 72) hx hb dX5_below_54 (by decide) ?_
            exact k_iret (u := ()) hx hb hr hlk w rfl (k_ret1 hf) dX5_below_72
        · replace hf := ite_f c4 hf
          refine lv_iconst (v := 3) hx hb dX5_below_37 (by decide) ?_
          refine lv_iload_n hx hb dX5_below_38 rfl (lv_at hl 0 rfl) ?_
          refine lv_iconst (v := 3) hx hb dX5_below_39 (by decide) ?_
          refine lv_isub hx hb dX5_below_40 ?_
          refine lv_ishl hx hb dX5_below_41 ?_
          exact k_iret (u := ()) hx hb hr hlk w rfl (k_ret1 hf) dX5_below_42
      · replace hf := ite_f c3 hf
        refine lv_iconst (v := 1) hx hb dX5_below_25 (by decide) ?_
        refine lv_iload_n hx hb dX5_below_26 rfl (lv_at hl 0 rfl) ?_
        refine lv_iconst (v := 3) hx hb dX5_below_27 (by decide) ?_
        refine lv_isub hx hb dX5_below_28 ?_
        refine lv_ishl hx hb dX5_below_29 ?_
        exact k_iret (u := ()) hx hb hr hlk w rfl (k_ret1 hf) dX5_below_30
    · replace hf := ite_f c2 hf
      refine lv_iconst (v := 3) hx hb dX5_below_13 (by decide) ?_
      refine lv_iload_n hx hb dX5_below_14 rfl (lv_at hl 0 rfl) ?_
      refine lv_iconst (v := 4) hx hb dX5_below_15 (by decide) ?_
      refine lv_isub hx hb dX5_below_16 ?_
      refine lv_ishl hx hb dX5_below_17 ?_
      exact k_iret (u := ()) hx hb hr hlk w rfl (k_ret1 hf) dX5_below_18
  · replace hf := ite_f c1 hf
    refine lv_iconst (v := 0) hx hb dX5_below_5 (by decide) ?_
    exact k_iret (u := ()) hx hb hr hlk w rfl (k_ret1 hf) dX5_below_6
-- X5_weighs
def fX5_weighs  (a1 : Int32) (a2 : Int32) : Option (Int32) := ob (fX5_need a1) (fun r1 => (if a2 = 3 then some (r1 * (16 : Int32)) else some (r1 * (8 : Int32))))
set_option maxRecDepth 100000 in
set_option maxHeartbeats 4000000 in
theorem tX5_weighs (l : Launch) (D : va_G) (cI cZ : ClassId) (b0 : Nat) (tt : Nat → Nat)    (a1 : Int32) (a2 : Int32) {res : Int32} (hf : fX5_weighs a1 a2 = some res) : CtI l yX5_weighs (cwX5_weighs :: GW) 2 40 D cI cZ b0 tt [.int a1, .int a2] (fun _ : Unit => []) () (res, ()) := by
  intro sz
  refine k_begin (cc := cX5_weighs) (maxL := 2) (ret := (some .int)) (by decide) rfl (Nat.le_of_ble_eq_true rfl) ?_
  intro p e s m below meth c ls C w hl
  generalize va_A _ sz = A at w ⊢
  have w : Wd D cI cZ b0 tt A s [] s.heap [] := w
  have hl : lv_has ls 2 [(0, .int a1), (1, .int a2)] := hl
  obtain ⟨H, eH⟩ : ∃ H, H = s.heap := ⟨_, rfl⟩
  rw [← eH] at w ⊢
  generalize ([] : List Loc) = locs at w ⊢
  generalize List.toArray _ = args at C ⊢
  obtain ⟨hx, hb, hr, hml, hown, hts, hlk⟩ := id C
  have hg : ∀ w ∈ GW, w.before args s = true := fun w h => hts w (List.mem_cons_of_mem _ h)
  unfold fX5_weighs at hf
  refine lv_iload_n hx hb dX5_weighs_0 rfl (lv_at hl 0 rfl) ?_
  replace hf := ob_at hf
  obtain ⟨r1, er1, hf⟩ := hf
  refine k_goI0 w [] rfl (va_runS (As := [.int a1]) (rest := []) ⟨hx, hb, hml, hown, hg⟩ (tX5_need l D cI cZ b0 tt a1 er1 H.size) (va_cwS 1 hg (gwS w_615 w_616 w_7 w_617) rfl rfl rfl qdX5_need ⟨Nat.le_of_ble_eq_true rfl, Nat.le_of_ble_eq_true rfl⟩) (k_preS w [] (by decide) rfl) rfl rfl hl.1 rfl (lv_room (Nat.le_of_ble_eq_true rfl)) dX5_weighs_1 ⟨Nat.le_refl _, Nat.le_refl _⟩) (fun H locs w => ?_)
  refine lv_iload_n hx hb dX5_weighs_4 rfl (lv_at hl 1 rfl) ?_
  refine lv_iconst (v := 3) hx hb dX5_weighs_5 (by decide) ?_
  refine lv_icmp_ne (tgt := 14) hx hb dX5_weighs_6 (by decide) (fun c2 => ?_) (fun c2 => ?_)
  · replace hf := ite_f c2 hf
    refine lv_bipush (v := 8) hx hb dX5_weighs_14 (by decide) ?_
    refine lv_imul hx hb dX5_weighs_16 ?_
    exact k_iret (u := ()) hx hb hr hlk w rfl (k_ret1 hf) dX5_weighs_17
  · replace hf := ite_t c2 hf
    refine lv_bipush (v := 16) hx hb dX5_weighs_9 (by decide) ?_
    refine lv_goto (tgt := 16) hx hb dX5_weighs_11 (by decide) ?_
    refine lv_imul hx hb dX5_weighs_16 ?_
    exact k_iret (u := ()) hx hb hr hlk w rfl (k_ret1 hf) dX5_weighs_17
-- X5_bearsBy
def fX5_bearsBy  (a1 : Int32) : Option (Int32) := (if a1 = 1 then some 30 else (if a1 = 2 then some 45 else (if a1 = 3 then some 80 else some 60)))
set_option maxRecDepth 100000 in
set_option maxHeartbeats 4000000 in
theorem tX5_bearsBy (l : Launch) (D : va_G) (cI cZ : ClassId) (b0 : Nat) (tt : Nat → Nat)    (a1 : Int32) {res : Int32} (hf : fX5_bearsBy a1 = some res) : CtI l yX5_bearsBy (cwX5_bearsBy :: GW) 0 0 D cI cZ b0 tt [.int a1] (fun _ : Unit => []) () (res, ()) := by
  intro sz
  refine k_begin (cc := cX5_bearsBy) (maxL := 1) (ret := (some .int)) (by decide) rfl (Nat.le_of_ble_eq_true rfl) ?_
  intro p e s m below meth c ls C w hl
  generalize va_A _ sz = A at w ⊢
  have w : Wd D cI cZ b0 tt A s [] s.heap [] := w
  have hl : lv_has ls 1 [(0, .int a1)] := hl
  obtain ⟨H, eH⟩ : ∃ H, H = s.heap := ⟨_, rfl⟩
  rw [← eH] at w ⊢
  generalize ([] : List Loc) = locs at w ⊢
  generalize List.toArray _ = args at C ⊢
  obtain ⟨hx, hb, hr, hml, hown, hts, hlk⟩ := id C
  have hg : ∀ w ∈ GW, w.before args s = true := fun w h => hts w (List.mem_cons_of_mem _ h)
  unfold fX5_bearsBy at hf
  refine lv_iload_n hx hb dX5_bearsBy_0 rfl (lv_at hl 0 rfl) ?_
  refine lv_iconst (v := 1) hx hb dX5_bearsBy_1 (by decide) ?_
  refine lv_icmp_ne (tgt := 10) hx hb dX5_bearsBy_2 (by decide) (fun c1 => ?_) (fun c1 => ?_)
  · replace hf := ite_f c1 hf
    refine lv_iload_n hx hb dX5_bearsBy_10 rfl (lv_at hl 0 rfl) ?_
    refine lv_iconst (v := 2) hx hb dX5_bearsBy_11 (by decide) ?_
    refine lv_icmp_ne (tgt := 20) hx hb dX5_bearsBy_12 (by decide) (fun c2 => ?_) (fun c2 => ?_)
    · replace hf := ite_f c2 hf
      refine lv_iload_n hx hb dX5_bearsBy_20 rfl (lv_at hl 0 rfl) ?_
      refine lv_iconst (v := 3) hx hb dX5_bearsBy_21 (by decide) ?_
      refine lv_icmp_ne (tgt := 30) hx hb dX5_bearsBy_22 (by decide) (fun c3 => ?_) (fun c3 => ?_)
      · replace hf := ite_f c3 hf
        refine lv_bipush (v := 60) hx hb dX5_bearsBy_30 (by decide) ?_
        exact k_iret (u := ()) hx hb hr hlk w rfl (k_ret1 hf) dX5_bearsBy_32
      · replace hf := ite_t c3 hf
        refine lv_bipush (v := 80) hx hb dX5_bearsBy_25 (by decide) ?_
        refine lv_goto (tgt := 32) hx hb dX5_bearsBy_27 (by decide) ?_
        exact k_iret (u := ()) hx hb hr hlk w rfl (k_ret1 hf) dX5_bearsBy_32
    · replace hf := ite_t c2 hf
      refine lv_bipush (v := 45) hx hb dX5_bearsBy_15 (by decide) ?_
      refine lv_goto (tgt := 32) hx hb dX5_bearsBy_17 (by decide) ?_
      exact k_iret (u := ()) hx hb hr hlk w rfl (k_ret1 hf) dX5_bearsBy_32
  · replace hf := ite_t c1 hf
    refine lv_bipush (v := 30) hx hb dX5_bearsBy_5 (by decide) ?_
    refine lv_goto (tgt := 32) hx hb dX5_bearsBy_7 (by decide) ?_
    exact k_iret (u := ()) hx hb hr hlk w rfl (k_ret1 hf) dX5_bearsBy_32
-- X5_grip
def fX5_grip  (a1 : Int32) : Option (Int32) := (if a1 = 1 then some 8 else (if a1 = 2 then some (-8) else some 0))
set_option maxRecDepth 100000 in
set_option maxHeartbeats 4000000 in
theorem tX5_grip (l : Launch) (D : va_G) (cI cZ : ClassId) (b0 : Nat) (tt : Nat → Nat)    (a1 : Int32) {res : Int32} (hf : fX5_grip a1 = some res) : CtI l yX5_grip (cwX5_grip :: GW) 0 0 D cI cZ b0 tt [.int a1] (fun _ : Unit => []) () (res, ()) := by
  intro sz
  refine k_begin (cc := cX5_grip) (maxL := 1) (ret := (some .int)) (by decide) rfl (Nat.le_of_ble_eq_true rfl) ?_
  intro p e s m below meth c ls C w hl
  generalize va_A _ sz = A at w ⊢
  have w : Wd D cI cZ b0 tt A s [] s.heap [] := w
  have hl : lv_has ls 1 [(0, .int a1)] := hl
  obtain ⟨H, eH⟩ : ∃ H, H = s.heap := ⟨_, rfl⟩
  rw [← eH] at w ⊢
  generalize ([] : List Loc) = locs at w ⊢
  generalize List.toArray _ = args at C ⊢
  obtain ⟨hx, hb, hr, hml, hown, hts, hlk⟩ := id C
  have hg : ∀ w ∈ GW, w.before args s = true := fun w h => hts w (List.mem_cons_of_mem _ h)
  unfold fX5_grip at hf
  refine lv_iload_n hx hb dX5_grip_0 rfl (lv_at hl 0 rfl) ?_
  refine lv_iconst (v := 1) hx hb dX5_grip_1 (by decide) ?_
  refine lv_icmp_ne (tgt := 10) hx hb dX5_grip_2 (by decide) (fun c1 => ?_) (fun c1 => ?_)
  · replace hf := ite_f c1 hf
    refine lv_iload_n hx hb dX5_grip_10 rfl (lv_at hl 0 rfl) ?_
    refine lv_iconst (v := 2) hx hb dX5_grip_11 (by decide) ?_
    refine lv_icmp_ne (tgt := 20) hx hb dX5_grip_12 (by decide) (fun c2 => ?_) (fun c2 => ?_)
    · replace hf := ite_f c2 hf
      refine lv_iconst (v := 0) hx hb dX5_grip_20 (by decide) ?_
      exact k_iret (u := ()) hx hb hr hlk w rfl (k_ret1 hf) dX5_grip_21
    · replace hf := ite_t c2 hf
      refine lv_bipush (v := (-8)) hx hb dX5_grip_15 (by decide) ?_
      refine lv_goto (tgt := 21) hx hb dX5_grip_17 (by decide) ?_
      exact k_iret (u := ()) hx hb hr hlk w rfl (k_ret1 hf) dX5_grip_21
  · replace hf := ite_t c1 hf
    refine lv_bipush (v := 8) hx hb dX5_grip_5 (by decide) ?_
    refine lv_goto (tgt := 21) hx hb dX5_grip_7 (by decide) ?_
    exact k_iret (u := ()) hx hb hr hlk w rfl (k_ret1 hf) dX5_grip_21
-- X5_there
def fX5_there_L4   (g_h : Nat → Int32) : Nat → Int32 → Int32 → Option (Int32)
  | 0, _, _ => none
  | n + 1, v1, v2 => (if 16 ≤ v2 then some v1 else gd v2 17 ((if (g_h (Int32.toNatClampNeg v2)) ≤ 0 then nm (v1 ||| (0 : Int32)) (fun z4 => nm (v2 + 1) (fun z5 => fX5_there_L4 g_h n z4 z5)) else nm (v1 ||| ((1 : Int32) <<< (v2 &&& 31))) (fun z6 => nm (v2 + 1) (fun z7 => fX5_there_L4 g_h n z6 z7)))))
set_option maxRecDepth 100000 in
set_option maxHeartbeats 4000000 in
theorem tX5_there_L4 {p : Program} {l : Launch} {e : Env} {s : State} {m : MethodId} {args : Array Value} {below : List Frame} {meth : Method} {c : Code} {D : va_G} {cI cZ : ClassId} {b0 : Nat} {tt : Nat → Nat} {A : Nat → Prop}  {g_a : Nat}  {g_h : Nat → Int32} {res : Int32} (C : Cx p s m args meth c cX5_there 3 (some .int) (cwX5_there :: GW) RX5) : ∀ (n : Nat) (v1 : Int32) (v2 : Int32) (H : Heap) (locs : List Loc) (ls : Array Slot), fX5_there_L4 g_h n v1 v2 = some res → Wd D cI cZ b0 tt A s [(g_a, .inl (cI, 17, .inl g_h))] H locs → lv_has ls 3 [(0, .ref g_a), (1, .int v1), (2, .int v2)] → W p l e (rmo 0 0) s m args below meth c H locs 0 0 (MQ below (QI D (fun _ : Unit => [(g_a, .inl (cI, 17, .inl g_h))]) A (res, ())) args s 0 0 A) (F0 m 4 ls []) := by
  obtain ⟨hx, hb, hr, hml, hown, hts, hlk⟩ := id C
  have hg : ∀ w ∈ GW, w.before args s = true := fun w h => hts w (List.mem_cons_of_mem _ h)
  intro n
  induction n with
  | zero =>
    intro _ _ H locs ls hf
    rw [fX5_there_L4] at hf
    cases hf
  | succ n ih =>
    intro v1 v2 H locs ls hf w hl
    rw [fX5_there_L4] at hf
    refine lv_iload_n hx hb dX5_there_4 rfl (lv_at hl 2 rfl) ?_
    refine lv_bipush (v := 16) hx hb dX5_there_5 (by decide) ?_
    refine lv_icmp_ge (tgt := 32) hx hb dX5_there_7 (by decide) (fun c1 => ?_) (fun c1 => ?_)
    · replace hf := ite_t c1 hf
      refine lv_iload_n hx hb dX5_there_32 rfl (lv_at hl 1 rfl) ?_
      exact k_iret (u := ()) hx hb hr hlk w rfl (k_ret1 hf) dX5_there_33
    · replace hf := ite_f c1 hf
      refine lv_iload_n hx hb dX5_there_10 rfl (lv_at hl 1 rfl) ?_
      refine lv_aload_n hx hb dX5_there_11 rfl (lv_at hl 0 rfl) ?_
      refine lv_iload_n hx hb dX5_there_12 rfl (lv_at hl 2 rfl) ?_
      replace hf := gd_at hf
      obtain ⟨hi2, hf⟩ := hf
      refine va_iald hx hb w.2.2.2.2.2.2.1 w.1 0 0 rfl rfl hi2 dX5_there_13 ?_
      refine lv_if_le (tgt := 23) hx hb dX5_there_14 (by decide) (fun c3 => ?_) (fun c3 => ?_)
      · replace hf := ite_t c3 hf
        refine lv_iconst (v := 0) hx hb dX5_there_23 (by decide) ?_
        refine lv_ior hx hb dX5_there_24 ?_
        refine lv_topi (fun z4 ez4 => ?_)
        replace hf := nm_at ez4 hf
        refine lv_istore_n (lv' := [(1, .int z4), (0, .ref g_a), (2, .int v2)]) hx hb dX5_there_25 rfl hl (by decide) rfl (fun ls hl => ?_)
        obtain ⟨z5, ez5⟩ : ∃ y : Int32, y = (v2 + 1) := ⟨_, rfl⟩
        replace hf := nm_at ez5 hf
        refine lv_iinc (v := z5) (lv' := [(2, .int z5), (1, .int z4), (0, .ref g_a)]) hx hb dX5_there_26 hl (k := 2) rfl (by rw [ez5]; rfl) (by decide) rfl (fun ls hl => ?_)
        refine lv_goto (tgt := 4) hx hb dX5_there_29 (by decide) ?_
        exact ih z4 z5 H locs ls hf w (lv_sub hl [2, 1, 0] rfl)
      · replace hf := ite_f c3 hf
        refine lv_iconst (v := 1) hx hb dX5_there_17 (by decide) ?_
        refine lv_iload_n hx hb dX5_there_18 rfl (lv_at hl 2 rfl) ?_
        refine lv_ishl hx hb dX5_there_19 ?_
        refine lv_goto (tgt := 24) hx hb dX5_there_20 (by decide) ?_
        refine lv_ior hx hb dX5_there_24 ?_
        refine lv_topi (fun z6 ez6 => ?_)
        replace hf := nm_at ez6 hf
        refine lv_istore_n (lv' := [(1, .int z6), (0, .ref g_a), (2, .int v2)]) hx hb dX5_there_25 rfl hl (by decide) rfl (fun ls hl => ?_)
        obtain ⟨z7, ez7⟩ : ∃ y : Int32, y = (v2 + 1) := ⟨_, rfl⟩
        replace hf := nm_at ez7 hf
        refine lv_iinc (v := z7) (lv' := [(2, .int z7), (1, .int z6), (0, .ref g_a)]) hx hb dX5_there_26 hl (k := 2) rfl (by rw [ez7]; rfl) (by decide) rfl (fun ls hl => ?_)
        refine lv_goto (tgt := 4) hx hb dX5_there_29 (by decide) ?_
        exact ih z6 z7 H locs ls hf w (lv_sub hl [2, 1, 0] rfl)
def fX5_there  (g_h : Nat → Int32) : Option (Int32) := fX5_there_L4 g_h FU 0 0
set_option maxRecDepth 100000 in
set_option maxHeartbeats 4000000 in
theorem tX5_there (l : Launch) (D : va_G) (cI cZ : ClassId) (b0 : Nat) (tt : Nat → Nat)  (g_a : Nat) (g_h : Nat → Int32)  {res : Int32} (hf : fX5_there g_h = some res) : CtI l yX5_there (cwX5_there :: GW) 0 0 D cI cZ b0 tt [.ref g_a] (fun _ : Unit => [(g_a, .inl (cI, 17, .inl g_h))]) () (res, ()) := by
  intro sz
  refine k_begin (cc := cX5_there) (maxL := 3) (ret := (some .int)) (by decide) rfl (Nat.le_of_ble_eq_true rfl) ?_
  intro p e s m below meth c ls C w hl
  generalize va_A _ sz = A at w ⊢
  have w : Wd D cI cZ b0 tt A s [(g_a, .inl (cI, 17, .inl g_h))] s.heap [] := w
  have hl : lv_has ls 3 [(0, .ref g_a)] := hl
  obtain ⟨H, eH⟩ : ∃ H, H = s.heap := ⟨_, rfl⟩
  rw [← eH] at w ⊢
  generalize ([] : List Loc) = locs at w ⊢
  generalize List.toArray _ = args at C ⊢
  obtain ⟨hx, hb, hr, hml, hown, hts, hlk⟩ := id C
  have hg : ∀ w ∈ GW, w.before args s = true := fun w h => hts w (List.mem_cons_of_mem _ h)
  unfold fX5_there at hf
  refine lv_iconst (v := 0) hx hb dX5_there_0 (by decide) ?_
  refine lv_istore_n (lv' := [(1, .int 0), (0, .ref g_a)]) hx hb dX5_there_1 rfl hl (by decide) rfl (fun ls hl => ?_)
  refine lv_iconst (v := 0) hx hb dX5_there_2 (by decide) ?_
  refine lv_istore_n (lv' := [(2, .int 0), (1, .int 0), (0, .ref g_a)]) hx hb dX5_there_3 rfl hl (by decide) rfl (fun ls hl => ?_)
  exact tX5_there_L4 (g_h := g_h) (C := C) FU 0 0 H locs ls hf w (lv_sub hl [2, 1, 0] rfl)
