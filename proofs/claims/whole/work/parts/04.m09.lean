-- X4_rests
def fX4_rests_L70  (kk61 : Int32 → Int32 → Int32 → Int32 → (Nat → Int32) → (Nat → Int32) → (Nat → Int32) → (Nat → Int32) → Option (Int32 × Int32 × Int32 × Int32 × (Nat → Int32) × (Nat → Int32) × (Nat → Int32) × (Nat → Int32))) (v1 : Int32) (v2 : Int32) (v3 : Int32) (v4 : Int32) (n_th : Int32) (n_ki : Int32) (n_fe : Int32) (n_ca : Nat → Int32) : Nat → Int32 → Int32 → Int32 → Int32 → (Nat → Int32) → (Nat → Int32) → (Nat → Int32) → (Nat → Int32) → Option (Int32 × Int32 × Int32 × Int32 × (Nat → Int32) × (Nat → Int32) × (Nat → Int32) × (Nat → Int32))
  | 0, _, _, _, _, _, _, _, _ => none
  | n + 1, v5, r_th, r_ki, r_fe, r_ca, r_lo, k_fh, k_sh => (if 5 ≤ v5 then nm (v4 + 1) (fun z2 => kk61 z2 r_th r_ki r_fe r_ca r_lo k_fh k_sh) else ob (fX1_copyFrom r_th r_ki r_fe r_ca n_th n_ki n_fe n_ca) (fun r3 => ob (fX1_layIfCan r3.1 r3.2.1 r3.2.2.1 r3.2.2.2 r_lo v1 v4) (fun r4 => ob (fX1_layIfCan r4.2.1 r4.2.2.1 r4.2.2.2.1 r3.2.2.2 r4.2.2.2.2 v2 v5) (fun r5 => ob (fX4_gain r5.2.1 v1 v4) (fun r6 => ob (fX4_gain r5.2.1 v2 v5) (fun r7 => ob (fX0_note k_fh k_sh v4 v5 r6 r7) (fun r8 => nm (v5 + 1) (fun z9 => fX4_rests_L70 kk61 v1 v2 v3 v4 n_th n_ki n_fe n_ca n z9 r5.2.1 r5.2.2.1 r5.2.2.2.1 r3.2.2.2 r5.2.2.2.2 r8.1 r8.2))))))))
set_option maxRecDepth 100000 in
set_option maxHeartbeats 4000000 in
theorem tX4_rests_L70 {p : Program} {l : Launch} {e : Env} {s : State} {m : MethodId} {args : Array Value} {below : List Frame} {meth : Method} {c : Code} {D : va_G} {cI cZ : ClassId} {b0 : Nat} {tt : Nat → Nat} {A : Nat → Prop}  {h_a x_a n_a r_a c_a s_a k_a x_l n_c n_d r_c r_d c_t c_k c_f s_t s_k s_f k_f k_s : Nat} {kk61 : Int32 → Int32 → Int32 → Int32 → (Nat → Int32) → (Nat → Int32) → (Nat → Int32) → (Nat → Int32) → Option (Int32 × Int32 × Int32 × Int32 × (Nat → Int32) × (Nat → Int32) × (Nat → Int32) × (Nat → Int32))} {v1 : Int32} {v2 : Int32} {v3 : Int32} {v4 : Int32} {n_th : Int32} {n_ki : Int32} {n_fe : Int32} {n_ca : Nat → Int32} {h_ac : Int32} {h_ks : Int32} {h_hc : Int32} {h_ok : Int32} {h_tk : Int32} {h_se : Int64} {x_ln : Int32} {x_le : Nat → Int32} {n_lo : Nat → Int32} {c_sz : Int32} {c_st : Nat → Int32} {c_sk : Nat → Int32} {c_sf : Nat → Int32} {s_sz : Int32} {s_st : Nat → Int32} {s_sk : Nat → Int32} {s_sf : Nat → Int32} {res : Int32 × Int32 × Int32 × Int32 × (Nat → Int32) × (Nat → Int32) × (Nat → Int32) × (Nat → Int32)} (C : Cx p s m args meth c cX4_rests 6 (some .int) (cwX4_rests :: GW) RX4) (hK61 : ∀ (v4 : Int32) (r_th : Int32) (r_ki : Int32) (r_fe : Int32) (r_ca : Nat → Int32) (r_lo : Nat → Int32) (k_fh : Nat → Int32) (k_sh : Nat → Int32) (H : Heap) (locs : List Loc) (ls : Array Slot), kk61 v4 r_th r_ki r_fe r_ca r_lo k_fh k_sh = some res → Wd D cI cZ b0 tt A s [(h_a, .inr (4, [.ref x_a, .ref n_a, .ref r_a, .ref c_a, .ref s_a, .ref k_a, .int h_ac, .int h_ks, .int h_hc, .int h_ok, .int h_tk, .long h_se])), (x_a, .inr (3, [.ref x_l, .int x_ln])), (x_l, .inl (cI, 56, .inl x_le)), (n_a, .inr (1, [.int n_th, .int n_ki, .int n_fe, .ref n_c, .ref n_d])), (n_c, .inl (cI, 4, .inl n_ca)), (n_d, .inl (cI, 16, .inl n_lo)), (r_a, .inr (1, [.int r_th, .int r_ki, .int r_fe, .ref r_c, .ref r_d])), (r_c, .inl (cI, 4, .inl r_ca)), (r_d, .inl (cI, 16, .inl r_lo)), (c_a, .inr (2, [.int c_sz, .ref c_t, .ref c_k, .ref c_f])), (c_t, .inl (cI, 14, .inl c_st)), (c_k, .inl (cI, 14, .inl c_sk)), (c_f, .inl (cI, 14, .inl c_sf)), (s_a, .inr (2, [.int s_sz, .ref s_t, .ref s_k, .ref s_f])), (s_t, .inl (cI, 2, .inl s_st)), (s_k, .inl (cI, 2, .inl s_sk)), (s_f, .inl (cI, 2, .inl s_sf)), (k_a, .inr (0, [.ref k_f, .ref k_s])), (k_f, .inl (cI, 25, .inl k_fh)), (k_s, .inl (cI, 25, .inl k_sh))] H locs → lv_has ls 6 [(0, .ref h_a), (1, .int v1), (2, .int v2), (3, .int v3), (4, .int v4)] → W p l e (rmo 5 113) s m args below meth c H locs 0 0 (MQ below (QI D (fun u : Int32 × Int32 × Int32 × (Nat → Int32) × (Nat → Int32) × (Nat → Int32) × (Nat → Int32) => [(h_a, .inr (4, [.ref x_a, .ref n_a, .ref r_a, .ref c_a, .ref s_a, .ref k_a, .int h_ac, .int h_ks, .int h_hc, .int h_ok, .int h_tk, .long h_se])), (x_a, .inr (3, [.ref x_l, .int x_ln])), (x_l, .inl (cI, 56, .inl x_le)), (n_a, .inr (1, [.int n_th, .int n_ki, .int n_fe, .ref n_c, .ref n_d])), (n_c, .inl (cI, 4, .inl n_ca)), (n_d, .inl (cI, 16, .inl n_lo)), (r_a, .inr (1, [.int u.1, .int u.2.1, .int u.2.2.1, .ref r_c, .ref r_d])), (r_c, .inl (cI, 4, .inl u.2.2.2.1)), (r_d, .inl (cI, 16, .inl u.2.2.2.2.1)), (c_a, .inr (2, [.int c_sz, .ref c_t, .ref c_k, .ref c_f])), (c_t, .inl (cI, 14, .inl c_st)), (c_k, .inl (cI, 14, .inl c_sk)), (c_f, .inl (cI, 14, .inl c_sf)), (s_a, .inr (2, [.int s_sz, .ref s_t, .ref s_k, .ref s_f])), (s_t, .inl (cI, 2, .inl s_st)), (s_k, .inl (cI, 2, .inl s_sk)), (s_f, .inl (cI, 2, .inl s_sf)), (k_a, .inr (0, [.ref k_f, .ref k_s])), (k_f, .inl (cI, 25, .inl u.2.2.2.2.2.1)), (k_s, .inl (cI, 25, .inl u.2.2.2.2.2.2))]) A res) args s 0 0 A) (F0 m 61 ls [])) : ∀ (n : Nat) (v5 : Int32) (r_th : Int32) (r_ki : Int32) (r_fe : Int32) (r_ca : Nat → Int32) (r_lo : Nat → Int32) (k_fh : Nat → Int32) (k_sh : Nat → Int32) (H : Heap) (locs : List Loc) (ls : Array Slot), fX4_rests_L70 kk61 v1 v2 v3 v4 n_th n_ki n_fe n_ca n v5 r_th r_ki r_fe r_ca r_lo k_fh k_sh = some res → Wd D cI cZ b0 tt A s [(h_a, .inr (4, [.ref x_a, .ref n_a, .ref r_a, .ref c_a, .ref s_a, .ref k_a, .int h_ac, .int h_ks, .int h_hc, .int h_ok, .int h_tk, .long h_se])), (x_a, .inr (3, [.ref x_l, .int x_ln])), (x_l, .inl (cI, 56, .inl x_le)), (n_a, .inr (1, [.int n_th, .int n_ki, .int n_fe, .ref n_c, .ref n_d])), (n_c, .inl (cI, 4, .inl n_ca)), (n_d, .inl (cI, 16, .inl n_lo)), (r_a, .inr (1, [.int r_th, .int r_ki, .int r_fe, .ref r_c, .ref r_d])), (r_c, .inl (cI, 4, .inl r_ca)), (r_d, .inl (cI, 16, .inl r_lo)), (c_a, .inr (2, [.int c_sz, .ref c_t, .ref c_k, .ref c_f])), (c_t, .inl (cI, 14, .inl c_st)), (c_k, .inl (cI, 14, .inl c_sk)), (c_f, .inl (cI, 14, .inl c_sf)), (s_a, .inr (2, [.int s_sz, .ref s_t, .ref s_k, .ref s_f])), (s_t, .inl (cI, 2, .inl s_st)), (s_k, .inl (cI, 2, .inl s_sk)), (s_f, .inl (cI, 2, .inl s_sf)), (k_a, .inr (0, [.ref k_f, .ref k_s])), (k_f, .inl (cI, 25, .inl k_fh)), (k_s, .inl (cI, 25, .inl k_sh))] H locs → lv_has ls 6 [(0, .ref h_a), (1, .int v1), (2, .int v2), (3, .int v3), (4, .int v4), (5, .int v5)] → W p l e (rmo 5 113) s m args below meth c H locs 0 0 (MQ below (QI D (fun u : Int32 × Int32 × Int32 × (Nat → Int32) × (Nat → Int32) × (Nat → Int32) × (Nat → Int32) => [(h_a, .inr (4, [.ref x_a, .ref n_a, .ref r_a, .ref c_a, .ref s_a, .ref k_a, .int h_ac, .int h_ks, .int h_hc, .int h_ok, .int h_tk, .long h_se])), (x_a, .inr (3, [.ref x_l, .int x_ln])), (x_l, .inl (cI, 56, .inl x_le)), (n_a, .inr (1, [.int n_th, .int n_ki, .int n_fe, .ref n_c, .ref n_d])), (n_c, .inl (cI, 4, .inl n_ca)), (n_d, .inl (cI, 16, .inl n_lo)), (r_a, .inr (1, [.int u.1, .int u.2.1, .int u.2.2.1, .ref r_c, .ref r_d])), (r_c, .inl (cI, 4, .inl u.2.2.2.1)), (r_d, .inl (cI, 16, .inl u.2.2.2.2.1)), (c_a, .inr (2, [.int c_sz, .ref c_t, .ref c_k, .ref c_f])), (c_t, .inl (cI, 14, .inl c_st)), (c_k, .inl (cI, 14, .inl c_sk)), (c_f, .inl (cI, 14, .inl c_sf)), (s_a, .inr (2, [.int s_sz, .ref s_t, .ref s_k, .ref s_f])), (s_t, .inl (cI, 2, .inl s_st)), (s_k, .inl (cI, 2, .inl s_sk)), (s_f, .inl (cI, 2, .inl s_sf)), (k_a, .inr (0, [.ref k_f, .ref k_s])), (k_f, .inl (cI, 25, .inl u.2.2.2.2.2.1)), (k_s, .inl (cI, 25, .inl u.2.2.2.2.2.2))]) A res) args s 0 0 A) (F0 m 70 ls []) := by
  obtain ⟨hx, hb, hr, hml, hown, hts, hlk⟩ := id C
  have hg : ∀ w ∈ GW, w.before args s = true := fun w h => hts w (List.mem_cons_of_mem _ h)
  intro n
  induction n with
  | zero =>
    intro _ _ _ _ _ _ _ _ H locs ls hf
    rw [fX4_rests_L70] at hf
    cases hf
  | succ n ih =>
    intro v5 r_th r_ki r_fe r_ca r_lo k_fh k_sh H locs ls hf w hl
    rw [fX4_rests_L70] at hf
    refine lv_iload hx hb dX4_rests_70 (lv_at hl 5 rfl) ?_
    refine lv_iconst (v := 5) hx hb dX4_rests_72 (by decide) ?_
    refine lv_icmp_ge (tgt := 140) hx hb dX4_rests_73 (by decide) (fun c1 => ?_) (fun c1 => ?_)
    · replace hf := ite_t c1 hf
      obtain ⟨z2, ez2⟩ : ∃ y : Int32, y = (v4 + 1) := ⟨_, rfl⟩
      replace hf := nm_at ez2 hf
      refine lv_iinc (v := z2) (lv' := [(4, .int z2), (0, .ref h_a), (1, .int v1), (2, .int v2), (3, .int v3), (5, .int v5)]) hx hb dX4_rests_140 hl (k := 4) rfl (by rw [ez2]; rfl) (by decide) rfl (fun ls hl => ?_)
      refine lv_goto (tgt := 61) hx hb dX4_rests_143 (by decide) ?_
      exact hK61 z2 r_th r_ki r_fe r_ca r_lo k_fh k_sh H locs ls hf w (lv_sub hl [1, 2, 3, 4, 0] rfl)
    · replace hf := ite_f c1 hf
      refine lv_aload_n hx hb dX4_rests_76 rfl (lv_at hl 0 rfl) ?_
      refine va_get (D := D) (ci := 4) (v := .ref r_a) (C := RX4) (T := TX4) (N := 12) hx hb hg iX4 hown w.2.2.2.2.2.2.1 w.1 0 rfl rfl 2 (by decide) (hg _ w_87) (fun _ h9 => h9) rfl dX4_rests_77 ?_
      refine lv_aload_n hx hb dX4_rests_80 rfl (lv_at hl 0 rfl) ?_
      refine va_get (D := D) (ci := 4) (v := .ref n_a) (C := RX4) (T := TX4) (N := 12) hx hb hg iX4 hown w.2.2.2.2.2.2.1 w.1 0 rfl rfl 1 (by decide) (hg _ w_86) (fun _ h9 => h9) rfl dX4_rests_81 ?_
      replace hf := ob_at hf
      obtain ⟨r3, er3, hf⟩ := hf
      refine k_goV (v0 := (r_th, r_ki, r_fe, r_ca)) (res := r3) w [6, 7, 8, 3, 4, 5] rfl (fun _ => rfl) (va_runV (As := [.ref n_a]) (rest := []) ⟨hx, hb, hml, hown, hg⟩ (tX1_copyFrom l D cI cZ b0 tt r_a r_c r_d n_a n_c n_d r_th r_ki r_fe r_ca r_lo n_th n_ki n_fe n_ca n_lo er3 H.size) (cwV 1 hg (gwV w_228 w_229 w_230 w_3 w_231) rfl rfl rfl ⟨rfl, qdX1_copyFrom⟩ ⟨Nat.le_of_ble_eq_true rfl, Nat.le_of_ble_eq_true rfl⟩) (k_preV w [6, 7, 8, 3, 4, 5] (by decide) rfl (q0 := 6) rfl rfl) rfl rfl hl.1 rfl (lv_room (Nat.le_of_ble_eq_true rfl)) dX4_rests_84 ⟨Nat.le_refl _, Nat.le_refl _⟩) (fun H locs w => ?_)
      have w : Wd D cI cZ b0 tt A s [(h_a, .inr (4, [.ref x_a, .ref n_a, .ref r_a, .ref c_a, .ref s_a, .ref k_a, .int h_ac, .int h_ks, .int h_hc, .int h_ok, .int h_tk, .long h_se])), (x_a, .inr (3, [.ref x_l, .int x_ln])), (x_l, .inl (cI, 56, .inl x_le)), (n_a, .inr (1, [.int n_th, .int n_ki, .int n_fe, .ref n_c, .ref n_d])), (n_c, .inl (cI, 4, .inl n_ca)), (n_d, .inl (cI, 16, .inl n_lo)), (r_a, .inr (1, [.int r3.1, .int r3.2.1, .int r3.2.2.1, .ref r_c, .ref r_d])), (r_c, .inl (cI, 4, .inl r3.2.2.2)), (r_d, .inl (cI, 16, .inl r_lo)), (c_a, .inr (2, [.int c_sz, .ref c_t, .ref c_k, .ref c_f])), (c_t, .inl (cI, 14, .inl c_st)), (c_k, .inl (cI, 14, .inl c_sk)), (c_f, .inl (cI, 14, .inl c_sf)), (s_a, .inr (2, [.int s_sz, .ref s_t, .ref s_k, .ref s_f])), (s_t, .inl (cI, 2, .inl s_st)), (s_k, .inl (cI, 2, .inl s_sk)), (s_f, .inl (cI, 2, .inl s_sf)), (k_a, .inr (0, [.ref k_f, .ref k_s])), (k_f, .inl (cI, 25, .inl k_fh)), (k_s, .inl (cI, 25, .inl k_sh))] H locs := w
      refine lv_aload_n hx hb dX4_rests_87 rfl (lv_at hl 0 rfl) ?_
      refine va_get (D := D) (ci := 4) (v := .ref r_a) (C := RX4) (T := TX4) (N := 12) hx hb hg iX4 hown w.2.2.2.2.2.2.1 w.1 0 rfl rfl 2 (by decide) (hg _ w_87) (fun _ h9 => h9) rfl dX4_rests_88 ?_
      refine lv_iload_n hx hb dX4_rests_91 rfl (lv_at hl 1 rfl) ?_
      refine lv_iload hx hb dX4_rests_92 (lv_at hl 4 rfl) ?_
      replace hf := ob_at hf
      obtain ⟨r4, er4, hf⟩ := hf
      refine k_goI (v0 := (r3.1, r3.2.1, r3.2.2.1, r_lo)) (res := r4) w [6, 7, 8] rfl (fun _ => rfl) (va_runV (As := [.int v1, .int v4]) (rest := []) ⟨hx, hb, hml, hown, hg⟩ (tX1_layIfCan l D cI cZ b0 tt r_a r_c r_d r3.1 r3.2.1 r3.2.2.1 r3.2.2.2 r_lo v1 v4 er4 H.size) (cwV 2 hg (gwV w_373 w_374 w_375 w_3 w_376) rfl rfl rfl ⟨rfl, qdX1_layIfCan⟩ ⟨Nat.le_of_ble_eq_true rfl, Nat.le_of_ble_eq_true rfl⟩) (k_preV w [6, 7, 8] (by decide) rfl (q0 := 6) rfl rfl) rfl rfl hl.1 rfl (lv_room (Nat.le_of_ble_eq_true rfl)) dX4_rests_94 ⟨Nat.le_refl _, Nat.le_refl _⟩) (fun H locs w => ?_)
      have w : Wd D cI cZ b0 tt A s [(h_a, .inr (4, [.ref x_a, .ref n_a, .ref r_a, .ref c_a, .ref s_a, .ref k_a, .int h_ac, .int h_ks, .int h_hc, .int h_ok, .int h_tk, .long h_se])), (x_a, .inr (3, [.ref x_l, .int x_ln])), (x_l, .inl (cI, 56, .inl x_le)), (n_a, .inr (1, [.int n_th, .int n_ki, .int n_fe, .ref n_c, .ref n_d])), (n_c, .inl (cI, 4, .inl n_ca)), (n_d, .inl (cI, 16, .inl n_lo)), (r_a, .inr (1, [.int r4.2.1, .int r4.2.2.1, .int r4.2.2.2.1, .ref r_c, .ref r_d])), (r_c, .inl (cI, 4, .inl r3.2.2.2)), (r_d, .inl (cI, 16, .inl r4.2.2.2.2)), (c_a, .inr (2, [.int c_sz, .ref c_t, .ref c_k, .ref c_f])), (c_t, .inl (cI, 14, .inl c_st)), (c_k, .inl (cI, 14, .inl c_sk)), (c_f, .inl (cI, 14, .inl c_sf)), (s_a, .inr (2, [.int s_sz, .ref s_t, .ref s_k, .ref s_f])), (s_t, .inl (cI, 2, .inl s_st)), (s_k, .inl (cI, 2, .inl s_sk)), (s_f, .inl (cI, 2, .inl s_sf)), (k_a, .inr (0, [.ref k_f, .ref k_s])), (k_f, .inl (cI, 25, .inl k_fh)), (k_s, .inl (cI, 25, .inl k_sh))] H locs := w
      refine lv_pop hx hb dX4_rests_97 rfl ?_
      refine lv_aload_n hx hb dX4_rests_98 rfl (lv_at hl 0 rfl) ?_
      refine va_get (D := D) (ci := 4) (v := .ref r_a) (C := RX4) (T := TX4) (N := 12) hx hb hg iX4 hown w.2.2.2.2.2.2.1 w.1 0 rfl rfl 2 (by decide) (hg _ w_87) (fun _ h9 => h9) rfl dX4_rests_99 ?_
      refine lv_iload_n hx hb dX4_rests_102 rfl (lv_at hl 2 rfl) ?_
      refine lv_iload hx hb dX4_rests_103 (lv_at hl 5 rfl) ?_
      replace hf := ob_at hf
      obtain ⟨r5, er5, hf⟩ := hf
      refine k_goI (v0 := (r4.2.1, r4.2.2.1, r4.2.2.2.1, r4.2.2.2.2)) (res := r5) w [6, 7, 8] rfl (fun _ => rfl) (va_runV (As := [.int v2, .int v5]) (rest := []) ⟨hx, hb, hml, hown, hg⟩ (tX1_layIfCan l D cI cZ b0 tt r_a r_c r_d r4.2.1 r4.2.2.1 r4.2.2.2.1 r3.2.2.2 r4.2.2.2.2 v2 v5 er5 H.size) (cwV 2 hg (gwV w_373 w_374 w_375 w_3 w_376) rfl rfl rfl ⟨rfl, qdX1_layIfCan⟩ ⟨Nat.le_of_ble_eq_true rfl, Nat.le_of_ble_eq_true rfl⟩) (k_preV w [6, 7, 8] (by decide) rfl (q0 := 6) rfl rfl) rfl rfl hl.1 rfl (lv_room (Nat.le_of_ble_eq_true rfl)) dX4_rests_105 ⟨Nat.le_refl _, Nat.le_refl _⟩) (fun H locs w => ?_)
      have w : Wd D cI cZ b0 tt A s [(h_a, .inr (4, [.ref x_a, .ref n_a, .ref r_a, .ref c_a, .ref s_a, .ref k_a, .int h_ac, .int h_ks, .int h_hc, .int h_ok, .int h_tk, .long h_se])), (x_a, .inr (3, [.ref x_l, .int x_ln])), (x_l, .inl (cI, 56, .inl x_le)), (n_a, .inr (1, [.int n_th, .int n_ki, .int n_fe, .ref n_c, .ref n_d])), (n_c, .inl (cI, 4, .inl n_ca)), (n_d, .inl (cI, 16, .inl n_lo)), (r_a, .inr (1, [.int r5.2.1, .int r5.2.2.1, .int r5.2.2.2.1, .ref r_c, .ref r_d])), (r_c, .inl (cI, 4, .inl r3.2.2.2)), (r_d, .inl (cI, 16, .inl r5.2.2.2.2)), (c_a, .inr (2, [.int c_sz, .ref c_t, .ref c_k, .ref c_f])), (c_t, .inl (cI, 14, .inl c_st)), (c_k, .inl (cI, 14, .inl c_sk)), (c_f, .inl (cI, 14, .inl c_sf)), (s_a, .inr (2, [.int s_sz, .ref s_t, .ref s_k, .ref s_f])), (s_t, .inl (cI, 2, .inl s_st)), (s_k, .inl (cI, 2, .inl s_sk)), (s_f, .inl (cI, 2, .inl s_sf)), (k_a, .inr (0, [.ref k_f, .ref k_s])), (k_f, .inl (cI, 25, .inl k_fh)), (k_s, .inl (cI, 25, .inl k_sh))] H locs := w
      refine lv_pop hx hb dX4_rests_108 rfl ?_
      refine lv_aload_n hx hb dX4_rests_109 rfl (lv_at hl 0 rfl) ?_
      refine va_get (D := D) (ci := 4) (v := .ref k_a) (C := RX4) (T := TX4) (N := 12) hx hb hg iX4 hown w.2.2.2.2.2.2.1 w.1 0 rfl rfl 5 (by decide) (hg _ w_90) (fun _ h9 => h9) rfl dX4_rests_110 ?_
      refine lv_iload hx hb dX4_rests_113 (lv_at hl 4 rfl) ?_
      refine lv_iload hx hb dX4_rests_115 (lv_at hl 5 rfl) ?_
      refine lv_aload_n hx hb dX4_rests_117 rfl (lv_at hl 0 rfl) ?_
      refine lv_iload_n hx hb dX4_rests_118 rfl (lv_at hl 1 rfl) ?_
      refine lv_iload hx hb dX4_rests_119 (lv_at hl 4 rfl) ?_
      replace hf := ob_at hf
      obtain ⟨r6, er6, hf⟩ := hf
      refine k_goI0 w [0, 1, 2, 3, 4, 5, 6, 7, 8, 9, 10, 11, 12, 13, 14, 15, 16, 17, 18, 19] rfl (va_runV (As := [.int v1, .int v4]) (rest := [.int v5, .int v4, .ref k_a]) ⟨hx, hb, hml, hown, hg⟩ (tX4_gain l D cI cZ b0 tt h_a x_a n_a r_a c_a s_a k_a x_l n_c n_d r_c r_d c_t c_k c_f s_t s_k s_f k_f k_s h_ac h_ks h_hc h_ok h_tk h_se x_ln x_le n_th n_ki n_fe n_ca n_lo r5.2.1 r5.2.2.1 r5.2.2.2.1 r3.2.2.2 r5.2.2.2.2 c_sz c_st c_sk c_sf s_sz s_st s_sk s_sf k_fh k_sh v1 v4 er6 H.size) (cwV 2 hg (gwV w_433 w_434 w_839 w_1 w_435) rfl rfl rfl ⟨rfl, qdX4_gain⟩ ⟨Nat.le_of_ble_eq_true rfl, Nat.le_of_ble_eq_true rfl⟩) (k_preV w [0, 1, 2, 3, 4, 5, 6, 7, 8, 9, 10, 11, 12, 13, 14, 15, 16, 17, 18, 19] (by decide) rfl (q0 := 0) rfl rfl) rfl rfl hl.1 rfl (lv_room (Nat.le_of_ble_eq_true rfl)) dX4_rests_121 ⟨Nat.le_refl _, Nat.le_refl _⟩) (fun H locs w => ?_)
      refine lv_aload_n hx hb dX4_rests_124 rfl (lv_at hl 0 rfl) ?_
      refine lv_iload_n hx hb dX4_rests_125 rfl (lv_at hl 2 rfl) ?_
      refine lv_iload hx hb dX4_rests_126 (lv_at hl 5 rfl) ?_
      replace hf := ob_at hf
      obtain ⟨r7, er7, hf⟩ := hf
      refine k_goI0 w [0, 1, 2, 3, 4, 5, 6, 7, 8, 9, 10, 11, 12, 13, 14, 15, 16, 17, 18, 19] rfl (va_runV (As := [.int v2, .int v5]) (rest := [.int r6, .int v5, .int v4, .ref k_a]) ⟨hx, hb, hml, hown, hg⟩ (tX4_gain l D cI cZ b0 tt h_a x_a n_a r_a c_a s_a k_a x_l n_c n_d r_c r_d c_t c_k c_f s_t s_k s_f k_f k_s h_ac h_ks h_hc h_ok h_tk h_se x_ln x_le n_th n_ki n_fe n_ca n_lo r5.2.1 r5.2.2.1 r5.2.2.2.1 r3.2.2.2 r5.2.2.2.2 c_sz c_st c_sk c_sf s_sz s_st s_sk s_sf k_fh k_sh v2 v5 er7 H.size) (cwV 2 hg (gwV w_433 w_434 w_839 w_1 w_435) rfl rfl rfl ⟨rfl, qdX4_gain⟩ ⟨Nat.le_of_ble_eq_true rfl, Nat.le_of_ble_eq_true rfl⟩) (k_preV w [0, 1, 2, 3, 4, 5, 6, 7, 8, 9, 10, 11, 12, 13, 14, 15, 16, 17, 18, 19] (by decide) rfl (q0 := 0) rfl rfl) rfl rfl hl.1 rfl (lv_room (Nat.le_of_ble_eq_true rfl)) dX4_rests_128 ⟨Nat.le_refl _, Nat.le_refl _⟩) (fun H locs w => ?_)
      replace hf := ob_at hf
      obtain ⟨r8, er8, hf⟩ := hf
      refine k_goV (v0 := (k_fh, k_sh)) (res := r8) w [17, 18, 19] rfl (fun _ => rfl) (va_runV (As := [.int v4, .int v5, .int r6, .int r7]) (rest := []) ⟨hx, hb, hml, hown, hg⟩ (tX0_note l D cI cZ b0 tt k_a k_f k_s k_fh k_sh v4 v5 r6 r7 er8 H.size) (cwV 4 hg (gwV w_436 w_437 w_438 w_6 w_439) rfl rfl rfl ⟨rfl, qdX0_note⟩ ⟨Nat.le_of_ble_eq_true rfl, Nat.le_of_ble_eq_true rfl⟩) (k_preV w [17, 18, 19] (by decide) rfl (q0 := 17) rfl rfl) rfl rfl hl.1 rfl (lv_room (Nat.le_of_ble_eq_true rfl)) dX4_rests_131 ⟨Nat.le_refl _, Nat.le_refl _⟩) (fun H locs w => ?_)
      have w : Wd D cI cZ b0 tt A s [(h_a, .inr (4, [.ref x_a, .ref n_a, .ref r_a, .ref c_a, .ref s_a, .ref k_a, .int h_ac, .int h_ks, .int h_hc, .int h_ok, .int h_tk, .long h_se])), (x_a, .inr (3, [.ref x_l, .int x_ln])), (x_l, .inl (cI, 56, .inl x_le)), (n_a, .inr (1, [.int n_th, .int n_ki, .int n_fe, .ref n_c, .ref n_d])), (n_c, .inl (cI, 4, .inl n_ca)), (n_d, .inl (cI, 16, .inl n_lo)), (r_a, .inr (1, [.int r5.2.1, .int r5.2.2.1, .int r5.2.2.2.1, .ref r_c, .ref r_d])), (r_c, .inl (cI, 4, .inl r3.2.2.2)), (r_d, .inl (cI, 16, .inl r5.2.2.2.2)), (c_a, .inr (2, [.int c_sz, .ref c_t, .ref c_k, .ref c_f])), (c_t, .inl (cI, 14, .inl c_st)), (c_k, .inl (cI, 14, .inl c_sk)), (c_f, .inl (cI, 14, .inl c_sf)), (s_a, .inr (2, [.int s_sz, .ref s_t, .ref s_k, .ref s_f])), (s_t, .inl (cI, 2, .inl s_st)), (s_k, .inl (cI, 2, .inl s_sk)), (s_f, .inl (cI, 2, .inl s_sf)), (k_a, .inr (0, [.ref k_f, .ref k_s])), (k_f, .inl (cI, 25, .inl r8.1)), (k_s, .inl (cI, 25, .inl r8.2))] H locs := w
      obtain ⟨z9, ez9⟩ : ∃ y : Int32, y = (v5 + 1) := ⟨_, rfl⟩
      replace hf := nm_at ez9 hf
      refine lv_iinc (v := z9) (lv' := [(5, .int z9), (0, .ref h_a), (1, .int v1), (2, .int v2), (3, .int v3), (4, .int v4)]) hx hb dX4_rests_134 hl (k := 5) rfl (by rw [ez9]; rfl) (by decide) rfl (fun ls hl => ?_)
      refine lv_goto (tgt := 70) hx hb dX4_rests_137 (by decide) ?_
      exact ih z9 r5.2.1 r5.2.2.1 r5.2.2.2.1 r3.2.2.2 r5.2.2.2.2 r8.1 r8.2 H locs ls hf w (lv_sub hl [1, 2, 3, 4, 5, 0] rfl)
def fX4_rests_L61   (v1 : Int32) (v2 : Int32) (v3 : Int32) (n_th : Int32) (n_ki : Int32) (n_fe : Int32) (n_ca : Nat → Int32) : Nat → Int32 → Int32 → Int32 → Int32 → (Nat → Int32) → (Nat → Int32) → (Nat → Int32) → (Nat → Int32) → Option (Int32 × Int32 × Int32 × Int32 × (Nat → Int32) × (Nat → Int32) × (Nat → Int32) × (Nat → Int32))
  | 0, _, _, _, _, _, _, _, _ => none
  | n + 1, v4, r_th, r_ki, r_fe, r_ca, r_lo, k_fh, k_sh => (if 5 ≤ v4 then (if v3 = 0 then ob (fX0_countAtRest k_fh k_sh) (fun r13 => some (r13, (r_th, r_ki, r_fe, r_ca, r_lo, k_fh, k_sh))) else ob (fX0_firstAtRest k_fh k_sh) (fun r12 => some (r12, (r_th, r_ki, r_fe, r_ca, r_lo, k_fh, k_sh)))) else fX4_rests_L70 (fun yv4 yr_th yr_ki yr_fe yr_ca yr_lo yk_fh yk_sh => fX4_rests_L61 v1 v2 v3 n_th n_ki n_fe n_ca n yv4 yr_th yr_ki yr_fe yr_ca yr_lo yk_fh yk_sh) v1 v2 v3 v4 n_th n_ki n_fe n_ca FU 0 r_th r_ki r_fe r_ca r_lo k_fh k_sh)
set_option maxRecDepth 100000 in
set_option maxHeartbeats 4000000 in
theorem tX4_rests_L61 {p : Program} {l : Launch} {e : Env} {s : State} {m : MethodId} {args : Array Value} {below : List Frame} {meth : Method} {c : Code} {D : va_G} {cI cZ : ClassId} {b0 : Nat} {tt : Nat → Nat} {A : Nat → Prop}  {h_a x_a n_a r_a c_a s_a k_a x_l n_c n_d r_c r_d c_t c_k c_f s_t s_k s_f k_f k_s : Nat}  {v1 : Int32} {v2 : Int32} {v3 : Int32} {n_th : Int32} {n_ki : Int32} {n_fe : Int32} {n_ca : Nat → Int32} {h_ac : Int32} {h_ks : Int32} {h_hc : Int32} {h_ok : Int32} {h_tk : Int32} {h_se : Int64} {x_ln : Int32} {x_le : Nat → Int32} {n_lo : Nat → Int32} {c_sz : Int32} {c_st : Nat → Int32} {c_sk : Nat → Int32} {c_sf : Nat → Int32} {s_sz : Int32} {s_st : Nat → Int32} {s_sk : Nat → Int32} {s_sf : Nat → Int32} {res : Int32 × Int32 × Int32 × Int32 × (Nat → Int32) × (Nat → Int32) × (Nat → Int32) × (Nat → Int32)} (C : Cx p s m args meth c cX4_rests 6 (some .int) (cwX4_rests :: GW) RX4) : ∀ (n : Nat) (v4 : Int32) (r_th : Int32) (r_ki : Int32) (r_fe : Int32) (r_ca : Nat → Int32) (r_lo : Nat → Int32) (k_fh : Nat → Int32) (k_sh : Nat → Int32) (H : Heap) (locs : List Loc) (ls : Array Slot), fX4_rests_L61 v1 v2 v3 n_th n_ki n_fe n_ca n v4 r_th r_ki r_fe r_ca r_lo k_fh k_sh = some res → Wd D cI cZ b0 tt A s [(h_a, .inr (4, [.ref x_a, .ref n_a, .ref r_a, .ref c_a, .ref s_a, .ref k_a, .int h_ac, .int h_ks, .int h_hc, .int h_ok, .int h_tk, .long h_se])), (x_a, .inr (3, [.ref x_l, .int x_ln])), (x_l, .inl (cI, 56, .inl x_le)), (n_a, .inr (1, [.int n_th, .int n_ki, .int n_fe, .ref n_c, .ref n_d])), (n_c, .inl (cI, 4, .inl n_ca)), (n_d, .inl (cI, 16, .inl n_lo)), (r_a, .inr (1, [.int r_th, .int r_ki, .int r_fe, .ref r_c, .ref r_d])), (r_c, .inl (cI, 4, .inl r_ca)), (r_d, .inl (cI, 16, .inl r_lo)), (c_a, .inr (2, [.int c_sz, .ref c_t, .ref c_k, .ref c_f])), (c_t, .inl (cI, 14, .inl c_st)), (c_k, .inl (cI, 14, .inl c_sk)), (c_f, .inl (cI, 14, .inl c_sf)), (s_a, .inr (2, [.int s_sz, .ref s_t, .ref s_k, .ref s_f])), (s_t, .inl (cI, 2, .inl s_st)), (s_k, .inl (cI, 2, .inl s_sk)), (s_f, .inl (cI, 2, .inl s_sf)), (k_a, .inr (0, [.ref k_f, .ref k_s])), (k_f, .inl (cI, 25, .inl k_fh)), (k_s, .inl (cI, 25, .inl k_sh))] H locs → lv_has ls 6 [(0, .ref h_a), (1, .int v1), (2, .int v2), (3, .int v3), (4, .int v4)] → W p l e (rmo 5 113) s m args below meth c H locs 0 0 (MQ below (QI D (fun u : Int32 × Int32 × Int32 × (Nat → Int32) × (Nat → Int32) × (Nat → Int32) × (Nat → Int32) => [(h_a, .inr (4, [.ref x_a, .ref n_a, .ref r_a, .ref c_a, .ref s_a, .ref k_a, .int h_ac, .int h_ks, .int h_hc, .int h_ok, .int h_tk, .long h_se])), (x_a, .inr (3, [.ref x_l, .int x_ln])), (x_l, .inl (cI, 56, .inl x_le)), (n_a, .inr (1, [.int n_th, .int n_ki, .int n_fe, .ref n_c, .ref n_d])), (n_c, .inl (cI, 4, .inl n_ca)), (n_d, .inl (cI, 16, .inl n_lo)), (r_a, .inr (1, [.int u.1, .int u.2.1, .int u.2.2.1, .ref r_c, .ref r_d])), (r_c, .inl (cI, 4, .inl u.2.2.2.1)), (r_d, .inl (cI, 16, .inl u.2.2.2.2.1)), (c_a, .inr (2, [.int c_sz, .ref c_t, .ref c_k, .ref c_f])), (c_t, .inl (cI, 14, .inl c_st)), (c_k, .inl (cI, 14, .inl c_sk)), (c_f, .inl (cI, 14, .inl c_sf)), (s_a, .inr (2, [.int s_sz, .ref s_t, .ref s_k, .ref s_f])), (s_t, .inl (cI, 2, .inl s_st)), (s_k, .inl (cI, 2, .inl s_sk)), (s_f, .inl (cI, 2, .inl s_sf)), (k_a, .inr (0, [.ref k_f, .ref k_s])), (k_f, .inl (cI, 25, .inl u.2.2.2.2.2.1)), (k_s, .inl (cI, 25, .inl u.2.2.2.2.2.2))]) A res) args s 0 0 A) (F0 m 61 ls []) := by
  obtain ⟨hx, hb, hr, hml, hown, hts, hlk⟩ := id C
  have hg : ∀ w ∈ GW, w.before args s = true := fun w h => hts w (List.mem_cons_of_mem _ h)
  intro n
  induction n with
  | zero =>
    intro _ _ _ _ _ _ _ _ H locs ls hf
    rw [fX4_rests_L61] at hf
    cases hf
  | succ n ih =>
    intro v4 r_th r_ki r_fe r_ca r_lo k_fh k_sh H locs ls hf w hl
    rw [fX4_rests_L61] at hf
    refine lv_iload hx hb dX4_rests_61 (lv_at hl 4 rfl) ?_
    refine lv_iconst (v := 5) hx hb dX4_rests_63 (by decide) ?_
    refine lv_icmp_ge (tgt := 146) hx hb dX4_rests_64 (by decide) (fun c10 => ?_) (fun c10 => ?_)
    · replace hf := ite_t c10 hf
      refine lv_iload_n hx hb dX4_rests_146 rfl (lv_at hl 3 rfl) ?_
      refine lv_if_ne (tgt := 160) hx hb dX4_rests_147 (by decide) (fun c11 => ?_) (fun c11 => ?_)
      · replace hf := ite_f c11 hf
        refine lv_aload_n hx hb dX4_rests_160 rfl (lv_at hl 0 rfl) ?_
        refine va_get (D := D) (ci := 4) (v := .ref k_a) (C := RX4) (T := TX4) (N := 12) hx hb hg iX4 hown w.2.2.2.2.2.2.1 w.1 0 rfl rfl 5 (by decide) (hg _ w_90) (fun _ h9 => h9) rfl dX4_rests_161 ?_
        replace hf := ob_at hf
        obtain ⟨r12, er12, hf⟩ := hf
        refine k_goI0 w [17, 18, 19] rfl (va_runV (As := []) (rest := []) ⟨hx, hb, hml, hown, hg⟩ (tX0_firstAtRest l D cI cZ b0 tt k_a k_f k_s k_fh k_sh er12 H.size) (cwV 0 hg (gwV w_447 w_448 w_449 w_6 w_450) rfl rfl rfl ⟨rfl, qdX0_firstAtRest⟩ ⟨Nat.le_of_ble_eq_true rfl, Nat.le_of_ble_eq_true rfl⟩) (k_preV w [17, 18, 19] (by decide) rfl (q0 := 17) rfl rfl) rfl rfl hl.1 rfl (lv_room (Nat.le_of_ble_eq_true rfl)) dX4_rests_164 ⟨Nat.le_refl _, Nat.le_refl _⟩) (fun H locs w => ?_)
        exact k_iret (u := (r_th, r_ki, r_fe, r_ca, r_lo, k_fh, k_sh)) hx hb hr hlk w rfl hf dX4_rests_167
      · replace hf := ite_t c11 hf
        refine lv_aload_n hx hb dX4_rests_150 rfl (lv_at hl 0 rfl) ?_
        refine va_get (D := D) (ci := 4) (v := .ref k_a) (C := RX4) (T := TX4) (N := 12) hx hb hg iX4 hown w.2.2.2.2.2.2.1 w.1 0 rfl rfl 5 (by decide) (hg _ w_90) (fun _ h9 => h9) rfl dX4_rests_151 ?_
        replace hf := ob_at hf
        obtain ⟨r13, er13, hf⟩ := hf
        refine k_goI0 w [17, 18, 19] rfl (va_runV (As := []) (rest := []) ⟨hx, hb, hml, hown, hg⟩ (tX0_countAtRest l D cI cZ b0 tt k_a k_f k_s k_fh k_sh er13 H.size) (cwV 0 hg (gwV w_440 w_441 w_442 w_6 w_443) rfl rfl rfl ⟨rfl, qdX0_countAtRest⟩ ⟨Nat.le_of_ble_eq_true rfl, Nat.le_of_ble_eq_true rfl⟩) (k_preV w [17, 18, 19] (by decide) rfl (q0 := 17) rfl rfl) rfl rfl hl.1 rfl (lv_room (Nat.le_of_ble_eq_true rfl)) dX4_rests_154 ⟨Nat.le_refl _, Nat.le_refl _⟩) (fun H locs w => ?_)
        refine lv_goto (tgt := 167) hx hb dX4_rests_157 (by decide) ?_
        exact k_iret (u := (r_th, r_ki, r_fe, r_ca, r_lo, k_fh, k_sh)) hx hb hr hlk w rfl hf dX4_rests_167
    · replace hf := ite_f c10 hf
      refine lv_iconst (v := 0) hx hb dX4_rests_67 (by decide) ?_
      refine lv_istore (lv' := [(5, .int 0), (0, .ref h_a), (1, .int v1), (2, .int v2), (3, .int v3), (4, .int v4)]) hx hb dX4_rests_68 hl (by decide) rfl (fun ls hl => ?_)
      exact tX4_rests_L70 (v1 := v1) (v2 := v2) (v3 := v3) (v4 := v4) (n_th := n_th) (n_ki := n_ki) (n_fe := n_fe) (n_ca := n_ca) (h_ac := h_ac) (h_ks := h_ks) (h_hc := h_hc) (h_ok := h_ok) (h_tk := h_tk) (h_se := h_se) (x_ln := x_ln) (x_le := x_le) (n_lo := n_lo) (c_sz := c_sz) (c_st := c_st) (c_sk := c_sk) (c_sf := c_sf) (s_sz := s_sz) (s_st := s_st) (s_sk := s_sk) (s_sf := s_sf) (C := C) (hK61 := ih) FU 0 r_th r_ki r_fe r_ca r_lo k_fh k_sh H locs ls hf w (lv_sub hl [1, 2, 3, 4, 5, 0] rfl)
def fX4_rests  (n_th : Int32) (n_ki : Int32) (n_fe : Int32) (n_ca : Nat → Int32) (r_th : Int32) (r_ki : Int32) (r_fe : Int32) (r_ca : Nat → Int32) (r_lo : Nat → Int32) (k_fh : Nat → Int32) (k_sh : Nat → Int32) (a1 : Int32) (a2 : Int32) (a3 : Int32) : Option (Int32 × Int32 × Int32 × Int32 × (Nat → Int32) × (Nat → Int32) × (Nat → Int32) × (Nat → Int32)) := ob (fX4_isPiece a1) (fun r14 => (if r14 = 0 then some ((-1), (r_th, r_ki, r_fe, r_ca, r_lo, k_fh, k_sh)) else ob (fX4_isPiece a2) (fun r16 => (if r16 = 0 then some ((-1), (r_th, r_ki, r_fe, r_ca, r_lo, k_fh, k_sh)) else (if a1 = a2 then some ((-2), (r_th, r_ki, r_fe, r_ca, r_lo, k_fh, k_sh)) else (if a3 < 0 then some ((-2), (r_th, r_ki, r_fe, r_ca, r_lo, k_fh, k_sh)) else (if a3 ≤ 1 then ob (fX1_has n_th a1) (fun r21 => (if r21 = 0 then ob (fX1_has n_th a2) (fun r23 => (if r23 = 0 then fX4_rests_L61 a1 a2 a3 n_th n_ki n_fe n_ca FU 0 r_th r_ki r_fe r_ca r_lo k_fh k_sh else some ((-3), (r_th, r_ki, r_fe, r_ca, r_lo, k_fh, k_sh)))) else some ((-3), (r_th, r_ki, r_fe, r_ca, r_lo, k_fh, k_sh)))) else some ((-2), (r_th, r_ki, r_fe, r_ca, r_lo, k_fh, k_sh)))))))))
set_option maxRecDepth 100000 in
set_option maxHeartbeats 4000000 in
theorem tX4_rests (l : Launch) (D : va_G) (cI cZ : ClassId) (b0 : Nat) (tt : Nat → Nat)  (h_a x_a n_a r_a c_a s_a k_a x_l n_c n_d r_c r_d c_t c_k c_f s_t s_k s_f k_f k_s : Nat) (h_ac : Int32) (h_ks : Int32) (h_hc : Int32) (h_ok : Int32) (h_tk : Int32) (h_se : Int64) (x_ln : Int32) (x_le : Nat → Int32) (n_th : Int32) (n_ki : Int32) (n_fe : Int32) (n_ca : Nat → Int32) (n_lo : Nat → Int32) (r_th : Int32) (r_ki : Int32) (r_fe : Int32) (r_ca : Nat → Int32) (r_lo : Nat → Int32) (c_sz : Int32) (c_st : Nat → Int32) (c_sk : Nat → Int32) (c_sf : Nat → Int32) (s_sz : Int32) (s_st : Nat → Int32) (s_sk : Nat → Int32) (s_sf : Nat → Int32) (k_fh : Nat → Int32) (k_sh : Nat → Int32) (a1 : Int32) (a2 : Int32) (a3 : Int32) {res : Int32 × Int32 × Int32 × Int32 × (Nat → Int32) × (Nat → Int32) × (Nat → Int32) × (Nat → Int32)} (hf : fX4_rests n_th n_ki n_fe n_ca r_th r_ki r_fe r_ca r_lo k_fh k_sh a1 a2 a3 = some res) : CtI l yX4_rests (cwX4_rests :: GW) 5 113 D cI cZ b0 tt [.ref h_a, .int a1, .int a2, .int a3] (fun u : Int32 × Int32 × Int32 × (Nat → Int32) × (Nat → Int32) × (Nat → Int32) × (Nat → Int32) => [(h_a, .inr (4, [.ref x_a, .ref n_a, .ref r_a, .ref c_a, .ref s_a, .ref k_a, .int h_ac, .int h_ks, .int h_hc, .int h_ok, .int h_tk, .long h_se])), (x_a, .inr (3, [.ref x_l, .int x_ln])), (x_l, .inl (cI, 56, .inl x_le)), (n_a, .inr (1, [.int n_th, .int n_ki, .int n_fe, .ref n_c, .ref n_d])), (n_c, .inl (cI, 4, .inl n_ca)), (n_d, .inl (cI, 16, .inl n_lo)), (r_a, .inr (1, [.int u.1, .int u.2.1, .int u.2.2.1, .ref r_c, .ref r_d])), (r_c, .inl (cI, 4, .inl u.2.2.2.1)), (r_d, .inl (cI, 16, .inl u.2.2.2.2.1)), (c_a, .inr (2, [.int c_sz, .ref c_t, .ref c_k, .ref c_f])), (c_t, .inl (cI, 14, .inl c_st)), (c_k, .inl (cI, 14, .inl c_sk)), (c_f, .inl (cI, 14, .inl c_sf)), (s_a, .inr (2, [.int s_sz, .ref s_t, .ref s_k, .ref s_f])), (s_t, .inl (cI, 2, .inl s_st)), (s_k, .inl (cI, 2, .inl s_sk)), (s_f, .inl (cI, 2, .inl s_sf)), (k_a, .inr (0, [.ref k_f, .ref k_s])), (k_f, .inl (cI, 25, .inl u.2.2.2.2.2.1)), (k_s, .inl (cI, 25, .inl u.2.2.2.2.2.2))]) (r_th, r_ki, r_fe, r_ca, r_lo, k_fh, k_sh) res := by
  intro sz
  refine k_begin (cc := cX4_rests) (maxL := 6) (ret := (some .int)) (by decide) rfl (Nat.le_of_ble_eq_true rfl) ?_
  intro p e s m below meth c ls C w hl
  generalize va_A _ sz = A at w ⊢
  have w : Wd D cI cZ b0 tt A s [(h_a, .inr (4, [.ref x_a, .ref n_a, .ref r_a, .ref c_a, .ref s_a, .ref k_a, .int h_ac, .int h_ks, .int h_hc, .int h_ok, .int h_tk, .long h_se])), (x_a, .inr (3, [.ref x_l, .int x_ln])), (x_l, .inl (cI, 56, .inl x_le)), (n_a, .inr (1, [.int n_th, .int n_ki, .int n_fe, .ref n_c, .ref n_d])), (n_c, .inl (cI, 4, .inl n_ca)), (n_d, .inl (cI, 16, .inl n_lo)), (r_a, .inr (1, [.int r_th, .int r_ki, .int r_fe, .ref r_c, .ref r_d])), (r_c, .inl (cI, 4, .inl r_ca)), (r_d, .inl (cI, 16, .inl r_lo)), (c_a, .inr (2, [.int c_sz, .ref c_t, .ref c_k, .ref c_f])), (c_t, .inl (cI, 14, .inl c_st)), (c_k, .inl (cI, 14, .inl c_sk)), (c_f, .inl (cI, 14, .inl c_sf)), (s_a, .inr (2, [.int s_sz, .ref s_t, .ref s_k, .ref s_f])), (s_t, .inl (cI, 2, .inl s_st)), (s_k, .inl (cI, 2, .inl s_sk)), (s_f, .inl (cI, 2, .inl s_sf)), (k_a, .inr (0, [.ref k_f, .ref k_s])), (k_f, .inl (cI, 25, .inl k_fh)), (k_s, .inl (cI, 25, .inl k_sh))] s.heap [] := w
  have hl : lv_has ls 6 [(0, .ref h_a), (1, .int a1), (2, .int a2), (3, .int a3)] := hl
  obtain ⟨H, eH⟩ : ∃ H, H = s.heap := ⟨_, rfl⟩
  rw [← eH] at w ⊢
  generalize ([] : List Loc) = locs at w ⊢
  generalize List.toArray _ = args at C ⊢
  obtain ⟨hx, hb, hr, hml, hown, hts, hlk⟩ := id C
  have hg : ∀ w ∈ GW, w.before args s = true := fun w h => hts w (List.mem_cons_of_mem _ h)
  unfold fX4_rests at hf
  refine lv_iload_n hx hb dX4_rests_0 rfl (lv_at hl 1 rfl) ?_
  replace hf := ob_at hf
  obtain ⟨r14, er14, hf⟩ := hf
  refine k_goI0 w [] rfl (va_runS (As := [.int a1]) (rest := []) ⟨hx, hb, hml, hown, hg⟩ (tX4_isPiece l D cI cZ b0 tt a1 er14 H.size) (va_cwS 1 hg (gwS w_257 w_184 w_1 w_185) rfl rfl rfl qdX4_isPiece ⟨Nat.le_of_ble_eq_true rfl, Nat.le_of_ble_eq_true rfl⟩) (k_preS w [] (by decide) rfl) rfl rfl hl.1 rfl (lv_room (Nat.le_of_ble_eq_true rfl)) dX4_rests_1 ⟨Nat.le_refl _, Nat.le_refl _⟩) (fun H locs w => ?_)
  refine lv_if_eq (tgt := 14) hx hb dX4_rests_4 (by decide) (fun c15 => ?_) (fun c15 => ?_)
  · replace hf := ite_t c15 hf
    refine lv_iconst (v := (-1)) hx hb dX4_rests_14 (by decide) ?_
    exact k_iret (u := (r_th, r_ki, r_fe, r_ca, r_lo, k_fh, k_sh)) hx hb hr hlk w rfl hf dX4_rests_15
  · replace hf := ite_f c15 hf
    refine lv_iload_n hx hb dX4_rests_7 rfl (lv_at hl 2 rfl) ?_
    replace hf := ob_at hf
    obtain ⟨r16, er16, hf⟩ := hf
    refine k_goI0 w [] rfl (va_runS (As := [.int a2]) (rest := []) ⟨hx, hb, hml, hown, hg⟩ (tX4_isPiece l D cI cZ b0 tt a2 er16 H.size) (va_cwS 1 hg (gwS w_257 w_184 w_1 w_185) rfl rfl rfl qdX4_isPiece ⟨Nat.le_of_ble_eq_true rfl, Nat.le_of_ble_eq_true rfl⟩) (k_preS w [] (by decide) rfl) rfl rfl hl.1 rfl (lv_room (Nat.le_of_ble_eq_true rfl)) dX4_rests_8 ⟨Nat.le_refl _, Nat.le_refl _⟩) (fun H locs w => ?_)
    refine lv_if_ne (tgt := 16) hx hb dX4_rests_11 (by decide) (fun c17 => ?_) (fun c17 => ?_)
    · replace hf := ite_f c17 hf
      refine lv_iload_n hx hb dX4_rests_16 rfl (lv_at hl 1 rfl) ?_
      refine lv_iload_n hx hb dX4_rests_17 rfl (lv_at hl 2 rfl) ?_
      refine lv_icmp_eq (tgt := 30) hx hb dX4_rests_18 (by decide) (fun c18 => ?_) (fun c18 => ?_)
      · replace hf := ite_t c18 hf
        refine lv_bipush (v := (-2)) hx hb dX4_rests_30 (by decide) ?_
        exact k_iret (u := (r_th, r_ki, r_fe, r_ca, r_lo, k_fh, k_sh)) hx hb hr hlk w rfl hf dX4_rests_32
      · replace hf := ite_f c18 hf
        refine lv_iload_n hx hb dX4_rests_21 rfl (lv_at hl 3 rfl) ?_
        refine lv_if_lt (tgt := 30) hx hb dX4_rests_22 (by decide) (fun c19 => ?_) (fun c19 => ?_)
        · replace hf := ite_t c19 hf
          refine lv_bipush (v := (-2)) hx hb dX4_rests_30 (by decide) ?_
          exact k_iret (u := (r_th, r_ki, r_fe, r_ca, r_lo, k_fh, k_sh)) hx hb hr hlk w rfl hf dX4_rests_32
        · replace hf := ite_f c19 hf
          refine lv_iload_n hx hb dX4_rests_25 rfl (lv_at hl 3 rfl) ?_
          refine lv_iconst (v := 1) hx hb dX4_rests_26 (by decide) ?_
          refine lv_icmp_le (tgt := 33) hx hb dX4_rests_27 (by decide) (fun c20 => ?_) (fun c20 => ?_)
          · replace hf := ite_t c20 hf
            refine lv_aload_n hx hb dX4_rests_33 rfl (lv_at hl 0 rfl) ?_
            refine va_get (D := D) (ci := 4) (v := .ref n_a) (C := RX4) (T := TX4) (N := 12) hx hb hg iX4 hown w.2.2.2.2.2.2.1 w.1 0 rfl rfl 1 (by decide) (hg _ w_86) (fun _ h9 => h9) rfl dX4_rests_34 ?_
            refine lv_iload_n hx hb dX4_rests_37 rfl (lv_at hl 1 rfl) ?_
            replace hf := ob_at hf
            obtain ⟨r21, er21, hf⟩ := hf
            refine k_goI0 w [3, 4, 5] rfl (va_runV (As := [.int a1]) (rest := []) ⟨hx, hb, hml, hown, hg⟩ (tX1_has l D cI cZ b0 tt n_a n_c n_d n_th n_ki n_fe n_ca n_lo a1 er21 H.size) (cwV 1 hg (gwV w_258 w_166 w_167 w_3 w_168) rfl rfl rfl ⟨rfl, qdX1_has⟩ ⟨Nat.le_of_ble_eq_true rfl, Nat.le_of_ble_eq_true rfl⟩) (k_preV w [3, 4, 5] (by decide) rfl (q0 := 3) rfl rfl) rfl rfl hl.1 rfl (lv_room (Nat.le_of_ble_eq_true rfl)) dX4_rests_38 ⟨Nat.le_refl _, Nat.le_refl _⟩) (fun H locs w => ?_)
            refine lv_if_ne (tgt := 55) hx hb dX4_rests_41 (by decide) (fun c22 => ?_) (fun c22 => ?_)
            · replace hf := ite_f c22 hf
              refine lv_bipush (v := (-3)) hx hb dX4_rests_55 (by decide) ?_
              exact k_iret (u := (r_th, r_ki, r_fe, r_ca, r_lo, k_fh, k_sh)) hx hb hr hlk w rfl hf dX4_rests_57
            · replace hf := ite_t c22 hf
              refine lv_aload_n hx hb dX4_rests_44 rfl (lv_at hl 0 rfl) ?_
              refine va_get (D := D) (ci := 4) (v := .ref n_a) (C := RX4) (T := TX4) (N := 12) hx hb hg iX4 hown w.2.2.2.2.2.2.1 w.1 0 rfl rfl 1 (by decide) (hg _ w_86) (fun _ h9 => h9) rfl dX4_rests_45 ?_
              refine lv_iload_n hx hb dX4_rests_48 rfl (lv_at hl 2 rfl) ?_
              replace hf := ob_at hf
              obtain ⟨r23, er23, hf⟩ := hf
              refine k_goI0 w [3, 4, 5] rfl (va_runV (As := [.int a2]) (rest := []) ⟨hx, hb, hml, hown, hg⟩ (tX1_has l D cI cZ b0 tt n_a n_c n_d n_th n_ki n_fe n_ca n_lo a2 er23 H.size) (cwV 1 hg (gwV w_258 w_166 w_167 w_3 w_168) rfl rfl rfl ⟨rfl, qdX1_has⟩ ⟨Nat.le_of_ble_eq_true rfl, Nat.le_of_ble_eq_true rfl⟩) (k_preV w [3, 4, 5] (by decide) rfl (q0 := 3) rfl rfl) rfl rfl hl.1 rfl (lv_room (Nat.le_of_ble_eq_true rfl)) dX4_rests_49 ⟨Nat.le_refl _, Nat.le_refl _⟩) (fun H locs w => ?_)
              refine lv_if_eq (tgt := 58) hx hb dX4_rests_52 (by decide) (fun c24 => ?_) (fun c24 => ?_)
              · replace hf := ite_t c24 hf
                refine lv_iconst (v := 0) hx hb dX4_rests_58 (by decide) ?_
                refine lv_istore (lv' := [(4, .int 0), (0, .ref h_a), (1, .int a1), (2, .int a2), (3, .int a3)]) hx hb dX4_rests_59 hl (by decide) rfl (fun ls hl => ?_)
                exact tX4_rests_L61 (v1 := a1) (v2 := a2) (v3 := a3) (n_th := n_th) (n_ki := n_ki) (n_fe := n_fe) (n_ca := n_ca) (h_ac := h_ac) (h_ks := h_ks) (h_hc := h_hc) (h_ok := h_ok) (h_tk := h_tk) (h_se := h_se) (x_ln := x_ln) (x_le := x_le) (n_lo := n_lo) (c_sz := c_sz) (c_st := c_st) (c_sk := c_sk) (c_sf := c_sf) (s_sz := s_sz) (s_st := s_st) (s_sk := s_sk) (s_sf := s_sf) (C := C) FU 0 r_th r_ki r_fe r_ca r_lo k_fh k_sh H locs ls hf w (lv_sub hl [1, 2, 3, 4, 0] rfl)
              · replace hf := ite_f c24 hf
                refine lv_bipush (v := (-3)) hx hb dX4_rests_55 (by decide) ?_
                exact k_iret (u := (r_th, r_ki, r_fe, r_ca, r_lo, k_fh, k_sh)) hx hb hr hlk w rfl hf dX4_rests_57
          · replace hf := ite_f c20 hf
            refine lv_bipush (v := (-2)) hx hb dX4_rests_30 (by decide) ?_
            exact k_iret (u := (r_th, r_ki, r_fe, r_ca, r_lo, k_fh, k_sh)) hx hb hr hlk w rfl hf dX4_rests_32
    · replace hf := ite_t c17 hf
      refine lv_iconst (v := (-1)) hx hb dX4_rests_14 (by decide) ?_
      exact k_iret (u := (r_th, r_ki, r_fe, r_ca, r_lo, k_fh, k_sh)) hx hb hr hlk w rfl hf dX4_rests_15
-- X4_power
def fX4_power_L4   (v0 : Int32) (v1 : Int32) : Nat → Int32 → Int32 → Option (Int32)
  | 0, _, _ => none
  | n + 1, v2, v3 => (if v1 ≤ v3 then some v2 else nm (v2 * v0) (fun z2 => nm (v3 + 1) (fun z3 => fX4_power_L4 v0 v1 n z2 z3)))
set_option maxRecDepth 100000 in
set_option maxHeartbeats 4000000 in
theorem tX4_power_L4 {p : Program} {l : Launch} {e : Env} {s : State} {m : MethodId} {args : Array Value} {below : List Frame} {meth : Method} {c : Code} {D : va_G} {cI cZ : ClassId} {b0 : Nat} {tt : Nat → Nat} {A : Nat → Prop}    {v0 : Int32} {v1 : Int32} {res : Int32} (C : Cx p s m args meth c cX4_power 4 (some .int) (cwX4_power :: GW) RX4) : ∀ (n : Nat) (v2 : Int32) (v3 : Int32) (H : Heap) (locs : List Loc) (ls : Array Slot), fX4_power_L4 v0 v1 n v2 v3 = some res → Wd D cI cZ b0 tt A s [] H locs → lv_has ls 4 [(0, .int v0), (1, .int v1), (2, .int v2), (3, .int v3)] → W p l e (rmo 0 0) s m args below meth c H locs 0 0 (MQ below (QI D (fun _ : Unit => []) A (res, ())) args s 0 0 A) (F0 m 4 ls []) := by
  obtain ⟨hx, hb, hr, hml, hown, hts, hlk⟩ := id C
  have hg : ∀ w ∈ GW, w.before args s = true := fun w h => hts w (List.mem_cons_of_mem _ h)
  intro n
  induction n with
  | zero =>
    intro _ _ H locs ls hf
    rw [fX4_power_L4] at hf
    cases hf
  | succ n ih =>
    intro v2 v3 H locs ls hf w hl
    rw [fX4_power_L4] at hf
    refine lv_iload_n hx hb dX4_power_4 rfl (lv_at hl 3 rfl) ?_
    refine lv_iload_n hx hb dX4_power_5 rfl (lv_at hl 1 rfl) ?_
    refine lv_icmp_ge (tgt := 19) hx hb dX4_power_6 (by decide) (fun c1 => ?_) (fun c1 => ?_)
    · replace hf := ite_t c1 hf
      refine lv_iload_n hx hb dX4_power_19 rfl (lv_at hl 2 rfl) ?_
      exact k_iret (u := ()) hx hb hr hlk w rfl (k_ret1 hf) dX4_power_20
    · replace hf := ite_f c1 hf
      refine lv_iload_n hx hb dX4_power_9 rfl (lv_at hl 2 rfl) ?_
      refine lv_iload_n hx hb dX4_power_10 rfl (lv_at hl 0 rfl) ?_
      refine lv_imul hx hb dX4_power_11 ?_
      refine lv_topi (fun z2 ez2 => ?_)
      replace hf := nm_at ez2 hf
      refine lv_istore_n (lv' := [(2, .int z2), (0, .int v0), (1, .int v1), (3, .int v3)]) hx hb dX4_power_12 rfl hl (by decide) rfl (fun ls hl => ?_)
      obtain ⟨z3, ez3⟩ : ∃ y : Int32, y = (v3 + 1) := ⟨_, rfl⟩
      replace hf := nm_at ez3 hf
      refine lv_iinc (v := z3) (lv' := [(3, .int z3), (2, .int z2), (0, .int v0), (1, .int v1)]) hx hb dX4_power_13 hl (k := 3) rfl (by rw [ez3]; rfl) (by decide) rfl (fun ls hl => ?_)
      refine lv_goto (tgt := 4) hx hb dX4_power_16 (by decide) ?_
      exact ih z2 z3 H locs ls hf w (lv_sub hl [2, 3, 1, 0] rfl)
def fX4_power  (a1 : Int32) (a2 : Int32) : Option (Int32) := fX4_power_L4 a1 a2 FU 1 0
set_option maxRecDepth 100000 in
set_option maxHeartbeats 4000000 in
theorem tX4_power (l : Launch) (D : va_G) (cI cZ : ClassId) (b0 : Nat) (tt : Nat → Nat)    (a1 : Int32) (a2 : Int32) {res : Int32} (hf : fX4_power a1 a2 = some res) : CtI l yX4_power (cwX4_power :: GW) 0 0 D cI cZ b0 tt [.int a1, .int a2] (fun _ : Unit => []) () (res, ()) := by
  intro sz
  refine k_begin (cc := cX4_power) (maxL := 4) (ret := (some .int)) (by decide) rfl (Nat.le_of_ble_eq_true rfl) ?_
  intro p e s m below meth c ls C w hl
  generalize va_A _ sz = A at w ⊢
  have w : Wd D cI cZ b0 tt A s [] s.heap [] := w
  have hl : lv_has ls 4 [(0, .int a1), (1, .int a2)] := hl
  obtain ⟨H, eH⟩ : ∃ H, H = s.heap := ⟨_, rfl⟩
  rw [← eH] at w ⊢
  generalize ([] : List Loc) = locs at w ⊢
  generalize List.toArray _ = args at C ⊢
  obtain ⟨hx, hb, hr, hml, hown, hts, hlk⟩ := id C
  have hg : ∀ w ∈ GW, w.before args s = true := fun w h => hts w (List.mem_cons_of_mem _ h)
  unfold fX4_power at hf
  refine lv_iconst (v := 1) hx hb dX4_power_0 (by decide) ?_
  refine lv_istore_n (lv' := [(2, .int 1), (0, .int a1), (1, .int a2)]) hx hb dX4_power_1 rfl hl (by decide) rfl (fun ls hl => ?_)
  refine lv_iconst (v := 0) hx hb dX4_power_2 (by decide) ?_
  refine lv_istore_n (lv' := [(3, .int 0), (2, .int 1), (0, .int a1), (1, .int a2)]) hx hb dX4_power_3 rfl hl (by decide) rfl (fun ls hl => ?_)
  exact tX4_power_L4 (v0 := a1) (v1 := a2) (C := C) FU 1 0 H locs ls hf w (lv_sub hl [2, 3, 1, 0] rfl)
-- X4_shaken
def fX4_shaken_L41   (v1 : Int32) (v2 : Int32) (v3 : Int32) (v4 : Int32) (n_th : Int32) : Nat → Int32 → Int32 → Option (Int32)
  | 0, _, _ => none
  | n + 1, v5, v6 => (if 15 < v6 then ob (fJ6_bitCount_0f7a4 v4) (fun r2 => ob (fX4_power 10 r2) (fun r3 => ob (fX4_partOfFraction v5 r3 v3) (fun r4 => some r4))) else (if (v6 &&& (v4 ^^^ ((-1) : Int32))) = 0 then ob (fX1_sizeWithout n_th v6) (fun r7 => (if r7 < v1 then nm (v6 + 1) (fun z9 => fX4_shaken_L41 v1 v2 v3 v4 n_th n v5 z9) else ob (fJ6_bitCount_0f7a4 v6) (fun r10 => ob (fX4_power v2 r10) (fun r11 => ob (fJ6_bitCount_0f7a4 (v4 &&& (v6 ^^^ ((-1) : Int32)))) (fun r12 => ob (fX4_power ((10 : Int32) - v2) r12) (fun r13 => nm (v5 + (r11 * r13)) (fun z14 => nm (v6 + 1) (fun z15 => fX4_shaken_L41 v1 v2 v3 v4 n_th n z14 z15)))))))) else nm (v6 + 1) (fun z6 => fX4_shaken_L41 v1 v2 v3 v4 n_th n v5 z6)))
set_option maxRecDepth 100000 in
set_option maxHeartbeats 4000000 in
theorem tX4_shaken_L41 {p : Program} {l : Launch} {e : Env} {s : State} {m : MethodId} {args : Array Value} {below : List Frame} {meth : Method} {c : Code} {D : va_G} {cI cZ : ClassId} {b0 : Nat} {tt : Nat → Nat} {A : Nat → Prop}  {h_a x_a n_a r_a c_a s_a k_a x_l n_c n_d r_c r_d c_t c_k c_f s_t s_k s_f k_f k_s : Nat}  {v1 : Int32} {v2 : Int32} {v3 : Int32} {v4 : Int32} {n_th : Int32} {h_ac : Int32} {h_ks : Int32} {h_hc : Int32} {h_ok : Int32} {h_tk : Int32} {h_se : Int64} {x_ln : Int32} {x_le : Nat → Int32} {n_ki : Int32} {n_fe : Int32} {n_ca : Nat → Int32} {n_lo : Nat → Int32} {r_th : Int32} {r_ki : Int32} {r_fe : Int32} {r_ca : Nat → Int32} {r_lo : Nat → Int32} {c_sz : Int32} {c_st : Nat → Int32} {c_sk : Nat → Int32} {c_sf : Nat → Int32} {s_sz : Int32} {s_st : Nat → Int32} {s_sk : Nat → Int32} {s_sf : Nat → Int32} {k_fh : Nat → Int32} {k_sh : Nat → Int32} {res : Int32} (C : Cx p s m args meth c cX4_shaken 7 (some .int) (cwX4_shaken :: GW) RX4) : ∀ (n : Nat) (v5 : Int32) (v6 : Int32) (H : Heap) (locs : List Loc) (ls : Array Slot), fX4_shaken_L41 v1 v2 v3 v4 n_th n v5 v6 = some res → Wd D cI cZ b0 tt A s [(h_a, .inr (4, [.ref x_a, .ref n_a, .ref r_a, .ref c_a, .ref s_a, .ref k_a, .int h_ac, .int h_ks, .int h_hc, .int h_ok, .int h_tk, .long h_se])), (x_a, .inr (3, [.ref x_l, .int x_ln])), (x_l, .inl (cI, 56, .inl x_le)), (n_a, .inr (1, [.int n_th, .int n_ki, .int n_fe, .ref n_c, .ref n_d])), (n_c, .inl (cI, 4, .inl n_ca)), (n_d, .inl (cI, 16, .inl n_lo)), (r_a, .inr (1, [.int r_th, .int r_ki, .int r_fe, .ref r_c, .ref r_d])), (r_c, .inl (cI, 4, .inl r_ca)), (r_d, .inl (cI, 16, .inl r_lo)), (c_a, .inr (2, [.int c_sz, .ref c_t, .ref c_k, .ref c_f])), (c_t, .inl (cI, 14, .inl c_st)), (c_k, .inl (cI, 14, .inl c_sk)), (c_f, .inl (cI, 14, .inl c_sf)), (s_a, .inr (2, [.int s_sz, .ref s_t, .ref s_k, .ref s_f])), (s_t, .inl (cI, 2, .inl s_st)), (s_k, .inl (cI, 2, .inl s_sk)), (s_f, .inl (cI, 2, .inl s_sf)), (k_a, .inr (0, [.ref k_f, .ref k_s])), (k_f, .inl (cI, 25, .inl k_fh)), (k_s, .inl (cI, 25, .inl k_sh))] H locs → lv_has ls 7 [(0, .ref h_a), (1, .int v1), (2, .int v2), (3, .int v3), (4, .int v4), (5, .int v5), (6, .int v6)] → W p l e (rmo 3 69) s m args below meth c H locs 0 0 (MQ below (QI D (fun _ : Unit => [(h_a, .inr (4, [.ref x_a, .ref n_a, .ref r_a, .ref c_a, .ref s_a, .ref k_a, .int h_ac, .int h_ks, .int h_hc, .int h_ok, .int h_tk, .long h_se])), (x_a, .inr (3, [.ref x_l, .int x_ln])), (x_l, .inl (cI, 56, .inl x_le)), (n_a, .inr (1, [.int n_th, .int n_ki, .int n_fe, .ref n_c, .ref n_d])), (n_c, .inl (cI, 4, .inl n_ca)), (n_d, .inl (cI, 16, .inl n_lo)), (r_a, .inr (1, [.int r_th, .int r_ki, .int r_fe, .ref r_c, .ref r_d])), (r_c, .inl (cI, 4, .inl r_ca)), (r_d, .inl (cI, 16, .inl r_lo)), (c_a, .inr (2, [.int c_sz, .ref c_t, .ref c_k, .ref c_f])), (c_t, .inl (cI, 14, .inl c_st)), (c_k, .inl (cI, 14, .inl c_sk)), (c_f, .inl (cI, 14, .inl c_sf)), (s_a, .inr (2, [.int s_sz, .ref s_t, .ref s_k, .ref s_f])), (s_t, .inl (cI, 2, .inl s_st)), (s_k, .inl (cI, 2, .inl s_sk)), (s_f, .inl (cI, 2, .inl s_sf)), (k_a, .inr (0, [.ref k_f, .ref k_s])), (k_f, .inl (cI, 25, .inl k_fh)), (k_s, .inl (cI, 25, .inl k_sh))]) A (res, ())) args s 0 0 A) (F0 m 41 ls []) := by
  obtain ⟨hx, hb, hr, hml, hown, hts, hlk⟩ := id C
  have hg : ∀ w ∈ GW, w.before args s = true := fun w h => hts w (List.mem_cons_of_mem _ h)
  intro n
  induction n with
  | zero =>
    intro _ _ H locs ls hf
    rw [fX4_shaken_L41] at hf
    cases hf
  | succ n ih =>
    intro v5 v6 H locs ls hf w hl
    rw [fX4_shaken_L41] at hf
    refine lv_iload hx hb dX4_shaken_41 (lv_at hl 6 rfl) ?_
    refine lv_bipush (v := 15) hx hb dX4_shaken_43 (by decide) ?_
    refine lv_icmp_gt (tgt := 109) hx hb dX4_shaken_45 (by decide) (fun c1 => ?_) (fun c1 => ?_)
    · replace hf := ite_t c1 hf
      refine lv_iload hx hb dX4_shaken_109 (lv_at hl 5 rfl) ?_
      refine lv_bipush (v := 10) hx hb dX4_shaken_111 (by decide) ?_
      refine lv_iload hx hb dX4_shaken_113 (lv_at hl 4 rfl) ?_
      replace hf := ob_at hf
      obtain ⟨r2, er2, hf⟩ := hf
      refine k_goI0 w [] rfl (va_runS (As := [.int v4]) (rest := [.int 10, .int v5]) ⟨hx, hb, hml, hown, hg⟩ (tJ6_bitCount_0f7a4 l D cI cZ b0 tt v4 er2 H.size) (va_cwS 1 hg (gwS w_359 w_223 w_8 w_224) rfl rfl rfl qdJ6_bitCount_0f7a4 ⟨Nat.le_of_ble_eq_true rfl, Nat.le_of_ble_eq_true rfl⟩) (k_preS w [] (by decide) rfl) rfl rfl hl.1 rfl (lv_room (Nat.le_of_ble_eq_true rfl)) dX4_shaken_115 ⟨Nat.le_refl _, Nat.le_refl _⟩) (fun H locs w => ?_)
      replace hf := ob_at hf
      obtain ⟨r3, er3, hf⟩ := hf
      refine k_goI0 w [] rfl (va_runS (As := [.int 10, .int r2]) (rest := [.int v5]) ⟨hx, hb, hml, hown, hg⟩ (tX4_power l D cI cZ b0 tt 10 r2 er3 H.size) (va_cwS 2 hg (gwS w_455 w_456 w_1 w_457) rfl rfl rfl qdX4_power ⟨Nat.le_of_ble_eq_true rfl, Nat.le_of_ble_eq_true rfl⟩) (k_preS w [] (by decide) rfl) rfl rfl hl.1 rfl (lv_room (Nat.le_of_ble_eq_true rfl)) dX4_shaken_118 ⟨Nat.le_refl _, Nat.le_refl _⟩) (fun H locs w => ?_)
      refine lv_iload_n hx hb dX4_shaken_121 rfl (lv_at hl 3 rfl) ?_
      replace hf := ob_at hf
      obtain ⟨r4, er4, hf⟩ := hf
      refine k_goI0 w [] rfl (va_runS (As := [.int v5, .int r3, .int v3]) (rest := []) ⟨hx, hb, hml, hown, hg⟩ (tX4_partOfFraction l D cI cZ b0 tt v5 r3 v3 er4 H.size) (va_cwS 3 hg (gwS w_399 w_400 w_1 w_401) rfl rfl rfl qdX4_partOfFraction ⟨Nat.le_of_ble_eq_true rfl, Nat.le_of_ble_eq_true rfl⟩) (k_preS w [] (by decide) rfl) rfl rfl hl.1 rfl (lv_room (Nat.le_of_ble_eq_true rfl)) dX4_shaken_122 ⟨Nat.le_refl _, Nat.le_refl _⟩) (fun H locs w => ?_)
      exact k_iret (u := ()) hx hb hr hlk w rfl (k_ret1 hf) dX4_shaken_125
    · replace hf := ite_f c1 hf
      refine lv_iload hx hb dX4_shaken_48 (lv_at hl 6 rfl) ?_
      refine lv_iload hx hb dX4_shaken_50 (lv_at hl 4 rfl) ?_
      refine lv_iconst (v := (-1)) hx hb dX4_shaken_52 (by decide) ?_
      refine lv_ixor hx hb dX4_shaken_53 ?_
      refine lv_iand hx hb dX4_shaken_54 ?_
      refine lv_if_ne (tgt := 103) hx hb dX4_shaken_55 (by decide) (fun c5 => ?_) (fun c5 => ?_)
      · replace hf := ite_f c5 hf
        obtain ⟨z6, ez6⟩ : ∃ y : Int32, y = (v6 + 1) := ⟨_, rfl⟩
        replace hf := nm_at ez6 hf
        refine lv_iinc (v := z6) (lv' := [(6, .int z6), (0, .ref h_a), (1, .int v1), (2, .int v2), (3, .int v3), (4, .int v4), (5, .int v5)]) hx hb dX4_shaken_103 hl (k := 6) rfl (by rw [ez6]; rfl) (by decide) rfl (fun ls hl => ?_)
        refine lv_goto (tgt := 41) hx hb dX4_shaken_106 (by decide) ?_
        exact ih v5 z6 H locs ls hf w (lv_sub hl [1, 2, 3, 4, 5, 6, 0] rfl)
      · replace hf := ite_t c5 hf
        refine lv_aload_n hx hb dX4_shaken_58 rfl (lv_at hl 0 rfl) ?_
        refine va_get (D := D) (ci := 4) (v := .ref n_a) (C := RX4) (T := TX4) (N := 12) hx hb hg iX4 hown w.2.2.2.2.2.2.1 w.1 0 rfl rfl 1 (by decide) (hg _ w_86) (fun _ h9 => h9) rfl dX4_shaken_59 ?_
        refine lv_iload hx hb dX4_shaken_62 (lv_at hl 6 rfl) ?_
        replace hf := ob_at hf
        obtain ⟨r7, er7, hf⟩ := hf
        refine k_goI0 w [3, 4, 5] rfl (va_runV (As := [.int v6]) (rest := []) ⟨hx, hb, hml, hown, hg⟩ (tX1_sizeWithout l D cI cZ b0 tt n_a n_c n_d n_th n_ki n_fe n_ca n_lo v6 er7 H.size) (cwV 1 hg (gwV w_393 w_394 w_395 w_3 w_396) rfl rfl rfl ⟨rfl, qdX1_sizeWithout⟩ ⟨Nat.le_of_ble_eq_true rfl, Nat.le_of_ble_eq_true rfl⟩) (k_preV w [3, 4, 5] (by decide) rfl (q0 := 3) rfl rfl) rfl rfl hl.1 rfl (lv_room (Nat.le_of_ble_eq_true rfl)) dX4_shaken_64 ⟨Nat.le_refl _, Nat.le_refl _⟩) (fun H locs w => ?_)
        refine lv_iload_n hx hb dX4_shaken_67 rfl (lv_at hl 1 rfl) ?_
        refine lv_icmp_lt (tgt := 103) hx hb dX4_shaken_68 (by decide) (fun c8 => ?_) (fun c8 => ?_)
        · replace hf := ite_t c8 hf
          obtain ⟨z9, ez9⟩ : ∃ y : Int32, y = (v6 + 1) := ⟨_, rfl⟩
          replace hf := nm_at ez9 hf
          refine lv_iinc (v := z9) (lv' := [(6, .int z9), (0, .ref h_a), (1, .int v1), (2, .int v2), (3, .int v3), (4, .int v4), (5, .int v5)]) hx hb dX4_shaken_103 hl (k := 6) rfl (by rw [ez9]; rfl) (by decide) rfl (fun ls hl => ?_)
          refine lv_goto (tgt := 41) hx hb dX4_shaken_106 (by decide) ?_
          exact ih v5 z9 H locs ls hf w (lv_sub hl [1, 2, 3, 4, 5, 6, 0] rfl)
        · replace hf := ite_f c8 hf
          refine lv_iload hx hb dX4_shaken_71 (lv_at hl 5 rfl) ?_
          refine lv_iload_n hx hb dX4_shaken_73 rfl (lv_at hl 2 rfl) ?_
          refine lv_iload hx hb dX4_shaken_74 (lv_at hl 6 rfl) ?_
          replace hf := ob_at hf
          obtain ⟨r10, er10, hf⟩ := hf
          refine k_goI0 w [] rfl (va_runS (As := [.int v6]) (rest := [.int v2, .int v5]) ⟨hx, hb, hml, hown, hg⟩ (tJ6_bitCount_0f7a4 l D cI cZ b0 tt v6 er10 H.size) (va_cwS 1 hg (gwS w_359 w_223 w_8 w_224) rfl rfl rfl qdJ6_bitCount_0f7a4 ⟨Nat.le_of_ble_eq_true rfl, Nat.le_of_ble_eq_true rfl⟩) (k_preS w [] (by decide) rfl) rfl rfl hl.1 rfl (lv_room (Nat.le_of_ble_eq_true rfl)) dX4_shaken_76 ⟨Nat.le_refl _, Nat.le_refl _⟩) (fun H locs w => ?_)
          replace hf := ob_at hf
          obtain ⟨r11, er11, hf⟩ := hf
          refine k_goI0 w [] rfl (va_runS (As := [.int v2, .int r10]) (rest := [.int v5]) ⟨hx, hb, hml, hown, hg⟩ (tX4_power l D cI cZ b0 tt v2 r10 er11 H.size) (va_cwS 2 hg (gwS w_455 w_456 w_1 w_457) rfl rfl rfl qdX4_power ⟨Nat.le_of_ble_eq_true rfl, Nat.le_of_ble_eq_true rfl⟩) (k_preS w [] (by decide) rfl) rfl rfl hl.1 rfl (lv_room (Nat.le_of_ble_eq_true rfl)) dX4_shaken_79 ⟨Nat.le_refl _, Nat.le_refl _⟩) (fun H locs w => ?_)
          refine lv_bipush (v := 10) hx hb dX4_shaken_82 (by decide) ?_
          refine lv_iload_n hx hb dX4_shaken_84 rfl (lv_at hl 2 rfl) ?_
          refine lv_isub hx hb dX4_shaken_85 ?_
          refine lv_iload hx hb dX4_shaken_86 (lv_at hl 4 rfl) ?_
          refine lv_iload hx hb dX4_shaken_88 (lv_at hl 6 rfl) ?_
          refine lv_iconst (v := (-1)) hx hb dX4_shaken_90 (by decide) ?_
          refine lv_ixor hx hb dX4_shaken_91 ?_
          refine lv_iand hx hb dX4_shaken_92 ?_
          replace hf := ob_at hf
          obtain ⟨r12, er12, hf⟩ := hf
          refine k_goI0 w [] rfl (va_runS (As := [.int (v4 &&& (v6 ^^^ ((-1) : Int32)))]) (rest := [.int ((10 : Int32) - v2), .int r11, .int v5]) ⟨hx, hb, hml, hown, hg⟩ (tJ6_bitCount_0f7a4 l D cI cZ b0 tt (v4 &&& (v6 ^^^ ((-1) : Int32))) er12 H.size) (va_cwS 1 hg (gwS w_359 w_223 w_8 w_224) rfl rfl rfl qdJ6_bitCount_0f7a4 ⟨Nat.le_of_ble_eq_true rfl, Nat.le_of_ble_eq_true rfl⟩) (k_preS w [] (by decide) rfl) rfl rfl hl.1 rfl (lv_room (Nat.le_of_ble_eq_true rfl)) dX4_shaken_93 ⟨Nat.le_refl _, Nat.le_refl _⟩) (fun H locs w => ?_)
          replace hf := ob_at hf
          obtain ⟨r13, er13, hf⟩ := hf
          refine k_goI0 w [] rfl (va_runS (As := [.int ((10 : Int32) - v2), .int r12]) (rest := [.int r11, .int v5]) ⟨hx, hb, hml, hown, hg⟩ (tX4_power l D cI cZ b0 tt ((10 : Int32) - v2) r12 er13 H.size) (va_cwS 2 hg (gwS w_455 w_456 w_1 w_457) rfl rfl rfl qdX4_power ⟨Nat.le_of_ble_eq_true rfl, Nat.le_of_ble_eq_true rfl⟩) (k_preS w [] (by decide) rfl) rfl rfl hl.1 rfl (lv_room (Nat.le_of_ble_eq_true rfl)) dX4_shaken_96 ⟨Nat.le_refl _, Nat.le_refl _⟩) (fun H locs w => ?_)
          refine lv_imul hx hb dX4_shaken_99 ?_
          refine lv_iadd hx hb dX4_shaken_100 ?_
          refine lv_topi (fun z14 ez14 => ?_)
          replace hf := nm_at ez14 hf
          refine lv_istore (lv' := [(5, .int z14), (0, .ref h_a), (1, .int v1), (2, .int v2), (3, .int v3), (4, .int v4), (6, .int v6)]) hx hb dX4_shaken_101 hl (by decide) rfl (fun ls hl => ?_)
          obtain ⟨z15, ez15⟩ : ∃ y : Int32, y = (v6 + 1) := ⟨_, rfl⟩
          replace hf := nm_at ez15 hf
          refine lv_iinc (v := z15) (lv' := [(6, .int z15), (5, .int z14), (0, .ref h_a), (1, .int v1), (2, .int v2), (3, .int v3), (4, .int v4)]) hx hb dX4_shaken_103 hl (k := 6) rfl (by rw [ez15]; rfl) (by decide) rfl (fun ls hl => ?_)
          refine lv_goto (tgt := 41) hx hb dX4_shaken_106 (by decide) ?_
          exact ih z14 z15 H locs ls hf w (lv_sub hl [2, 3, 4, 5, 6, 1, 0] rfl)
def fX4_shaken  (n_th : Int32) (a1 : Int32) (a2 : Int32) (a3 : Int32) : Option (Int32) := (if a1 < 0 then some (-2) else (if 16 < a1 then some (-2) else (if a2 < 0 then some (-2) else (if a2 ≤ 10 then nm (n_th &&& (15 : Int32)) (fun z20 => fX4_shaken_L41 a1 a2 a3 z20 n_th FU 0 0) else some (-2)))))
set_option maxRecDepth 100000 in
set_option maxHeartbeats 4000000 in
theorem tX4_shaken (l : Launch) (D : va_G) (cI cZ : ClassId) (b0 : Nat) (tt : Nat → Nat)  (h_a x_a n_a r_a c_a s_a k_a x_l n_c n_d r_c r_d c_t c_k c_f s_t s_k s_f k_f k_s : Nat) (h_ac : Int32) (h_ks : Int32) (h_hc : Int32) (h_ok : Int32) (h_tk : Int32) (h_se : Int64) (x_ln : Int32) (x_le : Nat → Int32) (n_th : Int32) (n_ki : Int32) (n_fe : Int32) (n_ca : Nat → Int32) (n_lo : Nat → Int32) (r_th : Int32) (r_ki : Int32) (r_fe : Int32) (r_ca : Nat → Int32) (r_lo : Nat → Int32) (c_sz : Int32) (c_st : Nat → Int32) (c_sk : Nat → Int32) (c_sf : Nat → Int32) (s_sz : Int32) (s_st : Nat → Int32) (s_sk : Nat → Int32) (s_sf : Nat → Int32) (k_fh : Nat → Int32) (k_sh : Nat → Int32) (a1 : Int32) (a2 : Int32) (a3 : Int32) {res : Int32} (hf : fX4_shaken n_th a1 a2 a3 = some res) : CtI l yX4_shaken (cwX4_shaken :: GW) 3 69 D cI cZ b0 tt [.ref h_a, .int a1, .int a2, .int a3] (fun _ : Unit => [(h_a, .inr (4, [.ref x_a, .ref n_a, .ref r_a, .ref c_a, .ref s_a, .ref k_a, .int h_ac, .int h_ks, .int h_hc, .int h_ok, .int h_tk, .long h_se])), (x_a, .inr (3, [.ref x_l, .int x_ln])), (x_l, .inl (cI, 56, .inl x_le)), (n_a, .inr (1, [.int n_th, .int n_ki, .int n_fe, .ref n_c, .ref n_d])), (n_c, .inl (cI, 4, .inl n_ca)), (n_d, .inl (cI, 16, .inl n_lo)), (r_a, .inr (1, [.int r_th, .int r_ki, .int r_fe, .ref r_c, .ref r_d])), (r_c, .inl (cI, 4, .inl r_ca)), (r_d, .inl (cI, 16, .inl r_lo)), (c_a, .inr (2, [.int c_sz, .ref c_t, .ref c_k, .ref c_f])), (c_t, .inl (cI, 14, .inl c_st)), (c_k, .inl (cI, 14, .inl c_sk)), (c_f, .inl (cI, 14, .inl c_sf)), (s_a, .inr (2, [.int s_sz, .ref s_t, .ref s_k, .ref s_f])), (s_t, .inl (cI, 2, .inl s_st)), (s_k, .inl (cI, 2, .inl s_sk)), (s_f, .inl (cI, 2, .inl s_sf)), (k_a, .inr (0, [.ref k_f, .ref k_s])), (k_f, .inl (cI, 25, .inl k_fh)), (k_s, .inl (cI, 25, .inl k_sh))]) () (res, ()) := by
  intro sz
  refine k_begin (cc := cX4_shaken) (maxL := 7) (ret := (some .int)) (by decide) rfl (Nat.le_of_ble_eq_true rfl) ?_
  intro p e s m below meth c ls C w hl
  generalize va_A _ sz = A at w ⊢
  have w : Wd D cI cZ b0 tt A s [(h_a, .inr (4, [.ref x_a, .ref n_a, .ref r_a, .ref c_a, .ref s_a, .ref k_a, .int h_ac, .int h_ks, .int h_hc, .int h_ok, .int h_tk, .long h_se])), (x_a, .inr (3, [.ref x_l, .int x_ln])), (x_l, .inl (cI, 56, .inl x_le)), (n_a, .inr (1, [.int n_th, .int n_ki, .int n_fe, .ref n_c, .ref n_d])), (n_c, .inl (cI, 4, .inl n_ca)), (n_d, .inl (cI, 16, .inl n_lo)), (r_a, .inr (1, [.int r_th, .int r_ki, .int r_fe, .ref r_c, .ref r_d])), (r_c, .inl (cI, 4, .inl r_ca)), (r_d, .inl (cI, 16, .inl r_lo)), (c_a, .inr (2, [.int c_sz, .ref c_t, .ref c_k, .ref c_f])), (c_t, .inl (cI, 14, .inl c_st)), (c_k, .inl (cI, 14, .inl c_sk)), (c_f, .inl (cI, 14, .inl c_sf)), (s_a, .inr (2, [.int s_sz, .ref s_t, .ref s_k, .ref s_f])), (s_t, .inl (cI, 2, .inl s_st)), (s_k, .inl (cI, 2, .inl s_sk)), (s_f, .inl (cI, 2, .inl s_sf)), (k_a, .inr (0, [.ref k_f, .ref k_s])), (k_f, .inl (cI, 25, .inl k_fh)), (k_s, .inl (cI, 25, .inl k_sh))] s.heap [] := w
  have hl : lv_has ls 7 [(0, .ref h_a), (1, .int a1), (2, .int a2), (3, .int a3)] := hl
  obtain ⟨H, eH⟩ : ∃ H, H = s.heap := ⟨_, rfl⟩
  rw [← eH] at w ⊢
  generalize ([] : List Loc) = locs at w ⊢
  generalize List.toArray _ = args at C ⊢
  obtain ⟨hx, hb, hr, hml, hown, hts, hlk⟩ := id C
  have hg : ∀ w ∈ GW, w.before args s = true := fun w h => hts w (List.mem_cons_of_mem _ h)
  unfold fX4_shaken at hf
  refine lv_iload_n hx hb dX4_shaken_0 rfl (lv_at hl 1 rfl) ?_
  refine lv_if_lt (tgt := 20) hx hb dX4_shaken_1 (by decide) (fun c16 => ?_) (fun c16 => ?_)
  · replace hf := ite_t c16 hf
    refine lv_bipush (v := (-2)) hx hb dX4_shaken_20 (by decide) ?_
    exact k_iret (u := ()) hx hb hr hlk w rfl (k_ret1 hf) dX4_shaken_22
  · replace hf := ite_f c16 hf
    refine lv_iload_n hx hb dX4_shaken_4 rfl (lv_at hl 1 rfl) ?_
    refine lv_bipush (v := 16) hx hb dX4_shaken_5 (by decide) ?_
    refine lv_icmp_gt (tgt := 20) hx hb dX4_shaken_7 (by decide) (fun c17 => ?_) (fun c17 => ?_)
    · replace hf := ite_t c17 hf
      refine lv_bipush (v := (-2)) hx hb dX4_shaken_20 (by decide) ?_
      exact k_iret (u := ()) hx hb hr hlk w rfl (k_ret1 hf) dX4_shaken_22
    · replace hf := ite_f c17 hf
      refine lv_iload_n hx hb dX4_shaken_10 rfl (lv_at hl 2 rfl) ?_
      refine lv_if_lt (tgt := 20) hx hb dX4_shaken_11 (by decide) (fun c18 => ?_) (fun c18 => ?_)
      · replace hf := ite_t c18 hf
        refine lv_bipush (v := (-2)) hx hb dX4_shaken_20 (by decide) ?_
        exact k_iret (u := ()) hx hb hr hlk w rfl (k_ret1 hf) dX4_shaken_22
      · replace hf := ite_f c18 hf
        refine lv_iload_n hx hb dX4_shaken_14 rfl (lv_at hl 2 rfl) ?_
        refine lv_bipush (v := 10) hx hb dX4_shaken_15 (by decide) ?_
        refine lv_icmp_le (tgt := 23) hx hb dX4_shaken_17 (by decide) (fun c19 => ?_) (fun c19 => ?_)
        · replace hf := ite_t c19 hf
          refine lv_aload_n hx hb dX4_shaken_23 rfl (lv_at hl 0 rfl) ?_
          refine va_get (D := D) (ci := 4) (v := .ref n_a) (C := RX4) (T := TX4) (N := 12) hx hb hg iX4 hown w.2.2.2.2.2.2.1 w.1 0 rfl rfl 1 (by decide) (hg _ w_86) (fun _ h9 => h9) rfl dX4_shaken_24 ?_
          refine va_getN (D := D) (ci := 1) (v := .int n_th) (C := RX1) (T := TX1) (N := 5) hx hb hg iX1 hown w.2.2.2.2.2.2.1 w.1 3 rfl rfl 0 (by decide) (k_nf w 2 (q := ("CardHouse", 82, "CardHouse$Pile", "there", "I")) rfl) (fun _ h9 => h9) rfl dX4_shaken_27 ?_
          refine lv_bipush (v := 15) hx hb dX4_shaken_30 (by decide) ?_
          refine lv_iand hx hb dX4_shaken_32 ?_
          refine lv_topi (fun z20 ez20 => ?_)
          replace hf := nm_at ez20 hf
          refine lv_istore (lv' := [(4, .int z20), (0, .ref h_a), (1, .int a1), (2, .int a2), (3, .int a3)]) hx hb dX4_shaken_33 hl (by decide) rfl (fun ls hl => ?_)
          refine lv_iconst (v := 0) hx hb dX4_shaken_35 (by decide) ?_
          refine lv_istore (lv' := [(5, .int 0), (4, .int z20), (0, .ref h_a), (1, .int a1), (2, .int a2), (3, .int a3)]) hx hb dX4_shaken_36 hl (by decide) rfl (fun ls hl => ?_)
          refine lv_iconst (v := 0) hx hb dX4_shaken_38 (by decide) ?_
          refine lv_istore (lv' := [(6, .int 0), (5, .int 0), (4, .int z20), (0, .ref h_a), (1, .int a1), (2, .int a2), (3, .int a3)]) hx hb dX4_shaken_39 hl (by decide) rfl (fun ls hl => ?_)
          exact tX4_shaken_L41 (v1 := a1) (v2 := a2) (v3 := a3) (v4 := z20) (n_th := n_th) (h_ac := h_ac) (h_ks := h_ks) (h_hc := h_hc) (h_ok := h_ok) (h_tk := h_tk) (h_se := h_se) (x_ln := x_ln) (x_le := x_le) (n_ki := n_ki) (n_fe := n_fe) (n_ca := n_ca) (n_lo := n_lo) (r_th := r_th) (r_ki := r_ki) (r_fe := r_fe) (r_ca := r_ca) (r_lo := r_lo) (c_sz := c_sz) (c_st := c_st) (c_sk := c_sk) (c_sf := c_sf) (s_sz := s_sz) (s_st := s_st) (s_sk := s_sk) (s_sf := s_sf) (k_fh := k_fh) (k_sh := k_sh) (C := C) FU 0 0 H locs ls hf w (lv_sub hl [3, 4, 5, 6, 2, 1, 0] rfl)
        · replace hf := ite_f c19 hf
          refine lv_bipush (v := (-2)) hx hb dX4_shaken_20 (by decide) ?_
          exact k_iret (u := ()) hx hb hr hlk w rfl (k_ret1 hf) dX4_shaken_22
-- X4_seed
def fX4_seed  (h_se : Int64) (a1 : Int64) : Option (Int64 × Int64) := some (h_se, a1)
set_option maxRecDepth 100000 in
set_option maxHeartbeats 4000000 in
theorem tX4_seed (l : Launch) (D : va_G) (cI cZ : ClassId) (b0 : Nat) (tt : Nat → Nat)  (h_a x_a n_a r_a c_a s_a k_a x_l n_c n_d r_c r_d c_t c_k c_f s_t s_k s_f k_f k_s : Nat) (h_ac : Int32) (h_ks : Int32) (h_hc : Int32) (h_ok : Int32) (h_tk : Int32) (h_se : Int64) (x_ln : Int32) (x_le : Nat → Int32) (n_th : Int32) (n_ki : Int32) (n_fe : Int32) (n_ca : Nat → Int32) (n_lo : Nat → Int32) (r_th : Int32) (r_ki : Int32) (r_fe : Int32) (r_ca : Nat → Int32) (r_lo : Nat → Int32) (c_sz : Int32) (c_st : Nat → Int32) (c_sk : Nat → Int32) (c_sf : Nat → Int32) (s_sz : Int32) (s_st : Nat → Int32) (s_sk : Nat → Int32) (s_sf : Nat → Int32) (k_fh : Nat → Int32) (k_sh : Nat → Int32) (a1 : Int64) {res : Int64 × Int64} (hf : fX4_seed h_se a1 = some res) : CtL l yX4_seed (cwX4_seed :: GW) 0 0 D cI cZ b0 tt [.ref h_a, .long a1] (fun u : Int64 => [(h_a, .inr (4, [.ref x_a, .ref n_a, .ref r_a, .ref c_a, .ref s_a, .ref k_a, .int h_ac, .int h_ks, .int h_hc, .int h_ok, .int h_tk, .long u])), (x_a, .inr (3, [.ref x_l, .int x_ln])), (x_l, .inl (cI, 56, .inl x_le)), (n_a, .inr (1, [.int n_th, .int n_ki, .int n_fe, .ref n_c, .ref n_d])), (n_c, .inl (cI, 4, .inl n_ca)), (n_d, .inl (cI, 16, .inl n_lo)), (r_a, .inr (1, [.int r_th, .int r_ki, .int r_fe, .ref r_c, .ref r_d])), (r_c, .inl (cI, 4, .inl r_ca)), (r_d, .inl (cI, 16, .inl r_lo)), (c_a, .inr (2, [.int c_sz, .ref c_t, .ref c_k, .ref c_f])), (c_t, .inl (cI, 14, .inl c_st)), (c_k, .inl (cI, 14, .inl c_sk)), (c_f, .inl (cI, 14, .inl c_sf)), (s_a, .inr (2, [.int s_sz, .ref s_t, .ref s_k, .ref s_f])), (s_t, .inl (cI, 2, .inl s_st)), (s_k, .inl (cI, 2, .inl s_sk)), (s_f, .inl (cI, 2, .inl s_sf)), (k_a, .inr (0, [.ref k_f, .ref k_s])), (k_f, .inl (cI, 25, .inl k_fh)), (k_s, .inl (cI, 25, .inl k_sh))]) h_se res := by
  intro sz
  refine k_begin (cc := cX4_seed) (maxL := 5) (ret := (some .long)) (by decide) rfl (Nat.le_of_ble_eq_true rfl) ?_
  intro p e s m below meth c ls C w hl
  generalize va_A _ sz = A at w ⊢
  have w : Wd D cI cZ b0 tt A s [(h_a, .inr (4, [.ref x_a, .ref n_a, .ref r_a, .ref c_a, .ref s_a, .ref k_a, .int h_ac, .int h_ks, .int h_hc, .int h_ok, .int h_tk, .long h_se])), (x_a, .inr (3, [.ref x_l, .int x_ln])), (x_l, .inl (cI, 56, .inl x_le)), (n_a, .inr (1, [.int n_th, .int n_ki, .int n_fe, .ref n_c, .ref n_d])), (n_c, .inl (cI, 4, .inl n_ca)), (n_d, .inl (cI, 16, .inl n_lo)), (r_a, .inr (1, [.int r_th, .int r_ki, .int r_fe, .ref r_c, .ref r_d])), (r_c, .inl (cI, 4, .inl r_ca)), (r_d, .inl (cI, 16, .inl r_lo)), (c_a, .inr (2, [.int c_sz, .ref c_t, .ref c_k, .ref c_f])), (c_t, .inl (cI, 14, .inl c_st)), (c_k, .inl (cI, 14, .inl c_sk)), (c_f, .inl (cI, 14, .inl c_sf)), (s_a, .inr (2, [.int s_sz, .ref s_t, .ref s_k, .ref s_f])), (s_t, .inl (cI, 2, .inl s_st)), (s_k, .inl (cI, 2, .inl s_sk)), (s_f, .inl (cI, 2, .inl s_sf)), (k_a, .inr (0, [.ref k_f, .ref k_s])), (k_f, .inl (cI, 25, .inl k_fh)), (k_s, .inl (cI, 25, .inl k_sh))] s.heap [] := w
  have hl : lv_has ls 5 [(0, .ref h_a), (1, .long a1)] := hl
  obtain ⟨H, eH⟩ : ∃ H, H = s.heap := ⟨_, rfl⟩
  rw [← eH] at w ⊢
  generalize ([] : List Loc) = locs at w ⊢
  generalize List.toArray _ = args at C ⊢
  obtain ⟨hx, hb, hr, hml, hown, hts, hlk⟩ := id C
  have hg : ∀ w ∈ GW, w.before args s = true := fun w h => hts w (List.mem_cons_of_mem _ h)
  unfold fX4_seed at hf
  refine lv_aload_n hx hb dX4_seed_0 rfl (lv_at hl 0 rfl) ?_
  refine va_get (D := D) (ci := 4) (v := .long h_se) (C := RX4) (T := TX4) (N := 12) hx hb hg iX4 hown w.2.2.2.2.2.2.1 w.1 0 rfl rfl 11 (by decide) (hg _ w_96) (fun _ h9 => h9) rfl dX4_seed_1 ?_
  refine lv_lstore_n (lv' := [(3, .long h_se), (0, .ref h_a), (1, .long a1)]) hx hb dX4_seed_4 rfl hl (by decide) rfl (fun ls hl => ?_)
  refine lv_aload_n hx hb dX4_seed_5 rfl (lv_at hl 1 rfl) ?_
  refine lv_lload_n hx hb dX4_seed_6 rfl (lv_at hl 2 rfl) ?_
  refine k_put (ci := 4) (v := .long a1) (ty := .long) (C := RX4) (T := TX4) (N := 12) hx hb hg iX4 tyX4 tyX4_ok nmX4 hown w 0 rfl rfl 11 (by decide) (hg _ w_96) (fun _ h9 => h9) rfl pd_J rfl rfl (Nat.le_of_ble_eq_true rfl) dX4_seed_7 (fun H locs w => ?_)
  have w : Wd D cI cZ b0 tt A s [(h_a, .inr (4, [.ref x_a, .ref n_a, .ref r_a, .ref c_a, .ref s_a, .ref k_a, .int h_ac, .int h_ks, .int h_hc, .int h_ok, .int h_tk, .long a1])), (x_a, .inr (3, [.ref x_l, .int x_ln])), (x_l, .inl (cI, 56, .inl x_le)), (n_a, .inr (1, [.int n_th, .int n_ki, .int n_fe, .ref n_c, .ref n_d])), (n_c, .inl (cI, 4, .inl n_ca)), (n_d, .inl (cI, 16, .inl n_lo)), (r_a, .inr (1, [.int r_th, .int r_ki, .int r_fe, .ref r_c, .ref r_d])), (r_c, .inl (cI, 4, .inl r_ca)), (r_d, .inl (cI, 16, .inl r_lo)), (c_a, .inr (2, [.int c_sz, .ref c_t, .ref c_k, .ref c_f])), (c_t, .inl (cI, 14, .inl c_st)), (c_k, .inl (cI, 14, .inl c_sk)), (c_f, .inl (cI, 14, .inl c_sf)), (s_a, .inr (2, [.int s_sz, .ref s_t, .ref s_k, .ref s_f])), (s_t, .inl (cI, 2, .inl s_st)), (s_k, .inl (cI, 2, .inl s_sk)), (s_f, .inl (cI, 2, .inl s_sf)), (k_a, .inr (0, [.ref k_f, .ref k_s])), (k_f, .inl (cI, 25, .inl k_fh)), (k_s, .inl (cI, 25, .inl k_sh))] H locs := w
  refine lv_lload_n hx hb dX4_seed_10 rfl (lv_at hl 0 rfl) ?_
  exact k_lret (u := a1) hx hb hr hlk w rfl hf dX4_seed_11
-- X4_passEvening
def fX4_passEvening  (r_th : Int32) (r_ki : Int32) (r_fe : Int32) (r_ca : Nat → Int32) (r_lo : Nat → Int32) (a1 : Int32) : Option (Int32 × Int32 × Int32 × (Nat → Int32)) := (if 64 ≤ a1 then (if 76 ≤ a1 then ob (fX1_liftIfCan r_th (a1 - (64 : Int32))) (fun r3 => some (r3.2, r_ki, r_fe, r_lo)) else ob (fX1_blowIfCan r_th r_ki r_fe r_lo ((a1 - (64 : Int32)) / (3 : Int32)) ((2 : Int32) + ((a1 - (64 : Int32)) - (a1 - (64 : Int32)) / (3 : Int32) * (3 : Int32)))) (fun r4 => some (r4.2.1, r_ki, r4.2.2.1, r4.2.2.2))) else ob (fX1_layIfCan r_th r_ki r_fe r_ca r_lo (a1 / (4 : Int32)) (a1 - a1 / (4 : Int32) * (4 : Int32))) (fun r5 => some (r5.2.1, r5.2.2.1, r5.2.2.2.1, r5.2.2.2.2)))
set_option maxRecDepth 100000 in
set_option maxHeartbeats 4000000 in
theorem tX4_passEvening (l : Launch) (D : va_G) (cI cZ : ClassId) (b0 : Nat) (tt : Nat → Nat)  (h_a x_a n_a r_a c_a s_a k_a x_l n_c n_d r_c r_d c_t c_k c_f s_t s_k s_f k_f k_s : Nat) (h_ac : Int32) (h_ks : Int32) (h_hc : Int32) (h_ok : Int32) (h_tk : Int32) (h_se : Int64) (x_ln : Int32) (x_le : Nat → Int32) (n_th : Int32) (n_ki : Int32) (n_fe : Int32) (n_ca : Nat → Int32) (n_lo : Nat → Int32) (r_th : Int32) (r_ki : Int32) (r_fe : Int32) (r_ca : Nat → Int32) (r_lo : Nat → Int32) (c_sz : Int32) (c_st : Nat → Int32) (c_sk : Nat → Int32) (c_sf : Nat → Int32) (s_sz : Int32) (s_st : Nat → Int32) (s_sk : Nat → Int32) (s_sf : Nat → Int32) (k_fh : Nat → Int32) (k_sh : Nat → Int32) (a1 : Int32) {res : Int32 × Int32 × Int32 × (Nat → Int32)} (hf : fX4_passEvening r_th r_ki r_fe r_ca r_lo a1 = some res) : CtV l yX4_passEvening (cwX4_passEvening :: GW) 5 113 D cI cZ b0 tt [.ref h_a, .int a1] (fun u : Int32 × Int32 × Int32 × (Nat → Int32) => [(h_a, .inr (4, [.ref x_a, .ref n_a, .ref r_a, .ref c_a, .ref s_a, .ref k_a, .int h_ac, .int h_ks, .int h_hc, .int h_ok, .int h_tk, .long h_se])), (x_a, .inr (3, [.ref x_l, .int x_ln])), (x_l, .inl (cI, 56, .inl x_le)), (n_a, .inr (1, [.int n_th, .int n_ki, .int n_fe, .ref n_c, .ref n_d])), (n_c, .inl (cI, 4, .inl n_ca)), (n_d, .inl (cI, 16, .inl n_lo)), (r_a, .inr (1, [.int u.1, .int u.2.1, .int u.2.2.1, .ref r_c, .ref r_d])), (r_c, .inl (cI, 4, .inl r_ca)), (r_d, .inl (cI, 16, .inl u.2.2.2)), (c_a, .inr (2, [.int c_sz, .ref c_t, .ref c_k, .ref c_f])), (c_t, .inl (cI, 14, .inl c_st)), (c_k, .inl (cI, 14, .inl c_sk)), (c_f, .inl (cI, 14, .inl c_sf)), (s_a, .inr (2, [.int s_sz, .ref s_t, .ref s_k, .ref s_f])), (s_t, .inl (cI, 2, .inl s_st)), (s_k, .inl (cI, 2, .inl s_sk)), (s_f, .inl (cI, 2, .inl s_sf)), (k_a, .inr (0, [.ref k_f, .ref k_s])), (k_f, .inl (cI, 25, .inl k_fh)), (k_s, .inl (cI, 25, .inl k_sh))]) (r_th, r_ki, r_fe, r_lo) res := by
  intro sz
  refine k_begin (cc := cX4_passEvening) (maxL := 2) (ret := none) (by decide) rfl (Nat.le_of_ble_eq_true rfl) ?_
  intro p e s m below meth c ls C w hl
  generalize va_A _ sz = A at w ⊢
  have w : Wd D cI cZ b0 tt A s [(h_a, .inr (4, [.ref x_a, .ref n_a, .ref r_a, .ref c_a, .ref s_a, .ref k_a, .int h_ac, .int h_ks, .int h_hc, .int h_ok, .int h_tk, .long h_se])), (x_a, .inr (3, [.ref x_l, .int x_ln])), (x_l, .inl (cI, 56, .inl x_le)), (n_a, .inr (1, [.int n_th, .int n_ki, .int n_fe, .ref n_c, .ref n_d])), (n_c, .inl (cI, 4, .inl n_ca)), (n_d, .inl (cI, 16, .inl n_lo)), (r_a, .inr (1, [.int r_th, .int r_ki, .int r_fe, .ref r_c, .ref r_d])), (r_c, .inl (cI, 4, .inl r_ca)), (r_d, .inl (cI, 16, .inl r_lo)), (c_a, .inr (2, [.int c_sz, .ref c_t, .ref c_k, .ref c_f])), (c_t, .inl (cI, 14, .inl c_st)), (c_k, .inl (cI, 14, .inl c_sk)), (c_f, .inl (cI, 14, .inl c_sf)), (s_a, .inr (2, [.int s_sz, .ref s_t, .ref s_k, .ref s_f])), (s_t, .inl (cI, 2, .inl s_st)), (s_k, .inl (cI, 2, .inl s_sk)), (s_f, .inl (cI, 2, .inl s_sf)), (k_a, .inr (0, [.ref k_f, .ref k_s])), (k_f, .inl (cI, 25, .inl k_fh)), (k_s, .inl (cI, 25, .inl k_sh))] s.heap [] := w
  have hl : lv_has ls 2 [(0, .ref h_a), (1, .int a1)] := hl
  obtain ⟨H, eH⟩ : ∃ H, H = s.heap := ⟨_, rfl⟩
  rw [← eH] at w ⊢
  generalize ([] : List Loc) = locs at w ⊢
  generalize List.toArray _ = args at C ⊢
  obtain ⟨hx, hb, hr, hml, hown, hts, hlk⟩ := id C
  have hg : ∀ w ∈ GW, w.before args s = true := fun w h => hts w (List.mem_cons_of_mem _ h)
  unfold fX4_passEvening at hf
  refine lv_iload_n hx hb dX4_passEvening_0 rfl (lv_at hl 1 rfl) ?_
  refine lv_bipush (v := 64) hx hb dX4_passEvening_1 (by decide) ?_
  refine lv_icmp_ge (tgt := 23) hx hb dX4_passEvening_3 (by decide) (fun c1 => ?_) (fun c1 => ?_)
  · replace hf := ite_t c1 hf
    refine lv_iload_n hx hb dX4_passEvening_23 rfl (lv_at hl 1 rfl) ?_
    refine lv_bipush (v := 76) hx hb dX4_passEvening_24 (by decide) ?_
    refine lv_icmp_ge (tgt := 54) hx hb dX4_passEvening_26 (by decide) (fun c2 => ?_) (fun c2 => ?_)
    · replace hf := ite_t c2 hf
      refine lv_aload_n hx hb dX4_passEvening_54 rfl (lv_at hl 0 rfl) ?_
      refine va_get (D := D) (ci := 4) (v := .ref r_a) (C := RX4) (T := TX4) (N := 12) hx hb hg iX4 hown w.2.2.2.2.2.2.1 w.1 0 rfl rfl 2 (by decide) (hg _ w_87) (fun _ h9 => h9) rfl dX4_passEvening_55 ?_
      refine lv_iload_n hx hb dX4_passEvening_58 rfl (lv_at hl 1 rfl) ?_
      refine lv_bipush (v := 64) hx hb dX4_passEvening_59 (by decide) ?_
      refine lv_isub hx hb dX4_passEvening_61 ?_
      replace hf := ob_at hf
      obtain ⟨r3, er3, hf⟩ := hf
      refine k_goI (v0 := r_th) (res := r3) w [6, 7, 8] rfl (fun _ => rfl) (va_runV (As := [.int (a1 - (64 : Int32))]) (rest := []) ⟨hx, hb, hml, hown, hg⟩ (tX1_liftIfCan l D cI cZ b0 tt r_a r_c r_d r_th r_ki r_fe r_ca r_lo (a1 - (64 : Int32)) er3 H.size) (cwV 1 hg (gwV w_378 w_379 w_380 w_3 w_381) rfl rfl rfl ⟨rfl, qdX1_liftIfCan⟩ ⟨Nat.le_of_ble_eq_true rfl, Nat.le_of_ble_eq_true rfl⟩) (k_preV w [6, 7, 8] (by decide) rfl (q0 := 6) rfl rfl) rfl rfl hl.1 rfl (lv_room (Nat.le_of_ble_eq_true rfl)) dX4_passEvening_62 ⟨Nat.le_refl _, Nat.le_refl _⟩) (fun H locs w => ?_)
      have w : Wd D cI cZ b0 tt A s [(h_a, .inr (4, [.ref x_a, .ref n_a, .ref r_a, .ref c_a, .ref s_a, .ref k_a, .int h_ac, .int h_ks, .int h_hc, .int h_ok, .int h_tk, .long h_se])), (x_a, .inr (3, [.ref x_l, .int x_ln])), (x_l, .inl (cI, 56, .inl x_le)), (n_a, .inr (1, [.int n_th, .int n_ki, .int n_fe, .ref n_c, .ref n_d])), (n_c, .inl (cI, 4, .inl n_ca)), (n_d, .inl (cI, 16, .inl n_lo)), (r_a, .inr (1, [.int r3.2, .int r_ki, .int r_fe, .ref r_c, .ref r_d])), (r_c, .inl (cI, 4, .inl r_ca)), (r_d, .inl (cI, 16, .inl r_lo)), (c_a, .inr (2, [.int c_sz, .ref c_t, .ref c_k, .ref c_f])), (c_t, .inl (cI, 14, .inl c_st)), (c_k, .inl (cI, 14, .inl c_sk)), (c_f, .inl (cI, 14, .inl c_sf)), (s_a, .inr (2, [.int s_sz, .ref s_t, .ref s_k, .ref s_f])), (s_t, .inl (cI, 2, .inl s_st)), (s_k, .inl (cI, 2, .inl s_sk)), (s_f, .inl (cI, 2, .inl s_sf)), (k_a, .inr (0, [.ref k_f, .ref k_s])), (k_f, .inl (cI, 25, .inl k_fh)), (k_s, .inl (cI, 25, .inl k_sh))] H locs := w
      refine lv_pop hx hb dX4_passEvening_65 rfl ?_
      exact k_vret (u := (r3.2, r_ki, r_fe, r_lo)) hx hb hr hlk w rfl hf dX4_passEvening_66
    · replace hf := ite_f c2 hf
      refine lv_aload_n hx hb dX4_passEvening_29 rfl (lv_at hl 0 rfl) ?_
      refine va_get (D := D) (ci := 4) (v := .ref r_a) (C := RX4) (T := TX4) (N := 12) hx hb hg iX4 hown w.2.2.2.2.2.2.1 w.1 0 rfl rfl 2 (by decide) (hg _ w_87) (fun _ h9 => h9) rfl dX4_passEvening_30 ?_
      refine lv_iload_n hx hb dX4_passEvening_33 rfl (lv_at hl 1 rfl) ?_
      refine lv_bipush (v := 64) hx hb dX4_passEvening_34 (by decide) ?_
      refine lv_isub hx hb dX4_passEvening_36 ?_
      refine lv_iconst (v := 3) hx hb dX4_passEvening_37 (by decide) ?_
      refine lv_idiv hx hb dX4_passEvening_38 (by decide) ?_
      refine lv_iconst (v := 2) hx hb dX4_passEvening_39 (by decide) ?_
      refine lv_iload_n hx hb dX4_passEvening_40 rfl (lv_at hl 1 rfl) ?_
      refine lv_bipush (v := 64) hx hb dX4_passEvening_41 (by decide) ?_
      refine lv_isub hx hb dX4_passEvening_43 ?_
      refine lv_iconst (v := 3) hx hb dX4_passEvening_44 (by decide) ?_
      refine lv_irem hx hb dX4_passEvening_45 (by decide) ?_
      refine lv_iadd hx hb dX4_passEvening_46 ?_
      replace hf := ob_at hf
      obtain ⟨r4, er4, hf⟩ := hf
      refine k_goI (v0 := (r_th, r_fe, r_lo)) (res := r4) w [6, 7, 8] rfl (fun _ => rfl) (va_runV (As := [.int ((a1 - (64 : Int32)) / (3 : Int32)), .int ((2 : Int32) + ((a1 - (64 : Int32)) - (a1 - (64 : Int32)) / (3 : Int32) * (3 : Int32)))]) (rest := []) ⟨hx, hb, hml, hown, hg⟩ (tX1_blowIfCan l D cI cZ b0 tt r_a r_c r_d r_th r_ki r_fe r_ca r_lo ((a1 - (64 : Int32)) / (3 : Int32)) ((2 : Int32) + ((a1 - (64 : Int32)) - (a1 - (64 : Int32)) / (3 : Int32) * (3 : Int32))) er4 H.size) (cwV 2 hg (gwV w_384 w_385 w_386 w_3 w_387) rfl rfl rfl ⟨rfl, qdX1_blowIfCan⟩ ⟨Nat.le_of_ble_eq_true rfl, Nat.le_of_ble_eq_true rfl⟩) (k_preV w [6, 7, 8] (by decide) rfl (q0 := 6) rfl rfl) rfl rfl hl.1 rfl (lv_room (Nat.le_of_ble_eq_true rfl)) dX4_passEvening_47 ⟨Nat.le_refl _, Nat.le_refl _⟩) (fun H locs w => ?_)
      have w : Wd D cI cZ b0 tt A s [(h_a, .inr (4, [.ref x_a, .ref n_a, .ref r_a, .ref c_a, .ref s_a, .ref k_a, .int h_ac, .int h_ks, .int h_hc, .int h_ok, .int h_tk, .long h_se])), (x_a, .inr (3, [.ref x_l, .int x_ln])), (x_l, .inl (cI, 56, .inl x_le)), (n_a, .inr (1, [.int n_th, .int n_ki, .int n_fe, .ref n_c, .ref n_d])), (n_c, .inl (cI, 4, .inl n_ca)), (n_d, .inl (cI, 16, .inl n_lo)), (r_a, .inr (1, [.int r4.2.1, .int r_ki, .int r4.2.2.1, .ref r_c, .ref r_d])), (r_c, .inl (cI, 4, .inl r_ca)), (r_d, .inl (cI, 16, .inl r4.2.2.2)), (c_a, .inr (2, [.int c_sz, .ref c_t, .ref c_k, .ref c_f])), (c_t, .inl (cI, 14, .inl c_st)), (c_k, .inl (cI, 14, .inl c_sk)), (c_f, .inl (cI, 14, .inl c_sf)), (s_a, .inr (2, [.int s_sz, .ref s_t, .ref s_k, .ref s_f])), (s_t, .inl (cI, 2, .inl s_st)), (s_k, .inl (cI, 2, .inl s_sk)), (s_f, .inl (cI, 2, .inl s_sf)), (k_a, .inr (0, [.ref k_f, .ref k_s])), (k_f, .inl (cI, 25, .inl k_fh)), (k_s, .inl (cI, 25, .inl k_sh))] H locs := w
      refine lv_pop hx hb dX4_passEvening_50 rfl ?_
      refine lv_goto (tgt := 66) hx hb dX4_passEvening_51 (by decide) ?_
      exact k_vret (u := (r4.2.1, r_ki, r4.2.2.1, r4.2.2.2)) hx hb hr hlk w rfl hf dX4_passEvening_66
  · replace hf := ite_f c1 hf
    refine lv_aload_n hx hb dX4_passEvening_6 rfl (lv_at hl 0 rfl) ?_
    refine va_get (D := D) (ci := 4) (v := .ref r_a) (C := RX4) (T := TX4) (N := 12) hx hb hg iX4 hown w.2.2.2.2.2.2.1 w.1 0 rfl rfl 2 (by decide) (hg _ w_87) (fun _ h9 => h9) rfl dX4_passEvening_7 ?_
    refine lv_iload_n hx hb dX4_passEvening_10 rfl (lv_at hl 1 rfl) ?_
    refine lv_iconst (v := 4) hx hb dX4_passEvening_11 (by decide) ?_
    refine lv_idiv hx hb dX4_passEvening_12 (by decide) ?_
    refine lv_iload_n hx hb dX4_passEvening_13 rfl (lv_at hl 1 rfl) ?_
    refine lv_iconst (v := 4) hx hb dX4_passEvening_14 (by decide) ?_
    refine lv_irem hx hb dX4_passEvening_15 (by decide) ?_
    replace hf := ob_at hf
    obtain ⟨r5, er5, hf⟩ := hf
    refine k_goI (v0 := (r_th, r_ki, r_fe, r_lo)) (res := r5) w [6, 7, 8] rfl (fun _ => rfl) (va_runV (As := [.int (a1 / (4 : Int32)), .int (a1 - a1 / (4 : Int32) * (4 : Int32))]) (rest := []) ⟨hx, hb, hml, hown, hg⟩ (tX1_layIfCan l D cI cZ b0 tt r_a r_c r_d r_th r_ki r_fe r_ca r_lo (a1 / (4 : Int32)) (a1 - a1 / (4 : Int32) * (4 : Int32)) er5 H.size) (cwV 2 hg (gwV w_373 w_374 w_375 w_3 w_376) rfl rfl rfl ⟨rfl, qdX1_layIfCan⟩ ⟨Nat.le_of_ble_eq_true rfl, Nat.le_of_ble_eq_true rfl⟩) (k_preV w [6, 7, 8] (by decide) rfl (q0 := 6) rfl rfl) rfl rfl hl.1 rfl (lv_room (Nat.le_of_ble_eq_true rfl)) dX4_passEvening_16 ⟨Nat.le_refl _, Nat.le_refl _⟩) (fun H locs w => ?_)
    have w : Wd D cI cZ b0 tt A s [(h_a, .inr (4, [.ref x_a, .ref n_a, .ref r_a, .ref c_a, .ref s_a, .ref k_a, .int h_ac, .int h_ks, .int h_hc, .int h_ok, .int h_tk, .long h_se])), (x_a, .inr (3, [.ref x_l, .int x_ln])), (x_l, .inl (cI, 56, .inl x_le)), (n_a, .inr (1, [.int n_th, .int n_ki, .int n_fe, .ref n_c, .ref n_d])), (n_c, .inl (cI, 4, .inl n_ca)), (n_d, .inl (cI, 16, .inl n_lo)), (r_a, .inr (1, [.int r5.2.1, .int r5.2.2.1, .int r5.2.2.2.1, .ref r_c, .ref r_d])), (r_c, .inl (cI, 4, .inl r_ca)), (r_d, .inl (cI, 16, .inl r5.2.2.2.2)), (c_a, .inr (2, [.int c_sz, .ref c_t, .ref c_k, .ref c_f])), (c_t, .inl (cI, 14, .inl c_st)), (c_k, .inl (cI, 14, .inl c_sk)), (c_f, .inl (cI, 14, .inl c_sf)), (s_a, .inr (2, [.int s_sz, .ref s_t, .ref s_k, .ref s_f])), (s_t, .inl (cI, 2, .inl s_st)), (s_k, .inl (cI, 2, .inl s_sk)), (s_f, .inl (cI, 2, .inl s_sf)), (k_a, .inr (0, [.ref k_f, .ref k_s])), (k_f, .inl (cI, 25, .inl k_fh)), (k_s, .inl (cI, 25, .inl k_sh))] H locs := w
    refine lv_pop hx hb dX4_passEvening_19 rfl ?_
    refine lv_goto (tgt := 66) hx hb dX4_passEvening_20 (by decide) ?_
    exact k_vret (u := (r5.2.1, r5.2.2.1, r5.2.2.2.1, r5.2.2.2.2)) hx hb hr hlk w rfl hf dX4_passEvening_66
