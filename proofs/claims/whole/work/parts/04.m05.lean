-- X4_cardsInDeck
def fX4_cardsInDeck_L4   (n_th : Int32) (n_ki : Int32) (n_ca : Nat → Int32) : Nat → Int32 → Int32 → Option (Int32)
  | 0, _, _ => none
  | n + 1, v1, v2 => (if 4 ≤ v2 then some v1 else ob (fX1_cardsLeft n_th n_ki n_ca v2) (fun r2 => nm (v1 + r2) (fun z3 => nm (v2 + 1) (fun z4 => fX4_cardsInDeck_L4 n_th n_ki n_ca n z3 z4))))
set_option maxRecDepth 100000 in
set_option maxHeartbeats 4000000 in
theorem tX4_cardsInDeck_L4 {p : Program} {l : Launch} {e : Env} {s : State} {m : MethodId} {args : Array Value} {below : List Frame} {meth : Method} {c : Code} {D : va_G} {cI cZ : ClassId} {b0 : Nat} {tt : Nat → Nat} {A : Nat → Prop}  {h_a x_a n_a r_a c_a s_a k_a x_l n_c n_d r_c r_d c_t c_k c_f s_t s_k s_f k_f k_s : Nat}  {n_th : Int32} {n_ki : Int32} {n_ca : Nat → Int32} {h_ac : Int32} {h_ks : Int32} {h_hc : Int32} {h_ok : Int32} {h_tk : Int32} {h_se : Int64} {x_ln : Int32} {x_le : Nat → Int32} {n_fe : Int32} {n_lo : Nat → Int32} {r_th : Int32} {r_ki : Int32} {r_fe : Int32} {r_ca : Nat → Int32} {r_lo : Nat → Int32} {c_sz : Int32} {c_st : Nat → Int32} {c_sk : Nat → Int32} {c_sf : Nat → Int32} {s_sz : Int32} {s_st : Nat → Int32} {s_sk : Nat → Int32} {s_sf : Nat → Int32} {k_fh : Nat → Int32} {k_sh : Nat → Int32} {res : Int32} (C : Cx p s m args meth c cX4_cardsInDeck 3 (some .int) (cwX4_cardsInDeck :: GW) RX4) : ∀ (n : Nat) (v1 : Int32) (v2 : Int32) (H : Heap) (locs : List Loc) (ls : Array Slot), fX4_cardsInDeck_L4 n_th n_ki n_ca n v1 v2 = some res → Wd D cI cZ b0 tt A s [(h_a, .inr (4, [.ref x_a, .ref n_a, .ref r_a, .ref c_a, .ref s_a, .ref k_a, .int h_ac, .int h_ks, .int h_hc, .int h_ok, .int h_tk, .long h_se])), (x_a, .inr (3, [.ref x_l, .int x_ln])), (x_l, .inl (cI, 56, .inl x_le)), (n_a, .inr (1, [.int n_th, .int n_ki, .int n_fe, .ref n_c, .ref n_d])), (n_c, .inl (cI, 4, .inl n_ca)), (n_d, .inl (cI, 16, .inl n_lo)), (r_a, .inr (1, [.int r_th, .int r_ki, .int r_fe, .ref r_c, .ref r_d])), (r_c, .inl (cI, 4, .inl r_ca)), (r_d, .inl (cI, 16, .inl r_lo)), (c_a, .inr (2, [.int c_sz, .ref c_t, .ref c_k, .ref c_f])), (c_t, .inl (cI, 14, .inl c_st)), (c_k, .inl (cI, 14, .inl c_sk)), (c_f, .inl (cI, 14, .inl c_sf)), (s_a, .inr (2, [.int s_sz, .ref s_t, .ref s_k, .ref s_f])), (s_t, .inl (cI, 2, .inl s_st)), (s_k, .inl (cI, 2, .inl s_sk)), (s_f, .inl (cI, 2, .inl s_sf)), (k_a, .inr (0, [.ref k_f, .ref k_s])), (k_f, .inl (cI, 25, .inl k_fh)), (k_s, .inl (cI, 25, .inl k_sh))] H locs → lv_has ls 3 [(0, .ref h_a), (1, .int v1), (2, .int v2)] → W p l e (rmo 2 44) s m args below meth c H locs 0 0 (MQ below (QI D (fun _ : Unit => [(h_a, .inr (4, [.ref x_a, .ref n_a, .ref r_a, .ref c_a, .ref s_a, .ref k_a, .int h_ac, .int h_ks, .int h_hc, .int h_ok, .int h_tk, .long h_se])), (x_a, .inr (3, [.ref x_l, .int x_ln])), (x_l, .inl (cI, 56, .inl x_le)), (n_a, .inr (1, [.int n_th, .int n_ki, .int n_fe, .ref n_c, .ref n_d])), (n_c, .inl (cI, 4, .inl n_ca)), (n_d, .inl (cI, 16, .inl n_lo)), (r_a, .inr (1, [.int r_th, .int r_ki, .int r_fe, .ref r_c, .ref r_d])), (r_c, .inl (cI, 4, .inl r_ca)), (r_d, .inl (cI, 16, .inl r_lo)), (c_a, .inr (2, [.int c_sz, .ref c_t, .ref c_k, .ref c_f])), (c_t, .inl (cI, 14, .inl c_st)), (c_k, .inl (cI, 14, .inl c_sk)), (c_f, .inl (cI, 14, .inl c_sf)), (s_a, .inr (2, [.int s_sz, .ref s_t, .ref s_k, .ref s_f])), (s_t, .inl (cI, 2, .inl s_st)), (s_k, .inl (cI, 2, .inl s_sk)), (s_f, .inl (cI, 2, .inl s_sf)), (k_a, .inr (0, [.ref k_f, .ref k_s])), (k_f, .inl (cI, 25, .inl k_fh)), (k_s, .inl (cI, 25, .inl k_sh))]) A (res, ())) args s 0 0 A) (F0 m 4 ls []) := by
  obtain ⟨hx, hb, hr, hml, hown, hts, hlk⟩ := id C
  have hg : ∀ w ∈ GW, w.before args s = true := fun w h => hts w (List.mem_cons_of_mem _ h)
  intro n
  induction n with
  | zero =>
    intro _ _ H locs ls hf
    rw [fX4_cardsInDeck_L4] at hf
    cases hf
  | succ n ih =>
    intro v1 v2 H locs ls hf w hl
    rw [fX4_cardsInDeck_L4] at hf
    refine lv_iload_n hx hb dX4_cardsInDeck_4 rfl (lv_at hl 2 rfl) ?_
    refine lv_iconst (v := 4) hx hb dX4_cardsInDeck_5 (by decide) ?_
    refine lv_icmp_ge (tgt := 26) hx hb dX4_cardsInDeck_6 (by decide) (fun c1 => ?_) (fun c1 => ?_)
    · replace hf := ite_t c1 hf
      refine lv_iload_n hx hb dX4_cardsInDeck_26 rfl (lv_at hl 1 rfl) ?_
      exact k_iret (u := ()) hx hb hr hlk w rfl (k_ret1 hf) dX4_cardsInDeck_27
    · replace hf := ite_f c1 hf
      refine lv_iload_n hx hb dX4_cardsInDeck_9 rfl (lv_at hl 1 rfl) ?_
      refine lv_aload_n hx hb dX4_cardsInDeck_10 rfl (lv_at hl 0 rfl) ?_
      refine va_get (D := D) (ci := 4) (v := .ref n_a) (C := RX4) (T := TX4) (N := 12) hx hb hg iX4 hown w.2.2.2.2.2.2.1 w.1 0 rfl rfl 1 (by decide) (hg _ w_86) (fun _ h9 => h9) rfl dX4_cardsInDeck_11 ?_
      refine lv_iload_n hx hb dX4_cardsInDeck_14 rfl (lv_at hl 2 rfl) ?_
      replace hf := ob_at hf
      obtain ⟨r2, er2, hf⟩ := hf
      refine k_goI0 w [3, 4, 5] rfl (va_runV (As := [.int v2]) (rest := [.int v1]) ⟨hx, hb, hml, hown, hg⟩ (tX1_cardsLeft l D cI cZ b0 tt n_a n_c n_d n_th n_ki n_fe n_ca n_lo v2 er2 H.size) (cwV 1 hg (gwV w_243 w_162 w_163 w_3 w_164) rfl rfl rfl ⟨rfl, qdX1_cardsLeft⟩ ⟨Nat.le_of_ble_eq_true rfl, Nat.le_of_ble_eq_true rfl⟩) (k_preV w [3, 4, 5] (by decide) rfl (q0 := 3) rfl rfl) rfl rfl hl.1 rfl (lv_room (Nat.le_of_ble_eq_true rfl)) dX4_cardsInDeck_15 ⟨Nat.le_refl _, Nat.le_refl _⟩) (fun H locs w => ?_)
      refine lv_iadd hx hb dX4_cardsInDeck_18 ?_
      refine lv_topi (fun z3 ez3 => ?_)
      replace hf := nm_at ez3 hf
      refine lv_istore_n (lv' := [(1, .int z3), (0, .ref h_a), (2, .int v2)]) hx hb dX4_cardsInDeck_19 rfl hl (by decide) rfl (fun ls hl => ?_)
      obtain ⟨z4, ez4⟩ : ∃ y : Int32, y = (v2 + 1) := ⟨_, rfl⟩
      replace hf := nm_at ez4 hf
      refine lv_iinc (v := z4) (lv' := [(2, .int z4), (1, .int z3), (0, .ref h_a)]) hx hb dX4_cardsInDeck_20 hl (k := 2) rfl (by rw [ez4]; rfl) (by decide) rfl (fun ls hl => ?_)
      refine lv_goto (tgt := 4) hx hb dX4_cardsInDeck_23 (by decide) ?_
      exact ih z3 z4 H locs ls hf w (lv_sub hl [2, 1, 0] rfl)
def fX4_cardsInDeck  (n_th : Int32) (n_ki : Int32) (n_ca : Nat → Int32) : Option (Int32) := fX4_cardsInDeck_L4 n_th n_ki n_ca FU 0 0
set_option maxRecDepth 100000 in
set_option maxHeartbeats 4000000 in
theorem tX4_cardsInDeck (l : Launch) (D : va_G) (cI cZ : ClassId) (b0 : Nat) (tt : Nat → Nat)  (h_a x_a n_a r_a c_a s_a k_a x_l n_c n_d r_c r_d c_t c_k c_f s_t s_k s_f k_f k_s : Nat) (h_ac : Int32) (h_ks : Int32) (h_hc : Int32) (h_ok : Int32) (h_tk : Int32) (h_se : Int64) (x_ln : Int32) (x_le : Nat → Int32) (n_th : Int32) (n_ki : Int32) (n_fe : Int32) (n_ca : Nat → Int32) (n_lo : Nat → Int32) (r_th : Int32) (r_ki : Int32) (r_fe : Int32) (r_ca : Nat → Int32) (r_lo : Nat → Int32) (c_sz : Int32) (c_st : Nat → Int32) (c_sk : Nat → Int32) (c_sf : Nat → Int32) (s_sz : Int32) (s_st : Nat → Int32) (s_sk : Nat → Int32) (s_sf : Nat → Int32) (k_fh : Nat → Int32) (k_sh : Nat → Int32)  {res : Int32} (hf : fX4_cardsInDeck n_th n_ki n_ca = some res) : CtI l yX4_cardsInDeck (cwX4_cardsInDeck :: GW) 2 44 D cI cZ b0 tt [.ref h_a] (fun _ : Unit => [(h_a, .inr (4, [.ref x_a, .ref n_a, .ref r_a, .ref c_a, .ref s_a, .ref k_a, .int h_ac, .int h_ks, .int h_hc, .int h_ok, .int h_tk, .long h_se])), (x_a, .inr (3, [.ref x_l, .int x_ln])), (x_l, .inl (cI, 56, .inl x_le)), (n_a, .inr (1, [.int n_th, .int n_ki, .int n_fe, .ref n_c, .ref n_d])), (n_c, .inl (cI, 4, .inl n_ca)), (n_d, .inl (cI, 16, .inl n_lo)), (r_a, .inr (1, [.int r_th, .int r_ki, .int r_fe, .ref r_c, .ref r_d])), (r_c, .inl (cI, 4, .inl r_ca)), (r_d, .inl (cI, 16, .inl r_lo)), (c_a, .inr (2, [.int c_sz, .ref c_t, .ref c_k, .ref c_f])), (c_t, .inl (cI, 14, .inl c_st)), (c_k, .inl (cI, 14, .inl c_sk)), (c_f, .inl (cI, 14, .inl c_sf)), (s_a, .inr (2, [.int s_sz, .ref s_t, .ref s_k, .ref s_f])), (s_t, .inl (cI, 2, .inl s_st)), (s_k, .inl (cI, 2, .inl s_sk)), (s_f, .inl (cI, 2, .inl s_sf)), (k_a, .inr (0, [.ref k_f, .ref k_s])), (k_f, .inl (cI, 25, .inl k_fh)), (k_s, .inl (cI, 25, .inl k_sh))]) () (res, ()) := by
  intro sz
  refine k_begin (cc := cX4_cardsInDeck) (maxL := 3) (ret := (some .int)) (by decide) rfl (Nat.le_of_ble_eq_true rfl) ?_
  intro p e s m below meth c ls C w hl
  generalize va_A _ sz = A at w ⊢
  have w : Wd D cI cZ b0 tt A s [(h_a, .inr (4, [.ref x_a, .ref n_a, .ref r_a, .ref c_a, .ref s_a, .ref k_a, .int h_ac, .int h_ks, .int h_hc, .int h_ok, .int h_tk, .long h_se])), (x_a, .inr (3, [.ref x_l, .int x_ln])), (x_l, .inl (cI, 56, .inl x_le)), (n_a, .inr (1, [.int n_th, .int n_ki, .int n_fe, .ref n_c, .ref n_d])), (n_c, .inl (cI, 4, .inl n_ca)), (n_d, .inl (cI, 16, .inl n_lo)), (r_a, .inr (1, [.int r_th, .int r_ki, .int r_fe, .ref r_c, .ref r_d])), (r_c, .inl (cI, 4, .inl r_ca)), (r_d, .inl (cI, 16, .inl r_lo)), (c_a, .inr (2, [.int c_sz, .ref c_t, .ref c_k, .ref c_f])), (c_t, .inl (cI, 14, .inl c_st)), (c_k, .inl (cI, 14, .inl c_sk)), (c_f, .inl (cI, 14, .inl c_sf)), (s_a, .inr (2, [.int s_sz, .ref s_t, .ref s_k, .ref s_f])), (s_t, .inl (cI, 2, .inl s_st)), (s_k, .inl (cI, 2, .inl s_sk)), (s_f, .inl (cI, 2, .inl s_sf)), (k_a, .inr (0, [.ref k_f, .ref k_s])), (k_f, .inl (cI, 25, .inl k_fh)), (k_s, .inl (cI, 25, .inl k_sh))] s.heap [] := w
  have hl : lv_has ls 3 [(0, .ref h_a)] := hl
  obtain ⟨H, eH⟩ : ∃ H, H = s.heap := ⟨_, rfl⟩
  rw [← eH] at w ⊢
  generalize ([] : List Loc) = locs at w ⊢
  generalize List.toArray _ = args at C ⊢
  obtain ⟨hx, hb, hr, hml, hown, hts, hlk⟩ := id C
  have hg : ∀ w ∈ GW, w.before args s = true := fun w h => hts w (List.mem_cons_of_mem _ h)
  unfold fX4_cardsInDeck at hf
  refine lv_iconst (v := 0) hx hb dX4_cardsInDeck_0 (by decide) ?_
  refine lv_istore_n (lv' := [(1, .int 0), (0, .ref h_a)]) hx hb dX4_cardsInDeck_1 rfl hl (by decide) rfl (fun ls hl => ?_)
  refine lv_iconst (v := 0) hx hb dX4_cardsInDeck_2 (by decide) ?_
  refine lv_istore_n (lv' := [(2, .int 0), (1, .int 0), (0, .ref h_a)]) hx hb dX4_cardsInDeck_3 rfl hl (by decide) rfl (fun ls hl => ?_)
  exact tX4_cardsInDeck_L4 (n_th := n_th) (n_ki := n_ki) (n_ca := n_ca) (h_ac := h_ac) (h_ks := h_ks) (h_hc := h_hc) (h_ok := h_ok) (h_tk := h_tk) (h_se := h_se) (x_ln := x_ln) (x_le := x_le) (n_fe := n_fe) (n_lo := n_lo) (r_th := r_th) (r_ki := r_ki) (r_fe := r_fe) (r_ca := r_ca) (r_lo := r_lo) (c_sz := c_sz) (c_st := c_st) (c_sk := c_sk) (c_sf := c_sf) (s_sz := s_sz) (s_st := s_st) (s_sk := s_sk) (s_sf := s_sf) (k_fh := k_fh) (k_sh := k_sh) (C := C) FU 0 0 H locs ls hf w (lv_sub hl [2, 1, 0] rfl)
-- X4_about
def fX4_about  (h_ac : Int32) (h_hc : Int32) (x_ln : Int32) (n_th : Int32) (n_ki : Int32) (n_fe : Int32) (n_ca : Nat → Int32) (a1 : Int32) : Option (Int32) := (if a1 = 0 then ob (fX1_size n_th) (fun r2 => some r2) else (if a1 = 1 then some n_th else (if a1 = 2 then ob (fX4_cardsInDeck n_th n_ki n_ca) (fun r5 => some r5) else (if a1 = 3 then some n_fe else (if a1 = 4 then ob (fX1_highestLevel n_th) (fun r8 => some r8) else (if a1 = 5 then some h_ac else (if a1 = 6 then some h_hc else (if a1 = 7 then some x_ln else some (-2)))))))))
set_option maxRecDepth 100000 in
set_option maxHeartbeats 4000000 in
theorem tX4_about (l : Launch) (D : va_G) (cI cZ : ClassId) (b0 : Nat) (tt : Nat → Nat)  (h_a x_a n_a r_a c_a s_a k_a x_l n_c n_d r_c r_d c_t c_k c_f s_t s_k s_f k_f k_s : Nat) (h_ac : Int32) (h_ks : Int32) (h_hc : Int32) (h_ok : Int32) (h_tk : Int32) (h_se : Int64) (x_ln : Int32) (x_le : Nat → Int32) (n_th : Int32) (n_ki : Int32) (n_fe : Int32) (n_ca : Nat → Int32) (n_lo : Nat → Int32) (r_th : Int32) (r_ki : Int32) (r_fe : Int32) (r_ca : Nat → Int32) (r_lo : Nat → Int32) (c_sz : Int32) (c_st : Nat → Int32) (c_sk : Nat → Int32) (c_sf : Nat → Int32) (s_sz : Int32) (s_st : Nat → Int32) (s_sk : Nat → Int32) (s_sf : Nat → Int32) (k_fh : Nat → Int32) (k_sh : Nat → Int32) (a1 : Int32) {res : Int32} (hf : fX4_about h_ac h_hc x_ln n_th n_ki n_fe n_ca a1 = some res) : CtI l yX4_about (cwX4_about :: GW) 3 66 D cI cZ b0 tt [.ref h_a, .int a1] (fun _ : Unit => [(h_a, .inr (4, [.ref x_a, .ref n_a, .ref r_a, .ref c_a, .ref s_a, .ref k_a, .int h_ac, .int h_ks, .int h_hc, .int h_ok, .int h_tk, .long h_se])), (x_a, .inr (3, [.ref x_l, .int x_ln])), (x_l, .inl (cI, 56, .inl x_le)), (n_a, .inr (1, [.int n_th, .int n_ki, .int n_fe, .ref n_c, .ref n_d])), (n_c, .inl (cI, 4, .inl n_ca)), (n_d, .inl (cI, 16, .inl n_lo)), (r_a, .inr (1, [.int r_th, .int r_ki, .int r_fe, .ref r_c, .ref r_d])), (r_c, .inl (cI, 4, .inl r_ca)), (r_d, .inl (cI, 16, .inl r_lo)), (c_a, .inr (2, [.int c_sz, .ref c_t, .ref c_k, .ref c_f])), (c_t, .inl (cI, 14, .inl c_st)), (c_k, .inl (cI, 14, .inl c_sk)), (c_f, .inl (cI, 14, .inl c_sf)), (s_a, .inr (2, [.int s_sz, .ref s_t, .ref s_k, .ref s_f])), (s_t, .inl (cI, 2, .inl s_st)), (s_k, .inl (cI, 2, .inl s_sk)), (s_f, .inl (cI, 2, .inl s_sf)), (k_a, .inr (0, [.ref k_f, .ref k_s])), (k_f, .inl (cI, 25, .inl k_fh)), (k_s, .inl (cI, 25, .inl k_sh))]) () (res, ()) := by
  intro sz
  refine k_begin (cc := cX4_about) (maxL := 2) (ret := (some .int)) (by decide) rfl (Nat.le_of_ble_eq_true rfl) ?_
  intro p e s m below meth c ls C w hl
  generalize va_A _ sz = A at w ⊢
  have w : Wd D cI cZ b0 tt A s [(h_a, .inr (4, [.ref x_a, .ref n_a, .ref r_a, .ref c_a, .ref s_a, .ref k_a, .int h_ac, .int h_ks, .int h_hc, .int h_ok, .int h_tk, .long h_se])), (x_a, .inr (3, [.ref x_l, .int x_ln])), (x_l, .inl (cI, 56, .inl x_le)), (n_a, .inr (1, [.int n_th, .int n_ki, .int n_fe, .ref n_c, .ref n_d])), (n_c, .inl (cI, 4, .inl n_ca)), (n_d, .inl (cI, 16, .inl n_lo)), (r_a, .inr (1, [.int r_th, .int r_ki, .int r_fe, .ref r_c, .ref r_d])), (r_c, .inl (cI, 4, .inl r_ca)), (r_d, .inl (cI, 16, .inl r_lo)), (c_a, .inr (2, [.int c_sz, .ref c_t, .ref c_k, .ref c_f])), (c_t, .inl (cI, 14, .inl c_st)), (c_k, .inl (cI, 14, .inl c_sk)), (c_f, .inl (cI, 14, .inl c_sf)), (s_a, .inr (2, [.int s_sz, .ref s_t, .ref s_k, .ref s_f])), (s_t, .inl (cI, 2, .inl s_st)), (s_k, .inl (cI, 2, .inl s_sk)), (s_f, .inl (cI, 2, .inl s_sf)), (k_a, .inr (0, [.ref k_f, .ref k_s])), (k_f, .inl (cI, 25, .inl k_fh)), (k_s, .inl (cI, 25, .inl k_sh))] s.heap [] := w
  have hl : lv_has ls 2 [(0, .ref h_a), (1, .int a1)] := hl
  obtain ⟨H, eH⟩ : ∃ H, H = s.heap := ⟨_, rfl⟩
  rw [← eH] at w ⊢
  generalize ([] : List Loc) = locs at w ⊢
  generalize List.toArray _ = args at C ⊢
  obtain ⟨hx, hb, hr, hml, hown, hts, hlk⟩ := id C
  have hg : ∀ w ∈ GW, w.before args s = true := fun w h => hts w (List.mem_cons_of_mem _ h)
  unfold fX4_about at hf
  refine lv_iload_n hx hb dX4_about_0 rfl (lv_at hl 1 rfl) ?_
  by_cases c1 : a1 = 0
  · replace hf := ite_t c1 hf
    refine lv_tableIn (off := 47) (tgt := 48) hx hb dX4_about_1 (by rw [c1]; decide) (by rw [c1]; decide) (by rw [c1]; decide) (by decide) ?_
    refine lv_aload_n hx hb dX4_about_48 rfl (lv_at hl 0 rfl) ?_
    refine va_get (D := D) (ci := 4) (v := .ref n_a) (C := RX4) (T := TX4) (N := 12) hx hb hg iX4 hown w.2.2.2.2.2.2.1 w.1 0 rfl rfl 1 (by decide) (hg _ w_86) (fun _ h9 => h9) rfl dX4_about_49 ?_
    replace hf := ob_at hf
    obtain ⟨r2, er2, hf⟩ := hf
    refine k_goI0 w [3, 4, 5] rfl (va_runV (As := []) (rest := []) ⟨hx, hb, hml, hown, hg⟩ (tX1_size l D cI cZ b0 tt n_a n_c n_d n_th n_ki n_fe n_ca n_lo er2 H.size) (cwV 0 hg (gwV w_232 w_233 w_234 w_3 w_235) rfl rfl rfl ⟨rfl, qdX1_size⟩ ⟨Nat.le_of_ble_eq_true rfl, Nat.le_of_ble_eq_true rfl⟩) (k_preV w [3, 4, 5] (by decide) rfl (q0 := 3) rfl rfl) rfl rfl hl.1 rfl (lv_room (Nat.le_of_ble_eq_true rfl)) dX4_about_52 ⟨Nat.le_refl _, Nat.le_refl _⟩) (fun H locs w => ?_)
    exact k_iret (u := ()) hx hb hr hlk w rfl (k_ret1 hf) dX4_about_55
  · replace hf := ite_f c1 hf
    by_cases c3 : a1 = 1
    · replace hf := ite_t c3 hf
      refine lv_tableIn (off := 55) (tgt := 56) hx hb dX4_about_1 (by rw [c3]; decide) (by rw [c3]; decide) (by rw [c3]; decide) (by decide) ?_
      refine lv_aload_n hx hb dX4_about_56 rfl (lv_at hl 0 rfl) ?_
      refine va_get (D := D) (ci := 4) (v := .ref n_a) (C := RX4) (T := TX4) (N := 12) hx hb hg iX4 hown w.2.2.2.2.2.2.1 w.1 0 rfl rfl 1 (by decide) (hg _ w_86) (fun _ h9 => h9) rfl dX4_about_57 ?_
      refine va_getN (D := D) (ci := 1) (v := .int n_th) (C := RX1) (T := TX1) (N := 5) hx hb hg iX1 hown w.2.2.2.2.2.2.1 w.1 3 rfl rfl 0 (by decide) (k_nf w 2 (q := ("CardHouse", 82, "CardHouse$Pile", "there", "I")) rfl) (fun _ h9 => h9) rfl dX4_about_60 ?_
      exact k_iret (u := ()) hx hb hr hlk w rfl (k_ret1 hf) dX4_about_63
    · replace hf := ite_f c3 hf
      by_cases c4 : a1 = 2
      · replace hf := ite_t c4 hf
        refine lv_tableIn (off := 63) (tgt := 64) hx hb dX4_about_1 (by rw [c4]; decide) (by rw [c4]; decide) (by rw [c4]; decide) (by decide) ?_
        refine lv_aload_n hx hb dX4_about_64 rfl (lv_at hl 0 rfl) ?_
        replace hf := ob_at hf
        obtain ⟨r5, er5, hf⟩ := hf
        refine k_goI0 w [0, 1, 2, 3, 4, 5, 6, 7, 8, 9, 10, 11, 12, 13, 14, 15, 16, 17, 18, 19] rfl (va_runV (As := []) (rest := []) ⟨hx, hb, hml, hown, hg⟩ (tX4_cardsInDeck l D cI cZ b0 tt h_a x_a n_a r_a c_a s_a k_a x_l n_c n_d r_c r_d c_t c_k c_f s_t s_k s_f k_f k_s h_ac h_ks h_hc h_ok h_tk h_se x_ln x_le n_th n_ki n_fe n_ca n_lo r_th r_ki r_fe r_ca r_lo c_sz c_st c_sk c_sf s_sz s_st s_sk s_sf k_fh k_sh er5 H.size) (cwV 0 hg (gwV w_240 w_241 w_835 w_1 w_242) rfl rfl rfl ⟨rfl, qdX4_cardsInDeck⟩ ⟨Nat.le_of_ble_eq_true rfl, Nat.le_of_ble_eq_true rfl⟩) (k_preV w [0, 1, 2, 3, 4, 5, 6, 7, 8, 9, 10, 11, 12, 13, 14, 15, 16, 17, 18, 19] (by decide) rfl (q0 := 0) rfl rfl) rfl rfl hl.1 rfl (lv_room (Nat.le_of_ble_eq_true rfl)) dX4_about_65 ⟨Nat.le_refl _, Nat.le_refl _⟩) (fun H locs w => ?_)
        exact k_iret (u := ()) hx hb hr hlk w rfl (k_ret1 hf) dX4_about_68
      · replace hf := ite_f c4 hf
        by_cases c6 : a1 = 3
        · replace hf := ite_t c6 hf
          refine lv_tableIn (off := 68) (tgt := 69) hx hb dX4_about_1 (by rw [c6]; decide) (by rw [c6]; decide) (by rw [c6]; decide) (by decide) ?_
          refine lv_aload_n hx hb dX4_about_69 rfl (lv_at hl 0 rfl) ?_
          refine va_get (D := D) (ci := 4) (v := .ref n_a) (C := RX4) (T := TX4) (N := 12) hx hb hg iX4 hown w.2.2.2.2.2.2.1 w.1 0 rfl rfl 1 (by decide) (hg _ w_86) (fun _ h9 => h9) rfl dX4_about_70 ?_
          refine va_getN (D := D) (ci := 1) (v := .int n_fe) (C := RX1) (T := TX1) (N := 5) hx hb hg iX1 hown w.2.2.2.2.2.2.1 w.1 3 rfl rfl 2 (by decide) (k_nf w 1 (q := ("CardHouse", 66, "CardHouse$Pile", "fell", "I")) rfl) (fun _ h9 => h9) rfl dX4_about_73 ?_
          exact k_iret (u := ()) hx hb hr hlk w rfl (k_ret1 hf) dX4_about_76
        · replace hf := ite_f c6 hf
          by_cases c7 : a1 = 4
          · replace hf := ite_t c7 hf
            refine lv_tableIn (off := 76) (tgt := 77) hx hb dX4_about_1 (by rw [c7]; decide) (by rw [c7]; decide) (by rw [c7]; decide) (by decide) ?_
            refine lv_aload_n hx hb dX4_about_77 rfl (lv_at hl 0 rfl) ?_
            refine va_get (D := D) (ci := 4) (v := .ref n_a) (C := RX4) (T := TX4) (N := 12) hx hb hg iX4 hown w.2.2.2.2.2.2.1 w.1 0 rfl rfl 1 (by decide) (hg _ w_86) (fun _ h9 => h9) rfl dX4_about_78 ?_
            replace hf := ob_at hf
            obtain ⟨r8, er8, hf⟩ := hf
            refine k_goI0 w [3, 4, 5] rfl (va_runV (As := []) (rest := []) ⟨hx, hb, hml, hown, hg⟩ (tX1_highestLevel l D cI cZ b0 tt n_a n_c n_d n_th n_ki n_fe n_ca n_lo er8 H.size) (cwV 0 hg (gwV w_244 w_245 w_246 w_3 w_247) rfl rfl rfl ⟨rfl, qdX1_highestLevel⟩ ⟨Nat.le_of_ble_eq_true rfl, Nat.le_of_ble_eq_true rfl⟩) (k_preV w [3, 4, 5] (by decide) rfl (q0 := 3) rfl rfl) rfl rfl hl.1 rfl (lv_room (Nat.le_of_ble_eq_true rfl)) dX4_about_81 ⟨Nat.le_refl _, Nat.le_refl _⟩) (fun H locs w => ?_)
            exact k_iret (u := ()) hx hb hr hlk w rfl (k_ret1 hf) dX4_about_84
          · replace hf := ite_f c7 hf
            by_cases c9 : a1 = 5
            · replace hf := ite_t c9 hf
              refine lv_tableIn (off := 84) (tgt := 85) hx hb dX4_about_1 (by rw [c9]; decide) (by rw [c9]; decide) (by rw [c9]; decide) (by decide) ?_
              refine lv_aload_n hx hb dX4_about_85 rfl (lv_at hl 0 rfl) ?_
              refine va_get (D := D) (ci := 4) (v := .int h_ac) (C := RX4) (T := TX4) (N := 12) hx hb hg iX4 hown w.2.2.2.2.2.2.1 w.1 0 rfl rfl 6 (by decide) (hg _ w_91) (fun _ h9 => h9) rfl dX4_about_86 ?_
              exact k_iret (u := ()) hx hb hr hlk w rfl (k_ret1 hf) dX4_about_89
            · replace hf := ite_f c9 hf
              by_cases c10 : a1 = 6
              · replace hf := ite_t c10 hf
                refine lv_tableIn (off := 89) (tgt := 90) hx hb dX4_about_1 (by rw [c10]; decide) (by rw [c10]; decide) (by rw [c10]; decide) (by decide) ?_
                refine lv_aload_n hx hb dX4_about_90 rfl (lv_at hl 0 rfl) ?_
                refine va_get (D := D) (ci := 4) (v := .int h_hc) (C := RX4) (T := TX4) (N := 12) hx hb hg iX4 hown w.2.2.2.2.2.2.1 w.1 0 rfl rfl 8 (by decide) (hg _ w_93) (fun _ h9 => h9) rfl dX4_about_91 ?_
                exact k_iret (u := ()) hx hb hr hlk w rfl (k_ret1 hf) dX4_about_94
              · replace hf := ite_f c10 hf
                by_cases c11 : a1 = 7
                · replace hf := ite_t c11 hf
                  refine lv_tableIn (off := 94) (tgt := 95) hx hb dX4_about_1 (by rw [c11]; decide) (by rw [c11]; decide) (by rw [c11]; decide) (by decide) ?_
                  refine lv_aload_n hx hb dX4_about_95 rfl (lv_at hl 0 rfl) ?_
                  refine va_get (D := D) (ci := 4) (v := .ref x_a) (C := RX4) (T := TX4) (N := 12) hx hb hg iX4 hown w.2.2.2.2.2.2.1 w.1 0 rfl rfl 0 (by decide) (hg _ w_85) (fun _ h9 => h9) rfl dX4_about_96 ?_
                  refine va_getN (D := D) (ci := 3) (v := .int x_ln) (C := RX3) (T := TX3) (N := 2) hx hb hg iX3 hown w.2.2.2.2.2.2.1 w.1 1 rfl rfl 1 (by decide) (k_nf w 0 (q := ("CardHouse", 52, "CardHouse$Text", "length", "I")) rfl) (fun _ h9 => h9) rfl dX4_about_99 ?_
                  exact k_iret (u := ()) hx hb hr hlk w rfl (k_ret1 hf) dX4_about_102
                · replace hf := ite_f c11 hf
                  refine lv_tableOut (tgt := 103) hx hb dX4_about_1 (by have ec1 := lv_neT c1 (a := 0) (by decide); have ec3 := lv_neT c3 (a := 1) (by decide); have ec4 := lv_neT c4 (a := 2) (by decide); have ec6 := lv_neT c6 (a := 3) (by decide); have ec7 := lv_neT c7 (a := 4) (by decide); have ec9 := lv_neT c9 (a := 5) (by decide); have ec10 := lv_neT c10 (a := 6) (by decide); have ec11 := lv_neT c11 (a := 7) (by decide); omega) (by decide) ?_
                  refine lv_bipush (v := (-2)) hx hb dX4_about_103 (by decide) ?_
                  exact k_iret (u := ()) hx hb hr hlk w rfl (k_ret1 hf) dX4_about_105
-- X4_deck
def fX4_deck  (n_th : Int32) (n_ki : Int32) (n_ca : Nat → Int32) (a1 : Int32) : Option (Int32) := ob (fX4_isKind a1) (fun r1 => (if r1 = 0 then some (-1) else ob (fX1_cardsLeft n_th n_ki n_ca a1) (fun r3 => some r3)))
set_option maxRecDepth 100000 in
set_option maxHeartbeats 4000000 in
theorem tX4_deck (l : Launch) (D : va_G) (cI cZ : ClassId) (b0 : Nat) (tt : Nat → Nat)  (h_a x_a n_a r_a c_a s_a k_a x_l n_c n_d r_c r_d c_t c_k c_f s_t s_k s_f k_f k_s : Nat) (h_ac : Int32) (h_ks : Int32) (h_hc : Int32) (h_ok : Int32) (h_tk : Int32) (h_se : Int64) (x_ln : Int32) (x_le : Nat → Int32) (n_th : Int32) (n_ki : Int32) (n_fe : Int32) (n_ca : Nat → Int32) (n_lo : Nat → Int32) (r_th : Int32) (r_ki : Int32) (r_fe : Int32) (r_ca : Nat → Int32) (r_lo : Nat → Int32) (c_sz : Int32) (c_st : Nat → Int32) (c_sk : Nat → Int32) (c_sf : Nat → Int32) (s_sz : Int32) (s_st : Nat → Int32) (s_sk : Nat → Int32) (s_sf : Nat → Int32) (k_fh : Nat → Int32) (k_sh : Nat → Int32) (a1 : Int32) {res : Int32} (hf : fX4_deck n_th n_ki n_ca a1 = some res) : CtI l yX4_deck (cwX4_deck :: GW) 2 44 D cI cZ b0 tt [.ref h_a, .int a1] (fun _ : Unit => [(h_a, .inr (4, [.ref x_a, .ref n_a, .ref r_a, .ref c_a, .ref s_a, .ref k_a, .int h_ac, .int h_ks, .int h_hc, .int h_ok, .int h_tk, .long h_se])), (x_a, .inr (3, [.ref x_l, .int x_ln])), (x_l, .inl (cI, 56, .inl x_le)), (n_a, .inr (1, [.int n_th, .int n_ki, .int n_fe, .ref n_c, .ref n_d])), (n_c, .inl (cI, 4, .inl n_ca)), (n_d, .inl (cI, 16, .inl n_lo)), (r_a, .inr (1, [.int r_th, .int r_ki, .int r_fe, .ref r_c, .ref r_d])), (r_c, .inl (cI, 4, .inl r_ca)), (r_d, .inl (cI, 16, .inl r_lo)), (c_a, .inr (2, [.int c_sz, .ref c_t, .ref c_k, .ref c_f])), (c_t, .inl (cI, 14, .inl c_st)), (c_k, .inl (cI, 14, .inl c_sk)), (c_f, .inl (cI, 14, .inl c_sf)), (s_a, .inr (2, [.int s_sz, .ref s_t, .ref s_k, .ref s_f])), (s_t, .inl (cI, 2, .inl s_st)), (s_k, .inl (cI, 2, .inl s_sk)), (s_f, .inl (cI, 2, .inl s_sf)), (k_a, .inr (0, [.ref k_f, .ref k_s])), (k_f, .inl (cI, 25, .inl k_fh)), (k_s, .inl (cI, 25, .inl k_sh))]) () (res, ()) := by
  intro sz
  refine k_begin (cc := cX4_deck) (maxL := 2) (ret := (some .int)) (by decide) rfl (Nat.le_of_ble_eq_true rfl) ?_
  intro p e s m below meth c ls C w hl
  generalize va_A _ sz = A at w ⊢
  have w : Wd D cI cZ b0 tt A s [(h_a, .inr (4, [.ref x_a, .ref n_a, .ref r_a, .ref c_a, .ref s_a, .ref k_a, .int h_ac, .int h_ks, .int h_hc, .int h_ok, .int h_tk, .long h_se])), (x_a, .inr (3, [.ref x_l, .int x_ln])), (x_l, .inl (cI, 56, .inl x_le)), (n_a, .inr (1, [.int n_th, .int n_ki, .int n_fe, .ref n_c, .ref n_d])), (n_c, .inl (cI, 4, .inl n_ca)), (n_d, .inl (cI, 16, .inl n_lo)), (r_a, .inr (1, [.int r_th, .int r_ki, .int r_fe, .ref r_c, .ref r_d])), (r_c, .inl (cI, 4, .inl r_ca)), (r_d, .inl (cI, 16, .inl r_lo)), (c_a, .inr (2, [.int c_sz, .ref c_t, .ref c_k, .ref c_f])), (c_t, .inl (cI, 14, .inl c_st)), (c_k, .inl (cI, 14, .inl c_sk)), (c_f, .inl (cI, 14, .inl c_sf)), (s_a, .inr (2, [.int s_sz, .ref s_t, .ref s_k, .ref s_f])), (s_t, .inl (cI, 2, .inl s_st)), (s_k, .inl (cI, 2, .inl s_sk)), (s_f, .inl (cI, 2, .inl s_sf)), (k_a, .inr (0, [.ref k_f, .ref k_s])), (k_f, .inl (cI, 25, .inl k_fh)), (k_s, .inl (cI, 25, .inl k_sh))] s.heap [] := w
  have hl : lv_has ls 2 [(0, .ref h_a), (1, .int a1)] := hl
  obtain ⟨H, eH⟩ : ∃ H, H = s.heap := ⟨_, rfl⟩
  rw [← eH] at w ⊢
  generalize ([] : List Loc) = locs at w ⊢
  generalize List.toArray _ = args at C ⊢
  obtain ⟨hx, hb, hr, hml, hown, hts, hlk⟩ := id C
  have hg : ∀ w ∈ GW, w.before args s = true := fun w h => hts w (List.mem_cons_of_mem _ h)
  unfold fX4_deck at hf
  refine lv_iload_n hx hb dX4_deck_0 rfl (lv_at hl 1 rfl) ?_
  replace hf := ob_at hf
  obtain ⟨r1, er1, hf⟩ := hf
  refine k_goI0 w [] rfl (va_runS (As := [.int a1]) (rest := []) ⟨hx, hb, hml, hown, hg⟩ (tX4_isKind l D cI cZ b0 tt a1 er1 H.size) (va_cwS 1 hg (gwS w_252 w_152 w_1 w_153) rfl rfl rfl qdX4_isKind ⟨Nat.le_of_ble_eq_true rfl, Nat.le_of_ble_eq_true rfl⟩) (k_preS w [] (by decide) rfl) rfl rfl hl.1 rfl (lv_room (Nat.le_of_ble_eq_true rfl)) dX4_deck_1 ⟨Nat.le_refl _, Nat.le_refl _⟩) (fun H locs w => ?_)
  refine lv_if_eq (tgt := 18) hx hb dX4_deck_4 (by decide) (fun c2 => ?_) (fun c2 => ?_)
  · replace hf := ite_t c2 hf
    refine lv_iconst (v := (-1)) hx hb dX4_deck_18 (by decide) ?_
    exact k_iret (u := ()) hx hb hr hlk w rfl (k_ret1 hf) dX4_deck_19
  · replace hf := ite_f c2 hf
    refine lv_aload_n hx hb dX4_deck_7 rfl (lv_at hl 0 rfl) ?_
    refine va_get (D := D) (ci := 4) (v := .ref n_a) (C := RX4) (T := TX4) (N := 12) hx hb hg iX4 hown w.2.2.2.2.2.2.1 w.1 0 rfl rfl 1 (by decide) (hg _ w_86) (fun _ h9 => h9) rfl dX4_deck_8 ?_
    refine lv_iload_n hx hb dX4_deck_11 rfl (lv_at hl 1 rfl) ?_
    replace hf := ob_at hf
    obtain ⟨r3, er3, hf⟩ := hf
    refine k_goI0 w [3, 4, 5] rfl (va_runV (As := [.int a1]) (rest := []) ⟨hx, hb, hml, hown, hg⟩ (tX1_cardsLeft l D cI cZ b0 tt n_a n_c n_d n_th n_ki n_fe n_ca n_lo a1 er3 H.size) (cwV 1 hg (gwV w_243 w_162 w_163 w_3 w_164) rfl rfl rfl ⟨rfl, qdX1_cardsLeft⟩ ⟨Nat.le_of_ble_eq_true rfl, Nat.le_of_ble_eq_true rfl⟩) (k_preV w [3, 4, 5] (by decide) rfl (q0 := 3) rfl rfl) rfl rfl hl.1 rfl (lv_room (Nat.le_of_ble_eq_true rfl)) dX4_deck_12 ⟨Nat.le_refl _, Nat.le_refl _⟩) (fun H locs w => ?_)
    refine lv_goto (tgt := 19) hx hb dX4_deck_15 (by decide) ?_
    exact k_iret (u := ()) hx hb hr hlk w rfl (k_ret1 hf) dX4_deck_19
-- X4_piece
def fX4_piece  (n_th : Int32) (n_ki : Int32) (n_lo : Nat → Int32) (a1 : Int32) (a2 : Int32) : Option (Int32 × (Nat → Int32)) := ob (fX4_isPiece a1) (fun r1 => (if r1 = 0 then some ((-1), n_lo) else (if a2 < 0 then some ((-2), n_lo) else (if a2 ≤ 4 then ob (fX1_has n_th a1) (fun r5 => (if r5 = 0 then (if a2 = 0 then some ((-9), n_lo) else some ((-3), n_lo)) else (if a2 = 0 then ob (fX1_kindOf n_ki a1) (fun r8 => some (r8, n_lo)) else (if a2 = 1 then ob (fX1_weightOf n_ki a1) (fun r10 => some (r10, n_lo)) else (if a2 = 2 then ob (fX1_loadOf n_th n_ki n_lo a1) (fun r12 => some (r12.1, r12.2)) else (if a2 = 3 then ob (fX1_kindOf n_ki a1) (fun r14 => gd r14 4 (some ((sBE (Int32.toNatClampNeg r14)), n_lo))) else ob (fX1_canLift n_th a1) (fun r16 => (if r16 = 0 then some (0, n_lo) else some (1, n_lo))))))))) else some ((-2), n_lo)))))
set_option maxRecDepth 100000 in
set_option maxHeartbeats 4000000 in
theorem tX4_piece (l : Launch) (D : va_G) (cI cZ : ClassId) (b0 : Nat) (tt : Nat → Nat)  (h_a x_a n_a r_a c_a s_a k_a x_l n_c n_d r_c r_d c_t c_k c_f s_t s_k s_f k_f k_s : Nat) (h_ac : Int32) (h_ks : Int32) (h_hc : Int32) (h_ok : Int32) (h_tk : Int32) (h_se : Int64) (x_ln : Int32) (x_le : Nat → Int32) (n_th : Int32) (n_ki : Int32) (n_fe : Int32) (n_ca : Nat → Int32) (n_lo : Nat → Int32) (r_th : Int32) (r_ki : Int32) (r_fe : Int32) (r_ca : Nat → Int32) (r_lo : Nat → Int32) (c_sz : Int32) (c_st : Nat → Int32) (c_sk : Nat → Int32) (c_sf : Nat → Int32) (s_sz : Int32) (s_st : Nat → Int32) (s_sk : Nat → Int32) (s_sf : Nat → Int32) (k_fh : Nat → Int32) (k_sh : Nat → Int32) (a1 : Int32) (a2 : Int32) {res : Int32 × (Nat → Int32)} (hf : fX4_piece n_th n_ki n_lo a1 a2 = some res) : CtI l yX4_piece (cwX4_piece :: GW) 4 88 D cI cZ b0 tt [.ref h_a, .int a1, .int a2] (fun u : (Nat → Int32) => [(h_a, .inr (4, [.ref x_a, .ref n_a, .ref r_a, .ref c_a, .ref s_a, .ref k_a, .int h_ac, .int h_ks, .int h_hc, .int h_ok, .int h_tk, .long h_se])), (x_a, .inr (3, [.ref x_l, .int x_ln])), (x_l, .inl (cI, 56, .inl x_le)), (n_a, .inr (1, [.int n_th, .int n_ki, .int n_fe, .ref n_c, .ref n_d])), (n_c, .inl (cI, 4, .inl n_ca)), (n_d, .inl (cI, 16, .inl u)), (r_a, .inr (1, [.int r_th, .int r_ki, .int r_fe, .ref r_c, .ref r_d])), (r_c, .inl (cI, 4, .inl r_ca)), (r_d, .inl (cI, 16, .inl r_lo)), (c_a, .inr (2, [.int c_sz, .ref c_t, .ref c_k, .ref c_f])), (c_t, .inl (cI, 14, .inl c_st)), (c_k, .inl (cI, 14, .inl c_sk)), (c_f, .inl (cI, 14, .inl c_sf)), (s_a, .inr (2, [.int s_sz, .ref s_t, .ref s_k, .ref s_f])), (s_t, .inl (cI, 2, .inl s_st)), (s_k, .inl (cI, 2, .inl s_sk)), (s_f, .inl (cI, 2, .inl s_sf)), (k_a, .inr (0, [.ref k_f, .ref k_s])), (k_f, .inl (cI, 25, .inl k_fh)), (k_s, .inl (cI, 25, .inl k_sh))]) n_lo res := by
  intro sz
  refine k_begin (cc := cX4_piece) (maxL := 3) (ret := (some .int)) (by decide) rfl (Nat.le_of_ble_eq_true rfl) ?_
  intro p e s m below meth c ls C w hl
  generalize va_A _ sz = A at w ⊢
  have w : Wd D cI cZ b0 tt A s [(h_a, .inr (4, [.ref x_a, .ref n_a, .ref r_a, .ref c_a, .ref s_a, .ref k_a, .int h_ac, .int h_ks, .int h_hc, .int h_ok, .int h_tk, .long h_se])), (x_a, .inr (3, [.ref x_l, .int x_ln])), (x_l, .inl (cI, 56, .inl x_le)), (n_a, .inr (1, [.int n_th, .int n_ki, .int n_fe, .ref n_c, .ref n_d])), (n_c, .inl (cI, 4, .inl n_ca)), (n_d, .inl (cI, 16, .inl n_lo)), (r_a, .inr (1, [.int r_th, .int r_ki, .int r_fe, .ref r_c, .ref r_d])), (r_c, .inl (cI, 4, .inl r_ca)), (r_d, .inl (cI, 16, .inl r_lo)), (c_a, .inr (2, [.int c_sz, .ref c_t, .ref c_k, .ref c_f])), (c_t, .inl (cI, 14, .inl c_st)), (c_k, .inl (cI, 14, .inl c_sk)), (c_f, .inl (cI, 14, .inl c_sf)), (s_a, .inr (2, [.int s_sz, .ref s_t, .ref s_k, .ref s_f])), (s_t, .inl (cI, 2, .inl s_st)), (s_k, .inl (cI, 2, .inl s_sk)), (s_f, .inl (cI, 2, .inl s_sf)), (k_a, .inr (0, [.ref k_f, .ref k_s])), (k_f, .inl (cI, 25, .inl k_fh)), (k_s, .inl (cI, 25, .inl k_sh))] s.heap [] := w
  have hl : lv_has ls 3 [(0, .ref h_a), (1, .int a1), (2, .int a2)] := hl
  obtain ⟨H, eH⟩ : ∃ H, H = s.heap := ⟨_, rfl⟩
  rw [← eH] at w ⊢
  generalize ([] : List Loc) = locs at w ⊢
  generalize List.toArray _ = args at C ⊢
  obtain ⟨hx, hb, hr, hml, hown, hts, hlk⟩ := id C
  have hg : ∀ w ∈ GW, w.before args s = true := fun w h => hts w (List.mem_cons_of_mem _ h)
  unfold fX4_piece at hf
  refine lv_iload_n hx hb dX4_piece_0 rfl (lv_at hl 1 rfl) ?_
  replace hf := ob_at hf
  obtain ⟨r1, er1, hf⟩ := hf
  refine k_goI0 w [] rfl (va_runS (As := [.int a1]) (rest := []) ⟨hx, hb, hml, hown, hg⟩ (tX4_isPiece l D cI cZ b0 tt a1 er1 H.size) (va_cwS 1 hg (gwS w_257 w_184 w_1 w_185) rfl rfl rfl qdX4_isPiece ⟨Nat.le_of_ble_eq_true rfl, Nat.le_of_ble_eq_true rfl⟩) (k_preS w [] (by decide) rfl) rfl rfl hl.1 rfl (lv_room (Nat.le_of_ble_eq_true rfl)) dX4_piece_1 ⟨Nat.le_refl _, Nat.le_refl _⟩) (fun H locs w => ?_)
  refine lv_if_ne (tgt := 9) hx hb dX4_piece_4 (by decide) (fun c2 => ?_) (fun c2 => ?_)
  · replace hf := ite_f c2 hf
    refine lv_iload_n hx hb dX4_piece_9 rfl (lv_at hl 2 rfl) ?_
    refine lv_if_lt (tgt := 18) hx hb dX4_piece_10 (by decide) (fun c3 => ?_) (fun c3 => ?_)
    · replace hf := ite_t c3 hf
      refine lv_bipush (v := (-2)) hx hb dX4_piece_18 (by decide) ?_
      exact k_iret (u := n_lo) hx hb hr hlk w rfl hf dX4_piece_20
    · replace hf := ite_f c3 hf
      refine lv_iload_n hx hb dX4_piece_13 rfl (lv_at hl 2 rfl) ?_
      refine lv_iconst (v := 4) hx hb dX4_piece_14 (by decide) ?_
      refine lv_icmp_le (tgt := 21) hx hb dX4_piece_15 (by decide) (fun c4 => ?_) (fun c4 => ?_)
      · replace hf := ite_t c4 hf
        refine lv_aload_n hx hb dX4_piece_21 rfl (lv_at hl 0 rfl) ?_
        refine va_get (D := D) (ci := 4) (v := .ref n_a) (C := RX4) (T := TX4) (N := 12) hx hb hg iX4 hown w.2.2.2.2.2.2.1 w.1 0 rfl rfl 1 (by decide) (hg _ w_86) (fun _ h9 => h9) rfl dX4_piece_22 ?_
        refine lv_iload_n hx hb dX4_piece_25 rfl (lv_at hl 1 rfl) ?_
        replace hf := ob_at hf
        obtain ⟨r5, er5, hf⟩ := hf
        refine k_goI0 w [3, 4, 5] rfl (va_runV (As := [.int a1]) (rest := []) ⟨hx, hb, hml, hown, hg⟩ (tX1_has l D cI cZ b0 tt n_a n_c n_d n_th n_ki n_fe n_ca n_lo a1 er5 H.size) (cwV 1 hg (gwV w_258 w_166 w_167 w_3 w_168) rfl rfl rfl ⟨rfl, qdX1_has⟩ ⟨Nat.le_of_ble_eq_true rfl, Nat.le_of_ble_eq_true rfl⟩) (k_preV w [3, 4, 5] (by decide) rfl (q0 := 3) rfl rfl) rfl rfl hl.1 rfl (lv_room (Nat.le_of_ble_eq_true rfl)) dX4_piece_26 ⟨Nat.le_refl _, Nat.le_refl _⟩) (fun H locs w => ?_)
        refine lv_if_ne (tgt := 44) hx hb dX4_piece_29 (by decide) (fun c6 => ?_) (fun c6 => ?_)
        · replace hf := ite_f c6 hf
          refine lv_iload_n hx hb dX4_piece_44 rfl (lv_at hl 2 rfl) ?_
          by_cases c7 : a2 = 0
          · replace hf := ite_t c7 hf
            refine lv_tableIn (off := 31) (tgt := 76) hx hb dX4_piece_45 (by rw [c7]; decide) (by rw [c7]; decide) (by rw [c7]; decide) (by decide) ?_
            refine lv_aload_n hx hb dX4_piece_76 rfl (lv_at hl 0 rfl) ?_
            refine va_get (D := D) (ci := 4) (v := .ref n_a) (C := RX4) (T := TX4) (N := 12) hx hb hg iX4 hown w.2.2.2.2.2.2.1 w.1 0 rfl rfl 1 (by decide) (hg _ w_86) (fun _ h9 => h9) rfl dX4_piece_77 ?_
            refine lv_iload_n hx hb dX4_piece_80 rfl (lv_at hl 1 rfl) ?_
            replace hf := ob_at hf
            obtain ⟨r8, er8, hf⟩ := hf
            refine k_goI0 w [3, 4, 5] rfl (va_runV (As := [.int a1]) (rest := []) ⟨hx, hb, hml, hown, hg⟩ (tX1_kindOf l D cI cZ b0 tt n_a n_c n_d n_th n_ki n_fe n_ca n_lo a1 er8 H.size) (cwV 1 hg (gwV w_259 w_170 w_171 w_3 w_172) rfl rfl rfl ⟨rfl, qdX1_kindOf⟩ ⟨Nat.le_of_ble_eq_true rfl, Nat.le_of_ble_eq_true rfl⟩) (k_preV w [3, 4, 5] (by decide) rfl (q0 := 3) rfl rfl) rfl rfl hl.1 rfl (lv_room (Nat.le_of_ble_eq_true rfl)) dX4_piece_81 ⟨Nat.le_refl _, Nat.le_refl _⟩) (fun H locs w => ?_)
            exact k_iret (u := n_lo) hx hb hr hlk w rfl hf dX4_piece_84
          · replace hf := ite_f c7 hf
            by_cases c9 : a2 = 1
            · replace hf := ite_t c9 hf
              refine lv_tableIn (off := 40) (tgt := 85) hx hb dX4_piece_45 (by rw [c9]; decide) (by rw [c9]; decide) (by rw [c9]; decide) (by decide) ?_
              refine lv_aload_n hx hb dX4_piece_85 rfl (lv_at hl 0 rfl) ?_
              refine va_get (D := D) (ci := 4) (v := .ref n_a) (C := RX4) (T := TX4) (N := 12) hx hb hg iX4 hown w.2.2.2.2.2.2.1 w.1 0 rfl rfl 1 (by decide) (hg _ w_86) (fun _ h9 => h9) rfl dX4_piece_86 ?_
              refine lv_iload_n hx hb dX4_piece_89 rfl (lv_at hl 1 rfl) ?_
              replace hf := ob_at hf
              obtain ⟨r10, er10, hf⟩ := hf
              refine k_goI0 w [3, 4, 5] rfl (va_runV (As := [.int a1]) (rest := []) ⟨hx, hb, hml, hown, hg⟩ (tX1_weightOf l D cI cZ b0 tt n_a n_c n_d n_th n_ki n_fe n_ca n_lo a1 er10 H.size) (cwV 1 hg (gwV w_260 w_210 w_211 w_3 w_212) rfl rfl rfl ⟨rfl, qdX1_weightOf⟩ ⟨Nat.le_of_ble_eq_true rfl, Nat.le_of_ble_eq_true rfl⟩) (k_preV w [3, 4, 5] (by decide) rfl (q0 := 3) rfl rfl) rfl rfl hl.1 rfl (lv_room (Nat.le_of_ble_eq_true rfl)) dX4_piece_90 ⟨Nat.le_refl _, Nat.le_refl _⟩) (fun H locs w => ?_)
              exact k_iret (u := n_lo) hx hb hr hlk w rfl hf dX4_piece_93
            · replace hf := ite_f c9 hf
              by_cases c11 : a2 = 2
              · replace hf := ite_t c11 hf
                refine lv_tableIn (off := 49) (tgt := 94) hx hb dX4_piece_45 (by rw [c11]; decide) (by rw [c11]; decide) (by rw [c11]; decide) (by decide) ?_
                refine lv_aload_n hx hb dX4_piece_94 rfl (lv_at hl 0 rfl) ?_
                refine va_get (D := D) (ci := 4) (v := .ref n_a) (C := RX4) (T := TX4) (N := 12) hx hb hg iX4 hown w.2.2.2.2.2.2.1 w.1 0 rfl rfl 1 (by decide) (hg _ w_86) (fun _ h9 => h9) rfl dX4_piece_95 ?_
                refine lv_iload_n hx hb dX4_piece_98 rfl (lv_at hl 1 rfl) ?_
                replace hf := ob_at hf
                obtain ⟨r12, er12, hf⟩ := hf
                refine k_goI (v0 := n_lo) (res := r12) w [3, 4, 5] rfl (fun _ => rfl) (va_runV (As := [.int a1]) (rest := []) ⟨hx, hb, hml, hown, hg⟩ (tX1_loadOf l D cI cZ b0 tt n_a n_c n_d n_th n_ki n_fe n_ca n_lo a1 er12 H.size) (cwV 1 hg (gwV w_261 w_262 w_263 w_3 w_264) rfl rfl rfl ⟨rfl, qdX1_loadOf⟩ ⟨Nat.le_of_ble_eq_true rfl, Nat.le_of_ble_eq_true rfl⟩) (k_preV w [3, 4, 5] (by decide) rfl (q0 := 3) rfl rfl) rfl rfl hl.1 rfl (lv_room (Nat.le_of_ble_eq_true rfl)) dX4_piece_99 ⟨Nat.le_refl _, Nat.le_refl _⟩) (fun H locs w => ?_)
                have w : Wd D cI cZ b0 tt A s [(h_a, .inr (4, [.ref x_a, .ref n_a, .ref r_a, .ref c_a, .ref s_a, .ref k_a, .int h_ac, .int h_ks, .int h_hc, .int h_ok, .int h_tk, .long h_se])), (x_a, .inr (3, [.ref x_l, .int x_ln])), (x_l, .inl (cI, 56, .inl x_le)), (n_a, .inr (1, [.int n_th, .int n_ki, .int n_fe, .ref n_c, .ref n_d])), (n_c, .inl (cI, 4, .inl n_ca)), (n_d, .inl (cI, 16, .inl r12.2)), (r_a, .inr (1, [.int r_th, .int r_ki, .int r_fe, .ref r_c, .ref r_d])), (r_c, .inl (cI, 4, .inl r_ca)), (r_d, .inl (cI, 16, .inl r_lo)), (c_a, .inr (2, [.int c_sz, .ref c_t, .ref c_k, .ref c_f])), (c_t, .inl (cI, 14, .inl c_st)), (c_k, .inl (cI, 14, .inl c_sk)), (c_f, .inl (cI, 14, .inl c_sf)), (s_a, .inr (2, [.int s_sz, .ref s_t, .ref s_k, .ref s_f])), (s_t, .inl (cI, 2, .inl s_st)), (s_k, .inl (cI, 2, .inl s_sk)), (s_f, .inl (cI, 2, .inl s_sf)), (k_a, .inr (0, [.ref k_f, .ref k_s])), (k_f, .inl (cI, 25, .inl k_fh)), (k_s, .inl (cI, 25, .inl k_sh))] H locs := w
                exact k_iret (u := r12.2) hx hb hr hlk w rfl hf dX4_piece_102
              · replace hf := ite_f c11 hf
                by_cases c13 : a2 = 3
                · replace hf := ite_t c13 hf
                  refine lv_tableIn (off := 58) (tgt := 103) hx hb dX4_piece_45 (by rw [c13]; decide) (by rw [c13]; decide) (by rw [c13]; decide) (by decide) ?_
                  refine va_gets hx hb (k_Z w w.2.2.2.2.2.2.2.1.2.2.2.2.2.1).1 w.2.2.1 hown (hg _ w_265) (fun _ h9 => h9) dX4_piece_103 ?_
                  refine lv_aload_n hx hb dX4_piece_106 rfl (lv_at hl 0 rfl) ?_
                  refine va_get (D := D) (ci := 4) (v := .ref n_a) (C := RX4) (T := TX4) (N := 12) hx hb hg iX4 hown w.2.2.2.2.2.2.1 w.1 0 rfl rfl 1 (by decide) (hg _ w_86) (fun _ h9 => h9) rfl dX4_piece_107 ?_
                  refine lv_iload_n hx hb dX4_piece_110 rfl (lv_at hl 1 rfl) ?_
                  replace hf := ob_at hf
                  obtain ⟨r14, er14, hf⟩ := hf
                  refine k_goI0 w [3, 4, 5] rfl (va_runV (As := [.int a1]) (rest := [.ref (tt 5)]) ⟨hx, hb, hml, hown, hg⟩ (tX1_kindOf l D cI cZ b0 tt n_a n_c n_d n_th n_ki n_fe n_ca n_lo a1 er14 H.size) (cwV 1 hg (gwV w_259 w_170 w_171 w_3 w_172) rfl rfl rfl ⟨rfl, qdX1_kindOf⟩ ⟨Nat.le_of_ble_eq_true rfl, Nat.le_of_ble_eq_true rfl⟩) (k_preV w [3, 4, 5] (by decide) rfl (q0 := 3) rfl rfl) rfl rfl hl.1 rfl (lv_room (Nat.le_of_ble_eq_true rfl)) dX4_piece_111 ⟨Nat.le_refl _, Nat.le_refl _⟩) (fun H locs w => ?_)
                  replace hf := gd_at hf
                  obtain ⟨hi15, hf⟩ := hf
                  refine va_ti hx hb (k_Z w w.2.2.2.2.2.2.2.1.2.2.2.2.2.1).2 w.2.2.1 hi15 (v := .int (sBE (Int32.toNatClampNeg r14))) rfl dX4_piece_114 ?_
                  exact k_iret (u := n_lo) hx hb hr hlk w rfl hf dX4_piece_115
                · replace hf := ite_f c13 hf
                  refine lv_tableOut (tgt := 116) hx hb dX4_piece_45 (by have ec7 := lv_neT c7 (a := 0) (by decide); have ec9 := lv_neT c9 (a := 1) (by decide); have ec11 := lv_neT c11 (a := 2) (by decide); have ec13 := lv_neT c13 (a := 3) (by decide); omega) (by decide) ?_
                  refine lv_aload_n hx hb dX4_piece_116 rfl (lv_at hl 0 rfl) ?_
                  refine va_get (D := D) (ci := 4) (v := .ref n_a) (C := RX4) (T := TX4) (N := 12) hx hb hg iX4 hown w.2.2.2.2.2.2.1 w.1 0 rfl rfl 1 (by decide) (hg _ w_86) (fun _ h9 => h9) rfl dX4_piece_117 ?_
                  refine lv_iload_n hx hb dX4_piece_120 rfl (lv_at hl 1 rfl) ?_
                  replace hf := ob_at hf
                  obtain ⟨r16, er16, hf⟩ := hf
                  refine k_goI0 w [3, 4, 5] rfl (va_runV (As := [.int a1]) (rest := []) ⟨hx, hb, hml, hown, hg⟩ (tX1_canLift l D cI cZ b0 tt n_a n_c n_d n_th n_ki n_fe n_ca n_lo a1 er16 H.size) (cwV 1 hg (gwV w_266 w_267 w_268 w_3 w_269) rfl rfl rfl ⟨rfl, qdX1_canLift⟩ ⟨Nat.le_of_ble_eq_true rfl, Nat.le_of_ble_eq_true rfl⟩) (k_preV w [3, 4, 5] (by decide) rfl (q0 := 3) rfl rfl) rfl rfl hl.1 rfl (lv_room (Nat.le_of_ble_eq_true rfl)) dX4_piece_121 ⟨Nat.le_refl _, Nat.le_refl _⟩) (fun H locs w => ?_)
                  refine lv_if_eq (tgt := 131) hx hb dX4_piece_124 (by decide) (fun c17 => ?_) (fun c17 => ?_)
                  · replace hf := ite_t c17 hf
                    refine lv_iconst (v := 0) hx hb dX4_piece_131 (by decide) ?_
                    exact k_iret (u := n_lo) hx hb hr hlk w rfl hf dX4_piece_132
                  · replace hf := ite_f c17 hf
                    refine lv_iconst (v := 1) hx hb dX4_piece_127 (by decide) ?_
                    refine lv_goto (tgt := 132) hx hb dX4_piece_128 (by decide) ?_
                    exact k_iret (u := n_lo) hx hb hr hlk w rfl hf dX4_piece_132
        · replace hf := ite_t c6 hf
          refine lv_iload_n hx hb dX4_piece_32 rfl (lv_at hl 2 rfl) ?_
          refine lv_if_ne (tgt := 41) hx hb dX4_piece_33 (by decide) (fun c18 => ?_) (fun c18 => ?_)
          · replace hf := ite_f c18 hf
            refine lv_bipush (v := (-3)) hx hb dX4_piece_41 (by decide) ?_
            exact k_iret (u := n_lo) hx hb hr hlk w rfl hf dX4_piece_43
          · replace hf := ite_t c18 hf
            refine lv_bipush (v := (-9)) hx hb dX4_piece_36 (by decide) ?_
            refine lv_goto (tgt := 43) hx hb dX4_piece_38 (by decide) ?_
            exact k_iret (u := n_lo) hx hb hr hlk w rfl hf dX4_piece_43
      · replace hf := ite_f c4 hf
        refine lv_bipush (v := (-2)) hx hb dX4_piece_18 (by decide) ?_
        exact k_iret (u := n_lo) hx hb hr hlk w rfl hf dX4_piece_20
  · replace hf := ite_t c2 hf
    refine lv_iconst (v := (-1)) hx hb dX4_piece_7 (by decide) ?_
    exact k_iret (u := n_lo) hx hb hr hlk w rfl hf dX4_piece_8
-- X4_recordAct
def fX4_recordAct  (h_ac : Int32) (n_th : Int32) (n_ki : Int32) (n_fe : Int32) (c_sz : Int32) (c_st : Nat → Int32) (c_sk : Nat → Int32) (c_sf : Nat → Int32) : Option (Int32 × (Nat → Int32) × (Nat → Int32) × (Nat → Int32)) := (if h_ac < 14 then ob (fX2_store 14 c_sz c_st c_sk c_sf n_th n_ki n_fe h_ac) (fun r2 => nm (h_ac + (1 : Int32)) (fun z3 => some (z3, r2.1, r2.2.1, r2.2.2))) else ob (fX2_forgetFirst 14 c_sz c_st c_sk c_sf) (fun r4 => ob (fX2_store 14 c_sz r4.1 r4.2.1 r4.2.2 n_th n_ki n_fe 13) (fun r5 => nm ((13 : Int32) + (1 : Int32)) (fun z6 => some (z6, r5.1, r5.2.1, r5.2.2)))))
set_option maxRecDepth 100000 in
set_option maxHeartbeats 4000000 in
theorem tX4_recordAct (l : Launch) (D : va_G) (cI cZ : ClassId) (b0 : Nat) (tt : Nat → Nat)  (h_a x_a n_a r_a c_a s_a k_a x_l n_c n_d r_c r_d c_t c_k c_f s_t s_k s_f k_f k_s : Nat) (h_ac : Int32) (h_ks : Int32) (h_hc : Int32) (h_ok : Int32) (h_tk : Int32) (h_se : Int64) (x_ln : Int32) (x_le : Nat → Int32) (n_th : Int32) (n_ki : Int32) (n_fe : Int32) (n_ca : Nat → Int32) (n_lo : Nat → Int32) (r_th : Int32) (r_ki : Int32) (r_fe : Int32) (r_ca : Nat → Int32) (r_lo : Nat → Int32) (c_sz : Int32) (c_st : Nat → Int32) (c_sk : Nat → Int32) (c_sf : Nat → Int32) (s_sz : Int32) (s_st : Nat → Int32) (s_sk : Nat → Int32) (s_sf : Nat → Int32) (k_fh : Nat → Int32) (k_sh : Nat → Int32)  {res : Int32 × (Nat → Int32) × (Nat → Int32) × (Nat → Int32)} (hf : fX4_recordAct h_ac n_th n_ki n_fe c_sz c_st c_sk c_sf = some res) : CtV l yX4_recordAct (cwX4_recordAct :: GW) 1 22 D cI cZ b0 tt [.ref h_a] (fun u : Int32 × (Nat → Int32) × (Nat → Int32) × (Nat → Int32) => [(h_a, .inr (4, [.ref x_a, .ref n_a, .ref r_a, .ref c_a, .ref s_a, .ref k_a, .int u.1, .int h_ks, .int h_hc, .int h_ok, .int h_tk, .long h_se])), (x_a, .inr (3, [.ref x_l, .int x_ln])), (x_l, .inl (cI, 56, .inl x_le)), (n_a, .inr (1, [.int n_th, .int n_ki, .int n_fe, .ref n_c, .ref n_d])), (n_c, .inl (cI, 4, .inl n_ca)), (n_d, .inl (cI, 16, .inl n_lo)), (r_a, .inr (1, [.int r_th, .int r_ki, .int r_fe, .ref r_c, .ref r_d])), (r_c, .inl (cI, 4, .inl r_ca)), (r_d, .inl (cI, 16, .inl r_lo)), (c_a, .inr (2, [.int c_sz, .ref c_t, .ref c_k, .ref c_f])), (c_t, .inl (cI, 14, .inl u.2.1)), (c_k, .inl (cI, 14, .inl u.2.2.1)), (c_f, .inl (cI, 14, .inl u.2.2.2)), (s_a, .inr (2, [.int s_sz, .ref s_t, .ref s_k, .ref s_f])), (s_t, .inl (cI, 2, .inl s_st)), (s_k, .inl (cI, 2, .inl s_sk)), (s_f, .inl (cI, 2, .inl s_sf)), (k_a, .inr (0, [.ref k_f, .ref k_s])), (k_f, .inl (cI, 25, .inl k_fh)), (k_s, .inl (cI, 25, .inl k_sh))]) (h_ac, c_st, c_sk, c_sf) res := by
  intro sz
  refine k_begin (cc := cX4_recordAct) (maxL := 1) (ret := none) (by decide) rfl (Nat.le_of_ble_eq_true rfl) ?_
  intro p e s m below meth c ls C w hl
  generalize va_A _ sz = A at w ⊢
  have w : Wd D cI cZ b0 tt A s [(h_a, .inr (4, [.ref x_a, .ref n_a, .ref r_a, .ref c_a, .ref s_a, .ref k_a, .int h_ac, .int h_ks, .int h_hc, .int h_ok, .int h_tk, .long h_se])), (x_a, .inr (3, [.ref x_l, .int x_ln])), (x_l, .inl (cI, 56, .inl x_le)), (n_a, .inr (1, [.int n_th, .int n_ki, .int n_fe, .ref n_c, .ref n_d])), (n_c, .inl (cI, 4, .inl n_ca)), (n_d, .inl (cI, 16, .inl n_lo)), (r_a, .inr (1, [.int r_th, .int r_ki, .int r_fe, .ref r_c, .ref r_d])), (r_c, .inl (cI, 4, .inl r_ca)), (r_d, .inl (cI, 16, .inl r_lo)), (c_a, .inr (2, [.int c_sz, .ref c_t, .ref c_k, .ref c_f])), (c_t, .inl (cI, 14, .inl c_st)), (c_k, .inl (cI, 14, .inl c_sk)), (c_f, .inl (cI, 14, .inl c_sf)), (s_a, .inr (2, [.int s_sz, .ref s_t, .ref s_k, .ref s_f])), (s_t, .inl (cI, 2, .inl s_st)), (s_k, .inl (cI, 2, .inl s_sk)), (s_f, .inl (cI, 2, .inl s_sf)), (k_a, .inr (0, [.ref k_f, .ref k_s])), (k_f, .inl (cI, 25, .inl k_fh)), (k_s, .inl (cI, 25, .inl k_sh))] s.heap [] := w
  have hl : lv_has ls 1 [(0, .ref h_a)] := hl
  obtain ⟨H, eH⟩ : ∃ H, H = s.heap := ⟨_, rfl⟩
  rw [← eH] at w ⊢
  generalize ([] : List Loc) = locs at w ⊢
  generalize List.toArray _ = args at C ⊢
  obtain ⟨hx, hb, hr, hml, hown, hts, hlk⟩ := id C
  have hg : ∀ w ∈ GW, w.before args s = true := fun w h => hts w (List.mem_cons_of_mem _ h)
  unfold fX4_recordAct at hf
  refine lv_aload_n hx hb dX4_recordAct_0 rfl (lv_at hl 0 rfl) ?_
  refine va_get (D := D) (ci := 4) (v := .int h_ac) (C := RX4) (T := TX4) (N := 12) hx hb hg iX4 hown w.2.2.2.2.2.2.1 w.1 0 rfl rfl 6 (by decide) (hg _ w_91) (fun _ h9 => h9) rfl dX4_recordAct_1 ?_
  refine lv_bipush (v := 14) hx hb dX4_recordAct_4 (by decide) ?_
  refine lv_icmp_lt (tgt := 22) hx hb dX4_recordAct_6 (by decide) (fun c1 => ?_) (fun c1 => ?_)
  · replace hf := ite_t c1 hf
    refine lv_aload_n hx hb dX4_recordAct_22 rfl (lv_at hl 0 rfl) ?_
    refine va_get (D := D) (ci := 4) (v := .ref c_a) (C := RX4) (T := TX4) (N := 12) hx hb hg iX4 hown w.2.2.2.2.2.2.1 w.1 0 rfl rfl 3 (by decide) (hg _ w_88) (fun _ h9 => h9) rfl dX4_recordAct_23 ?_
    refine lv_aload_n hx hb dX4_recordAct_26 rfl (lv_at hl 0 rfl) ?_
    refine va_get (D := D) (ci := 4) (v := .int h_ac) (C := RX4) (T := TX4) (N := 12) hx hb hg iX4 hown w.2.2.2.2.2.2.1 w.1 0 rfl rfl 6 (by decide) (hg _ w_91) (fun _ h9 => h9) rfl dX4_recordAct_27 ?_
    refine lv_aload_n hx hb dX4_recordAct_30 rfl (lv_at hl 0 rfl) ?_
    refine va_get (D := D) (ci := 4) (v := .ref n_a) (C := RX4) (T := TX4) (N := 12) hx hb hg iX4 hown w.2.2.2.2.2.2.1 w.1 0 rfl rfl 1 (by decide) (hg _ w_86) (fun _ h9 => h9) rfl dX4_recordAct_31 ?_
    replace hf := ob_at hf
    obtain ⟨r2, er2, hf⟩ := hf
    refine k_goV (v0 := (c_st, c_sk, c_sf)) (res := r2) w [9, 10, 11, 12, 3, 4, 5] rfl (fun _ => rfl) (va_runV (As := [.int h_ac, .ref n_a]) (rest := []) ⟨hx, hb, hml, hown, hg⟩ (tX2_store l D cI cZ b0 tt 14 c_a c_t c_k c_f n_a n_c n_d c_sz c_st c_sk c_sf n_th n_ki n_fe n_ca n_lo h_ac er2 H.size) (cwV 2 hg (gwV w_282 w_283 w_284 w_4 w_285) rfl rfl rfl ⟨rfl, qdX2_store⟩ ⟨Nat.le_of_ble_eq_true rfl, Nat.le_of_ble_eq_true rfl⟩) (k_preV w [9, 10, 11, 12, 3, 4, 5] (by decide) rfl (q0 := 9) rfl rfl) rfl rfl hl.1 rfl (lv_room (Nat.le_of_ble_eq_true rfl)) dX4_recordAct_34 ⟨Nat.le_refl _, Nat.le_refl _⟩) (fun H locs w => ?_)
    have w : Wd D cI cZ b0 tt A s [(h_a, .inr (4, [.ref x_a, .ref n_a, .ref r_a, .ref c_a, .ref s_a, .ref k_a, .int h_ac, .int h_ks, .int h_hc, .int h_ok, .int h_tk, .long h_se])), (x_a, .inr (3, [.ref x_l, .int x_ln])), (x_l, .inl (cI, 56, .inl x_le)), (n_a, .inr (1, [.int n_th, .int n_ki, .int n_fe, .ref n_c, .ref n_d])), (n_c, .inl (cI, 4, .inl n_ca)), (n_d, .inl (cI, 16, .inl n_lo)), (r_a, .inr (1, [.int r_th, .int r_ki, .int r_fe, .ref r_c, .ref r_d])), (r_c, .inl (cI, 4, .inl r_ca)), (r_d, .inl (cI, 16, .inl r_lo)), (c_a, .inr (2, [.int c_sz, .ref c_t, .ref c_k, .ref c_f])), (c_t, .inl (cI, 14, .inl r2.1)), (c_k, .inl (cI, 14, .inl r2.2.1)), (c_f, .inl (cI, 14, .inl r2.2.2)), (s_a, .inr (2, [.int s_sz, .ref s_t, .ref s_k, .ref s_f])), (s_t, .inl (cI, 2, .inl s_st)), (s_k, .inl (cI, 2, .inl s_sk)), (s_f, .inl (cI, 2, .inl s_sf)), (k_a, .inr (0, [.ref k_f, .ref k_s])), (k_f, .inl (cI, 25, .inl k_fh)), (k_s, .inl (cI, 25, .inl k_sh))] H locs := w
    refine lv_aload_n hx hb dX4_recordAct_37 rfl (lv_at hl 0 rfl) ?_
    refine lv_dup hx hb dX4_recordAct_38 rfl ?_
    refine va_get (D := D) (ci := 4) (v := .int h_ac) (C := RX4) (T := TX4) (N := 12) hx hb hg iX4 hown w.2.2.2.2.2.2.1 w.1 0 rfl rfl 6 (by decide) (hg _ w_91) (fun _ h9 => h9) rfl dX4_recordAct_39 ?_
    refine lv_iconst (v := 1) hx hb dX4_recordAct_42 (by decide) ?_
    refine lv_iadd hx hb dX4_recordAct_43 ?_
    refine lv_topi (fun z3 ez3 => ?_)
    replace hf := nm_at ez3 hf
    refine k_put (ci := 4) (v := .int z3) (ty := .int) (C := RX4) (T := TX4) (N := 12) hx hb hg iX4 tyX4 tyX4_ok nmX4 hown w 0 rfl rfl 6 (by decide) (hg _ w_91) (fun _ h9 => h9) rfl pd_I rfl rfl (Nat.le_of_ble_eq_true rfl) dX4_recordAct_44 (fun H locs w => ?_)
    have w : Wd D cI cZ b0 tt A s [(h_a, .inr (4, [.ref x_a, .ref n_a, .ref r_a, .ref c_a, .ref s_a, .ref k_a, .int z3, .int h_ks, .int h_hc, .int h_ok, .int h_tk, .long h_se])), (x_a, .inr (3, [.ref x_l, .int x_ln])), (x_l, .inl (cI, 56, .inl x_le)), (n_a, .inr (1, [.int n_th, .int n_ki, .int n_fe, .ref n_c, .ref n_d])), (n_c, .inl (cI, 4, .inl n_ca)), (n_d, .inl (cI, 16, .inl n_lo)), (r_a, .inr (1, [.int r_th, .int r_ki, .int r_fe, .ref r_c, .ref r_d])), (r_c, .inl (cI, 4, .inl r_ca)), (r_d, .inl (cI, 16, .inl r_lo)), (c_a, .inr (2, [.int c_sz, .ref c_t, .ref c_k, .ref c_f])), (c_t, .inl (cI, 14, .inl r2.1)), (c_k, .inl (cI, 14, .inl r2.2.1)), (c_f, .inl (cI, 14, .inl r2.2.2)), (s_a, .inr (2, [.int s_sz, .ref s_t, .ref s_k, .ref s_f])), (s_t, .inl (cI, 2, .inl s_st)), (s_k, .inl (cI, 2, .inl s_sk)), (s_f, .inl (cI, 2, .inl s_sf)), (k_a, .inr (0, [.ref k_f, .ref k_s])), (k_f, .inl (cI, 25, .inl k_fh)), (k_s, .inl (cI, 25, .inl k_sh))] H locs := w
    exact k_vret (u := (z3, r2.1, r2.2.1, r2.2.2)) hx hb hr hlk w rfl hf dX4_recordAct_47
  · replace hf := ite_f c1 hf
    refine lv_aload_n hx hb dX4_recordAct_9 rfl (lv_at hl 0 rfl) ?_
    refine va_get (D := D) (ci := 4) (v := .ref c_a) (C := RX4) (T := TX4) (N := 12) hx hb hg iX4 hown w.2.2.2.2.2.2.1 w.1 0 rfl rfl 3 (by decide) (hg _ w_88) (fun _ h9 => h9) rfl dX4_recordAct_10 ?_
    replace hf := ob_at hf
    obtain ⟨r4, er4, hf⟩ := hf
    refine k_goV (v0 := (c_st, c_sk, c_sf)) (res := r4) w [9, 10, 11, 12] rfl (fun _ => rfl) (va_runV (As := []) (rest := []) ⟨hx, hb, hml, hown, hg⟩ (tX2_forgetFirst l D cI cZ b0 tt 14 c_a c_t c_k c_f c_sz c_st c_sk c_sf er4 H.size) (cwV 0 hg (gwV w_278 w_279 w_280 w_4 w_281) rfl rfl rfl ⟨rfl, qdX2_forgetFirst⟩ ⟨Nat.le_of_ble_eq_true rfl, Nat.le_of_ble_eq_true rfl⟩) (k_preV w [9, 10, 11, 12] (by decide) rfl (q0 := 9) rfl rfl) rfl rfl hl.1 rfl (lv_room (Nat.le_of_ble_eq_true rfl)) dX4_recordAct_13 ⟨Nat.le_refl _, Nat.le_refl _⟩) (fun H locs w => ?_)
    have w : Wd D cI cZ b0 tt A s [(h_a, .inr (4, [.ref x_a, .ref n_a, .ref r_a, .ref c_a, .ref s_a, .ref k_a, .int h_ac, .int h_ks, .int h_hc, .int h_ok, .int h_tk, .long h_se])), (x_a, .inr (3, [.ref x_l, .int x_ln])), (x_l, .inl (cI, 56, .inl x_le)), (n_a, .inr (1, [.int n_th, .int n_ki, .int n_fe, .ref n_c, .ref n_d])), (n_c, .inl (cI, 4, .inl n_ca)), (n_d, .inl (cI, 16, .inl n_lo)), (r_a, .inr (1, [.int r_th, .int r_ki, .int r_fe, .ref r_c, .ref r_d])), (r_c, .inl (cI, 4, .inl r_ca)), (r_d, .inl (cI, 16, .inl r_lo)), (c_a, .inr (2, [.int c_sz, .ref c_t, .ref c_k, .ref c_f])), (c_t, .inl (cI, 14, .inl r4.1)), (c_k, .inl (cI, 14, .inl r4.2.1)), (c_f, .inl (cI, 14, .inl r4.2.2)), (s_a, .inr (2, [.int s_sz, .ref s_t, .ref s_k, .ref s_f])), (s_t, .inl (cI, 2, .inl s_st)), (s_k, .inl (cI, 2, .inl s_sk)), (s_f, .inl (cI, 2, .inl s_sf)), (k_a, .inr (0, [.ref k_f, .ref k_s])), (k_f, .inl (cI, 25, .inl k_fh)), (k_s, .inl (cI, 25, .inl k_sh))] H locs := w
    refine lv_aload_n hx hb dX4_recordAct_16 rfl (lv_at hl 0 rfl) ?_
    refine lv_bipush (v := 13) hx hb dX4_recordAct_17 (by decide) ?_
    refine k_put (ci := 4) (v := .int 13) (ty := .int) (C := RX4) (T := TX4) (N := 12) hx hb hg iX4 tyX4 tyX4_ok nmX4 hown w 0 rfl rfl 6 (by decide) (hg _ w_91) (fun _ h9 => h9) rfl pd_I rfl rfl (Nat.le_of_ble_eq_true rfl) dX4_recordAct_19 (fun H locs w => ?_)
    have w : Wd D cI cZ b0 tt A s [(h_a, .inr (4, [.ref x_a, .ref n_a, .ref r_a, .ref c_a, .ref s_a, .ref k_a, .int 13, .int h_ks, .int h_hc, .int h_ok, .int h_tk, .long h_se])), (x_a, .inr (3, [.ref x_l, .int x_ln])), (x_l, .inl (cI, 56, .inl x_le)), (n_a, .inr (1, [.int n_th, .int n_ki, .int n_fe, .ref n_c, .ref n_d])), (n_c, .inl (cI, 4, .inl n_ca)), (n_d, .inl (cI, 16, .inl n_lo)), (r_a, .inr (1, [.int r_th, .int r_ki, .int r_fe, .ref r_c, .ref r_d])), (r_c, .inl (cI, 4, .inl r_ca)), (r_d, .inl (cI, 16, .inl r_lo)), (c_a, .inr (2, [.int c_sz, .ref c_t, .ref c_k, .ref c_f])), (c_t, .inl (cI, 14, .inl r4.1)), (c_k, .inl (cI, 14, .inl r4.2.1)), (c_f, .inl (cI, 14, .inl r4.2.2)), (s_a, .inr (2, [.int s_sz, .ref s_t, .ref s_k, .ref s_f])), (s_t, .inl (cI, 2, .inl s_st)), (s_k, .inl (cI, 2, .inl s_sk)), (s_f, .inl (cI, 2, .inl s_sf)), (k_a, .inr (0, [.ref k_f, .ref k_s])), (k_f, .inl (cI, 25, .inl k_fh)), (k_s, .inl (cI, 25, .inl k_sh))] H locs := w
    refine lv_aload_n hx hb dX4_recordAct_22 rfl (lv_at hl 0 rfl) ?_
    refine va_get (D := D) (ci := 4) (v := .ref c_a) (C := RX4) (T := TX4) (N := 12) hx hb hg iX4 hown w.2.2.2.2.2.2.1 w.1 0 rfl rfl 3 (by decide) (hg _ w_88) (fun _ h9 => h9) rfl dX4_recordAct_23 ?_
    refine lv_aload_n hx hb dX4_recordAct_26 rfl (lv_at hl 0 rfl) ?_
    refine va_get (D := D) (ci := 4) (v := .int 13) (C := RX4) (T := TX4) (N := 12) hx hb hg iX4 hown w.2.2.2.2.2.2.1 w.1 0 rfl rfl 6 (by decide) (hg _ w_91) (fun _ h9 => h9) rfl dX4_recordAct_27 ?_
    refine lv_aload_n hx hb dX4_recordAct_30 rfl (lv_at hl 0 rfl) ?_
    refine va_get (D := D) (ci := 4) (v := .ref n_a) (C := RX4) (T := TX4) (N := 12) hx hb hg iX4 hown w.2.2.2.2.2.2.1 w.1 0 rfl rfl 1 (by decide) (hg _ w_86) (fun _ h9 => h9) rfl dX4_recordAct_31 ?_
    replace hf := ob_at hf
    obtain ⟨r5, er5, hf⟩ := hf
    refine k_goV (v0 := (r4.1, r4.2.1, r4.2.2)) (res := r5) w [9, 10, 11, 12, 3, 4, 5] rfl (fun _ => rfl) (va_runV (As := [.int 13, .ref n_a]) (rest := []) ⟨hx, hb, hml, hown, hg⟩ (tX2_store l D cI cZ b0 tt 14 c_a c_t c_k c_f n_a n_c n_d c_sz r4.1 r4.2.1 r4.2.2 n_th n_ki n_fe n_ca n_lo 13 er5 H.size) (cwV 2 hg (gwV w_282 w_283 w_284 w_4 w_285) rfl rfl rfl ⟨rfl, qdX2_store⟩ ⟨Nat.le_of_ble_eq_true rfl, Nat.le_of_ble_eq_true rfl⟩) (k_preV w [9, 10, 11, 12, 3, 4, 5] (by decide) rfl (q0 := 9) rfl rfl) rfl rfl hl.1 rfl (lv_room (Nat.le_of_ble_eq_true rfl)) dX4_recordAct_34 ⟨Nat.le_refl _, Nat.le_refl _⟩) (fun H locs w => ?_)
    have w : Wd D cI cZ b0 tt A s [(h_a, .inr (4, [.ref x_a, .ref n_a, .ref r_a, .ref c_a, .ref s_a, .ref k_a, .int 13, .int h_ks, .int h_hc, .int h_ok, .int h_tk, .long h_se])), (x_a, .inr (3, [.ref x_l, .int x_ln])), (x_l, .inl (cI, 56, .inl x_le)), (n_a, .inr (1, [.int n_th, .int n_ki, .int n_fe, .ref n_c, .ref n_d])), (n_c, .inl (cI, 4, .inl n_ca)), (n_d, .inl (cI, 16, .inl n_lo)), (r_a, .inr (1, [.int r_th, .int r_ki, .int r_fe, .ref r_c, .ref r_d])), (r_c, .inl (cI, 4, .inl r_ca)), (r_d, .inl (cI, 16, .inl r_lo)), (c_a, .inr (2, [.int c_sz, .ref c_t, .ref c_k, .ref c_f])), (c_t, .inl (cI, 14, .inl r5.1)), (c_k, .inl (cI, 14, .inl r5.2.1)), (c_f, .inl (cI, 14, .inl r5.2.2)), (s_a, .inr (2, [.int s_sz, .ref s_t, .ref s_k, .ref s_f])), (s_t, .inl (cI, 2, .inl s_st)), (s_k, .inl (cI, 2, .inl s_sk)), (s_f, .inl (cI, 2, .inl s_sf)), (k_a, .inr (0, [.ref k_f, .ref k_s])), (k_f, .inl (cI, 25, .inl k_fh)), (k_s, .inl (cI, 25, .inl k_sh))] H locs := w
    refine lv_aload_n hx hb dX4_recordAct_37 rfl (lv_at hl 0 rfl) ?_
    refine lv_dup hx hb dX4_recordAct_38 rfl ?_
    refine va_get (D := D) (ci := 4) (v := .int 13) (C := RX4) (T := TX4) (N := 12) hx hb hg iX4 hown w.2.2.2.2.2.2.1 w.1 0 rfl rfl 6 (by decide) (hg _ w_91) (fun _ h9 => h9) rfl dX4_recordAct_39 ?_
    refine lv_iconst (v := 1) hx hb dX4_recordAct_42 (by decide) ?_
    refine lv_iadd hx hb dX4_recordAct_43 ?_
    refine lv_topi (fun z6 ez6 => ?_)
    replace hf := nm_at ez6 hf
    refine k_put (ci := 4) (v := .int z6) (ty := .int) (C := RX4) (T := TX4) (N := 12) hx hb hg iX4 tyX4 tyX4_ok nmX4 hown w 0 rfl rfl 6 (by decide) (hg _ w_91) (fun _ h9 => h9) rfl pd_I rfl rfl (Nat.le_of_ble_eq_true rfl) dX4_recordAct_44 (fun H locs w => ?_)
    have w : Wd D cI cZ b0 tt A s [(h_a, .inr (4, [.ref x_a, .ref n_a, .ref r_a, .ref c_a, .ref s_a, .ref k_a, .int z6, .int h_ks, .int h_hc, .int h_ok, .int h_tk, .long h_se])), (x_a, .inr (3, [.ref x_l, .int x_ln])), (x_l, .inl (cI, 56, .inl x_le)), (n_a, .inr (1, [.int n_th, .int n_ki, .int n_fe, .ref n_c, .ref n_d])), (n_c, .inl (cI, 4, .inl n_ca)), (n_d, .inl (cI, 16, .inl n_lo)), (r_a, .inr (1, [.int r_th, .int r_ki, .int r_fe, .ref r_c, .ref r_d])), (r_c, .inl (cI, 4, .inl r_ca)), (r_d, .inl (cI, 16, .inl r_lo)), (c_a, .inr (2, [.int c_sz, .ref c_t, .ref c_k, .ref c_f])), (c_t, .inl (cI, 14, .inl r5.1)), (c_k, .inl (cI, 14, .inl r5.2.1)), (c_f, .inl (cI, 14, .inl r5.2.2)), (s_a, .inr (2, [.int s_sz, .ref s_t, .ref s_k, .ref s_f])), (s_t, .inl (cI, 2, .inl s_st)), (s_k, .inl (cI, 2, .inl s_sk)), (s_f, .inl (cI, 2, .inl s_sf)), (k_a, .inr (0, [.ref k_f, .ref k_s])), (k_f, .inl (cI, 25, .inl k_fh)), (k_s, .inl (cI, 25, .inl k_sh))] H locs := w
    exact k_vret (u := (z6, r5.1, r5.2.1, r5.2.2)) hx hb hr hlk w rfl hf dX4_recordAct_47
-- X4_put
def fX4_put  (h_ac : Int32) (n_th : Int32) (n_ki : Int32) (n_fe : Int32) (n_ca : Nat → Int32) (n_lo : Nat → Int32) (c_sz : Int32) (c_st : Nat → Int32) (c_sk : Nat → Int32) (c_sf : Nat → Int32) (a1 : Int32) (a2 : Int32) : Option (Int32 × Int32 × Int32 × Int32 × Int32 × (Nat → Int32) × (Nat → Int32) × (Nat → Int32) × (Nat → Int32)) := ob (fX4_isPiece a1) (fun r1 => (if r1 = 0 then some ((-1), (h_ac, n_th, n_ki, n_fe, n_lo, c_st, c_sk, c_sf)) else ob (fX4_isKind a2) (fun r3 => (if r3 = 0 then some ((-1), (h_ac, n_th, n_ki, n_fe, n_lo, c_st, c_sk, c_sf)) else ob (fX1_has n_th a1) (fun r5 => (if r5 = 0 then ob (fX1_canLay n_th n_ki n_ca a1 a2) (fun r7 => (if r7 = 0 then some ((-3), (h_ac, n_th, n_ki, n_fe, n_lo, c_st, c_sk, c_sf)) else ob (fX4_recordAct h_ac n_th n_ki n_fe c_sz c_st c_sk c_sf) (fun r9 => ob (fX1_lay n_th n_ki n_fe n_lo a1 a2) (fun r10 => some (r10.1, (r9.1, r10.2.1, r10.2.2.1, r10.2.2.2.1, r10.2.2.2.2, r9.2.1, r9.2.2.1, r9.2.2.2)))))) else some ((-4), (h_ac, n_th, n_ki, n_fe, n_lo, c_st, c_sk, c_sf))))))))
set_option maxRecDepth 100000 in
set_option maxHeartbeats 4000000 in
theorem tX4_put (l : Launch) (D : va_G) (cI cZ : ClassId) (b0 : Nat) (tt : Nat → Nat)  (h_a x_a n_a r_a c_a s_a k_a x_l n_c n_d r_c r_d c_t c_k c_f s_t s_k s_f k_f k_s : Nat) (h_ac : Int32) (h_ks : Int32) (h_hc : Int32) (h_ok : Int32) (h_tk : Int32) (h_se : Int64) (x_ln : Int32) (x_le : Nat → Int32) (n_th : Int32) (n_ki : Int32) (n_fe : Int32) (n_ca : Nat → Int32) (n_lo : Nat → Int32) (r_th : Int32) (r_ki : Int32) (r_fe : Int32) (r_ca : Nat → Int32) (r_lo : Nat → Int32) (c_sz : Int32) (c_st : Nat → Int32) (c_sk : Nat → Int32) (c_sf : Nat → Int32) (s_sz : Int32) (s_st : Nat → Int32) (s_sk : Nat → Int32) (s_sf : Nat → Int32) (k_fh : Nat → Int32) (k_sh : Nat → Int32) (a1 : Int32) (a2 : Int32) {res : Int32 × Int32 × Int32 × Int32 × Int32 × (Nat → Int32) × (Nat → Int32) × (Nat → Int32) × (Nat → Int32)} (hf : fX4_put h_ac n_th n_ki n_fe n_ca n_lo c_sz c_st c_sk c_sf a1 a2 = some res) : CtI l yX4_put (cwX4_put :: GW) 5 113 D cI cZ b0 tt [.ref h_a, .int a1, .int a2] (fun u : Int32 × Int32 × Int32 × Int32 × (Nat → Int32) × (Nat → Int32) × (Nat → Int32) × (Nat → Int32) => [(h_a, .inr (4, [.ref x_a, .ref n_a, .ref r_a, .ref c_a, .ref s_a, .ref k_a, .int u.1, .int h_ks, .int h_hc, .int h_ok, .int h_tk, .long h_se])), (x_a, .inr (3, [.ref x_l, .int x_ln])), (x_l, .inl (cI, 56, .inl x_le)), (n_a, .inr (1, [.int u.2.1, .int u.2.2.1, .int u.2.2.2.1, .ref n_c, .ref n_d])), (n_c, .inl (cI, 4, .inl n_ca)), (n_d, .inl (cI, 16, .inl u.2.2.2.2.1)), (r_a, .inr (1, [.int r_th, .int r_ki, .int r_fe, .ref r_c, .ref r_d])), (r_c, .inl (cI, 4, .inl r_ca)), (r_d, .inl (cI, 16, .inl r_lo)), (c_a, .inr (2, [.int c_sz, .ref c_t, .ref c_k, .ref c_f])), (c_t, .inl (cI, 14, .inl u.2.2.2.2.2.1)), (c_k, .inl (cI, 14, .inl u.2.2.2.2.2.2.1)), (c_f, .inl (cI, 14, .inl u.2.2.2.2.2.2.2)), (s_a, .inr (2, [.int s_sz, .ref s_t, .ref s_k, .ref s_f])), (s_t, .inl (cI, 2, .inl s_st)), (s_k, .inl (cI, 2, .inl s_sk)), (s_f, .inl (cI, 2, .inl s_sf)), (k_a, .inr (0, [.ref k_f, .ref k_s])), (k_f, .inl (cI, 25, .inl k_fh)), (k_s, .inl (cI, 25, .inl k_sh))]) (h_ac, n_th, n_ki, n_fe, n_lo, c_st, c_sk, c_sf) res := by
  intro sz
  refine k_begin (cc := cX4_put) (maxL := 3) (ret := (some .int)) (by decide) rfl (Nat.le_of_ble_eq_true rfl) ?_
  intro p e s m below meth c ls C w hl
  generalize va_A _ sz = A at w ⊢
  have w : Wd D cI cZ b0 tt A s [(h_a, .inr (4, [.ref x_a, .ref n_a, .ref r_a, .ref c_a, .ref s_a, .ref k_a, .int h_ac, .int h_ks, .int h_hc, .int h_ok, .int h_tk, .long h_se])), (x_a, .inr (3, [.ref x_l, .int x_ln])), (x_l, .inl (cI, 56, .inl x_le)), (n_a, .inr (1, [.int n_th, .int n_ki, .int n_fe, .ref n_c, .ref n_d])), (n_c, .inl (cI, 4, .inl n_ca)), (n_d, .inl (cI, 16, .inl n_lo)), (r_a, .inr (1, [.int r_th, .int r_ki, .int r_fe, .ref r_c, .ref r_d])), (r_c, .inl (cI, 4, .inl r_ca)), (r_d, .inl (cI, 16, .inl r_lo)), (c_a, .inr (2, [.int c_sz, .ref c_t, .ref c_k, .ref c_f])), (c_t, .inl (cI, 14, .inl c_st)), (c_k, .inl (cI, 14, .inl c_sk)), (c_f, .inl (cI, 14, .inl c_sf)), (s_a, .inr (2, [.int s_sz, .ref s_t, .ref s_k, .ref s_f])), (s_t, .inl (cI, 2, .inl s_st)), (s_k, .inl (cI, 2, .inl s_sk)), (s_f, .inl (cI, 2, .inl s_sf)), (k_a, .inr (0, [.ref k_f, .ref k_s])), (k_f, .inl (cI, 25, .inl k_fh)), (k_s, .inl (cI, 25, .inl k_sh))] s.heap [] := w
  have hl : lv_has ls 3 [(0, .ref h_a), (1, .int a1), (2, .int a2)] := hl
  obtain ⟨H, eH⟩ : ∃ H, H = s.heap := ⟨_, rfl⟩
  rw [← eH] at w ⊢
  generalize ([] : List Loc) = locs at w ⊢
  generalize List.toArray _ = args at C ⊢
  obtain ⟨hx, hb, hr, hml, hown, hts, hlk⟩ := id C
  have hg : ∀ w ∈ GW, w.before args s = true := fun w h => hts w (List.mem_cons_of_mem _ h)
  unfold fX4_put at hf
  refine lv_iload_n hx hb dX4_put_0 rfl (lv_at hl 1 rfl) ?_
  replace hf := ob_at hf
  obtain ⟨r1, er1, hf⟩ := hf
  refine k_goI0 w [] rfl (va_runS (As := [.int a1]) (rest := []) ⟨hx, hb, hml, hown, hg⟩ (tX4_isPiece l D cI cZ b0 tt a1 er1 H.size) (va_cwS 1 hg (gwS w_257 w_184 w_1 w_185) rfl rfl rfl qdX4_isPiece ⟨Nat.le_of_ble_eq_true rfl, Nat.le_of_ble_eq_true rfl⟩) (k_preS w [] (by decide) rfl) rfl rfl hl.1 rfl (lv_room (Nat.le_of_ble_eq_true rfl)) dX4_put_1 ⟨Nat.le_refl _, Nat.le_refl _⟩) (fun H locs w => ?_)
  refine lv_if_eq (tgt := 14) hx hb dX4_put_4 (by decide) (fun c2 => ?_) (fun c2 => ?_)
  · replace hf := ite_t c2 hf
    refine lv_iconst (v := (-1)) hx hb dX4_put_14 (by decide) ?_
    exact k_iret (u := (h_ac, n_th, n_ki, n_fe, n_lo, c_st, c_sk, c_sf)) hx hb hr hlk w rfl hf dX4_put_15
  · replace hf := ite_f c2 hf
    refine lv_iload_n hx hb dX4_put_7 rfl (lv_at hl 2 rfl) ?_
    replace hf := ob_at hf
    obtain ⟨r3, er3, hf⟩ := hf
    refine k_goI0 w [] rfl (va_runS (As := [.int a2]) (rest := []) ⟨hx, hb, hml, hown, hg⟩ (tX4_isKind l D cI cZ b0 tt a2 er3 H.size) (va_cwS 1 hg (gwS w_252 w_152 w_1 w_153) rfl rfl rfl qdX4_isKind ⟨Nat.le_of_ble_eq_true rfl, Nat.le_of_ble_eq_true rfl⟩) (k_preS w [] (by decide) rfl) rfl rfl hl.1 rfl (lv_room (Nat.le_of_ble_eq_true rfl)) dX4_put_8 ⟨Nat.le_refl _, Nat.le_refl _⟩) (fun H locs w => ?_)
    refine lv_if_ne (tgt := 16) hx hb dX4_put_11 (by decide) (fun c4 => ?_) (fun c4 => ?_)
    · replace hf := ite_f c4 hf
      refine lv_aload_n hx hb dX4_put_16 rfl (lv_at hl 0 rfl) ?_
      refine va_get (D := D) (ci := 4) (v := .ref n_a) (C := RX4) (T := TX4) (N := 12) hx hb hg iX4 hown w.2.2.2.2.2.2.1 w.1 0 rfl rfl 1 (by decide) (hg _ w_86) (fun _ h9 => h9) rfl dX4_put_17 ?_
      refine lv_iload_n hx hb dX4_put_20 rfl (lv_at hl 1 rfl) ?_
      replace hf := ob_at hf
      obtain ⟨r5, er5, hf⟩ := hf
      refine k_goI0 w [3, 4, 5] rfl (va_runV (As := [.int a1]) (rest := []) ⟨hx, hb, hml, hown, hg⟩ (tX1_has l D cI cZ b0 tt n_a n_c n_d n_th n_ki n_fe n_ca n_lo a1 er5 H.size) (cwV 1 hg (gwV w_258 w_166 w_167 w_3 w_168) rfl rfl rfl ⟨rfl, qdX1_has⟩ ⟨Nat.le_of_ble_eq_true rfl, Nat.le_of_ble_eq_true rfl⟩) (k_preV w [3, 4, 5] (by decide) rfl (q0 := 3) rfl rfl) rfl rfl hl.1 rfl (lv_room (Nat.le_of_ble_eq_true rfl)) dX4_put_21 ⟨Nat.le_refl _, Nat.le_refl _⟩) (fun H locs w => ?_)
      refine lv_if_eq (tgt := 30) hx hb dX4_put_24 (by decide) (fun c6 => ?_) (fun c6 => ?_)
      · replace hf := ite_t c6 hf
        refine lv_aload_n hx hb dX4_put_30 rfl (lv_at hl 0 rfl) ?_
        refine va_get (D := D) (ci := 4) (v := .ref n_a) (C := RX4) (T := TX4) (N := 12) hx hb hg iX4 hown w.2.2.2.2.2.2.1 w.1 0 rfl rfl 1 (by decide) (hg _ w_86) (fun _ h9 => h9) rfl dX4_put_31 ?_
        refine lv_iload_n hx hb dX4_put_34 rfl (lv_at hl 1 rfl) ?_
        refine lv_iload_n hx hb dX4_put_35 rfl (lv_at hl 2 rfl) ?_
        replace hf := ob_at hf
        obtain ⟨r7, er7, hf⟩ := hf
        refine k_goI0 w [3, 4, 5] rfl (va_runV (As := [.int a1, .int a2]) (rest := []) ⟨hx, hb, hml, hown, hg⟩ (tX1_canLay l D cI cZ b0 tt n_a n_c n_d n_th n_ki n_fe n_ca n_lo a1 a2 er7 H.size) (cwV 2 hg (gwV w_274 w_190 w_191 w_3 w_192) rfl rfl rfl ⟨rfl, qdX1_canLay⟩ ⟨Nat.le_of_ble_eq_true rfl, Nat.le_of_ble_eq_true rfl⟩) (k_preV w [3, 4, 5] (by decide) rfl (q0 := 3) rfl rfl) rfl rfl hl.1 rfl (lv_room (Nat.le_of_ble_eq_true rfl)) dX4_put_36 ⟨Nat.le_refl _, Nat.le_refl _⟩) (fun H locs w => ?_)
        refine lv_if_ne (tgt := 45) hx hb dX4_put_39 (by decide) (fun c8 => ?_) (fun c8 => ?_)
        · replace hf := ite_f c8 hf
          refine lv_aload_n hx hb dX4_put_45 rfl (lv_at hl 0 rfl) ?_
          replace hf := ob_at hf
          obtain ⟨r9, er9, hf⟩ := hf
          refine k_goV (v0 := (h_ac, c_st, c_sk, c_sf)) (res := r9) w [0, 1, 2, 3, 4, 5, 6, 7, 8, 9, 10, 11, 12, 13, 14, 15, 16, 17, 18, 19] rfl (fun _ => rfl) (va_runV (As := []) (rest := []) ⟨hx, hb, hml, hown, hg⟩ (tX4_recordAct l D cI cZ b0 tt h_a x_a n_a r_a c_a s_a k_a x_l n_c n_d r_c r_d c_t c_k c_f s_t s_k s_f k_f k_s h_ac h_ks h_hc h_ok h_tk h_se x_ln x_le n_th n_ki n_fe n_ca n_lo r_th r_ki r_fe r_ca r_lo c_sz c_st c_sk c_sf s_sz s_st s_sk s_sf k_fh k_sh er9 H.size) (cwV 0 hg (gwV w_275 w_276 w_836 w_1 w_277) rfl rfl rfl ⟨rfl, qdX4_recordAct⟩ ⟨Nat.le_of_ble_eq_true rfl, Nat.le_of_ble_eq_true rfl⟩) (k_preV w [0, 1, 2, 3, 4, 5, 6, 7, 8, 9, 10, 11, 12, 13, 14, 15, 16, 17, 18, 19] (by decide) rfl (q0 := 0) rfl rfl) rfl rfl hl.1 rfl (lv_room (Nat.le_of_ble_eq_true rfl)) dX4_put_46 ⟨Nat.le_refl _, Nat.le_refl _⟩) (fun H locs w => ?_)
          have w : Wd D cI cZ b0 tt A s [(h_a, .inr (4, [.ref x_a, .ref n_a, .ref r_a, .ref c_a, .ref s_a, .ref k_a, .int r9.1, .int h_ks, .int h_hc, .int h_ok, .int h_tk, .long h_se])), (x_a, .inr (3, [.ref x_l, .int x_ln])), (x_l, .inl (cI, 56, .inl x_le)), (n_a, .inr (1, [.int n_th, .int n_ki, .int n_fe, .ref n_c, .ref n_d])), (n_c, .inl (cI, 4, .inl n_ca)), (n_d, .inl (cI, 16, .inl n_lo)), (r_a, .inr (1, [.int r_th, .int r_ki, .int r_fe, .ref r_c, .ref r_d])), (r_c, .inl (cI, 4, .inl r_ca)), (r_d, .inl (cI, 16, .inl r_lo)), (c_a, .inr (2, [.int c_sz, .ref c_t, .ref c_k, .ref c_f])), (c_t, .inl (cI, 14, .inl r9.2.1)), (c_k, .inl (cI, 14, .inl r9.2.2.1)), (c_f, .inl (cI, 14, .inl r9.2.2.2)), (s_a, .inr (2, [.int s_sz, .ref s_t, .ref s_k, .ref s_f])), (s_t, .inl (cI, 2, .inl s_st)), (s_k, .inl (cI, 2, .inl s_sk)), (s_f, .inl (cI, 2, .inl s_sf)), (k_a, .inr (0, [.ref k_f, .ref k_s])), (k_f, .inl (cI, 25, .inl k_fh)), (k_s, .inl (cI, 25, .inl k_sh))] H locs := w
          refine lv_aload_n hx hb dX4_put_49 rfl (lv_at hl 0 rfl) ?_
          refine va_get (D := D) (ci := 4) (v := .ref n_a) (C := RX4) (T := TX4) (N := 12) hx hb hg iX4 hown w.2.2.2.2.2.2.1 w.1 0 rfl rfl 1 (by decide) (hg _ w_86) (fun _ h9 => h9) rfl dX4_put_50 ?_
          refine lv_iload_n hx hb dX4_put_53 rfl (lv_at hl 1 rfl) ?_
          refine lv_iload_n hx hb dX4_put_54 rfl (lv_at hl 2 rfl) ?_
          replace hf := ob_at hf
          obtain ⟨r10, er10, hf⟩ := hf
          refine k_goI (v0 := (n_th, n_ki, n_fe, n_lo)) (res := r10) w [3, 4, 5] rfl (fun _ => rfl) (va_runV (As := [.int a1, .int a2]) (rest := []) ⟨hx, hb, hml, hown, hg⟩ (tX1_lay l D cI cZ b0 tt n_a n_c n_d n_th n_ki n_fe n_ca n_lo a1 a2 er10 H.size) (cwV 2 hg (gwV w_286 w_287 w_288 w_3 w_289) rfl rfl rfl ⟨rfl, qdX1_lay⟩ ⟨Nat.le_of_ble_eq_true rfl, Nat.le_of_ble_eq_true rfl⟩) (k_preV w [3, 4, 5] (by decide) rfl (q0 := 3) rfl rfl) rfl rfl hl.1 rfl (lv_room (Nat.le_of_ble_eq_true rfl)) dX4_put_55 ⟨Nat.le_refl _, Nat.le_refl _⟩) (fun H locs w => ?_)
          have w : Wd D cI cZ b0 tt A s [(h_a, .inr (4, [.ref x_a, .ref n_a, .ref r_a, .ref c_a, .ref s_a, .ref k_a, .int r9.1, .int h_ks, .int h_hc, .int h_ok, .int h_tk, .long h_se])), (x_a, .inr (3, [.ref x_l, .int x_ln])), (x_l, .inl (cI, 56, .inl x_le)), (n_a, .inr (1, [.int r10.2.1, .int r10.2.2.1, .int r10.2.2.2.1, .ref n_c, .ref n_d])), (n_c, .inl (cI, 4, .inl n_ca)), (n_d, .inl (cI, 16, .inl r10.2.2.2.2)), (r_a, .inr (1, [.int r_th, .int r_ki, .int r_fe, .ref r_c, .ref r_d])), (r_c, .inl (cI, 4, .inl r_ca)), (r_d, .inl (cI, 16, .inl r_lo)), (c_a, .inr (2, [.int c_sz, .ref c_t, .ref c_k, .ref c_f])), (c_t, .inl (cI, 14, .inl r9.2.1)), (c_k, .inl (cI, 14, .inl r9.2.2.1)), (c_f, .inl (cI, 14, .inl r9.2.2.2)), (s_a, .inr (2, [.int s_sz, .ref s_t, .ref s_k, .ref s_f])), (s_t, .inl (cI, 2, .inl s_st)), (s_k, .inl (cI, 2, .inl s_sk)), (s_f, .inl (cI, 2, .inl s_sf)), (k_a, .inr (0, [.ref k_f, .ref k_s])), (k_f, .inl (cI, 25, .inl k_fh)), (k_s, .inl (cI, 25, .inl k_sh))] H locs := w
          exact k_iret (u := (r9.1, r10.2.1, r10.2.2.1, r10.2.2.2.1, r10.2.2.2.2, r9.2.1, r9.2.2.1, r9.2.2.2)) hx hb hr hlk w rfl hf dX4_put_58
        · replace hf := ite_t c8 hf
          refine lv_bipush (v := (-3)) hx hb dX4_put_42 (by decide) ?_
          exact k_iret (u := (h_ac, n_th, n_ki, n_fe, n_lo, c_st, c_sk, c_sf)) hx hb hr hlk w rfl hf dX4_put_44
      · replace hf := ite_f c6 hf
        refine lv_bipush (v := (-4)) hx hb dX4_put_27 (by decide) ?_
        exact k_iret (u := (h_ac, n_th, n_ki, n_fe, n_lo, c_st, c_sk, c_sf)) hx hb hr hlk w rfl hf dX4_put_29
    · replace hf := ite_t c4 hf
      refine lv_iconst (v := (-1)) hx hb dX4_put_14 (by decide) ?_
      exact k_iret (u := (h_ac, n_th, n_ki, n_fe, n_lo, c_st, c_sk, c_sf)) hx hb hr hlk w rfl hf dX4_put_15
-- X4_take
def fX4_take  (h_ac : Int32) (n_th : Int32) (n_ki : Int32) (n_fe : Int32) (c_sz : Int32) (c_st : Nat → Int32) (c_sk : Nat → Int32) (c_sf : Nat → Int32) (a1 : Int32) : Option (Int32 × Int32 × Int32 × (Nat → Int32) × (Nat → Int32) × (Nat → Int32)) := ob (fX4_isPiece a1) (fun r1 => (if r1 = 0 then some ((-1), (h_ac, n_th, c_st, c_sk, c_sf)) else ob (fX1_canLift n_th a1) (fun r3 => (if r3 = 0 then some ((-3), (h_ac, n_th, c_st, c_sk, c_sf)) else ob (fX4_recordAct h_ac n_th n_ki n_fe c_sz c_st c_sk c_sf) (fun r5 => ob (fX1_lift n_th a1) (fun r6 => ob (fX4_cardsOf a1) (fun r7 => some (r7, (r5.1, r6, r5.2.1, r5.2.2.1, r5.2.2.2)))))))))
set_option maxRecDepth 100000 in
set_option maxHeartbeats 4000000 in
theorem tX4_take (l : Launch) (D : va_G) (cI cZ : ClassId) (b0 : Nat) (tt : Nat → Nat)  (h_a x_a n_a r_a c_a s_a k_a x_l n_c n_d r_c r_d c_t c_k c_f s_t s_k s_f k_f k_s : Nat) (h_ac : Int32) (h_ks : Int32) (h_hc : Int32) (h_ok : Int32) (h_tk : Int32) (h_se : Int64) (x_ln : Int32) (x_le : Nat → Int32) (n_th : Int32) (n_ki : Int32) (n_fe : Int32) (n_ca : Nat → Int32) (n_lo : Nat → Int32) (r_th : Int32) (r_ki : Int32) (r_fe : Int32) (r_ca : Nat → Int32) (r_lo : Nat → Int32) (c_sz : Int32) (c_st : Nat → Int32) (c_sk : Nat → Int32) (c_sf : Nat → Int32) (s_sz : Int32) (s_st : Nat → Int32) (s_sk : Nat → Int32) (s_sf : Nat → Int32) (k_fh : Nat → Int32) (k_sh : Nat → Int32) (a1 : Int32) {res : Int32 × Int32 × Int32 × (Nat → Int32) × (Nat → Int32) × (Nat → Int32)} (hf : fX4_take h_ac n_th n_ki n_fe c_sz c_st c_sk c_sf a1 = some res) : CtI l yX4_take (cwX4_take :: GW) 3 65 D cI cZ b0 tt [.ref h_a, .int a1] (fun u : Int32 × Int32 × (Nat → Int32) × (Nat → Int32) × (Nat → Int32) => [(h_a, .inr (4, [.ref x_a, .ref n_a, .ref r_a, .ref c_a, .ref s_a, .ref k_a, .int u.1, .int h_ks, .int h_hc, .int h_ok, .int h_tk, .long h_se])), (x_a, .inr (3, [.ref x_l, .int x_ln])), (x_l, .inl (cI, 56, .inl x_le)), (n_a, .inr (1, [.int u.2.1, .int n_ki, .int n_fe, .ref n_c, .ref n_d])), (n_c, .inl (cI, 4, .inl n_ca)), (n_d, .inl (cI, 16, .inl n_lo)), (r_a, .inr (1, [.int r_th, .int r_ki, .int r_fe, .ref r_c, .ref r_d])), (r_c, .inl (cI, 4, .inl r_ca)), (r_d, .inl (cI, 16, .inl r_lo)), (c_a, .inr (2, [.int c_sz, .ref c_t, .ref c_k, .ref c_f])), (c_t, .inl (cI, 14, .inl u.2.2.1)), (c_k, .inl (cI, 14, .inl u.2.2.2.1)), (c_f, .inl (cI, 14, .inl u.2.2.2.2)), (s_a, .inr (2, [.int s_sz, .ref s_t, .ref s_k, .ref s_f])), (s_t, .inl (cI, 2, .inl s_st)), (s_k, .inl (cI, 2, .inl s_sk)), (s_f, .inl (cI, 2, .inl s_sf)), (k_a, .inr (0, [.ref k_f, .ref k_s])), (k_f, .inl (cI, 25, .inl k_fh)), (k_s, .inl (cI, 25, .inl k_sh))]) (h_ac, n_th, c_st, c_sk, c_sf) res := by
  intro sz
  refine k_begin (cc := cX4_take) (maxL := 2) (ret := (some .int)) (by decide) rfl (Nat.le_of_ble_eq_true rfl) ?_
  intro p e s m below meth c ls C w hl
  generalize va_A _ sz = A at w ⊢
  have w : Wd D cI cZ b0 tt A s [(h_a, .inr (4, [.ref x_a, .ref n_a, .ref r_a, .ref c_a, .ref s_a, .ref k_a, .int h_ac, .int h_ks, .int h_hc, .int h_ok, .int h_tk, .long h_se])), (x_a, .inr (3, [.ref x_l, .int x_ln])), (x_l, .inl (cI, 56, .inl x_le)), (n_a, .inr (1, [.int n_th, .int n_ki, .int n_fe, .ref n_c, .ref n_d])), (n_c, .inl (cI, 4, .inl n_ca)), (n_d, .inl (cI, 16, .inl n_lo)), (r_a, .inr (1, [.int r_th, .int r_ki, .int r_fe, .ref r_c, .ref r_d])), (r_c, .inl (cI, 4, .inl r_ca)), (r_d, .inl (cI, 16, .inl r_lo)), (c_a, .inr (2, [.int c_sz, .ref c_t, .ref c_k, .ref c_f])), (c_t, .inl (cI, 14, .inl c_st)), (c_k, .inl (cI, 14, .inl c_sk)), (c_f, .inl (cI, 14, .inl c_sf)), (s_a, .inr (2, [.int s_sz, .ref s_t, .ref s_k, .ref s_f])), (s_t, .inl (cI, 2, .inl s_st)), (s_k, .inl (cI, 2, .inl s_sk)), (s_f, .inl (cI, 2, .inl s_sf)), (k_a, .inr (0, [.ref k_f, .ref k_s])), (k_f, .inl (cI, 25, .inl k_fh)), (k_s, .inl (cI, 25, .inl k_sh))] s.heap [] := w
  have hl : lv_has ls 2 [(0, .ref h_a), (1, .int a1)] := hl
  obtain ⟨H, eH⟩ : ∃ H, H = s.heap := ⟨_, rfl⟩
  rw [← eH] at w ⊢
  generalize ([] : List Loc) = locs at w ⊢
  generalize List.toArray _ = args at C ⊢
  obtain ⟨hx, hb, hr, hml, hown, hts, hlk⟩ := id C
  have hg : ∀ w ∈ GW, w.before args s = true := fun w h => hts w (List.mem_cons_of_mem _ h)
  unfold fX4_take at hf
  refine lv_iload_n hx hb dX4_take_0 rfl (lv_at hl 1 rfl) ?_
  replace hf := ob_at hf
  obtain ⟨r1, er1, hf⟩ := hf
  refine k_goI0 w [] rfl (va_runS (As := [.int a1]) (rest := []) ⟨hx, hb, hml, hown, hg⟩ (tX4_isPiece l D cI cZ b0 tt a1 er1 H.size) (va_cwS 1 hg (gwS w_257 w_184 w_1 w_185) rfl rfl rfl qdX4_isPiece ⟨Nat.le_of_ble_eq_true rfl, Nat.le_of_ble_eq_true rfl⟩) (k_preS w [] (by decide) rfl) rfl rfl hl.1 rfl (lv_room (Nat.le_of_ble_eq_true rfl)) dX4_take_1 ⟨Nat.le_refl _, Nat.le_refl _⟩) (fun H locs w => ?_)
  refine lv_if_ne (tgt := 9) hx hb dX4_take_4 (by decide) (fun c2 => ?_) (fun c2 => ?_)
  · replace hf := ite_f c2 hf
    refine lv_aload_n hx hb dX4_take_9 rfl (lv_at hl 0 rfl) ?_
    refine va_get (D := D) (ci := 4) (v := .ref n_a) (C := RX4) (T := TX4) (N := 12) hx hb hg iX4 hown w.2.2.2.2.2.2.1 w.1 0 rfl rfl 1 (by decide) (hg _ w_86) (fun _ h9 => h9) rfl dX4_take_10 ?_
    refine lv_iload_n hx hb dX4_take_13 rfl (lv_at hl 1 rfl) ?_
    replace hf := ob_at hf
    obtain ⟨r3, er3, hf⟩ := hf
    refine k_goI0 w [3, 4, 5] rfl (va_runV (As := [.int a1]) (rest := []) ⟨hx, hb, hml, hown, hg⟩ (tX1_canLift l D cI cZ b0 tt n_a n_c n_d n_th n_ki n_fe n_ca n_lo a1 er3 H.size) (cwV 1 hg (gwV w_266 w_267 w_268 w_3 w_269) rfl rfl rfl ⟨rfl, qdX1_canLift⟩ ⟨Nat.le_of_ble_eq_true rfl, Nat.le_of_ble_eq_true rfl⟩) (k_preV w [3, 4, 5] (by decide) rfl (q0 := 3) rfl rfl) rfl rfl hl.1 rfl (lv_room (Nat.le_of_ble_eq_true rfl)) dX4_take_14 ⟨Nat.le_refl _, Nat.le_refl _⟩) (fun H locs w => ?_)
    refine lv_if_ne (tgt := 23) hx hb dX4_take_17 (by decide) (fun c4 => ?_) (fun c4 => ?_)
    · replace hf := ite_f c4 hf
      refine lv_aload_n hx hb dX4_take_23 rfl (lv_at hl 0 rfl) ?_
      replace hf := ob_at hf
      obtain ⟨r5, er5, hf⟩ := hf
      refine k_goV (v0 := (h_ac, c_st, c_sk, c_sf)) (res := r5) w [0, 1, 2, 3, 4, 5, 6, 7, 8, 9, 10, 11, 12, 13, 14, 15, 16, 17, 18, 19] rfl (fun _ => rfl) (va_runV (As := []) (rest := []) ⟨hx, hb, hml, hown, hg⟩ (tX4_recordAct l D cI cZ b0 tt h_a x_a n_a r_a c_a s_a k_a x_l n_c n_d r_c r_d c_t c_k c_f s_t s_k s_f k_f k_s h_ac h_ks h_hc h_ok h_tk h_se x_ln x_le n_th n_ki n_fe n_ca n_lo r_th r_ki r_fe r_ca r_lo c_sz c_st c_sk c_sf s_sz s_st s_sk s_sf k_fh k_sh er5 H.size) (cwV 0 hg (gwV w_275 w_276 w_836 w_1 w_277) rfl rfl rfl ⟨rfl, qdX4_recordAct⟩ ⟨Nat.le_of_ble_eq_true rfl, Nat.le_of_ble_eq_true rfl⟩) (k_preV w [0, 1, 2, 3, 4, 5, 6, 7, 8, 9, 10, 11, 12, 13, 14, 15, 16, 17, 18, 19] (by decide) rfl (q0 := 0) rfl rfl) rfl rfl hl.1 rfl (lv_room (Nat.le_of_ble_eq_true rfl)) dX4_take_24 ⟨Nat.le_refl _, Nat.le_refl _⟩) (fun H locs w => ?_)
      have w : Wd D cI cZ b0 tt A s [(h_a, .inr (4, [.ref x_a, .ref n_a, .ref r_a, .ref c_a, .ref s_a, .ref k_a, .int r5.1, .int h_ks, .int h_hc, .int h_ok, .int h_tk, .long h_se])), (x_a, .inr (3, [.ref x_l, .int x_ln])), (x_l, .inl (cI, 56, .inl x_le)), (n_a, .inr (1, [.int n_th, .int n_ki, .int n_fe, .ref n_c, .ref n_d])), (n_c, .inl (cI, 4, .inl n_ca)), (n_d, .inl (cI, 16, .inl n_lo)), (r_a, .inr (1, [.int r_th, .int r_ki, .int r_fe, .ref r_c, .ref r_d])), (r_c, .inl (cI, 4, .inl r_ca)), (r_d, .inl (cI, 16, .inl r_lo)), (c_a, .inr (2, [.int c_sz, .ref c_t, .ref c_k, .ref c_f])), (c_t, .inl (cI, 14, .inl r5.2.1)), (c_k, .inl (cI, 14, .inl r5.2.2.1)), (c_f, .inl (cI, 14, .inl r5.2.2.2)), (s_a, .inr (2, [.int s_sz, .ref s_t, .ref s_k, .ref s_f])), (s_t, .inl (cI, 2, .inl s_st)), (s_k, .inl (cI, 2, .inl s_sk)), (s_f, .inl (cI, 2, .inl s_sf)), (k_a, .inr (0, [.ref k_f, .ref k_s])), (k_f, .inl (cI, 25, .inl k_fh)), (k_s, .inl (cI, 25, .inl k_sh))] H locs := w
      refine lv_aload_n hx hb dX4_take_27 rfl (lv_at hl 0 rfl) ?_
      refine va_get (D := D) (ci := 4) (v := .ref n_a) (C := RX4) (T := TX4) (N := 12) hx hb hg iX4 hown w.2.2.2.2.2.2.1 w.1 0 rfl rfl 1 (by decide) (hg _ w_86) (fun _ h9 => h9) rfl dX4_take_28 ?_
      refine lv_iload_n hx hb dX4_take_31 rfl (lv_at hl 1 rfl) ?_
      replace hf := ob_at hf
      obtain ⟨r6, er6, hf⟩ := hf
      refine k_goV (v0 := n_th) (res := r6) w [3, 4, 5] rfl (fun _ => rfl) (va_runV (As := [.int a1]) (rest := []) ⟨hx, hb, hml, hown, hg⟩ (tX1_lift l D cI cZ b0 tt n_a n_c n_d n_th n_ki n_fe n_ca n_lo a1 er6 H.size) (cwV 1 hg (gwV w_296 w_297 w_298 w_3 w_299) rfl rfl rfl ⟨rfl, qdX1_lift⟩ ⟨Nat.le_of_ble_eq_true rfl, Nat.le_of_ble_eq_true rfl⟩) (k_preV w [3, 4, 5] (by decide) rfl (q0 := 3) rfl rfl) rfl rfl hl.1 rfl (lv_room (Nat.le_of_ble_eq_true rfl)) dX4_take_32 ⟨Nat.le_refl _, Nat.le_refl _⟩) (fun H locs w => ?_)
      have w : Wd D cI cZ b0 tt A s [(h_a, .inr (4, [.ref x_a, .ref n_a, .ref r_a, .ref c_a, .ref s_a, .ref k_a, .int r5.1, .int h_ks, .int h_hc, .int h_ok, .int h_tk, .long h_se])), (x_a, .inr (3, [.ref x_l, .int x_ln])), (x_l, .inl (cI, 56, .inl x_le)), (n_a, .inr (1, [.int r6, .int n_ki, .int n_fe, .ref n_c, .ref n_d])), (n_c, .inl (cI, 4, .inl n_ca)), (n_d, .inl (cI, 16, .inl n_lo)), (r_a, .inr (1, [.int r_th, .int r_ki, .int r_fe, .ref r_c, .ref r_d])), (r_c, .inl (cI, 4, .inl r_ca)), (r_d, .inl (cI, 16, .inl r_lo)), (c_a, .inr (2, [.int c_sz, .ref c_t, .ref c_k, .ref c_f])), (c_t, .inl (cI, 14, .inl r5.2.1)), (c_k, .inl (cI, 14, .inl r5.2.2.1)), (c_f, .inl (cI, 14, .inl r5.2.2.2)), (s_a, .inr (2, [.int s_sz, .ref s_t, .ref s_k, .ref s_f])), (s_t, .inl (cI, 2, .inl s_st)), (s_k, .inl (cI, 2, .inl s_sk)), (s_f, .inl (cI, 2, .inl s_sf)), (k_a, .inr (0, [.ref k_f, .ref k_s])), (k_f, .inl (cI, 25, .inl k_fh)), (k_s, .inl (cI, 25, .inl k_sh))] H locs := w
      refine lv_iload_n hx hb dX4_take_35 rfl (lv_at hl 1 rfl) ?_
      replace hf := ob_at hf
      obtain ⟨r7, er7, hf⟩ := hf
      refine k_goI0 w [] rfl (va_runS (As := [.int a1]) (rest := []) ⟨hx, hb, hml, hown, hg⟩ (tX4_cardsOf l D cI cZ b0 tt a1 er7 H.size) (va_cwS 1 hg (gwS w_300 w_173 w_1 w_174) rfl rfl rfl qdX4_cardsOf ⟨Nat.le_of_ble_eq_true rfl, Nat.le_of_ble_eq_true rfl⟩) (k_preS w [] (by decide) rfl) rfl rfl hl.1 rfl (lv_room (Nat.le_of_ble_eq_true rfl)) dX4_take_36 ⟨Nat.le_refl _, Nat.le_refl _⟩) (fun H locs w => ?_)
      exact k_iret (u := (r5.1, r6, r5.2.1, r5.2.2.1, r5.2.2.2)) hx hb hr hlk w rfl hf dX4_take_39
    · replace hf := ite_t c4 hf
      refine lv_bipush (v := (-3)) hx hb dX4_take_20 (by decide) ?_
      exact k_iret (u := (h_ac, n_th, c_st, c_sk, c_sf)) hx hb hr hlk w rfl hf dX4_take_22
  · replace hf := ite_t c2 hf
    refine lv_iconst (v := (-1)) hx hb dX4_take_7 (by decide) ?_
    exact k_iret (u := (h_ac, n_th, c_st, c_sk, c_sf)) hx hb hr hlk w rfl hf dX4_take_8
