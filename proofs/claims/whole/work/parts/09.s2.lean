/-! The law's loop (by mk_start.py). -/
set_option maxHeartbeats 4000000 in
theorem LI_S {D : va_G} {cI cZ : ClassId} {tt : Nat → Nat} {s : State} {h_a x_a n_a r_a c_a s_a k_a x_l n_c n_d r_c r_d c_t c_k c_f s_t s_k s_f k_f k_s m_a q_text q_cards q_readCards q_readPage q_page q_trial q_loads q_book q_kept q_isKept q_heldWho q_heldForce q_heldLoad q_heldIs q_gains q_value : Nat} {H : Heap} {locs : List Loc} (h : LI D cI cZ tt s h_a x_a n_a r_a c_a s_a k_a x_l n_c n_d r_c r_d c_t c_k c_f s_t s_k s_f k_f k_s m_a q_text q_cards q_readCards q_readPage q_page q_trial q_loads q_book q_kept q_isKept q_heldWho q_heldForce q_heldLoad q_heldIs q_gains q_value H locs) : va_S (fun q : Nat => s.heap.size ≤ q) s.heap H locs := by
  obtain ⟨_, _, _, _, _, _, _, _, _, _, _, _, _, _, _, _, _, _, _, _, _, _, _, _, _, _, _, _, _, _, _, _, _, _, _, _, _, _, _, _, _, _, _, _, _, _, _, _, _, _, _, _, _, _, -, -, -, -, -, -, w⟩ := h
  exact w.2.2.1
theorem l5 {i L : Nat} (hL : L ≤ 2560) (hi : i ≤ L) (c : ¬ (Int32.ofNat L - 5) < nI i) : i + 5 ≤ L := by
  have h1 : (Int32.ofNat L).toInt = L := nI_toInt (n := L) (by omega)
  have h2 : (nI i).toInt = i := nI_toInt (by omega)
  have h3 : (5 : Int32).toInt = 5 := by decide
  have h4 : (Int32.ofNat L - 5).toInt = (L : Int) - 5 := by
    rw [Int32.toInt_sub, h1, h3]
    exact Int.bmod_eq_of_le (by omega) (by omega)
  rw [Int32.lt_iff_toInt_lt, h4, h2] at c
  omega
set_option maxRecDepth 100000 in
set_option maxHeartbeats 8000000 in
theorem law_sw {p : Program} {l : Launch} {e : Env} {s : State} {m : MethodId} {below : List Frame} {meth : Method} {c : Code} {b L : Nat} {xs : Nat → Int32} (C0 : lw_At p s m meth c b L xs) {D : va_G} {cI cZ : ClassId} {tt : Nat → Nat} {h_a x_a n_a r_a c_a s_a k_a x_l n_c n_d r_c r_d c_t c_k c_f s_t s_k s_f k_f k_s m_a q_text q_cards q_readCards q_readPage q_page q_trial q_loads q_book q_kept q_isKept q_heldWho q_heldForce q_heldLoad q_heldIs q_gains q_value : Nat} {x3 : Int32} (vv1 : vp_in (x3 + 1) L) (vv2 : vp_in (x3 + 2) L) (vv3 : vp_in (x3 + 3) L) (vv4 : vp_in (x3 + 4) L) {H : Heap} {locs : List Loc} {ls : Array Slot} (hl : lv_has ls 4 [(0, .ref b), (1, .ref h_a), (2, .ref m_a), (3, .int x3)]) (w0 : LI D cI cZ tt s h_a x_a n_a r_a c_a s_a k_a x_l n_c n_d r_c r_d c_t c_k c_f s_t s_k s_f k_f k_s m_a q_text q_cards q_readCards q_readPage q_page q_trial q_loads q_book q_kept q_isKept q_heldWho q_heldForce q_heldLoad q_heldIs q_gains q_value H locs) (kk : ∀ (H : Heap) (locs : List Loc), LI D cI cZ tt s h_a x_a n_a r_a c_a s_a k_a x_l n_c n_d r_c r_d c_t c_k c_f s_t s_k s_f k_f k_s m_a q_text q_cards q_readCards q_readPage q_page q_trial q_loads q_book q_kept q_isKept q_heldWho q_heldForce q_heldLoad q_heldIs q_gains q_value H locs → W p l e room_1 s m #[Value.ref b] below meth c H locs 37 749 (lw_Z below #[Value.ref b] s) (F0 m 950 ls [])) (z : Int32) : W p l e room_1 s m #[Value.ref b] below meth c H locs 37 749 (lw_Z below #[Value.ref b] s) (F0 m 32 ls [.int z]) := by
  obtain ⟨hx, hb, hr, hml, hown, hts, hX, hbl, hlk, hgv⟩ := id C0
  have kw := kk H locs w0
  obtain ⟨g, h_ac, h_ks, h_hc, h_ok, h_tk, h_se, x_ln, x_le, n_th, n_ki, n_fe, n_ca, n_lo, r_th, r_ki, r_fe, r_ca, r_lo, c_sz, c_st, c_sk, c_sf, s_sz, s_st, s_sk, s_sf, k_fh, k_sh, m_thrown, m_textSize, m_place, m_acts, m_held, m_tentMany, m_tentFirst, m_restMany, m_restFirst, m_text, m_cards, m_readCards, m_readPage, m_page, m_trial, m_loads, m_book, m_kept, m_isKept, m_heldWho, m_heldForce, m_heldLoad, m_heldIs, m_gains, m_value, hP, hC, hA, hS, hT, hH, w⟩ := w0
  by_cases c0 : z = 0
  · refine lv_tableIn (off := 124) (tgt := 156) hx hb dL_law_32 (by rw [c0]; decide) (by rw [c0]; decide) (by rw [c0]; decide) (by decide) ?_
    exact cs_0 C0 vv1 rfl vv2 rfl vv3 rfl vv4 rfl hl hP hC hA hS hT hH w kk
  by_cases c1 : z = 1
  · refine lv_tableIn (off := 147) (tgt := 179) hx hb dL_law_32 (by rw [c1]; decide) (by rw [c1]; decide) (by rw [c1]; decide) (by decide) ?_
    exact cs_1 C0 vv1 rfl vv2 rfl vv3 rfl vv4 rfl hl hP hC hA hS hT hH w kk
  by_cases c2 : z = 2
  · refine lv_tableIn (off := 160) (tgt := 192) hx hb dL_law_32 (by rw [c2]; decide) (by rw [c2]; decide) (by rw [c2]; decide) (by decide) ?_
    exact cs_2 C0 vv1 rfl vv2 rfl vv3 rfl vv4 rfl hl hP hC hA hS hT hH w kk
  by_cases c3 : z = 3
  · refine lv_tableIn (off := 173) (tgt := 205) hx hb dL_law_32 (by rw [c3]; decide) (by rw [c3]; decide) (by rw [c3]; decide) (by decide) ?_
    exact cs_3 C0 vv1 rfl vv2 rfl vv3 rfl vv4 rfl hl hP hC hA hS hT hH w kk
  by_cases c4 : z = 4
  · refine lv_tableIn (off := 186) (tgt := 218) hx hb dL_law_32 (by rw [c4]; decide) (by rw [c4]; decide) (by rw [c4]; decide) (by decide) ?_
    exact cs_4 C0 vv1 rfl vv2 rfl vv3 rfl vv4 rfl hl hP hC hA hS hT hH w kk
  by_cases c5 : z = 5
  · refine lv_tableIn (off := 209) (tgt := 241) hx hb dL_law_32 (by rw [c5]; decide) (by rw [c5]; decide) (by rw [c5]; decide) (by decide) ?_
    exact cs_5 C0 vv1 rfl vv2 rfl vv3 rfl vv4 rfl hl hP hC hA hS hT hH w kk
  by_cases c6 : z = 6
  · refine lv_tableIn (off := 232) (tgt := 264) hx hb dL_law_32 (by rw [c6]; decide) (by rw [c6]; decide) (by rw [c6]; decide) (by decide) ?_
    exact cs_6 C0 vv1 rfl vv2 rfl vv3 rfl vv4 rfl hl hP hC hA hS hT hH w kk
  by_cases c7 : z = 7
  · refine lv_tableIn (off := 265) (tgt := 297) hx hb dL_law_32 (by rw [c7]; decide) (by rw [c7]; decide) (by rw [c7]; decide) (by decide) ?_
    exact cs_7 C0 vv1 rfl vv2 rfl vv3 rfl vv4 rfl hl hP hC hA hS hT hH w kk
  by_cases c8 : z = 8
  · refine lv_tableIn (off := 298) (tgt := 330) hx hb dL_law_32 (by rw [c8]; decide) (by rw [c8]; decide) (by rw [c8]; decide) (by decide) ?_
    exact cs_8 C0 vv1 rfl vv2 rfl vv3 rfl vv4 rfl hl hP hC hA hS hT hH w kk
  by_cases c9 : z = 9
  · refine lv_tableIn (off := 321) (tgt := 353) hx hb dL_law_32 (by rw [c9]; decide) (by rw [c9]; decide) (by rw [c9]; decide) (by decide) ?_
    exact cs_9 C0 vv1 rfl vv2 rfl vv3 rfl vv4 rfl hl hP hC hA hS hT hH w kk
  by_cases c10 : z = 10
  · refine lv_tableIn (off := 354) (tgt := 386) hx hb dL_law_32 (by rw [c10]; decide) (by rw [c10]; decide) (by rw [c10]; decide) (by decide) ?_
    exact cs_10 C0 vv1 rfl vv2 rfl vv3 rfl vv4 rfl hl hP hC hA hS hT hH w kk
  by_cases c11 : z = 11
  · refine lv_tableIn (off := 367) (tgt := 399) hx hb dL_law_32 (by rw [c11]; decide) (by rw [c11]; decide) (by rw [c11]; decide) (by decide) ?_
    exact cs_11 C0 vv1 rfl vv2 rfl vv3 rfl vv4 rfl hl hP hC hA hS hT hH w kk
  by_cases c12 : z = 12
  · refine lv_tableIn (off := 390) (tgt := 422) hx hb dL_law_32 (by rw [c12]; decide) (by rw [c12]; decide) (by rw [c12]; decide) (by decide) ?_
    exact cs_12 C0 vv1 rfl vv2 rfl vv3 rfl vv4 rfl hl hP hC hA hS hT hH w kk
  by_cases c13 : z = 13
  · refine lv_tableIn (off := 413) (tgt := 445) hx hb dL_law_32 (by rw [c13]; decide) (by rw [c13]; decide) (by rw [c13]; decide) (by decide) ?_
    exact cs_13 C0 vv1 rfl vv2 rfl vv3 rfl vv4 rfl hl hP hC hA hS hT hH w kk
  by_cases c14 : z = 14
  · refine lv_tableIn (off := 436) (tgt := 468) hx hb dL_law_32 (by rw [c14]; decide) (by rw [c14]; decide) (by rw [c14]; decide) (by decide) ?_
    exact cs_14 C0 vv1 rfl vv2 rfl vv3 rfl vv4 rfl hl hP hC hA hS hT hH w kk
  by_cases c15 : z = 15
  · refine lv_tableIn (off := 469) (tgt := 501) hx hb dL_law_32 (by rw [c15]; decide) (by rw [c15]; decide) (by rw [c15]; decide) (by decide) ?_
    exact cs_15 C0 vv1 rfl vv2 rfl vv3 rfl vv4 rfl hl hP hC hA hS hT hH w kk
  by_cases c16 : z = 16
  · refine lv_tableIn (off := 492) (tgt := 524) hx hb dL_law_32 (by rw [c16]; decide) (by rw [c16]; decide) (by rw [c16]; decide) (by decide) ?_
    exact cs_16 C0 vv1 rfl vv2 rfl vv3 rfl vv4 rfl hl hP hC hA hS hT hH w kk
  by_cases c17 : z = 17
  · refine lv_tableIn (off := 555) (tgt := 587) hx hb dL_law_32 (by rw [c17]; decide) (by rw [c17]; decide) (by rw [c17]; decide) (by decide) ?_
    exact cs_17 C0 vv1 rfl vv2 rfl vv3 rfl vv4 rfl hl hP hC hA hS hT hH w kk
  by_cases c18 : z = 18
  · refine lv_tableIn (off := 604) (tgt := 636) hx hb dL_law_32 (by rw [c18]; decide) (by rw [c18]; decide) (by rw [c18]; decide) (by decide) ?_
    exact cs_18 C0 vv1 rfl vv2 rfl vv3 rfl vv4 rfl hl hP hC hA hS hT hH w kk
  by_cases c19 : z = 19
  · refine lv_tableIn (off := 657) (tgt := 689) hx hb dL_law_32 (by rw [c19]; decide) (by rw [c19]; decide) (by rw [c19]; decide) (by decide) ?_
    exact cs_19 C0 vv1 rfl vv2 rfl vv3 rfl vv4 rfl hl hP hC hA hS hT hH w kk
  by_cases c20 : z = 20
  · refine lv_tableIn (off := 670) (tgt := 702) hx hb dL_law_32 (by rw [c20]; decide) (by rw [c20]; decide) (by rw [c20]; decide) (by decide) ?_
    exact cs_20 C0 vv1 rfl vv2 rfl vv3 rfl vv4 rfl hl hP hC hA hS hT hH w kk
  by_cases c21 : z = 21
  · refine lv_tableIn (off := 693) (tgt := 725) hx hb dL_law_32 (by rw [c21]; decide) (by rw [c21]; decide) (by rw [c21]; decide) (by decide) ?_
    exact cs_21 C0 vv1 rfl vv2 rfl vv3 rfl vv4 rfl hl hP hC hA hS hT hH w kk
  by_cases c22 : z = 22
  · refine lv_tableIn (off := 736) (tgt := 768) hx hb dL_law_32 (by rw [c22]; decide) (by rw [c22]; decide) (by rw [c22]; decide) (by decide) ?_
    exact cs_22 C0 vv1 rfl vv2 rfl vv3 rfl vv4 rfl hl hP hC hA hS hT hH w kk
  by_cases c23 : z = 23
  · refine lv_tableIn (off := 795) (tgt := 827) hx hb dL_law_32 (by rw [c23]; decide) (by rw [c23]; decide) (by rw [c23]; decide) (by decide) ?_
    exact cs_23 C0 vv1 rfl vv2 rfl vv3 rfl vv4 rfl hl hP hC hA hS hT hH w kk
  by_cases c24 : z = 24
  · refine lv_tableIn (off := 849) (tgt := 881) hx hb dL_law_32 (by rw [c24]; decide) (by rw [c24]; decide) (by rw [c24]; decide) (by decide) ?_
    exact cs_24 C0 vv1 rfl vv2 rfl vv3 rfl vv4 rfl hl hP hC hA hS hT hH w kk
  by_cases c25 : z = 25
  · refine lv_tableIn (off := 872) (tgt := 904) hx hb dL_law_32 (by rw [c25]; decide) (by rw [c25]; decide) (by rw [c25]; decide) (by decide) ?_
    exact cs_25 C0 vv1 rfl vv2 rfl vv3 rfl vv4 rfl hl hP hC hA hS hT hH w kk
  by_cases c26 : z = 26
  · refine lv_tableIn (off := 895) (tgt := 927) hx hb dL_law_32 (by rw [c26]; decide) (by rw [c26]; decide) (by rw [c26]; decide) (by decide) ?_
    exact cs_26 C0 vv1 rfl vv2 rfl vv3 rfl vv4 rfl hl hP hC hA hS hT hH w kk
  have hz : z.toInt < 0 ∨ 26 < z.toInt := by
    have d0 : z.toInt ≠ 0 := fun h => c0 (Int32.toInt_inj.mp (h.trans (by decide)))
    have d1 : z.toInt ≠ 1 := fun h => c1 (Int32.toInt_inj.mp (h.trans (by decide)))
    have d2 : z.toInt ≠ 2 := fun h => c2 (Int32.toInt_inj.mp (h.trans (by decide)))
    have d3 : z.toInt ≠ 3 := fun h => c3 (Int32.toInt_inj.mp (h.trans (by decide)))
    have d4 : z.toInt ≠ 4 := fun h => c4 (Int32.toInt_inj.mp (h.trans (by decide)))
    have d5 : z.toInt ≠ 5 := fun h => c5 (Int32.toInt_inj.mp (h.trans (by decide)))
    have d6 : z.toInt ≠ 6 := fun h => c6 (Int32.toInt_inj.mp (h.trans (by decide)))
    have d7 : z.toInt ≠ 7 := fun h => c7 (Int32.toInt_inj.mp (h.trans (by decide)))
    have d8 : z.toInt ≠ 8 := fun h => c8 (Int32.toInt_inj.mp (h.trans (by decide)))
    have d9 : z.toInt ≠ 9 := fun h => c9 (Int32.toInt_inj.mp (h.trans (by decide)))
    have d10 : z.toInt ≠ 10 := fun h => c10 (Int32.toInt_inj.mp (h.trans (by decide)))
    have d11 : z.toInt ≠ 11 := fun h => c11 (Int32.toInt_inj.mp (h.trans (by decide)))
    have d12 : z.toInt ≠ 12 := fun h => c12 (Int32.toInt_inj.mp (h.trans (by decide)))
    have d13 : z.toInt ≠ 13 := fun h => c13 (Int32.toInt_inj.mp (h.trans (by decide)))
    have d14 : z.toInt ≠ 14 := fun h => c14 (Int32.toInt_inj.mp (h.trans (by decide)))
    have d15 : z.toInt ≠ 15 := fun h => c15 (Int32.toInt_inj.mp (h.trans (by decide)))
    have d16 : z.toInt ≠ 16 := fun h => c16 (Int32.toInt_inj.mp (h.trans (by decide)))
    have d17 : z.toInt ≠ 17 := fun h => c17 (Int32.toInt_inj.mp (h.trans (by decide)))
    have d18 : z.toInt ≠ 18 := fun h => c18 (Int32.toInt_inj.mp (h.trans (by decide)))
    have d19 : z.toInt ≠ 19 := fun h => c19 (Int32.toInt_inj.mp (h.trans (by decide)))
    have d20 : z.toInt ≠ 20 := fun h => c20 (Int32.toInt_inj.mp (h.trans (by decide)))
    have d21 : z.toInt ≠ 21 := fun h => c21 (Int32.toInt_inj.mp (h.trans (by decide)))
    have d22 : z.toInt ≠ 22 := fun h => c22 (Int32.toInt_inj.mp (h.trans (by decide)))
    have d23 : z.toInt ≠ 23 := fun h => c23 (Int32.toInt_inj.mp (h.trans (by decide)))
    have d24 : z.toInt ≠ 24 := fun h => c24 (Int32.toInt_inj.mp (h.trans (by decide)))
    have d25 : z.toInt ≠ 25 := fun h => c25 (Int32.toInt_inj.mp (h.trans (by decide)))
    have d26 : z.toInt ≠ 26 := fun h => c26 (Int32.toInt_inj.mp (h.trans (by decide)))
    omega
  refine lv_tableOut (tgt := 950) hx hb dL_law_32 hz (by decide) ?_
  exact kw
set_option maxRecDepth 100000 in
set_option maxHeartbeats 8000000 in
theorem law_loop {p : Program} {l : Launch} {e : Env} {s : State} {m : MethodId} {below : List Frame} {meth : Method} {c : Code} {b L : Nat} {xs : Nat → Int32} (hL : L ≤ 2560) (C0 : lw_At p s m meth c b L xs) {D : va_G} {cI cZ : ClassId} {tt : Nat → Nat} {h_a x_a n_a r_a c_a s_a k_a x_l n_c n_d r_c r_d c_t c_k c_f s_t s_k s_f k_f k_s m_a q_text q_cards q_readCards q_readPage q_page q_trial q_loads q_book q_kept q_isKept q_heldWho q_heldForce q_heldLoad q_heldIs q_gains q_value : Nat} : ∀ (n i : Nat) (x3 : Int32), i ≤ L → L + 1 ≤ i + n → x3 = nI i → ∀ (H : Heap) (locs : List Loc) (ls : Array Slot), LI D cI cZ tt s h_a x_a n_a r_a c_a s_a k_a x_l n_c n_d r_c r_d c_t c_k c_f s_t s_k s_f k_f k_s m_a q_text q_cards q_readCards q_readPage q_page q_trial q_loads q_book q_kept q_isKept q_heldWho q_heldForce q_heldLoad q_heldIs q_gains q_value H locs → lv_has ls 4 [(0, .ref b), (1, .ref h_a), (2, .ref m_a), (3, .int x3)] → W p l e room_1 s m #[Value.ref b] below meth c H locs 37 749 (lw_Z below #[Value.ref b] s) (F0 m 18 ls []) := by
  obtain ⟨hx, hb, hr, hml, hown, hts, hX, hbl, hlk, hgv⟩ := id C0
  have hbA : ¬ (fun q : Nat => s.heap.size ≤ q) b := Nat.not_le.mpr hbl
  intro n
  induction n with
  | zero =>
    intro i x3 h1 h2
    exact absurd h2 (by omega)
  | succ n ih =>
    intro i x3 hi hin ex3 H locs ls w0 hl
    have hS := LI_S w0
    refine lv_iload_n hx hb dL_law_18 rfl (lv_at hl 3 rfl) ?_
    refine lv_aload_n hx hb dL_law_19 rfl (lv_at hl 0 rfl) ?_
    refine va_slen hx hb hX hbl hbA hS dL_law_20 ?_
    refine lv_iconst (v := 5) hx hb dL_law_21 (by decide) ?_
    refine lv_isub hx hb dL_law_22 ?_
    refine lv_icmp_gt (tgt := 956) hx hb dL_law_23 (by decide) (fun c1 => ?_) (fun c1 => ?_)
    · refine lv_iconst (v := 1) hx hb dL_law_956 (by decide) ?_
      refine va_forget (fun q hq => hS.2.2 q hq) ?_
      refine W.widen (k := 600000) (n := 7302250) (Nat.le_of_ble_eq_true rfl) (Nat.le_of_ble_eq_true rfl) ?_
      exact lw_ret hx hb hr hlk dL_law_957
    · have h5 : i + 5 ≤ L := l5 hL hi (by rw [← ex3]; exact c1)
      have hv : ∀ k, k < 5 → vp_in (x3 + nI k) L := fun k hk => by rw [ex3, nI_add]; exact vp_in_nI (by omega) (by omega)
      have hv0 : vp_in x3 L := by rw [ex3]; exact vp_in_nI (by omega) (by omega)
      refine lv_aload_n hx hb dL_law_26 rfl (lv_at hl 0 rfl) ?_
      refine lv_iload_n hx hb dL_law_27 rfl (lv_at hl 3 rfl) ?_
      refine va_sld hx hb hX hbl hbA hS hv0 dL_law_28 ?_
      refine lv_bipush (v := 31) hx hb dL_law_29 (by decide) ?_
      refine lv_iand hx hb dL_law_31 ?_
      refine law_sw C0 (hv 1 (by omega)) (hv 2 (by omega)) (hv 3 (by omega)) (hv 4 (by omega)) hl w0 (fun H locs w1 => ?_) _
      obtain ⟨x9, ex9⟩ : ∃ y : Int32, y = x3 + 5 := ⟨_, rfl⟩
      refine lv_iinc (v := x9) (lv' := [(3, .int x9), (0, .ref b), (1, .ref h_a), (2, .ref m_a)]) hx hb dL_law_950 hl (k := 3) rfl (by rw [ex9]; rfl) (by decide) rfl (fun ls hl => ?_)
      refine lv_goto (tgt := 18) hx hb dL_law_953 (by decide) ?_
      exact ih (i + 5) x9 h5 (by omega) (by rw [ex9, ex3]; exact nI_add i 5) H locs ls w1 (lv_sub hl [1, 2, 3, 0] rfl)
