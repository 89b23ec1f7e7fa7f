-- X0_note
def fX0_note  (k_fh : Nat → Int32) (k_sh : Nat → Int32) (a1 : Int32) (a2 : Int32) (a3 : Int32) (a4 : Int32) : Option ((Nat → Int32) × (Nat → Int32)) := nm (((5 : Int32) * a1) + a2) (fun z1 => (if z1 < 0 then some (k_fh, k_sh) else (if z1 < 25 then gd z1 25 (gd z1 25 (some ((upd k_fh (Int32.toNatClampNeg z1) a3), (upd k_sh (Int32.toNatClampNeg z1) a4)))) else some (k_fh, k_sh))))
set_option maxRecDepth 100000 in
set_option maxHeartbeats 4000000 in
theorem tX0_note (l : Launch) (D : va_G) (cI cZ : ClassId) (b0 : Nat) (tt : Nat → Nat)  (k_a k_f k_s : Nat) (k_fh : Nat → Int32) (k_sh : Nat → Int32) (a1 : Int32) (a2 : Int32) (a3 : Int32) (a4 : Int32) {res : (Nat → Int32) × (Nat → Int32)} (hf : fX0_note k_fh k_sh a1 a2 a3 a4 = some res) : CtV l yX0_note (cwX0_note :: GW) 0 0 D cI cZ b0 tt [.ref k_a, .int a1, .int a2, .int a3, .int a4] (fun u : (Nat → Int32) × (Nat → Int32) => [(k_a, .inr (0, [.ref k_f, .ref k_s])), (k_f, .inl (cI, 25, .inl u.1)), (k_s, .inl (cI, 25, .inl u.2))]) (k_fh, k_sh) res := by
  intro sz
  refine k_begin (cc := cX0_note) (maxL := 6) (ret := none) (by decide) rfl (Nat.le_of_ble_eq_true rfl) ?_
  intro p e s m below meth c ls C w hl
  generalize va_A _ sz = A at w ⊢
  have w : Wd D cI cZ b0 tt A s [(k_a, .inr (0, [.ref k_f, .ref k_s])), (k_f, .inl (cI, 25, .inl k_fh)), (k_s, .inl (cI, 25, .inl k_sh))] s.heap [] := w
  have hl : lv_has ls 6 [(0, .ref k_a), (1, .int a1), (2, .int a2), (3, .int a3), (4, .int a4)] := hl
  obtain ⟨H, eH⟩ : ∃ H, H = s.heap := ⟨_, rfl⟩
  rw [← eH] at w ⊢
  generalize ([] : List Loc) = locs at w ⊢
  generalize List.toArray _ = args at C ⊢
  obtain ⟨hx, hb, hr, hml, hown, hts, hlk⟩ := id C
  have hg : ∀ w ∈ GW, w.before args s = true := fun w h => hts w (List.mem_cons_of_mem _ h)
  unfold fX0_note at hf
  refine lv_iconst (v := 5) hx hb dX0_note_0 (by decide) ?_
  refine lv_iload_n hx hb dX0_note_1 rfl (lv_at hl 1 rfl) ?_
  refine lv_imul hx hb dX0_note_2 ?_
  refine lv_iload_n hx hb dX0_note_3 rfl (lv_at hl 2 rfl) ?_
  refine lv_iadd hx hb dX0_note_4 ?_
  refine lv_topi (fun z1 ez1 => ?_)
  replace hf := nm_at ez1 hf
  refine lv_istore (lv' := [(5, .int z1), (0, .ref k_a), (1, .int a1), (2, .int a2), (3, .int a3), (4, .int a4)]) hx hb dX0_note_5 hl (by decide) rfl (fun ls hl => ?_)
  refine lv_iload hx hb dX0_note_7 (lv_at hl 0 rfl) ?_
  refine lv_if_lt (tgt := 19) hx hb dX0_note_9 (by decide) (fun c2 => ?_) (fun c2 => ?_)
  · replace hf := ite_t c2 hf
    exact k_vret (u := (k_fh, k_sh)) hx hb hr hlk w rfl hf dX0_note_19
  · replace hf := ite_f c2 hf
    refine lv_iload hx hb dX0_note_12 (lv_at hl 0 rfl) ?_
    refine lv_bipush (v := 25) hx hb dX0_note_14 (by decide) ?_
    refine lv_icmp_lt (tgt := 20) hx hb dX0_note_16 (by decide) (fun c3 => ?_) (fun c3 => ?_)
    · replace hf := ite_t c3 hf
      refine lv_aload_n hx hb dX0_note_20 rfl (lv_at hl 1 rfl) ?_
      refine va_get (D := D) (ci := 0) (v := .ref k_f) (C := RX0) (T := TX0) (N := 2) hx hb hg iX0 hown w.2.2.2.2.2.2.1 w.1 0 rfl rfl 0 (by decide) (hg _ w_78) (fun _ h9 => h9) rfl dX0_note_21 ?_
      refine lv_iload hx hb dX0_note_24 (lv_at hl 0 rfl) ?_
      refine lv_iload_n hx hb dX0_note_26 rfl (lv_at hl 4 rfl) ?_
      replace hf := gd_at hf
      obtain ⟨hi4, hf⟩ := hf
      refine k_iast hx hb w 1 rfl hi4 dX0_note_27 (fun H locs w => ?_)
      have w : Wd D cI cZ b0 tt A s [(k_a, .inr (0, [.ref k_f, .ref k_s])), (k_f, .inl (cI, 25, .inl (upd k_fh (Int32.toNatClampNeg z1) a3))), (k_s, .inl (cI, 25, .inl k_sh))] H locs := w
      refine lv_aload_n hx hb dX0_note_28 rfl (lv_at hl 1 rfl) ?_
      refine va_get (D := D) (ci := 0) (v := .ref k_s) (C := RX0) (T := TX0) (N := 2) hx hb hg iX0 hown w.2.2.2.2.2.2.1 w.1 0 rfl rfl 1 (by decide) (hg _ w_79) (fun _ h9 => h9) rfl dX0_note_29 ?_
      refine lv_iload hx hb dX0_note_32 (lv_at hl 0 rfl) ?_
      refine lv_iload hx hb dX0_note_34 (lv_at hl 5 rfl) ?_
      replace hf := gd_at hf
      obtain ⟨hi5, hf⟩ := hf
      refine k_iast hx hb w 2 rfl hi5 dX0_note_36 (fun H locs w => ?_)
      have w : Wd D cI cZ b0 tt A s [(k_a, .inr (0, [.ref k_f, .ref k_s])), (k_f, .inl (cI, 25, .inl (upd k_fh (Int32.toNatClampNeg z1) a3))), (k_s, .inl (cI, 25, .inl (upd k_sh (Int32.toNatClampNeg z1) a4)))] H locs := w
      exact k_vret (u := ((upd k_fh (Int32.toNatClampNeg z1) a3), (upd k_sh (Int32.toNatClampNeg z1) a4))) hx hb hr hlk w rfl hf dX0_note_37
    · replace hf := ite_f c3 hf
      exact k_vret (u := (k_fh, k_sh)) hx hb hr hlk w rfl hf dX0_note_19
-- X0_isAtRest
def fX0_isAtRest_L11   (v1 : Int32) (v2 : Int32) (v3 : Int32) (k_fh : Nat → Int32) (k_sh : Nat → Int32) : Nat → Int32 → Option (Int32)
  | 0, _ => none
  | n + 1, v4 => (if 5 ≤ v4 then some 1 else gd (((5 : Int32) * v4) + v3) 25 (gd v1 25 ((if (k_fh (Int32.toNatClampNeg (((5 : Int32) * v4) + v3))) ≤ (k_fh (Int32.toNatClampNeg v1)) then gd (((5 : Int32) * v2) + v4) 25 (gd v1 25 ((if (k_sh (Int32.toNatClampNeg (((5 : Int32) * v2) + v4))) ≤ (k_sh (Int32.toNatClampNeg v1)) then nm (v4 + 1) (fun z8 => fX0_isAtRest_L11 v1 v2 v3 k_fh k_sh n z8) else some 0))) else some 0))))
set_option maxRecDepth 100000 in
set_option maxHeartbeats 4000000 in
theorem tX0_isAtRest_L11 {p : Program} {l : Launch} {e : Env} {s : State} {m : MethodId} {args : Array Value} {below : List Frame} {meth : Method} {c : Code} {D : va_G} {cI cZ : ClassId} {b0 : Nat} {tt : Nat → Nat} {A : Nat → Prop}  {k_a k_f k_s : Nat}  {v1 : Int32} {v2 : Int32} {v3 : Int32} {k_fh : Nat → Int32} {k_sh : Nat → Int32} {res : Int32} (C : Cx p s m args meth c cX0_isAtRest 5 (some .boolean) (cwX0_isAtRest :: GW) RX0) : ∀ (n : Nat) (v4 : Int32) (H : Heap) (locs : List Loc) (ls : Array Slot), fX0_isAtRest_L11 v1 v2 v3 k_fh k_sh n v4 = some res → Wd D cI cZ b0 tt A s [(k_a, .inr (0, [.ref k_f, .ref k_s])), (k_f, .inl (cI, 25, .inl k_fh)), (k_s, .inl (cI, 25, .inl k_sh))] H locs → lv_has ls 5 [(0, .ref k_a), (1, .int v1), (2, .int v2), (3, .int v3), (4, .int v4)] → W p l e (rmo 0 0) s m args below meth c H locs 0 0 (MQ below (QI D (fun _ : Unit => [(k_a, .inr (0, [.ref k_f, .ref k_s])), (k_f, .inl (cI, 25, .inl k_fh)), (k_s, .inl (cI, 25, .inl k_sh))]) A (res, ())) args s 0 0 A) (F0 m 11 ls []) := by
  obtain ⟨hx, hb, hr, hml, hown, hts, hlk⟩ := id C
  have hg : ∀ w ∈ GW, w.before args s = true := fun w h => hts w (List.mem_cons_of_mem _ h)
  intro n
  induction n with
  | zero =>
    intro _ H locs ls hf
    rw [fX0_isAtRest_L11] at hf
    cases hf
  | succ n ih =>
    intro v4 H locs ls hf w hl
    rw [fX0_isAtRest_L11] at hf
    refine lv_iload hx hb dX0_isAtRest_11 (lv_at hl 4 rfl) ?_
    refine lv_iconst (v := 5) hx hb dX0_isAtRest_13 (by decide) ?_
    refine lv_icmp_ge (tgt := 67) hx hb dX0_isAtRest_14 (by decide) (fun c1 => ?_) (fun c1 => ?_)
    · replace hf := ite_t c1 hf
      refine lv_iconst (v := 1) hx hb dX0_isAtRest_67 (by decide) ?_
      exact k_zret (u := ()) hx hb hr hlk w rfl rfl (k_ret1 hf) dX0_isAtRest_68
    · replace hf := ite_f c1 hf
      refine lv_aload_n hx hb dX0_isAtRest_17 rfl (lv_at hl 0 rfl) ?_
      refine va_get (D := D) (ci := 0) (v := .ref k_f) (C := RX0) (T := TX0) (N := 2) hx hb hg iX0 hown w.2.2.2.2.2.2.1 w.1 0 rfl rfl 0 (by decide) (hg _ w_78) (fun _ h9 => h9) rfl dX0_isAtRest_18 ?_
      refine lv_iconst (v := 5) hx hb dX0_isAtRest_21 (by decide) ?_
      refine lv_iload hx hb dX0_isAtRest_22 (lv_at hl 4 rfl) ?_
      refine lv_imul hx hb dX0_isAtRest_24 ?_
      refine lv_iload_n hx hb dX0_isAtRest_25 rfl (lv_at hl 3 rfl) ?_
      refine lv_iadd hx hb dX0_isAtRest_26 ?_
      replace hf := gd_at hf
      obtain ⟨hi2, hf⟩ := hf
      refine va_iald hx hb w.2.2.2.2.2.2.1 w.1 1 0 rfl rfl hi2 dX0_isAtRest_27 ?_
      refine lv_aload_n hx hb dX0_isAtRest_28 rfl (lv_at hl 0 rfl) ?_
      refine va_get (D := D) (ci := 0) (v := .ref k_f) (C := RX0) (T := TX0) (N := 2) hx hb hg iX0 hown w.2.2.2.2.2.2.1 w.1 0 rfl rfl 0 (by decide) (hg _ w_78) (fun _ h9 => h9) rfl dX0_isAtRest_29 ?_
      refine lv_iload_n hx hb dX0_isAtRest_32 rfl (lv_at hl 1 rfl) ?_
      replace hf := gd_at hf
      obtain ⟨hi3, hf⟩ := hf
      refine va_iald hx hb w.2.2.2.2.2.2.1 w.1 1 0 rfl rfl hi3 dX0_isAtRest_33 ?_
      refine lv_icmp_le (tgt := 39) hx hb dX0_isAtRest_34 (by decide) (fun c4 => ?_) (fun c4 => ?_)
      · replace hf := ite_t c4 hf
        refine lv_aload_n hx hb dX0_isAtRest_39 rfl (lv_at hl 0 rfl) ?_
        refine va_get (D := D) (ci := 0) (v := .ref k_s) (C := RX0) (T := TX0) (N := 2) hx hb hg iX0 hown w.2.2.2.2.2.2.1 w.1 0 rfl rfl 1 (by decide) (hg _ w_79) (fun _ h9 => h9) rfl dX0_isAtRest_40 ?_
        refine lv_iconst (v := 5) hx hb dX0_isAtRest_43 (by decide) ?_
        refine lv_iload_n hx hb dX0_isAtRest_44 rfl (lv_at hl 2 rfl) ?_
        refine lv_imul hx hb dX0_isAtRest_45 ?_
        refine lv_iload hx hb dX0_isAtRest_46 (lv_at hl 4 rfl) ?_
        refine lv_iadd hx hb dX0_isAtRest_48 ?_
        replace hf := gd_at hf
        obtain ⟨hi5, hf⟩ := hf
        refine va_iald hx hb w.2.2.2.2.2.2.1 w.1 2 0 rfl rfl hi5 dX0_isAtRest_49 ?_
        refine lv_aload_n hx hb dX0_isAtRest_50 rfl (lv_at hl 0 rfl) ?_
        refine va_get (D := D) (ci := 0) (v := .ref k_s) (C := RX0) (T := TX0) (N := 2) hx hb hg iX0 hown w.2.2.2.2.2.2.1 w.1 0 rfl rfl 1 (by decide) (hg _ w_79) (fun _ h9 => h9) rfl dX0_isAtRest_51 ?_
        refine lv_iload_n hx hb dX0_isAtRest_54 rfl (lv_at hl 1 rfl) ?_
        replace hf := gd_at hf
        obtain ⟨hi6, hf⟩ := hf
        refine va_iald hx hb w.2.2.2.2.2.2.1 w.1 2 0 rfl rfl hi6 dX0_isAtRest_55 ?_
        refine lv_icmp_le (tgt := 61) hx hb dX0_isAtRest_56 (by decide) (fun c7 => ?_) (fun c7 => ?_)
        · replace hf := ite_t c7 hf
          obtain ⟨z8, ez8⟩ : ∃ y : Int32, y = (v4 + 1) := ⟨_, rfl⟩
          replace hf := nm_at ez8 hf
          refine lv_iinc (v := z8) (lv' := [(4, .int z8), (0, .ref k_a), (1, .int v1), (2, .int v2), (3, .int v3)]) hx hb dX0_isAtRest_61 hl (k := 4) rfl (by rw [ez8]; rfl) (by decide) rfl (fun ls hl => ?_)
          refine lv_goto (tgt := 11) hx hb dX0_isAtRest_64 (by decide) ?_
          exact ih z8 H locs ls hf w (lv_sub hl [1, 2, 3, 4, 0] rfl)
        · replace hf := ite_f c7 hf
          refine lv_iconst (v := 0) hx hb dX0_isAtRest_59 (by decide) ?_
          exact k_zret (u := ()) hx hb hr hlk w rfl rfl (k_ret1 hf) dX0_isAtRest_60
      · replace hf := ite_f c4 hf
        refine lv_iconst (v := 0) hx hb dX0_isAtRest_37 (by decide) ?_
        exact k_zret (u := ()) hx hb hr hlk w rfl rfl (k_ret1 hf) dX0_isAtRest_38
def fX0_isAtRest  (k_fh : Nat → Int32) (k_sh : Nat → Int32) (a1 : Int32) : Option (Int32) := nm (a1 / (5 : Int32)) (fun z9 => nm (a1 - a1 / (5 : Int32) * (5 : Int32)) (fun z10 => fX0_isAtRest_L11 a1 z9 z10 k_fh k_sh FU 0))
set_option maxRecDepth 100000 in
set_option maxHeartbeats 4000000 in
theorem tX0_isAtRest (l : Launch) (D : va_G) (cI cZ : ClassId) (b0 : Nat) (tt : Nat → Nat)  (k_a k_f k_s : Nat) (k_fh : Nat → Int32) (k_sh : Nat → Int32) (a1 : Int32) {res : Int32} (hf : fX0_isAtRest k_fh k_sh a1 = some res) : CtI l yX0_isAtRest (cwX0_isAtRest :: GW) 0 0 D cI cZ b0 tt [.ref k_a, .int a1] (fun _ : Unit => [(k_a, .inr (0, [.ref k_f, .ref k_s])), (k_f, .inl (cI, 25, .inl k_fh)), (k_s, .inl (cI, 25, .inl k_sh))]) () (res, ()) := by
  intro sz
  refine k_begin (cc := cX0_isAtRest) (maxL := 5) (ret := (some .boolean)) (by decide) rfl (Nat.le_of_ble_eq_true rfl) ?_
  intro p e s m below meth c ls C w hl
  generalize va_A _ sz = A at w ⊢
  have w : Wd D cI cZ b0 tt A s [(k_a, .inr (0, [.ref k_f, .ref k_s])), (k_f, .inl (cI, 25, .inl k_fh)), (k_s, .inl (cI, 25, .inl k_sh))] s.heap [] := w
  have hl : lv_has ls 5 [(0, .ref k_a), (1, .int a1)] := hl
  obtain ⟨H, eH⟩ : ∃ H, H = s.heap := ⟨_, rfl⟩
  rw [← eH] at w ⊢
  generalize ([] : List Loc) = locs at w ⊢
  generalize List.toArray _ = args at C ⊢
  obtain ⟨hx, hb, hr, hml, hown, hts, hlk⟩ := id C
  have hg : ∀ w ∈ GW, w.before args s = true := fun w h => hts w (List.mem_cons_of_mem _ h)
  unfold fX0_isAtRest at hf
  refine lv_iload_n hx hb dX0_isAtRest_0 rfl (lv_at hl 1 rfl) ?_
  refine lv_iconst (v := 5) hx hb dX0_isAtRest_1 (by decide) ?_
  refine lv_idiv hx hb dX0_isAtRest_2 (by decide) ?_
  refine lv_topi (fun z9 ez9 => ?_)
  replace hf := nm_at ez9 hf
  refine lv_istore_n (lv' := [(2, .int z9), (0, .ref k_a), (1, .int a1)]) hx hb dX0_isAtRest_3 rfl hl (by decide) rfl (fun ls hl => ?_)
  refine lv_iload_n hx hb dX0_isAtRest_4 rfl (lv_at hl 2 rfl) ?_
  refine lv_iconst (v := 5) hx hb dX0_isAtRest_5 (by decide) ?_
  refine lv_irem hx hb dX0_isAtRest_6 (by decide) ?_
  refine lv_topi (fun z10 ez10 => ?_)
  replace hf := nm_at ez10 hf
  refine lv_istore_n (lv' := [(3, .int z10), (2, .int z9), (0, .ref k_a), (1, .int a1)]) hx hb dX0_isAtRest_7 rfl hl (by decide) rfl (fun ls hl => ?_)
  refine lv_iconst (v := 0) hx hb dX0_isAtRest_8 (by decide) ?_
  refine lv_istore (lv' := [(4, .int 0), (3, .int z10), (2, .int z9), (0, .ref k_a), (1, .int a1)]) hx hb dX0_isAtRest_9 hl (by decide) rfl (fun ls hl => ?_)
  exact tX0_isAtRest_L11 (v1 := a1) (v2 := z9) (v3 := z10) (k_fh := k_fh) (k_sh := k_sh) (C := C) FU 0 H locs ls hf w (lv_sub hl [3, 4, 2, 1, 0] rfl)
-- X0_countAtRest
def fX0_countAtRest_L4   (k_fh : Nat → Int32) (k_sh : Nat → Int32) : Nat → Int32 → Int32 → Option (Int32)
  | 0, _, _ => none
  | n + 1, v1, v2 => (if 25 ≤ v2 then some v1 else ob (fX0_isAtRest k_fh k_sh v2) (fun r2 => (if r2 = 0 then nm (v2 + 1) (fun z4 => fX0_countAtRest_L4 k_fh k_sh n v1 z4) else nm (v1 + 1) (fun z5 => nm (v2 + 1) (fun z6 => fX0_countAtRest_L4 k_fh k_sh n z5 z6)))))
set_option maxRecDepth 100000 in
set_option maxHeartbeats 4000000 in
theorem tX0_countAtRest_L4 {p : Program} {l : Launch} {e : Env} {s : State} {m : MethodId} {args : Array Value} {below : List Frame} {meth : Method} {c : Code} {D : va_G} {cI cZ : ClassId} {b0 : Nat} {tt : Nat → Nat} {A : Nat → Prop}  {k_a k_f k_s : Nat}  {k_fh : Nat → Int32} {k_sh : Nat → Int32} {res : Int32} (C : Cx p s m args meth c cX0_countAtRest 3 (some .int) (cwX0_countAtRest :: GW) RX0) : ∀ (n : Nat) (v1 : Int32) (v2 : Int32) (H : Heap) (locs : List Loc) (ls : Array Slot), fX0_countAtRest_L4 k_fh k_sh n v1 v2 = some res → Wd D cI cZ b0 tt A s [(k_a, .inr (0, [.ref k_f, .ref k_s])), (k_f, .inl (cI, 25, .inl k_fh)), (k_s, .inl (cI, 25, .inl k_sh))] H locs → lv_has ls 3 [(0, .ref k_a), (1, .int v1), (2, .int v2)] → W p l e (rmo 1 24) s m args below meth c H locs 0 0 (MQ below (QI D (fun _ : Unit => [(k_a, .inr (0, [.ref k_f, .ref k_s])), (k_f, .inl (cI, 25, .inl k_fh)), (k_s, .inl (cI, 25, .inl k_sh))]) A (res, ())) args s 0 0 A) (F0 m 4 ls []) := by
  obtain ⟨hx, hb, hr, hml, hown, hts, hlk⟩ := id C
  have hg : ∀ w ∈ GW, w.before args s = true := fun w h => hts w (List.mem_cons_of_mem _ h)
  intro n
  induction n with
  | zero =>
    intro _ _ H locs ls hf
    rw [fX0_countAtRest_L4] at hf
    cases hf
  | succ n ih =>
    intro v1 v2 H locs ls hf w hl
    rw [fX0_countAtRest_L4] at hf
    refine lv_iload_n hx hb dX0_countAtRest_4 rfl (lv_at hl 2 rfl) ?_
    refine lv_bipush (v := 25) hx hb dX0_countAtRest_5 (by decide) ?_
    refine lv_icmp_ge (tgt := 27) hx hb dX0_countAtRest_7 (by decide) (fun c1 => ?_) (fun c1 => ?_)
    · replace hf := ite_t c1 hf
      refine lv_iload_n hx hb dX0_countAtRest_27 rfl (lv_at hl 1 rfl) ?_
      exact k_iret (u := ()) hx hb hr hlk w rfl (k_ret1 hf) dX0_countAtRest_28
    · replace hf := ite_f c1 hf
      refine lv_aload_n hx hb dX0_countAtRest_10 rfl (lv_at hl 0 rfl) ?_
      refine lv_iload_n hx hb dX0_countAtRest_11 rfl (lv_at hl 2 rfl) ?_
      replace hf := ob_at hf
      obtain ⟨r2, er2, hf⟩ := hf
      refine k_goI0 w [0, 1, 2] rfl (va_runV (As := [.int v2]) (rest := []) ⟨hx, hb, hml, hown, hg⟩ (tX0_isAtRest l D cI cZ b0 tt k_a k_f k_s k_fh k_sh v2 er2 H.size) (cwV 1 hg (gwV w_444 w_445 w_840 w_6 w_446) rfl rfl rfl ⟨rfl, qdX0_isAtRest⟩ ⟨Nat.le_of_ble_eq_true rfl, Nat.le_of_ble_eq_true rfl⟩) (k_preV w [0, 1, 2] (by decide) rfl (q0 := 0) rfl rfl) rfl rfl hl.1 rfl (lv_room (Nat.le_of_ble_eq_true rfl)) dX0_countAtRest_12 ⟨Nat.le_refl _, Nat.le_refl _⟩) (fun H locs w => ?_)
      refine lv_if_eq (tgt := 21) hx hb dX0_countAtRest_15 (by decide) (fun c3 => ?_) (fun c3 => ?_)
      · replace hf := ite_t c3 hf
        obtain ⟨z4, ez4⟩ : ∃ y : Int32, y = (v2 + 1) := ⟨_, rfl⟩
        replace hf := nm_at ez4 hf
        refine lv_iinc (v := z4) (lv' := [(2, .int z4), (0, .ref k_a), (1, .int v1)]) hx hb dX0_countAtRest_21 hl (k := 2) rfl (by rw [ez4]; rfl) (by decide) rfl (fun ls hl => ?_)
        refine lv_goto (tgt := 4) hx hb dX0_countAtRest_24 (by decide) ?_
        exact ih v1 z4 H locs ls hf w (lv_sub hl [1, 2, 0] rfl)
      · replace hf := ite_f c3 hf
        obtain ⟨z5, ez5⟩ : ∃ y : Int32, y = (v1 + 1) := ⟨_, rfl⟩
        replace hf := nm_at ez5 hf
        refine lv_iinc (v := z5) (lv' := [(1, .int z5), (0, .ref k_a), (2, .int v2)]) hx hb dX0_countAtRest_18 hl (k := 1) rfl (by rw [ez5]; rfl) (by decide) rfl (fun ls hl => ?_)
        obtain ⟨z6, ez6⟩ : ∃ y : Int32, y = (v2 + 1) := ⟨_, rfl⟩
        replace hf := nm_at ez6 hf
        refine lv_iinc (v := z6) (lv' := [(2, .int z6), (1, .int z5), (0, .ref k_a)]) hx hb dX0_countAtRest_21 hl (k := 2) rfl (by rw [ez6]; rfl) (by decide) rfl (fun ls hl => ?_)
        refine lv_goto (tgt := 4) hx hb dX0_countAtRest_24 (by decide) ?_
        exact ih z5 z6 H locs ls hf w (lv_sub hl [2, 1, 0] rfl)
def fX0_countAtRest  (k_fh : Nat → Int32) (k_sh : Nat → Int32) : Option (Int32) := fX0_countAtRest_L4 k_fh k_sh FU 0 0
set_option maxRecDepth 100000 in
set_option maxHeartbeats 4000000 in
theorem tX0_countAtRest (l : Launch) (D : va_G) (cI cZ : ClassId) (b0 : Nat) (tt : Nat → Nat)  (k_a k_f k_s : Nat) (k_fh : Nat → Int32) (k_sh : Nat → Int32)  {res : Int32} (hf : fX0_countAtRest k_fh k_sh = some res) : CtI l yX0_countAtRest (cwX0_countAtRest :: GW) 1 24 D cI cZ b0 tt [.ref k_a] (fun _ : Unit => [(k_a, .inr (0, [.ref k_f, .ref k_s])), (k_f, .inl (cI, 25, .inl k_fh)), (k_s, .inl (cI, 25, .inl k_sh))]) () (res, ()) := by
  intro sz
  refine k_begin (cc := cX0_countAtRest) (maxL := 3) (ret := (some .int)) (by decide) rfl (Nat.le_of_ble_eq_true rfl) ?_
  intro p e s m below meth c ls C w hl
  generalize va_A _ sz = A at w ⊢
  have w : Wd D cI cZ b0 tt A s [(k_a, .inr (0, [.ref k_f, .ref k_s])), (k_f, .inl (cI, 25, .inl k_fh)), (k_s, .inl (cI, 25, .inl k_sh))] s.heap [] := w
  have hl : lv_has ls 3 [(0, .ref k_a)] := hl
  obtain ⟨H, eH⟩ : ∃ H, H = s.heap := ⟨_, rfl⟩
  rw [← eH] at w ⊢
  generalize ([] : List Loc) = locs at w ⊢
  generalize List.toArray _ = args at C ⊢
  obtain ⟨hx, hb, hr, hml, hown, hts, hlk⟩ := id C
  have hg : ∀ w ∈ GW, w.before args s = true := fun w h => hts w (List.mem_cons_of_mem _ h)
  unfold fX0_countAtRest at hf
  refine lv_iconst (v := 0) hx hb dX0_countAtRest_0 (by decide) ?_
  refine lv_istore_n (lv' := [(1, .int 0), (0, .ref k_a)]) hx hb dX0_countAtRest_1 rfl hl (by decide) rfl (fun ls hl => ?_)
  refine lv_iconst (v := 0) hx hb dX0_countAtRest_2 (by decide) ?_
  refine lv_istore_n (lv' := [(2, .int 0), (1, .int 0), (0, .ref k_a)]) hx hb dX0_countAtRest_3 rfl hl (by decide) rfl (fun ls hl => ?_)
  exact tX0_countAtRest_L4 (k_fh := k_fh) (k_sh := k_sh) (C := C) FU 0 0 H locs ls hf w (lv_sub hl [2, 1, 0] rfl)
-- X0_firstAtRest
def fX0_firstAtRest_L2   (k_fh : Nat → Int32) (k_sh : Nat → Int32) : Nat → Int32 → Option (Int32)
  | 0, _ => none
  | n + 1, v1 => (if 25 ≤ v1 then some (-9) else ob (fX0_isAtRest k_fh k_sh v1) (fun r2 => (if r2 = 0 then nm (v1 + 1) (fun z4 => fX0_firstAtRest_L2 k_fh k_sh n z4) else some (((10 : Int32) * (v1 / (5 : Int32))) + (v1 - v1 / (5 : Int32) * (5 : Int32))))))
set_option maxRecDepth 100000 in
set_option maxHeartbeats 4000000 in
theorem tX0_firstAtRest_L2 {p : Program} {l : Launch} {e : Env} {s : State} {m : MethodId} {args : Array Value} {below : List Frame} {meth : Method} {c : Code} {D : va_G} {cI cZ : ClassId} {b0 : Nat} {tt : Nat → Nat} {A : Nat → Prop}  {k_a k_f k_s : Nat}  {k_fh : Nat → Int32} {k_sh : Nat → Int32} {res : Int32} (C : Cx p s m args meth c cX0_firstAtRest 2 (some .int) (cwX0_firstAtRest :: GW) RX0) : ∀ (n : Nat) (v1 : Int32) (H : Heap) (locs : List Loc) (ls : Array Slot), fX0_firstAtRest_L2 k_fh k_sh n v1 = some res → Wd D cI cZ b0 tt A s [(k_a, .inr (0, [.ref k_f, .ref k_s])), (k_f, .inl (cI, 25, .inl k_fh)), (k_s, .inl (cI, 25, .inl k_sh))] H locs → lv_has ls 2 [(0, .ref k_a), (1, .int v1)] → W p l e (rmo 1 24) s m args below meth c H locs 0 0 (MQ below (QI D (fun _ : Unit => [(k_a, .inr (0, [.ref k_f, .ref k_s])), (k_f, .inl (cI, 25, .inl k_fh)), (k_s, .inl (cI, 25, .inl k_sh))]) A (res, ())) args s 0 0 A) (F0 m 2 ls []) := by
  obtain ⟨hx, hb, hr, hml, hown, hts, hlk⟩ := id C
  have hg : ∀ w ∈ GW, w.before args s = true := fun w h => hts w (List.mem_cons_of_mem _ h)
  intro n
  induction n with
  | zero =>
    intro _ H locs ls hf
    rw [fX0_firstAtRest_L2] at hf
    cases hf
  | succ n ih =>
    intro v1 H locs ls hf w hl
    rw [fX0_firstAtRest_L2] at hf
    refine lv_iload_n hx hb dX0_firstAtRest_2 rfl (lv_at hl 1 rfl) ?_
    refine lv_bipush (v := 25) hx hb dX0_firstAtRest_3 (by decide) ?_
    refine lv_icmp_ge (tgt := 33) hx hb dX0_firstAtRest_5 (by decide) (fun c1 => ?_) (fun c1 => ?_)
    · replace hf := ite_t c1 hf
      refine lv_bipush (v := (-9)) hx hb dX0_firstAtRest_33 (by decide) ?_
      exact k_iret (u := ()) hx hb hr hlk w rfl (k_ret1 hf) dX0_firstAtRest_35
    · replace hf := ite_f c1 hf
      refine lv_aload_n hx hb dX0_firstAtRest_8 rfl (lv_at hl 0 rfl) ?_
      refine lv_iload_n hx hb dX0_firstAtRest_9 rfl (lv_at hl 1 rfl) ?_
      replace hf := ob_at hf
      obtain ⟨r2, er2, hf⟩ := hf
      refine k_goI0 w [0, 1, 2] rfl (va_runV (As := [.int v1]) (rest := []) ⟨hx, hb, hml, hown, hg⟩ (tX0_isAtRest l D cI cZ b0 tt k_a k_f k_s k_fh k_sh v1 er2 H.size) (cwV 1 hg (gwV w_444 w_445 w_840 w_6 w_446) rfl rfl rfl ⟨rfl, qdX0_isAtRest⟩ ⟨Nat.le_of_ble_eq_true rfl, Nat.le_of_ble_eq_true rfl⟩) (k_preV w [0, 1, 2] (by decide) rfl (q0 := 0) rfl rfl) rfl rfl hl.1 rfl (lv_room (Nat.le_of_ble_eq_true rfl)) dX0_firstAtRest_10 ⟨Nat.le_refl _, Nat.le_refl _⟩) (fun H locs w => ?_)
      refine lv_if_eq (tgt := 27) hx hb dX0_firstAtRest_13 (by decide) (fun c3 => ?_) (fun c3 => ?_)
      · replace hf := ite_t c3 hf
        obtain ⟨z4, ez4⟩ : ∃ y : Int32, y = (v1 + 1) := ⟨_, rfl⟩
        replace hf := nm_at ez4 hf
        refine lv_iinc (v := z4) (lv' := [(1, .int z4), (0, .ref k_a)]) hx hb dX0_firstAtRest_27 hl (k := 1) rfl (by rw [ez4]; rfl) (by decide) rfl (fun ls hl => ?_)
        refine lv_goto (tgt := 2) hx hb dX0_firstAtRest_30 (by decide) ?_
        exact ih z4 H locs ls hf w (lv_sub hl [1, 0] rfl)
      · replace hf := ite_f c3 hf
        refine lv_bipush (v := 10) hx hb dX0_firstAtRest_16 (by decide) ?_
        refine lv_iload_n hx hb dX0_firstAtRest_18 rfl (lv_at hl 1 rfl) ?_
        refine lv_iconst (v := 5) hx hb dX0_firstAtRest_19 (by decide) ?_
        refine lv_idiv hx hb dX0_firstAtRest_20 (by decide) ?_
        refine lv_imul hx hb dX0_firstAtRest_21 ?_
        refine lv_iload_n hx hb dX0_firstAtRest_22 rfl (lv_at hl 1 rfl) ?_
        refine lv_iconst (v := 5) hx hb dX0_firstAtRest_23 (by decide) ?_
        refine lv_irem hx hb dX0_firstAtRest_24 (by decide) ?_
        refine lv_iadd hx hb dX0_firstAtRest_25 ?_
        exact k_iret (u := ()) hx hb hr hlk w rfl (k_ret1 hf) dX0_firstAtRest_26
def fX0_firstAtRest  (k_fh : Nat → Int32) (k_sh : Nat → Int32) : Option (Int32) := fX0_firstAtRest_L2 k_fh k_sh FU 0
set_option maxRecDepth 100000 in
set_option maxHeartbeats 4000000 in
theorem tX0_firstAtRest (l : Launch) (D : va_G) (cI cZ : ClassId) (b0 : Nat) (tt : Nat → Nat)  (k_a k_f k_s : Nat) (k_fh : Nat → Int32) (k_sh : Nat → Int32)  {res : Int32} (hf : fX0_firstAtRest k_fh k_sh = some res) : CtI l yX0_firstAtRest (cwX0_firstAtRest :: GW) 1 24 D cI cZ b0 tt [.ref k_a] (fun _ : Unit => [(k_a, .inr (0, [.ref k_f, .ref k_s])), (k_f, .inl (cI, 25, .inl k_fh)), (k_s, .inl (cI, 25, .inl k_sh))]) () (res, ()) := by
  intro sz
  refine k_begin (cc := cX0_firstAtRest) (maxL := 2) (ret := (some .int)) (by decide) rfl (Nat.le_of_ble_eq_true rfl) ?_
  intro p e s m below meth c ls C w hl
  generalize va_A _ sz = A at w ⊢
  have w : Wd D cI cZ b0 tt A s [(k_a, .inr (0, [.ref k_f, .ref k_s])), (k_f, .inl (cI, 25, .inl k_fh)), (k_s, .inl (cI, 25, .inl k_sh))] s.heap [] := w
  have hl : lv_has ls 2 [(0, .ref k_a)] := hl
  obtain ⟨H, eH⟩ : ∃ H, H = s.heap := ⟨_, rfl⟩
  rw [← eH] at w ⊢
  generalize ([] : List Loc) = locs at w ⊢
  generalize List.toArray _ = args at C ⊢
  obtain ⟨hx, hb, hr, hml, hown, hts, hlk⟩ := id C
  have hg : ∀ w ∈ GW, w.before args s = true := fun w h => hts w (List.mem_cons_of_mem _ h)
  unfold fX0_firstAtRest at hf
  refine lv_iconst (v := 0) hx hb dX0_firstAtRest_0 (by decide) ?_
  refine lv_istore_n (lv' := [(1, .int 0), (0, .ref k_a)]) hx hb dX0_firstAtRest_1 rfl hl (by decide) rfl (fun ls hl => ?_)
  exact tX0_firstAtRest_L2 (k_fh := k_fh) (k_sh := k_sh) (C := C) FU 0 H locs ls hf w (lv_sub hl [1, 0] rfl)
-- X1_clear
def fX1_clear_L17   (p_th : Int32) (p_ki : Int32) (p_fe : Int32) : Nat → Int32 → (Nat → Int32) → Option (Int32 × Int32 × Int32 × (Nat → Int32))
  | 0, _, _ => none
  | n + 1, v1, p_ca => (if 4 ≤ v1 then some (p_th, p_ki, p_fe, p_ca) else gd v1 4 (nm (v1 + 1) (fun z3 => fX1_clear_L17 p_th p_ki p_fe n z3 (upd p_ca (Int32.toNatClampNeg v1) 0))))
set_option maxRecDepth 100000 in
set_option maxHeartbeats 4000000 in
theorem tX1_clear_L17 {p : Program} {l : Launch} {e : Env} {s : State} {m : MethodId} {args : Array Value} {below : List Frame} {meth : Method} {c : Code} {D : va_G} {cI cZ : ClassId} {b0 : Nat} {tt : Nat → Nat} {A : Nat → Prop}  {p_a p_c p_d : Nat}  {p_th : Int32} {p_ki : Int32} {p_fe : Int32} {p_lo : Nat → Int32} {res : Int32 × Int32 × Int32 × (Nat → Int32)} (C : Cx p s m args meth c cX1_clear 2 none (cwX1_clear :: GW) RX1) : ∀ (n : Nat) (v1 : Int32) (p_ca : Nat → Int32) (H : Heap) (locs : List Loc) (ls : Array Slot), fX1_clear_L17 p_th p_ki p_fe n v1 p_ca = some res → Wd D cI cZ b0 tt A s [(p_a, .inr (1, [.int p_th, .int p_ki, .int p_fe, .ref p_c, .ref p_d])), (p_c, .inl (cI, 4, .inl p_ca)), (p_d, .inl (cI, 16, .inl p_lo))] H locs → lv_has ls 2 [(0, .ref p_a), (1, .int v1)] → W p l e (rmo 0 0) s m args below meth c H locs 0 0 (MQ below (QV D (fun u : Int32 × Int32 × Int32 × (Nat → Int32) => [(p_a, .inr (1, [.int u.1, .int u.2.1, .int u.2.2.1, .ref p_c, .ref p_d])), (p_c, .inl (cI, 4, .inl u.2.2.2)), (p_d, .inl (cI, 16, .inl p_lo))]) A res) args s 0 0 A) (F0 m 17 ls []) := by
  obtain ⟨hx, hb, hr, hml, hown, hts, hlk⟩ := id C
  have hg : ∀ w ∈ GW, w.before args s = true := fun w h => hts w (List.mem_cons_of_mem _ h)
  intro n
  induction n with
  | zero =>
    intro _ _ H locs ls hf
    rw [fX1_clear_L17] at hf
    cases hf
  | succ n ih =>
    intro v1 p_ca H locs ls hf w hl
    rw [fX1_clear_L17] at hf
    refine lv_iload_n hx hb dX1_clear_17 rfl (lv_at hl 1 rfl) ?_
    refine lv_iconst (v := 4) hx hb dX1_clear_18 (by decide) ?_
    refine lv_icmp_ge (tgt := 35) hx hb dX1_clear_19 (by decide) (fun c1 => ?_) (fun c1 => ?_)
    · replace hf := ite_t c1 hf
      exact k_vret (u := (p_th, p_ki, p_fe, p_ca)) hx hb hr hlk w rfl hf dX1_clear_35
    · replace hf := ite_f c1 hf
      refine lv_aload_n hx hb dX1_clear_22 rfl (lv_at hl 0 rfl) ?_
      refine va_get (D := D) (ci := 1) (v := .ref p_c) (C := RX1) (T := TX1) (N := 5) hx hb hg iX1 hown w.2.2.2.2.2.2.1 w.1 0 rfl rfl 3 (by decide) (hg _ w_38) (fun _ h9 => h9) rfl dX1_clear_23 ?_
      refine lv_iload_n hx hb dX1_clear_26 rfl (lv_at hl 1 rfl) ?_
      refine lv_iconst (v := 0) hx hb dX1_clear_27 (by decide) ?_
      replace hf := gd_at hf
      obtain ⟨hi2, hf⟩ := hf
      refine k_iast hx hb w 1 rfl hi2 dX1_clear_28 (fun H locs w => ?_)
      have w : Wd D cI cZ b0 tt A s [(p_a, .inr (1, [.int p_th, .int p_ki, .int p_fe, .ref p_c, .ref p_d])), (p_c, .inl (cI, 4, .inl (upd p_ca (Int32.toNatClampNeg v1) 0))), (p_d, .inl (cI, 16, .inl p_lo))] H locs := w
      obtain ⟨z3, ez3⟩ : ∃ y : Int32, y = (v1 + 1) := ⟨_, rfl⟩
      replace hf := nm_at ez3 hf
      refine lv_iinc (v := z3) (lv' := [(1, .int z3), (0, .ref p_a)]) hx hb dX1_clear_29 hl (k := 1) rfl (by rw [ez3]; rfl) (by decide) rfl (fun ls hl => ?_)
      refine lv_goto (tgt := 17) hx hb dX1_clear_32 (by decide) ?_
      exact ih z3 (upd p_ca (Int32.toNatClampNeg v1) 0) H locs ls hf w (lv_sub hl [1, 0] rfl)
def fX1_clear  (p_th : Int32) (p_ki : Int32) (p_fe : Int32) (p_ca : Nat → Int32) : Option (Int32 × Int32 × Int32 × (Nat → Int32)) := fX1_clear_L17 0 0 0 FU 0 p_ca
set_option maxRecDepth 100000 in
set_option maxHeartbeats 4000000 in
theorem tX1_clear (l : Launch) (D : va_G) (cI cZ : ClassId) (b0 : Nat) (tt : Nat → Nat)  (p_a p_c p_d : Nat) (p_th : Int32) (p_ki : Int32) (p_fe : Int32) (p_ca : Nat → Int32) (p_lo : Nat → Int32)  {res : Int32 × Int32 × Int32 × (Nat → Int32)} (hf : fX1_clear p_th p_ki p_fe p_ca = some res) : CtV l yX1_clear (cwX1_clear :: GW) 0 0 D cI cZ b0 tt [.ref p_a] (fun u : Int32 × Int32 × Int32 × (Nat → Int32) => [(p_a, .inr (1, [.int u.1, .int u.2.1, .int u.2.2.1, .ref p_c, .ref p_d])), (p_c, .inl (cI, 4, .inl u.2.2.2)), (p_d, .inl (cI, 16, .inl p_lo))]) (p_th, p_ki, p_fe, p_ca) res := by
  intro sz
  refine k_begin (cc := cX1_clear) (maxL := 2) (ret := none) (by decide) rfl (Nat.le_of_ble_eq_true rfl) ?_
  intro p e s m below meth c ls C w hl
  generalize va_A _ sz = A at w ⊢
  have w : Wd D cI cZ b0 tt A s [(p_a, .inr (1, [.int p_th, .int p_ki, .int p_fe, .ref p_c, .ref p_d])), (p_c, .inl (cI, 4, .inl p_ca)), (p_d, .inl (cI, 16, .inl p_lo))] s.heap [] := w
  have hl : lv_has ls 2 [(0, .ref p_a)] := hl
  obtain ⟨H, eH⟩ : ∃ H, H = s.heap := ⟨_, rfl⟩
  rw [← eH] at w ⊢
  generalize ([] : List Loc) = locs at w ⊢
  generalize List.toArray _ = args at C ⊢
  obtain ⟨hx, hb, hr, hml, hown, hts, hlk⟩ := id C
  have hg : ∀ w ∈ GW, w.before args s = true := fun w h => hts w (List.mem_cons_of_mem _ h)
  unfold fX1_clear at hf
  refine lv_aload_n hx hb dX1_clear_0 rfl (lv_at hl 0 rfl) ?_
  refine lv_iconst (v := 0) hx hb dX1_clear_1 (by decide) ?_
  refine k_put (ci := 1) (v := .int 0) (ty := .int) (C := RX1) (T := TX1) (N := 5) hx hb hg iX1 tyX1 tyX1_ok nmX1 hown w 0 rfl rfl 0 (by decide) (hg _ w_35) (fun _ h9 => h9) rfl pd_I rfl rfl (Nat.le_of_ble_eq_true rfl) dX1_clear_2 (fun H locs w => ?_)
  have w : Wd D cI cZ b0 tt A s [(p_a, .inr (1, [.int 0, .int p_ki, .int p_fe, .ref p_c, .ref p_d])), (p_c, .inl (cI, 4, .inl p_ca)), (p_d, .inl (cI, 16, .inl p_lo))] H locs := w
  refine lv_aload_n hx hb dX1_clear_5 rfl (lv_at hl 0 rfl) ?_
  refine lv_iconst (v := 0) hx hb dX1_clear_6 (by decide) ?_
  refine k_put (ci := 1) (v := .int 0) (ty := .int) (C := RX1) (T := TX1) (N := 5) hx hb hg iX1 tyX1 tyX1_ok nmX1 hown w 0 rfl rfl 1 (by decide) (hg _ w_36) (fun _ h9 => h9) rfl pd_I rfl rfl (Nat.le_of_ble_eq_true rfl) dX1_clear_7 (fun H locs w => ?_)
  have w : Wd D cI cZ b0 tt A s [(p_a, .inr (1, [.int 0, .int 0, .int p_fe, .ref p_c, .ref p_d])), (p_c, .inl (cI, 4, .inl p_ca)), (p_d, .inl (cI, 16, .inl p_lo))] H locs := w
  refine lv_aload_n hx hb dX1_clear_10 rfl (lv_at hl 0 rfl) ?_
  refine lv_iconst (v := 0) hx hb dX1_clear_11 (by decide) ?_
  refine k_put (ci := 1) (v := .int 0) (ty := .int) (C := RX1) (T := TX1) (N := 5) hx hb hg iX1 tyX1 tyX1_ok nmX1 hown w 0 rfl rfl 2 (by decide) (hg _ w_37) (fun _ h9 => h9) rfl pd_I rfl rfl (Nat.le_of_ble_eq_true rfl) dX1_clear_12 (fun H locs w => ?_)
  have w : Wd D cI cZ b0 tt A s [(p_a, .inr (1, [.int 0, .int 0, .int 0, .ref p_c, .ref p_d])), (p_c, .inl (cI, 4, .inl p_ca)), (p_d, .inl (cI, 16, .inl p_lo))] H locs := w
  refine lv_iconst (v := 0) hx hb dX1_clear_15 (by decide) ?_
  refine lv_istore_n (lv' := [(1, .int 0), (0, .ref p_a)]) hx hb dX1_clear_16 rfl hl (by decide) rfl (fun ls hl => ?_)
  exact tX1_clear_L17 (p_th := 0) (p_ki := 0) (p_fe := 0) (p_lo := p_lo) (C := C) FU 0 p_ca H locs ls hf w (lv_sub hl [1, 0] rfl)
-- X1_copyFrom
def fX1_copyFrom_L26   (p_th : Int32) (p_ki : Int32) (p_fe : Int32) (o_th : Int32) (o_ki : Int32) (o_fe : Int32) (o_ca : Nat → Int32) : Nat → Int32 → (Nat → Int32) → Option (Int32 × Int32 × Int32 × (Nat → Int32))
  | 0, _, _ => none
  | n + 1, v2, p_ca => (if 4 ≤ v2 then some (p_th, p_ki, p_fe, p_ca) else gd v2 4 (nm (o_ca (Int32.toNatClampNeg v2)) (fun z3 => gd v2 4 (nm (v2 + 1) (fun z5 => fX1_copyFrom_L26 p_th p_ki p_fe o_th o_ki o_fe o_ca n z5 (upd p_ca (Int32.toNatClampNeg v2) z3))))))
set_option maxRecDepth 100000 in
set_option maxHeartbeats 4000000 in
theorem tX1_copyFrom_L26 {p : Program} {l : Launch} {e : Env} {s : State} {m : MethodId} {args : Array Value} {below : List Frame} {meth : Method} {c : Code} {D : va_G} {cI cZ : ClassId} {b0 : Nat} {tt : Nat → Nat} {A : Nat → Prop}  {p_a p_c p_d o_a o_c o_d : Nat}  {p_th : Int32} {p_ki : Int32} {p_fe : Int32} {o_th : Int32} {o_ki : Int32} {o_fe : Int32} {o_ca : Nat → Int32} {p_lo : Nat → Int32} {o_lo : Nat → Int32} {res : Int32 × Int32 × Int32 × (Nat → Int32)} (C : Cx p s m args meth c cX1_copyFrom 3 none (cwX1_copyFrom :: GW) RX1) : ∀ (n : Nat) (v2 : Int32) (p_ca : Nat → Int32) (H : Heap) (locs : List Loc) (ls : Array Slot), fX1_copyFrom_L26 p_th p_ki p_fe o_th o_ki o_fe o_ca n v2 p_ca = some res → Wd D cI cZ b0 tt A s [(p_a, .inr (1, [.int p_th, .int p_ki, .int p_fe, .ref p_c, .ref p_d])), (p_c, .inl (cI, 4, .inl p_ca)), (p_d, .inl (cI, 16, .inl p_lo)), (o_a, .inr (1, [.int o_th, .int o_ki, .int o_fe, .ref o_c, .ref o_d])), (o_c, .inl (cI, 4, .inl o_ca)), (o_d, .inl (cI, 16, .inl o_lo))] H locs → lv_has ls 3 [(0, .ref p_a), (1, .ref o_a), (2, .int v2)] → W p l e (rmo 0 0) s m args below meth c H locs 0 0 (MQ below (QV D (fun u : Int32 × Int32 × Int32 × (Nat → Int32) => [(p_a, .inr (1, [.int u.1, .int u.2.1, .int u.2.2.1, .ref p_c, .ref p_d])), (p_c, .inl (cI, 4, .inl u.2.2.2)), (p_d, .inl (cI, 16, .inl p_lo)), (o_a, .inr (1, [.int o_th, .int o_ki, .int o_fe, .ref o_c, .ref o_d])), (o_c, .inl (cI, 4, .inl o_ca)), (o_d, .inl (cI, 16, .inl o_lo))]) A res) args s 0 0 A) (F0 m 26 ls []) := by
  obtain ⟨hx, hb, hr, hml, hown, hts, hlk⟩ := id C
  have hg : ∀ w ∈ GW, w.before args s = true := fun w h => hts w (List.mem_cons_of_mem _ h)
  intro n
  induction n with
  | zero =>
    intro _ _ H locs ls hf
    rw [fX1_copyFrom_L26] at hf
    cases hf
  | succ n ih =>
    intro v2 p_ca H locs ls hf w hl
    rw [fX1_copyFrom_L26] at hf
    refine lv_iload_n hx hb dX1_copyFrom_26 rfl (lv_at hl 2 rfl) ?_
    refine lv_iconst (v := 4) hx hb dX1_copyFrom_27 (by decide) ?_
    refine lv_icmp_ge (tgt := 49) hx hb dX1_copyFrom_28 (by decide) (fun c1 => ?_) (fun c1 => ?_)
    · replace hf := ite_t c1 hf
      exact k_vret (u := (p_th, p_ki, p_fe, p_ca)) hx hb hr hlk w rfl hf dX1_copyFrom_49
    · replace hf := ite_f c1 hf
      refine lv_aload_n hx hb dX1_copyFrom_31 rfl (lv_at hl 0 rfl) ?_
      refine va_get (D := D) (ci := 1) (v := .ref p_c) (C := RX1) (T := TX1) (N := 5) hx hb hg iX1 hown w.2.2.2.2.2.2.1 w.1 0 rfl rfl 3 (by decide) (hg _ w_38) (fun _ h9 => h9) rfl dX1_copyFrom_32 ?_
      refine lv_iload_n hx hb dX1_copyFrom_35 rfl (lv_at hl 2 rfl) ?_
      refine lv_aload_n hx hb dX1_copyFrom_36 rfl (lv_at hl 1 rfl) ?_
      refine va_get (D := D) (ci := 1) (v := .ref o_c) (C := RX1) (T := TX1) (N := 5) hx hb hg iX1 hown w.2.2.2.2.2.2.1 w.1 3 rfl rfl 3 (by decide) (hg _ w_38) (fun _ h9 => h9) rfl dX1_copyFrom_37 ?_
      refine lv_iload_n hx hb dX1_copyFrom_40 rfl (lv_at hl 2 rfl) ?_
      replace hf := gd_at hf
      obtain ⟨hi2, hf⟩ := hf
      refine va_iald hx hb w.2.2.2.2.2.2.1 w.1 4 0 rfl rfl hi2 dX1_copyFrom_41 ?_
      refine lv_topi (fun z3 ez3 => ?_)
      replace hf := nm_at ez3 hf
      replace hf := gd_at hf
      obtain ⟨hi4, hf⟩ := hf
      refine k_iast hx hb w 1 rfl hi4 dX1_copyFrom_42 (fun H locs w => ?_)
      have w : Wd D cI cZ b0 tt A s [(p_a, .inr (1, [.int p_th, .int p_ki, .int p_fe, .ref p_c, .ref p_d])), (p_c, .inl (cI, 4, .inl (upd p_ca (Int32.toNatClampNeg v2) z3))), (p_d, .inl (cI, 16, .inl p_lo)), (o_a, .inr (1, [.int o_th, .int o_ki, .int o_fe, .ref o_c, .ref o_d])), (o_c, .inl (cI, 4, .inl o_ca)), (o_d, .inl (cI, 16, .inl o_lo))] H locs := w
      obtain ⟨z5, ez5⟩ : ∃ y : Int32, y = (v2 + 1) := ⟨_, rfl⟩
      replace hf := nm_at ez5 hf
      refine lv_iinc (v := z5) (lv' := [(2, .int z5), (0, .ref p_a), (1, .ref o_a)]) hx hb dX1_copyFrom_43 hl (k := 2) rfl (by rw [ez5]; rfl) (by decide) rfl (fun ls hl => ?_)
      refine lv_goto (tgt := 26) hx hb dX1_copyFrom_46 (by decide) ?_
      exact ih z5 (upd p_ca (Int32.toNatClampNeg v2) z3) H locs ls hf w (lv_sub hl [1, 2, 0] rfl)
def fX1_copyFrom  (p_th : Int32) (p_ki : Int32) (p_fe : Int32) (p_ca : Nat → Int32) (o_th : Int32) (o_ki : Int32) (o_fe : Int32) (o_ca : Nat → Int32) : Option (Int32 × Int32 × Int32 × (Nat → Int32)) := fX1_copyFrom_L26 o_th o_ki o_fe o_th o_ki o_fe o_ca FU 0 p_ca
set_option maxRecDepth 100000 in
set_option maxHeartbeats 4000000 in
theorem tX1_copyFrom (l : Launch) (D : va_G) (cI cZ : ClassId) (b0 : Nat) (tt : Nat → Nat)  (p_a p_c p_d o_a o_c o_d : Nat) (p_th : Int32) (p_ki : Int32) (p_fe : Int32) (p_ca : Nat → Int32) (p_lo : Nat → Int32) (o_th : Int32) (o_ki : Int32) (o_fe : Int32) (o_ca : Nat → Int32) (o_lo : Nat → Int32)  {res : Int32 × Int32 × Int32 × (Nat → Int32)} (hf : fX1_copyFrom p_th p_ki p_fe p_ca o_th o_ki o_fe o_ca = some res) : CtV l yX1_copyFrom (cwX1_copyFrom :: GW) 0 0 D cI cZ b0 tt [.ref p_a, .ref o_a] (fun u : Int32 × Int32 × Int32 × (Nat → Int32) => [(p_a, .inr (1, [.int u.1, .int u.2.1, .int u.2.2.1, .ref p_c, .ref p_d])), (p_c, .inl (cI, 4, .inl u.2.2.2)), (p_d, .inl (cI, 16, .inl p_lo)), (o_a, .inr (1, [.int o_th, .int o_ki, .int o_fe, .ref o_c, .ref o_d])), (o_c, .inl (cI, 4, .inl o_ca)), (o_d, .inl (cI, 16, .inl o_lo))]) (p_th, p_ki, p_fe, p_ca) res := by
  intro sz
  refine k_begin (cc := cX1_copyFrom) (maxL := 3) (ret := none) (by decide) rfl (Nat.le_of_ble_eq_true rfl) ?_
  intro p e s m below meth c ls C w hl
  generalize va_A _ sz = A at w ⊢
  have w : Wd D cI cZ b0 tt A s [(p_a, .inr (1, [.int p_th, .int p_ki, .int p_fe, .ref p_c, .ref p_d])), (p_c, .inl (cI, 4, .inl p_ca)), (p_d, .inl (cI, 16, .inl p_lo)), (o_a, .inr (1, [.int o_th, .int o_ki, .int o_fe, .ref o_c, .ref o_d])), (o_c, .inl (cI, 4, .inl o_ca)), (o_d, .inl (cI, 16, .inl o_lo))] s.heap [] := w
  have hl : lv_has ls 3 [(0, .ref p_a), (1, .ref o_a)] := hl
  obtain ⟨H, eH⟩ : ∃ H, H = s.heap := ⟨_, rfl⟩
  rw [← eH] at w ⊢
  generalize ([] : List Loc) = locs at w ⊢
  generalize List.toArray _ = args at C ⊢
  obtain ⟨hx, hb, hr, hml, hown, hts, hlk⟩ := id C
  have hg : ∀ w ∈ GW, w.before args s = true := fun w h => hts w (List.mem_cons_of_mem _ h)
  unfold fX1_copyFrom at hf
  refine lv_aload_n hx hb dX1_copyFrom_0 rfl (lv_at hl 0 rfl) ?_
  refine lv_aload_n hx hb dX1_copyFrom_1 rfl (lv_at hl 1 rfl) ?_
  refine va_get (D := D) (ci := 1) (v := .int o_th) (C := RX1) (T := TX1) (N := 5) hx hb hg iX1 hown w.2.2.2.2.2.2.1 w.1 3 rfl rfl 0 (by decide) (hg _ w_35) (fun _ h9 => h9) rfl dX1_copyFrom_2 ?_
  refine k_put (ci := 1) (v := .int o_th) (ty := .int) (C := RX1) (T := TX1) (N := 5) hx hb hg iX1 tyX1 tyX1_ok nmX1 hown w 0 rfl rfl 0 (by decide) (hg _ w_35) (fun _ h9 => h9) rfl pd_I rfl rfl (Nat.le_of_ble_eq_true rfl) dX1_copyFrom_5 (fun H locs w => ?_)
  have w : Wd D cI cZ b0 tt A s [(p_a, .inr (1, [.int o_th, .int p_ki, .int p_fe, .ref p_c, .ref p_d])), (p_c, .inl (cI, 4, .inl p_ca)), (p_d, .inl (cI, 16, .inl p_lo)), (o_a, .inr (1, [.int o_th, .int o_ki, .int o_fe, .ref o_c, .ref o_d])), (o_c, .inl (cI, 4, .inl o_ca)), (o_d, .inl (cI, 16, .inl o_lo))] H locs := w
  refine lv_aload_n hx hb dX1_copyFrom_8 rfl (lv_at hl 0 rfl) ?_
  refine lv_aload_n hx hb dX1_copyFrom_9 rfl (lv_at hl 1 rfl) ?_
  refine va_get (D := D) (ci := 1) (v := .int o_ki) (C := RX1) (T := TX1) (N := 5) hx hb hg iX1 hown w.2.2.2.2.2.2.1 w.1 3 rfl rfl 1 (by decide) (hg _ w_36) (fun _ h9 => h9) rfl dX1_copyFrom_10 ?_
  refine k_put (ci := 1) (v := .int o_ki) (ty := .int) (C := RX1) (T := TX1) (N := 5) hx hb hg iX1 tyX1 tyX1_ok nmX1 hown w 0 rfl rfl 1 (by decide) (hg _ w_36) (fun _ h9 => h9) rfl pd_I rfl rfl (Nat.le_of_ble_eq_true rfl) dX1_copyFrom_13 (fun H locs w => ?_)
  have w : Wd D cI cZ b0 tt A s [(p_a, .inr (1, [.int o_th, .int o_ki, .int p_fe, .ref p_c, .ref p_d])), (p_c, .inl (cI, 4, .inl p_ca)), (p_d, .inl (cI, 16, .inl p_lo)), (o_a, .inr (1, [.int o_th, .int o_ki, .int o_fe, .ref o_c, .ref o_d])), (o_c, .inl (cI, 4, .inl o_ca)), (o_d, .inl (cI, 16, .inl o_lo))] H locs := w
  refine lv_aload_n hx hb dX1_copyFrom_16 rfl (lv_at hl 0 rfl) ?_
  refine lv_aload_n hx hb dX1_copyFrom_17 rfl (lv_at hl 1 rfl) ?_
  refine va_get (D := D) (ci := 1) (v := .int o_fe) (C := RX1) (T := TX1) (N := 5) hx hb hg iX1 hown w.2.2.2.2.2.2.1 w.1 3 rfl rfl 2 (by decide) (hg _ w_37) (fun _ h9 => h9) rfl dX1_copyFrom_18 ?_
  refine k_put (ci := 1) (v := .int o_fe) (ty := .int) (C := RX1) (T := TX1) (N := 5) hx hb hg iX1 tyX1 tyX1_ok nmX1 hown w 0 rfl rfl 2 (by decide) (hg _ w_37) (fun _ h9 => h9) rfl pd_I rfl rfl (Nat.le_of_ble_eq_true rfl) dX1_copyFrom_21 (fun H locs w => ?_)
  have w : Wd D cI cZ b0 tt A s [(p_a, .inr (1, [.int o_th, .int o_ki, .int o_fe, .ref p_c, .ref p_d])), (p_c, .inl (cI, 4, .inl p_ca)), (p_d, .inl (cI, 16, .inl p_lo)), (o_a, .inr (1, [.int o_th, .int o_ki, .int o_fe, .ref o_c, .ref o_d])), (o_c, .inl (cI, 4, .inl o_ca)), (o_d, .inl (cI, 16, .inl o_lo))] H locs := w
  refine lv_iconst (v := 0) hx hb dX1_copyFrom_24 (by decide) ?_
  refine lv_istore_n (lv' := [(2, .int 0), (0, .ref p_a), (1, .ref o_a)]) hx hb dX1_copyFrom_25 rfl hl (by decide) rfl (fun ls hl => ?_)
  exact tX1_copyFrom_L26 (p_th := o_th) (p_ki := o_ki) (p_fe := o_fe) (o_th := o_th) (o_ki := o_ki) (o_fe := o_fe) (o_ca := o_ca) (p_lo := p_lo) (o_lo := o_lo) (C := C) FU 0 p_ca H locs ls hf w (lv_sub hl [1, 2, 0] rfl)
-- J6_bitCount_0f7a4
def fJ6_bitCount_0f7a4  (a1 : Int32) : Option (Int32) := nm (a1 - ((a1.toUInt32 >>> ((1 : Int32).toUInt32 &&& Int32.toUInt32 31)).toInt32 &&& (1431655765 : Int32))) (fun z1 => nm ((z1 &&& (858993459 : Int32)) + ((z1.toUInt32 >>> ((2 : Int32).toUInt32 &&& Int32.toUInt32 31)).toInt32 &&& (858993459 : Int32))) (fun z2 => nm ((z2 + (z2.toUInt32 >>> ((4 : Int32).toUInt32 &&& Int32.toUInt32 31)).toInt32) &&& (252645135 : Int32)) (fun z3 => nm (z3 + (z3.toUInt32 >>> ((8 : Int32).toUInt32 &&& Int32.toUInt32 31)).toInt32) (fun z4 => nm (z4 + (z4.toUInt32 >>> ((16 : Int32).toUInt32 &&& Int32.toUInt32 31)).toInt32) (fun z5 => some (z5 &&& (63 : Int32)))))))
set_option maxRecDepth 100000 in
set_option maxHeartbeats 4000000 in
theorem tJ6_bitCount_0f7a4 (l : Launch) (D : va_G) (cI cZ : ClassId) (b0 : Nat) (tt : Nat → Nat)    (a1 : Int32) {res : Int32} (hf : fJ6_bitCount_0f7a4 a1 = some res) : CtI l yJ6_bitCount_0f7a4 (cwJ6_bitCount_0f7a4 :: GW) 0 0 D cI cZ b0 tt [.int a1] (fun _ : Unit => []) () (res, ()) := by
  intro sz
  refine k_begin (cc := cJ6_bitCount_0f7a4) (maxL := 1) (ret := (some .int)) (by decide) rfl (Nat.le_of_ble_eq_true rfl) ?_
  intro p e s m below meth c ls C w hl
  generalize va_A _ sz = A at w ⊢
  have w : Wd D cI cZ b0 tt A s [] s.heap [] := w
  have hl : lv_has ls 1 [(0, .int a1)] := hl
  obtain ⟨H, eH⟩ : ∃ H, H = s.heap := ⟨_, rfl⟩
  rw [← eH] at w ⊢
  generalize ([] : List Loc) = locs at w ⊢
  generalize List.toArray _ = args at C ⊢
  obtain ⟨hx, hb, hr, hml, hown, hts, hlk⟩ := id C
  have hg : ∀ w ∈ GW, w.before args s = true := fun w h => hts w (List.mem_cons_of_mem _ h)
  unfold fJ6_bitCount_0f7a4 at hf
  refine lv_iload_n hx hb dJ6_bitCount_0f7a4_0 rfl (lv_at hl 0 rfl) ?_
  refine lv_iload_n hx hb dJ6_bitCount_0f7a4_1 rfl (lv_at hl 0 rfl) ?_
  refine lv_iconst (v := 1) hx hb dJ6_bitCount_0f7a4_2 (by decide) ?_
  refine lv_iushr (v := (a1.toUInt32 >>> ((1 : Int32).toUInt32 &&& Int32.toUInt32 31)).toInt32) hx hb dJ6_bitCount_0f7a4_3 rfl ?_
  refine lv_ldcw hx hb hown (hg _ w_225) dJ6_bitCount_0f7a4_4 ?_
  refine lv_iand hx hb dJ6_bitCount_0f7a4_7 ?_
  refine lv_isub hx hb dJ6_bitCount_0f7a4_8 ?_
  refine lv_topi (fun z1 ez1 => ?_)
  replace hf := nm_at ez1 hf
  refine lv_istore_n (lv' := [(0, .int z1)]) hx hb dJ6_bitCount_0f7a4_9 rfl hl (by decide) rfl (fun ls hl => ?_)
  refine lv_iload_n hx hb dJ6_bitCount_0f7a4_10 rfl (lv_at hl 0 rfl) ?_
  refine lv_ldcw hx hb hown (hg _ w_226) dJ6_bitCount_0f7a4_11 ?_
  refine lv_iand hx hb dJ6_bitCount_0f7a4_14 ?_
  refine lv_iload_n hx hb dJ6_bitCount_0f7a4_15 rfl (lv_at hl 0 rfl) ?_
  refine lv_iconst (v := 2) hx hb dJ6_bitCount_0f7a4_16 (by decide) ?_
  refine lv_iushr (v := (z1.toUInt32 >>> ((2 : Int32).toUInt32 &&& Int32.toUInt32 31)).toInt32) hx hb dJ6_bitCount_0f7a4_17 rfl ?_
  refine lv_ldcw hx hb hown (hg _ w_226) dJ6_bitCount_0f7a4_18 ?_
  refine lv_iand hx hb dJ6_bitCount_0f7a4_21 ?_
  refine lv_iadd hx hb dJ6_bitCount_0f7a4_22 ?_
  refine lv_topi (fun z2 ez2 => ?_)
  replace hf := nm_at ez2 hf
  refine lv_istore_n (lv' := [(0, .int z2)]) hx hb dJ6_bitCount_0f7a4_23 rfl hl (by decide) rfl (fun ls hl => ?_)
  refine lv_iload_n hx hb dJ6_bitCount_0f7a4_24 rfl (lv_at hl 0 rfl) ?_
  refine lv_iload_n hx hb dJ6_bitCount_0f7a4_25 rfl (lv_at hl 0 rfl) ?_
  refine lv_iconst (v := 4) hx hb dJ6_bitCount_0f7a4_26 (by decide) ?_
  refine lv_iushr (v := (z2.toUInt32 >>> ((4 : Int32).toUInt32 &&& Int32.toUInt32 31)).toInt32) hx hb dJ6_bitCount_0f7a4_27 rfl ?_
  refine lv_iadd hx hb dJ6_bitCount_0f7a4_28 ?_
  refine lv_ldcw hx hb hown (hg _ w_227) dJ6_bitCount_0f7a4_29 ?_
  refine lv_iand hx hb dJ6_bitCount_0f7a4_32 ?_
  refine lv_topi (fun z3 ez3 => ?_)
  replace hf := nm_at ez3 hf
  refine lv_istore_n (lv' := [(0, .int z3)]) hx hb dJ6_bitCount_0f7a4_33 rfl hl (by decide) rfl (fun ls hl => ?_)
  refine lv_iload_n hx hb dJ6_bitCount_0f7a4_34 rfl (lv_at hl 0 rfl) ?_
  refine lv_iload_n hx hb dJ6_bitCount_0f7a4_35 rfl (lv_at hl 0 rfl) ?_
  refine lv_bipush (v := 8) hx hb dJ6_bitCount_0f7a4_36 (by decide) ?_
  refine lv_iushr (v := (z3.toUInt32 >>> ((8 : Int32).toUInt32 &&& Int32.toUInt32 31)).toInt32) hx hb dJ6_bitCount_0f7a4_38 rfl ?_
  refine lv_iadd hx hb dJ6_bitCount_0f7a4_39 ?_
  refine lv_topi (fun z4 ez4 => ?_)
  replace hf := nm_at ez4 hf
  refine lv_istore_n (lv' := [(0, .int z4)]) hx hb dJ6_bitCount_0f7a4_40 rfl hl (by decide) rfl (fun ls hl => ?_)
  refine lv_iload_n hx hb dJ6_bitCount_0f7a4_41 rfl (lv_at hl 0 rfl) ?_
  refine lv_iload_n hx hb dJ6_bitCount_0f7a4_42 rfl (lv_at hl 0 rfl) ?_
  refine lv_bipush (v := 16) hx hb dJ6_bitCount_0f7a4_43 (by decide) ?_
  refine lv_iushr (v := (z4.toUInt32 >>> ((16 : Int32).toUInt32 &&& Int32.toUInt32 31)).toInt32) hx hb dJ6_bitCount_0f7a4_45 rfl ?_
  refine lv_iadd hx hb dJ6_bitCount_0f7a4_46 ?_
  refine lv_topi (fun z5 ez5 => ?_)
  replace hf := nm_at ez5 hf
  refine lv_istore_n (lv' := [(0, .int z5)]) hx hb dJ6_bitCount_0f7a4_47 rfl hl (by decide) rfl (fun ls hl => ?_)
  refine lv_iload_n hx hb dJ6_bitCount_0f7a4_48 rfl (lv_at hl 0 rfl) ?_
  refine lv_bipush (v := 63) hx hb dJ6_bitCount_0f7a4_49 (by decide) ?_
  refine lv_iand hx hb dJ6_bitCount_0f7a4_51 ?_
  exact k_iret (u := ()) hx hb hr hlk w rfl (k_ret1 hf) dJ6_bitCount_0f7a4_52
-- X1_size
def fX1_size  (p_th : Int32) : Option (Int32) := ob (fJ6_bitCount_0f7a4 p_th) (fun r1 => some r1)
set_option maxRecDepth 100000 in
set_option maxHeartbeats 4000000 in
theorem tX1_size (l : Launch) (D : va_G) (cI cZ : ClassId) (b0 : Nat) (tt : Nat → Nat)  (p_a p_c p_d : Nat) (p_th : Int32) (p_ki : Int32) (p_fe : Int32) (p_ca : Nat → Int32) (p_lo : Nat → Int32)  {res : Int32} (hf : fX1_size p_th = some res) : CtI l yX1_size (cwX1_size :: GW) 1 20 D cI cZ b0 tt [.ref p_a] (fun _ : Unit => [(p_a, .inr (1, [.int p_th, .int p_ki, .int p_fe, .ref p_c, .ref p_d])), (p_c, .inl (cI, 4, .inl p_ca)), (p_d, .inl (cI, 16, .inl p_lo))]) () (res, ()) := by
  intro sz
  refine k_begin (cc := cX1_size) (maxL := 1) (ret := (some .int)) (by decide) rfl (Nat.le_of_ble_eq_true rfl) ?_
  intro p e s m below meth c ls C w hl
  generalize va_A _ sz = A at w ⊢
  have w : Wd D cI cZ b0 tt A s [(p_a, .inr (1, [.int p_th, .int p_ki, .int p_fe, .ref p_c, .ref p_d])), (p_c, .inl (cI, 4, .inl p_ca)), (p_d, .inl (cI, 16, .inl p_lo))] s.heap [] := w
  have hl : lv_has ls 1 [(0, .ref p_a)] := hl
  obtain ⟨H, eH⟩ : ∃ H, H = s.heap := ⟨_, rfl⟩
  rw [← eH] at w ⊢
  generalize ([] : List Loc) = locs at w ⊢
  generalize List.toArray _ = args at C ⊢
  obtain ⟨hx, hb, hr, hml, hown, hts, hlk⟩ := id C
  have hg : ∀ w ∈ GW, w.before args s = true := fun w h => hts w (List.mem_cons_of_mem _ h)
  unfold fX1_size at hf
  refine lv_aload_n hx hb dX1_size_0 rfl (lv_at hl 0 rfl) ?_
  refine va_get (D := D) (ci := 1) (v := .int p_th) (C := RX1) (T := TX1) (N := 5) hx hb hg iX1 hown w.2.2.2.2.2.2.1 w.1 0 rfl rfl 0 (by decide) (hg _ w_35) (fun _ h9 => h9) rfl dX1_size_1 ?_
  replace hf := ob_at hf
  obtain ⟨r1, er1, hf⟩ := hf
  refine k_goI0 w [] rfl (va_runS (As := [.int p_th]) (rest := []) ⟨hx, hb, hml, hown, hg⟩ (tJ6_bitCount_0f7a4 l D cI cZ b0 tt p_th er1 H.size) (va_cwS 1 hg (gwS w_222 w_223 w_8 w_224) rfl rfl rfl qdJ6_bitCount_0f7a4 ⟨Nat.le_of_ble_eq_true rfl, Nat.le_of_ble_eq_true rfl⟩) (k_preS w [] (by decide) rfl) rfl rfl hl.1 rfl (lv_room (Nat.le_of_ble_eq_true rfl)) dX1_size_4 ⟨Nat.le_refl _, Nat.le_refl _⟩) (fun H locs w => ?_)
  exact k_iret (u := ()) hx hb hr hlk w rfl (k_ret1 hf) dX1_size_7
-- X1_has
def fX1_has  (p_th : Int32) (a1 : Int32) : Option (Int32) := (if ((p_th >>> (a1 &&& 31)) &&& (1 : Int32)) = 0 then some 0 else some 1)
set_option maxRecDepth 100000 in
set_option maxHeartbeats 4000000 in
theorem tX1_has (l : Launch) (D : va_G) (cI cZ : ClassId) (b0 : Nat) (tt : Nat → Nat)  (p_a p_c p_d : Nat) (p_th : Int32) (p_ki : Int32) (p_fe : Int32) (p_ca : Nat → Int32) (p_lo : Nat → Int32) (a1 : Int32) {res : Int32} (hf : fX1_has p_th a1 = some res) : CtI l yX1_has (cwX1_has :: GW) 0 0 D cI cZ b0 tt [.ref p_a, .int a1] (fun _ : Unit => [(p_a, .inr (1, [.int p_th, .int p_ki, .int p_fe, .ref p_c, .ref p_d])), (p_c, .inl (cI, 4, .inl p_ca)), (p_d, .inl (cI, 16, .inl p_lo))]) () (res, ()) := by
  intro sz
  refine k_begin (cc := cX1_has) (maxL := 2) (ret := (some .boolean)) (by decide) rfl (Nat.le_of_ble_eq_true rfl) ?_
  intro p e s m below meth c ls C w hl
  generalize va_A _ sz = A at w ⊢
  have w : Wd D cI cZ b0 tt A s [(p_a, .inr (1, [.int p_th, .int p_ki, .int p_fe, .ref p_c, .ref p_d])), (p_c, .inl (cI, 4, .inl p_ca)), (p_d, .inl (cI, 16, .inl p_lo))] s.heap [] := w
  have hl : lv_has ls 2 [(0, .ref p_a), (1, .int a1)] := hl
  obtain ⟨H, eH⟩ : ∃ H, H = s.heap := ⟨_, rfl⟩
  rw [← eH] at w ⊢
  generalize ([] : List Loc) = locs at w ⊢
  generalize List.toArray _ = args at C ⊢
  obtain ⟨hx, hb, hr, hml, hown, hts, hlk⟩ := id C
  have hg : ∀ w ∈ GW, w.before args s = true := fun w h => hts w (List.mem_cons_of_mem _ h)
  unfold fX1_has at hf
  refine lv_aload_n hx hb dX1_has_0 rfl (lv_at hl 0 rfl) ?_
  refine va_get (D := D) (ci := 1) (v := .int p_th) (C := RX1) (T := TX1) (N := 5) hx hb hg iX1 hown w.2.2.2.2.2.2.1 w.1 0 rfl rfl 0 (by decide) (hg _ w_35) (fun _ h9 => h9) rfl dX1_has_1 ?_
  refine lv_iload_n hx hb dX1_has_4 rfl (lv_at hl 1 rfl) ?_
  refine lv_ishr hx hb dX1_has_5 ?_
  refine lv_iconst (v := 1) hx hb dX1_has_6 (by decide) ?_
  refine lv_iand hx hb dX1_has_7 ?_
  refine lv_if_eq (tgt := 15) hx hb dX1_has_8 (by decide) (fun c1 => ?_) (fun c1 => ?_)
  · replace hf := ite_t c1 hf
    refine lv_iconst (v := 0) hx hb dX1_has_15 (by decide) ?_
    exact k_zret (u := ()) hx hb hr hlk w rfl rfl (k_ret1 hf) dX1_has_16
  · replace hf := ite_f c1 hf
    refine lv_iconst (v := 1) hx hb dX1_has_11 (by decide) ?_
    refine lv_goto (tgt := 16) hx hb dX1_has_12 (by decide) ?_
    exact k_zret (u := ()) hx hb hr hlk w rfl rfl (k_ret1 hf) dX1_has_16
-- X1_kindOf
def fX1_kindOf  (p_ki : Int32) (a1 : Int32) : Option (Int32) := some ((p_ki >>> (((2 : Int32) * a1) &&& 31)) &&& (3 : Int32))
set_option maxRecDepth 100000 in
set_option maxHeartbeats 4000000 in
theorem tX1_kindOf (l : Launch) (D : va_G) (cI cZ : ClassId) (b0 : Nat) (tt : Nat → Nat)  (p_a p_c p_d : Nat) (p_th : Int32) (p_ki : Int32) (p_fe : Int32) (p_ca : Nat → Int32) (p_lo : Nat → Int32) (a1 : Int32) {res : Int32} (hf : fX1_kindOf p_ki a1 = some res) : CtI l yX1_kindOf (cwX1_kindOf :: GW) 0 0 D cI cZ b0 tt [.ref p_a, .int a1] (fun _ : Unit => [(p_a, .inr (1, [.int p_th, .int p_ki, .int p_fe, .ref p_c, .ref p_d])), (p_c, .inl (cI, 4, .inl p_ca)), (p_d, .inl (cI, 16, .inl p_lo))]) () (res, ()) := by
  intro sz
  refine k_begin (cc := cX1_kindOf) (maxL := 2) (ret := (some .int)) (by decide) rfl (Nat.le_of_ble_eq_true rfl) ?_
  intro p e s m below meth c ls C w hl
  generalize va_A _ sz = A at w ⊢
  have w : Wd D cI cZ b0 tt A s [(p_a, .inr (1, [.int p_th, .int p_ki, .int p_fe, .ref p_c, .ref p_d])), (p_c, .inl (cI, 4, .inl p_ca)), (p_d, .inl (cI, 16, .inl p_lo))] s.heap [] := w
  have hl : lv_has ls 2 [(0, .ref p_a), (1, .int a1)] := hl
  obtain ⟨H, eH⟩ : ∃ H, H = s.heap := ⟨_, rfl⟩
  rw [← eH] at w ⊢
  generalize ([] : List Loc) = locs at w ⊢
  generalize List.toArray _ = args at C ⊢
  obtain ⟨hx, hb, hr, hml, hown, hts, hlk⟩ := id C
  have hg : ∀ w ∈ GW, w.before args s = true := fun w h => hts w (List.mem_cons_of_mem _ h)
  unfold fX1_kindOf at hf
  refine lv_aload_n hx hb dX1_kindOf_0 rfl (lv_at hl 0 rfl) ?_
  refine va_get (D := D) (ci := 1) (v := .int p_ki) (C := RX1) (T := TX1) (N := 5) hx hb hg iX1 hown w.2.2.2.2.2.2.1 w.1 0 rfl rfl 1 (by decide) (hg _ w_36) (fun _ h9 => h9) rfl dX1_kindOf_1 ?_
  refine lv_iconst (v := 2) hx hb dX1_kindOf_4 (by decide) ?_
  refine lv_iload_n hx hb dX1_kindOf_5 rfl (lv_at hl 1 rfl) ?_
  refine lv_imul hx hb dX1_kindOf_6 ?_
  refine lv_ishr hx hb dX1_kindOf_7 ?_
  refine lv_iconst (v := 3) hx hb dX1_kindOf_8 (by decide) ?_
  refine lv_iand hx hb dX1_kindOf_9 ?_
  exact k_iret (u := ()) hx hb hr hlk w rfl (k_ret1 hf) dX1_kindOf_10
-- X4_cardsOf
def fX4_cardsOf  (a1 : Int32) : Option (Int32) := some ((1 : Int32) + (((45967 : Int32) >>> (a1 &&& 31)) &&& (1 : Int32)))
set_option maxRecDepth 100000 in
set_option maxHeartbeats 4000000 in
theorem tX4_cardsOf (l : Launch) (D : va_G) (cI cZ : ClassId) (b0 : Nat) (tt : Nat → Nat)    (a1 : Int32) {res : Int32} (hf : fX4_cardsOf a1 = some res) : CtI l yX4_cardsOf (cwX4_cardsOf :: GW) 0 0 D cI cZ b0 tt [.int a1] (fun _ : Unit => []) () (res, ()) := by
  intro sz
  refine k_begin (cc := cX4_cardsOf) (maxL := 1) (ret := (some .int)) (by decide) rfl (Nat.le_of_ble_eq_true rfl) ?_
  intro p e s m below meth c ls C w hl
  generalize va_A _ sz = A at w ⊢
  have w : Wd D cI cZ b0 tt A s [] s.heap [] := w
  have hl : lv_has ls 1 [(0, .int a1)] := hl
  obtain ⟨H, eH⟩ : ∃ H, H = s.heap := ⟨_, rfl⟩
  rw [← eH] at w ⊢
  generalize ([] : List Loc) = locs at w ⊢
  generalize List.toArray _ = args at C ⊢
  obtain ⟨hx, hb, hr, hml, hown, hts, hlk⟩ := id C
  have hg : ∀ w ∈ GW, w.before args s = true := fun w h => hts w (List.mem_cons_of_mem _ h)
  unfold fX4_cardsOf at hf
  refine lv_iconst (v := 1) hx hb dX4_cardsOf_0 (by decide) ?_
  refine lv_ldc hx hb hown (hg _ w_175) dX4_cardsOf_1 ?_
  refine lv_iload_n hx hb dX4_cardsOf_3 rfl (lv_at hl 0 rfl) ?_
  refine lv_ishr hx hb dX4_cardsOf_4 ?_
  refine lv_iconst (v := 1) hx hb dX4_cardsOf_5 (by decide) ?_
  refine lv_iand hx hb dX4_cardsOf_6 ?_
  refine lv_iadd hx hb dX4_cardsOf_7 ?_
  exact k_iret (u := ()) hx hb hr hlk w rfl (k_ret1 hf) dX4_cardsOf_8
-- X4_cardWeight
def fX4_cardWeight  (a1 : Int32) : Option (Int32) := (if a1 = 3 then some 16 else some 8)
set_option maxRecDepth 100000 in
set_option maxHeartbeats 4000000 in
theorem tX4_cardWeight (l : Launch) (D : va_G) (cI cZ : ClassId) (b0 : Nat) (tt : Nat → Nat)    (a1 : Int32) {res : Int32} (hf : fX4_cardWeight a1 = some res) : CtI l yX4_cardWeight (cwX4_cardWeight :: GW) 0 0 D cI cZ b0 tt [.int a1] (fun _ : Unit => []) () (res, ()) := by
  intro sz
  refine k_begin (cc := cX4_cardWeight) (maxL := 1) (ret := (some .int)) (by decide) rfl (Nat.le_of_ble_eq_true rfl) ?_
  intro p e s m below meth c ls C w hl
  generalize va_A _ sz = A at w ⊢
  have w : Wd D cI cZ b0 tt A s [] s.heap [] := w
  have hl : lv_has ls 1 [(0, .int a1)] := hl
  obtain ⟨H, eH⟩ : ∃ H, H = s.heap := ⟨_, rfl⟩
  rw [← eH] at w ⊢
  generalize ([] : List Loc) = locs at w ⊢
  generalize List.toArray _ = args at C ⊢
  obtain ⟨hx, hb, hr, hml, hown, hts, hlk⟩ := id C
  have hg : ∀ w ∈ GW, w.before args s = true := fun w h => hts w (List.mem_cons_of_mem _ h)
  unfold fX4_cardWeight at hf
  refine lv_iload_n hx hb dX4_cardWeight_0 rfl (lv_at hl 0 rfl) ?_
  refine lv_iconst (v := 3) hx hb dX4_cardWeight_1 (by decide) ?_
  refine lv_icmp_ne (tgt := 10) hx hb dX4_cardWeight_2 (by decide) (fun c1 => ?_) (fun c1 => ?_)
  · replace hf := ite_f c1 hf
    refine lv_bipush (v := 8) hx hb dX4_cardWeight_10 (by decide) ?_
    exact k_iret (u := ()) hx hb hr hlk w rfl (k_ret1 hf) dX4_cardWeight_12
  · replace hf := ite_t c1 hf
    refine lv_bipush (v := 16) hx hb dX4_cardWeight_5 (by decide) ?_
    refine lv_goto (tgt := 12) hx hb dX4_cardWeight_7 (by decide) ?_
    exact k_iret (u := ()) hx hb hr hlk w rfl (k_ret1 hf) dX4_cardWeight_12
-- X1_weightOf
def fX1_weightOf  (p_ki : Int32) (a1 : Int32) : Option (Int32) := ob (fX4_cardsOf a1) (fun r1 => ob (fX1_kindOf p_ki a1) (fun r2 => ob (fX4_cardWeight r2) (fun r3 => some (r1 * r3))))
set_option maxRecDepth 100000 in
set_option maxHeartbeats 4000000 in
theorem tX1_weightOf (l : Launch) (D : va_G) (cI cZ : ClassId) (b0 : Nat) (tt : Nat → Nat)  (p_a p_c p_d : Nat) (p_th : Int32) (p_ki : Int32) (p_fe : Int32) (p_ca : Nat → Int32) (p_lo : Nat → Int32) (a1 : Int32) {res : Int32} (hf : fX1_weightOf p_ki a1 = some res) : CtI l yX1_weightOf (cwX1_weightOf :: GW) 1 21 D cI cZ b0 tt [.ref p_a, .int a1] (fun _ : Unit => [(p_a, .inr (1, [.int p_th, .int p_ki, .int p_fe, .ref p_c, .ref p_d])), (p_c, .inl (cI, 4, .inl p_ca)), (p_d, .inl (cI, 16, .inl p_lo))]) () (res, ()) := by
  intro sz
  refine k_begin (cc := cX1_weightOf) (maxL := 2) (ret := (some .int)) (by decide) rfl (Nat.le_of_ble_eq_true rfl) ?_
  intro p e s m below meth c ls C w hl
  generalize va_A _ sz = A at w ⊢
  have w : Wd D cI cZ b0 tt A s [(p_a, .inr (1, [.int p_th, .int p_ki, .int p_fe, .ref p_c, .ref p_d])), (p_c, .inl (cI, 4, .inl p_ca)), (p_d, .inl (cI, 16, .inl p_lo))] s.heap [] := w
  have hl : lv_has ls 2 [(0, .ref p_a), (1, .int a1)] := hl
  obtain ⟨H, eH⟩ : ∃ H, H = s.heap := ⟨_, rfl⟩
  rw [← eH] at w ⊢
  generalize ([] : List Loc) = locs at w ⊢
  generalize List.toArray _ = args at C ⊢
  obtain ⟨hx, hb, hr, hml, hown, hts, hlk⟩ := id C
  have hg : ∀ w ∈ GW, w.before args s = true := fun w h => hts w (List.mem_cons_of_mem _ h)
  unfold fX1_weightOf at hf
  refine lv_iload_n hx hb dX1_weightOf_0 rfl (lv_at hl 1 rfl) ?_
  replace hf := ob_at hf
  obtain ⟨r1, er1, hf⟩ := hf
  refine k_goI0 w [] rfl (va_runSN (As := [.int a1]) (rest := []) ⟨hx, hb, hml, hown, hg⟩ (tX4_cardsOf l D cI cZ b0 tt a1 er1 H.size) ⟨va_cnB 1 hg (gwN w_174) rfl rfl rfl (k_nm w 5 (q := ("CardHouse$Pile", 34, yX4_cardsOf)) rfl) (hg _ w_1) qdX4_cardsOf ⟨Nat.le_of_ble_eq_true rfl, Nat.le_of_ble_eq_true rfl⟩, hg _ w_173, trivial⟩ (k_preS w [] (by decide) rfl) rfl rfl hl.1 rfl (lv_room (Nat.le_of_ble_eq_true rfl)) dX1_weightOf_1 ⟨Nat.le_refl _, Nat.le_refl _⟩) (fun H locs w => ?_)
  refine lv_aload_n hx hb dX1_weightOf_4 rfl (lv_at hl 0 rfl) ?_
  refine lv_iload_n hx hb dX1_weightOf_5 rfl (lv_at hl 1 rfl) ?_
  replace hf := ob_at hf
  obtain ⟨r2, er2, hf⟩ := hf
  refine k_goI0 w [0, 1, 2] rfl (va_runV (As := [.int a1]) (rest := [.int r1]) ⟨hx, hb, hml, hown, hg⟩ (tX1_kindOf l D cI cZ b0 tt p_a p_c p_d p_th p_ki p_fe p_ca p_lo a1 er2 H.size) (cwV 1 hg (gwV w_169 w_170 w_171 w_3 w_172) rfl rfl rfl ⟨rfl, qdX1_kindOf⟩ ⟨Nat.le_of_ble_eq_true rfl, Nat.le_of_ble_eq_true rfl⟩) (k_preV w [0, 1, 2] (by decide) rfl (q0 := 0) rfl rfl) rfl rfl hl.1 rfl (lv_room (Nat.le_of_ble_eq_true rfl)) dX1_weightOf_6 ⟨Nat.le_refl _, Nat.le_refl _⟩) (fun H locs w => ?_)
  replace hf := ob_at hf
  obtain ⟨r3, er3, hf⟩ := hf
  refine k_goI0 w [] rfl (va_runSN (As := [.int r2]) (rest := [.int r1]) ⟨hx, hb, hml, hown, hg⟩ (tX4_cardWeight l D cI cZ b0 tt r2 er3 H.size) ⟨va_cnB 1 hg (gwN w_214) rfl rfl rfl (k_nm w 6 (q := ("CardHouse$Pile", 40, yX4_cardWeight)) rfl) (hg _ w_1) qdX4_cardWeight ⟨Nat.le_of_ble_eq_true rfl, Nat.le_of_ble_eq_true rfl⟩, hg _ w_213, trivial⟩ (k_preS w [] (by decide) rfl) rfl rfl hl.1 rfl (lv_room (Nat.le_of_ble_eq_true rfl)) dX1_weightOf_9 ⟨Nat.le_refl _, Nat.le_refl _⟩) (fun H locs w => ?_)
  refine lv_imul hx hb dX1_weightOf_12 ?_
  exact k_iret (u := ()) hx hb hr hlk w rfl (k_ret1 hf) dX1_weightOf_13
-- X1_highestLevel
def fX1_highestLevel_L5   (p_th : Int32) : Nat → Int32 → Int32 → Option (Int32)
  | 0, _, _ => none
  | n + 1, v1, v2 => (if 16 ≤ v2 then some v1 else ob (fX1_has p_th v2) (fun r2 => (if r2 = 0 then nm (v2 + 1) (fun z4 => fX1_highestLevel_L5 p_th n v1 z4) else gd v2 16 (nm (sLV (Int32.toNatClampNeg v2)) (fun z6 => nm (v2 + 1) (fun z7 => fX1_highestLevel_L5 p_th n z6 z7))))))
set_option maxRecDepth 100000 in
set_option maxHeartbeats 4000000 in
theorem tX1_highestLevel_L5 {p : Program} {l : Launch} {e : Env} {s : State} {m : MethodId} {args : Array Value} {below : List Frame} {meth : Method} {c : Code} {D : va_G} {cI cZ : ClassId} {b0 : Nat} {tt : Nat → Nat} {A : Nat → Prop}  {p_a p_c p_d : Nat}  {p_th : Int32} {p_ki : Int32} {p_fe : Int32} {p_ca : Nat → Int32} {p_lo : Nat → Int32} {res : Int32} (C : Cx p s m args meth c cX1_highestLevel 3 (some .int) (cwX1_highestLevel :: GW) RX1) : ∀ (n : Nat) (v1 : Int32) (v2 : Int32) (H : Heap) (locs : List Loc) (ls : Array Slot), fX1_highestLevel_L5 p_th n v1 v2 = some res → Wd D cI cZ b0 tt A s [(p_a, .inr (1, [.int p_th, .int p_ki, .int p_fe, .ref p_c, .ref p_d])), (p_c, .inl (cI, 4, .inl p_ca)), (p_d, .inl (cI, 16, .inl p_lo))] H locs → lv_has ls 3 [(0, .ref p_a), (1, .int v1), (2, .int v2)] → W p l e (rmo 1 21) s m args below meth c H locs 0 0 (MQ below (QI D (fun _ : Unit => [(p_a, .inr (1, [.int p_th, .int p_ki, .int p_fe, .ref p_c, .ref p_d])), (p_c, .inl (cI, 4, .inl p_ca)), (p_d, .inl (cI, 16, .inl p_lo))]) A (res, ())) args s 0 0 A) (F0 m 5 ls []) := by
  obtain ⟨hx, hb, hr, hml, hown, hts, hlk⟩ := id C
  have hg : ∀ w ∈ GW, w.before args s = true := fun w h => hts w (List.mem_cons_of_mem _ h)
  intro n
  induction n with
  | zero =>
    intro _ _ H locs ls hf
    rw [fX1_highestLevel_L5] at hf
    cases hf
  | succ n ih =>
    intro v1 v2 H locs ls hf w hl
    rw [fX1_highestLevel_L5] at hf
    refine lv_iload_n hx hb dX1_highestLevel_5 rfl (lv_at hl 2 rfl) ?_
    refine lv_bipush (v := 16) hx hb dX1_highestLevel_6 (by decide) ?_
    refine lv_icmp_ge (tgt := 31) hx hb dX1_highestLevel_8 (by decide) (fun c1 => ?_) (fun c1 => ?_)
    · replace hf := ite_t c1 hf
      refine lv_iload_n hx hb dX1_highestLevel_31 rfl (lv_at hl 1 rfl) ?_
      exact k_iret (u := ()) hx hb hr hlk w rfl (k_ret1 hf) dX1_highestLevel_32
    · replace hf := ite_f c1 hf
      refine lv_aload_n hx hb dX1_highestLevel_11 rfl (lv_at hl 0 rfl) ?_
      refine lv_iload_n hx hb dX1_highestLevel_12 rfl (lv_at hl 2 rfl) ?_
      replace hf := ob_at hf
      obtain ⟨r2, er2, hf⟩ := hf
      refine k_goI0 w [0, 1, 2] rfl (va_runV (As := [.int v2]) (rest := []) ⟨hx, hb, hml, hown, hg⟩ (tX1_has l D cI cZ b0 tt p_a p_c p_d p_th p_ki p_fe p_ca p_lo v2 er2 H.size) (cwV 1 hg (gwV w_165 w_166 w_167 w_3 w_168) rfl rfl rfl ⟨rfl, qdX1_has⟩ ⟨Nat.le_of_ble_eq_true rfl, Nat.le_of_ble_eq_true rfl⟩) (k_preV w [0, 1, 2] (by decide) rfl (q0 := 0) rfl rfl) rfl rfl hl.1 rfl (lv_room (Nat.le_of_ble_eq_true rfl)) dX1_highestLevel_13 ⟨Nat.le_refl _, Nat.le_refl _⟩) (fun H locs w => ?_)
      refine lv_if_eq (tgt := 25) hx hb dX1_highestLevel_16 (by decide) (fun c3 => ?_) (fun c3 => ?_)
      · replace hf := ite_t c3 hf
        obtain ⟨z4, ez4⟩ : ∃ y : Int32, y = (v2 + 1) := ⟨_, rfl⟩
        replace hf := nm_at ez4 hf
        refine lv_iinc (v := z4) (lv' := [(2, .int z4), (0, .ref p_a), (1, .int v1)]) hx hb dX1_highestLevel_25 hl (k := 2) rfl (by rw [ez4]; rfl) (by decide) rfl (fun ls hl => ?_)
        refine lv_goto (tgt := 5) hx hb dX1_highestLevel_28 (by decide) ?_
        exact ih v1 z4 H locs ls hf w (lv_sub hl [1, 2, 0] rfl)
      · replace hf := ite_f c3 hf
        refine va_getsN hx hb (k_Z w w.2.2.2.2.2.2.2.1.2.2.2.1).1 w.2.2.1 hown (k_nf w 7 (q := ("CardHouse$Pile", 47, "CardHouse", "LEVEL_OF", "[I")) rfl) (fun _ h9 => h9) dX1_highestLevel_19 ?_
        refine lv_iload_n hx hb dX1_highestLevel_22 rfl (lv_at hl 2 rfl) ?_
        replace hf := gd_at hf
        obtain ⟨hi5, hf⟩ := hf
        refine va_ti hx hb (k_Z w w.2.2.2.2.2.2.2.1.2.2.2.1).2 w.2.2.1 hi5 (v := .int (sLV (Int32.toNatClampNeg v2))) rfl dX1_highestLevel_23 ?_
        refine lv_topi (fun z6 ez6 => ?_)
        replace hf := nm_at ez6 hf
        refine lv_istore_n (lv' := [(1, .int z6), (0, .ref p_a), (2, .int v2)]) hx hb dX1_highestLevel_24 rfl hl (by decide) rfl (fun ls hl => ?_)
        obtain ⟨z7, ez7⟩ : ∃ y : Int32, y = (v2 + 1) := ⟨_, rfl⟩
        replace hf := nm_at ez7 hf
        refine lv_iinc (v := z7) (lv' := [(2, .int z7), (1, .int z6), (0, .ref p_a)]) hx hb dX1_highestLevel_25 hl (k := 2) rfl (by rw [ez7]; rfl) (by decide) rfl (fun ls hl => ?_)
        refine lv_goto (tgt := 5) hx hb dX1_highestLevel_28 (by decide) ?_
        exact ih z6 z7 H locs ls hf w (lv_sub hl [2, 1, 0] rfl)
def fX1_highestLevel  (p_th : Int32) : Option (Int32) := fX1_highestLevel_L5 p_th FU (-9) 0
set_option maxRecDepth 100000 in
set_option maxHeartbeats 4000000 in
theorem tX1_highestLevel (l : Launch) (D : va_G) (cI cZ : ClassId) (b0 : Nat) (tt : Nat → Nat)  (p_a p_c p_d : Nat) (p_th : Int32) (p_ki : Int32) (p_fe : Int32) (p_ca : Nat → Int32) (p_lo : Nat → Int32)  {res : Int32} (hf : fX1_highestLevel p_th = some res) : CtI l yX1_highestLevel (cwX1_highestLevel :: GW) 1 21 D cI cZ b0 tt [.ref p_a] (fun _ : Unit => [(p_a, .inr (1, [.int p_th, .int p_ki, .int p_fe, .ref p_c, .ref p_d])), (p_c, .inl (cI, 4, .inl p_ca)), (p_d, .inl (cI, 16, .inl p_lo))]) () (res, ()) := by
  intro sz
  refine k_begin (cc := cX1_highestLevel) (maxL := 3) (ret := (some .int)) (by decide) rfl (Nat.le_of_ble_eq_true rfl) ?_
  intro p e s m below meth c ls C w hl
  generalize va_A _ sz = A at w ⊢
  have w : Wd D cI cZ b0 tt A s [(p_a, .inr (1, [.int p_th, .int p_ki, .int p_fe, .ref p_c, .ref p_d])), (p_c, .inl (cI, 4, .inl p_ca)), (p_d, .inl (cI, 16, .inl p_lo))] s.heap [] := w
  have hl : lv_has ls 3 [(0, .ref p_a)] := hl
  obtain ⟨H, eH⟩ : ∃ H, H = s.heap := ⟨_, rfl⟩
  rw [← eH] at w ⊢
  generalize ([] : List Loc) = locs at w ⊢
  generalize List.toArray _ = args at C ⊢
  obtain ⟨hx, hb, hr, hml, hown, hts, hlk⟩ := id C
  have hg : ∀ w ∈ GW, w.before args s = true := fun w h => hts w (List.mem_cons_of_mem _ h)
  unfold fX1_highestLevel at hf
  refine lv_bipush (v := (-9)) hx hb dX1_highestLevel_0 (by decide) ?_
  refine lv_istore_n (lv' := [(1, .int (-9)), (0, .ref p_a)]) hx hb dX1_highestLevel_2 rfl hl (by decide) rfl (fun ls hl => ?_)
  refine lv_iconst (v := 0) hx hb dX1_highestLevel_3 (by decide) ?_
  refine lv_istore_n (lv' := [(2, .int 0), (1, .int (-9)), (0, .ref p_a)]) hx hb dX1_highestLevel_4 rfl hl (by decide) rfl (fun ls hl => ?_)
  exact tX1_highestLevel_L5 (p_th := p_th) (p_ki := p_ki) (p_fe := p_fe) (p_ca := p_ca) (p_lo := p_lo) (C := C) FU (-9) 0 H locs ls hf w (lv_sub hl [2, 1, 0] rfl)
-- X4_isKind
def fX4_isKind  (a1 : Int32) : Option (Int32) := (if a1 < 0 then some 0 else (if 4 ≤ a1 then some 0 else some 1))
set_option maxRecDepth 100000 in
set_option maxHeartbeats 4000000 in
theorem tX4_isKind (l : Launch) (D : va_G) (cI cZ : ClassId) (b0 : Nat) (tt : Nat → Nat)    (a1 : Int32) {res : Int32} (hf : fX4_isKind a1 = some res) : CtI l yX4_isKind (cwX4_isKind :: GW) 0 0 D cI cZ b0 tt [.int a1] (fun _ : Unit => []) () (res, ()) := by
  intro sz
  refine k_begin (cc := cX4_isKind) (maxL := 1) (ret := (some .boolean)) (by decide) rfl (Nat.le_of_ble_eq_true rfl) ?_
  intro p e s m below meth c ls C w hl
  generalize va_A _ sz = A at w ⊢
  have w : Wd D cI cZ b0 tt A s [] s.heap [] := w
  have hl : lv_has ls 1 [(0, .int a1)] := hl
  obtain ⟨H, eH⟩ : ∃ H, H = s.heap := ⟨_, rfl⟩
  rw [← eH] at w ⊢
  generalize ([] : List Loc) = locs at w ⊢
  generalize List.toArray _ = args at C ⊢
  obtain ⟨hx, hb, hr, hml, hown, hts, hlk⟩ := id C
  have hg : ∀ w ∈ GW, w.before args s = true := fun w h => hts w (List.mem_cons_of_mem _ h)
  unfold fX4_isKind at hf
  refine lv_iload_n hx hb dX4_isKind_0 rfl (lv_at hl 0 rfl) ?_
  refine lv_if_lt (tgt := 13) hx hb dX4_isKind_1 (by decide) (fun c1 => ?_) (fun c1 => ?_)
  · replace hf := ite_t c1 hf
    refine lv_iconst (v := 0) hx hb dX4_isKind_13 (by decide) ?_
    exact k_zret (u := ()) hx hb hr hlk w rfl rfl (k_ret1 hf) dX4_isKind_14
  · replace hf := ite_f c1 hf
    refine lv_iload_n hx hb dX4_isKind_4 rfl (lv_at hl 0 rfl) ?_
    refine lv_iconst (v := 4) hx hb dX4_isKind_5 (by decide) ?_
    refine lv_icmp_ge (tgt := 13) hx hb dX4_isKind_6 (by decide) (fun c2 => ?_) (fun c2 => ?_)
    · replace hf := ite_t c2 hf
      refine lv_iconst (v := 0) hx hb dX4_isKind_13 (by decide) ?_
      exact k_zret (u := ()) hx hb hr hlk w rfl rfl (k_ret1 hf) dX4_isKind_14
    · replace hf := ite_f c2 hf
      refine lv_iconst (v := 1) hx hb dX4_isKind_9 (by decide) ?_
      refine lv_goto (tgt := 14) hx hb dX4_isKind_10 (by decide) ?_
      exact k_zret (u := ()) hx hb hr hlk w rfl rfl (k_ret1 hf) dX4_isKind_14
-- X1_cardsLeft
def fX1_cardsLeft_L20   (v1 : Int32) (p_th : Int32) (p_ki : Int32) (p_ca : Nat → Int32) : Nat → Int32 → Int32 → Option (Int32)
  | 0, _, _ => none
  | n + 1, v2, v3 => (if 16 ≤ v3 then some v2 else ob (fX1_has p_th v3) (fun r2 => (if r2 = 0 then nm (v3 + 1) (fun z4 => fX1_cardsLeft_L20 v1 p_th p_ki p_ca n v2 z4) else ob (fX1_kindOf p_ki v3) (fun r5 => (if r5 = v1 then ob (fX4_cardsOf v3) (fun r8 => nm (v2 - r8) (fun z9 => nm (v3 + 1) (fun z10 => fX1_cardsLeft_L20 v1 p_th p_ki p_ca n z9 z10))) else nm (v3 + 1) (fun z7 => fX1_cardsLeft_L20 v1 p_th p_ki p_ca n v2 z7))))))
set_option maxRecDepth 100000 in
set_option maxHeartbeats 4000000 in
theorem tX1_cardsLeft_L20 {p : Program} {l : Launch} {e : Env} {s : State} {m : MethodId} {args : Array Value} {below : List Frame} {meth : Method} {c : Code} {D : va_G} {cI cZ : ClassId} {b0 : Nat} {tt : Nat → Nat} {A : Nat → Prop}  {p_a p_c p_d : Nat}  {v1 : Int32} {p_th : Int32} {p_ki : Int32} {p_ca : Nat → Int32} {p_fe : Int32} {p_lo : Nat → Int32} {res : Int32} (C : Cx p s m args meth c cX1_cardsLeft 4 (some .int) (cwX1_cardsLeft :: GW) RX1) : ∀ (n : Nat) (v2 : Int32) (v3 : Int32) (H : Heap) (locs : List Loc) (ls : Array Slot), fX1_cardsLeft_L20 v1 p_th p_ki p_ca n v2 v3 = some res → Wd D cI cZ b0 tt A s [(p_a, .inr (1, [.int p_th, .int p_ki, .int p_fe, .ref p_c, .ref p_d])), (p_c, .inl (cI, 4, .inl p_ca)), (p_d, .inl (cI, 16, .inl p_lo))] H locs → lv_has ls 4 [(0, .ref p_a), (1, .int v1), (2, .int v2), (3, .int v3)] → W p l e (rmo 1 21) s m args below meth c H locs 0 0 (MQ below (QI D (fun _ : Unit => [(p_a, .inr (1, [.int p_th, .int p_ki, .int p_fe, .ref p_c, .ref p_d])), (p_c, .inl (cI, 4, .inl p_ca)), (p_d, .inl (cI, 16, .inl p_lo))]) A (res, ())) args s 0 0 A) (F0 m 20 ls []) := by
  obtain ⟨hx, hb, hr, hml, hown, hts, hlk⟩ := id C
  have hg : ∀ w ∈ GW, w.before args s = true := fun w h => hts w (List.mem_cons_of_mem _ h)
  intro n
  induction n with
  | zero =>
    intro _ _ H locs ls hf
    rw [fX1_cardsLeft_L20] at hf
    cases hf
  | succ n ih =>
    intro v2 v3 H locs ls hf w hl
    rw [fX1_cardsLeft_L20] at hf
    refine lv_iload_n hx hb dX1_cardsLeft_20 rfl (lv_at hl 3 rfl) ?_
    refine lv_bipush (v := 16) hx hb dX1_cardsLeft_21 (by decide) ?_
    refine lv_icmp_ge (tgt := 56) hx hb dX1_cardsLeft_23 (by decide) (fun c1 => ?_) (fun c1 => ?_)
    · replace hf := ite_t c1 hf
      refine lv_iload_n hx hb dX1_cardsLeft_56 rfl (lv_at hl 2 rfl) ?_
      exact k_iret (u := ()) hx hb hr hlk w rfl (k_ret1 hf) dX1_cardsLeft_57
    · replace hf := ite_f c1 hf
      refine lv_aload_n hx hb dX1_cardsLeft_26 rfl (lv_at hl 0 rfl) ?_
      refine lv_iload_n hx hb dX1_cardsLeft_27 rfl (lv_at hl 3 rfl) ?_
      replace hf := ob_at hf
      obtain ⟨r2, er2, hf⟩ := hf
      refine k_goI0 w [0, 1, 2] rfl (va_runV (As := [.int v3]) (rest := []) ⟨hx, hb, hml, hown, hg⟩ (tX1_has l D cI cZ b0 tt p_a p_c p_d p_th p_ki p_fe p_ca p_lo v3 er2 H.size) (cwV 1 hg (gwV w_165 w_166 w_167 w_3 w_168) rfl rfl rfl ⟨rfl, qdX1_has⟩ ⟨Nat.le_of_ble_eq_true rfl, Nat.le_of_ble_eq_true rfl⟩) (k_preV w [0, 1, 2] (by decide) rfl (q0 := 0) rfl rfl) rfl rfl hl.1 rfl (lv_room (Nat.le_of_ble_eq_true rfl)) dX1_cardsLeft_28 ⟨Nat.le_refl _, Nat.le_refl _⟩) (fun H locs w => ?_)
      refine lv_if_eq (tgt := 50) hx hb dX1_cardsLeft_31 (by decide) (fun c3 => ?_) (fun c3 => ?_)
      · replace hf := ite_t c3 hf
        obtain ⟨z4, ez4⟩ : ∃ y : Int32, y = (v3 + 1) := ⟨_, rfl⟩
        replace hf := nm_at ez4 hf
        refine lv_iinc (v := z4) (lv' := [(3, .int z4), (0, .ref p_a), (1, .int v1), (2, .int v2)]) hx hb dX1_cardsLeft_50 hl (k := 3) rfl (by rw [ez4]; rfl) (by decide) rfl (fun ls hl => ?_)
        refine lv_goto (tgt := 20) hx hb dX1_cardsLeft_53 (by decide) ?_
        exact ih v2 z4 H locs ls hf w (lv_sub hl [1, 2, 3, 0] rfl)
      · replace hf := ite_f c3 hf
        refine lv_aload_n hx hb dX1_cardsLeft_34 rfl (lv_at hl 0 rfl) ?_
        refine lv_iload_n hx hb dX1_cardsLeft_35 rfl (lv_at hl 3 rfl) ?_
        replace hf := ob_at hf
        obtain ⟨r5, er5, hf⟩ := hf
        refine k_goI0 w [0, 1, 2] rfl (va_runV (As := [.int v3]) (rest := []) ⟨hx, hb, hml, hown, hg⟩ (tX1_kindOf l D cI cZ b0 tt p_a p_c p_d p_th p_ki p_fe p_ca p_lo v3 er5 H.size) (cwV 1 hg (gwV w_169 w_170 w_171 w_3 w_172) rfl rfl rfl ⟨rfl, qdX1_kindOf⟩ ⟨Nat.le_of_ble_eq_true rfl, Nat.le_of_ble_eq_true rfl⟩) (k_preV w [0, 1, 2] (by decide) rfl (q0 := 0) rfl rfl) rfl rfl hl.1 rfl (lv_room (Nat.le_of_ble_eq_true rfl)) dX1_cardsLeft_36 ⟨Nat.le_refl _, Nat.le_refl _⟩) (fun H locs w => ?_)
        refine lv_iload_n hx hb dX1_cardsLeft_39 rfl (lv_at hl 1 rfl) ?_
        refine lv_icmp_ne (tgt := 50) hx hb dX1_cardsLeft_40 (by decide) (fun c6 => ?_) (fun c6 => ?_)
        · replace hf := ite_f c6 hf
          obtain ⟨z7, ez7⟩ : ∃ y : Int32, y = (v3 + 1) := ⟨_, rfl⟩
          replace hf := nm_at ez7 hf
          refine lv_iinc (v := z7) (lv' := [(3, .int z7), (0, .ref p_a), (1, .int v1), (2, .int v2)]) hx hb dX1_cardsLeft_50 hl (k := 3) rfl (by rw [ez7]; rfl) (by decide) rfl (fun ls hl => ?_)
          refine lv_goto (tgt := 20) hx hb dX1_cardsLeft_53 (by decide) ?_
          exact ih v2 z7 H locs ls hf w (lv_sub hl [1, 2, 3, 0] rfl)
        · replace hf := ite_t c6 hf
          refine lv_iload_n hx hb dX1_cardsLeft_43 rfl (lv_at hl 2 rfl) ?_
          refine lv_iload_n hx hb dX1_cardsLeft_44 rfl (lv_at hl 3 rfl) ?_
          replace hf := ob_at hf
          obtain ⟨r8, er8, hf⟩ := hf
          refine k_goI0 w [] rfl (va_runSN (As := [.int v3]) (rest := [.int v2]) ⟨hx, hb, hml, hown, hg⟩ (tX4_cardsOf l D cI cZ b0 tt v3 er8 H.size) ⟨va_cnB 1 hg (gwN w_174) rfl rfl rfl (k_nm w 5 (q := ("CardHouse$Pile", 34, yX4_cardsOf)) rfl) (hg _ w_1) qdX4_cardsOf ⟨Nat.le_of_ble_eq_true rfl, Nat.le_of_ble_eq_true rfl⟩, hg _ w_173, trivial⟩ (k_preS w [] (by decide) rfl) rfl rfl hl.1 rfl (lv_room (Nat.le_of_ble_eq_true rfl)) dX1_cardsLeft_45 ⟨Nat.le_refl _, Nat.le_refl _⟩) (fun H locs w => ?_)
          refine lv_isub hx hb dX1_cardsLeft_48 ?_
          refine lv_topi (fun z9 ez9 => ?_)
          replace hf := nm_at ez9 hf
          refine lv_istore_n (lv' := [(2, .int z9), (0, .ref p_a), (1, .int v1), (3, .int v3)]) hx hb dX1_cardsLeft_49 rfl hl (by decide) rfl (fun ls hl => ?_)
          obtain ⟨z10, ez10⟩ : ∃ y : Int32, y = (v3 + 1) := ⟨_, rfl⟩
          replace hf := nm_at ez10 hf
          refine lv_iinc (v := z10) (lv' := [(3, .int z10), (2, .int z9), (0, .ref p_a), (1, .int v1)]) hx hb dX1_cardsLeft_50 hl (k := 3) rfl (by rw [ez10]; rfl) (by decide) rfl (fun ls hl => ?_)
          refine lv_goto (tgt := 20) hx hb dX1_cardsLeft_53 (by decide) ?_
          exact ih z9 z10 H locs ls hf w (lv_sub hl [2, 3, 1, 0] rfl)
def fX1_cardsLeft  (p_th : Int32) (p_ki : Int32) (p_ca : Nat → Int32) (a1 : Int32) : Option (Int32) := ob (fX4_isKind a1) (fun r11 => (if r11 = 0 then fX1_cardsLeft_L20 a1 p_th p_ki p_ca FU 0 0 else gd a1 4 (nm (p_ca (Int32.toNatClampNeg a1)) (fun z14 => fX1_cardsLeft_L20 a1 p_th p_ki p_ca FU z14 0))))
set_option maxRecDepth 100000 in
set_option maxHeartbeats 4000000 in
theorem tX1_cardsLeft (l : Launch) (D : va_G) (cI cZ : ClassId) (b0 : Nat) (tt : Nat → Nat)  (p_a p_c p_d : Nat) (p_th : Int32) (p_ki : Int32) (p_fe : Int32) (p_ca : Nat → Int32) (p_lo : Nat → Int32) (a1 : Int32) {res : Int32} (hf : fX1_cardsLeft p_th p_ki p_ca a1 = some res) : CtI l yX1_cardsLeft (cwX1_cardsLeft :: GW) 1 21 D cI cZ b0 tt [.ref p_a, .int a1] (fun _ : Unit => [(p_a, .inr (1, [.int p_th, .int p_ki, .int p_fe, .ref p_c, .ref p_d])), (p_c, .inl (cI, 4, .inl p_ca)), (p_d, .inl (cI, 16, .inl p_lo))]) () (res, ()) := by
  intro sz
  refine k_begin (cc := cX1_cardsLeft) (maxL := 4) (ret := (some .int)) (by decide) rfl (Nat.le_of_ble_eq_true rfl) ?_
  intro p e s m below meth c ls C w hl
  generalize va_A _ sz = A at w ⊢
  have w : Wd D cI cZ b0 tt A s [(p_a, .inr (1, [.int p_th, .int p_ki, .int p_fe, .ref p_c, .ref p_d])), (p_c, .inl (cI, 4, .inl p_ca)), (p_d, .inl (cI, 16, .inl p_lo))] s.heap [] := w
  have hl : lv_has ls 4 [(0, .ref p_a), (1, .int a1)] := hl
  obtain ⟨H, eH⟩ : ∃ H, H = s.heap := ⟨_, rfl⟩
  rw [← eH] at w ⊢
  generalize ([] : List Loc) = locs at w ⊢
  generalize List.toArray _ = args at C ⊢
  obtain ⟨hx, hb, hr, hml, hown, hts, hlk⟩ := id C
  have hg : ∀ w ∈ GW, w.before args s = true := fun w h => hts w (List.mem_cons_of_mem _ h)
  unfold fX1_cardsLeft at hf
  refine lv_iload_n hx hb dX1_cardsLeft_0 rfl (lv_at hl 1 rfl) ?_
  replace hf := ob_at hf
  obtain ⟨r11, er11, hf⟩ := hf
  refine k_goI0 w [] rfl (va_runSN (As := [.int a1]) (rest := []) ⟨hx, hb, hml, hown, hg⟩ (tX4_isKind l D cI cZ b0 tt a1 er11 H.size) ⟨va_cnB 1 hg (gwN w_153) rfl rfl rfl (k_nm w 7 (q := ("CardHouse$Pile", 50, yX4_isKind)) rfl) (hg _ w_1) qdX4_isKind ⟨Nat.le_of_ble_eq_true rfl, Nat.le_of_ble_eq_true rfl⟩, hg _ w_152, trivial⟩ (k_preS w [] (by decide) rfl) rfl rfl hl.1 rfl (lv_room (Nat.le_of_ble_eq_true rfl)) dX1_cardsLeft_1 ⟨Nat.le_refl _, Nat.le_refl _⟩) (fun H locs w => ?_)
  refine lv_if_eq (tgt := 16) hx hb dX1_cardsLeft_4 (by decide) (fun c12 => ?_) (fun c12 => ?_)
  · replace hf := ite_t c12 hf
    refine lv_iconst (v := 0) hx hb dX1_cardsLeft_16 (by decide) ?_
    refine lv_istore_n (lv' := [(2, .int 0), (0, .ref p_a), (1, .int a1)]) hx hb dX1_cardsLeft_17 rfl hl (by decide) rfl (fun ls hl => ?_)
    refine lv_iconst (v := 0) hx hb dX1_cardsLeft_18 (by decide) ?_
    refine lv_istore_n (lv' := [(3, .int 0), (2, .int 0), (0, .ref p_a), (1, .int a1)]) hx hb dX1_cardsLeft_19 rfl hl (by decide) rfl (fun ls hl => ?_)
    exact tX1_cardsLeft_L20 (v1 := a1) (p_th := p_th) (p_ki := p_ki) (p_ca := p_ca) (p_fe := p_fe) (p_lo := p_lo) (C := C) FU 0 0 H locs ls hf w (lv_sub hl [2, 3, 1, 0] rfl)
  · replace hf := ite_f c12 hf
    refine lv_aload_n hx hb dX1_cardsLeft_7 rfl (lv_at hl 0 rfl) ?_
    refine va_get (D := D) (ci := 1) (v := .ref p_c) (C := RX1) (T := TX1) (N := 5) hx hb hg iX1 hown w.2.2.2.2.2.2.1 w.1 0 rfl rfl 3 (by decide) (hg _ w_38) (fun _ h9 => h9) rfl dX1_cardsLeft_8 ?_
    refine lv_iload_n hx hb dX1_cardsLeft_11 rfl (lv_at hl 1 rfl) ?_
    replace hf := gd_at hf
    obtain ⟨hi13, hf⟩ := hf
    refine va_iald hx hb w.2.2.2.2.2.2.1 w.1 1 0 rfl rfl hi13 dX1_cardsLeft_12 ?_
    refine lv_goto (tgt := 17) hx hb dX1_cardsLeft_13 (by decide) ?_
    refine lv_topi (fun z14 ez14 => ?_)
    replace hf := nm_at ez14 hf
    refine lv_istore_n (lv' := [(2, .int z14), (0, .ref p_a), (1, .int a1)]) hx hb dX1_cardsLeft_17 rfl hl (by decide) rfl (fun ls hl => ?_)
    refine lv_iconst (v := 0) hx hb dX1_cardsLeft_18 (by decide) ?_
    refine lv_istore_n (lv' := [(3, .int 0), (2, .int z14), (0, .ref p_a), (1, .int a1)]) hx hb dX1_cardsLeft_19 rfl hl (by decide) rfl (fun ls hl => ?_)
    exact tX1_cardsLeft_L20 (v1 := a1) (p_th := p_th) (p_ki := p_ki) (p_ca := p_ca) (p_fe := p_fe) (p_lo := p_lo) (C := C) FU z14 0 H locs ls hf w (lv_sub hl [2, 3, 1, 0] rfl)
-- X1_mostCardsLeft
def fX1_mostCardsLeft_L4   (p_th : Int32) (p_ki : Int32) (p_ca : Nat → Int32) : Nat → Int32 → Int32 → Option (Int32)
  | 0, _, _ => none
  | n + 1, v1, v2 => (if 4 ≤ v2 then some v1 else ob (fX1_cardsLeft p_th p_ki p_ca v2) (fun r2 => nm (if v1 < r2 then r2 else v1) (fun z3 => nm (v2 + 1) (fun z4 => fX1_mostCardsLeft_L4 p_th p_ki p_ca n z3 z4))))
set_option maxRecDepth 100000 in
set_option maxHeartbeats 4000000 in
theorem tX1_mostCardsLeft_L4 {p : Program} {l : Launch} {e : Env} {s : State} {m : MethodId} {args : Array Value} {below : List Frame} {meth : Method} {c : Code} {D : va_G} {cI cZ : ClassId} {b0 : Nat} {tt : Nat → Nat} {A : Nat → Prop}  {p_a p_c p_d : Nat}  {p_th : Int32} {p_ki : Int32} {p_ca : Nat → Int32} {p_fe : Int32} {p_lo : Nat → Int32} {res : Int32} (C : Cx p s m args meth c cX1_mostCardsLeft 3 (some .int) (cwX1_mostCardsLeft :: GW) RX1) : ∀ (n : Nat) (v1 : Int32) (v2 : Int32) (H : Heap) (locs : List Loc) (ls : Array Slot), fX1_mostCardsLeft_L4 p_th p_ki p_ca n v1 v2 = some res → Wd D cI cZ b0 tt A s [(p_a, .inr (1, [.int p_th, .int p_ki, .int p_fe, .ref p_c, .ref p_d])), (p_c, .inl (cI, 4, .inl p_ca)), (p_d, .inl (cI, 16, .inl p_lo))] H locs → lv_has ls 3 [(0, .ref p_a), (1, .int v1), (2, .int v2)] → W p l e (rmo 2 44) s m args below meth c H locs 0 0 (MQ below (QI D (fun _ : Unit => [(p_a, .inr (1, [.int p_th, .int p_ki, .int p_fe, .ref p_c, .ref p_d])), (p_c, .inl (cI, 4, .inl p_ca)), (p_d, .inl (cI, 16, .inl p_lo))]) A (res, ())) args s 0 0 A) (F0 m 4 ls []) := by
  obtain ⟨hx, hb, hr, hml, hown, hts, hlk⟩ := id C
  have hg : ∀ w ∈ GW, w.before args s = true := fun w h => hts w (List.mem_cons_of_mem _ h)
  intro n
  induction n with
  | zero =>
    intro _ _ H locs ls hf
    rw [fX1_mostCardsLeft_L4] at hf
    cases hf
  | succ n ih =>
    intro v1 v2 H locs ls hf w hl
    rw [fX1_mostCardsLeft_L4] at hf
    refine lv_iload_n hx hb dX1_mostCardsLeft_4 rfl (lv_at hl 2 rfl) ?_
    refine lv_iconst (v := 4) hx hb dX1_mostCardsLeft_5 (by decide) ?_
    refine lv_icmp_ge (tgt := 25) hx hb dX1_mostCardsLeft_6 (by decide) (fun c1 => ?_) (fun c1 => ?_)
    · replace hf := ite_t c1 hf
      refine lv_iload_n hx hb dX1_mostCardsLeft_25 rfl (lv_at hl 1 rfl) ?_
      exact k_iret (u := ()) hx hb hr hlk w rfl (k_ret1 hf) dX1_mostCardsLeft_26
    · replace hf := ite_f c1 hf
      refine lv_iload_n hx hb dX1_mostCardsLeft_9 rfl (lv_at hl 1 rfl) ?_
      refine lv_aload_n hx hb dX1_mostCardsLeft_10 rfl (lv_at hl 0 rfl) ?_
      refine lv_iload_n hx hb dX1_mostCardsLeft_11 rfl (lv_at hl 2 rfl) ?_
      replace hf := ob_at hf
      obtain ⟨r2, er2, hf⟩ := hf
      refine k_goI0 w [0, 1, 2] rfl (va_runV (As := [.int v2]) (rest := [.int v1]) ⟨hx, hb, hml, hown, hg⟩ (tX1_cardsLeft l D cI cZ b0 tt p_a p_c p_d p_th p_ki p_fe p_ca p_lo v2 er2 H.size) (cwV 1 hg (gwV w_161 w_162 w_163 w_3 w_164) rfl rfl rfl ⟨rfl, qdX1_cardsLeft⟩ ⟨Nat.le_of_ble_eq_true rfl, Nat.le_of_ble_eq_true rfl⟩) (k_preV w [0, 1, 2] (by decide) rfl (q0 := 0) rfl rfl) rfl rfl hl.1 rfl (lv_room (Nat.le_of_ble_eq_true rfl)) dX1_mostCardsLeft_12 ⟨Nat.le_refl _, Nat.le_refl _⟩) (fun H locs w => ?_)
      refine va_mmax hx hb (hml.trans hl.1.symm) hown (hg _ w_176) (hg _ w_58) (hg _ w_5) (hg _ w_59) (Nat.le_of_ble_eq_true rfl) (Nat.le_of_ble_eq_true rfl) (Nat.le_refl _) (Nat.le_refl _) dX1_mostCardsLeft_15 ?_
      refine lv_topi (fun z3 ez3 => ?_)
      replace hf := nm_at ez3 hf
      refine lv_istore_n (lv' := [(1, .int z3), (0, .ref p_a), (2, .int v2)]) hx hb dX1_mostCardsLeft_18 rfl hl (by decide) rfl (fun ls hl => ?_)
      obtain ⟨z4, ez4⟩ : ∃ y : Int32, y = (v2 + 1) := ⟨_, rfl⟩
      replace hf := nm_at ez4 hf
      refine lv_iinc (v := z4) (lv' := [(2, .int z4), (1, .int z3), (0, .ref p_a)]) hx hb dX1_mostCardsLeft_19 hl (k := 2) rfl (by rw [ez4]; rfl) (by decide) rfl (fun ls hl => ?_)
      refine lv_goto (tgt := 4) hx hb dX1_mostCardsLeft_22 (by decide) ?_
      exact ih z3 z4 H locs ls hf w (lv_sub hl [2, 1, 0] rfl)
def fX1_mostCardsLeft  (p_th : Int32) (p_ki : Int32) (p_ca : Nat → Int32) : Option (Int32) := fX1_mostCardsLeft_L4 p_th p_ki p_ca FU 0 0
set_option maxRecDepth 100000 in
set_option maxHeartbeats 4000000 in
theorem tX1_mostCardsLeft (l : Launch) (D : va_G) (cI cZ : ClassId) (b0 : Nat) (tt : Nat → Nat)  (p_a p_c p_d : Nat) (p_th : Int32) (p_ki : Int32) (p_fe : Int32) (p_ca : Nat → Int32) (p_lo : Nat → Int32)  {res : Int32} (hf : fX1_mostCardsLeft p_th p_ki p_ca = some res) : CtI l yX1_mostCardsLeft (cwX1_mostCardsLeft :: GW) 2 44 D cI cZ b0 tt [.ref p_a] (fun _ : Unit => [(p_a, .inr (1, [.int p_th, .int p_ki, .int p_fe, .ref p_c, .ref p_d])), (p_c, .inl (cI, 4, .inl p_ca)), (p_d, .inl (cI, 16, .inl p_lo))]) () (res, ()) := by
  intro sz
  refine k_begin (cc := cX1_mostCardsLeft) (maxL := 3) (ret := (some .int)) (by decide) rfl (Nat.le_of_ble_eq_true rfl) ?_
  intro p e s m below meth c ls C w hl
  generalize va_A _ sz = A at w ⊢
  have w : Wd D cI cZ b0 tt A s [(p_a, .inr (1, [.int p_th, .int p_ki, .int p_fe, .ref p_c, .ref p_d])), (p_c, .inl (cI, 4, .inl p_ca)), (p_d, .inl (cI, 16, .inl p_lo))] s.heap [] := w
  have hl : lv_has ls 3 [(0, .ref p_a)] := hl
  obtain ⟨H, eH⟩ : ∃ H, H = s.heap := ⟨_, rfl⟩
  rw [← eH] at w ⊢
  generalize ([] : List Loc) = locs at w ⊢
  generalize List.toArray _ = args at C ⊢
  obtain ⟨hx, hb, hr, hml, hown, hts, hlk⟩ := id C
  have hg : ∀ w ∈ GW, w.before args s = true := fun w h => hts w (List.mem_cons_of_mem _ h)
  unfold fX1_mostCardsLeft at hf
  refine lv_iconst (v := 0) hx hb dX1_mostCardsLeft_0 (by decide) ?_
  refine lv_istore_n (lv' := [(1, .int 0), (0, .ref p_a)]) hx hb dX1_mostCardsLeft_1 rfl hl (by decide) rfl (fun ls hl => ?_)
  refine lv_iconst (v := 0) hx hb dX1_mostCardsLeft_2 (by decide) ?_
  refine lv_istore_n (lv' := [(2, .int 0), (1, .int 0), (0, .ref p_a)]) hx hb dX1_mostCardsLeft_3 rfl hl (by decide) rfl (fun ls hl => ?_)
  exact tX1_mostCardsLeft_L4 (p_th := p_th) (p_ki := p_ki) (p_ca := p_ca) (p_fe := p_fe) (p_lo := p_lo) (C := C) FU 0 0 H locs ls hf w (lv_sub hl [2, 1, 0] rfl)
-- X4_isPiece
def fX4_isPiece  (a1 : Int32) : Option (Int32) := (if a1 < 0 then some 0 else (if 16 ≤ a1 then some 0 else some 1))
set_option maxRecDepth 100000 in
set_option maxHeartbeats 4000000 in
theorem tX4_isPiece (l : Launch) (D : va_G) (cI cZ : ClassId) (b0 : Nat) (tt : Nat → Nat)    (a1 : Int32) {res : Int32} (hf : fX4_isPiece a1 = some res) : CtI l yX4_isPiece (cwX4_isPiece :: GW) 0 0 D cI cZ b0 tt [.int a1] (fun _ : Unit => []) () (res, ()) := by
  intro sz
  refine k_begin (cc := cX4_isPiece) (maxL := 1) (ret := (some .boolean)) (by decide) rfl (Nat.le_of_ble_eq_true rfl) ?_
  intro p e s m below meth c ls C w hl
  generalize va_A _ sz = A at w ⊢
  have w : Wd D cI cZ b0 tt A s [] s.heap [] := w
  have hl : lv_has ls 1 [(0, .int a1)] := hl
  obtain ⟨H, eH⟩ : ∃ H, H = s.heap := ⟨_, rfl⟩
  rw [← eH] at w ⊢
  generalize ([] : List Loc) = locs at w ⊢
  generalize List.toArray _ = args at C ⊢
  obtain ⟨hx, hb, hr, hml, hown, hts, hlk⟩ := id C
  have hg : ∀ w ∈ GW, w.before args s = true := fun w h => hts w (List.mem_cons_of_mem _ h)
  unfold fX4_isPiece at hf
  refine lv_iload_n hx hb dX4_isPiece_0 rfl (lv_at hl 0 rfl) ?_
  refine lv_if_lt (tgt := 14) hx hb dX4_isPiece_1 (by decide) (fun c1 => ?_) (fun c1 => ?_)
  · replace hf := ite_t c1 hf
    refine lv_iconst (v := 0) hx hb dX4_isPiece_14 (by decide) ?_
    exact k_zret (u := ()) hx hb hr hlk w rfl rfl (k_ret1 hf) dX4_isPiece_15
  · replace hf := ite_f c1 hf
    refine lv_iload_n hx hb dX4_isPiece_4 rfl (lv_at hl 0 rfl) ?_
    refine lv_bipush (v := 16) hx hb dX4_isPiece_5 (by decide) ?_
    refine lv_icmp_ge (tgt := 14) hx hb dX4_isPiece_7 (by decide) (fun c2 => ?_) (fun c2 => ?_)
    · replace hf := ite_t c2 hf
      refine lv_iconst (v := 0) hx hb dX4_isPiece_14 (by decide) ?_
      exact k_zret (u := ()) hx hb hr hlk w rfl rfl (k_ret1 hf) dX4_isPiece_15
    · replace hf := ite_f c2 hf
      refine lv_iconst (v := 1) hx hb dX4_isPiece_10 (by decide) ?_
      refine lv_goto (tgt := 15) hx hb dX4_isPiece_11 (by decide) ?_
      exact k_zret (u := ()) hx hb hr hlk w rfl rfl (k_ret1 hf) dX4_isPiece_15
