-- X5_rests
def fX5_rests_L221  (kk208 : Int32 → Int32 → Int32 → Option (Int32 × Int32 × Int32 × Int32 × (Nat → Int32) × (Nat → Int32) × (Nat → Int32))) (v1 : Int32) (v2 : Int32) (v3 : Int32) (v4 : Int32) (m_thrown : Int32) (m_restMany : Int32) (m_restFirst : Int32) (m_cards : Nat → Int32) (m_page : Nat → Int32) (m_trial : Nat → Int32) (m_loads : Nat → Int32) (m_gains : Nat → Int32) : Nat → Int32 → Int32 → Option (Int32 × Int32 × Int32 × Int32 × (Nat → Int32) × (Nat → Int32) × (Nat → Int32))
  | 0, _, _ => none
  | n + 1, v5, v6 => (if 5 ≤ v6 then (if v5 = 0 then (if v5 = 0 then nm (m_restMany + (0 : Int32)) (fun z4 => nm (v4 + 1) (fun z5 => kk208 z5 z4 m_restFirst)) else nm (m_restMany + (1 : Int32)) (fun z6 => nm (v4 + 1) (fun z7 => kk208 z7 z6 m_restFirst))) else (if m_restMany = 0 then nm (((10 : Int32) * (v4 / (5 : Int32))) + (v4 - v4 / (5 : Int32) * (5 : Int32))) (fun z14 => (if v5 = 0 then nm (m_restMany + (0 : Int32)) (fun z16 => nm (v4 + 1) (fun z17 => kk208 z17 z16 z14)) else nm (m_restMany + (1 : Int32)) (fun z18 => nm (v4 + 1) (fun z19 => kk208 z19 z18 z14)))) else (if v5 = 0 then nm (m_restMany + (0 : Int32)) (fun z10 => nm (v4 + 1) (fun z11 => kk208 z11 z10 m_restFirst)) else nm (m_restMany + (1 : Int32)) (fun z12 => nm (v4 + 1) (fun z13 => kk208 z13 z12 m_restFirst))))) else (if v5 = 0 then nm (v6 + 1) (fun z21 => fX5_rests_L221 kk208 v1 v2 v3 v4 m_thrown m_restMany m_restFirst m_cards m_page m_trial m_loads m_gains n 0 z21) else gd ((2 : Int32) * (((5 : Int32) * v6) + (v4 - v4 / (5 : Int32) * (5 : Int32)))) 50 (gd ((2 : Int32) * v4) 50 ((if (m_gains (Int32.toNatClampNeg ((2 : Int32) * v4))) < (m_gains (Int32.toNatClampNeg ((2 : Int32) * (((5 : Int32) * v6) + (v4 - v4 / (5 : Int32) * (5 : Int32)))))) then nm (v6 + 1) (fun z25 => fX5_rests_L221 kk208 v1 v2 v3 v4 m_thrown m_restMany m_restFirst m_cards m_page m_trial m_loads m_gains n 0 z25) else gd (((2 : Int32) * ((v4 - (v4 - v4 / (5 : Int32) * (5 : Int32))) + v6)) + (1 : Int32)) 50 (gd (((2 : Int32) * v4) + (1 : Int32)) 50 ((if (m_gains (Int32.toNatClampNeg (((2 : Int32) * v4) + (1 : Int32)))) < (m_gains (Int32.toNatClampNeg (((2 : Int32) * ((v4 - (v4 - v4 / (5 : Int32) * (5 : Int32))) + v6)) + (1 : Int32)))) then nm (v6 + 1) (fun z29 => fX5_rests_L221 kk208 v1 v2 v3 v4 m_thrown m_restMany m_restFirst m_cards m_page m_trial m_loads m_gains n 0 z29) else nm (v6 + 1) (fun z30 => fX5_rests_L221 kk208 v1 v2 v3 v4 m_thrown m_restMany m_restFirst m_cards m_page m_trial m_loads m_gains n 1 z30)))))))))
set_option maxRecDepth 100000 in
set_option maxHeartbeats 4000000 in
theorem tX5_rests_L221 {p : Program} {l : Launch} {e : Env} {s : State} {m : MethodId} {args : Array Value} {below : List Frame} {meth : Method} {c : Code} {D : va_G} {cI cZ : ClassId} {b0 : Nat} {tt : Nat → Nat} {A : Nat → Prop}  {m_a q_text q_cards q_readCards q_readPage q_page q_trial q_loads q_book q_kept q_isKept q_heldWho q_heldForce q_heldLoad q_heldIs q_gains q_value : Nat} {kk208 : Int32 → Int32 → Int32 → Option (Int32 × Int32 × Int32 × Int32 × (Nat → Int32) × (Nat → Int32) × (Nat → Int32))} {v1 : Int32} {v2 : Int32} {v3 : Int32} {v4 : Int32} {m_thrown : Int32} {m_restMany : Int32} {m_restFirst : Int32} {m_cards : Nat → Int32} {m_page : Nat → Int32} {m_trial : Nat → Int32} {m_loads : Nat → Int32} {m_gains : Nat → Int32} {m_textSize : Int32} {m_place : Int32} {m_acts : Int32} {m_held : Int32} {m_seed : Int64} {m_tentMany : Int32} {m_tentFirst : Int32} {m_text : Nat → Int32} {m_readCards : Nat → Int32} {m_readPage : Nat → Int32} {m_book : Nat → Int32} {m_kept : Nat → Int32} {m_isKept : Nat → Int32} {m_heldWho : Nat → Int32} {m_heldForce : Nat → Int32} {m_heldLoad : Nat → Int32} {m_heldIs : Nat → Int32} {m_value : Nat → Int32} {res : Int32 × Int32 × Int32 × Int32 × (Nat → Int32) × (Nat → Int32) × (Nat → Int32)} (C : Cx p s m args meth c cX5_rests 7 (some .int) (cwX5_rests :: GW) RX5) (hK208 : ∀ (v4 : Int32) (m_restMany : Int32) (m_restFirst : Int32) (H : Heap) (locs : List Loc) (ls : Array Slot), kk208 v4 m_restMany m_restFirst = some res → Wd D cI cZ b0 tt A s [(m_a, .inr (5, [.int m_thrown, .ref q_text, .int m_textSize, .int m_place, .ref q_cards, .ref q_readCards, .ref q_readPage, .ref q_page, .ref q_trial, .ref q_loads, .ref q_book, .int m_acts, .ref q_kept, .ref q_isKept, .int m_held, .ref q_heldWho, .ref q_heldForce, .ref q_heldLoad, .ref q_heldIs, .long m_seed, .int m_tentMany, .int m_tentFirst, .int m_restMany, .int m_restFirst, .ref q_gains, .ref q_value])), (q_text, .inl (cI, 56, .inl m_text)), (q_cards, .inl (cI, 4, .inl m_cards)), (q_readCards, .inl (cI, 4, .inl m_readCards)), (q_readPage, .inl (cI, 17, .inl m_readPage)), (q_page, .inl (cI, 17, .inl m_page)), (q_trial, .inl (cI, 17, .inl m_trial)), (q_loads, .inl (cI, 16, .inl m_loads)), (q_book, .inl (cI, 238, .inl m_book)), (q_kept, .inl (cI, 34, .inl m_kept)), (q_isKept, .inl (cZ, 2, .inl m_isKept)), (q_heldWho, .inl (cI, 6, .inl m_heldWho)), (q_heldForce, .inl (cI, 6, .inl m_heldForce)), (q_heldLoad, .inl (cI, 6, .inl m_heldLoad)), (q_heldIs, .inl (cI, 6, .inl m_heldIs)), (q_gains, .inl (cI, 50, .inl m_gains)), (q_value, .inl (cI, 16, .inl m_value))] H locs → lv_has ls 7 [(0, .ref m_a), (1, .int v1), (2, .int v2), (3, .int v3), (4, .int v4)] → W p l e (rmo 8 178) s m args below meth c H locs 0 0 (MQ below (QI D (fun u : Int32 × Int32 × Int32 × (Nat → Int32) × (Nat → Int32) × (Nat → Int32) => [(m_a, .inr (5, [.int u.1, .ref q_text, .int m_textSize, .int m_place, .ref q_cards, .ref q_readCards, .ref q_readPage, .ref q_page, .ref q_trial, .ref q_loads, .ref q_book, .int m_acts, .ref q_kept, .ref q_isKept, .int m_held, .ref q_heldWho, .ref q_heldForce, .ref q_heldLoad, .ref q_heldIs, .long m_seed, .int m_tentMany, .int m_tentFirst, .int u.2.1, .int u.2.2.1, .ref q_gains, .ref q_value])), (q_text, .inl (cI, 56, .inl m_text)), (q_cards, .inl (cI, 4, .inl m_cards)), (q_readCards, .inl (cI, 4, .inl m_readCards)), (q_readPage, .inl (cI, 17, .inl m_readPage)), (q_page, .inl (cI, 17, .inl m_page)), (q_trial, .inl (cI, 17, .inl u.2.2.2.1)), (q_loads, .inl (cI, 16, .inl u.2.2.2.2.1)), (q_book, .inl (cI, 238, .inl m_book)), (q_kept, .inl (cI, 34, .inl m_kept)), (q_isKept, .inl (cZ, 2, .inl m_isKept)), (q_heldWho, .inl (cI, 6, .inl m_heldWho)), (q_heldForce, .inl (cI, 6, .inl m_heldForce)), (q_heldLoad, .inl (cI, 6, .inl m_heldLoad)), (q_heldIs, .inl (cI, 6, .inl m_heldIs)), (q_gains, .inl (cI, 50, .inl u.2.2.2.2.2)), (q_value, .inl (cI, 16, .inl m_value))]) A res) args s 0 0 A) (F0 m 208 ls [])) : ∀ (n : Nat) (v5 : Int32) (v6 : Int32) (H : Heap) (locs : List Loc) (ls : Array Slot), fX5_rests_L221 kk208 v1 v2 v3 v4 m_thrown m_restMany m_restFirst m_cards m_page m_trial m_loads m_gains n v5 v6 = some res → Wd D cI cZ b0 tt A s [(m_a, .inr (5, [.int m_thrown, .ref q_text, .int m_textSize, .int m_place, .ref q_cards, .ref q_readCards, .ref q_readPage, .ref q_page, .ref q_trial, .ref q_loads, .ref q_book, .int m_acts, .ref q_kept, .ref q_isKept, .int m_held, .ref q_heldWho, .ref q_heldForce, .ref q_heldLoad, .ref q_heldIs, .long m_seed, .int m_tentMany, .int m_tentFirst, .int m_restMany, .int m_restFirst, .ref q_gains, .ref q_value])), (q_text, .inl (cI, 56, .inl m_text)), (q_cards, .inl (cI, 4, .inl m_cards)), (q_readCards, .inl (cI, 4, .inl m_readCards)), (q_readPage, .inl (cI, 17, .inl m_readPage)), (q_page, .inl (cI, 17, .inl m_page)), (q_trial, .inl (cI, 17, .inl m_trial)), (q_loads, .inl (cI, 16, .inl m_loads)), (q_book, .inl (cI, 238, .inl m_book)), (q_kept, .inl (cI, 34, .inl m_kept)), (q_isKept, .inl (cZ, 2, .inl m_isKept)), (q_heldWho, .inl (cI, 6, .inl m_heldWho)), (q_heldForce, .inl (cI, 6, .inl m_heldForce)), (q_heldLoad, .inl (cI, 6, .inl m_heldLoad)), (q_heldIs, .inl (cI, 6, .inl m_heldIs)), (q_gains, .inl (cI, 50, .inl m_gains)), (q_value, .inl (cI, 16, .inl m_value))] H locs → lv_has ls 7 [(0, .ref m_a), (1, .int v1), (2, .int v2), (3, .int v3), (4, .int v4), (5, .int v5), (6, .int v6)] → W p l e (rmo 8 178) s m args below meth c H locs 0 0 (MQ below (QI D (fun u : Int32 × Int32 × Int32 × (Nat → Int32) × (Nat → Int32) × (Nat → Int32) => [(m_a, .inr (5, [.int u.1, .ref q_text, .int m_textSize, .int m_place, .ref q_cards, .ref q_readCards, .ref q_readPage, .ref q_page, .ref q_trial, .ref q_loads, .ref q_book, .int m_acts, .ref q_kept, .ref q_isKept, .int m_held, .ref q_heldWho, .ref q_heldForce, .ref q_heldLoad, .ref q_heldIs, .long m_seed, .int m_tentMany, .int m_tentFirst, .int u.2.1, .int u.2.2.1, .ref q_gains, .ref q_value])), (q_text, .inl (cI, 56, .inl m_text)), (q_cards, .inl (cI, 4, .inl m_cards)), (q_readCards, .inl (cI, 4, .inl m_readCards)), (q_readPage, .inl (cI, 17, .inl m_readPage)), (q_page, .inl (cI, 17, .inl m_page)), (q_trial, .inl (cI, 17, .inl u.2.2.2.1)), (q_loads, .inl (cI, 16, .inl u.2.2.2.2.1)), (q_book, .inl (cI, 238, .inl m_book)), (q_kept, .inl (cI, 34, .inl m_kept)), (q_isKept, .inl (cZ, 2, .inl m_isKept)), (q_heldWho, .inl (cI, 6, .inl m_heldWho)), (q_heldForce, .inl (cI, 6, .inl m_heldForce)), (q_heldLoad, .inl (cI, 6, .inl m_heldLoad)), (q_heldIs, .inl (cI, 6, .inl m_heldIs)), (q_gains, .inl (cI, 50, .inl u.2.2.2.2.2)), (q_value, .inl (cI, 16, .inl m_value))]) A res) args s 0 0 A) (F0 m 221 ls []) := by
  obtain ⟨hx, hb, hr, hml, hown, hts, hlk⟩ := id C
  have hg : ∀ w ∈ GW, w.before args s = true := fun w h => hts w (List.mem_cons_of_mem _ h)
  intro n
  induction n with
  | zero =>
    intro _ _ H locs ls hf
    rw [fX5_rests_L221] at hf
    cases hf
  | succ n ih =>
    intro v5 v6 H locs ls hf w hl
    rw [fX5_rests_L221] at hf
    refine lv_iload hx hb dX5_rests_221 (lv_at hl 6 rfl) ?_
    refine lv_iconst (v := 5) hx hb dX5_rests_223 (by decide) ?_
    refine lv_icmp_ge (tgt := 306) hx hb dX5_rests_224 (by decide) (fun c1 => ?_) (fun c1 => ?_)
    · replace hf := ite_t c1 hf
      refine lv_aload_n hx hb dX5_rests_306 rfl (lv_at hl 0 rfl) ?_
      refine lv_iload hx hb dX5_rests_307 (lv_at hl 5 rfl) ?_
      refine lv_if_eq (tgt := 334) hx hb dX5_rests_309 (by decide) (fun c2 => ?_) (fun c2 => ?_)
      · replace hf := ite_t c2 hf
        refine lv_aload_n hx hb dX5_rests_334 rfl (lv_at hl 0 rfl) ?_
        refine va_get (D := D) (ci := 5) (v := .int m_restFirst) (C := RX5) (T := TX5) (N := 26) hx hb hg iX5 hown w.2.2.2.2.2.2.1 w.1 0 rfl rfl 23 (by decide) (hg _ w_512) (fun _ h9 => h9) rfl dX5_rests_335 ?_
        refine k_put (ci := 5) (v := .int m_restFirst) (ty := .int) (C := RX5) (T := TX5) (N := 26) hx hb hg iX5 tyX5 tyX5_ok nmX5 hown w 0 rfl rfl 23 (by decide) (hg _ w_512) (fun _ h9 => h9) rfl pd_I rfl rfl (Nat.le_of_ble_eq_true rfl) dX5_rests_338 (fun H locs w => ?_)
        have w : Wd D cI cZ b0 tt A s [(m_a, .inr (5, [.int m_thrown, .ref q_text, .int m_textSize, .int m_place, .ref q_cards, .ref q_readCards, .ref q_readPage, .ref q_page, .ref q_trial, .ref q_loads, .ref q_book, .int m_acts, .ref q_kept, .ref q_isKept, .int m_held, .ref q_heldWho, .ref q_heldForce, .ref q_heldLoad, .ref q_heldIs, .long m_seed, .int m_tentMany, .int m_tentFirst, .int m_restMany, .int m_restFirst, .ref q_gains, .ref q_value])), (q_text, .inl (cI, 56, .inl m_text)), (q_cards, .inl (cI, 4, .inl m_cards)), (q_readCards, .inl (cI, 4, .inl m_readCards)), (q_readPage, .inl (cI, 17, .inl m_readPage)), (q_page, .inl (cI, 17, .inl m_page)), (q_trial, .inl (cI, 17, .inl m_trial)), (q_loads, .inl (cI, 16, .inl m_loads)), (q_book, .inl (cI, 238, .inl m_book)), (q_kept, .inl (cI, 34, .inl m_kept)), (q_isKept, .inl (cZ, 2, .inl m_isKept)), (q_heldWho, .inl (cI, 6, .inl m_heldWho)), (q_heldForce, .inl (cI, 6, .inl m_heldForce)), (q_heldLoad, .inl (cI, 6, .inl m_heldLoad)), (q_heldIs, .inl (cI, 6, .inl m_heldIs)), (q_gains, .inl (cI, 50, .inl m_gains)), (q_value, .inl (cI, 16, .inl m_value))] H locs := w
        refine lv_aload_n hx hb dX5_rests_341 rfl (lv_at hl 0 rfl) ?_
        refine lv_dup hx hb dX5_rests_342 rfl ?_
        refine va_get (D := D) (ci := 5) (v := .int m_restMany) (C := RX5) (T := TX5) (N := 26) hx hb hg iX5 hown w.2.2.2.2.2.2.1 w.1 0 rfl rfl 22 (by decide) (hg _ w_511) (fun _ h9 => h9) rfl dX5_rests_343 ?_
        refine lv_iload hx hb dX5_rests_346 (lv_at hl 5 rfl) ?_
        refine lv_if_eq (tgt := 355) hx hb dX5_rests_348 (by decide) (fun c3 => ?_) (fun c3 => ?_)
        · replace hf := ite_t c3 hf
          refine lv_iconst (v := 0) hx hb dX5_rests_355 (by decide) ?_
          refine lv_iadd hx hb dX5_rests_356 ?_
          refine lv_topi (fun z4 ez4 => ?_)
          replace hf := nm_at ez4 hf
          refine k_put (ci := 5) (v := .int z4) (ty := .int) (C := RX5) (T := TX5) (N := 26) hx hb hg iX5 tyX5 tyX5_ok nmX5 hown w 0 rfl rfl 22 (by decide) (hg _ w_511) (fun _ h9 => h9) rfl pd_I rfl rfl (Nat.le_of_ble_eq_true rfl) dX5_rests_357 (fun H locs w => ?_)
          have w : Wd D cI cZ b0 tt A s [(m_a, .inr (5, [.int m_thrown, .ref q_text, .int m_textSize, .int m_place, .ref q_cards, .ref q_readCards, .ref q_readPage, .ref q_page, .ref q_trial, .ref q_loads, .ref q_book, .int m_acts, .ref q_kept, .ref q_isKept, .int m_held, .ref q_heldWho, .ref q_heldForce, .ref q_heldLoad, .ref q_heldIs, .long m_seed, .int m_tentMany, .int m_tentFirst, .int z4, .int m_restFirst, .ref q_gains, .ref q_value])), (q_text, .inl (cI, 56, .inl m_text)), (q_cards, .inl (cI, 4, .inl m_cards)), (q_readCards, .inl (cI, 4, .inl m_readCards)), (q_readPage, .inl (cI, 17, .inl m_readPage)), (q_page, .inl (cI, 17, .inl m_page)), (q_trial, .inl (cI, 17, .inl m_trial)), (q_loads, .inl (cI, 16, .inl m_loads)), (q_book, .inl (cI, 238, .inl m_book)), (q_kept, .inl (cI, 34, .inl m_kept)), (q_isKept, .inl (cZ, 2, .inl m_isKept)), (q_heldWho, .inl (cI, 6, .inl m_heldWho)), (q_heldForce, .inl (cI, 6, .inl m_heldForce)), (q_heldLoad, .inl (cI, 6, .inl m_heldLoad)), (q_heldIs, .inl (cI, 6, .inl m_heldIs)), (q_gains, .inl (cI, 50, .inl m_gains)), (q_value, .inl (cI, 16, .inl m_value))] H locs := w
          obtain ⟨z5, ez5⟩ : ∃ y : Int32, y = (v4 + 1) := ⟨_, rfl⟩
          replace hf := nm_at ez5 hf
          refine lv_iinc (v := z5) (lv' := [(4, .int z5), (0, .ref m_a), (1, .int v1), (2, .int v2), (3, .int v3), (5, .int v5), (6, .int v6)]) hx hb dX5_rests_360 hl (k := 4) rfl (by rw [ez5]; rfl) (by decide) rfl (fun ls hl => ?_)
          refine lv_goto (tgt := 208) hx hb dX5_rests_363 (by decide) ?_
          exact hK208 z5 z4 m_restFirst H locs ls hf w (lv_sub hl [1, 2, 3, 4, 0] rfl)
        · replace hf := ite_f c3 hf
          refine lv_iconst (v := 1) hx hb dX5_rests_351 (by decide) ?_
          refine lv_goto (tgt := 356) hx hb dX5_rests_352 (by decide) ?_
          refine lv_iadd hx hb dX5_rests_356 ?_
          refine lv_topi (fun z6 ez6 => ?_)
          replace hf := nm_at ez6 hf
          refine k_put (ci := 5) (v := .int z6) (ty := .int) (C := RX5) (T := TX5) (N := 26) hx hb hg iX5 tyX5 tyX5_ok nmX5 hown w 0 rfl rfl 22 (by decide) (hg _ w_511) (fun _ h9 => h9) rfl pd_I rfl rfl (Nat.le_of_ble_eq_true rfl) dX5_rests_357 (fun H locs w => ?_)
          have w : Wd D cI cZ b0 tt A s [(m_a, .inr (5, [.int m_thrown, .ref q_text, .int m_textSize, .int m_place, .ref q_cards, .ref q_readCards, .ref q_readPage, .ref q_page, .ref q_trial, .ref q_loads, .ref q_book, .int m_acts, .ref q_kept, .ref q_isKept, .int m_held, .ref q_heldWho, .ref q_heldForce, .ref q_heldLoad, .ref q_heldIs, .long m_seed, .int m_tentMany, .int m_tentFirst, .int z6, .int m_restFirst, .ref q_gains, .ref q_value])), (q_text, .inl (cI, 56, .inl m_text)), (q_cards, .inl (cI, 4, .inl m_cards)), (q_readCards, .inl (cI, 4, .inl m_readCards)), (q_readPage, .inl (cI, 17, .inl m_readPage)), (q_page, .inl (cI, 17, .inl m_page)), (q_trial, .inl (cI, 17, .inl m_trial)), (q_loads, .inl (cI, 16, .inl m_loads)), (q_book, .inl (cI, 238, .inl m_book)), (q_kept, .inl (cI, 34, .inl m_kept)), (q_isKept, .inl (cZ, 2, .inl m_isKept)), (q_heldWho, .inl (cI, 6, .inl m_heldWho)), (q_heldForce, .inl (cI, 6, .inl m_heldForce)), (q_heldLoad, .inl (cI, 6, .inl m_heldLoad)), (q_heldIs, .inl (cI, 6, .inl m_heldIs)), (q_gains, .inl (cI, 50, .inl m_gains)), (q_value, .inl (cI, 16, .inl m_value))] H locs := w
          obtain ⟨z7, ez7⟩ : ∃ y : Int32, y = (v4 + 1) := ⟨_, rfl⟩
          replace hf := nm_at ez7 hf
          refine lv_iinc (v := z7) (lv' := [(4, .int z7), (0, .ref m_a), (1, .int v1), (2, .int v2), (3, .int v3), (5, .int v5), (6, .int v6)]) hx hb dX5_rests_360 hl (k := 4) rfl (by rw [ez7]; rfl) (by decide) rfl (fun ls hl => ?_)
          refine lv_goto (tgt := 208) hx hb dX5_rests_363 (by decide) ?_
          exact hK208 z7 z6 m_restFirst H locs ls hf w (lv_sub hl [1, 2, 3, 4, 0] rfl)
      · replace hf := ite_f c2 hf
        refine lv_aload_n hx hb dX5_rests_312 rfl (lv_at hl 0 rfl) ?_
        refine va_get (D := D) (ci := 5) (v := .int m_restMany) (C := RX5) (T := TX5) (N := 26) hx hb hg iX5 hown w.2.2.2.2.2.2.1 w.1 0 rfl rfl 22 (by decide) (hg _ w_511) (fun _ h9 => h9) rfl dX5_rests_313 ?_
        refine lv_if_ne (tgt := 334) hx hb dX5_rests_316 (by decide) (fun c8 => ?_) (fun c8 => ?_)
        · replace hf := ite_f c8 hf
          refine lv_aload_n hx hb dX5_rests_334 rfl (lv_at hl 0 rfl) ?_
          refine va_get (D := D) (ci := 5) (v := .int m_restFirst) (C := RX5) (T := TX5) (N := 26) hx hb hg iX5 hown w.2.2.2.2.2.2.1 w.1 0 rfl rfl 23 (by decide) (hg _ w_512) (fun _ h9 => h9) rfl dX5_rests_335 ?_
          refine k_put (ci := 5) (v := .int m_restFirst) (ty := .int) (C := RX5) (T := TX5) (N := 26) hx hb hg iX5 tyX5 tyX5_ok nmX5 hown w 0 rfl rfl 23 (by decide) (hg _ w_512) (fun _ h9 => h9) rfl pd_I rfl rfl (Nat.le_of_ble_eq_true rfl) dX5_rests_338 (fun H locs w => ?_)
          have w : Wd D cI cZ b0 tt A s [(m_a, .inr (5, [.int m_thrown, .ref q_text, .int m_textSize, .int m_place, .ref q_cards, .ref q_readCards, .ref q_readPage, .ref q_page, .ref q_trial, .ref q_loads, .ref q_book, .int m_acts, .ref q_kept, .ref q_isKept, .int m_held, .ref q_heldWho, .ref q_heldForce, .ref q_heldLoad, .ref q_heldIs, .long m_seed, .int m_tentMany, .int m_tentFirst, .int m_restMany, .int m_restFirst, .ref q_gains, .ref q_value])), (q_text, .inl (cI, 56, .inl m_text)), (q_cards, .inl (cI, 4, .inl m_cards)), (q_readCards, .inl (cI, 4, .inl m_readCards)), (q_readPage, .inl (cI, 17, .inl m_readPage)), (q_page, .inl (cI, 17, .inl m_page)), (q_trial, .inl (cI, 17, .inl m_trial)), (q_loads, .inl (cI, 16, .inl m_loads)), (q_book, .inl (cI, 238, .inl m_book)), (q_kept, .inl (cI, 34, .inl m_kept)), (q_isKept, .inl (cZ, 2, .inl m_isKept)), (q_heldWho, .inl (cI, 6, .inl m_heldWho)), (q_heldForce, .inl (cI, 6, .inl m_heldForce)), (q_heldLoad, .inl (cI, 6, .inl m_heldLoad)), (q_heldIs, .inl (cI, 6, .inl m_heldIs)), (q_gains, .inl (cI, 50, .inl m_gains)), (q_value, .inl (cI, 16, .inl m_value))] H locs := w
          refine lv_aload_n hx hb dX5_rests_341 rfl (lv_at hl 0 rfl) ?_
          refine lv_dup hx hb dX5_rests_342 rfl ?_
          refine va_get (D := D) (ci := 5) (v := .int m_restMany) (C := RX5) (T := TX5) (N := 26) hx hb hg iX5 hown w.2.2.2.2.2.2.1 w.1 0 rfl rfl 22 (by decide) (hg _ w_511) (fun _ h9 => h9) rfl dX5_rests_343 ?_
          refine lv_iload hx hb dX5_rests_346 (lv_at hl 5 rfl) ?_
          refine lv_if_eq (tgt := 355) hx hb dX5_rests_348 (by decide) (fun c9 => ?_) (fun c9 => ?_)
          · replace hf := ite_t c9 hf
            refine lv_iconst (v := 0) hx hb dX5_rests_355 (by decide) ?_
            refine lv_iadd hx hb dX5_rests_356 ?_
            refine lv_topi (fun z10 ez10 => ?_)
            replace hf := nm_at ez10 hf
            refine k_put (ci := 5) (v := .int z10) (ty := .int) (C := RX5) (T := TX5) (N := 26) hx hb hg iX5 tyX5 tyX5_ok nmX5 hown w 0 rfl rfl 22 (by decide) (hg _ w_511) (fun _ h9 => h9) rfl pd_I rfl rfl (Nat.le_of_ble_eq_true rfl) dX5_rests_357 (fun H locs w => ?_)
            have w : Wd D cI cZ b0 tt A s [(m_a, .inr (5, [.int m_thrown, .ref q_text, .int m_textSize, .int m_place, .ref q_cards, .ref q_readCards, .ref q_readPage, .ref q_page, .ref q_trial, .ref q_loads, .ref q_book, .int m_acts, .ref q_kept, .ref q_isKept, .int m_held, .ref q_heldWho, .ref q_heldForce, .ref q_heldLoad, .ref q_heldIs, .long m_seed, .int m_tentMany, .int m_tentFirst, .int z10, .int m_restFirst, .ref q_gains, .ref q_value])), (q_text, .inl (cI, 56, .inl m_text)), (q_cards, .inl (cI, 4, .inl m_cards)), (q_readCards, .inl (cI, 4, .inl m_readCards)), (q_readPage, .inl (cI, 17, .inl m_readPage)), (q_page, .inl (cI, 17, .inl m_page)), (q_trial, .inl (cI, 17, .inl m_trial)), (q_loads, .inl (cI, 16, .inl m_loads)), (q_book, .inl (cI, 238, .inl m_book)), (q_kept, .inl (cI, 34, .inl m_kept)), (q_isKept, .inl (cZ, 2, .inl m_isKept)), (q_heldWho, .inl (cI, 6, .inl m_heldWho)), (q_heldForce, .inl (cI, 6, .inl m_heldForce)), (q_heldLoad, .inl (cI, 6, .inl m_heldLoad)), (q_heldIs, .inl (cI, 6, .inl m_heldIs)), (q_gains, .inl (cI, 50, .inl m_gains)), (q_value, .inl (cI, 16, .inl m_value))] H locs := w
            obtain ⟨z11, ez11⟩ : ∃ y : Int32, y = (v4 + 1) := ⟨_, rfl⟩
            replace hf := nm_at ez11 hf
            refine lv_iinc (v := z11) (lv' := [(4, .int z11), (0, .ref m_a), (1, .int v1), (2, .int v2), (3, .int v3), (5, .int v5), (6, .int v6)]) hx hb dX5_rests_360 hl (k := 4) rfl (by rw [ez11]; rfl) (by decide) rfl (fun ls hl => ?_)
            refine lv_goto (tgt := 208) hx hb dX5_rests_363 (by decide) ?_
            exact hK208 z11 z10 m_restFirst H locs ls hf w (lv_sub hl [1, 2, 3, 4, 0] rfl)
          · replace hf := ite_f c9 hf
            refine lv_iconst (v := 1) hx hb dX5_rests_351 (by decide) ?_
            refine lv_goto (tgt := 356) hx hb dX5_rests_352 (by decide) ?_
            refine lv_iadd hx hb dX5_rests_356 ?_
            refine lv_topi (fun z12 ez12 => ?_)
            replace hf := nm_at ez12 hf
            refine k_put (ci := 5) (v := .int z12) (ty := .int) (C := RX5) (T := TX5) (N := 26) hx hb hg iX5 tyX5 tyX5_ok nmX5 hown w 0 rfl rfl 22 (by decide) (hg _ w_511) (fun _ h9 => h9) rfl pd_I rfl rfl (Nat.le_of_ble_eq_true rfl) dX5_rests_357 (fun H locs w => ?_)
            have w : Wd D cI cZ b0 tt A s [(m_a, .inr (5, [.int m_thrown, .ref q_text, .int m_textSize, .int m_place, .ref q_cards, .ref q_readCards, .ref q_readPage, .ref q_page, .ref q_trial, .ref q_loads, .ref q_book, .int m_acts, .ref q_kept, .ref q_isKept, .int m_held, .ref q_heldWho, .ref q_heldForce, .ref q_heldLoad, .ref q_heldIs, .long m_seed, .int m_tentMany, .int m_tentFirst, .int z12, .int m_restFirst, .ref q_gains, .ref q_value])), (q_text, .inl (cI, 56, .inl m_text)), (q_cards, .inl (cI, 4, .inl m_cards)), (q_readCards, .inl (cI, 4, .inl m_readCards)), (q_readPage, .inl (cI, 17, .inl m_readPage)), (q_page, .inl (cI, 17, .inl m_page)), (q_trial, .inl (cI, 17, .inl m_trial)), (q_loads, .inl (cI, 16, .inl m_loads)), (q_book, .inl (cI, 238, .inl m_book)), (q_kept, .inl (cI, 34, .inl m_kept)), (q_isKept, .inl (cZ, 2, .inl m_isKept)), (q_heldWho, .inl (cI, 6, .inl m_heldWho)), (q_heldForce, .inl (cI, 6, .inl m_heldForce)), (q_heldLoad, .inl (cI, 6, .inl m_heldLoad)), (q_heldIs, .inl (cI, 6, .inl m_heldIs)), (q_gains, .inl (cI, 50, .inl m_gains)), (q_value, .inl (cI, 16, .inl m_value))] H locs := w
            obtain ⟨z13, ez13⟩ : ∃ y : Int32, y = (v4 + 1) := ⟨_, rfl⟩
            replace hf := nm_at ez13 hf
            refine lv_iinc (v := z13) (lv' := [(4, .int z13), (0, .ref m_a), (1, .int v1), (2, .int v2), (3, .int v3), (5, .int v5), (6, .int v6)]) hx hb dX5_rests_360 hl (k := 4) rfl (by rw [ez13]; rfl) (by decide) rfl (fun ls hl => ?_)
            refine lv_goto (tgt := 208) hx hb dX5_rests_363 (by decide) ?_
            exact hK208 z13 z12 m_restFirst H locs ls hf w (lv_sub hl [1, 2, 3, 4, 0] rfl)
        · replace hf := ite_t c8 hf
          refine lv_bipush (v := 10) hx hb dX5_rests_319 (by decide) ?_
          refine lv_iload hx hb dX5_rests_321 (lv_at hl 4 rfl) ?_
          refine lv_iconst (v := 5) hx hb dX5_rests_323 (by decide) ?_
          refine lv_idiv hx hb dX5_rests_324 (by decide) ?_
          refine lv_imul hx hb dX5_rests_325 ?_
          refine lv_iload hx hb dX5_rests_326 (lv_at hl 4 rfl) ?_
          refine lv_iconst (v := 5) hx hb dX5_rests_328 (by decide) ?_
          refine lv_irem hx hb dX5_rests_329 (by decide) ?_
          refine lv_iadd hx hb dX5_rests_330 ?_
          refine lv_goto (tgt := 338) hx hb dX5_rests_331 (by decide) ?_
          refine lv_topi (fun z14 ez14 => ?_)
          replace hf := nm_at ez14 hf
          refine k_put (ci := 5) (v := .int z14) (ty := .int) (C := RX5) (T := TX5) (N := 26) hx hb hg iX5 tyX5 tyX5_ok nmX5 hown w 0 rfl rfl 23 (by decide) (hg _ w_512) (fun _ h9 => h9) rfl pd_I rfl rfl (Nat.le_of_ble_eq_true rfl) dX5_rests_338 (fun H locs w => ?_)
          have w : Wd D cI cZ b0 tt A s [(m_a, .inr (5, [.int m_thrown, .ref q_text, .int m_textSize, .int m_place, .ref q_cards, .ref q_readCards, .ref q_readPage, .ref q_page, .ref q_trial, .ref q_loads, .ref q_book, .int m_acts, .ref q_kept, .ref q_isKept, .int m_held, .ref q_heldWho, .ref q_heldForce, .ref q_heldLoad, .ref q_heldIs, .long m_seed, .int m_tentMany, .int m_tentFirst, .int m_restMany, .int z14, .ref q_gains, .ref q_value])), (q_text, .inl (cI, 56, .inl m_text)), (q_cards, .inl (cI, 4, .inl m_cards)), (q_readCards, .inl (cI, 4, .inl m_readCards)), (q_readPage, .inl (cI, 17, .inl m_readPage)), (q_page, .inl (cI, 17, .inl m_page)), (q_trial, .inl (cI, 17, .inl m_trial)), (q_loads, .inl (cI, 16, .inl m_loads)), (q_book, .inl (cI, 238, .inl m_book)), (q_kept, .inl (cI, 34, .inl m_kept)), (q_isKept, .inl (cZ, 2, .inl m_isKept)), (q_heldWho, .inl (cI, 6, .inl m_heldWho)), (q_heldForce, .inl (cI, 6, .inl m_heldForce)), (q_heldLoad, .inl (cI, 6, .inl m_heldLoad)), (q_heldIs, .inl (cI, 6, .inl m_heldIs)), (q_gains, .inl (cI, 50, .inl m_gains)), (q_value, .inl (cI, 16, .inl m_value))] H locs := w
          refine lv_aload_n hx hb dX5_rests_341 rfl (lv_at hl 0 rfl) ?_
          refine lv_dup hx hb dX5_rests_342 rfl ?_
          refine va_get (D := D) (ci := 5) (v := .int m_restMany) (C := RX5) (T := TX5) (N := 26) hx hb hg iX5 hown w.2.2.2.2.2.2.1 w.1 0 rfl rfl 22 (by decide) (hg _ w_511) (fun _ h9 => h9) rfl dX5_rests_343 ?_
          refine lv_iload hx hb dX5_rests_346 (lv_at hl 5 rfl) ?_
          refine lv_if_eq (tgt := 355) hx hb dX5_rests_348 (by decide) (fun c15 => ?_) (fun c15 => ?_)
          · replace hf := ite_t c15 hf
            refine lv_iconst (v := 0) hx hb dX5_rests_355 (by decide) ?_
            refine lv_iadd hx hb dX5_rests_356 ?_
            refine lv_topi (fun z16 ez16 => ?_)
            replace hf := nm_at ez16 hf
            refine k_put (ci := 5) (v := .int z16) (ty := .int) (C := RX5) (T := TX5) (N := 26) hx hb hg iX5 tyX5 tyX5_ok nmX5 hown w 0 rfl rfl 22 (by decide) (hg _ w_511) (fun _ h9 => h9) rfl pd_I rfl rfl (Nat.le_of_ble_eq_true rfl) dX5_rests_357 (fun H locs w => ?_)
            have w : Wd D cI cZ b0 tt A s [(m_a, .inr (5, [.int m_thrown, .ref q_text, .int m_textSize, .int m_place, .ref q_cards, .ref q_readCards, .ref q_readPage, .ref q_page, .ref q_trial, .ref q_loads, .ref q_book, .int m_acts, .ref q_kept, .ref q_isKept, .int m_held, .ref q_heldWho, .ref q_heldForce, .ref q_heldLoad, .ref q_heldIs, .long m_seed, .int m_tentMany, .int m_tentFirst, .int z16, .int z14, .ref q_gains, .ref q_value])), (q_text, .inl (cI, 56, .inl m_text)), (q_cards, .inl (cI, 4, .inl m_cards)), (q_readCards, .inl (cI, 4, .inl m_readCards)), (q_readPage, .inl (cI, 17, .inl m_readPage)), (q_page, .inl (cI, 17, .inl m_page)), (q_trial, .inl (cI, 17, .inl m_trial)), (q_loads, .inl (cI, 16, .inl m_loads)), (q_book, .inl (cI, 238, .inl m_book)), (q_kept, .inl (cI, 34, .inl m_kept)), (q_isKept, .inl (cZ, 2, .inl m_isKept)), (q_heldWho, .inl (cI, 6, .inl m_heldWho)), (q_heldForce, .inl (cI, 6, .inl m_heldForce)), (q_heldLoad, .inl (cI, 6, .inl m_heldLoad)), (q_heldIs, .inl (cI, 6, .inl m_heldIs)), (q_gains, .inl (cI, 50, .inl m_gains)), (q_value, .inl (cI, 16, .inl m_value))] H locs := w
            obtain ⟨z17, ez17⟩ : ∃ y : Int32, y = (v4 + 1) := ⟨_, rfl⟩
            replace hf := nm_at ez17 hf
            refine lv_iinc (v := z17) (lv' := [(4, .int z17), (0, .ref m_a), (1, .int v1), (2, .int v2), (3, .int v3), (5, .int v5), (6, .int v6)]) hx hb dX5_rests_360 hl (k := 4) rfl (by rw [ez17]; rfl) (by decide) rfl (fun ls hl => ?_)
            refine lv_goto (tgt := 208) hx hb dX5_rests_363 (by decide) ?_
            exact hK208 z17 z16 z14 H locs ls hf w (lv_sub hl [1, 2, 3, 4, 0] rfl)
          · replace hf := ite_f c15 hf
            refine lv_iconst (v := 1) hx hb dX5_rests_351 (by decide) ?_
            refine lv_goto (tgt := 356) hx hb dX5_rests_352 (by decide) ?_
            refine lv_iadd hx hb dX5_rests_356 ?_
            refine lv_topi (fun z18 ez18 => ?_)
            replace hf := nm_at ez18 hf
            refine k_put (ci := 5) (v := .int z18) (ty := .int) (C := RX5) (T := TX5) (N := 26) hx hb hg iX5 tyX5 tyX5_ok nmX5 hown w 0 rfl rfl 22 (by decide) (hg _ w_511) (fun _ h9 => h9) rfl pd_I rfl rfl (Nat.le_of_ble_eq_true rfl) dX5_rests_357 (fun H locs w => ?_)
            have w : Wd D cI cZ b0 tt A s [(m_a, .inr (5, [.int m_thrown, .ref q_text, .int m_textSize, .int m_place, .ref q_cards, .ref q_readCards, .ref q_readPage, .ref q_page, .ref q_trial, .ref q_loads, .ref q_book, .int m_acts, .ref q_kept, .ref q_isKept, .int m_held, .ref q_heldWho, .ref q_heldForce, .ref q_heldLoad, .ref q_heldIs, .long m_seed, .int m_tentMany, .int m_tentFirst, .int z18, .int z14, .ref q_gains, .ref q_value])), (q_text, .inl (cI, 56, .inl m_text)), (q_cards, .inl (cI, 4, .inl m_cards)), (q_readCards, .inl (cI, 4, .inl m_readCards)), (q_readPage, .inl (cI, 17, .inl m_readPage)), (q_page, .inl (cI, 17, .inl m_page)), (q_trial, .inl (cI, 17, .inl m_trial)), (q_loads, .inl (cI, 16, .inl m_loads)), (q_book, .inl (cI, 238, .inl m_book)), (q_kept, .inl (cI, 34, .inl m_kept)), (q_isKept, .inl (cZ, 2, .inl m_isKept)), (q_heldWho, .inl (cI, 6, .inl m_heldWho)), (q_heldForce, .inl (cI, 6, .inl m_heldForce)), (q_heldLoad, .inl (cI, 6, .inl m_heldLoad)), (q_heldIs, .inl (cI, 6, .inl m_heldIs)), (q_gains, .inl (cI, 50, .inl m_gains)), (q_value, .inl (cI, 16, .inl m_value))] H locs := w
            obtain ⟨z19, ez19⟩ : ∃ y : Int32, y = (v4 + 1) := ⟨_, rfl⟩
            replace hf := nm_at ez19 hf
            refine lv_iinc (v := z19) (lv' := [(4, .int z19), (0, .ref m_a), (1, .int v1), (2, .int v2), (3, .int v3), (5, .int v5), (6, .int v6)]) hx hb dX5_rests_360 hl (k := 4) rfl (by rw [ez19]; rfl) (by decide) rfl (fun ls hl => ?_)
            refine lv_goto (tgt := 208) hx hb dX5_rests_363 (by decide) ?_
            exact hK208 z19 z18 z14 H locs ls hf w (lv_sub hl [1, 2, 3, 4, 0] rfl)
    · replace hf := ite_f c1 hf
      refine lv_iload hx hb dX5_rests_227 (lv_at hl 5 rfl) ?_
      refine lv_if_eq (tgt := 297) hx hb dX5_rests_229 (by decide) (fun c20 => ?_) (fun c20 => ?_)
      · replace hf := ite_t c20 hf
        refine lv_iconst (v := 0) hx hb dX5_rests_297 (by decide) ?_
        refine lv_istore (lv' := [(5, .int 0), (0, .ref m_a), (1, .int v1), (2, .int v2), (3, .int v3), (4, .int v4), (6, .int v6)]) hx hb dX5_rests_298 hl (by decide) rfl (fun ls hl => ?_)
        obtain ⟨z21, ez21⟩ : ∃ y : Int32, y = (v6 + 1) := ⟨_, rfl⟩
        replace hf := nm_at ez21 hf
        refine lv_iinc (v := z21) (lv' := [(6, .int z21), (5, .int 0), (0, .ref m_a), (1, .int v1), (2, .int v2), (3, .int v3), (4, .int v4)]) hx hb dX5_rests_300 hl (k := 6) rfl (by rw [ez21]; rfl) (by decide) rfl (fun ls hl => ?_)
        refine lv_goto (tgt := 221) hx hb dX5_rests_303 (by decide) ?_
        exact ih 0 z21 H locs ls hf w (lv_sub hl [2, 3, 4, 5, 6, 1, 0] rfl)
      · replace hf := ite_f c20 hf
        refine lv_aload_n hx hb dX5_rests_232 rfl (lv_at hl 0 rfl) ?_
        refine va_get (D := D) (ci := 5) (v := .ref q_gains) (C := RX5) (T := TX5) (N := 26) hx hb hg iX5 hown w.2.2.2.2.2.2.1 w.1 0 rfl rfl 24 (by decide) (hg _ w_513) (fun _ h9 => h9) rfl dX5_rests_233 ?_
        refine lv_iconst (v := 2) hx hb dX5_rests_236 (by decide) ?_
        refine lv_iconst (v := 5) hx hb dX5_rests_237 (by decide) ?_
        refine lv_iload hx hb dX5_rests_238 (lv_at hl 6 rfl) ?_
        refine lv_imul hx hb dX5_rests_240 ?_
        refine lv_iload hx hb dX5_rests_241 (lv_at hl 4 rfl) ?_
        refine lv_iconst (v := 5) hx hb dX5_rests_243 (by decide) ?_
        refine lv_irem hx hb dX5_rests_244 (by decide) ?_
        refine lv_iadd hx hb dX5_rests_245 ?_
        refine lv_imul hx hb dX5_rests_246 ?_
        replace hf := gd_at hf
        obtain ⟨hi22, hf⟩ := hf
        refine va_iald hx hb w.2.2.2.2.2.2.1 w.1 15 0 rfl rfl hi22 dX5_rests_247 ?_
        refine lv_aload_n hx hb dX5_rests_248 rfl (lv_at hl 0 rfl) ?_
        refine va_get (D := D) (ci := 5) (v := .ref q_gains) (C := RX5) (T := TX5) (N := 26) hx hb hg iX5 hown w.2.2.2.2.2.2.1 w.1 0 rfl rfl 24 (by decide) (hg _ w_513) (fun _ h9 => h9) rfl dX5_rests_249 ?_
        refine lv_iconst (v := 2) hx hb dX5_rests_252 (by decide) ?_
        refine lv_iload hx hb dX5_rests_253 (lv_at hl 4 rfl) ?_
        refine lv_imul hx hb dX5_rests_255 ?_
        replace hf := gd_at hf
        obtain ⟨hi23, hf⟩ := hf
        refine va_iald hx hb w.2.2.2.2.2.2.1 w.1 15 0 rfl rfl hi23 dX5_rests_256 ?_
        refine lv_icmp_gt (tgt := 297) hx hb dX5_rests_257 (by decide) (fun c24 => ?_) (fun c24 => ?_)
        · replace hf := ite_t c24 hf
          refine lv_iconst (v := 0) hx hb dX5_rests_297 (by decide) ?_
          refine lv_istore (lv' := [(5, .int 0), (0, .ref m_a), (1, .int v1), (2, .int v2), (3, .int v3), (4, .int v4), (6, .int v6)]) hx hb dX5_rests_298 hl (by decide) rfl (fun ls hl => ?_)
          obtain ⟨z25, ez25⟩ : ∃ y : Int32, y = (v6 + 1) := ⟨_, rfl⟩
          replace hf := nm_at ez25 hf
          refine lv_iinc (v := z25) (lv' := [(6, .int z25), (5, .int 0), (0, .ref m_a), (1, .int v1), (2, .int v2), (3, .int v3), (4, .int v4)]) hx hb dX5_rests_300 hl (k := 6) rfl (by rw [ez25]; rfl) (by decide) rfl (fun ls hl => ?_)
          refine lv_goto (tgt := 221) hx hb dX5_rests_303 (by decide) ?_
          exact ih 0 z25 H locs ls hf w (lv_sub hl [2, 3, 4, 5, 6, 1, 0] rfl)
        · replace hf := ite_f c24 hf
          refine lv_aload_n hx hb dX5_rests_260 rfl (lv_at hl 0 rfl) ?_
          refine va_get (D := D) (ci := 5) (v := .ref q_gains) (C := RX5) (T := TX5) (N := 26) hx hb hg iX5 hown w.2.2.2.2.2.2.1 w.1 0 rfl rfl 24 (by decide) (hg _ w_513) (fun _ h9 => h9) rfl dX5_rests_261 ?_
          refine lv_iconst (v := 2) hx hb dX5_rests_264 (by decide) ?_
          refine lv_iload hx hb dX5_rests_265 (lv_at hl 4 rfl) ?_
          refine lv_iload hx hb dX5_rests_267 (lv_at hl 4 rfl) ?_
          refine lv_iconst (v := 5) hx hb dX5_rests_269 (by decide) ?_
          refine lv_irem hx hb dX5_rests_270 (by decide) ?_
          refine lv_isub hx hb dX5_rests_271 ?_
          refine lv_iload hx hb dX5_rests_272 (lv_at hl 6 rfl) ?_
          refine lv_iadd hx hb dX5_rests_274 ?_
          refine lv_imul hx hb dX5_rests_275 ?_
          refine lv_iconst (v := 1) hx hb dX5_rests_276 (by decide) ?_
          refine lv_iadd hx hb dX5_rests_277 ?_
          replace hf := gd_at hf
          obtain ⟨hi26, hf⟩ := hf
          refine va_iald hx hb w.2.2.2.2.2.2.1 w.1 15 0 rfl rfl hi26 dX5_rests_278 ?_
          refine lv_aload_n hx hb dX5_rests_279 rfl (lv_at hl 0 rfl) ?_
          refine va_get (D := D) (ci := 5) (v := .ref q_gains) (C := RX5) (T := TX5) (N := 26) hx hb hg iX5 hown w.2.2.2.2.2.2.1 w.1 0 rfl rfl 24 (by decide) (hg _ w_513) (fun _ h9 => h9) rfl dX5_rests_280 ?_
          refine lv_iconst (v := 2) hx hb dX5_rests_283 (by decide) ?_
          refine lv_iload hx hb dX5_rests_284 (lv_at hl 4 rfl) ?_
          refine lv_imul hx hb dX5_rests_286 ?_
          refine lv_iconst (v := 1) hx hb dX5_rests_287 (by decide) ?_
          refine lv_iadd hx hb dX5_rests_288 ?_
          replace hf := gd_at hf
          obtain ⟨hi27, hf⟩ := hf
          refine va_iald hx hb w.2.2.2.2.2.2.1 w.1 15 0 rfl rfl hi27 dX5_rests_289 ?_
          refine lv_icmp_gt (tgt := 297) hx hb dX5_rests_290 (by decide) (fun c28 => ?_) (fun c28 => ?_)
          · replace hf := ite_t c28 hf
            refine lv_iconst (v := 0) hx hb dX5_rests_297 (by decide) ?_
            refine lv_istore (lv' := [(5, .int 0), (0, .ref m_a), (1, .int v1), (2, .int v2), (3, .int v3), (4, .int v4), (6, .int v6)]) hx hb dX5_rests_298 hl (by decide) rfl (fun ls hl => ?_)
            obtain ⟨z29, ez29⟩ : ∃ y : Int32, y = (v6 + 1) := ⟨_, rfl⟩
            replace hf := nm_at ez29 hf
            refine lv_iinc (v := z29) (lv' := [(6, .int z29), (5, .int 0), (0, .ref m_a), (1, .int v1), (2, .int v2), (3, .int v3), (4, .int v4)]) hx hb dX5_rests_300 hl (k := 6) rfl (by rw [ez29]; rfl) (by decide) rfl (fun ls hl => ?_)
            refine lv_goto (tgt := 221) hx hb dX5_rests_303 (by decide) ?_
            exact ih 0 z29 H locs ls hf w (lv_sub hl [2, 3, 4, 5, 6, 1, 0] rfl)
          · replace hf := ite_f c28 hf
            refine lv_iconst (v := 1) hx hb dX5_rests_293 (by decide) ?_
            refine lv_goto (tgt := 298) hx hb dX5_rests_294 (by decide) ?_
            refine lv_istore (lv' := [(5, .int 1), (0, .ref m_a), (1, .int v1), (2, .int v2), (3, .int v3), (4, .int v4), (6, .int v6)]) hx hb dX5_rests_298 hl (by decide) rfl (fun ls hl => ?_)
            obtain ⟨z30, ez30⟩ : ∃ y : Int32, y = (v6 + 1) := ⟨_, rfl⟩
            replace hf := nm_at ez30 hf
            refine lv_iinc (v := z30) (lv' := [(6, .int z30), (5, .int 1), (0, .ref m_a), (1, .int v1), (2, .int v2), (3, .int v3), (4, .int v4)]) hx hb dX5_rests_300 hl (k := 6) rfl (by rw [ez30]; rfl) (by decide) rfl (fun ls hl => ?_)
            refine lv_goto (tgt := 221) hx hb dX5_rests_303 (by decide) ?_
            exact ih 1 z30 H locs ls hf w (lv_sub hl [2, 3, 4, 5, 6, 1, 0] rfl)
def fX5_rests_L208   (v1 : Int32) (v2 : Int32) (v3 : Int32) (m_thrown : Int32) (m_cards : Nat → Int32) (m_page : Nat → Int32) (m_trial : Nat → Int32) (m_loads : Nat → Int32) (m_gains : Nat → Int32) : Nat → Int32 → Int32 → Int32 → Option (Int32 × Int32 × Int32 × Int32 × (Nat → Int32) × (Nat → Int32) × (Nat → Int32))
  | 0, _, _, _ => none
  | n + 1, v4, m_restMany, m_restFirst => (if 25 ≤ v4 then (if v3 = 0 then some (m_restMany, (m_thrown, m_restMany, m_restFirst, m_trial, m_loads, m_gains)) else some (m_restFirst, (m_thrown, m_restMany, m_restFirst, m_trial, m_loads, m_gains))) else fX5_rests_L221 (fun yv4 ym_restMany ym_restFirst => fX5_rests_L208 v1 v2 v3 m_thrown m_cards m_page m_trial m_loads m_gains n yv4 ym_restMany ym_restFirst) v1 v2 v3 v4 m_thrown m_restMany m_restFirst m_cards m_page m_trial m_loads m_gains FU 1 0)
set_option maxRecDepth 100000 in
set_option maxHeartbeats 4000000 in
theorem tX5_rests_L208 {p : Program} {l : Launch} {e : Env} {s : State} {m : MethodId} {args : Array Value} {below : List Frame} {meth : Method} {c : Code} {D : va_G} {cI cZ : ClassId} {b0 : Nat} {tt : Nat → Nat} {A : Nat → Prop}  {m_a q_text q_cards q_readCards q_readPage q_page q_trial q_loads q_book q_kept q_isKept q_heldWho q_heldForce q_heldLoad q_heldIs q_gains q_value : Nat}  {v1 : Int32} {v2 : Int32} {v3 : Int32} {m_thrown : Int32} {m_cards : Nat → Int32} {m_page : Nat → Int32} {m_trial : Nat → Int32} {m_loads : Nat → Int32} {m_gains : Nat → Int32} {m_textSize : Int32} {m_place : Int32} {m_acts : Int32} {m_held : Int32} {m_seed : Int64} {m_tentMany : Int32} {m_tentFirst : Int32} {m_text : Nat → Int32} {m_readCards : Nat → Int32} {m_readPage : Nat → Int32} {m_book : Nat → Int32} {m_kept : Nat → Int32} {m_isKept : Nat → Int32} {m_heldWho : Nat → Int32} {m_heldForce : Nat → Int32} {m_heldLoad : Nat → Int32} {m_heldIs : Nat → Int32} {m_value : Nat → Int32} {res : Int32 × Int32 × Int32 × Int32 × (Nat → Int32) × (Nat → Int32) × (Nat → Int32)} (C : Cx p s m args meth c cX5_rests 7 (some .int) (cwX5_rests :: GW) RX5) : ∀ (n : Nat) (v4 : Int32) (m_restMany : Int32) (m_restFirst : Int32) (H : Heap) (locs : List Loc) (ls : Array Slot), fX5_rests_L208 v1 v2 v3 m_thrown m_cards m_page m_trial m_loads m_gains n v4 m_restMany m_restFirst = some res → Wd D cI cZ b0 tt A s [(m_a, .inr (5, [.int m_thrown, .ref q_text, .int m_textSize, .int m_place, .ref q_cards, .ref q_readCards, .ref q_readPage, .ref q_page, .ref q_trial, .ref q_loads, .ref q_book, .int m_acts, .ref q_kept, .ref q_isKept, .int m_held, .ref q_heldWho, .ref q_heldForce, .ref q_heldLoad, .ref q_heldIs, .long m_seed, .int m_tentMany, .int m_tentFirst, .int m_restMany, .int m_restFirst, .ref q_gains, .ref q_value])), (q_text, .inl (cI, 56, .inl m_text)), (q_cards, .inl (cI, 4, .inl m_cards)), (q_readCards, .inl (cI, 4, .inl m_readCards)), (q_readPage, .inl (cI, 17, .inl m_readPage)), (q_page, .inl (cI, 17, .inl m_page)), (q_trial, .inl (cI, 17, .inl m_trial)), (q_loads, .inl (cI, 16, .inl m_loads)), (q_book, .inl (cI, 238, .inl m_book)), (q_kept, .inl (cI, 34, .inl m_kept)), (q_isKept, .inl (cZ, 2, .inl m_isKept)), (q_heldWho, .inl (cI, 6, .inl m_heldWho)), (q_heldForce, .inl (cI, 6, .inl m_heldForce)), (q_heldLoad, .inl (cI, 6, .inl m_heldLoad)), (q_heldIs, .inl (cI, 6, .inl m_heldIs)), (q_gains, .inl (cI, 50, .inl m_gains)), (q_value, .inl (cI, 16, .inl m_value))] H locs → lv_has ls 7 [(0, .ref m_a), (1, .int v1), (2, .int v2), (3, .int v3), (4, .int v4)] → W p l e (rmo 8 178) s m args below meth c H locs 0 0 (MQ below (QI D (fun u : Int32 × Int32 × Int32 × (Nat → Int32) × (Nat → Int32) × (Nat → Int32) => [(m_a, .inr (5, [.int u.1, .ref q_text, .int m_textSize, .int m_place, .ref q_cards, .ref q_readCards, .ref q_readPage, .ref q_page, .ref q_trial, .ref q_loads, .ref q_book, .int m_acts, .ref q_kept, .ref q_isKept, .int m_held, .ref q_heldWho, .ref q_heldForce, .ref q_heldLoad, .ref q_heldIs, .long m_seed, .int m_tentMany, .int m_tentFirst, .int u.2.1, .int u.2.2.1, .ref q_gains, .ref q_value])), (q_text, .inl (cI, 56, .inl m_text)), (q_cards, .inl (cI, 4, .inl m_cards)), (q_readCards, .inl (cI, 4, .inl m_readCards)), (q_readPage, .inl (cI, 17, .inl m_readPage)), (q_page, .inl (cI, 17, .inl m_page)), (q_trial, .inl (cI, 17, .inl u.2.2.2.1)), (q_loads, .inl (cI, 16, .inl u.2.2.2.2.1)), (q_book, .inl (cI, 238, .inl m_book)), (q_kept, .inl (cI, 34, .inl m_kept)), (q_isKept, .inl (cZ, 2, .inl m_isKept)), (q_heldWho, .inl (cI, 6, .inl m_heldWho)), (q_heldForce, .inl (cI, 6, .inl m_heldForce)), (q_heldLoad, .inl (cI, 6, .inl m_heldLoad)), (q_heldIs, .inl (cI, 6, .inl m_heldIs)), (q_gains, .inl (cI, 50, .inl u.2.2.2.2.2)), (q_value, .inl (cI, 16, .inl m_value))]) A res) args s 0 0 A) (F0 m 208 ls []) := by
  obtain ⟨hx, hb, hr, hml, hown, hts, hlk⟩ := id C
  have hg : ∀ w ∈ GW, w.before args s = true := fun w h => hts w (List.mem_cons_of_mem _ h)
  intro n
  induction n with
  | zero =>
    intro _ _ _ H locs ls hf
    rw [fX5_rests_L208] at hf
    cases hf
  | succ n ih =>
    intro v4 m_restMany m_restFirst H locs ls hf w hl
    rw [fX5_rests_L208] at hf
    refine lv_iload hx hb dX5_rests_208 (lv_at hl 4 rfl) ?_
    refine lv_bipush (v := 25) hx hb dX5_rests_210 (by decide) ?_
    refine lv_icmp_ge (tgt := 366) hx hb dX5_rests_212 (by decide) (fun c31 => ?_) (fun c31 => ?_)
    · replace hf := ite_t c31 hf
      refine lv_iload_n hx hb dX5_rests_366 rfl (lv_at hl 3 rfl) ?_
      refine lv_if_ne (tgt := 377) hx hb dX5_rests_367 (by decide) (fun c32 => ?_) (fun c32 => ?_)
      · replace hf := ite_f c32 hf
        refine lv_aload_n hx hb dX5_rests_377 rfl (lv_at hl 0 rfl) ?_
        refine va_get (D := D) (ci := 5) (v := .int m_restFirst) (C := RX5) (T := TX5) (N := 26) hx hb hg iX5 hown w.2.2.2.2.2.2.1 w.1 0 rfl rfl 23 (by decide) (hg _ w_512) (fun _ h9 => h9) rfl dX5_rests_378 ?_
        exact k_iret (u := (m_thrown, m_restMany, m_restFirst, m_trial, m_loads, m_gains)) hx hb hr hlk w rfl hf dX5_rests_381
      · replace hf := ite_t c32 hf
        refine lv_aload_n hx hb dX5_rests_370 rfl (lv_at hl 0 rfl) ?_
        refine va_get (D := D) (ci := 5) (v := .int m_restMany) (C := RX5) (T := TX5) (N := 26) hx hb hg iX5 hown w.2.2.2.2.2.2.1 w.1 0 rfl rfl 22 (by decide) (hg _ w_511) (fun _ h9 => h9) rfl dX5_rests_371 ?_
        refine lv_goto (tgt := 381) hx hb dX5_rests_374 (by decide) ?_
        exact k_iret (u := (m_thrown, m_restMany, m_restFirst, m_trial, m_loads, m_gains)) hx hb hr hlk w rfl hf dX5_rests_381
    · replace hf := ite_f c31 hf
      refine lv_iconst (v := 1) hx hb dX5_rests_215 (by decide) ?_
      refine lv_istore (lv' := [(5, .int 1), (0, .ref m_a), (1, .int v1), (2, .int v2), (3, .int v3), (4, .int v4)]) hx hb dX5_rests_216 hl (by decide) rfl (fun ls hl => ?_)
      refine lv_iconst (v := 0) hx hb dX5_rests_218 (by decide) ?_
      refine lv_istore (lv' := [(6, .int 0), (5, .int 1), (0, .ref m_a), (1, .int v1), (2, .int v2), (3, .int v3), (4, .int v4)]) hx hb dX5_rests_219 hl (by decide) rfl (fun ls hl => ?_)
      exact tX5_rests_L221 (v1 := v1) (v2 := v2) (v3 := v3) (v4 := v4) (m_thrown := m_thrown) (m_restMany := m_restMany) (m_restFirst := m_restFirst) (m_cards := m_cards) (m_page := m_page) (m_trial := m_trial) (m_loads := m_loads) (m_gains := m_gains) (m_textSize := m_textSize) (m_place := m_place) (m_acts := m_acts) (m_held := m_held) (m_seed := m_seed) (m_tentMany := m_tentMany) (m_tentFirst := m_tentFirst) (m_text := m_text) (m_readCards := m_readCards) (m_readPage := m_readPage) (m_book := m_book) (m_kept := m_kept) (m_isKept := m_isKept) (m_heldWho := m_heldWho) (m_heldForce := m_heldForce) (m_heldLoad := m_heldLoad) (m_heldIs := m_heldIs) (m_value := m_value) (C := C) (hK208 := ih) FU 1 0 H locs ls hf w (lv_sub hl [2, 3, 4, 5, 6, 1, 0] rfl)
def fX5_rests_L63   (v1 : Int32) (v2 : Int32) (v3 : Int32) (m_thrown : Int32) (m_restMany : Int32) (m_restFirst : Int32) (m_cards : Nat → Int32) (m_page : Nat → Int32) : Nat → Int32 → (Nat → Int32) → (Nat → Int32) → (Nat → Int32) → Option (Int32 × Int32 × Int32 × Int32 × (Nat → Int32) × (Nat → Int32) × (Nat → Int32))
  | 0, _, _, _, _ => none
  | n + 1, v4, m_trial, m_loads, m_gains => (if 25 ≤ v4 then fX5_rests_L208 v1 v2 v3 m_thrown m_cards m_page m_trial m_loads m_gains FU 0 0 (-9) else ob (fX5_begin m_page m_trial) (fun r34 => ob (fX5_puts m_cards r34 m_loads v1 (v4 / (5 : Int32))) (fun r35 => ob (fX5_puts m_cards r35.2.1 r35.2.2 v2 (v4 - v4 / (5 : Int32) * (5 : Int32))) (fun r36 => ob (fX5_there r36.2.1) (fun r37 => ob (fX5_many r37) (fun r38 => gd v1 17 ((if (r36.2.1 (Int32.toNatClampNeg v1)) ≤ 0 then (if 4 ≤ (v4 / (5 : Int32)) then nm ((r38 + (0 : Int32)) - (0 : Int32)) (fun z42 => gd ((2 : Int32) * v4) 50 (gd v2 17 ((if (r36.2.1 (Int32.toNatClampNeg v2)) ≤ 0 then (if 4 ≤ (v4 - v4 / (5 : Int32) * (5 : Int32)) then nm ((r38 + (0 : Int32)) - (0 : Int32)) (fun z47 => gd (((2 : Int32) * v4) + (1 : Int32)) 50 (nm (v4 + 1) (fun z49 => fX5_rests_L63 v1 v2 v3 m_thrown m_restMany m_restFirst m_cards m_page n z49 r36.2.1 r36.2.2 (upd (upd m_gains (Int32.toNatClampNeg ((2 : Int32) * v4)) z42) (Int32.toNatClampNeg (((2 : Int32) * v4) + (1 : Int32))) z47)))) else nm ((r38 + (0 : Int32)) - (1 : Int32)) (fun z50 => gd (((2 : Int32) * v4) + (1 : Int32)) 50 (nm (v4 + 1) (fun z52 => fX5_rests_L63 v1 v2 v3 m_thrown m_restMany m_restFirst m_cards m_page n z52 r36.2.1 r36.2.2 (upd (upd m_gains (Int32.toNatClampNeg ((2 : Int32) * v4)) z42) (Int32.toNatClampNeg (((2 : Int32) * v4) + (1 : Int32))) z50))))) else (if 4 ≤ (v4 - v4 / (5 : Int32) * (5 : Int32)) then nm ((r38 + (2 : Int32)) - (0 : Int32)) (fun z54 => gd (((2 : Int32) * v4) + (1 : Int32)) 50 (nm (v4 + 1) (fun z56 => fX5_rests_L63 v1 v2 v3 m_thrown m_restMany m_restFirst m_cards m_page n z56 r36.2.1 r36.2.2 (upd (upd m_gains (Int32.toNatClampNeg ((2 : Int32) * v4)) z42) (Int32.toNatClampNeg (((2 : Int32) * v4) + (1 : Int32))) z54)))) else nm ((r38 + (2 : Int32)) - (1 : Int32)) (fun z57 => gd (((2 : Int32) * v4) + (1 : Int32)) 50 (nm (v4 + 1) (fun z59 => fX5_rests_L63 v1 v2 v3 m_thrown m_restMany m_restFirst m_cards m_page n z59 r36.2.1 r36.2.2 (upd (upd m_gains (Int32.toNatClampNeg ((2 : Int32) * v4)) z42) (Int32.toNatClampNeg (((2 : Int32) * v4) + (1 : Int32))) z57))))))))) else nm ((r38 + (0 : Int32)) - (1 : Int32)) (fun z60 => gd ((2 : Int32) * v4) 50 (gd v2 17 ((if (r36.2.1 (Int32.toNatClampNeg v2)) ≤ 0 then (if 4 ≤ (v4 - v4 / (5 : Int32) * (5 : Int32)) then nm ((r38 + (0 : Int32)) - (0 : Int32)) (fun z65 => gd (((2 : Int32) * v4) + (1 : Int32)) 50 (nm (v4 + 1) (fun z67 => fX5_rests_L63 v1 v2 v3 m_thrown m_restMany m_restFirst m_cards m_page n z67 r36.2.1 r36.2.2 (upd (upd m_gains (Int32.toNatClampNeg ((2 : Int32) * v4)) z60) (Int32.toNatClampNeg (((2 : Int32) * v4) + (1 : Int32))) z65)))) else nm ((r38 + (0 : Int32)) - (1 : Int32)) (fun z68 => gd (((2 : Int32) * v4) + (1 : Int32)) 50 (nm (v4 + 1) (fun z70 => fX5_rests_L63 v1 v2 v3 m_thrown m_restMany m_restFirst m_cards m_page n z70 r36.2.1 r36.2.2 (upd (upd m_gains (Int32.toNatClampNeg ((2 : Int32) * v4)) z60) (Int32.toNatClampNeg (((2 : Int32) * v4) + (1 : Int32))) z68))))) else (if 4 ≤ (v4 - v4 / (5 : Int32) * (5 : Int32)) then nm ((r38 + (2 : Int32)) - (0 : Int32)) (fun z72 => gd (((2 : Int32) * v4) + (1 : Int32)) 50 (nm (v4 + 1) (fun z74 => fX5_rests_L63 v1 v2 v3 m_thrown m_restMany m_restFirst m_cards m_page n z74 r36.2.1 r36.2.2 (upd (upd m_gains (Int32.toNatClampNeg ((2 : Int32) * v4)) z60) (Int32.toNatClampNeg (((2 : Int32) * v4) + (1 : Int32))) z72)))) else nm ((r38 + (2 : Int32)) - (1 : Int32)) (fun z75 => gd (((2 : Int32) * v4) + (1 : Int32)) 50 (nm (v4 + 1) (fun z77 => fX5_rests_L63 v1 v2 v3 m_thrown m_restMany m_restFirst m_cards m_page n z77 r36.2.1 r36.2.2 (upd (upd m_gains (Int32.toNatClampNeg ((2 : Int32) * v4)) z60) (Int32.toNatClampNeg (((2 : Int32) * v4) + (1 : Int32))) z75)))))))))) else (if 4 ≤ (v4 / (5 : Int32)) then nm ((r38 + (2 : Int32)) - (0 : Int32)) (fun z79 => gd ((2 : Int32) * v4) 50 (gd v2 17 ((if (r36.2.1 (Int32.toNatClampNeg v2)) ≤ 0 then (if 4 ≤ (v4 - v4 / (5 : Int32) * (5 : Int32)) then nm ((r38 + (0 : Int32)) - (0 : Int32)) (fun z84 => gd (((2 : Int32) * v4) + (1 : Int32)) 50 (nm (v4 + 1) (fun z86 => fX5_rests_L63 v1 v2 v3 m_thrown m_restMany m_restFirst m_cards m_page n z86 r36.2.1 r36.2.2 (upd (upd m_gains (Int32.toNatClampNeg ((2 : Int32) * v4)) z79) (Int32.toNatClampNeg (((2 : Int32) * v4) + (1 : Int32))) z84)))) else nm ((r38 + (0 : Int32)) - (1 : Int32)) (fun z87 => gd (((2 : Int32) * v4) + (1 : Int32)) 50 (nm (v4 + 1) (fun z89 => fX5_rests_L63 v1 v2 v3 m_thrown m_restMany m_restFirst m_cards m_page n z89 r36.2.1 r36.2.2 (upd (upd m_gains (Int32.toNatClampNeg ((2 : Int32) * v4)) z79) (Int32.toNatClampNeg (((2 : Int32) * v4) + (1 : Int32))) z87))))) else (if 4 ≤ (v4 - v4 / (5 : Int32) * (5 : Int32)) then nm ((r38 + (2 : Int32)) - (0 : Int32)) (fun z91 => gd (((2 : Int32) * v4) + (1 : Int32)) 50 (nm (v4 + 1) (fun z93 => fX5_rests_L63 v1 v2 v3 m_thrown m_restMany m_restFirst m_cards m_page n z93 r36.2.1 r36.2.2 (upd (upd m_gains (Int32.toNatClampNeg ((2 : Int32) * v4)) z79) (Int32.toNatClampNeg (((2 : Int32) * v4) + (1 : Int32))) z91)))) else nm ((r38 + (2 : Int32)) - (1 : Int32)) (fun z94 => gd (((2 : Int32) * v4) + (1 : Int32)) 50 (nm (v4 + 1) (fun z96 => fX5_rests_L63 v1 v2 v3 m_thrown m_restMany m_restFirst m_cards m_page n z96 r36.2.1 r36.2.2 (upd (upd m_gains (Int32.toNatClampNeg ((2 : Int32) * v4)) z79) (Int32.toNatClampNeg (((2 : Int32) * v4) + (1 : Int32))) z94))))))))) else nm ((r38 + (2 : Int32)) - (1 : Int32)) (fun z97 => gd ((2 : Int32) * v4) 50 (gd v2 17 ((if (r36.2.1 (Int32.toNatClampNeg v2)) ≤ 0 then (if 4 ≤ (v4 - v4 / (5 : Int32) * (5 : Int32)) then nm ((r38 + (0 : Int32)) - (0 : Int32)) (fun z102 => gd (((2 : Int32) * v4) + (1 : Int32)) 50 (nm (v4 + 1) (fun z104 => fX5_rests_L63 v1 v2 v3 m_thrown m_restMany m_restFirst m_cards m_page n z104 r36.2.1 r36.2.2 (upd (upd m_gains (Int32.toNatClampNeg ((2 : Int32) * v4)) z97) (Int32.toNatClampNeg (((2 : Int32) * v4) + (1 : Int32))) z102)))) else nm ((r38 + (0 : Int32)) - (1 : Int32)) (fun z105 => gd (((2 : Int32) * v4) + (1 : Int32)) 50 (nm (v4 + 1) (fun z107 => fX5_rests_L63 v1 v2 v3 m_thrown m_restMany m_restFirst m_cards m_page n z107 r36.2.1 r36.2.2 (upd (upd m_gains (Int32.toNatClampNeg ((2 : Int32) * v4)) z97) (Int32.toNatClampNeg (((2 : Int32) * v4) + (1 : Int32))) z105))))) else (if 4 ≤ (v4 - v4 / (5 : Int32) * (5 : Int32)) then nm ((r38 + (2 : Int32)) - (0 : Int32)) (fun z109 => gd (((2 : Int32) * v4) + (1 : Int32)) 50 (nm (v4 + 1) (fun z111 => fX5_rests_L63 v1 v2 v3 m_thrown m_restMany m_restFirst m_cards m_page n z111 r36.2.1 r36.2.2 (upd (upd m_gains (Int32.toNatClampNeg ((2 : Int32) * v4)) z97) (Int32.toNatClampNeg (((2 : Int32) * v4) + (1 : Int32))) z109)))) else nm ((r38 + (2 : Int32)) - (1 : Int32)) (fun z112 => gd (((2 : Int32) * v4) + (1 : Int32)) 50 (nm (v4 + 1) (fun z114 => fX5_rests_L63 v1 v2 v3 m_thrown m_restMany m_restFirst m_cards m_page n z114 r36.2.1 r36.2.2 (upd (upd m_gains (Int32.toNatClampNeg ((2 : Int32) * v4)) z97) (Int32.toNatClampNeg (((2 : Int32) * v4) + (1 : Int32))) z112))))))))))))))))))
set_option maxRecDepth 100000 in
set_option maxHeartbeats 4000000 in
theorem tX5_rests_L63 {p : Program} {l : Launch} {e : Env} {s : State} {m : MethodId} {args : Array Value} {below : List Frame} {meth : Method} {c : Code} {D : va_G} {cI cZ : ClassId} {b0 : Nat} {tt : Nat → Nat} {A : Nat → Prop}  {m_a q_text q_cards q_readCards q_readPage q_page q_trial q_loads q_book q_kept q_isKept q_heldWho q_heldForce q_heldLoad q_heldIs q_gains q_value : Nat}  {v1 : Int32} {v2 : Int32} {v3 : Int32} {m_thrown : Int32} {m_restMany : Int32} {m_restFirst : Int32} {m_cards : Nat → Int32} {m_page : Nat → Int32} {m_textSize : Int32} {m_place : Int32} {m_acts : Int32} {m_held : Int32} {m_seed : Int64} {m_tentMany : Int32} {m_tentFirst : Int32} {m_text : Nat → Int32} {m_readCards : Nat → Int32} {m_readPage : Nat → Int32} {m_book : Nat → Int32} {m_kept : Nat → Int32} {m_isKept : Nat → Int32} {m_heldWho : Nat → Int32} {m_heldForce : Nat → Int32} {m_heldLoad : Nat → Int32} {m_heldIs : Nat → Int32} {m_value : Nat → Int32} {res : Int32 × Int32 × Int32 × Int32 × (Nat → Int32) × (Nat → Int32) × (Nat → Int32)} (C : Cx p s m args meth c cX5_rests 7 (some .int) (cwX5_rests :: GW) RX5) : ∀ (n : Nat) (v4 : Int32) (m_trial : Nat → Int32) (m_loads : Nat → Int32) (m_gains : Nat → Int32) (H : Heap) (locs : List Loc) (ls : Array Slot), fX5_rests_L63 v1 v2 v3 m_thrown m_restMany m_restFirst m_cards m_page n v4 m_trial m_loads m_gains = some res → Wd D cI cZ b0 tt A s [(m_a, .inr (5, [.int m_thrown, .ref q_text, .int m_textSize, .int m_place, .ref q_cards, .ref q_readCards, .ref q_readPage, .ref q_page, .ref q_trial, .ref q_loads, .ref q_book, .int m_acts, .ref q_kept, .ref q_isKept, .int m_held, .ref q_heldWho, .ref q_heldForce, .ref q_heldLoad, .ref q_heldIs, .long m_seed, .int m_tentMany, .int m_tentFirst, .int m_restMany, .int m_restFirst, .ref q_gains, .ref q_value])), (q_text, .inl (cI, 56, .inl m_text)), (q_cards, .inl (cI, 4, .inl m_cards)), (q_readCards, .inl (cI, 4, .inl m_readCards)), (q_readPage, .inl (cI, 17, .inl m_readPage)), (q_page, .inl (cI, 17, .inl m_page)), (q_trial, .inl (cI, 17, .inl m_trial)), (q_loads, .inl (cI, 16, .inl m_loads)), (q_book, .inl (cI, 238, .inl m_book)), (q_kept, .inl (cI, 34, .inl m_kept)), (q_isKept, .inl (cZ, 2, .inl m_isKept)), (q_heldWho, .inl (cI, 6, .inl m_heldWho)), (q_heldForce, .inl (cI, 6, .inl m_heldForce)), (q_heldLoad, .inl (cI, 6, .inl m_heldLoad)), (q_heldIs, .inl (cI, 6, .inl m_heldIs)), (q_gains, .inl (cI, 50, .inl m_gains)), (q_value, .inl (cI, 16, .inl m_value))] H locs → lv_has ls 7 [(0, .ref m_a), (1, .int v1), (2, .int v2), (3, .int v3), (4, .int v4)] → W p l e (rmo 8 178) s m args below meth c H locs 0 0 (MQ below (QI D (fun u : Int32 × Int32 × Int32 × (Nat → Int32) × (Nat → Int32) × (Nat → Int32) => [(m_a, .inr (5, [.int u.1, .ref q_text, .int m_textSize, .int m_place, .ref q_cards, .ref q_readCards, .ref q_readPage, .ref q_page, .ref q_trial, .ref q_loads, .ref q_book, .int m_acts, .ref q_kept, .ref q_isKept, .int m_held, .ref q_heldWho, .ref q_heldForce, .ref q_heldLoad, .ref q_heldIs, .long m_seed, .int m_tentMany, .int m_tentFirst, .int u.2.1, .int u.2.2.1, .ref q_gains, .ref q_value])), (q_text, .inl (cI, 56, .inl m_text)), (q_cards, .inl (cI, 4, .inl m_cards)), (q_readCards, .inl (cI, 4, .inl m_readCards)), (q_readPage, .inl (cI, 17, .inl m_readPage)), (q_page, .inl (cI, 17, .inl m_page)), (q_trial, .inl (cI, 17, .inl u.2.2.2.1)), (q_loads, .inl (cI, 16, .inl u.2.2.2.2.1)), (q_book, .inl (cI, 238, .inl m_book)), (q_kept, .inl (cI, 34, .inl m_kept)), (q_isKept, .inl (cZ, 2, .inl m_isKept)), (q_heldWho, .inl (cI, 6, .inl m_heldWho)), (q_heldForce, .inl (cI, 6, .inl m_heldForce)), (q_heldLoad, .inl (cI, 6, .inl m_heldLoad)), (q_heldIs, .inl (cI, 6, .inl m_heldIs)), (q_gains, .inl (cI, 50, .inl u.2.2.2.2.2)), (q_value, .inl (cI, 16, .inl m_value))]) A res) args s 0 0 A) (F0 m 63 ls []) := by
  obtain ⟨hx, hb, hr, hml, hown, hts, hlk⟩ := id C
  have hg : ∀ w ∈ GW, w.before args s = true := fun w h => hts w (List.mem_cons_of_mem _ h)
  intro n
  induction n with
  | zero =>
    intro _ _ _ _ H locs ls hf
    rw [fX5_rests_L63] at hf
    cases hf
  | succ n ih =>
    intro v4 m_trial m_loads m_gains H locs ls hf w hl
    rw [fX5_rests_L63] at hf
    refine lv_iload hx hb dX5_rests_63 (lv_at hl 4 rfl) ?_
    refine lv_bipush (v := 25) hx hb dX5_rests_65 (by decide) ?_
    refine lv_icmp_ge (tgt := 194) hx hb dX5_rests_67 (by decide) (fun c33 => ?_) (fun c33 => ?_)
    · replace hf := ite_t c33 hf
      refine lv_aload_n hx hb dX5_rests_194 rfl (lv_at hl 0 rfl) ?_
      refine lv_iconst (v := 0) hx hb dX5_rests_195 (by decide) ?_
      refine k_put (ci := 5) (v := .int 0) (ty := .int) (C := RX5) (T := TX5) (N := 26) hx hb hg iX5 tyX5 tyX5_ok nmX5 hown w 0 rfl rfl 22 (by decide) (hg _ w_511) (fun _ h9 => h9) rfl pd_I rfl rfl (Nat.le_of_ble_eq_true rfl) dX5_rests_196 (fun H locs w => ?_)
      have w : Wd D cI cZ b0 tt A s [(m_a, .inr (5, [.int m_thrown, .ref q_text, .int m_textSize, .int m_place, .ref q_cards, .ref q_readCards, .ref q_readPage, .ref q_page, .ref q_trial, .ref q_loads, .ref q_book, .int m_acts, .ref q_kept, .ref q_isKept, .int m_held, .ref q_heldWho, .ref q_heldForce, .ref q_heldLoad, .ref q_heldIs, .long m_seed, .int m_tentMany, .int m_tentFirst, .int 0, .int m_restFirst, .ref q_gains, .ref q_value])), (q_text, .inl (cI, 56, .inl m_text)), (q_cards, .inl (cI, 4, .inl m_cards)), (q_readCards, .inl (cI, 4, .inl m_readCards)), (q_readPage, .inl (cI, 17, .inl m_readPage)), (q_page, .inl (cI, 17, .inl m_page)), (q_trial, .inl (cI, 17, .inl m_trial)), (q_loads, .inl (cI, 16, .inl m_loads)), (q_book, .inl (cI, 238, .inl m_book)), (q_kept, .inl (cI, 34, .inl m_kept)), (q_isKept, .inl (cZ, 2, .inl m_isKept)), (q_heldWho, .inl (cI, 6, .inl m_heldWho)), (q_heldForce, .inl (cI, 6, .inl m_heldForce)), (q_heldLoad, .inl (cI, 6, .inl m_heldLoad)), (q_heldIs, .inl (cI, 6, .inl m_heldIs)), (q_gains, .inl (cI, 50, .inl m_gains)), (q_value, .inl (cI, 16, .inl m_value))] H locs := w
      refine lv_aload_n hx hb dX5_rests_199 rfl (lv_at hl 0 rfl) ?_
      refine lv_bipush (v := (-9)) hx hb dX5_rests_200 (by decide) ?_
      refine k_put (ci := 5) (v := .int (-9)) (ty := .int) (C := RX5) (T := TX5) (N := 26) hx hb hg iX5 tyX5 tyX5_ok nmX5 hown w 0 rfl rfl 23 (by decide) (hg _ w_512) (fun _ h9 => h9) rfl pd_I rfl rfl (Nat.le_of_ble_eq_true rfl) dX5_rests_202 (fun H locs w => ?_)
      have w : Wd D cI cZ b0 tt A s [(m_a, .inr (5, [.int m_thrown, .ref q_text, .int m_textSize, .int m_place, .ref q_cards, .ref q_readCards, .ref q_readPage, .ref q_page, .ref q_trial, .ref q_loads, .ref q_book, .int m_acts, .ref q_kept, .ref q_isKept, .int m_held, .ref q_heldWho, .ref q_heldForce, .ref q_heldLoad, .ref q_heldIs, .long m_seed, .int m_tentMany, .int m_tentFirst, .int 0, .int (-9), .ref q_gains, .ref q_value])), (q_text, .inl (cI, 56, .inl m_text)), (q_cards, .inl (cI, 4, .inl m_cards)), (q_readCards, .inl (cI, 4, .inl m_readCards)), (q_readPage, .inl (cI, 17, .inl m_readPage)), (q_page, .inl (cI, 17, .inl m_page)), (q_trial, .inl (cI, 17, .inl m_trial)), (q_loads, .inl (cI, 16, .inl m_loads)), (q_book, .inl (cI, 238, .inl m_book)), (q_kept, .inl (cI, 34, .inl m_kept)), (q_isKept, .inl (cZ, 2, .inl m_isKept)), (q_heldWho, .inl (cI, 6, .inl m_heldWho)), (q_heldForce, .inl (cI, 6, .inl m_heldForce)), (q_heldLoad, .inl (cI, 6, .inl m_heldLoad)), (q_heldIs, .inl (cI, 6, .inl m_heldIs)), (q_gains, .inl (cI, 50, .inl m_gains)), (q_value, .inl (cI, 16, .inl m_value))] H locs := w
      refine lv_iconst (v := 0) hx hb dX5_rests_205 (by decide) ?_
      refine lv_istore (lv' := [(4, .int 0), (0, .ref m_a), (1, .int v1), (2, .int v2), (3, .int v3)]) hx hb dX5_rests_206 hl (by decide) rfl (fun ls hl => ?_)
      exact tX5_rests_L208 (v1 := v1) (v2 := v2) (v3 := v3) (m_thrown := m_thrown) (m_cards := m_cards) (m_page := m_page) (m_trial := m_trial) (m_loads := m_loads) (m_gains := m_gains) (m_textSize := m_textSize) (m_place := m_place) (m_acts := m_acts) (m_held := m_held) (m_seed := m_seed) (m_tentMany := m_tentMany) (m_tentFirst := m_tentFirst) (m_text := m_text) (m_readCards := m_readCards) (m_readPage := m_readPage) (m_book := m_book) (m_kept := m_kept) (m_isKept := m_isKept) (m_heldWho := m_heldWho) (m_heldForce := m_heldForce) (m_heldLoad := m_heldLoad) (m_heldIs := m_heldIs) (m_value := m_value) (C := C) FU 0 0 (-9) H locs ls hf w (lv_sub hl [1, 2, 3, 4, 0] rfl)
    · replace hf := ite_f c33 hf
      refine lv_aload_n hx hb dX5_rests_70 rfl (lv_at hl 0 rfl) ?_
      replace hf := ob_at hf
      obtain ⟨r34, er34, hf⟩ := hf
      refine k_goV (v0 := m_trial) (res := r34) w [0, 1, 2, 3, 4, 5, 6, 7, 8, 9, 10, 11, 12, 13, 14, 15, 16] rfl (fun _ => rfl) (va_runV (As := []) (rest := []) ⟨hx, hb, hml, hown, hg⟩ (tX5_begin l D cI cZ b0 tt m_a q_text q_cards q_readCards q_readPage q_page q_trial q_loads q_book q_kept q_isKept q_heldWho q_heldForce q_heldLoad q_heldIs q_gains q_value m_thrown m_textSize m_place m_acts m_held m_seed m_tentMany m_tentFirst m_restMany m_restFirst m_text m_cards m_readCards m_readPage m_page m_trial m_loads m_book m_kept m_isKept m_heldWho m_heldForce m_heldLoad m_heldIs m_gains m_value er34 H.size) (cwV 0 hg (gwV w_749 w_750 w_861 w_7 w_751) rfl rfl rfl ⟨rfl, qdX5_begin⟩ ⟨Nat.le_of_ble_eq_true rfl, Nat.le_of_ble_eq_true rfl⟩) (k_preV w [0, 1, 2, 3, 4, 5, 6, 7, 8, 9, 10, 11, 12, 13, 14, 15, 16] (by decide) rfl (q0 := 0) rfl rfl) rfl rfl hl.1 rfl (lv_room (Nat.le_of_ble_eq_true rfl)) dX5_rests_71 ⟨Nat.le_refl _, Nat.le_refl _⟩) (fun H locs w => ?_)
      have w : Wd D cI cZ b0 tt A s [(m_a, .inr (5, [.int m_thrown, .ref q_text, .int m_textSize, .int m_place, .ref q_cards, .ref q_readCards, .ref q_readPage, .ref q_page, .ref q_trial, .ref q_loads, .ref q_book, .int m_acts, .ref q_kept, .ref q_isKept, .int m_held, .ref q_heldWho, .ref q_heldForce, .ref q_heldLoad, .ref q_heldIs, .long m_seed, .int m_tentMany, .int m_tentFirst, .int m_restMany, .int m_restFirst, .ref q_gains, .ref q_value])), (q_text, .inl (cI, 56, .inl m_text)), (q_cards, .inl (cI, 4, .inl m_cards)), (q_readCards, .inl (cI, 4, .inl m_readCards)), (q_readPage, .inl (cI, 17, .inl m_readPage)), (q_page, .inl (cI, 17, .inl m_page)), (q_trial, .inl (cI, 17, .inl r34)), (q_loads, .inl (cI, 16, .inl m_loads)), (q_book, .inl (cI, 238, .inl m_book)), (q_kept, .inl (cI, 34, .inl m_kept)), (q_isKept, .inl (cZ, 2, .inl m_isKept)), (q_heldWho, .inl (cI, 6, .inl m_heldWho)), (q_heldForce, .inl (cI, 6, .inl m_heldForce)), (q_heldLoad, .inl (cI, 6, .inl m_heldLoad)), (q_heldIs, .inl (cI, 6, .inl m_heldIs)), (q_gains, .inl (cI, 50, .inl m_gains)), (q_value, .inl (cI, 16, .inl m_value))] H locs := w
      refine lv_aload_n hx hb dX5_rests_74 rfl (lv_at hl 0 rfl) ?_
      refine lv_iload_n hx hb dX5_rests_75 rfl (lv_at hl 1 rfl) ?_
      refine lv_iload hx hb dX5_rests_76 (lv_at hl 4 rfl) ?_
      refine lv_iconst (v := 5) hx hb dX5_rests_78 (by decide) ?_
      refine lv_idiv hx hb dX5_rests_79 (by decide) ?_
      replace hf := ob_at hf
      obtain ⟨r35, er35, hf⟩ := hf
      refine k_goI (v0 := (r34, m_loads)) (res := r35) w [0, 1, 2, 3, 4, 5, 6, 7, 8, 9, 10, 11, 12, 13, 14, 15, 16] rfl (fun _ => rfl) (va_runV (As := [.int v1, .int (v4 / (5 : Int32))]) (rest := []) ⟨hx, hb, hml, hown, hg⟩ (tX5_puts l D cI cZ b0 tt m_a q_text q_cards q_readCards q_readPage q_page q_trial q_loads q_book q_kept q_isKept q_heldWho q_heldForce q_heldLoad q_heldIs q_gains q_value m_thrown m_textSize m_place m_acts m_held m_seed m_tentMany m_tentFirst m_restMany m_restFirst m_text m_cards m_readCards m_readPage m_page r34 m_loads m_book m_kept m_isKept m_heldWho m_heldForce m_heldLoad m_heldIs m_gains m_value v1 (v4 / (5 : Int32)) er35 H.size) (cwV 2 hg (gwV w_763 w_764 w_863 w_7 w_765) rfl rfl rfl ⟨rfl, qdX5_puts⟩ ⟨Nat.le_of_ble_eq_true rfl, Nat.le_of_ble_eq_true rfl⟩) (k_preV w [0, 1, 2, 3, 4, 5, 6, 7, 8, 9, 10, 11, 12, 13, 14, 15, 16] (by decide) rfl (q0 := 0) rfl rfl) rfl rfl hl.1 rfl (lv_room (Nat.le_of_ble_eq_true rfl)) dX5_rests_80 ⟨Nat.le_refl _, Nat.le_refl _⟩) (fun H locs w => ?_)
      have w : Wd D cI cZ b0 tt A s [(m_a, .inr (5, [.int m_thrown, .ref q_text, .int m_textSize, .int m_place, .ref q_cards, .ref q_readCards, .ref q_readPage, .ref q_page, .ref q_trial, .ref q_loads, .ref q_book, .int m_acts, .ref q_kept, .ref q_isKept, .int m_held, .ref q_heldWho, .ref q_heldForce, .ref q_heldLoad, .ref q_heldIs, .long m_seed, .int m_tentMany, .int m_tentFirst, .int m_restMany, .int m_restFirst, .ref q_gains, .ref q_value])), (q_text, .inl (cI, 56, .inl m_text)), (q_cards, .inl (cI, 4, .inl m_cards)), (q_readCards, .inl (cI, 4, .inl m_readCards)), (q_readPage, .inl (cI, 17, .inl m_readPage)), (q_page, .inl (cI, 17, .inl m_page)), (q_trial, .inl (cI, 17, .inl r35.2.1)), (q_loads, .inl (cI, 16, .inl r35.2.2)), (q_book, .inl (cI, 238, .inl m_book)), (q_kept, .inl (cI, 34, .inl m_kept)), (q_isKept, .inl (cZ, 2, .inl m_isKept)), (q_heldWho, .inl (cI, 6, .inl m_heldWho)), (q_heldForce, .inl (cI, 6, .inl m_heldForce)), (q_heldLoad, .inl (cI, 6, .inl m_heldLoad)), (q_heldIs, .inl (cI, 6, .inl m_heldIs)), (q_gains, .inl (cI, 50, .inl m_gains)), (q_value, .inl (cI, 16, .inl m_value))] H locs := w
      refine lv_pop hx hb dX5_rests_83 rfl ?_
      refine lv_aload_n hx hb dX5_rests_84 rfl (lv_at hl 0 rfl) ?_
      refine lv_iload_n hx hb dX5_rests_85 rfl (lv_at hl 2 rfl) ?_
      refine lv_iload hx hb dX5_rests_86 (lv_at hl 4 rfl) ?_
      refine lv_iconst (v := 5) hx hb dX5_rests_88 (by decide) ?_
      refine lv_irem hx hb dX5_rests_89 (by decide) ?_
      replace hf := ob_at hf
      obtain ⟨r36, er36, hf⟩ := hf
      refine k_goI (v0 := (r35.2.1, r35.2.2)) (res := r36) w [0, 1, 2, 3, 4, 5, 6, 7, 8, 9, 10, 11, 12, 13, 14, 15, 16] rfl (fun _ => rfl) (va_runV (As := [.int v2, .int (v4 - v4 / (5 : Int32) * (5 : Int32))]) (rest := []) ⟨hx, hb, hml, hown, hg⟩ (tX5_puts l D cI cZ b0 tt m_a q_text q_cards q_readCards q_readPage q_page q_trial q_loads q_book q_kept q_isKept q_heldWho q_heldForce q_heldLoad q_heldIs q_gains q_value m_thrown m_textSize m_place m_acts m_held m_seed m_tentMany m_tentFirst m_restMany m_restFirst m_text m_cards m_readCards m_readPage m_page r35.2.1 r35.2.2 m_book m_kept m_isKept m_heldWho m_heldForce m_heldLoad m_heldIs m_gains m_value v2 (v4 - v4 / (5 : Int32) * (5 : Int32)) er36 H.size) (cwV 2 hg (gwV w_763 w_764 w_863 w_7 w_765) rfl rfl rfl ⟨rfl, qdX5_puts⟩ ⟨Nat.le_of_ble_eq_true rfl, Nat.le_of_ble_eq_true rfl⟩) (k_preV w [0, 1, 2, 3, 4, 5, 6, 7, 8, 9, 10, 11, 12, 13, 14, 15, 16] (by decide) rfl (q0 := 0) rfl rfl) rfl rfl hl.1 rfl (lv_room (Nat.le_of_ble_eq_true rfl)) dX5_rests_90 ⟨Nat.le_refl _, Nat.le_refl _⟩) (fun H locs w => ?_)
      have w : Wd D cI cZ b0 tt A s [(m_a, .inr (5, [.int m_thrown, .ref q_text, .int m_textSize, .int m_place, .ref q_cards, .ref q_readCards, .ref q_readPage, .ref q_page, .ref q_trial, .ref q_loads, .ref q_book, .int m_acts, .ref q_kept, .ref q_isKept, .int m_held, .ref q_heldWho, .ref q_heldForce, .ref q_heldLoad, .ref q_heldIs, .long m_seed, .int m_tentMany, .int m_tentFirst, .int m_restMany, .int m_restFirst, .ref q_gains, .ref q_value])), (q_text, .inl (cI, 56, .inl m_text)), (q_cards, .inl (cI, 4, .inl m_cards)), (q_readCards, .inl (cI, 4, .inl m_readCards)), (q_readPage, .inl (cI, 17, .inl m_readPage)), (q_page, .inl (cI, 17, .inl m_page)), (q_trial, .inl (cI, 17, .inl r36.2.1)), (q_loads, .inl (cI, 16, .inl r36.2.2)), (q_book, .inl (cI, 238, .inl m_book)), (q_kept, .inl (cI, 34, .inl m_kept)), (q_isKept, .inl (cZ, 2, .inl m_isKept)), (q_heldWho, .inl (cI, 6, .inl m_heldWho)), (q_heldForce, .inl (cI, 6, .inl m_heldForce)), (q_heldLoad, .inl (cI, 6, .inl m_heldLoad)), (q_heldIs, .inl (cI, 6, .inl m_heldIs)), (q_gains, .inl (cI, 50, .inl m_gains)), (q_value, .inl (cI, 16, .inl m_value))] H locs := w
      refine lv_pop hx hb dX5_rests_93 rfl ?_
      refine lv_aload_n hx hb dX5_rests_94 rfl (lv_at hl 0 rfl) ?_
      refine va_get (D := D) (ci := 5) (v := .ref q_trial) (C := RX5) (T := TX5) (N := 26) hx hb hg iX5 hown w.2.2.2.2.2.2.1 w.1 0 rfl rfl 8 (by decide) (hg _ w_497) (fun _ h9 => h9) rfl dX5_rests_95 ?_
      replace hf := ob_at hf
      obtain ⟨r37, er37, hf⟩ := hf
      refine k_goI0 w [6] rfl (va_runS (As := [.ref q_trial]) (rest := []) ⟨hx, hb, hml, hown, hg⟩ (tX5_there l D cI cZ b0 tt q_trial r36.2.1 er37 H.size) (va_cwS 1 hg (gwS w_606 w_607 w_7 w_608) rfl rfl rfl qdX5_there ⟨Nat.le_of_ble_eq_true rfl, Nat.le_of_ble_eq_true rfl⟩) (k_preS w [6] (by decide) rfl) rfl rfl hl.1 rfl (lv_room (Nat.le_of_ble_eq_true rfl)) dX5_rests_98 ⟨Nat.le_refl _, Nat.le_refl _⟩) (fun H locs w => ?_)
      replace hf := ob_at hf
      obtain ⟨r38, er38, hf⟩ := hf
      refine k_goI0 w [] rfl (va_runS (As := [.int r37]) (rest := []) ⟨hx, hb, hml, hown, hg⟩ (tX5_many l D cI cZ b0 tt r37 er38 H.size) (va_cwS 1 hg (gwS w_653 w_654 w_7 w_655) rfl rfl rfl qdX5_many ⟨Nat.le_of_ble_eq_true rfl, Nat.le_of_ble_eq_true rfl⟩) (k_preS w [] (by decide) rfl) rfl rfl hl.1 rfl (lv_room (Nat.le_of_ble_eq_true rfl)) dX5_rests_101 ⟨Nat.le_refl _, Nat.le_refl _⟩) (fun H locs w => ?_)
      refine lv_istore (lv' := [(5, .int r38), (0, .ref m_a), (1, .int v1), (2, .int v2), (3, .int v3), (4, .int v4)]) hx hb dX5_rests_104 hl (by decide) rfl (fun ls hl => ?_)
      refine lv_aload_n hx hb dX5_rests_106 rfl (lv_at hl 1 rfl) ?_
      refine va_get (D := D) (ci := 5) (v := .ref q_gains) (C := RX5) (T := TX5) (N := 26) hx hb hg iX5 hown w.2.2.2.2.2.2.1 w.1 0 rfl rfl 24 (by decide) (hg _ w_513) (fun _ h9 => h9) rfl dX5_rests_107 ?_
      refine lv_iconst (v := 2) hx hb dX5_rests_110 (by decide) ?_
      refine lv_iload hx hb dX5_rests_111 (lv_at hl 5 rfl) ?_
      refine lv_imul hx hb dX5_rests_113 ?_
      refine lv_iload hx hb dX5_rests_114 (lv_at hl 0 rfl) ?_
      refine lv_aload_n hx hb dX5_rests_116 rfl (lv_at hl 1 rfl) ?_
      refine va_get (D := D) (ci := 5) (v := .ref q_trial) (C := RX5) (T := TX5) (N := 26) hx hb hg iX5 hown w.2.2.2.2.2.2.1 w.1 0 rfl rfl 8 (by decide) (hg _ w_497) (fun _ h9 => h9) rfl dX5_rests_117 ?_
      refine lv_iload_n hx hb dX5_rests_120 rfl (lv_at hl 2 rfl) ?_
      replace hf := gd_at hf
      obtain ⟨hi39, hf⟩ := hf
      refine va_iald hx hb w.2.2.2.2.2.2.1 w.1 6 0 rfl rfl hi39 dX5_rests_121 ?_
      refine lv_if_le (tgt := 129) hx hb dX5_rests_122 (by decide) (fun c40 => ?_) (fun c40 => ?_)
      · replace hf := ite_t c40 hf
        refine lv_iconst (v := 0) hx hb dX5_rests_129 (by decide) ?_
        refine lv_iadd hx hb dX5_rests_130 ?_
        refine lv_iload hx hb dX5_rests_131 (lv_at hl 5 rfl) ?_
        refine lv_iconst (v := 5) hx hb dX5_rests_133 (by decide) ?_
        refine lv_idiv hx hb dX5_rests_134 (by decide) ?_
        refine lv_iconst (v := 4) hx hb dX5_rests_135 (by decide) ?_
        refine lv_icmp_ge (tgt := 143) hx hb dX5_rests_136 (by decide) (fun c41 => ?_) (fun c41 => ?_)
        · replace hf := ite_t c41 hf
          refine lv_iconst (v := 0) hx hb dX5_rests_143 (by decide) ?_
          refine lv_isub hx hb dX5_rests_144 ?_
          refine lv_topi (fun z42 ez42 => ?_)
          replace hf := nm_at ez42 hf
          replace hf := gd_at hf
          obtain ⟨hi43, hf⟩ := hf
          refine k_iast hx hb w 15 rfl hi43 dX5_rests_145 (fun H locs w => ?_)
          have w : Wd D cI cZ b0 tt A s [(m_a, .inr (5, [.int m_thrown, .ref q_text, .int m_textSize, .int m_place, .ref q_cards, .ref q_readCards, .ref q_readPage, .ref q_page, .ref q_trial, .ref q_loads, .ref q_book, .int m_acts, .ref q_kept, .ref q_isKept, .int m_held, .ref q_heldWho, .ref q_heldForce, .ref q_heldLoad, .ref q_heldIs, .long m_seed, .int m_tentMany, .int m_tentFirst, .int m_restMany, .int m_restFirst, .ref q_gains, .ref q_value])), (q_text, .inl (cI, 56, .inl m_text)), (q_cards, .inl (cI, 4, .inl m_cards)), (q_readCards, .inl (cI, 4, .inl m_readCards)), (q_readPage, .inl (cI, 17, .inl m_readPage)), (q_page, .inl (cI, 17, .inl m_page)), (q_trial, .inl (cI, 17, .inl r36.2.1)), (q_loads, .inl (cI, 16, .inl r36.2.2)), (q_book, .inl (cI, 238, .inl m_book)), (q_kept, .inl (cI, 34, .inl m_kept)), (q_isKept, .inl (cZ, 2, .inl m_isKept)), (q_heldWho, .inl (cI, 6, .inl m_heldWho)), (q_heldForce, .inl (cI, 6, .inl m_heldForce)), (q_heldLoad, .inl (cI, 6, .inl m_heldLoad)), (q_heldIs, .inl (cI, 6, .inl m_heldIs)), (q_gains, .inl (cI, 50, .inl (upd m_gains (Int32.toNatClampNeg ((2 : Int32) * v4)) z42))), (q_value, .inl (cI, 16, .inl m_value))] H locs := w
          refine lv_aload_n hx hb dX5_rests_146 rfl (lv_at hl 1 rfl) ?_
          refine va_get (D := D) (ci := 5) (v := .ref q_gains) (C := RX5) (T := TX5) (N := 26) hx hb hg iX5 hown w.2.2.2.2.2.2.1 w.1 0 rfl rfl 24 (by decide) (hg _ w_513) (fun _ h9 => h9) rfl dX5_rests_147 ?_
          refine lv_iconst (v := 2) hx hb dX5_rests_150 (by decide) ?_
          refine lv_iload hx hb dX5_rests_151 (lv_at hl 5 rfl) ?_
          refine lv_imul hx hb dX5_rests_153 ?_
          refine lv_iconst (v := 1) hx hb dX5_rests_154 (by decide) ?_
          refine lv_iadd hx hb dX5_rests_155 ?_
          refine lv_iload hx hb dX5_rests_156 (lv_at hl 0 rfl) ?_
          refine lv_aload_n hx hb dX5_rests_158 rfl (lv_at hl 1 rfl) ?_
          refine va_get (D := D) (ci := 5) (v := .ref q_trial) (C := RX5) (T := TX5) (N := 26) hx hb hg iX5 hown w.2.2.2.2.2.2.1 w.1 0 rfl rfl 8 (by decide) (hg _ w_497) (fun _ h9 => h9) rfl dX5_rests_159 ?_
          refine lv_iload_n hx hb dX5_rests_162 rfl (lv_at hl 3 rfl) ?_
          replace hf := gd_at hf
          obtain ⟨hi44, hf⟩ := hf
          refine va_iald hx hb w.2.2.2.2.2.2.1 w.1 6 0 rfl rfl hi44 dX5_rests_163 ?_
          refine lv_if_le (tgt := 171) hx hb dX5_rests_164 (by decide) (fun c45 => ?_) (fun c45 => ?_)
          · replace hf := ite_t c45 hf
            refine lv_iconst (v := 0) hx hb dX5_rests_171 (by decide) ?_
            refine lv_iadd hx hb dX5_rests_172 ?_
            refine lv_iload hx hb dX5_rests_173 (lv_at hl 5 rfl) ?_
            refine lv_iconst (v := 5) hx hb dX5_rests_175 (by decide) ?_
            refine lv_irem hx hb dX5_rests_176 (by decide) ?_
            refine lv_iconst (v := 4) hx hb dX5_rests_177 (by decide) ?_
            refine lv_icmp_ge (tgt := 185) hx hb dX5_rests_178 (by decide) (fun c46 => ?_) (fun c46 => ?_)
            · replace hf := ite_t c46 hf
              refine lv_iconst (v := 0) hx hb dX5_rests_185 (by decide) ?_
              refine lv_isub hx hb dX5_rests_186 ?_
              refine lv_topi (fun z47 ez47 => ?_)
              replace hf := nm_at ez47 hf
              replace hf := gd_at hf
              obtain ⟨hi48, hf⟩ := hf
              refine k_iast hx hb w 15 rfl hi48 dX5_rests_187 (fun H locs w => ?_)
              have w : Wd D cI cZ b0 tt A s [(m_a, .inr (5, [.int m_thrown, .ref q_text, .int m_textSize, .int m_place, .ref q_cards, .ref q_readCards, .ref q_readPage, .ref q_page, .ref q_trial, .ref q_loads, .ref q_book, .int m_acts, .ref q_kept, .ref q_isKept, .int m_held, .ref q_heldWho, .ref q_heldForce, .ref q_heldLoad, .ref q_heldIs, .long m_seed, .int m_tentMany, .int m_tentFirst, .int m_restMany, .int m_restFirst, .ref q_gains, .ref q_value])), (q_text, .inl (cI, 56, .inl m_text)), (q_cards, .inl (cI, 4, .inl m_cards)), (q_readCards, .inl (cI, 4, .inl m_readCards)), (q_readPage, .inl (cI, 17, .inl m_readPage)), (q_page, .inl (cI, 17, .inl m_page)), (q_trial, .inl (cI, 17, .inl r36.2.1)), (q_loads, .inl (cI, 16, .inl r36.2.2)), (q_book, .inl (cI, 238, .inl m_book)), (q_kept, .inl (cI, 34, .inl m_kept)), (q_isKept, .inl (cZ, 2, .inl m_isKept)), (q_heldWho, .inl (cI, 6, .inl m_heldWho)), (q_heldForce, .inl (cI, 6, .inl m_heldForce)), (q_heldLoad, .inl (cI, 6, .inl m_heldLoad)), (q_heldIs, .inl (cI, 6, .inl m_heldIs)), (q_gains, .inl (cI, 50, .inl (upd (upd m_gains (Int32.toNatClampNeg ((2 : Int32) * v4)) z42) (Int32.toNatClampNeg (((2 : Int32) * v4) + (1 : Int32))) z47))), (q_value, .inl (cI, 16, .inl m_value))] H locs := w
              obtain ⟨z49, ez49⟩ : ∃ y : Int32, y = (v4 + 1) := ⟨_, rfl⟩
              replace hf := nm_at ez49 hf
              refine lv_iinc (v := z49) (lv' := [(4, .int z49), (5, .int r38), (0, .ref m_a), (1, .int v1), (2, .int v2), (3, .int v3)]) hx hb dX5_rests_188 hl (k := 5) rfl (by rw [ez49]; rfl) (by decide) rfl (fun ls hl => ?_)
              refine lv_goto (tgt := 63) hx hb dX5_rests_191 (by decide) ?_
              exact ih z49 r36.2.1 r36.2.2 (upd (upd m_gains (Int32.toNatClampNeg ((2 : Int32) * v4)) z42) (Int32.toNatClampNeg (((2 : Int32) * v4) + (1 : Int32))) z47) H locs ls hf w (lv_sub hl [2, 3, 4, 5, 0] rfl)
            · replace hf := ite_f c46 hf
              refine lv_iconst (v := 1) hx hb dX5_rests_181 (by decide) ?_
              refine lv_goto (tgt := 186) hx hb dX5_rests_182 (by decide) ?_
              refine lv_isub hx hb dX5_rests_186 ?_
              refine lv_topi (fun z50 ez50 => ?_)
              replace hf := nm_at ez50 hf
              replace hf := gd_at hf
              obtain ⟨hi51, hf⟩ := hf
              refine k_iast hx hb w 15 rfl hi51 dX5_rests_187 (fun H locs w => ?_)
              have w : Wd D cI cZ b0 tt A s [(m_a, .inr (5, [.int m_thrown, .ref q_text, .int m_textSize, .int m_place, .ref q_cards, .ref q_readCards, .ref q_readPage, .ref q_page, .ref q_trial, .ref q_loads, .ref q_book, .int m_acts, .ref q_kept, .ref q_isKept, .int m_held, .ref q_heldWho, .ref q_heldForce, .ref q_heldLoad, .ref q_heldIs, .long m_seed, .int m_tentMany, .int m_tentFirst, .int m_restMany, .int m_restFirst, .ref q_gains, .ref q_value])), (q_text, .inl (cI, 56, .inl m_text)), (q_cards, .inl (cI, 4, .inl m_cards)), (q_readCards, .inl (cI, 4, .inl m_readCards)), (q_readPage, .inl (cI, 17, .inl m_readPage)), (q_page, .inl (cI, 17, .inl m_page)), (q_trial, .inl (cI, 17, .inl r36.2.1)), (q_loads, .inl (cI, 16, .inl r36.2.2)), (q_book, .inl (cI, 238, .inl m_book)), (q_kept, .inl (cI, 34, .inl m_kept)), (q_isKept, .inl (cZ, 2, .inl m_isKept)), (q_heldWho, .inl (cI, 6, .inl m_heldWho)), (q_heldForce, .inl (cI, 6, .inl m_heldForce)), (q_heldLoad, .inl (cI, 6, .inl m_heldLoad)), (q_heldIs, .inl (cI, 6, .inl m_heldIs)), (q_gains, .inl (cI, 50, .inl (upd (upd m_gains (Int32.toNatClampNeg ((2 : Int32) * v4)) z42) (Int32.toNatClampNeg (((2 : Int32) * v4) + (1 : Int32))) z50))), (q_value, .inl (cI, 16, .inl m_value))] H locs := w
              obtain ⟨z52, ez52⟩ : ∃ y : Int32, y = (v4 + 1) := ⟨_, rfl⟩
              replace hf := nm_at ez52 hf
              refine lv_iinc (v := z52) (lv' := [(4, .int z52), (5, .int r38), (0, .ref m_a), (1, .int v1), (2, .int v2), (3, .int v3)]) hx hb dX5_rests_188 hl (k := 5) rfl (by rw [ez52]; rfl) (by decide) rfl (fun ls hl => ?_)
              refine lv_goto (tgt := 63) hx hb dX5_rests_191 (by decide) ?_
              exact ih z52 r36.2.1 r36.2.2 (upd (upd m_gains (Int32.toNatClampNeg ((2 : Int32) * v4)) z42) (Int32.toNatClampNeg (((2 : Int32) * v4) + (1 : Int32))) z50) H locs ls hf w (lv_sub hl [2, 3, 4, 5, 0] rfl)
          · replace hf := ite_f c45 hf
            refine lv_iconst (v := 2) hx hb dX5_rests_167 (by decide) ?_
            refine lv_goto (tgt := 172) hx hb dX5_rests_168 (by decide) ?_
            refine lv_iadd hx hb dX5_rests_172 ?_
            refine lv_iload hx hb dX5_rests_173 (lv_at hl 5 rfl) ?_
            refine lv_iconst (v := 5) hx hb dX5_rests_175 (by decide) ?_
            refine lv_irem hx hb dX5_rests_176 (by decide) ?_
            refine lv_iconst (v := 4) hx hb dX5_rests_177 (by decide) ?_
            refine lv_icmp_ge (tgt := 185) hx hb dX5_rests_178 (by decide) (fun c53 => ?_) (fun c53 => ?_)
            · replace hf := ite_t c53 hf
              refine lv_iconst (v := 0) hx hb dX5_rests_185 (by decide) ?_
              refine lv_isub hx hb dX5_rests_186 ?_
              refine lv_topi (fun z54 ez54 => ?_)
              replace hf := nm_at ez54 hf
              replace hf := gd_at hf
              obtain ⟨hi55, hf⟩ := hf
              refine k_iast hx hb w 15 rfl hi55 dX5_rests_187 (fun H locs w => ?_)
              have w : Wd D cI cZ b0 tt A s [(m_a, .inr (5, [.int m_thrown, .ref q_text, .int m_textSize, .int m_place, .ref q_cards, .ref q_readCards, .ref q_readPage, .ref q_page, .ref q_trial, .ref q_loads, .ref q_book, .int m_acts, .ref q_kept, .ref q_isKept, .int m_held, .ref q_heldWho, .ref q_heldForce, .ref q_heldLoad, .ref q_heldIs, .long m_seed, .int m_tentMany, .int m_tentFirst, .int m_restMany, .int m_restFirst, .ref q_gains, .ref q_value])), (q_text, .inl (cI, 56, .inl m_text)), (q_cards, .inl (cI, 4, .inl m_cards)), (q_readCards, .inl (cI, 4, .inl m_readCards)), (q_readPage, .inl (cI, 17, .inl m_readPage)), (q_page, .inl (cI, 17, .inl m_page)), (q_trial, .inl (cI, 17, .inl r36.2.1)), (q_loads, .inl (cI, 16, .inl r36.2.2)), (q_book, .inl (cI, 238, .inl m_book)), (q_kept, .inl (cI, 34, .inl m_kept)), (q_isKept, .inl (cZ, 2, .inl m_isKept)), (q_heldWho, .inl (cI, 6, .inl m_heldWho)), (q_heldForce, .inl (cI, 6, .inl m_heldForce)), (q_heldLoad, .inl (cI, 6, .inl m_heldLoad)), (q_heldIs, .inl (cI, 6, .inl m_heldIs)), (q_gains, .inl (cI, 50, .inl (upd (upd m_gains (Int32.toNatClampNeg ((2 : Int32) * v4)) z42) (Int32.toNatClampNeg (((2 : Int32) * v4) + (1 : Int32))) z54))), (q_value, .inl (cI, 16, .inl m_value))] H locs := w
              obtain ⟨z56, ez56⟩ : ∃ y : Int32, y = (v4 + 1) := ⟨_, rfl⟩
              replace hf := nm_at ez56 hf
              refine lv_iinc (v := z56) (lv' := [(4, .int z56), (5, .int r38), (0, .ref m_a), (1, .int v1), (2, .int v2), (3, .int v3)]) hx hb dX5_rests_188 hl (k := 5) rfl (by rw [ez56]; rfl) (by decide) rfl (fun ls hl => ?_)
              refine lv_goto (tgt := 63) hx hb dX5_rests_191 (by decide) ?_
              exact ih z56 r36.2.1 r36.2.2 (upd (upd m_gains (Int32.toNatClampNeg ((2 : Int32) * v4)) z42) (Int32.toNatClampNeg (((2 : Int32) * v4) + (1 : Int32))) z54) H locs ls hf w (lv_sub hl [2, 3, 4, 5, 0] rfl)
            · replace hf := ite_f c53 hf
              refine lv_iconst (v := 1) hx hb dX5_rests_181 (by decide) ?_
              refine lv_goto (tgt := 186) hx hb dX5_rests_182 (by decide) ?_
              refine lv_isub hx hb dX5_rests_186 ?_
              refine lv_topi (fun z57 ez57 => ?_)
              replace hf := nm_at ez57 hf
              replace hf := gd_at hf
              obtain ⟨hi58, hf⟩ := hf
              refine k_iast hx hb w 15 rfl hi58 dX5_rests_187 (fun H locs w => ?_)
              have w : Wd D cI cZ b0 tt A s [(m_a, .inr (5, [.int m_thrown, .ref q_text, .int m_textSize, .int m_place, .ref q_cards, .ref q_readCards, .ref q_readPage, .ref q_page, .ref q_trial, .ref q_loads, .ref q_book, .int m_acts, .ref q_kept, .ref q_isKept, .int m_held, .ref q_heldWho, .ref q_heldForce, .ref q_heldLoad, .ref q_heldIs, .long m_seed, .int m_tentMany, .int m_tentFirst, .int m_restMany, .int m_restFirst, .ref q_gains, .ref q_value])), (q_text, .inl (cI, 56, .inl m_text)), (q_cards, .inl (cI, 4, .inl m_cards)), (q_readCards, .inl (cI, 4, .inl m_readCards)), (q_readPage, .inl (cI, 17, .inl m_readPage)), (q_page, .inl (cI, 17, .inl m_page)), (q_trial, .inl (cI, 17, .inl r36.2.1)), (q_loads, .inl (cI, 16, .inl r36.2.2)), (q_book, .inl (cI, 238, .inl m_book)), (q_kept, .inl (cI, 34, .inl m_kept)), (q_isKept, .inl (cZ, 2, .inl m_isKept)), (q_heldWho, .inl (cI, 6, .inl m_heldWho)), (q_heldForce, .inl (cI, 6, .inl m_heldForce)), (q_heldLoad, .inl (cI, 6, .inl m_heldLoad)), (q_heldIs, .inl (cI, 6, .inl m_heldIs)), (q_gains, .inl (cI, 50, .inl (upd (upd m_gains (Int32.toNatClampNeg ((2 : Int32) * v4)) z42) (Int32.toNatClampNeg (((2 : Int32) * v4) + (1 : Int32))) z57))), (q_value, .inl (cI, 16, .inl m_value))] H locs := w
              obtain ⟨z59, ez59⟩ : ∃ y : Int32, y = (v4 + 1) := ⟨_, rfl⟩
              replace hf := nm_at ez59 hf
              refine lv_iinc (v := z59) (lv' := [(4, .int z59), (5, .int r38), (0, .ref m_a), (1, .int v1), (2, .int v2), (3, .int v3)]) hx hb dX5_rests_188 hl (k := 5) rfl (by rw [ez59]; rfl) (by decide) rfl (fun ls hl => ?_)
              refine lv_goto (tgt := 63) hx hb dX5_rests_191 (by decide) ?_
              exact ih z59 r36.2.1 r36.2.2 (upd (upd m_gains (Int32.toNatClampNeg ((2 : Int32) * v4)) z42) (Int32.toNatClampNeg (((2 : Int32) * v4) + (1 : Int32))) z57) H locs ls hf w (lv_sub hl [2, 3, 4, 5, 0] rfl)
        · replace hf := ite_f c41 hf
          refine lv_iconst (v := 1) hx hb dX5_rests_139 (by decide) ?_
          refine lv_goto (tgt := 144) hx hb dX5_rests_140 (by decide) ?_
          refine lv_isub hx hb dX5_rests_144 ?_
          refine lv_topi (fun z60 ez60 => ?_)
          replace hf := nm_at ez60 hf
          replace hf := gd_at hf
          obtain ⟨hi61, hf⟩ := hf
          refine k_iast hx hb w 15 rfl hi61 dX5_rests_145 (fun H locs w => ?_)
          have w : Wd D cI cZ b0 tt A s [(m_a, .inr (5, [.int m_thrown, .ref q_text, .int m_textSize, .int m_place, .ref q_cards, .ref q_readCards, .ref q_readPage, .ref q_page, .ref q_trial, .ref q_loads, .ref q_book, .int m_acts, .ref q_kept, .ref q_isKept, .int m_held, .ref q_heldWho, .ref q_heldForce, .ref q_heldLoad, .ref q_heldIs, .long m_seed, .int m_tentMany, .int m_tentFirst, .int m_restMany, .int m_restFirst, .ref q_gains, .ref q_value])), (q_text, .inl (cI, 56, .inl m_text)), (q_cards, .inl (cI, 4, .inl m_cards)), (q_readCards, .inl (cI, 4, .inl m_readCards)), (q_readPage, .inl (cI, 17, .inl m_readPage)), (q_page, .inl (cI, 17, .inl m_page)), (q_trial, .inl (cI, 17, .inl r36.2.1)), (q_loads, .inl (cI, 16, .inl r36.2.2)), (q_book, .inl (cI, 238, .inl m_book)), (q_kept, .inl (cI, 34, .inl m_kept)), (q_isKept, .inl (cZ, 2, .inl m_isKept)), (q_heldWho, .inl (cI, 6, .inl m_heldWho)), (q_heldForce, .inl (cI, 6, .inl m_heldForce)), (q_heldLoad, .inl (cI, 6, .inl m_heldLoad)), (q_heldIs, .inl (cI, 6, .inl m_heldIs)), (q_gains, .inl (cI, 50, .inl (upd m_gains (Int32.toNatClampNeg ((2 : Int32) * v4)) z60))), (q_value, .inl (cI, 16, .inl m_value))] H locs := w
          refine lv_aload_n hx hb dX5_rests_146 rfl (lv_at hl 1 rfl) ?_
          refine va_get (D := D) (ci := 5) (v := .ref q_gains) (C := RX5) (T := TX5) (N := 26) hx hb hg iX5 hown w.2.2.2.2.2.2.1 w.1 0 rfl rfl 24 (by decide) (hg _ w_513) (fun _ h9 => h9) rfl dX5_rests_147 ?_
          refine lv_iconst (v := 2) hx hb dX5_rests_150 (by decide) ?_
          refine lv_iload hx hb dX5_rests_151 (lv_at hl 5 rfl) ?_
          refine lv_imul hx hb dX5_rests_153 ?_
          refine lv_iconst (v := 1) hx hb dX5_rests_154 (by decide) ?_
          refine lv_iadd hx hb dX5_rests_155 ?_
          refine lv_iload hx hb dX5_rests_156 (lv_at hl 0 rfl) ?_
          refine lv_aload_n hx hb dX5_rests_158 rfl (lv_at hl 1 rfl) ?_
          refine va_get (D := D) (ci := 5) (v := .ref q_trial) (C := RX5) (T := TX5) (N := 26) hx hb hg iX5 hown w.2.2.2.2.2.2.1 w.1 0 rfl rfl 8 (by decide) (hg _ w_497) (fun _ h9 => h9) rfl dX5_rests_159 ?_
          refine lv_iload_n hx hb dX5_rests_162 rfl (lv_at hl 3 rfl) ?_
          replace hf := gd_at hf
          obtain ⟨hi62, hf⟩ := hf
          refine va_iald hx hb w.2.2.2.2.2.2.1 w.1 6 0 rfl rfl hi62 dX5_rests_163 ?_
          refine lv_if_le (tgt := 171) hx hb dX5_rests_164 (by decide) (fun c63 => ?_) (fun c63 => ?_)
          · replace hf := ite_t c63 hf
            refine lv_iconst (v := 0) hx hb dX5_rests_171 (by decide) ?_
            refine lv_iadd hx hb dX5_rests_172 ?_
            refine lv_iload hx hb dX5_rests_173 (lv_at hl 5 rfl) ?_
            refine lv_iconst (v := 5) hx hb dX5_rests_175 (by decide) ?_
            refine lv_irem hx hb dX5_rests_176 (by decide) ?_
            refine lv_iconst (v := 4) hx hb dX5_rests_177 (by decide) ?_
            refine lv_icmp_ge (tgt := 185) hx hb dX5_rests_178 (by decide) (fun c64 => ?_) (fun c64 => ?_)
            · replace hf := ite_t c64 hf
              refine lv_iconst (v := 0) hx hb dX5_rests_185 (by decide) ?_
              refine lv_isub hx hb dX5_rests_186 ?_
              refine lv_topi (fun z65 ez65 => ?_)
              replace hf := nm_at ez65 hf
              replace hf := gd_at hf
              obtain ⟨hi66, hf⟩ := hf
              refine k_iast hx hb w 15 rfl hi66 dX5_rests_187 (fun H locs w => ?_)
              have w : Wd D cI cZ b0 tt A s [(m_a, .inr (5, [.int m_thrown, .ref q_text, .int m_textSize, .int m_place, .ref q_cards, .ref q_readCards, .ref q_readPage, .ref q_page, .ref q_trial, .ref q_loads, .ref q_book, .int m_acts, .ref q_kept, .ref q_isKept, .int m_held, .ref q_heldWho, .ref q_heldForce, .ref q_heldLoad, .ref q_heldIs, .long m_seed, .int m_tentMany, .int m_tentFirst, .int m_restMany, .int m_restFirst, .ref q_gains, .ref q_value])), (q_text, .inl (cI, 56, .inl m_text)), (q_cards, .inl (cI, 4, .inl m_cards)), (q_readCards, .inl (cI, 4, .inl m_readCards)), (q_readPage, .inl (cI, 17, .inl m_readPage)), (q_page, .inl (cI, 17, .inl m_page)), (q_trial, .inl (cI, 17, .inl r36.2.1)), (q_loads, .inl (cI, 16, .inl r36.2.2)), (q_book, .inl (cI, 238, .inl m_book)), (q_kept, .inl (cI, 34, .inl m_kept)), (q_isKept, .inl (cZ, 2, .inl m_isKept)), (q_heldWho, .inl (cI, 6, .inl m_heldWho)), (q_heldForce, .inl (cI, 6, .inl m_heldForce)), (q_heldLoad, .inl (cI, 6, .inl m_heldLoad)), (q_heldIs, .inl (cI, 6, .inl m_heldIs)), (q_gains, .inl (cI, 50, .inl (upd (upd m_gains (Int32.toNatClampNeg ((2 : Int32) * v4)) z60) (Int32.toNatClampNeg (((2 : Int32) * v4) + (1 : Int32))) z65))), (q_value, .inl (cI, 16, .inl m_value))] H locs := w
              obtain ⟨z67, ez67⟩ : ∃ y : Int32, y = (v4 + 1) := ⟨_, rfl⟩
              replace hf := nm_at ez67 hf
              refine lv_iinc (v := z67) (lv' := [(4, .int z67), (5, .int r38), (0, .ref m_a), (1, .int v1), (2, .int v2), (3, .int v3)]) hx hb dX5_rests_188 hl (k := 5) rfl (by rw [ez67]; rfl) (by decide) rfl (fun ls hl => ?_)
              refine lv_goto (tgt := 63) hx hb dX5_rests_191 (by decide) ?_
              exact ih z67 r36.2.1 r36.2.2 (upd (upd m_gains (Int32.toNatClampNeg ((2 : Int32) * v4)) z60) (Int32.toNatClampNeg (((2 : Int32) * v4) + (1 : Int32))) z65) H locs ls hf w (lv_sub hl [2, 3, 4, 5, 0] rfl)
            · replace hf := ite_f c64 hf
              refine lv_iconst (v := 1) hx hb dX5_rests_181 (by decide) ?_
              refine lv_goto (tgt := 186) hx hb dX5_rests_182 (by decide) ?_
              refine lv_isub hx hb dX5_rests_186 ?_
              refine lv_topi (fun z68 ez68 => ?_)
              replace hf := nm_at ez68 hf
              replace hf := gd_at hf
              obtain ⟨hi69, hf⟩ := hf
              refine k_iast hx hb w 15 rfl hi69 dX5_rests_187 (fun H locs w => ?_)
              have w : Wd D cI cZ b0 tt A s [(m_a, .inr (5, [.int m_thrown, .ref q_text, .int m_textSize, .int m_place, .ref q_cards, .ref q_readCards, .ref q_readPage, .ref q_page, .ref q_trial, .ref q_loads, .ref q_book, .int m_acts, .ref q_kept, .ref q_isKept, .int m_held, .ref q_heldWho, .ref q_heldForce, .ref q_heldLoad, .ref q_heldIs, .long m_seed, .int m_tentMany, .int m_tentFirst, .int m_restMany, .int m_restFirst, .ref q_gains, .ref q_value])), (q_text, .inl (cI, 56, .inl m_text)), (q_cards, .inl (cI, 4, .inl m_cards)), (q_readCards, .inl (cI, 4, .inl m_readCards)), (q_readPage, .inl (cI, 17, .inl m_readPage)), (q_page, .inl (cI, 17, .inl m_page)), (q_trial, .inl (cI, 17, .inl r36.2.1)), (q_loads, .inl (cI, 16, .inl r36.2.2)), (q_book, .inl (cI, 238, .inl m_book)), (q_kept, .inl (cI, 34, .inl m_kept)), (q_isKept, .inl (cZ, 2, .inl m_isKept)), (q_heldWho, .inl (cI, 6, .inl m_heldWho)), (q_heldForce, .inl (cI, 6, .inl m_heldForce)), (q_heldLoad, .inl (cI, 6, .inl m_heldLoad)), (q_heldIs, .inl (cI, 6, .inl m_heldIs)), (q_gains, .inl (cI, 50, .inl (upd (upd m_gains (Int32.toNatClampNeg ((2 : Int32) * v4)) z60) (Int32.toNatClampNeg (((2 : Int32) * v4) + (1 : Int32))) z68))), (q_value, .inl (cI, 16, .inl m_value))] H locs := w
              obtain ⟨z70, ez70⟩ : ∃ y : Int32, y = (v4 + 1) := ⟨_, rfl⟩
              replace hf := nm_at ez70 hf
              refine lv_iinc (v := z70) (lv' := [(4, .int z70), (5, .int r38), (0, .ref m_a), (1, .int v1), (2, .int v2), (3, .int v3)]) hx hb dX5_rests_188 hl (k := 5) rfl (by rw [ez70]; rfl) (by decide) rfl (fun ls hl => ?_)
              refine lv_goto (tgt := 63) hx hb dX5_rests_191 (by decide) ?_
              exact ih z70 r36.2.1 r36.2.2 (upd (upd m_gains (Int32.toNatClampNeg ((2 : Int32) * v4)) z60) (Int32.toNatClampNeg (((2 : Int32) * v4) + (1 : Int32))) z68) H locs ls hf w (lv_sub hl [2, 3, 4, 5, 0] rfl)
          · replace hf := ite_f c63 hf
            refine lv_iconst (v := 2) hx hb dX5_rests_167 (by decide) ?_
            refine lv_goto (tgt := 172) hx hb dX5_rests_168 (by decide) ?_
            refine lv_iadd hx hb dX5_rests_172 ?_
            refine lv_iload hx hb dX5_rests_173 (lv_at hl 5 rfl) ?_
            refine lv_iconst (v := 5) hx hb dX5_rests_175 (by decide) ?_
            refine lv_irem hx hb dX5_rests_176 (by decide) ?_
            refine lv_iconst (v := 4) hx hb dX5_rests_177 (by decide) ?_
            refine lv_icmp_ge (tgt := 185) hx hb dX5_rests_178 (by decide) (fun c71 => ?_) (fun c71 => ?_)
            · replace hf := ite_t c71 hf
              refine lv_iconst (v := 0) hx hb dX5_rests_185 (by decide) ?_
              refine lv_isub hx hb dX5_rests_186 ?_
              refine lv_topi (fun z72 ez72 => ?_)
              replace hf := nm_at ez72 hf
              replace hf := gd_at hf
              obtain ⟨hi73, hf⟩ := hf
              refine k_iast hx hb w 15 rfl hi73 dX5_rests_187 (fun H locs w => ?_)
              have w : Wd D cI cZ b0 tt A s [(m_a, .inr (5, [.int m_thrown, .ref q_text, .int m_textSize, .int m_place, .ref q_cards, .ref q_readCards, .ref q_readPage, .ref q_page, .ref q_trial, .ref q_loads, .ref q_book, .int m_acts, .ref q_kept, .ref q_isKept, .int m_held, .ref q_heldWho, .ref q_heldForce, .ref q_heldLoad, .ref q_heldIs, .long m_seed, .int m_tentMany, .int m_tentFirst, .int m_restMany, .int m_restFirst, .ref q_gains, .ref q_value])), (q_text, .inl (cI, 56, .inl m_text)), (q_cards, .inl (cI, 4, .inl m_cards)), (q_readCards, .inl (cI, 4, .inl m_readCards)), (q_readPage, .inl (cI, 17, .inl m_readPage)), (q_page, .inl (cI, 17, .inl m_page)), (q_trial, .inl (cI, 17, .inl r36.2.1)), (q_loads, .inl (cI, 16, .inl r36.2.2)), (q_book, .inl (cI, 238, .inl m_book)), (q_kept, .inl (cI, 34, .inl m_kept)), (q_isKept, .inl (cZ, 2, .inl m_isKept)), (q_heldWho, .inl (cI, 6, .inl m_heldWho)), (q_heldForce, .inl (cI, 6, .inl m_heldForce)), (q_heldLoad, .inl (cI, 6, .inl m_heldLoad)), (q_heldIs, .inl (cI, 6, .inl m_heldIs)), (q_gains, .inl (cI, 50, .inl (upd (upd m_gains (Int32.toNatClampNeg ((2 : Int32) * v4)) z60) (Int32.toNatClampNeg (((2 : Int32) * v4) + (1 : Int32))) z72))), (q_value, .inl (cI, 16, .inl m_value))] H locs := w
              obtain ⟨z74, ez74⟩ : ∃ y : Int32, y = (v4 + 1) := ⟨_, rfl⟩
              replace hf := nm_at ez74 hf
              refine lv_iinc (v := z74) (lv' := [(4, .int z74), (5, .int r38), (0, .ref m_a), (1, .int v1), (2, .int v2), (3, .int v3)]) hx hb dX5_rests_188 hl (k := 5) rfl (by rw [ez74]; rfl) (by decide) rfl (fun ls hl => ?_)
              refine lv_goto (tgt := 63) hx hb dX5_rests_191 (by decide) ?_
              exact ih z74 r36.2.1 r36.2.2 (upd (upd m_gains (Int32.toNatClampNeg ((2 : Int32) * v4)) z60) (Int32.toNatClampNeg (((2 : Int32) * v4) + (1 : Int32))) z72) H locs ls hf w (lv_sub hl [2, 3, 4, 5, 0] rfl)
            · replace hf := ite_f c71 hf
              refine lv_iconst (v := 1) hx hb dX5_rests_181 (by decide) ?_
              refine lv_goto (tgt := 186) hx hb dX5_rests_182 (by decide) ?_
              refine lv_isub hx hb dX5_rests_186 ?_
              refine lv_topi (fun z75 ez75 => ?_)
              replace hf := nm_at ez75 hf
              replace hf := gd_at hf
              obtain ⟨hi76, hf⟩ := hf
              refine k_iast hx hb w 15 rfl hi76 dX5_rests_187 (fun H locs w => ?_)
              have w : Wd D cI cZ b0 tt A s [(m_a, .inr (5, [.int m_thrown, .ref q_text, .int m_textSize, .int m_place, .ref q_cards, .ref q_readCards, .ref q_readPage, .ref q_page, .ref q_trial, .ref q_loads, .ref q_book, .int m_acts, .ref q_kept, .ref q_isKept, .int m_held, .ref q_heldWho, .ref q_heldForce, .ref q_heldLoad, .ref q_heldIs, .long m_seed, .int m_tentMany, .int m_tentFirst, .int m_restMany, .int m_restFirst, .ref q_gains, .ref q_value])), (q_text, .inl (cI, 56, .inl m_text)), (q_cards, .inl (cI, 4, .inl m_cards)), (q_readCards, .inl (cI, 4, .inl m_readCards)), (q_readPage, .inl (cI, 17, .inl m_readPage)), (q_page, .inl (cI, 17, .inl m_page)), (q_trial, .inl (cI, 17, .inl r36.2.1)), (q_loads, .inl (cI, 16, .inl r36.2.2)), (q_book, .inl (cI, 238, .inl m_book)), (q_kept, .inl (cI, 34, .inl m_kept)), (q_isKept, .inl (cZ, 2, .inl m_isKept)), (q_heldWho, .inl (cI, 6, .inl m_heldWho)), (q_heldForce, .inl (cI, 6, .inl m_heldForce)), (q_heldLoad, .inl (cI, 6, .inl m_heldLoad)), (q_heldIs, .inl (cI, 6, .inl m_heldIs)), (q_gains, .inl (cI, 50, .inl (upd (upd m_gains (Int32.toNatClampNeg ((2 : Int32) * v4)) z60) (Int32.toNatClampNeg (((2 : Int32) * v4) + (1 : Int32))) z75))), (q_value, .inl (cI, 16, .inl m_value))] H locs := w
              obtain ⟨z77, ez77⟩ : ∃ y : Int32, y = (v4 + 1) := ⟨_, rfl⟩
              replace hf := nm_at ez77 hf
              refine lv_iinc (v := z77) (lv' := [(4, .int z77), (5, .int r38), (0, .ref m_a), (1, .int v1), (2, .int v2), (3, .int v3)]) hx hb dX5_rests_188 hl (k := 5) rfl (by rw [ez77]; rfl) (by decide) rfl (fun ls hl => ?_)
              refine lv_goto (tgt := 63) hx hb dX5_rests_191 (by decide) ?_
              exact ih z77 r36.2.1 r36.2.2 (upd (upd m_gains (Int32.toNatClampNeg ((2 : Int32) * v4)) z60) (Int32.toNatClampNeg (((2 : Int32) * v4) + (1 : Int32))) z75) H locs ls hf w (lv_sub hl [2, 3, 4, 5, 0] rfl)
      · replace hf := ite_f c40 hf
        refine lv_iconst (v := 2) hx hb dX5_rests_125 (by decide) ?_
        refine lv_goto (tgt := 130) hx hb dX5_rests_126 (by decide) ?_
        refine lv_iadd hx hb dX5_rests_130 ?_
        refine lv_iload hx hb dX5_rests_131 (lv_at hl 5 rfl) ?_
        refine lv_iconst (v := 5) hx hb dX5_rests_133 (by decide) ?_
        refine lv_idiv hx hb dX5_rests_134 (by decide) ?_
        refine lv_iconst (v := 4) hx hb dX5_rests_135 (by decide) ?_
        refine lv_icmp_ge (tgt := 143) hx hb dX5_rests_136 (by decide) (fun c78 => ?_) (fun c78 => ?_)
        · replace hf := ite_t c78 hf
          refine lv_iconst (v := 0) hx hb dX5_rests_143 (by decide) ?_
          refine lv_isub hx hb dX5_rests_144 ?_
          refine lv_topi (fun z79 ez79 => ?_)
          replace hf := nm_at ez79 hf
          replace hf := gd_at hf
          obtain ⟨hi80, hf⟩ := hf
          refine k_iast hx hb w 15 rfl hi80 dX5_rests_145 (fun H locs w => ?_)
          have w : Wd D cI cZ b0 tt A s [(m_a, .inr (5, [.int m_thrown, .ref q_text, .int m_textSize, .int m_place, .ref q_cards, .ref q_readCards, .ref q_readPage, .ref q_page, .ref q_trial, .ref q_loads, .ref q_book, .int m_acts, .ref q_kept, .ref q_isKept, .int m_held, .ref q_heldWho, .ref q_heldForce, .ref q_heldLoad, .ref q_heldIs, .long m_seed, .int m_tentMany, .int m_tentFirst, .int m_restMany, .int m_restFirst, .ref q_gains, .ref q_value])), (q_text, .inl (cI, 56, .inl m_text)), (q_cards, .inl (cI, 4, .inl m_cards)), (q_readCards, .inl (cI, 4, .inl m_readCards)), (q_readPage, .inl (cI, 17, .inl m_readPage)), (q_page, .inl (cI, 17, .inl m_page)), (q_trial, .inl (cI, 17, .inl r36.2.1)), (q_loads, .inl (cI, 16, .inl r36.2.2)), (q_book, .inl (cI, 238, .inl m_book)), (q_kept, .inl (cI, 34, .inl m_kept)), (q_isKept, .inl (cZ, 2, .inl m_isKept)), (q_heldWho, .inl (cI, 6, .inl m_heldWho)), (q_heldForce, .inl (cI, 6, .inl m_heldForce)), (q_heldLoad, .inl (cI, 6, .inl m_heldLoad)), (q_heldIs, .inl (cI, 6, .inl m_heldIs)), (q_gains, .inl (cI, 50, .inl (upd m_gains (Int32.toNatClampNeg ((2 : Int32) * v4)) z79))), (q_value, .inl (cI, 16, .inl m_value))] H locs := w
          refine lv_aload_n hx hb dX5_rests_146 rfl (lv_at hl 1 rfl) ?_
          refine va_get (D := D) (ci := 5) (v := .ref q_gains) (C := RX5) (T := TX5) (N := 26) hx hb hg iX5 hown w.2.2.2.2.2.2.1 w.1 0 rfl rfl 24 (by decide) (hg _ w_513) (fun _ h9 => h9) rfl dX5_rests_147 ?_
          refine lv_iconst (v := 2) hx hb dX5_rests_150 (by decide) ?_
          refine lv_iload hx hb dX5_rests_151 (lv_at hl 5 rfl) ?_
          refine lv_imul hx hb dX5_rests_153 ?_
          refine lv_iconst (v := 1) hx hb dX5_rests_154 (by decide) ?_
          refine lv_iadd hx hb dX5_rests_155 ?_
          refine lv_iload hx hb dX5_rests_156 (lv_at hl 0 rfl) ?_
          refine lv_aload_n hx hb dX5_rests_158 rfl (lv_at hl 1 rfl) ?_
          refine va_get (D := D) (ci := 5) (v := .ref q_trial) (C := RX5) (T := TX5) (N := 26) hx hb hg iX5 hown w.2.2.2.2.2.2.1 w.1 0 rfl rfl 8 (by decide) (hg _ w_497) (fun _ h9 => h9) rfl dX5_rests_159 ?_
          refine lv_iload_n hx hb dX5_rests_162 rfl (lv_at hl 3 rfl) ?_
          replace hf := gd_at hf
          obtain ⟨hi81, hf⟩ := hf
          refine va_iald hx hb w.2.2.2.2.2.2.1 w.1 6 0 rfl rfl hi81 dX5_rests_163 ?_
          refine lv_if_le (tgt := 171) hx hb dX5_rests_164 (by decide) (fun c82 => ?_) (fun c82 => ?_)
          · replace hf := ite_t c82 hf
            refine lv_iconst (v := 0) hx hb dX5_rests_171 (by decide) ?_
            refine lv_iadd hx hb dX5_rests_172 ?_
            refine lv_iload hx hb dX5_rests_173 (lv_at hl 5 rfl) ?_
            refine lv_iconst (v := 5) hx hb dX5_rests_175 (by decide) ?_
            refine lv_irem hx hb dX5_rests_176 (by decide) ?_
            refine lv_iconst (v := 4) hx hb dX5_rests_177 (by decide) ?_
            refine lv_icmp_ge (tgt := 185) hx hb dX5_rests_178 (by decide) (fun c83 => ?_) (fun c83 => ?_)
            · replace hf := ite_t c83 hf
              refine lv_iconst (v := 0) hx hb dX5_rests_185 (by decide) ?_
              refine lv_isub hx hb dX5_rests_186 ?_
              refine lv_topi (fun z84 ez84 => ?_)
              replace hf := nm_at ez84 hf
              replace hf := gd_at hf
              obtain ⟨hi85, hf⟩ := hf
              refine k_iast hx hb w 15 rfl hi85 dX5_rests_187 (fun H locs w => ?_)
              have w : Wd D cI cZ b0 tt A s [(m_a, .inr (5, [.int m_thrown, .ref q_text, .int m_textSize, .int m_place, .ref q_cards, .ref q_readCards, .ref q_readPage, .ref q_page, .ref q_trial, .ref q_loads, .ref q_book, .int m_acts, .ref q_kept, .ref q_isKept, .int m_held, .ref q_heldWho, .ref q_heldForce, .ref q_heldLoad, .ref q_heldIs, .long m_seed, .int m_tentMany, .int m_tentFirst, .int m_restMany, .int m_restFirst, .ref q_gains, .ref q_value])), (q_text, .inl (cI, 56, .inl m_text)), (q_cards, .inl (cI, 4, .inl m_cards)), (q_readCards, .inl (cI, 4, .inl m_readCards)), (q_readPage, .inl (cI, 17, .inl m_readPage)), (q_page, .inl (cI, 17, .inl m_page)), (q_trial, .inl (cI, 17, .inl r36.2.1)), (q_loads, .inl (cI, 16, .inl r36.2.2)), (q_book, .inl (cI, 238, .inl m_book)), (q_kept, .inl (cI, 34, .inl m_kept)), (q_isKept, .inl (cZ, 2, .inl m_isKept)), (q_heldWho, .inl (cI, 6, .inl m_heldWho)), (q_heldForce, .inl (cI, 6, .inl m_heldForce)), (q_heldLoad, .inl (cI, 6, .inl m_heldLoad)), (q_heldIs, .inl (cI, 6, .inl m_heldIs)), (q_gains, .inl (cI, 50, .inl (upd (upd m_gains (Int32.toNatClampNeg ((2 : Int32) * v4)) z79) (Int32.toNatClampNeg (((2 : Int32) * v4) + (1 : Int32))) z84))), (q_value, .inl (cI, 16, .inl m_value))] H locs := w
              obtain ⟨z86, ez86⟩ : ∃ y : Int32, y = (v4 + 1) := ⟨_, rfl⟩
              replace hf := nm_at ez86 hf
              refine lv_iinc (v := z86) (lv' := [(4, .int z86), (5, .int r38), (0, .ref m_a), (1, .int v1), (2, .int v2), (3, .int v3)]) hx hb dX5_rests_188 hl (k := 5) rfl (by rw [ez86]; rfl) (by decide) rfl (fun ls hl => ?_)
              refine lv_goto (tgt := 63) hx hb dX5_rests_191 (by decide) ?_
              exact ih z86 r36.2.1 r36.2.2 (upd (upd m_gains (Int32.toNatClampNeg ((2 : Int32) * v4)) z79) (Int32.toNatClampNeg (((2 : Int32) * v4) + (1 : Int32))) z84) H locs ls hf w (lv_sub hl [2, 3, 4, 5, 0] rfl)
            · replace hf := ite_f c83 hf
              refine lv_iconst (v := 1) hx hb dX5_rests_181 (by decide) ?_
              refine lv_goto (tgt := 186) hx hb dX5_rests_182 (by decide) ?_
              refine lv_isub hx hb dX5_rests_186 ?_
              refine lv_topi (fun z87 ez87 => ?_)
              replace hf := nm_at ez87 hf
              replace hf := gd_at hf
              obtain ⟨hi88, hf⟩ := hf
              refine k_iast hx hb w 15 rfl hi88 dX5_rests_187 (fun H locs w => ?_)
              have w : Wd D cI cZ b0 tt A s [(m_a, .inr (5, [.int m_thrown, .ref q_text, .int m_textSize, .int m_place, .ref q_cards, .ref q_readCards, .ref q_readPage, .ref q_page, .ref q_trial, .ref q_loads, .ref q_book, .int m_acts, .ref q_kept, .ref q_isKept, .int m_held, .ref q_heldWho, .ref q_heldForce, .ref q_heldLoad, .ref q_heldIs, .long m_seed, .int m_tentMany, .int m_tentFirst, .int m_restMany, .int m_restFirst, .ref q_gains, .ref q_value])), (q_text, .inl (cI, 56, .inl m_text)), (q_cards, .inl (cI, 4, .inl m_cards)), (q_readCards, .inl (cI, 4, .inl m_readCards)), (q_readPage, .inl (cI, 17, .inl m_readPage)), (q_page, .inl (cI, 17, .inl m_page)), (q_trial, .inl (cI, 17, .inl r36.2.1)), (q_loads, .inl (cI, 16, .inl r36.2.2)), (q_book, .inl (cI, 238, .inl m_book)), (q_kept, .inl (cI, 34, .inl m_kept)), (q_isKept, .inl (cZ, 2, .inl m_isKept)), (q_heldWho, .inl (cI, 6, .inl m_heldWho)), (q_heldForce, .inl (cI, 6, .inl m_heldForce)), (q_heldLoad, .inl (cI, 6, .inl m_heldLoad)), (q_heldIs, .inl (cI, 6, .inl m_heldIs)), (q_gains, .inl (cI, 50, .inl (upd (upd m_gains (Int32.toNatClampNeg ((2 : Int32) * v4)) z79) (Int32.toNatClampNeg (((2 : Int32) * v4) + (1 : Int32))) z87))), (q_value, .inl (cI, 16, .inl m_value))] H locs := w
              obtain ⟨z89, ez89⟩ : ∃ y : Int32, y = (v4 + 1) := ⟨_, rfl⟩
              replace hf := nm_at ez89 hf
              refine lv_iinc (v := z89) (lv' := [(4, .int z89), (5, .int r38), (0, .ref m_a), (1, .int v1), (2, .int v2), (3, .int v3)]) hx hb dX5_rests_188 hl (k := 5) rfl (by rw [ez89]; rfl) (by decide) rfl (fun ls hl => ?_)
              refine lv_goto (tgt := 63) hx hb dX5_rests_191 (by decide) ?_
              exact ih z89 r36.2.1 r36.2.2 (upd (upd m_gains (Int32.toNatClampNeg ((2 : Int32) * v4)) z79) (Int32.toNatClampNeg (((2 : Int32) * v4) + (1 : Int32))) z87) H locs ls hf w (lv_sub hl [2, 3, 4, 5, 0] rfl)
          · replace hf := ite_f c82 hf
            refine lv_iconst (v := 2) hx hb dX5_rests_167 (by decide) ?_
            refine lv_goto (tgt := 172) hx hb dX5_rests_168 (by decide) ?_
            refine lv_iadd hx hb dX5_rests_172 ?_
            refine lv_iload hx hb dX5_rests_173 (lv_at hl 5 rfl) ?_
            refine lv_iconst (v := 5) hx hb dX5_rests_175 (by decide) ?_
            refine lv_irem hx hb dX5_rests_176 (by decide) ?_
            refine lv_iconst (v := 4) hx hb dX5_rests_177 (by decide) ?_
            refine lv_icmp_ge (tgt := 185) hx hb dX5_rests_178 (by decide) (fun c90 => ?_) (fun c90 => ?_)
            · replace hf := ite_t c90 hf
              refine lv_iconst (v := 0) hx hb dX5_rests_185 (by decide) ?_
              refine lv_isub hx hb dX5_rests_186 ?_
              refine lv_topi (fun z91 ez91 => ?_)
              replace hf := nm_at ez91 hf
              replace hf := gd_at hf
              obtain ⟨hi92, hf⟩ := hf
              refine k_iast hx hb w 15 rfl hi92 dX5_rests_187 (fun H locs w => ?_)
              have w : Wd D cI cZ b0 tt A s [(m_a, .inr (5, [.int m_thrown, .ref q_text, .int m_textSize, .int m_place, .ref q_cards, .ref q_readCards, .ref q_readPage, .ref q_page, .ref q_trial, .ref q_loads, .ref q_book, .int m_acts, .ref q_kept, .ref q_isKept, .int m_held, .ref q_heldWho, .ref q_heldForce, .ref q_heldLoad, .ref q_heldIs, .long m_seed, .int m_tentMany, .int m_tentFirst, .int m_restMany, .int m_restFirst, .ref q_gains, .ref q_value])), (q_text, .inl (cI, 56, .inl m_text)), (q_cards, .inl (cI, 4, .inl m_cards)), (q_readCards, .inl (cI, 4, .inl m_readCards)), (q_readPage, .inl (cI, 17, .inl m_readPage)), (q_page, .inl (cI, 17, .inl m_page)), (q_trial, .inl (cI, 17, .inl r36.2.1)), (q_loads, .inl (cI, 16, .inl r36.2.2)), (q_book, .inl (cI, 238, .inl m_book)), (q_kept, .inl (cI, 34, .inl m_kept)), (q_isKept, .inl (cZ, 2, .inl m_isKept)), (q_heldWho, .inl (cI, 6, .inl m_heldWho)), (q_heldForce, .inl (cI, 6, .inl m_heldForce)), (q_heldLoad, .inl (cI, 6, .inl m_heldLoad)), (q_heldIs, .inl (cI, 6, .inl m_heldIs)), (q_gains, .inl (cI, 50, .inl (upd (upd m_gains (Int32.toNatClampNeg ((2 : Int32) * v4)) z79) (Int32.toNatClampNeg (((2 : Int32) * v4) + (1 : Int32))) z91))), (q_value, .inl (cI, 16, .inl m_value))] H locs := w
              obtain ⟨z93, ez93⟩ : ∃ y : Int32, y = (v4 + 1) := ⟨_, rfl⟩
              replace hf := nm_at ez93 hf
              refine lv_iinc (v := z93) (lv' := [(4, .int z93), (5, .int r38), (0, .ref m_a), (1, .int v1), (2, .int v2), (3, .int v3)]) hx hb dX5_rests_188 hl (k := 5) rfl (by rw [ez93]; rfl) (by decide) rfl (fun ls hl => ?_)
              refine lv_goto (tgt := 63) hx hb dX5_rests_191 (by decide) ?_
              exact ih z93 r36.2.1 r36.2.2 (upd (upd m_gains (Int32.toNatClampNeg ((2 : Int32) * v4)) z79) (Int32.toNatClampNeg (((2 : Int32) * v4) + (1 : Int32))) z91) H locs ls hf w (lv_sub hl [2, 3, 4, 5, 0] rfl)
            · replace hf := ite_f c90 hf
              refine lv_iconst (v := 1) hx hb dX5_rests_181 (by decide) ?_
              refine lv_goto (tgt := 186) hx hb dX5_rests_182 (by decide) ?_
              refine lv_isub hx hb dX5_rests_186 ?_
              refine lv_topi (fun z94 ez94 => ?_)
              replace hf := nm_at ez94 hf
              replace hf := gd_at hf
              obtain ⟨hi95, hf⟩ := hf
              refine k_iast hx hb w 15 rfl hi95 dX5_rests_187 (fun H locs w => ?_)
              have w : Wd D cI cZ b0 tt A s [(m_a, .inr (5, [.int m_thrown, .ref q_text, .int m_textSize, .int m_place, .ref q_cards, .ref q_readCards, .ref q_readPage, .ref q_page, .ref q_trial, .ref q_loads, .ref q_book, .int m_acts, .ref q_kept, .ref q_isKept, .int m_held, .ref q_heldWho, .ref q_heldForce, .ref q_heldLoad, .ref q_heldIs, .long m_seed, .int m_tentMany, .int m_tentFirst, .int m_restMany, .int m_restFirst, .ref q_gains, .ref q_value])), (q_text, .inl (cI, 56, .inl m_text)), (q_cards, .inl (cI, 4, .inl m_cards)), (q_readCards, .inl (cI, 4, .inl m_readCards)), (q_readPage, .inl (cI, 17, .inl m_readPage)), (q_page, .inl (cI, 17, .inl m_page)), (q_trial, .inl (cI, 17, .inl r36.2.1)), (q_loads, .inl (cI, 16, .inl r36.2.2)), (q_book, .inl (cI, 238, .inl m_book)), (q_kept, .inl (cI, 34, .inl m_kept)), (q_isKept, .inl (cZ, 2, .inl m_isKept)), (q_heldWho, .inl (cI, 6, .inl m_heldWho)), (q_heldForce, .inl (cI, 6, .inl m_heldForce)), (q_heldLoad, .inl (cI, 6, .inl m_heldLoad)), (q_heldIs, .inl (cI, 6, .inl m_heldIs)), (q_gains, .inl (cI, 50, .inl (upd (upd m_gains (Int32.toNatClampNeg ((2 : Int32) * v4)) z79) (Int32.toNatClampNeg (((2 : Int32) * v4) + (1 : Int32))) z94))), (q_value, .inl (cI, 16, .inl m_value))] H locs := w
              obtain ⟨z96, ez96⟩ : ∃ y : Int32, y = (v4 + 1) := ⟨_, rfl⟩
              replace hf := nm_at ez96 hf
              refine lv_iinc (v := z96) (lv' := [(4, .int z96), (5, .int r38), (0, .ref m_a), (1, .int v1), (2, .int v2), (3, .int v3)]) hx hb dX5_rests_188 hl (k := 5) rfl (by rw [ez96]; rfl) (by decide) rfl (fun ls hl => ?_)
              refine lv_goto (tgt := 63) hx hb dX5_rests_191 (by decide) ?_
              exact ih z96 r36.2.1 r36.2.2 (upd (upd m_gains (Int32.toNatClampNeg ((2 : Int32) * v4)) z79) (Int32.toNatClampNeg (((2 : Int32) * v4) + (1 : Int32))) z94) H locs ls hf w (lv_sub hl [2, 3, 4, 5, 0] rfl)
        · replace hf := ite_f c78 hf
          refine lv_iconst (v := 1) hx hb dX5_rests_139 (by decide) ?_
          refine lv_goto (tgt := 144) hx hb dX5_rests_140 (by decide) ?_
          refine lv_isub hx hb dX5_rests_144 ?_
          refine lv_topi (fun z97 ez97 => ?_)
          replace hf := nm_at ez97 hf
          replace hf := gd_at hf
          obtain ⟨hi98, hf⟩ := hf
          refine k_iast hx hb w 15 rfl hi98 dX5_rests_145 (fun H locs w => ?_)
          have w : Wd D cI cZ b0 tt A s [(m_a, .inr (5, [.int m_thrown, .ref q_text, .int m_textSize, .int m_place, .ref q_cards, .ref q_readCards, .ref q_readPage, .ref q_page, .ref q_trial, .ref q_loads, .ref q_book, .int m_acts, .ref q_kept, .ref q_isKept, .int m_held, .ref q_heldWho, .ref q_heldForce, .ref q_heldLoad, .ref q_heldIs, .long m_seed, .int m_tentMany, .int m_tentFirst, .int m_restMany, .int m_restFirst, .ref q_gains, .ref q_value])), (q_text, .inl (cI, 56, .inl m_text)), (q_cards, .inl (cI, 4, .inl m_cards)), (q_readCards, .inl (cI, 4, .inl m_readCards)), (q_readPage, .inl (cI, 17, .inl m_readPage)), (q_page, .inl (cI, 17, .inl m_page)), (q_trial, .inl (cI, 17, .inl r36.2.1)), (q_loads, .inl (cI, 16, .inl r36.2.2)), (q_book, .inl (cI, 238, .inl m_book)), (q_kept, .inl (cI, 34, .inl m_kept)), (q_isKept, .inl (cZ, 2, .inl m_isKept)), (q_heldWho, .inl (cI, 6, .inl m_heldWho)), (q_heldForce, .inl (cI, 6, .inl m_heldForce)), (q_heldLoad, .inl (cI, 6, .inl m_heldLoad)), (q_heldIs, .inl (cI, 6, .inl m_heldIs)), (q_gains, .inl (cI, 50, .inl (upd m_gains (Int32.toNatClampNeg ((2 : Int32) * v4)) z97))), (q_value, .inl (cI, 16, .inl m_value))] H locs := w
          refine lv_aload_n hx hb dX5_rests_146 rfl (lv_at hl 1 rfl) ?_
          refine va_get (D := D) (ci := 5) (v := .ref q_gains) (C := RX5) (T := TX5) (N := 26) hx hb hg iX5 hown w.2.2.2.2.2.2.1 w.1 0 rfl rfl 24 (by decide) (hg _ w_513) (fun _ h9 => h9) rfl dX5_rests_147 ?_
          refine lv_iconst (v := 2) hx hb dX5_rests_150 (by decide) ?_
          refine lv_iload hx hb dX5_rests_151 (lv_at hl 5 rfl) ?_
          refine lv_imul hx hb dX5_rests_153 ?_
          refine lv_iconst (v := 1) hx hb dX5_rests_154 (by decide) ?_
          refine lv_iadd hx hb dX5_rests_155 ?_
          refine lv_iload hx hb dX5_rests_156 (lv_at hl 0 rfl) ?_
          refine lv_aload_n hx hb dX5_rests_158 rfl (lv_at hl 1 rfl) ?_
          refine va_get (D := D) (ci := 5) (v := .ref q_trial) (C := RX5) (T := TX5) (N := 26) hx hb hg iX5 hown w.2.2.2.2.2.2.1 w.1 0 rfl rfl 8 (by decide) (hg _ w_497) (fun _ h9 => h9) rfl dX5_rests_159 ?_
          refine lv_iload_n hx hb dX5_rests_162 rfl (lv_at hl 3 rfl) ?_
          replace hf := gd_at hf
          obtain ⟨hi99, hf⟩ := hf
          refine va_iald hx hb w.2.2.2.2.2.2.1 w.1 6 0 rfl rfl hi99 dX5_rests_163 ?_
          refine lv_if_le (tgt := 171) hx hb dX5_rests_164 (by decide) (fun c100 => ?_) (fun c100 => ?_)
          · replace hf := ite_t c100 hf
            refine lv_iconst (v := 0) hx hb dX5_rests_171 (by decide) ?_
            refine lv_iadd hx hb dX5_rests_172 ?_
            refine lv_iload hx hb dX5_rests_173 (lv_at hl 5 rfl) ?_
            refine lv_iconst (v := 5) hx hb dX5_rests_175 (by decide) ?_
            refine lv_irem hx hb dX5_rests_176 (by decide) ?_
            refine lv_iconst (v := 4) hx hb dX5_rests_177 (by decide) ?_
            refine lv_icmp_ge (tgt := 185) hx hb dX5_rests_178 (by decide) (fun c101 => ?_) (fun c101 => ?_)
            · replace hf := ite_t c101 hf
              refine lv_iconst (v := 0) hx hb dX5_rests_185 (by decide) ?_
              refine lv_isub hx hb dX5_rests_186 ?_
              refine lv_topi (fun z102 ez102 => ?_)
              replace hf := nm_at ez102 hf
              replace hf := gd_at hf
              obtain ⟨hi103, hf⟩ := hf
              refine k_iast hx hb w 15 rfl hi103 dX5_rests_187 (fun H locs w => ?_)
              have w : Wd D cI cZ b0 tt A s [(m_a, .inr (5, [.int m_thrown, .ref q_text, .int m_textSize, .int m_place, .ref q_cards, .ref q_readCards, .ref q_readPage, .ref q_page, .ref q_trial, .ref q_loads, .ref q_book, .int m_acts, .ref q_kept, .ref q_isKept, .int m_held, .ref q_heldWho, .ref q_heldForce, .ref q_heldLoad, .ref q_heldIs, .long m_seed, .int m_tentMany, .int m_tentFirst, .int m_restMany, .int m_restFirst, .ref q_gains, .ref q_value])), (q_text, .inl (cI, 56, .inl m_text)), (q_cards, .inl (cI, 4, .inl m_cards)), (q_readCards, .inl (cI, 4, .inl m_readCards)), (q_readPage, .inl (cI, 17, .inl m_readPage)), (q_page, .inl (cI, 17, .inl m_page)), (q_trial, .inl (cI, 17, .inl r36.2.1)), (q_loads, .inl (cI, 16, .inl r36.2.2)), (q_book, .inl (cI, 238, .inl m_book)), (q_kept, .inl (cI, 34, .inl m_kept)), (q_isKept, .inl (cZ, 2, .inl m_isKept)), (q_heldWho, .inl (cI, 6, .inl m_heldWho)), (q_heldForce, .inl (cI, 6, .inl m_heldForce)), (q_heldLoad, .inl (cI, 6, .inl m_heldLoad)), (q_heldIs, .inl (cI, 6, .inl m_heldIs)), (q_gains, .inl (cI, 50, .inl (upd (upd m_gains (Int32.toNatClampNeg ((2 : Int32) * v4)) z97) (Int32.toNatClampNeg (((2 : Int32) * v4) + (1 : Int32))) z102))), (q_value, .inl (cI, 16, .inl m_value))] H locs := w
              obtain ⟨z104, ez104⟩ : ∃ y : Int32, y = (v4 + 1) := ⟨_, rfl⟩
              replace hf := nm_at ez104 hf
              refine lv_iinc (v := z104) (lv' := [(4, .int z104), (5, .int r38), (0, .ref m_a), (1, .int v1), (2, .int v2), (3, .int v3)]) hx hb dX5_rests_188 hl (k := 5) rfl (by rw [ez104]; rfl) (by decide) rfl (fun ls hl => ?_)
              refine lv_goto (tgt := 63) hx hb dX5_rests_191 (by decide) ?_
              exact ih z104 r36.2.1 r36.2.2 (upd (upd m_gains (Int32.toNatClampNeg ((2 : Int32) * v4)) z97) (Int32.toNatClampNeg (((2 : Int32) * v4) + (1 : Int32))) z102) H locs ls hf w (lv_sub hl [2, 3, 4, 5, 0] rfl)
            · replace hf := ite_f c101 hf
              refine lv_iconst (v := 1) hx hb dX5_rests_181 (by decide) ?_
              refine lv_goto (tgt := 186) hx hb dX5_rests_182 (by decide) ?_
              refine lv_isub hx hb dX5_rests_186 ?_
              refine lv_topi (fun z105 ez105 => ?_)
              replace hf := nm_at ez105 hf
              replace hf := gd_at hf
              obtain ⟨hi106, hf⟩ := hf
              refine k_iast hx hb w 15 rfl hi106 dX5_rests_187 (fun H locs w => ?_)
              have w : Wd D cI cZ b0 tt A s [(m_a, .inr (5, [.int m_thrown, .ref q_text, .int m_textSize, .int m_place, .ref q_cards, .ref q_readCards, .ref q_readPage, .ref q_page, .ref q_trial, .ref q_loads, .ref q_book, .int m_acts, .ref q_kept, .ref q_isKept, .int m_held, .ref q_heldWho, .ref q_heldForce, .ref q_heldLoad, .ref q_heldIs, .long m_seed, .int m_tentMany, .int m_tentFirst, .int m_restMany, .int m_restFirst, .ref q_gains, .ref q_value])), (q_text, .inl (cI, 56, .inl m_text)), (q_cards, .inl (cI, 4, .inl m_cards)), (q_readCards, .inl (cI, 4, .inl m_readCards)), (q_readPage, .inl (cI, 17, .inl m_readPage)), (q_page, .inl (cI, 17, .inl m_page)), (q_trial, .inl (cI, 17, .inl r36.2.1)), (q_loads, .inl (cI, 16, .inl r36.2.2)), (q_book, .inl (cI, 238, .inl m_book)), (q_kept, .inl (cI, 34, .inl m_kept)), (q_isKept, .inl (cZ, 2, .inl m_isKept)), (q_heldWho, .inl (cI, 6, .inl m_heldWho)), (q_heldForce, .inl (cI, 6, .inl m_heldForce)), (q_heldLoad, .inl (cI, 6, .inl m_heldLoad)), (q_heldIs, .inl (cI, 6, .inl m_heldIs)), (q_gains, .inl (cI, 50, .inl (upd (upd m_gains (Int32.toNatClampNeg ((2 : Int32) * v4)) z97) (Int32.toNatClampNeg (((2 : Int32) * v4) + (1 : Int32))) z105))), (q_value, .inl (cI, 16, .inl m_value))] H locs := w
              obtain ⟨z107, ez107⟩ : ∃ y : Int32, y = (v4 + 1) := ⟨_, rfl⟩
              replace hf := nm_at ez107 hf
              refine lv_iinc (v := z107) (lv' := [(4, .int z107), (5, .int r38), (0, .ref m_a), (1, .int v1), (2, .int v2), (3, .int v3)]) hx hb dX5_rests_188 hl (k := 5) rfl (by rw [ez107]; rfl) (by decide) rfl (fun ls hl => ?_)
              refine lv_goto (tgt := 63) hx hb dX5_rests_191 (by decide) ?_
              exact ih z107 r36.2.1 r36.2.2 (upd (upd m_gains (Int32.toNatClampNeg ((2 : Int32) * v4)) z97) (Int32.toNatClampNeg (((2 : Int32) * v4) + (1 : Int32))) z105) H locs ls hf w (lv_sub hl [2, 3, 4, 5, 0] rfl)
          · replace hf := ite_f c100 hf
            refine lv_iconst (v := 2) hx hb dX5_rests_167 (by decide) ?_
            refine lv_goto (tgt := 172) hx hb dX5_rests_168 (by decide) ?_
            refine lv_iadd hx hb dX5_rests_172 ?_
            refine lv_iload hx hb dX5_rests_173 (lv_at hl 5 rfl) ?_
            refine lv_iconst (v := 5) hx hb dX5_rests_175 (by decide) ?_
            refine lv_irem hx hb dX5_rests_176 (by decide) ?_
            refine lv_iconst (v := 4) hx hb dX5_rests_177 (by decide) ?_
            refine lv_icmp_ge (tgt := 185) hx hb dX5_rests_178 (by decide) (fun c108 => ?_) (fun c108 => ?_)
            · replace hf := ite_t c108 hf
              refine lv_iconst (v := 0) hx hb dX5_rests_185 (by decide) ?_
              refine lv_isub hx hb dX5_rests_186 ?_
              refine lv_topi (fun z109 ez109 => ?_)
              replace hf := nm_at ez109 hf
              replace hf := gd_at hf
              obtain ⟨hi110, hf⟩ := hf
              refine k_iast hx hb w 15 rfl hi110 dX5_rests_187 (fun H locs w => ?_)
              have w : Wd D cI cZ b0 tt A s [(m_a, .inr (5, [.int m_thrown, .ref q_text, .int m_textSize, .int m_place, .ref q_cards, .ref q_readCards, .ref q_readPage, .ref q_page, .ref q_trial, .ref q_loads, .ref q_book, .int m_acts, .ref q_kept, .ref q_isKept, .int m_held, .ref q_heldWho, .ref q_heldForce, .ref q_heldLoad, .ref q_heldIs, .long m_seed, .int m_tentMany, .int m_tentFirst, .int m_restMany, .int m_restFirst, .ref q_gains, .ref q_value])), (q_text, .inl (cI, 56, .inl m_text)), (q_cards, .inl (cI, 4, .inl m_cards)), (q_readCards, .inl (cI, 4, .inl m_readCards)), (q_readPage, .inl (cI, 17, .inl m_readPage)), (q_page, .inl (cI, 17, .inl m_page)), (q_trial, .inl (cI, 17, .inl r36.2.1)), (q_loads, .inl (cI, 16, .inl r36.2.2)), (q_book, .inl (cI, 238, .inl m_book)), (q_kept, .inl (cI, 34, .inl m_kept)), (q_isKept, .inl (cZ, 2, .inl m_isKept)), (q_heldWho, .inl (cI, 6, .inl m_heldWho)), (q_heldForce, .inl (cI, 6, .inl m_heldForce)), (q_heldLoad, .inl (cI, 6, .inl m_heldLoad)), (q_heldIs, .inl (cI, 6, .inl m_heldIs)), (q_gains, .inl (cI, 50, .inl (upd (upd m_gains (Int32.toNatClampNeg ((2 : Int32) * v4)) z97) (Int32.toNatClampNeg (((2 : Int32) * v4) + (1 : Int32))) z109))), (q_value, .inl (cI, 16, .inl m_value))] H locs := w
              obtain ⟨z111, ez111⟩ : ∃ y : Int32, y = (v4 + 1) := ⟨_, rfl⟩
              replace hf := nm_at ez111 hf
              refine lv_iinc (v := z111) (lv' := [(4, .int z111), (5, .int r38), (0, .ref m_a), (1, .int v1), (2, .int v2), (3, .int v3)]) hx hb dX5_rests_188 hl (k := 5) rfl (by rw [ez111]; rfl) (by decide) rfl (fun ls hl => ?_)
              refine lv_goto (tgt := 63) hx hb dX5_rests_191 (by decide) ?_
              exact ih z111 r36.2.1 r36.2.2 (upd (upd m_gains (Int32.toNatClampNeg ((2 : Int32) * v4)) z97) (Int32.toNatClampNeg (((2 : Int32) * v4) + (1 : Int32))) z109) H locs ls hf w (lv_sub hl [2, 3, 4, 5, 0] rfl)
            · replace hf := ite_f c108 hf
              refine lv_iconst (v := 1) hx hb dX5_rests_181 (by decide) ?_
              refine lv_goto (tgt := 186) hx hb dX5_rests_182 (by decide) ?_
              refine lv_isub hx hb dX5_rests_186 ?_
              refine lv_topi (fun z112 ez112 => ?_)
              replace hf := nm_at ez112 hf
              replace hf := gd_at hf
              obtain ⟨hi113, hf⟩ := hf
              refine k_iast hx hb w 15 rfl hi113 dX5_rests_187 (fun H locs w => ?_)
              have w : Wd D cI cZ b0 tt A s [(m_a, .inr (5, [.int m_thrown, .ref q_text, .int m_textSize, .int m_place, .ref q_cards, .ref q_readCards, .ref q_readPage, .ref q_page, .ref q_trial, .ref q_loads, .ref q_book, .int m_acts, .ref q_kept, .ref q_isKept, .int m_held, .ref q_heldWho, .ref q_heldForce, .ref q_heldLoad, .ref q_heldIs, .long m_seed, .int m_tentMany, .int m_tentFirst, .int m_restMany, .int m_restFirst, .ref q_gains, .ref q_value])), (q_text, .inl (cI, 56, .inl m_text)), (q_cards, .inl (cI, 4, .inl m_cards)), (q_readCards, .inl (cI, 4, .inl m_readCards)), (q_readPage, .inl (cI, 17, .inl m_readPage)), (q_page, .inl (cI, 17, .inl m_page)), (q_trial, .inl (cI, 17, .inl r36.2.1)), (q_loads, .inl (cI, 16, .inl r36.2.2)), (q_book, .inl (cI, 238, .inl m_book)), (q_kept, .inl (cI, 34, .inl m_kept)), (q_isKept, .inl (cZ, 2, .inl m_isKept)), (q_heldWho, .inl (cI, 6, .inl m_heldWho)), (q_heldForce, .inl (cI, 6, .inl m_heldForce)), (q_heldLoad, .inl (cI, 6, .inl m_heldLoad)), (q_heldIs, .inl (cI, 6, .inl m_heldIs)), (q_gains, .inl (cI, 50, .inl (upd (upd m_gains (Int32.toNatClampNeg ((2 : Int32) * v4)) z97) (Int32.toNatClampNeg (((2 : Int32) * v4) + (1 : Int32))) z112))), (q_value, .inl (cI, 16, .inl m_value))] H locs := w
              obtain ⟨z114, ez114⟩ : ∃ y : Int32, y = (v4 + 1) := ⟨_, rfl⟩
              replace hf := nm_at ez114 hf
              refine lv_iinc (v := z114) (lv' := [(4, .int z114), (5, .int r38), (0, .ref m_a), (1, .int v1), (2, .int v2), (3, .int v3)]) hx hb dX5_rests_188 hl (k := 5) rfl (by rw [ez114]; rfl) (by decide) rfl (fun ls hl => ?_)
              refine lv_goto (tgt := 63) hx hb dX5_rests_191 (by decide) ?_
              exact ih z114 r36.2.1 r36.2.2 (upd (upd m_gains (Int32.toNatClampNeg ((2 : Int32) * v4)) z97) (Int32.toNatClampNeg (((2 : Int32) * v4) + (1 : Int32))) z112) H locs ls hf w (lv_sub hl [2, 3, 4, 5, 0] rfl)
def fX5_rests  (m_thrown : Int32) (m_restMany : Int32) (m_restFirst : Int32) (m_cards : Nat → Int32) (m_page : Nat → Int32) (m_trial : Nat → Int32) (m_loads : Nat → Int32) (m_gains : Nat → Int32) (a1 : Int32) (a2 : Int32) (a3 : Int32) : Option (Int32 × Int32 × Int32 × Int32 × (Nat → Int32) × (Nat → Int32) × (Nat → Int32)) := ob (fX5_noPiece a1) (fun r115 => (if r115 = 0 then ob (fX5_noPiece a2) (fun r117 => (if r117 = 0 then (if a1 = a2 then some ((-2), (0, m_restMany, m_restFirst, m_trial, m_loads, m_gains)) else ob (fX5_in (Int32.toInt64 a3) 0 1) (fun r120 => (if r120 = 0 then some ((-2), (0, m_restMany, m_restFirst, m_trial, m_loads, m_gains)) else gd a1 17 ((if 0 < (m_page (Int32.toNatClampNeg a1)) then some ((-3), (0, m_restMany, m_restFirst, m_trial, m_loads, m_gains)) else gd a2 17 ((if (m_page (Int32.toNatClampNeg a2)) ≤ 0 then fX5_rests_L63 a1 a2 a3 0 m_restMany m_restFirst m_cards m_page FU 0 m_trial m_loads m_gains else some ((-3), (0, m_restMany, m_restFirst, m_trial, m_loads, m_gains))))))))) else some ((-1), (0, m_restMany, m_restFirst, m_trial, m_loads, m_gains)))) else some ((-1), (0, m_restMany, m_restFirst, m_trial, m_loads, m_gains))))
set_option maxRecDepth 100000 in
set_option maxHeartbeats 4000000 in
theorem tX5_rests (l : Launch) (D : va_G) (cI cZ : ClassId) (b0 : Nat) (tt : Nat → Nat)  (m_a q_text q_cards q_readCards q_readPage q_page q_trial q_loads q_book q_kept q_isKept q_heldWho q_heldForce q_heldLoad q_heldIs q_gains q_value : Nat) (m_thrown : Int32) (m_textSize : Int32) (m_place : Int32) (m_acts : Int32) (m_held : Int32) (m_seed : Int64) (m_tentMany : Int32) (m_tentFirst : Int32) (m_restMany : Int32) (m_restFirst : Int32) (m_text : Nat → Int32) (m_cards : Nat → Int32) (m_readCards : Nat → Int32) (m_readPage : Nat → Int32) (m_page : Nat → Int32) (m_trial : Nat → Int32) (m_loads : Nat → Int32) (m_book : Nat → Int32) (m_kept : Nat → Int32) (m_isKept : Nat → Int32) (m_heldWho : Nat → Int32) (m_heldForce : Nat → Int32) (m_heldLoad : Nat → Int32) (m_heldIs : Nat → Int32) (m_gains : Nat → Int32) (m_value : Nat → Int32) (a1 : Int32) (a2 : Int32) (a3 : Int32) {res : Int32 × Int32 × Int32 × Int32 × (Nat → Int32) × (Nat → Int32) × (Nat → Int32)} (hf : fX5_rests m_thrown m_restMany m_restFirst m_cards m_page m_trial m_loads m_gains a1 a2 a3 = some res) : CtI l yX5_rests (cwX5_rests :: GW) 8 178 D cI cZ b0 tt [.ref m_a, .int a1, .int a2, .int a3] (fun u : Int32 × Int32 × Int32 × (Nat → Int32) × (Nat → Int32) × (Nat → Int32) => [(m_a, .inr (5, [.int u.1, .ref q_text, .int m_textSize, .int m_place, .ref q_cards, .ref q_readCards, .ref q_readPage, .ref q_page, .ref q_trial, .ref q_loads, .ref q_book, .int m_acts, .ref q_kept, .ref q_isKept, .int m_held, .ref q_heldWho, .ref q_heldForce, .ref q_heldLoad, .ref q_heldIs, .long m_seed, .int m_tentMany, .int m_tentFirst, .int u.2.1, .int u.2.2.1, .ref q_gains, .ref q_value])), (q_text, .inl (cI, 56, .inl m_text)), (q_cards, .inl (cI, 4, .inl m_cards)), (q_readCards, .inl (cI, 4, .inl m_readCards)), (q_readPage, .inl (cI, 17, .inl m_readPage)), (q_page, .inl (cI, 17, .inl m_page)), (q_trial, .inl (cI, 17, .inl u.2.2.2.1)), (q_loads, .inl (cI, 16, .inl u.2.2.2.2.1)), (q_book, .inl (cI, 238, .inl m_book)), (q_kept, .inl (cI, 34, .inl m_kept)), (q_isKept, .inl (cZ, 2, .inl m_isKept)), (q_heldWho, .inl (cI, 6, .inl m_heldWho)), (q_heldForce, .inl (cI, 6, .inl m_heldForce)), (q_heldLoad, .inl (cI, 6, .inl m_heldLoad)), (q_heldIs, .inl (cI, 6, .inl m_heldIs)), (q_gains, .inl (cI, 50, .inl u.2.2.2.2.2)), (q_value, .inl (cI, 16, .inl m_value))]) (m_thrown, m_restMany, m_restFirst, m_trial, m_loads, m_gains) res := by
  intro sz
  refine k_begin (cc := cX5_rests) (maxL := 7) (ret := (some .int)) (by decide) rfl (Nat.le_of_ble_eq_true rfl) ?_
  intro p e s m below meth c ls C w hl
  generalize va_A _ sz = A at w ⊢
  have w : Wd D cI cZ b0 tt A s [(m_a, .inr (5, [.int m_thrown, .ref q_text, .int m_textSize, .int m_place, .ref q_cards, .ref q_readCards, .ref q_readPage, .ref q_page, .ref q_trial, .ref q_loads, .ref q_book, .int m_acts, .ref q_kept, .ref q_isKept, .int m_held, .ref q_heldWho, .ref q_heldForce, .ref q_heldLoad, .ref q_heldIs, .long m_seed, .int m_tentMany, .int m_tentFirst, .int m_restMany, .int m_restFirst, .ref q_gains, .ref q_value])), (q_text, .inl (cI, 56, .inl m_text)), (q_cards, .inl (cI, 4, .inl m_cards)), (q_readCards, .inl (cI, 4, .inl m_readCards)), (q_readPage, .inl (cI, 17, .inl m_readPage)), (q_page, .inl (cI, 17, .inl m_page)), (q_trial, .inl (cI, 17, .inl m_trial)), (q_loads, .inl (cI, 16, .inl m_loads)), (q_book, .inl (cI, 238, .inl m_book)), (q_kept, .inl (cI, 34, .inl m_kept)), (q_isKept, .inl (cZ, 2, .inl m_isKept)), (q_heldWho, .inl (cI, 6, .inl m_heldWho)), (q_heldForce, .inl (cI, 6, .inl m_heldForce)), (q_heldLoad, .inl (cI, 6, .inl m_heldLoad)), (q_heldIs, .inl (cI, 6, .inl m_heldIs)), (q_gains, .inl (cI, 50, .inl m_gains)), (q_value, .inl (cI, 16, .inl m_value))] s.heap [] := w
  have hl : lv_has ls 7 [(0, .ref m_a), (1, .int a1), (2, .int a2), (3, .int a3)] := hl
  obtain ⟨H, eH⟩ : ∃ H, H = s.heap := ⟨_, rfl⟩
  rw [← eH] at w ⊢
  generalize ([] : List Loc) = locs at w ⊢
  generalize List.toArray _ = args at C ⊢
  obtain ⟨hx, hb, hr, hml, hown, hts, hlk⟩ := id C
  have hg : ∀ w ∈ GW, w.before args s = true := fun w h => hts w (List.mem_cons_of_mem _ h)
  unfold fX5_rests at hf
  refine lv_aload_n hx hb dX5_rests_0 rfl (lv_at hl 0 rfl) ?_
  refine lv_iconst (v := 0) hx hb dX5_rests_1 (by decide) ?_
  refine k_put (ci := 5) (v := .int 0) (ty := .int) (C := RX5) (T := TX5) (N := 26) hx hb hg iX5 tyX5 tyX5_ok nmX5 hown w 0 rfl rfl 0 (by decide) (hg _ w_489) (fun _ h9 => h9) rfl pd_I rfl rfl (Nat.le_of_ble_eq_true rfl) dX5_rests_2 (fun H locs w => ?_)
  have w : Wd D cI cZ b0 tt A s [(m_a, .inr (5, [.int 0, .ref q_text, .int m_textSize, .int m_place, .ref q_cards, .ref q_readCards, .ref q_readPage, .ref q_page, .ref q_trial, .ref q_loads, .ref q_book, .int m_acts, .ref q_kept, .ref q_isKept, .int m_held, .ref q_heldWho, .ref q_heldForce, .ref q_heldLoad, .ref q_heldIs, .long m_seed, .int m_tentMany, .int m_tentFirst, .int m_restMany, .int m_restFirst, .ref q_gains, .ref q_value])), (q_text, .inl (cI, 56, .inl m_text)), (q_cards, .inl (cI, 4, .inl m_cards)), (q_readCards, .inl (cI, 4, .inl m_readCards)), (q_readPage, .inl (cI, 17, .inl m_readPage)), (q_page, .inl (cI, 17, .inl m_page)), (q_trial, .inl (cI, 17, .inl m_trial)), (q_loads, .inl (cI, 16, .inl m_loads)), (q_book, .inl (cI, 238, .inl m_book)), (q_kept, .inl (cI, 34, .inl m_kept)), (q_isKept, .inl (cZ, 2, .inl m_isKept)), (q_heldWho, .inl (cI, 6, .inl m_heldWho)), (q_heldForce, .inl (cI, 6, .inl m_heldForce)), (q_heldLoad, .inl (cI, 6, .inl m_heldLoad)), (q_heldIs, .inl (cI, 6, .inl m_heldIs)), (q_gains, .inl (cI, 50, .inl m_gains)), (q_value, .inl (cI, 16, .inl m_value))] H locs := w
  refine lv_iload_n hx hb dX5_rests_5 rfl (lv_at hl 1 rfl) ?_
  replace hf := ob_at hf
  obtain ⟨r115, er115, hf⟩ := hf
  refine k_goI0 w [] rfl (va_runS (As := [.int a1]) (rest := []) ⟨hx, hb, hml, hown, hg⟩ (tX5_noPiece l D cI cZ b0 tt a1 er115 H.size) (va_cwS 1 hg (gwS w_621 w_622 w_7 w_623) rfl rfl rfl qdX5_noPiece ⟨Nat.le_of_ble_eq_true rfl, Nat.le_of_ble_eq_true rfl⟩) (k_preS w [] (by decide) rfl) rfl rfl hl.1 rfl (lv_room (Nat.le_of_ble_eq_true rfl)) dX5_rests_6 ⟨Nat.le_refl _, Nat.le_refl _⟩) (fun H locs w => ?_)
  refine lv_if_ne (tgt := 19) hx hb dX5_rests_9 (by decide) (fun c116 => ?_) (fun c116 => ?_)
  · replace hf := ite_f c116 hf
    refine lv_iconst (v := (-1)) hx hb dX5_rests_19 (by decide) ?_
    exact k_iret (u := (0, m_restMany, m_restFirst, m_trial, m_loads, m_gains)) hx hb hr hlk w rfl hf dX5_rests_20
  · replace hf := ite_t c116 hf
    refine lv_iload_n hx hb dX5_rests_12 rfl (lv_at hl 2 rfl) ?_
    replace hf := ob_at hf
    obtain ⟨r117, er117, hf⟩ := hf
    refine k_goI0 w [] rfl (va_runS (As := [.int a2]) (rest := []) ⟨hx, hb, hml, hown, hg⟩ (tX5_noPiece l D cI cZ b0 tt a2 er117 H.size) (va_cwS 1 hg (gwS w_621 w_622 w_7 w_623) rfl rfl rfl qdX5_noPiece ⟨Nat.le_of_ble_eq_true rfl, Nat.le_of_ble_eq_true rfl⟩) (k_preS w [] (by decide) rfl) rfl rfl hl.1 rfl (lv_room (Nat.le_of_ble_eq_true rfl)) dX5_rests_13 ⟨Nat.le_refl _, Nat.le_refl _⟩) (fun H locs w => ?_)
    refine lv_if_eq (tgt := 21) hx hb dX5_rests_16 (by decide) (fun c118 => ?_) (fun c118 => ?_)
    · replace hf := ite_t c118 hf
      refine lv_iload_n hx hb dX5_rests_21 rfl (lv_at hl 1 rfl) ?_
      refine lv_iload_n hx hb dX5_rests_22 rfl (lv_at hl 2 rfl) ?_
      refine lv_icmp_eq (tgt := 36) hx hb dX5_rests_23 (by decide) (fun c119 => ?_) (fun c119 => ?_)
      · replace hf := ite_t c119 hf
        refine lv_bipush (v := (-2)) hx hb dX5_rests_36 (by decide) ?_
        exact k_iret (u := (0, m_restMany, m_restFirst, m_trial, m_loads, m_gains)) hx hb hr hlk w rfl hf dX5_rests_38
      · replace hf := ite_f c119 hf
        refine lv_iload_n hx hb dX5_rests_26 rfl (lv_at hl 3 rfl) ?_
        refine lv_i2l (v := (Int32.toInt64 a3)) hx hb dX5_rests_27 rfl ?_
        refine lv_lconst (v := 0) hx hb dX5_rests_28 (by decide) ?_
        refine lv_lconst (v := 1) hx hb dX5_rests_29 (by decide) ?_
        replace hf := ob_at hf
        obtain ⟨r120, er120, hf⟩ := hf
        refine k_goI0 w [] rfl (va_runS (As := [.long (Int32.toInt64 a3), .long 0, .long 1]) (rest := []) ⟨hx, hb, hml, hown, hg⟩ (tX5_in l D cI cZ b0 tt (Int32.toInt64 a3) 0 1 er120 H.size) (va_cwS 3 hg (gwS w_574 w_575 w_7 w_576) rfl rfl rfl qdX5_in ⟨Nat.le_of_ble_eq_true rfl, Nat.le_of_ble_eq_true rfl⟩) (k_preS w [] (by decide) rfl) rfl rfl hl.1 rfl (lv_room (Nat.le_of_ble_eq_true rfl)) dX5_rests_30 ⟨Nat.le_refl _, Nat.le_refl _⟩) (fun H locs w => ?_)
        refine lv_if_ne (tgt := 39) hx hb dX5_rests_33 (by decide) (fun c121 => ?_) (fun c121 => ?_)
        · replace hf := ite_f c121 hf
          refine lv_aload_n hx hb dX5_rests_39 rfl (lv_at hl 0 rfl) ?_
          refine va_get (D := D) (ci := 5) (v := .ref q_page) (C := RX5) (T := TX5) (N := 26) hx hb hg iX5 hown w.2.2.2.2.2.2.1 w.1 0 rfl rfl 7 (by decide) (hg _ w_496) (fun _ h9 => h9) rfl dX5_rests_40 ?_
          refine lv_iload_n hx hb dX5_rests_43 rfl (lv_at hl 1 rfl) ?_
          replace hf := gd_at hf
          obtain ⟨hi122, hf⟩ := hf
          refine va_iald hx hb w.2.2.2.2.2.2.1 w.1 5 0 rfl rfl hi122 dX5_rests_44 ?_
          refine lv_if_gt (tgt := 57) hx hb dX5_rests_45 (by decide) (fun c123 => ?_) (fun c123 => ?_)
          · replace hf := ite_t c123 hf
            refine lv_bipush (v := (-3)) hx hb dX5_rests_57 (by decide) ?_
            exact k_iret (u := (0, m_restMany, m_restFirst, m_trial, m_loads, m_gains)) hx hb hr hlk w rfl hf dX5_rests_59
          · replace hf := ite_f c123 hf
            refine lv_aload_n hx hb dX5_rests_48 rfl (lv_at hl 0 rfl) ?_
            refine va_get (D := D) (ci := 5) (v := .ref q_page) (C := RX5) (T := TX5) (N := 26) hx hb hg iX5 hown w.2.2.2.2.2.2.1 w.1 0 rfl rfl 7 (by decide) (hg _ w_496) (fun _ h9 => h9) rfl dX5_rests_49 ?_
            refine lv_iload_n hx hb dX5_rests_52 rfl (lv_at hl 2 rfl) ?_
            replace hf := gd_at hf
            obtain ⟨hi124, hf⟩ := hf
            refine va_iald hx hb w.2.2.2.2.2.2.1 w.1 5 0 rfl rfl hi124 dX5_rests_53 ?_
            refine lv_if_le (tgt := 60) hx hb dX5_rests_54 (by decide) (fun c125 => ?_) (fun c125 => ?_)
            · replace hf := ite_t c125 hf
              refine lv_iconst (v := 0) hx hb dX5_rests_60 (by decide) ?_
              refine lv_istore (lv' := [(4, .int 0), (0, .ref m_a), (1, .int a1), (2, .int a2), (3, .int a3)]) hx hb dX5_rests_61 hl (by decide) rfl (fun ls hl => ?_)
              exact tX5_rests_L63 (v1 := a1) (v2 := a2) (v3 := a3) (m_thrown := 0) (m_restMany := m_restMany) (m_restFirst := m_restFirst) (m_cards := m_cards) (m_page := m_page) (m_textSize := m_textSize) (m_place := m_place) (m_acts := m_acts) (m_held := m_held) (m_seed := m_seed) (m_tentMany := m_tentMany) (m_tentFirst := m_tentFirst) (m_text := m_text) (m_readCards := m_readCards) (m_readPage := m_readPage) (m_book := m_book) (m_kept := m_kept) (m_isKept := m_isKept) (m_heldWho := m_heldWho) (m_heldForce := m_heldForce) (m_heldLoad := m_heldLoad) (m_heldIs := m_heldIs) (m_value := m_value) (C := C) FU 0 m_trial m_loads m_gains H locs ls hf w (lv_sub hl [1, 2, 3, 4, 0] rfl)
            · replace hf := ite_f c125 hf
              refine lv_bipush (v := (-3)) hx hb dX5_rests_57 (by decide) ?_
              exact k_iret (u := (0, m_restMany, m_restFirst, m_trial, m_loads, m_gains)) hx hb hr hlk w rfl hf dX5_rests_59
        · replace hf := ite_t c121 hf
          refine lv_bipush (v := (-2)) hx hb dX5_rests_36 (by decide) ?_
          exact k_iret (u := (0, m_restMany, m_restFirst, m_trial, m_loads, m_gains)) hx hb hr hlk w rfl hf dX5_rests_38
    · replace hf := ite_f c118 hf
      refine lv_iconst (v := (-1)) hx hb dX5_rests_19 (by decide) ?_
      exact k_iret (u := (0, m_restMany, m_restFirst, m_trial, m_loads, m_gains)) hx hb hr hlk w rfl hf dX5_rests_20
