-- X5_unhold
def fX5_unhold  (m_thrown : Int32) (m_held : Int32) : Option (Int32 × Int32 × Int32) := some (m_held, (0, 0))
set_option maxRecDepth 100000 in
set_option maxHeartbeats 4000000 in
theorem tX5_unhold (l : Launch) (D : va_G) (cI cZ : ClassId) (b0 : Nat) (tt : Nat → Nat)  (m_a q_text q_cards q_readCards q_readPage q_page q_trial q_loads q_book q_kept q_isKept q_heldWho q_heldForce q_heldLoad q_heldIs q_gains q_value : Nat) (m_thrown : Int32) (m_textSize : Int32) (m_place : Int32) (m_acts : Int32) (m_held : Int32) (m_seed : Int64) (m_tentMany : Int32) (m_tentFirst : Int32) (m_restMany : Int32) (m_restFirst : Int32) (m_text : Nat → Int32) (m_cards : Nat → Int32) (m_readCards : Nat → Int32) (m_readPage : Nat → Int32) (m_page : Nat → Int32) (m_trial : Nat → Int32) (m_loads : Nat → Int32) (m_book : Nat → Int32) (m_kept : Nat → Int32) (m_isKept : Nat → Int32) (m_heldWho : Nat → Int32) (m_heldForce : Nat → Int32) (m_heldLoad : Nat → Int32) (m_heldIs : Nat → Int32) (m_gains : Nat → Int32) (m_value : Nat → Int32)  {res : Int32 × Int32 × Int32} (hf : fX5_unhold m_thrown m_held = some res) : CtI l yX5_unhold (cwX5_unhold :: GW) 0 0 D cI cZ b0 tt [.ref m_a] (fun u : Int32 × Int32 => [(m_a, .inr (5, [.int u.1, .ref q_text, .int m_textSize, .int m_place, .ref q_cards, .ref q_readCards, .ref q_readPage, .ref q_page, .ref q_trial, .ref q_loads, .ref q_book, .int m_acts, .ref q_kept, .ref q_isKept, .int u.2, .ref q_heldWho, .ref q_heldForce, .ref q_heldLoad, .ref q_heldIs, .long m_seed, .int m_tentMany, .int m_tentFirst, .int m_restMany, .int m_restFirst, .ref q_gains, .ref q_value])), (q_text, .inl (cI, 56, .inl m_text)), (q_cards, .inl (cI, 4, .inl m_cards)), (q_readCards, .inl (cI, 4, .inl m_readCards)), (q_readPage, .inl (cI, 17, .inl m_readPage)), (q_page, .inl (cI, 17, .inl m_page)), (q_trial, .inl (cI, 17, .inl m_trial)), (q_loads, .inl (cI, 16, .inl m_loads)), (q_book, .inl (cI, 238, .inl m_book)), (q_kept, .inl (cI, 34, .inl m_kept)), (q_isKept, .inl (cZ, 2, .inl m_isKept)), (q_heldWho, .inl (cI, 6, .inl m_heldWho)), (q_heldForce, .inl (cI, 6, .inl m_heldForce)), (q_heldLoad, .inl (cI, 6, .inl m_heldLoad)), (q_heldIs, .inl (cI, 6, .inl m_heldIs)), (q_gains, .inl (cI, 50, .inl m_gains)), (q_value, .inl (cI, 16, .inl m_value))]) (m_thrown, m_held) res := by
  intro sz
  refine k_begin (cc := cX5_unhold) (maxL := 2) (ret := (some .int)) (by decide) rfl (Nat.le_of_ble_eq_true rfl) ?_
  intro p e s m below meth c ls C w hl
  generalize va_A _ sz = A at w ⊢
  have w : Wd D cI cZ b0 tt A s [(m_a, .inr (5, [.int m_thrown, .ref q_text, .int m_textSize, .int m_place, .ref q_cards, .ref q_readCards, .ref q_readPage, .ref q_page, .ref q_trial, .ref q_loads, .ref q_book, .int m_acts, .ref q_kept, .ref q_isKept, .int m_held, .ref q_heldWho, .ref q_heldForce, .ref q_heldLoad, .ref q_heldIs, .long m_seed, .int m_tentMany, .int m_tentFirst, .int m_restMany, .int m_restFirst, .ref q_gains, .ref q_value])), (q_text, .inl (cI, 56, .inl m_text)), (q_cards, .inl (cI, 4, .inl m_cards)), (q_readCards, .inl (cI, 4, .inl m_readCards)), (q_readPage, .inl (cI, 17, .inl m_readPage)), (q_page, .inl (cI, 17, .inl m_page)), (q_trial, .inl (cI, 17, .inl m_trial)), (q_loads, .inl (cI, 16, .inl m_loads)), (q_book, .inl (cI, 238, .inl m_book)), (q_kept, .inl (cI, 34, .inl m_kept)), (q_isKept, .inl (cZ, 2, .inl m_isKept)), (q_heldWho, .inl (cI, 6, .inl m_heldWho)), (q_heldForce, .inl (cI, 6, .inl m_heldForce)), (q_heldLoad, .inl (cI, 6, .inl m_heldLoad)), (q_heldIs, .inl (cI, 6, .inl m_heldIs)), (q_gains, .inl (cI, 50, .inl m_gains)), (q_value, .inl (cI, 16, .inl m_value))] s.heap [] := w
  have hl : lv_has ls 2 [(0, .ref m_a)] := hl
  obtain ⟨H, eH⟩ : ∃ H, H = s.heap := ⟨_, rfl⟩
  rw [← eH] at w ⊢
  generalize ([] : List Loc) = locs at w ⊢
  generalize List.toArray _ = args at C ⊢
  obtain ⟨hx, hb, hr, hml, hown, hts, hlk⟩ := id C
  have hg : ∀ w ∈ GW, w.before args s = true := fun w h => hts w (List.mem_cons_of_mem _ h)
  unfold fX5_unhold at hf
  refine lv_aload_n hx hb dX5_unhold_0 rfl (lv_at hl 0 rfl) ?_
  refine lv_iconst (v := 0) hx hb dX5_unhold_1 (by decide) ?_
  refine k_put (ci := 5) (v := .int 0) (ty := .int) (C := RX5) (T := TX5) (N := 26) hx hb hg iX5 tyX5 tyX5_ok nmX5 hown w 0 rfl rfl 0 (by decide) (hg _ w_489) (fun _ h9 => h9) rfl pd_I rfl rfl (Nat.le_of_ble_eq_true rfl) dX5_unhold_2 (fun H locs w => ?_)
  have w : Wd D cI cZ b0 tt A s [(m_a, .inr (5, [.int 0, .ref q_text, .int m_textSize, .int m_place, .ref q_cards, .ref q_readCards, .ref q_readPage, .ref q_page, .ref q_trial, .ref q_loads, .ref q_book, .int m_acts, .ref q_kept, .ref q_isKept, .int m_held, .ref q_heldWho, .ref q_heldForce, .ref q_heldLoad, .ref q_heldIs, .long m_seed, .int m_tentMany, .int m_tentFirst, .int m_restMany, .int m_restFirst, .ref q_gains, .ref q_value])), (q_text, .inl (cI, 56, .inl m_text)), (q_cards, .inl (cI, 4, .inl m_cards)), (q_readCards, .inl (cI, 4, .inl m_readCards)), (q_readPage, .inl (cI, 17, .inl m_readPage)), (q_page, .inl (cI, 17, .inl m_page)), (q_trial, .inl (cI, 17, .inl m_trial)), (q_loads, .inl (cI, 16, .inl m_loads)), (q_book, .inl (cI, 238, .inl m_book)), (q_kept, .inl (cI, 34, .inl m_kept)), (q_isKept, .inl (cZ, 2, .inl m_isKept)), (q_heldWho, .inl (cI, 6, .inl m_heldWho)), (q_heldForce, .inl (cI, 6, .inl m_heldForce)), (q_heldLoad, .inl (cI, 6, .inl m_heldLoad)), (q_heldIs, .inl (cI, 6, .inl m_heldIs)), (q_gains, .inl (cI, 50, .inl m_gains)), (q_value, .inl (cI, 16, .inl m_value))] H locs := w
  refine lv_aload_n hx hb dX5_unhold_5 rfl (lv_at hl 0 rfl) ?_
  refine va_get (D := D) (ci := 5) (v := .int m_held) (C := RX5) (T := TX5) (N := 26) hx hb hg iX5 hown w.2.2.2.2.2.2.1 w.1 0 rfl rfl 14 (by decide) (hg _ w_503) (fun _ h9 => h9) rfl dX5_unhold_6 ?_
  refine lv_istore_n (lv' := [(1, .int m_held), (0, .ref m_a)]) hx hb dX5_unhold_9 rfl hl (by decide) rfl (fun ls hl => ?_)
  refine lv_aload_n hx hb dX5_unhold_10 rfl (lv_at hl 1 rfl) ?_
  refine lv_iconst (v := 0) hx hb dX5_unhold_11 (by decide) ?_
  refine k_put (ci := 5) (v := .int 0) (ty := .int) (C := RX5) (T := TX5) (N := 26) hx hb hg iX5 tyX5 tyX5_ok nmX5 hown w 0 rfl rfl 14 (by decide) (hg _ w_503) (fun _ h9 => h9) rfl pd_I rfl rfl (Nat.le_of_ble_eq_true rfl) dX5_unhold_12 (fun H locs w => ?_)
  have w : Wd D cI cZ b0 tt A s [(m_a, .inr (5, [.int 0, .ref q_text, .int m_textSize, .int m_place, .ref q_cards, .ref q_readCards, .ref q_readPage, .ref q_page, .ref q_trial, .ref q_loads, .ref q_book, .int m_acts, .ref q_kept, .ref q_isKept, .int 0, .ref q_heldWho, .ref q_heldForce, .ref q_heldLoad, .ref q_heldIs, .long m_seed, .int m_tentMany, .int m_tentFirst, .int m_restMany, .int m_restFirst, .ref q_gains, .ref q_value])), (q_text, .inl (cI, 56, .inl m_text)), (q_cards, .inl (cI, 4, .inl m_cards)), (q_readCards, .inl (cI, 4, .inl m_readCards)), (q_readPage, .inl (cI, 17, .inl m_readPage)), (q_page, .inl (cI, 17, .inl m_page)), (q_trial, .inl (cI, 17, .inl m_trial)), (q_loads, .inl (cI, 16, .inl m_loads)), (q_book, .inl (cI, 238, .inl m_book)), (q_kept, .inl (cI, 34, .inl m_kept)), (q_isKept, .inl (cZ, 2, .inl m_isKept)), (q_heldWho, .inl (cI, 6, .inl m_heldWho)), (q_heldForce, .inl (cI, 6, .inl m_heldForce)), (q_heldLoad, .inl (cI, 6, .inl m_heldLoad)), (q_heldIs, .inl (cI, 6, .inl m_heldIs)), (q_gains, .inl (cI, 50, .inl m_gains)), (q_value, .inl (cI, 16, .inl m_value))] H locs := w
  refine lv_iload_n hx hb dX5_unhold_15 rfl (lv_at hl 0 rfl) ?_
  exact k_iret (u := (0, 0)) hx hb hr hlk w rfl hf dX5_unhold_16
-- X5_tents
def fX5_tents_L42  (kk31 : Int32 → Int32 → Int32 → Option (Int32 × Int32 × Int32 × Int32)) (v1 : Int32) (v2 : Int32) (m_thrown : Int32) (m_held : Int32) (m_tentMany : Int32) (m_tentFirst : Int32) (m_heldWho : Nat → Int32) (m_heldForce : Nat → Int32) (m_heldLoad : Nat → Int32) (m_heldIs : Nat → Int32) : Nat → Int32 → Int32 → Option (Int32 × Int32 × Int32 × Int32)
  | 0, _, _ => none
  | n + 1, v3, v4 => (if m_held ≤ v4 then (if v3 = 0 then (if v3 = 0 then nm (m_tentMany + (0 : Int32)) (fun z4 => nm (v2 + 1) (fun z5 => kk31 z5 z4 m_tentFirst)) else nm (m_tentMany + (1 : Int32)) (fun z6 => nm (v2 + 1) (fun z7 => kk31 z7 z6 m_tentFirst))) else (if m_tentMany = 0 then nm (((10 : Int32) * (v2 / (4 : Int32))) + (v2 - v2 / (4 : Int32) * (4 : Int32))) (fun z14 => (if v3 = 0 then nm (m_tentMany + (0 : Int32)) (fun z16 => nm (v2 + 1) (fun z17 => kk31 z17 z16 z14)) else nm (m_tentMany + (1 : Int32)) (fun z18 => nm (v2 + 1) (fun z19 => kk31 z19 z18 z14)))) else (if v3 = 0 then nm (m_tentMany + (0 : Int32)) (fun z10 => nm (v2 + 1) (fun z11 => kk31 z11 z10 m_tentFirst)) else nm (m_tentMany + (1 : Int32)) (fun z12 => nm (v2 + 1) (fun z13 => kk31 z13 z12 m_tentFirst))))) else gd v4 6 ((if (m_heldWho (Int32.toNatClampNeg v4)) = 0 then nm (v2 / (4 : Int32)) (fun z44 => ob (fX5_weighs 0 z44) (fun r45 => gd v4 6 (ob (fX5_grip z44) (fun r47 => gd v4 6 ((if ((r45 + ((8 : Int32) * (m_heldLoad (Int32.toNatClampNeg v4)))) + r47) < ((8 : Int32) * (m_heldForce (Int32.toNatClampNeg v4))) then (if v3 = 0 then nm (v4 + 1) (fun z51 => fX5_tents_L42 kk31 v1 v2 m_thrown m_held m_tentMany m_tentFirst m_heldWho m_heldForce m_heldLoad m_heldIs n 0 z51) else gd v4 6 ((if (m_heldIs (Int32.toNatClampNeg v4)) = 1 then nm (v4 + 1) (fun z57 => fX5_tents_L42 kk31 v1 v2 m_thrown m_held m_tentMany m_tentFirst m_heldWho m_heldForce m_heldLoad m_heldIs n 0 z57) else nm (v4 + 1) (fun z55 => fX5_tents_L42 kk31 v1 v2 m_thrown m_held m_tentMany m_tentFirst m_heldWho m_heldForce m_heldLoad m_heldIs n 1 z55)))) else (if v3 = 0 then nm (v4 + 1) (fun z59 => fX5_tents_L42 kk31 v1 v2 m_thrown m_held m_tentMany m_tentFirst m_heldWho m_heldForce m_heldLoad m_heldIs n 0 z59) else gd v4 6 ((if (m_heldIs (Int32.toNatClampNeg v4)) = 1 then nm (v4 + 1) (fun z65 => fX5_tents_L42 kk31 v1 v2 m_thrown m_held m_tentMany m_tentFirst m_heldWho m_heldForce m_heldLoad m_heldIs n 1 z65) else nm (v4 + 1) (fun z63 => fX5_tents_L42 kk31 v1 v2 m_thrown m_held m_tentMany m_tentFirst m_heldWho m_heldForce m_heldLoad m_heldIs n 0 z63)))))))))) else nm (v2 - v2 / (4 : Int32) * (4 : Int32)) (fun z22 => ob (fX5_weighs 0 z22) (fun r23 => gd v4 6 (ob (fX5_grip z22) (fun r25 => gd v4 6 ((if ((r23 + ((8 : Int32) * (m_heldLoad (Int32.toNatClampNeg v4)))) + r25) < ((8 : Int32) * (m_heldForce (Int32.toNatClampNeg v4))) then (if v3 = 0 then nm (v4 + 1) (fun z29 => fX5_tents_L42 kk31 v1 v2 m_thrown m_held m_tentMany m_tentFirst m_heldWho m_heldForce m_heldLoad m_heldIs n 0 z29) else gd v4 6 ((if (m_heldIs (Int32.toNatClampNeg v4)) = 1 then nm (v4 + 1) (fun z35 => fX5_tents_L42 kk31 v1 v2 m_thrown m_held m_tentMany m_tentFirst m_heldWho m_heldForce m_heldLoad m_heldIs n 0 z35) else nm (v4 + 1) (fun z33 => fX5_tents_L42 kk31 v1 v2 m_thrown m_held m_tentMany m_tentFirst m_heldWho m_heldForce m_heldLoad m_heldIs n 1 z33)))) else (if v3 = 0 then nm (v4 + 1) (fun z37 => fX5_tents_L42 kk31 v1 v2 m_thrown m_held m_tentMany m_tentFirst m_heldWho m_heldForce m_heldLoad m_heldIs n 0 z37) else gd v4 6 ((if (m_heldIs (Int32.toNatClampNeg v4)) = 1 then nm (v4 + 1) (fun z43 => fX5_tents_L42 kk31 v1 v2 m_thrown m_held m_tentMany m_tentFirst m_heldWho m_heldForce m_heldLoad m_heldIs n 1 z43) else nm (v4 + 1) (fun z41 => fX5_tents_L42 kk31 v1 v2 m_thrown m_held m_tentMany m_tentFirst m_heldWho m_heldForce m_heldLoad m_heldIs n 0 z41)))))))))))))
set_option maxRecDepth 100000 in
set_option maxHeartbeats 4000000 in
theorem tX5_tents_L42 {p : Program} {l : Launch} {e : Env} {s : State} {m : MethodId} {args : Array Value} {below : List Frame} {meth : Method} {c : Code} {D : va_G} {cI cZ : ClassId} {b0 : Nat} {tt : Nat → Nat} {A : Nat → Prop}  {m_a q_text q_cards q_readCards q_readPage q_page q_trial q_loads q_book q_kept q_isKept q_heldWho q_heldForce q_heldLoad q_heldIs q_gains q_value : Nat} {kk31 : Int32 → Int32 → Int32 → Option (Int32 × Int32 × Int32 × Int32)} {v1 : Int32} {v2 : Int32} {m_thrown : Int32} {m_held : Int32} {m_tentMany : Int32} {m_tentFirst : Int32} {m_heldWho : Nat → Int32} {m_heldForce : Nat → Int32} {m_heldLoad : Nat → Int32} {m_heldIs : Nat → Int32} {m_textSize : Int32} {m_place : Int32} {m_acts : Int32} {m_seed : Int64} {m_restMany : Int32} {m_restFirst : Int32} {m_text : Nat → Int32} {m_cards : Nat → Int32} {m_readCards : Nat → Int32} {m_readPage : Nat → Int32} {m_page : Nat → Int32} {m_trial : Nat → Int32} {m_loads : Nat → Int32} {m_book : Nat → Int32} {m_kept : Nat → Int32} {m_isKept : Nat → Int32} {m_gains : Nat → Int32} {m_value : Nat → Int32} {res : Int32 × Int32 × Int32 × Int32} (C : Cx p s m args meth c cX5_tents 7 (some .int) (cwX5_tents :: GW) RX5) (hK31 : ∀ (v2 : Int32) (m_tentMany : Int32) (m_tentFirst : Int32) (H : Heap) (locs : List Loc) (ls : Array Slot), kk31 v2 m_tentMany m_tentFirst = some res → Wd D cI cZ b0 tt A s [(m_a, .inr (5, [.int m_thrown, .ref q_text, .int m_textSize, .int m_place, .ref q_cards, .ref q_readCards, .ref q_readPage, .ref q_page, .ref q_trial, .ref q_loads, .ref q_book, .int m_acts, .ref q_kept, .ref q_isKept, .int m_held, .ref q_heldWho, .ref q_heldForce, .ref q_heldLoad, .ref q_heldIs, .long m_seed, .int m_tentMany, .int m_tentFirst, .int m_restMany, .int m_restFirst, .ref q_gains, .ref q_value])), (q_text, .inl (cI, 56, .inl m_text)), (q_cards, .inl (cI, 4, .inl m_cards)), (q_readCards, .inl (cI, 4, .inl m_readCards)), (q_readPage, .inl (cI, 17, .inl m_readPage)), (q_page, .inl (cI, 17, .inl m_page)), (q_trial, .inl (cI, 17, .inl m_trial)), (q_loads, .inl (cI, 16, .inl m_loads)), (q_book, .inl (cI, 238, .inl m_book)), (q_kept, .inl (cI, 34, .inl m_kept)), (q_isKept, .inl (cZ, 2, .inl m_isKept)), (q_heldWho, .inl (cI, 6, .inl m_heldWho)), (q_heldForce, .inl (cI, 6, .inl m_heldForce)), (q_heldLoad, .inl (cI, 6, .inl m_heldLoad)), (q_heldIs, .inl (cI, 6, .inl m_heldIs)), (q_gains, .inl (cI, 50, .inl m_gains)), (q_value, .inl (cI, 16, .inl m_value))] H locs → lv_has ls 7 [(0, .ref m_a), (1, .int v1), (2, .int v2)] → W p l e (rmo 3 61) s m args below meth c H locs 0 0 (MQ below (QI D (fun u : Int32 × Int32 × Int32 => [(m_a, .inr (5, [.int u.1, .ref q_text, .int m_textSize, .int m_place, .ref q_cards, .ref q_readCards, .ref q_readPage, .ref q_page, .ref q_trial, .ref q_loads, .ref q_book, .int m_acts, .ref q_kept, .ref q_isKept, .int m_held, .ref q_heldWho, .ref q_heldForce, .ref q_heldLoad, .ref q_heldIs, .long m_seed, .int u.2.1, .int u.2.2, .int m_restMany, .int m_restFirst, .ref q_gains, .ref q_value])), (q_text, .inl (cI, 56, .inl m_text)), (q_cards, .inl (cI, 4, .inl m_cards)), (q_readCards, .inl (cI, 4, .inl m_readCards)), (q_readPage, .inl (cI, 17, .inl m_readPage)), (q_page, .inl (cI, 17, .inl m_page)), (q_trial, .inl (cI, 17, .inl m_trial)), (q_loads, .inl (cI, 16, .inl m_loads)), (q_book, .inl (cI, 238, .inl m_book)), (q_kept, .inl (cI, 34, .inl m_kept)), (q_isKept, .inl (cZ, 2, .inl m_isKept)), (q_heldWho, .inl (cI, 6, .inl m_heldWho)), (q_heldForce, .inl (cI, 6, .inl m_heldForce)), (q_heldLoad, .inl (cI, 6, .inl m_heldLoad)), (q_heldIs, .inl (cI, 6, .inl m_heldIs)), (q_gains, .inl (cI, 50, .inl m_gains)), (q_value, .inl (cI, 16, .inl m_value))]) A res) args s 0 0 A) (F0 m 31 ls [])) : ∀ (n : Nat) (v3 : Int32) (v4 : Int32) (H : Heap) (locs : List Loc) (ls : Array Slot), fX5_tents_L42 kk31 v1 v2 m_thrown m_held m_tentMany m_tentFirst m_heldWho m_heldForce m_heldLoad m_heldIs n v3 v4 = some res → Wd D cI cZ b0 tt A s [(m_a, .inr (5, [.int m_thrown, .ref q_text, .int m_textSize, .int m_place, .ref q_cards, .ref q_readCards, .ref q_readPage, .ref q_page, .ref q_trial, .ref q_loads, .ref q_book, .int m_acts, .ref q_kept, .ref q_isKept, .int m_held, .ref q_heldWho, .ref q_heldForce, .ref q_heldLoad, .ref q_heldIs, .long m_seed, .int m_tentMany, .int m_tentFirst, .int m_restMany, .int m_restFirst, .ref q_gains, .ref q_value])), (q_text, .inl (cI, 56, .inl m_text)), (q_cards, .inl (cI, 4, .inl m_cards)), (q_readCards, .inl (cI, 4, .inl m_readCards)), (q_readPage, .inl (cI, 17, .inl m_readPage)), (q_page, .inl (cI, 17, .inl m_page)), (q_trial, .inl (cI, 17, .inl m_trial)), (q_loads, .inl (cI, 16, .inl m_loads)), (q_book, .inl (cI, 238, .inl m_book)), (q_kept, .inl (cI, 34, .inl m_kept)), (q_isKept, .inl (cZ, 2, .inl m_isKept)), (q_heldWho, .inl (cI, 6, .inl m_heldWho)), (q_heldForce, .inl (cI, 6, .inl m_heldForce)), (q_heldLoad, .inl (cI, 6, .inl m_heldLoad)), (q_heldIs, .inl (cI, 6, .inl m_heldIs)), (q_gains, .inl (cI, 50, .inl m_gains)), (q_value, .inl (cI, 16, .inl m_value))] H locs → lv_has ls 7 [(0, .ref m_a), (1, .int v1), (2, .int v2), (3, .int v3), (4, .int v4)] → W p l e (rmo 3 61) s m args below meth c H locs 0 0 (MQ below (QI D (fun u : Int32 × Int32 × Int32 => [(m_a, .inr (5, [.int u.1, .ref q_text, .int m_textSize, .int m_place, .ref q_cards, .ref q_readCards, .ref q_readPage, .ref q_page, .ref q_trial, .ref q_loads, .ref q_book, .int m_acts, .ref q_kept, .ref q_isKept, .int m_held, .ref q_heldWho, .ref q_heldForce, .ref q_heldLoad, .ref q_heldIs, .long m_seed, .int u.2.1, .int u.2.2, .int m_restMany, .int m_restFirst, .ref q_gains, .ref q_value])), (q_text, .inl (cI, 56, .inl m_text)), (q_cards, .inl (cI, 4, .inl m_cards)), (q_readCards, .inl (cI, 4, .inl m_readCards)), (q_readPage, .inl (cI, 17, .inl m_readPage)), (q_page, .inl (cI, 17, .inl m_page)), (q_trial, .inl (cI, 17, .inl m_trial)), (q_loads, .inl (cI, 16, .inl m_loads)), (q_book, .inl (cI, 238, .inl m_book)), (q_kept, .inl (cI, 34, .inl m_kept)), (q_isKept, .inl (cZ, 2, .inl m_isKept)), (q_heldWho, .inl (cI, 6, .inl m_heldWho)), (q_heldForce, .inl (cI, 6, .inl m_heldForce)), (q_heldLoad, .inl (cI, 6, .inl m_heldLoad)), (q_heldIs, .inl (cI, 6, .inl m_heldIs)), (q_gains, .inl (cI, 50, .inl m_gains)), (q_value, .inl (cI, 16, .inl m_value))]) A res) args s 0 0 A) (F0 m 42 ls []) := by
  obtain ⟨hx, hb, hr, hml, hown, hts, hlk⟩ := id C
  have hg : ∀ w ∈ GW, w.before args s = true := fun w h => hts w (List.mem_cons_of_mem _ h)
  intro n
  induction n with
  | zero =>
    intro _ _ H locs ls hf
    rw [fX5_tents_L42] at hf
    cases hf
  | succ n ih =>
    intro v3 v4 H locs ls hf w hl
    rw [fX5_tents_L42] at hf
    refine lv_iload hx hb dX5_tents_42 (lv_at hl 4 rfl) ?_
    refine lv_aload_n hx hb dX5_tents_44 rfl (lv_at hl 0 rfl) ?_
    refine va_get (D := D) (ci := 5) (v := .int m_held) (C := RX5) (T := TX5) (N := 26) hx hb hg iX5 hown w.2.2.2.2.2.2.1 w.1 0 rfl rfl 14 (by decide) (hg _ w_503) (fun _ h9 => h9) rfl dX5_tents_45 ?_
    refine lv_icmp_ge (tgt := 152) hx hb dX5_tents_48 (by decide) (fun c1 => ?_) (fun c1 => ?_)
    · replace hf := ite_t c1 hf
      refine lv_aload_n hx hb dX5_tents_152 rfl (lv_at hl 0 rfl) ?_
      refine lv_iload_n hx hb dX5_tents_153 rfl (lv_at hl 3 rfl) ?_
      refine lv_if_eq (tgt := 177) hx hb dX5_tents_154 (by decide) (fun c2 => ?_) (fun c2 => ?_)
      · replace hf := ite_t c2 hf
        refine lv_aload_n hx hb dX5_tents_177 rfl (lv_at hl 0 rfl) ?_
        refine va_get (D := D) (ci := 5) (v := .int m_tentFirst) (C := RX5) (T := TX5) (N := 26) hx hb hg iX5 hown w.2.2.2.2.2.2.1 w.1 0 rfl rfl 21 (by decide) (hg _ w_510) (fun _ h9 => h9) rfl dX5_tents_178 ?_
        refine k_put (ci := 5) (v := .int m_tentFirst) (ty := .int) (C := RX5) (T := TX5) (N := 26) hx hb hg iX5 tyX5 tyX5_ok nmX5 hown w 0 rfl rfl 21 (by decide) (hg _ w_510) (fun _ h9 => h9) rfl pd_I rfl rfl (Nat.le_of_ble_eq_true rfl) dX5_tents_181 (fun H locs w => ?_)
        have w : Wd D cI cZ b0 tt A s [(m_a, .inr (5, [.int m_thrown, .ref q_text, .int m_textSize, .int m_place, .ref q_cards, .ref q_readCards, .ref q_readPage, .ref q_page, .ref q_trial, .ref q_loads, .ref q_book, .int m_acts, .ref q_kept, .ref q_isKept, .int m_held, .ref q_heldWho, .ref q_heldForce, .ref q_heldLoad, .ref q_heldIs, .long m_seed, .int m_tentMany, .int m_tentFirst, .int m_restMany, .int m_restFirst, .ref q_gains, .ref q_value])), (q_text, .inl (cI, 56, .inl m_text)), (q_cards, .inl (cI, 4, .inl m_cards)), (q_readCards, .inl (cI, 4, .inl m_readCards)), (q_readPage, .inl (cI, 17, .inl m_readPage)), (q_page, .inl (cI, 17, .inl m_page)), (q_trial, .inl (cI, 17, .inl m_trial)), (q_loads, .inl (cI, 16, .inl m_loads)), (q_book, .inl (cI, 238, .inl m_book)), (q_kept, .inl (cI, 34, .inl m_kept)), (q_isKept, .inl (cZ, 2, .inl m_isKept)), (q_heldWho, .inl (cI, 6, .inl m_heldWho)), (q_heldForce, .inl (cI, 6, .inl m_heldForce)), (q_heldLoad, .inl (cI, 6, .inl m_heldLoad)), (q_heldIs, .inl (cI, 6, .inl m_heldIs)), (q_gains, .inl (cI, 50, .inl m_gains)), (q_value, .inl (cI, 16, .inl m_value))] H locs := w
        refine lv_aload_n hx hb dX5_tents_184 rfl (lv_at hl 0 rfl) ?_
        refine lv_dup hx hb dX5_tents_185 rfl ?_
        refine va_get (D := D) (ci := 5) (v := .int m_tentMany) (C := RX5) (T := TX5) (N := 26) hx hb hg iX5 hown w.2.2.2.2.2.2.1 w.1 0 rfl rfl 20 (by decide) (hg _ w_509) (fun _ h9 => h9) rfl dX5_tents_186 ?_
        refine lv_iload_n hx hb dX5_tents_189 rfl (lv_at hl 3 rfl) ?_
        refine lv_if_eq (tgt := 197) hx hb dX5_tents_190 (by decide) (fun c3 => ?_) (fun c3 => ?_)
        · replace hf := ite_t c3 hf
          refine lv_iconst (v := 0) hx hb dX5_tents_197 (by decide) ?_
          refine lv_iadd hx hb dX5_tents_198 ?_
          refine lv_topi (fun z4 ez4 => ?_)
          replace hf := nm_at ez4 hf
          refine k_put (ci := 5) (v := .int z4) (ty := .int) (C := RX5) (T := TX5) (N := 26) hx hb hg iX5 tyX5 tyX5_ok nmX5 hown w 0 rfl rfl 20 (by decide) (hg _ w_509) (fun _ h9 => h9) rfl pd_I rfl rfl (Nat.le_of_ble_eq_true rfl) dX5_tents_199 (fun H locs w => ?_)
          have w : Wd D cI cZ b0 tt A s [(m_a, .inr (5, [.int m_thrown, .ref q_text, .int m_textSize, .int m_place, .ref q_cards, .ref q_readCards, .ref q_readPage, .ref q_page, .ref q_trial, .ref q_loads, .ref q_book, .int m_acts, .ref q_kept, .ref q_isKept, .int m_held, .ref q_heldWho, .ref q_heldForce, .ref q_heldLoad, .ref q_heldIs, .long m_seed, .int z4, .int m_tentFirst, .int m_restMany, .int m_restFirst, .ref q_gains, .ref q_value])), (q_text, .inl (cI, 56, .inl m_text)), (q_cards, .inl (cI, 4, .inl m_cards)), (q_readCards, .inl (cI, 4, .inl m_readCards)), (q_readPage, .inl (cI, 17, .inl m_readPage)), (q_page, .inl (cI, 17, .inl m_page)), (q_trial, .inl (cI, 17, .inl m_trial)), (q_loads, .inl (cI, 16, .inl m_loads)), (q_book, .inl (cI, 238, .inl m_book)), (q_kept, .inl (cI, 34, .inl m_kept)), (q_isKept, .inl (cZ, 2, .inl m_isKept)), (q_heldWho, .inl (cI, 6, .inl m_heldWho)), (q_heldForce, .inl (cI, 6, .inl m_heldForce)), (q_heldLoad, .inl (cI, 6, .inl m_heldLoad)), (q_heldIs, .inl (cI, 6, .inl m_heldIs)), (q_gains, .inl (cI, 50, .inl m_gains)), (q_value, .inl (cI, 16, .inl m_value))] H locs := w
          obtain ⟨z5, ez5⟩ : ∃ y : Int32, y = (v2 + 1) := ⟨_, rfl⟩
          replace hf := nm_at ez5 hf
          refine lv_iinc (v := z5) (lv' := [(2, .int z5), (0, .ref m_a), (1, .int v1), (3, .int v3), (4, .int v4)]) hx hb dX5_tents_202 hl (k := 2) rfl (by rw [ez5]; rfl) (by decide) rfl (fun ls hl => ?_)
          refine lv_goto (tgt := 31) hx hb dX5_tents_205 (by decide) ?_
          exact hK31 z5 z4 m_tentFirst H locs ls hf w (lv_sub hl [1, 2, 0] rfl)
        · replace hf := ite_f c3 hf
          refine lv_iconst (v := 1) hx hb dX5_tents_193 (by decide) ?_
          refine lv_goto (tgt := 198) hx hb dX5_tents_194 (by decide) ?_
          refine lv_iadd hx hb dX5_tents_198 ?_
          refine lv_topi (fun z6 ez6 => ?_)
          replace hf := nm_at ez6 hf
          refine k_put (ci := 5) (v := .int z6) (ty := .int) (C := RX5) (T := TX5) (N := 26) hx hb hg iX5 tyX5 tyX5_ok nmX5 hown w 0 rfl rfl 20 (by decide) (hg _ w_509) (fun _ h9 => h9) rfl pd_I rfl rfl (Nat.le_of_ble_eq_true rfl) dX5_tents_199 (fun H locs w => ?_)
          have w : Wd D cI cZ b0 tt A s [(m_a, .inr (5, [.int m_thrown, .ref q_text, .int m_textSize, .int m_place, .ref q_cards, .ref q_readCards, .ref q_readPage, .ref q_page, .ref q_trial, .ref q_loads, .ref q_book, .int m_acts, .ref q_kept, .ref q_isKept, .int m_held, .ref q_heldWho, .ref q_heldForce, .ref q_heldLoad, .ref q_heldIs, .long m_seed, .int z6, .int m_tentFirst, .int m_restMany, .int m_restFirst, .ref q_gains, .ref q_value])), (q_text, .inl (cI, 56, .inl m_text)), (q_cards, .inl (cI, 4, .inl m_cards)), (q_readCards, .inl (cI, 4, .inl m_readCards)), (q_readPage, .inl (cI, 17, .inl m_readPage)), (q_page, .inl (cI, 17, .inl m_page)), (q_trial, .inl (cI, 17, .inl m_trial)), (q_loads, .inl (cI, 16, .inl m_loads)), (q_book, .inl (cI, 238, .inl m_book)), (q_kept, .inl (cI, 34, .inl m_kept)), (q_isKept, .inl (cZ, 2, .inl m_isKept)), (q_heldWho, .inl (cI, 6, .inl m_heldWho)), (q_heldForce, .inl (cI, 6, .inl m_heldForce)), (q_heldLoad, .inl (cI, 6, .inl m_heldLoad)), (q_heldIs, .inl (cI, 6, .inl m_heldIs)), (q_gains, .inl (cI, 50, .inl m_gains)), (q_value, .inl (cI, 16, .inl m_value))] H locs := w
          obtain ⟨z7, ez7⟩ : ∃ y : Int32, y = (v2 + 1) := ⟨_, rfl⟩
          replace hf := nm_at ez7 hf
          refine lv_iinc (v := z7) (lv' := [(2, .int z7), (0, .ref m_a), (1, .int v1), (3, .int v3), (4, .int v4)]) hx hb dX5_tents_202 hl (k := 2) rfl (by rw [ez7]; rfl) (by decide) rfl (fun ls hl => ?_)
          refine lv_goto (tgt := 31) hx hb dX5_tents_205 (by decide) ?_
          exact hK31 z7 z6 m_tentFirst H locs ls hf w (lv_sub hl [1, 2, 0] rfl)
      · replace hf := ite_f c2 hf
        refine lv_aload_n hx hb dX5_tents_157 rfl (lv_at hl 0 rfl) ?_
        refine va_get (D := D) (ci := 5) (v := .int m_tentMany) (C := RX5) (T := TX5) (N := 26) hx hb hg iX5 hown w.2.2.2.2.2.2.1 w.1 0 rfl rfl 20 (by decide) (hg _ w_509) (fun _ h9 => h9) rfl dX5_tents_158 ?_
        refine lv_if_ne (tgt := 177) hx hb dX5_tents_161 (by decide) (fun c8 => ?_) (fun c8 => ?_)
        · replace hf := ite_f c8 hf
          refine lv_aload_n hx hb dX5_tents_177 rfl (lv_at hl 0 rfl) ?_
          refine va_get (D := D) (ci := 5) (v := .int m_tentFirst) (C := RX5) (T := TX5) (N := 26) hx hb hg iX5 hown w.2.2.2.2.2.2.1 w.1 0 rfl rfl 21 (by decide) (hg _ w_510) (fun _ h9 => h9) rfl dX5_tents_178 ?_
          refine k_put (ci := 5) (v := .int m_tentFirst) (ty := .int) (C := RX5) (T := TX5) (N := 26) hx hb hg iX5 tyX5 tyX5_ok nmX5 hown w 0 rfl rfl 21 (by decide) (hg _ w_510) (fun _ h9 => h9) rfl pd_I rfl rfl (Nat.le_of_ble_eq_true rfl) dX5_tents_181 (fun H locs w => ?_)
          have w : Wd D cI cZ b0 tt A s [(m_a, .inr (5, [.int m_thrown, .ref q_text, .int m_textSize, .int m_place, .ref q_cards, .ref q_readCards, .ref q_readPage, .ref q_page, .ref q_trial, .ref q_loads, .ref q_book, .int m_acts, .ref q_kept, .ref q_isKept, .int m_held, .ref q_heldWho, .ref q_heldForce, .ref q_heldLoad, .ref q_heldIs, .long m_seed, .int m_tentMany, .int m_tentFirst, .int m_restMany, .int m_restFirst, .ref q_gains, .ref q_value])), (q_text, .inl (cI, 56, .inl m_text)), (q_cards, .inl (cI, 4, .inl m_cards)), (q_readCards, .inl (cI, 4, .inl m_readCards)), (q_readPage, .inl (cI, 17, .inl m_readPage)), (q_page, .inl (cI, 17, .inl m_page)), (q_trial, .inl (cI, 17, .inl m_trial)), (q_loads, .inl (cI, 16, .inl m_loads)), (q_book, .inl (cI, 238, .inl m_book)), (q_kept, .inl (cI, 34, .inl m_kept)), (q_isKept, .inl (cZ, 2, .inl m_isKept)), (q_heldWho, .inl (cI, 6, .inl m_heldWho)), (q_heldForce, .inl (cI, 6, .inl m_heldForce)), (q_heldLoad, .inl (cI, 6, .inl m_heldLoad)), (q_heldIs, .inl (cI, 6, .inl m_heldIs)), (q_gains, .inl (cI, 50, .inl m_gains)), (q_value, .inl (cI, 16, .inl m_value))] H locs := w
          refine lv_aload_n hx hb dX5_tents_184 rfl (lv_at hl 0 rfl) ?_
          refine lv_dup hx hb dX5_tents_185 rfl ?_
          refine va_get (D := D) (ci := 5) (v := .int m_tentMany) (C := RX5) (T := TX5) (N := 26) hx hb hg iX5 hown w.2.2.2.2.2.2.1 w.1 0 rfl rfl 20 (by decide) (hg _ w_509) (fun _ h9 => h9) rfl dX5_tents_186 ?_
          refine lv_iload_n hx hb dX5_tents_189 rfl (lv_at hl 3 rfl) ?_
          refine lv_if_eq (tgt := 197) hx hb dX5_tents_190 (by decide) (fun c9 => ?_) (fun c9 => ?_)
          · replace hf := ite_t c9 hf
            refine lv_iconst (v := 0) hx hb dX5_tents_197 (by decide) ?_
            refine lv_iadd hx hb dX5_tents_198 ?_
            refine lv_topi (fun z10 ez10 => ?_)
            replace hf := nm_at ez10 hf
            refine k_put (ci := 5) (v := .int z10) (ty := .int) (C := RX5) (T := TX5) (N := 26) hx hb hg iX5 tyX5 tyX5_ok nmX5 hown w 0 rfl rfl 20 (by decide) (hg _ w_509) (fun _ h9 => h9) rfl pd_I rfl rfl (Nat.le_of_ble_eq_true rfl) dX5_tents_199 (fun H locs w => ?_)
            have w : Wd D cI cZ b0 tt A s [(m_a, .inr (5, [.int m_thrown, .ref q_text, .int m_textSize, .int m_place, .ref q_cards, .ref q_readCards, .ref q_readPage, .ref q_page, .ref q_trial, .ref q_loads, .ref q_book, .int m_acts, .ref q_kept, .ref q_isKept, .int m_held, .ref q_heldWho, .ref q_heldForce, .ref q_heldLoad, .ref q_heldIs, .long m_seed, .int z10, .int m_tentFirst, .int m_restMany, .int m_restFirst, .ref q_gains, .ref q_value])), (q_text, .inl (cI, 56, .inl m_text)), (q_cards, .inl (cI, 4, .inl m_cards)), (q_readCards, .inl (cI, 4, .inl m_readCards)), (q_readPage, .inl (cI, 17, .inl m_readPage)), (q_page, .inl (cI, 17, .inl m_page)), (q_trial, .inl (cI, 17, .inl m_trial)), (q_loads, .inl (cI, 16, .inl m_loads)), (q_book, .inl (cI, 238, .inl m_book)), (q_kept, .inl (cI, 34, .inl m_kept)), (q_isKept, .inl (cZ, 2, .inl m_isKept)), (q_heldWho, .inl (cI, 6, .inl m_heldWho)), (q_heldForce, .inl (cI, 6, .inl m_heldForce)), (q_heldLoad, .inl (cI, 6, .inl m_heldLoad)), (q_heldIs, .inl (cI, 6, .inl m_heldIs)), (q_gains, .inl (cI, 50, .inl m_gains)), (q_value, .inl (cI, 16, .inl m_value))] H locs := w
            obtain ⟨z11, ez11⟩ : ∃ y : Int32, y = (v2 + 1) := ⟨_, rfl⟩
            replace hf := nm_at ez11 hf
            refine lv_iinc (v := z11) (lv' := [(2, .int z11), (0, .ref m_a), (1, .int v1), (3, .int v3), (4, .int v4)]) hx hb dX5_tents_202 hl (k := 2) rfl (by rw [ez11]; rfl) (by decide) rfl (fun ls hl => ?_)
            refine lv_goto (tgt := 31) hx hb dX5_tents_205 (by decide) ?_
            exact hK31 z11 z10 m_tentFirst H locs ls hf w (lv_sub hl [1, 2, 0] rfl)
          · replace hf := ite_f c9 hf
            refine lv_iconst (v := 1) hx hb dX5_tents_193 (by decide) ?_
            refine lv_goto (tgt := 198) hx hb dX5_tents_194 (by decide) ?_
            refine lv_iadd hx hb dX5_tents_198 ?_
            refine lv_topi (fun z12 ez12 => ?_)
            replace hf := nm_at ez12 hf
            refine k_put (ci := 5) (v := .int z12) (ty := .int) (C := RX5) (T := TX5) (N := 26) hx hb hg iX5 tyX5 tyX5_ok nmX5 hown w 0 rfl rfl 20 (by decide) (hg _ w_509) (fun _ h9 => h9) rfl pd_I rfl rfl (Nat.le_of_ble_eq_true rfl) dX5_tents_199 (fun H locs w => ?_)
            have w : Wd D cI cZ b0 tt A s [(m_a, .inr (5, [.int m_thrown, .ref q_text, .int m_textSize, .int m_place, .ref q_cards, .ref q_readCards, .ref q_readPage, .ref q_page, .ref q_trial, .ref q_loads, .ref q_book, .int m_acts, .ref q_kept, .ref q_isKept, .int m_held, .ref q_heldWho, .ref q_heldForce, .ref q_heldLoad, .ref q_heldIs, .long m_seed, .int z12, .int m_tentFirst, .int m_restMany, .int m_restFirst, .ref q_gains, .ref q_value])), (q_text, .inl (cI, 56, .inl m_text)), (q_cards, .inl (cI, 4, .inl m_cards)), (q_readCards, .inl (cI, 4, .inl m_readCards)), (q_readPage, .inl (cI, 17, .inl m_readPage)), (q_page, .inl (cI, 17, .inl m_page)), (q_trial, .inl (cI, 17, .inl m_trial)), (q_loads, .inl (cI, 16, .inl m_loads)), (q_book, .inl (cI, 238, .inl m_book)), (q_kept, .inl (cI, 34, .inl m_kept)), (q_isKept, .inl (cZ, 2, .inl m_isKept)), (q_heldWho, .inl (cI, 6, .inl m_heldWho)), (q_heldForce, .inl (cI, 6, .inl m_heldForce)), (q_heldLoad, .inl (cI, 6, .inl m_heldLoad)), (q_heldIs, .inl (cI, 6, .inl m_heldIs)), (q_gains, .inl (cI, 50, .inl m_gains)), (q_value, .inl (cI, 16, .inl m_value))] H locs := w
            obtain ⟨z13, ez13⟩ : ∃ y : Int32, y = (v2 + 1) := ⟨_, rfl⟩
            replace hf := nm_at ez13 hf
            refine lv_iinc (v := z13) (lv' := [(2, .int z13), (0, .ref m_a), (1, .int v1), (3, .int v3), (4, .int v4)]) hx hb dX5_tents_202 hl (k := 2) rfl (by rw [ez13]; rfl) (by decide) rfl (fun ls hl => ?_)
            refine lv_goto (tgt := 31) hx hb dX5_tents_205 (by decide) ?_
            exact hK31 z13 z12 m_tentFirst H locs ls hf w (lv_sub hl [1, 2, 0] rfl)
        · replace hf := ite_t c8 hf
          refine lv_bipush (v := 10) hx hb dX5_tents_164 (by decide) ?_
          refine lv_iload_n hx hb dX5_tents_166 rfl (lv_at hl 2 rfl) ?_
          refine lv_iconst (v := 4) hx hb dX5_tents_167 (by decide) ?_
          refine lv_idiv hx hb dX5_tents_168 (by decide) ?_
          refine lv_imul hx hb dX5_tents_169 ?_
          refine lv_iload_n hx hb dX5_tents_170 rfl (lv_at hl 2 rfl) ?_
          refine lv_iconst (v := 4) hx hb dX5_tents_171 (by decide) ?_
          refine lv_irem hx hb dX5_tents_172 (by decide) ?_
          refine lv_iadd hx hb dX5_tents_173 ?_
          refine lv_goto (tgt := 181) hx hb dX5_tents_174 (by decide) ?_
          refine lv_topi (fun z14 ez14 => ?_)
          replace hf := nm_at ez14 hf
          refine k_put (ci := 5) (v := .int z14) (ty := .int) (C := RX5) (T := TX5) (N := 26) hx hb hg iX5 tyX5 tyX5_ok nmX5 hown w 0 rfl rfl 21 (by decide) (hg _ w_510) (fun _ h9 => h9) rfl pd_I rfl rfl (Nat.le_of_ble_eq_true rfl) dX5_tents_181 (fun H locs w => ?_)
          have w : Wd D cI cZ b0 tt A s [(m_a, .inr (5, [.int m_thrown, .ref q_text, .int m_textSize, .int m_place, .ref q_cards, .ref q_readCards, .ref q_readPage, .ref q_page, .ref q_trial, .ref q_loads, .ref q_book, .int m_acts, .ref q_kept, .ref q_isKept, .int m_held, .ref q_heldWho, .ref q_heldForce, .ref q_heldLoad, .ref q_heldIs, .long m_seed, .int m_tentMany, .int z14, .int m_restMany, .int m_restFirst, .ref q_gains, .ref q_value])), (q_text, .inl (cI, 56, .inl m_text)), (q_cards, .inl (cI, 4, .inl m_cards)), (q_readCards, .inl (cI, 4, .inl m_readCards)), (q_readPage, .inl (cI, 17, .inl m_readPage)), (q_page, .inl (cI, 17, .inl m_page)), (q_trial, .inl (cI, 17, .inl m_trial)), (q_loads, .inl (cI, 16, .inl m_loads)), (q_book, .inl (cI, 238, .inl m_book)), (q_kept, .inl (cI, 34, .inl m_kept)), (q_isKept, .inl (cZ, 2, .inl m_isKept)), (q_heldWho, .inl (cI, 6, .inl m_heldWho)), (q_heldForce, .inl (cI, 6, .inl m_heldForce)), (q_heldLoad, .inl (cI, 6, .inl m_heldLoad)), (q_heldIs, .inl (cI, 6, .inl m_heldIs)), (q_gains, .inl (cI, 50, .inl m_gains)), (q_value, .inl (cI, 16, .inl m_value))] H locs := w
          refine lv_aload_n hx hb dX5_tents_184 rfl (lv_at hl 0 rfl) ?_
          refine lv_dup hx hb dX5_tents_185 rfl ?_
          refine va_get (D := D) (ci := 5) (v := .int m_tentMany) (C := RX5) (T := TX5) (N := 26) hx hb hg iX5 hown w.2.2.2.2.2.2.1 w.1 0 rfl rfl 20 (by decide) (hg _ w_509) (fun _ h9 => h9) rfl dX5_tents_186 ?_
          refine lv_iload_n hx hb dX5_tents_189 rfl (lv_at hl 3 rfl) ?_
          refine lv_if_eq (tgt := 197) hx hb dX5_tents_190 (by decide) (fun c15 => ?_) (fun c15 => ?_)
          · replace hf := ite_t c15 hf
            refine lv_iconst (v := 0) hx hb dX5_tents_197 (by decide) ?_
            refine lv_iadd hx hb dX5_tents_198 ?_
            refine lv_topi (fun z16 ez16 => ?_)
            replace hf := nm_at ez16 hf
            refine k_put (ci := 5) (v := .int z16) (ty := .int) (C := RX5) (T := TX5) (N := 26) hx hb hg iX5 tyX5 tyX5_ok nmX5 hown w 0 rfl rfl 20 (by decide) (hg _ w_509) (fun _ h9 => h9) rfl pd_I rfl rfl (Nat.le_of_ble_eq_true rfl) dX5_tents_199 (fun H locs w => ?_)
            have w : Wd D cI cZ b0 tt A s [(m_a, .inr (5, [.int m_thrown, .ref q_text, .int m_textSize, .int m_place, .ref q_cards, .ref q_readCards, .ref q_readPage, .ref q_page, .ref q_trial, .ref q_loads, .ref q_book, .int m_acts, .ref q_kept, .ref q_isKept, .int m_held, .ref q_heldWho, .ref q_heldForce, .ref q_heldLoad, .ref q_heldIs, .long m_seed, .int z16, .int z14, .int m_restMany, .int m_restFirst, .ref q_gains, .ref q_value])), (q_text, .inl (cI, 56, .inl m_text)), (q_cards, .inl (cI, 4, .inl m_cards)), (q_readCards, .inl (cI, 4, .inl m_readCards)), (q_readPage, .inl (cI, 17, .inl m_readPage)), (q_page, .inl (cI, 17, .inl m_page)), (q_trial, .inl (cI, 17, .inl m_trial)), (q_loads, .inl (cI, 16, .inl m_loads)), (q_book, .inl (cI, 238, .inl m_book)), (q_kept, .inl (cI, 34, .inl m_kept)), (q_isKept, .inl (cZ, 2, .inl m_isKept)), (q_heldWho, .inl (cI, 6, .inl m_heldWho)), (q_heldForce, .inl (cI, 6, .inl m_heldForce)), (q_heldLoad, .inl (cI, 6, .inl m_heldLoad)), (q_heldIs, .inl (cI, 6, .inl m_heldIs)), (q_gains, .inl (cI, 50, .inl m_gains)), (q_value, .inl (cI, 16, .inl m_value))] H locs := w
            obtain ⟨z17, ez17⟩ : ∃ y : Int32, y = (v2 + 1) := ⟨_, rfl⟩
            replace hf := nm_at ez17 hf
            refine lv_iinc (v := z17) (lv' := [(2, .int z17), (0, .ref m_a), (1, .int v1), (3, .int v3), (4, .int v4)]) hx hb dX5_tents_202 hl (k := 2) rfl (by rw [ez17]; rfl) (by decide) rfl (fun ls hl => ?_)
            refine lv_goto (tgt := 31) hx hb dX5_tents_205 (by decide) ?_
            exact hK31 z17 z16 z14 H locs ls hf w (lv_sub hl [1, 2, 0] rfl)
          · replace hf := ite_f c15 hf
            refine lv_iconst (v := 1) hx hb dX5_tents_193 (by decide) ?_
            refine lv_goto (tgt := 198) hx hb dX5_tents_194 (by decide) ?_
            refine lv_iadd hx hb dX5_tents_198 ?_
            refine lv_topi (fun z18 ez18 => ?_)
            replace hf := nm_at ez18 hf
            refine k_put (ci := 5) (v := .int z18) (ty := .int) (C := RX5) (T := TX5) (N := 26) hx hb hg iX5 tyX5 tyX5_ok nmX5 hown w 0 rfl rfl 20 (by decide) (hg _ w_509) (fun _ h9 => h9) rfl pd_I rfl rfl (Nat.le_of_ble_eq_true rfl) dX5_tents_199 (fun H locs w => ?_)
            have w : Wd D cI cZ b0 tt A s [(m_a, .inr (5, [.int m_thrown, .ref q_text, .int m_textSize, .int m_place, .ref q_cards, .ref q_readCards, .ref q_readPage, .ref q_page, .ref q_trial, .ref q_loads, .ref q_book, .int m_acts, .ref q_kept, .ref q_isKept, .int m_held, .ref q_heldWho, .ref q_heldForce, .ref q_heldLoad, .ref q_heldIs, .long m_seed, .int z18, .int z14, .int m_restMany, .int m_restFirst, .ref q_gains, .ref q_value])), (q_text, .inl (cI, 56, .inl m_text)), (q_cards, .inl (cI, 4, .inl m_cards)), (q_readCards, .inl (cI, 4, .inl m_readCards)), (q_readPage, .inl (cI, 17, .inl m_readPage)), (q_page, .inl (cI, 17, .inl m_page)), (q_trial, .inl (cI, 17, .inl m_trial)), (q_loads, .inl (cI, 16, .inl m_loads)), (q_book, .inl (cI, 238, .inl m_book)), (q_kept, .inl (cI, 34, .inl m_kept)), (q_isKept, .inl (cZ, 2, .inl m_isKept)), (q_heldWho, .inl (cI, 6, .inl m_heldWho)), (q_heldForce, .inl (cI, 6, .inl m_heldForce)), (q_heldLoad, .inl (cI, 6, .inl m_heldLoad)), (q_heldIs, .inl (cI, 6, .inl m_heldIs)), (q_gains, .inl (cI, 50, .inl m_gains)), (q_value, .inl (cI, 16, .inl m_value))] H locs := w
            obtain ⟨z19, ez19⟩ : ∃ y : Int32, y = (v2 + 1) := ⟨_, rfl⟩
            replace hf := nm_at ez19 hf
            refine lv_iinc (v := z19) (lv' := [(2, .int z19), (0, .ref m_a), (1, .int v1), (3, .int v3), (4, .int v4)]) hx hb dX5_tents_202 hl (k := 2) rfl (by rw [ez19]; rfl) (by decide) rfl (fun ls hl => ?_)
            refine lv_goto (tgt := 31) hx hb dX5_tents_205 (by decide) ?_
            exact hK31 z19 z18 z14 H locs ls hf w (lv_sub hl [1, 2, 0] rfl)
    · replace hf := ite_f c1 hf
      refine lv_aload_n hx hb dX5_tents_51 rfl (lv_at hl 0 rfl) ?_
      refine va_get (D := D) (ci := 5) (v := .ref q_heldWho) (C := RX5) (T := TX5) (N := 26) hx hb hg iX5 hown w.2.2.2.2.2.2.1 w.1 0 rfl rfl 15 (by decide) (hg _ w_504) (fun _ h9 => h9) rfl dX5_tents_52 ?_
      refine lv_iload hx hb dX5_tents_55 (lv_at hl 4 rfl) ?_
      replace hf := gd_at hf
      obtain ⟨hi20, hf⟩ := hf
      refine va_iald hx hb w.2.2.2.2.2.2.1 w.1 11 0 rfl rfl hi20 dX5_tents_57 ?_
      refine lv_if_ne (tgt := 67) hx hb dX5_tents_58 (by decide) (fun c21 => ?_) (fun c21 => ?_)
      · replace hf := ite_f c21 hf
        refine lv_iload_n hx hb dX5_tents_67 rfl (lv_at hl 2 rfl) ?_
        refine lv_iconst (v := 4) hx hb dX5_tents_68 (by decide) ?_
        refine lv_irem hx hb dX5_tents_69 (by decide) ?_
        refine lv_topi (fun z22 ez22 => ?_)
        replace hf := nm_at ez22 hf
        refine lv_istore (lv' := [(5, .int z22), (0, .ref m_a), (1, .int v1), (2, .int v2), (3, .int v3), (4, .int v4)]) hx hb dX5_tents_70 hl (by decide) rfl (fun ls hl => ?_)
        refine lv_iconst (v := 0) hx hb dX5_tents_72 (by decide) ?_
        refine lv_iload hx hb dX5_tents_73 (lv_at hl 0 rfl) ?_
        replace hf := ob_at hf
        obtain ⟨r23, er23, hf⟩ := hf
        refine k_goI0 w [] rfl (va_runS (As := [.int 0, .int z22]) (rest := []) ⟨hx, hb, hml, hown, hg⟩ (tX5_weighs l D cI cZ b0 tt 0 z22 er23 H.size) (va_cwS 2 hg (gwS w_638 w_639 w_7 w_640) rfl rfl rfl qdX5_weighs ⟨Nat.le_of_ble_eq_true rfl, Nat.le_of_ble_eq_true rfl⟩) (k_preS w [] (by decide) rfl) rfl rfl hl.1 rfl (lv_room (Nat.le_of_ble_eq_true rfl)) dX5_tents_75 ⟨Nat.le_refl _, Nat.le_refl _⟩) (fun H locs w => ?_)
        refine lv_bipush (v := 8) hx hb dX5_tents_78 (by decide) ?_
        refine lv_aload_n hx hb dX5_tents_80 rfl (lv_at hl 1 rfl) ?_
        refine va_get (D := D) (ci := 5) (v := .ref q_heldLoad) (C := RX5) (T := TX5) (N := 26) hx hb hg iX5 hown w.2.2.2.2.2.2.1 w.1 0 rfl rfl 17 (by decide) (hg _ w_506) (fun _ h9 => h9) rfl dX5_tents_81 ?_
        refine lv_iload hx hb dX5_tents_84 (lv_at hl 5 rfl) ?_
        replace hf := gd_at hf
        obtain ⟨hi24, hf⟩ := hf
        refine va_iald hx hb w.2.2.2.2.2.2.1 w.1 13 0 rfl rfl hi24 dX5_tents_86 ?_
        refine lv_imul hx hb dX5_tents_87 ?_
        refine lv_iadd hx hb dX5_tents_88 ?_
        refine lv_iload hx hb dX5_tents_89 (lv_at hl 0 rfl) ?_
        replace hf := ob_at hf
        obtain ⟨r25, er25, hf⟩ := hf
        refine k_goI0 w [] rfl (va_runS (As := [.int z22]) (rest := [.int (r23 + ((8 : Int32) * (m_heldLoad (Int32.toNatClampNeg v4))))]) ⟨hx, hb, hml, hown, hg⟩ (tX5_grip l D cI cZ b0 tt z22 er25 H.size) (va_cwS 1 hg (gwS w_719 w_720 w_7 w_721) rfl rfl rfl qdX5_grip ⟨Nat.le_of_ble_eq_true rfl, Nat.le_of_ble_eq_true rfl⟩) (k_preS w [] (by decide) rfl) rfl rfl hl.1 rfl (lv_room (Nat.le_of_ble_eq_true rfl)) dX5_tents_91 ⟨Nat.le_refl _, Nat.le_refl _⟩) (fun H locs w => ?_)
        refine lv_iadd hx hb dX5_tents_94 ?_
        refine lv_bipush (v := 8) hx hb dX5_tents_95 (by decide) ?_
        refine lv_aload_n hx hb dX5_tents_97 rfl (lv_at hl 1 rfl) ?_
        refine va_get (D := D) (ci := 5) (v := .ref q_heldForce) (C := RX5) (T := TX5) (N := 26) hx hb hg iX5 hown w.2.2.2.2.2.2.1 w.1 0 rfl rfl 16 (by decide) (hg _ w_505) (fun _ h9 => h9) rfl dX5_tents_98 ?_
        refine lv_iload hx hb dX5_tents_101 (lv_at hl 5 rfl) ?_
        replace hf := gd_at hf
        obtain ⟨hi26, hf⟩ := hf
        refine va_iald hx hb w.2.2.2.2.2.2.1 w.1 12 0 rfl rfl hi26 dX5_tents_103 ?_
        refine lv_imul hx hb dX5_tents_104 ?_
        refine lv_icmp_lt (tgt := 112) hx hb dX5_tents_105 (by decide) (fun c27 => ?_) (fun c27 => ?_)
        · replace hf := ite_t c27 hf
          refine lv_iconst (v := 0) hx hb dX5_tents_112 (by decide) ?_
          refine lv_istore (lv' := [(6, .int 0), (5, .int z22), (0, .ref m_a), (1, .int v1), (2, .int v2), (3, .int v3), (4, .int v4)]) hx hb dX5_tents_113 hl (by decide) rfl (fun ls hl => ?_)
          refine lv_iload_n hx hb dX5_tents_115 rfl (lv_at hl 5 rfl) ?_
          refine lv_if_eq (tgt := 144) hx hb dX5_tents_116 (by decide) (fun c28 => ?_) (fun c28 => ?_)
          · replace hf := ite_t c28 hf
            refine lv_iconst (v := 0) hx hb dX5_tents_144 (by decide) ?_
            refine lv_istore_n (lv' := [(3, .int 0), (6, .int 0), (5, .int z22), (0, .ref m_a), (1, .int v1), (2, .int v2), (4, .int v4)]) hx hb dX5_tents_145 rfl hl (by decide) rfl (fun ls hl => ?_)
            obtain ⟨z29, ez29⟩ : ∃ y : Int32, y = (v4 + 1) := ⟨_, rfl⟩
            replace hf := nm_at ez29 hf
            refine lv_iinc (v := z29) (lv' := [(4, .int z29), (3, .int 0), (6, .int 0), (5, .int z22), (0, .ref m_a), (1, .int v1), (2, .int v2)]) hx hb dX5_tents_146 hl (k := 6) rfl (by rw [ez29]; rfl) (by decide) rfl (fun ls hl => ?_)
            refine lv_goto (tgt := 42) hx hb dX5_tents_149 (by decide) ?_
            exact ih 0 z29 H locs ls hf w (lv_sub hl [4, 5, 6, 1, 0] rfl)
          · replace hf := ite_f c28 hf
            refine lv_iload hx hb dX5_tents_119 (lv_at hl 0 rfl) ?_
            refine lv_aload_n hx hb dX5_tents_121 rfl (lv_at hl 2 rfl) ?_
            refine va_get (D := D) (ci := 5) (v := .ref q_heldIs) (C := RX5) (T := TX5) (N := 26) hx hb hg iX5 hown w.2.2.2.2.2.2.1 w.1 0 rfl rfl 18 (by decide) (hg _ w_507) (fun _ h9 => h9) rfl dX5_tents_122 ?_
            refine lv_iload hx hb dX5_tents_125 (lv_at hl 6 rfl) ?_
            replace hf := gd_at hf
            obtain ⟨hi30, hf⟩ := hf
            refine va_iald hx hb w.2.2.2.2.2.2.1 w.1 14 0 rfl rfl hi30 dX5_tents_127 ?_
            refine lv_iconst (v := 1) hx hb dX5_tents_128 (by decide) ?_
            refine lv_icmp_ne (tgt := 136) hx hb dX5_tents_129 (by decide) (fun c31 => ?_) (fun c31 => ?_)
            · replace hf := ite_f c31 hf
              refine lv_iconst (v := 0) hx hb dX5_tents_136 (by decide) ?_
              refine lv_icmp_ne (tgt := 144) hx hb dX5_tents_137 (by decide) (fun c32 => ?_) (fun c32 => ?_)
              · exact absurd c32 (by decide)
              · skip
                refine lv_iconst (v := 1) hx hb dX5_tents_140 (by decide) ?_
                refine lv_goto (tgt := 145) hx hb dX5_tents_141 (by decide) ?_
                refine lv_istore_n (lv' := [(3, .int 1), (6, .int 0), (5, .int z22), (0, .ref m_a), (1, .int v1), (2, .int v2), (4, .int v4)]) hx hb dX5_tents_145 rfl hl (by decide) rfl (fun ls hl => ?_)
                obtain ⟨z33, ez33⟩ : ∃ y : Int32, y = (v4 + 1) := ⟨_, rfl⟩
                replace hf := nm_at ez33 hf
                refine lv_iinc (v := z33) (lv' := [(4, .int z33), (3, .int 1), (6, .int 0), (5, .int z22), (0, .ref m_a), (1, .int v1), (2, .int v2)]) hx hb dX5_tents_146 hl (k := 6) rfl (by rw [ez33]; rfl) (by decide) rfl (fun ls hl => ?_)
                refine lv_goto (tgt := 42) hx hb dX5_tents_149 (by decide) ?_
                exact ih 1 z33 H locs ls hf w (lv_sub hl [4, 5, 6, 1, 0] rfl)
            · replace hf := ite_t c31 hf
              refine lv_iconst (v := 1) hx hb dX5_tents_132 (by decide) ?_
              refine lv_goto (tgt := 137) hx hb dX5_tents_133 (by decide) ?_
              refine lv_icmp_ne (tgt := 144) hx hb dX5_tents_137 (by decide) (fun c34 => ?_) (fun c34 => ?_)
              rotate_left
              · exact absurd c34 (by decide)
              · skip
                refine lv_iconst (v := 0) hx hb dX5_tents_144 (by decide) ?_
                refine lv_istore_n (lv' := [(3, .int 0), (6, .int 0), (5, .int z22), (0, .ref m_a), (1, .int v1), (2, .int v2), (4, .int v4)]) hx hb dX5_tents_145 rfl hl (by decide) rfl (fun ls hl => ?_)
                obtain ⟨z35, ez35⟩ : ∃ y : Int32, y = (v4 + 1) := ⟨_, rfl⟩
                replace hf := nm_at ez35 hf
                refine lv_iinc (v := z35) (lv' := [(4, .int z35), (3, .int 0), (6, .int 0), (5, .int z22), (0, .ref m_a), (1, .int v1), (2, .int v2)]) hx hb dX5_tents_146 hl (k := 6) rfl (by rw [ez35]; rfl) (by decide) rfl (fun ls hl => ?_)
                refine lv_goto (tgt := 42) hx hb dX5_tents_149 (by decide) ?_
                exact ih 0 z35 H locs ls hf w (lv_sub hl [4, 5, 6, 1, 0] rfl)
        · replace hf := ite_f c27 hf
          refine lv_iconst (v := 1) hx hb dX5_tents_108 (by decide) ?_
          refine lv_goto (tgt := 113) hx hb dX5_tents_109 (by decide) ?_
          refine lv_istore (lv' := [(6, .int 1), (5, .int z22), (0, .ref m_a), (1, .int v1), (2, .int v2), (3, .int v3), (4, .int v4)]) hx hb dX5_tents_113 hl (by decide) rfl (fun ls hl => ?_)
          refine lv_iload_n hx hb dX5_tents_115 rfl (lv_at hl 5 rfl) ?_
          refine lv_if_eq (tgt := 144) hx hb dX5_tents_116 (by decide) (fun c36 => ?_) (fun c36 => ?_)
          · replace hf := ite_t c36 hf
            refine lv_iconst (v := 0) hx hb dX5_tents_144 (by decide) ?_
            refine lv_istore_n (lv' := [(3, .int 0), (6, .int 1), (5, .int z22), (0, .ref m_a), (1, .int v1), (2, .int v2), (4, .int v4)]) hx hb dX5_tents_145 rfl hl (by decide) rfl (fun ls hl => ?_)
            obtain ⟨z37, ez37⟩ : ∃ y : Int32, y = (v4 + 1) := ⟨_, rfl⟩
            replace hf := nm_at ez37 hf
            refine lv_iinc (v := z37) (lv' := [(4, .int z37), (3, .int 0), (6, .int 1), (5, .int z22), (0, .ref m_a), (1, .int v1), (2, .int v2)]) hx hb dX5_tents_146 hl (k := 6) rfl (by rw [ez37]; rfl) (by decide) rfl (fun ls hl => ?_)
            refine lv_goto (tgt := 42) hx hb dX5_tents_149 (by decide) ?_
            exact ih 0 z37 H locs ls hf w (lv_sub hl [4, 5, 6, 1, 0] rfl)
          · replace hf := ite_f c36 hf
            refine lv_iload hx hb dX5_tents_119 (lv_at hl 0 rfl) ?_
            refine lv_aload_n hx hb dX5_tents_121 rfl (lv_at hl 2 rfl) ?_
            refine va_get (D := D) (ci := 5) (v := .ref q_heldIs) (C := RX5) (T := TX5) (N := 26) hx hb hg iX5 hown w.2.2.2.2.2.2.1 w.1 0 rfl rfl 18 (by decide) (hg _ w_507) (fun _ h9 => h9) rfl dX5_tents_122 ?_
            refine lv_iload hx hb dX5_tents_125 (lv_at hl 6 rfl) ?_
            replace hf := gd_at hf
            obtain ⟨hi38, hf⟩ := hf
            refine va_iald hx hb w.2.2.2.2.2.2.1 w.1 14 0 rfl rfl hi38 dX5_tents_127 ?_
            refine lv_iconst (v := 1) hx hb dX5_tents_128 (by decide) ?_
            refine lv_icmp_ne (tgt := 136) hx hb dX5_tents_129 (by decide) (fun c39 => ?_) (fun c39 => ?_)
            · replace hf := ite_f c39 hf
              refine lv_iconst (v := 0) hx hb dX5_tents_136 (by decide) ?_
              refine lv_icmp_ne (tgt := 144) hx hb dX5_tents_137 (by decide) (fun c40 => ?_) (fun c40 => ?_)
              rotate_left
              · exact absurd c40 (by decide)
              · skip
                refine lv_iconst (v := 0) hx hb dX5_tents_144 (by decide) ?_
                refine lv_istore_n (lv' := [(3, .int 0), (6, .int 1), (5, .int z22), (0, .ref m_a), (1, .int v1), (2, .int v2), (4, .int v4)]) hx hb dX5_tents_145 rfl hl (by decide) rfl (fun ls hl => ?_)
                obtain ⟨z41, ez41⟩ : ∃ y : Int32, y = (v4 + 1) := ⟨_, rfl⟩
                replace hf := nm_at ez41 hf
                refine lv_iinc (v := z41) (lv' := [(4, .int z41), (3, .int 0), (6, .int 1), (5, .int z22), (0, .ref m_a), (1, .int v1), (2, .int v2)]) hx hb dX5_tents_146 hl (k := 6) rfl (by rw [ez41]; rfl) (by decide) rfl (fun ls hl => ?_)
                refine lv_goto (tgt := 42) hx hb dX5_tents_149 (by decide) ?_
                exact ih 0 z41 H locs ls hf w (lv_sub hl [4, 5, 6, 1, 0] rfl)
            · replace hf := ite_t c39 hf
              refine lv_iconst (v := 1) hx hb dX5_tents_132 (by decide) ?_
              refine lv_goto (tgt := 137) hx hb dX5_tents_133 (by decide) ?_
              refine lv_icmp_ne (tgt := 144) hx hb dX5_tents_137 (by decide) (fun c42 => ?_) (fun c42 => ?_)
              · exact absurd c42 (by decide)
              · skip
                refine lv_iconst (v := 1) hx hb dX5_tents_140 (by decide) ?_
                refine lv_goto (tgt := 145) hx hb dX5_tents_141 (by decide) ?_
                refine lv_istore_n (lv' := [(3, .int 1), (6, .int 1), (5, .int z22), (0, .ref m_a), (1, .int v1), (2, .int v2), (4, .int v4)]) hx hb dX5_tents_145 rfl hl (by decide) rfl (fun ls hl => ?_)
                obtain ⟨z43, ez43⟩ : ∃ y : Int32, y = (v4 + 1) := ⟨_, rfl⟩
                replace hf := nm_at ez43 hf
                refine lv_iinc (v := z43) (lv' := [(4, .int z43), (3, .int 1), (6, .int 1), (5, .int z22), (0, .ref m_a), (1, .int v1), (2, .int v2)]) hx hb dX5_tents_146 hl (k := 6) rfl (by rw [ez43]; rfl) (by decide) rfl (fun ls hl => ?_)
                refine lv_goto (tgt := 42) hx hb dX5_tents_149 (by decide) ?_
                exact ih 1 z43 H locs ls hf w (lv_sub hl [4, 5, 6, 1, 0] rfl)
      · replace hf := ite_t c21 hf
        refine lv_iload_n hx hb dX5_tents_61 rfl (lv_at hl 2 rfl) ?_
        refine lv_iconst (v := 4) hx hb dX5_tents_62 (by decide) ?_
        refine lv_idiv hx hb dX5_tents_63 (by decide) ?_
        refine lv_goto (tgt := 70) hx hb dX5_tents_64 (by decide) ?_
        refine lv_topi (fun z44 ez44 => ?_)
        replace hf := nm_at ez44 hf
        refine lv_istore (lv' := [(5, .int z44), (0, .ref m_a), (1, .int v1), (2, .int v2), (3, .int v3), (4, .int v4)]) hx hb dX5_tents_70 hl (by decide) rfl (fun ls hl => ?_)
        refine lv_iconst (v := 0) hx hb dX5_tents_72 (by decide) ?_
        refine lv_iload hx hb dX5_tents_73 (lv_at hl 0 rfl) ?_
        replace hf := ob_at hf
        obtain ⟨r45, er45, hf⟩ := hf
        refine k_goI0 w [] rfl (va_runS (As := [.int 0, .int z44]) (rest := []) ⟨hx, hb, hml, hown, hg⟩ (tX5_weighs l D cI cZ b0 tt 0 z44 er45 H.size) (va_cwS 2 hg (gwS w_638 w_639 w_7 w_640) rfl rfl rfl qdX5_weighs ⟨Nat.le_of_ble_eq_true rfl, Nat.le_of_ble_eq_true rfl⟩) (k_preS w [] (by decide) rfl) rfl rfl hl.1 rfl (lv_room (Nat.le_of_ble_eq_true rfl)) dX5_tents_75 ⟨Nat.le_refl _, Nat.le_refl _⟩) (fun H locs w => ?_)
        refine lv_bipush (v := 8) hx hb dX5_tents_78 (by decide) ?_
        refine lv_aload_n hx hb dX5_tents_80 rfl (lv_at hl 1 rfl) ?_
        refine va_get (D := D) (ci := 5) (v := .ref q_heldLoad) (C := RX5) (T := TX5) (N := 26) hx hb hg iX5 hown w.2.2.2.2.2.2.1 w.1 0 rfl rfl 17 (by decide) (hg _ w_506) (fun _ h9 => h9) rfl dX5_tents_81 ?_
        refine lv_iload hx hb dX5_tents_84 (lv_at hl 5 rfl) ?_
        replace hf := gd_at hf
        obtain ⟨hi46, hf⟩ := hf
        refine va_iald hx hb w.2.2.2.2.2.2.1 w.1 13 0 rfl rfl hi46 dX5_tents_86 ?_
        refine lv_imul hx hb dX5_tents_87 ?_
        refine lv_iadd hx hb dX5_tents_88 ?_
        refine lv_iload hx hb dX5_tents_89 (lv_at hl 0 rfl) ?_
        replace hf := ob_at hf
        obtain ⟨r47, er47, hf⟩ := hf
        refine k_goI0 w [] rfl (va_runS (As := [.int z44]) (rest := [.int (r45 + ((8 : Int32) * (m_heldLoad (Int32.toNatClampNeg v4))))]) ⟨hx, hb, hml, hown, hg⟩ (tX5_grip l D cI cZ b0 tt z44 er47 H.size) (va_cwS 1 hg (gwS w_719 w_720 w_7 w_721) rfl rfl rfl qdX5_grip ⟨Nat.le_of_ble_eq_true rfl, Nat.le_of_ble_eq_true rfl⟩) (k_preS w [] (by decide) rfl) rfl rfl hl.1 rfl (lv_room (Nat.le_of_ble_eq_true rfl)) dX5_tents_91 ⟨Nat.le_refl _, Nat.le_refl _⟩) (fun H locs w => ?_)
        refine lv_iadd hx hb dX5_tents_94 ?_
        refine lv_bipush (v := 8) hx hb dX5_tents_95 (by decide) ?_
        refine lv_aload_n hx hb dX5_tents_97 rfl (lv_at hl 1 rfl) ?_
        refine va_get (D := D) (ci := 5) (v := .ref q_heldForce) (C := RX5) (T := TX5) (N := 26) hx hb hg iX5 hown w.2.2.2.2.2.2.1 w.1 0 rfl rfl 16 (by decide) (hg _ w_505) (fun _ h9 => h9) rfl dX5_tents_98 ?_
        refine lv_iload hx hb dX5_tents_101 (lv_at hl 5 rfl) ?_
        replace hf := gd_at hf
        obtain ⟨hi48, hf⟩ := hf
        refine va_iald hx hb w.2.2.2.2.2.2.1 w.1 12 0 rfl rfl hi48 dX5_tents_103 ?_
        refine lv_imul hx hb dX5_tents_104 ?_
        refine lv_icmp_lt (tgt := 112) hx hb dX5_tents_105 (by decide) (fun c49 => ?_) (fun c49 => ?_)
        · replace hf := ite_t c49 hf
          refine lv_iconst (v := 0) hx hb dX5_tents_112 (by decide) ?_
          refine lv_istore (lv' := [(6, .int 0), (5, .int z44), (0, .ref m_a), (1, .int v1), (2, .int v2), (3, .int v3), (4, .int v4)]) hx hb dX5_tents_113 hl (by decide) rfl (fun ls hl => ?_)
          refine lv_iload_n hx hb dX5_tents_115 rfl (lv_at hl 5 rfl) ?_
          refine lv_if_eq (tgt := 144) hx hb dX5_tents_116 (by decide) (fun c50 => ?_) (fun c50 => ?_)
          · replace hf := ite_t c50 hf
            refine lv_iconst (v := 0) hx hb dX5_tents_144 (by decide) ?_
            refine lv_istore_n (lv' := [(3, .int 0), (6, .int 0), (5, .int z44), (0, .ref m_a), (1, .int v1), (2, .int v2), (4, .int v4)]) hx hb dX5_tents_145 rfl hl (by decide) rfl (fun ls hl => ?_)
            obtain ⟨z51, ez51⟩ : ∃ y : Int32, y = (v4 + 1) := ⟨_, rfl⟩
            replace hf := nm_at ez51 hf
            refine lv_iinc (v := z51) (lv' := [(4, .int z51), (3, .int 0), (6, .int 0), (5, .int z44), (0, .ref m_a), (1, .int v1), (2, .int v2)]) hx hb dX5_tents_146 hl (k := 6) rfl (by rw [ez51]; rfl) (by decide) rfl (fun ls hl => ?_)
            refine lv_goto (tgt := 42) hx hb dX5_tents_149 (by decide) ?_
            exact ih 0 z51 H locs ls hf w (lv_sub hl [4, 5, 6, 1, 0] rfl)
          · replace hf := ite_f c50 hf
            refine lv_iload hx hb dX5_tents_119 (lv_at hl 0 rfl) ?_
            refine lv_aload_n hx hb dX5_tents_121 rfl (lv_at hl 2 rfl) ?_
            refine va_get (D := D) (ci := 5) (v := .ref q_heldIs) (C := RX5) (T := TX5) (N := 26) hx hb hg iX5 hown w.2.2.2.2.2.2.1 w.1 0 rfl rfl 18 (by decide) (hg _ w_507) (fun _ h9 => h9) rfl dX5_tents_122 ?_
            refine lv_iload hx hb dX5_tents_125 (lv_at hl 6 rfl) ?_
            replace hf := gd_at hf
            obtain ⟨hi52, hf⟩ := hf
            refine va_iald hx hb w.2.2.2.2.2.2.1 w.1 14 0 rfl rfl hi52 dX5_tents_127 ?_
            refine lv_iconst (v := 1) hx hb dX5_tents_128 (by decide) ?_
            refine lv_icmp_ne (tgt := 136) hx hb dX5_tents_129 (by decide) (fun c53 => ?_) (fun c53 => ?_)
            · replace hf := ite_f c53 hf
              refine lv_iconst (v := 0) hx hb dX5_tents_136 (by decide) ?_
              refine lv_icmp_ne (tgt := 144) hx hb dX5_tents_137 (by decide) (fun c54 => ?_) (fun c54 => ?_)
              · exact absurd c54 (by decide)
              · skip
                refine lv_iconst (v := 1) hx hb dX5_tents_140 (by decide) ?_
                refine lv_goto (tgt := 145) hx hb dX5_tents_141 (by decide) ?_
                refine lv_istore_n (lv' := [(3, .int 1), (6, .int 0), (5, .int z44), (0, .ref m_a), (1, .int v1), (2, .int v2), (4, .int v4)]) hx hb dX5_tents_145 rfl hl (by decide) rfl (fun ls hl => ?_)
                obtain ⟨z55, ez55⟩ : ∃ y : Int32, y = (v4 + 1) := ⟨_, rfl⟩
                replace hf := nm_at ez55 hf
                refine lv_iinc (v := z55) (lv' := [(4, .int z55), (3, .int 1), (6, .int 0), (5, .int z44), (0, .ref m_a), (1, .int v1), (2, .int v2)]) hx hb dX5_tents_146 hl (k := 6) rfl (by rw [ez55]; rfl) (by decide) rfl (fun ls hl => ?_)
                refine lv_goto (tgt := 42) hx hb dX5_tents_149 (by decide) ?_
                exact ih 1 z55 H locs ls hf w (lv_sub hl [4, 5, 6, 1, 0] rfl)
            · replace hf := ite_t c53 hf
              refine lv_iconst (v := 1) hx hb dX5_tents_132 (by decide) ?_
              refine lv_goto (tgt := 137) hx hb dX5_tents_133 (by decide) ?_
              refine lv_icmp_ne (tgt := 144) hx hb dX5_tents_137 (by decide) (fun c56 => ?_) (fun c56 => ?_)
              rotate_left
              · exact absurd c56 (by decide)
              · skip
                refine lv_iconst (v := 0) hx hb dX5_tents_144 (by decide) ?_
                refine lv_istore_n (lv' := [(3, .int 0), (6, .int 0), (5, .int z44), (0, .ref m_a), (1, .int v1), (2, .int v2), (4, .int v4)]) hx hb dX5_tents_145 rfl hl (by decide) rfl (fun ls hl => ?_)
                obtain ⟨z57, ez57⟩ : ∃ y : Int32, y = (v4 + 1) := ⟨_, rfl⟩
                replace hf := nm_at ez57 hf
                refine lv_iinc (v := z57) (lv' := [(4, .int z57), (3, .int 0), (6, .int 0), (5, .int z44), (0, .ref m_a), (1, .int v1), (2, .int v2)]) hx hb dX5_tents_146 hl (k := 6) rfl (by rw [ez57]; rfl) (by decide) rfl (fun ls hl => ?_)
                refine lv_goto (tgt := 42) hx hb dX5_tents_149 (by decide) ?_
                exact ih 0 z57 H locs ls hf w (lv_sub hl [4, 5, 6, 1, 0] rfl)
        · replace hf := ite_f c49 hf
          refine lv_iconst (v := 1) hx hb dX5_tents_108 (by decide) ?_
          refine lv_goto (tgt := 113) hx hb dX5_tents_109 (by decide) ?_
          refine lv_istore (lv' := [(6, .int 1), (5, .int z44), (0, .ref m_a), (1, .int v1), (2, .int v2), (3, .int v3), (4, .int v4)]) hx hb dX5_tents_113 hl (by decide) rfl (fun ls hl => ?_)
          refine lv_iload_n hx hb dX5_tents_115 rfl (lv_at hl 5 rfl) ?_
          refine lv_if_eq (tgt := 144) hx hb dX5_tents_116 (by decide) (fun c58 => ?_) (fun c58 => ?_)
          · replace hf := ite_t c58 hf
            refine lv_iconst (v := 0) hx hb dX5_tents_144 (by decide) ?_
            refine lv_istore_n (lv' := [(3, .int 0), (6, .int 1), (5, .int z44), (0, .ref m_a), (1, .int v1), (2, .int v2), (4, .int v4)]) hx hb dX5_tents_145 rfl hl (by decide) rfl (fun ls hl => ?_)
            obtain ⟨z59, ez59⟩ : ∃ y : Int32, y = (v4 + 1) := ⟨_, rfl⟩
            replace hf := nm_at ez59 hf
            refine lv_iinc (v := z59) (lv' := [(4, .int z59), (3, .int 0), (6, .int 1), (5, .int z44), (0, .ref m_a), (1, .int v1), (2, .int v2)]) hx hb dX5_tents_146 hl (k := 6) rfl (by rw [ez59]; rfl) (by decide) rfl (fun ls hl => ?_)
            refine lv_goto (tgt := 42) hx hb dX5_tents_149 (by decide) ?_
            exact ih 0 z59 H locs ls hf w (lv_sub hl [4, 5, 6, 1, 0] rfl)
          · replace hf := ite_f c58 hf
            refine lv_iload hx hb dX5_tents_119 (lv_at hl 0 rfl) ?_
            refine lv_aload_n hx hb dX5_tents_121 rfl (lv_at hl 2 rfl) ?_
            refine va_get (D := D) (ci := 5) (v := .ref q_heldIs) (C := RX5) (T := TX5) (N := 26) hx hb hg iX5 hown w.2.2.2.2.2.2.1 w.1 0 rfl rfl 18 (by decide) (hg _ w_507) (fun _ h9 => h9) rfl dX5_tents_122 ?_
            refine lv_iload hx hb dX5_tents_125 (lv_at hl 6 rfl) ?_
            replace hf := gd_at hf
            obtain ⟨hi60, hf⟩ := hf
            refine va_iald hx hb w.2.2.2.2.2.2.1 w.1 14 0 rfl rfl hi60 dX5_tents_127 ?_
            refine lv_iconst (v := 1) hx hb dX5_tents_128 (by decide) ?_
            refine lv_icmp_ne (tgt := 136) hx hb dX5_tents_129 (by decide) (fun c61 => ?_) (fun c61 => ?_)
            · replace hf := ite_f c61 hf
              refine lv_iconst (v := 0) hx hb dX5_tents_136 (by decide) ?_
              refine lv_icmp_ne (tgt := 144) hx hb dX5_tents_137 (by decide) (fun c62 => ?_) (fun c62 => ?_)
              rotate_left
              · exact absurd c62 (by decide)
              · skip
                refine lv_iconst (v := 0) hx hb dX5_tents_144 (by decide) ?_
                refine lv_istore_n (lv' := [(3, .int 0), (6, .int 1), (5, .int z44), (0, .ref m_a), (1, .int v1), (2, .int v2), (4, .int v4)]) hx hb dX5_tents_145 rfl hl (by decide) rfl (fun ls hl => ?_)
                obtain ⟨z63, ez63⟩ : ∃ y : Int32, y = (v4 + 1) := ⟨_, rfl⟩
                replace hf := nm_at ez63 hf
                refine lv_iinc (v := z63) (lv' := [(4, .int z63), (3, .int 0), (6, .int 1), (5, .int z44), (0, .ref m_a), (1, .int v1), (2, .int v2)]) hx hb dX5_tents_146 hl (k := 6) rfl (by rw [ez63]; rfl) (by decide) rfl (fun ls hl => ?_)
                refine lv_goto (tgt := 42) hx hb dX5_tents_149 (by decide) ?_
                exact ih 0 z63 H locs ls hf w (lv_sub hl [4, 5, 6, 1, 0] rfl)
            · replace hf := ite_t c61 hf
              refine lv_iconst (v := 1) hx hb dX5_tents_132 (by decide) ?_
              refine lv_goto (tgt := 137) hx hb dX5_tents_133 (by decide) ?_
              refine lv_icmp_ne (tgt := 144) hx hb dX5_tents_137 (by decide) (fun c64 => ?_) (fun c64 => ?_)
              · exact absurd c64 (by decide)
              · skip
                refine lv_iconst (v := 1) hx hb dX5_tents_140 (by decide) ?_
                refine lv_goto (tgt := 145) hx hb dX5_tents_141 (by decide) ?_
                refine lv_istore_n (lv' := [(3, .int 1), (6, .int 1), (5, .int z44), (0, .ref m_a), (1, .int v1), (2, .int v2), (4, .int v4)]) hx hb dX5_tents_145 rfl hl (by decide) rfl (fun ls hl => ?_)
                obtain ⟨z65, ez65⟩ : ∃ y : Int32, y = (v4 + 1) := ⟨_, rfl⟩
                replace hf := nm_at ez65 hf
                refine lv_iinc (v := z65) (lv' := [(4, .int z65), (3, .int 1), (6, .int 1), (5, .int z44), (0, .ref m_a), (1, .int v1), (2, .int v2)]) hx hb dX5_tents_146 hl (k := 6) rfl (by rw [ez65]; rfl) (by decide) rfl (fun ls hl => ?_)
                refine lv_goto (tgt := 42) hx hb dX5_tents_149 (by decide) ?_
                exact ih 1 z65 H locs ls hf w (lv_sub hl [4, 5, 6, 1, 0] rfl)
def fX5_tents_L31   (v1 : Int32) (m_thrown : Int32) (m_held : Int32) (m_heldWho : Nat → Int32) (m_heldForce : Nat → Int32) (m_heldLoad : Nat → Int32) (m_heldIs : Nat → Int32) : Nat → Int32 → Int32 → Int32 → Option (Int32 × Int32 × Int32 × Int32)
  | 0, _, _, _ => none
  | n + 1, v2, m_tentMany, m_tentFirst => (if 16 ≤ v2 then (if v1 = 0 then some (m_tentMany, (m_thrown, m_tentMany, m_tentFirst)) else some (m_tentFirst, (m_thrown, m_tentMany, m_tentFirst))) else fX5_tents_L42 (fun yv2 ym_tentMany ym_tentFirst => fX5_tents_L31 v1 m_thrown m_held m_heldWho m_heldForce m_heldLoad m_heldIs n yv2 ym_tentMany ym_tentFirst) v1 v2 m_thrown m_held m_tentMany m_tentFirst m_heldWho m_heldForce m_heldLoad m_heldIs FU 1 0)
set_option maxRecDepth 100000 in
set_option maxHeartbeats 4000000 in
theorem tX5_tents_L31 {p : Program} {l : Launch} {e : Env} {s : State} {m : MethodId} {args : Array Value} {below : List Frame} {meth : Method} {c : Code} {D : va_G} {cI cZ : ClassId} {b0 : Nat} {tt : Nat → Nat} {A : Nat → Prop}  {m_a q_text q_cards q_readCards q_readPage q_page q_trial q_loads q_book q_kept q_isKept q_heldWho q_heldForce q_heldLoad q_heldIs q_gains q_value : Nat}  {v1 : Int32} {m_thrown : Int32} {m_held : Int32} {m_heldWho : Nat → Int32} {m_heldForce : Nat → Int32} {m_heldLoad : Nat → Int32} {m_heldIs : Nat → Int32} {m_textSize : Int32} {m_place : Int32} {m_acts : Int32} {m_seed : Int64} {m_restMany : Int32} {m_restFirst : Int32} {m_text : Nat → Int32} {m_cards : Nat → Int32} {m_readCards : Nat → Int32} {m_readPage : Nat → Int32} {m_page : Nat → Int32} {m_trial : Nat → Int32} {m_loads : Nat → Int32} {m_book : Nat → Int32} {m_kept : Nat → Int32} {m_isKept : Nat → Int32} {m_gains : Nat → Int32} {m_value : Nat → Int32} {res : Int32 × Int32 × Int32 × Int32} (C : Cx p s m args meth c cX5_tents 7 (some .int) (cwX5_tents :: GW) RX5) : ∀ (n : Nat) (v2 : Int32) (m_tentMany : Int32) (m_tentFirst : Int32) (H : Heap) (locs : List Loc) (ls : Array Slot), fX5_tents_L31 v1 m_thrown m_held m_heldWho m_heldForce m_heldLoad m_heldIs n v2 m_tentMany m_tentFirst = some res → Wd D cI cZ b0 tt A s [(m_a, .inr (5, [.int m_thrown, .ref q_text, .int m_textSize, .int m_place, .ref q_cards, .ref q_readCards, .ref q_readPage, .ref q_page, .ref q_trial, .ref q_loads, .ref q_book, .int m_acts, .ref q_kept, .ref q_isKept, .int m_held, .ref q_heldWho, .ref q_heldForce, .ref q_heldLoad, .ref q_heldIs, .long m_seed, .int m_tentMany, .int m_tentFirst, .int m_restMany, .int m_restFirst, .ref q_gains, .ref q_value])), (q_text, .inl (cI, 56, .inl m_text)), (q_cards, .inl (cI, 4, .inl m_cards)), (q_readCards, .inl (cI, 4, .inl m_readCards)), (q_readPage, .inl (cI, 17, .inl m_readPage)), (q_page, .inl (cI, 17, .inl m_page)), (q_trial, .inl (cI, 17, .inl m_trial)), (q_loads, .inl (cI, 16, .inl m_loads)), (q_book, .inl (cI, 238, .inl m_book)), (q_kept, .inl (cI, 34, .inl m_kept)), (q_isKept, .inl (cZ, 2, .inl m_isKept)), (q_heldWho, .inl (cI, 6, .inl m_heldWho)), (q_heldForce, .inl (cI, 6, .inl m_heldForce)), (q_heldLoad, .inl (cI, 6, .inl m_heldLoad)), (q_heldIs, .inl (cI, 6, .inl m_heldIs)), (q_gains, .inl (cI, 50, .inl m_gains)), (q_value, .inl (cI, 16, .inl m_value))] H locs → lv_has ls 7 [(0, .ref m_a), (1, .int v1), (2, .int v2)] → W p l e (rmo 3 61) s m args below meth c H locs 0 0 (MQ below (QI D (fun u : Int32 × Int32 × Int32 => [(m_a, .inr (5, [.int u.1, .ref q_text, .int m_textSize, .int m_place, .ref q_cards, .ref q_readCards, .ref q_readPage, .ref q_page, .ref q_trial, .ref q_loads, .ref q_book, .int m_acts, .ref q_kept, .ref q_isKept, .int m_held, .ref q_heldWho, .ref q_heldForce, .ref q_heldLoad, .ref q_heldIs, .long m_seed, .int u.2.1, .int u.2.2, .int m_restMany, .int m_restFirst, .ref q_gains, .ref q_value])), (q_text, .inl (cI, 56, .inl m_text)), (q_cards, .inl (cI, 4, .inl m_cards)), (q_readCards, .inl (cI, 4, .inl m_readCards)), (q_readPage, .inl (cI, 17, .inl m_readPage)), (q_page, .inl (cI, 17, .inl m_page)), (q_trial, .inl (cI, 17, .inl m_trial)), (q_loads, .inl (cI, 16, .inl m_loads)), (q_book, .inl (cI, 238, .inl m_book)), (q_kept, .inl (cI, 34, .inl m_kept)), (q_isKept, .inl (cZ, 2, .inl m_isKept)), (q_heldWho, .inl (cI, 6, .inl m_heldWho)), (q_heldForce, .inl (cI, 6, .inl m_heldForce)), (q_heldLoad, .inl (cI, 6, .inl m_heldLoad)), (q_heldIs, .inl (cI, 6, .inl m_heldIs)), (q_gains, .inl (cI, 50, .inl m_gains)), (q_value, .inl (cI, 16, .inl m_value))]) A res) args s 0 0 A) (F0 m 31 ls []) := by
  obtain ⟨hx, hb, hr, hml, hown, hts, hlk⟩ := id C
  have hg : ∀ w ∈ GW, w.before args s = true := fun w h => hts w (List.mem_cons_of_mem _ h)
  intro n
  induction n with
  | zero =>
    intro _ _ _ H locs ls hf
    rw [fX5_tents_L31] at hf
    cases hf
  | succ n ih =>
    intro v2 m_tentMany m_tentFirst H locs ls hf w hl
    rw [fX5_tents_L31] at hf
    refine lv_iload_n hx hb dX5_tents_31 rfl (lv_at hl 2 rfl) ?_
    refine lv_bipush (v := 16) hx hb dX5_tents_32 (by decide) ?_
    refine lv_icmp_ge (tgt := 208) hx hb dX5_tents_34 (by decide) (fun c66 => ?_) (fun c66 => ?_)
    · replace hf := ite_t c66 hf
      refine lv_iload_n hx hb dX5_tents_208 rfl (lv_at hl 1 rfl) ?_
      refine lv_if_ne (tgt := 219) hx hb dX5_tents_209 (by decide) (fun c67 => ?_) (fun c67 => ?_)
      · replace hf := ite_f c67 hf
        refine lv_aload_n hx hb dX5_tents_219 rfl (lv_at hl 0 rfl) ?_
        refine va_get (D := D) (ci := 5) (v := .int m_tentFirst) (C := RX5) (T := TX5) (N := 26) hx hb hg iX5 hown w.2.2.2.2.2.2.1 w.1 0 rfl rfl 21 (by decide) (hg _ w_510) (fun _ h9 => h9) rfl dX5_tents_220 ?_
        exact k_iret (u := (m_thrown, m_tentMany, m_tentFirst)) hx hb hr hlk w rfl hf dX5_tents_223
      · replace hf := ite_t c67 hf
        refine lv_aload_n hx hb dX5_tents_212 rfl (lv_at hl 0 rfl) ?_
        refine va_get (D := D) (ci := 5) (v := .int m_tentMany) (C := RX5) (T := TX5) (N := 26) hx hb hg iX5 hown w.2.2.2.2.2.2.1 w.1 0 rfl rfl 20 (by decide) (hg _ w_509) (fun _ h9 => h9) rfl dX5_tents_213 ?_
        refine lv_goto (tgt := 223) hx hb dX5_tents_216 (by decide) ?_
        exact k_iret (u := (m_thrown, m_tentMany, m_tentFirst)) hx hb hr hlk w rfl hf dX5_tents_223
    · replace hf := ite_f c66 hf
      refine lv_iconst (v := 1) hx hb dX5_tents_37 (by decide) ?_
      refine lv_istore_n (lv' := [(3, .int 1), (0, .ref m_a), (1, .int v1), (2, .int v2)]) hx hb dX5_tents_38 rfl hl (by decide) rfl (fun ls hl => ?_)
      refine lv_iconst (v := 0) hx hb dX5_tents_39 (by decide) ?_
      refine lv_istore (lv' := [(4, .int 0), (3, .int 1), (0, .ref m_a), (1, .int v1), (2, .int v2)]) hx hb dX5_tents_40 hl (by decide) rfl (fun ls hl => ?_)
      exact tX5_tents_L42 (v1 := v1) (v2 := v2) (m_thrown := m_thrown) (m_held := m_held) (m_tentMany := m_tentMany) (m_tentFirst := m_tentFirst) (m_heldWho := m_heldWho) (m_heldForce := m_heldForce) (m_heldLoad := m_heldLoad) (m_heldIs := m_heldIs) (m_textSize := m_textSize) (m_place := m_place) (m_acts := m_acts) (m_seed := m_seed) (m_restMany := m_restMany) (m_restFirst := m_restFirst) (m_text := m_text) (m_cards := m_cards) (m_readCards := m_readCards) (m_readPage := m_readPage) (m_page := m_page) (m_trial := m_trial) (m_loads := m_loads) (m_book := m_book) (m_kept := m_kept) (m_isKept := m_isKept) (m_gains := m_gains) (m_value := m_value) (C := C) (hK31 := ih) FU 1 0 H locs ls hf w (lv_sub hl [2, 3, 4, 1, 0] rfl)
def fX5_tents  (m_thrown : Int32) (m_held : Int32) (m_tentMany : Int32) (m_tentFirst : Int32) (m_heldWho : Nat → Int32) (m_heldForce : Nat → Int32) (m_heldLoad : Nat → Int32) (m_heldIs : Nat → Int32) (a1 : Int32) : Option (Int32 × Int32 × Int32 × Int32) := ob (fX5_in (Int32.toInt64 a1) 0 1) (fun r68 => (if r68 = 0 then some ((-2), (0, m_tentMany, m_tentFirst)) else fX5_tents_L31 a1 0 m_held m_heldWho m_heldForce m_heldLoad m_heldIs FU 0 0 (-9)))
set_option maxRecDepth 100000 in
set_option maxHeartbeats 4000000 in
theorem tX5_tents (l : Launch) (D : va_G) (cI cZ : ClassId) (b0 : Nat) (tt : Nat → Nat)  (m_a q_text q_cards q_readCards q_readPage q_page q_trial q_loads q_book q_kept q_isKept q_heldWho q_heldForce q_heldLoad q_heldIs q_gains q_value : Nat) (m_thrown : Int32) (m_textSize : Int32) (m_place : Int32) (m_acts : Int32) (m_held : Int32) (m_seed : Int64) (m_tentMany : Int32) (m_tentFirst : Int32) (m_restMany : Int32) (m_restFirst : Int32) (m_text : Nat → Int32) (m_cards : Nat → Int32) (m_readCards : Nat → Int32) (m_readPage : Nat → Int32) (m_page : Nat → Int32) (m_trial : Nat → Int32) (m_loads : Nat → Int32) (m_book : Nat → Int32) (m_kept : Nat → Int32) (m_isKept : Nat → Int32) (m_heldWho : Nat → Int32) (m_heldForce : Nat → Int32) (m_heldLoad : Nat → Int32) (m_heldIs : Nat → Int32) (m_gains : Nat → Int32) (m_value : Nat → Int32) (a1 : Int32) {res : Int32 × Int32 × Int32 × Int32} (hf : fX5_tents m_thrown m_held m_tentMany m_tentFirst m_heldWho m_heldForce m_heldLoad m_heldIs a1 = some res) : CtI l yX5_tents (cwX5_tents :: GW) 3 61 D cI cZ b0 tt [.ref m_a, .int a1] (fun u : Int32 × Int32 × Int32 => [(m_a, .inr (5, [.int u.1, .ref q_text, .int m_textSize, .int m_place, .ref q_cards, .ref q_readCards, .ref q_readPage, .ref q_page, .ref q_trial, .ref q_loads, .ref q_book, .int m_acts, .ref q_kept, .ref q_isKept, .int m_held, .ref q_heldWho, .ref q_heldForce, .ref q_heldLoad, .ref q_heldIs, .long m_seed, .int u.2.1, .int u.2.2, .int m_restMany, .int m_restFirst, .ref q_gains, .ref q_value])), (q_text, .inl (cI, 56, .inl m_text)), (q_cards, .inl (cI, 4, .inl m_cards)), (q_readCards, .inl (cI, 4, .inl m_readCards)), (q_readPage, .inl (cI, 17, .inl m_readPage)), (q_page, .inl (cI, 17, .inl m_page)), (q_trial, .inl (cI, 17, .inl m_trial)), (q_loads, .inl (cI, 16, .inl m_loads)), (q_book, .inl (cI, 238, .inl m_book)), (q_kept, .inl (cI, 34, .inl m_kept)), (q_isKept, .inl (cZ, 2, .inl m_isKept)), (q_heldWho, .inl (cI, 6, .inl m_heldWho)), (q_heldForce, .inl (cI, 6, .inl m_heldForce)), (q_heldLoad, .inl (cI, 6, .inl m_heldLoad)), (q_heldIs, .inl (cI, 6, .inl m_heldIs)), (q_gains, .inl (cI, 50, .inl m_gains)), (q_value, .inl (cI, 16, .inl m_value))]) (m_thrown, m_tentMany, m_tentFirst) res := by
  intro sz
  refine k_begin (cc := cX5_tents) (maxL := 7) (ret := (some .int)) (by decide) rfl (Nat.le_of_ble_eq_true rfl) ?_
  intro p e s m below meth c ls C w hl
  generalize va_A _ sz = A at w ⊢
  have w : Wd D cI cZ b0 tt A s [(m_a, .inr (5, [.int m_thrown, .ref q_text, .int m_textSize, .int m_place, .ref q_cards, .ref q_readCards, .ref q_readPage, .ref q_page, .ref q_trial, .ref q_loads, .ref q_book, .int m_acts, .ref q_kept, .ref q_isKept, .int m_held, .ref q_heldWho, .ref q_heldForce, .ref q_heldLoad, .ref q_heldIs, .long m_seed, .int m_tentMany, .int m_tentFirst, .int m_restMany, .int m_restFirst, .ref q_gains, .ref q_value])), (q_text, .inl (cI, 56, .inl m_text)), (q_cards, .inl (cI, 4, .inl m_cards)), (q_readCards, .inl (cI, 4, .inl m_readCards)), (q_readPage, .inl (cI, 17, .inl m_readPage)), (q_page, .inl (cI, 17, .inl m_page)), (q_trial, .inl (cI, 17, .inl m_trial)), (q_loads, .inl (cI, 16, .inl m_loads)), (q_book, .inl (cI, 238, .inl m_book)), (q_kept, .inl (cI, 34, .inl m_kept)), (q_isKept, .inl (cZ, 2, .inl m_isKept)), (q_heldWho, .inl (cI, 6, .inl m_heldWho)), (q_heldForce, .inl (cI, 6, .inl m_heldForce)), (q_heldLoad, .inl (cI, 6, .inl m_heldLoad)), (q_heldIs, .inl (cI, 6, .inl m_heldIs)), (q_gains, .inl (cI, 50, .inl m_gains)), (q_value, .inl (cI, 16, .inl m_value))] s.heap [] := w
  have hl : lv_has ls 7 [(0, .ref m_a), (1, .int a1)] := hl
  obtain ⟨H, eH⟩ : ∃ H, H = s.heap := ⟨_, rfl⟩
  rw [← eH] at w ⊢
  generalize ([] : List Loc) = locs at w ⊢
  generalize List.toArray _ = args at C ⊢
  obtain ⟨hx, hb, hr, hml, hown, hts, hlk⟩ := id C
  have hg : ∀ w ∈ GW, w.before args s = true := fun w h => hts w (List.mem_cons_of_mem _ h)
  unfold fX5_tents at hf
  refine lv_aload_n hx hb dX5_tents_0 rfl (lv_at hl 0 rfl) ?_
  refine lv_iconst (v := 0) hx hb dX5_tents_1 (by decide) ?_
  refine k_put (ci := 5) (v := .int 0) (ty := .int) (C := RX5) (T := TX5) (N := 26) hx hb hg iX5 tyX5 tyX5_ok nmX5 hown w 0 rfl rfl 0 (by decide) (hg _ w_489) (fun _ h9 => h9) rfl pd_I rfl rfl (Nat.le_of_ble_eq_true rfl) dX5_tents_2 (fun H locs w => ?_)
  have w : Wd D cI cZ b0 tt A s [(m_a, .inr (5, [.int 0, .ref q_text, .int m_textSize, .int m_place, .ref q_cards, .ref q_readCards, .ref q_readPage, .ref q_page, .ref q_trial, .ref q_loads, .ref q_book, .int m_acts, .ref q_kept, .ref q_isKept, .int m_held, .ref q_heldWho, .ref q_heldForce, .ref q_heldLoad, .ref q_heldIs, .long m_seed, .int m_tentMany, .int m_tentFirst, .int m_restMany, .int m_restFirst, .ref q_gains, .ref q_value])), (q_text, .inl (cI, 56, .inl m_text)), (q_cards, .inl (cI, 4, .inl m_cards)), (q_readCards, .inl (cI, 4, .inl m_readCards)), (q_readPage, .inl (cI, 17, .inl m_readPage)), (q_page, .inl (cI, 17, .inl m_page)), (q_trial, .inl (cI, 17, .inl m_trial)), (q_loads, .inl (cI, 16, .inl m_loads)), (q_book, .inl (cI, 238, .inl m_book)), (q_kept, .inl (cI, 34, .inl m_kept)), (q_isKept, .inl (cZ, 2, .inl m_isKept)), (q_heldWho, .inl (cI, 6, .inl m_heldWho)), (q_heldForce, .inl (cI, 6, .inl m_heldForce)), (q_heldLoad, .inl (cI, 6, .inl m_heldLoad)), (q_heldIs, .inl (cI, 6, .inl m_heldIs)), (q_gains, .inl (cI, 50, .inl m_gains)), (q_value, .inl (cI, 16, .inl m_value))] H locs := w
  refine lv_iload_n hx hb dX5_tents_5 rfl (lv_at hl 1 rfl) ?_
  refine lv_i2l (v := (Int32.toInt64 a1)) hx hb dX5_tents_6 rfl ?_
  refine lv_lconst (v := 0) hx hb dX5_tents_7 (by decide) ?_
  refine lv_lconst (v := 1) hx hb dX5_tents_8 (by decide) ?_
  replace hf := ob_at hf
  obtain ⟨r68, er68, hf⟩ := hf
  refine k_goI0 w [] rfl (va_runS (As := [.long (Int32.toInt64 a1), .long 0, .long 1]) (rest := []) ⟨hx, hb, hml, hown, hg⟩ (tX5_in l D cI cZ b0 tt (Int32.toInt64 a1) 0 1 er68 H.size) (va_cwS 3 hg (gwS w_574 w_575 w_7 w_576) rfl rfl rfl qdX5_in ⟨Nat.le_of_ble_eq_true rfl, Nat.le_of_ble_eq_true rfl⟩) (k_preS w [] (by decide) rfl) rfl rfl hl.1 rfl (lv_room (Nat.le_of_ble_eq_true rfl)) dX5_tents_9 ⟨Nat.le_refl _, Nat.le_refl _⟩) (fun H locs w => ?_)
  refine lv_if_ne (tgt := 18) hx hb dX5_tents_12 (by decide) (fun c69 => ?_) (fun c69 => ?_)
  · replace hf := ite_f c69 hf
    refine lv_aload_n hx hb dX5_tents_18 rfl (lv_at hl 0 rfl) ?_
    refine lv_iconst (v := 0) hx hb dX5_tents_19 (by decide) ?_
    refine k_put (ci := 5) (v := .int 0) (ty := .int) (C := RX5) (T := TX5) (N := 26) hx hb hg iX5 tyX5 tyX5_ok nmX5 hown w 0 rfl rfl 20 (by decide) (hg _ w_509) (fun _ h9 => h9) rfl pd_I rfl rfl (Nat.le_of_ble_eq_true rfl) dX5_tents_20 (fun H locs w => ?_)
    have w : Wd D cI cZ b0 tt A s [(m_a, .inr (5, [.int 0, .ref q_text, .int m_textSize, .int m_place, .ref q_cards, .ref q_readCards, .ref q_readPage, .ref q_page, .ref q_trial, .ref q_loads, .ref q_book, .int m_acts, .ref q_kept, .ref q_isKept, .int m_held, .ref q_heldWho, .ref q_heldForce, .ref q_heldLoad, .ref q_heldIs, .long m_seed, .int 0, .int m_tentFirst, .int m_restMany, .int m_restFirst, .ref q_gains, .ref q_value])), (q_text, .inl (cI, 56, .inl m_text)), (q_cards, .inl (cI, 4, .inl m_cards)), (q_readCards, .inl (cI, 4, .inl m_readCards)), (q_readPage, .inl (cI, 17, .inl m_readPage)), (q_page, .inl (cI, 17, .inl m_page)), (q_trial, .inl (cI, 17, .inl m_trial)), (q_loads, .inl (cI, 16, .inl m_loads)), (q_book, .inl (cI, 238, .inl m_book)), (q_kept, .inl (cI, 34, .inl m_kept)), (q_isKept, .inl (cZ, 2, .inl m_isKept)), (q_heldWho, .inl (cI, 6, .inl m_heldWho)), (q_heldForce, .inl (cI, 6, .inl m_heldForce)), (q_heldLoad, .inl (cI, 6, .inl m_heldLoad)), (q_heldIs, .inl (cI, 6, .inl m_heldIs)), (q_gains, .inl (cI, 50, .inl m_gains)), (q_value, .inl (cI, 16, .inl m_value))] H locs := w
    refine lv_aload_n hx hb dX5_tents_23 rfl (lv_at hl 0 rfl) ?_
    refine lv_bipush (v := (-9)) hx hb dX5_tents_24 (by decide) ?_
    refine k_put (ci := 5) (v := .int (-9)) (ty := .int) (C := RX5) (T := TX5) (N := 26) hx hb hg iX5 tyX5 tyX5_ok nmX5 hown w 0 rfl rfl 21 (by decide) (hg _ w_510) (fun _ h9 => h9) rfl pd_I rfl rfl (Nat.le_of_ble_eq_true rfl) dX5_tents_26 (fun H locs w => ?_)
    have w : Wd D cI cZ b0 tt A s [(m_a, .inr (5, [.int 0, .ref q_text, .int m_textSize, .int m_place, .ref q_cards, .ref q_readCards, .ref q_readPage, .ref q_page, .ref q_trial, .ref q_loads, .ref q_book, .int m_acts, .ref q_kept, .ref q_isKept, .int m_held, .ref q_heldWho, .ref q_heldForce, .ref q_heldLoad, .ref q_heldIs, .long m_seed, .int 0, .int (-9), .int m_restMany, .int m_restFirst, .ref q_gains, .ref q_value])), (q_text, .inl (cI, 56, .inl m_text)), (q_cards, .inl (cI, 4, .inl m_cards)), (q_readCards, .inl (cI, 4, .inl m_readCards)), (q_readPage, .inl (cI, 17, .inl m_readPage)), (q_page, .inl (cI, 17, .inl m_page)), (q_trial, .inl (cI, 17, .inl m_trial)), (q_loads, .inl (cI, 16, .inl m_loads)), (q_book, .inl (cI, 238, .inl m_book)), (q_kept, .inl (cI, 34, .inl m_kept)), (q_isKept, .inl (cZ, 2, .inl m_isKept)), (q_heldWho, .inl (cI, 6, .inl m_heldWho)), (q_heldForce, .inl (cI, 6, .inl m_heldForce)), (q_heldLoad, .inl (cI, 6, .inl m_heldLoad)), (q_heldIs, .inl (cI, 6, .inl m_heldIs)), (q_gains, .inl (cI, 50, .inl m_gains)), (q_value, .inl (cI, 16, .inl m_value))] H locs := w
    refine lv_iconst (v := 0) hx hb dX5_tents_29 (by decide) ?_
    refine lv_istore_n (lv' := [(2, .int 0), (0, .ref m_a), (1, .int a1)]) hx hb dX5_tents_30 rfl hl (by decide) rfl (fun ls hl => ?_)
    exact tX5_tents_L31 (v1 := a1) (m_thrown := 0) (m_held := m_held) (m_heldWho := m_heldWho) (m_heldForce := m_heldForce) (m_heldLoad := m_heldLoad) (m_heldIs := m_heldIs) (m_textSize := m_textSize) (m_place := m_place) (m_acts := m_acts) (m_seed := m_seed) (m_restMany := m_restMany) (m_restFirst := m_restFirst) (m_text := m_text) (m_cards := m_cards) (m_readCards := m_readCards) (m_readPage := m_readPage) (m_page := m_page) (m_trial := m_trial) (m_loads := m_loads) (m_book := m_book) (m_kept := m_kept) (m_isKept := m_isKept) (m_gains := m_gains) (m_value := m_value) (C := C) FU 0 0 (-9) H locs ls hf w (lv_sub hl [1, 2, 0] rfl)
  · replace hf := ite_t c69 hf
    refine lv_bipush (v := (-2)) hx hb dX5_tents_15 (by decide) ?_
    exact k_iret (u := (0, m_tentMany, m_tentFirst)) hx hb hr hlk w rfl hf dX5_tents_17
