-- X5_shaken
def fX5_shaken_L57   (v1 : Int32) (v2 : Int32) (v3 : Int32) (v4 : Int32) (v5 : Int32) (m_thrown : Int32) (m_page : Nat → Int32) : Nat → Int32 → Int32 → Option (Int32 × Int32)
  | 0, _, _ => none
  | n + 1, v6, v7 => (if 16 ≤ v7 then ob (fX5_power 10 v5) (fun r2 => ob (fX5_fraction v6 r2 v3) (fun r3 => some (r3, m_thrown))) else (if (v7 &&& (v4 ^^^ ((-1) : Int32))) = 0 then ob (fX5_there m_page) (fun r6 => ob (fX5_spreadOf m_page v7) (fun r7 => ob (fX5_many (r6 &&& (r7 ^^^ ((-1) : Int32)))) (fun r8 => ob (fX5_many v7) (fun r9 => (if r8 < v1 then nm (v6 + (0 : Int32)) (fun z11 => nm (v7 + 1) (fun z12 => fX5_shaken_L57 v1 v2 v3 v4 v5 m_thrown m_page n z11 z12)) else ob (fX5_power v2 r9) (fun r13 => ob (fX5_power ((10 : Int32) - v2) (v5 - r9)) (fun r14 => nm (v6 + (r13 * r14)) (fun z15 => nm (v7 + 1) (fun z16 => fX5_shaken_L57 v1 v2 v3 v4 v5 m_thrown m_page n z15 z16))))))))) else nm (v7 + 1) (fun z5 => fX5_shaken_L57 v1 v2 v3 v4 v5 m_thrown m_page n v6 z5)))
set_option maxRecDepth 100000 in
set_option maxHeartbeats 4000000 in
theorem tX5_shaken_L57 {p : Program} {l : Launch} {e : Env} {s : State} {m : MethodId} {args : Array Value} {below : List Frame} {meth : Method} {c : Code} {D : va_G} {cI cZ : ClassId} {b0 : Nat} {tt : Nat → Nat} {A : Nat → Prop}  {m_a q_text q_cards q_readCards q_readPage q_page q_trial q_loads q_book q_kept q_isKept q_heldWho q_heldForce q_heldLoad q_heldIs q_gains q_value : Nat}  {v1 : Int32} {v2 : Int32} {v3 : Int32} {v4 : Int32} {v5 : Int32} {m_thrown : Int32} {m_page : Nat → Int32} {m_textSize : Int32} {m_place : Int32} {m_acts : Int32} {m_held : Int32} {m_seed : Int64} {m_tentMany : Int32} {m_tentFirst : Int32} {m_restMany : Int32} {m_restFirst : Int32} {m_text : Nat → Int32} {m_cards : Nat → Int32} {m_readCards : Nat → Int32} {m_readPage : Nat → Int32} {m_trial : Nat → Int32} {m_loads : Nat → Int32} {m_book : Nat → Int32} {m_kept : Nat → Int32} {m_isKept : Nat → Int32} {m_heldWho : Nat → Int32} {m_heldForce : Nat → Int32} {m_heldLoad : Nat → Int32} {m_heldIs : Nat → Int32} {m_gains : Nat → Int32} {m_value : Nat → Int32} {res : Int32 × Int32} (C : Cx p s m args meth c cX5_shaken 10 (some .int) (cwX5_shaken :: GW) RX5) : ∀ (n : Nat) (v6 : Int32) (v7 : Int32) (H : Heap) (locs : List Loc) (ls : Array Slot), fX5_shaken_L57 v1 v2 v3 v4 v5 m_thrown m_page n v6 v7 = some res → Wd D cI cZ b0 tt A s [(m_a, .inr (5, [.int m_thrown, .ref q_text, .int m_textSize, .int m_place, .ref q_cards, .ref q_readCards, .ref q_readPage, .ref q_page, .ref q_trial, .ref q_loads, .ref q_book, .int m_acts, .ref q_kept, .ref q_isKept, .int m_held, .ref q_heldWho, .ref q_heldForce, .ref q_heldLoad, .ref q_heldIs, .long m_seed, .int m_tentMany, .int m_tentFirst, .int m_restMany, .int m_restFirst, .ref q_gains, .ref q_value])), (q_text, .inl (cI, 56, .inl m_text)), (q_cards, .inl (cI, 4, .inl m_cards)), (q_readCards, .inl (cI, 4, .inl m_readCards)), (q_readPage, .inl (cI, 17, .inl m_readPage)), (q_page, .inl (cI, 17, .inl m_page)), (q_trial, .inl (cI, 17, .inl m_trial)), (q_loads, .inl (cI, 16, .inl m_loads)), (q_book, .inl (cI, 238, .inl m_book)), (q_kept, .inl (cI, 34, .inl m_kept)), (q_isKept, .inl (cZ, 2, .inl m_isKept)), (q_heldWho, .inl (cI, 6, .inl m_heldWho)), (q_heldForce, .inl (cI, 6, .inl m_heldForce)), (q_heldLoad, .inl (cI, 6, .inl m_heldLoad)), (q_heldIs, .inl (cI, 6, .inl m_heldIs)), (q_gains, .inl (cI, 50, .inl m_gains)), (q_value, .inl (cI, 16, .inl m_value))] H locs → lv_has ls 10 [(0, .ref m_a), (1, .int v1), (2, .int v2), (3, .int v3), (4, .int v4), (5, .int v5), (6, .int v6), (7, .int v7)] → W p l e (rmo 2 47) s m args below meth c H locs 0 0 (MQ below (QI D (fun u : Int32 => [(m_a, .inr (5, [.int u, .ref q_text, .int m_textSize, .int m_place, .ref q_cards, .ref q_readCards, .ref q_readPage, .ref q_page, .ref q_trial, .ref q_loads, .ref q_book, .int m_acts, .ref q_kept, .ref q_isKept, .int m_held, .ref q_heldWho, .ref q_heldForce, .ref q_heldLoad, .ref q_heldIs, .long m_seed, .int m_tentMany, .int m_tentFirst, .int m_restMany, .int m_restFirst, .ref q_gains, .ref q_value])), (q_text, .inl (cI, 56, .inl m_text)), (q_cards, .inl (cI, 4, .inl m_cards)), (q_readCards, .inl (cI, 4, .inl m_readCards)), (q_readPage, .inl (cI, 17, .inl m_readPage)), (q_page, .inl (cI, 17, .inl m_page)), (q_trial, .inl (cI, 17, .inl m_trial)), (q_loads, .inl (cI, 16, .inl m_loads)), (q_book, .inl (cI, 238, .inl m_book)), (q_kept, .inl (cI, 34, .inl m_kept)), (q_isKept, .inl (cZ, 2, .inl m_isKept)), (q_heldWho, .inl (cI, 6, .inl m_heldWho)), (q_heldForce, .inl (cI, 6, .inl m_heldForce)), (q_heldLoad, .inl (cI, 6, .inl m_heldLoad)), (q_heldIs, .inl (cI, 6, .inl m_heldIs)), (q_gains, .inl (cI, 50, .inl m_gains)), (q_value, .inl (cI, 16, .inl m_value))]) A res) args s 0 0 A) (F0 m 57 ls []) := by
  obtain ⟨hx, hb, hr, hml, hown, hts, hlk⟩ := id C
  have hg : ∀ w ∈ GW, w.before args s = true := fun w h => hts w (List.mem_cons_of_mem _ h)
  intro n
  induction n with
  | zero =>
    intro _ _ H locs ls hf
    rw [fX5_shaken_L57] at hf
    cases hf
  | succ n ih =>
    intro v6 v7 H locs ls hf w hl
    rw [fX5_shaken_L57] at hf
    refine lv_iload hx hb dX5_shaken_57 (lv_at hl 7 rfl) ?_
    refine lv_bipush (v := 16) hx hb dX5_shaken_59 (by decide) ?_
    refine lv_icmp_ge (tgt := 145) hx hb dX5_shaken_61 (by decide) (fun c1 => ?_) (fun c1 => ?_)
    · replace hf := ite_t c1 hf
      refine lv_iload hx hb dX5_shaken_145 (lv_at hl 6 rfl) ?_
      refine lv_bipush (v := 10) hx hb dX5_shaken_147 (by decide) ?_
      refine lv_iload hx hb dX5_shaken_149 (lv_at hl 5 rfl) ?_
      replace hf := ob_at hf
      obtain ⟨r2, er2, hf⟩ := hf
      refine k_goI0 w [] rfl (va_runS (As := [.int 10, .int v5]) (rest := [.int v6]) ⟨hx, hb, hml, hown, hg⟩ (tX5_power l D cI cZ b0 tt 10 v5 er2 H.size) (va_cwS 2 hg (gwS w_807 w_808 w_7 w_809) rfl rfl rfl qdX5_power ⟨Nat.le_of_ble_eq_true rfl, Nat.le_of_ble_eq_true rfl⟩) (k_preS w [] (by decide) rfl) rfl rfl hl.1 rfl (lv_room (Nat.le_of_ble_eq_true rfl)) dX5_shaken_151 ⟨Nat.le_refl _, Nat.le_refl _⟩) (fun H locs w => ?_)
      refine lv_iload_n hx hb dX5_shaken_154 rfl (lv_at hl 3 rfl) ?_
      replace hf := ob_at hf
      obtain ⟨r3, er3, hf⟩ := hf
      refine k_goI0 w [] rfl (va_runS (As := [.int v6, .int r2, .int v3]) (rest := []) ⟨hx, hb, hml, hown, hg⟩ (tX5_fraction l D cI cZ b0 tt v6 r2 v3 er3 H.size) (va_cwS 3 hg (gwS w_779 w_780 w_7 w_781) rfl rfl rfl qdX5_fraction ⟨Nat.le_of_ble_eq_true rfl, Nat.le_of_ble_eq_true rfl⟩) (k_preS w [] (by decide) rfl) rfl rfl hl.1 rfl (lv_room (Nat.le_of_ble_eq_true rfl)) dX5_shaken_155 ⟨Nat.le_refl _, Nat.le_refl _⟩) (fun H locs w => ?_)
      exact k_iret (u := m_thrown) hx hb hr hlk w rfl hf dX5_shaken_158
    · replace hf := ite_f c1 hf
      refine lv_iload hx hb dX5_shaken_64 (lv_at hl 7 rfl) ?_
      refine lv_iload hx hb dX5_shaken_66 (lv_at hl 4 rfl) ?_
      refine lv_iconst (v := (-1)) hx hb dX5_shaken_68 (by decide) ?_
      refine lv_ixor hx hb dX5_shaken_69 ?_
      refine lv_iand hx hb dX5_shaken_70 ?_
      refine lv_if_ne (tgt := 139) hx hb dX5_shaken_71 (by decide) (fun c4 => ?_) (fun c4 => ?_)
      · replace hf := ite_f c4 hf
        obtain ⟨z5, ez5⟩ : ∃ y : Int32, y = (v7 + 1) := ⟨_, rfl⟩
        replace hf := nm_at ez5 hf
        refine lv_iinc (v := z5) (lv' := [(7, .int z5), (0, .ref m_a), (1, .int v1), (2, .int v2), (3, .int v3), (4, .int v4), (5, .int v5), (6, .int v6)]) hx hb dX5_shaken_139 hl (k := 7) rfl (by rw [ez5]; rfl) (by decide) rfl (fun ls hl => ?_)
        refine lv_goto (tgt := 57) hx hb dX5_shaken_142 (by decide) ?_
        exact ih v6 z5 H locs ls hf w (lv_sub hl [1, 2, 3, 4, 5, 6, 7, 0] rfl)
      · replace hf := ite_t c4 hf
        refine lv_aload_n hx hb dX5_shaken_74 rfl (lv_at hl 0 rfl) ?_
        refine va_get (D := D) (ci := 5) (v := .ref q_page) (C := RX5) (T := TX5) (N := 26) hx hb hg iX5 hown w.2.2.2.2.2.2.1 w.1 0 rfl rfl 7 (by decide) (hg _ w_496) (fun _ h9 => h9) rfl dX5_shaken_75 ?_
        replace hf := ob_at hf
        obtain ⟨r6, er6, hf⟩ := hf
        refine k_goI0 w [5] rfl (va_runS (As := [.ref q_page]) (rest := []) ⟨hx, hb, hml, hown, hg⟩ (tX5_there l D cI cZ b0 tt q_page m_page er6 H.size) (va_cwS 1 hg (gwS w_606 w_607 w_7 w_608) rfl rfl rfl qdX5_there ⟨Nat.le_of_ble_eq_true rfl, Nat.le_of_ble_eq_true rfl⟩) (k_preS w [5] (by decide) rfl) rfl rfl hl.1 rfl (lv_room (Nat.le_of_ble_eq_true rfl)) dX5_shaken_78 ⟨Nat.le_refl _, Nat.le_refl _⟩) (fun H locs w => ?_)
        refine lv_aload_n hx hb dX5_shaken_81 rfl (lv_at hl 0 rfl) ?_
        refine va_get (D := D) (ci := 5) (v := .ref q_page) (C := RX5) (T := TX5) (N := 26) hx hb hg iX5 hown w.2.2.2.2.2.2.1 w.1 0 rfl rfl 7 (by decide) (hg _ w_496) (fun _ h9 => h9) rfl dX5_shaken_82 ?_
        refine lv_iload hx hb dX5_shaken_85 (lv_at hl 7 rfl) ?_
        replace hf := ob_at hf
        obtain ⟨r7, er7, hf⟩ := hf
        refine k_goI0 w [5] rfl (va_runS (As := [.ref q_page, .int v7]) (rest := [.int r6]) ⟨hx, hb, hml, hown, hg⟩ (tX5_spreadOf l D cI cZ b0 tt q_page m_page v7 er7 H.size) (va_cwS 2 hg (gwS w_650 w_651 w_7 w_652) rfl rfl rfl qdX5_spreadOf ⟨Nat.le_of_ble_eq_true rfl, Nat.le_of_ble_eq_true rfl⟩) (k_preS w [5] (by decide) rfl) rfl rfl hl.1 rfl (lv_room (Nat.le_of_ble_eq_true rfl)) dX5_shaken_87 ⟨Nat.le_refl _, Nat.le_refl _⟩) (fun H locs w => ?_)
        refine lv_iconst (v := (-1)) hx hb dX5_shaken_90 (by decide) ?_
        refine lv_ixor hx hb dX5_shaken_91 ?_
        refine lv_iand hx hb dX5_shaken_92 ?_
        replace hf := ob_at hf
        obtain ⟨r8, er8, hf⟩ := hf
        refine k_goI0 w [] rfl (va_runS (As := [.int (r6 &&& (r7 ^^^ ((-1) : Int32)))]) (rest := []) ⟨hx, hb, hml, hown, hg⟩ (tX5_many l D cI cZ b0 tt (r6 &&& (r7 ^^^ ((-1) : Int32))) er8 H.size) (va_cwS 1 hg (gwS w_653 w_654 w_7 w_655) rfl rfl rfl qdX5_many ⟨Nat.le_of_ble_eq_true rfl, Nat.le_of_ble_eq_true rfl⟩) (k_preS w [] (by decide) rfl) rfl rfl hl.1 rfl (lv_room (Nat.le_of_ble_eq_true rfl)) dX5_shaken_93 ⟨Nat.le_refl _, Nat.le_refl _⟩) (fun H locs w => ?_)
        refine lv_istore (lv' := [(8, .int r8), (0, .ref m_a), (1, .int v1), (2, .int v2), (3, .int v3), (4, .int v4), (5, .int v5), (6, .int v6), (7, .int v7)]) hx hb dX5_shaken_96 hl (by decide) rfl (fun ls hl => ?_)
        refine lv_iload hx hb dX5_shaken_98 (lv_at hl 8 rfl) ?_
        replace hf := ob_at hf
        obtain ⟨r9, er9, hf⟩ := hf
        refine k_goI0 w [] rfl (va_runS (As := [.int v7]) (rest := []) ⟨hx, hb, hml, hown, hg⟩ (tX5_many l D cI cZ b0 tt v7 er9 H.size) (va_cwS 1 hg (gwS w_653 w_654 w_7 w_655) rfl rfl rfl qdX5_many ⟨Nat.le_of_ble_eq_true rfl, Nat.le_of_ble_eq_true rfl⟩) (k_preS w [] (by decide) rfl) rfl rfl hl.1 rfl (lv_room (Nat.le_of_ble_eq_true rfl)) dX5_shaken_100 ⟨Nat.le_refl _, Nat.le_refl _⟩) (fun H locs w => ?_)
        refine lv_istore (lv' := [(9, .int r9), (8, .int r8), (0, .ref m_a), (1, .int v1), (2, .int v2), (3, .int v3), (4, .int v4), (5, .int v5), (6, .int v6), (7, .int v7)]) hx hb dX5_shaken_103 hl (by decide) rfl (fun ls hl => ?_)
        refine lv_iload hx hb dX5_shaken_105 (lv_at hl 8 rfl) ?_
        refine lv_iload hx hb dX5_shaken_107 (lv_at hl 1 rfl) ?_
        refine lv_iload_n hx hb dX5_shaken_109 rfl (lv_at hl 3 rfl) ?_
        refine lv_icmp_lt (tgt := 135) hx hb dX5_shaken_110 (by decide) (fun c10 => ?_) (fun c10 => ?_)
        · replace hf := ite_t c10 hf
          refine lv_iconst (v := 0) hx hb dX5_shaken_135 (by decide) ?_
          refine lv_iadd hx hb dX5_shaken_136 ?_
          refine lv_topi (fun z11 ez11 => ?_)
          replace hf := nm_at ez11 hf
          refine lv_istore (lv' := [(6, .int z11), (9, .int r9), (8, .int r8), (0, .ref m_a), (1, .int v1), (2, .int v2), (3, .int v3), (4, .int v4), (5, .int v5), (7, .int v7)]) hx hb dX5_shaken_137 hl (by decide) rfl (fun ls hl => ?_)
          obtain ⟨z12, ez12⟩ : ∃ y : Int32, y = (v7 + 1) := ⟨_, rfl⟩
          replace hf := nm_at ez12 hf
          refine lv_iinc (v := z12) (lv' := [(7, .int z12), (6, .int z11), (9, .int r9), (8, .int r8), (0, .ref m_a), (1, .int v1), (2, .int v2), (3, .int v3), (4, .int v4), (5, .int v5)]) hx hb dX5_shaken_139 hl (k := 9) rfl (by rw [ez12]; rfl) (by decide) rfl (fun ls hl => ?_)
          refine lv_goto (tgt := 57) hx hb dX5_shaken_142 (by decide) ?_
          exact ih z11 z12 H locs ls hf w (lv_sub hl [4, 5, 6, 7, 8, 9, 1, 0] rfl)
        · replace hf := ite_f c10 hf
          refine lv_iload_n hx hb dX5_shaken_113 rfl (lv_at hl 4 rfl) ?_
          refine lv_iload hx hb dX5_shaken_114 (lv_at hl 0 rfl) ?_
          replace hf := ob_at hf
          obtain ⟨r13, er13, hf⟩ := hf
          refine k_goI0 w [] rfl (va_runS (As := [.int v2, .int r9]) (rest := [.int v6]) ⟨hx, hb, hml, hown, hg⟩ (tX5_power l D cI cZ b0 tt v2 r9 er13 H.size) (va_cwS 2 hg (gwS w_807 w_808 w_7 w_809) rfl rfl rfl qdX5_power ⟨Nat.le_of_ble_eq_true rfl, Nat.le_of_ble_eq_true rfl⟩) (k_preS w [] (by decide) rfl) rfl rfl hl.1 rfl (lv_room (Nat.le_of_ble_eq_true rfl)) dX5_shaken_116 ⟨Nat.le_refl _, Nat.le_refl _⟩) (fun H locs w => ?_)
          refine lv_bipush (v := 10) hx hb dX5_shaken_119 (by decide) ?_
          refine lv_iload_n hx hb dX5_shaken_121 rfl (lv_at hl 4 rfl) ?_
          refine lv_isub hx hb dX5_shaken_122 ?_
          refine lv_iload hx hb dX5_shaken_123 (lv_at hl 7 rfl) ?_
          refine lv_iload hx hb dX5_shaken_125 (lv_at hl 0 rfl) ?_
          refine lv_isub hx hb dX5_shaken_127 ?_
          replace hf := ob_at hf
          obtain ⟨r14, er14, hf⟩ := hf
          refine k_goI0 w [] rfl (va_runS (As := [.int ((10 : Int32) - v2), .int (v5 - r9)]) (rest := [.int r13, .int v6]) ⟨hx, hb, hml, hown, hg⟩ (tX5_power l D cI cZ b0 tt ((10 : Int32) - v2) (v5 - r9) er14 H.size) (va_cwS 2 hg (gwS w_807 w_808 w_7 w_809) rfl rfl rfl qdX5_power ⟨Nat.le_of_ble_eq_true rfl, Nat.le_of_ble_eq_true rfl⟩) (k_preS w [] (by decide) rfl) rfl rfl hl.1 rfl (lv_room (Nat.le_of_ble_eq_true rfl)) dX5_shaken_128 ⟨Nat.le_refl _, Nat.le_refl _⟩) (fun H locs w => ?_)
          refine lv_imul hx hb dX5_shaken_131 ?_
          refine lv_goto (tgt := 136) hx hb dX5_shaken_132 (by decide) ?_
          refine lv_iadd hx hb dX5_shaken_136 ?_
          refine lv_topi (fun z15 ez15 => ?_)
          replace hf := nm_at ez15 hf
          refine lv_istore (lv' := [(6, .int z15), (9, .int r9), (8, .int r8), (0, .ref m_a), (1, .int v1), (2, .int v2), (3, .int v3), (4, .int v4), (5, .int v5), (7, .int v7)]) hx hb dX5_shaken_137 hl (by decide) rfl (fun ls hl => ?_)
          obtain ⟨z16, ez16⟩ : ∃ y : Int32, y = (v7 + 1) := ⟨_, rfl⟩
          replace hf := nm_at ez16 hf
          refine lv_iinc (v := z16) (lv' := [(7, .int z16), (6, .int z15), (9, .int r9), (8, .int r8), (0, .ref m_a), (1, .int v1), (2, .int v2), (3, .int v3), (4, .int v4), (5, .int v5)]) hx hb dX5_shaken_139 hl (k := 9) rfl (by rw [ez16]; rfl) (by decide) rfl (fun ls hl => ?_)
          refine lv_goto (tgt := 57) hx hb dX5_shaken_142 (by decide) ?_
          exact ih z15 z16 H locs ls hf w (lv_sub hl [4, 5, 6, 7, 8, 9, 1, 0] rfl)
def fX5_shaken  (m_thrown : Int32) (m_page : Nat → Int32) (a1 : Int32) (a2 : Int32) (a3 : Int32) : Option (Int32 × Int32) := ob (fX5_in (Int32.toInt64 a1) 0 16) (fun r17 => (if r17 = 0 then some ((-2), 0) else ob (fX5_in (Int32.toInt64 a2) 0 10) (fun r19 => (if r19 = 0 then some ((-2), 0) else ob (fX5_there m_page) (fun r21 => nm (r21 &&& (15 : Int32)) (fun z22 => ob (fX5_many z22) (fun r23 => fX5_shaken_L57 a1 a2 a3 z22 r23 0 m_page FU 0 0)))))))
set_option maxRecDepth 100000 in
set_option maxHeartbeats 4000000 in
theorem tX5_shaken (l : Launch) (D : va_G) (cI cZ : ClassId) (b0 : Nat) (tt : Nat → Nat)  (m_a q_text q_cards q_readCards q_readPage q_page q_trial q_loads q_book q_kept q_isKept q_heldWho q_heldForce q_heldLoad q_heldIs q_gains q_value : Nat) (m_thrown : Int32) (m_textSize : Int32) (m_place : Int32) (m_acts : Int32) (m_held : Int32) (m_seed : Int64) (m_tentMany : Int32) (m_tentFirst : Int32) (m_restMany : Int32) (m_restFirst : Int32) (m_text : Nat → Int32) (m_cards : Nat → Int32) (m_readCards : Nat → Int32) (m_readPage : Nat → Int32) (m_page : Nat → Int32) (m_trial : Nat → Int32) (m_loads : Nat → Int32) (m_book : Nat → Int32) (m_kept : Nat → Int32) (m_isKept : Nat → Int32) (m_heldWho : Nat → Int32) (m_heldForce : Nat → Int32) (m_heldLoad : Nat → Int32) (m_heldIs : Nat → Int32) (m_gains : Nat → Int32) (m_value : Nat → Int32) (a1 : Int32) (a2 : Int32) (a3 : Int32) {res : Int32 × Int32} (hf : fX5_shaken m_thrown m_page a1 a2 a3 = some res) : CtI l yX5_shaken (cwX5_shaken :: GW) 2 47 D cI cZ b0 tt [.ref m_a, .int a1, .int a2, .int a3] (fun u : Int32 => [(m_a, .inr (5, [.int u, .ref q_text, .int m_textSize, .int m_place, .ref q_cards, .ref q_readCards, .ref q_readPage, .ref q_page, .ref q_trial, .ref q_loads, .ref q_book, .int m_acts, .ref q_kept, .ref q_isKept, .int m_held, .ref q_heldWho, .ref q_heldForce, .ref q_heldLoad, .ref q_heldIs, .long m_seed, .int m_tentMany, .int m_tentFirst, .int m_restMany, .int m_restFirst, .ref q_gains, .ref q_value])), (q_text, .inl (cI, 56, .inl m_text)), (q_cards, .inl (cI, 4, .inl m_cards)), (q_readCards, .inl (cI, 4, .inl m_readCards)), (q_readPage, .inl (cI, 17, .inl m_readPage)), (q_page, .inl (cI, 17, .inl m_page)), (q_trial, .inl (cI, 17, .inl m_trial)), (q_loads, .inl (cI, 16, .inl m_loads)), (q_book, .inl (cI, 238, .inl m_book)), (q_kept, .inl (cI, 34, .inl m_kept)), (q_isKept, .inl (cZ, 2, .inl m_isKept)), (q_heldWho, .inl (cI, 6, .inl m_heldWho)), (q_heldForce, .inl (cI, 6, .inl m_heldForce)), (q_heldLoad, .inl (cI, 6, .inl m_heldLoad)), (q_heldIs, .inl (cI, 6, .inl m_heldIs)), (q_gains, .inl (cI, 50, .inl m_gains)), (q_value, .inl (cI, 16, .inl m_value))]) m_thrown res := by
  intro sz
  refine k_begin (cc := cX5_shaken) (maxL := 10) (ret := (some .int)) (by decide) rfl (Nat.le_of_ble_eq_true rfl) ?_
  intro p e s m below meth c ls C w hl
  generalize va_A _ sz = A at w ⊢
  have w : Wd D cI cZ b0 tt A s [(m_a, .inr (5, [.int m_thrown, .ref q_text, .int m_textSize, .int m_place, .ref q_cards, .ref q_readCards, .ref q_readPage, .ref q_page, .ref q_trial, .ref q_loads, .ref q_book, .int m_acts, .ref q_kept, .ref q_isKept, .int m_held, .ref q_heldWho, .ref q_heldForce, .ref q_heldLoad, .ref q_heldIs, .long m_seed, .int m_tentMany, .int m_tentFirst, .int m_restMany, .int m_restFirst, .ref q_gains, .ref q_value])), (q_text, .inl (cI, 56, .inl m_text)), (q_cards, .inl (cI, 4, .inl m_cards)), (q_readCards, .inl (cI, 4, .inl m_readCards)), (q_readPage, .inl (cI, 17, .inl m_readPage)), (q_page, .inl (cI, 17, .inl m_page)), (q_trial, .inl (cI, 17, .inl m_trial)), (q_loads, .inl (cI, 16, .inl m_loads)), (q_book, .inl (cI, 238, .inl m_book)), (q_kept, .inl (cI, 34, .inl m_kept)), (q_isKept, .inl (cZ, 2, .inl m_isKept)), (q_heldWho, .inl (cI, 6, .inl m_heldWho)), (q_heldForce, .inl (cI, 6, .inl m_heldForce)), (q_heldLoad, .inl (cI, 6, .inl m_heldLoad)), (q_heldIs, .inl (cI, 6, .inl m_heldIs)), (q_gains, .inl (cI, 50, .inl m_gains)), (q_value, .inl (cI, 16, .inl m_value))] s.heap [] := w
  have hl : lv_has ls 10 [(0, .ref m_a), (1, .int a1), (2, .int a2), (3, .int a3)] := hl
  obtain ⟨H, eH⟩ : ∃ H, H = s.heap := ⟨_, rfl⟩
  rw [← eH] at w ⊢
  generalize ([] : List Loc) = locs at w ⊢
  generalize List.toArray _ = args at C ⊢
  obtain ⟨hx, hb, hr, hml, hown, hts, hlk⟩ := id C
  have hg : ∀ w ∈ GW, w.before args s = true := fun w h => hts w (List.mem_cons_of_mem _ h)
  unfold fX5_shaken at hf
  refine lv_aload_n hx hb dX5_shaken_0 rfl (lv_at hl 0 rfl) ?_
  refine lv_iconst (v := 0) hx hb dX5_shaken_1 (by decide) ?_
  refine k_put (ci := 5) (v := .int 0) (ty := .int) (C := RX5) (T := TX5) (N := 26) hx hb hg iX5 tyX5 tyX5_ok nmX5 hown w 0 rfl rfl 0 (by decide) (hg _ w_489) (fun _ h9 => h9) rfl pd_I rfl rfl (Nat.le_of_ble_eq_true rfl) dX5_shaken_2 (fun H locs w => ?_)
  have w : Wd D cI cZ b0 tt A s [(m_a, .inr (5, [.int 0, .ref q_text, .int m_textSize, .int m_place, .ref q_cards, .ref q_readCards, .ref q_readPage, .ref q_page, .ref q_trial, .ref q_loads, .ref q_book, .int m_acts, .ref q_kept, .ref q_isKept, .int m_held, .ref q_heldWho, .ref q_heldForce, .ref q_heldLoad, .ref q_heldIs, .long m_seed, .int m_tentMany, .int m_tentFirst, .int m_restMany, .int m_restFirst, .ref q_gains, .ref q_value])), (q_text, .inl (cI, 56, .inl m_text)), (q_cards, .inl (cI, 4, .inl m_cards)), (q_readCards, .inl (cI, 4, .inl m_readCards)), (q_readPage, .inl (cI, 17, .inl m_readPage)), (q_page, .inl (cI, 17, .inl m_page)), (q_trial, .inl (cI, 17, .inl m_trial)), (q_loads, .inl (cI, 16, .inl m_loads)), (q_book, .inl (cI, 238, .inl m_book)), (q_kept, .inl (cI, 34, .inl m_kept)), (q_isKept, .inl (cZ, 2, .inl m_isKept)), (q_heldWho, .inl (cI, 6, .inl m_heldWho)), (q_heldForce, .inl (cI, 6, .inl m_heldForce)), (q_heldLoad, .inl (cI, 6, .inl m_heldLoad)), (q_heldIs, .inl (cI, 6, .inl m_heldIs)), (q_gains, .inl (cI, 50, .inl m_gains)), (q_value, .inl (cI, 16, .inl m_value))] H locs := w
  refine lv_iload_n hx hb dX5_shaken_5 rfl (lv_at hl 1 rfl) ?_
  refine lv_i2l (v := (Int32.toInt64 a1)) hx hb dX5_shaken_6 rfl ?_
  refine lv_lconst (v := 0) hx hb dX5_shaken_7 (by decide) ?_
  refine lv_ldc2 hx hb hown (hg _ w_805) dX5_shaken_8 ?_
  replace hf := ob_at hf
  obtain ⟨r17, er17, hf⟩ := hf
  refine k_goI0 w [] rfl (va_runS (As := [.long (Int32.toInt64 a1), .long 0, .long 16]) (rest := []) ⟨hx, hb, hml, hown, hg⟩ (tX5_in l D cI cZ b0 tt (Int32.toInt64 a1) 0 16 er17 H.size) (va_cwS 3 hg (gwS w_574 w_575 w_7 w_576) rfl rfl rfl qdX5_in ⟨Nat.le_of_ble_eq_true rfl, Nat.le_of_ble_eq_true rfl⟩) (k_preS w [] (by decide) rfl) rfl rfl hl.1 rfl (lv_room (Nat.le_of_ble_eq_true rfl)) dX5_shaken_11 ⟨Nat.le_refl _, Nat.le_refl _⟩) (fun H locs w => ?_)
  refine lv_if_eq (tgt := 29) hx hb dX5_shaken_14 (by decide) (fun c18 => ?_) (fun c18 => ?_)
  · replace hf := ite_t c18 hf
    refine lv_bipush (v := (-2)) hx hb dX5_shaken_29 (by decide) ?_
    exact k_iret (u := 0) hx hb hr hlk w rfl hf dX5_shaken_31
  · replace hf := ite_f c18 hf
    refine lv_iload_n hx hb dX5_shaken_17 rfl (lv_at hl 2 rfl) ?_
    refine lv_i2l (v := (Int32.toInt64 a2)) hx hb dX5_shaken_18 rfl ?_
    refine lv_lconst (v := 0) hx hb dX5_shaken_19 (by decide) ?_
    refine lv_ldc2 hx hb hown (hg _ w_806) dX5_shaken_20 ?_
    replace hf := ob_at hf
    obtain ⟨r19, er19, hf⟩ := hf
    refine k_goI0 w [] rfl (va_runS (As := [.long (Int32.toInt64 a2), .long 0, .long 10]) (rest := []) ⟨hx, hb, hml, hown, hg⟩ (tX5_in l D cI cZ b0 tt (Int32.toInt64 a2) 0 10 er19 H.size) (va_cwS 3 hg (gwS w_574 w_575 w_7 w_576) rfl rfl rfl qdX5_in ⟨Nat.le_of_ble_eq_true rfl, Nat.le_of_ble_eq_true rfl⟩) (k_preS w [] (by decide) rfl) rfl rfl hl.1 rfl (lv_room (Nat.le_of_ble_eq_true rfl)) dX5_shaken_23 ⟨Nat.le_refl _, Nat.le_refl _⟩) (fun H locs w => ?_)
    refine lv_if_ne (tgt := 32) hx hb dX5_shaken_26 (by decide) (fun c20 => ?_) (fun c20 => ?_)
    · replace hf := ite_f c20 hf
      refine lv_aload_n hx hb dX5_shaken_32 rfl (lv_at hl 0 rfl) ?_
      refine va_get (D := D) (ci := 5) (v := .ref q_page) (C := RX5) (T := TX5) (N := 26) hx hb hg iX5 hown w.2.2.2.2.2.2.1 w.1 0 rfl rfl 7 (by decide) (hg _ w_496) (fun _ h9 => h9) rfl dX5_shaken_33 ?_
      replace hf := ob_at hf
      obtain ⟨r21, er21, hf⟩ := hf
      refine k_goI0 w [5] rfl (va_runS (As := [.ref q_page]) (rest := []) ⟨hx, hb, hml, hown, hg⟩ (tX5_there l D cI cZ b0 tt q_page m_page er21 H.size) (va_cwS 1 hg (gwS w_606 w_607 w_7 w_608) rfl rfl rfl qdX5_there ⟨Nat.le_of_ble_eq_true rfl, Nat.le_of_ble_eq_true rfl⟩) (k_preS w [5] (by decide) rfl) rfl rfl hl.1 rfl (lv_room (Nat.le_of_ble_eq_true rfl)) dX5_shaken_36 ⟨Nat.le_refl _, Nat.le_refl _⟩) (fun H locs w => ?_)
      refine lv_bipush (v := 15) hx hb dX5_shaken_39 (by decide) ?_
      refine lv_iand hx hb dX5_shaken_41 ?_
      refine lv_topi (fun z22 ez22 => ?_)
      replace hf := nm_at ez22 hf
      refine lv_istore (lv' := [(4, .int z22), (0, .ref m_a), (1, .int a1), (2, .int a2), (3, .int a3)]) hx hb dX5_shaken_42 hl (by decide) rfl (fun ls hl => ?_)
      refine lv_iload hx hb dX5_shaken_44 (lv_at hl 0 rfl) ?_
      replace hf := ob_at hf
      obtain ⟨r23, er23, hf⟩ := hf
      refine k_goI0 w [] rfl (va_runS (As := [.int z22]) (rest := []) ⟨hx, hb, hml, hown, hg⟩ (tX5_many l D cI cZ b0 tt z22 er23 H.size) (va_cwS 1 hg (gwS w_653 w_654 w_7 w_655) rfl rfl rfl qdX5_many ⟨Nat.le_of_ble_eq_true rfl, Nat.le_of_ble_eq_true rfl⟩) (k_preS w [] (by decide) rfl) rfl rfl hl.1 rfl (lv_room (Nat.le_of_ble_eq_true rfl)) dX5_shaken_46 ⟨Nat.le_refl _, Nat.le_refl _⟩) (fun H locs w => ?_)
      refine lv_istore (lv' := [(5, .int r23), (4, .int z22), (0, .ref m_a), (1, .int a1), (2, .int a2), (3, .int a3)]) hx hb dX5_shaken_49 hl (by decide) rfl (fun ls hl => ?_)
      refine lv_iconst (v := 0) hx hb dX5_shaken_51 (by decide) ?_
      refine lv_istore (lv' := [(6, .int 0), (5, .int r23), (4, .int z22), (0, .ref m_a), (1, .int a1), (2, .int a2), (3, .int a3)]) hx hb dX5_shaken_52 hl (by decide) rfl (fun ls hl => ?_)
      refine lv_iconst (v := 0) hx hb dX5_shaken_54 (by decide) ?_
      refine lv_istore (lv' := [(7, .int 0), (6, .int 0), (5, .int r23), (4, .int z22), (0, .ref m_a), (1, .int a1), (2, .int a2), (3, .int a3)]) hx hb dX5_shaken_55 hl (by decide) rfl (fun ls hl => ?_)
      exact tX5_shaken_L57 (v1 := a1) (v2 := a2) (v3 := a3) (v4 := z22) (v5 := r23) (m_thrown := 0) (m_page := m_page) (m_textSize := m_textSize) (m_place := m_place) (m_acts := m_acts) (m_held := m_held) (m_seed := m_seed) (m_tentMany := m_tentMany) (m_tentFirst := m_tentFirst) (m_restMany := m_restMany) (m_restFirst := m_restFirst) (m_text := m_text) (m_cards := m_cards) (m_readCards := m_readCards) (m_readPage := m_readPage) (m_trial := m_trial) (m_loads := m_loads) (m_book := m_book) (m_kept := m_kept) (m_isKept := m_isKept) (m_heldWho := m_heldWho) (m_heldForce := m_heldForce) (m_heldLoad := m_heldLoad) (m_heldIs := m_heldIs) (m_gains := m_gains) (m_value := m_value) (C := C) FU 0 0 H locs ls hf w (lv_sub hl [4, 5, 6, 7, 3, 2, 1, 0] rfl)
    · replace hf := ite_t c20 hf
      refine lv_bipush (v := (-2)) hx hb dX5_shaken_29 (by decide) ?_
      exact k_iret (u := 0) hx hb hr hlk w rfl hf dX5_shaken_31
-- X5_seed
def fX5_seed  (m_thrown : Int32) (m_seed : Int64) (a1 : Int64) : Option (Int64 × Int32 × Int64) := some (m_seed, (0, a1))
set_option maxRecDepth 100000 in
set_option maxHeartbeats 4000000 in
theorem tX5_seed (l : Launch) (D : va_G) (cI cZ : ClassId) (b0 : Nat) (tt : Nat → Nat)  (m_a q_text q_cards q_readCards q_readPage q_page q_trial q_loads q_book q_kept q_isKept q_heldWho q_heldForce q_heldLoad q_heldIs q_gains q_value : Nat) (m_thrown : Int32) (m_textSize : Int32) (m_place : Int32) (m_acts : Int32) (m_held : Int32) (m_seed : Int64) (m_tentMany : Int32) (m_tentFirst : Int32) (m_restMany : Int32) (m_restFirst : Int32) (m_text : Nat → Int32) (m_cards : Nat → Int32) (m_readCards : Nat → Int32) (m_readPage : Nat → Int32) (m_page : Nat → Int32) (m_trial : Nat → Int32) (m_loads : Nat → Int32) (m_book : Nat → Int32) (m_kept : Nat → Int32) (m_isKept : Nat → Int32) (m_heldWho : Nat → Int32) (m_heldForce : Nat → Int32) (m_heldLoad : Nat → Int32) (m_heldIs : Nat → Int32) (m_gains : Nat → Int32) (m_value : Nat → Int32) (a1 : Int64) {res : Int64 × Int32 × Int64} (hf : fX5_seed m_thrown m_seed a1 = some res) : CtL l yX5_seed (cwX5_seed :: GW) 0 0 D cI cZ b0 tt [.ref m_a, .long a1] (fun u : Int32 × Int64 => [(m_a, .inr (5, [.int u.1, .ref q_text, .int m_textSize, .int m_place, .ref q_cards, .ref q_readCards, .ref q_readPage, .ref q_page, .ref q_trial, .ref q_loads, .ref q_book, .int m_acts, .ref q_kept, .ref q_isKept, .int m_held, .ref q_heldWho, .ref q_heldForce, .ref q_heldLoad, .ref q_heldIs, .long u.2, .int m_tentMany, .int m_tentFirst, .int m_restMany, .int m_restFirst, .ref q_gains, .ref q_value])), (q_text, .inl (cI, 56, .inl m_text)), (q_cards, .inl (cI, 4, .inl m_cards)), (q_readCards, .inl (cI, 4, .inl m_readCards)), (q_readPage, .inl (cI, 17, .inl m_readPage)), (q_page, .inl (cI, 17, .inl m_page)), (q_trial, .inl (cI, 17, .inl m_trial)), (q_loads, .inl (cI, 16, .inl m_loads)), (q_book, .inl (cI, 238, .inl m_book)), (q_kept, .inl (cI, 34, .inl m_kept)), (q_isKept, .inl (cZ, 2, .inl m_isKept)), (q_heldWho, .inl (cI, 6, .inl m_heldWho)), (q_heldForce, .inl (cI, 6, .inl m_heldForce)), (q_heldLoad, .inl (cI, 6, .inl m_heldLoad)), (q_heldIs, .inl (cI, 6, .inl m_heldIs)), (q_gains, .inl (cI, 50, .inl m_gains)), (q_value, .inl (cI, 16, .inl m_value))]) (m_thrown, m_seed) res := by
  intro sz
  refine k_begin (cc := cX5_seed) (maxL := 5) (ret := (some .long)) (by decide) rfl (Nat.le_of_ble_eq_true rfl) ?_
  intro p e s m below meth c ls C w hl
  generalize va_A _ sz = A at w ⊢
  have w : Wd D cI cZ b0 tt A s [(m_a, .inr (5, [.int m_thrown, .ref q_text, .int m_textSize, .int m_place, .ref q_cards, .ref q_readCards, .ref q_readPage, .ref q_page, .ref q_trial, .ref q_loads, .ref q_book, .int m_acts, .ref q_kept, .ref q_isKept, .int m_held, .ref q_heldWho, .ref q_heldForce, .ref q_heldLoad, .ref q_heldIs, .long m_seed, .int m_tentMany, .int m_tentFirst, .int m_restMany, .int m_restFirst, .ref q_gains, .ref q_value])), (q_text, .inl (cI, 56, .inl m_text)), (q_cards, .inl (cI, 4, .inl m_cards)), (q_readCards, .inl (cI, 4, .inl m_readCards)), (q_readPage, .inl (cI, 17, .inl m_readPage)), (q_page, .inl (cI, 17, .inl m_page)), (q_trial, .inl (cI, 17, .inl m_trial)), (q_loads, .inl (cI, 16, .inl m_loads)), (q_book, .inl (cI, 238, .inl m_book)), (q_kept, .inl (cI, 34, .inl m_kept)), (q_isKept, .inl (cZ, 2, .inl m_isKept)), (q_heldWho, .inl (cI, 6, .inl m_heldWho)), (q_heldForce, .inl (cI, 6, .inl m_heldForce)), (q_heldLoad, .inl (cI, 6, .inl m_heldLoad)), (q_heldIs, .inl (cI, 6, .inl m_heldIs)), (q_gains, .inl (cI, 50, .inl m_gains)), (q_value, .inl (cI, 16, .inl m_value))] s.heap [] := w
  have hl : lv_has ls 5 [(0, .ref m_a), (1, .long a1)] := hl
  obtain ⟨H, eH⟩ : ∃ H, H = s.heap := ⟨_, rfl⟩
  rw [← eH] at w ⊢
  generalize ([] : List Loc) = locs at w ⊢
  generalize List.toArray _ = args at C ⊢
  obtain ⟨hx, hb, hr, hml, hown, hts, hlk⟩ := id C
  have hg : ∀ w ∈ GW, w.before args s = true := fun w h => hts w (List.mem_cons_of_mem _ h)
  unfold fX5_seed at hf
  refine lv_aload_n hx hb dX5_seed_0 rfl (lv_at hl 0 rfl) ?_
  refine lv_iconst (v := 0) hx hb dX5_seed_1 (by decide) ?_
  refine k_put (ci := 5) (v := .int 0) (ty := .int) (C := RX5) (T := TX5) (N := 26) hx hb hg iX5 tyX5 tyX5_ok nmX5 hown w 0 rfl rfl 0 (by decide) (hg _ w_489) (fun _ h9 => h9) rfl pd_I rfl rfl (Nat.le_of_ble_eq_true rfl) dX5_seed_2 (fun H locs w => ?_)
  have w : Wd D cI cZ b0 tt A s [(m_a, .inr (5, [.int 0, .ref q_text, .int m_textSize, .int m_place, .ref q_cards, .ref q_readCards, .ref q_readPage, .ref q_page, .ref q_trial, .ref q_loads, .ref q_book, .int m_acts, .ref q_kept, .ref q_isKept, .int m_held, .ref q_heldWho, .ref q_heldForce, .ref q_heldLoad, .ref q_heldIs, .long m_seed, .int m_tentMany, .int m_tentFirst, .int m_restMany, .int m_restFirst, .ref q_gains, .ref q_value])), (q_text, .inl (cI, 56, .inl m_text)), (q_cards, .inl (cI, 4, .inl m_cards)), (q_readCards, .inl (cI, 4, .inl m_readCards)), (q_readPage, .inl (cI, 17, .inl m_readPage)), (q_page, .inl (cI, 17, .inl m_page)), (q_trial, .inl (cI, 17, .inl m_trial)), (q_loads, .inl (cI, 16, .inl m_loads)), (q_book, .inl (cI, 238, .inl m_book)), (q_kept, .inl (cI, 34, .inl m_kept)), (q_isKept, .inl (cZ, 2, .inl m_isKept)), (q_heldWho, .inl (cI, 6, .inl m_heldWho)), (q_heldForce, .inl (cI, 6, .inl m_heldForce)), (q_heldLoad, .inl (cI, 6, .inl m_heldLoad)), (q_heldIs, .inl (cI, 6, .inl m_heldIs)), (q_gains, .inl (cI, 50, .inl m_gains)), (q_value, .inl (cI, 16, .inl m_value))] H locs := w
  refine lv_aload_n hx hb dX5_seed_5 rfl (lv_at hl 0 rfl) ?_
  refine va_get (D := D) (ci := 5) (v := .long m_seed) (C := RX5) (T := TX5) (N := 26) hx hb hg iX5 hown w.2.2.2.2.2.2.1 w.1 0 rfl rfl 19 (by decide) (hg _ w_508) (fun _ h9 => h9) rfl dX5_seed_6 ?_
  refine lv_lstore_n (lv' := [(3, .long m_seed), (0, .ref m_a), (1, .long a1)]) hx hb dX5_seed_9 rfl hl (by decide) rfl (fun ls hl => ?_)
  refine lv_aload_n hx hb dX5_seed_10 rfl (lv_at hl 1 rfl) ?_
  refine lv_lload_n hx hb dX5_seed_11 rfl (lv_at hl 2 rfl) ?_
  refine k_put (ci := 5) (v := .long a1) (ty := .long) (C := RX5) (T := TX5) (N := 26) hx hb hg iX5 tyX5 tyX5_ok nmX5 hown w 0 rfl rfl 19 (by decide) (hg _ w_508) (fun _ h9 => h9) rfl pd_J rfl rfl (Nat.le_of_ble_eq_true rfl) dX5_seed_12 (fun H locs w => ?_)
  have w : Wd D cI cZ b0 tt A s [(m_a, .inr (5, [.int 0, .ref q_text, .int m_textSize, .int m_place, .ref q_cards, .ref q_readCards, .ref q_readPage, .ref q_page, .ref q_trial, .ref q_loads, .ref q_book, .int m_acts, .ref q_kept, .ref q_isKept, .int m_held, .ref q_heldWho, .ref q_heldForce, .ref q_heldLoad, .ref q_heldIs, .long a1, .int m_tentMany, .int m_tentFirst, .int m_restMany, .int m_restFirst, .ref q_gains, .ref q_value])), (q_text, .inl (cI, 56, .inl m_text)), (q_cards, .inl (cI, 4, .inl m_cards)), (q_readCards, .inl (cI, 4, .inl m_readCards)), (q_readPage, .inl (cI, 17, .inl m_readPage)), (q_page, .inl (cI, 17, .inl m_page)), (q_trial, .inl (cI, 17, .inl m_trial)), (q_loads, .inl (cI, 16, .inl m_loads)), (q_book, .inl (cI, 238, .inl m_book)), (q_kept, .inl (cI, 34, .inl m_kept)), (q_isKept, .inl (cZ, 2, .inl m_isKept)), (q_heldWho, .inl (cI, 6, .inl m_heldWho)), (q_heldForce, .inl (cI, 6, .inl m_heldForce)), (q_heldLoad, .inl (cI, 6, .inl m_heldLoad)), (q_heldIs, .inl (cI, 6, .inl m_heldIs)), (q_gains, .inl (cI, 50, .inl m_gains)), (q_value, .inl (cI, 16, .inl m_value))] H locs := w
  refine lv_lload_n hx hb dX5_seed_15 rfl (lv_at hl 0 rfl) ?_
  exact k_lret (u := (0, a1)) hx hb hr hlk w rfl hf dX5_seed_16
-- X5_evenings
def fX5_evenings_L28   (v1 : Int32) (m_thrown : Int32) (m_cards : Nat → Int32) (m_page : Nat → Int32) : Nat → Int32 → Int32 → Int64 → (Nat → Int32) → (Nat → Int32) → Option (Int32 × Int32 × Int64 × (Nat → Int32) × (Nat → Int32))
  | 0, _, _, _, _, _ => none
  | n + 1, v2, v3, m_seed, m_trial, m_loads => (if v1 ≤ v3 then some (v2, (m_thrown, m_seed, m_trial, m_loads)) else nm ((m_seed * (6364136223846793005 : Int64)) + (1442695040888963407 : Int64)) (fun z2 => nm (Int64.toInt32 ((Int64.toUInt64 z2 >>> ((Int32.toInt64 33).toUInt64 &&& Int64.toUInt64 63)).toInt64 - (Int64.toUInt64 z2 >>> ((Int32.toInt64 33).toUInt64 &&& Int64.toUInt64 63)).toInt64 / (80 : Int64) * (80 : Int64))) (fun z3 => (if 64 ≤ z3 then (if 76 ≤ z3 then ob (fX5_takes m_trial (z3 - (64 : Int32))) (fun r6 => ob (fX5_there r6.2) (fun r7 => ob (fX5_many r7) (fun r8 => nm (v2 + r8) (fun z9 => nm (v3 + 1) (fun z10 => fX5_evenings_L28 v1 m_thrown m_cards m_page n z9 z10 z2 r6.2 m_loads))))) else ob (fX5_blows m_trial m_loads ((z3 - (64 : Int32)) / (3 : Int32)) ((2 : Int32) + ((z3 - (64 : Int32)) - (z3 - (64 : Int32)) / (3 : Int32) * (3 : Int32)))) (fun r11 => ob (fX5_there r11.2.1) (fun r12 => ob (fX5_many r12) (fun r13 => nm (v2 + r13) (fun z14 => nm (v3 + 1) (fun z15 => fX5_evenings_L28 v1 m_thrown m_cards m_page n z14 z15 z2 r11.2.1 r11.2.2)))))) else ob (fX5_puts m_cards m_trial m_loads (z3 / (4 : Int32)) (z3 - z3 / (4 : Int32) * (4 : Int32))) (fun r16 => ob (fX5_there r16.2.1) (fun r17 => ob (fX5_many r17) (fun r18 => nm (v2 + r18) (fun z19 => nm (v3 + 1) (fun z20 => fX5_evenings_L28 v1 m_thrown m_cards m_page n z19 z20 z2 r16.2.1 r16.2.2)))))))))
set_option maxRecDepth 100000 in
set_option maxHeartbeats 4000000 in
theorem tX5_evenings_L28 {p : Program} {l : Launch} {e : Env} {s : State} {m : MethodId} {args : Array Value} {below : List Frame} {meth : Method} {c : Code} {D : va_G} {cI cZ : ClassId} {b0 : Nat} {tt : Nat → Nat} {A : Nat → Prop}  {m_a q_text q_cards q_readCards q_readPage q_page q_trial q_loads q_book q_kept q_isKept q_heldWho q_heldForce q_heldLoad q_heldIs q_gains q_value : Nat}  {v1 : Int32} {m_thrown : Int32} {m_cards : Nat → Int32} {m_page : Nat → Int32} {m_textSize : Int32} {m_place : Int32} {m_acts : Int32} {m_held : Int32} {m_tentMany : Int32} {m_tentFirst : Int32} {m_restMany : Int32} {m_restFirst : Int32} {m_text : Nat → Int32} {m_readCards : Nat → Int32} {m_readPage : Nat → Int32} {m_book : Nat → Int32} {m_kept : Nat → Int32} {m_isKept : Nat → Int32} {m_heldWho : Nat → Int32} {m_heldForce : Nat → Int32} {m_heldLoad : Nat → Int32} {m_heldIs : Nat → Int32} {m_gains : Nat → Int32} {m_value : Nat → Int32} {res : Int32 × Int32 × Int64 × (Nat → Int32) × (Nat → Int32)} (C : Cx p s m args meth c cX5_evenings 5 (some .int) (cwX5_evenings :: GW) RX5) : ∀ (n : Nat) (v2 : Int32) (v3 : Int32) (m_seed : Int64) (m_trial : Nat → Int32) (m_loads : Nat → Int32) (H : Heap) (locs : List Loc) (ls : Array Slot), fX5_evenings_L28 v1 m_thrown m_cards m_page n v2 v3 m_seed m_trial m_loads = some res → Wd D cI cZ b0 tt A s [(m_a, .inr (5, [.int m_thrown, .ref q_text, .int m_textSize, .int m_place, .ref q_cards, .ref q_readCards, .ref q_readPage, .ref q_page, .ref q_trial, .ref q_loads, .ref q_book, .int m_acts, .ref q_kept, .ref q_isKept, .int m_held, .ref q_heldWho, .ref q_heldForce, .ref q_heldLoad, .ref q_heldIs, .long m_seed, .int m_tentMany, .int m_tentFirst, .int m_restMany, .int m_restFirst, .ref q_gains, .ref q_value])), (q_text, .inl (cI, 56, .inl m_text)), (q_cards, .inl (cI, 4, .inl m_cards)), (q_readCards, .inl (cI, 4, .inl m_readCards)), (q_readPage, .inl (cI, 17, .inl m_readPage)), (q_page, .inl (cI, 17, .inl m_page)), (q_trial, .inl (cI, 17, .inl m_trial)), (q_loads, .inl (cI, 16, .inl m_loads)), (q_book, .inl (cI, 238, .inl m_book)), (q_kept, .inl (cI, 34, .inl m_kept)), (q_isKept, .inl (cZ, 2, .inl m_isKept)), (q_heldWho, .inl (cI, 6, .inl m_heldWho)), (q_heldForce, .inl (cI, 6, .inl m_heldForce)), (q_heldLoad, .inl (cI, 6, .inl m_heldLoad)), (q_heldIs, .inl (cI, 6, .inl m_heldIs)), (q_gains, .inl (cI, 50, .inl m_gains)), (q_value, .inl (cI, 16, .inl m_value))] H locs → lv_has ls 5 [(0, .ref m_a), (1, .int v1), (2, .int v2), (3, .int v3)] → W p l e (rmo 8 179) s m args below meth c H locs 0 0 (MQ below (QI D (fun u : Int32 × Int64 × (Nat → Int32) × (Nat → Int32) => [(m_a, .inr (5, [.int u.1, .ref q_text, .int m_textSize, .int m_place, .ref q_cards, .ref q_readCards, .ref q_readPage, .ref q_page, .ref q_trial, .ref q_loads, .ref q_book, .int m_acts, .ref q_kept, .ref q_isKept, .int m_held, .ref q_heldWho, .ref q_heldForce, .ref q_heldLoad, .ref q_heldIs, .long u.2.1, .int m_tentMany, .int m_tentFirst, .int m_restMany, .int m_restFirst, .ref q_gains, .ref q_value])), (q_text, .inl (cI, 56, .inl m_text)), (q_cards, .inl (cI, 4, .inl m_cards)), (q_readCards, .inl (cI, 4, .inl m_readCards)), (q_readPage, .inl (cI, 17, .inl m_readPage)), (q_page, .inl (cI, 17, .inl m_page)), (q_trial, .inl (cI, 17, .inl u.2.2.1)), (q_loads, .inl (cI, 16, .inl u.2.2.2)), (q_book, .inl (cI, 238, .inl m_book)), (q_kept, .inl (cI, 34, .inl m_kept)), (q_isKept, .inl (cZ, 2, .inl m_isKept)), (q_heldWho, .inl (cI, 6, .inl m_heldWho)), (q_heldForce, .inl (cI, 6, .inl m_heldForce)), (q_heldLoad, .inl (cI, 6, .inl m_heldLoad)), (q_heldIs, .inl (cI, 6, .inl m_heldIs)), (q_gains, .inl (cI, 50, .inl m_gains)), (q_value, .inl (cI, 16, .inl m_value))]) A res) args s 0 0 A) (F0 m 28 ls []) := by
  obtain ⟨hx, hb, hr, hml, hown, hts, hlk⟩ := id C
  have hg : ∀ w ∈ GW, w.before args s = true := fun w h => hts w (List.mem_cons_of_mem _ h)
  intro n
  induction n with
  | zero =>
    intro _ _ _ _ _ H locs ls hf
    rw [fX5_evenings_L28] at hf
    cases hf
  | succ n ih =>
    intro v2 v3 m_seed m_trial m_loads H locs ls hf w hl
    rw [fX5_evenings_L28] at hf
    refine lv_iload_n hx hb dX5_evenings_28 rfl (lv_at hl 3 rfl) ?_
    refine lv_iload_n hx hb dX5_evenings_29 rfl (lv_at hl 1 rfl) ?_
    refine lv_icmp_ge (tgt := 146) hx hb dX5_evenings_30 (by decide) (fun c1 => ?_) (fun c1 => ?_)
    · replace hf := ite_t c1 hf
      refine lv_iload_n hx hb dX5_evenings_146 rfl (lv_at hl 2 rfl) ?_
      exact k_iret (u := (m_thrown, m_seed, m_trial, m_loads)) hx hb hr hlk w rfl hf dX5_evenings_147
    · replace hf := ite_f c1 hf
      refine lv_aload_n hx hb dX5_evenings_33 rfl (lv_at hl 0 rfl) ?_
      refine lv_aload_n hx hb dX5_evenings_34 rfl (lv_at hl 0 rfl) ?_
      refine va_get (D := D) (ci := 5) (v := .long m_seed) (C := RX5) (T := TX5) (N := 26) hx hb hg iX5 hown w.2.2.2.2.2.2.1 w.1 0 rfl rfl 19 (by decide) (hg _ w_508) (fun _ h9 => h9) rfl dX5_evenings_35 ?_
      refine lv_ldc2 hx hb hown (hg _ w_819) dX5_evenings_38 ?_
      refine lv_lmul hx hb dX5_evenings_41 ?_
      refine lv_ldc2 hx hb hown (hg _ w_820) dX5_evenings_42 ?_
      refine lv_ladd hx hb dX5_evenings_45 ?_
      refine lv_topl (fun z2 ez2 => ?_)
      replace hf := nm_at ez2 hf
      refine k_put (ci := 5) (v := .long z2) (ty := .long) (C := RX5) (T := TX5) (N := 26) hx hb hg iX5 tyX5 tyX5_ok nmX5 hown w 0 rfl rfl 19 (by decide) (hg _ w_508) (fun _ h9 => h9) rfl pd_J rfl rfl (Nat.le_of_ble_eq_true rfl) dX5_evenings_46 (fun H locs w => ?_)
      have w : Wd D cI cZ b0 tt A s [(m_a, .inr (5, [.int m_thrown, .ref q_text, .int m_textSize, .int m_place, .ref q_cards, .ref q_readCards, .ref q_readPage, .ref q_page, .ref q_trial, .ref q_loads, .ref q_book, .int m_acts, .ref q_kept, .ref q_isKept, .int m_held, .ref q_heldWho, .ref q_heldForce, .ref q_heldLoad, .ref q_heldIs, .long z2, .int m_tentMany, .int m_tentFirst, .int m_restMany, .int m_restFirst, .ref q_gains, .ref q_value])), (q_text, .inl (cI, 56, .inl m_text)), (q_cards, .inl (cI, 4, .inl m_cards)), (q_readCards, .inl (cI, 4, .inl m_readCards)), (q_readPage, .inl (cI, 17, .inl m_readPage)), (q_page, .inl (cI, 17, .inl m_page)), (q_trial, .inl (cI, 17, .inl m_trial)), (q_loads, .inl (cI, 16, .inl m_loads)), (q_book, .inl (cI, 238, .inl m_book)), (q_kept, .inl (cI, 34, .inl m_kept)), (q_isKept, .inl (cZ, 2, .inl m_isKept)), (q_heldWho, .inl (cI, 6, .inl m_heldWho)), (q_heldForce, .inl (cI, 6, .inl m_heldForce)), (q_heldLoad, .inl (cI, 6, .inl m_heldLoad)), (q_heldIs, .inl (cI, 6, .inl m_heldIs)), (q_gains, .inl (cI, 50, .inl m_gains)), (q_value, .inl (cI, 16, .inl m_value))] H locs := w
      refine lv_aload_n hx hb dX5_evenings_49 rfl (lv_at hl 0 rfl) ?_
      refine va_get (D := D) (ci := 5) (v := .long z2) (C := RX5) (T := TX5) (N := 26) hx hb hg iX5 hown w.2.2.2.2.2.2.1 w.1 0 rfl rfl 19 (by decide) (hg _ w_508) (fun _ h9 => h9) rfl dX5_evenings_50 ?_
      refine lv_bipush (v := 33) hx hb dX5_evenings_53 (by decide) ?_
      refine lv_lushr (v := (Int64.toUInt64 z2 >>> ((Int32.toInt64 33).toUInt64 &&& Int64.toUInt64 63)).toInt64) hx hb dX5_evenings_55 rfl ?_
      refine lv_ldc2 hx hb hown (hg _ w_821) dX5_evenings_56 ?_
      refine lv_lrem hx hb dX5_evenings_59 (by decide) ?_
      refine lv_l2i (v := (Int64.toInt32 ((Int64.toUInt64 z2 >>> ((Int32.toInt64 33).toUInt64 &&& Int64.toUInt64 63)).toInt64 - (Int64.toUInt64 z2 >>> ((Int32.toInt64 33).toUInt64 &&& Int64.toUInt64 63)).toInt64 / (80 : Int64) * (80 : Int64)))) hx hb dX5_evenings_60 rfl ?_
      refine lv_topi (fun z3 ez3 => ?_)
      replace hf := nm_at ez3 hf
      refine lv_istore (lv' := [(4, .int z3), (0, .ref m_a), (1, .int v1), (2, .int v2), (3, .int v3)]) hx hb dX5_evenings_61 hl (by decide) rfl (fun ls hl => ?_)
      refine lv_iload hx hb dX5_evenings_63 (lv_at hl 0 rfl) ?_
      refine lv_bipush (v := 64) hx hb dX5_evenings_65 (by decide) ?_
      refine lv_icmp_ge (tgt := 86) hx hb dX5_evenings_67 (by decide) (fun c4 => ?_) (fun c4 => ?_)
      · replace hf := ite_t c4 hf
        refine lv_iload hx hb dX5_evenings_86 (lv_at hl 0 rfl) ?_
        refine lv_bipush (v := 76) hx hb dX5_evenings_88 (by decide) ?_
        refine lv_icmp_ge (tgt := 117) hx hb dX5_evenings_90 (by decide) (fun c5 => ?_) (fun c5 => ?_)
        · replace hf := ite_t c5 hf
          refine lv_aload_n hx hb dX5_evenings_117 rfl (lv_at hl 1 rfl) ?_
          refine lv_iload hx hb dX5_evenings_118 (lv_at hl 0 rfl) ?_
          refine lv_bipush (v := 64) hx hb dX5_evenings_120 (by decide) ?_
          refine lv_isub hx hb dX5_evenings_122 ?_
          replace hf := ob_at hf
          obtain ⟨r6, er6, hf⟩ := hf
          refine k_goI (v0 := m_trial) (res := r6) w [0, 1, 2, 3, 4, 5, 6, 7, 8, 9, 10, 11, 12, 13, 14, 15, 16] rfl (fun _ => rfl) (va_runV (As := [.int (z3 - (64 : Int32))]) (rest := []) ⟨hx, hb, hml, hown, hg⟩ (tX5_takes l D cI cZ b0 tt m_a q_text q_cards q_readCards q_readPage q_page q_trial q_loads q_book q_kept q_isKept q_heldWho q_heldForce q_heldLoad q_heldIs q_gains q_value m_thrown m_textSize m_place m_acts m_held z2 m_tentMany m_tentFirst m_restMany m_restFirst m_text m_cards m_readCards m_readPage m_page m_trial m_loads m_book m_kept m_isKept m_heldWho m_heldForce m_heldLoad m_heldIs m_gains m_value (z3 - (64 : Int32)) er6 H.size) (cwV 1 hg (gwV w_766 w_767 w_864 w_7 w_768) rfl rfl rfl ⟨rfl, qdX5_takes⟩ ⟨Nat.le_of_ble_eq_true rfl, Nat.le_of_ble_eq_true rfl⟩) (k_preV w [0, 1, 2, 3, 4, 5, 6, 7, 8, 9, 10, 11, 12, 13, 14, 15, 16] (by decide) rfl (q0 := 0) rfl rfl) rfl rfl hl.1 rfl (lv_room (Nat.le_of_ble_eq_true rfl)) dX5_evenings_123 ⟨Nat.le_refl _, Nat.le_refl _⟩) (fun H locs w => ?_)
          have w : Wd D cI cZ b0 tt A s [(m_a, .inr (5, [.int m_thrown, .ref q_text, .int m_textSize, .int m_place, .ref q_cards, .ref q_readCards, .ref q_readPage, .ref q_page, .ref q_trial, .ref q_loads, .ref q_book, .int m_acts, .ref q_kept, .ref q_isKept, .int m_held, .ref q_heldWho, .ref q_heldForce, .ref q_heldLoad, .ref q_heldIs, .long z2, .int m_tentMany, .int m_tentFirst, .int m_restMany, .int m_restFirst, .ref q_gains, .ref q_value])), (q_text, .inl (cI, 56, .inl m_text)), (q_cards, .inl (cI, 4, .inl m_cards)), (q_readCards, .inl (cI, 4, .inl m_readCards)), (q_readPage, .inl (cI, 17, .inl m_readPage)), (q_page, .inl (cI, 17, .inl m_page)), (q_trial, .inl (cI, 17, .inl r6.2)), (q_loads, .inl (cI, 16, .inl m_loads)), (q_book, .inl (cI, 238, .inl m_book)), (q_kept, .inl (cI, 34, .inl m_kept)), (q_isKept, .inl (cZ, 2, .inl m_isKept)), (q_heldWho, .inl (cI, 6, .inl m_heldWho)), (q_heldForce, .inl (cI, 6, .inl m_heldForce)), (q_heldLoad, .inl (cI, 6, .inl m_heldLoad)), (q_heldIs, .inl (cI, 6, .inl m_heldIs)), (q_gains, .inl (cI, 50, .inl m_gains)), (q_value, .inl (cI, 16, .inl m_value))] H locs := w
          refine lv_pop hx hb dX5_evenings_126 rfl ?_
          refine lv_iload_n hx hb dX5_evenings_127 rfl (lv_at hl 3 rfl) ?_
          refine lv_aload_n hx hb dX5_evenings_128 rfl (lv_at hl 1 rfl) ?_
          refine va_get (D := D) (ci := 5) (v := .ref q_trial) (C := RX5) (T := TX5) (N := 26) hx hb hg iX5 hown w.2.2.2.2.2.2.1 w.1 0 rfl rfl 8 (by decide) (hg _ w_497) (fun _ h9 => h9) rfl dX5_evenings_129 ?_
          replace hf := ob_at hf
          obtain ⟨r7, er7, hf⟩ := hf
          refine k_goI0 w [6] rfl (va_runS (As := [.ref q_trial]) (rest := [.int v2]) ⟨hx, hb, hml, hown, hg⟩ (tX5_there l D cI cZ b0 tt q_trial r6.2 er7 H.size) (va_cwS 1 hg (gwS w_606 w_607 w_7 w_608) rfl rfl rfl qdX5_there ⟨Nat.le_of_ble_eq_true rfl, Nat.le_of_ble_eq_true rfl⟩) (k_preS w [6] (by decide) rfl) rfl rfl hl.1 rfl (lv_room (Nat.le_of_ble_eq_true rfl)) dX5_evenings_132 ⟨Nat.le_refl _, Nat.le_refl _⟩) (fun H locs w => ?_)
          replace hf := ob_at hf
          obtain ⟨r8, er8, hf⟩ := hf
          refine k_goI0 w [] rfl (va_runS (As := [.int r7]) (rest := [.int v2]) ⟨hx, hb, hml, hown, hg⟩ (tX5_many l D cI cZ b0 tt r7 er8 H.size) (va_cwS 1 hg (gwS w_653 w_654 w_7 w_655) rfl rfl rfl qdX5_many ⟨Nat.le_of_ble_eq_true rfl, Nat.le_of_ble_eq_true rfl⟩) (k_preS w [] (by decide) rfl) rfl rfl hl.1 rfl (lv_room (Nat.le_of_ble_eq_true rfl)) dX5_evenings_135 ⟨Nat.le_refl _, Nat.le_refl _⟩) (fun H locs w => ?_)
          refine lv_iadd hx hb dX5_evenings_138 ?_
          refine lv_topi (fun z9 ez9 => ?_)
          replace hf := nm_at ez9 hf
          refine lv_istore_n (lv' := [(2, .int z9), (4, .int z3), (0, .ref m_a), (1, .int v1), (3, .int v3)]) hx hb dX5_evenings_139 rfl hl (by decide) rfl (fun ls hl => ?_)
          obtain ⟨z10, ez10⟩ : ∃ y : Int32, y = (v3 + 1) := ⟨_, rfl⟩
          replace hf := nm_at ez10 hf
          refine lv_iinc (v := z10) (lv' := [(3, .int z10), (2, .int z9), (4, .int z3), (0, .ref m_a), (1, .int v1)]) hx hb dX5_evenings_140 hl (k := 4) rfl (by rw [ez10]; rfl) (by decide) rfl (fun ls hl => ?_)
          refine lv_goto (tgt := 28) hx hb dX5_evenings_143 (by decide) ?_
          exact ih z9 z10 z2 r6.2 m_loads H locs ls hf w (lv_sub hl [3, 4, 1, 0] rfl)
        · replace hf := ite_f c5 hf
          refine lv_aload_n hx hb dX5_evenings_93 rfl (lv_at hl 1 rfl) ?_
          refine lv_iload hx hb dX5_evenings_94 (lv_at hl 0 rfl) ?_
          refine lv_bipush (v := 64) hx hb dX5_evenings_96 (by decide) ?_
          refine lv_isub hx hb dX5_evenings_98 ?_
          refine lv_iconst (v := 3) hx hb dX5_evenings_99 (by decide) ?_
          refine lv_idiv hx hb dX5_evenings_100 (by decide) ?_
          refine lv_iconst (v := 2) hx hb dX5_evenings_101 (by decide) ?_
          refine lv_iload hx hb dX5_evenings_102 (lv_at hl 0 rfl) ?_
          refine lv_bipush (v := 64) hx hb dX5_evenings_104 (by decide) ?_
          refine lv_isub hx hb dX5_evenings_106 ?_
          refine lv_iconst (v := 3) hx hb dX5_evenings_107 (by decide) ?_
          refine lv_irem hx hb dX5_evenings_108 (by decide) ?_
          refine lv_iadd hx hb dX5_evenings_109 ?_
          replace hf := ob_at hf
          obtain ⟨r11, er11, hf⟩ := hf
          refine k_goI (v0 := (m_trial, m_loads)) (res := r11) w [0, 1, 2, 3, 4, 5, 6, 7, 8, 9, 10, 11, 12, 13, 14, 15, 16] rfl (fun _ => rfl) (va_runV (As := [.int ((z3 - (64 : Int32)) / (3 : Int32)), .int ((2 : Int32) + ((z3 - (64 : Int32)) - (z3 - (64 : Int32)) / (3 : Int32) * (3 : Int32)))]) (rest := []) ⟨hx, hb, hml, hown, hg⟩ (tX5_blows l D cI cZ b0 tt m_a q_text q_cards q_readCards q_readPage q_page q_trial q_loads q_book q_kept q_isKept q_heldWho q_heldForce q_heldLoad q_heldIs q_gains q_value m_thrown m_textSize m_place m_acts m_held z2 m_tentMany m_tentFirst m_restMany m_restFirst m_text m_cards m_readCards m_readPage m_page m_trial m_loads m_book m_kept m_isKept m_heldWho m_heldForce m_heldLoad m_heldIs m_gains m_value ((z3 - (64 : Int32)) / (3 : Int32)) ((2 : Int32) + ((z3 - (64 : Int32)) - (z3 - (64 : Int32)) / (3 : Int32) * (3 : Int32))) er11 H.size) (cwV 2 hg (gwV w_769 w_770 w_865 w_7 w_771) rfl rfl rfl ⟨rfl, qdX5_blows⟩ ⟨Nat.le_of_ble_eq_true rfl, Nat.le_of_ble_eq_true rfl⟩) (k_preV w [0, 1, 2, 3, 4, 5, 6, 7, 8, 9, 10, 11, 12, 13, 14, 15, 16] (by decide) rfl (q0 := 0) rfl rfl) rfl rfl hl.1 rfl (lv_room (Nat.le_of_ble_eq_true rfl)) dX5_evenings_110 ⟨Nat.le_refl _, Nat.le_refl _⟩) (fun H locs w => ?_)
          have w : Wd D cI cZ b0 tt A s [(m_a, .inr (5, [.int m_thrown, .ref q_text, .int m_textSize, .int m_place, .ref q_cards, .ref q_readCards, .ref q_readPage, .ref q_page, .ref q_trial, .ref q_loads, .ref q_book, .int m_acts, .ref q_kept, .ref q_isKept, .int m_held, .ref q_heldWho, .ref q_heldForce, .ref q_heldLoad, .ref q_heldIs, .long z2, .int m_tentMany, .int m_tentFirst, .int m_restMany, .int m_restFirst, .ref q_gains, .ref q_value])), (q_text, .inl (cI, 56, .inl m_text)), (q_cards, .inl (cI, 4, .inl m_cards)), (q_readCards, .inl (cI, 4, .inl m_readCards)), (q_readPage, .inl (cI, 17, .inl m_readPage)), (q_page, .inl (cI, 17, .inl m_page)), (q_trial, .inl (cI, 17, .inl r11.2.1)), (q_loads, .inl (cI, 16, .inl r11.2.2)), (q_book, .inl (cI, 238, .inl m_book)), (q_kept, .inl (cI, 34, .inl m_kept)), (q_isKept, .inl (cZ, 2, .inl m_isKept)), (q_heldWho, .inl (cI, 6, .inl m_heldWho)), (q_heldForce, .inl (cI, 6, .inl m_heldForce)), (q_heldLoad, .inl (cI, 6, .inl m_heldLoad)), (q_heldIs, .inl (cI, 6, .inl m_heldIs)), (q_gains, .inl (cI, 50, .inl m_gains)), (q_value, .inl (cI, 16, .inl m_value))] H locs := w
          refine lv_pop hx hb dX5_evenings_113 rfl ?_
          refine lv_goto (tgt := 127) hx hb dX5_evenings_114 (by decide) ?_
          refine lv_iload_n hx hb dX5_evenings_127 rfl (lv_at hl 3 rfl) ?_
          refine lv_aload_n hx hb dX5_evenings_128 rfl (lv_at hl 1 rfl) ?_
          refine va_get (D := D) (ci := 5) (v := .ref q_trial) (C := RX5) (T := TX5) (N := 26) hx hb hg iX5 hown w.2.2.2.2.2.2.1 w.1 0 rfl rfl 8 (by decide) (hg _ w_497) (fun _ h9 => h9) rfl dX5_evenings_129 ?_
          replace hf := ob_at hf
          obtain ⟨r12, er12, hf⟩ := hf
          refine k_goI0 w [6] rfl (va_runS (As := [.ref q_trial]) (rest := [.int v2]) ⟨hx, hb, hml, hown, hg⟩ (tX5_there l D cI cZ b0 tt q_trial r11.2.1 er12 H.size) (va_cwS 1 hg (gwS w_606 w_607 w_7 w_608) rfl rfl rfl qdX5_there ⟨Nat.le_of_ble_eq_true rfl, Nat.le_of_ble_eq_true rfl⟩) (k_preS w [6] (by decide) rfl) rfl rfl hl.1 rfl (lv_room (Nat.le_of_ble_eq_true rfl)) dX5_evenings_132 ⟨Nat.le_refl _, Nat.le_refl _⟩) (fun H locs w => ?_)
          replace hf := ob_at hf
          obtain ⟨r13, er13, hf⟩ := hf
          refine k_goI0 w [] rfl (va_runS (As := [.int r12]) (rest := [.int v2]) ⟨hx, hb, hml, hown, hg⟩ (tX5_many l D cI cZ b0 tt r12 er13 H.size) (va_cwS 1 hg (gwS w_653 w_654 w_7 w_655) rfl rfl rfl qdX5_many ⟨Nat.le_of_ble_eq_true rfl, Nat.le_of_ble_eq_true rfl⟩) (k_preS w [] (by decide) rfl) rfl rfl hl.1 rfl (lv_room (Nat.le_of_ble_eq_true rfl)) dX5_evenings_135 ⟨Nat.le_refl _, Nat.le_refl _⟩) (fun H locs w => ?_)
          refine lv_iadd hx hb dX5_evenings_138 ?_
          refine lv_topi (fun z14 ez14 => ?_)
          replace hf := nm_at ez14 hf
          refine lv_istore_n (lv' := [(2, .int z14), (4, .int z3), (0, .ref m_a), (1, .int v1), (3, .int v3)]) hx hb dX5_evenings_139 rfl hl (by decide) rfl (fun ls hl => ?_)
          obtain ⟨z15, ez15⟩ : ∃ y : Int32, y = (v3 + 1) := ⟨_, rfl⟩
          replace hf := nm_at ez15 hf
          refine lv_iinc (v := z15) (lv' := [(3, .int z15), (2, .int z14), (4, .int z3), (0, .ref m_a), (1, .int v1)]) hx hb dX5_evenings_140 hl (k := 4) rfl (by rw [ez15]; rfl) (by decide) rfl (fun ls hl => ?_)
          refine lv_goto (tgt := 28) hx hb dX5_evenings_143 (by decide) ?_
          exact ih z14 z15 z2 r11.2.1 r11.2.2 H locs ls hf w (lv_sub hl [3, 4, 1, 0] rfl)
      · replace hf := ite_f c4 hf
        refine lv_aload_n hx hb dX5_evenings_70 rfl (lv_at hl 1 rfl) ?_
        refine lv_iload hx hb dX5_evenings_71 (lv_at hl 0 rfl) ?_
        refine lv_iconst (v := 4) hx hb dX5_evenings_73 (by decide) ?_
        refine lv_idiv hx hb dX5_evenings_74 (by decide) ?_
        refine lv_iload hx hb dX5_evenings_75 (lv_at hl 0 rfl) ?_
        refine lv_iconst (v := 4) hx hb dX5_evenings_77 (by decide) ?_
        refine lv_irem hx hb dX5_evenings_78 (by decide) ?_
        replace hf := ob_at hf
        obtain ⟨r16, er16, hf⟩ := hf
        refine k_goI (v0 := (m_trial, m_loads)) (res := r16) w [0, 1, 2, 3, 4, 5, 6, 7, 8, 9, 10, 11, 12, 13, 14, 15, 16] rfl (fun _ => rfl) (va_runV (As := [.int (z3 / (4 : Int32)), .int (z3 - z3 / (4 : Int32) * (4 : Int32))]) (rest := []) ⟨hx, hb, hml, hown, hg⟩ (tX5_puts l D cI cZ b0 tt m_a q_text q_cards q_readCards q_readPage q_page q_trial q_loads q_book q_kept q_isKept q_heldWho q_heldForce q_heldLoad q_heldIs q_gains q_value m_thrown m_textSize m_place m_acts m_held z2 m_tentMany m_tentFirst m_restMany m_restFirst m_text m_cards m_readCards m_readPage m_page m_trial m_loads m_book m_kept m_isKept m_heldWho m_heldForce m_heldLoad m_heldIs m_gains m_value (z3 / (4 : Int32)) (z3 - z3 / (4 : Int32) * (4 : Int32)) er16 H.size) (cwV 2 hg (gwV w_763 w_764 w_863 w_7 w_765) rfl rfl rfl ⟨rfl, qdX5_puts⟩ ⟨Nat.le_of_ble_eq_true rfl, Nat.le_of_ble_eq_true rfl⟩) (k_preV w [0, 1, 2, 3, 4, 5, 6, 7, 8, 9, 10, 11, 12, 13, 14, 15, 16] (by decide) rfl (q0 := 0) rfl rfl) rfl rfl hl.1 rfl (lv_room (Nat.le_of_ble_eq_true rfl)) dX5_evenings_79 ⟨Nat.le_refl _, Nat.le_refl _⟩) (fun H locs w => ?_)
        have w : Wd D cI cZ b0 tt A s [(m_a, .inr (5, [.int m_thrown, .ref q_text, .int m_textSize, .int m_place, .ref q_cards, .ref q_readCards, .ref q_readPage, .ref q_page, .ref q_trial, .ref q_loads, .ref q_book, .int m_acts, .ref q_kept, .ref q_isKept, .int m_held, .ref q_heldWho, .ref q_heldForce, .ref q_heldLoad, .ref q_heldIs, .long z2, .int m_tentMany, .int m_tentFirst, .int m_restMany, .int m_restFirst, .ref q_gains, .ref q_value])), (q_text, .inl (cI, 56, .inl m_text)), (q_cards, .inl (cI, 4, .inl m_cards)), (q_readCards, .inl (cI, 4, .inl m_readCards)), (q_readPage, .inl (cI, 17, .inl m_readPage)), (q_page, .inl (cI, 17, .inl m_page)), (q_trial, .inl (cI, 17, .inl r16.2.1)), (q_loads, .inl (cI, 16, .inl r16.2.2)), (q_book, .inl (cI, 238, .inl m_book)), (q_kept, .inl (cI, 34, .inl m_kept)), (q_isKept, .inl (cZ, 2, .inl m_isKept)), (q_heldWho, .inl (cI, 6, .inl m_heldWho)), (q_heldForce, .inl (cI, 6, .inl m_heldForce)), (q_heldLoad, .inl (cI, 6, .inl m_heldLoad)), (q_heldIs, .inl (cI, 6, .inl m_heldIs)), (q_gains, .inl (cI, 50, .inl m_gains)), (q_value, .inl (cI, 16, .inl m_value))] H locs := w
        refine lv_pop hx hb dX5_evenings_82 rfl ?_
        refine lv_goto (tgt := 127) hx hb dX5_evenings_83 (by decide) ?_
        refine lv_iload_n hx hb dX5_evenings_127 rfl (lv_at hl 3 rfl) ?_
        refine lv_aload_n hx hb dX5_evenings_128 rfl (lv_at hl 1 rfl) ?_
        refine va_get (D := D) (ci := 5) (v := .ref q_trial) (C := RX5) (T := TX5) (N := 26) hx hb hg iX5 hown w.2.2.2.2.2.2.1 w.1 0 rfl rfl 8 (by decide) (hg _ w_497) (fun _ h9 => h9) rfl dX5_evenings_129 ?_
        replace hf := ob_at hf
        obtain ⟨r17, er17, hf⟩ := hf
        refine k_goI0 w [6] rfl (va_runS (As := [.ref q_trial]) (rest := [.int v2]) ⟨hx, hb, hml, hown, hg⟩ (tX5_there l D cI cZ b0 tt q_trial r16.2.1 er17 H.size) (va_cwS 1 hg (gwS w_606 w_607 w_7 w_608) rfl rfl rfl qdX5_there ⟨Nat.le_of_ble_eq_true rfl, Nat.le_of_ble_eq_true rfl⟩) (k_preS w [6] (by decide) rfl) rfl rfl hl.1 rfl (lv_room (Nat.le_of_ble_eq_true rfl)) dX5_evenings_132 ⟨Nat.le_refl _, Nat.le_refl _⟩) (fun H locs w => ?_)
        replace hf := ob_at hf
        obtain ⟨r18, er18, hf⟩ := hf
        refine k_goI0 w [] rfl (va_runS (As := [.int r17]) (rest := [.int v2]) ⟨hx, hb, hml, hown, hg⟩ (tX5_many l D cI cZ b0 tt r17 er18 H.size) (va_cwS 1 hg (gwS w_653 w_654 w_7 w_655) rfl rfl rfl qdX5_many ⟨Nat.le_of_ble_eq_true rfl, Nat.le_of_ble_eq_true rfl⟩) (k_preS w [] (by decide) rfl) rfl rfl hl.1 rfl (lv_room (Nat.le_of_ble_eq_true rfl)) dX5_evenings_135 ⟨Nat.le_refl _, Nat.le_refl _⟩) (fun H locs w => ?_)
        refine lv_iadd hx hb dX5_evenings_138 ?_
        refine lv_topi (fun z19 ez19 => ?_)
        replace hf := nm_at ez19 hf
        refine lv_istore_n (lv' := [(2, .int z19), (4, .int z3), (0, .ref m_a), (1, .int v1), (3, .int v3)]) hx hb dX5_evenings_139 rfl hl (by decide) rfl (fun ls hl => ?_)
        obtain ⟨z20, ez20⟩ : ∃ y : Int32, y = (v3 + 1) := ⟨_, rfl⟩
        replace hf := nm_at ez20 hf
        refine lv_iinc (v := z20) (lv' := [(3, .int z20), (2, .int z19), (4, .int z3), (0, .ref m_a), (1, .int v1)]) hx hb dX5_evenings_140 hl (k := 4) rfl (by rw [ez20]; rfl) (by decide) rfl (fun ls hl => ?_)
        refine lv_goto (tgt := 28) hx hb dX5_evenings_143 (by decide) ?_
        exact ih z19 z20 z2 r16.2.1 r16.2.2 H locs ls hf w (lv_sub hl [3, 4, 1, 0] rfl)
def fX5_evenings  (m_thrown : Int32) (m_seed : Int64) (m_cards : Nat → Int32) (m_page : Nat → Int32) (m_trial : Nat → Int32) (m_loads : Nat → Int32) (a1 : Int32) : Option (Int32 × Int32 × Int64 × (Nat → Int32) × (Nat → Int32)) := ob (fX5_in (Int32.toInt64 a1) 1 30) (fun r21 => (if r21 = 0 then some ((-2), (0, m_seed, m_trial, m_loads)) else ob (fX5_begin m_page m_trial) (fun r23 => fX5_evenings_L28 a1 0 m_cards m_page FU 0 0 m_seed r23 m_loads)))
set_option maxRecDepth 100000 in
set_option maxHeartbeats 4000000 in
theorem tX5_evenings (l : Launch) (D : va_G) (cI cZ : ClassId) (b0 : Nat) (tt : Nat → Nat)  (m_a q_text q_cards q_readCards q_readPage q_page q_trial q_loads q_book q_kept q_isKept q_heldWho q_heldForce q_heldLoad q_heldIs q_gains q_value : Nat) (m_thrown : Int32) (m_textSize : Int32) (m_place : Int32) (m_acts : Int32) (m_held : Int32) (m_seed : Int64) (m_tentMany : Int32) (m_tentFirst : Int32) (m_restMany : Int32) (m_restFirst : Int32) (m_text : Nat → Int32) (m_cards : Nat → Int32) (m_readCards : Nat → Int32) (m_readPage : Nat → Int32) (m_page : Nat → Int32) (m_trial : Nat → Int32) (m_loads : Nat → Int32) (m_book : Nat → Int32) (m_kept : Nat → Int32) (m_isKept : Nat → Int32) (m_heldWho : Nat → Int32) (m_heldForce : Nat → Int32) (m_heldLoad : Nat → Int32) (m_heldIs : Nat → Int32) (m_gains : Nat → Int32) (m_value : Nat → Int32) (a1 : Int32) {res : Int32 × Int32 × Int64 × (Nat → Int32) × (Nat → Int32)} (hf : fX5_evenings m_thrown m_seed m_cards m_page m_trial m_loads a1 = some res) : CtI l yX5_evenings (cwX5_evenings :: GW) 8 179 D cI cZ b0 tt [.ref m_a, .int a1] (fun u : Int32 × Int64 × (Nat → Int32) × (Nat → Int32) => [(m_a, .inr (5, [.int u.1, .ref q_text, .int m_textSize, .int m_place, .ref q_cards, .ref q_readCards, .ref q_readPage, .ref q_page, .ref q_trial, .ref q_loads, .ref q_book, .int m_acts, .ref q_kept, .ref q_isKept, .int m_held, .ref q_heldWho, .ref q_heldForce, .ref q_heldLoad, .ref q_heldIs, .long u.2.1, .int m_tentMany, .int m_tentFirst, .int m_restMany, .int m_restFirst, .ref q_gains, .ref q_value])), (q_text, .inl (cI, 56, .inl m_text)), (q_cards, .inl (cI, 4, .inl m_cards)), (q_readCards, .inl (cI, 4, .inl m_readCards)), (q_readPage, .inl (cI, 17, .inl m_readPage)), (q_page, .inl (cI, 17, .inl m_page)), (q_trial, .inl (cI, 17, .inl u.2.2.1)), (q_loads, .inl (cI, 16, .inl u.2.2.2)), (q_book, .inl (cI, 238, .inl m_book)), (q_kept, .inl (cI, 34, .inl m_kept)), (q_isKept, .inl (cZ, 2, .inl m_isKept)), (q_heldWho, .inl (cI, 6, .inl m_heldWho)), (q_heldForce, .inl (cI, 6, .inl m_heldForce)), (q_heldLoad, .inl (cI, 6, .inl m_heldLoad)), (q_heldIs, .inl (cI, 6, .inl m_heldIs)), (q_gains, .inl (cI, 50, .inl m_gains)), (q_value, .inl (cI, 16, .inl m_value))]) (m_thrown, m_seed, m_trial, m_loads) res := by
  intro sz
  refine k_begin (cc := cX5_evenings) (maxL := 5) (ret := (some .int)) (by decide) rfl (Nat.le_of_ble_eq_true rfl) ?_
  intro p e s m below meth c ls C w hl
  generalize va_A _ sz = A at w ⊢
  have w : Wd D cI cZ b0 tt A s [(m_a, .inr (5, [.int m_thrown, .ref q_text, .int m_textSize, .int m_place, .ref q_cards, .ref q_readCards, .ref q_readPage, .ref q_page, .ref q_trial, .ref q_loads, .ref q_book, .int m_acts, .ref q_kept, .ref q_isKept, .int m_held, .ref q_heldWho, .ref q_heldForce, .ref q_heldLoad, .ref q_heldIs, .long m_seed, .int m_tentMany, .int m_tentFirst, .int m_restMany, .int m_restFirst, .ref q_gains, .ref q_value])), (q_text, .inl (cI, 56, .inl m_text)), (q_cards, .inl (cI, 4, .inl m_cards)), (q_readCards, .inl (cI, 4, .inl m_readCards)), (q_readPage, .inl (cI, 17, .inl m_readPage)), (q_page, .inl (cI, 17, .inl m_page)), (q_trial, .inl (cI, 17, .inl m_trial)), (q_loads, .inl (cI, 16, .inl m_loads)), (q_book, .inl (cI, 238, .inl m_book)), (q_kept, .inl (cI, 34, .inl m_kept)), (q_isKept, .inl (cZ, 2, .inl m_isKept)), (q_heldWho, .inl (cI, 6, .inl m_heldWho)), (q_heldForce, .inl (cI, 6, .inl m_heldForce)), (q_heldLoad, .inl (cI, 6, .inl m_heldLoad)), (q_heldIs, .inl (cI, 6, .inl m_heldIs)), (q_gains, .inl (cI, 50, .inl m_gains)), (q_value, .inl (cI, 16, .inl m_value))] s.heap [] := w
  have hl : lv_has ls 5 [(0, .ref m_a), (1, .int a1)] := hl
  obtain ⟨H, eH⟩ : ∃ H, H = s.heap := ⟨_, rfl⟩
  rw [← eH] at w ⊢
  generalize ([] : List Loc) = locs at w ⊢
  generalize List.toArray _ = args at C ⊢
  obtain ⟨hx, hb, hr, hml, hown, hts, hlk⟩ := id C
  have hg : ∀ w ∈ GW, w.before args s = true := fun w h => hts w (List.mem_cons_of_mem _ h)
  unfold fX5_evenings at hf
  refine lv_aload_n hx hb dX5_evenings_0 rfl (lv_at hl 0 rfl) ?_
  refine lv_iconst (v := 0) hx hb dX5_evenings_1 (by decide) ?_
  refine k_put (ci := 5) (v := .int 0) (ty := .int) (C := RX5) (T := TX5) (N := 26) hx hb hg iX5 tyX5 tyX5_ok nmX5 hown w 0 rfl rfl 0 (by decide) (hg _ w_489) (fun _ h9 => h9) rfl pd_I rfl rfl (Nat.le_of_ble_eq_true rfl) dX5_evenings_2 (fun H locs w => ?_)
  have w : Wd D cI cZ b0 tt A s [(m_a, .inr (5, [.int 0, .ref q_text, .int m_textSize, .int m_place, .ref q_cards, .ref q_readCards, .ref q_readPage, .ref q_page, .ref q_trial, .ref q_loads, .ref q_book, .int m_acts, .ref q_kept, .ref q_isKept, .int m_held, .ref q_heldWho, .ref q_heldForce, .ref q_heldLoad, .ref q_heldIs, .long m_seed, .int m_tentMany, .int m_tentFirst, .int m_restMany, .int m_restFirst, .ref q_gains, .ref q_value])), (q_text, .inl (cI, 56, .inl m_text)), (q_cards, .inl (cI, 4, .inl m_cards)), (q_readCards, .inl (cI, 4, .inl m_readCards)), (q_readPage, .inl (cI, 17, .inl m_readPage)), (q_page, .inl (cI, 17, .inl m_page)), (q_trial, .inl (cI, 17, .inl m_trial)), (q_loads, .inl (cI, 16, .inl m_loads)), (q_book, .inl (cI, 238, .inl m_book)), (q_kept, .inl (cI, 34, .inl m_kept)), (q_isKept, .inl (cZ, 2, .inl m_isKept)), (q_heldWho, .inl (cI, 6, .inl m_heldWho)), (q_heldForce, .inl (cI, 6, .inl m_heldForce)), (q_heldLoad, .inl (cI, 6, .inl m_heldLoad)), (q_heldIs, .inl (cI, 6, .inl m_heldIs)), (q_gains, .inl (cI, 50, .inl m_gains)), (q_value, .inl (cI, 16, .inl m_value))] H locs := w
  refine lv_iload_n hx hb dX5_evenings_5 rfl (lv_at hl 1 rfl) ?_
  refine lv_i2l (v := (Int32.toInt64 a1)) hx hb dX5_evenings_6 rfl ?_
  refine lv_lconst (v := 1) hx hb dX5_evenings_7 (by decide) ?_
  refine lv_ldc2 hx hb hown (hg _ w_818) dX5_evenings_8 ?_
  replace hf := ob_at hf
  obtain ⟨r21, er21, hf⟩ := hf
  refine k_goI0 w [] rfl (va_runS (As := [.long (Int32.toInt64 a1), .long 1, .long 30]) (rest := []) ⟨hx, hb, hml, hown, hg⟩ (tX5_in l D cI cZ b0 tt (Int32.toInt64 a1) 1 30 er21 H.size) (va_cwS 3 hg (gwS w_574 w_575 w_7 w_576) rfl rfl rfl qdX5_in ⟨Nat.le_of_ble_eq_true rfl, Nat.le_of_ble_eq_true rfl⟩) (k_preS w [] (by decide) rfl) rfl rfl hl.1 rfl (lv_room (Nat.le_of_ble_eq_true rfl)) dX5_evenings_11 ⟨Nat.le_refl _, Nat.le_refl _⟩) (fun H locs w => ?_)
  refine lv_if_ne (tgt := 20) hx hb dX5_evenings_14 (by decide) (fun c22 => ?_) (fun c22 => ?_)
  · replace hf := ite_f c22 hf
    refine lv_aload_n hx hb dX5_evenings_20 rfl (lv_at hl 0 rfl) ?_
    replace hf := ob_at hf
    obtain ⟨r23, er23, hf⟩ := hf
    refine k_goV (v0 := m_trial) (res := r23) w [0, 1, 2, 3, 4, 5, 6, 7, 8, 9, 10, 11, 12, 13, 14, 15, 16] rfl (fun _ => rfl) (va_runV (As := []) (rest := []) ⟨hx, hb, hml, hown, hg⟩ (tX5_begin l D cI cZ b0 tt m_a q_text q_cards q_readCards q_readPage q_page q_trial q_loads q_book q_kept q_isKept q_heldWho q_heldForce q_heldLoad q_heldIs q_gains q_value 0 m_textSize m_place m_acts m_held m_seed m_tentMany m_tentFirst m_restMany m_restFirst m_text m_cards m_readCards m_readPage m_page m_trial m_loads m_book m_kept m_isKept m_heldWho m_heldForce m_heldLoad m_heldIs m_gains m_value er23 H.size) (cwV 0 hg (gwV w_749 w_750 w_861 w_7 w_751) rfl rfl rfl ⟨rfl, qdX5_begin⟩ ⟨Nat.le_of_ble_eq_true rfl, Nat.le_of_ble_eq_true rfl⟩) (k_preV w [0, 1, 2, 3, 4, 5, 6, 7, 8, 9, 10, 11, 12, 13, 14, 15, 16] (by decide) rfl (q0 := 0) rfl rfl) rfl rfl hl.1 rfl (lv_room (Nat.le_of_ble_eq_true rfl)) dX5_evenings_21 ⟨Nat.le_refl _, Nat.le_refl _⟩) (fun H locs w => ?_)
    have w : Wd D cI cZ b0 tt A s [(m_a, .inr (5, [.int 0, .ref q_text, .int m_textSize, .int m_place, .ref q_cards, .ref q_readCards, .ref q_readPage, .ref q_page, .ref q_trial, .ref q_loads, .ref q_book, .int m_acts, .ref q_kept, .ref q_isKept, .int m_held, .ref q_heldWho, .ref q_heldForce, .ref q_heldLoad, .ref q_heldIs, .long m_seed, .int m_tentMany, .int m_tentFirst, .int m_restMany, .int m_restFirst, .ref q_gains, .ref q_value])), (q_text, .inl (cI, 56, .inl m_text)), (q_cards, .inl (cI, 4, .inl m_cards)), (q_readCards, .inl (cI, 4, .inl m_readCards)), (q_readPage, .inl (cI, 17, .inl m_readPage)), (q_page, .inl (cI, 17, .inl m_page)), (q_trial, .inl (cI, 17, .inl r23)), (q_loads, .inl (cI, 16, .inl m_loads)), (q_book, .inl (cI, 238, .inl m_book)), (q_kept, .inl (cI, 34, .inl m_kept)), (q_isKept, .inl (cZ, 2, .inl m_isKept)), (q_heldWho, .inl (cI, 6, .inl m_heldWho)), (q_heldForce, .inl (cI, 6, .inl m_heldForce)), (q_heldLoad, .inl (cI, 6, .inl m_heldLoad)), (q_heldIs, .inl (cI, 6, .inl m_heldIs)), (q_gains, .inl (cI, 50, .inl m_gains)), (q_value, .inl (cI, 16, .inl m_value))] H locs := w
    refine lv_iconst (v := 0) hx hb dX5_evenings_24 (by decide) ?_
    refine lv_istore_n (lv' := [(2, .int 0), (0, .ref m_a), (1, .int a1)]) hx hb dX5_evenings_25 rfl hl (by decide) rfl (fun ls hl => ?_)
    refine lv_iconst (v := 0) hx hb dX5_evenings_26 (by decide) ?_
    refine lv_istore_n (lv' := [(3, .int 0), (2, .int 0), (0, .ref m_a), (1, .int a1)]) hx hb dX5_evenings_27 rfl hl (by decide) rfl (fun ls hl => ?_)
    exact tX5_evenings_L28 (v1 := a1) (m_thrown := 0) (m_cards := m_cards) (m_page := m_page) (m_textSize := m_textSize) (m_place := m_place) (m_acts := m_acts) (m_held := m_held) (m_tentMany := m_tentMany) (m_tentFirst := m_tentFirst) (m_restMany := m_restMany) (m_restFirst := m_restFirst) (m_text := m_text) (m_readCards := m_readCards) (m_readPage := m_readPage) (m_book := m_book) (m_kept := m_kept) (m_isKept := m_isKept) (m_heldWho := m_heldWho) (m_heldForce := m_heldForce) (m_heldLoad := m_heldLoad) (m_heldIs := m_heldIs) (m_gains := m_gains) (m_value := m_value) (C := C) FU 0 0 m_seed r23 m_loads H locs ls hf w (lv_sub hl [2, 3, 1, 0] rfl)
  · replace hf := ite_t c22 hf
    refine lv_bipush (v := (-2)) hx hb dX5_evenings_17 (by decide) ?_
    exact k_iret (u := (0, m_seed, m_trial, m_loads)) hx hb hr hlk w rfl hf dX5_evenings_19
-- X5_keep
def fX5_keep_L26   (v1 : Int32) (m_thrown : Int32) (m_page : Nat → Int32) (m_isKept : Nat → Int32) : Nat → Int32 → (Nat → Int32) → Option (Int32 × Int32 × (Nat → Int32) × (Nat → Int32))
  | 0, _, _ => none
  | n + 1, v2, m_kept => (if 17 ≤ v2 then ob (fX5_there m_page) (fun r2 => ob (fX5_many r2) (fun r3 => some (r3, (m_thrown, m_kept, m_isKept)))) else gd v2 17 (nm (m_page (Int32.toNatClampNeg v2)) (fun z5 => gd (((17 : Int32) * v1) + v2) 34 (nm (v2 + 1) (fun z7 => fX5_keep_L26 v1 m_thrown m_page m_isKept n z7 (upd m_kept (Int32.toNatClampNeg (((17 : Int32) * v1) + v2)) z5))))))
set_option maxRecDepth 100000 in
set_option maxHeartbeats 4000000 in
theorem tX5_keep_L26 {p : Program} {l : Launch} {e : Env} {s : State} {m : MethodId} {args : Array Value} {below : List Frame} {meth : Method} {c : Code} {D : va_G} {cI cZ : ClassId} {b0 : Nat} {tt : Nat → Nat} {A : Nat → Prop}  {m_a q_text q_cards q_readCards q_readPage q_page q_trial q_loads q_book q_kept q_isKept q_heldWho q_heldForce q_heldLoad q_heldIs q_gains q_value : Nat}  {v1 : Int32} {m_thrown : Int32} {m_page : Nat → Int32} {m_isKept : Nat → Int32} {m_textSize : Int32} {m_place : Int32} {m_acts : Int32} {m_held : Int32} {m_seed : Int64} {m_tentMany : Int32} {m_tentFirst : Int32} {m_restMany : Int32} {m_restFirst : Int32} {m_text : Nat → Int32} {m_cards : Nat → Int32} {m_readCards : Nat → Int32} {m_readPage : Nat → Int32} {m_trial : Nat → Int32} {m_loads : Nat → Int32} {m_book : Nat → Int32} {m_heldWho : Nat → Int32} {m_heldForce : Nat → Int32} {m_heldLoad : Nat → Int32} {m_heldIs : Nat → Int32} {m_gains : Nat → Int32} {m_value : Nat → Int32} {res : Int32 × Int32 × (Nat → Int32) × (Nat → Int32)} (C : Cx p s m args meth c cX5_keep 3 (some .int) (cwX5_keep :: GW) RX5) : ∀ (n : Nat) (v2 : Int32) (m_kept : Nat → Int32) (H : Heap) (locs : List Loc) (ls : Array Slot), fX5_keep_L26 v1 m_thrown m_page m_isKept n v2 m_kept = some res → Wd D cI cZ b0 tt A s [(m_a, .inr (5, [.int m_thrown, .ref q_text, .int m_textSize, .int m_place, .ref q_cards, .ref q_readCards, .ref q_readPage, .ref q_page, .ref q_trial, .ref q_loads, .ref q_book, .int m_acts, .ref q_kept, .ref q_isKept, .int m_held, .ref q_heldWho, .ref q_heldForce, .ref q_heldLoad, .ref q_heldIs, .long m_seed, .int m_tentMany, .int m_tentFirst, .int m_restMany, .int m_restFirst, .ref q_gains, .ref q_value])), (q_text, .inl (cI, 56, .inl m_text)), (q_cards, .inl (cI, 4, .inl m_cards)), (q_readCards, .inl (cI, 4, .inl m_readCards)), (q_readPage, .inl (cI, 17, .inl m_readPage)), (q_page, .inl (cI, 17, .inl m_page)), (q_trial, .inl (cI, 17, .inl m_trial)), (q_loads, .inl (cI, 16, .inl m_loads)), (q_book, .inl (cI, 238, .inl m_book)), (q_kept, .inl (cI, 34, .inl m_kept)), (q_isKept, .inl (cZ, 2, .inl m_isKept)), (q_heldWho, .inl (cI, 6, .inl m_heldWho)), (q_heldForce, .inl (cI, 6, .inl m_heldForce)), (q_heldLoad, .inl (cI, 6, .inl m_heldLoad)), (q_heldIs, .inl (cI, 6, .inl m_heldIs)), (q_gains, .inl (cI, 50, .inl m_gains)), (q_value, .inl (cI, 16, .inl m_value))] H locs → lv_has ls 3 [(0, .ref m_a), (1, .int v1), (2, .int v2)] → W p l e (rmo 1 25) s m args below meth c H locs 0 0 (MQ below (QI D (fun u : Int32 × (Nat → Int32) × (Nat → Int32) => [(m_a, .inr (5, [.int u.1, .ref q_text, .int m_textSize, .int m_place, .ref q_cards, .ref q_readCards, .ref q_readPage, .ref q_page, .ref q_trial, .ref q_loads, .ref q_book, .int m_acts, .ref q_kept, .ref q_isKept, .int m_held, .ref q_heldWho, .ref q_heldForce, .ref q_heldLoad, .ref q_heldIs, .long m_seed, .int m_tentMany, .int m_tentFirst, .int m_restMany, .int m_restFirst, .ref q_gains, .ref q_value])), (q_text, .inl (cI, 56, .inl m_text)), (q_cards, .inl (cI, 4, .inl m_cards)), (q_readCards, .inl (cI, 4, .inl m_readCards)), (q_readPage, .inl (cI, 17, .inl m_readPage)), (q_page, .inl (cI, 17, .inl m_page)), (q_trial, .inl (cI, 17, .inl m_trial)), (q_loads, .inl (cI, 16, .inl m_loads)), (q_book, .inl (cI, 238, .inl m_book)), (q_kept, .inl (cI, 34, .inl u.2.1)), (q_isKept, .inl (cZ, 2, .inl u.2.2)), (q_heldWho, .inl (cI, 6, .inl m_heldWho)), (q_heldForce, .inl (cI, 6, .inl m_heldForce)), (q_heldLoad, .inl (cI, 6, .inl m_heldLoad)), (q_heldIs, .inl (cI, 6, .inl m_heldIs)), (q_gains, .inl (cI, 50, .inl m_gains)), (q_value, .inl (cI, 16, .inl m_value))]) A res) args s 0 0 A) (F0 m 26 ls []) := by
  obtain ⟨hx, hb, hr, hml, hown, hts, hlk⟩ := id C
  have hg : ∀ w ∈ GW, w.before args s = true := fun w h => hts w (List.mem_cons_of_mem _ h)
  intro n
  induction n with
  | zero =>
    intro _ _ H locs ls hf
    rw [fX5_keep_L26] at hf
    cases hf
  | succ n ih =>
    intro v2 m_kept H locs ls hf w hl
    rw [fX5_keep_L26] at hf
    refine lv_iload_n hx hb dX5_keep_26 rfl (lv_at hl 2 rfl) ?_
    refine lv_bipush (v := 17) hx hb dX5_keep_27 (by decide) ?_
    refine lv_icmp_ge (tgt := 55) hx hb dX5_keep_29 (by decide) (fun c1 => ?_) (fun c1 => ?_)
    · replace hf := ite_t c1 hf
      refine lv_aload_n hx hb dX5_keep_55 rfl (lv_at hl 0 rfl) ?_
      refine va_get (D := D) (ci := 5) (v := .ref q_page) (C := RX5) (T := TX5) (N := 26) hx hb hg iX5 hown w.2.2.2.2.2.2.1 w.1 0 rfl rfl 7 (by decide) (hg _ w_496) (fun _ h9 => h9) rfl dX5_keep_56 ?_
      replace hf := ob_at hf
      obtain ⟨r2, er2, hf⟩ := hf
      refine k_goI0 w [5] rfl (va_runS (As := [.ref q_page]) (rest := []) ⟨hx, hb, hml, hown, hg⟩ (tX5_there l D cI cZ b0 tt q_page m_page er2 H.size) (va_cwS 1 hg (gwS w_606 w_607 w_7 w_608) rfl rfl rfl qdX5_there ⟨Nat.le_of_ble_eq_true rfl, Nat.le_of_ble_eq_true rfl⟩) (k_preS w [5] (by decide) rfl) rfl rfl hl.1 rfl (lv_room (Nat.le_of_ble_eq_true rfl)) dX5_keep_59 ⟨Nat.le_refl _, Nat.le_refl _⟩) (fun H locs w => ?_)
      replace hf := ob_at hf
      obtain ⟨r3, er3, hf⟩ := hf
      refine k_goI0 w [] rfl (va_runS (As := [.int r2]) (rest := []) ⟨hx, hb, hml, hown, hg⟩ (tX5_many l D cI cZ b0 tt r2 er3 H.size) (va_cwS 1 hg (gwS w_653 w_654 w_7 w_655) rfl rfl rfl qdX5_many ⟨Nat.le_of_ble_eq_true rfl, Nat.le_of_ble_eq_true rfl⟩) (k_preS w [] (by decide) rfl) rfl rfl hl.1 rfl (lv_room (Nat.le_of_ble_eq_true rfl)) dX5_keep_62 ⟨Nat.le_refl _, Nat.le_refl _⟩) (fun H locs w => ?_)
      exact k_iret (u := (m_thrown, m_kept, m_isKept)) hx hb hr hlk w rfl hf dX5_keep_65
    · replace hf := ite_f c1 hf
      refine lv_aload_n hx hb dX5_keep_32 rfl (lv_at hl 0 rfl) ?_
      refine va_get (D := D) (ci := 5) (v := .ref q_kept) (C := RX5) (T := TX5) (N := 26) hx hb hg iX5 hown w.2.2.2.2.2.2.1 w.1 0 rfl rfl 12 (by decide) (hg _ w_501) (fun _ h9 => h9) rfl dX5_keep_33 ?_
      refine lv_bipush (v := 17) hx hb dX5_keep_36 (by decide) ?_
      refine lv_iload_n hx hb dX5_keep_38 rfl (lv_at hl 1 rfl) ?_
      refine lv_imul hx hb dX5_keep_39 ?_
      refine lv_iload_n hx hb dX5_keep_40 rfl (lv_at hl 2 rfl) ?_
      refine lv_iadd hx hb dX5_keep_41 ?_
      refine lv_aload_n hx hb dX5_keep_42 rfl (lv_at hl 0 rfl) ?_
      refine va_get (D := D) (ci := 5) (v := .ref q_page) (C := RX5) (T := TX5) (N := 26) hx hb hg iX5 hown w.2.2.2.2.2.2.1 w.1 0 rfl rfl 7 (by decide) (hg _ w_496) (fun _ h9 => h9) rfl dX5_keep_43 ?_
      refine lv_iload_n hx hb dX5_keep_46 rfl (lv_at hl 2 rfl) ?_
      replace hf := gd_at hf
      obtain ⟨hi4, hf⟩ := hf
      refine va_iald hx hb w.2.2.2.2.2.2.1 w.1 5 0 rfl rfl hi4 dX5_keep_47 ?_
      refine lv_topi (fun z5 ez5 => ?_)
      replace hf := nm_at ez5 hf
      replace hf := gd_at hf
      obtain ⟨hi6, hf⟩ := hf
      refine k_iast hx hb w 9 rfl hi6 dX5_keep_48 (fun H locs w => ?_)
      have w : Wd D cI cZ b0 tt A s [(m_a, .inr (5, [.int m_thrown, .ref q_text, .int m_textSize, .int m_place, .ref q_cards, .ref q_readCards, .ref q_readPage, .ref q_page, .ref q_trial, .ref q_loads, .ref q_book, .int m_acts, .ref q_kept, .ref q_isKept, .int m_held, .ref q_heldWho, .ref q_heldForce, .ref q_heldLoad, .ref q_heldIs, .long m_seed, .int m_tentMany, .int m_tentFirst, .int m_restMany, .int m_restFirst, .ref q_gains, .ref q_value])), (q_text, .inl (cI, 56, .inl m_text)), (q_cards, .inl (cI, 4, .inl m_cards)), (q_readCards, .inl (cI, 4, .inl m_readCards)), (q_readPage, .inl (cI, 17, .inl m_readPage)), (q_page, .inl (cI, 17, .inl m_page)), (q_trial, .inl (cI, 17, .inl m_trial)), (q_loads, .inl (cI, 16, .inl m_loads)), (q_book, .inl (cI, 238, .inl m_book)), (q_kept, .inl (cI, 34, .inl (upd m_kept (Int32.toNatClampNeg (((17 : Int32) * v1) + v2)) z5))), (q_isKept, .inl (cZ, 2, .inl m_isKept)), (q_heldWho, .inl (cI, 6, .inl m_heldWho)), (q_heldForce, .inl (cI, 6, .inl m_heldForce)), (q_heldLoad, .inl (cI, 6, .inl m_heldLoad)), (q_heldIs, .inl (cI, 6, .inl m_heldIs)), (q_gains, .inl (cI, 50, .inl m_gains)), (q_value, .inl (cI, 16, .inl m_value))] H locs := w
      obtain ⟨z7, ez7⟩ : ∃ y : Int32, y = (v2 + 1) := ⟨_, rfl⟩
      replace hf := nm_at ez7 hf
      refine lv_iinc (v := z7) (lv' := [(2, .int z7), (0, .ref m_a), (1, .int v1)]) hx hb dX5_keep_49 hl (k := 2) rfl (by rw [ez7]; rfl) (by decide) rfl (fun ls hl => ?_)
      refine lv_goto (tgt := 26) hx hb dX5_keep_52 (by decide) ?_
      exact ih z7 (upd m_kept (Int32.toNatClampNeg (((17 : Int32) * v1) + v2)) z5) H locs ls hf w (lv_sub hl [1, 2, 0] rfl)
def fX5_keep  (m_thrown : Int32) (m_page : Nat → Int32) (m_kept : Nat → Int32) (m_isKept : Nat → Int32) (a1 : Int32) : Option (Int32 × Int32 × (Nat → Int32) × (Nat → Int32)) := ob (fX5_in (Int32.toInt64 a1) 0 1) (fun r8 => (if r8 = 0 then some ((-1), (0, m_kept, m_isKept)) else gd a1 2 (fX5_keep_L26 a1 0 m_page (upd m_isKept (Int32.toNatClampNeg a1) (vp_nar .boolean 1)) FU 0 m_kept)))
set_option maxRecDepth 100000 in
set_option maxHeartbeats 4000000 in
theorem tX5_keep (l : Launch) (D : va_G) (cI cZ : ClassId) (b0 : Nat) (tt : Nat → Nat)  (m_a q_text q_cards q_readCards q_readPage q_page q_trial q_loads q_book q_kept q_isKept q_heldWho q_heldForce q_heldLoad q_heldIs q_gains q_value : Nat) (m_thrown : Int32) (m_textSize : Int32) (m_place : Int32) (m_acts : Int32) (m_held : Int32) (m_seed : Int64) (m_tentMany : Int32) (m_tentFirst : Int32) (m_restMany : Int32) (m_restFirst : Int32) (m_text : Nat → Int32) (m_cards : Nat → Int32) (m_readCards : Nat → Int32) (m_readPage : Nat → Int32) (m_page : Nat → Int32) (m_trial : Nat → Int32) (m_loads : Nat → Int32) (m_book : Nat → Int32) (m_kept : Nat → Int32) (m_isKept : Nat → Int32) (m_heldWho : Nat → Int32) (m_heldForce : Nat → Int32) (m_heldLoad : Nat → Int32) (m_heldIs : Nat → Int32) (m_gains : Nat → Int32) (m_value : Nat → Int32) (a1 : Int32) {res : Int32 × Int32 × (Nat → Int32) × (Nat → Int32)} (hf : fX5_keep m_thrown m_page m_kept m_isKept a1 = some res) : CtI l yX5_keep (cwX5_keep :: GW) 1 25 D cI cZ b0 tt [.ref m_a, .int a1] (fun u : Int32 × (Nat → Int32) × (Nat → Int32) => [(m_a, .inr (5, [.int u.1, .ref q_text, .int m_textSize, .int m_place, .ref q_cards, .ref q_readCards, .ref q_readPage, .ref q_page, .ref q_trial, .ref q_loads, .ref q_book, .int m_acts, .ref q_kept, .ref q_isKept, .int m_held, .ref q_heldWho, .ref q_heldForce, .ref q_heldLoad, .ref q_heldIs, .long m_seed, .int m_tentMany, .int m_tentFirst, .int m_restMany, .int m_restFirst, .ref q_gains, .ref q_value])), (q_text, .inl (cI, 56, .inl m_text)), (q_cards, .inl (cI, 4, .inl m_cards)), (q_readCards, .inl (cI, 4, .inl m_readCards)), (q_readPage, .inl (cI, 17, .inl m_readPage)), (q_page, .inl (cI, 17, .inl m_page)), (q_trial, .inl (cI, 17, .inl m_trial)), (q_loads, .inl (cI, 16, .inl m_loads)), (q_book, .inl (cI, 238, .inl m_book)), (q_kept, .inl (cI, 34, .inl u.2.1)), (q_isKept, .inl (cZ, 2, .inl u.2.2)), (q_heldWho, .inl (cI, 6, .inl m_heldWho)), (q_heldForce, .inl (cI, 6, .inl m_heldForce)), (q_heldLoad, .inl (cI, 6, .inl m_heldLoad)), (q_heldIs, .inl (cI, 6, .inl m_heldIs)), (q_gains, .inl (cI, 50, .inl m_gains)), (q_value, .inl (cI, 16, .inl m_value))]) (m_thrown, m_kept, m_isKept) res := by
  intro sz
  refine k_begin (cc := cX5_keep) (maxL := 3) (ret := (some .int)) (by decide) rfl (Nat.le_of_ble_eq_true rfl) ?_
  intro p e s m below meth c ls C w hl
  generalize va_A _ sz = A at w ⊢
  have w : Wd D cI cZ b0 tt A s [(m_a, .inr (5, [.int m_thrown, .ref q_text, .int m_textSize, .int m_place, .ref q_cards, .ref q_readCards, .ref q_readPage, .ref q_page, .ref q_trial, .ref q_loads, .ref q_book, .int m_acts, .ref q_kept, .ref q_isKept, .int m_held, .ref q_heldWho, .ref q_heldForce, .ref q_heldLoad, .ref q_heldIs, .long m_seed, .int m_tentMany, .int m_tentFirst, .int m_restMany, .int m_restFirst, .ref q_gains, .ref q_value])), (q_text, .inl (cI, 56, .inl m_text)), (q_cards, .inl (cI, 4, .inl m_cards)), (q_readCards, .inl (cI, 4, .inl m_readCards)), (q_readPage, .inl (cI, 17, .inl m_readPage)), (q_page, .inl (cI, 17, .inl m_page)), (q_trial, .inl (cI, 17, .inl m_trial)), (q_loads, .inl (cI, 16, .inl m_loads)), (q_book, .inl (cI, 238, .inl m_book)), (q_kept, .inl (cI, 34, .inl m_kept)), (q_isKept, .inl (cZ, 2, .inl m_isKept)), (q_heldWho, .inl (cI, 6, .inl m_heldWho)), (q_heldForce, .inl (cI, 6, .inl m_heldForce)), (q_heldLoad, .inl (cI, 6, .inl m_heldLoad)), (q_heldIs, .inl (cI, 6, .inl m_heldIs)), (q_gains, .inl (cI, 50, .inl m_gains)), (q_value, .inl (cI, 16, .inl m_value))] s.heap [] := w
  have hl : lv_has ls 3 [(0, .ref m_a), (1, .int a1)] := hl
  obtain ⟨H, eH⟩ : ∃ H, H = s.heap := ⟨_, rfl⟩
  rw [← eH] at w ⊢
  generalize ([] : List Loc) = locs at w ⊢
  generalize List.toArray _ = args at C ⊢
  obtain ⟨hx, hb, hr, hml, hown, hts, hlk⟩ := id C
  have hg : ∀ w ∈ GW, w.before args s = true := fun w h => hts w (List.mem_cons_of_mem _ h)
  unfold fX5_keep at hf
  refine lv_aload_n hx hb dX5_keep_0 rfl (lv_at hl 0 rfl) ?_
  refine lv_iconst (v := 0) hx hb dX5_keep_1 (by decide) ?_
  refine k_put (ci := 5) (v := .int 0) (ty := .int) (C := RX5) (T := TX5) (N := 26) hx hb hg iX5 tyX5 tyX5_ok nmX5 hown w 0 rfl rfl 0 (by decide) (hg _ w_489) (fun _ h9 => h9) rfl pd_I rfl rfl (Nat.le_of_ble_eq_true rfl) dX5_keep_2 (fun H locs w => ?_)
  have w : Wd D cI cZ b0 tt A s [(m_a, .inr (5, [.int 0, .ref q_text, .int m_textSize, .int m_place, .ref q_cards, .ref q_readCards, .ref q_readPage, .ref q_page, .ref q_trial, .ref q_loads, .ref q_book, .int m_acts, .ref q_kept, .ref q_isKept, .int m_held, .ref q_heldWho, .ref q_heldForce, .ref q_heldLoad, .ref q_heldIs, .long m_seed, .int m_tentMany, .int m_tentFirst, .int m_restMany, .int m_restFirst, .ref q_gains, .ref q_value])), (q_text, .inl (cI, 56, .inl m_text)), (q_cards, .inl (cI, 4, .inl m_cards)), (q_readCards, .inl (cI, 4, .inl m_readCards)), (q_readPage, .inl (cI, 17, .inl m_readPage)), (q_page, .inl (cI, 17, .inl m_page)), (q_trial, .inl (cI, 17, .inl m_trial)), (q_loads, .inl (cI, 16, .inl m_loads)), (q_book, .inl (cI, 238, .inl m_book)), (q_kept, .inl (cI, 34, .inl m_kept)), (q_isKept, .inl (cZ, 2, .inl m_isKept)), (q_heldWho, .inl (cI, 6, .inl m_heldWho)), (q_heldForce, .inl (cI, 6, .inl m_heldForce)), (q_heldLoad, .inl (cI, 6, .inl m_heldLoad)), (q_heldIs, .inl (cI, 6, .inl m_heldIs)), (q_gains, .inl (cI, 50, .inl m_gains)), (q_value, .inl (cI, 16, .inl m_value))] H locs := w
  refine lv_iload_n hx hb dX5_keep_5 rfl (lv_at hl 1 rfl) ?_
  refine lv_i2l (v := (Int32.toInt64 a1)) hx hb dX5_keep_6 rfl ?_
  refine lv_lconst (v := 0) hx hb dX5_keep_7 (by decide) ?_
  refine lv_lconst (v := 1) hx hb dX5_keep_8 (by decide) ?_
  replace hf := ob_at hf
  obtain ⟨r8, er8, hf⟩ := hf
  refine k_goI0 w [] rfl (va_runS (As := [.long (Int32.toInt64 a1), .long 0, .long 1]) (rest := []) ⟨hx, hb, hml, hown, hg⟩ (tX5_in l D cI cZ b0 tt (Int32.toInt64 a1) 0 1 er8 H.size) (va_cwS 3 hg (gwS w_574 w_575 w_7 w_576) rfl rfl rfl qdX5_in ⟨Nat.le_of_ble_eq_true rfl, Nat.le_of_ble_eq_true rfl⟩) (k_preS w [] (by decide) rfl) rfl rfl hl.1 rfl (lv_room (Nat.le_of_ble_eq_true rfl)) dX5_keep_9 ⟨Nat.le_refl _, Nat.le_refl _⟩) (fun H locs w => ?_)
  refine lv_if_ne (tgt := 17) hx hb dX5_keep_12 (by decide) (fun c9 => ?_) (fun c9 => ?_)
  · replace hf := ite_f c9 hf
    refine lv_aload_n hx hb dX5_keep_17 rfl (lv_at hl 0 rfl) ?_
    refine va_get (D := D) (ci := 5) (v := .ref q_isKept) (C := RX5) (T := TX5) (N := 26) hx hb hg iX5 hown w.2.2.2.2.2.2.1 w.1 0 rfl rfl 13 (by decide) (hg _ w_502) (fun _ h9 => h9) rfl dX5_keep_18 ?_
    refine lv_iload_n hx hb dX5_keep_21 rfl (lv_at hl 1 rfl) ?_
    refine lv_iconst (v := 1) hx hb dX5_keep_22 (by decide) ?_
    replace hf := gd_at hf
    obtain ⟨hi10, hf⟩ := hf
    refine k_zast hx hb w 10 rfl hi10 dX5_keep_23 (fun H locs w => ?_)
    have w : Wd D cI cZ b0 tt A s [(m_a, .inr (5, [.int 0, .ref q_text, .int m_textSize, .int m_place, .ref q_cards, .ref q_readCards, .ref q_readPage, .ref q_page, .ref q_trial, .ref q_loads, .ref q_book, .int m_acts, .ref q_kept, .ref q_isKept, .int m_held, .ref q_heldWho, .ref q_heldForce, .ref q_heldLoad, .ref q_heldIs, .long m_seed, .int m_tentMany, .int m_tentFirst, .int m_restMany, .int m_restFirst, .ref q_gains, .ref q_value])), (q_text, .inl (cI, 56, .inl m_text)), (q_cards, .inl (cI, 4, .inl m_cards)), (q_readCards, .inl (cI, 4, .inl m_readCards)), (q_readPage, .inl (cI, 17, .inl m_readPage)), (q_page, .inl (cI, 17, .inl m_page)), (q_trial, .inl (cI, 17, .inl m_trial)), (q_loads, .inl (cI, 16, .inl m_loads)), (q_book, .inl (cI, 238, .inl m_book)), (q_kept, .inl (cI, 34, .inl m_kept)), (q_isKept, .inl (cZ, 2, .inl (upd m_isKept (Int32.toNatClampNeg a1) (vp_nar .boolean 1)))), (q_heldWho, .inl (cI, 6, .inl m_heldWho)), (q_heldForce, .inl (cI, 6, .inl m_heldForce)), (q_heldLoad, .inl (cI, 6, .inl m_heldLoad)), (q_heldIs, .inl (cI, 6, .inl m_heldIs)), (q_gains, .inl (cI, 50, .inl m_gains)), (q_value, .inl (cI, 16, .inl m_value))] H locs := w
    refine lv_iconst (v := 0) hx hb dX5_keep_24 (by decide) ?_
    refine lv_istore_n (lv' := [(2, .int 0), (0, .ref m_a), (1, .int a1)]) hx hb dX5_keep_25 rfl hl (by decide) rfl (fun ls hl => ?_)
    exact tX5_keep_L26 (v1 := a1) (m_thrown := 0) (m_page := m_page) (m_isKept := (upd m_isKept (Int32.toNatClampNeg a1) (vp_nar .boolean 1))) (m_textSize := m_textSize) (m_place := m_place) (m_acts := m_acts) (m_held := m_held) (m_seed := m_seed) (m_tentMany := m_tentMany) (m_tentFirst := m_tentFirst) (m_restMany := m_restMany) (m_restFirst := m_restFirst) (m_text := m_text) (m_cards := m_cards) (m_readCards := m_readCards) (m_readPage := m_readPage) (m_trial := m_trial) (m_loads := m_loads) (m_book := m_book) (m_heldWho := m_heldWho) (m_heldForce := m_heldForce) (m_heldLoad := m_heldLoad) (m_heldIs := m_heldIs) (m_gains := m_gains) (m_value := m_value) (C := C) FU 0 m_kept H locs ls hf w (lv_sub hl [1, 2, 0] rfl)
  · replace hf := ite_t c9 hf
    refine lv_iconst (v := (-1)) hx hb dX5_keep_15 (by decide) ?_
    exact k_iret (u := (0, m_kept, m_isKept)) hx hb hr hlk w rfl hf dX5_keep_16
