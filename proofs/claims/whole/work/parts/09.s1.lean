/-! What the entry gives (by mk_start.py). -/
theorem lt_t1 {w : Cond} (i : Nat) (h : tables_1_1[i]? = some w) : w ∈ lw_tbl := List.mem_append_right _ (by have h := List.mem_of_getElem? h; exact List.mem_append_left _ h)
theorem lt_t2 {w : Cond} (i : Nat) (h : tables_1_2[i]? = some w) : w ∈ lw_tbl := List.mem_append_right _ (by have h := List.mem_of_getElem? h; exact List.mem_append_right _ (List.mem_append_left _ h))
theorem lt_t3 {w : Cond} (i : Nat) (h : tables_1_3[i]? = some w) : w ∈ lw_tbl := List.mem_append_right _ (by have h := List.mem_of_getElem? h; exact List.mem_append_right _ (List.mem_append_right _ (List.mem_append_left _ h)))
theorem lt_t4 {w : Cond} (i : Nat) (h : tables_1_4[i]? = some w) : w ∈ lw_tbl := List.mem_append_right _ (by have h := List.mem_of_getElem? h; exact List.mem_append_right _ (List.mem_append_right _ (List.mem_append_right _ h)))
set_option maxRecDepth 20000 in
theorem en_nest {s : State} {b : Nat} (hts : ∀ w ∈ lw_tbl, w.before #[Value.ref b] s = true) : NEST s := by
  constructor
  · intro q hq
    simp only [nsF, List.mem_cons, List.not_mem_nil, or_false] at hq
    rcases hq with rfl | rfl | rfl | rfl | rfl | rfl | rfl | rfl | rfl | rfl | rfl | rfl | rfl
    · exact va_Nw.of rfl (hts _ (lt_t1 25 rfl))
    · exact va_Nw.of rfl (hts _ (lt_t1 45 rfl))
    · exact va_Nw.of rfl (hts _ (lt_t1 40 rfl))
    · exact va_Nw.of rfl (hts _ (lt_t2 111 rfl))
    · exact va_Nw.of rfl (hts _ (lt_t1 239 rfl))
    · exact va_Nw.of rfl (hts _ (lt_t1 235 rfl))
    · exact va_Nw.of rfl (hts _ (lt_t1 237 rfl))
    · exact va_Nw.of rfl (hts _ (lt_t2 36 rfl))
    · exact va_Nw.of rfl (hts _ (lt_t1 201 rfl))
    · exact va_Nw.of rfl (hts _ (lt_t1 39 rfl))
    · exact va_Nw.of rfl (hts _ (lt_t1 42 rfl))
    · exact va_Nw.of rfl (hts _ (lt_t1 44 rfl))
    · exact va_Nw.of rfl (hts _ (lt_t1 47 rfl))
  · intro q hq
    simp only [nsM, List.mem_cons, List.not_mem_nil, or_false] at hq
    rcases hq with rfl | rfl | rfl | rfl | rfl | rfl | rfl | rfl | rfl | rfl | rfl | rfl
    · exact va_Nw.of rfl (hts _ (lt_t1 19 rfl))
    · exact va_Nw.of rfl (hts _ (lt_t1 34 rfl))
    · exact va_Nw.of rfl (hts _ (lt_t1 84 rfl))
    · exact va_Nw.of rfl (hts _ (lt_t2 110 rfl))
    · exact va_Nw.of rfl (hts _ (lt_t2 187 rfl))
    · exact va_Nw.of rfl (hts _ (lt_t1 186 rfl))
    · exact va_Nw.of rfl (hts _ (lt_t1 232 rfl))
    · exact va_Nw.of rfl (hts _ (lt_t1 177 rfl))
    · exact va_Nw.of rfl (hts _ (lt_t1 198 rfl))
    · exact va_Nw.of rfl (hts _ (lt_t2 113 rfl))
    · exact va_Nw.of rfl (hts _ (lt_t1 163 rfl))
    · exact va_Nw.of rfl (hts _ (lt_t1 203 rfl))
set_option maxRecDepth 20000 in
set_option maxHeartbeats 4000000 in
theorem en_sUN {s : State} {b : Nat} (hts : ∀ w ∈ lw_tbl, w.before #[Value.ref b] s = true) (hgv : (Jvm.Cond.and given_1 narrow_1).before #[Value.ref b] s = true) : ∃ t, ST1 s.heap.size s s.heap "UNDER" "[I" .int t 16 (fun j => .int (sUN j)) := by
  have hs := flat_of_before _ hgv
  have hA : ∀ a : Nat, a < s.heap.size → ¬ (fun q : Nat => s.heap.size ≤ q) a := fun a h => Nat.not_le.mpr h
  have hl : (Cond.arrayOf (.static "CardHouse" "UNDER" "[I") .int).before #[Value.ref b] s = true := hs _ (by decide +kernel)
  have hn : (Cond.eq (.length (.static "CardHouse" "UNDER" "[I")) (.int 16)).before #[Value.ref b] s = true := hs _ (by decide +kernel)
  have hel : ∀ j : Nat, j < 16 → (Term.elem (.static "CardHouse" "UNDER" "[I") (.int (Int32.ofNat j))).eval #[Value.ref b] s none [] s = some (.int (sUN j)) := by
    intro j hj
    rcases (show j = 0 ∨ j = 1 ∨ j = 2 ∨ j = 3 ∨ j = 4 ∨ j = 5 ∨ j = 6 ∨ j = 7 ∨ j = 8 ∨ j = 9 ∨ j = 10 ∨ j = 11 ∨ j = 12 ∨ j = 13 ∨ j = 14 ∨ j = 15 by omega) with rfl | rfl | rfl | rfl | rfl | rfl | rfl | rfl | rfl | rfl | rfl | rfl | rfl | rfl | rfl | rfl
    · exact va_eqt (z := sUN 0) (hs (Cond.eq (.elem (.static "CardHouse" "UNDER" "[I") (.int 0)) (.int (sUN 0))) (by decide +kernel))
    · exact va_eqt (z := sUN 1) (hs (Cond.eq (.elem (.static "CardHouse" "UNDER" "[I") (.int 1)) (.int (sUN 1))) (by decide +kernel))
    · exact va_eqt (z := sUN 2) (hs (Cond.eq (.elem (.static "CardHouse" "UNDER" "[I") (.int 2)) (.int (sUN 2))) (by decide +kernel))
    · exact va_eqt (z := sUN 3) (hs (Cond.eq (.elem (.static "CardHouse" "UNDER" "[I") (.int 3)) (.int (sUN 3))) (by decide +kernel))
    · exact va_eqt (z := sUN 4) (hs (Cond.eq (.elem (.static "CardHouse" "UNDER" "[I") (.int 4)) (.int (sUN 4))) (by decide +kernel))
    · exact va_eqt (z := sUN 5) (hs (Cond.eq (.elem (.static "CardHouse" "UNDER" "[I") (.int 5)) (.int (sUN 5))) (by decide +kernel))
    · exact va_eqt (z := sUN 6) (hs (Cond.eq (.elem (.static "CardHouse" "UNDER" "[I") (.int 6)) (.int (sUN 6))) (by decide +kernel))
    · exact va_eqt (z := sUN 7) (hs (Cond.eq (.elem (.static "CardHouse" "UNDER" "[I") (.int 7)) (.int (sUN 7))) (by decide +kernel))
    · exact va_eqt (z := sUN 8) (hs (Cond.eq (.elem (.static "CardHouse" "UNDER" "[I") (.int 8)) (.int (sUN 8))) (by decide +kernel))
    · exact va_eqt (z := sUN 9) (hs (Cond.eq (.elem (.static "CardHouse" "UNDER" "[I") (.int 9)) (.int (sUN 9))) (by decide +kernel))
    · exact va_eqt (z := sUN 10) (hs (Cond.eq (.elem (.static "CardHouse" "UNDER" "[I") (.int 10)) (.int (sUN 10))) (by decide +kernel))
    · exact va_eqt (z := sUN 11) (hs (Cond.eq (.elem (.static "CardHouse" "UNDER" "[I") (.int 11)) (.int (sUN 11))) (by decide +kernel))
    · exact va_eqt (z := sUN 12) (hs (Cond.eq (.elem (.static "CardHouse" "UNDER" "[I") (.int 12)) (.int (sUN 12))) (by decide +kernel))
    · exact va_eqt (z := sUN 13) (hs (Cond.eq (.elem (.static "CardHouse" "UNDER" "[I") (.int 13)) (.int (sUN 13))) (by decide +kernel))
    · exact va_eqt (z := sUN 14) (hs (Cond.eq (.elem (.static "CardHouse" "UNDER" "[I") (.int 14)) (.int (sUN 14))) (by decide +kernel))
    · exact va_eqt (z := sUN 15) (hs (Cond.eq (.elem (.static "CardHouse" "UNDER" "[I") (.int 15)) (.int (sUN 15))) (by decide +kernel))
  obtain ⟨t, ht, hT⟩ := va_Tof (N := 16) (f := fun j => .int (sUN j)) (Nat.le_of_ble_eq_true rfl) hl (va_eqt hn) hel hA
  exact ⟨t, va_Zref (hts _ (lt_t1 202 rfl)) (hts _ (lt_t1 1 rfl)) ht hA, hT⟩
set_option maxRecDepth 20000 in
set_option maxHeartbeats 4000000 in
theorem en_sLU {s : State} {b : Nat} (hts : ∀ w ∈ lw_tbl, w.before #[Value.ref b] s = true) (hgv : (Jvm.Cond.and given_1 narrow_1).before #[Value.ref b] s = true) : ∃ t, ST1 s.heap.size s s.heap "LEFT_UNDER" "[I" .int t 16 (fun j => .int (sLU j)) := by
  have hs := flat_of_before _ hgv
  have hA : ∀ a : Nat, a < s.heap.size → ¬ (fun q : Nat => s.heap.size ≤ q) a := fun a h => Nat.not_le.mpr h
  have hl : (Cond.arrayOf (.static "CardHouse" "LEFT_UNDER" "[I") .int).before #[Value.ref b] s = true := hs _ (by decide +kernel)
  have hn : (Cond.eq (.length (.static "CardHouse" "LEFT_UNDER" "[I")) (.int 16)).before #[Value.ref b] s = true := hs _ (by decide +kernel)
  have hel : ∀ j : Nat, j < 16 → (Term.elem (.static "CardHouse" "LEFT_UNDER" "[I") (.int (Int32.ofNat j))).eval #[Value.ref b] s none [] s = some (.int (sLU j)) := by
    intro j hj
    rcases (show j = 0 ∨ j = 1 ∨ j = 2 ∨ j = 3 ∨ j = 4 ∨ j = 5 ∨ j = 6 ∨ j = 7 ∨ j = 8 ∨ j = 9 ∨ j = 10 ∨ j = 11 ∨ j = 12 ∨ j = 13 ∨ j = 14 ∨ j = 15 by omega) with rfl | rfl | rfl | rfl | rfl | rfl | rfl | rfl | rfl | rfl | rfl | rfl | rfl | rfl | rfl | rfl
    · exact va_eqt (z := sLU 0) (hs (Cond.eq (.elem (.static "CardHouse" "LEFT_UNDER" "[I") (.int 0)) (.int (sLU 0))) (by decide +kernel))
    · exact va_eqt (z := sLU 1) (hs (Cond.eq (.elem (.static "CardHouse" "LEFT_UNDER" "[I") (.int 1)) (.int (sLU 1))) (by decide +kernel))
    · exact va_eqt (z := sLU 2) (hs (Cond.eq (.elem (.static "CardHouse" "LEFT_UNDER" "[I") (.int 2)) (.int (sLU 2))) (by decide +kernel))
    · exact va_eqt (z := sLU 3) (hs (Cond.eq (.elem (.static "CardHouse" "LEFT_UNDER" "[I") (.int 3)) (.int (sLU 3))) (by decide +kernel))
    · exact va_eqt (z := sLU 4) (hs (Cond.eq (.elem (.static "CardHouse" "LEFT_UNDER" "[I") (.int 4)) (.int (sLU 4))) (by decide +kernel))
    · exact va_eqt (z := sLU 5) (hs (Cond.eq (.elem (.static "CardHouse" "LEFT_UNDER" "[I") (.int 5)) (.int (sLU 5))) (by decide +kernel))
    · exact va_eqt (z := sLU 6) (hs (Cond.eq (.elem (.static "CardHouse" "LEFT_UNDER" "[I") (.int 6)) (.int (sLU 6))) (by decide +kernel))
    · exact va_eqt (z := sLU 7) (hs (Cond.eq (.elem (.static "CardHouse" "LEFT_UNDER" "[I") (.int 7)) (.int (sLU 7))) (by decide +kernel))
    · exact va_eqt (z := sLU 8) (hs (Cond.eq (.elem (.static "CardHouse" "LEFT_UNDER" "[I") (.int 8)) (.int (sLU 8))) (by decide +kernel))
    · exact va_eqt (z := sLU 9) (hs (Cond.eq (.elem (.static "CardHouse" "LEFT_UNDER" "[I") (.int 9)) (.int (sLU 9))) (by decide +kernel))
    · exact va_eqt (z := sLU 10) (hs (Cond.eq (.elem (.static "CardHouse" "LEFT_UNDER" "[I") (.int 10)) (.int (sLU 10))) (by decide +kernel))
    · exact va_eqt (z := sLU 11) (hs (Cond.eq (.elem (.static "CardHouse" "LEFT_UNDER" "[I") (.int 11)) (.int (sLU 11))) (by decide +kernel))
    · exact va_eqt (z := sLU 12) (hs (Cond.eq (.elem (.static "CardHouse" "LEFT_UNDER" "[I") (.int 12)) (.int (sLU 12))) (by decide +kernel))
    · exact va_eqt (z := sLU 13) (hs (Cond.eq (.elem (.static "CardHouse" "LEFT_UNDER" "[I") (.int 13)) (.int (sLU 13))) (by decide +kernel))
    · exact va_eqt (z := sLU 14) (hs (Cond.eq (.elem (.static "CardHouse" "LEFT_UNDER" "[I") (.int 14)) (.int (sLU 14))) (by decide +kernel))
    · exact va_eqt (z := sLU 15) (hs (Cond.eq (.elem (.static "CardHouse" "LEFT_UNDER" "[I") (.int 15)) (.int (sLU 15))) (by decide +kernel))
  obtain ⟨t, ht, hT⟩ := va_Tof (N := 16) (f := fun j => .int (sLU j)) (Nat.le_of_ble_eq_true rfl) hl (va_eqt hn) hel hA
  exact ⟨t, va_Zref (hts _ (lt_t1 236 rfl)) (hts _ (lt_t1 1 rfl)) ht hA, hT⟩
set_option maxRecDepth 20000 in
set_option maxHeartbeats 4000000 in
theorem en_sRU {s : State} {b : Nat} (hts : ∀ w ∈ lw_tbl, w.before #[Value.ref b] s = true) (hgv : (Jvm.Cond.and given_1 narrow_1).before #[Value.ref b] s = true) : ∃ t, ST1 s.heap.size s s.heap "RIGHT_UNDER" "[I" .int t 16 (fun j => .int (sRU j)) := by
  have hs := flat_of_before _ hgv
  have hA : ∀ a : Nat, a < s.heap.size → ¬ (fun q : Nat => s.heap.size ≤ q) a := fun a h => Nat.not_le.mpr h
  have hl : (Cond.arrayOf (.static "CardHouse" "RIGHT_UNDER" "[I") .int).before #[Value.ref b] s = true := hs _ (by decide +kernel)
  have hn : (Cond.eq (.length (.static "CardHouse" "RIGHT_UNDER" "[I")) (.int 16)).before #[Value.ref b] s = true := hs _ (by decide +kernel)
  have hel : ∀ j : Nat, j < 16 → (Term.elem (.static "CardHouse" "RIGHT_UNDER" "[I") (.int (Int32.ofNat j))).eval #[Value.ref b] s none [] s = some (.int (sRU j)) := by
    intro j hj
    rcases (show j = 0 ∨ j = 1 ∨ j = 2 ∨ j = 3 ∨ j = 4 ∨ j = 5 ∨ j = 6 ∨ j = 7 ∨ j = 8 ∨ j = 9 ∨ j = 10 ∨ j = 11 ∨ j = 12 ∨ j = 13 ∨ j = 14 ∨ j = 15 by omega) with rfl | rfl | rfl | rfl | rfl | rfl | rfl | rfl | rfl | rfl | rfl | rfl | rfl | rfl | rfl | rfl
    · exact va_eqt (z := sRU 0) (hs (Cond.eq (.elem (.static "CardHouse" "RIGHT_UNDER" "[I") (.int 0)) (.int (sRU 0))) (by decide +kernel))
    · exact va_eqt (z := sRU 1) (hs (Cond.eq (.elem (.static "CardHouse" "RIGHT_UNDER" "[I") (.int 1)) (.int (sRU 1))) (by decide +kernel))
    · exact va_eqt (z := sRU 2) (hs (Cond.eq (.elem (.static "CardHouse" "RIGHT_UNDER" "[I") (.int 2)) (.int (sRU 2))) (by decide +kernel))
    · exact va_eqt (z := sRU 3) (hs (Cond.eq (.elem (.static "CardHouse" "RIGHT_UNDER" "[I") (.int 3)) (.int (sRU 3))) (by decide +kernel))
    · exact va_eqt (z := sRU 4) (hs (Cond.eq (.elem (.static "CardHouse" "RIGHT_UNDER" "[I") (.int 4)) (.int (sRU 4))) (by decide +kernel))
    · exact va_eqt (z := sRU 5) (hs (Cond.eq (.elem (.static "CardHouse" "RIGHT_UNDER" "[I") (.int 5)) (.int (sRU 5))) (by decide +kernel))
    · exact va_eqt (z := sRU 6) (hs (Cond.eq (.elem (.static "CardHouse" "RIGHT_UNDER" "[I") (.int 6)) (.int (sRU 6))) (by decide +kernel))
    · exact va_eqt (z := sRU 7) (hs (Cond.eq (.elem (.static "CardHouse" "RIGHT_UNDER" "[I") (.int 7)) (.int (sRU 7))) (by decide +kernel))
    · exact va_eqt (z := sRU 8) (hs (Cond.eq (.elem (.static "CardHouse" "RIGHT_UNDER" "[I") (.int 8)) (.int (sRU 8))) (by decide +kernel))
    · exact va_eqt (z := sRU 9) (hs (Cond.eq (.elem (.static "CardHouse" "RIGHT_UNDER" "[I") (.int 9)) (.int (sRU 9))) (by decide +kernel))
    · exact va_eqt (z := sRU 10) (hs (Cond.eq (.elem (.static "CardHouse" "RIGHT_UNDER" "[I") (.int 10)) (.int (sRU 10))) (by decide +kernel))
    · exact va_eqt (z := sRU 11) (hs (Cond.eq (.elem (.static "CardHouse" "RIGHT_UNDER" "[I") (.int 11)) (.int (sRU 11))) (by decide +kernel))
    · exact va_eqt (z := sRU 12) (hs (Cond.eq (.elem (.static "CardHouse" "RIGHT_UNDER" "[I") (.int 12)) (.int (sRU 12))) (by decide +kernel))
    · exact va_eqt (z := sRU 13) (hs (Cond.eq (.elem (.static "CardHouse" "RIGHT_UNDER" "[I") (.int 13)) (.int (sRU 13))) (by decide +kernel))
    · exact va_eqt (z := sRU 14) (hs (Cond.eq (.elem (.static "CardHouse" "RIGHT_UNDER" "[I") (.int 14)) (.int (sRU 14))) (by decide +kernel))
    · exact va_eqt (z := sRU 15) (hs (Cond.eq (.elem (.static "CardHouse" "RIGHT_UNDER" "[I") (.int 15)) (.int (sRU 15))) (by decide +kernel))
  obtain ⟨t, ht, hT⟩ := va_Tof (N := 16) (f := fun j => .int (sRU j)) (Nat.le_of_ble_eq_true rfl) hl (va_eqt hn) hel hA
  exact ⟨t, va_Zref (hts _ (lt_t1 238 rfl)) (hts _ (lt_t1 1 rfl)) ht hA, hT⟩
set_option maxRecDepth 20000 in
set_option maxHeartbeats 4000000 in
theorem en_sLV {s : State} {b : Nat} (hts : ∀ w ∈ lw_tbl, w.before #[Value.ref b] s = true) (hgv : (Jvm.Cond.and given_1 narrow_1).before #[Value.ref b] s = true) : ∃ t, ST1 s.heap.size s s.heap "LEVEL_OF" "[I" .int t 16 (fun j => .int (sLV j)) := by
  have hs := flat_of_before _ hgv
  have hA : ∀ a : Nat, a < s.heap.size → ¬ (fun q : Nat => s.heap.size ≤ q) a := fun a h => Nat.not_le.mpr h
  have hl : (Cond.arrayOf (.static "CardHouse" "LEVEL_OF" "[I") .int).before #[Value.ref b] s = true := hs _ (by decide +kernel)
  have hn : (Cond.eq (.length (.static "CardHouse" "LEVEL_OF" "[I")) (.int 16)).before #[Value.ref b] s = true := hs _ (by decide +kernel)
  have hel : ∀ j : Nat, j < 16 → (Term.elem (.static "CardHouse" "LEVEL_OF" "[I") (.int (Int32.ofNat j))).eval #[Value.ref b] s none [] s = some (.int (sLV j)) := by
    intro j hj
    rcases (show j = 0 ∨ j = 1 ∨ j = 2 ∨ j = 3 ∨ j = 4 ∨ j = 5 ∨ j = 6 ∨ j = 7 ∨ j = 8 ∨ j = 9 ∨ j = 10 ∨ j = 11 ∨ j = 12 ∨ j = 13 ∨ j = 14 ∨ j = 15 by omega) with rfl | rfl | rfl | rfl | rfl | rfl | rfl | rfl | rfl | rfl | rfl | rfl | rfl | rfl | rfl | rfl
    · exact va_eqt (z := sLV 0) (hs (Cond.eq (.elem (.static "CardHouse" "LEVEL_OF" "[I") (.int 0)) (.int (sLV 0))) (by decide +kernel))
    · exact va_eqt (z := sLV 1) (hs (Cond.eq (.elem (.static "CardHouse" "LEVEL_OF" "[I") (.int 1)) (.int (sLV 1))) (by decide +kernel))
    · exact va_eqt (z := sLV 2) (hs (Cond.eq (.elem (.static "CardHouse" "LEVEL_OF" "[I") (.int 2)) (.int (sLV 2))) (by decide +kernel))
    · exact va_eqt (z := sLV 3) (hs (Cond.eq (.elem (.static "CardHouse" "LEVEL_OF" "[I") (.int 3)) (.int (sLV 3))) (by decide +kernel))
    · exact va_eqt (z := sLV 4) (hs (Cond.eq (.elem (.static "CardHouse" "LEVEL_OF" "[I") (.int 4)) (.int (sLV 4))) (by decide +kernel))
    · exact va_eqt (z := sLV 5) (hs (Cond.eq (.elem (.static "CardHouse" "LEVEL_OF" "[I") (.int 5)) (.int (sLV 5))) (by decide +kernel))
    · exact va_eqt (z := sLV 6) (hs (Cond.eq (.elem (.static "CardHouse" "LEVEL_OF" "[I") (.int 6)) (.int (sLV 6))) (by decide +kernel))
    · exact va_eqt (z := sLV 7) (hs (Cond.eq (.elem (.static "CardHouse" "LEVEL_OF" "[I") (.int 7)) (.int (sLV 7))) (by decide +kernel))
    · exact va_eqt (z := sLV 8) (hs (Cond.eq (.elem (.static "CardHouse" "LEVEL_OF" "[I") (.int 8)) (.int (sLV 8))) (by decide +kernel))
    · exact va_eqt (z := sLV 9) (hs (Cond.eq (.elem (.static "CardHouse" "LEVEL_OF" "[I") (.int 9)) (.int (sLV 9))) (by decide +kernel))
    · exact va_eqt (z := sLV 10) (hs (Cond.eq (.elem (.static "CardHouse" "LEVEL_OF" "[I") (.int 10)) (.int (sLV 10))) (by decide +kernel))
    · exact va_eqt (z := sLV 11) (hs (Cond.eq (.elem (.static "CardHouse" "LEVEL_OF" "[I") (.int 11)) (.int (sLV 11))) (by decide +kernel))
    · exact va_eqt (z := sLV 12) (hs (Cond.eq (.elem (.static "CardHouse" "LEVEL_OF" "[I") (.int 12)) (.int (sLV 12))) (by decide +kernel))
    · exact va_eqt (z := sLV 13) (hs (Cond.eq (.elem (.static "CardHouse" "LEVEL_OF" "[I") (.int 13)) (.int (sLV 13))) (by decide +kernel))
    · exact va_eqt (z := sLV 14) (hs (Cond.eq (.elem (.static "CardHouse" "LEVEL_OF" "[I") (.int 14)) (.int (sLV 14))) (by decide +kernel))
    · exact va_eqt (z := sLV 15) (hs (Cond.eq (.elem (.static "CardHouse" "LEVEL_OF" "[I") (.int 15)) (.int (sLV 15))) (by decide +kernel))
  obtain ⟨t, ht, hT⟩ := va_Tof (N := 16) (f := fun j => .int (sLV j)) (Nat.le_of_ble_eq_true rfl) hl (va_eqt hn) hel hA
  exact ⟨t, va_Zref (hts _ (lt_t2 37 rfl)) (hts _ (lt_t1 1 rfl)) ht hA, hT⟩
set_option maxRecDepth 20000 in
set_option maxHeartbeats 4000000 in
theorem en_sTL {s : State} {b : Nat} (hts : ∀ w ∈ lw_tbl, w.before #[Value.ref b] s = true) (hgv : (Jvm.Cond.and given_1 narrow_1).before #[Value.ref b] s = true) : ∃ t, ST1 s.heap.size s s.heap "TENTS_OF_LEVEL" "[I" .int t 4 (fun j => .int (sTL j)) := by
  have hs := flat_of_before _ hgv
  have hA : ∀ a : Nat, a < s.heap.size → ¬ (fun q : Nat => s.heap.size ≤ q) a := fun a h => Nat.not_le.mpr h
  have hl : (Cond.arrayOf (.static "CardHouse" "TENTS_OF_LEVEL" "[I") .int).before #[Value.ref b] s = true := hs _ (by decide +kernel)
  have hn : (Cond.eq (.length (.static "CardHouse" "TENTS_OF_LEVEL" "[I")) (.int 4)).before #[Value.ref b] s = true := hs _ (by decide +kernel)
  have hel : ∀ j : Nat, j < 4 → (Term.elem (.static "CardHouse" "TENTS_OF_LEVEL" "[I") (.int (Int32.ofNat j))).eval #[Value.ref b] s none [] s = some (.int (sTL j)) := by
    intro j hj
    rcases (show j = 0 ∨ j = 1 ∨ j = 2 ∨ j = 3 by omega) with rfl | rfl | rfl | rfl
    · exact va_eqt (z := sTL 0) (hs (Cond.eq (.elem (.static "CardHouse" "TENTS_OF_LEVEL" "[I") (.int 0)) (.int (sTL 0))) (by decide +kernel))
    · exact va_eqt (z := sTL 1) (hs (Cond.eq (.elem (.static "CardHouse" "TENTS_OF_LEVEL" "[I") (.int 1)) (.int (sTL 1))) (by decide +kernel))
    · exact va_eqt (z := sTL 2) (hs (Cond.eq (.elem (.static "CardHouse" "TENTS_OF_LEVEL" "[I") (.int 2)) (.int (sTL 2))) (by decide +kernel))
    · exact va_eqt (z := sTL 3) (hs (Cond.eq (.elem (.static "CardHouse" "TENTS_OF_LEVEL" "[I") (.int 3)) (.int (sTL 3))) (by decide +kernel))
  obtain ⟨t, ht, hT⟩ := va_Tof (N := 4) (f := fun j => .int (sTL j)) (Nat.le_of_ble_eq_true rfl) hl (va_eqt hn) hel hA
  exact ⟨t, va_Zref (hts _ (lt_t2 112 rfl)) (hts _ (lt_t1 1 rfl)) ht hA, hT⟩
set_option maxRecDepth 20000 in
set_option maxHeartbeats 4000000 in
theorem en_sBE {s : State} {b : Nat} (hts : ∀ w ∈ lw_tbl, w.before #[Value.ref b] s = true) (hgv : (Jvm.Cond.and given_1 narrow_1).before #[Value.ref b] s = true) : ∃ t, ST1 s.heap.size s s.heap "BEARS" "[I" .int t 4 (fun j => .int (sBE j)) := by
  have hs := flat_of_before _ hgv
  have hA : ∀ a : Nat, a < s.heap.size → ¬ (fun q : Nat => s.heap.size ≤ q) a := fun a h => Nat.not_le.mpr h
  have hl : (Cond.arrayOf (.static "CardHouse" "BEARS" "[I") .int).before #[Value.ref b] s = true := hs _ (by decide +kernel)
  have hn : (Cond.eq (.length (.static "CardHouse" "BEARS" "[I")) (.int 4)).before #[Value.ref b] s = true := hs _ (by decide +kernel)
  have hel : ∀ j : Nat, j < 4 → (Term.elem (.static "CardHouse" "BEARS" "[I") (.int (Int32.ofNat j))).eval #[Value.ref b] s none [] s = some (.int (sBE j)) := by
    intro j hj
    rcases (show j = 0 ∨ j = 1 ∨ j = 2 ∨ j = 3 by omega) with rfl | rfl | rfl | rfl
    · exact va_eqt (z := sBE 0) (hs (Cond.eq (.elem (.static "CardHouse" "BEARS" "[I") (.int 0)) (.int (sBE 0))) (by decide +kernel))
    · exact va_eqt (z := sBE 1) (hs (Cond.eq (.elem (.static "CardHouse" "BEARS" "[I") (.int 1)) (.int (sBE 1))) (by decide +kernel))
    · exact va_eqt (z := sBE 2) (hs (Cond.eq (.elem (.static "CardHouse" "BEARS" "[I") (.int 2)) (.int (sBE 2))) (by decide +kernel))
    · exact va_eqt (z := sBE 3) (hs (Cond.eq (.elem (.static "CardHouse" "BEARS" "[I") (.int 3)) (.int (sBE 3))) (by decide +kernel))
  obtain ⟨t, ht, hT⟩ := va_Tof (N := 4) (f := fun j => .int (sBE j)) (Nat.le_of_ble_eq_true rfl) hl (va_eqt hn) hel hA
  exact ⟨t, va_Zref (hts _ (lt_t2 0 rfl)) (hts _ (lt_t1 1 rfl)) ht hA, hT⟩
set_option maxRecDepth 20000 in
set_option maxHeartbeats 4000000 in
theorem en_sGR {s : State} {b : Nat} (hts : ∀ w ∈ lw_tbl, w.before #[Value.ref b] s = true) (hgv : (Jvm.Cond.and given_1 narrow_1).before #[Value.ref b] s = true) : ∃ t, ST1 s.heap.size s s.heap "GRIP" "[I" .int t 4 (fun j => .int (sGR j)) := by
  have hs := flat_of_before _ hgv
  have hA : ∀ a : Nat, a < s.heap.size → ¬ (fun q : Nat => s.heap.size ≤ q) a := fun a h => Nat.not_le.mpr h
  have hl : (Cond.arrayOf (.static "CardHouse" "GRIP" "[I") .int).before #[Value.ref b] s = true := hs _ (by decide +kernel)
  have hn : (Cond.eq (.length (.static "CardHouse" "GRIP" "[I")) (.int 4)).before #[Value.ref b] s = true := hs _ (by decide +kernel)
  have hel : ∀ j : Nat, j < 4 → (Term.elem (.static "CardHouse" "GRIP" "[I") (.int (Int32.ofNat j))).eval #[Value.ref b] s none [] s = some (.int (sGR j)) := by
    intro j hj
    rcases (show j = 0 ∨ j = 1 ∨ j = 2 ∨ j = 3 by omega) with rfl | rfl | rfl | rfl
    · exact va_eqt (z := sGR 0) (hs (Cond.eq (.elem (.static "CardHouse" "GRIP" "[I") (.int 0)) (.int (sGR 0))) (by decide +kernel))
    · exact va_eqt (z := sGR 1) (hs (Cond.eq (.elem (.static "CardHouse" "GRIP" "[I") (.int 1)) (.int (sGR 1))) (by decide +kernel))
    · exact va_eqt (z := sGR 2) (hs (Cond.eq (.elem (.static "CardHouse" "GRIP" "[I") (.int 2)) (.int (sGR 2))) (by decide +kernel))
    · exact va_eqt (z := sGR 3) (hs (Cond.eq (.elem (.static "CardHouse" "GRIP" "[I") (.int 3)) (.int (sGR 3))) (by decide +kernel))
  obtain ⟨t, ht, hT⟩ := va_Tof (N := 4) (f := fun j => .int (sGR j)) (Nat.le_of_ble_eq_true rfl) hl (va_eqt hn) hel hA
  exact ⟨t, va_Zref (hts _ (lt_t2 118 rfl)) (hts _ (lt_t1 1 rfl)) ht hA, hT⟩
set_option maxRecDepth 20000 in
set_option maxHeartbeats 4000000 in
theorem en_sOR {s : State} {b : Nat} (hts : ∀ w ∈ lw_tbl, w.before #[Value.ref b] s = true) (hgv : (Jvm.Cond.and given_1 narrow_1).before #[Value.ref b] s = true) : ∃ t, ST1 s.heap.size s s.heap "ORDERS" "[I" .int t 4 (fun j => .int (sOR j)) := by
  have hs := flat_of_before _ hgv
  have hA : ∀ a : Nat, a < s.heap.size → ¬ (fun q : Nat => s.heap.size ≤ q) a := fun a h => Nat.not_le.mpr h
  have hl : (Cond.arrayOf (.static "CardHouse" "ORDERS" "[I") .int).before #[Value.ref b] s = true := hs _ (by decide +kernel)
  have hn : (Cond.eq (.length (.static "CardHouse" "ORDERS" "[I")) (.int 4)).before #[Value.ref b] s = true := hs _ (by decide +kernel)
  have hel : ∀ j : Nat, j < 4 → (Term.elem (.static "CardHouse" "ORDERS" "[I") (.int (Int32.ofNat j))).eval #[Value.ref b] s none [] s = some (.int (sOR j)) := by
    intro j hj
    rcases (show j = 0 ∨ j = 1 ∨ j = 2 ∨ j = 3 by omega) with rfl | rfl | rfl | rfl
    · exact va_eqt (z := sOR 0) (hs (Cond.eq (.elem (.static "CardHouse" "ORDERS" "[I") (.int 0)) (.int (sOR 0))) (by decide +kernel))
    · exact va_eqt (z := sOR 1) (hs (Cond.eq (.elem (.static "CardHouse" "ORDERS" "[I") (.int 1)) (.int (sOR 1))) (by decide +kernel))
    · exact va_eqt (z := sOR 2) (hs (Cond.eq (.elem (.static "CardHouse" "ORDERS" "[I") (.int 2)) (.int (sOR 2))) (by decide +kernel))
    · exact va_eqt (z := sOR 3) (hs (Cond.eq (.elem (.static "CardHouse" "ORDERS" "[I") (.int 3)) (.int (sOR 3))) (by decide +kernel))
  obtain ⟨t, ht, hT⟩ := va_Tof (N := 4) (f := fun j => .int (sOR j)) (Nat.le_of_ble_eq_true rfl) hl (va_eqt hn) hel hA
  exact ⟨t, va_Zref (hts _ (lt_t2 199 rfl)) (hts _ (lt_t1 1 rfl)) ht hA, hT⟩
set_option maxRecDepth 20000 in
set_option maxHeartbeats 4000000 in
theorem en_sDL {s : State} {b : Nat} (hts : ∀ w ∈ lw_tbl, w.before #[Value.ref b] s = true) (hgv : (Jvm.Cond.and given_1 narrow_1).before #[Value.ref b] s = true) : ∃ t, ST1 s.heap.size s s.heap "DOINGS_LIMIT" "[J" .long t 5 (fun j => .long (sDL j)) := by
  have hs := flat_of_before _ hgv
  have hA : ∀ a : Nat, a < s.heap.size → ¬ (fun q : Nat => s.heap.size ≤ q) a := fun a h => Nat.not_le.mpr h
  have hl : (Cond.arrayOf (.static "CardHouse" "DOINGS_LIMIT" "[J") .long).before #[Value.ref b] s = true := hs _ (by decide +kernel)
  have hn : (Cond.eq (.length (.static "CardHouse" "DOINGS_LIMIT" "[J")) (.int 5)).before #[Value.ref b] s = true := hs _ (by decide +kernel)
  have hel : ∀ j : Nat, j < 5 → (Term.elem (.static "CardHouse" "DOINGS_LIMIT" "[J") (.int (Int32.ofNat j))).eval #[Value.ref b] s none [] s = some (.long (sDL j)) := by
    intro j hj
    rcases (show j = 0 ∨ j = 1 ∨ j = 2 ∨ j = 3 ∨ j = 4 by omega) with rfl | rfl | rfl | rfl | rfl
    · exact va_eqtl (z := sDL 0) (hs (Cond.eq (.elem (.static "CardHouse" "DOINGS_LIMIT" "[J") (.int 0)) (.long (sDL 0))) (by decide +kernel))
    · exact va_eqtl (z := sDL 1) (hs (Cond.eq (.elem (.static "CardHouse" "DOINGS_LIMIT" "[J") (.int 1)) (.long (sDL 1))) (by decide +kernel))
    · exact va_eqtl (z := sDL 2) (hs (Cond.eq (.elem (.static "CardHouse" "DOINGS_LIMIT" "[J") (.int 2)) (.long (sDL 2))) (by decide +kernel))
    · exact va_eqtl (z := sDL 3) (hs (Cond.eq (.elem (.static "CardHouse" "DOINGS_LIMIT" "[J") (.int 3)) (.long (sDL 3))) (by decide +kernel))
    · exact va_eqtl (z := sDL 4) (hs (Cond.eq (.elem (.static "CardHouse" "DOINGS_LIMIT" "[J") (.int 4)) (.long (sDL 4))) (by decide +kernel))
  obtain ⟨t, ht, hT⟩ := va_Tof (N := 5) (f := fun j => .long (sDL j)) (Nat.le_of_ble_eq_true rfl) hl (va_eqt hn) hel hA
  exact ⟨t, va_Zref (hts _ (lt_t2 166 rfl)) (hts _ (lt_t1 1 rfl)) ht hA, hT⟩
theorem en_arr {args : Array Value} {s : State} {ty : FieldType} (hp : ∀ C, ty ≠ .object C) (h : (Cond.arrayClass ty).before args s = true) : ∃ cA, ArrOfT s cA ty ∧ va_RA s cA ty := by
  obtain ⟨cA, kA, comp, h1, h2, h3⟩ := Cond.arrayClass_spec h
  refine ⟨cA, fun n z => ⟨fun k h => (by cases h), kA, h2, comp, h3⟩, ?_⟩
  cases ty <;> first | exact absurd rfl (hp _) | exact h1
set_option maxHeartbeats 4000000 in
theorem en_env {s : State} {b : Nat} (hts : ∀ w ∈ lw_tbl, w.before #[Value.ref b] s = true) (hgv : (Jvm.Cond.and given_1 narrow_1).before #[Value.ref b] s = true) : ∃ (D : va_G) (cI cZ : ClassId) (tt : Nat → Nat), ENV D cI cZ s.heap.size tt s s.heap := by
  have hg : ∀ w ∈ GW, w.before #[Value.ref b] s = true := fun w h => hts w (gw_tbl h)
  obtain ⟨c0, i0, hk0⟩ := u_known (C := RX0) (T := TX0) (N := 2) (n := 2) hg iX0 (hg _ w_74)
  obtain ⟨c1, i1, hk1⟩ := u_known (C := RX1) (T := TX1) (N := 5) (n := 5) hg iX1 (hg _ w_31)
  obtain ⟨c2, i2, hk2⟩ := u_known (C := RX2) (T := TX2) (N := 4) (n := 4) hg iX2 (hg _ w_52)
  obtain ⟨c3, i3, hk3⟩ := u_known (C := RX3) (T := TX3) (N := 2) (n := 2) hg iX3 (hg _ w_18)
  obtain ⟨c4, i4, hk4⟩ := u_known (C := RX4) (T := TX4) (N := 12) (n := 12) hg iX4 (hg _ w_10)
  obtain ⟨c5, i5, hk5⟩ := u_known (C := RX5) (T := TX5) (N := 26) (n := 26) hg iX5 (hg _ w_484)
  obtain ⟨cI, hI⟩ := en_arr (ty := .int) (fun C h => by cases h) (hg _ w_29)
  obtain ⟨cZ, hZ⟩ := en_arr (ty := .boolean) (fun C h => by cases h) (hg _ w_568)
  obtain ⟨t0, hs0⟩ := en_sUN hts hgv
  obtain ⟨t1, hs1⟩ := en_sLU hts hgv
  obtain ⟨t2, hs2⟩ := en_sRU hts hgv
  obtain ⟨t3, hs3⟩ := en_sLV hts hgv
  obtain ⟨t4, hs4⟩ := en_sTL hts hgv
  obtain ⟨t5, hs5⟩ := en_sBE hts hgv
  obtain ⟨t6, hs6⟩ := en_sGR hts hgv
  obtain ⟨t7, hs7⟩ := en_sOR hts hgv
  obtain ⟨t8, hs8⟩ := en_sDL hts hgv
  refine ⟨(fun k => match k with | 0 => c0 | 1 => c1 | 2 => c2 | 3 => c3 | 4 => c4 | _ => c5, fun k => match k with | 0 => i0 | 1 => i1 | 2 => i2 | 3 => i3 | 4 => i4 | _ => i5), cI, cZ, (fun k => match k with | 0 => t0 | 1 => t1 | 2 => t2 | 3 => t3 | 4 => t4 | 5 => t5 | 6 => t6 | 7 => t7 | _ => t8), ⟨?_, ?_⟩, ⟨hs0, hs1, hs2, hs3, hs4, hs5, hs6, hs7, hs8⟩, en_nest hts⟩
  · intro k q hq
    match k, hq with
    | 0, hq => cases hq; exact hk0
    | 1, hq => cases hq; exact hk1
    | 2, hq => cases hq; exact hk2
    | 3, hq => cases hq; exact hk3
    | 4, hq => cases hq; exact hk4
    | 5, hq => cases hq; exact hk5
    | k + 6, hq => simp [vwCl] at hq
  · intro k q hq
    match k, hq with
    | 0, hq => cases hq; exact hI
    | 1, hq => cases hq; exact hZ
    | k + 2, hq => simp at hq
