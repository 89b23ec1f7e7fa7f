/-! The claim out of one walk: what the kit's skeleton gives, and small rows of mine. -/
/-! THE CLAIM OUT OF ONE WALK OF THE LAW'S BODY. Your part is whole_start (and what it stands on); all else here is the same for every law, but numbers. -/
def R_law : String := "CardHouseLaw"
def lw_P (b : Addr) (xs : List Int32) (args : Array Value) (s : State) : Prop := args = #[.ref b] ∧ s.IntsAt b xs ∧ xs.length ≤ 2560 ∧ (Jvm.Cond.and given_1 narrow_1).before args s = true
def lw_Q (_ : Array Value) (s : State) (o : Outcome) (t : State) : Prop := o = .returned (some (.int 1)) ∧ Framed s o t [] 600000 7302250
def lw_Z (below : List Frame) (a : Array Value) (s : State) : State → Prop := fun t => ∃ o, t.status = .running ∧ Ended t below o ∧ lw_Q a s o t
/-- the law's own end, with 1 on the stack, nothing written that was there before, its room as the claim has it -/
theorem lw_ret {p : Program} {l : Launch} {e : Env} {s : State} {m : MethodId} {below : List Frame} {meth : Method} {c : Code} {b : Nat} (hx : p.tables.exec = Jvm.exec) (hb : c.code = code) (hr : meth.sig.returnType = ret) (hlocks : meth.locks = false) {pc : Nat} {H : Heap} {ls : Array Slot} (hdg : decode code pc = .ok (.ireturn, 1)) : W p l e room_1 s m #[Value.ref b] below meth c H [] 600000 7302250 (lw_Z below #[Value.ref b] s) (F0 m pc ls [.int 1]) := by
  intro T hT X
  obtain ⟨fs, hret, hrun, hended, hW, hframe⟩ := X.leave (v := some (.int 1)) (hlocks := hlocks) (fun h => by rw [hr] at h; cases h)
  have hmeth' : T.vm.method? m = some meth := X.method'
  refine ⟨T.setFrames fs, ?_, .returned (some (.int 1)), hrun, hended, rfl, ⟨_, rfl⟩, hW, hframe⟩
  jvm_step X.here [X.here.top, hx, hb, hdg, hmeth', hr, ret, narrow_b1]
  (try refine ⟨rfl, ?_⟩); (try refine ⟨rfl, ?_⟩)
  first | (intro acts; rw [hret _ acts rfl rfl rfl]) | rw [hret _ _ rfl rfl rfl]
  exact Steps.refl _
/-- what holds at the law's entry: the machine, the code, the tables' words (any of lw_tbl by 'hts w (by decide +kernel)'), the script of L ints xs at the cell b, what the Statement gives of the start (any of its parts by flat_of_before) -/
def lw_At (p : Program) (s : State) (m : MethodId) (meth : Method) (c : Code) (b L : Nat) (xs : Nat → Int32) : Prop :=
  p.tables.exec = Jvm.exec ∧ c.code = code ∧ meth.sig.returnType = ret ∧ c.maxLocals = 4 ∧ s.vm.findClass R_law = some m.cls ∧ (∀ w ∈ lw_tbl, w.before #[Value.ref b] s = true) ∧ va_X b L xs s s.heap ∧ b < s.heap.size ∧ meth.locks = false ∧ (Jvm.Cond.and given_1 narrow_1).before #[Value.ref b] s = true
theorem n_sld {p : Program} {l : Launch} {e : Env} {R : Room} {s : State} {m : MethodId} {args : Array Value} {below : List Frame} {meth : Method} {c : Code} {H H0 : Heap} {locs : List Loc} {cells slots : Nat} {Q : State → Prop} {cc : ByteArray} {pc : Nat} {ls : Array Slot} {rest : List Value} {A : Nat → Prop} (hx : p.tables.exec = Jvm.exec) (hb : c.code = cc) {b L : Nat} {xs : Nat → Int32} (hX : va_X b L xs s H0) (hbl : b < H0.size) (hbA : ¬ A b) (hS : va_S A H0 H locs) {i y : Int32} (hin : vp_in i L) (hdg : decode cc pc = .ok (.iaload, 1)) (hy : xs i.toNatClampNeg = y)
    (kk : W p l e R s m args below meth c H locs cells slots Q (F0 m (pc + 1) ls (.int y :: rest))) : W p l e R s m args below meth c H locs cells slots Q (F0 m pc ls (.int i :: .ref b :: rest)) := by
  subst hy
  exact va_sld hx hb hX hbl hbA hS hin hdg kk
theorem n_topl {p : Program} {l : Launch} {e : Env} {R : Room} {s : State} {m : MethodId} {args : Array Value} {below : List Frame} {meth : Method} {c : Code} {H : Heap} {locs : List Loc} {cells slots : Nat} {Q : State → Prop} {pc : Nat} {ls : Array Slot} {rest : List Value} {x y : Int64} (h : y = x) (k : W p l e R s m args below meth c H locs cells slots Q (F0 m pc ls (.long y :: rest))) : W p l e R s m args below meth c H locs cells slots Q (F0 m pc ls (.long x :: rest)) := by
  subst h
  exact k
theorem n_cmp (x : Int64) : lg_cmp x x = 0 := by
  unfold lg_cmp
  rw [if_neg (by rw [gt_iff_lt, Int64.lt_iff_toInt_lt]; omega), if_pos rfl]
theorem o_wipe {x_ln m_ts : Int32} {x_le m_text : Nat → Int32} (hT : RT x_ln m_ts x_le m_text) (thrown : Int32) :
    ∃ r ln2 mt2, fX4_wipe x_ln = some (r, ln2) ∧ fX5_wipe thrown m_ts = some (r, (0, mt2)) ∧ RT ln2 mt2 x_le m_text := by
  obtain ⟨ln, hl, rfl, rfl, hj⟩ := hT
  exact ⟨nI ln, 0, 0, rfl, rfl, 0, by omega, rfl, rfl, hj⟩
theorem o_unhold {h_hc m_held h_ok h_tk : Int32} {who fo ld is : Nat → Int32} (hH : RH h_hc m_held h_ok h_tk who fo ld is) (thrown : Int32) :
    ∃ r hc2 ok2 tk2 mh2, fX4_unhold h_hc h_ok h_tk = some (r, (hc2, ok2, tk2)) ∧ fX5_unhold thrown m_held = some (r, (0, mh2)) ∧ RH hc2 mh2 ok2 tk2 who fo ld is := by
  obtain ⟨hc, hl, rfl, rfl, hj⟩ := hH
  exact ⟨nI hc, 0, 15, 15, 0, rfl, rfl, RH_0 who fo ld is⟩
theorem o_seed (seed : Int64) (thrown : Int32) (a1 : Int64) :
    ∃ r s2, fX4_seed seed a1 = some (r, s2) ∧ fX5_seed thrown seed a1 = some (r, (0, s2)) := ⟨seed, a1, rfl, rfl⟩
theorem o_about2 {g : Nat → Nat} {th ki fe : Int32} {page : Nat → Int32} (hP : RPg g th ki fe page) {ca mc : Nat → Int32} (hC : RCa ca mc) {h_ac m_acts c_sz : Int32} {c_st c_sk c_sf m_book : Nat → Int32} (hA : RA h_ac m_acts c_sz c_st c_sk c_sf m_book) {h_hc m_held h_ok h_tk : Int32} {who fo ld is : Nat → Int32} (hH : RH h_hc m_held h_ok h_tk who fo ld is) {x_ln m_ts : Int32} {x_le m_text : Nat → Int32} (hT : RT x_ln m_ts x_le m_text) (thrown a1 : Int32) :
    ∃ r, fX4_about h_ac h_hc x_ln th ki fe ca a1 = some r ∧ fX5_about thrown m_ts m_acts m_held mc page a1 = some (r, 0) := by
  obtain ⟨ac, -, rfl, rfl, -⟩ := hA
  obtain ⟨hc, -, rfl, rfl, -⟩ := hH
  obtain ⟨ln, -, rfl, rfl, -⟩ := hT
  exact o_about hP hC thrown a1
