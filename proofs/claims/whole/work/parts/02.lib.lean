/-! Own rows: the static tables, the environment, the world of a walk, calls that keep their cells' addresses, the words of the pure functions. -/
def ob {α β : Type} (o : Option α) (k : α → Option β) : Option β := match o with
  | none => none
  | some a => k a
theorem ob_some {α β : Type} (a : α) (k : α → Option β) : ob (some a) k = k a := rfl
theorem ob_at {α β : Type} {o : Option α} {k : α → Option β} {r : β} (h : ob o k = some r) : ∃ v, o = some v ∧ k v = some r := by
  cases o with
  | none => cases h
  | some a => exact ⟨a, rfl, h⟩
def nm {α β : Type} (e : α) (k : α → β) : β := k e
theorem nm_eq {α β : Type} (e : α) (k : α → β) : nm e k = k e := rfl
theorem nm_at {α β : Type} {e x : α} {k : α → β} {r : β} (ex : x = e) (h : nm e k = r) : k x = r := by
  subst ex
  exact h
theorem ite_t {α : Type} {c : Prop} {i : Decidable c} {x y r : α} (h : c) (hf : (@ite α c i x y) = r) : x = r := by
  rw [if_pos h] at hf
  exact hf
theorem ite_f {α : Type} {c : Prop} {i : Decidable c} {x y r : α} (h : ¬ c) (hf : (@ite α c i x y) = r) : y = r := by
  rw [if_neg h] at hf
  exact hf
def gd {α : Type} (i : Int32) (n : Nat) (x : Option α) : Option α := if i < 0 ∨ n ≤ i.toNatClampNeg then none else x
theorem gd_at {α : Type} {i : Int32} {n : Nat} {x : Option α} {r : α} (h : gd i n x = some r) : vp_in i n ∧ x = some r := by
  unfold gd at h
  by_cases c : i < 0 ∨ n ≤ i.toNatClampNeg
  · rw [if_pos c] at h
    cases h
  · rw [if_neg c] at h
    exact ⟨c, h⟩
theorem gd_in {α : Type} {i : Int32} {n : Nat} {x : Option α} (h : vp_in i n) : gd i n x = x := if_neg h
def dz {α : Type} (y : Int32) (x : Option α) : Option α := if y = 0 then none else x
theorem dz_at {α : Type} {y : Int32} {x : Option α} {r : α} (h : dz y x = some r) : ¬ y = 0 ∧ x = some r := by
  unfold dz at h
  by_cases c : y = 0
  · rw [if_pos c] at h
    cases h
  · rw [if_neg c] at h
    exact ⟨c, h⟩
theorem dz_in {α : Type} {y : Int32} {x : Option α} (h : ¬ y = 0) : dz y x = x := if_neg h
def dzL {α : Type} (y : Int64) (x : Option α) : Option α := if y = 0 then none else x
theorem dzL_at {α : Type} {y : Int64} {x : Option α} {r : α} (h : dzL y x = some r) : ¬ y = 0 ∧ x = some r := by
  unfold dzL at h
  by_cases c : y = 0
  · rw [if_pos c] at h
    cases h
  · rw [if_neg c] at h
    exact ⟨c, h⟩
theorem dzL_in {α : Type} {y : Int64} {x : Option α} (h : ¬ y = 0) : dzL y x = x := if_neg h
def gz {α : Type} (v : Int32) (x : Option α) : Option α := if v = 0 ∨ v = 1 then x else none
theorem gz_at {α : Type} {v : Int32} {x : Option α} {r : α} (h : gz v x = some r) : narrow .boolean (.int v) = .int v ∧ x = some r := by
  unfold gz at h
  by_cases c : v = 0 ∨ v = 1
  · rw [if_pos c] at h
    refine ⟨?_, h⟩
    rcases c with rfl | rfl <;> rfl
  · rw [if_neg c] at h
    cases h
theorem gz_in {α : Type} {v : Int32} {x : Option α} (h : v = 0 ∨ v = 1) : gz v x = x := if_pos h
/-- the static tables' contents -/
def sUN : Nat → Int32 := fun j => ([0, 0, 0, 0, 3, 6, 12, 16, 32, 64, 384, 768, 1024, 2048, 12288, 16384] : List Int32).getD j 0
def sLU : Nat → Int32 := fun j => ([-9, -9, -9, -9, 0, 1, 2, 4, 5, 6, 7, 8, 10, 11, 12, 14] : List Int32).getD j 0
def sRU : Nat → Int32 := fun j => ([-9, -9, -9, -9, 1, 2, 3, -9, -9, -9, 8, 9, -9, -9, 13, -9] : List Int32).getD j 0
def sLV : Nat → Int32 := fun j => ([0, 0, 0, 0, 0, 0, 0, 1, 1, 1, 1, 1, 2, 2, 2, 3] : List Int32).getD j 0
def sTL : Nat → Int32 := fun j => ([15, 896, 12288, 32768] : List Int32).getD j 0
def sBE : Nat → Int32 := fun j => ([60, 30, 45, 80] : List Int32).getD j 0
def sGR : Nat → Int32 := fun j => ([0, 8, -8, 0] : List Int32).getD j 0
def sOR : Nat → Int32 := fun j => ([6, 2, 2, 6] : List Int32).getD j 0
def sDL : Nat → Int64 := fun j => ([1, 10000, 100000000, 1000000000000, 10000000000000000] : List Int64).getD j 0
def ST1 (b0 : Nat) (U : State) (H : Heap) (n d : String) (ty : FieldType) (t N : Nat) (f : Nat → Value) : Prop := va_Z "CardHouse" n d (.ref t) (fun q => b0 ≤ q) U H ∧ va_T ty t N f (fun q => b0 ≤ q) U H
theorem ST1.go {b0 : Nat} {u U : State} {H H1 : Heap} {n d : String} {ty : FieldType} {t N : Nat} {f : Nat → Value} (hvm : u.vm.Alike U.vm) (hk : ∀ a : Nat, a < H.size → ¬ b0 ≤ a → H1[a]? = H[a]?) (h : ST1 b0 u H n d ty t N f) : ST1 b0 U H1 n d ty t N f :=
  ⟨(h.1.moved hvm).kept hk, (h.2.moved hvm).kept hk⟩
def STAT (b0 : Nat) (tt : Nat → Nat) (U : State) (H : Heap) : Prop :=
  ST1 b0 U H "UNDER" "[I" .int (tt 0) 16 (fun j => .int (sUN j)) ∧ ST1 b0 U H "LEFT_UNDER" "[I" .int (tt 1) 16 (fun j => .int (sLU j)) ∧ ST1 b0 U H "RIGHT_UNDER" "[I" .int (tt 2) 16 (fun j => .int (sRU j)) ∧ ST1 b0 U H "LEVEL_OF" "[I" .int (tt 3) 16 (fun j => .int (sLV j)) ∧ ST1 b0 U H "TENTS_OF_LEVEL" "[I" .int (tt 4) 4 (fun j => .int (sTL j)) ∧ ST1 b0 U H "BEARS" "[I" .int (tt 5) 4 (fun j => .int (sBE j)) ∧ ST1 b0 U H "GRIP" "[I" .int (tt 6) 4 (fun j => .int (sGR j)) ∧ ST1 b0 U H "ORDERS" "[I" .int (tt 7) 4 (fun j => .int (sOR j)) ∧ ST1 b0 U H "DOINGS_LIMIT" "[J" .long (tt 8) 5 (fun j => .long (sDL j))
theorem STAT.go {b0 : Nat} {tt : Nat → Nat} {u U : State} {H H1 : Heap} (hvm : u.vm.Alike U.vm) (hk : ∀ a : Nat, a < H.size → ¬ b0 ≤ a → H1[a]? = H[a]?) (h : STAT b0 tt u H) : STAT b0 tt U H1 := by
  obtain ⟨h0, h1, h2, h3, h4, h5, h6, h7, h8⟩ := h
  exact ⟨h0.go hvm hk, h1.go hvm hk, h2.go hvm hk, h3.go hvm hk, h4.go hvm hk, h5.go hvm hk, h6.go hvm hk, h7.go hvm hk, h8.go hvm hk⟩
/-- the links between nest mates -/
def nsF : List (String × Nat × String × String × String) := [("CardHouse", 52, "CardHouse$Text", "length", "I"), ("CardHouse", 66, "CardHouse$Pile", "fell", "I"), ("CardHouse", 82, "CardHouse$Pile", "there", "I"), ("CardHouse$Pile", 117, "CardHouse", "TENTS_OF_LEVEL", "[I"), ("CardHouse$Pile", 120, "CardHouse", "BEARS", "[I"), ("CardHouse$Pile", 129, "CardHouse", "LEFT_UNDER", "[I"), ("CardHouse$Pile", 132, "CardHouse", "RIGHT_UNDER", "[I"), ("CardHouse$Pile", 47, "CardHouse", "LEVEL_OF", "[I"), ("CardHouse$Pile", 65, "CardHouse", "UNDER", "[I"), ("CardHouse$Shelf", 29, "CardHouse$Pile", "there", "I"), ("CardHouse$Shelf", 33, "CardHouse$Pile", "kinds", "I"), ("CardHouse$Shelf", 35, "CardHouse$Pile", "fell", "I"), ("CardHouse$Text", 49, "CardHouse$Pile", "cards", "[I")]
def nsM : List (String × Nat × MethodName) := [("CardHouse", 9, yX3_init), ("CardHouse", 18, yX1_init), ("CardHouse", 40, yX0_init), ("CardHouse$Pile", 105, yX4_isLevel), ("CardHouse$Pile", 108, yX4_isForce), ("CardHouse$Pile", 34, yX4_cardsOf), ("CardHouse$Pile", 40, yX4_cardWeight), ("CardHouse$Pile", 50, yX4_isKind), ("CardHouse$Pile", 62, yX4_isPiece), ("CardHouse$Pile", 99, yX4_steadiness), ("CardHouse$Text", 45, yX4_isKind), ("CardHouse$Text", 55, yX4_cardsOf)]
def NEST (U : State) : Prop := (∀ q ∈ nsF, va_Nw (.fieldLinkNest q.1 q.2.1 q.2.2.1 q.2.2.2.1 q.2.2.2.2 "CardHouse") U) ∧ ∀ q ∈ nsM, va_Nw (.methodLinkNest q.1 q.2.1 q.2.2 "CardHouse") U
theorem NEST.warm {s U : State} (hW : s.WarmedH U.vm) (h : NEST s) : NEST U := ⟨fun q hq => va_Nw.warmF hW (h.1 q hq), fun q hq => va_Nw.warmM hW (h.2 q hq)⟩
theorem NEST.same {s U : State} (hv : s.vm = U.vm) (h : NEST s) : NEST U := ⟨fun q hq => va_Nw.same rfl hv (h.1 q hq), fun q hq => va_Nw.same rfl hv (h.2 q hq)⟩
def ENV (D : va_G) (cI cZ : ClassId) (b0 : Nat) (tt : Nat → Nat) (U : State) (H : Heap) : Prop := va_K D vwCl [(cI, .int), (cZ, .boolean)] U ∧ STAT b0 tt U H ∧ NEST U
theorem ENV.warm {D : va_G} {cI cZ : ClassId} {b0 : Nat} {tt : Nat → Nat} {s U : State} {H H1 : Heap} (hW : s.WarmedH U.vm) (hk : ∀ a : Nat, a < H.size → ¬ b0 ≤ a → H1[a]? = H[a]?) (h : ENV D cI cZ b0 tt s H) : ENV D cI cZ b0 tt U H1 := ⟨va_K.moved hW.alike h.1, h.2.1.go hW.alike hk, h.2.2.warm hW⟩
theorem ENV.calling {D : va_G} {cI cZ : ClassId} {b0 : Nat} {tt : Nat → Nat} {U : State} {H : Heap} {g : JFrame} {mk : MethodId} {a : Array Value} (h : ENV D cI cZ b0 tt U H) : ENV D cI cZ b0 tt (U.calling g mk a) H := ⟨va_K.moved (u := U) (U := U.calling g mk a) (Vm.Alike.refl U.vm) h.1, h.2.1.go (u := U) (U := U.calling g mk a) (Vm.Alike.refl U.vm) (fun _ _ _ => rfl), h.2.2.same (s := U) (U := U.calling g mk a) rfl⟩
/-- what a method that makes no cell finds at its start -/
def PRE (D : va_G) (cI cZ : ClassId) (b0 : Nat) (tt : Nat → Nat) (ws : va_W) (sz : Nat) (U : State) : Prop := U.heap.size = sz ∧ va_P D vwCl ws U.heap ∧ va_D (fun q => b0 ≤ q) ws ∧ b0 ≤ sz ∧ ENV D cI cZ b0 tt U U.heap
theorem PRE.calling {D : va_G} {cI cZ : ClassId} {b0 : Nat} {tt : Nat → Nat} {ws : va_W} {sz : Nat} {U : State} {g : JFrame} {mk : MethodId} {a : Array Value} (h : PRE D cI cZ b0 tt ws sz U) : PRE D cI cZ b0 tt ws sz (U.calling g mk a) := ⟨h.1, h.2.1, h.2.2.1, h.2.2.2.1, h.2.2.2.2.calling⟩
/-- the world of a walk that began at s, now at the heap H -/
def Wd (D : va_G) (cI cZ : ClassId) (b0 : Nat) (tt : Nat → Nat) (A : Nat → Prop) (s : State) (ws : va_W) (H : Heap) (locs : List Loc) : Prop := va_P D vwCl ws H ∧ va_D A ws ∧ va_S A s.heap H locs ∧ (∀ q, A q → b0 ≤ q) ∧ (∀ q, s.heap.size ≤ q → A q) ∧ b0 ≤ s.heap.size ∧ ENV D cI cZ b0 tt s s.heap
def QI (D : va_G) {S : Type} (wsF : S → va_W) (A : Nat → Prop) (res : Int32 × S) : Array Value → State → Outcome → State → Prop := va_Qi (fun r u => (r, u) = res) (fun u t => va_P D vwCl (wsF u) t.heap) A
def QL (D : va_G) {S : Type} (wsF : S → va_W) (A : Nat → Prop) (res : Int64 × S) : Array Value → State → Outcome → State → Prop := va_Ql (fun r u => (r, u) = res) (fun u t => va_P D vwCl (wsF u) t.heap) A
def QV (D : va_G) {S : Type} (wsF : S → va_W) (A : Nat → Prop) (res : S) : Array Value → State → Outcome → State → Prop := va_Qv (fun u => u = res) (fun u t => va_P D vwCl (wsF u) t.heap) A
abbrev rmo (fr lo : Nat) : Room := { frames := fr, cells := 0, slots := 0, locals := lo }
/-- contracts: an int (a boolean), a long, nothing comes back -/
def CtI (l : Launch) (y : MethodName) (wds : List Cond) (fr lo : Nat) (D : va_G) (cI cZ : ClassId) (b0 : Nat) (tt : Nat → Nat) {S : Type} (av : List Value) (wsF : S → va_W) (v0 : S) (res : Int32 × S) : Prop := ∀ sz, Met l y wds (rmo fr lo) (va_Pc av (PRE D cI cZ b0 tt (wsF v0) sz)) (QI D wsF (va_A (wsF v0) sz) res) 0 0 (va_A (wsF v0) sz)
def CtL (l : Launch) (y : MethodName) (wds : List Cond) (fr lo : Nat) (D : va_G) (cI cZ : ClassId) (b0 : Nat) (tt : Nat → Nat) {S : Type} (av : List Value) (wsF : S → va_W) (v0 : S) (res : Int64 × S) : Prop := ∀ sz, Met l y wds (rmo fr lo) (va_Pc av (PRE D cI cZ b0 tt (wsF v0) sz)) (QL D wsF (va_A (wsF v0) sz) res) 0 0 (va_A (wsF v0) sz)
def CtV (l : Launch) (y : MethodName) (wds : List Cond) (fr lo : Nat) (D : va_G) (cI cZ : ClassId) (b0 : Nat) (tt : Nat → Nat) {S : Type} (av : List Value) (wsF : S → va_W) (v0 : S) (res : S) : Prop := ∀ sz, Met l y wds (rmo fr lo) (va_Pc av (PRE D cI cZ b0 tt (wsF v0) sz)) (QV D wsF (va_A (wsF v0) sz) res) 0 0 (va_A (wsF v0) sz)
/-- what stands fixed in a walk -/
def Cx (p : Program) (s : State) (m : MethodId) (args : Array Value) (meth : Method) (c : Code) (cc : ByteArray) (nL : Nat) (ret : Option FieldType) (Ts : List Cond) (own : String) : Prop := p.tables.exec = Jvm.exec ∧ c.code = cc ∧ meth.sig.returnType = ret ∧ c.maxLocals = nL ∧ s.vm.findClass own = some m.cls ∧ (∀ w ∈ Ts, w.before args s = true) ∧ meth.locks = false
theorem k_begin {l : Launch} {y : MethodName} {wds ws' : List Cond} {fr lo : Nat} {D : va_G} {cI cZ : ClassId} {b0 : Nat} {tt : Nat → Nat} {av : List Value} {ws : va_W} {sz : Nat} {Qf : Array Value → State → Outcome → State → Prop} {cc : ByteArray} {maxL : Nat} {ret : Option FieldType}
    (hy : plainName y.cls = true) (hw : wds = Cond.code y cc maxL ret :: ws') (hlen : (lg_sl av).length ≤ maxL)
    (h : ∀ (p : Program) (e : Env) (s : State) (m : MethodId) (below : List Frame) (meth : Method) (c : Code) (ls : Array Slot), Cx p s m av.toArray meth c cc maxL ret wds y.cls → Wd D cI cZ b0 tt (va_A ws sz) s ws s.heap [] → lv_has ls maxL (lv_args 0 av) → W p l e (rmo fr lo) s m av.toArray below meth c s.heap [] 0 0 (MQ below Qf av.toArray s 0 0 (va_A ws sz)) (F0 m 0 ls [])) :
    Met l y wds (rmo fr lo) (va_Pc av (PRE D cI cZ b0 tt ws sz)) Qf 0 0 (va_A ws sz) := by
  refine Met.ofW (cc := cc) (maxL := maxL) (ret := ret) hy hw ?_
  intro p e s m args below meth c s₁ B hml hv
  obtain ⟨rfl, hsz, hP, hD0, hbs, hE⟩ := hv
  subst hsz
  have hl := lv_entry av (n := maxL) hlen
  have hW := h p e s m below meth c _ ⟨B.exec, B.bytes, B.returns, hml, findClass_of_methodNamed B.named, atoms_spec (ws := wds) B.pre, B.notSynchronized⟩ ⟨hP, hD0.self (sz := s.heap.size), va_S.rf, fun q hq => ?_, fun q hq => Or.inr hq, hbs, hE⟩ hl
  · rw [lg_entry_eq]
    exact hW
  · rcases hq with ⟨k, e9, hk⟩ | hq
    · exact hD0.2 k _ hk
    · exact Nat.le_trans hbs hq
section KROWS
variable {p : Program} {l : Launch} {e : Env} {R : Room} {s : State} {m : MethodId} {args : Array Value} {below : List Frame} {meth : Method} {c : Code} {H : Heap} {locs : List Loc} {cells slots : Nat} {Q : State → Prop}
variable {D : va_G} {cI cZ : ClassId} {b0 : Nat} {tt : Nat → Nat} {A : Nat → Prop} {ws : va_W} {cc : ByteArray} {pc : Nat} {ls : Array Slot} {rest : List Value}
theorem k_Z {n d : String} {ty : FieldType} {t N : Nat} {f : Nat → Value} (w : Wd D cI cZ b0 tt A s ws H locs) (h : ST1 b0 s s.heap n d ty t N f) : va_Z "CardHouse" n d (.ref t) A s s.heap ∧ va_T ty t N f A s s.heap := ⟨h.1.narrow w.2.2.2.1, h.2.narrow w.2.2.2.1⟩
theorem k_iret {S : Type} {wsF : S → va_W} {res : Int32 × S} {u : S} {v : Int32} (hx : p.tables.exec = Jvm.exec) (hb : c.code = cc) (hr : meth.sig.returnType = some .int) (hlk : meth.locks = false) (w : Wd D cI cZ b0 tt A s ws H locs) (hws : ws = wsF u) (hf : some (v, u) = some res) (hdg : decode cc pc = .ok (.ireturn, 1)) :
    W p l e R s m args below meth c H locs 0 0 (MQ below (QI D wsF A res) args s 0 0 A) (F0 m pc ls [.int v]) :=
  W.iret hx hb hr (fun t ht hW => ⟨⟨v, u, rfl, Option.some.inj hf, by show va_P D vwCl (wsF u) t.heap; rw [ht, ← hws]; exact w.1⟩, w.2.2.1.F ht⟩) w.2.2.1.2.2 hdg hlk
theorem k_zret {S : Type} {wsF : S → va_W} {res : Int32 × S} {u : S} {v : Int32} (hx : p.tables.exec = Jvm.exec) (hb : c.code = cc) (hr : meth.sig.returnType = some .boolean) (hlk : meth.locks = false) (w : Wd D cI cZ b0 tt A s ws H locs) (hws : ws = wsF u) (hn : narrow .boolean (.int v) = .int v) (hf : some (v, u) = some res) (hdg : decode cc pc = .ok (.ireturn, 1)) :
    W p l e R s m args below meth c H locs 0 0 (MQ below (QI D wsF A res) args s 0 0 A) (F0 m pc ls [.int v]) :=
  W.zret hx hb hr hn (fun t ht hW => ⟨⟨v, u, rfl, Option.some.inj hf, by show va_P D vwCl (wsF u) t.heap; rw [ht, ← hws]; exact w.1⟩, w.2.2.1.F ht⟩) w.2.2.1.2.2 hdg hlk
theorem k_lret {S : Type} {wsF : S → va_W} {res : Int64 × S} {u : S} {v : Int64} (hx : p.tables.exec = Jvm.exec) (hb : c.code = cc) (hr : meth.sig.returnType = some .long) (hlk : meth.locks = false) (w : Wd D cI cZ b0 tt A s ws H locs) (hws : ws = wsF u) (hf : some (v, u) = some res) (hdg : decode cc pc = .ok (.lreturn, 1)) :
    W p l e R s m args below meth c H locs 0 0 (MQ below (QL D wsF A res) args s 0 0 A) (F0 m pc ls [.long v]) :=
  W.lret hx hb hr (fun t ht hW => ⟨⟨v, u, rfl, Option.some.inj hf, by show va_P D vwCl (wsF u) t.heap; rw [ht, ← hws]; exact w.1⟩, w.2.2.1.F ht⟩) w.2.2.1.2.2 hdg hlk
theorem k_vret {S : Type} {wsF : S → va_W} {res : S} {u : S} (hx : p.tables.exec = Jvm.exec) (hb : c.code = cc) (hr : meth.sig.returnType = none) (hlk : meth.locks = false) (w : Wd D cI cZ b0 tt A s ws H locs) (hws : ws = wsF u) (hf : some u = some res) (hdg : decode cc pc = .ok (.return_, 1)) :
    W p l e R s m args below meth c H locs 0 0 (MQ below (QV D wsF A res) args s 0 0 A) (F0 m pc ls []) :=
  W.vret hx hb hr (fun t ht hW => ⟨⟨u, rfl, Option.some.inj hf, by show va_P D vwCl (wsF u) t.heap; rw [ht, ← hws]; exact w.1⟩, w.2.2.1.F ht⟩) w.2.2.1.2.2 hdg hlk
theorem k_ret1 {v r : Int32} (hf : some v = some r) : some (v, ()) = some (r, ()) := by rw [Option.some.inj hf]
theorem k_ret1L {v r : Int64} (hf : some v = some r) : some (v, ()) = some (r, ()) := by rw [Option.some.inj hf]
theorem k_put {a : Nat} (hx : p.tables.exec = Jvm.exec) (hb : c.code = cc) {own ref C : String} {T : u_T} {N ci index : Nat} {Ts : List Cond} (hts : ∀ w ∈ Ts, w.before args s = true) (hin : ∀ w ∈ u_ws C T N, w ∈ Ts) (ty0 : Nat → FieldType) (hty : ∀ k, k < N → parseFieldDescriptor (T k).2.2.1 = some (ty0 k)) (hnm : ∀ a, a < N → ∀ b, b < N → a ≠ b → (T a).2.1 ≠ (T b).2.1) (hown : s.vm.findClass own = some m.cls) (w : Wd D cI cZ b0 tt A s ws H locs) (q0 : Nat) {fs : List Value} (he : ws[q0]? = some (a, .inr (ci, fs))) (hc : vwCl[ci]? = some (C, T, N)) (k : Nat) (hk : k < N) (hlink : (Cond.fieldLink own index ref (T k).2.1 (T k).2.2.1).before args s = true) (hsame : ∀ x, s.fieldFound? (T k).1 (T k).2.1 (T k).2.2.1 = some x → s.fieldFound? ref (T k).2.1 (T k).2.2.1 = some x) (hfin : (T k).2.2.2 = false) {ty : FieldType} {v : Value} (hd : parseFieldDescriptor (T k).2.2.1 = some ty) (hn : narrow ty v = v) (hfit : fits ty v = true) (hl : k < fs.length)
    (hdg : decode cc pc = .ok (.putfield index, 3)) (kk : ∀ (H1 : Heap) (locs1 : List Loc), Wd D cI cZ b0 tt A s (ws.set q0 (a, .inr (ci, fs.set k v))) H1 locs1 → W p l e R s m args below meth c H1 locs1 cells slots Q (F0 m (pc + 3) ls rest)) : W p l e R s m args below meth c H locs cells slots Q (F0 m pc ls (v :: .ref a :: rest)) :=
  va_put hx hb hts hin ty0 hty hnm hown w.2.2.2.2.2.2.1 w.1 w.2.1 w.2.2.1 q0 he hc k hk hlink hsame hfin hd hn hfit hl hdg (fun H1 locs1 h1 h2 h3 => kk H1 locs1 ⟨h1, h2, h3, w.2.2.2⟩)
theorem k_putN {a : Nat} (hx : p.tables.exec = Jvm.exec) (hb : c.code = cc) {own ref C host : String} {T : u_T} {N ci index : Nat} {Ts : List Cond} (hts : ∀ w ∈ Ts, w.before args s = true) (hin : ∀ w ∈ u_ws C T N, w ∈ Ts) (ty0 : Nat → FieldType) (hty : ∀ k, k < N → parseFieldDescriptor (T k).2.2.1 = some (ty0 k)) (hnm : ∀ a, a < N → ∀ b, b < N → a ≠ b → (T a).2.1 ≠ (T b).2.1) (hown : s.vm.findClass own = some m.cls) (w : Wd D cI cZ b0 tt A s ws H locs) (q0 : Nat) {fs : List Value} (he : ws[q0]? = some (a, .inr (ci, fs))) (hc : vwCl[ci]? = some (C, T, N)) (k : Nat) (hk : k < N) (hlink : (Cond.fieldLinkNest own index ref (T k).2.1 (T k).2.2.1 host).before args s = true) (hsame : ∀ x, s.fieldFound? (T k).1 (T k).2.1 (T k).2.2.1 = some x → s.fieldFound? ref (T k).2.1 (T k).2.2.1 = some x) (hfin : (T k).2.2.2 = false) {ty : FieldType} {v : Value} (hd : parseFieldDescriptor (T k).2.2.1 = some ty) (hn : narrow ty v = v) (hfit : fits ty v = true) (hl : k < fs.length)
    (hdg : decode cc pc = .ok (.putfield index, 3)) (kk : ∀ (H1 : Heap) (locs1 : List Loc), Wd D cI cZ b0 tt A s (ws.set q0 (a, .inr (ci, fs.set k v))) H1 locs1 → W p l e R s m args below meth c H1 locs1 cells slots Q (F0 m (pc + 3) ls rest)) : W p l e R s m args below meth c H locs cells slots Q (F0 m pc ls (v :: .ref a :: rest)) :=
  va_putN hx hb hts hin ty0 hty hnm hown w.2.2.2.2.2.2.1 w.1 w.2.1 w.2.2.1 q0 he hc k hk hlink hsame hfin hd hn hfit hl hdg (fun H1 locs1 h1 h2 h3 => kk H1 locs1 ⟨h1, h2, h3, w.2.2.2⟩)
theorem k_iast {a : Nat} (hx : p.tables.exec = Jvm.exec) (hb : c.code = cc) (w : Wd D cI cZ b0 tt A s ws H locs) (q0 : Nat) {n : Nat} {f : Nat → Int32} (ha : ws[q0]? = some (a, .inl (cI, n, .inl f))) {i x : Int32} (hin : vp_in i n) (hdg : decode cc pc = .ok (.iastore, 1))
    (kk : ∀ (H1 : Heap) (locs1 : List Loc), Wd D cI cZ b0 tt A s (ws.set q0 (a, .inl (cI, n, .inl (upd f i.toNatClampNeg x)))) H1 locs1 → W p l e R s m args below meth c H1 locs1 cells slots Q (F0 m (pc + 1) ls rest)) : W p l e R s m args below meth c H locs cells slots Q (F0 m pc ls (.int x :: .int i :: .ref a :: rest)) :=
  va_iast hx hb w.2.2.2.2.2.2.1 w.1 w.2.1 w.2.2.1 q0 0 ha rfl hin hdg (fun H1 locs1 h1 h2 h3 => kk H1 locs1 ⟨h1, h2, h3, w.2.2.2⟩)
theorem k_zast {a : Nat} (hx : p.tables.exec = Jvm.exec) (hb : c.code = cc) (w : Wd D cI cZ b0 tt A s ws H locs) (q0 : Nat) {n : Nat} {f : Nat → Int32} (ha : ws[q0]? = some (a, .inl (cZ, n, .inl f))) {i x : Int32} (hin : vp_in i n) (hdg : decode cc pc = .ok (.bastore, 1))
    (kk : ∀ (H1 : Heap) (locs1 : List Loc), Wd D cI cZ b0 tt A s (ws.set q0 (a, .inl (cZ, n, .inl (upd f i.toNatClampNeg (vp_nar .boolean x))))) H1 locs1 → W p l e R s m args below meth c H1 locs1 cells slots Q (F0 m (pc + 1) ls rest)) : W p l e R s m args below meth c H locs cells slots Q (F0 m pc ls (.int x :: .int i :: .ref a :: rest)) :=
  va_zast hx hb w.2.2.2.2.2.2.1 w.1 w.2.1 w.2.2.1 q0 1 ha rfl hin hdg (fun H1 locs1 h1 h2 h3 => kk H1 locs1 ⟨h1, h2, h3, w.2.2.2⟩)
/-- places of a world taken anew -/
def lk (k : Nat) : List Nat → va_W → Nat × va_E → Nat × va_E
  | i :: is, x :: xs, q => bif Nat.beq i k then x else lk k is xs q
  | _, _, q => q
def replF (is : List Nat) (w1 : va_W) : Nat → va_W → va_W
  | _, [] => []
  | k, q :: qs => lk k is w1 q :: replF is w1 (k + 1) qs
abbrev repl (ws : va_W) (is : List Nat) (w1 : va_W) : va_W := replF is w1 0 ws
theorem lk_get (k : Nat) : ∀ (is : List Nat) (w1 : va_W) (q : Nat × va_E), is.length = w1.length → (∃ j : Nat, is[j]? = some k ∧ w1[j]? = some (lk k is w1 q)) ∨ (k ∉ is ∧ lk k is w1 q = q)
  | [], _, q, _ => Or.inr ⟨List.not_mem_nil, rfl⟩
  | i :: is, [], q, hl => by simp at hl
  | i :: is, x :: xs, q, hl => by
    by_cases c : i = k
    · subst c
      exact Or.inl ⟨0, rfl, by simp [lk]⟩
    · have e : lk k (i :: is) (x :: xs) q = lk k is xs q := by
        have hb : Nat.beq i k = false := by
          cases hbb : Nat.beq i k with
          | false => rfl
          | true => exact absurd (Nat.eq_of_beq_eq_true hbb) c
        simp [lk, hb]
      rw [e]
      rcases lk_get k is xs q (by simpa using hl) with ⟨j, h3, h4⟩ | ⟨h3, h4⟩
      · exact Or.inl ⟨j + 1, by simpa using h3, by simpa using h4⟩
      · exact Or.inr ⟨by simp [h3]; exact fun e => c e.symm, h4⟩
theorem replF_get {is : List Nat} {w1 : va_W} (hl : is.length = w1.length) : ∀ (ws : va_W) (b k : Nat) (q : Nat × va_E), (replF is w1 b ws)[k]? = some q → (∃ j : Nat, is[j]? = some (b + k) ∧ w1[j]? = some q) ∨ (b + k ∉ is ∧ ws[k]? = some q)
  | [], b, k, q, h => by simp [replF] at h
  | x :: xs, b, 0, q, h => by
    have h2 : lk b is w1 x = q := by simpa [replF] using h
    subst h2
    rcases lk_get b is w1 x hl with ⟨j, h3, h4⟩ | ⟨h3, h4⟩
    · exact Or.inl ⟨j, h3, h4⟩
    · exact Or.inr ⟨h3, by rw [h4]; rfl⟩
  | x :: xs, b, k + 1, q, h => by
    have h2 : (replF is w1 (b + 1) xs)[k]? = some q := by simpa [replF] using h
    have h3 := replF_get hl xs (b + 1) k q h2
    rw [show b + 1 + k = b + (k + 1) by omega] at h3
    simpa using h3
theorem repl_get {ws : va_W} (is : List Nat) (w1 : va_W) (hl : is.length = w1.length) (k : Nat) (q : Nat × va_E) (h : (repl ws is w1)[k]? = some q) : (∃ j : Nat, is[j]? = some k ∧ w1[j]? = some q) ∨ (k ∉ is ∧ ws[k]? = some q) := by
  have h3 := replF_get hl ws 0 k q h
  rwa [Nat.zero_add] at h3
theorem k_pick {ws wc : va_W} {is : List Nat} (his : is.map (fun i => ws[i]?) = wc.map some) {k : Nat} {q : Nat × va_E} (hq : wc[k]? = some q) : ∃ i : Nat, is[k]? = some i ∧ ws[i]? = some q := by
  have h1 : (is.map (fun i => ws[i]?))[k]? = some (some q) := by rw [his, List.getElem?_map, hq]; rfl
  rw [List.getElem?_map] at h1
  cases hi : is[k]? with
  | none => rw [hi] at h1; cases h1
  | some i => rw [hi] at h1; exact ⟨i, rfl, Option.some.inj h1⟩
theorem k_adr {wc w1 : va_W} (hadr : w1.map (·.1) = wc.map (·.1)) {k : Nat} {q : Nat × va_E} (h : w1[k]? = some q) : ∃ e, wc[k]? = some (q.1, e) := by
  have h1 : (wc.map (·.1))[k]? = some q.1 := by rw [← hadr, List.getElem?_map, h]; rfl
  rw [List.getElem?_map] at h1
  cases hi : wc[k]? with
  | none => rw [hi] at h1; cases h1
  | some z => rw [hi] at h1; exact ⟨z.2, by rw [← Option.some.inj h1]⟩
theorem k_after {wc w1 : va_W} {H1 : Heap} {locs1 : List Loc} (w : Wd D cI cZ b0 tt A s ws H locs) (is : List Nat) (his : is.map (fun i => ws[i]?) = wc.map some) (hadr : w1.map (·.1) = wc.map (·.1)) (hS : va_S A s.heap H1 locs1) (hk : ∀ q : Nat, q < H.size → ¬ va_A wc H.size q → H1[q]? = H[q]?) (hP1 : va_P D vwCl w1 H1) : Wd D cI cZ b0 tt A s (repl ws is w1) H1 locs1 := by
  have hlen : is.length = w1.length := by
    have a1 := congrArg List.length his
    have a2 := congrArg List.length hadr
    simp at a1 a2
    omega
  have key : ∀ (k : Nat) (q : Nat × va_E), (repl ws is w1)[k]? = some q → ∃ e, ws[k]? = some (q.1, e) := by
    intro k q hq
    rcases repl_get is w1 hlen k q hq with ⟨j, h1, h2⟩ | ⟨-, h2⟩
    · obtain ⟨e9, h3⟩ := k_adr hadr h2
      obtain ⟨i, h4, h5⟩ := k_pick his h3
      rw [h1] at h4
      cases h4
      exact ⟨e9, h5⟩
    · exact ⟨q.2, h2⟩
  refine ⟨?_, ⟨?_, ?_⟩, hS, w.2.2.2⟩
  · intro k q hq
    rcases repl_get is w1 hlen k q hq with ⟨j, h1, h2⟩ | ⟨h1, h2⟩
    · exact hP1 j q h2
    · have hat := w.1 k q h2
      refine hat.kept (hk q.1 hat.lt ?_)
      rintro (⟨k2, e2, h3⟩ | h3)
      · obtain ⟨i, h4, h5⟩ := k_pick his h3
        have := w.2.1.1 i k _ _ h5 h2 rfl
        subst this
        exact h1 (List.mem_of_getElem? h4)
      · exact absurd hat.lt (Nat.not_lt.mpr h3)
  · intro i j a b ha hb hab
    obtain ⟨e1, h1⟩ := key i a ha
    obtain ⟨e2, h2⟩ := key j b hb
    exact w.2.1.1 i j _ _ h1 h2 hab
  · intro k q hq
    obtain ⟨e1, h1⟩ := key k q hq
    exact w.2.1.2 k (q.1, e1) h1
theorem k_after0 {wc : va_W} {H1 : Heap} {locs1 : List Loc} (w : Wd D cI cZ b0 tt A s ws H locs) (is : List Nat) (his : is.map (fun i => ws[i]?) = wc.map some) (hS : va_S A s.heap H1 locs1) (hk : ∀ q : Nat, q < H.size → ¬ va_A wc H.size q → H1[q]? = H[q]?) (hP1 : va_P D vwCl wc H1) : Wd D cI cZ b0 tt A s ws H1 locs1 := by
  refine ⟨?_, w.2.1, hS, w.2.2.2⟩
  intro k q hq
  have hat := w.1 k q hq
  by_cases hc : va_A wc H.size q.1
  · rcases hc with ⟨k2, e2, h3⟩ | h3
    · obtain ⟨i, h4, h5⟩ := k_pick his h3
      have e1 := w.2.1.1 i k _ _ h5 hq rfl
      subst e1
      rw [hq] at h5
      have e2 := Option.some.inj h5
      rw [e2]
      exact hP1 k2 _ h3
    · exact absurd hat.lt (Nat.not_lt.mpr h3)
  · exact hat.kept (hk q.1 hat.lt hc)
theorem k_free {wc : va_W} (w : Wd D cI cZ b0 tt A s ws H locs) (is : List Nat) (his : is.map (fun i => ws[i]?) = wc.map some) : ∀ q, va_A wc H.size q → A q := by
  rintro q (⟨k, e9, h⟩ | h)
  · obtain ⟨i, -, h2⟩ := k_pick his h
    exact w.2.1.2 i _ h2
  · exact w.2.2.2.2.1 q (Nat.le_trans w.2.2.1.1 h)
theorem k_pre {wc : va_W} (w : Wd D cI cZ b0 tt A s ws H locs) (is : List Nat) (hnd : va_nd is = true) (his : is.map (fun i => ws[i]?) = wc.map some) {U : State} (hU : U.heap = H) (hW : s.WarmedH U.vm) : PRE D cI cZ b0 tt wc H.size U := by
  refine ⟨by rw [hU], ?_, ?_, Nat.le_trans w.2.2.2.2.2.1 w.2.2.1.1, ?_⟩
  · intro k q hq
    obtain ⟨i, -, h2⟩ := k_pick his hq
    rw [hU]
    exact w.1 i q h2
  · exact (w.2.1.sub is hnd his).weaken (fun k q _ h => w.2.2.2.1 _ h)
  · rw [hU]
    exact w.2.2.2.2.2.2.warm hW (fun a ha hna => w.2.2.1.2.1 a ha (fun hA => hna (w.2.2.2.1 a hA)))
theorem k_preV {wc : va_W} {C : String} {bb : Addr} {As : List Value} {q0 ci : Nat} {fs : List Value} {T : u_T} {N : Nat} (w : Wd D cI cZ b0 tt A s ws H locs) (is : List Nat) (hnd : va_nd is = true) (his : is.map (fun i => ws[i]?) = wc.map some) (he : ws[q0]? = some (bb, .inr (ci, fs))) (hc : vwCl[ci]? = some (C, T, N)) : PreV s H C bb (va_Pc (.ref bb :: As) (PRE D cI cZ b0 tt wc H.size)) As :=
  ⟨fun a U g mk q => ⟨q.1, q.2.calling⟩, va_recv w.2.2.2.2.2.2.1 w.1 hc he, fun U hU hW => ⟨rfl, k_pre w is hnd his hU hW⟩⟩
theorem k_preS {wc : va_W} {As : List Value} (w : Wd D cI cZ b0 tt A s ws H locs) (is : List Nat) (hnd : va_nd is = true) (his : is.map (fun i => ws[i]?) = wc.map some) : PreS s H (va_Pc As (PRE D cI cZ b0 tt wc H.size)) As :=
  ⟨fun a U g mk q => ⟨q.1, q.2.calling⟩, fun U hU hW => ⟨rfl, k_pre w is hnd his hU hW⟩⟩
theorem k_goI {S : Type} {wsF : S → va_W} {v0 : S} {res : Int32 × S} {st0 : List Value} {a : Array Value} (w : Wd D cI cZ b0 tt A s ws H locs) (is : List Nat) (his : is.map (fun i => ws[i]?) = (wsF v0).map some) (hadr : ∀ u, (wsF u).map (·.1) = (wsF v0).map (·.1)) (hr : va_Run p l e R s m args below meth c H locs cells slots 0 0 (F0 m pc ls st0) rest (QI D wsF (va_A (wsF v0) H.size) res a) (va_A (wsF v0) H.size))
    (kk : ∀ (H1 : Heap) (locs1 : List Loc), Wd D cI cZ b0 tt A s (repl ws is (wsF res.2)) H1 locs1 → W p l e R s m args below meth c H1 locs1 cells slots Q (F0 m (pc + 3) ls (.int res.1 :: rest))) : W p l e R s m args below meth c H locs cells slots Q (F0 m pc ls st0) := by
  refine va_calli hr w.2.2.1 (fun q _ h => k_free w is his q h) (k_free w is his) (fun r u t H1 locs1 ht hvm hp hB hz hk hS => ?_)
  subst hp
  exact kk H1 locs1 (k_after w is his (hadr u) hS hk (by rw [← ht]; exact hB))
theorem k_goI0 {wc : va_W} {r : Int32} {st0 : List Value} {a : Array Value} (w : Wd D cI cZ b0 tt A s ws H locs) (is : List Nat) (his : is.map (fun i => ws[i]?) = wc.map some) (hr : va_Run p l e R s m args below meth c H locs cells slots 0 0 (F0 m pc ls st0) rest (QI D (fun _ : Unit => wc) (va_A wc H.size) (r, ()) a) (va_A wc H.size))
    (kk : ∀ (H1 : Heap) (locs1 : List Loc), Wd D cI cZ b0 tt A s ws H1 locs1 → W p l e R s m args below meth c H1 locs1 cells slots Q (F0 m (pc + 3) ls (.int r :: rest))) : W p l e R s m args below meth c H locs cells slots Q (F0 m pc ls st0) := by
  refine va_calli hr w.2.2.1 (fun q _ h => k_free w is his q h) (k_free w is his) (fun r2 u t H1 locs1 ht hvm hp hB hz hk hS => ?_)
  have e1 : r2 = r := congrArg Prod.fst hp
  subst e1
  exact kk H1 locs1 (k_after0 w is his hS hk (by rw [← ht]; exact hB))
theorem k_goL0 {wc : va_W} {r : Int64} {st0 : List Value} {a : Array Value} (w : Wd D cI cZ b0 tt A s ws H locs) (is : List Nat) (his : is.map (fun i => ws[i]?) = wc.map some) (hr : va_Run p l e R s m args below meth c H locs cells slots 0 0 (F0 m pc ls st0) rest (QL D (fun _ : Unit => wc) (va_A wc H.size) (r, ()) a) (va_A wc H.size))
    (kk : ∀ (H1 : Heap) (locs1 : List Loc), Wd D cI cZ b0 tt A s ws H1 locs1 → W p l e R s m args below meth c H1 locs1 cells slots Q (F0 m (pc + 3) ls (.long r :: rest))) : W p l e R s m args below meth c H locs cells slots Q (F0 m pc ls st0) := by
  refine va_calll hr w.2.2.1 (fun q _ h => k_free w is his q h) (k_free w is his) (fun r2 u t H1 locs1 ht hvm hp hB hz hk hS => ?_)
  have e1 : r2 = r := congrArg Prod.fst hp
  subst e1
  exact kk H1 locs1 (k_after0 w is his hS hk (by rw [← ht]; exact hB))
theorem k_goL {S : Type} {wsF : S → va_W} {v0 : S} {res : Int64 × S} {st0 : List Value} {a : Array Value} (w : Wd D cI cZ b0 tt A s ws H locs) (is : List Nat) (his : is.map (fun i => ws[i]?) = (wsF v0).map some) (hadr : ∀ u, (wsF u).map (·.1) = (wsF v0).map (·.1)) (hr : va_Run p l e R s m args below meth c H locs cells slots 0 0 (F0 m pc ls st0) rest (QL D wsF (va_A (wsF v0) H.size) res a) (va_A (wsF v0) H.size))
    (kk : ∀ (H1 : Heap) (locs1 : List Loc), Wd D cI cZ b0 tt A s (repl ws is (wsF res.2)) H1 locs1 → W p l e R s m args below meth c H1 locs1 cells slots Q (F0 m (pc + 3) ls (.long res.1 :: rest))) : W p l e R s m args below meth c H locs cells slots Q (F0 m pc ls st0) := by
  refine va_calll hr w.2.2.1 (fun q _ h => k_free w is his q h) (k_free w is his) (fun r u t H1 locs1 ht hvm hp hB hz hk hS => ?_)
  subst hp
  exact kk H1 locs1 (k_after w is his (hadr u) hS hk (by rw [← ht]; exact hB))
theorem k_goV {S : Type} {wsF : S → va_W} {v0 : S} {res : S} {st0 : List Value} {a : Array Value} (w : Wd D cI cZ b0 tt A s ws H locs) (is : List Nat) (his : is.map (fun i => ws[i]?) = (wsF v0).map some) (hadr : ∀ u, (wsF u).map (·.1) = (wsF v0).map (·.1)) (hr : va_Run p l e R s m args below meth c H locs cells slots 0 0 (F0 m pc ls st0) rest (QV D wsF (va_A (wsF v0) H.size) res a) (va_A (wsF v0) H.size))
    (kk : ∀ (H1 : Heap) (locs1 : List Loc), Wd D cI cZ b0 tt A s (repl ws is (wsF res)) H1 locs1 → W p l e R s m args below meth c H1 locs1 cells slots Q (F0 m (pc + 3) ls rest)) : W p l e R s m args below meth c H locs cells slots Q (F0 m pc ls st0) := by
  refine va_callv hr w.2.2.1 (fun q _ h => k_free w is his q h) (k_free w is his) (fun u t H1 locs1 ht hvm hp hB hz hk hS => ?_)
  subst hp
  exact kk H1 locs1 (k_after w is his (hadr u) hS hk (by rw [← ht]; exact hB))
end KROWS
theorem k_nf {D : va_G} {cI cZ : ClassId} {b0 : Nat} {tt : Nat → Nat} {A : Nat → Prop} {s : State} {ws : va_W} {H : Heap} {locs : List Loc} (w : Wd D cI cZ b0 tt A s ws H locs) (k : Nat) {q : String × Nat × String × String × String} (h : nsF[k]? = some q) {args : Array Value} : (Cond.fieldLinkNest q.1 q.2.1 q.2.2.1 q.2.2.2.1 q.2.2.2.2 "CardHouse").before args s = true := va_Nw.use rfl (w.2.2.2.2.2.2.2.2.1 q (List.mem_of_getElem? h))
theorem k_nm {D : va_G} {cI cZ : ClassId} {b0 : Nat} {tt : Nat → Nat} {A : Nat → Prop} {s : State} {ws : va_W} {H : Heap} {locs : List Loc} (w : Wd D cI cZ b0 tt A s ws H locs) (k : Nat) {q : String × Nat × MethodName} (h : nsM[k]? = some q) : va_Nw (.methodLinkNest q.1 q.2.1 q.2.2 "CardHouse") s := w.2.2.2.2.2.2.2.2.2 q (List.mem_of_getElem? h)
theorem gwV {own : String} {idx : Nat} {C : String} {z : MethodName} {cw : Cond} (h1 : Cond.methodLink own idx z ∈ GW) (h2 : Cond.instanceMethod z ∈ GW) (h3 : Cond.selects C z z ∈ GW) (h4 : Cond.initialized C ∈ GW) (h5 : cw ∈ GW) : GoodIn GW (wsV own idx C z (cw :: GW)) := by
  intro w hw
  refine gw_in (fun _ h => h) ?_
  have hw2 : w ∈ ([Cond.methodLink own idx z, .instanceMethod z, .selects C z z, .initialized C] : List Cond) ++ (cw :: GW) := hw
  rcases List.mem_append.mp hw2 with h | h
  · simp only [List.mem_cons, List.not_mem_nil, or_false] at h
    rcases h with rfl | rfl | rfl | rfl
    · exact h1
    · exact h2
    · exact h3
    · exact h4
  · rcases List.mem_cons.mp h with rfl | h
    · exact h5
    · exact h
theorem gwS {own : String} {idx : Nat} {z : MethodName} {cw : Cond} (h1 : Cond.methodLink own idx z ∈ GW) (h2 : Cond.static z ∈ GW) (h3 : Cond.initialized z.cls ∈ GW) (h5 : cw ∈ GW) : GoodIn GW (va_wsS own idx z (cw :: GW)) := by
  intro w hw
  refine gw_in (fun _ h => h) ?_
  have hw2 : w ∈ ([Cond.methodLink own idx z, .static z, .initialized z.cls] : List Cond) ++ (cw :: GW) := hw
  rcases List.mem_append.mp hw2 with h | h
  · simp only [List.mem_cons, List.not_mem_nil, or_false] at h
    rcases h with rfl | rfl | rfl
    · exact h1
    · exact h2
    · exact h3
  · rcases List.mem_cons.mp h with rfl | h
    · exact h5
    · exact h
theorem gwN {cw : Cond} (h5 : cw ∈ GW) : GoodIn GW (cw :: GW) := by
  intro w hw
  refine gw_in (fun _ h => h) ?_
  rcases List.mem_cons.mp hw with rfl | h
  · exact h5
  · exact h
theorem pd_I : parseFieldDescriptor "I" = some .int := by decide +kernel
theorem pd_J : parseFieldDescriptor "J" = some .long := by decide +kernel
