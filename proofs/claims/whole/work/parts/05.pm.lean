/-! the text read -/
def lf (g : Nat → Nat) (ca : Nat → Int32) (k : Nat) : Int32 := ca k - nI (usd g k)
def lss (g : Nat → Nat) (ca : Nat → Int32) (p k : Nat) : Bool := decide (lf g ca k < nI (ndp p))
def tl (g : Nat → Nat) (ca : Nat → Int32) (p : Nat) : Bool := rmf g p && !(lss g ca p 0 && (lss g ca p 1 && (lss g ca p 2 && lss g ca p 3)))
def MX (g : Nat → Nat) (ca : Nat → Int32) : Int32 := up (fun k a => if a < lf g ca k then lf g ca k else a) 0 4 0
theorem mx_lt (a b d : Int32) : (if a < b then b else a) < d ↔ a < d ∧ b < d := by
  by_cases c : a < b
  · rw [if_pos c]
    rw [fa_lt] at c
    rw [fa_lt, fa_lt]
    omega
  · rw [if_neg c]
    rw [fa_lt] at c
    rw [fa_lt, fa_lt]
    omega
theorem ndp_pos : ∀ p, p < 16 → (0 : Int32) < nI (ndp p) := by decide +kernel
theorem MX_lt (g : Nat → Nat) (ca : Nat → Int32) {p : Nat} (hp : p < 16) : decide (MX g ca < nI (ndp p)) = (lss g ca p 0 && (lss g ca p 1 && (lss g ca p 2 && lss g ca p 3))) := by
  unfold MX
  simp only [up]
  unfold lss
  have h0 := ndp_pos p hp
  rw [decide_eq_decide.mpr (mx_lt _ _ _)]
  by_cases c3 : lf g ca 3 < nI (ndp p)
  · by_cases c2 : lf g ca 2 < nI (ndp p)
    · by_cases c1 : lf g ca 1 < nI (ndp p)
      · by_cases c0 : lf g ca 0 < nI (ndp p)
        · rw [decide_eq_true c0, decide_eq_true c1, decide_eq_true c2, decide_eq_true c3, decide_eq_true ⟨(mx_lt _ _ _).mpr ⟨(mx_lt _ _ _).mpr ⟨(mx_lt _ _ _).mpr ⟨h0, c0⟩, c1⟩, c2⟩, c3⟩]
          rfl
        · rw [decide_eq_false c0, decide_eq_false (fun z => c0 (((mx_lt _ _ _).mp ((mx_lt _ _ _).mp ((mx_lt _ _ _).mp z.1).1).1).2))]
          rfl
      · rw [decide_eq_false c1, Bool.false_and, Bool.and_false, decide_eq_false (fun z => c1 (((mx_lt _ _ _).mp ((mx_lt _ _ _).mp z.1).1).2))]
    · rw [decide_eq_false c2, Bool.false_and, Bool.and_false, Bool.and_false, decide_eq_false (fun z => c2 (((mx_lt _ _ _).mp z.1).2))]
  · rw [decide_eq_false c3, Bool.and_false, Bool.and_false, Bool.and_false, decide_eq_false (fun z => c3 z.2)]
theorem c_most {g : Nat → Nat} {ki : Int32} (hk : KI g ki) (h4 : PG g) (ca : Nat → Int32) : fX1_mostCardsLeft (TH g) ki ca = some (MX g ca) := by
  unfold fX1_mostCardsLeft
  exact loop_up0 (f := fun n i a => fX1_mostCardsLeft_L4 (TH g) ki ca n a (nI i)) (N := 4) (st := fun k a => if a < lf g ca k then lf g ca k else a) (ex := fun a => some a) (by
    intro n a
    show fX1_mostCardsLeft_L4 (TH g) ki ca (n + 1) a (nI 4) = _
    rw [fX1_mostCardsLeft_L4, if_pos y4]) (by
    intro n i a hi
    show fX1_mostCardsLeft_L4 (TH g) ki ca (n + 1) a (nI i) = fX1_mostCardsLeft_L4 (TH g) ki ca n _ (nI (i + 1))
    rw [fX1_mostCardsLeft_L4, if_neg (n4 hi), c_cardsLeft hk h4 ca hi, ob_some]
    simp only [nm_eq, nI_1]
    rfl) FU 0 (FU_gt (by omega))
theorem c_canTell (g : Nat → Nat) (ca : Nat → Int32) {p : Nat} (hp : p < 16) : fX3_canBeTold (TH g) (nI p) (MX g ca) = some (bI (tl g ca p)) := by
  unfold fX3_canBeTold tl
  rw [c_hasRoomFor g hp, ob_some, c_cardsOf p hp, ob_some, ← MX_lt g ca hp]
  cases rmf g p with
  | false => rfl
  | true =>
    rw [if_pos rfl, if_neg one0]
    by_cases c : MX g ca < nI (ndp p)
    · rw [if_pos c, decide_eq_true c]
      rfl
    · rw [if_neg c, decide_eq_false c]
      rfl
theorem m_enough {g : Nat → Nat} {rp rc : Nat → Int32} (hg : ∀ p, p < 16 → rp p = nI (g p)) (h4 : PG g) {p k : Nat} (hp : p < 16) (hk : k < 4) : fX5_enough rc rp (nI p) (nI k) = some (bI (!lss g rc p k)) := by
  unfold fX5_enough lss
  rw [gdn hk (by decide), m_used hg h4 hk, ob_some, m_need p hp, ob_some, clN (by omega)]
  show (if lf g rc k < nI (ndp p) then some 0 else some 1) = _
  by_cases c : lf g rc k < nI (ndp p)
  · rw [if_pos c, decide_eq_true c]
    rfl
  · rw [if_neg c, decide_eq_false c]
    rfl
theorem m_couldCome {g : Nat → Nat} {fe : Int32} {rp rc : Nat → Int32} (hM : MR g fe rp) (h4 : PG g) {p : Nat} (hp : p < 16) : fX5_couldCome rc rp (nI p) = some (bI (tl g rc p)) := by
  unfold fX5_couldCome tl rmf
  have hpp := page_pos hM h4 hp
  have e0 : fX5_enough rc rp (nI p) 0 = some (bI (!lss g rc p 0)) := m_enough hM.1 h4 hp (k := 0) (by decide)
  have e1 : fX5_enough rc rp (nI p) 1 = some (bI (!lss g rc p 1)) := m_enough hM.1 h4 hp (k := 1) (by decide)
  have e2 : fX5_enough rc rp (nI p) 2 = some (bI (!lss g rc p 2)) := m_enough hM.1 h4 hp (k := 2) (by decide)
  have e3 : fX5_enough rc rp (nI p) 3 = some (bI (!lss g rc p 3)) := m_enough hM.1 h4 hp (k := 3) (by decide)
  rw [gdn (by omega) (by decide), clN (by omega), m_below p hp, ob_some, f_there hM.1 h4, ob_some, e0, e1, e2, e3]
  simp only [ob_some]
  by_cases z : g p = 0
  · rw [if_neg (fun y => (hpp.2.2.mp y) z), decide_eq_true z]
    by_cases c : (sUN p &&& (TH g ^^^ (-1))) = 0
    · rw [if_pos c, decide_eq_true c]
      cases lss g rc p 0 <;> cases lss g rc p 1 <;> cases lss g rc p 2 <;> cases lss g rc p 3 <;> rfl
    · rw [if_neg c, decide_eq_false c]
      rfl
  · rw [if_pos (hpp.2.2.mpr z), decide_eq_false z]
    rfl
def anyT (g : Nat → Nat) (ca : Nat → Int32) (i r : Nat) : Bool := up (fun p b => b || tl g ca p) i r false
theorem any_t (g : Nat → Nat) (ca : Nat → Int32) : ∀ r i, up (fun p b => b || tl g ca p) i r true = true
  | 0, i => rfl
  | r + 1, i => by
    show up _ (i + 1) r (true || tl g ca i) = true
    rw [Bool.true_or]
    exact any_t g ca r (i + 1)
theorem c_canAny {g : Nat → Nat} {ki : Int32} (hk : KI g ki) (h4 : PG g) (ca : Nat → Int32) : fX3_canAnyBeTold (TH g) ki ca = some (bI (anyT g ca 0 16)) := by
  unfold fX3_canAnyBeTold
  rw [c_most hk h4, ob_some]
  have h : ∀ r i n, i + r = 16 → r < n → fX3_canAnyBeTold_L7 (MX g ca) (TH g) ki ca n (nI i) = some (bI (anyT g ca i r)) := by
    intro r
    induction r with
    | zero =>
      intro i n h1 h2
      have e : i = 16 := by omega
      subst e
      cases n with
      | zero => omega
      | succ n =>
        rw [fX3_canAnyBeTold_L7, if_pos y16]
        rfl
    | succ r ih =>
      intro i n h1 h2
      cases n with
      | zero => omega
      | succ n =>
        rw [fX3_canAnyBeTold_L7, if_neg (n16 (by omega)), c_canTell g ca (by omega), ob_some, nm_eq, nI_1]
        show _ = some (bI (up (fun p b => b || tl g ca p) (i + 1) r (false || tl g ca i)))
        cases tl g ca i with
        | false =>
          rw [if_pos (show bI false = 0 from rfl)]
          exact ih (i + 1) n (by omega) (by omega)
        | true =>
          rw [if_neg (show ¬ bI true = 0 by decide), Bool.or_true, any_t]
          rfl
  exact h 16 0 FU rfl (FU_gt (by omega))
theorem m_couldAny {g : Nat → Nat} {fe : Int32} {rp rc : Nat → Int32} (hM : MR g fe rp) (h4 : PG g) : fX5_couldAny rc rp = some (bI (anyT g rc 0 16)) := by
  unfold fX5_couldAny
  have h1 := loop_up0 (f := fun n i b => fX5_couldAny_L4 rc rp n (bI b) (nI i)) (N := 16) (st := fun p b => b || tl g rc p) (ex := fun b => some (bI b)) (by
    intro n b
    show fX5_couldAny_L4 rc rp (n + 1) (bI b) (nI 16) = _
    rw [fX5_couldAny_L4, if_pos y16]
    cases b
    · exact gz_in (Or.inl rfl)
    · exact gz_in (Or.inr rfl)) (by
    intro n i b hi
    show fX5_couldAny_L4 rc rp (n + 1) (bI b) (nI i) = fX5_couldAny_L4 rc rp n (bI _) (nI (i + 1))
    rw [fX5_couldAny_L4, if_neg (n16 hi), m_couldCome hM h4 hi, ob_some]
    simp only [nm_eq, nI_1]
    cases b with
    | false =>
      rw [if_pos (show bI false = 0 from rfl)]
      cases tl g rc i <;> rfl
    | true =>
      rw [if_neg (show ¬ bI true = 0 by decide)]
      rfl) FU false (FU_gt (by omega))
  exact h1
theorem lss_congr {g : Nat → Nat} {a b : Nat → Int32} (h : RCa a b) (p : Nat) {k : Nat} (hk : k < 4) : lss g a p k = lss g b p k := by
  unfold lss lf
  rw [h k hk]
theorem tl_congr {g : Nat → Nat} {a b : Nat → Int32} (h : RCa a b) (p : Nat) : tl g a p = tl g b p := by
  unfold tl
  rw [lss_congr h p (k := 0) (by decide), lss_congr h p (k := 1) (by decide), lss_congr h p (k := 2) (by decide), lss_congr h p (k := 3) (by decide)]
theorem any_congr {g : Nat → Nat} {a b : Nat → Int32} (h : RCa a b) : anyT g a 0 16 = anyT g b 0 16 := by
  unfold anyT
  apply up_cg
  intro j x _ _
  rw [tl_congr h]
def QR (g : Nat → Nat) (th ki : Int32) (ca rc rp : Nat → Int32) : Prop := th = TH g ∧ KI g ki ∧ PG g ∧ Sup g ∧ MR g 0 rp ∧ RCa ca rc
theorem m_figure {ln j : Nat} (hj : j < ln) (hl : ln ≤ 56) (t : Nat → Int32) (most : Int32) : fX5_figure (nI ln) (nI j) t most = if 0 ≤ t j - 48 ∧ t j - 48 ≤ most then some (t j - 48, nI (j + 1)) else some (-9, nI j) := by
  unfold fX5_figure
  have e1 : nI j + 1 = nI (j + 1) := nI_1 j
  have e2 : nI (j + 1) - 1 = nI j := nI_pred j
  rw [if_neg (fun z => by have := (nI_eq (by omega) (by omega)).mp z; omega), gdn (show j < 56 by omega) (by decide), clN (by omega)]
  have hi : fX5_in (t j - 48).toInt64 0 most.toInt64 = some (if 0 ≤ t j - 48 ∧ t j - 48 ≤ most then 1 else 0) := m_in (t j - 48) 0 most
  rw [hi, ob_some]
  by_cases c : 0 ≤ t j - 48 ∧ t j - 48 ≤ most
  · rw [if_pos c, if_neg one0, if_pos c, nm_eq, e1, e2, gdn (show j < 56 by omega) (by decide), clN (by omega)]
  · rw [if_neg c, if_pos zz0, if_neg c]
theorem m_figure_end {ln : Nat} (t : Nat → Int32) (most : Int32) : fX5_figure (nI ln) (nI ln) t most = some (-9, nI ln) := by
  unfold fX5_figure
  rw [if_pos rfl]
