/-! draughts, cards, putting, taking -/
def lvN (p : Nat) : Nat := if p < 7 then 0 else if p < 12 then 1 else if p < 15 then 2 else 3
def tnt (lv p : Nat) : Bool := !flt p && decide (lvN p = lv)
theorem s_TL : ∀ lv, lv < 4 → ∀ p, p < 16 → bt (sTL lv) p = tnt lv p := by decide +kernel
theorem c_isLevel : ∀ lv, lv < 4 → fX4_isLevel (nI lv) = some 1 := by decide +kernel
theorem m_level : ∀ p, p < 16 → fX5_level (nI p) = some (nI (lvN p)) := by decide +kernel
theorem lvN_lt (p : Nat) : lvN p < 4 := by
  unfold lvN
  split
  · omega
  · split
    · omega
    · split <;> omega
theorem c_isTent (g : Nat → Nat) {p lv : Nat} (hp : p < 16) (hl : lv < 4) : fX1_isTentOfLevel (TH g) (nI p) (nI lv) = some (if (decide (g p ≠ 0) && tnt lv p) = true then 1 else 0) := by
  unfold fX1_isTentOfLevel
  rw [c_isLevel lv hl, ob_some, if_neg (by decide), gdn hl (by decide), clN (by omega)]
  have e := and_b1 (TH g &&& sTL lv) (p := p) (by omega)
  rw [b_and, bt_TH' g hp, s_TL lv hl p hp] at e
  show (if ((TH g &&& sTL lv) &&& b1 p) = 0 then some 0 else some 1) = _
  cases hb : (decide (g p ≠ 0) && tnt lv p) with
  | true =>
    rw [hb] at e
    rw [if_neg (fun z => by have := e.mp z; cases this)]
    rfl
  | false =>
    rw [hb] at e
    rw [if_pos (e.mpr rfl)]
    rfl
theorem m_isTent {g : Nat → Nat} {h : Nat → Int32} (hg : ∀ p, p < 16 → h p = nI (g p)) (h4 : PG g) {p lv : Nat} (hp : p < 16) (hl : lv < 4) : fX5_isTentOf h (nI p) (nI lv) = some (if (decide (g p ≠ 0) && tnt lv p) = true then 1 else 0) := by
  unfold fX5_isTentOf
  have hb := h4 p hp
  rw [gdn (by omega) (by decide), clN (by omega), hg p hp, m_isFlat p hp, ob_some, m_level p hp, ob_some]
  unfold tnt
  by_cases e : g p = 0
  · rw [if_pos (by rw [e]; decide)]
    simp [e]
  · rw [if_neg (nI_nle (by omega) (by omega))]
    cases flt p with
    | true => simp
    | false =>
      simp only [if_neg (show ¬ (false = true) by decide), if_true]
      by_cases e2 : lvN p = lv
      · rw [if_pos (by rw [e2])]
        simp [e, e2]
      · have := lvN_lt p
        rw [if_neg (fun z => e2 ((nI_eq (by omega) (by omega)).mp z))]
        simp [e2]
def gri (v : Nat) : Int32 := if v = 2 then 8 else if v = 3 then -8 else 0
def frm (g : Nat → Nat) (i : Nat) : Int32 := (nI (wt g i) + nI (LD g i)) + gri (g i)
theorem s_GR {v : Nat} (h0 : v ≠ 0) (h4 : v ≤ 4) : sGR (v - 1) = gri v := by
  rcases (by omega : v = 1 ∨ v = 2 ∨ v = 3 ∨ v = 4) with e | e | e | e <;> subst e <;> rfl
theorem c_isKind : ∀ k, k < 4 → fX4_isKind (nI k) = some 1 := by decide +kernel
theorem c_steady {v : Nat} (h0 : v ≠ 0) (h4 : v ≤ 4) (ld : Int32) : fX4_steadiness (nI (v - 1)) ld = some ((nI (2 * (if v = 4 then 16 else 8)) + ld) + gri v) := by
  unfold fX4_steadiness
  rw [c_cardWeight h4 h0, ob_some, c_isKind (v - 1) (by omega), ob_some, if_neg (by decide), gdn (by omega) (by decide), clN (by omega), s_GR h0 h4, show (2 : Int32) * nI (if v = 4 then 16 else 8) = nI (2 * (if v = 4 then 16 else 8)) from pk_mul 2 _]
theorem wt_tent {g : Nat → Nat} {p : Nat} (h : flt p = false) : wt g p = 2 * (if g p = 4 then 16 else 8) := by
  unfold wt ndp
  unfold flt at h
  rw [if_neg (by simpa using h)]
theorem c_firm {g : Nat → Nat} {p : Nat} (h0 : g p ≠ 0) (h4 : g p ≤ 4) (hf : flt p = false) : fX4_steadiness (nI (g p - 1)) (nI (LD g p)) = some (frm g p) := by
  rw [c_steady h0 h4]
  unfold frm
  rw [wt_tent hf]
theorem m_grip {v : Nat} (h0 : v ≠ 0) (h4 : v ≤ 4) : fX5_grip (nI v - 1) = some (gri v) := by
  rcases (by omega : v = 1 ∨ v = 2 ∨ v = 3 ∨ v = 4) with e | e | e | e <;> subst e <;> decide +kernel
theorem m_firm {g : Nat → Nat} {h L : Nat → Int32} (hg : ∀ p, p < 16 → h p = nI (g p)) (h4 : PG g) (hL : ∀ q, q < 16 → L q = nI (LD g q)) {p : Nat} (hp : p < 16) (h0 : g p ≠ 0) : fX5_firm h L (nI p) = some (frm g p) := by
  unfold fX5_firm
  simp only [gdn (show p < 17 by omega) (show (17 : Nat) < 2 ^ 31 by decide), gdn hp (show (16 : Nat) < 2 ^ 31 by decide), clN (show p < 2 ^ 31 by omega), hg p hp]
  rw [m_weighs hp (h4 p hp) h0, ob_some, m_grip h0 (h4 p hp), ob_some, hL p hp]
  rfl
def FSc (g : Nat → Nat) (lv : Nat) (f : Int32) (i : Nat) : Bool := (decide (g i ≠ 0) && tnt lv i) && !decide ((8 : Int32) * f ≤ frm g i)
def FS (g : Nat → Nat) (lv : Nat) (f : Int32) : Int32 := ors (FSc g lv f)
theorem FS_sub (g : Nat → Nat) (lv : Nat) (f : Int32) : ∀ j, j < 32 → bt (FS g lv f) j = true → bt (TH g) j = true := by
  intro j hj h
  unfold FS at h
  rw [bt_ors _ hj] at h
  rw [bt_TH g hj]
  unfold FSc at h
  simp only [Bool.and_eq_true] at h ⊢
  exact ⟨h.1, h.2.1.1⟩
theorem tnt_flt {lv p : Nat} (h : tnt lv p = true) : flt p = false := by
  unfold tnt at h
  cases hf : flt p with
  | false => rfl
  | true => rw [hf] at h; simp at h
theorem c_blow {g : Nat → Nat} {ki : Int32} (hk : KI g ki) (h4 : PG g) (fe f : Int32) (L : Nat → Int32) {lv : Nat} (hl : lv < 4) : ∃ L2, fX1_blow (TH g) ki fe L (nI lv) f = some (nI (cnt (GN g (FS g lv f))), (TH (rmv g (GN g (FS g lv f))), fe + nI (cnt (GN g (FS g lv f))), L2)) := by
  obtain ⟨L2, hw, hL⟩ := c_weigh hk h4 L
  refine ⟨L2, ?_⟩
  unfold fX1_blow
  rw [hw, ob_some]
  have h1 := loop_up0 (f := fun n i a => fX1_blow_L9 (nI lv) f (TH g) ki fe L2 n a (nI i)) (N := 16) (st := fun i x => if FSc g lv f i = true then x ||| b1 i else x) (ex := fun a => ob (fX1_drop (TH g) fe a) (fun r2 => some (r2.1, (r2.2.1, r2.2.2, L2)))) (by
    intro n a
    show fX1_blow_L9 (nI lv) f (TH g) ki fe L2 (n + 1) a (nI 16) = _
    rw [fX1_blow_L9, if_pos y16]) (by
    intro n i a hi
    show fX1_blow_L9 (nI lv) f (TH g) ki fe L2 (n + 1) a (nI i) = fX1_blow_L9 (nI lv) f (TH g) ki fe L2 n _ (nI (i + 1))
    rw [fX1_blow_L9, if_neg (n16 hi), c_isTent g hi hl, ob_some]
    simp only [nm_eq, nI_1, gdn hi (show (16 : Nat) < 2 ^ 31 by decide), clN (show i < 2 ^ 31 by omega)]
    unfold FSc
    cases hb : (decide (g i ≠ 0) && tnt lv i) with
    | false => simp
    | true =>
      have hb2 : g i ≠ 0 ∧ tnt lv i = true := by simpa using hb
      rw [if_pos rfl, if_neg (by decide), c_kindOf hk hi hb2.1, ob_some, hL i hi, c_firm hb2.1 (h4 i hi) (tnt_flt hb2.2), ob_some]
      by_cases c : (8 : Int32) * f ≤ frm g i
      · rw [if_pos c, if_neg (by simp [c])]
      · rw [if_neg c, if_pos (by simp [c])]
        rfl) FU 0 (FU_gt (by omega))
  refine Eq.trans h1 ?_
  show ob (fX1_drop (TH g) fe (FS g lv f)) _ = _
  rw [c_drop, ob_some, and_sub (FS_sub g lv f)]
theorem m_draught {g : Nat → Nat} {fe : Int32} {h : Nat → Int32} (hM : MR g fe h) (h4 : PG g) (hS : Stl g) (f : Int32) (L : Nat → Int32) {lv : Nat} (hl : lv < 4) : ∃ h2 L2, fX5_goDraught h L (nI lv) f = some (nI (cnt (GN g (FS g lv f))), (h2, L2)) ∧ MR (rmv g (GN g (FS g lv f))) (fe + nI (cnt (GN g (FS g lv f)))) h2 := by
  obtain ⟨L1, hw, hL⟩ := m_layLoads hM.1 h4 L
  obtain ⟨h2, e2, m2⟩ := m_fallAll hM h4 (FS g lv f)
  obtain ⟨h3, L3, e3, m3⟩ := m_settle m2 (PG_sub h4 (sub_rmv _ _)) L1
  rw [ST_of (Stl_sub hS (sub_rmv _ _))] at e3 m3
  refine ⟨upd h3 16 (h3 16 + nI (cnt (GN g (FS g lv f)))), L3, ?_, ?_, ?_⟩
  · unfold fX5_goDraught
    rw [hw, ob_some]
    have h1 := loop_up0 (f := fun n i a => fX5_goDraught_L11 (nI lv) f h L1 n a (nI i)) (N := 16) (st := fun i x => if FSc g lv f i = true then x ||| b1 i else x) (ex := fun a => ob (fX5_fallAll h a) (fun r2 => ob (fX5_settle r2.2 L1) (fun r3 => some (r2.1 + r3.1, (upd r3.2.1 (Int32.toNatClampNeg 16) ((r3.2.1 (Int32.toNatClampNeg 16)) + (r2.1 + r3.1)), r3.2.2))))) (by
      intro n a
      show fX5_goDraught_L11 (nI lv) f h L1 (n + 1) a (nI 16) = _
      rw [fX5_goDraught_L11, if_pos y16]
      rfl) (by
      intro n i a hi
      show fX5_goDraught_L11 (nI lv) f h L1 (n + 1) a (nI i) = fX5_goDraught_L11 (nI lv) f h L1 n _ (nI (i + 1))
      rw [fX5_goDraught_L11, if_neg (n16 hi), m_isTent hM.1 h4 hi hl, ob_some]
      simp only [nm_eq, nI_1, or_0]
      unfold FSc
      cases hb : (decide (g i ≠ 0) && tnt lv i) with
      | false => simp
      | true =>
        have hb2 : g i ≠ 0 ∧ tnt lv i = true := by simpa using hb
        rw [if_pos rfl, if_neg (by decide), m_firm hM.1 h4 hL hi hb2.1, ob_some]
        by_cases c : (8 : Int32) * f ≤ frm g i
        · rw [if_pos c, if_neg (by simp [c])]
        · rw [if_neg c, if_pos (by simp [c])]
          rfl) FU 0 (FU_gt (by omega))
    refine Eq.trans h1 ?_
    show ob (fX5_fallAll h (FS g lv f)) _ = _
    rw [e2, ob_some]
    show ob (fX5_settle h2 L1) _ = _
    rw [e3, ob_some]
    show some (nI _ + nI 0, _) = _
    rw [nI_add]
    rfl
  · intro p hp
    rw [pk_un (by omega)]
    exact m3.1 p hp
  · rw [pk_us, m3.2]
/-- cards -/
def usd (g : Nat → Nat) (k : Nat) : Nat := up (fun i n => n + (if g i = k + 1 then ndp i else 0)) 0 16 0
theorem sub_sub32 (a b c : Int32) : a - b - c = a - (b + c) := by
  apply Int32.toBitVec_inj.1
  simp only [Int32.toBitVec_sub, Int32.toBitVec_add]
  rw [BitVec.sub_sub]
theorem c_cardsLeft {g : Nat → Nat} {ki : Int32} (hk : KI g ki) (h4 : PG g) (ca : Nat → Int32) {k : Nat} (hk4 : k < 4) : fX1_cardsLeft (TH g) ki ca (nI k) = some (ca k - nI (usd g k)) := by
  unfold fX1_cardsLeft
  rw [c_isKind k hk4, ob_some, if_neg (by decide), gdn hk4 (by decide), clN (by omega)]
  simp only [nm_eq]
  have h1 := loop_up0 (f := fun n i a => fX1_cardsLeft_L20 (nI k) (TH g) ki ca n (ca k - nI a) (nI i)) (N := 16) (st := fun i n => n + (if g i = k + 1 then ndp i else 0)) (ex := fun a => some (ca k - nI a)) (by
    intro n a
    show fX1_cardsLeft_L20 (nI k) (TH g) ki ca (n + 1) (ca k - nI a) (nI 16) = _
    rw [fX1_cardsLeft_L20, if_pos y16]) (by
    intro n i a hi
    show fX1_cardsLeft_L20 (nI k) (TH g) ki ca (n + 1) (ca k - nI a) (nI i) = fX1_cardsLeft_L20 (nI k) (TH g) ki ca n (ca k - nI _) (nI (i + 1))
    have hb := h4 i hi
    rw [fX1_cardsLeft_L20, if_neg (n16 hi), c_has g hi, ob_some, c_cardsOf i hi]
    simp only [nm_eq, nI_1, ob_some]
    by_cases e : g i = 0
    · rw [if_pos e, if_pos rfl, if_neg (by omega)]
      rfl
    · rw [if_neg e, if_neg (by decide), c_kindOf hk hi e, ob_some]
      by_cases c : g i = k + 1
      · rw [if_pos (by rw [c]; rfl), if_pos c, sub_sub32, nI_add]
      · rw [if_neg (fun z => c (by have := (nI_eq (by omega) (by omega)).mp z; omega)), if_neg c]
        rfl) FU 0 (FU_gt (by omega))
  refine Eq.trans ?_ h1
  show _ = fX1_cardsLeft_L20 (nI k) (TH g) ki ca FU (ca k - 0) 0
  rw [Int32.sub_zero]
theorem m_used {g : Nat → Nat} {h : Nat → Int32} (hg : ∀ p, p < 16 → h p = nI (g p)) (h4 : PG g) {k : Nat} (hk4 : k < 4) : fX5_used h (nI k) = some (nI (usd g k)) := by
  unfold fX5_used
  have h1 := loop_up0 (f := fun n i a => fX5_used_L4 (nI k) h n (nI a) (nI i)) (N := 16) (st := fun i n => n + (if g i = k + 1 then ndp i else 0)) (ex := fun a => some (nI a)) (by
    intro n a
    show fX5_used_L4 (nI k) h (n + 1) (nI a) (nI 16) = _
    rw [fX5_used_L4, if_pos y16]) (by
    intro n i a hi
    show fX5_used_L4 (nI k) h (n + 1) (nI a) (nI i) = fX5_used_L4 (nI k) h n (nI _) (nI (i + 1))
    have hb := h4 i hi
    rw [fX5_used_L4, if_neg (n16 hi), gdn (by omega) (by decide), clN (by omega), hg i hi, m_need i hi]
    simp only [nm_eq, nI_1, ob_some]
    by_cases c : g i = k + 1
    · rw [if_pos (by rw [c]), if_pos c, nI_add]
    · rw [if_neg (fun z => c ((nI_eq (by omega) (by omega)).mp z)), if_neg c]
      show fX5_used_L4 (nI k) h n (nI a + nI 0) _ = _
      rw [nI_add]) FU 0 (FU_gt (by omega))
  exact h1
theorem m_left {g : Nat → Nat} {h : Nat → Int32} (hg : ∀ p, p < 16 → h p = nI (g p)) (h4 : PG g) (ca : Nat → Int32) {k : Nat} (hk4 : k < 4) : fX5_left h ca (nI k) = some (ca k - nI (usd g k)) := by
  unfold fX5_left
  rw [gdn hk4 (by decide), m_used hg h4 hk4, ob_some, clN (by omega)]
/-- whether a piece can be put -/
def rmf (g : Nat → Nat) (p : Nat) : Bool := decide (g p = 0) && decide ((sUN p &&& (TH g ^^^ (-1))) = 0)
def CP (g : Nat → Nat) (ca : Nat → Int32) (p k : Nat) : Bool := rmf g p && !decide (ca k - nI (usd g k) < nI (ndp p))
theorem c_hasRoomFor (g : Nat → Nat) {p : Nat} (hp : p < 16) : fX1_hasRoomFor (TH g) (nI p) = some (if rmf g p = true then 1 else 0) := by
  unfold fX1_hasRoomFor rmf
  rw [c_isPiece p hp, ob_some, if_neg (by decide), c_has g hp, ob_some, gdn hp (by decide), clN (by omega)]
  by_cases e : g p = 0
  · rw [if_pos e, if_pos rfl]
    by_cases c : (sUN p &&& (TH g ^^^ (-1))) = 0
    · rw [if_pos c, decide_eq_true e, decide_eq_true c]
      rfl
    · rw [if_neg c, decide_eq_false c, Bool.and_false]
      rfl
  · rw [if_neg e, if_neg (by decide), decide_eq_false e]
    rfl
theorem c_canLay {g : Nat → Nat} {ki : Int32} (hk : KI g ki) (h4 : PG g) (ca : Nat → Int32) {p k : Nat} (hp : p < 16) (hk4 : k < 4) : fX1_canLay (TH g) ki ca (nI p) (nI k) = some (if CP g ca p k = true then 1 else 0) := by
  unfold fX1_canLay CP
  rw [c_isKind k hk4, ob_some, if_neg (by decide), c_hasRoomFor g hp, ob_some, c_cardsOf p hp, c_cardsLeft hk h4 ca hk4]
  simp only [ob_some]
  cases rmf g p with
  | false => simp
  | true =>
    rw [if_pos rfl, if_neg (by decide)]
    by_cases c : ca k - nI (usd g k) < nI (ndp p)
    · rw [if_pos c]
      simp [c]
    · rw [if_neg c]
      simp [c]
theorem m_canPut {g : Nat → Nat} {h : Nat → Int32} (hg : ∀ p, p < 16 → h p = nI (g p)) (h4 : PG g) (ca : Nat → Int32) {p k : Nat} (hp : p < 16) (hk4 : k < 4) : fX5_canPut h ca (nI p) (nI k) = some (if CP g ca p k = true then 1 else 0) := by
  unfold fX5_canPut CP rmf
  have hb := h4 p hp
  rw [gdn (by omega) (by decide), clN (by omega), hg p hp, m_below p hp, ob_some, f_there hg h4, ob_some, m_left hg h4 ca hk4, ob_some, m_need p hp, ob_some]
  by_cases e : g p = 0
  · rw [if_pos (by rw [e]; rfl)]
    by_cases c : (sUN p &&& (TH g ^^^ (-1))) = 0
    · rw [if_pos c]
      by_cases d : ca k - nI (usd g k) < nI (ndp p)
      · rw [if_pos d]
        simp [d]
      · rw [if_neg d, decide_eq_true e, decide_eq_true c, decide_eq_false d]
        rfl
    · rw [if_neg c, decide_eq_false c, Bool.and_false]
      rfl
  · rw [if_neg (nI_ne0 (by omega) (by omega))]
    simp [e]
