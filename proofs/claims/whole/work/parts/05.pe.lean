/-! wants, fit, judge -/
def MSs (i : Nat) (x : Int32) : Int32 := if bt x i = true then x ||| sUN i else x
def NE (p : Nat) : Int32 := dn MSs (p + 1) (b1 p)
theorem dn_skip {p : Nat} (hp : p < 16) : ∀ k, p + 1 ≤ k → k ≤ 16 → dn MSs k (b1 p) = NE p := by
  intro k hk
  induction k with
  | zero => omega
  | succ k ih =>
    intro hk2
    rcases Nat.lt_or_ge k (p + 1) with h | h
    · have : k = p := by omega
      subst this
      rfl
    · show dn MSs k (MSs k (b1 p)) = _
      have e : MSs k (b1 p) = b1 p := by
        unfold MSs
        rw [bt_b1 (by omega) (by omega)]
        simp
        omega
      rw [e]
      exact ih h (by omega)
theorem NE_lo : ∀ p, p < 16 → (NE p &&& 65535) = NE p := by decide +kernel
theorem lo_NE {p : Nat} (hp : p < 16) : lo (NE p) := by
  rw [← NE_lo p hp]
  apply lo_and2
  intro i hi h
  rw [b_65535]
  simp
  omega
theorem c_missing (g : Nat → Nat) {p : Nat} (hp : p < 16) : fX1_missingFor (TH g) (nI p) = some (NE p &&& (TH g ^^^ (-1))) := by
  unfold fX1_missingFor
  simp only [nm_eq]
  have h1 := loop_dn (f := fun n k a => fX1_missingFor_L7 (nI p) (TH g) n a (nI k + (-1))) (N := 16) (st := MSs) (ex := fun a => some (a &&& (TH g ^^^ (-1)))) (fun _ _ => True) (by
    intro n a _
    show fX1_missingFor_L7 (nI p) (TH g) (n + 1) a (nI 0 + (-1)) = _
    rw [fX1_missingFor_L7, if_pos (by decide)]) (by
    intro n k a hk _
    refine ⟨?_, trivial⟩
    show fX1_missingFor_L7 (nI p) (TH g) (n + 1) a (nI (k + 1) + (-1)) = fX1_missingFor_L7 (nI p) (TH g) n _ (nI k + (-1))
    rw [pk_m1, fX1_missingFor_L7, if_neg (nI_pos (by omega)), sh1 a (by omega), gdn hk (by decide), clN (by omega)]
    simp only [nm_eq]
    unfold MSs
    cases bt a k with
    | true => simp
    | false => simp) 16 FU (b1 p) (Nat.le_refl _) (FU_gt (by omega)) trivial
  have h2 : fX1_missingFor_L7 (nI p) (TH g) FU (b1 p) 15 = some (dn MSs 16 (b1 p) &&& (TH g ^^^ (-1))) := h1
  rw [dn_skip hp 16 (by omega) (by omega)] at h2
  exact h2
theorem m_wanted {g : Nat → Nat} {page : Nat → Int32} (hg : ∀ p, p < 16 → page p = nI (g p)) (h4 : PG g) {p : Nat} (hp : p < 16) : fX5_wanted page (nI p) = some (NE p &&& (TH g ^^^ (-1))) := by
  unfold fX5_wanted
  simp only [nm_eq]
  have h1 := loop_dn (f := fun n k a => fX5_wanted_L6 (nI p) page n a (nI k + (-1))) (N := 16) (st := MSs) (ex := fun a => some (a &&& (TH g ^^^ (-1)))) (fun _ _ => True) (by
    intro n a _
    show fX5_wanted_L6 (nI p) page (n + 1) a (nI 0 + (-1)) = _
    rw [fX5_wanted_L6, if_pos (by decide), f_there hg h4, ob_some]) (by
    intro n k a hk _
    refine ⟨?_, trivial⟩
    show fX5_wanted_L6 (nI p) page (n + 1) a (nI (k + 1) + (-1)) = fX5_wanted_L6 (nI p) page n _ (nI k + (-1))
    rw [pk_m1, fX5_wanted_L6, if_neg (nI_pos (by omega)), m_has a (by omega), ob_some, m_below k hk, ob_some]
    simp only [nm_eq, or_0]
    unfold MSs
    cases bt a k with
    | true => simp
    | false => simp) (p + 1) FU (b1 p) (by omega) (FU_gt (by omega)) trivial
  have e : nI (p + 1) + (-1) = nI p := pk_m1 p
  have h2 : fX5_wanted_L6 (nI p) page FU (b1 p) (nI (p + 1) + (-1)) = some (NE p &&& (TH g ^^^ (-1))) := h1
  rw [e] at h2
  exact h2
def cw2 (x : Int32) (i n : Nat) : Nat := n + (if bt x i = true then ndp i else 0)
theorem ndp_bt : ∀ i, i < 16 → ndp i = 1 + (if bt 45967 i = true then 1 else 0) := by decide +kernel
theorem cw2_sum (x : Int32) : up (cw2 x) 0 16 0 = cnt x + cnt (x &&& 45967) := by
  have h : ∀ k i a b, i + k = 16 → up (cw2 x) i k (a + b) = up (fun i n => n + (if bt x i = true then 1 else 0)) i k a + up (fun i n => n + (if bt (x &&& 45967) i = true then 1 else 0)) i k b := by
    intro k
    induction k with
    | zero => intro i a b _; rfl
    | succ k ih =>
      intro i a b hk
      show up (cw2 x) (i + 1) k (cw2 x i (a + b)) = up _ (i + 1) k (a + _) + up _ (i + 1) k (b + _)
      rw [← ih (i + 1) _ _ (by omega)]
      congr 1
      unfold cw2
      rw [b_and, ndp_bt i (by omega)]
      cases bt x i with
      | false => simp
      | true =>
        cases bt 45967 i with
        | false => simp; omega
        | true => simp; omega
  exact h 16 0 0 0 rfl
theorem o_wants {g : Nat → Nat} {th ki fe : Int32} {page : Nat → Int32} (hP : RPg g th ki fe page) (thrown a1 a2 : Int32) :
    ∃ r, fX4_wants th a1 a2 = some r ∧ fX5_wants thrown page a1 a2 = some (r, 0) := by
  obtain ⟨hO, ⟨rfl, hk⟩, hM⟩ := hP
  unfold fX4_wants fX5_wants
  rcases pieceOr a1 with ⟨p, hp, rfl⟩ | ⟨c1, c2, -⟩
  · rw [c_isPiece p hp, ob_some, if_neg one0, m_noPiece p hp, ob_some, if_pos zz0]
    by_cases c : a2 < 0
    · have e : fX5_in a2.toInt64 0 1 = some 0 := in_no (a := 0) (b := 1) (Or.inl c)
      exact ⟨-2, by rw [if_pos c], by rw [e, ob_some, if_pos zz0]⟩
    · by_cases d : a2 ≤ 1
      · have e : fX5_in a2.toInt64 0 1 = some 1 := in_yes (a := 0) (b := 1) (fa_of_nlt c) d
        have hlo : lo (NE p &&& (TH g ^^^ (-1))) := lo_and _ (lo_NE hp)
        rw [if_neg c, if_pos d, e, ob_some, if_neg one0, c_missing g hp, ob_some, m_wanted hM.1 hO.1 hp, ob_some]
        generalize NE p &&& (TH g ^^^ (-1)) = x at hlo ⊢
        rw [f_bitCount hlo, ob_some, f_bitCount (lo_and _ hlo), ob_some]
        by_cases h0 : a2 = 0
        · refine ⟨nI (cnt x), by rw [if_pos h0], ?_⟩
          exact loop_up0 (f := fun n i a => fX5_wants_L42 (nI p) a2 x 0 page n (nI a) (nI i)) (N := 16) (st := fun i n => n + (if bt x i = true then 1 else 0)) (ex := fun a => some (nI a, 0)) (by
            intro n a
            show fX5_wants_L42 (nI p) a2 x 0 page (n + 1) (nI a) (nI 16) = _
            rw [fX5_wants_L42, if_pos y16]) (by
            intro n i a hi
            show fX5_wants_L42 (nI p) a2 x 0 page (n + 1) (nI a) (nI i) = fX5_wants_L42 (nI p) a2 x 0 page n (nI _) (nI (i + 1))
            rw [fX5_wants_L42, if_neg (n16 hi), m_has x (by omega), ob_some]
            simp only [nm_eq, nI_1, h0, if_true]
            cases bt x i with
            | true =>
              rw [if_pos rfl, if_neg (by decide), if_pos rfl]
            | false =>
              show fX5_wants_L42 (nI p) 0 x 0 page n (nI a + nI 0) _ = _
              rw [nI_add]
              rfl) FU 0 (FU_gt (by omega))
        · refine ⟨nI (cnt x) + nI (cnt (x &&& 45967)), by rw [if_neg h0], ?_⟩
          rw [nI_add, ← cw2_sum]
          exact loop_up0 (f := fun n i a => fX5_wants_L42 (nI p) a2 x 0 page n (nI a) (nI i)) (N := 16) (st := cw2 x) (ex := fun a => some (nI a, 0)) (by
            intro n a
            show fX5_wants_L42 (nI p) a2 x 0 page (n + 1) (nI a) (nI 16) = _
            rw [fX5_wants_L42, if_pos y16]) (by
            intro n i a hi
            show fX5_wants_L42 (nI p) a2 x 0 page (n + 1) (nI a) (nI i) = fX5_wants_L42 (nI p) a2 x 0 page n (nI _) (nI (i + 1))
            rw [fX5_wants_L42, if_neg (n16 hi), m_has x (by omega), ob_some, m_need i hi]
            simp only [nm_eq, nI_1, ob_some, if_neg h0]
            unfold cw2
            cases bt x i with
            | true =>
              rw [if_pos rfl, if_neg (by decide), if_pos rfl, nI_add]
            | false =>
              show fX5_wants_L42 (nI p) a2 x 0 page n (nI a + nI 0) _ = _
              rw [nI_add]
              rfl) FU 0 (FU_gt (by omega))
      · have e : fX5_in a2.toInt64 0 1 = some 0 := in_no (a := 0) (b := 1) (Or.inr (fa_of_nle d))
        exact ⟨-2, by rw [if_neg c, if_neg d], by rw [e, ob_some, if_pos zz0]⟩
  · exact ⟨-1, by rw [c1, ob_some, if_pos rfl], by rw [c2, ob_some, if_neg (by decide)]⟩
theorem c_copyFrom (th ki fe oth oki ofe : Int32) (ca oca : Nat → Int32) : ∃ ca2, fX1_copyFrom th ki fe ca oth oki ofe oca = some (oth, oki, ofe, ca2) ∧ ∀ k, k < 4 → ca2 k = oca k := by
  have h1 := loop_up0 (f := fun n i a => fX1_copyFrom_L26 oth oki ofe oth oki ofe oca n (nI i) a) (N := 4) (st := fun i L => upd L (0 + i) (oca i)) (ex := fun a => some (oth, oki, ofe, a)) (by
    intro n a
    show fX1_copyFrom_L26 oth oki ofe oth oki ofe oca (n + 1) (nI 4) a = _
    rw [fX1_copyFrom_L26, if_pos y4]) (by
    intro n i a hi
    show fX1_copyFrom_L26 oth oki ofe oth oki ofe oca (n + 1) (nI i) a = fX1_copyFrom_L26 oth oki ofe oth oki ofe oca n (nI (i + 1)) _
    rw [fX1_copyFrom_L26, if_neg (n4 hi)]
    simp only [gdn hi (show (4 : Nat) < 2 ^ 31 by decide), clN (show i < 2 ^ 31 by omega), nm_eq, nI_1, Nat.zero_add]) FU ca (FU_gt (by omega))
  refine ⟨_, h1, fun k hk => ?_⟩
  rw [up_copy 0 4 oca, if_pos (by omega), Nat.sub_zero]
theorem m_begin (page trial : Nat → Int32) : ∃ t2, fX5_begin page trial = some t2 ∧ ∀ k, k < 17 → t2 k = page k := by
  have h1 := loop_up0 (f := fun n i a => fX5_begin_L2 page n (nI i) a) (N := 17) (st := fun i L => upd L (0 + i) (page i)) (ex := fun a => some a) (by
    intro n a
    show fX5_begin_L2 page (n + 1) (nI 17) a = _
    rw [fX5_begin_L2, if_pos y17]) (by
    intro n i a hi
    show fX5_begin_L2 page (n + 1) (nI i) a = fX5_begin_L2 page n (nI (i + 1)) _
    rw [fX5_begin_L2, if_neg (n17 hi)]
    simp only [gdn hi (show (17 : Nat) < 2 ^ 31 by decide), clN (show i < 2 ^ 31 by omega), nm_eq, nI_1, Nat.zero_add]) FU trial (FU_gt (by omega))
  refine ⟨_, h1, fun k hk => ?_⟩
  rw [up_copy 0 17 page, if_pos (by omega), Nat.sub_zero]
theorem RCa_tr {a b c : Nat → Int32} (h : ∀ k, k < 4 → a k = b k) (h2 : RCa b c) : RCa a c := fun k hk => by rw [h k hk]; exact h2 k hk
theorem fit_L {g : Nat → Nat} {ki fe : Int32} {page : Nat → Int32} (hO : OK g) (hk : KI g ki) (hM : MR g fe page) {ca mc : Nat → Int32} (hC : RCa ca mc) (thr : Int32) {p : Nat} (hp : p < 16) :
    ∀ (k i n m : Nat) (rth rki rfe : Int32) (rca rlo tr ld : Nat → Int32), i + k = 4 → k < n → k < m → ∃ r o1 o2 o3 o4 o5 t2 l2, fX4_fit_L25 (nI p) (TH g) ki fe ca n (nI i) rth rki rfe rca rlo = some (r, (o1, o2, o3, o4, o5)) ∧ fX5_fit_L28 (nI p) thr mc page m (nI i) tr ld = some (r, (thr, t2, l2))
  | k, i, 0, m, _, _, _, _, _, _, _, h1, h2, h3 => absurd h2 (by omega)
  | k, i, n + 1, 0, _, _, _, _, _, _, _, h1, h2, h3 => absurd h3 (by omega)
  | 0, i, n + 1, m + 1, rth, rki, rfe, rca, rlo, tr, ld, h1, h2, h3 => by
    have e : i = 4 := by omega
    subst e
    exact ⟨-9, _, _, _, _, _, _, _, by rw [fX4_fit_L25, if_pos y4], by rw [fX5_fit_L28, if_pos y4]⟩
  | k + 1, i, n + 1, m + 1, rth, rki, rfe, rca, rlo, tr, ld, h1, h2, h3 => by
    have hi : i < 4 := by omega
    obtain ⟨ca2, e1, q1⟩ := c_copyFrom rth rki rfe (TH g) ki fe rca ca
    rw [fX4_fit_L25, if_neg (n4 hi), e1, ob_some, fX5_fit_L28, if_neg (n4 hi), m_canPut hM.1 hO.1 mc hp hi, ob_some, ← CP_congr (RCa_tr q1 hC) p hi]
    rw [show fX1_canLay (TH g, ki, fe, ca2).1 (TH g, ki, fe, ca2).2.1 (TH g, ki, fe, ca2).2.2.2 (nI p) (nI i) = some (if CP g ca2 p i = true then 1 else 0) from c_canLay hk hO.1 ca2 hp hi, ob_some]
    simp only [nm_eq, nI_1]
    cases CP g ca2 p i with
    | false =>
      rw [show (if false = true then (1 : Int32) else 0) = 0 from rfl, if_pos zz0, if_pos zz0]
      exact fit_L hO hk hM hC thr hp k (i + 1) n m _ _ _ _ _ _ _ (by omega) (by omega) (by omega)
    | true =>
      obtain ⟨L2, e3⟩ := c_lay hk hO.1 fe rlo hp hi
      obtain ⟨t2, e4, q4⟩ := m_begin page tr
      have hM4 : MR g fe t2 := ⟨fun q hq => by rw [q4 q (by omega)]; exact hM.1 q hq, by rw [q4 16 (by omega)]; exact hM.2⟩
      obtain ⟨h5, l5, e5, m5⟩ := m_goPut hM4 hO.1 ld hp hi
      rw [if_pos rfl, if_neg one0, if_neg one0, e3, ob_some, e4, ob_some, e5, ob_some]
      have hc := ST_c 16 (pt g p i) 0
      by_cases z : (ST 16 (pt g p i) 0).2 = 0
      · have z2 : nI (ST 16 (pt g p i) 0).2 = 0 := by rw [z]; rfl
        refine ⟨nI i, TH (ST 16 (pt g p i) 0).1, kip ki p i, fe + nI (ST 16 (pt g p i) 0).2, ca2, L2, h5, l5, ?_, ?_⟩
        · show (if nI (ST 16 (pt g p i) 0).2 = 0 then _ else _) = _
          rw [if_pos z2]
        · show (if nI (ST 16 (pt g p i) 0).2 = 0 then _ else _) = _
          rw [if_pos z2]
      · have z2 : ¬ nI (ST 16 (pt g p i) 0).2 = 0 := nI_ne0 (by omega) (by omega)
        obtain ⟨r, o1, o2, o3, o4, o5, t6, l6, f1, f2⟩ := fit_L hO hk hM hC thr hp k (i + 1) n m (TH (ST 16 (pt g p i) 0).1) (kip ki p i) (fe + nI (ST 16 (pt g p i) 0).2) ca2 L2 h5 l5 (by omega) (by omega) (by omega)
        refine ⟨r, o1, o2, o3, o4, o5, t6, l6, ?_, ?_⟩
        · show (if nI (ST 16 (pt g p i) 0).2 = 0 then _ else _) = _
          rw [if_neg z2]
          exact f1
        · show (if nI (ST 16 (pt g p i) 0).2 = 0 then _ else _) = _
          rw [if_neg z2]
          exact f2
theorem o_fit {g : Nat → Nat} {th ki fe : Int32} {page : Nat → Int32} (hP : RPg g th ki fe page) {ca mc : Nat → Int32} (hC : RCa ca mc) (rth rki rfe : Int32) (rca rlo tr ld : Nat → Int32) (thrown a1 : Int32) :
    ∃ r o1 o2 o3 o4 o5 t2 l2, fX4_fit th ki fe ca rth rki rfe rca rlo a1 = some (r, (o1, o2, o3, o4, o5)) ∧ fX5_fit thrown mc page tr ld a1 = some (r, (0, t2, l2)) := by
  obtain ⟨hO, ⟨rfl, hk⟩, hM⟩ := hP
  unfold fX4_fit fX5_fit
  rcases pieceOr a1 with ⟨p, hp, rfl⟩ | ⟨c1, c2, -⟩
  · have hpp := page_pos hM hO.1 hp
    rw [c_isPiece p hp, ob_some, if_neg one0, m_noPiece p hp, ob_some, if_pos zz0, c_has g hp, ob_some, gdn (by omega) (by decide), clN (by omega)]
    by_cases z : g p = 0
    · rw [if_pos z, if_pos zz0, if_pos (hpp.1.mpr z)]
      exact fit_L hO hk hM hC 0 hp 4 0 FU FU _ _ _ _ _ _ _ rfl (FU_gt (by omega)) (FU_gt (by omega))
    · rw [if_neg z, if_neg one0, if_neg (fun y => z (hpp.1.mp y))]
      exact ⟨-4, _, _, _, _, _, _, _, rfl, rfl⟩
  · exact ⟨-1, _, _, _, _, _, _, _, by rw [c1, ob_some, if_pos rfl], by rw [c2, ob_some, if_neg (by decide)]⟩
