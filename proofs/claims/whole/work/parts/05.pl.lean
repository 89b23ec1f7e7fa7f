/-! two who build, at rest -/
def gv (g : Nat → Nat) (p ch : Nat) : Int32 := (nI (cnt (TH g)) + (if g p = 0 then 0 else 2)) - (if ch = 4 then 0 else 1)
theorem eq4 {ch : Nat} (h : ch < 5) : (nI ch = 4 ↔ ch = 4) ∧ ((4 : Int32) ≤ nI ch ↔ ch = 4) := by
  refine ⟨⟨fun z => (nI_eq (a := ch) (b := 4) (by omega) (by decide)).mp z, fun z => by rw [z]; rfl⟩, ⟨fun z => ?_, fun z => by rw [z]; decide⟩⟩
  rcases Nat.lt_or_ge ch 4 with h2 | h2
  · exact absurd z (nI_ge (a := ch) (b := 4) h2 (by decide))
  · omega
theorem c_gain (g : Nat → Nat) {p ch : Nat} (hp : p < 16) (hc : ch < 5) : fX4_gain (TH g) (nI p) (nI ch) = some (gv g p ch) := by
  unfold fX4_gain gv
  rw [c_size, ob_some, c_has g hp, ob_some]
  have h4 := (eq4 hc).1
  by_cases e : g p = 0
  · rw [if_pos e, if_pos zz0, if_pos e]
    by_cases c : ch = 4
    · rw [if_pos (h4.mpr c), if_pos c]
    · rw [if_neg (fun z => c (h4.mp z)), if_neg c]
  · rw [if_neg e, if_neg one0, if_neg e]
    by_cases c : ch = 4
    · rw [if_pos (h4.mpr c), if_pos c]
    · rw [if_neg (fun z => c (h4.mp z)), if_neg c]
theorem c_note (fh sh : Nat → Int32) {a b : Nat} (ha : a < 5) (hb : b < 5) (x y : Int32) : fX0_note fh sh (nI a) (nI b) x y = some (upd fh (5 * a + b) x, upd sh (5 * a + b) y) := by
  unfold fX0_note
  have e : (5 : Int32) * nI a + nI b = nI (5 * a + b) := by
    rw [show (5 : Int32) * nI a = nI (5 * a) from pk_mul 5 a, nI_add]
  rw [nm_eq, e, if_neg (nI_pos (by omega)), if_pos (show nI (5 * a + b) < 25 from nI_lt (b := 25) (by omega) (by decide)), gdn (by omega) (by decide), gdn (by omega) (by decide), clN (by omega)]
set_option maxHeartbeats 1000000 in
theorem m_rs_step {g2 : Nat → Nat} {fe2 : Int32} {p q k n : Nat} (hp : p < 16) (hq : q < 16) (hk : k < 25) (v3 thr rm rf : Int32) (mc page tr ld ga t0 t1 l1 t2 l2 : Nat → Int32) (r1 r2 : Int32) (e0 : fX5_begin page tr = some t0) (e1 : fX5_puts mc t0 ld (nI p) (nI (k / 5)) = some (r1, (t1, l1))) (e2 : fX5_puts mc t1 l1 (nI q) (nI (k % 5)) = some (r2, (t2, l2))) (hM : MR g2 fe2 t2) (h4 : PG g2) :
    fX5_rests_L63 (nI p) (nI q) v3 thr rm rf mc page (n + 1) (nI k) tr ld ga = fX5_rests_L63 (nI p) (nI q) v3 thr rm rf mc page n (nI (k + 1)) t2 l2 (upd (upd ga (2 * k) (gv g2 p (k / 5))) (2 * k + 1) (gv g2 q (k % 5))) := by
  have ed : nI k / 5 = nI (k / 5) := pk_div (d := 5) (by omega) (by decide) (by decide)
  have er : nI k - nI (k / 5) * 5 = nI (k % 5) := by
    rw [← ed]
    exact pk_rem (d := 5) (by omega) (by decide) (by decide)
  have e2k : (2 : Int32) * nI k = nI (2 * k) := pk_mul 2 k
  have e2k1 : nI (2 * k) + 1 = nI (2 * k + 1) := nI_1 _
  have hpp := page_pos hM h4 hp
  have hqq := page_pos hM h4 hq
  have hc1 := (eq4 (show k / 5 < 5 by omega)).2
  have hc2 := (eq4 (show k % 5 < 5 by omega)).2
  rw [fX5_rests_L63, if_neg (n25 hk), e0, ob_some, ed, e1, ob_some, er, e2, ob_some, f_there hM.1 h4, ob_some, f_many, ob_some]
  simp only [nm_eq, e2k, e2k1, nI_1, gdn (show p < 17 by omega) (show (17 : Nat) < 2 ^ 31 by decide), gdn (show q < 17 by omega) (show (17 : Nat) < 2 ^ 31 by decide), gdn (show 2 * k < 50 by omega) (show (50 : Nat) < 2 ^ 31 by decide), gdn (show 2 * k + 1 < 50 by omega) (show (50 : Nat) < 2 ^ 31 by decide), clN (show p < 2 ^ 31 by omega), clN (show q < 2 ^ 31 by omega), clN (show 2 * k < 2 ^ 31 by omega), clN (show 2 * k + 1 < 2 ^ 31 by omega), hpp.1, hqq.1, hc1, hc2]
  unfold gv
  by_cases c1 : g2 p = 0 <;> by_cases c2 : k / 5 = 4 <;> by_cases c3 : g2 q = 0 <;> by_cases c4 : k % 5 = 4 <;> simp only [c1, c2, c3, c4, if_true, if_false]
def gR (fh sh ga : Nat → Int32) (k : Nat) : Prop := ∀ j, j < k → fh j = ga (2 * j) ∧ sh j = ga (2 * j + 1)
theorem gR_step {fh sh ga : Nat → Int32} {k : Nat} (h : gR fh sh ga k) (x y : Int32) : gR (upd fh k x) (upd sh k y) (upd (upd ga (2 * k) x) (2 * k + 1) y) (k + 1) := by
  intro j hj
  by_cases e : j = k
  · subst e
    rw [pk_us, pk_us, pk_un (by omega), pk_us, pk_us]
    exact ⟨rfl, rfl⟩
  · rw [pk_un e, pk_un e, pk_un (by omega), pk_un (by omega), pk_un (by omega), pk_un (by omega)]
    exact h j (by omega)
theorem rs_in {g : Nat → Nat} {ki fe : Int32} {page : Nat → Int32} (hP : RPg g (TH g) ki fe page) {ca mc : Nat → Int32} (hC : RCa ca mc) {p q : Nat} (hp : p < 16) (hq : q < 16) (v3 thr rm rf : Int32) {a : Nat} (ha : a < 5) (m : Nat) (kk : Int32 → Int32 → Int32 → Int32 → (Nat → Int32) → (Nat → Int32) → (Nat → Int32) → (Nat → Int32) → Option (Int32 × Int32 × Int32 × Int32 × (Nat → Int32) × (Nat → Int32) × (Nat → Int32) × (Nat → Int32))) (r : Nat) :
    ∀ (b n : Nat) (rth rki rfe : Int32) (rca rlo fh sh tr ld ga : Nat → Int32), b + r = 5 → r < n → gR fh sh ga (5 * a + b) → ∃ th2 ki2 fe2 ca2 lo2 fh2 sh2 tr2 ld2 ga2, fX4_rests_L70 kk (nI p) (nI q) v3 (nI a) (TH g) ki fe ca n (nI b) rth rki rfe rca rlo fh sh = kk (nI (a + 1)) th2 ki2 fe2 ca2 lo2 fh2 sh2 ∧ fX5_rests_L63 (nI p) (nI q) v3 thr rm rf mc page (m + r) (nI (5 * a + b)) tr ld ga = fX5_rests_L63 (nI p) (nI q) v3 thr rm rf mc page m (nI (5 * (a + 1))) tr2 ld2 ga2 ∧ gR fh2 sh2 ga2 (5 * (a + 1)) := by
  induction r with
  | zero =>
    intro b n rth rki rfe rca rlo fh sh tr ld ga h1 h2 h3
    have e : b = 5 := by omega
    subst e
    cases n with
    | zero => omega
    | succ n =>
      refine ⟨rth, rki, rfe, rca, rlo, fh, sh, tr, ld, ga, ?_, rfl, h3⟩
      rw [fX4_rests_L70, if_pos y5, nm_eq, nI_1]
  | succ r ih =>
    intro b n rth rki rfe rca rlo fh sh tr ld ga h1 h2 h3
    cases n with
    | zero => omega
    | succ n =>
      have hb : b < 5 := by omega
      have ek : (5 * a + b) / 5 = a := by omega
      have er : (5 * a + b) % 5 = b := by omega
      obtain ⟨ca1, f0, q0⟩ := c_copyFrom rth rki rfe (TH g) ki fe rca ca
      obtain ⟨t0, m0, w0⟩ := m_begin page tr
      obtain ⟨r1, g1, th1, ki1, fe1, L1, t1, l1, f1, m1, hP1, -⟩ := tr_lay (RPg_begin hP w0) (RCa_tr q0 hC) rlo ld (nI p) (nI a)
      obtain ⟨r2, g2, th2, ki2, fe2, L2, t2, l2, f2, m2, hP2, -⟩ := tr_lay hP1 (RCa_tr q0 hC) L1 l1 (nI q) (nI b)
      have hP3 := hP2
      obtain ⟨hO2, ⟨rfl, hk2⟩, hM2⟩ := hP2
      obtain ⟨th3, ki3, fe3, ca3, lo3, fh3, sh3, tr3, ld3, ga3, i1, i2, i3⟩ := ih (b + 1) n (TH g2) ki2 fe2 ca1 L2 (upd fh (5 * a + b) (gv g2 p a)) (upd sh (5 * a + b) (gv g2 q b)) t2 l2 (upd (upd ga (2 * (5 * a + b)) (gv g2 p a)) (2 * (5 * a + b) + 1) (gv g2 q b)) (by omega) (by omega) (gR_step h3 _ _)
      refine ⟨th3, ki3, fe3, ca3, lo3, fh3, sh3, tr3, ld3, ga3, ?_, ?_, i3⟩
      · rw [fX4_rests_L70, if_neg (n5 hb), f0, ob_some]
        show ob (fX1_layIfCan (TH g) ki fe ca1 rlo (nI p) (nI a)) _ = _
        rw [f1, ob_some]
        show ob (fX1_layIfCan th1 ki1 fe1 ca1 L1 (nI q) (nI b)) _ = _
        rw [f2, ob_some]
        show ob (fX4_gain (TH g2) (nI p) (nI a)) _ = _
        rw [c_gain g2 hp ha, ob_some]
        show ob (fX4_gain (TH g2) (nI q) (nI b)) _ = _
        rw [c_gain g2 hq hb, ob_some, c_note fh sh ha hb, ob_some, nm_eq, nI_1]
        exact i1
      · have h5 := m_rs_step (n := m + r) (k := 5 * a + b) hp hq (by omega) v3 thr rm rf mc page tr ld ga t0 t1 l1 t2 l2 r1 r2 m0 (by rw [ek]; exact m1) (by rw [er]; exact m2) hM2 hO2.1
        rw [ek, er] at h5
        rw [show m + (r + 1) = m + r + 1 by omega, h5]
        exact i2
theorem rs_out {g : Nat → Nat} {ki fe : Int32} {page : Nat → Int32} (hP : RPg g (TH g) ki fe page) {ca mc : Nat → Int32} (hC : RCa ca mc) {p q : Nat} (hp : p < 16) (hq : q < 16) (v3 thr rm rf : Int32) (r : Nat) :
    ∀ (a n m : Nat) (rth rki rfe : Int32) (rca rlo fh sh tr ld ga : Nat → Int32), a + r = 5 → r < n → gR fh sh ga (5 * a) → ∃ th2 ki2 fe2 ca2 lo2 fh2 sh2 tr2 ld2 ga2, fX4_rests_L61 (nI p) (nI q) v3 (TH g) ki fe ca n (nI a) rth rki rfe rca rlo fh sh = (if v3 = 0 then ob (fX0_countAtRest fh2 sh2) (fun r13 => some (r13, (th2, ki2, fe2, ca2, lo2, fh2, sh2))) else ob (fX0_firstAtRest fh2 sh2) (fun r12 => some (r12, (th2, ki2, fe2, ca2, lo2, fh2, sh2)))) ∧ fX5_rests_L63 (nI p) (nI q) v3 thr rm rf mc page (m + 1 + 5 * r) (nI (5 * a)) tr ld ga = fX5_rests_L208 (nI p) (nI q) v3 thr mc page tr2 ld2 ga2 FU 0 0 (-9) ∧ gR fh2 sh2 ga2 25 := by
  induction r with
  | zero =>
    intro a n m rth rki rfe rca rlo fh sh tr ld ga h1 h2 h3
    have e : a = 5 := by omega
    subst e
    cases n with
    | zero => omega
    | succ n =>
      refine ⟨rth, rki, rfe, rca, rlo, fh, sh, tr, ld, ga, ?_, ?_, h3⟩
      · rw [fX4_rests_L61, if_pos y5]
      · show fX5_rests_L63 (nI p) (nI q) v3 thr rm rf mc page (m + 1) (nI 25) tr ld ga = _
        rw [fX5_rests_L63, if_pos y25]
  | succ r ih =>
    intro a n m rth rki rfe rca rlo fh sh tr ld ga h1 h2 h3
    cases n with
    | zero => omega
    | succ n =>
      obtain ⟨th2, ki2, fe2, ca2, lo2, fh2, sh2, tr2, ld2, ga2, i1, i2, i3⟩ := rs_in hP hC hp hq v3 thr rm rf (a := a) (by omega) (m + 1 + 5 * r) (fun yv4 yr_th yr_ki yr_fe yr_ca yr_lo yk_fh yk_sh => fX4_rests_L61 (nI p) (nI q) v3 (TH g) ki fe ca n yv4 yr_th yr_ki yr_fe yr_ca yr_lo yk_fh yk_sh) 5 0 FU rth rki rfe rca rlo fh sh tr ld ga (by omega) (FU_gt (by omega)) h3
      obtain ⟨th3, ki3, fe3, ca3, lo3, fh3, sh3, tr3, ld3, ga3, j1, j2, j3⟩ := ih (a + 1) n m th2 ki2 fe2 ca2 lo2 fh2 sh2 tr2 ld2 ga2 (by omega) (by omega) i3
      refine ⟨th3, ki3, fe3, ca3, lo3, fh3, sh3, tr3, ld3, ga3, ?_, ?_, j3⟩
      · rw [fX4_rests_L61, if_neg (n5 (by omega))]
        exact i1.trans j1
      · rw [show m + 1 + 5 * (r + 1) = m + 1 + 5 * r + 5 by omega]
        exact i2.trans j2
/-- which pairs rest -/
def arS (F S : Nat → Int32) (k o : Nat) (b : Bool) : Bool := b && (decide (F (5 * o + k % 5) ≤ F k) && decide (S (5 * (k / 5) + o) ≤ S k))
def ar (F S : Nat → Int32) (k : Nat) : Bool := up (arS F S k) 0 5 true
theorem ar_f (F S : Nat → Int32) (k : Nat) : ∀ r o, up (arS F S k) o r false = false
  | 0, o => rfl
  | r + 1, o => ar_f F S k r (o + 1)
theorem c_atRest (F S : Nat → Int32) {k : Nat} (hk : k < 25) : fX0_isAtRest F S (nI k) = some (bI (ar F S k)) := by
  have ed : nI k / 5 = nI (k / 5) := pk_div (d := 5) (by omega) (by decide) (by decide)
  have er : nI k - nI (k / 5) * 5 = nI (k % 5) := by
    rw [← ed]
    exact pk_rem (d := 5) (by omega) (by decide) (by decide)
  unfold fX0_isAtRest
  rw [nm_eq, nm_eq, ed, er]
  have h : ∀ r o n, o + r = 5 → r < n → fX0_isAtRest_L11 (nI k) (nI (k / 5)) (nI (k % 5)) F S n (nI o) = some (bI (up (arS F S k) o r true)) := by
    intro r
    induction r with
    | zero =>
      intro o n h1 h2
      have e : o = 5 := by omega
      subst e
      cases n with
      | zero => omega
      | succ n =>
        rw [fX0_isAtRest_L11, if_pos y5]
        rfl
    | succ r ih =>
      intro o n h1 h2
      cases n with
      | zero => omega
      | succ n =>
        have e1 : (5 : Int32) * nI o + nI (k % 5) = nI (5 * o + k % 5) := by
          rw [show (5 : Int32) * nI o = nI (5 * o) from pk_mul 5 o, nI_add]
        have e2 : (5 : Int32) * nI (k / 5) + nI o = nI (5 * (k / 5) + o) := by
          rw [show (5 : Int32) * nI (k / 5) = nI (5 * (k / 5)) from pk_mul 5 _, nI_add]
        rw [fX0_isAtRest_L11, if_neg (n5 (by omega)), e1, e2]
        simp only [gdn (show 5 * o + k % 5 < 25 by omega) (show (25 : Nat) < 2 ^ 31 by decide), gdn hk (show (25 : Nat) < 2 ^ 31 by decide), gdn (show 5 * (k / 5) + o < 25 by omega) (show (25 : Nat) < 2 ^ 31 by decide), clN (show 5 * o + k % 5 < 2 ^ 31 by omega), clN (show k < 2 ^ 31 by omega), clN (show 5 * (k / 5) + o < 2 ^ 31 by omega), nm_eq, nI_1]
        show _ = some (bI (up (arS F S k) (o + 1) r (arS F S k o true)))
        unfold arS
        by_cases c1 : F (5 * o + k % 5) ≤ F k
        · by_cases c2 : S (5 * (k / 5) + o) ≤ S k
          · rw [if_pos c1, if_pos c2, decide_eq_true c1, decide_eq_true c2]
            exact ih (o + 1) n (by omega) (by omega)
          · rw [if_pos c1, if_neg c2, decide_eq_false c2, Bool.and_false, Bool.and_false]
            have := ar_f F S k r (o + 1)
            unfold arS at this
            rw [this]
            rfl
        · rw [if_neg c1, decide_eq_false c1, Bool.false_and, Bool.and_false]
          have := ar_f F S k r (o + 1)
          unfold arS at this
          rw [this]
          rfl
  exact h 5 0 FU rfl (FU_gt (by omega))
def RNs (A : Nat → Bool) (k : Nat) (s : Nat × Int32) : Nat × Int32 := if A k = true then (s.1 + 1, if s.1 = 0 then nI (10 * (k / 5) + k % 5) else s.2) else s
theorem RN_keep (A : Nat → Bool) : ∀ r k m f, 0 < m → (up (RNs A) k r (m, f)).2 = f
  | 0, k, m, f, h => rfl
  | r + 1, k, m, f, h => by
    show (up (RNs A) (k + 1) r (RNs A k (m, f))).2 = f
    unfold RNs
    cases A k with
    | false => exact RN_keep A r (k + 1) m f h
    | true =>
      rw [if_pos rfl]
      have e : ¬ m = 0 := by omega
      show (up (RNs A) (k + 1) r (m + 1, if m = 0 then nI (10 * (k / 5) + k % 5) else f)).2 = f
      rw [if_neg e]
      exact RN_keep A r (k + 1) (m + 1) f (by omega)
theorem c_count (F S : Nat → Int32) : fX0_countAtRest F S = some (nI (up (RNs (ar F S)) 0 25 (0, -9)).1) := by
  unfold fX0_countAtRest
  exact loop_up0 (f := fun n k (s : Nat × Int32) => fX0_countAtRest_L4 F S n (nI s.1) (nI k)) (N := 25) (st := RNs (ar F S)) (ex := fun s => some (nI s.1)) (by
    intro n s
    show fX0_countAtRest_L4 F S (n + 1) (nI s.1) (nI 25) = _
    rw [fX0_countAtRest_L4, if_pos y25]) (by
    intro n k s hk
    show fX0_countAtRest_L4 F S (n + 1) (nI s.1) (nI k) = fX0_countAtRest_L4 F S n (nI _) (nI (k + 1))
    rw [fX0_countAtRest_L4, if_neg (n25 hk), c_atRest F S hk, ob_some]
    simp only [nm_eq, nI_1]
    unfold RNs
    cases ar F S k with
    | false => rw [if_pos (show bI false = 0 from rfl)]; rfl
    | true => rw [if_neg (show ¬ bI true = 0 by decide)]; rfl) FU (0, -9) (FU_gt (by omega))
theorem c_first (F S : Nat → Int32) : fX0_firstAtRest F S = some (up (RNs (ar F S)) 0 25 (0, -9)).2 := by
  unfold fX0_firstAtRest
  have h : ∀ r k n, k + r = 25 → r < n → fX0_firstAtRest_L2 F S n (nI k) = some (up (RNs (ar F S)) k r (0, -9)).2 := by
    intro r
    induction r with
    | zero =>
      intro k n h1 h2
      have e : k = 25 := by omega
      subst e
      cases n with
      | zero => omega
      | succ n =>
        rw [fX0_firstAtRest_L2, if_pos y25]
        rfl
    | succ r ih =>
      intro k n h1 h2
      cases n with
      | zero => omega
      | succ n =>
        have hk : k < 25 := by omega
        have ed : nI k / 5 = nI (k / 5) := pk_div (d := 5) (by omega) (by decide) (by decide)
        have er : nI k - nI (k / 5) * 5 = nI (k % 5) := by
          rw [← ed]
          exact pk_rem (d := 5) (by omega) (by decide) (by decide)
        have e10 : (10 : Int32) * nI (k / 5) + nI (k % 5) = nI (10 * (k / 5) + k % 5) := by
          rw [show (10 : Int32) * nI (k / 5) = nI (10 * (k / 5)) from pk_mul 10 _, nI_add]
        rw [fX0_firstAtRest_L2, if_neg (n25 hk), c_atRest F S hk, ob_some, nm_eq, nI_1, ed, er, e10]
        show _ = some (up (RNs (ar F S)) (k + 1) r (RNs (ar F S) k (0, -9))).2
        unfold RNs
        cases ar F S k with
        | false =>
          rw [if_pos (show bI false = 0 from rfl)]
          exact ih (k + 1) n (by omega) (by omega)
        | true =>
          rw [if_neg (show ¬ bI true = 0 by decide), if_pos rfl]
          have := RN_keep (ar F S) r (k + 1) (0 + 1) (nI (10 * (k / 5) + k % 5)) (by omega)
          unfold RNs at this
          show _ = some (up _ (k + 1) r (0 + 1, if (0 : Nat) = 0 then nI (10 * (k / 5) + k % 5) else -9)).2
          rw [if_pos rfl, this]
  exact h 25 0 FU rfl (FU_gt (by omega))
theorem m_inner221 (kk : Int32 → Int32 → Int32 → Option (Int32 × Int32 × Int32 × Int32 × (Nat → Int32) × (Nat → Int32) × (Nat → Int32))) (v1 v2 v3 thr tf : Int32) {k m : Nat} (hk : k < 25) (hm : m < 100) (mc page tr ld ga F S : Nat → Int32) (hG : gR F S ga 25) :
    fX5_rests_L221 kk v1 v2 v3 (nI k) thr (nI m) tf mc page tr ld ga FU 1 0 = kk (nI (k + 1)) (nI (if ar F S k = true then m + 1 else m)) (if ar F S k = true then (if m = 0 then nI (10 * (k / 5) + k % 5) else tf) else tf) := by
  have ed : nI k / 5 = nI (k / 5) := pk_div (d := 5) (by omega) (by decide) (by decide)
  have er : nI k - nI (k / 5) * 5 = nI (k % 5) := by
    rw [← ed]
    exact pk_rem (d := 5) (by omega) (by decide) (by decide)
  have es : nI k - nI (k % 5) = nI (5 * (k / 5)) := by
    rw [pk_sub (by omega), show k - k % 5 = 5 * (k / 5) by omega]
  have e10 : (10 : Int32) * nI (k / 5) + nI (k % 5) = nI (10 * (k / 5) + k % 5) := by
    rw [show (10 : Int32) * nI (k / 5) = nI (10 * (k / 5)) from pk_mul 10 _, nI_add]
  have e2k : (2 : Int32) * nI k = nI (2 * k) := pk_mul 2 k
  have e2k1 : nI (2 * k) + 1 = nI (2 * k + 1) := nI_1 _
  have h1 := loop_up0 (f := fun n o b => fX5_rests_L221 kk v1 v2 v3 (nI k) thr (nI m) tf mc page tr ld ga n (bI b) (nI o)) (N := 5) (st := arS F S k) (ex := fun b => kk (nI (k + 1)) (nI (if b = true then m + 1 else m)) (if b = true then (if m = 0 then nI (10 * (k / 5) + k % 5) else tf) else tf)) (by
    intro n b
    show fX5_rests_L221 kk v1 v2 v3 (nI k) thr (nI m) tf mc page tr ld ga (n + 1) (bI b) (nI 5) = _
    rw [fX5_rests_L221, if_pos y5]
    simp only [nm_eq, ed, er, e10, nI_1]
    cases b with
    | false =>
      rw [if_pos (show bI false = 0 from rfl), if_pos (show bI false = 0 from rfl), if_neg (by decide), if_neg (by decide)]
      exact congrArg (fun z => kk (nI (k + 1)) z tf) (nI_add m 0)
    | true =>
      have hb : ¬ bI true = 0 := by decide
      rw [if_neg hb, if_pos rfl, if_pos rfl]
      by_cases c : m = 0
      · rw [if_pos (show nI m = 0 by rw [c]; rfl), if_neg hb, if_pos c]
      · rw [if_neg (nI_ne0 (by omega) (by omega)), if_neg hb, if_neg c]) (by
    intro n o b ho
    show fX5_rests_L221 kk v1 v2 v3 (nI k) thr (nI m) tf mc page tr ld ga (n + 1) (bI b) (nI o) = fX5_rests_L221 kk v1 v2 v3 (nI k) thr (nI m) tf mc page tr ld ga n (bI _) (nI (o + 1))
    have e1 : (2 : Int32) * ((5 : Int32) * nI o + nI (k % 5)) = nI (2 * (5 * o + k % 5)) := by
      rw [show (5 : Int32) * nI o = nI (5 * o) from pk_mul 5 o, nI_add]
      exact pk_mul 2 _
    have e2 : (2 : Int32) * (nI (5 * (k / 5)) + nI o) = nI (2 * (5 * (k / 5) + o)) := by
      rw [nI_add]
      exact pk_mul 2 _
    have e3 : nI (2 * (5 * (k / 5) + o)) + 1 = nI (2 * (5 * (k / 5) + o) + 1) := nI_1 _
    rw [fX5_rests_L221, if_neg (n5 ho)]
    simp only [nm_eq, ed, er, es, e1, e2, e3, e2k, e2k1, nI_1, gdn (show 2 * (5 * o + k % 5) < 50 by omega) (show (50 : Nat) < 2 ^ 31 by decide), gdn (show 2 * k < 50 by omega) (show (50 : Nat) < 2 ^ 31 by decide), gdn (show 2 * (5 * (k / 5) + o) + 1 < 50 by omega) (show (50 : Nat) < 2 ^ 31 by decide), gdn (show 2 * k + 1 < 50 by omega) (show (50 : Nat) < 2 ^ 31 by decide), clN (show 2 * (5 * o + k % 5) < 2 ^ 31 by omega), clN (show 2 * k < 2 ^ 31 by omega), clN (show 2 * (5 * (k / 5) + o) + 1 < 2 ^ 31 by omega), clN (show 2 * k + 1 < 2 ^ 31 by omega)]
    rw [← (hG k hk).1, ← (hG k hk).2, ← (hG (5 * o + k % 5) (by omega)).1, ← (hG (5 * (k / 5) + o) (by omega)).2]
    unfold arS
    cases b with
    | false => rw [if_pos (show bI false = 0 from rfl)]; rfl
    | true =>
      rw [if_neg (show ¬ bI true = 0 by decide)]
      by_cases c1 : F (5 * o + k % 5) ≤ F k
      · have d1 : ¬ F k < F (5 * o + k % 5) := by
          rw [fa_le] at c1
          rw [fa_lt]
          omega
        rw [if_neg d1, decide_eq_true c1]
        by_cases c2 : S (5 * (k / 5) + o) ≤ S k
        · have d2 : ¬ S k < S (5 * (k / 5) + o) := by
            rw [fa_le] at c2
            rw [fa_lt]
            omega
          rw [if_neg d2, decide_eq_true c2]
          rfl
        · rw [if_pos (fa_of_nle c2), decide_eq_false c2]
          rfl
      · rw [if_pos (fa_of_nle c1), decide_eq_false c1]
        rfl) FU true (FU_gt (by omega))
  exact h1
theorem m_rest2 (v1 v2 v3 thr : Int32) (mc page tr ld ga F S : Nat → Int32) (hG : gR F S ga 25) : fX5_rests_L208 v1 v2 v3 thr mc page tr ld ga FU 0 0 (-9) = some (if v3 = 0 then nI (up (RNs (ar F S)) 0 25 (0, -9)).1 else (up (RNs (ar F S)) 0 25 (0, -9)).2, (thr, nI (up (RNs (ar F S)) 0 25 (0, -9)).1, (up (RNs (ar F S)) 0 25 (0, -9)).2, tr, ld, ga)) := by
  have h1 := loop_up (f := fun n k (s : Nat × Int32) => fX5_rests_L208 v1 v2 v3 thr mc page tr ld ga n (nI k) (nI s.1) s.2) (N := 25) (st := RNs (ar F S)) (ex := fun s => some (if v3 = 0 then nI s.1 else s.2, (thr, nI s.1, s.2, tr, ld, ga))) (fun k s => s.1 ≤ k) (by
    intro n s _
    show fX5_rests_L208 v1 v2 v3 thr mc page tr ld ga (n + 1) (nI 25) (nI s.1) s.2 = _
    rw [fX5_rests_L208, if_pos y25]
    by_cases c : v3 = 0
    · rw [if_pos c, if_pos c]
    · rw [if_neg c, if_neg c]) (by
    intro n k s hk hs
    show fX5_rests_L208 v1 v2 v3 thr mc page tr ld ga (n + 1) (nI k) (nI s.1) s.2 = fX5_rests_L208 v1 v2 v3 thr mc page tr ld ga n (nI (k + 1)) (nI _) _ ∧ _
    rw [fX5_rests_L208, if_neg (n25 hk), m_inner221 _ v1 v2 v3 thr s.2 hk (by omega) mc page tr ld ga F S hG]
    unfold RNs
    cases ar F S k with
    | false => exact ⟨rfl, by show s.1 ≤ k + 1; omega⟩
    | true => exact ⟨rfl, by show s.1 + 1 ≤ k + 1; omega⟩) 25 0 FU (0, -9) rfl (FU_gt (by omega)) (Nat.le_refl _)
  exact h1
theorem FU_26 : FU = 274 + 1 + 5 * 5 := rfl
theorem o_rests {g : Nat → Nat} {th ki fe : Int32} {page : Nat → Int32} (hP : RPg g th ki fe page) {ca mc : Nat → Int32} (hC : RCa ca mc) (rth rki rfe : Int32) (rca rlo fh sh tr ld ga : Nat → Int32) (thrown rm rf a1 a2 a3 : Int32) :
    ∃ r o1 o2 o3 o4 o5 o6 o7 m1 m2 m3 m4 m5, fX4_rests th ki fe ca rth rki rfe rca rlo fh sh a1 a2 a3 = some (r, (o1, o2, o3, o4, o5, o6, o7)) ∧ fX5_rests thrown rm rf mc page tr ld ga a1 a2 a3 = some (r, (0, m1, m2, m3, m4, m5)) := by
  have hP0 := hP
  obtain ⟨hO, ⟨rfl, hk⟩, hM⟩ := hP
  unfold fX4_rests fX5_rests
  rcases pieceOr a1 with ⟨p, hp, rfl⟩ | ⟨c1, c2, -⟩
  rotate_left
  · exact ⟨-1, _, _, _, _, _, _, _, _, _, _, _, _, by rw [c1, ob_some, if_pos zz0], by rw [c2, ob_some, if_neg one0]⟩
  rw [c_isPiece p hp, ob_some, if_neg one0, m_noPiece p hp, ob_some, if_pos zz0]
  rcases pieceOr a2 with ⟨q, hq, rfl⟩ | ⟨c1, c2, -⟩
  rotate_left
  · exact ⟨-1, _, _, _, _, _, _, _, _, _, _, _, _, by rw [c1, ob_some, if_pos zz0], by rw [c2, ob_some, if_neg one0]⟩
  rw [c_isPiece q hq, ob_some, if_neg one0, m_noPiece q hq, ob_some, if_pos zz0]
  by_cases e : nI p = nI q
  · exact ⟨-2, _, _, _, _, _, _, _, _, _, _, _, _, by rw [if_pos e], by rw [if_pos e]⟩
  rw [if_neg e, if_neg e]
  by_cases c3 : a3 < 0
  · have i3 : fX5_in a3.toInt64 0 1 = some 0 := in_no (a := 0) (b := 1) (Or.inl c3)
    exact ⟨-2, _, _, _, _, _, _, _, _, _, _, _, _, by rw [if_pos c3], by rw [i3, ob_some, if_pos zz0]⟩
  by_cases c4 : a3 ≤ 1
  rotate_left
  · have i3 : fX5_in a3.toInt64 0 1 = some 0 := in_no (a := 0) (b := 1) (Or.inr (fa_of_nle c4))
    exact ⟨-2, _, _, _, _, _, _, _, _, _, _, _, _, by rw [if_neg c3, if_neg c4], by rw [i3, ob_some, if_pos zz0]⟩
  have i3 : fX5_in a3.toInt64 0 1 = some 1 := in_yes (a := 0) (b := 1) (fa_of_nlt c3) c4
  have hpp := page_pos hM hO.1 hp
  have hqq := page_pos hM hO.1 hq
  rw [if_neg c3, if_pos c4, i3, ob_some, if_neg one0, c_has g hp, ob_some, c_has g hq, ob_some, gdn (show p < 17 by omega) (by decide), gdn (show q < 17 by omega) (by decide), clN (show p < 2 ^ 31 by omega), clN (show q < 2 ^ 31 by omega)]
  by_cases z1 : g p = 0
  rotate_left
  · exact ⟨-3, _, _, _, _, _, _, _, _, _, _, _, _, by rw [if_neg z1, if_neg one0], by rw [if_pos (hpp.2.2.mpr z1)]⟩
  rw [if_pos z1, if_pos zz0, if_neg (fun y => (hpp.2.2.mp y) z1)]
  by_cases z2 : g q = 0
  rotate_left
  · exact ⟨-3, _, _, _, _, _, _, _, _, _, _, _, _, by rw [if_neg z2, if_neg one0], by rw [if_neg (fun y => z2 (hqq.1.mp y))]⟩
  rw [if_pos z2, if_pos zz0, if_pos (hqq.1.mpr z2)]
  obtain ⟨th2, ki2, fe2, ca2, lo2, fh2, sh2, tr2, ld2, ga2, i1, i2, i4⟩ := rs_out hP0 hC hp hq a3 0 rm rf 5 0 FU 274 rth rki rfe rca rlo fh sh tr ld ga rfl (FU_gt (by omega)) (fun j h => absurd h (by omega))
  have i2' : fX5_rests_L63 (nI p) (nI q) a3 0 rm rf mc page FU 0 tr ld ga = fX5_rests_L208 (nI p) (nI q) a3 0 mc page tr2 ld2 ga2 FU 0 0 (-9) := by
    rw [FU_26]
    exact i2
  have i1' : fX4_rests_L61 (nI p) (nI q) a3 (TH g) ki fe ca FU 0 rth rki rfe rca rlo fh sh = (if a3 = 0 then ob (fX0_countAtRest fh2 sh2) (fun r13 => some (r13, (th2, ki2, fe2, ca2, lo2, fh2, sh2))) else ob (fX0_firstAtRest fh2 sh2) (fun r12 => some (r12, (th2, ki2, fe2, ca2, lo2, fh2, sh2)))) := i1
  rw [i1', i2', m_rest2 (nI p) (nI q) a3 0 mc page tr2 ld2 ga2 fh2 sh2 i4, c_count, c_first]
  simp only [ob_some]
  by_cases w : a3 = 0
  · exact ⟨_, _, _, _, _, _, _, _, _, _, _, _, _, by rw [if_pos w], by rw [if_pos w]⟩
  · exact ⟨_, _, _, _, _, _, _, _, _, _, _, _, _, by rw [if_neg w], by rw [if_neg w]⟩
