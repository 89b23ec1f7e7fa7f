/-! the text's head; fault, house -/
theorem rl_h {k : Nat} (hk : k < 4) (le : Nat → Int32) (th ki : Int32) (ca : Nat → Int32) (c : Int32) : fX3_readLetter le th ki ca (nI (k + 1)) c = if 0 ≤ c - 48 ∧ c - 48 ≤ 9 then some (1, (th, ki, upd ca k (3 * (c - 48)))) else some (0, (th, ki, ca)) := by
  have e1 : nI (k + 1) - 1 = nI k := nI_pred k
  unfold fX3_readLetter fX3_readFigure
  rw [if_neg (nI_ne0 (by omega) (by omega)), if_neg (show ¬ (5 : Int32) ≤ nI (k + 1) from nI_ge (a := k + 1) (b := 5) (by omega) (by decide)), e1]
  by_cases c1 : c - 48 < 0
  · rw [if_pos c1, ob_some, gz_in (v := ((0 : Int32), ca).1) (Or.inl rfl), if_neg (fun z => by
      have h := z.1
      rw [fa_le] at h
      rw [fa_lt] at c1
      omega)]
  · rw [if_neg c1]
    by_cases c2 : 9 < c - 48
    · rw [if_pos c2, ob_some, gz_in (v := ((0 : Int32), ca).1) (Or.inl rfl), if_neg (fun z => by
        have h := z.2
        rw [fa_le] at h
        rw [fa_lt] at c2
        omega)]
    · rw [if_neg c2, c_isKind k hk, ob_some, if_neg one0, nm_eq, gdn hk (by decide), clN (by omega), ob_some, gz_in (v := ((1 : Int32), upd ca k (3 * (c - 48))).1) (Or.inr rfl), if_pos ⟨fa_of_nlt c1, fa_of_nlt c2⟩]
theorem text_H {ln : Nat} (hl : ln ≤ 56) {le t : Nat → Int32} (ht : ∀ j, j < 56 → le j = t j) (fe th ki : Int32) (r : Nat) :
    ∀ (k n m : Nat) (ca rc : Nat → Int32), k + r = 4 → k + 1 ≤ ln → 60 < n + k + 1 → r < m → (∀ j, j < k → ca j = rc j) →
      (∃ f ca2 rc2, f ≤ 56 ∧ fX3_readInto_L6 (nI ln) le fe n (nI (k + 1)) th ki ca = some (nI f, (th, ki, fe, ca2)) ∧ fX5_readHead_L2 (nI ln) t m (nI k) (nI (k + 1)) rc = some (0, (nI f, rc2))) ∨
      (∃ ca2 rc2 n2, fX3_readInto_L6 (nI ln) le fe n (nI (k + 1)) th ki ca = fX3_readInto_L6 (nI ln) le fe n2 (nI 5) th ki ca2 ∧ fX5_readHead_L2 (nI ln) t m (nI k) (nI (k + 1)) rc = some (1, (nI 5, rc2)) ∧ RCa ca2 rc2 ∧ 5 ≤ ln ∧ 60 < n2 + 5) := by
  induction r with
  | zero =>
    intro k n m ca rc h1 h2 h3 h4 h5
    have e : k = 4 := by omega
    subst e
    cases m with
    | zero => omega
    | succ m =>
      refine Or.inr ⟨ca, rc, n, rfl, ?_, h5, h2, h3⟩
      rw [fX5_readHead_L2, if_pos y4]
  | succ r ih =>
    intro k n m ca rc h1 h2 h3 h4 h5
    cases m with
    | zero => omega
    | succ m =>
      obtain ⟨n1, rfl⟩ : ∃ n1, n = n1 + 1 := ⟨n - 1, by omega⟩
      have hk : k < 4 := by omega
      rcases Nat.lt_or_ge (k + 1) ln with hkl | hkl
      rotate_left
      · have e : k + 1 = ln := by omega
        refine Or.inl ⟨ln, ca, rc, hl, ?_, ?_⟩
        · rw [e, r_end hl, if_pos (by omega)]
        · rw [fX5_readHead_L2, if_neg (n4 hk), e, m_figure_end, ob_some, if_pos rfl]
      rw [r_step hl hkl, rl_h hk, ht (k + 1) (by omega), fX5_readHead_L2, if_neg (n4 hk), m_figure hkl hl]
      by_cases c : 0 ≤ t (k + 1) - 48 ∧ t (k + 1) - 48 ≤ 9
      · rw [if_pos c, if_pos c, ob_some, ob_some]
        have hne : ¬ (t (k + 1) - 48 : Int32) = -9 := by
          intro z
          have h := c.1
          rw [z] at h
          exact absurd h (by decide)
        have ih2 := ih (k + 1) n1 m (upd ca k (3 * (t (k + 1) - 48))) (upd rc k (3 * (t (k + 1) - 48))) (by omega) (by omega) (by omega) (by omega) (by
          intro j hj
          by_cases e : j = k
          · subst e
            rw [pk_us, pk_us]
          · rw [pk_un e, pk_un e]
            exact h5 j (by omega))
        have g1 : (if ((1 : Int32), (th, ki, upd ca k (3 * (t (k + 1) - 48)))).1 = 0 then some (nI (k + 1), ((1 : Int32), (th, ki, upd ca k (3 * (t (k + 1) - 48)))).2.1, ((1 : Int32), (th, ki, upd ca k (3 * (t (k + 1) - 48)))).2.2.1, fe, ((1 : Int32), (th, ki, upd ca k (3 * (t (k + 1) - 48)))).2.2.2) else fX3_readInto_L6 (nI ln) le fe n1 (nI (k + 1 + 1)) ((1 : Int32), (th, ki, upd ca k (3 * (t (k + 1) - 48)))).2.1 ((1 : Int32), (th, ki, upd ca k (3 * (t (k + 1) - 48)))).2.2.1 ((1 : Int32), (th, ki, upd ca k (3 * (t (k + 1) - 48)))).2.2.2) = fX3_readInto_L6 (nI ln) le fe n1 (nI (k + 1 + 1)) th ki (upd ca k (3 * (t (k + 1) - 48))) := if_neg one0
        have g2 : (if (t (k + 1) - 48, nI (k + 1 + 1)).1 = (-9 : Int32) then some ((0 : Int32), ((t (k + 1) - 48, nI (k + 1 + 1)).2, rc)) else nm ((3 : Int32) * (t (k + 1) - 48, nI (k + 1 + 1)).1) (fun z4 => gd (nI k) 4 (nm (nI k + 1) (fun z6 => fX5_readHead_L2 (nI ln) t m z6 (t (k + 1) - 48, nI (k + 1 + 1)).2 (upd rc (Int32.toNatClampNeg (nI k)) z4))))) = fX5_readHead_L2 (nI ln) t m (nI (k + 1)) (nI (k + 1 + 1)) (upd rc k (3 * (t (k + 1) - 48))) := by
          rw [if_neg hne, nm_eq, gdn hk (by decide), nm_eq, nI_1, clN (by omega)]
        rw [g1, g2]
        exact ih2
      · rw [if_neg c, if_neg c, ob_some, ob_some, if_pos zz0, if_pos rfl]
        exact Or.inl ⟨k + 1, ca, rc, by omega, rfl, rfl⟩
theorem c_clear (th ki fe : Int32) (ca : Nat → Int32) : ∃ ca2, fX1_clear th ki fe ca = some (0, 0, 0, ca2) := by
  refine ⟨_, loop_up0 (f := fun n i a => fX1_clear_L17 0 0 0 n (nI i) a) (N := 4) (st := fun i L => upd L (0 + i) 0) (ex := fun a => some (0, 0, 0, a)) ?_ ?_ FU ca (FU_gt (by omega))⟩
  · intro n a
    show fX1_clear_L17 0 0 0 (n + 1) (nI 4) a = _
    rw [fX1_clear_L17, if_pos y4]
  · intro n i a hi
    show fX1_clear_L17 0 0 0 (n + 1) (nI i) a = fX1_clear_L17 0 0 0 n (nI (i + 1)) _
    rw [fX1_clear_L17, if_neg (n4 hi), gdn hi (by decide), clN (by omega), nm_eq, nI_1, Nat.zero_add]
def g00 : Nat → Nat := fun _ => 0
theorem TH_0 : TH g00 = 0 := by decide +kernel
theorem QR_0 {ca rc rp : Nat → Int32} (hC : RCa ca rc) (hr : ∀ k, k < 17 → rp k = 0) : QR g00 0 0 ca rc rp :=
  ⟨TH_0.symm, fun p _ h => absurd rfl h, fun p _ => Nat.zero_le _, fun i _ h => absurd rfl h, ⟨fun p hp => hr p (by omega), hr 16 (by omega)⟩, hC⟩
theorem text_all {x_ln m_ts : Int32} {le t : Nat → Int32} (hT : RT x_ln m_ts le t) (th ki fe : Int32) (ca : Nat → Int32) (pl : Int32) (rc rp : Nat → Int32) :
    ∃ r th2 ki2 ca2 pl2 rc2 rp2, fX3_readInto x_ln le th ki fe ca = some (r, (th2, ki2, 0, ca2)) ∧ fX5_readHouse m_ts pl t rc rp = some (r, (pl2, rc2, rp2)) ∧ Rres r th2 ki2 ca2 rc2 rp2 := by
  obtain ⟨ln, hl, rfl, rfl, ht⟩ := hT
  obtain ⟨ca0, e0⟩ := c_clear th ki fe ca
  unfold fX3_readInto fX5_readHouse
  rw [e0, ob_some]
  have h1 := loop_up0 (f := fun n i a => fX5_readHouse_L7 (nI ln) 0 t rc n (nI i) a) (N := 17) (st := fun i L => upd L (0 + i) 0) (ex := fun rp2 => (if nI ln = 0 then some (0, (0, rc, rp2)) else (if (t (Int32.toNatClampNeg 0)) = 67 then ob (fX5_readHead (nI ln) 1 t rc) (fun r7 => (if r7.1 = 0 then some (r7.2.1, (r7.2.1, r7.2.2, rp2)) else fX5_readHouse_L63 (nI 17) (nI ln) t r7.2.2 FU r7.2.1 rp2)) else some (0, (0, rc, rp2))))) (by
    intro n a
    show fX5_readHouse_L7 (nI ln) 0 t rc (n + 1) (nI 17) a = _
    rw [fX5_readHouse_L7, if_pos y17]) (by
    intro n i a hi
    show fX5_readHouse_L7 (nI ln) 0 t rc (n + 1) (nI i) a = fX5_readHouse_L7 (nI ln) 0 t rc n (nI (i + 1)) _
    rw [fX5_readHouse_L7, if_neg (n17 hi), gdn hi (by decide), clN (by omega), nm_eq, nI_1, Nat.zero_add]) FU rp (FU_gt (by omega))
  have h2 : fX5_readHouse_L7 (nI ln) 0 t rc FU 0 rp = _ := h1
  rw [h2]
  have hz : ∀ k, k < 17 → up (fun i L => upd L (0 + i) 0) 0 17 rp k = 0 := by
    intro k hk
    rw [up_copy 0 17 (fun _ => 0), if_pos (by omega)]
  generalize up (fun i L => upd L (0 + i) 0) 0 17 rp = rp0 at hz ⊢
  obtain ⟨F1, eF⟩ : ∃ F1, FU = F1 + 1 ∧ F1 = 299 := ⟨299, rfl, rfl⟩
  show ∃ r th2 ki2 ca2 pl2 rc2 rp2, fX3_readInto_L6 (nI ln) le 0 FU (nI 0) 0 0 ca0 = _ ∧ _
  have ecl : Int32.toNatClampNeg 0 = 0 := rfl
  rw [ecl]
  rcases Nat.eq_zero_or_pos ln with h0 | h0
  · subst h0
    refine ⟨nI 0, 0, 0, ca0, 0, rc, rp0, ?_, ?_, Or.inr ⟨0, by omega, rfl⟩⟩
    · rw [eF.1, r_end (by omega), if_pos (by decide)]
    · rw [if_pos (show nI 0 = 0 from rfl)]
      rfl
  have hne : ¬ nI ln = 0 := nI_ne0 h0 (by omega)
  rw [eF.1, r_step hl h0, ← eF.1, if_neg hne]
  have erl : ∀ c : Int32, fX3_readLetter le 0 0 ca0 (nI 0) c = if c = 67 then some (1, (0, 0, ca0)) else some (0, (0, 0, ca0)) := by
    intro c
    unfold fX3_readLetter
    rw [if_pos (show nI 0 = 0 from rfl)]
  rw [erl, ht 0 (by omega)]
  by_cases c : t 0 = 67
  rotate_left
  · rw [if_neg c, ob_some, if_neg c]
    exact ⟨nI 0, 0, 0, ca0, 0, rc, rp0, by rw [if_pos zz0], rfl, Or.inr ⟨0, by omega, rfl⟩⟩
  rw [if_pos c, ob_some, if_pos c]
  unfold fX5_readHead
  have hh := text_H hl ht 0 0 0 4 0 F1 FU ca0 rc (by omega) (by omega) (by omega) (FU_gt (by omega)) (fun j h => absurd h (by omega))
  have g1 : (if ((1 : Int32), ((0 : Int32), (0 : Int32), ca0)).1 = 0 then some (nI 0, ((1 : Int32), ((0 : Int32), (0 : Int32), ca0)).2.1, ((1 : Int32), ((0 : Int32), (0 : Int32), ca0)).2.2.1, (0 : Int32), ((1 : Int32), ((0 : Int32), (0 : Int32), ca0)).2.2.2) else fX3_readInto_L6 (nI ln) le 0 F1 (nI (0 + 1)) ((1 : Int32), ((0 : Int32), (0 : Int32), ca0)).2.1 ((1 : Int32), ((0 : Int32), (0 : Int32), ca0)).2.2.1 ((1 : Int32), ((0 : Int32), (0 : Int32), ca0)).2.2.2) = fX3_readInto_L6 (nI ln) le 0 F1 (nI (0 + 1)) 0 0 ca0 := if_neg one0
  rw [g1]
  rcases hh with ⟨f, ca2, rc2, hf, i1, i2⟩ | ⟨ca2, rc2, n2, i1, i2, hC, h5, hn⟩
  · have i2' : fX5_readHead_L2 (nI ln) t FU 0 1 rc = some (0, (nI f, rc2)) := i2
    rw [i1, i2', ob_some]
    exact ⟨nI f, 0, 0, ca2, nI f, rc2, rp0, rfl, by rw [if_pos zz0], Or.inr ⟨f, hf, rfl⟩⟩
  · have i2' : fX5_readHead_L2 (nI ln) t FU 0 1 rc = some (1, (nI 5, rc2)) := i2
    rw [i1, i2', ob_some]
    obtain ⟨r, th3, ki3, ca3, pl3, rp3, j1, j2, j3⟩ := text_B hl ht 0 (nI 17) FU 5 n2 g00 0 0 ca2 rc2 rp0 (by omega) (by decide) h5 (by have : FU = 300 := rfl; omega) (by omega) (QR_0 hC hz)
    exact ⟨r, th3, ki3, ca3, pl3, rc2, rp3, j1, by rw [if_neg one0]; exact j2, j3⟩
theorem o_fault {x_ln m_ts : Int32} {le t : Nat → Int32} (hT : RT x_ln m_ts le t) (thrown th ki fe : Int32) (ca : Nat → Int32) (pl : Int32) (rc rp : Nat → Int32) :
    ∃ r o1 o2 o3 o4 m1 m2 m3, fX4_fault x_ln le th ki fe ca = some (r, (o1, o2, o3, o4)) ∧ fX5_fault thrown m_ts pl t rc rp = some (r, (0, m1, m2, m3)) := by
  obtain ⟨r, th2, ki2, ca2, pl2, rc2, rp2, e1, e2, -⟩ := text_all hT th ki fe ca pl rc rp
  exact ⟨r, th2, ki2, 0, ca2, pl2, rc2, rp2, by unfold fX4_fault; rw [e1, ob_some], by unfold fX5_fault; rw [e2, ob_some]⟩
theorem nI_n9 {f : Nat} (h : f ≤ 56) : ¬ nI f = -9 := by
  intro z
  have e : (nI f).toInt = f := nI_toInt (by omega)
  rw [z] at e
  have e2 : (-9 : Int32).toInt = -9 := by decide
  omega
theorem o_house {x_ln m_ts : Int32} {le t : Nat → Int32} (hT : RT x_ln m_ts le t) {g : Nat → Nat} {nth nki nfe : Int32} {page : Nat → Int32} (hP : RPg g nth nki nfe page) {nca mc : Nat → Int32} (hC : RCa nca mc) {h_ac m_acts c_sz : Int32} {c_st c_sk c_sf m_book : Nat → Int32} (hA : RA h_ac m_acts c_sz c_st c_sk c_sf m_book) {h_ks s_sz : Int32} {s_st s_sk s_sf m_kept m_isKept : Nat → Int32} (hS : RS h_ks s_sz s_st s_sk s_sf m_kept m_isKept) (thrown th ki fe : Int32) (ca lo2 : Nat → Int32) (pl : Int32) (rc rp ld : Nat → Int32) :
    ∃ r g2 ac2 ks2 nth2 nki2 nfe2 nca2 o1 o2 o3 o4 o5 m1 mac2 mc2 m2 m3 pg2 m4 ik2, fX4_house h_ac h_ks x_ln le nth nki nfe nca th ki fe ca lo2 = some (r, (ac2, ks2, nth2, nki2, nfe2, nca2, o1, o2, o3, o4, o5)) ∧ fX5_house thrown m_ts pl m_acts t mc rc rp page ld m_isKept = some (r, (0, m1, mac2, mc2, m2, m3, pg2, m4, ik2)) ∧ RPg g2 nth2 nki2 nfe2 pg2 ∧ RCa nca2 mc2 ∧ RA ac2 mac2 c_sz c_st c_sk c_sf m_book ∧ RS ks2 s_sz s_st s_sk s_sf m_kept ik2 := by
  obtain ⟨r, th2, ki2, ca2, pl2, rc2, rp2, e1, e2, hR⟩ := text_all hT th ki fe ca pl rc rp
  unfold fX4_house fX5_house
  rw [e1, ob_some, e2, ob_some]
  rcases hR with ⟨rfl, g2, rfl, hk2, h42, hS2, hM2, hC2⟩ | ⟨f, hf, rfl⟩
  rotate_left
  · exact ⟨-3, g, h_ac, h_ks, nth, nki, nfe, nca, th2, ki2, 0, ca2, lo2, pl2, m_acts, mc, rc2, rp2, page, ld, m_isKept, by rw [if_neg (nI_n9 hf)], by rw [if_neg (nI_n9 hf)], hP, hC, hA, hS⟩
  obtain ⟨L2, e3⟩ := c_settle hk2 h42 0 lo2
  obtain ⟨nca2, e4, q4⟩ := c_copyFrom nth nki nfe (TH (ST 16 g2 0).1) ki2 0 nca ca2
  rw [if_pos rfl, if_pos rfl]
  have h1 := loop_up0 (f := fun n i a => fX5_house_L19 0 m_ts pl2 m_acts t rc2 rp2 page ld m_isKept n (nI i) a) (N := 4) (st := fun i L => upd L (0 + i) (rc2 i)) (ex := fun a => fX5_house_L44 0 m_ts pl2 m_acts t a rc2 rp2 ld m_isKept FU 0 page) (by
    intro n a
    show fX5_house_L19 0 m_ts pl2 m_acts t rc2 rp2 page ld m_isKept (n + 1) (nI 4) a = _
    rw [fX5_house_L19, if_pos y4]) (by
    intro n i a hi
    show fX5_house_L19 0 m_ts pl2 m_acts t rc2 rp2 page ld m_isKept (n + 1) (nI i) a = fX5_house_L19 0 m_ts pl2 m_acts t rc2 rp2 page ld m_isKept n (nI (i + 1)) _
    rw [fX5_house_L19, if_neg (n4 hi)]
    simp only [gdn hi (show (4 : Nat) < 2 ^ 31 by decide), clN (show i < 2 ^ 31 by omega), nm_eq, nI_1, Nat.zero_add]) FU mc (FU_gt (by omega))
  have h1' : fX5_house_L19 0 m_ts pl2 m_acts t rc2 rp2 page ld m_isKept FU 0 mc = _ := h1
  have hmc : ∀ k, k < 4 → up (fun i L => upd L (0 + i) (rc2 i)) 0 4 mc k = rc2 k := by
    intro k hk
    rw [up_copy 0 4 rc2, if_pos (by omega), Nat.sub_zero]
  generalize up (fun i L => upd L (0 + i) (rc2 i)) 0 4 mc = mc2 at h1' hmc
  have h3 := loop_up0 (f := fun n i a => fX5_house_L44 0 m_ts pl2 m_acts t mc2 rc2 rp2 ld m_isKept n (nI i) a) (N := 17) (st := fun i L => upd L (0 + i) (rp2 i)) (ex := fun a => ob (fX5_settle a ld) (fun r2 => ob (fX5_there r2.2.1) (fun r3 => ob (fX5_many r3) (fun r4 => some (r4, ((0 : Int32), pl2, (0 : Int32), mc2, rc2, rp2, r2.2.1, r2.2.2, (upd (upd m_isKept (Int32.toNatClampNeg 0) (vp_nar .boolean 0)) (Int32.toNatClampNeg 1) (vp_nar .boolean 0)))))))) (by
    intro n a
    show fX5_house_L44 0 m_ts pl2 m_acts t mc2 rc2 rp2 ld m_isKept (n + 1) (nI 17) a = _
    rw [fX5_house_L44, if_pos y17]) (by
    intro n i a hi
    show fX5_house_L44 0 m_ts pl2 m_acts t mc2 rc2 rp2 ld m_isKept (n + 1) (nI i) a = fX5_house_L44 0 m_ts pl2 m_acts t mc2 rc2 rp2 ld m_isKept n (nI (i + 1)) _
    rw [fX5_house_L44, if_neg (n17 hi)]
    simp only [gdn hi (show (17 : Nat) < 2 ^ 31 by decide), clN (show i < 2 ^ 31 by omega), nm_eq, nI_1, Nat.zero_add]) FU page (FU_gt (by omega))
  have h3' : fX5_house_L44 0 m_ts pl2 m_acts t mc2 rc2 rp2 ld m_isKept FU 0 page = _ := h3
  have hpg : MR g2 0 (up (fun i L => upd L (0 + i) (rp2 i)) 0 17 page) := by
    refine ⟨fun q hq => ?_, ?_⟩
    · rw [up_copy 0 17 rp2, if_pos (by omega), Nat.sub_zero]
      exact hM2.1 q hq
    · rw [up_copy 0 17 rp2, if_pos (by omega), Nat.sub_zero]
      exact hM2.2
  obtain ⟨pg3, ld3, e5, m5⟩ := m_settle hpg h42 ld
  have hOK := OK_ST h42 hS2
  have em : fX5_house_L19 0 m_ts pl2 m_acts t rc2 rp2 page ld m_isKept FU 0 mc = some (nI (cnt (TH (ST 16 g2 0).1)), ((0 : Int32), pl2, (0 : Int32), mc2, rc2, rp2, pg3, ld3, (upd (upd m_isKept 0 0) 1 0))) := by
    rw [h1', h3']
    simp only [e5, ob_some, f_there m5.1 hOK.1, f_many, nar0]
    rfl
  refine ⟨nI (cnt (TH (ST 16 g2 0).1)), (ST 16 g2 0).1, 0, 0, TH (ST 16 g2 0).1, ki2, 0, nca2, TH (ST 16 g2 0).1, ki2, 0, ca2, L2, pl2, 0, mc2, rc2, rp2, pg3, ld3, upd (upd m_isKept 0 0) 1 0, ?_, em, ⟨hOK, ⟨rfl, KI_sub hk2 (ST_sub _ _ _)⟩, m5⟩, ?_, ?_, ?_⟩
  · show ob (fX1_settle (TH g2) ki2 0 lo2) _ = _
    rw [e3, ob_some]
    show ob (fX1_copyFrom nth nki nfe nca (TH (ST 16 g2 0).1) ki2 0 ca2) _ = _
    rw [e4, ob_some]
    show ob (fX1_size (TH (ST 16 g2 0).1)) _ = _
    rw [c_size, ob_some]
  · intro k hk
    rw [q4 k hk, hmc k hk]
    exact hC2 k hk
  · obtain ⟨ac, q1, q2, q3, q5, q6⟩ := hA
    exact ⟨0, by omega, rfl, rfl, q5, fun j h => absurd h (by omega)⟩
  · refine ⟨hS.1, fun j hj => Or.inr ⟨b_0 j, ?_⟩⟩
    rcases (by omega : j = 0 ∨ j = 1) with e | e
    · subst e
      rw [pk_un (by decide), pk_us]
    · subst e
      rw [pk_us]
