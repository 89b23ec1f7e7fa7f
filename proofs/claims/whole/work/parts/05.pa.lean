/-! the row of acts, the slots -/
def RPg (g : Nat → Nat) (th ki fe : Int32) (h : Nat → Int32) : Prop := OK g ∧ PP g th ki ∧ MR g fe h
def RA (h_ac m_acts c_sz : Int32) (c_st c_sk c_sf m_book : Nat → Int32) : Prop := ∃ ac, ac ≤ 14 ∧ h_ac = nI ac ∧ m_acts = nI ac ∧ c_sz = 14 ∧ ∀ j, j < ac → ∃ g, RPg g (c_st j) (c_sk j) (c_sf j) (fun k => m_book (17 * j + k))
def RS (h_ks s_sz : Int32) (s_st s_sk s_sf m_kept m_isKept : Nat → Int32) : Prop := s_sz = 2 ∧ ∀ j, j < 2 → (bt h_ks j = true ∧ m_isKept j = 1 ∧ ∃ g, RPg g (s_st j) (s_sk j) (s_sf j) (fun k => m_kept (17 * j + k))) ∨ (bt h_ks j = false ∧ m_isKept j = 0)
theorem RPg_congr {g : Nat → Nat} {th ki fe : Int32} {h h2 : Nat → Int32} (hr : RPg g th ki fe h) (e : ∀ k, k < 17 → h2 k = h k) : RPg g th ki fe h2 := ⟨hr.1, hr.2.1, fun p hp => by rw [e p (by omega)]; exact hr.2.2.1 p hp, by rw [e 16 (by omega)]; exact hr.2.2.2⟩
theorem up_shift (d : Nat) (hd : 0 < d) : ∀ k i (L : Nat → Int32) q, up (fun i L => upd L i (L (i + d))) i k L q = if i ≤ q ∧ q < i + k then L (q + d) else L q
  | 0, i, L, q => by
    show L q = _
    rw [if_neg (by omega)]
  | k + 1, i, L, q => by
    show up _ (i + 1) k (upd L i (L (i + d))) q = _
    rw [up_shift d hd k (i + 1) _ q]
    by_cases e : q = i
    · subst e
      rw [if_neg (by omega), pk_us, if_pos (by omega)]
    · by_cases e2 : i + 1 ≤ q ∧ q < i + 1 + k
      · rw [if_pos e2, pk_un (by omega), if_pos (by omega)]
      · rw [if_neg e2, pk_un e, if_neg (by omega)]
theorem n14 {i : Nat} (h : i < 14) : nI i < (14 : Int32) := nI_lt (b := 14) h (by decide)
theorem c_store {N : Nat} {sz : Int32} (hsz : sz = nI N) (hN : N < 100) (st sk sf : Nat → Int32) (th ki fe : Int32) {j : Nat} (hj : j < N) : fX2_store N sz st sk sf th ki fe (nI j) = some (upd st j th, upd sk j ki, upd sf j fe) := by
  unfold fX2_store
  rw [if_neg (nI_pos (by omega)), hsz, if_pos (nI_lt hj (by omega))]
  simp only [gdn hj (show N < 2 ^ 31 by omega), clN (show j < 2 ^ 31 by omega)]
theorem c_restore {N : Nat} {sz : Int32} (hsz : sz = nI N) (hN : N < 100) (st sk sf : Nat → Int32) (th ki fe : Int32) {j : Nat} (hj : j < N) : fX2_restore N sz st sk sf th ki fe (nI j) = some (st j, sk j, sf j) := by
  unfold fX2_restore
  rw [if_neg (nI_pos (by omega)), hsz, if_pos (nI_lt hj (by omega))]
  simp only [gdn hj (show N < 2 ^ 31 by omega), clN (show j < 2 ^ 31 by omega), nm_eq]
theorem c_forget (st sk sf : Nat → Int32) : ∃ st2 sk2 sf2, fX2_forgetFirst 14 14 st sk sf = some (st2, sk2, sf2) ∧ ∀ j, j < 13 → st2 j = st (j + 1) ∧ sk2 j = sk (j + 1) ∧ sf2 j = sf (j + 1) := by
  have h1 := loop_up0 (f := fun n i (a : (Nat → Int32) × (Nat → Int32) × (Nat → Int32)) => fX2_forgetFirst_L2 14 14 n (nI (i + 1)) a.1 a.2.1 a.2.2) (N := 13) (st := fun i a => (upd a.1 i (a.1 (i + 1)), upd a.2.1 i (a.2.1 (i + 1)), upd a.2.2 i (a.2.2 (i + 1)))) (ex := fun a => some a) (by
    intro n a
    show fX2_forgetFirst_L2 14 14 (n + 1) (nI 14) a.1 a.2.1 a.2.2 = _
    rw [fX2_forgetFirst_L2, if_pos (by decide)]) (by
    intro n i a hi
    show fX2_forgetFirst_L2 14 14 (n + 1) (nI (i + 1)) a.1 a.2.1 a.2.2 = fX2_forgetFirst_L2 14 14 n (nI (i + 1 + 1)) _ _ _
    have e1 : nI (i + 1) - 1 = nI i := nI_pred i
    rw [fX2_forgetFirst_L2, if_neg (show ¬ (14 : Int32) ≤ nI (i + 1) from nI_ge (a := i + 1) (b := 14) (by omega) (by decide))]
    simp only [gdn (show i + 1 < 14 by omega) (show (14 : Nat) < 2 ^ 31 by decide), e1, gdn (show i < 14 by omega) (show (14 : Nat) < 2 ^ 31 by decide), clN (show i + 1 < 2 ^ 31 by omega), clN (show i < 2 ^ 31 by omega), nm_eq, nI_1]) FU (st, sk, sf) (FU_gt (by omega))
  have hp : ∀ k i (a b c : Nat → Int32), up (fun i (a : (Nat → Int32) × (Nat → Int32) × (Nat → Int32)) => (upd a.1 i (a.1 (i + 1)), upd a.2.1 i (a.2.1 (i + 1)), upd a.2.2 i (a.2.2 (i + 1)))) i k (a, b, c) = (up (fun i L => upd L i (L (i + 1))) i k a, up (fun i L => upd L i (L (i + 1))) i k b, up (fun i L => upd L i (L (i + 1))) i k c) := by
    intro k
    induction k with
    | zero => intro i a b c; rfl
    | succ k ih => intro i a b c; exact ih (i + 1) _ _ _
  rw [hp] at h1
  refine ⟨_, _, _, h1, fun j hj => ?_⟩
  rw [up_shift 1 (by decide), up_shift 1 (by decide), up_shift 1 (by decide), if_pos (by omega), if_pos (by omega), if_pos (by omega)]
  exact ⟨rfl, rfl, rfl⟩
theorem m_note_L51 {ac : Nat} (hac : ac < 14) (page book : Nat → Int32) : fX5_note_L51 (nI ac) page FU 0 book = some (nI (ac + 1), up (fun i L => upd L (17 * ac + i) (page i)) 0 17 book) := by
  have h1 := loop_up0 (f := fun n i a => fX5_note_L51 (nI ac) page n (nI i) a) (N := 17) (st := fun i L => upd L (17 * ac + i) (page i)) (ex := fun a => some (nI (ac + 1), a)) (by
    intro n a
    show fX5_note_L51 (nI ac) page (n + 1) (nI 17) a = _
    rw [fX5_note_L51, if_pos y17]
    simp only [nm_eq]
    rw [show nI ac + 1 = nI (ac + 1) from nI_1 ac]) (by
    intro n i a hi
    show fX5_note_L51 (nI ac) page (n + 1) (nI i) a = fX5_note_L51 (nI ac) page n (nI (i + 1)) _
    have e1 : (17 : Int32) * nI ac + nI i = nI (17 * ac + i) := by
      show nI 17 * nI ac + nI i = _
      rw [pk_mul, nI_add]
    rw [fX5_note_L51, if_neg (n17 hi), e1]
    simp only [gdn hi (show (17 : Nat) < 2 ^ 31 by decide), gdn (show 17 * ac + i < 238 by omega) (show (238 : Nat) < 2 ^ 31 by decide), clN (show i < 2 ^ 31 by omega), clN (show 17 * ac + i < 2 ^ 31 by omega), nm_eq, nI_1]) FU book (FU_gt (by omega))
  exact h1
theorem up_copy (d k : Nat) (S L : Nat → Int32) (q : Nat) : up (fun i L => upd L (d + i) (S i)) 0 k L q = if d ≤ q ∧ q < d + k then S (q - d) else L q := up_upd (fun i _ => S i) d k L q
theorem y221 : (221 : Int32) ≤ nI 221 := nI_le (a := 221) (b := 221) (Nat.le_refl _) (by decide)
theorem m_note_11y (page : Nat → Int32) (n : Nat) (a : Nat → Int32) (v w : Int32) (hv : 221 ≤ v) : fX5_note_L11 w page (n + 1) v a = fX5_note_L51 (w - 1) page FU 0 a := by
  rw [fX5_note_L11, if_pos hv, nm_eq]
theorem m_note_11x (page : Nat → Int32) (n : Nat) (a : Nat → Int32) : fX5_note_L11 14 page (n + 1) (nI 221) a = fX5_note_L51 (nI 13) page FU 0 a := by
  have e : (14 : Int32) - 1 = nI 13 := by decide
  have h := m_note_11y page n a (nI 221) 14 y221
  rw [e] at h
  exact h
theorem m_note_11s (page : Nat → Int32) (n i : Nat) (a : Nat → Int32) (hi : i < 221) : fX5_note_L11 14 page (n + 1) (nI i) a = fX5_note_L11 14 page n (nI (i + 1)) (upd a i (a (i + 17))) := by
  have e1 : nI i + (17 : Int32) = nI (i + 17) := nI_add i 17
  rw [fX5_note_L11, if_neg (show ¬ (221 : Int32) ≤ nI i from nI_ge (a := i) (b := 221) hi (by decide)), e1]
  simp only [gdn (show i + 17 < 238 by omega) (show (238 : Nat) < 2 ^ 31 by decide), gdn (show i < 238 by omega) (show (238 : Nat) < 2 ^ 31 by decide), clN (show i < 2 ^ 31 by omega), clN (show i + 17 < 2 ^ 31 by omega), nm_eq, nI_1]
theorem m_note_11l (page : Nat → Int32) (k n : Nat) (a : Nat → Int32) (hk : k = 221) (hn : k < n) : fX5_note_L11 14 page n (nI 0) a = fX5_note_L51 (nI 13) page FU 0 (up (fun i L => upd L i (L (i + 17))) 0 k a) :=
  loop_up0 (f := fun n i a => fX5_note_L11 14 page n (nI i) a) (N := k) (st := fun i L => upd L i (L (i + 17))) (ex := fun a => fX5_note_L51 (nI 13) page FU 0 a) (fun n a => by subst hk; exact m_note_11x page n a) (fun n i a hi => m_note_11s page n i a (by omega)) n a hn
theorem m_note_L11 (page book : Nat → Int32) : ∃ book2, fX5_note_L11 14 page FU 0 book = fX5_note_L51 (nI 13) page FU 0 book2 ∧ ∀ q, q < 221 → book2 q = book (q + 17) := by
  obtain ⟨k, hk⟩ : ∃ k, k = 221 := ⟨_, rfl⟩
  refine ⟨_, m_note_11l page k FU book hk (by rw [hk]; exact FU_gt (by omega)), fun q hq => ?_⟩
  rw [up_shift 17 (by decide), if_pos (by omega)]
theorem a_record {h_ac m_acts c_sz : Int32} {c_st c_sk c_sf m_book : Nat → Int32} (hA : RA h_ac m_acts c_sz c_st c_sk c_sf m_book) {g : Nat → Nat} {th ki fe : Int32} {page : Nat → Int32} (hP : RPg g th ki fe page) :
    ∃ ac2 st2 sk2 sf2 bk2, fX4_recordAct h_ac th ki fe c_sz c_st c_sk c_sf = some (ac2, st2, sk2, sf2) ∧ fX5_note m_acts page m_book = some (ac2, bk2) ∧ RA ac2 ac2 c_sz st2 sk2 sf2 bk2 := by
  obtain ⟨ac, hac, rfl, rfl, rfl, hj⟩ := hA
  rcases Nat.lt_or_ge ac 14 with h | h
  · refine ⟨nI (ac + 1), upd c_st ac th, upd c_sk ac ki, upd c_sf ac fe, up (fun i L => upd L (17 * ac + i) (page i)) 0 17 m_book, ?_, ?_, ac + 1, by omega, rfl, rfl, rfl, ?_⟩
    · unfold fX4_recordAct
      rw [if_pos (n14 h), c_store (N := 14) (sz := 14) rfl (by decide) _ _ _ _ _ _ h, ob_some]
      simp only [nm_eq]
      rw [show nI ac + 1 = nI (ac + 1) from nI_1 ac]
    · unfold fX5_note
      rw [if_neg (fun z => by have := (nI_eq (a := ac) (b := 14) (by omega) (by decide)).mp z; omega), m_note_L51 h]
    · intro j hj2
      by_cases e : j = ac
      · subst e
        refine ⟨g, ?_⟩
        rw [pk_us, pk_us, pk_us]
        exact RPg_congr hP (fun k hk => by
          show up (fun i L => upd L (17 * j + i) (page i)) 0 17 m_book (17 * j + k) = page k
          rw [up_copy, if_pos (by omega), show 17 * j + k - 17 * j = k by omega])
      · obtain ⟨g2, hg2⟩ := hj j (by omega)
        refine ⟨g2, ?_⟩
        rw [pk_un e, pk_un e, pk_un e]
        exact RPg_congr hg2 (fun k hk => by
          show up (fun i L => upd L (17 * ac + i) (page i)) 0 17 m_book (17 * j + k) = m_book (17 * j + k)
          rw [up_copy, if_neg (by omega)])
  · have e14 : ac = 14 := by omega
    subst e14
    obtain ⟨st2, sk2, sf2, hf, hsh⟩ := c_forget c_st c_sk c_sf
    obtain ⟨bk2, hb, hbs⟩ := m_note_L11 page m_book
    refine ⟨nI 14, upd st2 13 th, upd sk2 13 ki, upd sf2 13 fe, up (fun i L => upd L (17 * 13 + i) (page i)) 0 17 bk2, ?_, ?_, 14, by omega, rfl, rfl, rfl, ?_⟩
    · unfold fX4_recordAct
      rw [if_neg (by decide), hf, ob_some]
      show ob (fX2_store 14 14 st2 sk2 sf2 th ki fe (nI 13)) _ = _
      rw [c_store (N := 14) (sz := 14) rfl (by decide) _ _ _ _ _ _ (j := 13) (by decide), ob_some]
      rfl
    · unfold fX5_note
      rw [if_pos (show nI 14 = 14 from rfl)]
      show fX5_note_L11 14 page FU 0 m_book = _
      rw [hb, m_note_L51 (by decide)]
    · intro j hj2
      by_cases e : j = 13
      · subst e
        refine ⟨g, ?_⟩
        rw [pk_us, pk_us, pk_us]
        exact RPg_congr hP (fun k hk => by
          show up (fun i L => upd L (17 * 13 + i) (page i)) 0 17 bk2 (17 * 13 + k) = page k
          rw [up_copy, if_pos (by omega), show 17 * 13 + k - 17 * 13 = k by omega])
      · obtain ⟨g2, hg2⟩ := hj (j + 1) (by omega)
        obtain ⟨e1, e2, e3⟩ := hsh j (by omega)
        refine ⟨g2, ?_⟩
        rw [pk_un e, pk_un e, pk_un e, e1, e2, e3]
        exact RPg_congr hg2 (fun k hk => by
          show up (fun i L => upd L (17 * 13 + i) (page i)) 0 17 bk2 (17 * j + k) = m_book (17 * (j + 1) + k)
          rw [up_copy, if_neg (by omega), hbs _ (by omega), show 17 * j + k + 17 = 17 * (j + 1) + k by omega])
/-- undo -/
theorem m_undo_L27 (thrown : Int32) {ac : Nat} (hac : ac < 14) (page book : Nat → Int32) : fX5_undo_L27 thrown (nI ac) book FU 0 page = some (nI ac, (thrown, nI ac, up (fun i L => upd L (0 + i) (book (17 * ac + i))) 0 17 page)) := by
  have h1 := loop_up0 (f := fun n i a => fX5_undo_L27 thrown (nI ac) book n (nI i) a) (N := 17) (st := fun i L => upd L (0 + i) (book (17 * ac + i))) (ex := fun a => some (nI ac, (thrown, nI ac, a))) (by
    intro n a
    show fX5_undo_L27 thrown (nI ac) book (n + 1) (nI 17) a = _
    rw [fX5_undo_L27, if_pos y17]) (by
    intro n i a hi
    show fX5_undo_L27 thrown (nI ac) book (n + 1) (nI i) a = fX5_undo_L27 thrown (nI ac) book n (nI (i + 1)) _
    have e1 : (17 : Int32) * nI ac + nI i = nI (17 * ac + i) := by
      show nI 17 * nI ac + nI i = _
      rw [pk_mul, nI_add]
    rw [fX5_undo_L27, if_neg (n17 hi), e1]
    simp only [gdn hi (show (17 : Nat) < 2 ^ 31 by decide), gdn (show 17 * ac + i < 238 by omega) (show (238 : Nat) < 2 ^ 31 by decide), clN (show i < 2 ^ 31 by omega), clN (show 17 * ac + i < 2 ^ 31 by omega), nm_eq, nI_1, Nat.zero_add]) FU page (FU_gt (by omega))
  exact h1
theorem o_undo {h_ac m_acts c_sz : Int32} {c_st c_sk c_sf m_book : Nat → Int32} (hA : RA h_ac m_acts c_sz c_st c_sk c_sf m_book) {g : Nat → Nat} {th ki fe : Int32} {page : Nat → Int32} (hP : RPg g th ki fe page) (thrown : Int32) :
    ∃ r ac2 th2 ki2 fe2 pg2 g2, fX4_undo h_ac th ki fe c_sz c_st c_sk c_sf = some (r, (ac2, th2, ki2, fe2)) ∧ fX5_undo thrown m_acts page m_book = some (r, (0, ac2, pg2)) ∧ RA ac2 ac2 c_sz c_st c_sk c_sf m_book ∧ RPg g2 th2 ki2 fe2 pg2 := by
  obtain ⟨ac, hac, rfl, rfl, rfl, hj⟩ := hA
  cases ac with
  | zero =>
    refine ⟨-3, nI 0, th, ki, fe, page, g, ?_, ?_, ⟨0, by omega, rfl, rfl, rfl, fun j h => absurd h (by omega)⟩, hP⟩
    · unfold fX4_undo
      rw [if_pos (show nI 0 = 0 from rfl)]
    · unfold fX5_undo
      rw [if_pos (show nI 0 = 0 from rfl)]
  | succ ac =>
    obtain ⟨g2, hg2⟩ := hj ac (by omega)
    have e1 : nI (ac + 1) - 1 = nI ac := nI_pred ac
    refine ⟨nI ac, nI ac, c_st ac, c_sk ac, c_sf ac, up (fun i L => upd L (0 + i) (m_book (17 * ac + i))) 0 17 page, g2, ?_, ?_, ⟨ac, by omega, rfl, rfl, rfl, fun j h => hj j (by omega)⟩, ?_⟩
    · unfold fX4_undo
      rw [if_neg (nI_ne0 (by omega) (by omega)), e1]
      simp only [nm_eq]
      rw [c_restore (N := 14) (sz := 14) rfl (by decide) _ _ _ _ _ _ (by omega), ob_some]
    · unfold fX5_undo
      rw [if_neg (nI_ne0 (by omega) (by omega)), e1]
      simp only [nm_eq]
      rw [m_undo_L27 0 (by omega)]
    · exact RPg_congr hg2 (fun k hk => by
        rw [up_copy 0 17 (fun i => m_book (17 * ac + i)), if_pos (by omega), Nat.sub_zero])
