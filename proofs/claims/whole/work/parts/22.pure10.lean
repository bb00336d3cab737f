/-! ===== the pure part, 10: draws ===== -/
def nxL (s : Int64) : Int64 := s * 6364136223846793005 + 1442695040888963407
def shV (s : Int64) : Nat := s.toBitVec.toNat / 2 ^ 33
theorem shV_lt (s : Int64) : shV s < 2 ^ 31 := by
  have := s.toBitVec.isLt
  unfold shV
  omega
theorem shL (x : Int64) : (x.toUInt64 >>> ((33 : Int32).toInt64.toUInt64 &&& Int64.toUInt64 63)).toInt64 = lN (shV x) := by
  apply Int64.toBitVec_inj.mp
  apply BitVec.eq_of_toNat_eq
  have e : (x.toUInt64 >>> ((33 : Int32).toInt64.toUInt64 &&& Int64.toUInt64 63)).toInt64.toBitVec = x.toBitVec >>> 33 := UInt64.toBitVec_shiftRight _ _
  rw [e, BitVec.toNat_ushiftRight, Nat.shiftRight_eq_div_pow]
  have := shV_lt x
  exact (Nat.mod_eq_of_lt (show shV x < 2 ^ 64 by omega)).symm
/-- a number drawn below b -/
def drw (s : Int64) (b : Nat) : Nat := shV (nxL s) % b
theorem drw_lt (s : Int64) {b : Nat} (h : 0 < b) : drw s b < b := Nat.mod_lt _ h
theorem lX_below {u : CT} {post : Int32 → CT → Prop} {b : Nat} (h0 : 0 < b) (hb : b < 2 ^ 31) {x : Int32} (hx : x = nI b) (h : post (nI (drw (x_last u) b)) (x_last_s u (nxL (x_last u)))) : q_N_below x u post := by
  subst hx
  unfold q_N_below
  refine br_t (nI_lt (a := 0) h0 hb) ⟨nI_ne0 h0 hb, ?_⟩
  rw [shL, lN_i, pk_rem (shV_lt _) h0 hb]
  exact h
theorem lM_draw {v : MT} {post : Int32 → MT → Prop} {b : Nat} (h0 : 0 < b) (hb : b < 2 ^ 31) {x : Int32} (hx : x = nI b) (h : post (nI (drw (m_state v) b)) (m_state_s v (nxL (m_state v)))) : q_M_draw x v post := by
  subst hx
  unfold q_M_draw
  have hs := shV_lt (m_state v * 6364136223846793005 + 1442695040888963407)
  rw [nI_toInt64 hb, shL, pk_lRem (Nat.lt_trans hs (by omega)) h0 (by omega), lN_i]
  exact ⟨lN_n0 h0 (by omega), h⟩
/-! differences of longs -/
theorem lsub_toInt {a b : Nat} (ha : a < 2 ^ 62) (hb : b < 2 ^ 62) : (lN a - lN b).toInt = (a : Int) - b := by
  rw [Int64.toInt_sub, pk_lT (by omega), pk_lT (by omega)]
  exact Int.bmod_eq_of_le (by omega) (by omega)
theorem l_dif {x y : Nat} (hx : x < 2 ^ 30) (hy : y < 2 ^ 30) : (nI x - nI y).toInt64 = lN x - lN y :=
  Int64.toInt_inj.mp (by rw [Int32.toInt_toInt64, pk_sub_toInt hx hy, lsub_toInt (by omega) (by omega)])
theorem lN_dsum {a b x y : Nat} (ha : a < 2 ^ 60) (hb : b < 2 ^ 60) (hx : x < 2 ^ 60) (hy : y < 2 ^ 60) : lN a - lN b + (lN x - lN y) = lN (a + x) - lN (b + y) :=
  Int64.toInt_inj.mp (by
    rw [Int64.toInt_add, lsub_toInt (by omega) (by omega), lsub_toInt (by omega) (by omega), lsub_toInt (by omega) (by omega)]
    rw [Int.bmod_eq_of_le (by omega) (by omega)]
    omega)
theorem l_sgn {a b : Nat} (ha : a < 2 ^ 62) (hb : b < 2 ^ 62) : (0 ≤ lg_cmp (lN a - lN b) 0) ↔ b ≤ a := by
  rw [lg_cmp_ge, Int64.le_iff_toInt_le, lsub_toInt ha hb, show (0 : Int64).toInt = 0 from rfl]
  omega
/-- the picture with number r among those that both have counted -/
def pcN (cn : Nat → Nat) (a b : Nat) : Nat → Nat → Nat
  | 0, _ => 0
  | k + 1, r => if boP cn a b k ∧ boN cn a b k = r then k else pcN cn a b k r
section PUR
variable {cn bt er : Nat → Nat} {fl : Nat → Bool} {u : CT} {v : MT} {C P a b : Nat}
theorem PM_st (h : PM cn fl bt er v) (x : Int64) : PM cn fl bt er (m_state_s v x) := h
theorem PX_st (h : PX cn fl bt er u) (x : Int64) : PX cn fl bt er (x_last_s u x) := h
theorem pc_ok : ∀ {P r : Nat}, r < boN cn a b P → pcN cn a b P r < P ∧ boP cn a b (pcN cn a b P r) ∧ boN cn a b (pcN cn a b P r) = r
  | 0, r, h => absurd h (by simp [boN])
  | k + 1, r, h => by
    by_cases hk : boP cn a b k ∧ boN cn a b k = r
    · have e : pcN cn a b (k + 1) r = k := by simp only [pcN]; rw [if_pos hk]
      rw [e]
      exact ⟨by omega, hk.1, hk.2⟩
    · have e : pcN cn a b (k + 1) r = pcN cn a b k r := by simp only [pcN]; rw [if_neg hk]
      rw [e]
      have h2 : r < boN cn a b k := by
        by_cases hb : boP cn a b k
        · rw [bo_y hb] at h
          have : ¬ boN cn a b k = r := fun z => hk ⟨hb, z⟩
          omega
        · rw [bo_n hb] at h; exact h
      have := pc_ok h2
      exact ⟨by omega, this.2⟩
/-- draws added: the state, the first one's bytes, the other's -/
def dsN (cn bt : Nat → Nat) (a b P : Nat) (s : Int64) : Nat → Int64 × Nat × Nat
  | 0 => (s, 0, 0)
  | j + 1 => (nxL (dsN cn bt a b P s j).1, (dsN cn bt a b P s j).2.1 + lsp cn bt a (pcN cn a b P (drw (dsN cn bt a b P s j).1 (boN cn a b P))), (dsN cn bt a b P s j).2.2 + lsp cn bt b (pcN cn a b P (drw (dsN cn bt a b P s j).1 (boN cn a b P))))
/-- times: the state, how often the first one is ahead -/
def dtN (cn bt : Nat → Nat) (a b P : Nat) (s : Int64) : Nat → Int64 × Nat
  | 0 => (s, 0)
  | t + 1 => ((dsN cn bt a b P (dtN cn bt a b P s t).1 (boN cn a b P)).1, (dtN cn bt a b P s t).2 + (if (dsN cn bt a b P (dtN cn bt a b P s t).1 (boN cn a b P)).2.1 < (dsN cn bt a b P (dtN cn bt a b P s t).1 (boN cn a b P)).2.2 then 1 else 0))
theorem ds_le (hG : GI cn fl bt er) (hP : P ≤ 24) (ha : a < 8) (hb : b < 8) (h0 : 0 < boN cn a b P) (s : Int64) : ∀ j, (dsN cn bt a b P s j).2.1 ≤ j * 1000000000 ∧ (dsN cn bt a b P s j).2.2 ≤ j * 1000000000
  | 0 => by simp [dsN]
  | j + 1 => by
    have h1 := ds_le hG hP ha hb h0 s j
    have hp := pc_ok (drw_lt (dsN cn bt a b P s j).1 h0)
    have e1 : lsp cn bt a (pcN cn a b P (drw (dsN cn bt a b P s j).1 (boN cn a b P))) ≤ 1000000000 := hG.lb (by omega)
    have e2 : lsp cn bt b (pcN cn a b P (drw (dsN cn bt a b P s j).1 (boN cn a b P))) ≤ 1000000000 := hG.lb (by omega)
    rw [Nat.succ_mul]
    exact ⟨Nat.add_le_add h1.1 e1, Nat.add_le_add h1.2 e2⟩
theorem lX_drawn_l {post : Int64 → CT → Prop} (hG : GI cn fl bt er) (hP : P ≤ 24) (ha : a < 8) (hb : b < 8) (h0 : 0 < boN cn a b P) (hn : x_leadCount u = nI (boN cn a b P)) (hf : ∀ q, q < P → boP cn a b q → x_leads u (boN cn a b q) = dif cn bt a b q) (s : Int64) (hpost : post (lN (dsN cn bt a b P s (boN cn a b P)).2.1 - lN (dsN cn bt a b P s (boN cn a b P)).2.2) (x_last_s u (dsN cn bt a b P s (boN cn a b P)).1)) :
    ∀ m j, j + m = boN cn a b P → q_X_drawnLead_4N (m + 1) (lN (dsN cn bt a b P s j).2.1 - lN (dsN cn bt a b P s j).2.2) (nI j) (x_last_s u (dsN cn bt a b P s j).1) post := by
  have hl := bo_le cn a b P
  intro m
  induction m with
  | zero =>
    intro j hj
    have : j = boN cn a b P := by omega
    subst this
    rw [q_X_drawnLead_4N]
    unfold q_X_drawnLead_4
    exact pk_le (boN cn a b P) (boN cn a b P) (fun _ => hpost) (fun h => absurd h (by omega)) hn
  | succ m ih =>
    intro j hj
    rw [q_X_drawnLead_4N]
    unfold q_X_drawnLead_4
    dsimp only
    refine pk_le (boN cn a b P) j (fun h => absurd h (by omega)) (fun _ => ?_) hn
    have hp := pc_ok (drw_lt (dsN cn bt a b P s j).1 h0)
    have hd := drw_lt (dsN cn bt a b P s j).1 h0
    have hs := ds_le hG hP ha hb h0 s j
    have e1 : lsp cn bt a (pcN cn a b P (drw (dsN cn bt a b P s j).1 (boN cn a b P))) ≤ 1000000000 := hG.lb (by omega)
    have e2 : lsp cn bt b (pcN cn a b P (drw (dsN cn bt a b P s j).1 (boN cn a b P))) ≤ 1000000000 := hG.lb (by omega)
    refine lX_below (u := x_last_s u (dsN cn bt a b P s j).1) h0 (by omega) hn ⟨pk_in (drw (dsN cn bt a b P s j).1 (boN cn a b P)) 24 (by omega), ?_⟩
    have e := ih (j + 1) (by omega)
    simp only [dsN] at e
    have hj2 : j * 1000000000 ≤ 24 * 1000000000 := Nat.mul_le_mul (by omega) (by omega)
    have key : (x_leads u (nI (drw (dsN cn bt a b P s j).1 (boN cn a b P))).toNatClampNeg).toInt64 = lN (lsp cn bt a (pcN cn a b P (drw (dsN cn bt a b P s j).1 (boN cn a b P)))) - lN (lsp cn bt b (pcN cn a b P (drw (dsN cn bt a b P s j).1 (boN cn a b P)))) := by
      rw [nI_clamp (by omega)]
      have := hf _ hp.1 hp.2.1
      rw [hp.2.2] at this
      rw [this]
      exact l_dif (by omega) (by omega)
    rw [← lN_dsum (by omega) (by omega) (by omega) (by omega), ← key] at e
    rw [nI_1]
    exact e
theorem lX_drawn {post : Int64 → CT → Prop} (hG : GI cn fl bt er) (hP : P ≤ 24) (ha : a < 8) (hb : b < 8) (h0 : 0 < boN cn a b P) (hn : x_leadCount u = nI (boN cn a b P)) (hf : ∀ q, q < P → boP cn a b q → x_leads u (boN cn a b q) = dif cn bt a b q) (s : Int64) (hpost : post (lN (dsN cn bt a b P s (boN cn a b P)).2.1 - lN (dsN cn bt a b P s (boN cn a b P)).2.2) (x_last_s u (dsN cn bt a b P s (boN cn a b P)).1)) : q_X_drawnLead (x_last_s u s) post := by
  have e := lX_drawn_l hG hP ha hb h0 hn hf s hpost (boN cn a b P) 0 (by omega)
  rw [show dsN cn bt a b P s 0 = (s, 0, 0) from rfl] at e
  rw [show lN (s, 0, 0).2.1 - lN (s, 0, 0).2.2 = (0 : Int64) from Int64.sub_self _] at e
  exact ⟨_, e⟩
theorem lX_times_l {post : Int32 → CT → Prop} {ex : String → CT → Prop} (hG : GI cn fl bt er) (hP : P ≤ 24) (ha : a < 8) (hb : b < 8) (h0 : 0 < boN cn a b P) (hn : x_leadCount u = nI (boN cn a b P)) (hf : ∀ q, q < P → boP cn a b q → x_leads u (boN cn a b q) = dif cn bt a b q) (s : Int64) {t : Nat} (ht : t ≤ 200) (hpost : post (nI (dtN cn bt a b P s t).2) (x_last_s u (dtN cn bt a b P s t).1)) :
    ∀ m j, j + m = t → q_X_draws_70N (m + 1) (nI t) (nI (dtN cn bt a b P s j).2) (nI j) (x_last_s u (dtN cn bt a b P s j).1) post ex := by
  have hl := bo_le cn a b P
  intro m
  induction m with
  | zero =>
    intro j hj
    have : j = t := by omega
    subst this
    rw [q_X_draws_70N]
    unfold q_X_draws_70
    exact pk_le j j (fun _ => hpost) (fun h => absurd h (by omega))
  | succ m ih =>
    intro j hj
    rw [q_X_draws_70N]
    unfold q_X_draws_70
    dsimp only
    refine pk_le t j (fun h => absurd h (by omega)) (fun _ => ?_)
    refine lX_drawn hG hP ha hb h0 hn hf (dtN cn bt a b P s j).1 ?_
    have e := ih (j + 1) (by omega)
    simp only [dtN] at e
    have hs := ds_le hG hP ha hb h0 (dtN cn bt a b P s j).1 (boN cn a b P)
    have hj2 : boN cn a b P * 1000000000 ≤ 24 * 1000000000 := Nat.mul_le_mul (by omega) (by omega)
    unfold q_X_draws_89
    rw [l_sgn (by omega) (by omega), nI_1, nI_1]
    refine br_c (fun hh => ?_) (fun hh => ?_)
    · rw [if_neg (by omega)] at e; exact e
    · rw [if_pos (by omega)] at e; exact e
/-! the reference's draws -/
theorem lM_pic_l {post : Int32 → MT → Prop} (hG : GI cn fl bt er) (h : PM cn fl bt er v) (hP : P ≤ 24) (ha : a < 8) (hb : b < 8) {q : Nat} (hq : q < P) (hbq : boP cn a b q) (hpost : post (nI q) v) : ∀ m k, k + m = q → q_M_both_6N (m + 1) (nI a) (nI b) (nI (boN cn a b q - boN cn a b k)) (nI k) v post := by
  have hl := bo_le cn a b q
  intro m
  induction m with
  | zero =>
    intro k hk
    have : k = q := by omega
    subst this
    rw [q_M_both_6N]
    unfold q_M_both_6
    dsimp only
    rw [Nat.sub_self]
    refine br_f (by decide) (lM_both hG h (by omega) ha hb ?_)
    rw [if_pos hbq]
    exact br_z (by decide) hpost
  | succ m ih =>
    intro k hk
    rw [q_M_both_6N]
    unfold q_M_both_6
    dsimp only
    have e := ih (k + 1) (by omega)
    have hmo := bo_mono (cn := cn) (a := a) (b := b) (show k + 1 ≤ q by omega)
    have key : q_M_both_22 (fun x1 x2 x4 x5 u => q_M_both_6N (m + 1) x1 x2 x4 x5 u post) (nI a) (nI b) (nI (boN cn a b q - boN cn a b k)) (nI k) v post := by
      unfold q_M_both_22 q_M_both_40
      refine lM_both hG h (by omega) ha hb ?_
      rw [nI_1]
      by_cases hbo : boP cn a b k
      · rw [if_pos hbo]
        rw [bo_y hbo] at e hmo
        refine br_f (by decide) ?_
        rw [show (1 : Int32) = nI 1 from rfl, pk_sub (by omega), Nat.sub_sub]
        exact e
      · rw [if_neg hbo]
        rw [bo_n hbo] at e
        refine br_t rfl ?_
        rw [show (0 : Int32) = nI 0 from rfl, pk_sub (by omega)]
        exact e
    refine pk_lt 0 (boN cn a b q - boN cn a b k) (fun _ => key) (fun hz => ?_)
    refine lM_both hG h (by omega) ha hb ?_
    have hnb : ¬ boP cn a b k := by
      intro z
      have := bo_lt (show k < q by omega) z
      omega
    rw [if_neg hnb]
    exact br_y rfl key
theorem lM_pic {post : Int32 → MT → Prop} (hG : GI cn fl bt er) (h : PM cn fl bt er v) (hP : P ≤ 24) (ha : a < 8) (hb : b < 8) {r : Nat} (hr : r < boN cn a b P) (hpost : post (nI (pcN cn a b P r)) v) : q_M_both (nI a) (nI b) (nI r) v post := by
  have hp := pc_ok hr
  have e := lM_pic_l hG h hP ha hb hp.1 hp.2.1 hpost (pcN cn a b P r) 0 (by omega)
  rw [hp.2.2] at e
  exact ⟨_, e⟩
theorem lM_drawn_l {K : Int32 → Int32 → Int32 → Int32 → Int32 → Int32 → MT → Prop} {post : Int32 → MT → Prop} {x5 x8 x9 : Int32} (hG : GI cn fl bt er) (h : PM cn fl bt er v) (hP : P ≤ 24) (ha : a < 8) (hb : b < 8) (h0 : 0 < boN cn a b P) (s : Int64) (hpost : K (nI a) (nI b) x5 (nI (boN cn a b P)) (x8 + (if (dsN cn bt a b P s (boN cn a b P)).2.1 < (dsN cn bt a b P s (boN cn a b P)).2.2 then 1 else 0)) (x9 + 1) (m_state_s v (dsN cn bt a b P s (boN cn a b P)).1)) :
    ∀ m j, j + m = boN cn a b P → q_M_draws_142N K (m + 1) (nI a) (nI b) x5 (nI (boN cn a b P)) x8 x9 (lN (dsN cn bt a b P s j).2.1) (lN (dsN cn bt a b P s j).2.2) (nI j) (m_state_s v (dsN cn bt a b P s j).1) post := by
  have hl := bo_le cn a b P
  intro m
  induction m with
  | zero =>
    intro j hj
    have : j = boN cn a b P := by omega
    subst this
    rw [q_M_draws_142N]
    unfold q_M_draws_142 q_M_draws_218
    dsimp only
    have hs := ds_le hG hP ha hb h0 s (boN cn a b P)
    have hj2 : boN cn a b P * 1000000000 ≤ 24 * 1000000000 := Nat.mul_le_mul (by omega) (by omega)
    refine pk_le (boN cn a b P) (boN cn a b P) (fun _ => ?_) (fun h => absurd h (by omega))
    rw [lgc_ge (by omega) (by omega)]
    refine br_c (fun hh => ?_) (fun hh => ?_)
    · rw [if_neg (by omega)] at hpost; exact hpost
    · rw [if_pos (by omega)] at hpost; exact hpost
  | succ m ih =>
    intro j hj
    rw [q_M_draws_142N]
    unfold q_M_draws_142
    dsimp only
    have hp := pc_ok (drw_lt (dsN cn bt a b P s j).1 h0)
    have hd := drw_lt (dsN cn bt a b P s j).1 h0
    have e1 : lsp cn bt a (pcN cn a b P (drw (dsN cn bt a b P s j).1 (boN cn a b P))) ≤ 1000000000 := hG.lb (by omega)
    have e2 : lsp cn bt b (pcN cn a b P (drw (dsN cn bt a b P s j).1 (boN cn a b P))) ≤ 1000000000 := hG.lb (by omega)
    refine pk_le (boN cn a b P) j (fun h => absurd h (by omega)) (fun _ => ?_)
    refine lM_draw (v := m_state_s v (dsN cn bt a b P s j).1) h0 (by omega) rfl ?_
    refine lM_pic (v := m_state_s v (nxL (dsN cn bt a b P s j).1)) hG (PM_st h _) hP ha hb hd ?_
    refine lM_bytes (v := m_state_s v (nxL (dsN cn bt a b P s j).1)) hG (PM_st h _) (p := 24 * a + pcN cn a b P (drw (dsN cn bt a b P s j).1 (boN cn a b P))) (by omega) hp.2.1.1 (iy24 _ _) ?_
    refine lM_bytes (v := m_state_s v (nxL (dsN cn bt a b P s j).1)) hG (PM_st h _) (p := 24 * b + pcN cn a b P (drw (dsN cn bt a b P s j).1 (boN cn a b P))) (by omega) hp.2.1.2 (iy24 _ _) ?_
    have e := ih (j + 1) (by omega)
    simp only [dsN] at e
    rw [nI_toInt64 (Nat.lt_of_le_of_lt e1 (by omega)), nI_toInt64 (Nat.lt_of_le_of_lt e2 (by omega)), lN_add, lN_add, nI_1]
    exact e
theorem lM_times_l {post : Int32 → MT → Prop} (hG : GI cn fl bt er) (h : PM cn fl bt er v) (hP : P ≤ 24) (ha : a < 8) (hb : b < 8) (h0 : 0 < boN cn a b P) (s : Int64) {t : Nat} (ht : t ≤ 200) (hpost : post (nI (dtN cn bt a b P s t).2) (m_state_s v (dtN cn bt a b P s t).1)) :
    ∀ m j, j + m = t → q_M_draws_126N (m + 1) (nI a) (nI b) (nI t) (nI (boN cn a b P)) (nI (dtN cn bt a b P s j).2) (nI j) (m_state_s v (dtN cn bt a b P s j).1) post := by
  intro m
  induction m with
  | zero =>
    intro j hj
    have : j = t := by omega
    subst this
    rw [q_M_draws_126N]
    unfold q_M_draws_126
    exact pk_le j j (fun _ => hpost) (fun h => absurd h (by omega))
  | succ m ih =>
    intro j hj
    rw [q_M_draws_126N]
    unfold q_M_draws_126
    dsimp only
    refine pk_le t j (fun h => absurd h (by omega)) (fun _ => ⟨boN cn a b P + 1, ?_⟩)
    have e := ih (j + 1) (by omega)
    simp only [dtN] at e
    refine lM_drawn_l hG h hP ha hb h0 (dtN cn bt a b P s j).1 ?_ (boN cn a b P) 0 (by omega)
    rw [nI_1]
    by_cases hh : (dsN cn bt a b P (dtN cn bt a b P s j).1 (boN cn a b P)).2.1 < (dsN cn bt a b P (dtN cn bt a b P s j).1 (boN cn a b P)).2.2
    · rw [if_pos hh] at e ⊢
      rw [nI_1]; exact e
    · rw [if_neg hh] at e ⊢
      rw [show (0 : Int32) = nI 0 from rfl, nI_add]; exact e
theorem lM_count_l {post : Int32 → MT → Prop} {x3 : Int64} {x5 : Int32} (hG : GI cn fl bt er) (h : PM cn fl bt er v) (hP : P ≤ 24) (mP : m_pictures v = nI P) (ha : a < 8) (hb : b < 8) (hpost : q_M_draws_70 (nI a) (nI b) x3 x5 0 (nI (boN cn a b P)) v post) : ∀ m k, k + m = P → q_M_draws_29N (m + 1) (nI a) (nI b) x3 x5 0 (nI (boN cn a b k)) (nI k) v post := by
  intro m
  induction m with
  | zero =>
    intro k hk
    have : k = P := by omega
    subst this
    rw [q_M_draws_29N]
    unfold q_M_draws_29
    exact pk_le k k (fun _ => hpost) (fun h => absurd h (by omega)) mP
  | succ m ih =>
    intro k hk
    rw [q_M_draws_29N]
    unfold q_M_draws_29 q_M_draws_61
    dsimp only
    have e := ih (k + 1) (by omega)
    refine pk_le P k (fun h => absurd h (by omega)) (fun _ => br_y rfl (lM_both hG h (by omega) ha hb ?_)) mP
    rw [nI_1]
    by_cases hbo : boP cn a b k
    · rw [if_pos hbo]
      rw [bo_y hbo] at e
      refine br_f (by decide) ?_
      rw [nI_1]; exact e
    · rw [if_neg hbo]
      rw [bo_n hbo] at e
      refine br_t rfl ?_
      rw [show (0 : Int32) = nI 0 from rfl, nI_add]; exact e
end PUR
section PUS
variable {L : Nat} {xs : Nat → Int32} {i : Int32} {u : CT} {v : MT} {o : Nat → Int64}
theorem st_14 (h : Rel u v) (h1 : vp_in (i + 1) L) (h2 : vp_in (i + 2) L) (h3 : vp_in (i + 3) L) (h4 : vp_in (i + 4) L) (h5 : vp_in (i + 5) L) : q_law_14 L xs i u v o RR := by
  obtain ⟨C, P, cn, fl, bt, er, F, fp, T, tx, hI, hX, hM⟩ := h
  obtain ⟨iC, iP, iG, iF, iT, ix⟩ := id hI
  obtain ⟨xC, xP, xG, xF, xT, xx⟩ := id hX
  obtain ⟨mC, mP, mG, mF, mT, mx⟩ := id hM
  have hR : ∀ k, Rel u (m_code_s v k) := fun k => ⟨C, P, cn, fl, bt, er, F, fp, T, tx, hI, hX, hM⟩
  unfold q_law_14 qh_W_draws
  refine ⟨h1, h2, h3, h4, h5, ?_⟩
  generalize ((xs (i + 3).toNatClampNeg).toInt64 <<< _ ||| _) = s
  generalize xs (i + 1).toNatClampNeg = a
  generalize xs (i + 2).toNatClampNeg = b
  generalize xs (i + 5).toNatClampNeg = c
  have rbad : ∀ {x y : Int32} {post : Int32 → MT → Prop}, post 0 (m_code_s v 1) → q_M_draws_16 x y s c v post := by
    intro x y post hp
    unfold q_M_draws_16 q_M_draws_21
    refine ⟨1, ?_⟩
    rw [q_M_draws_29N]
    unfold q_M_draws_29
    dsimp only
    have e : q_M_draws_70 x y s c 1 0 v post := by
      unfold q_M_draws_70 q_M_draws_107
      exact br_f (by decide) (rf_no 1 (h := hp))
    exact br_c (fun _ => e) (fun _ => br_z (by decide) e)
  rcases okbad a (C := C) (by omega) with hb | ⟨a, ha, rfl⟩
  · unfold q_X_draws
    refine lX_coder_no xC hb (Or.inl ⟨rfl, h1, h2, h3, h4, h5, ?_⟩)
    unfold q_M_draws
    refine lM_coder_no mC hb (br_z (by decide) (rbad ?_))
    unfold q_M_thrown
    exact tl_ex (by decide) rfl (hR _)
  rcases okbad b (C := C) (by omega) with hb | ⟨b, hb, rfl⟩
  · unfold q_X_draws
    refine lX_coder_ok xC iC ha (lX_coder_no xC hb (Or.inl ⟨rfl, h1, h2, h3, h4, h5, ?_⟩))
    unfold q_M_draws
    refine lM_coder_ok mC iC ha (br_y rfl (lM_coder_no mC hb (br_f (by decide) (rbad ?_))))
    unfold q_M_thrown
    exact tl_ex (by decide) rfl (hR _)
  have hl := bo_le cn a b P
  have cnt : ∀ {post : Int32 → MT → Prop}, q_M_draws_70 (nI a) (nI b) s c 0 (nI (boN cn a b P)) v post → q_M_draws (nI a) (nI b) s c v post := by
    intro post hp
    unfold q_M_draws
    refine lM_coder_ok mC iC ha (br_y rfl (lM_coder_ok mC iC hb (br_t rfl ?_)))
    unfold q_M_draws_21
    exact ⟨_, lM_count_l iG mG iP mP (by omega) (by omega) hp P 0 (by omega)⟩
  unfold q_X_draws
  refine lX_coder_ok xC iC ha (lX_coder_ok xC iC hb ?_)
  rcases rng c 0 200 (by omega) (by omega) with hc | ⟨t, -, ht, rfl⟩
  · refine out_br hc (Or.inr (Or.inl ⟨rfl, h1, h2, h3, h4, h5, cnt ?_⟩))
    unfold q_M_draws_70
    refine br_t rfl (isIn_no hc (by omega) (by omega) (br_y rfl ?_))
    unfold q_M_draws_107
    refine rf_no 2 (h := ?_)
    unfold q_M_thrown
    exact tl_ex (by decide) rfl (hR _)
  refine in_br 0 200 t (by omega) ht (by omega) (lX_leads iG xG iP xP (by omega) (by omega) (fun f hf => ?_))
  refine pk_ne (boN cn a b P) 0 (fun h0 => ?_) (fun h0 => Or.inr (Or.inr ⟨rfl, h1, h2, h3, h4, h5, cnt ?_⟩))
  · unfold q_N_start
    refine ⟨_, lX_times_l (u := x_leadCount_s (x_leads_s u f) (nI (boN cn a b P))) iG iP (by omega) (by omega) (by omega) rfl hf s ht ⟨h1, h2, h3, h4, h5, cnt ?_⟩ t 0 (by omega)⟩
    unfold q_M_draws_70
    refine br_t rfl (isIn_ok 0 200 t (by omega) ht (by omega) (br_z (by decide) (pk_ne (boN cn a b P) 0 (fun _ => ?_) (fun z => absurd z h0))))
    unfold q_M_draws_107
    refine rf_ok ⟨_, lM_times_l (v := m_code_s v 0) iG mG iP (by omega) (by omega) (by omega) s ht ?_ t 0 (by omega)⟩
    unfold q_M_thrown
    exact tl_ok rfl rfl ⟨C, P, cn, fl, bt, er, F, fp, T, tx, hI, hX, hM⟩
  · unfold q_M_draws_70
    refine br_t rfl (isIn_ok 0 200 t (by omega) ht (by omega) (br_z (by decide) (pk_ne (boN cn a b P) 0 (fun z => absurd h0 z) (fun _ => ?_))))
    unfold q_M_draws_107
    refine rf_no 3 (h := ?_)
    unfold q_M_thrown
    exact tl_ex (by decide) rfl ⟨C, P, cn, fl, bt, er, F, fp, T, tx, hI, hX, hM⟩
end PUS
