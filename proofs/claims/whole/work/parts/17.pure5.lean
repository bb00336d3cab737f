/-! ===== the pure part, 5: lowest terms, means, ranks; told, clear ===== -/
section PUH
variable {a b : Nat}
theorem lgc_ge (ha : a < 2 ^ 63) (hb : b < 2 ^ 63) : (0 ≤ lg_cmp (lN a) (lN b)) ↔ b ≤ a := by rw [lg_cmp_ge, pk_lLE hb ha]
theorem lgc_le (ha : a < 2 ^ 63) (hb : b < 2 ^ 63) : (lg_cmp (lN a) (lN b) ≤ 0) ↔ a ≤ b := by rw [lg_cmp_le, pk_lLE ha hb]
theorem lgc_gt (ha : a < 2 ^ 63) (hb : b < 2 ^ 63) : (0 < lg_cmp (lN a) (lN b)) ↔ b < a := by rw [lg_cmp_gt, pk_lLT hb ha]
theorem lgc_lt (ha : a < 2 ^ 63) (hb : b < 2 ^ 63) : (lg_cmp (lN a) (lN b) < 0) ↔ a < b := by rw [lg_cmp_lt, pk_lLT ha hb]
theorem lgc_eq (ha : a < 2 ^ 63) (hb : b < 2 ^ 63) : (lg_cmp (lN a) (lN b) = 0) ↔ a = b := by rw [lg_cmp_eq, pk_lEQ ha hb]
theorem lN_n0 (h0 : 0 < a) (ha : a < 2 ^ 63) : ¬ lN a = 0 := by
  intro z
  have : a = 0 := (pk_lEQ (b := 0) ha (by omega)).mp z
  omega
theorem gcd_st (a b : Nat) : Nat.gcd b (a % b) = Nat.gcd a b := by
  rw [Nat.gcd_comm a b, Nat.gcd_rec b a, Nat.gcd_comm]
theorem half2 {b r m : Nat} (hr : 0 < r) (hrb : r < b) (hb : b < 2 ^ (m + 1)) : b % r < 2 ^ m := by
  have h1 := Nat.mod_lt b hr
  rw [Nat.pow_succ] at hb
  by_cases h : 2 * r ≤ b
  · omega
  · have : b % r = b - r := by
      rw [Nat.mod_eq_sub_mod (by omega), Nat.mod_eq_of_lt (by omega)]
    omega
theorem lX_low_l {x0 : Int64} {u : CT} {post : Int64 → CT → Prop} : ∀ (m a b k : Nat), a < 2 ^ 63 → b < 2 ^ 63 → b < 2 ^ m → k + 2 * m ≤ 100 → q_X_inLowestTerms_44 x0 (lN (Nat.gcd a b)) u post → q_X_inLowestTerms_9N (2 * m + 1) x0 (lN a) (lN b) (nI k) u post := by
  have hz : ∀ (n a k : Nat), a < 2 ^ 63 → k ≤ 100 → q_X_inLowestTerms_44 x0 (lN (Nat.gcd a 0)) u post → q_X_inLowestTerms_9N (n + 1) x0 (lN a) (lN 0) (nI k) u post := by
    intro n a k ha hk h
    rw [Nat.gcd_zero_right] at h
    rw [q_X_inLowestTerms_9N]
    unfold q_X_inLowestTerms_9
    exact pk_le 100 k (fun _ => h) (fun _ => br_t ((lgc_eq (b := 0) (by omega) (by omega)).mpr rfl) h)
  intro m
  induction m with
  | zero =>
    intro a b k ha hb hb2 hk h
    have : b = 0 := by omega
    subst this
    exact hz 0 a k ha (by omega) h
  | succ m ih =>
    intro a b k ha hb hb2 hk h
    by_cases hb0 : b = 0
    · subst hb0
      exact hz _ a k ha (by omega) h
    rw [q_X_inLowestTerms_9N]
    unfold q_X_inLowestTerms_9
    refine pk_le 100 k (fun z => absurd z (by omega)) (fun _ => br_f (fun z => hb0 ((lgc_eq (b := 0) (by omega) (by omega)).mp z)) ⟨lN_n0 (by omega) hb, ?_⟩)
    rw [pk_lRem ha (by omega) hb, nI_1]
    have hr := Nat.mod_lt a (show b > 0 by omega)
    rw [← gcd_st a b] at h
    show q_X_inLowestTerms_9N (2 * m + 1 + 1) _ _ _ _ _ _
    generalize hrr : a % b = r at hr h ⊢
    by_cases hr0 : r = 0
    · subst hr0
      exact hz _ b (k + 1) hb (by omega) h
    rw [q_X_inLowestTerms_9N]
    unfold q_X_inLowestTerms_9
    refine pk_le 100 (k + 1) (fun z => absurd z (by omega)) (fun _ => br_f (fun z => hr0 ((lgc_eq (b := 0) (by omega) (by omega)).mp z)) ⟨lN_n0 (by omega) (by omega), ?_⟩)
    rw [pk_lRem hb (by omega) (by omega), nI_1]
    rw [← gcd_st b r] at h
    have hh := half2 (by omega) hr hb2
    have hml := Nat.mod_le b r
    exact ih r (b % r) (k + 1 + 1) (by omega) (by omega) hh (by omega) h
theorem lX_low {u : CT} {post : Int64 → CT → Prop} (ha : a < 2 ^ 63) (hb : b < 2 ^ 45) (h0 : 0 < b) (h : post (lN (a / Nat.gcd a b)) u) : q_X_inLowestTerms (lN a) (lN b) u post := by
  unfold q_X_inLowestTerms
  refine ⟨_, lX_low_l 45 a b 0 ha (by omega) hb (by omega) ?_⟩
  have hg : 0 < Nat.gcd a b := Nat.gcd_pos_of_pos_right a h0
  have hg2 : Nat.gcd a b ≤ b := Nat.gcd_le_right a h0
  unfold q_X_inLowestTerms_44
  refine br_z (fun z => absurd ((lgc_eq (b := 0) (by omega) (by omega)).mp z) (by omega)) ⟨lN_n0 hg (by omega), ?_⟩
  rw [pk_lDiv ha hg (by omega)]; exact h
theorem lM_common_l {v : MT} {post : Int64 → MT → Prop} : ∀ (n a b : Nat), a < 2 ^ 63 → b < 2 ^ 63 → b ≤ n → post (lN (Nat.gcd a b)) v → q_M_common_6N (n + 1) (lN a) (lN b) v post := by
  intro n
  induction n with
  | zero =>
    intro a b ha hb hn h
    have : b = 0 := by omega
    subst this
    rw [Nat.gcd_zero_right] at h
    rw [q_M_common_6N]
    unfold q_M_common_6
    exact br_t ((lgc_eq (b := 0) (by omega) (by omega)).mpr rfl) h
  | succ n ih =>
    intro a b ha hb hn h
    rw [q_M_common_6N]
    unfold q_M_common_6
    by_cases hb0 : b = 0
    · subst hb0
      rw [Nat.gcd_zero_right] at h
      exact br_t ((lgc_eq (b := 0) (by omega) (by omega)).mpr rfl) h
    refine br_f (fun z => hb0 ((lgc_eq (b := 0) (by omega) (by omega)).mp z)) ⟨lN_n0 (by omega) hb, ?_⟩
    have hr := Nat.mod_lt a (show b > 0 by omega)
    rw [pk_lRem ha (by omega) hb]
    refine ih b (a % b) hb (by omega) (by omega) ?_
    rw [gcd_st]; exact h
/-- one side of a fraction in lowest terms -/
def lowT (a b : Nat) (w : Int32) : Nat := if w = 0 then b / Nat.gcd a b else a / Nat.gcd a b
theorem lM_part {v : MT} {w : Int32} {post : Int64 → MT → Prop} (ha : a < 2 ^ 63) (hb : b < 2 ^ 63) (h0 : 0 < b) (h : post (lN (lowT a b w)) v) : q_M_part (lN a) (lN b) w v post := by
  unfold q_M_part q_M_common
  refine ⟨_, lM_common_l b a b ha hb (Nat.le_refl _) ?_⟩
  have hg : 0 < Nat.gcd a b := Nat.gcd_pos_of_pos_right a h0
  have hg2 : Nat.gcd a b ≤ b := Nat.gcd_le_right a h0
  unfold lowT at h
  refine br_c (fun hw => ⟨lN_n0 hg (by omega), ?_⟩) (fun hw => ⟨lN_n0 hg (by omega), ?_⟩)
  · rw [pk_lDiv hb hg (by omega)]; rw [if_pos hw] at h; exact h
  · rw [pk_lDiv ha hg (by omega)]; rw [if_neg hw] at h; exact h
theorem lX_lows {u : CT} {w : Int32} {post : Int64 → CT → Prop} (ha : a < 2 ^ 45) (hb : b < 2 ^ 45) (ha0 : 0 < a) (hb0 : 0 < b) (h : post (lN (lowT a b w)) u) : (w = 0 → q_X_inLowestTerms (lN b) (lN a) u post) ∧ (¬ w = 0 → q_X_inLowestTerms (lN a) (lN b) u post) := by
  unfold lowT at h
  refine br_c (fun hw => lX_low (by omega) ha ha0 ?_) (fun hw => lX_low (by omega) hb hb0 ?_)
  · rw [if_pos hw] at h; rw [Nat.gcd_comm]; exact h
  · rw [if_neg hw] at h; exact h
end PUH
section PUI
variable {cn bt er : Nat → Nat} {fl : Nat → Bool} {u : CT} {v : MT} {C P : Nat}
theorem sm_pos (hG : GI cn fl bt er) {c : Nat} (hc : c < 8) : ∀ k, k ≤ 24 → cnN cn c k ≤ smN cn bt c k
  | 0, _ => Nat.le_refl _
  | k + 1, hk => by
    have h1 := sm_pos hG hc k (by omega)
    have h2 := hG.lp (p := 24 * c + k) (by omega)
    show cnN cn c k + _ ≤ smN cn bt c k + _
    by_cases h0 : 0 < cn (24 * c + k)
    · rw [if_pos h0, if_pos h0]
      exact Nat.add_le_add h1 (h2 h0)
    · rw [if_neg h0, if_neg h0]; exact h1
theorem lX_mean {a w : Int32} {post : Int64 → CT → Prop} {ex : String → CT → Prop} {c : Nat} (hG : GI cn fl bt er) (h : PX cn fl bt er u) (hC : C ≤ 8) (hP : P ≤ 24) (xC : x_coders u = nI C) (xP : x_pictures u = nI P) (hc : c < C) (ha : a = nI c)
    (h0 : cnN cn c P = 0 → ex "java/lang/IllegalStateException" u) (h1 : 0 < cnN cn c P → post (lN (lowT (smN cn bt c P) (cnN cn c P) w)) u) : q_X_mean a w u post ex := by
  subst ha
  have hcn := cnN_le cn c P
  have hsm := smN_le hG (c := c) (by omega) P hP
  have hsp := sm_pos hG (c := c) (by omega) P hP
  unfold q_X_mean
  refine lX_coder_ok xC hC hc ?_
  unfold q_X_needCounted
  refine lX_countedOf hG h xP hP (by omega) (pk_ne (cnN cn c P) 0 (fun z => ?_) h0)
  refine lX_sumOf hG h xP hP (by omega) (lX_countedOf hG h xP hP (by omega) ?_)
  rw [nI_toInt64 (by omega)]
  exact lX_lows (by omega) (by omega) (by omega) (by omega) (h1 (by omega))
theorem lM_mean {a w : Int32} {post : Int64 → MT → Prop} {c : Nat} (hG : GI cn fl bt er) (h : PM cn fl bt er v) (hC : C ≤ 8) (hP : P ≤ 24) (xC : m_coders v = nI C) (xP : m_pictures v = nI P) (hc : c < C) (ha : a = nI c)
    (h0 : cnN cn c P = 0 → post 0 (m_code_s v 2)) (h1 : 0 < cnN cn c P → post (lN (lowT (smN cn bt c P) (cnN cn c P) w)) (m_code_s v 0)) : q_M_mean a w v post := by
  subst ha
  have hcn := cnN_le cn c P
  have hsm := smN_le hG (c := c) (by omega) P hP
  have hsp := sm_pos hG (c := c) (by omega) P hP
  unfold q_M_mean
  refine lM_coder_ok xC hC hc (br_t rfl (lM_countedOf hG h xP hP (by omega) (pk_ne (cnN cn c P) 0 (fun z => ?_) (fun z => ?_))))
  · unfold q_M_mean_26
    refine rf_ok (lM_sumOf (v := m_code_s v 0) hG h xP hP (by omega) (lM_countedOf (v := m_code_s v 0) hG h xP hP (by omega) ?_))
    rw [nI_toInt64 (by omega)]
    exact lM_part (by omega) (by omega) (by omega) (h1 (by omega))
  · unfold q_M_mean_26
    exact rf_no 2 (h := h0 z)
theorem lM_mean_no {a w : Int32} {post : Int64 → MT → Prop} (xC : m_coders v = nI C) (hb : bad a C) (h : post 0 (m_code_s v 1)) : q_M_mean a w v post := by
  unfold q_M_mean
  refine lM_coder_no xC hb (br_f (by decide) ?_)
  unfold q_M_mean_26
  exact rf_no 1 (h := h)
/-! ranks -/
def leN (cn bt : Nat → Nat) (P c : Nat) : Nat → Nat
  | 0 => 0
  | k + 1 => leN cn bt P c k + (if 0 < cnN cn k P ∧ smN cn bt k P * cnN cn c P < smN cn bt c P * cnN cn k P then 1 else 0)
def saN (cn bt : Nat → Nat) (P c : Nat) : Nat → Nat
  | 0 => 0
  | k + 1 => saN cn bt P c k + (if 0 < cnN cn k P ∧ smN cn bt k P * cnN cn c P = smN cn bt c P * cnN cn k P then 1 else 0)
abbrev rkN (cn bt : Nat → Nat) (P C c : Nat) : Nat := 2 * leN cn bt P c C + saN cn bt P c C + 1
theorem rk_le (cn bt : Nat → Nat) (P c : Nat) : ∀ k, 2 * leN cn bt P c k + saN cn bt P c k ≤ 2 * k
  | 0 => Nat.le_refl _
  | k + 1 => by
    have := rk_le cn bt P c k
    simp only [leN, saN]
    split <;> split <;> omega
theorem prod_lt (hG : GI cn fl bt er) (hP : P ≤ 24) {c d : Nat} (hc : c < 8) : smN cn bt c P * cnN cn d P < 2 ^ 63 := by
  have h1 := smN_le hG hc P hP
  have h2 := cnN_le cn d P
  have h3 : smN cn bt c P * cnN cn d P ≤ 24000000000 * 24 := Nat.mul_le_mul (by omega) (by omega)
  omega
theorem lX_rankOf_l {post : Int32 → CT → Prop} (hG : GI cn fl bt er) (h : PX cn fl bt er u) (hC : C ≤ 8) (hP : P ≤ 24) (xC : x_coders u = nI C) (xP : x_pictures u = nI P) {c : Nat} (hc : c < 8) (hpost : post (nI (rkN cn bt P C c)) u) : ∀ m k, k + m = C → q_X_rankOf_23N (m + 1) (lN (smN cn bt c P)) (lN (cnN cn c P)) (nI (leN cn bt P c k)) (nI (saN cn bt P c k)) (nI k) u post := by
  intro m
  induction m with
  | zero =>
    intro k hk
    show q_X_rankOf_23 _ _ _ _ _ _ _ _
    unfold q_X_rankOf_23
    refine pk_le C k (fun _ => ?_) (fun h => absurd h (by omega)) xC
    rw [show (2 : Int32) = nI 2 from rfl, pk_mul, nI_add, nI_1, show k = C by omega]; exact hpost
  | succ m ih =>
    intro k hk
    show q_X_rankOf_23 _ _ _ _ _ _ _ _
    unfold q_X_rankOf_23
    refine pk_le C k (fun h => absurd h (by omega)) (fun hlt => ?_) xC
    have e := ih (k + 1) (by omega)
    simp only [leN, saN] at e
    have hcn := cnN_le cn k P
    refine lX_countedOf hG h xP hP (by omega) ?_
    rw [nI_toInt64 (by omega)]
    by_cases h0 : 0 < cnN cn k P
    · refine br_f (fun z => absurd ((lgc_le (b := 0) (by omega) (by omega)).mp z) (by omega)) ?_
      refine lX_sumOf hG h xP hP (by omega) ?_
      rw [lN_mul, lN_mul]
      have p1 := prod_lt hG hP (c := k) (d := c) (by omega)
      have p2 := prod_lt hG hP (c := c) (d := k) hc
      generalize smN cn bt k P * cnN cn c P = x at p1 e ⊢
      generalize smN cn bt c P * cnN cn k P = y at p2 e ⊢
      unfold q_J_compare
      rw [lgc_ge p1 p2, lgc_eq p1 p2]
      unfold q_X_rankOf_85
      rw [nI_1, nI_1, nI_1]
      refine ⟨fun hge => ⟨fun hne => ?_, fun heq => ?_⟩, fun hlt => ?_⟩
      · rw [if_neg (by omega), if_neg (by omega)] at e
        exact br_t (by decide) (br_z (by decide) e)
      · rw [if_neg (by omega), if_pos (by omega)] at e
        exact br_t (by decide) (br_y rfl e)
      · rw [if_pos (by omega), if_neg (by omega)] at e
        exact br_f (by decide) e
    · refine br_t ((lgc_le (b := 0) (by omega) (by omega)).mpr (by omega)) ?_
      unfold q_X_rankOf_85
      rw [nI_1]
      rw [if_neg (fun z => h0 z.1), if_neg (fun z => h0 z.1)] at e
      exact e
theorem lX_rankOf {post : Int32 → CT → Prop} (hG : GI cn fl bt er) (h : PX cn fl bt er u) (hC : C ≤ 8) (hP : P ≤ 24) (xC : x_coders u = nI C) (xP : x_pictures u = nI P) {c : Nat} (hc : c < 8) (hpost : post (nI (rkN cn bt P C c)) u) : q_X_rankOf (nI c) u post := by
  unfold q_X_rankOf
  refine lX_sumOf hG h xP hP hc (lX_countedOf hG h xP hP hc ?_)
  have hcn := cnN_le cn c P
  rw [nI_toInt64 (by omega)]
  exact ⟨_, lX_rankOf_l hG h hC hP xC xP hc hpost C 0 (by omega)⟩
theorem lM_rankOf_l {post : Int32 → MT → Prop} (hG : GI cn fl bt er) (h : PM cn fl bt er v) (hC : C ≤ 8) (hP : P ≤ 24) (xC : m_coders v = nI C) (xP : m_pictures v = nI P) {c : Nat} (hc : c < 8) (hpost : post (nI (rkN cn bt P C c)) v) : ∀ m k, k + m = C → q_M_rankOf_4N (m + 1) (nI c) (nI (2 * leN cn bt P c k + saN cn bt P c k + 1)) (nI k) v post := by
  intro m
  induction m with
  | zero =>
    intro k hk
    show q_M_rankOf_4 _ _ _ _ _ _
    unfold q_M_rankOf_4
    refine pk_le C k (fun _ => ?_) (fun h => absurd h (by omega)) xC
    rw [show k = C by omega]; exact hpost
  | succ m ih =>
    intro k hk
    show q_M_rankOf_4 _ _ _ _ _ _
    unfold q_M_rankOf_4
    refine pk_le C k (fun h => absurd h (by omega)) (fun hlt => ?_) xC
    have e := ih (k + 1) (by omega)
    simp only [leN, saN] at e
    have hcn := cnN_le cn k P
    have hcn2 := cnN_le cn c P
    refine lM_countedOf hG h xP hP (by omega) ?_
    refine pk_le (cnN cn k P) 0 (fun h0 => ?_) (fun h0 => ?_)
    · unfold q_M_rankOf_76
      rw [nI_1]
      rw [if_neg (by omega), if_neg (by omega)] at e
      exact e
    · refine lM_sumOf hG h xP hP (by omega) (lM_countedOf hG h xP hP (by omega) (lM_sumOf hG h xP hP (by omega) (lM_countedOf hG h xP hP (by omega) ?_)))
      rw [nI_toInt64 (by omega), nI_toInt64 (by omega), lN_mul, lN_mul]
      have p1 := prod_lt hG hP (c := k) (d := c) (by omega)
      have p2 := prod_lt hG hP (c := c) (d := k) hc
      generalize smN cn bt k P * cnN cn c P = x at p1 e ⊢
      generalize smN cn bt c P * cnN cn k P = y at p2 e ⊢
      rw [lgc_ge p1 p2, lgc_eq p1 p2]
      unfold q_M_rankOf_74 q_M_rankOf_76
      rw [show (0 : Int32) = nI 0 from rfl, show (1 : Int32) = nI 1 from rfl, show (2 : Int32) = nI 2 from rfl, nI_add, nI_add, nI_add, nI_add]
      refine ⟨fun hge => ⟨fun hne => ?_, fun heq => ?_⟩, fun hlt => ?_⟩
      · rw [if_neg (by omega), if_neg (by omega)] at e
        exact e
      · rw [if_neg (by omega), if_pos (by omega)] at e
        exact e
      · rw [if_pos (by omega), if_neg (by omega)] at e
        rw [show 2 * leN cn bt P c k + saN cn bt P c k + 1 + 2 = 2 * (leN cn bt P c k + 1) + (saN cn bt P c k + 0) + 1 by omega]
        exact e
theorem lM_rankOf {post : Int32 → MT → Prop} (hG : GI cn fl bt er) (h : PM cn fl bt er v) (hC : C ≤ 8) (hP : P ≤ 24) (xC : m_coders v = nI C) (xP : m_pictures v = nI P) {c : Nat} (hc : c < 8) (hpost : post (nI (rkN cn bt P C c)) v) : q_M_rankOf (nI c) v post :=
  ⟨_, lM_rankOf_l hG h hC hP xC xP hc hpost C 0 (by omega)⟩
/-! all points, all counted pairs -/
def ptN (cn : Nat → Nat) : Nat → Nat
  | 0 => 0
  | k + 1 => ptN cn k + cn k
def acN (cn : Nat → Nat) (P : Nat) : Nat → Nat
  | 0 => 0
  | k + 1 => acN cn P k + cnN cn k P
theorem lX_allPoints_l {post : Int32 → CT → Prop} (hG : GI cn fl bt er) (h : PX cn fl bt er u) (hpost : post (nI (ptN cn 192)) u) : ∀ m k, k + m = 192 → q_X_allPoints_4N (m + 1) (nI (ptN cn k)) (nI k) u post := by
  intro m
  induction m with
  | zero =>
    intro k hk
    show q_X_allPoints_4 _ _ _ _ _
    unfold q_X_allPoints_4
    refine pk_le 192 k (fun _ => ?_) (fun h => absurd h (by omega))
    rw [show k = 192 by omega]; exact hpost
  | succ m ih =>
    intro k hk
    show q_X_allPoints_4 _ _ _ _ _
    unfold q_X_allPoints_4
    refine pk_le 192 k (fun h => absurd h (by omega)) (fun hlt => ?_)
    have e := ih (k + 1) (by omega)
    simp only [ptN] at e
    refine lX_isCounted hG h (p := k) (by omega) rfl ?_
    by_cases h0 : 0 < cn k
    · rw [if_pos h0]
      refine br_f (by decide) ⟨pk_in k 192 (by omega), ?_⟩
      unfold q_X_allPoints_28
      rw [nI_clamp (by omega), h.cnt hG (by omega) h0, nI_add, nI_1]
      exact e
    · rw [if_neg h0]
      refine br_t rfl ?_
      unfold q_X_allPoints_28
      rw [nI_1]
      rw [show cn k = 0 by omega] at e
      exact e
theorem lM_points_l {post : Int32 → MT → Prop} (h : PM cn fl bt er v) (hpost : post (nI (ptN cn 192)) v) : ∀ m k, k + m = 192 → q_M_points_4N (m + 1) (nI (ptN cn k)) (nI k) v post := by
  intro m
  induction m with
  | zero =>
    intro k hk
    rw [q_M_points_4N]
    unfold q_M_points_4
    refine pk_le 192 k (fun _ => ?_) (fun h => absurd h (by omega))
    rw [show k = 192 by omega]; exact hpost
  | succ m ih =>
    intro k hk
    rw [q_M_points_4N]
    unfold q_M_points_4
    refine pk_le 192 k (fun h => absurd h (by omega)) (fun hlt => ⟨pk_in k 192 (by omega), ?_⟩)
    have e := ih (k + 1) (by omega)
    simp only [ptN] at e
    rw [nI_clamp (by omega), h.1 k (by omega), nI_add, nI_1]
    exact e
theorem lM_points {post : Int32 → MT → Prop} (h : PM cn fl bt er v) (hpost : post (nI (ptN cn 192)) v) : q_M_points v post := ⟨_, lM_points_l h hpost 192 0 (by omega)⟩
theorem lX_allCounted_l {post : Int32 → CT → Prop} (hG : GI cn fl bt er) (h : PX cn fl bt er u) (hC : C ≤ 8) (hP : P ≤ 24) (xC : x_coders u = nI C) (xP : x_pictures u = nI P) (hpost : post (nI (acN cn P C)) u) : ∀ m k, k + m = C → q_X_allCounted_4N (m + 1) (nI (acN cn P k)) (nI k) u post := by
  intro m
  induction m with
  | zero =>
    intro k hk
    rw [q_X_allCounted_4N]
    unfold q_X_allCounted_4
    refine pk_le C k (fun _ => ?_) (fun h => absurd h (by omega)) xC
    rw [show k = C by omega]; exact hpost
  | succ m ih =>
    intro k hk
    rw [q_X_allCounted_4N]
    unfold q_X_allCounted_4
    refine pk_le C k (fun h => absurd h (by omega)) (fun hlt => ?_) xC
    refine lX_countedOf hG h xP hP (by omega) ?_
    rw [nI_add, nI_1]
    exact ih (k + 1) (by omega)
/-- what told tells -/
def toV (cn : Nat → Nat) (C P : Nat) (p : Int32) : Int32 := if p = 0 then nI C else if p = 1 then nI P else if p = 2 then nI (ptN cn 192) else if p = 3 then nI (acN cn P C) else -1
theorem lX_told {p : Int32} {post : Int32 → CT → Prop} (hG : GI cn fl bt er) (h : PX cn fl bt er u) (hC : C ≤ 8) (hP : P ≤ 24) (xC : x_coders u = nI C) (xP : x_pictures u = nI P) (hpost : post (toV cn C P p) u) : q_X_told p u post := by
  unfold q_X_told
  have hi : ∀ n : Nat, n < 4 → (nI n).toInt = (n : Int) := fun n hn => nI_toInt (by omega)
  rcases rng p 0 3 (by omega) (by omega) with hb | ⟨b, -, hb, rfl⟩
  · have hne : ∀ n : Nat, n < 4 → ¬ p = nI n := by
      intro n hn z
      subst z
      rcases hb with hb | hb
      · exact nI_nlt (by omega) (by omega) hb
      · exact nI_nlt (a := 3) (b := n) (by omega) (by omega) hb
    refine br_t ?_ ?_
    · rcases hb with hb | hb
      · left; rw [Int32.lt_iff_toInt_lt, hi 0 (by omega)] at hb; exact hb
      · right; rw [Int32.lt_iff_toInt_lt, hi 3 (by omega)] at hb; exact hb
    · unfold toV at hpost
      rw [if_neg (show ¬ p = 0 from hne 0 (by omega)), if_neg (show ¬ p = 1 from hne 1 (by omega)), if_neg (show ¬ p = 2 from hne 2 (by omega)), if_neg (show ¬ p = 3 from hne 3 (by omega))] at hpost
      exact hpost
  · rw [hi b (by omega)]
    refine br_f (by omega) ⟨fun z => ?_, fun z => ?_, fun z => ?_, fun z => ?_⟩
    · have : b = 0 := by omega
      subst this
      show post (x_coders u) u
      rw [xC]; exact hpost
    · have : b = 1 := by omega
      subst this
      show post (x_pictures u) u
      rw [xP]; exact hpost
    · have : b = 2 := by omega
      subst this
      exact ⟨_, lX_allPoints_l hG h hpost 192 0 (by omega)⟩
    · have : b = 3 := by omega
      subst this
      exact ⟨_, lX_allCounted_l hG h hC hP xC xP hpost C 0 (by omega)⟩
theorem lM_told_l {p : Int32} {post : Int32 → MT → Prop} (hG : GI cn fl bt er) (h : PM cn fl bt er v) (hC : C ≤ 8) (hP : P ≤ 24) (xC : m_coders v = nI C) (xP : m_pictures v = nI P) (hpost : post (toV cn C P p) v) : ∀ m k, k + m = C → q_M_told_9N (m + 1) p (nI (acN cn P k)) (nI k) v post := by
  intro m
  induction m with
  | zero =>
    intro k hk
    rw [q_M_told_9N]
    unfold q_M_told_9
    refine pk_le C k (fun _ => ?_) (fun h => absurd h (by omega)) xC
    rw [show k = C by omega]
    unfold toV at hpost
    refine br_n (fun h0 => ?_) (fun h0 => ?_)
    · rw [if_neg h0] at hpost
      refine br_n (fun h1 => ?_) (fun h1 => ?_)
      · rw [if_neg h1] at hpost
        refine br_n (fun h2 => ?_) (fun h2 => ?_)
        · rw [if_neg h2] at hpost
          refine br_n (fun h3 => ?_) (fun h3 => ?_)
          · rw [if_neg h3] at hpost; exact hpost
          · rw [if_pos h3] at hpost; exact hpost
        · rw [if_pos h2] at hpost; exact lM_points h hpost
      · rw [if_pos h1] at hpost; rw [xP]; exact hpost
    · rw [if_pos h0] at hpost; rw [xC]; exact hpost
  | succ m ih =>
    intro k hk
    rw [q_M_told_9N]
    unfold q_M_told_9
    refine pk_le C k (fun h => absurd h (by omega)) (fun hlt => ?_) xC
    refine lM_countedOf hG h xP hP (by omega) ?_
    rw [nI_add, nI_1]
    exact ih (k + 1) (by omega)
end PUI
