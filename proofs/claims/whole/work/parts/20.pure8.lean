/-! ===== the pure part, 8: signs ===== -/
abbrev boP (cn : Nat → Nat) (a b k : Nat) : Prop := 0 < cn (24 * a + k) ∧ 0 < cn (24 * b + k)
abbrev lsp (cn bt : Nat → Nat) (a k : Nat) : Nat := lst bt (24 * a + k) (cn (24 * a + k))
def boN (cn : Nat → Nat) (a b : Nat) : Nat → Nat
  | 0 => 0
  | k + 1 => boN cn a b k + (if boP cn a b k then 1 else 0)
def ltN (cn bt : Nat → Nat) (a b : Nat) : Nat → Nat
  | 0 => 0
  | k + 1 => ltN cn bt a b k + (if boP cn a b k ∧ lsp cn bt a k < lsp cn bt b k then 1 else 0)
section PUN
variable {cn bt er : Nat → Nat} {fl : Nat → Bool} {u : CT} {v : MT} {C P a b : Nat}
theorem bo_y {k : Nat} (h : boP cn a b k) : boN cn a b (k + 1) = boN cn a b k + 1 := by simp only [boN]; rw [if_pos h]
theorem bo_n {k : Nat} (h : ¬ boP cn a b k) : boN cn a b (k + 1) = boN cn a b k := by simp only [boN]; rw [if_neg h]; rfl
theorem bo_le (cn : Nat → Nat) (a b : Nat) : ∀ k, boN cn a b k ≤ k
  | 0 => Nat.le_refl _
  | k + 1 => by
    have := bo_le cn a b k
    simp only [boN]
    split <;> omega
theorem bo_mono {k j : Nat} (h : k ≤ j) : boN cn a b k ≤ boN cn a b j := by
  induction h with
  | refl => exact Nat.le_refl _
  | step _ ih =>
    simp only [boN]
    omega
theorem bo_lt {q k : Nat} (h : q < k) (hq : boP cn a b q) : boN cn a b q < boN cn a b k := by
  have h1 := bo_mono (cn := cn) (a := a) (b := b) (show q + 1 ≤ k from h)
  rw [bo_y hq] at h1
  omega
theorem lt_y {k : Nat} (h : boP cn a b k) (h2 : lsp cn bt a k < lsp cn bt b k) : ltN cn bt a b (k + 1) = ltN cn bt a b k + 1 := by simp only [ltN]; rw [if_pos ⟨h, h2⟩]
theorem lt_n {k : Nat} (h : ¬ (boP cn a b k ∧ lsp cn bt a k < lsp cn bt b k)) : ltN cn bt a b (k + 1) = ltN cn bt a b k := by simp only [ltN]; rw [if_neg h]; rfl
theorem lt_sum (cn bt : Nat → Nat) (a b : Nat) : ∀ k, ltN cn bt a b k + ltN cn bt b a k ≤ k
  | 0 => Nat.le_refl _
  | k + 1 => by
    have := lt_sum cn bt a b k
    by_cases h : boP cn a b k ∧ lsp cn bt a k < lsp cn bt b k
    · rw [lt_y h.1 h.2, lt_n (a := b) (b := a) (by omega)]; omega
    · rw [lt_n h]
      by_cases h2 : boP cn b a k ∧ lsp cn bt b k < lsp cn bt a k
      · rw [lt_y h2.1 h2.2]; omega
      · rw [lt_n h2]; omega
abbrev dif (cn bt : Nat → Nat) (a b k : Nat) : Int32 := nI (lsp cn bt a k) - nI (lsp cn bt b k)
theorem lX_leads_l {post : CT → Prop} (hG : GI cn fl bt er) (h : PX cn fl bt er u) (hP : P ≤ 24) (xP : x_pictures u = nI P) (ha : a < 8) (hb : b < 8) (hpost : ∀ f : Nat → Int32, (∀ q, q < P → boP cn a b q → f (boN cn a b q) = dif cn bt a b q) → post (x_leadCount_s (x_leads_s u f) (nI (boN cn a b P)))) :
    ∀ m k (f : Nat → Int32), k + m = P → (∀ q, q < k → boP cn a b q → f (boN cn a b q) = dif cn bt a b q) → q_X_layLeads_7N (m + 1) (nI a) (nI b) (nI k) (x_leadCount_s (x_leads_s u f) (nI (boN cn a b k))) post := by
  intro m
  induction m with
  | zero =>
    intro k f hk hf
    rw [q_X_layLeads_7N]
    unfold q_X_layLeads_7
    dsimp only
    refine pk_le P k (fun _ => ?_) (fun h => absurd h (by omega)) xP
    have : k = P := by omega
    subst this
    exact hpost f hf
  | succ m ih =>
    intro k f hk hf
    rw [q_X_layLeads_7N]
    unfold q_X_layLeads_7
    refine pk_le P k (fun h => absurd h (by omega)) (fun hlt => ?_) xP
    refine lX_isCounted (u := x_leadCount_s (x_leads_s u f) (nI (boN cn a b k))) hG h (p := 24 * a + k) (by omega) (ix24 a k) ?_
    by_cases h1 : 0 < cn (24 * a + k)
    · rw [if_pos h1]
      refine br_f (by decide) (lX_isCounted (u := x_leadCount_s (x_leads_s u f) (nI (boN cn a b k))) hG h (p := 24 * b + k) (by omega) (ix24 b k) ?_)
      by_cases h2 : 0 < cn (24 * b + k)
      · rw [if_pos h2]
        have hl := bo_le cn a b k
        have hbo : boP cn a b k := ⟨h1, h2⟩
        refine br_f (by decide) ⟨pk_in (24 * a + k) 192 (by omega) (ix24 a k), pk_in (24 * b + k) 192 (by omega) (ix24 b k), pk_in (boN cn a b k) 24 (by omega), ?_⟩
        unfold q_X_layLeads_83
        rw [nI_1]
        have e1 : x_leastBytes u (nI a * 24 + nI k).toNatClampNeg = nI (lsp cn bt a k) := by rw [ix24, nI_clamp (by omega)]; exact h.2.1 _ (by omega) h1
        have e2 : x_leastBytes u (nI b * 24 + nI k).toNatClampNeg = nI (lsp cn bt b k) := by rw [ix24, nI_clamp (by omega)]; exact h.2.1 _ (by omega) h2
        have key := ih (k + 1) (upd f (boN cn a b k) (dif cn bt a b k)) (by omega) (fun q hq hb => by
          by_cases e : q = k
          · subst e; exact pk_us
          · rw [pk_un (by have := bo_lt (show q < k by omega) hb; omega)]; exact hf q (by omega) hb)
        rw [bo_y hbo] at key
        have e3 : x_leadCount_s (x_leads_s (x_leadCount_s (x_leads_s u f) (nI (boN cn a b k))) (upd f (nI (boN cn a b k)).toNatClampNeg (x_leastBytes u (nI a * 24 + nI k).toNatClampNeg - x_leastBytes u (nI b * 24 + nI k).toNatClampNeg))) (nI (boN cn a b k) + 1) = x_leadCount_s (x_leads_s u (upd f (boN cn a b k) (dif cn bt a b k))) (nI (boN cn a b k + 1)) := by
          rw [e1, e2, nI_clamp (by omega), nI_1]
        exact e3 ▸ key
      · rw [if_neg h2]
        refine br_t rfl ?_
        unfold q_X_layLeads_83
        rw [nI_1]
        have hn : ¬ boP cn a b k := fun z => h2 z.2
        have key := ih (k + 1) f (by omega) (fun q hq hb => by
          by_cases e : q = k
          · subst e; exact absurd hb hn
          · exact hf q (by omega) hb)
        rw [bo_n hn] at key
        exact key
    · rw [if_neg h1]
      refine br_t rfl ?_
      unfold q_X_layLeads_83
      rw [nI_1]
      have hn : ¬ boP cn a b k := fun z => h1 z.1
      have key := ih (k + 1) f (by omega) (fun q hq hb => by
        by_cases e : q = k
        · subst e; exact absurd hb hn
        · exact hf q (by omega) hb)
      rw [bo_n hn] at key
      exact key
theorem lX_leads {post : CT → Prop} (hG : GI cn fl bt er) (h : PX cn fl bt er u) (hP : P ≤ 24) (xP : x_pictures u = nI P) (ha : a < 8) (hb : b < 8) (hpost : ∀ f : Nat → Int32, (∀ q, q < P → boP cn a b q → f (boN cn a b q) = dif cn bt a b q) → post (x_leadCount_s (x_leads_s u f) (nI (boN cn a b P)))) : q_X_layLeads (nI a) (nI b) u post :=
  ⟨_, lX_leads_l hG h hP xP ha hb hpost P 0 (x_leads u) (by omega) (fun q hq => absurd hq (by omega))⟩
theorem lX_wins_l {post : Int32 → CT → Prop} (hG : GI cn fl bt er) (hP : P ≤ 24) (ha : a < 8) (hb : b < 8) (hn : x_leadCount u = nI (boN cn a b P)) (hf : ∀ q, q < P → boP cn a b q → x_leads u (boN cn a b q) = dif cn bt a b q) (hpost : post (nI (ltN cn bt a b P)) u) :
    ∀ m k, k + m = P → ∃ n, q_X_countLeads_4N n 1 (nI (ltN cn bt a b k)) (nI (boN cn a b k)) u post := by
  have hlP := bo_le cn a b P
  intro m
  induction m with
  | zero =>
    intro k hk
    have : k = P := by omega
    subst this
    refine ⟨1, ?_⟩
    rw [q_X_countLeads_4N]
    unfold q_X_countLeads_4
    dsimp only
    exact pk_le (boN cn a b k) (boN cn a b k) (fun _ => hpost) (fun h => absurd h (by omega)) hn
  | succ m ih =>
    intro k hk
    obtain ⟨n, e⟩ := ih (k + 1) (by omega)
    by_cases hbo : boP cn a b k
    · refine ⟨n + 1, ?_⟩
      rw [q_X_countLeads_4N]
      unfold q_X_countLeads_4
      dsimp only
      have hlt := bo_lt (show k < P by omega) hbo
      have h1 : lsp cn bt a k ≤ 1000000000 := hG.lb (p := 24 * a + k) (by omega)
      have h2 : lsp cn bt b k ≤ 1000000000 := hG.lb (p := 24 * b + k) (by omega)
      rw [bo_y hbo] at e
      rw [nI_clamp (by omega), hf k (by omega) hbo]
      refine pk_le (boN cn a b P) (boN cn a b k) (fun h => absurd h (by omega)) (fun _ => br_f (by decide) ⟨pk_in (boN cn a b k) 24 (by omega), ?_⟩) hn
      unfold q_X_countLeads_37 q_X_countLeads_40
      rw [nI_1, nI_1]
      by_cases hl : lsp cn bt a k < lsp cn bt b k
      · rw [lt_y hbo hl] at e
        exact br_f (Int32.not_le.mpr (pk_sneg (by omega) hl)) e
      · rw [lt_n (fun z => hl z.2)] at e
        refine br_t ?_ e
        rw [show dif cn bt a b k = nI (lsp cn bt a k - lsp cn bt b k) from pk_sub (by omega)]
        exact nI_pos' (by omega)
    · rw [bo_n hbo, lt_n (fun z => hbo z.1)] at e
      exact ⟨n, e⟩
theorem lX_loss_l {post : Int32 → CT → Prop} (hG : GI cn fl bt er) (hP : P ≤ 24) (ha : a < 8) (hb : b < 8) (hn : x_leadCount u = nI (boN cn a b P)) (hf : ∀ q, q < P → boP cn a b q → x_leads u (boN cn a b q) = dif cn bt a b q) (hpost : post (nI (ltN cn bt b a P)) u) :
    ∀ m k, k + m = P → ∃ n, q_X_countLeads_4N n 0 (nI (ltN cn bt b a k)) (nI (boN cn a b k)) u post := by
  have hlP := bo_le cn a b P
  intro m
  induction m with
  | zero =>
    intro k hk
    have : k = P := by omega
    subst this
    refine ⟨1, ?_⟩
    rw [q_X_countLeads_4N]
    unfold q_X_countLeads_4
    dsimp only
    exact pk_le (boN cn a b k) (boN cn a b k) (fun _ => hpost) (fun h => absurd h (by omega)) hn
  | succ m ih =>
    intro k hk
    obtain ⟨n, e⟩ := ih (k + 1) (by omega)
    by_cases hbo : boP cn a b k
    · refine ⟨n + 1, ?_⟩
      rw [q_X_countLeads_4N]
      unfold q_X_countLeads_4
      dsimp only
      have hlt := bo_lt (show k < P by omega) hbo
      have h1 : lsp cn bt a k ≤ 1000000000 := hG.lb (p := 24 * a + k) (by omega)
      have h2 : lsp cn bt b k ≤ 1000000000 := hG.lb (p := 24 * b + k) (by omega)
      rw [bo_y hbo] at e
      rw [nI_clamp (by omega), hf k (by omega) hbo]
      refine pk_le (boN cn a b P) (boN cn a b k) (fun h => absurd h (by omega)) (fun _ => br_t rfl ⟨pk_in (boN cn a b k) 24 (by omega), ?_⟩) hn
      unfold q_X_countLeads_37 q_X_countLeads_40
      rw [nI_1, nI_1]
      by_cases hl : lsp cn bt b k < lsp cn bt a k
      · rw [lt_y ⟨hbo.2, hbo.1⟩ hl] at e
        refine br_f ?_ e
        rw [show dif cn bt a b k = nI (lsp cn bt a k - lsp cn bt b k) from pk_sub (by omega)]
        exact nI_nle (by omega) (by omega)
      · rw [lt_n (fun z => hl z.2)] at e
        refine br_t ?_ e
        by_cases he : lsp cn bt a k = lsp cn bt b k
        · rw [show dif cn bt a b k = nI (lsp cn bt a k - lsp cn bt b k) from pk_sub (by omega), show lsp cn bt a k - lsp cn bt b k = 0 by omega]
          exact Int32.le_refl _
        · exact Int32.le_of_lt (pk_sneg (by omega) (by omega))
    · rw [bo_n hbo, lt_n (fun z => hbo ⟨z.1.2, z.1.1⟩)] at e
      exact ⟨n, e⟩
/-! the reference's counts -/
theorem lM_both {post : Int32 → MT → Prop} (hG : GI cn fl bt er) (h : PM cn fl bt er v) {k : Nat} (hk : k < 24) (ha : a < 8) (hb : b < 8) (hpost : post (if boP cn a b k then 1 else 0) v) : q_M_areBoth (nI a) (nI b) (nI k) v post := by
  have h1 := hG.cn6 (p := 24 * a + k) (by omega)
  have h2 := hG.cn6 (p := 24 * b + k) (by omega)
  unfold q_M_areBoth
  rw [iy24, iy24, nI_clamp (by omega), nI_clamp (by omega), h.1 _ (by omega), h.1 _ (by omega)]
  refine ⟨pk_in (24 * a + k) 192 (by omega), pk_le (cn (24 * a + k)) 0 (fun z => ⟨nb0, ?_⟩) (fun z => ⟨pk_in (24 * b + k) 192 (by omega), pk_le (cn (24 * b + k)) 0 (fun y => ⟨nb0, ?_⟩) (fun y => ⟨nb1, ?_⟩)⟩)⟩
  · rw [if_neg (by intro q; have := q.1; omega)] at hpost; exact hpost
  · rw [if_neg (by intro q; have := q.2; omega)] at hpost; exact hpost
  · rw [if_pos ⟨z, y⟩] at hpost; exact hpost
theorem lM_less_l {post : Int32 → MT → Prop} (hG : GI cn fl bt er) (h : PM cn fl bt er v) (hP : P ≤ 24) (mP : m_pictures v = nI P) (ha : a < 8) (hb : b < 8) (hpost : post (nI (ltN cn bt a b P)) v) : ∀ m k, k + m = P → q_M_less_5N (m + 1) (nI a) (nI b) (nI (ltN cn bt a b k)) (nI k) v post := by
  intro m
  induction m with
  | zero =>
    intro k hk
    rw [q_M_less_5N]
    unfold q_M_less_5
    refine pk_le P k (fun _ => ?_) (fun h => absurd h (by omega)) mP
    rw [show k = P by omega]; exact hpost
  | succ m ih =>
    intro k hk
    rw [q_M_less_5N]
    unfold q_M_less_5 q_M_less_55 q_M_less_56
    dsimp only
    rw [nI_1, show (0 : Int32) = nI 0 from rfl, nI_add, show (1 : Int32) = nI 1 from rfl, nI_add]
    refine pk_le P k (fun h => absurd h (by omega)) (fun hlt => lM_both hG h (by omega) ha hb ?_) mP
    have e := ih (k + 1) (by omega)
    by_cases hbo : boP cn a b k
    · rw [if_pos hbo]
      have h1 : lsp cn bt a k ≤ 1000000000 := hG.lb (p := 24 * a + k) (by omega)
      have h2 : lsp cn bt b k ≤ 1000000000 := hG.lb (p := 24 * b + k) (by omega)
      refine br_f (by decide) (lM_bytes hG h (p := 24 * a + k) (by omega) hbo.1 (iy24 a k) (lM_bytes hG h (p := 24 * b + k) (by omega) hbo.2 (iy24 b k) ?_))
      refine pk_le (lsp cn bt b k) (lsp cn bt a k) (fun hl => ?_) (fun hl => ?_)
      · rw [lt_n (by omega)] at e; exact e
      · rw [lt_y hbo hl] at e; exact e
    · rw [if_neg hbo]
      rw [lt_n (fun z => hbo z.1)] at e
      exact br_t rfl e
theorem lM_less {post : Int32 → MT → Prop} (hG : GI cn fl bt er) (h : PM cn fl bt er v) (hP : P ≤ 24) (mP : m_pictures v = nI P) (ha : a < 8) (hb : b < 8) (hpost : post (nI (ltN cn bt a b P)) v) : q_M_less (nI a) (nI b) v post :=
  ⟨_, lM_less_l hG h hP mP ha hb hpost P 0 (by omega)⟩
end PUN
/-! binomials -/
def ch : Nat → Nat → Nat
  | _, 0 => 1
  | 0, _ + 1 => 0
  | n + 1, k + 1 => ch n k + ch n (k + 1)
theorem ch_0 (n : Nat) : ch n 0 = 1 := by cases n <;> rfl
theorem ch_s (n k : Nat) : ch (n + 1) (k + 1) = ch n k + ch n (k + 1) := rfl
theorem ch_gt : ∀ (n k : Nat), n < k → ch n k = 0
  | 0, k + 1, _ => rfl
  | n + 1, k + 1, h => by rw [ch_s, ch_gt n k (by omega), ch_gt n (k + 1) (by omega)]
theorem ch_le : ∀ (n k : Nat), ch n k ≤ 2 ^ n
  | 0, 0 => Nat.le_refl _
  | 0, _ + 1 => Nat.zero_le _
  | n + 1, 0 => Nat.one_le_two_pow
  | n + 1, k + 1 => by
    have h1 := ch_le n k
    have h2 := ch_le n (k + 1)
    rw [ch_s, Nat.pow_succ]
    omega
theorem ch_mul : ∀ (n k : Nat), (n + 1) * ch n k = ch (n + 1) (k + 1) * (k + 1)
  | 0, 0 => rfl
  | 0, k + 1 => by rw [ch_s, ch_gt 0 (k + 1) (by omega), ch_gt 0 (k + 1 + 1) (by omega)]; simp
  | n + 1, 0 => by
    have h := ch_mul n 0
    rw [ch_0] at h
    rw [ch_s, ch_0]
    simp only [Nat.zero_add, Nat.mul_one] at h ⊢
    omega
  | n + 1, k + 1 => by
    have h1 := ch_mul n k
    have h2 := ch_mul n (k + 1)
    have e1 := ch_s n k
    have e2 := ch_s (n + 1) (k + 1)
    rw [e2]
    have e3 : (n + 1 + 1) * ch (n + 1) (k + 1) = (n + 1) * ch n k + (n + 1) * ch n (k + 1) + ch (n + 1) (k + 1) := by
      rw [Nat.succ_mul (n + 1), e1, Nat.mul_add (n + 1)]
    rw [e3, h1, h2, Nat.add_mul (ch (n + 1) (k + 1)), Nat.mul_succ (ch (n + 1) (k + 1)) (k + 1)]
    omega
theorem ch_next (n k : Nat) : ch n k * (n - k) = ch n (k + 1) * (k + 1) := by
  by_cases hk : n < k
  · rw [ch_gt n k hk, ch_gt n (k + 1) (by omega)]; simp
  · have h := ch_mul n k
    rw [ch_s, Nat.add_mul (ch n k)] at h
    have e : (n + 1) * ch n k = ch n k * (n - k) + ch n k * (k + 1) := by
      rw [← Nat.mul_add, show n - k + (k + 1) = n + 1 by omega, Nat.mul_comm]
    omega
theorem ch_div (n k : Nat) : ch n k * (n - k) / (k + 1) = ch n (k + 1) := by
  rw [ch_next, Nat.mul_div_cancel _ (by omega)]
def tlN (n : Nat) : Nat → Nat
  | 0 => 1
  | i + 1 => tlN n i + ch n (i + 1)
def twN (n : Nat) : Nat → Nat
  | 0 => 0
  | i + 1 => twN n i + 2 * ch n i
theorem tw_tl (n : Nat) : ∀ i, twN n (i + 1) = 2 * tlN n i
  | 0 => by simp [twN, tlN, ch_0]
  | i + 1 => by
    show twN n (i + 1) + 2 * ch n (i + 1) = 2 * (tlN n i + ch n (i + 1))
    rw [tw_tl n i]; omega
theorem tl_le (n : Nat) : ∀ i, tlN n i ≤ (i + 1) * 2 ^ n
  | 0 => by
    have := Nat.one_le_two_pow (n := n)
    simp only [tlN]; omega
  | i + 1 => by
    have h1 := tl_le n i
    have h2 := ch_le n (i + 1)
    simp only [tlN]
    rw [Nat.add_mul (i + 1) 1]
    omega
theorem tl_pos (n : Nat) : ∀ i, 1 ≤ tlN n i
  | 0 => Nat.le_refl _
  | i + 1 => by
    have := tl_pos n i
    simp only [tlN]; omega
theorem p2_le {n : Nat} (h : n ≤ 24) : 2 ^ n ≤ 16777216 := Nat.pow_le_pow_right (n := 2) (by omega) h
theorem shl_n : ∀ n, n < 25 → (1 : Int64) <<< ((nI n).toInt64 &&& 63) = lN (2 ^ n) := by decide
/-- twice a tail, at most all -/
def bo2 (n m : Nat) : Nat := min (2 * tlN n m) (2 ^ n)
theorem bo2_pos (n m : Nat) : 0 < bo2 n m := by
  have h1 := tl_pos n m
  have h2 := Nat.one_le_two_pow (n := n)
  unfold bo2
  omega
theorem bo2_le {n : Nat} (m : Nat) (h : n ≤ 24) : bo2 n m ≤ 16777216 := by
  have h1 := p2_le h
  unfold bo2
  omega
theorem lX_odds_l {u : CT} {post : Int64 → CT → Prop} {w : Int32} {n m : Nat} (hn : n ≤ 24) (hm : m ≤ n) (hpost : post (lN (lowT (bo2 n m) (2 ^ n) w)) u) : ∀ d i, i + d = m → q_X_odds_8N (d + 1) (nI n) (nI m) w (lN (ch n i)) (lN (tlN n i)) (nI (i + 1)) u post := by
  have hp := p2_le hn
  intro d
  induction d with
  | zero =>
    intro i hi
    have : i = m := by omega
    subst this
    rw [q_X_odds_8N]
    unfold q_X_odds_8
    dsimp only
    refine pk_lt i (i + 1) (fun _ => ?_) (fun z => absurd z (by omega))
    have ht := tl_le n i
    have ht2 : tlN n i ≤ 25 * 16777216 := Nat.le_trans ht (Nat.mul_le_mul (by omega) hp)
    have hb := bo2_le i hn
    have hb0 := bo2_pos n i
    rw [shl_n n (by omega), show (2 : Int64) = lN 2 from rfl, lN_mul]
    have e : (if lN (2 ^ n) < lN (2 * tlN n i) then lN (2 ^ n) else lN (2 * tlN n i)) = lN (bo2 n i) := by
      unfold bo2
      by_cases h : 2 ^ n < 2 * tlN n i
      · rw [if_pos ((pk_lLT (by omega) (by omega)).mpr h), Nat.min_eq_right (by omega)]
      · rw [if_neg (fun z => h ((pk_lLT (by omega) (by omega)).mp z)), Nat.min_eq_left (by omega)]
    rw [e]
    exact lX_lows (by omega) (by omega) hb0 (Nat.two_pow_pos n) hpost
  | succ d ih =>
    intro i hi
    rw [q_X_odds_8N]
    unfold q_X_odds_8
    dsimp only
    have hc := ch_le n i
    have hc2 : ch n i * (n - i) ≤ 16777216 * 24 := Nat.mul_le_mul (by omega) (by omega)
    refine pk_lt m (i + 1) (fun z => absurd z (by omega)) (fun _ => ⟨?_, ?_⟩)
    · rw [nI_toInt64 (by omega)]; exact lN_n0 (by omega) (by omega)
    · rw [pk_sub (by omega), nI_1, nI_1, show n - (i + 1) + 1 = n - i by omega, nI_toInt64 (by omega), nI_toInt64 (by omega), lN_mul, pk_lDiv (by omega) (by omega) (by omega), ch_div, lN_add]
      exact ih (i + 1) (by omega)
theorem lX_odds {u : CT} {post : Int64 → CT → Prop} {w : Int32} {n m : Nat} (hn : n ≤ 24) (hm : m ≤ n) (hpost : post (lN (lowT (bo2 n m) (2 ^ n) w)) u) : q_X_odds (nI n) (nI m) w u post := by
  have e := lX_odds_l hn hm hpost m 0 (by omega)
  rw [ch_0] at e
  exact ⟨_, e⟩
