/-! ===== the pure part, 7: least ===== -/
theorem nI_m1 {n : Nat} (h : n < 2 ^ 31) : ¬ nI n = -1 := by
  intro z
  have e := congrArg Int32.toInt z
  rw [nI_toInt h] at e
  have e2 : (-1 : Int32).toInt = -1 := rfl
  omega
def eO : Option Nat → Int32
  | none => -1
  | some n => nI n
def e3 : Option (Nat × Nat) → Int32
  | none => -1
  | some s => nI s.1
def e4 : Option (Nat × Nat) → Int32
  | none => 0
  | some s => nI s.2
/-- the least bytes of the first k points of a pair with an error of at most E -/
def wiN (bt er : Nat → Nat) (E p : Nat) : Nat → Option Nat
  | 0 => none
  | k + 1 => if er (6 * p + k) ≤ E then (match wiN bt er E p k with
      | none => some (bt (6 * p + k))
      | some r => some (min r (bt (6 * p + k)))) else wiN bt er E p k
/-- the better one of what was best so far and coder c with its least bytes -/
def pick (s : Option (Nat × Nat)) (c : Nat) : Option Nat → Option (Nat × Nat)
  | none => s
  | some r => (match s with
      | none => some (c, r)
      | some z => if r < z.2 then some (c, r) else some z)
def okS (s : Option (Nat × Nat)) : Prop := ∀ z, s = some z → z.1 < 8 ∧ z.2 ≤ 1000000000
section PUL
variable {cn bt er : Nat → Nat} {fl : Nat → Bool} {u : CT} {v : MT} {C P E p k c : Nat} {s : Option (Nat × Nat)}
theorem PX.le (hG : GI cn fl bt er) (h : PX cn fl bt er u) (hp : p < 192) (hk : k < 2 ^ 31) : x_pointCounts u p ≤ nI k ↔ cn p ≤ k := by
  rw [h.1 p hp]
  by_cases hf : fl p = true
  · rw [if_pos hf]
    have h0 : cn p = 0 := (hG.1 p hp).2 hf
    refine ⟨fun _ => by omega, fun _ => ?_⟩
    rw [Int32.le_iff_toInt_le, nI_toInt hk]
    have e2 : (-1 : Int32).toInt = -1 := rfl
    omega
  · rw [if_neg hf]
    have h6 := hG.cn6 hp
    exact nI_leI (by omega) hk
theorem wi_n (h : E < er (6 * p + k)) : wiN bt er E p (k + 1) = wiN bt er E p k := by
  simp only [wiN]; rw [if_neg (by omega)]
theorem wi_0 (h : er (6 * p + k) ≤ E) (h2 : wiN bt er E p k = none) : wiN bt er E p (k + 1) = some (bt (6 * p + k)) := by
  simp only [wiN]; rw [if_pos h, h2]
theorem wi_s {r : Nat} (h : er (6 * p + k) ≤ E) (h2 : wiN bt er E p k = some r) : wiN bt er E p (k + 1) = some (min r (bt (6 * p + k))) := by
  simp only [wiN]; rw [if_pos h, h2]
theorem wi_le (hG : GI cn fl bt er) (hp : p < 192) : ∀ k, k ≤ cn p → ∀ r, wiN bt er E p k = some r → r ≤ 1000000000 := by
  intro k
  induction k with
  | zero => intro _ r h; simp [wiN] at h
  | succ k ih =>
    intro hk r h
    have hb := (hG.2 p k hp (by omega)).2.1
    by_cases he : er (6 * p + k) ≤ E
    · cases hw : wiN bt er E p k with
      | none => rw [wi_0 he hw] at h; injection h with h; omega
      | some q =>
        have := ih (by omega) q hw
        rw [wi_s he hw] at h; injection h with h; omega
    · rw [wi_n (by omega)] at h; exact ih (by omega) r h
theorem lX_within_l {post : Int32 → CT → Prop} (hG : GI cn fl bt er) (h : PX cn fl bt er u) (hp : p < 192) (hE : E < 2 ^ 31) (hpost : post (eO (wiN bt er E p (cn p))) u) : ∀ m k, k + m = cn p → q_X_leastBytesWithin_11N (m + 1) (nI p) (nI E) (eO (wiN bt er E p k)) (nI (6 * p)) (nI k) u post := by
  have h6 := hG.cn6 hp
  intro m
  induction m with
  | zero =>
    intro k hk
    rw [q_X_leastBytesWithin_11N]
    unfold q_X_leastBytesWithin_11
    dsimp only
    rw [nI_clamp (by omega), h.le hG hp (by omega)]
    refine ⟨pk_in p 192 hp, fun _ => ?_, fun z => absurd (by omega) z⟩
    rw [show k = cn p by omega]; exact hpost
  | succ m ih =>
    intro k hk
    rw [q_X_leastBytesWithin_11N]
    unfold q_X_leastBytesWithin_11
    dsimp only
    rw [nI_clamp (by omega), h.le hG hp (by omega), nI_add, nI_clamp (by omega), (h.2.2 p k hp (by omega)).1, (h.2.2 p k hp (by omega)).2]
    have hb := hG.2 p k hp (by omega)
    refine ⟨pk_in p 192 hp, fun z => absurd z (by omega), fun _ => ⟨pk_in (6 * p + k) 1152 (by omega), pk_in (6 * p + k) 1152 (by omega), ?_⟩⟩
    have e := ih (k + 1) (by omega)
    refine pk_lt E (er (6 * p + k)) (fun h1 => ?_) (fun h1 => ?_)
    · unfold q_X_leastBytesWithin_62
      rw [nI_1]; rw [wi_n h1] at e; exact e
    · unfold q_X_leastBytesWithin_59 q_X_leastBytesWithin_62
      rw [nI_1]
      cases hw : wiN bt er E p k with
      | none =>
        rw [wi_0 h1 hw] at e
        exact br_t rfl e
      | some r =>
        have hr := wi_le hG hp k (by omega) r hw
        rw [wi_s h1 hw] at e
        refine br_f (nI_m1 (by omega)) ?_
        refine pk_le r (bt (6 * p + k)) (fun h2 => ?_) (fun h2 => ?_)
        · rw [Nat.min_eq_left h2] at e; exact e
        · rw [Nat.min_eq_right (by omega)] at e; exact e
theorem lX_within {post : Int32 → CT → Prop} (hG : GI cn fl bt er) (h : PX cn fl bt er u) (hp : p < 192) (hE : E < 2 ^ 31) {x : Int32} (hx : x = nI p) (hpost : post (eO (wiN bt er E p (cn p))) u) : q_X_leastBytesWithin x (nI E) u post := by
  subst hx
  unfold q_X_leastBytesWithin
  rw [ix60]
  exact ⟨_, lX_within_l hG h hp hE hpost (cn p) 0 (by omega)⟩
theorem pick_ok (hs : okS s) (hc : c < 8) {w : Option Nat} (hw : ∀ r, w = some r → r ≤ 1000000000) : okS (pick s c w) := by
  intro z hz
  cases w with
  | none => exact hs z hz
  | some r =>
    have hr := hw r rfl
    cases s with
    | none => simp only [pick] at hz; injection hz with hz; subst hz; exact ⟨hc, hr⟩
    | some y =>
      simp only [pick] at hz
      by_cases h2 : r < y.2
      · rw [if_pos h2] at hz; injection hz with hz; subst hz; exact ⟨hc, hr⟩
      · rw [if_neg h2] at hz; exact hs z hz
/-- the best of the first coders -/
def beN (cn bt er : Nat → Nat) (E q : Nat) : Nat → Option (Nat × Nat)
  | 0 => none
  | c + 1 => pick (beN cn bt er E q c) c (wiN bt er E (24 * c + q) (cn (24 * c + q)))
theorem be_ok (hG : GI cn fl bt er) {q : Nat} (hq : q < 24) : ∀ c, c ≤ 8 → okS (beN cn bt er E q c)
  | 0, _ => fun z hz => by simp [beN] at hz
  | c + 1, hc => pick_ok (be_ok hG hq c (by omega)) (by omega) (wi_le hG (by omega) _ (Nat.le_refl _))
theorem lX_least_l {post : Int32 → CT → Prop} {ex : String → CT → Prop} (hG : GI cn fl bt er) (h : PX cn fl bt er u) (hC : C ≤ 8) (xC : x_coders u = nI C) {q : Nat} (hq : q < 24) (hE : E < 2 ^ 31) (hpost : post (e3 (beN cn bt er E q C)) u) : ∀ m c, c + m = C → q_X_least_27N (m + 1) (nI q) (nI E) (e3 (beN cn bt er E q c)) (e4 (beN cn bt er E q c)) (nI c) u post ex := by
  intro m
  induction m with
  | zero =>
    intro k hk
    rw [q_X_least_27N]
    unfold q_X_least_27
    dsimp only
    refine pk_le C k (fun _ => ?_) (fun h => absurd h (by omega)) xC
    rw [show k = C by omega]; exact hpost
  | succ m ih =>
    intro c hc
    rw [q_X_least_27N]
    unfold q_X_least_27
    dsimp only
    refine pk_le C c (fun h => absurd h (by omega)) (fun hlt => ?_) xC
    refine lX_within hG h (p := 24 * c + q) (by omega) hE (ix24 c q) ?_
    have e := ih (c + 1) (by omega)
    simp only [beN] at e
    have hw := wi_le (E := E) hG (p := 24 * c + q) (by omega) _ (Nat.le_refl _)
    have hs := be_ok (E := E) hG hq c (by omega)
    unfold q_X_least_68 q_X_least_75
    rw [nI_1]
    generalize wiN bt er E (24 * c + q) (cn (24 * c + q)) = w at e hw ⊢
    generalize beN cn bt er E q c = s at e hs ⊢
    cases w with
    | none => exact br_t rfl e
    | some r =>
      have hr := hw r rfl
      refine br_f (nI_m1 (by omega)) ?_
      cases s with
      | none => exact br_t rfl e
      | some z =>
        have hz := hs z rfl
        refine br_f (nI_m1 (by omega)) ?_
        simp only [pick] at e
        refine pk_le z.2 r (fun h2 => ?_) (fun h2 => ?_)
        · rw [if_neg (by omega)] at e; exact e
        · rw [if_pos h2] at e; exact e
theorem lX_least {post : Int32 → CT → Prop} {ex : String → CT → Prop} (hG : GI cn fl bt er) (h : PX cn fl bt er u) (hC : C ≤ 8) (hP : P ≤ 24) (xC : x_coders u = nI C) (xP : x_pictures u = nI P) {q : Nat} (hq : q < P) (hE : E < 2 ^ 31) (hpost : post (e3 (beN cn bt er E q C)) u) : q_X_least (nI q) (nI E) u post ex := by
  unfold q_X_least
  refine lX_pict_ok xP hP hq (br_t (nI_pos' hE) ⟨_, lX_least_l hG h hC xC (by omega) hE hpost C 0 (by omega)⟩)
theorem lM_least_i {K : Int32 → Int32 → Int32 → Int32 → Int32 → MT → Prop} {post : Int32 → MT → Prop} (hG : GI cn fl bt er) (h : PM cn fl bt er v) {q : Nat} (hq : q < 24) (hc : c < 8) (hE : E < 2 ^ 31) (hs : okS s)
    (hK : K (nI q) (nI E) (e3 (pick s c (wiN bt er E (24 * c + q) (cn (24 * c + q))))) (e4 (pick s c (wiN bt er E (24 * c + q) (cn (24 * c + q))))) (nI (c + 1)) v) :
    ∀ m k, k + m = cn (24 * c + q) → q_M_least_67N K (m + 1) (nI q) (nI E) (e3 (pick s c (wiN bt er E (24 * c + q) k))) (e4 (pick s c (wiN bt er E (24 * c + q) k))) (nI c) (nI (24 * c + q)) (nI (6 * (24 * c + q) + k)) v post := by
  have hp : 24 * c + q < 192 := by omega
  generalize 24 * c + q = p at hK hp ⊢
  have h6 := hG.cn6 hp
  have hw := wi_le (E := E) hG hp
  intro m
  induction m with
  | zero =>
    intro k hk
    rw [q_M_least_67N]
    unfold q_M_least_67
    dsimp only
    rw [nI_clamp (by omega), h.1 p hp, iy6]
    refine ⟨pk_in p 192 hp, pk_le (6 * p + cn p) (6 * p + k) (fun _ => ?_) (fun h => absurd h (by omega))⟩
    rw [nI_1, show k = cn p by omega]; exact hK
  | succ m ih =>
    intro k hk
    rw [q_M_least_67N]
    unfold q_M_least_67 q_M_least_113 q_M_least_125
    dsimp only
    rw [nI_clamp (by omega), h.1 p hp, iy6, nI_clamp (by omega), (h.2.2 p k hp (by omega)).1, (h.2.2 p k hp (by omega)).2, nI_1, nI_1]
    have hb := hG.2 p k hp (by omega)
    have hi : vp_in (nI (6 * p + k)) 1152 := pk_in (6 * p + k) 1152 (by omega)
    refine ⟨pk_in p 192 hp, pk_le (6 * p + cn p) (6 * p + k) (fun h => absurd h (by omega)) (fun _ => ⟨hi, ?_⟩)⟩
    have e := ih (k + 1) (by omega)
    rw [show 6 * p + (k + 1) = 6 * p + k + 1 by omega] at e
    refine pk_lt E (er (6 * p + k)) (fun h1 => ?_) (fun h1 => ?_)
    · rw [wi_n h1] at e; exact e
    · have hb2 := hb.2.1
      cases hwk : wiN bt er E p k with
      | none =>
        rw [wi_0 h1 hwk] at e
        generalize bt (6 * p + k) = b at e hb2 ⊢
        cases s with
        | none => exact br_t rfl ⟨hi, e⟩
        | some z =>
          have hz := hs z rfl
          simp only [pick] at e ⊢
          refine br_f (nI_m1 (by omega)) ⟨hi, pk_le z.2 b (fun h2 => ?_) (fun h2 => ⟨hi, ?_⟩)⟩
          · rw [if_neg (by omega)] at e; exact e
          · rw [if_pos h2] at e; exact e
      | some r =>
        have hr := hw k (by omega) r hwk
        rw [wi_s h1 hwk] at e
        generalize bt (6 * p + k) = b at e hb2 ⊢
        cases s with
        | none =>
          simp only [pick] at e ⊢
          refine br_f (nI_m1 (by omega)) ⟨hi, pk_le r b (fun h2 => ?_) (fun h2 => ⟨hi, ?_⟩)⟩
          · rw [Nat.min_eq_left h2] at e; exact e
          · rw [Nat.min_eq_right (by omega)] at e; exact e
        | some z =>
          have hz := hs z rfl
          simp only [pick] at e ⊢
          by_cases hrz : r < z.2
          · rw [if_pos hrz]
            rw [if_pos (by omega)] at e
            refine br_f (nI_m1 (by omega)) ⟨hi, pk_le r b (fun h2 => ?_) (fun h2 => ⟨hi, ?_⟩)⟩
            · rw [Nat.min_eq_left h2] at e; exact e
            · rw [Nat.min_eq_right (by omega)] at e; exact e
          · rw [if_neg hrz]
            refine br_f (nI_m1 (by omega)) ⟨hi, pk_le z.2 b (fun h2 => ?_) (fun h2 => ⟨hi, ?_⟩)⟩
            · rw [if_neg (by omega)] at e; exact e
            · rw [if_pos (by omega), Nat.min_eq_right (by omega)] at e; exact e
theorem lM_least_l {post : Int32 → MT → Prop} (hG : GI cn fl bt er) (h : PM cn fl bt er v) (hC : C ≤ 8) (mC : m_coders v = nI C) {q : Nat} (hq : q < 24) (hE : E < 2 ^ 31) (hpost : post (e3 (beN cn bt er E q C)) v) : ∀ m c, c + m = C → q_M_least_42N (m + 1) (nI q) (nI E) (e3 (beN cn bt er E q c)) (e4 (beN cn bt er E q c)) (nI c) v post := by
  intro m
  induction m with
  | zero =>
    intro k hk
    rw [q_M_least_42N]
    unfold q_M_least_42
    dsimp only
    refine pk_le C k (fun _ => ?_) (fun h => absurd h (by omega)) mC
    rw [show k = C by omega]; exact hpost
  | succ m ih =>
    intro c hc
    rw [q_M_least_42N]
    unfold q_M_least_42
    dsimp only
    refine pk_le C c (fun h => absurd h (by omega)) (fun hlt => ⟨cn (24 * c + q) + 1, ?_⟩) mC
    rw [iy24, iy60]
    have e := ih (c + 1) (by omega)
    simp only [beN] at e
    exact lM_least_i (K := fun x1 x2 x3 x4 x5 u => q_M_least_42N (m + 1) x1 x2 x3 x4 x5 u post) hG h hq (by omega) hE (be_ok hG hq c (by omega)) e (cn (24 * c + q)) 0 (by omega)
end PUL
section PUM
variable {L : Nat} {xs : Nat → Int32} {i : Int32} {u : CT} {v : MT} {o : Nat → Int64}
theorem st_6 (h : Rel u v) (h1 : vp_in (i + 1) L) (h2 : vp_in (i + 2) L) : q_law_6 L xs i u v o RR := by
  obtain ⟨C, P, cn, fl, bt, er, F, fp, T, tx, hI, hX, hM⟩ := h
  obtain ⟨iC, iP, iG, iF, iT, ix⟩ := id hI
  obtain ⟨xC, xP, xG, xF, xT, xx⟩ := id hX
  obtain ⟨mC, mP, mG, mF, mT, mx⟩ := id hM
  have hR : ∀ k, Rel u (m_code_s v k) := fun k => ⟨C, P, cn, fl, bt, er, F, fp, T, tx, hI, hX, hM⟩
  unfold q_law_6 qh_W_least
  refine ⟨h1, h2, ?_⟩
  generalize xs (i + 1).toNatClampNeg = a
  generalize xs (i + 2).toNatClampNeg = b
  rcases okbad a (C := P) (by omega) with hb | ⟨q, hq, rfl⟩
  · unfold q_X_least
    refine lX_pict_no xP hb (Or.inl ⟨rfl, h1, h2, ?_⟩)
    unfold q_M_least
    refine bad_br hb mP ?_
    unfold q_M_least_13 q_M_least_26
    refine rf_no 1 (h := ?_)
    unfold q_M_thrown
    exact tl_ex (by decide) rfl (hR _)
  by_cases hb0 : 0 ≤ b
  · obtain ⟨E, hE, rfl⟩ := nI_of (x := b) (Int32.not_lt.mpr hb0)
    refine lX_least iG xG iC iP xC xP hq hE ⟨h1, h2, ?_⟩
    unfold q_M_least
    refine ok_br hq (by omega) mP (br_t hb0 ?_)
    unfold q_M_least_26
    refine rf_ok ⟨_, lM_least_l (v := m_code_s v 0) iG mG iC mC (by omega) hE ?_ C 0 (by omega)⟩
    unfold q_M_thrown
    exact tl_ok rfl rfl (hR _)
  · unfold q_X_least
    refine lX_pict_ok xP iP hq (br_f hb0 (Or.inr ⟨rfl, h1, h2, ?_⟩))
    unfold q_M_least
    refine ok_br hq (by omega) mP (br_f hb0 ?_)
    unfold q_M_least_26
    refine rf_no 2 (h := ?_)
    unfold q_M_thrown
    exact tl_ex (by decide) rfl (hR _)
end PUM
