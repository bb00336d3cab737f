/-! ===== the pure part, 1: numbers, states, what they hold ===== -/
theorem pk_ne {x y : Int32} {A B : Prop} (a b : Nat) (f : a ≠ b → A) (g : a = b → B) (hx : x = nI a := by rfl) (hy : y = nI b := by rfl) (ha : a < 2 ^ 31 := by omega) (hb : b < 2 ^ 31 := by omega) : (¬ x = y → A) ∧ (x = y → B) := by
  subst hx hy
  rw [nI_eq ha hb]
  exact ⟨f, g⟩
theorem br_n {c A B : Prop} (a : ¬ c → A) (b : c → B) : (¬ c → A) ∧ (c → B) := ⟨a, b⟩
theorem br_y {c A B : Prop} (h : c) (b : B) : (¬ c → A) ∧ (c → B) := ⟨fun z => absurd h z, fun _ => b⟩
theorem br_z {c A B : Prop} (h : ¬ c) (a : A) : (¬ c → A) ∧ (c → B) := ⟨fun _ => a, fun z => absurd z h⟩
theorem nb0 : narrow .boolean (.int (0 : Int32)) = .int 0 := rfl
theorem nb1 : narrow .boolean (.int (1 : Int32)) = .int 1 := rfl
theorem ix24 (c k : Nat) : nI c * 24 + nI k = nI (24 * c + k) := by rw [show (24 : Int32) = nI 24 from rfl, pk_mul, nI_add, Nat.mul_comm]
theorem iy24 (c k : Nat) : 24 * nI c + nI k = nI (24 * c + k) := by rw [show (24 : Int32) = nI 24 from rfl, pk_mul, nI_add]
theorem ix6 (c k : Nat) : nI c * 6 + nI k = nI (6 * c + k) := by rw [show (6 : Int32) = nI 6 from rfl, pk_mul, nI_add, Nat.mul_comm]
theorem iy6 (c k : Nat) : 6 * nI c + nI k = nI (6 * c + k) := by rw [show (6 : Int32) = nI 6 from rfl, pk_mul, nI_add]
theorem ix60 (c : Nat) : nI c * 6 = nI (6 * c) := by rw [show (6 : Int32) = nI 6 from rfl, pk_mul, Nat.mul_comm]
theorem iy60 (c : Nat) : 6 * nI c = nI (6 * c) := by rw [show (6 : Int32) = nI 6 from rfl, pk_mul]
theorem nI_toInt64 {n : Nat} (h : n < 2 ^ 31) : (nI n).toInt64 = lN n := nI_l h
def upN (f : Nat → Nat) (k v : Nat) : Nat → Nat := fun j => if j = k then v else f j
def upB (f : Nat → Bool) (k : Nat) (v : Bool) : Nat → Bool := fun j => if j = k then v else f j
theorem upN_s {f : Nat → Nat} {k v : Nat} : upN f k v k = v := by simp [upN]
theorem upN_n {f : Nat → Nat} {k v j : Nat} (h : j ≠ k) : upN f k v j = f j := by simp [upN, h]
theorem upB_s {f : Nat → Bool} {k : Nat} {v : Bool} : upB f k v k = v := by simp [upB]
theorem upB_n {f : Nat → Bool} {k j : Nat} {v : Bool} (h : j ≠ k) : upB f k v j = f j := by simp [upB, h]
/-- the least of the first n -/
def mn (f : Nat → Nat) : Nat → Nat
  | 0 => 0
  | 1 => f 0
  | n + 2 => min (mn f (n + 1)) (f (n + 1))
abbrev lst (bt : Nat → Nat) (p n : Nat) : Nat := mn (fun k => bt (6 * p + k)) n
theorem mn_s (f : Nat → Nat) {n : Nat} (h : 0 < n) : mn f (n + 1) = min (mn f n) (f n) := by
  cases n with
  | zero => omega
  | succ n => rfl
theorem mn_le {f : Nat → Nat} {B : Nat} : ∀ {n : Nat}, (∀ k, k < n → f k ≤ B) → mn f n ≤ B
  | 0, _ => Nat.zero_le _
  | 1, h => h 0 (by omega)
  | n + 2, h => by
    have h1 := mn_le (n := n + 1) (fun k hk => h k (by omega))
    show min _ _ ≤ B
    omega
theorem mn_pos {f : Nat → Nat} : ∀ {n : Nat}, 0 < n → (∀ k, k < n → 1 ≤ f k) → 1 ≤ mn f n
  | 1, _, h => h 0 (by omega)
  | n + 2, _, h => by
    have h1 := mn_pos (n := n + 1) (by omega) (fun k hk => h k (by omega))
    have h2 := h (n + 1) (by omega)
    show 1 ≤ min _ _
    omega
theorem mn_congr {f g : Nat → Nat} : ∀ {n : Nat}, (∀ k, k < n → f k = g k) → mn f n = mn g n
  | 0, _ => rfl
  | 1, h => h 0 (by omega)
  | n + 2, h => by
    have h1 := mn_congr (n := n + 1) (fun k hk => h k (by omega))
    have h2 := h (n + 1) (by omega)
    show min _ _ = min _ _
    rw [h1, h2]
/-- the invariant of the points: counts, failures, bytes, errors -/
def GI (cn : Nat → Nat) (fl : Nat → Bool) (bt er : Nat → Nat) : Prop :=
  (∀ p, p < 192 → cn p ≤ 6 ∧ (fl p = true → cn p = 0)) ∧ ∀ p k, p < 192 → k < cn p → 1 ≤ bt (6 * p + k) ∧ bt (6 * p + k) ≤ 1000000000 ∧ er (6 * p + k) ≤ 1000000000
/-- the class's points -/
def PX (cn : Nat → Nat) (fl : Nat → Bool) (bt er : Nat → Nat) (u : CT) : Prop :=
  (∀ p, p < 192 → x_pointCounts u p = if fl p = true then -1 else nI (cn p)) ∧ (∀ p, p < 192 → 0 < cn p → x_leastBytes u p = nI (lst bt p (cn p))) ∧ ∀ p k, p < 192 → k < cn p → x_pointBytes u (6 * p + k) = nI (bt (6 * p + k)) ∧ x_pointErrors u (6 * p + k) = nI (er (6 * p + k))
/-- the reference's points -/
def PM (cn : Nat → Nat) (fl : Nat → Bool) (bt er : Nat → Nat) (v : MT) : Prop :=
  (∀ p, p < 192 → m_count v p = nI (cn p)) ∧ (∀ p, p < 192 → m_hasFailed v p = if fl p = true then 1 else 0) ∧ ∀ p k, p < 192 → k < cn p → m_bytesOf v (6 * p + k) = nI (bt (6 * p + k)) ∧ m_errorOf v (6 * p + k) = nI (er (6 * p + k))
section PUA
variable {cn bt er : Nat → Nat} {fl : Nat → Bool} {u : CT} {v : MT} {C P : Nat}
theorem GI.cn6 (h : GI cn fl bt er) {p : Nat} (hp : p < 192) : cn p ≤ 6 := (h.1 p hp).1
theorem GI.lb (h : GI cn fl bt er) {p : Nat} (hp : p < 192) : lst bt p (cn p) ≤ 1000000000 := mn_le fun k hk => (h.2 p k hp hk).2.1
theorem GI.lp (h : GI cn fl bt er) {p : Nat} (hp : p < 192) (h0 : 0 < cn p) : 1 ≤ lst bt p (cn p) := mn_pos h0 fun k hk => (h.2 p k hp hk).1
/-- the class's count where it is above 0 -/
theorem PX.cnt (hG : GI cn fl bt er) (h : PX cn fl bt er u) {p : Nat} (hp : p < 192) (h0 : 0 < cn p) : x_pointCounts u p = nI (cn p) := by
  rw [h.1 p hp, if_neg]
  intro hf
  have := (hG.1 p hp).2 hf
  omega
theorem lX_isCounted {post : Int32 → CT → Prop} (hG : GI cn fl bt er) (h : PX cn fl bt er u) {p : Nat} (hp : p < 192) {x : Int32} (hx : x = nI p) (hpost : post (if 0 < cn p then 1 else 0) u) : q_X_isCounted x u post := by
  subst hx
  unfold q_X_isCounted
  refine ⟨pk_in p 192 hp, ?_⟩
  rw [nI_clamp (by omega), h.1 p hp]
  by_cases hf : fl p = true
  · rw [if_pos hf]
    have h0 : cn p = 0 := (hG.1 p hp).2 hf
    rw [if_neg (by omega)] at hpost
    exact ⟨fun _ => ⟨nb0, hpost⟩, fun hh => absurd (by decide) hh⟩
  · rw [if_neg hf]
    have h6 := hG.cn6 hp
    refine pk_le (cn p) 0 (fun h0 => ⟨nb0, ?_⟩) (fun h0 => ⟨nb1, ?_⟩)
    · rw [if_neg (by omega)] at hpost; exact hpost
    · rw [if_pos h0] at hpost; exact hpost
/-- how many of the first k pictures are counted for a coder -/
def cnN (cn : Nat → Nat) (c : Nat) : Nat → Nat
  | 0 => 0
  | k + 1 => cnN cn c k + (if 0 < cn (24 * c + k) then 1 else 0)
/-- their bytes' sum -/
def smN (cn bt : Nat → Nat) (c : Nat) : Nat → Nat
  | 0 => 0
  | k + 1 => smN cn bt c k + (if 0 < cn (24 * c + k) then lst bt (24 * c + k) (cn (24 * c + k)) else 0)
theorem cnN_le (cn : Nat → Nat) (c : Nat) : ∀ k, cnN cn c k ≤ k
  | 0 => Nat.le_refl _
  | k + 1 => by
    have := cnN_le cn c k
    simp only [cnN]
    split <;> omega
theorem smN_le (hG : GI cn fl bt er) {c : Nat} (hc : c < 8) : ∀ k, k ≤ 24 → smN cn bt c k ≤ k * 1000000000
  | 0, _ => by simp [smN]
  | k + 1, hk => by
    have h1 := smN_le hG hc k (by omega)
    have h2 := hG.lb (p := 24 * c + k) (by omega)
    rw [show (k + 1) * 1000000000 = k * 1000000000 + 1000000000 from Nat.succ_mul k _]
    show smN cn bt c k + _ ≤ _
    generalize lst bt (24 * c + k) (cn (24 * c + k)) = x at h2 ⊢
    by_cases h0 : 0 < cn (24 * c + k)
    · rw [if_pos h0]; exact Nat.add_le_add h1 h2
    · rw [if_neg h0]; exact Nat.add_le_add h1 (Nat.zero_le _)
theorem lX_countedOf_l {post : Int32 → CT → Prop} (hG : GI cn fl bt er) (h : PX cn fl bt er u) (hp : x_pictures u = nI P) (hP : P ≤ 24) {c : Nat} (hc : c < 8) (hpost : post (nI (cnN cn c P)) u) : ∀ m k, k + m = P → q_X_countedOf_4N (m + 1) (nI c) (nI (cnN cn c k)) (nI k) u post := by
  intro m
  induction m with
  | zero =>
    intro k hk
    show q_X_countedOf_4 _ _ _ _ _ _
    unfold q_X_countedOf_4
    refine pk_le P k (fun _ => ?_) (fun h => absurd h (by omega)) hp
    rw [show k = P by omega]; exact hpost
  | succ m ih =>
    intro k hk
    show q_X_countedOf_4 _ _ _ _ _ _
    unfold q_X_countedOf_4
    refine pk_le P k (fun h => absurd h (by omega)) (fun hlt => ?_) hp
    refine lX_isCounted hG h (p := 24 * c + k) (by omega) (ix24 c k) ?_
    have e := ih (k + 1) (by omega)
    simp only [cnN] at e
    by_cases h0 : 0 < cn (24 * c + k)
    · rw [if_pos h0] at e ⊢
      refine br_f (by decide) ?_
      unfold q_X_countedOf_28
      rw [nI_1, nI_1]; exact e
    · rw [if_neg h0] at e ⊢
      refine br_t rfl ?_
      unfold q_X_countedOf_28
      rw [nI_1]; exact e
theorem lX_countedOf {post : Int32 → CT → Prop} (hG : GI cn fl bt er) (h : PX cn fl bt er u) (hp : x_pictures u = nI P) (hP : P ≤ 24) {c : Nat} (hc : c < 8) (hpost : post (nI (cnN cn c P)) u) : q_X_countedOf (nI c) u post :=
  ⟨_, lX_countedOf_l hG h hp hP hc hpost P 0 (by omega)⟩
theorem lX_sumOf_l {post : Int64 → CT → Prop} (hG : GI cn fl bt er) (h : PX cn fl bt er u) (hp : x_pictures u = nI P) (hP : P ≤ 24) {c : Nat} (hc : c < 8) (hpost : post (lN (smN cn bt c P)) u) : ∀ m k, k + m = P → q_X_sumOf_5N (m + 1) (nI c) (lN (smN cn bt c k)) (nI k) u post := by
  intro m
  induction m with
  | zero =>
    intro k hk
    show q_X_sumOf_5 _ _ _ _ _ _
    unfold q_X_sumOf_5
    refine pk_le P k (fun _ => ?_) (fun h => absurd h (by omega)) hp
    rw [show k = P by omega]; exact hpost
  | succ m ih =>
    intro k hk
    show q_X_sumOf_5 _ _ _ _ _ _
    unfold q_X_sumOf_5
    refine pk_le P k (fun h => absurd h (by omega)) (fun hlt => ?_) hp
    refine lX_isCounted hG h (p := 24 * c + k) (by omega) (ix24 c k) ?_
    have e := ih (k + 1) (by omega)
    simp only [smN] at e
    by_cases h0 : 0 < cn (24 * c + k)
    · rw [if_pos h0] at e ⊢
      refine br_f (by decide) ⟨pk_in (24 * c + k) 192 (by omega) (ix24 c k), ?_⟩
      unfold q_X_sumOf_43
      have hb := hG.lb (p := 24 * c + k) (by omega)
      rw [ix24, nI_clamp (by omega), h.2.1 _ (by omega) h0, nI_toInt64 (by omega), lN_add, nI_1]; exact e
    · rw [if_neg h0] at e ⊢
      refine br_t rfl ?_
      unfold q_X_sumOf_43
      rw [nI_1]; exact e
theorem lX_sumOf {post : Int64 → CT → Prop} (hG : GI cn fl bt er) (h : PX cn fl bt er u) (hp : x_pictures u = nI P) (hP : P ≤ 24) {c : Nat} (hc : c < 8) (hpost : post (lN (smN cn bt c P)) u) : q_X_sumOf (nI c) u post :=
  ⟨_, lX_sumOf_l hG h hp hP hc hpost P 0 (by omega)⟩
/-! the same of the reference -/
theorem lM_countedOf_l {post : Int32 → MT → Prop} (hG : GI cn fl bt er) (h : PM cn fl bt er v) (hp : m_pictures v = nI P) (hP : P ≤ 24) {c : Nat} (hc : c < 8) (hpost : post (nI (cnN cn c P)) v) : ∀ m k, k + m = P → q_M_countedOf_4N (m + 1) (nI c) (nI (cnN cn c k)) (nI k) v post := by
  intro m
  induction m with
  | zero =>
    intro k hk
    show q_M_countedOf_4 _ _ _ _ _ _
    unfold q_M_countedOf_4
    refine pk_le P k (fun _ => ?_) (fun h => absurd h (by omega)) hp
    rw [show k = P by omega]; exact hpost
  | succ m ih =>
    intro k hk
    show q_M_countedOf_4 _ _ _ _ _ _
    unfold q_M_countedOf_4
    refine pk_le P k (fun h => absurd h (by omega)) (fun hlt => ?_) hp
    have e := ih (k + 1) (by omega)
    simp only [cnN] at e
    have h6 := hG.cn6 (p := 24 * c + k) (by omega)
    rw [iy24, nI_clamp (by omega), h.1 _ (by omega)]
    refine ⟨pk_in (24 * c + k) 192 (by omega), ?_⟩
    refine pk_le (cn (24 * c + k)) 0 (fun h0 => ?_) (fun h0 => ?_)
    · rw [if_neg (by omega)] at e
      unfold q_M_countedOf_32
      rw [nI_1, show nI (cnN cn c k) + 0 = nI (cnN cn c k + 0) from nI_add _ 0]; exact e
    · rw [if_pos h0] at e
      unfold q_M_countedOf_32
      rw [nI_1, nI_1]; exact e
theorem lM_countedOf {post : Int32 → MT → Prop} (hG : GI cn fl bt er) (h : PM cn fl bt er v) (hp : m_pictures v = nI P) (hP : P ≤ 24) {c : Nat} (hc : c < 8) (hpost : post (nI (cnN cn c P)) v) : q_M_countedOf (nI c) v post :=
  ⟨_, lM_countedOf_l hG h hp hP hc hpost P 0 (by omega)⟩
theorem lM_bytes_l {post : Int32 → MT → Prop} (hG : GI cn fl bt er) (h : PM cn fl bt er v) {p : Nat} (hp : p < 192) (hpost : post (nI (lst bt p (cn p))) v) : ∀ m k, 0 < k → k + m = cn p → q_M_bytes_12N (m + 1) (nI p) (nI (lst bt p k)) (nI k) v post := by
  have h6 := hG.cn6 hp
  intro m
  induction m with
  | zero =>
    intro k h0 hk
    show q_M_bytes_12 _ _ _ _ _ _
    unfold q_M_bytes_12
    rw [nI_clamp (by omega), h.1 p hp]
    refine ⟨pk_in p 192 hp, pk_le (cn p) k (fun _ => ?_) (fun h => absurd h (by omega))⟩
    rw [show k = cn p by omega]; exact hpost
  | succ m ih =>
    intro k h0 hk
    show q_M_bytes_12 _ _ _ _ _ _
    unfold q_M_bytes_12
    rw [nI_clamp (by omega), h.1 p hp, iy6, nI_clamp (by omega), (h.2.2 p k hp (by omega)).1]
    refine ⟨pk_in p 192 hp, pk_le (cn p) k (fun h => absurd h (by omega)) (fun hlt => ⟨pk_in (6 * p + k) 1152 (by omega), ?_⟩)⟩
    have e := ih (k + 1) (by omega) (by omega)
    have hb := (hG.2 p k hp (by omega)).2.1
    have hl : lst bt p k ≤ 1000000000 := mn_le fun j hj => (hG.2 p j hp (by omega)).2.1
    rw [show lst bt p (k + 1) = min (lst bt p k) (bt (6 * p + k)) from mn_s _ h0] at e
    refine pk_le (lst bt p k) (bt (6 * p + k)) (fun hle => ?_) (fun hlt => ?_)
    · unfold q_M_bytes_47
      rw [nI_1]
      rw [Nat.min_eq_left hle] at e; exact e
    · unfold q_M_bytes_47
      rw [nI_1]
      rw [Nat.min_eq_right (by omega)] at e; exact e
theorem lM_bytes {post : Int32 → MT → Prop} (hG : GI cn fl bt er) (h : PM cn fl bt er v) {p : Nat} (hp : p < 192) (h0 : 0 < cn p) {x : Int32} (hx : x = nI p) (hpost : post (nI (lst bt p (cn p))) v) : q_M_bytes x v post := by
  subst hx
  unfold q_M_bytes
  rw [iy60, nI_clamp (by omega)]
  refine ⟨pk_in (6 * p) 1152 (by omega), cn p - 1 + 1, ?_⟩
  have e := lM_bytes_l hG h hp hpost (cn p - 1) 1 (by omega) (by omega)
  have e2 := (h.2.2 p 0 hp h0).1
  rw [Nat.add_zero] at e2
  rw [e2]
  exact e
theorem lM_sumOf_l {post : Int64 → MT → Prop} (hG : GI cn fl bt er) (h : PM cn fl bt er v) (hp : m_pictures v = nI P) (hP : P ≤ 24) {c : Nat} (hc : c < 8) (hpost : post (lN (smN cn bt c P)) v) : ∀ m k, k + m = P → q_M_sumOf_5N (m + 1) (nI c) (lN (smN cn bt c k)) (nI k) v post := by
  intro m
  induction m with
  | zero =>
    intro k hk
    show q_M_sumOf_5 _ _ _ _ _ _
    unfold q_M_sumOf_5
    refine pk_le P k (fun _ => ?_) (fun h => absurd h (by omega)) hp
    rw [show k = P by omega]; exact hpost
  | succ m ih =>
    intro k hk
    show q_M_sumOf_5 _ _ _ _ _ _
    unfold q_M_sumOf_5
    refine pk_le P k (fun h => absurd h (by omega)) (fun hlt => ?_) hp
    have e := ih (k + 1) (by omega)
    simp only [smN] at e
    have h6 := hG.cn6 (p := 24 * c + k) (by omega)
    have hb := hG.lb (p := 24 * c + k) (by omega)
    rw [iy24, nI_clamp (by omega), h.1 _ (by omega)]
    refine ⟨pk_in (24 * c + k) 192 (by omega), ?_⟩
    refine pk_le (cn (24 * c + k)) 0 (fun h0 => ?_) (fun h0 => ?_)
    · rw [if_neg (by omega)] at e
      unfold q_M_sumOf_46
      rw [nI_1, show lN (smN cn bt c k) + 0 = lN (smN cn bt c k + 0) from lN_add _ 0]; exact e
    · rw [if_pos h0] at e
      refine lM_bytes hG h (p := 24 * c + k) (by omega) h0 rfl ?_
      unfold q_M_sumOf_46
      rw [nI_1, nI_toInt64 (by omega), lN_add]; exact e
theorem lM_sumOf {post : Int64 → MT → Prop} (hG : GI cn fl bt er) (h : PM cn fl bt er v) (hp : m_pictures v = nI P) (hP : P ≤ 24) {c : Nat} (hc : c < 8) (hpost : post (lN (smN cn bt c P)) v) : q_M_sumOf (nI c) v post :=
  ⟨_, lM_sumOf_l hG h hp hP hc hpost P 0 (by omega)⟩
end PUA
