/-! ===== the pure part, 14: hulls in class and reference ===== -/
theorem l_le0 {a b : Nat} (ha : a < 2 ^ 62) (hb : b < 2 ^ 62) : (lg_cmp (lN a - lN b) 0 ≤ 0) ↔ a ≤ b := by
  rw [lg_cmp_le, Int64.le_iff_toInt_le, lsub_toInt ha hb, show (0 : Int64).toInt = 0 from rfl]
  omega
def eS (p : Nat) : Option Nat → Int32
  | none => -1
  | some k => nI (6 * p + k)
def HX (u : CT) (p n : Nat) (B E : Nat → Nat) : Prop := p < 192 ∧ n ≤ 6 ∧ (∀ k, k ≤ 6 → (nI (6 * p) + x_pointCounts u p ≤ nI (6 * p + k) ↔ n ≤ k)) ∧ ∀ k, k < n → x_pointBytes u (6 * p + k) = nI (B k) ∧ x_pointErrors u (6 * p + k) = nI (E k) ∧ B k ≤ 1000000000 ∧ E k ≤ 1000000000
def HM (v : MT) (p n : Nat) (B E : Nat → Nat) : Prop := p < 192 ∧ n ≤ 6 ∧ m_count v p = nI n ∧ ∀ k, k < n → m_bytesOf v (6 * p + k) = nI (B k) ∧ m_errorOf v (6 * p + k) = nI (E k) ∧ B k ≤ 1000000000 ∧ E k ≤ 1000000000
def clN (B : Nat → Nat) (x : Nat) : Nat → Nat
  | 0 => 0
  | k + 1 => clN B x k + (if B k ≤ x then 1 else 0)
theorem cl_le (B : Nat → Nat) (x : Nat) : ∀ k, clN B x k ≤ k
  | 0 => Nat.le_refl _
  | k + 1 => by
    have := cl_le B x k
    simp only [clN]
    split <;> omega
theorem cl_mono {B : Nat → Nat} {x y : Nat} (h : x ≤ y) : ∀ k, clN B x k ≤ clN B y k
  | 0 => Nat.le_refl _
  | k + 1 => by
    have := cl_mono (B := B) h k
    simp only [clN]
    by_cases h1 : B k ≤ x
    · rw [if_pos h1, if_pos (by omega)]; omega
    · rw [if_neg h1]; split <;> omega
theorem cl_lt {B : Nat → Nat} {x t : Nat} (h : x < B t) : ∀ n, t < n → clN B x n < clN B (B t) n
  | n + 1, ht => by
    simp only [clN]
    by_cases e : t = n
    · subst e
      have := cl_mono (B := B) (Nat.le_of_lt h) t
      rw [if_neg (by omega), if_pos (Nat.le_refl _)]; omega
    · have := cl_lt (B := B) h n (by omega)
      by_cases h1 : B n ≤ x
      · rw [if_pos h1, if_pos (by omega)]; omega
      · rw [if_neg h1]; split <;> omega
theorem cl_pos {B : Nat → Nat} {t : Nat} : ∀ n, t < n → 0 < clN B (B t) n
  | n + 1, ht => by
    simp only [clN]
    by_cases e : t = n
    · subst e
      rw [if_pos (Nat.le_refl _)]; omega
    · have := cl_pos (B := B) (t := t) n (by omega)
      omega
/-- points laid on a hull, one after the other -/
def hul (nx : Nat → Option Nat) : Nat → Nat → (Nat → Nat) → Option Nat → Nat × (Nat → Nat)
  | _, h, hs, none => (h, hs)
  | 0, h, hs, some _ => (h, hs)
  | f + 1, h, hs, some s => hul nx f (h + 1) (upN hs h s) (nx s)
section PVC
variable {u : CT} {v : MT} {p n : Nat} {B E : Nat → Nat}
abbrev Good (B E : Nat → Nat) (n h : Nat) (hs : Nat → Nat) : Prop := h ≤ 6 ∧ (∀ j, j < h → hs j < n) ∧ ∀ j, j + 1 < h → cand B E (hs j) (hs (j + 1)) = true
abbrev GoodR (B E : Nat → Nat) (n h : Nat) (hs : Nat → Nat) (r : Option Nat) : Prop := ∀ s, r = some s → s < n ∧ bst B E n s = true ∧ h < clN B (B s) n ∧ ∀ j, j + 1 = h → cand B E (hs j) s = true
theorem good_st {h s : Nat} {hs : Nat → Nat} (h5 : h < 6) (hg : Good B E n h hs) (hr : GoodR B E n h hs (some s)) : Good B E n (h + 1) (upN hs h s) ∧ GoodR B E n (h + 1) (upN hs h s) (nxt B E n s) := by
  obtain ⟨hs1, hs2, hs3, hs4⟩ := hr s rfl
  refine ⟨⟨by omega, fun j hj => ?_, fun j hj => ?_⟩, fun t ht => ?_⟩
  · by_cases e : j = h
    · subst e; rw [upN_s]; exact hs1
    · rw [upN_n e]; exact hg.2.1 j (by omega)
  · by_cases e : j + 1 = h
    · rw [e, upN_s, upN_n (by omega)]; exact hs4 j e
    · rw [upN_n e, upN_n (by omega)]; exact hg.2.2 j (by omega)
  · have hin := scIn n t ht
    have hc := dec_t hin.2
    refine ⟨hin.1, nxt_best hs1 hs2 ht, ?_, fun j hj => ?_⟩
    · have := cl_lt (B := B) hc.1 n hin.1
      omega
    · have : j = h := by omega
      subst this; rw [upN_s]; exact hin.2
theorem hul_good : ∀ f h (hs : Nat → Nat) r, h + f = 6 → Good B E n h hs → GoodR B E n h hs r → Good B E n (hul (nxt B E n) f h hs r).1 (hul (nxt B E n) f h hs r).2 := by
  intro f
  induction f with
  | zero =>
    intro h hs r _ hg _
    cases r <;> exact hg
  | succ f ih =>
    intro h hs r hf hg hr
    cases r with
    | none => exact hg
    | some s =>
      have := good_st (by omega) hg hr
      exact ih (h + 1) (upN hs h s) (nxt B E n s) (by omega) this.1 this.2
/-! the class -/
theorem lX_before {post : Int32 → CT → Prop} {k s : Nat} (H : HX u p n B E) (hk : k < n) (hs : s < n) (hpost : post (if lex B E k s = true then 1 else 0) u) : q_X_isBefore (nI (6 * p + k)) (nI (6 * p + s)) u post := by
  obtain ⟨hp, hn, -, hb⟩ := H
  have a := hb k hk
  have b := hb s hs
  have i1 : vp_in (nI (6 * p + k)) 1152 := pk_in (6 * p + k) 1152 (by omega)
  have i2 : vp_in (nI (6 * p + s)) 1152 := pk_in (6 * p + s) 1152 (by omega)
  unfold q_X_isBefore
  rw [nI_clamp (by omega), nI_clamp (by omega), a.1, a.2.1, b.1, b.2.1]
  refine ⟨i1, i2, pk_eq (B k) (B s) (fun h1 => ⟨i1, i2, pk_le (E s) (E k) (fun h2 => ⟨nb0, ?_⟩) (fun h2 => ⟨nb1, ?_⟩)⟩) (fun h1 => ⟨i1, i2, pk_le (B s) (B k) (fun h2 => ⟨nb0, ?_⟩) (fun h2 => ⟨nb1, ?_⟩)⟩)⟩
  · rw [if_neg (show ¬ lex B E k s = true from fun z => by have := dec_t z; omega)] at hpost; exact hpost
  · rw [if_pos (show lex B E k s = true from decide_eq_true (by omega))] at hpost; exact hpost
  · rw [if_neg (show ¬ lex B E k s = true from fun z => by have := dec_t z; omega)] at hpost; exact hpost
  · rw [if_pos (show lex B E k s = true from decide_eq_true (by omega))] at hpost; exact hpost
theorem lX_first_l {post : Int32 → CT → Prop} (H : HX u p n B E) (hpost : post (eS p (fst0 B E n)) u) : ∀ m k, k + m = n → q_X_firstOfRow_10N (m + 1) (nI p) (eS p (scn (fun _ => true) (lex B E) k)) (nI (6 * p)) (nI (6 * p + k)) u post := by
  obtain ⟨hp, hn, hc, hb⟩ := id H
  intro m
  induction m with
  | zero =>
    intro k hk
    have : k = n := by omega
    subst this
    rw [q_X_firstOfRow_10N]
    unfold q_X_firstOfRow_10
    dsimp only
    rw [nI_clamp (by omega), hc k hn]
    exact ⟨pk_in p 192 hp, br_t (Nat.le_refl _) hpost⟩
  | succ m ih =>
    intro k hk
    have e := ih (k + 1) (by omega)
    rw [q_X_firstOfRow_10N]
    unfold q_X_firstOfRow_10 q_X_firstOfRow_38 q_X_firstOfRow_41
    dsimp only
    rw [nI_clamp (by omega), hc k (by omega), nI_1]
    refine ⟨pk_in p 192 hp, br_f (by omega) ?_⟩
    cases hs : scn (fun _ => true) (lex B E) k with
    | none =>
      rw [sc0 rfl hs] at e
      exact br_t rfl e
    | some s =>
      have hin := scIn k s hs
      refine br_f (nI_m1 (by omega)) (lX_before H (by omega) (by omega) ?_)
      cases hbe : lex B E k s with
      | true =>
        rw [scY rfl hs hbe] at e
        exact br_f (by decide) e
      | false =>
        rw [scZ rfl hs hbe] at e
        exact br_t rfl e
theorem lX_first {post : Int32 → CT → Prop} (H : HX u p n B E) (hpost : post (eS p (fst0 B E n)) u) : q_X_firstOfRow (nI p) u post := by
  unfold q_X_firstOfRow
  rw [ix60]
  exact ⟨_, lX_first_l H hpost n 0 (by omega)⟩
theorem lX_growth {post : Int64 → CT → Prop} {k l : Nat} (H : HX u p n B E) (hk : k < n) (hl : l < n) (hpost : post (lN (B k) - lN (B l)) u) : q_X_growthTo (nI (6 * p + l)) (nI (6 * p + k)) u post := by
  obtain ⟨hp, hn, -, hb⟩ := H
  have a := hb k hk
  have b := hb l hl
  unfold q_X_growthTo
  rw [nI_clamp (by omega), nI_clamp (by omega), a.1, b.1, nI_toInt64 (by omega), nI_toInt64 (by omega)]
  exact ⟨pk_in (6 * p + k) 1152 (by omega), pk_in (6 * p + l) 1152 (by omega), hpost⟩
theorem lX_fall {post : Int64 → CT → Prop} {k l : Nat} (H : HX u p n B E) (hk : k < n) (hl : l < n) (hpost : post (lN (E l) - lN (E k)) u) : q_X_fallTo (nI (6 * p + l)) (nI (6 * p + k)) u post := by
  obtain ⟨hp, hn, -, hb⟩ := H
  have a := hb k hk
  have b := hb l hl
  unfold q_X_fallTo
  rw [nI_clamp (by omega), nI_clamp (by omega), a.2.1, b.2.1, nI_toInt64 (by omega), nI_toInt64 (by omega)]
  exact ⟨pk_in (6 * p + l) 1152 (by omega), pk_in (6 * p + k) 1152 (by omega), hpost⟩
theorem pr_lt {a b c d : Nat} (ha : a ≤ 1000000000) (hc : c ≤ 1000000000) : (a - b) * (c - d) < 2 ^ 63 := by
  have : (a - b) * (c - d) ≤ 1000000000 * 1000000000 := Nat.mul_le_mul (by omega) (by omega)
  omega
theorem lX_better {post : Int32 → CT → Prop} {k s l : Nat} (H : HX u p n B E) (hk : k < n) (hs : s < n) (hl : l < n) (ck : cand B E l k = true) (cs : cand B E l s = true) (hpost : post (if stp B E l k s = true then 1 else 0) u) : q_X_isBetterStep (nI (6 * p + l)) (nI (6 * p + k)) (nI (6 * p + s)) u post := by
  have a := H.2.2.2 k hk
  have b := H.2.2.2 s hs
  have c := H.2.2.2 l hl
  have ck := dec_t ck
  have cs := dec_t cs
  unfold q_X_isBetterStep
  refine lX_growth H hk hl (lX_growth H hs hl (lX_fall H hk hl (lX_fall H hs hl ?_)))
  rw [lN_sub (by omega), lN_sub (by omega), lN_sub (by omega), lN_sub (by omega), lN_mul, lN_mul]
  have p1 : (E l - E k) * (B s - B l) < 2 ^ 63 := pr_lt c.2.2.2 b.2.2.1
  have p2 : (E l - E s) * (B k - B l) < 2 ^ 63 := pr_lt c.2.2.2 a.2.2.1
  have g1 : B k - B l < 2 ^ 63 := by omega
  have g2 : B s - B l < 2 ^ 63 := by omega
  unfold stp at hpost
  generalize (E l - E k) * (B s - B l) = x at *
  generalize (E l - E s) * (B k - B l) = y at *
  generalize B k - B l = gk at *
  generalize B s - B l = gs at *
  unfold q_J_compare
  rw [lgc_ge p1 p2, lgc_eq p1 p2, lgc_le g1 g2]
  refine ⟨fun hge => ⟨fun hne => ?_, fun heq => ?_⟩, fun hlt => ?_⟩
  · rw [if_pos (decide_eq_true (by omega))] at hpost
    exact br_t (by decide) ⟨nb1, hpost⟩
  · refine br_f (by decide) (br_y rfl ⟨fun hle => ⟨nb0, ?_⟩, fun hgt => ⟨nb1, ?_⟩⟩)
    · rw [if_neg (fun z => by have := dec_t z; omega)] at hpost; exact hpost
    · rw [if_pos (decide_eq_true (by omega))] at hpost; exact hpost
  · rw [if_neg (fun z => by have := dec_t z; omega)] at hpost
    exact br_f (by decide) (br_z (by decide) ⟨nb0, hpost⟩)
theorem lX_steep_l {post : Int32 → CT → Prop} {l : Nat} (H : HX u p n B E) (hl : l < n) (hpost : post (eS p (nxt B E n l)) u) : ∀ m k, k + m = n → q_X_steepestFrom_12N (m + 1) (nI p) (nI (6 * p + l)) (eS p (scn (cand B E l) (stp B E l) k)) (nI (6 * p)) (nI (6 * p + k)) u post := by
  obtain ⟨hp, hn, hc, hb⟩ := id H
  intro m
  induction m with
  | zero =>
    intro k hk
    have : k = n := by omega
    subst this
    rw [q_X_steepestFrom_12N]
    unfold q_X_steepestFrom_12
    dsimp only
    rw [nI_clamp (by omega), hc k hn]
    exact ⟨pk_in p 192 hp, br_t (Nat.le_refl _) hpost⟩
  | succ m ih =>
    intro k hk
    have e := ih (k + 1) (by omega)
    have a := hb k (by omega)
    have c := hb l hl
    rw [q_X_steepestFrom_12N]
    unfold q_X_steepestFrom_12 q_X_steepestFrom_66 q_X_steepestFrom_69
    dsimp only
    rw [nI_clamp (by omega), hc k (by omega), nI_1]
    refine ⟨pk_in p 192 hp, br_f (by omega) (lX_growth H (by omega) hl ?_)⟩
    rw [l_le0 (by omega) (by omega)]
    refine br_c (fun h1 => ?_) (fun h1 => lX_fall H (by omega) hl ?_)
    · have hq : cand B E l k = false := decide_eq_false (by omega)
      rw [scN hq] at e; exact e
    rw [l_le0 (by omega) (by omega)]
    refine br_c (fun h2 => ?_) (fun h2 => ?_)
    · have hq : cand B E l k = false := decide_eq_false (by omega)
      rw [scN hq] at e; exact e
    have hq : cand B E l k = true := decide_eq_true (by omega)
    cases hs : scn (cand B E l) (stp B E l) k with
    | none =>
      rw [sc0 hq hs] at e
      exact br_t rfl e
    | some s =>
      have hin := scIn k s hs
      refine br_f (nI_m1 (by omega)) (lX_better H (by omega) (by omega) hl hq hin.2 ?_)
      cases hbe : stp B E l k s with
      | true =>
        rw [scY hq hs hbe] at e
        exact br_f (by decide) e
      | false =>
        rw [scZ hq hs hbe] at e
        exact br_t rfl e
theorem lX_steep {post : Int32 → CT → Prop} {l : Nat} (H : HX u p n B E) (hl : l < n) (hpost : post (eS p (nxt B E n l)) u) : q_X_steepestFrom (nI p) (nI (6 * p + l)) u post := by
  unfold q_X_steepestFrom
  rw [ix60]
  exact ⟨_, lX_steep_l H hl hpost n 0 (by omega)⟩
theorem HX_h (H : HX u p n B E) (g : Nat → Int32) (y : Int32) : HX (x_hullSize_s (x_hullSlots_s u g) y) p n B E := H
theorem HM_h (H : HM v p n B E) (g : Nat → Int32) (y : Int32) : HM (m_hullSize_s (m_hull_s v g) y) p n B E := H
theorem lay_g {K : Int32 → Int32 → CT → Prop} {post : CT → Prop} {g : Nat → Int32} {x w y : Int32} (h1 : ¬ (6 : Int32) ≤ y) (h2 : ¬ w = -1) (h3 : vp_in y 6) (e : q_X_steepestFrom x w (x_hullSize_s (x_hullSlots_s u (upd g y.toNatClampNeg w)) (y + 1)) (fun r1 u2 => K x r1 u2)) : q_X_layHull_11 K x w (x_hullSize_s (x_hullSlots_s u g) y) post :=
  ⟨fun z => absurd z h1, fun _ => ⟨fun z => absurd z h2, fun _ => ⟨h3, e⟩⟩⟩
theorem lay_n {K : Int32 → Int32 → CT → Prop} {post : CT → Prop} {x : Int32} (h : post u) : q_X_layHull_11 K x (-1) u post :=
  ⟨fun _ => h, fun _ => ⟨fun _ => h, fun z => absurd rfl z⟩⟩
theorem lay_6 {K : Int32 → Int32 → CT → Prop} {post : CT → Prop} {g : Nat → Int32} {x w y : Int32} (h1 : (6 : Int32) ≤ y) (h : post (x_hullSize_s (x_hullSlots_s u g) y)) : q_X_layHull_11 K x w (x_hullSize_s (x_hullSlots_s u g) y) post :=
  ⟨fun _ => h, fun z => absurd h1 z⟩
theorem fh_g {K : Int32 → Int32 → MT → Prop} {post : MT → Prop} {g : Nat → Int32} {x w y : Int32} (h2 : ¬ w = -1) (h3 : vp_in y 6) (e : ∃ n, q_M_findHull_97N K n x w (-1) (6 * x) (m_hullSize_s (m_hull_s v (upd g y.toNatClampNeg w)) (y + 1)) post) : q_M_findHull_64 K x w (m_hullSize_s (m_hull_s v g) y) post :=
  ⟨fun z => absurd z h2, fun _ => ⟨h3, e⟩⟩
theorem fh_n {K : Int32 → Int32 → MT → Prop} {post : MT → Prop} {x : Int32} (h : post v) : q_M_findHull_64 K x (-1) v post :=
  ⟨fun _ => h, fun z => absurd rfl z⟩
theorem lX_hull_l {post : CT → Prop} (H : HX u p n B E) : ∀ f h (hs : Nat → Nat) r (g : Nat → Int32), h + f = 6 → (∀ s, r = some s → s < n) → (∀ j, j < h → g j = nI (6 * p + hs j)) → (∀ g' : Nat → Int32, (∀ j, j < (hul (nxt B E n) f h hs r).1 → g' j = nI (6 * p + (hul (nxt B E n) f h hs r).2 j)) → post (x_hullSize_s (x_hullSlots_s u g') (nI (hul (nxt B E n) f h hs r).1))) → q_X_layHull_11N (f + 1) (nI p) (eS p r) (x_hullSize_s (x_hullSlots_s u g) (nI h)) post := by
  have hp := H.1
  have hn := H.2.1
  intro f
  induction f with
  | zero =>
    intro h hs r g hf hr hg hpost
    rw [q_X_layHull_11N]
    dsimp only
    cases r <;> exact lay_6 (nI_le (a := 6) (by omega) (by omega)) (hpost g hg)
  | succ f ih =>
    intro h hs r g hf hr hg hpost
    rw [q_X_layHull_11N]
    dsimp only
    cases r with
    | none => exact lay_n (hpost g hg)
    | some s =>
      have hsn := hr s rfl
      have key := ih (h + 1) (upN hs h s) (nxt B E n s) (upd g h (nI (6 * p + s))) (by omega) (fun t ht => (scIn n t ht).1) (fun j hj => by
        by_cases e : j = h
        · subst e; rw [pk_us, upN_s]
        · rw [pk_un e, upN_n e]; exact hg j (by omega)) hpost
      refine lay_g (nI_ge (b := 6) (by omega) (by omega)) (nI_m1 (n := 6 * p + s) (by omega)) (pk_in h 6 (by omega)) ?_
      rw [nI_clamp (by omega), nI_1]
      exact lX_steep (u := x_hullSize_s (x_hullSlots_s u (upd g h (nI (6 * p + s)))) (nI (h + 1))) (HX_h H _ _) hsn key
abbrev hulF (B E : Nat → Nat) (n : Nat) : Nat × (Nat → Nat) := hul (nxt B E n) 6 0 (fun _ => 0) (fst0 B E n)
theorem lX_hull {post : CT → Prop} (H : HX u p n B E) (hpost : ∀ g : Nat → Int32, (∀ j, j < (hulF B E n).1 → g j = nI (6 * p + (hulF B E n).2 j)) → post (x_hullSize_s (x_hullSlots_s u g) (nI (hulF B E n).1))) : q_X_layHull (nI p) u post := by
  unfold q_X_layHull
  refine lX_first (u := x_hullSize_s u 0) H ⟨_, lX_hull_l H 6 0 (fun _ => 0) (fst0 B E n) (x_hullSlots u) (by omega) (fun s h => (scIn n s h).1) (fun j hj => absurd hj (Nat.not_lt_zero j)) hpost⟩
/-! the reference -/
theorem lM_isBest_l {post : Int32 → MT → Prop} {k : Nat} (H : HM v p n B E) (hk : k < n) (hpost : post (if bst B E n k = true then 1 else 0) v) : ∀ m j, j + m = n → q_M_isBest_8N (m + 1) (nI p) (nI (6 * p + k)) (if bsN B E k j = true then 1 else 0) (nI (6 * p + j)) v post := by
  obtain ⟨hp, hn, hc, hb⟩ := id H
  intro m
  induction m with
  | zero =>
    intro j hj
    have : j = n := by omega
    subst this
    rw [q_M_isBest_8N]
    unfold q_M_isBest_8
    dsimp only
    rw [nI_clamp (by omega), hc, iy6]
    refine ⟨pk_in p 192 hp, br_t (nI_le (Nat.le_refl _) (by omega)) ⟨?_, hpost⟩⟩
    split
    · exact nb1
    · exact nb0
  | succ m ih =>
    intro j hj
    have e := ih (j + 1) (by omega)
    have a := hb k hk
    have b := hb j (by omega)
    have i1 : vp_in (nI (6 * p + k)) 1152 := pk_in (6 * p + k) 1152 (by omega)
    have i2 : vp_in (nI (6 * p + j)) 1152 := pk_in (6 * p + j) 1152 (by omega)
    rw [q_M_isBest_8N]
    unfold q_M_isBest_8 q_M_isBest_60 q_M_isBest_61 q_M_isBest_113 q_M_isBest_117 q_M_isBest_118
    dsimp only
    rw [nI_clamp (by omega), nI_clamp (by omega), nI_clamp (by omega), hc, iy6, a.1, a.2.1, b.1, b.2.1, nI_1]
    rw [Nat.add_assoc]
    have bs1 : bsN B E k (j + 1) = (bsN B E k j && okj B E j k) := rfl
    have one : okj B E j k = true → bsN B E k j = true → q_M_isBest_8N (m + 1) (nI p) (nI (6 * p + k)) 1 (nI (6 * p + (j + 1))) v post := by
      intro h1 h2
      rw [if_pos (show bsN B E k (j + 1) = true by rw [bs1, h1, h2]; rfl)] at e
      exact e
    have zero : okj B E j k = false ∨ bsN B E k j = false → q_M_isBest_8N (m + 1) (nI p) (nI (6 * p + k)) 0 (nI (6 * p + (j + 1))) v post := by
      intro h1
      rw [if_neg (show ¬ bsN B E k (j + 1) = true by rw [bs1]; rcases h1 with h1 | h1 <;> simp [h1])] at e
      exact e
    refine ⟨pk_in p 192 hp, br_f (nI_ge (by omega) (by omega)) ⟨i2, i1, ?_⟩⟩
    have x3 : ∀ {A D : Prop}, (bsN B E k j = false → A) → (bsN B E k j = true → D) → (((if bsN B E k j = true then 1 else 0 : Int32) = 0 → A) ∧ (¬ (if bsN B E k j = true then 1 else 0 : Int32) = 0 → D)) := by
      intro A D hA hD
      cases hbs : bsN B E k j with
      | false => exact br_t rfl (hA hbs)
      | true => exact br_f (by decide) (hD hbs)
    refine pk_ne (B j) (B k) (fun h1 => ?_) (fun h1 => ⟨i2, i1, ?_⟩)
    · refine x3 (fun hf => zero (Or.inr hf)) (fun ht => br_t rfl ⟨i2, i1, pk_lt (B k) (B j) (fun h2 => ?_) (fun h2 => ⟨i2, i1, pk_le (E j) (E k) (fun h3 => ?_) (fun h3 => ?_)⟩)⟩)
      · exact one (ok_iff.mpr (by omega)) ht
      · exact zero (Or.inl (by cases ho : okj B E j k with
          | false => rfl
          | true => have := ok_iff.mp ho; omega))
      · exact one (ok_iff.mpr (by omega)) ht
    · refine pk_ne (E j) (E k) (fun h2 => ?_) (fun h2 => ?_)
      · refine x3 (fun hf => zero (Or.inr hf)) (fun ht => br_t rfl ⟨i2, i1, pk_lt (B k) (B j) (fun h3 => ?_) (fun h3 => ⟨i2, i1, pk_le (E j) (E k) (fun h4 => ?_) (fun h4 => ?_)⟩)⟩)
        · exact one (ok_iff.mpr (by omega)) ht
        · exact zero (Or.inl (by cases ho : okj B E j k with
            | false => rfl
            | true => have := ok_iff.mp ho; omega))
        · exact one (ok_iff.mpr (by omega)) ht
      · refine x3 (fun hf => zero (Or.inr hf)) (fun ht => br_f (by decide) (pk_lt (6 * p + j) (6 * p + k) (fun h3 => ?_) (fun h3 => ?_)))
        · exact zero (Or.inl (by cases ho : okj B E j k with
            | false => rfl
            | true => have := ok_iff.mp ho; omega))
        · exact one (ok_iff.mpr (by omega)) ht
theorem lM_isBest {post : Int32 → MT → Prop} {k : Nat} (H : HM v p n B E) (hk : k < n) (hpost : post (if bst B E n k = true then 1 else 0) v) : q_M_isBest (nI p) (nI (6 * p + k)) v post := by
  unfold q_M_isBest
  rw [iy60]
  exact ⟨_, lM_isBest_l H hk hpost n 0 (by omega)⟩
theorem lM_steeper {post : Int32 → MT → Prop} {k s l : Nat} (H : HM v p n B E) (hk : k < n) (hs : s < n) (hl : l < n) (ck : cand B E l k = true) (cs : cand B E l s = true) (hpost : post (if stp B E l k s = true then 1 else 0) v) : q_M_isSteeper (nI (6 * p + l)) (nI (6 * p + k)) (nI (6 * p + s)) v post := by
  have hp := H.1
  have hn := H.2.1
  have a := H.2.2.2 k hk
  have b := H.2.2.2 s hs
  have c := H.2.2.2 l hl
  have ck := dec_t ck
  have cs := dec_t cs
  have i1 : vp_in (nI (6 * p + k)) 1152 := pk_in (6 * p + k) 1152 (by omega)
  have i2 : vp_in (nI (6 * p + s)) 1152 := pk_in (6 * p + s) 1152 (by omega)
  have i3 : vp_in (nI (6 * p + l)) 1152 := pk_in (6 * p + l) 1152 (by omega)
  unfold q_M_isSteeper
  rw [nI_clamp (n := 6 * p + k) (by omega), nI_clamp (n := 6 * p + s) (by omega), nI_clamp (n := 6 * p + l) (by omega), a.1, a.2.1, b.1, b.2.1, c.1, c.2.1]
  rw [pk_sub (a := E l) (b := E k) (by omega), pk_sub (a := E l) (b := E s) (by omega), pk_sub (a := B k) (b := B l) (by omega), pk_sub (a := B s) (b := B l) (by omega)]
  rw [nI_toInt64 (n := E l - E k) (by omega), nI_toInt64 (n := E l - E s) (by omega), nI_toInt64 (n := B k - B l) (by omega), nI_toInt64 (n := B s - B l) (by omega), lN_mul, lN_mul]
  have p1 : (E l - E k) * (B s - B l) < 2 ^ 63 := pr_lt c.2.2.2 b.2.2.1
  have p2 : (E l - E s) * (B k - B l) < 2 ^ 63 := pr_lt c.2.2.2 a.2.2.1
  refine ⟨i3, i1, i2, i3, i3, i2, i1, i3, ?_⟩
  rw [lgc_gt p1 p2, lgc_eq p1 p2]
  unfold stp at hpost
  have g1 : B s - B l < B k - B l ↔ B s < B k := by omega
  generalize hgk : B k - B l = gk at *
  generalize hgs : B s - B l = gs at *
  generalize (E l - E k) * gs = x at *
  generalize (E l - E s) * gk = y at *
  refine ⟨fun h1 => ⟨nb1, ?_⟩, fun h1 => ⟨fun h2 => ⟨nb0, ?_⟩, fun h2 => ⟨i1, i2, pk_le (B k) (B s) (fun h3 => ⟨nb0, ?_⟩) (fun h3 => ⟨nb1, ?_⟩)⟩⟩⟩
  · rw [if_pos (decide_eq_true (by omega))] at hpost; exact hpost
  · rw [if_neg (fun z => by have := dec_t z; omega)] at hpost; exact hpost
  · rw [if_neg (fun z => by have := dec_t z; omega)] at hpost; exact hpost
  · rw [if_pos (decide_eq_true (by omega))] at hpost; exact hpost
theorem lM_steep_l {K : Int32 → Int32 → MT → Prop} {post : MT → Prop} {l : Nat} (H : HM v p n B E) (hl : l < n) (hbl : bst B E n l = true) (hpost : K (nI p) (eS p (nxt B E n l)) v) : ∀ m k, k + m = n → q_M_findHull_97N K (m + 1) (nI p) (nI (6 * p + l)) (eS p (scn (can2 B E n l) (stp B E l) k)) (nI (6 * p + k)) v post := by
  obtain ⟨hp, hn, hc, hb⟩ := id H
  have sub : ∀ k, can2 B E n l k = true → cand B E l k = true := by
    intro k h
    have h2 : bst B E n k = true ∧ decide (B l < B k) = true := by
      have := h; unfold can2 at this; rw [Bool.and_eq_true] at this; exact this
    have h3 := dec_t h2.2
    have := ok_iff.mp (bs_all.mp h2.1 l hl)
    exact decide_eq_true (by omega)
  intro m
  induction m with
  | zero =>
    intro k hk
    have : k = n := by omega
    subst this
    rw [q_M_findHull_97N]
    unfold q_M_findHull_97
    dsimp only
    rw [nI_clamp (by omega), hc, iy6, nxt_eq hl hbl]
    exact ⟨pk_in p 192 hp, br_t (nI_le (Nat.le_refl _) (by omega)) hpost⟩
  | succ m ih =>
    intro k hk
    have e := ih (k + 1) (by omega)
    have a := hb k (by omega)
    have c := hb l hl
    rw [q_M_findHull_97N]
    unfold q_M_findHull_97 q_M_findHull_155 q_M_findHull_158
    dsimp only
    rw [nI_clamp (n := p) (by omega), hc, iy6, nI_1, nI_clamp (n := 6 * p + k) (by omega), nI_clamp (n := 6 * p + l) (by omega)]
    refine ⟨pk_in p 192 hp, br_f (nI_ge (by omega) (by omega)) (lM_isBest H (by omega) ?_)⟩
    rw [a.1, c.1]
    cases hbk : bst B E n k with
    | false =>
      have hq : can2 B E n l k = false := by unfold can2; rw [hbk]; rfl
      rw [scN hq] at e
      exact br_t rfl e
    | true =>
      refine br_f (by decide) ⟨pk_in (6 * p + k) 1152 (by omega), pk_in (6 * p + l) 1152 (by omega), pk_le (B k) (B l) (fun h1 => ?_) (fun h1 => ?_)⟩
      · have hq : can2 B E n l k = false := by unfold can2; rw [hbk, decide_eq_false (by omega)]; rfl
        rw [scN hq] at e
        exact e
      · have hq : can2 B E n l k = true := by unfold can2; rw [hbk, decide_eq_true h1]; rfl
        cases hs : scn (can2 B E n l) (stp B E l) k with
        | none =>
          rw [sc0 hq hs] at e
          exact br_t rfl e
        | some s =>
          have hin := scIn k s hs
          refine br_f (nI_m1 (by omega)) (lM_steeper H (by omega) (by omega) hl (sub k hq) (sub s hin.2) ?_)
          cases hbe : stp B E l k s with
          | true =>
            rw [scY hq hs hbe] at e
            exact br_f (by decide) e
          | false =>
            rw [scZ hq hs hbe] at e
            exact br_t rfl e
theorem lM_hull_l {post : MT → Prop} (H : HM v p n B E) : ∀ f h (hs : Nat → Nat) r (g : Nat → Int32), h + f = 6 → Good B E n h hs → GoodR B E n h hs r → (∀ j, j < h → g j = nI (6 * p + hs j)) → (∀ g' : Nat → Int32, (∀ j, j < (hul (nxt B E n) f h hs r).1 → g' j = nI (6 * p + (hul (nxt B E n) f h hs r).2 j)) → post (m_hullSize_s (m_hull_s v g') (nI (hul (nxt B E n) f h hs r).1))) → q_M_findHull_64N (f + 1) (nI p) (eS p r) (m_hullSize_s (m_hull_s v g) (nI h)) post := by
  have hp := H.1
  have hn := H.2.1
  intro f
  induction f with
  | zero =>
    intro h hs r g hf hG hR hg hpost
    cases r with
    | none =>
      rw [q_M_findHull_64N]
      dsimp only
      exact fh_n (hpost g hg)
    | some s =>
      have h1 := (hR s rfl).2.2.1
      have h2 := cl_le B (B s) n
      omega
  | succ f ih =>
    intro h hs r g hf hG hR hg hpost
    rw [q_M_findHull_64N]
    dsimp only
    cases r with
    | none => exact fh_n (hpost g hg)
    | some s =>
      have hsr := hR s rfl
      have gs := good_st (by omega) hG hR
      have key := ih (h + 1) (upN hs h s) (nxt B E n s) (upd g h (nI (6 * p + s))) (by omega) gs.1 gs.2 (fun j hj => by
        by_cases e : j = h
        · subst e; rw [pk_us, upN_s]
        · rw [pk_un e, upN_n e]; exact hg j (by omega)) hpost
      refine fh_g (nI_m1 (n := 6 * p + s) (by omega)) (pk_in h 6 (by omega)) ⟨n + 1, ?_⟩
      rw [nI_clamp (by omega), nI_1, iy60]
      exact lM_steep_l (v := m_hullSize_s (m_hull_s v (upd g h (nI (6 * p + s)))) (nI (h + 1))) (HM_h H _ _) hsr.1 hsr.2.1 key n 0 (by omega)
theorem grd0 : Good B E n 0 (fun _ => 0) ∧ GoodR B E n 0 (fun _ => 0) (fst0 B E n) := by
  refine ⟨⟨by omega, fun j hj => absurd hj (Nat.not_lt_zero j), fun j hj => absurd hj (Nat.not_lt_zero _)⟩, fun s h => ?_⟩
  have hin := scIn n s h
  exact ⟨hin.1, fst_best h, cl_pos n hin.1, fun j hj => absurd hj (by omega)⟩
theorem hulF_good : Good B E n (hulF B E n).1 (hulF B E n).2 := hul_good 6 0 (fun _ => 0) (fst0 B E n) (by omega) grd0.1 grd0.2
theorem lM_fh_l {post : MT → Prop} (H : HM v p n B E) (hpost : ∀ g : Nat → Int32, (∀ j, j < (hulF B E n).1 → g j = nI (6 * p + (hulF B E n).2 j)) → post (m_hullSize_s (m_hull_s v g) (nI (hulF B E n).1))) : ∀ m k, k + m = n → q_M_findHull_12N (m + 1) (nI p) (eS p (scn (bst B E n) (lesB B) k)) (nI (6 * p + k)) (m_hullSize_s v 0) post := by
  obtain ⟨hp, hn, hc, hb⟩ := id H
  intro m
  induction m with
  | zero =>
    intro k hk
    have : k = n := by omega
    subst this
    rw [q_M_findHull_12N]
    unfold q_M_findHull_12
    dsimp only
    rw [nI_clamp (by omega), hc, iy6, fst_eq]
    refine ⟨pk_in p 192 hp, br_t (nI_le (Nat.le_refl _) (by omega)) ⟨_, lM_hull_l H 6 0 (fun _ => 0) (fst0 B E k) (m_hull v) (by omega) grd0.1 grd0.2 (fun j hj => absurd hj (Nat.not_lt_zero j)) hpost⟩⟩
  | succ m ih =>
    intro k hk
    have e := ih (k + 1) (by omega)
    have a := hb k (by omega)
    rw [q_M_findHull_12N]
    unfold q_M_findHull_12 q_M_findHull_56 q_M_findHull_58
    dsimp only
    rw [nI_clamp (n := p) (by omega), hc, iy6, nI_1, nI_clamp (n := 6 * p + k) (by omega)]
    refine ⟨pk_in p 192 hp, br_f (nI_ge (by omega) (by omega)) (lM_isBest (v := m_hullSize_s v 0) H (by omega) ?_)⟩
    have a1 : m_bytesOf (m_hullSize_s v 0) (6 * p + k) = nI (B k) := a.1
    rw [a1]
    cases hbk : bst B E n k with
    | false =>
      rw [scN hbk] at e
      exact br_t rfl e
    | true =>
      refine br_f (by decide) ?_
      cases hs : scn (bst B E n) (lesB B) k with
      | none =>
        rw [sc0 hbk hs] at e
        exact br_t rfl e
      | some s =>
        have hin := scIn k s hs
        have b := hb s (by omega)
        refine br_f (nI_m1 (by omega)) ⟨pk_in (6 * p + k) 1152 (by omega), pk_in (6 * p + s) 1152 (by omega), ?_⟩
        show (m_bytesOf v (nI (6 * p + s)).toNatClampNeg ≤ nI (B k) → _) ∧ (¬ m_bytesOf v (nI (6 * p + s)).toNatClampNeg ≤ nI (B k) → _)
        rw [nI_clamp (by omega), b.1]
        refine pk_le (B s) (B k) (fun h1 => ?_) (fun h1 => ?_)
        · rw [scZ hbk hs (decide_eq_false (by omega))] at e; exact e
        · rw [scY hbk hs (decide_eq_true h1)] at e; exact e
theorem lM_hull {post : MT → Prop} (H : HM v p n B E) (hpost : ∀ g : Nat → Int32, (∀ j, j < (hulF B E n).1 → g j = nI (6 * p + (hulF B E n).2 j)) → post (m_hullSize_s (m_hull_s v g) (nI (hulF B E n).1))) {x : Int32} (hx : x = nI p) : q_M_findHull x v post := by
  subst hx
  unfold q_M_findHull
  rw [iy60]
  exact ⟨_, lM_fh_l H hpost n 0 (by omega)⟩
end PVC
