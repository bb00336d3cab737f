/-! ===== the pure part, 11: fill ===== -/
theorem pt_n {cn : Nat → Nat} {p x : Nat} : ∀ {k : Nat}, k ≤ p → ptN (upN cn p x) k = ptN cn k
  | 0, _ => rfl
  | k + 1, h => by
    simp only [ptN]
    rw [pt_n (k := k) (by omega), upN_n (by omega)]
theorem pt_u {cn : Nat → Nat} {p x : Nat} : ∀ {k : Nat}, p < k → ptN (upN cn p x) k + cn p = ptN cn k + x
  | k + 1, h => by
    simp only [ptN]
    by_cases e : p = k
    · subst e
      rw [pt_n (Nat.le_refl _), upN_s]; omega
    · have := pt_u (cn := cn) (x := x) (k := k) (p := p) (by omega)
      rw [upN_n (by omega)]; omega
abbrev AS : Type := (Nat → Nat) × (Nat → Bool) × (Nat → Nat) × (Nat → Nat) × Nat × (Nat → Nat) × Int64
def IIs (C P T : Nat) (tx : Nat → Nat) (S : AS) : Prop := II C P S.1 S.2.1 S.2.2.1 S.2.2.2.1 S.2.2.2.2.1 S.2.2.2.2.2.1 T tx
def RXs (C P T : Nat) (tx : Nat → Nat) (S : AS) (u : CT) : Prop := RX C P S.1 S.2.1 S.2.2.1 S.2.2.2.1 S.2.2.2.2.1 S.2.2.2.2.2.1 T tx u ∧ x_last u = S.2.2.2.2.2.2
def RMs (C P T : Nat) (tx : Nat → Nat) (S : AS) (v : MT) : Prop := RM C P S.1 S.2.1 S.2.2.1 S.2.2.2.1 S.2.2.2.2.1 S.2.2.2.2.2.1 T tx v ∧ m_state v = S.2.2.2.2.2.2
def aAdd (p b e : Nat) (S : AS) : AS := (upN S.1 p (S.1 p + 1), S.2.1, upN S.2.2.1 (6 * p + S.1 p) b, upN S.2.2.2.1 (6 * p + S.1 p) e, S.2.2.2.2.1, S.2.2.2.2.2.1, S.2.2.2.2.2.2)
def aFail (p : Nat) (S : AS) : AS := (upN S.1 p 0, upB S.2.1 p true, S.2.2.1, S.2.2.2.1, S.2.2.2.2.1 + 1, upN S.2.2.2.2.2.1 S.2.2.2.2.1 p, S.2.2.2.2.2.2)
def aSt (S : AS) (x : Int64) : AS := (S.1, S.2.1, S.2.2.1, S.2.2.2.1, S.2.2.2.2.1, S.2.2.2.2.2.1, x)
abbrev sS (S : AS) : Int64 := S.2.2.2.2.2.2
def aPt (nx : Int64 → Int64) (dr : Int64 → Nat → Nat) (p : Nat) (S : AS) : AS := aAdd p (dr (sS S) 1000 + 1) (dr (nx (sS S)) 1000) (aSt S (nx (nx (sS S))))
def aPts (nx : Int64 → Int64) (dr : Int64 → Nat → Nat) (p : Nat) : Nat → AS → AS
  | 0, S => S
  | n + 1, S => aPts nx dr p n (aPt nx dr p S)
def pnt (nx : Int64 → Int64) (dr : Int64 → Nat → Nat) (S : AS) : Nat := if dr (sS S) 9 = 8 then 0 else dr (nx (sS S)) 7
def aPair (nx : Int64 → Int64) (dr : Int64 → Nat → Nat) (p : Nat) (S : AS) : AS := if dr (sS S) 9 = 8 then aFail p (aSt S (nx (sS S))) else aPts nx dr p (dr (nx (sS S)) 7) (aSt S (nx (nx (sS S))))
def aPic (nx : Int64 → Int64) (dr : Int64 → Nat → Nat) (c : Nat) : Nat → Nat → AS → AS
  | 0, _, S => S
  | m + 1, k, S => aPic nx dr c m (k + 1) (aPair nx dr (24 * c + k) S)
def aCod (nx : Int64 → Int64) (dr : Int64 → Nat → Nat) (P : Nat) : Nat → Nat → AS → AS
  | 0, _, S => S
  | m + 1, c, S => aCod nx dr P m (c + 1) (aPic nx dr c P 0 S)
def fre (n : Nat) (S : AS) : Prop := ∀ q, n ≤ q → q < 192 → S.1 q = 0 ∧ S.2.1 q = false
/-- the class's and the reference's numbers -/
abbrev HB (nx : Int64 → Int64) (dr : Int64 → Nat → Nat) : Prop := ∀ (u : CT) (post : Int32 → CT → Prop) (b : Nat) (x : Int32), 0 < b → b < 2 ^ 31 → x = nI b → post (nI (dr (x_last u) b)) (x_last_s u (nx (x_last u))) → q_N_below x u post
abbrev HD (nx : Int64 → Int64) (dr : Int64 → Nat → Nat) : Prop := ∀ (v : MT) (post : Int32 → MT → Prop) (b : Nat) (x : Int32), 0 < b → b < 2 ^ 31 → x = nI b → post (nI (dr (m_state v) b)) (m_state_s v (nx (m_state v))) → q_M_draw x v post
abbrev HL (dr : Int64 → Nat → Nat) : Prop := ∀ (s : Int64) (b : Nat), 0 < b → dr s b < b
theorem hB0 : HB nxL drw := fun u post b x h0 hb hx h => lX_below (u := u) (post := post) (b := b) (x := x) h0 hb hx h
theorem hD0 : HD nxL drw := fun v post b x h0 hb hx h => lM_draw (v := v) (post := post) (b := b) (x := x) h0 hb hx h
theorem hL0 : HL drw := fun s _ h => drw_lt s h
section PUT
variable {C P T p c : Nat} {tx : Nat → Nat} {S : AS} {u : CT} {v : MT} {nx : Int64 → Int64} {dr : Int64 → Nat → Nat}
theorem IIs_st (h : IIs C P T tx S) (x : Int64) : IIs C P T tx (aSt S x) := h
theorem RXs_st (h : RXs C P T tx S u) (x : Int64) : RXs C P T tx (aSt S x) (x_last_s u x) := ⟨h.1, rfl⟩
theorem RMs_st (h : RMs C P T tx S v) (x : Int64) : RMs C P T tx (aSt S x) (m_state_s v x) := ⟨h.1, rfl⟩
theorem IIs_pt (hL : HL dr) (h : IIs C P T tx S) (hp : p < 192) (hf : S.2.1 p = false) (hn : S.1 p < 6) : IIs C P T tx (aPt nx dr p S) := by
  have h1 := hL (sS S) 1000 (by omega)
  have h2 := hL (nx (sS S)) 1000 (by omega)
  exact II_add h hp hf hn (by omega) (by omega) (by omega)
theorem pts_ok (hL : HL dr) (hp : p < 192) : ∀ n (S : AS), IIs C P T tx S → S.2.1 p = false → S.1 p + n ≤ 6 → IIs C P T tx (aPts nx dr p n S) ∧ (∀ q, q ≠ p → (aPts nx dr p n S).1 q = S.1 q ∧ (aPts nx dr p n S).2.1 q = S.2.1 q) ∧ ptN (aPts nx dr p n S).1 192 = ptN S.1 192 + n := by
  intro n
  induction n with
  | zero => intro S h _ _; rw [aPts]; exact ⟨h, fun q _ => ⟨rfl, rfl⟩, (Nat.add_zero _).symm⟩
  | succ n ih =>
    intro S h hf hn
    have e : (aPt nx dr p S).1 = upN S.1 p (S.1 p + 1) := rfl
    have e2 : (aPt nx dr p S).2.1 = S.2.1 := rfl
    have := ih (aPt nx dr p S) (IIs_pt hL h hp hf (by omega)) hf (by rw [e, upN_s]; omega)
    rw [aPts]
    refine ⟨this.1, fun q hq => ?_, ?_⟩
    · have h2 := this.2.1 q hq
      rw [e, e2, upN_n hq] at h2
      exact h2
    · have h2 := this.2.2
      have h3 := pt_u (cn := S.1) (x := S.1 p + 1) hp
      rw [e] at h2
      omega
theorem pair_ok (hL : HL dr) (hp : p < 192) (h : IIs C P T tx S) (hf : S.2.1 p = false) (h0 : S.1 p = 0) : IIs C P T tx (aPair nx dr p S) ∧ (∀ q, q ≠ p → (aPair nx dr p S).1 q = S.1 q ∧ (aPair nx dr p S).2.1 q = S.2.1 q) ∧ ptN (aPair nx dr p S).1 192 = ptN S.1 192 + pnt nx dr S := by
  unfold aPair pnt
  by_cases h8 : dr (sS S) 9 = 8
  · rw [if_pos h8, if_pos h8]
    refine ⟨II_fail h hp hf, fun q hq => ⟨upN_n hq, upB_n hq⟩, ?_⟩
    have h3 := pt_u (cn := S.1) (x := 0) hp
    show ptN (upN S.1 p 0) 192 = _
    omega
  · rw [if_neg h8, if_neg h8]
    have h7 := hL (nx (sS S)) 7 (by omega)
    exact pts_ok hL hp _ (aSt S (nx (nx (sS S)))) (IIs_st h _) hf (by show S.1 p + _ ≤ 6; omega)
theorem fre_pair (hL : HL dr) (hp : p < 192) (h : IIs C P T tx S) (hf : fre p S) : fre (p + 1) (aPair nx dr p S) := by
  intro q hq hq2
  have h0 := hf p (Nat.le_refl _) hp
  have := (pair_ok (nx := nx) hL hp h h0.2 h0.1).2.1 q (by omega)
  rw [this.1, this.2]
  exact hf q (by omega) hq2
theorem pic_ok (hL : HL dr) (hP : P ≤ 24) (hc : c < 8) : ∀ m k (S : AS), k + m = P → IIs C P T tx S → fre (24 * c + k) S → IIs C P T tx (aPic nx dr c m k S) ∧ fre (24 * c + P) (aPic nx dr c m k S) := by
  intro m
  induction m with
  | zero =>
    intro k S hk h hf
    have : k = P := by omega
    subst this
    exact ⟨h, hf⟩
  | succ m ih =>
    intro k S hk h hf
    have hp : 24 * c + k < 192 := by omega
    have h0 := hf (24 * c + k) (Nat.le_refl _) hp
    exact ih (k + 1) (aPair nx dr (24 * c + k) S) (by omega) (pair_ok hL hp h h0.2 h0.1).1 (fre_pair hL hp h hf)
theorem cod_ok (hL : HL dr) (hP : P ≤ 24) (hC : C ≤ 8) : ∀ m c (S : AS), c + m = C → IIs C P T tx S → fre (24 * c) S → IIs C P T tx (aCod nx dr P m c S) := by
  intro m
  induction m with
  | zero => intro c S _ h _; exact h
  | succ m ih =>
    intro c S hc h hf
    have := pic_ok (nx := nx) hL hP (show c < 8 by omega) P 0 S (by omega) h hf
    exact ih (c + 1) (aPic nx dr c P 0 S) (by omega) this.1 (fun q hq hq2 => this.2 q (by omega) hq2)
/-! the class -/
theorem lX_pts_l (hB : HB nx dr) (hL : HL dr) {post : Int32 → CT → Prop} {n : Nat} (hn6 : n ≤ 6) (hp : p < 192) : ∀ m j (S : AS) (u : CT), j + m = n → IIs C P T tx S → RXs C P T tx S u → S.2.1 p = false → S.1 p + m ≤ 6 → (∀ u', RXs C P T tx (aPts nx dr p m S) u' → post (nI n) u') → q_X_fillPair_33N (m + 1) (nI p) (nI n) (nI j) u post := by
  intro m
  induction m with
  | zero =>
    intro j S u hj _ hX _ _ hpost
    rw [q_X_fillPair_33N]
    unfold q_X_fillPair_33
    exact pk_le n j (fun _ => hpost u hX) (fun h => absurd h (by omega))
  | succ m ih =>
    intro j S u hj hI hX hf hc hpost
    rw [q_X_fillPair_33N]
    unfold q_X_fillPair_33
    dsimp only
    have hs : x_last u = sS S := hX.2
    refine pk_le n j (fun h => absurd h (by omega)) (fun _ => hB _ _ 1000 _ (by omega) (by omega) rfl (hB _ _ 1000 _ (by omega) (by omega) rfl ?_))
    have h1 := hL (sS S) 1000 (by omega)
    have h2 := hL (nx (sS S)) 1000 (by omega)
    have hX1 := RXs_st (RXs_st hX (nx (sS S))) (nx (nx (sS S)))
    rw [nI_1, nI_1]
    show q_X_addPoint (nI p) (nI (dr (x_last u) 1000 + 1)) (nI (dr (nx (x_last u)) 1000)) (x_last_s (x_last_s u (nx (x_last u))) (nx (nx (x_last u)))) _
    rw [hs]
    refine lX_add hI hX1.1 hp hf (by omega) (by omega) (fun u' hX' hl => ?_)
    refine ih (j + 1) (aPt nx dr p S) u' (by omega) (IIs_pt hL hI hp hf (by omega)) ⟨hX', hl⟩ hf ?_ hpost
    show upN S.1 p (S.1 p + 1) p + m ≤ 6
    rw [upN_s]; omega
theorem lX_fpair (hB : HB nx dr) (hL : HL dr) {post : Int32 → CT → Prop} (hp : p < 192) (hI : IIs C P T tx S) (hX : RXs C P T tx S u) (hf : S.2.1 p = false) (h0 : S.1 p = 0) {x : Int32} (hx : x = nI p) (hpost : ∀ u', RXs C P T tx (aPair nx dr p S) u' → post (nI (pnt nx dr S)) u') : q_X_fillPair x u post := by
  subst hx
  have hs : x_last u = sS S := hX.2
  unfold q_X_fillPair
  refine hB _ _ 9 _ (by omega) (by omega) rfl ?_
  unfold pnt aPair at hpost
  have h9 := hL (sS S) 9 (by omega)
  have h7 := hL (nx (sS S)) 7 (by omega)
  rw [hs]
  refine pk_ne (dr (sS S) 9) 8 (fun h8 => ?_) (fun h8 => ?_)
  · rw [if_neg h8, if_neg h8] at hpost
    refine hB _ _ 7 _ (by omega) (by omega) rfl ⟨dr (nx (sS S)) 7 + 1, ?_⟩
    exact lX_pts_l (n := dr (nx (sS S)) 7) hB hL (by omega) hp (dr (nx (sS S)) 7) 0 (aSt S (nx (nx (sS S)))) (x_last_s (x_last_s u (nx (sS S))) (nx (nx (sS S)))) (by omega) (IIs_st hI _) (RXs_st (RXs_st hX (nx (sS S))) (nx (nx (sS S)))) hf (by show S.1 p + _ ≤ 6; omega) hpost
  · rw [if_pos h8, if_pos h8] at hpost
    have hX1 := RXs_st hX (nx (sS S))
    exact lX_mark hI hX1.1 hp hf (fun u' hX' hl => hpost u' ⟨hX', hl⟩)
theorem lX_fill_i (hB : HB nx dr) (hL : HL dr) {K : Int32 → Int32 → CT → Prop} {post : Int32 → CT → Prop} (hP : P ≤ 24) (hc : c < 8) : ∀ m k (S : AS) (u : CT), k + m = P → IIs C P T tx S → RXs C P T tx S u → fre (24 * c + k) S → (∀ u', RXs C P T tx (aPic nx dr c m k S) u' → K (nI (ptN (aPic nx dr c m k S).1 192)) (nI (c + 1)) u') → q_X_fill_29N K (m + 1) (nI (ptN S.1 192)) (nI c) (nI k) u post := by
  intro m
  induction m with
  | zero =>
    intro k S u hk _ hX _ hpost
    rw [q_X_fill_29N]
    unfold q_X_fill_29
    dsimp only
    rw [nI_1]
    exact pk_le P k (fun _ => hpost u hX) (fun h => absurd h (by omega)) hX.1.2.1
  | succ m ih =>
    intro k S u hk hI hX hf hpost
    rw [q_X_fill_29N]
    unfold q_X_fill_29
    dsimp only
    have hp : 24 * c + k < 192 := by omega
    have h0 := hf (24 * c + k) (Nat.le_refl _) hp
    have ok := pair_ok (nx := nx) hL hp hI h0.2 h0.1
    refine pk_le P k (fun h => absurd h (by omega)) (fun _ => ?_) hX.1.2.1
    refine lX_fpair hB hL hp hI hX h0.2 h0.1 (ix24 c k) (fun u' hX' => ?_)
    rw [nI_add, nI_1, ← ok.2.2]
    exact ih (k + 1) (aPair nx dr (24 * c + k) S) u' (by omega) ok.1 hX' (fre_pair hL hp hI hf) hpost
theorem lX_fill_o (hB : HB nx dr) (hL : HL dr) {post : Int32 → CT → Prop} (hP : P ≤ 24) (hC : C ≤ 8) : ∀ m c (S : AS) (u : CT), c + m = C → IIs C P T tx S → RXs C P T tx S u → fre (24 * c) S → (∀ u', RXs C P T tx (aCod nx dr P m c S) u' → post (nI (ptN (aCod nx dr P m c S).1 192)) u') → q_X_fill_17N (m + 1) (nI (ptN S.1 192)) (nI c) u post := by
  intro m
  induction m with
  | zero =>
    intro c S u hk _ hX _ hpost
    rw [q_X_fill_17N]
    unfold q_X_fill_17
    exact pk_le C c (fun _ => hpost u hX) (fun h => absurd h (by omega)) hX.1.1
  | succ m ih =>
    intro c S u hk hI hX hf hpost
    rw [q_X_fill_17N]
    unfold q_X_fill_17
    dsimp only
    refine pk_le C c (fun h => absurd h (by omega)) (fun _ => ⟨P + 1, ?_⟩) hX.1.1
    have ok := pic_ok (nx := nx) hL hP (show c < 8 by omega) P 0 S (by omega) hI hf
    exact lX_fill_i hB hL (K := fun x3 x4 u => q_X_fill_17N (m + 1) x3 x4 u post) hP (by omega) P 0 S u (by omega) hI hX hf (fun u' hX' => ih (c + 1) (aPic nx dr c P 0 S) u' (by omega) ok.1 hX' (fun q hq hq2 => ok.2 q (by omega) hq2) hpost)
/-! the reference -/
theorem lM_pts_l (hD : HD nx dr) (hL : HL dr) {post : MT → Prop} {n : Nat} (hn6 : n ≤ 6) (hp : p < 192) : ∀ m j (S : AS) (v : MT), j + m = n → IIs C P T tx S → RMs C P T tx S v → S.2.1 p = false → S.1 p + m ≤ 6 → (∀ v', RMs C P T tx (aPts nx dr p m S) v' → post v') → q_M_fillPair_26N (m + 1) (nI p) (nI n) (nI j) v post := by
  intro m
  induction m with
  | zero =>
    intro j S v hj _ hX _ _ hpost
    rw [q_M_fillPair_26N]
    unfold q_M_fillPair_26
    exact pk_le n j (fun _ => hpost v hX) (fun h => absurd h (by omega))
  | succ m ih =>
    intro j S v hj hI hX hf hc hpost
    rw [q_M_fillPair_26N]
    unfold q_M_fillPair_26
    dsimp only
    have hs : m_state v = sS S := hX.2
    refine pk_le n j (fun h => absurd h (by omega)) (fun _ => hD _ _ 1000 _ (by omega) (by omega) rfl (hD _ _ 1000 _ (by omega) (by omega) rfl ?_))
    have h1 := hL (sS S) 1000 (by omega)
    have h2 := hL (nx (sS S)) 1000 (by omega)
    have hX1 := RMs_st (RMs_st hX (nx (sS S))) (nx (nx (sS S)))
    rw [nI_1, nI_1]
    show q_M_add (nI p) (nI (dr (m_state v) 1000 + 1)) (nI (dr (nx (m_state v)) 1000)) (m_state_s (m_state_s v (nx (m_state v))) (nx (nx (m_state v)))) _
    rw [hs]
    refine lM_add hI hX1.1 hp (by omega) (fun v' hX' hl _ => ?_)
    refine ih (j + 1) (aPt nx dr p S) v' (by omega) (IIs_pt hL hI hp hf (by omega)) ⟨hX', hl⟩ hf ?_ hpost
    show upN S.1 p (S.1 p + 1) p + m ≤ 6
    rw [upN_s]; omega
theorem lM_fpair (hD : HD nx dr) (hL : HL dr) {post : MT → Prop} (hp : p < 192) (hI : IIs C P T tx S) (hX : RMs C P T tx S v) (hf : S.2.1 p = false) (h0 : S.1 p = 0) {x : Int32} (hx : x = nI p) (hpost : ∀ v', RMs C P T tx (aPair nx dr p S) v' → post v') : q_M_fillPair x v post := by
  subst hx
  have hs : m_state v = sS S := hX.2
  unfold q_M_fillPair
  refine hD _ _ 9 _ (by omega) (by omega) rfl ?_
  unfold aPair at hpost
  have h9 := hL (sS S) 9 (by omega)
  have h7 := hL (nx (sS S)) 7 (by omega)
  rw [hs]
  refine pk_ne (dr (sS S) 9) 8 (fun h8 => ?_) (fun h8 => ?_)
  · rw [if_neg h8] at hpost
    refine hD _ _ 7 _ (by omega) (by omega) rfl ⟨dr (nx (sS S)) 7 + 1, ?_⟩
    exact lM_pts_l (n := dr (nx (sS S)) 7) hD hL (by omega) hp (dr (nx (sS S)) 7) 0 (aSt S (nx (nx (sS S)))) (m_state_s (m_state_s v (nx (sS S))) (nx (nx (sS S)))) (by omega) (IIs_st hI _) (RMs_st (RMs_st hX (nx (sS S))) (nx (nx (sS S)))) hf (by show S.1 p + _ ≤ 6; omega) hpost
  · rw [if_pos h8] at hpost
    have hX1 := RMs_st hX (nx (sS S))
    exact lM_fail hI hX1.1 hp hf (fun v' hX' hl _ => hpost v' ⟨hX', hl⟩)
theorem lM_fill_i (hD : HD nx dr) (hL : HL dr) {K : Int32 → MT → Prop} {post : Int32 → MT → Prop} (hP : P ≤ 24) (hc : c < 8) : ∀ m k (S : AS) (v : MT), k + m = P → IIs C P T tx S → RMs C P T tx S v → fre (24 * c + k) S → (∀ v', RMs C P T tx (aPic nx dr c m k S) v' → K (nI (c + 1)) v') → q_M_fill_57N K (m + 1) (nI c) (nI k) v post := by
  intro m
  induction m with
  | zero =>
    intro k S v hk _ hX _ hpost
    rw [q_M_fill_57N]
    unfold q_M_fill_57
    dsimp only
    rw [nI_1]
    exact pk_le P k (fun _ => hpost v hX) (fun h => absurd h (by omega)) hX.1.2.1
  | succ m ih =>
    intro k S v hk hI hX hf hpost
    rw [q_M_fill_57N]
    unfold q_M_fill_57
    dsimp only
    have hp : 24 * c + k < 192 := by omega
    have h0 := hf (24 * c + k) (Nat.le_refl _) hp
    have ok := pair_ok (nx := nx) hL hp hI h0.2 h0.1
    refine pk_le P k (fun h => absurd h (by omega)) (fun _ => ?_) hX.1.2.1
    refine lM_fpair hD hL hp hI hX h0.2 h0.1 (iy24 c k) (fun v' hX' => ?_)
    rw [nI_1]
    exact ih (k + 1) (aPair nx dr (24 * c + k) S) v' (by omega) ok.1 hX' (fre_pair hL hp hI hf) hpost
theorem lM_fill_o (hD : HD nx dr) (hL : HL dr) {post : Int32 → MT → Prop} (hP : P ≤ 24) (hC : C ≤ 8) : ∀ m c (S : AS) (v : MT), c + m = C → IIs C P T tx S → RMs C P T tx S v → fre (24 * c) S → (∀ v', RMs C P T tx (aCod nx dr P m c S) v' → post (nI (ptN (aCod nx dr P m c S).1 192)) v') → q_M_fill_46N (m + 1) (nI c) v post := by
  intro m
  induction m with
  | zero =>
    intro c S v hk _ hX _ hpost
    rw [q_M_fill_46N]
    unfold q_M_fill_46
    exact pk_le C c (fun _ => lM_points hX.1.2.2.1 (hpost v hX)) (fun h => absurd h (by omega)) hX.1.1
  | succ m ih =>
    intro c S v hk hI hX hf hpost
    rw [q_M_fill_46N]
    unfold q_M_fill_46
    dsimp only
    refine pk_le C c (fun h => absurd h (by omega)) (fun _ => ⟨P + 1, ?_⟩) hX.1.1
    have ok := pic_ok (nx := nx) hL hP (show c < 8 by omega) P 0 S (by omega) hI hf
    exact lM_fill_i hD hL (K := fun x3 u => q_M_fill_46N (m + 1) x3 u post) hP (by omega) P 0 S v (by omega) hI hX hf (fun v' hX' => ih (c + 1) (aPic nx dr c P 0 S) v' (by omega) ok.1 hX' (fun q hq hq2 => ok.2 q (by omega) hq2) hpost)
theorem lM_fclr_l {post : Int32 → MT → Prop} (hpost : ∀ f g : Nat → Int32, (∀ p, p < 192 → f p = 0 ∧ g p = 0) → ∃ n, q_M_fill_46N n 0 (m_hasFailed_s (m_count_s v f) g) post) : ∀ m k (f g : Nat → Int32), k + m = 192 → (∀ p, p < k → f p = 0 ∧ g p = 0) → q_M_fill_17N (m + 1) (nI k) (m_hasFailed_s (m_count_s v f) g) post := by
  intro m
  induction m with
  | zero =>
    intro k f g hk hf
    rw [q_M_fill_17N]
    unfold q_M_fill_17
    exact pk_le 192 k (fun _ => hpost f g (fun p hp => hf p (by omega))) (fun h => absurd h (by omega))
  | succ m ih =>
    intro k f g hk hf
    rw [q_M_fill_17N]
    unfold q_M_fill_17
    refine pk_le 192 k (fun h => absurd h (by omega)) (fun _ => ⟨pk_in k 192 (by omega), pk_in k 192 (by omega), ?_⟩)
    rw [nI_1]
    refine ih (k + 1) (upd f (nI k).toNatClampNeg 0) (upd g (nI k).toNatClampNeg (vp_nar .boolean 0)) (by omega) (fun p hp => ?_)
    rw [nI_clamp (by omega)]
    by_cases e : p = k
    · subst e; rw [pk_us, pk_us]; exact ⟨rfl, rfl⟩
    · rw [pk_un e, pk_un e]; exact hf p (by omega)
theorem pt_0 : ∀ k, ptN (fun _ => 0) k = 0
  | 0 => rfl
  | k + 1 => by simp only [ptN]; rw [pt_0 k]
theorem fill_both (hB : HB nx dr) (hD : HD nx dr) (hL : HL dr) {s : Int64} {Q : CT → MT → Prop} (h : Rel u v) (hQ : ∀ u v, Rel u v → Q u v) : q_X_fill s u (fun r1 u2 => q_M_fill s v (fun r3 u4 => ((r1 = r3 → Q u2 u4) ∧ (¬ r1 = r3 → False)))) := by
  obtain ⟨C, P, cn, fl, bt, er, F, fp, T, tx, hI, hX, hM⟩ := h
  obtain ⟨iC, iP, iG, iF, iT, ix⟩ := id hI
  obtain ⟨xC, xP, xG, xF, xT, xx⟩ := id hX
  obtain ⟨mC, mP, mG, mF, mT, mx⟩ := id hM
  have hI0 : IIs C P T tx (fun _ => 0, fun _ => false, bt, er, 0, fp, s) := ⟨iC, iP, GI_0, ⟨(nf_0 192).symm, fun k h => absurd h (Nat.not_lt_zero k)⟩, iT, ix⟩
  have hf0 : fre 0 (fun _ => 0, fun _ => false, bt, er, 0, fp, s) := fun q _ _ => ⟨rfl, rfl⟩
  unfold q_X_fill
  refine lX_empty (fun f hf => ?_)
  unfold q_N_start
  have hX0 : RXs C P T tx (fun _ => 0, fun _ => false, bt, er, 0, fp, s) (x_last_s (x_failedCount_s (x_pointCounts_s u f) 0) s) :=
    ⟨⟨xC, xP, ⟨fun p hp => hf p hp, fun p _ h => absurd h (Nat.not_lt_zero 0), fun p k _ h => absurd h (Nat.not_lt_zero k)⟩, ⟨rfl, fun k h => absurd h (Nat.not_lt_zero k)⟩, xT, xx⟩, rfl⟩
  have e := lX_fill_o (nx := nx) hB hL (post := fun r1 u2 => q_M_fill s v (fun r3 u4 => ((r1 = r3 → Q u2 u4) ∧ (¬ r1 = r3 → False)))) iP iC C 0 _ _ (by omega) hI0 hX0 hf0 (fun u' hX' => ?_)
  · rw [show ptN (fun (_ : Nat) => 0) 192 = 0 from pt_0 192] at e
    exact ⟨_, e⟩
  · unfold q_M_fill
    refine ⟨_, lM_fclr_l (v := m_failures_s (m_state_s (m_code_s v 0) s) 0) (fun f2 g2 hf2 => ⟨C + 1, ?_⟩) 192 0 (m_count v) (m_hasFailed v) (by omega) (fun p hp => absurd hp (by omega))⟩
    have hM0 : RMs C P T tx (fun _ => 0, fun _ => false, bt, er, 0, fp, s) (m_hasFailed_s (m_count_s (m_failures_s (m_state_s (m_code_s v 0) s) 0) f2) g2) :=
      ⟨⟨mC, mP, ⟨fun p hp => (hf2 p hp).1, fun p hp => (hf2 p hp).2, fun p k _ h => absurd h (Nat.not_lt_zero k)⟩, ⟨rfl, fun k h => absurd h (Nat.not_lt_zero k)⟩, mT, mx⟩, rfl⟩
    exact lM_fill_o hD hL iP iC C 0 _ _ (by omega) hI0 hM0 hf0 (fun v' hM' => tl_eq rfl (hQ _ _ ⟨_, _, _, _, _, _, _, _, _, _, cod_ok hL iP iC C 0 _ (by omega) hI0 hf0, hX'.1, hM'.1⟩))
end PUT
section PUU
variable {L : Nat} {xs : Nat → Int32} {i : Int32} {u : CT} {v : MT} {o : Nat → Int64}
theorem st_15 (h : Rel u v) (h1 : vp_in (i + 1) L) (h2 : vp_in (i + 2) L) : q_law_15 L xs i u v o RR := by
  unfold q_law_15
  refine ⟨h1, h2, ?_⟩
  simp only [h1, h2, true_and]
  exact fill_both hB0 hD0 hL0 h (fun _ _ h => h)
end PUU
