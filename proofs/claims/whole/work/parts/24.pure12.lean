/-! ===== the pure part, 12: the text ===== -/
abbrev ZS : Type := Nat × (Nat → Nat)
def aPut (c : Nat) (Z : ZS) : ZS := (Z.1 + 1, upN Z.2 Z.1 c)
def XT (u : CT) (Z : ZS) (u' : CT) : Prop := ∃ f : Nat → Int32, (∀ i, i < Z.1 → f i = nI (Z.2 i)) ∧ u' = x_length_s (x_chars_s u f) (nI Z.1)
def YT (v : MT) (Z : ZS) (v' : MT) : Prop := ∃ f : Nat → Int32, (∀ i, i < Z.1 → f i = nI (Z.2 i)) ∧ v' = m_size_s (m_text_s v f) (nI Z.1)
theorem nar_c {q : Nat} (hq : q < 65536) : vp_nar .char (nI q) = nI q := by
  unfold vp_nar
  rw [(pk_charN hq).1]
section PUV
variable {u0 u : CT} {v0 v : MT} {Z : ZS}
theorem put_g {post : CT → Prop} {f : Nat → Int32} {y w x : Int32} (h1 : ¬ (136 : Int32) ≤ y) (h2 : vp_in y 136) (hw : vp_nar .char x = w) (e : post (x_length_s (x_chars_s u0 (upd f y.toNatClampNeg w)) (y + 1))) : q_L_put x (x_length_s (x_chars_s u0 f) y) post := by
  subst hw
  exact ⟨fun z => absurd z h1, fun _ => ⟨h2, e⟩⟩
theorem type_g {post : MT → Prop} {f : Nat → Int32} {y x : Int32} (h2 : vp_in y 256) (e : post (m_size_s (m_text_s v0 (upd f y.toNatClampNeg x)) (y + 1))) : q_M_type x (m_size_s (m_text_s v0 f) y) post := ⟨h2, e⟩
theorem lX_put {post : CT → Prop} {c : Nat} {x : Int32} (h : XT u0 Z u) (hT : Z.1 < 136) (hc : c < 65536) (hx : x = nI c) (hpost : ∀ u', XT u0 (aPut c Z) u' → post u') : q_L_put x u post := by
  obtain ⟨f, hf, rfl⟩ := h
  subst hx
  refine put_g (nI_ge (b := 136) hT (by omega)) (pk_in Z.1 136 hT) (nar_c hc) ?_
  rw [nI_clamp (by omega), nI_1]
  refine hpost _ ⟨upd f Z.1 (nI c), fun i hi => ?_, rfl⟩
  by_cases e : i = Z.1
  · subst e; rw [pk_us]; show _ = nI (upN Z.2 Z.1 c Z.1); rw [upN_s]
  · rw [pk_un e]; show _ = nI (upN Z.2 Z.1 c i); rw [upN_n e]
    exact hf i (by have : i < Z.1 + 1 := hi; omega)
theorem lM_type {post : MT → Prop} {c : Nat} {x : Int32} (h : YT v0 Z v) (hT : Z.1 < 136) (hx : x = nI c) (hpost : ∀ v', YT v0 (aPut c Z) v' → post v') : q_M_type x v post := by
  obtain ⟨f, hf, rfl⟩ := h
  subst hx
  refine type_g (pk_in Z.1 256 (by omega)) ?_
  rw [nI_clamp (by omega), nI_1]
  refine hpost _ ⟨upd f Z.1 (nI c), fun i hi => ?_, rfl⟩
  by_cases e : i = Z.1
  · subst e; rw [pk_us]; show _ = nI (upN Z.2 Z.1 c Z.1); rw [upN_s]
  · rw [pk_un e]; show _ = nI (upN Z.2 Z.1 c i); rw [upN_n e]
    exact hf i (by have : i < Z.1 + 1 := hi; omega)
end PUV
/-! numbers in digits -/
def dgN (n : Nat) : Nat → Nat
  | 0 => 0
  | D + 1 => if 10 ^ (D + 1) ≤ n then D + 1 else dgN n D
theorem dg_le (n : Nat) : ∀ D, dgN n D ≤ D
  | 0 => Nat.le_refl _
  | D + 1 => by
    have := dg_le n D
    simp only [dgN]
    split <;> omega
theorem dg_lt (n : Nat) : ∀ D, n < 10 ^ (D + 1) → n < 10 ^ (dgN n D + 1)
  | 0, h => h
  | D + 1, h => by
    simp only [dgN]
    by_cases e : 10 ^ (D + 1) ≤ n
    · rw [if_pos e]; exact h
    · rw [if_neg e]; exact dg_lt n D (by omega)
theorem dg_ge (n : Nat) : ∀ D, 0 < dgN n D → 10 ^ (dgN n D) ≤ n
  | 0, h => absurd h (Nat.lt_irrefl 0)
  | D + 1, h => by
    simp only [dgN] at h ⊢
    by_cases e : 10 ^ (D + 1) ≤ n
    · rw [if_pos e]; exact e
    · rw [if_neg e] at h ⊢; exact dg_ge n D h
theorem dg_b {n b : Nat} (h : n < 10 ^ (b + 1)) : ∀ D, dgN n D ≤ b
  | 0 => Nat.zero_le _
  | D + 1 => by
    simp only [dgN]
    by_cases e : 10 ^ (D + 1) ≤ n
    · rw [if_pos e]
      by_cases hd : D + 1 ≤ b
      · exact hd
      · exfalso
        have : 10 ^ (b + 1) ≤ 10 ^ (D + 1) := Nat.pow_le_pow_right (by omega) (by omega)
        omega
    · rw [if_neg e]; exact dg_b h D
def dg (n : Nat) : Nat := dgN n 10
theorem dgle (n : Nat) : dg n ≤ 10 := dg_le n 10
theorem dglt {n : Nat} (h : n < 10 ^ 11) : n < 10 ^ (dg n + 1) := dg_lt n 10 h
theorem dgge {n : Nat} (h : 0 < dg n) : 10 ^ dg n ≤ n := dg_ge n 10 h
theorem dgb {n b : Nat} (h : n < 10 ^ (b + 1)) : dg n ≤ b := dg_b h 10
def aDig (n : Nat) : Nat → ZS → ZS
  | 0, Z => Z
  | j + 1, Z => aDig n j (aPut (48 + n / 10 ^ j % 10) Z)
def aNum (n : Nat) (Z : ZS) : ZS := aDig n (dg n + 1) Z
def pw : Nat → Nat
  | 0 => 0
  | j + 1 => 10 ^ j
theorem pw_d (j : Nat) : 10 ^ j / 10 = pw j := by
  cases j with
  | zero => rfl
  | succ j => rw [Nat.pow_succ, Nat.mul_div_cancel _ (by omega)]; rfl
theorem p10 {j : Nat} (h : j ≤ 10) : 10 ^ j ≤ 10000000000 := Nat.pow_le_pow_right (n := 10) (by omega) h
theorem p10_pos (j : Nat) : 0 < 10 ^ j := Nat.pow_pos (by omega)
theorem aDig_len (n : Nat) : ∀ j (Z : ZS), (aDig n j Z).1 = Z.1 + j
  | 0, Z => rfl
  | j + 1, Z => by
    simp only [aDig]
    rw [aDig_len n j]
    show Z.1 + 1 + j = _
    omega
theorem aNum_len (n : Nat) (Z : ZS) : (aNum n Z).1 = Z.1 + dg n + 1 := by unfold aNum; rw [aDig_len]; omega
def okZ (Z : ZS) : Prop := ∀ i, i < Z.1 → Z.2 i < 65536
theorem okZ_put {c : Nat} {Z : ZS} (h : okZ Z) (hc : c < 65536) : okZ (aPut c Z) := by
  intro i hi
  show upN Z.2 Z.1 c i < 65536
  by_cases e : i = Z.1
  · subst e; rw [upN_s]; exact hc
  · rw [upN_n e]; exact h i (by have : i < Z.1 + 1 := hi; omega)
theorem okZ_dig (n : Nat) : ∀ j (Z : ZS), okZ Z → okZ (aDig n j Z)
  | 0, _, h => h
  | j + 1, Z, h => by
    simp only [aDig]
    have := Nat.mod_lt (n / 10 ^ j) (show 10 > 0 by omega)
    exact okZ_dig n j _ (okZ_put h (by omega))
section PUW
variable {u0 : CT} {v0 : MT} {n d : Nat}
theorem lX_dig_l {post : CT → Prop} (hn : n < 2 ^ 63) (hd : d ≤ 10) : ∀ j (Z : ZS) (u : CT), j ≤ d + 1 → Z.1 + j ≤ 136 → XT u0 Z u → (∀ u', XT u0 (aDig n j Z) u' → post u') → q_L_putNumber_37N (j + 1) (lN n) (lN (pw j)) (nI (d + 1 - j)) u post := by
  intro j
  induction j with
  | zero =>
    intro Z u _ _ h hpost
    rw [q_L_putNumber_37N]
    unfold q_L_putNumber_37
    exact br_c (fun _ => hpost u h) (fun _ => br_t ((lgc_le (a := 0) (b := 0) (by omega) (by omega)).mpr (Nat.le_refl 0)) (hpost u h))
  | succ j ih =>
    intro Z u hj hT h hpost
    rw [q_L_putNumber_37N]
    unfold q_L_putNumber_37
    dsimp only
    have h1 := p10 (show j ≤ 10 by omega)
    have h0 := p10_pos j
    have hm := Nat.mod_lt (n / 10 ^ j) (show 10 > 0 by omega)
    have hdv := Nat.div_le_self n (10 ^ j)
    simp only [pw]
    refine pk_le 11 (d + 1 - (j + 1)) (fun z => absurd z (by omega)) (fun _ => br_f (fun z => absurd ((lgc_le (b := 0) (by omega) (by omega)).mp z) (by omega)) ⟨lN_n0 h0 (by omega), by decide, ?_⟩)
    have ed : (((48 : Int64) + (lN n / lN (10 ^ j) - lN n / lN (10 ^ j) / 10 * 10)).toInt32.toUInt32 % 65536).toInt32 = nI (48 + n / 10 ^ j % 10) := by
      rw [pk_lDiv hn h0 (by omega), show (10 : Int64) = lN 10 from rfl, pk_lRem (by omega) (by omega) (by omega), show (48 : Int64) = lN 48 from rfl, lN_add, lN_i, pk_char, pk_tn (by omega), Nat.mod_eq_of_lt (by omega)]
    refine lX_put (c := 48 + n / 10 ^ j % 10) h (by omega) (by omega) ed (fun u' h' => ⟨by decide, ?_⟩)
    rw [show (10 : Int64) = lN 10 from rfl, pk_lDiv (by omega) (by omega) (by omega), pw_d, nI_1, show d + 1 - (j + 1) + 1 = d + 1 - j by omega]
    exact ih (aPut (48 + n / 10 ^ j % 10) Z) u' (by omega) (by show Z.1 + 1 + j ≤ 136; omega) h' hpost
theorem lX_num_l {post : CT → Prop} {Z : ZS} {u : CT} (hn : n < 10 ^ 11) (hT : (aNum n Z).1 ≤ 136) (h : XT u0 Z u) (hpost : ∀ u', XT u0 (aNum n Z) u' → post u') : ∀ m j, j + m = dg n → q_L_putNumber_5N (m + 1) (lN n) (lN (10 ^ j)) (nI (j + 1)) u post := by
  have hd := dgle n
  have hlt := dglt hn
  have hge := dgge (n := n)
  have hfin : q_L_putNumber_34 (lN n) (lN (10 ^ dg n)) u post := by
    unfold q_L_putNumber_34
    rw [aNum_len] at hT
    have e := lX_dig_l (n := n) (d := dg n) (post := post) (u0 := u0) (by omega) (by omega) (dg n + 1) Z u (Nat.le_refl _) (by omega) h hpost
    rw [Nat.sub_self] at e
    exact ⟨_, e⟩
  intro m
  induction m with
  | zero =>
    intro j hj
    have : j = dg n := by omega
    subst this
    rw [q_L_putNumber_5N]
    unfold q_L_putNumber_5
    dsimp only
    have h1 := p10 hd
    refine pk_le 11 (dg n + 1) (fun _ => hfin) (fun _ => ⟨by decide, ?_⟩)
    rw [show (10 : Int64) = lN 10 from rfl, pk_lDiv (by omega) (by omega) (by omega), lgc_gt (by omega) (by omega)]
    refine br_t ?_ hfin
    rw [Nat.pow_succ] at hlt
    omega
  | succ m ih =>
    intro j hj
    rw [q_L_putNumber_5N]
    unfold q_L_putNumber_5
    dsimp only
    have h1 := p10 (show j ≤ 10 by omega)
    have h2 : 10 ^ (j + 1) ≤ n := Nat.le_trans (Nat.pow_le_pow_right (by omega) (by omega)) (hge (by omega))
    rw [Nat.pow_succ] at h2
    refine pk_le 11 (j + 1) (fun z => absurd z (by omega)) (fun _ => ⟨by decide, ?_⟩)
    rw [show (10 : Int64) = lN 10 from rfl, pk_lDiv (by omega) (by omega) (by omega), lgc_gt (by omega) (by omega), lN_mul, ← Nat.pow_succ, nI_1]
    exact br_f (by omega) (ih (j + 1) (by omega))
theorem lX_num {post : CT → Prop} {Z : ZS} {u : CT} {x : Int64} (hx : x = lN n) (hn : n < 10 ^ 11) (hT : (aNum n Z).1 ≤ 136) (h : XT u0 Z u) (hpost : ∀ u', XT u0 (aNum n Z) u' → post u') : q_L_putNumber x u post := by
  subst hx
  exact ⟨_, lX_num_l hn hT h hpost (dg n) 0 (by omega)⟩
theorem lM_dig_l {post : MT → Prop} (hn : n < 2 ^ 63) : ∀ j (Z : ZS) (v : MT), j ≤ 11 → Z.1 + j ≤ 136 → YT v0 Z v → (∀ v', YT v0 (aDig n j Z) v' → post v') → q_M_typeNumber_21N (j + 1) (lN n) (lN (pw j)) v post := by
  intro j
  induction j with
  | zero =>
    intro Z v _ _ h hpost
    rw [q_M_typeNumber_21N]
    unfold q_M_typeNumber_21
    exact br_t ((lgc_le (a := 0) (b := 0) (by omega) (by omega)).mpr (Nat.le_refl 0)) (hpost v h)
  | succ j ih =>
    intro Z v hj hT h hpost
    rw [q_M_typeNumber_21N]
    unfold q_M_typeNumber_21
    dsimp only
    have h1 := p10 (show j ≤ 10 by omega)
    have h0 := p10_pos j
    have hm := Nat.mod_lt (n / 10 ^ j) (show 10 > 0 by omega)
    have hdv := Nat.div_le_self n (10 ^ j)
    simp only [pw]
    refine br_f (fun z => absurd ((lgc_le (b := 0) (by omega) (by omega)).mp z) (by omega)) ⟨lN_n0 h0 (by omega), by decide, ?_⟩
    have ed : (48 : Int32) + (lN n / lN (10 ^ j) - lN n / lN (10 ^ j) / 10 * 10).toInt32 = nI (48 + n / 10 ^ j % 10) := by
      rw [pk_lDiv hn h0 (by omega), show (10 : Int64) = lN 10 from rfl, pk_lRem (by omega) (by omega) (by omega), lN_i, show (48 : Int32) = nI 48 from rfl, nI_add]
    refine lM_type (c := 48 + n / 10 ^ j % 10) h (by omega) ed (fun v' h' => ⟨by decide, ?_⟩)
    rw [show (10 : Int64) = lN 10 from rfl, pk_lDiv (by omega) (by omega) (by omega), pw_d]
    exact ih (aPut (48 + n / 10 ^ j % 10) Z) v' (by omega) (by show Z.1 + 1 + j ≤ 136; omega) h' hpost
theorem lM_num_l {post : MT → Prop} {Z : ZS} {v : MT} (hn : n < 10 ^ 11) (hT : (aNum n Z).1 ≤ 136) (h : YT v0 Z v) (hpost : ∀ v', YT v0 (aNum n Z) v' → post v') : ∀ m j, j + m = dg n → q_M_typeNumber_2N (m + 1) (lN n) (lN (10 ^ j)) v post := by
  have hd := dgle n
  have hlt := dglt hn
  have hge := dgge (n := n)
  intro m
  induction m with
  | zero =>
    intro j hj
    have : j = dg n := by omega
    subst this
    rw [q_M_typeNumber_2N]
    unfold q_M_typeNumber_2
    dsimp only
    have h1 := p10 hd
    have h0 := p10_pos (dg n)
    have hdv := Nat.div_le_self n (10 ^ dg n)
    rw [pk_lDiv (by omega) h0 (by omega), show (9 : Int64) = lN 9 from rfl, lgc_le (by omega) (by omega)]
    refine ⟨lN_n0 h0 (by omega), br_t ?_ ?_⟩
    · rw [Nat.pow_succ] at hlt
      have : n / 10 ^ dg n < 10 := (Nat.div_lt_iff_lt_mul h0).mpr (by rw [Nat.mul_comm]; exact hlt)
      omega
    · rw [aNum_len] at hT
      exact ⟨_, lM_dig_l (by omega) (dg n + 1) Z v (by omega) (by omega) h hpost⟩
  | succ m ih =>
    intro j hj
    rw [q_M_typeNumber_2N]
    unfold q_M_typeNumber_2
    dsimp only
    have h1 := p10 (show j ≤ 10 by omega)
    have h0 := p10_pos j
    have hdv := Nat.div_le_self n (10 ^ j)
    have h2 : 10 ^ (j + 1) ≤ n := Nat.le_trans (Nat.pow_le_pow_right (by omega) (by omega)) (hge (by omega))
    rw [pk_lDiv (by omega) h0 (by omega), show (9 : Int64) = lN 9 from rfl, lgc_le (by omega) (by omega), show (10 : Int64) = lN 10 from rfl, lN_mul, Nat.mul_comm 10, ← Nat.pow_succ]
    refine ⟨lN_n0 h0 (by omega), br_f ?_ (ih (j + 1) (by omega))⟩
    rw [Nat.pow_succ] at h2
    have : 10 ≤ n / 10 ^ j := (Nat.le_div_iff_mul_le h0).mpr (by rw [Nat.mul_comm]; exact h2)
    omega
theorem lM_num {post : MT → Prop} {Z : ZS} {v : MT} {x : Int64} (hx : x = lN n) (hn : n < 10 ^ 11) (hT : (aNum n Z).1 ≤ 136) (h : YT v0 Z v) (hpost : ∀ v', YT v0 (aNum n Z) v' → post v') : q_M_typeNumber x v post := by
  subst hx
  exact ⟨_, lM_num_l hn hT h hpost (dg n) 0 (by omega)⟩
end PUW
/-! lines -/
def aMid (cn bt : Nat → Nat) (P C c : Nat) (Z : ZS) : ZS := if cnN cn c P = 0 then aPut 45 Z else aNum (rkN cn bt P C c) (aPut 32 (aNum (smN cn bt c P) Z))
def aLine (cn bt : Nat → Nat) (P C c : Nat) (Z : ZS) : ZS := aPut 10 (aMid cn bt P C c (aPut 32 (aNum c Z)))
def aTxt (cn bt : Nat → Nat) (P C : Nat) : Nat → Nat → ZS → ZS
  | 0, _, Z => Z
  | m + 1, c, Z => aTxt cn bt P C m (c + 1) (aLine cn bt P C c Z)
section PUX
variable {cn bt er : Nat → Nat} {fl : Nat → Bool} {u0 : CT} {v0 : MT} {C P : Nat}
theorem rk_17 (hC : C ≤ 8) (c : Nat) : rkN cn bt P C c ≤ 17 := by
  have := rk_le cn bt P c C
  show 2 * leN cn bt P c C + saN cn bt P c C + 1 ≤ 17
  omega
theorem mid_len (hG : GI cn fl bt er) (hC : C ≤ 8) (hP : P ≤ 24) {c : Nat} (hc : c < 8) (Z : ZS) : (aMid cn bt P C c Z).1 ≤ Z.1 + 14 := by
  have hs := smN_le hG hc P hP
  have hr := rk_17 (cn := cn) (bt := bt) (P := P) hC c
  unfold aMid
  by_cases h0 : cnN cn c P = 0
  · rw [if_pos h0]; show Z.1 + 1 ≤ _; omega
  · rw [if_neg h0, aNum_len]
    show (aNum (smN cn bt c P) Z).1 + 1 + _ + 1 ≤ _
    rw [aNum_len]
    have h1 := dgle (smN cn bt c P)
    have h2 := dgb (n := rkN cn bt P C c) (b := 1) (by omega)
    omega
theorem line_len (hG : GI cn fl bt er) (hC : C ≤ 8) (hP : P ≤ 24) {c : Nat} (hc : c < 8) (Z : ZS) : (aLine cn bt P C c Z).1 ≤ Z.1 + 17 := by
  have h1 := mid_len hG hC hP hc (aPut 32 (aNum c Z))
  have h2 : (aPut 32 (aNum c Z)).1 = (aNum c Z).1 + 1 := rfl
  have h3 := dgb (n := c) (b := 0) (by omega)
  rw [h2, aNum_len] at h1
  show (aMid cn bt P C c (aPut 32 (aNum c Z))).1 + 1 ≤ _
  omega
theorem txt_len (hG : GI cn fl bt er) (hC : C ≤ 8) (hP : P ≤ 24) : ∀ m c (Z : ZS), c + m = C → (aTxt cn bt P C m c Z).1 ≤ Z.1 + 17 * m := by
  intro m
  induction m with
  | zero => intro c Z _; exact Nat.le_refl _
  | succ m ih =>
    intro c Z hc
    have h1 := ih (c + 1) (aLine cn bt P C c Z) (by omega)
    have h2 := line_len hG hC hP (show c < 8 by omega) Z
    show (aTxt cn bt P C m (c + 1) (aLine cn bt P C c Z)).1 ≤ _
    omega
theorem txt_ok : ∀ m c (Z : ZS), okZ Z → okZ (aTxt cn bt P C m c Z) := by
  intro m
  induction m with
  | zero => intro c Z h; exact h
  | succ m ih =>
    intro c Z h
    refine ih (c + 1) (aLine cn bt P C c Z) (okZ_put ?_ (by omega))
    have h1 : okZ (aPut 32 (aNum c Z)) := okZ_put (okZ_dig _ _ _ h) (by omega)
    unfold aMid
    by_cases h0 : cnN cn c P = 0
    · rw [if_pos h0]; exact okZ_put h1 (by omega)
    · rw [if_neg h0]; exact okZ_dig _ _ _ (okZ_put (okZ_dig _ _ _ h1) (by omega))
theorem lX_text_l {post : Int32 → CT → Prop} (hG : GI cn fl bt er) (h : PX cn fl bt er u0) (hC : C ≤ 8) (hP : P ≤ 24) (xC : x_coders u0 = nI C) (xP : x_pictures u0 = nI P) : ∀ m c (Z : ZS) (u : CT), c + m = C → Z.1 ≤ 17 * c → XT u0 Z u → (∀ u', XT u0 (aTxt cn bt P C m c Z) u' → post (nI (aTxt cn bt P C m c Z).1) u') → q_X_text_9N (m + 1) (nI c) u post := by
  intro m
  induction m with
  | zero =>
    intro c Z u hc _ hX hpost
    have e := hpost u hX
    obtain ⟨f, hf, rfl⟩ := hX
    rw [q_X_text_9N]
    unfold q_X_text_9
    dsimp only
    exact pk_le C c (fun _ => e) (fun h => absurd h (by omega)) xC
  | succ m ih =>
    intro c Z u hc hZ hX hpost
    have hcoder : x_coders u = nI C := by obtain ⟨f, hf, rfl⟩ := hX; exact xC
    rw [q_X_text_9N]
    unfold q_X_text_9
    dsimp only
    have hs := smN_le hG (show c < 8 by omega) P hP
    have hr := rk_17 (cn := cn) (bt := bt) (P := P) hC c
    have hcn := cnN_le cn c P
    have d0 := dgb (n := c) (b := 0) (by omega)
    have d1 := dgle (smN cn bt c P)
    have d2 := dgb (n := rkN cn bt P C c) (b := 1) (by omega)
    have hl := line_len hG hC hP (show c < 8 by omega) Z
    refine pk_le C c (fun h => absurd h (by omega)) (fun _ => ?_) hcoder
    refine lX_num (n := c) (nI_toInt64 (by omega)) (by omega) (by rw [aNum_len]; omega) hX (fun u1 h1 => ?_)
    refine lX_put (c := 32) h1 (by rw [aNum_len]; omega) (by omega) rfl (fun u2 h2 => ?_)
    have pu2 : PX cn fl bt er u2 ∧ x_pictures u2 = nI P := by obtain ⟨f, hf, rfl⟩ := h2; exact ⟨h, xP⟩
    have z2 : (aPut 32 (aNum c Z)).1 = Z.1 + dg c + 2 := by show (aNum c Z).1 + 1 = _; rw [aNum_len]
    refine lX_countedOf hG pu2.1 pu2.2 hP (by omega) ?_
    have fin : ∀ u3, XT u0 (aMid cn bt P C c (aPut 32 (aNum c Z))) u3 → q_X_text_89 (fun x1 u => q_X_text_9N (m + 1) x1 u post) (nI c) u3 post := by
      intro u3 h3
      unfold q_X_text_89
      have ml := mid_len hG hC hP (show c < 8 by omega) (aPut 32 (aNum c Z))
      refine lX_put (c := 10) h3 (by omega) (by omega) rfl (fun u4 h4 => ?_)
      rw [nI_1]
      exact ih (c + 1) (aLine cn bt P C c Z) u4 (by omega) (by omega) h4 hpost
    unfold aMid at fin
    refine pk_ne (cnN cn c P) 0 (fun h0 => ?_) (fun h0 => ?_)
    · rw [if_neg h0] at fin
      refine lX_sumOf hG pu2.1 pu2.2 hP (by omega) ?_
      refine lX_num (n := smN cn bt c P) rfl (by omega) (by rw [aNum_len]; omega) h2 (fun u3 h3 => ?_)
      refine lX_put (c := 32) h3 (by rw [aNum_len]; omega) (by omega) rfl (fun u4 h4 => ?_)
      have pu4 : PX cn fl bt er u4 ∧ x_pictures u4 = nI P ∧ x_coders u4 = nI C := by obtain ⟨f, hf, rfl⟩ := h4; exact ⟨h, xP, xC⟩
      refine lX_rankOf hG pu4.1 hC hP pu4.2.2 pu4.2.1 (by omega) ?_
      refine lX_num (n := rkN cn bt P C c) (nI_toInt64 (by omega)) (by omega) ?_ h4 fin
      rw [aNum_len]
      show (aNum (smN cn bt c P) (aPut 32 (aNum c Z))).1 + 1 + _ + 1 ≤ 136
      rw [aNum_len]; omega
    · rw [if_pos h0] at fin
      exact lX_put (c := 45) h2 (by omega) (by omega) rfl fin
theorem lM_text_l {post : Int32 → MT → Prop} (hG : GI cn fl bt er) (h : PM cn fl bt er v0) (hC : C ≤ 8) (hP : P ≤ 24) (xC : m_coders v0 = nI C) (xP : m_pictures v0 = nI P) : ∀ m c (Z : ZS) (v : MT), c + m = C → Z.1 ≤ 17 * c → YT v0 Z v → (∀ v', YT v0 (aTxt cn bt P C m c Z) v' → post (nI (aTxt cn bt P C m c Z).1) v') → q_M_text_12N (m + 1) (nI c) v post := by
  intro m
  induction m with
  | zero =>
    intro c Z v hc _ hX hpost
    have e := hpost v hX
    obtain ⟨f, hf, rfl⟩ := hX
    rw [q_M_text_12N]
    unfold q_M_text_12
    dsimp only
    exact pk_le C c (fun _ => e) (fun h => absurd h (by omega)) xC
  | succ m ih =>
    intro c Z v hc hZ hX hpost
    have hcoder : m_coders v = nI C := by obtain ⟨f, hf, rfl⟩ := hX; exact xC
    rw [q_M_text_12N]
    unfold q_M_text_12
    dsimp only
    have hs := smN_le hG (show c < 8 by omega) P hP
    have hr := rk_17 (cn := cn) (bt := bt) (P := P) hC c
    have hcn := cnN_le cn c P
    have d0 := dgb (n := c) (b := 0) (by omega)
    have d1 := dgle (smN cn bt c P)
    have d2 := dgb (n := rkN cn bt P C c) (b := 1) (by omega)
    have hl := line_len hG hC hP (show c < 8 by omega) Z
    refine pk_le C c (fun h => absurd h (by omega)) (fun _ => ?_) hcoder
    refine lM_num (n := c) (nI_toInt64 (by omega)) (by omega) (by rw [aNum_len]; omega) hX (fun u1 h1 => ?_)
    refine lM_type (c := 32) h1 (by rw [aNum_len]; omega) rfl (fun u2 h2 => ?_)
    have pu2 : PM cn fl bt er u2 ∧ m_pictures u2 = nI P := by obtain ⟨f, hf, rfl⟩ := h2; exact ⟨h, xP⟩
    have z2 : (aPut 32 (aNum c Z)).1 = Z.1 + dg c + 2 := by show (aNum c Z).1 + 1 = _; rw [aNum_len]
    refine lM_countedOf hG pu2.1 pu2.2 hP (by omega) ?_
    have fin : ∀ u3, YT v0 (aMid cn bt P C c (aPut 32 (aNum c Z))) u3 → q_M_text_74 (fun x1 u => q_M_text_12N (m + 1) x1 u post) (nI c) u3 post := by
      intro u3 h3
      unfold q_M_text_74
      have ml := mid_len hG hC hP (show c < 8 by omega) (aPut 32 (aNum c Z))
      refine lM_type (c := 10) h3 (by omega) rfl (fun u4 h4 => ?_)
      rw [nI_1]
      exact ih (c + 1) (aLine cn bt P C c Z) u4 (by omega) (by omega) h4 hpost
    unfold aMid at fin
    refine pk_le (cnN cn c P) 0 (fun h0 => ?_) (fun h0 => ?_)
    · rw [if_pos (by omega)] at fin
      exact lM_type (c := 45) h2 (by omega) rfl fin
    · rw [if_neg (by omega)] at fin
      refine lM_sumOf hG pu2.1 pu2.2 hP (by omega) ?_
      refine lM_num (n := smN cn bt c P) rfl (by omega) (by rw [aNum_len]; omega) h2 (fun u3 h3 => ?_)
      refine lM_type (c := 32) h3 (by rw [aNum_len]; omega) rfl (fun u4 h4 => ?_)
      have pu4 : PM cn fl bt er u4 ∧ m_pictures u4 = nI P ∧ m_coders u4 = nI C := by obtain ⟨f, hf, rfl⟩ := h4; exact ⟨h, xP, xC⟩
      refine lM_rankOf hG pu4.1 hC hP pu4.2.2 pu4.2.1 (by omega) ?_
      refine lM_num (n := rkN cn bt P C c) (nI_toInt64 (by omega)) (by omega) ?_ h4 fin
      rw [aNum_len]
      show (aNum (smN cn bt c P) (aPut 32 (aNum c Z))).1 + 1 + _ + 1 ≤ 136
      rw [aNum_len]; omega
end PUX
section PUY
variable {L : Nat} {xs : Nat → Int32} {i : Int32} {u : CT} {v : MT} {o : Nat → Int64}
theorem st_16 (h : Rel u v) : q_law_16 L xs i u v o RR := by
  obtain ⟨C, P, cn, fl, bt, er, F, fp, T, tx, hI, hX, hM⟩ := h
  obtain ⟨iC, iP, iG, iF, iT, ix⟩ := id hI
  obtain ⟨xC, xP, xG, xF, xT, xx⟩ := id hX
  obtain ⟨mC, mP, mG, mF, mT, mx⟩ := id hM
  have hl := txt_len (cn := cn) (bt := bt) iG iC iP C 0 (0, fun _ => 0) (by omega)
  have hok := txt_ok (cn := cn) (bt := bt) (P := P) (C := C) C 0 (0, fun _ => 0) (fun i hi => absurd hi (Nat.not_lt_zero i))
  unfold q_law_16 q_X_text q_L_start
  refine ⟨_, lX_text_l (u0 := u) iG xG iC iP xC xP C 0 (0, fun _ => 0) _ (by omega) (by omega) ⟨x_chars u, fun i hi => absurd hi (Nat.not_lt_zero i), rfl⟩ (fun u' hu' => ?_)⟩
  unfold q_M_text
  refine ⟨_, lM_text_l (v0 := m_code_s v 0) iG mG iC iP mC mP C 0 (0, fun _ => 0) _ (by omega) (by omega) ⟨m_text v, fun i hi => absurd hi (Nat.not_lt_zero i), rfl⟩ (fun v' hv' => tl_eq rfl ?_)⟩
  obtain ⟨f, hf, rfl⟩ := hu'
  obtain ⟨g, hg, rfl⟩ := hv'
  have hl2 : (aTxt cn bt P C C 0 (0, fun _ => 0)).1 ≤ 136 := Nat.le_trans hl (show 0 + 17 * C ≤ 136 by omega)
  exact ⟨C, P, cn, fl, bt, er, F, fp, (aTxt cn bt P C C 0 (0, fun _ => 0)).1, (aTxt cn bt P C C 0 (0, fun _ => 0)).2, ⟨iC, iP, iG, iF, hl2, hok⟩, ⟨xC, xP, xG, xF, rfl, hf⟩, ⟨mC, mP, mG, mF, rfl, hg⟩⟩
end PUY
