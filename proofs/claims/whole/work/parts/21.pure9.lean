/-! ===== the pure part, 9: signs, reference and call ===== -/
section PUO
variable {v : MT} {post : Int64 → MT → Prop}
/-- what signs answers, out of what was won and lost -/
def sgV (t w l : Nat) : Int64 := if t = 0 then lN w else if t = 1 then lN l else lN (lowT (bo2 (w + l) (min w l)) (2 ^ (w + l)) (if t = 2 then 1 else 0))
theorem lM_tw_l {t w l : Nat} (hn : w + l ≤ 24) (f : Nat → Int64) (hf : ∀ j, j < 25 → f j = lN (ch (w + l) j)) (ht : 2 ≤ t) (ht3 : t ≤ 3) (hpost : post (sgV t w l) (m_ways_s v f)) : ∀ d i, i + d = min w l + 1 → q_M_signs_182N (d + 1) (nI t) (nI w) (nI l) (lN (2 ^ (w + l))) (lN (twN (w + l) i)) (nI i) (m_ways_s v f) post := by
  have hp := p2_le hn
  have htl : tlN (w + l) (min w l) ≤ 25 * 16777216 := Nat.le_trans (tl_le _ _) (Nat.mul_le_mul (by omega) hp)
  intro d
  induction d with
  | zero =>
    intro i hi
    have hi2 : i = min w l + 1 := by omega
    rw [q_M_signs_182N]
    unfold q_M_signs_182
    dsimp only
    have fin : q_M_signs_218 (nI t) (lN (2 ^ (w + l))) (lN (twN (w + l) i)) (m_ways_s v f) post := by
      rw [hi2, tw_tl]
      unfold sgV at hpost
      rw [if_neg (by omega), if_neg (by omega)] at hpost
      have hb := bo2_le (min w l) hn
      have hb0 := bo2_pos (w + l) (min w l)
      have fin2 : q_M_signs_233 (nI t) (lN (2 ^ (w + l))) (lN (bo2 (w + l) (min w l))) (m_ways_s v f) post := by
        unfold q_M_signs_233 q_M_signs_245
        refine pk_ne t 2 (fun h2 => ?_) (fun h2 => ?_)
        · rw [if_neg h2] at hpost
          exact lM_part (by omega) (by omega) (Nat.two_pow_pos _) hpost
        · rw [if_pos h2] at hpost
          exact lM_part (by omega) (by omega) (Nat.two_pow_pos _) hpost
      unfold q_M_signs_218
      rw [lgc_le (by omega) (by omega)]
      unfold bo2 at fin2
      refine br_c (fun h => ?_) (fun h => ?_)
      · rw [Nat.min_eq_left h] at fin2; exact fin2
      · rw [Nat.min_eq_right (by omega)] at fin2; exact fin2
    refine pk_lt w i (fun _ => fin) (fun h1 => pk_lt l i (fun _ => fin) (fun h2 => absurd h2 (by omega)))
  | succ d ih =>
    intro i hi
    rw [q_M_signs_182N]
    unfold q_M_signs_182
    dsimp only
    refine pk_lt w i (fun z => absurd z (by omega)) (fun h1 => pk_lt l i (fun z => absurd z (by omega)) (fun h2 => ⟨pk_in i 25 (by omega), ?_⟩))
    have e : (2 : Int64) * f (nI i).toNatClampNeg = lN (2 * ch (w + l) i) := by
      rw [nI_clamp (by omega), hf i (by omega), show (2 : Int64) = lN 2 from rfl, lN_mul]
    show q_M_signs_182N (d + 1) _ _ _ _ (lN (twN (w + l) i) + 2 * f (nI i).toNatClampNeg) _ _ _
    rw [e, lN_add, nI_1]
    exact ih (i + 1) (by omega)
theorem lM_pas_i {K : Int32 → Int32 → Int32 → Int32 → MT → Prop} {x3 x4 x5 : Int32} {r : Nat} (hr : r < 24) (hK : ∀ f : Nat → Int64, (∀ j, j < 25 → f j = lN (ch (r + 1) j)) → K x3 x4 x5 (nI (r + 1 + 1)) (m_ways_s v f)) :
    ∀ t (f : Nat → Int64), t ≤ r + 1 → (∀ j, j < 25 → f j = if t < j then lN (ch (r + 1) j) else lN (ch r j)) → q_M_signs_131N K (t + 1) x3 x4 x5 (nI (r + 1)) (nI t) (m_ways_s v f) post := by
  intro t
  induction t with
  | zero =>
    intro f _ hf
    rw [q_M_signs_131N]
    unfold q_M_signs_131
    dsimp only
    refine br_t (Int32.le_refl _) ?_
    rw [nI_1]
    refine hK f (fun j hj => ?_)
    rw [hf j hj]
    by_cases e : 0 < j
    · rw [if_pos e]
    · rw [if_neg e, show j = 0 by omega, ch_0, ch_0]
  | succ t ih =>
    intro f ht hf
    rw [q_M_signs_131N]
    unfold q_M_signs_131
    dsimp only
    refine br_f (nI_nle (by omega) (by omega)) ⟨pk_in (t + 1) 25 (by omega), pk_in t 25 (by omega) (nI_pred t), pk_in (t + 1) 25 (by omega), ?_⟩
    rw [pk_m1]
    have e : f (nI (t + 1)).toNatClampNeg + f (nI (t + 1) - 1).toNatClampNeg = lN (ch (r + 1) (t + 1)) := by
      rw [nI_pred, nI_clamp (by omega), nI_clamp (by omega), hf (t + 1) (by omega), hf t (by omega), if_neg (by omega), if_neg (by omega), lN_add, ch_s, Nat.add_comm]
    have key := ih (vp_updL f (t + 1) (lN (ch (r + 1) (t + 1)))) (by omega) (fun j hj => by
      by_cases ej : j = t + 1
      · subst ej; rw [pk_uLs, if_pos (by omega)]
      · rw [pk_uLn ej, hf j hj]
        by_cases h : t + 1 < j
        · rw [if_pos h, if_pos (by omega)]
        · rw [if_neg h, if_neg (by omega)])
    show q_M_signs_131N K (t + 1) x3 x4 x5 (nI (r + 1)) (nI t) (m_ways_s v (vp_updL f (nI (t + 1)).toNatClampNeg (f (nI (t + 1)).toNatClampNeg + f (nI (t + 1) - 1).toNatClampNeg))) post
    rw [e, nI_clamp (by omega)]
    exact key
theorem lM_pas_l {t w l : Nat} (hn : w + l ≤ 24) (ht : 2 ≤ t) (ht3 : t ≤ 3) (hpost : ∀ f, post (sgV t w l) (m_ways_s v f)) : ∀ d r (f : Nat → Int64), r + d = w + l → (∀ j, j < 25 → f j = lN (ch r j)) → q_M_signs_117N (d + 1) (nI t) (nI w) (nI l) (nI (r + 1)) (m_ways_s v f) post := by
  intro d
  induction d with
  | zero =>
    intro r f hr hf
    have : r = w + l := by omega
    subst this
    rw [q_M_signs_117N]
    unfold q_M_signs_117
    dsimp only
    rw [nI_add]
    refine pk_lt (w + l) (w + l + 1) (fun _ => ?_) (fun z => absurd z (by omega))
    rw [shl_n (w + l) (by omega)]
    exact ⟨_, lM_tw_l hn f hf ht ht3 (hpost f) (min w l + 1) 0 (by omega)⟩
  | succ d ih =>
    intro r f hr hf
    rw [q_M_signs_117N]
    unfold q_M_signs_117
    dsimp only
    rw [nI_add]
    refine pk_lt (w + l) (r + 1) (fun z => absurd z (by omega)) (fun _ => ?_)
    refine ⟨r + 1 + 1, lM_pas_i (K := fun x3 x4 x5 x6 u => q_M_signs_117N (d + 1) x3 x4 x5 x6 u post) (by omega) (fun f' hf' => ih (r + 1) f' (by omega) hf') (r + 1) f (Nat.le_refl _) (fun j hj => ?_)⟩
    rw [hf j hj]
    by_cases e : r + 1 < j
    · rw [if_pos e, ch_gt r j (by omega), ch_gt (r + 1) j (by omega)]
    · rw [if_neg e]
theorem lM_ini_l {x3 x4 x5 : Int32} (hpost : ∀ f : Nat → Int64, (∀ j, j < 25 → f j = lN (ch 0 j)) → ∃ n, q_M_signs_117N n x3 x4 x5 1 (m_ways_s v f) post) : ∀ d k (f : Nat → Int64), k + d = 25 → (∀ j, j < k → f j = lN (ch 0 j)) → q_M_signs_84N (d + 1) x3 x4 x5 (nI k) (m_ways_s v f) post := by
  intro d
  induction d with
  | zero =>
    intro k f hk hf
    rw [q_M_signs_84N]
    unfold q_M_signs_84
    dsimp only
    exact pk_le 25 k (fun _ => hpost f (fun j hj => hf j (by omega))) (fun z => absurd z (by omega))
  | succ d ih =>
    intro k f hk hf
    rw [q_M_signs_84N]
    unfold q_M_signs_84 q_M_signs_107
    dsimp only
    have hi : vp_in (nI k) 25 := pk_in k 25 (by omega)
    have key : ∀ x, x = lN (ch 0 k) → q_M_signs_84N (d + 1) x3 x4 x5 (nI k + 1) (m_ways_s v (vp_updL f (nI k).toNatClampNeg x)) post := by
      intro x hx
      subst hx
      rw [nI_1, nI_clamp (by omega)]
      refine ih (k + 1) _ (by omega) (fun j hj => ?_)
      by_cases e : j = k
      · subst e; exact pk_uLs
      · rw [pk_uLn e]; exact hf j (by omega)
    refine pk_le 25 k (fun z => absurd z (by omega)) (fun _ => pk_ne k 0 (fun h0 => ⟨hi, key 0 ?_⟩) (fun h0 => ⟨hi, key 1 ?_⟩))
    · rw [ch_gt 0 k (by omega)]; rfl
    · rw [h0, ch_0]; rfl
end PUO
section PUP
variable {cn bt er : Nat → Nat} {fl : Nat → Bool} {u : CT} {v : MT} {C P a b t : Nat}
theorem lM_signs {post : Int64 → MT → Prop} (hG : GI cn fl bt er) (h : PM cn fl bt er v) (hC : C ≤ 8) (hP : P ≤ 24) (mC : m_coders v = nI C) (mP : m_pictures v = nI P) (ha : a < C) (hb : b < C) (ht : t ≤ 3) (hpost : ∀ f, post (sgV t (ltN cn bt a b P) (ltN cn bt b a P)) (m_ways_s (m_code_s v 0) f)) : q_M_signs (nI a) (nI b) (nI t) v post := by
  have hs := lt_sum cn bt a b P
  unfold q_M_signs
  refine lM_coder_ok mC hC ha (br_y rfl (lM_coder_ok mC hC hb (br_t rfl (isIn_ok 0 3 t (by omega) ht (by omega) (br_z (by decide) ?_)))))
  unfold q_M_signs_38
  refine rf_ok (lM_less (v := m_code_s v 0) hG h hP mP (by omega) (by omega) (lM_less (v := m_code_s v 0) hG h hP mP (by omega) (by omega) ?_))
  refine pk_le 2 t (fun h2 => ?_) (fun h2 => pk_ne t 0 (fun h0 => ?_) (fun h0 => ?_))
  · refine ⟨_, lM_ini_l (v := m_code_s v 0) (fun f hf => ⟨_, lM_pas_l (v := m_code_s v 0) (by omega) h2 ht hpost (ltN cn bt a b P + ltN cn bt b a P) 0 f (by omega) hf⟩) 25 0 (m_ways v) (by omega) (fun j hj => absurd hj (by omega))⟩
  · have := hpost (m_ways v)
    unfold sgV at this
    rw [if_neg h0, if_pos (by omega)] at this
    rw [nI_toInt64 (by omega)]
    exact this
  · have := hpost (m_ways v)
    unfold sgV at this
    rw [if_pos h0] at this
    rw [nI_toInt64 (by omega)]
    exact this
theorem lX_signs {post : Int64 → CT → Prop} {ex : String → CT → Prop} (hG : GI cn fl bt er) (h : PX cn fl bt er u) (hC : C ≤ 8) (hP : P ≤ 24) (xC : x_coders u = nI C) (xP : x_pictures u = nI P) (ha : a < C) (hb : b < C) (ht : t ≤ 3) (hpost : ∀ f y, post (sgV t (ltN cn bt a b P) (ltN cn bt b a P)) (x_leadCount_s (x_leads_s u f) y)) : q_X_signs (nI a) (nI b) (nI t) u post ex := by
  have hs := lt_sum cn bt a b P
  unfold q_X_signs
  refine lX_coder_ok xC hC ha (lX_coder_ok xC hC hb (in_br 0 3 t (by omega) ht (by omega) ?_))
  refine lX_leads hG h hP xP (by omega) (by omega) (fun f hf => ?_)
  refine lX_wins_l (u := x_leadCount_s (x_leads_s u f) (nI (boN cn a b P))) hG hP (by omega) (by omega) rfl hf ?_ P 0 (by omega)
  refine lX_loss_l (u := x_leadCount_s (x_leads_s u f) (nI (boN cn a b P))) hG hP (by omega) (by omega) rfl hf ?_ P 0 (by omega)
  have hq := hpost f (nI (boN cn a b P))
  generalize ltN cn bt a b P = w at hs hq ⊢
  generalize ltN cn bt b a P = l at hs hq ⊢
  unfold sgV at hq
  rw [nI_toInt (by omega), nI_toInt64 (by omega), nI_toInt64 (by omega)]
  refine br_c (fun h0 => ?_) (fun h0 => br_c (fun h1 => ?_) (fun h1 => ?_))
  · rw [if_pos (by omega)] at hq; exact hq
  · rw [if_neg (by omega), if_pos (by omega)] at hq; exact hq
  · rw [if_neg (by omega), if_neg (by omega)] at hq
    unfold q_X_signs_106
    have em : (if nI l < nI w then nI l else nI w) = nI (min w l) := by
      by_cases hlw : l < w
      · rw [if_pos (nI_lt hlw (by omega)), Nat.min_eq_right (by omega)]
      · rw [if_neg (nI_nlt (by omega) (by omega)), Nat.min_eq_left (by omega)]
    rw [em, nI_add]
    refine pk_ne t 2 (fun h2 => ?_) (fun h2 => ?_)
    · rw [if_neg h2] at hq
      exact lX_odds (by omega) (by omega) hq
    · rw [if_pos h2] at hq
      exact lX_odds (by omega) (by omega) hq
end PUP
section PUQ
variable {L : Nat} {xs : Nat → Int32} {i : Int32} {u : CT} {v : MT} {o : Nat → Int64}
theorem st_13 (h : Rel u v) (h1 : vp_in (i + 1) L) (h2 : vp_in (i + 2) L) (h3 : vp_in (i + 3) L) : q_law_13 L xs i u v o RR := by
  obtain ⟨C, P, cn, fl, bt, er, F, fp, T, tx, hI, hX, hM⟩ := h
  obtain ⟨iC, iP, iG, iF, iT, ix⟩ := id hI
  obtain ⟨xC, xP, xG, xF, xT, xx⟩ := id hX
  obtain ⟨mC, mP, mG, mF, mT, mx⟩ := id hM
  have hR : ∀ k, Rel u (m_code_s v k) := fun k => ⟨C, P, cn, fl, bt, er, F, fp, T, tx, hI, hX, hM⟩
  unfold q_law_13 qh_W_signs
  refine ⟨h1, h2, h3, ?_⟩
  generalize xs (i + 1).toNatClampNeg = a
  generalize xs (i + 2).toNatClampNeg = b
  generalize xs (i + 3).toNatClampNeg = c
  have rbad : ∀ {Q : MT → Prop}, Q (m_code_s v 1) → (bad a C ∨ bad b C) → ∀ post, (∀ v', Q v' → post 0 v') → q_M_signs a b c v post := by
    intro Q hQ hb post hp
    unfold q_M_signs
    rcases okbad a (C := C) (by omega) with h1 | ⟨c1, hc1, rfl⟩
    · refine lM_coder_no mC h1 (br_z (by decide) ?_)
      unfold q_M_signs_17 q_M_signs_38
      exact rf_no 1 (h := hp _ hQ)
    · refine lM_coder_ok mC iC hc1 (br_y rfl (lM_coder_no mC ?_ (br_f (by decide) ?_)))
      · rcases hb with hb | hb
        · exfalso
          rcases hb with hb | hb
          · exact nI_pos (by omega) hb
          · exact nI_ge hc1 (by omega) hb
        · exact hb
      · unfold q_M_signs_17 q_M_signs_38
        exact rf_no 1 (h := hp _ hQ)
  have endbad : (bad a C ∨ bad b C) → ∀ {o' : Nat → Int64}, q_M_signs a b c v (fun r4 u5 => q_M_thrown u5 (fun r6 u7 => ((r6 = 1 → ((¬ (1 : Int32) = 0 → RR u u7 o') ∧ ((1 : Int32) = 0 → (((lg_cmp (o' (0 : Int32).toNatClampNeg) r4) = 0 → RR u u7 o') ∧ (¬ (lg_cmp (o' (0 : Int32).toNatClampNeg) r4) = 0 → False))))) ∧ (¬ r6 = 1 → False)))) := by
    intro hb o'
    refine rbad (Q := fun v' => v' = m_code_s v 1) rfl hb _ (fun v' e => ?_)
    subst e
    unfold q_M_thrown
    exact tl_ex (by decide) rfl (hR _)
  rcases okbad a (C := C) (by omega) with hb | ⟨a, ha, rfl⟩
  · unfold q_X_signs
    exact lX_coder_no xC hb (Or.inl ⟨rfl, h1, h2, h3, endbad (Or.inl hb)⟩)
  rcases okbad b (C := C) (by omega) with hb | ⟨b, hb, rfl⟩
  · unfold q_X_signs
    exact lX_coder_ok xC iC ha (lX_coder_no xC hb (Or.inl ⟨rfl, h1, h2, h3, endbad (Or.inr hb)⟩))
  rcases rng c 0 3 (by omega) (by omega) with hc | ⟨t, -, ht, rfl⟩
  · unfold q_X_signs
    refine lX_coder_ok xC iC ha (lX_coder_ok xC iC hb (out_br hc (Or.inr ⟨rfl, h1, h2, h3, ?_⟩)))
    unfold q_M_signs
    refine lM_coder_ok mC iC ha (br_y rfl (lM_coder_ok mC iC hb (br_t rfl (isIn_no hc (by omega) (by omega) (br_y rfl ?_)))))
    unfold q_M_signs_38
    refine rf_no 2 (h := ?_)
    unfold q_M_thrown
    exact tl_ex (by decide) rfl (hR _)
  refine lX_signs iG xG iC iP xC xP ha hb ht (fun f y => ⟨h1, h2, h3, lM_signs iG mG iC iP mC mP ha hb ht (fun g => ?_)⟩)
  unfold q_M_thrown
  exact tl_ok rfl rfl ⟨C, P, cn, fl, bt, er, F, fp, T, tx, hI, hX, hM⟩
end PUQ
