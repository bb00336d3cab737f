/-! ===== the pure part, 4: point, fails, failing, sum, charAt ===== -/
theorem l32_lt {p : Int32} {n : Nat} (h : n < 2 ^ 31) : p.toInt64 < lN n ↔ p < nI n := by
  rw [Int64.lt_iff_toInt_lt, Int32.lt_iff_toInt_lt, Int32.toInt_toInt64, lN_toInt h, nI_toInt h]
theorem l32_gt {p : Int32} {n : Nat} (h : n < 2 ^ 31) : lN n < p.toInt64 ↔ nI n < p := by
  rw [Int64.lt_iff_toInt_lt, Int32.lt_iff_toInt_lt, Int32.toInt_toInt64, lN_toInt h, nI_toInt h]
def out (p : Int32) (lo hi : Nat) : Prop := p < nI lo ∨ nI hi < p
theorem rng (p : Int32) (lo hi : Nat) (hl : lo < 2 ^ 31) (hh : hi < 2 ^ 31) : out p lo hi ∨ ∃ b, lo ≤ b ∧ b ≤ hi ∧ p = nI b := by
  by_cases h1 : p < nI lo
  · exact Or.inl (Or.inl h1)
  by_cases h2 : nI hi < p
  · exact Or.inl (Or.inr h2)
  have e1 := Int32.not_lt.mp h1
  have e2 := Int32.not_lt.mp h2
  have h0 : ¬ p < 0 := by
    intro z
    rw [Int32.lt_iff_toInt_lt] at z
    rw [Int32.le_iff_toInt_le, nI_toInt hl] at e1
    have : (0 : Int32).toInt = 0 := rfl
    omega
  obtain ⟨b, hb, rfl⟩ := nI_of h0
  exact Or.inr ⟨b, (nI_leI hl hb).mp e1, (nI_leI hb hh).mp e2, rfl⟩
theorem out_br {p y z : Int32} {A B : Prop} {lo hi : Nat} (h : out p lo hi) (a : A) (hy : y = nI lo := by rfl) (hz : z = nI hi := by rfl) : (p < y → A) ∧ (¬ p < y → ((p ≤ z → B) ∧ (¬ p ≤ z → A))) := by
  subst hy hz
  refine ⟨fun _ => a, fun h0 => ⟨fun h2 => ?_, fun _ => a⟩⟩
  rcases h with h | h
  · exact absurd h h0
  · exact absurd h (Int32.not_lt.mpr h2)
theorem in_br {y z : Int32} {A B D : Prop} (lo hi b : Nat) (h1 : lo ≤ b) (h2 : b ≤ hi) (hh : hi < 2 ^ 31) (g : B) (hy : y = nI lo := by rfl) (hz : z = nI hi := by rfl) : (nI b < y → A) ∧ (¬ nI b < y → ((nI b ≤ z → B) ∧ (¬ nI b ≤ z → D))) := by
  subst hy hz
  exact ⟨fun z => absurd z (nI_nlt h1 (by omega)), fun _ => ⟨fun _ => g, fun z => absurd (nI_le h2 hh) z⟩⟩
theorem isIn_no {v : MT} {post : Int32 → MT → Prop} {p : Int32} {y z : Int64} {lo hi : Nat} (h : out p lo hi) (hl : lo < 2 ^ 31) (hh : hi < 2 ^ 31) (g : post 0 v) (hy : y = lN lo := by rfl) (hz : z = lN hi := by rfl) : q_M_isIn p.toInt64 y z v post := by
  subst hy hz
  unfold q_M_isIn
  rw [lg_cmp_lt, lg_cmp_gt, l32_lt hl, l32_gt hh]
  refine ⟨fun _ => ⟨nb0, g⟩, fun h0 => ⟨fun _ => ⟨nb0, g⟩, fun h2 => ?_⟩⟩
  rcases h with h | h
  · exact absurd h h0
  · exact absurd h h2
theorem isIn_ok {v : MT} {post : Int32 → MT → Prop} {y z : Int64} (lo hi b : Nat) (h1 : lo ≤ b) (h2 : b ≤ hi) (hh : hi < 2 ^ 31) (g : post 1 v) (hy : y = lN lo := by rfl) (hz : z = lN hi := by rfl) : q_M_isIn (nI b).toInt64 y z v post := by
  subst hy hz
  unfold q_M_isIn
  rw [lg_cmp_lt, lg_cmp_gt, l32_lt (by omega), l32_gt hh]
  exact ⟨fun z => absurd z (nI_nlt h1 (by omega)), fun _ => ⟨fun z => absurd z (nI_nlt h2 hh), fun _ => ⟨nb1, g⟩⟩⟩
section PUG
variable {L : Nat} {xs : Nat → Int32} {i : Int32} {u : CT} {v : MT} {o : Nat → Int64}
theorem st_2 (h : Rel u v) (h1 : vp_in (i + 1) L) (h2 : vp_in (i + 2) L) (h3 : vp_in (i + 3) L) (h4 : vp_in (i + 4) L) : q_law_2 L xs i u v o RR := by
  obtain ⟨C, P, cn, fl, bt, er, F, fp, T, tx, hI, hX, hM⟩ := h
  obtain ⟨iC, iP, iG, iF, iT, ix⟩ := id hI
  obtain ⟨xC, xP, xG, xF, xT, xx⟩ := id hX
  obtain ⟨mC, mP, mG, mF, mT, mx⟩ := id hM
  have hR : ∀ k, Rel u (m_code_s v k) := fun k => ⟨C, P, cn, fl, bt, er, F, fp, T, tx, hI, hX, hM⟩
  unfold q_law_2 qh_W_point
  refine ⟨h1, h2, h3, h4, ?_⟩
  generalize xs (i + 1).toNatClampNeg = a
  generalize xs (i + 2).toNatClampNeg = b
  generalize xs (i + 3).toNatClampNeg = c
  generalize xs (i + 4).toNatClampNeg = d
  rcases pairsplit a b iC iP with hb | ⟨c0, k0, hc0, hk0, rfl, rfl⟩
  · unfold q_X_point
    refine lX_pair_no xC iC xP hb (Or.inl ⟨rfl, h1, h2, h3, h4, ?_⟩)
    unfold q_M_point
    refine lM_pair_no mC iC mP hb (br_f (by decide) ?_)
    unfold q_M_point_23 q_M_point_95
    refine br_f (by decide) (rf_no 1 (h := ?_))
    unfold q_M_thrown
    exact tl_ex (by decide) rfl (hR _)
  have hp : 24 * c0 + k0 < 192 := by omega
  generalize hpp : 24 * c0 + k0 = p at hp
  have ep : 24 * nI c0 + nI k0 = nI p := by rw [iy24, hpp]
  unfold q_X_point
  refine lX_pair_ok xC iC xP iP hc0 hk0 ?_
  rw [hpp]
  rcases rng c 1 1000000000 (by omega) (by omega) with hb | ⟨b1, hb1, hb2, rfl⟩
  · refine out_br hb (Or.inr (Or.inl ⟨rfl, h1, h2, h3, h4, ?_⟩))
    unfold q_M_point
    refine lM_pair_ok mC iC mP iP hc0 hk0 (br_t rfl ?_)
    rw [ep]
    unfold q_M_point_23
    refine br_t rfl (isIn_no hb (by omega) (by omega) (br_t rfl ?_))
    unfold q_M_point_60 q_M_point_95
    refine rf_no 2 (h := ?_)
    unfold q_M_thrown
    exact tl_ex (by decide) rfl (hR _)
  refine in_br 1 1000000000 b1 hb1 hb2 (by omega) ?_
  rcases rng d 0 1000000000 (by omega) (by omega) with hb | ⟨e1, -, he2, rfl⟩
  · refine out_br hb (Or.inr (Or.inl ⟨rfl, h1, h2, h3, h4, ?_⟩))
    unfold q_M_point
    refine lM_pair_ok mC iC mP iP hc0 hk0 (br_t rfl ?_)
    rw [ep]
    unfold q_M_point_23
    refine br_t rfl (isIn_ok 1 1000000000 b1 hb1 hb2 (by omega) (br_f (by decide) (isIn_no hb (by omega) (by omega) (br_y rfl ?_))))
    unfold q_M_point_60 q_M_point_95
    refine rf_no 2 (h := ?_)
    unfold q_M_thrown
    exact tl_ex (by decide) rfl (hR _)
  refine in_br 0 1000000000 e1 (by omega) he2 (by omega) ?_
  refine ⟨pk_in p 192 hp, ?_⟩
  have hh := mG.2.1 p hp
  have hc : m_count v p = nI (cn p) := mG.1 p hp
  rw [nI_clamp (by omega), xG.1 p hp]
  by_cases hf : fl p = true
  · rw [if_pos hf]
    refine br_y rfl (Or.inr (Or.inr (Or.inl ⟨rfl, h1, h2, h3, h4, ?_⟩)))
    unfold q_M_point
    refine lM_pair_ok mC iC mP iP hc0 hk0 (br_t rfl ?_)
    rw [ep]
    unfold q_M_point_23
    refine br_t rfl (isIn_ok 1 1000000000 b1 hb1 hb2 (by omega) (br_f (by decide) (isIn_ok 0 1000000000 e1 (by omega) he2 (by omega) (br_z (by decide) ⟨pk_in p 192 hp, ?_⟩))))
    rw [nI_clamp (by omega), hh, if_pos hf]
    refine br_f (by decide) ?_
    unfold q_M_point_95
    refine rf_no 3 (h := ?_)
    unfold q_M_thrown
    exact tl_ex (by decide) rfl (hR _)
  have h6 := iG.cn6 hp
  rw [if_neg hf]
  have hm1 : ¬ nI (cn p) = -1 := by
    intro z
    have := congrArg Int32.toInt z
    rw [nI_toInt (by omega)] at this
    have e : (-1 : Int32).toInt = -1 := rfl
    omega
  refine br_z hm1 ⟨pk_in p 192 hp, ?_⟩
  refine pk_lt (cn p) 6 (fun hn => ?_) (fun hn => ?_)
  · refine lX_add hI hX hp (by simpa using hf) hn hb2 (fun u' hX' hl => ⟨pk_in p 192 hp, h1, h2, h3, h4, ?_⟩)
    unfold q_M_point
    refine lM_pair_ok mC iC mP iP hc0 hk0 (br_t rfl ?_)
    rw [ep]
    unfold q_M_point_23
    refine br_t rfl (isIn_ok 1 1000000000 b1 hb1 hb2 (by omega) (br_f (by decide) (isIn_ok 0 1000000000 e1 (by omega) he2 (by omega) (br_z (by decide) ⟨pk_in p 192 hp, ?_⟩))))
    rw [nI_clamp (by omega), hh, if_neg hf]
    refine br_t rfl ⟨pk_in p 192 hp, ?_⟩
    refine pk_ne (cn p) 6 (fun _ => ?_) (fun z => absurd z (by omega)) hc
    unfold q_M_point_95
    refine rf_ok ?_
    refine lM_add hI (v := m_code_s v 0) hM hp hn (fun v' hM' hs hc' => ⟨pk_in p 192 hp, ?_⟩)
    unfold q_M_thrown
    refine tl_ok hc' ?_ ⟨_, _, _, _, _, _, _, _, _, _, II_add hI hp (by simpa using hf) hn hb1 hb2 he2, hX', hM'⟩
    rw [nI_clamp (by omega), hX'.2.2.1.1 p hp, if_neg hf, hM'.2.2.1.1 p hp]
  · refine Or.inr (Or.inr (Or.inr ⟨rfl, h1, h2, h3, h4, ?_⟩))
    unfold q_M_point
    refine lM_pair_ok mC iC mP iP hc0 hk0 (br_t rfl ?_)
    rw [ep]
    unfold q_M_point_23
    refine br_t rfl (isIn_ok 1 1000000000 b1 hb1 hb2 (by omega) (br_f (by decide) (isIn_ok 0 1000000000 e1 (by omega) he2 (by omega) (br_z (by decide) ⟨pk_in p 192 hp, ?_⟩))))
    rw [nI_clamp (by omega), hh, if_neg hf]
    refine br_t rfl ⟨pk_in p 192 hp, ?_⟩
    refine pk_ne (cn p) 6 (fun z => absurd (by omega) z) (fun _ => ?_) hc
    unfold q_M_point_95
    refine rf_no 4 (h := ?_)
    unfold q_M_thrown
    exact tl_ex (by decide) rfl (hR _)
theorem st_3 (h : Rel u v) (h1 : vp_in (i + 1) L) (h2 : vp_in (i + 2) L) : q_law_3 L xs i u v o RR := by
  obtain ⟨C, P, cn, fl, bt, er, F, fp, T, tx, hI, hX, hM⟩ := h
  obtain ⟨iC, iP, iG, iF, iT, ix⟩ := id hI
  obtain ⟨xC, xP, xG, xF, xT, xx⟩ := id hX
  obtain ⟨mC, mP, mG, mF, mT, mx⟩ := id hM
  have hR : ∀ k, Rel u (m_code_s v k) := fun k => ⟨C, P, cn, fl, bt, er, F, fp, T, tx, hI, hX, hM⟩
  unfold q_law_3 qh_W_fails
  refine ⟨h1, h2, ?_⟩
  generalize xs (i + 1).toNatClampNeg = a
  generalize xs (i + 2).toNatClampNeg = b
  rcases pairsplit a b iC iP with hb | ⟨c0, k0, hc0, hk0, rfl, rfl⟩
  · unfold q_X_fails
    refine lX_pair_no xC iC xP hb (Or.inl ⟨rfl, h1, h2, ?_⟩)
    unfold q_M_fails
    refine lM_pair_no mC iC mP hb (br_f (by decide) ?_)
    unfold q_M_fails_21 q_M_fails_47
    refine br_f (by decide) (rf_no 1 (h := ?_))
    unfold q_M_thrown
    exact tl_ex (by decide) rfl (hR _)
  have hp : 24 * c0 + k0 < 192 := by omega
  generalize hpp : 24 * c0 + k0 = p at hp
  have ep : 24 * nI c0 + nI k0 = nI p := by rw [iy24, hpp]
  unfold q_X_fails
  refine lX_pair_ok xC iC xP iP hc0 hk0 ?_
  rw [hpp]
  refine ⟨pk_in p 192 hp, ?_⟩
  have hh := mG.2.1 p hp
  have hc : m_count v p = nI (cn p) := mG.1 p hp
  rw [nI_clamp (by omega), xG.1 p hp]
  by_cases hf : fl p = true
  · rw [if_pos hf]
    refine br_y rfl (Or.inr ⟨rfl, h1, h2, ?_⟩)
    unfold q_M_fails
    refine lM_pair_ok mC iC mP iP hc0 hk0 (br_t rfl ?_)
    rw [ep]
    unfold q_M_fails_21
    refine br_t rfl ⟨pk_in p 192 hp, ?_⟩
    rw [nI_clamp (by omega), hh, if_pos hf]
    refine br_f (by decide) ?_
    unfold q_M_fails_47
    refine rf_no 2 (h := ?_)
    unfold q_M_thrown
    exact tl_ex (by decide) rfl (hR _)
  have h6 := iG.cn6 hp
  rw [if_neg hf]
  have hf2 : fl p = false := by simpa using hf
  have hm1 : ¬ nI (cn p) = -1 := by
    intro z
    have := congrArg Int32.toInt z
    rw [nI_toInt (by omega)] at this
    have e : (-1 : Int32).toInt = -1 := rfl
    omega
  refine br_z hm1 (lX_mark hI hX hp hf2 (fun u' hX' hl => ⟨h1, h2, ?_⟩))
  unfold q_M_fails
  refine lM_pair_ok mC iC mP iP hc0 hk0 (br_t rfl ?_)
  rw [ep]
  unfold q_M_fails_21
  refine br_t rfl ⟨pk_in p 192 hp, ?_⟩
  rw [nI_clamp (by omega), hh, if_neg hf]
  refine br_t rfl ?_
  unfold q_M_fails_47
  refine rf_ok ⟨pk_in p 192 hp, ?_⟩
  refine lM_fail hI (v := m_code_s v 0) hM hp hf2 (fun v' hM' hs hc' => ?_)
  unfold q_M_thrown
  refine tl_ok hc' ?_ ⟨_, _, _, _, _, _, _, _, _, _, II_fail hI hp hf2, hX', hM'⟩
  show _ = (m_count v _).toInt64
  rw [nI_clamp (by omega), hc]
theorem st_5 (h : Rel u v) (h1 : vp_in (i + 1) L) (h2 : vp_in (i + 2) L) : q_law_5 L xs i u v o RR := by
  obtain ⟨C, P, cn, fl, bt, er, F, fp, T, tx, hI, hX, hM⟩ := h
  obtain ⟨iC, iP, iG, iF, iT, ix⟩ := id hI
  obtain ⟨xC, xP, xG, xF, xT, xx⟩ := id hX
  obtain ⟨mC, mP, mG, mF, mT, mx⟩ := id hM
  have hR : ∀ k, Rel u (m_code_s v k) := fun k => ⟨C, P, cn, fl, bt, er, F, fp, T, tx, hI, hX, hM⟩
  have hF : F ≤ 192 := by rw [iF.1]; exact nf_le _ _
  unfold q_law_5 qh_W_failing
  refine ⟨h1, h2, ?_⟩
  generalize xs (i + 1).toNatClampNeg = a
  generalize xs (i + 2).toNatClampNeg = b
  unfold q_X_failing
  rcases okbad a (C := F) (by omega) with hb | ⟨k, hk, rfl⟩
  · refine bad_br hb xF.1 (Or.inl ⟨rfl, h1, h2, ?_⟩)
    unfold q_M_failing
    refine bad_br hb mF.1 ?_
    unfold q_M_failing_13 q_M_failing_31
    refine rf_no 1 (h := ?_)
    unfold q_M_thrown
    exact tl_ex (by decide) rfl (hR _)
  refine ok_br hk (by omega) xF.1 ?_
  have e1 := xF.2 k hk
  have e2 := mF.2 k hk
  by_cases hb0 : b = 0
  · subst hb0
    refine br_t rfl ?_
    unfold q_X_failing_41
    refine ⟨pk_in k 192 (by omega), br_y rfl ⟨by decide, h1, h2, ?_⟩⟩
    unfold q_M_failing
    refine ok_br hk (by omega) mF.1 (br_t rfl ?_)
    unfold q_M_failing_30 q_M_failing_31
    refine rf_ok (br_y rfl ⟨pk_in k 192 (by omega), by decide, ?_⟩)
    unfold q_M_thrown
    refine tl_ok rfl ?_ (hR _)
    show (x_failedPairs u _ / 24).toInt64 = (m_failure v _ / 24).toInt64
    rw [nI_clamp (by omega), e1, e2]
  refine br_f hb0 ?_
  by_cases hb1 : b = 1
  · subst hb1
    refine br_t rfl ?_
    unfold q_X_failing_41
    refine ⟨pk_in k 192 (by omega), br_z hb0 ⟨by decide, h1, h2, ?_⟩⟩
    unfold q_M_failing
    refine ok_br hk (by omega) mF.1 (br_f hb0 (br_t rfl ?_))
    unfold q_M_failing_30 q_M_failing_31
    refine rf_ok (br_z hb0 ⟨pk_in k 192 (by omega), by decide, ?_⟩)
    unfold q_M_thrown
    refine tl_ok rfl ?_ (hR _)
    show (x_failedPairs u _ - x_failedPairs u _ / 24 * 24).toInt64 = (m_failure v _ - m_failure v _ / 24 * 24).toInt64
    rw [nI_clamp (by omega), e1, e2]
  refine br_f hb1 (Or.inr ⟨rfl, h1, h2, ?_⟩)
  unfold q_M_failing
  refine ok_br hk (by omega) mF.1 (br_f hb0 (br_f hb1 ?_))
  unfold q_M_failing_31
  refine rf_no 2 (h := ?_)
  unfold q_M_thrown
  exact tl_ex (by decide) rfl (hR _)
theorem st_7 (h : Rel u v) (h1 : vp_in (i + 1) L) : q_law_7 L xs i u v o RR := by
  obtain ⟨C, P, cn, fl, bt, er, F, fp, T, tx, hI, hX, hM⟩ := h
  obtain ⟨iC, iP, iG, iF, iT, ix⟩ := id hI
  obtain ⟨xC, xP, xG, xF, xT, xx⟩ := id hX
  obtain ⟨mC, mP, mG, mF, mT, mx⟩ := id hM
  have hR : ∀ k, Rel u (m_code_s v k) := fun k => ⟨C, P, cn, fl, bt, er, F, fp, T, tx, hI, hX, hM⟩
  unfold q_law_7 qh_W_sum
  refine ⟨h1, ?_⟩
  generalize xs (i + 1).toNatClampNeg = a
  unfold q_X_sum
  rcases okbad a (C := C) (by omega) with hb | ⟨c, hc, rfl⟩
  · refine lX_coder_no xC hb ⟨rfl, h1, ?_⟩
    unfold q_M_sum
    refine lM_coder_no mC hb (br_f (by decide) ?_)
    unfold q_M_sum_14
    refine rf_no 1 (h := ?_)
    unfold q_M_thrown
    exact tl_ex (by decide) rfl (hR _)
  have hcn := cnN_le cn c P
  refine lX_coder_ok xC iC hc (lX_countedOf iG xG xP iP (by omega) ?_)
  refine pk_ne (cnN cn c P) 0 (fun h0 => lX_sumOf iG xG xP iP (by omega) ⟨h1, ?_⟩) (fun h0 => ⟨h1, ?_⟩)
  · unfold q_M_sum
    refine lM_coder_ok mC iC hc (br_t rfl ?_)
    unfold q_M_sum_14
    refine rf_ok (lM_countedOf (v := m_code_s v 0) iG mG mP iP (by omega) ?_)
    refine pk_ne (cnN cn c P) 0 (fun _ => lM_sumOf (v := m_code_s v 0) iG mG mP iP (by omega) ?_) (fun z => absurd z h0)
    unfold q_M_thrown
    exact tl_ok rfl rfl (hR _)
  · unfold q_M_sum
    refine lM_coder_ok mC iC hc (br_t rfl ?_)
    unfold q_M_sum_14
    refine rf_ok (lM_countedOf (v := m_code_s v 0) iG mG mP iP (by omega) ?_)
    refine pk_ne (cnN cn c P) 0 (fun z => absurd h0 z) (fun _ => ?_)
    unfold q_M_thrown
    exact tl_ok rfl rfl (hR _)
theorem st_17 (h : Rel u v) (h1 : vp_in (i + 1) L) : q_law_17 L xs i u v o RR := by
  obtain ⟨C, P, cn, fl, bt, er, F, fp, T, tx, hI, hX, hM⟩ := h
  obtain ⟨iC, iP, iG, iF, iT, ix⟩ := id hI
  obtain ⟨xC, xP, xG, xF, xT, xx⟩ := id hX
  obtain ⟨mC, mP, mG, mF, mT, mx⟩ := id hM
  have hR : ∀ k, Rel u (m_code_s v k) := fun k => ⟨C, P, cn, fl, bt, er, F, fp, T, tx, hI, hX, hM⟩
  unfold q_law_17 qh_W_charAt
  refine ⟨h1, ?_⟩
  generalize xs (i + 1).toNatClampNeg = a
  unfold q_X_charAt
  rcases okbad a (C := T) (by omega) with hb | ⟨c, hc, rfl⟩
  · refine bad_br hb xT ⟨rfl, h1, ?_⟩
    unfold q_M_charAt
    refine bad_br hb mT ?_
    unfold q_M_charAt_13 q_M_charAt_18
    refine rf_no 1 (h := ?_)
    unfold q_M_thrown
    exact tl_ex (by decide) rfl (hR _)
  refine ok_br hc (by omega) xT ⟨pk_in c 136 (by omega), h1, ?_⟩
  unfold q_M_charAt
  refine ok_br hc (by omega) mT ?_
  unfold q_M_charAt_18
  refine rf_ok ⟨pk_in c 256 (by omega), ?_⟩
  unfold q_M_thrown
  refine tl_ok rfl ?_ (hR _)
  show (x_chars u _).toInt64 = (m_text v _).toInt64
  rw [nI_clamp (by omega), xx c hc, mx c hc]
end PUG
