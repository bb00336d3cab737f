/-! ===== the pure part, 6: mean, rank, told, clear ===== -/
theorem tl_eq {r1 r3 : Int32} {Q : Prop} (hr : r1 = r3) (h : Q) : (r1 = r3 → Q) ∧ (¬ r1 = r3 → False) := ⟨fun _ => h, fun z => absurd hr z⟩
section PUJ
variable {u : CT} {v : MT}
theorem lX_empty_l {post : CT → Prop} (hpost : ∀ f : Nat → Int32, (∀ p, p < 192 → f p = 0) → post (x_failedCount_s (x_pointCounts_s u f) 0)) : ∀ m k (f : Nat → Int32), k + m = 192 → (∀ p, p < k → f p = 0) → q_X_emptyPairs_2N (m + 1) (nI k) (x_pointCounts_s u f) post := by
  intro m
  induction m with
  | zero =>
    intro k f hk hf
    rw [q_X_emptyPairs_2N]
    unfold q_X_emptyPairs_2
    exact pk_le 192 k (fun _ => hpost f (fun p hp => hf p (by omega))) (fun h => absurd h (by omega))
  | succ m ih =>
    intro k f hk hf
    rw [q_X_emptyPairs_2N]
    unfold q_X_emptyPairs_2
    refine pk_le 192 k (fun h => absurd h (by omega)) (fun _ => ⟨pk_in k 192 (by omega), ?_⟩)
    rw [nI_1]
    refine ih (k + 1) (upd f (nI k).toNatClampNeg 0) (by omega) (fun p hp => ?_)
    rw [nI_clamp (by omega)]
    by_cases e : p = k
    · subst e; exact pk_us
    · rw [pk_un e]; exact hf p (by omega)
theorem lX_empty {post : CT → Prop} (hpost : ∀ f : Nat → Int32, (∀ p, p < 192 → f p = 0) → post (x_failedCount_s (x_pointCounts_s u f) 0)) : q_X_emptyPairs u post :=
  ⟨_, lX_empty_l hpost 192 0 (x_pointCounts u) (by omega) (fun p hp => absurd hp (by omega))⟩
theorem lM_clear_l {post : MT → Prop} (hpost : ∀ f g : Nat → Int32, (∀ p, p < 192 → f p = 0 ∧ g p = 0) → post (m_hasFailed_s (m_count_s v f) g)) : ∀ m k (f g : Nat → Int32), k + m = 192 → (∀ p, p < k → f p = 0 ∧ g p = 0) → q_M_clear_27N (m + 1) (nI k) (m_hasFailed_s (m_count_s v f) g) post := by
  intro m
  induction m with
  | zero =>
    intro k f g hk hf
    rw [q_M_clear_27N]
    unfold q_M_clear_27
    exact pk_le 192 k (fun _ => hpost f g (fun p hp => hf p (by omega))) (fun h => absurd h (by omega))
  | succ m ih =>
    intro k f g hk hf
    rw [q_M_clear_27N]
    unfold q_M_clear_27
    refine pk_le 192 k (fun h => absurd h (by omega)) (fun _ => ⟨pk_in k 192 (by omega), pk_in k 192 (by omega), ?_⟩)
    rw [nI_1]
    refine ih (k + 1) (upd f (nI k).toNatClampNeg 0) (upd g (nI k).toNatClampNeg (vp_nar .boolean 0)) (by omega) (fun p hp => ?_)
    rw [nI_clamp (by omega)]
    by_cases e : p = k
    · subst e; rw [pk_us, pk_us]; exact ⟨rfl, rfl⟩
    · rw [pk_un e, pk_un e]; exact hf p (by omega)
theorem nf_0 : ∀ k, nf (fun _ => false) k = 0
  | 0 => rfl
  | k + 1 => by
    simp only [nf]
    rw [nf_0 k, if_neg (by decide)]
theorem GI_0 {bt er : Nat → Nat} : GI (fun _ => 0) (fun _ => false) bt er := ⟨fun p _ => ⟨Nat.zero_le _, fun h => rfl⟩, fun p k _ h => absurd h (Nat.not_lt_zero k)⟩
end PUJ
section PUK
variable {L : Nat} {xs : Nat → Int32} {i : Int32} {u : CT} {v : MT} {o : Nat → Int64}
theorem st_19 (h : Rel u v) : q_law_19 L xs i u v o RR := by
  unfold q_law_19 q_X_clear
  refine lX_empty (fun f hf => ?_)
  unfold q_L_start q_M_clear
  refine ⟨_, lM_clear_l (v := m_size_s (m_failures_s (m_pictures_s (m_coders_s (m_code_s v 0) 0) 0) 0) 0) (fun f2 g2 hf2 => ?_) 192 0 (m_count v) (m_hasFailed v) (by omega) (fun p hp => absurd hp (by omega))⟩
  refine ⟨0, 0, fun _ => 0, fun _ => false, fun _ => 0, fun _ => 0, 0, fun _ => 0, 0, fun _ => 0, ⟨by omega, by omega, GI_0, ⟨(nf_0 192).symm, fun k h => absurd h (Nat.not_lt_zero k)⟩, by omega, fun k h => absurd h (Nat.not_lt_zero k)⟩, ?_, ?_⟩
  · exact ⟨rfl, rfl, ⟨fun p hp => hf p hp, fun p _ h => absurd h (Nat.not_lt_zero 0), fun p k _ h => absurd h (Nat.not_lt_zero k)⟩, ⟨rfl, fun k h => absurd h (Nat.not_lt_zero k)⟩, rfl, fun k h => absurd h (Nat.not_lt_zero k)⟩
  · exact ⟨rfl, rfl, ⟨fun p hp => (hf2 p hp).1, fun p hp => (hf2 p hp).2, fun p k _ h => absurd h (Nat.not_lt_zero k)⟩, ⟨rfl, fun k h => absurd h (Nat.not_lt_zero k)⟩, rfl, fun k h => absurd h (Nat.not_lt_zero k)⟩
theorem st_18 (h : Rel u v) (h1 : vp_in (i + 1) L) : q_law_18 L xs i u v o RR := by
  obtain ⟨C, P, cn, fl, bt, er, F, fp, T, tx, hI, hX, hM⟩ := h
  obtain ⟨iC, iP, iG, iF, iT, ix⟩ := id hI
  obtain ⟨xC, xP, xG, xF, xT, xx⟩ := id hX
  obtain ⟨mC, mP, mG, mF, mT, mx⟩ := id hM
  have hR : ∀ k, Rel u (m_code_s v k) := fun k => ⟨C, P, cn, fl, bt, er, F, fp, T, tx, hI, hX, hM⟩
  unfold q_law_18
  refine ⟨h1, lX_told iG xG iC iP xC xP ⟨h1, ?_⟩⟩
  unfold q_M_told
  exact ⟨_, lM_told_l (v := m_code_s v 0) iG mG iC iP mC mP (tl_eq rfl (hR _)) C 0 (by omega)⟩
theorem st_8 (h : Rel u v) (h1 : vp_in (i + 1) L) (h2 : vp_in (i + 2) L) : q_law_8 L xs i u v o RR := by
  obtain ⟨C, P, cn, fl, bt, er, F, fp, T, tx, hI, hX, hM⟩ := h
  obtain ⟨iC, iP, iG, iF, iT, ix⟩ := id hI
  obtain ⟨xC, xP, xG, xF, xT, xx⟩ := id hX
  obtain ⟨mC, mP, mG, mF, mT, mx⟩ := id hM
  have hR : ∀ k, Rel u (m_code_s v k) := fun k => ⟨C, P, cn, fl, bt, er, F, fp, T, tx, hI, hX, hM⟩
  unfold q_law_8 qh_W_mean
  refine ⟨h1, h2, ?_⟩
  generalize xs (i + 1).toNatClampNeg = a
  generalize xs (i + 2).toNatClampNeg = b
  rcases okbad a (C := C) (by omega) with hb | ⟨c, hc, rfl⟩
  · refine br_c (fun hx => ?_) (fun hx => ?_)
    · unfold q_X_mean
      refine lX_coder_no xC hb (Or.inl ⟨rfl, h1, h2, br_t hx (lM_mean_no mC hb ?_)⟩)
      unfold q_M_thrown
      exact tl_ex (by decide) rfl (hR _)
    · unfold q_X_mean
      refine lX_coder_no xC hb (Or.inl ⟨rfl, h1, h2, br_f hx (lM_mean_no mC hb ?_)⟩)
      unfold q_M_thrown
      exact tl_ex (by decide) rfl (hR _)
  · refine br_c (fun hx => ?_) (fun hx => ?_)
    · refine lX_mean iG xG iC iP xC xP hc rfl (fun h0 => Or.inr ⟨rfl, h1, h2, br_t hx (lM_mean iG mG iC iP mC mP hc rfl (fun _ => ?_) (fun z => absurd z (by omega)))⟩) (fun h0 => ⟨h1, h2, br_t hx (lM_mean iG mG iC iP mC mP hc rfl (fun z => absurd z (by omega)) (fun _ => ?_))⟩)
      · unfold q_M_thrown
        exact tl_ex (by decide) rfl (hR _)
      · unfold q_M_thrown
        exact tl_ok rfl rfl (hR _)
    · refine lX_mean iG xG iC iP xC xP hc rfl (fun h0 => Or.inr ⟨rfl, h1, h2, br_f hx (lM_mean iG mG iC iP mC mP hc rfl (fun _ => ?_) (fun z => absurd z (by omega)))⟩) (fun h0 => ⟨h1, h2, br_f hx (lM_mean iG mG iC iP mC mP hc rfl (fun z => absurd z (by omega)) (fun _ => ?_))⟩)
      · unfold q_M_thrown
        exact tl_ex (by decide) rfl (hR _)
      · unfold q_M_thrown
        exact tl_ok rfl rfl (hR _)
theorem st_9 (h : Rel u v) (h1 : vp_in (i + 1) L) : q_law_9 L xs i u v o RR := by
  obtain ⟨C, P, cn, fl, bt, er, F, fp, T, tx, hI, hX, hM⟩ := h
  obtain ⟨iC, iP, iG, iF, iT, ix⟩ := id hI
  obtain ⟨xC, xP, xG, xF, xT, xx⟩ := id hX
  obtain ⟨mC, mP, mG, mF, mT, mx⟩ := id hM
  have hR : ∀ k, Rel u (m_code_s v k) := fun k => ⟨C, P, cn, fl, bt, er, F, fp, T, tx, hI, hX, hM⟩
  unfold q_law_9 qh_W_rank
  refine ⟨h1, ?_⟩
  generalize xs (i + 1).toNatClampNeg = a
  unfold q_X_rank
  rcases okbad a (C := C) (by omega) with hb | ⟨c, hc, rfl⟩
  · refine lX_coder_no xC hb (Or.inl ⟨rfl, h1, ?_⟩)
    unfold q_M_rank
    refine lM_coder_no mC hb (br_f (by decide) ?_)
    unfold q_M_rank_26
    refine rf_no 1 (h := ?_)
    unfold q_M_thrown
    exact tl_ex (by decide) rfl (hR _)
  have hcn := cnN_le cn c P
  refine lX_coder_ok xC iC hc ?_
  unfold q_X_needCounted
  refine lX_countedOf iG xG xP iP (by omega) (pk_ne (cnN cn c P) 0 (fun h0 => ?_) (fun h0 => Or.inr ⟨rfl, h1, ?_⟩))
  · refine lX_rankOf iG xG iC iP xC xP (by omega) ⟨h1, ?_⟩
    unfold q_M_rank
    refine lM_coder_ok mC iC hc (br_t rfl (lM_countedOf iG mG mP iP (by omega) (pk_ne (cnN cn c P) 0 (fun _ => ?_) (fun z => absurd z h0))))
    unfold q_M_rank_26
    refine rf_ok (lM_rankOf (v := m_code_s v 0) iG mG iC iP mC mP (by omega) ?_)
    unfold q_M_thrown
    exact tl_ok rfl rfl (hR _)
  · unfold q_M_rank
    refine lM_coder_ok mC iC hc (br_t rfl (lM_countedOf iG mG mP iP (by omega) (pk_ne (cnN cn c P) 0 (fun z => absurd h0 z) (fun _ => ?_))))
    unfold q_M_rank_26
    refine rf_no 2 (h := ?_)
    unfold q_M_thrown
    exact tl_ex (by decide) rfl (hR _)
end PUK
