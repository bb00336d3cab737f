/-! ===== the pure part, 15: hull, onHull, slope; every case ===== -/
section PVD
variable {cn bt er : Nat → Nat} {fl : Nat → Bool} {u : CT} {v : MT} {p : Nat}
theorem m1_le {p k : Nat} (hp : p < 192) (hk : k ≤ 6) : nI (6 * p) + -1 ≤ nI (6 * p + k) := by
  by_cases h : p = 0
  · subst h
    rw [Int32.le_iff_toInt_le, nI_toInt (by omega)]
    have : (nI (6 * 0) + -1).toInt = -1 := by decide
    omega
  · obtain ⟨q, hq⟩ : ∃ q, 6 * p = q + 1 := ⟨6 * p - 1, by omega⟩
    rw [hq, pk_m1]
    exact nI_le (by omega) (by omega)
theorem HX_of (hG : GI cn fl bt er) (h : PX cn fl bt er u) (hp : p < 192) : HX u p (cn p) (fun k => bt (6 * p + k)) (fun k => er (6 * p + k)) := by
  have h6 := hG.cn6 hp
  refine ⟨hp, h6, fun k hk => ?_, fun k hk => ⟨(h.2.2 p k hp hk).1, (h.2.2 p k hp hk).2, (hG.2 p k hp hk).2.1, (hG.2 p k hp hk).2.2⟩⟩
  rw [h.1 p hp]
  by_cases hf : fl p = true
  · rw [if_pos hf]
    have h0 : cn p = 0 := (hG.1 p hp).2 hf
    exact ⟨fun _ => by omega, fun _ => m1_le hp hk⟩
  · rw [if_neg hf, nI_add, nI_leI (by omega) (by omega)]
    omega
theorem HM_of (hG : GI cn fl bt er) (h : PM cn fl bt er v) (hp : p < 192) : HM v p (cn p) (fun k => bt (6 * p + k)) (fun k => er (6 * p + k)) :=
  ⟨hp, hG.cn6 hp, h.1 p hp, fun k hk => ⟨(h.2.2 p k hp hk).1, (h.2.2 p k hp hk).2, (hG.2 p k hp hk).2.1, (hG.2 p k hp hk).2.2⟩⟩
theorem bad_br1 {q y : Int32} {A D : Prop} {H : Nat} (h : bad q (H - 1)) (h6 : H ≤ 6) (hy : y = nI H) (a : A) : (q < 0 → A) ∧ (¬ q < 0 → ((q < y - 1 → D) ∧ (¬ q < y - 1 → A))) := by
  subst hy
  by_cases h0 : H = 0
  · subst h0
    refine ⟨fun _ => a, fun z => ⟨fun z2 => ?_, fun _ => a⟩⟩
    exfalso
    rw [Int32.lt_iff_toInt_lt] at z z2
    have e1 : (nI 0 - 1).toInt = -1 := by decide
    have e2 : (0 : Int32).toInt = 0 := rfl
    omega
  · refine bad_br h ?_ a
    rw [show (1 : Int32) = nI 1 from rfl, pk_sub (by omega)]
theorem ok_br1 {y : Int32} {A D F : Prop} {H k : Nat} (h : k < H - 1) (h6 : H ≤ 6) (hy : y = nI H) (a : D) : (nI k < 0 → A) ∧ (¬ nI k < 0 → ((nI k < y - 1 → D) ∧ (¬ nI k < y - 1 → F))) := by
  subst hy
  refine ok_br h (by omega) ?_ a
  rw [show (1 : Int32) = nI 1 from rfl, pk_sub (by omega)]
/-! the class's answers from a hull that is laid -/
section PVE
variable {B E g : Nat → Nat} {n H : Nat} {hs : Nat → Nat} {ex : String → CT → Prop}
theorem xOn {post : Int32 → CT → Prop} {k : Nat} {x4 : Int32} (hX : HX u p n B E) (h6 : H ≤ 6) (hk : k < H) (hhs : ∀ j, j < H → x_hullSlots u j = nI (6 * p + hs j)) (hin : ∀ j, j < H → hs j < n) (hpost : post (if x4 = 0 then nI (B (hs k)) else nI (E (hs k))) u) : q_X_onHull_53 (nI k) x4 u post ex := by
  have a := hX.2.2.2 (hs k) (hin k hk)
  have hp := hX.1
  have hn := hX.2.1
  have hl := hin k hk
  have iv : vp_in (nI (6 * p + hs k)) 1152 := pk_in (6 * p + hs k) 1152 (by omega)
  unfold q_X_onHull_53
  rw [nI_clamp (n := k) (by omega), hhs k hk, nI_clamp (n := 6 * p + hs k) (by omega), a.1, a.2.1]
  refine ⟨pk_in k 6 (by omega), br_n (fun h => ⟨iv, ?_⟩) (fun h => ⟨iv, ?_⟩)⟩
  · rw [if_neg h] at hpost; exact hpost
  · rw [if_pos h] at hpost; exact hpost
theorem mOn {post : Int32 → MT → Prop} {k : Nat} {x4 : Int32} (hX : HM v p n B E) (h6 : H ≤ 6) (hk : k < H) (hhs : ∀ j, j < H → m_hull v j = nI (6 * p + hs j)) (hin : ∀ j, j < H → hs j < n) (hpost : post (if x4 = 0 then nI (B (hs k)) else nI (E (hs k))) (m_code_s v 0)) : q_M_onHull_31 (nI k) x4 v post := by
  have a := hX.2.2.2 (hs k) (hin k hk)
  have hp := hX.1
  have hn := hX.2.1
  have hl := hin k hk
  have iv : vp_in (nI (6 * p + hs k)) 1152 := pk_in (6 * p + hs k) 1152 (by omega)
  unfold q_M_onHull_31 q_M_onHull_32
  refine rf_ok ?_
  show (¬ x4 = 0 → (vp_in (nI k) 6 ∧ (vp_in (m_hull v (nI k).toNatClampNeg) 1152 ∧ post (m_errorOf v (m_hull v (nI k).toNatClampNeg).toNatClampNeg) (m_code_s v 0)))) ∧ (x4 = 0 → (vp_in (nI k) 6 ∧ (vp_in (m_hull v (nI k).toNatClampNeg) 1152 ∧ post (m_bytesOf v (m_hull v (nI k).toNatClampNeg).toNatClampNeg) (m_code_s v 0))))
  rw [nI_clamp (n := k) (by omega), hhs k hk, nI_clamp (n := 6 * p + hs k) (by omega), a.1, a.2.1]
  refine br_n (fun h => ⟨pk_in k 6 (by omega), iv, ?_⟩) (fun h => ⟨pk_in k 6 (by omega), iv, ?_⟩)
  · rw [if_neg h] at hpost; exact hpost
  · rw [if_pos h] at hpost; exact hpost
theorem xSl {post : Int64 → CT → Prop} {k : Nat} {x4 : Int32} (hX : HX u p n B E) (hg : Good B E n H hs) (hk : k + 1 < H) (hhs : ∀ j, j < H → x_hullSlots u j = nI (6 * p + hs j)) (hpost : post (lN (lowT (E (hs k) - E (hs (k + 1))) (B (hs (k + 1)) - B (hs k)) x4)) u) : (vp_in (nI k) 6 ∧ (vp_in (nI k + 1) 6 ∧ q_X_fallTo (x_hullSlots u (nI k).toNatClampNeg) (x_hullSlots u (nI k + 1).toNatClampNeg) u (fun r5 u6 => (vp_in (nI k) 6 ∧ (vp_in (nI k + 1) 6 ∧ q_X_growthTo (x_hullSlots u6 (nI k).toNatClampNeg) (x_hullSlots u6 (nI k + 1).toNatClampNeg) u6 (fun r7 u8 => ((x4 = 0 → q_X_inLowestTerms r7 r5 u8 (fun r9 u10 => post r9 u10)) ∧ (¬ x4 = 0 → q_X_inLowestTerms r5 r7 u8 (fun r11 u12 => post r11 u12))))))))) := by
  have h6 := hg.1
  have i1 := hg.2.1 k (by omega)
  have i2 := hg.2.1 (k + 1) (by omega)
  have hc := dec_t (hg.2.2 k hk)
  have a := hX.2.2.2 _ i1
  have b := hX.2.2.2 _ i2
  have j1 : vp_in (nI k) 6 := pk_in k 6 (by omega)
  have j2 : vp_in (nI k + 1) 6 := pk_in (k + 1) 6 (by omega) (nI_1 k)
  refine ⟨j1, j2, ?_⟩
  rw [nI_1, nI_clamp (n := k) (by omega), nI_clamp (n := k + 1) (by omega), hhs k (by omega), hhs (k + 1) hk]
  refine lX_fall hX i2 i1 ⟨j1, by rw [← nI_1]; exact j2, ?_⟩
  rw [hhs k (by omega), hhs (k + 1) hk]
  refine lX_growth hX i2 i1 ?_
  rw [lN_sub (by omega), lN_sub (by omega)]
  exact lX_lows (by omega) (by omega) (by omega) (by omega) hpost
theorem mSl {post : Int64 → MT → Prop} {k : Nat} {x4 : Int32} (hX : HM v p n B E) (hg : Good B E n H hs) (hk : k + 1 < H) (hhs : ∀ j, j < H → m_hull v j = nI (6 * p + hs j)) (hpost : post (lN (lowT (E (hs k) - E (hs (k + 1))) (B (hs (k + 1)) - B (hs k)) x4)) (m_code_s v 0)) : q_M_slope_17 (nI k) x4 0 v post := by
  have hp := hX.1
  have hn := hX.2.1
  have h6 := hg.1
  have i1 := hg.2.1 k (by omega)
  have i2 := hg.2.1 (k + 1) (by omega)
  have hc := dec_t (hg.2.2 k hk)
  have a := hX.2.2.2 _ i1
  have b := hX.2.2.2 _ i2
  have v1 : vp_in (nI (6 * p + hs k)) 1152 := pk_in (6 * p + hs k) 1152 (by omega)
  have v2 : vp_in (nI (6 * p + hs (k + 1))) 1152 := pk_in (6 * p + hs (k + 1)) 1152 (by omega)
  unfold q_M_slope_17
  refine rf_ok ?_
  show (vp_in (nI k) 6 ∧ (vp_in (nI k + 1) 6 ∧ (vp_in (m_hull v (nI k).toNatClampNeg) 1152 ∧ (vp_in (m_hull v (nI k + 1).toNatClampNeg) 1152 ∧ (vp_in (m_hull v (nI k + 1).toNatClampNeg) 1152 ∧ (vp_in (m_hull v (nI k).toNatClampNeg) 1152 ∧ q_M_part (m_errorOf v (m_hull v (nI k).toNatClampNeg).toNatClampNeg - m_errorOf v (m_hull v (nI k + 1).toNatClampNeg).toNatClampNeg).toInt64 (m_bytesOf v (m_hull v (nI k + 1).toNatClampNeg).toNatClampNeg - m_bytesOf v (m_hull v (nI k).toNatClampNeg).toNatClampNeg).toInt64 x4 (m_code_s v 0) (fun r3 u4 => post r3 u4)))))))
  rw [nI_1, nI_clamp (n := k) (by omega), nI_clamp (n := k + 1) (by omega), hhs k (by omega), hhs (k + 1) hk, nI_clamp (n := 6 * p + hs k) (by omega), nI_clamp (n := 6 * p + hs (k + 1)) (by omega), a.1, a.2.1, b.1, b.2.1]
  rw [pk_sub (a := E (hs k)) (by omega), pk_sub (a := B (hs (k + 1))) (by omega), nI_toInt64 (n := E (hs k) - E (hs (k + 1))) (by omega), nI_toInt64 (n := B (hs (k + 1)) - B (hs k)) (by omega)]
  exact ⟨pk_in k 6 (by omega), pk_in (k + 1) 6 (by omega), v1, v2, v2, v1, lM_part (by omega) (by omega) (by omega) hpost⟩
end PVE
end PVD
section PVF
variable {L : Nat} {xs : Nat → Int32} {i : Int32} {u : CT} {v : MT} {o : Nat → Int64}
theorem st_10 (h : Rel u v) (h1 : vp_in (i + 1) L) (h2 : vp_in (i + 2) L) : q_law_10 L xs i u v o RR := by
  obtain ⟨C, P, cn, fl, bt, er, F, fp, T, tx, hI, hX, hM⟩ := h
  obtain ⟨iC, iP, iG, iF, iT, ix⟩ := id hI
  obtain ⟨xC, xP, xG, xF, xT, xx⟩ := id hX
  obtain ⟨mC, mP, mG, mF, mT, mx⟩ := id hM
  have hR : ∀ k, Rel u (m_code_s v k) := fun k => ⟨C, P, cn, fl, bt, er, F, fp, T, tx, hI, hX, hM⟩
  have hR2 : ∀ g y g2 y2, Rel (x_hullSize_s (x_hullSlots_s u g) y) (m_hullSize_s (m_hull_s (m_code_s v 0) g2) y2) := fun g y g2 y2 => ⟨C, P, cn, fl, bt, er, F, fp, T, tx, hI, hX, hM⟩
  unfold q_law_10 qh_W_hull
  refine ⟨h1, h2, ?_⟩
  generalize xs (i + 1).toNatClampNeg = a
  generalize xs (i + 2).toNatClampNeg = b
  rcases pairsplit a b iC iP with hb | ⟨c0, k0, hc0, hk0, rfl, rfl⟩
  · unfold q_X_hull
    refine lX_pair_no xC iC xP hb ⟨rfl, h1, h2, ?_⟩
    unfold q_M_hull
    refine lM_pair_no mC iC mP hb (br_f (by decide) ?_)
    unfold q_M_hull_15
    refine rf_no 1 (h := ?_)
    unfold q_M_thrown
    exact tl_ex (by decide) rfl (hR _)
  have hp : 24 * c0 + k0 < 192 := by omega
  unfold q_X_hull
  refine lX_pair_ok xC iC xP iP hc0 hk0 (lX_hull (HX_of iG xG hp) (fun g hg => ⟨h1, h2, ?_⟩))
  unfold q_M_hull
  refine lM_pair_ok mC iC mP iP hc0 hk0 (br_t rfl ?_)
  unfold q_M_hull_15
  refine rf_ok (lM_hull (v := m_code_s v 0) (HM_of iG mG hp) (fun g2 hg2 => ?_) (iy24 c0 k0))
  unfold q_M_thrown
  exact tl_ok rfl rfl (hR2 _ _ _ _)
theorem st_11 (h : Rel u v) (h1 : vp_in (i + 1) L) (h2 : vp_in (i + 2) L) (h3 : vp_in (i + 3) L) (h4 : vp_in (i + 4) L) : q_law_11 L xs i u v o RR := by
  obtain ⟨C, P, cn, fl, bt, er, F, fp, T, tx, hI, hX, hM⟩ := h
  obtain ⟨iC, iP, iG, iF, iT, ix⟩ := id hI
  obtain ⟨xC, xP, xG, xF, xT, xx⟩ := id hX
  obtain ⟨mC, mP, mG, mF, mT, mx⟩ := id hM
  have hR : ∀ k, Rel u (m_code_s v k) := fun k => ⟨C, P, cn, fl, bt, er, F, fp, T, tx, hI, hX, hM⟩
  have hR2 : ∀ g y g2 y2 k, Rel (x_hullSize_s (x_hullSlots_s u g) y) (m_code_s (m_hullSize_s (m_hull_s v g2) y2) k) := fun g y g2 y2 k => ⟨C, P, cn, fl, bt, er, F, fp, T, tx, hI, hX, hM⟩
  unfold q_law_11 qh_W_onHull
  refine ⟨h1, h2, h3, h4, ?_⟩
  generalize xs (i + 1).toNatClampNeg = a
  generalize xs (i + 2).toNatClampNeg = b
  generalize xs (i + 3).toNatClampNeg = c
  generalize xs (i + 4).toNatClampNeg = d
  rcases pairsplit a b iC iP with hb | ⟨c0, k0, hc0, hk0, rfl, rfl⟩
  · unfold q_X_onHull
    refine lX_pair_no xC iC xP hb (Or.inl ⟨rfl, h1, h2, h3, h4, ?_⟩)
    unfold q_M_onHull q_M_noneOnHull
    refine lM_pair_no mC iC mP hb (br_f (by decide) ⟨nb1, br_f (by decide) ?_⟩)
    unfold q_M_onHull_32
    refine rf_no 1 (h := ?_)
    unfold q_M_thrown
    exact tl_ex (by decide) rfl (hR _)
  have hp : 24 * c0 + k0 < 192 := by omega
  have HXo := HX_of iG xG hp
  have HMo := HM_of iG mG hp
  have hgd := hulF_good (B := fun k => bt (6 * (24 * c0 + k0) + k)) (E := fun k => er (6 * (24 * c0 + k0) + k)) (n := cn (24 * c0 + k0))
  unfold q_X_onHull
  refine lX_pair_ok xC iC xP iP hc0 hk0 (lX_hull HXo (fun g hg => ?_))
  have ref : ∀ {post : Int32 → MT → Prop}, (∀ g2 : Nat → Int32, (∀ j, j < (hulF (fun k => bt (6 * (24 * c0 + k0) + k)) (fun k => er (6 * (24 * c0 + k0) + k)) (cn (24 * c0 + k0))).1 → g2 j = nI (6 * (24 * c0 + k0) + (hulF (fun k => bt (6 * (24 * c0 + k0) + k)) (fun k => er (6 * (24 * c0 + k0) + k)) (cn (24 * c0 + k0))).2 j)) → (c < 0 → (narrow .boolean (.int (1 : Int32)) = .int 1 ∧ post 1 (m_hullSize_s (m_hull_s v g2) (nI (hulF (fun k => bt (6 * (24 * c0 + k0) + k)) (fun k => er (6 * (24 * c0 + k0) + k)) (cn (24 * c0 + k0))).1)))) ∧ (¬ c < 0 → ((c < nI (hulF (fun k => bt (6 * (24 * c0 + k0) + k)) (fun k => er (6 * (24 * c0 + k0) + k)) (cn (24 * c0 + k0))).1 - 0 → (narrow .boolean (.int (0 : Int32)) = .int 0 ∧ post 0 (m_hullSize_s (m_hull_s v g2) (nI (hulF (fun k => bt (6 * (24 * c0 + k0) + k)) (fun k => er (6 * (24 * c0 + k0) + k)) (cn (24 * c0 + k0))).1)))) ∧ (¬ c < nI (hulF (fun k => bt (6 * (24 * c0 + k0) + k)) (fun k => er (6 * (24 * c0 + k0) + k)) (cn (24 * c0 + k0))).1 - 0 → (narrow .boolean (.int (1 : Int32)) = .int 1 ∧ post 1 (m_hullSize_s (m_hull_s v g2) (nI (hulF (fun k => bt (6 * (24 * c0 + k0) + k)) (fun k => er (6 * (24 * c0 + k0) + k)) (cn (24 * c0 + k0))).1))))))) → q_M_noneOnHull (nI c0) (nI k0) c 0 v post := by
    intro post hpst
    unfold q_M_noneOnHull
    exact lM_pair_ok mC iC mP iP hc0 hk0 (br_t rfl (lM_hull HMo hpst (iy24 c0 k0)))
  generalize hHH : hulF (fun k => bt (6 * (24 * c0 + k0) + k)) (fun k => er (6 * (24 * c0 + k0) + k)) (cn (24 * c0 + k0)) = HH at *
  have h6 := hgd.1
  have hy0 : nI HH.1 - 0 = nI HH.1 := by rw [show (0 : Int32) = nI 0 from rfl, pk_sub (by omega)]; rfl
  unfold q_M_onHull
  rcases okbad c (C := HH.1) (by omega) with hb | ⟨k, hk, rfl⟩
  · refine bad_br hb rfl (Or.inl ⟨rfl, h1, h2, h3, h4, ref (fun g2 hg2 => bad_br hb hy0 ⟨nb1, br_f (by decide) ?_⟩)⟩)
    unfold q_M_onHull_32
    refine rf_no 1 (h := ?_)
    unfold q_M_thrown
    exact tl_ex (by decide) rfl (hR2 _ _ _ _ _)
  refine ok_br hk (by omega) rfl ?_
  by_cases hd0 : d = 0
  · subst hd0
    refine br_t rfl (xOn (H := HH.1) (hs := HH.2) (HX_h HXo _ _) h6 hk hg hgd.2.1 ⟨h1, h2, h3, h4, ref (fun g2 hg2 => ok_br hk (by omega) hy0 ⟨nb0, br_t rfl (br_t rfl ?_)⟩)⟩)
    refine mOn (H := HH.1) (hs := HH.2) (HM_h HMo _ _) h6 hk hg2 hgd.2.1 ?_
    unfold q_M_thrown
    exact tl_ok rfl rfl (hR2 _ _ _ _ _)
  refine br_f hd0 ?_
  by_cases hd1 : d = 1
  · subst hd1
    refine br_t rfl (xOn (H := HH.1) (hs := HH.2) (HX_h HXo _ _) h6 hk hg hgd.2.1 ⟨h1, h2, h3, h4, ref (fun g2 hg2 => ok_br hk (by omega) hy0 ⟨nb0, br_t rfl (br_f hd0 (br_t rfl ?_))⟩)⟩)
    refine mOn (H := HH.1) (hs := HH.2) (HM_h HMo _ _) h6 hk hg2 hgd.2.1 ?_
    unfold q_M_thrown
    exact tl_ok rfl rfl (hR2 _ _ _ _ _)
  refine br_f hd1 (Or.inr ⟨rfl, h1, h2, h3, h4, ref (fun g2 hg2 => ok_br hk (by omega) hy0 ⟨nb0, br_t rfl (br_f hd0 (br_f hd1 ?_))⟩)⟩)
  unfold q_M_onHull_32
  refine rf_no 2 (h := ?_)
  unfold q_M_thrown
  exact tl_ex (by decide) rfl (hR2 _ _ _ _ _)
end PVF
