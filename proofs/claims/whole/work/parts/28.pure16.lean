/-! ===== the pure part, 16: slope; every case ===== -/
section PVG
variable {cn bt er : Nat → Nat} {fl : Nat → Bool} {u : CT} {v : MT} {C P c0 k0 : Nat}
abbrev hulP (cn bt er : Nat → Nat) (p : Nat) : Nat × (Nat → Nat) := hulF (fun k => bt (6 * p + k)) (fun k => er (6 * p + k)) (cn p)
theorem lX_slope {post : Int64 → CT → Prop} {ex : String → CT → Prop} {c w : Int32} (iC : C ≤ 8) (iP : P ≤ 24) (iG : GI cn fl bt er) (xC : x_coders u = nI C) (xP : x_pictures u = nI P) (xG : PX cn fl bt er u) (hc0 : c0 < C) (hk0 : k0 < P)
    (hb : ∀ g, bad c ((hulP cn bt er (24 * c0 + k0)).1 - 1) → ex "java/lang/IndexOutOfBoundsException" (x_hullSize_s (x_hullSlots_s u g) (nI (hulP cn bt er (24 * c0 + k0)).1)))
    (hok : ∀ g k, c = nI k → k < (hulP cn bt er (24 * c0 + k0)).1 - 1 → post (lN (lowT (er (6 * (24 * c0 + k0) + (hulP cn bt er (24 * c0 + k0)).2 k) - er (6 * (24 * c0 + k0) + (hulP cn bt er (24 * c0 + k0)).2 (k + 1))) (bt (6 * (24 * c0 + k0) + (hulP cn bt er (24 * c0 + k0)).2 (k + 1)) - bt (6 * (24 * c0 + k0) + (hulP cn bt er (24 * c0 + k0)).2 k)) w)) (x_hullSize_s (x_hullSlots_s u g) (nI (hulP cn bt er (24 * c0 + k0)).1))) : q_X_slope (nI c0) (nI k0) c w u post ex := by
  have hp : 24 * c0 + k0 < 192 := by omega
  generalize hpp : 24 * c0 + k0 = p at *
  have HXo := HX_of iG xG hp
  have hgd := hulF_good (B := fun k => bt (6 * p + k)) (E := fun k => er (6 * p + k)) (n := cn p)
  unfold q_X_slope
  refine lX_pair_ok xC iC xP iP hc0 hk0 ?_
  rw [hpp]
  refine lX_hull HXo (fun g hg => ?_)
  change ∀ j, j < (hulP cn bt er p).1 → g j = nI (6 * p + (hulP cn bt er p).2 j) at hg
  change Good _ _ _ (hulP cn bt er p).1 (hulP cn bt er p).2 at hgd
  show (c < 0 → q_X_slope_24 (x_hullSize_s (x_hullSlots_s u g) (nI (hulP cn bt er p).1)) post ex) ∧ (¬ c < 0 → ((c < nI (hulP cn bt er p).1 - 1 → _) ∧ (¬ c < nI (hulP cn bt er p).1 - 1 → q_X_slope_24 (x_hullSize_s (x_hullSlots_s u g) (nI (hulP cn bt er p).1)) post ex)))
  have h6 := hgd.1
  rcases okbad c (C := (hulP cn bt er p).1 - 1) (by omega) with h | ⟨k, hk, rfl⟩
  · exact bad_br1 h h6 rfl (hb g h)
  · refine ok_br1 hk h6 rfl ?_
    exact xSl (u := x_hullSize_s (x_hullSlots_s u g) (nI (hulP cn bt er p).1)) (HX_h HXo _ _) hgd (by omega) hg (hok g k rfl hk)
theorem lM_slope {post : Int64 → MT → Prop} {c w : Int32} (iC : C ≤ 8) (iP : P ≤ 24) (iG : GI cn fl bt er) (mC : m_coders v = nI C) (mP : m_pictures v = nI P) (mG : PM cn fl bt er v) (hc0 : c0 < C) (hk0 : k0 < P)
    (hb : ∀ g, bad c ((hulP cn bt er (24 * c0 + k0)).1 - 1) → post 0 (m_code_s (m_hullSize_s (m_hull_s v g) (nI (hulP cn bt er (24 * c0 + k0)).1)) 1))
    (hok : ∀ g k, c = nI k → k < (hulP cn bt er (24 * c0 + k0)).1 - 1 → post (lN (lowT (er (6 * (24 * c0 + k0) + (hulP cn bt er (24 * c0 + k0)).2 k) - er (6 * (24 * c0 + k0) + (hulP cn bt er (24 * c0 + k0)).2 (k + 1))) (bt (6 * (24 * c0 + k0) + (hulP cn bt er (24 * c0 + k0)).2 (k + 1)) - bt (6 * (24 * c0 + k0) + (hulP cn bt er (24 * c0 + k0)).2 k)) w)) (m_code_s (m_hullSize_s (m_hull_s v g) (nI (hulP cn bt er (24 * c0 + k0)).1)) 0)) : q_M_slope (nI c0) (nI k0) c w v post := by
  have hp : 24 * c0 + k0 < 192 := by omega
  have ep : 24 * nI c0 + nI k0 = nI (24 * c0 + k0) := iy24 c0 k0
  generalize 24 * c0 + k0 = p at *
  have HMo := HM_of iG mG hp
  have hgd := hulF_good (B := fun k => bt (6 * p + k)) (E := fun k => er (6 * p + k)) (n := cn p)
  change Good _ _ _ (hulP cn bt er p).1 (hulP cn bt er p).2 at hgd
  have h6 := hgd.1
  unfold q_M_slope q_M_noneOnHull
  refine lM_pair_ok mC iC mP iP hc0 hk0 (br_t rfl (lM_hull HMo (fun g hg => ?_) ep))
  change ∀ j, j < (hulP cn bt er p).1 → g j = nI (6 * p + (hulP cn bt er p).2 j) at hg
  rcases okbad c (C := (hulP cn bt er p).1 - 1) (by omega) with h | ⟨k, hk, rfl⟩
  · refine bad_br1 h h6 rfl ⟨nb1, br_f (by decide) ?_⟩
    unfold q_M_slope_17
    exact rf_no 1 (h := hb g h)
  · refine ok_br1 hk h6 rfl ⟨nb0, br_t rfl ?_⟩
    exact mSl (v := m_hullSize_s (m_hull_s v g) (nI (hulP cn bt er p).1)) (HM_h HMo _ _) hgd (by omega) hg (hok g k rfl hk)
end PVG
theorem nbad {c : Int32} {k n : Nat} (hk : c = nI k) (hlt : k < n - 1) (hn : n ≤ 6) : ¬ bad c (n - 1) := by
  subst hk
  intro h
  rcases h with h | h
  · exact nI_pos (by omega) h
  · exact nI_ge hlt (by omega) h
theorem eqk {c : Int32} {k k2 n : Nat} (hk : c = nI k) (hk2 : c = nI k2) (hlt : k < n - 1) (hlt2 : k2 < n - 1) (hn : n ≤ 6) : k2 = k := by
  subst hk
  exact ((nI_eq (by omega) (by omega)).mp hk2).symm
section PVH
variable {L : Nat} {xs : Nat → Int32} {i : Int32} {u : CT} {v : MT} {o : Nat → Int64}
theorem st_12 (h : Rel u v) (h1 : vp_in (i + 1) L) (h2 : vp_in (i + 2) L) (h3 : vp_in (i + 3) L) (h4 : vp_in (i + 4) L) : q_law_12 L xs i u v o RR := by
  obtain ⟨C, P, cn, fl, bt, er, F, fp, T, tx, hI, hX, hM⟩ := h
  obtain ⟨iC, iP, iG, iF, iT, ix⟩ := id hI
  obtain ⟨xC, xP, xG, xF, xT, xx⟩ := id hX
  obtain ⟨mC, mP, mG, mF, mT, mx⟩ := id hM
  have hR : ∀ k, Rel u (m_code_s v k) := fun k => ⟨C, P, cn, fl, bt, er, F, fp, T, tx, hI, hX, hM⟩
  have hR2 : ∀ g y g2 y2 k, Rel (x_hullSize_s (x_hullSlots_s u g) y) (m_code_s (m_hullSize_s (m_hull_s v g2) y2) k) := fun g y g2 y2 k => ⟨C, P, cn, fl, bt, er, F, fp, T, tx, hI, hX, hM⟩
  unfold q_law_12 qh_W_slope
  refine ⟨h1, h2, h3, h4, ?_⟩
  generalize xs (i + 1).toNatClampNeg = a
  generalize xs (i + 2).toNatClampNeg = b
  generalize xs (i + 3).toNatClampNeg = c
  generalize xs (i + 4).toNatClampNeg = d
  rcases pairsplit a b iC iP with hb | ⟨c0, k0, hc0, hk0, rfl, rfl⟩
  · have rbad : ∀ {w : Int32} {post : Int64 → MT → Prop}, post 0 (m_code_s v 1) → q_M_slope a b c w v post := by
      intro w post hp
      unfold q_M_slope q_M_noneOnHull
      refine lM_pair_no mC iC mP hb (br_f (by decide) ⟨nb1, br_f (by decide) ?_⟩)
      unfold q_M_slope_17
      exact rf_no 1 (h := hp)
    unfold q_X_slope
    refine br_c (fun hx => lX_pair_no xC iC xP hb ⟨rfl, h1, h2, h3, h4, br_t hx (rbad ?_)⟩) (fun hx => lX_pair_no xC iC xP hb ⟨rfl, h1, h2, h3, h4, br_f hx (rbad ?_)⟩)
    · unfold q_M_thrown
      exact tl_ex (by decide) rfl (hR _)
    · unfold q_M_thrown
      exact tl_ex (by decide) rfl (hR _)
  have h6 : (hulP cn bt er (24 * c0 + k0)).1 ≤ 6 := (hulF_good (B := fun k => bt (6 * (24 * c0 + k0) + k)) (E := fun k => er (6 * (24 * c0 + k0) + k)) (n := cn (24 * c0 + k0))).1
  refine br_c (fun hx => ?_) (fun hx => ?_)
  · refine lX_slope iC iP iG xC xP xG hc0 hk0 (fun g hb => ⟨rfl, h1, h2, h3, h4, br_t hx (lM_slope iC iP iG mC mP mG hc0 hk0 (fun g2 _ => ?_) (fun g2 k hk hlt => ?_))⟩) (fun g k hk hlt => ⟨h1, h2, h3, h4, br_t hx (lM_slope iC iP iG mC mP mG hc0 hk0 (fun g2 hb => ?_) (fun g2 k2 hk2 hlt2 => ?_))⟩)
    · unfold q_M_thrown
      exact tl_ex (by decide) rfl (hR2 _ _ _ _ _)
    · exact absurd hb (nbad hk hlt h6)
    · exact absurd hb (nbad hk hlt h6)
    · have ek := eqk hk hk2 hlt hlt2 h6
      subst ek
      unfold q_M_thrown
      exact tl_ok rfl rfl (hR2 _ _ _ _ _)
  · refine lX_slope iC iP iG xC xP xG hc0 hk0 (fun g hb => ⟨rfl, h1, h2, h3, h4, br_f hx (lM_slope iC iP iG mC mP mG hc0 hk0 (fun g2 _ => ?_) (fun g2 k hk hlt => ?_))⟩) (fun g k hk hlt => ⟨h1, h2, h3, h4, br_f hx (lM_slope iC iP iG mC mP mG hc0 hk0 (fun g2 hb => ?_) (fun g2 k2 hk2 hlt2 => ?_))⟩)
    · unfold q_M_thrown
      exact tl_ex (by decide) rfl (hR2 _ _ _ _ _)
    · exact absurd hb (nbad hk hlt h6)
    · exact absurd hb (nbad hk hlt h6)
    · have ek := eqk hk hk2 hlt hlt2 h6
      subst ek
      unfold q_M_thrown
      exact tl_ok rfl rfl (hR2 _ _ _ _ _)
/-- every case of the law keeps the relation -/
theorem steps_ok {L : Nat} {xs : Nat → Int32} (hL : L ≤ 3072) : stepOk Rel L xs := by
  intro j u v o hj h
  have vi : ∀ k, k < 6 → vp_in (nI (6 * j) + nI k) L := fun k hk => pk_in (6 * j + k) L (by omega) (nI_add _ _)
  have v1 := vi 1 (by omega)
  have v2 := vi 2 (by omega)
  have v3 := vi 3 (by omega)
  have v4 := vi 4 (by omega)
  have v5 := vi 5 (by omega)
  exact ⟨st_0 h, st_1 h, st_2 h v1 v2 v3 v4, st_3 h v1 v2, st_4 h, st_5 h v1 v2, st_6 h v1 v2, st_7 h v1, st_8 h v1 v2, st_9 h v1, st_10 h v1 v2, st_11 h v1 v2 v3 v4, st_12 h v1 v2 v3 v4, st_13 h v1 v2 v3, st_14 h v1 v2 v3 v4 v5, st_15 h v1 v2, st_16 h, st_17 h v1, st_18 h v1, st_19 h⟩
end PVH
