/-! ===== the pure part, 2: the relation, the simple calls ===== -/
/-- how many pairs below k have failed -/
def nf (fl : Nat → Bool) : Nat → Nat
  | 0 => 0
  | k + 1 => nf fl k + (if fl k = true then 1 else 0)
theorem nf_le (fl : Nat → Bool) : ∀ k, nf fl k ≤ k
  | 0 => Nat.le_refl _
  | k + 1 => by
    have := nf_le fl k
    simp only [nf]
    split <;> omega
theorem nf_lt {fl : Nat → Bool} : ∀ {k p : Nat}, p < k → fl p = false → nf fl k < k
  | k + 1, p, hp, hf => by
    simp only [nf]
    have h1 := nf_le fl k
    by_cases e : p = k
    · subst e
      rw [if_neg (by rw [hf]; decide)]; omega
    · have := nf_lt (k := k) (p := p) (by omega) hf
      split <;> omega
theorem nf_up {fl : Nat → Bool} : ∀ {k p : Nat}, fl p = false → nf (upB fl p true) k = nf fl k + (if p < k then 1 else 0)
  | 0, p, _ => by simp [nf]
  | k + 1, p, hf => by
    have ih := nf_up (k := k) hf
    simp only [nf]
    rw [ih]
    by_cases e : k = p
    · subst e
      rw [upB_s, if_neg (by omega), if_pos rfl, if_neg (by rw [hf]; decide), if_pos (by omega)]
    · rw [upB_n e]
      have e2 : (p < k + 1) = (p < k) := propext (by omega)
      simp only [e2]
      omega
abbrev II (C P : Nat) (cn : Nat → Nat) (fl : Nat → Bool) (bt er : Nat → Nat) (F : Nat) (fp : Nat → Nat) (T : Nat) (tx : Nat → Nat) : Prop :=
  C ≤ 8 ∧ P ≤ 24 ∧ GI cn fl bt er ∧ (F = nf fl 192 ∧ ∀ k, k < F → fp k < 192) ∧ T ≤ 136 ∧ ∀ i, i < T → tx i < 65536
abbrev RX (C P : Nat) (cn : Nat → Nat) (fl : Nat → Bool) (bt er : Nat → Nat) (F : Nat) (fp : Nat → Nat) (T : Nat) (tx : Nat → Nat) (u : CT) : Prop :=
  x_coders u = nI C ∧ x_pictures u = nI P ∧ PX cn fl bt er u ∧ (x_failedCount u = nI F ∧ ∀ k, k < F → x_failedPairs u k = nI (fp k)) ∧ x_length u = nI T ∧ ∀ i, i < T → x_chars u i = nI (tx i)
abbrev RM (C P : Nat) (cn : Nat → Nat) (fl : Nat → Bool) (bt er : Nat → Nat) (F : Nat) (fp : Nat → Nat) (T : Nat) (tx : Nat → Nat) (v : MT) : Prop :=
  m_coders v = nI C ∧ m_pictures v = nI P ∧ PM cn fl bt er v ∧ (m_failures v = nI F ∧ ∀ k, k < F → m_failure v k = nI (fp k)) ∧ m_size v = nI T ∧ ∀ i, i < T → m_text v i = nI (tx i)
/-- the relation between class and reference -/
def Rel (u : CT) (v : MT) : Prop := ∃ (C P : Nat) (cn : Nat → Nat) (fl : Nat → Bool) (bt er : Nat → Nat) (F : Nat) (fp : Nat → Nat) (T : Nat) (tx : Nat → Nat), II C P cn fl bt er F fp T tx ∧ RX C P cn fl bt er F fp T tx u ∧ RM C P cn fl bt er F fp T tx v
theorem Rel_0 : Rel x0 m0 := by
  refine ⟨0, 0, fun _ => 0, fun _ => false, fun _ => 0, fun _ => 0, 0, fun _ => 0, 0, fun _ => 0, ⟨by omega, by omega, ⟨fun p _ => ⟨Nat.zero_le _, fun h => rfl⟩, fun p k _ h => absurd h (Nat.not_lt_zero k)⟩, ⟨?_, fun k h => absurd h (Nat.not_lt_zero k)⟩, by omega, fun k h => absurd h (Nat.not_lt_zero k)⟩, ?_, ?_⟩
  · decide +kernel
  · exact ⟨rfl, rfl, ⟨fun p _ => rfl, fun p _ h => absurd h (Nat.not_lt_zero 0), fun p k _ h => absurd h (Nat.not_lt_zero k)⟩, ⟨rfl, fun k h => absurd h (Nat.not_lt_zero k)⟩, rfl, fun k h => absurd h (Nat.not_lt_zero k)⟩
  · exact ⟨rfl, rfl, ⟨fun p _ => rfl, fun p _ => rfl, fun p k _ h => absurd h (Nat.not_lt_zero k)⟩, ⟨rfl, fun k h => absurd h (Nat.not_lt_zero k)⟩, rfl, fun k h => absurd h (Nat.not_lt_zero k)⟩
/-! the ends of a call in the law -/
theorem upL0 (o : Nat → Int64) (x : Int64) : vp_updL o (0 : Int32).toNatClampNeg x (0 : Int32).toNatClampNeg = x := pk_uLs
theorem lc0 (x : Int64) : lg_cmp x x = 0 := (lg_cmp_eq x x).mpr rfl
section PUB
variable {post : CT → MT → (Nat → Int64) → Prop} {u : CT} {v : MT} {o : Nat → Int64}
/-- the call returned: the answers are one -/
theorem tl_ok {r6 : Int32} {x : Int64} {y : Int64} (h6 : r6 = 0) (hr : x = y) (h : post u v (vp_updL o (0 : Int32).toNatClampNeg x)) :
    ((r6 = 0 → ((¬ (0 : Int32) = 0 → post u v (vp_updL o (0 : Int32).toNatClampNeg x)) ∧ ((0 : Int32) = 0 → ((lg_cmp (vp_updL o (0 : Int32).toNatClampNeg x (0 : Int32).toNatClampNeg) y = 0 → post u v (vp_updL o (0 : Int32).toNatClampNeg x)) ∧ (¬ lg_cmp (vp_updL o (0 : Int32).toNatClampNeg x (0 : Int32).toNatClampNeg) y = 0 → False))))) ∧ (¬ r6 = 0 → False)) := by
  subst hr
  rw [upL0]
  exact ⟨fun _ => ⟨fun h => absurd rfl h, fun _ => ⟨fun _ => h, fun h => absurd (lc0 x) h⟩⟩, fun h => absurd h6 h⟩
/-- the call threw: the reference tells the same -/
theorem tl_ex {k r6 : Int32} {X : Prop} (h0 : ¬ k = 0) (h6 : r6 = k) (h : post u v o) :
    ((r6 = k → ((¬ k = 0 → post u v o) ∧ (k = 0 → X))) ∧ (¬ r6 = k → False)) :=
  ⟨fun _ => ⟨fun _ => h, fun z => absurd z h0⟩, fun z => absurd h6 z⟩
end PUB
section PUC
variable {v : MT} {post : Int32 → MT → Prop}
theorem lM_ref0 (h : post 0 (m_code_s v 0)) : q_M_refuses 0 v post := by
  unfold q_M_refuses
  exact ⟨fun _ => ⟨nb0, h⟩, fun z => absurd (by decide) z⟩
theorem lM_refk {k : Nat} (hk : 0 < k) (hk9 : k < 9) {x : Int32} (hx : x = nI k) (h : post 1 (m_code_s v x)) : q_M_refuses x v post := by
  unfold q_M_refuses
  exact pk_le k 0 (fun z => absurd z (by omega)) (fun _ => ⟨nb1, h⟩) hx
end PUC
section PUD
variable {L : Nat} {xs : Nat → Int32} {i : Int32} {u : CT} {v : MT} {o : Nat → Int64}
abbrev RR : CT → MT → (Nat → Int64) → Prop := fun u v _ => Rel u v
theorem st_0 (h : Rel u v) : q_law_0 L xs i u v o RR := by
  obtain ⟨C, P, cn, fl, bt, er, F, fp, T, tx, hI, hX, hM⟩ := h
  obtain ⟨iC, iP, iG, iF, iT, ix⟩ := id hI
  obtain ⟨xC, xP, xG, xF, xT, xx⟩ := id hX
  obtain ⟨mC, mP, mG, mF, mT, mx⟩ := id hM
  unfold q_law_0 qh_W_coder q_X_coder
  refine pk_lt C 8 (fun h => ?_) (fun h => ⟨rfl, ?_⟩) xC
  · unfold q_M_coder
    refine pk_ne C 8 (fun _ => ?_) (fun z => absurd z (by omega)) mC
    unfold q_M_coder_15
    refine lM_ref0 (br_t rfl ?_)
    unfold q_M_thrown
    refine tl_ok rfl ?_ ?_
    · show (x_coders u + 1 - 1).toInt64 = (m_coders v + 1 - 1).toInt64
      rw [xC, mC]
    · refine ⟨C + 1, P, cn, fl, bt, er, F, fp, T, tx, ⟨by omega, iP, iG, iF, iT, ix⟩, ⟨?_, xP, xG, xF, xT, xx⟩, ?_, mP, mG, mF, mT, mx⟩
      · show x_coders u + 1 = _
        rw [xC, nI_1]
      · show m_coders v + 1 = _
        rw [mC, nI_1]
  · unfold q_M_coder
    refine pk_ne C 8 (fun z => absurd (by omega) z) (fun _ => ?_) mC
    unfold q_M_coder_15
    refine lM_refk (k := 1) (by omega) (by omega) rfl (br_f (by decide) ?_)
    unfold q_M_thrown
    exact tl_ex (by decide) rfl ⟨C, P, cn, fl, bt, er, F, fp, T, tx, hI, hX, hM⟩
theorem st_1 (h : Rel u v) : q_law_1 L xs i u v o RR := by
  obtain ⟨C, P, cn, fl, bt, er, F, fp, T, tx, hI, hX, hM⟩ := h
  obtain ⟨iC, iP, iG, iF, iT, ix⟩ := id hI
  obtain ⟨xC, xP, xG, xF, xT, xx⟩ := id hX
  obtain ⟨mC, mP, mG, mF, mT, mx⟩ := id hM
  unfold q_law_1 qh_W_picture q_X_picture
  refine pk_lt P 24 (fun h => ?_) (fun h => ⟨rfl, ?_⟩) xP
  · unfold q_M_picture
    refine pk_ne P 24 (fun _ => ?_) (fun z => absurd z (by omega)) mP
    unfold q_M_picture_15
    refine lM_ref0 (br_t rfl ?_)
    unfold q_M_thrown
    refine tl_ok rfl ?_ ?_
    · show (x_pictures u + 1 - 1).toInt64 = (m_pictures v + 1 - 1).toInt64
      rw [xP, mP]
    · refine ⟨C, P + 1, cn, fl, bt, er, F, fp, T, tx, ⟨iC, by omega, iG, iF, iT, ix⟩, ⟨xC, ?_, xG, xF, xT, xx⟩, mC, ?_, mG, mF, mT, mx⟩
      · show x_pictures u + 1 = _
        rw [xP, nI_1]
      · show m_pictures v + 1 = _
        rw [mP, nI_1]
  · unfold q_M_picture
    refine pk_ne P 24 (fun z => absurd (by omega) z) (fun _ => ?_) mP
    unfold q_M_picture_15
    refine lM_refk (k := 1) (by omega) (by omega) rfl (br_f (by decide) ?_)
    unfold q_M_thrown
    exact tl_ex (by decide) rfl ⟨C, P, cn, fl, bt, er, F, fp, T, tx, hI, hX, hM⟩
theorem st_4 (h : Rel u v) : q_law_4 L xs i u v o RR := by
  obtain ⟨C, P, cn, fl, bt, er, F, fp, T, tx, hI, hX, hM⟩ := h
  unfold q_law_4 q_X_failed q_M_failed
  refine ⟨fun _ => ⟨C, P, cn, fl, bt, er, F, fp, T, tx, hI, hX, hM⟩, fun z => absurd ?_ z⟩
  show x_failedCount u = m_failures v
  rw [hX.2.2.2.1.1, hM.2.2.2.1.1]
end PUD
