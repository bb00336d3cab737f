/-! ===== the pure part, 3: what is refused; points and failures ===== -/
def bad (p : Int32) (C : Nat) : Prop := p < 0 ∨ nI C ≤ p
theorem okbad (p : Int32) {C : Nat} (h : C < 2 ^ 31) : bad p C ∨ ∃ c, c < C ∧ p = nI c := by
  rcases pk_ix p h with a | a | a
  · exact Or.inl (Or.inl a)
  · exact Or.inl (Or.inr a)
  · exact Or.inr a
theorem bad_br {p y : Int32} {A B : Prop} {C : Nat} (h : bad p C) (hy : y = nI C) (a : A) : (p < 0 → A) ∧ (¬ p < 0 → ((p < y → B) ∧ (¬ p < y → A))) := by
  subst hy
  refine ⟨fun _ => a, fun h0 => ⟨fun h2 => ?_, fun _ => a⟩⟩
  rcases h with h | h
  · exact absurd h h0
  · exact absurd h2 (Int32.not_lt.mpr h)
theorem ok_br {y : Int32} {A B D : Prop} {C c : Nat} (hc : c < C) (hC : C < 2 ^ 31) (hy : y = nI C) (b : B) : (nI c < 0 → A) ∧ (¬ nI c < 0 → ((nI c < y → B) ∧ (¬ nI c < y → D))) := by
  subst hy
  exact ⟨fun z => absurd z (nI_pos (by omega)), fun _ => ⟨fun _ => b, fun z => absurd (nI_lt hc hC) z⟩⟩
section PUE
variable {u : CT} {v : MT} {C P c k : Nat} {p q : Int32} {ex : String → CT → Prop}
theorem lX_coder_ok {post : CT → Prop} (hu : x_coders u = nI C) (hC : C ≤ 8) (hc : c < C) (h : post u) : q_X_needCoder (nI c) u post ex := ok_br hc (by omega) hu h
theorem lX_coder_no {post : CT → Prop} (hu : x_coders u = nI C) (hb : bad p C) (h : ex "java/lang/IndexOutOfBoundsException" u) : q_X_needCoder p u post ex := bad_br hb hu h
theorem lX_pict_ok {post : CT → Prop} (hu : x_pictures u = nI P) (hP : P ≤ 24) (hk : k < P) (h : post u) : q_X_needPicture (nI k) u post ex := ok_br hk (by omega) hu h
theorem lX_pict_no {post : CT → Prop} (hu : x_pictures u = nI P) (hb : bad p P) (h : ex "java/lang/IndexOutOfBoundsException" u) : q_X_needPicture p u post ex := bad_br hb hu h
theorem lX_pair_ok {post : Int32 → CT → Prop} (hu : x_coders u = nI C) (hC : C ≤ 8) (hv : x_pictures u = nI P) (hP : P ≤ 24) (hc : c < C) (hk : k < P) (h : post (nI (24 * c + k)) u) : q_X_pairOf (nI c) (nI k) u post ex := by
  unfold q_X_pairOf
  refine lX_coder_ok hu hC hc (lX_pict_ok hv hP hk ?_)
  rw [ix24]; exact h
theorem lX_pair_no {post : Int32 → CT → Prop} (hu : x_coders u = nI C) (hC : C ≤ 8) (hv : x_pictures u = nI P) (hb : bad p C ∨ bad q P) (h : ex "java/lang/IndexOutOfBoundsException" u) : q_X_pairOf p q u post ex := by
  unfold q_X_pairOf
  rcases okbad p (C := C) (by omega) with h1 | ⟨c, hc, rfl⟩
  · exact lX_coder_no hu h1 h
  · refine lX_coder_ok hu hC hc (lX_pict_no hv ?_ h)
    rcases hb with h1 | h1
    · exfalso
      rcases h1 with h1 | h1
      · exact nI_pos (by omega) h1
      · exact nI_ge hc (by omega) h1
    · exact h1
theorem lM_coder_ok {post : Int32 → MT → Prop} (hu : m_coders v = nI C) (hC : C ≤ 8) (hc : c < C) (h : post 0 v) : q_M_noCoder (nI c) v post := ok_br hc (by omega) hu ⟨nb0, h⟩
theorem lM_coder_no {post : Int32 → MT → Prop} (hu : m_coders v = nI C) (hb : bad p C) (h : post 1 v) : q_M_noCoder p v post := bad_br hb hu ⟨nb1, h⟩
theorem lM_pair_ok {post : Int32 → MT → Prop} (hu : m_coders v = nI C) (hC : C ≤ 8) (hv : m_pictures v = nI P) (hP : P ≤ 24) (hc : c < C) (hk : k < P) (h : post 0 v) : q_M_noPair (nI c) (nI k) v post := by
  unfold q_M_noPair
  exact lM_coder_ok hu hC hc (br_y rfl (ok_br hk (by omega) hv ⟨nb0, h⟩))
theorem lM_pair_no {post : Int32 → MT → Prop} (hu : m_coders v = nI C) (hC : C ≤ 8) (hv : m_pictures v = nI P) (hb : bad p C ∨ bad q P) (h : post 1 v) : q_M_noPair p q v post := by
  unfold q_M_noPair
  rcases okbad p (C := C) (by omega) with h1 | ⟨c, hc, rfl⟩
  · exact lM_coder_no hu h1 (br_z (by decide) ⟨nb1, h⟩)
  · refine lM_coder_ok hu hC hc (br_y rfl (bad_br ?_ hv ⟨nb1, h⟩))
    rcases hb with h1 | h1
    · exfalso
      rcases h1 with h1 | h1
      · exact nI_pos (by omega) h1
      · exact nI_ge hc (by omega) h1
    · exact h1
theorem rf_no {A Q : MT → Prop} {x : Int32} (k : Nat) (hk : 0 < k := by omega) (hk9 : k < 9 := by omega) (hx : x = nI k := by rfl) (h : Q (m_code_s v x)) : q_M_refuses x v (fun r1 u2 => ((r1 = 0 → A u2) ∧ (¬ r1 = 0 → Q u2))) :=
  lM_refk hk hk9 hx (br_f (by decide) h)
theorem rf_ok {A Q : MT → Prop} (h : A (m_code_s v 0)) : q_M_refuses 0 v (fun r1 u2 => ((r1 = 0 → A u2) ∧ (¬ r1 = 0 → Q u2))) :=
  lM_ref0 (br_t rfl h)
theorem pairsplit (p q : Int32) (hC : C ≤ 8) (hP : P ≤ 24) : (bad p C ∨ bad q P) ∨ ∃ c k, c < C ∧ k < P ∧ p = nI c ∧ q = nI k := by
  rcases okbad p (C := C) (by omega) with h1 | ⟨c, hc, rfl⟩
  · exact Or.inl (Or.inl h1)
  · rcases okbad q (C := P) (by omega) with h1 | ⟨k, hk, rfl⟩
    · exact Or.inl (Or.inr h1)
    · exact Or.inr ⟨c, k, hc, hk, rfl, rfl⟩
end PUE
section PUF
variable {cn bt er : Nat → Nat} {fl : Nat → Bool} {u : CT} {v : MT} {C P F T p b e : Nat} {fp tx : Nat → Nat}
theorem GI_fail (hG : GI cn fl bt er) (p : Nat) : GI (upN cn p 0) (upB fl p true) bt er := by
  refine ⟨fun q hq => ?_, fun q k hq hk => ?_⟩
  · by_cases e : q = p
    · subst e; rw [upN_s]; exact ⟨by omega, fun _ => rfl⟩
    · rw [upN_n e, upB_n e]; exact hG.1 q hq
  · by_cases e : q = p
    · subst e; rw [upN_s] at hk; omega
    · rw [upN_n e] at hk; exact hG.2 q k hq hk
theorem II_fail (h : II C P cn fl bt er F fp T tx) (hp : p < 192) (hf : fl p = false) : II C P (upN cn p 0) (upB fl p true) bt er (F + 1) (upN fp F p) T tx := by
  obtain ⟨iC, iP, iG, iF, iT, ix⟩ := h
  refine ⟨iC, iP, GI_fail iG p, ⟨?_, fun k hk => ?_⟩, iT, ix⟩
  · rw [nf_up hf, if_pos hp, iF.1]
  · by_cases e : k = F
    · subst e; rw [upN_s]; exact hp
    · rw [upN_n e]; exact iF.2 k (by omega)
theorem lX_mark {post : CT → Prop} (hI : II C P cn fl bt er F fp T tx) (h : RX C P cn fl bt er F fp T tx u) (hp : p < 192) (hf : fl p = false)
    (hpost : ∀ u', RX C P (upN cn p 0) (upB fl p true) bt er (F + 1) (upN fp F p) T tx u' → x_last u' = x_last u → post u') : q_X_markFailed (nI p) u post := by
  obtain ⟨iC, iP, iG, iF, iT, ix⟩ := hI
  obtain ⟨xC, xP, xG, xF, xT, xx⟩ := h
  have hF : F < 192 := by rw [iF.1]; exact nf_lt hp hf
  unfold q_X_markFailed
  refine pk_le 192 F (fun z => absurd z (by omega)) (fun _ => ⟨pk_in p 192 hp, pk_in F 192 hF xF.1, ?_⟩) rfl xF.1
  refine hpost _ ⟨xC, xP, ⟨fun q hq => ?_, fun q hq h0 => ?_, fun q k hq hk => ?_⟩, ⟨?_, fun k hk => ?_⟩, xT, xx⟩ rfl
  · show upd (x_pointCounts u) _ _ q = _
    rw [nI_clamp (by omega)]
    by_cases e : q = p
    · subst e; rw [pk_us, upB_s, if_pos rfl]
    · rw [pk_un e, upB_n e, upN_n e]; exact xG.1 q hq
  · by_cases e : q = p
    · subst e; rw [upN_s] at h0; omega
    · rw [upN_n e] at h0 ⊢; exact xG.2.1 q hq h0
  · by_cases e : q = p
    · subst e; rw [upN_s] at hk; omega
    · rw [upN_n e] at hk; exact xG.2.2 q k hq hk
  · show x_failedCount u + 1 = _
    rw [xF.1, nI_1]
  · show upd (x_failedPairs u) (x_failedCount u).toNatClampNeg _ k = _
    rw [xF.1, nI_clamp (by omega)]
    by_cases e : k = F
    · subst e; rw [pk_us, upN_s]
    · rw [pk_un e, upN_n e]; exact xF.2 k (by omega)
theorem lM_fail {post : MT → Prop} (hI : II C P cn fl bt er F fp T tx) (h : RM C P cn fl bt er F fp T tx v) (hp : p < 192) (hf : fl p = false)
    (hpost : ∀ v', RM C P (upN cn p 0) (upB fl p true) bt er (F + 1) (upN fp F p) T tx v' → m_state v' = m_state v → m_code v' = m_code v → post v') : q_M_fail (nI p) v post := by
  obtain ⟨iC, iP, iG, iF, iT, ix⟩ := hI
  obtain ⟨xC, xP, xG, xF, xT, xx⟩ := h
  have hF : F < 192 := by rw [iF.1]; exact nf_lt hp hf
  unfold q_M_fail
  refine ⟨pk_in p 192 hp, pk_in p 192 hp, pk_in F 192 hF xF.1, ?_⟩
  refine hpost _ ⟨xC, xP, ⟨fun q hq => ?_, fun q hq => ?_, fun q k hq hk => ?_⟩, ⟨?_, fun k hk => ?_⟩, xT, xx⟩ rfl rfl
  · show upd (m_count v) _ _ q = _
    rw [nI_clamp (by omega)]
    by_cases e : q = p
    · subst e; rw [pk_us, upN_s]; rfl
    · rw [pk_un e, upN_n e]; exact xG.1 q hq
  · show upd (m_hasFailed v) _ _ q = _
    rw [nI_clamp (by omega)]
    by_cases e : q = p
    · subst e; rw [pk_us, upB_s, if_pos rfl]; rfl
    · rw [pk_un e, upB_n e]; exact xG.2.1 q hq
  · by_cases e : q = p
    · subst e; rw [upN_s] at hk; omega
    · rw [upN_n e] at hk; exact xG.2.2 q k hq hk
  · show m_failures v + 1 = _
    rw [xF.1, nI_1]
  · show upd (m_failure v) (m_failures v).toNatClampNeg _ k = _
    rw [xF.1, nI_clamp (by omega)]
    by_cases e : k = F
    · subst e; rw [pk_us, upN_s]
    · rw [pk_un e, upN_n e]; exact xF.2 k (by omega)
/-! a point more -/
theorem up6 {f : Nat → Nat} {p q k x : Nat} (hq : q ≠ p) (hk : k < 6) (hn : cn p < 6) : upN f (6 * p + cn p) x (6 * q + k) = f (6 * q + k) := upN_n (by omega)
theorem up6' {f : Nat → Nat} {p k x n : Nat} (hk : k < n) : upN f (6 * p + n) x (6 * p + k) = f (6 * p + k) := upN_n (by omega)
theorem GI_add (hG : GI cn fl bt er) (hp : p < 192) (hf : fl p = false) (hn : cn p < 6) (hb : 1 ≤ b) (hb2 : b ≤ 1000000000) (he : e ≤ 1000000000) : GI (upN cn p (cn p + 1)) fl (upN bt (6 * p + cn p) b) (upN er (6 * p + cn p) e) := by
  refine ⟨fun q hq => ?_, fun q k hq hk => ?_⟩
  · by_cases e : q = p
    · subst e; rw [upN_s]; exact ⟨by omega, fun z => absurd z (by rw [hf]; decide)⟩
    · rw [upN_n e]; exact hG.1 q hq
  · by_cases e : q = p
    · subst e
      rw [upN_s] at hk
      by_cases e2 : k = cn q
      · subst e2; rw [upN_s, upN_s]; exact ⟨hb, hb2, he⟩
      · rw [up6' (by omega), up6' (by omega)]; exact hG.2 q k hq (by omega)
    · rw [upN_n e] at hk
      have h6 := hG.cn6 hq
      rw [up6 e (by omega) hn, up6 e (by omega) hn]; exact hG.2 q k hq hk
theorem II_add (h : II C P cn fl bt er F fp T tx) (hp : p < 192) (hf : fl p = false) (hn : cn p < 6) (hb : 1 ≤ b) (hb2 : b ≤ 1000000000) (he : e ≤ 1000000000) : II C P (upN cn p (cn p + 1)) fl (upN bt (6 * p + cn p) b) (upN er (6 * p + cn p) e) F fp T tx :=
  ⟨h.1, h.2.1, GI_add h.2.2.1 hp hf hn hb hb2 he, h.2.2.2⟩
theorem lst_add_n {q : Nat} (hG : GI cn fl bt er) (hq : q < 192) (e : q ≠ p) (hn : cn p < 6) : lst (upN bt (6 * p + cn p) b) q (cn q) = lst bt q (cn q) := by
  have h6 := hG.cn6 hq
  exact mn_congr fun k hk => up6 e (by omega) hn
theorem lst_add_0 (h0 : cn p = 0) : lst (upN bt (6 * p + cn p) b) p (cn p + 1) = b := by
  rw [h0]
  show upN bt (6 * p + 0) b (6 * p + 0) = b
  exact upN_s
theorem lst_add_s (h0 : 0 < cn p) : lst (upN bt (6 * p + cn p) b) p (cn p + 1) = min (lst bt p (cn p)) b := by
  show mn _ (cn p + 1) = _
  rw [mn_s _ h0, upN_s, show mn (fun k => upN bt (6 * p + cn p) b (6 * p + k)) (cn p) = lst bt p (cn p) from mn_congr fun k hk => up6' hk]
theorem lX_add {post : CT → Prop} (hI : II C P cn fl bt er F fp T tx) (h : RX C P cn fl bt er F fp T tx u) (hp : p < 192) (hf : fl p = false) (hn : cn p < 6) (hb2 : b ≤ 1000000000)
    (hpost : ∀ u', RX C P (upN cn p (cn p + 1)) fl (upN bt (6 * p + cn p) b) (upN er (6 * p + cn p) e) F fp T tx u' → x_last u' = x_last u → post u') : q_X_addPoint (nI p) (nI b) (nI e) u post := by
  obtain ⟨iC, iP, iG, iF, iT, ix⟩ := hI
  obtain ⟨xC, xP, xG, xF, xT, xx⟩ := h
  have hc : x_pointCounts u p = nI (cn p) := by rw [xG.1 p hp, if_neg (by rw [hf]; decide)]
  unfold q_X_addPoint
  rw [nI_clamp (by omega), hc, ix6, nI_clamp (n := 6 * p + cn p) (by omega)]
  refine ⟨pk_in p 192 hp, br_f (nI_pos (by omega)) (pk_lt (cn p) 6 (fun _ => ⟨pk_in (6 * p + cn p) 1152 (by omega), pk_in (6 * p + cn p) 1152 (by omega), ?_⟩) (fun z => absurd z (by omega)))⟩
  have key : ∀ (u' : CT), (x_coders u' = x_coders u ∧ x_pictures u' = x_pictures u ∧ x_failedCount u' = x_failedCount u ∧ x_failedPairs u' = x_failedPairs u ∧ x_length u' = x_length u ∧ x_chars u' = x_chars u ∧ x_last u' = x_last u) → x_pointCounts u' = upd (x_pointCounts u) p (nI (cn p + 1)) → x_pointBytes u' = upd (x_pointBytes u) (6 * p + cn p) (nI b) → x_pointErrors u' = upd (x_pointErrors u) (6 * p + cn p) (nI e) → (∀ q, q < 192 → q ≠ p → x_leastBytes u' q = x_leastBytes u q) → x_leastBytes u' p = nI (lst (upN bt (6 * p + cn p) b) p (cn p + 1)) → post u' := by
    intro u' ⟨e1, e2, e3, e4, e5, e6, e7⟩ f1 f2 f3 f4 f5
    refine hpost u' ⟨by rw [e1]; exact xC, by rw [e2]; exact xP, ⟨fun q hq => ?_, fun q hq h0 => ?_, fun q k hq hk => ?_⟩, by rw [e3, e4]; exact xF, by rw [e5]; exact xT, by rw [e6]; exact xx⟩ e7
    · rw [f1]
      by_cases e : q = p
      · subst e; rw [pk_us, upN_s, if_neg (by rw [hf]; decide)]
      · rw [pk_un e, upN_n e]; exact xG.1 q hq
    · by_cases e : q = p
      · subst e; rw [upN_s, f5]
      · rw [upN_n e] at h0 ⊢
        rw [f4 q hq e, lst_add_n iG hq e hn]; exact xG.2.1 q hq h0
    · rw [f2, f3]
      by_cases e : q = p
      · subst e
        rw [upN_s] at hk
        by_cases e2 : k = cn q
        · subst e2; rw [pk_us, pk_us, upN_s, upN_s]; exact ⟨rfl, rfl⟩
        · rw [pk_un (by omega), pk_un (by omega), up6' (by omega), up6' (by omega)]; exact xG.2.2 q k hq (by omega)
      · rw [upN_n e] at hk
        have h6 := iG.cn6 hq
        rw [pk_un (by omega), pk_un (by omega), up6 e (by omega) hn, up6 e (by omega) hn]; exact xG.2.2 q k hq hk
  refine pk_eq (cn p) 0 (fun h0 => ?_) (fun h0 => ⟨pk_in p 192 hp, ?_⟩)
  · unfold q_X_addPoint_61 q_X_addPoint_68
    refine ⟨pk_in p 192 hp, pk_in p 192 hp, ?_⟩
    refine key _ ⟨rfl, rfl, rfl, rfl, rfl, rfl, rfl⟩ ?_ rfl rfl (fun q _ hq => ?_) ?_
    · show upd (x_pointCounts u) _ _ = _
      rw [nI_clamp (by omega), nI_1]
    · show upd (x_leastBytes u) _ _ q = _
      rw [nI_clamp (by omega), pk_un hq]
    · show upd (x_leastBytes u) _ _ p = _
      rw [nI_clamp (by omega), pk_us, lst_add_0 h0]
  · have hl := iG.lb hp
    have hle : x_leastBytes u p = nI (lst bt p (cn p)) := xG.2.1 p hp (by omega)
    refine pk_le (lst bt p (cn p)) b (fun h1 => ?_) (fun h1 => ?_) hle
    · unfold q_X_addPoint_68
      refine ⟨pk_in p 192 hp, key _ ⟨rfl, rfl, rfl, rfl, rfl, rfl, rfl⟩ ?_ rfl rfl (fun q _ hq => rfl) ?_⟩
      · show upd (x_pointCounts u) _ _ = _
        rw [nI_clamp (by omega), nI_1]
      · show x_leastBytes u p = _
        rw [hle, lst_add_s (by omega), Nat.min_eq_left h1]
    · unfold q_X_addPoint_61 q_X_addPoint_68
      refine ⟨pk_in p 192 hp, pk_in p 192 hp, key _ ⟨rfl, rfl, rfl, rfl, rfl, rfl, rfl⟩ ?_ rfl rfl (fun q _ hq => ?_) ?_⟩
      · show upd (x_pointCounts u) _ _ = _
        rw [nI_clamp (by omega), nI_1]
      · show upd (x_leastBytes u) _ _ q = _
        rw [nI_clamp (by omega), pk_un hq]
      · show upd (x_leastBytes u) _ _ p = _
        rw [nI_clamp (by omega), pk_us, lst_add_s (by omega), Nat.min_eq_right (by omega)]
theorem lM_add {post : MT → Prop} (hI : II C P cn fl bt er F fp T tx) (h : RM C P cn fl bt er F fp T tx v) (hp : p < 192) (hn : cn p < 6)
    (hpost : ∀ v', RM C P (upN cn p (cn p + 1)) fl (upN bt (6 * p + cn p) b) (upN er (6 * p + cn p) e) F fp T tx v' → m_state v' = m_state v → m_code v' = m_code v → post v') : q_M_add (nI p) (nI b) (nI e) v post := by
  obtain ⟨iC, iP, iG, iF, iT, ix⟩ := hI
  obtain ⟨xC, xP, xG, xF, xT, xx⟩ := h
  have hc : m_count v p = nI (cn p) := xG.1 p hp
  have hi : vp_in (6 * nI p + m_count v (nI p).toNatClampNeg) 1152 := pk_in (6 * p + cn p) 1152 (by omega) (by rw [nI_clamp (by omega), hc, iy6])
  unfold q_M_add
  refine ⟨pk_in p 192 hp, hi, pk_in p 192 hp, hi, pk_in p 192 hp, pk_in p 192 hp, ?_⟩
  refine hpost _ ⟨xC, xP, ⟨fun q hq => ?_, xG.2.1, fun q k hq hk => ?_⟩, xF, xT, xx⟩ rfl rfl
  · show upd (m_count v) _ (m_count v (nI p).toNatClampNeg + 1) q = _
    rw [nI_clamp (by omega), hc, nI_1]
    by_cases e : q = p
    · subst e; rw [pk_us, upN_s]
    · rw [pk_un e, upN_n e]; exact xG.1 q hq
  · show upd (m_bytesOf v) (6 * nI p + m_count v (nI p).toNatClampNeg).toNatClampNeg _ (6 * q + k) = _ ∧ upd (m_errorOf v) (6 * nI p + m_count v (nI p).toNatClampNeg).toNatClampNeg _ (6 * q + k) = _
    rw [nI_clamp (n := p) (by omega), hc, iy6, nI_clamp (by omega)]
    by_cases e : q = p
    · subst e
      rw [upN_s] at hk
      by_cases e2 : k = cn q
      · subst e2; rw [pk_us, pk_us, upN_s, upN_s]; exact ⟨rfl, rfl⟩
      · rw [pk_un (by omega), pk_un (by omega), up6' (by omega), up6' (by omega)]; exact xG.2.2 q k hq (by omega)
    · rw [upN_n e] at hk
      have h6 := iG.cn6 hq
      rw [pk_un (by omega), pk_un (by omega), up6 e (by omega) hn, up6 e (by omega) hn]; exact xG.2.2 q k hq hk
end PUF
