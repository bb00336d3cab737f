/-! CoderTables.signs(III)J -/
abbrev rm_X_signs : Room := { frames := 7, cells := 1, slots := 6, locals := 111 }
def q_X_signs_19  (u : CT) (post : Int64 → CT → Prop) (ex : String → CT → Prop) : Prop :=
  ex "java/lang/IllegalArgumentException" (u)
set_option maxRecDepth 100000 in
theorem w_X_signs_19 {p : Program} {l : Launch} {e : Env} {s : State} {m : MethodId} {args : Array Value} {below : List Frame} {meth : Method} {c : Code} {Z : ZT} {ad : Nat → Nat} {u0 : CT} {post : Int64 → CT → Prop} {ex : String → CT → Prop} (C : CX "CoderTables" b_X_signs 6 (some .long) Z (va_A (cX Z ad u0) s.heap.size) p l s m args meth c) (htab : ∀ x ∈ c.exceptionTable.toList, False)  (u : CT) (H : Heap) (locs : List Loc) (ls : Array Slot) (hw : WD Z (va_A (cX Z ad u0) s.heap.size) s (cX Z ad u) H locs) (hl : lv_has ls 6 []) (h : q_X_signs_19  u post ex) : W p l e rm_X_signs s m args below meth c H locs 0 0 (vx_MQ below (pQl Z (cX Z ad) (cX Z ad u0) s.heap.size post) (pX Z (cX Z ad) (cX Z ad u0) s.heap.size ex) args s 0 0 rm_X_signs.cells rm_X_signs.slots (va_A (cX Z ad u0) s.heap.size)) (F0 m 19 ls []) := by
  unfold q_X_signs_19 at h
  exact g_throw C htab hw hE_G sg_153 h hl.1 d_X_signs_19 d_X_signs_22 d_X_signs_23 d_X_signs_25 d_X_signs_28 ⟨Nat.le_of_ble_eq_true rfl, Nat.le_of_ble_eq_true rfl, Nat.le_of_ble_eq_true rfl, Nat.le_of_ble_eq_true rfl⟩ (Nat.le_of_ble_eq_true rfl) (Nat.le_of_ble_eq_true rfl)
def q_X_signs_106 (z0 : Int32) (z1 : Int32) (z2 : Int32) (u : CT) (post : Int64 → CT → Prop) (ex : String → CT → Prop) : Prop :=
  q_X_odds (z2) (z1) (z0) (u) (fun r1 u2 => post (r1) (u2))
set_option maxRecDepth 100000 in
theorem w_X_signs_106 {p : Program} {l : Launch} {e : Env} {s : State} {m : MethodId} {args : Array Value} {below : List Frame} {meth : Method} {c : Code} {Z : ZT} {ad : Nat → Nat} {u0 : CT} {post : Int64 → CT → Prop} {ex : String → CT → Prop} (C : CX "CoderTables" b_X_signs 6 (some .long) Z (va_A (cX Z ad u0) s.heap.size) p l s m args meth c) (htab : ∀ x ∈ c.exceptionTable.toList, False) (z0 : Int32) (z1 : Int32) (z2 : Int32) (u : CT) (H : Heap) (locs : List Loc) (ls : Array Slot) (hw : WD Z (va_A (cX Z ad u0) s.heap.size) s (cX Z ad u) H locs) (hl : lv_has ls 6 []) (h : q_X_signs_106 z0 z1 z2 u post ex) : W p l e rm_X_signs s m args below meth c H locs 0 0 (vx_MQ below (pQl Z (cX Z ad) (cX Z ad u0) s.heap.size post) (pX Z (cX Z ad) (cX Z ad u0) s.heap.size ex) args s 0 0 rm_X_signs.cells rm_X_signs.slots (va_A (cX Z ad u0) s.heap.size)) (F0 m 106 ls [.int (z0), .int (z1), .int (z2)]) := by
  unfold q_X_signs_106 at h
  refine k_X_168 C hw h ⟨Nat.le_of_ble_eq_true rfl, Nat.le_of_ble_eq_true rfl, Nat.le_of_ble_eq_true rfl, Nat.le_of_ble_eq_true rfl⟩ hl.1 (Nat.le_of_ble_eq_true rfl) d_X_signs_106 (fun r1 u2 H locs h hw => ?_)
  exact g_lret C hw h d_X_signs_109
def q_X_signs (p1 : Int32) (p2 : Int32) (p3 : Int32) (u : CT) (post : Int64 → CT → Prop) (ex : String → CT → Prop) : Prop :=
  q_X_needCoder (p1) (u) (fun u4 => q_X_needCoder (p2) (u4) (fun u6 => (((p3) < 0 → q_X_signs_19  (u6) post ex) ∧ (¬ (p3) < 0 → (((p3) ≤ (((3) : Int32)) → q_X_layLeads (p1) (p2) (u6) (fun u8 => q_X_countLeads (((1) : Int32)) (u8) (fun r9 u10 => q_X_countLeads (((0) : Int32)) (u10) (fun r11 u12 => (((p3).toInt = 0 → post ((r9).toInt64) (u12)) ∧ (¬ (p3).toInt = 0 → (((p3).toInt = 1 → post ((r11).toInt64) (u12)) ∧ (¬ (p3).toInt = 1 → ((¬ (p3) = (((2) : Int32)) → q_X_signs_106 (((0) : Int32)) (if (r11) < (r9) then (r11) else (r9)) ((r9) + (r11)) (u12) post ex) ∧ ((p3) = (((2) : Int32)) → q_X_signs_106 (((1) : Int32)) (if (r11) < (r9) then (r11) else (r9)) ((r9) + (r11)) (u12) post ex)))))))))) ∧ (¬ (p3) ≤ (((3) : Int32)) → q_X_signs_19  (u6) post ex))))) ex) ex
set_option maxRecDepth 100000 in
theorem c_X_signs {l : Launch} {Z : ZT} {ad : Nat → Nat} {u : CT} {post : Int64 → CT → Prop} {ex : String → CT → Prop} {p1 : Int32} {p2 : Int32} {p3 : Int32} (hl0 : l.stackTraces = false) (h : q_X_signs p1 p2 p3 u post ex) : ∀ sz, vx_Met l y_X_signs (Cond.code y_X_signs b_X_signs 6 (some .long) :: GW) rm_X_signs (pP Z [.ref (ad 0), .int (p1), .int (p2), .int (p3)] (cX Z ad u) sz) (pQl Z (cX Z ad) (cX Z ad u) sz post) (pX Z (cX Z ad) (cX Z ad u) sz ex) 0 0 rm_X_signs.cells rm_X_signs.slots (va_A (cX Z ad u) sz) := by
  refine g_ent (f := cX Z ad) (Qc := fun sz => pQl Z (cX Z ad) (cX Z ad u) sz post) (XC := fun sz => pX Z (cX Z ad) (cX Z ad u) sz ex) hl0 (by decide +kernel) (Nat.le_of_ble_eq_true rfl) ?_
  intro p e s m args below meth c ls C htab hw hl
  have hl : lv_has ls 6 [(0, .ref (ad 0)), (1, .int (p1)), (2, .int (p2)), (3, .int (p3))] := hl
  unfold q_X_signs at h
  refine lv_aload_n C.2.1 C.2.2.1 d_X_signs_0 rfl (lv_at hl 0 rfl) ?_
  refine lv_iload_n C.2.1 C.2.2.1 d_X_signs_1 rfl (lv_at hl 1 rfl) ?_
  refine k_X_114 C hw h ⟨Nat.le_of_ble_eq_true rfl, Nat.le_of_ble_eq_true rfl, Nat.le_of_ble_eq_true rfl, Nat.le_of_ble_eq_true rfl⟩ hl.1 (Nat.le_of_ble_eq_true rfl) d_X_signs_2 (fun _ _ _ _ _ _ he hw h1 h2 h3 => g_out C htab hw he h1 h2 h3 (Nat.le_of_ble_eq_true rfl) (Nat.le_of_ble_eq_true rfl)) (fun u4 H locs h hw => ?_)
  refine lv_aload_n C.2.1 C.2.2.1 d_X_signs_5 rfl (lv_at hl 0 rfl) ?_
  refine lv_iload_n C.2.1 C.2.2.1 d_X_signs_6 rfl (lv_at hl 2 rfl) ?_
  refine k_X_114 C hw h ⟨Nat.le_of_ble_eq_true rfl, Nat.le_of_ble_eq_true rfl, Nat.le_of_ble_eq_true rfl, Nat.le_of_ble_eq_true rfl⟩ hl.1 (Nat.le_of_ble_eq_true rfl) d_X_signs_7 (fun _ _ _ _ _ _ he hw h1 h2 h3 => g_out C htab hw he h1 h2 h3 (Nat.le_of_ble_eq_true rfl) (Nat.le_of_ble_eq_true rfl)) (fun u6 H locs h hw => ?_)
  refine lv_iload_n C.2.1 C.2.2.1 d_X_signs_10 rfl (lv_at hl 3 rfl) ?_
  refine lv_if_lt (tgt := 19) C.2.1 C.2.2.1 d_X_signs_11 (by decide) (fun c => ?_) (fun c => ?_)
  · have h := h.1 c
    exact w_X_signs_19 C htab  _ _ _ _ hw (lv_sub hl [] rfl) h
  · have h := h.2 c
    refine lv_iload_n C.2.1 C.2.2.1 d_X_signs_14 rfl (lv_at hl 3 rfl) ?_
    refine lv_iconst (v := (3)) C.2.1 C.2.2.1 d_X_signs_15 (by decide) ?_
    refine lv_icmp_le (tgt := 29) C.2.1 C.2.2.1 d_X_signs_16 (by decide) (fun c => ?_) (fun c => ?_)
    · have h := h.1 c
      refine lv_aload_n C.2.1 C.2.2.1 d_X_signs_29 rfl (lv_at hl 0 rfl) ?_
      refine lv_iload_n C.2.1 C.2.2.1 d_X_signs_30 rfl (lv_at hl 1 rfl) ?_
      refine lv_iload_n C.2.1 C.2.2.1 d_X_signs_31 rfl (lv_at hl 2 rfl) ?_
      refine k_X_155 C hw h ⟨Nat.le_of_ble_eq_true rfl, Nat.le_of_ble_eq_true rfl, Nat.le_of_ble_eq_true rfl, Nat.le_of_ble_eq_true rfl⟩ hl.1 (Nat.le_of_ble_eq_true rfl) d_X_signs_32 (fun u8 H locs h hw => ?_)
      refine lv_aload_n C.2.1 C.2.2.1 d_X_signs_35 rfl (lv_at hl 0 rfl) ?_
      refine lv_iconst (v := (1)) C.2.1 C.2.2.1 d_X_signs_36 (by decide) ?_
      refine k_X_159 C hw h ⟨Nat.le_of_ble_eq_true rfl, Nat.le_of_ble_eq_true rfl, Nat.le_of_ble_eq_true rfl, Nat.le_of_ble_eq_true rfl⟩ hl.1 (Nat.le_of_ble_eq_true rfl) d_X_signs_37 (fun r9 u10 H locs h hw => ?_)
      refine lv_istore (lv' := [(4, .int (r9)), (0, .ref (ad 0)), (1, .int (p1)), (2, .int (p2)), (3, .int (p3))]) C.2.1 C.2.2.1 d_X_signs_40 hl (by decide) rfl (fun ls hl => ?_)
      refine lv_aload_n C.2.1 C.2.2.1 d_X_signs_42 rfl (lv_at hl 1 rfl) ?_
      refine lv_iconst (v := (0)) C.2.1 C.2.2.1 d_X_signs_43 (by decide) ?_
      refine k_X_159 C hw h ⟨Nat.le_of_ble_eq_true rfl, Nat.le_of_ble_eq_true rfl, Nat.le_of_ble_eq_true rfl, Nat.le_of_ble_eq_true rfl⟩ hl.1 (Nat.le_of_ble_eq_true rfl) d_X_signs_44 (fun r11 u12 H locs h hw => ?_)
      refine lv_istore (lv' := [(5, .int (r11)), (4, .int (r9)), (0, .ref (ad 0)), (1, .int (p1)), (2, .int (p2)), (3, .int (p3))]) C.2.1 C.2.2.1 d_X_signs_47 hl (by decide) rfl (fun ls hl => ?_)
      refine lv_iload_n C.2.1 C.2.2.1 d_X_signs_49 rfl (lv_at hl 5 rfl) ?_
      by_cases hs0 : (p3).toInt = 0
      · have h := h.1 hs0
        refine lv_lookup (off := 26) (tgt := 76) C.2.1 C.2.2.1 d_X_signs_50 (by decide) (by rw [hs0]; decide) (by decide) ?_
        refine lv_iload C.2.1 C.2.2.1 d_X_signs_76 (lv_at hl 1 rfl) ?_
        refine lv_i2l C.2.1 C.2.2.1 d_X_signs_78 rfl ?_
        exact g_lret C hw h d_X_signs_79
      · have h := h.2 hs0
        by_cases hs1 : (p3).toInt = 1
        · have h := h.1 hs1
          refine lv_lookup (off := 30) (tgt := 80) C.2.1 C.2.2.1 d_X_signs_50 (by decide) (by rw [hs1]; decide) (by decide) ?_
          refine lv_iload C.2.1 C.2.2.1 d_X_signs_80 (lv_at hl 0 rfl) ?_
          refine lv_i2l C.2.1 C.2.2.1 d_X_signs_82 rfl ?_
          exact g_lret C hw h d_X_signs_83
        · have h := h.2 hs1
          refine lv_lookup (off := 34) (tgt := 84) C.2.1 C.2.2.1 d_X_signs_50 (by decide) (by simp [Op.lookupswitch.offset, Ne.symm hs0, Ne.symm hs1]) (by decide) ?_
          refine lv_iload C.2.1 C.2.2.1 d_X_signs_84 (lv_at hl 1 rfl) ?_
          refine lv_iload C.2.1 C.2.2.1 d_X_signs_86 (lv_at hl 0 rfl) ?_
          refine lv_iadd C.2.1 C.2.2.1 d_X_signs_88 ?_
          refine lv_iload C.2.1 C.2.2.1 d_X_signs_89 (lv_at hl 1 rfl) ?_
          refine lv_iload C.2.1 C.2.2.1 d_X_signs_91 (lv_at hl 0 rfl) ?_
          refine va_mmin C.2.1 C.2.2.1 (by rw [hl.1]; exact C.2.2.2.1) C.2.2.2.2.1 (C.2.2.2.2.2.1 _ w518) (C.2.2.2.2.2.1 _ w519) (C.2.2.2.2.2.1 _ w65) (C.2.2.2.2.2.1 _ w520) (Nat.le_of_ble_eq_true rfl) (Nat.le_of_ble_eq_true rfl) (Nat.le_of_ble_eq_true rfl) (Nat.le_of_ble_eq_true rfl) d_X_signs_93 ?_
          refine lv_iload_n C.2.1 C.2.2.1 d_X_signs_96 rfl (lv_at hl 5 rfl) ?_
          refine lv_iconst (v := (2)) C.2.1 C.2.2.1 d_X_signs_97 (by decide) ?_
          refine lv_icmp_ne (tgt := 105) C.2.1 C.2.2.1 d_X_signs_98 (by decide) (fun c => ?_) (fun c => ?_)
          · have h := h.1 c
            refine lv_iconst (v := (0)) C.2.1 C.2.2.1 d_X_signs_105 (by decide) ?_
            exact w_X_signs_106 C htab (((0) : Int32)) (if (r11) < (r9) then (r11) else (r9)) ((r9) + (r11)) _ _ _ _ hw (lv_sub hl [] rfl) h
          · have h := h.2 c
            refine lv_iconst (v := (1)) C.2.1 C.2.2.1 d_X_signs_101 (by decide) ?_
            refine lv_goto (tgt := 106) C.2.1 C.2.2.1 d_X_signs_102 (by decide) ?_
            exact w_X_signs_106 C htab (((1) : Int32)) (if (r11) < (r9) then (r11) else (r9)) ((r9) + (r11)) _ _ _ _ hw (lv_sub hl [] rfl) h
    · have h := h.2 c
      exact w_X_signs_19 C htab  _ _ _ _ hw (lv_sub hl [] rfl) h
/-! CoderTables$Numbers.start(J)V -/
abbrev rm_N_start : Room := { frames := 0, cells := 0, slots := 0, locals := 0 }
def q_N_start (p1 : Int64) (u : CT) (post : CT → Prop) : Prop :=
  post (x_last_s (u) (p1))
set_option maxRecDepth 100000 in
theorem c_N_start {l : Launch} {Z : ZT} {ad : Nat → Nat} {u : CT} {post : CT → Prop} {p1 : Int64} (hl0 : l.stackTraces = false) (h : q_N_start p1 u post) : ∀ sz, vx_Met l y_N_start (Cond.code y_N_start b_N_start 3 none :: GW) rm_N_start (pP Z [.ref (ad 8), .long (p1)] (cX Z ad u) sz) (pQv Z (cX Z ad) (cX Z ad u) sz post) (pX Z (cX Z ad) (cX Z ad u) sz (fun _ _ => False)) 0 0 rm_N_start.cells rm_N_start.slots (va_A (cX Z ad u) sz) := by
  refine g_ent (f := cX Z ad) (Qc := fun sz => pQv Z (cX Z ad) (cX Z ad u) sz post) (XC := fun sz => pX Z (cX Z ad) (cX Z ad u) sz (fun _ _ => False)) hl0 (by decide +kernel) (Nat.le_of_ble_eq_true rfl) ?_
  intro p e s m args below meth c ls C htab hw hl
  have hl : lv_has ls 3 [(0, .ref (ad 8)), (1, .long (p1))] := hl
  unfold q_N_start at h
  refine lv_aload_n C.2.1 C.2.2.1 d_N_start_0 rfl (lv_at hl 0 rfl) ?_
  refine lv_lload_n C.2.1 C.2.2.1 d_N_start_1 rfl (lv_at hl 1 rfl) ?_
  refine s_N_7 C hw d_N_start_2 (fun H locs hw => ?_)
  exact g_vret C hw h d_N_start_5
section KR
variable {own host : String} {cc bytes : ByteArray} {nL maxL index n : Nat} {rt0 rt : Option FieldType} {Z : ZT} {ad : Nat → Nat} {A : Nat → Prop}
variable {p : Program} {l : Launch} {e : Env} {R : Room} {s : State} {m : MethodId} {args : Array Value} {below : List Frame} {meth : Method} {c : Code} {H : Heap} {locs : List Loc} {cells slots : Nat} {Q : State → Prop} {rest : List Value} {pc : Nat} {ls : Array Slot}
theorem k_X_176 {u : CT} {p1 : Int64} {post : CT → Prop} (C : CX "CoderTables" cc nL rt0 Z A p l s m args meth c) (hw : WD Z A s (cX Z ad u) H locs) (h : q_N_start p1 u post) (hR : rmOk rm_N_start 3 R cells slots) (hl : ls.size = nL) (hW : (rest.map fun v => v.category).sum ≤ 8) (hdg : decode cc pc = .ok (.invokevirtual 176, 3)) (kk : ∀ (u' : CT) (H1 : Heap) (locs1 : List Loc), post u' → WD Z A s (cX Z ad u') H1 locs1 → W p l e R s m args below meth c H1 locs1 cells slots Q (F0 m (pc + 3) ls (rest))) : W p l e R s m args below meth c H locs cells slots Q (F0 m pc ls (.long (p1) :: .ref (ad 8) :: rest)) :=
  g_N0_v (host := "CoderTables") (n := 1) (f := cX Z ad) (As := [.long (p1)]) C hw (fun sz => vx_toMet (c_N_start C.1 h sz) (fun _ _ _ hx => by obtain ⟨_, h1, _⟩ := hx; exact h1)) rfl rfl ⟨(by decide +kernel), w158, w1, w54, w159, (by decide +kernel), (by decide +kernel), (by decide +kernel)⟩ hR 8 rfl rfl rfl hl rfl hW hdg kk
end KR
/-! CoderTables$Numbers.below(I)I -/
abbrev rm_N_below : Room := { frames := 0, cells := 0, slots := 0, locals := 0 }
def q_N_below (p1 : Int32) (u : CT) (post : Int32 → CT → Prop) : Prop :=
  ((0 < (p1) → (¬ (p1) = 0 ∧ post (((((x_last (x_last_s (u) (((x_last (u)) * ((6364136223846793005 : Int64))) + ((1442695040888963407 : Int64))))).toUInt64 >>> ((((33) : Int32)).toInt64.toUInt64 &&& Int64.toUInt64 63)).toInt64).toInt32) - ((((x_last (x_last_s (u) (((x_last (u)) * ((6364136223846793005 : Int64))) + ((1442695040888963407 : Int64))))).toUInt64 >>> ((((33) : Int32)).toInt64.toUInt64 &&& Int64.toUInt64 63)).toInt64).toInt32) / (p1) * (p1)) (x_last_s (u) (((x_last (u)) * ((6364136223846793005 : Int64))) + ((1442695040888963407 : Int64)))))) ∧ (¬ 0 < (p1) → post (((0) : Int32)) (x_last_s (u) (((x_last (u)) * ((6364136223846793005 : Int64))) + ((1442695040888963407 : Int64))))))
set_option maxRecDepth 100000 in
theorem c_N_below {l : Launch} {Z : ZT} {ad : Nat → Nat} {u : CT} {post : Int32 → CT → Prop} {p1 : Int32} (hl0 : l.stackTraces = false) (h : q_N_below p1 u post) : ∀ sz, vx_Met l y_N_below (Cond.code y_N_below b_N_below 2 (some .int) :: GW) rm_N_below (pP Z [.ref (ad 8), .int (p1)] (cX Z ad u) sz) (pQi Z (cX Z ad) (cX Z ad u) sz post) (pX Z (cX Z ad) (cX Z ad u) sz (fun _ _ => False)) 0 0 rm_N_below.cells rm_N_below.slots (va_A (cX Z ad u) sz) := by
  refine g_ent (f := cX Z ad) (Qc := fun sz => pQi Z (cX Z ad) (cX Z ad u) sz post) (XC := fun sz => pX Z (cX Z ad) (cX Z ad u) sz (fun _ _ => False)) hl0 (by decide +kernel) (Nat.le_of_ble_eq_true rfl) ?_
  intro p e s m args below meth c ls C htab hw hl
  have hl : lv_has ls 2 [(0, .ref (ad 8)), (1, .int (p1))] := hl
  unfold q_N_below at h
  refine lv_aload_n C.2.1 C.2.2.1 d_N_below_0 rfl (lv_at hl 0 rfl) ?_
  refine lv_aload_n C.2.1 C.2.2.1 d_N_below_1 rfl (lv_at hl 0 rfl) ?_
  refine r_N_7 C hw d_N_below_2 ?_
  refine lv_ldc2 (v := 6364136223846793005) C.2.1 C.2.2.1 C.2.2.2.2.1 (C.2.2.2.2.2.1 _ w168) d_N_below_5 ?_
  refine lv_lmul C.2.1 C.2.2.1 d_N_below_8 ?_
  refine lv_ldc2 (v := 1442695040888963407) C.2.1 C.2.2.1 C.2.2.2.2.1 (C.2.2.2.2.2.1 _ w169) d_N_below_9 ?_
  refine lv_ladd C.2.1 C.2.2.1 d_N_below_12 ?_
  refine s_N_7 C hw d_N_below_13 (fun H locs hw => ?_)
  refine lv_iload_n C.2.1 C.2.2.1 d_N_below_16 rfl (lv_at hl 1 rfl) ?_
  refine lv_if_gt (tgt := 24) C.2.1 C.2.2.1 d_N_below_17 (by decide) (fun c => ?_) (fun c => ?_)
  · have h := h.1 c
    refine lv_aload_n C.2.1 C.2.2.1 d_N_below_24 rfl (lv_at hl 0 rfl) ?_
    refine r_N_7 C hw d_N_below_25 ?_
    refine lv_bipush (v := (33)) C.2.1 C.2.2.1 d_N_below_28 (by decide) ?_
    refine lv_lushr C.2.1 C.2.2.1 d_N_below_30 rfl ?_
    refine lv_l2i C.2.1 C.2.2.1 d_N_below_31 rfl ?_
    refine lv_iload_n C.2.1 C.2.2.1 d_N_below_32 rfl (lv_at hl 1 rfl) ?_
    obtain ⟨h0, h⟩ := h
    refine lv_irem C.2.1 C.2.2.1 d_N_below_33 h0 ?_
    exact g_iret C hw rfl h d_N_below_34
  · have h := h.2 c
    refine lv_iconst (v := (0)) C.2.1 C.2.2.1 d_N_below_20 (by decide) ?_
    refine lv_goto (tgt := 34) C.2.1 C.2.2.1 d_N_below_21 (by decide) ?_
    exact g_iret C hw rfl h d_N_below_34
section KR
variable {own host : String} {cc bytes : ByteArray} {nL maxL index n : Nat} {rt0 rt : Option FieldType} {Z : ZT} {ad : Nat → Nat} {A : Nat → Prop}
variable {p : Program} {l : Launch} {e : Env} {R : Room} {s : State} {m : MethodId} {args : Array Value} {below : List Frame} {meth : Method} {c : Code} {H : Heap} {locs : List Loc} {cells slots : Nat} {Q : State → Prop} {rest : List Value} {pc : Nat} {ls : Array Slot}
theorem k_X_221 {u : CT} {p1 : Int32} {post : Int32 → CT → Prop} (C : CX "CoderTables" cc nL rt0 Z A p l s m args meth c) (hw : WD Z A s (cX Z ad u) H locs) (h : q_N_below p1 u post) (hR : rmOk rm_N_below 2 R cells slots) (hl : ls.size = nL) (hW : (rest.map fun v => v.category).sum ≤ 8) (hdg : decode cc pc = .ok (.invokevirtual 221, 3)) (kk : ∀ (r : Int32) (u' : CT) (H1 : Heap) (locs1 : List Loc), post r u' → WD Z A s (cX Z ad u') H1 locs1 → W p l e R s m args below meth c H1 locs1 cells slots Q (F0 m (pc + 3) ls (.int r :: rest))) : W p l e R s m args below meth c H locs cells slots Q (F0 m pc ls (.int (p1) :: .ref (ad 8) :: rest)) :=
  g_N0_i (host := "CoderTables") (n := 1) (f := cX Z ad) (As := [.int (p1)]) C hw (fun sz => vx_toMet (c_N_below C.1 h sz) (fun _ _ _ hx => by obtain ⟨_, h1, _⟩ := hx; exact h1)) rfl rfl ⟨(by decide +kernel), w166, w3, w54, w167, (by decide +kernel), (by decide +kernel), (by decide +kernel)⟩ hR 8 rfl rfl rfl hl rfl hW hdg kk
end KR
/-! CoderTables.drawnLead()J -/
abbrev rm_X_drawnLead : Room := { frames := 1, cells := 0, slots := 0, locals := 21 }
def q_X_drawnLead_4 (K4 : Int64 → Int32 → CT → Prop) (x1 : Int64) (x3 : Int32) (u : CT) (post : Int64 → CT → Prop) : Prop :=
  (((x_leadCount (u)) ≤ (x3) → post (x1) (u)) ∧ (¬ (x_leadCount (u)) ≤ (x3) → q_N_below (x_leadCount (u)) (u) (fun r1 u2 => (vp_in (r1) 24 ∧ K4 ((x1) + ((x_leads (u2) (r1).toNatClampNeg).toInt64)) ((x3) + 1) (u2)))))
set_option maxRecDepth 100000 in
theorem w_X_drawnLead_4 {p : Program} {l : Launch} {e : Env} {s : State} {m : MethodId} {args : Array Value} {below : List Frame} {meth : Method} {c : Code} {Z : ZT} {ad : Nat → Nat} {u0 : CT} {post : Int64 → CT → Prop} {K4 : Int64 → Int32 → CT → Prop} (C : CX "CoderTables" b_X_drawnLead 4 (some .long) Z (va_A (cX Z ad u0) s.heap.size) p l s m args meth c) (htab : ∀ x ∈ c.exceptionTable.toList, False) (hK4 : ∀ (x1 : Int64) (x3 : Int32) (u : CT) (H : Heap) (locs : List Loc) (ls : Array Slot), K4 x1 x3 u → WD Z (va_A (cX Z ad u0) s.heap.size) s (cX Z ad u) H locs → lv_has ls 4 [(0, .ref (ad 0)), (1, .long (x1)), (3, .int (x3))] → W p l e rm_X_drawnLead s m args below meth c H locs 0 0 (vx_MQ below (pQl Z (cX Z ad) (cX Z ad u0) s.heap.size post) (pX Z (cX Z ad) (cX Z ad u0) s.heap.size (fun _ _ => False)) args s 0 0 rm_X_drawnLead.cells rm_X_drawnLead.slots (va_A (cX Z ad u0) s.heap.size)) (F0 m 4 ls [])) (x1 : Int64) (x3 : Int32) (u : CT) (H : Heap) (locs : List Loc) (ls : Array Slot) (hw : WD Z (va_A (cX Z ad u0) s.heap.size) s (cX Z ad u) H locs) (hl : lv_has ls 4 [(0, .ref (ad 0)), (1, .long (x1)), (3, .int (x3))]) (h : q_X_drawnLead_4 K4 x1 x3 u post) : W p l e rm_X_drawnLead s m args below meth c H locs 0 0 (vx_MQ below (pQl Z (cX Z ad) (cX Z ad u0) s.heap.size post) (pX Z (cX Z ad) (cX Z ad u0) s.heap.size (fun _ _ => False)) args s 0 0 rm_X_drawnLead.cells rm_X_drawnLead.slots (va_A (cX Z ad u0) s.heap.size)) (F0 m 4 ls []) := by
  unfold q_X_drawnLead_4 at h
  refine lv_iload_n C.2.1 C.2.2.1 d_X_drawnLead_4 rfl (lv_at hl 2 rfl) ?_
  refine lv_aload_n C.2.1 C.2.2.1 d_X_drawnLead_5 rfl (lv_at hl 0 rfl) ?_
  refine r_X_44 C hw d_X_drawnLead_6 ?_
  refine lv_icmp_ge (tgt := 38) C.2.1 C.2.2.1 d_X_drawnLead_9 (by decide) (fun c => ?_) (fun c => ?_)
  · have h := h.1 c
    refine lv_lload_n C.2.1 C.2.2.1 d_X_drawnLead_38 rfl (lv_at hl 1 rfl) ?_
    exact g_lret C hw h d_X_drawnLead_39
  · have h := h.2 c
    refine lv_lload_n C.2.1 C.2.2.1 d_X_drawnLead_12 rfl (lv_at hl 1 rfl) ?_
    refine lv_aload_n C.2.1 C.2.2.1 d_X_drawnLead_13 rfl (lv_at hl 0 rfl) ?_
    refine r_X_41 C hw d_X_drawnLead_14 ?_
    refine lv_aload_n C.2.1 C.2.2.1 d_X_drawnLead_17 rfl (lv_at hl 0 rfl) ?_
    refine r_X_50 C hw d_X_drawnLead_18 ?_
    refine lv_aload_n C.2.1 C.2.2.1 d_X_drawnLead_21 rfl (lv_at hl 0 rfl) ?_
    refine r_X_44 C hw d_X_drawnLead_22 ?_
    refine k_X_221 C hw h ⟨Nat.le_of_ble_eq_true rfl, Nat.le_of_ble_eq_true rfl, Nat.le_of_ble_eq_true rfl, Nat.le_of_ble_eq_true rfl⟩ hl.1 (Nat.le_of_ble_eq_true rfl) d_X_drawnLead_25 (fun r1 u2 H locs h hw => ?_)
    obtain ⟨hi, h⟩ := h
    refine al_X_7 C hw hi d_X_drawnLead_28 ?_
    refine lv_i2l C.2.1 C.2.2.1 d_X_drawnLead_29 rfl ?_
    refine lv_ladd C.2.1 C.2.2.1 d_X_drawnLead_30 ?_
    refine lv_lstore_n (lv' := [(1, .long ((x1) + ((x_leads (u2) (r1).toNatClampNeg).toInt64))), (0, .ref (ad 0)), (3, .int (x3))]) C.2.1 C.2.2.1 d_X_drawnLead_31 rfl hl (by decide) rfl (fun ls hl => ?_)
    refine lv_iinc (v := (x3) + 1) (lv' := [(3, .int ((x3) + 1)), (1, .long ((x1) + ((x_leads (u2) (r1).toNatClampNeg).toInt64))), (0, .ref (ad 0))]) C.2.1 C.2.2.1 d_X_drawnLead_32 hl (k := 2) rfl rfl (by decide) rfl (fun ls hl => ?_)
    refine lv_goto (tgt := 4) C.2.1 C.2.2.1 d_X_drawnLead_35 (by decide) ?_
    exact hK4 ((x1) + ((x_leads (u2) (r1).toNatClampNeg).toInt64)) ((x3) + 1) _ _ _ _ h hw (lv_sub hl [2, 1, 0] rfl)
def q_X_drawnLead_4N : Nat → Int64 → Int32 → CT → (Int64 → CT → Prop) → Prop
  | 0 => fun _ _ _ _ => False
  | n + 1 => fun x1 x3 u post => q_X_drawnLead_4 (fun x1 x3 u => q_X_drawnLead_4N n x1 x3 u post) x1 x3 u post
theorem w_X_drawnLead_4N {p : Program} {l : Launch} {e : Env} {s : State} {m : MethodId} {args : Array Value} {below : List Frame} {meth : Method} {c : Code} {Z : ZT} {ad : Nat → Nat} {u0 : CT} {post : Int64 → CT → Prop} (C : CX "CoderTables" b_X_drawnLead 4 (some .long) Z (va_A (cX Z ad u0) s.heap.size) p l s m args meth c) (htab : ∀ x ∈ c.exceptionTable.toList, False) : ∀ (n : Nat) (x1 : Int64) (x3 : Int32) (u : CT) (H : Heap) (locs : List Loc) (ls : Array Slot), WD Z (va_A (cX Z ad u0) s.heap.size) s (cX Z ad u) H locs → lv_has ls 4 [(0, .ref (ad 0)), (1, .long (x1)), (3, .int (x3))] → q_X_drawnLead_4N n x1 x3 u post → W p l e rm_X_drawnLead s m args below meth c H locs 0 0 (vx_MQ below (pQl Z (cX Z ad) (cX Z ad u0) s.heap.size post) (pX Z (cX Z ad) (cX Z ad u0) s.heap.size (fun _ _ => False)) args s 0 0 rm_X_drawnLead.cells rm_X_drawnLead.slots (va_A (cX Z ad u0) s.heap.size)) (F0 m 4 ls []) := by
  intro n
  induction n with
  | zero => intro x1 x3 u H locs ls hw hl h; exact h.elim
  | succ n ih => intro x1 x3 u H locs ls hw hl h; exact w_X_drawnLead_4 C htab (fun x1 x3 u H locs ls h hw hl => ih x1 x3 u H locs ls hw hl h) x1 x3 u H locs ls hw hl h
def q_X_drawnLead (u : CT) (post : Int64 → CT → Prop) : Prop :=
  ∃ n, q_X_drawnLead_4N n ((0 : Int64)) (((0) : Int32)) (u) post
set_option maxRecDepth 100000 in
theorem c_X_drawnLead {l : Launch} {Z : ZT} {ad : Nat → Nat} {u : CT} {post : Int64 → CT → Prop} (hl0 : l.stackTraces = false) (h : q_X_drawnLead u post) : ∀ sz, vx_Met l y_X_drawnLead (Cond.code y_X_drawnLead b_X_drawnLead 4 (some .long) :: GW) rm_X_drawnLead (pP Z [.ref (ad 0)] (cX Z ad u) sz) (pQl Z (cX Z ad) (cX Z ad u) sz post) (pX Z (cX Z ad) (cX Z ad u) sz (fun _ _ => False)) 0 0 rm_X_drawnLead.cells rm_X_drawnLead.slots (va_A (cX Z ad u) sz) := by
  refine g_ent (f := cX Z ad) (Qc := fun sz => pQl Z (cX Z ad) (cX Z ad u) sz post) (XC := fun sz => pX Z (cX Z ad) (cX Z ad u) sz (fun _ _ => False)) hl0 (by decide +kernel) (Nat.le_of_ble_eq_true rfl) ?_
  intro p e s m args below meth c ls C htab hw hl
  have hl : lv_has ls 4 [(0, .ref (ad 0))] := hl
  unfold q_X_drawnLead at h
  refine lv_lconst (v := 0) C.2.1 C.2.2.1 d_X_drawnLead_0 (by decide) ?_
  refine lv_lstore_n (lv' := [(1, .long ((0 : Int64))), (0, .ref (ad 0))]) C.2.1 C.2.2.1 d_X_drawnLead_1 rfl hl (by decide) rfl (fun ls hl => ?_)
  refine lv_iconst (v := (0)) C.2.1 C.2.2.1 d_X_drawnLead_2 (by decide) ?_
  refine lv_istore_n (lv' := [(3, .int (((0) : Int32))), (1, .long ((0 : Int64))), (0, .ref (ad 0))]) C.2.1 C.2.2.1 d_X_drawnLead_3 rfl hl (by decide) rfl (fun ls hl => ?_)
  obtain ⟨n, h⟩ := h
  exact w_X_drawnLead_4N C htab n ((0 : Int64)) (((0) : Int32)) _ _ _ _ hw (lv_sub hl [2, 1, 0] rfl) h
section KR
variable {own host : String} {cc bytes : ByteArray} {nL maxL index n : Nat} {rt0 rt : Option FieldType} {Z : ZT} {ad : Nat → Nat} {A : Nat → Prop}
variable {p : Program} {l : Launch} {e : Env} {R : Room} {s : State} {m : MethodId} {args : Array Value} {below : List Frame} {meth : Method} {c : Code} {H : Heap} {locs : List Loc} {cells slots : Nat} {Q : State → Prop} {rest : List Value} {pc : Nat} {ls : Array Slot}
theorem k_X_180 {u : CT} {post : Int64 → CT → Prop} (C : CX "CoderTables" cc nL rt0 Z A p l s m args meth c) (hw : WD Z A s (cX Z ad u) H locs) (h : q_X_drawnLead u post) (hR : rmOk rm_X_drawnLead 4 R cells slots) (hl : ls.size = nL) (hW : (rest.map fun v => v.category).sum ≤ 8) (hdg : decode cc pc = .ok (.invokevirtual 180, 3)) (kk : ∀ (r : Int64) (u' : CT) (H1 : Heap) (locs1 : List Loc), post r u' → WD Z A s (cX Z ad u') H1 locs1 → W p l e R s m args below meth c H1 locs1 cells slots Q (F0 m (pc + 3) ls (.long r :: rest))) : W p l e R s m args below meth c H locs cells slots Q (F0 m pc ls (.ref (ad 0) :: rest)) :=
  g_V0_l (n := 0) (f := cX Z ad) (As := []) C hw (c_X_drawnLead C.1 h) ⟨w537, w539, w30, w53, w540, (by decide +kernel), (by decide +kernel), (by decide +kernel)⟩ hR 0 rfl rfl rfl hl rfl hW hdg (fun _ _ _ _ _ _ h => h.elim) kk
end KR
/-! CoderTables.draws(IIJI)I -/
abbrev rm_X_draws : Room := { frames := 7, cells := 1, slots := 6, locals := 111 }
def q_X_draws_23  (u : CT) (post : Int32 → CT → Prop) (ex : String → CT → Prop) : Prop :=
  ex "java/lang/IllegalArgumentException" (u)
set_option maxRecDepth 100000 in
theorem w_X_draws_23 {p : Program} {l : Launch} {e : Env} {s : State} {m : MethodId} {args : Array Value} {below : List Frame} {meth : Method} {c : Code} {Z : ZT} {ad : Nat → Nat} {u0 : CT} {post : Int32 → CT → Prop} {ex : String → CT → Prop} (C : CX "CoderTables" b_X_draws 8 (some .int) Z (va_A (cX Z ad u0) s.heap.size) p l s m args meth c) (htab : ∀ x ∈ c.exceptionTable.toList, False)  (u : CT) (H : Heap) (locs : List Loc) (ls : Array Slot) (hw : WD Z (va_A (cX Z ad u0) s.heap.size) s (cX Z ad u) H locs) (hl : lv_has ls 8 []) (h : q_X_draws_23  u post ex) : W p l e rm_X_draws s m args below meth c H locs 0 0 (vx_MQ below (pQi Z (cX Z ad) (cX Z ad u0) s.heap.size post) (pX Z (cX Z ad) (cX Z ad u0) s.heap.size ex) args s 0 0 rm_X_draws.cells rm_X_draws.slots (va_A (cX Z ad u0) s.heap.size)) (F0 m 23 ls []) := by
  unfold q_X_draws_23 at h
  exact g_throw C htab hw hE_G sg_172 h hl.1 d_X_draws_23 d_X_draws_26 d_X_draws_27 d_X_draws_29 d_X_draws_32 ⟨Nat.le_of_ble_eq_true rfl, Nat.le_of_ble_eq_true rfl, Nat.le_of_ble_eq_true rfl, Nat.le_of_ble_eq_true rfl⟩ (Nat.le_of_ble_eq_true rfl) (Nat.le_of_ble_eq_true rfl)
def q_X_draws_89 (K70 : Int32 → Int32 → Int32 → CT → Prop) (x5 : Int32) (x6 : Int32) (x7 : Int32) (u : CT) (post : Int32 → CT → Prop) (ex : String → CT → Prop) : Prop :=
  K70 (x5) (x6) ((x7) + 1) (u)
set_option maxRecDepth 100000 in
theorem w_X_draws_89 {p : Program} {l : Launch} {e : Env} {s : State} {m : MethodId} {args : Array Value} {below : List Frame} {meth : Method} {c : Code} {Z : ZT} {ad : Nat → Nat} {u0 : CT} {post : Int32 → CT → Prop} {ex : String → CT → Prop} {K70 : Int32 → Int32 → Int32 → CT → Prop} (C : CX "CoderTables" b_X_draws 8 (some .int) Z (va_A (cX Z ad u0) s.heap.size) p l s m args meth c) (htab : ∀ x ∈ c.exceptionTable.toList, False) (hK70 : ∀ (x5 : Int32) (x6 : Int32) (x7 : Int32) (u : CT) (H : Heap) (locs : List Loc) (ls : Array Slot), K70 x5 x6 x7 u → WD Z (va_A (cX Z ad u0) s.heap.size) s (cX Z ad u) H locs → lv_has ls 8 [(0, .ref (ad 0)), (5, .int (x5)), (6, .int (x6)), (7, .int (x7))] → W p l e rm_X_draws s m args below meth c H locs 0 0 (vx_MQ below (pQi Z (cX Z ad) (cX Z ad u0) s.heap.size post) (pX Z (cX Z ad) (cX Z ad u0) s.heap.size ex) args s 0 0 rm_X_draws.cells rm_X_draws.slots (va_A (cX Z ad u0) s.heap.size)) (F0 m 70 ls [])) (x5 : Int32) (x6 : Int32) (x7 : Int32) (u : CT) (H : Heap) (locs : List Loc) (ls : Array Slot) (hw : WD Z (va_A (cX Z ad u0) s.heap.size) s (cX Z ad u) H locs) (hl : lv_has ls 8 [(0, .ref (ad 0)), (5, .int (x5)), (6, .int (x6)), (7, .int (x7))]) (h : q_X_draws_89 K70 x5 x6 x7 u post ex) : W p l e rm_X_draws s m args below meth c H locs 0 0 (vx_MQ below (pQi Z (cX Z ad) (cX Z ad u0) s.heap.size post) (pX Z (cX Z ad) (cX Z ad u0) s.heap.size ex) args s 0 0 rm_X_draws.cells rm_X_draws.slots (va_A (cX Z ad u0) s.heap.size)) (F0 m 89 ls []) := by
  unfold q_X_draws_89 at h
  refine lv_iinc (v := (x7) + 1) (lv' := [(7, .int ((x7) + 1)), (0, .ref (ad 0)), (5, .int (x5)), (6, .int (x6))]) C.2.1 C.2.2.1 d_X_draws_89 hl (k := 3) rfl rfl (by decide) rfl (fun ls hl => ?_)
  refine lv_goto (tgt := 70) C.2.1 C.2.2.1 d_X_draws_92 (by decide) ?_
  exact hK70 (x5) (x6) ((x7) + 1) _ _ _ _ h hw (lv_sub hl [1, 2, 3, 0] rfl)
def q_X_draws_70 (K70 : Int32 → Int32 → Int32 → CT → Prop) (x5 : Int32) (x6 : Int32) (x7 : Int32) (u : CT) (post : Int32 → CT → Prop) (ex : String → CT → Prop) : Prop :=
  (((x5) ≤ (x7) → post (x6) (u)) ∧ (¬ (x5) ≤ (x7) → q_X_drawnLead  (u) (fun r1 u2 => ((0 ≤ (lg_cmp (r1) ((0 : Int64))) → q_X_draws_89 K70 (x5) (x6) (x7) (u2) post ex) ∧ (¬ 0 ≤ (lg_cmp (r1) ((0 : Int64))) → q_X_draws_89 K70 (x5) ((x6) + 1) (x7) (u2) post ex)))))
set_option maxRecDepth 100000 in
theorem w_X_draws_70 {p : Program} {l : Launch} {e : Env} {s : State} {m : MethodId} {args : Array Value} {below : List Frame} {meth : Method} {c : Code} {Z : ZT} {ad : Nat → Nat} {u0 : CT} {post : Int32 → CT → Prop} {ex : String → CT → Prop} {K70 : Int32 → Int32 → Int32 → CT → Prop} (C : CX "CoderTables" b_X_draws 8 (some .int) Z (va_A (cX Z ad u0) s.heap.size) p l s m args meth c) (htab : ∀ x ∈ c.exceptionTable.toList, False) (hK70 : ∀ (x5 : Int32) (x6 : Int32) (x7 : Int32) (u : CT) (H : Heap) (locs : List Loc) (ls : Array Slot), K70 x5 x6 x7 u → WD Z (va_A (cX Z ad u0) s.heap.size) s (cX Z ad u) H locs → lv_has ls 8 [(0, .ref (ad 0)), (5, .int (x5)), (6, .int (x6)), (7, .int (x7))] → W p l e rm_X_draws s m args below meth c H locs 0 0 (vx_MQ below (pQi Z (cX Z ad) (cX Z ad u0) s.heap.size post) (pX Z (cX Z ad) (cX Z ad u0) s.heap.size ex) args s 0 0 rm_X_draws.cells rm_X_draws.slots (va_A (cX Z ad u0) s.heap.size)) (F0 m 70 ls [])) (x5 : Int32) (x6 : Int32) (x7 : Int32) (u : CT) (H : Heap) (locs : List Loc) (ls : Array Slot) (hw : WD Z (va_A (cX Z ad u0) s.heap.size) s (cX Z ad u) H locs) (hl : lv_has ls 8 [(0, .ref (ad 0)), (5, .int (x5)), (6, .int (x6)), (7, .int (x7))]) (h : q_X_draws_70 K70 x5 x6 x7 u post ex) : W p l e rm_X_draws s m args below meth c H locs 0 0 (vx_MQ below (pQi Z (cX Z ad) (cX Z ad u0) s.heap.size post) (pX Z (cX Z ad) (cX Z ad u0) s.heap.size ex) args s 0 0 rm_X_draws.cells rm_X_draws.slots (va_A (cX Z ad u0) s.heap.size)) (F0 m 70 ls []) := by
  unfold q_X_draws_70 at h
  refine lv_iload C.2.1 C.2.2.1 d_X_draws_70 (lv_at hl 3 rfl) ?_
  refine lv_iload C.2.1 C.2.2.1 d_X_draws_72 (lv_at hl 1 rfl) ?_
  refine lv_icmp_ge (tgt := 95) C.2.1 C.2.2.1 d_X_draws_74 (by decide) (fun c => ?_) (fun c => ?_)
  · have h := h.1 c
    refine lv_iload C.2.1 C.2.2.1 d_X_draws_95 (lv_at hl 2 rfl) ?_
    exact g_iret C hw rfl h d_X_draws_97
  · have h := h.2 c
    refine lv_aload_n C.2.1 C.2.2.1 d_X_draws_77 rfl (lv_at hl 0 rfl) ?_
    refine k_X_180 C hw h ⟨Nat.le_of_ble_eq_true rfl, Nat.le_of_ble_eq_true rfl, Nat.le_of_ble_eq_true rfl, Nat.le_of_ble_eq_true rfl⟩ hl.1 (Nat.le_of_ble_eq_true rfl) d_X_draws_78 (fun r1 u2 H locs h hw => ?_)
    refine lv_lconst (v := 0) C.2.1 C.2.2.1 d_X_draws_81 (by decide) ?_
    refine W.lcmp C.2.1 C.2.2.1 d_X_draws_82 ?_
    refine lv_if_ge (tgt := 89) C.2.1 C.2.2.1 d_X_draws_83 (by decide) (fun c => ?_) (fun c => ?_)
    · have h := h.1 c
      exact w_X_draws_89 C htab hK70 (x5) (x6) (x7) _ _ _ _ hw (lv_sub hl [0, 1, 2, 3] rfl) h
    · have h := h.2 c
      refine lv_iinc (v := (x6) + 1) (lv' := [(6, .int ((x6) + 1)), (0, .ref (ad 0)), (5, .int (x5)), (7, .int (x7))]) C.2.1 C.2.2.1 d_X_draws_86 hl (k := 2) rfl rfl (by decide) rfl (fun ls hl => ?_)
      exact w_X_draws_89 C htab hK70 (x5) ((x6) + 1) (x7) _ _ _ _ hw (lv_sub hl [1, 2, 0, 3] rfl) h
def q_X_draws_70N : Nat → Int32 → Int32 → Int32 → CT → (Int32 → CT → Prop) → (String → CT → Prop) → Prop
  | 0 => fun _ _ _ _ _ _ => False
  | n + 1 => fun x5 x6 x7 u post ex => q_X_draws_70 (fun x5 x6 x7 u => q_X_draws_70N n x5 x6 x7 u post ex) x5 x6 x7 u post ex
theorem w_X_draws_70N {p : Program} {l : Launch} {e : Env} {s : State} {m : MethodId} {args : Array Value} {below : List Frame} {meth : Method} {c : Code} {Z : ZT} {ad : Nat → Nat} {u0 : CT} {post : Int32 → CT → Prop} {ex : String → CT → Prop} (C : CX "CoderTables" b_X_draws 8 (some .int) Z (va_A (cX Z ad u0) s.heap.size) p l s m args meth c) (htab : ∀ x ∈ c.exceptionTable.toList, False) : ∀ (n : Nat) (x5 : Int32) (x6 : Int32) (x7 : Int32) (u : CT) (H : Heap) (locs : List Loc) (ls : Array Slot), WD Z (va_A (cX Z ad u0) s.heap.size) s (cX Z ad u) H locs → lv_has ls 8 [(0, .ref (ad 0)), (5, .int (x5)), (6, .int (x6)), (7, .int (x7))] → q_X_draws_70N n x5 x6 x7 u post ex → W p l e rm_X_draws s m args below meth c H locs 0 0 (vx_MQ below (pQi Z (cX Z ad) (cX Z ad u0) s.heap.size post) (pX Z (cX Z ad) (cX Z ad u0) s.heap.size ex) args s 0 0 rm_X_draws.cells rm_X_draws.slots (va_A (cX Z ad u0) s.heap.size)) (F0 m 70 ls []) := by
  intro n
  induction n with
  | zero => intro x5 x6 x7 u H locs ls hw hl h; exact h.elim
  | succ n ih => intro x5 x6 x7 u H locs ls hw hl h; exact w_X_draws_70 C htab (fun x5 x6 x7 u H locs ls h hw hl => ih x5 x6 x7 u H locs ls hw hl h) x5 x6 x7 u H locs ls hw hl h
def q_X_draws (p1 : Int32) (p2 : Int32) (p3 : Int64) (p5 : Int32) (u : CT) (post : Int32 → CT → Prop) (ex : String → CT → Prop) : Prop :=
  q_X_needCoder (p1) (u) (fun u4 => q_X_needCoder (p2) (u4) (fun u6 => (((p5) < 0 → q_X_draws_23  (u6) post ex) ∧ (¬ (p5) < 0 → (((p5) ≤ (((200) : Int32)) → q_X_layLeads (p1) (p2) (u6) (fun u8 => ((¬ (x_leadCount (u8)) = 0 → q_N_start (p3) (u8) (fun u10 => ∃ n, q_X_draws_70N n (p5) (((0) : Int32)) (((0) : Int32)) (u10) post ex)) ∧ ((x_leadCount (u8)) = 0 → ex "java/lang/IllegalStateException" (u8))))) ∧ (¬ (p5) ≤ (((200) : Int32)) → q_X_draws_23  (u6) post ex))))) ex) ex
set_option maxRecDepth 100000 in
theorem c_X_draws {l : Launch} {Z : ZT} {ad : Nat → Nat} {u : CT} {post : Int32 → CT → Prop} {ex : String → CT → Prop} {p1 : Int32} {p2 : Int32} {p3 : Int64} {p5 : Int32} (hl0 : l.stackTraces = false) (h : q_X_draws p1 p2 p3 p5 u post ex) : ∀ sz, vx_Met l y_X_draws (Cond.code y_X_draws b_X_draws 8 (some .int) :: GW) rm_X_draws (pP Z [.ref (ad 0), .int (p1), .int (p2), .long (p3), .int (p5)] (cX Z ad u) sz) (pQi Z (cX Z ad) (cX Z ad u) sz post) (pX Z (cX Z ad) (cX Z ad u) sz ex) 0 0 rm_X_draws.cells rm_X_draws.slots (va_A (cX Z ad u) sz) := by
  refine g_ent (f := cX Z ad) (Qc := fun sz => pQi Z (cX Z ad) (cX Z ad u) sz post) (XC := fun sz => pX Z (cX Z ad) (cX Z ad u) sz ex) hl0 (by decide +kernel) (Nat.le_of_ble_eq_true rfl) ?_
  intro p e s m args below meth c ls C htab hw hl
  have hl : lv_has ls 8 [(0, .ref (ad 0)), (1, .int (p1)), (2, .int (p2)), (3, .long (p3)), (5, .int (p5))] := hl
  unfold q_X_draws at h
  refine lv_aload_n C.2.1 C.2.2.1 d_X_draws_0 rfl (lv_at hl 0 rfl) ?_
  refine lv_iload_n C.2.1 C.2.2.1 d_X_draws_1 rfl (lv_at hl 1 rfl) ?_
  refine k_X_114 C hw h ⟨Nat.le_of_ble_eq_true rfl, Nat.le_of_ble_eq_true rfl, Nat.le_of_ble_eq_true rfl, Nat.le_of_ble_eq_true rfl⟩ hl.1 (Nat.le_of_ble_eq_true rfl) d_X_draws_2 (fun _ _ _ _ _ _ he hw h1 h2 h3 => g_out C htab hw he h1 h2 h3 (Nat.le_of_ble_eq_true rfl) (Nat.le_of_ble_eq_true rfl)) (fun u4 H locs h hw => ?_)
  refine lv_aload_n C.2.1 C.2.2.1 d_X_draws_5 rfl (lv_at hl 0 rfl) ?_
  refine lv_iload_n C.2.1 C.2.2.1 d_X_draws_6 rfl (lv_at hl 2 rfl) ?_
  refine k_X_114 C hw h ⟨Nat.le_of_ble_eq_true rfl, Nat.le_of_ble_eq_true rfl, Nat.le_of_ble_eq_true rfl, Nat.le_of_ble_eq_true rfl⟩ hl.1 (Nat.le_of_ble_eq_true rfl) d_X_draws_7 (fun _ _ _ _ _ _ he hw h1 h2 h3 => g_out C htab hw he h1 h2 h3 (Nat.le_of_ble_eq_true rfl) (Nat.le_of_ble_eq_true rfl)) (fun u6 H locs h hw => ?_)
  refine lv_iload C.2.1 C.2.2.1 d_X_draws_10 (lv_at hl 4 rfl) ?_
  refine lv_if_lt (tgt := 23) C.2.1 C.2.2.1 d_X_draws_12 (by decide) (fun c => ?_) (fun c => ?_)
  · have h := h.1 c
    exact w_X_draws_23 C htab  _ _ _ _ hw (lv_sub hl [] rfl) h
  · have h := h.2 c
    refine lv_iload C.2.1 C.2.2.1 d_X_draws_15 (lv_at hl 4 rfl) ?_
    refine lv_sipush (v := (200)) C.2.1 C.2.2.1 d_X_draws_17 (by decide) ?_
    refine lv_icmp_le (tgt := 33) C.2.1 C.2.2.1 d_X_draws_20 (by decide) (fun c => ?_) (fun c => ?_)
    · have h := h.1 c
      refine lv_aload_n C.2.1 C.2.2.1 d_X_draws_33 rfl (lv_at hl 0 rfl) ?_
      refine lv_iload_n C.2.1 C.2.2.1 d_X_draws_34 rfl (lv_at hl 1 rfl) ?_
      refine lv_iload_n C.2.1 C.2.2.1 d_X_draws_35 rfl (lv_at hl 2 rfl) ?_
      refine k_X_155 C hw h ⟨Nat.le_of_ble_eq_true rfl, Nat.le_of_ble_eq_true rfl, Nat.le_of_ble_eq_true rfl, Nat.le_of_ble_eq_true rfl⟩ hl.1 (Nat.le_of_ble_eq_true rfl) d_X_draws_36 (fun u8 H locs h hw => ?_)
      refine lv_aload_n C.2.1 C.2.2.1 d_X_draws_39 rfl (lv_at hl 0 rfl) ?_
      refine r_X_44 C hw d_X_draws_40 ?_
      refine lv_if_ne (tgt := 56) C.2.1 C.2.2.1 d_X_draws_43 (by decide) (fun c => ?_) (fun c => ?_)
      · have h := h.1 c
        refine lv_aload_n C.2.1 C.2.2.1 d_X_draws_56 rfl (lv_at hl 0 rfl) ?_
        refine r_X_50 C hw d_X_draws_57 ?_
        refine lv_lload_n C.2.1 C.2.2.1 d_X_draws_60 rfl (lv_at hl 3 rfl) ?_
        refine k_X_176 C hw h ⟨Nat.le_of_ble_eq_true rfl, Nat.le_of_ble_eq_true rfl, Nat.le_of_ble_eq_true rfl, Nat.le_of_ble_eq_true rfl⟩ hl.1 (Nat.le_of_ble_eq_true rfl) d_X_draws_61 (fun u10 H locs h hw => ?_)
        refine lv_iconst (v := (0)) C.2.1 C.2.2.1 d_X_draws_64 (by decide) ?_
        refine lv_istore (lv' := [(6, .int (((0) : Int32))), (0, .ref (ad 0)), (1, .int (p1)), (2, .int (p2)), (3, .long (p3)), (5, .int (p5))]) C.2.1 C.2.2.1 d_X_draws_65 hl (by decide) rfl (fun ls hl => ?_)
        refine lv_iconst (v := (0)) C.2.1 C.2.2.1 d_X_draws_67 (by decide) ?_
        refine lv_istore (lv' := [(7, .int (((0) : Int32))), (6, .int (((0) : Int32))), (0, .ref (ad 0)), (1, .int (p1)), (2, .int (p2)), (3, .long (p3)), (5, .int (p5))]) C.2.1 C.2.2.1 d_X_draws_68 hl (by decide) rfl (fun ls hl => ?_)
        obtain ⟨n, h⟩ := h
        exact w_X_draws_70N C htab n (p5) (((0) : Int32)) (((0) : Int32)) _ _ _ _ hw (lv_sub hl [2, 6, 1, 0] rfl) h
      · have h := h.2 c
        exact g_throw C htab hw hE_T sg_174 h hl.1 d_X_draws_46 d_X_draws_49 d_X_draws_50 d_X_draws_52 d_X_draws_55 ⟨Nat.le_of_ble_eq_true rfl, Nat.le_of_ble_eq_true rfl, Nat.le_of_ble_eq_true rfl, Nat.le_of_ble_eq_true rfl⟩ (Nat.le_of_ble_eq_true rfl) (Nat.le_of_ble_eq_true rfl)
    · have h := h.2 c
      exact w_X_draws_23 C htab  _ _ _ _ hw (lv_sub hl [] rfl) h
/-! CoderTables.emptyPairs()V -/
abbrev rm_X_emptyPairs : Room := { frames := 0, cells := 0, slots := 0, locals := 0 }
def q_X_emptyPairs_2 (K2 : Int32 → CT → Prop) (x1 : Int32) (u : CT) (post : CT → Prop) : Prop :=
  (((((192) : Int32)) ≤ (x1) → post (x_failedCount_s (u) (((0) : Int32)))) ∧ (¬ (((192) : Int32)) ≤ (x1) → (vp_in (x1) 192 ∧ K2 ((x1) + 1) (x_pointCounts_s (u) (upd (x_pointCounts (u)) (x1).toNatClampNeg (((0) : Int32)))))))
set_option maxRecDepth 100000 in
theorem w_X_emptyPairs_2 {p : Program} {l : Launch} {e : Env} {s : State} {m : MethodId} {args : Array Value} {below : List Frame} {meth : Method} {c : Code} {Z : ZT} {ad : Nat → Nat} {u0 : CT} {post : CT → Prop} {K2 : Int32 → CT → Prop} (C : CX "CoderTables" b_X_emptyPairs 2 none Z (va_A (cX Z ad u0) s.heap.size) p l s m args meth c) (htab : ∀ x ∈ c.exceptionTable.toList, False) (hK2 : ∀ (x1 : Int32) (u : CT) (H : Heap) (locs : List Loc) (ls : Array Slot), K2 x1 u → WD Z (va_A (cX Z ad u0) s.heap.size) s (cX Z ad u) H locs → lv_has ls 2 [(0, .ref (ad 0)), (1, .int (x1))] → W p l e rm_X_emptyPairs s m args below meth c H locs 0 0 (vx_MQ below (pQv Z (cX Z ad) (cX Z ad u0) s.heap.size post) (pX Z (cX Z ad) (cX Z ad u0) s.heap.size (fun _ _ => False)) args s 0 0 rm_X_emptyPairs.cells rm_X_emptyPairs.slots (va_A (cX Z ad u0) s.heap.size)) (F0 m 2 ls [])) (x1 : Int32) (u : CT) (H : Heap) (locs : List Loc) (ls : Array Slot) (hw : WD Z (va_A (cX Z ad u0) s.heap.size) s (cX Z ad u) H locs) (hl : lv_has ls 2 [(0, .ref (ad 0)), (1, .int (x1))]) (h : q_X_emptyPairs_2 K2 x1 u post) : W p l e rm_X_emptyPairs s m args below meth c H locs 0 0 (vx_MQ below (pQv Z (cX Z ad) (cX Z ad u0) s.heap.size post) (pX Z (cX Z ad) (cX Z ad u0) s.heap.size (fun _ _ => False)) args s 0 0 rm_X_emptyPairs.cells rm_X_emptyPairs.slots (va_A (cX Z ad u0) s.heap.size)) (F0 m 2 ls []) := by
  unfold q_X_emptyPairs_2 at h
  refine lv_iload_n C.2.1 C.2.2.1 d_X_emptyPairs_2 rfl (lv_at hl 1 rfl) ?_
  refine lv_sipush (v := (192)) C.2.1 C.2.2.1 d_X_emptyPairs_3 (by decide) ?_
  refine lv_icmp_ge (tgt := 22) C.2.1 C.2.2.1 d_X_emptyPairs_6 (by decide) (fun c => ?_) (fun c => ?_)
  · have h := h.1 c
    refine lv_aload_n C.2.1 C.2.2.1 d_X_emptyPairs_22 rfl (lv_at hl 0 rfl) ?_
    refine lv_iconst (v := (0)) C.2.1 C.2.2.1 d_X_emptyPairs_23 (by decide) ?_
    refine s_X_32 C hw d_X_emptyPairs_24 (fun H locs hw => ?_)
    exact g_vret C hw h d_X_emptyPairs_27
  · have h := h.2 c
    refine lv_aload_n C.2.1 C.2.2.1 d_X_emptyPairs_9 rfl (lv_at hl 0 rfl) ?_
    refine r_X_16 C hw d_X_emptyPairs_10 ?_
    refine lv_iload_n C.2.1 C.2.2.1 d_X_emptyPairs_13 rfl (lv_at hl 1 rfl) ?_
    refine lv_iconst (v := (0)) C.2.1 C.2.2.1 d_X_emptyPairs_14 (by decide) ?_
    obtain ⟨hi, h⟩ := h
    refine as_X_1 C hw hi d_X_emptyPairs_15 (fun H locs hw => ?_)
    refine lv_iinc (v := (x1) + 1) (lv' := [(1, .int ((x1) + 1)), (0, .ref (ad 0))]) C.2.1 C.2.2.1 d_X_emptyPairs_16 hl (k := 1) rfl rfl (by decide) rfl (fun ls hl => ?_)
    refine lv_goto (tgt := 2) C.2.1 C.2.2.1 d_X_emptyPairs_19 (by decide) ?_
    exact hK2 ((x1) + 1) _ _ _ _ h hw (lv_sub hl [1, 0] rfl)
def q_X_emptyPairs_2N : Nat → Int32 → CT → (CT → Prop) → Prop
  | 0 => fun _ _ _ => False
  | n + 1 => fun x1 u post => q_X_emptyPairs_2 (fun x1 u => q_X_emptyPairs_2N n x1 u post) x1 u post
theorem w_X_emptyPairs_2N {p : Program} {l : Launch} {e : Env} {s : State} {m : MethodId} {args : Array Value} {below : List Frame} {meth : Method} {c : Code} {Z : ZT} {ad : Nat → Nat} {u0 : CT} {post : CT → Prop} (C : CX "CoderTables" b_X_emptyPairs 2 none Z (va_A (cX Z ad u0) s.heap.size) p l s m args meth c) (htab : ∀ x ∈ c.exceptionTable.toList, False) : ∀ (n : Nat) (x1 : Int32) (u : CT) (H : Heap) (locs : List Loc) (ls : Array Slot), WD Z (va_A (cX Z ad u0) s.heap.size) s (cX Z ad u) H locs → lv_has ls 2 [(0, .ref (ad 0)), (1, .int (x1))] → q_X_emptyPairs_2N n x1 u post → W p l e rm_X_emptyPairs s m args below meth c H locs 0 0 (vx_MQ below (pQv Z (cX Z ad) (cX Z ad u0) s.heap.size post) (pX Z (cX Z ad) (cX Z ad u0) s.heap.size (fun _ _ => False)) args s 0 0 rm_X_emptyPairs.cells rm_X_emptyPairs.slots (va_A (cX Z ad u0) s.heap.size)) (F0 m 2 ls []) := by
  intro n
  induction n with
  | zero => intro x1 u H locs ls hw hl h; exact h.elim
  | succ n ih => intro x1 u H locs ls hw hl h; exact w_X_emptyPairs_2 C htab (fun x1 u H locs ls h hw hl => ih x1 u H locs ls hw hl h) x1 u H locs ls hw hl h
def q_X_emptyPairs (u : CT) (post : CT → Prop) : Prop :=
  ∃ n, q_X_emptyPairs_2N n (((0) : Int32)) (u) post
set_option maxRecDepth 100000 in
theorem c_X_emptyPairs {l : Launch} {Z : ZT} {ad : Nat → Nat} {u : CT} {post : CT → Prop} (hl0 : l.stackTraces = false) (h : q_X_emptyPairs u post) : ∀ sz, vx_Met l y_X_emptyPairs (Cond.code y_X_emptyPairs b_X_emptyPairs 2 none :: GW) rm_X_emptyPairs (pP Z [.ref (ad 0)] (cX Z ad u) sz) (pQv Z (cX Z ad) (cX Z ad u) sz post) (pX Z (cX Z ad) (cX Z ad u) sz (fun _ _ => False)) 0 0 rm_X_emptyPairs.cells rm_X_emptyPairs.slots (va_A (cX Z ad u) sz) := by
  refine g_ent (f := cX Z ad) (Qc := fun sz => pQv Z (cX Z ad) (cX Z ad u) sz post) (XC := fun sz => pX Z (cX Z ad) (cX Z ad u) sz (fun _ _ => False)) hl0 (by decide +kernel) (Nat.le_of_ble_eq_true rfl) ?_
  intro p e s m args below meth c ls C htab hw hl
  have hl : lv_has ls 2 [(0, .ref (ad 0))] := hl
  unfold q_X_emptyPairs at h
  refine lv_iconst (v := (0)) C.2.1 C.2.2.1 d_X_emptyPairs_0 (by decide) ?_
  refine lv_istore_n (lv' := [(1, .int (((0) : Int32))), (0, .ref (ad 0))]) C.2.1 C.2.2.1 d_X_emptyPairs_1 rfl hl (by decide) rfl (fun ls hl => ?_)
  obtain ⟨n, h⟩ := h
  exact w_X_emptyPairs_2N C htab n (((0) : Int32)) _ _ _ _ hw (lv_sub hl [1, 0] rfl) h
section KR
variable {own host : String} {cc bytes : ByteArray} {nL maxL index n : Nat} {rt0 rt : Option FieldType} {Z : ZT} {ad : Nat → Nat} {A : Nat → Prop}
variable {p : Program} {l : Launch} {e : Env} {R : Room} {s : State} {m : MethodId} {args : Array Value} {below : List Frame} {meth : Method} {c : Code} {H : Heap} {locs : List Loc} {cells slots : Nat} {Q : State → Prop} {rest : List Value} {pc : Nat} {ls : Array Slot}
theorem k_X_184 {u : CT} {post : CT → Prop} (C : CX "CoderTables" cc nL rt0 Z A p l s m args meth c) (hw : WD Z A s (cX Z ad u) H locs) (h : q_X_emptyPairs u post) (hR : rmOk rm_X_emptyPairs 2 R cells slots) (hl : ls.size = nL) (hW : (rest.map fun v => v.category).sum ≤ 8) (hdg : decode cc pc = .ok (.invokevirtual 184, 3)) (kk : ∀ (u' : CT) (H1 : Heap) (locs1 : List Loc), post u' → WD Z A s (cX Z ad u') H1 locs1 → W p l e R s m args below meth c H1 locs1 cells slots Q (F0 m (pc + 3) ls (rest))) : W p l e R s m args below meth c H locs cells slots Q (F0 m pc ls (.ref (ad 0) :: rest)) :=
  g_V0_v (n := 0) (f := cX Z ad) (As := []) C hw (c_X_emptyPairs C.1 h) ⟨w152, w154, w0, w53, w155, (by decide +kernel), (by decide +kernel), (by decide +kernel)⟩ hR 0 rfl rfl rfl hl rfl hW hdg (fun _ _ _ _ _ _ h => h.elim) kk
end KR
/-! CoderTables.fillPair(I)I -/
abbrev rm_X_fillPair : Room := { frames := 1, cells := 0, slots := 0, locals := 25 }
def q_X_fillPair_33 (K33 : Int32 → Int32 → Int32 → CT → Prop) (x1 : Int32) (x2 : Int32) (x3 : Int32) (u : CT) (post : Int32 → CT → Prop) : Prop :=
  (((x2) ≤ (x3) → post (x2) (u)) ∧ (¬ (x2) ≤ (x3) → q_N_below (((1000) : Int32)) (u) (fun r1 u2 => q_N_below (((1000) : Int32)) (u2) (fun r3 u4 => q_X_addPoint (x1) ((r1) + (((1) : Int32))) (r3) (u4) (fun u6 => K33 (x1) (x2) ((x3) + 1) (u6))))))
set_option maxRecDepth 100000 in
theorem w_X_fillPair_33 {p : Program} {l : Launch} {e : Env} {s : State} {m : MethodId} {args : Array Value} {below : List Frame} {meth : Method} {c : Code} {Z : ZT} {ad : Nat → Nat} {u0 : CT} {post : Int32 → CT → Prop} {K33 : Int32 → Int32 → Int32 → CT → Prop} (C : CX "CoderTables" b_X_fillPair 6 (some .int) Z (va_A (cX Z ad u0) s.heap.size) p l s m args meth c) (htab : ∀ x ∈ c.exceptionTable.toList, False) (hK33 : ∀ (x1 : Int32) (x2 : Int32) (x3 : Int32) (u : CT) (H : Heap) (locs : List Loc) (ls : Array Slot), K33 x1 x2 x3 u → WD Z (va_A (cX Z ad u0) s.heap.size) s (cX Z ad u) H locs → lv_has ls 6 [(0, .ref (ad 0)), (1, .int (x1)), (2, .int (x2)), (3, .int (x3))] → W p l e rm_X_fillPair s m args below meth c H locs 0 0 (vx_MQ below (pQi Z (cX Z ad) (cX Z ad u0) s.heap.size post) (pX Z (cX Z ad) (cX Z ad u0) s.heap.size (fun _ _ => False)) args s 0 0 rm_X_fillPair.cells rm_X_fillPair.slots (va_A (cX Z ad u0) s.heap.size)) (F0 m 33 ls [])) (x1 : Int32) (x2 : Int32) (x3 : Int32) (u : CT) (H : Heap) (locs : List Loc) (ls : Array Slot) (hw : WD Z (va_A (cX Z ad u0) s.heap.size) s (cX Z ad u) H locs) (hl : lv_has ls 6 [(0, .ref (ad 0)), (1, .int (x1)), (2, .int (x2)), (3, .int (x3))]) (h : q_X_fillPair_33 K33 x1 x2 x3 u post) : W p l e rm_X_fillPair s m args below meth c H locs 0 0 (vx_MQ below (pQi Z (cX Z ad) (cX Z ad u0) s.heap.size post) (pX Z (cX Z ad) (cX Z ad u0) s.heap.size (fun _ _ => False)) args s 0 0 rm_X_fillPair.cells rm_X_fillPair.slots (va_A (cX Z ad u0) s.heap.size)) (F0 m 33 ls []) := by
  unfold q_X_fillPair_33 at h
  refine lv_iload_n C.2.1 C.2.2.1 d_X_fillPair_33 rfl (lv_at hl 3 rfl) ?_
  refine lv_iload_n C.2.1 C.2.2.1 d_X_fillPair_34 rfl (lv_at hl 2 rfl) ?_
  refine lv_icmp_ge (tgt := 79) C.2.1 C.2.2.1 d_X_fillPair_35 (by decide) (fun c => ?_) (fun c => ?_)
  · have h := h.1 c
    refine lv_iload_n C.2.1 C.2.2.1 d_X_fillPair_79 rfl (lv_at hl 2 rfl) ?_
    exact g_iret C hw rfl h d_X_fillPair_80
  · have h := h.2 c
    refine lv_aload_n C.2.1 C.2.2.1 d_X_fillPair_38 rfl (lv_at hl 0 rfl) ?_
    refine r_X_50 C hw d_X_fillPair_39 ?_
    refine lv_sipush (v := (1000)) C.2.1 C.2.2.1 d_X_fillPair_42 (by decide) ?_
    refine k_X_221 C hw h ⟨Nat.le_of_ble_eq_true rfl, Nat.le_of_ble_eq_true rfl, Nat.le_of_ble_eq_true rfl, Nat.le_of_ble_eq_true rfl⟩ hl.1 (Nat.le_of_ble_eq_true rfl) d_X_fillPair_45 (fun r1 u2 H locs h hw => ?_)
    refine lv_iconst (v := (1)) C.2.1 C.2.2.1 d_X_fillPair_48 (by decide) ?_
    refine lv_iadd C.2.1 C.2.2.1 d_X_fillPair_49 ?_
    refine lv_istore (lv' := [(4, .int ((r1) + (((1) : Int32)))), (0, .ref (ad 0)), (1, .int (x1)), (2, .int (x2)), (3, .int (x3))]) C.2.1 C.2.2.1 d_X_fillPair_50 hl (by decide) rfl (fun ls hl => ?_)
    refine lv_aload_n C.2.1 C.2.2.1 d_X_fillPair_52 rfl (lv_at hl 1 rfl) ?_
    refine r_X_50 C hw d_X_fillPair_53 ?_
    refine lv_sipush (v := (1000)) C.2.1 C.2.2.1 d_X_fillPair_56 (by decide) ?_
    refine k_X_221 C hw h ⟨Nat.le_of_ble_eq_true rfl, Nat.le_of_ble_eq_true rfl, Nat.le_of_ble_eq_true rfl, Nat.le_of_ble_eq_true rfl⟩ hl.1 (Nat.le_of_ble_eq_true rfl) d_X_fillPair_59 (fun r3 u4 H locs h hw => ?_)
    refine lv_istore (lv' := [(5, .int (r3)), (4, .int ((r1) + (((1) : Int32)))), (0, .ref (ad 0)), (1, .int (x1)), (2, .int (x2)), (3, .int (x3))]) C.2.1 C.2.2.1 d_X_fillPair_62 hl (by decide) rfl (fun ls hl => ?_)
    refine lv_aload_n C.2.1 C.2.2.1 d_X_fillPair_64 rfl (lv_at hl 2 rfl) ?_
    refine lv_iload_n C.2.1 C.2.2.1 d_X_fillPair_65 rfl (lv_at hl 3 rfl) ?_
    refine lv_iload C.2.1 C.2.2.1 d_X_fillPair_66 (lv_at hl 1 rfl) ?_
    refine lv_iload C.2.1 C.2.2.1 d_X_fillPair_68 (lv_at hl 0 rfl) ?_
    refine k_X_89 C hw h ⟨Nat.le_of_ble_eq_true rfl, Nat.le_of_ble_eq_true rfl, Nat.le_of_ble_eq_true rfl, Nat.le_of_ble_eq_true rfl⟩ hl.1 (Nat.le_of_ble_eq_true rfl) d_X_fillPair_70 (fun u6 H locs h hw => ?_)
    refine lv_iinc (v := (x3) + 1) (lv' := [(3, .int ((x3) + 1)), (5, .int (r3)), (4, .int ((r1) + (((1) : Int32)))), (0, .ref (ad 0)), (1, .int (x1)), (2, .int (x2))]) C.2.1 C.2.2.1 d_X_fillPair_73 hl (k := 5) rfl rfl (by decide) rfl (fun ls hl => ?_)
    refine lv_goto (tgt := 33) C.2.1 C.2.2.1 d_X_fillPair_76 (by decide) ?_
    exact hK33 (x1) (x2) ((x3) + 1) _ _ _ _ h hw (lv_sub hl [3, 4, 5, 0] rfl)
def q_X_fillPair_33N : Nat → Int32 → Int32 → Int32 → CT → (Int32 → CT → Prop) → Prop
  | 0 => fun _ _ _ _ _ => False
  | n + 1 => fun x1 x2 x3 u post => q_X_fillPair_33 (fun x1 x2 x3 u => q_X_fillPair_33N n x1 x2 x3 u post) x1 x2 x3 u post
theorem w_X_fillPair_33N {p : Program} {l : Launch} {e : Env} {s : State} {m : MethodId} {args : Array Value} {below : List Frame} {meth : Method} {c : Code} {Z : ZT} {ad : Nat → Nat} {u0 : CT} {post : Int32 → CT → Prop} (C : CX "CoderTables" b_X_fillPair 6 (some .int) Z (va_A (cX Z ad u0) s.heap.size) p l s m args meth c) (htab : ∀ x ∈ c.exceptionTable.toList, False) : ∀ (n : Nat) (x1 : Int32) (x2 : Int32) (x3 : Int32) (u : CT) (H : Heap) (locs : List Loc) (ls : Array Slot), WD Z (va_A (cX Z ad u0) s.heap.size) s (cX Z ad u) H locs → lv_has ls 6 [(0, .ref (ad 0)), (1, .int (x1)), (2, .int (x2)), (3, .int (x3))] → q_X_fillPair_33N n x1 x2 x3 u post → W p l e rm_X_fillPair s m args below meth c H locs 0 0 (vx_MQ below (pQi Z (cX Z ad) (cX Z ad u0) s.heap.size post) (pX Z (cX Z ad) (cX Z ad u0) s.heap.size (fun _ _ => False)) args s 0 0 rm_X_fillPair.cells rm_X_fillPair.slots (va_A (cX Z ad u0) s.heap.size)) (F0 m 33 ls []) := by
  intro n
  induction n with
  | zero => intro x1 x2 x3 u H locs ls hw hl h; exact h.elim
  | succ n ih => intro x1 x2 x3 u H locs ls hw hl h; exact w_X_fillPair_33 C htab (fun x1 x2 x3 u H locs ls h hw hl => ih x1 x2 x3 u H locs ls hw hl h) x1 x2 x3 u H locs ls hw hl h
def q_X_fillPair (p1 : Int32) (u : CT) (post : Int32 → CT → Prop) : Prop :=
  q_N_below (((9) : Int32)) (u) (fun r7 u8 => ((¬ (r7) = (((8) : Int32)) → q_N_below (((7) : Int32)) (u8) (fun r9 u10 => ∃ n, q_X_fillPair_33N n (p1) (r9) (((0) : Int32)) (u10) post)) ∧ ((r7) = (((8) : Int32)) → q_X_markFailed (p1) (u8) (fun u12 => post (((0) : Int32)) (u12)))))
set_option maxRecDepth 100000 in
theorem c_X_fillPair {l : Launch} {Z : ZT} {ad : Nat → Nat} {u : CT} {post : Int32 → CT → Prop} {p1 : Int32} (hl0 : l.stackTraces = false) (h : q_X_fillPair p1 u post) : ∀ sz, vx_Met l y_X_fillPair (Cond.code y_X_fillPair b_X_fillPair 6 (some .int) :: GW) rm_X_fillPair (pP Z [.ref (ad 0), .int (p1)] (cX Z ad u) sz) (pQi Z (cX Z ad) (cX Z ad u) sz post) (pX Z (cX Z ad) (cX Z ad u) sz (fun _ _ => False)) 0 0 rm_X_fillPair.cells rm_X_fillPair.slots (va_A (cX Z ad u) sz) := by
  refine g_ent (f := cX Z ad) (Qc := fun sz => pQi Z (cX Z ad) (cX Z ad u) sz post) (XC := fun sz => pX Z (cX Z ad) (cX Z ad u) sz (fun _ _ => False)) hl0 (by decide +kernel) (Nat.le_of_ble_eq_true rfl) ?_
  intro p e s m args below meth c ls C htab hw hl
  have hl : lv_has ls 6 [(0, .ref (ad 0)), (1, .int (p1))] := hl
  unfold q_X_fillPair at h
  refine lv_aload_n C.2.1 C.2.2.1 d_X_fillPair_0 rfl (lv_at hl 0 rfl) ?_
  refine r_X_50 C hw d_X_fillPair_1 ?_
  refine lv_bipush (v := (9)) C.2.1 C.2.2.1 d_X_fillPair_4 (by decide) ?_
  refine k_X_221 C hw h ⟨Nat.le_of_ble_eq_true rfl, Nat.le_of_ble_eq_true rfl, Nat.le_of_ble_eq_true rfl, Nat.le_of_ble_eq_true rfl⟩ hl.1 (Nat.le_of_ble_eq_true rfl) d_X_fillPair_6 (fun r7 u8 H locs h hw => ?_)
  refine lv_bipush (v := (8)) C.2.1 C.2.2.1 d_X_fillPair_9 (by decide) ?_
  refine lv_icmp_ne (tgt := 21) C.2.1 C.2.2.1 d_X_fillPair_11 (by decide) (fun c => ?_) (fun c => ?_)
  · have h := h.1 c
    refine lv_aload_n C.2.1 C.2.2.1 d_X_fillPair_21 rfl (lv_at hl 0 rfl) ?_
    refine r_X_50 C hw d_X_fillPair_22 ?_
    refine lv_bipush (v := (7)) C.2.1 C.2.2.1 d_X_fillPair_25 (by decide) ?_
    refine k_X_221 C hw h ⟨Nat.le_of_ble_eq_true rfl, Nat.le_of_ble_eq_true rfl, Nat.le_of_ble_eq_true rfl, Nat.le_of_ble_eq_true rfl⟩ hl.1 (Nat.le_of_ble_eq_true rfl) d_X_fillPair_27 (fun r9 u10 H locs h hw => ?_)
    refine lv_istore_n (lv' := [(2, .int (r9)), (0, .ref (ad 0)), (1, .int (p1))]) C.2.1 C.2.2.1 d_X_fillPair_30 rfl hl (by decide) rfl (fun ls hl => ?_)
    refine lv_iconst (v := (0)) C.2.1 C.2.2.1 d_X_fillPair_31 (by decide) ?_
    refine lv_istore_n (lv' := [(3, .int (((0) : Int32))), (2, .int (r9)), (0, .ref (ad 0)), (1, .int (p1))]) C.2.1 C.2.2.1 d_X_fillPair_32 rfl hl (by decide) rfl (fun ls hl => ?_)
    obtain ⟨n, h⟩ := h
    exact w_X_fillPair_33N C htab n (p1) (r9) (((0) : Int32)) _ _ _ _ hw (lv_sub hl [2, 3, 1, 0] rfl) h
  · have h := h.2 c
    refine lv_aload_n C.2.1 C.2.2.1 d_X_fillPair_14 rfl (lv_at hl 0 rfl) ?_
    refine lv_iload_n C.2.1 C.2.2.1 d_X_fillPair_15 rfl (lv_at hl 1 rfl) ?_
    refine k_X_95 C hw h ⟨Nat.le_of_ble_eq_true rfl, Nat.le_of_ble_eq_true rfl, Nat.le_of_ble_eq_true rfl, Nat.le_of_ble_eq_true rfl⟩ hl.1 (Nat.le_of_ble_eq_true rfl) d_X_fillPair_16 (fun u12 H locs h hw => ?_)
    refine lv_iconst (v := (0)) C.2.1 C.2.2.1 d_X_fillPair_19 (by decide) ?_
    exact g_iret C hw rfl h d_X_fillPair_20
section KR
variable {own host : String} {cc bytes : ByteArray} {nL maxL index n : Nat} {rt0 rt : Option FieldType} {Z : ZT} {ad : Nat → Nat} {A : Nat → Prop}
variable {p : Program} {l : Launch} {e : Env} {R : Room} {s : State} {m : MethodId} {args : Array Value} {below : List Frame} {meth : Method} {c : Code} {H : Heap} {locs : List Loc} {cells slots : Nat} {Q : State → Prop} {rest : List Value} {pc : Nat} {ls : Array Slot}
theorem k_X_187 {u : CT} {p1 : Int32} {post : Int32 → CT → Prop} (C : CX "CoderTables" cc nL rt0 Z A p l s m args meth c) (hw : WD Z A s (cX Z ad u) H locs) (h : q_X_fillPair p1 u post) (hR : rmOk rm_X_fillPair 6 R cells slots) (hl : ls.size = nL) (hW : (rest.map fun v => v.category).sum ≤ 8) (hdg : decode cc pc = .ok (.invokevirtual 187, 3)) (kk : ∀ (r : Int32) (u' : CT) (H1 : Heap) (locs1 : List Loc), post r u' → WD Z A s (cX Z ad u') H1 locs1 → W p l e R s m args below meth c H1 locs1 cells slots Q (F0 m (pc + 3) ls (.int r :: rest))) : W p l e R s m args below meth c H locs cells slots Q (F0 m pc ls (.int (p1) :: .ref (ad 0) :: rest)) :=
  g_V0_i (n := 1) (f := cX Z ad) (As := [.int (p1)]) C hw (c_X_fillPair C.1 h) ⟨w160, w162, w2, w53, w163, (by decide +kernel), (by decide +kernel), (by decide +kernel)⟩ hR 0 rfl rfl rfl hl rfl hW hdg (fun _ _ _ _ _ _ h => h.elim) kk
end KR
/-! CoderTables.fill(J)I -/
abbrev rm_X_fill : Room := { frames := 2, cells := 0, slots := 0, locals := 50 }
def q_X_fill_29 (K17 : Int32 → Int32 → CT → Prop) (K29 : Int32 → Int32 → Int32 → CT → Prop) (x3 : Int32) (x4 : Int32) (x5 : Int32) (u : CT) (post : Int32 → CT → Prop) : Prop :=
  (((x_pictures (u)) ≤ (x5) → K17 (x3) ((x4) + 1) (u)) ∧ (¬ (x_pictures (u)) ≤ (x5) → q_X_fillPair (((x4) * (((24) : Int32))) + (x5)) (u) (fun r1 u2 => K29 ((x3) + (r1)) (x4) ((x5) + 1) (u2))))
set_option maxRecDepth 100000 in
theorem w_X_fill_29 {p : Program} {l : Launch} {e : Env} {s : State} {m : MethodId} {args : Array Value} {below : List Frame} {meth : Method} {c : Code} {Z : ZT} {ad : Nat → Nat} {u0 : CT} {post : Int32 → CT → Prop} {K17 : Int32 → Int32 → CT → Prop} {K29 : Int32 → Int32 → Int32 → CT → Prop} (C : CX "CoderTables" b_X_fill 6 (some .int) Z (va_A (cX Z ad u0) s.heap.size) p l s m args meth c) (htab : ∀ x ∈ c.exceptionTable.toList, False) (hK17 : ∀ (x3 : Int32) (x4 : Int32) (u : CT) (H : Heap) (locs : List Loc) (ls : Array Slot), K17 x3 x4 u → WD Z (va_A (cX Z ad u0) s.heap.size) s (cX Z ad u) H locs → lv_has ls 6 [(0, .ref (ad 0)), (3, .int (x3)), (4, .int (x4))] → W p l e rm_X_fill s m args below meth c H locs 0 0 (vx_MQ below (pQi Z (cX Z ad) (cX Z ad u0) s.heap.size post) (pX Z (cX Z ad) (cX Z ad u0) s.heap.size (fun _ _ => False)) args s 0 0 rm_X_fill.cells rm_X_fill.slots (va_A (cX Z ad u0) s.heap.size)) (F0 m 17 ls [])) (hK29 : ∀ (x3 : Int32) (x4 : Int32) (x5 : Int32) (u : CT) (H : Heap) (locs : List Loc) (ls : Array Slot), K29 x3 x4 x5 u → WD Z (va_A (cX Z ad u0) s.heap.size) s (cX Z ad u) H locs → lv_has ls 6 [(0, .ref (ad 0)), (3, .int (x3)), (4, .int (x4)), (5, .int (x5))] → W p l e rm_X_fill s m args below meth c H locs 0 0 (vx_MQ below (pQi Z (cX Z ad) (cX Z ad u0) s.heap.size post) (pX Z (cX Z ad) (cX Z ad u0) s.heap.size (fun _ _ => False)) args s 0 0 rm_X_fill.cells rm_X_fill.slots (va_A (cX Z ad u0) s.heap.size)) (F0 m 29 ls [])) (x3 : Int32) (x4 : Int32) (x5 : Int32) (u : CT) (H : Heap) (locs : List Loc) (ls : Array Slot) (hw : WD Z (va_A (cX Z ad u0) s.heap.size) s (cX Z ad u) H locs) (hl : lv_has ls 6 [(0, .ref (ad 0)), (3, .int (x3)), (4, .int (x4)), (5, .int (x5))]) (h : q_X_fill_29 K17 K29 x3 x4 x5 u post) : W p l e rm_X_fill s m args below meth c H locs 0 0 (vx_MQ below (pQi Z (cX Z ad) (cX Z ad u0) s.heap.size post) (pX Z (cX Z ad) (cX Z ad u0) s.heap.size (fun _ _ => False)) args s 0 0 rm_X_fill.cells rm_X_fill.slots (va_A (cX Z ad u0) s.heap.size)) (F0 m 29 ls []) := by
  unfold q_X_fill_29 at h
  refine lv_iload C.2.1 C.2.2.1 d_X_fill_29 (lv_at hl 3 rfl) ?_
  refine lv_aload_n C.2.1 C.2.2.1 d_X_fill_31 rfl (lv_at hl 0 rfl) ?_
  refine r_X_13 C hw d_X_fill_32 ?_
  refine lv_icmp_ge (tgt := 59) C.2.1 C.2.2.1 d_X_fill_35 (by decide) (fun c => ?_) (fun c => ?_)
  · have h := h.1 c
    refine lv_iinc (v := (x4) + 1) (lv' := [(4, .int ((x4) + 1)), (0, .ref (ad 0)), (3, .int (x3)), (5, .int (x5))]) C.2.1 C.2.2.1 d_X_fill_59 hl (k := 2) rfl rfl (by decide) rfl (fun ls hl => ?_)
    refine lv_goto (tgt := 17) C.2.1 C.2.2.1 d_X_fill_62 (by decide) ?_
    exact hK17 (x3) ((x4) + 1) _ _ _ _ h hw (lv_sub hl [1, 2, 0] rfl)
  · have h := h.2 c
    refine lv_iload_n C.2.1 C.2.2.1 d_X_fill_38 rfl (lv_at hl 1 rfl) ?_
    refine lv_aload_n C.2.1 C.2.2.1 d_X_fill_39 rfl (lv_at hl 0 rfl) ?_
    refine lv_iload C.2.1 C.2.2.1 d_X_fill_40 (lv_at hl 2 rfl) ?_
    refine lv_bipush (v := (24)) C.2.1 C.2.2.1 d_X_fill_42 (by decide) ?_
    refine lv_imul C.2.1 C.2.2.1 d_X_fill_44 ?_
    refine lv_iload C.2.1 C.2.2.1 d_X_fill_45 (lv_at hl 3 rfl) ?_
    refine lv_iadd C.2.1 C.2.2.1 d_X_fill_47 ?_
    refine k_X_187 C hw h ⟨Nat.le_of_ble_eq_true rfl, Nat.le_of_ble_eq_true rfl, Nat.le_of_ble_eq_true rfl, Nat.le_of_ble_eq_true rfl⟩ hl.1 (Nat.le_of_ble_eq_true rfl) d_X_fill_48 (fun r1 u2 H locs h hw => ?_)
    refine lv_iadd C.2.1 C.2.2.1 d_X_fill_51 ?_
    refine lv_istore_n (lv' := [(3, .int ((x3) + (r1))), (0, .ref (ad 0)), (4, .int (x4)), (5, .int (x5))]) C.2.1 C.2.2.1 d_X_fill_52 rfl hl (by decide) rfl (fun ls hl => ?_)
    refine lv_iinc (v := (x5) + 1) (lv' := [(5, .int ((x5) + 1)), (3, .int ((x3) + (r1))), (0, .ref (ad 0)), (4, .int (x4))]) C.2.1 C.2.2.1 d_X_fill_53 hl (k := 3) rfl rfl (by decide) rfl (fun ls hl => ?_)
    refine lv_goto (tgt := 29) C.2.1 C.2.2.1 d_X_fill_56 (by decide) ?_
    exact hK29 ((x3) + (r1)) (x4) ((x5) + 1) _ _ _ _ h hw (lv_sub hl [2, 1, 3, 0] rfl)
def q_X_fill_29N (K17 : Int32 → Int32 → CT → Prop) : Nat → Int32 → Int32 → Int32 → CT → (Int32 → CT → Prop) → Prop
  | 0 => fun _ _ _ _ _ => False
  | n + 1 => fun x3 x4 x5 u post => q_X_fill_29 K17 (fun x3 x4 x5 u => q_X_fill_29N K17 n x3 x4 x5 u post) x3 x4 x5 u post
theorem w_X_fill_29N {p : Program} {l : Launch} {e : Env} {s : State} {m : MethodId} {args : Array Value} {below : List Frame} {meth : Method} {c : Code} {Z : ZT} {ad : Nat → Nat} {u0 : CT} {post : Int32 → CT → Prop} {K17 : Int32 → Int32 → CT → Prop} (C : CX "CoderTables" b_X_fill 6 (some .int) Z (va_A (cX Z ad u0) s.heap.size) p l s m args meth c) (htab : ∀ x ∈ c.exceptionTable.toList, False) (hK17 : ∀ (x3 : Int32) (x4 : Int32) (u : CT) (H : Heap) (locs : List Loc) (ls : Array Slot), K17 x3 x4 u → WD Z (va_A (cX Z ad u0) s.heap.size) s (cX Z ad u) H locs → lv_has ls 6 [(0, .ref (ad 0)), (3, .int (x3)), (4, .int (x4))] → W p l e rm_X_fill s m args below meth c H locs 0 0 (vx_MQ below (pQi Z (cX Z ad) (cX Z ad u0) s.heap.size post) (pX Z (cX Z ad) (cX Z ad u0) s.heap.size (fun _ _ => False)) args s 0 0 rm_X_fill.cells rm_X_fill.slots (va_A (cX Z ad u0) s.heap.size)) (F0 m 17 ls [])) : ∀ (n : Nat) (x3 : Int32) (x4 : Int32) (x5 : Int32) (u : CT) (H : Heap) (locs : List Loc) (ls : Array Slot), WD Z (va_A (cX Z ad u0) s.heap.size) s (cX Z ad u) H locs → lv_has ls 6 [(0, .ref (ad 0)), (3, .int (x3)), (4, .int (x4)), (5, .int (x5))] → q_X_fill_29N K17 n x3 x4 x5 u post → W p l e rm_X_fill s m args below meth c H locs 0 0 (vx_MQ below (pQi Z (cX Z ad) (cX Z ad u0) s.heap.size post) (pX Z (cX Z ad) (cX Z ad u0) s.heap.size (fun _ _ => False)) args s 0 0 rm_X_fill.cells rm_X_fill.slots (va_A (cX Z ad u0) s.heap.size)) (F0 m 29 ls []) := by
  intro n
  induction n with
  | zero => intro x3 x4 x5 u H locs ls hw hl h; exact h.elim
  | succ n ih => intro x3 x4 x5 u H locs ls hw hl h; exact w_X_fill_29 C htab hK17 (fun x3 x4 x5 u H locs ls h hw hl => ih x3 x4 x5 u H locs ls hw hl h) x3 x4 x5 u H locs ls hw hl h
def q_X_fill_17 (K17 : Int32 → Int32 → CT → Prop) (x3 : Int32) (x4 : Int32) (u : CT) (post : Int32 → CT → Prop) : Prop :=
  (((x_coders (u)) ≤ (x4) → post (x3) (u)) ∧ (¬ (x_coders (u)) ≤ (x4) → ∃ n, q_X_fill_29N K17 n (x3) (x4) (((0) : Int32)) (u) post))
set_option maxRecDepth 100000 in
theorem w_X_fill_17 {p : Program} {l : Launch} {e : Env} {s : State} {m : MethodId} {args : Array Value} {below : List Frame} {meth : Method} {c : Code} {Z : ZT} {ad : Nat → Nat} {u0 : CT} {post : Int32 → CT → Prop} {K17 : Int32 → Int32 → CT → Prop} (C : CX "CoderTables" b_X_fill 6 (some .int) Z (va_A (cX Z ad u0) s.heap.size) p l s m args meth c) (htab : ∀ x ∈ c.exceptionTable.toList, False) (hK17 : ∀ (x3 : Int32) (x4 : Int32) (u : CT) (H : Heap) (locs : List Loc) (ls : Array Slot), K17 x3 x4 u → WD Z (va_A (cX Z ad u0) s.heap.size) s (cX Z ad u) H locs → lv_has ls 6 [(0, .ref (ad 0)), (3, .int (x3)), (4, .int (x4))] → W p l e rm_X_fill s m args below meth c H locs 0 0 (vx_MQ below (pQi Z (cX Z ad) (cX Z ad u0) s.heap.size post) (pX Z (cX Z ad) (cX Z ad u0) s.heap.size (fun _ _ => False)) args s 0 0 rm_X_fill.cells rm_X_fill.slots (va_A (cX Z ad u0) s.heap.size)) (F0 m 17 ls [])) (x3 : Int32) (x4 : Int32) (u : CT) (H : Heap) (locs : List Loc) (ls : Array Slot) (hw : WD Z (va_A (cX Z ad u0) s.heap.size) s (cX Z ad u) H locs) (hl : lv_has ls 6 [(0, .ref (ad 0)), (3, .int (x3)), (4, .int (x4))]) (h : q_X_fill_17 K17 x3 x4 u post) : W p l e rm_X_fill s m args below meth c H locs 0 0 (vx_MQ below (pQi Z (cX Z ad) (cX Z ad u0) s.heap.size post) (pX Z (cX Z ad) (cX Z ad u0) s.heap.size (fun _ _ => False)) args s 0 0 rm_X_fill.cells rm_X_fill.slots (va_A (cX Z ad u0) s.heap.size)) (F0 m 17 ls []) := by
  unfold q_X_fill_17 at h
  refine lv_iload C.2.1 C.2.2.1 d_X_fill_17 (lv_at hl 2 rfl) ?_
  refine lv_aload_n C.2.1 C.2.2.1 d_X_fill_19 rfl (lv_at hl 0 rfl) ?_
  refine r_X_9 C hw d_X_fill_20 ?_
  refine lv_icmp_ge (tgt := 65) C.2.1 C.2.2.1 d_X_fill_23 (by decide) (fun c => ?_) (fun c => ?_)
  · have h := h.1 c
    refine lv_iload_n C.2.1 C.2.2.1 d_X_fill_65 rfl (lv_at hl 1 rfl) ?_
    exact g_iret C hw rfl h d_X_fill_66
  · have h := h.2 c
    refine lv_iconst (v := (0)) C.2.1 C.2.2.1 d_X_fill_26 (by decide) ?_
    refine lv_istore (lv' := [(5, .int (((0) : Int32))), (0, .ref (ad 0)), (3, .int (x3)), (4, .int (x4))]) C.2.1 C.2.2.1 d_X_fill_27 hl (by decide) rfl (fun ls hl => ?_)
    obtain ⟨n, h⟩ := h
    exact w_X_fill_29N C htab hK17 n (x3) (x4) (((0) : Int32)) _ _ _ _ hw (lv_sub hl [1, 2, 3, 0] rfl) h
def q_X_fill_17N : Nat → Int32 → Int32 → CT → (Int32 → CT → Prop) → Prop
  | 0 => fun _ _ _ _ => False
  | n + 1 => fun x3 x4 u post => q_X_fill_17 (fun x3 x4 u => q_X_fill_17N n x3 x4 u post) x3 x4 u post
theorem w_X_fill_17N {p : Program} {l : Launch} {e : Env} {s : State} {m : MethodId} {args : Array Value} {below : List Frame} {meth : Method} {c : Code} {Z : ZT} {ad : Nat → Nat} {u0 : CT} {post : Int32 → CT → Prop} (C : CX "CoderTables" b_X_fill 6 (some .int) Z (va_A (cX Z ad u0) s.heap.size) p l s m args meth c) (htab : ∀ x ∈ c.exceptionTable.toList, False) : ∀ (n : Nat) (x3 : Int32) (x4 : Int32) (u : CT) (H : Heap) (locs : List Loc) (ls : Array Slot), WD Z (va_A (cX Z ad u0) s.heap.size) s (cX Z ad u) H locs → lv_has ls 6 [(0, .ref (ad 0)), (3, .int (x3)), (4, .int (x4))] → q_X_fill_17N n x3 x4 u post → W p l e rm_X_fill s m args below meth c H locs 0 0 (vx_MQ below (pQi Z (cX Z ad) (cX Z ad u0) s.heap.size post) (pX Z (cX Z ad) (cX Z ad u0) s.heap.size (fun _ _ => False)) args s 0 0 rm_X_fill.cells rm_X_fill.slots (va_A (cX Z ad u0) s.heap.size)) (F0 m 17 ls []) := by
  intro n
  induction n with
  | zero => intro x3 x4 u H locs ls hw hl h; exact h.elim
  | succ n ih => intro x3 x4 u H locs ls hw hl h; exact w_X_fill_17 C htab (fun x3 x4 u H locs ls h hw hl => ih x3 x4 u H locs ls hw hl h) x3 x4 u H locs ls hw hl h
def q_X_fill (p1 : Int64) (u : CT) (post : Int32 → CT → Prop) : Prop :=
  q_X_emptyPairs  (u) (fun u4 => q_N_start (p1) (u4) (fun u6 => ∃ n, q_X_fill_17N n (((0) : Int32)) (((0) : Int32)) (u6) post))
set_option maxRecDepth 100000 in
theorem c_X_fill {l : Launch} {Z : ZT} {ad : Nat → Nat} {u : CT} {post : Int32 → CT → Prop} {p1 : Int64} (hl0 : l.stackTraces = false) (h : q_X_fill p1 u post) : ∀ sz, vx_Met l y_X_fill (Cond.code y_X_fill b_X_fill 6 (some .int) :: GW) rm_X_fill (pP Z [.ref (ad 0), .long (p1)] (cX Z ad u) sz) (pQi Z (cX Z ad) (cX Z ad u) sz post) (pX Z (cX Z ad) (cX Z ad u) sz (fun _ _ => False)) 0 0 rm_X_fill.cells rm_X_fill.slots (va_A (cX Z ad u) sz) := by
  refine g_ent (f := cX Z ad) (Qc := fun sz => pQi Z (cX Z ad) (cX Z ad u) sz post) (XC := fun sz => pX Z (cX Z ad) (cX Z ad u) sz (fun _ _ => False)) hl0 (by decide +kernel) (Nat.le_of_ble_eq_true rfl) ?_
  intro p e s m args below meth c ls C htab hw hl
  have hl : lv_has ls 6 [(0, .ref (ad 0)), (1, .long (p1))] := hl
  unfold q_X_fill at h
  refine lv_aload_n C.2.1 C.2.2.1 d_X_fill_0 rfl (lv_at hl 0 rfl) ?_
  refine k_X_184 C hw h ⟨Nat.le_of_ble_eq_true rfl, Nat.le_of_ble_eq_true rfl, Nat.le_of_ble_eq_true rfl, Nat.le_of_ble_eq_true rfl⟩ hl.1 (Nat.le_of_ble_eq_true rfl) d_X_fill_1 (fun u4 H locs h hw => ?_)
  refine lv_aload_n C.2.1 C.2.2.1 d_X_fill_4 rfl (lv_at hl 0 rfl) ?_
  refine r_X_50 C hw d_X_fill_5 ?_
  refine lv_lload_n C.2.1 C.2.2.1 d_X_fill_8 rfl (lv_at hl 1 rfl) ?_
  refine k_X_176 C hw h ⟨Nat.le_of_ble_eq_true rfl, Nat.le_of_ble_eq_true rfl, Nat.le_of_ble_eq_true rfl, Nat.le_of_ble_eq_true rfl⟩ hl.1 (Nat.le_of_ble_eq_true rfl) d_X_fill_9 (fun u6 H locs h hw => ?_)
  refine lv_iconst (v := (0)) C.2.1 C.2.2.1 d_X_fill_12 (by decide) ?_
  refine lv_istore_n (lv' := [(3, .int (((0) : Int32))), (0, .ref (ad 0)), (1, .long (p1))]) C.2.1 C.2.2.1 d_X_fill_13 rfl hl (by decide) rfl (fun ls hl => ?_)
  refine lv_iconst (v := (0)) C.2.1 C.2.2.1 d_X_fill_14 (by decide) ?_
  refine lv_istore (lv' := [(4, .int (((0) : Int32))), (3, .int (((0) : Int32))), (0, .ref (ad 0)), (1, .long (p1))]) C.2.1 C.2.2.1 d_X_fill_15 hl (by decide) rfl (fun ls hl => ?_)
  obtain ⟨n, h⟩ := h
  exact w_X_fill_17N C htab n (((0) : Int32)) (((0) : Int32)) _ _ _ _ hw (lv_sub hl [2, 1, 0] rfl) h
/-! CoderTables$Lines.start()V -/
abbrev rm_L_start : Room := { frames := 0, cells := 0, slots := 0, locals := 0 }
def q_L_start (u : CT) (post : CT → Prop) : Prop :=
  post (x_length_s (u) (((0) : Int32)))
set_option maxRecDepth 100000 in
theorem c_L_start {l : Launch} {Z : ZT} {ad : Nat → Nat} {u : CT} {post : CT → Prop} (hl0 : l.stackTraces = false) (h : q_L_start u post) : ∀ sz, vx_Met l y_L_start (Cond.code y_L_start b_L_start 1 none :: GW) rm_L_start (pP Z [.ref (ad 9)] (cX Z ad u) sz) (pQv Z (cX Z ad) (cX Z ad u) sz post) (pX Z (cX Z ad) (cX Z ad u) sz (fun _ _ => False)) 0 0 rm_L_start.cells rm_L_start.slots (va_A (cX Z ad u) sz) := by
  refine g_ent (f := cX Z ad) (Qc := fun sz => pQv Z (cX Z ad) (cX Z ad u) sz post) (XC := fun sz => pX Z (cX Z ad) (cX Z ad u) sz (fun _ _ => False)) hl0 (by decide +kernel) (Nat.le_of_ble_eq_true rfl) ?_
  intro p e s m args below meth c ls C htab hw hl
  have hl : lv_has ls 1 [(0, .ref (ad 9))] := hl
  unfold q_L_start at h
  refine lv_aload_n C.2.1 C.2.2.1 d_L_start_0 rfl (lv_at hl 0 rfl) ?_
  refine lv_iconst (v := (0)) C.2.1 C.2.2.1 d_L_start_1 (by decide) ?_
  refine s_L_15 C hw d_L_start_2 (fun H locs hw => ?_)
  exact g_vret C hw h d_L_start_5
section KR
variable {own host : String} {cc bytes : ByteArray} {nL maxL index n : Nat} {rt0 rt : Option FieldType} {Z : ZT} {ad : Nat → Nat} {A : Nat → Prop}
variable {p : Program} {l : Launch} {e : Env} {R : Room} {s : State} {m : MethodId} {args : Array Value} {below : List Frame} {meth : Method} {c : Code} {H : Heap} {locs : List Loc} {cells slots : Nat} {Q : State → Prop} {rest : List Value} {pc : Nat} {ls : Array Slot}
theorem k_X_190 {u : CT} {post : CT → Prop} (C : CX "CoderTables" cc nL rt0 Z A p l s m args meth c) (hw : WD Z A s (cX Z ad u) H locs) (h : q_L_start u post) (hR : rmOk rm_L_start 1 R cells slots) (hl : ls.size = nL) (hW : (rest.map fun v => v.category).sum ≤ 8) (hdg : decode cc pc = .ok (.invokevirtual 190, 3)) (kk : ∀ (u' : CT) (H1 : Heap) (locs1 : List Loc), post u' → WD Z A s (cX Z ad u') H1 locs1 → W p l e R s m args below meth c H1 locs1 cells slots Q (F0 m (pc + 3) ls (rest))) : W p l e R s m args below meth c H locs cells slots Q (F0 m pc ls (.ref (ad 9) :: rest)) :=
  g_N0_v (host := "CoderTables") (n := 0) (f := cX Z ad) (As := []) C hw (fun sz => vx_toMet (c_L_start C.1 h sz) (fun _ _ _ hx => by obtain ⟨_, h1, _⟩ := hx; exact h1)) rfl rfl ⟨(by decide +kernel), w184, w6, w55, w185, (by decide +kernel), (by decide +kernel), (by decide +kernel)⟩ hR 9 rfl rfl rfl hl rfl hW hdg kk
end KR
