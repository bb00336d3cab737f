/-! CoderTablesModel.thrown()I -/
abbrev rm_M_thrown : Room := { frames := 0, cells := 0, slots := 0, locals := 0 }
def q_M_thrown (u : MT) (post : Int32 → MT → Prop) : Prop :=
  post (m_code (u)) (u)
set_option maxRecDepth 100000 in
theorem c_M_thrown {l : Launch} {Z : ZT} {ad : Nat → Nat} {u : MT} {post : Int32 → MT → Prop} (hl0 : l.stackTraces = false) (h : q_M_thrown u post) : ∀ sz, vx_Met l y_M_thrown (Cond.code y_M_thrown b_M_thrown 1 (some .int) :: GW) rm_M_thrown (pP Z [.ref (ad 0)] (cM Z ad u) sz) (pQi Z (cM Z ad) (cM Z ad u) sz post) (pX Z (cM Z ad) (cM Z ad u) sz (fun _ _ => False)) 0 0 rm_M_thrown.cells rm_M_thrown.slots (va_A (cM Z ad u) sz) := by
  refine g_ent (f := cM Z ad) (Qc := fun sz => pQi Z (cM Z ad) (cM Z ad u) sz post) (XC := fun sz => pX Z (cM Z ad) (cM Z ad u) sz (fun _ _ => False)) hl0 (by decide +kernel) (Nat.le_of_ble_eq_true rfl) ?_
  intro p e s m args below meth c ls C htab hw hl
  have hl : lv_has ls 1 [(0, .ref (ad 0))] := hl
  unfold q_M_thrown at h
  refine lv_aload_n C.2.1 C.2.2.1 d_M_thrown_0 rfl (lv_at hl 0 rfl) ?_
  refine r_M_36 C hw d_M_thrown_1 ?_
  exact g_iret C hw rfl h d_M_thrown_4
/-! CoderTablesModel.refuses(I)Z -/
abbrev rm_M_refuses : Room := { frames := 0, cells := 0, slots := 0, locals := 0 }
def q_M_refuses (p1 : Int32) (u : MT) (post : Int32 → MT → Prop) : Prop :=
  (((p1) ≤ 0 → (narrow .boolean (.int (((0) : Int32))) = .int (((0) : Int32)) ∧ post (((0) : Int32)) (m_code_s (u) (p1)))) ∧ (¬ (p1) ≤ 0 → (narrow .boolean (.int (((1) : Int32))) = .int (((1) : Int32)) ∧ post (((1) : Int32)) (m_code_s (u) (p1)))))
set_option maxRecDepth 100000 in
theorem c_M_refuses {l : Launch} {Z : ZT} {ad : Nat → Nat} {u : MT} {post : Int32 → MT → Prop} {p1 : Int32} (hl0 : l.stackTraces = false) (h : q_M_refuses p1 u post) : ∀ sz, vx_Met l y_M_refuses (Cond.code y_M_refuses b_M_refuses 2 (some .boolean) :: GW) rm_M_refuses (pP Z [.ref (ad 0), .int (p1)] (cM Z ad u) sz) (pQi Z (cM Z ad) (cM Z ad u) sz post) (pX Z (cM Z ad) (cM Z ad u) sz (fun _ _ => False)) 0 0 rm_M_refuses.cells rm_M_refuses.slots (va_A (cM Z ad u) sz) := by
  refine g_ent (f := cM Z ad) (Qc := fun sz => pQi Z (cM Z ad) (cM Z ad u) sz post) (XC := fun sz => pX Z (cM Z ad) (cM Z ad u) sz (fun _ _ => False)) hl0 (by decide +kernel) (Nat.le_of_ble_eq_true rfl) ?_
  intro p e s m args below meth c ls C htab hw hl
  have hl : lv_has ls 2 [(0, .ref (ad 0)), (1, .int (p1))] := hl
  unfold q_M_refuses at h
  refine lv_aload_n C.2.1 C.2.2.1 d_M_refuses_0 rfl (lv_at hl 0 rfl) ?_
  refine lv_iload_n C.2.1 C.2.2.1 d_M_refuses_1 rfl (lv_at hl 1 rfl) ?_
  refine s_M_36 C hw d_M_refuses_2 (fun H locs hw => ?_)
  refine lv_iload_n C.2.1 C.2.2.1 d_M_refuses_5 rfl (lv_at hl 1 rfl) ?_
  refine lv_if_le (tgt := 13) C.2.1 C.2.2.1 d_M_refuses_6 (by decide) (fun c => ?_) (fun c => ?_)
  · have h := h.1 c
    refine lv_iconst (v := (0)) C.2.1 C.2.2.1 d_M_refuses_13 (by decide) ?_
    exact g_iret C hw h.1 h.2 d_M_refuses_14
  · have h := h.2 c
    refine lv_iconst (v := (1)) C.2.1 C.2.2.1 d_M_refuses_9 (by decide) ?_
    refine lv_goto (tgt := 14) C.2.1 C.2.2.1 d_M_refuses_10 (by decide) ?_
    exact g_iret C hw h.1 h.2 d_M_refuses_14
section KR
variable {own host : String} {cc bytes : ByteArray} {nL maxL index n : Nat} {rt0 rt : Option FieldType} {Z : ZT} {ad : Nat → Nat} {A : Nat → Prop}
variable {p : Program} {l : Launch} {e : Env} {R : Room} {s : State} {m : MethodId} {args : Array Value} {below : List Frame} {meth : Method} {c : Code} {H : Heap} {locs : List Loc} {cells slots : Nat} {Q : State → Prop} {rest : List Value} {pc : Nat} {ls : Array Slot}
theorem k_M_50 {u : MT} {p1 : Int32} {post : Int32 → MT → Prop} (C : CX "CoderTablesModel" cc nL rt0 Z A p l s m args meth c) (hw : WD Z A s (cM Z ad u) H locs) (h : q_M_refuses p1 u post) (hR : rmOk rm_M_refuses 2 R cells slots) (hl : ls.size = nL) (hW : (rest.map fun v => v.category).sum ≤ 8) (hdg : decode cc pc = .ok (.invokevirtual 50, 3)) (kk : ∀ (r : Int32) (u' : MT) (H1 : Heap) (locs1 : List Loc), post r u' → WD Z A s (cM Z ad u') H1 locs1 → W p l e R s m args below meth c H1 locs1 cells slots Q (F0 m (pc + 3) ls (.int r :: rest))) : W p l e R s m args below meth c H locs cells slots Q (F0 m pc ls (.int (p1) :: .ref (ad 0) :: rest)) :=
  g_V0_i (n := 1) (f := cM Z ad) (As := [.int (p1)]) C hw (c_M_refuses C.1 h) ⟨w611, w613, w31, w56, w614, (by decide +kernel), (by decide +kernel), (by decide +kernel)⟩ hR 0 rfl rfl rfl hl rfl hW hdg (fun _ _ _ _ _ _ h => h.elim) kk
end KR
/-! CoderTablesModel.isIn(JJJ)Z -/
abbrev rm_M_isIn : Room := { frames := 0, cells := 0, slots := 0, locals := 0 }
def q_M_isIn (p0 : Int64) (p2 : Int64) (p4 : Int64) (u : MT) (post : Int32 → MT → Prop) : Prop :=
  (((lg_cmp (p0) (p2)) < 0 → (narrow .boolean (.int (((0) : Int32))) = .int (((0) : Int32)) ∧ post (((0) : Int32)) (u))) ∧ (¬ (lg_cmp (p0) (p2)) < 0 → ((0 < (lg_cmp (p0) (p4)) → (narrow .boolean (.int (((0) : Int32))) = .int (((0) : Int32)) ∧ post (((0) : Int32)) (u))) ∧ (¬ 0 < (lg_cmp (p0) (p4)) → (narrow .boolean (.int (((1) : Int32))) = .int (((1) : Int32)) ∧ post (((1) : Int32)) (u))))))
set_option maxRecDepth 100000 in
theorem c_M_isIn {l : Launch} {Z : ZT} {ad : Nat → Nat} {u : MT} {post : Int32 → MT → Prop} {p0 : Int64} {p2 : Int64} {p4 : Int64} (hl0 : l.stackTraces = false) (h : q_M_isIn p0 p2 p4 u post) : ∀ sz, vx_Met l y_M_isIn (Cond.code y_M_isIn b_M_isIn 6 (some .boolean) :: GW) rm_M_isIn (pP Z [.long (p0), .long (p2), .long (p4)] (cM Z ad u) sz) (pQi Z (cM Z ad) (cM Z ad u) sz post) (pX Z (cM Z ad) (cM Z ad u) sz (fun _ _ => False)) 0 0 rm_M_isIn.cells rm_M_isIn.slots (va_A (cM Z ad u) sz) := by
  refine g_ent (f := cM Z ad) (Qc := fun sz => pQi Z (cM Z ad) (cM Z ad u) sz post) (XC := fun sz => pX Z (cM Z ad) (cM Z ad u) sz (fun _ _ => False)) hl0 (by decide +kernel) (Nat.le_of_ble_eq_true rfl) ?_
  intro p e s m args below meth c ls C htab hw hl
  have hl : lv_has ls 6 [(0, .long (p0)), (2, .long (p2)), (4, .long (p4))] := hl
  unfold q_M_isIn at h
  refine lv_lload_n C.2.1 C.2.2.1 d_M_isIn_0 rfl (lv_at hl 0 rfl) ?_
  refine lv_lload_n C.2.1 C.2.2.1 d_M_isIn_1 rfl (lv_at hl 1 rfl) ?_
  refine W.lcmp C.2.1 C.2.2.1 d_M_isIn_2 ?_
  refine lv_if_lt (tgt := 17) C.2.1 C.2.2.1 d_M_isIn_3 (by decide) (fun c => ?_) (fun c => ?_)
  · have h := h.1 c
    refine lv_iconst (v := (0)) C.2.1 C.2.2.1 d_M_isIn_17 (by decide) ?_
    exact g_iret C hw h.1 h.2 d_M_isIn_18
  · have h := h.2 c
    refine lv_lload_n C.2.1 C.2.2.1 d_M_isIn_6 rfl (lv_at hl 0 rfl) ?_
    refine lv_lload C.2.1 C.2.2.1 d_M_isIn_7 (lv_at hl 2 rfl) ?_
    refine W.lcmp C.2.1 C.2.2.1 d_M_isIn_9 ?_
    refine lv_if_gt (tgt := 17) C.2.1 C.2.2.1 d_M_isIn_10 (by decide) (fun c => ?_) (fun c => ?_)
    · have h := h.1 c
      refine lv_iconst (v := (0)) C.2.1 C.2.2.1 d_M_isIn_17 (by decide) ?_
      exact g_iret C hw h.1 h.2 d_M_isIn_18
    · have h := h.2 c
      refine lv_iconst (v := (1)) C.2.1 C.2.2.1 d_M_isIn_13 (by decide) ?_
      refine lv_goto (tgt := 18) C.2.1 C.2.2.1 d_M_isIn_14 (by decide) ?_
      exact g_iret C hw h.1 h.2 d_M_isIn_18
section KR
variable {own host : String} {cc bytes : ByteArray} {nL maxL index n : Nat} {rt0 rt : Option FieldType} {Z : ZT} {ad : Nat → Nat} {A : Nat → Prop}
variable {p : Program} {l : Launch} {e : Env} {R : Room} {s : State} {m : MethodId} {args : Array Value} {below : List Frame} {meth : Method} {c : Code} {H : Heap} {locs : List Loc} {cells slots : Nat} {Q : State → Prop} {rest : List Value} {pc : Nat} {ls : Array Slot}
theorem k_M_59 {u : MT} {p0 : Int64} {p2 : Int64} {p4 : Int64} {post : Int32 → MT → Prop} (C : CX "CoderTablesModel" cc nL rt0 Z A p l s m args meth c) (hw : WD Z A s (cM Z ad u) H locs) (h : q_M_isIn p0 p2 p4 u post) (hR : rmOk rm_M_isIn 6 R cells slots) (hl : ls.size = nL) (hW : (rest.map fun v => v.category).sum ≤ 8) (hdg : decode cc pc = .ok (.invokestatic 59, 3)) (kk : ∀ (r : Int32) (u' : MT) (H1 : Heap) (locs1 : List Loc), post r u' → WD Z A s (cM Z ad u') H1 locs1 → W p l e R s m args below meth c H1 locs1 cells slots Q (F0 m (pc + 3) ls (.int r :: rest))) : W p l e R s m args below meth c H locs cells slots Q (F0 m pc ls (.long (p4) :: .long (p2) :: .long (p0) :: rest)) :=
  g_S0_i (n := 3) (f := cM Z ad) (As := [.long (p0), .long (p2), .long (p4)]) C hw (c_M_isIn C.1 h) ⟨w632, w633, w56, w634, (by decide +kernel), (by decide +kernel), (by decide +kernel)⟩ hR rfl hl rfl hW hdg (fun _ _ _ _ _ _ h => h.elim) kk
end KR
/-! CoderTablesModel.noCoder(I)Z -/
abbrev rm_M_noCoder : Room := { frames := 0, cells := 0, slots := 0, locals := 0 }
def q_M_noCoder (p1 : Int32) (u : MT) (post : Int32 → MT → Prop) : Prop :=
  (((p1) < 0 → (narrow .boolean (.int (((1) : Int32))) = .int (((1) : Int32)) ∧ post (((1) : Int32)) (u))) ∧ (¬ (p1) < 0 → (((p1) < (m_coders (u)) → (narrow .boolean (.int (((0) : Int32))) = .int (((0) : Int32)) ∧ post (((0) : Int32)) (u))) ∧ (¬ (p1) < (m_coders (u)) → (narrow .boolean (.int (((1) : Int32))) = .int (((1) : Int32)) ∧ post (((1) : Int32)) (u))))))
set_option maxRecDepth 100000 in
theorem c_M_noCoder {l : Launch} {Z : ZT} {ad : Nat → Nat} {u : MT} {post : Int32 → MT → Prop} {p1 : Int32} (hl0 : l.stackTraces = false) (h : q_M_noCoder p1 u post) : ∀ sz, vx_Met l y_M_noCoder (Cond.code y_M_noCoder b_M_noCoder 2 (some .boolean) :: GW) rm_M_noCoder (pP Z [.ref (ad 0), .int (p1)] (cM Z ad u) sz) (pQi Z (cM Z ad) (cM Z ad u) sz post) (pX Z (cM Z ad) (cM Z ad u) sz (fun _ _ => False)) 0 0 rm_M_noCoder.cells rm_M_noCoder.slots (va_A (cM Z ad u) sz) := by
  refine g_ent (f := cM Z ad) (Qc := fun sz => pQi Z (cM Z ad) (cM Z ad u) sz post) (XC := fun sz => pX Z (cM Z ad) (cM Z ad u) sz (fun _ _ => False)) hl0 (by decide +kernel) (Nat.le_of_ble_eq_true rfl) ?_
  intro p e s m args below meth c ls C htab hw hl
  have hl : lv_has ls 2 [(0, .ref (ad 0)), (1, .int (p1))] := hl
  unfold q_M_noCoder at h
  refine lv_iload_n C.2.1 C.2.2.1 d_M_noCoder_0 rfl (lv_at hl 1 rfl) ?_
  refine lv_if_lt (tgt := 12) C.2.1 C.2.2.1 d_M_noCoder_1 (by decide) (fun c => ?_) (fun c => ?_)
  · have h := h.1 c
    refine lv_iconst (v := (1)) C.2.1 C.2.2.1 d_M_noCoder_12 (by decide) ?_
    refine lv_goto (tgt := 17) C.2.1 C.2.2.1 d_M_noCoder_13 (by decide) ?_
    exact g_iret C hw h.1 h.2 d_M_noCoder_17
  · have h := h.2 c
    refine lv_iload_n C.2.1 C.2.2.1 d_M_noCoder_4 rfl (lv_at hl 1 rfl) ?_
    refine lv_aload_n C.2.1 C.2.2.1 d_M_noCoder_5 rfl (lv_at hl 0 rfl) ?_
    refine r_M_40 C hw d_M_noCoder_6 ?_
    refine lv_icmp_lt (tgt := 16) C.2.1 C.2.2.1 d_M_noCoder_9 (by decide) (fun c => ?_) (fun c => ?_)
    · have h := h.1 c
      refine lv_iconst (v := (0)) C.2.1 C.2.2.1 d_M_noCoder_16 (by decide) ?_
      exact g_iret C hw h.1 h.2 d_M_noCoder_17
    · have h := h.2 c
      refine lv_iconst (v := (1)) C.2.1 C.2.2.1 d_M_noCoder_12 (by decide) ?_
      refine lv_goto (tgt := 17) C.2.1 C.2.2.1 d_M_noCoder_13 (by decide) ?_
      exact g_iret C hw h.1 h.2 d_M_noCoder_17
section KR
variable {own host : String} {cc bytes : ByteArray} {nL maxL index n : Nat} {rt0 rt : Option FieldType} {Z : ZT} {ad : Nat → Nat} {A : Nat → Prop}
variable {p : Program} {l : Launch} {e : Env} {R : Room} {s : State} {m : MethodId} {args : Array Value} {below : List Frame} {meth : Method} {c : Code} {H : Heap} {locs : List Loc} {cells slots : Nat} {Q : State → Prop} {rest : List Value} {pc : Nat} {ls : Array Slot}
theorem k_M_43 {u : MT} {p1 : Int32} {post : Int32 → MT → Prop} (C : CX "CoderTablesModel" cc nL rt0 Z A p l s m args meth c) (hw : WD Z A s (cM Z ad u) H locs) (h : q_M_noCoder p1 u post) (hR : rmOk rm_M_noCoder 2 R cells slots) (hl : ls.size = nL) (hW : (rest.map fun v => v.category).sum ≤ 8) (hdg : decode cc pc = .ok (.invokevirtual 43, 3)) (kk : ∀ (r : Int32) (u' : MT) (H1 : Heap) (locs1 : List Loc), post r u' → WD Z A s (cM Z ad u') H1 locs1 → W p l e R s m args below meth c H1 locs1 cells slots Q (F0 m (pc + 3) ls (.int r :: rest))) : W p l e R s m args below meth c H locs cells slots Q (F0 m pc ls (.int (p1) :: .ref (ad 0) :: rest)) :=
  g_V0_i (n := 1) (f := cM Z ad) (As := [.int (p1)]) C hw (c_M_noCoder C.1 h) ⟨w627, w629, w33, w56, w630, (by decide +kernel), (by decide +kernel), (by decide +kernel)⟩ hR 0 rfl rfl rfl hl rfl hW hdg (fun _ _ _ _ _ _ h => h.elim) kk
end KR
/-! CoderTablesModel.noPair(II)Z -/
abbrev rm_M_noPair : Room := { frames := 1, cells := 0, slots := 0, locals := 21 }
def q_M_noPair (p1 : Int32) (p2 : Int32) (u : MT) (post : Int32 → MT → Prop) : Prop :=
  q_M_noCoder (p1) (u) (fun r1 u2 => ((¬ (r1) = 0 → (narrow .boolean (.int (((1) : Int32))) = .int (((1) : Int32)) ∧ post (((1) : Int32)) (u2))) ∧ ((r1) = 0 → (((p2) < 0 → (narrow .boolean (.int (((1) : Int32))) = .int (((1) : Int32)) ∧ post (((1) : Int32)) (u2))) ∧ (¬ (p2) < 0 → (((p2) < (m_pictures (u2)) → (narrow .boolean (.int (((0) : Int32))) = .int (((0) : Int32)) ∧ post (((0) : Int32)) (u2))) ∧ (¬ (p2) < (m_pictures (u2)) → (narrow .boolean (.int (((1) : Int32))) = .int (((1) : Int32)) ∧ post (((1) : Int32)) (u2)))))))))
set_option maxRecDepth 100000 in
theorem c_M_noPair {l : Launch} {Z : ZT} {ad : Nat → Nat} {u : MT} {post : Int32 → MT → Prop} {p1 : Int32} {p2 : Int32} (hl0 : l.stackTraces = false) (h : q_M_noPair p1 p2 u post) : ∀ sz, vx_Met l y_M_noPair (Cond.code y_M_noPair b_M_noPair 3 (some .boolean) :: GW) rm_M_noPair (pP Z [.ref (ad 0), .int (p1), .int (p2)] (cM Z ad u) sz) (pQi Z (cM Z ad) (cM Z ad u) sz post) (pX Z (cM Z ad) (cM Z ad u) sz (fun _ _ => False)) 0 0 rm_M_noPair.cells rm_M_noPair.slots (va_A (cM Z ad u) sz) := by
  refine g_ent (f := cM Z ad) (Qc := fun sz => pQi Z (cM Z ad) (cM Z ad u) sz post) (XC := fun sz => pX Z (cM Z ad) (cM Z ad u) sz (fun _ _ => False)) hl0 (by decide +kernel) (Nat.le_of_ble_eq_true rfl) ?_
  intro p e s m args below meth c ls C htab hw hl
  have hl : lv_has ls 3 [(0, .ref (ad 0)), (1, .int (p1)), (2, .int (p2))] := hl
  unfold q_M_noPair at h
  refine lv_aload_n C.2.1 C.2.2.1 d_M_noPair_0 rfl (lv_at hl 0 rfl) ?_
  refine lv_iload_n C.2.1 C.2.2.1 d_M_noPair_1 rfl (lv_at hl 1 rfl) ?_
  refine k_M_43 C hw h ⟨Nat.le_of_ble_eq_true rfl, Nat.le_of_ble_eq_true rfl, Nat.le_of_ble_eq_true rfl, Nat.le_of_ble_eq_true rfl⟩ hl.1 (Nat.le_of_ble_eq_true rfl) d_M_noPair_2 (fun r1 u2 H locs h hw => ?_)
  refine lv_if_ne (tgt := 20) C.2.1 C.2.2.1 d_M_noPair_5 (by decide) (fun c => ?_) (fun c => ?_)
  · have h := h.1 c
    refine lv_iconst (v := (1)) C.2.1 C.2.2.1 d_M_noPair_20 (by decide) ?_
    refine lv_goto (tgt := 25) C.2.1 C.2.2.1 d_M_noPair_21 (by decide) ?_
    exact g_iret C hw h.1 h.2 d_M_noPair_25
  · have h := h.2 c
    refine lv_iload_n C.2.1 C.2.2.1 d_M_noPair_8 rfl (lv_at hl 2 rfl) ?_
    refine lv_if_lt (tgt := 20) C.2.1 C.2.2.1 d_M_noPair_9 (by decide) (fun c => ?_) (fun c => ?_)
    · have h := h.1 c
      refine lv_iconst (v := (1)) C.2.1 C.2.2.1 d_M_noPair_20 (by decide) ?_
      refine lv_goto (tgt := 25) C.2.1 C.2.2.1 d_M_noPair_21 (by decide) ?_
      exact g_iret C hw h.1 h.2 d_M_noPair_25
    · have h := h.2 c
      refine lv_iload_n C.2.1 C.2.2.1 d_M_noPair_12 rfl (lv_at hl 2 rfl) ?_
      refine lv_aload_n C.2.1 C.2.2.1 d_M_noPair_13 rfl (lv_at hl 0 rfl) ?_
      refine r_M_47 C hw d_M_noPair_14 ?_
      refine lv_icmp_lt (tgt := 24) C.2.1 C.2.2.1 d_M_noPair_17 (by decide) (fun c => ?_) (fun c => ?_)
      · have h := h.1 c
        refine lv_iconst (v := (0)) C.2.1 C.2.2.1 d_M_noPair_24 (by decide) ?_
        exact g_iret C hw h.1 h.2 d_M_noPair_25
      · have h := h.2 c
        refine lv_iconst (v := (1)) C.2.1 C.2.2.1 d_M_noPair_20 (by decide) ?_
        refine lv_goto (tgt := 25) C.2.1 C.2.2.1 d_M_noPair_21 (by decide) ?_
        exact g_iret C hw h.1 h.2 d_M_noPair_25
section KR
variable {own host : String} {cc bytes : ByteArray} {nL maxL index n : Nat} {rt0 rt : Option FieldType} {Z : ZT} {ad : Nat → Nat} {A : Nat → Prop}
variable {p : Program} {l : Launch} {e : Env} {R : Room} {s : State} {m : MethodId} {args : Array Value} {below : List Frame} {meth : Method} {c : Code} {H : Heap} {locs : List Loc} {cells slots : Nat} {Q : State → Prop} {rest : List Value} {pc : Nat} {ls : Array Slot}
theorem k_M_53 {u : MT} {p1 : Int32} {p2 : Int32} {post : Int32 → MT → Prop} (C : CX "CoderTablesModel" cc nL rt0 Z A p l s m args meth c) (hw : WD Z A s (cM Z ad u) H locs) (h : q_M_noPair p1 p2 u post) (hR : rmOk rm_M_noPair 3 R cells slots) (hl : ls.size = nL) (hW : (rest.map fun v => v.category).sum ≤ 8) (hdg : decode cc pc = .ok (.invokevirtual 53, 3)) (kk : ∀ (r : Int32) (u' : MT) (H1 : Heap) (locs1 : List Loc), post r u' → WD Z A s (cM Z ad u') H1 locs1 → W p l e R s m args below meth c H1 locs1 cells slots Q (F0 m (pc + 3) ls (.int r :: rest))) : W p l e R s m args below meth c H locs cells slots Q (F0 m pc ls (.int (p2) :: .int (p1) :: .ref (ad 0) :: rest)) :=
  g_V0_i (n := 2) (f := cM Z ad) (As := [.int (p1), .int (p2)]) C hw (c_M_noPair C.1 h) ⟨w623, w625, w32, w56, w626, (by decide +kernel), (by decide +kernel), (by decide +kernel)⟩ hR 0 rfl rfl rfl hl rfl hW hdg (fun _ _ _ _ _ _ h => h.elim) kk
end KR
/-! CoderTablesModel.coder()I -/
abbrev rm_M_coder : Room := { frames := 1, cells := 0, slots := 0, locals := 21 }
def q_M_coder_15 (z0 : Int32) (u : MT) (post : Int32 → MT → Prop) : Prop :=
  q_M_refuses (z0) (u) (fun r1 u2 => (((r1) = 0 → post ((m_coders (m_coders_s (u2) ((m_coders (u2)) + (((1) : Int32))))) - (((1) : Int32))) (m_coders_s (u2) ((m_coders (u2)) + (((1) : Int32))))) ∧ (¬ (r1) = 0 → post (((0) : Int32)) (u2))))
set_option maxRecDepth 100000 in
theorem w_M_coder_15 {p : Program} {l : Launch} {e : Env} {s : State} {m : MethodId} {args : Array Value} {below : List Frame} {meth : Method} {c : Code} {Z : ZT} {ad : Nat → Nat} {u0 : MT} {post : Int32 → MT → Prop} (C : CX "CoderTablesModel" b_M_coder 1 (some .int) Z (va_A (cM Z ad u0) s.heap.size) p l s m args meth c) (htab : ∀ x ∈ c.exceptionTable.toList, False) (z0 : Int32) (u : MT) (H : Heap) (locs : List Loc) (ls : Array Slot) (hw : WD Z (va_A (cM Z ad u0) s.heap.size) s (cM Z ad u) H locs) (hl : lv_has ls 1 [(0, .ref (ad 0))]) (h : q_M_coder_15 z0 u post) : W p l e rm_M_coder s m args below meth c H locs 0 0 (vx_MQ below (pQi Z (cM Z ad) (cM Z ad u0) s.heap.size post) (pX Z (cM Z ad) (cM Z ad u0) s.heap.size (fun _ _ => False)) args s 0 0 rm_M_coder.cells rm_M_coder.slots (va_A (cM Z ad u0) s.heap.size)) (F0 m 15 ls [.int (z0), .ref (ad 0)]) := by
  unfold q_M_coder_15 at h
  refine k_M_50 C hw h ⟨Nat.le_of_ble_eq_true rfl, Nat.le_of_ble_eq_true rfl, Nat.le_of_ble_eq_true rfl, Nat.le_of_ble_eq_true rfl⟩ hl.1 (Nat.le_of_ble_eq_true rfl) d_M_coder_15 (fun r1 u2 H locs h hw => ?_)
  refine lv_if_eq (tgt := 23) C.2.1 C.2.2.1 d_M_coder_18 (by decide) (fun c => ?_) (fun c => ?_)
  · have h := h.1 c
    refine lv_aload_n C.2.1 C.2.2.1 d_M_coder_23 rfl (lv_at hl 0 rfl) ?_
    refine lv_dup C.2.1 C.2.2.1 d_M_coder_24 rfl ?_
    refine r_M_40 C hw d_M_coder_25 ?_
    refine lv_iconst (v := (1)) C.2.1 C.2.2.1 d_M_coder_28 (by decide) ?_
    refine lv_iadd C.2.1 C.2.2.1 d_M_coder_29 ?_
    refine s_M_40 C hw d_M_coder_30 (fun H locs hw => ?_)
    refine lv_aload_n C.2.1 C.2.2.1 d_M_coder_33 rfl (lv_at hl 0 rfl) ?_
    refine r_M_40 C hw d_M_coder_34 ?_
    refine lv_iconst (v := (1)) C.2.1 C.2.2.1 d_M_coder_37 (by decide) ?_
    refine lv_isub C.2.1 C.2.2.1 d_M_coder_38 ?_
    exact g_iret C hw rfl h d_M_coder_39
  · have h := h.2 c
    refine lv_iconst (v := (0)) C.2.1 C.2.2.1 d_M_coder_21 (by decide) ?_
    exact g_iret C hw rfl h d_M_coder_22
def q_M_coder (u : MT) (post : Int32 → MT → Prop) : Prop :=
  ((¬ (m_coders (u)) = (((8) : Int32)) → q_M_coder_15 (((0) : Int32)) (u) post) ∧ ((m_coders (u)) = (((8) : Int32)) → q_M_coder_15 (((1) : Int32)) (u) post))
set_option maxRecDepth 100000 in
theorem c_M_coder {l : Launch} {Z : ZT} {ad : Nat → Nat} {u : MT} {post : Int32 → MT → Prop} (hl0 : l.stackTraces = false) (h : q_M_coder u post) : ∀ sz, vx_Met l y_M_coder (Cond.code y_M_coder b_M_coder 1 (some .int) :: GW) rm_M_coder (pP Z [.ref (ad 0)] (cM Z ad u) sz) (pQi Z (cM Z ad) (cM Z ad u) sz post) (pX Z (cM Z ad) (cM Z ad u) sz (fun _ _ => False)) 0 0 rm_M_coder.cells rm_M_coder.slots (va_A (cM Z ad u) sz) := by
  refine g_ent (f := cM Z ad) (Qc := fun sz => pQi Z (cM Z ad) (cM Z ad u) sz post) (XC := fun sz => pX Z (cM Z ad) (cM Z ad u) sz (fun _ _ => False)) hl0 (by decide +kernel) (Nat.le_of_ble_eq_true rfl) ?_
  intro p e s m args below meth c ls C htab hw hl
  have hl : lv_has ls 1 [(0, .ref (ad 0))] := hl
  unfold q_M_coder at h
  refine lv_aload_n C.2.1 C.2.2.1 d_M_coder_0 rfl (lv_at hl 0 rfl) ?_
  refine lv_aload_n C.2.1 C.2.2.1 d_M_coder_1 rfl (lv_at hl 0 rfl) ?_
  refine r_M_40 C hw d_M_coder_2 ?_
  refine lv_bipush (v := (8)) C.2.1 C.2.2.1 d_M_coder_5 (by decide) ?_
  refine lv_icmp_ne (tgt := 14) C.2.1 C.2.2.1 d_M_coder_7 (by decide) (fun c => ?_) (fun c => ?_)
  · have h := h.1 c
    refine lv_iconst (v := (0)) C.2.1 C.2.2.1 d_M_coder_14 (by decide) ?_
    exact w_M_coder_15 C htab (((0) : Int32)) _ _ _ _ hw (lv_sub hl [0] rfl) h
  · have h := h.2 c
    refine lv_iconst (v := (1)) C.2.1 C.2.2.1 d_M_coder_10 (by decide) ?_
    refine lv_goto (tgt := 15) C.2.1 C.2.2.1 d_M_coder_11 (by decide) ?_
    exact w_M_coder_15 C htab (((1) : Int32)) _ _ _ _ hw (lv_sub hl [0] rfl) h
/-! CoderTablesModel.picture()I -/
abbrev rm_M_picture : Room := { frames := 1, cells := 0, slots := 0, locals := 21 }
def q_M_picture_15 (z0 : Int32) (u : MT) (post : Int32 → MT → Prop) : Prop :=
  q_M_refuses (z0) (u) (fun r1 u2 => (((r1) = 0 → post ((m_pictures (m_pictures_s (u2) ((m_pictures (u2)) + (((1) : Int32))))) - (((1) : Int32))) (m_pictures_s (u2) ((m_pictures (u2)) + (((1) : Int32))))) ∧ (¬ (r1) = 0 → post (((0) : Int32)) (u2))))
set_option maxRecDepth 100000 in
theorem w_M_picture_15 {p : Program} {l : Launch} {e : Env} {s : State} {m : MethodId} {args : Array Value} {below : List Frame} {meth : Method} {c : Code} {Z : ZT} {ad : Nat → Nat} {u0 : MT} {post : Int32 → MT → Prop} (C : CX "CoderTablesModel" b_M_picture 1 (some .int) Z (va_A (cM Z ad u0) s.heap.size) p l s m args meth c) (htab : ∀ x ∈ c.exceptionTable.toList, False) (z0 : Int32) (u : MT) (H : Heap) (locs : List Loc) (ls : Array Slot) (hw : WD Z (va_A (cM Z ad u0) s.heap.size) s (cM Z ad u) H locs) (hl : lv_has ls 1 [(0, .ref (ad 0))]) (h : q_M_picture_15 z0 u post) : W p l e rm_M_picture s m args below meth c H locs 0 0 (vx_MQ below (pQi Z (cM Z ad) (cM Z ad u0) s.heap.size post) (pX Z (cM Z ad) (cM Z ad u0) s.heap.size (fun _ _ => False)) args s 0 0 rm_M_picture.cells rm_M_picture.slots (va_A (cM Z ad u0) s.heap.size)) (F0 m 15 ls [.int (z0), .ref (ad 0)]) := by
  unfold q_M_picture_15 at h
  refine k_M_50 C hw h ⟨Nat.le_of_ble_eq_true rfl, Nat.le_of_ble_eq_true rfl, Nat.le_of_ble_eq_true rfl, Nat.le_of_ble_eq_true rfl⟩ hl.1 (Nat.le_of_ble_eq_true rfl) d_M_picture_15 (fun r1 u2 H locs h hw => ?_)
  refine lv_if_eq (tgt := 23) C.2.1 C.2.2.1 d_M_picture_18 (by decide) (fun c => ?_) (fun c => ?_)
  · have h := h.1 c
    refine lv_aload_n C.2.1 C.2.2.1 d_M_picture_23 rfl (lv_at hl 0 rfl) ?_
    refine lv_dup C.2.1 C.2.2.1 d_M_picture_24 rfl ?_
    refine r_M_47 C hw d_M_picture_25 ?_
    refine lv_iconst (v := (1)) C.2.1 C.2.2.1 d_M_picture_28 (by decide) ?_
    refine lv_iadd C.2.1 C.2.2.1 d_M_picture_29 ?_
    refine s_M_47 C hw d_M_picture_30 (fun H locs hw => ?_)
    refine lv_aload_n C.2.1 C.2.2.1 d_M_picture_33 rfl (lv_at hl 0 rfl) ?_
    refine r_M_47 C hw d_M_picture_34 ?_
    refine lv_iconst (v := (1)) C.2.1 C.2.2.1 d_M_picture_37 (by decide) ?_
    refine lv_isub C.2.1 C.2.2.1 d_M_picture_38 ?_
    exact g_iret C hw rfl h d_M_picture_39
  · have h := h.2 c
    refine lv_iconst (v := (0)) C.2.1 C.2.2.1 d_M_picture_21 (by decide) ?_
    exact g_iret C hw rfl h d_M_picture_22
def q_M_picture (u : MT) (post : Int32 → MT → Prop) : Prop :=
  ((¬ (m_pictures (u)) = (((24) : Int32)) → q_M_picture_15 (((0) : Int32)) (u) post) ∧ ((m_pictures (u)) = (((24) : Int32)) → q_M_picture_15 (((1) : Int32)) (u) post))
set_option maxRecDepth 100000 in
theorem c_M_picture {l : Launch} {Z : ZT} {ad : Nat → Nat} {u : MT} {post : Int32 → MT → Prop} (hl0 : l.stackTraces = false) (h : q_M_picture u post) : ∀ sz, vx_Met l y_M_picture (Cond.code y_M_picture b_M_picture 1 (some .int) :: GW) rm_M_picture (pP Z [.ref (ad 0)] (cM Z ad u) sz) (pQi Z (cM Z ad) (cM Z ad u) sz post) (pX Z (cM Z ad) (cM Z ad u) sz (fun _ _ => False)) 0 0 rm_M_picture.cells rm_M_picture.slots (va_A (cM Z ad u) sz) := by
  refine g_ent (f := cM Z ad) (Qc := fun sz => pQi Z (cM Z ad) (cM Z ad u) sz post) (XC := fun sz => pX Z (cM Z ad) (cM Z ad u) sz (fun _ _ => False)) hl0 (by decide +kernel) (Nat.le_of_ble_eq_true rfl) ?_
  intro p e s m args below meth c ls C htab hw hl
  have hl : lv_has ls 1 [(0, .ref (ad 0))] := hl
  unfold q_M_picture at h
  refine lv_aload_n C.2.1 C.2.2.1 d_M_picture_0 rfl (lv_at hl 0 rfl) ?_
  refine lv_aload_n C.2.1 C.2.2.1 d_M_picture_1 rfl (lv_at hl 0 rfl) ?_
  refine r_M_47 C hw d_M_picture_2 ?_
  refine lv_bipush (v := (24)) C.2.1 C.2.2.1 d_M_picture_5 (by decide) ?_
  refine lv_icmp_ne (tgt := 14) C.2.1 C.2.2.1 d_M_picture_7 (by decide) (fun c => ?_) (fun c => ?_)
  · have h := h.1 c
    refine lv_iconst (v := (0)) C.2.1 C.2.2.1 d_M_picture_14 (by decide) ?_
    exact w_M_picture_15 C htab (((0) : Int32)) _ _ _ _ hw (lv_sub hl [0] rfl) h
  · have h := h.2 c
    refine lv_iconst (v := (1)) C.2.1 C.2.2.1 d_M_picture_10 (by decide) ?_
    refine lv_goto (tgt := 15) C.2.1 C.2.2.1 d_M_picture_11 (by decide) ?_
    exact w_M_picture_15 C htab (((1) : Int32)) _ _ _ _ hw (lv_sub hl [0] rfl) h
/-! CoderTablesModel.add(III)V -/
abbrev rm_M_add : Room := { frames := 0, cells := 0, slots := 0, locals := 0 }
def q_M_add (p1 : Int32) (p2 : Int32) (p3 : Int32) (u : MT) (post : MT → Prop) : Prop :=
  (vp_in (p1) 192 ∧ (vp_in (((((6) : Int32)) * (p1)) + (m_count (u) (p1).toNatClampNeg)) 1152 ∧ (vp_in (p1) 192 ∧ (vp_in (((((6) : Int32)) * (p1)) + (m_count (m_bytesOf_s (u) (upd (m_bytesOf (u)) (((((6) : Int32)) * (p1)) + (m_count (u) (p1).toNatClampNeg)).toNatClampNeg (p2))) (p1).toNatClampNeg)) 1152 ∧ (vp_in (p1) 192 ∧ (vp_in (p1) 192 ∧ post (m_count_s (m_errorOf_s (m_bytesOf_s (u) (upd (m_bytesOf (u)) (((((6) : Int32)) * (p1)) + (m_count (u) (p1).toNatClampNeg)).toNatClampNeg (p2))) (upd (m_errorOf (m_bytesOf_s (u) (upd (m_bytesOf (u)) (((((6) : Int32)) * (p1)) + (m_count (u) (p1).toNatClampNeg)).toNatClampNeg (p2)))) (((((6) : Int32)) * (p1)) + (m_count (m_bytesOf_s (u) (upd (m_bytesOf (u)) (((((6) : Int32)) * (p1)) + (m_count (u) (p1).toNatClampNeg)).toNatClampNeg (p2))) (p1).toNatClampNeg)).toNatClampNeg (p3))) (upd (m_count (m_errorOf_s (m_bytesOf_s (u) (upd (m_bytesOf (u)) (((((6) : Int32)) * (p1)) + (m_count (u) (p1).toNatClampNeg)).toNatClampNeg (p2))) (upd (m_errorOf (m_bytesOf_s (u) (upd (m_bytesOf (u)) (((((6) : Int32)) * (p1)) + (m_count (u) (p1).toNatClampNeg)).toNatClampNeg (p2)))) (((((6) : Int32)) * (p1)) + (m_count (m_bytesOf_s (u) (upd (m_bytesOf (u)) (((((6) : Int32)) * (p1)) + (m_count (u) (p1).toNatClampNeg)).toNatClampNeg (p2))) (p1).toNatClampNeg)).toNatClampNeg (p3)))) (p1).toNatClampNeg ((m_count (m_errorOf_s (m_bytesOf_s (u) (upd (m_bytesOf (u)) (((((6) : Int32)) * (p1)) + (m_count (u) (p1).toNatClampNeg)).toNatClampNeg (p2))) (upd (m_errorOf (m_bytesOf_s (u) (upd (m_bytesOf (u)) (((((6) : Int32)) * (p1)) + (m_count (u) (p1).toNatClampNeg)).toNatClampNeg (p2)))) (((((6) : Int32)) * (p1)) + (m_count (m_bytesOf_s (u) (upd (m_bytesOf (u)) (((((6) : Int32)) * (p1)) + (m_count (u) (p1).toNatClampNeg)).toNatClampNeg (p2))) (p1).toNatClampNeg)).toNatClampNeg (p3))) (p1).toNatClampNeg) + (((1) : Int32)))))))))))
set_option maxRecDepth 100000 in
theorem c_M_add {l : Launch} {Z : ZT} {ad : Nat → Nat} {u : MT} {post : MT → Prop} {p1 : Int32} {p2 : Int32} {p3 : Int32} (hl0 : l.stackTraces = false) (h : q_M_add p1 p2 p3 u post) : ∀ sz, vx_Met l y_M_add (Cond.code y_M_add b_M_add 4 none :: GW) rm_M_add (pP Z [.ref (ad 0), .int (p1), .int (p2), .int (p3)] (cM Z ad u) sz) (pQv Z (cM Z ad) (cM Z ad u) sz post) (pX Z (cM Z ad) (cM Z ad u) sz (fun _ _ => False)) 0 0 rm_M_add.cells rm_M_add.slots (va_A (cM Z ad u) sz) := by
  refine g_ent (f := cM Z ad) (Qc := fun sz => pQv Z (cM Z ad) (cM Z ad u) sz post) (XC := fun sz => pX Z (cM Z ad) (cM Z ad u) sz (fun _ _ => False)) hl0 (by decide +kernel) (Nat.le_of_ble_eq_true rfl) ?_
  intro p e s m args below meth c ls C htab hw hl
  have hl : lv_has ls 4 [(0, .ref (ad 0)), (1, .int (p1)), (2, .int (p2)), (3, .int (p3))] := hl
  unfold q_M_add at h
  refine lv_aload_n C.2.1 C.2.2.1 d_M_add_0 rfl (lv_at hl 0 rfl) ?_
  refine r_M_17 C hw d_M_add_1 ?_
  refine lv_bipush (v := (6)) C.2.1 C.2.2.1 d_M_add_4 (by decide) ?_
  refine lv_iload_n C.2.1 C.2.2.1 d_M_add_6 rfl (lv_at hl 1 rfl) ?_
  refine lv_imul C.2.1 C.2.2.1 d_M_add_7 ?_
  refine lv_aload_n C.2.1 C.2.2.1 d_M_add_8 rfl (lv_at hl 0 rfl) ?_
  refine r_M_7 C hw d_M_add_9 ?_
  refine lv_iload_n C.2.1 C.2.2.1 d_M_add_12 rfl (lv_at hl 1 rfl) ?_
  obtain ⟨hi, h⟩ := h
  refine al_M_1 C hw hi d_M_add_13 ?_
  refine lv_iadd C.2.1 C.2.2.1 d_M_add_14 ?_
  refine lv_iload_n C.2.1 C.2.2.1 d_M_add_15 rfl (lv_at hl 2 rfl) ?_
  obtain ⟨hi, h⟩ := h
  refine as_M_3 C hw hi d_M_add_16 (fun H locs hw => ?_)
  refine lv_aload_n C.2.1 C.2.2.1 d_M_add_17 rfl (lv_at hl 0 rfl) ?_
  refine r_M_20 C hw d_M_add_18 ?_
  refine lv_bipush (v := (6)) C.2.1 C.2.2.1 d_M_add_21 (by decide) ?_
  refine lv_iload_n C.2.1 C.2.2.1 d_M_add_23 rfl (lv_at hl 1 rfl) ?_
  refine lv_imul C.2.1 C.2.2.1 d_M_add_24 ?_
  refine lv_aload_n C.2.1 C.2.2.1 d_M_add_25 rfl (lv_at hl 0 rfl) ?_
  refine r_M_7 C hw d_M_add_26 ?_
  refine lv_iload_n C.2.1 C.2.2.1 d_M_add_29 rfl (lv_at hl 1 rfl) ?_
  obtain ⟨hi, h⟩ := h
  refine al_M_1 C hw hi d_M_add_30 ?_
  refine lv_iadd C.2.1 C.2.2.1 d_M_add_31 ?_
  refine lv_iload_n C.2.1 C.2.2.1 d_M_add_32 rfl (lv_at hl 3 rfl) ?_
  obtain ⟨hi, h⟩ := h
  refine as_M_4 C hw hi d_M_add_33 (fun H locs hw => ?_)
  refine lv_aload_n C.2.1 C.2.2.1 d_M_add_34 rfl (lv_at hl 0 rfl) ?_
  refine r_M_7 C hw d_M_add_35 ?_
  refine lv_iload_n C.2.1 C.2.2.1 d_M_add_38 rfl (lv_at hl 1 rfl) ?_
  refine lv_dup2_11 C.2.1 C.2.2.1 d_M_add_39 rfl rfl ?_
  obtain ⟨hi, h⟩ := h
  refine al_M_1 C hw hi d_M_add_40 ?_
  refine lv_iconst (v := (1)) C.2.1 C.2.2.1 d_M_add_41 (by decide) ?_
  refine lv_iadd C.2.1 C.2.2.1 d_M_add_42 ?_
  obtain ⟨hi, h⟩ := h
  refine as_M_1 C hw hi d_M_add_43 (fun H locs hw => ?_)
  exact g_vret C hw h d_M_add_44
section KR
variable {own host : String} {cc bytes : ByteArray} {nL maxL index n : Nat} {rt0 rt : Option FieldType} {Z : ZT} {ad : Nat → Nat} {A : Nat → Prop}
variable {p : Program} {l : Launch} {e : Env} {R : Room} {s : State} {m : MethodId} {args : Array Value} {below : List Frame} {meth : Method} {c : Code} {H : Heap} {locs : List Loc} {cells slots : Nat} {Q : State → Prop} {rest : List Value} {pc : Nat} {ls : Array Slot}
theorem k_M_63 {u : MT} {p1 : Int32} {p2 : Int32} {p3 : Int32} {post : MT → Prop} (C : CX "CoderTablesModel" cc nL rt0 Z A p l s m args meth c) (hw : WD Z A s (cM Z ad u) H locs) (h : q_M_add p1 p2 p3 u post) (hR : rmOk rm_M_add 4 R cells slots) (hl : ls.size = nL) (hW : (rest.map fun v => v.category).sum ≤ 8) (hdg : decode cc pc = .ok (.invokevirtual 63, 3)) (kk : ∀ (u' : MT) (H1 : Heap) (locs1 : List Loc), post u' → WD Z A s (cM Z ad u') H1 locs1 → W p l e R s m args below meth c H1 locs1 cells slots Q (F0 m (pc + 3) ls (rest))) : W p l e R s m args below meth c H locs cells slots Q (F0 m pc ls (.int (p3) :: .int (p2) :: .int (p1) :: .ref (ad 0) :: rest)) :=
  g_V0_v (n := 3) (f := cM Z ad) (As := [.int (p1), .int (p2), .int (p3)]) C hw (c_M_add C.1 h) ⟨w635, w637, w34, w56, w638, (by decide +kernel), (by decide +kernel), (by decide +kernel)⟩ hR 0 rfl rfl rfl hl rfl hW hdg (fun _ _ _ _ _ _ h => h.elim) kk
end KR
/-! CoderTablesModel.point(IIII)I -/
abbrev rm_M_point : Room := { frames := 2, cells := 0, slots := 0, locals := 43 }
def q_M_point_95 (x3 : Int32) (x4 : Int32) (x6 : Int32) (z0 : Int32) (u : MT) (post : Int32 → MT → Prop) : Prop :=
  q_M_refuses (z0) (u) (fun r1 u2 => (((r1) = 0 → q_M_add (x6) (x3) (x4) (u2) (fun u4 => (vp_in (x6) 192 ∧ post (m_count (u4) (x6).toNatClampNeg) (u4)))) ∧ (¬ (r1) = 0 → post (((0) : Int32)) (u2))))
set_option maxRecDepth 100000 in
theorem w_M_point_95 {p : Program} {l : Launch} {e : Env} {s : State} {m : MethodId} {args : Array Value} {below : List Frame} {meth : Method} {c : Code} {Z : ZT} {ad : Nat → Nat} {u0 : MT} {post : Int32 → MT → Prop} (C : CX "CoderTablesModel" b_M_point 7 (some .int) Z (va_A (cM Z ad u0) s.heap.size) p l s m args meth c) (htab : ∀ x ∈ c.exceptionTable.toList, False) (x3 : Int32) (x4 : Int32) (x6 : Int32) (z0 : Int32) (u : MT) (H : Heap) (locs : List Loc) (ls : Array Slot) (hw : WD Z (va_A (cM Z ad u0) s.heap.size) s (cM Z ad u) H locs) (hl : lv_has ls 7 [(0, .ref (ad 0)), (3, .int (x3)), (4, .int (x4)), (6, .int (x6))]) (h : q_M_point_95 x3 x4 x6 z0 u post) : W p l e rm_M_point s m args below meth c H locs 0 0 (vx_MQ below (pQi Z (cM Z ad) (cM Z ad u0) s.heap.size post) (pX Z (cM Z ad) (cM Z ad u0) s.heap.size (fun _ _ => False)) args s 0 0 rm_M_point.cells rm_M_point.slots (va_A (cM Z ad u0) s.heap.size)) (F0 m 95 ls [.int (z0), .ref (ad 0)]) := by
  unfold q_M_point_95 at h
  refine k_M_50 C hw h ⟨Nat.le_of_ble_eq_true rfl, Nat.le_of_ble_eq_true rfl, Nat.le_of_ble_eq_true rfl, Nat.le_of_ble_eq_true rfl⟩ hl.1 (Nat.le_of_ble_eq_true rfl) d_M_point_95 (fun r1 u2 H locs h hw => ?_)
  refine lv_if_eq (tgt := 103) C.2.1 C.2.2.1 d_M_point_98 (by decide) (fun c => ?_) (fun c => ?_)
  · have h := h.1 c
    refine lv_aload_n C.2.1 C.2.2.1 d_M_point_103 rfl (lv_at hl 0 rfl) ?_
    refine lv_iload C.2.1 C.2.2.1 d_M_point_104 (lv_at hl 3 rfl) ?_
    refine lv_iload_n C.2.1 C.2.2.1 d_M_point_106 rfl (lv_at hl 1 rfl) ?_
    refine lv_iload C.2.1 C.2.2.1 d_M_point_107 (lv_at hl 2 rfl) ?_
    refine k_M_63 C hw h ⟨Nat.le_of_ble_eq_true rfl, Nat.le_of_ble_eq_true rfl, Nat.le_of_ble_eq_true rfl, Nat.le_of_ble_eq_true rfl⟩ hl.1 (Nat.le_of_ble_eq_true rfl) d_M_point_109 (fun u4 H locs h hw => ?_)
    refine lv_aload_n C.2.1 C.2.2.1 d_M_point_112 rfl (lv_at hl 0 rfl) ?_
    refine r_M_7 C hw d_M_point_113 ?_
    refine lv_iload C.2.1 C.2.2.1 d_M_point_116 (lv_at hl 3 rfl) ?_
    obtain ⟨hi, h⟩ := h
    refine al_M_1 C hw hi d_M_point_118 ?_
    exact g_iret C hw rfl h d_M_point_119
  · have h := h.2 c
    refine lv_iconst (v := (0)) C.2.1 C.2.2.1 d_M_point_101 (by decide) ?_
    exact g_iret C hw rfl h d_M_point_102
def q_M_point_60 (x3 : Int32) (x4 : Int32) (x6 : Int32) (u : MT) (post : Int32 → MT → Prop) : Prop :=
  q_M_point_95 (x3) (x4) (x6) (((2) : Int32)) (u) post
set_option maxRecDepth 100000 in
theorem w_M_point_60 {p : Program} {l : Launch} {e : Env} {s : State} {m : MethodId} {args : Array Value} {below : List Frame} {meth : Method} {c : Code} {Z : ZT} {ad : Nat → Nat} {u0 : MT} {post : Int32 → MT → Prop} (C : CX "CoderTablesModel" b_M_point 7 (some .int) Z (va_A (cM Z ad u0) s.heap.size) p l s m args meth c) (htab : ∀ x ∈ c.exceptionTable.toList, False) (x3 : Int32) (x4 : Int32) (x6 : Int32) (u : MT) (H : Heap) (locs : List Loc) (ls : Array Slot) (hw : WD Z (va_A (cM Z ad u0) s.heap.size) s (cM Z ad u) H locs) (hl : lv_has ls 7 [(0, .ref (ad 0)), (3, .int (x3)), (4, .int (x4)), (6, .int (x6))]) (h : q_M_point_60 x3 x4 x6 u post) : W p l e rm_M_point s m args below meth c H locs 0 0 (vx_MQ below (pQi Z (cM Z ad) (cM Z ad u0) s.heap.size post) (pX Z (cM Z ad) (cM Z ad u0) s.heap.size (fun _ _ => False)) args s 0 0 rm_M_point.cells rm_M_point.slots (va_A (cM Z ad u0) s.heap.size)) (F0 m 60 ls [.ref (ad 0)]) := by
  unfold q_M_point_60 at h
  refine lv_iconst (v := (2)) C.2.1 C.2.2.1 d_M_point_60 (by decide) ?_
  refine lv_goto (tgt := 95) C.2.1 C.2.2.1 d_M_point_61 (by decide) ?_
  exact w_M_point_95 C htab (x3) (x4) (x6) (((2) : Int32)) _ _ _ _ hw (lv_sub hl [0, 1, 2, 3] rfl) h
def q_M_point_23 (x3 : Int32) (x4 : Int32) (x5 : Int32) (z0 : Int32) (u : MT) (post : Int32 → MT → Prop) : Prop :=
  (((x5) = 0 → q_M_isIn ((x3).toInt64) ((1 : Int64)) ((1000000000 : Int64)) (u) (fun r5 u6 => (((r5) = 0 → q_M_point_60 (x3) (x4) (z0) (u6) post) ∧ (¬ (r5) = 0 → q_M_isIn ((x4).toInt64) ((0 : Int64)) ((1000000000 : Int64)) (u6) (fun r7 u8 => ((¬ (r7) = 0 → (vp_in (z0) 192 ∧ (((m_hasFailed (u8) (z0).toNatClampNeg) = 0 → (vp_in (z0) 192 ∧ ((¬ (m_count (u8) (z0).toNatClampNeg) = (((6) : Int32)) → q_M_point_95 (x3) (x4) (z0) (((0) : Int32)) (u8) post) ∧ ((m_count (u8) (z0).toNatClampNeg) = (((6) : Int32)) → q_M_point_95 (x3) (x4) (z0) (((4) : Int32)) (u8) post)))) ∧ (¬ (m_hasFailed (u8) (z0).toNatClampNeg) = 0 → q_M_point_95 (x3) (x4) (z0) (((3) : Int32)) (u8) post)))) ∧ ((r7) = 0 → q_M_point_60 (x3) (x4) (z0) (u8) post))))))) ∧ (¬ (x5) = 0 → q_M_point_95 (x3) (x4) (z0) (((1) : Int32)) (u) post))
set_option maxRecDepth 100000 in
theorem w_M_point_23 {p : Program} {l : Launch} {e : Env} {s : State} {m : MethodId} {args : Array Value} {below : List Frame} {meth : Method} {c : Code} {Z : ZT} {ad : Nat → Nat} {u0 : MT} {post : Int32 → MT → Prop} (C : CX "CoderTablesModel" b_M_point 7 (some .int) Z (va_A (cM Z ad u0) s.heap.size) p l s m args meth c) (htab : ∀ x ∈ c.exceptionTable.toList, False) (x3 : Int32) (x4 : Int32) (x5 : Int32) (z0 : Int32) (u : MT) (H : Heap) (locs : List Loc) (ls : Array Slot) (hw : WD Z (va_A (cM Z ad u0) s.heap.size) s (cM Z ad u) H locs) (hl : lv_has ls 7 [(0, .ref (ad 0)), (3, .int (x3)), (4, .int (x4)), (5, .int (x5))]) (h : q_M_point_23 x3 x4 x5 z0 u post) : W p l e rm_M_point s m args below meth c H locs 0 0 (vx_MQ below (pQi Z (cM Z ad) (cM Z ad u0) s.heap.size post) (pX Z (cM Z ad) (cM Z ad u0) s.heap.size (fun _ _ => False)) args s 0 0 rm_M_point.cells rm_M_point.slots (va_A (cM Z ad u0) s.heap.size)) (F0 m 23 ls [.int (z0)]) := by
  unfold q_M_point_23 at h
  refine lv_istore (lv' := [(6, .int (z0)), (0, .ref (ad 0)), (3, .int (x3)), (4, .int (x4)), (5, .int (x5))]) C.2.1 C.2.2.1 d_M_point_23 hl (by decide) rfl (fun ls hl => ?_)
  refine lv_aload_n C.2.1 C.2.2.1 d_M_point_25 rfl (lv_at hl 1 rfl) ?_
  refine lv_iload C.2.1 C.2.2.1 d_M_point_26 (lv_at hl 4 rfl) ?_
  refine lv_if_eq (tgt := 35) C.2.1 C.2.2.1 d_M_point_28 (by decide) (fun c => ?_) (fun c => ?_)
  · have h := h.1 c
    refine lv_iload_n C.2.1 C.2.2.1 d_M_point_35 rfl (lv_at hl 2 rfl) ?_
    refine lv_i2l C.2.1 C.2.2.1 d_M_point_36 rfl ?_
    refine lv_lconst (v := 1) C.2.1 C.2.2.1 d_M_point_37 (by decide) ?_
    refine lv_ldc2 (v := 1000000000) C.2.1 C.2.2.1 C.2.2.2.2.1 (C.2.2.2.2.2.1 _ w631) d_M_point_38 ?_
    refine k_M_59 C hw h ⟨Nat.le_of_ble_eq_true rfl, Nat.le_of_ble_eq_true rfl, Nat.le_of_ble_eq_true rfl, Nat.le_of_ble_eq_true rfl⟩ hl.1 (Nat.le_of_ble_eq_true rfl) d_M_point_41 (fun r5 u6 H locs h hw => ?_)
    refine lv_if_eq (tgt := 60) C.2.1 C.2.2.1 d_M_point_44 (by decide) (fun c => ?_) (fun c => ?_)
    · have h := h.1 c
      exact w_M_point_60 C htab (x3) (x4) (z0) _ _ _ _ hw (lv_sub hl [1, 2, 3, 0] rfl) h
    · have h := h.2 c
      refine lv_iload C.2.1 C.2.2.1 d_M_point_47 (lv_at hl 3 rfl) ?_
      refine lv_i2l C.2.1 C.2.2.1 d_M_point_49 rfl ?_
      refine lv_lconst (v := 0) C.2.1 C.2.2.1 d_M_point_50 (by decide) ?_
      refine lv_ldc2 (v := 1000000000) C.2.1 C.2.2.1 C.2.2.2.2.1 (C.2.2.2.2.2.1 _ w631) d_M_point_51 ?_
      refine k_M_59 C hw h ⟨Nat.le_of_ble_eq_true rfl, Nat.le_of_ble_eq_true rfl, Nat.le_of_ble_eq_true rfl, Nat.le_of_ble_eq_true rfl⟩ hl.1 (Nat.le_of_ble_eq_true rfl) d_M_point_54 (fun r7 u8 H locs h hw => ?_)
      refine lv_if_ne (tgt := 64) C.2.1 C.2.2.1 d_M_point_57 (by decide) (fun c => ?_) (fun c => ?_)
      · have h := h.1 c
        refine lv_aload_n C.2.1 C.2.2.1 d_M_point_64 rfl (lv_at hl 1 rfl) ?_
        refine r_M_13 C hw d_M_point_65 ?_
        refine lv_iload C.2.1 C.2.2.1 d_M_point_68 (lv_at hl 0 rfl) ?_
        obtain ⟨hi, h⟩ := h
        refine al_M_2 C hw hi d_M_point_70 ?_
        refine lv_if_eq (tgt := 78) C.2.1 C.2.2.1 d_M_point_71 (by decide) (fun c => ?_) (fun c => ?_)
        · have h := h.1 c
          refine lv_aload_n C.2.1 C.2.2.1 d_M_point_78 rfl (lv_at hl 1 rfl) ?_
          refine r_M_7 C hw d_M_point_79 ?_
          refine lv_iload C.2.1 C.2.2.1 d_M_point_82 (lv_at hl 0 rfl) ?_
          obtain ⟨hi, h⟩ := h
          refine al_M_1 C hw hi d_M_point_84 ?_
          refine lv_bipush (v := (6)) C.2.1 C.2.2.1 d_M_point_85 (by decide) ?_
          refine lv_icmp_ne (tgt := 94) C.2.1 C.2.2.1 d_M_point_87 (by decide) (fun c => ?_) (fun c => ?_)
          · have h := h.1 c
            refine lv_iconst (v := (0)) C.2.1 C.2.2.1 d_M_point_94 (by decide) ?_
            exact w_M_point_95 C htab (x3) (x4) (z0) (((0) : Int32)) _ _ _ _ hw (lv_sub hl [1, 2, 3, 0] rfl) h
          · have h := h.2 c
            refine lv_iconst (v := (4)) C.2.1 C.2.2.1 d_M_point_90 (by decide) ?_
            refine lv_goto (tgt := 95) C.2.1 C.2.2.1 d_M_point_91 (by decide) ?_
            exact w_M_point_95 C htab (x3) (x4) (z0) (((4) : Int32)) _ _ _ _ hw (lv_sub hl [1, 2, 3, 0] rfl) h
        · have h := h.2 c
          refine lv_iconst (v := (3)) C.2.1 C.2.2.1 d_M_point_74 (by decide) ?_
          refine lv_goto (tgt := 95) C.2.1 C.2.2.1 d_M_point_75 (by decide) ?_
          exact w_M_point_95 C htab (x3) (x4) (z0) (((3) : Int32)) _ _ _ _ hw (lv_sub hl [1, 2, 3, 0] rfl) h
      · have h := h.2 c
        exact w_M_point_60 C htab (x3) (x4) (z0) _ _ _ _ hw (lv_sub hl [1, 2, 3, 0] rfl) h
  · have h := h.2 c
    refine lv_iconst (v := (1)) C.2.1 C.2.2.1 d_M_point_31 (by decide) ?_
    refine lv_goto (tgt := 95) C.2.1 C.2.2.1 d_M_point_32 (by decide) ?_
    exact w_M_point_95 C htab (x3) (x4) (z0) (((1) : Int32)) _ _ _ _ hw (lv_sub hl [1, 2, 3, 0] rfl) h
def q_M_point (p1 : Int32) (p2 : Int32) (p3 : Int32) (p4 : Int32) (u : MT) (post : Int32 → MT → Prop) : Prop :=
  q_M_noPair (p1) (p2) (u) (fun r9 u10 => (((r9) = 0 → q_M_point_23 (p3) (p4) (r9) (((((24) : Int32)) * (p1)) + (p2)) (u10) post) ∧ (¬ (r9) = 0 → q_M_point_23 (p3) (p4) (r9) (((0) : Int32)) (u10) post)))
set_option maxRecDepth 100000 in
theorem c_M_point {l : Launch} {Z : ZT} {ad : Nat → Nat} {u : MT} {post : Int32 → MT → Prop} {p1 : Int32} {p2 : Int32} {p3 : Int32} {p4 : Int32} (hl0 : l.stackTraces = false) (h : q_M_point p1 p2 p3 p4 u post) : ∀ sz, vx_Met l y_M_point (Cond.code y_M_point b_M_point 7 (some .int) :: GW) rm_M_point (pP Z [.ref (ad 0), .int (p1), .int (p2), .int (p3), .int (p4)] (cM Z ad u) sz) (pQi Z (cM Z ad) (cM Z ad u) sz post) (pX Z (cM Z ad) (cM Z ad u) sz (fun _ _ => False)) 0 0 rm_M_point.cells rm_M_point.slots (va_A (cM Z ad u) sz) := by
  refine g_ent (f := cM Z ad) (Qc := fun sz => pQi Z (cM Z ad) (cM Z ad u) sz post) (XC := fun sz => pX Z (cM Z ad) (cM Z ad u) sz (fun _ _ => False)) hl0 (by decide +kernel) (Nat.le_of_ble_eq_true rfl) ?_
  intro p e s m args below meth c ls C htab hw hl
  have hl : lv_has ls 7 [(0, .ref (ad 0)), (1, .int (p1)), (2, .int (p2)), (3, .int (p3)), (4, .int (p4))] := hl
  unfold q_M_point at h
  refine lv_aload_n C.2.1 C.2.2.1 d_M_point_0 rfl (lv_at hl 0 rfl) ?_
  refine lv_iload_n C.2.1 C.2.2.1 d_M_point_1 rfl (lv_at hl 1 rfl) ?_
  refine lv_iload_n C.2.1 C.2.2.1 d_M_point_2 rfl (lv_at hl 2 rfl) ?_
  refine k_M_53 C hw h ⟨Nat.le_of_ble_eq_true rfl, Nat.le_of_ble_eq_true rfl, Nat.le_of_ble_eq_true rfl, Nat.le_of_ble_eq_true rfl⟩ hl.1 (Nat.le_of_ble_eq_true rfl) d_M_point_3 (fun r9 u10 H locs h hw => ?_)
  refine lv_istore (lv' := [(5, .int (r9)), (0, .ref (ad 0)), (1, .int (p1)), (2, .int (p2)), (3, .int (p3)), (4, .int (p4))]) C.2.1 C.2.2.1 d_M_point_6 hl (by decide) rfl (fun ls hl => ?_)
  refine lv_iload C.2.1 C.2.2.1 d_M_point_8 (lv_at hl 0 rfl) ?_
  refine lv_if_eq (tgt := 17) C.2.1 C.2.2.1 d_M_point_10 (by decide) (fun c => ?_) (fun c => ?_)
  · have h := h.1 c
    refine lv_bipush (v := (24)) C.2.1 C.2.2.1 d_M_point_17 (by decide) ?_
    refine lv_iload_n C.2.1 C.2.2.1 d_M_point_19 rfl (lv_at hl 2 rfl) ?_
    refine lv_imul C.2.1 C.2.2.1 d_M_point_20 ?_
    refine lv_iload_n C.2.1 C.2.2.1 d_M_point_21 rfl (lv_at hl 3 rfl) ?_
    refine lv_iadd C.2.1 C.2.2.1 d_M_point_22 ?_
    exact w_M_point_23 C htab (p3) (p4) (r9) (((((24) : Int32)) * (p1)) + (p2)) _ _ _ _ hw (lv_sub hl [1, 4, 5, 0] rfl) h
  · have h := h.2 c
    refine lv_iconst (v := (0)) C.2.1 C.2.2.1 d_M_point_13 (by decide) ?_
    refine lv_goto (tgt := 23) C.2.1 C.2.2.1 d_M_point_14 (by decide) ?_
    exact w_M_point_23 C htab (p3) (p4) (r9) (((0) : Int32)) _ _ _ _ hw (lv_sub hl [1, 4, 5, 0] rfl) h
