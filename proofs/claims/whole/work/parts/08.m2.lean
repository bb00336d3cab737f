/-! CoderTablesModel.fail(I)V -/
abbrev rm_M_fail : Room := { frames := 0, cells := 0, slots := 0, locals := 0 }
def q_M_fail (p1 : Int32) (u : MT) (post : MT → Prop) : Prop :=
  (vp_in (p1) 192 ∧ (vp_in (p1) 192 ∧ (vp_in (m_failures (m_count_s (m_hasFailed_s (u) (upd (m_hasFailed (u)) (p1).toNatClampNeg (vp_nar .boolean (((1) : Int32))))) (upd (m_count (m_hasFailed_s (u) (upd (m_hasFailed (u)) (p1).toNatClampNeg (vp_nar .boolean (((1) : Int32)))))) (p1).toNatClampNeg (((0) : Int32))))) 192 ∧ post (m_failures_s (m_failure_s (m_count_s (m_hasFailed_s (u) (upd (m_hasFailed (u)) (p1).toNatClampNeg (vp_nar .boolean (((1) : Int32))))) (upd (m_count (m_hasFailed_s (u) (upd (m_hasFailed (u)) (p1).toNatClampNeg (vp_nar .boolean (((1) : Int32)))))) (p1).toNatClampNeg (((0) : Int32)))) (upd (m_failure (m_count_s (m_hasFailed_s (u) (upd (m_hasFailed (u)) (p1).toNatClampNeg (vp_nar .boolean (((1) : Int32))))) (upd (m_count (m_hasFailed_s (u) (upd (m_hasFailed (u)) (p1).toNatClampNeg (vp_nar .boolean (((1) : Int32)))))) (p1).toNatClampNeg (((0) : Int32))))) (m_failures (m_count_s (m_hasFailed_s (u) (upd (m_hasFailed (u)) (p1).toNatClampNeg (vp_nar .boolean (((1) : Int32))))) (upd (m_count (m_hasFailed_s (u) (upd (m_hasFailed (u)) (p1).toNatClampNeg (vp_nar .boolean (((1) : Int32)))))) (p1).toNatClampNeg (((0) : Int32))))).toNatClampNeg (p1))) ((m_failures (m_failure_s (m_count_s (m_hasFailed_s (u) (upd (m_hasFailed (u)) (p1).toNatClampNeg (vp_nar .boolean (((1) : Int32))))) (upd (m_count (m_hasFailed_s (u) (upd (m_hasFailed (u)) (p1).toNatClampNeg (vp_nar .boolean (((1) : Int32)))))) (p1).toNatClampNeg (((0) : Int32)))) (upd (m_failure (m_count_s (m_hasFailed_s (u) (upd (m_hasFailed (u)) (p1).toNatClampNeg (vp_nar .boolean (((1) : Int32))))) (upd (m_count (m_hasFailed_s (u) (upd (m_hasFailed (u)) (p1).toNatClampNeg (vp_nar .boolean (((1) : Int32)))))) (p1).toNatClampNeg (((0) : Int32))))) (m_failures (m_count_s (m_hasFailed_s (u) (upd (m_hasFailed (u)) (p1).toNatClampNeg (vp_nar .boolean (((1) : Int32))))) (upd (m_count (m_hasFailed_s (u) (upd (m_hasFailed (u)) (p1).toNatClampNeg (vp_nar .boolean (((1) : Int32)))))) (p1).toNatClampNeg (((0) : Int32))))).toNatClampNeg (p1)))) + (((1) : Int32)))))))
set_option maxRecDepth 100000 in
theorem c_M_fail {l : Launch} {Z : ZT} {ad : Nat → Nat} {u : MT} {post : MT → Prop} {p1 : Int32} (hl0 : l.stackTraces = false) (h : q_M_fail p1 u post) : ∀ sz, vx_Met l y_M_fail (Cond.code y_M_fail b_M_fail 2 none :: GW) rm_M_fail (pP Z [.ref (ad 0), .int (p1)] (cM Z ad u) sz) (pQv Z (cM Z ad) (cM Z ad u) sz post) (pX Z (cM Z ad) (cM Z ad u) sz (fun _ _ => False)) 0 0 rm_M_fail.cells rm_M_fail.slots (va_A (cM Z ad u) sz) := by
  refine g_ent (f := cM Z ad) (Qc := fun sz => pQv Z (cM Z ad) (cM Z ad u) sz post) (XC := fun sz => pX Z (cM Z ad) (cM Z ad u) sz (fun _ _ => False)) hl0 (by decide +kernel) (Nat.le_of_ble_eq_true rfl) ?_
  intro p e s m args below meth c ls C htab hw hl
  have hl : lv_has ls 2 [(0, .ref (ad 0)), (1, .int (p1))] := hl
  unfold q_M_fail at h
  refine lv_aload_n C.2.1 C.2.2.1 d_M_fail_0 rfl (lv_at hl 0 rfl) ?_
  refine r_M_13 C hw d_M_fail_1 ?_
  refine lv_iload_n C.2.1 C.2.2.1 d_M_fail_4 rfl (lv_at hl 1 rfl) ?_
  refine lv_iconst (v := (1)) C.2.1 C.2.2.1 d_M_fail_5 (by decide) ?_
  obtain ⟨hi, h⟩ := h
  refine as_M_2 C hw hi d_M_fail_6 (fun H locs hw => ?_)
  refine lv_aload_n C.2.1 C.2.2.1 d_M_fail_7 rfl (lv_at hl 0 rfl) ?_
  refine r_M_7 C hw d_M_fail_8 ?_
  refine lv_iload_n C.2.1 C.2.2.1 d_M_fail_11 rfl (lv_at hl 1 rfl) ?_
  refine lv_iconst (v := (0)) C.2.1 C.2.2.1 d_M_fail_12 (by decide) ?_
  obtain ⟨hi, h⟩ := h
  refine as_M_1 C hw hi d_M_fail_13 (fun H locs hw => ?_)
  refine lv_aload_n C.2.1 C.2.2.1 d_M_fail_14 rfl (lv_at hl 0 rfl) ?_
  refine r_M_23 C hw d_M_fail_15 ?_
  refine lv_aload_n C.2.1 C.2.2.1 d_M_fail_18 rfl (lv_at hl 0 rfl) ?_
  refine r_M_67 C hw d_M_fail_19 ?_
  refine lv_iload_n C.2.1 C.2.2.1 d_M_fail_22 rfl (lv_at hl 1 rfl) ?_
  obtain ⟨hi, h⟩ := h
  refine as_M_5 C hw hi d_M_fail_23 (fun H locs hw => ?_)
  refine lv_aload_n C.2.1 C.2.2.1 d_M_fail_24 rfl (lv_at hl 0 rfl) ?_
  refine lv_dup C.2.1 C.2.2.1 d_M_fail_25 rfl ?_
  refine r_M_67 C hw d_M_fail_26 ?_
  refine lv_iconst (v := (1)) C.2.1 C.2.2.1 d_M_fail_29 (by decide) ?_
  refine lv_iadd C.2.1 C.2.2.1 d_M_fail_30 ?_
  refine s_M_67 C hw d_M_fail_31 (fun H locs hw => ?_)
  exact g_vret C hw h d_M_fail_34
section KR
variable {own host : String} {cc bytes : ByteArray} {nL maxL index n : Nat} {rt0 rt : Option FieldType} {Z : ZT} {ad : Nat → Nat} {A : Nat → Prop}
variable {p : Program} {l : Launch} {e : Env} {R : Room} {s : State} {m : MethodId} {args : Array Value} {below : List Frame} {meth : Method} {c : Code} {H : Heap} {locs : List Loc} {cells slots : Nat} {Q : State → Prop} {rest : List Value} {pc : Nat} {ls : Array Slot}
theorem k_M_70 {u : MT} {p1 : Int32} {post : MT → Prop} (C : CX "CoderTablesModel" cc nL rt0 Z A p l s m args meth c) (hw : WD Z A s (cM Z ad u) H locs) (h : q_M_fail p1 u post) (hR : rmOk rm_M_fail 2 R cells slots) (hl : ls.size = nL) (hW : (rest.map fun v => v.category).sum ≤ 8) (hdg : decode cc pc = .ok (.invokevirtual 70, 3)) (kk : ∀ (u' : MT) (H1 : Heap) (locs1 : List Loc), post u' → WD Z A s (cM Z ad u') H1 locs1 → W p l e R s m args below meth c H1 locs1 cells slots Q (F0 m (pc + 3) ls (rest))) : W p l e R s m args below meth c H locs cells slots Q (F0 m pc ls (.int (p1) :: .ref (ad 0) :: rest)) :=
  g_V0_v (n := 1) (f := cM Z ad) (As := [.int (p1)]) C hw (c_M_fail C.1 h) ⟨w643, w645, w35, w56, w646, (by decide +kernel), (by decide +kernel), (by decide +kernel)⟩ hR 0 rfl rfl rfl hl rfl hW hdg (fun _ _ _ _ _ _ h => h.elim) kk
end KR
/-! CoderTablesModel.fails(II)I -/
abbrev rm_M_fails : Room := { frames := 2, cells := 0, slots := 0, locals := 43 }
def q_M_fails_47 (x4 : Int32) (z0 : Int32) (u : MT) (post : Int32 → MT → Prop) : Prop :=
  q_M_refuses (z0) (u) (fun r1 u2 => (((r1) = 0 → (vp_in (x4) 192 ∧ q_M_fail (x4) (u2) (fun u4 => post (m_count (u2) (x4).toNatClampNeg) (u4)))) ∧ (¬ (r1) = 0 → post (((0) : Int32)) (u2))))
set_option maxRecDepth 100000 in
theorem w_M_fails_47 {p : Program} {l : Launch} {e : Env} {s : State} {m : MethodId} {args : Array Value} {below : List Frame} {meth : Method} {c : Code} {Z : ZT} {ad : Nat → Nat} {u0 : MT} {post : Int32 → MT → Prop} (C : CX "CoderTablesModel" b_M_fails 6 (some .int) Z (va_A (cM Z ad u0) s.heap.size) p l s m args meth c) (htab : ∀ x ∈ c.exceptionTable.toList, False) (x4 : Int32) (z0 : Int32) (u : MT) (H : Heap) (locs : List Loc) (ls : Array Slot) (hw : WD Z (va_A (cM Z ad u0) s.heap.size) s (cM Z ad u) H locs) (hl : lv_has ls 6 [(0, .ref (ad 0)), (4, .int (x4))]) (h : q_M_fails_47 x4 z0 u post) : W p l e rm_M_fails s m args below meth c H locs 0 0 (vx_MQ below (pQi Z (cM Z ad) (cM Z ad u0) s.heap.size post) (pX Z (cM Z ad) (cM Z ad u0) s.heap.size (fun _ _ => False)) args s 0 0 rm_M_fails.cells rm_M_fails.slots (va_A (cM Z ad u0) s.heap.size)) (F0 m 47 ls [.int (z0), .ref (ad 0)]) := by
  unfold q_M_fails_47 at h
  refine k_M_50 C hw h ⟨Nat.le_of_ble_eq_true rfl, Nat.le_of_ble_eq_true rfl, Nat.le_of_ble_eq_true rfl, Nat.le_of_ble_eq_true rfl⟩ hl.1 (Nat.le_of_ble_eq_true rfl) d_M_fails_47 (fun r1 u2 H locs h hw => ?_)
  refine lv_if_eq (tgt := 55) C.2.1 C.2.2.1 d_M_fails_50 (by decide) (fun c => ?_) (fun c => ?_)
  · have h := h.1 c
    refine lv_aload_n C.2.1 C.2.2.1 d_M_fails_55 rfl (lv_at hl 0 rfl) ?_
    refine r_M_7 C hw d_M_fails_56 ?_
    refine lv_iload C.2.1 C.2.2.1 d_M_fails_59 (lv_at hl 1 rfl) ?_
    obtain ⟨hi, h⟩ := h
    refine al_M_1 C hw hi d_M_fails_61 ?_
    refine lv_istore (lv' := [(5, .int (m_count (u2) (x4).toNatClampNeg)), (0, .ref (ad 0)), (4, .int (x4))]) C.2.1 C.2.2.1 d_M_fails_62 hl (by decide) rfl (fun ls hl => ?_)
    refine lv_aload_n C.2.1 C.2.2.1 d_M_fails_64 rfl (lv_at hl 1 rfl) ?_
    refine lv_iload C.2.1 C.2.2.1 d_M_fails_65 (lv_at hl 2 rfl) ?_
    refine k_M_70 C hw h ⟨Nat.le_of_ble_eq_true rfl, Nat.le_of_ble_eq_true rfl, Nat.le_of_ble_eq_true rfl, Nat.le_of_ble_eq_true rfl⟩ hl.1 (Nat.le_of_ble_eq_true rfl) d_M_fails_67 (fun u4 H locs h hw => ?_)
    refine lv_iload C.2.1 C.2.2.1 d_M_fails_70 (lv_at hl 0 rfl) ?_
    exact g_iret C hw rfl h d_M_fails_72
  · have h := h.2 c
    refine lv_iconst (v := (0)) C.2.1 C.2.2.1 d_M_fails_53 (by decide) ?_
    exact g_iret C hw rfl h d_M_fails_54
def q_M_fails_21 (x3 : Int32) (z0 : Int32) (u : MT) (post : Int32 → MT → Prop) : Prop :=
  (((x3) = 0 → (vp_in (z0) 192 ∧ (((m_hasFailed (u) (z0).toNatClampNeg) = 0 → q_M_fails_47 (z0) (((0) : Int32)) (u) post) ∧ (¬ (m_hasFailed (u) (z0).toNatClampNeg) = 0 → q_M_fails_47 (z0) (((2) : Int32)) (u) post)))) ∧ (¬ (x3) = 0 → q_M_fails_47 (z0) (((1) : Int32)) (u) post))
set_option maxRecDepth 100000 in
theorem w_M_fails_21 {p : Program} {l : Launch} {e : Env} {s : State} {m : MethodId} {args : Array Value} {below : List Frame} {meth : Method} {c : Code} {Z : ZT} {ad : Nat → Nat} {u0 : MT} {post : Int32 → MT → Prop} (C : CX "CoderTablesModel" b_M_fails 6 (some .int) Z (va_A (cM Z ad u0) s.heap.size) p l s m args meth c) (htab : ∀ x ∈ c.exceptionTable.toList, False) (x3 : Int32) (z0 : Int32) (u : MT) (H : Heap) (locs : List Loc) (ls : Array Slot) (hw : WD Z (va_A (cM Z ad u0) s.heap.size) s (cM Z ad u) H locs) (hl : lv_has ls 6 [(0, .ref (ad 0)), (3, .int (x3))]) (h : q_M_fails_21 x3 z0 u post) : W p l e rm_M_fails s m args below meth c H locs 0 0 (vx_MQ below (pQi Z (cM Z ad) (cM Z ad u0) s.heap.size post) (pX Z (cM Z ad) (cM Z ad u0) s.heap.size (fun _ _ => False)) args s 0 0 rm_M_fails.cells rm_M_fails.slots (va_A (cM Z ad u0) s.heap.size)) (F0 m 21 ls [.int (z0)]) := by
  unfold q_M_fails_21 at h
  refine lv_istore (lv' := [(4, .int (z0)), (0, .ref (ad 0)), (3, .int (x3))]) C.2.1 C.2.2.1 d_M_fails_21 hl (by decide) rfl (fun ls hl => ?_)
  refine lv_aload_n C.2.1 C.2.2.1 d_M_fails_23 rfl (lv_at hl 1 rfl) ?_
  refine lv_iload_n C.2.1 C.2.2.1 d_M_fails_24 rfl (lv_at hl 2 rfl) ?_
  refine lv_if_eq (tgt := 32) C.2.1 C.2.2.1 d_M_fails_25 (by decide) (fun c => ?_) (fun c => ?_)
  · have h := h.1 c
    refine lv_aload_n C.2.1 C.2.2.1 d_M_fails_32 rfl (lv_at hl 1 rfl) ?_
    refine r_M_13 C hw d_M_fails_33 ?_
    refine lv_iload C.2.1 C.2.2.1 d_M_fails_36 (lv_at hl 0 rfl) ?_
    obtain ⟨hi, h⟩ := h
    refine al_M_2 C hw hi d_M_fails_38 ?_
    refine lv_if_eq (tgt := 46) C.2.1 C.2.2.1 d_M_fails_39 (by decide) (fun c => ?_) (fun c => ?_)
    · have h := h.1 c
      refine lv_iconst (v := (0)) C.2.1 C.2.2.1 d_M_fails_46 (by decide) ?_
      exact w_M_fails_47 C htab (z0) (((0) : Int32)) _ _ _ _ hw (lv_sub hl [1, 0] rfl) h
    · have h := h.2 c
      refine lv_iconst (v := (2)) C.2.1 C.2.2.1 d_M_fails_42 (by decide) ?_
      refine lv_goto (tgt := 47) C.2.1 C.2.2.1 d_M_fails_43 (by decide) ?_
      exact w_M_fails_47 C htab (z0) (((2) : Int32)) _ _ _ _ hw (lv_sub hl [1, 0] rfl) h
  · have h := h.2 c
    refine lv_iconst (v := (1)) C.2.1 C.2.2.1 d_M_fails_28 (by decide) ?_
    refine lv_goto (tgt := 47) C.2.1 C.2.2.1 d_M_fails_29 (by decide) ?_
    exact w_M_fails_47 C htab (z0) (((1) : Int32)) _ _ _ _ hw (lv_sub hl [1, 0] rfl) h
def q_M_fails (p1 : Int32) (p2 : Int32) (u : MT) (post : Int32 → MT → Prop) : Prop :=
  q_M_noPair (p1) (p2) (u) (fun r5 u6 => (((r5) = 0 → q_M_fails_21 (r5) (((((24) : Int32)) * (p1)) + (p2)) (u6) post) ∧ (¬ (r5) = 0 → q_M_fails_21 (r5) (((0) : Int32)) (u6) post)))
set_option maxRecDepth 100000 in
theorem c_M_fails {l : Launch} {Z : ZT} {ad : Nat → Nat} {u : MT} {post : Int32 → MT → Prop} {p1 : Int32} {p2 : Int32} (hl0 : l.stackTraces = false) (h : q_M_fails p1 p2 u post) : ∀ sz, vx_Met l y_M_fails (Cond.code y_M_fails b_M_fails 6 (some .int) :: GW) rm_M_fails (pP Z [.ref (ad 0), .int (p1), .int (p2)] (cM Z ad u) sz) (pQi Z (cM Z ad) (cM Z ad u) sz post) (pX Z (cM Z ad) (cM Z ad u) sz (fun _ _ => False)) 0 0 rm_M_fails.cells rm_M_fails.slots (va_A (cM Z ad u) sz) := by
  refine g_ent (f := cM Z ad) (Qc := fun sz => pQi Z (cM Z ad) (cM Z ad u) sz post) (XC := fun sz => pX Z (cM Z ad) (cM Z ad u) sz (fun _ _ => False)) hl0 (by decide +kernel) (Nat.le_of_ble_eq_true rfl) ?_
  intro p e s m args below meth c ls C htab hw hl
  have hl : lv_has ls 6 [(0, .ref (ad 0)), (1, .int (p1)), (2, .int (p2))] := hl
  unfold q_M_fails at h
  refine lv_aload_n C.2.1 C.2.2.1 d_M_fails_0 rfl (lv_at hl 0 rfl) ?_
  refine lv_iload_n C.2.1 C.2.2.1 d_M_fails_1 rfl (lv_at hl 1 rfl) ?_
  refine lv_iload_n C.2.1 C.2.2.1 d_M_fails_2 rfl (lv_at hl 2 rfl) ?_
  refine k_M_53 C hw h ⟨Nat.le_of_ble_eq_true rfl, Nat.le_of_ble_eq_true rfl, Nat.le_of_ble_eq_true rfl, Nat.le_of_ble_eq_true rfl⟩ hl.1 (Nat.le_of_ble_eq_true rfl) d_M_fails_3 (fun r5 u6 H locs h hw => ?_)
  refine lv_istore_n (lv' := [(3, .int (r5)), (0, .ref (ad 0)), (1, .int (p1)), (2, .int (p2))]) C.2.1 C.2.2.1 d_M_fails_6 rfl hl (by decide) rfl (fun ls hl => ?_)
  refine lv_iload_n C.2.1 C.2.2.1 d_M_fails_7 rfl (lv_at hl 0 rfl) ?_
  refine lv_if_eq (tgt := 15) C.2.1 C.2.2.1 d_M_fails_8 (by decide) (fun c => ?_) (fun c => ?_)
  · have h := h.1 c
    refine lv_bipush (v := (24)) C.2.1 C.2.2.1 d_M_fails_15 (by decide) ?_
    refine lv_iload_n C.2.1 C.2.2.1 d_M_fails_17 rfl (lv_at hl 2 rfl) ?_
    refine lv_imul C.2.1 C.2.2.1 d_M_fails_18 ?_
    refine lv_iload_n C.2.1 C.2.2.1 d_M_fails_19 rfl (lv_at hl 3 rfl) ?_
    refine lv_iadd C.2.1 C.2.2.1 d_M_fails_20 ?_
    exact w_M_fails_21 C htab (r5) (((((24) : Int32)) * (p1)) + (p2)) _ _ _ _ hw (lv_sub hl [1, 0] rfl) h
  · have h := h.2 c
    refine lv_iconst (v := (0)) C.2.1 C.2.2.1 d_M_fails_11 (by decide) ?_
    refine lv_goto (tgt := 21) C.2.1 C.2.2.1 d_M_fails_12 (by decide) ?_
    exact w_M_fails_21 C htab (r5) (((0) : Int32)) _ _ _ _ hw (lv_sub hl [1, 0] rfl) h
/-! CoderTablesModel.failed()I -/
abbrev rm_M_failed : Room := { frames := 0, cells := 0, slots := 0, locals := 0 }
def q_M_failed (u : MT) (post : Int32 → MT → Prop) : Prop :=
  post (m_failures (m_code_s (u) (((0) : Int32)))) (m_code_s (u) (((0) : Int32)))
set_option maxRecDepth 100000 in
theorem c_M_failed {l : Launch} {Z : ZT} {ad : Nat → Nat} {u : MT} {post : Int32 → MT → Prop} (hl0 : l.stackTraces = false) (h : q_M_failed u post) : ∀ sz, vx_Met l y_M_failed (Cond.code y_M_failed b_M_failed 1 (some .int) :: GW) rm_M_failed (pP Z [.ref (ad 0)] (cM Z ad u) sz) (pQi Z (cM Z ad) (cM Z ad u) sz post) (pX Z (cM Z ad) (cM Z ad u) sz (fun _ _ => False)) 0 0 rm_M_failed.cells rm_M_failed.slots (va_A (cM Z ad u) sz) := by
  refine g_ent (f := cM Z ad) (Qc := fun sz => pQi Z (cM Z ad) (cM Z ad u) sz post) (XC := fun sz => pX Z (cM Z ad) (cM Z ad u) sz (fun _ _ => False)) hl0 (by decide +kernel) (Nat.le_of_ble_eq_true rfl) ?_
  intro p e s m args below meth c ls C htab hw hl
  have hl : lv_has ls 1 [(0, .ref (ad 0))] := hl
  unfold q_M_failed at h
  refine lv_aload_n C.2.1 C.2.2.1 d_M_failed_0 rfl (lv_at hl 0 rfl) ?_
  refine lv_iconst (v := (0)) C.2.1 C.2.2.1 d_M_failed_1 (by decide) ?_
  refine s_M_36 C hw d_M_failed_2 (fun H locs hw => ?_)
  refine lv_aload_n C.2.1 C.2.2.1 d_M_failed_5 rfl (lv_at hl 0 rfl) ?_
  refine r_M_67 C hw d_M_failed_6 ?_
  exact g_iret C hw rfl h d_M_failed_9
/-! CoderTablesModel.failing(II)I -/
abbrev rm_M_failing : Room := { frames := 1, cells := 0, slots := 0, locals := 21 }
def q_M_failing_31 (x1 : Int32) (x2 : Int32) (z0 : Int32) (u : MT) (post : Int32 → MT → Prop) : Prop :=
  q_M_refuses (z0) (u) (fun r1 u2 => (((r1) = 0 → ((¬ (x2) = 0 → (vp_in (x1) 192 ∧ (¬ (((24) : Int32)) = 0 ∧ post ((m_failure (u2) (x1).toNatClampNeg) - (m_failure (u2) (x1).toNatClampNeg) / (((24) : Int32)) * (((24) : Int32))) (u2)))) ∧ ((x2) = 0 → (vp_in (x1) 192 ∧ (¬ (((24) : Int32)) = 0 ∧ post ((m_failure (u2) (x1).toNatClampNeg) / (((24) : Int32))) (u2)))))) ∧ (¬ (r1) = 0 → post (((0) : Int32)) (u2))))
set_option maxRecDepth 100000 in
theorem w_M_failing_31 {p : Program} {l : Launch} {e : Env} {s : State} {m : MethodId} {args : Array Value} {below : List Frame} {meth : Method} {c : Code} {Z : ZT} {ad : Nat → Nat} {u0 : MT} {post : Int32 → MT → Prop} (C : CX "CoderTablesModel" b_M_failing 3 (some .int) Z (va_A (cM Z ad u0) s.heap.size) p l s m args meth c) (htab : ∀ x ∈ c.exceptionTable.toList, False) (x1 : Int32) (x2 : Int32) (z0 : Int32) (u : MT) (H : Heap) (locs : List Loc) (ls : Array Slot) (hw : WD Z (va_A (cM Z ad u0) s.heap.size) s (cM Z ad u) H locs) (hl : lv_has ls 3 [(0, .ref (ad 0)), (1, .int (x1)), (2, .int (x2))]) (h : q_M_failing_31 x1 x2 z0 u post) : W p l e rm_M_failing s m args below meth c H locs 0 0 (vx_MQ below (pQi Z (cM Z ad) (cM Z ad u0) s.heap.size post) (pX Z (cM Z ad) (cM Z ad u0) s.heap.size (fun _ _ => False)) args s 0 0 rm_M_failing.cells rm_M_failing.slots (va_A (cM Z ad u0) s.heap.size)) (F0 m 31 ls [.int (z0), .ref (ad 0)]) := by
  unfold q_M_failing_31 at h
  refine k_M_50 C hw h ⟨Nat.le_of_ble_eq_true rfl, Nat.le_of_ble_eq_true rfl, Nat.le_of_ble_eq_true rfl, Nat.le_of_ble_eq_true rfl⟩ hl.1 (Nat.le_of_ble_eq_true rfl) d_M_failing_31 (fun r1 u2 H locs h hw => ?_)
  refine lv_if_eq (tgt := 39) C.2.1 C.2.2.1 d_M_failing_34 (by decide) (fun c => ?_) (fun c => ?_)
  · have h := h.1 c
    refine lv_iload_n C.2.1 C.2.2.1 d_M_failing_39 rfl (lv_at hl 2 rfl) ?_
    refine lv_if_ne (tgt := 55) C.2.1 C.2.2.1 d_M_failing_40 (by decide) (fun c => ?_) (fun c => ?_)
    · have h := h.1 c
      refine lv_aload_n C.2.1 C.2.2.1 d_M_failing_55 rfl (lv_at hl 0 rfl) ?_
      refine r_M_23 C hw d_M_failing_56 ?_
      refine lv_iload_n C.2.1 C.2.2.1 d_M_failing_59 rfl (lv_at hl 1 rfl) ?_
      obtain ⟨hi, h⟩ := h
      refine al_M_5 C hw hi d_M_failing_60 ?_
      refine lv_bipush (v := (24)) C.2.1 C.2.2.1 d_M_failing_61 (by decide) ?_
      obtain ⟨h0, h⟩ := h
      refine lv_irem C.2.1 C.2.2.1 d_M_failing_63 h0 ?_
      exact g_iret C hw rfl h d_M_failing_64
    · have h := h.2 c
      refine lv_aload_n C.2.1 C.2.2.1 d_M_failing_43 rfl (lv_at hl 0 rfl) ?_
      refine r_M_23 C hw d_M_failing_44 ?_
      refine lv_iload_n C.2.1 C.2.2.1 d_M_failing_47 rfl (lv_at hl 1 rfl) ?_
      obtain ⟨hi, h⟩ := h
      refine al_M_5 C hw hi d_M_failing_48 ?_
      refine lv_bipush (v := (24)) C.2.1 C.2.2.1 d_M_failing_49 (by decide) ?_
      obtain ⟨h0, h⟩ := h
      refine lv_idiv C.2.1 C.2.2.1 d_M_failing_51 h0 ?_
      refine lv_goto (tgt := 64) C.2.1 C.2.2.1 d_M_failing_52 (by decide) ?_
      exact g_iret C hw rfl h d_M_failing_64
  · have h := h.2 c
    refine lv_iconst (v := (0)) C.2.1 C.2.2.1 d_M_failing_37 (by decide) ?_
    exact g_iret C hw rfl h d_M_failing_38
def q_M_failing_13 (x1 : Int32) (x2 : Int32) (u : MT) (post : Int32 → MT → Prop) : Prop :=
  q_M_failing_31 (x1) (x2) (((1) : Int32)) (u) post
set_option maxRecDepth 100000 in
theorem w_M_failing_13 {p : Program} {l : Launch} {e : Env} {s : State} {m : MethodId} {args : Array Value} {below : List Frame} {meth : Method} {c : Code} {Z : ZT} {ad : Nat → Nat} {u0 : MT} {post : Int32 → MT → Prop} (C : CX "CoderTablesModel" b_M_failing 3 (some .int) Z (va_A (cM Z ad u0) s.heap.size) p l s m args meth c) (htab : ∀ x ∈ c.exceptionTable.toList, False) (x1 : Int32) (x2 : Int32) (u : MT) (H : Heap) (locs : List Loc) (ls : Array Slot) (hw : WD Z (va_A (cM Z ad u0) s.heap.size) s (cM Z ad u) H locs) (hl : lv_has ls 3 [(0, .ref (ad 0)), (1, .int (x1)), (2, .int (x2))]) (h : q_M_failing_13 x1 x2 u post) : W p l e rm_M_failing s m args below meth c H locs 0 0 (vx_MQ below (pQi Z (cM Z ad) (cM Z ad u0) s.heap.size post) (pX Z (cM Z ad) (cM Z ad u0) s.heap.size (fun _ _ => False)) args s 0 0 rm_M_failing.cells rm_M_failing.slots (va_A (cM Z ad u0) s.heap.size)) (F0 m 13 ls [.ref (ad 0)]) := by
  unfold q_M_failing_13 at h
  refine lv_iconst (v := (1)) C.2.1 C.2.2.1 d_M_failing_13 (by decide) ?_
  refine lv_goto (tgt := 31) C.2.1 C.2.2.1 d_M_failing_14 (by decide) ?_
  exact w_M_failing_31 C htab (x1) (x2) (((1) : Int32)) _ _ _ _ hw (lv_sub hl [0, 1, 2] rfl) h
def q_M_failing_30 (x1 : Int32) (x2 : Int32) (u : MT) (post : Int32 → MT → Prop) : Prop :=
  q_M_failing_31 (x1) (x2) (((0) : Int32)) (u) post
set_option maxRecDepth 100000 in
theorem w_M_failing_30 {p : Program} {l : Launch} {e : Env} {s : State} {m : MethodId} {args : Array Value} {below : List Frame} {meth : Method} {c : Code} {Z : ZT} {ad : Nat → Nat} {u0 : MT} {post : Int32 → MT → Prop} (C : CX "CoderTablesModel" b_M_failing 3 (some .int) Z (va_A (cM Z ad u0) s.heap.size) p l s m args meth c) (htab : ∀ x ∈ c.exceptionTable.toList, False) (x1 : Int32) (x2 : Int32) (u : MT) (H : Heap) (locs : List Loc) (ls : Array Slot) (hw : WD Z (va_A (cM Z ad u0) s.heap.size) s (cM Z ad u) H locs) (hl : lv_has ls 3 [(0, .ref (ad 0)), (1, .int (x1)), (2, .int (x2))]) (h : q_M_failing_30 x1 x2 u post) : W p l e rm_M_failing s m args below meth c H locs 0 0 (vx_MQ below (pQi Z (cM Z ad) (cM Z ad u0) s.heap.size post) (pX Z (cM Z ad) (cM Z ad u0) s.heap.size (fun _ _ => False)) args s 0 0 rm_M_failing.cells rm_M_failing.slots (va_A (cM Z ad u0) s.heap.size)) (F0 m 30 ls [.ref (ad 0)]) := by
  unfold q_M_failing_30 at h
  refine lv_iconst (v := (0)) C.2.1 C.2.2.1 d_M_failing_30 (by decide) ?_
  exact w_M_failing_31 C htab (x1) (x2) (((0) : Int32)) _ _ _ _ hw (lv_sub hl [0, 1, 2] rfl) h
def q_M_failing (p1 : Int32) (p2 : Int32) (u : MT) (post : Int32 → MT → Prop) : Prop :=
  (((p1) < 0 → q_M_failing_13 (p1) (p2) (u) post) ∧ (¬ (p1) < 0 → (((p1) < (m_failures (u)) → (((p2) = 0 → q_M_failing_30 (p1) (p2) (u) post) ∧ (¬ (p2) = 0 → (((p2) = (((1) : Int32)) → q_M_failing_30 (p1) (p2) (u) post) ∧ (¬ (p2) = (((1) : Int32)) → q_M_failing_31 (p1) (p2) (((2) : Int32)) (u) post))))) ∧ (¬ (p1) < (m_failures (u)) → q_M_failing_13 (p1) (p2) (u) post))))
set_option maxRecDepth 100000 in
theorem c_M_failing {l : Launch} {Z : ZT} {ad : Nat → Nat} {u : MT} {post : Int32 → MT → Prop} {p1 : Int32} {p2 : Int32} (hl0 : l.stackTraces = false) (h : q_M_failing p1 p2 u post) : ∀ sz, vx_Met l y_M_failing (Cond.code y_M_failing b_M_failing 3 (some .int) :: GW) rm_M_failing (pP Z [.ref (ad 0), .int (p1), .int (p2)] (cM Z ad u) sz) (pQi Z (cM Z ad) (cM Z ad u) sz post) (pX Z (cM Z ad) (cM Z ad u) sz (fun _ _ => False)) 0 0 rm_M_failing.cells rm_M_failing.slots (va_A (cM Z ad u) sz) := by
  refine g_ent (f := cM Z ad) (Qc := fun sz => pQi Z (cM Z ad) (cM Z ad u) sz post) (XC := fun sz => pX Z (cM Z ad) (cM Z ad u) sz (fun _ _ => False)) hl0 (by decide +kernel) (Nat.le_of_ble_eq_true rfl) ?_
  intro p e s m args below meth c ls C htab hw hl
  have hl : lv_has ls 3 [(0, .ref (ad 0)), (1, .int (p1)), (2, .int (p2))] := hl
  unfold q_M_failing at h
  refine lv_aload_n C.2.1 C.2.2.1 d_M_failing_0 rfl (lv_at hl 0 rfl) ?_
  refine lv_iload_n C.2.1 C.2.2.1 d_M_failing_1 rfl (lv_at hl 1 rfl) ?_
  refine lv_if_lt (tgt := 13) C.2.1 C.2.2.1 d_M_failing_2 (by decide) (fun c => ?_) (fun c => ?_)
  · have h := h.1 c
    exact w_M_failing_13 C htab (p1) (p2) _ _ _ _ hw (lv_sub hl [0, 1, 2] rfl) h
  · have h := h.2 c
    refine lv_iload_n C.2.1 C.2.2.1 d_M_failing_5 rfl (lv_at hl 1 rfl) ?_
    refine lv_aload_n C.2.1 C.2.2.1 d_M_failing_6 rfl (lv_at hl 0 rfl) ?_
    refine r_M_67 C hw d_M_failing_7 ?_
    refine lv_icmp_lt (tgt := 17) C.2.1 C.2.2.1 d_M_failing_10 (by decide) (fun c => ?_) (fun c => ?_)
    · have h := h.1 c
      refine lv_iload_n C.2.1 C.2.2.1 d_M_failing_17 rfl (lv_at hl 2 rfl) ?_
      refine lv_if_eq (tgt := 30) C.2.1 C.2.2.1 d_M_failing_18 (by decide) (fun c => ?_) (fun c => ?_)
      · have h := h.1 c
        exact w_M_failing_30 C htab (p1) (p2) _ _ _ _ hw (lv_sub hl [0, 1, 2] rfl) h
      · have h := h.2 c
        refine lv_iload_n C.2.1 C.2.2.1 d_M_failing_21 rfl (lv_at hl 2 rfl) ?_
        refine lv_iconst (v := (1)) C.2.1 C.2.2.1 d_M_failing_22 (by decide) ?_
        refine lv_icmp_eq (tgt := 30) C.2.1 C.2.2.1 d_M_failing_23 (by decide) (fun c => ?_) (fun c => ?_)
        · have h := h.1 c
          exact w_M_failing_30 C htab (p1) (p2) _ _ _ _ hw (lv_sub hl [0, 1, 2] rfl) h
        · have h := h.2 c
          refine lv_iconst (v := (2)) C.2.1 C.2.2.1 d_M_failing_26 (by decide) ?_
          refine lv_goto (tgt := 31) C.2.1 C.2.2.1 d_M_failing_27 (by decide) ?_
          exact w_M_failing_31 C htab (p1) (p2) (((2) : Int32)) _ _ _ _ hw (lv_sub hl [0, 1, 2] rfl) h
    · have h := h.2 c
      exact w_M_failing_13 C htab (p1) (p2) _ _ _ _ hw (lv_sub hl [0, 1, 2] rfl) h
/-! CoderTablesModel.least(II)I -/
abbrev rm_M_least : Room := { frames := 1, cells := 0, slots := 0, locals := 21 }
def q_M_least_125 (K42 : Int32 → Int32 → Int32 → Int32 → Int32 → MT → Prop) (K67 : Int32 → Int32 → Int32 → Int32 → Int32 → Int32 → Int32 → MT → Prop) (x1 : Int32) (x2 : Int32) (x3 : Int32) (x4 : Int32) (x5 : Int32) (x6 : Int32) (x7 : Int32) (u : MT) (post : Int32 → MT → Prop) : Prop :=
  K67 (x1) (x2) (x3) (x4) (x5) (x6) ((x7) + 1) (u)
set_option maxRecDepth 100000 in
theorem w_M_least_125 {p : Program} {l : Launch} {e : Env} {s : State} {m : MethodId} {args : Array Value} {below : List Frame} {meth : Method} {c : Code} {Z : ZT} {ad : Nat → Nat} {u0 : MT} {post : Int32 → MT → Prop} {K42 : Int32 → Int32 → Int32 → Int32 → Int32 → MT → Prop} {K67 : Int32 → Int32 → Int32 → Int32 → Int32 → Int32 → Int32 → MT → Prop} (C : CX "CoderTablesModel" b_M_least 8 (some .int) Z (va_A (cM Z ad u0) s.heap.size) p l s m args meth c) (htab : ∀ x ∈ c.exceptionTable.toList, False) (hK42 : ∀ (x1 : Int32) (x2 : Int32) (x3 : Int32) (x4 : Int32) (x5 : Int32) (u : MT) (H : Heap) (locs : List Loc) (ls : Array Slot), K42 x1 x2 x3 x4 x5 u → WD Z (va_A (cM Z ad u0) s.heap.size) s (cM Z ad u) H locs → lv_has ls 8 [(0, .ref (ad 0)), (1, .int (x1)), (2, .int (x2)), (3, .int (x3)), (4, .int (x4)), (5, .int (x5))] → W p l e rm_M_least s m args below meth c H locs 0 0 (vx_MQ below (pQi Z (cM Z ad) (cM Z ad u0) s.heap.size post) (pX Z (cM Z ad) (cM Z ad u0) s.heap.size (fun _ _ => False)) args s 0 0 rm_M_least.cells rm_M_least.slots (va_A (cM Z ad u0) s.heap.size)) (F0 m 42 ls [])) (hK67 : ∀ (x1 : Int32) (x2 : Int32) (x3 : Int32) (x4 : Int32) (x5 : Int32) (x6 : Int32) (x7 : Int32) (u : MT) (H : Heap) (locs : List Loc) (ls : Array Slot), K67 x1 x2 x3 x4 x5 x6 x7 u → WD Z (va_A (cM Z ad u0) s.heap.size) s (cM Z ad u) H locs → lv_has ls 8 [(0, .ref (ad 0)), (1, .int (x1)), (2, .int (x2)), (3, .int (x3)), (4, .int (x4)), (5, .int (x5)), (6, .int (x6)), (7, .int (x7))] → W p l e rm_M_least s m args below meth c H locs 0 0 (vx_MQ below (pQi Z (cM Z ad) (cM Z ad u0) s.heap.size post) (pX Z (cM Z ad) (cM Z ad u0) s.heap.size (fun _ _ => False)) args s 0 0 rm_M_least.cells rm_M_least.slots (va_A (cM Z ad u0) s.heap.size)) (F0 m 67 ls [])) (x1 : Int32) (x2 : Int32) (x3 : Int32) (x4 : Int32) (x5 : Int32) (x6 : Int32) (x7 : Int32) (u : MT) (H : Heap) (locs : List Loc) (ls : Array Slot) (hw : WD Z (va_A (cM Z ad u0) s.heap.size) s (cM Z ad u) H locs) (hl : lv_has ls 8 [(0, .ref (ad 0)), (1, .int (x1)), (2, .int (x2)), (3, .int (x3)), (4, .int (x4)), (5, .int (x5)), (6, .int (x6)), (7, .int (x7))]) (h : q_M_least_125 K42 K67 x1 x2 x3 x4 x5 x6 x7 u post) : W p l e rm_M_least s m args below meth c H locs 0 0 (vx_MQ below (pQi Z (cM Z ad) (cM Z ad u0) s.heap.size post) (pX Z (cM Z ad) (cM Z ad u0) s.heap.size (fun _ _ => False)) args s 0 0 rm_M_least.cells rm_M_least.slots (va_A (cM Z ad u0) s.heap.size)) (F0 m 125 ls []) := by
  unfold q_M_least_125 at h
  refine lv_iinc (v := (x7) + 1) (lv' := [(7, .int ((x7) + 1)), (0, .ref (ad 0)), (1, .int (x1)), (2, .int (x2)), (3, .int (x3)), (4, .int (x4)), (5, .int (x5)), (6, .int (x6))]) C.2.1 C.2.2.1 d_M_least_125 hl (k := 7) rfl rfl (by decide) rfl (fun ls hl => ?_)
  refine lv_goto (tgt := 67) C.2.1 C.2.2.1 d_M_least_128 (by decide) ?_
  exact hK67 (x1) (x2) (x3) (x4) (x5) (x6) ((x7) + 1) _ _ _ _ h hw (lv_sub hl [1, 2, 3, 4, 5, 6, 7, 0] rfl)
def q_M_least_113 (K42 : Int32 → Int32 → Int32 → Int32 → Int32 → MT → Prop) (K67 : Int32 → Int32 → Int32 → Int32 → Int32 → Int32 → Int32 → MT → Prop) (x1 : Int32) (x2 : Int32) (x5 : Int32) (x6 : Int32) (x7 : Int32) (u : MT) (post : Int32 → MT → Prop) : Prop :=
  (vp_in (x7) 1152 ∧ q_M_least_125 K42 K67 (x1) (x2) (x5) (m_bytesOf (u) (x7).toNatClampNeg) (x5) (x6) (x7) (u) post)
set_option maxRecDepth 100000 in
theorem w_M_least_113 {p : Program} {l : Launch} {e : Env} {s : State} {m : MethodId} {args : Array Value} {below : List Frame} {meth : Method} {c : Code} {Z : ZT} {ad : Nat → Nat} {u0 : MT} {post : Int32 → MT → Prop} {K42 : Int32 → Int32 → Int32 → Int32 → Int32 → MT → Prop} {K67 : Int32 → Int32 → Int32 → Int32 → Int32 → Int32 → Int32 → MT → Prop} (C : CX "CoderTablesModel" b_M_least 8 (some .int) Z (va_A (cM Z ad u0) s.heap.size) p l s m args meth c) (htab : ∀ x ∈ c.exceptionTable.toList, False) (hK42 : ∀ (x1 : Int32) (x2 : Int32) (x3 : Int32) (x4 : Int32) (x5 : Int32) (u : MT) (H : Heap) (locs : List Loc) (ls : Array Slot), K42 x1 x2 x3 x4 x5 u → WD Z (va_A (cM Z ad u0) s.heap.size) s (cM Z ad u) H locs → lv_has ls 8 [(0, .ref (ad 0)), (1, .int (x1)), (2, .int (x2)), (3, .int (x3)), (4, .int (x4)), (5, .int (x5))] → W p l e rm_M_least s m args below meth c H locs 0 0 (vx_MQ below (pQi Z (cM Z ad) (cM Z ad u0) s.heap.size post) (pX Z (cM Z ad) (cM Z ad u0) s.heap.size (fun _ _ => False)) args s 0 0 rm_M_least.cells rm_M_least.slots (va_A (cM Z ad u0) s.heap.size)) (F0 m 42 ls [])) (hK67 : ∀ (x1 : Int32) (x2 : Int32) (x3 : Int32) (x4 : Int32) (x5 : Int32) (x6 : Int32) (x7 : Int32) (u : MT) (H : Heap) (locs : List Loc) (ls : Array Slot), K67 x1 x2 x3 x4 x5 x6 x7 u → WD Z (va_A (cM Z ad u0) s.heap.size) s (cM Z ad u) H locs → lv_has ls 8 [(0, .ref (ad 0)), (1, .int (x1)), (2, .int (x2)), (3, .int (x3)), (4, .int (x4)), (5, .int (x5)), (6, .int (x6)), (7, .int (x7))] → W p l e rm_M_least s m args below meth c H locs 0 0 (vx_MQ below (pQi Z (cM Z ad) (cM Z ad u0) s.heap.size post) (pX Z (cM Z ad) (cM Z ad u0) s.heap.size (fun _ _ => False)) args s 0 0 rm_M_least.cells rm_M_least.slots (va_A (cM Z ad u0) s.heap.size)) (F0 m 67 ls [])) (x1 : Int32) (x2 : Int32) (x5 : Int32) (x6 : Int32) (x7 : Int32) (u : MT) (H : Heap) (locs : List Loc) (ls : Array Slot) (hw : WD Z (va_A (cM Z ad u0) s.heap.size) s (cM Z ad u) H locs) (hl : lv_has ls 8 [(0, .ref (ad 0)), (1, .int (x1)), (2, .int (x2)), (5, .int (x5)), (6, .int (x6)), (7, .int (x7))]) (h : q_M_least_113 K42 K67 x1 x2 x5 x6 x7 u post) : W p l e rm_M_least s m args below meth c H locs 0 0 (vx_MQ below (pQi Z (cM Z ad) (cM Z ad u0) s.heap.size post) (pX Z (cM Z ad) (cM Z ad u0) s.heap.size (fun _ _ => False)) args s 0 0 rm_M_least.cells rm_M_least.slots (va_A (cM Z ad u0) s.heap.size)) (F0 m 113 ls []) := by
  unfold q_M_least_113 at h
  refine lv_iload C.2.1 C.2.2.1 d_M_least_113 (lv_at hl 3 rfl) ?_
  refine lv_istore_n (lv' := [(3, .int (x5)), (0, .ref (ad 0)), (1, .int (x1)), (2, .int (x2)), (5, .int (x5)), (6, .int (x6)), (7, .int (x7))]) C.2.1 C.2.2.1 d_M_least_115 rfl hl (by decide) rfl (fun ls hl => ?_)
  refine lv_aload_n C.2.1 C.2.2.1 d_M_least_116 rfl (lv_at hl 1 rfl) ?_
  refine r_M_17 C hw d_M_least_117 ?_
  refine lv_iload C.2.1 C.2.2.1 d_M_least_120 (lv_at hl 6 rfl) ?_
  obtain ⟨hi, h⟩ := h
  refine al_M_3 C hw hi d_M_least_122 ?_
  refine lv_istore (lv' := [(4, .int (m_bytesOf (u) (x7).toNatClampNeg)), (3, .int (x5)), (0, .ref (ad 0)), (1, .int (x1)), (2, .int (x2)), (5, .int (x5)), (6, .int (x6)), (7, .int (x7))]) C.2.1 C.2.2.1 d_M_least_123 hl (by decide) rfl (fun ls hl => ?_)
  exact w_M_least_125 C htab hK42 hK67 (x1) (x2) (x5) (m_bytesOf (u) (x7).toNatClampNeg) (x5) (x6) (x7) _ _ _ _ hw (lv_sub hl [2, 3, 4, 1, 0, 5, 6, 7] rfl) h
def q_M_least_67 (K42 : Int32 → Int32 → Int32 → Int32 → Int32 → MT → Prop) (K67 : Int32 → Int32 → Int32 → Int32 → Int32 → Int32 → Int32 → MT → Prop) (x1 : Int32) (x2 : Int32) (x3 : Int32) (x4 : Int32) (x5 : Int32) (x6 : Int32) (x7 : Int32) (u : MT) (post : Int32 → MT → Prop) : Prop :=
  (vp_in (x6) 192 ∧ (((((((6) : Int32)) * (x6)) + (m_count (u) (x6).toNatClampNeg)) ≤ (x7) → K42 (x1) (x2) (x3) (x4) ((x5) + 1) (u)) ∧ (¬ (((((6) : Int32)) * (x6)) + (m_count (u) (x6).toNatClampNeg)) ≤ (x7) → (vp_in (x7) 1152 ∧ (((x2) < (m_errorOf (u) (x7).toNatClampNeg) → q_M_least_125 K42 K67 (x1) (x2) (x3) (x4) (x5) (x6) (x7) (u) post) ∧ (¬ (x2) < (m_errorOf (u) (x7).toNatClampNeg) → (((x3) = (((-1) : Int32)) → q_M_least_113 K42 K67 (x1) (x2) (x5) (x6) (x7) (u) post) ∧ (¬ (x3) = (((-1) : Int32)) → (vp_in (x7) 1152 ∧ (((x4) ≤ (m_bytesOf (u) (x7).toNatClampNeg) → q_M_least_125 K42 K67 (x1) (x2) (x3) (x4) (x5) (x6) (x7) (u) post) ∧ (¬ (x4) ≤ (m_bytesOf (u) (x7).toNatClampNeg) → q_M_least_113 K42 K67 (x1) (x2) (x5) (x6) (x7) (u) post)))))))))))
set_option maxRecDepth 100000 in
theorem w_M_least_67 {p : Program} {l : Launch} {e : Env} {s : State} {m : MethodId} {args : Array Value} {below : List Frame} {meth : Method} {c : Code} {Z : ZT} {ad : Nat → Nat} {u0 : MT} {post : Int32 → MT → Prop} {K42 : Int32 → Int32 → Int32 → Int32 → Int32 → MT → Prop} {K67 : Int32 → Int32 → Int32 → Int32 → Int32 → Int32 → Int32 → MT → Prop} (C : CX "CoderTablesModel" b_M_least 8 (some .int) Z (va_A (cM Z ad u0) s.heap.size) p l s m args meth c) (htab : ∀ x ∈ c.exceptionTable.toList, False) (hK42 : ∀ (x1 : Int32) (x2 : Int32) (x3 : Int32) (x4 : Int32) (x5 : Int32) (u : MT) (H : Heap) (locs : List Loc) (ls : Array Slot), K42 x1 x2 x3 x4 x5 u → WD Z (va_A (cM Z ad u0) s.heap.size) s (cM Z ad u) H locs → lv_has ls 8 [(0, .ref (ad 0)), (1, .int (x1)), (2, .int (x2)), (3, .int (x3)), (4, .int (x4)), (5, .int (x5))] → W p l e rm_M_least s m args below meth c H locs 0 0 (vx_MQ below (pQi Z (cM Z ad) (cM Z ad u0) s.heap.size post) (pX Z (cM Z ad) (cM Z ad u0) s.heap.size (fun _ _ => False)) args s 0 0 rm_M_least.cells rm_M_least.slots (va_A (cM Z ad u0) s.heap.size)) (F0 m 42 ls [])) (hK67 : ∀ (x1 : Int32) (x2 : Int32) (x3 : Int32) (x4 : Int32) (x5 : Int32) (x6 : Int32) (x7 : Int32) (u : MT) (H : Heap) (locs : List Loc) (ls : Array Slot), K67 x1 x2 x3 x4 x5 x6 x7 u → WD Z (va_A (cM Z ad u0) s.heap.size) s (cM Z ad u) H locs → lv_has ls 8 [(0, .ref (ad 0)), (1, .int (x1)), (2, .int (x2)), (3, .int (x3)), (4, .int (x4)), (5, .int (x5)), (6, .int (x6)), (7, .int (x7))] → W p l e rm_M_least s m args below meth c H locs 0 0 (vx_MQ below (pQi Z (cM Z ad) (cM Z ad u0) s.heap.size post) (pX Z (cM Z ad) (cM Z ad u0) s.heap.size (fun _ _ => False)) args s 0 0 rm_M_least.cells rm_M_least.slots (va_A (cM Z ad u0) s.heap.size)) (F0 m 67 ls [])) (x1 : Int32) (x2 : Int32) (x3 : Int32) (x4 : Int32) (x5 : Int32) (x6 : Int32) (x7 : Int32) (u : MT) (H : Heap) (locs : List Loc) (ls : Array Slot) (hw : WD Z (va_A (cM Z ad u0) s.heap.size) s (cM Z ad u) H locs) (hl : lv_has ls 8 [(0, .ref (ad 0)), (1, .int (x1)), (2, .int (x2)), (3, .int (x3)), (4, .int (x4)), (5, .int (x5)), (6, .int (x6)), (7, .int (x7))]) (h : q_M_least_67 K42 K67 x1 x2 x3 x4 x5 x6 x7 u post) : W p l e rm_M_least s m args below meth c H locs 0 0 (vx_MQ below (pQi Z (cM Z ad) (cM Z ad u0) s.heap.size post) (pX Z (cM Z ad) (cM Z ad u0) s.heap.size (fun _ _ => False)) args s 0 0 rm_M_least.cells rm_M_least.slots (va_A (cM Z ad u0) s.heap.size)) (F0 m 67 ls []) := by
  unfold q_M_least_67 at h
  refine lv_iload C.2.1 C.2.2.1 d_M_least_67 (lv_at hl 7 rfl) ?_
  refine lv_bipush (v := (6)) C.2.1 C.2.2.1 d_M_least_69 (by decide) ?_
  refine lv_iload C.2.1 C.2.2.1 d_M_least_71 (lv_at hl 6 rfl) ?_
  refine lv_imul C.2.1 C.2.2.1 d_M_least_73 ?_
  refine lv_aload_n C.2.1 C.2.2.1 d_M_least_74 rfl (lv_at hl 0 rfl) ?_
  refine r_M_7 C hw d_M_least_75 ?_
  refine lv_iload C.2.1 C.2.2.1 d_M_least_78 (lv_at hl 6 rfl) ?_
  obtain ⟨hi, h⟩ := h
  refine al_M_1 C hw hi d_M_least_80 ?_
  refine lv_iadd C.2.1 C.2.2.1 d_M_least_81 ?_
  refine lv_icmp_ge (tgt := 131) C.2.1 C.2.2.1 d_M_least_82 (by decide) (fun c => ?_) (fun c => ?_)
  · have h := h.1 c
    refine lv_iinc (v := (x5) + 1) (lv' := [(5, .int ((x5) + 1)), (0, .ref (ad 0)), (1, .int (x1)), (2, .int (x2)), (3, .int (x3)), (4, .int (x4)), (6, .int (x6)), (7, .int (x7))]) C.2.1 C.2.2.1 d_M_least_131 hl (k := 5) rfl rfl (by decide) rfl (fun ls hl => ?_)
    refine lv_goto (tgt := 42) C.2.1 C.2.2.1 d_M_least_134 (by decide) ?_
    exact hK42 (x1) (x2) (x3) (x4) ((x5) + 1) _ _ _ _ h hw (lv_sub hl [1, 2, 3, 4, 5, 0] rfl)
  · have h := h.2 c
    refine lv_aload_n C.2.1 C.2.2.1 d_M_least_85 rfl (lv_at hl 0 rfl) ?_
    refine r_M_20 C hw d_M_least_86 ?_
    refine lv_iload C.2.1 C.2.2.1 d_M_least_89 (lv_at hl 7 rfl) ?_
    obtain ⟨hi, h⟩ := h
    refine al_M_4 C hw hi d_M_least_91 ?_
    refine lv_iload_n C.2.1 C.2.2.1 d_M_least_92 rfl (lv_at hl 2 rfl) ?_
    refine lv_icmp_gt (tgt := 125) C.2.1 C.2.2.1 d_M_least_93 (by decide) (fun c => ?_) (fun c => ?_)
    · have h := h.1 c
      exact w_M_least_125 C htab hK42 hK67 (x1) (x2) (x3) (x4) (x5) (x6) (x7) _ _ _ _ hw (lv_sub hl [0, 1, 2, 3, 4, 5, 6, 7] rfl) h
    · have h := h.2 c
      refine lv_iload_n C.2.1 C.2.2.1 d_M_least_96 rfl (lv_at hl 3 rfl) ?_
      refine lv_iconst (v := (-1)) C.2.1 C.2.2.1 d_M_least_97 (by decide) ?_
      refine lv_icmp_eq (tgt := 113) C.2.1 C.2.2.1 d_M_least_98 (by decide) (fun c => ?_) (fun c => ?_)
      · have h := h.1 c
        exact w_M_least_113 C htab hK42 hK67 (x1) (x2) (x5) (x6) (x7) _ _ _ _ hw (lv_sub hl [0, 1, 2, 5, 6, 7] rfl) h
      · have h := h.2 c
        refine lv_aload_n C.2.1 C.2.2.1 d_M_least_101 rfl (lv_at hl 0 rfl) ?_
        refine r_M_17 C hw d_M_least_102 ?_
        refine lv_iload C.2.1 C.2.2.1 d_M_least_105 (lv_at hl 7 rfl) ?_
        obtain ⟨hi, h⟩ := h
        refine al_M_3 C hw hi d_M_least_107 ?_
        refine lv_iload C.2.1 C.2.2.1 d_M_least_108 (lv_at hl 4 rfl) ?_
        refine lv_icmp_ge (tgt := 125) C.2.1 C.2.2.1 d_M_least_110 (by decide) (fun c => ?_) (fun c => ?_)
        · have h := h.1 c
          exact w_M_least_125 C htab hK42 hK67 (x1) (x2) (x3) (x4) (x5) (x6) (x7) _ _ _ _ hw (lv_sub hl [0, 1, 2, 3, 4, 5, 6, 7] rfl) h
        · have h := h.2 c
          exact w_M_least_113 C htab hK42 hK67 (x1) (x2) (x5) (x6) (x7) _ _ _ _ hw (lv_sub hl [0, 1, 2, 5, 6, 7] rfl) h
def q_M_least_67N (K42 : Int32 → Int32 → Int32 → Int32 → Int32 → MT → Prop) : Nat → Int32 → Int32 → Int32 → Int32 → Int32 → Int32 → Int32 → MT → (Int32 → MT → Prop) → Prop
  | 0 => fun _ _ _ _ _ _ _ _ _ => False
  | n + 1 => fun x1 x2 x3 x4 x5 x6 x7 u post => q_M_least_67 K42 (fun x1 x2 x3 x4 x5 x6 x7 u => q_M_least_67N K42 n x1 x2 x3 x4 x5 x6 x7 u post) x1 x2 x3 x4 x5 x6 x7 u post
theorem w_M_least_67N {p : Program} {l : Launch} {e : Env} {s : State} {m : MethodId} {args : Array Value} {below : List Frame} {meth : Method} {c : Code} {Z : ZT} {ad : Nat → Nat} {u0 : MT} {post : Int32 → MT → Prop} {K42 : Int32 → Int32 → Int32 → Int32 → Int32 → MT → Prop} (C : CX "CoderTablesModel" b_M_least 8 (some .int) Z (va_A (cM Z ad u0) s.heap.size) p l s m args meth c) (htab : ∀ x ∈ c.exceptionTable.toList, False) (hK42 : ∀ (x1 : Int32) (x2 : Int32) (x3 : Int32) (x4 : Int32) (x5 : Int32) (u : MT) (H : Heap) (locs : List Loc) (ls : Array Slot), K42 x1 x2 x3 x4 x5 u → WD Z (va_A (cM Z ad u0) s.heap.size) s (cM Z ad u) H locs → lv_has ls 8 [(0, .ref (ad 0)), (1, .int (x1)), (2, .int (x2)), (3, .int (x3)), (4, .int (x4)), (5, .int (x5))] → W p l e rm_M_least s m args below meth c H locs 0 0 (vx_MQ below (pQi Z (cM Z ad) (cM Z ad u0) s.heap.size post) (pX Z (cM Z ad) (cM Z ad u0) s.heap.size (fun _ _ => False)) args s 0 0 rm_M_least.cells rm_M_least.slots (va_A (cM Z ad u0) s.heap.size)) (F0 m 42 ls [])) : ∀ (n : Nat) (x1 : Int32) (x2 : Int32) (x3 : Int32) (x4 : Int32) (x5 : Int32) (x6 : Int32) (x7 : Int32) (u : MT) (H : Heap) (locs : List Loc) (ls : Array Slot), WD Z (va_A (cM Z ad u0) s.heap.size) s (cM Z ad u) H locs → lv_has ls 8 [(0, .ref (ad 0)), (1, .int (x1)), (2, .int (x2)), (3, .int (x3)), (4, .int (x4)), (5, .int (x5)), (6, .int (x6)), (7, .int (x7))] → q_M_least_67N K42 n x1 x2 x3 x4 x5 x6 x7 u post → W p l e rm_M_least s m args below meth c H locs 0 0 (vx_MQ below (pQi Z (cM Z ad) (cM Z ad u0) s.heap.size post) (pX Z (cM Z ad) (cM Z ad u0) s.heap.size (fun _ _ => False)) args s 0 0 rm_M_least.cells rm_M_least.slots (va_A (cM Z ad u0) s.heap.size)) (F0 m 67 ls []) := by
  intro n
  induction n with
  | zero => intro x1 x2 x3 x4 x5 x6 x7 u H locs ls hw hl h; exact h.elim
  | succ n ih => intro x1 x2 x3 x4 x5 x6 x7 u H locs ls hw hl h; exact w_M_least_67 C htab hK42 (fun x1 x2 x3 x4 x5 x6 x7 u H locs ls h hw hl => ih x1 x2 x3 x4 x5 x6 x7 u H locs ls hw hl h) x1 x2 x3 x4 x5 x6 x7 u H locs ls hw hl h
def q_M_least_42 (K42 : Int32 → Int32 → Int32 → Int32 → Int32 → MT → Prop) (x1 : Int32) (x2 : Int32) (x3 : Int32) (x4 : Int32) (x5 : Int32) (u : MT) (post : Int32 → MT → Prop) : Prop :=
  (((m_coders (u)) ≤ (x5) → post (x3) (u)) ∧ (¬ (m_coders (u)) ≤ (x5) → ∃ n, q_M_least_67N K42 n (x1) (x2) (x3) (x4) (x5) (((((24) : Int32)) * (x5)) + (x1)) ((((6) : Int32)) * (((((24) : Int32)) * (x5)) + (x1))) (u) post))
set_option maxRecDepth 100000 in
theorem w_M_least_42 {p : Program} {l : Launch} {e : Env} {s : State} {m : MethodId} {args : Array Value} {below : List Frame} {meth : Method} {c : Code} {Z : ZT} {ad : Nat → Nat} {u0 : MT} {post : Int32 → MT → Prop} {K42 : Int32 → Int32 → Int32 → Int32 → Int32 → MT → Prop} (C : CX "CoderTablesModel" b_M_least 8 (some .int) Z (va_A (cM Z ad u0) s.heap.size) p l s m args meth c) (htab : ∀ x ∈ c.exceptionTable.toList, False) (hK42 : ∀ (x1 : Int32) (x2 : Int32) (x3 : Int32) (x4 : Int32) (x5 : Int32) (u : MT) (H : Heap) (locs : List Loc) (ls : Array Slot), K42 x1 x2 x3 x4 x5 u → WD Z (va_A (cM Z ad u0) s.heap.size) s (cM Z ad u) H locs → lv_has ls 8 [(0, .ref (ad 0)), (1, .int (x1)), (2, .int (x2)), (3, .int (x3)), (4, .int (x4)), (5, .int (x5))] → W p l e rm_M_least s m args below meth c H locs 0 0 (vx_MQ below (pQi Z (cM Z ad) (cM Z ad u0) s.heap.size post) (pX Z (cM Z ad) (cM Z ad u0) s.heap.size (fun _ _ => False)) args s 0 0 rm_M_least.cells rm_M_least.slots (va_A (cM Z ad u0) s.heap.size)) (F0 m 42 ls [])) (x1 : Int32) (x2 : Int32) (x3 : Int32) (x4 : Int32) (x5 : Int32) (u : MT) (H : Heap) (locs : List Loc) (ls : Array Slot) (hw : WD Z (va_A (cM Z ad u0) s.heap.size) s (cM Z ad u) H locs) (hl : lv_has ls 8 [(0, .ref (ad 0)), (1, .int (x1)), (2, .int (x2)), (3, .int (x3)), (4, .int (x4)), (5, .int (x5))]) (h : q_M_least_42 K42 x1 x2 x3 x4 x5 u post) : W p l e rm_M_least s m args below meth c H locs 0 0 (vx_MQ below (pQi Z (cM Z ad) (cM Z ad u0) s.heap.size post) (pX Z (cM Z ad) (cM Z ad u0) s.heap.size (fun _ _ => False)) args s 0 0 rm_M_least.cells rm_M_least.slots (va_A (cM Z ad u0) s.heap.size)) (F0 m 42 ls []) := by
  unfold q_M_least_42 at h
  refine lv_iload C.2.1 C.2.2.1 d_M_least_42 (lv_at hl 5 rfl) ?_
  refine lv_aload_n C.2.1 C.2.2.1 d_M_least_44 rfl (lv_at hl 0 rfl) ?_
  refine r_M_40 C hw d_M_least_45 ?_
  refine lv_icmp_ge (tgt := 137) C.2.1 C.2.2.1 d_M_least_48 (by decide) (fun c => ?_) (fun c => ?_)
  · have h := h.1 c
    refine lv_iload_n C.2.1 C.2.2.1 d_M_least_137 rfl (lv_at hl 3 rfl) ?_
    exact g_iret C hw rfl h d_M_least_138
  · have h := h.2 c
    refine lv_bipush (v := (24)) C.2.1 C.2.2.1 d_M_least_51 (by decide) ?_
    refine lv_iload C.2.1 C.2.2.1 d_M_least_53 (lv_at hl 5 rfl) ?_
    refine lv_imul C.2.1 C.2.2.1 d_M_least_55 ?_
    refine lv_iload_n C.2.1 C.2.2.1 d_M_least_56 rfl (lv_at hl 1 rfl) ?_
    refine lv_iadd C.2.1 C.2.2.1 d_M_least_57 ?_
    refine lv_istore (lv' := [(6, .int (((((24) : Int32)) * (x5)) + (x1))), (0, .ref (ad 0)), (1, .int (x1)), (2, .int (x2)), (3, .int (x3)), (4, .int (x4)), (5, .int (x5))]) C.2.1 C.2.2.1 d_M_least_58 hl (by decide) rfl (fun ls hl => ?_)
    refine lv_bipush (v := (6)) C.2.1 C.2.2.1 d_M_least_60 (by decide) ?_
    refine lv_iload C.2.1 C.2.2.1 d_M_least_62 (lv_at hl 0 rfl) ?_
    refine lv_imul C.2.1 C.2.2.1 d_M_least_64 ?_
    refine lv_istore (lv' := [(7, .int ((((6) : Int32)) * (((((24) : Int32)) * (x5)) + (x1)))), (6, .int (((((24) : Int32)) * (x5)) + (x1))), (0, .ref (ad 0)), (1, .int (x1)), (2, .int (x2)), (3, .int (x3)), (4, .int (x4)), (5, .int (x5))]) C.2.1 C.2.2.1 d_M_least_65 hl (by decide) rfl (fun ls hl => ?_)
    obtain ⟨n, h⟩ := h
    exact w_M_least_67N C htab hK42 n (x1) (x2) (x3) (x4) (x5) (((((24) : Int32)) * (x5)) + (x1)) ((((6) : Int32)) * (((((24) : Int32)) * (x5)) + (x1))) _ _ _ _ hw (lv_sub hl [2, 3, 4, 5, 6, 7, 1, 0] rfl) h
def q_M_least_42N : Nat → Int32 → Int32 → Int32 → Int32 → Int32 → MT → (Int32 → MT → Prop) → Prop
  | 0 => fun _ _ _ _ _ _ _ => False
  | n + 1 => fun x1 x2 x3 x4 x5 u post => q_M_least_42 (fun x1 x2 x3 x4 x5 u => q_M_least_42N n x1 x2 x3 x4 x5 u post) x1 x2 x3 x4 x5 u post
theorem w_M_least_42N {p : Program} {l : Launch} {e : Env} {s : State} {m : MethodId} {args : Array Value} {below : List Frame} {meth : Method} {c : Code} {Z : ZT} {ad : Nat → Nat} {u0 : MT} {post : Int32 → MT → Prop} (C : CX "CoderTablesModel" b_M_least 8 (some .int) Z (va_A (cM Z ad u0) s.heap.size) p l s m args meth c) (htab : ∀ x ∈ c.exceptionTable.toList, False) : ∀ (n : Nat) (x1 : Int32) (x2 : Int32) (x3 : Int32) (x4 : Int32) (x5 : Int32) (u : MT) (H : Heap) (locs : List Loc) (ls : Array Slot), WD Z (va_A (cM Z ad u0) s.heap.size) s (cM Z ad u) H locs → lv_has ls 8 [(0, .ref (ad 0)), (1, .int (x1)), (2, .int (x2)), (3, .int (x3)), (4, .int (x4)), (5, .int (x5))] → q_M_least_42N n x1 x2 x3 x4 x5 u post → W p l e rm_M_least s m args below meth c H locs 0 0 (vx_MQ below (pQi Z (cM Z ad) (cM Z ad u0) s.heap.size post) (pX Z (cM Z ad) (cM Z ad u0) s.heap.size (fun _ _ => False)) args s 0 0 rm_M_least.cells rm_M_least.slots (va_A (cM Z ad u0) s.heap.size)) (F0 m 42 ls []) := by
  intro n
  induction n with
  | zero => intro x1 x2 x3 x4 x5 u H locs ls hw hl h; exact h.elim
  | succ n ih => intro x1 x2 x3 x4 x5 u H locs ls hw hl h; exact w_M_least_42 C htab (fun x1 x2 x3 x4 x5 u H locs ls h hw hl => ih x1 x2 x3 x4 x5 u H locs ls hw hl h) x1 x2 x3 x4 x5 u H locs ls hw hl h
def q_M_least_26 (x1 : Int32) (x2 : Int32) (z0 : Int32) (u : MT) (post : Int32 → MT → Prop) : Prop :=
  q_M_refuses (z0) (u) (fun r1 u2 => (((r1) = 0 → ∃ n, q_M_least_42N n (x1) (x2) (((-1) : Int32)) (((0) : Int32)) (((0) : Int32)) (u2) post) ∧ (¬ (r1) = 0 → post (((0) : Int32)) (u2))))
set_option maxRecDepth 100000 in
theorem w_M_least_26 {p : Program} {l : Launch} {e : Env} {s : State} {m : MethodId} {args : Array Value} {below : List Frame} {meth : Method} {c : Code} {Z : ZT} {ad : Nat → Nat} {u0 : MT} {post : Int32 → MT → Prop} (C : CX "CoderTablesModel" b_M_least 8 (some .int) Z (va_A (cM Z ad u0) s.heap.size) p l s m args meth c) (htab : ∀ x ∈ c.exceptionTable.toList, False) (x1 : Int32) (x2 : Int32) (z0 : Int32) (u : MT) (H : Heap) (locs : List Loc) (ls : Array Slot) (hw : WD Z (va_A (cM Z ad u0) s.heap.size) s (cM Z ad u) H locs) (hl : lv_has ls 8 [(0, .ref (ad 0)), (1, .int (x1)), (2, .int (x2))]) (h : q_M_least_26 x1 x2 z0 u post) : W p l e rm_M_least s m args below meth c H locs 0 0 (vx_MQ below (pQi Z (cM Z ad) (cM Z ad u0) s.heap.size post) (pX Z (cM Z ad) (cM Z ad u0) s.heap.size (fun _ _ => False)) args s 0 0 rm_M_least.cells rm_M_least.slots (va_A (cM Z ad u0) s.heap.size)) (F0 m 26 ls [.int (z0), .ref (ad 0)]) := by
  unfold q_M_least_26 at h
  refine k_M_50 C hw h ⟨Nat.le_of_ble_eq_true rfl, Nat.le_of_ble_eq_true rfl, Nat.le_of_ble_eq_true rfl, Nat.le_of_ble_eq_true rfl⟩ hl.1 (Nat.le_of_ble_eq_true rfl) d_M_least_26 (fun r1 u2 H locs h hw => ?_)
  refine lv_if_eq (tgt := 34) C.2.1 C.2.2.1 d_M_least_29 (by decide) (fun c => ?_) (fun c => ?_)
  · have h := h.1 c
    refine lv_iconst (v := (-1)) C.2.1 C.2.2.1 d_M_least_34 (by decide) ?_
    refine lv_istore_n (lv' := [(3, .int (((-1) : Int32))), (0, .ref (ad 0)), (1, .int (x1)), (2, .int (x2))]) C.2.1 C.2.2.1 d_M_least_35 rfl hl (by decide) rfl (fun ls hl => ?_)
    refine lv_iconst (v := (0)) C.2.1 C.2.2.1 d_M_least_36 (by decide) ?_
    refine lv_istore (lv' := [(4, .int (((0) : Int32))), (3, .int (((-1) : Int32))), (0, .ref (ad 0)), (1, .int (x1)), (2, .int (x2))]) C.2.1 C.2.2.1 d_M_least_37 hl (by decide) rfl (fun ls hl => ?_)
    refine lv_iconst (v := (0)) C.2.1 C.2.2.1 d_M_least_39 (by decide) ?_
    refine lv_istore (lv' := [(5, .int (((0) : Int32))), (4, .int (((0) : Int32))), (3, .int (((-1) : Int32))), (0, .ref (ad 0)), (1, .int (x1)), (2, .int (x2))]) C.2.1 C.2.2.1 d_M_least_40 hl (by decide) rfl (fun ls hl => ?_)
    obtain ⟨n, h⟩ := h
    exact w_M_least_42N C htab n (x1) (x2) (((-1) : Int32)) (((0) : Int32)) (((0) : Int32)) _ _ _ _ hw (lv_sub hl [3, 4, 5, 2, 1, 0] rfl) h
  · have h := h.2 c
    refine lv_iconst (v := (0)) C.2.1 C.2.2.1 d_M_least_32 (by decide) ?_
    exact g_iret C hw rfl h d_M_least_33
def q_M_least_13 (x1 : Int32) (x2 : Int32) (u : MT) (post : Int32 → MT → Prop) : Prop :=
  q_M_least_26 (x1) (x2) (((1) : Int32)) (u) post
set_option maxRecDepth 100000 in
theorem w_M_least_13 {p : Program} {l : Launch} {e : Env} {s : State} {m : MethodId} {args : Array Value} {below : List Frame} {meth : Method} {c : Code} {Z : ZT} {ad : Nat → Nat} {u0 : MT} {post : Int32 → MT → Prop} (C : CX "CoderTablesModel" b_M_least 8 (some .int) Z (va_A (cM Z ad u0) s.heap.size) p l s m args meth c) (htab : ∀ x ∈ c.exceptionTable.toList, False) (x1 : Int32) (x2 : Int32) (u : MT) (H : Heap) (locs : List Loc) (ls : Array Slot) (hw : WD Z (va_A (cM Z ad u0) s.heap.size) s (cM Z ad u) H locs) (hl : lv_has ls 8 [(0, .ref (ad 0)), (1, .int (x1)), (2, .int (x2))]) (h : q_M_least_13 x1 x2 u post) : W p l e rm_M_least s m args below meth c H locs 0 0 (vx_MQ below (pQi Z (cM Z ad) (cM Z ad u0) s.heap.size post) (pX Z (cM Z ad) (cM Z ad u0) s.heap.size (fun _ _ => False)) args s 0 0 rm_M_least.cells rm_M_least.slots (va_A (cM Z ad u0) s.heap.size)) (F0 m 13 ls [.ref (ad 0)]) := by
  unfold q_M_least_13 at h
  refine lv_iconst (v := (1)) C.2.1 C.2.2.1 d_M_least_13 (by decide) ?_
  refine lv_goto (tgt := 26) C.2.1 C.2.2.1 d_M_least_14 (by decide) ?_
  exact w_M_least_26 C htab (x1) (x2) (((1) : Int32)) _ _ _ _ hw (lv_sub hl [0, 1, 2] rfl) h
def q_M_least (p1 : Int32) (p2 : Int32) (u : MT) (post : Int32 → MT → Prop) : Prop :=
  (((p1) < 0 → q_M_least_13 (p1) (p2) (u) post) ∧ (¬ (p1) < 0 → (((p1) < (m_pictures (u)) → ((0 ≤ (p2) → q_M_least_26 (p1) (p2) (((0) : Int32)) (u) post) ∧ (¬ 0 ≤ (p2) → q_M_least_26 (p1) (p2) (((2) : Int32)) (u) post))) ∧ (¬ (p1) < (m_pictures (u)) → q_M_least_13 (p1) (p2) (u) post))))
set_option maxRecDepth 100000 in
theorem c_M_least {l : Launch} {Z : ZT} {ad : Nat → Nat} {u : MT} {post : Int32 → MT → Prop} {p1 : Int32} {p2 : Int32} (hl0 : l.stackTraces = false) (h : q_M_least p1 p2 u post) : ∀ sz, vx_Met l y_M_least (Cond.code y_M_least b_M_least 8 (some .int) :: GW) rm_M_least (pP Z [.ref (ad 0), .int (p1), .int (p2)] (cM Z ad u) sz) (pQi Z (cM Z ad) (cM Z ad u) sz post) (pX Z (cM Z ad) (cM Z ad u) sz (fun _ _ => False)) 0 0 rm_M_least.cells rm_M_least.slots (va_A (cM Z ad u) sz) := by
  refine g_ent (f := cM Z ad) (Qc := fun sz => pQi Z (cM Z ad) (cM Z ad u) sz post) (XC := fun sz => pX Z (cM Z ad) (cM Z ad u) sz (fun _ _ => False)) hl0 (by decide +kernel) (Nat.le_of_ble_eq_true rfl) ?_
  intro p e s m args below meth c ls C htab hw hl
  have hl : lv_has ls 8 [(0, .ref (ad 0)), (1, .int (p1)), (2, .int (p2))] := hl
  unfold q_M_least at h
  refine lv_aload_n C.2.1 C.2.2.1 d_M_least_0 rfl (lv_at hl 0 rfl) ?_
  refine lv_iload_n C.2.1 C.2.2.1 d_M_least_1 rfl (lv_at hl 1 rfl) ?_
  refine lv_if_lt (tgt := 13) C.2.1 C.2.2.1 d_M_least_2 (by decide) (fun c => ?_) (fun c => ?_)
  · have h := h.1 c
    exact w_M_least_13 C htab (p1) (p2) _ _ _ _ hw (lv_sub hl [0, 1, 2] rfl) h
  · have h := h.2 c
    refine lv_iload_n C.2.1 C.2.2.1 d_M_least_5 rfl (lv_at hl 1 rfl) ?_
    refine lv_aload_n C.2.1 C.2.2.1 d_M_least_6 rfl (lv_at hl 0 rfl) ?_
    refine r_M_47 C hw d_M_least_7 ?_
    refine lv_icmp_lt (tgt := 17) C.2.1 C.2.2.1 d_M_least_10 (by decide) (fun c => ?_) (fun c => ?_)
    · have h := h.1 c
      refine lv_iload_n C.2.1 C.2.2.1 d_M_least_17 rfl (lv_at hl 2 rfl) ?_
      refine lv_if_ge (tgt := 25) C.2.1 C.2.2.1 d_M_least_18 (by decide) (fun c => ?_) (fun c => ?_)
      · have h := h.1 c
        refine lv_iconst (v := (0)) C.2.1 C.2.2.1 d_M_least_25 (by decide) ?_
        exact w_M_least_26 C htab (p1) (p2) (((0) : Int32)) _ _ _ _ hw (lv_sub hl [0, 1, 2] rfl) h
      · have h := h.2 c
        refine lv_iconst (v := (2)) C.2.1 C.2.2.1 d_M_least_21 (by decide) ?_
        refine lv_goto (tgt := 26) C.2.1 C.2.2.1 d_M_least_22 (by decide) ?_
        exact w_M_least_26 C htab (p1) (p2) (((2) : Int32)) _ _ _ _ hw (lv_sub hl [0, 1, 2] rfl) h
    · have h := h.2 c
      exact w_M_least_13 C htab (p1) (p2) _ _ _ _ hw (lv_sub hl [0, 1, 2] rfl) h
/-! CoderTablesModel.bytes(I)I -/
abbrev rm_M_bytes : Room := { frames := 0, cells := 0, slots := 0, locals := 0 }
def q_M_bytes_47 (K12 : Int32 → Int32 → Int32 → MT → Prop) (x1 : Int32) (x3 : Int32) (z0 : Int32) (u : MT) (post : Int32 → MT → Prop) : Prop :=
  K12 (x1) (z0) ((x3) + 1) (u)
set_option maxRecDepth 100000 in
theorem w_M_bytes_47 {p : Program} {l : Launch} {e : Env} {s : State} {m : MethodId} {args : Array Value} {below : List Frame} {meth : Method} {c : Code} {Z : ZT} {ad : Nat → Nat} {u0 : MT} {post : Int32 → MT → Prop} {K12 : Int32 → Int32 → Int32 → MT → Prop} (C : CX "CoderTablesModel" b_M_bytes 5 (some .int) Z (va_A (cM Z ad u0) s.heap.size) p l s m args meth c) (htab : ∀ x ∈ c.exceptionTable.toList, False) (hK12 : ∀ (x1 : Int32) (x2 : Int32) (x3 : Int32) (u : MT) (H : Heap) (locs : List Loc) (ls : Array Slot), K12 x1 x2 x3 u → WD Z (va_A (cM Z ad u0) s.heap.size) s (cM Z ad u) H locs → lv_has ls 5 [(0, .ref (ad 0)), (1, .int (x1)), (2, .int (x2)), (3, .int (x3))] → W p l e rm_M_bytes s m args below meth c H locs 0 0 (vx_MQ below (pQi Z (cM Z ad) (cM Z ad u0) s.heap.size post) (pX Z (cM Z ad) (cM Z ad u0) s.heap.size (fun _ _ => False)) args s 0 0 rm_M_bytes.cells rm_M_bytes.slots (va_A (cM Z ad u0) s.heap.size)) (F0 m 12 ls [])) (x1 : Int32) (x3 : Int32) (z0 : Int32) (u : MT) (H : Heap) (locs : List Loc) (ls : Array Slot) (hw : WD Z (va_A (cM Z ad u0) s.heap.size) s (cM Z ad u) H locs) (hl : lv_has ls 5 [(0, .ref (ad 0)), (1, .int (x1)), (3, .int (x3))]) (h : q_M_bytes_47 K12 x1 x3 z0 u post) : W p l e rm_M_bytes s m args below meth c H locs 0 0 (vx_MQ below (pQi Z (cM Z ad) (cM Z ad u0) s.heap.size post) (pX Z (cM Z ad) (cM Z ad u0) s.heap.size (fun _ _ => False)) args s 0 0 rm_M_bytes.cells rm_M_bytes.slots (va_A (cM Z ad u0) s.heap.size)) (F0 m 47 ls [.int (z0)]) := by
  unfold q_M_bytes_47 at h
  refine lv_istore_n (lv' := [(2, .int (z0)), (0, .ref (ad 0)), (1, .int (x1)), (3, .int (x3))]) C.2.1 C.2.2.1 d_M_bytes_47 rfl hl (by decide) rfl (fun ls hl => ?_)
  refine lv_iinc (v := (x3) + 1) (lv' := [(3, .int ((x3) + 1)), (2, .int (z0)), (0, .ref (ad 0)), (1, .int (x1))]) C.2.1 C.2.2.1 d_M_bytes_48 hl (k := 3) rfl rfl (by decide) rfl (fun ls hl => ?_)
  refine lv_goto (tgt := 12) C.2.1 C.2.2.1 d_M_bytes_51 (by decide) ?_
  exact hK12 (x1) (z0) ((x3) + 1) _ _ _ _ h hw (lv_sub hl [2, 3, 1, 0] rfl)
def q_M_bytes_12 (K12 : Int32 → Int32 → Int32 → MT → Prop) (x1 : Int32) (x2 : Int32) (x3 : Int32) (u : MT) (post : Int32 → MT → Prop) : Prop :=
  (vp_in (x1) 192 ∧ (((m_count (u) (x1).toNatClampNeg) ≤ (x3) → post (x2) (u)) ∧ (¬ (m_count (u) (x1).toNatClampNeg) ≤ (x3) → (vp_in (((((6) : Int32)) * (x1)) + (x3)) 1152 ∧ (((x2) ≤ (m_bytesOf (u) (((((6) : Int32)) * (x1)) + (x3)).toNatClampNeg) → q_M_bytes_47 K12 (x1) (x3) (x2) (u) post) ∧ (¬ (x2) ≤ (m_bytesOf (u) (((((6) : Int32)) * (x1)) + (x3)).toNatClampNeg) → q_M_bytes_47 K12 (x1) (x3) (m_bytesOf (u) (((((6) : Int32)) * (x1)) + (x3)).toNatClampNeg) (u) post))))))
set_option maxRecDepth 100000 in
theorem w_M_bytes_12 {p : Program} {l : Launch} {e : Env} {s : State} {m : MethodId} {args : Array Value} {below : List Frame} {meth : Method} {c : Code} {Z : ZT} {ad : Nat → Nat} {u0 : MT} {post : Int32 → MT → Prop} {K12 : Int32 → Int32 → Int32 → MT → Prop} (C : CX "CoderTablesModel" b_M_bytes 5 (some .int) Z (va_A (cM Z ad u0) s.heap.size) p l s m args meth c) (htab : ∀ x ∈ c.exceptionTable.toList, False) (hK12 : ∀ (x1 : Int32) (x2 : Int32) (x3 : Int32) (u : MT) (H : Heap) (locs : List Loc) (ls : Array Slot), K12 x1 x2 x3 u → WD Z (va_A (cM Z ad u0) s.heap.size) s (cM Z ad u) H locs → lv_has ls 5 [(0, .ref (ad 0)), (1, .int (x1)), (2, .int (x2)), (3, .int (x3))] → W p l e rm_M_bytes s m args below meth c H locs 0 0 (vx_MQ below (pQi Z (cM Z ad) (cM Z ad u0) s.heap.size post) (pX Z (cM Z ad) (cM Z ad u0) s.heap.size (fun _ _ => False)) args s 0 0 rm_M_bytes.cells rm_M_bytes.slots (va_A (cM Z ad u0) s.heap.size)) (F0 m 12 ls [])) (x1 : Int32) (x2 : Int32) (x3 : Int32) (u : MT) (H : Heap) (locs : List Loc) (ls : Array Slot) (hw : WD Z (va_A (cM Z ad u0) s.heap.size) s (cM Z ad u) H locs) (hl : lv_has ls 5 [(0, .ref (ad 0)), (1, .int (x1)), (2, .int (x2)), (3, .int (x3))]) (h : q_M_bytes_12 K12 x1 x2 x3 u post) : W p l e rm_M_bytes s m args below meth c H locs 0 0 (vx_MQ below (pQi Z (cM Z ad) (cM Z ad u0) s.heap.size post) (pX Z (cM Z ad) (cM Z ad u0) s.heap.size (fun _ _ => False)) args s 0 0 rm_M_bytes.cells rm_M_bytes.slots (va_A (cM Z ad u0) s.heap.size)) (F0 m 12 ls []) := by
  unfold q_M_bytes_12 at h
  refine lv_iload_n C.2.1 C.2.2.1 d_M_bytes_12 rfl (lv_at hl 3 rfl) ?_
  refine lv_aload_n C.2.1 C.2.2.1 d_M_bytes_13 rfl (lv_at hl 0 rfl) ?_
  refine r_M_7 C hw d_M_bytes_14 ?_
  refine lv_iload_n C.2.1 C.2.2.1 d_M_bytes_17 rfl (lv_at hl 1 rfl) ?_
  obtain ⟨hi, h⟩ := h
  refine al_M_1 C hw hi d_M_bytes_18 ?_
  refine lv_icmp_ge (tgt := 54) C.2.1 C.2.2.1 d_M_bytes_19 (by decide) (fun c => ?_) (fun c => ?_)
  · have h := h.1 c
    refine lv_iload_n C.2.1 C.2.2.1 d_M_bytes_54 rfl (lv_at hl 2 rfl) ?_
    exact g_iret C hw rfl h d_M_bytes_55
  · have h := h.2 c
    refine lv_aload_n C.2.1 C.2.2.1 d_M_bytes_22 rfl (lv_at hl 0 rfl) ?_
    refine r_M_17 C hw d_M_bytes_23 ?_
    refine lv_bipush (v := (6)) C.2.1 C.2.2.1 d_M_bytes_26 (by decide) ?_
    refine lv_iload_n C.2.1 C.2.2.1 d_M_bytes_28 rfl (lv_at hl 1 rfl) ?_
    refine lv_imul C.2.1 C.2.2.1 d_M_bytes_29 ?_
    refine lv_iload_n C.2.1 C.2.2.1 d_M_bytes_30 rfl (lv_at hl 3 rfl) ?_
    refine lv_iadd C.2.1 C.2.2.1 d_M_bytes_31 ?_
    obtain ⟨hi, h⟩ := h
    refine al_M_3 C hw hi d_M_bytes_32 ?_
    refine lv_istore (lv' := [(4, .int (m_bytesOf (u) (((((6) : Int32)) * (x1)) + (x3)).toNatClampNeg)), (0, .ref (ad 0)), (1, .int (x1)), (2, .int (x2)), (3, .int (x3))]) C.2.1 C.2.2.1 d_M_bytes_33 hl (by decide) rfl (fun ls hl => ?_)
    refine lv_iload C.2.1 C.2.2.1 d_M_bytes_35 (lv_at hl 0 rfl) ?_
    refine lv_iload_n C.2.1 C.2.2.1 d_M_bytes_37 rfl (lv_at hl 3 rfl) ?_
    refine lv_icmp_ge (tgt := 46) C.2.1 C.2.2.1 d_M_bytes_38 (by decide) (fun c => ?_) (fun c => ?_)
    · have h := h.1 c
      refine lv_iload_n C.2.1 C.2.2.1 d_M_bytes_46 rfl (lv_at hl 3 rfl) ?_
      exact w_M_bytes_47 C htab hK12 (x1) (x3) (x2) _ _ _ _ hw (lv_sub hl [1, 2, 4] rfl) h
    · have h := h.2 c
      refine lv_iload C.2.1 C.2.2.1 d_M_bytes_41 (lv_at hl 0 rfl) ?_
      refine lv_goto (tgt := 47) C.2.1 C.2.2.1 d_M_bytes_43 (by decide) ?_
      exact w_M_bytes_47 C htab hK12 (x1) (x3) (m_bytesOf (u) (((((6) : Int32)) * (x1)) + (x3)).toNatClampNeg) _ _ _ _ hw (lv_sub hl [1, 2, 4] rfl) h
def q_M_bytes_12N : Nat → Int32 → Int32 → Int32 → MT → (Int32 → MT → Prop) → Prop
  | 0 => fun _ _ _ _ _ => False
  | n + 1 => fun x1 x2 x3 u post => q_M_bytes_12 (fun x1 x2 x3 u => q_M_bytes_12N n x1 x2 x3 u post) x1 x2 x3 u post
theorem w_M_bytes_12N {p : Program} {l : Launch} {e : Env} {s : State} {m : MethodId} {args : Array Value} {below : List Frame} {meth : Method} {c : Code} {Z : ZT} {ad : Nat → Nat} {u0 : MT} {post : Int32 → MT → Prop} (C : CX "CoderTablesModel" b_M_bytes 5 (some .int) Z (va_A (cM Z ad u0) s.heap.size) p l s m args meth c) (htab : ∀ x ∈ c.exceptionTable.toList, False) : ∀ (n : Nat) (x1 : Int32) (x2 : Int32) (x3 : Int32) (u : MT) (H : Heap) (locs : List Loc) (ls : Array Slot), WD Z (va_A (cM Z ad u0) s.heap.size) s (cM Z ad u) H locs → lv_has ls 5 [(0, .ref (ad 0)), (1, .int (x1)), (2, .int (x2)), (3, .int (x3))] → q_M_bytes_12N n x1 x2 x3 u post → W p l e rm_M_bytes s m args below meth c H locs 0 0 (vx_MQ below (pQi Z (cM Z ad) (cM Z ad u0) s.heap.size post) (pX Z (cM Z ad) (cM Z ad u0) s.heap.size (fun _ _ => False)) args s 0 0 rm_M_bytes.cells rm_M_bytes.slots (va_A (cM Z ad u0) s.heap.size)) (F0 m 12 ls []) := by
  intro n
  induction n with
  | zero => intro x1 x2 x3 u H locs ls hw hl h; exact h.elim
  | succ n ih => intro x1 x2 x3 u H locs ls hw hl h; exact w_M_bytes_12 C htab (fun x1 x2 x3 u H locs ls h hw hl => ih x1 x2 x3 u H locs ls hw hl h) x1 x2 x3 u H locs ls hw hl h
def q_M_bytes (p1 : Int32) (u : MT) (post : Int32 → MT → Prop) : Prop :=
  (vp_in ((((6) : Int32)) * (p1)) 1152 ∧ ∃ n, q_M_bytes_12N n (p1) (m_bytesOf (u) ((((6) : Int32)) * (p1)).toNatClampNeg) (((1) : Int32)) (u) post)
set_option maxRecDepth 100000 in
theorem c_M_bytes {l : Launch} {Z : ZT} {ad : Nat → Nat} {u : MT} {post : Int32 → MT → Prop} {p1 : Int32} (hl0 : l.stackTraces = false) (h : q_M_bytes p1 u post) : ∀ sz, vx_Met l y_M_bytes (Cond.code y_M_bytes b_M_bytes 5 (some .int) :: GW) rm_M_bytes (pP Z [.ref (ad 0), .int (p1)] (cM Z ad u) sz) (pQi Z (cM Z ad) (cM Z ad u) sz post) (pX Z (cM Z ad) (cM Z ad u) sz (fun _ _ => False)) 0 0 rm_M_bytes.cells rm_M_bytes.slots (va_A (cM Z ad u) sz) := by
  refine g_ent (f := cM Z ad) (Qc := fun sz => pQi Z (cM Z ad) (cM Z ad u) sz post) (XC := fun sz => pX Z (cM Z ad) (cM Z ad u) sz (fun _ _ => False)) hl0 (by decide +kernel) (Nat.le_of_ble_eq_true rfl) ?_
  intro p e s m args below meth c ls C htab hw hl
  have hl : lv_has ls 5 [(0, .ref (ad 0)), (1, .int (p1))] := hl
  unfold q_M_bytes at h
  refine lv_aload_n C.2.1 C.2.2.1 d_M_bytes_0 rfl (lv_at hl 0 rfl) ?_
  refine r_M_17 C hw d_M_bytes_1 ?_
  refine lv_bipush (v := (6)) C.2.1 C.2.2.1 d_M_bytes_4 (by decide) ?_
  refine lv_iload_n C.2.1 C.2.2.1 d_M_bytes_6 rfl (lv_at hl 1 rfl) ?_
  refine lv_imul C.2.1 C.2.2.1 d_M_bytes_7 ?_
  obtain ⟨hi, h⟩ := h
  refine al_M_3 C hw hi d_M_bytes_8 ?_
  refine lv_istore_n (lv' := [(2, .int (m_bytesOf (u) ((((6) : Int32)) * (p1)).toNatClampNeg)), (0, .ref (ad 0)), (1, .int (p1))]) C.2.1 C.2.2.1 d_M_bytes_9 rfl hl (by decide) rfl (fun ls hl => ?_)
  refine lv_iconst (v := (1)) C.2.1 C.2.2.1 d_M_bytes_10 (by decide) ?_
  refine lv_istore_n (lv' := [(3, .int (((1) : Int32))), (2, .int (m_bytesOf (u) ((((6) : Int32)) * (p1)).toNatClampNeg)), (0, .ref (ad 0)), (1, .int (p1))]) C.2.1 C.2.2.1 d_M_bytes_11 rfl hl (by decide) rfl (fun ls hl => ?_)
  obtain ⟨n, h⟩ := h
  exact w_M_bytes_12N C htab n (p1) (m_bytesOf (u) ((((6) : Int32)) * (p1)).toNatClampNeg) (((1) : Int32)) _ _ _ _ hw (lv_sub hl [2, 3, 1, 0] rfl) h
section KR
variable {own host : String} {cc bytes : ByteArray} {nL maxL index n : Nat} {rt0 rt : Option FieldType} {Z : ZT} {ad : Nat → Nat} {A : Nat → Prop}
variable {p : Program} {l : Launch} {e : Env} {R : Room} {s : State} {m : MethodId} {args : Array Value} {below : List Frame} {meth : Method} {c : Code} {H : Heap} {locs : List Loc} {cells slots : Nat} {Q : State → Prop} {rest : List Value} {pc : Nat} {ls : Array Slot}
theorem k_M_74 {u : MT} {p1 : Int32} {post : Int32 → MT → Prop} (C : CX "CoderTablesModel" cc nL rt0 Z A p l s m args meth c) (hw : WD Z A s (cM Z ad u) H locs) (h : q_M_bytes p1 u post) (hR : rmOk rm_M_bytes 5 R cells slots) (hl : ls.size = nL) (hW : (rest.map fun v => v.category).sum ≤ 8) (hdg : decode cc pc = .ok (.invokevirtual 74, 3)) (kk : ∀ (r : Int32) (u' : MT) (H1 : Heap) (locs1 : List Loc), post r u' → WD Z A s (cM Z ad u') H1 locs1 → W p l e R s m args below meth c H1 locs1 cells slots Q (F0 m (pc + 3) ls (.int r :: rest))) : W p l e R s m args below meth c H locs cells slots Q (F0 m pc ls (.int (p1) :: .ref (ad 0) :: rest)) :=
  g_V0_i (n := 1) (f := cM Z ad) (As := [.int (p1)]) C hw (c_M_bytes C.1 h) ⟨w672, w674, w38, w56, w675, (by decide +kernel), (by decide +kernel), (by decide +kernel)⟩ hR 0 rfl rfl rfl hl rfl hW hdg (fun _ _ _ _ _ _ h => h.elim) kk
end KR
/-! CoderTablesModel.sumOf(I)J -/
abbrev rm_M_sumOf : Room := { frames := 1, cells := 0, slots := 0, locals := 24 }
def q_M_sumOf_46 (K5 : Int32 → Int64 → Int32 → MT → Prop) (x1 : Int32) (x4 : Int32) (z0 : Int64) (z1 : Int64) (u : MT) (post : Int64 → MT → Prop) : Prop :=
  K5 (x1) ((z1) + (z0)) ((x4) + 1) (u)
set_option maxRecDepth 100000 in
theorem w_M_sumOf_46 {p : Program} {l : Launch} {e : Env} {s : State} {m : MethodId} {args : Array Value} {below : List Frame} {meth : Method} {c : Code} {Z : ZT} {ad : Nat → Nat} {u0 : MT} {post : Int64 → MT → Prop} {K5 : Int32 → Int64 → Int32 → MT → Prop} (C : CX "CoderTablesModel" b_M_sumOf 5 (some .long) Z (va_A (cM Z ad u0) s.heap.size) p l s m args meth c) (htab : ∀ x ∈ c.exceptionTable.toList, False) (hK5 : ∀ (x1 : Int32) (x2 : Int64) (x4 : Int32) (u : MT) (H : Heap) (locs : List Loc) (ls : Array Slot), K5 x1 x2 x4 u → WD Z (va_A (cM Z ad u0) s.heap.size) s (cM Z ad u) H locs → lv_has ls 5 [(0, .ref (ad 0)), (1, .int (x1)), (2, .long (x2)), (4, .int (x4))] → W p l e rm_M_sumOf s m args below meth c H locs 0 0 (vx_MQ below (pQl Z (cM Z ad) (cM Z ad u0) s.heap.size post) (pX Z (cM Z ad) (cM Z ad u0) s.heap.size (fun _ _ => False)) args s 0 0 rm_M_sumOf.cells rm_M_sumOf.slots (va_A (cM Z ad u0) s.heap.size)) (F0 m 5 ls [])) (x1 : Int32) (x4 : Int32) (z0 : Int64) (z1 : Int64) (u : MT) (H : Heap) (locs : List Loc) (ls : Array Slot) (hw : WD Z (va_A (cM Z ad u0) s.heap.size) s (cM Z ad u) H locs) (hl : lv_has ls 5 [(0, .ref (ad 0)), (1, .int (x1)), (4, .int (x4))]) (h : q_M_sumOf_46 K5 x1 x4 z0 z1 u post) : W p l e rm_M_sumOf s m args below meth c H locs 0 0 (vx_MQ below (pQl Z (cM Z ad) (cM Z ad u0) s.heap.size post) (pX Z (cM Z ad) (cM Z ad u0) s.heap.size (fun _ _ => False)) args s 0 0 rm_M_sumOf.cells rm_M_sumOf.slots (va_A (cM Z ad u0) s.heap.size)) (F0 m 46 ls [.long (z0), .long (z1)]) := by
  unfold q_M_sumOf_46 at h
  refine lv_ladd C.2.1 C.2.2.1 d_M_sumOf_46 ?_
  refine lv_lstore_n (lv' := [(2, .long ((z1) + (z0))), (0, .ref (ad 0)), (1, .int (x1)), (4, .int (x4))]) C.2.1 C.2.2.1 d_M_sumOf_47 rfl hl (by decide) rfl (fun ls hl => ?_)
  refine lv_iinc (v := (x4) + 1) (lv' := [(4, .int ((x4) + 1)), (2, .long ((z1) + (z0))), (0, .ref (ad 0)), (1, .int (x1))]) C.2.1 C.2.2.1 d_M_sumOf_48 hl (k := 3) rfl rfl (by decide) rfl (fun ls hl => ?_)
  refine lv_goto (tgt := 5) C.2.1 C.2.2.1 d_M_sumOf_51 (by decide) ?_
  exact hK5 (x1) ((z1) + (z0)) ((x4) + 1) _ _ _ _ h hw (lv_sub hl [2, 3, 1, 0] rfl)
def q_M_sumOf_5 (K5 : Int32 → Int64 → Int32 → MT → Prop) (x1 : Int32) (x2 : Int64) (x4 : Int32) (u : MT) (post : Int64 → MT → Prop) : Prop :=
  (((m_pictures (u)) ≤ (x4) → post (x2) (u)) ∧ (¬ (m_pictures (u)) ≤ (x4) → (vp_in (((((24) : Int32)) * (x1)) + (x4)) 192 ∧ (((m_count (u) (((((24) : Int32)) * (x1)) + (x4)).toNatClampNeg) ≤ 0 → q_M_sumOf_46 K5 (x1) (x4) ((0 : Int64)) (x2) (u) post) ∧ (¬ (m_count (u) (((((24) : Int32)) * (x1)) + (x4)).toNatClampNeg) ≤ 0 → q_M_bytes (((((24) : Int32)) * (x1)) + (x4)) (u) (fun r1 u2 => q_M_sumOf_46 K5 (x1) (x4) ((r1).toInt64) (x2) (u2) post))))))
set_option maxRecDepth 100000 in
theorem w_M_sumOf_5 {p : Program} {l : Launch} {e : Env} {s : State} {m : MethodId} {args : Array Value} {below : List Frame} {meth : Method} {c : Code} {Z : ZT} {ad : Nat → Nat} {u0 : MT} {post : Int64 → MT → Prop} {K5 : Int32 → Int64 → Int32 → MT → Prop} (C : CX "CoderTablesModel" b_M_sumOf 5 (some .long) Z (va_A (cM Z ad u0) s.heap.size) p l s m args meth c) (htab : ∀ x ∈ c.exceptionTable.toList, False) (hK5 : ∀ (x1 : Int32) (x2 : Int64) (x4 : Int32) (u : MT) (H : Heap) (locs : List Loc) (ls : Array Slot), K5 x1 x2 x4 u → WD Z (va_A (cM Z ad u0) s.heap.size) s (cM Z ad u) H locs → lv_has ls 5 [(0, .ref (ad 0)), (1, .int (x1)), (2, .long (x2)), (4, .int (x4))] → W p l e rm_M_sumOf s m args below meth c H locs 0 0 (vx_MQ below (pQl Z (cM Z ad) (cM Z ad u0) s.heap.size post) (pX Z (cM Z ad) (cM Z ad u0) s.heap.size (fun _ _ => False)) args s 0 0 rm_M_sumOf.cells rm_M_sumOf.slots (va_A (cM Z ad u0) s.heap.size)) (F0 m 5 ls [])) (x1 : Int32) (x2 : Int64) (x4 : Int32) (u : MT) (H : Heap) (locs : List Loc) (ls : Array Slot) (hw : WD Z (va_A (cM Z ad u0) s.heap.size) s (cM Z ad u) H locs) (hl : lv_has ls 5 [(0, .ref (ad 0)), (1, .int (x1)), (2, .long (x2)), (4, .int (x4))]) (h : q_M_sumOf_5 K5 x1 x2 x4 u post) : W p l e rm_M_sumOf s m args below meth c H locs 0 0 (vx_MQ below (pQl Z (cM Z ad) (cM Z ad u0) s.heap.size post) (pX Z (cM Z ad) (cM Z ad u0) s.heap.size (fun _ _ => False)) args s 0 0 rm_M_sumOf.cells rm_M_sumOf.slots (va_A (cM Z ad u0) s.heap.size)) (F0 m 5 ls []) := by
  unfold q_M_sumOf_5 at h
  refine lv_iload C.2.1 C.2.2.1 d_M_sumOf_5 (lv_at hl 3 rfl) ?_
  refine lv_aload_n C.2.1 C.2.2.1 d_M_sumOf_7 rfl (lv_at hl 0 rfl) ?_
  refine r_M_47 C hw d_M_sumOf_8 ?_
  refine lv_icmp_ge (tgt := 54) C.2.1 C.2.2.1 d_M_sumOf_11 (by decide) (fun c => ?_) (fun c => ?_)
  · have h := h.1 c
    refine lv_lload_n C.2.1 C.2.2.1 d_M_sumOf_54 rfl (lv_at hl 2 rfl) ?_
    exact g_lret C hw h d_M_sumOf_55
  · have h := h.2 c
    refine lv_lload_n C.2.1 C.2.2.1 d_M_sumOf_14 rfl (lv_at hl 2 rfl) ?_
    refine lv_aload_n C.2.1 C.2.2.1 d_M_sumOf_15 rfl (lv_at hl 0 rfl) ?_
    refine r_M_7 C hw d_M_sumOf_16 ?_
    refine lv_bipush (v := (24)) C.2.1 C.2.2.1 d_M_sumOf_19 (by decide) ?_
    refine lv_iload_n C.2.1 C.2.2.1 d_M_sumOf_21 rfl (lv_at hl 1 rfl) ?_
    refine lv_imul C.2.1 C.2.2.1 d_M_sumOf_22 ?_
    refine lv_iload C.2.1 C.2.2.1 d_M_sumOf_23 (lv_at hl 3 rfl) ?_
    refine lv_iadd C.2.1 C.2.2.1 d_M_sumOf_25 ?_
    obtain ⟨hi, h⟩ := h
    refine al_M_1 C hw hi d_M_sumOf_26 ?_
    refine lv_if_le (tgt := 45) C.2.1 C.2.2.1 d_M_sumOf_27 (by decide) (fun c => ?_) (fun c => ?_)
    · have h := h.1 c
      refine lv_lconst (v := 0) C.2.1 C.2.2.1 d_M_sumOf_45 (by decide) ?_
      exact w_M_sumOf_46 C htab hK5 (x1) (x4) ((0 : Int64)) (x2) _ _ _ _ hw (lv_sub hl [0, 1, 3] rfl) h
    · have h := h.2 c
      refine lv_aload_n C.2.1 C.2.2.1 d_M_sumOf_30 rfl (lv_at hl 0 rfl) ?_
      refine lv_bipush (v := (24)) C.2.1 C.2.2.1 d_M_sumOf_31 (by decide) ?_
      refine lv_iload_n C.2.1 C.2.2.1 d_M_sumOf_33 rfl (lv_at hl 1 rfl) ?_
      refine lv_imul C.2.1 C.2.2.1 d_M_sumOf_34 ?_
      refine lv_iload C.2.1 C.2.2.1 d_M_sumOf_35 (lv_at hl 3 rfl) ?_
      refine lv_iadd C.2.1 C.2.2.1 d_M_sumOf_37 ?_
      refine k_M_74 C hw h ⟨Nat.le_of_ble_eq_true rfl, Nat.le_of_ble_eq_true rfl, Nat.le_of_ble_eq_true rfl, Nat.le_of_ble_eq_true rfl⟩ hl.1 (Nat.le_of_ble_eq_true rfl) d_M_sumOf_38 (fun r1 u2 H locs h hw => ?_)
      refine lv_i2l C.2.1 C.2.2.1 d_M_sumOf_41 rfl ?_
      refine lv_goto (tgt := 46) C.2.1 C.2.2.1 d_M_sumOf_42 (by decide) ?_
      exact w_M_sumOf_46 C htab hK5 (x1) (x4) ((r1).toInt64) (x2) _ _ _ _ hw (lv_sub hl [0, 1, 3] rfl) h
def q_M_sumOf_5N : Nat → Int32 → Int64 → Int32 → MT → (Int64 → MT → Prop) → Prop
  | 0 => fun _ _ _ _ _ => False
  | n + 1 => fun x1 x2 x4 u post => q_M_sumOf_5 (fun x1 x2 x4 u => q_M_sumOf_5N n x1 x2 x4 u post) x1 x2 x4 u post
theorem w_M_sumOf_5N {p : Program} {l : Launch} {e : Env} {s : State} {m : MethodId} {args : Array Value} {below : List Frame} {meth : Method} {c : Code} {Z : ZT} {ad : Nat → Nat} {u0 : MT} {post : Int64 → MT → Prop} (C : CX "CoderTablesModel" b_M_sumOf 5 (some .long) Z (va_A (cM Z ad u0) s.heap.size) p l s m args meth c) (htab : ∀ x ∈ c.exceptionTable.toList, False) : ∀ (n : Nat) (x1 : Int32) (x2 : Int64) (x4 : Int32) (u : MT) (H : Heap) (locs : List Loc) (ls : Array Slot), WD Z (va_A (cM Z ad u0) s.heap.size) s (cM Z ad u) H locs → lv_has ls 5 [(0, .ref (ad 0)), (1, .int (x1)), (2, .long (x2)), (4, .int (x4))] → q_M_sumOf_5N n x1 x2 x4 u post → W p l e rm_M_sumOf s m args below meth c H locs 0 0 (vx_MQ below (pQl Z (cM Z ad) (cM Z ad u0) s.heap.size post) (pX Z (cM Z ad) (cM Z ad u0) s.heap.size (fun _ _ => False)) args s 0 0 rm_M_sumOf.cells rm_M_sumOf.slots (va_A (cM Z ad u0) s.heap.size)) (F0 m 5 ls []) := by
  intro n
  induction n with
  | zero => intro x1 x2 x4 u H locs ls hw hl h; exact h.elim
  | succ n ih => intro x1 x2 x4 u H locs ls hw hl h; exact w_M_sumOf_5 C htab (fun x1 x2 x4 u H locs ls h hw hl => ih x1 x2 x4 u H locs ls hw hl h) x1 x2 x4 u H locs ls hw hl h
def q_M_sumOf (p1 : Int32) (u : MT) (post : Int64 → MT → Prop) : Prop :=
  ∃ n, q_M_sumOf_5N n (p1) ((0 : Int64)) (((0) : Int32)) (u) post
set_option maxRecDepth 100000 in
theorem c_M_sumOf {l : Launch} {Z : ZT} {ad : Nat → Nat} {u : MT} {post : Int64 → MT → Prop} {p1 : Int32} (hl0 : l.stackTraces = false) (h : q_M_sumOf p1 u post) : ∀ sz, vx_Met l y_M_sumOf (Cond.code y_M_sumOf b_M_sumOf 5 (some .long) :: GW) rm_M_sumOf (pP Z [.ref (ad 0), .int (p1)] (cM Z ad u) sz) (pQl Z (cM Z ad) (cM Z ad u) sz post) (pX Z (cM Z ad) (cM Z ad u) sz (fun _ _ => False)) 0 0 rm_M_sumOf.cells rm_M_sumOf.slots (va_A (cM Z ad u) sz) := by
  refine g_ent (f := cM Z ad) (Qc := fun sz => pQl Z (cM Z ad) (cM Z ad u) sz post) (XC := fun sz => pX Z (cM Z ad) (cM Z ad u) sz (fun _ _ => False)) hl0 (by decide +kernel) (Nat.le_of_ble_eq_true rfl) ?_
  intro p e s m args below meth c ls C htab hw hl
  have hl : lv_has ls 5 [(0, .ref (ad 0)), (1, .int (p1))] := hl
  unfold q_M_sumOf at h
  refine lv_lconst (v := 0) C.2.1 C.2.2.1 d_M_sumOf_0 (by decide) ?_
  refine lv_lstore_n (lv' := [(2, .long ((0 : Int64))), (0, .ref (ad 0)), (1, .int (p1))]) C.2.1 C.2.2.1 d_M_sumOf_1 rfl hl (by decide) rfl (fun ls hl => ?_)
  refine lv_iconst (v := (0)) C.2.1 C.2.2.1 d_M_sumOf_2 (by decide) ?_
  refine lv_istore (lv' := [(4, .int (((0) : Int32))), (2, .long ((0 : Int64))), (0, .ref (ad 0)), (1, .int (p1))]) C.2.1 C.2.2.1 d_M_sumOf_3 hl (by decide) rfl (fun ls hl => ?_)
  obtain ⟨n, h⟩ := h
  exact w_M_sumOf_5N C htab n (p1) ((0 : Int64)) (((0) : Int32)) _ _ _ _ hw (lv_sub hl [2, 3, 1, 0] rfl) h
section KR
variable {own host : String} {cc bytes : ByteArray} {nL maxL index n : Nat} {rt0 rt : Option FieldType} {Z : ZT} {ad : Nat → Nat} {A : Nat → Prop}
variable {p : Program} {l : Launch} {e : Env} {R : Room} {s : State} {m : MethodId} {args : Array Value} {below : List Frame} {meth : Method} {c : Code} {H : Heap} {locs : List Loc} {cells slots : Nat} {Q : State → Prop} {rest : List Value} {pc : Nat} {ls : Array Slot}
theorem k_M_83 {u : MT} {p1 : Int32} {post : Int64 → MT → Prop} (C : CX "CoderTablesModel" cc nL rt0 Z A p l s m args meth c) (hw : WD Z A s (cM Z ad u) H locs) (h : q_M_sumOf p1 u post) (hR : rmOk rm_M_sumOf 5 R cells slots) (hl : ls.size = nL) (hW : (rest.map fun v => v.category).sum ≤ 8) (hdg : decode cc pc = .ok (.invokevirtual 83, 3)) (kk : ∀ (r : Int64) (u' : MT) (H1 : Heap) (locs1 : List Loc), post r u' → WD Z A s (cM Z ad u') H1 locs1 → W p l e R s m args below meth c H1 locs1 cells slots Q (F0 m (pc + 3) ls (.long r :: rest))) : W p l e R s m args below meth c H locs cells slots Q (F0 m pc ls (.int (p1) :: .ref (ad 0) :: rest)) :=
  g_V0_l (n := 1) (f := cM Z ad) (As := [.int (p1)]) C hw (c_M_sumOf C.1 h) ⟨w668, w670, w37, w56, w671, (by decide +kernel), (by decide +kernel), (by decide +kernel)⟩ hR 0 rfl rfl rfl hl rfl hW hdg (fun _ _ _ _ _ _ h => h.elim) kk
end KR
/-! CoderTablesModel.countedOf(I)I -/
abbrev rm_M_countedOf : Room := { frames := 0, cells := 0, slots := 0, locals := 0 }
def q_M_countedOf_32 (K4 : Int32 → Int32 → Int32 → MT → Prop) (x1 : Int32) (x3 : Int32) (z0 : Int32) (z1 : Int32) (u : MT) (post : Int32 → MT → Prop) : Prop :=
  K4 (x1) ((z1) + (z0)) ((x3) + 1) (u)
set_option maxRecDepth 100000 in
theorem w_M_countedOf_32 {p : Program} {l : Launch} {e : Env} {s : State} {m : MethodId} {args : Array Value} {below : List Frame} {meth : Method} {c : Code} {Z : ZT} {ad : Nat → Nat} {u0 : MT} {post : Int32 → MT → Prop} {K4 : Int32 → Int32 → Int32 → MT → Prop} (C : CX "CoderTablesModel" b_M_countedOf 4 (some .int) Z (va_A (cM Z ad u0) s.heap.size) p l s m args meth c) (htab : ∀ x ∈ c.exceptionTable.toList, False) (hK4 : ∀ (x1 : Int32) (x2 : Int32) (x3 : Int32) (u : MT) (H : Heap) (locs : List Loc) (ls : Array Slot), K4 x1 x2 x3 u → WD Z (va_A (cM Z ad u0) s.heap.size) s (cM Z ad u) H locs → lv_has ls 4 [(0, .ref (ad 0)), (1, .int (x1)), (2, .int (x2)), (3, .int (x3))] → W p l e rm_M_countedOf s m args below meth c H locs 0 0 (vx_MQ below (pQi Z (cM Z ad) (cM Z ad u0) s.heap.size post) (pX Z (cM Z ad) (cM Z ad u0) s.heap.size (fun _ _ => False)) args s 0 0 rm_M_countedOf.cells rm_M_countedOf.slots (va_A (cM Z ad u0) s.heap.size)) (F0 m 4 ls [])) (x1 : Int32) (x3 : Int32) (z0 : Int32) (z1 : Int32) (u : MT) (H : Heap) (locs : List Loc) (ls : Array Slot) (hw : WD Z (va_A (cM Z ad u0) s.heap.size) s (cM Z ad u) H locs) (hl : lv_has ls 4 [(0, .ref (ad 0)), (1, .int (x1)), (3, .int (x3))]) (h : q_M_countedOf_32 K4 x1 x3 z0 z1 u post) : W p l e rm_M_countedOf s m args below meth c H locs 0 0 (vx_MQ below (pQi Z (cM Z ad) (cM Z ad u0) s.heap.size post) (pX Z (cM Z ad) (cM Z ad u0) s.heap.size (fun _ _ => False)) args s 0 0 rm_M_countedOf.cells rm_M_countedOf.slots (va_A (cM Z ad u0) s.heap.size)) (F0 m 32 ls [.int (z0), .int (z1)]) := by
  unfold q_M_countedOf_32 at h
  refine lv_iadd C.2.1 C.2.2.1 d_M_countedOf_32 ?_
  refine lv_istore_n (lv' := [(2, .int ((z1) + (z0))), (0, .ref (ad 0)), (1, .int (x1)), (3, .int (x3))]) C.2.1 C.2.2.1 d_M_countedOf_33 rfl hl (by decide) rfl (fun ls hl => ?_)
  refine lv_iinc (v := (x3) + 1) (lv' := [(3, .int ((x3) + 1)), (2, .int ((z1) + (z0))), (0, .ref (ad 0)), (1, .int (x1))]) C.2.1 C.2.2.1 d_M_countedOf_34 hl (k := 3) rfl rfl (by decide) rfl (fun ls hl => ?_)
  refine lv_goto (tgt := 4) C.2.1 C.2.2.1 d_M_countedOf_37 (by decide) ?_
  exact hK4 (x1) ((z1) + (z0)) ((x3) + 1) _ _ _ _ h hw (lv_sub hl [2, 3, 1, 0] rfl)
def q_M_countedOf_4 (K4 : Int32 → Int32 → Int32 → MT → Prop) (x1 : Int32) (x2 : Int32) (x3 : Int32) (u : MT) (post : Int32 → MT → Prop) : Prop :=
  (((m_pictures (u)) ≤ (x3) → post (x2) (u)) ∧ (¬ (m_pictures (u)) ≤ (x3) → (vp_in (((((24) : Int32)) * (x1)) + (x3)) 192 ∧ (((m_count (u) (((((24) : Int32)) * (x1)) + (x3)).toNatClampNeg) ≤ 0 → q_M_countedOf_32 K4 (x1) (x3) (((0) : Int32)) (x2) (u) post) ∧ (¬ (m_count (u) (((((24) : Int32)) * (x1)) + (x3)).toNatClampNeg) ≤ 0 → q_M_countedOf_32 K4 (x1) (x3) (((1) : Int32)) (x2) (u) post)))))
set_option maxRecDepth 100000 in
theorem w_M_countedOf_4 {p : Program} {l : Launch} {e : Env} {s : State} {m : MethodId} {args : Array Value} {below : List Frame} {meth : Method} {c : Code} {Z : ZT} {ad : Nat → Nat} {u0 : MT} {post : Int32 → MT → Prop} {K4 : Int32 → Int32 → Int32 → MT → Prop} (C : CX "CoderTablesModel" b_M_countedOf 4 (some .int) Z (va_A (cM Z ad u0) s.heap.size) p l s m args meth c) (htab : ∀ x ∈ c.exceptionTable.toList, False) (hK4 : ∀ (x1 : Int32) (x2 : Int32) (x3 : Int32) (u : MT) (H : Heap) (locs : List Loc) (ls : Array Slot), K4 x1 x2 x3 u → WD Z (va_A (cM Z ad u0) s.heap.size) s (cM Z ad u) H locs → lv_has ls 4 [(0, .ref (ad 0)), (1, .int (x1)), (2, .int (x2)), (3, .int (x3))] → W p l e rm_M_countedOf s m args below meth c H locs 0 0 (vx_MQ below (pQi Z (cM Z ad) (cM Z ad u0) s.heap.size post) (pX Z (cM Z ad) (cM Z ad u0) s.heap.size (fun _ _ => False)) args s 0 0 rm_M_countedOf.cells rm_M_countedOf.slots (va_A (cM Z ad u0) s.heap.size)) (F0 m 4 ls [])) (x1 : Int32) (x2 : Int32) (x3 : Int32) (u : MT) (H : Heap) (locs : List Loc) (ls : Array Slot) (hw : WD Z (va_A (cM Z ad u0) s.heap.size) s (cM Z ad u) H locs) (hl : lv_has ls 4 [(0, .ref (ad 0)), (1, .int (x1)), (2, .int (x2)), (3, .int (x3))]) (h : q_M_countedOf_4 K4 x1 x2 x3 u post) : W p l e rm_M_countedOf s m args below meth c H locs 0 0 (vx_MQ below (pQi Z (cM Z ad) (cM Z ad u0) s.heap.size post) (pX Z (cM Z ad) (cM Z ad u0) s.heap.size (fun _ _ => False)) args s 0 0 rm_M_countedOf.cells rm_M_countedOf.slots (va_A (cM Z ad u0) s.heap.size)) (F0 m 4 ls []) := by
  unfold q_M_countedOf_4 at h
  refine lv_iload_n C.2.1 C.2.2.1 d_M_countedOf_4 rfl (lv_at hl 3 rfl) ?_
  refine lv_aload_n C.2.1 C.2.2.1 d_M_countedOf_5 rfl (lv_at hl 0 rfl) ?_
  refine r_M_47 C hw d_M_countedOf_6 ?_
  refine lv_icmp_ge (tgt := 40) C.2.1 C.2.2.1 d_M_countedOf_9 (by decide) (fun c => ?_) (fun c => ?_)
  · have h := h.1 c
    refine lv_iload_n C.2.1 C.2.2.1 d_M_countedOf_40 rfl (lv_at hl 2 rfl) ?_
    exact g_iret C hw rfl h d_M_countedOf_41
  · have h := h.2 c
    refine lv_iload_n C.2.1 C.2.2.1 d_M_countedOf_12 rfl (lv_at hl 2 rfl) ?_
    refine lv_aload_n C.2.1 C.2.2.1 d_M_countedOf_13 rfl (lv_at hl 0 rfl) ?_
    refine r_M_7 C hw d_M_countedOf_14 ?_
    refine lv_bipush (v := (24)) C.2.1 C.2.2.1 d_M_countedOf_17 (by decide) ?_
    refine lv_iload_n C.2.1 C.2.2.1 d_M_countedOf_19 rfl (lv_at hl 1 rfl) ?_
    refine lv_imul C.2.1 C.2.2.1 d_M_countedOf_20 ?_
    refine lv_iload_n C.2.1 C.2.2.1 d_M_countedOf_21 rfl (lv_at hl 3 rfl) ?_
    refine lv_iadd C.2.1 C.2.2.1 d_M_countedOf_22 ?_
    obtain ⟨hi, h⟩ := h
    refine al_M_1 C hw hi d_M_countedOf_23 ?_
    refine lv_if_le (tgt := 31) C.2.1 C.2.2.1 d_M_countedOf_24 (by decide) (fun c => ?_) (fun c => ?_)
    · have h := h.1 c
      refine lv_iconst (v := (0)) C.2.1 C.2.2.1 d_M_countedOf_31 (by decide) ?_
      exact w_M_countedOf_32 C htab hK4 (x1) (x3) (((0) : Int32)) (x2) _ _ _ _ hw (lv_sub hl [0, 1, 3] rfl) h
    · have h := h.2 c
      refine lv_iconst (v := (1)) C.2.1 C.2.2.1 d_M_countedOf_27 (by decide) ?_
      refine lv_goto (tgt := 32) C.2.1 C.2.2.1 d_M_countedOf_28 (by decide) ?_
      exact w_M_countedOf_32 C htab hK4 (x1) (x3) (((1) : Int32)) (x2) _ _ _ _ hw (lv_sub hl [0, 1, 3] rfl) h
def q_M_countedOf_4N : Nat → Int32 → Int32 → Int32 → MT → (Int32 → MT → Prop) → Prop
  | 0 => fun _ _ _ _ _ => False
  | n + 1 => fun x1 x2 x3 u post => q_M_countedOf_4 (fun x1 x2 x3 u => q_M_countedOf_4N n x1 x2 x3 u post) x1 x2 x3 u post
theorem w_M_countedOf_4N {p : Program} {l : Launch} {e : Env} {s : State} {m : MethodId} {args : Array Value} {below : List Frame} {meth : Method} {c : Code} {Z : ZT} {ad : Nat → Nat} {u0 : MT} {post : Int32 → MT → Prop} (C : CX "CoderTablesModel" b_M_countedOf 4 (some .int) Z (va_A (cM Z ad u0) s.heap.size) p l s m args meth c) (htab : ∀ x ∈ c.exceptionTable.toList, False) : ∀ (n : Nat) (x1 : Int32) (x2 : Int32) (x3 : Int32) (u : MT) (H : Heap) (locs : List Loc) (ls : Array Slot), WD Z (va_A (cM Z ad u0) s.heap.size) s (cM Z ad u) H locs → lv_has ls 4 [(0, .ref (ad 0)), (1, .int (x1)), (2, .int (x2)), (3, .int (x3))] → q_M_countedOf_4N n x1 x2 x3 u post → W p l e rm_M_countedOf s m args below meth c H locs 0 0 (vx_MQ below (pQi Z (cM Z ad) (cM Z ad u0) s.heap.size post) (pX Z (cM Z ad) (cM Z ad u0) s.heap.size (fun _ _ => False)) args s 0 0 rm_M_countedOf.cells rm_M_countedOf.slots (va_A (cM Z ad u0) s.heap.size)) (F0 m 4 ls []) := by
  intro n
  induction n with
  | zero => intro x1 x2 x3 u H locs ls hw hl h; exact h.elim
  | succ n ih => intro x1 x2 x3 u H locs ls hw hl h; exact w_M_countedOf_4 C htab (fun x1 x2 x3 u H locs ls h hw hl => ih x1 x2 x3 u H locs ls hw hl h) x1 x2 x3 u H locs ls hw hl h
def q_M_countedOf (p1 : Int32) (u : MT) (post : Int32 → MT → Prop) : Prop :=
  ∃ n, q_M_countedOf_4N n (p1) (((0) : Int32)) (((0) : Int32)) (u) post
set_option maxRecDepth 100000 in
theorem c_M_countedOf {l : Launch} {Z : ZT} {ad : Nat → Nat} {u : MT} {post : Int32 → MT → Prop} {p1 : Int32} (hl0 : l.stackTraces = false) (h : q_M_countedOf p1 u post) : ∀ sz, vx_Met l y_M_countedOf (Cond.code y_M_countedOf b_M_countedOf 4 (some .int) :: GW) rm_M_countedOf (pP Z [.ref (ad 0), .int (p1)] (cM Z ad u) sz) (pQi Z (cM Z ad) (cM Z ad u) sz post) (pX Z (cM Z ad) (cM Z ad u) sz (fun _ _ => False)) 0 0 rm_M_countedOf.cells rm_M_countedOf.slots (va_A (cM Z ad u) sz) := by
  refine g_ent (f := cM Z ad) (Qc := fun sz => pQi Z (cM Z ad) (cM Z ad u) sz post) (XC := fun sz => pX Z (cM Z ad) (cM Z ad u) sz (fun _ _ => False)) hl0 (by decide +kernel) (Nat.le_of_ble_eq_true rfl) ?_
  intro p e s m args below meth c ls C htab hw hl
  have hl : lv_has ls 4 [(0, .ref (ad 0)), (1, .int (p1))] := hl
  unfold q_M_countedOf at h
  refine lv_iconst (v := (0)) C.2.1 C.2.2.1 d_M_countedOf_0 (by decide) ?_
  refine lv_istore_n (lv' := [(2, .int (((0) : Int32))), (0, .ref (ad 0)), (1, .int (p1))]) C.2.1 C.2.2.1 d_M_countedOf_1 rfl hl (by decide) rfl (fun ls hl => ?_)
  refine lv_iconst (v := (0)) C.2.1 C.2.2.1 d_M_countedOf_2 (by decide) ?_
  refine lv_istore_n (lv' := [(3, .int (((0) : Int32))), (2, .int (((0) : Int32))), (0, .ref (ad 0)), (1, .int (p1))]) C.2.1 C.2.2.1 d_M_countedOf_3 rfl hl (by decide) rfl (fun ls hl => ?_)
  obtain ⟨n, h⟩ := h
  exact w_M_countedOf_4N C htab n (p1) (((0) : Int32)) (((0) : Int32)) _ _ _ _ hw (lv_sub hl [2, 3, 1, 0] rfl) h
section KR
variable {own host : String} {cc bytes : ByteArray} {nL maxL index n : Nat} {rt0 rt : Option FieldType} {Z : ZT} {ad : Nat → Nat} {A : Nat → Prop}
variable {p : Program} {l : Launch} {e : Env} {R : Room} {s : State} {m : MethodId} {args : Array Value} {below : List Frame} {meth : Method} {c : Code} {H : Heap} {locs : List Loc} {cells slots : Nat} {Q : State → Prop} {rest : List Value} {pc : Nat} {ls : Array Slot}
theorem k_M_78 {u : MT} {p1 : Int32} {post : Int32 → MT → Prop} (C : CX "CoderTablesModel" cc nL rt0 Z A p l s m args meth c) (hw : WD Z A s (cM Z ad u) H locs) (h : q_M_countedOf p1 u post) (hR : rmOk rm_M_countedOf 4 R cells slots) (hl : ls.size = nL) (hW : (rest.map fun v => v.category).sum ≤ 8) (hdg : decode cc pc = .ok (.invokevirtual 78, 3)) (kk : ∀ (r : Int32) (u' : MT) (H1 : Heap) (locs1 : List Loc), post r u' → WD Z A s (cM Z ad u') H1 locs1 → W p l e R s m args below meth c H1 locs1 cells slots Q (F0 m (pc + 3) ls (.int r :: rest))) : W p l e R s m args below meth c H locs cells slots Q (F0 m pc ls (.int (p1) :: .ref (ad 0) :: rest)) :=
  g_V0_i (n := 1) (f := cM Z ad) (As := [.int (p1)]) C hw (c_M_countedOf C.1 h) ⟨w663, w665, w36, w56, w666, (by decide +kernel), (by decide +kernel), (by decide +kernel)⟩ hR 0 rfl rfl rfl hl rfl hW hdg (fun _ _ _ _ _ _ h => h.elim) kk
end KR
/-! CoderTablesModel.sum(I)J -/
abbrev rm_M_sum : Room := { frames := 2, cells := 0, slots := 0, locals := 48 }
def q_M_sum_14 (x1 : Int32) (z0 : Int32) (u : MT) (post : Int64 → MT → Prop) : Prop :=
  q_M_refuses (z0) (u) (fun r1 u2 => (((r1) = 0 → q_M_countedOf (x1) (u2) (fun r3 u4 => ((¬ (r3) = 0 → q_M_sumOf (x1) (u4) (fun r5 u6 => post (r5) (u6))) ∧ ((r3) = 0 → post ((-1 : Int64)) (u4))))) ∧ (¬ (r1) = 0 → post ((0 : Int64)) (u2))))
set_option maxRecDepth 100000 in
theorem w_M_sum_14 {p : Program} {l : Launch} {e : Env} {s : State} {m : MethodId} {args : Array Value} {below : List Frame} {meth : Method} {c : Code} {Z : ZT} {ad : Nat → Nat} {u0 : MT} {post : Int64 → MT → Prop} (C : CX "CoderTablesModel" b_M_sum 2 (some .long) Z (va_A (cM Z ad u0) s.heap.size) p l s m args meth c) (htab : ∀ x ∈ c.exceptionTable.toList, False) (x1 : Int32) (z0 : Int32) (u : MT) (H : Heap) (locs : List Loc) (ls : Array Slot) (hw : WD Z (va_A (cM Z ad u0) s.heap.size) s (cM Z ad u) H locs) (hl : lv_has ls 2 [(0, .ref (ad 0)), (1, .int (x1))]) (h : q_M_sum_14 x1 z0 u post) : W p l e rm_M_sum s m args below meth c H locs 0 0 (vx_MQ below (pQl Z (cM Z ad) (cM Z ad u0) s.heap.size post) (pX Z (cM Z ad) (cM Z ad u0) s.heap.size (fun _ _ => False)) args s 0 0 rm_M_sum.cells rm_M_sum.slots (va_A (cM Z ad u0) s.heap.size)) (F0 m 14 ls [.int (z0), .ref (ad 0)]) := by
  unfold q_M_sum_14 at h
  refine k_M_50 C hw h ⟨Nat.le_of_ble_eq_true rfl, Nat.le_of_ble_eq_true rfl, Nat.le_of_ble_eq_true rfl, Nat.le_of_ble_eq_true rfl⟩ hl.1 (Nat.le_of_ble_eq_true rfl) d_M_sum_14 (fun r1 u2 H locs h hw => ?_)
  refine lv_if_eq (tgt := 22) C.2.1 C.2.2.1 d_M_sum_17 (by decide) (fun c => ?_) (fun c => ?_)
  · have h := h.1 c
    refine lv_aload_n C.2.1 C.2.2.1 d_M_sum_22 rfl (lv_at hl 0 rfl) ?_
    refine lv_iload_n C.2.1 C.2.2.1 d_M_sum_23 rfl (lv_at hl 1 rfl) ?_
    refine k_M_78 C hw h ⟨Nat.le_of_ble_eq_true rfl, Nat.le_of_ble_eq_true rfl, Nat.le_of_ble_eq_true rfl, Nat.le_of_ble_eq_true rfl⟩ hl.1 (Nat.le_of_ble_eq_true rfl) d_M_sum_24 (fun r3 u4 H locs h hw => ?_)
    refine lv_if_ne (tgt := 36) C.2.1 C.2.2.1 d_M_sum_27 (by decide) (fun c => ?_) (fun c => ?_)
    · have h := h.1 c
      refine lv_aload_n C.2.1 C.2.2.1 d_M_sum_36 rfl (lv_at hl 0 rfl) ?_
      refine lv_iload_n C.2.1 C.2.2.1 d_M_sum_37 rfl (lv_at hl 1 rfl) ?_
      refine k_M_83 C hw h ⟨Nat.le_of_ble_eq_true rfl, Nat.le_of_ble_eq_true rfl, Nat.le_of_ble_eq_true rfl, Nat.le_of_ble_eq_true rfl⟩ hl.1 (Nat.le_of_ble_eq_true rfl) d_M_sum_38 (fun r5 u6 H locs h hw => ?_)
      exact g_lret C hw h d_M_sum_41
    · have h := h.2 c
      refine lv_ldc2 (v := -1) C.2.1 C.2.2.1 C.2.2.2.2.1 (C.2.2.2.2.2.1 _ w667) d_M_sum_30 ?_
      refine lv_goto (tgt := 41) C.2.1 C.2.2.1 d_M_sum_33 (by decide) ?_
      exact g_lret C hw h d_M_sum_41
  · have h := h.2 c
    refine lv_lconst (v := 0) C.2.1 C.2.2.1 d_M_sum_20 (by decide) ?_
    exact g_lret C hw h d_M_sum_21
def q_M_sum (p1 : Int32) (u : MT) (post : Int64 → MT → Prop) : Prop :=
  q_M_noCoder (p1) (u) (fun r7 u8 => (((r7) = 0 → q_M_sum_14 (p1) (((0) : Int32)) (u8) post) ∧ (¬ (r7) = 0 → q_M_sum_14 (p1) (((1) : Int32)) (u8) post)))
set_option maxRecDepth 100000 in
theorem c_M_sum {l : Launch} {Z : ZT} {ad : Nat → Nat} {u : MT} {post : Int64 → MT → Prop} {p1 : Int32} (hl0 : l.stackTraces = false) (h : q_M_sum p1 u post) : ∀ sz, vx_Met l y_M_sum (Cond.code y_M_sum b_M_sum 2 (some .long) :: GW) rm_M_sum (pP Z [.ref (ad 0), .int (p1)] (cM Z ad u) sz) (pQl Z (cM Z ad) (cM Z ad u) sz post) (pX Z (cM Z ad) (cM Z ad u) sz (fun _ _ => False)) 0 0 rm_M_sum.cells rm_M_sum.slots (va_A (cM Z ad u) sz) := by
  refine g_ent (f := cM Z ad) (Qc := fun sz => pQl Z (cM Z ad) (cM Z ad u) sz post) (XC := fun sz => pX Z (cM Z ad) (cM Z ad u) sz (fun _ _ => False)) hl0 (by decide +kernel) (Nat.le_of_ble_eq_true rfl) ?_
  intro p e s m args below meth c ls C htab hw hl
  have hl : lv_has ls 2 [(0, .ref (ad 0)), (1, .int (p1))] := hl
  unfold q_M_sum at h
  refine lv_aload_n C.2.1 C.2.2.1 d_M_sum_0 rfl (lv_at hl 0 rfl) ?_
  refine lv_aload_n C.2.1 C.2.2.1 d_M_sum_1 rfl (lv_at hl 0 rfl) ?_
  refine lv_iload_n C.2.1 C.2.2.1 d_M_sum_2 rfl (lv_at hl 1 rfl) ?_
  refine k_M_43 C hw h ⟨Nat.le_of_ble_eq_true rfl, Nat.le_of_ble_eq_true rfl, Nat.le_of_ble_eq_true rfl, Nat.le_of_ble_eq_true rfl⟩ hl.1 (Nat.le_of_ble_eq_true rfl) d_M_sum_3 (fun r7 u8 H locs h hw => ?_)
  refine lv_if_eq (tgt := 13) C.2.1 C.2.2.1 d_M_sum_6 (by decide) (fun c => ?_) (fun c => ?_)
  · have h := h.1 c
    refine lv_iconst (v := (0)) C.2.1 C.2.2.1 d_M_sum_13 (by decide) ?_
    exact w_M_sum_14 C htab (p1) (((0) : Int32)) _ _ _ _ hw (lv_sub hl [0, 1] rfl) h
  · have h := h.2 c
    refine lv_iconst (v := (1)) C.2.1 C.2.2.1 d_M_sum_9 (by decide) ?_
    refine lv_goto (tgt := 14) C.2.1 C.2.2.1 d_M_sum_10 (by decide) ?_
    exact w_M_sum_14 C htab (p1) (((1) : Int32)) _ _ _ _ hw (lv_sub hl [0, 1] rfl) h
