/-! CoderTables.failed()I -/
abbrev rm_X_failed : Room := { frames := 0, cells := 0, slots := 0, locals := 0 }
def q_X_failed (u : CT) (post : Int32 → CT → Prop) : Prop :=
  post (x_failedCount (u)) (u)
set_option maxRecDepth 100000 in
theorem c_X_failed {l : Launch} {Z : ZT} {ad : Nat → Nat} {u : CT} {post : Int32 → CT → Prop} (hl0 : l.stackTraces = false) (h : q_X_failed u post) : ∀ sz, vx_Met l y_X_failed (Cond.code y_X_failed b_X_failed 1 (some .int) :: GW) rm_X_failed (pP Z [.ref (ad 0)] (cX Z ad u) sz) (pQi Z (cX Z ad) (cX Z ad u) sz post) (pX Z (cX Z ad) (cX Z ad u) sz (fun _ _ => False)) 0 0 rm_X_failed.cells rm_X_failed.slots (va_A (cX Z ad u) sz) := by
  refine g_ent (f := cX Z ad) (Qc := fun sz => pQi Z (cX Z ad) (cX Z ad u) sz post) (XC := fun sz => pX Z (cX Z ad) (cX Z ad u) sz (fun _ _ => False)) hl0 (by decide +kernel) (Nat.le_of_ble_eq_true rfl) ?_
  intro p e s m args below meth c ls C htab hw hl
  have hl : lv_has ls 1 [(0, .ref (ad 0))] := hl
  unfold q_X_failed at h
  refine lv_aload_n C.2.1 C.2.2.1 d_X_failed_0 rfl (lv_at hl 0 rfl) ?_
  refine r_X_32 C hw d_X_failed_1 ?_
  exact g_iret C hw rfl h d_X_failed_4
/-! CoderTables.failing(II)I -/
abbrev rm_X_failing : Room := { frames := 6, cells := 1, slots := 6, locals := 90 }
def q_X_failing_12  (u : CT) (post : Int32 → CT → Prop) (ex : String → CT → Prop) : Prop :=
  ex "java/lang/IndexOutOfBoundsException" (u)
set_option maxRecDepth 100000 in
theorem w_X_failing_12 {p : Program} {l : Launch} {e : Env} {s : State} {m : MethodId} {args : Array Value} {below : List Frame} {meth : Method} {c : Code} {Z : ZT} {ad : Nat → Nat} {u0 : CT} {post : Int32 → CT → Prop} {ex : String → CT → Prop} (C : CX "CoderTables" b_X_failing 4 (some .int) Z (va_A (cX Z ad u0) s.heap.size) p l s m args meth c) (htab : ∀ x ∈ c.exceptionTable.toList, False)  (u : CT) (H : Heap) (locs : List Loc) (ls : Array Slot) (hw : WD Z (va_A (cX Z ad u0) s.heap.size) s (cX Z ad u) H locs) (hl : lv_has ls 4 []) (h : q_X_failing_12  u post ex) : W p l e rm_X_failing s m args below meth c H locs 0 0 (vx_MQ below (pQi Z (cX Z ad) (cX Z ad u0) s.heap.size post) (pX Z (cX Z ad) (cX Z ad u0) s.heap.size ex) args s 0 0 rm_X_failing.cells rm_X_failing.slots (va_A (cX Z ad u0) s.heap.size)) (F0 m 12 ls []) := by
  unfold q_X_failing_12 at h
  exact g_throw C htab hw hE_O sg_101 h hl.1 d_X_failing_12 d_X_failing_15 d_X_failing_16 d_X_failing_18 d_X_failing_21 ⟨Nat.le_of_ble_eq_true rfl, Nat.le_of_ble_eq_true rfl, Nat.le_of_ble_eq_true rfl, Nat.le_of_ble_eq_true rfl⟩ (Nat.le_of_ble_eq_true rfl) (Nat.le_of_ble_eq_true rfl)
def q_X_failing_41 (x1 : Int32) (x2 : Int32) (u : CT) (post : Int32 → CT → Prop) (ex : String → CT → Prop) : Prop :=
  (vp_in (x1) 192 ∧ ((¬ (x2) = 0 → (¬ (((24) : Int32)) = 0 ∧ post ((x_failedPairs (u) (x1).toNatClampNeg) - (x_failedPairs (u) (x1).toNatClampNeg) / (((24) : Int32)) * (((24) : Int32))) (u))) ∧ ((x2) = 0 → (¬ (((24) : Int32)) = 0 ∧ post ((x_failedPairs (u) (x1).toNatClampNeg) / (((24) : Int32))) (u)))))
set_option maxRecDepth 100000 in
theorem w_X_failing_41 {p : Program} {l : Launch} {e : Env} {s : State} {m : MethodId} {args : Array Value} {below : List Frame} {meth : Method} {c : Code} {Z : ZT} {ad : Nat → Nat} {u0 : CT} {post : Int32 → CT → Prop} {ex : String → CT → Prop} (C : CX "CoderTables" b_X_failing 4 (some .int) Z (va_A (cX Z ad u0) s.heap.size) p l s m args meth c) (htab : ∀ x ∈ c.exceptionTable.toList, False) (x1 : Int32) (x2 : Int32) (u : CT) (H : Heap) (locs : List Loc) (ls : Array Slot) (hw : WD Z (va_A (cX Z ad u0) s.heap.size) s (cX Z ad u) H locs) (hl : lv_has ls 4 [(0, .ref (ad 0)), (1, .int (x1)), (2, .int (x2))]) (h : q_X_failing_41 x1 x2 u post ex) : W p l e rm_X_failing s m args below meth c H locs 0 0 (vx_MQ below (pQi Z (cX Z ad) (cX Z ad u0) s.heap.size post) (pX Z (cX Z ad) (cX Z ad u0) s.heap.size ex) args s 0 0 rm_X_failing.cells rm_X_failing.slots (va_A (cX Z ad u0) s.heap.size)) (F0 m 41 ls []) := by
  unfold q_X_failing_41 at h
  refine lv_aload_n C.2.1 C.2.2.1 d_X_failing_41 rfl (lv_at hl 0 rfl) ?_
  refine r_X_29 C hw d_X_failing_42 ?_
  refine lv_iload_n C.2.1 C.2.2.1 d_X_failing_45 rfl (lv_at hl 1 rfl) ?_
  obtain ⟨hi, h⟩ := h
  refine al_X_5 C hw hi d_X_failing_46 ?_
  refine lv_istore_n (lv' := [(3, .int (x_failedPairs (u) (x1).toNatClampNeg)), (0, .ref (ad 0)), (1, .int (x1)), (2, .int (x2))]) C.2.1 C.2.2.1 d_X_failing_47 rfl hl (by decide) rfl (fun ls hl => ?_)
  refine lv_iload_n C.2.1 C.2.2.1 d_X_failing_48 rfl (lv_at hl 3 rfl) ?_
  refine lv_if_ne (tgt := 59) C.2.1 C.2.2.1 d_X_failing_49 (by decide) (fun c => ?_) (fun c => ?_)
  · have h := h.1 c
    refine lv_iload_n C.2.1 C.2.2.1 d_X_failing_59 rfl (lv_at hl 0 rfl) ?_
    refine lv_bipush (v := (24)) C.2.1 C.2.2.1 d_X_failing_60 (by decide) ?_
    obtain ⟨h0, h⟩ := h
    refine lv_irem C.2.1 C.2.2.1 d_X_failing_62 h0 ?_
    exact g_iret C hw rfl h d_X_failing_63
  · have h := h.2 c
    refine lv_iload_n C.2.1 C.2.2.1 d_X_failing_52 rfl (lv_at hl 0 rfl) ?_
    refine lv_bipush (v := (24)) C.2.1 C.2.2.1 d_X_failing_53 (by decide) ?_
    obtain ⟨h0, h⟩ := h
    refine lv_idiv C.2.1 C.2.2.1 d_X_failing_55 h0 ?_
    refine lv_goto (tgt := 63) C.2.1 C.2.2.1 d_X_failing_56 (by decide) ?_
    exact g_iret C hw rfl h d_X_failing_63
def q_X_failing (p1 : Int32) (p2 : Int32) (u : CT) (post : Int32 → CT → Prop) (ex : String → CT → Prop) : Prop :=
  (((p1) < 0 → q_X_failing_12  (u) post ex) ∧ (¬ (p1) < 0 → (((p1) < (x_failedCount (u)) → (((p2) = 0 → q_X_failing_41 (p1) (p2) (u) post ex) ∧ (¬ (p2) = 0 → (((p2) = (((1) : Int32)) → q_X_failing_41 (p1) (p2) (u) post ex) ∧ (¬ (p2) = (((1) : Int32)) → ex "java/lang/IllegalArgumentException" (u)))))) ∧ (¬ (p1) < (x_failedCount (u)) → q_X_failing_12  (u) post ex))))
set_option maxRecDepth 100000 in
theorem c_X_failing {l : Launch} {Z : ZT} {ad : Nat → Nat} {u : CT} {post : Int32 → CT → Prop} {ex : String → CT → Prop} {p1 : Int32} {p2 : Int32} (hl0 : l.stackTraces = false) (h : q_X_failing p1 p2 u post ex) : ∀ sz, vx_Met l y_X_failing (Cond.code y_X_failing b_X_failing 4 (some .int) :: GW) rm_X_failing (pP Z [.ref (ad 0), .int (p1), .int (p2)] (cX Z ad u) sz) (pQi Z (cX Z ad) (cX Z ad u) sz post) (pX Z (cX Z ad) (cX Z ad u) sz ex) 0 0 rm_X_failing.cells rm_X_failing.slots (va_A (cX Z ad u) sz) := by
  refine g_ent (f := cX Z ad) (Qc := fun sz => pQi Z (cX Z ad) (cX Z ad u) sz post) (XC := fun sz => pX Z (cX Z ad) (cX Z ad u) sz ex) hl0 (by decide +kernel) (Nat.le_of_ble_eq_true rfl) ?_
  intro p e s m args below meth c ls C htab hw hl
  have hl : lv_has ls 4 [(0, .ref (ad 0)), (1, .int (p1)), (2, .int (p2))] := hl
  unfold q_X_failing at h
  refine lv_iload_n C.2.1 C.2.2.1 d_X_failing_0 rfl (lv_at hl 1 rfl) ?_
  refine lv_if_lt (tgt := 12) C.2.1 C.2.2.1 d_X_failing_1 (by decide) (fun c => ?_) (fun c => ?_)
  · have h := h.1 c
    exact w_X_failing_12 C htab  _ _ _ _ hw (lv_sub hl [] rfl) h
  · have h := h.2 c
    refine lv_iload_n C.2.1 C.2.2.1 d_X_failing_4 rfl (lv_at hl 1 rfl) ?_
    refine lv_aload_n C.2.1 C.2.2.1 d_X_failing_5 rfl (lv_at hl 0 rfl) ?_
    refine r_X_32 C hw d_X_failing_6 ?_
    refine lv_icmp_lt (tgt := 22) C.2.1 C.2.2.1 d_X_failing_9 (by decide) (fun c => ?_) (fun c => ?_)
    · have h := h.1 c
      refine lv_iload_n C.2.1 C.2.2.1 d_X_failing_22 rfl (lv_at hl 2 rfl) ?_
      refine lv_if_eq (tgt := 41) C.2.1 C.2.2.1 d_X_failing_23 (by decide) (fun c => ?_) (fun c => ?_)
      · have h := h.1 c
        exact w_X_failing_41 C htab (p1) (p2) _ _ _ _ hw (lv_sub hl [0, 1, 2] rfl) h
      · have h := h.2 c
        refine lv_iload_n C.2.1 C.2.2.1 d_X_failing_26 rfl (lv_at hl 2 rfl) ?_
        refine lv_iconst (v := (1)) C.2.1 C.2.2.1 d_X_failing_27 (by decide) ?_
        refine lv_icmp_eq (tgt := 41) C.2.1 C.2.2.1 d_X_failing_28 (by decide) (fun c => ?_) (fun c => ?_)
        · have h := h.1 c
          exact w_X_failing_41 C htab (p1) (p2) _ _ _ _ hw (lv_sub hl [0, 1, 2] rfl) h
        · have h := h.2 c
          exact g_throw C htab hw hE_G sg_104 h hl.1 d_X_failing_31 d_X_failing_34 d_X_failing_35 d_X_failing_37 d_X_failing_40 ⟨Nat.le_of_ble_eq_true rfl, Nat.le_of_ble_eq_true rfl, Nat.le_of_ble_eq_true rfl, Nat.le_of_ble_eq_true rfl⟩ (Nat.le_of_ble_eq_true rfl) (Nat.le_of_ble_eq_true rfl)
    · have h := h.2 c
      exact w_X_failing_12 C htab  _ _ _ _ hw (lv_sub hl [] rfl) h
/-! CoderTables.leastBytesWithin(II)I -/
abbrev rm_X_leastBytesWithin : Room := { frames := 0, cells := 0, slots := 0, locals := 0 }
def q_X_leastBytesWithin_62 (K11 : Int32 → Int32 → Int32 → Int32 → Int32 → CT → Prop) (x1 : Int32) (x2 : Int32) (x3 : Int32) (x4 : Int32) (x5 : Int32) (u : CT) (post : Int32 → CT → Prop) : Prop :=
  K11 (x1) (x2) (x3) (x4) ((x5) + 1) (u)
set_option maxRecDepth 100000 in
theorem w_X_leastBytesWithin_62 {p : Program} {l : Launch} {e : Env} {s : State} {m : MethodId} {args : Array Value} {below : List Frame} {meth : Method} {c : Code} {Z : ZT} {ad : Nat → Nat} {u0 : CT} {post : Int32 → CT → Prop} {K11 : Int32 → Int32 → Int32 → Int32 → Int32 → CT → Prop} (C : CX "CoderTables" b_X_leastBytesWithin 7 (some .int) Z (va_A (cX Z ad u0) s.heap.size) p l s m args meth c) (htab : ∀ x ∈ c.exceptionTable.toList, False) (hK11 : ∀ (x1 : Int32) (x2 : Int32) (x3 : Int32) (x4 : Int32) (x5 : Int32) (u : CT) (H : Heap) (locs : List Loc) (ls : Array Slot), K11 x1 x2 x3 x4 x5 u → WD Z (va_A (cX Z ad u0) s.heap.size) s (cX Z ad u) H locs → lv_has ls 7 [(0, .ref (ad 0)), (1, .int (x1)), (2, .int (x2)), (3, .int (x3)), (4, .int (x4)), (5, .int (x5))] → W p l e rm_X_leastBytesWithin s m args below meth c H locs 0 0 (vx_MQ below (pQi Z (cX Z ad) (cX Z ad u0) s.heap.size post) (pX Z (cX Z ad) (cX Z ad u0) s.heap.size (fun _ _ => False)) args s 0 0 rm_X_leastBytesWithin.cells rm_X_leastBytesWithin.slots (va_A (cX Z ad u0) s.heap.size)) (F0 m 11 ls [])) (x1 : Int32) (x2 : Int32) (x3 : Int32) (x4 : Int32) (x5 : Int32) (u : CT) (H : Heap) (locs : List Loc) (ls : Array Slot) (hw : WD Z (va_A (cX Z ad u0) s.heap.size) s (cX Z ad u) H locs) (hl : lv_has ls 7 [(0, .ref (ad 0)), (1, .int (x1)), (2, .int (x2)), (3, .int (x3)), (4, .int (x4)), (5, .int (x5))]) (h : q_X_leastBytesWithin_62 K11 x1 x2 x3 x4 x5 u post) : W p l e rm_X_leastBytesWithin s m args below meth c H locs 0 0 (vx_MQ below (pQi Z (cX Z ad) (cX Z ad u0) s.heap.size post) (pX Z (cX Z ad) (cX Z ad u0) s.heap.size (fun _ _ => False)) args s 0 0 rm_X_leastBytesWithin.cells rm_X_leastBytesWithin.slots (va_A (cX Z ad u0) s.heap.size)) (F0 m 62 ls []) := by
  unfold q_X_leastBytesWithin_62 at h
  refine lv_iinc (v := (x5) + 1) (lv' := [(5, .int ((x5) + 1)), (0, .ref (ad 0)), (1, .int (x1)), (2, .int (x2)), (3, .int (x3)), (4, .int (x4))]) C.2.1 C.2.2.1 d_X_leastBytesWithin_62 hl (k := 5) rfl rfl (by decide) rfl (fun ls hl => ?_)
  refine lv_goto (tgt := 11) C.2.1 C.2.2.1 d_X_leastBytesWithin_65 (by decide) ?_
  exact hK11 (x1) (x2) (x3) (x4) ((x5) + 1) _ _ _ _ h hw (lv_sub hl [1, 2, 3, 4, 5, 0] rfl)
def q_X_leastBytesWithin_59 (K11 : Int32 → Int32 → Int32 → Int32 → Int32 → CT → Prop) (x1 : Int32) (x2 : Int32) (x4 : Int32) (x5 : Int32) (x6 : Int32) (u : CT) (post : Int32 → CT → Prop) : Prop :=
  q_X_leastBytesWithin_62 K11 (x1) (x2) (x6) (x4) (x5) (u) post
set_option maxRecDepth 100000 in
theorem w_X_leastBytesWithin_59 {p : Program} {l : Launch} {e : Env} {s : State} {m : MethodId} {args : Array Value} {below : List Frame} {meth : Method} {c : Code} {Z : ZT} {ad : Nat → Nat} {u0 : CT} {post : Int32 → CT → Prop} {K11 : Int32 → Int32 → Int32 → Int32 → Int32 → CT → Prop} (C : CX "CoderTables" b_X_leastBytesWithin 7 (some .int) Z (va_A (cX Z ad u0) s.heap.size) p l s m args meth c) (htab : ∀ x ∈ c.exceptionTable.toList, False) (hK11 : ∀ (x1 : Int32) (x2 : Int32) (x3 : Int32) (x4 : Int32) (x5 : Int32) (u : CT) (H : Heap) (locs : List Loc) (ls : Array Slot), K11 x1 x2 x3 x4 x5 u → WD Z (va_A (cX Z ad u0) s.heap.size) s (cX Z ad u) H locs → lv_has ls 7 [(0, .ref (ad 0)), (1, .int (x1)), (2, .int (x2)), (3, .int (x3)), (4, .int (x4)), (5, .int (x5))] → W p l e rm_X_leastBytesWithin s m args below meth c H locs 0 0 (vx_MQ below (pQi Z (cX Z ad) (cX Z ad u0) s.heap.size post) (pX Z (cX Z ad) (cX Z ad u0) s.heap.size (fun _ _ => False)) args s 0 0 rm_X_leastBytesWithin.cells rm_X_leastBytesWithin.slots (va_A (cX Z ad u0) s.heap.size)) (F0 m 11 ls [])) (x1 : Int32) (x2 : Int32) (x4 : Int32) (x5 : Int32) (x6 : Int32) (u : CT) (H : Heap) (locs : List Loc) (ls : Array Slot) (hw : WD Z (va_A (cX Z ad u0) s.heap.size) s (cX Z ad u) H locs) (hl : lv_has ls 7 [(0, .ref (ad 0)), (1, .int (x1)), (2, .int (x2)), (4, .int (x4)), (5, .int (x5)), (6, .int (x6))]) (h : q_X_leastBytesWithin_59 K11 x1 x2 x4 x5 x6 u post) : W p l e rm_X_leastBytesWithin s m args below meth c H locs 0 0 (vx_MQ below (pQi Z (cX Z ad) (cX Z ad u0) s.heap.size post) (pX Z (cX Z ad) (cX Z ad u0) s.heap.size (fun _ _ => False)) args s 0 0 rm_X_leastBytesWithin.cells rm_X_leastBytesWithin.slots (va_A (cX Z ad u0) s.heap.size)) (F0 m 59 ls []) := by
  unfold q_X_leastBytesWithin_59 at h
  refine lv_iload C.2.1 C.2.2.1 d_X_leastBytesWithin_59 (lv_at hl 5 rfl) ?_
  refine lv_istore_n (lv' := [(3, .int (x6)), (0, .ref (ad 0)), (1, .int (x1)), (2, .int (x2)), (4, .int (x4)), (5, .int (x5)), (6, .int (x6))]) C.2.1 C.2.2.1 d_X_leastBytesWithin_61 rfl hl (by decide) rfl (fun ls hl => ?_)
  exact w_X_leastBytesWithin_62 C htab hK11 (x1) (x2) (x6) (x4) (x5) _ _ _ _ hw (lv_sub hl [1, 2, 3, 0, 4, 5] rfl) h
def q_X_leastBytesWithin_11 (K11 : Int32 → Int32 → Int32 → Int32 → Int32 → CT → Prop) (x1 : Int32) (x2 : Int32) (x3 : Int32) (x4 : Int32) (x5 : Int32) (u : CT) (post : Int32 → CT → Prop) : Prop :=
  (vp_in (x1) 192 ∧ (((x_pointCounts (u) (x1).toNatClampNeg) ≤ (x5) → post (x3) (u)) ∧ (¬ (x_pointCounts (u) (x1).toNatClampNeg) ≤ (x5) → (vp_in ((x4) + (x5)) 1152 ∧ (vp_in ((x4) + (x5)) 1152 ∧ (((x2) < (x_pointErrors (u) ((x4) + (x5)).toNatClampNeg) → q_X_leastBytesWithin_62 K11 (x1) (x2) (x3) (x4) (x5) (u) post) ∧ (¬ (x2) < (x_pointErrors (u) ((x4) + (x5)).toNatClampNeg) → (((x3) = (((-1) : Int32)) → q_X_leastBytesWithin_59 K11 (x1) (x2) (x4) (x5) (x_pointBytes (u) ((x4) + (x5)).toNatClampNeg) (u) post) ∧ (¬ (x3) = (((-1) : Int32)) → (((x3) ≤ (x_pointBytes (u) ((x4) + (x5)).toNatClampNeg) → q_X_leastBytesWithin_62 K11 (x1) (x2) (x3) (x4) (x5) (u) post) ∧ (¬ (x3) ≤ (x_pointBytes (u) ((x4) + (x5)).toNatClampNeg) → q_X_leastBytesWithin_59 K11 (x1) (x2) (x4) (x5) (x_pointBytes (u) ((x4) + (x5)).toNatClampNeg) (u) post)))))))))))
set_option maxRecDepth 100000 in
theorem w_X_leastBytesWithin_11 {p : Program} {l : Launch} {e : Env} {s : State} {m : MethodId} {args : Array Value} {below : List Frame} {meth : Method} {c : Code} {Z : ZT} {ad : Nat → Nat} {u0 : CT} {post : Int32 → CT → Prop} {K11 : Int32 → Int32 → Int32 → Int32 → Int32 → CT → Prop} (C : CX "CoderTables" b_X_leastBytesWithin 7 (some .int) Z (va_A (cX Z ad u0) s.heap.size) p l s m args meth c) (htab : ∀ x ∈ c.exceptionTable.toList, False) (hK11 : ∀ (x1 : Int32) (x2 : Int32) (x3 : Int32) (x4 : Int32) (x5 : Int32) (u : CT) (H : Heap) (locs : List Loc) (ls : Array Slot), K11 x1 x2 x3 x4 x5 u → WD Z (va_A (cX Z ad u0) s.heap.size) s (cX Z ad u) H locs → lv_has ls 7 [(0, .ref (ad 0)), (1, .int (x1)), (2, .int (x2)), (3, .int (x3)), (4, .int (x4)), (5, .int (x5))] → W p l e rm_X_leastBytesWithin s m args below meth c H locs 0 0 (vx_MQ below (pQi Z (cX Z ad) (cX Z ad u0) s.heap.size post) (pX Z (cX Z ad) (cX Z ad u0) s.heap.size (fun _ _ => False)) args s 0 0 rm_X_leastBytesWithin.cells rm_X_leastBytesWithin.slots (va_A (cX Z ad u0) s.heap.size)) (F0 m 11 ls [])) (x1 : Int32) (x2 : Int32) (x3 : Int32) (x4 : Int32) (x5 : Int32) (u : CT) (H : Heap) (locs : List Loc) (ls : Array Slot) (hw : WD Z (va_A (cX Z ad u0) s.heap.size) s (cX Z ad u) H locs) (hl : lv_has ls 7 [(0, .ref (ad 0)), (1, .int (x1)), (2, .int (x2)), (3, .int (x3)), (4, .int (x4)), (5, .int (x5))]) (h : q_X_leastBytesWithin_11 K11 x1 x2 x3 x4 x5 u post) : W p l e rm_X_leastBytesWithin s m args below meth c H locs 0 0 (vx_MQ below (pQi Z (cX Z ad) (cX Z ad u0) s.heap.size post) (pX Z (cX Z ad) (cX Z ad u0) s.heap.size (fun _ _ => False)) args s 0 0 rm_X_leastBytesWithin.cells rm_X_leastBytesWithin.slots (va_A (cX Z ad u0) s.heap.size)) (F0 m 11 ls []) := by
  unfold q_X_leastBytesWithin_11 at h
  refine lv_iload C.2.1 C.2.2.1 d_X_leastBytesWithin_11 (lv_at hl 5 rfl) ?_
  refine lv_aload_n C.2.1 C.2.2.1 d_X_leastBytesWithin_13 rfl (lv_at hl 0 rfl) ?_
  refine r_X_16 C hw d_X_leastBytesWithin_14 ?_
  refine lv_iload_n C.2.1 C.2.2.1 d_X_leastBytesWithin_17 rfl (lv_at hl 1 rfl) ?_
  obtain ⟨hi, h⟩ := h
  refine al_X_1 C hw hi d_X_leastBytesWithin_18 ?_
  refine lv_icmp_ge (tgt := 68) C.2.1 C.2.2.1 d_X_leastBytesWithin_19 (by decide) (fun c => ?_) (fun c => ?_)
  · have h := h.1 c
    refine lv_iload_n C.2.1 C.2.2.1 d_X_leastBytesWithin_68 rfl (lv_at hl 3 rfl) ?_
    exact g_iret C hw rfl h d_X_leastBytesWithin_69
  · have h := h.2 c
    refine lv_aload_n C.2.1 C.2.2.1 d_X_leastBytesWithin_22 rfl (lv_at hl 0 rfl) ?_
    refine r_X_23 C hw d_X_leastBytesWithin_23 ?_
    refine lv_iload C.2.1 C.2.2.1 d_X_leastBytesWithin_26 (lv_at hl 4 rfl) ?_
    refine lv_iload C.2.1 C.2.2.1 d_X_leastBytesWithin_28 (lv_at hl 5 rfl) ?_
    refine lv_iadd C.2.1 C.2.2.1 d_X_leastBytesWithin_30 ?_
    obtain ⟨hi, h⟩ := h
    refine al_X_3 C hw hi d_X_leastBytesWithin_31 ?_
    refine lv_istore (lv' := [(6, .int (x_pointBytes (u) ((x4) + (x5)).toNatClampNeg)), (0, .ref (ad 0)), (1, .int (x1)), (2, .int (x2)), (3, .int (x3)), (4, .int (x4)), (5, .int (x5))]) C.2.1 C.2.2.1 d_X_leastBytesWithin_32 hl (by decide) rfl (fun ls hl => ?_)
    refine lv_aload_n C.2.1 C.2.2.1 d_X_leastBytesWithin_34 rfl (lv_at hl 1 rfl) ?_
    refine r_X_26 C hw d_X_leastBytesWithin_35 ?_
    refine lv_iload C.2.1 C.2.2.1 d_X_leastBytesWithin_38 (lv_at hl 5 rfl) ?_
    refine lv_iload C.2.1 C.2.2.1 d_X_leastBytesWithin_40 (lv_at hl 6 rfl) ?_
    refine lv_iadd C.2.1 C.2.2.1 d_X_leastBytesWithin_42 ?_
    obtain ⟨hi, h⟩ := h
    refine al_X_4 C hw hi d_X_leastBytesWithin_43 ?_
    refine lv_iload_n C.2.1 C.2.2.1 d_X_leastBytesWithin_44 rfl (lv_at hl 3 rfl) ?_
    refine lv_icmp_gt (tgt := 62) C.2.1 C.2.2.1 d_X_leastBytesWithin_45 (by decide) (fun c => ?_) (fun c => ?_)
    · have h := h.1 c
      exact w_X_leastBytesWithin_62 C htab hK11 (x1) (x2) (x3) (x4) (x5) _ _ _ _ hw (lv_sub hl [1, 2, 3, 4, 5, 6] rfl) h
    · have h := h.2 c
      refine lv_iload_n C.2.1 C.2.2.1 d_X_leastBytesWithin_48 rfl (lv_at hl 4 rfl) ?_
      refine lv_iconst (v := (-1)) C.2.1 C.2.2.1 d_X_leastBytesWithin_49 (by decide) ?_
      refine lv_icmp_eq (tgt := 59) C.2.1 C.2.2.1 d_X_leastBytesWithin_50 (by decide) (fun c => ?_) (fun c => ?_)
      · have h := h.1 c
        exact w_X_leastBytesWithin_59 C htab hK11 (x1) (x2) (x4) (x5) (x_pointBytes (u) ((x4) + (x5)).toNatClampNeg) _ _ _ _ hw (lv_sub hl [1, 2, 3, 5, 6, 0] rfl) h
      · have h := h.2 c
        refine lv_iload C.2.1 C.2.2.1 d_X_leastBytesWithin_53 (lv_at hl 0 rfl) ?_
        refine lv_iload_n C.2.1 C.2.2.1 d_X_leastBytesWithin_55 rfl (lv_at hl 4 rfl) ?_
        refine lv_icmp_ge (tgt := 62) C.2.1 C.2.2.1 d_X_leastBytesWithin_56 (by decide) (fun c => ?_) (fun c => ?_)
        · have h := h.1 c
          exact w_X_leastBytesWithin_62 C htab hK11 (x1) (x2) (x3) (x4) (x5) _ _ _ _ hw (lv_sub hl [1, 2, 3, 4, 5, 6] rfl) h
        · have h := h.2 c
          exact w_X_leastBytesWithin_59 C htab hK11 (x1) (x2) (x4) (x5) (x_pointBytes (u) ((x4) + (x5)).toNatClampNeg) _ _ _ _ hw (lv_sub hl [1, 2, 3, 5, 6, 0] rfl) h
def q_X_leastBytesWithin_11N : Nat → Int32 → Int32 → Int32 → Int32 → Int32 → CT → (Int32 → CT → Prop) → Prop
  | 0 => fun _ _ _ _ _ _ _ => False
  | n + 1 => fun x1 x2 x3 x4 x5 u post => q_X_leastBytesWithin_11 (fun x1 x2 x3 x4 x5 u => q_X_leastBytesWithin_11N n x1 x2 x3 x4 x5 u post) x1 x2 x3 x4 x5 u post
theorem w_X_leastBytesWithin_11N {p : Program} {l : Launch} {e : Env} {s : State} {m : MethodId} {args : Array Value} {below : List Frame} {meth : Method} {c : Code} {Z : ZT} {ad : Nat → Nat} {u0 : CT} {post : Int32 → CT → Prop} (C : CX "CoderTables" b_X_leastBytesWithin 7 (some .int) Z (va_A (cX Z ad u0) s.heap.size) p l s m args meth c) (htab : ∀ x ∈ c.exceptionTable.toList, False) : ∀ (n : Nat) (x1 : Int32) (x2 : Int32) (x3 : Int32) (x4 : Int32) (x5 : Int32) (u : CT) (H : Heap) (locs : List Loc) (ls : Array Slot), WD Z (va_A (cX Z ad u0) s.heap.size) s (cX Z ad u) H locs → lv_has ls 7 [(0, .ref (ad 0)), (1, .int (x1)), (2, .int (x2)), (3, .int (x3)), (4, .int (x4)), (5, .int (x5))] → q_X_leastBytesWithin_11N n x1 x2 x3 x4 x5 u post → W p l e rm_X_leastBytesWithin s m args below meth c H locs 0 0 (vx_MQ below (pQi Z (cX Z ad) (cX Z ad u0) s.heap.size post) (pX Z (cX Z ad) (cX Z ad u0) s.heap.size (fun _ _ => False)) args s 0 0 rm_X_leastBytesWithin.cells rm_X_leastBytesWithin.slots (va_A (cX Z ad u0) s.heap.size)) (F0 m 11 ls []) := by
  intro n
  induction n with
  | zero => intro x1 x2 x3 x4 x5 u H locs ls hw hl h; exact h.elim
  | succ n ih => intro x1 x2 x3 x4 x5 u H locs ls hw hl h; exact w_X_leastBytesWithin_11 C htab (fun x1 x2 x3 x4 x5 u H locs ls h hw hl => ih x1 x2 x3 x4 x5 u H locs ls hw hl h) x1 x2 x3 x4 x5 u H locs ls hw hl h
def q_X_leastBytesWithin (p1 : Int32) (p2 : Int32) (u : CT) (post : Int32 → CT → Prop) : Prop :=
  ∃ n, q_X_leastBytesWithin_11N n (p1) (p2) (((-1) : Int32)) ((p1) * (((6) : Int32))) (((0) : Int32)) (u) post
set_option maxRecDepth 100000 in
theorem c_X_leastBytesWithin {l : Launch} {Z : ZT} {ad : Nat → Nat} {u : CT} {post : Int32 → CT → Prop} {p1 : Int32} {p2 : Int32} (hl0 : l.stackTraces = false) (h : q_X_leastBytesWithin p1 p2 u post) : ∀ sz, vx_Met l y_X_leastBytesWithin (Cond.code y_X_leastBytesWithin b_X_leastBytesWithin 7 (some .int) :: GW) rm_X_leastBytesWithin (pP Z [.ref (ad 0), .int (p1), .int (p2)] (cX Z ad u) sz) (pQi Z (cX Z ad) (cX Z ad u) sz post) (pX Z (cX Z ad) (cX Z ad u) sz (fun _ _ => False)) 0 0 rm_X_leastBytesWithin.cells rm_X_leastBytesWithin.slots (va_A (cX Z ad u) sz) := by
  refine g_ent (f := cX Z ad) (Qc := fun sz => pQi Z (cX Z ad) (cX Z ad u) sz post) (XC := fun sz => pX Z (cX Z ad) (cX Z ad u) sz (fun _ _ => False)) hl0 (by decide +kernel) (Nat.le_of_ble_eq_true rfl) ?_
  intro p e s m args below meth c ls C htab hw hl
  have hl : lv_has ls 7 [(0, .ref (ad 0)), (1, .int (p1)), (2, .int (p2))] := hl
  unfold q_X_leastBytesWithin at h
  refine lv_iconst (v := (-1)) C.2.1 C.2.2.1 d_X_leastBytesWithin_0 (by decide) ?_
  refine lv_istore_n (lv' := [(3, .int (((-1) : Int32))), (0, .ref (ad 0)), (1, .int (p1)), (2, .int (p2))]) C.2.1 C.2.2.1 d_X_leastBytesWithin_1 rfl hl (by decide) rfl (fun ls hl => ?_)
  refine lv_iload_n C.2.1 C.2.2.1 d_X_leastBytesWithin_2 rfl (lv_at hl 2 rfl) ?_
  refine lv_bipush (v := (6)) C.2.1 C.2.2.1 d_X_leastBytesWithin_3 (by decide) ?_
  refine lv_imul C.2.1 C.2.2.1 d_X_leastBytesWithin_5 ?_
  refine lv_istore (lv' := [(4, .int ((p1) * (((6) : Int32)))), (3, .int (((-1) : Int32))), (0, .ref (ad 0)), (1, .int (p1)), (2, .int (p2))]) C.2.1 C.2.2.1 d_X_leastBytesWithin_6 hl (by decide) rfl (fun ls hl => ?_)
  refine lv_iconst (v := (0)) C.2.1 C.2.2.1 d_X_leastBytesWithin_8 (by decide) ?_
  refine lv_istore (lv' := [(5, .int (((0) : Int32))), (4, .int ((p1) * (((6) : Int32)))), (3, .int (((-1) : Int32))), (0, .ref (ad 0)), (1, .int (p1)), (2, .int (p2))]) C.2.1 C.2.2.1 d_X_leastBytesWithin_9 hl (by decide) rfl (fun ls hl => ?_)
  obtain ⟨n, h⟩ := h
  exact w_X_leastBytesWithin_11N C htab n (p1) (p2) (((-1) : Int32)) ((p1) * (((6) : Int32))) (((0) : Int32)) _ _ _ _ hw (lv_sub hl [3, 4, 5, 2, 1, 0] rfl) h
section KR
variable {own host : String} {cc bytes : ByteArray} {nL maxL index n : Nat} {rt0 rt : Option FieldType} {Z : ZT} {ad : Nat → Nat} {A : Nat → Prop}
variable {p : Program} {l : Launch} {e : Env} {R : Room} {s : State} {m : MethodId} {args : Array Value} {below : List Frame} {meth : Method} {c : Code} {H : Heap} {locs : List Loc} {cells slots : Nat} {Q : State → Prop} {rest : List Value} {pc : Nat} {ls : Array Slot}
theorem k_X_111 {u : CT} {p1 : Int32} {p2 : Int32} {post : Int32 → CT → Prop} (C : CX "CoderTables" cc nL rt0 Z A p l s m args meth c) (hw : WD Z A s (cX Z ad u) H locs) (h : q_X_leastBytesWithin p1 p2 u post) (hR : rmOk rm_X_leastBytesWithin 7 R cells slots) (hl : ls.size = nL) (hW : (rest.map fun v => v.category).sum ≤ 8) (hdg : decode cc pc = .ok (.invokevirtual 111, 3)) (kk : ∀ (r : Int32) (u' : CT) (H1 : Heap) (locs1 : List Loc), post r u' → WD Z A s (cX Z ad u') H1 locs1 → W p l e R s m args below meth c H1 locs1 cells slots Q (F0 m (pc + 3) ls (.int r :: rest))) : W p l e R s m args below meth c H locs cells slots Q (F0 m pc ls (.int (p2) :: .int (p1) :: .ref (ad 0) :: rest)) :=
  g_V0_i (n := 2) (f := cX Z ad) (As := [.int (p1), .int (p2)]) C hw (c_X_leastBytesWithin C.1 h) ⟨w416, w418, w19, w53, w419, (by decide +kernel), (by decide +kernel), (by decide +kernel)⟩ hR 0 rfl rfl rfl hl rfl hW hdg (fun _ _ _ _ _ _ h => h.elim) kk
end KR
/-! CoderTables.least(II)I -/
abbrev rm_X_least : Room := { frames := 7, cells := 1, slots := 6, locals := 111 }
def q_X_least_75 (K27 : Int32 → Int32 → Int32 → Int32 → Int32 → CT → Prop) (x1 : Int32) (x2 : Int32) (x3 : Int32) (x4 : Int32) (x5 : Int32) (u : CT) (post : Int32 → CT → Prop) (ex : String → CT → Prop) : Prop :=
  K27 (x1) (x2) (x3) (x4) ((x5) + 1) (u)
set_option maxRecDepth 100000 in
theorem w_X_least_75 {p : Program} {l : Launch} {e : Env} {s : State} {m : MethodId} {args : Array Value} {below : List Frame} {meth : Method} {c : Code} {Z : ZT} {ad : Nat → Nat} {u0 : CT} {post : Int32 → CT → Prop} {ex : String → CT → Prop} {K27 : Int32 → Int32 → Int32 → Int32 → Int32 → CT → Prop} (C : CX "CoderTables" b_X_least 7 (some .int) Z (va_A (cX Z ad u0) s.heap.size) p l s m args meth c) (htab : ∀ x ∈ c.exceptionTable.toList, False) (hK27 : ∀ (x1 : Int32) (x2 : Int32) (x3 : Int32) (x4 : Int32) (x5 : Int32) (u : CT) (H : Heap) (locs : List Loc) (ls : Array Slot), K27 x1 x2 x3 x4 x5 u → WD Z (va_A (cX Z ad u0) s.heap.size) s (cX Z ad u) H locs → lv_has ls 7 [(0, .ref (ad 0)), (1, .int (x1)), (2, .int (x2)), (3, .int (x3)), (4, .int (x4)), (5, .int (x5))] → W p l e rm_X_least s m args below meth c H locs 0 0 (vx_MQ below (pQi Z (cX Z ad) (cX Z ad u0) s.heap.size post) (pX Z (cX Z ad) (cX Z ad u0) s.heap.size ex) args s 0 0 rm_X_least.cells rm_X_least.slots (va_A (cX Z ad u0) s.heap.size)) (F0 m 27 ls [])) (x1 : Int32) (x2 : Int32) (x3 : Int32) (x4 : Int32) (x5 : Int32) (u : CT) (H : Heap) (locs : List Loc) (ls : Array Slot) (hw : WD Z (va_A (cX Z ad u0) s.heap.size) s (cX Z ad u) H locs) (hl : lv_has ls 7 [(0, .ref (ad 0)), (1, .int (x1)), (2, .int (x2)), (3, .int (x3)), (4, .int (x4)), (5, .int (x5))]) (h : q_X_least_75 K27 x1 x2 x3 x4 x5 u post ex) : W p l e rm_X_least s m args below meth c H locs 0 0 (vx_MQ below (pQi Z (cX Z ad) (cX Z ad u0) s.heap.size post) (pX Z (cX Z ad) (cX Z ad u0) s.heap.size ex) args s 0 0 rm_X_least.cells rm_X_least.slots (va_A (cX Z ad u0) s.heap.size)) (F0 m 75 ls []) := by
  unfold q_X_least_75 at h
  refine lv_iinc (v := (x5) + 1) (lv' := [(5, .int ((x5) + 1)), (0, .ref (ad 0)), (1, .int (x1)), (2, .int (x2)), (3, .int (x3)), (4, .int (x4))]) C.2.1 C.2.2.1 d_X_least_75 hl (k := 5) rfl rfl (by decide) rfl (fun ls hl => ?_)
  refine lv_goto (tgt := 27) C.2.1 C.2.2.1 d_X_least_78 (by decide) ?_
  exact hK27 (x1) (x2) (x3) (x4) ((x5) + 1) _ _ _ _ h hw (lv_sub hl [1, 2, 3, 4, 5, 0] rfl)
def q_X_least_68 (K27 : Int32 → Int32 → Int32 → Int32 → Int32 → CT → Prop) (x1 : Int32) (x2 : Int32) (x5 : Int32) (x6 : Int32) (u : CT) (post : Int32 → CT → Prop) (ex : String → CT → Prop) : Prop :=
  q_X_least_75 K27 (x1) (x2) (x5) (x6) (x5) (u) post ex
set_option maxRecDepth 100000 in
theorem w_X_least_68 {p : Program} {l : Launch} {e : Env} {s : State} {m : MethodId} {args : Array Value} {below : List Frame} {meth : Method} {c : Code} {Z : ZT} {ad : Nat → Nat} {u0 : CT} {post : Int32 → CT → Prop} {ex : String → CT → Prop} {K27 : Int32 → Int32 → Int32 → Int32 → Int32 → CT → Prop} (C : CX "CoderTables" b_X_least 7 (some .int) Z (va_A (cX Z ad u0) s.heap.size) p l s m args meth c) (htab : ∀ x ∈ c.exceptionTable.toList, False) (hK27 : ∀ (x1 : Int32) (x2 : Int32) (x3 : Int32) (x4 : Int32) (x5 : Int32) (u : CT) (H : Heap) (locs : List Loc) (ls : Array Slot), K27 x1 x2 x3 x4 x5 u → WD Z (va_A (cX Z ad u0) s.heap.size) s (cX Z ad u) H locs → lv_has ls 7 [(0, .ref (ad 0)), (1, .int (x1)), (2, .int (x2)), (3, .int (x3)), (4, .int (x4)), (5, .int (x5))] → W p l e rm_X_least s m args below meth c H locs 0 0 (vx_MQ below (pQi Z (cX Z ad) (cX Z ad u0) s.heap.size post) (pX Z (cX Z ad) (cX Z ad u0) s.heap.size ex) args s 0 0 rm_X_least.cells rm_X_least.slots (va_A (cX Z ad u0) s.heap.size)) (F0 m 27 ls [])) (x1 : Int32) (x2 : Int32) (x5 : Int32) (x6 : Int32) (u : CT) (H : Heap) (locs : List Loc) (ls : Array Slot) (hw : WD Z (va_A (cX Z ad u0) s.heap.size) s (cX Z ad u) H locs) (hl : lv_has ls 7 [(0, .ref (ad 0)), (1, .int (x1)), (2, .int (x2)), (5, .int (x5)), (6, .int (x6))]) (h : q_X_least_68 K27 x1 x2 x5 x6 u post ex) : W p l e rm_X_least s m args below meth c H locs 0 0 (vx_MQ below (pQi Z (cX Z ad) (cX Z ad u0) s.heap.size post) (pX Z (cX Z ad) (cX Z ad u0) s.heap.size ex) args s 0 0 rm_X_least.cells rm_X_least.slots (va_A (cX Z ad u0) s.heap.size)) (F0 m 68 ls []) := by
  unfold q_X_least_68 at h
  refine lv_iload C.2.1 C.2.2.1 d_X_least_68 (lv_at hl 3 rfl) ?_
  refine lv_istore_n (lv' := [(3, .int (x5)), (0, .ref (ad 0)), (1, .int (x1)), (2, .int (x2)), (5, .int (x5)), (6, .int (x6))]) C.2.1 C.2.2.1 d_X_least_70 rfl hl (by decide) rfl (fun ls hl => ?_)
  refine lv_iload C.2.1 C.2.2.1 d_X_least_71 (lv_at hl 5 rfl) ?_
  refine lv_istore (lv' := [(4, .int (x6)), (3, .int (x5)), (0, .ref (ad 0)), (1, .int (x1)), (2, .int (x2)), (5, .int (x5)), (6, .int (x6))]) C.2.1 C.2.2.1 d_X_least_73 hl (by decide) rfl (fun ls hl => ?_)
  exact w_X_least_75 C htab hK27 (x1) (x2) (x5) (x6) (x5) _ _ _ _ hw (lv_sub hl [2, 3, 4, 1, 0, 5] rfl) h
def q_X_least_27 (K27 : Int32 → Int32 → Int32 → Int32 → Int32 → CT → Prop) (x1 : Int32) (x2 : Int32) (x3 : Int32) (x4 : Int32) (x5 : Int32) (u : CT) (post : Int32 → CT → Prop) (ex : String → CT → Prop) : Prop :=
  (((x_coders (u)) ≤ (x5) → post (x3) (u)) ∧ (¬ (x_coders (u)) ≤ (x5) → q_X_leastBytesWithin (((x5) * (((24) : Int32))) + (x1)) (x2) (u) (fun r1 u2 => (((r1) = (((-1) : Int32)) → q_X_least_75 K27 (x1) (x2) (x3) (x4) (x5) (u2) post ex) ∧ (¬ (r1) = (((-1) : Int32)) → (((x3) = (((-1) : Int32)) → q_X_least_68 K27 (x1) (x2) (x5) (r1) (u2) post ex) ∧ (¬ (x3) = (((-1) : Int32)) → (((x4) ≤ (r1) → q_X_least_75 K27 (x1) (x2) (x3) (x4) (x5) (u2) post ex) ∧ (¬ (x4) ≤ (r1) → q_X_least_68 K27 (x1) (x2) (x5) (r1) (u2) post ex)))))))))
set_option maxRecDepth 100000 in
theorem w_X_least_27 {p : Program} {l : Launch} {e : Env} {s : State} {m : MethodId} {args : Array Value} {below : List Frame} {meth : Method} {c : Code} {Z : ZT} {ad : Nat → Nat} {u0 : CT} {post : Int32 → CT → Prop} {ex : String → CT → Prop} {K27 : Int32 → Int32 → Int32 → Int32 → Int32 → CT → Prop} (C : CX "CoderTables" b_X_least 7 (some .int) Z (va_A (cX Z ad u0) s.heap.size) p l s m args meth c) (htab : ∀ x ∈ c.exceptionTable.toList, False) (hK27 : ∀ (x1 : Int32) (x2 : Int32) (x3 : Int32) (x4 : Int32) (x5 : Int32) (u : CT) (H : Heap) (locs : List Loc) (ls : Array Slot), K27 x1 x2 x3 x4 x5 u → WD Z (va_A (cX Z ad u0) s.heap.size) s (cX Z ad u) H locs → lv_has ls 7 [(0, .ref (ad 0)), (1, .int (x1)), (2, .int (x2)), (3, .int (x3)), (4, .int (x4)), (5, .int (x5))] → W p l e rm_X_least s m args below meth c H locs 0 0 (vx_MQ below (pQi Z (cX Z ad) (cX Z ad u0) s.heap.size post) (pX Z (cX Z ad) (cX Z ad u0) s.heap.size ex) args s 0 0 rm_X_least.cells rm_X_least.slots (va_A (cX Z ad u0) s.heap.size)) (F0 m 27 ls [])) (x1 : Int32) (x2 : Int32) (x3 : Int32) (x4 : Int32) (x5 : Int32) (u : CT) (H : Heap) (locs : List Loc) (ls : Array Slot) (hw : WD Z (va_A (cX Z ad u0) s.heap.size) s (cX Z ad u) H locs) (hl : lv_has ls 7 [(0, .ref (ad 0)), (1, .int (x1)), (2, .int (x2)), (3, .int (x3)), (4, .int (x4)), (5, .int (x5))]) (h : q_X_least_27 K27 x1 x2 x3 x4 x5 u post ex) : W p l e rm_X_least s m args below meth c H locs 0 0 (vx_MQ below (pQi Z (cX Z ad) (cX Z ad u0) s.heap.size post) (pX Z (cX Z ad) (cX Z ad u0) s.heap.size ex) args s 0 0 rm_X_least.cells rm_X_least.slots (va_A (cX Z ad u0) s.heap.size)) (F0 m 27 ls []) := by
  unfold q_X_least_27 at h
  refine lv_iload C.2.1 C.2.2.1 d_X_least_27 (lv_at hl 5 rfl) ?_
  refine lv_aload_n C.2.1 C.2.2.1 d_X_least_29 rfl (lv_at hl 0 rfl) ?_
  refine r_X_9 C hw d_X_least_30 ?_
  refine lv_icmp_ge (tgt := 81) C.2.1 C.2.2.1 d_X_least_33 (by decide) (fun c => ?_) (fun c => ?_)
  · have h := h.1 c
    refine lv_iload_n C.2.1 C.2.2.1 d_X_least_81 rfl (lv_at hl 3 rfl) ?_
    exact g_iret C hw rfl h d_X_least_82
  · have h := h.2 c
    refine lv_aload_n C.2.1 C.2.2.1 d_X_least_36 rfl (lv_at hl 0 rfl) ?_
    refine lv_iload C.2.1 C.2.2.1 d_X_least_37 (lv_at hl 5 rfl) ?_
    refine lv_bipush (v := (24)) C.2.1 C.2.2.1 d_X_least_39 (by decide) ?_
    refine lv_imul C.2.1 C.2.2.1 d_X_least_41 ?_
    refine lv_iload_n C.2.1 C.2.2.1 d_X_least_42 rfl (lv_at hl 1 rfl) ?_
    refine lv_iadd C.2.1 C.2.2.1 d_X_least_43 ?_
    refine lv_iload_n C.2.1 C.2.2.1 d_X_least_44 rfl (lv_at hl 2 rfl) ?_
    refine k_X_111 C hw h ⟨Nat.le_of_ble_eq_true rfl, Nat.le_of_ble_eq_true rfl, Nat.le_of_ble_eq_true rfl, Nat.le_of_ble_eq_true rfl⟩ hl.1 (Nat.le_of_ble_eq_true rfl) d_X_least_45 (fun r1 u2 H locs h hw => ?_)
    refine lv_istore (lv' := [(6, .int (r1)), (0, .ref (ad 0)), (1, .int (x1)), (2, .int (x2)), (3, .int (x3)), (4, .int (x4)), (5, .int (x5))]) C.2.1 C.2.2.1 d_X_least_48 hl (by decide) rfl (fun ls hl => ?_)
    refine lv_iload C.2.1 C.2.2.1 d_X_least_50 (lv_at hl 0 rfl) ?_
    refine lv_iconst (v := (-1)) C.2.1 C.2.2.1 d_X_least_52 (by decide) ?_
    refine lv_icmp_eq (tgt := 75) C.2.1 C.2.2.1 d_X_least_53 (by decide) (fun c => ?_) (fun c => ?_)
    · have h := h.1 c
      exact w_X_least_75 C htab hK27 (x1) (x2) (x3) (x4) (x5) _ _ _ _ hw (lv_sub hl [1, 2, 3, 4, 5, 6] rfl) h
    · have h := h.2 c
      refine lv_iload_n C.2.1 C.2.2.1 d_X_least_56 rfl (lv_at hl 4 rfl) ?_
      refine lv_iconst (v := (-1)) C.2.1 C.2.2.1 d_X_least_57 (by decide) ?_
      refine lv_icmp_eq (tgt := 68) C.2.1 C.2.2.1 d_X_least_58 (by decide) (fun c => ?_) (fun c => ?_)
      · have h := h.1 c
        exact w_X_least_68 C htab hK27 (x1) (x2) (x5) (r1) _ _ _ _ hw (lv_sub hl [1, 2, 3, 6, 0] rfl) h
      · have h := h.2 c
        refine lv_iload C.2.1 C.2.2.1 d_X_least_61 (lv_at hl 0 rfl) ?_
        refine lv_iload C.2.1 C.2.2.1 d_X_least_63 (lv_at hl 5 rfl) ?_
        refine lv_icmp_ge (tgt := 75) C.2.1 C.2.2.1 d_X_least_65 (by decide) (fun c => ?_) (fun c => ?_)
        · have h := h.1 c
          exact w_X_least_75 C htab hK27 (x1) (x2) (x3) (x4) (x5) _ _ _ _ hw (lv_sub hl [1, 2, 3, 4, 5, 6] rfl) h
        · have h := h.2 c
          exact w_X_least_68 C htab hK27 (x1) (x2) (x5) (r1) _ _ _ _ hw (lv_sub hl [1, 2, 3, 6, 0] rfl) h
def q_X_least_27N : Nat → Int32 → Int32 → Int32 → Int32 → Int32 → CT → (Int32 → CT → Prop) → (String → CT → Prop) → Prop
  | 0 => fun _ _ _ _ _ _ _ _ => False
  | n + 1 => fun x1 x2 x3 x4 x5 u post ex => q_X_least_27 (fun x1 x2 x3 x4 x5 u => q_X_least_27N n x1 x2 x3 x4 x5 u post ex) x1 x2 x3 x4 x5 u post ex
theorem w_X_least_27N {p : Program} {l : Launch} {e : Env} {s : State} {m : MethodId} {args : Array Value} {below : List Frame} {meth : Method} {c : Code} {Z : ZT} {ad : Nat → Nat} {u0 : CT} {post : Int32 → CT → Prop} {ex : String → CT → Prop} (C : CX "CoderTables" b_X_least 7 (some .int) Z (va_A (cX Z ad u0) s.heap.size) p l s m args meth c) (htab : ∀ x ∈ c.exceptionTable.toList, False) : ∀ (n : Nat) (x1 : Int32) (x2 : Int32) (x3 : Int32) (x4 : Int32) (x5 : Int32) (u : CT) (H : Heap) (locs : List Loc) (ls : Array Slot), WD Z (va_A (cX Z ad u0) s.heap.size) s (cX Z ad u) H locs → lv_has ls 7 [(0, .ref (ad 0)), (1, .int (x1)), (2, .int (x2)), (3, .int (x3)), (4, .int (x4)), (5, .int (x5))] → q_X_least_27N n x1 x2 x3 x4 x5 u post ex → W p l e rm_X_least s m args below meth c H locs 0 0 (vx_MQ below (pQi Z (cX Z ad) (cX Z ad u0) s.heap.size post) (pX Z (cX Z ad) (cX Z ad u0) s.heap.size ex) args s 0 0 rm_X_least.cells rm_X_least.slots (va_A (cX Z ad u0) s.heap.size)) (F0 m 27 ls []) := by
  intro n
  induction n with
  | zero => intro x1 x2 x3 x4 x5 u H locs ls hw hl h; exact h.elim
  | succ n ih => intro x1 x2 x3 x4 x5 u H locs ls hw hl h; exact w_X_least_27 C htab (fun x1 x2 x3 x4 x5 u H locs ls h hw hl => ih x1 x2 x3 x4 x5 u H locs ls hw hl h) x1 x2 x3 x4 x5 u H locs ls hw hl h
def q_X_least (p1 : Int32) (p2 : Int32) (u : CT) (post : Int32 → CT → Prop) (ex : String → CT → Prop) : Prop :=
  q_X_needPicture (p1) (u) (fun u4 => ((0 ≤ (p2) → ∃ n, q_X_least_27N n (p1) (p2) (((-1) : Int32)) (((0) : Int32)) (((0) : Int32)) (u4) post ex) ∧ (¬ 0 ≤ (p2) → ex "java/lang/IllegalArgumentException" (u4)))) ex
set_option maxRecDepth 100000 in
theorem c_X_least {l : Launch} {Z : ZT} {ad : Nat → Nat} {u : CT} {post : Int32 → CT → Prop} {ex : String → CT → Prop} {p1 : Int32} {p2 : Int32} (hl0 : l.stackTraces = false) (h : q_X_least p1 p2 u post ex) : ∀ sz, vx_Met l y_X_least (Cond.code y_X_least b_X_least 7 (some .int) :: GW) rm_X_least (pP Z [.ref (ad 0), .int (p1), .int (p2)] (cX Z ad u) sz) (pQi Z (cX Z ad) (cX Z ad u) sz post) (pX Z (cX Z ad) (cX Z ad u) sz ex) 0 0 rm_X_least.cells rm_X_least.slots (va_A (cX Z ad u) sz) := by
  refine g_ent (f := cX Z ad) (Qc := fun sz => pQi Z (cX Z ad) (cX Z ad u) sz post) (XC := fun sz => pX Z (cX Z ad) (cX Z ad u) sz ex) hl0 (by decide +kernel) (Nat.le_of_ble_eq_true rfl) ?_
  intro p e s m args below meth c ls C htab hw hl
  have hl : lv_has ls 7 [(0, .ref (ad 0)), (1, .int (p1)), (2, .int (p2))] := hl
  unfold q_X_least at h
  refine lv_aload_n C.2.1 C.2.2.1 d_X_least_0 rfl (lv_at hl 0 rfl) ?_
  refine lv_iload_n C.2.1 C.2.2.1 d_X_least_1 rfl (lv_at hl 1 rfl) ?_
  refine k_X_106 C hw h ⟨Nat.le_of_ble_eq_true rfl, Nat.le_of_ble_eq_true rfl, Nat.le_of_ble_eq_true rfl, Nat.le_of_ble_eq_true rfl⟩ hl.1 (Nat.le_of_ble_eq_true rfl) d_X_least_2 (fun _ _ _ _ _ _ he hw h1 h2 h3 => g_out C htab hw he h1 h2 h3 (Nat.le_of_ble_eq_true rfl) (Nat.le_of_ble_eq_true rfl)) (fun u4 H locs h hw => ?_)
  refine lv_iload_n C.2.1 C.2.2.1 d_X_least_5 rfl (lv_at hl 2 rfl) ?_
  refine lv_if_ge (tgt := 19) C.2.1 C.2.2.1 d_X_least_6 (by decide) (fun c => ?_) (fun c => ?_)
  · have h := h.1 c
    refine lv_iconst (v := (-1)) C.2.1 C.2.2.1 d_X_least_19 (by decide) ?_
    refine lv_istore_n (lv' := [(3, .int (((-1) : Int32))), (0, .ref (ad 0)), (1, .int (p1)), (2, .int (p2))]) C.2.1 C.2.2.1 d_X_least_20 rfl hl (by decide) rfl (fun ls hl => ?_)
    refine lv_iconst (v := (0)) C.2.1 C.2.2.1 d_X_least_21 (by decide) ?_
    refine lv_istore (lv' := [(4, .int (((0) : Int32))), (3, .int (((-1) : Int32))), (0, .ref (ad 0)), (1, .int (p1)), (2, .int (p2))]) C.2.1 C.2.2.1 d_X_least_22 hl (by decide) rfl (fun ls hl => ?_)
    refine lv_iconst (v := (0)) C.2.1 C.2.2.1 d_X_least_24 (by decide) ?_
    refine lv_istore (lv' := [(5, .int (((0) : Int32))), (4, .int (((0) : Int32))), (3, .int (((-1) : Int32))), (0, .ref (ad 0)), (1, .int (p1)), (2, .int (p2))]) C.2.1 C.2.2.1 d_X_least_25 hl (by decide) rfl (fun ls hl => ?_)
    obtain ⟨n, h⟩ := h
    exact w_X_least_27N C htab n (p1) (p2) (((-1) : Int32)) (((0) : Int32)) (((0) : Int32)) _ _ _ _ hw (lv_sub hl [3, 4, 5, 2, 1, 0] rfl) h
  · have h := h.2 c
    exact g_throw C htab hw hE_G sg_109 h hl.1 d_X_least_9 d_X_least_12 d_X_least_13 d_X_least_15 d_X_least_18 ⟨Nat.le_of_ble_eq_true rfl, Nat.le_of_ble_eq_true rfl, Nat.le_of_ble_eq_true rfl, Nat.le_of_ble_eq_true rfl⟩ (Nat.le_of_ble_eq_true rfl) (Nat.le_of_ble_eq_true rfl)
/-! CoderTables.isCounted(I)Z -/
abbrev rm_X_isCounted : Room := { frames := 0, cells := 0, slots := 0, locals := 0 }
def q_X_isCounted (p1 : Int32) (u : CT) (post : Int32 → CT → Prop) : Prop :=
  (vp_in (p1) 192 ∧ (((x_pointCounts (u) (p1).toNatClampNeg) ≤ 0 → (narrow .boolean (.int (((0) : Int32))) = .int (((0) : Int32)) ∧ post (((0) : Int32)) (u))) ∧ (¬ (x_pointCounts (u) (p1).toNatClampNeg) ≤ 0 → (narrow .boolean (.int (((1) : Int32))) = .int (((1) : Int32)) ∧ post (((1) : Int32)) (u)))))
set_option maxRecDepth 100000 in
theorem c_X_isCounted {l : Launch} {Z : ZT} {ad : Nat → Nat} {u : CT} {post : Int32 → CT → Prop} {p1 : Int32} (hl0 : l.stackTraces = false) (h : q_X_isCounted p1 u post) : ∀ sz, vx_Met l y_X_isCounted (Cond.code y_X_isCounted b_X_isCounted 2 (some .boolean) :: GW) rm_X_isCounted (pP Z [.ref (ad 0), .int (p1)] (cX Z ad u) sz) (pQi Z (cX Z ad) (cX Z ad u) sz post) (pX Z (cX Z ad) (cX Z ad u) sz (fun _ _ => False)) 0 0 rm_X_isCounted.cells rm_X_isCounted.slots (va_A (cX Z ad u) sz) := by
  refine g_ent (f := cX Z ad) (Qc := fun sz => pQi Z (cX Z ad) (cX Z ad u) sz post) (XC := fun sz => pX Z (cX Z ad) (cX Z ad u) sz (fun _ _ => False)) hl0 (by decide +kernel) (Nat.le_of_ble_eq_true rfl) ?_
  intro p e s m args below meth c ls C htab hw hl
  have hl : lv_has ls 2 [(0, .ref (ad 0)), (1, .int (p1))] := hl
  unfold q_X_isCounted at h
  refine lv_aload_n C.2.1 C.2.2.1 d_X_isCounted_0 rfl (lv_at hl 0 rfl) ?_
  refine r_X_16 C hw d_X_isCounted_1 ?_
  refine lv_iload_n C.2.1 C.2.2.1 d_X_isCounted_4 rfl (lv_at hl 1 rfl) ?_
  obtain ⟨hi, h⟩ := h
  refine al_X_1 C hw hi d_X_isCounted_5 ?_
  refine lv_if_le (tgt := 13) C.2.1 C.2.2.1 d_X_isCounted_6 (by decide) (fun c => ?_) (fun c => ?_)
  · have h := h.1 c
    refine lv_iconst (v := (0)) C.2.1 C.2.2.1 d_X_isCounted_13 (by decide) ?_
    exact g_iret C hw h.1 h.2 d_X_isCounted_14
  · have h := h.2 c
    refine lv_iconst (v := (1)) C.2.1 C.2.2.1 d_X_isCounted_9 (by decide) ?_
    refine lv_goto (tgt := 14) C.2.1 C.2.2.1 d_X_isCounted_10 (by decide) ?_
    exact g_iret C hw h.1 h.2 d_X_isCounted_14
section KR
variable {own host : String} {cc bytes : ByteArray} {nL maxL index n : Nat} {rt0 rt : Option FieldType} {Z : ZT} {ad : Nat → Nat} {A : Nat → Prop}
variable {p : Program} {l : Launch} {e : Env} {R : Room} {s : State} {m : MethodId} {args : Array Value} {below : List Frame} {meth : Method} {c : Code} {H : Heap} {locs : List Loc} {cells slots : Nat} {Q : State → Prop} {rest : List Value} {pc : Nat} {ls : Array Slot}
theorem k_X_224 {u : CT} {p1 : Int32} {post : Int32 → CT → Prop} (C : CX "CoderTables" cc nL rt0 Z A p l s m args meth c) (hw : WD Z A s (cX Z ad u) H locs) (h : q_X_isCounted p1 u post) (hR : rmOk rm_X_isCounted 2 R cells slots) (hl : ls.size = nL) (hW : (rest.map fun v => v.category).sum ≤ 8) (hdg : decode cc pc = .ok (.invokevirtual 224, 3)) (kk : ∀ (r : Int32) (u' : CT) (H1 : Heap) (locs1 : List Loc), post r u' → WD Z A s (cX Z ad u') H1 locs1 → W p l e R s m args below meth c H1 locs1 cells slots Q (F0 m (pc + 3) ls (.int r :: rest))) : W p l e R s m args below meth c H locs cells slots Q (F0 m pc ls (.int (p1) :: .ref (ad 0) :: rest)) :=
  g_V0_i (n := 1) (f := cX Z ad) (As := [.int (p1)]) C hw (c_X_isCounted C.1 h) ⟨w201, w203, w10, w53, w204, (by decide +kernel), (by decide +kernel), (by decide +kernel)⟩ hR 0 rfl rfl rfl hl rfl hW hdg (fun _ _ _ _ _ _ h => h.elim) kk
end KR
/-! CoderTables.countedOf(I)I -/
abbrev rm_X_countedOf : Room := { frames := 1, cells := 0, slots := 0, locals := 21 }
def q_X_countedOf_28 (K4 : Int32 → Int32 → Int32 → CT → Prop) (x1 : Int32) (x2 : Int32) (x3 : Int32) (u : CT) (post : Int32 → CT → Prop) : Prop :=
  K4 (x1) (x2) ((x3) + 1) (u)
set_option maxRecDepth 100000 in
theorem w_X_countedOf_28 {p : Program} {l : Launch} {e : Env} {s : State} {m : MethodId} {args : Array Value} {below : List Frame} {meth : Method} {c : Code} {Z : ZT} {ad : Nat → Nat} {u0 : CT} {post : Int32 → CT → Prop} {K4 : Int32 → Int32 → Int32 → CT → Prop} (C : CX "CoderTables" b_X_countedOf 4 (some .int) Z (va_A (cX Z ad u0) s.heap.size) p l s m args meth c) (htab : ∀ x ∈ c.exceptionTable.toList, False) (hK4 : ∀ (x1 : Int32) (x2 : Int32) (x3 : Int32) (u : CT) (H : Heap) (locs : List Loc) (ls : Array Slot), K4 x1 x2 x3 u → WD Z (va_A (cX Z ad u0) s.heap.size) s (cX Z ad u) H locs → lv_has ls 4 [(0, .ref (ad 0)), (1, .int (x1)), (2, .int (x2)), (3, .int (x3))] → W p l e rm_X_countedOf s m args below meth c H locs 0 0 (vx_MQ below (pQi Z (cX Z ad) (cX Z ad u0) s.heap.size post) (pX Z (cX Z ad) (cX Z ad u0) s.heap.size (fun _ _ => False)) args s 0 0 rm_X_countedOf.cells rm_X_countedOf.slots (va_A (cX Z ad u0) s.heap.size)) (F0 m 4 ls [])) (x1 : Int32) (x2 : Int32) (x3 : Int32) (u : CT) (H : Heap) (locs : List Loc) (ls : Array Slot) (hw : WD Z (va_A (cX Z ad u0) s.heap.size) s (cX Z ad u) H locs) (hl : lv_has ls 4 [(0, .ref (ad 0)), (1, .int (x1)), (2, .int (x2)), (3, .int (x3))]) (h : q_X_countedOf_28 K4 x1 x2 x3 u post) : W p l e rm_X_countedOf s m args below meth c H locs 0 0 (vx_MQ below (pQi Z (cX Z ad) (cX Z ad u0) s.heap.size post) (pX Z (cX Z ad) (cX Z ad u0) s.heap.size (fun _ _ => False)) args s 0 0 rm_X_countedOf.cells rm_X_countedOf.slots (va_A (cX Z ad u0) s.heap.size)) (F0 m 28 ls []) := by
  unfold q_X_countedOf_28 at h
  refine lv_iinc (v := (x3) + 1) (lv' := [(3, .int ((x3) + 1)), (0, .ref (ad 0)), (1, .int (x1)), (2, .int (x2))]) C.2.1 C.2.2.1 d_X_countedOf_28 hl (k := 3) rfl rfl (by decide) rfl (fun ls hl => ?_)
  refine lv_goto (tgt := 4) C.2.1 C.2.2.1 d_X_countedOf_31 (by decide) ?_
  exact hK4 (x1) (x2) ((x3) + 1) _ _ _ _ h hw (lv_sub hl [1, 2, 3, 0] rfl)
def q_X_countedOf_4 (K4 : Int32 → Int32 → Int32 → CT → Prop) (x1 : Int32) (x2 : Int32) (x3 : Int32) (u : CT) (post : Int32 → CT → Prop) : Prop :=
  (((x_pictures (u)) ≤ (x3) → post (x2) (u)) ∧ (¬ (x_pictures (u)) ≤ (x3) → q_X_isCounted (((x1) * (((24) : Int32))) + (x3)) (u) (fun r1 u2 => (((r1) = 0 → q_X_countedOf_28 K4 (x1) (x2) (x3) (u2) post) ∧ (¬ (r1) = 0 → q_X_countedOf_28 K4 (x1) ((x2) + 1) (x3) (u2) post)))))
set_option maxRecDepth 100000 in
theorem w_X_countedOf_4 {p : Program} {l : Launch} {e : Env} {s : State} {m : MethodId} {args : Array Value} {below : List Frame} {meth : Method} {c : Code} {Z : ZT} {ad : Nat → Nat} {u0 : CT} {post : Int32 → CT → Prop} {K4 : Int32 → Int32 → Int32 → CT → Prop} (C : CX "CoderTables" b_X_countedOf 4 (some .int) Z (va_A (cX Z ad u0) s.heap.size) p l s m args meth c) (htab : ∀ x ∈ c.exceptionTable.toList, False) (hK4 : ∀ (x1 : Int32) (x2 : Int32) (x3 : Int32) (u : CT) (H : Heap) (locs : List Loc) (ls : Array Slot), K4 x1 x2 x3 u → WD Z (va_A (cX Z ad u0) s.heap.size) s (cX Z ad u) H locs → lv_has ls 4 [(0, .ref (ad 0)), (1, .int (x1)), (2, .int (x2)), (3, .int (x3))] → W p l e rm_X_countedOf s m args below meth c H locs 0 0 (vx_MQ below (pQi Z (cX Z ad) (cX Z ad u0) s.heap.size post) (pX Z (cX Z ad) (cX Z ad u0) s.heap.size (fun _ _ => False)) args s 0 0 rm_X_countedOf.cells rm_X_countedOf.slots (va_A (cX Z ad u0) s.heap.size)) (F0 m 4 ls [])) (x1 : Int32) (x2 : Int32) (x3 : Int32) (u : CT) (H : Heap) (locs : List Loc) (ls : Array Slot) (hw : WD Z (va_A (cX Z ad u0) s.heap.size) s (cX Z ad u) H locs) (hl : lv_has ls 4 [(0, .ref (ad 0)), (1, .int (x1)), (2, .int (x2)), (3, .int (x3))]) (h : q_X_countedOf_4 K4 x1 x2 x3 u post) : W p l e rm_X_countedOf s m args below meth c H locs 0 0 (vx_MQ below (pQi Z (cX Z ad) (cX Z ad u0) s.heap.size post) (pX Z (cX Z ad) (cX Z ad u0) s.heap.size (fun _ _ => False)) args s 0 0 rm_X_countedOf.cells rm_X_countedOf.slots (va_A (cX Z ad u0) s.heap.size)) (F0 m 4 ls []) := by
  unfold q_X_countedOf_4 at h
  refine lv_iload_n C.2.1 C.2.2.1 d_X_countedOf_4 rfl (lv_at hl 3 rfl) ?_
  refine lv_aload_n C.2.1 C.2.2.1 d_X_countedOf_5 rfl (lv_at hl 0 rfl) ?_
  refine r_X_13 C hw d_X_countedOf_6 ?_
  refine lv_icmp_ge (tgt := 34) C.2.1 C.2.2.1 d_X_countedOf_9 (by decide) (fun c => ?_) (fun c => ?_)
  · have h := h.1 c
    refine lv_iload_n C.2.1 C.2.2.1 d_X_countedOf_34 rfl (lv_at hl 2 rfl) ?_
    exact g_iret C hw rfl h d_X_countedOf_35
  · have h := h.2 c
    refine lv_aload_n C.2.1 C.2.2.1 d_X_countedOf_12 rfl (lv_at hl 0 rfl) ?_
    refine lv_iload_n C.2.1 C.2.2.1 d_X_countedOf_13 rfl (lv_at hl 1 rfl) ?_
    refine lv_bipush (v := (24)) C.2.1 C.2.2.1 d_X_countedOf_14 (by decide) ?_
    refine lv_imul C.2.1 C.2.2.1 d_X_countedOf_16 ?_
    refine lv_iload_n C.2.1 C.2.2.1 d_X_countedOf_17 rfl (lv_at hl 3 rfl) ?_
    refine lv_iadd C.2.1 C.2.2.1 d_X_countedOf_18 ?_
    refine k_X_224 C hw h ⟨Nat.le_of_ble_eq_true rfl, Nat.le_of_ble_eq_true rfl, Nat.le_of_ble_eq_true rfl, Nat.le_of_ble_eq_true rfl⟩ hl.1 (Nat.le_of_ble_eq_true rfl) d_X_countedOf_19 (fun r1 u2 H locs h hw => ?_)
    refine lv_if_eq (tgt := 28) C.2.1 C.2.2.1 d_X_countedOf_22 (by decide) (fun c => ?_) (fun c => ?_)
    · have h := h.1 c
      exact w_X_countedOf_28 C htab hK4 (x1) (x2) (x3) _ _ _ _ hw (lv_sub hl [0, 1, 2, 3] rfl) h
    · have h := h.2 c
      refine lv_iinc (v := (x2) + 1) (lv' := [(2, .int ((x2) + 1)), (0, .ref (ad 0)), (1, .int (x1)), (3, .int (x3))]) C.2.1 C.2.2.1 d_X_countedOf_25 hl (k := 2) rfl rfl (by decide) rfl (fun ls hl => ?_)
      exact w_X_countedOf_28 C htab hK4 (x1) ((x2) + 1) (x3) _ _ _ _ hw (lv_sub hl [1, 2, 0, 3] rfl) h
def q_X_countedOf_4N : Nat → Int32 → Int32 → Int32 → CT → (Int32 → CT → Prop) → Prop
  | 0 => fun _ _ _ _ _ => False
  | n + 1 => fun x1 x2 x3 u post => q_X_countedOf_4 (fun x1 x2 x3 u => q_X_countedOf_4N n x1 x2 x3 u post) x1 x2 x3 u post
theorem w_X_countedOf_4N {p : Program} {l : Launch} {e : Env} {s : State} {m : MethodId} {args : Array Value} {below : List Frame} {meth : Method} {c : Code} {Z : ZT} {ad : Nat → Nat} {u0 : CT} {post : Int32 → CT → Prop} (C : CX "CoderTables" b_X_countedOf 4 (some .int) Z (va_A (cX Z ad u0) s.heap.size) p l s m args meth c) (htab : ∀ x ∈ c.exceptionTable.toList, False) : ∀ (n : Nat) (x1 : Int32) (x2 : Int32) (x3 : Int32) (u : CT) (H : Heap) (locs : List Loc) (ls : Array Slot), WD Z (va_A (cX Z ad u0) s.heap.size) s (cX Z ad u) H locs → lv_has ls 4 [(0, .ref (ad 0)), (1, .int (x1)), (2, .int (x2)), (3, .int (x3))] → q_X_countedOf_4N n x1 x2 x3 u post → W p l e rm_X_countedOf s m args below meth c H locs 0 0 (vx_MQ below (pQi Z (cX Z ad) (cX Z ad u0) s.heap.size post) (pX Z (cX Z ad) (cX Z ad u0) s.heap.size (fun _ _ => False)) args s 0 0 rm_X_countedOf.cells rm_X_countedOf.slots (va_A (cX Z ad u0) s.heap.size)) (F0 m 4 ls []) := by
  intro n
  induction n with
  | zero => intro x1 x2 x3 u H locs ls hw hl h; exact h.elim
  | succ n ih => intro x1 x2 x3 u H locs ls hw hl h; exact w_X_countedOf_4 C htab (fun x1 x2 x3 u H locs ls h hw hl => ih x1 x2 x3 u H locs ls hw hl h) x1 x2 x3 u H locs ls hw hl h
def q_X_countedOf (p1 : Int32) (u : CT) (post : Int32 → CT → Prop) : Prop :=
  ∃ n, q_X_countedOf_4N n (p1) (((0) : Int32)) (((0) : Int32)) (u) post
set_option maxRecDepth 100000 in
theorem c_X_countedOf {l : Launch} {Z : ZT} {ad : Nat → Nat} {u : CT} {post : Int32 → CT → Prop} {p1 : Int32} (hl0 : l.stackTraces = false) (h : q_X_countedOf p1 u post) : ∀ sz, vx_Met l y_X_countedOf (Cond.code y_X_countedOf b_X_countedOf 4 (some .int) :: GW) rm_X_countedOf (pP Z [.ref (ad 0), .int (p1)] (cX Z ad u) sz) (pQi Z (cX Z ad) (cX Z ad u) sz post) (pX Z (cX Z ad) (cX Z ad u) sz (fun _ _ => False)) 0 0 rm_X_countedOf.cells rm_X_countedOf.slots (va_A (cX Z ad u) sz) := by
  refine g_ent (f := cX Z ad) (Qc := fun sz => pQi Z (cX Z ad) (cX Z ad u) sz post) (XC := fun sz => pX Z (cX Z ad) (cX Z ad u) sz (fun _ _ => False)) hl0 (by decide +kernel) (Nat.le_of_ble_eq_true rfl) ?_
  intro p e s m args below meth c ls C htab hw hl
  have hl : lv_has ls 4 [(0, .ref (ad 0)), (1, .int (p1))] := hl
  unfold q_X_countedOf at h
  refine lv_iconst (v := (0)) C.2.1 C.2.2.1 d_X_countedOf_0 (by decide) ?_
  refine lv_istore_n (lv' := [(2, .int (((0) : Int32))), (0, .ref (ad 0)), (1, .int (p1))]) C.2.1 C.2.2.1 d_X_countedOf_1 rfl hl (by decide) rfl (fun ls hl => ?_)
  refine lv_iconst (v := (0)) C.2.1 C.2.2.1 d_X_countedOf_2 (by decide) ?_
  refine lv_istore_n (lv' := [(3, .int (((0) : Int32))), (2, .int (((0) : Int32))), (0, .ref (ad 0)), (1, .int (p1))]) C.2.1 C.2.2.1 d_X_countedOf_3 rfl hl (by decide) rfl (fun ls hl => ?_)
  obtain ⟨n, h⟩ := h
  exact w_X_countedOf_4N C htab n (p1) (((0) : Int32)) (((0) : Int32)) _ _ _ _ hw (lv_sub hl [2, 3, 1, 0] rfl) h
section KR
variable {own host : String} {cc bytes : ByteArray} {nL maxL index n : Nat} {rt0 rt : Option FieldType} {Z : ZT} {ad : Nat → Nat} {A : Nat → Prop}
variable {p : Program} {l : Launch} {e : Env} {R : Room} {s : State} {m : MethodId} {args : Array Value} {below : List Frame} {meth : Method} {c : Code} {H : Heap} {locs : List Loc} {cells slots : Nat} {Q : State → Prop} {rest : List Value} {pc : Nat} {ls : Array Slot}
theorem k_X_117 {u : CT} {p1 : Int32} {post : Int32 → CT → Prop} (C : CX "CoderTables" cc nL rt0 Z A p l s m args meth c) (hw : WD Z A s (cX Z ad u) H locs) (h : q_X_countedOf p1 u post) (hR : rmOk rm_X_countedOf 4 R cells slots) (hl : ls.size = nL) (hW : (rest.map fun v => v.category).sum ≤ 8) (hdg : decode cc pc = .ok (.invokevirtual 117, 3)) (kk : ∀ (r : Int32) (u' : CT) (H1 : Heap) (locs1 : List Loc), post r u' → WD Z A s (cX Z ad u') H1 locs1 → W p l e R s m args below meth c H1 locs1 cells slots Q (F0 m (pc + 3) ls (.int r :: rest))) : W p l e R s m args below meth c H locs cells slots Q (F0 m pc ls (.int (p1) :: .ref (ad 0) :: rest)) :=
  g_V0_i (n := 1) (f := cX Z ad) (As := [.int (p1)]) C hw (c_X_countedOf C.1 h) ⟨w197, w199, w9, w53, w200, (by decide +kernel), (by decide +kernel), (by decide +kernel)⟩ hR 0 rfl rfl rfl hl rfl hW hdg (fun _ _ _ _ _ _ h => h.elim) kk
end KR
/-! CoderTables.sumOf(I)J -/
abbrev rm_X_sumOf : Room := { frames := 1, cells := 0, slots := 0, locals := 21 }
def q_X_sumOf_43 (K5 : Int32 → Int64 → Int32 → CT → Prop) (x1 : Int32) (x2 : Int64) (x4 : Int32) (u : CT) (post : Int64 → CT → Prop) : Prop :=
  K5 (x1) (x2) ((x4) + 1) (u)
set_option maxRecDepth 100000 in
theorem w_X_sumOf_43 {p : Program} {l : Launch} {e : Env} {s : State} {m : MethodId} {args : Array Value} {below : List Frame} {meth : Method} {c : Code} {Z : ZT} {ad : Nat → Nat} {u0 : CT} {post : Int64 → CT → Prop} {K5 : Int32 → Int64 → Int32 → CT → Prop} (C : CX "CoderTables" b_X_sumOf 6 (some .long) Z (va_A (cX Z ad u0) s.heap.size) p l s m args meth c) (htab : ∀ x ∈ c.exceptionTable.toList, False) (hK5 : ∀ (x1 : Int32) (x2 : Int64) (x4 : Int32) (u : CT) (H : Heap) (locs : List Loc) (ls : Array Slot), K5 x1 x2 x4 u → WD Z (va_A (cX Z ad u0) s.heap.size) s (cX Z ad u) H locs → lv_has ls 6 [(0, .ref (ad 0)), (1, .int (x1)), (2, .long (x2)), (4, .int (x4))] → W p l e rm_X_sumOf s m args below meth c H locs 0 0 (vx_MQ below (pQl Z (cX Z ad) (cX Z ad u0) s.heap.size post) (pX Z (cX Z ad) (cX Z ad u0) s.heap.size (fun _ _ => False)) args s 0 0 rm_X_sumOf.cells rm_X_sumOf.slots (va_A (cX Z ad u0) s.heap.size)) (F0 m 5 ls [])) (x1 : Int32) (x2 : Int64) (x4 : Int32) (u : CT) (H : Heap) (locs : List Loc) (ls : Array Slot) (hw : WD Z (va_A (cX Z ad u0) s.heap.size) s (cX Z ad u) H locs) (hl : lv_has ls 6 [(0, .ref (ad 0)), (1, .int (x1)), (2, .long (x2)), (4, .int (x4))]) (h : q_X_sumOf_43 K5 x1 x2 x4 u post) : W p l e rm_X_sumOf s m args below meth c H locs 0 0 (vx_MQ below (pQl Z (cX Z ad) (cX Z ad u0) s.heap.size post) (pX Z (cX Z ad) (cX Z ad u0) s.heap.size (fun _ _ => False)) args s 0 0 rm_X_sumOf.cells rm_X_sumOf.slots (va_A (cX Z ad u0) s.heap.size)) (F0 m 43 ls []) := by
  unfold q_X_sumOf_43 at h
  refine lv_iinc (v := (x4) + 1) (lv' := [(4, .int ((x4) + 1)), (0, .ref (ad 0)), (1, .int (x1)), (2, .long (x2))]) C.2.1 C.2.2.1 d_X_sumOf_43 hl (k := 3) rfl rfl (by decide) rfl (fun ls hl => ?_)
  refine lv_goto (tgt := 5) C.2.1 C.2.2.1 d_X_sumOf_46 (by decide) ?_
  exact hK5 (x1) (x2) ((x4) + 1) _ _ _ _ h hw (lv_sub hl [1, 2, 3, 0] rfl)
def q_X_sumOf_5 (K5 : Int32 → Int64 → Int32 → CT → Prop) (x1 : Int32) (x2 : Int64) (x4 : Int32) (u : CT) (post : Int64 → CT → Prop) : Prop :=
  (((x_pictures (u)) ≤ (x4) → post (x2) (u)) ∧ (¬ (x_pictures (u)) ≤ (x4) → q_X_isCounted (((x1) * (((24) : Int32))) + (x4)) (u) (fun r1 u2 => (((r1) = 0 → q_X_sumOf_43 K5 (x1) (x2) (x4) (u2) post) ∧ (¬ (r1) = 0 → (vp_in (((x1) * (((24) : Int32))) + (x4)) 192 ∧ q_X_sumOf_43 K5 (x1) ((x2) + ((x_leastBytes (u2) (((x1) * (((24) : Int32))) + (x4)).toNatClampNeg).toInt64)) (x4) (u2) post))))))
set_option maxRecDepth 100000 in
theorem w_X_sumOf_5 {p : Program} {l : Launch} {e : Env} {s : State} {m : MethodId} {args : Array Value} {below : List Frame} {meth : Method} {c : Code} {Z : ZT} {ad : Nat → Nat} {u0 : CT} {post : Int64 → CT → Prop} {K5 : Int32 → Int64 → Int32 → CT → Prop} (C : CX "CoderTables" b_X_sumOf 6 (some .long) Z (va_A (cX Z ad u0) s.heap.size) p l s m args meth c) (htab : ∀ x ∈ c.exceptionTable.toList, False) (hK5 : ∀ (x1 : Int32) (x2 : Int64) (x4 : Int32) (u : CT) (H : Heap) (locs : List Loc) (ls : Array Slot), K5 x1 x2 x4 u → WD Z (va_A (cX Z ad u0) s.heap.size) s (cX Z ad u) H locs → lv_has ls 6 [(0, .ref (ad 0)), (1, .int (x1)), (2, .long (x2)), (4, .int (x4))] → W p l e rm_X_sumOf s m args below meth c H locs 0 0 (vx_MQ below (pQl Z (cX Z ad) (cX Z ad u0) s.heap.size post) (pX Z (cX Z ad) (cX Z ad u0) s.heap.size (fun _ _ => False)) args s 0 0 rm_X_sumOf.cells rm_X_sumOf.slots (va_A (cX Z ad u0) s.heap.size)) (F0 m 5 ls [])) (x1 : Int32) (x2 : Int64) (x4 : Int32) (u : CT) (H : Heap) (locs : List Loc) (ls : Array Slot) (hw : WD Z (va_A (cX Z ad u0) s.heap.size) s (cX Z ad u) H locs) (hl : lv_has ls 6 [(0, .ref (ad 0)), (1, .int (x1)), (2, .long (x2)), (4, .int (x4))]) (h : q_X_sumOf_5 K5 x1 x2 x4 u post) : W p l e rm_X_sumOf s m args below meth c H locs 0 0 (vx_MQ below (pQl Z (cX Z ad) (cX Z ad u0) s.heap.size post) (pX Z (cX Z ad) (cX Z ad u0) s.heap.size (fun _ _ => False)) args s 0 0 rm_X_sumOf.cells rm_X_sumOf.slots (va_A (cX Z ad u0) s.heap.size)) (F0 m 5 ls []) := by
  unfold q_X_sumOf_5 at h
  refine lv_iload C.2.1 C.2.2.1 d_X_sumOf_5 (lv_at hl 3 rfl) ?_
  refine lv_aload_n C.2.1 C.2.2.1 d_X_sumOf_7 rfl (lv_at hl 0 rfl) ?_
  refine r_X_13 C hw d_X_sumOf_8 ?_
  refine lv_icmp_ge (tgt := 49) C.2.1 C.2.2.1 d_X_sumOf_11 (by decide) (fun c => ?_) (fun c => ?_)
  · have h := h.1 c
    refine lv_lload_n C.2.1 C.2.2.1 d_X_sumOf_49 rfl (lv_at hl 2 rfl) ?_
    exact g_lret C hw h d_X_sumOf_50
  · have h := h.2 c
    refine lv_iload_n C.2.1 C.2.2.1 d_X_sumOf_14 rfl (lv_at hl 1 rfl) ?_
    refine lv_bipush (v := (24)) C.2.1 C.2.2.1 d_X_sumOf_15 (by decide) ?_
    refine lv_imul C.2.1 C.2.2.1 d_X_sumOf_17 ?_
    refine lv_iload C.2.1 C.2.2.1 d_X_sumOf_18 (lv_at hl 3 rfl) ?_
    refine lv_iadd C.2.1 C.2.2.1 d_X_sumOf_20 ?_
    refine lv_istore (lv' := [(5, .int (((x1) * (((24) : Int32))) + (x4))), (0, .ref (ad 0)), (1, .int (x1)), (2, .long (x2)), (4, .int (x4))]) C.2.1 C.2.2.1 d_X_sumOf_21 hl (by decide) rfl (fun ls hl => ?_)
    refine lv_aload_n C.2.1 C.2.2.1 d_X_sumOf_23 rfl (lv_at hl 1 rfl) ?_
    refine lv_iload C.2.1 C.2.2.1 d_X_sumOf_24 (lv_at hl 0 rfl) ?_
    refine k_X_224 C hw h ⟨Nat.le_of_ble_eq_true rfl, Nat.le_of_ble_eq_true rfl, Nat.le_of_ble_eq_true rfl, Nat.le_of_ble_eq_true rfl⟩ hl.1 (Nat.le_of_ble_eq_true rfl) d_X_sumOf_26 (fun r1 u2 H locs h hw => ?_)
    refine lv_if_eq (tgt := 43) C.2.1 C.2.2.1 d_X_sumOf_29 (by decide) (fun c => ?_) (fun c => ?_)
    · have h := h.1 c
      exact w_X_sumOf_43 C htab hK5 (x1) (x2) (x4) _ _ _ _ hw (lv_sub hl [1, 2, 3, 4] rfl) h
    · have h := h.2 c
      refine lv_lload_n C.2.1 C.2.2.1 d_X_sumOf_32 rfl (lv_at hl 3 rfl) ?_
      refine lv_aload_n C.2.1 C.2.2.1 d_X_sumOf_33 rfl (lv_at hl 1 rfl) ?_
      refine r_X_20 C hw d_X_sumOf_34 ?_
      refine lv_iload C.2.1 C.2.2.1 d_X_sumOf_37 (lv_at hl 0 rfl) ?_
      obtain ⟨hi, h⟩ := h
      refine al_X_2 C hw hi d_X_sumOf_39 ?_
      refine lv_i2l C.2.1 C.2.2.1 d_X_sumOf_40 rfl ?_
      refine lv_ladd C.2.1 C.2.2.1 d_X_sumOf_41 ?_
      refine lv_lstore_n (lv' := [(2, .long ((x2) + ((x_leastBytes (u2) (((x1) * (((24) : Int32))) + (x4)).toNatClampNeg).toInt64))), (5, .int (((x1) * (((24) : Int32))) + (x4))), (0, .ref (ad 0)), (1, .int (x1)), (4, .int (x4))]) C.2.1 C.2.2.1 d_X_sumOf_42 rfl hl (by decide) rfl (fun ls hl => ?_)
      exact w_X_sumOf_43 C htab hK5 (x1) ((x2) + ((x_leastBytes (u2) (((x1) * (((24) : Int32))) + (x4)).toNatClampNeg).toInt64)) (x4) _ _ _ _ hw (lv_sub hl [2, 3, 0, 4] rfl) h
def q_X_sumOf_5N : Nat → Int32 → Int64 → Int32 → CT → (Int64 → CT → Prop) → Prop
  | 0 => fun _ _ _ _ _ => False
  | n + 1 => fun x1 x2 x4 u post => q_X_sumOf_5 (fun x1 x2 x4 u => q_X_sumOf_5N n x1 x2 x4 u post) x1 x2 x4 u post
theorem w_X_sumOf_5N {p : Program} {l : Launch} {e : Env} {s : State} {m : MethodId} {args : Array Value} {below : List Frame} {meth : Method} {c : Code} {Z : ZT} {ad : Nat → Nat} {u0 : CT} {post : Int64 → CT → Prop} (C : CX "CoderTables" b_X_sumOf 6 (some .long) Z (va_A (cX Z ad u0) s.heap.size) p l s m args meth c) (htab : ∀ x ∈ c.exceptionTable.toList, False) : ∀ (n : Nat) (x1 : Int32) (x2 : Int64) (x4 : Int32) (u : CT) (H : Heap) (locs : List Loc) (ls : Array Slot), WD Z (va_A (cX Z ad u0) s.heap.size) s (cX Z ad u) H locs → lv_has ls 6 [(0, .ref (ad 0)), (1, .int (x1)), (2, .long (x2)), (4, .int (x4))] → q_X_sumOf_5N n x1 x2 x4 u post → W p l e rm_X_sumOf s m args below meth c H locs 0 0 (vx_MQ below (pQl Z (cX Z ad) (cX Z ad u0) s.heap.size post) (pX Z (cX Z ad) (cX Z ad u0) s.heap.size (fun _ _ => False)) args s 0 0 rm_X_sumOf.cells rm_X_sumOf.slots (va_A (cX Z ad u0) s.heap.size)) (F0 m 5 ls []) := by
  intro n
  induction n with
  | zero => intro x1 x2 x4 u H locs ls hw hl h; exact h.elim
  | succ n ih => intro x1 x2 x4 u H locs ls hw hl h; exact w_X_sumOf_5 C htab (fun x1 x2 x4 u H locs ls h hw hl => ih x1 x2 x4 u H locs ls hw hl h) x1 x2 x4 u H locs ls hw hl h
def q_X_sumOf (p1 : Int32) (u : CT) (post : Int64 → CT → Prop) : Prop :=
  ∃ n, q_X_sumOf_5N n (p1) ((0 : Int64)) (((0) : Int32)) (u) post
set_option maxRecDepth 100000 in
theorem c_X_sumOf {l : Launch} {Z : ZT} {ad : Nat → Nat} {u : CT} {post : Int64 → CT → Prop} {p1 : Int32} (hl0 : l.stackTraces = false) (h : q_X_sumOf p1 u post) : ∀ sz, vx_Met l y_X_sumOf (Cond.code y_X_sumOf b_X_sumOf 6 (some .long) :: GW) rm_X_sumOf (pP Z [.ref (ad 0), .int (p1)] (cX Z ad u) sz) (pQl Z (cX Z ad) (cX Z ad u) sz post) (pX Z (cX Z ad) (cX Z ad u) sz (fun _ _ => False)) 0 0 rm_X_sumOf.cells rm_X_sumOf.slots (va_A (cX Z ad u) sz) := by
  refine g_ent (f := cX Z ad) (Qc := fun sz => pQl Z (cX Z ad) (cX Z ad u) sz post) (XC := fun sz => pX Z (cX Z ad) (cX Z ad u) sz (fun _ _ => False)) hl0 (by decide +kernel) (Nat.le_of_ble_eq_true rfl) ?_
  intro p e s m args below meth c ls C htab hw hl
  have hl : lv_has ls 6 [(0, .ref (ad 0)), (1, .int (p1))] := hl
  unfold q_X_sumOf at h
  refine lv_lconst (v := 0) C.2.1 C.2.2.1 d_X_sumOf_0 (by decide) ?_
  refine lv_lstore_n (lv' := [(2, .long ((0 : Int64))), (0, .ref (ad 0)), (1, .int (p1))]) C.2.1 C.2.2.1 d_X_sumOf_1 rfl hl (by decide) rfl (fun ls hl => ?_)
  refine lv_iconst (v := (0)) C.2.1 C.2.2.1 d_X_sumOf_2 (by decide) ?_
  refine lv_istore (lv' := [(4, .int (((0) : Int32))), (2, .long ((0 : Int64))), (0, .ref (ad 0)), (1, .int (p1))]) C.2.1 C.2.2.1 d_X_sumOf_3 hl (by decide) rfl (fun ls hl => ?_)
  obtain ⟨n, h⟩ := h
  exact w_X_sumOf_5N C htab n (p1) ((0 : Int64)) (((0) : Int32)) _ _ _ _ hw (lv_sub hl [2, 3, 1, 0] rfl) h
section KR
variable {own host : String} {cc bytes : ByteArray} {nL maxL index n : Nat} {rt0 rt : Option FieldType} {Z : ZT} {ad : Nat → Nat} {A : Nat → Prop}
variable {p : Program} {l : Launch} {e : Env} {R : Room} {s : State} {m : MethodId} {args : Array Value} {below : List Frame} {meth : Method} {c : Code} {H : Heap} {locs : List Loc} {cells slots : Nat} {Q : State → Prop} {rest : List Value} {pc : Nat} {ls : Array Slot}
theorem k_X_123 {u : CT} {p1 : Int32} {post : Int64 → CT → Prop} (C : CX "CoderTables" cc nL rt0 Z A p l s m args meth c) (hw : WD Z A s (cX Z ad u) H locs) (h : q_X_sumOf p1 u post) (hR : rmOk rm_X_sumOf 6 R cells slots) (hl : ls.size = nL) (hW : (rest.map fun v => v.category).sum ≤ 8) (hdg : decode cc pc = .ok (.invokevirtual 123, 3)) (kk : ∀ (r : Int64) (u' : CT) (H1 : Heap) (locs1 : List Loc), post r u' → WD Z A s (cX Z ad u') H1 locs1 → W p l e R s m args below meth c H1 locs1 cells slots Q (F0 m (pc + 3) ls (.long r :: rest))) : W p l e R s m args below meth c H locs cells slots Q (F0 m pc ls (.int (p1) :: .ref (ad 0) :: rest)) :=
  g_V0_l (n := 1) (f := cX Z ad) (As := [.int (p1)]) C hw (c_X_sumOf C.1 h) ⟨w205, w207, w11, w53, w208, (by decide +kernel), (by decide +kernel), (by decide +kernel)⟩ hR 0 rfl rfl rfl hl rfl hW hdg (fun _ _ _ _ _ _ h => h.elim) kk
end KR
/-! CoderTables.sum(I)J -/
abbrev rm_X_sum : Room := { frames := 7, cells := 1, slots := 6, locals := 111 }
def q_X_sum (p1 : Int32) (u : CT) (post : Int64 → CT → Prop) (ex : String → CT → Prop) : Prop :=
  q_X_needCoder (p1) (u) (fun u2 => q_X_countedOf (p1) (u2) (fun r3 u4 => ((¬ (r3) = 0 → q_X_sumOf (p1) (u4) (fun r5 u6 => post (r5) (u6))) ∧ ((r3) = 0 → post ((-1 : Int64)) (u4))))) ex
set_option maxRecDepth 100000 in
theorem c_X_sum {l : Launch} {Z : ZT} {ad : Nat → Nat} {u : CT} {post : Int64 → CT → Prop} {ex : String → CT → Prop} {p1 : Int32} (hl0 : l.stackTraces = false) (h : q_X_sum p1 u post ex) : ∀ sz, vx_Met l y_X_sum (Cond.code y_X_sum b_X_sum 2 (some .long) :: GW) rm_X_sum (pP Z [.ref (ad 0), .int (p1)] (cX Z ad u) sz) (pQl Z (cX Z ad) (cX Z ad u) sz post) (pX Z (cX Z ad) (cX Z ad u) sz ex) 0 0 rm_X_sum.cells rm_X_sum.slots (va_A (cX Z ad u) sz) := by
  refine g_ent (f := cX Z ad) (Qc := fun sz => pQl Z (cX Z ad) (cX Z ad u) sz post) (XC := fun sz => pX Z (cX Z ad) (cX Z ad u) sz ex) hl0 (by decide +kernel) (Nat.le_of_ble_eq_true rfl) ?_
  intro p e s m args below meth c ls C htab hw hl
  have hl : lv_has ls 2 [(0, .ref (ad 0)), (1, .int (p1))] := hl
  unfold q_X_sum at h
  refine lv_aload_n C.2.1 C.2.2.1 d_X_sum_0 rfl (lv_at hl 0 rfl) ?_
  refine lv_iload_n C.2.1 C.2.2.1 d_X_sum_1 rfl (lv_at hl 1 rfl) ?_
  refine k_X_114 C hw h ⟨Nat.le_of_ble_eq_true rfl, Nat.le_of_ble_eq_true rfl, Nat.le_of_ble_eq_true rfl, Nat.le_of_ble_eq_true rfl⟩ hl.1 (Nat.le_of_ble_eq_true rfl) d_X_sum_2 (fun _ _ _ _ _ _ he hw h1 h2 h3 => g_out C htab hw he h1 h2 h3 (Nat.le_of_ble_eq_true rfl) (Nat.le_of_ble_eq_true rfl)) (fun u2 H locs h hw => ?_)
  refine lv_aload_n C.2.1 C.2.2.1 d_X_sum_5 rfl (lv_at hl 0 rfl) ?_
  refine lv_iload_n C.2.1 C.2.2.1 d_X_sum_6 rfl (lv_at hl 1 rfl) ?_
  refine k_X_117 C hw h ⟨Nat.le_of_ble_eq_true rfl, Nat.le_of_ble_eq_true rfl, Nat.le_of_ble_eq_true rfl, Nat.le_of_ble_eq_true rfl⟩ hl.1 (Nat.le_of_ble_eq_true rfl) d_X_sum_7 (fun r3 u4 H locs h hw => ?_)
  refine lv_if_ne (tgt := 19) C.2.1 C.2.2.1 d_X_sum_10 (by decide) (fun c => ?_) (fun c => ?_)
  · have h := h.1 c
    refine lv_aload_n C.2.1 C.2.2.1 d_X_sum_19 rfl (lv_at hl 0 rfl) ?_
    refine lv_iload_n C.2.1 C.2.2.1 d_X_sum_20 rfl (lv_at hl 1 rfl) ?_
    refine k_X_123 C hw h ⟨Nat.le_of_ble_eq_true rfl, Nat.le_of_ble_eq_true rfl, Nat.le_of_ble_eq_true rfl, Nat.le_of_ble_eq_true rfl⟩ hl.1 (Nat.le_of_ble_eq_true rfl) d_X_sum_21 (fun r5 u6 H locs h hw => ?_)
    exact g_lret C hw h d_X_sum_24
  · have h := h.2 c
    refine lv_ldc2 (v := -1) C.2.1 C.2.2.1 C.2.2.2.2.1 (C.2.2.2.2.2.1 _ w427) d_X_sum_13 ?_
    refine lv_goto (tgt := 24) C.2.1 C.2.2.1 d_X_sum_16 (by decide) ?_
    exact g_lret C hw h d_X_sum_24
/-! CoderTables.needCounted(I)V -/
abbrev rm_X_needCounted : Room := { frames := 6, cells := 1, slots := 6, locals := 90 }
def q_X_needCounted (p1 : Int32) (u : CT) (post : CT → Prop) (ex : String → CT → Prop) : Prop :=
  q_X_countedOf (p1) (u) (fun r1 u2 => ((¬ (r1) = 0 → post (u2)) ∧ ((r1) = 0 → ex "java/lang/IllegalStateException" (u2))))
set_option maxRecDepth 100000 in
theorem c_X_needCounted {l : Launch} {Z : ZT} {ad : Nat → Nat} {u : CT} {post : CT → Prop} {ex : String → CT → Prop} {p1 : Int32} (hl0 : l.stackTraces = false) (h : q_X_needCounted p1 u post ex) : ∀ sz, vx_Met l y_X_needCounted (Cond.code y_X_needCounted b_X_needCounted 2 none :: GW) rm_X_needCounted (pP Z [.ref (ad 0), .int (p1)] (cX Z ad u) sz) (pQv Z (cX Z ad) (cX Z ad u) sz post) (pX Z (cX Z ad) (cX Z ad u) sz ex) 0 0 rm_X_needCounted.cells rm_X_needCounted.slots (va_A (cX Z ad u) sz) := by
  refine g_ent (f := cX Z ad) (Qc := fun sz => pQv Z (cX Z ad) (cX Z ad u) sz post) (XC := fun sz => pX Z (cX Z ad) (cX Z ad u) sz ex) hl0 (by decide +kernel) (Nat.le_of_ble_eq_true rfl) ?_
  intro p e s m args below meth c ls C htab hw hl
  have hl : lv_has ls 2 [(0, .ref (ad 0)), (1, .int (p1))] := hl
  unfold q_X_needCounted at h
  refine lv_aload_n C.2.1 C.2.2.1 d_X_needCounted_0 rfl (lv_at hl 0 rfl) ?_
  refine lv_iload_n C.2.1 C.2.2.1 d_X_needCounted_1 rfl (lv_at hl 1 rfl) ?_
  refine k_X_117 C hw h ⟨Nat.le_of_ble_eq_true rfl, Nat.le_of_ble_eq_true rfl, Nat.le_of_ble_eq_true rfl, Nat.le_of_ble_eq_true rfl⟩ hl.1 (Nat.le_of_ble_eq_true rfl) d_X_needCounted_2 (fun r1 u2 H locs h hw => ?_)
  refine lv_if_ne (tgt := 18) C.2.1 C.2.2.1 d_X_needCounted_5 (by decide) (fun c => ?_) (fun c => ?_)
  · have h := h.1 c
    exact g_vret C hw h d_X_needCounted_18
  · have h := h.2 c
    exact g_throw C htab hw hE_T sg_219 h hl.1 d_X_needCounted_8 d_X_needCounted_11 d_X_needCounted_12 d_X_needCounted_14 d_X_needCounted_17 ⟨Nat.le_of_ble_eq_true rfl, Nat.le_of_ble_eq_true rfl, Nat.le_of_ble_eq_true rfl, Nat.le_of_ble_eq_true rfl⟩ (Nat.le_of_ble_eq_true rfl) (Nat.le_of_ble_eq_true rfl)
section KR
variable {own host : String} {cc bytes : ByteArray} {nL maxL index n : Nat} {rt0 rt : Option FieldType} {Z : ZT} {ad : Nat → Nat} {A : Nat → Prop}
variable {p : Program} {l : Launch} {e : Env} {R : Room} {s : State} {m : MethodId} {args : Array Value} {below : List Frame} {meth : Method} {c : Code} {H : Heap} {locs : List Loc} {cells slots : Nat} {Q : State → Prop} {rest : List Value} {pc : Nat} {ls : Array Slot}
theorem k_X_127 {u : CT} {p1 : Int32} {post : CT → Prop} {ex : String → CT → Prop} (C : CX "CoderTables" cc nL rt0 Z A p l s m args meth c) (hw : WD Z A s (cX Z ad u) H locs) (h : q_X_needCounted p1 u post ex) (hR : rmOk rm_X_needCounted 2 R cells slots) (hl : ls.size = nL) (hW : (rest.map fun v => v.category).sum ≤ 8) (hdg : decode cc pc = .ok (.invokevirtual 127, 3)) (kx : ∀ (E : String) (u' : CT) (q9 : Addr) (ce : Cell) (H1 : Heap) (locs1 : List Loc), ex E u' → WD Z A s (cX Z ad u') H1 locs1 → H1[q9]? = some ce → ce.vm = .none → s.vm.findClass E = some ce.cls → vx_W p l e R s m args below meth c H1 locs1 (cells + rm_X_needCounted.cells) (slots + rm_X_needCounted.slots) Q (F0 m pc ls rest) q9) (kk : ∀ (u' : CT) (H1 : Heap) (locs1 : List Loc), post u' → WD Z A s (cX Z ad u') H1 locs1 → W p l e R s m args below meth c H1 locs1 cells slots Q (F0 m (pc + 3) ls (rest))) : W p l e R s m args below meth c H locs cells slots Q (F0 m pc ls (.int (p1) :: .ref (ad 0) :: rest)) :=
  g_V0_v (n := 1) (f := cX Z ad) (As := [.int (p1)]) C hw (c_X_needCounted C.1 h) ⟨w435, w437, w20, w53, w438, (by decide +kernel), (by decide +kernel), (by decide +kernel)⟩ hR 0 rfl rfl rfl hl rfl hW hdg kx kk
end KR
