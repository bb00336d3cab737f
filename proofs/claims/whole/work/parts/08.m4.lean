/-! CoderTablesModel.noneOnHull(IIII)Z -/
abbrev rm_M_noneOnHull : Room := { frames := 2, cells := 0, slots := 0, locals := 51 }
def q_M_noneOnHull (p1 : Int32) (p2 : Int32) (p3 : Int32) (p4 : Int32) (u : MT) (post : Int32 → MT → Prop) : Prop :=
  q_M_noPair (p1) (p2) (u) (fun r1 u2 => (((r1) = 0 → q_M_findHull (((((24) : Int32)) * (p1)) + (p2)) (u2) (fun u4 => (((p3) < 0 → (narrow .boolean (.int (((1) : Int32))) = .int (((1) : Int32)) ∧ post (((1) : Int32)) (u4))) ∧ (¬ (p3) < 0 → (((p3) < ((m_hullSize (u4)) - (p4)) → (narrow .boolean (.int (((0) : Int32))) = .int (((0) : Int32)) ∧ post (((0) : Int32)) (u4))) ∧ (¬ (p3) < ((m_hullSize (u4)) - (p4)) → (narrow .boolean (.int (((1) : Int32))) = .int (((1) : Int32)) ∧ post (((1) : Int32)) (u4)))))))) ∧ (¬ (r1) = 0 → (narrow .boolean (.int (((1) : Int32))) = .int (((1) : Int32)) ∧ post (((1) : Int32)) (u2)))))
set_option maxRecDepth 100000 in
theorem c_M_noneOnHull {l : Launch} {Z : ZT} {ad : Nat → Nat} {u : MT} {post : Int32 → MT → Prop} {p1 : Int32} {p2 : Int32} {p3 : Int32} {p4 : Int32} (hl0 : l.stackTraces = false) (h : q_M_noneOnHull p1 p2 p3 p4 u post) : ∀ sz, vx_Met l y_M_noneOnHull (Cond.code y_M_noneOnHull b_M_noneOnHull 5 (some .boolean) :: GW) rm_M_noneOnHull (pP Z [.ref (ad 0), .int (p1), .int (p2), .int (p3), .int (p4)] (cM Z ad u) sz) (pQi Z (cM Z ad) (cM Z ad u) sz post) (pX Z (cM Z ad) (cM Z ad u) sz (fun _ _ => False)) 0 0 rm_M_noneOnHull.cells rm_M_noneOnHull.slots (va_A (cM Z ad u) sz) := by
  refine g_ent (f := cM Z ad) (Qc := fun sz => pQi Z (cM Z ad) (cM Z ad u) sz post) (XC := fun sz => pX Z (cM Z ad) (cM Z ad u) sz (fun _ _ => False)) hl0 (by decide +kernel) (Nat.le_of_ble_eq_true rfl) ?_
  intro p e s m args below meth c ls C htab hw hl
  have hl : lv_has ls 5 [(0, .ref (ad 0)), (1, .int (p1)), (2, .int (p2)), (3, .int (p3)), (4, .int (p4))] := hl
  unfold q_M_noneOnHull at h
  refine lv_aload_n C.2.1 C.2.2.1 d_M_noneOnHull_0 rfl (lv_at hl 0 rfl) ?_
  refine lv_iload_n C.2.1 C.2.2.1 d_M_noneOnHull_1 rfl (lv_at hl 1 rfl) ?_
  refine lv_iload_n C.2.1 C.2.2.1 d_M_noneOnHull_2 rfl (lv_at hl 2 rfl) ?_
  refine k_M_53 C hw h ⟨Nat.le_of_ble_eq_true rfl, Nat.le_of_ble_eq_true rfl, Nat.le_of_ble_eq_true rfl, Nat.le_of_ble_eq_true rfl⟩ hl.1 (Nat.le_of_ble_eq_true rfl) d_M_noneOnHull_3 (fun r1 u2 H locs h hw => ?_)
  refine lv_if_eq (tgt := 11) C.2.1 C.2.2.1 d_M_noneOnHull_6 (by decide) (fun c => ?_) (fun c => ?_)
  · have h := h.1 c
    refine lv_aload_n C.2.1 C.2.2.1 d_M_noneOnHull_11 rfl (lv_at hl 0 rfl) ?_
    refine lv_bipush (v := (24)) C.2.1 C.2.2.1 d_M_noneOnHull_12 (by decide) ?_
    refine lv_iload_n C.2.1 C.2.2.1 d_M_noneOnHull_14 rfl (lv_at hl 1 rfl) ?_
    refine lv_imul C.2.1 C.2.2.1 d_M_noneOnHull_15 ?_
    refine lv_iload_n C.2.1 C.2.2.1 d_M_noneOnHull_16 rfl (lv_at hl 2 rfl) ?_
    refine lv_iadd C.2.1 C.2.2.1 d_M_noneOnHull_17 ?_
    refine k_M_108 C hw h ⟨Nat.le_of_ble_eq_true rfl, Nat.le_of_ble_eq_true rfl, Nat.le_of_ble_eq_true rfl, Nat.le_of_ble_eq_true rfl⟩ hl.1 (Nat.le_of_ble_eq_true rfl) d_M_noneOnHull_18 (fun u4 H locs h hw => ?_)
    refine lv_iload_n C.2.1 C.2.2.1 d_M_noneOnHull_21 rfl (lv_at hl 3 rfl) ?_
    refine lv_if_lt (tgt := 36) C.2.1 C.2.2.1 d_M_noneOnHull_22 (by decide) (fun c => ?_) (fun c => ?_)
    · have h := h.1 c
      refine lv_iconst (v := (1)) C.2.1 C.2.2.1 d_M_noneOnHull_36 (by decide) ?_
      refine lv_goto (tgt := 41) C.2.1 C.2.2.1 d_M_noneOnHull_37 (by decide) ?_
      exact g_iret C hw h.1 h.2 d_M_noneOnHull_41
    · have h := h.2 c
      refine lv_iload_n C.2.1 C.2.2.1 d_M_noneOnHull_25 rfl (lv_at hl 3 rfl) ?_
      refine lv_aload_n C.2.1 C.2.2.1 d_M_noneOnHull_26 rfl (lv_at hl 0 rfl) ?_
      refine r_M_98 C hw d_M_noneOnHull_27 ?_
      refine lv_iload C.2.1 C.2.2.1 d_M_noneOnHull_30 (lv_at hl 4 rfl) ?_
      refine lv_isub C.2.1 C.2.2.1 d_M_noneOnHull_32 ?_
      refine lv_icmp_lt (tgt := 40) C.2.1 C.2.2.1 d_M_noneOnHull_33 (by decide) (fun c => ?_) (fun c => ?_)
      · have h := h.1 c
        refine lv_iconst (v := (0)) C.2.1 C.2.2.1 d_M_noneOnHull_40 (by decide) ?_
        exact g_iret C hw h.1 h.2 d_M_noneOnHull_41
      · have h := h.2 c
        refine lv_iconst (v := (1)) C.2.1 C.2.2.1 d_M_noneOnHull_36 (by decide) ?_
        refine lv_goto (tgt := 41) C.2.1 C.2.2.1 d_M_noneOnHull_37 (by decide) ?_
        exact g_iret C hw h.1 h.2 d_M_noneOnHull_41
  · have h := h.2 c
    refine lv_iconst (v := (1)) C.2.1 C.2.2.1 d_M_noneOnHull_9 (by decide) ?_
    exact g_iret C hw h.1 h.2 d_M_noneOnHull_10
section KR
variable {own host : String} {cc bytes : ByteArray} {nL maxL index n : Nat} {rt0 rt : Option FieldType} {Z : ZT} {ad : Nat → Nat} {A : Nat → Prop}
variable {p : Program} {l : Launch} {e : Env} {R : Room} {s : State} {m : MethodId} {args : Array Value} {below : List Frame} {meth : Method} {c : Code} {H : Heap} {locs : List Loc} {cells slots : Nat} {Q : State → Prop} {rest : List Value} {pc : Nat} {ls : Array Slot}
theorem k_M_111 {u : MT} {p1 : Int32} {p2 : Int32} {p3 : Int32} {p4 : Int32} {post : Int32 → MT → Prop} (C : CX "CoderTablesModel" cc nL rt0 Z A p l s m args meth c) (hw : WD Z A s (cM Z ad u) H locs) (h : q_M_noneOnHull p1 p2 p3 p4 u post) (hR : rmOk rm_M_noneOnHull 5 R cells slots) (hl : ls.size = nL) (hW : (rest.map fun v => v.category).sum ≤ 8) (hdg : decode cc pc = .ok (.invokevirtual 111, 3)) (kk : ∀ (r : Int32) (u' : MT) (H1 : Heap) (locs1 : List Loc), post r u' → WD Z A s (cM Z ad u') H1 locs1 → W p l e R s m args below meth c H1 locs1 cells slots Q (F0 m (pc + 3) ls (.int r :: rest))) : W p l e R s m args below meth c H locs cells slots Q (F0 m pc ls (.int (p4) :: .int (p3) :: .int (p2) :: .int (p1) :: .ref (ad 0) :: rest)) :=
  g_V0_i (n := 4) (f := cM Z ad) (As := [.int (p1), .int (p2), .int (p3), .int (p4)]) C hw (c_M_noneOnHull C.1 h) ⟨w714, w716, w43, w56, w717, (by decide +kernel), (by decide +kernel), (by decide +kernel)⟩ hR 0 rfl rfl rfl hl rfl hW hdg (fun _ _ _ _ _ _ h => h.elim) kk
end KR
/-! CoderTablesModel.onHull(IIII)I -/
abbrev rm_M_onHull : Room := { frames := 3, cells := 0, slots := 0, locals := 75 }
def q_M_onHull_32 (x3 : Int32) (x4 : Int32) (z0 : Int32) (u : MT) (post : Int32 → MT → Prop) : Prop :=
  q_M_refuses (z0) (u) (fun r1 u2 => (((r1) = 0 → ((¬ (x4) = 0 → (vp_in (x3) 6 ∧ (vp_in (m_hull (u2) (x3).toNatClampNeg) 1152 ∧ post (m_errorOf (u2) (m_hull (u2) (x3).toNatClampNeg).toNatClampNeg) (u2)))) ∧ ((x4) = 0 → (vp_in (x3) 6 ∧ (vp_in (m_hull (u2) (x3).toNatClampNeg) 1152 ∧ post (m_bytesOf (u2) (m_hull (u2) (x3).toNatClampNeg).toNatClampNeg) (u2)))))) ∧ (¬ (r1) = 0 → post (((0) : Int32)) (u2))))
set_option maxRecDepth 100000 in
theorem w_M_onHull_32 {p : Program} {l : Launch} {e : Env} {s : State} {m : MethodId} {args : Array Value} {below : List Frame} {meth : Method} {c : Code} {Z : ZT} {ad : Nat → Nat} {u0 : MT} {post : Int32 → MT → Prop} (C : CX "CoderTablesModel" b_M_onHull 5 (some .int) Z (va_A (cM Z ad u0) s.heap.size) p l s m args meth c) (htab : ∀ x ∈ c.exceptionTable.toList, False) (x3 : Int32) (x4 : Int32) (z0 : Int32) (u : MT) (H : Heap) (locs : List Loc) (ls : Array Slot) (hw : WD Z (va_A (cM Z ad u0) s.heap.size) s (cM Z ad u) H locs) (hl : lv_has ls 5 [(0, .ref (ad 0)), (3, .int (x3)), (4, .int (x4))]) (h : q_M_onHull_32 x3 x4 z0 u post) : W p l e rm_M_onHull s m args below meth c H locs 0 0 (vx_MQ below (pQi Z (cM Z ad) (cM Z ad u0) s.heap.size post) (pX Z (cM Z ad) (cM Z ad u0) s.heap.size (fun _ _ => False)) args s 0 0 rm_M_onHull.cells rm_M_onHull.slots (va_A (cM Z ad u0) s.heap.size)) (F0 m 32 ls [.int (z0), .ref (ad 0)]) := by
  unfold q_M_onHull_32 at h
  refine k_M_50 C hw h ⟨Nat.le_of_ble_eq_true rfl, Nat.le_of_ble_eq_true rfl, Nat.le_of_ble_eq_true rfl, Nat.le_of_ble_eq_true rfl⟩ hl.1 (Nat.le_of_ble_eq_true rfl) d_M_onHull_32 (fun r1 u2 H locs h hw => ?_)
  refine lv_if_eq (tgt := 40) C.2.1 C.2.2.1 d_M_onHull_35 (by decide) (fun c => ?_) (fun c => ?_)
  · have h := h.1 c
    refine lv_iload C.2.1 C.2.2.1 d_M_onHull_40 (lv_at hl 2 rfl) ?_
    refine lv_if_ne (tgt := 59) C.2.1 C.2.2.1 d_M_onHull_42 (by decide) (fun c => ?_) (fun c => ?_)
    · have h := h.1 c
      refine lv_aload_n C.2.1 C.2.2.1 d_M_onHull_59 rfl (lv_at hl 0 rfl) ?_
      refine r_M_20 C hw d_M_onHull_60 ?_
      refine lv_aload_n C.2.1 C.2.2.1 d_M_onHull_63 rfl (lv_at hl 0 rfl) ?_
      refine r_M_29 C hw d_M_onHull_64 ?_
      refine lv_iload_n C.2.1 C.2.2.1 d_M_onHull_67 rfl (lv_at hl 1 rfl) ?_
      obtain ⟨hi, h⟩ := h
      refine al_M_7 C hw hi d_M_onHull_68 ?_
      obtain ⟨hi, h⟩ := h
      refine al_M_4 C hw hi d_M_onHull_69 ?_
      exact g_iret C hw rfl h d_M_onHull_70
    · have h := h.2 c
      refine lv_aload_n C.2.1 C.2.2.1 d_M_onHull_45 rfl (lv_at hl 0 rfl) ?_
      refine r_M_17 C hw d_M_onHull_46 ?_
      refine lv_aload_n C.2.1 C.2.2.1 d_M_onHull_49 rfl (lv_at hl 0 rfl) ?_
      refine r_M_29 C hw d_M_onHull_50 ?_
      refine lv_iload_n C.2.1 C.2.2.1 d_M_onHull_53 rfl (lv_at hl 1 rfl) ?_
      obtain ⟨hi, h⟩ := h
      refine al_M_7 C hw hi d_M_onHull_54 ?_
      obtain ⟨hi, h⟩ := h
      refine al_M_3 C hw hi d_M_onHull_55 ?_
      refine lv_goto (tgt := 70) C.2.1 C.2.2.1 d_M_onHull_56 (by decide) ?_
      exact g_iret C hw rfl h d_M_onHull_70
  · have h := h.2 c
    refine lv_iconst (v := (0)) C.2.1 C.2.2.1 d_M_onHull_38 (by decide) ?_
    exact g_iret C hw rfl h d_M_onHull_39
def q_M_onHull_31 (x3 : Int32) (x4 : Int32) (u : MT) (post : Int32 → MT → Prop) : Prop :=
  q_M_onHull_32 (x3) (x4) (((0) : Int32)) (u) post
set_option maxRecDepth 100000 in
theorem w_M_onHull_31 {p : Program} {l : Launch} {e : Env} {s : State} {m : MethodId} {args : Array Value} {below : List Frame} {meth : Method} {c : Code} {Z : ZT} {ad : Nat → Nat} {u0 : MT} {post : Int32 → MT → Prop} (C : CX "CoderTablesModel" b_M_onHull 5 (some .int) Z (va_A (cM Z ad u0) s.heap.size) p l s m args meth c) (htab : ∀ x ∈ c.exceptionTable.toList, False) (x3 : Int32) (x4 : Int32) (u : MT) (H : Heap) (locs : List Loc) (ls : Array Slot) (hw : WD Z (va_A (cM Z ad u0) s.heap.size) s (cM Z ad u) H locs) (hl : lv_has ls 5 [(0, .ref (ad 0)), (3, .int (x3)), (4, .int (x4))]) (h : q_M_onHull_31 x3 x4 u post) : W p l e rm_M_onHull s m args below meth c H locs 0 0 (vx_MQ below (pQi Z (cM Z ad) (cM Z ad u0) s.heap.size post) (pX Z (cM Z ad) (cM Z ad u0) s.heap.size (fun _ _ => False)) args s 0 0 rm_M_onHull.cells rm_M_onHull.slots (va_A (cM Z ad u0) s.heap.size)) (F0 m 31 ls [.ref (ad 0)]) := by
  unfold q_M_onHull_31 at h
  refine lv_iconst (v := (0)) C.2.1 C.2.2.1 d_M_onHull_31 (by decide) ?_
  exact w_M_onHull_32 C htab (x3) (x4) (((0) : Int32)) _ _ _ _ hw (lv_sub hl [0, 1, 2] rfl) h
def q_M_onHull (p1 : Int32) (p2 : Int32) (p3 : Int32) (p4 : Int32) (u : MT) (post : Int32 → MT → Prop) : Prop :=
  q_M_noneOnHull (p1) (p2) (p3) (((0) : Int32)) (u) (fun r3 u4 => (((r3) = 0 → (((p4) = 0 → q_M_onHull_31 (p3) (p4) (u4) post) ∧ (¬ (p4) = 0 → (((p4) = (((1) : Int32)) → q_M_onHull_31 (p3) (p4) (u4) post) ∧ (¬ (p4) = (((1) : Int32)) → q_M_onHull_32 (p3) (p4) (((2) : Int32)) (u4) post))))) ∧ (¬ (r3) = 0 → q_M_onHull_32 (p3) (p4) (((1) : Int32)) (u4) post)))
set_option maxRecDepth 100000 in
theorem c_M_onHull {l : Launch} {Z : ZT} {ad : Nat → Nat} {u : MT} {post : Int32 → MT → Prop} {p1 : Int32} {p2 : Int32} {p3 : Int32} {p4 : Int32} (hl0 : l.stackTraces = false) (h : q_M_onHull p1 p2 p3 p4 u post) : ∀ sz, vx_Met l y_M_onHull (Cond.code y_M_onHull b_M_onHull 5 (some .int) :: GW) rm_M_onHull (pP Z [.ref (ad 0), .int (p1), .int (p2), .int (p3), .int (p4)] (cM Z ad u) sz) (pQi Z (cM Z ad) (cM Z ad u) sz post) (pX Z (cM Z ad) (cM Z ad u) sz (fun _ _ => False)) 0 0 rm_M_onHull.cells rm_M_onHull.slots (va_A (cM Z ad u) sz) := by
  refine g_ent (f := cM Z ad) (Qc := fun sz => pQi Z (cM Z ad) (cM Z ad u) sz post) (XC := fun sz => pX Z (cM Z ad) (cM Z ad u) sz (fun _ _ => False)) hl0 (by decide +kernel) (Nat.le_of_ble_eq_true rfl) ?_
  intro p e s m args below meth c ls C htab hw hl
  have hl : lv_has ls 5 [(0, .ref (ad 0)), (1, .int (p1)), (2, .int (p2)), (3, .int (p3)), (4, .int (p4))] := hl
  unfold q_M_onHull at h
  refine lv_aload_n C.2.1 C.2.2.1 d_M_onHull_0 rfl (lv_at hl 0 rfl) ?_
  refine lv_aload_n C.2.1 C.2.2.1 d_M_onHull_1 rfl (lv_at hl 0 rfl) ?_
  refine lv_iload_n C.2.1 C.2.2.1 d_M_onHull_2 rfl (lv_at hl 1 rfl) ?_
  refine lv_iload_n C.2.1 C.2.2.1 d_M_onHull_3 rfl (lv_at hl 2 rfl) ?_
  refine lv_iload_n C.2.1 C.2.2.1 d_M_onHull_4 rfl (lv_at hl 3 rfl) ?_
  refine lv_iconst (v := (0)) C.2.1 C.2.2.1 d_M_onHull_5 (by decide) ?_
  refine k_M_111 C hw h ⟨Nat.le_of_ble_eq_true rfl, Nat.le_of_ble_eq_true rfl, Nat.le_of_ble_eq_true rfl, Nat.le_of_ble_eq_true rfl⟩ hl.1 (Nat.le_of_ble_eq_true rfl) d_M_onHull_6 (fun r3 u4 H locs h hw => ?_)
  refine lv_if_eq (tgt := 16) C.2.1 C.2.2.1 d_M_onHull_9 (by decide) (fun c => ?_) (fun c => ?_)
  · have h := h.1 c
    refine lv_iload C.2.1 C.2.2.1 d_M_onHull_16 (lv_at hl 4 rfl) ?_
    refine lv_if_eq (tgt := 31) C.2.1 C.2.2.1 d_M_onHull_18 (by decide) (fun c => ?_) (fun c => ?_)
    · have h := h.1 c
      exact w_M_onHull_31 C htab (p3) (p4) _ _ _ _ hw (lv_sub hl [0, 3, 4] rfl) h
    · have h := h.2 c
      refine lv_iload C.2.1 C.2.2.1 d_M_onHull_21 (lv_at hl 4 rfl) ?_
      refine lv_iconst (v := (1)) C.2.1 C.2.2.1 d_M_onHull_23 (by decide) ?_
      refine lv_icmp_eq (tgt := 31) C.2.1 C.2.2.1 d_M_onHull_24 (by decide) (fun c => ?_) (fun c => ?_)
      · have h := h.1 c
        exact w_M_onHull_31 C htab (p3) (p4) _ _ _ _ hw (lv_sub hl [0, 3, 4] rfl) h
      · have h := h.2 c
        refine lv_iconst (v := (2)) C.2.1 C.2.2.1 d_M_onHull_27 (by decide) ?_
        refine lv_goto (tgt := 32) C.2.1 C.2.2.1 d_M_onHull_28 (by decide) ?_
        exact w_M_onHull_32 C htab (p3) (p4) (((2) : Int32)) _ _ _ _ hw (lv_sub hl [0, 3, 4] rfl) h
  · have h := h.2 c
    refine lv_iconst (v := (1)) C.2.1 C.2.2.1 d_M_onHull_12 (by decide) ?_
    refine lv_goto (tgt := 32) C.2.1 C.2.2.1 d_M_onHull_13 (by decide) ?_
    exact w_M_onHull_32 C htab (p3) (p4) (((1) : Int32)) _ _ _ _ hw (lv_sub hl [0, 3, 4] rfl) h
/-! CoderTablesModel.slope(IIIZ)J -/
abbrev rm_M_slope : Room := { frames := 3, cells := 0, slots := 0, locals := 75 }
def q_M_slope_17 (x3 : Int32) (x4 : Int32) (z0 : Int32) (u : MT) (post : Int64 → MT → Prop) : Prop :=
  q_M_refuses (z0) (u) (fun r1 u2 => (((r1) = 0 → (vp_in (x3) 6 ∧ (vp_in ((x3) + (((1) : Int32))) 6 ∧ (vp_in (m_hull (u2) (x3).toNatClampNeg) 1152 ∧ (vp_in (m_hull (u2) ((x3) + (((1) : Int32))).toNatClampNeg) 1152 ∧ (vp_in (m_hull (u2) ((x3) + (((1) : Int32))).toNatClampNeg) 1152 ∧ (vp_in (m_hull (u2) (x3).toNatClampNeg) 1152 ∧ q_M_part (((m_errorOf (u2) (m_hull (u2) (x3).toNatClampNeg).toNatClampNeg) - (m_errorOf (u2) (m_hull (u2) ((x3) + (((1) : Int32))).toNatClampNeg).toNatClampNeg)).toInt64) (((m_bytesOf (u2) (m_hull (u2) ((x3) + (((1) : Int32))).toNatClampNeg).toNatClampNeg) - (m_bytesOf (u2) (m_hull (u2) (x3).toNatClampNeg).toNatClampNeg)).toInt64) (x4) (u2) (fun r3 u4 => post (r3) (u4))))))))) ∧ (¬ (r1) = 0 → post ((0 : Int64)) (u2))))
set_option maxRecDepth 100000 in
theorem w_M_slope_17 {p : Program} {l : Launch} {e : Env} {s : State} {m : MethodId} {args : Array Value} {below : List Frame} {meth : Method} {c : Code} {Z : ZT} {ad : Nat → Nat} {u0 : MT} {post : Int64 → MT → Prop} (C : CX "CoderTablesModel" b_M_slope 7 (some .long) Z (va_A (cM Z ad u0) s.heap.size) p l s m args meth c) (htab : ∀ x ∈ c.exceptionTable.toList, False) (x3 : Int32) (x4 : Int32) (z0 : Int32) (u : MT) (H : Heap) (locs : List Loc) (ls : Array Slot) (hw : WD Z (va_A (cM Z ad u0) s.heap.size) s (cM Z ad u) H locs) (hl : lv_has ls 7 [(0, .ref (ad 0)), (3, .int (x3)), (4, .int (x4))]) (h : q_M_slope_17 x3 x4 z0 u post) : W p l e rm_M_slope s m args below meth c H locs 0 0 (vx_MQ below (pQl Z (cM Z ad) (cM Z ad u0) s.heap.size post) (pX Z (cM Z ad) (cM Z ad u0) s.heap.size (fun _ _ => False)) args s 0 0 rm_M_slope.cells rm_M_slope.slots (va_A (cM Z ad u0) s.heap.size)) (F0 m 17 ls [.int (z0), .ref (ad 0)]) := by
  unfold q_M_slope_17 at h
  refine k_M_50 C hw h ⟨Nat.le_of_ble_eq_true rfl, Nat.le_of_ble_eq_true rfl, Nat.le_of_ble_eq_true rfl, Nat.le_of_ble_eq_true rfl⟩ hl.1 (Nat.le_of_ble_eq_true rfl) d_M_slope_17 (fun r1 u2 H locs h hw => ?_)
  refine lv_if_eq (tgt := 25) C.2.1 C.2.2.1 d_M_slope_20 (by decide) (fun c => ?_) (fun c => ?_)
  · have h := h.1 c
    refine lv_aload_n C.2.1 C.2.2.1 d_M_slope_25 rfl (lv_at hl 0 rfl) ?_
    refine r_M_29 C hw d_M_slope_26 ?_
    refine lv_iload_n C.2.1 C.2.2.1 d_M_slope_29 rfl (lv_at hl 1 rfl) ?_
    obtain ⟨hi, h⟩ := h
    refine al_M_7 C hw hi d_M_slope_30 ?_
    refine lv_istore (lv' := [(5, .int (m_hull (u2) (x3).toNatClampNeg)), (0, .ref (ad 0)), (3, .int (x3)), (4, .int (x4))]) C.2.1 C.2.2.1 d_M_slope_31 hl (by decide) rfl (fun ls hl => ?_)
    refine lv_aload_n C.2.1 C.2.2.1 d_M_slope_33 rfl (lv_at hl 1 rfl) ?_
    refine r_M_29 C hw d_M_slope_34 ?_
    refine lv_iload_n C.2.1 C.2.2.1 d_M_slope_37 rfl (lv_at hl 2 rfl) ?_
    refine lv_iconst (v := (1)) C.2.1 C.2.2.1 d_M_slope_38 (by decide) ?_
    refine lv_iadd C.2.1 C.2.2.1 d_M_slope_39 ?_
    obtain ⟨hi, h⟩ := h
    refine al_M_7 C hw hi d_M_slope_40 ?_
    refine lv_istore (lv' := [(6, .int (m_hull (u2) ((x3) + (((1) : Int32))).toNatClampNeg)), (5, .int (m_hull (u2) (x3).toNatClampNeg)), (0, .ref (ad 0)), (3, .int (x3)), (4, .int (x4))]) C.2.1 C.2.2.1 d_M_slope_41 hl (by decide) rfl (fun ls hl => ?_)
    refine lv_aload_n C.2.1 C.2.2.1 d_M_slope_43 rfl (lv_at hl 2 rfl) ?_
    refine r_M_20 C hw d_M_slope_44 ?_
    refine lv_iload C.2.1 C.2.2.1 d_M_slope_47 (lv_at hl 1 rfl) ?_
    obtain ⟨hi, h⟩ := h
    refine al_M_4 C hw hi d_M_slope_49 ?_
    refine lv_aload_n C.2.1 C.2.2.1 d_M_slope_50 rfl (lv_at hl 2 rfl) ?_
    refine r_M_20 C hw d_M_slope_51 ?_
    refine lv_iload C.2.1 C.2.2.1 d_M_slope_54 (lv_at hl 0 rfl) ?_
    obtain ⟨hi, h⟩ := h
    refine al_M_4 C hw hi d_M_slope_56 ?_
    refine lv_isub C.2.1 C.2.2.1 d_M_slope_57 ?_
    refine lv_i2l C.2.1 C.2.2.1 d_M_slope_58 rfl ?_
    refine lv_aload_n C.2.1 C.2.2.1 d_M_slope_59 rfl (lv_at hl 2 rfl) ?_
    refine r_M_17 C hw d_M_slope_60 ?_
    refine lv_iload C.2.1 C.2.2.1 d_M_slope_63 (lv_at hl 0 rfl) ?_
    obtain ⟨hi, h⟩ := h
    refine al_M_3 C hw hi d_M_slope_65 ?_
    refine lv_aload_n C.2.1 C.2.2.1 d_M_slope_66 rfl (lv_at hl 2 rfl) ?_
    refine r_M_17 C hw d_M_slope_67 ?_
    refine lv_iload C.2.1 C.2.2.1 d_M_slope_70 (lv_at hl 1 rfl) ?_
    obtain ⟨hi, h⟩ := h
    refine al_M_3 C hw hi d_M_slope_72 ?_
    refine lv_isub C.2.1 C.2.2.1 d_M_slope_73 ?_
    refine lv_i2l C.2.1 C.2.2.1 d_M_slope_74 rfl ?_
    refine lv_iload C.2.1 C.2.2.1 d_M_slope_75 (lv_at hl 4 rfl) ?_
    refine k_M_91 C hw h ⟨Nat.le_of_ble_eq_true rfl, Nat.le_of_ble_eq_true rfl, Nat.le_of_ble_eq_true rfl, Nat.le_of_ble_eq_true rfl⟩ hl.1 (Nat.le_of_ble_eq_true rfl) d_M_slope_77 (fun r3 u4 H locs h hw => ?_)
    exact g_lret C hw h d_M_slope_80
  · have h := h.2 c
    refine lv_lconst (v := 0) C.2.1 C.2.2.1 d_M_slope_23 (by decide) ?_
    exact g_lret C hw h d_M_slope_24
def q_M_slope (p1 : Int32) (p2 : Int32) (p3 : Int32) (p4 : Int32) (u : MT) (post : Int64 → MT → Prop) : Prop :=
  q_M_noneOnHull (p1) (p2) (p3) (((1) : Int32)) (u) (fun r5 u6 => (((r5) = 0 → q_M_slope_17 (p3) (p4) (((0) : Int32)) (u6) post) ∧ (¬ (r5) = 0 → q_M_slope_17 (p3) (p4) (((1) : Int32)) (u6) post)))
set_option maxRecDepth 100000 in
theorem c_M_slope {l : Launch} {Z : ZT} {ad : Nat → Nat} {u : MT} {post : Int64 → MT → Prop} {p1 : Int32} {p2 : Int32} {p3 : Int32} {p4 : Int32} (hl0 : l.stackTraces = false) (h : q_M_slope p1 p2 p3 p4 u post) : ∀ sz, vx_Met l y_M_slope (Cond.code y_M_slope b_M_slope 7 (some .long) :: GW) rm_M_slope (pP Z [.ref (ad 0), .int (p1), .int (p2), .int (p3), .int (p4)] (cM Z ad u) sz) (pQl Z (cM Z ad) (cM Z ad u) sz post) (pX Z (cM Z ad) (cM Z ad u) sz (fun _ _ => False)) 0 0 rm_M_slope.cells rm_M_slope.slots (va_A (cM Z ad u) sz) := by
  refine g_ent (f := cM Z ad) (Qc := fun sz => pQl Z (cM Z ad) (cM Z ad u) sz post) (XC := fun sz => pX Z (cM Z ad) (cM Z ad u) sz (fun _ _ => False)) hl0 (by decide +kernel) (Nat.le_of_ble_eq_true rfl) ?_
  intro p e s m args below meth c ls C htab hw hl
  have hl : lv_has ls 7 [(0, .ref (ad 0)), (1, .int (p1)), (2, .int (p2)), (3, .int (p3)), (4, .int (p4))] := hl
  unfold q_M_slope at h
  refine lv_aload_n C.2.1 C.2.2.1 d_M_slope_0 rfl (lv_at hl 0 rfl) ?_
  refine lv_aload_n C.2.1 C.2.2.1 d_M_slope_1 rfl (lv_at hl 0 rfl) ?_
  refine lv_iload_n C.2.1 C.2.2.1 d_M_slope_2 rfl (lv_at hl 1 rfl) ?_
  refine lv_iload_n C.2.1 C.2.2.1 d_M_slope_3 rfl (lv_at hl 2 rfl) ?_
  refine lv_iload_n C.2.1 C.2.2.1 d_M_slope_4 rfl (lv_at hl 3 rfl) ?_
  refine lv_iconst (v := (1)) C.2.1 C.2.2.1 d_M_slope_5 (by decide) ?_
  refine k_M_111 C hw h ⟨Nat.le_of_ble_eq_true rfl, Nat.le_of_ble_eq_true rfl, Nat.le_of_ble_eq_true rfl, Nat.le_of_ble_eq_true rfl⟩ hl.1 (Nat.le_of_ble_eq_true rfl) d_M_slope_6 (fun r5 u6 H locs h hw => ?_)
  refine lv_if_eq (tgt := 16) C.2.1 C.2.2.1 d_M_slope_9 (by decide) (fun c => ?_) (fun c => ?_)
  · have h := h.1 c
    refine lv_iconst (v := (0)) C.2.1 C.2.2.1 d_M_slope_16 (by decide) ?_
    exact w_M_slope_17 C htab (p3) (p4) (((0) : Int32)) _ _ _ _ hw (lv_sub hl [0, 3, 4] rfl) h
  · have h := h.2 c
    refine lv_iconst (v := (1)) C.2.1 C.2.2.1 d_M_slope_12 (by decide) ?_
    refine lv_goto (tgt := 17) C.2.1 C.2.2.1 d_M_slope_13 (by decide) ?_
    exact w_M_slope_17 C htab (p3) (p4) (((1) : Int32)) _ _ _ _ hw (lv_sub hl [0, 3, 4] rfl) h
/-! CoderTablesModel.areBoth(III)Z -/
abbrev rm_M_areBoth : Room := { frames := 0, cells := 0, slots := 0, locals := 0 }
def q_M_areBoth (p1 : Int32) (p2 : Int32) (p3 : Int32) (u : MT) (post : Int32 → MT → Prop) : Prop :=
  (vp_in (((((24) : Int32)) * (p1)) + (p3)) 192 ∧ (((m_count (u) (((((24) : Int32)) * (p1)) + (p3)).toNatClampNeg) ≤ 0 → (narrow .boolean (.int (((0) : Int32))) = .int (((0) : Int32)) ∧ post (((0) : Int32)) (u))) ∧ (¬ (m_count (u) (((((24) : Int32)) * (p1)) + (p3)).toNatClampNeg) ≤ 0 → (vp_in (((((24) : Int32)) * (p2)) + (p3)) 192 ∧ (((m_count (u) (((((24) : Int32)) * (p2)) + (p3)).toNatClampNeg) ≤ 0 → (narrow .boolean (.int (((0) : Int32))) = .int (((0) : Int32)) ∧ post (((0) : Int32)) (u))) ∧ (¬ (m_count (u) (((((24) : Int32)) * (p2)) + (p3)).toNatClampNeg) ≤ 0 → (narrow .boolean (.int (((1) : Int32))) = .int (((1) : Int32)) ∧ post (((1) : Int32)) (u))))))))
set_option maxRecDepth 100000 in
theorem c_M_areBoth {l : Launch} {Z : ZT} {ad : Nat → Nat} {u : MT} {post : Int32 → MT → Prop} {p1 : Int32} {p2 : Int32} {p3 : Int32} (hl0 : l.stackTraces = false) (h : q_M_areBoth p1 p2 p3 u post) : ∀ sz, vx_Met l y_M_areBoth (Cond.code y_M_areBoth b_M_areBoth 4 (some .boolean) :: GW) rm_M_areBoth (pP Z [.ref (ad 0), .int (p1), .int (p2), .int (p3)] (cM Z ad u) sz) (pQi Z (cM Z ad) (cM Z ad u) sz post) (pX Z (cM Z ad) (cM Z ad u) sz (fun _ _ => False)) 0 0 rm_M_areBoth.cells rm_M_areBoth.slots (va_A (cM Z ad u) sz) := by
  refine g_ent (f := cM Z ad) (Qc := fun sz => pQi Z (cM Z ad) (cM Z ad u) sz post) (XC := fun sz => pX Z (cM Z ad) (cM Z ad u) sz (fun _ _ => False)) hl0 (by decide +kernel) (Nat.le_of_ble_eq_true rfl) ?_
  intro p e s m args below meth c ls C htab hw hl
  have hl : lv_has ls 4 [(0, .ref (ad 0)), (1, .int (p1)), (2, .int (p2)), (3, .int (p3))] := hl
  unfold q_M_areBoth at h
  refine lv_aload_n C.2.1 C.2.2.1 d_M_areBoth_0 rfl (lv_at hl 0 rfl) ?_
  refine r_M_7 C hw d_M_areBoth_1 ?_
  refine lv_bipush (v := (24)) C.2.1 C.2.2.1 d_M_areBoth_4 (by decide) ?_
  refine lv_iload_n C.2.1 C.2.2.1 d_M_areBoth_6 rfl (lv_at hl 1 rfl) ?_
  refine lv_imul C.2.1 C.2.2.1 d_M_areBoth_7 ?_
  refine lv_iload_n C.2.1 C.2.2.1 d_M_areBoth_8 rfl (lv_at hl 3 rfl) ?_
  refine lv_iadd C.2.1 C.2.2.1 d_M_areBoth_9 ?_
  obtain ⟨hi, h⟩ := h
  refine al_M_1 C hw hi d_M_areBoth_10 ?_
  refine lv_if_le (tgt := 32) C.2.1 C.2.2.1 d_M_areBoth_11 (by decide) (fun c => ?_) (fun c => ?_)
  · have h := h.1 c
    refine lv_iconst (v := (0)) C.2.1 C.2.2.1 d_M_areBoth_32 (by decide) ?_
    exact g_iret C hw h.1 h.2 d_M_areBoth_33
  · have h := h.2 c
    refine lv_aload_n C.2.1 C.2.2.1 d_M_areBoth_14 rfl (lv_at hl 0 rfl) ?_
    refine r_M_7 C hw d_M_areBoth_15 ?_
    refine lv_bipush (v := (24)) C.2.1 C.2.2.1 d_M_areBoth_18 (by decide) ?_
    refine lv_iload_n C.2.1 C.2.2.1 d_M_areBoth_20 rfl (lv_at hl 2 rfl) ?_
    refine lv_imul C.2.1 C.2.2.1 d_M_areBoth_21 ?_
    refine lv_iload_n C.2.1 C.2.2.1 d_M_areBoth_22 rfl (lv_at hl 3 rfl) ?_
    refine lv_iadd C.2.1 C.2.2.1 d_M_areBoth_23 ?_
    obtain ⟨hi, h⟩ := h
    refine al_M_1 C hw hi d_M_areBoth_24 ?_
    refine lv_if_le (tgt := 32) C.2.1 C.2.2.1 d_M_areBoth_25 (by decide) (fun c => ?_) (fun c => ?_)
    · have h := h.1 c
      refine lv_iconst (v := (0)) C.2.1 C.2.2.1 d_M_areBoth_32 (by decide) ?_
      exact g_iret C hw h.1 h.2 d_M_areBoth_33
    · have h := h.2 c
      refine lv_iconst (v := (1)) C.2.1 C.2.2.1 d_M_areBoth_28 (by decide) ?_
      refine lv_goto (tgt := 33) C.2.1 C.2.2.1 d_M_areBoth_29 (by decide) ?_
      exact g_iret C hw h.1 h.2 d_M_areBoth_33
section KR
variable {own host : String} {cc bytes : ByteArray} {nL maxL index n : Nat} {rt0 rt : Option FieldType} {Z : ZT} {ad : Nat → Nat} {A : Nat → Prop}
variable {p : Program} {l : Launch} {e : Env} {R : Room} {s : State} {m : MethodId} {args : Array Value} {below : List Frame} {meth : Method} {c : Code} {H : Heap} {locs : List Loc} {cells slots : Nat} {Q : State → Prop} {rest : List Value} {pc : Nat} {ls : Array Slot}
theorem k_M_115 {u : MT} {p1 : Int32} {p2 : Int32} {p3 : Int32} {post : Int32 → MT → Prop} (C : CX "CoderTablesModel" cc nL rt0 Z A p l s m args meth c) (hw : WD Z A s (cM Z ad u) H locs) (h : q_M_areBoth p1 p2 p3 u post) (hR : rmOk rm_M_areBoth 4 R cells slots) (hl : ls.size = nL) (hW : (rest.map fun v => v.category).sum ≤ 8) (hdg : decode cc pc = .ok (.invokevirtual 115, 3)) (kk : ∀ (r : Int32) (u' : MT) (H1 : Heap) (locs1 : List Loc), post r u' → WD Z A s (cM Z ad u') H1 locs1 → W p l e R s m args below meth c H1 locs1 cells slots Q (F0 m (pc + 3) ls (.int r :: rest))) : W p l e R s m args below meth c H locs cells slots Q (F0 m pc ls (.int (p3) :: .int (p2) :: .int (p1) :: .ref (ad 0) :: rest)) :=
  g_V0_i (n := 3) (f := cM Z ad) (As := [.int (p1), .int (p2), .int (p3)]) C hw (c_M_areBoth C.1 h) ⟨w731, w733, w45, w56, w734, (by decide +kernel), (by decide +kernel), (by decide +kernel)⟩ hR 0 rfl rfl rfl hl rfl hW hdg (fun _ _ _ _ _ _ h => h.elim) kk
end KR
/-! CoderTablesModel.less(II)I -/
abbrev rm_M_less : Room := { frames := 1, cells := 0, slots := 0, locals := 24 }
def q_M_less_56 (K5 : Int32 → Int32 → Int32 → Int32 → MT → Prop) (x1 : Int32) (x2 : Int32) (x4 : Int32) (z0 : Int32) (z1 : Int32) (u : MT) (post : Int32 → MT → Prop) : Prop :=
  K5 (x1) (x2) ((z1) + (z0)) ((x4) + 1) (u)
set_option maxRecDepth 100000 in
theorem w_M_less_56 {p : Program} {l : Launch} {e : Env} {s : State} {m : MethodId} {args : Array Value} {below : List Frame} {meth : Method} {c : Code} {Z : ZT} {ad : Nat → Nat} {u0 : MT} {post : Int32 → MT → Prop} {K5 : Int32 → Int32 → Int32 → Int32 → MT → Prop} (C : CX "CoderTablesModel" b_M_less 5 (some .int) Z (va_A (cM Z ad u0) s.heap.size) p l s m args meth c) (htab : ∀ x ∈ c.exceptionTable.toList, False) (hK5 : ∀ (x1 : Int32) (x2 : Int32) (x3 : Int32) (x4 : Int32) (u : MT) (H : Heap) (locs : List Loc) (ls : Array Slot), K5 x1 x2 x3 x4 u → WD Z (va_A (cM Z ad u0) s.heap.size) s (cM Z ad u) H locs → lv_has ls 5 [(0, .ref (ad 0)), (1, .int (x1)), (2, .int (x2)), (3, .int (x3)), (4, .int (x4))] → W p l e rm_M_less s m args below meth c H locs 0 0 (vx_MQ below (pQi Z (cM Z ad) (cM Z ad u0) s.heap.size post) (pX Z (cM Z ad) (cM Z ad u0) s.heap.size (fun _ _ => False)) args s 0 0 rm_M_less.cells rm_M_less.slots (va_A (cM Z ad u0) s.heap.size)) (F0 m 5 ls [])) (x1 : Int32) (x2 : Int32) (x4 : Int32) (z0 : Int32) (z1 : Int32) (u : MT) (H : Heap) (locs : List Loc) (ls : Array Slot) (hw : WD Z (va_A (cM Z ad u0) s.heap.size) s (cM Z ad u) H locs) (hl : lv_has ls 5 [(0, .ref (ad 0)), (1, .int (x1)), (2, .int (x2)), (4, .int (x4))]) (h : q_M_less_56 K5 x1 x2 x4 z0 z1 u post) : W p l e rm_M_less s m args below meth c H locs 0 0 (vx_MQ below (pQi Z (cM Z ad) (cM Z ad u0) s.heap.size post) (pX Z (cM Z ad) (cM Z ad u0) s.heap.size (fun _ _ => False)) args s 0 0 rm_M_less.cells rm_M_less.slots (va_A (cM Z ad u0) s.heap.size)) (F0 m 56 ls [.int (z0), .int (z1)]) := by
  unfold q_M_less_56 at h
  refine lv_iadd C.2.1 C.2.2.1 d_M_less_56 ?_
  refine lv_istore_n (lv' := [(3, .int ((z1) + (z0))), (0, .ref (ad 0)), (1, .int (x1)), (2, .int (x2)), (4, .int (x4))]) C.2.1 C.2.2.1 d_M_less_57 rfl hl (by decide) rfl (fun ls hl => ?_)
  refine lv_iinc (v := (x4) + 1) (lv' := [(4, .int ((x4) + 1)), (3, .int ((z1) + (z0))), (0, .ref (ad 0)), (1, .int (x1)), (2, .int (x2))]) C.2.1 C.2.2.1 d_M_less_58 hl (k := 4) rfl rfl (by decide) rfl (fun ls hl => ?_)
  refine lv_goto (tgt := 5) C.2.1 C.2.2.1 d_M_less_61 (by decide) ?_
  exact hK5 (x1) (x2) ((z1) + (z0)) ((x4) + 1) _ _ _ _ h hw (lv_sub hl [2, 3, 4, 1, 0] rfl)
def q_M_less_55 (K5 : Int32 → Int32 → Int32 → Int32 → MT → Prop) (x1 : Int32) (x2 : Int32) (x4 : Int32) (z0 : Int32) (u : MT) (post : Int32 → MT → Prop) : Prop :=
  q_M_less_56 K5 (x1) (x2) (x4) (((0) : Int32)) (z0) (u) post
set_option maxRecDepth 100000 in
theorem w_M_less_55 {p : Program} {l : Launch} {e : Env} {s : State} {m : MethodId} {args : Array Value} {below : List Frame} {meth : Method} {c : Code} {Z : ZT} {ad : Nat → Nat} {u0 : MT} {post : Int32 → MT → Prop} {K5 : Int32 → Int32 → Int32 → Int32 → MT → Prop} (C : CX "CoderTablesModel" b_M_less 5 (some .int) Z (va_A (cM Z ad u0) s.heap.size) p l s m args meth c) (htab : ∀ x ∈ c.exceptionTable.toList, False) (hK5 : ∀ (x1 : Int32) (x2 : Int32) (x3 : Int32) (x4 : Int32) (u : MT) (H : Heap) (locs : List Loc) (ls : Array Slot), K5 x1 x2 x3 x4 u → WD Z (va_A (cM Z ad u0) s.heap.size) s (cM Z ad u) H locs → lv_has ls 5 [(0, .ref (ad 0)), (1, .int (x1)), (2, .int (x2)), (3, .int (x3)), (4, .int (x4))] → W p l e rm_M_less s m args below meth c H locs 0 0 (vx_MQ below (pQi Z (cM Z ad) (cM Z ad u0) s.heap.size post) (pX Z (cM Z ad) (cM Z ad u0) s.heap.size (fun _ _ => False)) args s 0 0 rm_M_less.cells rm_M_less.slots (va_A (cM Z ad u0) s.heap.size)) (F0 m 5 ls [])) (x1 : Int32) (x2 : Int32) (x4 : Int32) (z0 : Int32) (u : MT) (H : Heap) (locs : List Loc) (ls : Array Slot) (hw : WD Z (va_A (cM Z ad u0) s.heap.size) s (cM Z ad u) H locs) (hl : lv_has ls 5 [(0, .ref (ad 0)), (1, .int (x1)), (2, .int (x2)), (4, .int (x4))]) (h : q_M_less_55 K5 x1 x2 x4 z0 u post) : W p l e rm_M_less s m args below meth c H locs 0 0 (vx_MQ below (pQi Z (cM Z ad) (cM Z ad u0) s.heap.size post) (pX Z (cM Z ad) (cM Z ad u0) s.heap.size (fun _ _ => False)) args s 0 0 rm_M_less.cells rm_M_less.slots (va_A (cM Z ad u0) s.heap.size)) (F0 m 55 ls [.int (z0)]) := by
  unfold q_M_less_55 at h
  refine lv_iconst (v := (0)) C.2.1 C.2.2.1 d_M_less_55 (by decide) ?_
  exact w_M_less_56 C htab hK5 (x1) (x2) (x4) (((0) : Int32)) (z0) _ _ _ _ hw (lv_sub hl [0, 1, 2, 3] rfl) h
def q_M_less_5 (K5 : Int32 → Int32 → Int32 → Int32 → MT → Prop) (x1 : Int32) (x2 : Int32) (x3 : Int32) (x4 : Int32) (u : MT) (post : Int32 → MT → Prop) : Prop :=
  (((m_pictures (u)) ≤ (x4) → post (x3) (u)) ∧ (¬ (m_pictures (u)) ≤ (x4) → q_M_areBoth (x1) (x2) (x4) (u) (fun r1 u2 => (((r1) = 0 → q_M_less_55 K5 (x1) (x2) (x4) (x3) (u2) post) ∧ (¬ (r1) = 0 → q_M_bytes (((((24) : Int32)) * (x1)) + (x4)) (u2) (fun r3 u4 => q_M_bytes (((((24) : Int32)) * (x2)) + (x4)) (u4) (fun r5 u6 => (((r5) ≤ (r3) → q_M_less_55 K5 (x1) (x2) (x4) (x3) (u6) post) ∧ (¬ (r5) ≤ (r3) → q_M_less_56 K5 (x1) (x2) (x4) (((1) : Int32)) (x3) (u6) post)))))))))
set_option maxRecDepth 100000 in
theorem w_M_less_5 {p : Program} {l : Launch} {e : Env} {s : State} {m : MethodId} {args : Array Value} {below : List Frame} {meth : Method} {c : Code} {Z : ZT} {ad : Nat → Nat} {u0 : MT} {post : Int32 → MT → Prop} {K5 : Int32 → Int32 → Int32 → Int32 → MT → Prop} (C : CX "CoderTablesModel" b_M_less 5 (some .int) Z (va_A (cM Z ad u0) s.heap.size) p l s m args meth c) (htab : ∀ x ∈ c.exceptionTable.toList, False) (hK5 : ∀ (x1 : Int32) (x2 : Int32) (x3 : Int32) (x4 : Int32) (u : MT) (H : Heap) (locs : List Loc) (ls : Array Slot), K5 x1 x2 x3 x4 u → WD Z (va_A (cM Z ad u0) s.heap.size) s (cM Z ad u) H locs → lv_has ls 5 [(0, .ref (ad 0)), (1, .int (x1)), (2, .int (x2)), (3, .int (x3)), (4, .int (x4))] → W p l e rm_M_less s m args below meth c H locs 0 0 (vx_MQ below (pQi Z (cM Z ad) (cM Z ad u0) s.heap.size post) (pX Z (cM Z ad) (cM Z ad u0) s.heap.size (fun _ _ => False)) args s 0 0 rm_M_less.cells rm_M_less.slots (va_A (cM Z ad u0) s.heap.size)) (F0 m 5 ls [])) (x1 : Int32) (x2 : Int32) (x3 : Int32) (x4 : Int32) (u : MT) (H : Heap) (locs : List Loc) (ls : Array Slot) (hw : WD Z (va_A (cM Z ad u0) s.heap.size) s (cM Z ad u) H locs) (hl : lv_has ls 5 [(0, .ref (ad 0)), (1, .int (x1)), (2, .int (x2)), (3, .int (x3)), (4, .int (x4))]) (h : q_M_less_5 K5 x1 x2 x3 x4 u post) : W p l e rm_M_less s m args below meth c H locs 0 0 (vx_MQ below (pQi Z (cM Z ad) (cM Z ad u0) s.heap.size post) (pX Z (cM Z ad) (cM Z ad u0) s.heap.size (fun _ _ => False)) args s 0 0 rm_M_less.cells rm_M_less.slots (va_A (cM Z ad u0) s.heap.size)) (F0 m 5 ls []) := by
  unfold q_M_less_5 at h
  refine lv_iload C.2.1 C.2.2.1 d_M_less_5 (lv_at hl 4 rfl) ?_
  refine lv_aload_n C.2.1 C.2.2.1 d_M_less_7 rfl (lv_at hl 0 rfl) ?_
  refine r_M_47 C hw d_M_less_8 ?_
  refine lv_icmp_ge (tgt := 64) C.2.1 C.2.2.1 d_M_less_11 (by decide) (fun c => ?_) (fun c => ?_)
  · have h := h.1 c
    refine lv_iload_n C.2.1 C.2.2.1 d_M_less_64 rfl (lv_at hl 3 rfl) ?_
    exact g_iret C hw rfl h d_M_less_65
  · have h := h.2 c
    refine lv_iload_n C.2.1 C.2.2.1 d_M_less_14 rfl (lv_at hl 3 rfl) ?_
    refine lv_aload_n C.2.1 C.2.2.1 d_M_less_15 rfl (lv_at hl 0 rfl) ?_
    refine lv_iload_n C.2.1 C.2.2.1 d_M_less_16 rfl (lv_at hl 1 rfl) ?_
    refine lv_iload_n C.2.1 C.2.2.1 d_M_less_17 rfl (lv_at hl 2 rfl) ?_
    refine lv_iload C.2.1 C.2.2.1 d_M_less_18 (lv_at hl 4 rfl) ?_
    refine k_M_115 C hw h ⟨Nat.le_of_ble_eq_true rfl, Nat.le_of_ble_eq_true rfl, Nat.le_of_ble_eq_true rfl, Nat.le_of_ble_eq_true rfl⟩ hl.1 (Nat.le_of_ble_eq_true rfl) d_M_less_20 (fun r1 u2 H locs h hw => ?_)
    refine lv_if_eq (tgt := 55) C.2.1 C.2.2.1 d_M_less_23 (by decide) (fun c => ?_) (fun c => ?_)
    · have h := h.1 c
      exact w_M_less_55 C htab hK5 (x1) (x2) (x4) (x3) _ _ _ _ hw (lv_sub hl [0, 1, 2, 4] rfl) h
    · have h := h.2 c
      refine lv_aload_n C.2.1 C.2.2.1 d_M_less_26 rfl (lv_at hl 0 rfl) ?_
      refine lv_bipush (v := (24)) C.2.1 C.2.2.1 d_M_less_27 (by decide) ?_
      refine lv_iload_n C.2.1 C.2.2.1 d_M_less_29 rfl (lv_at hl 1 rfl) ?_
      refine lv_imul C.2.1 C.2.2.1 d_M_less_30 ?_
      refine lv_iload C.2.1 C.2.2.1 d_M_less_31 (lv_at hl 4 rfl) ?_
      refine lv_iadd C.2.1 C.2.2.1 d_M_less_33 ?_
      refine k_M_74 C hw h ⟨Nat.le_of_ble_eq_true rfl, Nat.le_of_ble_eq_true rfl, Nat.le_of_ble_eq_true rfl, Nat.le_of_ble_eq_true rfl⟩ hl.1 (Nat.le_of_ble_eq_true rfl) d_M_less_34 (fun r3 u4 H locs h hw => ?_)
      refine lv_aload_n C.2.1 C.2.2.1 d_M_less_37 rfl (lv_at hl 0 rfl) ?_
      refine lv_bipush (v := (24)) C.2.1 C.2.2.1 d_M_less_38 (by decide) ?_
      refine lv_iload_n C.2.1 C.2.2.1 d_M_less_40 rfl (lv_at hl 2 rfl) ?_
      refine lv_imul C.2.1 C.2.2.1 d_M_less_41 ?_
      refine lv_iload C.2.1 C.2.2.1 d_M_less_42 (lv_at hl 4 rfl) ?_
      refine lv_iadd C.2.1 C.2.2.1 d_M_less_44 ?_
      refine k_M_74 C hw h ⟨Nat.le_of_ble_eq_true rfl, Nat.le_of_ble_eq_true rfl, Nat.le_of_ble_eq_true rfl, Nat.le_of_ble_eq_true rfl⟩ hl.1 (Nat.le_of_ble_eq_true rfl) d_M_less_45 (fun r5 u6 H locs h hw => ?_)
      refine lv_icmp_ge (tgt := 55) C.2.1 C.2.2.1 d_M_less_48 (by decide) (fun c => ?_) (fun c => ?_)
      · have h := h.1 c
        exact w_M_less_55 C htab hK5 (x1) (x2) (x4) (x3) _ _ _ _ hw (lv_sub hl [0, 1, 2, 4] rfl) h
      · have h := h.2 c
        refine lv_iconst (v := (1)) C.2.1 C.2.2.1 d_M_less_51 (by decide) ?_
        refine lv_goto (tgt := 56) C.2.1 C.2.2.1 d_M_less_52 (by decide) ?_
        exact w_M_less_56 C htab hK5 (x1) (x2) (x4) (((1) : Int32)) (x3) _ _ _ _ hw (lv_sub hl [0, 1, 2, 4] rfl) h
def q_M_less_5N : Nat → Int32 → Int32 → Int32 → Int32 → MT → (Int32 → MT → Prop) → Prop
  | 0 => fun _ _ _ _ _ _ => False
  | n + 1 => fun x1 x2 x3 x4 u post => q_M_less_5 (fun x1 x2 x3 x4 u => q_M_less_5N n x1 x2 x3 x4 u post) x1 x2 x3 x4 u post
theorem w_M_less_5N {p : Program} {l : Launch} {e : Env} {s : State} {m : MethodId} {args : Array Value} {below : List Frame} {meth : Method} {c : Code} {Z : ZT} {ad : Nat → Nat} {u0 : MT} {post : Int32 → MT → Prop} (C : CX "CoderTablesModel" b_M_less 5 (some .int) Z (va_A (cM Z ad u0) s.heap.size) p l s m args meth c) (htab : ∀ x ∈ c.exceptionTable.toList, False) : ∀ (n : Nat) (x1 : Int32) (x2 : Int32) (x3 : Int32) (x4 : Int32) (u : MT) (H : Heap) (locs : List Loc) (ls : Array Slot), WD Z (va_A (cM Z ad u0) s.heap.size) s (cM Z ad u) H locs → lv_has ls 5 [(0, .ref (ad 0)), (1, .int (x1)), (2, .int (x2)), (3, .int (x3)), (4, .int (x4))] → q_M_less_5N n x1 x2 x3 x4 u post → W p l e rm_M_less s m args below meth c H locs 0 0 (vx_MQ below (pQi Z (cM Z ad) (cM Z ad u0) s.heap.size post) (pX Z (cM Z ad) (cM Z ad u0) s.heap.size (fun _ _ => False)) args s 0 0 rm_M_less.cells rm_M_less.slots (va_A (cM Z ad u0) s.heap.size)) (F0 m 5 ls []) := by
  intro n
  induction n with
  | zero => intro x1 x2 x3 x4 u H locs ls hw hl h; exact h.elim
  | succ n ih => intro x1 x2 x3 x4 u H locs ls hw hl h; exact w_M_less_5 C htab (fun x1 x2 x3 x4 u H locs ls h hw hl => ih x1 x2 x3 x4 u H locs ls hw hl h) x1 x2 x3 x4 u H locs ls hw hl h
def q_M_less (p1 : Int32) (p2 : Int32) (u : MT) (post : Int32 → MT → Prop) : Prop :=
  ∃ n, q_M_less_5N n (p1) (p2) (((0) : Int32)) (((0) : Int32)) (u) post
set_option maxRecDepth 100000 in
theorem c_M_less {l : Launch} {Z : ZT} {ad : Nat → Nat} {u : MT} {post : Int32 → MT → Prop} {p1 : Int32} {p2 : Int32} (hl0 : l.stackTraces = false) (h : q_M_less p1 p2 u post) : ∀ sz, vx_Met l y_M_less (Cond.code y_M_less b_M_less 5 (some .int) :: GW) rm_M_less (pP Z [.ref (ad 0), .int (p1), .int (p2)] (cM Z ad u) sz) (pQi Z (cM Z ad) (cM Z ad u) sz post) (pX Z (cM Z ad) (cM Z ad u) sz (fun _ _ => False)) 0 0 rm_M_less.cells rm_M_less.slots (va_A (cM Z ad u) sz) := by
  refine g_ent (f := cM Z ad) (Qc := fun sz => pQi Z (cM Z ad) (cM Z ad u) sz post) (XC := fun sz => pX Z (cM Z ad) (cM Z ad u) sz (fun _ _ => False)) hl0 (by decide +kernel) (Nat.le_of_ble_eq_true rfl) ?_
  intro p e s m args below meth c ls C htab hw hl
  have hl : lv_has ls 5 [(0, .ref (ad 0)), (1, .int (p1)), (2, .int (p2))] := hl
  unfold q_M_less at h
  refine lv_iconst (v := (0)) C.2.1 C.2.2.1 d_M_less_0 (by decide) ?_
  refine lv_istore_n (lv' := [(3, .int (((0) : Int32))), (0, .ref (ad 0)), (1, .int (p1)), (2, .int (p2))]) C.2.1 C.2.2.1 d_M_less_1 rfl hl (by decide) rfl (fun ls hl => ?_)
  refine lv_iconst (v := (0)) C.2.1 C.2.2.1 d_M_less_2 (by decide) ?_
  refine lv_istore (lv' := [(4, .int (((0) : Int32))), (3, .int (((0) : Int32))), (0, .ref (ad 0)), (1, .int (p1)), (2, .int (p2))]) C.2.1 C.2.2.1 d_M_less_3 hl (by decide) rfl (fun ls hl => ?_)
  obtain ⟨n, h⟩ := h
  exact w_M_less_5N C htab n (p1) (p2) (((0) : Int32)) (((0) : Int32)) _ _ _ _ hw (lv_sub hl [2, 3, 4, 1, 0] rfl) h
section KR
variable {own host : String} {cc bytes : ByteArray} {nL maxL index n : Nat} {rt0 rt : Option FieldType} {Z : ZT} {ad : Nat → Nat} {A : Nat → Prop}
variable {p : Program} {l : Launch} {e : Env} {R : Room} {s : State} {m : MethodId} {args : Array Value} {below : List Frame} {meth : Method} {c : Code} {H : Heap} {locs : List Loc} {cells slots : Nat} {Q : State → Prop} {rest : List Value} {pc : Nat} {ls : Array Slot}
theorem k_M_120 {u : MT} {p1 : Int32} {p2 : Int32} {post : Int32 → MT → Prop} (C : CX "CoderTablesModel" cc nL rt0 Z A p l s m args meth c) (hw : WD Z A s (cM Z ad u) H locs) (h : q_M_less p1 p2 u post) (hR : rmOk rm_M_less 5 R cells slots) (hl : ls.size = nL) (hW : (rest.map fun v => v.category).sum ≤ 8) (hdg : decode cc pc = .ok (.invokevirtual 120, 3)) (kk : ∀ (r : Int32) (u' : MT) (H1 : Heap) (locs1 : List Loc), post r u' → WD Z A s (cM Z ad u') H1 locs1 → W p l e R s m args below meth c H1 locs1 cells slots Q (F0 m (pc + 3) ls (.int r :: rest))) : W p l e R s m args below meth c H locs cells slots Q (F0 m pc ls (.int (p2) :: .int (p1) :: .ref (ad 0) :: rest)) :=
  g_V0_i (n := 2) (f := cM Z ad) (As := [.int (p1), .int (p2)]) C hw (c_M_less C.1 h) ⟨w727, w729, w44, w56, w730, (by decide +kernel), (by decide +kernel), (by decide +kernel)⟩ hR 0 rfl rfl rfl hl rfl hW hdg (fun _ _ _ _ _ _ h => h.elim) kk
end KR
/-! CoderTablesModel.signs(III)J -/
abbrev rm_M_signs : Room := { frames := 2, cells := 0, slots := 0, locals := 55 }
def q_M_signs_107 (K84 : Int32 → Int32 → Int32 → Int32 → MT → Prop) (x3 : Int32) (x4 : Int32) (x5 : Int32) (x6 : Int32) (z0 : Int64) (z1 : Int32) (u : MT) (post : Int64 → MT → Prop) : Prop :=
  (vp_in (z1) 25 ∧ K84 (x3) (x4) (x5) ((x6) + 1) (m_ways_s (u) (vp_updL (m_ways (u)) (z1).toNatClampNeg (z0))))
set_option maxRecDepth 100000 in
theorem w_M_signs_107 {p : Program} {l : Launch} {e : Env} {s : State} {m : MethodId} {args : Array Value} {below : List Frame} {meth : Method} {c : Code} {Z : ZT} {ad : Nat → Nat} {u0 : MT} {post : Int64 → MT → Prop} {K84 : Int32 → Int32 → Int32 → Int32 → MT → Prop} (C : CX "CoderTablesModel" b_M_signs 11 (some .long) Z (va_A (cM Z ad u0) s.heap.size) p l s m args meth c) (htab : ∀ x ∈ c.exceptionTable.toList, False) (hK84 : ∀ (x3 : Int32) (x4 : Int32) (x5 : Int32) (x6 : Int32) (u : MT) (H : Heap) (locs : List Loc) (ls : Array Slot), K84 x3 x4 x5 x6 u → WD Z (va_A (cM Z ad u0) s.heap.size) s (cM Z ad u) H locs → lv_has ls 11 [(0, .ref (ad 0)), (3, .int (x3)), (4, .int (x4)), (5, .int (x5)), (6, .int (x6))] → W p l e rm_M_signs s m args below meth c H locs 0 0 (vx_MQ below (pQl Z (cM Z ad) (cM Z ad u0) s.heap.size post) (pX Z (cM Z ad) (cM Z ad u0) s.heap.size (fun _ _ => False)) args s 0 0 rm_M_signs.cells rm_M_signs.slots (va_A (cM Z ad u0) s.heap.size)) (F0 m 84 ls [])) (x3 : Int32) (x4 : Int32) (x5 : Int32) (x6 : Int32) (z0 : Int64) (z1 : Int32) (u : MT) (H : Heap) (locs : List Loc) (ls : Array Slot) (hw : WD Z (va_A (cM Z ad u0) s.heap.size) s (cM Z ad u) H locs) (hl : lv_has ls 11 [(0, .ref (ad 0)), (3, .int (x3)), (4, .int (x4)), (5, .int (x5)), (6, .int (x6))]) (h : q_M_signs_107 K84 x3 x4 x5 x6 z0 z1 u post) : W p l e rm_M_signs s m args below meth c H locs 0 0 (vx_MQ below (pQl Z (cM Z ad) (cM Z ad u0) s.heap.size post) (pX Z (cM Z ad) (cM Z ad u0) s.heap.size (fun _ _ => False)) args s 0 0 rm_M_signs.cells rm_M_signs.slots (va_A (cM Z ad u0) s.heap.size)) (F0 m 107 ls [.long (z0), .int (z1), .ref (ad 8)]) := by
  unfold q_M_signs_107 at h
  obtain ⟨hi, h⟩ := h
  refine as_M_8 C hw hi d_M_signs_107 (fun H locs hw => ?_)
  refine lv_iinc (v := (x6) + 1) (lv' := [(6, .int ((x6) + 1)), (0, .ref (ad 0)), (3, .int (x3)), (4, .int (x4)), (5, .int (x5))]) C.2.1 C.2.2.1 d_M_signs_108 hl (k := 4) rfl rfl (by decide) rfl (fun ls hl => ?_)
  refine lv_goto (tgt := 84) C.2.1 C.2.2.1 d_M_signs_111 (by decide) ?_
  exact hK84 (x3) (x4) (x5) ((x6) + 1) _ _ _ _ h hw (lv_sub hl [1, 2, 3, 4, 0] rfl)
def q_M_signs_131 (K117 : Int32 → Int32 → Int32 → Int32 → MT → Prop) (K131 : Int32 → Int32 → Int32 → Int32 → Int32 → MT → Prop) (x3 : Int32) (x4 : Int32) (x5 : Int32) (x6 : Int32) (x7 : Int32) (u : MT) (post : Int64 → MT → Prop) : Prop :=
  (((x7) ≤ 0 → K117 (x3) (x4) (x5) ((x6) + 1) (u)) ∧ (¬ (x7) ≤ 0 → (vp_in (x7) 25 ∧ (vp_in ((x7) - (((1) : Int32))) 25 ∧ (vp_in (x7) 25 ∧ K131 (x3) (x4) (x5) (x6) ((x7) + (-1)) (m_ways_s (u) (vp_updL (m_ways (u)) (x7).toNatClampNeg ((m_ways (u) (x7).toNatClampNeg) + (m_ways (u) ((x7) - (((1) : Int32))).toNatClampNeg)))))))))
set_option maxRecDepth 100000 in
theorem w_M_signs_131 {p : Program} {l : Launch} {e : Env} {s : State} {m : MethodId} {args : Array Value} {below : List Frame} {meth : Method} {c : Code} {Z : ZT} {ad : Nat → Nat} {u0 : MT} {post : Int64 → MT → Prop} {K117 : Int32 → Int32 → Int32 → Int32 → MT → Prop} {K131 : Int32 → Int32 → Int32 → Int32 → Int32 → MT → Prop} (C : CX "CoderTablesModel" b_M_signs 11 (some .long) Z (va_A (cM Z ad u0) s.heap.size) p l s m args meth c) (htab : ∀ x ∈ c.exceptionTable.toList, False) (hK117 : ∀ (x3 : Int32) (x4 : Int32) (x5 : Int32) (x6 : Int32) (u : MT) (H : Heap) (locs : List Loc) (ls : Array Slot), K117 x3 x4 x5 x6 u → WD Z (va_A (cM Z ad u0) s.heap.size) s (cM Z ad u) H locs → lv_has ls 11 [(0, .ref (ad 0)), (3, .int (x3)), (4, .int (x4)), (5, .int (x5)), (6, .int (x6))] → W p l e rm_M_signs s m args below meth c H locs 0 0 (vx_MQ below (pQl Z (cM Z ad) (cM Z ad u0) s.heap.size post) (pX Z (cM Z ad) (cM Z ad u0) s.heap.size (fun _ _ => False)) args s 0 0 rm_M_signs.cells rm_M_signs.slots (va_A (cM Z ad u0) s.heap.size)) (F0 m 117 ls [])) (hK131 : ∀ (x3 : Int32) (x4 : Int32) (x5 : Int32) (x6 : Int32) (x7 : Int32) (u : MT) (H : Heap) (locs : List Loc) (ls : Array Slot), K131 x3 x4 x5 x6 x7 u → WD Z (va_A (cM Z ad u0) s.heap.size) s (cM Z ad u) H locs → lv_has ls 11 [(0, .ref (ad 0)), (3, .int (x3)), (4, .int (x4)), (5, .int (x5)), (6, .int (x6)), (7, .int (x7))] → W p l e rm_M_signs s m args below meth c H locs 0 0 (vx_MQ below (pQl Z (cM Z ad) (cM Z ad u0) s.heap.size post) (pX Z (cM Z ad) (cM Z ad u0) s.heap.size (fun _ _ => False)) args s 0 0 rm_M_signs.cells rm_M_signs.slots (va_A (cM Z ad u0) s.heap.size)) (F0 m 131 ls [])) (x3 : Int32) (x4 : Int32) (x5 : Int32) (x6 : Int32) (x7 : Int32) (u : MT) (H : Heap) (locs : List Loc) (ls : Array Slot) (hw : WD Z (va_A (cM Z ad u0) s.heap.size) s (cM Z ad u) H locs) (hl : lv_has ls 11 [(0, .ref (ad 0)), (3, .int (x3)), (4, .int (x4)), (5, .int (x5)), (6, .int (x6)), (7, .int (x7))]) (h : q_M_signs_131 K117 K131 x3 x4 x5 x6 x7 u post) : W p l e rm_M_signs s m args below meth c H locs 0 0 (vx_MQ below (pQl Z (cM Z ad) (cM Z ad u0) s.heap.size post) (pX Z (cM Z ad) (cM Z ad u0) s.heap.size (fun _ _ => False)) args s 0 0 rm_M_signs.cells rm_M_signs.slots (va_A (cM Z ad u0) s.heap.size)) (F0 m 131 ls []) := by
  unfold q_M_signs_131 at h
  refine lv_iload C.2.1 C.2.2.1 d_M_signs_131 (lv_at hl 5 rfl) ?_
  refine lv_if_le (tgt := 161) C.2.1 C.2.2.1 d_M_signs_133 (by decide) (fun c => ?_) (fun c => ?_)
  · have h := h.1 c
    refine lv_iinc (v := (x6) + 1) (lv' := [(6, .int ((x6) + 1)), (0, .ref (ad 0)), (3, .int (x3)), (4, .int (x4)), (5, .int (x5)), (7, .int (x7))]) C.2.1 C.2.2.1 d_M_signs_161 hl (k := 4) rfl rfl (by decide) rfl (fun ls hl => ?_)
    refine lv_goto (tgt := 117) C.2.1 C.2.2.1 d_M_signs_164 (by decide) ?_
    exact hK117 (x3) (x4) (x5) ((x6) + 1) _ _ _ _ h hw (lv_sub hl [1, 2, 3, 4, 0] rfl)
  · have h := h.2 c
    refine lv_aload_n C.2.1 C.2.2.1 d_M_signs_136 rfl (lv_at hl 0 rfl) ?_
    refine r_M_32 C hw d_M_signs_137 ?_
    refine lv_iload C.2.1 C.2.2.1 d_M_signs_140 (lv_at hl 5 rfl) ?_
    refine lv_dup2_11 C.2.1 C.2.2.1 d_M_signs_142 rfl rfl ?_
    obtain ⟨hi, h⟩ := h
    refine al_M_8 C hw hi d_M_signs_143 ?_
    refine lv_aload_n C.2.1 C.2.2.1 d_M_signs_144 rfl (lv_at hl 0 rfl) ?_
    refine r_M_32 C hw d_M_signs_145 ?_
    refine lv_iload C.2.1 C.2.2.1 d_M_signs_148 (lv_at hl 5 rfl) ?_
    refine lv_iconst (v := (1)) C.2.1 C.2.2.1 d_M_signs_150 (by decide) ?_
    refine lv_isub C.2.1 C.2.2.1 d_M_signs_151 ?_
    obtain ⟨hi, h⟩ := h
    refine al_M_8 C hw hi d_M_signs_152 ?_
    refine lv_ladd C.2.1 C.2.2.1 d_M_signs_153 ?_
    obtain ⟨hi, h⟩ := h
    refine as_M_8 C hw hi d_M_signs_154 (fun H locs hw => ?_)
    refine lv_iinc (v := (x7) + (-1)) (lv' := [(7, .int ((x7) + (-1))), (0, .ref (ad 0)), (3, .int (x3)), (4, .int (x4)), (5, .int (x5)), (6, .int (x6))]) C.2.1 C.2.2.1 d_M_signs_155 hl (k := 5) rfl rfl (by decide) rfl (fun ls hl => ?_)
    refine lv_goto (tgt := 131) C.2.1 C.2.2.1 d_M_signs_158 (by decide) ?_
    exact hK131 (x3) (x4) (x5) (x6) ((x7) + (-1)) _ _ _ _ h hw (lv_sub hl [1, 2, 3, 4, 5, 0] rfl)
def q_M_signs_131N (K117 : Int32 → Int32 → Int32 → Int32 → MT → Prop) : Nat → Int32 → Int32 → Int32 → Int32 → Int32 → MT → (Int64 → MT → Prop) → Prop
  | 0 => fun _ _ _ _ _ _ _ => False
  | n + 1 => fun x3 x4 x5 x6 x7 u post => q_M_signs_131 K117 (fun x3 x4 x5 x6 x7 u => q_M_signs_131N K117 n x3 x4 x5 x6 x7 u post) x3 x4 x5 x6 x7 u post
theorem w_M_signs_131N {p : Program} {l : Launch} {e : Env} {s : State} {m : MethodId} {args : Array Value} {below : List Frame} {meth : Method} {c : Code} {Z : ZT} {ad : Nat → Nat} {u0 : MT} {post : Int64 → MT → Prop} {K117 : Int32 → Int32 → Int32 → Int32 → MT → Prop} (C : CX "CoderTablesModel" b_M_signs 11 (some .long) Z (va_A (cM Z ad u0) s.heap.size) p l s m args meth c) (htab : ∀ x ∈ c.exceptionTable.toList, False) (hK117 : ∀ (x3 : Int32) (x4 : Int32) (x5 : Int32) (x6 : Int32) (u : MT) (H : Heap) (locs : List Loc) (ls : Array Slot), K117 x3 x4 x5 x6 u → WD Z (va_A (cM Z ad u0) s.heap.size) s (cM Z ad u) H locs → lv_has ls 11 [(0, .ref (ad 0)), (3, .int (x3)), (4, .int (x4)), (5, .int (x5)), (6, .int (x6))] → W p l e rm_M_signs s m args below meth c H locs 0 0 (vx_MQ below (pQl Z (cM Z ad) (cM Z ad u0) s.heap.size post) (pX Z (cM Z ad) (cM Z ad u0) s.heap.size (fun _ _ => False)) args s 0 0 rm_M_signs.cells rm_M_signs.slots (va_A (cM Z ad u0) s.heap.size)) (F0 m 117 ls [])) : ∀ (n : Nat) (x3 : Int32) (x4 : Int32) (x5 : Int32) (x6 : Int32) (x7 : Int32) (u : MT) (H : Heap) (locs : List Loc) (ls : Array Slot), WD Z (va_A (cM Z ad u0) s.heap.size) s (cM Z ad u) H locs → lv_has ls 11 [(0, .ref (ad 0)), (3, .int (x3)), (4, .int (x4)), (5, .int (x5)), (6, .int (x6)), (7, .int (x7))] → q_M_signs_131N K117 n x3 x4 x5 x6 x7 u post → W p l e rm_M_signs s m args below meth c H locs 0 0 (vx_MQ below (pQl Z (cM Z ad) (cM Z ad u0) s.heap.size post) (pX Z (cM Z ad) (cM Z ad u0) s.heap.size (fun _ _ => False)) args s 0 0 rm_M_signs.cells rm_M_signs.slots (va_A (cM Z ad u0) s.heap.size)) (F0 m 131 ls []) := by
  intro n
  induction n with
  | zero => intro x3 x4 x5 x6 x7 u H locs ls hw hl h; exact h.elim
  | succ n ih => intro x3 x4 x5 x6 x7 u H locs ls hw hl h; exact w_M_signs_131 C htab hK117 (fun x3 x4 x5 x6 x7 u H locs ls h hw hl => ih x3 x4 x5 x6 x7 u H locs ls hw hl h) x3 x4 x5 x6 x7 u H locs ls hw hl h
def q_M_signs_245 (z0 : Int32) (z1 : Int64) (z2 : Int64) (u : MT) (post : Int64 → MT → Prop) : Prop :=
  q_M_part (z2) (z1) (z0) (u) (fun r1 u2 => post (r1) (u2))
set_option maxRecDepth 100000 in
theorem w_M_signs_245 {p : Program} {l : Launch} {e : Env} {s : State} {m : MethodId} {args : Array Value} {below : List Frame} {meth : Method} {c : Code} {Z : ZT} {ad : Nat → Nat} {u0 : MT} {post : Int64 → MT → Prop} (C : CX "CoderTablesModel" b_M_signs 11 (some .long) Z (va_A (cM Z ad u0) s.heap.size) p l s m args meth c) (htab : ∀ x ∈ c.exceptionTable.toList, False) (z0 : Int32) (z1 : Int64) (z2 : Int64) (u : MT) (H : Heap) (locs : List Loc) (ls : Array Slot) (hw : WD Z (va_A (cM Z ad u0) s.heap.size) s (cM Z ad u) H locs) (hl : lv_has ls 11 []) (h : q_M_signs_245 z0 z1 z2 u post) : W p l e rm_M_signs s m args below meth c H locs 0 0 (vx_MQ below (pQl Z (cM Z ad) (cM Z ad u0) s.heap.size post) (pX Z (cM Z ad) (cM Z ad u0) s.heap.size (fun _ _ => False)) args s 0 0 rm_M_signs.cells rm_M_signs.slots (va_A (cM Z ad u0) s.heap.size)) (F0 m 245 ls [.int (z0), .long (z1), .long (z2)]) := by
  unfold q_M_signs_245 at h
  refine k_M_91 C hw h ⟨Nat.le_of_ble_eq_true rfl, Nat.le_of_ble_eq_true rfl, Nat.le_of_ble_eq_true rfl, Nat.le_of_ble_eq_true rfl⟩ hl.1 (Nat.le_of_ble_eq_true rfl) d_M_signs_245 (fun r1 u2 H locs h hw => ?_)
  exact g_lret C hw h d_M_signs_248
def q_M_signs_233 (x3 : Int32) (x6 : Int64) (z0 : Int64) (u : MT) (post : Int64 → MT → Prop) : Prop :=
  ((¬ (x3) = (((2) : Int32)) → q_M_signs_245 (((0) : Int32)) (x6) (z0) (u) post) ∧ ((x3) = (((2) : Int32)) → q_M_signs_245 (((1) : Int32)) (x6) (z0) (u) post))
set_option maxRecDepth 100000 in
theorem w_M_signs_233 {p : Program} {l : Launch} {e : Env} {s : State} {m : MethodId} {args : Array Value} {below : List Frame} {meth : Method} {c : Code} {Z : ZT} {ad : Nat → Nat} {u0 : MT} {post : Int64 → MT → Prop} (C : CX "CoderTablesModel" b_M_signs 11 (some .long) Z (va_A (cM Z ad u0) s.heap.size) p l s m args meth c) (htab : ∀ x ∈ c.exceptionTable.toList, False) (x3 : Int32) (x6 : Int64) (z0 : Int64) (u : MT) (H : Heap) (locs : List Loc) (ls : Array Slot) (hw : WD Z (va_A (cM Z ad u0) s.heap.size) s (cM Z ad u) H locs) (hl : lv_has ls 11 [(3, .int (x3)), (6, .long (x6))]) (h : q_M_signs_233 x3 x6 z0 u post) : W p l e rm_M_signs s m args below meth c H locs 0 0 (vx_MQ below (pQl Z (cM Z ad) (cM Z ad u0) s.heap.size post) (pX Z (cM Z ad) (cM Z ad u0) s.heap.size (fun _ _ => False)) args s 0 0 rm_M_signs.cells rm_M_signs.slots (va_A (cM Z ad u0) s.heap.size)) (F0 m 233 ls [.long (z0)]) := by
  unfold q_M_signs_233 at h
  refine lv_lload C.2.1 C.2.2.1 d_M_signs_233 (lv_at hl 1 rfl) ?_
  refine lv_iload_n C.2.1 C.2.2.1 d_M_signs_235 rfl (lv_at hl 0 rfl) ?_
  refine lv_iconst (v := (2)) C.2.1 C.2.2.1 d_M_signs_236 (by decide) ?_
  refine lv_icmp_ne (tgt := 244) C.2.1 C.2.2.1 d_M_signs_237 (by decide) (fun c => ?_) (fun c => ?_)
  · have h := h.1 c
    refine lv_iconst (v := (0)) C.2.1 C.2.2.1 d_M_signs_244 (by decide) ?_
    exact w_M_signs_245 C htab (((0) : Int32)) (x6) (z0) _ _ _ _ hw (lv_sub hl [] rfl) h
  · have h := h.2 c
    refine lv_iconst (v := (1)) C.2.1 C.2.2.1 d_M_signs_240 (by decide) ?_
    refine lv_goto (tgt := 245) C.2.1 C.2.2.1 d_M_signs_241 (by decide) ?_
    exact w_M_signs_245 C htab (((1) : Int32)) (x6) (z0) _ _ _ _ hw (lv_sub hl [] rfl) h
def q_M_signs_218 (x3 : Int32) (x6 : Int64) (x8 : Int64) (u : MT) (post : Int64 → MT → Prop) : Prop :=
  (((lg_cmp (x8) (x6)) ≤ 0 → q_M_signs_233 (x3) (x6) (x8) (u) post) ∧ (¬ (lg_cmp (x8) (x6)) ≤ 0 → q_M_signs_233 (x3) (x6) (x6) (u) post))
set_option maxRecDepth 100000 in
theorem w_M_signs_218 {p : Program} {l : Launch} {e : Env} {s : State} {m : MethodId} {args : Array Value} {below : List Frame} {meth : Method} {c : Code} {Z : ZT} {ad : Nat → Nat} {u0 : MT} {post : Int64 → MT → Prop} (C : CX "CoderTablesModel" b_M_signs 11 (some .long) Z (va_A (cM Z ad u0) s.heap.size) p l s m args meth c) (htab : ∀ x ∈ c.exceptionTable.toList, False) (x3 : Int32) (x6 : Int64) (x8 : Int64) (u : MT) (H : Heap) (locs : List Loc) (ls : Array Slot) (hw : WD Z (va_A (cM Z ad u0) s.heap.size) s (cM Z ad u) H locs) (hl : lv_has ls 11 [(3, .int (x3)), (6, .long (x6)), (8, .long (x8))]) (h : q_M_signs_218 x3 x6 x8 u post) : W p l e rm_M_signs s m args below meth c H locs 0 0 (vx_MQ below (pQl Z (cM Z ad) (cM Z ad u0) s.heap.size post) (pX Z (cM Z ad) (cM Z ad u0) s.heap.size (fun _ _ => False)) args s 0 0 rm_M_signs.cells rm_M_signs.slots (va_A (cM Z ad u0) s.heap.size)) (F0 m 218 ls []) := by
  unfold q_M_signs_218 at h
  refine lv_lload C.2.1 C.2.2.1 d_M_signs_218 (lv_at hl 2 rfl) ?_
  refine lv_lload C.2.1 C.2.2.1 d_M_signs_220 (lv_at hl 1 rfl) ?_
  refine W.lcmp C.2.1 C.2.2.1 d_M_signs_222 ?_
  refine lv_if_le (tgt := 231) C.2.1 C.2.2.1 d_M_signs_223 (by decide) (fun c => ?_) (fun c => ?_)
  · have h := h.1 c
    refine lv_lload C.2.1 C.2.2.1 d_M_signs_231 (lv_at hl 2 rfl) ?_
    exact w_M_signs_233 C htab (x3) (x6) (x8) _ _ _ _ hw (lv_sub hl [0, 1] rfl) h
  · have h := h.2 c
    refine lv_lload C.2.1 C.2.2.1 d_M_signs_226 (lv_at hl 1 rfl) ?_
    refine lv_goto (tgt := 233) C.2.1 C.2.2.1 d_M_signs_228 (by decide) ?_
    exact w_M_signs_233 C htab (x3) (x6) (x6) _ _ _ _ hw (lv_sub hl [0, 1] rfl) h
def q_M_signs_182 (K182 : Int32 → Int32 → Int32 → Int64 → Int64 → Int32 → MT → Prop) (x3 : Int32) (x4 : Int32) (x5 : Int32) (x6 : Int64) (x8 : Int64) (x10 : Int32) (u : MT) (post : Int64 → MT → Prop) : Prop :=
  (((x4) < (x10) → q_M_signs_218 (x3) (x6) (x8) (u) post) ∧ (¬ (x4) < (x10) → (((x5) < (x10) → q_M_signs_218 (x3) (x6) (x8) (u) post) ∧ (¬ (x5) < (x10) → (vp_in (x10) 25 ∧ K182 (x3) (x4) (x5) (x6) ((x8) + (((2 : Int64)) * (m_ways (u) (x10).toNatClampNeg))) ((x10) + 1) (u))))))
set_option maxRecDepth 100000 in
theorem w_M_signs_182 {p : Program} {l : Launch} {e : Env} {s : State} {m : MethodId} {args : Array Value} {below : List Frame} {meth : Method} {c : Code} {Z : ZT} {ad : Nat → Nat} {u0 : MT} {post : Int64 → MT → Prop} {K182 : Int32 → Int32 → Int32 → Int64 → Int64 → Int32 → MT → Prop} (C : CX "CoderTablesModel" b_M_signs 11 (some .long) Z (va_A (cM Z ad u0) s.heap.size) p l s m args meth c) (htab : ∀ x ∈ c.exceptionTable.toList, False) (hK182 : ∀ (x3 : Int32) (x4 : Int32) (x5 : Int32) (x6 : Int64) (x8 : Int64) (x10 : Int32) (u : MT) (H : Heap) (locs : List Loc) (ls : Array Slot), K182 x3 x4 x5 x6 x8 x10 u → WD Z (va_A (cM Z ad u0) s.heap.size) s (cM Z ad u) H locs → lv_has ls 11 [(0, .ref (ad 0)), (3, .int (x3)), (4, .int (x4)), (5, .int (x5)), (6, .long (x6)), (8, .long (x8)), (10, .int (x10))] → W p l e rm_M_signs s m args below meth c H locs 0 0 (vx_MQ below (pQl Z (cM Z ad) (cM Z ad u0) s.heap.size post) (pX Z (cM Z ad) (cM Z ad u0) s.heap.size (fun _ _ => False)) args s 0 0 rm_M_signs.cells rm_M_signs.slots (va_A (cM Z ad u0) s.heap.size)) (F0 m 182 ls [])) (x3 : Int32) (x4 : Int32) (x5 : Int32) (x6 : Int64) (x8 : Int64) (x10 : Int32) (u : MT) (H : Heap) (locs : List Loc) (ls : Array Slot) (hw : WD Z (va_A (cM Z ad u0) s.heap.size) s (cM Z ad u) H locs) (hl : lv_has ls 11 [(0, .ref (ad 0)), (3, .int (x3)), (4, .int (x4)), (5, .int (x5)), (6, .long (x6)), (8, .long (x8)), (10, .int (x10))]) (h : q_M_signs_182 K182 x3 x4 x5 x6 x8 x10 u post) : W p l e rm_M_signs s m args below meth c H locs 0 0 (vx_MQ below (pQl Z (cM Z ad) (cM Z ad u0) s.heap.size post) (pX Z (cM Z ad) (cM Z ad u0) s.heap.size (fun _ _ => False)) args s 0 0 rm_M_signs.cells rm_M_signs.slots (va_A (cM Z ad u0) s.heap.size)) (F0 m 182 ls []) := by
  unfold q_M_signs_182 at h
  refine lv_iload C.2.1 C.2.2.1 d_M_signs_182 (lv_at hl 6 rfl) ?_
  refine lv_iload C.2.1 C.2.2.1 d_M_signs_184 (lv_at hl 2 rfl) ?_
  refine lv_icmp_gt (tgt := 218) C.2.1 C.2.2.1 d_M_signs_186 (by decide) (fun c => ?_) (fun c => ?_)
  · have h := h.1 c
    exact w_M_signs_218 C htab (x3) (x6) (x8) _ _ _ _ hw (lv_sub hl [1, 4, 5] rfl) h
  · have h := h.2 c
    refine lv_iload C.2.1 C.2.2.1 d_M_signs_189 (lv_at hl 6 rfl) ?_
    refine lv_iload C.2.1 C.2.2.1 d_M_signs_191 (lv_at hl 3 rfl) ?_
    refine lv_icmp_gt (tgt := 218) C.2.1 C.2.2.1 d_M_signs_193 (by decide) (fun c => ?_) (fun c => ?_)
    · have h := h.1 c
      exact w_M_signs_218 C htab (x3) (x6) (x8) _ _ _ _ hw (lv_sub hl [1, 4, 5] rfl) h
    · have h := h.2 c
      refine lv_lload C.2.1 C.2.2.1 d_M_signs_196 (lv_at hl 5 rfl) ?_
      refine lv_ldc2 (v := 2) C.2.1 C.2.2.1 C.2.2.2.2.1 (C.2.2.2.2.2.1 _ w735) d_M_signs_198 ?_
      refine lv_aload_n C.2.1 C.2.2.1 d_M_signs_201 rfl (lv_at hl 0 rfl) ?_
      refine r_M_32 C hw d_M_signs_202 ?_
      refine lv_iload C.2.1 C.2.2.1 d_M_signs_205 (lv_at hl 6 rfl) ?_
      obtain ⟨hi, h⟩ := h
      refine al_M_8 C hw hi d_M_signs_207 ?_
      refine lv_lmul C.2.1 C.2.2.1 d_M_signs_208 ?_
      refine lv_ladd C.2.1 C.2.2.1 d_M_signs_209 ?_
      refine lv_lstore (lv' := [(8, .long ((x8) + (((2 : Int64)) * (m_ways (u) (x10).toNatClampNeg)))), (0, .ref (ad 0)), (3, .int (x3)), (4, .int (x4)), (5, .int (x5)), (6, .long (x6)), (10, .int (x10))]) C.2.1 C.2.2.1 d_M_signs_210 hl (by decide) rfl (fun ls hl => ?_)
      refine lv_iinc (v := (x10) + 1) (lv' := [(10, .int ((x10) + 1)), (8, .long ((x8) + (((2 : Int64)) * (m_ways (u) (x10).toNatClampNeg)))), (0, .ref (ad 0)), (3, .int (x3)), (4, .int (x4)), (5, .int (x5)), (6, .long (x6))]) C.2.1 C.2.2.1 d_M_signs_212 hl (k := 6) rfl rfl (by decide) rfl (fun ls hl => ?_)
      refine lv_goto (tgt := 182) C.2.1 C.2.2.1 d_M_signs_215 (by decide) ?_
      exact hK182 (x3) (x4) (x5) (x6) ((x8) + (((2 : Int64)) * (m_ways (u) (x10).toNatClampNeg))) ((x10) + 1) _ _ _ _ h hw (lv_sub hl [2, 3, 4, 5, 6, 1, 0] rfl)
def q_M_signs_182N : Nat → Int32 → Int32 → Int32 → Int64 → Int64 → Int32 → MT → (Int64 → MT → Prop) → Prop
  | 0 => fun _ _ _ _ _ _ _ _ => False
  | n + 1 => fun x3 x4 x5 x6 x8 x10 u post => q_M_signs_182 (fun x3 x4 x5 x6 x8 x10 u => q_M_signs_182N n x3 x4 x5 x6 x8 x10 u post) x3 x4 x5 x6 x8 x10 u post
theorem w_M_signs_182N {p : Program} {l : Launch} {e : Env} {s : State} {m : MethodId} {args : Array Value} {below : List Frame} {meth : Method} {c : Code} {Z : ZT} {ad : Nat → Nat} {u0 : MT} {post : Int64 → MT → Prop} (C : CX "CoderTablesModel" b_M_signs 11 (some .long) Z (va_A (cM Z ad u0) s.heap.size) p l s m args meth c) (htab : ∀ x ∈ c.exceptionTable.toList, False) : ∀ (n : Nat) (x3 : Int32) (x4 : Int32) (x5 : Int32) (x6 : Int64) (x8 : Int64) (x10 : Int32) (u : MT) (H : Heap) (locs : List Loc) (ls : Array Slot), WD Z (va_A (cM Z ad u0) s.heap.size) s (cM Z ad u) H locs → lv_has ls 11 [(0, .ref (ad 0)), (3, .int (x3)), (4, .int (x4)), (5, .int (x5)), (6, .long (x6)), (8, .long (x8)), (10, .int (x10))] → q_M_signs_182N n x3 x4 x5 x6 x8 x10 u post → W p l e rm_M_signs s m args below meth c H locs 0 0 (vx_MQ below (pQl Z (cM Z ad) (cM Z ad u0) s.heap.size post) (pX Z (cM Z ad) (cM Z ad u0) s.heap.size (fun _ _ => False)) args s 0 0 rm_M_signs.cells rm_M_signs.slots (va_A (cM Z ad u0) s.heap.size)) (F0 m 182 ls []) := by
  intro n
  induction n with
  | zero => intro x3 x4 x5 x6 x8 x10 u H locs ls hw hl h; exact h.elim
  | succ n ih => intro x3 x4 x5 x6 x8 x10 u H locs ls hw hl h; exact w_M_signs_182 C htab (fun x3 x4 x5 x6 x8 x10 u H locs ls h hw hl => ih x3 x4 x5 x6 x8 x10 u H locs ls hw hl h) x3 x4 x5 x6 x8 x10 u H locs ls hw hl h
def q_M_signs_117 (K117 : Int32 → Int32 → Int32 → Int32 → MT → Prop) (x3 : Int32) (x4 : Int32) (x5 : Int32) (x6 : Int32) (u : MT) (post : Int64 → MT → Prop) : Prop :=
  ((((x4) + (x5)) < (x6) → ∃ n, q_M_signs_182N n (x3) (x4) (x5) (((1 : Int64)) <<< (((x4) + (x5)).toInt64 &&& 63)) ((0 : Int64)) (((0) : Int32)) (u) post) ∧ (¬ ((x4) + (x5)) < (x6) → ∃ n, q_M_signs_131N K117 n (x3) (x4) (x5) (x6) (x6) (u) post))
set_option maxRecDepth 100000 in
theorem w_M_signs_117 {p : Program} {l : Launch} {e : Env} {s : State} {m : MethodId} {args : Array Value} {below : List Frame} {meth : Method} {c : Code} {Z : ZT} {ad : Nat → Nat} {u0 : MT} {post : Int64 → MT → Prop} {K117 : Int32 → Int32 → Int32 → Int32 → MT → Prop} (C : CX "CoderTablesModel" b_M_signs 11 (some .long) Z (va_A (cM Z ad u0) s.heap.size) p l s m args meth c) (htab : ∀ x ∈ c.exceptionTable.toList, False) (hK117 : ∀ (x3 : Int32) (x4 : Int32) (x5 : Int32) (x6 : Int32) (u : MT) (H : Heap) (locs : List Loc) (ls : Array Slot), K117 x3 x4 x5 x6 u → WD Z (va_A (cM Z ad u0) s.heap.size) s (cM Z ad u) H locs → lv_has ls 11 [(0, .ref (ad 0)), (3, .int (x3)), (4, .int (x4)), (5, .int (x5)), (6, .int (x6))] → W p l e rm_M_signs s m args below meth c H locs 0 0 (vx_MQ below (pQl Z (cM Z ad) (cM Z ad u0) s.heap.size post) (pX Z (cM Z ad) (cM Z ad u0) s.heap.size (fun _ _ => False)) args s 0 0 rm_M_signs.cells rm_M_signs.slots (va_A (cM Z ad u0) s.heap.size)) (F0 m 117 ls [])) (x3 : Int32) (x4 : Int32) (x5 : Int32) (x6 : Int32) (u : MT) (H : Heap) (locs : List Loc) (ls : Array Slot) (hw : WD Z (va_A (cM Z ad u0) s.heap.size) s (cM Z ad u) H locs) (hl : lv_has ls 11 [(0, .ref (ad 0)), (3, .int (x3)), (4, .int (x4)), (5, .int (x5)), (6, .int (x6))]) (h : q_M_signs_117 K117 x3 x4 x5 x6 u post) : W p l e rm_M_signs s m args below meth c H locs 0 0 (vx_MQ below (pQl Z (cM Z ad) (cM Z ad u0) s.heap.size post) (pX Z (cM Z ad) (cM Z ad u0) s.heap.size (fun _ _ => False)) args s 0 0 rm_M_signs.cells rm_M_signs.slots (va_A (cM Z ad u0) s.heap.size)) (F0 m 117 ls []) := by
  unfold q_M_signs_117 at h
  refine lv_iload C.2.1 C.2.2.1 d_M_signs_117 (lv_at hl 4 rfl) ?_
  refine lv_iload C.2.1 C.2.2.1 d_M_signs_119 (lv_at hl 2 rfl) ?_
  refine lv_iload C.2.1 C.2.2.1 d_M_signs_121 (lv_at hl 3 rfl) ?_
  refine lv_iadd C.2.1 C.2.2.1 d_M_signs_123 ?_
  refine lv_icmp_gt (tgt := 167) C.2.1 C.2.2.1 d_M_signs_124 (by decide) (fun c => ?_) (fun c => ?_)
  · have h := h.1 c
    refine lv_lconst (v := 1) C.2.1 C.2.2.1 d_M_signs_167 (by decide) ?_
    refine lv_iload C.2.1 C.2.2.1 d_M_signs_168 (lv_at hl 2 rfl) ?_
    refine lv_iload C.2.1 C.2.2.1 d_M_signs_170 (lv_at hl 3 rfl) ?_
    refine lv_iadd C.2.1 C.2.2.1 d_M_signs_172 ?_
    refine lv_lshl C.2.1 C.2.2.1 d_M_signs_173 rfl ?_
    refine lv_lstore (lv' := [(6, .long (((1 : Int64)) <<< (((x4) + (x5)).toInt64 &&& 63))), (0, .ref (ad 0)), (3, .int (x3)), (4, .int (x4)), (5, .int (x5))]) C.2.1 C.2.2.1 d_M_signs_174 hl (by decide) rfl (fun ls hl => ?_)
    refine lv_lconst (v := 0) C.2.1 C.2.2.1 d_M_signs_176 (by decide) ?_
    refine lv_lstore (lv' := [(8, .long ((0 : Int64))), (6, .long (((1 : Int64)) <<< (((x4) + (x5)).toInt64 &&& 63))), (0, .ref (ad 0)), (3, .int (x3)), (4, .int (x4)), (5, .int (x5))]) C.2.1 C.2.2.1 d_M_signs_177 hl (by decide) rfl (fun ls hl => ?_)
    refine lv_iconst (v := (0)) C.2.1 C.2.2.1 d_M_signs_179 (by decide) ?_
    refine lv_istore (lv' := [(10, .int (((0) : Int32))), (8, .long ((0 : Int64))), (6, .long (((1 : Int64)) <<< (((x4) + (x5)).toInt64 &&& 63))), (0, .ref (ad 0)), (3, .int (x3)), (4, .int (x4)), (5, .int (x5))]) C.2.1 C.2.2.1 d_M_signs_180 hl (by decide) rfl (fun ls hl => ?_)
    obtain ⟨n, h⟩ := h
    exact w_M_signs_182N C htab n (x3) (x4) (x5) (((1 : Int64)) <<< (((x4) + (x5)).toInt64 &&& 63)) ((0 : Int64)) (((0) : Int32)) _ _ _ _ hw (lv_sub hl [3, 4, 5, 6, 2, 1, 0] rfl) h
  · have h := h.2 c
    refine lv_iload C.2.1 C.2.2.1 d_M_signs_127 (lv_at hl 4 rfl) ?_
    refine lv_istore (lv' := [(7, .int (x6)), (0, .ref (ad 0)), (3, .int (x3)), (4, .int (x4)), (5, .int (x5)), (6, .int (x6))]) C.2.1 C.2.2.1 d_M_signs_129 hl (by decide) rfl (fun ls hl => ?_)
    obtain ⟨n, h⟩ := h
    exact w_M_signs_131N C htab hK117 n (x3) (x4) (x5) (x6) (x6) _ _ _ _ hw (lv_sub hl [1, 2, 3, 4, 5, 0] rfl) h
def q_M_signs_117N : Nat → Int32 → Int32 → Int32 → Int32 → MT → (Int64 → MT → Prop) → Prop
  | 0 => fun _ _ _ _ _ _ => False
  | n + 1 => fun x3 x4 x5 x6 u post => q_M_signs_117 (fun x3 x4 x5 x6 u => q_M_signs_117N n x3 x4 x5 x6 u post) x3 x4 x5 x6 u post
theorem w_M_signs_117N {p : Program} {l : Launch} {e : Env} {s : State} {m : MethodId} {args : Array Value} {below : List Frame} {meth : Method} {c : Code} {Z : ZT} {ad : Nat → Nat} {u0 : MT} {post : Int64 → MT → Prop} (C : CX "CoderTablesModel" b_M_signs 11 (some .long) Z (va_A (cM Z ad u0) s.heap.size) p l s m args meth c) (htab : ∀ x ∈ c.exceptionTable.toList, False) : ∀ (n : Nat) (x3 : Int32) (x4 : Int32) (x5 : Int32) (x6 : Int32) (u : MT) (H : Heap) (locs : List Loc) (ls : Array Slot), WD Z (va_A (cM Z ad u0) s.heap.size) s (cM Z ad u) H locs → lv_has ls 11 [(0, .ref (ad 0)), (3, .int (x3)), (4, .int (x4)), (5, .int (x5)), (6, .int (x6))] → q_M_signs_117N n x3 x4 x5 x6 u post → W p l e rm_M_signs s m args below meth c H locs 0 0 (vx_MQ below (pQl Z (cM Z ad) (cM Z ad u0) s.heap.size post) (pX Z (cM Z ad) (cM Z ad u0) s.heap.size (fun _ _ => False)) args s 0 0 rm_M_signs.cells rm_M_signs.slots (va_A (cM Z ad u0) s.heap.size)) (F0 m 117 ls []) := by
  intro n
  induction n with
  | zero => intro x3 x4 x5 x6 u H locs ls hw hl h; exact h.elim
  | succ n ih => intro x3 x4 x5 x6 u H locs ls hw hl h; exact w_M_signs_117 C htab (fun x3 x4 x5 x6 u H locs ls h hw hl => ih x3 x4 x5 x6 u H locs ls hw hl h) x3 x4 x5 x6 u H locs ls hw hl h
def q_M_signs_84 (K84 : Int32 → Int32 → Int32 → Int32 → MT → Prop) (x3 : Int32) (x4 : Int32) (x5 : Int32) (x6 : Int32) (u : MT) (post : Int64 → MT → Prop) : Prop :=
  (((((25) : Int32)) ≤ (x6) → ∃ n, q_M_signs_117N n (x3) (x4) (x5) (((1) : Int32)) (u) post) ∧ (¬ (((25) : Int32)) ≤ (x6) → ((¬ (x6) = 0 → q_M_signs_107 K84 (x3) (x4) (x5) (x6) ((0 : Int64)) (x6) (u) post) ∧ ((x6) = 0 → q_M_signs_107 K84 (x3) (x4) (x5) (x6) ((1 : Int64)) (x6) (u) post))))
set_option maxRecDepth 100000 in
theorem w_M_signs_84 {p : Program} {l : Launch} {e : Env} {s : State} {m : MethodId} {args : Array Value} {below : List Frame} {meth : Method} {c : Code} {Z : ZT} {ad : Nat → Nat} {u0 : MT} {post : Int64 → MT → Prop} {K84 : Int32 → Int32 → Int32 → Int32 → MT → Prop} (C : CX "CoderTablesModel" b_M_signs 11 (some .long) Z (va_A (cM Z ad u0) s.heap.size) p l s m args meth c) (htab : ∀ x ∈ c.exceptionTable.toList, False) (hK84 : ∀ (x3 : Int32) (x4 : Int32) (x5 : Int32) (x6 : Int32) (u : MT) (H : Heap) (locs : List Loc) (ls : Array Slot), K84 x3 x4 x5 x6 u → WD Z (va_A (cM Z ad u0) s.heap.size) s (cM Z ad u) H locs → lv_has ls 11 [(0, .ref (ad 0)), (3, .int (x3)), (4, .int (x4)), (5, .int (x5)), (6, .int (x6))] → W p l e rm_M_signs s m args below meth c H locs 0 0 (vx_MQ below (pQl Z (cM Z ad) (cM Z ad u0) s.heap.size post) (pX Z (cM Z ad) (cM Z ad u0) s.heap.size (fun _ _ => False)) args s 0 0 rm_M_signs.cells rm_M_signs.slots (va_A (cM Z ad u0) s.heap.size)) (F0 m 84 ls [])) (x3 : Int32) (x4 : Int32) (x5 : Int32) (x6 : Int32) (u : MT) (H : Heap) (locs : List Loc) (ls : Array Slot) (hw : WD Z (va_A (cM Z ad u0) s.heap.size) s (cM Z ad u) H locs) (hl : lv_has ls 11 [(0, .ref (ad 0)), (3, .int (x3)), (4, .int (x4)), (5, .int (x5)), (6, .int (x6))]) (h : q_M_signs_84 K84 x3 x4 x5 x6 u post) : W p l e rm_M_signs s m args below meth c H locs 0 0 (vx_MQ below (pQl Z (cM Z ad) (cM Z ad u0) s.heap.size post) (pX Z (cM Z ad) (cM Z ad u0) s.heap.size (fun _ _ => False)) args s 0 0 rm_M_signs.cells rm_M_signs.slots (va_A (cM Z ad u0) s.heap.size)) (F0 m 84 ls []) := by
  unfold q_M_signs_84 at h
  refine lv_iload C.2.1 C.2.2.1 d_M_signs_84 (lv_at hl 4 rfl) ?_
  refine lv_bipush (v := (25)) C.2.1 C.2.2.1 d_M_signs_86 (by decide) ?_
  refine lv_icmp_ge (tgt := 114) C.2.1 C.2.2.1 d_M_signs_88 (by decide) (fun c => ?_) (fun c => ?_)
  · have h := h.1 c
    refine lv_iconst (v := (1)) C.2.1 C.2.2.1 d_M_signs_114 (by decide) ?_
    refine lv_istore (lv' := [(6, .int (((1) : Int32))), (0, .ref (ad 0)), (3, .int (x3)), (4, .int (x4)), (5, .int (x5))]) C.2.1 C.2.2.1 d_M_signs_115 hl (by decide) rfl (fun ls hl => ?_)
    obtain ⟨n, h⟩ := h
    exact w_M_signs_117N C htab n (x3) (x4) (x5) (((1) : Int32)) _ _ _ _ hw (lv_sub hl [1, 2, 3, 4, 0] rfl) h
  · have h := h.2 c
    refine lv_aload_n C.2.1 C.2.2.1 d_M_signs_91 rfl (lv_at hl 0 rfl) ?_
    refine r_M_32 C hw d_M_signs_92 ?_
    refine lv_iload C.2.1 C.2.2.1 d_M_signs_95 (lv_at hl 4 rfl) ?_
    refine lv_iload C.2.1 C.2.2.1 d_M_signs_97 (lv_at hl 4 rfl) ?_
    refine lv_if_ne (tgt := 106) C.2.1 C.2.2.1 d_M_signs_99 (by decide) (fun c => ?_) (fun c => ?_)
    · have h := h.1 c
      refine lv_lconst (v := 0) C.2.1 C.2.2.1 d_M_signs_106 (by decide) ?_
      exact w_M_signs_107 C htab hK84 (x3) (x4) (x5) (x6) ((0 : Int64)) (x6) _ _ _ _ hw (lv_sub hl [0, 1, 2, 3, 4] rfl) h
    · have h := h.2 c
      refine lv_lconst (v := 1) C.2.1 C.2.2.1 d_M_signs_102 (by decide) ?_
      refine lv_goto (tgt := 107) C.2.1 C.2.2.1 d_M_signs_103 (by decide) ?_
      exact w_M_signs_107 C htab hK84 (x3) (x4) (x5) (x6) ((1 : Int64)) (x6) _ _ _ _ hw (lv_sub hl [0, 1, 2, 3, 4] rfl) h
def q_M_signs_84N : Nat → Int32 → Int32 → Int32 → Int32 → MT → (Int64 → MT → Prop) → Prop
  | 0 => fun _ _ _ _ _ _ => False
  | n + 1 => fun x3 x4 x5 x6 u post => q_M_signs_84 (fun x3 x4 x5 x6 u => q_M_signs_84N n x3 x4 x5 x6 u post) x3 x4 x5 x6 u post
theorem w_M_signs_84N {p : Program} {l : Launch} {e : Env} {s : State} {m : MethodId} {args : Array Value} {below : List Frame} {meth : Method} {c : Code} {Z : ZT} {ad : Nat → Nat} {u0 : MT} {post : Int64 → MT → Prop} (C : CX "CoderTablesModel" b_M_signs 11 (some .long) Z (va_A (cM Z ad u0) s.heap.size) p l s m args meth c) (htab : ∀ x ∈ c.exceptionTable.toList, False) : ∀ (n : Nat) (x3 : Int32) (x4 : Int32) (x5 : Int32) (x6 : Int32) (u : MT) (H : Heap) (locs : List Loc) (ls : Array Slot), WD Z (va_A (cM Z ad u0) s.heap.size) s (cM Z ad u) H locs → lv_has ls 11 [(0, .ref (ad 0)), (3, .int (x3)), (4, .int (x4)), (5, .int (x5)), (6, .int (x6))] → q_M_signs_84N n x3 x4 x5 x6 u post → W p l e rm_M_signs s m args below meth c H locs 0 0 (vx_MQ below (pQl Z (cM Z ad) (cM Z ad u0) s.heap.size post) (pX Z (cM Z ad) (cM Z ad u0) s.heap.size (fun _ _ => False)) args s 0 0 rm_M_signs.cells rm_M_signs.slots (va_A (cM Z ad u0) s.heap.size)) (F0 m 84 ls []) := by
  intro n
  induction n with
  | zero => intro x3 x4 x5 x6 u H locs ls hw hl h; exact h.elim
  | succ n ih => intro x3 x4 x5 x6 u H locs ls hw hl h; exact w_M_signs_84 C htab (fun x3 x4 x5 x6 u H locs ls h hw hl => ih x3 x4 x5 x6 u H locs ls hw hl h) x3 x4 x5 x6 u H locs ls hw hl h
def q_M_signs_38 (x1 : Int32) (x2 : Int32) (x3 : Int32) (z0 : Int32) (u : MT) (post : Int64 → MT → Prop) : Prop :=
  q_M_refuses (z0) (u) (fun r3 u4 => (((r3) = 0 → q_M_less (x1) (x2) (u4) (fun r5 u6 => q_M_less (x2) (x1) (u6) (fun r7 u8 => (((((2) : Int32)) ≤ (x3) → ∃ n, q_M_signs_84N n (x3) (r5) (r7) (((0) : Int32)) (u8) post) ∧ (¬ (((2) : Int32)) ≤ (x3) → ((¬ (x3) = 0 → post ((r7).toInt64) (u8)) ∧ ((x3) = 0 → post ((r5).toInt64) (u8)))))))) ∧ (¬ (r3) = 0 → post ((0 : Int64)) (u4))))
set_option maxRecDepth 100000 in
theorem w_M_signs_38 {p : Program} {l : Launch} {e : Env} {s : State} {m : MethodId} {args : Array Value} {below : List Frame} {meth : Method} {c : Code} {Z : ZT} {ad : Nat → Nat} {u0 : MT} {post : Int64 → MT → Prop} (C : CX "CoderTablesModel" b_M_signs 11 (some .long) Z (va_A (cM Z ad u0) s.heap.size) p l s m args meth c) (htab : ∀ x ∈ c.exceptionTable.toList, False) (x1 : Int32) (x2 : Int32) (x3 : Int32) (z0 : Int32) (u : MT) (H : Heap) (locs : List Loc) (ls : Array Slot) (hw : WD Z (va_A (cM Z ad u0) s.heap.size) s (cM Z ad u) H locs) (hl : lv_has ls 11 [(0, .ref (ad 0)), (1, .int (x1)), (2, .int (x2)), (3, .int (x3))]) (h : q_M_signs_38 x1 x2 x3 z0 u post) : W p l e rm_M_signs s m args below meth c H locs 0 0 (vx_MQ below (pQl Z (cM Z ad) (cM Z ad u0) s.heap.size post) (pX Z (cM Z ad) (cM Z ad u0) s.heap.size (fun _ _ => False)) args s 0 0 rm_M_signs.cells rm_M_signs.slots (va_A (cM Z ad u0) s.heap.size)) (F0 m 38 ls [.int (z0), .ref (ad 0)]) := by
  unfold q_M_signs_38 at h
  refine k_M_50 C hw h ⟨Nat.le_of_ble_eq_true rfl, Nat.le_of_ble_eq_true rfl, Nat.le_of_ble_eq_true rfl, Nat.le_of_ble_eq_true rfl⟩ hl.1 (Nat.le_of_ble_eq_true rfl) d_M_signs_38 (fun r3 u4 H locs h hw => ?_)
  refine lv_if_eq (tgt := 46) C.2.1 C.2.2.1 d_M_signs_41 (by decide) (fun c => ?_) (fun c => ?_)
  · have h := h.1 c
    refine lv_aload_n C.2.1 C.2.2.1 d_M_signs_46 rfl (lv_at hl 0 rfl) ?_
    refine lv_iload_n C.2.1 C.2.2.1 d_M_signs_47 rfl (lv_at hl 1 rfl) ?_
    refine lv_iload_n C.2.1 C.2.2.1 d_M_signs_48 rfl (lv_at hl 2 rfl) ?_
    refine k_M_120 C hw h ⟨Nat.le_of_ble_eq_true rfl, Nat.le_of_ble_eq_true rfl, Nat.le_of_ble_eq_true rfl, Nat.le_of_ble_eq_true rfl⟩ hl.1 (Nat.le_of_ble_eq_true rfl) d_M_signs_49 (fun r5 u6 H locs h hw => ?_)
    refine lv_istore (lv' := [(4, .int (r5)), (0, .ref (ad 0)), (1, .int (x1)), (2, .int (x2)), (3, .int (x3))]) C.2.1 C.2.2.1 d_M_signs_52 hl (by decide) rfl (fun ls hl => ?_)
    refine lv_aload_n C.2.1 C.2.2.1 d_M_signs_54 rfl (lv_at hl 1 rfl) ?_
    refine lv_iload_n C.2.1 C.2.2.1 d_M_signs_55 rfl (lv_at hl 3 rfl) ?_
    refine lv_iload_n C.2.1 C.2.2.1 d_M_signs_56 rfl (lv_at hl 2 rfl) ?_
    refine k_M_120 C hw h ⟨Nat.le_of_ble_eq_true rfl, Nat.le_of_ble_eq_true rfl, Nat.le_of_ble_eq_true rfl, Nat.le_of_ble_eq_true rfl⟩ hl.1 (Nat.le_of_ble_eq_true rfl) d_M_signs_57 (fun r7 u8 H locs h hw => ?_)
    refine lv_istore (lv' := [(5, .int (r7)), (4, .int (r5)), (0, .ref (ad 0)), (1, .int (x1)), (2, .int (x2)), (3, .int (x3))]) C.2.1 C.2.2.1 d_M_signs_60 hl (by decide) rfl (fun ls hl => ?_)
    refine lv_iload_n C.2.1 C.2.2.1 d_M_signs_62 rfl (lv_at hl 5 rfl) ?_
    refine lv_iconst (v := (2)) C.2.1 C.2.2.1 d_M_signs_63 (by decide) ?_
    refine lv_icmp_ge (tgt := 81) C.2.1 C.2.2.1 d_M_signs_64 (by decide) (fun c => ?_) (fun c => ?_)
    · have h := h.1 c
      refine lv_iconst (v := (0)) C.2.1 C.2.2.1 d_M_signs_81 (by decide) ?_
      refine lv_istore (lv' := [(6, .int (((0) : Int32))), (5, .int (r7)), (4, .int (r5)), (0, .ref (ad 0)), (1, .int (x1)), (2, .int (x2)), (3, .int (x3))]) C.2.1 C.2.2.1 d_M_signs_82 hl (by decide) rfl (fun ls hl => ?_)
      obtain ⟨n, h⟩ := h
      exact w_M_signs_84N C htab n (x3) (r5) (r7) (((0) : Int32)) _ _ _ _ hw (lv_sub hl [3, 6, 2, 1, 0] rfl) h
    · have h := h.2 c
      refine lv_iload_n C.2.1 C.2.2.1 d_M_signs_67 rfl (lv_at hl 5 rfl) ?_
      refine lv_if_ne (tgt := 77) C.2.1 C.2.2.1 d_M_signs_68 (by decide) (fun c => ?_) (fun c => ?_)
      · have h := h.1 c
        refine lv_iload C.2.1 C.2.2.1 d_M_signs_77 (lv_at hl 0 rfl) ?_
        refine lv_i2l C.2.1 C.2.2.1 d_M_signs_79 rfl ?_
        exact g_lret C hw h d_M_signs_80
      · have h := h.2 c
        refine lv_iload C.2.1 C.2.2.1 d_M_signs_71 (lv_at hl 1 rfl) ?_
        refine lv_i2l C.2.1 C.2.2.1 d_M_signs_73 rfl ?_
        refine lv_goto (tgt := 80) C.2.1 C.2.2.1 d_M_signs_74 (by decide) ?_
        exact g_lret C hw h d_M_signs_80
  · have h := h.2 c
    refine lv_lconst (v := 0) C.2.1 C.2.2.1 d_M_signs_44 (by decide) ?_
    exact g_lret C hw h d_M_signs_45
def q_M_signs_17 (x1 : Int32) (x2 : Int32) (x3 : Int32) (u : MT) (post : Int64 → MT → Prop) : Prop :=
  q_M_signs_38 (x1) (x2) (x3) (((1) : Int32)) (u) post
set_option maxRecDepth 100000 in
theorem w_M_signs_17 {p : Program} {l : Launch} {e : Env} {s : State} {m : MethodId} {args : Array Value} {below : List Frame} {meth : Method} {c : Code} {Z : ZT} {ad : Nat → Nat} {u0 : MT} {post : Int64 → MT → Prop} (C : CX "CoderTablesModel" b_M_signs 11 (some .long) Z (va_A (cM Z ad u0) s.heap.size) p l s m args meth c) (htab : ∀ x ∈ c.exceptionTable.toList, False) (x1 : Int32) (x2 : Int32) (x3 : Int32) (u : MT) (H : Heap) (locs : List Loc) (ls : Array Slot) (hw : WD Z (va_A (cM Z ad u0) s.heap.size) s (cM Z ad u) H locs) (hl : lv_has ls 11 [(0, .ref (ad 0)), (1, .int (x1)), (2, .int (x2)), (3, .int (x3))]) (h : q_M_signs_17 x1 x2 x3 u post) : W p l e rm_M_signs s m args below meth c H locs 0 0 (vx_MQ below (pQl Z (cM Z ad) (cM Z ad u0) s.heap.size post) (pX Z (cM Z ad) (cM Z ad u0) s.heap.size (fun _ _ => False)) args s 0 0 rm_M_signs.cells rm_M_signs.slots (va_A (cM Z ad u0) s.heap.size)) (F0 m 17 ls [.ref (ad 0)]) := by
  unfold q_M_signs_17 at h
  refine lv_iconst (v := (1)) C.2.1 C.2.2.1 d_M_signs_17 (by decide) ?_
  refine lv_goto (tgt := 38) C.2.1 C.2.2.1 d_M_signs_18 (by decide) ?_
  exact w_M_signs_38 C htab (x1) (x2) (x3) (((1) : Int32)) _ _ _ _ hw (lv_sub hl [0, 1, 2, 3] rfl) h
def q_M_signs (p1 : Int32) (p2 : Int32) (p3 : Int32) (u : MT) (post : Int64 → MT → Prop) : Prop :=
  q_M_noCoder (p1) (u) (fun r9 u10 => ((¬ (r9) = 0 → q_M_signs_17 (p1) (p2) (p3) (u10) post) ∧ ((r9) = 0 → q_M_noCoder (p2) (u10) (fun r11 u12 => (((r11) = 0 → q_M_isIn ((p3).toInt64) ((0 : Int64)) ((3 : Int64)) (u12) (fun r13 u14 => ((¬ (r13) = 0 → q_M_signs_38 (p1) (p2) (p3) (((0) : Int32)) (u14) post) ∧ ((r13) = 0 → q_M_signs_38 (p1) (p2) (p3) (((2) : Int32)) (u14) post)))) ∧ (¬ (r11) = 0 → q_M_signs_17 (p1) (p2) (p3) (u12) post))))))
set_option maxRecDepth 100000 in
theorem c_M_signs {l : Launch} {Z : ZT} {ad : Nat → Nat} {u : MT} {post : Int64 → MT → Prop} {p1 : Int32} {p2 : Int32} {p3 : Int32} (hl0 : l.stackTraces = false) (h : q_M_signs p1 p2 p3 u post) : ∀ sz, vx_Met l y_M_signs (Cond.code y_M_signs b_M_signs 11 (some .long) :: GW) rm_M_signs (pP Z [.ref (ad 0), .int (p1), .int (p2), .int (p3)] (cM Z ad u) sz) (pQl Z (cM Z ad) (cM Z ad u) sz post) (pX Z (cM Z ad) (cM Z ad u) sz (fun _ _ => False)) 0 0 rm_M_signs.cells rm_M_signs.slots (va_A (cM Z ad u) sz) := by
  refine g_ent (f := cM Z ad) (Qc := fun sz => pQl Z (cM Z ad) (cM Z ad u) sz post) (XC := fun sz => pX Z (cM Z ad) (cM Z ad u) sz (fun _ _ => False)) hl0 (by decide +kernel) (Nat.le_of_ble_eq_true rfl) ?_
  intro p e s m args below meth c ls C htab hw hl
  have hl : lv_has ls 11 [(0, .ref (ad 0)), (1, .int (p1)), (2, .int (p2)), (3, .int (p3))] := hl
  unfold q_M_signs at h
  refine lv_aload_n C.2.1 C.2.2.1 d_M_signs_0 rfl (lv_at hl 0 rfl) ?_
  refine lv_aload_n C.2.1 C.2.2.1 d_M_signs_1 rfl (lv_at hl 0 rfl) ?_
  refine lv_iload_n C.2.1 C.2.2.1 d_M_signs_2 rfl (lv_at hl 1 rfl) ?_
  refine k_M_43 C hw h ⟨Nat.le_of_ble_eq_true rfl, Nat.le_of_ble_eq_true rfl, Nat.le_of_ble_eq_true rfl, Nat.le_of_ble_eq_true rfl⟩ hl.1 (Nat.le_of_ble_eq_true rfl) d_M_signs_3 (fun r9 u10 H locs h hw => ?_)
  refine lv_if_ne (tgt := 17) C.2.1 C.2.2.1 d_M_signs_6 (by decide) (fun c => ?_) (fun c => ?_)
  · have h := h.1 c
    exact w_M_signs_17 C htab (p1) (p2) (p3) _ _ _ _ hw (lv_sub hl [0, 1, 2, 3] rfl) h
  · have h := h.2 c
    refine lv_aload_n C.2.1 C.2.2.1 d_M_signs_9 rfl (lv_at hl 0 rfl) ?_
    refine lv_iload_n C.2.1 C.2.2.1 d_M_signs_10 rfl (lv_at hl 2 rfl) ?_
    refine k_M_43 C hw h ⟨Nat.le_of_ble_eq_true rfl, Nat.le_of_ble_eq_true rfl, Nat.le_of_ble_eq_true rfl, Nat.le_of_ble_eq_true rfl⟩ hl.1 (Nat.le_of_ble_eq_true rfl) d_M_signs_11 (fun r11 u12 H locs h hw => ?_)
    refine lv_if_eq (tgt := 21) C.2.1 C.2.2.1 d_M_signs_14 (by decide) (fun c => ?_) (fun c => ?_)
    · have h := h.1 c
      refine lv_iload_n C.2.1 C.2.2.1 d_M_signs_21 rfl (lv_at hl 3 rfl) ?_
      refine lv_i2l C.2.1 C.2.2.1 d_M_signs_22 rfl ?_
      refine lv_lconst (v := 0) C.2.1 C.2.2.1 d_M_signs_23 (by decide) ?_
      refine lv_ldc2 (v := 3) C.2.1 C.2.2.1 C.2.2.2.2.1 (C.2.2.2.2.2.1 _ w726) d_M_signs_24 ?_
      refine k_M_59 C hw h ⟨Nat.le_of_ble_eq_true rfl, Nat.le_of_ble_eq_true rfl, Nat.le_of_ble_eq_true rfl, Nat.le_of_ble_eq_true rfl⟩ hl.1 (Nat.le_of_ble_eq_true rfl) d_M_signs_27 (fun r13 u14 H locs h hw => ?_)
      refine lv_if_ne (tgt := 37) C.2.1 C.2.2.1 d_M_signs_30 (by decide) (fun c => ?_) (fun c => ?_)
      · have h := h.1 c
        refine lv_iconst (v := (0)) C.2.1 C.2.2.1 d_M_signs_37 (by decide) ?_
        exact w_M_signs_38 C htab (p1) (p2) (p3) (((0) : Int32)) _ _ _ _ hw (lv_sub hl [0, 1, 2, 3] rfl) h
      · have h := h.2 c
        refine lv_iconst (v := (2)) C.2.1 C.2.2.1 d_M_signs_33 (by decide) ?_
        refine lv_goto (tgt := 38) C.2.1 C.2.2.1 d_M_signs_34 (by decide) ?_
        exact w_M_signs_38 C htab (p1) (p2) (p3) (((2) : Int32)) _ _ _ _ hw (lv_sub hl [0, 1, 2, 3] rfl) h
    · have h := h.2 c
      exact w_M_signs_17 C htab (p1) (p2) (p3) _ _ _ _ hw (lv_sub hl [0, 1, 2, 3] rfl) h
/-! CoderTablesModel.draw(I)I -/
abbrev rm_M_draw : Room := { frames := 0, cells := 0, slots := 0, locals := 0 }
def q_M_draw (p1 : Int32) (u : MT) (post : Int32 → MT → Prop) : Prop :=
  (¬ ((p1).toInt64) = 0 ∧ post (((((m_state (m_state_s (u) (((m_state (u)) * ((6364136223846793005 : Int64))) + ((1442695040888963407 : Int64))))).toUInt64 >>> ((((33) : Int32)).toInt64.toUInt64 &&& Int64.toUInt64 63)).toInt64) - (((m_state (m_state_s (u) (((m_state (u)) * ((6364136223846793005 : Int64))) + ((1442695040888963407 : Int64))))).toUInt64 >>> ((((33) : Int32)).toInt64.toUInt64 &&& Int64.toUInt64 63)).toInt64) / ((p1).toInt64) * ((p1).toInt64)).toInt32) (m_state_s (u) (((m_state (u)) * ((6364136223846793005 : Int64))) + ((1442695040888963407 : Int64)))))
set_option maxRecDepth 100000 in
theorem c_M_draw {l : Launch} {Z : ZT} {ad : Nat → Nat} {u : MT} {post : Int32 → MT → Prop} {p1 : Int32} (hl0 : l.stackTraces = false) (h : q_M_draw p1 u post) : ∀ sz, vx_Met l y_M_draw (Cond.code y_M_draw b_M_draw 2 (some .int) :: GW) rm_M_draw (pP Z [.ref (ad 0), .int (p1)] (cM Z ad u) sz) (pQi Z (cM Z ad) (cM Z ad u) sz post) (pX Z (cM Z ad) (cM Z ad u) sz (fun _ _ => False)) 0 0 rm_M_draw.cells rm_M_draw.slots (va_A (cM Z ad u) sz) := by
  refine g_ent (f := cM Z ad) (Qc := fun sz => pQi Z (cM Z ad) (cM Z ad u) sz post) (XC := fun sz => pX Z (cM Z ad) (cM Z ad u) sz (fun _ _ => False)) hl0 (by decide +kernel) (Nat.le_of_ble_eq_true rfl) ?_
  intro p e s m args below meth c ls C htab hw hl
  have hl : lv_has ls 2 [(0, .ref (ad 0)), (1, .int (p1))] := hl
  unfold q_M_draw at h
  refine lv_aload_n C.2.1 C.2.2.1 d_M_draw_0 rfl (lv_at hl 0 rfl) ?_
  refine lv_aload_n C.2.1 C.2.2.1 d_M_draw_1 rfl (lv_at hl 0 rfl) ?_
  refine r_M_126 C hw d_M_draw_2 ?_
  refine lv_ldc2 (v := 6364136223846793005) C.2.1 C.2.2.1 C.2.2.2.2.1 (C.2.2.2.2.2.1 _ w745) d_M_draw_5 ?_
  refine lv_lmul C.2.1 C.2.2.1 d_M_draw_8 ?_
  refine lv_ldc2 (v := 1442695040888963407) C.2.1 C.2.2.1 C.2.2.2.2.1 (C.2.2.2.2.2.1 _ w746) d_M_draw_9 ?_
  refine lv_ladd C.2.1 C.2.2.1 d_M_draw_12 ?_
  refine s_M_126 C hw d_M_draw_13 (fun H locs hw => ?_)
  refine lv_aload_n C.2.1 C.2.2.1 d_M_draw_16 rfl (lv_at hl 0 rfl) ?_
  refine r_M_126 C hw d_M_draw_17 ?_
  refine lv_bipush (v := (33)) C.2.1 C.2.2.1 d_M_draw_20 (by decide) ?_
  refine lv_lushr C.2.1 C.2.2.1 d_M_draw_22 rfl ?_
  refine lv_iload_n C.2.1 C.2.2.1 d_M_draw_23 rfl (lv_at hl 1 rfl) ?_
  refine lv_i2l C.2.1 C.2.2.1 d_M_draw_24 rfl ?_
  obtain ⟨h0, h⟩ := h
  refine lv_lrem C.2.1 C.2.2.1 d_M_draw_25 h0 ?_
  refine lv_l2i C.2.1 C.2.2.1 d_M_draw_26 rfl ?_
  exact g_iret C hw rfl h d_M_draw_27
section KR
variable {own host : String} {cc bytes : ByteArray} {nL maxL index n : Nat} {rt0 rt : Option FieldType} {Z : ZT} {ad : Nat → Nat} {A : Nat → Prop}
variable {p : Program} {l : Launch} {e : Env} {R : Room} {s : State} {m : MethodId} {args : Array Value} {below : List Frame} {meth : Method} {c : Code} {H : Heap} {locs : List Loc} {cells slots : Nat} {Q : State → Prop} {rest : List Value} {pc : Nat} {ls : Array Slot}
theorem k_M_136 {u : MT} {p1 : Int32} {post : Int32 → MT → Prop} (C : CX "CoderTablesModel" cc nL rt0 Z A p l s m args meth c) (hw : WD Z A s (cM Z ad u) H locs) (h : q_M_draw p1 u post) (hR : rmOk rm_M_draw 2 R cells slots) (hl : ls.size = nL) (hW : (rest.map fun v => v.category).sum ≤ 8) (hdg : decode cc pc = .ok (.invokevirtual 136, 3)) (kk : ∀ (r : Int32) (u' : MT) (H1 : Heap) (locs1 : List Loc), post r u' → WD Z A s (cM Z ad u') H1 locs1 → W p l e R s m args below meth c H1 locs1 cells slots Q (F0 m (pc + 3) ls (.int r :: rest))) : W p l e R s m args below meth c H locs cells slots Q (F0 m pc ls (.int (p1) :: .ref (ad 0) :: rest)) :=
  g_V0_i (n := 1) (f := cM Z ad) (As := [.int (p1)]) C hw (c_M_draw C.1 h) ⟨w741, w743, w46, w56, w744, (by decide +kernel), (by decide +kernel), (by decide +kernel)⟩ hR 0 rfl rfl rfl hl rfl hW hdg (fun _ _ _ _ _ _ h => h.elim) kk
end KR
/-! CoderTablesModel.both(III)I -/
abbrev rm_M_both : Room := { frames := 1, cells := 0, slots := 0, locals := 23 }
def q_M_both_40 (K6 : Int32 → Int32 → Int32 → Int32 → MT → Prop) (x1 : Int32) (x2 : Int32) (x5 : Int32) (z0 : Int32) (z1 : Int32) (u : MT) (post : Int32 → MT → Prop) : Prop :=
  K6 (x1) (x2) ((z1) - (z0)) ((x5) + 1) (u)
set_option maxRecDepth 100000 in
theorem w_M_both_40 {p : Program} {l : Launch} {e : Env} {s : State} {m : MethodId} {args : Array Value} {below : List Frame} {meth : Method} {c : Code} {Z : ZT} {ad : Nat → Nat} {u0 : MT} {post : Int32 → MT → Prop} {K6 : Int32 → Int32 → Int32 → Int32 → MT → Prop} (C : CX "CoderTablesModel" b_M_both 6 (some .int) Z (va_A (cM Z ad u0) s.heap.size) p l s m args meth c) (htab : ∀ x ∈ c.exceptionTable.toList, False) (hK6 : ∀ (x1 : Int32) (x2 : Int32) (x4 : Int32) (x5 : Int32) (u : MT) (H : Heap) (locs : List Loc) (ls : Array Slot), K6 x1 x2 x4 x5 u → WD Z (va_A (cM Z ad u0) s.heap.size) s (cM Z ad u) H locs → lv_has ls 6 [(0, .ref (ad 0)), (1, .int (x1)), (2, .int (x2)), (4, .int (x4)), (5, .int (x5))] → W p l e rm_M_both s m args below meth c H locs 0 0 (vx_MQ below (pQi Z (cM Z ad) (cM Z ad u0) s.heap.size post) (pX Z (cM Z ad) (cM Z ad u0) s.heap.size (fun _ _ => False)) args s 0 0 rm_M_both.cells rm_M_both.slots (va_A (cM Z ad u0) s.heap.size)) (F0 m 6 ls [])) (x1 : Int32) (x2 : Int32) (x5 : Int32) (z0 : Int32) (z1 : Int32) (u : MT) (H : Heap) (locs : List Loc) (ls : Array Slot) (hw : WD Z (va_A (cM Z ad u0) s.heap.size) s (cM Z ad u) H locs) (hl : lv_has ls 6 [(0, .ref (ad 0)), (1, .int (x1)), (2, .int (x2)), (5, .int (x5))]) (h : q_M_both_40 K6 x1 x2 x5 z0 z1 u post) : W p l e rm_M_both s m args below meth c H locs 0 0 (vx_MQ below (pQi Z (cM Z ad) (cM Z ad u0) s.heap.size post) (pX Z (cM Z ad) (cM Z ad u0) s.heap.size (fun _ _ => False)) args s 0 0 rm_M_both.cells rm_M_both.slots (va_A (cM Z ad u0) s.heap.size)) (F0 m 40 ls [.int (z0), .int (z1)]) := by
  unfold q_M_both_40 at h
  refine lv_isub C.2.1 C.2.2.1 d_M_both_40 ?_
  refine lv_istore (lv' := [(4, .int ((z1) - (z0))), (0, .ref (ad 0)), (1, .int (x1)), (2, .int (x2)), (5, .int (x5))]) C.2.1 C.2.2.1 d_M_both_41 hl (by decide) rfl (fun ls hl => ?_)
  refine lv_iinc (v := (x5) + 1) (lv' := [(5, .int ((x5) + 1)), (4, .int ((z1) - (z0))), (0, .ref (ad 0)), (1, .int (x1)), (2, .int (x2))]) C.2.1 C.2.2.1 d_M_both_43 hl (k := 4) rfl rfl (by decide) rfl (fun ls hl => ?_)
  refine lv_goto (tgt := 6) C.2.1 C.2.2.1 d_M_both_46 (by decide) ?_
  exact hK6 (x1) (x2) ((z1) - (z0)) ((x5) + 1) _ _ _ _ h hw (lv_sub hl [2, 3, 4, 1, 0] rfl)
def q_M_both_22 (K6 : Int32 → Int32 → Int32 → Int32 → MT → Prop) (x1 : Int32) (x2 : Int32) (x4 : Int32) (x5 : Int32) (u : MT) (post : Int32 → MT → Prop) : Prop :=
  q_M_areBoth (x1) (x2) (x5) (u) (fun r1 u2 => (((r1) = 0 → q_M_both_40 K6 (x1) (x2) (x5) (((0) : Int32)) (x4) (u2) post) ∧ (¬ (r1) = 0 → q_M_both_40 K6 (x1) (x2) (x5) (((1) : Int32)) (x4) (u2) post)))
set_option maxRecDepth 100000 in
theorem w_M_both_22 {p : Program} {l : Launch} {e : Env} {s : State} {m : MethodId} {args : Array Value} {below : List Frame} {meth : Method} {c : Code} {Z : ZT} {ad : Nat → Nat} {u0 : MT} {post : Int32 → MT → Prop} {K6 : Int32 → Int32 → Int32 → Int32 → MT → Prop} (C : CX "CoderTablesModel" b_M_both 6 (some .int) Z (va_A (cM Z ad u0) s.heap.size) p l s m args meth c) (htab : ∀ x ∈ c.exceptionTable.toList, False) (hK6 : ∀ (x1 : Int32) (x2 : Int32) (x4 : Int32) (x5 : Int32) (u : MT) (H : Heap) (locs : List Loc) (ls : Array Slot), K6 x1 x2 x4 x5 u → WD Z (va_A (cM Z ad u0) s.heap.size) s (cM Z ad u) H locs → lv_has ls 6 [(0, .ref (ad 0)), (1, .int (x1)), (2, .int (x2)), (4, .int (x4)), (5, .int (x5))] → W p l e rm_M_both s m args below meth c H locs 0 0 (vx_MQ below (pQi Z (cM Z ad) (cM Z ad u0) s.heap.size post) (pX Z (cM Z ad) (cM Z ad u0) s.heap.size (fun _ _ => False)) args s 0 0 rm_M_both.cells rm_M_both.slots (va_A (cM Z ad u0) s.heap.size)) (F0 m 6 ls [])) (x1 : Int32) (x2 : Int32) (x4 : Int32) (x5 : Int32) (u : MT) (H : Heap) (locs : List Loc) (ls : Array Slot) (hw : WD Z (va_A (cM Z ad u0) s.heap.size) s (cM Z ad u) H locs) (hl : lv_has ls 6 [(0, .ref (ad 0)), (1, .int (x1)), (2, .int (x2)), (4, .int (x4)), (5, .int (x5))]) (h : q_M_both_22 K6 x1 x2 x4 x5 u post) : W p l e rm_M_both s m args below meth c H locs 0 0 (vx_MQ below (pQi Z (cM Z ad) (cM Z ad u0) s.heap.size post) (pX Z (cM Z ad) (cM Z ad u0) s.heap.size (fun _ _ => False)) args s 0 0 rm_M_both.cells rm_M_both.slots (va_A (cM Z ad u0) s.heap.size)) (F0 m 22 ls []) := by
  unfold q_M_both_22 at h
  refine lv_iload C.2.1 C.2.2.1 d_M_both_22 (lv_at hl 3 rfl) ?_
  refine lv_aload_n C.2.1 C.2.2.1 d_M_both_24 rfl (lv_at hl 0 rfl) ?_
  refine lv_iload_n C.2.1 C.2.2.1 d_M_both_25 rfl (lv_at hl 1 rfl) ?_
  refine lv_iload_n C.2.1 C.2.2.1 d_M_both_26 rfl (lv_at hl 2 rfl) ?_
  refine lv_iload C.2.1 C.2.2.1 d_M_both_27 (lv_at hl 4 rfl) ?_
  refine k_M_115 C hw h ⟨Nat.le_of_ble_eq_true rfl, Nat.le_of_ble_eq_true rfl, Nat.le_of_ble_eq_true rfl, Nat.le_of_ble_eq_true rfl⟩ hl.1 (Nat.le_of_ble_eq_true rfl) d_M_both_29 (fun r1 u2 H locs h hw => ?_)
  refine lv_if_eq (tgt := 39) C.2.1 C.2.2.1 d_M_both_32 (by decide) (fun c => ?_) (fun c => ?_)
  · have h := h.1 c
    refine lv_iconst (v := (0)) C.2.1 C.2.2.1 d_M_both_39 (by decide) ?_
    exact w_M_both_40 C htab hK6 (x1) (x2) (x5) (((0) : Int32)) (x4) _ _ _ _ hw (lv_sub hl [0, 1, 2, 4] rfl) h
  · have h := h.2 c
    refine lv_iconst (v := (1)) C.2.1 C.2.2.1 d_M_both_35 (by decide) ?_
    refine lv_goto (tgt := 40) C.2.1 C.2.2.1 d_M_both_36 (by decide) ?_
    exact w_M_both_40 C htab hK6 (x1) (x2) (x5) (((1) : Int32)) (x4) _ _ _ _ hw (lv_sub hl [0, 1, 2, 4] rfl) h
def q_M_both_6 (K6 : Int32 → Int32 → Int32 → Int32 → MT → Prop) (x1 : Int32) (x2 : Int32) (x4 : Int32) (x5 : Int32) (u : MT) (post : Int32 → MT → Prop) : Prop :=
  ((0 < (x4) → q_M_both_22 K6 (x1) (x2) (x4) (x5) (u) post) ∧ (¬ 0 < (x4) → q_M_areBoth (x1) (x2) (x5) (u) (fun r3 u4 => ((¬ (r3) = 0 → post (x5) (u4)) ∧ ((r3) = 0 → q_M_both_22 K6 (x1) (x2) (x4) (x5) (u4) post)))))
set_option maxRecDepth 100000 in
theorem w_M_both_6 {p : Program} {l : Launch} {e : Env} {s : State} {m : MethodId} {args : Array Value} {below : List Frame} {meth : Method} {c : Code} {Z : ZT} {ad : Nat → Nat} {u0 : MT} {post : Int32 → MT → Prop} {K6 : Int32 → Int32 → Int32 → Int32 → MT → Prop} (C : CX "CoderTablesModel" b_M_both 6 (some .int) Z (va_A (cM Z ad u0) s.heap.size) p l s m args meth c) (htab : ∀ x ∈ c.exceptionTable.toList, False) (hK6 : ∀ (x1 : Int32) (x2 : Int32) (x4 : Int32) (x5 : Int32) (u : MT) (H : Heap) (locs : List Loc) (ls : Array Slot), K6 x1 x2 x4 x5 u → WD Z (va_A (cM Z ad u0) s.heap.size) s (cM Z ad u) H locs → lv_has ls 6 [(0, .ref (ad 0)), (1, .int (x1)), (2, .int (x2)), (4, .int (x4)), (5, .int (x5))] → W p l e rm_M_both s m args below meth c H locs 0 0 (vx_MQ below (pQi Z (cM Z ad) (cM Z ad u0) s.heap.size post) (pX Z (cM Z ad) (cM Z ad u0) s.heap.size (fun _ _ => False)) args s 0 0 rm_M_both.cells rm_M_both.slots (va_A (cM Z ad u0) s.heap.size)) (F0 m 6 ls [])) (x1 : Int32) (x2 : Int32) (x4 : Int32) (x5 : Int32) (u : MT) (H : Heap) (locs : List Loc) (ls : Array Slot) (hw : WD Z (va_A (cM Z ad u0) s.heap.size) s (cM Z ad u) H locs) (hl : lv_has ls 6 [(0, .ref (ad 0)), (1, .int (x1)), (2, .int (x2)), (4, .int (x4)), (5, .int (x5))]) (h : q_M_both_6 K6 x1 x2 x4 x5 u post) : W p l e rm_M_both s m args below meth c H locs 0 0 (vx_MQ below (pQi Z (cM Z ad) (cM Z ad u0) s.heap.size post) (pX Z (cM Z ad) (cM Z ad u0) s.heap.size (fun _ _ => False)) args s 0 0 rm_M_both.cells rm_M_both.slots (va_A (cM Z ad u0) s.heap.size)) (F0 m 6 ls []) := by
  unfold q_M_both_6 at h
  refine lv_iload C.2.1 C.2.2.1 d_M_both_6 (lv_at hl 3 rfl) ?_
  refine lv_if_gt (tgt := 22) C.2.1 C.2.2.1 d_M_both_8 (by decide) (fun c => ?_) (fun c => ?_)
  · have h := h.1 c
    exact w_M_both_22 C htab hK6 (x1) (x2) (x4) (x5) _ _ _ _ hw (lv_sub hl [0, 1, 2, 3, 4] rfl) h
  · have h := h.2 c
    refine lv_aload_n C.2.1 C.2.2.1 d_M_both_11 rfl (lv_at hl 0 rfl) ?_
    refine lv_iload_n C.2.1 C.2.2.1 d_M_both_12 rfl (lv_at hl 1 rfl) ?_
    refine lv_iload_n C.2.1 C.2.2.1 d_M_both_13 rfl (lv_at hl 2 rfl) ?_
    refine lv_iload C.2.1 C.2.2.1 d_M_both_14 (lv_at hl 4 rfl) ?_
    refine k_M_115 C hw h ⟨Nat.le_of_ble_eq_true rfl, Nat.le_of_ble_eq_true rfl, Nat.le_of_ble_eq_true rfl, Nat.le_of_ble_eq_true rfl⟩ hl.1 (Nat.le_of_ble_eq_true rfl) d_M_both_16 (fun r3 u4 H locs h hw => ?_)
    refine lv_if_ne (tgt := 49) C.2.1 C.2.2.1 d_M_both_19 (by decide) (fun c => ?_) (fun c => ?_)
    · have h := h.1 c
      refine lv_iload C.2.1 C.2.2.1 d_M_both_49 (lv_at hl 4 rfl) ?_
      exact g_iret C hw rfl h d_M_both_51
    · have h := h.2 c
      exact w_M_both_22 C htab hK6 (x1) (x2) (x4) (x5) _ _ _ _ hw (lv_sub hl [0, 1, 2, 3, 4] rfl) h
def q_M_both_6N : Nat → Int32 → Int32 → Int32 → Int32 → MT → (Int32 → MT → Prop) → Prop
  | 0 => fun _ _ _ _ _ _ => False
  | n + 1 => fun x1 x2 x4 x5 u post => q_M_both_6 (fun x1 x2 x4 x5 u => q_M_both_6N n x1 x2 x4 x5 u post) x1 x2 x4 x5 u post
theorem w_M_both_6N {p : Program} {l : Launch} {e : Env} {s : State} {m : MethodId} {args : Array Value} {below : List Frame} {meth : Method} {c : Code} {Z : ZT} {ad : Nat → Nat} {u0 : MT} {post : Int32 → MT → Prop} (C : CX "CoderTablesModel" b_M_both 6 (some .int) Z (va_A (cM Z ad u0) s.heap.size) p l s m args meth c) (htab : ∀ x ∈ c.exceptionTable.toList, False) : ∀ (n : Nat) (x1 : Int32) (x2 : Int32) (x4 : Int32) (x5 : Int32) (u : MT) (H : Heap) (locs : List Loc) (ls : Array Slot), WD Z (va_A (cM Z ad u0) s.heap.size) s (cM Z ad u) H locs → lv_has ls 6 [(0, .ref (ad 0)), (1, .int (x1)), (2, .int (x2)), (4, .int (x4)), (5, .int (x5))] → q_M_both_6N n x1 x2 x4 x5 u post → W p l e rm_M_both s m args below meth c H locs 0 0 (vx_MQ below (pQi Z (cM Z ad) (cM Z ad u0) s.heap.size post) (pX Z (cM Z ad) (cM Z ad u0) s.heap.size (fun _ _ => False)) args s 0 0 rm_M_both.cells rm_M_both.slots (va_A (cM Z ad u0) s.heap.size)) (F0 m 6 ls []) := by
  intro n
  induction n with
  | zero => intro x1 x2 x4 x5 u H locs ls hw hl h; exact h.elim
  | succ n ih => intro x1 x2 x4 x5 u H locs ls hw hl h; exact w_M_both_6 C htab (fun x1 x2 x4 x5 u H locs ls h hw hl => ih x1 x2 x4 x5 u H locs ls hw hl h) x1 x2 x4 x5 u H locs ls hw hl h
def q_M_both (p1 : Int32) (p2 : Int32) (p3 : Int32) (u : MT) (post : Int32 → MT → Prop) : Prop :=
  ∃ n, q_M_both_6N n (p1) (p2) (p3) (((0) : Int32)) (u) post
set_option maxRecDepth 100000 in
theorem c_M_both {l : Launch} {Z : ZT} {ad : Nat → Nat} {u : MT} {post : Int32 → MT → Prop} {p1 : Int32} {p2 : Int32} {p3 : Int32} (hl0 : l.stackTraces = false) (h : q_M_both p1 p2 p3 u post) : ∀ sz, vx_Met l y_M_both (Cond.code y_M_both b_M_both 6 (some .int) :: GW) rm_M_both (pP Z [.ref (ad 0), .int (p1), .int (p2), .int (p3)] (cM Z ad u) sz) (pQi Z (cM Z ad) (cM Z ad u) sz post) (pX Z (cM Z ad) (cM Z ad u) sz (fun _ _ => False)) 0 0 rm_M_both.cells rm_M_both.slots (va_A (cM Z ad u) sz) := by
  refine g_ent (f := cM Z ad) (Qc := fun sz => pQi Z (cM Z ad) (cM Z ad u) sz post) (XC := fun sz => pX Z (cM Z ad) (cM Z ad u) sz (fun _ _ => False)) hl0 (by decide +kernel) (Nat.le_of_ble_eq_true rfl) ?_
  intro p e s m args below meth c ls C htab hw hl
  have hl : lv_has ls 6 [(0, .ref (ad 0)), (1, .int (p1)), (2, .int (p2)), (3, .int (p3))] := hl
  unfold q_M_both at h
  refine lv_iload_n C.2.1 C.2.2.1 d_M_both_0 rfl (lv_at hl 3 rfl) ?_
  refine lv_istore (lv' := [(4, .int (p3)), (0, .ref (ad 0)), (1, .int (p1)), (2, .int (p2)), (3, .int (p3))]) C.2.1 C.2.2.1 d_M_both_1 hl (by decide) rfl (fun ls hl => ?_)
  refine lv_iconst (v := (0)) C.2.1 C.2.2.1 d_M_both_3 (by decide) ?_
  refine lv_istore (lv' := [(5, .int (((0) : Int32))), (4, .int (p3)), (0, .ref (ad 0)), (1, .int (p1)), (2, .int (p2)), (3, .int (p3))]) C.2.1 C.2.2.1 d_M_both_4 hl (by decide) rfl (fun ls hl => ?_)
  obtain ⟨n, h⟩ := h
  exact w_M_both_6N C htab n (p1) (p2) (p3) (((0) : Int32)) _ _ _ _ hw (lv_sub hl [2, 3, 4, 1, 0] rfl) h
section KR
variable {own host : String} {cc bytes : ByteArray} {nL maxL index n : Nat} {rt0 rt : Option FieldType} {Z : ZT} {ad : Nat → Nat} {A : Nat → Prop}
variable {p : Program} {l : Launch} {e : Env} {R : Room} {s : State} {m : MethodId} {args : Array Value} {below : List Frame} {meth : Method} {c : Code} {H : Heap} {locs : List Loc} {cells slots : Nat} {Q : State → Prop} {rest : List Value} {pc : Nat} {ls : Array Slot}
theorem k_M_139 {u : MT} {p1 : Int32} {p2 : Int32} {p3 : Int32} {post : Int32 → MT → Prop} (C : CX "CoderTablesModel" cc nL rt0 Z A p l s m args meth c) (hw : WD Z A s (cM Z ad u) H locs) (h : q_M_both p1 p2 p3 u post) (hR : rmOk rm_M_both 6 R cells slots) (hl : ls.size = nL) (hW : (rest.map fun v => v.category).sum ≤ 8) (hdg : decode cc pc = .ok (.invokevirtual 139, 3)) (kk : ∀ (r : Int32) (u' : MT) (H1 : Heap) (locs1 : List Loc), post r u' → WD Z A s (cM Z ad u') H1 locs1 → W p l e R s m args below meth c H1 locs1 cells slots Q (F0 m (pc + 3) ls (.int r :: rest))) : W p l e R s m args below meth c H locs cells slots Q (F0 m pc ls (.int (p3) :: .int (p2) :: .int (p1) :: .ref (ad 0) :: rest)) :=
  g_V0_i (n := 3) (f := cM Z ad) (As := [.int (p1), .int (p2), .int (p3)]) C hw (c_M_both C.1 h) ⟨w747, w749, w47, w56, w750, (by decide +kernel), (by decide +kernel), (by decide +kernel)⟩ hR 0 rfl rfl rfl hl rfl hW hdg (fun _ _ _ _ _ _ h => h.elim) kk
end KR
/-! CoderTablesModel.draws(IIJI)I -/
abbrev rm_M_draws : Room := { frames := 2, cells := 0, slots := 0, locals := 48 }
def q_M_draws_61 (K29 : Int32 → Int32 → Int64 → Int32 → Int32 → Int32 → Int32 → MT → Prop) (x1 : Int32) (x2 : Int32) (x3 : Int64) (x5 : Int32) (x6 : Int32) (x8 : Int32) (z0 : Int32) (z1 : Int32) (u : MT) (post : Int32 → MT → Prop) : Prop :=
  K29 (x1) (x2) (x3) (x5) (x6) ((z1) + (z0)) ((x8) + 1) (u)
set_option maxRecDepth 100000 in
theorem w_M_draws_61 {p : Program} {l : Launch} {e : Env} {s : State} {m : MethodId} {args : Array Value} {below : List Frame} {meth : Method} {c : Code} {Z : ZT} {ad : Nat → Nat} {u0 : MT} {post : Int32 → MT → Prop} {K29 : Int32 → Int32 → Int64 → Int32 → Int32 → Int32 → Int32 → MT → Prop} (C : CX "CoderTablesModel" b_M_draws 16 (some .int) Z (va_A (cM Z ad u0) s.heap.size) p l s m args meth c) (htab : ∀ x ∈ c.exceptionTable.toList, False) (hK29 : ∀ (x1 : Int32) (x2 : Int32) (x3 : Int64) (x5 : Int32) (x6 : Int32) (x7 : Int32) (x8 : Int32) (u : MT) (H : Heap) (locs : List Loc) (ls : Array Slot), K29 x1 x2 x3 x5 x6 x7 x8 u → WD Z (va_A (cM Z ad u0) s.heap.size) s (cM Z ad u) H locs → lv_has ls 16 [(0, .ref (ad 0)), (1, .int (x1)), (2, .int (x2)), (3, .long (x3)), (5, .int (x5)), (6, .int (x6)), (7, .int (x7)), (8, .int (x8))] → W p l e rm_M_draws s m args below meth c H locs 0 0 (vx_MQ below (pQi Z (cM Z ad) (cM Z ad u0) s.heap.size post) (pX Z (cM Z ad) (cM Z ad u0) s.heap.size (fun _ _ => False)) args s 0 0 rm_M_draws.cells rm_M_draws.slots (va_A (cM Z ad u0) s.heap.size)) (F0 m 29 ls [])) (x1 : Int32) (x2 : Int32) (x3 : Int64) (x5 : Int32) (x6 : Int32) (x8 : Int32) (z0 : Int32) (z1 : Int32) (u : MT) (H : Heap) (locs : List Loc) (ls : Array Slot) (hw : WD Z (va_A (cM Z ad u0) s.heap.size) s (cM Z ad u) H locs) (hl : lv_has ls 16 [(0, .ref (ad 0)), (1, .int (x1)), (2, .int (x2)), (3, .long (x3)), (5, .int (x5)), (6, .int (x6)), (8, .int (x8))]) (h : q_M_draws_61 K29 x1 x2 x3 x5 x6 x8 z0 z1 u post) : W p l e rm_M_draws s m args below meth c H locs 0 0 (vx_MQ below (pQi Z (cM Z ad) (cM Z ad u0) s.heap.size post) (pX Z (cM Z ad) (cM Z ad u0) s.heap.size (fun _ _ => False)) args s 0 0 rm_M_draws.cells rm_M_draws.slots (va_A (cM Z ad u0) s.heap.size)) (F0 m 61 ls [.int (z0), .int (z1)]) := by
  unfold q_M_draws_61 at h
  refine lv_iadd C.2.1 C.2.2.1 d_M_draws_61 ?_
  refine lv_istore (lv' := [(7, .int ((z1) + (z0))), (0, .ref (ad 0)), (1, .int (x1)), (2, .int (x2)), (3, .long (x3)), (5, .int (x5)), (6, .int (x6)), (8, .int (x8))]) C.2.1 C.2.2.1 d_M_draws_62 hl (by decide) rfl (fun ls hl => ?_)
  refine lv_iinc (v := (x8) + 1) (lv' := [(8, .int ((x8) + 1)), (7, .int ((z1) + (z0))), (0, .ref (ad 0)), (1, .int (x1)), (2, .int (x2)), (3, .long (x3)), (5, .int (x5)), (6, .int (x6))]) C.2.1 C.2.2.1 d_M_draws_64 hl (k := 7) rfl rfl (by decide) rfl (fun ls hl => ?_)
  refine lv_goto (tgt := 29) C.2.1 C.2.2.1 d_M_draws_67 (by decide) ?_
  exact hK29 (x1) (x2) (x3) (x5) (x6) ((z1) + (z0)) ((x8) + 1) _ _ _ _ h hw (lv_sub hl [2, 3, 4, 5, 6, 7, 1, 0] rfl)
def q_M_draws_218 (K126 : Int32 → Int32 → Int32 → Int32 → Int32 → Int32 → MT → Prop) (x1 : Int32) (x2 : Int32) (x5 : Int32) (x7 : Int32) (x9 : Int32) (z0 : Int32) (z1 : Int32) (u : MT) (post : Int32 → MT → Prop) : Prop :=
  K126 (x1) (x2) (x5) (x7) ((z1) + (z0)) ((x9) + 1) (u)
set_option maxRecDepth 100000 in
theorem w_M_draws_218 {p : Program} {l : Launch} {e : Env} {s : State} {m : MethodId} {args : Array Value} {below : List Frame} {meth : Method} {c : Code} {Z : ZT} {ad : Nat → Nat} {u0 : MT} {post : Int32 → MT → Prop} {K126 : Int32 → Int32 → Int32 → Int32 → Int32 → Int32 → MT → Prop} (C : CX "CoderTablesModel" b_M_draws 16 (some .int) Z (va_A (cM Z ad u0) s.heap.size) p l s m args meth c) (htab : ∀ x ∈ c.exceptionTable.toList, False) (hK126 : ∀ (x1 : Int32) (x2 : Int32) (x5 : Int32) (x7 : Int32) (x8 : Int32) (x9 : Int32) (u : MT) (H : Heap) (locs : List Loc) (ls : Array Slot), K126 x1 x2 x5 x7 x8 x9 u → WD Z (va_A (cM Z ad u0) s.heap.size) s (cM Z ad u) H locs → lv_has ls 16 [(0, .ref (ad 0)), (1, .int (x1)), (2, .int (x2)), (5, .int (x5)), (7, .int (x7)), (8, .int (x8)), (9, .int (x9))] → W p l e rm_M_draws s m args below meth c H locs 0 0 (vx_MQ below (pQi Z (cM Z ad) (cM Z ad u0) s.heap.size post) (pX Z (cM Z ad) (cM Z ad u0) s.heap.size (fun _ _ => False)) args s 0 0 rm_M_draws.cells rm_M_draws.slots (va_A (cM Z ad u0) s.heap.size)) (F0 m 126 ls [])) (x1 : Int32) (x2 : Int32) (x5 : Int32) (x7 : Int32) (x9 : Int32) (z0 : Int32) (z1 : Int32) (u : MT) (H : Heap) (locs : List Loc) (ls : Array Slot) (hw : WD Z (va_A (cM Z ad u0) s.heap.size) s (cM Z ad u) H locs) (hl : lv_has ls 16 [(0, .ref (ad 0)), (1, .int (x1)), (2, .int (x2)), (5, .int (x5)), (7, .int (x7)), (9, .int (x9))]) (h : q_M_draws_218 K126 x1 x2 x5 x7 x9 z0 z1 u post) : W p l e rm_M_draws s m args below meth c H locs 0 0 (vx_MQ below (pQi Z (cM Z ad) (cM Z ad u0) s.heap.size post) (pX Z (cM Z ad) (cM Z ad u0) s.heap.size (fun _ _ => False)) args s 0 0 rm_M_draws.cells rm_M_draws.slots (va_A (cM Z ad u0) s.heap.size)) (F0 m 218 ls [.int (z0), .int (z1)]) := by
  unfold q_M_draws_218 at h
  refine lv_iadd C.2.1 C.2.2.1 d_M_draws_218 ?_
  refine lv_istore (lv' := [(8, .int ((z1) + (z0))), (0, .ref (ad 0)), (1, .int (x1)), (2, .int (x2)), (5, .int (x5)), (7, .int (x7)), (9, .int (x9))]) C.2.1 C.2.2.1 d_M_draws_219 hl (by decide) rfl (fun ls hl => ?_)
  refine lv_iinc (v := (x9) + 1) (lv' := [(9, .int ((x9) + 1)), (8, .int ((z1) + (z0))), (0, .ref (ad 0)), (1, .int (x1)), (2, .int (x2)), (5, .int (x5)), (7, .int (x7))]) C.2.1 C.2.2.1 d_M_draws_221 hl (k := 6) rfl rfl (by decide) rfl (fun ls hl => ?_)
  refine lv_goto (tgt := 126) C.2.1 C.2.2.1 d_M_draws_224 (by decide) ?_
  exact hK126 (x1) (x2) (x5) (x7) ((z1) + (z0)) ((x9) + 1) _ _ _ _ h hw (lv_sub hl [2, 3, 4, 5, 6, 1, 0] rfl)
def q_M_draws_142 (K126 : Int32 → Int32 → Int32 → Int32 → Int32 → Int32 → MT → Prop) (K142 : Int32 → Int32 → Int32 → Int32 → Int32 → Int32 → Int64 → Int64 → Int32 → MT → Prop) (x1 : Int32) (x2 : Int32) (x5 : Int32) (x7 : Int32) (x8 : Int32) (x9 : Int32) (x10 : Int64) (x12 : Int64) (x14 : Int32) (u : MT) (post : Int32 → MT → Prop) : Prop :=
  (((x7) ≤ (x14) → ((0 ≤ (lg_cmp (x10) (x12)) → q_M_draws_218 K126 (x1) (x2) (x5) (x7) (x9) (((0) : Int32)) (x8) (u) post) ∧ (¬ 0 ≤ (lg_cmp (x10) (x12)) → q_M_draws_218 K126 (x1) (x2) (x5) (x7) (x9) (((1) : Int32)) (x8) (u) post))) ∧ (¬ (x7) ≤ (x14) → q_M_draw (x7) (u) (fun r1 u2 => q_M_both (x1) (x2) (r1) (u2) (fun r3 u4 => q_M_bytes (((((24) : Int32)) * (x1)) + (r3)) (u4) (fun r5 u6 => q_M_bytes (((((24) : Int32)) * (x2)) + (r3)) (u6) (fun r7 u8 => K142 (x1) (x2) (x5) (x7) (x8) (x9) ((x10) + ((r5).toInt64)) ((x12) + ((r7).toInt64)) ((x14) + 1) (u8)))))))
set_option maxRecDepth 100000 in
theorem w_M_draws_142 {p : Program} {l : Launch} {e : Env} {s : State} {m : MethodId} {args : Array Value} {below : List Frame} {meth : Method} {c : Code} {Z : ZT} {ad : Nat → Nat} {u0 : MT} {post : Int32 → MT → Prop} {K126 : Int32 → Int32 → Int32 → Int32 → Int32 → Int32 → MT → Prop} {K142 : Int32 → Int32 → Int32 → Int32 → Int32 → Int32 → Int64 → Int64 → Int32 → MT → Prop} (C : CX "CoderTablesModel" b_M_draws 16 (some .int) Z (va_A (cM Z ad u0) s.heap.size) p l s m args meth c) (htab : ∀ x ∈ c.exceptionTable.toList, False) (hK126 : ∀ (x1 : Int32) (x2 : Int32) (x5 : Int32) (x7 : Int32) (x8 : Int32) (x9 : Int32) (u : MT) (H : Heap) (locs : List Loc) (ls : Array Slot), K126 x1 x2 x5 x7 x8 x9 u → WD Z (va_A (cM Z ad u0) s.heap.size) s (cM Z ad u) H locs → lv_has ls 16 [(0, .ref (ad 0)), (1, .int (x1)), (2, .int (x2)), (5, .int (x5)), (7, .int (x7)), (8, .int (x8)), (9, .int (x9))] → W p l e rm_M_draws s m args below meth c H locs 0 0 (vx_MQ below (pQi Z (cM Z ad) (cM Z ad u0) s.heap.size post) (pX Z (cM Z ad) (cM Z ad u0) s.heap.size (fun _ _ => False)) args s 0 0 rm_M_draws.cells rm_M_draws.slots (va_A (cM Z ad u0) s.heap.size)) (F0 m 126 ls [])) (hK142 : ∀ (x1 : Int32) (x2 : Int32) (x5 : Int32) (x7 : Int32) (x8 : Int32) (x9 : Int32) (x10 : Int64) (x12 : Int64) (x14 : Int32) (u : MT) (H : Heap) (locs : List Loc) (ls : Array Slot), K142 x1 x2 x5 x7 x8 x9 x10 x12 x14 u → WD Z (va_A (cM Z ad u0) s.heap.size) s (cM Z ad u) H locs → lv_has ls 16 [(0, .ref (ad 0)), (1, .int (x1)), (2, .int (x2)), (5, .int (x5)), (7, .int (x7)), (8, .int (x8)), (9, .int (x9)), (10, .long (x10)), (12, .long (x12)), (14, .int (x14))] → W p l e rm_M_draws s m args below meth c H locs 0 0 (vx_MQ below (pQi Z (cM Z ad) (cM Z ad u0) s.heap.size post) (pX Z (cM Z ad) (cM Z ad u0) s.heap.size (fun _ _ => False)) args s 0 0 rm_M_draws.cells rm_M_draws.slots (va_A (cM Z ad u0) s.heap.size)) (F0 m 142 ls [])) (x1 : Int32) (x2 : Int32) (x5 : Int32) (x7 : Int32) (x8 : Int32) (x9 : Int32) (x10 : Int64) (x12 : Int64) (x14 : Int32) (u : MT) (H : Heap) (locs : List Loc) (ls : Array Slot) (hw : WD Z (va_A (cM Z ad u0) s.heap.size) s (cM Z ad u) H locs) (hl : lv_has ls 16 [(0, .ref (ad 0)), (1, .int (x1)), (2, .int (x2)), (5, .int (x5)), (7, .int (x7)), (8, .int (x8)), (9, .int (x9)), (10, .long (x10)), (12, .long (x12)), (14, .int (x14))]) (h : q_M_draws_142 K126 K142 x1 x2 x5 x7 x8 x9 x10 x12 x14 u post) : W p l e rm_M_draws s m args below meth c H locs 0 0 (vx_MQ below (pQi Z (cM Z ad) (cM Z ad u0) s.heap.size post) (pX Z (cM Z ad) (cM Z ad u0) s.heap.size (fun _ _ => False)) args s 0 0 rm_M_draws.cells rm_M_draws.slots (va_A (cM Z ad u0) s.heap.size)) (F0 m 142 ls []) := by
  unfold q_M_draws_142 at h
  refine lv_iload C.2.1 C.2.2.1 d_M_draws_142 (lv_at hl 9 rfl) ?_
  refine lv_iload C.2.1 C.2.2.1 d_M_draws_144 (lv_at hl 4 rfl) ?_
  refine lv_icmp_ge (tgt := 203) C.2.1 C.2.2.1 d_M_draws_146 (by decide) (fun c => ?_) (fun c => ?_)
  · have h := h.1 c
    refine lv_iload C.2.1 C.2.2.1 d_M_draws_203 (lv_at hl 5 rfl) ?_
    refine lv_lload C.2.1 C.2.2.1 d_M_draws_205 (lv_at hl 7 rfl) ?_
    refine lv_lload C.2.1 C.2.2.1 d_M_draws_207 (lv_at hl 8 rfl) ?_
    refine W.lcmp C.2.1 C.2.2.1 d_M_draws_209 ?_
    refine lv_if_ge (tgt := 217) C.2.1 C.2.2.1 d_M_draws_210 (by decide) (fun c => ?_) (fun c => ?_)
    · have h := h.1 c
      refine lv_iconst (v := (0)) C.2.1 C.2.2.1 d_M_draws_217 (by decide) ?_
      exact w_M_draws_218 C htab hK126 (x1) (x2) (x5) (x7) (x9) (((0) : Int32)) (x8) _ _ _ _ hw (lv_sub hl [0, 1, 2, 3, 4, 6] rfl) h
    · have h := h.2 c
      refine lv_iconst (v := (1)) C.2.1 C.2.2.1 d_M_draws_213 (by decide) ?_
      refine lv_goto (tgt := 218) C.2.1 C.2.2.1 d_M_draws_214 (by decide) ?_
      exact w_M_draws_218 C htab hK126 (x1) (x2) (x5) (x7) (x9) (((1) : Int32)) (x8) _ _ _ _ hw (lv_sub hl [0, 1, 2, 3, 4, 6] rfl) h
  · have h := h.2 c
    refine lv_aload_n C.2.1 C.2.2.1 d_M_draws_149 rfl (lv_at hl 0 rfl) ?_
    refine lv_iload_n C.2.1 C.2.2.1 d_M_draws_150 rfl (lv_at hl 1 rfl) ?_
    refine lv_iload_n C.2.1 C.2.2.1 d_M_draws_151 rfl (lv_at hl 2 rfl) ?_
    refine lv_aload_n C.2.1 C.2.2.1 d_M_draws_152 rfl (lv_at hl 0 rfl) ?_
    refine lv_iload C.2.1 C.2.2.1 d_M_draws_153 (lv_at hl 4 rfl) ?_
    refine k_M_136 C hw h ⟨Nat.le_of_ble_eq_true rfl, Nat.le_of_ble_eq_true rfl, Nat.le_of_ble_eq_true rfl, Nat.le_of_ble_eq_true rfl⟩ hl.1 (Nat.le_of_ble_eq_true rfl) d_M_draws_155 (fun r1 u2 H locs h hw => ?_)
    refine k_M_139 C hw h ⟨Nat.le_of_ble_eq_true rfl, Nat.le_of_ble_eq_true rfl, Nat.le_of_ble_eq_true rfl, Nat.le_of_ble_eq_true rfl⟩ hl.1 (Nat.le_of_ble_eq_true rfl) d_M_draws_158 (fun r3 u4 H locs h hw => ?_)
    refine lv_istore (lv' := [(15, .int (r3)), (0, .ref (ad 0)), (1, .int (x1)), (2, .int (x2)), (5, .int (x5)), (7, .int (x7)), (8, .int (x8)), (9, .int (x9)), (10, .long (x10)), (12, .long (x12)), (14, .int (x14))]) C.2.1 C.2.2.1 d_M_draws_161 hl (by decide) rfl (fun ls hl => ?_)
    refine lv_lload C.2.1 C.2.2.1 d_M_draws_163 (lv_at hl 8 rfl) ?_
    refine lv_aload_n C.2.1 C.2.2.1 d_M_draws_165 rfl (lv_at hl 1 rfl) ?_
    refine lv_bipush (v := (24)) C.2.1 C.2.2.1 d_M_draws_166 (by decide) ?_
    refine lv_iload_n C.2.1 C.2.2.1 d_M_draws_168 rfl (lv_at hl 2 rfl) ?_
    refine lv_imul C.2.1 C.2.2.1 d_M_draws_169 ?_
    refine lv_iload C.2.1 C.2.2.1 d_M_draws_170 (lv_at hl 0 rfl) ?_
    refine lv_iadd C.2.1 C.2.2.1 d_M_draws_172 ?_
    refine k_M_74 C hw h ⟨Nat.le_of_ble_eq_true rfl, Nat.le_of_ble_eq_true rfl, Nat.le_of_ble_eq_true rfl, Nat.le_of_ble_eq_true rfl⟩ hl.1 (Nat.le_of_ble_eq_true rfl) d_M_draws_173 (fun r5 u6 H locs h hw => ?_)
    refine lv_i2l C.2.1 C.2.2.1 d_M_draws_176 rfl ?_
    refine lv_ladd C.2.1 C.2.2.1 d_M_draws_177 ?_
    refine lv_lstore (lv' := [(10, .long ((x10) + ((r5).toInt64))), (15, .int (r3)), (0, .ref (ad 0)), (1, .int (x1)), (2, .int (x2)), (5, .int (x5)), (7, .int (x7)), (8, .int (x8)), (9, .int (x9)), (12, .long (x12)), (14, .int (x14))]) C.2.1 C.2.2.1 d_M_draws_178 hl (by decide) rfl (fun ls hl => ?_)
    refine lv_lload C.2.1 C.2.2.1 d_M_draws_180 (lv_at hl 9 rfl) ?_
    refine lv_aload_n C.2.1 C.2.2.1 d_M_draws_182 rfl (lv_at hl 2 rfl) ?_
    refine lv_bipush (v := (24)) C.2.1 C.2.2.1 d_M_draws_183 (by decide) ?_
    refine lv_iload_n C.2.1 C.2.2.1 d_M_draws_185 rfl (lv_at hl 4 rfl) ?_
    refine lv_imul C.2.1 C.2.2.1 d_M_draws_186 ?_
    refine lv_iload C.2.1 C.2.2.1 d_M_draws_187 (lv_at hl 1 rfl) ?_
    refine lv_iadd C.2.1 C.2.2.1 d_M_draws_189 ?_
    refine k_M_74 C hw h ⟨Nat.le_of_ble_eq_true rfl, Nat.le_of_ble_eq_true rfl, Nat.le_of_ble_eq_true rfl, Nat.le_of_ble_eq_true rfl⟩ hl.1 (Nat.le_of_ble_eq_true rfl) d_M_draws_190 (fun r7 u8 H locs h hw => ?_)
    refine lv_i2l C.2.1 C.2.2.1 d_M_draws_193 rfl ?_
    refine lv_ladd C.2.1 C.2.2.1 d_M_draws_194 ?_
    refine lv_lstore (lv' := [(12, .long ((x12) + ((r7).toInt64))), (10, .long ((x10) + ((r5).toInt64))), (15, .int (r3)), (0, .ref (ad 0)), (1, .int (x1)), (2, .int (x2)), (5, .int (x5)), (7, .int (x7)), (8, .int (x8)), (9, .int (x9)), (14, .int (x14))]) C.2.1 C.2.2.1 d_M_draws_195 hl (by decide) rfl (fun ls hl => ?_)
    refine lv_iinc (v := (x14) + 1) (lv' := [(14, .int ((x14) + 1)), (12, .long ((x12) + ((r7).toInt64))), (10, .long ((x10) + ((r5).toInt64))), (15, .int (r3)), (0, .ref (ad 0)), (1, .int (x1)), (2, .int (x2)), (5, .int (x5)), (7, .int (x7)), (8, .int (x8)), (9, .int (x9))]) C.2.1 C.2.2.1 d_M_draws_197 hl (k := 10) rfl rfl (by decide) rfl (fun ls hl => ?_)
    refine lv_goto (tgt := 142) C.2.1 C.2.2.1 d_M_draws_200 (by decide) ?_
    exact hK142 (x1) (x2) (x5) (x7) (x8) (x9) ((x10) + ((r5).toInt64)) ((x12) + ((r7).toInt64)) ((x14) + 1) _ _ _ _ h hw (lv_sub hl [4, 5, 6, 7, 8, 9, 10, 2, 1, 0] rfl)
def q_M_draws_142N (K126 : Int32 → Int32 → Int32 → Int32 → Int32 → Int32 → MT → Prop) : Nat → Int32 → Int32 → Int32 → Int32 → Int32 → Int32 → Int64 → Int64 → Int32 → MT → (Int32 → MT → Prop) → Prop
  | 0 => fun _ _ _ _ _ _ _ _ _ _ _ => False
  | n + 1 => fun x1 x2 x5 x7 x8 x9 x10 x12 x14 u post => q_M_draws_142 K126 (fun x1 x2 x5 x7 x8 x9 x10 x12 x14 u => q_M_draws_142N K126 n x1 x2 x5 x7 x8 x9 x10 x12 x14 u post) x1 x2 x5 x7 x8 x9 x10 x12 x14 u post
theorem w_M_draws_142N {p : Program} {l : Launch} {e : Env} {s : State} {m : MethodId} {args : Array Value} {below : List Frame} {meth : Method} {c : Code} {Z : ZT} {ad : Nat → Nat} {u0 : MT} {post : Int32 → MT → Prop} {K126 : Int32 → Int32 → Int32 → Int32 → Int32 → Int32 → MT → Prop} (C : CX "CoderTablesModel" b_M_draws 16 (some .int) Z (va_A (cM Z ad u0) s.heap.size) p l s m args meth c) (htab : ∀ x ∈ c.exceptionTable.toList, False) (hK126 : ∀ (x1 : Int32) (x2 : Int32) (x5 : Int32) (x7 : Int32) (x8 : Int32) (x9 : Int32) (u : MT) (H : Heap) (locs : List Loc) (ls : Array Slot), K126 x1 x2 x5 x7 x8 x9 u → WD Z (va_A (cM Z ad u0) s.heap.size) s (cM Z ad u) H locs → lv_has ls 16 [(0, .ref (ad 0)), (1, .int (x1)), (2, .int (x2)), (5, .int (x5)), (7, .int (x7)), (8, .int (x8)), (9, .int (x9))] → W p l e rm_M_draws s m args below meth c H locs 0 0 (vx_MQ below (pQi Z (cM Z ad) (cM Z ad u0) s.heap.size post) (pX Z (cM Z ad) (cM Z ad u0) s.heap.size (fun _ _ => False)) args s 0 0 rm_M_draws.cells rm_M_draws.slots (va_A (cM Z ad u0) s.heap.size)) (F0 m 126 ls [])) : ∀ (n : Nat) (x1 : Int32) (x2 : Int32) (x5 : Int32) (x7 : Int32) (x8 : Int32) (x9 : Int32) (x10 : Int64) (x12 : Int64) (x14 : Int32) (u : MT) (H : Heap) (locs : List Loc) (ls : Array Slot), WD Z (va_A (cM Z ad u0) s.heap.size) s (cM Z ad u) H locs → lv_has ls 16 [(0, .ref (ad 0)), (1, .int (x1)), (2, .int (x2)), (5, .int (x5)), (7, .int (x7)), (8, .int (x8)), (9, .int (x9)), (10, .long (x10)), (12, .long (x12)), (14, .int (x14))] → q_M_draws_142N K126 n x1 x2 x5 x7 x8 x9 x10 x12 x14 u post → W p l e rm_M_draws s m args below meth c H locs 0 0 (vx_MQ below (pQi Z (cM Z ad) (cM Z ad u0) s.heap.size post) (pX Z (cM Z ad) (cM Z ad u0) s.heap.size (fun _ _ => False)) args s 0 0 rm_M_draws.cells rm_M_draws.slots (va_A (cM Z ad u0) s.heap.size)) (F0 m 142 ls []) := by
  intro n
  induction n with
  | zero => intro x1 x2 x5 x7 x8 x9 x10 x12 x14 u H locs ls hw hl h; exact h.elim
  | succ n ih => intro x1 x2 x5 x7 x8 x9 x10 x12 x14 u H locs ls hw hl h; exact w_M_draws_142 C htab hK126 (fun x1 x2 x5 x7 x8 x9 x10 x12 x14 u H locs ls h hw hl => ih x1 x2 x5 x7 x8 x9 x10 x12 x14 u H locs ls hw hl h) x1 x2 x5 x7 x8 x9 x10 x12 x14 u H locs ls hw hl h
def q_M_draws_126 (K126 : Int32 → Int32 → Int32 → Int32 → Int32 → Int32 → MT → Prop) (x1 : Int32) (x2 : Int32) (x5 : Int32) (x7 : Int32) (x8 : Int32) (x9 : Int32) (u : MT) (post : Int32 → MT → Prop) : Prop :=
  (((x5) ≤ (x9) → post (x8) (u)) ∧ (¬ (x5) ≤ (x9) → ∃ n, q_M_draws_142N K126 n (x1) (x2) (x5) (x7) (x8) (x9) ((0 : Int64)) ((0 : Int64)) (((0) : Int32)) (u) post))
set_option maxRecDepth 100000 in
theorem w_M_draws_126 {p : Program} {l : Launch} {e : Env} {s : State} {m : MethodId} {args : Array Value} {below : List Frame} {meth : Method} {c : Code} {Z : ZT} {ad : Nat → Nat} {u0 : MT} {post : Int32 → MT → Prop} {K126 : Int32 → Int32 → Int32 → Int32 → Int32 → Int32 → MT → Prop} (C : CX "CoderTablesModel" b_M_draws 16 (some .int) Z (va_A (cM Z ad u0) s.heap.size) p l s m args meth c) (htab : ∀ x ∈ c.exceptionTable.toList, False) (hK126 : ∀ (x1 : Int32) (x2 : Int32) (x5 : Int32) (x7 : Int32) (x8 : Int32) (x9 : Int32) (u : MT) (H : Heap) (locs : List Loc) (ls : Array Slot), K126 x1 x2 x5 x7 x8 x9 u → WD Z (va_A (cM Z ad u0) s.heap.size) s (cM Z ad u) H locs → lv_has ls 16 [(0, .ref (ad 0)), (1, .int (x1)), (2, .int (x2)), (5, .int (x5)), (7, .int (x7)), (8, .int (x8)), (9, .int (x9))] → W p l e rm_M_draws s m args below meth c H locs 0 0 (vx_MQ below (pQi Z (cM Z ad) (cM Z ad u0) s.heap.size post) (pX Z (cM Z ad) (cM Z ad u0) s.heap.size (fun _ _ => False)) args s 0 0 rm_M_draws.cells rm_M_draws.slots (va_A (cM Z ad u0) s.heap.size)) (F0 m 126 ls [])) (x1 : Int32) (x2 : Int32) (x5 : Int32) (x7 : Int32) (x8 : Int32) (x9 : Int32) (u : MT) (H : Heap) (locs : List Loc) (ls : Array Slot) (hw : WD Z (va_A (cM Z ad u0) s.heap.size) s (cM Z ad u) H locs) (hl : lv_has ls 16 [(0, .ref (ad 0)), (1, .int (x1)), (2, .int (x2)), (5, .int (x5)), (7, .int (x7)), (8, .int (x8)), (9, .int (x9))]) (h : q_M_draws_126 K126 x1 x2 x5 x7 x8 x9 u post) : W p l e rm_M_draws s m args below meth c H locs 0 0 (vx_MQ below (pQi Z (cM Z ad) (cM Z ad u0) s.heap.size post) (pX Z (cM Z ad) (cM Z ad u0) s.heap.size (fun _ _ => False)) args s 0 0 rm_M_draws.cells rm_M_draws.slots (va_A (cM Z ad u0) s.heap.size)) (F0 m 126 ls []) := by
  unfold q_M_draws_126 at h
  refine lv_iload C.2.1 C.2.2.1 d_M_draws_126 (lv_at hl 6 rfl) ?_
  refine lv_iload C.2.1 C.2.2.1 d_M_draws_128 (lv_at hl 3 rfl) ?_
  refine lv_icmp_ge (tgt := 227) C.2.1 C.2.2.1 d_M_draws_130 (by decide) (fun c => ?_) (fun c => ?_)
  · have h := h.1 c
    refine lv_iload C.2.1 C.2.2.1 d_M_draws_227 (lv_at hl 5 rfl) ?_
    exact g_iret C hw rfl h d_M_draws_229
  · have h := h.2 c
    refine lv_lconst (v := 0) C.2.1 C.2.2.1 d_M_draws_133 (by decide) ?_
    refine lv_lstore (lv' := [(10, .long ((0 : Int64))), (0, .ref (ad 0)), (1, .int (x1)), (2, .int (x2)), (5, .int (x5)), (7, .int (x7)), (8, .int (x8)), (9, .int (x9))]) C.2.1 C.2.2.1 d_M_draws_134 hl (by decide) rfl (fun ls hl => ?_)
    refine lv_lconst (v := 0) C.2.1 C.2.2.1 d_M_draws_136 (by decide) ?_
    refine lv_lstore (lv' := [(12, .long ((0 : Int64))), (10, .long ((0 : Int64))), (0, .ref (ad 0)), (1, .int (x1)), (2, .int (x2)), (5, .int (x5)), (7, .int (x7)), (8, .int (x8)), (9, .int (x9))]) C.2.1 C.2.2.1 d_M_draws_137 hl (by decide) rfl (fun ls hl => ?_)
    refine lv_iconst (v := (0)) C.2.1 C.2.2.1 d_M_draws_139 (by decide) ?_
    refine lv_istore (lv' := [(14, .int (((0) : Int32))), (12, .long ((0 : Int64))), (10, .long ((0 : Int64))), (0, .ref (ad 0)), (1, .int (x1)), (2, .int (x2)), (5, .int (x5)), (7, .int (x7)), (8, .int (x8)), (9, .int (x9))]) C.2.1 C.2.2.1 d_M_draws_140 hl (by decide) rfl (fun ls hl => ?_)
    obtain ⟨n, h⟩ := h
    exact w_M_draws_142N C htab hK126 n (x1) (x2) (x5) (x7) (x8) (x9) ((0 : Int64)) ((0 : Int64)) (((0) : Int32)) _ _ _ _ hw (lv_sub hl [3, 4, 5, 6, 7, 8, 9, 2, 1, 0] rfl) h
def q_M_draws_126N : Nat → Int32 → Int32 → Int32 → Int32 → Int32 → Int32 → MT → (Int32 → MT → Prop) → Prop
  | 0 => fun _ _ _ _ _ _ _ _ => False
  | n + 1 => fun x1 x2 x5 x7 x8 x9 u post => q_M_draws_126 (fun x1 x2 x5 x7 x8 x9 u => q_M_draws_126N n x1 x2 x5 x7 x8 x9 u post) x1 x2 x5 x7 x8 x9 u post
theorem w_M_draws_126N {p : Program} {l : Launch} {e : Env} {s : State} {m : MethodId} {args : Array Value} {below : List Frame} {meth : Method} {c : Code} {Z : ZT} {ad : Nat → Nat} {u0 : MT} {post : Int32 → MT → Prop} (C : CX "CoderTablesModel" b_M_draws 16 (some .int) Z (va_A (cM Z ad u0) s.heap.size) p l s m args meth c) (htab : ∀ x ∈ c.exceptionTable.toList, False) : ∀ (n : Nat) (x1 : Int32) (x2 : Int32) (x5 : Int32) (x7 : Int32) (x8 : Int32) (x9 : Int32) (u : MT) (H : Heap) (locs : List Loc) (ls : Array Slot), WD Z (va_A (cM Z ad u0) s.heap.size) s (cM Z ad u) H locs → lv_has ls 16 [(0, .ref (ad 0)), (1, .int (x1)), (2, .int (x2)), (5, .int (x5)), (7, .int (x7)), (8, .int (x8)), (9, .int (x9))] → q_M_draws_126N n x1 x2 x5 x7 x8 x9 u post → W p l e rm_M_draws s m args below meth c H locs 0 0 (vx_MQ below (pQi Z (cM Z ad) (cM Z ad u0) s.heap.size post) (pX Z (cM Z ad) (cM Z ad u0) s.heap.size (fun _ _ => False)) args s 0 0 rm_M_draws.cells rm_M_draws.slots (va_A (cM Z ad u0) s.heap.size)) (F0 m 126 ls []) := by
  intro n
  induction n with
  | zero => intro x1 x2 x5 x7 x8 x9 u H locs ls hw hl h; exact h.elim
  | succ n ih => intro x1 x2 x5 x7 x8 x9 u H locs ls hw hl h; exact w_M_draws_126 C htab (fun x1 x2 x5 x7 x8 x9 u H locs ls h hw hl => ih x1 x2 x5 x7 x8 x9 u H locs ls hw hl h) x1 x2 x5 x7 x8 x9 u H locs ls hw hl h
def q_M_draws_107 (x1 : Int32) (x2 : Int32) (x3 : Int64) (x5 : Int32) (x7 : Int32) (z0 : Int32) (u : MT) (post : Int32 → MT → Prop) : Prop :=
  q_M_refuses (z0) (u) (fun r9 u10 => (((r9) = 0 → ∃ n, q_M_draws_126N n (x1) (x2) (x5) (x7) (((0) : Int32)) (((0) : Int32)) (m_state_s (u10) (x3)) post) ∧ (¬ (r9) = 0 → post (((0) : Int32)) (u10))))
set_option maxRecDepth 100000 in
theorem w_M_draws_107 {p : Program} {l : Launch} {e : Env} {s : State} {m : MethodId} {args : Array Value} {below : List Frame} {meth : Method} {c : Code} {Z : ZT} {ad : Nat → Nat} {u0 : MT} {post : Int32 → MT → Prop} (C : CX "CoderTablesModel" b_M_draws 16 (some .int) Z (va_A (cM Z ad u0) s.heap.size) p l s m args meth c) (htab : ∀ x ∈ c.exceptionTable.toList, False) (x1 : Int32) (x2 : Int32) (x3 : Int64) (x5 : Int32) (x7 : Int32) (z0 : Int32) (u : MT) (H : Heap) (locs : List Loc) (ls : Array Slot) (hw : WD Z (va_A (cM Z ad u0) s.heap.size) s (cM Z ad u) H locs) (hl : lv_has ls 16 [(0, .ref (ad 0)), (1, .int (x1)), (2, .int (x2)), (3, .long (x3)), (5, .int (x5)), (7, .int (x7))]) (h : q_M_draws_107 x1 x2 x3 x5 x7 z0 u post) : W p l e rm_M_draws s m args below meth c H locs 0 0 (vx_MQ below (pQi Z (cM Z ad) (cM Z ad u0) s.heap.size post) (pX Z (cM Z ad) (cM Z ad u0) s.heap.size (fun _ _ => False)) args s 0 0 rm_M_draws.cells rm_M_draws.slots (va_A (cM Z ad u0) s.heap.size)) (F0 m 107 ls [.int (z0), .ref (ad 0)]) := by
  unfold q_M_draws_107 at h
  refine k_M_50 C hw h ⟨Nat.le_of_ble_eq_true rfl, Nat.le_of_ble_eq_true rfl, Nat.le_of_ble_eq_true rfl, Nat.le_of_ble_eq_true rfl⟩ hl.1 (Nat.le_of_ble_eq_true rfl) d_M_draws_107 (fun r9 u10 H locs h hw => ?_)
  refine lv_if_eq (tgt := 115) C.2.1 C.2.2.1 d_M_draws_110 (by decide) (fun c => ?_) (fun c => ?_)
  · have h := h.1 c
    refine lv_aload_n C.2.1 C.2.2.1 d_M_draws_115 rfl (lv_at hl 0 rfl) ?_
    refine lv_lload_n C.2.1 C.2.2.1 d_M_draws_116 rfl (lv_at hl 3 rfl) ?_
    refine s_M_126 C hw d_M_draws_117 (fun H locs hw => ?_)
    refine lv_iconst (v := (0)) C.2.1 C.2.2.1 d_M_draws_120 (by decide) ?_
    refine lv_istore (lv' := [(8, .int (((0) : Int32))), (0, .ref (ad 0)), (1, .int (x1)), (2, .int (x2)), (3, .long (x3)), (5, .int (x5)), (7, .int (x7))]) C.2.1 C.2.2.1 d_M_draws_121 hl (by decide) rfl (fun ls hl => ?_)
    refine lv_iconst (v := (0)) C.2.1 C.2.2.1 d_M_draws_123 (by decide) ?_
    refine lv_istore (lv' := [(9, .int (((0) : Int32))), (8, .int (((0) : Int32))), (0, .ref (ad 0)), (1, .int (x1)), (2, .int (x2)), (3, .long (x3)), (5, .int (x5)), (7, .int (x7))]) C.2.1 C.2.2.1 d_M_draws_124 hl (by decide) rfl (fun ls hl => ?_)
    obtain ⟨n, h⟩ := h
    exact w_M_draws_126N C htab n (x1) (x2) (x5) (x7) (((0) : Int32)) (((0) : Int32)) _ _ _ _ hw (lv_sub hl [2, 3, 4, 6, 7, 1, 0] rfl) h
  · have h := h.2 c
    refine lv_iconst (v := (0)) C.2.1 C.2.2.1 d_M_draws_113 (by decide) ?_
    exact g_iret C hw rfl h d_M_draws_114
def q_M_draws_70 (x1 : Int32) (x2 : Int32) (x3 : Int64) (x5 : Int32) (x6 : Int32) (x7 : Int32) (u : MT) (post : Int32 → MT → Prop) : Prop :=
  (((x6) = 0 → q_M_isIn ((x5).toInt64) ((0 : Int64)) ((200 : Int64)) (u) (fun r11 u12 => ((¬ (r11) = 0 → ((¬ (x7) = 0 → q_M_draws_107 (x1) (x2) (x3) (x5) (x7) (((0) : Int32)) (u12) post) ∧ ((x7) = 0 → q_M_draws_107 (x1) (x2) (x3) (x5) (x7) (((3) : Int32)) (u12) post))) ∧ ((r11) = 0 → q_M_draws_107 (x1) (x2) (x3) (x5) (x7) (((2) : Int32)) (u12) post)))) ∧ (¬ (x6) = 0 → q_M_draws_107 (x1) (x2) (x3) (x5) (x7) (((1) : Int32)) (u) post))
set_option maxRecDepth 100000 in
theorem w_M_draws_70 {p : Program} {l : Launch} {e : Env} {s : State} {m : MethodId} {args : Array Value} {below : List Frame} {meth : Method} {c : Code} {Z : ZT} {ad : Nat → Nat} {u0 : MT} {post : Int32 → MT → Prop} (C : CX "CoderTablesModel" b_M_draws 16 (some .int) Z (va_A (cM Z ad u0) s.heap.size) p l s m args meth c) (htab : ∀ x ∈ c.exceptionTable.toList, False) (x1 : Int32) (x2 : Int32) (x3 : Int64) (x5 : Int32) (x6 : Int32) (x7 : Int32) (u : MT) (H : Heap) (locs : List Loc) (ls : Array Slot) (hw : WD Z (va_A (cM Z ad u0) s.heap.size) s (cM Z ad u) H locs) (hl : lv_has ls 16 [(0, .ref (ad 0)), (1, .int (x1)), (2, .int (x2)), (3, .long (x3)), (5, .int (x5)), (6, .int (x6)), (7, .int (x7))]) (h : q_M_draws_70 x1 x2 x3 x5 x6 x7 u post) : W p l e rm_M_draws s m args below meth c H locs 0 0 (vx_MQ below (pQi Z (cM Z ad) (cM Z ad u0) s.heap.size post) (pX Z (cM Z ad) (cM Z ad u0) s.heap.size (fun _ _ => False)) args s 0 0 rm_M_draws.cells rm_M_draws.slots (va_A (cM Z ad u0) s.heap.size)) (F0 m 70 ls []) := by
  unfold q_M_draws_70 at h
  refine lv_aload_n C.2.1 C.2.2.1 d_M_draws_70 rfl (lv_at hl 0 rfl) ?_
  refine lv_iload C.2.1 C.2.2.1 d_M_draws_71 (lv_at hl 5 rfl) ?_
  refine lv_if_eq (tgt := 80) C.2.1 C.2.2.1 d_M_draws_73 (by decide) (fun c => ?_) (fun c => ?_)
  · have h := h.1 c
    refine lv_iload C.2.1 C.2.2.1 d_M_draws_80 (lv_at hl 4 rfl) ?_
    refine lv_i2l C.2.1 C.2.2.1 d_M_draws_82 rfl ?_
    refine lv_lconst (v := 0) C.2.1 C.2.2.1 d_M_draws_83 (by decide) ?_
    refine lv_ldc2 (v := 200) C.2.1 C.2.2.1 C.2.2.2.2.1 (C.2.2.2.2.2.1 _ w740) d_M_draws_84 ?_
    refine k_M_59 C hw h ⟨Nat.le_of_ble_eq_true rfl, Nat.le_of_ble_eq_true rfl, Nat.le_of_ble_eq_true rfl, Nat.le_of_ble_eq_true rfl⟩ hl.1 (Nat.le_of_ble_eq_true rfl) d_M_draws_87 (fun r11 u12 H locs h hw => ?_)
    refine lv_if_ne (tgt := 97) C.2.1 C.2.2.1 d_M_draws_90 (by decide) (fun c => ?_) (fun c => ?_)
    · have h := h.1 c
      refine lv_iload C.2.1 C.2.2.1 d_M_draws_97 (lv_at hl 6 rfl) ?_
      refine lv_if_ne (tgt := 106) C.2.1 C.2.2.1 d_M_draws_99 (by decide) (fun c => ?_) (fun c => ?_)
      · have h := h.1 c
        refine lv_iconst (v := (0)) C.2.1 C.2.2.1 d_M_draws_106 (by decide) ?_
        exact w_M_draws_107 C htab (x1) (x2) (x3) (x5) (x7) (((0) : Int32)) _ _ _ _ hw (lv_sub hl [0, 1, 2, 3, 4, 6] rfl) h
      · have h := h.2 c
        refine lv_iconst (v := (3)) C.2.1 C.2.2.1 d_M_draws_102 (by decide) ?_
        refine lv_goto (tgt := 107) C.2.1 C.2.2.1 d_M_draws_103 (by decide) ?_
        exact w_M_draws_107 C htab (x1) (x2) (x3) (x5) (x7) (((3) : Int32)) _ _ _ _ hw (lv_sub hl [0, 1, 2, 3, 4, 6] rfl) h
    · have h := h.2 c
      refine lv_iconst (v := (2)) C.2.1 C.2.2.1 d_M_draws_93 (by decide) ?_
      refine lv_goto (tgt := 107) C.2.1 C.2.2.1 d_M_draws_94 (by decide) ?_
      exact w_M_draws_107 C htab (x1) (x2) (x3) (x5) (x7) (((2) : Int32)) _ _ _ _ hw (lv_sub hl [0, 1, 2, 3, 4, 6] rfl) h
  · have h := h.2 c
    refine lv_iconst (v := (1)) C.2.1 C.2.2.1 d_M_draws_76 (by decide) ?_
    refine lv_goto (tgt := 107) C.2.1 C.2.2.1 d_M_draws_77 (by decide) ?_
    exact w_M_draws_107 C htab (x1) (x2) (x3) (x5) (x7) (((1) : Int32)) _ _ _ _ hw (lv_sub hl [0, 1, 2, 3, 4, 6] rfl) h
def q_M_draws_29 (K29 : Int32 → Int32 → Int64 → Int32 → Int32 → Int32 → Int32 → MT → Prop) (x1 : Int32) (x2 : Int32) (x3 : Int64) (x5 : Int32) (x6 : Int32) (x7 : Int32) (x8 : Int32) (u : MT) (post : Int32 → MT → Prop) : Prop :=
  (((m_pictures (u)) ≤ (x8) → q_M_draws_70 (x1) (x2) (x3) (x5) (x6) (x7) (u) post) ∧ (¬ (m_pictures (u)) ≤ (x8) → ((¬ (x6) = 0 → q_M_draws_70 (x1) (x2) (x3) (x5) (x6) (x7) (u) post) ∧ ((x6) = 0 → q_M_areBoth (x1) (x2) (x8) (u) (fun r13 u14 => (((r13) = 0 → q_M_draws_61 K29 (x1) (x2) (x3) (x5) (x6) (x8) (((0) : Int32)) (x7) (u14) post) ∧ (¬ (r13) = 0 → q_M_draws_61 K29 (x1) (x2) (x3) (x5) (x6) (x8) (((1) : Int32)) (x7) (u14) post)))))))
set_option maxRecDepth 100000 in
theorem w_M_draws_29 {p : Program} {l : Launch} {e : Env} {s : State} {m : MethodId} {args : Array Value} {below : List Frame} {meth : Method} {c : Code} {Z : ZT} {ad : Nat → Nat} {u0 : MT} {post : Int32 → MT → Prop} {K29 : Int32 → Int32 → Int64 → Int32 → Int32 → Int32 → Int32 → MT → Prop} (C : CX "CoderTablesModel" b_M_draws 16 (some .int) Z (va_A (cM Z ad u0) s.heap.size) p l s m args meth c) (htab : ∀ x ∈ c.exceptionTable.toList, False) (hK29 : ∀ (x1 : Int32) (x2 : Int32) (x3 : Int64) (x5 : Int32) (x6 : Int32) (x7 : Int32) (x8 : Int32) (u : MT) (H : Heap) (locs : List Loc) (ls : Array Slot), K29 x1 x2 x3 x5 x6 x7 x8 u → WD Z (va_A (cM Z ad u0) s.heap.size) s (cM Z ad u) H locs → lv_has ls 16 [(0, .ref (ad 0)), (1, .int (x1)), (2, .int (x2)), (3, .long (x3)), (5, .int (x5)), (6, .int (x6)), (7, .int (x7)), (8, .int (x8))] → W p l e rm_M_draws s m args below meth c H locs 0 0 (vx_MQ below (pQi Z (cM Z ad) (cM Z ad u0) s.heap.size post) (pX Z (cM Z ad) (cM Z ad u0) s.heap.size (fun _ _ => False)) args s 0 0 rm_M_draws.cells rm_M_draws.slots (va_A (cM Z ad u0) s.heap.size)) (F0 m 29 ls [])) (x1 : Int32) (x2 : Int32) (x3 : Int64) (x5 : Int32) (x6 : Int32) (x7 : Int32) (x8 : Int32) (u : MT) (H : Heap) (locs : List Loc) (ls : Array Slot) (hw : WD Z (va_A (cM Z ad u0) s.heap.size) s (cM Z ad u) H locs) (hl : lv_has ls 16 [(0, .ref (ad 0)), (1, .int (x1)), (2, .int (x2)), (3, .long (x3)), (5, .int (x5)), (6, .int (x6)), (7, .int (x7)), (8, .int (x8))]) (h : q_M_draws_29 K29 x1 x2 x3 x5 x6 x7 x8 u post) : W p l e rm_M_draws s m args below meth c H locs 0 0 (vx_MQ below (pQi Z (cM Z ad) (cM Z ad u0) s.heap.size post) (pX Z (cM Z ad) (cM Z ad u0) s.heap.size (fun _ _ => False)) args s 0 0 rm_M_draws.cells rm_M_draws.slots (va_A (cM Z ad u0) s.heap.size)) (F0 m 29 ls []) := by
  unfold q_M_draws_29 at h
  refine lv_iload C.2.1 C.2.2.1 d_M_draws_29 (lv_at hl 7 rfl) ?_
  refine lv_aload_n C.2.1 C.2.2.1 d_M_draws_31 rfl (lv_at hl 0 rfl) ?_
  refine r_M_47 C hw d_M_draws_32 ?_
  refine lv_icmp_ge (tgt := 70) C.2.1 C.2.2.1 d_M_draws_35 (by decide) (fun c => ?_) (fun c => ?_)
  · have h := h.1 c
    exact w_M_draws_70 C htab (x1) (x2) (x3) (x5) (x6) (x7) _ _ _ _ hw (lv_sub hl [0, 1, 2, 3, 4, 5, 6] rfl) h
  · have h := h.2 c
    refine lv_iload C.2.1 C.2.2.1 d_M_draws_38 (lv_at hl 5 rfl) ?_
    refine lv_if_ne (tgt := 70) C.2.1 C.2.2.1 d_M_draws_40 (by decide) (fun c => ?_) (fun c => ?_)
    · have h := h.1 c
      exact w_M_draws_70 C htab (x1) (x2) (x3) (x5) (x6) (x7) _ _ _ _ hw (lv_sub hl [0, 1, 2, 3, 4, 5, 6] rfl) h
    · have h := h.2 c
      refine lv_iload C.2.1 C.2.2.1 d_M_draws_43 (lv_at hl 6 rfl) ?_
      refine lv_aload_n C.2.1 C.2.2.1 d_M_draws_45 rfl (lv_at hl 0 rfl) ?_
      refine lv_iload_n C.2.1 C.2.2.1 d_M_draws_46 rfl (lv_at hl 1 rfl) ?_
      refine lv_iload_n C.2.1 C.2.2.1 d_M_draws_47 rfl (lv_at hl 2 rfl) ?_
      refine lv_iload C.2.1 C.2.2.1 d_M_draws_48 (lv_at hl 7 rfl) ?_
      refine k_M_115 C hw h ⟨Nat.le_of_ble_eq_true rfl, Nat.le_of_ble_eq_true rfl, Nat.le_of_ble_eq_true rfl, Nat.le_of_ble_eq_true rfl⟩ hl.1 (Nat.le_of_ble_eq_true rfl) d_M_draws_50 (fun r13 u14 H locs h hw => ?_)
      refine lv_if_eq (tgt := 60) C.2.1 C.2.2.1 d_M_draws_53 (by decide) (fun c => ?_) (fun c => ?_)
      · have h := h.1 c
        refine lv_iconst (v := (0)) C.2.1 C.2.2.1 d_M_draws_60 (by decide) ?_
        exact w_M_draws_61 C htab hK29 (x1) (x2) (x3) (x5) (x6) (x8) (((0) : Int32)) (x7) _ _ _ _ hw (lv_sub hl [0, 1, 2, 3, 4, 5, 7] rfl) h
      · have h := h.2 c
        refine lv_iconst (v := (1)) C.2.1 C.2.2.1 d_M_draws_56 (by decide) ?_
        refine lv_goto (tgt := 61) C.2.1 C.2.2.1 d_M_draws_57 (by decide) ?_
        exact w_M_draws_61 C htab hK29 (x1) (x2) (x3) (x5) (x6) (x8) (((1) : Int32)) (x7) _ _ _ _ hw (lv_sub hl [0, 1, 2, 3, 4, 5, 7] rfl) h
def q_M_draws_29N : Nat → Int32 → Int32 → Int64 → Int32 → Int32 → Int32 → Int32 → MT → (Int32 → MT → Prop) → Prop
  | 0 => fun _ _ _ _ _ _ _ _ _ => False
  | n + 1 => fun x1 x2 x3 x5 x6 x7 x8 u post => q_M_draws_29 (fun x1 x2 x3 x5 x6 x7 x8 u => q_M_draws_29N n x1 x2 x3 x5 x6 x7 x8 u post) x1 x2 x3 x5 x6 x7 x8 u post
theorem w_M_draws_29N {p : Program} {l : Launch} {e : Env} {s : State} {m : MethodId} {args : Array Value} {below : List Frame} {meth : Method} {c : Code} {Z : ZT} {ad : Nat → Nat} {u0 : MT} {post : Int32 → MT → Prop} (C : CX "CoderTablesModel" b_M_draws 16 (some .int) Z (va_A (cM Z ad u0) s.heap.size) p l s m args meth c) (htab : ∀ x ∈ c.exceptionTable.toList, False) : ∀ (n : Nat) (x1 : Int32) (x2 : Int32) (x3 : Int64) (x5 : Int32) (x6 : Int32) (x7 : Int32) (x8 : Int32) (u : MT) (H : Heap) (locs : List Loc) (ls : Array Slot), WD Z (va_A (cM Z ad u0) s.heap.size) s (cM Z ad u) H locs → lv_has ls 16 [(0, .ref (ad 0)), (1, .int (x1)), (2, .int (x2)), (3, .long (x3)), (5, .int (x5)), (6, .int (x6)), (7, .int (x7)), (8, .int (x8))] → q_M_draws_29N n x1 x2 x3 x5 x6 x7 x8 u post → W p l e rm_M_draws s m args below meth c H locs 0 0 (vx_MQ below (pQi Z (cM Z ad) (cM Z ad u0) s.heap.size post) (pX Z (cM Z ad) (cM Z ad u0) s.heap.size (fun _ _ => False)) args s 0 0 rm_M_draws.cells rm_M_draws.slots (va_A (cM Z ad u0) s.heap.size)) (F0 m 29 ls []) := by
  intro n
  induction n with
  | zero => intro x1 x2 x3 x5 x6 x7 x8 u H locs ls hw hl h; exact h.elim
  | succ n ih => intro x1 x2 x3 x5 x6 x7 x8 u H locs ls hw hl h; exact w_M_draws_29 C htab (fun x1 x2 x3 x5 x6 x7 x8 u H locs ls h hw hl => ih x1 x2 x3 x5 x6 x7 x8 u H locs ls hw hl h) x1 x2 x3 x5 x6 x7 x8 u H locs ls hw hl h
def q_M_draws_21 (x1 : Int32) (x2 : Int32) (x3 : Int64) (x5 : Int32) (z0 : Int32) (u : MT) (post : Int32 → MT → Prop) : Prop :=
  ∃ n, q_M_draws_29N n (x1) (x2) (x3) (x5) (z0) (((0) : Int32)) (((0) : Int32)) (u) post
set_option maxRecDepth 100000 in
theorem w_M_draws_21 {p : Program} {l : Launch} {e : Env} {s : State} {m : MethodId} {args : Array Value} {below : List Frame} {meth : Method} {c : Code} {Z : ZT} {ad : Nat → Nat} {u0 : MT} {post : Int32 → MT → Prop} (C : CX "CoderTablesModel" b_M_draws 16 (some .int) Z (va_A (cM Z ad u0) s.heap.size) p l s m args meth c) (htab : ∀ x ∈ c.exceptionTable.toList, False) (x1 : Int32) (x2 : Int32) (x3 : Int64) (x5 : Int32) (z0 : Int32) (u : MT) (H : Heap) (locs : List Loc) (ls : Array Slot) (hw : WD Z (va_A (cM Z ad u0) s.heap.size) s (cM Z ad u) H locs) (hl : lv_has ls 16 [(0, .ref (ad 0)), (1, .int (x1)), (2, .int (x2)), (3, .long (x3)), (5, .int (x5))]) (h : q_M_draws_21 x1 x2 x3 x5 z0 u post) : W p l e rm_M_draws s m args below meth c H locs 0 0 (vx_MQ below (pQi Z (cM Z ad) (cM Z ad u0) s.heap.size post) (pX Z (cM Z ad) (cM Z ad u0) s.heap.size (fun _ _ => False)) args s 0 0 rm_M_draws.cells rm_M_draws.slots (va_A (cM Z ad u0) s.heap.size)) (F0 m 21 ls [.int (z0)]) := by
  unfold q_M_draws_21 at h
  refine lv_istore (lv' := [(6, .int (z0)), (0, .ref (ad 0)), (1, .int (x1)), (2, .int (x2)), (3, .long (x3)), (5, .int (x5))]) C.2.1 C.2.2.1 d_M_draws_21 hl (by decide) rfl (fun ls hl => ?_)
  refine lv_iconst (v := (0)) C.2.1 C.2.2.1 d_M_draws_23 (by decide) ?_
  refine lv_istore (lv' := [(7, .int (((0) : Int32))), (6, .int (z0)), (0, .ref (ad 0)), (1, .int (x1)), (2, .int (x2)), (3, .long (x3)), (5, .int (x5))]) C.2.1 C.2.2.1 d_M_draws_24 hl (by decide) rfl (fun ls hl => ?_)
  refine lv_iconst (v := (0)) C.2.1 C.2.2.1 d_M_draws_26 (by decide) ?_
  refine lv_istore (lv' := [(8, .int (((0) : Int32))), (7, .int (((0) : Int32))), (6, .int (z0)), (0, .ref (ad 0)), (1, .int (x1)), (2, .int (x2)), (3, .long (x3)), (5, .int (x5))]) C.2.1 C.2.2.1 d_M_draws_27 hl (by decide) rfl (fun ls hl => ?_)
  obtain ⟨n, h⟩ := h
  exact w_M_draws_29N C htab n (x1) (x2) (x3) (x5) (z0) (((0) : Int32)) (((0) : Int32)) _ _ _ _ hw (lv_sub hl [3, 4, 5, 6, 7, 2, 1, 0] rfl) h
def q_M_draws_16 (x1 : Int32) (x2 : Int32) (x3 : Int64) (x5 : Int32) (u : MT) (post : Int32 → MT → Prop) : Prop :=
  q_M_draws_21 (x1) (x2) (x3) (x5) (((1) : Int32)) (u) post
set_option maxRecDepth 100000 in
theorem w_M_draws_16 {p : Program} {l : Launch} {e : Env} {s : State} {m : MethodId} {args : Array Value} {below : List Frame} {meth : Method} {c : Code} {Z : ZT} {ad : Nat → Nat} {u0 : MT} {post : Int32 → MT → Prop} (C : CX "CoderTablesModel" b_M_draws 16 (some .int) Z (va_A (cM Z ad u0) s.heap.size) p l s m args meth c) (htab : ∀ x ∈ c.exceptionTable.toList, False) (x1 : Int32) (x2 : Int32) (x3 : Int64) (x5 : Int32) (u : MT) (H : Heap) (locs : List Loc) (ls : Array Slot) (hw : WD Z (va_A (cM Z ad u0) s.heap.size) s (cM Z ad u) H locs) (hl : lv_has ls 16 [(0, .ref (ad 0)), (1, .int (x1)), (2, .int (x2)), (3, .long (x3)), (5, .int (x5))]) (h : q_M_draws_16 x1 x2 x3 x5 u post) : W p l e rm_M_draws s m args below meth c H locs 0 0 (vx_MQ below (pQi Z (cM Z ad) (cM Z ad u0) s.heap.size post) (pX Z (cM Z ad) (cM Z ad u0) s.heap.size (fun _ _ => False)) args s 0 0 rm_M_draws.cells rm_M_draws.slots (va_A (cM Z ad u0) s.heap.size)) (F0 m 16 ls []) := by
  unfold q_M_draws_16 at h
  refine lv_iconst (v := (1)) C.2.1 C.2.2.1 d_M_draws_16 (by decide) ?_
  refine lv_goto (tgt := 21) C.2.1 C.2.2.1 d_M_draws_17 (by decide) ?_
  exact w_M_draws_21 C htab (x1) (x2) (x3) (x5) (((1) : Int32)) _ _ _ _ hw (lv_sub hl [0, 1, 2, 3, 4] rfl) h
def q_M_draws (p1 : Int32) (p2 : Int32) (p3 : Int64) (p5 : Int32) (u : MT) (post : Int32 → MT → Prop) : Prop :=
  q_M_noCoder (p1) (u) (fun r15 u16 => ((¬ (r15) = 0 → q_M_draws_16 (p1) (p2) (p3) (p5) (u16) post) ∧ ((r15) = 0 → q_M_noCoder (p2) (u16) (fun r17 u18 => (((r17) = 0 → q_M_draws_21 (p1) (p2) (p3) (p5) (((0) : Int32)) (u18) post) ∧ (¬ (r17) = 0 → q_M_draws_16 (p1) (p2) (p3) (p5) (u18) post))))))
set_option maxRecDepth 100000 in
theorem c_M_draws {l : Launch} {Z : ZT} {ad : Nat → Nat} {u : MT} {post : Int32 → MT → Prop} {p1 : Int32} {p2 : Int32} {p3 : Int64} {p5 : Int32} (hl0 : l.stackTraces = false) (h : q_M_draws p1 p2 p3 p5 u post) : ∀ sz, vx_Met l y_M_draws (Cond.code y_M_draws b_M_draws 16 (some .int) :: GW) rm_M_draws (pP Z [.ref (ad 0), .int (p1), .int (p2), .long (p3), .int (p5)] (cM Z ad u) sz) (pQi Z (cM Z ad) (cM Z ad u) sz post) (pX Z (cM Z ad) (cM Z ad u) sz (fun _ _ => False)) 0 0 rm_M_draws.cells rm_M_draws.slots (va_A (cM Z ad u) sz) := by
  refine g_ent (f := cM Z ad) (Qc := fun sz => pQi Z (cM Z ad) (cM Z ad u) sz post) (XC := fun sz => pX Z (cM Z ad) (cM Z ad u) sz (fun _ _ => False)) hl0 (by decide +kernel) (Nat.le_of_ble_eq_true rfl) ?_
  intro p e s m args below meth c ls C htab hw hl
  have hl : lv_has ls 16 [(0, .ref (ad 0)), (1, .int (p1)), (2, .int (p2)), (3, .long (p3)), (5, .int (p5))] := hl
  unfold q_M_draws at h
  refine lv_aload_n C.2.1 C.2.2.1 d_M_draws_0 rfl (lv_at hl 0 rfl) ?_
  refine lv_iload_n C.2.1 C.2.2.1 d_M_draws_1 rfl (lv_at hl 1 rfl) ?_
  refine k_M_43 C hw h ⟨Nat.le_of_ble_eq_true rfl, Nat.le_of_ble_eq_true rfl, Nat.le_of_ble_eq_true rfl, Nat.le_of_ble_eq_true rfl⟩ hl.1 (Nat.le_of_ble_eq_true rfl) d_M_draws_2 (fun r15 u16 H locs h hw => ?_)
  refine lv_if_ne (tgt := 16) C.2.1 C.2.2.1 d_M_draws_5 (by decide) (fun c => ?_) (fun c => ?_)
  · have h := h.1 c
    exact w_M_draws_16 C htab (p1) (p2) (p3) (p5) _ _ _ _ hw (lv_sub hl [0, 1, 2, 3, 4] rfl) h
  · have h := h.2 c
    refine lv_aload_n C.2.1 C.2.2.1 d_M_draws_8 rfl (lv_at hl 0 rfl) ?_
    refine lv_iload_n C.2.1 C.2.2.1 d_M_draws_9 rfl (lv_at hl 2 rfl) ?_
    refine k_M_43 C hw h ⟨Nat.le_of_ble_eq_true rfl, Nat.le_of_ble_eq_true rfl, Nat.le_of_ble_eq_true rfl, Nat.le_of_ble_eq_true rfl⟩ hl.1 (Nat.le_of_ble_eq_true rfl) d_M_draws_10 (fun r17 u18 H locs h hw => ?_)
    refine lv_if_eq (tgt := 20) C.2.1 C.2.2.1 d_M_draws_13 (by decide) (fun c => ?_) (fun c => ?_)
    · have h := h.1 c
      refine lv_iconst (v := (0)) C.2.1 C.2.2.1 d_M_draws_20 (by decide) ?_
      exact w_M_draws_21 C htab (p1) (p2) (p3) (p5) (((0) : Int32)) _ _ _ _ hw (lv_sub hl [0, 1, 2, 3, 4] rfl) h
    · have h := h.2 c
      exact w_M_draws_16 C htab (p1) (p2) (p3) (p5) _ _ _ _ hw (lv_sub hl [0, 1, 2, 3, 4] rfl) h
