/-! CoderTables.isBetterStep(III)Z -/
abbrev rm_X_isBetterStep : Room := { frames := 1, cells := 0, slots := 0, locals := 23 }
def q_X_isBetterStep (p1 : Int32) (p2 : Int32) (p3 : Int32) (u : CT) (post : Int32 → CT → Prop) : Prop :=
  q_X_growthTo (p1) (p2) (u) (fun r1 u2 => q_X_growthTo (p1) (p3) (u2) (fun r3 u4 => q_X_fallTo (p1) (p2) (u4) (fun r5 u6 => q_X_fallTo (p1) (p3) (u6) (fun r7 u8 => q_J_compare ((r5) * (r3)) ((r7) * (r1)) (u8) (fun r9 u10 => ((0 < (r9) → (narrow .boolean (.int (((1) : Int32))) = .int (((1) : Int32)) ∧ post (((1) : Int32)) (u10))) ∧ (¬ 0 < (r9) → ((¬ (r9) = 0 → (narrow .boolean (.int (((0) : Int32))) = .int (((0) : Int32)) ∧ post (((0) : Int32)) (u10))) ∧ ((r9) = 0 → (((lg_cmp (r1) (r3)) ≤ 0 → (narrow .boolean (.int (((0) : Int32))) = .int (((0) : Int32)) ∧ post (((0) : Int32)) (u10))) ∧ (¬ (lg_cmp (r1) (r3)) ≤ 0 → (narrow .boolean (.int (((1) : Int32))) = .int (((1) : Int32)) ∧ post (((1) : Int32)) (u10)))))))))))))
set_option maxRecDepth 100000 in
theorem c_X_isBetterStep {l : Launch} {Z : ZT} {ad : Nat → Nat} {u : CT} {post : Int32 → CT → Prop} {p1 : Int32} {p2 : Int32} {p3 : Int32} (hl0 : l.stackTraces = false) (h : q_X_isBetterStep p1 p2 p3 u post) : ∀ sz, vx_Met l y_X_isBetterStep (Cond.code y_X_isBetterStep b_X_isBetterStep 9 (some .boolean) :: GW) rm_X_isBetterStep (pP Z [.ref (ad 0), .int (p1), .int (p2), .int (p3)] (cX Z ad u) sz) (pQi Z (cX Z ad) (cX Z ad u) sz post) (pX Z (cX Z ad) (cX Z ad u) sz (fun _ _ => False)) 0 0 rm_X_isBetterStep.cells rm_X_isBetterStep.slots (va_A (cX Z ad u) sz) := by
  refine g_ent (f := cX Z ad) (Qc := fun sz => pQi Z (cX Z ad) (cX Z ad u) sz post) (XC := fun sz => pX Z (cX Z ad) (cX Z ad u) sz (fun _ _ => False)) hl0 (by decide +kernel) (Nat.le_of_ble_eq_true rfl) ?_
  intro p e s m args below meth c ls C htab hw hl
  have hl : lv_has ls 9 [(0, .ref (ad 0)), (1, .int (p1)), (2, .int (p2)), (3, .int (p3))] := hl
  unfold q_X_isBetterStep at h
  refine lv_aload_n C.2.1 C.2.2.1 d_X_isBetterStep_0 rfl (lv_at hl 0 rfl) ?_
  refine lv_iload_n C.2.1 C.2.2.1 d_X_isBetterStep_1 rfl (lv_at hl 1 rfl) ?_
  refine lv_iload_n C.2.1 C.2.2.1 d_X_isBetterStep_2 rfl (lv_at hl 2 rfl) ?_
  refine k_X_150 C hw h ⟨Nat.le_of_ble_eq_true rfl, Nat.le_of_ble_eq_true rfl, Nat.le_of_ble_eq_true rfl, Nat.le_of_ble_eq_true rfl⟩ hl.1 (Nat.le_of_ble_eq_true rfl) d_X_isBetterStep_3 (fun r1 u2 H locs h hw => ?_)
  refine lv_lstore (lv' := [(4, .long (r1)), (0, .ref (ad 0)), (1, .int (p1)), (2, .int (p2)), (3, .int (p3))]) C.2.1 C.2.2.1 d_X_isBetterStep_6 hl (by decide) rfl (fun ls hl => ?_)
  refine lv_aload_n C.2.1 C.2.2.1 d_X_isBetterStep_8 rfl (lv_at hl 1 rfl) ?_
  refine lv_iload_n C.2.1 C.2.2.1 d_X_isBetterStep_9 rfl (lv_at hl 2 rfl) ?_
  refine lv_iload_n C.2.1 C.2.2.1 d_X_isBetterStep_10 rfl (lv_at hl 4 rfl) ?_
  refine k_X_150 C hw h ⟨Nat.le_of_ble_eq_true rfl, Nat.le_of_ble_eq_true rfl, Nat.le_of_ble_eq_true rfl, Nat.le_of_ble_eq_true rfl⟩ hl.1 (Nat.le_of_ble_eq_true rfl) d_X_isBetterStep_11 (fun r3 u4 H locs h hw => ?_)
  refine lv_lstore (lv' := [(6, .long (r3)), (4, .long (r1)), (0, .ref (ad 0)), (1, .int (p1)), (2, .int (p2)), (3, .int (p3))]) C.2.1 C.2.2.1 d_X_isBetterStep_14 hl (by decide) rfl (fun ls hl => ?_)
  refine lv_aload_n C.2.1 C.2.2.1 d_X_isBetterStep_16 rfl (lv_at hl 2 rfl) ?_
  refine lv_iload_n C.2.1 C.2.2.1 d_X_isBetterStep_17 rfl (lv_at hl 3 rfl) ?_
  refine lv_iload_n C.2.1 C.2.2.1 d_X_isBetterStep_18 rfl (lv_at hl 4 rfl) ?_
  refine k_X_146 C hw h ⟨Nat.le_of_ble_eq_true rfl, Nat.le_of_ble_eq_true rfl, Nat.le_of_ble_eq_true rfl, Nat.le_of_ble_eq_true rfl⟩ hl.1 (Nat.le_of_ble_eq_true rfl) d_X_isBetterStep_19 (fun r5 u6 H locs h hw => ?_)
  refine lv_lload C.2.1 C.2.2.1 d_X_isBetterStep_22 (lv_at hl 0 rfl) ?_
  refine lv_lmul C.2.1 C.2.2.1 d_X_isBetterStep_24 ?_
  refine lv_aload_n C.2.1 C.2.2.1 d_X_isBetterStep_25 rfl (lv_at hl 2 rfl) ?_
  refine lv_iload_n C.2.1 C.2.2.1 d_X_isBetterStep_26 rfl (lv_at hl 3 rfl) ?_
  refine lv_iload_n C.2.1 C.2.2.1 d_X_isBetterStep_27 rfl (lv_at hl 5 rfl) ?_
  refine k_X_146 C hw h ⟨Nat.le_of_ble_eq_true rfl, Nat.le_of_ble_eq_true rfl, Nat.le_of_ble_eq_true rfl, Nat.le_of_ble_eq_true rfl⟩ hl.1 (Nat.le_of_ble_eq_true rfl) d_X_isBetterStep_28 (fun r7 u8 H locs h hw => ?_)
  refine lv_lload C.2.1 C.2.2.1 d_X_isBetterStep_31 (lv_at hl 1 rfl) ?_
  refine lv_lmul C.2.1 C.2.2.1 d_X_isBetterStep_33 ?_
  refine k_X_228 C hw h ⟨Nat.le_of_ble_eq_true rfl, Nat.le_of_ble_eq_true rfl, Nat.le_of_ble_eq_true rfl, Nat.le_of_ble_eq_true rfl⟩ hl.1 (Nat.le_of_ble_eq_true rfl) d_X_isBetterStep_34 (fun r9 u10 H locs h hw => ?_)
  refine lv_istore (lv' := [(8, .int (r9)), (6, .long (r3)), (4, .long (r1)), (0, .ref (ad 0)), (1, .int (p1)), (2, .int (p2)), (3, .int (p3))]) C.2.1 C.2.2.1 d_X_isBetterStep_37 hl (by decide) rfl (fun ls hl => ?_)
  refine lv_iload C.2.1 C.2.2.1 d_X_isBetterStep_39 (lv_at hl 0 rfl) ?_
  refine lv_if_gt (tgt := 57) C.2.1 C.2.2.1 d_X_isBetterStep_41 (by decide) (fun c => ?_) (fun c => ?_)
  · have h := h.1 c
    refine lv_iconst (v := (1)) C.2.1 C.2.2.1 d_X_isBetterStep_57 (by decide) ?_
    refine lv_goto (tgt := 62) C.2.1 C.2.2.1 d_X_isBetterStep_58 (by decide) ?_
    exact g_iret C hw h.1 h.2 d_X_isBetterStep_62
  · have h := h.2 c
    refine lv_iload C.2.1 C.2.2.1 d_X_isBetterStep_44 (lv_at hl 0 rfl) ?_
    refine lv_if_ne (tgt := 61) C.2.1 C.2.2.1 d_X_isBetterStep_46 (by decide) (fun c => ?_) (fun c => ?_)
    · have h := h.1 c
      refine lv_iconst (v := (0)) C.2.1 C.2.2.1 d_X_isBetterStep_61 (by decide) ?_
      exact g_iret C hw h.1 h.2 d_X_isBetterStep_62
    · have h := h.2 c
      refine lv_lload C.2.1 C.2.2.1 d_X_isBetterStep_49 (lv_at hl 2 rfl) ?_
      refine lv_lload C.2.1 C.2.2.1 d_X_isBetterStep_51 (lv_at hl 1 rfl) ?_
      refine W.lcmp C.2.1 C.2.2.1 d_X_isBetterStep_53 ?_
      refine lv_if_le (tgt := 61) C.2.1 C.2.2.1 d_X_isBetterStep_54 (by decide) (fun c => ?_) (fun c => ?_)
      · have h := h.1 c
        refine lv_iconst (v := (0)) C.2.1 C.2.2.1 d_X_isBetterStep_61 (by decide) ?_
        exact g_iret C hw h.1 h.2 d_X_isBetterStep_62
      · have h := h.2 c
        refine lv_iconst (v := (1)) C.2.1 C.2.2.1 d_X_isBetterStep_57 (by decide) ?_
        refine lv_goto (tgt := 62) C.2.1 C.2.2.1 d_X_isBetterStep_58 (by decide) ?_
        exact g_iret C hw h.1 h.2 d_X_isBetterStep_62
section KR
variable {own host : String} {cc bytes : ByteArray} {nL maxL index n : Nat} {rt0 rt : Option FieldType} {Z : ZT} {ad : Nat → Nat} {A : Nat → Prop}
variable {p : Program} {l : Launch} {e : Env} {R : Room} {s : State} {m : MethodId} {args : Array Value} {below : List Frame} {meth : Method} {c : Code} {H : Heap} {locs : List Loc} {cells slots : Nat} {Q : State → Prop} {rest : List Value} {pc : Nat} {ls : Array Slot}
theorem k_X_244 {u : CT} {p1 : Int32} {p2 : Int32} {p3 : Int32} {post : Int32 → CT → Prop} (C : CX "CoderTables" cc nL rt0 Z A p l s m args meth c) (hw : WD Z A s (cX Z ad u) H locs) (h : q_X_isBetterStep p1 p2 p3 u post) (hR : rmOk rm_X_isBetterStep 9 R cells slots) (hl : ls.size = nL) (hW : (rest.map fun v => v.category).sum ≤ 8) (hdg : decode cc pc = .ok (.invokevirtual 244, 3)) (kk : ∀ (r : Int32) (u' : CT) (H1 : Heap) (locs1 : List Loc), post r u' → WD Z A s (cX Z ad u') H1 locs1 → W p l e R s m args below meth c H1 locs1 cells slots Q (F0 m (pc + 3) ls (.int r :: rest))) : W p l e R s m args below meth c H locs cells slots Q (F0 m pc ls (.int (p3) :: .int (p2) :: .int (p1) :: .ref (ad 0) :: rest)) :=
  g_V0_i (n := 3) (f := cX Z ad) (As := [.int (p1), .int (p2), .int (p3)]) C hw (c_X_isBetterStep C.1 h) ⟨w481, w483, w27, w53, w484, (by decide +kernel), (by decide +kernel), (by decide +kernel)⟩ hR 0 rfl rfl rfl hl rfl hW hdg (fun _ _ _ _ _ _ h => h.elim) kk
end KR
/-! CoderTables.steepestFrom(II)I -/
abbrev rm_X_steepestFrom : Room := { frames := 2, cells := 0, slots := 0, locals := 51 }
def q_X_steepestFrom_69 (K12 : Int32 → Int32 → Int32 → Int32 → Int32 → CT → Prop) (x1 : Int32) (x2 : Int32) (x3 : Int32) (x4 : Int32) (x5 : Int32) (u : CT) (post : Int32 → CT → Prop) : Prop :=
  K12 (x1) (x2) (x3) (x4) ((x5) + 1) (u)
set_option maxRecDepth 100000 in
theorem w_X_steepestFrom_69 {p : Program} {l : Launch} {e : Env} {s : State} {m : MethodId} {args : Array Value} {below : List Frame} {meth : Method} {c : Code} {Z : ZT} {ad : Nat → Nat} {u0 : CT} {post : Int32 → CT → Prop} {K12 : Int32 → Int32 → Int32 → Int32 → Int32 → CT → Prop} (C : CX "CoderTables" b_X_steepestFrom 6 (some .int) Z (va_A (cX Z ad u0) s.heap.size) p l s m args meth c) (htab : ∀ x ∈ c.exceptionTable.toList, False) (hK12 : ∀ (x1 : Int32) (x2 : Int32) (x3 : Int32) (x4 : Int32) (x5 : Int32) (u : CT) (H : Heap) (locs : List Loc) (ls : Array Slot), K12 x1 x2 x3 x4 x5 u → WD Z (va_A (cX Z ad u0) s.heap.size) s (cX Z ad u) H locs → lv_has ls 6 [(0, .ref (ad 0)), (1, .int (x1)), (2, .int (x2)), (3, .int (x3)), (4, .int (x4)), (5, .int (x5))] → W p l e rm_X_steepestFrom s m args below meth c H locs 0 0 (vx_MQ below (pQi Z (cX Z ad) (cX Z ad u0) s.heap.size post) (pX Z (cX Z ad) (cX Z ad u0) s.heap.size (fun _ _ => False)) args s 0 0 rm_X_steepestFrom.cells rm_X_steepestFrom.slots (va_A (cX Z ad u0) s.heap.size)) (F0 m 12 ls [])) (x1 : Int32) (x2 : Int32) (x3 : Int32) (x4 : Int32) (x5 : Int32) (u : CT) (H : Heap) (locs : List Loc) (ls : Array Slot) (hw : WD Z (va_A (cX Z ad u0) s.heap.size) s (cX Z ad u) H locs) (hl : lv_has ls 6 [(0, .ref (ad 0)), (1, .int (x1)), (2, .int (x2)), (3, .int (x3)), (4, .int (x4)), (5, .int (x5))]) (h : q_X_steepestFrom_69 K12 x1 x2 x3 x4 x5 u post) : W p l e rm_X_steepestFrom s m args below meth c H locs 0 0 (vx_MQ below (pQi Z (cX Z ad) (cX Z ad u0) s.heap.size post) (pX Z (cX Z ad) (cX Z ad u0) s.heap.size (fun _ _ => False)) args s 0 0 rm_X_steepestFrom.cells rm_X_steepestFrom.slots (va_A (cX Z ad u0) s.heap.size)) (F0 m 69 ls []) := by
  unfold q_X_steepestFrom_69 at h
  refine lv_iinc (v := (x5) + 1) (lv' := [(5, .int ((x5) + 1)), (0, .ref (ad 0)), (1, .int (x1)), (2, .int (x2)), (3, .int (x3)), (4, .int (x4))]) C.2.1 C.2.2.1 d_X_steepestFrom_69 hl (k := 5) rfl rfl (by decide) rfl (fun ls hl => ?_)
  refine lv_goto (tgt := 12) C.2.1 C.2.2.1 d_X_steepestFrom_72 (by decide) ?_
  exact hK12 (x1) (x2) (x3) (x4) ((x5) + 1) _ _ _ _ h hw (lv_sub hl [1, 2, 3, 4, 5, 0] rfl)
def q_X_steepestFrom_66 (K12 : Int32 → Int32 → Int32 → Int32 → Int32 → CT → Prop) (x1 : Int32) (x2 : Int32) (x4 : Int32) (x5 : Int32) (u : CT) (post : Int32 → CT → Prop) : Prop :=
  q_X_steepestFrom_69 K12 (x1) (x2) (x5) (x4) (x5) (u) post
set_option maxRecDepth 100000 in
theorem w_X_steepestFrom_66 {p : Program} {l : Launch} {e : Env} {s : State} {m : MethodId} {args : Array Value} {below : List Frame} {meth : Method} {c : Code} {Z : ZT} {ad : Nat → Nat} {u0 : CT} {post : Int32 → CT → Prop} {K12 : Int32 → Int32 → Int32 → Int32 → Int32 → CT → Prop} (C : CX "CoderTables" b_X_steepestFrom 6 (some .int) Z (va_A (cX Z ad u0) s.heap.size) p l s m args meth c) (htab : ∀ x ∈ c.exceptionTable.toList, False) (hK12 : ∀ (x1 : Int32) (x2 : Int32) (x3 : Int32) (x4 : Int32) (x5 : Int32) (u : CT) (H : Heap) (locs : List Loc) (ls : Array Slot), K12 x1 x2 x3 x4 x5 u → WD Z (va_A (cX Z ad u0) s.heap.size) s (cX Z ad u) H locs → lv_has ls 6 [(0, .ref (ad 0)), (1, .int (x1)), (2, .int (x2)), (3, .int (x3)), (4, .int (x4)), (5, .int (x5))] → W p l e rm_X_steepestFrom s m args below meth c H locs 0 0 (vx_MQ below (pQi Z (cX Z ad) (cX Z ad u0) s.heap.size post) (pX Z (cX Z ad) (cX Z ad u0) s.heap.size (fun _ _ => False)) args s 0 0 rm_X_steepestFrom.cells rm_X_steepestFrom.slots (va_A (cX Z ad u0) s.heap.size)) (F0 m 12 ls [])) (x1 : Int32) (x2 : Int32) (x4 : Int32) (x5 : Int32) (u : CT) (H : Heap) (locs : List Loc) (ls : Array Slot) (hw : WD Z (va_A (cX Z ad u0) s.heap.size) s (cX Z ad u) H locs) (hl : lv_has ls 6 [(0, .ref (ad 0)), (1, .int (x1)), (2, .int (x2)), (4, .int (x4)), (5, .int (x5))]) (h : q_X_steepestFrom_66 K12 x1 x2 x4 x5 u post) : W p l e rm_X_steepestFrom s m args below meth c H locs 0 0 (vx_MQ below (pQi Z (cX Z ad) (cX Z ad u0) s.heap.size post) (pX Z (cX Z ad) (cX Z ad u0) s.heap.size (fun _ _ => False)) args s 0 0 rm_X_steepestFrom.cells rm_X_steepestFrom.slots (va_A (cX Z ad u0) s.heap.size)) (F0 m 66 ls []) := by
  unfold q_X_steepestFrom_66 at h
  refine lv_iload C.2.1 C.2.2.1 d_X_steepestFrom_66 (lv_at hl 4 rfl) ?_
  refine lv_istore_n (lv' := [(3, .int (x5)), (0, .ref (ad 0)), (1, .int (x1)), (2, .int (x2)), (4, .int (x4)), (5, .int (x5))]) C.2.1 C.2.2.1 d_X_steepestFrom_68 rfl hl (by decide) rfl (fun ls hl => ?_)
  exact w_X_steepestFrom_69 C htab hK12 (x1) (x2) (x5) (x4) (x5) _ _ _ _ hw (lv_sub hl [1, 2, 3, 0, 4, 5] rfl) h
def q_X_steepestFrom_12 (K12 : Int32 → Int32 → Int32 → Int32 → Int32 → CT → Prop) (x1 : Int32) (x2 : Int32) (x3 : Int32) (x4 : Int32) (x5 : Int32) (u : CT) (post : Int32 → CT → Prop) : Prop :=
  (vp_in (x1) 192 ∧ ((((x4) + (x_pointCounts (u) (x1).toNatClampNeg)) ≤ (x5) → post (x3) (u)) ∧ (¬ ((x4) + (x_pointCounts (u) (x1).toNatClampNeg)) ≤ (x5) → q_X_growthTo (x2) (x5) (u) (fun r1 u2 => (((lg_cmp (r1) ((0 : Int64))) ≤ 0 → q_X_steepestFrom_69 K12 (x1) (x2) (x3) (x4) (x5) (u2) post) ∧ (¬ (lg_cmp (r1) ((0 : Int64))) ≤ 0 → q_X_fallTo (x2) (x5) (u2) (fun r3 u4 => (((lg_cmp (r3) ((0 : Int64))) ≤ 0 → q_X_steepestFrom_69 K12 (x1) (x2) (x3) (x4) (x5) (u4) post) ∧ (¬ (lg_cmp (r3) ((0 : Int64))) ≤ 0 → (((x3) = (((-1) : Int32)) → q_X_steepestFrom_66 K12 (x1) (x2) (x4) (x5) (u4) post) ∧ (¬ (x3) = (((-1) : Int32)) → q_X_isBetterStep (x2) (x5) (x3) (u4) (fun r5 u6 => (((r5) = 0 → q_X_steepestFrom_69 K12 (x1) (x2) (x3) (x4) (x5) (u6) post) ∧ (¬ (r5) = 0 → q_X_steepestFrom_66 K12 (x1) (x2) (x4) (x5) (u6) post))))))))))))))
set_option maxRecDepth 100000 in
theorem w_X_steepestFrom_12 {p : Program} {l : Launch} {e : Env} {s : State} {m : MethodId} {args : Array Value} {below : List Frame} {meth : Method} {c : Code} {Z : ZT} {ad : Nat → Nat} {u0 : CT} {post : Int32 → CT → Prop} {K12 : Int32 → Int32 → Int32 → Int32 → Int32 → CT → Prop} (C : CX "CoderTables" b_X_steepestFrom 6 (some .int) Z (va_A (cX Z ad u0) s.heap.size) p l s m args meth c) (htab : ∀ x ∈ c.exceptionTable.toList, False) (hK12 : ∀ (x1 : Int32) (x2 : Int32) (x3 : Int32) (x4 : Int32) (x5 : Int32) (u : CT) (H : Heap) (locs : List Loc) (ls : Array Slot), K12 x1 x2 x3 x4 x5 u → WD Z (va_A (cX Z ad u0) s.heap.size) s (cX Z ad u) H locs → lv_has ls 6 [(0, .ref (ad 0)), (1, .int (x1)), (2, .int (x2)), (3, .int (x3)), (4, .int (x4)), (5, .int (x5))] → W p l e rm_X_steepestFrom s m args below meth c H locs 0 0 (vx_MQ below (pQi Z (cX Z ad) (cX Z ad u0) s.heap.size post) (pX Z (cX Z ad) (cX Z ad u0) s.heap.size (fun _ _ => False)) args s 0 0 rm_X_steepestFrom.cells rm_X_steepestFrom.slots (va_A (cX Z ad u0) s.heap.size)) (F0 m 12 ls [])) (x1 : Int32) (x2 : Int32) (x3 : Int32) (x4 : Int32) (x5 : Int32) (u : CT) (H : Heap) (locs : List Loc) (ls : Array Slot) (hw : WD Z (va_A (cX Z ad u0) s.heap.size) s (cX Z ad u) H locs) (hl : lv_has ls 6 [(0, .ref (ad 0)), (1, .int (x1)), (2, .int (x2)), (3, .int (x3)), (4, .int (x4)), (5, .int (x5))]) (h : q_X_steepestFrom_12 K12 x1 x2 x3 x4 x5 u post) : W p l e rm_X_steepestFrom s m args below meth c H locs 0 0 (vx_MQ below (pQi Z (cX Z ad) (cX Z ad u0) s.heap.size post) (pX Z (cX Z ad) (cX Z ad u0) s.heap.size (fun _ _ => False)) args s 0 0 rm_X_steepestFrom.cells rm_X_steepestFrom.slots (va_A (cX Z ad u0) s.heap.size)) (F0 m 12 ls []) := by
  unfold q_X_steepestFrom_12 at h
  refine lv_iload C.2.1 C.2.2.1 d_X_steepestFrom_12 (lv_at hl 5 rfl) ?_
  refine lv_iload C.2.1 C.2.2.1 d_X_steepestFrom_14 (lv_at hl 4 rfl) ?_
  refine lv_aload_n C.2.1 C.2.2.1 d_X_steepestFrom_16 rfl (lv_at hl 0 rfl) ?_
  refine r_X_16 C hw d_X_steepestFrom_17 ?_
  refine lv_iload_n C.2.1 C.2.2.1 d_X_steepestFrom_20 rfl (lv_at hl 1 rfl) ?_
  obtain ⟨hi, h⟩ := h
  refine al_X_1 C hw hi d_X_steepestFrom_21 ?_
  refine lv_iadd C.2.1 C.2.2.1 d_X_steepestFrom_22 ?_
  refine lv_icmp_ge (tgt := 75) C.2.1 C.2.2.1 d_X_steepestFrom_23 (by decide) (fun c => ?_) (fun c => ?_)
  · have h := h.1 c
    refine lv_iload_n C.2.1 C.2.2.1 d_X_steepestFrom_75 rfl (lv_at hl 3 rfl) ?_
    exact g_iret C hw rfl h d_X_steepestFrom_76
  · have h := h.2 c
    refine lv_aload_n C.2.1 C.2.2.1 d_X_steepestFrom_26 rfl (lv_at hl 0 rfl) ?_
    refine lv_iload_n C.2.1 C.2.2.1 d_X_steepestFrom_27 rfl (lv_at hl 2 rfl) ?_
    refine lv_iload C.2.1 C.2.2.1 d_X_steepestFrom_28 (lv_at hl 5 rfl) ?_
    refine k_X_150 C hw h ⟨Nat.le_of_ble_eq_true rfl, Nat.le_of_ble_eq_true rfl, Nat.le_of_ble_eq_true rfl, Nat.le_of_ble_eq_true rfl⟩ hl.1 (Nat.le_of_ble_eq_true rfl) d_X_steepestFrom_30 (fun r1 u2 H locs h hw => ?_)
    refine lv_lconst (v := 0) C.2.1 C.2.2.1 d_X_steepestFrom_33 (by decide) ?_
    refine W.lcmp C.2.1 C.2.2.1 d_X_steepestFrom_34 ?_
    refine lv_if_le (tgt := 69) C.2.1 C.2.2.1 d_X_steepestFrom_35 (by decide) (fun c => ?_) (fun c => ?_)
    · have h := h.1 c
      exact w_X_steepestFrom_69 C htab hK12 (x1) (x2) (x3) (x4) (x5) _ _ _ _ hw (lv_sub hl [0, 1, 2, 3, 4, 5] rfl) h
    · have h := h.2 c
      refine lv_aload_n C.2.1 C.2.2.1 d_X_steepestFrom_38 rfl (lv_at hl 0 rfl) ?_
      refine lv_iload_n C.2.1 C.2.2.1 d_X_steepestFrom_39 rfl (lv_at hl 2 rfl) ?_
      refine lv_iload C.2.1 C.2.2.1 d_X_steepestFrom_40 (lv_at hl 5 rfl) ?_
      refine k_X_146 C hw h ⟨Nat.le_of_ble_eq_true rfl, Nat.le_of_ble_eq_true rfl, Nat.le_of_ble_eq_true rfl, Nat.le_of_ble_eq_true rfl⟩ hl.1 (Nat.le_of_ble_eq_true rfl) d_X_steepestFrom_42 (fun r3 u4 H locs h hw => ?_)
      refine lv_lconst (v := 0) C.2.1 C.2.2.1 d_X_steepestFrom_45 (by decide) ?_
      refine W.lcmp C.2.1 C.2.2.1 d_X_steepestFrom_46 ?_
      refine lv_if_le (tgt := 69) C.2.1 C.2.2.1 d_X_steepestFrom_47 (by decide) (fun c => ?_) (fun c => ?_)
      · have h := h.1 c
        exact w_X_steepestFrom_69 C htab hK12 (x1) (x2) (x3) (x4) (x5) _ _ _ _ hw (lv_sub hl [0, 1, 2, 3, 4, 5] rfl) h
      · have h := h.2 c
        refine lv_iload_n C.2.1 C.2.2.1 d_X_steepestFrom_50 rfl (lv_at hl 3 rfl) ?_
        refine lv_iconst (v := (-1)) C.2.1 C.2.2.1 d_X_steepestFrom_51 (by decide) ?_
        refine lv_icmp_eq (tgt := 66) C.2.1 C.2.2.1 d_X_steepestFrom_52 (by decide) (fun c => ?_) (fun c => ?_)
        · have h := h.1 c
          exact w_X_steepestFrom_66 C htab hK12 (x1) (x2) (x4) (x5) _ _ _ _ hw (lv_sub hl [0, 1, 2, 4, 5] rfl) h
        · have h := h.2 c
          refine lv_aload_n C.2.1 C.2.2.1 d_X_steepestFrom_55 rfl (lv_at hl 0 rfl) ?_
          refine lv_iload_n C.2.1 C.2.2.1 d_X_steepestFrom_56 rfl (lv_at hl 2 rfl) ?_
          refine lv_iload C.2.1 C.2.2.1 d_X_steepestFrom_57 (lv_at hl 5 rfl) ?_
          refine lv_iload_n C.2.1 C.2.2.1 d_X_steepestFrom_59 rfl (lv_at hl 3 rfl) ?_
          refine k_X_244 C hw h ⟨Nat.le_of_ble_eq_true rfl, Nat.le_of_ble_eq_true rfl, Nat.le_of_ble_eq_true rfl, Nat.le_of_ble_eq_true rfl⟩ hl.1 (Nat.le_of_ble_eq_true rfl) d_X_steepestFrom_60 (fun r5 u6 H locs h hw => ?_)
          refine lv_if_eq (tgt := 69) C.2.1 C.2.2.1 d_X_steepestFrom_63 (by decide) (fun c => ?_) (fun c => ?_)
          · have h := h.1 c
            exact w_X_steepestFrom_69 C htab hK12 (x1) (x2) (x3) (x4) (x5) _ _ _ _ hw (lv_sub hl [0, 1, 2, 3, 4, 5] rfl) h
          · have h := h.2 c
            exact w_X_steepestFrom_66 C htab hK12 (x1) (x2) (x4) (x5) _ _ _ _ hw (lv_sub hl [0, 1, 2, 4, 5] rfl) h
def q_X_steepestFrom_12N : Nat → Int32 → Int32 → Int32 → Int32 → Int32 → CT → (Int32 → CT → Prop) → Prop
  | 0 => fun _ _ _ _ _ _ _ => False
  | n + 1 => fun x1 x2 x3 x4 x5 u post => q_X_steepestFrom_12 (fun x1 x2 x3 x4 x5 u => q_X_steepestFrom_12N n x1 x2 x3 x4 x5 u post) x1 x2 x3 x4 x5 u post
theorem w_X_steepestFrom_12N {p : Program} {l : Launch} {e : Env} {s : State} {m : MethodId} {args : Array Value} {below : List Frame} {meth : Method} {c : Code} {Z : ZT} {ad : Nat → Nat} {u0 : CT} {post : Int32 → CT → Prop} (C : CX "CoderTables" b_X_steepestFrom 6 (some .int) Z (va_A (cX Z ad u0) s.heap.size) p l s m args meth c) (htab : ∀ x ∈ c.exceptionTable.toList, False) : ∀ (n : Nat) (x1 : Int32) (x2 : Int32) (x3 : Int32) (x4 : Int32) (x5 : Int32) (u : CT) (H : Heap) (locs : List Loc) (ls : Array Slot), WD Z (va_A (cX Z ad u0) s.heap.size) s (cX Z ad u) H locs → lv_has ls 6 [(0, .ref (ad 0)), (1, .int (x1)), (2, .int (x2)), (3, .int (x3)), (4, .int (x4)), (5, .int (x5))] → q_X_steepestFrom_12N n x1 x2 x3 x4 x5 u post → W p l e rm_X_steepestFrom s m args below meth c H locs 0 0 (vx_MQ below (pQi Z (cX Z ad) (cX Z ad u0) s.heap.size post) (pX Z (cX Z ad) (cX Z ad u0) s.heap.size (fun _ _ => False)) args s 0 0 rm_X_steepestFrom.cells rm_X_steepestFrom.slots (va_A (cX Z ad u0) s.heap.size)) (F0 m 12 ls []) := by
  intro n
  induction n with
  | zero => intro x1 x2 x3 x4 x5 u H locs ls hw hl h; exact h.elim
  | succ n ih => intro x1 x2 x3 x4 x5 u H locs ls hw hl h; exact w_X_steepestFrom_12 C htab (fun x1 x2 x3 x4 x5 u H locs ls h hw hl => ih x1 x2 x3 x4 x5 u H locs ls hw hl h) x1 x2 x3 x4 x5 u H locs ls hw hl h
def q_X_steepestFrom (p1 : Int32) (p2 : Int32) (u : CT) (post : Int32 → CT → Prop) : Prop :=
  ∃ n, q_X_steepestFrom_12N n (p1) (p2) (((-1) : Int32)) ((p1) * (((6) : Int32))) ((p1) * (((6) : Int32))) (u) post
set_option maxRecDepth 100000 in
theorem c_X_steepestFrom {l : Launch} {Z : ZT} {ad : Nat → Nat} {u : CT} {post : Int32 → CT → Prop} {p1 : Int32} {p2 : Int32} (hl0 : l.stackTraces = false) (h : q_X_steepestFrom p1 p2 u post) : ∀ sz, vx_Met l y_X_steepestFrom (Cond.code y_X_steepestFrom b_X_steepestFrom 6 (some .int) :: GW) rm_X_steepestFrom (pP Z [.ref (ad 0), .int (p1), .int (p2)] (cX Z ad u) sz) (pQi Z (cX Z ad) (cX Z ad u) sz post) (pX Z (cX Z ad) (cX Z ad u) sz (fun _ _ => False)) 0 0 rm_X_steepestFrom.cells rm_X_steepestFrom.slots (va_A (cX Z ad u) sz) := by
  refine g_ent (f := cX Z ad) (Qc := fun sz => pQi Z (cX Z ad) (cX Z ad u) sz post) (XC := fun sz => pX Z (cX Z ad) (cX Z ad u) sz (fun _ _ => False)) hl0 (by decide +kernel) (Nat.le_of_ble_eq_true rfl) ?_
  intro p e s m args below meth c ls C htab hw hl
  have hl : lv_has ls 6 [(0, .ref (ad 0)), (1, .int (p1)), (2, .int (p2))] := hl
  unfold q_X_steepestFrom at h
  refine lv_iconst (v := (-1)) C.2.1 C.2.2.1 d_X_steepestFrom_0 (by decide) ?_
  refine lv_istore_n (lv' := [(3, .int (((-1) : Int32))), (0, .ref (ad 0)), (1, .int (p1)), (2, .int (p2))]) C.2.1 C.2.2.1 d_X_steepestFrom_1 rfl hl (by decide) rfl (fun ls hl => ?_)
  refine lv_iload_n C.2.1 C.2.2.1 d_X_steepestFrom_2 rfl (lv_at hl 2 rfl) ?_
  refine lv_bipush (v := (6)) C.2.1 C.2.2.1 d_X_steepestFrom_3 (by decide) ?_
  refine lv_imul C.2.1 C.2.2.1 d_X_steepestFrom_5 ?_
  refine lv_istore (lv' := [(4, .int ((p1) * (((6) : Int32)))), (3, .int (((-1) : Int32))), (0, .ref (ad 0)), (1, .int (p1)), (2, .int (p2))]) C.2.1 C.2.2.1 d_X_steepestFrom_6 hl (by decide) rfl (fun ls hl => ?_)
  refine lv_iload C.2.1 C.2.2.1 d_X_steepestFrom_8 (lv_at hl 0 rfl) ?_
  refine lv_istore (lv' := [(5, .int ((p1) * (((6) : Int32)))), (4, .int ((p1) * (((6) : Int32)))), (3, .int (((-1) : Int32))), (0, .ref (ad 0)), (1, .int (p1)), (2, .int (p2))]) C.2.1 C.2.2.1 d_X_steepestFrom_10 hl (by decide) rfl (fun ls hl => ?_)
  obtain ⟨n, h⟩ := h
  exact w_X_steepestFrom_12N C htab n (p1) (p2) (((-1) : Int32)) ((p1) * (((6) : Int32))) ((p1) * (((6) : Int32))) _ _ _ _ hw (lv_sub hl [3, 4, 5, 2, 1, 0] rfl) h
section KR
variable {own host : String} {cc bytes : ByteArray} {nL maxL index n : Nat} {rt0 rt : Option FieldType} {Z : ZT} {ad : Nat → Nat} {A : Nat → Prop}
variable {p : Program} {l : Launch} {e : Env} {R : Room} {s : State} {m : MethodId} {args : Array Value} {below : List Frame} {meth : Method} {c : Code} {H : Heap} {locs : List Loc} {cells slots : Nat} {Q : State → Prop} {rest : List Value} {pc : Nat} {ls : Array Slot}
theorem k_X_237 {u : CT} {p1 : Int32} {p2 : Int32} {post : Int32 → CT → Prop} (C : CX "CoderTables" cc nL rt0 Z A p l s m args meth c) (hw : WD Z A s (cX Z ad u) H locs) (h : q_X_steepestFrom p1 p2 u post) (hR : rmOk rm_X_steepestFrom 6 R cells slots) (hl : ls.size = nL) (hW : (rest.map fun v => v.category).sum ≤ 8) (hdg : decode cc pc = .ok (.invokevirtual 237, 3)) (kk : ∀ (r : Int32) (u' : CT) (H1 : Heap) (locs1 : List Loc), post r u' → WD Z A s (cX Z ad u') H1 locs1 → W p l e R s m args below meth c H1 locs1 cells slots Q (F0 m (pc + 3) ls (.int r :: rest))) : W p l e R s m args below meth c H locs cells slots Q (F0 m pc ls (.int (p2) :: .int (p1) :: .ref (ad 0) :: rest)) :=
  g_V0_i (n := 2) (f := cX Z ad) (As := [.int (p1), .int (p2)]) C hw (c_X_steepestFrom C.1 h) ⟨w469, w471, w24, w53, w472, (by decide +kernel), (by decide +kernel), (by decide +kernel)⟩ hR 0 rfl rfl rfl hl rfl hW hdg (fun _ _ _ _ _ _ h => h.elim) kk
end KR
/-! CoderTables.layHull(I)V -/
abbrev rm_X_layHull : Room := { frames := 3, cells := 0, slots := 0, locals := 76 }
def q_X_layHull_11 (K11 : Int32 → Int32 → CT → Prop) (x1 : Int32) (x2 : Int32) (u : CT) (post : CT → Prop) : Prop :=
  (((((6) : Int32)) ≤ (x_hullSize (u)) → post (u)) ∧ (¬ (((6) : Int32)) ≤ (x_hullSize (u)) → (((x2) = (((-1) : Int32)) → post (u)) ∧ (¬ (x2) = (((-1) : Int32)) → (vp_in (x_hullSize (u)) 6 ∧ q_X_steepestFrom (x1) (x2) (x_hullSize_s (x_hullSlots_s (u) (upd (x_hullSlots (u)) (x_hullSize (u)).toNatClampNeg (x2))) ((x_hullSize (x_hullSlots_s (u) (upd (x_hullSlots (u)) (x_hullSize (u)).toNatClampNeg (x2)))) + (((1) : Int32)))) (fun r1 u2 => K11 (x1) (r1) (u2)))))))
set_option maxRecDepth 100000 in
theorem w_X_layHull_11 {p : Program} {l : Launch} {e : Env} {s : State} {m : MethodId} {args : Array Value} {below : List Frame} {meth : Method} {c : Code} {Z : ZT} {ad : Nat → Nat} {u0 : CT} {post : CT → Prop} {K11 : Int32 → Int32 → CT → Prop} (C : CX "CoderTables" b_X_layHull 3 none Z (va_A (cX Z ad u0) s.heap.size) p l s m args meth c) (htab : ∀ x ∈ c.exceptionTable.toList, False) (hK11 : ∀ (x1 : Int32) (x2 : Int32) (u : CT) (H : Heap) (locs : List Loc) (ls : Array Slot), K11 x1 x2 u → WD Z (va_A (cX Z ad u0) s.heap.size) s (cX Z ad u) H locs → lv_has ls 3 [(0, .ref (ad 0)), (1, .int (x1)), (2, .int (x2))] → W p l e rm_X_layHull s m args below meth c H locs 0 0 (vx_MQ below (pQv Z (cX Z ad) (cX Z ad u0) s.heap.size post) (pX Z (cX Z ad) (cX Z ad u0) s.heap.size (fun _ _ => False)) args s 0 0 rm_X_layHull.cells rm_X_layHull.slots (va_A (cX Z ad u0) s.heap.size)) (F0 m 11 ls [])) (x1 : Int32) (x2 : Int32) (u : CT) (H : Heap) (locs : List Loc) (ls : Array Slot) (hw : WD Z (va_A (cX Z ad u0) s.heap.size) s (cX Z ad u) H locs) (hl : lv_has ls 3 [(0, .ref (ad 0)), (1, .int (x1)), (2, .int (x2))]) (h : q_X_layHull_11 K11 x1 x2 u post) : W p l e rm_X_layHull s m args below meth c H locs 0 0 (vx_MQ below (pQv Z (cX Z ad) (cX Z ad u0) s.heap.size post) (pX Z (cX Z ad) (cX Z ad u0) s.heap.size (fun _ _ => False)) args s 0 0 rm_X_layHull.cells rm_X_layHull.slots (va_A (cX Z ad u0) s.heap.size)) (F0 m 11 ls []) := by
  unfold q_X_layHull_11 at h
  refine lv_aload_n C.2.1 C.2.2.1 d_X_layHull_11 rfl (lv_at hl 0 rfl) ?_
  refine r_X_38 C hw d_X_layHull_12 ?_
  refine lv_bipush (v := (6)) C.2.1 C.2.2.1 d_X_layHull_15 (by decide) ?_
  refine lv_icmp_ge (tgt := 55) C.2.1 C.2.2.1 d_X_layHull_17 (by decide) (fun c => ?_) (fun c => ?_)
  · have h := h.1 c
    exact g_vret C hw h d_X_layHull_55
  · have h := h.2 c
    refine lv_iload_n C.2.1 C.2.2.1 d_X_layHull_20 rfl (lv_at hl 2 rfl) ?_
    refine lv_iconst (v := (-1)) C.2.1 C.2.2.1 d_X_layHull_21 (by decide) ?_
    refine lv_icmp_eq (tgt := 55) C.2.1 C.2.2.1 d_X_layHull_22 (by decide) (fun c => ?_) (fun c => ?_)
    · have h := h.1 c
      exact g_vret C hw h d_X_layHull_55
    · have h := h.2 c
      refine lv_aload_n C.2.1 C.2.2.1 d_X_layHull_25 rfl (lv_at hl 0 rfl) ?_
      refine r_X_35 C hw d_X_layHull_26 ?_
      refine lv_aload_n C.2.1 C.2.2.1 d_X_layHull_29 rfl (lv_at hl 0 rfl) ?_
      refine r_X_38 C hw d_X_layHull_30 ?_
      refine lv_iload_n C.2.1 C.2.2.1 d_X_layHull_33 rfl (lv_at hl 2 rfl) ?_
      obtain ⟨hi, h⟩ := h
      refine as_X_6 C hw hi d_X_layHull_34 (fun H locs hw => ?_)
      refine lv_aload_n C.2.1 C.2.2.1 d_X_layHull_35 rfl (lv_at hl 0 rfl) ?_
      refine lv_dup C.2.1 C.2.2.1 d_X_layHull_36 rfl ?_
      refine r_X_38 C hw d_X_layHull_37 ?_
      refine lv_iconst (v := (1)) C.2.1 C.2.2.1 d_X_layHull_40 (by decide) ?_
      refine lv_iadd C.2.1 C.2.2.1 d_X_layHull_41 ?_
      refine s_X_38 C hw d_X_layHull_42 (fun H locs hw => ?_)
      refine lv_aload_n C.2.1 C.2.2.1 d_X_layHull_45 rfl (lv_at hl 0 rfl) ?_
      refine lv_iload_n C.2.1 C.2.2.1 d_X_layHull_46 rfl (lv_at hl 1 rfl) ?_
      refine lv_iload_n C.2.1 C.2.2.1 d_X_layHull_47 rfl (lv_at hl 2 rfl) ?_
      refine k_X_237 C hw h ⟨Nat.le_of_ble_eq_true rfl, Nat.le_of_ble_eq_true rfl, Nat.le_of_ble_eq_true rfl, Nat.le_of_ble_eq_true rfl⟩ hl.1 (Nat.le_of_ble_eq_true rfl) d_X_layHull_48 (fun r1 u2 H locs h hw => ?_)
      refine lv_istore_n (lv' := [(2, .int (r1)), (0, .ref (ad 0)), (1, .int (x1))]) C.2.1 C.2.2.1 d_X_layHull_51 rfl hl (by decide) rfl (fun ls hl => ?_)
      refine lv_goto (tgt := 11) C.2.1 C.2.2.1 d_X_layHull_52 (by decide) ?_
      exact hK11 (x1) (r1) _ _ _ _ h hw (lv_sub hl [1, 2, 0] rfl)
def q_X_layHull_11N : Nat → Int32 → Int32 → CT → (CT → Prop) → Prop
  | 0 => fun _ _ _ _ => False
  | n + 1 => fun x1 x2 u post => q_X_layHull_11 (fun x1 x2 u => q_X_layHull_11N n x1 x2 u post) x1 x2 u post
theorem w_X_layHull_11N {p : Program} {l : Launch} {e : Env} {s : State} {m : MethodId} {args : Array Value} {below : List Frame} {meth : Method} {c : Code} {Z : ZT} {ad : Nat → Nat} {u0 : CT} {post : CT → Prop} (C : CX "CoderTables" b_X_layHull 3 none Z (va_A (cX Z ad u0) s.heap.size) p l s m args meth c) (htab : ∀ x ∈ c.exceptionTable.toList, False) : ∀ (n : Nat) (x1 : Int32) (x2 : Int32) (u : CT) (H : Heap) (locs : List Loc) (ls : Array Slot), WD Z (va_A (cX Z ad u0) s.heap.size) s (cX Z ad u) H locs → lv_has ls 3 [(0, .ref (ad 0)), (1, .int (x1)), (2, .int (x2))] → q_X_layHull_11N n x1 x2 u post → W p l e rm_X_layHull s m args below meth c H locs 0 0 (vx_MQ below (pQv Z (cX Z ad) (cX Z ad u0) s.heap.size post) (pX Z (cX Z ad) (cX Z ad u0) s.heap.size (fun _ _ => False)) args s 0 0 rm_X_layHull.cells rm_X_layHull.slots (va_A (cX Z ad u0) s.heap.size)) (F0 m 11 ls []) := by
  intro n
  induction n with
  | zero => intro x1 x2 u H locs ls hw hl h; exact h.elim
  | succ n ih => intro x1 x2 u H locs ls hw hl h; exact w_X_layHull_11 C htab (fun x1 x2 u H locs ls h hw hl => ih x1 x2 u H locs ls hw hl h) x1 x2 u H locs ls hw hl h
def q_X_layHull (p1 : Int32) (u : CT) (post : CT → Prop) : Prop :=
  q_X_firstOfRow (p1) (x_hullSize_s (u) (((0) : Int32))) (fun r3 u4 => ∃ n, q_X_layHull_11N n (p1) (r3) (u4) post)
set_option maxRecDepth 100000 in
theorem c_X_layHull {l : Launch} {Z : ZT} {ad : Nat → Nat} {u : CT} {post : CT → Prop} {p1 : Int32} (hl0 : l.stackTraces = false) (h : q_X_layHull p1 u post) : ∀ sz, vx_Met l y_X_layHull (Cond.code y_X_layHull b_X_layHull 3 none :: GW) rm_X_layHull (pP Z [.ref (ad 0), .int (p1)] (cX Z ad u) sz) (pQv Z (cX Z ad) (cX Z ad u) sz post) (pX Z (cX Z ad) (cX Z ad u) sz (fun _ _ => False)) 0 0 rm_X_layHull.cells rm_X_layHull.slots (va_A (cX Z ad u) sz) := by
  refine g_ent (f := cX Z ad) (Qc := fun sz => pQv Z (cX Z ad) (cX Z ad u) sz post) (XC := fun sz => pX Z (cX Z ad) (cX Z ad u) sz (fun _ _ => False)) hl0 (by decide +kernel) (Nat.le_of_ble_eq_true rfl) ?_
  intro p e s m args below meth c ls C htab hw hl
  have hl : lv_has ls 3 [(0, .ref (ad 0)), (1, .int (p1))] := hl
  unfold q_X_layHull at h
  refine lv_aload_n C.2.1 C.2.2.1 d_X_layHull_0 rfl (lv_at hl 0 rfl) ?_
  refine lv_iconst (v := (0)) C.2.1 C.2.2.1 d_X_layHull_1 (by decide) ?_
  refine s_X_38 C hw d_X_layHull_2 (fun H locs hw => ?_)
  refine lv_aload_n C.2.1 C.2.2.1 d_X_layHull_5 rfl (lv_at hl 0 rfl) ?_
  refine lv_iload_n C.2.1 C.2.2.1 d_X_layHull_6 rfl (lv_at hl 1 rfl) ?_
  refine k_X_234 C hw h ⟨Nat.le_of_ble_eq_true rfl, Nat.le_of_ble_eq_true rfl, Nat.le_of_ble_eq_true rfl, Nat.le_of_ble_eq_true rfl⟩ hl.1 (Nat.le_of_ble_eq_true rfl) d_X_layHull_7 (fun r3 u4 H locs h hw => ?_)
  refine lv_istore_n (lv' := [(2, .int (r3)), (0, .ref (ad 0)), (1, .int (p1))]) C.2.1 C.2.2.1 d_X_layHull_10 rfl hl (by decide) rfl (fun ls hl => ?_)
  obtain ⟨n, h⟩ := h
  exact w_X_layHull_11N C htab n (p1) (r3) _ _ _ _ hw (lv_sub hl [1, 2, 0] rfl) h
section KR
variable {own host : String} {cc bytes : ByteArray} {nL maxL index n : Nat} {rt0 rt : Option FieldType} {Z : ZT} {ad : Nat → Nat} {A : Nat → Prop}
variable {p : Program} {l : Launch} {e : Env} {R : Room} {s : State} {m : MethodId} {args : Array Value} {below : List Frame} {meth : Method} {c : Code} {H : Heap} {locs : List Loc} {cells slots : Nat} {Q : State → Prop} {rest : List Value} {pc : Nat} {ls : Array Slot}
theorem k_X_137 {u : CT} {p1 : Int32} {post : CT → Prop} (C : CX "CoderTables" cc nL rt0 Z A p l s m args meth c) (hw : WD Z A s (cX Z ad u) H locs) (h : q_X_layHull p1 u post) (hR : rmOk rm_X_layHull 3 R cells slots) (hl : ls.size = nL) (hW : (rest.map fun v => v.category).sum ≤ 8) (hdg : decode cc pc = .ok (.invokevirtual 137, 3)) (kk : ∀ (u' : CT) (H1 : Heap) (locs1 : List Loc), post u' → WD Z A s (cX Z ad u') H1 locs1 → W p l e R s m args below meth c H1 locs1 cells slots Q (F0 m (pc + 3) ls (rest))) : W p l e R s m args below meth c H locs cells slots Q (F0 m pc ls (.int (p1) :: .ref (ad 0) :: rest)) :=
  g_V0_v (n := 1) (f := cX Z ad) (As := [.int (p1)]) C hw (c_X_layHull C.1 h) ⟨w457, w459, w21, w53, w460, (by decide +kernel), (by decide +kernel), (by decide +kernel)⟩ hR 0 rfl rfl rfl hl rfl hW hdg (fun _ _ _ _ _ _ h => h.elim) kk
end KR
/-! CoderTables.hull(II)I -/
abbrev rm_X_hull : Room := { frames := 8, cells := 1, slots := 6, locals := 133 }
def q_X_hull (p1 : Int32) (p2 : Int32) (u : CT) (post : Int32 → CT → Prop) (ex : String → CT → Prop) : Prop :=
  q_X_pairOf (p1) (p2) (u) (fun r1 u2 => q_X_layHull (r1) (u2) (fun u4 => post (x_hullSize (u4)) (u4))) ex
set_option maxRecDepth 100000 in
theorem c_X_hull {l : Launch} {Z : ZT} {ad : Nat → Nat} {u : CT} {post : Int32 → CT → Prop} {ex : String → CT → Prop} {p1 : Int32} {p2 : Int32} (hl0 : l.stackTraces = false) (h : q_X_hull p1 p2 u post ex) : ∀ sz, vx_Met l y_X_hull (Cond.code y_X_hull b_X_hull 3 (some .int) :: GW) rm_X_hull (pP Z [.ref (ad 0), .int (p1), .int (p2)] (cX Z ad u) sz) (pQi Z (cX Z ad) (cX Z ad u) sz post) (pX Z (cX Z ad) (cX Z ad u) sz ex) 0 0 rm_X_hull.cells rm_X_hull.slots (va_A (cX Z ad u) sz) := by
  refine g_ent (f := cX Z ad) (Qc := fun sz => pQi Z (cX Z ad) (cX Z ad u) sz post) (XC := fun sz => pX Z (cX Z ad) (cX Z ad u) sz ex) hl0 (by decide +kernel) (Nat.le_of_ble_eq_true rfl) ?_
  intro p e s m args below meth c ls C htab hw hl
  have hl : lv_has ls 3 [(0, .ref (ad 0)), (1, .int (p1)), (2, .int (p2))] := hl
  unfold q_X_hull at h
  refine lv_aload_n C.2.1 C.2.2.1 d_X_hull_0 rfl (lv_at hl 0 rfl) ?_
  refine lv_aload_n C.2.1 C.2.2.1 d_X_hull_1 rfl (lv_at hl 0 rfl) ?_
  refine lv_iload_n C.2.1 C.2.2.1 d_X_hull_2 rfl (lv_at hl 1 rfl) ?_
  refine lv_iload_n C.2.1 C.2.2.1 d_X_hull_3 rfl (lv_at hl 2 rfl) ?_
  refine k_X_70 C hw h ⟨Nat.le_of_ble_eq_true rfl, Nat.le_of_ble_eq_true rfl, Nat.le_of_ble_eq_true rfl, Nat.le_of_ble_eq_true rfl⟩ hl.1 (Nat.le_of_ble_eq_true rfl) d_X_hull_4 (fun _ _ _ _ _ _ he hw h1 h2 h3 => g_out C htab hw he h1 h2 h3 (Nat.le_of_ble_eq_true rfl) (Nat.le_of_ble_eq_true rfl)) (fun r1 u2 H locs h hw => ?_)
  refine k_X_137 C hw h ⟨Nat.le_of_ble_eq_true rfl, Nat.le_of_ble_eq_true rfl, Nat.le_of_ble_eq_true rfl, Nat.le_of_ble_eq_true rfl⟩ hl.1 (Nat.le_of_ble_eq_true rfl) d_X_hull_7 (fun u4 H locs h hw => ?_)
  refine lv_aload_n C.2.1 C.2.2.1 d_X_hull_10 rfl (lv_at hl 0 rfl) ?_
  refine r_X_38 C hw d_X_hull_11 ?_
  exact g_iret C hw rfl h d_X_hull_14
/-! CoderTables.onHull(IIII)I -/
abbrev rm_X_onHull : Room := { frames := 8, cells := 1, slots := 6, locals := 133 }
def q_X_onHull_22  (u : CT) (post : Int32 → CT → Prop) (ex : String → CT → Prop) : Prop :=
  ex "java/lang/IndexOutOfBoundsException" (u)
set_option maxRecDepth 100000 in
theorem w_X_onHull_22 {p : Program} {l : Launch} {e : Env} {s : State} {m : MethodId} {args : Array Value} {below : List Frame} {meth : Method} {c : Code} {Z : ZT} {ad : Nat → Nat} {u0 : CT} {post : Int32 → CT → Prop} {ex : String → CT → Prop} (C : CX "CoderTables" b_X_onHull 6 (some .int) Z (va_A (cX Z ad u0) s.heap.size) p l s m args meth c) (htab : ∀ x ∈ c.exceptionTable.toList, False)  (u : CT) (H : Heap) (locs : List Loc) (ls : Array Slot) (hw : WD Z (va_A (cX Z ad u0) s.heap.size) s (cX Z ad u) H locs) (hl : lv_has ls 6 []) (h : q_X_onHull_22  u post ex) : W p l e rm_X_onHull s m args below meth c H locs 0 0 (vx_MQ below (pQi Z (cX Z ad) (cX Z ad u0) s.heap.size post) (pX Z (cX Z ad) (cX Z ad u0) s.heap.size ex) args s 0 0 rm_X_onHull.cells rm_X_onHull.slots (va_A (cX Z ad u0) s.heap.size)) (F0 m 22 ls []) := by
  unfold q_X_onHull_22 at h
  exact g_throw C htab hw hE_O sg_140 h hl.1 d_X_onHull_22 d_X_onHull_25 d_X_onHull_26 d_X_onHull_28 d_X_onHull_31 ⟨Nat.le_of_ble_eq_true rfl, Nat.le_of_ble_eq_true rfl, Nat.le_of_ble_eq_true rfl, Nat.le_of_ble_eq_true rfl⟩ (Nat.le_of_ble_eq_true rfl) (Nat.le_of_ble_eq_true rfl)
def q_X_onHull_53 (x3 : Int32) (x4 : Int32) (u : CT) (post : Int32 → CT → Prop) (ex : String → CT → Prop) : Prop :=
  (vp_in (x3) 6 ∧ ((¬ (x4) = 0 → (vp_in (x_hullSlots (u) (x3).toNatClampNeg) 1152 ∧ post (x_pointErrors (u) (x_hullSlots (u) (x3).toNatClampNeg).toNatClampNeg) (u))) ∧ ((x4) = 0 → (vp_in (x_hullSlots (u) (x3).toNatClampNeg) 1152 ∧ post (x_pointBytes (u) (x_hullSlots (u) (x3).toNatClampNeg).toNatClampNeg) (u)))))
set_option maxRecDepth 100000 in
theorem w_X_onHull_53 {p : Program} {l : Launch} {e : Env} {s : State} {m : MethodId} {args : Array Value} {below : List Frame} {meth : Method} {c : Code} {Z : ZT} {ad : Nat → Nat} {u0 : CT} {post : Int32 → CT → Prop} {ex : String → CT → Prop} (C : CX "CoderTables" b_X_onHull 6 (some .int) Z (va_A (cX Z ad u0) s.heap.size) p l s m args meth c) (htab : ∀ x ∈ c.exceptionTable.toList, False) (x3 : Int32) (x4 : Int32) (u : CT) (H : Heap) (locs : List Loc) (ls : Array Slot) (hw : WD Z (va_A (cX Z ad u0) s.heap.size) s (cX Z ad u) H locs) (hl : lv_has ls 6 [(0, .ref (ad 0)), (3, .int (x3)), (4, .int (x4))]) (h : q_X_onHull_53 x3 x4 u post ex) : W p l e rm_X_onHull s m args below meth c H locs 0 0 (vx_MQ below (pQi Z (cX Z ad) (cX Z ad u0) s.heap.size post) (pX Z (cX Z ad) (cX Z ad u0) s.heap.size ex) args s 0 0 rm_X_onHull.cells rm_X_onHull.slots (va_A (cX Z ad u0) s.heap.size)) (F0 m 53 ls []) := by
  unfold q_X_onHull_53 at h
  refine lv_aload_n C.2.1 C.2.2.1 d_X_onHull_53 rfl (lv_at hl 0 rfl) ?_
  refine r_X_35 C hw d_X_onHull_54 ?_
  refine lv_iload_n C.2.1 C.2.2.1 d_X_onHull_57 rfl (lv_at hl 1 rfl) ?_
  obtain ⟨hi, h⟩ := h
  refine al_X_6 C hw hi d_X_onHull_58 ?_
  refine lv_istore (lv' := [(5, .int (x_hullSlots (u) (x3).toNatClampNeg)), (0, .ref (ad 0)), (3, .int (x3)), (4, .int (x4))]) C.2.1 C.2.2.1 d_X_onHull_59 hl (by decide) rfl (fun ls hl => ?_)
  refine lv_iload C.2.1 C.2.2.1 d_X_onHull_61 (lv_at hl 3 rfl) ?_
  refine lv_if_ne (tgt := 76) C.2.1 C.2.2.1 d_X_onHull_63 (by decide) (fun c => ?_) (fun c => ?_)
  · have h := h.1 c
    refine lv_aload_n C.2.1 C.2.2.1 d_X_onHull_76 rfl (lv_at hl 1 rfl) ?_
    refine r_X_26 C hw d_X_onHull_77 ?_
    refine lv_iload C.2.1 C.2.2.1 d_X_onHull_80 (lv_at hl 0 rfl) ?_
    obtain ⟨hi, h⟩ := h
    refine al_X_4 C hw hi d_X_onHull_82 ?_
    exact g_iret C hw rfl h d_X_onHull_83
  · have h := h.2 c
    refine lv_aload_n C.2.1 C.2.2.1 d_X_onHull_66 rfl (lv_at hl 1 rfl) ?_
    refine r_X_23 C hw d_X_onHull_67 ?_
    refine lv_iload C.2.1 C.2.2.1 d_X_onHull_70 (lv_at hl 0 rfl) ?_
    obtain ⟨hi, h⟩ := h
    refine al_X_3 C hw hi d_X_onHull_72 ?_
    refine lv_goto (tgt := 83) C.2.1 C.2.2.1 d_X_onHull_73 (by decide) ?_
    exact g_iret C hw rfl h d_X_onHull_83
def q_X_onHull (p1 : Int32) (p2 : Int32) (p3 : Int32) (p4 : Int32) (u : CT) (post : Int32 → CT → Prop) (ex : String → CT → Prop) : Prop :=
  q_X_pairOf (p1) (p2) (u) (fun r1 u2 => q_X_layHull (r1) (u2) (fun u4 => (((p3) < 0 → q_X_onHull_22  (u4) post ex) ∧ (¬ (p3) < 0 → (((p3) < (x_hullSize (u4)) → (((p4) = 0 → q_X_onHull_53 (p3) (p4) (u4) post ex) ∧ (¬ (p4) = 0 → (((p4) = (((1) : Int32)) → q_X_onHull_53 (p3) (p4) (u4) post ex) ∧ (¬ (p4) = (((1) : Int32)) → ex "java/lang/IllegalArgumentException" (u4)))))) ∧ (¬ (p3) < (x_hullSize (u4)) → q_X_onHull_22  (u4) post ex)))))) ex
set_option maxRecDepth 100000 in
theorem c_X_onHull {l : Launch} {Z : ZT} {ad : Nat → Nat} {u : CT} {post : Int32 → CT → Prop} {ex : String → CT → Prop} {p1 : Int32} {p2 : Int32} {p3 : Int32} {p4 : Int32} (hl0 : l.stackTraces = false) (h : q_X_onHull p1 p2 p3 p4 u post ex) : ∀ sz, vx_Met l y_X_onHull (Cond.code y_X_onHull b_X_onHull 6 (some .int) :: GW) rm_X_onHull (pP Z [.ref (ad 0), .int (p1), .int (p2), .int (p3), .int (p4)] (cX Z ad u) sz) (pQi Z (cX Z ad) (cX Z ad u) sz post) (pX Z (cX Z ad) (cX Z ad u) sz ex) 0 0 rm_X_onHull.cells rm_X_onHull.slots (va_A (cX Z ad u) sz) := by
  refine g_ent (f := cX Z ad) (Qc := fun sz => pQi Z (cX Z ad) (cX Z ad u) sz post) (XC := fun sz => pX Z (cX Z ad) (cX Z ad u) sz ex) hl0 (by decide +kernel) (Nat.le_of_ble_eq_true rfl) ?_
  intro p e s m args below meth c ls C htab hw hl
  have hl : lv_has ls 6 [(0, .ref (ad 0)), (1, .int (p1)), (2, .int (p2)), (3, .int (p3)), (4, .int (p4))] := hl
  unfold q_X_onHull at h
  refine lv_aload_n C.2.1 C.2.2.1 d_X_onHull_0 rfl (lv_at hl 0 rfl) ?_
  refine lv_aload_n C.2.1 C.2.2.1 d_X_onHull_1 rfl (lv_at hl 0 rfl) ?_
  refine lv_iload_n C.2.1 C.2.2.1 d_X_onHull_2 rfl (lv_at hl 1 rfl) ?_
  refine lv_iload_n C.2.1 C.2.2.1 d_X_onHull_3 rfl (lv_at hl 2 rfl) ?_
  refine k_X_70 C hw h ⟨Nat.le_of_ble_eq_true rfl, Nat.le_of_ble_eq_true rfl, Nat.le_of_ble_eq_true rfl, Nat.le_of_ble_eq_true rfl⟩ hl.1 (Nat.le_of_ble_eq_true rfl) d_X_onHull_4 (fun _ _ _ _ _ _ he hw h1 h2 h3 => g_out C htab hw he h1 h2 h3 (Nat.le_of_ble_eq_true rfl) (Nat.le_of_ble_eq_true rfl)) (fun r1 u2 H locs h hw => ?_)
  refine k_X_137 C hw h ⟨Nat.le_of_ble_eq_true rfl, Nat.le_of_ble_eq_true rfl, Nat.le_of_ble_eq_true rfl, Nat.le_of_ble_eq_true rfl⟩ hl.1 (Nat.le_of_ble_eq_true rfl) d_X_onHull_7 (fun u4 H locs h hw => ?_)
  refine lv_iload_n C.2.1 C.2.2.1 d_X_onHull_10 rfl (lv_at hl 3 rfl) ?_
  refine lv_if_lt (tgt := 22) C.2.1 C.2.2.1 d_X_onHull_11 (by decide) (fun c => ?_) (fun c => ?_)
  · have h := h.1 c
    exact w_X_onHull_22 C htab  _ _ _ _ hw (lv_sub hl [] rfl) h
  · have h := h.2 c
    refine lv_iload_n C.2.1 C.2.2.1 d_X_onHull_14 rfl (lv_at hl 3 rfl) ?_
    refine lv_aload_n C.2.1 C.2.2.1 d_X_onHull_15 rfl (lv_at hl 0 rfl) ?_
    refine r_X_38 C hw d_X_onHull_16 ?_
    refine lv_icmp_lt (tgt := 32) C.2.1 C.2.2.1 d_X_onHull_19 (by decide) (fun c => ?_) (fun c => ?_)
    · have h := h.1 c
      refine lv_iload C.2.1 C.2.2.1 d_X_onHull_32 (lv_at hl 4 rfl) ?_
      refine lv_if_eq (tgt := 53) C.2.1 C.2.2.1 d_X_onHull_34 (by decide) (fun c => ?_) (fun c => ?_)
      · have h := h.1 c
        exact w_X_onHull_53 C htab (p3) (p4) _ _ _ _ hw (lv_sub hl [0, 3, 4] rfl) h
      · have h := h.2 c
        refine lv_iload C.2.1 C.2.2.1 d_X_onHull_37 (lv_at hl 4 rfl) ?_
        refine lv_iconst (v := (1)) C.2.1 C.2.2.1 d_X_onHull_39 (by decide) ?_
        refine lv_icmp_eq (tgt := 53) C.2.1 C.2.2.1 d_X_onHull_40 (by decide) (fun c => ?_) (fun c => ?_)
        · have h := h.1 c
          exact w_X_onHull_53 C htab (p3) (p4) _ _ _ _ hw (lv_sub hl [0, 3, 4] rfl) h
        · have h := h.2 c
          exact g_throw C htab hw hE_G sg_142 h hl.1 d_X_onHull_43 d_X_onHull_46 d_X_onHull_47 d_X_onHull_49 d_X_onHull_52 ⟨Nat.le_of_ble_eq_true rfl, Nat.le_of_ble_eq_true rfl, Nat.le_of_ble_eq_true rfl, Nat.le_of_ble_eq_true rfl⟩ (Nat.le_of_ble_eq_true rfl) (Nat.le_of_ble_eq_true rfl)
    · have h := h.2 c
      exact w_X_onHull_22 C htab  _ _ _ _ hw (lv_sub hl [] rfl) h
/-! CoderTables.slope(IIIZ)J -/
abbrev rm_X_slope : Room := { frames := 8, cells := 1, slots := 6, locals := 133 }
def q_X_slope_24  (u : CT) (post : Int64 → CT → Prop) (ex : String → CT → Prop) : Prop :=
  ex "java/lang/IndexOutOfBoundsException" (u)
set_option maxRecDepth 100000 in
theorem w_X_slope_24 {p : Program} {l : Launch} {e : Env} {s : State} {m : MethodId} {args : Array Value} {below : List Frame} {meth : Method} {c : Code} {Z : ZT} {ad : Nat → Nat} {u0 : CT} {post : Int64 → CT → Prop} {ex : String → CT → Prop} (C : CX "CoderTables" b_X_slope 9 (some .long) Z (va_A (cX Z ad u0) s.heap.size) p l s m args meth c) (htab : ∀ x ∈ c.exceptionTable.toList, False)  (u : CT) (H : Heap) (locs : List Loc) (ls : Array Slot) (hw : WD Z (va_A (cX Z ad u0) s.heap.size) s (cX Z ad u) H locs) (hl : lv_has ls 9 []) (h : q_X_slope_24  u post ex) : W p l e rm_X_slope s m args below meth c H locs 0 0 (vx_MQ below (pQl Z (cX Z ad) (cX Z ad u0) s.heap.size post) (pX Z (cX Z ad) (cX Z ad u0) s.heap.size ex) args s 0 0 rm_X_slope.cells rm_X_slope.slots (va_A (cX Z ad u0) s.heap.size)) (F0 m 24 ls []) := by
  unfold q_X_slope_24 at h
  exact g_throw C htab hw hE_O sg_144 h hl.1 d_X_slope_24 d_X_slope_27 d_X_slope_28 d_X_slope_30 d_X_slope_33 ⟨Nat.le_of_ble_eq_true rfl, Nat.le_of_ble_eq_true rfl, Nat.le_of_ble_eq_true rfl, Nat.le_of_ble_eq_true rfl⟩ (Nat.le_of_ble_eq_true rfl) (Nat.le_of_ble_eq_true rfl)
def q_X_slope (p1 : Int32) (p2 : Int32) (p3 : Int32) (p4 : Int32) (u : CT) (post : Int64 → CT → Prop) (ex : String → CT → Prop) : Prop :=
  q_X_pairOf (p1) (p2) (u) (fun r1 u2 => q_X_layHull (r1) (u2) (fun u4 => (((p3) < 0 → q_X_slope_24  (u4) post ex) ∧ (¬ (p3) < 0 → (((p3) < ((x_hullSize (u4)) - (((1) : Int32))) → (vp_in (p3) 6 ∧ (vp_in ((p3) + (((1) : Int32))) 6 ∧ q_X_fallTo (x_hullSlots (u4) (p3).toNatClampNeg) (x_hullSlots (u4) ((p3) + (((1) : Int32))).toNatClampNeg) (u4) (fun r5 u6 => (vp_in (p3) 6 ∧ (vp_in ((p3) + (((1) : Int32))) 6 ∧ q_X_growthTo (x_hullSlots (u6) (p3).toNatClampNeg) (x_hullSlots (u6) ((p3) + (((1) : Int32))).toNatClampNeg) (u6) (fun r7 u8 => (((p4) = 0 → q_X_inLowestTerms (r7) (r5) (u8) (fun r9 u10 => post (r9) (u10))) ∧ (¬ (p4) = 0 → q_X_inLowestTerms (r5) (r7) (u8) (fun r11 u12 => post (r11) (u12))))))))))) ∧ (¬ (p3) < ((x_hullSize (u4)) - (((1) : Int32))) → q_X_slope_24  (u4) post ex)))))) ex
set_option maxRecDepth 100000 in
theorem c_X_slope {l : Launch} {Z : ZT} {ad : Nat → Nat} {u : CT} {post : Int64 → CT → Prop} {ex : String → CT → Prop} {p1 : Int32} {p2 : Int32} {p3 : Int32} {p4 : Int32} (hl0 : l.stackTraces = false) (h : q_X_slope p1 p2 p3 p4 u post ex) : ∀ sz, vx_Met l y_X_slope (Cond.code y_X_slope b_X_slope 9 (some .long) :: GW) rm_X_slope (pP Z [.ref (ad 0), .int (p1), .int (p2), .int (p3), .int (p4)] (cX Z ad u) sz) (pQl Z (cX Z ad) (cX Z ad u) sz post) (pX Z (cX Z ad) (cX Z ad u) sz ex) 0 0 rm_X_slope.cells rm_X_slope.slots (va_A (cX Z ad u) sz) := by
  refine g_ent (f := cX Z ad) (Qc := fun sz => pQl Z (cX Z ad) (cX Z ad u) sz post) (XC := fun sz => pX Z (cX Z ad) (cX Z ad u) sz ex) hl0 (by decide +kernel) (Nat.le_of_ble_eq_true rfl) ?_
  intro p e s m args below meth c ls C htab hw hl
  have hl : lv_has ls 9 [(0, .ref (ad 0)), (1, .int (p1)), (2, .int (p2)), (3, .int (p3)), (4, .int (p4))] := hl
  unfold q_X_slope at h
  refine lv_aload_n C.2.1 C.2.2.1 d_X_slope_0 rfl (lv_at hl 0 rfl) ?_
  refine lv_aload_n C.2.1 C.2.2.1 d_X_slope_1 rfl (lv_at hl 0 rfl) ?_
  refine lv_iload_n C.2.1 C.2.2.1 d_X_slope_2 rfl (lv_at hl 1 rfl) ?_
  refine lv_iload_n C.2.1 C.2.2.1 d_X_slope_3 rfl (lv_at hl 2 rfl) ?_
  refine k_X_70 C hw h ⟨Nat.le_of_ble_eq_true rfl, Nat.le_of_ble_eq_true rfl, Nat.le_of_ble_eq_true rfl, Nat.le_of_ble_eq_true rfl⟩ hl.1 (Nat.le_of_ble_eq_true rfl) d_X_slope_4 (fun _ _ _ _ _ _ he hw h1 h2 h3 => g_out C htab hw he h1 h2 h3 (Nat.le_of_ble_eq_true rfl) (Nat.le_of_ble_eq_true rfl)) (fun r1 u2 H locs h hw => ?_)
  refine k_X_137 C hw h ⟨Nat.le_of_ble_eq_true rfl, Nat.le_of_ble_eq_true rfl, Nat.le_of_ble_eq_true rfl, Nat.le_of_ble_eq_true rfl⟩ hl.1 (Nat.le_of_ble_eq_true rfl) d_X_slope_7 (fun u4 H locs h hw => ?_)
  refine lv_iload_n C.2.1 C.2.2.1 d_X_slope_10 rfl (lv_at hl 3 rfl) ?_
  refine lv_if_lt (tgt := 24) C.2.1 C.2.2.1 d_X_slope_11 (by decide) (fun c => ?_) (fun c => ?_)
  · have h := h.1 c
    exact w_X_slope_24 C htab  _ _ _ _ hw (lv_sub hl [] rfl) h
  · have h := h.2 c
    refine lv_iload_n C.2.1 C.2.2.1 d_X_slope_14 rfl (lv_at hl 3 rfl) ?_
    refine lv_aload_n C.2.1 C.2.2.1 d_X_slope_15 rfl (lv_at hl 0 rfl) ?_
    refine r_X_38 C hw d_X_slope_16 ?_
    refine lv_iconst (v := (1)) C.2.1 C.2.2.1 d_X_slope_19 (by decide) ?_
    refine lv_isub C.2.1 C.2.2.1 d_X_slope_20 ?_
    refine lv_icmp_lt (tgt := 34) C.2.1 C.2.2.1 d_X_slope_21 (by decide) (fun c => ?_) (fun c => ?_)
    · have h := h.1 c
      refine lv_aload_n C.2.1 C.2.2.1 d_X_slope_34 rfl (lv_at hl 0 rfl) ?_
      refine lv_aload_n C.2.1 C.2.2.1 d_X_slope_35 rfl (lv_at hl 0 rfl) ?_
      refine r_X_35 C hw d_X_slope_36 ?_
      refine lv_iload_n C.2.1 C.2.2.1 d_X_slope_39 rfl (lv_at hl 3 rfl) ?_
      obtain ⟨hi, h⟩ := h
      refine al_X_6 C hw hi d_X_slope_40 ?_
      refine lv_aload_n C.2.1 C.2.2.1 d_X_slope_41 rfl (lv_at hl 0 rfl) ?_
      refine r_X_35 C hw d_X_slope_42 ?_
      refine lv_iload_n C.2.1 C.2.2.1 d_X_slope_45 rfl (lv_at hl 3 rfl) ?_
      refine lv_iconst (v := (1)) C.2.1 C.2.2.1 d_X_slope_46 (by decide) ?_
      refine lv_iadd C.2.1 C.2.2.1 d_X_slope_47 ?_
      obtain ⟨hi, h⟩ := h
      refine al_X_6 C hw hi d_X_slope_48 ?_
      refine k_X_146 C hw h ⟨Nat.le_of_ble_eq_true rfl, Nat.le_of_ble_eq_true rfl, Nat.le_of_ble_eq_true rfl, Nat.le_of_ble_eq_true rfl⟩ hl.1 (Nat.le_of_ble_eq_true rfl) d_X_slope_49 (fun r5 u6 H locs h hw => ?_)
      refine lv_lstore (lv' := [(5, .long (r5)), (0, .ref (ad 0)), (1, .int (p1)), (2, .int (p2)), (3, .int (p3)), (4, .int (p4))]) C.2.1 C.2.2.1 d_X_slope_52 hl (by decide) rfl (fun ls hl => ?_)
      refine lv_aload_n C.2.1 C.2.2.1 d_X_slope_54 rfl (lv_at hl 1 rfl) ?_
      refine lv_aload_n C.2.1 C.2.2.1 d_X_slope_55 rfl (lv_at hl 1 rfl) ?_
      refine r_X_35 C hw d_X_slope_56 ?_
      refine lv_iload_n C.2.1 C.2.2.1 d_X_slope_59 rfl (lv_at hl 4 rfl) ?_
      obtain ⟨hi, h⟩ := h
      refine al_X_6 C hw hi d_X_slope_60 ?_
      refine lv_aload_n C.2.1 C.2.2.1 d_X_slope_61 rfl (lv_at hl 1 rfl) ?_
      refine r_X_35 C hw d_X_slope_62 ?_
      refine lv_iload_n C.2.1 C.2.2.1 d_X_slope_65 rfl (lv_at hl 4 rfl) ?_
      refine lv_iconst (v := (1)) C.2.1 C.2.2.1 d_X_slope_66 (by decide) ?_
      refine lv_iadd C.2.1 C.2.2.1 d_X_slope_67 ?_
      obtain ⟨hi, h⟩ := h
      refine al_X_6 C hw hi d_X_slope_68 ?_
      refine k_X_150 C hw h ⟨Nat.le_of_ble_eq_true rfl, Nat.le_of_ble_eq_true rfl, Nat.le_of_ble_eq_true rfl, Nat.le_of_ble_eq_true rfl⟩ hl.1 (Nat.le_of_ble_eq_true rfl) d_X_slope_69 (fun r7 u8 H locs h hw => ?_)
      refine lv_lstore (lv' := [(7, .long (r7)), (5, .long (r5)), (0, .ref (ad 0)), (1, .int (p1)), (2, .int (p2)), (3, .int (p3)), (4, .int (p4))]) C.2.1 C.2.2.1 d_X_slope_72 hl (by decide) rfl (fun ls hl => ?_)
      refine lv_iload C.2.1 C.2.2.1 d_X_slope_74 (lv_at hl 6 rfl) ?_
      refine lv_if_eq (tgt := 89) C.2.1 C.2.2.1 d_X_slope_76 (by decide) (fun c => ?_) (fun c => ?_)
      · have h := h.1 c
        refine lv_lload C.2.1 C.2.2.1 d_X_slope_89 (lv_at hl 0 rfl) ?_
        refine lv_lload C.2.1 C.2.2.1 d_X_slope_91 (lv_at hl 1 rfl) ?_
        refine k_X_130 C hw h ⟨Nat.le_of_ble_eq_true rfl, Nat.le_of_ble_eq_true rfl, Nat.le_of_ble_eq_true rfl, Nat.le_of_ble_eq_true rfl⟩ hl.1 (Nat.le_of_ble_eq_true rfl) d_X_slope_93 (fun r9 u10 H locs h hw => ?_)
        exact g_lret C hw h d_X_slope_96
      · have h := h.2 c
        refine lv_lload C.2.1 C.2.2.1 d_X_slope_79 (lv_at hl 1 rfl) ?_
        refine lv_lload C.2.1 C.2.2.1 d_X_slope_81 (lv_at hl 0 rfl) ?_
        refine k_X_130 C hw h ⟨Nat.le_of_ble_eq_true rfl, Nat.le_of_ble_eq_true rfl, Nat.le_of_ble_eq_true rfl, Nat.le_of_ble_eq_true rfl⟩ hl.1 (Nat.le_of_ble_eq_true rfl) d_X_slope_83 (fun r11 u12 H locs h hw => ?_)
        refine lv_goto (tgt := 96) C.2.1 C.2.2.1 d_X_slope_86 (by decide) ?_
        exact g_lret C hw h d_X_slope_96
    · have h := h.2 c
      exact w_X_slope_24 C htab  _ _ _ _ hw (lv_sub hl [] rfl) h
/-! CoderTables.layLeads(II)V -/
abbrev rm_X_layLeads : Room := { frames := 1, cells := 0, slots := 0, locals := 21 }
def q_X_layLeads_83 (K7 : Int32 → Int32 → Int32 → CT → Prop) (x1 : Int32) (x2 : Int32) (x3 : Int32) (u : CT) (post : CT → Prop) : Prop :=
  K7 (x1) (x2) ((x3) + 1) (u)
set_option maxRecDepth 100000 in
theorem w_X_layLeads_83 {p : Program} {l : Launch} {e : Env} {s : State} {m : MethodId} {args : Array Value} {below : List Frame} {meth : Method} {c : Code} {Z : ZT} {ad : Nat → Nat} {u0 : CT} {post : CT → Prop} {K7 : Int32 → Int32 → Int32 → CT → Prop} (C : CX "CoderTables" b_X_layLeads 6 none Z (va_A (cX Z ad u0) s.heap.size) p l s m args meth c) (htab : ∀ x ∈ c.exceptionTable.toList, False) (hK7 : ∀ (x1 : Int32) (x2 : Int32) (x3 : Int32) (u : CT) (H : Heap) (locs : List Loc) (ls : Array Slot), K7 x1 x2 x3 u → WD Z (va_A (cX Z ad u0) s.heap.size) s (cX Z ad u) H locs → lv_has ls 6 [(0, .ref (ad 0)), (1, .int (x1)), (2, .int (x2)), (3, .int (x3))] → W p l e rm_X_layLeads s m args below meth c H locs 0 0 (vx_MQ below (pQv Z (cX Z ad) (cX Z ad u0) s.heap.size post) (pX Z (cX Z ad) (cX Z ad u0) s.heap.size (fun _ _ => False)) args s 0 0 rm_X_layLeads.cells rm_X_layLeads.slots (va_A (cX Z ad u0) s.heap.size)) (F0 m 7 ls [])) (x1 : Int32) (x2 : Int32) (x3 : Int32) (u : CT) (H : Heap) (locs : List Loc) (ls : Array Slot) (hw : WD Z (va_A (cX Z ad u0) s.heap.size) s (cX Z ad u) H locs) (hl : lv_has ls 6 [(0, .ref (ad 0)), (1, .int (x1)), (2, .int (x2)), (3, .int (x3))]) (h : q_X_layLeads_83 K7 x1 x2 x3 u post) : W p l e rm_X_layLeads s m args below meth c H locs 0 0 (vx_MQ below (pQv Z (cX Z ad) (cX Z ad u0) s.heap.size post) (pX Z (cX Z ad) (cX Z ad u0) s.heap.size (fun _ _ => False)) args s 0 0 rm_X_layLeads.cells rm_X_layLeads.slots (va_A (cX Z ad u0) s.heap.size)) (F0 m 83 ls []) := by
  unfold q_X_layLeads_83 at h
  refine lv_iinc (v := (x3) + 1) (lv' := [(3, .int ((x3) + 1)), (0, .ref (ad 0)), (1, .int (x1)), (2, .int (x2))]) C.2.1 C.2.2.1 d_X_layLeads_83 hl (k := 3) rfl rfl (by decide) rfl (fun ls hl => ?_)
  refine lv_goto (tgt := 7) C.2.1 C.2.2.1 d_X_layLeads_86 (by decide) ?_
  exact hK7 (x1) (x2) ((x3) + 1) _ _ _ _ h hw (lv_sub hl [1, 2, 3, 0] rfl)
def q_X_layLeads_7 (K7 : Int32 → Int32 → Int32 → CT → Prop) (x1 : Int32) (x2 : Int32) (x3 : Int32) (u : CT) (post : CT → Prop) : Prop :=
  (((x_pictures (u)) ≤ (x3) → post (u)) ∧ (¬ (x_pictures (u)) ≤ (x3) → q_X_isCounted (((x1) * (((24) : Int32))) + (x3)) (u) (fun r1 u2 => (((r1) = 0 → q_X_layLeads_83 K7 (x1) (x2) (x3) (u2) post) ∧ (¬ (r1) = 0 → q_X_isCounted (((x2) * (((24) : Int32))) + (x3)) (u2) (fun r3 u4 => (((r3) = 0 → q_X_layLeads_83 K7 (x1) (x2) (x3) (u4) post) ∧ (¬ (r3) = 0 → (vp_in (((x1) * (((24) : Int32))) + (x3)) 192 ∧ (vp_in (((x2) * (((24) : Int32))) + (x3)) 192 ∧ (vp_in (x_leadCount (u4)) 24 ∧ q_X_layLeads_83 K7 (x1) (x2) (x3) (x_leadCount_s (x_leads_s (u4) (upd (x_leads (u4)) (x_leadCount (u4)).toNatClampNeg ((x_leastBytes (u4) (((x1) * (((24) : Int32))) + (x3)).toNatClampNeg) - (x_leastBytes (u4) (((x2) * (((24) : Int32))) + (x3)).toNatClampNeg)))) ((x_leadCount (x_leads_s (u4) (upd (x_leads (u4)) (x_leadCount (u4)).toNatClampNeg ((x_leastBytes (u4) (((x1) * (((24) : Int32))) + (x3)).toNatClampNeg) - (x_leastBytes (u4) (((x2) * (((24) : Int32))) + (x3)).toNatClampNeg))))) + (((1) : Int32)))) post)))))))))))
set_option maxRecDepth 100000 in
theorem w_X_layLeads_7 {p : Program} {l : Launch} {e : Env} {s : State} {m : MethodId} {args : Array Value} {below : List Frame} {meth : Method} {c : Code} {Z : ZT} {ad : Nat → Nat} {u0 : CT} {post : CT → Prop} {K7 : Int32 → Int32 → Int32 → CT → Prop} (C : CX "CoderTables" b_X_layLeads 6 none Z (va_A (cX Z ad u0) s.heap.size) p l s m args meth c) (htab : ∀ x ∈ c.exceptionTable.toList, False) (hK7 : ∀ (x1 : Int32) (x2 : Int32) (x3 : Int32) (u : CT) (H : Heap) (locs : List Loc) (ls : Array Slot), K7 x1 x2 x3 u → WD Z (va_A (cX Z ad u0) s.heap.size) s (cX Z ad u) H locs → lv_has ls 6 [(0, .ref (ad 0)), (1, .int (x1)), (2, .int (x2)), (3, .int (x3))] → W p l e rm_X_layLeads s m args below meth c H locs 0 0 (vx_MQ below (pQv Z (cX Z ad) (cX Z ad u0) s.heap.size post) (pX Z (cX Z ad) (cX Z ad u0) s.heap.size (fun _ _ => False)) args s 0 0 rm_X_layLeads.cells rm_X_layLeads.slots (va_A (cX Z ad u0) s.heap.size)) (F0 m 7 ls [])) (x1 : Int32) (x2 : Int32) (x3 : Int32) (u : CT) (H : Heap) (locs : List Loc) (ls : Array Slot) (hw : WD Z (va_A (cX Z ad u0) s.heap.size) s (cX Z ad u) H locs) (hl : lv_has ls 6 [(0, .ref (ad 0)), (1, .int (x1)), (2, .int (x2)), (3, .int (x3))]) (h : q_X_layLeads_7 K7 x1 x2 x3 u post) : W p l e rm_X_layLeads s m args below meth c H locs 0 0 (vx_MQ below (pQv Z (cX Z ad) (cX Z ad u0) s.heap.size post) (pX Z (cX Z ad) (cX Z ad u0) s.heap.size (fun _ _ => False)) args s 0 0 rm_X_layLeads.cells rm_X_layLeads.slots (va_A (cX Z ad u0) s.heap.size)) (F0 m 7 ls []) := by
  unfold q_X_layLeads_7 at h
  refine lv_iload_n C.2.1 C.2.2.1 d_X_layLeads_7 rfl (lv_at hl 3 rfl) ?_
  refine lv_aload_n C.2.1 C.2.2.1 d_X_layLeads_8 rfl (lv_at hl 0 rfl) ?_
  refine r_X_13 C hw d_X_layLeads_9 ?_
  refine lv_icmp_ge (tgt := 89) C.2.1 C.2.2.1 d_X_layLeads_12 (by decide) (fun c => ?_) (fun c => ?_)
  · have h := h.1 c
    exact g_vret C hw h d_X_layLeads_89
  · have h := h.2 c
    refine lv_iload_n C.2.1 C.2.2.1 d_X_layLeads_15 rfl (lv_at hl 1 rfl) ?_
    refine lv_bipush (v := (24)) C.2.1 C.2.2.1 d_X_layLeads_16 (by decide) ?_
    refine lv_imul C.2.1 C.2.2.1 d_X_layLeads_18 ?_
    refine lv_iload_n C.2.1 C.2.2.1 d_X_layLeads_19 rfl (lv_at hl 3 rfl) ?_
    refine lv_iadd C.2.1 C.2.2.1 d_X_layLeads_20 ?_
    refine lv_istore (lv' := [(4, .int (((x1) * (((24) : Int32))) + (x3))), (0, .ref (ad 0)), (1, .int (x1)), (2, .int (x2)), (3, .int (x3))]) C.2.1 C.2.2.1 d_X_layLeads_21 hl (by decide) rfl (fun ls hl => ?_)
    refine lv_iload_n C.2.1 C.2.2.1 d_X_layLeads_23 rfl (lv_at hl 3 rfl) ?_
    refine lv_bipush (v := (24)) C.2.1 C.2.2.1 d_X_layLeads_24 (by decide) ?_
    refine lv_imul C.2.1 C.2.2.1 d_X_layLeads_26 ?_
    refine lv_iload_n C.2.1 C.2.2.1 d_X_layLeads_27 rfl (lv_at hl 4 rfl) ?_
    refine lv_iadd C.2.1 C.2.2.1 d_X_layLeads_28 ?_
    refine lv_istore (lv' := [(5, .int (((x2) * (((24) : Int32))) + (x3))), (4, .int (((x1) * (((24) : Int32))) + (x3))), (0, .ref (ad 0)), (1, .int (x1)), (2, .int (x2)), (3, .int (x3))]) C.2.1 C.2.2.1 d_X_layLeads_29 hl (by decide) rfl (fun ls hl => ?_)
    refine lv_aload_n C.2.1 C.2.2.1 d_X_layLeads_31 rfl (lv_at hl 2 rfl) ?_
    refine lv_iload C.2.1 C.2.2.1 d_X_layLeads_32 (lv_at hl 1 rfl) ?_
    refine k_X_224 C hw h ⟨Nat.le_of_ble_eq_true rfl, Nat.le_of_ble_eq_true rfl, Nat.le_of_ble_eq_true rfl, Nat.le_of_ble_eq_true rfl⟩ hl.1 (Nat.le_of_ble_eq_true rfl) d_X_layLeads_34 (fun r1 u2 H locs h hw => ?_)
    refine lv_if_eq (tgt := 83) C.2.1 C.2.2.1 d_X_layLeads_37 (by decide) (fun c => ?_) (fun c => ?_)
    · have h := h.1 c
      exact w_X_layLeads_83 C htab hK7 (x1) (x2) (x3) _ _ _ _ hw (lv_sub hl [2, 3, 4, 5] rfl) h
    · have h := h.2 c
      refine lv_aload_n C.2.1 C.2.2.1 d_X_layLeads_40 rfl (lv_at hl 2 rfl) ?_
      refine lv_iload C.2.1 C.2.2.1 d_X_layLeads_41 (lv_at hl 0 rfl) ?_
      refine k_X_224 C hw h ⟨Nat.le_of_ble_eq_true rfl, Nat.le_of_ble_eq_true rfl, Nat.le_of_ble_eq_true rfl, Nat.le_of_ble_eq_true rfl⟩ hl.1 (Nat.le_of_ble_eq_true rfl) d_X_layLeads_43 (fun r3 u4 H locs h hw => ?_)
      refine lv_if_eq (tgt := 83) C.2.1 C.2.2.1 d_X_layLeads_46 (by decide) (fun c => ?_) (fun c => ?_)
      · have h := h.1 c
        exact w_X_layLeads_83 C htab hK7 (x1) (x2) (x3) _ _ _ _ hw (lv_sub hl [2, 3, 4, 5] rfl) h
      · have h := h.2 c
        refine lv_aload_n C.2.1 C.2.2.1 d_X_layLeads_49 rfl (lv_at hl 2 rfl) ?_
        refine r_X_41 C hw d_X_layLeads_50 ?_
        refine lv_aload_n C.2.1 C.2.2.1 d_X_layLeads_53 rfl (lv_at hl 2 rfl) ?_
        refine r_X_44 C hw d_X_layLeads_54 ?_
        refine lv_aload_n C.2.1 C.2.2.1 d_X_layLeads_57 rfl (lv_at hl 2 rfl) ?_
        refine r_X_20 C hw d_X_layLeads_58 ?_
        refine lv_iload C.2.1 C.2.2.1 d_X_layLeads_61 (lv_at hl 1 rfl) ?_
        obtain ⟨hi, h⟩ := h
        refine al_X_2 C hw hi d_X_layLeads_63 ?_
        refine lv_aload_n C.2.1 C.2.2.1 d_X_layLeads_64 rfl (lv_at hl 2 rfl) ?_
        refine r_X_20 C hw d_X_layLeads_65 ?_
        refine lv_iload C.2.1 C.2.2.1 d_X_layLeads_68 (lv_at hl 0 rfl) ?_
        obtain ⟨hi, h⟩ := h
        refine al_X_2 C hw hi d_X_layLeads_70 ?_
        refine lv_isub C.2.1 C.2.2.1 d_X_layLeads_71 ?_
        obtain ⟨hi, h⟩ := h
        refine as_X_7 C hw hi d_X_layLeads_72 (fun H locs hw => ?_)
        refine lv_aload_n C.2.1 C.2.2.1 d_X_layLeads_73 rfl (lv_at hl 2 rfl) ?_
        refine lv_dup C.2.1 C.2.2.1 d_X_layLeads_74 rfl ?_
        refine r_X_44 C hw d_X_layLeads_75 ?_
        refine lv_iconst (v := (1)) C.2.1 C.2.2.1 d_X_layLeads_78 (by decide) ?_
        refine lv_iadd C.2.1 C.2.2.1 d_X_layLeads_79 ?_
        refine s_X_44 C hw d_X_layLeads_80 (fun H locs hw => ?_)
        exact w_X_layLeads_83 C htab hK7 (x1) (x2) (x3) _ _ _ _ hw (lv_sub hl [2, 3, 4, 5] rfl) h
def q_X_layLeads_7N : Nat → Int32 → Int32 → Int32 → CT → (CT → Prop) → Prop
  | 0 => fun _ _ _ _ _ => False
  | n + 1 => fun x1 x2 x3 u post => q_X_layLeads_7 (fun x1 x2 x3 u => q_X_layLeads_7N n x1 x2 x3 u post) x1 x2 x3 u post
theorem w_X_layLeads_7N {p : Program} {l : Launch} {e : Env} {s : State} {m : MethodId} {args : Array Value} {below : List Frame} {meth : Method} {c : Code} {Z : ZT} {ad : Nat → Nat} {u0 : CT} {post : CT → Prop} (C : CX "CoderTables" b_X_layLeads 6 none Z (va_A (cX Z ad u0) s.heap.size) p l s m args meth c) (htab : ∀ x ∈ c.exceptionTable.toList, False) : ∀ (n : Nat) (x1 : Int32) (x2 : Int32) (x3 : Int32) (u : CT) (H : Heap) (locs : List Loc) (ls : Array Slot), WD Z (va_A (cX Z ad u0) s.heap.size) s (cX Z ad u) H locs → lv_has ls 6 [(0, .ref (ad 0)), (1, .int (x1)), (2, .int (x2)), (3, .int (x3))] → q_X_layLeads_7N n x1 x2 x3 u post → W p l e rm_X_layLeads s m args below meth c H locs 0 0 (vx_MQ below (pQv Z (cX Z ad) (cX Z ad u0) s.heap.size post) (pX Z (cX Z ad) (cX Z ad u0) s.heap.size (fun _ _ => False)) args s 0 0 rm_X_layLeads.cells rm_X_layLeads.slots (va_A (cX Z ad u0) s.heap.size)) (F0 m 7 ls []) := by
  intro n
  induction n with
  | zero => intro x1 x2 x3 u H locs ls hw hl h; exact h.elim
  | succ n ih => intro x1 x2 x3 u H locs ls hw hl h; exact w_X_layLeads_7 C htab (fun x1 x2 x3 u H locs ls h hw hl => ih x1 x2 x3 u H locs ls hw hl h) x1 x2 x3 u H locs ls hw hl h
def q_X_layLeads (p1 : Int32) (p2 : Int32) (u : CT) (post : CT → Prop) : Prop :=
  ∃ n, q_X_layLeads_7N n (p1) (p2) (((0) : Int32)) (x_leadCount_s (u) (((0) : Int32))) post
set_option maxRecDepth 100000 in
theorem c_X_layLeads {l : Launch} {Z : ZT} {ad : Nat → Nat} {u : CT} {post : CT → Prop} {p1 : Int32} {p2 : Int32} (hl0 : l.stackTraces = false) (h : q_X_layLeads p1 p2 u post) : ∀ sz, vx_Met l y_X_layLeads (Cond.code y_X_layLeads b_X_layLeads 6 none :: GW) rm_X_layLeads (pP Z [.ref (ad 0), .int (p1), .int (p2)] (cX Z ad u) sz) (pQv Z (cX Z ad) (cX Z ad u) sz post) (pX Z (cX Z ad) (cX Z ad u) sz (fun _ _ => False)) 0 0 rm_X_layLeads.cells rm_X_layLeads.slots (va_A (cX Z ad u) sz) := by
  refine g_ent (f := cX Z ad) (Qc := fun sz => pQv Z (cX Z ad) (cX Z ad u) sz post) (XC := fun sz => pX Z (cX Z ad) (cX Z ad u) sz (fun _ _ => False)) hl0 (by decide +kernel) (Nat.le_of_ble_eq_true rfl) ?_
  intro p e s m args below meth c ls C htab hw hl
  have hl : lv_has ls 6 [(0, .ref (ad 0)), (1, .int (p1)), (2, .int (p2))] := hl
  unfold q_X_layLeads at h
  refine lv_aload_n C.2.1 C.2.2.1 d_X_layLeads_0 rfl (lv_at hl 0 rfl) ?_
  refine lv_iconst (v := (0)) C.2.1 C.2.2.1 d_X_layLeads_1 (by decide) ?_
  refine s_X_44 C hw d_X_layLeads_2 (fun H locs hw => ?_)
  refine lv_iconst (v := (0)) C.2.1 C.2.2.1 d_X_layLeads_5 (by decide) ?_
  refine lv_istore_n (lv' := [(3, .int (((0) : Int32))), (0, .ref (ad 0)), (1, .int (p1)), (2, .int (p2))]) C.2.1 C.2.2.1 d_X_layLeads_6 rfl hl (by decide) rfl (fun ls hl => ?_)
  obtain ⟨n, h⟩ := h
  exact w_X_layLeads_7N C htab n (p1) (p2) (((0) : Int32)) _ _ _ _ hw (lv_sub hl [1, 2, 3, 0] rfl) h
section KR
variable {own host : String} {cc bytes : ByteArray} {nL maxL index n : Nat} {rt0 rt : Option FieldType} {Z : ZT} {ad : Nat → Nat} {A : Nat → Prop}
variable {p : Program} {l : Launch} {e : Env} {R : Room} {s : State} {m : MethodId} {args : Array Value} {below : List Frame} {meth : Method} {c : Code} {H : Heap} {locs : List Loc} {cells slots : Nat} {Q : State → Prop} {rest : List Value} {pc : Nat} {ls : Array Slot}
theorem k_X_155 {u : CT} {p1 : Int32} {p2 : Int32} {post : CT → Prop} (C : CX "CoderTables" cc nL rt0 Z A p l s m args meth c) (hw : WD Z A s (cX Z ad u) H locs) (h : q_X_layLeads p1 p2 u post) (hR : rmOk rm_X_layLeads 6 R cells slots) (hl : ls.size = nL) (hW : (rest.map fun v => v.category).sum ≤ 8) (hdg : decode cc pc = .ok (.invokevirtual 155, 3)) (kk : ∀ (u' : CT) (H1 : Heap) (locs1 : List Loc), post u' → WD Z A s (cX Z ad u') H1 locs1 → W p l e R s m args below meth c H1 locs1 cells slots Q (F0 m (pc + 3) ls (rest))) : W p l e R s m args below meth c H locs cells slots Q (F0 m pc ls (.int (p2) :: .int (p1) :: .ref (ad 0) :: rest)) :=
  g_V0_v (n := 2) (f := cX Z ad) (As := [.int (p1), .int (p2)]) C hw (c_X_layLeads C.1 h) ⟨w510, w512, w28, w53, w513, (by decide +kernel), (by decide +kernel), (by decide +kernel)⟩ hR 0 rfl rfl rfl hl rfl hW hdg (fun _ _ _ _ _ _ h => h.elim) kk
end KR
/-! CoderTables.countLeads(Z)I -/
abbrev rm_X_countLeads : Room := { frames := 0, cells := 0, slots := 0, locals := 0 }
def q_X_countLeads_40 (K4 : Int32 → Int32 → Int32 → CT → Prop) (x1 : Int32) (x2 : Int32) (x3 : Int32) (u : CT) (post : Int32 → CT → Prop) : Prop :=
  K4 (x1) (x2) ((x3) + 1) (u)
set_option maxRecDepth 100000 in
theorem w_X_countLeads_40 {p : Program} {l : Launch} {e : Env} {s : State} {m : MethodId} {args : Array Value} {below : List Frame} {meth : Method} {c : Code} {Z : ZT} {ad : Nat → Nat} {u0 : CT} {post : Int32 → CT → Prop} {K4 : Int32 → Int32 → Int32 → CT → Prop} (C : CX "CoderTables" b_X_countLeads 4 (some .int) Z (va_A (cX Z ad u0) s.heap.size) p l s m args meth c) (htab : ∀ x ∈ c.exceptionTable.toList, False) (hK4 : ∀ (x1 : Int32) (x2 : Int32) (x3 : Int32) (u : CT) (H : Heap) (locs : List Loc) (ls : Array Slot), K4 x1 x2 x3 u → WD Z (va_A (cX Z ad u0) s.heap.size) s (cX Z ad u) H locs → lv_has ls 4 [(0, .ref (ad 0)), (1, .int (x1)), (2, .int (x2)), (3, .int (x3))] → W p l e rm_X_countLeads s m args below meth c H locs 0 0 (vx_MQ below (pQi Z (cX Z ad) (cX Z ad u0) s.heap.size post) (pX Z (cX Z ad) (cX Z ad u0) s.heap.size (fun _ _ => False)) args s 0 0 rm_X_countLeads.cells rm_X_countLeads.slots (va_A (cX Z ad u0) s.heap.size)) (F0 m 4 ls [])) (x1 : Int32) (x2 : Int32) (x3 : Int32) (u : CT) (H : Heap) (locs : List Loc) (ls : Array Slot) (hw : WD Z (va_A (cX Z ad u0) s.heap.size) s (cX Z ad u) H locs) (hl : lv_has ls 4 [(0, .ref (ad 0)), (1, .int (x1)), (2, .int (x2)), (3, .int (x3))]) (h : q_X_countLeads_40 K4 x1 x2 x3 u post) : W p l e rm_X_countLeads s m args below meth c H locs 0 0 (vx_MQ below (pQi Z (cX Z ad) (cX Z ad u0) s.heap.size post) (pX Z (cX Z ad) (cX Z ad u0) s.heap.size (fun _ _ => False)) args s 0 0 rm_X_countLeads.cells rm_X_countLeads.slots (va_A (cX Z ad u0) s.heap.size)) (F0 m 40 ls []) := by
  unfold q_X_countLeads_40 at h
  refine lv_iinc (v := (x3) + 1) (lv' := [(3, .int ((x3) + 1)), (0, .ref (ad 0)), (1, .int (x1)), (2, .int (x2))]) C.2.1 C.2.2.1 d_X_countLeads_40 hl (k := 3) rfl rfl (by decide) rfl (fun ls hl => ?_)
  refine lv_goto (tgt := 4) C.2.1 C.2.2.1 d_X_countLeads_43 (by decide) ?_
  exact hK4 (x1) (x2) ((x3) + 1) _ _ _ _ h hw (lv_sub hl [1, 2, 3, 0] rfl)
def q_X_countLeads_37 (K4 : Int32 → Int32 → Int32 → CT → Prop) (x1 : Int32) (x2 : Int32) (x3 : Int32) (u : CT) (post : Int32 → CT → Prop) : Prop :=
  q_X_countLeads_40 K4 (x1) ((x2) + 1) (x3) (u) post
set_option maxRecDepth 100000 in
theorem w_X_countLeads_37 {p : Program} {l : Launch} {e : Env} {s : State} {m : MethodId} {args : Array Value} {below : List Frame} {meth : Method} {c : Code} {Z : ZT} {ad : Nat → Nat} {u0 : CT} {post : Int32 → CT → Prop} {K4 : Int32 → Int32 → Int32 → CT → Prop} (C : CX "CoderTables" b_X_countLeads 4 (some .int) Z (va_A (cX Z ad u0) s.heap.size) p l s m args meth c) (htab : ∀ x ∈ c.exceptionTable.toList, False) (hK4 : ∀ (x1 : Int32) (x2 : Int32) (x3 : Int32) (u : CT) (H : Heap) (locs : List Loc) (ls : Array Slot), K4 x1 x2 x3 u → WD Z (va_A (cX Z ad u0) s.heap.size) s (cX Z ad u) H locs → lv_has ls 4 [(0, .ref (ad 0)), (1, .int (x1)), (2, .int (x2)), (3, .int (x3))] → W p l e rm_X_countLeads s m args below meth c H locs 0 0 (vx_MQ below (pQi Z (cX Z ad) (cX Z ad u0) s.heap.size post) (pX Z (cX Z ad) (cX Z ad u0) s.heap.size (fun _ _ => False)) args s 0 0 rm_X_countLeads.cells rm_X_countLeads.slots (va_A (cX Z ad u0) s.heap.size)) (F0 m 4 ls [])) (x1 : Int32) (x2 : Int32) (x3 : Int32) (u : CT) (H : Heap) (locs : List Loc) (ls : Array Slot) (hw : WD Z (va_A (cX Z ad u0) s.heap.size) s (cX Z ad u) H locs) (hl : lv_has ls 4 [(0, .ref (ad 0)), (1, .int (x1)), (2, .int (x2)), (3, .int (x3))]) (h : q_X_countLeads_37 K4 x1 x2 x3 u post) : W p l e rm_X_countLeads s m args below meth c H locs 0 0 (vx_MQ below (pQi Z (cX Z ad) (cX Z ad u0) s.heap.size post) (pX Z (cX Z ad) (cX Z ad u0) s.heap.size (fun _ _ => False)) args s 0 0 rm_X_countLeads.cells rm_X_countLeads.slots (va_A (cX Z ad u0) s.heap.size)) (F0 m 37 ls []) := by
  unfold q_X_countLeads_37 at h
  refine lv_iinc (v := (x2) + 1) (lv' := [(2, .int ((x2) + 1)), (0, .ref (ad 0)), (1, .int (x1)), (3, .int (x3))]) C.2.1 C.2.2.1 d_X_countLeads_37 hl (k := 2) rfl rfl (by decide) rfl (fun ls hl => ?_)
  exact w_X_countLeads_40 C htab hK4 (x1) ((x2) + 1) (x3) _ _ _ _ hw (lv_sub hl [1, 2, 0, 3] rfl) h
def q_X_countLeads_4 (K4 : Int32 → Int32 → Int32 → CT → Prop) (x1 : Int32) (x2 : Int32) (x3 : Int32) (u : CT) (post : Int32 → CT → Prop) : Prop :=
  (((x_leadCount (u)) ≤ (x3) → post (x2) (u)) ∧ (¬ (x_leadCount (u)) ≤ (x3) → (((x1) = 0 → (vp_in (x3) 24 ∧ (((x_leads (u) (x3).toNatClampNeg) ≤ 0 → q_X_countLeads_40 K4 (x1) (x2) (x3) (u) post) ∧ (¬ (x_leads (u) (x3).toNatClampNeg) ≤ 0 → q_X_countLeads_37 K4 (x1) (x2) (x3) (u) post)))) ∧ (¬ (x1) = 0 → (vp_in (x3) 24 ∧ ((0 ≤ (x_leads (u) (x3).toNatClampNeg) → q_X_countLeads_40 K4 (x1) (x2) (x3) (u) post) ∧ (¬ 0 ≤ (x_leads (u) (x3).toNatClampNeg) → q_X_countLeads_37 K4 (x1) (x2) (x3) (u) post)))))))
set_option maxRecDepth 100000 in
theorem w_X_countLeads_4 {p : Program} {l : Launch} {e : Env} {s : State} {m : MethodId} {args : Array Value} {below : List Frame} {meth : Method} {c : Code} {Z : ZT} {ad : Nat → Nat} {u0 : CT} {post : Int32 → CT → Prop} {K4 : Int32 → Int32 → Int32 → CT → Prop} (C : CX "CoderTables" b_X_countLeads 4 (some .int) Z (va_A (cX Z ad u0) s.heap.size) p l s m args meth c) (htab : ∀ x ∈ c.exceptionTable.toList, False) (hK4 : ∀ (x1 : Int32) (x2 : Int32) (x3 : Int32) (u : CT) (H : Heap) (locs : List Loc) (ls : Array Slot), K4 x1 x2 x3 u → WD Z (va_A (cX Z ad u0) s.heap.size) s (cX Z ad u) H locs → lv_has ls 4 [(0, .ref (ad 0)), (1, .int (x1)), (2, .int (x2)), (3, .int (x3))] → W p l e rm_X_countLeads s m args below meth c H locs 0 0 (vx_MQ below (pQi Z (cX Z ad) (cX Z ad u0) s.heap.size post) (pX Z (cX Z ad) (cX Z ad u0) s.heap.size (fun _ _ => False)) args s 0 0 rm_X_countLeads.cells rm_X_countLeads.slots (va_A (cX Z ad u0) s.heap.size)) (F0 m 4 ls [])) (x1 : Int32) (x2 : Int32) (x3 : Int32) (u : CT) (H : Heap) (locs : List Loc) (ls : Array Slot) (hw : WD Z (va_A (cX Z ad u0) s.heap.size) s (cX Z ad u) H locs) (hl : lv_has ls 4 [(0, .ref (ad 0)), (1, .int (x1)), (2, .int (x2)), (3, .int (x3))]) (h : q_X_countLeads_4 K4 x1 x2 x3 u post) : W p l e rm_X_countLeads s m args below meth c H locs 0 0 (vx_MQ below (pQi Z (cX Z ad) (cX Z ad u0) s.heap.size post) (pX Z (cX Z ad) (cX Z ad u0) s.heap.size (fun _ _ => False)) args s 0 0 rm_X_countLeads.cells rm_X_countLeads.slots (va_A (cX Z ad u0) s.heap.size)) (F0 m 4 ls []) := by
  unfold q_X_countLeads_4 at h
  refine lv_iload_n C.2.1 C.2.2.1 d_X_countLeads_4 rfl (lv_at hl 3 rfl) ?_
  refine lv_aload_n C.2.1 C.2.2.1 d_X_countLeads_5 rfl (lv_at hl 0 rfl) ?_
  refine r_X_44 C hw d_X_countLeads_6 ?_
  refine lv_icmp_ge (tgt := 46) C.2.1 C.2.2.1 d_X_countLeads_9 (by decide) (fun c => ?_) (fun c => ?_)
  · have h := h.1 c
    refine lv_iload_n C.2.1 C.2.2.1 d_X_countLeads_46 rfl (lv_at hl 2 rfl) ?_
    exact g_iret C hw rfl h d_X_countLeads_47
  · have h := h.2 c
    refine lv_iload_n C.2.1 C.2.2.1 d_X_countLeads_12 rfl (lv_at hl 1 rfl) ?_
    refine lv_if_eq (tgt := 28) C.2.1 C.2.2.1 d_X_countLeads_13 (by decide) (fun c => ?_) (fun c => ?_)
    · have h := h.1 c
      refine lv_aload_n C.2.1 C.2.2.1 d_X_countLeads_28 rfl (lv_at hl 0 rfl) ?_
      refine r_X_41 C hw d_X_countLeads_29 ?_
      refine lv_iload_n C.2.1 C.2.2.1 d_X_countLeads_32 rfl (lv_at hl 3 rfl) ?_
      obtain ⟨hi, h⟩ := h
      refine al_X_7 C hw hi d_X_countLeads_33 ?_
      refine lv_if_le (tgt := 40) C.2.1 C.2.2.1 d_X_countLeads_34 (by decide) (fun c => ?_) (fun c => ?_)
      · have h := h.1 c
        exact w_X_countLeads_40 C htab hK4 (x1) (x2) (x3) _ _ _ _ hw (lv_sub hl [0, 1, 2, 3] rfl) h
      · have h := h.2 c
        exact w_X_countLeads_37 C htab hK4 (x1) (x2) (x3) _ _ _ _ hw (lv_sub hl [0, 1, 2, 3] rfl) h
    · have h := h.2 c
      refine lv_aload_n C.2.1 C.2.2.1 d_X_countLeads_16 rfl (lv_at hl 0 rfl) ?_
      refine r_X_41 C hw d_X_countLeads_17 ?_
      refine lv_iload_n C.2.1 C.2.2.1 d_X_countLeads_20 rfl (lv_at hl 3 rfl) ?_
      obtain ⟨hi, h⟩ := h
      refine al_X_7 C hw hi d_X_countLeads_21 ?_
      refine lv_if_ge (tgt := 40) C.2.1 C.2.2.1 d_X_countLeads_22 (by decide) (fun c => ?_) (fun c => ?_)
      · have h := h.1 c
        exact w_X_countLeads_40 C htab hK4 (x1) (x2) (x3) _ _ _ _ hw (lv_sub hl [0, 1, 2, 3] rfl) h
      · have h := h.2 c
        refine lv_goto (tgt := 37) C.2.1 C.2.2.1 d_X_countLeads_25 (by decide) ?_
        exact w_X_countLeads_37 C htab hK4 (x1) (x2) (x3) _ _ _ _ hw (lv_sub hl [0, 1, 2, 3] rfl) h
def q_X_countLeads_4N : Nat → Int32 → Int32 → Int32 → CT → (Int32 → CT → Prop) → Prop
  | 0 => fun _ _ _ _ _ => False
  | n + 1 => fun x1 x2 x3 u post => q_X_countLeads_4 (fun x1 x2 x3 u => q_X_countLeads_4N n x1 x2 x3 u post) x1 x2 x3 u post
theorem w_X_countLeads_4N {p : Program} {l : Launch} {e : Env} {s : State} {m : MethodId} {args : Array Value} {below : List Frame} {meth : Method} {c : Code} {Z : ZT} {ad : Nat → Nat} {u0 : CT} {post : Int32 → CT → Prop} (C : CX "CoderTables" b_X_countLeads 4 (some .int) Z (va_A (cX Z ad u0) s.heap.size) p l s m args meth c) (htab : ∀ x ∈ c.exceptionTable.toList, False) : ∀ (n : Nat) (x1 : Int32) (x2 : Int32) (x3 : Int32) (u : CT) (H : Heap) (locs : List Loc) (ls : Array Slot), WD Z (va_A (cX Z ad u0) s.heap.size) s (cX Z ad u) H locs → lv_has ls 4 [(0, .ref (ad 0)), (1, .int (x1)), (2, .int (x2)), (3, .int (x3))] → q_X_countLeads_4N n x1 x2 x3 u post → W p l e rm_X_countLeads s m args below meth c H locs 0 0 (vx_MQ below (pQi Z (cX Z ad) (cX Z ad u0) s.heap.size post) (pX Z (cX Z ad) (cX Z ad u0) s.heap.size (fun _ _ => False)) args s 0 0 rm_X_countLeads.cells rm_X_countLeads.slots (va_A (cX Z ad u0) s.heap.size)) (F0 m 4 ls []) := by
  intro n
  induction n with
  | zero => intro x1 x2 x3 u H locs ls hw hl h; exact h.elim
  | succ n ih => intro x1 x2 x3 u H locs ls hw hl h; exact w_X_countLeads_4 C htab (fun x1 x2 x3 u H locs ls h hw hl => ih x1 x2 x3 u H locs ls hw hl h) x1 x2 x3 u H locs ls hw hl h
def q_X_countLeads (p1 : Int32) (u : CT) (post : Int32 → CT → Prop) : Prop :=
  ∃ n, q_X_countLeads_4N n (p1) (((0) : Int32)) (((0) : Int32)) (u) post
set_option maxRecDepth 100000 in
theorem c_X_countLeads {l : Launch} {Z : ZT} {ad : Nat → Nat} {u : CT} {post : Int32 → CT → Prop} {p1 : Int32} (hl0 : l.stackTraces = false) (h : q_X_countLeads p1 u post) : ∀ sz, vx_Met l y_X_countLeads (Cond.code y_X_countLeads b_X_countLeads 4 (some .int) :: GW) rm_X_countLeads (pP Z [.ref (ad 0), .int (p1)] (cX Z ad u) sz) (pQi Z (cX Z ad) (cX Z ad u) sz post) (pX Z (cX Z ad) (cX Z ad u) sz (fun _ _ => False)) 0 0 rm_X_countLeads.cells rm_X_countLeads.slots (va_A (cX Z ad u) sz) := by
  refine g_ent (f := cX Z ad) (Qc := fun sz => pQi Z (cX Z ad) (cX Z ad u) sz post) (XC := fun sz => pX Z (cX Z ad) (cX Z ad u) sz (fun _ _ => False)) hl0 (by decide +kernel) (Nat.le_of_ble_eq_true rfl) ?_
  intro p e s m args below meth c ls C htab hw hl
  have hl : lv_has ls 4 [(0, .ref (ad 0)), (1, .int (p1))] := hl
  unfold q_X_countLeads at h
  refine lv_iconst (v := (0)) C.2.1 C.2.2.1 d_X_countLeads_0 (by decide) ?_
  refine lv_istore_n (lv' := [(2, .int (((0) : Int32))), (0, .ref (ad 0)), (1, .int (p1))]) C.2.1 C.2.2.1 d_X_countLeads_1 rfl hl (by decide) rfl (fun ls hl => ?_)
  refine lv_iconst (v := (0)) C.2.1 C.2.2.1 d_X_countLeads_2 (by decide) ?_
  refine lv_istore_n (lv' := [(3, .int (((0) : Int32))), (2, .int (((0) : Int32))), (0, .ref (ad 0)), (1, .int (p1))]) C.2.1 C.2.2.1 d_X_countLeads_3 rfl hl (by decide) rfl (fun ls hl => ?_)
  obtain ⟨n, h⟩ := h
  exact w_X_countLeads_4N C htab n (p1) (((0) : Int32)) (((0) : Int32)) _ _ _ _ hw (lv_sub hl [2, 3, 1, 0] rfl) h
section KR
variable {own host : String} {cc bytes : ByteArray} {nL maxL index n : Nat} {rt0 rt : Option FieldType} {Z : ZT} {ad : Nat → Nat} {A : Nat → Prop}
variable {p : Program} {l : Launch} {e : Env} {R : Room} {s : State} {m : MethodId} {args : Array Value} {below : List Frame} {meth : Method} {c : Code} {H : Heap} {locs : List Loc} {cells slots : Nat} {Q : State → Prop} {rest : List Value} {pc : Nat} {ls : Array Slot}
theorem k_X_159 {u : CT} {p1 : Int32} {post : Int32 → CT → Prop} (C : CX "CoderTables" cc nL rt0 Z A p l s m args meth c) (hw : WD Z A s (cX Z ad u) H locs) (h : q_X_countLeads p1 u post) (hR : rmOk rm_X_countLeads 4 R cells slots) (hl : ls.size = nL) (hW : (rest.map fun v => v.category).sum ≤ 8) (hdg : decode cc pc = .ok (.invokevirtual 159, 3)) (kk : ∀ (r : Int32) (u' : CT) (H1 : Heap) (locs1 : List Loc), post r u' → WD Z A s (cX Z ad u') H1 locs1 → W p l e R s m args below meth c H1 locs1 cells slots Q (F0 m (pc + 3) ls (.int r :: rest))) : W p l e R s m args below meth c H locs cells slots Q (F0 m pc ls (.int (p1) :: .ref (ad 0) :: rest)) :=
  g_V0_i (n := 1) (f := cX Z ad) (As := [.int (p1)]) C hw (c_X_countLeads C.1 h) ⟨w514, w516, w29, w53, w517, (by decide +kernel), (by decide +kernel), (by decide +kernel)⟩ hR 0 rfl rfl rfl hl rfl hW hdg (fun _ _ _ _ _ _ h => h.elim) kk
end KR
/-! CoderTables.odds(IIZ)J -/
abbrev rm_X_odds : Room := { frames := 1, cells := 0, slots := 0, locals := 30 }
def q_X_odds_8 (K8 : Int32 → Int32 → Int32 → Int64 → Int64 → Int32 → CT → Prop) (x0 : Int32) (x1 : Int32) (x2 : Int32) (x3 : Int64) (x5 : Int64) (x7 : Int32) (u : CT) (post : Int64 → CT → Prop) : Prop :=
  (((x1) < (x7) → (((x2) = 0 → q_X_inLowestTerms (((1 : Int64)) <<< ((x0).toInt64 &&& 63)) (if (((1 : Int64)) <<< ((x0).toInt64 &&& 63)) < (((2 : Int64)) * (x5)) then (((1 : Int64)) <<< ((x0).toInt64 &&& 63)) else (((2 : Int64)) * (x5))) (u) (fun r1 u2 => post (r1) (u2))) ∧ (¬ (x2) = 0 → q_X_inLowestTerms (if (((1 : Int64)) <<< ((x0).toInt64 &&& 63)) < (((2 : Int64)) * (x5)) then (((1 : Int64)) <<< ((x0).toInt64 &&& 63)) else (((2 : Int64)) * (x5))) (((1 : Int64)) <<< ((x0).toInt64 &&& 63)) (u) (fun r3 u4 => post (r3) (u4))))) ∧ (¬ (x1) < (x7) → (¬ ((x7).toInt64) = 0 ∧ K8 (x0) (x1) (x2) (((x3) * ((((x0) - (x7)) + (((1) : Int32))).toInt64)) / ((x7).toInt64)) ((x5) + (((x3) * ((((x0) - (x7)) + (((1) : Int32))).toInt64)) / ((x7).toInt64))) ((x7) + 1) (u))))
set_option maxRecDepth 100000 in
theorem w_X_odds_8 {p : Program} {l : Launch} {e : Env} {s : State} {m : MethodId} {args : Array Value} {below : List Frame} {meth : Method} {c : Code} {Z : ZT} {ad : Nat → Nat} {u0 : CT} {post : Int64 → CT → Prop} {K8 : Int32 → Int32 → Int32 → Int64 → Int64 → Int32 → CT → Prop} (C : CX "CoderTables" b_X_odds 11 (some .long) Z (va_A (cX Z ad u0) s.heap.size) p l s m args meth c) (htab : ∀ x ∈ c.exceptionTable.toList, False) (hK8 : ∀ (x0 : Int32) (x1 : Int32) (x2 : Int32) (x3 : Int64) (x5 : Int64) (x7 : Int32) (u : CT) (H : Heap) (locs : List Loc) (ls : Array Slot), K8 x0 x1 x2 x3 x5 x7 u → WD Z (va_A (cX Z ad u0) s.heap.size) s (cX Z ad u) H locs → lv_has ls 11 [(0, .int (x0)), (1, .int (x1)), (2, .int (x2)), (3, .long (x3)), (5, .long (x5)), (7, .int (x7))] → W p l e rm_X_odds s m args below meth c H locs 0 0 (vx_MQ below (pQl Z (cX Z ad) (cX Z ad u0) s.heap.size post) (pX Z (cX Z ad) (cX Z ad u0) s.heap.size (fun _ _ => False)) args s 0 0 rm_X_odds.cells rm_X_odds.slots (va_A (cX Z ad u0) s.heap.size)) (F0 m 8 ls [])) (x0 : Int32) (x1 : Int32) (x2 : Int32) (x3 : Int64) (x5 : Int64) (x7 : Int32) (u : CT) (H : Heap) (locs : List Loc) (ls : Array Slot) (hw : WD Z (va_A (cX Z ad u0) s.heap.size) s (cX Z ad u) H locs) (hl : lv_has ls 11 [(0, .int (x0)), (1, .int (x1)), (2, .int (x2)), (3, .long (x3)), (5, .long (x5)), (7, .int (x7))]) (h : q_X_odds_8 K8 x0 x1 x2 x3 x5 x7 u post) : W p l e rm_X_odds s m args below meth c H locs 0 0 (vx_MQ below (pQl Z (cX Z ad) (cX Z ad u0) s.heap.size post) (pX Z (cX Z ad) (cX Z ad u0) s.heap.size (fun _ _ => False)) args s 0 0 rm_X_odds.cells rm_X_odds.slots (va_A (cX Z ad u0) s.heap.size)) (F0 m 8 ls []) := by
  unfold q_X_odds_8 at h
  refine lv_iload C.2.1 C.2.2.1 d_X_odds_8 (lv_at hl 5 rfl) ?_
  refine lv_iload_n C.2.1 C.2.2.1 d_X_odds_10 rfl (lv_at hl 1 rfl) ?_
  refine lv_icmp_gt (tgt := 40) C.2.1 C.2.2.1 d_X_odds_11 (by decide) (fun c => ?_) (fun c => ?_)
  · have h := h.1 c
    refine lv_lconst (v := 1) C.2.1 C.2.2.1 d_X_odds_40 (by decide) ?_
    refine lv_iload_n C.2.1 C.2.2.1 d_X_odds_41 rfl (lv_at hl 0 rfl) ?_
    refine lv_lshl C.2.1 C.2.2.1 d_X_odds_42 rfl ?_
    refine lv_lstore (lv' := [(7, .long (((1 : Int64)) <<< ((x0).toInt64 &&& 63))), (0, .int (x0)), (1, .int (x1)), (2, .int (x2)), (3, .long (x3)), (5, .long (x5))]) C.2.1 C.2.2.1 d_X_odds_43 hl (by decide) rfl (fun ls hl => ?_)
    refine lv_ldc2 (v := 2) C.2.1 C.2.2.1 C.2.2.2.2.1 (C.2.2.2.2.2.1 _ w524) d_X_odds_45 ?_
    refine lv_lload C.2.1 C.2.2.1 d_X_odds_48 (lv_at hl 5 rfl) ?_
    refine lv_lmul C.2.1 C.2.2.1 d_X_odds_50 ?_
    refine lv_lload C.2.1 C.2.2.1 d_X_odds_51 (lv_at hl 0 rfl) ?_
    refine va_mmin_long C.2.1 C.2.2.1 (by rw [hl.1]; exact C.2.2.2.1) C.2.2.2.2.1 (C.2.2.2.2.2.1 _ w525) (C.2.2.2.2.2.1 _ w526) (C.2.2.2.2.2.1 _ w65) (C.2.2.2.2.2.1 _ w527) (Nat.le_of_ble_eq_true rfl) (Nat.le_of_ble_eq_true rfl) (Nat.le_of_ble_eq_true rfl) (Nat.le_of_ble_eq_true rfl) d_X_odds_53 ?_
    refine lv_lstore (lv' := [(9, .long (if (((1 : Int64)) <<< ((x0).toInt64 &&& 63)) < (((2 : Int64)) * (x5)) then (((1 : Int64)) <<< ((x0).toInt64 &&& 63)) else (((2 : Int64)) * (x5)))), (7, .long (((1 : Int64)) <<< ((x0).toInt64 &&& 63))), (0, .int (x0)), (1, .int (x1)), (2, .int (x2)), (3, .long (x3)), (5, .long (x5))]) C.2.1 C.2.2.1 d_X_odds_56 hl (by decide) rfl (fun ls hl => ?_)
    refine lv_iload_n C.2.1 C.2.2.1 d_X_odds_58 rfl (lv_at hl 4 rfl) ?_
    refine lv_if_eq (tgt := 72) C.2.1 C.2.2.1 d_X_odds_59 (by decide) (fun c => ?_) (fun c => ?_)
    · have h := h.1 c
      refine lv_lload C.2.1 C.2.2.1 d_X_odds_72 (lv_at hl 1 rfl) ?_
      refine lv_lload C.2.1 C.2.2.1 d_X_odds_74 (lv_at hl 0 rfl) ?_
      refine k_X_130 C hw h ⟨Nat.le_of_ble_eq_true rfl, Nat.le_of_ble_eq_true rfl, Nat.le_of_ble_eq_true rfl, Nat.le_of_ble_eq_true rfl⟩ hl.1 (Nat.le_of_ble_eq_true rfl) d_X_odds_76 (fun r1 u2 H locs h hw => ?_)
      exact g_lret C hw h d_X_odds_79
    · have h := h.2 c
      refine lv_lload C.2.1 C.2.2.1 d_X_odds_62 (lv_at hl 0 rfl) ?_
      refine lv_lload C.2.1 C.2.2.1 d_X_odds_64 (lv_at hl 1 rfl) ?_
      refine k_X_130 C hw h ⟨Nat.le_of_ble_eq_true rfl, Nat.le_of_ble_eq_true rfl, Nat.le_of_ble_eq_true rfl, Nat.le_of_ble_eq_true rfl⟩ hl.1 (Nat.le_of_ble_eq_true rfl) d_X_odds_66 (fun r3 u4 H locs h hw => ?_)
      refine lv_goto (tgt := 79) C.2.1 C.2.2.1 d_X_odds_69 (by decide) ?_
      exact g_lret C hw h d_X_odds_79
  · have h := h.2 c
    refine lv_lload_n C.2.1 C.2.2.1 d_X_odds_14 rfl (lv_at hl 3 rfl) ?_
    refine lv_iload_n C.2.1 C.2.2.1 d_X_odds_15 rfl (lv_at hl 0 rfl) ?_
    refine lv_iload C.2.1 C.2.2.1 d_X_odds_16 (lv_at hl 5 rfl) ?_
    refine lv_isub C.2.1 C.2.2.1 d_X_odds_18 ?_
    refine lv_iconst (v := (1)) C.2.1 C.2.2.1 d_X_odds_19 (by decide) ?_
    refine lv_iadd C.2.1 C.2.2.1 d_X_odds_20 ?_
    refine lv_i2l C.2.1 C.2.2.1 d_X_odds_21 rfl ?_
    refine lv_lmul C.2.1 C.2.2.1 d_X_odds_22 ?_
    refine lv_iload C.2.1 C.2.2.1 d_X_odds_23 (lv_at hl 5 rfl) ?_
    refine lv_i2l C.2.1 C.2.2.1 d_X_odds_25 rfl ?_
    obtain ⟨h0, h⟩ := h
    refine lv_ldiv C.2.1 C.2.2.1 d_X_odds_26 h0 ?_
    refine lv_lstore_n (lv' := [(3, .long (((x3) * ((((x0) - (x7)) + (((1) : Int32))).toInt64)) / ((x7).toInt64))), (0, .int (x0)), (1, .int (x1)), (2, .int (x2)), (5, .long (x5)), (7, .int (x7))]) C.2.1 C.2.2.1 d_X_odds_27 rfl hl (by decide) rfl (fun ls hl => ?_)
    refine lv_lload C.2.1 C.2.2.1 d_X_odds_28 (lv_at hl 4 rfl) ?_
    refine lv_lload_n C.2.1 C.2.2.1 d_X_odds_30 rfl (lv_at hl 0 rfl) ?_
    refine lv_ladd C.2.1 C.2.2.1 d_X_odds_31 ?_
    refine lv_lstore (lv' := [(5, .long ((x5) + (((x3) * ((((x0) - (x7)) + (((1) : Int32))).toInt64)) / ((x7).toInt64)))), (3, .long (((x3) * ((((x0) - (x7)) + (((1) : Int32))).toInt64)) / ((x7).toInt64))), (0, .int (x0)), (1, .int (x1)), (2, .int (x2)), (7, .int (x7))]) C.2.1 C.2.2.1 d_X_odds_32 hl (by decide) rfl (fun ls hl => ?_)
    refine lv_iinc (v := (x7) + 1) (lv' := [(7, .int ((x7) + 1)), (5, .long ((x5) + (((x3) * ((((x0) - (x7)) + (((1) : Int32))).toInt64)) / ((x7).toInt64)))), (3, .long (((x3) * ((((x0) - (x7)) + (((1) : Int32))).toInt64)) / ((x7).toInt64))), (0, .int (x0)), (1, .int (x1)), (2, .int (x2))]) C.2.1 C.2.2.1 d_X_odds_34 hl (k := 5) rfl rfl (by decide) rfl (fun ls hl => ?_)
    refine lv_goto (tgt := 8) C.2.1 C.2.2.1 d_X_odds_37 (by decide) ?_
    exact hK8 (x0) (x1) (x2) (((x3) * ((((x0) - (x7)) + (((1) : Int32))).toInt64)) / ((x7).toInt64)) ((x5) + (((x3) * ((((x0) - (x7)) + (((1) : Int32))).toInt64)) / ((x7).toInt64))) ((x7) + 1) _ _ _ _ h hw (lv_sub hl [3, 4, 5, 2, 1, 0] rfl)
def q_X_odds_8N : Nat → Int32 → Int32 → Int32 → Int64 → Int64 → Int32 → CT → (Int64 → CT → Prop) → Prop
  | 0 => fun _ _ _ _ _ _ _ _ => False
  | n + 1 => fun x0 x1 x2 x3 x5 x7 u post => q_X_odds_8 (fun x0 x1 x2 x3 x5 x7 u => q_X_odds_8N n x0 x1 x2 x3 x5 x7 u post) x0 x1 x2 x3 x5 x7 u post
theorem w_X_odds_8N {p : Program} {l : Launch} {e : Env} {s : State} {m : MethodId} {args : Array Value} {below : List Frame} {meth : Method} {c : Code} {Z : ZT} {ad : Nat → Nat} {u0 : CT} {post : Int64 → CT → Prop} (C : CX "CoderTables" b_X_odds 11 (some .long) Z (va_A (cX Z ad u0) s.heap.size) p l s m args meth c) (htab : ∀ x ∈ c.exceptionTable.toList, False) : ∀ (n : Nat) (x0 : Int32) (x1 : Int32) (x2 : Int32) (x3 : Int64) (x5 : Int64) (x7 : Int32) (u : CT) (H : Heap) (locs : List Loc) (ls : Array Slot), WD Z (va_A (cX Z ad u0) s.heap.size) s (cX Z ad u) H locs → lv_has ls 11 [(0, .int (x0)), (1, .int (x1)), (2, .int (x2)), (3, .long (x3)), (5, .long (x5)), (7, .int (x7))] → q_X_odds_8N n x0 x1 x2 x3 x5 x7 u post → W p l e rm_X_odds s m args below meth c H locs 0 0 (vx_MQ below (pQl Z (cX Z ad) (cX Z ad u0) s.heap.size post) (pX Z (cX Z ad) (cX Z ad u0) s.heap.size (fun _ _ => False)) args s 0 0 rm_X_odds.cells rm_X_odds.slots (va_A (cX Z ad u0) s.heap.size)) (F0 m 8 ls []) := by
  intro n
  induction n with
  | zero => intro x0 x1 x2 x3 x5 x7 u H locs ls hw hl h; exact h.elim
  | succ n ih => intro x0 x1 x2 x3 x5 x7 u H locs ls hw hl h; exact w_X_odds_8 C htab (fun x0 x1 x2 x3 x5 x7 u H locs ls h hw hl => ih x0 x1 x2 x3 x5 x7 u H locs ls hw hl h) x0 x1 x2 x3 x5 x7 u H locs ls hw hl h
def q_X_odds (p0 : Int32) (p1 : Int32) (p2 : Int32) (u : CT) (post : Int64 → CT → Prop) : Prop :=
  ∃ n, q_X_odds_8N n (p0) (p1) (p2) ((1 : Int64)) ((1 : Int64)) (((1) : Int32)) (u) post
set_option maxRecDepth 100000 in
theorem c_X_odds {l : Launch} {Z : ZT} {ad : Nat → Nat} {u : CT} {post : Int64 → CT → Prop} {p0 : Int32} {p1 : Int32} {p2 : Int32} (hl0 : l.stackTraces = false) (h : q_X_odds p0 p1 p2 u post) : ∀ sz, vx_Met l y_X_odds (Cond.code y_X_odds b_X_odds 11 (some .long) :: GW) rm_X_odds (pP Z [.int (p0), .int (p1), .int (p2)] (cX Z ad u) sz) (pQl Z (cX Z ad) (cX Z ad u) sz post) (pX Z (cX Z ad) (cX Z ad u) sz (fun _ _ => False)) 0 0 rm_X_odds.cells rm_X_odds.slots (va_A (cX Z ad u) sz) := by
  refine g_ent (f := cX Z ad) (Qc := fun sz => pQl Z (cX Z ad) (cX Z ad u) sz post) (XC := fun sz => pX Z (cX Z ad) (cX Z ad u) sz (fun _ _ => False)) hl0 (by decide +kernel) (Nat.le_of_ble_eq_true rfl) ?_
  intro p e s m args below meth c ls C htab hw hl
  have hl : lv_has ls 11 [(0, .int (p0)), (1, .int (p1)), (2, .int (p2))] := hl
  unfold q_X_odds at h
  refine lv_lconst (v := 1) C.2.1 C.2.2.1 d_X_odds_0 (by decide) ?_
  refine lv_lstore_n (lv' := [(3, .long ((1 : Int64))), (0, .int (p0)), (1, .int (p1)), (2, .int (p2))]) C.2.1 C.2.2.1 d_X_odds_1 rfl hl (by decide) rfl (fun ls hl => ?_)
  refine lv_lconst (v := 1) C.2.1 C.2.2.1 d_X_odds_2 (by decide) ?_
  refine lv_lstore (lv' := [(5, .long ((1 : Int64))), (3, .long ((1 : Int64))), (0, .int (p0)), (1, .int (p1)), (2, .int (p2))]) C.2.1 C.2.2.1 d_X_odds_3 hl (by decide) rfl (fun ls hl => ?_)
  refine lv_iconst (v := (1)) C.2.1 C.2.2.1 d_X_odds_5 (by decide) ?_
  refine lv_istore (lv' := [(7, .int (((1) : Int32))), (5, .long ((1 : Int64))), (3, .long ((1 : Int64))), (0, .int (p0)), (1, .int (p1)), (2, .int (p2))]) C.2.1 C.2.2.1 d_X_odds_6 hl (by decide) rfl (fun ls hl => ?_)
  obtain ⟨n, h⟩ := h
  exact w_X_odds_8N C htab n (p0) (p1) (p2) ((1 : Int64)) ((1 : Int64)) (((1) : Int32)) _ _ _ _ hw (lv_sub hl [3, 4, 5, 2, 1, 0] rfl) h
section KR
variable {own host : String} {cc bytes : ByteArray} {nL maxL index n : Nat} {rt0 rt : Option FieldType} {Z : ZT} {ad : Nat → Nat} {A : Nat → Prop}
variable {p : Program} {l : Launch} {e : Env} {R : Room} {s : State} {m : MethodId} {args : Array Value} {below : List Frame} {meth : Method} {c : Code} {H : Heap} {locs : List Loc} {cells slots : Nat} {Q : State → Prop} {rest : List Value} {pc : Nat} {ls : Array Slot}
theorem k_X_168 {u : CT} {p0 : Int32} {p1 : Int32} {p2 : Int32} {post : Int64 → CT → Prop} (C : CX "CoderTables" cc nL rt0 Z A p l s m args meth c) (hw : WD Z A s (cX Z ad u) H locs) (h : q_X_odds p0 p1 p2 u post) (hR : rmOk rm_X_odds 11 R cells slots) (hl : ls.size = nL) (hW : (rest.map fun v => v.category).sum ≤ 8) (hdg : decode cc pc = .ok (.invokestatic 168, 3)) (kk : ∀ (r : Int64) (u' : CT) (H1 : Heap) (locs1 : List Loc), post r u' → WD Z A s (cX Z ad u') H1 locs1 → W p l e R s m args below meth c H1 locs1 cells slots Q (F0 m (pc + 3) ls (.long r :: rest))) : W p l e R s m args below meth c H locs cells slots Q (F0 m pc ls (.int (p2) :: .int (p1) :: .int (p0) :: rest)) :=
  g_S0_l (n := 3) (f := cX Z ad) (As := [.int (p0), .int (p1), .int (p2)]) C hw (c_X_odds C.1 h) ⟨w521, w522, w53, w523, (by decide +kernel), (by decide +kernel), (by decide +kernel)⟩ hR rfl hl rfl hW hdg (fun _ _ _ _ _ _ h => h.elim) kk
end KR
