/-! CoderTablesModel.common(JJ)J -/
abbrev rm_M_common : Room := { frames := 0, cells := 0, slots := 0, locals := 0 }
def q_M_common_6 (K6 : Int64 → Int64 → MT → Prop) (x4 : Int64) (x6 : Int64) (u : MT) (post : Int64 → MT → Prop) : Prop :=
  (((lg_cmp (x6) ((0 : Int64))) = 0 → post (x4) (u)) ∧ (¬ (lg_cmp (x6) ((0 : Int64))) = 0 → (¬ (x6) = 0 ∧ K6 (x6) ((x4) - (x4) / (x6) * (x6)) (u))))
set_option maxRecDepth 100000 in
theorem w_M_common_6 {p : Program} {l : Launch} {e : Env} {s : State} {m : MethodId} {args : Array Value} {below : List Frame} {meth : Method} {c : Code} {Z : ZT} {ad : Nat → Nat} {u0 : MT} {post : Int64 → MT → Prop} {K6 : Int64 → Int64 → MT → Prop} (C : CX "CoderTablesModel" b_M_common 10 (some .long) Z (va_A (cM Z ad u0) s.heap.size) p l s m args meth c) (htab : ∀ x ∈ c.exceptionTable.toList, False) (hK6 : ∀ (x4 : Int64) (x6 : Int64) (u : MT) (H : Heap) (locs : List Loc) (ls : Array Slot), K6 x4 x6 u → WD Z (va_A (cM Z ad u0) s.heap.size) s (cM Z ad u) H locs → lv_has ls 10 [(4, .long (x4)), (6, .long (x6))] → W p l e rm_M_common s m args below meth c H locs 0 0 (vx_MQ below (pQl Z (cM Z ad) (cM Z ad u0) s.heap.size post) (pX Z (cM Z ad) (cM Z ad u0) s.heap.size (fun _ _ => False)) args s 0 0 rm_M_common.cells rm_M_common.slots (va_A (cM Z ad u0) s.heap.size)) (F0 m 6 ls [])) (x4 : Int64) (x6 : Int64) (u : MT) (H : Heap) (locs : List Loc) (ls : Array Slot) (hw : WD Z (va_A (cM Z ad u0) s.heap.size) s (cM Z ad u) H locs) (hl : lv_has ls 10 [(4, .long (x4)), (6, .long (x6))]) (h : q_M_common_6 K6 x4 x6 u post) : W p l e rm_M_common s m args below meth c H locs 0 0 (vx_MQ below (pQl Z (cM Z ad) (cM Z ad u0) s.heap.size post) (pX Z (cM Z ad) (cM Z ad u0) s.heap.size (fun _ _ => False)) args s 0 0 rm_M_common.cells rm_M_common.slots (va_A (cM Z ad u0) s.heap.size)) (F0 m 6 ls []) := by
  unfold q_M_common_6 at h
  refine lv_lload C.2.1 C.2.2.1 d_M_common_6 (lv_at hl 1 rfl) ?_
  refine lv_lconst (v := 0) C.2.1 C.2.2.1 d_M_common_8 (by decide) ?_
  refine W.lcmp C.2.1 C.2.2.1 d_M_common_9 ?_
  refine lv_if_eq (tgt := 31) C.2.1 C.2.2.1 d_M_common_10 (by decide) (fun c => ?_) (fun c => ?_)
  · have h := h.1 c
    refine lv_lload C.2.1 C.2.2.1 d_M_common_31 (lv_at hl 0 rfl) ?_
    exact g_lret C hw h d_M_common_33
  · have h := h.2 c
    refine lv_lload C.2.1 C.2.2.1 d_M_common_13 (lv_at hl 0 rfl) ?_
    refine lv_lload C.2.1 C.2.2.1 d_M_common_15 (lv_at hl 1 rfl) ?_
    obtain ⟨h0, h⟩ := h
    refine lv_lrem C.2.1 C.2.2.1 d_M_common_17 h0 ?_
    refine lv_lstore (lv' := [(8, .long ((x4) - (x4) / (x6) * (x6))), (4, .long (x4)), (6, .long (x6))]) C.2.1 C.2.2.1 d_M_common_18 hl (by decide) rfl (fun ls hl => ?_)
    refine lv_lload C.2.1 C.2.2.1 d_M_common_20 (lv_at hl 2 rfl) ?_
    refine lv_lstore (lv' := [(4, .long (x6)), (8, .long ((x4) - (x4) / (x6) * (x6))), (6, .long (x6))]) C.2.1 C.2.2.1 d_M_common_22 hl (by decide) rfl (fun ls hl => ?_)
    refine lv_lload C.2.1 C.2.2.1 d_M_common_24 (lv_at hl 1 rfl) ?_
    refine lv_lstore (lv' := [(6, .long ((x4) - (x4) / (x6) * (x6))), (4, .long (x6)), (8, .long ((x4) - (x4) / (x6) * (x6)))]) C.2.1 C.2.2.1 d_M_common_26 hl (by decide) rfl (fun ls hl => ?_)
    refine lv_goto (tgt := 6) C.2.1 C.2.2.1 d_M_common_28 (by decide) ?_
    exact hK6 (x6) ((x4) - (x4) / (x6) * (x6)) _ _ _ _ h hw (lv_sub hl [1, 0] rfl)
def q_M_common_6N : Nat → Int64 → Int64 → MT → (Int64 → MT → Prop) → Prop
  | 0 => fun _ _ _ _ => False
  | n + 1 => fun x4 x6 u post => q_M_common_6 (fun x4 x6 u => q_M_common_6N n x4 x6 u post) x4 x6 u post
theorem w_M_common_6N {p : Program} {l : Launch} {e : Env} {s : State} {m : MethodId} {args : Array Value} {below : List Frame} {meth : Method} {c : Code} {Z : ZT} {ad : Nat → Nat} {u0 : MT} {post : Int64 → MT → Prop} (C : CX "CoderTablesModel" b_M_common 10 (some .long) Z (va_A (cM Z ad u0) s.heap.size) p l s m args meth c) (htab : ∀ x ∈ c.exceptionTable.toList, False) : ∀ (n : Nat) (x4 : Int64) (x6 : Int64) (u : MT) (H : Heap) (locs : List Loc) (ls : Array Slot), WD Z (va_A (cM Z ad u0) s.heap.size) s (cM Z ad u) H locs → lv_has ls 10 [(4, .long (x4)), (6, .long (x6))] → q_M_common_6N n x4 x6 u post → W p l e rm_M_common s m args below meth c H locs 0 0 (vx_MQ below (pQl Z (cM Z ad) (cM Z ad u0) s.heap.size post) (pX Z (cM Z ad) (cM Z ad u0) s.heap.size (fun _ _ => False)) args s 0 0 rm_M_common.cells rm_M_common.slots (va_A (cM Z ad u0) s.heap.size)) (F0 m 6 ls []) := by
  intro n
  induction n with
  | zero => intro x4 x6 u H locs ls hw hl h; exact h.elim
  | succ n ih => intro x4 x6 u H locs ls hw hl h; exact w_M_common_6 C htab (fun x4 x6 u H locs ls h hw hl => ih x4 x6 u H locs ls hw hl h) x4 x6 u H locs ls hw hl h
def q_M_common (p0 : Int64) (p2 : Int64) (u : MT) (post : Int64 → MT → Prop) : Prop :=
  ∃ n, q_M_common_6N n (p0) (p2) (u) post
set_option maxRecDepth 100000 in
theorem c_M_common {l : Launch} {Z : ZT} {ad : Nat → Nat} {u : MT} {post : Int64 → MT → Prop} {p0 : Int64} {p2 : Int64} (hl0 : l.stackTraces = false) (h : q_M_common p0 p2 u post) : ∀ sz, vx_Met l y_M_common (Cond.code y_M_common b_M_common 10 (some .long) :: GW) rm_M_common (pP Z [.long (p0), .long (p2)] (cM Z ad u) sz) (pQl Z (cM Z ad) (cM Z ad u) sz post) (pX Z (cM Z ad) (cM Z ad u) sz (fun _ _ => False)) 0 0 rm_M_common.cells rm_M_common.slots (va_A (cM Z ad u) sz) := by
  refine g_ent (f := cM Z ad) (Qc := fun sz => pQl Z (cM Z ad) (cM Z ad u) sz post) (XC := fun sz => pX Z (cM Z ad) (cM Z ad u) sz (fun _ _ => False)) hl0 (by decide +kernel) (Nat.le_of_ble_eq_true rfl) ?_
  intro p e s m args below meth c ls C htab hw hl
  have hl : lv_has ls 10 [(0, .long (p0)), (2, .long (p2))] := hl
  unfold q_M_common at h
  refine lv_lload_n C.2.1 C.2.2.1 d_M_common_0 rfl (lv_at hl 0 rfl) ?_
  refine lv_lstore (lv' := [(4, .long (p0)), (0, .long (p0)), (2, .long (p2))]) C.2.1 C.2.2.1 d_M_common_1 hl (by decide) rfl (fun ls hl => ?_)
  refine lv_lload_n C.2.1 C.2.2.1 d_M_common_3 rfl (lv_at hl 2 rfl) ?_
  refine lv_lstore (lv' := [(6, .long (p2)), (4, .long (p0)), (0, .long (p0)), (2, .long (p2))]) C.2.1 C.2.2.1 d_M_common_4 hl (by decide) rfl (fun ls hl => ?_)
  obtain ⟨n, h⟩ := h
  exact w_M_common_6N C htab n (p0) (p2) _ _ _ _ hw (lv_sub hl [1, 0] rfl) h
section KR
variable {own host : String} {cc bytes : ByteArray} {nL maxL index n : Nat} {rt0 rt : Option FieldType} {Z : ZT} {ad : Nat → Nat} {A : Nat → Prop}
variable {p : Program} {l : Launch} {e : Env} {R : Room} {s : State} {m : MethodId} {args : Array Value} {below : List Frame} {meth : Method} {c : Code} {H : Heap} {locs : List Loc} {cells slots : Nat} {Q : State → Prop} {rest : List Value} {pc : Nat} {ls : Array Slot}
theorem k_M_87 {u : MT} {p0 : Int64} {p2 : Int64} {post : Int64 → MT → Prop} (C : CX "CoderTablesModel" cc nL rt0 Z A p l s m args meth c) (hw : WD Z A s (cM Z ad u) H locs) (h : q_M_common p0 p2 u post) (hR : rmOk rm_M_common 10 R cells slots) (hl : ls.size = nL) (hW : (rest.map fun v => v.category).sum ≤ 8) (hdg : decode cc pc = .ok (.invokestatic 87, 3)) (kk : ∀ (r : Int64) (u' : MT) (H1 : Heap) (locs1 : List Loc), post r u' → WD Z A s (cM Z ad u') H1 locs1 → W p l e R s m args below meth c H1 locs1 cells slots Q (F0 m (pc + 3) ls (.long r :: rest))) : W p l e R s m args below meth c H locs cells slots Q (F0 m pc ls (.long (p2) :: .long (p0) :: rest)) :=
  g_S0_l (n := 2) (f := cM Z ad) (As := [.long (p0), .long (p2)]) C hw (c_M_common C.1 h) ⟨w683, w684, w56, w685, (by decide +kernel), (by decide +kernel), (by decide +kernel)⟩ hR rfl hl rfl hW hdg (fun _ _ _ _ _ _ h => h.elim) kk
end KR
/-! CoderTablesModel.part(JJZ)J -/
abbrev rm_M_part : Room := { frames := 1, cells := 0, slots := 0, locals := 29 }
def q_M_part (p0 : Int64) (p2 : Int64) (p4 : Int32) (u : MT) (post : Int64 → MT → Prop) : Prop :=
  q_M_common (p0) (p2) (u) (fun r1 u2 => (((p4) = 0 → (¬ (r1) = 0 ∧ post ((p2) / (r1)) (u2))) ∧ (¬ (p4) = 0 → (¬ (r1) = 0 ∧ post ((p0) / (r1)) (u2)))))
set_option maxRecDepth 100000 in
theorem c_M_part {l : Launch} {Z : ZT} {ad : Nat → Nat} {u : MT} {post : Int64 → MT → Prop} {p0 : Int64} {p2 : Int64} {p4 : Int32} (hl0 : l.stackTraces = false) (h : q_M_part p0 p2 p4 u post) : ∀ sz, vx_Met l y_M_part (Cond.code y_M_part b_M_part 7 (some .long) :: GW) rm_M_part (pP Z [.long (p0), .long (p2), .int (p4)] (cM Z ad u) sz) (pQl Z (cM Z ad) (cM Z ad u) sz post) (pX Z (cM Z ad) (cM Z ad u) sz (fun _ _ => False)) 0 0 rm_M_part.cells rm_M_part.slots (va_A (cM Z ad u) sz) := by
  refine g_ent (f := cM Z ad) (Qc := fun sz => pQl Z (cM Z ad) (cM Z ad u) sz post) (XC := fun sz => pX Z (cM Z ad) (cM Z ad u) sz (fun _ _ => False)) hl0 (by decide +kernel) (Nat.le_of_ble_eq_true rfl) ?_
  intro p e s m args below meth c ls C htab hw hl
  have hl : lv_has ls 7 [(0, .long (p0)), (2, .long (p2)), (4, .int (p4))] := hl
  unfold q_M_part at h
  refine lv_lload_n C.2.1 C.2.2.1 d_M_part_0 rfl (lv_at hl 0 rfl) ?_
  refine lv_lload_n C.2.1 C.2.2.1 d_M_part_1 rfl (lv_at hl 1 rfl) ?_
  refine k_M_87 C hw h ⟨Nat.le_of_ble_eq_true rfl, Nat.le_of_ble_eq_true rfl, Nat.le_of_ble_eq_true rfl, Nat.le_of_ble_eq_true rfl⟩ hl.1 (Nat.le_of_ble_eq_true rfl) d_M_part_2 (fun r1 u2 H locs h hw => ?_)
  refine lv_lstore (lv' := [(5, .long (r1)), (0, .long (p0)), (2, .long (p2)), (4, .int (p4))]) C.2.1 C.2.2.1 d_M_part_5 hl (by decide) rfl (fun ls hl => ?_)
  refine lv_iload C.2.1 C.2.2.1 d_M_part_7 (lv_at hl 3 rfl) ?_
  refine lv_if_eq (tgt := 19) C.2.1 C.2.2.1 d_M_part_9 (by decide) (fun c => ?_) (fun c => ?_)
  · have h := h.1 c
    refine lv_lload_n C.2.1 C.2.2.1 d_M_part_19 rfl (lv_at hl 2 rfl) ?_
    refine lv_lload C.2.1 C.2.2.1 d_M_part_20 (lv_at hl 0 rfl) ?_
    obtain ⟨h0, h⟩ := h
    refine lv_ldiv C.2.1 C.2.2.1 d_M_part_22 h0 ?_
    exact g_lret C hw h d_M_part_23
  · have h := h.2 c
    refine lv_lload_n C.2.1 C.2.2.1 d_M_part_12 rfl (lv_at hl 1 rfl) ?_
    refine lv_lload C.2.1 C.2.2.1 d_M_part_13 (lv_at hl 0 rfl) ?_
    obtain ⟨h0, h⟩ := h
    refine lv_ldiv C.2.1 C.2.2.1 d_M_part_15 h0 ?_
    refine lv_goto (tgt := 23) C.2.1 C.2.2.1 d_M_part_16 (by decide) ?_
    exact g_lret C hw h d_M_part_23
section KR
variable {own host : String} {cc bytes : ByteArray} {nL maxL index n : Nat} {rt0 rt : Option FieldType} {Z : ZT} {ad : Nat → Nat} {A : Nat → Prop}
variable {p : Program} {l : Launch} {e : Env} {R : Room} {s : State} {m : MethodId} {args : Array Value} {below : List Frame} {meth : Method} {c : Code} {H : Heap} {locs : List Loc} {cells slots : Nat} {Q : State → Prop} {rest : List Value} {pc : Nat} {ls : Array Slot}
theorem k_M_91 {u : MT} {p0 : Int64} {p2 : Int64} {p4 : Int32} {post : Int64 → MT → Prop} (C : CX "CoderTablesModel" cc nL rt0 Z A p l s m args meth c) (hw : WD Z A s (cM Z ad u) H locs) (h : q_M_part p0 p2 p4 u post) (hR : rmOk rm_M_part 7 R cells slots) (hl : ls.size = nL) (hW : (rest.map fun v => v.category).sum ≤ 8) (hdg : decode cc pc = .ok (.invokestatic 91, 3)) (kk : ∀ (r : Int64) (u' : MT) (H1 : Heap) (locs1 : List Loc), post r u' → WD Z A s (cM Z ad u') H1 locs1 → W p l e R s m args below meth c H1 locs1 cells slots Q (F0 m (pc + 3) ls (.long r :: rest))) : W p l e R s m args below meth c H locs cells slots Q (F0 m pc ls (.int (p4) :: .long (p2) :: .long (p0) :: rest)) :=
  g_S0_l (n := 3) (f := cM Z ad) (As := [.long (p0), .long (p2), .int (p4)]) C hw (c_M_part C.1 h) ⟨w680, w681, w56, w682, (by decide +kernel), (by decide +kernel), (by decide +kernel)⟩ hR rfl hl rfl hW hdg (fun _ _ _ _ _ _ h => h.elim) kk
end KR
/-! CoderTablesModel.mean(IZ)J -/
abbrev rm_M_mean : Room := { frames := 2, cells := 0, slots := 0, locals := 55 }
def q_M_mean_26 (x1 : Int32) (x2 : Int32) (z0 : Int32) (u : MT) (post : Int64 → MT → Prop) : Prop :=
  q_M_refuses (z0) (u) (fun r1 u2 => (((r1) = 0 → q_M_sumOf (x1) (u2) (fun r3 u4 => q_M_countedOf (x1) (u4) (fun r5 u6 => q_M_part (r3) ((r5).toInt64) (x2) (u6) (fun r7 u8 => post (r7) (u8))))) ∧ (¬ (r1) = 0 → post ((0 : Int64)) (u2))))
set_option maxRecDepth 100000 in
theorem w_M_mean_26 {p : Program} {l : Launch} {e : Env} {s : State} {m : MethodId} {args : Array Value} {below : List Frame} {meth : Method} {c : Code} {Z : ZT} {ad : Nat → Nat} {u0 : MT} {post : Int64 → MT → Prop} (C : CX "CoderTablesModel" b_M_mean 3 (some .long) Z (va_A (cM Z ad u0) s.heap.size) p l s m args meth c) (htab : ∀ x ∈ c.exceptionTable.toList, False) (x1 : Int32) (x2 : Int32) (z0 : Int32) (u : MT) (H : Heap) (locs : List Loc) (ls : Array Slot) (hw : WD Z (va_A (cM Z ad u0) s.heap.size) s (cM Z ad u) H locs) (hl : lv_has ls 3 [(0, .ref (ad 0)), (1, .int (x1)), (2, .int (x2))]) (h : q_M_mean_26 x1 x2 z0 u post) : W p l e rm_M_mean s m args below meth c H locs 0 0 (vx_MQ below (pQl Z (cM Z ad) (cM Z ad u0) s.heap.size post) (pX Z (cM Z ad) (cM Z ad u0) s.heap.size (fun _ _ => False)) args s 0 0 rm_M_mean.cells rm_M_mean.slots (va_A (cM Z ad u0) s.heap.size)) (F0 m 26 ls [.int (z0), .ref (ad 0)]) := by
  unfold q_M_mean_26 at h
  refine k_M_50 C hw h ⟨Nat.le_of_ble_eq_true rfl, Nat.le_of_ble_eq_true rfl, Nat.le_of_ble_eq_true rfl, Nat.le_of_ble_eq_true rfl⟩ hl.1 (Nat.le_of_ble_eq_true rfl) d_M_mean_26 (fun r1 u2 H locs h hw => ?_)
  refine lv_if_eq (tgt := 34) C.2.1 C.2.2.1 d_M_mean_29 (by decide) (fun c => ?_) (fun c => ?_)
  · have h := h.1 c
    refine lv_aload_n C.2.1 C.2.2.1 d_M_mean_34 rfl (lv_at hl 0 rfl) ?_
    refine lv_iload_n C.2.1 C.2.2.1 d_M_mean_35 rfl (lv_at hl 1 rfl) ?_
    refine k_M_83 C hw h ⟨Nat.le_of_ble_eq_true rfl, Nat.le_of_ble_eq_true rfl, Nat.le_of_ble_eq_true rfl, Nat.le_of_ble_eq_true rfl⟩ hl.1 (Nat.le_of_ble_eq_true rfl) d_M_mean_36 (fun r3 u4 H locs h hw => ?_)
    refine lv_aload_n C.2.1 C.2.2.1 d_M_mean_39 rfl (lv_at hl 0 rfl) ?_
    refine lv_iload_n C.2.1 C.2.2.1 d_M_mean_40 rfl (lv_at hl 1 rfl) ?_
    refine k_M_78 C hw h ⟨Nat.le_of_ble_eq_true rfl, Nat.le_of_ble_eq_true rfl, Nat.le_of_ble_eq_true rfl, Nat.le_of_ble_eq_true rfl⟩ hl.1 (Nat.le_of_ble_eq_true rfl) d_M_mean_41 (fun r5 u6 H locs h hw => ?_)
    refine lv_i2l C.2.1 C.2.2.1 d_M_mean_44 rfl ?_
    refine lv_iload_n C.2.1 C.2.2.1 d_M_mean_45 rfl (lv_at hl 2 rfl) ?_
    refine k_M_91 C hw h ⟨Nat.le_of_ble_eq_true rfl, Nat.le_of_ble_eq_true rfl, Nat.le_of_ble_eq_true rfl, Nat.le_of_ble_eq_true rfl⟩ hl.1 (Nat.le_of_ble_eq_true rfl) d_M_mean_46 (fun r7 u8 H locs h hw => ?_)
    exact g_lret C hw h d_M_mean_49
  · have h := h.2 c
    refine lv_lconst (v := 0) C.2.1 C.2.2.1 d_M_mean_32 (by decide) ?_
    exact g_lret C hw h d_M_mean_33
def q_M_mean (p1 : Int32) (p2 : Int32) (u : MT) (post : Int64 → MT → Prop) : Prop :=
  q_M_noCoder (p1) (u) (fun r9 u10 => (((r9) = 0 → q_M_countedOf (p1) (u10) (fun r11 u12 => ((¬ (r11) = 0 → q_M_mean_26 (p1) (p2) (((0) : Int32)) (u12) post) ∧ ((r11) = 0 → q_M_mean_26 (p1) (p2) (((2) : Int32)) (u12) post)))) ∧ (¬ (r9) = 0 → q_M_mean_26 (p1) (p2) (((1) : Int32)) (u10) post)))
set_option maxRecDepth 100000 in
theorem c_M_mean {l : Launch} {Z : ZT} {ad : Nat → Nat} {u : MT} {post : Int64 → MT → Prop} {p1 : Int32} {p2 : Int32} (hl0 : l.stackTraces = false) (h : q_M_mean p1 p2 u post) : ∀ sz, vx_Met l y_M_mean (Cond.code y_M_mean b_M_mean 3 (some .long) :: GW) rm_M_mean (pP Z [.ref (ad 0), .int (p1), .int (p2)] (cM Z ad u) sz) (pQl Z (cM Z ad) (cM Z ad u) sz post) (pX Z (cM Z ad) (cM Z ad u) sz (fun _ _ => False)) 0 0 rm_M_mean.cells rm_M_mean.slots (va_A (cM Z ad u) sz) := by
  refine g_ent (f := cM Z ad) (Qc := fun sz => pQl Z (cM Z ad) (cM Z ad u) sz post) (XC := fun sz => pX Z (cM Z ad) (cM Z ad u) sz (fun _ _ => False)) hl0 (by decide +kernel) (Nat.le_of_ble_eq_true rfl) ?_
  intro p e s m args below meth c ls C htab hw hl
  have hl : lv_has ls 3 [(0, .ref (ad 0)), (1, .int (p1)), (2, .int (p2))] := hl
  unfold q_M_mean at h
  refine lv_aload_n C.2.1 C.2.2.1 d_M_mean_0 rfl (lv_at hl 0 rfl) ?_
  refine lv_aload_n C.2.1 C.2.2.1 d_M_mean_1 rfl (lv_at hl 0 rfl) ?_
  refine lv_iload_n C.2.1 C.2.2.1 d_M_mean_2 rfl (lv_at hl 1 rfl) ?_
  refine k_M_43 C hw h ⟨Nat.le_of_ble_eq_true rfl, Nat.le_of_ble_eq_true rfl, Nat.le_of_ble_eq_true rfl, Nat.le_of_ble_eq_true rfl⟩ hl.1 (Nat.le_of_ble_eq_true rfl) d_M_mean_3 (fun r9 u10 H locs h hw => ?_)
  refine lv_if_eq (tgt := 13) C.2.1 C.2.2.1 d_M_mean_6 (by decide) (fun c => ?_) (fun c => ?_)
  · have h := h.1 c
    refine lv_aload_n C.2.1 C.2.2.1 d_M_mean_13 rfl (lv_at hl 0 rfl) ?_
    refine lv_iload_n C.2.1 C.2.2.1 d_M_mean_14 rfl (lv_at hl 1 rfl) ?_
    refine k_M_78 C hw h ⟨Nat.le_of_ble_eq_true rfl, Nat.le_of_ble_eq_true rfl, Nat.le_of_ble_eq_true rfl, Nat.le_of_ble_eq_true rfl⟩ hl.1 (Nat.le_of_ble_eq_true rfl) d_M_mean_15 (fun r11 u12 H locs h hw => ?_)
    refine lv_if_ne (tgt := 25) C.2.1 C.2.2.1 d_M_mean_18 (by decide) (fun c => ?_) (fun c => ?_)
    · have h := h.1 c
      refine lv_iconst (v := (0)) C.2.1 C.2.2.1 d_M_mean_25 (by decide) ?_
      exact w_M_mean_26 C htab (p1) (p2) (((0) : Int32)) _ _ _ _ hw (lv_sub hl [0, 1, 2] rfl) h
    · have h := h.2 c
      refine lv_iconst (v := (2)) C.2.1 C.2.2.1 d_M_mean_21 (by decide) ?_
      refine lv_goto (tgt := 26) C.2.1 C.2.2.1 d_M_mean_22 (by decide) ?_
      exact w_M_mean_26 C htab (p1) (p2) (((2) : Int32)) _ _ _ _ hw (lv_sub hl [0, 1, 2] rfl) h
  · have h := h.2 c
    refine lv_iconst (v := (1)) C.2.1 C.2.2.1 d_M_mean_9 (by decide) ?_
    refine lv_goto (tgt := 26) C.2.1 C.2.2.1 d_M_mean_10 (by decide) ?_
    exact w_M_mean_26 C htab (p1) (p2) (((1) : Int32)) _ _ _ _ hw (lv_sub hl [0, 1, 2] rfl) h
/-! CoderTablesModel.rankOf(I)I -/
abbrev rm_M_rankOf : Room := { frames := 2, cells := 0, slots := 0, locals := 48 }
def q_M_rankOf_76 (K4 : Int32 → Int32 → Int32 → MT → Prop) (x1 : Int32) (x2 : Int32) (x3 : Int32) (u : MT) (post : Int32 → MT → Prop) : Prop :=
  K4 (x1) (x2) ((x3) + 1) (u)
set_option maxRecDepth 100000 in
theorem w_M_rankOf_76 {p : Program} {l : Launch} {e : Env} {s : State} {m : MethodId} {args : Array Value} {below : List Frame} {meth : Method} {c : Code} {Z : ZT} {ad : Nat → Nat} {u0 : MT} {post : Int32 → MT → Prop} {K4 : Int32 → Int32 → Int32 → MT → Prop} (C : CX "CoderTablesModel" b_M_rankOf 8 (some .int) Z (va_A (cM Z ad u0) s.heap.size) p l s m args meth c) (htab : ∀ x ∈ c.exceptionTable.toList, False) (hK4 : ∀ (x1 : Int32) (x2 : Int32) (x3 : Int32) (u : MT) (H : Heap) (locs : List Loc) (ls : Array Slot), K4 x1 x2 x3 u → WD Z (va_A (cM Z ad u0) s.heap.size) s (cM Z ad u) H locs → lv_has ls 8 [(0, .ref (ad 0)), (1, .int (x1)), (2, .int (x2)), (3, .int (x3))] → W p l e rm_M_rankOf s m args below meth c H locs 0 0 (vx_MQ below (pQi Z (cM Z ad) (cM Z ad u0) s.heap.size post) (pX Z (cM Z ad) (cM Z ad u0) s.heap.size (fun _ _ => False)) args s 0 0 rm_M_rankOf.cells rm_M_rankOf.slots (va_A (cM Z ad u0) s.heap.size)) (F0 m 4 ls [])) (x1 : Int32) (x2 : Int32) (x3 : Int32) (u : MT) (H : Heap) (locs : List Loc) (ls : Array Slot) (hw : WD Z (va_A (cM Z ad u0) s.heap.size) s (cM Z ad u) H locs) (hl : lv_has ls 8 [(0, .ref (ad 0)), (1, .int (x1)), (2, .int (x2)), (3, .int (x3))]) (h : q_M_rankOf_76 K4 x1 x2 x3 u post) : W p l e rm_M_rankOf s m args below meth c H locs 0 0 (vx_MQ below (pQi Z (cM Z ad) (cM Z ad u0) s.heap.size post) (pX Z (cM Z ad) (cM Z ad u0) s.heap.size (fun _ _ => False)) args s 0 0 rm_M_rankOf.cells rm_M_rankOf.slots (va_A (cM Z ad u0) s.heap.size)) (F0 m 76 ls []) := by
  unfold q_M_rankOf_76 at h
  refine lv_iinc (v := (x3) + 1) (lv' := [(3, .int ((x3) + 1)), (0, .ref (ad 0)), (1, .int (x1)), (2, .int (x2))]) C.2.1 C.2.2.1 d_M_rankOf_76 hl (k := 3) rfl rfl (by decide) rfl (fun ls hl => ?_)
  refine lv_goto (tgt := 4) C.2.1 C.2.2.1 d_M_rankOf_79 (by decide) ?_
  exact hK4 (x1) (x2) ((x3) + 1) _ _ _ _ h hw (lv_sub hl [1, 2, 3, 0] rfl)
def q_M_rankOf_74 (K4 : Int32 → Int32 → Int32 → MT → Prop) (x1 : Int32) (x3 : Int32) (z0 : Int32) (z1 : Int32) (u : MT) (post : Int32 → MT → Prop) : Prop :=
  q_M_rankOf_76 K4 (x1) ((z1) + (z0)) (x3) (u) post
set_option maxRecDepth 100000 in
theorem w_M_rankOf_74 {p : Program} {l : Launch} {e : Env} {s : State} {m : MethodId} {args : Array Value} {below : List Frame} {meth : Method} {c : Code} {Z : ZT} {ad : Nat → Nat} {u0 : MT} {post : Int32 → MT → Prop} {K4 : Int32 → Int32 → Int32 → MT → Prop} (C : CX "CoderTablesModel" b_M_rankOf 8 (some .int) Z (va_A (cM Z ad u0) s.heap.size) p l s m args meth c) (htab : ∀ x ∈ c.exceptionTable.toList, False) (hK4 : ∀ (x1 : Int32) (x2 : Int32) (x3 : Int32) (u : MT) (H : Heap) (locs : List Loc) (ls : Array Slot), K4 x1 x2 x3 u → WD Z (va_A (cM Z ad u0) s.heap.size) s (cM Z ad u) H locs → lv_has ls 8 [(0, .ref (ad 0)), (1, .int (x1)), (2, .int (x2)), (3, .int (x3))] → W p l e rm_M_rankOf s m args below meth c H locs 0 0 (vx_MQ below (pQi Z (cM Z ad) (cM Z ad u0) s.heap.size post) (pX Z (cM Z ad) (cM Z ad u0) s.heap.size (fun _ _ => False)) args s 0 0 rm_M_rankOf.cells rm_M_rankOf.slots (va_A (cM Z ad u0) s.heap.size)) (F0 m 4 ls [])) (x1 : Int32) (x3 : Int32) (z0 : Int32) (z1 : Int32) (u : MT) (H : Heap) (locs : List Loc) (ls : Array Slot) (hw : WD Z (va_A (cM Z ad u0) s.heap.size) s (cM Z ad u) H locs) (hl : lv_has ls 8 [(0, .ref (ad 0)), (1, .int (x1)), (3, .int (x3))]) (h : q_M_rankOf_74 K4 x1 x3 z0 z1 u post) : W p l e rm_M_rankOf s m args below meth c H locs 0 0 (vx_MQ below (pQi Z (cM Z ad) (cM Z ad u0) s.heap.size post) (pX Z (cM Z ad) (cM Z ad u0) s.heap.size (fun _ _ => False)) args s 0 0 rm_M_rankOf.cells rm_M_rankOf.slots (va_A (cM Z ad u0) s.heap.size)) (F0 m 74 ls [.int (z0), .int (z1)]) := by
  unfold q_M_rankOf_74 at h
  refine lv_iadd C.2.1 C.2.2.1 d_M_rankOf_74 ?_
  refine lv_istore_n (lv' := [(2, .int ((z1) + (z0))), (0, .ref (ad 0)), (1, .int (x1)), (3, .int (x3))]) C.2.1 C.2.2.1 d_M_rankOf_75 rfl hl (by decide) rfl (fun ls hl => ?_)
  exact w_M_rankOf_76 C htab hK4 (x1) ((z1) + (z0)) (x3) _ _ _ _ hw (lv_sub hl [1, 2, 0, 3] rfl) h
def q_M_rankOf_4 (K4 : Int32 → Int32 → Int32 → MT → Prop) (x1 : Int32) (x2 : Int32) (x3 : Int32) (u : MT) (post : Int32 → MT → Prop) : Prop :=
  (((m_coders (u)) ≤ (x3) → post (x2) (u)) ∧ (¬ (m_coders (u)) ≤ (x3) → q_M_countedOf (x3) (u) (fun r1 u2 => (((r1) ≤ 0 → q_M_rankOf_76 K4 (x1) (x2) (x3) (u2) post) ∧ (¬ (r1) ≤ 0 → q_M_sumOf (x3) (u2) (fun r3 u4 => q_M_countedOf (x1) (u4) (fun r5 u6 => q_M_sumOf (x1) (u6) (fun r7 u8 => q_M_countedOf (x3) (u8) (fun r9 u10 => ((0 ≤ (lg_cmp ((r3) * ((r5).toInt64)) ((r7) * ((r9).toInt64))) → ((¬ (lg_cmp ((r3) * ((r5).toInt64)) ((r7) * ((r9).toInt64))) = 0 → q_M_rankOf_74 K4 (x1) (x3) (((0) : Int32)) (x2) (u10) post) ∧ ((lg_cmp ((r3) * ((r5).toInt64)) ((r7) * ((r9).toInt64))) = 0 → q_M_rankOf_74 K4 (x1) (x3) (((1) : Int32)) (x2) (u10) post))) ∧ (¬ 0 ≤ (lg_cmp ((r3) * ((r5).toInt64)) ((r7) * ((r9).toInt64))) → q_M_rankOf_74 K4 (x1) (x3) (((2) : Int32)) (x2) (u10) post)))))))))))
set_option maxRecDepth 100000 in
theorem w_M_rankOf_4 {p : Program} {l : Launch} {e : Env} {s : State} {m : MethodId} {args : Array Value} {below : List Frame} {meth : Method} {c : Code} {Z : ZT} {ad : Nat → Nat} {u0 : MT} {post : Int32 → MT → Prop} {K4 : Int32 → Int32 → Int32 → MT → Prop} (C : CX "CoderTablesModel" b_M_rankOf 8 (some .int) Z (va_A (cM Z ad u0) s.heap.size) p l s m args meth c) (htab : ∀ x ∈ c.exceptionTable.toList, False) (hK4 : ∀ (x1 : Int32) (x2 : Int32) (x3 : Int32) (u : MT) (H : Heap) (locs : List Loc) (ls : Array Slot), K4 x1 x2 x3 u → WD Z (va_A (cM Z ad u0) s.heap.size) s (cM Z ad u) H locs → lv_has ls 8 [(0, .ref (ad 0)), (1, .int (x1)), (2, .int (x2)), (3, .int (x3))] → W p l e rm_M_rankOf s m args below meth c H locs 0 0 (vx_MQ below (pQi Z (cM Z ad) (cM Z ad u0) s.heap.size post) (pX Z (cM Z ad) (cM Z ad u0) s.heap.size (fun _ _ => False)) args s 0 0 rm_M_rankOf.cells rm_M_rankOf.slots (va_A (cM Z ad u0) s.heap.size)) (F0 m 4 ls [])) (x1 : Int32) (x2 : Int32) (x3 : Int32) (u : MT) (H : Heap) (locs : List Loc) (ls : Array Slot) (hw : WD Z (va_A (cM Z ad u0) s.heap.size) s (cM Z ad u) H locs) (hl : lv_has ls 8 [(0, .ref (ad 0)), (1, .int (x1)), (2, .int (x2)), (3, .int (x3))]) (h : q_M_rankOf_4 K4 x1 x2 x3 u post) : W p l e rm_M_rankOf s m args below meth c H locs 0 0 (vx_MQ below (pQi Z (cM Z ad) (cM Z ad u0) s.heap.size post) (pX Z (cM Z ad) (cM Z ad u0) s.heap.size (fun _ _ => False)) args s 0 0 rm_M_rankOf.cells rm_M_rankOf.slots (va_A (cM Z ad u0) s.heap.size)) (F0 m 4 ls []) := by
  unfold q_M_rankOf_4 at h
  refine lv_iload_n C.2.1 C.2.2.1 d_M_rankOf_4 rfl (lv_at hl 3 rfl) ?_
  refine lv_aload_n C.2.1 C.2.2.1 d_M_rankOf_5 rfl (lv_at hl 0 rfl) ?_
  refine r_M_40 C hw d_M_rankOf_6 ?_
  refine lv_icmp_ge (tgt := 82) C.2.1 C.2.2.1 d_M_rankOf_9 (by decide) (fun c => ?_) (fun c => ?_)
  · have h := h.1 c
    refine lv_iload_n C.2.1 C.2.2.1 d_M_rankOf_82 rfl (lv_at hl 2 rfl) ?_
    exact g_iret C hw rfl h d_M_rankOf_83
  · have h := h.2 c
    refine lv_aload_n C.2.1 C.2.2.1 d_M_rankOf_12 rfl (lv_at hl 0 rfl) ?_
    refine lv_iload_n C.2.1 C.2.2.1 d_M_rankOf_13 rfl (lv_at hl 3 rfl) ?_
    refine k_M_78 C hw h ⟨Nat.le_of_ble_eq_true rfl, Nat.le_of_ble_eq_true rfl, Nat.le_of_ble_eq_true rfl, Nat.le_of_ble_eq_true rfl⟩ hl.1 (Nat.le_of_ble_eq_true rfl) d_M_rankOf_14 (fun r1 u2 H locs h hw => ?_)
    refine lv_if_le (tgt := 76) C.2.1 C.2.2.1 d_M_rankOf_17 (by decide) (fun c => ?_) (fun c => ?_)
    · have h := h.1 c
      exact w_M_rankOf_76 C htab hK4 (x1) (x2) (x3) _ _ _ _ hw (lv_sub hl [0, 1, 2, 3] rfl) h
    · have h := h.2 c
      refine lv_aload_n C.2.1 C.2.2.1 d_M_rankOf_20 rfl (lv_at hl 0 rfl) ?_
      refine lv_iload_n C.2.1 C.2.2.1 d_M_rankOf_21 rfl (lv_at hl 3 rfl) ?_
      refine k_M_83 C hw h ⟨Nat.le_of_ble_eq_true rfl, Nat.le_of_ble_eq_true rfl, Nat.le_of_ble_eq_true rfl, Nat.le_of_ble_eq_true rfl⟩ hl.1 (Nat.le_of_ble_eq_true rfl) d_M_rankOf_22 (fun r3 u4 H locs h hw => ?_)
      refine lv_aload_n C.2.1 C.2.2.1 d_M_rankOf_25 rfl (lv_at hl 0 rfl) ?_
      refine lv_iload_n C.2.1 C.2.2.1 d_M_rankOf_26 rfl (lv_at hl 1 rfl) ?_
      refine k_M_78 C hw h ⟨Nat.le_of_ble_eq_true rfl, Nat.le_of_ble_eq_true rfl, Nat.le_of_ble_eq_true rfl, Nat.le_of_ble_eq_true rfl⟩ hl.1 (Nat.le_of_ble_eq_true rfl) d_M_rankOf_27 (fun r5 u6 H locs h hw => ?_)
      refine lv_i2l C.2.1 C.2.2.1 d_M_rankOf_30 rfl ?_
      refine lv_lmul C.2.1 C.2.2.1 d_M_rankOf_31 ?_
      refine lv_lstore (lv' := [(4, .long ((r3) * ((r5).toInt64))), (0, .ref (ad 0)), (1, .int (x1)), (2, .int (x2)), (3, .int (x3))]) C.2.1 C.2.2.1 d_M_rankOf_32 hl (by decide) rfl (fun ls hl => ?_)
      refine lv_aload_n C.2.1 C.2.2.1 d_M_rankOf_34 rfl (lv_at hl 1 rfl) ?_
      refine lv_iload_n C.2.1 C.2.2.1 d_M_rankOf_35 rfl (lv_at hl 2 rfl) ?_
      refine k_M_83 C hw h ⟨Nat.le_of_ble_eq_true rfl, Nat.le_of_ble_eq_true rfl, Nat.le_of_ble_eq_true rfl, Nat.le_of_ble_eq_true rfl⟩ hl.1 (Nat.le_of_ble_eq_true rfl) d_M_rankOf_36 (fun r7 u8 H locs h hw => ?_)
      refine lv_aload_n C.2.1 C.2.2.1 d_M_rankOf_39 rfl (lv_at hl 1 rfl) ?_
      refine lv_iload_n C.2.1 C.2.2.1 d_M_rankOf_40 rfl (lv_at hl 4 rfl) ?_
      refine k_M_78 C hw h ⟨Nat.le_of_ble_eq_true rfl, Nat.le_of_ble_eq_true rfl, Nat.le_of_ble_eq_true rfl, Nat.le_of_ble_eq_true rfl⟩ hl.1 (Nat.le_of_ble_eq_true rfl) d_M_rankOf_41 (fun r9 u10 H locs h hw => ?_)
      refine lv_i2l C.2.1 C.2.2.1 d_M_rankOf_44 rfl ?_
      refine lv_lmul C.2.1 C.2.2.1 d_M_rankOf_45 ?_
      refine lv_lstore (lv' := [(6, .long ((r7) * ((r9).toInt64))), (4, .long ((r3) * ((r5).toInt64))), (0, .ref (ad 0)), (1, .int (x1)), (2, .int (x2)), (3, .int (x3))]) C.2.1 C.2.2.1 d_M_rankOf_46 hl (by decide) rfl (fun ls hl => ?_)
      refine lv_iload_n C.2.1 C.2.2.1 d_M_rankOf_48 rfl (lv_at hl 4 rfl) ?_
      refine lv_lload C.2.1 C.2.2.1 d_M_rankOf_49 (lv_at hl 1 rfl) ?_
      refine lv_lload C.2.1 C.2.2.1 d_M_rankOf_51 (lv_at hl 0 rfl) ?_
      refine W.lcmp C.2.1 C.2.2.1 d_M_rankOf_53 ?_
      refine lv_if_ge (tgt := 61) C.2.1 C.2.2.1 d_M_rankOf_54 (by decide) (fun c => ?_) (fun c => ?_)
      · have h := h.1 c
        refine lv_lload C.2.1 C.2.2.1 d_M_rankOf_61 (lv_at hl 1 rfl) ?_
        refine lv_lload C.2.1 C.2.2.1 d_M_rankOf_63 (lv_at hl 0 rfl) ?_
        refine W.lcmp C.2.1 C.2.2.1 d_M_rankOf_65 ?_
        refine lv_if_ne (tgt := 73) C.2.1 C.2.2.1 d_M_rankOf_66 (by decide) (fun c => ?_) (fun c => ?_)
        · have h := h.1 c
          refine lv_iconst (v := (0)) C.2.1 C.2.2.1 d_M_rankOf_73 (by decide) ?_
          exact w_M_rankOf_74 C htab hK4 (x1) (x3) (((0) : Int32)) (x2) _ _ _ _ hw (lv_sub hl [2, 3, 5] rfl) h
        · have h := h.2 c
          refine lv_iconst (v := (1)) C.2.1 C.2.2.1 d_M_rankOf_69 (by decide) ?_
          refine lv_goto (tgt := 74) C.2.1 C.2.2.1 d_M_rankOf_70 (by decide) ?_
          exact w_M_rankOf_74 C htab hK4 (x1) (x3) (((1) : Int32)) (x2) _ _ _ _ hw (lv_sub hl [2, 3, 5] rfl) h
      · have h := h.2 c
        refine lv_iconst (v := (2)) C.2.1 C.2.2.1 d_M_rankOf_57 (by decide) ?_
        refine lv_goto (tgt := 74) C.2.1 C.2.2.1 d_M_rankOf_58 (by decide) ?_
        exact w_M_rankOf_74 C htab hK4 (x1) (x3) (((2) : Int32)) (x2) _ _ _ _ hw (lv_sub hl [2, 3, 5] rfl) h
def q_M_rankOf_4N : Nat → Int32 → Int32 → Int32 → MT → (Int32 → MT → Prop) → Prop
  | 0 => fun _ _ _ _ _ => False
  | n + 1 => fun x1 x2 x3 u post => q_M_rankOf_4 (fun x1 x2 x3 u => q_M_rankOf_4N n x1 x2 x3 u post) x1 x2 x3 u post
theorem w_M_rankOf_4N {p : Program} {l : Launch} {e : Env} {s : State} {m : MethodId} {args : Array Value} {below : List Frame} {meth : Method} {c : Code} {Z : ZT} {ad : Nat → Nat} {u0 : MT} {post : Int32 → MT → Prop} (C : CX "CoderTablesModel" b_M_rankOf 8 (some .int) Z (va_A (cM Z ad u0) s.heap.size) p l s m args meth c) (htab : ∀ x ∈ c.exceptionTable.toList, False) : ∀ (n : Nat) (x1 : Int32) (x2 : Int32) (x3 : Int32) (u : MT) (H : Heap) (locs : List Loc) (ls : Array Slot), WD Z (va_A (cM Z ad u0) s.heap.size) s (cM Z ad u) H locs → lv_has ls 8 [(0, .ref (ad 0)), (1, .int (x1)), (2, .int (x2)), (3, .int (x3))] → q_M_rankOf_4N n x1 x2 x3 u post → W p l e rm_M_rankOf s m args below meth c H locs 0 0 (vx_MQ below (pQi Z (cM Z ad) (cM Z ad u0) s.heap.size post) (pX Z (cM Z ad) (cM Z ad u0) s.heap.size (fun _ _ => False)) args s 0 0 rm_M_rankOf.cells rm_M_rankOf.slots (va_A (cM Z ad u0) s.heap.size)) (F0 m 4 ls []) := by
  intro n
  induction n with
  | zero => intro x1 x2 x3 u H locs ls hw hl h; exact h.elim
  | succ n ih => intro x1 x2 x3 u H locs ls hw hl h; exact w_M_rankOf_4 C htab (fun x1 x2 x3 u H locs ls h hw hl => ih x1 x2 x3 u H locs ls hw hl h) x1 x2 x3 u H locs ls hw hl h
def q_M_rankOf (p1 : Int32) (u : MT) (post : Int32 → MT → Prop) : Prop :=
  ∃ n, q_M_rankOf_4N n (p1) (((1) : Int32)) (((0) : Int32)) (u) post
set_option maxRecDepth 100000 in
theorem c_M_rankOf {l : Launch} {Z : ZT} {ad : Nat → Nat} {u : MT} {post : Int32 → MT → Prop} {p1 : Int32} (hl0 : l.stackTraces = false) (h : q_M_rankOf p1 u post) : ∀ sz, vx_Met l y_M_rankOf (Cond.code y_M_rankOf b_M_rankOf 8 (some .int) :: GW) rm_M_rankOf (pP Z [.ref (ad 0), .int (p1)] (cM Z ad u) sz) (pQi Z (cM Z ad) (cM Z ad u) sz post) (pX Z (cM Z ad) (cM Z ad u) sz (fun _ _ => False)) 0 0 rm_M_rankOf.cells rm_M_rankOf.slots (va_A (cM Z ad u) sz) := by
  refine g_ent (f := cM Z ad) (Qc := fun sz => pQi Z (cM Z ad) (cM Z ad u) sz post) (XC := fun sz => pX Z (cM Z ad) (cM Z ad u) sz (fun _ _ => False)) hl0 (by decide +kernel) (Nat.le_of_ble_eq_true rfl) ?_
  intro p e s m args below meth c ls C htab hw hl
  have hl : lv_has ls 8 [(0, .ref (ad 0)), (1, .int (p1))] := hl
  unfold q_M_rankOf at h
  refine lv_iconst (v := (1)) C.2.1 C.2.2.1 d_M_rankOf_0 (by decide) ?_
  refine lv_istore_n (lv' := [(2, .int (((1) : Int32))), (0, .ref (ad 0)), (1, .int (p1))]) C.2.1 C.2.2.1 d_M_rankOf_1 rfl hl (by decide) rfl (fun ls hl => ?_)
  refine lv_iconst (v := (0)) C.2.1 C.2.2.1 d_M_rankOf_2 (by decide) ?_
  refine lv_istore_n (lv' := [(3, .int (((0) : Int32))), (2, .int (((1) : Int32))), (0, .ref (ad 0)), (1, .int (p1))]) C.2.1 C.2.2.1 d_M_rankOf_3 rfl hl (by decide) rfl (fun ls hl => ?_)
  obtain ⟨n, h⟩ := h
  exact w_M_rankOf_4N C htab n (p1) (((1) : Int32)) (((0) : Int32)) _ _ _ _ hw (lv_sub hl [2, 3, 1, 0] rfl) h
section KR
variable {own host : String} {cc bytes : ByteArray} {nL maxL index n : Nat} {rt0 rt : Option FieldType} {Z : ZT} {ad : Nat → Nat} {A : Nat → Prop}
variable {p : Program} {l : Launch} {e : Env} {R : Room} {s : State} {m : MethodId} {args : Array Value} {below : List Frame} {meth : Method} {c : Code} {H : Heap} {locs : List Loc} {cells slots : Nat} {Q : State → Prop} {rest : List Value} {pc : Nat} {ls : Array Slot}
theorem k_M_95 {u : MT} {p1 : Int32} {post : Int32 → MT → Prop} (C : CX "CoderTablesModel" cc nL rt0 Z A p l s m args meth c) (hw : WD Z A s (cM Z ad u) H locs) (h : q_M_rankOf p1 u post) (hR : rmOk rm_M_rankOf 8 R cells slots) (hl : ls.size = nL) (hW : (rest.map fun v => v.category).sum ≤ 8) (hdg : decode cc pc = .ok (.invokevirtual 95, 3)) (kk : ∀ (r : Int32) (u' : MT) (H1 : Heap) (locs1 : List Loc), post r u' → WD Z A s (cM Z ad u') H1 locs1 → W p l e R s m args below meth c H1 locs1 cells slots Q (F0 m (pc + 3) ls (.int r :: rest))) : W p l e R s m args below meth c H locs cells slots Q (F0 m pc ls (.int (p1) :: .ref (ad 0) :: rest)) :=
  g_V0_i (n := 1) (f := cM Z ad) (As := [.int (p1)]) C hw (c_M_rankOf C.1 h) ⟨w690, w692, w39, w56, w693, (by decide +kernel), (by decide +kernel), (by decide +kernel)⟩ hR 0 rfl rfl rfl hl rfl hW hdg (fun _ _ _ _ _ _ h => h.elim) kk
end KR
/-! CoderTablesModel.rank(I)I -/
abbrev rm_M_rank : Room := { frames := 3, cells := 0, slots := 0, locals := 75 }
def q_M_rank_26 (x1 : Int32) (z0 : Int32) (u : MT) (post : Int32 → MT → Prop) : Prop :=
  q_M_refuses (z0) (u) (fun r1 u2 => (((r1) = 0 → q_M_rankOf (x1) (u2) (fun r3 u4 => post (r3) (u4))) ∧ (¬ (r1) = 0 → post (((0) : Int32)) (u2))))
set_option maxRecDepth 100000 in
theorem w_M_rank_26 {p : Program} {l : Launch} {e : Env} {s : State} {m : MethodId} {args : Array Value} {below : List Frame} {meth : Method} {c : Code} {Z : ZT} {ad : Nat → Nat} {u0 : MT} {post : Int32 → MT → Prop} (C : CX "CoderTablesModel" b_M_rank 2 (some .int) Z (va_A (cM Z ad u0) s.heap.size) p l s m args meth c) (htab : ∀ x ∈ c.exceptionTable.toList, False) (x1 : Int32) (z0 : Int32) (u : MT) (H : Heap) (locs : List Loc) (ls : Array Slot) (hw : WD Z (va_A (cM Z ad u0) s.heap.size) s (cM Z ad u) H locs) (hl : lv_has ls 2 [(0, .ref (ad 0)), (1, .int (x1))]) (h : q_M_rank_26 x1 z0 u post) : W p l e rm_M_rank s m args below meth c H locs 0 0 (vx_MQ below (pQi Z (cM Z ad) (cM Z ad u0) s.heap.size post) (pX Z (cM Z ad) (cM Z ad u0) s.heap.size (fun _ _ => False)) args s 0 0 rm_M_rank.cells rm_M_rank.slots (va_A (cM Z ad u0) s.heap.size)) (F0 m 26 ls [.int (z0), .ref (ad 0)]) := by
  unfold q_M_rank_26 at h
  refine k_M_50 C hw h ⟨Nat.le_of_ble_eq_true rfl, Nat.le_of_ble_eq_true rfl, Nat.le_of_ble_eq_true rfl, Nat.le_of_ble_eq_true rfl⟩ hl.1 (Nat.le_of_ble_eq_true rfl) d_M_rank_26 (fun r1 u2 H locs h hw => ?_)
  refine lv_if_eq (tgt := 34) C.2.1 C.2.2.1 d_M_rank_29 (by decide) (fun c => ?_) (fun c => ?_)
  · have h := h.1 c
    refine lv_aload_n C.2.1 C.2.2.1 d_M_rank_34 rfl (lv_at hl 0 rfl) ?_
    refine lv_iload_n C.2.1 C.2.2.1 d_M_rank_35 rfl (lv_at hl 1 rfl) ?_
    refine k_M_95 C hw h ⟨Nat.le_of_ble_eq_true rfl, Nat.le_of_ble_eq_true rfl, Nat.le_of_ble_eq_true rfl, Nat.le_of_ble_eq_true rfl⟩ hl.1 (Nat.le_of_ble_eq_true rfl) d_M_rank_36 (fun r3 u4 H locs h hw => ?_)
    exact g_iret C hw rfl h d_M_rank_39
  · have h := h.2 c
    refine lv_iconst (v := (0)) C.2.1 C.2.2.1 d_M_rank_32 (by decide) ?_
    exact g_iret C hw rfl h d_M_rank_33
def q_M_rank (p1 : Int32) (u : MT) (post : Int32 → MT → Prop) : Prop :=
  q_M_noCoder (p1) (u) (fun r5 u6 => (((r5) = 0 → q_M_countedOf (p1) (u6) (fun r7 u8 => ((¬ (r7) = 0 → q_M_rank_26 (p1) (((0) : Int32)) (u8) post) ∧ ((r7) = 0 → q_M_rank_26 (p1) (((2) : Int32)) (u8) post)))) ∧ (¬ (r5) = 0 → q_M_rank_26 (p1) (((1) : Int32)) (u6) post)))
set_option maxRecDepth 100000 in
theorem c_M_rank {l : Launch} {Z : ZT} {ad : Nat → Nat} {u : MT} {post : Int32 → MT → Prop} {p1 : Int32} (hl0 : l.stackTraces = false) (h : q_M_rank p1 u post) : ∀ sz, vx_Met l y_M_rank (Cond.code y_M_rank b_M_rank 2 (some .int) :: GW) rm_M_rank (pP Z [.ref (ad 0), .int (p1)] (cM Z ad u) sz) (pQi Z (cM Z ad) (cM Z ad u) sz post) (pX Z (cM Z ad) (cM Z ad u) sz (fun _ _ => False)) 0 0 rm_M_rank.cells rm_M_rank.slots (va_A (cM Z ad u) sz) := by
  refine g_ent (f := cM Z ad) (Qc := fun sz => pQi Z (cM Z ad) (cM Z ad u) sz post) (XC := fun sz => pX Z (cM Z ad) (cM Z ad u) sz (fun _ _ => False)) hl0 (by decide +kernel) (Nat.le_of_ble_eq_true rfl) ?_
  intro p e s m args below meth c ls C htab hw hl
  have hl : lv_has ls 2 [(0, .ref (ad 0)), (1, .int (p1))] := hl
  unfold q_M_rank at h
  refine lv_aload_n C.2.1 C.2.2.1 d_M_rank_0 rfl (lv_at hl 0 rfl) ?_
  refine lv_aload_n C.2.1 C.2.2.1 d_M_rank_1 rfl (lv_at hl 0 rfl) ?_
  refine lv_iload_n C.2.1 C.2.2.1 d_M_rank_2 rfl (lv_at hl 1 rfl) ?_
  refine k_M_43 C hw h ⟨Nat.le_of_ble_eq_true rfl, Nat.le_of_ble_eq_true rfl, Nat.le_of_ble_eq_true rfl, Nat.le_of_ble_eq_true rfl⟩ hl.1 (Nat.le_of_ble_eq_true rfl) d_M_rank_3 (fun r5 u6 H locs h hw => ?_)
  refine lv_if_eq (tgt := 13) C.2.1 C.2.2.1 d_M_rank_6 (by decide) (fun c => ?_) (fun c => ?_)
  · have h := h.1 c
    refine lv_aload_n C.2.1 C.2.2.1 d_M_rank_13 rfl (lv_at hl 0 rfl) ?_
    refine lv_iload_n C.2.1 C.2.2.1 d_M_rank_14 rfl (lv_at hl 1 rfl) ?_
    refine k_M_78 C hw h ⟨Nat.le_of_ble_eq_true rfl, Nat.le_of_ble_eq_true rfl, Nat.le_of_ble_eq_true rfl, Nat.le_of_ble_eq_true rfl⟩ hl.1 (Nat.le_of_ble_eq_true rfl) d_M_rank_15 (fun r7 u8 H locs h hw => ?_)
    refine lv_if_ne (tgt := 25) C.2.1 C.2.2.1 d_M_rank_18 (by decide) (fun c => ?_) (fun c => ?_)
    · have h := h.1 c
      refine lv_iconst (v := (0)) C.2.1 C.2.2.1 d_M_rank_25 (by decide) ?_
      exact w_M_rank_26 C htab (p1) (((0) : Int32)) _ _ _ _ hw (lv_sub hl [0, 1] rfl) h
    · have h := h.2 c
      refine lv_iconst (v := (2)) C.2.1 C.2.2.1 d_M_rank_21 (by decide) ?_
      refine lv_goto (tgt := 26) C.2.1 C.2.2.1 d_M_rank_22 (by decide) ?_
      exact w_M_rank_26 C htab (p1) (((2) : Int32)) _ _ _ _ hw (lv_sub hl [0, 1] rfl) h
  · have h := h.2 c
    refine lv_iconst (v := (1)) C.2.1 C.2.2.1 d_M_rank_9 (by decide) ?_
    refine lv_goto (tgt := 26) C.2.1 C.2.2.1 d_M_rank_10 (by decide) ?_
    exact w_M_rank_26 C htab (p1) (((1) : Int32)) _ _ _ _ hw (lv_sub hl [0, 1] rfl) h
/-! CoderTablesModel.isBest(II)Z -/
abbrev rm_M_isBest : Room := { frames := 0, cells := 0, slots := 0, locals := 0 }
def q_M_isBest_118 (K8 : Int32 → Int32 → Int32 → Int32 → MT → Prop) (x1 : Int32) (x2 : Int32) (x4 : Int32) (z0 : Int32) (u : MT) (post : Int32 → MT → Prop) : Prop :=
  K8 (x1) (x2) (z0) ((x4) + 1) (u)
set_option maxRecDepth 100000 in
theorem w_M_isBest_118 {p : Program} {l : Launch} {e : Env} {s : State} {m : MethodId} {args : Array Value} {below : List Frame} {meth : Method} {c : Code} {Z : ZT} {ad : Nat → Nat} {u0 : MT} {post : Int32 → MT → Prop} {K8 : Int32 → Int32 → Int32 → Int32 → MT → Prop} (C : CX "CoderTablesModel" b_M_isBest 6 (some .boolean) Z (va_A (cM Z ad u0) s.heap.size) p l s m args meth c) (htab : ∀ x ∈ c.exceptionTable.toList, False) (hK8 : ∀ (x1 : Int32) (x2 : Int32) (x3 : Int32) (x4 : Int32) (u : MT) (H : Heap) (locs : List Loc) (ls : Array Slot), K8 x1 x2 x3 x4 u → WD Z (va_A (cM Z ad u0) s.heap.size) s (cM Z ad u) H locs → lv_has ls 6 [(0, .ref (ad 0)), (1, .int (x1)), (2, .int (x2)), (3, .int (x3)), (4, .int (x4))] → W p l e rm_M_isBest s m args below meth c H locs 0 0 (vx_MQ below (pQi Z (cM Z ad) (cM Z ad u0) s.heap.size post) (pX Z (cM Z ad) (cM Z ad u0) s.heap.size (fun _ _ => False)) args s 0 0 rm_M_isBest.cells rm_M_isBest.slots (va_A (cM Z ad u0) s.heap.size)) (F0 m 8 ls [])) (x1 : Int32) (x2 : Int32) (x4 : Int32) (z0 : Int32) (u : MT) (H : Heap) (locs : List Loc) (ls : Array Slot) (hw : WD Z (va_A (cM Z ad u0) s.heap.size) s (cM Z ad u) H locs) (hl : lv_has ls 6 [(0, .ref (ad 0)), (1, .int (x1)), (2, .int (x2)), (4, .int (x4))]) (h : q_M_isBest_118 K8 x1 x2 x4 z0 u post) : W p l e rm_M_isBest s m args below meth c H locs 0 0 (vx_MQ below (pQi Z (cM Z ad) (cM Z ad u0) s.heap.size post) (pX Z (cM Z ad) (cM Z ad u0) s.heap.size (fun _ _ => False)) args s 0 0 rm_M_isBest.cells rm_M_isBest.slots (va_A (cM Z ad u0) s.heap.size)) (F0 m 118 ls [.int (z0)]) := by
  unfold q_M_isBest_118 at h
  refine lv_istore_n (lv' := [(3, .int (z0)), (0, .ref (ad 0)), (1, .int (x1)), (2, .int (x2)), (4, .int (x4))]) C.2.1 C.2.2.1 d_M_isBest_118 rfl hl (by decide) rfl (fun ls hl => ?_)
  refine lv_iinc (v := (x4) + 1) (lv' := [(4, .int ((x4) + 1)), (3, .int (z0)), (0, .ref (ad 0)), (1, .int (x1)), (2, .int (x2))]) C.2.1 C.2.2.1 d_M_isBest_119 hl (k := 4) rfl rfl (by decide) rfl (fun ls hl => ?_)
  refine lv_goto (tgt := 8) C.2.1 C.2.2.1 d_M_isBest_122 (by decide) ?_
  exact hK8 (x1) (x2) (z0) ((x4) + 1) _ _ _ _ h hw (lv_sub hl [2, 3, 4, 1, 0] rfl)
def q_M_isBest_113 (K8 : Int32 → Int32 → Int32 → Int32 → MT → Prop) (x1 : Int32) (x2 : Int32) (x4 : Int32) (u : MT) (post : Int32 → MT → Prop) : Prop :=
  q_M_isBest_118 K8 (x1) (x2) (x4) (((1) : Int32)) (u) post
set_option maxRecDepth 100000 in
theorem w_M_isBest_113 {p : Program} {l : Launch} {e : Env} {s : State} {m : MethodId} {args : Array Value} {below : List Frame} {meth : Method} {c : Code} {Z : ZT} {ad : Nat → Nat} {u0 : MT} {post : Int32 → MT → Prop} {K8 : Int32 → Int32 → Int32 → Int32 → MT → Prop} (C : CX "CoderTablesModel" b_M_isBest 6 (some .boolean) Z (va_A (cM Z ad u0) s.heap.size) p l s m args meth c) (htab : ∀ x ∈ c.exceptionTable.toList, False) (hK8 : ∀ (x1 : Int32) (x2 : Int32) (x3 : Int32) (x4 : Int32) (u : MT) (H : Heap) (locs : List Loc) (ls : Array Slot), K8 x1 x2 x3 x4 u → WD Z (va_A (cM Z ad u0) s.heap.size) s (cM Z ad u) H locs → lv_has ls 6 [(0, .ref (ad 0)), (1, .int (x1)), (2, .int (x2)), (3, .int (x3)), (4, .int (x4))] → W p l e rm_M_isBest s m args below meth c H locs 0 0 (vx_MQ below (pQi Z (cM Z ad) (cM Z ad u0) s.heap.size post) (pX Z (cM Z ad) (cM Z ad u0) s.heap.size (fun _ _ => False)) args s 0 0 rm_M_isBest.cells rm_M_isBest.slots (va_A (cM Z ad u0) s.heap.size)) (F0 m 8 ls [])) (x1 : Int32) (x2 : Int32) (x4 : Int32) (u : MT) (H : Heap) (locs : List Loc) (ls : Array Slot) (hw : WD Z (va_A (cM Z ad u0) s.heap.size) s (cM Z ad u) H locs) (hl : lv_has ls 6 [(0, .ref (ad 0)), (1, .int (x1)), (2, .int (x2)), (4, .int (x4))]) (h : q_M_isBest_113 K8 x1 x2 x4 u post) : W p l e rm_M_isBest s m args below meth c H locs 0 0 (vx_MQ below (pQi Z (cM Z ad) (cM Z ad u0) s.heap.size post) (pX Z (cM Z ad) (cM Z ad u0) s.heap.size (fun _ _ => False)) args s 0 0 rm_M_isBest.cells rm_M_isBest.slots (va_A (cM Z ad u0) s.heap.size)) (F0 m 113 ls []) := by
  unfold q_M_isBest_113 at h
  refine lv_iconst (v := (1)) C.2.1 C.2.2.1 d_M_isBest_113 (by decide) ?_
  refine lv_goto (tgt := 118) C.2.1 C.2.2.1 d_M_isBest_114 (by decide) ?_
  exact w_M_isBest_118 C htab hK8 (x1) (x2) (x4) (((1) : Int32)) _ _ _ _ hw (lv_sub hl [0, 1, 2, 3] rfl) h
def q_M_isBest_117 (K8 : Int32 → Int32 → Int32 → Int32 → MT → Prop) (x1 : Int32) (x2 : Int32) (x4 : Int32) (u : MT) (post : Int32 → MT → Prop) : Prop :=
  q_M_isBest_118 K8 (x1) (x2) (x4) (((0) : Int32)) (u) post
set_option maxRecDepth 100000 in
theorem w_M_isBest_117 {p : Program} {l : Launch} {e : Env} {s : State} {m : MethodId} {args : Array Value} {below : List Frame} {meth : Method} {c : Code} {Z : ZT} {ad : Nat → Nat} {u0 : MT} {post : Int32 → MT → Prop} {K8 : Int32 → Int32 → Int32 → Int32 → MT → Prop} (C : CX "CoderTablesModel" b_M_isBest 6 (some .boolean) Z (va_A (cM Z ad u0) s.heap.size) p l s m args meth c) (htab : ∀ x ∈ c.exceptionTable.toList, False) (hK8 : ∀ (x1 : Int32) (x2 : Int32) (x3 : Int32) (x4 : Int32) (u : MT) (H : Heap) (locs : List Loc) (ls : Array Slot), K8 x1 x2 x3 x4 u → WD Z (va_A (cM Z ad u0) s.heap.size) s (cM Z ad u) H locs → lv_has ls 6 [(0, .ref (ad 0)), (1, .int (x1)), (2, .int (x2)), (3, .int (x3)), (4, .int (x4))] → W p l e rm_M_isBest s m args below meth c H locs 0 0 (vx_MQ below (pQi Z (cM Z ad) (cM Z ad u0) s.heap.size post) (pX Z (cM Z ad) (cM Z ad u0) s.heap.size (fun _ _ => False)) args s 0 0 rm_M_isBest.cells rm_M_isBest.slots (va_A (cM Z ad u0) s.heap.size)) (F0 m 8 ls [])) (x1 : Int32) (x2 : Int32) (x4 : Int32) (u : MT) (H : Heap) (locs : List Loc) (ls : Array Slot) (hw : WD Z (va_A (cM Z ad u0) s.heap.size) s (cM Z ad u) H locs) (hl : lv_has ls 6 [(0, .ref (ad 0)), (1, .int (x1)), (2, .int (x2)), (4, .int (x4))]) (h : q_M_isBest_117 K8 x1 x2 x4 u post) : W p l e rm_M_isBest s m args below meth c H locs 0 0 (vx_MQ below (pQi Z (cM Z ad) (cM Z ad u0) s.heap.size post) (pX Z (cM Z ad) (cM Z ad u0) s.heap.size (fun _ _ => False)) args s 0 0 rm_M_isBest.cells rm_M_isBest.slots (va_A (cM Z ad u0) s.heap.size)) (F0 m 117 ls []) := by
  unfold q_M_isBest_117 at h
  refine lv_iconst (v := (0)) C.2.1 C.2.2.1 d_M_isBest_117 (by decide) ?_
  exact w_M_isBest_118 C htab hK8 (x1) (x2) (x4) (((0) : Int32)) _ _ _ _ hw (lv_sub hl [0, 1, 2, 3] rfl) h
def q_M_isBest_61 (K8 : Int32 → Int32 → Int32 → Int32 → MT → Prop) (x1 : Int32) (x2 : Int32) (x3 : Int32) (x4 : Int32) (z0 : Int32) (u : MT) (post : Int32 → MT → Prop) : Prop :=
  (((x3) = 0 → q_M_isBest_117 K8 (x1) (x2) (x4) (u) post) ∧ (¬ (x3) = 0 → (((z0) = 0 → (vp_in (x4) 1152 ∧ (vp_in (x2) 1152 ∧ (((m_bytesOf (u) (x2).toNatClampNeg) < (m_bytesOf (u) (x4).toNatClampNeg) → q_M_isBest_113 K8 (x1) (x2) (x4) (u) post) ∧ (¬ (m_bytesOf (u) (x2).toNatClampNeg) < (m_bytesOf (u) (x4).toNatClampNeg) → (vp_in (x4) 1152 ∧ (vp_in (x2) 1152 ∧ (((m_errorOf (u) (x4).toNatClampNeg) ≤ (m_errorOf (u) (x2).toNatClampNeg) → q_M_isBest_117 K8 (x1) (x2) (x4) (u) post) ∧ (¬ (m_errorOf (u) (x4).toNatClampNeg) ≤ (m_errorOf (u) (x2).toNatClampNeg) → q_M_isBest_113 K8 (x1) (x2) (x4) (u) post))))))))) ∧ (¬ (z0) = 0 → (((x4) < (x2) → q_M_isBest_117 K8 (x1) (x2) (x4) (u) post) ∧ (¬ (x4) < (x2) → q_M_isBest_113 K8 (x1) (x2) (x4) (u) post))))))
set_option maxRecDepth 100000 in
theorem w_M_isBest_61 {p : Program} {l : Launch} {e : Env} {s : State} {m : MethodId} {args : Array Value} {below : List Frame} {meth : Method} {c : Code} {Z : ZT} {ad : Nat → Nat} {u0 : MT} {post : Int32 → MT → Prop} {K8 : Int32 → Int32 → Int32 → Int32 → MT → Prop} (C : CX "CoderTablesModel" b_M_isBest 6 (some .boolean) Z (va_A (cM Z ad u0) s.heap.size) p l s m args meth c) (htab : ∀ x ∈ c.exceptionTable.toList, False) (hK8 : ∀ (x1 : Int32) (x2 : Int32) (x3 : Int32) (x4 : Int32) (u : MT) (H : Heap) (locs : List Loc) (ls : Array Slot), K8 x1 x2 x3 x4 u → WD Z (va_A (cM Z ad u0) s.heap.size) s (cM Z ad u) H locs → lv_has ls 6 [(0, .ref (ad 0)), (1, .int (x1)), (2, .int (x2)), (3, .int (x3)), (4, .int (x4))] → W p l e rm_M_isBest s m args below meth c H locs 0 0 (vx_MQ below (pQi Z (cM Z ad) (cM Z ad u0) s.heap.size post) (pX Z (cM Z ad) (cM Z ad u0) s.heap.size (fun _ _ => False)) args s 0 0 rm_M_isBest.cells rm_M_isBest.slots (va_A (cM Z ad u0) s.heap.size)) (F0 m 8 ls [])) (x1 : Int32) (x2 : Int32) (x3 : Int32) (x4 : Int32) (z0 : Int32) (u : MT) (H : Heap) (locs : List Loc) (ls : Array Slot) (hw : WD Z (va_A (cM Z ad u0) s.heap.size) s (cM Z ad u) H locs) (hl : lv_has ls 6 [(0, .ref (ad 0)), (1, .int (x1)), (2, .int (x2)), (3, .int (x3)), (4, .int (x4))]) (h : q_M_isBest_61 K8 x1 x2 x3 x4 z0 u post) : W p l e rm_M_isBest s m args below meth c H locs 0 0 (vx_MQ below (pQi Z (cM Z ad) (cM Z ad u0) s.heap.size post) (pX Z (cM Z ad) (cM Z ad u0) s.heap.size (fun _ _ => False)) args s 0 0 rm_M_isBest.cells rm_M_isBest.slots (va_A (cM Z ad u0) s.heap.size)) (F0 m 61 ls [.int (z0)]) := by
  unfold q_M_isBest_61 at h
  refine lv_istore (lv' := [(5, .int (z0)), (0, .ref (ad 0)), (1, .int (x1)), (2, .int (x2)), (3, .int (x3)), (4, .int (x4))]) C.2.1 C.2.2.1 d_M_isBest_61 hl (by decide) rfl (fun ls hl => ?_)
  refine lv_iload_n C.2.1 C.2.2.1 d_M_isBest_63 rfl (lv_at hl 4 rfl) ?_
  refine lv_if_eq (tgt := 117) C.2.1 C.2.2.1 d_M_isBest_64 (by decide) (fun c => ?_) (fun c => ?_)
  · have h := h.1 c
    exact w_M_isBest_117 C htab hK8 (x1) (x2) (x4) _ _ _ _ hw (lv_sub hl [1, 2, 3, 5] rfl) h
  · have h := h.2 c
    refine lv_iload C.2.1 C.2.2.1 d_M_isBest_67 (lv_at hl 0 rfl) ?_
    refine lv_if_eq (tgt := 81) C.2.1 C.2.2.1 d_M_isBest_69 (by decide) (fun c => ?_) (fun c => ?_)
    · have h := h.1 c
      refine lv_aload_n C.2.1 C.2.2.1 d_M_isBest_81 rfl (lv_at hl 1 rfl) ?_
      refine r_M_17 C hw d_M_isBest_82 ?_
      refine lv_iload C.2.1 C.2.2.1 d_M_isBest_85 (lv_at hl 5 rfl) ?_
      obtain ⟨hi, h⟩ := h
      refine al_M_3 C hw hi d_M_isBest_87 ?_
      refine lv_aload_n C.2.1 C.2.2.1 d_M_isBest_88 rfl (lv_at hl 1 rfl) ?_
      refine r_M_17 C hw d_M_isBest_89 ?_
      refine lv_iload_n C.2.1 C.2.2.1 d_M_isBest_92 rfl (lv_at hl 3 rfl) ?_
      obtain ⟨hi, h⟩ := h
      refine al_M_3 C hw hi d_M_isBest_93 ?_
      refine lv_icmp_gt (tgt := 113) C.2.1 C.2.2.1 d_M_isBest_94 (by decide) (fun c => ?_) (fun c => ?_)
      · have h := h.1 c
        exact w_M_isBest_113 C htab hK8 (x1) (x2) (x4) _ _ _ _ hw (lv_sub hl [1, 2, 3, 5] rfl) h
      · have h := h.2 c
        refine lv_aload_n C.2.1 C.2.2.1 d_M_isBest_97 rfl (lv_at hl 1 rfl) ?_
        refine r_M_20 C hw d_M_isBest_98 ?_
        refine lv_iload C.2.1 C.2.2.1 d_M_isBest_101 (lv_at hl 5 rfl) ?_
        obtain ⟨hi, h⟩ := h
        refine al_M_4 C hw hi d_M_isBest_103 ?_
        refine lv_aload_n C.2.1 C.2.2.1 d_M_isBest_104 rfl (lv_at hl 1 rfl) ?_
        refine r_M_20 C hw d_M_isBest_105 ?_
        refine lv_iload_n C.2.1 C.2.2.1 d_M_isBest_108 rfl (lv_at hl 3 rfl) ?_
        obtain ⟨hi, h⟩ := h
        refine al_M_4 C hw hi d_M_isBest_109 ?_
        refine lv_icmp_le (tgt := 117) C.2.1 C.2.2.1 d_M_isBest_110 (by decide) (fun c => ?_) (fun c => ?_)
        · have h := h.1 c
          exact w_M_isBest_117 C htab hK8 (x1) (x2) (x4) _ _ _ _ hw (lv_sub hl [1, 2, 3, 5] rfl) h
        · have h := h.2 c
          exact w_M_isBest_113 C htab hK8 (x1) (x2) (x4) _ _ _ _ hw (lv_sub hl [1, 2, 3, 5] rfl) h
    · have h := h.2 c
      refine lv_iload C.2.1 C.2.2.1 d_M_isBest_72 (lv_at hl 5 rfl) ?_
      refine lv_iload_n C.2.1 C.2.2.1 d_M_isBest_74 rfl (lv_at hl 3 rfl) ?_
      refine lv_icmp_lt (tgt := 117) C.2.1 C.2.2.1 d_M_isBest_75 (by decide) (fun c => ?_) (fun c => ?_)
      · have h := h.1 c
        exact w_M_isBest_117 C htab hK8 (x1) (x2) (x4) _ _ _ _ hw (lv_sub hl [1, 2, 3, 5] rfl) h
      · have h := h.2 c
        refine lv_goto (tgt := 113) C.2.1 C.2.2.1 d_M_isBest_78 (by decide) ?_
        exact w_M_isBest_113 C htab hK8 (x1) (x2) (x4) _ _ _ _ hw (lv_sub hl [1, 2, 3, 5] rfl) h
def q_M_isBest_60 (K8 : Int32 → Int32 → Int32 → Int32 → MT → Prop) (x1 : Int32) (x2 : Int32) (x3 : Int32) (x4 : Int32) (u : MT) (post : Int32 → MT → Prop) : Prop :=
  q_M_isBest_61 K8 (x1) (x2) (x3) (x4) (((0) : Int32)) (u) post
set_option maxRecDepth 100000 in
theorem w_M_isBest_60 {p : Program} {l : Launch} {e : Env} {s : State} {m : MethodId} {args : Array Value} {below : List Frame} {meth : Method} {c : Code} {Z : ZT} {ad : Nat → Nat} {u0 : MT} {post : Int32 → MT → Prop} {K8 : Int32 → Int32 → Int32 → Int32 → MT → Prop} (C : CX "CoderTablesModel" b_M_isBest 6 (some .boolean) Z (va_A (cM Z ad u0) s.heap.size) p l s m args meth c) (htab : ∀ x ∈ c.exceptionTable.toList, False) (hK8 : ∀ (x1 : Int32) (x2 : Int32) (x3 : Int32) (x4 : Int32) (u : MT) (H : Heap) (locs : List Loc) (ls : Array Slot), K8 x1 x2 x3 x4 u → WD Z (va_A (cM Z ad u0) s.heap.size) s (cM Z ad u) H locs → lv_has ls 6 [(0, .ref (ad 0)), (1, .int (x1)), (2, .int (x2)), (3, .int (x3)), (4, .int (x4))] → W p l e rm_M_isBest s m args below meth c H locs 0 0 (vx_MQ below (pQi Z (cM Z ad) (cM Z ad u0) s.heap.size post) (pX Z (cM Z ad) (cM Z ad u0) s.heap.size (fun _ _ => False)) args s 0 0 rm_M_isBest.cells rm_M_isBest.slots (va_A (cM Z ad u0) s.heap.size)) (F0 m 8 ls [])) (x1 : Int32) (x2 : Int32) (x3 : Int32) (x4 : Int32) (u : MT) (H : Heap) (locs : List Loc) (ls : Array Slot) (hw : WD Z (va_A (cM Z ad u0) s.heap.size) s (cM Z ad u) H locs) (hl : lv_has ls 6 [(0, .ref (ad 0)), (1, .int (x1)), (2, .int (x2)), (3, .int (x3)), (4, .int (x4))]) (h : q_M_isBest_60 K8 x1 x2 x3 x4 u post) : W p l e rm_M_isBest s m args below meth c H locs 0 0 (vx_MQ below (pQi Z (cM Z ad) (cM Z ad u0) s.heap.size post) (pX Z (cM Z ad) (cM Z ad u0) s.heap.size (fun _ _ => False)) args s 0 0 rm_M_isBest.cells rm_M_isBest.slots (va_A (cM Z ad u0) s.heap.size)) (F0 m 60 ls []) := by
  unfold q_M_isBest_60 at h
  refine lv_iconst (v := (0)) C.2.1 C.2.2.1 d_M_isBest_60 (by decide) ?_
  exact w_M_isBest_61 C htab hK8 (x1) (x2) (x3) (x4) (((0) : Int32)) _ _ _ _ hw (lv_sub hl [0, 1, 2, 3, 4] rfl) h
def q_M_isBest_8 (K8 : Int32 → Int32 → Int32 → Int32 → MT → Prop) (x1 : Int32) (x2 : Int32) (x3 : Int32) (x4 : Int32) (u : MT) (post : Int32 → MT → Prop) : Prop :=
  (vp_in (x1) 192 ∧ (((((((6) : Int32)) * (x1)) + (m_count (u) (x1).toNatClampNeg)) ≤ (x4) → (narrow .boolean (.int (x3)) = .int (x3) ∧ post (x3) (u))) ∧ (¬ (((((6) : Int32)) * (x1)) + (m_count (u) (x1).toNatClampNeg)) ≤ (x4) → (vp_in (x4) 1152 ∧ (vp_in (x2) 1152 ∧ ((¬ (m_bytesOf (u) (x4).toNatClampNeg) = (m_bytesOf (u) (x2).toNatClampNeg) → q_M_isBest_60 K8 (x1) (x2) (x3) (x4) (u) post) ∧ ((m_bytesOf (u) (x4).toNatClampNeg) = (m_bytesOf (u) (x2).toNatClampNeg) → (vp_in (x4) 1152 ∧ (vp_in (x2) 1152 ∧ ((¬ (m_errorOf (u) (x4).toNatClampNeg) = (m_errorOf (u) (x2).toNatClampNeg) → q_M_isBest_60 K8 (x1) (x2) (x3) (x4) (u) post) ∧ ((m_errorOf (u) (x4).toNatClampNeg) = (m_errorOf (u) (x2).toNatClampNeg) → q_M_isBest_61 K8 (x1) (x2) (x3) (x4) (((1) : Int32)) (u) post)))))))))))
set_option maxRecDepth 100000 in
theorem w_M_isBest_8 {p : Program} {l : Launch} {e : Env} {s : State} {m : MethodId} {args : Array Value} {below : List Frame} {meth : Method} {c : Code} {Z : ZT} {ad : Nat → Nat} {u0 : MT} {post : Int32 → MT → Prop} {K8 : Int32 → Int32 → Int32 → Int32 → MT → Prop} (C : CX "CoderTablesModel" b_M_isBest 6 (some .boolean) Z (va_A (cM Z ad u0) s.heap.size) p l s m args meth c) (htab : ∀ x ∈ c.exceptionTable.toList, False) (hK8 : ∀ (x1 : Int32) (x2 : Int32) (x3 : Int32) (x4 : Int32) (u : MT) (H : Heap) (locs : List Loc) (ls : Array Slot), K8 x1 x2 x3 x4 u → WD Z (va_A (cM Z ad u0) s.heap.size) s (cM Z ad u) H locs → lv_has ls 6 [(0, .ref (ad 0)), (1, .int (x1)), (2, .int (x2)), (3, .int (x3)), (4, .int (x4))] → W p l e rm_M_isBest s m args below meth c H locs 0 0 (vx_MQ below (pQi Z (cM Z ad) (cM Z ad u0) s.heap.size post) (pX Z (cM Z ad) (cM Z ad u0) s.heap.size (fun _ _ => False)) args s 0 0 rm_M_isBest.cells rm_M_isBest.slots (va_A (cM Z ad u0) s.heap.size)) (F0 m 8 ls [])) (x1 : Int32) (x2 : Int32) (x3 : Int32) (x4 : Int32) (u : MT) (H : Heap) (locs : List Loc) (ls : Array Slot) (hw : WD Z (va_A (cM Z ad u0) s.heap.size) s (cM Z ad u) H locs) (hl : lv_has ls 6 [(0, .ref (ad 0)), (1, .int (x1)), (2, .int (x2)), (3, .int (x3)), (4, .int (x4))]) (h : q_M_isBest_8 K8 x1 x2 x3 x4 u post) : W p l e rm_M_isBest s m args below meth c H locs 0 0 (vx_MQ below (pQi Z (cM Z ad) (cM Z ad u0) s.heap.size post) (pX Z (cM Z ad) (cM Z ad u0) s.heap.size (fun _ _ => False)) args s 0 0 rm_M_isBest.cells rm_M_isBest.slots (va_A (cM Z ad u0) s.heap.size)) (F0 m 8 ls []) := by
  unfold q_M_isBest_8 at h
  refine lv_iload C.2.1 C.2.2.1 d_M_isBest_8 (lv_at hl 4 rfl) ?_
  refine lv_bipush (v := (6)) C.2.1 C.2.2.1 d_M_isBest_10 (by decide) ?_
  refine lv_iload_n C.2.1 C.2.2.1 d_M_isBest_12 rfl (lv_at hl 1 rfl) ?_
  refine lv_imul C.2.1 C.2.2.1 d_M_isBest_13 ?_
  refine lv_aload_n C.2.1 C.2.2.1 d_M_isBest_14 rfl (lv_at hl 0 rfl) ?_
  refine r_M_7 C hw d_M_isBest_15 ?_
  refine lv_iload_n C.2.1 C.2.2.1 d_M_isBest_18 rfl (lv_at hl 1 rfl) ?_
  obtain ⟨hi, h⟩ := h
  refine al_M_1 C hw hi d_M_isBest_19 ?_
  refine lv_iadd C.2.1 C.2.2.1 d_M_isBest_20 ?_
  refine lv_icmp_ge (tgt := 125) C.2.1 C.2.2.1 d_M_isBest_21 (by decide) (fun c => ?_) (fun c => ?_)
  · have h := h.1 c
    refine lv_iload_n C.2.1 C.2.2.1 d_M_isBest_125 rfl (lv_at hl 3 rfl) ?_
    exact g_iret C hw h.1 h.2 d_M_isBest_126
  · have h := h.2 c
    refine lv_aload_n C.2.1 C.2.2.1 d_M_isBest_24 rfl (lv_at hl 0 rfl) ?_
    refine r_M_17 C hw d_M_isBest_25 ?_
    refine lv_iload C.2.1 C.2.2.1 d_M_isBest_28 (lv_at hl 4 rfl) ?_
    obtain ⟨hi, h⟩ := h
    refine al_M_3 C hw hi d_M_isBest_30 ?_
    refine lv_aload_n C.2.1 C.2.2.1 d_M_isBest_31 rfl (lv_at hl 0 rfl) ?_
    refine r_M_17 C hw d_M_isBest_32 ?_
    refine lv_iload_n C.2.1 C.2.2.1 d_M_isBest_35 rfl (lv_at hl 2 rfl) ?_
    obtain ⟨hi, h⟩ := h
    refine al_M_3 C hw hi d_M_isBest_36 ?_
    refine lv_icmp_ne (tgt := 60) C.2.1 C.2.2.1 d_M_isBest_37 (by decide) (fun c => ?_) (fun c => ?_)
    · have h := h.1 c
      exact w_M_isBest_60 C htab hK8 (x1) (x2) (x3) (x4) _ _ _ _ hw (lv_sub hl [0, 1, 2, 3, 4] rfl) h
    · have h := h.2 c
      refine lv_aload_n C.2.1 C.2.2.1 d_M_isBest_40 rfl (lv_at hl 0 rfl) ?_
      refine r_M_20 C hw d_M_isBest_41 ?_
      refine lv_iload C.2.1 C.2.2.1 d_M_isBest_44 (lv_at hl 4 rfl) ?_
      obtain ⟨hi, h⟩ := h
      refine al_M_4 C hw hi d_M_isBest_46 ?_
      refine lv_aload_n C.2.1 C.2.2.1 d_M_isBest_47 rfl (lv_at hl 0 rfl) ?_
      refine r_M_20 C hw d_M_isBest_48 ?_
      refine lv_iload_n C.2.1 C.2.2.1 d_M_isBest_51 rfl (lv_at hl 2 rfl) ?_
      obtain ⟨hi, h⟩ := h
      refine al_M_4 C hw hi d_M_isBest_52 ?_
      refine lv_icmp_ne (tgt := 60) C.2.1 C.2.2.1 d_M_isBest_53 (by decide) (fun c => ?_) (fun c => ?_)
      · have h := h.1 c
        exact w_M_isBest_60 C htab hK8 (x1) (x2) (x3) (x4) _ _ _ _ hw (lv_sub hl [0, 1, 2, 3, 4] rfl) h
      · have h := h.2 c
        refine lv_iconst (v := (1)) C.2.1 C.2.2.1 d_M_isBest_56 (by decide) ?_
        refine lv_goto (tgt := 61) C.2.1 C.2.2.1 d_M_isBest_57 (by decide) ?_
        exact w_M_isBest_61 C htab hK8 (x1) (x2) (x3) (x4) (((1) : Int32)) _ _ _ _ hw (lv_sub hl [0, 1, 2, 3, 4] rfl) h
def q_M_isBest_8N : Nat → Int32 → Int32 → Int32 → Int32 → MT → (Int32 → MT → Prop) → Prop
  | 0 => fun _ _ _ _ _ _ => False
  | n + 1 => fun x1 x2 x3 x4 u post => q_M_isBest_8 (fun x1 x2 x3 x4 u => q_M_isBest_8N n x1 x2 x3 x4 u post) x1 x2 x3 x4 u post
theorem w_M_isBest_8N {p : Program} {l : Launch} {e : Env} {s : State} {m : MethodId} {args : Array Value} {below : List Frame} {meth : Method} {c : Code} {Z : ZT} {ad : Nat → Nat} {u0 : MT} {post : Int32 → MT → Prop} (C : CX "CoderTablesModel" b_M_isBest 6 (some .boolean) Z (va_A (cM Z ad u0) s.heap.size) p l s m args meth c) (htab : ∀ x ∈ c.exceptionTable.toList, False) : ∀ (n : Nat) (x1 : Int32) (x2 : Int32) (x3 : Int32) (x4 : Int32) (u : MT) (H : Heap) (locs : List Loc) (ls : Array Slot), WD Z (va_A (cM Z ad u0) s.heap.size) s (cM Z ad u) H locs → lv_has ls 6 [(0, .ref (ad 0)), (1, .int (x1)), (2, .int (x2)), (3, .int (x3)), (4, .int (x4))] → q_M_isBest_8N n x1 x2 x3 x4 u post → W p l e rm_M_isBest s m args below meth c H locs 0 0 (vx_MQ below (pQi Z (cM Z ad) (cM Z ad u0) s.heap.size post) (pX Z (cM Z ad) (cM Z ad u0) s.heap.size (fun _ _ => False)) args s 0 0 rm_M_isBest.cells rm_M_isBest.slots (va_A (cM Z ad u0) s.heap.size)) (F0 m 8 ls []) := by
  intro n
  induction n with
  | zero => intro x1 x2 x3 x4 u H locs ls hw hl h; exact h.elim
  | succ n ih => intro x1 x2 x3 x4 u H locs ls hw hl h; exact w_M_isBest_8 C htab (fun x1 x2 x3 x4 u H locs ls h hw hl => ih x1 x2 x3 x4 u H locs ls hw hl h) x1 x2 x3 x4 u H locs ls hw hl h
def q_M_isBest (p1 : Int32) (p2 : Int32) (u : MT) (post : Int32 → MT → Prop) : Prop :=
  ∃ n, q_M_isBest_8N n (p1) (p2) (((1) : Int32)) ((((6) : Int32)) * (p1)) (u) post
set_option maxRecDepth 100000 in
theorem c_M_isBest {l : Launch} {Z : ZT} {ad : Nat → Nat} {u : MT} {post : Int32 → MT → Prop} {p1 : Int32} {p2 : Int32} (hl0 : l.stackTraces = false) (h : q_M_isBest p1 p2 u post) : ∀ sz, vx_Met l y_M_isBest (Cond.code y_M_isBest b_M_isBest 6 (some .boolean) :: GW) rm_M_isBest (pP Z [.ref (ad 0), .int (p1), .int (p2)] (cM Z ad u) sz) (pQi Z (cM Z ad) (cM Z ad u) sz post) (pX Z (cM Z ad) (cM Z ad u) sz (fun _ _ => False)) 0 0 rm_M_isBest.cells rm_M_isBest.slots (va_A (cM Z ad u) sz) := by
  refine g_ent (f := cM Z ad) (Qc := fun sz => pQi Z (cM Z ad) (cM Z ad u) sz post) (XC := fun sz => pX Z (cM Z ad) (cM Z ad u) sz (fun _ _ => False)) hl0 (by decide +kernel) (Nat.le_of_ble_eq_true rfl) ?_
  intro p e s m args below meth c ls C htab hw hl
  have hl : lv_has ls 6 [(0, .ref (ad 0)), (1, .int (p1)), (2, .int (p2))] := hl
  unfold q_M_isBest at h
  refine lv_iconst (v := (1)) C.2.1 C.2.2.1 d_M_isBest_0 (by decide) ?_
  refine lv_istore_n (lv' := [(3, .int (((1) : Int32))), (0, .ref (ad 0)), (1, .int (p1)), (2, .int (p2))]) C.2.1 C.2.2.1 d_M_isBest_1 rfl hl (by decide) rfl (fun ls hl => ?_)
  refine lv_bipush (v := (6)) C.2.1 C.2.2.1 d_M_isBest_2 (by decide) ?_
  refine lv_iload_n C.2.1 C.2.2.1 d_M_isBest_4 rfl (lv_at hl 2 rfl) ?_
  refine lv_imul C.2.1 C.2.2.1 d_M_isBest_5 ?_
  refine lv_istore (lv' := [(4, .int ((((6) : Int32)) * (p1))), (3, .int (((1) : Int32))), (0, .ref (ad 0)), (1, .int (p1)), (2, .int (p2))]) C.2.1 C.2.2.1 d_M_isBest_6 hl (by decide) rfl (fun ls hl => ?_)
  obtain ⟨n, h⟩ := h
  exact w_M_isBest_8N C htab n (p1) (p2) (((1) : Int32)) ((((6) : Int32)) * (p1)) _ _ _ _ hw (lv_sub hl [2, 3, 4, 1, 0] rfl) h
section KR
variable {own host : String} {cc bytes : ByteArray} {nL maxL index n : Nat} {rt0 rt : Option FieldType} {Z : ZT} {ad : Nat → Nat} {A : Nat → Prop}
variable {p : Program} {l : Launch} {e : Env} {R : Room} {s : State} {m : MethodId} {args : Array Value} {below : List Frame} {meth : Method} {c : Code} {H : Heap} {locs : List Loc} {cells slots : Nat} {Q : State → Prop} {rest : List Value} {pc : Nat} {ls : Array Slot}
theorem k_M_101 {u : MT} {p1 : Int32} {p2 : Int32} {post : Int32 → MT → Prop} (C : CX "CoderTablesModel" cc nL rt0 Z A p l s m args meth c) (hw : WD Z A s (cM Z ad u) H locs) (h : q_M_isBest p1 p2 u post) (hR : rmOk rm_M_isBest 6 R cells slots) (hl : ls.size = nL) (hW : (rest.map fun v => v.category).sum ≤ 8) (hdg : decode cc pc = .ok (.invokevirtual 101, 3)) (kk : ∀ (r : Int32) (u' : MT) (H1 : Heap) (locs1 : List Loc), post r u' → WD Z A s (cM Z ad u') H1 locs1 → W p l e R s m args below meth c H1 locs1 cells slots Q (F0 m (pc + 3) ls (.int r :: rest))) : W p l e R s m args below meth c H locs cells slots Q (F0 m pc ls (.int (p2) :: .int (p1) :: .ref (ad 0) :: rest)) :=
  g_V0_i (n := 2) (f := cM Z ad) (As := [.int (p1), .int (p2)]) C hw (c_M_isBest C.1 h) ⟨w702, w704, w41, w56, w705, (by decide +kernel), (by decide +kernel), (by decide +kernel)⟩ hR 0 rfl rfl rfl hl rfl hW hdg (fun _ _ _ _ _ _ h => h.elim) kk
end KR
/-! CoderTablesModel.isSteeper(III)Z -/
abbrev rm_M_isSteeper : Room := { frames := 0, cells := 0, slots := 0, locals := 0 }
def q_M_isSteeper (p1 : Int32) (p2 : Int32) (p3 : Int32) (u : MT) (post : Int32 → MT → Prop) : Prop :=
  (vp_in (p1) 1152 ∧ (vp_in (p2) 1152 ∧ (vp_in (p3) 1152 ∧ (vp_in (p1) 1152 ∧ (vp_in (p1) 1152 ∧ (vp_in (p3) 1152 ∧ (vp_in (p2) 1152 ∧ (vp_in (p1) 1152 ∧ ((0 < (lg_cmp ((((m_errorOf (u) (p1).toNatClampNeg) - (m_errorOf (u) (p2).toNatClampNeg)).toInt64) * (((m_bytesOf (u) (p3).toNatClampNeg) - (m_bytesOf (u) (p1).toNatClampNeg)).toInt64)) ((((m_errorOf (u) (p1).toNatClampNeg) - (m_errorOf (u) (p3).toNatClampNeg)).toInt64) * (((m_bytesOf (u) (p2).toNatClampNeg) - (m_bytesOf (u) (p1).toNatClampNeg)).toInt64))) → (narrow .boolean (.int (((1) : Int32))) = .int (((1) : Int32)) ∧ post (((1) : Int32)) (u))) ∧ (¬ 0 < (lg_cmp ((((m_errorOf (u) (p1).toNatClampNeg) - (m_errorOf (u) (p2).toNatClampNeg)).toInt64) * (((m_bytesOf (u) (p3).toNatClampNeg) - (m_bytesOf (u) (p1).toNatClampNeg)).toInt64)) ((((m_errorOf (u) (p1).toNatClampNeg) - (m_errorOf (u) (p3).toNatClampNeg)).toInt64) * (((m_bytesOf (u) (p2).toNatClampNeg) - (m_bytesOf (u) (p1).toNatClampNeg)).toInt64))) → ((¬ (lg_cmp ((((m_errorOf (u) (p1).toNatClampNeg) - (m_errorOf (u) (p2).toNatClampNeg)).toInt64) * (((m_bytesOf (u) (p3).toNatClampNeg) - (m_bytesOf (u) (p1).toNatClampNeg)).toInt64)) ((((m_errorOf (u) (p1).toNatClampNeg) - (m_errorOf (u) (p3).toNatClampNeg)).toInt64) * (((m_bytesOf (u) (p2).toNatClampNeg) - (m_bytesOf (u) (p1).toNatClampNeg)).toInt64))) = 0 → (narrow .boolean (.int (((0) : Int32))) = .int (((0) : Int32)) ∧ post (((0) : Int32)) (u))) ∧ ((lg_cmp ((((m_errorOf (u) (p1).toNatClampNeg) - (m_errorOf (u) (p2).toNatClampNeg)).toInt64) * (((m_bytesOf (u) (p3).toNatClampNeg) - (m_bytesOf (u) (p1).toNatClampNeg)).toInt64)) ((((m_errorOf (u) (p1).toNatClampNeg) - (m_errorOf (u) (p3).toNatClampNeg)).toInt64) * (((m_bytesOf (u) (p2).toNatClampNeg) - (m_bytesOf (u) (p1).toNatClampNeg)).toInt64))) = 0 → (vp_in (p2) 1152 ∧ (vp_in (p3) 1152 ∧ (((m_bytesOf (u) (p2).toNatClampNeg) ≤ (m_bytesOf (u) (p3).toNatClampNeg) → (narrow .boolean (.int (((0) : Int32))) = .int (((0) : Int32)) ∧ post (((0) : Int32)) (u))) ∧ (¬ (m_bytesOf (u) (p2).toNatClampNeg) ≤ (m_bytesOf (u) (p3).toNatClampNeg) → (narrow .boolean (.int (((1) : Int32))) = .int (((1) : Int32)) ∧ post (((1) : Int32)) (u))))))))))))))))))
set_option maxRecDepth 100000 in
theorem c_M_isSteeper {l : Launch} {Z : ZT} {ad : Nat → Nat} {u : MT} {post : Int32 → MT → Prop} {p1 : Int32} {p2 : Int32} {p3 : Int32} (hl0 : l.stackTraces = false) (h : q_M_isSteeper p1 p2 p3 u post) : ∀ sz, vx_Met l y_M_isSteeper (Cond.code y_M_isSteeper b_M_isSteeper 8 (some .boolean) :: GW) rm_M_isSteeper (pP Z [.ref (ad 0), .int (p1), .int (p2), .int (p3)] (cM Z ad u) sz) (pQi Z (cM Z ad) (cM Z ad u) sz post) (pX Z (cM Z ad) (cM Z ad u) sz (fun _ _ => False)) 0 0 rm_M_isSteeper.cells rm_M_isSteeper.slots (va_A (cM Z ad u) sz) := by
  refine g_ent (f := cM Z ad) (Qc := fun sz => pQi Z (cM Z ad) (cM Z ad u) sz post) (XC := fun sz => pX Z (cM Z ad) (cM Z ad u) sz (fun _ _ => False)) hl0 (by decide +kernel) (Nat.le_of_ble_eq_true rfl) ?_
  intro p e s m args below meth c ls C htab hw hl
  have hl : lv_has ls 8 [(0, .ref (ad 0)), (1, .int (p1)), (2, .int (p2)), (3, .int (p3))] := hl
  unfold q_M_isSteeper at h
  refine lv_aload_n C.2.1 C.2.2.1 d_M_isSteeper_0 rfl (lv_at hl 0 rfl) ?_
  refine r_M_20 C hw d_M_isSteeper_1 ?_
  refine lv_iload_n C.2.1 C.2.2.1 d_M_isSteeper_4 rfl (lv_at hl 1 rfl) ?_
  obtain ⟨hi, h⟩ := h
  refine al_M_4 C hw hi d_M_isSteeper_5 ?_
  refine lv_aload_n C.2.1 C.2.2.1 d_M_isSteeper_6 rfl (lv_at hl 0 rfl) ?_
  refine r_M_20 C hw d_M_isSteeper_7 ?_
  refine lv_iload_n C.2.1 C.2.2.1 d_M_isSteeper_10 rfl (lv_at hl 2 rfl) ?_
  obtain ⟨hi, h⟩ := h
  refine al_M_4 C hw hi d_M_isSteeper_11 ?_
  refine lv_isub C.2.1 C.2.2.1 d_M_isSteeper_12 ?_
  refine lv_i2l C.2.1 C.2.2.1 d_M_isSteeper_13 rfl ?_
  refine lv_aload_n C.2.1 C.2.2.1 d_M_isSteeper_14 rfl (lv_at hl 0 rfl) ?_
  refine r_M_17 C hw d_M_isSteeper_15 ?_
  refine lv_iload_n C.2.1 C.2.2.1 d_M_isSteeper_18 rfl (lv_at hl 3 rfl) ?_
  obtain ⟨hi, h⟩ := h
  refine al_M_3 C hw hi d_M_isSteeper_19 ?_
  refine lv_aload_n C.2.1 C.2.2.1 d_M_isSteeper_20 rfl (lv_at hl 0 rfl) ?_
  refine r_M_17 C hw d_M_isSteeper_21 ?_
  refine lv_iload_n C.2.1 C.2.2.1 d_M_isSteeper_24 rfl (lv_at hl 1 rfl) ?_
  obtain ⟨hi, h⟩ := h
  refine al_M_3 C hw hi d_M_isSteeper_25 ?_
  refine lv_isub C.2.1 C.2.2.1 d_M_isSteeper_26 ?_
  refine lv_i2l C.2.1 C.2.2.1 d_M_isSteeper_27 rfl ?_
  refine lv_lmul C.2.1 C.2.2.1 d_M_isSteeper_28 ?_
  refine lv_lstore (lv' := [(4, .long ((((m_errorOf (u) (p1).toNatClampNeg) - (m_errorOf (u) (p2).toNatClampNeg)).toInt64) * (((m_bytesOf (u) (p3).toNatClampNeg) - (m_bytesOf (u) (p1).toNatClampNeg)).toInt64))), (0, .ref (ad 0)), (1, .int (p1)), (2, .int (p2)), (3, .int (p3))]) C.2.1 C.2.2.1 d_M_isSteeper_29 hl (by decide) rfl (fun ls hl => ?_)
  refine lv_aload_n C.2.1 C.2.2.1 d_M_isSteeper_31 rfl (lv_at hl 1 rfl) ?_
  refine r_M_20 C hw d_M_isSteeper_32 ?_
  refine lv_iload_n C.2.1 C.2.2.1 d_M_isSteeper_35 rfl (lv_at hl 2 rfl) ?_
  obtain ⟨hi, h⟩ := h
  refine al_M_4 C hw hi d_M_isSteeper_36 ?_
  refine lv_aload_n C.2.1 C.2.2.1 d_M_isSteeper_37 rfl (lv_at hl 1 rfl) ?_
  refine r_M_20 C hw d_M_isSteeper_38 ?_
  refine lv_iload_n C.2.1 C.2.2.1 d_M_isSteeper_41 rfl (lv_at hl 4 rfl) ?_
  obtain ⟨hi, h⟩ := h
  refine al_M_4 C hw hi d_M_isSteeper_42 ?_
  refine lv_isub C.2.1 C.2.2.1 d_M_isSteeper_43 ?_
  refine lv_i2l C.2.1 C.2.2.1 d_M_isSteeper_44 rfl ?_
  refine lv_aload_n C.2.1 C.2.2.1 d_M_isSteeper_45 rfl (lv_at hl 1 rfl) ?_
  refine r_M_17 C hw d_M_isSteeper_46 ?_
  refine lv_iload_n C.2.1 C.2.2.1 d_M_isSteeper_49 rfl (lv_at hl 3 rfl) ?_
  obtain ⟨hi, h⟩ := h
  refine al_M_3 C hw hi d_M_isSteeper_50 ?_
  refine lv_aload_n C.2.1 C.2.2.1 d_M_isSteeper_51 rfl (lv_at hl 1 rfl) ?_
  refine r_M_17 C hw d_M_isSteeper_52 ?_
  refine lv_iload_n C.2.1 C.2.2.1 d_M_isSteeper_55 rfl (lv_at hl 2 rfl) ?_
  obtain ⟨hi, h⟩ := h
  refine al_M_3 C hw hi d_M_isSteeper_56 ?_
  refine lv_isub C.2.1 C.2.2.1 d_M_isSteeper_57 ?_
  refine lv_i2l C.2.1 C.2.2.1 d_M_isSteeper_58 rfl ?_
  refine lv_lmul C.2.1 C.2.2.1 d_M_isSteeper_59 ?_
  refine lv_lstore (lv' := [(6, .long ((((m_errorOf (u) (p1).toNatClampNeg) - (m_errorOf (u) (p3).toNatClampNeg)).toInt64) * (((m_bytesOf (u) (p2).toNatClampNeg) - (m_bytesOf (u) (p1).toNatClampNeg)).toInt64))), (4, .long ((((m_errorOf (u) (p1).toNatClampNeg) - (m_errorOf (u) (p2).toNatClampNeg)).toInt64) * (((m_bytesOf (u) (p3).toNatClampNeg) - (m_bytesOf (u) (p1).toNatClampNeg)).toInt64))), (0, .ref (ad 0)), (1, .int (p1)), (2, .int (p2)), (3, .int (p3))]) C.2.1 C.2.2.1 d_M_isSteeper_60 hl (by decide) rfl (fun ls hl => ?_)
  refine lv_lload C.2.1 C.2.2.1 d_M_isSteeper_62 (lv_at hl 1 rfl) ?_
  refine lv_lload C.2.1 C.2.2.1 d_M_isSteeper_64 (lv_at hl 0 rfl) ?_
  refine W.lcmp C.2.1 C.2.2.1 d_M_isSteeper_66 ?_
  refine lv_if_gt (tgt := 93) C.2.1 C.2.2.1 d_M_isSteeper_67 (by decide) (fun c => ?_) (fun c => ?_)
  · have h := h.1 c
    refine lv_iconst (v := (1)) C.2.1 C.2.2.1 d_M_isSteeper_93 (by decide) ?_
    refine lv_goto (tgt := 98) C.2.1 C.2.2.1 d_M_isSteeper_94 (by decide) ?_
    exact g_iret C hw h.1 h.2 d_M_isSteeper_98
  · have h := h.2 c
    refine lv_lload C.2.1 C.2.2.1 d_M_isSteeper_70 (lv_at hl 1 rfl) ?_
    refine lv_lload C.2.1 C.2.2.1 d_M_isSteeper_72 (lv_at hl 0 rfl) ?_
    refine W.lcmp C.2.1 C.2.2.1 d_M_isSteeper_74 ?_
    refine lv_if_ne (tgt := 97) C.2.1 C.2.2.1 d_M_isSteeper_75 (by decide) (fun c => ?_) (fun c => ?_)
    · have h := h.1 c
      refine lv_iconst (v := (0)) C.2.1 C.2.2.1 d_M_isSteeper_97 (by decide) ?_
      exact g_iret C hw h.1 h.2 d_M_isSteeper_98
    · have h := h.2 c
      refine lv_aload_n C.2.1 C.2.2.1 d_M_isSteeper_78 rfl (lv_at hl 2 rfl) ?_
      refine r_M_17 C hw d_M_isSteeper_79 ?_
      refine lv_iload_n C.2.1 C.2.2.1 d_M_isSteeper_82 rfl (lv_at hl 4 rfl) ?_
      obtain ⟨hi, h⟩ := h
      refine al_M_3 C hw hi d_M_isSteeper_83 ?_
      refine lv_aload_n C.2.1 C.2.2.1 d_M_isSteeper_84 rfl (lv_at hl 2 rfl) ?_
      refine r_M_17 C hw d_M_isSteeper_85 ?_
      refine lv_iload_n C.2.1 C.2.2.1 d_M_isSteeper_88 rfl (lv_at hl 5 rfl) ?_
      obtain ⟨hi, h⟩ := h
      refine al_M_3 C hw hi d_M_isSteeper_89 ?_
      refine lv_icmp_le (tgt := 97) C.2.1 C.2.2.1 d_M_isSteeper_90 (by decide) (fun c => ?_) (fun c => ?_)
      · have h := h.1 c
        refine lv_iconst (v := (0)) C.2.1 C.2.2.1 d_M_isSteeper_97 (by decide) ?_
        exact g_iret C hw h.1 h.2 d_M_isSteeper_98
      · have h := h.2 c
        refine lv_iconst (v := (1)) C.2.1 C.2.2.1 d_M_isSteeper_93 (by decide) ?_
        refine lv_goto (tgt := 98) C.2.1 C.2.2.1 d_M_isSteeper_94 (by decide) ?_
        exact g_iret C hw h.1 h.2 d_M_isSteeper_98
section KR
variable {own host : String} {cc bytes : ByteArray} {nL maxL index n : Nat} {rt0 rt : Option FieldType} {Z : ZT} {ad : Nat → Nat} {A : Nat → Prop}
variable {p : Program} {l : Launch} {e : Env} {R : Room} {s : State} {m : MethodId} {args : Array Value} {below : List Frame} {meth : Method} {c : Code} {H : Heap} {locs : List Loc} {cells slots : Nat} {Q : State → Prop} {rest : List Value} {pc : Nat} {ls : Array Slot}
theorem k_M_104 {u : MT} {p1 : Int32} {p2 : Int32} {p3 : Int32} {post : Int32 → MT → Prop} (C : CX "CoderTablesModel" cc nL rt0 Z A p l s m args meth c) (hw : WD Z A s (cM Z ad u) H locs) (h : q_M_isSteeper p1 p2 p3 u post) (hR : rmOk rm_M_isSteeper 8 R cells slots) (hl : ls.size = nL) (hW : (rest.map fun v => v.category).sum ≤ 8) (hdg : decode cc pc = .ok (.invokevirtual 104, 3)) (kk : ∀ (r : Int32) (u' : MT) (H1 : Heap) (locs1 : List Loc), post r u' → WD Z A s (cM Z ad u') H1 locs1 → W p l e R s m args below meth c H1 locs1 cells slots Q (F0 m (pc + 3) ls (.int r :: rest))) : W p l e R s m args below meth c H locs cells slots Q (F0 m pc ls (.int (p3) :: .int (p2) :: .int (p1) :: .ref (ad 0) :: rest)) :=
  g_V0_i (n := 3) (f := cM Z ad) (As := [.int (p1), .int (p2), .int (p3)]) C hw (c_M_isSteeper C.1 h) ⟨w706, w708, w42, w56, w709, (by decide +kernel), (by decide +kernel), (by decide +kernel)⟩ hR 0 rfl rfl rfl hl rfl hW hdg (fun _ _ _ _ _ _ h => h.elim) kk
end KR
/-! CoderTablesModel.findHull(I)V -/
abbrev rm_M_findHull : Room := { frames := 1, cells := 0, slots := 0, locals := 27 }
def q_M_findHull_58 (K12 : Int32 → Int32 → Int32 → MT → Prop) (x1 : Int32) (x2 : Int32) (x3 : Int32) (u : MT) (post : MT → Prop) : Prop :=
  K12 (x1) (x2) ((x3) + 1) (u)
set_option maxRecDepth 100000 in
theorem w_M_findHull_58 {p : Program} {l : Launch} {e : Env} {s : State} {m : MethodId} {args : Array Value} {below : List Frame} {meth : Method} {c : Code} {Z : ZT} {ad : Nat → Nat} {u0 : MT} {post : MT → Prop} {K12 : Int32 → Int32 → Int32 → MT → Prop} (C : CX "CoderTablesModel" b_M_findHull 5 none Z (va_A (cM Z ad u0) s.heap.size) p l s m args meth c) (htab : ∀ x ∈ c.exceptionTable.toList, False) (hK12 : ∀ (x1 : Int32) (x2 : Int32) (x3 : Int32) (u : MT) (H : Heap) (locs : List Loc) (ls : Array Slot), K12 x1 x2 x3 u → WD Z (va_A (cM Z ad u0) s.heap.size) s (cM Z ad u) H locs → lv_has ls 5 [(0, .ref (ad 0)), (1, .int (x1)), (2, .int (x2)), (3, .int (x3))] → W p l e rm_M_findHull s m args below meth c H locs 0 0 (vx_MQ below (pQv Z (cM Z ad) (cM Z ad u0) s.heap.size post) (pX Z (cM Z ad) (cM Z ad u0) s.heap.size (fun _ _ => False)) args s 0 0 rm_M_findHull.cells rm_M_findHull.slots (va_A (cM Z ad u0) s.heap.size)) (F0 m 12 ls [])) (x1 : Int32) (x2 : Int32) (x3 : Int32) (u : MT) (H : Heap) (locs : List Loc) (ls : Array Slot) (hw : WD Z (va_A (cM Z ad u0) s.heap.size) s (cM Z ad u) H locs) (hl : lv_has ls 5 [(0, .ref (ad 0)), (1, .int (x1)), (2, .int (x2)), (3, .int (x3))]) (h : q_M_findHull_58 K12 x1 x2 x3 u post) : W p l e rm_M_findHull s m args below meth c H locs 0 0 (vx_MQ below (pQv Z (cM Z ad) (cM Z ad u0) s.heap.size post) (pX Z (cM Z ad) (cM Z ad u0) s.heap.size (fun _ _ => False)) args s 0 0 rm_M_findHull.cells rm_M_findHull.slots (va_A (cM Z ad u0) s.heap.size)) (F0 m 58 ls []) := by
  unfold q_M_findHull_58 at h
  refine lv_iinc (v := (x3) + 1) (lv' := [(3, .int ((x3) + 1)), (0, .ref (ad 0)), (1, .int (x1)), (2, .int (x2))]) C.2.1 C.2.2.1 d_M_findHull_58 hl (k := 3) rfl rfl (by decide) rfl (fun ls hl => ?_)
  refine lv_goto (tgt := 12) C.2.1 C.2.2.1 d_M_findHull_61 (by decide) ?_
  exact hK12 (x1) (x2) ((x3) + 1) _ _ _ _ h hw (lv_sub hl [1, 2, 3, 0] rfl)
def q_M_findHull_56 (K12 : Int32 → Int32 → Int32 → MT → Prop) (x1 : Int32) (x3 : Int32) (u : MT) (post : MT → Prop) : Prop :=
  q_M_findHull_58 K12 (x1) (x3) (x3) (u) post
set_option maxRecDepth 100000 in
theorem w_M_findHull_56 {p : Program} {l : Launch} {e : Env} {s : State} {m : MethodId} {args : Array Value} {below : List Frame} {meth : Method} {c : Code} {Z : ZT} {ad : Nat → Nat} {u0 : MT} {post : MT → Prop} {K12 : Int32 → Int32 → Int32 → MT → Prop} (C : CX "CoderTablesModel" b_M_findHull 5 none Z (va_A (cM Z ad u0) s.heap.size) p l s m args meth c) (htab : ∀ x ∈ c.exceptionTable.toList, False) (hK12 : ∀ (x1 : Int32) (x2 : Int32) (x3 : Int32) (u : MT) (H : Heap) (locs : List Loc) (ls : Array Slot), K12 x1 x2 x3 u → WD Z (va_A (cM Z ad u0) s.heap.size) s (cM Z ad u) H locs → lv_has ls 5 [(0, .ref (ad 0)), (1, .int (x1)), (2, .int (x2)), (3, .int (x3))] → W p l e rm_M_findHull s m args below meth c H locs 0 0 (vx_MQ below (pQv Z (cM Z ad) (cM Z ad u0) s.heap.size post) (pX Z (cM Z ad) (cM Z ad u0) s.heap.size (fun _ _ => False)) args s 0 0 rm_M_findHull.cells rm_M_findHull.slots (va_A (cM Z ad u0) s.heap.size)) (F0 m 12 ls [])) (x1 : Int32) (x3 : Int32) (u : MT) (H : Heap) (locs : List Loc) (ls : Array Slot) (hw : WD Z (va_A (cM Z ad u0) s.heap.size) s (cM Z ad u) H locs) (hl : lv_has ls 5 [(0, .ref (ad 0)), (1, .int (x1)), (3, .int (x3))]) (h : q_M_findHull_56 K12 x1 x3 u post) : W p l e rm_M_findHull s m args below meth c H locs 0 0 (vx_MQ below (pQv Z (cM Z ad) (cM Z ad u0) s.heap.size post) (pX Z (cM Z ad) (cM Z ad u0) s.heap.size (fun _ _ => False)) args s 0 0 rm_M_findHull.cells rm_M_findHull.slots (va_A (cM Z ad u0) s.heap.size)) (F0 m 56 ls []) := by
  unfold q_M_findHull_56 at h
  refine lv_iload_n C.2.1 C.2.2.1 d_M_findHull_56 rfl (lv_at hl 2 rfl) ?_
  refine lv_istore_n (lv' := [(2, .int (x3)), (0, .ref (ad 0)), (1, .int (x1)), (3, .int (x3))]) C.2.1 C.2.2.1 d_M_findHull_57 rfl hl (by decide) rfl (fun ls hl => ?_)
  exact w_M_findHull_58 C htab hK12 (x1) (x3) (x3) _ _ _ _ hw (lv_sub hl [1, 2, 0, 3] rfl) h
def q_M_findHull_158 (K64 : Int32 → Int32 → MT → Prop) (K97 : Int32 → Int32 → Int32 → Int32 → MT → Prop) (x1 : Int32) (x2 : Int32) (x3 : Int32) (x4 : Int32) (u : MT) (post : MT → Prop) : Prop :=
  K97 (x1) (x2) (x3) ((x4) + 1) (u)
set_option maxRecDepth 100000 in
theorem w_M_findHull_158 {p : Program} {l : Launch} {e : Env} {s : State} {m : MethodId} {args : Array Value} {below : List Frame} {meth : Method} {c : Code} {Z : ZT} {ad : Nat → Nat} {u0 : MT} {post : MT → Prop} {K64 : Int32 → Int32 → MT → Prop} {K97 : Int32 → Int32 → Int32 → Int32 → MT → Prop} (C : CX "CoderTablesModel" b_M_findHull 5 none Z (va_A (cM Z ad u0) s.heap.size) p l s m args meth c) (htab : ∀ x ∈ c.exceptionTable.toList, False) (hK64 : ∀ (x1 : Int32) (x2 : Int32) (u : MT) (H : Heap) (locs : List Loc) (ls : Array Slot), K64 x1 x2 u → WD Z (va_A (cM Z ad u0) s.heap.size) s (cM Z ad u) H locs → lv_has ls 5 [(0, .ref (ad 0)), (1, .int (x1)), (2, .int (x2))] → W p l e rm_M_findHull s m args below meth c H locs 0 0 (vx_MQ below (pQv Z (cM Z ad) (cM Z ad u0) s.heap.size post) (pX Z (cM Z ad) (cM Z ad u0) s.heap.size (fun _ _ => False)) args s 0 0 rm_M_findHull.cells rm_M_findHull.slots (va_A (cM Z ad u0) s.heap.size)) (F0 m 64 ls [])) (hK97 : ∀ (x1 : Int32) (x2 : Int32) (x3 : Int32) (x4 : Int32) (u : MT) (H : Heap) (locs : List Loc) (ls : Array Slot), K97 x1 x2 x3 x4 u → WD Z (va_A (cM Z ad u0) s.heap.size) s (cM Z ad u) H locs → lv_has ls 5 [(0, .ref (ad 0)), (1, .int (x1)), (2, .int (x2)), (3, .int (x3)), (4, .int (x4))] → W p l e rm_M_findHull s m args below meth c H locs 0 0 (vx_MQ below (pQv Z (cM Z ad) (cM Z ad u0) s.heap.size post) (pX Z (cM Z ad) (cM Z ad u0) s.heap.size (fun _ _ => False)) args s 0 0 rm_M_findHull.cells rm_M_findHull.slots (va_A (cM Z ad u0) s.heap.size)) (F0 m 97 ls [])) (x1 : Int32) (x2 : Int32) (x3 : Int32) (x4 : Int32) (u : MT) (H : Heap) (locs : List Loc) (ls : Array Slot) (hw : WD Z (va_A (cM Z ad u0) s.heap.size) s (cM Z ad u) H locs) (hl : lv_has ls 5 [(0, .ref (ad 0)), (1, .int (x1)), (2, .int (x2)), (3, .int (x3)), (4, .int (x4))]) (h : q_M_findHull_158 K64 K97 x1 x2 x3 x4 u post) : W p l e rm_M_findHull s m args below meth c H locs 0 0 (vx_MQ below (pQv Z (cM Z ad) (cM Z ad u0) s.heap.size post) (pX Z (cM Z ad) (cM Z ad u0) s.heap.size (fun _ _ => False)) args s 0 0 rm_M_findHull.cells rm_M_findHull.slots (va_A (cM Z ad u0) s.heap.size)) (F0 m 158 ls []) := by
  unfold q_M_findHull_158 at h
  refine lv_iinc (v := (x4) + 1) (lv' := [(4, .int ((x4) + 1)), (0, .ref (ad 0)), (1, .int (x1)), (2, .int (x2)), (3, .int (x3))]) C.2.1 C.2.2.1 d_M_findHull_158 hl (k := 4) rfl rfl (by decide) rfl (fun ls hl => ?_)
  refine lv_goto (tgt := 97) C.2.1 C.2.2.1 d_M_findHull_161 (by decide) ?_
  exact hK97 (x1) (x2) (x3) ((x4) + 1) _ _ _ _ h hw (lv_sub hl [1, 2, 3, 4, 0] rfl)
def q_M_findHull_155 (K64 : Int32 → Int32 → MT → Prop) (K97 : Int32 → Int32 → Int32 → Int32 → MT → Prop) (x1 : Int32) (x2 : Int32) (x4 : Int32) (u : MT) (post : MT → Prop) : Prop :=
  q_M_findHull_158 K64 K97 (x1) (x2) (x4) (x4) (u) post
set_option maxRecDepth 100000 in
theorem w_M_findHull_155 {p : Program} {l : Launch} {e : Env} {s : State} {m : MethodId} {args : Array Value} {below : List Frame} {meth : Method} {c : Code} {Z : ZT} {ad : Nat → Nat} {u0 : MT} {post : MT → Prop} {K64 : Int32 → Int32 → MT → Prop} {K97 : Int32 → Int32 → Int32 → Int32 → MT → Prop} (C : CX "CoderTablesModel" b_M_findHull 5 none Z (va_A (cM Z ad u0) s.heap.size) p l s m args meth c) (htab : ∀ x ∈ c.exceptionTable.toList, False) (hK64 : ∀ (x1 : Int32) (x2 : Int32) (u : MT) (H : Heap) (locs : List Loc) (ls : Array Slot), K64 x1 x2 u → WD Z (va_A (cM Z ad u0) s.heap.size) s (cM Z ad u) H locs → lv_has ls 5 [(0, .ref (ad 0)), (1, .int (x1)), (2, .int (x2))] → W p l e rm_M_findHull s m args below meth c H locs 0 0 (vx_MQ below (pQv Z (cM Z ad) (cM Z ad u0) s.heap.size post) (pX Z (cM Z ad) (cM Z ad u0) s.heap.size (fun _ _ => False)) args s 0 0 rm_M_findHull.cells rm_M_findHull.slots (va_A (cM Z ad u0) s.heap.size)) (F0 m 64 ls [])) (hK97 : ∀ (x1 : Int32) (x2 : Int32) (x3 : Int32) (x4 : Int32) (u : MT) (H : Heap) (locs : List Loc) (ls : Array Slot), K97 x1 x2 x3 x4 u → WD Z (va_A (cM Z ad u0) s.heap.size) s (cM Z ad u) H locs → lv_has ls 5 [(0, .ref (ad 0)), (1, .int (x1)), (2, .int (x2)), (3, .int (x3)), (4, .int (x4))] → W p l e rm_M_findHull s m args below meth c H locs 0 0 (vx_MQ below (pQv Z (cM Z ad) (cM Z ad u0) s.heap.size post) (pX Z (cM Z ad) (cM Z ad u0) s.heap.size (fun _ _ => False)) args s 0 0 rm_M_findHull.cells rm_M_findHull.slots (va_A (cM Z ad u0) s.heap.size)) (F0 m 97 ls [])) (x1 : Int32) (x2 : Int32) (x4 : Int32) (u : MT) (H : Heap) (locs : List Loc) (ls : Array Slot) (hw : WD Z (va_A (cM Z ad u0) s.heap.size) s (cM Z ad u) H locs) (hl : lv_has ls 5 [(0, .ref (ad 0)), (1, .int (x1)), (2, .int (x2)), (4, .int (x4))]) (h : q_M_findHull_155 K64 K97 x1 x2 x4 u post) : W p l e rm_M_findHull s m args below meth c H locs 0 0 (vx_MQ below (pQv Z (cM Z ad) (cM Z ad u0) s.heap.size post) (pX Z (cM Z ad) (cM Z ad u0) s.heap.size (fun _ _ => False)) args s 0 0 rm_M_findHull.cells rm_M_findHull.slots (va_A (cM Z ad u0) s.heap.size)) (F0 m 155 ls []) := by
  unfold q_M_findHull_155 at h
  refine lv_iload C.2.1 C.2.2.1 d_M_findHull_155 (lv_at hl 3 rfl) ?_
  refine lv_istore_n (lv' := [(3, .int (x4)), (0, .ref (ad 0)), (1, .int (x1)), (2, .int (x2)), (4, .int (x4))]) C.2.1 C.2.2.1 d_M_findHull_157 rfl hl (by decide) rfl (fun ls hl => ?_)
  exact w_M_findHull_158 C htab hK64 hK97 (x1) (x2) (x4) (x4) _ _ _ _ hw (lv_sub hl [1, 2, 3, 0, 4] rfl) h
def q_M_findHull_97 (K64 : Int32 → Int32 → MT → Prop) (K97 : Int32 → Int32 → Int32 → Int32 → MT → Prop) (x1 : Int32) (x2 : Int32) (x3 : Int32) (x4 : Int32) (u : MT) (post : MT → Prop) : Prop :=
  (vp_in (x1) 192 ∧ (((((((6) : Int32)) * (x1)) + (m_count (u) (x1).toNatClampNeg)) ≤ (x4) → K64 (x1) (x3) (u)) ∧ (¬ (((((6) : Int32)) * (x1)) + (m_count (u) (x1).toNatClampNeg)) ≤ (x4) → q_M_isBest (x1) (x4) (u) (fun r1 u2 => (((r1) = 0 → q_M_findHull_158 K64 K97 (x1) (x2) (x3) (x4) (u2) post) ∧ (¬ (r1) = 0 → (vp_in (x4) 1152 ∧ (vp_in (x2) 1152 ∧ (((m_bytesOf (u2) (x4).toNatClampNeg) ≤ (m_bytesOf (u2) (x2).toNatClampNeg) → q_M_findHull_158 K64 K97 (x1) (x2) (x3) (x4) (u2) post) ∧ (¬ (m_bytesOf (u2) (x4).toNatClampNeg) ≤ (m_bytesOf (u2) (x2).toNatClampNeg) → (((x3) = (((-1) : Int32)) → q_M_findHull_155 K64 K97 (x1) (x2) (x4) (u2) post) ∧ (¬ (x3) = (((-1) : Int32)) → q_M_isSteeper (x2) (x4) (x3) (u2) (fun r3 u4 => (((r3) = 0 → q_M_findHull_158 K64 K97 (x1) (x2) (x3) (x4) (u4) post) ∧ (¬ (r3) = 0 → q_M_findHull_155 K64 K97 (x1) (x2) (x4) (u4) post)))))))))))))))
set_option maxRecDepth 100000 in
theorem w_M_findHull_97 {p : Program} {l : Launch} {e : Env} {s : State} {m : MethodId} {args : Array Value} {below : List Frame} {meth : Method} {c : Code} {Z : ZT} {ad : Nat → Nat} {u0 : MT} {post : MT → Prop} {K64 : Int32 → Int32 → MT → Prop} {K97 : Int32 → Int32 → Int32 → Int32 → MT → Prop} (C : CX "CoderTablesModel" b_M_findHull 5 none Z (va_A (cM Z ad u0) s.heap.size) p l s m args meth c) (htab : ∀ x ∈ c.exceptionTable.toList, False) (hK64 : ∀ (x1 : Int32) (x2 : Int32) (u : MT) (H : Heap) (locs : List Loc) (ls : Array Slot), K64 x1 x2 u → WD Z (va_A (cM Z ad u0) s.heap.size) s (cM Z ad u) H locs → lv_has ls 5 [(0, .ref (ad 0)), (1, .int (x1)), (2, .int (x2))] → W p l e rm_M_findHull s m args below meth c H locs 0 0 (vx_MQ below (pQv Z (cM Z ad) (cM Z ad u0) s.heap.size post) (pX Z (cM Z ad) (cM Z ad u0) s.heap.size (fun _ _ => False)) args s 0 0 rm_M_findHull.cells rm_M_findHull.slots (va_A (cM Z ad u0) s.heap.size)) (F0 m 64 ls [])) (hK97 : ∀ (x1 : Int32) (x2 : Int32) (x3 : Int32) (x4 : Int32) (u : MT) (H : Heap) (locs : List Loc) (ls : Array Slot), K97 x1 x2 x3 x4 u → WD Z (va_A (cM Z ad u0) s.heap.size) s (cM Z ad u) H locs → lv_has ls 5 [(0, .ref (ad 0)), (1, .int (x1)), (2, .int (x2)), (3, .int (x3)), (4, .int (x4))] → W p l e rm_M_findHull s m args below meth c H locs 0 0 (vx_MQ below (pQv Z (cM Z ad) (cM Z ad u0) s.heap.size post) (pX Z (cM Z ad) (cM Z ad u0) s.heap.size (fun _ _ => False)) args s 0 0 rm_M_findHull.cells rm_M_findHull.slots (va_A (cM Z ad u0) s.heap.size)) (F0 m 97 ls [])) (x1 : Int32) (x2 : Int32) (x3 : Int32) (x4 : Int32) (u : MT) (H : Heap) (locs : List Loc) (ls : Array Slot) (hw : WD Z (va_A (cM Z ad u0) s.heap.size) s (cM Z ad u) H locs) (hl : lv_has ls 5 [(0, .ref (ad 0)), (1, .int (x1)), (2, .int (x2)), (3, .int (x3)), (4, .int (x4))]) (h : q_M_findHull_97 K64 K97 x1 x2 x3 x4 u post) : W p l e rm_M_findHull s m args below meth c H locs 0 0 (vx_MQ below (pQv Z (cM Z ad) (cM Z ad u0) s.heap.size post) (pX Z (cM Z ad) (cM Z ad u0) s.heap.size (fun _ _ => False)) args s 0 0 rm_M_findHull.cells rm_M_findHull.slots (va_A (cM Z ad u0) s.heap.size)) (F0 m 97 ls []) := by
  unfold q_M_findHull_97 at h
  refine lv_iload C.2.1 C.2.2.1 d_M_findHull_97 (lv_at hl 4 rfl) ?_
  refine lv_bipush (v := (6)) C.2.1 C.2.2.1 d_M_findHull_99 (by decide) ?_
  refine lv_iload_n C.2.1 C.2.2.1 d_M_findHull_101 rfl (lv_at hl 1 rfl) ?_
  refine lv_imul C.2.1 C.2.2.1 d_M_findHull_102 ?_
  refine lv_aload_n C.2.1 C.2.2.1 d_M_findHull_103 rfl (lv_at hl 0 rfl) ?_
  refine r_M_7 C hw d_M_findHull_104 ?_
  refine lv_iload_n C.2.1 C.2.2.1 d_M_findHull_107 rfl (lv_at hl 1 rfl) ?_
  obtain ⟨hi, h⟩ := h
  refine al_M_1 C hw hi d_M_findHull_108 ?_
  refine lv_iadd C.2.1 C.2.2.1 d_M_findHull_109 ?_
  refine lv_icmp_ge (tgt := 164) C.2.1 C.2.2.1 d_M_findHull_110 (by decide) (fun c => ?_) (fun c => ?_)
  · have h := h.1 c
    refine lv_iload_n C.2.1 C.2.2.1 d_M_findHull_164 rfl (lv_at hl 3 rfl) ?_
    refine lv_istore_n (lv' := [(2, .int (x3)), (0, .ref (ad 0)), (1, .int (x1)), (3, .int (x3)), (4, .int (x4))]) C.2.1 C.2.2.1 d_M_findHull_165 rfl hl (by decide) rfl (fun ls hl => ?_)
    refine lv_goto (tgt := 64) C.2.1 C.2.2.1 d_M_findHull_166 (by decide) ?_
    exact hK64 (x1) (x3) _ _ _ _ h hw (lv_sub hl [1, 2, 0] rfl)
  · have h := h.2 c
    refine lv_aload_n C.2.1 C.2.2.1 d_M_findHull_113 rfl (lv_at hl 0 rfl) ?_
    refine lv_iload_n C.2.1 C.2.2.1 d_M_findHull_114 rfl (lv_at hl 1 rfl) ?_
    refine lv_iload C.2.1 C.2.2.1 d_M_findHull_115 (lv_at hl 4 rfl) ?_
    refine k_M_101 C hw h ⟨Nat.le_of_ble_eq_true rfl, Nat.le_of_ble_eq_true rfl, Nat.le_of_ble_eq_true rfl, Nat.le_of_ble_eq_true rfl⟩ hl.1 (Nat.le_of_ble_eq_true rfl) d_M_findHull_117 (fun r1 u2 H locs h hw => ?_)
    refine lv_if_eq (tgt := 158) C.2.1 C.2.2.1 d_M_findHull_120 (by decide) (fun c => ?_) (fun c => ?_)
    · have h := h.1 c
      exact w_M_findHull_158 C htab hK64 hK97 (x1) (x2) (x3) (x4) _ _ _ _ hw (lv_sub hl [0, 1, 2, 3, 4] rfl) h
    · have h := h.2 c
      refine lv_aload_n C.2.1 C.2.2.1 d_M_findHull_123 rfl (lv_at hl 0 rfl) ?_
      refine r_M_17 C hw d_M_findHull_124 ?_
      refine lv_iload C.2.1 C.2.2.1 d_M_findHull_127 (lv_at hl 4 rfl) ?_
      obtain ⟨hi, h⟩ := h
      refine al_M_3 C hw hi d_M_findHull_129 ?_
      refine lv_aload_n C.2.1 C.2.2.1 d_M_findHull_130 rfl (lv_at hl 0 rfl) ?_
      refine r_M_17 C hw d_M_findHull_131 ?_
      refine lv_iload_n C.2.1 C.2.2.1 d_M_findHull_134 rfl (lv_at hl 2 rfl) ?_
      obtain ⟨hi, h⟩ := h
      refine al_M_3 C hw hi d_M_findHull_135 ?_
      refine lv_icmp_le (tgt := 158) C.2.1 C.2.2.1 d_M_findHull_136 (by decide) (fun c => ?_) (fun c => ?_)
      · have h := h.1 c
        exact w_M_findHull_158 C htab hK64 hK97 (x1) (x2) (x3) (x4) _ _ _ _ hw (lv_sub hl [0, 1, 2, 3, 4] rfl) h
      · have h := h.2 c
        refine lv_iload_n C.2.1 C.2.2.1 d_M_findHull_139 rfl (lv_at hl 3 rfl) ?_
        refine lv_iconst (v := (-1)) C.2.1 C.2.2.1 d_M_findHull_140 (by decide) ?_
        refine lv_icmp_eq (tgt := 155) C.2.1 C.2.2.1 d_M_findHull_141 (by decide) (fun c => ?_) (fun c => ?_)
        · have h := h.1 c
          exact w_M_findHull_155 C htab hK64 hK97 (x1) (x2) (x4) _ _ _ _ hw (lv_sub hl [0, 1, 2, 4] rfl) h
        · have h := h.2 c
          refine lv_aload_n C.2.1 C.2.2.1 d_M_findHull_144 rfl (lv_at hl 0 rfl) ?_
          refine lv_iload_n C.2.1 C.2.2.1 d_M_findHull_145 rfl (lv_at hl 2 rfl) ?_
          refine lv_iload C.2.1 C.2.2.1 d_M_findHull_146 (lv_at hl 4 rfl) ?_
          refine lv_iload_n C.2.1 C.2.2.1 d_M_findHull_148 rfl (lv_at hl 3 rfl) ?_
          refine k_M_104 C hw h ⟨Nat.le_of_ble_eq_true rfl, Nat.le_of_ble_eq_true rfl, Nat.le_of_ble_eq_true rfl, Nat.le_of_ble_eq_true rfl⟩ hl.1 (Nat.le_of_ble_eq_true rfl) d_M_findHull_149 (fun r3 u4 H locs h hw => ?_)
          refine lv_if_eq (tgt := 158) C.2.1 C.2.2.1 d_M_findHull_152 (by decide) (fun c => ?_) (fun c => ?_)
          · have h := h.1 c
            exact w_M_findHull_158 C htab hK64 hK97 (x1) (x2) (x3) (x4) _ _ _ _ hw (lv_sub hl [0, 1, 2, 3, 4] rfl) h
          · have h := h.2 c
            exact w_M_findHull_155 C htab hK64 hK97 (x1) (x2) (x4) _ _ _ _ hw (lv_sub hl [0, 1, 2, 4] rfl) h
def q_M_findHull_97N (K64 : Int32 → Int32 → MT → Prop) : Nat → Int32 → Int32 → Int32 → Int32 → MT → (MT → Prop) → Prop
  | 0 => fun _ _ _ _ _ _ => False
  | n + 1 => fun x1 x2 x3 x4 u post => q_M_findHull_97 K64 (fun x1 x2 x3 x4 u => q_M_findHull_97N K64 n x1 x2 x3 x4 u post) x1 x2 x3 x4 u post
theorem w_M_findHull_97N {p : Program} {l : Launch} {e : Env} {s : State} {m : MethodId} {args : Array Value} {below : List Frame} {meth : Method} {c : Code} {Z : ZT} {ad : Nat → Nat} {u0 : MT} {post : MT → Prop} {K64 : Int32 → Int32 → MT → Prop} (C : CX "CoderTablesModel" b_M_findHull 5 none Z (va_A (cM Z ad u0) s.heap.size) p l s m args meth c) (htab : ∀ x ∈ c.exceptionTable.toList, False) (hK64 : ∀ (x1 : Int32) (x2 : Int32) (u : MT) (H : Heap) (locs : List Loc) (ls : Array Slot), K64 x1 x2 u → WD Z (va_A (cM Z ad u0) s.heap.size) s (cM Z ad u) H locs → lv_has ls 5 [(0, .ref (ad 0)), (1, .int (x1)), (2, .int (x2))] → W p l e rm_M_findHull s m args below meth c H locs 0 0 (vx_MQ below (pQv Z (cM Z ad) (cM Z ad u0) s.heap.size post) (pX Z (cM Z ad) (cM Z ad u0) s.heap.size (fun _ _ => False)) args s 0 0 rm_M_findHull.cells rm_M_findHull.slots (va_A (cM Z ad u0) s.heap.size)) (F0 m 64 ls [])) : ∀ (n : Nat) (x1 : Int32) (x2 : Int32) (x3 : Int32) (x4 : Int32) (u : MT) (H : Heap) (locs : List Loc) (ls : Array Slot), WD Z (va_A (cM Z ad u0) s.heap.size) s (cM Z ad u) H locs → lv_has ls 5 [(0, .ref (ad 0)), (1, .int (x1)), (2, .int (x2)), (3, .int (x3)), (4, .int (x4))] → q_M_findHull_97N K64 n x1 x2 x3 x4 u post → W p l e rm_M_findHull s m args below meth c H locs 0 0 (vx_MQ below (pQv Z (cM Z ad) (cM Z ad u0) s.heap.size post) (pX Z (cM Z ad) (cM Z ad u0) s.heap.size (fun _ _ => False)) args s 0 0 rm_M_findHull.cells rm_M_findHull.slots (va_A (cM Z ad u0) s.heap.size)) (F0 m 97 ls []) := by
  intro n
  induction n with
  | zero => intro x1 x2 x3 x4 u H locs ls hw hl h; exact h.elim
  | succ n ih => intro x1 x2 x3 x4 u H locs ls hw hl h; exact w_M_findHull_97 C htab hK64 (fun x1 x2 x3 x4 u H locs ls h hw hl => ih x1 x2 x3 x4 u H locs ls hw hl h) x1 x2 x3 x4 u H locs ls hw hl h
def q_M_findHull_64 (K64 : Int32 → Int32 → MT → Prop) (x1 : Int32) (x2 : Int32) (u : MT) (post : MT → Prop) : Prop :=
  (((x2) = (((-1) : Int32)) → post (u)) ∧ (¬ (x2) = (((-1) : Int32)) → (vp_in (m_hullSize (u)) 6 ∧ ∃ n, q_M_findHull_97N K64 n (x1) (x2) (((-1) : Int32)) ((((6) : Int32)) * (x1)) (m_hullSize_s (m_hull_s (u) (upd (m_hull (u)) (m_hullSize (u)).toNatClampNeg (x2))) ((m_hullSize (m_hull_s (u) (upd (m_hull (u)) (m_hullSize (u)).toNatClampNeg (x2)))) + (((1) : Int32)))) post)))
set_option maxRecDepth 100000 in
theorem w_M_findHull_64 {p : Program} {l : Launch} {e : Env} {s : State} {m : MethodId} {args : Array Value} {below : List Frame} {meth : Method} {c : Code} {Z : ZT} {ad : Nat → Nat} {u0 : MT} {post : MT → Prop} {K64 : Int32 → Int32 → MT → Prop} (C : CX "CoderTablesModel" b_M_findHull 5 none Z (va_A (cM Z ad u0) s.heap.size) p l s m args meth c) (htab : ∀ x ∈ c.exceptionTable.toList, False) (hK64 : ∀ (x1 : Int32) (x2 : Int32) (u : MT) (H : Heap) (locs : List Loc) (ls : Array Slot), K64 x1 x2 u → WD Z (va_A (cM Z ad u0) s.heap.size) s (cM Z ad u) H locs → lv_has ls 5 [(0, .ref (ad 0)), (1, .int (x1)), (2, .int (x2))] → W p l e rm_M_findHull s m args below meth c H locs 0 0 (vx_MQ below (pQv Z (cM Z ad) (cM Z ad u0) s.heap.size post) (pX Z (cM Z ad) (cM Z ad u0) s.heap.size (fun _ _ => False)) args s 0 0 rm_M_findHull.cells rm_M_findHull.slots (va_A (cM Z ad u0) s.heap.size)) (F0 m 64 ls [])) (x1 : Int32) (x2 : Int32) (u : MT) (H : Heap) (locs : List Loc) (ls : Array Slot) (hw : WD Z (va_A (cM Z ad u0) s.heap.size) s (cM Z ad u) H locs) (hl : lv_has ls 5 [(0, .ref (ad 0)), (1, .int (x1)), (2, .int (x2))]) (h : q_M_findHull_64 K64 x1 x2 u post) : W p l e rm_M_findHull s m args below meth c H locs 0 0 (vx_MQ below (pQv Z (cM Z ad) (cM Z ad u0) s.heap.size post) (pX Z (cM Z ad) (cM Z ad u0) s.heap.size (fun _ _ => False)) args s 0 0 rm_M_findHull.cells rm_M_findHull.slots (va_A (cM Z ad u0) s.heap.size)) (F0 m 64 ls []) := by
  unfold q_M_findHull_64 at h
  refine lv_iload_n C.2.1 C.2.2.1 d_M_findHull_64 rfl (lv_at hl 2 rfl) ?_
  refine lv_iconst (v := (-1)) C.2.1 C.2.2.1 d_M_findHull_65 (by decide) ?_
  refine lv_icmp_eq (tgt := 169) C.2.1 C.2.2.1 d_M_findHull_66 (by decide) (fun c => ?_) (fun c => ?_)
  · have h := h.1 c
    exact g_vret C hw h d_M_findHull_169
  · have h := h.2 c
    refine lv_aload_n C.2.1 C.2.2.1 d_M_findHull_69 rfl (lv_at hl 0 rfl) ?_
    refine r_M_29 C hw d_M_findHull_70 ?_
    refine lv_aload_n C.2.1 C.2.2.1 d_M_findHull_73 rfl (lv_at hl 0 rfl) ?_
    refine r_M_98 C hw d_M_findHull_74 ?_
    refine lv_iload_n C.2.1 C.2.2.1 d_M_findHull_77 rfl (lv_at hl 2 rfl) ?_
    obtain ⟨hi, h⟩ := h
    refine as_M_7 C hw hi d_M_findHull_78 (fun H locs hw => ?_)
    refine lv_aload_n C.2.1 C.2.2.1 d_M_findHull_79 rfl (lv_at hl 0 rfl) ?_
    refine lv_dup C.2.1 C.2.2.1 d_M_findHull_80 rfl ?_
    refine r_M_98 C hw d_M_findHull_81 ?_
    refine lv_iconst (v := (1)) C.2.1 C.2.2.1 d_M_findHull_84 (by decide) ?_
    refine lv_iadd C.2.1 C.2.2.1 d_M_findHull_85 ?_
    refine s_M_98 C hw d_M_findHull_86 (fun H locs hw => ?_)
    refine lv_iconst (v := (-1)) C.2.1 C.2.2.1 d_M_findHull_89 (by decide) ?_
    refine lv_istore_n (lv' := [(3, .int (((-1) : Int32))), (0, .ref (ad 0)), (1, .int (x1)), (2, .int (x2))]) C.2.1 C.2.2.1 d_M_findHull_90 rfl hl (by decide) rfl (fun ls hl => ?_)
    refine lv_bipush (v := (6)) C.2.1 C.2.2.1 d_M_findHull_91 (by decide) ?_
    refine lv_iload_n C.2.1 C.2.2.1 d_M_findHull_93 rfl (lv_at hl 2 rfl) ?_
    refine lv_imul C.2.1 C.2.2.1 d_M_findHull_94 ?_
    refine lv_istore (lv' := [(4, .int ((((6) : Int32)) * (x1))), (3, .int (((-1) : Int32))), (0, .ref (ad 0)), (1, .int (x1)), (2, .int (x2))]) C.2.1 C.2.2.1 d_M_findHull_95 hl (by decide) rfl (fun ls hl => ?_)
    obtain ⟨n, h⟩ := h
    exact w_M_findHull_97N C htab hK64 n (x1) (x2) (((-1) : Int32)) ((((6) : Int32)) * (x1)) _ _ _ _ hw (lv_sub hl [2, 3, 4, 1, 0] rfl) h
def q_M_findHull_64N : Nat → Int32 → Int32 → MT → (MT → Prop) → Prop
  | 0 => fun _ _ _ _ => False
  | n + 1 => fun x1 x2 u post => q_M_findHull_64 (fun x1 x2 u => q_M_findHull_64N n x1 x2 u post) x1 x2 u post
theorem w_M_findHull_64N {p : Program} {l : Launch} {e : Env} {s : State} {m : MethodId} {args : Array Value} {below : List Frame} {meth : Method} {c : Code} {Z : ZT} {ad : Nat → Nat} {u0 : MT} {post : MT → Prop} (C : CX "CoderTablesModel" b_M_findHull 5 none Z (va_A (cM Z ad u0) s.heap.size) p l s m args meth c) (htab : ∀ x ∈ c.exceptionTable.toList, False) : ∀ (n : Nat) (x1 : Int32) (x2 : Int32) (u : MT) (H : Heap) (locs : List Loc) (ls : Array Slot), WD Z (va_A (cM Z ad u0) s.heap.size) s (cM Z ad u) H locs → lv_has ls 5 [(0, .ref (ad 0)), (1, .int (x1)), (2, .int (x2))] → q_M_findHull_64N n x1 x2 u post → W p l e rm_M_findHull s m args below meth c H locs 0 0 (vx_MQ below (pQv Z (cM Z ad) (cM Z ad u0) s.heap.size post) (pX Z (cM Z ad) (cM Z ad u0) s.heap.size (fun _ _ => False)) args s 0 0 rm_M_findHull.cells rm_M_findHull.slots (va_A (cM Z ad u0) s.heap.size)) (F0 m 64 ls []) := by
  intro n
  induction n with
  | zero => intro x1 x2 u H locs ls hw hl h; exact h.elim
  | succ n ih => intro x1 x2 u H locs ls hw hl h; exact w_M_findHull_64 C htab (fun x1 x2 u H locs ls h hw hl => ih x1 x2 u H locs ls hw hl h) x1 x2 u H locs ls hw hl h
def q_M_findHull_12 (K12 : Int32 → Int32 → Int32 → MT → Prop) (x1 : Int32) (x2 : Int32) (x3 : Int32) (u : MT) (post : MT → Prop) : Prop :=
  (vp_in (x1) 192 ∧ (((((((6) : Int32)) * (x1)) + (m_count (u) (x1).toNatClampNeg)) ≤ (x3) → ∃ n, q_M_findHull_64N n (x1) (x2) (u) post) ∧ (¬ (((((6) : Int32)) * (x1)) + (m_count (u) (x1).toNatClampNeg)) ≤ (x3) → q_M_isBest (x1) (x3) (u) (fun r5 u6 => (((r5) = 0 → q_M_findHull_58 K12 (x1) (x2) (x3) (u6) post) ∧ (¬ (r5) = 0 → (((x2) = (((-1) : Int32)) → q_M_findHull_56 K12 (x1) (x3) (u6) post) ∧ (¬ (x2) = (((-1) : Int32)) → (vp_in (x3) 1152 ∧ (vp_in (x2) 1152 ∧ (((m_bytesOf (u6) (x2).toNatClampNeg) ≤ (m_bytesOf (u6) (x3).toNatClampNeg) → q_M_findHull_58 K12 (x1) (x2) (x3) (u6) post) ∧ (¬ (m_bytesOf (u6) (x2).toNatClampNeg) ≤ (m_bytesOf (u6) (x3).toNatClampNeg) → q_M_findHull_56 K12 (x1) (x3) (u6) post))))))))))))
set_option maxRecDepth 100000 in
theorem w_M_findHull_12 {p : Program} {l : Launch} {e : Env} {s : State} {m : MethodId} {args : Array Value} {below : List Frame} {meth : Method} {c : Code} {Z : ZT} {ad : Nat → Nat} {u0 : MT} {post : MT → Prop} {K12 : Int32 → Int32 → Int32 → MT → Prop} (C : CX "CoderTablesModel" b_M_findHull 5 none Z (va_A (cM Z ad u0) s.heap.size) p l s m args meth c) (htab : ∀ x ∈ c.exceptionTable.toList, False) (hK12 : ∀ (x1 : Int32) (x2 : Int32) (x3 : Int32) (u : MT) (H : Heap) (locs : List Loc) (ls : Array Slot), K12 x1 x2 x3 u → WD Z (va_A (cM Z ad u0) s.heap.size) s (cM Z ad u) H locs → lv_has ls 5 [(0, .ref (ad 0)), (1, .int (x1)), (2, .int (x2)), (3, .int (x3))] → W p l e rm_M_findHull s m args below meth c H locs 0 0 (vx_MQ below (pQv Z (cM Z ad) (cM Z ad u0) s.heap.size post) (pX Z (cM Z ad) (cM Z ad u0) s.heap.size (fun _ _ => False)) args s 0 0 rm_M_findHull.cells rm_M_findHull.slots (va_A (cM Z ad u0) s.heap.size)) (F0 m 12 ls [])) (x1 : Int32) (x2 : Int32) (x3 : Int32) (u : MT) (H : Heap) (locs : List Loc) (ls : Array Slot) (hw : WD Z (va_A (cM Z ad u0) s.heap.size) s (cM Z ad u) H locs) (hl : lv_has ls 5 [(0, .ref (ad 0)), (1, .int (x1)), (2, .int (x2)), (3, .int (x3))]) (h : q_M_findHull_12 K12 x1 x2 x3 u post) : W p l e rm_M_findHull s m args below meth c H locs 0 0 (vx_MQ below (pQv Z (cM Z ad) (cM Z ad u0) s.heap.size post) (pX Z (cM Z ad) (cM Z ad u0) s.heap.size (fun _ _ => False)) args s 0 0 rm_M_findHull.cells rm_M_findHull.slots (va_A (cM Z ad u0) s.heap.size)) (F0 m 12 ls []) := by
  unfold q_M_findHull_12 at h
  refine lv_iload_n C.2.1 C.2.2.1 d_M_findHull_12 rfl (lv_at hl 3 rfl) ?_
  refine lv_bipush (v := (6)) C.2.1 C.2.2.1 d_M_findHull_13 (by decide) ?_
  refine lv_iload_n C.2.1 C.2.2.1 d_M_findHull_15 rfl (lv_at hl 1 rfl) ?_
  refine lv_imul C.2.1 C.2.2.1 d_M_findHull_16 ?_
  refine lv_aload_n C.2.1 C.2.2.1 d_M_findHull_17 rfl (lv_at hl 0 rfl) ?_
  refine r_M_7 C hw d_M_findHull_18 ?_
  refine lv_iload_n C.2.1 C.2.2.1 d_M_findHull_21 rfl (lv_at hl 1 rfl) ?_
  obtain ⟨hi, h⟩ := h
  refine al_M_1 C hw hi d_M_findHull_22 ?_
  refine lv_iadd C.2.1 C.2.2.1 d_M_findHull_23 ?_
  refine lv_icmp_ge (tgt := 64) C.2.1 C.2.2.1 d_M_findHull_24 (by decide) (fun c => ?_) (fun c => ?_)
  · have h := h.1 c
    obtain ⟨n, h⟩ := h
    exact w_M_findHull_64N C htab n (x1) (x2) _ _ _ _ hw (lv_sub hl [0, 1, 2] rfl) h
  · have h := h.2 c
    refine lv_aload_n C.2.1 C.2.2.1 d_M_findHull_27 rfl (lv_at hl 0 rfl) ?_
    refine lv_iload_n C.2.1 C.2.2.1 d_M_findHull_28 rfl (lv_at hl 1 rfl) ?_
    refine lv_iload_n C.2.1 C.2.2.1 d_M_findHull_29 rfl (lv_at hl 3 rfl) ?_
    refine k_M_101 C hw h ⟨Nat.le_of_ble_eq_true rfl, Nat.le_of_ble_eq_true rfl, Nat.le_of_ble_eq_true rfl, Nat.le_of_ble_eq_true rfl⟩ hl.1 (Nat.le_of_ble_eq_true rfl) d_M_findHull_30 (fun r5 u6 H locs h hw => ?_)
    refine lv_if_eq (tgt := 58) C.2.1 C.2.2.1 d_M_findHull_33 (by decide) (fun c => ?_) (fun c => ?_)
    · have h := h.1 c
      exact w_M_findHull_58 C htab hK12 (x1) (x2) (x3) _ _ _ _ hw (lv_sub hl [0, 1, 2, 3] rfl) h
    · have h := h.2 c
      refine lv_iload_n C.2.1 C.2.2.1 d_M_findHull_36 rfl (lv_at hl 2 rfl) ?_
      refine lv_iconst (v := (-1)) C.2.1 C.2.2.1 d_M_findHull_37 (by decide) ?_
      refine lv_icmp_eq (tgt := 56) C.2.1 C.2.2.1 d_M_findHull_38 (by decide) (fun c => ?_) (fun c => ?_)
      · have h := h.1 c
        exact w_M_findHull_56 C htab hK12 (x1) (x3) _ _ _ _ hw (lv_sub hl [0, 1, 3] rfl) h
      · have h := h.2 c
        refine lv_aload_n C.2.1 C.2.2.1 d_M_findHull_41 rfl (lv_at hl 0 rfl) ?_
        refine r_M_17 C hw d_M_findHull_42 ?_
        refine lv_iload_n C.2.1 C.2.2.1 d_M_findHull_45 rfl (lv_at hl 3 rfl) ?_
        obtain ⟨hi, h⟩ := h
        refine al_M_3 C hw hi d_M_findHull_46 ?_
        refine lv_aload_n C.2.1 C.2.2.1 d_M_findHull_47 rfl (lv_at hl 0 rfl) ?_
        refine r_M_17 C hw d_M_findHull_48 ?_
        refine lv_iload_n C.2.1 C.2.2.1 d_M_findHull_51 rfl (lv_at hl 2 rfl) ?_
        obtain ⟨hi, h⟩ := h
        refine al_M_3 C hw hi d_M_findHull_52 ?_
        refine lv_icmp_ge (tgt := 58) C.2.1 C.2.2.1 d_M_findHull_53 (by decide) (fun c => ?_) (fun c => ?_)
        · have h := h.1 c
          exact w_M_findHull_58 C htab hK12 (x1) (x2) (x3) _ _ _ _ hw (lv_sub hl [0, 1, 2, 3] rfl) h
        · have h := h.2 c
          exact w_M_findHull_56 C htab hK12 (x1) (x3) _ _ _ _ hw (lv_sub hl [0, 1, 3] rfl) h
def q_M_findHull_12N : Nat → Int32 → Int32 → Int32 → MT → (MT → Prop) → Prop
  | 0 => fun _ _ _ _ _ => False
  | n + 1 => fun x1 x2 x3 u post => q_M_findHull_12 (fun x1 x2 x3 u => q_M_findHull_12N n x1 x2 x3 u post) x1 x2 x3 u post
theorem w_M_findHull_12N {p : Program} {l : Launch} {e : Env} {s : State} {m : MethodId} {args : Array Value} {below : List Frame} {meth : Method} {c : Code} {Z : ZT} {ad : Nat → Nat} {u0 : MT} {post : MT → Prop} (C : CX "CoderTablesModel" b_M_findHull 5 none Z (va_A (cM Z ad u0) s.heap.size) p l s m args meth c) (htab : ∀ x ∈ c.exceptionTable.toList, False) : ∀ (n : Nat) (x1 : Int32) (x2 : Int32) (x3 : Int32) (u : MT) (H : Heap) (locs : List Loc) (ls : Array Slot), WD Z (va_A (cM Z ad u0) s.heap.size) s (cM Z ad u) H locs → lv_has ls 5 [(0, .ref (ad 0)), (1, .int (x1)), (2, .int (x2)), (3, .int (x3))] → q_M_findHull_12N n x1 x2 x3 u post → W p l e rm_M_findHull s m args below meth c H locs 0 0 (vx_MQ below (pQv Z (cM Z ad) (cM Z ad u0) s.heap.size post) (pX Z (cM Z ad) (cM Z ad u0) s.heap.size (fun _ _ => False)) args s 0 0 rm_M_findHull.cells rm_M_findHull.slots (va_A (cM Z ad u0) s.heap.size)) (F0 m 12 ls []) := by
  intro n
  induction n with
  | zero => intro x1 x2 x3 u H locs ls hw hl h; exact h.elim
  | succ n ih => intro x1 x2 x3 u H locs ls hw hl h; exact w_M_findHull_12 C htab (fun x1 x2 x3 u H locs ls h hw hl => ih x1 x2 x3 u H locs ls hw hl h) x1 x2 x3 u H locs ls hw hl h
def q_M_findHull (p1 : Int32) (u : MT) (post : MT → Prop) : Prop :=
  ∃ n, q_M_findHull_12N n (p1) (((-1) : Int32)) ((((6) : Int32)) * (p1)) (m_hullSize_s (u) (((0) : Int32))) post
set_option maxRecDepth 100000 in
theorem c_M_findHull {l : Launch} {Z : ZT} {ad : Nat → Nat} {u : MT} {post : MT → Prop} {p1 : Int32} (hl0 : l.stackTraces = false) (h : q_M_findHull p1 u post) : ∀ sz, vx_Met l y_M_findHull (Cond.code y_M_findHull b_M_findHull 5 none :: GW) rm_M_findHull (pP Z [.ref (ad 0), .int (p1)] (cM Z ad u) sz) (pQv Z (cM Z ad) (cM Z ad u) sz post) (pX Z (cM Z ad) (cM Z ad u) sz (fun _ _ => False)) 0 0 rm_M_findHull.cells rm_M_findHull.slots (va_A (cM Z ad u) sz) := by
  refine g_ent (f := cM Z ad) (Qc := fun sz => pQv Z (cM Z ad) (cM Z ad u) sz post) (XC := fun sz => pX Z (cM Z ad) (cM Z ad u) sz (fun _ _ => False)) hl0 (by decide +kernel) (Nat.le_of_ble_eq_true rfl) ?_
  intro p e s m args below meth c ls C htab hw hl
  have hl : lv_has ls 5 [(0, .ref (ad 0)), (1, .int (p1))] := hl
  unfold q_M_findHull at h
  refine lv_aload_n C.2.1 C.2.2.1 d_M_findHull_0 rfl (lv_at hl 0 rfl) ?_
  refine lv_iconst (v := (0)) C.2.1 C.2.2.1 d_M_findHull_1 (by decide) ?_
  refine s_M_98 C hw d_M_findHull_2 (fun H locs hw => ?_)
  refine lv_iconst (v := (-1)) C.2.1 C.2.2.1 d_M_findHull_5 (by decide) ?_
  refine lv_istore_n (lv' := [(2, .int (((-1) : Int32))), (0, .ref (ad 0)), (1, .int (p1))]) C.2.1 C.2.2.1 d_M_findHull_6 rfl hl (by decide) rfl (fun ls hl => ?_)
  refine lv_bipush (v := (6)) C.2.1 C.2.2.1 d_M_findHull_7 (by decide) ?_
  refine lv_iload_n C.2.1 C.2.2.1 d_M_findHull_9 rfl (lv_at hl 2 rfl) ?_
  refine lv_imul C.2.1 C.2.2.1 d_M_findHull_10 ?_
  refine lv_istore_n (lv' := [(3, .int ((((6) : Int32)) * (p1))), (2, .int (((-1) : Int32))), (0, .ref (ad 0)), (1, .int (p1))]) C.2.1 C.2.2.1 d_M_findHull_11 rfl hl (by decide) rfl (fun ls hl => ?_)
  obtain ⟨n, h⟩ := h
  exact w_M_findHull_12N C htab n (p1) (((-1) : Int32)) ((((6) : Int32)) * (p1)) _ _ _ _ hw (lv_sub hl [2, 3, 1, 0] rfl) h
section KR
variable {own host : String} {cc bytes : ByteArray} {nL maxL index n : Nat} {rt0 rt : Option FieldType} {Z : ZT} {ad : Nat → Nat} {A : Nat → Prop}
variable {p : Program} {l : Launch} {e : Env} {R : Room} {s : State} {m : MethodId} {args : Array Value} {below : List Frame} {meth : Method} {c : Code} {H : Heap} {locs : List Loc} {cells slots : Nat} {Q : State → Prop} {rest : List Value} {pc : Nat} {ls : Array Slot}
theorem k_M_108 {u : MT} {p1 : Int32} {post : MT → Prop} (C : CX "CoderTablesModel" cc nL rt0 Z A p l s m args meth c) (hw : WD Z A s (cM Z ad u) H locs) (h : q_M_findHull p1 u post) (hR : rmOk rm_M_findHull 5 R cells slots) (hl : ls.size = nL) (hW : (rest.map fun v => v.category).sum ≤ 8) (hdg : decode cc pc = .ok (.invokevirtual 108, 3)) (kk : ∀ (u' : MT) (H1 : Heap) (locs1 : List Loc), post u' → WD Z A s (cM Z ad u') H1 locs1 → W p l e R s m args below meth c H1 locs1 cells slots Q (F0 m (pc + 3) ls (rest))) : W p l e R s m args below meth c H locs cells slots Q (F0 m pc ls (.int (p1) :: .ref (ad 0) :: rest)) :=
  g_V0_v (n := 1) (f := cM Z ad) (As := [.int (p1)]) C hw (c_M_findHull C.1 h) ⟨w698, w700, w40, w56, w701, (by decide +kernel), (by decide +kernel), (by decide +kernel)⟩ hR 0 rfl rfl rfl hl rfl hW hdg (fun _ _ _ _ _ _ h => h.elim) kk
end KR
/-! CoderTablesModel.hull(II)I -/
abbrev rm_M_hull : Room := { frames := 2, cells := 0, slots := 0, locals := 51 }
def q_M_hull_15 (x1 : Int32) (x2 : Int32) (z0 : Int32) (u : MT) (post : Int32 → MT → Prop) : Prop :=
  q_M_refuses (z0) (u) (fun r1 u2 => (((r1) = 0 → q_M_findHull (((((24) : Int32)) * (x1)) + (x2)) (u2) (fun u4 => post (m_hullSize (u4)) (u4))) ∧ (¬ (r1) = 0 → post (((0) : Int32)) (u2))))
set_option maxRecDepth 100000 in
theorem w_M_hull_15 {p : Program} {l : Launch} {e : Env} {s : State} {m : MethodId} {args : Array Value} {below : List Frame} {meth : Method} {c : Code} {Z : ZT} {ad : Nat → Nat} {u0 : MT} {post : Int32 → MT → Prop} (C : CX "CoderTablesModel" b_M_hull 3 (some .int) Z (va_A (cM Z ad u0) s.heap.size) p l s m args meth c) (htab : ∀ x ∈ c.exceptionTable.toList, False) (x1 : Int32) (x2 : Int32) (z0 : Int32) (u : MT) (H : Heap) (locs : List Loc) (ls : Array Slot) (hw : WD Z (va_A (cM Z ad u0) s.heap.size) s (cM Z ad u) H locs) (hl : lv_has ls 3 [(0, .ref (ad 0)), (1, .int (x1)), (2, .int (x2))]) (h : q_M_hull_15 x1 x2 z0 u post) : W p l e rm_M_hull s m args below meth c H locs 0 0 (vx_MQ below (pQi Z (cM Z ad) (cM Z ad u0) s.heap.size post) (pX Z (cM Z ad) (cM Z ad u0) s.heap.size (fun _ _ => False)) args s 0 0 rm_M_hull.cells rm_M_hull.slots (va_A (cM Z ad u0) s.heap.size)) (F0 m 15 ls [.int (z0), .ref (ad 0)]) := by
  unfold q_M_hull_15 at h
  refine k_M_50 C hw h ⟨Nat.le_of_ble_eq_true rfl, Nat.le_of_ble_eq_true rfl, Nat.le_of_ble_eq_true rfl, Nat.le_of_ble_eq_true rfl⟩ hl.1 (Nat.le_of_ble_eq_true rfl) d_M_hull_15 (fun r1 u2 H locs h hw => ?_)
  refine lv_if_eq (tgt := 23) C.2.1 C.2.2.1 d_M_hull_18 (by decide) (fun c => ?_) (fun c => ?_)
  · have h := h.1 c
    refine lv_aload_n C.2.1 C.2.2.1 d_M_hull_23 rfl (lv_at hl 0 rfl) ?_
    refine lv_bipush (v := (24)) C.2.1 C.2.2.1 d_M_hull_24 (by decide) ?_
    refine lv_iload_n C.2.1 C.2.2.1 d_M_hull_26 rfl (lv_at hl 1 rfl) ?_
    refine lv_imul C.2.1 C.2.2.1 d_M_hull_27 ?_
    refine lv_iload_n C.2.1 C.2.2.1 d_M_hull_28 rfl (lv_at hl 2 rfl) ?_
    refine lv_iadd C.2.1 C.2.2.1 d_M_hull_29 ?_
    refine k_M_108 C hw h ⟨Nat.le_of_ble_eq_true rfl, Nat.le_of_ble_eq_true rfl, Nat.le_of_ble_eq_true rfl, Nat.le_of_ble_eq_true rfl⟩ hl.1 (Nat.le_of_ble_eq_true rfl) d_M_hull_30 (fun u4 H locs h hw => ?_)
    refine lv_aload_n C.2.1 C.2.2.1 d_M_hull_33 rfl (lv_at hl 0 rfl) ?_
    refine r_M_98 C hw d_M_hull_34 ?_
    exact g_iret C hw rfl h d_M_hull_37
  · have h := h.2 c
    refine lv_iconst (v := (0)) C.2.1 C.2.2.1 d_M_hull_21 (by decide) ?_
    exact g_iret C hw rfl h d_M_hull_22
def q_M_hull (p1 : Int32) (p2 : Int32) (u : MT) (post : Int32 → MT → Prop) : Prop :=
  q_M_noPair (p1) (p2) (u) (fun r5 u6 => (((r5) = 0 → q_M_hull_15 (p1) (p2) (((0) : Int32)) (u6) post) ∧ (¬ (r5) = 0 → q_M_hull_15 (p1) (p2) (((1) : Int32)) (u6) post)))
set_option maxRecDepth 100000 in
theorem c_M_hull {l : Launch} {Z : ZT} {ad : Nat → Nat} {u : MT} {post : Int32 → MT → Prop} {p1 : Int32} {p2 : Int32} (hl0 : l.stackTraces = false) (h : q_M_hull p1 p2 u post) : ∀ sz, vx_Met l y_M_hull (Cond.code y_M_hull b_M_hull 3 (some .int) :: GW) rm_M_hull (pP Z [.ref (ad 0), .int (p1), .int (p2)] (cM Z ad u) sz) (pQi Z (cM Z ad) (cM Z ad u) sz post) (pX Z (cM Z ad) (cM Z ad u) sz (fun _ _ => False)) 0 0 rm_M_hull.cells rm_M_hull.slots (va_A (cM Z ad u) sz) := by
  refine g_ent (f := cM Z ad) (Qc := fun sz => pQi Z (cM Z ad) (cM Z ad u) sz post) (XC := fun sz => pX Z (cM Z ad) (cM Z ad u) sz (fun _ _ => False)) hl0 (by decide +kernel) (Nat.le_of_ble_eq_true rfl) ?_
  intro p e s m args below meth c ls C htab hw hl
  have hl : lv_has ls 3 [(0, .ref (ad 0)), (1, .int (p1)), (2, .int (p2))] := hl
  unfold q_M_hull at h
  refine lv_aload_n C.2.1 C.2.2.1 d_M_hull_0 rfl (lv_at hl 0 rfl) ?_
  refine lv_aload_n C.2.1 C.2.2.1 d_M_hull_1 rfl (lv_at hl 0 rfl) ?_
  refine lv_iload_n C.2.1 C.2.2.1 d_M_hull_2 rfl (lv_at hl 1 rfl) ?_
  refine lv_iload_n C.2.1 C.2.2.1 d_M_hull_3 rfl (lv_at hl 2 rfl) ?_
  refine k_M_53 C hw h ⟨Nat.le_of_ble_eq_true rfl, Nat.le_of_ble_eq_true rfl, Nat.le_of_ble_eq_true rfl, Nat.le_of_ble_eq_true rfl⟩ hl.1 (Nat.le_of_ble_eq_true rfl) d_M_hull_4 (fun r5 u6 H locs h hw => ?_)
  refine lv_if_eq (tgt := 14) C.2.1 C.2.2.1 d_M_hull_7 (by decide) (fun c => ?_) (fun c => ?_)
  · have h := h.1 c
    refine lv_iconst (v := (0)) C.2.1 C.2.2.1 d_M_hull_14 (by decide) ?_
    exact w_M_hull_15 C htab (p1) (p2) (((0) : Int32)) _ _ _ _ hw (lv_sub hl [0, 1, 2] rfl) h
  · have h := h.2 c
    refine lv_iconst (v := (1)) C.2.1 C.2.2.1 d_M_hull_10 (by decide) ?_
    refine lv_goto (tgt := 15) C.2.1 C.2.2.1 d_M_hull_11 (by decide) ?_
    exact w_M_hull_15 C htab (p1) (p2) (((1) : Int32)) _ _ _ _ hw (lv_sub hl [0, 1, 2] rfl) h
