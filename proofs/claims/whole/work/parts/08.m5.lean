/-! CoderTablesModel.fillPair(I)V -/
abbrev rm_M_fillPair : Room := { frames := 1, cells := 0, slots := 0, locals := 23 }
def q_M_fillPair_26 (K26 : Int32 → Int32 → Int32 → MT → Prop) (x1 : Int32) (x2 : Int32) (x3 : Int32) (u : MT) (post : MT → Prop) : Prop :=
  (((x2) ≤ (x3) → post (u)) ∧ (¬ (x2) ≤ (x3) → q_M_draw (((1000) : Int32)) (u) (fun r1 u2 => q_M_draw (((1000) : Int32)) (u2) (fun r3 u4 => q_M_add (x1) ((r1) + (((1) : Int32))) (r3) (u4) (fun u6 => K26 (x1) (x2) ((x3) + 1) (u6))))))
set_option maxRecDepth 100000 in
theorem w_M_fillPair_26 {p : Program} {l : Launch} {e : Env} {s : State} {m : MethodId} {args : Array Value} {below : List Frame} {meth : Method} {c : Code} {Z : ZT} {ad : Nat → Nat} {u0 : MT} {post : MT → Prop} {K26 : Int32 → Int32 → Int32 → MT → Prop} (C : CX "CoderTablesModel" b_M_fillPair 5 none Z (va_A (cM Z ad u0) s.heap.size) p l s m args meth c) (htab : ∀ x ∈ c.exceptionTable.toList, False) (hK26 : ∀ (x1 : Int32) (x2 : Int32) (x3 : Int32) (u : MT) (H : Heap) (locs : List Loc) (ls : Array Slot), K26 x1 x2 x3 u → WD Z (va_A (cM Z ad u0) s.heap.size) s (cM Z ad u) H locs → lv_has ls 5 [(0, .ref (ad 0)), (1, .int (x1)), (2, .int (x2)), (3, .int (x3))] → W p l e rm_M_fillPair s m args below meth c H locs 0 0 (vx_MQ below (pQv Z (cM Z ad) (cM Z ad u0) s.heap.size post) (pX Z (cM Z ad) (cM Z ad u0) s.heap.size (fun _ _ => False)) args s 0 0 rm_M_fillPair.cells rm_M_fillPair.slots (va_A (cM Z ad u0) s.heap.size)) (F0 m 26 ls [])) (x1 : Int32) (x2 : Int32) (x3 : Int32) (u : MT) (H : Heap) (locs : List Loc) (ls : Array Slot) (hw : WD Z (va_A (cM Z ad u0) s.heap.size) s (cM Z ad u) H locs) (hl : lv_has ls 5 [(0, .ref (ad 0)), (1, .int (x1)), (2, .int (x2)), (3, .int (x3))]) (h : q_M_fillPair_26 K26 x1 x2 x3 u post) : W p l e rm_M_fillPair s m args below meth c H locs 0 0 (vx_MQ below (pQv Z (cM Z ad) (cM Z ad u0) s.heap.size post) (pX Z (cM Z ad) (cM Z ad u0) s.heap.size (fun _ _ => False)) args s 0 0 rm_M_fillPair.cells rm_M_fillPair.slots (va_A (cM Z ad u0) s.heap.size)) (F0 m 26 ls []) := by
  unfold q_M_fillPair_26 at h
  refine lv_iload_n C.2.1 C.2.2.1 d_M_fillPair_26 rfl (lv_at hl 3 rfl) ?_
  refine lv_iload_n C.2.1 C.2.2.1 d_M_fillPair_27 rfl (lv_at hl 2 rfl) ?_
  refine lv_icmp_ge (tgt := 62) C.2.1 C.2.2.1 d_M_fillPair_28 (by decide) (fun c => ?_) (fun c => ?_)
  · have h := h.1 c
    exact g_vret C hw h d_M_fillPair_62
  · have h := h.2 c
    refine lv_aload_n C.2.1 C.2.2.1 d_M_fillPair_31 rfl (lv_at hl 0 rfl) ?_
    refine lv_sipush (v := (1000)) C.2.1 C.2.2.1 d_M_fillPair_32 (by decide) ?_
    refine k_M_136 C hw h ⟨Nat.le_of_ble_eq_true rfl, Nat.le_of_ble_eq_true rfl, Nat.le_of_ble_eq_true rfl, Nat.le_of_ble_eq_true rfl⟩ hl.1 (Nat.le_of_ble_eq_true rfl) d_M_fillPair_35 (fun r1 u2 H locs h hw => ?_)
    refine lv_iconst (v := (1)) C.2.1 C.2.2.1 d_M_fillPair_38 (by decide) ?_
    refine lv_iadd C.2.1 C.2.2.1 d_M_fillPair_39 ?_
    refine lv_istore (lv' := [(4, .int ((r1) + (((1) : Int32)))), (0, .ref (ad 0)), (1, .int (x1)), (2, .int (x2)), (3, .int (x3))]) C.2.1 C.2.2.1 d_M_fillPair_40 hl (by decide) rfl (fun ls hl => ?_)
    refine lv_aload_n C.2.1 C.2.2.1 d_M_fillPair_42 rfl (lv_at hl 1 rfl) ?_
    refine lv_iload_n C.2.1 C.2.2.1 d_M_fillPair_43 rfl (lv_at hl 2 rfl) ?_
    refine lv_iload C.2.1 C.2.2.1 d_M_fillPair_44 (lv_at hl 0 rfl) ?_
    refine lv_aload_n C.2.1 C.2.2.1 d_M_fillPair_46 rfl (lv_at hl 1 rfl) ?_
    refine lv_sipush (v := (1000)) C.2.1 C.2.2.1 d_M_fillPair_47 (by decide) ?_
    refine k_M_136 C hw h ⟨Nat.le_of_ble_eq_true rfl, Nat.le_of_ble_eq_true rfl, Nat.le_of_ble_eq_true rfl, Nat.le_of_ble_eq_true rfl⟩ hl.1 (Nat.le_of_ble_eq_true rfl) d_M_fillPair_50 (fun r3 u4 H locs h hw => ?_)
    refine k_M_63 C hw h ⟨Nat.le_of_ble_eq_true rfl, Nat.le_of_ble_eq_true rfl, Nat.le_of_ble_eq_true rfl, Nat.le_of_ble_eq_true rfl⟩ hl.1 (Nat.le_of_ble_eq_true rfl) d_M_fillPair_53 (fun u6 H locs h hw => ?_)
    refine lv_iinc (v := (x3) + 1) (lv' := [(3, .int ((x3) + 1)), (4, .int ((r1) + (((1) : Int32)))), (0, .ref (ad 0)), (1, .int (x1)), (2, .int (x2))]) C.2.1 C.2.2.1 d_M_fillPair_56 hl (k := 4) rfl rfl (by decide) rfl (fun ls hl => ?_)
    refine lv_goto (tgt := 26) C.2.1 C.2.2.1 d_M_fillPair_59 (by decide) ?_
    exact hK26 (x1) (x2) ((x3) + 1) _ _ _ _ h hw (lv_sub hl [2, 3, 4, 0] rfl)
def q_M_fillPair_26N : Nat → Int32 → Int32 → Int32 → MT → (MT → Prop) → Prop
  | 0 => fun _ _ _ _ _ => False
  | n + 1 => fun x1 x2 x3 u post => q_M_fillPair_26 (fun x1 x2 x3 u => q_M_fillPair_26N n x1 x2 x3 u post) x1 x2 x3 u post
theorem w_M_fillPair_26N {p : Program} {l : Launch} {e : Env} {s : State} {m : MethodId} {args : Array Value} {below : List Frame} {meth : Method} {c : Code} {Z : ZT} {ad : Nat → Nat} {u0 : MT} {post : MT → Prop} (C : CX "CoderTablesModel" b_M_fillPair 5 none Z (va_A (cM Z ad u0) s.heap.size) p l s m args meth c) (htab : ∀ x ∈ c.exceptionTable.toList, False) : ∀ (n : Nat) (x1 : Int32) (x2 : Int32) (x3 : Int32) (u : MT) (H : Heap) (locs : List Loc) (ls : Array Slot), WD Z (va_A (cM Z ad u0) s.heap.size) s (cM Z ad u) H locs → lv_has ls 5 [(0, .ref (ad 0)), (1, .int (x1)), (2, .int (x2)), (3, .int (x3))] → q_M_fillPair_26N n x1 x2 x3 u post → W p l e rm_M_fillPair s m args below meth c H locs 0 0 (vx_MQ below (pQv Z (cM Z ad) (cM Z ad u0) s.heap.size post) (pX Z (cM Z ad) (cM Z ad u0) s.heap.size (fun _ _ => False)) args s 0 0 rm_M_fillPair.cells rm_M_fillPair.slots (va_A (cM Z ad u0) s.heap.size)) (F0 m 26 ls []) := by
  intro n
  induction n with
  | zero => intro x1 x2 x3 u H locs ls hw hl h; exact h.elim
  | succ n ih => intro x1 x2 x3 u H locs ls hw hl h; exact w_M_fillPair_26 C htab (fun x1 x2 x3 u H locs ls h hw hl => ih x1 x2 x3 u H locs ls hw hl h) x1 x2 x3 u H locs ls hw hl h
def q_M_fillPair (p1 : Int32) (u : MT) (post : MT → Prop) : Prop :=
  q_M_draw (((9) : Int32)) (u) (fun r7 u8 => ((¬ (r7) = (((8) : Int32)) → q_M_draw (((7) : Int32)) (u8) (fun r9 u10 => ∃ n, q_M_fillPair_26N n (p1) (r9) (((0) : Int32)) (u10) post)) ∧ ((r7) = (((8) : Int32)) → q_M_fail (p1) (u8) (fun u12 => post (u12)))))
set_option maxRecDepth 100000 in
theorem c_M_fillPair {l : Launch} {Z : ZT} {ad : Nat → Nat} {u : MT} {post : MT → Prop} {p1 : Int32} (hl0 : l.stackTraces = false) (h : q_M_fillPair p1 u post) : ∀ sz, vx_Met l y_M_fillPair (Cond.code y_M_fillPair b_M_fillPair 5 none :: GW) rm_M_fillPair (pP Z [.ref (ad 0), .int (p1)] (cM Z ad u) sz) (pQv Z (cM Z ad) (cM Z ad u) sz post) (pX Z (cM Z ad) (cM Z ad u) sz (fun _ _ => False)) 0 0 rm_M_fillPair.cells rm_M_fillPair.slots (va_A (cM Z ad u) sz) := by
  refine g_ent (f := cM Z ad) (Qc := fun sz => pQv Z (cM Z ad) (cM Z ad u) sz post) (XC := fun sz => pX Z (cM Z ad) (cM Z ad u) sz (fun _ _ => False)) hl0 (by decide +kernel) (Nat.le_of_ble_eq_true rfl) ?_
  intro p e s m args below meth c ls C htab hw hl
  have hl : lv_has ls 5 [(0, .ref (ad 0)), (1, .int (p1))] := hl
  unfold q_M_fillPair at h
  refine lv_aload_n C.2.1 C.2.2.1 d_M_fillPair_0 rfl (lv_at hl 0 rfl) ?_
  refine lv_bipush (v := (9)) C.2.1 C.2.2.1 d_M_fillPair_1 (by decide) ?_
  refine k_M_136 C hw h ⟨Nat.le_of_ble_eq_true rfl, Nat.le_of_ble_eq_true rfl, Nat.le_of_ble_eq_true rfl, Nat.le_of_ble_eq_true rfl⟩ hl.1 (Nat.le_of_ble_eq_true rfl) d_M_fillPair_3 (fun r7 u8 H locs h hw => ?_)
  refine lv_bipush (v := (8)) C.2.1 C.2.2.1 d_M_fillPair_6 (by decide) ?_
  refine lv_icmp_ne (tgt := 17) C.2.1 C.2.2.1 d_M_fillPair_8 (by decide) (fun c => ?_) (fun c => ?_)
  · have h := h.1 c
    refine lv_aload_n C.2.1 C.2.2.1 d_M_fillPair_17 rfl (lv_at hl 0 rfl) ?_
    refine lv_bipush (v := (7)) C.2.1 C.2.2.1 d_M_fillPair_18 (by decide) ?_
    refine k_M_136 C hw h ⟨Nat.le_of_ble_eq_true rfl, Nat.le_of_ble_eq_true rfl, Nat.le_of_ble_eq_true rfl, Nat.le_of_ble_eq_true rfl⟩ hl.1 (Nat.le_of_ble_eq_true rfl) d_M_fillPair_20 (fun r9 u10 H locs h hw => ?_)
    refine lv_istore_n (lv' := [(2, .int (r9)), (0, .ref (ad 0)), (1, .int (p1))]) C.2.1 C.2.2.1 d_M_fillPair_23 rfl hl (by decide) rfl (fun ls hl => ?_)
    refine lv_iconst (v := (0)) C.2.1 C.2.2.1 d_M_fillPair_24 (by decide) ?_
    refine lv_istore_n (lv' := [(3, .int (((0) : Int32))), (2, .int (r9)), (0, .ref (ad 0)), (1, .int (p1))]) C.2.1 C.2.2.1 d_M_fillPair_25 rfl hl (by decide) rfl (fun ls hl => ?_)
    obtain ⟨n, h⟩ := h
    exact w_M_fillPair_26N C htab n (p1) (r9) (((0) : Int32)) _ _ _ _ hw (lv_sub hl [2, 3, 1, 0] rfl) h
  · have h := h.2 c
    refine lv_aload_n C.2.1 C.2.2.1 d_M_fillPair_11 rfl (lv_at hl 0 rfl) ?_
    refine lv_iload_n C.2.1 C.2.2.1 d_M_fillPair_12 rfl (lv_at hl 1 rfl) ?_
    refine k_M_70 C hw h ⟨Nat.le_of_ble_eq_true rfl, Nat.le_of_ble_eq_true rfl, Nat.le_of_ble_eq_true rfl, Nat.le_of_ble_eq_true rfl⟩ hl.1 (Nat.le_of_ble_eq_true rfl) d_M_fillPair_13 (fun u12 H locs h hw => ?_)
    exact g_vret C hw h d_M_fillPair_16
section KR
variable {own host : String} {cc bytes : ByteArray} {nL maxL index n : Nat} {rt0 rt : Option FieldType} {Z : ZT} {ad : Nat → Nat} {A : Nat → Prop}
variable {p : Program} {l : Launch} {e : Env} {R : Room} {s : State} {m : MethodId} {args : Array Value} {below : List Frame} {meth : Method} {c : Code} {H : Heap} {locs : List Loc} {cells slots : Nat} {Q : State → Prop} {rest : List Value} {pc : Nat} {ls : Array Slot}
theorem k_M_143 {u : MT} {p1 : Int32} {post : MT → Prop} (C : CX "CoderTablesModel" cc nL rt0 Z A p l s m args meth c) (hw : WD Z A s (cM Z ad u) H locs) (h : q_M_fillPair p1 u post) (hR : rmOk rm_M_fillPair 5 R cells slots) (hl : ls.size = nL) (hW : (rest.map fun v => v.category).sum ≤ 8) (hdg : decode cc pc = .ok (.invokevirtual 143, 3)) (kk : ∀ (u' : MT) (H1 : Heap) (locs1 : List Loc), post u' → WD Z A s (cM Z ad u') H1 locs1 → W p l e R s m args below meth c H1 locs1 cells slots Q (F0 m (pc + 3) ls (rest))) : W p l e R s m args below meth c H locs cells slots Q (F0 m pc ls (.int (p1) :: .ref (ad 0) :: rest)) :=
  g_V0_v (n := 1) (f := cM Z ad) (As := [.int (p1)]) C hw (c_M_fillPair C.1 h) ⟨w755, w757, w48, w56, w758, (by decide +kernel), (by decide +kernel), (by decide +kernel)⟩ hR 0 rfl rfl rfl hl rfl hW hdg (fun _ _ _ _ _ _ h => h.elim) kk
end KR
/-! CoderTablesModel.points()I -/
abbrev rm_M_points : Room := { frames := 0, cells := 0, slots := 0, locals := 0 }
def q_M_points_4 (K4 : Int32 → Int32 → MT → Prop) (x1 : Int32) (x2 : Int32) (u : MT) (post : Int32 → MT → Prop) : Prop :=
  (((((192) : Int32)) ≤ (x2) → post (x1) (u)) ∧ (¬ (((192) : Int32)) ≤ (x2) → (vp_in (x2) 192 ∧ K4 ((x1) + (m_count (u) (x2).toNatClampNeg)) ((x2) + 1) (u))))
set_option maxRecDepth 100000 in
theorem w_M_points_4 {p : Program} {l : Launch} {e : Env} {s : State} {m : MethodId} {args : Array Value} {below : List Frame} {meth : Method} {c : Code} {Z : ZT} {ad : Nat → Nat} {u0 : MT} {post : Int32 → MT → Prop} {K4 : Int32 → Int32 → MT → Prop} (C : CX "CoderTablesModel" b_M_points 3 (some .int) Z (va_A (cM Z ad u0) s.heap.size) p l s m args meth c) (htab : ∀ x ∈ c.exceptionTable.toList, False) (hK4 : ∀ (x1 : Int32) (x2 : Int32) (u : MT) (H : Heap) (locs : List Loc) (ls : Array Slot), K4 x1 x2 u → WD Z (va_A (cM Z ad u0) s.heap.size) s (cM Z ad u) H locs → lv_has ls 3 [(0, .ref (ad 0)), (1, .int (x1)), (2, .int (x2))] → W p l e rm_M_points s m args below meth c H locs 0 0 (vx_MQ below (pQi Z (cM Z ad) (cM Z ad u0) s.heap.size post) (pX Z (cM Z ad) (cM Z ad u0) s.heap.size (fun _ _ => False)) args s 0 0 rm_M_points.cells rm_M_points.slots (va_A (cM Z ad u0) s.heap.size)) (F0 m 4 ls [])) (x1 : Int32) (x2 : Int32) (u : MT) (H : Heap) (locs : List Loc) (ls : Array Slot) (hw : WD Z (va_A (cM Z ad u0) s.heap.size) s (cM Z ad u) H locs) (hl : lv_has ls 3 [(0, .ref (ad 0)), (1, .int (x1)), (2, .int (x2))]) (h : q_M_points_4 K4 x1 x2 u post) : W p l e rm_M_points s m args below meth c H locs 0 0 (vx_MQ below (pQi Z (cM Z ad) (cM Z ad u0) s.heap.size post) (pX Z (cM Z ad) (cM Z ad u0) s.heap.size (fun _ _ => False)) args s 0 0 rm_M_points.cells rm_M_points.slots (va_A (cM Z ad u0) s.heap.size)) (F0 m 4 ls []) := by
  unfold q_M_points_4 at h
  refine lv_iload_n C.2.1 C.2.2.1 d_M_points_4 rfl (lv_at hl 2 rfl) ?_
  refine lv_sipush (v := (192)) C.2.1 C.2.2.1 d_M_points_5 (by decide) ?_
  refine lv_icmp_ge (tgt := 26) C.2.1 C.2.2.1 d_M_points_8 (by decide) (fun c => ?_) (fun c => ?_)
  · have h := h.1 c
    refine lv_iload_n C.2.1 C.2.2.1 d_M_points_26 rfl (lv_at hl 1 rfl) ?_
    exact g_iret C hw rfl h d_M_points_27
  · have h := h.2 c
    refine lv_iload_n C.2.1 C.2.2.1 d_M_points_11 rfl (lv_at hl 1 rfl) ?_
    refine lv_aload_n C.2.1 C.2.2.1 d_M_points_12 rfl (lv_at hl 0 rfl) ?_
    refine r_M_7 C hw d_M_points_13 ?_
    refine lv_iload_n C.2.1 C.2.2.1 d_M_points_16 rfl (lv_at hl 2 rfl) ?_
    obtain ⟨hi, h⟩ := h
    refine al_M_1 C hw hi d_M_points_17 ?_
    refine lv_iadd C.2.1 C.2.2.1 d_M_points_18 ?_
    refine lv_istore_n (lv' := [(1, .int ((x1) + (m_count (u) (x2).toNatClampNeg))), (0, .ref (ad 0)), (2, .int (x2))]) C.2.1 C.2.2.1 d_M_points_19 rfl hl (by decide) rfl (fun ls hl => ?_)
    refine lv_iinc (v := (x2) + 1) (lv' := [(2, .int ((x2) + 1)), (1, .int ((x1) + (m_count (u) (x2).toNatClampNeg))), (0, .ref (ad 0))]) C.2.1 C.2.2.1 d_M_points_20 hl (k := 2) rfl rfl (by decide) rfl (fun ls hl => ?_)
    refine lv_goto (tgt := 4) C.2.1 C.2.2.1 d_M_points_23 (by decide) ?_
    exact hK4 ((x1) + (m_count (u) (x2).toNatClampNeg)) ((x2) + 1) _ _ _ _ h hw (lv_sub hl [2, 1, 0] rfl)
def q_M_points_4N : Nat → Int32 → Int32 → MT → (Int32 → MT → Prop) → Prop
  | 0 => fun _ _ _ _ => False
  | n + 1 => fun x1 x2 u post => q_M_points_4 (fun x1 x2 u => q_M_points_4N n x1 x2 u post) x1 x2 u post
theorem w_M_points_4N {p : Program} {l : Launch} {e : Env} {s : State} {m : MethodId} {args : Array Value} {below : List Frame} {meth : Method} {c : Code} {Z : ZT} {ad : Nat → Nat} {u0 : MT} {post : Int32 → MT → Prop} (C : CX "CoderTablesModel" b_M_points 3 (some .int) Z (va_A (cM Z ad u0) s.heap.size) p l s m args meth c) (htab : ∀ x ∈ c.exceptionTable.toList, False) : ∀ (n : Nat) (x1 : Int32) (x2 : Int32) (u : MT) (H : Heap) (locs : List Loc) (ls : Array Slot), WD Z (va_A (cM Z ad u0) s.heap.size) s (cM Z ad u) H locs → lv_has ls 3 [(0, .ref (ad 0)), (1, .int (x1)), (2, .int (x2))] → q_M_points_4N n x1 x2 u post → W p l e rm_M_points s m args below meth c H locs 0 0 (vx_MQ below (pQi Z (cM Z ad) (cM Z ad u0) s.heap.size post) (pX Z (cM Z ad) (cM Z ad u0) s.heap.size (fun _ _ => False)) args s 0 0 rm_M_points.cells rm_M_points.slots (va_A (cM Z ad u0) s.heap.size)) (F0 m 4 ls []) := by
  intro n
  induction n with
  | zero => intro x1 x2 u H locs ls hw hl h; exact h.elim
  | succ n ih => intro x1 x2 u H locs ls hw hl h; exact w_M_points_4 C htab (fun x1 x2 u H locs ls h hw hl => ih x1 x2 u H locs ls hw hl h) x1 x2 u H locs ls hw hl h
def q_M_points (u : MT) (post : Int32 → MT → Prop) : Prop :=
  ∃ n, q_M_points_4N n (((0) : Int32)) (((0) : Int32)) (u) post
set_option maxRecDepth 100000 in
theorem c_M_points {l : Launch} {Z : ZT} {ad : Nat → Nat} {u : MT} {post : Int32 → MT → Prop} (hl0 : l.stackTraces = false) (h : q_M_points u post) : ∀ sz, vx_Met l y_M_points (Cond.code y_M_points b_M_points 3 (some .int) :: GW) rm_M_points (pP Z [.ref (ad 0)] (cM Z ad u) sz) (pQi Z (cM Z ad) (cM Z ad u) sz post) (pX Z (cM Z ad) (cM Z ad u) sz (fun _ _ => False)) 0 0 rm_M_points.cells rm_M_points.slots (va_A (cM Z ad u) sz) := by
  refine g_ent (f := cM Z ad) (Qc := fun sz => pQi Z (cM Z ad) (cM Z ad u) sz post) (XC := fun sz => pX Z (cM Z ad) (cM Z ad u) sz (fun _ _ => False)) hl0 (by decide +kernel) (Nat.le_of_ble_eq_true rfl) ?_
  intro p e s m args below meth c ls C htab hw hl
  have hl : lv_has ls 3 [(0, .ref (ad 0))] := hl
  unfold q_M_points at h
  refine lv_iconst (v := (0)) C.2.1 C.2.2.1 d_M_points_0 (by decide) ?_
  refine lv_istore_n (lv' := [(1, .int (((0) : Int32))), (0, .ref (ad 0))]) C.2.1 C.2.2.1 d_M_points_1 rfl hl (by decide) rfl (fun ls hl => ?_)
  refine lv_iconst (v := (0)) C.2.1 C.2.2.1 d_M_points_2 (by decide) ?_
  refine lv_istore_n (lv' := [(2, .int (((0) : Int32))), (1, .int (((0) : Int32))), (0, .ref (ad 0))]) C.2.1 C.2.2.1 d_M_points_3 rfl hl (by decide) rfl (fun ls hl => ?_)
  obtain ⟨n, h⟩ := h
  exact w_M_points_4N C htab n (((0) : Int32)) (((0) : Int32)) _ _ _ _ hw (lv_sub hl [2, 1, 0] rfl) h
section KR
variable {own host : String} {cc bytes : ByteArray} {nL maxL index n : Nat} {rt0 rt : Option FieldType} {Z : ZT} {ad : Nat → Nat} {A : Nat → Prop}
variable {p : Program} {l : Launch} {e : Env} {R : Room} {s : State} {m : MethodId} {args : Array Value} {below : List Frame} {meth : Method} {c : Code} {H : Heap} {locs : List Loc} {cells slots : Nat} {Q : State → Prop} {rest : List Value} {pc : Nat} {ls : Array Slot}
theorem k_M_146 {u : MT} {post : Int32 → MT → Prop} (C : CX "CoderTablesModel" cc nL rt0 Z A p l s m args meth c) (hw : WD Z A s (cM Z ad u) H locs) (h : q_M_points u post) (hR : rmOk rm_M_points 3 R cells slots) (hl : ls.size = nL) (hW : (rest.map fun v => v.category).sum ≤ 8) (hdg : decode cc pc = .ok (.invokevirtual 146, 3)) (kk : ∀ (r : Int32) (u' : MT) (H1 : Heap) (locs1 : List Loc), post r u' → WD Z A s (cM Z ad u') H1 locs1 → W p l e R s m args below meth c H1 locs1 cells slots Q (F0 m (pc + 3) ls (.int r :: rest))) : W p l e R s m args below meth c H locs cells slots Q (F0 m pc ls (.ref (ad 0) :: rest)) :=
  g_V0_i (n := 0) (f := cM Z ad) (As := []) C hw (c_M_points C.1 h) ⟨w759, w761, w49, w56, w762, (by decide +kernel), (by decide +kernel), (by decide +kernel)⟩ hR 0 rfl rfl rfl hl rfl hW hdg (fun _ _ _ _ _ _ h => h.elim) kk
end KR
/-! CoderTablesModel.fill(J)I -/
abbrev rm_M_fill : Room := { frames := 2, cells := 0, slots := 0, locals := 47 }
def q_M_fill_57 (K46 : Int32 → MT → Prop) (K57 : Int32 → Int32 → MT → Prop) (x3 : Int32) (x4 : Int32) (u : MT) (post : Int32 → MT → Prop) : Prop :=
  (((m_pictures (u)) ≤ (x4) → K46 ((x3) + 1) (u)) ∧ (¬ (m_pictures (u)) ≤ (x4) → q_M_fillPair (((((24) : Int32)) * (x3)) + (x4)) (u) (fun u2 => K57 (x3) ((x4) + 1) (u2))))
set_option maxRecDepth 100000 in
theorem w_M_fill_57 {p : Program} {l : Launch} {e : Env} {s : State} {m : MethodId} {args : Array Value} {below : List Frame} {meth : Method} {c : Code} {Z : ZT} {ad : Nat → Nat} {u0 : MT} {post : Int32 → MT → Prop} {K46 : Int32 → MT → Prop} {K57 : Int32 → Int32 → MT → Prop} (C : CX "CoderTablesModel" b_M_fill 5 (some .int) Z (va_A (cM Z ad u0) s.heap.size) p l s m args meth c) (htab : ∀ x ∈ c.exceptionTable.toList, False) (hK46 : ∀ (x3 : Int32) (u : MT) (H : Heap) (locs : List Loc) (ls : Array Slot), K46 x3 u → WD Z (va_A (cM Z ad u0) s.heap.size) s (cM Z ad u) H locs → lv_has ls 5 [(0, .ref (ad 0)), (3, .int (x3))] → W p l e rm_M_fill s m args below meth c H locs 0 0 (vx_MQ below (pQi Z (cM Z ad) (cM Z ad u0) s.heap.size post) (pX Z (cM Z ad) (cM Z ad u0) s.heap.size (fun _ _ => False)) args s 0 0 rm_M_fill.cells rm_M_fill.slots (va_A (cM Z ad u0) s.heap.size)) (F0 m 46 ls [])) (hK57 : ∀ (x3 : Int32) (x4 : Int32) (u : MT) (H : Heap) (locs : List Loc) (ls : Array Slot), K57 x3 x4 u → WD Z (va_A (cM Z ad u0) s.heap.size) s (cM Z ad u) H locs → lv_has ls 5 [(0, .ref (ad 0)), (3, .int (x3)), (4, .int (x4))] → W p l e rm_M_fill s m args below meth c H locs 0 0 (vx_MQ below (pQi Z (cM Z ad) (cM Z ad u0) s.heap.size post) (pX Z (cM Z ad) (cM Z ad u0) s.heap.size (fun _ _ => False)) args s 0 0 rm_M_fill.cells rm_M_fill.slots (va_A (cM Z ad u0) s.heap.size)) (F0 m 57 ls [])) (x3 : Int32) (x4 : Int32) (u : MT) (H : Heap) (locs : List Loc) (ls : Array Slot) (hw : WD Z (va_A (cM Z ad u0) s.heap.size) s (cM Z ad u) H locs) (hl : lv_has ls 5 [(0, .ref (ad 0)), (3, .int (x3)), (4, .int (x4))]) (h : q_M_fill_57 K46 K57 x3 x4 u post) : W p l e rm_M_fill s m args below meth c H locs 0 0 (vx_MQ below (pQi Z (cM Z ad) (cM Z ad u0) s.heap.size post) (pX Z (cM Z ad) (cM Z ad u0) s.heap.size (fun _ _ => False)) args s 0 0 rm_M_fill.cells rm_M_fill.slots (va_A (cM Z ad u0) s.heap.size)) (F0 m 57 ls []) := by
  unfold q_M_fill_57 at h
  refine lv_iload C.2.1 C.2.2.1 d_M_fill_57 (lv_at hl 2 rfl) ?_
  refine lv_aload_n C.2.1 C.2.2.1 d_M_fill_59 rfl (lv_at hl 0 rfl) ?_
  refine r_M_47 C hw d_M_fill_60 ?_
  refine lv_icmp_ge (tgt := 83) C.2.1 C.2.2.1 d_M_fill_63 (by decide) (fun c => ?_) (fun c => ?_)
  · have h := h.1 c
    refine lv_iinc (v := (x3) + 1) (lv' := [(3, .int ((x3) + 1)), (0, .ref (ad 0)), (4, .int (x4))]) C.2.1 C.2.2.1 d_M_fill_83 hl (k := 1) rfl rfl (by decide) rfl (fun ls hl => ?_)
    refine lv_goto (tgt := 46) C.2.1 C.2.2.1 d_M_fill_86 (by decide) ?_
    exact hK46 ((x3) + 1) _ _ _ _ h hw (lv_sub hl [1, 0] rfl)
  · have h := h.2 c
    refine lv_aload_n C.2.1 C.2.2.1 d_M_fill_66 rfl (lv_at hl 0 rfl) ?_
    refine lv_bipush (v := (24)) C.2.1 C.2.2.1 d_M_fill_67 (by decide) ?_
    refine lv_iload_n C.2.1 C.2.2.1 d_M_fill_69 rfl (lv_at hl 1 rfl) ?_
    refine lv_imul C.2.1 C.2.2.1 d_M_fill_70 ?_
    refine lv_iload C.2.1 C.2.2.1 d_M_fill_71 (lv_at hl 2 rfl) ?_
    refine lv_iadd C.2.1 C.2.2.1 d_M_fill_73 ?_
    refine k_M_143 C hw h ⟨Nat.le_of_ble_eq_true rfl, Nat.le_of_ble_eq_true rfl, Nat.le_of_ble_eq_true rfl, Nat.le_of_ble_eq_true rfl⟩ hl.1 (Nat.le_of_ble_eq_true rfl) d_M_fill_74 (fun u2 H locs h hw => ?_)
    refine lv_iinc (v := (x4) + 1) (lv' := [(4, .int ((x4) + 1)), (0, .ref (ad 0)), (3, .int (x3))]) C.2.1 C.2.2.1 d_M_fill_77 hl (k := 2) rfl rfl (by decide) rfl (fun ls hl => ?_)
    refine lv_goto (tgt := 57) C.2.1 C.2.2.1 d_M_fill_80 (by decide) ?_
    exact hK57 (x3) ((x4) + 1) _ _ _ _ h hw (lv_sub hl [1, 2, 0] rfl)
def q_M_fill_57N (K46 : Int32 → MT → Prop) : Nat → Int32 → Int32 → MT → (Int32 → MT → Prop) → Prop
  | 0 => fun _ _ _ _ => False
  | n + 1 => fun x3 x4 u post => q_M_fill_57 K46 (fun x3 x4 u => q_M_fill_57N K46 n x3 x4 u post) x3 x4 u post
theorem w_M_fill_57N {p : Program} {l : Launch} {e : Env} {s : State} {m : MethodId} {args : Array Value} {below : List Frame} {meth : Method} {c : Code} {Z : ZT} {ad : Nat → Nat} {u0 : MT} {post : Int32 → MT → Prop} {K46 : Int32 → MT → Prop} (C : CX "CoderTablesModel" b_M_fill 5 (some .int) Z (va_A (cM Z ad u0) s.heap.size) p l s m args meth c) (htab : ∀ x ∈ c.exceptionTable.toList, False) (hK46 : ∀ (x3 : Int32) (u : MT) (H : Heap) (locs : List Loc) (ls : Array Slot), K46 x3 u → WD Z (va_A (cM Z ad u0) s.heap.size) s (cM Z ad u) H locs → lv_has ls 5 [(0, .ref (ad 0)), (3, .int (x3))] → W p l e rm_M_fill s m args below meth c H locs 0 0 (vx_MQ below (pQi Z (cM Z ad) (cM Z ad u0) s.heap.size post) (pX Z (cM Z ad) (cM Z ad u0) s.heap.size (fun _ _ => False)) args s 0 0 rm_M_fill.cells rm_M_fill.slots (va_A (cM Z ad u0) s.heap.size)) (F0 m 46 ls [])) : ∀ (n : Nat) (x3 : Int32) (x4 : Int32) (u : MT) (H : Heap) (locs : List Loc) (ls : Array Slot), WD Z (va_A (cM Z ad u0) s.heap.size) s (cM Z ad u) H locs → lv_has ls 5 [(0, .ref (ad 0)), (3, .int (x3)), (4, .int (x4))] → q_M_fill_57N K46 n x3 x4 u post → W p l e rm_M_fill s m args below meth c H locs 0 0 (vx_MQ below (pQi Z (cM Z ad) (cM Z ad u0) s.heap.size post) (pX Z (cM Z ad) (cM Z ad u0) s.heap.size (fun _ _ => False)) args s 0 0 rm_M_fill.cells rm_M_fill.slots (va_A (cM Z ad u0) s.heap.size)) (F0 m 57 ls []) := by
  intro n
  induction n with
  | zero => intro x3 x4 u H locs ls hw hl h; exact h.elim
  | succ n ih => intro x3 x4 u H locs ls hw hl h; exact w_M_fill_57 C htab hK46 (fun x3 x4 u H locs ls h hw hl => ih x3 x4 u H locs ls hw hl h) x3 x4 u H locs ls hw hl h
def q_M_fill_46 (K46 : Int32 → MT → Prop) (x3 : Int32) (u : MT) (post : Int32 → MT → Prop) : Prop :=
  (((m_coders (u)) ≤ (x3) → q_M_points  (u) (fun r3 u4 => post (r3) (u4))) ∧ (¬ (m_coders (u)) ≤ (x3) → ∃ n, q_M_fill_57N K46 n (x3) (((0) : Int32)) (u) post))
set_option maxRecDepth 100000 in
theorem w_M_fill_46 {p : Program} {l : Launch} {e : Env} {s : State} {m : MethodId} {args : Array Value} {below : List Frame} {meth : Method} {c : Code} {Z : ZT} {ad : Nat → Nat} {u0 : MT} {post : Int32 → MT → Prop} {K46 : Int32 → MT → Prop} (C : CX "CoderTablesModel" b_M_fill 5 (some .int) Z (va_A (cM Z ad u0) s.heap.size) p l s m args meth c) (htab : ∀ x ∈ c.exceptionTable.toList, False) (hK46 : ∀ (x3 : Int32) (u : MT) (H : Heap) (locs : List Loc) (ls : Array Slot), K46 x3 u → WD Z (va_A (cM Z ad u0) s.heap.size) s (cM Z ad u) H locs → lv_has ls 5 [(0, .ref (ad 0)), (3, .int (x3))] → W p l e rm_M_fill s m args below meth c H locs 0 0 (vx_MQ below (pQi Z (cM Z ad) (cM Z ad u0) s.heap.size post) (pX Z (cM Z ad) (cM Z ad u0) s.heap.size (fun _ _ => False)) args s 0 0 rm_M_fill.cells rm_M_fill.slots (va_A (cM Z ad u0) s.heap.size)) (F0 m 46 ls [])) (x3 : Int32) (u : MT) (H : Heap) (locs : List Loc) (ls : Array Slot) (hw : WD Z (va_A (cM Z ad u0) s.heap.size) s (cM Z ad u) H locs) (hl : lv_has ls 5 [(0, .ref (ad 0)), (3, .int (x3))]) (h : q_M_fill_46 K46 x3 u post) : W p l e rm_M_fill s m args below meth c H locs 0 0 (vx_MQ below (pQi Z (cM Z ad) (cM Z ad u0) s.heap.size post) (pX Z (cM Z ad) (cM Z ad u0) s.heap.size (fun _ _ => False)) args s 0 0 rm_M_fill.cells rm_M_fill.slots (va_A (cM Z ad u0) s.heap.size)) (F0 m 46 ls []) := by
  unfold q_M_fill_46 at h
  refine lv_iload_n C.2.1 C.2.2.1 d_M_fill_46 rfl (lv_at hl 1 rfl) ?_
  refine lv_aload_n C.2.1 C.2.2.1 d_M_fill_47 rfl (lv_at hl 0 rfl) ?_
  refine r_M_40 C hw d_M_fill_48 ?_
  refine lv_icmp_ge (tgt := 89) C.2.1 C.2.2.1 d_M_fill_51 (by decide) (fun c => ?_) (fun c => ?_)
  · have h := h.1 c
    refine lv_aload_n C.2.1 C.2.2.1 d_M_fill_89 rfl (lv_at hl 0 rfl) ?_
    refine k_M_146 C hw h ⟨Nat.le_of_ble_eq_true rfl, Nat.le_of_ble_eq_true rfl, Nat.le_of_ble_eq_true rfl, Nat.le_of_ble_eq_true rfl⟩ hl.1 (Nat.le_of_ble_eq_true rfl) d_M_fill_90 (fun r3 u4 H locs h hw => ?_)
    exact g_iret C hw rfl h d_M_fill_93
  · have h := h.2 c
    refine lv_iconst (v := (0)) C.2.1 C.2.2.1 d_M_fill_54 (by decide) ?_
    refine lv_istore (lv' := [(4, .int (((0) : Int32))), (0, .ref (ad 0)), (3, .int (x3))]) C.2.1 C.2.2.1 d_M_fill_55 hl (by decide) rfl (fun ls hl => ?_)
    obtain ⟨n, h⟩ := h
    exact w_M_fill_57N C htab hK46 n (x3) (((0) : Int32)) _ _ _ _ hw (lv_sub hl [1, 2, 0] rfl) h
def q_M_fill_46N : Nat → Int32 → MT → (Int32 → MT → Prop) → Prop
  | 0 => fun _ _ _ => False
  | n + 1 => fun x3 u post => q_M_fill_46 (fun x3 u => q_M_fill_46N n x3 u post) x3 u post
theorem w_M_fill_46N {p : Program} {l : Launch} {e : Env} {s : State} {m : MethodId} {args : Array Value} {below : List Frame} {meth : Method} {c : Code} {Z : ZT} {ad : Nat → Nat} {u0 : MT} {post : Int32 → MT → Prop} (C : CX "CoderTablesModel" b_M_fill 5 (some .int) Z (va_A (cM Z ad u0) s.heap.size) p l s m args meth c) (htab : ∀ x ∈ c.exceptionTable.toList, False) : ∀ (n : Nat) (x3 : Int32) (u : MT) (H : Heap) (locs : List Loc) (ls : Array Slot), WD Z (va_A (cM Z ad u0) s.heap.size) s (cM Z ad u) H locs → lv_has ls 5 [(0, .ref (ad 0)), (3, .int (x3))] → q_M_fill_46N n x3 u post → W p l e rm_M_fill s m args below meth c H locs 0 0 (vx_MQ below (pQi Z (cM Z ad) (cM Z ad u0) s.heap.size post) (pX Z (cM Z ad) (cM Z ad u0) s.heap.size (fun _ _ => False)) args s 0 0 rm_M_fill.cells rm_M_fill.slots (va_A (cM Z ad u0) s.heap.size)) (F0 m 46 ls []) := by
  intro n
  induction n with
  | zero => intro x3 u H locs ls hw hl h; exact h.elim
  | succ n ih => intro x3 u H locs ls hw hl h; exact w_M_fill_46 C htab (fun x3 u H locs ls h hw hl => ih x3 u H locs ls hw hl h) x3 u H locs ls hw hl h
def q_M_fill_17 (K17 : Int32 → MT → Prop) (x3 : Int32) (u : MT) (post : Int32 → MT → Prop) : Prop :=
  (((((192) : Int32)) ≤ (x3) → ∃ n, q_M_fill_46N n (((0) : Int32)) (u) post) ∧ (¬ (((192) : Int32)) ≤ (x3) → (vp_in (x3) 192 ∧ (vp_in (x3) 192 ∧ K17 ((x3) + 1) (m_hasFailed_s (m_count_s (u) (upd (m_count (u)) (x3).toNatClampNeg (((0) : Int32)))) (upd (m_hasFailed (m_count_s (u) (upd (m_count (u)) (x3).toNatClampNeg (((0) : Int32))))) (x3).toNatClampNeg (vp_nar .boolean (((0) : Int32)))))))))
set_option maxRecDepth 100000 in
theorem w_M_fill_17 {p : Program} {l : Launch} {e : Env} {s : State} {m : MethodId} {args : Array Value} {below : List Frame} {meth : Method} {c : Code} {Z : ZT} {ad : Nat → Nat} {u0 : MT} {post : Int32 → MT → Prop} {K17 : Int32 → MT → Prop} (C : CX "CoderTablesModel" b_M_fill 5 (some .int) Z (va_A (cM Z ad u0) s.heap.size) p l s m args meth c) (htab : ∀ x ∈ c.exceptionTable.toList, False) (hK17 : ∀ (x3 : Int32) (u : MT) (H : Heap) (locs : List Loc) (ls : Array Slot), K17 x3 u → WD Z (va_A (cM Z ad u0) s.heap.size) s (cM Z ad u) H locs → lv_has ls 5 [(0, .ref (ad 0)), (3, .int (x3))] → W p l e rm_M_fill s m args below meth c H locs 0 0 (vx_MQ below (pQi Z (cM Z ad) (cM Z ad u0) s.heap.size post) (pX Z (cM Z ad) (cM Z ad u0) s.heap.size (fun _ _ => False)) args s 0 0 rm_M_fill.cells rm_M_fill.slots (va_A (cM Z ad u0) s.heap.size)) (F0 m 17 ls [])) (x3 : Int32) (u : MT) (H : Heap) (locs : List Loc) (ls : Array Slot) (hw : WD Z (va_A (cM Z ad u0) s.heap.size) s (cM Z ad u) H locs) (hl : lv_has ls 5 [(0, .ref (ad 0)), (3, .int (x3))]) (h : q_M_fill_17 K17 x3 u post) : W p l e rm_M_fill s m args below meth c H locs 0 0 (vx_MQ below (pQi Z (cM Z ad) (cM Z ad u0) s.heap.size post) (pX Z (cM Z ad) (cM Z ad u0) s.heap.size (fun _ _ => False)) args s 0 0 rm_M_fill.cells rm_M_fill.slots (va_A (cM Z ad u0) s.heap.size)) (F0 m 17 ls []) := by
  unfold q_M_fill_17 at h
  refine lv_iload_n C.2.1 C.2.2.1 d_M_fill_17 rfl (lv_at hl 1 rfl) ?_
  refine lv_sipush (v := (192)) C.2.1 C.2.2.1 d_M_fill_18 (by decide) ?_
  refine lv_icmp_ge (tgt := 44) C.2.1 C.2.2.1 d_M_fill_21 (by decide) (fun c => ?_) (fun c => ?_)
  · have h := h.1 c
    refine lv_iconst (v := (0)) C.2.1 C.2.2.1 d_M_fill_44 (by decide) ?_
    refine lv_istore_n (lv' := [(3, .int (((0) : Int32))), (0, .ref (ad 0))]) C.2.1 C.2.2.1 d_M_fill_45 rfl hl (by decide) rfl (fun ls hl => ?_)
    obtain ⟨n, h⟩ := h
    exact w_M_fill_46N C htab n (((0) : Int32)) _ _ _ _ hw (lv_sub hl [1, 0] rfl) h
  · have h := h.2 c
    refine lv_aload_n C.2.1 C.2.2.1 d_M_fill_24 rfl (lv_at hl 0 rfl) ?_
    refine r_M_7 C hw d_M_fill_25 ?_
    refine lv_iload_n C.2.1 C.2.2.1 d_M_fill_28 rfl (lv_at hl 1 rfl) ?_
    refine lv_iconst (v := (0)) C.2.1 C.2.2.1 d_M_fill_29 (by decide) ?_
    obtain ⟨hi, h⟩ := h
    refine as_M_1 C hw hi d_M_fill_30 (fun H locs hw => ?_)
    refine lv_aload_n C.2.1 C.2.2.1 d_M_fill_31 rfl (lv_at hl 0 rfl) ?_
    refine r_M_13 C hw d_M_fill_32 ?_
    refine lv_iload_n C.2.1 C.2.2.1 d_M_fill_35 rfl (lv_at hl 1 rfl) ?_
    refine lv_iconst (v := (0)) C.2.1 C.2.2.1 d_M_fill_36 (by decide) ?_
    obtain ⟨hi, h⟩ := h
    refine as_M_2 C hw hi d_M_fill_37 (fun H locs hw => ?_)
    refine lv_iinc (v := (x3) + 1) (lv' := [(3, .int ((x3) + 1)), (0, .ref (ad 0))]) C.2.1 C.2.2.1 d_M_fill_38 hl (k := 1) rfl rfl (by decide) rfl (fun ls hl => ?_)
    refine lv_goto (tgt := 17) C.2.1 C.2.2.1 d_M_fill_41 (by decide) ?_
    exact hK17 ((x3) + 1) _ _ _ _ h hw (lv_sub hl [1, 0] rfl)
def q_M_fill_17N : Nat → Int32 → MT → (Int32 → MT → Prop) → Prop
  | 0 => fun _ _ _ => False
  | n + 1 => fun x3 u post => q_M_fill_17 (fun x3 u => q_M_fill_17N n x3 u post) x3 u post
theorem w_M_fill_17N {p : Program} {l : Launch} {e : Env} {s : State} {m : MethodId} {args : Array Value} {below : List Frame} {meth : Method} {c : Code} {Z : ZT} {ad : Nat → Nat} {u0 : MT} {post : Int32 → MT → Prop} (C : CX "CoderTablesModel" b_M_fill 5 (some .int) Z (va_A (cM Z ad u0) s.heap.size) p l s m args meth c) (htab : ∀ x ∈ c.exceptionTable.toList, False) : ∀ (n : Nat) (x3 : Int32) (u : MT) (H : Heap) (locs : List Loc) (ls : Array Slot), WD Z (va_A (cM Z ad u0) s.heap.size) s (cM Z ad u) H locs → lv_has ls 5 [(0, .ref (ad 0)), (3, .int (x3))] → q_M_fill_17N n x3 u post → W p l e rm_M_fill s m args below meth c H locs 0 0 (vx_MQ below (pQi Z (cM Z ad) (cM Z ad u0) s.heap.size post) (pX Z (cM Z ad) (cM Z ad u0) s.heap.size (fun _ _ => False)) args s 0 0 rm_M_fill.cells rm_M_fill.slots (va_A (cM Z ad u0) s.heap.size)) (F0 m 17 ls []) := by
  intro n
  induction n with
  | zero => intro x3 u H locs ls hw hl h; exact h.elim
  | succ n ih => intro x3 u H locs ls hw hl h; exact w_M_fill_17 C htab (fun x3 u H locs ls h hw hl => ih x3 u H locs ls hw hl h) x3 u H locs ls hw hl h
def q_M_fill (p1 : Int64) (u : MT) (post : Int32 → MT → Prop) : Prop :=
  ∃ n, q_M_fill_17N n (((0) : Int32)) (m_failures_s (m_state_s (m_code_s (u) (((0) : Int32))) (p1)) (((0) : Int32))) post
set_option maxRecDepth 100000 in
theorem c_M_fill {l : Launch} {Z : ZT} {ad : Nat → Nat} {u : MT} {post : Int32 → MT → Prop} {p1 : Int64} (hl0 : l.stackTraces = false) (h : q_M_fill p1 u post) : ∀ sz, vx_Met l y_M_fill (Cond.code y_M_fill b_M_fill 5 (some .int) :: GW) rm_M_fill (pP Z [.ref (ad 0), .long (p1)] (cM Z ad u) sz) (pQi Z (cM Z ad) (cM Z ad u) sz post) (pX Z (cM Z ad) (cM Z ad u) sz (fun _ _ => False)) 0 0 rm_M_fill.cells rm_M_fill.slots (va_A (cM Z ad u) sz) := by
  refine g_ent (f := cM Z ad) (Qc := fun sz => pQi Z (cM Z ad) (cM Z ad u) sz post) (XC := fun sz => pX Z (cM Z ad) (cM Z ad u) sz (fun _ _ => False)) hl0 (by decide +kernel) (Nat.le_of_ble_eq_true rfl) ?_
  intro p e s m args below meth c ls C htab hw hl
  have hl : lv_has ls 5 [(0, .ref (ad 0)), (1, .long (p1))] := hl
  unfold q_M_fill at h
  refine lv_aload_n C.2.1 C.2.2.1 d_M_fill_0 rfl (lv_at hl 0 rfl) ?_
  refine lv_iconst (v := (0)) C.2.1 C.2.2.1 d_M_fill_1 (by decide) ?_
  refine s_M_36 C hw d_M_fill_2 (fun H locs hw => ?_)
  refine lv_aload_n C.2.1 C.2.2.1 d_M_fill_5 rfl (lv_at hl 0 rfl) ?_
  refine lv_lload_n C.2.1 C.2.2.1 d_M_fill_6 rfl (lv_at hl 1 rfl) ?_
  refine s_M_126 C hw d_M_fill_7 (fun H locs hw => ?_)
  refine lv_aload_n C.2.1 C.2.2.1 d_M_fill_10 rfl (lv_at hl 0 rfl) ?_
  refine lv_iconst (v := (0)) C.2.1 C.2.2.1 d_M_fill_11 (by decide) ?_
  refine s_M_67 C hw d_M_fill_12 (fun H locs hw => ?_)
  refine lv_iconst (v := (0)) C.2.1 C.2.2.1 d_M_fill_15 (by decide) ?_
  refine lv_istore_n (lv' := [(3, .int (((0) : Int32))), (0, .ref (ad 0)), (1, .long (p1))]) C.2.1 C.2.2.1 d_M_fill_16 rfl hl (by decide) rfl (fun ls hl => ?_)
  obtain ⟨n, h⟩ := h
  exact w_M_fill_17N C htab n (((0) : Int32)) _ _ _ _ hw (lv_sub hl [1, 0] rfl) h
/-! CoderTablesModel.type(I)V -/
abbrev rm_M_type : Room := { frames := 0, cells := 0, slots := 0, locals := 0 }
def q_M_type (p1 : Int32) (u : MT) (post : MT → Prop) : Prop :=
  (vp_in (m_size (u)) 256 ∧ post (m_size_s (m_text_s (u) (upd (m_text (u)) (m_size (u)).toNatClampNeg (p1))) ((m_size (m_text_s (u) (upd (m_text (u)) (m_size (u)).toNatClampNeg (p1)))) + (((1) : Int32)))))
set_option maxRecDepth 100000 in
theorem c_M_type {l : Launch} {Z : ZT} {ad : Nat → Nat} {u : MT} {post : MT → Prop} {p1 : Int32} (hl0 : l.stackTraces = false) (h : q_M_type p1 u post) : ∀ sz, vx_Met l y_M_type (Cond.code y_M_type b_M_type 2 none :: GW) rm_M_type (pP Z [.ref (ad 0), .int (p1)] (cM Z ad u) sz) (pQv Z (cM Z ad) (cM Z ad u) sz post) (pX Z (cM Z ad) (cM Z ad u) sz (fun _ _ => False)) 0 0 rm_M_type.cells rm_M_type.slots (va_A (cM Z ad u) sz) := by
  refine g_ent (f := cM Z ad) (Qc := fun sz => pQv Z (cM Z ad) (cM Z ad u) sz post) (XC := fun sz => pX Z (cM Z ad) (cM Z ad u) sz (fun _ _ => False)) hl0 (by decide +kernel) (Nat.le_of_ble_eq_true rfl) ?_
  intro p e s m args below meth c ls C htab hw hl
  have hl : lv_has ls 2 [(0, .ref (ad 0)), (1, .int (p1))] := hl
  unfold q_M_type at h
  refine lv_aload_n C.2.1 C.2.2.1 d_M_type_0 rfl (lv_at hl 0 rfl) ?_
  refine r_M_26 C hw d_M_type_1 ?_
  refine lv_aload_n C.2.1 C.2.2.1 d_M_type_4 rfl (lv_at hl 0 rfl) ?_
  refine r_M_150 C hw d_M_type_5 ?_
  refine lv_iload_n C.2.1 C.2.2.1 d_M_type_8 rfl (lv_at hl 1 rfl) ?_
  obtain ⟨hi, h⟩ := h
  refine as_M_6 C hw hi d_M_type_9 (fun H locs hw => ?_)
  refine lv_aload_n C.2.1 C.2.2.1 d_M_type_10 rfl (lv_at hl 0 rfl) ?_
  refine lv_dup C.2.1 C.2.2.1 d_M_type_11 rfl ?_
  refine r_M_150 C hw d_M_type_12 ?_
  refine lv_iconst (v := (1)) C.2.1 C.2.2.1 d_M_type_15 (by decide) ?_
  refine lv_iadd C.2.1 C.2.2.1 d_M_type_16 ?_
  refine s_M_150 C hw d_M_type_17 (fun H locs hw => ?_)
  exact g_vret C hw h d_M_type_20
section KR
variable {own host : String} {cc bytes : ByteArray} {nL maxL index n : Nat} {rt0 rt : Option FieldType} {Z : ZT} {ad : Nat → Nat} {A : Nat → Prop}
variable {p : Program} {l : Launch} {e : Env} {R : Room} {s : State} {m : MethodId} {args : Array Value} {below : List Frame} {meth : Method} {c : Code} {H : Heap} {locs : List Loc} {cells slots : Nat} {Q : State → Prop} {rest : List Value} {pc : Nat} {ls : Array Slot}
theorem k_M_157 {u : MT} {p1 : Int32} {post : MT → Prop} (C : CX "CoderTablesModel" cc nL rt0 Z A p l s m args meth c) (hw : WD Z A s (cM Z ad u) H locs) (h : q_M_type p1 u post) (hR : rmOk rm_M_type 2 R cells slots) (hl : ls.size = nL) (hW : (rest.map fun v => v.category).sum ≤ 8) (hdg : decode cc pc = .ok (.invokevirtual 157, 3)) (kk : ∀ (u' : MT) (H1 : Heap) (locs1 : List Loc), post u' → WD Z A s (cM Z ad u') H1 locs1 → W p l e R s m args below meth c H1 locs1 cells slots Q (F0 m (pc + 3) ls (rest))) : W p l e R s m args below meth c H locs cells slots Q (F0 m pc ls (.int (p1) :: .ref (ad 0) :: rest)) :=
  g_V0_v (n := 1) (f := cM Z ad) (As := [.int (p1)]) C hw (c_M_type C.1 h) ⟨w773, w775, w51, w56, w776, (by decide +kernel), (by decide +kernel), (by decide +kernel)⟩ hR 0 rfl rfl rfl hl rfl hW hdg (fun _ _ _ _ _ _ h => h.elim) kk
end KR
/-! CoderTablesModel.typeNumber(J)V -/
abbrev rm_M_typeNumber : Room := { frames := 1, cells := 0, slots := 0, locals := 21 }
def q_M_typeNumber_21 (K21 : Int64 → Int64 → MT → Prop) (x1 : Int64) (x3 : Int64) (u : MT) (post : MT → Prop) : Prop :=
  (((lg_cmp (x3) ((0 : Int64))) ≤ 0 → post (u)) ∧ (¬ (lg_cmp (x3) ((0 : Int64))) ≤ 0 → (¬ (x3) = 0 ∧ (¬ ((10 : Int64)) = 0 ∧ q_M_type ((((48) : Int32)) + ((((x1) / (x3)) - ((x1) / (x3)) / ((10 : Int64)) * ((10 : Int64))).toInt32)) (u) (fun u2 => (¬ ((10 : Int64)) = 0 ∧ K21 (x1) ((x3) / ((10 : Int64))) (u2)))))))
set_option maxRecDepth 100000 in
theorem w_M_typeNumber_21 {p : Program} {l : Launch} {e : Env} {s : State} {m : MethodId} {args : Array Value} {below : List Frame} {meth : Method} {c : Code} {Z : ZT} {ad : Nat → Nat} {u0 : MT} {post : MT → Prop} {K21 : Int64 → Int64 → MT → Prop} (C : CX "CoderTablesModel" b_M_typeNumber 5 none Z (va_A (cM Z ad u0) s.heap.size) p l s m args meth c) (htab : ∀ x ∈ c.exceptionTable.toList, False) (hK21 : ∀ (x1 : Int64) (x3 : Int64) (u : MT) (H : Heap) (locs : List Loc) (ls : Array Slot), K21 x1 x3 u → WD Z (va_A (cM Z ad u0) s.heap.size) s (cM Z ad u) H locs → lv_has ls 5 [(0, .ref (ad 0)), (1, .long (x1)), (3, .long (x3))] → W p l e rm_M_typeNumber s m args below meth c H locs 0 0 (vx_MQ below (pQv Z (cM Z ad) (cM Z ad u0) s.heap.size post) (pX Z (cM Z ad) (cM Z ad u0) s.heap.size (fun _ _ => False)) args s 0 0 rm_M_typeNumber.cells rm_M_typeNumber.slots (va_A (cM Z ad u0) s.heap.size)) (F0 m 21 ls [])) (x1 : Int64) (x3 : Int64) (u : MT) (H : Heap) (locs : List Loc) (ls : Array Slot) (hw : WD Z (va_A (cM Z ad u0) s.heap.size) s (cM Z ad u) H locs) (hl : lv_has ls 5 [(0, .ref (ad 0)), (1, .long (x1)), (3, .long (x3))]) (h : q_M_typeNumber_21 K21 x1 x3 u post) : W p l e rm_M_typeNumber s m args below meth c H locs 0 0 (vx_MQ below (pQv Z (cM Z ad) (cM Z ad u0) s.heap.size post) (pX Z (cM Z ad) (cM Z ad u0) s.heap.size (fun _ _ => False)) args s 0 0 rm_M_typeNumber.cells rm_M_typeNumber.slots (va_A (cM Z ad u0) s.heap.size)) (F0 m 21 ls []) := by
  unfold q_M_typeNumber_21 at h
  refine lv_lload_n C.2.1 C.2.2.1 d_M_typeNumber_21 rfl (lv_at hl 2 rfl) ?_
  refine lv_lconst (v := 0) C.2.1 C.2.2.1 d_M_typeNumber_22 (by decide) ?_
  refine W.lcmp C.2.1 C.2.2.1 d_M_typeNumber_23 ?_
  refine lv_if_le (tgt := 51) C.2.1 C.2.2.1 d_M_typeNumber_24 (by decide) (fun c => ?_) (fun c => ?_)
  · have h := h.1 c
    exact g_vret C hw h d_M_typeNumber_51
  · have h := h.2 c
    refine lv_aload_n C.2.1 C.2.2.1 d_M_typeNumber_27 rfl (lv_at hl 0 rfl) ?_
    refine lv_bipush (v := (48)) C.2.1 C.2.2.1 d_M_typeNumber_28 (by decide) ?_
    refine lv_lload_n C.2.1 C.2.2.1 d_M_typeNumber_30 rfl (lv_at hl 1 rfl) ?_
    refine lv_lload_n C.2.1 C.2.2.1 d_M_typeNumber_31 rfl (lv_at hl 2 rfl) ?_
    obtain ⟨h0, h⟩ := h
    refine lv_ldiv C.2.1 C.2.2.1 d_M_typeNumber_32 h0 ?_
    refine lv_ldc2 (v := 10) C.2.1 C.2.2.1 C.2.2.2.2.1 (C.2.2.2.2.2.1 _ w772) d_M_typeNumber_33 ?_
    obtain ⟨h0, h⟩ := h
    refine lv_lrem C.2.1 C.2.2.1 d_M_typeNumber_36 h0 ?_
    refine lv_l2i C.2.1 C.2.2.1 d_M_typeNumber_37 rfl ?_
    refine lv_iadd C.2.1 C.2.2.1 d_M_typeNumber_38 ?_
    refine k_M_157 C hw h ⟨Nat.le_of_ble_eq_true rfl, Nat.le_of_ble_eq_true rfl, Nat.le_of_ble_eq_true rfl, Nat.le_of_ble_eq_true rfl⟩ hl.1 (Nat.le_of_ble_eq_true rfl) d_M_typeNumber_39 (fun u2 H locs h hw => ?_)
    refine lv_lload_n C.2.1 C.2.2.1 d_M_typeNumber_42 rfl (lv_at hl 2 rfl) ?_
    refine lv_ldc2 (v := 10) C.2.1 C.2.2.1 C.2.2.2.2.1 (C.2.2.2.2.2.1 _ w772) d_M_typeNumber_43 ?_
    obtain ⟨h0, h⟩ := h
    refine lv_ldiv C.2.1 C.2.2.1 d_M_typeNumber_46 h0 ?_
    refine lv_lstore_n (lv' := [(3, .long ((x3) / ((10 : Int64)))), (0, .ref (ad 0)), (1, .long (x1))]) C.2.1 C.2.2.1 d_M_typeNumber_47 rfl hl (by decide) rfl (fun ls hl => ?_)
    refine lv_goto (tgt := 21) C.2.1 C.2.2.1 d_M_typeNumber_48 (by decide) ?_
    exact hK21 (x1) ((x3) / ((10 : Int64))) _ _ _ _ h hw (lv_sub hl [1, 2, 0] rfl)
def q_M_typeNumber_21N : Nat → Int64 → Int64 → MT → (MT → Prop) → Prop
  | 0 => fun _ _ _ _ => False
  | n + 1 => fun x1 x3 u post => q_M_typeNumber_21 (fun x1 x3 u => q_M_typeNumber_21N n x1 x3 u post) x1 x3 u post
theorem w_M_typeNumber_21N {p : Program} {l : Launch} {e : Env} {s : State} {m : MethodId} {args : Array Value} {below : List Frame} {meth : Method} {c : Code} {Z : ZT} {ad : Nat → Nat} {u0 : MT} {post : MT → Prop} (C : CX "CoderTablesModel" b_M_typeNumber 5 none Z (va_A (cM Z ad u0) s.heap.size) p l s m args meth c) (htab : ∀ x ∈ c.exceptionTable.toList, False) : ∀ (n : Nat) (x1 : Int64) (x3 : Int64) (u : MT) (H : Heap) (locs : List Loc) (ls : Array Slot), WD Z (va_A (cM Z ad u0) s.heap.size) s (cM Z ad u) H locs → lv_has ls 5 [(0, .ref (ad 0)), (1, .long (x1)), (3, .long (x3))] → q_M_typeNumber_21N n x1 x3 u post → W p l e rm_M_typeNumber s m args below meth c H locs 0 0 (vx_MQ below (pQv Z (cM Z ad) (cM Z ad u0) s.heap.size post) (pX Z (cM Z ad) (cM Z ad u0) s.heap.size (fun _ _ => False)) args s 0 0 rm_M_typeNumber.cells rm_M_typeNumber.slots (va_A (cM Z ad u0) s.heap.size)) (F0 m 21 ls []) := by
  intro n
  induction n with
  | zero => intro x1 x3 u H locs ls hw hl h; exact h.elim
  | succ n ih => intro x1 x3 u H locs ls hw hl h; exact w_M_typeNumber_21 C htab (fun x1 x3 u H locs ls h hw hl => ih x1 x3 u H locs ls hw hl h) x1 x3 u H locs ls hw hl h
def q_M_typeNumber_2 (K2 : Int64 → Int64 → MT → Prop) (x1 : Int64) (x3 : Int64) (u : MT) (post : MT → Prop) : Prop :=
  (¬ (x3) = 0 ∧ (((lg_cmp ((x1) / (x3)) ((9 : Int64))) ≤ 0 → ∃ n, q_M_typeNumber_21N n (x1) (x3) (u) post) ∧ (¬ (lg_cmp ((x1) / (x3)) ((9 : Int64))) ≤ 0 → K2 (x1) (((10 : Int64)) * (x3)) (u))))
set_option maxRecDepth 100000 in
theorem w_M_typeNumber_2 {p : Program} {l : Launch} {e : Env} {s : State} {m : MethodId} {args : Array Value} {below : List Frame} {meth : Method} {c : Code} {Z : ZT} {ad : Nat → Nat} {u0 : MT} {post : MT → Prop} {K2 : Int64 → Int64 → MT → Prop} (C : CX "CoderTablesModel" b_M_typeNumber 5 none Z (va_A (cM Z ad u0) s.heap.size) p l s m args meth c) (htab : ∀ x ∈ c.exceptionTable.toList, False) (hK2 : ∀ (x1 : Int64) (x3 : Int64) (u : MT) (H : Heap) (locs : List Loc) (ls : Array Slot), K2 x1 x3 u → WD Z (va_A (cM Z ad u0) s.heap.size) s (cM Z ad u) H locs → lv_has ls 5 [(0, .ref (ad 0)), (1, .long (x1)), (3, .long (x3))] → W p l e rm_M_typeNumber s m args below meth c H locs 0 0 (vx_MQ below (pQv Z (cM Z ad) (cM Z ad u0) s.heap.size post) (pX Z (cM Z ad) (cM Z ad u0) s.heap.size (fun _ _ => False)) args s 0 0 rm_M_typeNumber.cells rm_M_typeNumber.slots (va_A (cM Z ad u0) s.heap.size)) (F0 m 2 ls [])) (x1 : Int64) (x3 : Int64) (u : MT) (H : Heap) (locs : List Loc) (ls : Array Slot) (hw : WD Z (va_A (cM Z ad u0) s.heap.size) s (cM Z ad u) H locs) (hl : lv_has ls 5 [(0, .ref (ad 0)), (1, .long (x1)), (3, .long (x3))]) (h : q_M_typeNumber_2 K2 x1 x3 u post) : W p l e rm_M_typeNumber s m args below meth c H locs 0 0 (vx_MQ below (pQv Z (cM Z ad) (cM Z ad u0) s.heap.size post) (pX Z (cM Z ad) (cM Z ad u0) s.heap.size (fun _ _ => False)) args s 0 0 rm_M_typeNumber.cells rm_M_typeNumber.slots (va_A (cM Z ad u0) s.heap.size)) (F0 m 2 ls []) := by
  unfold q_M_typeNumber_2 at h
  refine lv_lload_n C.2.1 C.2.2.1 d_M_typeNumber_2 rfl (lv_at hl 1 rfl) ?_
  refine lv_lload_n C.2.1 C.2.2.1 d_M_typeNumber_3 rfl (lv_at hl 2 rfl) ?_
  obtain ⟨h0, h⟩ := h
  refine lv_ldiv C.2.1 C.2.2.1 d_M_typeNumber_4 h0 ?_
  refine lv_ldc2 (v := 9) C.2.1 C.2.2.1 C.2.2.2.2.1 (C.2.2.2.2.2.1 _ w771) d_M_typeNumber_5 ?_
  refine W.lcmp C.2.1 C.2.2.1 d_M_typeNumber_8 ?_
  refine lv_if_le (tgt := 21) C.2.1 C.2.2.1 d_M_typeNumber_9 (by decide) (fun c => ?_) (fun c => ?_)
  · have h := h.1 c
    obtain ⟨n, h⟩ := h
    exact w_M_typeNumber_21N C htab n (x1) (x3) _ _ _ _ hw (lv_sub hl [0, 1, 2] rfl) h
  · have h := h.2 c
    refine lv_ldc2 (v := 10) C.2.1 C.2.2.1 C.2.2.2.2.1 (C.2.2.2.2.2.1 _ w772) d_M_typeNumber_12 ?_
    refine lv_lload_n C.2.1 C.2.2.1 d_M_typeNumber_15 rfl (lv_at hl 2 rfl) ?_
    refine lv_lmul C.2.1 C.2.2.1 d_M_typeNumber_16 ?_
    refine lv_lstore_n (lv' := [(3, .long (((10 : Int64)) * (x3))), (0, .ref (ad 0)), (1, .long (x1))]) C.2.1 C.2.2.1 d_M_typeNumber_17 rfl hl (by decide) rfl (fun ls hl => ?_)
    refine lv_goto (tgt := 2) C.2.1 C.2.2.1 d_M_typeNumber_18 (by decide) ?_
    exact hK2 (x1) (((10 : Int64)) * (x3)) _ _ _ _ h hw (lv_sub hl [1, 2, 0] rfl)
def q_M_typeNumber_2N : Nat → Int64 → Int64 → MT → (MT → Prop) → Prop
  | 0 => fun _ _ _ _ => False
  | n + 1 => fun x1 x3 u post => q_M_typeNumber_2 (fun x1 x3 u => q_M_typeNumber_2N n x1 x3 u post) x1 x3 u post
theorem w_M_typeNumber_2N {p : Program} {l : Launch} {e : Env} {s : State} {m : MethodId} {args : Array Value} {below : List Frame} {meth : Method} {c : Code} {Z : ZT} {ad : Nat → Nat} {u0 : MT} {post : MT → Prop} (C : CX "CoderTablesModel" b_M_typeNumber 5 none Z (va_A (cM Z ad u0) s.heap.size) p l s m args meth c) (htab : ∀ x ∈ c.exceptionTable.toList, False) : ∀ (n : Nat) (x1 : Int64) (x3 : Int64) (u : MT) (H : Heap) (locs : List Loc) (ls : Array Slot), WD Z (va_A (cM Z ad u0) s.heap.size) s (cM Z ad u) H locs → lv_has ls 5 [(0, .ref (ad 0)), (1, .long (x1)), (3, .long (x3))] → q_M_typeNumber_2N n x1 x3 u post → W p l e rm_M_typeNumber s m args below meth c H locs 0 0 (vx_MQ below (pQv Z (cM Z ad) (cM Z ad u0) s.heap.size post) (pX Z (cM Z ad) (cM Z ad u0) s.heap.size (fun _ _ => False)) args s 0 0 rm_M_typeNumber.cells rm_M_typeNumber.slots (va_A (cM Z ad u0) s.heap.size)) (F0 m 2 ls []) := by
  intro n
  induction n with
  | zero => intro x1 x3 u H locs ls hw hl h; exact h.elim
  | succ n ih => intro x1 x3 u H locs ls hw hl h; exact w_M_typeNumber_2 C htab (fun x1 x3 u H locs ls h hw hl => ih x1 x3 u H locs ls hw hl h) x1 x3 u H locs ls hw hl h
def q_M_typeNumber (p1 : Int64) (u : MT) (post : MT → Prop) : Prop :=
  ∃ n, q_M_typeNumber_2N n (p1) ((1 : Int64)) (u) post
set_option maxRecDepth 100000 in
theorem c_M_typeNumber {l : Launch} {Z : ZT} {ad : Nat → Nat} {u : MT} {post : MT → Prop} {p1 : Int64} (hl0 : l.stackTraces = false) (h : q_M_typeNumber p1 u post) : ∀ sz, vx_Met l y_M_typeNumber (Cond.code y_M_typeNumber b_M_typeNumber 5 none :: GW) rm_M_typeNumber (pP Z [.ref (ad 0), .long (p1)] (cM Z ad u) sz) (pQv Z (cM Z ad) (cM Z ad u) sz post) (pX Z (cM Z ad) (cM Z ad u) sz (fun _ _ => False)) 0 0 rm_M_typeNumber.cells rm_M_typeNumber.slots (va_A (cM Z ad u) sz) := by
  refine g_ent (f := cM Z ad) (Qc := fun sz => pQv Z (cM Z ad) (cM Z ad u) sz post) (XC := fun sz => pX Z (cM Z ad) (cM Z ad u) sz (fun _ _ => False)) hl0 (by decide +kernel) (Nat.le_of_ble_eq_true rfl) ?_
  intro p e s m args below meth c ls C htab hw hl
  have hl : lv_has ls 5 [(0, .ref (ad 0)), (1, .long (p1))] := hl
  unfold q_M_typeNumber at h
  refine lv_lconst (v := 1) C.2.1 C.2.2.1 d_M_typeNumber_0 (by decide) ?_
  refine lv_lstore_n (lv' := [(3, .long ((1 : Int64))), (0, .ref (ad 0)), (1, .long (p1))]) C.2.1 C.2.2.1 d_M_typeNumber_1 rfl hl (by decide) rfl (fun ls hl => ?_)
  obtain ⟨n, h⟩ := h
  exact w_M_typeNumber_2N C htab n (p1) ((1 : Int64)) _ _ _ _ hw (lv_sub hl [1, 2, 0] rfl) h
section KR
variable {own host : String} {cc bytes : ByteArray} {nL maxL index n : Nat} {rt0 rt : Option FieldType} {Z : ZT} {ad : Nat → Nat} {A : Nat → Prop}
variable {p : Program} {l : Launch} {e : Env} {R : Room} {s : State} {m : MethodId} {args : Array Value} {below : List Frame} {meth : Method} {c : Code} {H : Heap} {locs : List Loc} {cells slots : Nat} {Q : State → Prop} {rest : List Value} {pc : Nat} {ls : Array Slot}
theorem k_M_160 {u : MT} {p1 : Int64} {post : MT → Prop} (C : CX "CoderTablesModel" cc nL rt0 Z A p l s m args meth c) (hw : WD Z A s (cM Z ad u) H locs) (h : q_M_typeNumber p1 u post) (hR : rmOk rm_M_typeNumber 5 R cells slots) (hl : ls.size = nL) (hW : (rest.map fun v => v.category).sum ≤ 8) (hdg : decode cc pc = .ok (.invokevirtual 160, 3)) (kk : ∀ (u' : MT) (H1 : Heap) (locs1 : List Loc), post u' → WD Z A s (cM Z ad u') H1 locs1 → W p l e R s m args below meth c H1 locs1 cells slots Q (F0 m (pc + 3) ls (rest))) : W p l e R s m args below meth c H locs cells slots Q (F0 m pc ls (.long (p1) :: .ref (ad 0) :: rest)) :=
  g_V0_v (n := 1) (f := cM Z ad) (As := [.long (p1)]) C hw (c_M_typeNumber C.1 h) ⟨w767, w769, w50, w56, w770, (by decide +kernel), (by decide +kernel), (by decide +kernel)⟩ hR 0 rfl rfl rfl hl rfl hW hdg (fun _ _ _ _ _ _ h => h.elim) kk
end KR
/-! CoderTablesModel.text()I -/
abbrev rm_M_text : Room := { frames := 3, cells := 0, slots := 0, locals := 75 }
def q_M_text_74 (K12 : Int32 → MT → Prop) (x1 : Int32) (u : MT) (post : Int32 → MT → Prop) : Prop :=
  q_M_type (((10) : Int32)) (u) (fun u2 => K12 ((x1) + 1) (u2))
set_option maxRecDepth 100000 in
theorem w_M_text_74 {p : Program} {l : Launch} {e : Env} {s : State} {m : MethodId} {args : Array Value} {below : List Frame} {meth : Method} {c : Code} {Z : ZT} {ad : Nat → Nat} {u0 : MT} {post : Int32 → MT → Prop} {K12 : Int32 → MT → Prop} (C : CX "CoderTablesModel" b_M_text 2 (some .int) Z (va_A (cM Z ad u0) s.heap.size) p l s m args meth c) (htab : ∀ x ∈ c.exceptionTable.toList, False) (hK12 : ∀ (x1 : Int32) (u : MT) (H : Heap) (locs : List Loc) (ls : Array Slot), K12 x1 u → WD Z (va_A (cM Z ad u0) s.heap.size) s (cM Z ad u) H locs → lv_has ls 2 [(0, .ref (ad 0)), (1, .int (x1))] → W p l e rm_M_text s m args below meth c H locs 0 0 (vx_MQ below (pQi Z (cM Z ad) (cM Z ad u0) s.heap.size post) (pX Z (cM Z ad) (cM Z ad u0) s.heap.size (fun _ _ => False)) args s 0 0 rm_M_text.cells rm_M_text.slots (va_A (cM Z ad u0) s.heap.size)) (F0 m 12 ls [])) (x1 : Int32) (u : MT) (H : Heap) (locs : List Loc) (ls : Array Slot) (hw : WD Z (va_A (cM Z ad u0) s.heap.size) s (cM Z ad u) H locs) (hl : lv_has ls 2 [(0, .ref (ad 0)), (1, .int (x1))]) (h : q_M_text_74 K12 x1 u post) : W p l e rm_M_text s m args below meth c H locs 0 0 (vx_MQ below (pQi Z (cM Z ad) (cM Z ad u0) s.heap.size post) (pX Z (cM Z ad) (cM Z ad u0) s.heap.size (fun _ _ => False)) args s 0 0 rm_M_text.cells rm_M_text.slots (va_A (cM Z ad u0) s.heap.size)) (F0 m 74 ls []) := by
  unfold q_M_text_74 at h
  refine lv_aload_n C.2.1 C.2.2.1 d_M_text_74 rfl (lv_at hl 0 rfl) ?_
  refine lv_bipush (v := (10)) C.2.1 C.2.2.1 d_M_text_75 (by decide) ?_
  refine k_M_157 C hw h ⟨Nat.le_of_ble_eq_true rfl, Nat.le_of_ble_eq_true rfl, Nat.le_of_ble_eq_true rfl, Nat.le_of_ble_eq_true rfl⟩ hl.1 (Nat.le_of_ble_eq_true rfl) d_M_text_77 (fun u2 H locs h hw => ?_)
  refine lv_iinc (v := (x1) + 1) (lv' := [(1, .int ((x1) + 1)), (0, .ref (ad 0))]) C.2.1 C.2.2.1 d_M_text_80 hl (k := 1) rfl rfl (by decide) rfl (fun ls hl => ?_)
  refine lv_goto (tgt := 12) C.2.1 C.2.2.1 d_M_text_83 (by decide) ?_
  exact hK12 ((x1) + 1) _ _ _ _ h hw (lv_sub hl [1, 0] rfl)
def q_M_text_12 (K12 : Int32 → MT → Prop) (x1 : Int32) (u : MT) (post : Int32 → MT → Prop) : Prop :=
  (((m_coders (u)) ≤ (x1) → post (m_size (u)) (u)) ∧ (¬ (m_coders (u)) ≤ (x1) → q_M_typeNumber ((x1).toInt64) (u) (fun u4 => q_M_type (((32) : Int32)) (u4) (fun u6 => q_M_countedOf (x1) (u6) (fun r7 u8 => (((r7) ≤ 0 → q_M_type (((45) : Int32)) (u8) (fun u10 => q_M_text_74 K12 (x1) (u10) post)) ∧ (¬ (r7) ≤ 0 → q_M_sumOf (x1) (u8) (fun r11 u12 => q_M_typeNumber (r11) (u12) (fun u14 => q_M_type (((32) : Int32)) (u14) (fun u16 => q_M_rankOf (x1) (u16) (fun r17 u18 => q_M_typeNumber ((r17).toInt64) (u18) (fun u20 => q_M_text_74 K12 (x1) (u20) post))))))))))))
set_option maxRecDepth 100000 in
theorem w_M_text_12 {p : Program} {l : Launch} {e : Env} {s : State} {m : MethodId} {args : Array Value} {below : List Frame} {meth : Method} {c : Code} {Z : ZT} {ad : Nat → Nat} {u0 : MT} {post : Int32 → MT → Prop} {K12 : Int32 → MT → Prop} (C : CX "CoderTablesModel" b_M_text 2 (some .int) Z (va_A (cM Z ad u0) s.heap.size) p l s m args meth c) (htab : ∀ x ∈ c.exceptionTable.toList, False) (hK12 : ∀ (x1 : Int32) (u : MT) (H : Heap) (locs : List Loc) (ls : Array Slot), K12 x1 u → WD Z (va_A (cM Z ad u0) s.heap.size) s (cM Z ad u) H locs → lv_has ls 2 [(0, .ref (ad 0)), (1, .int (x1))] → W p l e rm_M_text s m args below meth c H locs 0 0 (vx_MQ below (pQi Z (cM Z ad) (cM Z ad u0) s.heap.size post) (pX Z (cM Z ad) (cM Z ad u0) s.heap.size (fun _ _ => False)) args s 0 0 rm_M_text.cells rm_M_text.slots (va_A (cM Z ad u0) s.heap.size)) (F0 m 12 ls [])) (x1 : Int32) (u : MT) (H : Heap) (locs : List Loc) (ls : Array Slot) (hw : WD Z (va_A (cM Z ad u0) s.heap.size) s (cM Z ad u) H locs) (hl : lv_has ls 2 [(0, .ref (ad 0)), (1, .int (x1))]) (h : q_M_text_12 K12 x1 u post) : W p l e rm_M_text s m args below meth c H locs 0 0 (vx_MQ below (pQi Z (cM Z ad) (cM Z ad u0) s.heap.size post) (pX Z (cM Z ad) (cM Z ad u0) s.heap.size (fun _ _ => False)) args s 0 0 rm_M_text.cells rm_M_text.slots (va_A (cM Z ad u0) s.heap.size)) (F0 m 12 ls []) := by
  unfold q_M_text_12 at h
  refine lv_iload_n C.2.1 C.2.2.1 d_M_text_12 rfl (lv_at hl 1 rfl) ?_
  refine lv_aload_n C.2.1 C.2.2.1 d_M_text_13 rfl (lv_at hl 0 rfl) ?_
  refine r_M_40 C hw d_M_text_14 ?_
  refine lv_icmp_ge (tgt := 86) C.2.1 C.2.2.1 d_M_text_17 (by decide) (fun c => ?_) (fun c => ?_)
  · have h := h.1 c
    refine lv_aload_n C.2.1 C.2.2.1 d_M_text_86 rfl (lv_at hl 0 rfl) ?_
    refine r_M_150 C hw d_M_text_87 ?_
    exact g_iret C hw rfl h d_M_text_90
  · have h := h.2 c
    refine lv_aload_n C.2.1 C.2.2.1 d_M_text_20 rfl (lv_at hl 0 rfl) ?_
    refine lv_iload_n C.2.1 C.2.2.1 d_M_text_21 rfl (lv_at hl 1 rfl) ?_
    refine lv_i2l C.2.1 C.2.2.1 d_M_text_22 rfl ?_
    refine k_M_160 C hw h ⟨Nat.le_of_ble_eq_true rfl, Nat.le_of_ble_eq_true rfl, Nat.le_of_ble_eq_true rfl, Nat.le_of_ble_eq_true rfl⟩ hl.1 (Nat.le_of_ble_eq_true rfl) d_M_text_23 (fun u4 H locs h hw => ?_)
    refine lv_aload_n C.2.1 C.2.2.1 d_M_text_26 rfl (lv_at hl 0 rfl) ?_
    refine lv_bipush (v := (32)) C.2.1 C.2.2.1 d_M_text_27 (by decide) ?_
    refine k_M_157 C hw h ⟨Nat.le_of_ble_eq_true rfl, Nat.le_of_ble_eq_true rfl, Nat.le_of_ble_eq_true rfl, Nat.le_of_ble_eq_true rfl⟩ hl.1 (Nat.le_of_ble_eq_true rfl) d_M_text_29 (fun u6 H locs h hw => ?_)
    refine lv_aload_n C.2.1 C.2.2.1 d_M_text_32 rfl (lv_at hl 0 rfl) ?_
    refine lv_iload_n C.2.1 C.2.2.1 d_M_text_33 rfl (lv_at hl 1 rfl) ?_
    refine k_M_78 C hw h ⟨Nat.le_of_ble_eq_true rfl, Nat.le_of_ble_eq_true rfl, Nat.le_of_ble_eq_true rfl, Nat.le_of_ble_eq_true rfl⟩ hl.1 (Nat.le_of_ble_eq_true rfl) d_M_text_34 (fun r7 u8 H locs h hw => ?_)
    refine lv_if_le (tgt := 68) C.2.1 C.2.2.1 d_M_text_37 (by decide) (fun c => ?_) (fun c => ?_)
    · have h := h.1 c
      refine lv_aload_n C.2.1 C.2.2.1 d_M_text_68 rfl (lv_at hl 0 rfl) ?_
      refine lv_bipush (v := (45)) C.2.1 C.2.2.1 d_M_text_69 (by decide) ?_
      refine k_M_157 C hw h ⟨Nat.le_of_ble_eq_true rfl, Nat.le_of_ble_eq_true rfl, Nat.le_of_ble_eq_true rfl, Nat.le_of_ble_eq_true rfl⟩ hl.1 (Nat.le_of_ble_eq_true rfl) d_M_text_71 (fun u10 H locs h hw => ?_)
      exact w_M_text_74 C htab hK12 (x1) _ _ _ _ hw (lv_sub hl [0, 1] rfl) h
    · have h := h.2 c
      refine lv_aload_n C.2.1 C.2.2.1 d_M_text_40 rfl (lv_at hl 0 rfl) ?_
      refine lv_aload_n C.2.1 C.2.2.1 d_M_text_41 rfl (lv_at hl 0 rfl) ?_
      refine lv_iload_n C.2.1 C.2.2.1 d_M_text_42 rfl (lv_at hl 1 rfl) ?_
      refine k_M_83 C hw h ⟨Nat.le_of_ble_eq_true rfl, Nat.le_of_ble_eq_true rfl, Nat.le_of_ble_eq_true rfl, Nat.le_of_ble_eq_true rfl⟩ hl.1 (Nat.le_of_ble_eq_true rfl) d_M_text_43 (fun r11 u12 H locs h hw => ?_)
      refine k_M_160 C hw h ⟨Nat.le_of_ble_eq_true rfl, Nat.le_of_ble_eq_true rfl, Nat.le_of_ble_eq_true rfl, Nat.le_of_ble_eq_true rfl⟩ hl.1 (Nat.le_of_ble_eq_true rfl) d_M_text_46 (fun u14 H locs h hw => ?_)
      refine lv_aload_n C.2.1 C.2.2.1 d_M_text_49 rfl (lv_at hl 0 rfl) ?_
      refine lv_bipush (v := (32)) C.2.1 C.2.2.1 d_M_text_50 (by decide) ?_
      refine k_M_157 C hw h ⟨Nat.le_of_ble_eq_true rfl, Nat.le_of_ble_eq_true rfl, Nat.le_of_ble_eq_true rfl, Nat.le_of_ble_eq_true rfl⟩ hl.1 (Nat.le_of_ble_eq_true rfl) d_M_text_52 (fun u16 H locs h hw => ?_)
      refine lv_aload_n C.2.1 C.2.2.1 d_M_text_55 rfl (lv_at hl 0 rfl) ?_
      refine lv_aload_n C.2.1 C.2.2.1 d_M_text_56 rfl (lv_at hl 0 rfl) ?_
      refine lv_iload_n C.2.1 C.2.2.1 d_M_text_57 rfl (lv_at hl 1 rfl) ?_
      refine k_M_95 C hw h ⟨Nat.le_of_ble_eq_true rfl, Nat.le_of_ble_eq_true rfl, Nat.le_of_ble_eq_true rfl, Nat.le_of_ble_eq_true rfl⟩ hl.1 (Nat.le_of_ble_eq_true rfl) d_M_text_58 (fun r17 u18 H locs h hw => ?_)
      refine lv_i2l C.2.1 C.2.2.1 d_M_text_61 rfl ?_
      refine k_M_160 C hw h ⟨Nat.le_of_ble_eq_true rfl, Nat.le_of_ble_eq_true rfl, Nat.le_of_ble_eq_true rfl, Nat.le_of_ble_eq_true rfl⟩ hl.1 (Nat.le_of_ble_eq_true rfl) d_M_text_62 (fun u20 H locs h hw => ?_)
      refine lv_goto (tgt := 74) C.2.1 C.2.2.1 d_M_text_65 (by decide) ?_
      exact w_M_text_74 C htab hK12 (x1) _ _ _ _ hw (lv_sub hl [0, 1] rfl) h
def q_M_text_12N : Nat → Int32 → MT → (Int32 → MT → Prop) → Prop
  | 0 => fun _ _ _ => False
  | n + 1 => fun x1 u post => q_M_text_12 (fun x1 u => q_M_text_12N n x1 u post) x1 u post
theorem w_M_text_12N {p : Program} {l : Launch} {e : Env} {s : State} {m : MethodId} {args : Array Value} {below : List Frame} {meth : Method} {c : Code} {Z : ZT} {ad : Nat → Nat} {u0 : MT} {post : Int32 → MT → Prop} (C : CX "CoderTablesModel" b_M_text 2 (some .int) Z (va_A (cM Z ad u0) s.heap.size) p l s m args meth c) (htab : ∀ x ∈ c.exceptionTable.toList, False) : ∀ (n : Nat) (x1 : Int32) (u : MT) (H : Heap) (locs : List Loc) (ls : Array Slot), WD Z (va_A (cM Z ad u0) s.heap.size) s (cM Z ad u) H locs → lv_has ls 2 [(0, .ref (ad 0)), (1, .int (x1))] → q_M_text_12N n x1 u post → W p l e rm_M_text s m args below meth c H locs 0 0 (vx_MQ below (pQi Z (cM Z ad) (cM Z ad u0) s.heap.size post) (pX Z (cM Z ad) (cM Z ad u0) s.heap.size (fun _ _ => False)) args s 0 0 rm_M_text.cells rm_M_text.slots (va_A (cM Z ad u0) s.heap.size)) (F0 m 12 ls []) := by
  intro n
  induction n with
  | zero => intro x1 u H locs ls hw hl h; exact h.elim
  | succ n ih => intro x1 u H locs ls hw hl h; exact w_M_text_12 C htab (fun x1 u H locs ls h hw hl => ih x1 u H locs ls hw hl h) x1 u H locs ls hw hl h
def q_M_text (u : MT) (post : Int32 → MT → Prop) : Prop :=
  ∃ n, q_M_text_12N n (((0) : Int32)) (m_size_s (m_code_s (u) (((0) : Int32))) (((0) : Int32))) post
set_option maxRecDepth 100000 in
theorem c_M_text {l : Launch} {Z : ZT} {ad : Nat → Nat} {u : MT} {post : Int32 → MT → Prop} (hl0 : l.stackTraces = false) (h : q_M_text u post) : ∀ sz, vx_Met l y_M_text (Cond.code y_M_text b_M_text 2 (some .int) :: GW) rm_M_text (pP Z [.ref (ad 0)] (cM Z ad u) sz) (pQi Z (cM Z ad) (cM Z ad u) sz post) (pX Z (cM Z ad) (cM Z ad u) sz (fun _ _ => False)) 0 0 rm_M_text.cells rm_M_text.slots (va_A (cM Z ad u) sz) := by
  refine g_ent (f := cM Z ad) (Qc := fun sz => pQi Z (cM Z ad) (cM Z ad u) sz post) (XC := fun sz => pX Z (cM Z ad) (cM Z ad u) sz (fun _ _ => False)) hl0 (by decide +kernel) (Nat.le_of_ble_eq_true rfl) ?_
  intro p e s m args below meth c ls C htab hw hl
  have hl : lv_has ls 2 [(0, .ref (ad 0))] := hl
  unfold q_M_text at h
  refine lv_aload_n C.2.1 C.2.2.1 d_M_text_0 rfl (lv_at hl 0 rfl) ?_
  refine lv_iconst (v := (0)) C.2.1 C.2.2.1 d_M_text_1 (by decide) ?_
  refine s_M_36 C hw d_M_text_2 (fun H locs hw => ?_)
  refine lv_aload_n C.2.1 C.2.2.1 d_M_text_5 rfl (lv_at hl 0 rfl) ?_
  refine lv_iconst (v := (0)) C.2.1 C.2.2.1 d_M_text_6 (by decide) ?_
  refine s_M_150 C hw d_M_text_7 (fun H locs hw => ?_)
  refine lv_iconst (v := (0)) C.2.1 C.2.2.1 d_M_text_10 (by decide) ?_
  refine lv_istore_n (lv' := [(1, .int (((0) : Int32))), (0, .ref (ad 0))]) C.2.1 C.2.2.1 d_M_text_11 rfl hl (by decide) rfl (fun ls hl => ?_)
  obtain ⟨n, h⟩ := h
  exact w_M_text_12N C htab n (((0) : Int32)) _ _ _ _ hw (lv_sub hl [1, 0] rfl) h
/-! CoderTablesModel.charAt(I)I -/
abbrev rm_M_charAt : Room := { frames := 1, cells := 0, slots := 0, locals := 21 }
def q_M_charAt_18 (x1 : Int32) (z0 : Int32) (u : MT) (post : Int32 → MT → Prop) : Prop :=
  q_M_refuses (z0) (u) (fun r1 u2 => (((r1) = 0 → (vp_in (x1) 256 ∧ post (m_text (u2) (x1).toNatClampNeg) (u2))) ∧ (¬ (r1) = 0 → post (((0) : Int32)) (u2))))
set_option maxRecDepth 100000 in
theorem w_M_charAt_18 {p : Program} {l : Launch} {e : Env} {s : State} {m : MethodId} {args : Array Value} {below : List Frame} {meth : Method} {c : Code} {Z : ZT} {ad : Nat → Nat} {u0 : MT} {post : Int32 → MT → Prop} (C : CX "CoderTablesModel" b_M_charAt 2 (some .int) Z (va_A (cM Z ad u0) s.heap.size) p l s m args meth c) (htab : ∀ x ∈ c.exceptionTable.toList, False) (x1 : Int32) (z0 : Int32) (u : MT) (H : Heap) (locs : List Loc) (ls : Array Slot) (hw : WD Z (va_A (cM Z ad u0) s.heap.size) s (cM Z ad u) H locs) (hl : lv_has ls 2 [(0, .ref (ad 0)), (1, .int (x1))]) (h : q_M_charAt_18 x1 z0 u post) : W p l e rm_M_charAt s m args below meth c H locs 0 0 (vx_MQ below (pQi Z (cM Z ad) (cM Z ad u0) s.heap.size post) (pX Z (cM Z ad) (cM Z ad u0) s.heap.size (fun _ _ => False)) args s 0 0 rm_M_charAt.cells rm_M_charAt.slots (va_A (cM Z ad u0) s.heap.size)) (F0 m 18 ls [.int (z0), .ref (ad 0)]) := by
  unfold q_M_charAt_18 at h
  refine k_M_50 C hw h ⟨Nat.le_of_ble_eq_true rfl, Nat.le_of_ble_eq_true rfl, Nat.le_of_ble_eq_true rfl, Nat.le_of_ble_eq_true rfl⟩ hl.1 (Nat.le_of_ble_eq_true rfl) d_M_charAt_18 (fun r1 u2 H locs h hw => ?_)
  refine lv_if_eq (tgt := 26) C.2.1 C.2.2.1 d_M_charAt_21 (by decide) (fun c => ?_) (fun c => ?_)
  · have h := h.1 c
    refine lv_aload_n C.2.1 C.2.2.1 d_M_charAt_26 rfl (lv_at hl 0 rfl) ?_
    refine r_M_26 C hw d_M_charAt_27 ?_
    refine lv_iload_n C.2.1 C.2.2.1 d_M_charAt_30 rfl (lv_at hl 1 rfl) ?_
    obtain ⟨hi, h⟩ := h
    refine al_M_6 C hw hi d_M_charAt_31 ?_
    exact g_iret C hw rfl h d_M_charAt_32
  · have h := h.2 c
    refine lv_iconst (v := (0)) C.2.1 C.2.2.1 d_M_charAt_24 (by decide) ?_
    exact g_iret C hw rfl h d_M_charAt_25
def q_M_charAt_13 (x1 : Int32) (u : MT) (post : Int32 → MT → Prop) : Prop :=
  q_M_charAt_18 (x1) (((1) : Int32)) (u) post
set_option maxRecDepth 100000 in
theorem w_M_charAt_13 {p : Program} {l : Launch} {e : Env} {s : State} {m : MethodId} {args : Array Value} {below : List Frame} {meth : Method} {c : Code} {Z : ZT} {ad : Nat → Nat} {u0 : MT} {post : Int32 → MT → Prop} (C : CX "CoderTablesModel" b_M_charAt 2 (some .int) Z (va_A (cM Z ad u0) s.heap.size) p l s m args meth c) (htab : ∀ x ∈ c.exceptionTable.toList, False) (x1 : Int32) (u : MT) (H : Heap) (locs : List Loc) (ls : Array Slot) (hw : WD Z (va_A (cM Z ad u0) s.heap.size) s (cM Z ad u) H locs) (hl : lv_has ls 2 [(0, .ref (ad 0)), (1, .int (x1))]) (h : q_M_charAt_13 x1 u post) : W p l e rm_M_charAt s m args below meth c H locs 0 0 (vx_MQ below (pQi Z (cM Z ad) (cM Z ad u0) s.heap.size post) (pX Z (cM Z ad) (cM Z ad u0) s.heap.size (fun _ _ => False)) args s 0 0 rm_M_charAt.cells rm_M_charAt.slots (va_A (cM Z ad u0) s.heap.size)) (F0 m 13 ls [.ref (ad 0)]) := by
  unfold q_M_charAt_13 at h
  refine lv_iconst (v := (1)) C.2.1 C.2.2.1 d_M_charAt_13 (by decide) ?_
  refine lv_goto (tgt := 18) C.2.1 C.2.2.1 d_M_charAt_14 (by decide) ?_
  exact w_M_charAt_18 C htab (x1) (((1) : Int32)) _ _ _ _ hw (lv_sub hl [0, 1] rfl) h
def q_M_charAt (p1 : Int32) (u : MT) (post : Int32 → MT → Prop) : Prop :=
  (((p1) < 0 → q_M_charAt_13 (p1) (u) post) ∧ (¬ (p1) < 0 → (((p1) < (m_size (u)) → q_M_charAt_18 (p1) (((0) : Int32)) (u) post) ∧ (¬ (p1) < (m_size (u)) → q_M_charAt_13 (p1) (u) post))))
set_option maxRecDepth 100000 in
theorem c_M_charAt {l : Launch} {Z : ZT} {ad : Nat → Nat} {u : MT} {post : Int32 → MT → Prop} {p1 : Int32} (hl0 : l.stackTraces = false) (h : q_M_charAt p1 u post) : ∀ sz, vx_Met l y_M_charAt (Cond.code y_M_charAt b_M_charAt 2 (some .int) :: GW) rm_M_charAt (pP Z [.ref (ad 0), .int (p1)] (cM Z ad u) sz) (pQi Z (cM Z ad) (cM Z ad u) sz post) (pX Z (cM Z ad) (cM Z ad u) sz (fun _ _ => False)) 0 0 rm_M_charAt.cells rm_M_charAt.slots (va_A (cM Z ad u) sz) := by
  refine g_ent (f := cM Z ad) (Qc := fun sz => pQi Z (cM Z ad) (cM Z ad u) sz post) (XC := fun sz => pX Z (cM Z ad) (cM Z ad u) sz (fun _ _ => False)) hl0 (by decide +kernel) (Nat.le_of_ble_eq_true rfl) ?_
  intro p e s m args below meth c ls C htab hw hl
  have hl : lv_has ls 2 [(0, .ref (ad 0)), (1, .int (p1))] := hl
  unfold q_M_charAt at h
  refine lv_aload_n C.2.1 C.2.2.1 d_M_charAt_0 rfl (lv_at hl 0 rfl) ?_
  refine lv_iload_n C.2.1 C.2.2.1 d_M_charAt_1 rfl (lv_at hl 1 rfl) ?_
  refine lv_if_lt (tgt := 13) C.2.1 C.2.2.1 d_M_charAt_2 (by decide) (fun c => ?_) (fun c => ?_)
  · have h := h.1 c
    exact w_M_charAt_13 C htab (p1) _ _ _ _ hw (lv_sub hl [0, 1] rfl) h
  · have h := h.2 c
    refine lv_iload_n C.2.1 C.2.2.1 d_M_charAt_5 rfl (lv_at hl 1 rfl) ?_
    refine lv_aload_n C.2.1 C.2.2.1 d_M_charAt_6 rfl (lv_at hl 0 rfl) ?_
    refine r_M_150 C hw d_M_charAt_7 ?_
    refine lv_icmp_lt (tgt := 17) C.2.1 C.2.2.1 d_M_charAt_10 (by decide) (fun c => ?_) (fun c => ?_)
    · have h := h.1 c
      refine lv_iconst (v := (0)) C.2.1 C.2.2.1 d_M_charAt_17 (by decide) ?_
      exact w_M_charAt_18 C htab (p1) (((0) : Int32)) _ _ _ _ hw (lv_sub hl [0, 1] rfl) h
    · have h := h.2 c
      exact w_M_charAt_13 C htab (p1) _ _ _ _ hw (lv_sub hl [0, 1] rfl) h
/-! CoderTablesModel.told(I)I -/
abbrev rm_M_told : Room := { frames := 1, cells := 0, slots := 0, locals := 23 }
def q_M_told_9 (K9 : Int32 → Int32 → Int32 → MT → Prop) (x1 : Int32) (x2 : Int32) (x3 : Int32) (u : MT) (post : Int32 → MT → Prop) : Prop :=
  (((m_coders (u)) ≤ (x3) → ((¬ (x1) = 0 → ((¬ (x1) = (((1) : Int32)) → ((¬ (x1) = (((2) : Int32)) → ((¬ (x1) = (((3) : Int32)) → post (((-1) : Int32)) (u)) ∧ ((x1) = (((3) : Int32)) → post (x2) (u)))) ∧ ((x1) = (((2) : Int32)) → q_M_points  (u) (fun r1 u2 => post (r1) (u2))))) ∧ ((x1) = (((1) : Int32)) → post (m_pictures (u)) (u)))) ∧ ((x1) = 0 → post (m_coders (u)) (u)))) ∧ (¬ (m_coders (u)) ≤ (x3) → q_M_countedOf (x3) (u) (fun r3 u4 => K9 (x1) ((x2) + (r3)) ((x3) + 1) (u4))))
set_option maxRecDepth 100000 in
theorem w_M_told_9 {p : Program} {l : Launch} {e : Env} {s : State} {m : MethodId} {args : Array Value} {below : List Frame} {meth : Method} {c : Code} {Z : ZT} {ad : Nat → Nat} {u0 : MT} {post : Int32 → MT → Prop} {K9 : Int32 → Int32 → Int32 → MT → Prop} (C : CX "CoderTablesModel" b_M_told 4 (some .int) Z (va_A (cM Z ad u0) s.heap.size) p l s m args meth c) (htab : ∀ x ∈ c.exceptionTable.toList, False) (hK9 : ∀ (x1 : Int32) (x2 : Int32) (x3 : Int32) (u : MT) (H : Heap) (locs : List Loc) (ls : Array Slot), K9 x1 x2 x3 u → WD Z (va_A (cM Z ad u0) s.heap.size) s (cM Z ad u) H locs → lv_has ls 4 [(0, .ref (ad 0)), (1, .int (x1)), (2, .int (x2)), (3, .int (x3))] → W p l e rm_M_told s m args below meth c H locs 0 0 (vx_MQ below (pQi Z (cM Z ad) (cM Z ad u0) s.heap.size post) (pX Z (cM Z ad) (cM Z ad u0) s.heap.size (fun _ _ => False)) args s 0 0 rm_M_told.cells rm_M_told.slots (va_A (cM Z ad u0) s.heap.size)) (F0 m 9 ls [])) (x1 : Int32) (x2 : Int32) (x3 : Int32) (u : MT) (H : Heap) (locs : List Loc) (ls : Array Slot) (hw : WD Z (va_A (cM Z ad u0) s.heap.size) s (cM Z ad u) H locs) (hl : lv_has ls 4 [(0, .ref (ad 0)), (1, .int (x1)), (2, .int (x2)), (3, .int (x3))]) (h : q_M_told_9 K9 x1 x2 x3 u post) : W p l e rm_M_told s m args below meth c H locs 0 0 (vx_MQ below (pQi Z (cM Z ad) (cM Z ad u0) s.heap.size post) (pX Z (cM Z ad) (cM Z ad u0) s.heap.size (fun _ _ => False)) args s 0 0 rm_M_told.cells rm_M_told.slots (va_A (cM Z ad u0) s.heap.size)) (F0 m 9 ls []) := by
  unfold q_M_told_9 at h
  refine lv_iload_n C.2.1 C.2.2.1 d_M_told_9 rfl (lv_at hl 3 rfl) ?_
  refine lv_aload_n C.2.1 C.2.2.1 d_M_told_10 rfl (lv_at hl 0 rfl) ?_
  refine r_M_40 C hw d_M_told_11 ?_
  refine lv_icmp_ge (tgt := 31) C.2.1 C.2.2.1 d_M_told_14 (by decide) (fun c => ?_) (fun c => ?_)
  · have h := h.1 c
    refine lv_iload_n C.2.1 C.2.2.1 d_M_told_31 rfl (lv_at hl 1 rfl) ?_
    refine lv_if_ne (tgt := 42) C.2.1 C.2.2.1 d_M_told_32 (by decide) (fun c => ?_) (fun c => ?_)
    · have h := h.1 c
      refine lv_iload_n C.2.1 C.2.2.1 d_M_told_42 rfl (lv_at hl 1 rfl) ?_
      refine lv_iconst (v := (1)) C.2.1 C.2.2.1 d_M_told_43 (by decide) ?_
      refine lv_icmp_ne (tgt := 54) C.2.1 C.2.2.1 d_M_told_44 (by decide) (fun c => ?_) (fun c => ?_)
      · have h := h.1 c
        refine lv_iload_n C.2.1 C.2.2.1 d_M_told_54 rfl (lv_at hl 1 rfl) ?_
        refine lv_iconst (v := (2)) C.2.1 C.2.2.1 d_M_told_55 (by decide) ?_
        refine lv_icmp_ne (tgt := 66) C.2.1 C.2.2.1 d_M_told_56 (by decide) (fun c => ?_) (fun c => ?_)
        · have h := h.1 c
          refine lv_iload_n C.2.1 C.2.2.1 d_M_told_66 rfl (lv_at hl 1 rfl) ?_
          refine lv_iconst (v := (3)) C.2.1 C.2.2.1 d_M_told_67 (by decide) ?_
          refine lv_icmp_ne (tgt := 75) C.2.1 C.2.2.1 d_M_told_68 (by decide) (fun c => ?_) (fun c => ?_)
          · have h := h.1 c
            refine lv_iconst (v := (-1)) C.2.1 C.2.2.1 d_M_told_75 (by decide) ?_
            exact g_iret C hw rfl h d_M_told_76
          · have h := h.2 c
            refine lv_iload_n C.2.1 C.2.2.1 d_M_told_71 rfl (lv_at hl 2 rfl) ?_
            refine lv_goto (tgt := 76) C.2.1 C.2.2.1 d_M_told_72 (by decide) ?_
            exact g_iret C hw rfl h d_M_told_76
        · have h := h.2 c
          refine lv_aload_n C.2.1 C.2.2.1 d_M_told_59 rfl (lv_at hl 0 rfl) ?_
          refine k_M_146 C hw h ⟨Nat.le_of_ble_eq_true rfl, Nat.le_of_ble_eq_true rfl, Nat.le_of_ble_eq_true rfl, Nat.le_of_ble_eq_true rfl⟩ hl.1 (Nat.le_of_ble_eq_true rfl) d_M_told_60 (fun r1 u2 H locs h hw => ?_)
          refine lv_goto (tgt := 76) C.2.1 C.2.2.1 d_M_told_63 (by decide) ?_
          exact g_iret C hw rfl h d_M_told_76
      · have h := h.2 c
        refine lv_aload_n C.2.1 C.2.2.1 d_M_told_47 rfl (lv_at hl 0 rfl) ?_
        refine r_M_47 C hw d_M_told_48 ?_
        refine lv_goto (tgt := 76) C.2.1 C.2.2.1 d_M_told_51 (by decide) ?_
        exact g_iret C hw rfl h d_M_told_76
    · have h := h.2 c
      refine lv_aload_n C.2.1 C.2.2.1 d_M_told_35 rfl (lv_at hl 0 rfl) ?_
      refine r_M_40 C hw d_M_told_36 ?_
      refine lv_goto (tgt := 76) C.2.1 C.2.2.1 d_M_told_39 (by decide) ?_
      exact g_iret C hw rfl h d_M_told_76
  · have h := h.2 c
    refine lv_iload_n C.2.1 C.2.2.1 d_M_told_17 rfl (lv_at hl 2 rfl) ?_
    refine lv_aload_n C.2.1 C.2.2.1 d_M_told_18 rfl (lv_at hl 0 rfl) ?_
    refine lv_iload_n C.2.1 C.2.2.1 d_M_told_19 rfl (lv_at hl 3 rfl) ?_
    refine k_M_78 C hw h ⟨Nat.le_of_ble_eq_true rfl, Nat.le_of_ble_eq_true rfl, Nat.le_of_ble_eq_true rfl, Nat.le_of_ble_eq_true rfl⟩ hl.1 (Nat.le_of_ble_eq_true rfl) d_M_told_20 (fun r3 u4 H locs h hw => ?_)
    refine lv_iadd C.2.1 C.2.2.1 d_M_told_23 ?_
    refine lv_istore_n (lv' := [(2, .int ((x2) + (r3))), (0, .ref (ad 0)), (1, .int (x1)), (3, .int (x3))]) C.2.1 C.2.2.1 d_M_told_24 rfl hl (by decide) rfl (fun ls hl => ?_)
    refine lv_iinc (v := (x3) + 1) (lv' := [(3, .int ((x3) + 1)), (2, .int ((x2) + (r3))), (0, .ref (ad 0)), (1, .int (x1))]) C.2.1 C.2.2.1 d_M_told_25 hl (k := 3) rfl rfl (by decide) rfl (fun ls hl => ?_)
    refine lv_goto (tgt := 9) C.2.1 C.2.2.1 d_M_told_28 (by decide) ?_
    exact hK9 (x1) ((x2) + (r3)) ((x3) + 1) _ _ _ _ h hw (lv_sub hl [2, 3, 1, 0] rfl)
def q_M_told_9N : Nat → Int32 → Int32 → Int32 → MT → (Int32 → MT → Prop) → Prop
  | 0 => fun _ _ _ _ _ => False
  | n + 1 => fun x1 x2 x3 u post => q_M_told_9 (fun x1 x2 x3 u => q_M_told_9N n x1 x2 x3 u post) x1 x2 x3 u post
theorem w_M_told_9N {p : Program} {l : Launch} {e : Env} {s : State} {m : MethodId} {args : Array Value} {below : List Frame} {meth : Method} {c : Code} {Z : ZT} {ad : Nat → Nat} {u0 : MT} {post : Int32 → MT → Prop} (C : CX "CoderTablesModel" b_M_told 4 (some .int) Z (va_A (cM Z ad u0) s.heap.size) p l s m args meth c) (htab : ∀ x ∈ c.exceptionTable.toList, False) : ∀ (n : Nat) (x1 : Int32) (x2 : Int32) (x3 : Int32) (u : MT) (H : Heap) (locs : List Loc) (ls : Array Slot), WD Z (va_A (cM Z ad u0) s.heap.size) s (cM Z ad u) H locs → lv_has ls 4 [(0, .ref (ad 0)), (1, .int (x1)), (2, .int (x2)), (3, .int (x3))] → q_M_told_9N n x1 x2 x3 u post → W p l e rm_M_told s m args below meth c H locs 0 0 (vx_MQ below (pQi Z (cM Z ad) (cM Z ad u0) s.heap.size post) (pX Z (cM Z ad) (cM Z ad u0) s.heap.size (fun _ _ => False)) args s 0 0 rm_M_told.cells rm_M_told.slots (va_A (cM Z ad u0) s.heap.size)) (F0 m 9 ls []) := by
  intro n
  induction n with
  | zero => intro x1 x2 x3 u H locs ls hw hl h; exact h.elim
  | succ n ih => intro x1 x2 x3 u H locs ls hw hl h; exact w_M_told_9 C htab (fun x1 x2 x3 u H locs ls h hw hl => ih x1 x2 x3 u H locs ls hw hl h) x1 x2 x3 u H locs ls hw hl h
def q_M_told (p1 : Int32) (u : MT) (post : Int32 → MT → Prop) : Prop :=
  ∃ n, q_M_told_9N n (p1) (((0) : Int32)) (((0) : Int32)) (m_code_s (u) (((0) : Int32))) post
set_option maxRecDepth 100000 in
theorem c_M_told {l : Launch} {Z : ZT} {ad : Nat → Nat} {u : MT} {post : Int32 → MT → Prop} {p1 : Int32} (hl0 : l.stackTraces = false) (h : q_M_told p1 u post) : ∀ sz, vx_Met l y_M_told (Cond.code y_M_told b_M_told 4 (some .int) :: GW) rm_M_told (pP Z [.ref (ad 0), .int (p1)] (cM Z ad u) sz) (pQi Z (cM Z ad) (cM Z ad u) sz post) (pX Z (cM Z ad) (cM Z ad u) sz (fun _ _ => False)) 0 0 rm_M_told.cells rm_M_told.slots (va_A (cM Z ad u) sz) := by
  refine g_ent (f := cM Z ad) (Qc := fun sz => pQi Z (cM Z ad) (cM Z ad u) sz post) (XC := fun sz => pX Z (cM Z ad) (cM Z ad u) sz (fun _ _ => False)) hl0 (by decide +kernel) (Nat.le_of_ble_eq_true rfl) ?_
  intro p e s m args below meth c ls C htab hw hl
  have hl : lv_has ls 4 [(0, .ref (ad 0)), (1, .int (p1))] := hl
  unfold q_M_told at h
  refine lv_aload_n C.2.1 C.2.2.1 d_M_told_0 rfl (lv_at hl 0 rfl) ?_
  refine lv_iconst (v := (0)) C.2.1 C.2.2.1 d_M_told_1 (by decide) ?_
  refine s_M_36 C hw d_M_told_2 (fun H locs hw => ?_)
  refine lv_iconst (v := (0)) C.2.1 C.2.2.1 d_M_told_5 (by decide) ?_
  refine lv_istore_n (lv' := [(2, .int (((0) : Int32))), (0, .ref (ad 0)), (1, .int (p1))]) C.2.1 C.2.2.1 d_M_told_6 rfl hl (by decide) rfl (fun ls hl => ?_)
  refine lv_iconst (v := (0)) C.2.1 C.2.2.1 d_M_told_7 (by decide) ?_
  refine lv_istore_n (lv' := [(3, .int (((0) : Int32))), (2, .int (((0) : Int32))), (0, .ref (ad 0)), (1, .int (p1))]) C.2.1 C.2.2.1 d_M_told_8 rfl hl (by decide) rfl (fun ls hl => ?_)
  obtain ⟨n, h⟩ := h
  exact w_M_told_9N C htab n (p1) (((0) : Int32)) (((0) : Int32)) _ _ _ _ hw (lv_sub hl [2, 3, 1, 0] rfl) h
/-! CoderTablesModel.clear()V -/
abbrev rm_M_clear : Room := { frames := 0, cells := 0, slots := 0, locals := 0 }
def q_M_clear_27 (K27 : Int32 → MT → Prop) (x1 : Int32) (u : MT) (post : MT → Prop) : Prop :=
  (((((192) : Int32)) ≤ (x1) → post (u)) ∧ (¬ (((192) : Int32)) ≤ (x1) → (vp_in (x1) 192 ∧ (vp_in (x1) 192 ∧ K27 ((x1) + 1) (m_hasFailed_s (m_count_s (u) (upd (m_count (u)) (x1).toNatClampNeg (((0) : Int32)))) (upd (m_hasFailed (m_count_s (u) (upd (m_count (u)) (x1).toNatClampNeg (((0) : Int32))))) (x1).toNatClampNeg (vp_nar .boolean (((0) : Int32)))))))))
set_option maxRecDepth 100000 in
theorem w_M_clear_27 {p : Program} {l : Launch} {e : Env} {s : State} {m : MethodId} {args : Array Value} {below : List Frame} {meth : Method} {c : Code} {Z : ZT} {ad : Nat → Nat} {u0 : MT} {post : MT → Prop} {K27 : Int32 → MT → Prop} (C : CX "CoderTablesModel" b_M_clear 2 none Z (va_A (cM Z ad u0) s.heap.size) p l s m args meth c) (htab : ∀ x ∈ c.exceptionTable.toList, False) (hK27 : ∀ (x1 : Int32) (u : MT) (H : Heap) (locs : List Loc) (ls : Array Slot), K27 x1 u → WD Z (va_A (cM Z ad u0) s.heap.size) s (cM Z ad u) H locs → lv_has ls 2 [(0, .ref (ad 0)), (1, .int (x1))] → W p l e rm_M_clear s m args below meth c H locs 0 0 (vx_MQ below (pQv Z (cM Z ad) (cM Z ad u0) s.heap.size post) (pX Z (cM Z ad) (cM Z ad u0) s.heap.size (fun _ _ => False)) args s 0 0 rm_M_clear.cells rm_M_clear.slots (va_A (cM Z ad u0) s.heap.size)) (F0 m 27 ls [])) (x1 : Int32) (u : MT) (H : Heap) (locs : List Loc) (ls : Array Slot) (hw : WD Z (va_A (cM Z ad u0) s.heap.size) s (cM Z ad u) H locs) (hl : lv_has ls 2 [(0, .ref (ad 0)), (1, .int (x1))]) (h : q_M_clear_27 K27 x1 u post) : W p l e rm_M_clear s m args below meth c H locs 0 0 (vx_MQ below (pQv Z (cM Z ad) (cM Z ad u0) s.heap.size post) (pX Z (cM Z ad) (cM Z ad u0) s.heap.size (fun _ _ => False)) args s 0 0 rm_M_clear.cells rm_M_clear.slots (va_A (cM Z ad u0) s.heap.size)) (F0 m 27 ls []) := by
  unfold q_M_clear_27 at h
  refine lv_iload_n C.2.1 C.2.2.1 d_M_clear_27 rfl (lv_at hl 1 rfl) ?_
  refine lv_sipush (v := (192)) C.2.1 C.2.2.1 d_M_clear_28 (by decide) ?_
  refine lv_icmp_ge (tgt := 54) C.2.1 C.2.2.1 d_M_clear_31 (by decide) (fun c => ?_) (fun c => ?_)
  · have h := h.1 c
    exact g_vret C hw h d_M_clear_54
  · have h := h.2 c
    refine lv_aload_n C.2.1 C.2.2.1 d_M_clear_34 rfl (lv_at hl 0 rfl) ?_
    refine r_M_7 C hw d_M_clear_35 ?_
    refine lv_iload_n C.2.1 C.2.2.1 d_M_clear_38 rfl (lv_at hl 1 rfl) ?_
    refine lv_iconst (v := (0)) C.2.1 C.2.2.1 d_M_clear_39 (by decide) ?_
    obtain ⟨hi, h⟩ := h
    refine as_M_1 C hw hi d_M_clear_40 (fun H locs hw => ?_)
    refine lv_aload_n C.2.1 C.2.2.1 d_M_clear_41 rfl (lv_at hl 0 rfl) ?_
    refine r_M_13 C hw d_M_clear_42 ?_
    refine lv_iload_n C.2.1 C.2.2.1 d_M_clear_45 rfl (lv_at hl 1 rfl) ?_
    refine lv_iconst (v := (0)) C.2.1 C.2.2.1 d_M_clear_46 (by decide) ?_
    obtain ⟨hi, h⟩ := h
    refine as_M_2 C hw hi d_M_clear_47 (fun H locs hw => ?_)
    refine lv_iinc (v := (x1) + 1) (lv' := [(1, .int ((x1) + 1)), (0, .ref (ad 0))]) C.2.1 C.2.2.1 d_M_clear_48 hl (k := 1) rfl rfl (by decide) rfl (fun ls hl => ?_)
    refine lv_goto (tgt := 27) C.2.1 C.2.2.1 d_M_clear_51 (by decide) ?_
    exact hK27 ((x1) + 1) _ _ _ _ h hw (lv_sub hl [1, 0] rfl)
def q_M_clear_27N : Nat → Int32 → MT → (MT → Prop) → Prop
  | 0 => fun _ _ _ => False
  | n + 1 => fun x1 u post => q_M_clear_27 (fun x1 u => q_M_clear_27N n x1 u post) x1 u post
theorem w_M_clear_27N {p : Program} {l : Launch} {e : Env} {s : State} {m : MethodId} {args : Array Value} {below : List Frame} {meth : Method} {c : Code} {Z : ZT} {ad : Nat → Nat} {u0 : MT} {post : MT → Prop} (C : CX "CoderTablesModel" b_M_clear 2 none Z (va_A (cM Z ad u0) s.heap.size) p l s m args meth c) (htab : ∀ x ∈ c.exceptionTable.toList, False) : ∀ (n : Nat) (x1 : Int32) (u : MT) (H : Heap) (locs : List Loc) (ls : Array Slot), WD Z (va_A (cM Z ad u0) s.heap.size) s (cM Z ad u) H locs → lv_has ls 2 [(0, .ref (ad 0)), (1, .int (x1))] → q_M_clear_27N n x1 u post → W p l e rm_M_clear s m args below meth c H locs 0 0 (vx_MQ below (pQv Z (cM Z ad) (cM Z ad u0) s.heap.size post) (pX Z (cM Z ad) (cM Z ad u0) s.heap.size (fun _ _ => False)) args s 0 0 rm_M_clear.cells rm_M_clear.slots (va_A (cM Z ad u0) s.heap.size)) (F0 m 27 ls []) := by
  intro n
  induction n with
  | zero => intro x1 u H locs ls hw hl h; exact h.elim
  | succ n ih => intro x1 u H locs ls hw hl h; exact w_M_clear_27 C htab (fun x1 u H locs ls h hw hl => ih x1 u H locs ls hw hl h) x1 u H locs ls hw hl h
def q_M_clear (u : MT) (post : MT → Prop) : Prop :=
  ∃ n, q_M_clear_27N n (((0) : Int32)) (m_size_s (m_failures_s (m_pictures_s (m_coders_s (m_code_s (u) (((0) : Int32))) (((0) : Int32))) (((0) : Int32))) (((0) : Int32))) (((0) : Int32))) post
set_option maxRecDepth 100000 in
theorem c_M_clear {l : Launch} {Z : ZT} {ad : Nat → Nat} {u : MT} {post : MT → Prop} (hl0 : l.stackTraces = false) (h : q_M_clear u post) : ∀ sz, vx_Met l y_M_clear (Cond.code y_M_clear b_M_clear 2 none :: GW) rm_M_clear (pP Z [.ref (ad 0)] (cM Z ad u) sz) (pQv Z (cM Z ad) (cM Z ad u) sz post) (pX Z (cM Z ad) (cM Z ad u) sz (fun _ _ => False)) 0 0 rm_M_clear.cells rm_M_clear.slots (va_A (cM Z ad u) sz) := by
  refine g_ent (f := cM Z ad) (Qc := fun sz => pQv Z (cM Z ad) (cM Z ad u) sz post) (XC := fun sz => pX Z (cM Z ad) (cM Z ad u) sz (fun _ _ => False)) hl0 (by decide +kernel) (Nat.le_of_ble_eq_true rfl) ?_
  intro p e s m args below meth c ls C htab hw hl
  have hl : lv_has ls 2 [(0, .ref (ad 0))] := hl
  unfold q_M_clear at h
  refine lv_aload_n C.2.1 C.2.2.1 d_M_clear_0 rfl (lv_at hl 0 rfl) ?_
  refine lv_iconst (v := (0)) C.2.1 C.2.2.1 d_M_clear_1 (by decide) ?_
  refine s_M_36 C hw d_M_clear_2 (fun H locs hw => ?_)
  refine lv_aload_n C.2.1 C.2.2.1 d_M_clear_5 rfl (lv_at hl 0 rfl) ?_
  refine lv_iconst (v := (0)) C.2.1 C.2.2.1 d_M_clear_6 (by decide) ?_
  refine s_M_40 C hw d_M_clear_7 (fun H locs hw => ?_)
  refine lv_aload_n C.2.1 C.2.2.1 d_M_clear_10 rfl (lv_at hl 0 rfl) ?_
  refine lv_iconst (v := (0)) C.2.1 C.2.2.1 d_M_clear_11 (by decide) ?_
  refine s_M_47 C hw d_M_clear_12 (fun H locs hw => ?_)
  refine lv_aload_n C.2.1 C.2.2.1 d_M_clear_15 rfl (lv_at hl 0 rfl) ?_
  refine lv_iconst (v := (0)) C.2.1 C.2.2.1 d_M_clear_16 (by decide) ?_
  refine s_M_67 C hw d_M_clear_17 (fun H locs hw => ?_)
  refine lv_aload_n C.2.1 C.2.2.1 d_M_clear_20 rfl (lv_at hl 0 rfl) ?_
  refine lv_iconst (v := (0)) C.2.1 C.2.2.1 d_M_clear_21 (by decide) ?_
  refine s_M_150 C hw d_M_clear_22 (fun H locs hw => ?_)
  refine lv_iconst (v := (0)) C.2.1 C.2.2.1 d_M_clear_25 (by decide) ?_
  refine lv_istore_n (lv' := [(1, .int (((0) : Int32))), (0, .ref (ad 0))]) C.2.1 C.2.2.1 d_M_clear_26 rfl hl (by decide) rfl (fun ls hl => ?_)
  obtain ⟨n, h⟩ := h
  exact w_M_clear_27N C htab n (((0) : Int32)) _ _ _ _ hw (lv_sub hl [1, 0] rfl) h
