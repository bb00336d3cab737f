/-! CoderTables$Lines.put(C)V -/
abbrev rm_L_put : Room := { frames := 0, cells := 0, slots := 0, locals := 0 }
def q_L_put (p1 : Int32) (u : CT) (post : CT → Prop) : Prop :=
  ((((136 : Int32)) ≤ (x_length (u)) → post (u)) ∧ (¬ ((136 : Int32)) ≤ (x_length (u)) → (vp_in (x_length (u)) 136 ∧ post (x_length_s (x_chars_s (u) (upd (x_chars (u)) (x_length (u)).toNatClampNeg (vp_nar .char (p1)))) ((x_length (x_chars_s (u) (upd (x_chars (u)) (x_length (u)).toNatClampNeg (vp_nar .char (p1))))) + (((1) : Int32)))))))
set_option maxRecDepth 100000 in
theorem c_L_put {l : Launch} {Z : ZT} {ad : Nat → Nat} {u : CT} {post : CT → Prop} {p1 : Int32} (hl0 : l.stackTraces = false) (h : q_L_put p1 u post) : ∀ sz, vx_Met l y_L_put (Cond.code y_L_put b_L_put 2 none :: GW) rm_L_put (pP Z [.ref (ad 9), .int (p1)] (cX Z ad u) sz) (pQv Z (cX Z ad) (cX Z ad u) sz post) (pX Z (cX Z ad) (cX Z ad u) sz (fun _ _ => False)) 0 0 rm_L_put.cells rm_L_put.slots (va_A (cX Z ad u) sz) := by
  refine g_ent (f := cX Z ad) (Qc := fun sz => pQv Z (cX Z ad) (cX Z ad u) sz post) (XC := fun sz => pX Z (cX Z ad) (cX Z ad u) sz (fun _ _ => False)) hl0 (by decide +kernel) (Nat.le_of_ble_eq_true rfl) ?_
  intro p e s m args below meth c ls C htab hw hl
  have hl : lv_has ls 2 [(0, .ref (ad 9)), (1, .int (p1))] := hl
  unfold q_L_put at h
  refine lv_aload_n C.2.1 C.2.2.1 d_L_put_0 rfl (lv_at hl 0 rfl) ?_
  refine r_L_15 C hw d_L_put_1 ?_
  refine lv_aload_n C.2.1 C.2.2.1 d_L_put_4 rfl (lv_at hl 0 rfl) ?_
  refine r_L_11 C hw d_L_put_5 ?_
  refine an_X_10 C hw d_L_put_8 ?_
  refine lv_icmp_ge (tgt := 32) C.2.1 C.2.2.1 d_L_put_9 (by decide) (fun c => ?_) (fun c => ?_)
  · have h := h.1 c
    exact g_vret C hw h d_L_put_32
  · have h := h.2 c
    refine lv_aload_n C.2.1 C.2.2.1 d_L_put_12 rfl (lv_at hl 0 rfl) ?_
    refine r_L_11 C hw d_L_put_13 ?_
    refine lv_aload_n C.2.1 C.2.2.1 d_L_put_16 rfl (lv_at hl 0 rfl) ?_
    refine r_L_15 C hw d_L_put_17 ?_
    refine lv_iload_n C.2.1 C.2.2.1 d_L_put_20 rfl (lv_at hl 1 rfl) ?_
    obtain ⟨hi, h⟩ := h
    refine as_X_10 C hw hi d_L_put_21 (fun H locs hw => ?_)
    refine lv_aload_n C.2.1 C.2.2.1 d_L_put_22 rfl (lv_at hl 0 rfl) ?_
    refine lv_dup C.2.1 C.2.2.1 d_L_put_23 rfl ?_
    refine r_L_15 C hw d_L_put_24 ?_
    refine lv_iconst (v := (1)) C.2.1 C.2.2.1 d_L_put_27 (by decide) ?_
    refine lv_iadd C.2.1 C.2.2.1 d_L_put_28 ?_
    refine s_L_15 C hw d_L_put_29 (fun H locs hw => ?_)
    exact g_vret C hw h d_L_put_32
section KR
variable {own host : String} {cc bytes : ByteArray} {nL maxL index n : Nat} {rt0 rt : Option FieldType} {Z : ZT} {ad : Nat → Nat} {A : Nat → Prop}
variable {p : Program} {l : Launch} {e : Env} {R : Room} {s : State} {m : MethodId} {args : Array Value} {below : List Frame} {meth : Method} {c : Code} {H : Heap} {locs : List Loc} {cells slots : Nat} {Q : State → Prop} {rest : List Value} {pc : Nat} {ls : Array Slot}
theorem k_L_23 {u : CT} {p1 : Int32} {post : CT → Prop} (C : CX "CoderTables$Lines" cc nL rt0 Z A p l s m args meth c) (hw : WD Z A s (cX Z ad u) H locs) (h : q_L_put p1 u post) (hR : rmOk rm_L_put 2 R cells slots) (hl : ls.size = nL) (hW : (rest.map fun v => v.category).sum ≤ 8) (hdg : decode cc pc = .ok (.invokevirtual 23, 3)) (kk : ∀ (u' : CT) (H1 : Heap) (locs1 : List Loc), post u' → WD Z A s (cX Z ad u') H1 locs1 → W p l e R s m args below meth c H1 locs1 cells slots Q (F0 m (pc + 3) ls (rest))) : W p l e R s m args below meth c H locs cells slots Q (F0 m pc ls (.int (p1) :: .ref (ad 9) :: rest)) :=
  g_V0_v (n := 1) (f := cX Z ad) (As := [.int (p1)]) C hw (c_L_put C.1 h) ⟨w192, w194, w8, w55, w195, (by decide +kernel), (by decide +kernel), (by decide +kernel)⟩ hR 9 rfl rfl rfl hl rfl hW hdg (fun _ _ _ _ _ _ h => h.elim) kk
theorem k_X_195 {u : CT} {p1 : Int32} {post : CT → Prop} (C : CX "CoderTables" cc nL rt0 Z A p l s m args meth c) (hw : WD Z A s (cX Z ad u) H locs) (h : q_L_put p1 u post) (hR : rmOk rm_L_put 2 R cells slots) (hl : ls.size = nL) (hW : (rest.map fun v => v.category).sum ≤ 8) (hdg : decode cc pc = .ok (.invokevirtual 195, 3)) (kk : ∀ (u' : CT) (H1 : Heap) (locs1 : List Loc), post u' → WD Z A s (cX Z ad u') H1 locs1 → W p l e R s m args below meth c H1 locs1 cells slots Q (F0 m (pc + 3) ls (rest))) : W p l e R s m args below meth c H locs cells slots Q (F0 m pc ls (.int (p1) :: .ref (ad 9) :: rest)) :=
  g_N0_v (host := "CoderTables") (n := 1) (f := cX Z ad) (As := [.int (p1)]) C hw (fun sz => vx_toMet (c_L_put C.1 h sz) (fun _ _ _ hx => by obtain ⟨_, h1, _⟩ := hx; exact h1)) rfl rfl ⟨(by decide +kernel), w194, w8, w55, w195, (by decide +kernel), (by decide +kernel), (by decide +kernel)⟩ hR 9 rfl rfl rfl hl rfl hW hdg kk
end KR
/-! CoderTables$Lines.putNumber(J)V -/
abbrev rm_L_putNumber : Room := { frames := 1, cells := 0, slots := 0, locals := 21 }
def q_L_putNumber_37 (K37 : Int64 → Int64 → Int32 → CT → Prop) (x1 : Int64) (x3 : Int64) (x5 : Int32) (u : CT) (post : CT → Prop) : Prop :=
  (((((11) : Int32)) ≤ (x5) → post (u)) ∧ (¬ (((11) : Int32)) ≤ (x5) → (((lg_cmp (x3) ((0 : Int64))) ≤ 0 → post (u)) ∧ (¬ (lg_cmp (x3) ((0 : Int64))) ≤ 0 → (¬ (x3) = 0 ∧ (¬ ((10 : Int64)) = 0 ∧ q_L_put ((((((48 : Int64)) + (((x1) / (x3)) - ((x1) / (x3)) / ((10 : Int64)) * ((10 : Int64)))).toInt32).toUInt32 % 65536).toInt32) (u) (fun u2 => (¬ ((10 : Int64)) = 0 ∧ K37 (x1) ((x3) / ((10 : Int64))) ((x5) + 1) (u2)))))))))
set_option maxRecDepth 100000 in
theorem w_L_putNumber_37 {p : Program} {l : Launch} {e : Env} {s : State} {m : MethodId} {args : Array Value} {below : List Frame} {meth : Method} {c : Code} {Z : ZT} {ad : Nat → Nat} {u0 : CT} {post : CT → Prop} {K37 : Int64 → Int64 → Int32 → CT → Prop} (C : CX "CoderTables$Lines" b_L_putNumber 6 none Z (va_A (cX Z ad u0) s.heap.size) p l s m args meth c) (htab : ∀ x ∈ c.exceptionTable.toList, False) (hK37 : ∀ (x1 : Int64) (x3 : Int64) (x5 : Int32) (u : CT) (H : Heap) (locs : List Loc) (ls : Array Slot), K37 x1 x3 x5 u → WD Z (va_A (cX Z ad u0) s.heap.size) s (cX Z ad u) H locs → lv_has ls 6 [(0, .ref (ad 9)), (1, .long (x1)), (3, .long (x3)), (5, .int (x5))] → W p l e rm_L_putNumber s m args below meth c H locs 0 0 (vx_MQ below (pQv Z (cX Z ad) (cX Z ad u0) s.heap.size post) (pX Z (cX Z ad) (cX Z ad u0) s.heap.size (fun _ _ => False)) args s 0 0 rm_L_putNumber.cells rm_L_putNumber.slots (va_A (cX Z ad u0) s.heap.size)) (F0 m 37 ls [])) (x1 : Int64) (x3 : Int64) (x5 : Int32) (u : CT) (H : Heap) (locs : List Loc) (ls : Array Slot) (hw : WD Z (va_A (cX Z ad u0) s.heap.size) s (cX Z ad u) H locs) (hl : lv_has ls 6 [(0, .ref (ad 9)), (1, .long (x1)), (3, .long (x3)), (5, .int (x5))]) (h : q_L_putNumber_37 K37 x1 x3 x5 u post) : W p l e rm_L_putNumber s m args below meth c H locs 0 0 (vx_MQ below (pQv Z (cX Z ad) (cX Z ad u0) s.heap.size post) (pX Z (cX Z ad) (cX Z ad u0) s.heap.size (fun _ _ => False)) args s 0 0 rm_L_putNumber.cells rm_L_putNumber.slots (va_A (cX Z ad u0) s.heap.size)) (F0 m 37 ls []) := by
  unfold q_L_putNumber_37 at h
  refine lv_iload C.2.1 C.2.2.1 d_L_putNumber_37 (lv_at hl 3 rfl) ?_
  refine lv_bipush (v := (11)) C.2.1 C.2.2.1 d_L_putNumber_39 (by decide) ?_
  refine lv_icmp_ge (tgt := 79) C.2.1 C.2.2.1 d_L_putNumber_41 (by decide) (fun c => ?_) (fun c => ?_)
  · have h := h.1 c
    exact g_vret C hw h d_L_putNumber_79
  · have h := h.2 c
    refine lv_lload_n C.2.1 C.2.2.1 d_L_putNumber_44 rfl (lv_at hl 2 rfl) ?_
    refine lv_lconst (v := 0) C.2.1 C.2.2.1 d_L_putNumber_45 (by decide) ?_
    refine W.lcmp C.2.1 C.2.2.1 d_L_putNumber_46 ?_
    refine lv_if_le (tgt := 79) C.2.1 C.2.2.1 d_L_putNumber_47 (by decide) (fun c => ?_) (fun c => ?_)
    · have h := h.1 c
      exact g_vret C hw h d_L_putNumber_79
    · have h := h.2 c
      refine lv_aload_n C.2.1 C.2.2.1 d_L_putNumber_50 rfl (lv_at hl 0 rfl) ?_
      refine lv_ldc2 (v := 48) C.2.1 C.2.2.1 C.2.2.2.2.1 (C.2.2.2.2.2.1 _ w191) d_L_putNumber_51 ?_
      refine lv_lload_n C.2.1 C.2.2.1 d_L_putNumber_54 rfl (lv_at hl 1 rfl) ?_
      refine lv_lload_n C.2.1 C.2.2.1 d_L_putNumber_55 rfl (lv_at hl 2 rfl) ?_
      obtain ⟨h0, h⟩ := h
      refine lv_ldiv C.2.1 C.2.2.1 d_L_putNumber_56 h0 ?_
      refine lv_ldc2 (v := 10) C.2.1 C.2.2.1 C.2.2.2.2.1 (C.2.2.2.2.2.1 _ w190) d_L_putNumber_57 ?_
      obtain ⟨h0, h⟩ := h
      refine lv_lrem C.2.1 C.2.2.1 d_L_putNumber_60 h0 ?_
      refine lv_ladd C.2.1 C.2.2.1 d_L_putNumber_61 ?_
      refine lv_l2i C.2.1 C.2.2.1 d_L_putNumber_62 rfl ?_
      refine lv_i2c C.2.1 C.2.2.1 d_L_putNumber_63 rfl ?_
      refine k_L_23 C hw h ⟨Nat.le_of_ble_eq_true rfl, Nat.le_of_ble_eq_true rfl, Nat.le_of_ble_eq_true rfl, Nat.le_of_ble_eq_true rfl⟩ hl.1 (Nat.le_of_ble_eq_true rfl) d_L_putNumber_64 (fun u2 H locs h hw => ?_)
      refine lv_lload_n C.2.1 C.2.2.1 d_L_putNumber_67 rfl (lv_at hl 2 rfl) ?_
      refine lv_ldc2 (v := 10) C.2.1 C.2.2.1 C.2.2.2.2.1 (C.2.2.2.2.2.1 _ w190) d_L_putNumber_68 ?_
      obtain ⟨h0, h⟩ := h
      refine lv_ldiv C.2.1 C.2.2.1 d_L_putNumber_71 h0 ?_
      refine lv_lstore_n (lv' := [(3, .long ((x3) / ((10 : Int64)))), (0, .ref (ad 9)), (1, .long (x1)), (5, .int (x5))]) C.2.1 C.2.2.1 d_L_putNumber_72 rfl hl (by decide) rfl (fun ls hl => ?_)
      refine lv_iinc (v := (x5) + 1) (lv' := [(5, .int ((x5) + 1)), (3, .long ((x3) / ((10 : Int64)))), (0, .ref (ad 9)), (1, .long (x1))]) C.2.1 C.2.2.1 d_L_putNumber_73 hl (k := 3) rfl rfl (by decide) rfl (fun ls hl => ?_)
      refine lv_goto (tgt := 37) C.2.1 C.2.2.1 d_L_putNumber_76 (by decide) ?_
      exact hK37 (x1) ((x3) / ((10 : Int64))) ((x5) + 1) _ _ _ _ h hw (lv_sub hl [2, 3, 1, 0] rfl)
def q_L_putNumber_37N : Nat → Int64 → Int64 → Int32 → CT → (CT → Prop) → Prop
  | 0 => fun _ _ _ _ _ => False
  | n + 1 => fun x1 x3 x5 u post => q_L_putNumber_37 (fun x1 x3 x5 u => q_L_putNumber_37N n x1 x3 x5 u post) x1 x3 x5 u post
theorem w_L_putNumber_37N {p : Program} {l : Launch} {e : Env} {s : State} {m : MethodId} {args : Array Value} {below : List Frame} {meth : Method} {c : Code} {Z : ZT} {ad : Nat → Nat} {u0 : CT} {post : CT → Prop} (C : CX "CoderTables$Lines" b_L_putNumber 6 none Z (va_A (cX Z ad u0) s.heap.size) p l s m args meth c) (htab : ∀ x ∈ c.exceptionTable.toList, False) : ∀ (n : Nat) (x1 : Int64) (x3 : Int64) (x5 : Int32) (u : CT) (H : Heap) (locs : List Loc) (ls : Array Slot), WD Z (va_A (cX Z ad u0) s.heap.size) s (cX Z ad u) H locs → lv_has ls 6 [(0, .ref (ad 9)), (1, .long (x1)), (3, .long (x3)), (5, .int (x5))] → q_L_putNumber_37N n x1 x3 x5 u post → W p l e rm_L_putNumber s m args below meth c H locs 0 0 (vx_MQ below (pQv Z (cX Z ad) (cX Z ad u0) s.heap.size post) (pX Z (cX Z ad) (cX Z ad u0) s.heap.size (fun _ _ => False)) args s 0 0 rm_L_putNumber.cells rm_L_putNumber.slots (va_A (cX Z ad u0) s.heap.size)) (F0 m 37 ls []) := by
  intro n
  induction n with
  | zero => intro x1 x3 x5 u H locs ls hw hl h; exact h.elim
  | succ n ih => intro x1 x3 x5 u H locs ls hw hl h; exact w_L_putNumber_37 C htab (fun x1 x3 x5 u H locs ls h hw hl => ih x1 x3 x5 u H locs ls hw hl h) x1 x3 x5 u H locs ls hw hl h
def q_L_putNumber_34 (x1 : Int64) (x3 : Int64) (u : CT) (post : CT → Prop) : Prop :=
  ∃ n, q_L_putNumber_37N n (x1) (x3) (((0) : Int32)) (u) post
set_option maxRecDepth 100000 in
theorem w_L_putNumber_34 {p : Program} {l : Launch} {e : Env} {s : State} {m : MethodId} {args : Array Value} {below : List Frame} {meth : Method} {c : Code} {Z : ZT} {ad : Nat → Nat} {u0 : CT} {post : CT → Prop} (C : CX "CoderTables$Lines" b_L_putNumber 6 none Z (va_A (cX Z ad u0) s.heap.size) p l s m args meth c) (htab : ∀ x ∈ c.exceptionTable.toList, False) (x1 : Int64) (x3 : Int64) (u : CT) (H : Heap) (locs : List Loc) (ls : Array Slot) (hw : WD Z (va_A (cX Z ad u0) s.heap.size) s (cX Z ad u) H locs) (hl : lv_has ls 6 [(0, .ref (ad 9)), (1, .long (x1)), (3, .long (x3))]) (h : q_L_putNumber_34 x1 x3 u post) : W p l e rm_L_putNumber s m args below meth c H locs 0 0 (vx_MQ below (pQv Z (cX Z ad) (cX Z ad u0) s.heap.size post) (pX Z (cX Z ad) (cX Z ad u0) s.heap.size (fun _ _ => False)) args s 0 0 rm_L_putNumber.cells rm_L_putNumber.slots (va_A (cX Z ad u0) s.heap.size)) (F0 m 34 ls []) := by
  unfold q_L_putNumber_34 at h
  refine lv_iconst (v := (0)) C.2.1 C.2.2.1 d_L_putNumber_34 (by decide) ?_
  refine lv_istore (lv' := [(5, .int (((0) : Int32))), (0, .ref (ad 9)), (1, .long (x1)), (3, .long (x3))]) C.2.1 C.2.2.1 d_L_putNumber_35 hl (by decide) rfl (fun ls hl => ?_)
  obtain ⟨n, h⟩ := h
  exact w_L_putNumber_37N C htab n (x1) (x3) (((0) : Int32)) _ _ _ _ hw (lv_sub hl [1, 2, 3, 0] rfl) h
def q_L_putNumber_5 (K5 : Int64 → Int64 → Int32 → CT → Prop) (x1 : Int64) (x3 : Int64) (x5 : Int32) (u : CT) (post : CT → Prop) : Prop :=
  (((((11) : Int32)) ≤ (x5) → q_L_putNumber_34 (x1) (x3) (u) post) ∧ (¬ (((11) : Int32)) ≤ (x5) → (¬ ((10 : Int64)) = 0 ∧ ((0 < (lg_cmp (x3) ((x1) / ((10 : Int64)))) → q_L_putNumber_34 (x1) (x3) (u) post) ∧ (¬ 0 < (lg_cmp (x3) ((x1) / ((10 : Int64)))) → K5 (x1) ((x3) * ((10 : Int64))) ((x5) + 1) (u))))))
set_option maxRecDepth 100000 in
theorem w_L_putNumber_5 {p : Program} {l : Launch} {e : Env} {s : State} {m : MethodId} {args : Array Value} {below : List Frame} {meth : Method} {c : Code} {Z : ZT} {ad : Nat → Nat} {u0 : CT} {post : CT → Prop} {K5 : Int64 → Int64 → Int32 → CT → Prop} (C : CX "CoderTables$Lines" b_L_putNumber 6 none Z (va_A (cX Z ad u0) s.heap.size) p l s m args meth c) (htab : ∀ x ∈ c.exceptionTable.toList, False) (hK5 : ∀ (x1 : Int64) (x3 : Int64) (x5 : Int32) (u : CT) (H : Heap) (locs : List Loc) (ls : Array Slot), K5 x1 x3 x5 u → WD Z (va_A (cX Z ad u0) s.heap.size) s (cX Z ad u) H locs → lv_has ls 6 [(0, .ref (ad 9)), (1, .long (x1)), (3, .long (x3)), (5, .int (x5))] → W p l e rm_L_putNumber s m args below meth c H locs 0 0 (vx_MQ below (pQv Z (cX Z ad) (cX Z ad u0) s.heap.size post) (pX Z (cX Z ad) (cX Z ad u0) s.heap.size (fun _ _ => False)) args s 0 0 rm_L_putNumber.cells rm_L_putNumber.slots (va_A (cX Z ad u0) s.heap.size)) (F0 m 5 ls [])) (x1 : Int64) (x3 : Int64) (x5 : Int32) (u : CT) (H : Heap) (locs : List Loc) (ls : Array Slot) (hw : WD Z (va_A (cX Z ad u0) s.heap.size) s (cX Z ad u) H locs) (hl : lv_has ls 6 [(0, .ref (ad 9)), (1, .long (x1)), (3, .long (x3)), (5, .int (x5))]) (h : q_L_putNumber_5 K5 x1 x3 x5 u post) : W p l e rm_L_putNumber s m args below meth c H locs 0 0 (vx_MQ below (pQv Z (cX Z ad) (cX Z ad u0) s.heap.size post) (pX Z (cX Z ad) (cX Z ad u0) s.heap.size (fun _ _ => False)) args s 0 0 rm_L_putNumber.cells rm_L_putNumber.slots (va_A (cX Z ad u0) s.heap.size)) (F0 m 5 ls []) := by
  unfold q_L_putNumber_5 at h
  refine lv_iload C.2.1 C.2.2.1 d_L_putNumber_5 (lv_at hl 3 rfl) ?_
  refine lv_bipush (v := (11)) C.2.1 C.2.2.1 d_L_putNumber_7 (by decide) ?_
  refine lv_icmp_ge (tgt := 34) C.2.1 C.2.2.1 d_L_putNumber_9 (by decide) (fun c => ?_) (fun c => ?_)
  · have h := h.1 c
    exact w_L_putNumber_34 C htab (x1) (x3) _ _ _ _ hw (lv_sub hl [0, 1, 2] rfl) h
  · have h := h.2 c
    refine lv_lload_n C.2.1 C.2.2.1 d_L_putNumber_12 rfl (lv_at hl 2 rfl) ?_
    refine lv_lload_n C.2.1 C.2.2.1 d_L_putNumber_13 rfl (lv_at hl 1 rfl) ?_
    refine lv_ldc2 (v := 10) C.2.1 C.2.2.1 C.2.2.2.2.1 (C.2.2.2.2.2.1 _ w190) d_L_putNumber_14 ?_
    obtain ⟨h0, h⟩ := h
    refine lv_ldiv C.2.1 C.2.2.1 d_L_putNumber_17 h0 ?_
    refine W.lcmp C.2.1 C.2.2.1 d_L_putNumber_18 ?_
    refine lv_if_gt (tgt := 34) C.2.1 C.2.2.1 d_L_putNumber_19 (by decide) (fun c => ?_) (fun c => ?_)
    · have h := h.1 c
      exact w_L_putNumber_34 C htab (x1) (x3) _ _ _ _ hw (lv_sub hl [0, 1, 2] rfl) h
    · have h := h.2 c
      refine lv_lload_n C.2.1 C.2.2.1 d_L_putNumber_22 rfl (lv_at hl 2 rfl) ?_
      refine lv_ldc2 (v := 10) C.2.1 C.2.2.1 C.2.2.2.2.1 (C.2.2.2.2.2.1 _ w190) d_L_putNumber_23 ?_
      refine lv_lmul C.2.1 C.2.2.1 d_L_putNumber_26 ?_
      refine lv_lstore_n (lv' := [(3, .long ((x3) * ((10 : Int64)))), (0, .ref (ad 9)), (1, .long (x1)), (5, .int (x5))]) C.2.1 C.2.2.1 d_L_putNumber_27 rfl hl (by decide) rfl (fun ls hl => ?_)
      refine lv_iinc (v := (x5) + 1) (lv' := [(5, .int ((x5) + 1)), (3, .long ((x3) * ((10 : Int64)))), (0, .ref (ad 9)), (1, .long (x1))]) C.2.1 C.2.2.1 d_L_putNumber_28 hl (k := 3) rfl rfl (by decide) rfl (fun ls hl => ?_)
      refine lv_goto (tgt := 5) C.2.1 C.2.2.1 d_L_putNumber_31 (by decide) ?_
      exact hK5 (x1) ((x3) * ((10 : Int64))) ((x5) + 1) _ _ _ _ h hw (lv_sub hl [2, 3, 1, 0] rfl)
def q_L_putNumber_5N : Nat → Int64 → Int64 → Int32 → CT → (CT → Prop) → Prop
  | 0 => fun _ _ _ _ _ => False
  | n + 1 => fun x1 x3 x5 u post => q_L_putNumber_5 (fun x1 x3 x5 u => q_L_putNumber_5N n x1 x3 x5 u post) x1 x3 x5 u post
theorem w_L_putNumber_5N {p : Program} {l : Launch} {e : Env} {s : State} {m : MethodId} {args : Array Value} {below : List Frame} {meth : Method} {c : Code} {Z : ZT} {ad : Nat → Nat} {u0 : CT} {post : CT → Prop} (C : CX "CoderTables$Lines" b_L_putNumber 6 none Z (va_A (cX Z ad u0) s.heap.size) p l s m args meth c) (htab : ∀ x ∈ c.exceptionTable.toList, False) : ∀ (n : Nat) (x1 : Int64) (x3 : Int64) (x5 : Int32) (u : CT) (H : Heap) (locs : List Loc) (ls : Array Slot), WD Z (va_A (cX Z ad u0) s.heap.size) s (cX Z ad u) H locs → lv_has ls 6 [(0, .ref (ad 9)), (1, .long (x1)), (3, .long (x3)), (5, .int (x5))] → q_L_putNumber_5N n x1 x3 x5 u post → W p l e rm_L_putNumber s m args below meth c H locs 0 0 (vx_MQ below (pQv Z (cX Z ad) (cX Z ad u0) s.heap.size post) (pX Z (cX Z ad) (cX Z ad u0) s.heap.size (fun _ _ => False)) args s 0 0 rm_L_putNumber.cells rm_L_putNumber.slots (va_A (cX Z ad u0) s.heap.size)) (F0 m 5 ls []) := by
  intro n
  induction n with
  | zero => intro x1 x3 x5 u H locs ls hw hl h; exact h.elim
  | succ n ih => intro x1 x3 x5 u H locs ls hw hl h; exact w_L_putNumber_5 C htab (fun x1 x3 x5 u H locs ls h hw hl => ih x1 x3 x5 u H locs ls hw hl h) x1 x3 x5 u H locs ls hw hl h
def q_L_putNumber (p1 : Int64) (u : CT) (post : CT → Prop) : Prop :=
  ∃ n, q_L_putNumber_5N n (p1) ((1 : Int64)) (((1) : Int32)) (u) post
set_option maxRecDepth 100000 in
theorem c_L_putNumber {l : Launch} {Z : ZT} {ad : Nat → Nat} {u : CT} {post : CT → Prop} {p1 : Int64} (hl0 : l.stackTraces = false) (h : q_L_putNumber p1 u post) : ∀ sz, vx_Met l y_L_putNumber (Cond.code y_L_putNumber b_L_putNumber 6 none :: GW) rm_L_putNumber (pP Z [.ref (ad 9), .long (p1)] (cX Z ad u) sz) (pQv Z (cX Z ad) (cX Z ad u) sz post) (pX Z (cX Z ad) (cX Z ad u) sz (fun _ _ => False)) 0 0 rm_L_putNumber.cells rm_L_putNumber.slots (va_A (cX Z ad u) sz) := by
  refine g_ent (f := cX Z ad) (Qc := fun sz => pQv Z (cX Z ad) (cX Z ad u) sz post) (XC := fun sz => pX Z (cX Z ad) (cX Z ad u) sz (fun _ _ => False)) hl0 (by decide +kernel) (Nat.le_of_ble_eq_true rfl) ?_
  intro p e s m args below meth c ls C htab hw hl
  have hl : lv_has ls 6 [(0, .ref (ad 9)), (1, .long (p1))] := hl
  unfold q_L_putNumber at h
  refine lv_lconst (v := 1) C.2.1 C.2.2.1 d_L_putNumber_0 (by decide) ?_
  refine lv_lstore_n (lv' := [(3, .long ((1 : Int64))), (0, .ref (ad 9)), (1, .long (p1))]) C.2.1 C.2.2.1 d_L_putNumber_1 rfl hl (by decide) rfl (fun ls hl => ?_)
  refine lv_iconst (v := (1)) C.2.1 C.2.2.1 d_L_putNumber_2 (by decide) ?_
  refine lv_istore (lv' := [(5, .int (((1) : Int32))), (3, .long ((1 : Int64))), (0, .ref (ad 9)), (1, .long (p1))]) C.2.1 C.2.2.1 d_L_putNumber_3 hl (by decide) rfl (fun ls hl => ?_)
  obtain ⟨n, h⟩ := h
  exact w_L_putNumber_5N C htab n (p1) ((1 : Int64)) (((1) : Int32)) _ _ _ _ hw (lv_sub hl [2, 3, 1, 0] rfl) h
section KR
variable {own host : String} {cc bytes : ByteArray} {nL maxL index n : Nat} {rt0 rt : Option FieldType} {Z : ZT} {ad : Nat → Nat} {A : Nat → Prop}
variable {p : Program} {l : Launch} {e : Env} {R : Room} {s : State} {m : MethodId} {args : Array Value} {below : List Frame} {meth : Method} {c : Code} {H : Heap} {locs : List Loc} {cells slots : Nat} {Q : State → Prop} {rest : List Value} {pc : Nat} {ls : Array Slot}
theorem k_X_192 {u : CT} {p1 : Int64} {post : CT → Prop} (C : CX "CoderTables" cc nL rt0 Z A p l s m args meth c) (hw : WD Z A s (cX Z ad u) H locs) (h : q_L_putNumber p1 u post) (hR : rmOk rm_L_putNumber 6 R cells slots) (hl : ls.size = nL) (hW : (rest.map fun v => v.category).sum ≤ 8) (hdg : decode cc pc = .ok (.invokevirtual 192, 3)) (kk : ∀ (u' : CT) (H1 : Heap) (locs1 : List Loc), post u' → WD Z A s (cX Z ad u') H1 locs1 → W p l e R s m args below meth c H1 locs1 cells slots Q (F0 m (pc + 3) ls (rest))) : W p l e R s m args below meth c H locs cells slots Q (F0 m pc ls (.long (p1) :: .ref (ad 9) :: rest)) :=
  g_N0_v (host := "CoderTables") (n := 1) (f := cX Z ad) (As := [.long (p1)]) C hw (fun sz => vx_toMet (c_L_putNumber C.1 h sz) (fun _ _ _ hx => by obtain ⟨_, h1, _⟩ := hx; exact h1)) rfl rfl ⟨(by decide +kernel), w188, w7, w55, w189, (by decide +kernel), (by decide +kernel), (by decide +kernel)⟩ hR 9 rfl rfl rfl hl rfl hW hdg kk
end KR
/-! CoderTables.text()I -/
abbrev rm_X_text : Room := { frames := 3, cells := 0, slots := 0, locals := 77 }
def q_X_text_89 (K9 : Int32 → CT → Prop) (x1 : Int32) (u : CT) (post : Int32 → CT → Prop) : Prop :=
  q_L_put (((10) : Int32)) (u) (fun u2 => K9 ((x1) + 1) (u2))
set_option maxRecDepth 100000 in
theorem w_X_text_89 {p : Program} {l : Launch} {e : Env} {s : State} {m : MethodId} {args : Array Value} {below : List Frame} {meth : Method} {c : Code} {Z : ZT} {ad : Nat → Nat} {u0 : CT} {post : Int32 → CT → Prop} {K9 : Int32 → CT → Prop} (C : CX "CoderTables" b_X_text 2 (some .int) Z (va_A (cX Z ad u0) s.heap.size) p l s m args meth c) (htab : ∀ x ∈ c.exceptionTable.toList, False) (hK9 : ∀ (x1 : Int32) (u : CT) (H : Heap) (locs : List Loc) (ls : Array Slot), K9 x1 u → WD Z (va_A (cX Z ad u0) s.heap.size) s (cX Z ad u) H locs → lv_has ls 2 [(0, .ref (ad 0)), (1, .int (x1))] → W p l e rm_X_text s m args below meth c H locs 0 0 (vx_MQ below (pQi Z (cX Z ad) (cX Z ad u0) s.heap.size post) (pX Z (cX Z ad) (cX Z ad u0) s.heap.size (fun _ _ => False)) args s 0 0 rm_X_text.cells rm_X_text.slots (va_A (cX Z ad u0) s.heap.size)) (F0 m 9 ls [])) (x1 : Int32) (u : CT) (H : Heap) (locs : List Loc) (ls : Array Slot) (hw : WD Z (va_A (cX Z ad u0) s.heap.size) s (cX Z ad u) H locs) (hl : lv_has ls 2 [(0, .ref (ad 0)), (1, .int (x1))]) (h : q_X_text_89 K9 x1 u post) : W p l e rm_X_text s m args below meth c H locs 0 0 (vx_MQ below (pQi Z (cX Z ad) (cX Z ad u0) s.heap.size post) (pX Z (cX Z ad) (cX Z ad u0) s.heap.size (fun _ _ => False)) args s 0 0 rm_X_text.cells rm_X_text.slots (va_A (cX Z ad u0) s.heap.size)) (F0 m 89 ls []) := by
  unfold q_X_text_89 at h
  refine lv_aload_n C.2.1 C.2.2.1 d_X_text_89 rfl (lv_at hl 0 rfl) ?_
  refine r_X_57 C hw d_X_text_90 ?_
  refine lv_bipush (v := (10)) C.2.1 C.2.2.1 d_X_text_93 (by decide) ?_
  refine k_X_195 C hw h ⟨Nat.le_of_ble_eq_true rfl, Nat.le_of_ble_eq_true rfl, Nat.le_of_ble_eq_true rfl, Nat.le_of_ble_eq_true rfl⟩ hl.1 (Nat.le_of_ble_eq_true rfl) d_X_text_95 (fun u2 H locs h hw => ?_)
  refine lv_iinc (v := (x1) + 1) (lv' := [(1, .int ((x1) + 1)), (0, .ref (ad 0))]) C.2.1 C.2.2.1 d_X_text_98 hl (k := 1) rfl rfl (by decide) rfl (fun ls hl => ?_)
  refine lv_goto (tgt := 9) C.2.1 C.2.2.1 d_X_text_101 (by decide) ?_
  exact hK9 ((x1) + 1) _ _ _ _ h hw (lv_sub hl [1, 0] rfl)
def q_X_text_9 (K9 : Int32 → CT → Prop) (x1 : Int32) (u : CT) (post : Int32 → CT → Prop) : Prop :=
  (((x_coders (u)) ≤ (x1) → post (x_length (u)) (u)) ∧ (¬ (x_coders (u)) ≤ (x1) → q_L_putNumber ((x1).toInt64) (u) (fun u4 => q_L_put (((32) : Int32)) (u4) (fun u6 => q_X_countedOf (x1) (u6) (fun r7 u8 => ((¬ (r7) = 0 → q_X_sumOf (x1) (u8) (fun r9 u10 => q_L_putNumber (r9) (u10) (fun u12 => q_L_put (((32) : Int32)) (u12) (fun u14 => q_X_rankOf (x1) (u14) (fun r15 u16 => q_L_putNumber ((r15).toInt64) (u16) (fun u18 => q_X_text_89 K9 (x1) (u18) post)))))) ∧ ((r7) = 0 → q_L_put (((45) : Int32)) (u8) (fun u20 => q_X_text_89 K9 (x1) (u20) post))))))))
set_option maxRecDepth 100000 in
theorem w_X_text_9 {p : Program} {l : Launch} {e : Env} {s : State} {m : MethodId} {args : Array Value} {below : List Frame} {meth : Method} {c : Code} {Z : ZT} {ad : Nat → Nat} {u0 : CT} {post : Int32 → CT → Prop} {K9 : Int32 → CT → Prop} (C : CX "CoderTables" b_X_text 2 (some .int) Z (va_A (cX Z ad u0) s.heap.size) p l s m args meth c) (htab : ∀ x ∈ c.exceptionTable.toList, False) (hK9 : ∀ (x1 : Int32) (u : CT) (H : Heap) (locs : List Loc) (ls : Array Slot), K9 x1 u → WD Z (va_A (cX Z ad u0) s.heap.size) s (cX Z ad u) H locs → lv_has ls 2 [(0, .ref (ad 0)), (1, .int (x1))] → W p l e rm_X_text s m args below meth c H locs 0 0 (vx_MQ below (pQi Z (cX Z ad) (cX Z ad u0) s.heap.size post) (pX Z (cX Z ad) (cX Z ad u0) s.heap.size (fun _ _ => False)) args s 0 0 rm_X_text.cells rm_X_text.slots (va_A (cX Z ad u0) s.heap.size)) (F0 m 9 ls [])) (x1 : Int32) (u : CT) (H : Heap) (locs : List Loc) (ls : Array Slot) (hw : WD Z (va_A (cX Z ad u0) s.heap.size) s (cX Z ad u) H locs) (hl : lv_has ls 2 [(0, .ref (ad 0)), (1, .int (x1))]) (h : q_X_text_9 K9 x1 u post) : W p l e rm_X_text s m args below meth c H locs 0 0 (vx_MQ below (pQi Z (cX Z ad) (cX Z ad u0) s.heap.size post) (pX Z (cX Z ad) (cX Z ad u0) s.heap.size (fun _ _ => False)) args s 0 0 rm_X_text.cells rm_X_text.slots (va_A (cX Z ad u0) s.heap.size)) (F0 m 9 ls []) := by
  unfold q_X_text_9 at h
  refine lv_iload_n C.2.1 C.2.2.1 d_X_text_9 rfl (lv_at hl 1 rfl) ?_
  refine lv_aload_n C.2.1 C.2.2.1 d_X_text_10 rfl (lv_at hl 0 rfl) ?_
  refine r_X_9 C hw d_X_text_11 ?_
  refine lv_icmp_ge (tgt := 104) C.2.1 C.2.2.1 d_X_text_14 (by decide) (fun c => ?_) (fun c => ?_)
  · have h := h.1 c
    refine lv_aload_n C.2.1 C.2.2.1 d_X_text_104 rfl (lv_at hl 0 rfl) ?_
    refine r_X_57 C hw d_X_text_105 ?_
    refine r_X_199 C hw d_X_text_108 ?_
    exact g_iret C hw rfl h d_X_text_111
  · have h := h.2 c
    refine lv_aload_n C.2.1 C.2.2.1 d_X_text_17 rfl (lv_at hl 0 rfl) ?_
    refine r_X_57 C hw d_X_text_18 ?_
    refine lv_iload_n C.2.1 C.2.2.1 d_X_text_21 rfl (lv_at hl 1 rfl) ?_
    refine lv_i2l C.2.1 C.2.2.1 d_X_text_22 rfl ?_
    refine k_X_192 C hw h ⟨Nat.le_of_ble_eq_true rfl, Nat.le_of_ble_eq_true rfl, Nat.le_of_ble_eq_true rfl, Nat.le_of_ble_eq_true rfl⟩ hl.1 (Nat.le_of_ble_eq_true rfl) d_X_text_23 (fun u4 H locs h hw => ?_)
    refine lv_aload_n C.2.1 C.2.2.1 d_X_text_26 rfl (lv_at hl 0 rfl) ?_
    refine r_X_57 C hw d_X_text_27 ?_
    refine lv_bipush (v := (32)) C.2.1 C.2.2.1 d_X_text_30 (by decide) ?_
    refine k_X_195 C hw h ⟨Nat.le_of_ble_eq_true rfl, Nat.le_of_ble_eq_true rfl, Nat.le_of_ble_eq_true rfl, Nat.le_of_ble_eq_true rfl⟩ hl.1 (Nat.le_of_ble_eq_true rfl) d_X_text_32 (fun u6 H locs h hw => ?_)
    refine lv_aload_n C.2.1 C.2.2.1 d_X_text_35 rfl (lv_at hl 0 rfl) ?_
    refine lv_iload_n C.2.1 C.2.2.1 d_X_text_36 rfl (lv_at hl 1 rfl) ?_
    refine k_X_117 C hw h ⟨Nat.le_of_ble_eq_true rfl, Nat.le_of_ble_eq_true rfl, Nat.le_of_ble_eq_true rfl, Nat.le_of_ble_eq_true rfl⟩ hl.1 (Nat.le_of_ble_eq_true rfl) d_X_text_37 (fun r7 u8 H locs h hw => ?_)
    refine lv_if_ne (tgt := 55) C.2.1 C.2.2.1 d_X_text_40 (by decide) (fun c => ?_) (fun c => ?_)
    · have h := h.1 c
      refine lv_aload_n C.2.1 C.2.2.1 d_X_text_55 rfl (lv_at hl 0 rfl) ?_
      refine r_X_57 C hw d_X_text_56 ?_
      refine lv_aload_n C.2.1 C.2.2.1 d_X_text_59 rfl (lv_at hl 0 rfl) ?_
      refine lv_iload_n C.2.1 C.2.2.1 d_X_text_60 rfl (lv_at hl 1 rfl) ?_
      refine k_X_123 C hw h ⟨Nat.le_of_ble_eq_true rfl, Nat.le_of_ble_eq_true rfl, Nat.le_of_ble_eq_true rfl, Nat.le_of_ble_eq_true rfl⟩ hl.1 (Nat.le_of_ble_eq_true rfl) d_X_text_61 (fun r9 u10 H locs h hw => ?_)
      refine k_X_192 C hw h ⟨Nat.le_of_ble_eq_true rfl, Nat.le_of_ble_eq_true rfl, Nat.le_of_ble_eq_true rfl, Nat.le_of_ble_eq_true rfl⟩ hl.1 (Nat.le_of_ble_eq_true rfl) d_X_text_64 (fun u12 H locs h hw => ?_)
      refine lv_aload_n C.2.1 C.2.2.1 d_X_text_67 rfl (lv_at hl 0 rfl) ?_
      refine r_X_57 C hw d_X_text_68 ?_
      refine lv_bipush (v := (32)) C.2.1 C.2.2.1 d_X_text_71 (by decide) ?_
      refine k_X_195 C hw h ⟨Nat.le_of_ble_eq_true rfl, Nat.le_of_ble_eq_true rfl, Nat.le_of_ble_eq_true rfl, Nat.le_of_ble_eq_true rfl⟩ hl.1 (Nat.le_of_ble_eq_true rfl) d_X_text_73 (fun u14 H locs h hw => ?_)
      refine lv_aload_n C.2.1 C.2.2.1 d_X_text_76 rfl (lv_at hl 0 rfl) ?_
      refine r_X_57 C hw d_X_text_77 ?_
      refine lv_aload_n C.2.1 C.2.2.1 d_X_text_80 rfl (lv_at hl 0 rfl) ?_
      refine lv_iload_n C.2.1 C.2.2.1 d_X_text_81 rfl (lv_at hl 1 rfl) ?_
      refine k_X_134 C hw h ⟨Nat.le_of_ble_eq_true rfl, Nat.le_of_ble_eq_true rfl, Nat.le_of_ble_eq_true rfl, Nat.le_of_ble_eq_true rfl⟩ hl.1 (Nat.le_of_ble_eq_true rfl) d_X_text_82 (fun r15 u16 H locs h hw => ?_)
      refine lv_i2l C.2.1 C.2.2.1 d_X_text_85 rfl ?_
      refine k_X_192 C hw h ⟨Nat.le_of_ble_eq_true rfl, Nat.le_of_ble_eq_true rfl, Nat.le_of_ble_eq_true rfl, Nat.le_of_ble_eq_true rfl⟩ hl.1 (Nat.le_of_ble_eq_true rfl) d_X_text_86 (fun u18 H locs h hw => ?_)
      exact w_X_text_89 C htab hK9 (x1) _ _ _ _ hw (lv_sub hl [0, 1] rfl) h
    · have h := h.2 c
      refine lv_aload_n C.2.1 C.2.2.1 d_X_text_43 rfl (lv_at hl 0 rfl) ?_
      refine r_X_57 C hw d_X_text_44 ?_
      refine lv_bipush (v := (45)) C.2.1 C.2.2.1 d_X_text_47 (by decide) ?_
      refine k_X_195 C hw h ⟨Nat.le_of_ble_eq_true rfl, Nat.le_of_ble_eq_true rfl, Nat.le_of_ble_eq_true rfl, Nat.le_of_ble_eq_true rfl⟩ hl.1 (Nat.le_of_ble_eq_true rfl) d_X_text_49 (fun u20 H locs h hw => ?_)
      refine lv_goto (tgt := 89) C.2.1 C.2.2.1 d_X_text_52 (by decide) ?_
      exact w_X_text_89 C htab hK9 (x1) _ _ _ _ hw (lv_sub hl [0, 1] rfl) h
def q_X_text_9N : Nat → Int32 → CT → (Int32 → CT → Prop) → Prop
  | 0 => fun _ _ _ => False
  | n + 1 => fun x1 u post => q_X_text_9 (fun x1 u => q_X_text_9N n x1 u post) x1 u post
theorem w_X_text_9N {p : Program} {l : Launch} {e : Env} {s : State} {m : MethodId} {args : Array Value} {below : List Frame} {meth : Method} {c : Code} {Z : ZT} {ad : Nat → Nat} {u0 : CT} {post : Int32 → CT → Prop} (C : CX "CoderTables" b_X_text 2 (some .int) Z (va_A (cX Z ad u0) s.heap.size) p l s m args meth c) (htab : ∀ x ∈ c.exceptionTable.toList, False) : ∀ (n : Nat) (x1 : Int32) (u : CT) (H : Heap) (locs : List Loc) (ls : Array Slot), WD Z (va_A (cX Z ad u0) s.heap.size) s (cX Z ad u) H locs → lv_has ls 2 [(0, .ref (ad 0)), (1, .int (x1))] → q_X_text_9N n x1 u post → W p l e rm_X_text s m args below meth c H locs 0 0 (vx_MQ below (pQi Z (cX Z ad) (cX Z ad u0) s.heap.size post) (pX Z (cX Z ad) (cX Z ad u0) s.heap.size (fun _ _ => False)) args s 0 0 rm_X_text.cells rm_X_text.slots (va_A (cX Z ad u0) s.heap.size)) (F0 m 9 ls []) := by
  intro n
  induction n with
  | zero => intro x1 u H locs ls hw hl h; exact h.elim
  | succ n ih => intro x1 u H locs ls hw hl h; exact w_X_text_9 C htab (fun x1 u H locs ls h hw hl => ih x1 u H locs ls hw hl h) x1 u H locs ls hw hl h
def q_X_text (u : CT) (post : Int32 → CT → Prop) : Prop :=
  q_L_start  (u) (fun u22 => ∃ n, q_X_text_9N n (((0) : Int32)) (u22) post)
set_option maxRecDepth 100000 in
theorem c_X_text {l : Launch} {Z : ZT} {ad : Nat → Nat} {u : CT} {post : Int32 → CT → Prop} (hl0 : l.stackTraces = false) (h : q_X_text u post) : ∀ sz, vx_Met l y_X_text (Cond.code y_X_text b_X_text 2 (some .int) :: GW) rm_X_text (pP Z [.ref (ad 0)] (cX Z ad u) sz) (pQi Z (cX Z ad) (cX Z ad u) sz post) (pX Z (cX Z ad) (cX Z ad u) sz (fun _ _ => False)) 0 0 rm_X_text.cells rm_X_text.slots (va_A (cX Z ad u) sz) := by
  refine g_ent (f := cX Z ad) (Qc := fun sz => pQi Z (cX Z ad) (cX Z ad u) sz post) (XC := fun sz => pX Z (cX Z ad) (cX Z ad u) sz (fun _ _ => False)) hl0 (by decide +kernel) (Nat.le_of_ble_eq_true rfl) ?_
  intro p e s m args below meth c ls C htab hw hl
  have hl : lv_has ls 2 [(0, .ref (ad 0))] := hl
  unfold q_X_text at h
  refine lv_aload_n C.2.1 C.2.2.1 d_X_text_0 rfl (lv_at hl 0 rfl) ?_
  refine r_X_57 C hw d_X_text_1 ?_
  refine k_X_190 C hw h ⟨Nat.le_of_ble_eq_true rfl, Nat.le_of_ble_eq_true rfl, Nat.le_of_ble_eq_true rfl, Nat.le_of_ble_eq_true rfl⟩ hl.1 (Nat.le_of_ble_eq_true rfl) d_X_text_4 (fun u22 H locs h hw => ?_)
  refine lv_iconst (v := (0)) C.2.1 C.2.2.1 d_X_text_7 (by decide) ?_
  refine lv_istore_n (lv' := [(1, .int (((0) : Int32))), (0, .ref (ad 0))]) C.2.1 C.2.2.1 d_X_text_8 rfl hl (by decide) rfl (fun ls hl => ?_)
  obtain ⟨n, h⟩ := h
  exact w_X_text_9N C htab n (((0) : Int32)) _ _ _ _ hw (lv_sub hl [1, 0] rfl) h
/-! CoderTables.charAt(I)I -/
abbrev rm_X_charAt : Room := { frames := 6, cells := 1, slots := 6, locals := 90 }
def q_X_charAt_15  (u : CT) (post : Int32 → CT → Prop) (ex : String → CT → Prop) : Prop :=
  ex "java/lang/IndexOutOfBoundsException" (u)
set_option maxRecDepth 100000 in
theorem w_X_charAt_15 {p : Program} {l : Launch} {e : Env} {s : State} {m : MethodId} {args : Array Value} {below : List Frame} {meth : Method} {c : Code} {Z : ZT} {ad : Nat → Nat} {u0 : CT} {post : Int32 → CT → Prop} {ex : String → CT → Prop} (C : CX "CoderTables" b_X_charAt 2 (some .int) Z (va_A (cX Z ad u0) s.heap.size) p l s m args meth c) (htab : ∀ x ∈ c.exceptionTable.toList, False)  (u : CT) (H : Heap) (locs : List Loc) (ls : Array Slot) (hw : WD Z (va_A (cX Z ad u0) s.heap.size) s (cX Z ad u) H locs) (hl : lv_has ls 2 []) (h : q_X_charAt_15  u post ex) : W p l e rm_X_charAt s m args below meth c H locs 0 0 (vx_MQ below (pQi Z (cX Z ad) (cX Z ad u0) s.heap.size post) (pX Z (cX Z ad) (cX Z ad u0) s.heap.size ex) args s 0 0 rm_X_charAt.cells rm_X_charAt.slots (va_A (cX Z ad u0) s.heap.size)) (F0 m 15 ls []) := by
  unfold q_X_charAt_15 at h
  exact g_throw C htab hw hE_O sg_202 h hl.1 d_X_charAt_15 d_X_charAt_18 d_X_charAt_19 d_X_charAt_21 d_X_charAt_24 ⟨Nat.le_of_ble_eq_true rfl, Nat.le_of_ble_eq_true rfl, Nat.le_of_ble_eq_true rfl, Nat.le_of_ble_eq_true rfl⟩ (Nat.le_of_ble_eq_true rfl) (Nat.le_of_ble_eq_true rfl)
def q_X_charAt (p1 : Int32) (u : CT) (post : Int32 → CT → Prop) (ex : String → CT → Prop) : Prop :=
  (((p1) < 0 → q_X_charAt_15  (u) post ex) ∧ (¬ (p1) < 0 → (((p1) < (x_length (u)) → (vp_in (p1) 136 ∧ post (x_chars (u) (p1).toNatClampNeg) (u))) ∧ (¬ (p1) < (x_length (u)) → q_X_charAt_15  (u) post ex))))
set_option maxRecDepth 100000 in
theorem c_X_charAt {l : Launch} {Z : ZT} {ad : Nat → Nat} {u : CT} {post : Int32 → CT → Prop} {ex : String → CT → Prop} {p1 : Int32} (hl0 : l.stackTraces = false) (h : q_X_charAt p1 u post ex) : ∀ sz, vx_Met l y_X_charAt (Cond.code y_X_charAt b_X_charAt 2 (some .int) :: GW) rm_X_charAt (pP Z [.ref (ad 0), .int (p1)] (cX Z ad u) sz) (pQi Z (cX Z ad) (cX Z ad u) sz post) (pX Z (cX Z ad) (cX Z ad u) sz ex) 0 0 rm_X_charAt.cells rm_X_charAt.slots (va_A (cX Z ad u) sz) := by
  refine g_ent (f := cX Z ad) (Qc := fun sz => pQi Z (cX Z ad) (cX Z ad u) sz post) (XC := fun sz => pX Z (cX Z ad) (cX Z ad u) sz ex) hl0 (by decide +kernel) (Nat.le_of_ble_eq_true rfl) ?_
  intro p e s m args below meth c ls C htab hw hl
  have hl : lv_has ls 2 [(0, .ref (ad 0)), (1, .int (p1))] := hl
  unfold q_X_charAt at h
  refine lv_iload_n C.2.1 C.2.2.1 d_X_charAt_0 rfl (lv_at hl 1 rfl) ?_
  refine lv_if_lt (tgt := 15) C.2.1 C.2.2.1 d_X_charAt_1 (by decide) (fun c => ?_) (fun c => ?_)
  · have h := h.1 c
    exact w_X_charAt_15 C htab  _ _ _ _ hw (lv_sub hl [] rfl) h
  · have h := h.2 c
    refine lv_iload_n C.2.1 C.2.2.1 d_X_charAt_4 rfl (lv_at hl 1 rfl) ?_
    refine lv_aload_n C.2.1 C.2.2.1 d_X_charAt_5 rfl (lv_at hl 0 rfl) ?_
    refine r_X_57 C hw d_X_charAt_6 ?_
    refine r_X_199 C hw d_X_charAt_9 ?_
    refine lv_icmp_lt (tgt := 25) C.2.1 C.2.2.1 d_X_charAt_12 (by decide) (fun c => ?_) (fun c => ?_)
    · have h := h.1 c
      refine lv_aload_n C.2.1 C.2.2.1 d_X_charAt_25 rfl (lv_at hl 0 rfl) ?_
      refine r_X_57 C hw d_X_charAt_26 ?_
      refine r_X_204 C hw d_X_charAt_29 ?_
      refine lv_iload_n C.2.1 C.2.2.1 d_X_charAt_32 rfl (lv_at hl 1 rfl) ?_
      obtain ⟨hi, h⟩ := h
      refine al_X_10 C hw hi d_X_charAt_33 ?_
      exact g_iret C hw rfl h d_X_charAt_34
    · have h := h.2 c
      exact w_X_charAt_15 C htab  _ _ _ _ hw (lv_sub hl [] rfl) h
/-! CoderTables.allPoints()I -/
abbrev rm_X_allPoints : Room := { frames := 1, cells := 0, slots := 0, locals := 21 }
def q_X_allPoints_28 (K4 : Int32 → Int32 → CT → Prop) (x1 : Int32) (x2 : Int32) (u : CT) (post : Int32 → CT → Prop) : Prop :=
  K4 (x1) ((x2) + 1) (u)
set_option maxRecDepth 100000 in
theorem w_X_allPoints_28 {p : Program} {l : Launch} {e : Env} {s : State} {m : MethodId} {args : Array Value} {below : List Frame} {meth : Method} {c : Code} {Z : ZT} {ad : Nat → Nat} {u0 : CT} {post : Int32 → CT → Prop} {K4 : Int32 → Int32 → CT → Prop} (C : CX "CoderTables" b_X_allPoints 3 (some .int) Z (va_A (cX Z ad u0) s.heap.size) p l s m args meth c) (htab : ∀ x ∈ c.exceptionTable.toList, False) (hK4 : ∀ (x1 : Int32) (x2 : Int32) (u : CT) (H : Heap) (locs : List Loc) (ls : Array Slot), K4 x1 x2 u → WD Z (va_A (cX Z ad u0) s.heap.size) s (cX Z ad u) H locs → lv_has ls 3 [(0, .ref (ad 0)), (1, .int (x1)), (2, .int (x2))] → W p l e rm_X_allPoints s m args below meth c H locs 0 0 (vx_MQ below (pQi Z (cX Z ad) (cX Z ad u0) s.heap.size post) (pX Z (cX Z ad) (cX Z ad u0) s.heap.size (fun _ _ => False)) args s 0 0 rm_X_allPoints.cells rm_X_allPoints.slots (va_A (cX Z ad u0) s.heap.size)) (F0 m 4 ls [])) (x1 : Int32) (x2 : Int32) (u : CT) (H : Heap) (locs : List Loc) (ls : Array Slot) (hw : WD Z (va_A (cX Z ad u0) s.heap.size) s (cX Z ad u) H locs) (hl : lv_has ls 3 [(0, .ref (ad 0)), (1, .int (x1)), (2, .int (x2))]) (h : q_X_allPoints_28 K4 x1 x2 u post) : W p l e rm_X_allPoints s m args below meth c H locs 0 0 (vx_MQ below (pQi Z (cX Z ad) (cX Z ad u0) s.heap.size post) (pX Z (cX Z ad) (cX Z ad u0) s.heap.size (fun _ _ => False)) args s 0 0 rm_X_allPoints.cells rm_X_allPoints.slots (va_A (cX Z ad u0) s.heap.size)) (F0 m 28 ls []) := by
  unfold q_X_allPoints_28 at h
  refine lv_iinc (v := (x2) + 1) (lv' := [(2, .int ((x2) + 1)), (0, .ref (ad 0)), (1, .int (x1))]) C.2.1 C.2.2.1 d_X_allPoints_28 hl (k := 2) rfl rfl (by decide) rfl (fun ls hl => ?_)
  refine lv_goto (tgt := 4) C.2.1 C.2.2.1 d_X_allPoints_31 (by decide) ?_
  exact hK4 (x1) ((x2) + 1) _ _ _ _ h hw (lv_sub hl [1, 2, 0] rfl)
def q_X_allPoints_4 (K4 : Int32 → Int32 → CT → Prop) (x1 : Int32) (x2 : Int32) (u : CT) (post : Int32 → CT → Prop) : Prop :=
  (((((192) : Int32)) ≤ (x2) → post (x1) (u)) ∧ (¬ (((192) : Int32)) ≤ (x2) → q_X_isCounted (x2) (u) (fun r1 u2 => (((r1) = 0 → q_X_allPoints_28 K4 (x1) (x2) (u2) post) ∧ (¬ (r1) = 0 → (vp_in (x2) 192 ∧ q_X_allPoints_28 K4 ((x1) + (x_pointCounts (u2) (x2).toNatClampNeg)) (x2) (u2) post))))))
set_option maxRecDepth 100000 in
theorem w_X_allPoints_4 {p : Program} {l : Launch} {e : Env} {s : State} {m : MethodId} {args : Array Value} {below : List Frame} {meth : Method} {c : Code} {Z : ZT} {ad : Nat → Nat} {u0 : CT} {post : Int32 → CT → Prop} {K4 : Int32 → Int32 → CT → Prop} (C : CX "CoderTables" b_X_allPoints 3 (some .int) Z (va_A (cX Z ad u0) s.heap.size) p l s m args meth c) (htab : ∀ x ∈ c.exceptionTable.toList, False) (hK4 : ∀ (x1 : Int32) (x2 : Int32) (u : CT) (H : Heap) (locs : List Loc) (ls : Array Slot), K4 x1 x2 u → WD Z (va_A (cX Z ad u0) s.heap.size) s (cX Z ad u) H locs → lv_has ls 3 [(0, .ref (ad 0)), (1, .int (x1)), (2, .int (x2))] → W p l e rm_X_allPoints s m args below meth c H locs 0 0 (vx_MQ below (pQi Z (cX Z ad) (cX Z ad u0) s.heap.size post) (pX Z (cX Z ad) (cX Z ad u0) s.heap.size (fun _ _ => False)) args s 0 0 rm_X_allPoints.cells rm_X_allPoints.slots (va_A (cX Z ad u0) s.heap.size)) (F0 m 4 ls [])) (x1 : Int32) (x2 : Int32) (u : CT) (H : Heap) (locs : List Loc) (ls : Array Slot) (hw : WD Z (va_A (cX Z ad u0) s.heap.size) s (cX Z ad u) H locs) (hl : lv_has ls 3 [(0, .ref (ad 0)), (1, .int (x1)), (2, .int (x2))]) (h : q_X_allPoints_4 K4 x1 x2 u post) : W p l e rm_X_allPoints s m args below meth c H locs 0 0 (vx_MQ below (pQi Z (cX Z ad) (cX Z ad u0) s.heap.size post) (pX Z (cX Z ad) (cX Z ad u0) s.heap.size (fun _ _ => False)) args s 0 0 rm_X_allPoints.cells rm_X_allPoints.slots (va_A (cX Z ad u0) s.heap.size)) (F0 m 4 ls []) := by
  unfold q_X_allPoints_4 at h
  refine lv_iload_n C.2.1 C.2.2.1 d_X_allPoints_4 rfl (lv_at hl 2 rfl) ?_
  refine lv_sipush (v := (192)) C.2.1 C.2.2.1 d_X_allPoints_5 (by decide) ?_
  refine lv_icmp_ge (tgt := 34) C.2.1 C.2.2.1 d_X_allPoints_8 (by decide) (fun c => ?_) (fun c => ?_)
  · have h := h.1 c
    refine lv_iload_n C.2.1 C.2.2.1 d_X_allPoints_34 rfl (lv_at hl 1 rfl) ?_
    exact g_iret C hw rfl h d_X_allPoints_35
  · have h := h.2 c
    refine lv_aload_n C.2.1 C.2.2.1 d_X_allPoints_11 rfl (lv_at hl 0 rfl) ?_
    refine lv_iload_n C.2.1 C.2.2.1 d_X_allPoints_12 rfl (lv_at hl 2 rfl) ?_
    refine k_X_224 C hw h ⟨Nat.le_of_ble_eq_true rfl, Nat.le_of_ble_eq_true rfl, Nat.le_of_ble_eq_true rfl, Nat.le_of_ble_eq_true rfl⟩ hl.1 (Nat.le_of_ble_eq_true rfl) d_X_allPoints_13 (fun r1 u2 H locs h hw => ?_)
    refine lv_if_eq (tgt := 28) C.2.1 C.2.2.1 d_X_allPoints_16 (by decide) (fun c => ?_) (fun c => ?_)
    · have h := h.1 c
      exact w_X_allPoints_28 C htab hK4 (x1) (x2) _ _ _ _ hw (lv_sub hl [0, 1, 2] rfl) h
    · have h := h.2 c
      refine lv_iload_n C.2.1 C.2.2.1 d_X_allPoints_19 rfl (lv_at hl 1 rfl) ?_
      refine lv_aload_n C.2.1 C.2.2.1 d_X_allPoints_20 rfl (lv_at hl 0 rfl) ?_
      refine r_X_16 C hw d_X_allPoints_21 ?_
      refine lv_iload_n C.2.1 C.2.2.1 d_X_allPoints_24 rfl (lv_at hl 2 rfl) ?_
      obtain ⟨hi, h⟩ := h
      refine al_X_1 C hw hi d_X_allPoints_25 ?_
      refine lv_iadd C.2.1 C.2.2.1 d_X_allPoints_26 ?_
      refine lv_istore_n (lv' := [(1, .int ((x1) + (x_pointCounts (u2) (x2).toNatClampNeg))), (0, .ref (ad 0)), (2, .int (x2))]) C.2.1 C.2.2.1 d_X_allPoints_27 rfl hl (by decide) rfl (fun ls hl => ?_)
      exact w_X_allPoints_28 C htab hK4 ((x1) + (x_pointCounts (u2) (x2).toNatClampNeg)) (x2) _ _ _ _ hw (lv_sub hl [1, 0, 2] rfl) h
def q_X_allPoints_4N : Nat → Int32 → Int32 → CT → (Int32 → CT → Prop) → Prop
  | 0 => fun _ _ _ _ => False
  | n + 1 => fun x1 x2 u post => q_X_allPoints_4 (fun x1 x2 u => q_X_allPoints_4N n x1 x2 u post) x1 x2 u post
theorem w_X_allPoints_4N {p : Program} {l : Launch} {e : Env} {s : State} {m : MethodId} {args : Array Value} {below : List Frame} {meth : Method} {c : Code} {Z : ZT} {ad : Nat → Nat} {u0 : CT} {post : Int32 → CT → Prop} (C : CX "CoderTables" b_X_allPoints 3 (some .int) Z (va_A (cX Z ad u0) s.heap.size) p l s m args meth c) (htab : ∀ x ∈ c.exceptionTable.toList, False) : ∀ (n : Nat) (x1 : Int32) (x2 : Int32) (u : CT) (H : Heap) (locs : List Loc) (ls : Array Slot), WD Z (va_A (cX Z ad u0) s.heap.size) s (cX Z ad u) H locs → lv_has ls 3 [(0, .ref (ad 0)), (1, .int (x1)), (2, .int (x2))] → q_X_allPoints_4N n x1 x2 u post → W p l e rm_X_allPoints s m args below meth c H locs 0 0 (vx_MQ below (pQi Z (cX Z ad) (cX Z ad u0) s.heap.size post) (pX Z (cX Z ad) (cX Z ad u0) s.heap.size (fun _ _ => False)) args s 0 0 rm_X_allPoints.cells rm_X_allPoints.slots (va_A (cX Z ad u0) s.heap.size)) (F0 m 4 ls []) := by
  intro n
  induction n with
  | zero => intro x1 x2 u H locs ls hw hl h; exact h.elim
  | succ n ih => intro x1 x2 u H locs ls hw hl h; exact w_X_allPoints_4 C htab (fun x1 x2 u H locs ls h hw hl => ih x1 x2 u H locs ls hw hl h) x1 x2 u H locs ls hw hl h
def q_X_allPoints (u : CT) (post : Int32 → CT → Prop) : Prop :=
  ∃ n, q_X_allPoints_4N n (((0) : Int32)) (((0) : Int32)) (u) post
set_option maxRecDepth 100000 in
theorem c_X_allPoints {l : Launch} {Z : ZT} {ad : Nat → Nat} {u : CT} {post : Int32 → CT → Prop} (hl0 : l.stackTraces = false) (h : q_X_allPoints u post) : ∀ sz, vx_Met l y_X_allPoints (Cond.code y_X_allPoints b_X_allPoints 3 (some .int) :: GW) rm_X_allPoints (pP Z [.ref (ad 0)] (cX Z ad u) sz) (pQi Z (cX Z ad) (cX Z ad u) sz post) (pX Z (cX Z ad) (cX Z ad u) sz (fun _ _ => False)) 0 0 rm_X_allPoints.cells rm_X_allPoints.slots (va_A (cX Z ad u) sz) := by
  refine g_ent (f := cX Z ad) (Qc := fun sz => pQi Z (cX Z ad) (cX Z ad u) sz post) (XC := fun sz => pX Z (cX Z ad) (cX Z ad u) sz (fun _ _ => False)) hl0 (by decide +kernel) (Nat.le_of_ble_eq_true rfl) ?_
  intro p e s m args below meth c ls C htab hw hl
  have hl : lv_has ls 3 [(0, .ref (ad 0))] := hl
  unfold q_X_allPoints at h
  refine lv_iconst (v := (0)) C.2.1 C.2.2.1 d_X_allPoints_0 (by decide) ?_
  refine lv_istore_n (lv' := [(1, .int (((0) : Int32))), (0, .ref (ad 0))]) C.2.1 C.2.2.1 d_X_allPoints_1 rfl hl (by decide) rfl (fun ls hl => ?_)
  refine lv_iconst (v := (0)) C.2.1 C.2.2.1 d_X_allPoints_2 (by decide) ?_
  refine lv_istore_n (lv' := [(2, .int (((0) : Int32))), (1, .int (((0) : Int32))), (0, .ref (ad 0))]) C.2.1 C.2.2.1 d_X_allPoints_3 rfl hl (by decide) rfl (fun ls hl => ?_)
  obtain ⟨n, h⟩ := h
  exact w_X_allPoints_4N C htab n (((0) : Int32)) (((0) : Int32)) _ _ _ _ hw (lv_sub hl [2, 1, 0] rfl) h
section KR
variable {own host : String} {cc bytes : ByteArray} {nL maxL index n : Nat} {rt0 rt : Option FieldType} {Z : ZT} {ad : Nat → Nat} {A : Nat → Prop}
variable {p : Program} {l : Launch} {e : Env} {R : Room} {s : State} {m : MethodId} {args : Array Value} {below : List Frame} {meth : Method} {c : Code} {H : Heap} {locs : List Loc} {cells slots : Nat} {Q : State → Prop} {rest : List Value} {pc : Nat} {ls : Array Slot}
theorem k_X_208 {u : CT} {post : Int32 → CT → Prop} (C : CX "CoderTables" cc nL rt0 Z A p l s m args meth c) (hw : WD Z A s (cX Z ad u) H locs) (h : q_X_allPoints u post) (hR : rmOk rm_X_allPoints 3 R cells slots) (hl : ls.size = nL) (hW : (rest.map fun v => v.category).sum ≤ 8) (hdg : decode cc pc = .ok (.invokevirtual 208, 3)) (kk : ∀ (r : Int32) (u' : CT) (H1 : Heap) (locs1 : List Loc), post r u' → WD Z A s (cX Z ad u') H1 locs1 → W p l e R s m args below meth c H1 locs1 cells slots Q (F0 m (pc + 3) ls (.int r :: rest))) : W p l e R s m args below meth c H locs cells slots Q (F0 m pc ls (.ref (ad 0) :: rest)) :=
  g_V0_i (n := 0) (f := cX Z ad) (As := []) C hw (c_X_allPoints C.1 h) ⟨w220, w222, w13, w53, w223, (by decide +kernel), (by decide +kernel), (by decide +kernel)⟩ hR 0 rfl rfl rfl hl rfl hW hdg (fun _ _ _ _ _ _ h => h.elim) kk
end KR
/-! CoderTables.allCounted()I -/
abbrev rm_X_allCounted : Room := { frames := 2, cells := 0, slots := 0, locals := 44 }
def q_X_allCounted_4 (K4 : Int32 → Int32 → CT → Prop) (x1 : Int32) (x2 : Int32) (u : CT) (post : Int32 → CT → Prop) : Prop :=
  (((x_coders (u)) ≤ (x2) → post (x1) (u)) ∧ (¬ (x_coders (u)) ≤ (x2) → q_X_countedOf (x2) (u) (fun r1 u2 => K4 ((x1) + (r1)) ((x2) + 1) (u2))))
set_option maxRecDepth 100000 in
theorem w_X_allCounted_4 {p : Program} {l : Launch} {e : Env} {s : State} {m : MethodId} {args : Array Value} {below : List Frame} {meth : Method} {c : Code} {Z : ZT} {ad : Nat → Nat} {u0 : CT} {post : Int32 → CT → Prop} {K4 : Int32 → Int32 → CT → Prop} (C : CX "CoderTables" b_X_allCounted 3 (some .int) Z (va_A (cX Z ad u0) s.heap.size) p l s m args meth c) (htab : ∀ x ∈ c.exceptionTable.toList, False) (hK4 : ∀ (x1 : Int32) (x2 : Int32) (u : CT) (H : Heap) (locs : List Loc) (ls : Array Slot), K4 x1 x2 u → WD Z (va_A (cX Z ad u0) s.heap.size) s (cX Z ad u) H locs → lv_has ls 3 [(0, .ref (ad 0)), (1, .int (x1)), (2, .int (x2))] → W p l e rm_X_allCounted s m args below meth c H locs 0 0 (vx_MQ below (pQi Z (cX Z ad) (cX Z ad u0) s.heap.size post) (pX Z (cX Z ad) (cX Z ad u0) s.heap.size (fun _ _ => False)) args s 0 0 rm_X_allCounted.cells rm_X_allCounted.slots (va_A (cX Z ad u0) s.heap.size)) (F0 m 4 ls [])) (x1 : Int32) (x2 : Int32) (u : CT) (H : Heap) (locs : List Loc) (ls : Array Slot) (hw : WD Z (va_A (cX Z ad u0) s.heap.size) s (cX Z ad u) H locs) (hl : lv_has ls 3 [(0, .ref (ad 0)), (1, .int (x1)), (2, .int (x2))]) (h : q_X_allCounted_4 K4 x1 x2 u post) : W p l e rm_X_allCounted s m args below meth c H locs 0 0 (vx_MQ below (pQi Z (cX Z ad) (cX Z ad u0) s.heap.size post) (pX Z (cX Z ad) (cX Z ad u0) s.heap.size (fun _ _ => False)) args s 0 0 rm_X_allCounted.cells rm_X_allCounted.slots (va_A (cX Z ad u0) s.heap.size)) (F0 m 4 ls []) := by
  unfold q_X_allCounted_4 at h
  refine lv_iload_n C.2.1 C.2.2.1 d_X_allCounted_4 rfl (lv_at hl 2 rfl) ?_
  refine lv_aload_n C.2.1 C.2.2.1 d_X_allCounted_5 rfl (lv_at hl 0 rfl) ?_
  refine r_X_9 C hw d_X_allCounted_6 ?_
  refine lv_icmp_ge (tgt := 26) C.2.1 C.2.2.1 d_X_allCounted_9 (by decide) (fun c => ?_) (fun c => ?_)
  · have h := h.1 c
    refine lv_iload_n C.2.1 C.2.2.1 d_X_allCounted_26 rfl (lv_at hl 1 rfl) ?_
    exact g_iret C hw rfl h d_X_allCounted_27
  · have h := h.2 c
    refine lv_iload_n C.2.1 C.2.2.1 d_X_allCounted_12 rfl (lv_at hl 1 rfl) ?_
    refine lv_aload_n C.2.1 C.2.2.1 d_X_allCounted_13 rfl (lv_at hl 0 rfl) ?_
    refine lv_iload_n C.2.1 C.2.2.1 d_X_allCounted_14 rfl (lv_at hl 2 rfl) ?_
    refine k_X_117 C hw h ⟨Nat.le_of_ble_eq_true rfl, Nat.le_of_ble_eq_true rfl, Nat.le_of_ble_eq_true rfl, Nat.le_of_ble_eq_true rfl⟩ hl.1 (Nat.le_of_ble_eq_true rfl) d_X_allCounted_15 (fun r1 u2 H locs h hw => ?_)
    refine lv_iadd C.2.1 C.2.2.1 d_X_allCounted_18 ?_
    refine lv_istore_n (lv' := [(1, .int ((x1) + (r1))), (0, .ref (ad 0)), (2, .int (x2))]) C.2.1 C.2.2.1 d_X_allCounted_19 rfl hl (by decide) rfl (fun ls hl => ?_)
    refine lv_iinc (v := (x2) + 1) (lv' := [(2, .int ((x2) + 1)), (1, .int ((x1) + (r1))), (0, .ref (ad 0))]) C.2.1 C.2.2.1 d_X_allCounted_20 hl (k := 2) rfl rfl (by decide) rfl (fun ls hl => ?_)
    refine lv_goto (tgt := 4) C.2.1 C.2.2.1 d_X_allCounted_23 (by decide) ?_
    exact hK4 ((x1) + (r1)) ((x2) + 1) _ _ _ _ h hw (lv_sub hl [2, 1, 0] rfl)
def q_X_allCounted_4N : Nat → Int32 → Int32 → CT → (Int32 → CT → Prop) → Prop
  | 0 => fun _ _ _ _ => False
  | n + 1 => fun x1 x2 u post => q_X_allCounted_4 (fun x1 x2 u => q_X_allCounted_4N n x1 x2 u post) x1 x2 u post
theorem w_X_allCounted_4N {p : Program} {l : Launch} {e : Env} {s : State} {m : MethodId} {args : Array Value} {below : List Frame} {meth : Method} {c : Code} {Z : ZT} {ad : Nat → Nat} {u0 : CT} {post : Int32 → CT → Prop} (C : CX "CoderTables" b_X_allCounted 3 (some .int) Z (va_A (cX Z ad u0) s.heap.size) p l s m args meth c) (htab : ∀ x ∈ c.exceptionTable.toList, False) : ∀ (n : Nat) (x1 : Int32) (x2 : Int32) (u : CT) (H : Heap) (locs : List Loc) (ls : Array Slot), WD Z (va_A (cX Z ad u0) s.heap.size) s (cX Z ad u) H locs → lv_has ls 3 [(0, .ref (ad 0)), (1, .int (x1)), (2, .int (x2))] → q_X_allCounted_4N n x1 x2 u post → W p l e rm_X_allCounted s m args below meth c H locs 0 0 (vx_MQ below (pQi Z (cX Z ad) (cX Z ad u0) s.heap.size post) (pX Z (cX Z ad) (cX Z ad u0) s.heap.size (fun _ _ => False)) args s 0 0 rm_X_allCounted.cells rm_X_allCounted.slots (va_A (cX Z ad u0) s.heap.size)) (F0 m 4 ls []) := by
  intro n
  induction n with
  | zero => intro x1 x2 u H locs ls hw hl h; exact h.elim
  | succ n ih => intro x1 x2 u H locs ls hw hl h; exact w_X_allCounted_4 C htab (fun x1 x2 u H locs ls h hw hl => ih x1 x2 u H locs ls hw hl h) x1 x2 u H locs ls hw hl h
def q_X_allCounted (u : CT) (post : Int32 → CT → Prop) : Prop :=
  ∃ n, q_X_allCounted_4N n (((0) : Int32)) (((0) : Int32)) (u) post
set_option maxRecDepth 100000 in
theorem c_X_allCounted {l : Launch} {Z : ZT} {ad : Nat → Nat} {u : CT} {post : Int32 → CT → Prop} (hl0 : l.stackTraces = false) (h : q_X_allCounted u post) : ∀ sz, vx_Met l y_X_allCounted (Cond.code y_X_allCounted b_X_allCounted 3 (some .int) :: GW) rm_X_allCounted (pP Z [.ref (ad 0)] (cX Z ad u) sz) (pQi Z (cX Z ad) (cX Z ad u) sz post) (pX Z (cX Z ad) (cX Z ad u) sz (fun _ _ => False)) 0 0 rm_X_allCounted.cells rm_X_allCounted.slots (va_A (cX Z ad u) sz) := by
  refine g_ent (f := cX Z ad) (Qc := fun sz => pQi Z (cX Z ad) (cX Z ad u) sz post) (XC := fun sz => pX Z (cX Z ad) (cX Z ad u) sz (fun _ _ => False)) hl0 (by decide +kernel) (Nat.le_of_ble_eq_true rfl) ?_
  intro p e s m args below meth c ls C htab hw hl
  have hl : lv_has ls 3 [(0, .ref (ad 0))] := hl
  unfold q_X_allCounted at h
  refine lv_iconst (v := (0)) C.2.1 C.2.2.1 d_X_allCounted_0 (by decide) ?_
  refine lv_istore_n (lv' := [(1, .int (((0) : Int32))), (0, .ref (ad 0))]) C.2.1 C.2.2.1 d_X_allCounted_1 rfl hl (by decide) rfl (fun ls hl => ?_)
  refine lv_iconst (v := (0)) C.2.1 C.2.2.1 d_X_allCounted_2 (by decide) ?_
  refine lv_istore_n (lv' := [(2, .int (((0) : Int32))), (1, .int (((0) : Int32))), (0, .ref (ad 0))]) C.2.1 C.2.2.1 d_X_allCounted_3 rfl hl (by decide) rfl (fun ls hl => ?_)
  obtain ⟨n, h⟩ := h
  exact w_X_allCounted_4N C htab n (((0) : Int32)) (((0) : Int32)) _ _ _ _ hw (lv_sub hl [2, 1, 0] rfl) h
section KR
variable {own host : String} {cc bytes : ByteArray} {nL maxL index n : Nat} {rt0 rt : Option FieldType} {Z : ZT} {ad : Nat → Nat} {A : Nat → Prop}
variable {p : Program} {l : Launch} {e : Env} {R : Room} {s : State} {m : MethodId} {args : Array Value} {below : List Frame} {meth : Method} {c : Code} {H : Heap} {locs : List Loc} {cells slots : Nat} {Q : State → Prop} {rest : List Value} {pc : Nat} {ls : Array Slot}
theorem k_X_212 {u : CT} {post : Int32 → CT → Prop} (C : CX "CoderTables" cc nL rt0 Z A p l s m args meth c) (hw : WD Z A s (cX Z ad u) H locs) (h : q_X_allCounted u post) (hR : rmOk rm_X_allCounted 3 R cells slots) (hl : ls.size = nL) (hW : (rest.map fun v => v.category).sum ≤ 8) (hdg : decode cc pc = .ok (.invokevirtual 212, 3)) (kk : ∀ (r : Int32) (u' : CT) (H1 : Heap) (locs1 : List Loc), post r u' → WD Z A s (cX Z ad u') H1 locs1 → W p l e R s m args below meth c H1 locs1 cells slots Q (F0 m (pc + 3) ls (.int r :: rest))) : W p l e R s m args below meth c H locs cells slots Q (F0 m pc ls (.ref (ad 0) :: rest)) :=
  g_V0_i (n := 0) (f := cX Z ad) (As := []) C hw (c_X_allCounted C.1 h) ⟨w224, w226, w14, w53, w227, (by decide +kernel), (by decide +kernel), (by decide +kernel)⟩ hR 0 rfl rfl rfl hl rfl hW hdg (fun _ _ _ _ _ _ h => h.elim) kk
end KR
/-! CoderTables.told(I)I -/
abbrev rm_X_told : Room := { frames := 3, cells := 0, slots := 0, locals := 66 }
def q_X_told (p1 : Int32) (u : CT) (post : Int32 → CT → Prop) : Prop :=
  (((p1).toInt < 0 ∨ 3 < (p1).toInt → post (((-1) : Int32)) (u)) ∧ (¬ ((p1).toInt < 0 ∨ 3 < (p1).toInt) → (((p1).toInt = 0 → post (x_coders (u)) (u)) ∧ ((p1).toInt = 1 → post (x_pictures (u)) (u)) ∧ ((p1).toInt = 2 → q_X_allPoints  (u) (fun r1 u2 => post (r1) (u2))) ∧ ((p1).toInt = 3 → q_X_allCounted  (u) (fun r3 u4 => post (r3) (u4))))))
set_option maxRecDepth 100000 in
theorem c_X_told {l : Launch} {Z : ZT} {ad : Nat → Nat} {u : CT} {post : Int32 → CT → Prop} {p1 : Int32} (hl0 : l.stackTraces = false) (h : q_X_told p1 u post) : ∀ sz, vx_Met l y_X_told (Cond.code y_X_told b_X_told 2 (some .int) :: GW) rm_X_told (pP Z [.ref (ad 0), .int (p1)] (cX Z ad u) sz) (pQi Z (cX Z ad) (cX Z ad u) sz post) (pX Z (cX Z ad) (cX Z ad u) sz (fun _ _ => False)) 0 0 rm_X_told.cells rm_X_told.slots (va_A (cX Z ad u) sz) := by
  refine g_ent (f := cX Z ad) (Qc := fun sz => pQi Z (cX Z ad) (cX Z ad u) sz post) (XC := fun sz => pX Z (cX Z ad) (cX Z ad u) sz (fun _ _ => False)) hl0 (by decide +kernel) (Nat.le_of_ble_eq_true rfl) ?_
  intro p e s m args below meth c ls C htab hw hl
  have hl : lv_has ls 2 [(0, .ref (ad 0)), (1, .int (p1))] := hl
  unfold q_X_told at h
  refine lv_iload_n C.2.1 C.2.2.1 d_X_told_0 rfl (lv_at hl 1 rfl) ?_
  by_cases hsw : (p1).toInt < 0 ∨ 3 < (p1).toInt
  · have h := h.1 hsw
    refine lv_tableOut (tgt := 52) C.2.1 C.2.2.1 d_X_told_1 hsw (by decide) ?_
    refine lv_iconst (v := (-1)) C.2.1 C.2.2.1 d_X_told_52 (by decide) ?_
    exact g_iret C hw rfl h d_X_told_53
  · have h := h.2 hsw
    obtain ⟨k, hk1, hk2⟩ : ∃ k : Nat, k < 4 ∧ (p1).toInt = 0 + (k : Int) := ⟨((p1).toInt - 0).toNat, by omega, by omega⟩
    rcases (show k = 0 ∨ k = 1 ∨ k = 2 ∨ k = 3 by omega) with hk3 | hk3 | hk3 | hk3
    · have h := h.1 (by omega)
      refine lv_tableIn (off := 31) (tgt := 32) C.2.1 C.2.2.1 d_X_told_1 (by omega) (by omega) (by rw [show (((p1).toInt - 0).toNat) = 0 by omega]; rfl) (by decide) ?_
      refine lv_aload_n C.2.1 C.2.2.1 d_X_told_32 rfl (lv_at hl 0 rfl) ?_
      refine r_X_9 C hw d_X_told_33 ?_
      exact g_iret C hw rfl h d_X_told_36
    · have h := h.2.1 (by omega)
      refine lv_tableIn (off := 36) (tgt := 37) C.2.1 C.2.2.1 d_X_told_1 (by omega) (by omega) (by rw [show (((p1).toInt - 0).toNat) = 1 by omega]; rfl) (by decide) ?_
      refine lv_aload_n C.2.1 C.2.2.1 d_X_told_37 rfl (lv_at hl 0 rfl) ?_
      refine r_X_13 C hw d_X_told_38 ?_
      exact g_iret C hw rfl h d_X_told_41
    · have h := h.2.2.1 (by omega)
      refine lv_tableIn (off := 41) (tgt := 42) C.2.1 C.2.2.1 d_X_told_1 (by omega) (by omega) (by rw [show (((p1).toInt - 0).toNat) = 2 by omega]; rfl) (by decide) ?_
      refine lv_aload_n C.2.1 C.2.2.1 d_X_told_42 rfl (lv_at hl 0 rfl) ?_
      refine k_X_208 C hw h ⟨Nat.le_of_ble_eq_true rfl, Nat.le_of_ble_eq_true rfl, Nat.le_of_ble_eq_true rfl, Nat.le_of_ble_eq_true rfl⟩ hl.1 (Nat.le_of_ble_eq_true rfl) d_X_told_43 (fun r1 u2 H locs h hw => ?_)
      exact g_iret C hw rfl h d_X_told_46
    · have h := h.2.2.2 (by omega)
      refine lv_tableIn (off := 46) (tgt := 47) C.2.1 C.2.2.1 d_X_told_1 (by omega) (by omega) (by rw [show (((p1).toInt - 0).toNat) = 3 by omega]; rfl) (by decide) ?_
      refine lv_aload_n C.2.1 C.2.2.1 d_X_told_47 rfl (lv_at hl 0 rfl) ?_
      refine k_X_212 C hw h ⟨Nat.le_of_ble_eq_true rfl, Nat.le_of_ble_eq_true rfl, Nat.le_of_ble_eq_true rfl, Nat.le_of_ble_eq_true rfl⟩ hl.1 (Nat.le_of_ble_eq_true rfl) d_X_told_48 (fun r3 u4 H locs h hw => ?_)
      exact g_iret C hw rfl h d_X_told_51
/-! CoderTables.clear()V -/
abbrev rm_X_clear : Room := { frames := 1, cells := 0, slots := 0, locals := 21 }
def q_X_clear (u : CT) (post : CT → Prop) : Prop :=
  q_X_emptyPairs  (x_pictures_s (x_coders_s (u) (((0) : Int32))) (((0) : Int32))) (fun u2 => q_L_start  (u2) (fun u4 => post (u4)))
set_option maxRecDepth 100000 in
theorem c_X_clear {l : Launch} {Z : ZT} {ad : Nat → Nat} {u : CT} {post : CT → Prop} (hl0 : l.stackTraces = false) (h : q_X_clear u post) : ∀ sz, vx_Met l y_X_clear (Cond.code y_X_clear b_X_clear 1 none :: GW) rm_X_clear (pP Z [.ref (ad 0)] (cX Z ad u) sz) (pQv Z (cX Z ad) (cX Z ad u) sz post) (pX Z (cX Z ad) (cX Z ad u) sz (fun _ _ => False)) 0 0 rm_X_clear.cells rm_X_clear.slots (va_A (cX Z ad u) sz) := by
  refine g_ent (f := cX Z ad) (Qc := fun sz => pQv Z (cX Z ad) (cX Z ad u) sz post) (XC := fun sz => pX Z (cX Z ad) (cX Z ad u) sz (fun _ _ => False)) hl0 (by decide +kernel) (Nat.le_of_ble_eq_true rfl) ?_
  intro p e s m args below meth c ls C htab hw hl
  have hl : lv_has ls 1 [(0, .ref (ad 0))] := hl
  unfold q_X_clear at h
  refine lv_aload_n C.2.1 C.2.2.1 d_X_clear_0 rfl (lv_at hl 0 rfl) ?_
  refine lv_iconst (v := (0)) C.2.1 C.2.2.1 d_X_clear_1 (by decide) ?_
  refine s_X_9 C hw d_X_clear_2 (fun H locs hw => ?_)
  refine lv_aload_n C.2.1 C.2.2.1 d_X_clear_5 rfl (lv_at hl 0 rfl) ?_
  refine lv_iconst (v := (0)) C.2.1 C.2.2.1 d_X_clear_6 (by decide) ?_
  refine s_X_13 C hw d_X_clear_7 (fun H locs hw => ?_)
  refine lv_aload_n C.2.1 C.2.2.1 d_X_clear_10 rfl (lv_at hl 0 rfl) ?_
  refine k_X_184 C hw h ⟨Nat.le_of_ble_eq_true rfl, Nat.le_of_ble_eq_true rfl, Nat.le_of_ble_eq_true rfl, Nat.le_of_ble_eq_true rfl⟩ hl.1 (Nat.le_of_ble_eq_true rfl) d_X_clear_11 (fun u2 H locs h hw => ?_)
  refine lv_aload_n C.2.1 C.2.2.1 d_X_clear_14 rfl (lv_at hl 0 rfl) ?_
  refine r_X_57 C hw d_X_clear_15 ?_
  refine k_X_190 C hw h ⟨Nat.le_of_ble_eq_true rfl, Nat.le_of_ble_eq_true rfl, Nat.le_of_ble_eq_true rfl, Nat.le_of_ble_eq_true rfl⟩ hl.1 (Nat.le_of_ble_eq_true rfl) d_X_clear_18 (fun u4 H locs h hw => ?_)
  exact g_vret C hw h d_X_clear_21
